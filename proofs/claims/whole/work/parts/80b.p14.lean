-- X13_readsRule
set_option maxRecDepth 20000 in
theorem zg_203_J116 {Γ : jb_G} {L : Nat} {d : Nat} (hd : 7 ≤ d) (M : jb_Mi) (N : jb_Ml) {v : Option Value} {σ2 : jb_S} {r : (Bool × jb_Mi)} (h : zf_203_J116 M = some r) (hK : (fun r : Bool × jb_Mi => v = some (.int (jb_b2i r.1)) ∧ σ2 = (zE L, r.2, N)) r) : jb_V Γ d zq_203 116 [some (.ref 79), none] [] (zE L, M, N) v σ2 := by
  obtain ⟨d, rfl⟩ : ∃ e, d = e + 1 := ⟨d - 1, by omega⟩
  unfold zf_203_J116 at h
  obtain ⟨g4, h⟩ := jb_gd_of h
  refine jb_seg 8 (pc' := 130) (ls' := [some (.ref 79), none]) (st' := [(.ref 79)]) (σ' := (zE L, (jb_up M 88 ((M 79 12)).toNatClampNeg (M 79 10)), N)) (G := [vp_in (M 79 12) 16]) rfl g4 ?_
  obtain ⟨q5, h5, h⟩ := jb_bd_of h
  refine jb_callV (q' := zq_202) (As := []) (rest := []) (σ1 := (zE L, q5.2, N)) (v := some (.int (jb_b2i q5.1))) rfl rfl zp_202 rfl (Nat.le_of_ble_eq_true rfl) (jb_cat rfl) (Nat.le_of_ble_eq_true rfl) (Nat.le_of_ble_eq_true rfl) (Or.inl rfl) rfl (ze_202 (by omega) (jb_up M 88 ((M 79 12)).toNatClampNeg (M 79 10)) N h5) ?_
  refine jb_seg 1 (pc' := (if (jb_b2i q5.1) = 0 then 136 else 138)) (ls' := [some (.ref 79), none]) (st' := []) (σ' := (zE L, q5.2, N)) (G := []) rfl trivial ?_
  refine jb_ite (fun c => ?_) (fun c => ?_)
  · replace h := (if_pos c).symm.trans h
    refine jb_seg 1 (pc' := 137) (ls' := [some (.ref 79), none]) (st' := [(.int 0)]) (σ' := (zE L, q5.2, N)) (G := []) rfl trivial ?_
    obtain rfl := Option.some.inj h
    obtain ⟨rfl, rfl⟩ := hK
    exact jb_retz (by decide) rfl rfl
  · replace h := (if_neg c).symm.trans h
    obtain ⟨g6, h⟩ := jb_gd_of h
    refine jb_seg 14 (pc' := 162) (ls' := [some (.ref 79), none]) (st' := [(.int 1)]) (σ' := (zE L, (jb_up (jb_up q5.2 89 ((q5.2 79 12)).toNatClampNeg (q5.2 79 10)) 79 12 (((jb_up q5.2 89 ((q5.2 79 12)).toNatClampNeg (q5.2 79 10)) 79 12) + 1)), N)) (G := [vp_in (q5.2 79 12) 16]) rfl g6 ?_
    obtain rfl := Option.some.inj h
    obtain ⟨rfl, rfl⟩ := hK
    exact jb_retz (by decide) rfl rfl
set_option maxRecDepth 20000 in
theorem zg_203_J39 {Γ : jb_G} {L : Nat} {d : Nat} (hd : 7 ≤ d) (x1 : Int32) (M : jb_Mi) (N : jb_Ml) {v : Option Value} {σ2 : jb_S} {r : (Bool × jb_Mi)} (h : zf_203_J39 x1 M = some r) (hK : (fun r : Bool × jb_Mi => v = some (.int (jb_b2i r.1)) ∧ σ2 = (zE L, r.2, N)) r) : jb_V Γ d zq_203 39 [some (.ref 79), some (.int x1)] [] (zE L, M, N) v σ2 := by
  obtain ⟨d, rfl⟩ : ∃ e, d = e + 1 := ⟨d - 1, by omega⟩
  unfold zf_203_J39 at h
  refine jb_seg 4 (pc' := (if (M 79 12) = 16 then 48 else 58)) (ls' := [some (.ref 79), some (.int x1)]) (st' := []) (σ' := (zE L, M, N)) (G := []) rfl trivial ?_
  refine jb_ite (fun c => ?_) (fun c => ?_)
  · replace h := (if_pos c).symm.trans h
    refine jb_seg 4 (pc' := 54) (ls' := [some (.ref 79), some (.int x1)]) (st' := [(.int (M 79 5)), (.int 4), (.ref 79)]) (σ' := (zE L, M, N)) (G := []) rfl trivial ?_
    refine jb_callV (q' := zq_186) (As := [(.int 4), (.int (M 79 5))]) (rest := []) (σ1 := (zE L, (zf_186 4 (M 79 5) M).2, N)) (v := some (.int (jb_b2i (zf_186 4 (M 79 5) M).1))) rfl rfl zp_186 rfl (Nat.le_of_ble_eq_true rfl) (jb_cat rfl) (Nat.le_of_ble_eq_true rfl) (Nat.le_of_ble_eq_true rfl) (Or.inl rfl) rfl (ze_186 4 (M 79 5) M N rfl) ?_
    obtain rfl := Option.some.inj h
    obtain ⟨rfl, rfl⟩ := hK
    exact jb_retz (jb_b2i_or _) rfl rfl
  · replace h := (if_neg c).symm.trans h
    obtain ⟨g2, h⟩ := jb_gd_of h
    obtain ⟨g3, h⟩ := jb_gd_of h
    refine jb_seg 28 (pc' := (if x1 = 120 then 116 else 107)) (ls' := [some (.ref 79), some (.int x1)]) (st' := []) (σ' := (zE L, (jb_up (jb_up (jb_up (jb_up (jb_up M 86 ((M 79 12)).toNatClampNeg x1) 79 5 (((jb_up M 86 ((M 79 12)).toNatClampNeg x1) 79 5) + 1)) 87 (((jb_up (jb_up M 86 ((M 79 12)).toNatClampNeg x1) 79 5 (((jb_up M 86 ((M 79 12)).toNatClampNeg x1) 79 5) + 1)) 79 12)).toNatClampNeg ((jb_up (jb_up M 86 ((M 79 12)).toNatClampNeg x1) 79 5 (((jb_up M 86 ((M 79 12)).toNatClampNeg x1) 79 5) + 1)) 79 10)) 79 9 0) 79 11 0), N)) (G := [vp_in (M 79 12) 16, vp_in ((jb_up (jb_up M 86 ((M 79 12)).toNatClampNeg x1) 79 5 (((jb_up M 86 ((M 79 12)).toNatClampNeg x1) 79 5) + 1)) 79 12) 16]) rfl ⟨g2, g3⟩ ?_
    refine jb_ite (fun c => ?_) (fun c => ?_)
    · replace h := (if_pos c).symm.trans h
      exact jb_mask [true, false] rfl (zg_203_J116 hd (jb_up (jb_up (jb_up (jb_up (jb_up M 86 ((M 79 12)).toNatClampNeg x1) 79 5 (((jb_up M 86 ((M 79 12)).toNatClampNeg x1) 79 5) + 1)) 87 (((jb_up (jb_up M 86 ((M 79 12)).toNatClampNeg x1) 79 5 (((jb_up M 86 ((M 79 12)).toNatClampNeg x1) 79 5) + 1)) 79 12)).toNatClampNeg ((jb_up (jb_up M 86 ((M 79 12)).toNatClampNeg x1) 79 5 (((jb_up M 86 ((M 79 12)).toNatClampNeg x1) 79 5) + 1)) 79 10)) 79 9 0) 79 11 0) N h hK)
    · replace h := (if_neg c).symm.trans h
      refine jb_seg 1 (pc' := 108) (ls' := [some (.ref 79), some (.int x1)]) (st' := [(.ref 79)]) (σ' := (zE L, (jb_up (jb_up (jb_up (jb_up (jb_up M 86 ((M 79 12)).toNatClampNeg x1) 79 5 (((jb_up M 86 ((M 79 12)).toNatClampNeg x1) 79 5) + 1)) 87 (((jb_up (jb_up M 86 ((M 79 12)).toNatClampNeg x1) 79 5 (((jb_up M 86 ((M 79 12)).toNatClampNeg x1) 79 5) + 1)) 79 12)).toNatClampNeg ((jb_up (jb_up M 86 ((M 79 12)).toNatClampNeg x1) 79 5 (((jb_up M 86 ((M 79 12)).toNatClampNeg x1) 79 5) + 1)) 79 10)) 79 9 0) 79 11 0), N)) (G := []) rfl trivial ?_
      obtain ⟨q7, h7, h⟩ := jb_bd_of h
      refine jb_callV (q' := zq_197) (As := []) (rest := []) (σ1 := (zE L, q7.2, N)) (v := some (.int (jb_b2i q7.1))) rfl rfl zp_197 rfl (Nat.le_of_ble_eq_true rfl) (jb_cat rfl) (Nat.le_of_ble_eq_true rfl) (Nat.le_of_ble_eq_true rfl) (Or.inl rfl) rfl (ze_197 (by omega) (jb_up (jb_up (jb_up (jb_up (jb_up M 86 ((M 79 12)).toNatClampNeg x1) 79 5 (((jb_up M 86 ((M 79 12)).toNatClampNeg x1) 79 5) + 1)) 87 (((jb_up (jb_up M 86 ((M 79 12)).toNatClampNeg x1) 79 5 (((jb_up M 86 ((M 79 12)).toNatClampNeg x1) 79 5) + 1)) 79 12)).toNatClampNeg ((jb_up (jb_up M 86 ((M 79 12)).toNatClampNeg x1) 79 5 (((jb_up M 86 ((M 79 12)).toNatClampNeg x1) 79 5) + 1)) 79 10)) 79 9 0) 79 11 0) N h7) ?_
      refine jb_seg 1 (pc' := (if (jb_b2i q7.1) = 0 then 114 else 116)) (ls' := [some (.ref 79), some (.int x1)]) (st' := []) (σ' := (zE L, q7.2, N)) (G := []) rfl trivial ?_
      refine jb_ite (fun c => ?_) (fun c => ?_)
      · replace h := (if_pos c).symm.trans h
        refine jb_seg 1 (pc' := 115) (ls' := [some (.ref 79), some (.int x1)]) (st' := [(.int 0)]) (σ' := (zE L, q7.2, N)) (G := []) rfl trivial ?_
        obtain rfl := Option.some.inj h
        obtain ⟨rfl, rfl⟩ := hK
        exact jb_retz (by decide) rfl rfl
      · replace h := (if_neg c).symm.trans h
        exact jb_mask [true, false] rfl (zg_203_J116 hd q7.2 N h hK)
set_option maxRecDepth 20000 in
theorem zg_203 {Γ : jb_G} {L : Nat} {d : Nat} (hd : 7 ≤ d) (M : jb_Mi) (N : jb_Ml) {v : Option Value} {σ2 : jb_S} {r : (Bool × jb_Mi)} (h : zf_203 M = some r) (hK : (fun r : Bool × jb_Mi => v = some (.int (jb_b2i r.1)) ∧ σ2 = (zE L, r.2, N)) r) : jb_V Γ d zq_203 0 [some (.ref 79), none] [] (zE L, M, N) v σ2 := by
  obtain ⟨d, rfl⟩ : ∃ e, d = e + 1 := ⟨d - 1, by omega⟩
  unfold zf_203 at h
  refine jb_seg 1 (pc' := 1) (ls' := [some (.ref 79), none]) (st' := [(.ref 79)]) (σ' := (zE L, M, N)) (G := []) rfl trivial ?_
  obtain ⟨q1, h1, h⟩ := jb_bd_of h
  refine jb_callV (q' := zq_184) (As := []) (rest := []) (σ1 := (zE L, M, N)) (v := some (.int q1)) rfl rfl zp_184 rfl (Nat.le_of_ble_eq_true rfl) (jb_cat rfl) (Nat.le_of_ble_eq_true rfl) (Nat.le_of_ble_eq_true rfl) (Or.inl rfl) rfl (ze_184 M N h1) ?_
  refine jb_seg 4 (pc' := (if q1 = 116 then 39 else 11)) (ls' := [some (.ref 79), some (.int q1)]) (st' := []) (σ' := (zE L, M, N)) (G := []) rfl trivial ?_
  refine jb_ite (fun c => ?_) (fun c => ?_)
  · replace h := (if_pos c).symm.trans h
    exact jb_mask [true, true] rfl (zg_203_J39 hd q1 M N h hK)
  · replace h := (if_neg c).symm.trans h
    refine jb_seg 3 (pc' := (if q1 = 121 then 39 else 17)) (ls' := [some (.ref 79), some (.int q1)]) (st' := []) (σ' := (zE L, M, N)) (G := []) rfl trivial ?_
    refine jb_ite (fun c => ?_) (fun c => ?_)
    · replace h := (if_pos c).symm.trans h
      exact jb_mask [true, true] rfl (zg_203_J39 hd q1 M N h hK)
    · replace h := (if_neg c).symm.trans h
      refine jb_seg 3 (pc' := (if q1 = 100 then 39 else 23)) (ls' := [some (.ref 79), some (.int q1)]) (st' := []) (σ' := (zE L, M, N)) (G := []) rfl trivial ?_
      refine jb_ite (fun c => ?_) (fun c => ?_)
      · replace h := (if_pos c).symm.trans h
        exact jb_mask [true, true] rfl (zg_203_J39 hd q1 M N h hK)
      · replace h := (if_neg c).symm.trans h
        refine jb_seg 3 (pc' := (if q1 = 120 then 39 else 29)) (ls' := [some (.ref 79), some (.int q1)]) (st' := []) (σ' := (zE L, M, N)) (G := []) rfl trivial ?_
        refine jb_ite (fun c => ?_) (fun c => ?_)
        · replace h := (if_pos c).symm.trans h
          exact jb_mask [true, true] rfl (zg_203_J39 hd q1 M N h hK)
        · replace h := (if_neg c).symm.trans h
          refine jb_seg 4 (pc' := 35) (ls' := [some (.ref 79), some (.int q1)]) (st' := [(.int (M 79 5)), (.int 1), (.ref 79)]) (σ' := (zE L, M, N)) (G := []) rfl trivial ?_
          refine jb_callV (q' := zq_186) (As := [(.int 1), (.int (M 79 5))]) (rest := []) (σ1 := (zE L, (zf_186 1 (M 79 5) M).2, N)) (v := some (.int (jb_b2i (zf_186 1 (M 79 5) M).1))) rfl rfl zp_186 rfl (Nat.le_of_ble_eq_true rfl) (jb_cat rfl) (Nat.le_of_ble_eq_true rfl) (Nat.le_of_ble_eq_true rfl) (Or.inl rfl) rfl (ze_186 1 (M 79 5) M N rfl) ?_
          obtain rfl := Option.some.inj h
          obtain ⟨rfl, rfl⟩ := hK
          exact jb_retz (jb_b2i_or _) rfl rfl
theorem ze_203 {Γ : jb_G} {L : Nat} {d : Nat} (hd : 7 ≤ d) (M : jb_Mi) (N : jb_Ml) {r : (Bool × jb_Mi)} (h : zf_203 M = some r) : jb_V Γ d zq_203 0 (jb_en 2 [(.ref 79)]) [] (zE L, M, N) (some (.int (jb_b2i r.1))) (zE L, r.2, N) := zg_203 hd M N h ⟨rfl, rfl⟩
-- X13_beginsText
set_option maxRecDepth 20000 in
theorem zg_204 {Γ : jb_G} {L : Nat} {d : Nat} (x1 : Int32) (M : jb_Mi) (N : jb_Ml) {v : Option Value} {σ2 : jb_S} {r : jb_Mi} (h : zf_204 x1 M = r) (hK : (fun r : jb_Mi => v = none ∧ σ2 = (zE L, r, N)) r) : jb_V Γ d zq_204 0 [some (.ref 79), some (.int x1)] [] (zE L, M, N) v σ2 := by
  unfold zf_204 at h
  refine jb_seg 12 (pc' := 20) (ls' := [some (.ref 79), some (.int x1)]) (st' := []) (σ' := (zE L, (jb_up (jb_up (jb_up (jb_up M 79 5 0) 79 6 x1) 79 10 0) 79 12 0), N)) (G := []) rfl trivial ?_
  subst h
  obtain ⟨rfl, rfl⟩ := hK
  exact jb_retv rfl rfl
theorem ze_204 {Γ : jb_G} {L : Nat} {d : Nat} (x1 : Int32) (M : jb_Mi) (N : jb_Ml) {r : jb_Mi} (h : zf_204 x1 M = r) : jb_V Γ d zq_204 0 (jb_en 2 [(.ref 79), (.int x1)]) [] (zE L, M, N) (none) (zE L, r, N) := zg_204 x1 M N h ⟨rfl, rfl⟩
-- X13_law
set_option maxRecDepth 20000 in
theorem zg_205_H123 {Γ : jb_G} {L : Nat} {d : Nat} (hd : 8 ≤ d) (N : jb_Ml) (s : Int32 × jb_Mi) {v : Option Value} {σ2 : jb_S} {r : ((Int32 × jb_Mi) ⊕ (Int32 × jb_Mi))} (h : zf_205_H123 s = some r) (hK : (jb_K (fun s : Int32 × jb_Mi => jb_V Γ d zq_205 123 [some (.ref 79), none, none, some (.int s.1)] [] (zE L, s.2, N) v σ2) (fun r : Int32 × jb_Mi => v = some (.int r.1) ∧ σ2 = (zE L, r.2, N))) r) : jb_V Γ d zq_205 123 [some (.ref 79), none, none, some (.int s.1)] [] (zE L, s.2, N) v σ2 := by
  obtain ⟨d, rfl⟩ : ∃ e, d = e + 1 := ⟨d - 1, by omega⟩
  unfold zf_205_H123 at h
  refine jb_seg 4 (pc' := (if s.1 < (s.2 79 12) then 131 else 185)) (ls' := [some (.ref 79), none, none, some (.int s.1)]) (st' := []) (σ' := (zE L, s.2, N)) (G := []) rfl trivial ?_
  refine jb_ite (fun c => ?_) (fun c => ?_)
  · replace h := (if_pos c).symm.trans h
    obtain ⟨g4, h⟩ := jb_gd_of h
    obtain ⟨g5, h⟩ := jb_gd_of h
    obtain ⟨g6, h⟩ := jb_gd_of h
    obtain ⟨g7, h⟩ := jb_gd_of h
    obtain ⟨g8, h⟩ := jb_gd_of h
    obtain ⟨g9, h⟩ := jb_gd_of h
    obtain ⟨g10, h⟩ := jb_gd_of h
    obtain ⟨g11, h⟩ := jb_gd_of h
    refine jb_seg 34 (pc' := 123) (ls' := [some (.ref 79), none, none, some (.int (s.1 + 1))]) (st' := []) (σ' := (zE L, (jb_up (jb_up (jb_up (jb_up s.2 91 (s.1).toNatClampNeg (s.2 86 (s.1).toNatClampNeg)) 92 (s.1).toNatClampNeg ((jb_up s.2 91 (s.1).toNatClampNeg (s.2 86 (s.1).toNatClampNeg)) 87 (s.1).toNatClampNeg)) 93 (s.1).toNatClampNeg ((jb_up (jb_up s.2 91 (s.1).toNatClampNeg (s.2 86 (s.1).toNatClampNeg)) 92 (s.1).toNatClampNeg ((jb_up s.2 91 (s.1).toNatClampNeg (s.2 86 (s.1).toNatClampNeg)) 87 (s.1).toNatClampNeg)) 88 (s.1).toNatClampNeg)) 94 (s.1).toNatClampNeg ((jb_up (jb_up (jb_up s.2 91 (s.1).toNatClampNeg (s.2 86 (s.1).toNatClampNeg)) 92 (s.1).toNatClampNeg ((jb_up s.2 91 (s.1).toNatClampNeg (s.2 86 (s.1).toNatClampNeg)) 87 (s.1).toNatClampNeg)) 93 (s.1).toNatClampNeg ((jb_up (jb_up s.2 91 (s.1).toNatClampNeg (s.2 86 (s.1).toNatClampNeg)) 92 (s.1).toNatClampNeg ((jb_up s.2 91 (s.1).toNatClampNeg (s.2 86 (s.1).toNatClampNeg)) 87 (s.1).toNatClampNeg)) 88 (s.1).toNatClampNeg)) 89 (s.1).toNatClampNeg)), N)) (G := [vp_in s.1 16, vp_in s.1 16, vp_in s.1 16, vp_in s.1 16, vp_in s.1 16, vp_in s.1 16, vp_in s.1 16, vp_in s.1 16]) rfl ⟨g4, g5, g6, g7, g8, g9, g10, g11⟩ ?_
    obtain rfl := Option.some.inj h
    exact jb_mask [true, false, false, true] rfl hK
  · replace h := (if_neg c).symm.trans h
    refine jb_seg 2 (pc' := 189) (ls' := [some (.ref 79), none, none, some (.int s.1)]) (st' := [(.int (s.2 79 12))]) (σ' := (zE L, s.2, N)) (G := []) rfl trivial ?_
    obtain rfl := Option.some.inj h
    obtain ⟨rfl, rfl⟩ := hK
    exact jb_reti rfl rfl
theorem zg_205_H123L {Γ : jb_G} {L : Nat} {d : Nat} (hd : 8 ≤ d) (N : jb_Ml) {v : Option Value} {σ2 : jb_S} {s : Int32 × jb_Mi} {r : (Int32 × jb_Mi)} (h : jb_lp (zf_205_H123) s = some r) (hK : (fun r : Int32 × jb_Mi => v = some (.int r.1) ∧ σ2 = (zE L, r.2, N)) r) : jb_V Γ d zq_205 123 [some (.ref 79), none, none, some (.int s.1)] [] (zE L, s.2, N) v σ2 := by
  exact @jb_lp_ind (Int32 × jb_Mi) ((Int32 × jb_Mi)) (zf_205_H123) (fun s => jb_V Γ d zq_205 123 [some (.ref 79), none, none, some (.int s.1)] [] (zE L, s.2, N) v σ2) (fun r : Int32 × jb_Mi => v = some (.int r.1) ∧ σ2 = (zE L, r.2, N)) (fun s r h hk => zg_205_H123 hd N s h hk) s r h hK
set_option maxRecDepth 20000 in
theorem zg_205_H95 {Γ : jb_G} {L : Nat} {d : Nat} (hd : 8 ≤ d) (N : jb_Ml) (s : Int32 × jb_Mi) {v : Option Value} {σ2 : jb_S} {r : ((Int32 × jb_Mi) ⊕ (Int32 × jb_Mi))} (h : zf_205_H95 s = some r) (hK : (jb_K (fun s : Int32 × jb_Mi => jb_V Γ d zq_205 95 [some (.ref 79), none, none, some (.int s.1)] [] (zE L, s.2, N) v σ2) (fun r : Int32 × jb_Mi => v = some (.int r.1) ∧ σ2 = (zE L, r.2, N))) r) : jb_V Γ d zq_205 95 [some (.ref 79), none, none, some (.int s.1)] [] (zE L, s.2, N) v σ2 := by
  obtain ⟨d, rfl⟩ : ∃ e, d = e + 1 := ⟨d - 1, by omega⟩
  unfold zf_205_H95 at h
  refine jb_seg 4 (pc' := (if s.1 < (s.2 79 10) then 103 else 121)) (ls' := [some (.ref 79), none, none, some (.int s.1)]) (st' := []) (σ' := (zE L, s.2, N)) (G := []) rfl trivial ?_
  refine jb_ite (fun c => ?_) (fun c => ?_)
  · replace h := (if_pos c).symm.trans h
    obtain ⟨g2, h⟩ := jb_gd_of h
    obtain ⟨g3, h⟩ := jb_gd_of h
    refine jb_seg 10 (pc' := 95) (ls' := [some (.ref 79), none, none, some (.int (s.1 + 1))]) (st' := []) (σ' := (zE L, (jb_up s.2 90 (s.1).toNatClampNeg (s.2 84 (s.1).toNatClampNeg)), N)) (G := [vp_in s.1 260, vp_in s.1 260]) rfl ⟨g2, g3⟩ ?_
    obtain rfl := Option.some.inj h
    exact jb_mask [true, false, false, true] rfl hK
  · replace h := (if_neg c).symm.trans h
    refine jb_seg 2 (pc' := 123) (ls' := [some (.ref 79), none, none, some (.int 0)]) (st' := []) (σ' := (zE L, s.2, N)) (G := []) rfl trivial ?_
    obtain ⟨y0, hy0, rfl⟩ := jb_mp_of h
    exact jb_mask [true, false, false, true] rfl (zg_205_H123L hd N hy0 hK)
theorem zg_205_H95L {Γ : jb_G} {L : Nat} {d : Nat} (hd : 8 ≤ d) (N : jb_Ml) {v : Option Value} {σ2 : jb_S} {s : Int32 × jb_Mi} {r : (Int32 × jb_Mi)} (h : jb_lp (zf_205_H95) s = some r) (hK : (fun r : Int32 × jb_Mi => v = some (.int r.1) ∧ σ2 = (zE L, r.2, N)) r) : jb_V Γ d zq_205 95 [some (.ref 79), none, none, some (.int s.1)] [] (zE L, s.2, N) v σ2 := by
  exact @jb_lp_ind (Int32 × jb_Mi) ((Int32 × jb_Mi)) (zf_205_H95) (fun s => jb_V Γ d zq_205 95 [some (.ref 79), none, none, some (.int s.1)] [] (zE L, s.2, N) v σ2) (fun r : Int32 × jb_Mi => v = some (.int r.1) ∧ σ2 = (zE L, r.2, N)) (fun s r h hk => zg_205_H95 hd N s h hk) s r h hK
set_option maxRecDepth 20000 in
theorem zg_205_J71 {Γ : jb_G} {L : Nat} {d : Nat} (hd : 8 ≤ d) (x2 : Int32) (M : jb_Mi) (N : jb_Ml) {v : Option Value} {σ2 : jb_S} {r : (Int32 × jb_Mi)} (h : zf_205_J71 x2 M = some r) (hK : (fun r : Int32 × jb_Mi => v = some (.int r.1) ∧ σ2 = (zE L, r.2, N)) r) : jb_V Γ d zq_205 71 [some (.ref 79), none, some (.int x2), none] [] (zE L, M, N) v σ2 := by
  obtain ⟨d, rfl⟩ : ∃ e, d = e + 1 := ⟨d - 1, by omega⟩
  unfold zf_205_J71 at h
  refine jb_seg 5 (pc' := (if x2 = 0 then 80 else 85)) (ls' := [some (.ref 79), none, some (.int x2), none]) (st' := []) (σ' := (zE L, (jb_up M 79 4 0), N)) (G := []) rfl trivial ?_
  refine jb_ite (fun c => ?_) (fun c => ?_)
  · replace h := (if_pos c).symm.trans h
    refine jb_seg 2 (pc' := 84) (ls' := [some (.ref 79), none, some (.int x2), none]) (st' := [(.int ((jb_up M 79 4 0) 79 7))]) (σ' := (zE L, (jb_up M 79 4 0), N)) (G := []) rfl trivial ?_
    obtain rfl := Option.some.inj h
    obtain ⟨rfl, rfl⟩ := hK
    exact jb_reti rfl rfl
  · replace h := (if_neg c).symm.trans h
    refine jb_seg 6 (pc' := 95) (ls' := [some (.ref 79), none, some (.int x2), some (.int 0)]) (st' := []) (σ' := (zE L, (jb_up (jb_up M 79 4 0) 79 13 ((jb_up M 79 4 0) 79 12)), N)) (G := []) rfl trivial ?_
    exact jb_mask [true, false, false, true] rfl (zg_205_H95L hd N h hK)
set_option maxRecDepth 20000 in
theorem zg_205_J67 {Γ : jb_G} {L : Nat} {d : Nat} (hd : 8 ≤ d) (s0 : Int32) (M : jb_Mi) (N : jb_Ml) {v : Option Value} {σ2 : jb_S} {r : ((Int32 × jb_Mi) ⊕ (Int32 × jb_Mi))} (h : zf_205_J67 s0 M = some r) (hK : (jb_K (fun s : Int32 × jb_Mi => jb_V Γ d zq_205 31 [some (.ref 79), none, some (.int s.1), none] [] (zE L, s.2, N) v σ2) (fun r : Int32 × jb_Mi => v = some (.int r.1) ∧ σ2 = (zE L, r.2, N))) r) : jb_V Γ d zq_205 67 [some (.ref 79), none, none, none] [(.int s0)] (zE L, M, N) v σ2 := by
  obtain ⟨d, rfl⟩ : ∃ e, d = e + 1 := ⟨d - 1, by omega⟩
  unfold zf_205_J67 at h
  refine jb_seg 2 (pc' := 31) (ls' := [some (.ref 79), none, some (.int s0), none]) (st' := []) (σ' := (zE L, M, N)) (G := []) rfl trivial ?_
  obtain rfl := Option.some.inj h
  exact jb_mask [true, false, true, false] rfl hK
set_option maxRecDepth 20000 in
theorem zg_205_J66 {Γ : jb_G} {L : Nat} {d : Nat} (hd : 8 ≤ d) (M : jb_Mi) (N : jb_Ml) {v : Option Value} {σ2 : jb_S} {r : ((Int32 × jb_Mi) ⊕ (Int32 × jb_Mi))} (h : zf_205_J66 M = some r) (hK : (jb_K (fun s : Int32 × jb_Mi => jb_V Γ d zq_205 31 [some (.ref 79), none, some (.int s.1), none] [] (zE L, s.2, N) v σ2) (fun r : Int32 × jb_Mi => v = some (.int r.1) ∧ σ2 = (zE L, r.2, N))) r) : jb_V Γ d zq_205 66 [some (.ref 79), none, none, none] [] (zE L, M, N) v σ2 := by
  obtain ⟨d, rfl⟩ : ∃ e, d = e + 1 := ⟨d - 1, by omega⟩
  unfold zf_205_J66 at h
  refine jb_seg 1 (pc' := 67) (ls' := [some (.ref 79), none, none, none]) (st' := [(.int 0)]) (σ' := (zE L, M, N)) (G := []) rfl trivial ?_
  exact jb_mask [true, false, false, false] rfl (zg_205_J67 hd 0 M N h hK)
set_option maxRecDepth 20000 in
theorem zg_205_H31 {Γ : jb_G} {L : Nat} {d : Nat} (hd : 8 ≤ d) (N : jb_Ml) (s : Int32 × jb_Mi) {v : Option Value} {σ2 : jb_S} {r : ((Int32 × jb_Mi) ⊕ (Int32 × jb_Mi))} (h : zf_205_H31 s = some r) (hK : (jb_K (fun s : Int32 × jb_Mi => jb_V Γ d zq_205 31 [some (.ref 79), none, some (.int s.1), none] [] (zE L, s.2, N) v σ2) (fun r : Int32 × jb_Mi => v = some (.int r.1) ∧ σ2 = (zE L, r.2, N))) r) : jb_V Γ d zq_205 31 [some (.ref 79), none, some (.int s.1), none] [] (zE L, s.2, N) v σ2 := by
  obtain ⟨d, rfl⟩ : ∃ e, d = e + 1 := ⟨d - 1, by omega⟩
  unfold zf_205_H31 at h
  refine jb_seg 2 (pc' := (if s.1 = 0 then 71 else 35)) (ls' := [some (.ref 79), none, some (.int s.1), none]) (st' := []) (σ' := (zE L, s.2, N)) (G := []) rfl trivial ?_
  refine jb_ite (fun c => ?_) (fun c => ?_)
  · replace h := (if_pos c).symm.trans h
    obtain ⟨y0, hy0, rfl⟩ := jb_mp_of h
    exact jb_mask [true, false, true, false] rfl (zg_205_J71 hd s.1 s.2 N hy0 hK)
  · replace h := (if_neg c).symm.trans h
    refine jb_seg 5 (pc' := (if (s.2 79 5) < (s.2 79 6) then 46 else 71)) (ls' := [some (.ref 79), none, some (.int s.1), none]) (st' := []) (σ' := (zE L, s.2, N)) (G := []) rfl trivial ?_
    refine jb_ite (fun c => ?_) (fun c => ?_)
    · replace h := (if_pos c).symm.trans h
      refine jb_seg 2 (pc' := 49) (ls' := [some (.ref 79), none, some (.int s.1), none]) (st' := [(.int 59), (.ref 79)]) (σ' := (zE L, s.2, N)) (G := []) rfl trivial ?_
      obtain ⟨q12, h12, h⟩ := jb_bd_of h
      refine jb_callV (q' := zq_187) (As := [(.int 59)]) (rest := []) (σ1 := (zE L, q12.2, N)) (v := some (.int (jb_b2i q12.1))) rfl rfl zp_187 rfl (Nat.le_of_ble_eq_true rfl) (jb_cat rfl) (Nat.le_of_ble_eq_true rfl) (Nat.le_of_ble_eq_true rfl) (Or.inl rfl) rfl (ze_187 (by omega) 59 s.2 N h12) ?_
      refine jb_seg 1 (pc' := (if (jb_b2i q12.1) = 0 then 66 else 55)) (ls' := [some (.ref 79), none, some (.int s.1), none]) (st' := []) (σ' := (zE L, q12.2, N)) (G := []) rfl trivial ?_
      refine jb_ite (fun c => ?_) (fun c => ?_)
      · replace h := (if_pos c).symm.trans h
        exact jb_mask [true, false, false, false] rfl (zg_205_J66 hd q12.2 N h hK)
      · replace h := (if_neg c).symm.trans h
        refine jb_seg 1 (pc' := 56) (ls' := [some (.ref 79), none, some (.int s.1), none]) (st' := [(.ref 79)]) (σ' := (zE L, q12.2, N)) (G := []) rfl trivial ?_
        obtain ⟨q13, h13, h⟩ := jb_bd_of h
        refine jb_callV (q' := zq_203) (As := []) (rest := []) (σ1 := (zE L, q13.2, N)) (v := some (.int (jb_b2i q13.1))) rfl rfl zp_203 rfl (Nat.le_of_ble_eq_true rfl) (jb_cat rfl) (Nat.le_of_ble_eq_true rfl) (Nat.le_of_ble_eq_true rfl) (Or.inl rfl) rfl (ze_203 (by omega) q12.2 N h13) ?_
        refine jb_seg 1 (pc' := (if (jb_b2i q13.1) = 0 then 66 else 62)) (ls' := [some (.ref 79), none, some (.int s.1), none]) (st' := []) (σ' := (zE L, q13.2, N)) (G := []) rfl trivial ?_
        refine jb_ite (fun c => ?_) (fun c => ?_)
        · replace h := (if_pos c).symm.trans h
          exact jb_mask [true, false, false, false] rfl (zg_205_J66 hd q13.2 N h hK)
        · replace h := (if_neg c).symm.trans h
          refine jb_seg 2 (pc' := 67) (ls' := [some (.ref 79), none, some (.int s.1), none]) (st' := [(.int 1)]) (σ' := (zE L, q13.2, N)) (G := []) rfl trivial ?_
          exact jb_mask [true, false, false, false] rfl (zg_205_J67 hd 1 q13.2 N h hK)
    · replace h := (if_neg c).symm.trans h
      obtain ⟨y0, hy0, rfl⟩ := jb_mp_of h
      exact jb_mask [true, false, true, false] rfl (zg_205_J71 hd s.1 s.2 N hy0 hK)
theorem zg_205_H31L {Γ : jb_G} {L : Nat} {d : Nat} (hd : 8 ≤ d) (N : jb_Ml) {v : Option Value} {σ2 : jb_S} {s : Int32 × jb_Mi} {r : (Int32 × jb_Mi)} (h : jb_lp (zf_205_H31) s = some r) (hK : (fun r : Int32 × jb_Mi => v = some (.int r.1) ∧ σ2 = (zE L, r.2, N)) r) : jb_V Γ d zq_205 31 [some (.ref 79), none, some (.int s.1), none] [] (zE L, s.2, N) v σ2 := by
  exact @jb_lp_ind (Int32 × jb_Mi) ((Int32 × jb_Mi)) (zf_205_H31) (fun s => jb_V Γ d zq_205 31 [some (.ref 79), none, some (.int s.1), none] [] (zE L, s.2, N) v σ2) (fun r : Int32 × jb_Mi => v = some (.int r.1) ∧ σ2 = (zE L, r.2, N)) (fun s r h hk => zg_205_H31 hd N s h hk) s r h hK
set_option maxRecDepth 20000 in
theorem zg_205 {Γ : jb_G} {L : Nat} {d : Nat} (hd : 8 ≤ d) (x1 : Int32) (M : jb_Mi) (N : jb_Ml) {v : Option Value} {σ2 : jb_S} {r : (Int32 × jb_Mi)} (h : zf_205 x1 M = some r) (hK : (fun r : Int32 × jb_Mi => v = some (.int r.1) ∧ σ2 = (zE L, r.2, N)) r) : jb_V Γ d zq_205 0 [some (.ref 79), some (.int x1), none, none] [] (zE L, M, N) v σ2 := by
  obtain ⟨d, rfl⟩ : ∃ e, d = e + 1 := ⟨d - 1, by omega⟩
  unfold zf_205 at h
  refine jb_seg 3 (pc' := 5) (ls' := [some (.ref 79), some (.int x1), none, none]) (st' := [(.int 240), (.int 1), (.int x1)]) (σ' := (zE L, M, N)) (G := []) rfl trivial ?_
  refine jb_callS (q' := zq_164) (As := [(.int x1), (.int 1), (.int 240)]) (rest := []) (σ1 := (zE L, M, N)) (v := some (.int (jb_b2i (zf_164 x1 1 240)))) rfl (Nat.le_of_ble_eq_true rfl) rfl zp_164 (jb_cat rfl) (Nat.le_of_ble_eq_true rfl) (Nat.le_of_ble_eq_true rfl) (Or.inl rfl) rfl (ze_164 x1 1 240 M N rfl) ?_
  refine jb_seg 1 (pc' := (if (jb_b2i (zf_164 x1 1 240)) = 0 then 19 else 11)) (ls' := [some (.ref 79), some (.int x1), none, none]) (st' := []) (σ' := (zE L, M, N)) (G := []) rfl trivial ?_
  refine jb_ite (fun c => ?_) (fun c => ?_)
  · replace h := (if_pos c).symm.trans h
    refine jb_seg 1 (pc' := 20) (ls' := [some (.ref 79), some (.int x1), none, none]) (st' := [(.int (-1))]) (σ' := (zE L, M, N)) (G := []) rfl trivial ?_
    obtain rfl := Option.some.inj h
    obtain ⟨rfl, rfl⟩ := hK
    exact jb_reti rfl rfl
  · replace h := (if_neg c).symm.trans h
    refine jb_seg 4 (pc' := (if (M 79 4) < x1 then 19 else 21)) (ls' := [some (.ref 79), some (.int x1), none, none]) (st' := []) (σ' := (zE L, M, N)) (G := []) rfl trivial ?_
    refine jb_ite (fun c => ?_) (fun c => ?_)
    · replace h := (if_pos c).symm.trans h
      refine jb_seg 1 (pc' := 20) (ls' := [some (.ref 79), some (.int x1), none, none]) (st' := [(.int (-1))]) (σ' := (zE L, M, N)) (G := []) rfl trivial ?_
      obtain rfl := Option.some.inj h
      obtain ⟨rfl, rfl⟩ := hK
      exact jb_reti rfl rfl
    · replace h := (if_neg c).symm.trans h
      refine jb_seg 2 (pc' := 23) (ls' := [some (.ref 79), some (.int x1), none, none]) (st' := [(.int x1), (.ref 79)]) (σ' := (zE L, M, N)) (G := []) rfl trivial ?_
      refine jb_callV (q' := zq_204) (As := [(.int x1)]) (rest := []) (σ1 := (zE L, (zf_204 x1 M), N)) (v := none) rfl rfl zp_204 rfl (Nat.le_of_ble_eq_true rfl) (jb_cat rfl) (Nat.le_of_ble_eq_true rfl) (Nat.le_of_ble_eq_true rfl) (Or.inl rfl) rfl (ze_204 x1 M N rfl) ?_
      refine jb_seg 1 (pc' := 27) (ls' := [some (.ref 79), some (.int x1), none, none]) (st' := [(.ref 79)]) (σ' := (zE L, (zf_204 x1 M), N)) (G := []) rfl trivial ?_
      obtain ⟨q1, h1, h⟩ := jb_bd_of h
      refine jb_callV (q' := zq_203) (As := []) (rest := []) (σ1 := (zE L, q1.2, N)) (v := some (.int (jb_b2i q1.1))) rfl rfl zp_203 rfl (Nat.le_of_ble_eq_true rfl) (jb_cat rfl) (Nat.le_of_ble_eq_true rfl) (Nat.le_of_ble_eq_true rfl) (Or.inl rfl) rfl (ze_203 (by omega) (zf_204 x1 M) N h1) ?_
      refine jb_seg 1 (pc' := 31) (ls' := [some (.ref 79), some (.int x1), some (.int (jb_b2i q1.1)), none]) (st' := []) (σ' := (zE L, q1.2, N)) (G := []) rfl trivial ?_
      exact jb_mask [true, false, true, false] rfl (zg_205_H31L hd N h hK)
theorem ze_205 {Γ : jb_G} {L : Nat} {d : Nat} (hd : 8 ≤ d) (x1 : Int32) (M : jb_Mi) (N : jb_Ml) {r : (Int32 × jb_Mi)} (h : zf_205 x1 M = some r) : jb_V Γ d zq_205 0 (jb_en 4 [(.ref 79), (.int x1)]) [] (zE L, M, N) (some (.int r.1)) (zE L, r.2, N) := zg_205 hd x1 M N h ⟨rfl, rfl⟩
-- X13_reckon
set_option maxRecDepth 20000 in
theorem zg_206 {Γ : jb_G} {L : Nat} {d : Nat} (x0 : Int32) (x1 : Int32) (x2 : Int32) (M : jb_Mi) (N : jb_Ml) {v : Option Value} {σ2 : jb_S} {r : (Int32)} (h : zf_206 x0 x1 x2 = some r) (hK : (fun r : Int32 => v = some (.int r) ∧ σ2 = (zE L, M, N)) r) : jb_V Γ d zq_206 0 [some (.int x0), some (.int x1), some (.int x2)] [] (zE L, M, N) v σ2 := by
  unfold zf_206 at h
  refine jb_seg 1 (pc' := 1) (ls' := [some (.int x0), some (.int x1), some (.int x2)]) (st' := [(.int x0)]) (σ' := (zE L, M, N)) (G := []) rfl trivial ?_
  refine jb_tsw [(2, 44), (3, 48), (4, 52), (5, 56), (6, 60), (7, 64), (8, 75)] 86 rfl (by decide +kernel) ?_
  refine jb_swc (fun c => ?_) (fun c => ?_)
  · replace h := (if_pos c).symm.trans h
    refine jb_seg 3 (pc' := 47) (ls' := [some (.int x0), some (.int x1), some (.int x2)]) (st' := [(.int (x1 + x2))]) (σ' := (zE L, M, N)) (G := []) rfl trivial ?_
    obtain rfl := Option.some.inj h
    obtain ⟨rfl, rfl⟩ := hK
    exact jb_reti rfl rfl
  · replace h := (if_neg c).symm.trans h
    refine jb_swc (fun c => ?_) (fun c => ?_)
    · replace h := (if_pos c).symm.trans h
      refine jb_seg 3 (pc' := 51) (ls' := [some (.int x0), some (.int x1), some (.int x2)]) (st' := [(.int (x1 - x2))]) (σ' := (zE L, M, N)) (G := []) rfl trivial ?_
      obtain rfl := Option.some.inj h
      obtain ⟨rfl, rfl⟩ := hK
      exact jb_reti rfl rfl
    · replace h := (if_neg c).symm.trans h
      refine jb_swc (fun c => ?_) (fun c => ?_)
      · replace h := (if_pos c).symm.trans h
        refine jb_seg 3 (pc' := 55) (ls' := [some (.int x0), some (.int x1), some (.int x2)]) (st' := [(.int (x1 * x2))]) (σ' := (zE L, M, N)) (G := []) rfl trivial ?_
        obtain rfl := Option.some.inj h
        obtain ⟨rfl, rfl⟩ := hK
        exact jb_reti rfl rfl
      · replace h := (if_neg c).symm.trans h
        refine jb_swc (fun c => ?_) (fun c => ?_)
        · replace h := (if_pos c).symm.trans h
          obtain ⟨g1, h⟩ := jb_g0_of h
          refine jb_seg 3 (pc' := 59) (ls' := [some (.int x0), some (.int x1), some (.int x2)]) (st' := [(.int (x1 / x2))]) (σ' := (zE L, M, N)) (G := [¬ (x2 : Int32) = 0]) rfl g1 ?_
          obtain rfl := Option.some.inj h
          obtain ⟨rfl, rfl⟩ := hK
          exact jb_reti rfl rfl
        · replace h := (if_neg c).symm.trans h
          refine jb_swc (fun c => ?_) (fun c => ?_)
          · replace h := (if_pos c).symm.trans h
            obtain ⟨g2, h⟩ := jb_g0_of h
            refine jb_seg 3 (pc' := 63) (ls' := [some (.int x0), some (.int x1), some (.int x2)]) (st' := [(.int (x1 - x1 / x2 * x2))]) (σ' := (zE L, M, N)) (G := [¬ (x2 : Int32) = 0]) rfl g2 ?_
            obtain rfl := Option.some.inj h
            obtain ⟨rfl, rfl⟩ := hK
            exact jb_reti rfl rfl
          · replace h := (if_neg c).symm.trans h
            refine jb_swc (fun c => ?_) (fun c => ?_)
            · replace h := (if_pos c).symm.trans h
              refine jb_seg 3 (pc' := (if x1 < x2 then 69 else 73)) (ls' := [some (.int x0), some (.int x1), some (.int x2)]) (st' := []) (σ' := (zE L, M, N)) (G := []) rfl trivial ?_
              refine jb_ite (fun c => ?_) (fun c => ?_)
              · replace h := (if_pos c).symm.trans h
                refine jb_seg 2 (pc' := 74) (ls' := [some (.int x0), some (.int x1), some (.int x2)]) (st' := [(.int 1)]) (σ' := (zE L, M, N)) (G := []) rfl trivial ?_
                obtain rfl := Option.some.inj h
                obtain ⟨rfl, rfl⟩ := hK
                exact jb_reti rfl rfl
              · replace h := (if_neg c).symm.trans h
                refine jb_seg 1 (pc' := 74) (ls' := [some (.int x0), some (.int x1), some (.int x2)]) (st' := [(.int 0)]) (σ' := (zE L, M, N)) (G := []) rfl trivial ?_
                obtain rfl := Option.some.inj h
                obtain ⟨rfl, rfl⟩ := hK
                exact jb_reti rfl rfl
            · replace h := (if_neg c).symm.trans h
              refine jb_swc (fun c => ?_) (fun c => ?_)
              · replace h := (if_pos c).symm.trans h
                refine jb_seg 3 (pc' := (if x2 < x1 then 80 else 84)) (ls' := [some (.int x0), some (.int x1), some (.int x2)]) (st' := []) (σ' := (zE L, M, N)) (G := []) rfl trivial ?_
                refine jb_ite (fun c => ?_) (fun c => ?_)
                · replace h := (if_pos c).symm.trans h
                  refine jb_seg 2 (pc' := 85) (ls' := [some (.int x0), some (.int x1), some (.int x2)]) (st' := [(.int 1)]) (σ' := (zE L, M, N)) (G := []) rfl trivial ?_
                  obtain rfl := Option.some.inj h
                  obtain ⟨rfl, rfl⟩ := hK
                  exact jb_reti rfl rfl
                · replace h := (if_neg c).symm.trans h
                  refine jb_seg 1 (pc' := 85) (ls' := [some (.int x0), some (.int x1), some (.int x2)]) (st' := [(.int 0)]) (σ' := (zE L, M, N)) (G := []) rfl trivial ?_
                  obtain rfl := Option.some.inj h
                  obtain ⟨rfl, rfl⟩ := hK
                  exact jb_reti rfl rfl
              · replace h := (if_neg c).symm.trans h
                refine jb_swn ?_
                refine jb_seg 3 (pc' := (if x1 = x2 then 91 else 95)) (ls' := [some (.int x0), some (.int x1), some (.int x2)]) (st' := []) (σ' := (zE L, M, N)) (G := []) rfl trivial ?_
                refine jb_ite (fun c => ?_) (fun c => ?_)
                · replace h := (if_pos c).symm.trans h
                  refine jb_seg 2 (pc' := 96) (ls' := [some (.int x0), some (.int x1), some (.int x2)]) (st' := [(.int 1)]) (σ' := (zE L, M, N)) (G := []) rfl trivial ?_
                  obtain rfl := Option.some.inj h
                  obtain ⟨rfl, rfl⟩ := hK
                  exact jb_reti rfl rfl
                · replace h := (if_neg c).symm.trans h
                  refine jb_seg 1 (pc' := 96) (ls' := [some (.int x0), some (.int x1), some (.int x2)]) (st' := [(.int 0)]) (σ' := (zE L, M, N)) (G := []) rfl trivial ?_
                  obtain rfl := Option.some.inj h
                  obtain ⟨rfl, rfl⟩ := hK
                  exact jb_reti rfl rfl
theorem ze_206 {Γ : jb_G} {L : Nat} {d : Nat} (x0 : Int32) (x1 : Int32) (x2 : Int32) (M : jb_Mi) (N : jb_Ml) {r : (Int32)} (h : zf_206 x0 x1 x2 = some r) : jb_V Γ d zq_206 0 (jb_en 3 [(.int x0), (.int x1), (.int x2)]) [] (zE L, M, N) (some (.int r)) (zE L, M, N) := zg_206 x0 x1 x2 M N h ⟨rfl, rfl⟩
-- X13_comesTo
set_option maxRecDepth 20000 in
theorem zg_207_J230 {Γ : jb_G} {L : Nat} {d : Nat} (hd : 1 ≤ d) (x2 : Int32) (x3 : Int32) (x4 : Int32) (x5 : Int32) (M : jb_Mi) (N : jb_Ml) {v : Option Value} {σ2 : jb_S} {r : ((Int32 × Int32 × jb_Mi) ⊕ (Int32 × jb_Mi))} (h : zf_207_J230 x2 x3 x4 x5 M = some r) (hK : (jb_K (fun s : Int32 × Int32 × jb_Mi => jb_V Γ d zq_207 16 [some (.ref 79), none, some (.int x2), some (.int s.1), some (.int x4), some (.int s.2.1), none, none] [] (zE L, s.2.2, N) v σ2) (fun r : Int32 × jb_Mi => v = some (.int r.1) ∧ σ2 = (zE L, r.2, N))) r) : jb_V Γ d zq_207 230 [some (.ref 79), none, some (.int x2), some (.int x3), some (.int x4), some (.int x5), none, none] [] (zE L, M, N) v σ2 := by
  obtain ⟨d, rfl⟩ : ∃ e, d = e + 1 := ⟨d - 1, by omega⟩
  unfold zf_207_J230 at h
  refine jb_seg 1 (pc' := 16) (ls' := [some (.ref 79), none, some (.int x2), some (.int x3), some (.int x4), some (.int x5), none, none]) (st' := []) (σ' := (zE L, M, N)) (G := []) rfl trivial ?_
  obtain rfl := Option.some.inj h
  exact jb_mask [true, false, true, true, true, true, false, false] rfl hK
set_option maxRecDepth 20000 in
theorem zg_207_J85 {Γ : jb_G} {L : Nat} {d : Nat} (hd : 1 ≤ d) (x2 : Int32) (x3 : Int32) (x4 : Int32) (x5 : Int32) (s1 : Int32) (s2 : Int32) (M : jb_Mi) (N : jb_Ml) {v : Option Value} {σ2 : jb_S} {r : ((Int32 × Int32 × jb_Mi) ⊕ (Int32 × jb_Mi))} (h : zf_207_J85 x2 x3 x4 x5 s1 s2 M = some r) (hK : (jb_K (fun s : Int32 × Int32 × jb_Mi => jb_V Γ d zq_207 16 [some (.ref 79), none, some (.int x2), some (.int s.1), some (.int x4), some (.int s.2.1), none, none] [] (zE L, s.2.2, N) v σ2) (fun r : Int32 × jb_Mi => v = some (.int r.1) ∧ σ2 = (zE L, r.2, N))) r) : jb_V Γ d zq_207 85 [some (.ref 79), none, some (.int x2), some (.int x3), some (.int x4), some (.int x5), none, none] [(.int s2), (.int s1), (.ref 95)] (zE L, M, N) v σ2 := by
  obtain ⟨d, rfl⟩ : ∃ e, d = e + 1 := ⟨d - 1, by omega⟩
  unfold zf_207_J85 at h
  obtain ⟨g3, h⟩ := jb_gd_of h
  refine jb_seg 6 (pc' := 230) (ls' := [some (.ref 79), none, some (.int x2), some (.int (x3 + 1)), some (.int x4), some (.int x5), none, none]) (st' := []) (σ' := (zE L, (jb_up M 95 s1.toNatClampNeg s2), N)) (G := [vp_in s1 260]) rfl g3 ?_
  exact jb_mask [true, false, true, true, true, true, false, false] rfl (zg_207_J230 hd x2 (x3 + 1) x4 x5 (jb_up M 95 s1.toNatClampNeg s2) N h hK)
set_option maxRecDepth 20000 in
theorem zg_207_J63 {Γ : jb_G} {L : Nat} {d : Nat} (hd : 1 ≤ d) (x2 : Int32) (x3 : Int32) (x4 : Int32) (x5 : Int32) (x6 : Int32) (x7 : Int32) (M : jb_Mi) (N : jb_Ml) {v : Option Value} {σ2 : jb_S} {r : ((Int32 × Int32 × jb_Mi) ⊕ (Int32 × jb_Mi))} (h : zf_207_J63 x2 x3 x4 x5 x6 x7 M = some r) (hK : (jb_K (fun s : Int32 × Int32 × jb_Mi => jb_V Γ d zq_207 16 [some (.ref 79), none, some (.int x2), some (.int s.1), some (.int x4), some (.int s.2.1), none, none] [] (zE L, s.2.2, N) v σ2) (fun r : Int32 × jb_Mi => v = some (.int r.1) ∧ σ2 = (zE L, r.2, N))) r) : jb_V Γ d zq_207 63 [some (.ref 79), none, some (.int x2), some (.int x3), some (.int x4), some (.int x5), some (.int x6), some (.int x7)] [] (zE L, M, N) v σ2 := by
  obtain ⟨d, rfl⟩ : ∃ e, d = e + 1 := ⟨d - 1, by omega⟩
  unfold zf_207_J63 at h
  refine jb_seg 5 (pc' := (if x6 = 0 then 73 else 78)) (ls' := [some (.ref 79), none, some (.int x2), some (.int x3), some (.int x4), some (.int x5), some (.int x6), some (.int x7)]) (st' := [(.int x3), (.ref 95)]) (σ' := (zE L, M, N)) (G := []) rfl trivial ?_
  refine jb_ite (fun c => ?_) (fun c => ?_)
  · replace h := (if_pos c).symm.trans h
    refine jb_seg 2 (pc' := 85) (ls' := [some (.ref 79), none, some (.int x2), some (.int x3), some (.int x4), some (.int x5), some (.int x6), some (.int x7)]) (st' := [(.int x7), (.int x3), (.ref 95)]) (σ' := (zE L, M, N)) (G := []) rfl trivial ?_
    exact jb_mask [true, false, true, true, true, true, false, false] rfl (zg_207_J85 hd x2 x3 x4 x5 x3 x7 M N h hK)
  · replace h := (if_neg c).symm.trans h
    obtain ⟨g4, h⟩ := jb_gd_of h
    refine jb_seg 4 (pc' := 85) (ls' := [some (.ref 79), none, some (.int x2), some (.int x3), some (.int x4), some (.int x5), some (.int x6), some (.int x7)]) (st' := [(.int (M 96 x7.toNatClampNeg)), (.int x3), (.ref 95)]) (σ' := (zE L, M, N)) (G := [vp_in x7 10]) rfl g4 ?_
    exact jb_mask [true, false, true, true, true, true, false, false] rfl (zg_207_J85 hd x2 x3 x4 x5 x3 (M 96 x7.toNatClampNeg) M N h hK)
set_option maxRecDepth 20000 in
theorem zg_207_J155 {Γ : jb_G} {L : Nat} {d : Nat} (hd : 1 ≤ d) (x2 : Int32) (x3 : Int32) (x4 : Int32) (x5 : Int32) (x7 : Int32) (s0 : Int32) (s1 : Int32) (M : jb_Mi) (N : jb_Ml) {v : Option Value} {σ2 : jb_S} {r : ((Int32 × Int32 × jb_Mi) ⊕ (Int32 × jb_Mi))} (h : zf_207_J155 x2 x3 x4 x5 x7 s0 s1 M = some r) (hK : (jb_K (fun s : Int32 × Int32 × jb_Mi => jb_V Γ d zq_207 16 [some (.ref 79), none, some (.int x2), some (.int s.1), some (.int x4), some (.int s.2.1), none, none] [] (zE L, s.2.2, N) v σ2) (fun r : Int32 × jb_Mi => v = some (.int r.1) ∧ σ2 = (zE L, r.2, N))) r) : jb_V Γ d zq_207 155 [some (.ref 79), none, some (.int x2), some (.int x3), some (.int x4), some (.int x5), none, some (.int x7)] [(.int s1), (.int s0)] (zE L, M, N) v σ2 := by
  obtain ⟨d, rfl⟩ : ∃ e, d = e + 1 := ⟨d - 1, by omega⟩
  unfold zf_207_J155 at h
  refine jb_seg 1 (pc' := (if s0 = s1 then 158 else 168)) (ls' := [some (.ref 79), none, some (.int x2), some (.int x3), some (.int x4), some (.int x5), none, some (.int x7)]) (st' := []) (σ' := (zE L, M, N)) (G := []) rfl trivial ?_
  refine jb_ite (fun c => ?_) (fun c => ?_)
  · replace h := (if_pos c).symm.trans h
    refine jb_seg 5 (pc' := 230) (ls' := [some (.ref 79), none, some (.int x2), some (.int x3), some (.int x4), some (.int (x4 + x7)), none, some (.int x7)]) (st' := []) (σ' := (zE L, M, N)) (G := []) rfl trivial ?_
    exact jb_mask [true, false, true, true, true, true, false, false] rfl (zg_207_J230 hd x2 x3 x4 (x4 + x7) M N h hK)
  · replace h := (if_neg c).symm.trans h
    refine jb_seg 5 (pc' := 230) (ls' := [some (.ref 79), none, some (.int x2), some (.int (x3 - 1)), some (.int x4), some (.int x5), none, some (.int x7)]) (st' := []) (σ' := (zE L, M, N)) (G := []) rfl trivial ?_
    exact jb_mask [true, false, true, true, true, true, false, false] rfl (zg_207_J230 hd x2 (x3 - 1) x4 x5 M N h hK)
set_option maxRecDepth 20000 in
theorem zg_207_J135 {Γ : jb_G} {L : Nat} {d : Nat} (hd : 1 ≤ d) (x2 : Int32) (x3 : Int32) (x4 : Int32) (x5 : Int32) (x6 : Int32) (x7 : Int32) (M : jb_Mi) (N : jb_Ml) {v : Option Value} {σ2 : jb_S} {r : ((Int32 × Int32 × jb_Mi) ⊕ (Int32 × jb_Mi))} (h : zf_207_J135 x2 x3 x4 x5 x6 x7 M = some r) (hK : (jb_K (fun s : Int32 × Int32 × jb_Mi => jb_V Γ d zq_207 16 [some (.ref 79), none, some (.int x2), some (.int s.1), some (.int x4), some (.int s.2.1), none, none] [] (zE L, s.2.2, N) v σ2) (fun r : Int32 × jb_Mi => v = some (.int r.1) ∧ σ2 = (zE L, r.2, N))) r) : jb_V Γ d zq_207 135 [some (.ref 79), none, some (.int x2), some (.int x3), some (.int x4), some (.int x5), some (.int x6), some (.int x7)] [] (zE L, M, N) v σ2 := by
  obtain ⟨d, rfl⟩ : ∃ e, d = e + 1 := ⟨d - 1, by omega⟩
  unfold zf_207_J135 at h
  obtain ⟨g7, h⟩ := jb_gd_of h
  refine jb_seg 9 (pc' := (if x6 = 12 then 150 else 154)) (ls' := [some (.ref 79), none, some (.int x2), some (.int x3), some (.int x4), some (.int x5), some (.int x6), some (.int x7)]) (st' := [(.int (M 95 ((x3 - 1)).toNatClampNeg))]) (σ' := (zE L, M, N)) (G := [vp_in (x3 - 1) 260]) rfl g7 ?_
  refine jb_ite (fun c => ?_) (fun c => ?_)
  · replace h := (if_pos c).symm.trans h
    refine jb_seg 2 (pc' := 155) (ls' := [some (.ref 79), none, some (.int x2), some (.int x3), some (.int x4), some (.int x5), some (.int x6), some (.int x7)]) (st' := [(.int 1), (.int (M 95 ((x3 - 1)).toNatClampNeg))]) (σ' := (zE L, M, N)) (G := []) rfl trivial ?_
    exact jb_mask [true, false, true, true, true, true, false, true] rfl (zg_207_J155 hd x2 x3 x4 x5 x7 (M 95 ((x3 - 1)).toNatClampNeg) 1 M N h hK)
  · replace h := (if_neg c).symm.trans h
    refine jb_seg 1 (pc' := 155) (ls' := [some (.ref 79), none, some (.int x2), some (.int x3), some (.int x4), some (.int x5), some (.int x6), some (.int x7)]) (st' := [(.int 0), (.int (M 95 ((x3 - 1)).toNatClampNeg))]) (σ' := (zE L, M, N)) (G := []) rfl trivial ?_
    exact jb_mask [true, false, true, true, true, true, false, true] rfl (zg_207_J155 hd x2 x3 x4 x5 x7 (M 95 ((x3 - 1)).toNatClampNeg) 0 M N h hK)
set_option maxRecDepth 20000 in
theorem zg_207_J203 {Γ : jb_G} {L : Nat} {d : Nat} (hd : 1 ≤ d) (x2 : Int32) (x3 : Int32) (x4 : Int32) (x5 : Int32) (x6 : Int32) (M : jb_Mi) (N : jb_Ml) {v : Option Value} {σ2 : jb_S} {r : ((Int32 × Int32 × jb_Mi) ⊕ (Int32 × jb_Mi))} (h : zf_207_J203 x2 x3 x4 x5 x6 M = some r) (hK : (jb_K (fun s : Int32 × Int32 × jb_Mi => jb_V Γ d zq_207 16 [some (.ref 79), none, some (.int x2), some (.int s.1), some (.int x4), some (.int s.2.1), none, none] [] (zE L, s.2.2, N) v σ2) (fun r : Int32 × jb_Mi => v = some (.int r.1) ∧ σ2 = (zE L, r.2, N))) r) : jb_V Γ d zq_207 203 [some (.ref 79), none, some (.int x2), some (.int x3), some (.int x4), some (.int x5), some (.int x6), none] [] (zE L, M, N) v σ2 := by
  obtain ⟨d, rfl⟩ : ∃ e, d = e + 1 := ⟨d - 1, by omega⟩
  unfold zf_207_J203 at h
  obtain ⟨g9, h⟩ := jb_gd_of h
  obtain ⟨g10, h⟩ := jb_gd_of h
  refine jb_seg 16 (pc' := 226) (ls' := [some (.ref 79), none, some (.int x2), some (.int x3), some (.int x4), some (.int x5), some (.int x6), none]) (st' := [(.int (M 95 x3.toNatClampNeg)), (.int (M 95 ((x3 - 1)).toNatClampNeg)), (.int x6), (.int (x3 - 1)), (.ref 95)]) (σ' := (zE L, M, N)) (G := [vp_in (x3 - 1) 260, vp_in x3 260]) rfl ⟨g9, g10⟩ ?_
  obtain ⟨q11, h11, h⟩ := jb_bd_of h
  refine jb_callS (q' := zq_206) (As := [(.int x6), (.int (M 95 ((x3 - 1)).toNatClampNeg)), (.int (M 95 x3.toNatClampNeg))]) (rest := [(.int (x3 - 1)), (.ref 95)]) (σ1 := (zE L, M, N)) (v := some (.int q11)) rfl (Nat.le_of_ble_eq_true rfl) rfl zp_206 (jb_cat rfl) (Nat.le_of_ble_eq_true rfl) (Nat.le_of_ble_eq_true rfl) (Or.inl rfl) rfl (ze_206 x6 (M 95 ((x3 - 1)).toNatClampNeg) (M 95 x3.toNatClampNeg) M N h11) ?_
  obtain ⟨g12, h⟩ := jb_gd_of h
  refine jb_seg 1 (pc' := 230) (ls' := [some (.ref 79), none, some (.int x2), some (.int x3), some (.int x4), some (.int x5), some (.int x6), none]) (st' := []) (σ' := (zE L, (jb_up M 95 ((x3 - 1)).toNatClampNeg q11), N)) (G := [vp_in (x3 - 1) 260]) rfl g12 ?_
  exact jb_mask [true, false, true, true, true, true, false, false] rfl (zg_207_J230 hd x2 x3 x4 x5 (jb_up M 95 ((x3 - 1)).toNatClampNeg q11) N h hK)
set_option maxRecDepth 20000 in
theorem zg_207_J192 {Γ : jb_G} {L : Nat} {d : Nat} (hd : 1 ≤ d) (x2 : Int32) (x3 : Int32) (x4 : Int32) (x5 : Int32) (x6 : Int32) (M : jb_Mi) (N : jb_Ml) {v : Option Value} {σ2 : jb_S} {r : ((Int32 × Int32 × jb_Mi) ⊕ (Int32 × jb_Mi))} (h : zf_207_J192 x2 x3 x4 x5 x6 M = some r) (hK : (jb_K (fun s : Int32 × Int32 × jb_Mi => jb_V Γ d zq_207 16 [some (.ref 79), none, some (.int x2), some (.int s.1), some (.int x4), some (.int s.2.1), none, none] [] (zE L, s.2.2, N) v σ2) (fun r : Int32 × jb_Mi => v = some (.int r.1) ∧ σ2 = (zE L, r.2, N))) r) : jb_V Γ d zq_207 192 [some (.ref 79), none, some (.int x2), some (.int x3), some (.int x4), some (.int x5), some (.int x6), none] [] (zE L, M, N) v σ2 := by
  obtain ⟨d, rfl⟩ : ∃ e, d = e + 1 := ⟨d - 1, by omega⟩
  unfold zf_207_J192 at h
  obtain ⟨g8, h⟩ := jb_gd_of h
  refine jb_seg 5 (pc' := (if (M 95 x3.toNatClampNeg) = 0 then 201 else 203)) (ls' := [some (.ref 79), none, some (.int x2), some (.int x3), some (.int x4), some (.int x5), some (.int x6), none]) (st' := []) (σ' := (zE L, M, N)) (G := [vp_in x3 260]) rfl g8 ?_
  refine jb_ite (fun c => ?_) (fun c => ?_)
  · replace h := (if_pos c).symm.trans h
    refine jb_seg 1 (pc' := 202) (ls' := [some (.ref 79), none, some (.int x2), some (.int x3), some (.int x4), some (.int x5), some (.int x6), none]) (st' := [(.int 0)]) (σ' := (zE L, M, N)) (G := []) rfl trivial ?_
    obtain rfl := Option.some.inj h
    obtain ⟨rfl, rfl⟩ := hK
    exact jb_reti rfl rfl
  · replace h := (if_neg c).symm.trans h
    exact jb_mask [true, false, true, true, true, true, true, false] rfl (zg_207_J203 hd x2 x3 x4 x5 x6 M N h hK)
set_option maxRecDepth 20000 in
theorem zg_207_H16 {Γ : jb_G} {L : Nat} {d : Nat} (hd : 1 ≤ d) (x2 : Int32) (x4 : Int32) (N : jb_Ml) (s : Int32 × Int32 × jb_Mi) {v : Option Value} {σ2 : jb_S} {r : ((Int32 × Int32 × jb_Mi) ⊕ (Int32 × jb_Mi))} (h : zf_207_H16 x2 x4 s = some r) (hK : (jb_K (fun s : Int32 × Int32 × jb_Mi => jb_V Γ d zq_207 16 [some (.ref 79), none, some (.int x2), some (.int s.1), some (.int x4), some (.int s.2.1), none, none] [] (zE L, s.2.2, N) v σ2) (fun r : Int32 × jb_Mi => v = some (.int r.1) ∧ σ2 = (zE L, r.2, N))) r) : jb_V Γ d zq_207 16 [some (.ref 79), none, some (.int x2), some (.int s.1), some (.int x4), some (.int s.2.1), none, none] [] (zE L, s.2.2, N) v σ2 := by
  obtain ⟨d, rfl⟩ : ∃ e, d = e + 1 := ⟨d - 1, by omega⟩
  unfold zf_207_H16 at h
  refine jb_seg 3 (pc' := (if s.2.1 < x2 then 22 else 233)) (ls' := [some (.ref 79), none, some (.int x2), some (.int s.1), some (.int x4), some (.int s.2.1), none, none]) (st' := []) (σ' := (zE L, s.2.2, N)) (G := []) rfl trivial ?_
  refine jb_ite (fun c => ?_) (fun c => ?_)
  · replace h := (if_pos c).symm.trans h
    obtain ⟨g1, h⟩ := jb_gd_of h
    obtain ⟨g2, h⟩ := jb_gd_of h
    refine jb_seg 20 (pc' := (if ((s.2.2 90 (s.2.1).toNatClampNeg) / 1048576) = 0 then 63 else 57)) (ls' := [some (.ref 79), none, some (.int x2), some (.int s.1), some (.int x4), some (.int (s.2.1 + 1)), some (.int ((s.2.2 90 (s.2.1).toNatClampNeg) / 1048576)), some (.int ((s.2.2 90 (s.2.1).toNatClampNeg) - (s.2.2 90 (s.2.1).toNatClampNeg) / 1048576 * 1048576))]) (st' := []) (σ' := (zE L, s.2.2, N)) (G := [vp_in s.2.1 260, ¬ (1048576 : Int32) = 0, vp_in s.2.1 260, ¬ (1048576 : Int32) = 0]) rfl ⟨g1, (show ¬ (1048576 : Int32) = 0 from (by decide)), g2, (show ¬ (1048576 : Int32) = 0 from (by decide))⟩ ?_
    refine jb_ite (fun c => ?_) (fun c => ?_)
    · replace h := (if_pos c).symm.trans h
      exact jb_mask [true, false, true, true, true, true, true, true] rfl (zg_207_J63 hd x2 s.1 x4 (s.2.1 + 1) ((s.2.2 90 (s.2.1).toNatClampNeg) / 1048576) ((s.2.2 90 (s.2.1).toNatClampNeg) - (s.2.2 90 (s.2.1).toNatClampNeg) / 1048576 * 1048576) s.2.2 N h hK)
    · replace h := (if_neg c).symm.trans h
      refine jb_seg 3 (pc' := (if ((s.2.2 90 (s.2.1).toNatClampNeg) / 1048576) = 1 then 63 else 93)) (ls' := [some (.ref 79), none, some (.int x2), some (.int s.1), some (.int x4), some (.int (s.2.1 + 1)), some (.int ((s.2.2 90 (s.2.1).toNatClampNeg) / 1048576)), some (.int ((s.2.2 90 (s.2.1).toNatClampNeg) - (s.2.2 90 (s.2.1).toNatClampNeg) / 1048576 * 1048576))]) (st' := []) (σ' := (zE L, s.2.2, N)) (G := []) rfl trivial ?_
      refine jb_ite (fun c => ?_) (fun c => ?_)
      · replace h := (if_pos c).symm.trans h
        exact jb_mask [true, false, true, true, true, true, true, true] rfl (zg_207_J63 hd x2 s.1 x4 (s.2.1 + 1) ((s.2.2 90 (s.2.1).toNatClampNeg) / 1048576) ((s.2.2 90 (s.2.1).toNatClampNeg) - (s.2.2 90 (s.2.1).toNatClampNeg) / 1048576 * 1048576) s.2.2 N h hK)
      · replace h := (if_neg c).symm.trans h
        refine jb_seg 3 (pc' := (if ((s.2.2 90 (s.2.1).toNatClampNeg) / 1048576) = 10 then 100 else 121)) (ls' := [some (.ref 79), none, some (.int x2), some (.int s.1), some (.int x4), some (.int (s.2.1 + 1)), some (.int ((s.2.2 90 (s.2.1).toNatClampNeg) / 1048576)), some (.int ((s.2.2 90 (s.2.1).toNatClampNeg) - (s.2.2 90 (s.2.1).toNatClampNeg) / 1048576 * 1048576))]) (st' := []) (σ' := (zE L, s.2.2, N)) (G := []) rfl trivial ?_
        refine jb_ite (fun c => ?_) (fun c => ?_)
        · replace h := (if_pos c).symm.trans h
          obtain ⟨g5, h⟩ := jb_gd_of h
          obtain ⟨g6, h⟩ := jb_gd_of h
          refine jb_seg 15 (pc' := 230) (ls' := [some (.ref 79), none, some (.int x2), some (.int s.1), some (.int x4), some (.int (s.2.1 + 1)), some (.int ((s.2.2 90 (s.2.1).toNatClampNeg) / 1048576)), some (.int ((s.2.2 90 (s.2.1).toNatClampNeg) - (s.2.2 90 (s.2.1).toNatClampNeg) / 1048576 * 1048576))]) (st' := []) (σ' := (zE L, (jb_up s.2.2 95 ((s.1 - 1)).toNatClampNeg (1 - (s.2.2 95 ((s.1 - 1)).toNatClampNeg))), N)) (G := [vp_in (s.1 - 1) 260, vp_in (s.1 - 1) 260]) rfl ⟨g5, g6⟩ ?_
          exact jb_mask [true, false, true, true, true, true, false, false] rfl (zg_207_J230 hd x2 s.1 x4 (s.2.1 + 1) (jb_up s.2.2 95 ((s.1 - 1)).toNatClampNeg (1 - (s.2.2 95 ((s.1 - 1)).toNatClampNeg))) N h hK)
        · replace h := (if_neg c).symm.trans h
          refine jb_seg 3 (pc' := (if ((s.2.2 90 (s.2.1).toNatClampNeg) / 1048576) = 11 then 135 else 128)) (ls' := [some (.ref 79), none, some (.int x2), some (.int s.1), some (.int x4), some (.int (s.2.1 + 1)), some (.int ((s.2.2 90 (s.2.1).toNatClampNeg) / 1048576)), some (.int ((s.2.2 90 (s.2.1).toNatClampNeg) - (s.2.2 90 (s.2.1).toNatClampNeg) / 1048576 * 1048576))]) (st' := []) (σ' := (zE L, s.2.2, N)) (G := []) rfl trivial ?_
          refine jb_ite (fun c => ?_) (fun c => ?_)
          · replace h := (if_pos c).symm.trans h
            exact jb_mask [true, false, true, true, true, true, true, true] rfl (zg_207_J135 hd x2 s.1 x4 (s.2.1 + 1) ((s.2.2 90 (s.2.1).toNatClampNeg) / 1048576) ((s.2.2 90 (s.2.1).toNatClampNeg) - (s.2.2 90 (s.2.1).toNatClampNeg) / 1048576 * 1048576) s.2.2 N h hK)
          · replace h := (if_neg c).symm.trans h
            refine jb_seg 3 (pc' := (if ((s.2.2 90 (s.2.1).toNatClampNeg) / 1048576) = 12 then 135 else 175)) (ls' := [some (.ref 79), none, some (.int x2), some (.int s.1), some (.int x4), some (.int (s.2.1 + 1)), some (.int ((s.2.2 90 (s.2.1).toNatClampNeg) / 1048576)), some (.int ((s.2.2 90 (s.2.1).toNatClampNeg) - (s.2.2 90 (s.2.1).toNatClampNeg) / 1048576 * 1048576))]) (st' := []) (σ' := (zE L, s.2.2, N)) (G := []) rfl trivial ?_
            refine jb_ite (fun c => ?_) (fun c => ?_)
            · replace h := (if_pos c).symm.trans h
              exact jb_mask [true, false, true, true, true, true, true, true] rfl (zg_207_J135 hd x2 s.1 x4 (s.2.1 + 1) ((s.2.2 90 (s.2.1).toNatClampNeg) / 1048576) ((s.2.2 90 (s.2.1).toNatClampNeg) - (s.2.2 90 (s.2.1).toNatClampNeg) / 1048576 * 1048576) s.2.2 N h hK)
            · replace h := (if_neg c).symm.trans h
              refine jb_seg 7 (pc' := (if ((s.2.2 90 (s.2.1).toNatClampNeg) / 1048576) = 5 then 192 else 185)) (ls' := [some (.ref 79), none, some (.int x2), some (.int (s.1 - 1)), some (.int x4), some (.int (s.2.1 + 1)), some (.int ((s.2.2 90 (s.2.1).toNatClampNeg) / 1048576)), some (.int ((s.2.2 90 (s.2.1).toNatClampNeg) - (s.2.2 90 (s.2.1).toNatClampNeg) / 1048576 * 1048576))]) (st' := []) (σ' := (zE L, s.2.2, N)) (G := []) rfl trivial ?_
              refine jb_ite (fun c => ?_) (fun c => ?_)
              · replace h := (if_pos c).symm.trans h
                exact jb_mask [true, false, true, true, true, true, true, false] rfl (zg_207_J192 hd x2 (s.1 - 1) x4 (s.2.1 + 1) ((s.2.2 90 (s.2.1).toNatClampNeg) / 1048576) s.2.2 N h hK)
              · replace h := (if_neg c).symm.trans h
                refine jb_seg 3 (pc' := (if ((s.2.2 90 (s.2.1).toNatClampNeg) / 1048576) = 6 then 192 else 203)) (ls' := [some (.ref 79), none, some (.int x2), some (.int (s.1 - 1)), some (.int x4), some (.int (s.2.1 + 1)), some (.int ((s.2.2 90 (s.2.1).toNatClampNeg) / 1048576)), some (.int ((s.2.2 90 (s.2.1).toNatClampNeg) - (s.2.2 90 (s.2.1).toNatClampNeg) / 1048576 * 1048576))]) (st' := []) (σ' := (zE L, s.2.2, N)) (G := []) rfl trivial ?_
                refine jb_ite (fun c => ?_) (fun c => ?_)
                · replace h := (if_pos c).symm.trans h
                  exact jb_mask [true, false, true, true, true, true, true, false] rfl (zg_207_J192 hd x2 (s.1 - 1) x4 (s.2.1 + 1) ((s.2.2 90 (s.2.1).toNatClampNeg) / 1048576) s.2.2 N h hK)
                · replace h := (if_neg c).symm.trans h
                  exact jb_mask [true, false, true, true, true, true, true, false] rfl (zg_207_J203 hd x2 (s.1 - 1) x4 (s.2.1 + 1) ((s.2.2 90 (s.2.1).toNatClampNeg) / 1048576) s.2.2 N h hK)
  · replace h := (if_neg c).symm.trans h
    refine jb_seg 4 (pc' := 239) (ls' := [some (.ref 79), none, some (.int x2), some (.int s.1), some (.int x4), some (.int s.2.1), none, none]) (st' := [(.int (s.2.2 95 0))]) (σ' := (zE L, s.2.2, N)) (G := [vp_in 0 260]) rfl (show vp_in 0 260 from (by unfold vp_in; decide)) ?_
    obtain rfl := Option.some.inj h
    obtain ⟨rfl, rfl⟩ := hK
    exact jb_reti rfl rfl
theorem zg_207_H16L {Γ : jb_G} {L : Nat} {d : Nat} (hd : 1 ≤ d) (x2 : Int32) (x4 : Int32) (N : jb_Ml) {v : Option Value} {σ2 : jb_S} {s : Int32 × Int32 × jb_Mi} {r : (Int32 × jb_Mi)} (h : jb_lp (zf_207_H16 x2 x4) s = some r) (hK : (fun r : Int32 × jb_Mi => v = some (.int r.1) ∧ σ2 = (zE L, r.2, N)) r) : jb_V Γ d zq_207 16 [some (.ref 79), none, some (.int x2), some (.int s.1), some (.int x4), some (.int s.2.1), none, none] [] (zE L, s.2.2, N) v σ2 := by
  exact @jb_lp_ind (Int32 × Int32 × jb_Mi) ((Int32 × jb_Mi)) (zf_207_H16 x2 x4) (fun s => jb_V Γ d zq_207 16 [some (.ref 79), none, some (.int x2), some (.int s.1), some (.int x4), some (.int s.2.1), none, none] [] (zE L, s.2.2, N) v σ2) (fun r : Int32 × jb_Mi => v = some (.int r.1) ∧ σ2 = (zE L, r.2, N)) (fun s r h hk => zg_207_H16 hd x2 x4 N s h hk) s r h hK
set_option maxRecDepth 20000 in
theorem zg_207 {Γ : jb_G} {L : Nat} {d : Nat} (hd : 1 ≤ d) (x1 : Int32) (x2 : Int32) (M : jb_Mi) (N : jb_Ml) {v : Option Value} {σ2 : jb_S} {r : (Int32 × jb_Mi)} (h : zf_207 x1 x2 M = some r) (hK : (fun r : Int32 × jb_Mi => v = some (.int r.1) ∧ σ2 = (zE L, r.2, N)) r) : jb_V Γ d zq_207 0 [some (.ref 79), some (.int x1), some (.int x2), none, none, none, none, none] [] (zE L, M, N) v σ2 := by
  obtain ⟨d, rfl⟩ : ∃ e, d = e + 1 := ⟨d - 1, by omega⟩
  unfold zf_207 at h
  refine jb_seg 10 (pc' := 16) (ls' := [some (.ref 79), some (.int x1), some (.int x2), some (.int 0), some (.int (260 * (x1 / 260))), some (.int x1), none, none]) (st' := []) (σ' := (zE L, M, N)) (G := [¬ (260 : Int32) = 0]) rfl (show ¬ (260 : Int32) = 0 from (by decide)) ?_
  exact jb_mask [true, false, true, true, true, true, false, false] rfl (zg_207_H16L hd x2 (260 * (x1 / 260)) N h hK)
theorem ze_207 {Γ : jb_G} {L : Nat} {d : Nat} (hd : 1 ≤ d) (x1 : Int32) (x2 : Int32) (M : jb_Mi) (N : jb_Ml) {r : (Int32 × jb_Mi)} (h : zf_207 x1 x2 M = some r) : jb_V Γ d zq_207 0 (jb_en 8 [(.ref 79), (.int x1), (.int x2)]) [] (zE L, M, N) (some (.int r.1)) (zE L, r.2, N) := zg_207 hd x1 x2 M N h ⟨rfl, rfl⟩
-- X13_byLaw
set_option maxRecDepth 20000 in
theorem zg_208_J83 {Γ : jb_G} {L : Nat} {d : Nat} (hd : 2 ≤ d) (x1 : Int32) (x2 : Int32) (x3 : Int32) (M : jb_Mi) (N : jb_Ml) {v : Option Value} {σ2 : jb_S} {r : ((Int32 × jb_Mi) ⊕ (Int32 × jb_Mi))} (h : zf_208_J83 x1 x2 x3 M = some r) (hK : (jb_K (fun s : Int32 × jb_Mi => jb_V Γ d zq_208 2 [some (.ref 79), some (.int x1), some (.int x2), some (.int s.1), none] [] (zE L, s.2, N) v σ2) (fun r : Int32 × jb_Mi => v = some (.int r.1) ∧ σ2 = (zE L, r.2, N))) r) : jb_V Γ d zq_208 83 [some (.ref 79), some (.int x1), some (.int x2), some (.int x3), none] [] (zE L, M, N) v σ2 := by
  obtain ⟨d, rfl⟩ : ∃ e, d = e + 1 := ⟨d - 1, by omega⟩
  unfold zf_208_J83 at h
  refine jb_seg 2 (pc' := 2) (ls' := [some (.ref 79), some (.int x1), some (.int x2), some (.int (x3 + 1)), none]) (st' := []) (σ' := (zE L, M, N)) (G := []) rfl trivial ?_
  obtain rfl := Option.some.inj h
  exact jb_mask [true, true, true, true, false] rfl hK
set_option maxRecDepth 20000 in
theorem zg_208_H2 {Γ : jb_G} {L : Nat} {d : Nat} (hd : 2 ≤ d) (x1 : Int32) (x2 : Int32) (N : jb_Ml) (s : Int32 × jb_Mi) {v : Option Value} {σ2 : jb_S} {r : ((Int32 × jb_Mi) ⊕ (Int32 × jb_Mi))} (h : zf_208_H2 x1 x2 s = some r) (hK : (jb_K (fun s : Int32 × jb_Mi => jb_V Γ d zq_208 2 [some (.ref 79), some (.int x1), some (.int x2), some (.int s.1), none] [] (zE L, s.2, N) v σ2) (fun r : Int32 × jb_Mi => v = some (.int r.1) ∧ σ2 = (zE L, r.2, N))) r) : jb_V Γ d zq_208 2 [some (.ref 79), some (.int x1), some (.int x2), some (.int s.1), none] [] (zE L, s.2, N) v σ2 := by
  obtain ⟨d, rfl⟩ : ∃ e, d = e + 1 := ⟨d - 1, by omega⟩
  unfold zf_208_H2 at h
  refine jb_seg 4 (pc' := (if s.1 < (s.2 79 13) then 10 else 89)) (ls' := [some (.ref 79), some (.int x1), some (.int x2), some (.int s.1), none]) (st' := []) (σ' := (zE L, s.2, N)) (G := []) rfl trivial ?_
  refine jb_ite (fun c => ?_) (fun c => ?_)
  · replace h := (if_pos c).symm.trans h
    obtain ⟨g1, h⟩ := jb_gd_of h
    refine jb_seg 6 (pc' := (if (s.2 91 (s.1).toNatClampNeg) = x1 then 20 else 83)) (ls' := [some (.ref 79), some (.int x1), some (.int x2), some (.int s.1), none]) (st' := []) (σ' := (zE L, s.2, N)) (G := [vp_in s.1 16]) rfl g1 ?_
    refine jb_ite (fun c => ?_) (fun c => ?_)
    · replace h := (if_pos c).symm.trans h
      obtain ⟨g2, h⟩ := jb_gd_of h
      obtain ⟨g3, h⟩ := jb_gd_of h
      refine jb_seg 9 (pc' := 33) (ls' := [some (.ref 79), some (.int x1), some (.int x2), some (.int s.1), none]) (st' := [(.int (s.2 94 (s.1).toNatClampNeg)), (.int (s.2 93 (s.1).toNatClampNeg)), (.ref 79)]) (σ' := (zE L, s.2, N)) (G := [vp_in s.1 16, vp_in s.1 16]) rfl ⟨g2, g3⟩ ?_
      obtain ⟨q4, h4, h⟩ := jb_bd_of h
      refine jb_callV (q' := zq_207) (As := [(.int (s.2 93 (s.1).toNatClampNeg)), (.int (s.2 94 (s.1).toNatClampNeg))]) (rest := []) (σ1 := (zE L, q4.2, N)) (v := some (.int q4.1)) rfl rfl zp_207 rfl (Nat.le_of_ble_eq_true rfl) (jb_cat rfl) (Nat.le_of_ble_eq_true rfl) (Nat.le_of_ble_eq_true rfl) (Or.inl rfl) rfl (ze_207 (by omega) (s.2 93 (s.1).toNatClampNeg) (s.2 94 (s.1).toNatClampNeg) s.2 N h4) ?_
      refine jb_seg 2 (pc' := (if q4.1 = 1 then 43 else 40)) (ls' := [some (.ref 79), some (.int x1), some (.int x2), some (.int s.1), none]) (st' := []) (σ' := (zE L, q4.2, N)) (G := []) rfl trivial ?_
      refine jb_ite (fun c => ?_) (fun c => ?_)
      · replace h := (if_pos c).symm.trans h
        obtain ⟨g5, h⟩ := jb_gd_of h
        obtain ⟨g6, h⟩ := jb_gd_of h
        refine jb_seg 9 (pc' := 56) (ls' := [some (.ref 79), some (.int x1), some (.int x2), some (.int s.1), none]) (st' := [(.int (q4.2 93 (s.1).toNatClampNeg)), (.int (q4.2 92 (s.1).toNatClampNeg)), (.ref 79)]) (σ' := (zE L, q4.2, N)) (G := [vp_in s.1 16, vp_in s.1 16]) rfl ⟨g5, g6⟩ ?_
        obtain ⟨q7, h7, h⟩ := jb_bd_of h
        refine jb_callV (q' := zq_207) (As := [(.int (q4.2 92 (s.1).toNatClampNeg)), (.int (q4.2 93 (s.1).toNatClampNeg))]) (rest := []) (σ1 := (zE L, q7.2, N)) (v := some (.int q7.1)) rfl rfl zp_207 rfl (Nat.le_of_ble_eq_true rfl) (jb_cat rfl) (Nat.le_of_ble_eq_true rfl) (Nat.le_of_ble_eq_true rfl) (Or.inl rfl) rfl (ze_207 (by omega) (q4.2 92 (s.1).toNatClampNeg) (q4.2 93 (s.1).toNatClampNeg) q4.2 N h7) ?_
        refine jb_seg 3 (pc' := (if q7.1 < 0 then 66 else 70)) (ls' := [some (.ref 79), some (.int x1), some (.int x2), some (.int s.1), some (.int q7.1)]) (st' := []) (σ' := (zE L, q7.2, N)) (G := []) rfl trivial ?_
        refine jb_ite (fun c => ?_) (fun c => ?_)
        · replace h := (if_pos c).symm.trans h
          refine jb_seg 2 (pc' := 82) (ls' := [some (.ref 79), some (.int x1), some (.int x2), some (.int s.1), some (.int q7.1)]) (st' := [(.int 0)]) (σ' := (zE L, q7.2, N)) (G := []) rfl trivial ?_
          obtain rfl := Option.some.inj h
          obtain ⟨rfl, rfl⟩ := hK
          exact jb_reti rfl rfl
        · replace h := (if_neg c).symm.trans h
          refine jb_seg 3 (pc' := (if x2 < q7.1 then 76 else 80)) (ls' := [some (.ref 79), some (.int x1), some (.int x2), some (.int s.1), some (.int q7.1)]) (st' := []) (σ' := (zE L, q7.2, N)) (G := []) rfl trivial ?_
          refine jb_ite (fun c => ?_) (fun c => ?_)
          · replace h := (if_pos c).symm.trans h
            refine jb_seg 2 (pc' := 82) (ls' := [some (.ref 79), some (.int x1), some (.int x2), some (.int s.1), some (.int q7.1)]) (st' := [(.int x2)]) (σ' := (zE L, q7.2, N)) (G := []) rfl trivial ?_
            obtain rfl := Option.some.inj h
            obtain ⟨rfl, rfl⟩ := hK
            exact jb_reti rfl rfl
          · replace h := (if_neg c).symm.trans h
            refine jb_seg 1 (pc' := 82) (ls' := [some (.ref 79), some (.int x1), some (.int x2), some (.int s.1), some (.int q7.1)]) (st' := [(.int q7.1)]) (σ' := (zE L, q7.2, N)) (G := []) rfl trivial ?_
            obtain rfl := Option.some.inj h
            obtain ⟨rfl, rfl⟩ := hK
            exact jb_reti rfl rfl
      · replace h := (if_neg c).symm.trans h
        refine jb_seg 1 (pc' := 83) (ls' := [some (.ref 79), some (.int x1), some (.int x2), some (.int s.1), none]) (st' := []) (σ' := (zE L, q4.2, N)) (G := []) rfl trivial ?_
        exact jb_mask [true, true, true, true, false] rfl (zg_208_J83 hd x1 x2 s.1 q4.2 N h hK)
    · replace h := (if_neg c).symm.trans h
      exact jb_mask [true, true, true, true, false] rfl (zg_208_J83 hd x1 x2 s.1 s.2 N h hK)
  · replace h := (if_neg c).symm.trans h
    refine jb_seg 1 (pc' := 90) (ls' := [some (.ref 79), some (.int x1), some (.int x2), some (.int s.1), none]) (st' := [(.int 0)]) (σ' := (zE L, s.2, N)) (G := []) rfl trivial ?_
    obtain rfl := Option.some.inj h
    obtain ⟨rfl, rfl⟩ := hK
    exact jb_reti rfl rfl
theorem zg_208_H2L {Γ : jb_G} {L : Nat} {d : Nat} (hd : 2 ≤ d) (x1 : Int32) (x2 : Int32) (N : jb_Ml) {v : Option Value} {σ2 : jb_S} {s : Int32 × jb_Mi} {r : (Int32 × jb_Mi)} (h : jb_lp (zf_208_H2 x1 x2) s = some r) (hK : (fun r : Int32 × jb_Mi => v = some (.int r.1) ∧ σ2 = (zE L, r.2, N)) r) : jb_V Γ d zq_208 2 [some (.ref 79), some (.int x1), some (.int x2), some (.int s.1), none] [] (zE L, s.2, N) v σ2 := by
  exact @jb_lp_ind (Int32 × jb_Mi) ((Int32 × jb_Mi)) (zf_208_H2 x1 x2) (fun s => jb_V Γ d zq_208 2 [some (.ref 79), some (.int x1), some (.int x2), some (.int s.1), none] [] (zE L, s.2, N) v σ2) (fun r : Int32 × jb_Mi => v = some (.int r.1) ∧ σ2 = (zE L, r.2, N)) (fun s r h hk => zg_208_H2 hd x1 x2 N s h hk) s r h hK
set_option maxRecDepth 20000 in
theorem zg_208 {Γ : jb_G} {L : Nat} {d : Nat} (hd : 2 ≤ d) (x1 : Int32) (x2 : Int32) (M : jb_Mi) (N : jb_Ml) {v : Option Value} {σ2 : jb_S} {r : (Int32 × jb_Mi)} (h : zf_208 x1 x2 M = some r) (hK : (fun r : Int32 × jb_Mi => v = some (.int r.1) ∧ σ2 = (zE L, r.2, N)) r) : jb_V Γ d zq_208 0 [some (.ref 79), some (.int x1), some (.int x2), none, none] [] (zE L, M, N) v σ2 := by
  obtain ⟨d, rfl⟩ : ∃ e, d = e + 1 := ⟨d - 1, by omega⟩
  unfold zf_208 at h
  refine jb_seg 2 (pc' := 2) (ls' := [some (.ref 79), some (.int x1), some (.int x2), some (.int 0), none]) (st' := []) (σ' := (zE L, M, N)) (G := []) rfl trivial ?_
  exact jb_mask [true, true, true, true, false] rfl (zg_208_H2L hd x1 x2 N h hK)
theorem ze_208 {Γ : jb_G} {L : Nat} {d : Nat} (hd : 2 ≤ d) (x1 : Int32) (x2 : Int32) (M : jb_Mi) (N : jb_Ml) {r : (Int32 × jb_Mi)} (h : zf_208 x1 x2 M = some r) : jb_V Γ d zq_208 0 (jb_en 5 [(.ref 79), (.int x1), (.int x2)]) [] (zE L, M, N) (some (.int r.1)) (zE L, r.2, N) := zg_208 hd x1 x2 M N h ⟨rfl, rfl⟩
-- X13_holdsAny
set_option maxRecDepth 20000 in
theorem zg_209_J42 {Γ : jb_G} {L : Nat} {d : Nat} (hd : 2 ≤ d) (x1 : Int32) (x2 : Int32) (M : jb_Mi) (N : jb_Ml) {v : Option Value} {σ2 : jb_S} {r : ((Int32 × jb_Mi) ⊕ (Bool × jb_Mi))} (h : zf_209_J42 x1 x2 M = some r) (hK : (jb_K (fun s : Int32 × jb_Mi => jb_V Γ d zq_209 2 [some (.ref 79), some (.int x1), some (.int s.1)] [] (zE L, s.2, N) v σ2) (fun r : Bool × jb_Mi => v = some (.int (jb_b2i r.1)) ∧ σ2 = (zE L, r.2, N))) r) : jb_V Γ d zq_209 42 [some (.ref 79), some (.int x1), some (.int x2)] [] (zE L, M, N) v σ2 := by
  obtain ⟨d, rfl⟩ : ∃ e, d = e + 1 := ⟨d - 1, by omega⟩
  unfold zf_209_J42 at h
  refine jb_seg 2 (pc' := 2) (ls' := [some (.ref 79), some (.int x1), some (.int (x2 + 1))]) (st' := []) (σ' := (zE L, M, N)) (G := []) rfl trivial ?_
  obtain rfl := Option.some.inj h
  exact jb_mask [true, true, true] rfl hK
set_option maxRecDepth 20000 in
theorem zg_209_H2 {Γ : jb_G} {L : Nat} {d : Nat} (hd : 2 ≤ d) (x1 : Int32) (N : jb_Ml) (s : Int32 × jb_Mi) {v : Option Value} {σ2 : jb_S} {r : ((Int32 × jb_Mi) ⊕ (Bool × jb_Mi))} (h : zf_209_H2 x1 s = some r) (hK : (jb_K (fun s : Int32 × jb_Mi => jb_V Γ d zq_209 2 [some (.ref 79), some (.int x1), some (.int s.1)] [] (zE L, s.2, N) v σ2) (fun r : Bool × jb_Mi => v = some (.int (jb_b2i r.1)) ∧ σ2 = (zE L, r.2, N))) r) : jb_V Γ d zq_209 2 [some (.ref 79), some (.int x1), some (.int s.1)] [] (zE L, s.2, N) v σ2 := by
  obtain ⟨d, rfl⟩ : ∃ e, d = e + 1 := ⟨d - 1, by omega⟩
  unfold zf_209_H2 at h
  refine jb_seg 4 (pc' := (if s.1 < (s.2 79 13) then 10 else 48)) (ls' := [some (.ref 79), some (.int x1), some (.int s.1)]) (st' := []) (σ' := (zE L, s.2, N)) (G := []) rfl trivial ?_
  refine jb_ite (fun c => ?_) (fun c => ?_)
  · replace h := (if_pos c).symm.trans h
    obtain ⟨g1, h⟩ := jb_gd_of h
    refine jb_seg 6 (pc' := (if (s.2 91 (s.1).toNatClampNeg) = x1 then 20 else 42)) (ls' := [some (.ref 79), some (.int x1), some (.int s.1)]) (st' := []) (σ' := (zE L, s.2, N)) (G := [vp_in s.1 16]) rfl g1 ?_
    refine jb_ite (fun c => ?_) (fun c => ?_)
    · replace h := (if_pos c).symm.trans h
      obtain ⟨g2, h⟩ := jb_gd_of h
      obtain ⟨g3, h⟩ := jb_gd_of h
      refine jb_seg 9 (pc' := 33) (ls' := [some (.ref 79), some (.int x1), some (.int s.1)]) (st' := [(.int (s.2 94 (s.1).toNatClampNeg)), (.int (s.2 93 (s.1).toNatClampNeg)), (.ref 79)]) (σ' := (zE L, s.2, N)) (G := [vp_in s.1 16, vp_in s.1 16]) rfl ⟨g2, g3⟩ ?_
      obtain ⟨q4, h4, h⟩ := jb_bd_of h
      refine jb_callV (q' := zq_207) (As := [(.int (s.2 93 (s.1).toNatClampNeg)), (.int (s.2 94 (s.1).toNatClampNeg))]) (rest := []) (σ1 := (zE L, q4.2, N)) (v := some (.int q4.1)) rfl rfl zp_207 rfl (Nat.le_of_ble_eq_true rfl) (jb_cat rfl) (Nat.le_of_ble_eq_true rfl) (Nat.le_of_ble_eq_true rfl) (Or.inl rfl) rfl (ze_207 (by omega) (s.2 93 (s.1).toNatClampNeg) (s.2 94 (s.1).toNatClampNeg) s.2 N h4) ?_
      refine jb_seg 2 (pc' := (if q4.1 = 1 then 40 else 42)) (ls' := [some (.ref 79), some (.int x1), some (.int s.1)]) (st' := []) (σ' := (zE L, q4.2, N)) (G := []) rfl trivial ?_
      refine jb_ite (fun c => ?_) (fun c => ?_)
      · replace h := (if_pos c).symm.trans h
        refine jb_seg 1 (pc' := 41) (ls' := [some (.ref 79), some (.int x1), some (.int s.1)]) (st' := [(.int 1)]) (σ' := (zE L, q4.2, N)) (G := []) rfl trivial ?_
        obtain rfl := Option.some.inj h
        obtain ⟨rfl, rfl⟩ := hK
        exact jb_retz (by decide) rfl rfl
      · replace h := (if_neg c).symm.trans h
        exact jb_mask [true, true, true] rfl (zg_209_J42 hd x1 s.1 q4.2 N h hK)
    · replace h := (if_neg c).symm.trans h
      exact jb_mask [true, true, true] rfl (zg_209_J42 hd x1 s.1 s.2 N h hK)
  · replace h := (if_neg c).symm.trans h
    refine jb_seg 1 (pc' := 49) (ls' := [some (.ref 79), some (.int x1), some (.int s.1)]) (st' := [(.int 0)]) (σ' := (zE L, s.2, N)) (G := []) rfl trivial ?_
    obtain rfl := Option.some.inj h
    obtain ⟨rfl, rfl⟩ := hK
    exact jb_retz (by decide) rfl rfl
theorem zg_209_H2L {Γ : jb_G} {L : Nat} {d : Nat} (hd : 2 ≤ d) (x1 : Int32) (N : jb_Ml) {v : Option Value} {σ2 : jb_S} {s : Int32 × jb_Mi} {r : (Bool × jb_Mi)} (h : jb_lp (zf_209_H2 x1) s = some r) (hK : (fun r : Bool × jb_Mi => v = some (.int (jb_b2i r.1)) ∧ σ2 = (zE L, r.2, N)) r) : jb_V Γ d zq_209 2 [some (.ref 79), some (.int x1), some (.int s.1)] [] (zE L, s.2, N) v σ2 := by
  exact @jb_lp_ind (Int32 × jb_Mi) ((Bool × jb_Mi)) (zf_209_H2 x1) (fun s => jb_V Γ d zq_209 2 [some (.ref 79), some (.int x1), some (.int s.1)] [] (zE L, s.2, N) v σ2) (fun r : Bool × jb_Mi => v = some (.int (jb_b2i r.1)) ∧ σ2 = (zE L, r.2, N)) (fun s r h hk => zg_209_H2 hd x1 N s h hk) s r h hK
set_option maxRecDepth 20000 in
theorem zg_209 {Γ : jb_G} {L : Nat} {d : Nat} (hd : 2 ≤ d) (x1 : Int32) (M : jb_Mi) (N : jb_Ml) {v : Option Value} {σ2 : jb_S} {r : (Bool × jb_Mi)} (h : zf_209 x1 M = some r) (hK : (fun r : Bool × jb_Mi => v = some (.int (jb_b2i r.1)) ∧ σ2 = (zE L, r.2, N)) r) : jb_V Γ d zq_209 0 [some (.ref 79), some (.int x1), none] [] (zE L, M, N) v σ2 := by
  obtain ⟨d, rfl⟩ : ∃ e, d = e + 1 := ⟨d - 1, by omega⟩
  unfold zf_209 at h
  refine jb_seg 2 (pc' := 2) (ls' := [some (.ref 79), some (.int x1), some (.int 0)]) (st' := []) (σ' := (zE L, M, N)) (G := []) rfl trivial ?_
  exact jb_mask [true, true, true] rfl (zg_209_H2L hd x1 N h hK)
theorem ze_209 {Γ : jb_G} {L : Nat} {d : Nat} (hd : 2 ≤ d) (x1 : Int32) (M : jb_Mi) (N : jb_Ml) {r : (Bool × jb_Mi)} (h : zf_209 x1 M = some r) : jb_V Γ d zq_209 0 (jb_en 3 [(.ref 79), (.int x1)]) [] (zE L, M, N) (some (.int (jb_b2i r.1))) (zE L, r.2, N) := zg_209 hd x1 M N h ⟨rfl, rfl⟩
-- X13_feelsOff
set_option maxRecDepth 20000 in
theorem zg_210_H2 {Γ : jb_G} {L : Nat} {d : Nat} (x1 : Int32) (N : jb_Ml) (s : Int32 × jb_Mi) {v : Option Value} {σ2 : jb_S} {r : ((Int32 × jb_Mi) ⊕ (jb_Mi))} (h : zf_210_H2 x1 s = some r) (hK : (jb_K (fun s : Int32 × jb_Mi => jb_V Γ d zq_210 2 [some (.ref 79), some (.int x1), some (.int s.1)] [] (zE L, s.2, N) v σ2) (fun r : jb_Mi => v = none ∧ σ2 = (zE L, r, N))) r) : jb_V Γ d zq_210 2 [some (.ref 79), some (.int x1), some (.int s.1)] [] (zE L, s.2, N) v σ2 := by
  unfold zf_210_H2 at h
  refine jb_seg 3 (pc' := (if s.1 < 10 then 8 else 21)) (ls' := [some (.ref 79), some (.int x1), some (.int s.1)]) (st' := []) (σ' := (zE L, s.2, N)) (G := []) rfl trivial ?_
  refine jb_ite (fun c => ?_) (fun c => ?_)
  · replace h := (if_pos c).symm.trans h
    obtain ⟨g1, h⟩ := jb_gd_of h
    refine jb_seg 7 (pc' := 2) (ls' := [some (.ref 79), some (.int x1), some (.int (s.1 + 1))]) (st' := []) (σ' := (zE L, (jb_up s.2 96 (s.1).toNatClampNeg 0), N)) (G := [vp_in s.1 10]) rfl g1 ?_
    obtain rfl := Option.some.inj h
    exact jb_mask [true, true, true] rfl hK
  · replace h := (if_neg c).symm.trans h
    obtain ⟨g2, h⟩ := jb_gd_of h
    obtain ⟨g3, h⟩ := jb_gd_of h
    refine jb_seg 43 (pc' := 92) (ls' := [some (.ref 79), some (.int x1), some (.int s.1)]) (st' := []) (σ' := (zE L, (jb_up (jb_up (jb_up (jb_up (jb_up s.2 96 0 x1) 96 1 ((jb_up s.2 96 0 x1) 80 ((114 + x1)).toNatClampNeg)) 96 2 ((jb_up (jb_up s.2 96 0 x1) 96 1 ((jb_up s.2 96 0 x1) 80 ((114 + x1)).toNatClampNeg)) 80 ((130 + x1)).toNatClampNeg)) 96 8 ((jb_up (jb_up (jb_up s.2 96 0 x1) 96 1 ((jb_up s.2 96 0 x1) 80 ((114 + x1)).toNatClampNeg)) 96 2 ((jb_up (jb_up s.2 96 0 x1) 96 1 ((jb_up s.2 96 0 x1) 80 ((114 + x1)).toNatClampNeg)) 80 ((130 + x1)).toNatClampNeg)) 80 146)) 96 9 (((jb_up (jb_up (jb_up (jb_up s.2 96 0 x1) 96 1 ((jb_up s.2 96 0 x1) 80 ((114 + x1)).toNatClampNeg)) 96 2 ((jb_up (jb_up s.2 96 0 x1) 96 1 ((jb_up s.2 96 0 x1) 80 ((114 + x1)).toNatClampNeg)) 80 ((130 + x1)).toNatClampNeg)) 96 8 ((jb_up (jb_up (jb_up s.2 96 0 x1) 96 1 ((jb_up s.2 96 0 x1) 80 ((114 + x1)).toNatClampNeg)) 96 2 ((jb_up (jb_up s.2 96 0 x1) 96 1 ((jb_up s.2 96 0 x1) 80 ((114 + x1)).toNatClampNeg)) 80 ((130 + x1)).toNatClampNeg)) 80 146)) 80 147) - ((jb_up (jb_up (jb_up (jb_up s.2 96 0 x1) 96 1 ((jb_up s.2 96 0 x1) 80 ((114 + x1)).toNatClampNeg)) 96 2 ((jb_up (jb_up s.2 96 0 x1) 96 1 ((jb_up s.2 96 0 x1) 80 ((114 + x1)).toNatClampNeg)) 80 ((130 + x1)).toNatClampNeg)) 96 8 ((jb_up (jb_up (jb_up s.2 96 0 x1) 96 1 ((jb_up s.2 96 0 x1) 80 ((114 + x1)).toNatClampNeg)) 96 2 ((jb_up (jb_up s.2 96 0 x1) 96 1 ((jb_up s.2 96 0 x1) 80 ((114 + x1)).toNatClampNeg)) 80 ((130 + x1)).toNatClampNeg)) 80 146)) 80 147) / 100 * 100)), N)) (G := [vp_in 0 10, vp_in (114 + x1) 149, vp_in 1 10, vp_in (130 + x1) 149, vp_in 2 10, vp_in 146 149, vp_in 8 10, vp_in 147 149, ¬ (100 : Int32) = 0, vp_in 9 10]) rfl ⟨(show vp_in 0 10 from (by unfold vp_in; decide)), g2, (show vp_in 1 10 from (by unfold vp_in; decide)), g3, (show vp_in 2 10 from (by unfold vp_in; decide)), (show vp_in 146 149 from (by unfold vp_in; decide)), (show vp_in 8 10 from (by unfold vp_in; decide)), (show vp_in 147 149 from (by unfold vp_in; decide)), (show ¬ (100 : Int32) = 0 from (by decide)), (show vp_in 9 10 from (by unfold vp_in; decide))⟩ ?_
    obtain rfl := Option.some.inj h
    obtain ⟨rfl, rfl⟩ := hK
    exact jb_retv rfl rfl
theorem zg_210_H2L {Γ : jb_G} {L : Nat} {d : Nat} (x1 : Int32) (N : jb_Ml) {v : Option Value} {σ2 : jb_S} {s : Int32 × jb_Mi} {r : (jb_Mi)} (h : jb_lp (zf_210_H2 x1) s = some r) (hK : (fun r : jb_Mi => v = none ∧ σ2 = (zE L, r, N)) r) : jb_V Γ d zq_210 2 [some (.ref 79), some (.int x1), some (.int s.1)] [] (zE L, s.2, N) v σ2 := by
  exact @jb_lp_ind (Int32 × jb_Mi) ((jb_Mi)) (zf_210_H2 x1) (fun s => jb_V Γ d zq_210 2 [some (.ref 79), some (.int x1), some (.int s.1)] [] (zE L, s.2, N) v σ2) (fun r : jb_Mi => v = none ∧ σ2 = (zE L, r, N)) (fun s r h hk => zg_210_H2 x1 N s h hk) s r h hK
set_option maxRecDepth 20000 in
theorem zg_210 {Γ : jb_G} {L : Nat} {d : Nat} (x1 : Int32) (M : jb_Mi) (N : jb_Ml) {v : Option Value} {σ2 : jb_S} {r : (jb_Mi)} (h : zf_210 x1 M = some r) (hK : (fun r : jb_Mi => v = none ∧ σ2 = (zE L, r, N)) r) : jb_V Γ d zq_210 0 [some (.ref 79), some (.int x1), none] [] (zE L, M, N) v σ2 := by
  unfold zf_210 at h
  refine jb_seg 2 (pc' := 2) (ls' := [some (.ref 79), some (.int x1), some (.int 0)]) (st' := []) (σ' := (zE L, M, N)) (G := []) rfl trivial ?_
  exact jb_mask [true, true, true] rfl (zg_210_H2L x1 N h hK)
theorem ze_210 {Γ : jb_G} {L : Nat} {d : Nat} (x1 : Int32) (M : jb_Mi) (N : jb_Ml) {r : (jb_Mi)} (h : zf_210 x1 M = some r) : jb_V Γ d zq_210 0 (jb_en 3 [(.ref 79), (.int x1)]) [] (zE L, M, N) (none) (zE L, r, N) := zg_210 x1 M N h ⟨rfl, rfl⟩
-- X13_feelsAt
set_option maxRecDepth 20000 in
theorem zg_211 {Γ : jb_G} {L : Nat} {d : Nat} (hd : 2 ≤ d) (x1 : Int32) (x2 : Int32) (x3 : Int32) (M : jb_Mi) (N : jb_Ml) {v : Option Value} {σ2 : jb_S} {r : (jb_Mi)} (h : zf_211 x1 x2 x3 M = some r) (hK : (fun r : jb_Mi => v = none ∧ σ2 = (zE L, r, N)) r) : jb_V Γ d zq_211 0 [some (.ref 79), some (.int x1), some (.int x2), some (.int x3)] [] (zE L, M, N) v σ2 := by
  obtain ⟨d, rfl⟩ : ∃ e, d = e + 1 := ⟨d - 1, by omega⟩
  unfold zf_211 at h
  refine jb_seg 2 (pc' := 2) (ls' := [some (.ref 79), some (.int x1), some (.int x2), some (.int x3)]) (st' := [(.int x1), (.ref 79)]) (σ' := (zE L, M, N)) (G := []) rfl trivial ?_
  obtain ⟨q1, h1, h⟩ := jb_bd_of h
  refine jb_callV (q' := zq_210) (As := [(.int x1)]) (rest := []) (σ1 := (zE L, q1, N)) (v := none) rfl rfl zp_210 rfl (Nat.le_of_ble_eq_true rfl) (jb_cat rfl) (Nat.le_of_ble_eq_true rfl) (Nat.le_of_ble_eq_true rfl) (Or.inl rfl) rfl (ze_210 x1 M N h1) ?_
  refine jb_seg 6 (pc' := 13) (ls' := [some (.ref 79), some (.int x1), some (.int x2), some (.int x3)]) (st' := [(.int x3), (.int x2), (.ref 79), (.int 3), (.ref 96)]) (σ' := (zE L, q1, N)) (G := []) rfl trivial ?_
  obtain ⟨q2, h2, h⟩ := jb_bd_of h
  refine jb_callV (q' := zq_179) (As := [(.int x2), (.int x3)]) (rest := [(.int 3), (.ref 96)]) (σ1 := (zE L, q1, N)) (v := some (.int q2)) rfl rfl zp_179 rfl (Nat.le_of_ble_eq_true rfl) (jb_cat rfl) (Nat.le_of_ble_eq_true rfl) (Nat.le_of_ble_eq_true rfl) (Or.inl rfl) rfl (ze_179 (by omega) x2 x3 q1 N h2) ?_
  obtain ⟨g3, h⟩ := jb_gd_of h
  obtain ⟨g4, h⟩ := jb_gd_of h
  refine jb_seg 33 (pc' := 65) (ls' := [some (.ref 79), some (.int x1), some (.int x2), some (.int x3)]) (st' := []) (σ' := (zE L, (jb_up (jb_up (jb_up (jb_up (jb_up q1 96 3 (q2 / 64)) 96 4 x2) 96 5 x3) 96 6 ((jb_up (jb_up (jb_up q1 96 3 (q2 / 64)) 96 4 x2) 96 5 x3) 80 ((0 + x2)).toNatClampNeg)) 96 7 ((jb_up (jb_up (jb_up (jb_up q1 96 3 (q2 / 64)) 96 4 x2) 96 5 x3) 96 6 ((jb_up (jb_up (jb_up q1 96 3 (q2 / 64)) 96 4 x2) 96 5 x3) 80 ((0 + x2)).toNatClampNeg)) 80 ((12 + x2)).toNatClampNeg)), N)) (G := [¬ (64 : Int32) = 0, vp_in 3 10, vp_in 4 10, vp_in 5 10, vp_in (0 + x2) 149, vp_in 6 10, vp_in (12 + x2) 149, vp_in 7 10]) rfl ⟨(show ¬ (64 : Int32) = 0 from (by decide)), (show vp_in 3 10 from (by unfold vp_in; decide)), (show vp_in 4 10 from (by unfold vp_in; decide)), (show vp_in 5 10 from (by unfold vp_in; decide)), g3, (show vp_in 6 10 from (by unfold vp_in; decide)), g4, (show vp_in 7 10 from (by unfold vp_in; decide))⟩ ?_
  obtain rfl := Option.some.inj h
  obtain ⟨rfl, rfl⟩ := hK
  exact jb_retv rfl rfl
theorem ze_211 {Γ : jb_G} {L : Nat} {d : Nat} (hd : 2 ≤ d) (x1 : Int32) (x2 : Int32) (x3 : Int32) (M : jb_Mi) (N : jb_Ml) {r : (jb_Mi)} (h : zf_211 x1 x2 x3 M = some r) : jb_V Γ d zq_211 0 (jb_en 4 [(.ref 79), (.int x1), (.int x2), (.int x3)]) [] (zE L, M, N) (none) (zE L, r, N) := zg_211 hd x1 x2 x3 M N h ⟨rfl, rfl⟩
-- X13_repeats
set_option maxRecDepth 20000 in
theorem zg_212_H31 {Γ : jb_G} {L : Nat} {d : Nat} (hd : 1 ≤ d) (x1 : Int32) (x2 : Int32) (x4 : Int32) (N : jb_Ml) (s : Int32 × jb_Mi) {v : Option Value} {σ2 : jb_S} {r : ((Int32 × jb_Mi) ⊕ (Bool × jb_Mi))} (h : zf_212_H31 x1 x2 x4 s = some r) (hK : (jb_K (fun s : Int32 × jb_Mi => jb_V Γ d zq_212 31 [some (.ref 79), some (.int x1), some (.int x2), none, some (.int x4), some (.int s.1)] [] (zE L, s.2, N) v σ2) (fun r : Bool × jb_Mi => v = some (.int (jb_b2i r.1)) ∧ σ2 = (zE L, r.2, N))) r) : jb_V Γ d zq_212 31 [some (.ref 79), some (.int x1), some (.int x2), none, some (.int x4), some (.int s.1)] [] (zE L, s.2, N) v σ2 := by
  obtain ⟨d, rfl⟩ : ∃ e, d = e + 1 := ⟨d - 1, by omega⟩
  unfold zf_212_H31 at h
  refine jb_seg 5 (pc' := (if s.1 < (x4 * x2) then 40 else 67)) (ls' := [some (.ref 79), some (.int x1), some (.int x2), none, some (.int x4), some (.int s.1)]) (st' := []) (σ' := (zE L, s.2, N)) (G := []) rfl trivial ?_
  refine jb_ite (fun c => ?_) (fun c => ?_)
  · replace h := (if_pos c).symm.trans h
    obtain ⟨g1, h⟩ := jb_gd_of h
    obtain ⟨g2, h⟩ := jb_gd_of h
    refine jb_seg 16 (pc' := 31) (ls' := [some (.ref 79), some (.int x1), some (.int x2), none, some (.int x4), some (.int (s.1 + 1))]) (st' := []) (σ' := (zE L, (jb_up s.2 99 ((x1 + s.1)).toNatClampNeg (s.2 99 (((x1 + s.1) - x4)).toNatClampNeg)), N)) (G := [vp_in ((x1 + s.1) - x4) 48, vp_in (x1 + s.1) 48]) rfl ⟨g1, g2⟩ ?_
    obtain rfl := Option.some.inj h
    exact jb_mask [true, true, true, false, true, true] rfl hK
  · replace h := (if_neg c).symm.trans h
    refine jb_seg 8 (pc' := 78) (ls' := [some (.ref 79), some (.int x1), some (.int x2), none, some (.int x4), some (.int s.1)]) (st' := [(.int 1)]) (σ' := (zE L, (jb_up s.2 79 33 (x1 + (x4 * x2))), N)) (G := []) rfl trivial ?_
    obtain rfl := Option.some.inj h
    obtain ⟨rfl, rfl⟩ := hK
    exact jb_retz (by decide) rfl rfl
theorem zg_212_H31L {Γ : jb_G} {L : Nat} {d : Nat} (hd : 1 ≤ d) (x1 : Int32) (x2 : Int32) (x4 : Int32) (N : jb_Ml) {v : Option Value} {σ2 : jb_S} {s : Int32 × jb_Mi} {r : (Bool × jb_Mi)} (h : jb_lp (zf_212_H31 x1 x2 x4) s = some r) (hK : (fun r : Bool × jb_Mi => v = some (.int (jb_b2i r.1)) ∧ σ2 = (zE L, r.2, N)) r) : jb_V Γ d zq_212 31 [some (.ref 79), some (.int x1), some (.int x2), none, some (.int x4), some (.int s.1)] [] (zE L, s.2, N) v σ2 := by
  exact @jb_lp_ind (Int32 × jb_Mi) ((Bool × jb_Mi)) (zf_212_H31 x1 x2 x4) (fun s => jb_V Γ d zq_212 31 [some (.ref 79), some (.int x1), some (.int x2), none, some (.int x4), some (.int s.1)] [] (zE L, s.2, N) v σ2) (fun r : Bool × jb_Mi => v = some (.int (jb_b2i r.1)) ∧ σ2 = (zE L, r.2, N)) (fun s r h hk => zg_212_H31 hd x1 x2 x4 N s h hk) s r h hK
set_option maxRecDepth 20000 in
theorem zg_212 {Γ : jb_G} {L : Nat} {d : Nat} (hd : 1 ≤ d) (x1 : Int32) (x2 : Int32) (x3 : Int32) (M : jb_Mi) (N : jb_Ml) {v : Option Value} {σ2 : jb_S} {r : (Bool × jb_Mi)} (h : zf_212 x1 x2 x3 M = some r) (hK : (fun r : Bool × jb_Mi => v = some (.int (jb_b2i r.1)) ∧ σ2 = (zE L, r.2, N)) r) : jb_V Γ d zq_212 0 [some (.ref 79), some (.int x1), some (.int x2), some (.int x3), none, none] [] (zE L, M, N) v σ2 := by
  obtain ⟨d, rfl⟩ : ∃ e, d = e + 1 := ⟨d - 1, by omega⟩
  unfold zf_212 at h
  refine jb_seg 12 (pc' := (if 48 < (x1 + (((M 79 33) - x1) * x2)) then 19 else 27)) (ls' := [some (.ref 79), some (.int x1), some (.int x2), some (.int x3), some (.int ((M 79 33) - x1)), none]) (st' := []) (σ' := (zE L, M, N)) (G := []) rfl trivial ?_
  refine jb_ite (fun c => ?_) (fun c => ?_)
  · replace h := (if_pos c).symm.trans h
    refine jb_seg 3 (pc' := 23) (ls' := [some (.ref 79), some (.int x1), some (.int x2), some (.int x3), some (.int ((M 79 33) - x1)), none]) (st' := [(.int x3), (.int 6), (.ref 79)]) (σ' := (zE L, M, N)) (G := []) rfl trivial ?_
    refine jb_callV (q' := zq_186) (As := [(.int 6), (.int x3)]) (rest := []) (σ1 := (zE L, (zf_186 6 x3 M).2, N)) (v := some (.int (jb_b2i (zf_186 6 x3 M).1))) rfl rfl zp_186 rfl (Nat.le_of_ble_eq_true rfl) (jb_cat rfl) (Nat.le_of_ble_eq_true rfl) (Nat.le_of_ble_eq_true rfl) (Or.inl rfl) rfl (ze_186 6 x3 M N rfl) ?_
    obtain rfl := Option.some.inj h
    obtain ⟨rfl, rfl⟩ := hK
    exact jb_retz (jb_b2i_or _) rfl rfl
  · replace h := (if_neg c).symm.trans h
    refine jb_seg 2 (pc' := 31) (ls' := [some (.ref 79), some (.int x1), some (.int x2), some (.int x3), some (.int ((M 79 33) - x1)), some (.int ((M 79 33) - x1))]) (st' := []) (σ' := (zE L, M, N)) (G := []) rfl trivial ?_
    exact jb_mask [true, true, true, false, true, true] rfl (zg_212_H31L hd x1 x2 ((M 79 33) - x1) N h hK)
theorem ze_212 {Γ : jb_G} {L : Nat} {d : Nat} (hd : 1 ≤ d) (x1 : Int32) (x2 : Int32) (x3 : Int32) (M : jb_Mi) (N : jb_Ml) {r : (Bool × jb_Mi)} (h : zf_212 x1 x2 x3 M = some r) : jb_V Γ d zq_212 0 (jb_en 6 [(.ref 79), (.int x1), (.int x2), (.int x3)]) [] (zE L, M, N) (some (.int (jb_b2i r.1))) (zE L, r.2, N) := zg_212 hd x1 x2 x3 M N h ⟨rfl, rfl⟩
-- X13_readsTimes
set_option maxRecDepth 20000 in
theorem zg_213 {Γ : jb_G} {L : Nat} {d : Nat} (hd : 1 ≤ d) (M : jb_Mi) (N : jb_Ml) {v : Option Value} {σ2 : jb_S} {r : (jb_Mi)} (h : zf_213 M = some r) (hK : (fun r : jb_Mi => v = none ∧ σ2 = (zE L, r, N)) r) : jb_V Γ d zq_213 0 [some (.ref 79)] [] (zE L, M, N) v σ2 := by
  obtain ⟨d, rfl⟩ : ∃ e, d = e + 1 := ⟨d - 1, by omega⟩
  unfold zf_213 at h
  refine jb_seg 8 (pc' := 14) (ls' := [some (.ref 79)]) (st' := [(.ref 79)]) (σ' := (zE L, (jb_up (jb_up M 79 35 (M 79 5)) 79 36 1), N)) (G := []) rfl trivial ?_
  obtain ⟨q1, h1, h⟩ := jb_bd_of h
  refine jb_callV (q' := zq_184) (As := []) (rest := []) (σ1 := (zE L, (jb_up (jb_up M 79 35 (M 79 5)) 79 36 1), N)) (v := some (.int q1)) rfl rfl zp_184 rfl (Nat.le_of_ble_eq_true rfl) (jb_cat rfl) (Nat.le_of_ble_eq_true rfl) (Nat.le_of_ble_eq_true rfl) (Or.inl rfl) rfl (ze_184 (jb_up (jb_up M 79 35 (M 79 5)) 79 36 1) N h1) ?_
  refine jb_seg 2 (pc' := 21) (ls' := [some (.ref 79)]) (st' := [(.int 57), (.int 50), (.int q1)]) (σ' := (zE L, (jb_up (jb_up M 79 35 (M 79 5)) 79 36 1), N)) (G := []) rfl trivial ?_
  refine jb_callS (q' := zq_164) (As := [(.int q1), (.int 50), (.int 57)]) (rest := []) (σ1 := (zE L, (jb_up (jb_up M 79 35 (M 79 5)) 79 36 1), N)) (v := some (.int (jb_b2i (zf_164 q1 50 57)))) rfl (Nat.le_of_ble_eq_true rfl) rfl zp_164 (jb_cat rfl) (Nat.le_of_ble_eq_true rfl) (Nat.le_of_ble_eq_true rfl) (Or.inl rfl) rfl (ze_164 q1 50 57 (jb_up (jb_up M 79 35 (M 79 5)) 79 36 1) N rfl) ?_
  refine jb_seg 1 (pc' := (if (jb_b2i (zf_164 q1 50 57)) = 0 then 27 else 28)) (ls' := [some (.ref 79)]) (st' := []) (σ' := (zE L, (jb_up (jb_up M 79 35 (M 79 5)) 79 36 1), N)) (G := []) rfl trivial ?_
  refine jb_ite (fun c => ?_) (fun c => ?_)
  · replace h := (if_pos c).symm.trans h
    obtain rfl := Option.some.inj h
    obtain ⟨rfl, rfl⟩ := hK
    exact jb_retv rfl rfl
  · replace h := (if_neg c).symm.trans h
    refine jb_seg 2 (pc' := 30) (ls' := [some (.ref 79)]) (st' := [(.ref 79), (.ref 79)]) (σ' := (zE L, (jb_up (jb_up M 79 35 (M 79 5)) 79 36 1), N)) (G := []) rfl trivial ?_
    obtain ⟨q2, h2, h⟩ := jb_bd_of h
    refine jb_callV (q' := zq_184) (As := []) (rest := [(.ref 79)]) (σ1 := (zE L, (jb_up (jb_up M 79 35 (M 79 5)) 79 36 1), N)) (v := some (.int q2)) rfl rfl zp_184 rfl (Nat.le_of_ble_eq_true rfl) (jb_cat rfl) (Nat.le_of_ble_eq_true rfl) (Nat.le_of_ble_eq_true rfl) (Or.inl rfl) rfl (ze_184 (jb_up (jb_up M 79 35 (M 79 5)) 79 36 1) N h2) ?_
    refine jb_seg 9 (pc' := 49) (ls' := [some (.ref 79)]) (st' := []) (σ' := (zE L, (jb_up (jb_up (jb_up (jb_up M 79 35 (M 79 5)) 79 36 1) 79 36 (q2 - 48)) 79 5 (((jb_up (jb_up (jb_up M 79 35 (M 79 5)) 79 36 1) 79 36 (q2 - 48)) 79 5) + 1)), N)) (G := []) rfl trivial ?_
    obtain rfl := Option.some.inj h
    obtain ⟨rfl, rfl⟩ := hK
    exact jb_retv rfl rfl
theorem ze_213 {Γ : jb_G} {L : Nat} {d : Nat} (hd : 1 ≤ d) (M : jb_Mi) (N : jb_Ml) {r : (jb_Mi)} (h : zf_213 M = some r) : jb_V Γ d zq_213 0 (jb_en 1 [(.ref 79)]) [] (zE L, M, N) (none) (zE L, r, N) := zg_213 hd M N h ⟨rfl, rfl⟩
-- X13_readsItem
set_option maxRecDepth 20000 in
theorem zg_214_H218 {Γ : jb_G} {L : Nat} {d : Nat} (hd : 2 ≤ d) (N : jb_Ml) (s : jb_Mi) {v : Option Value} {σ2 : jb_S} {r : ((jb_Mi) ⊕ (Bool × jb_Mi))} (h : zf_214_H218 s = some r) (hK : (jb_K (fun s : jb_Mi => jb_V Γ d zq_214 218 [some (.ref 79), none, none, none] [] (zE L, s, N) v σ2) (fun r : Bool × jb_Mi => v = some (.int (jb_b2i r.1)) ∧ σ2 = (zE L, r.2, N))) r) : jb_V Γ d zq_214 218 [some (.ref 79), none, none, none] [] (zE L, s, N) v σ2 := by
  obtain ⟨d, rfl⟩ : ∃ e, d = e + 1 := ⟨d - 1, by omega⟩
  unfold zf_214_H218 at h
  refine jb_seg 1 (pc' := 219) (ls' := [some (.ref 79), none, none, none]) (st' := [(.ref 79)]) (σ' := (zE L, s, N)) (G := []) rfl trivial ?_
  obtain ⟨q10, h10, h⟩ := jb_bd_of h
  refine jb_callV (q' := zq_184) (As := []) (rest := []) (σ1 := (zE L, s, N)) (v := some (.int q10)) rfl rfl zp_184 rfl (Nat.le_of_ble_eq_true rfl) (jb_cat rfl) (Nat.le_of_ble_eq_true rfl) (Nat.le_of_ble_eq_true rfl) (Or.inl rfl) rfl (ze_184 s N h10) ?_
  refine jb_seg 2 (pc' := (if q10 = 41 then 227 else 290)) (ls' := [some (.ref 79), none, none, none]) (st' := []) (σ' := (zE L, s, N)) (G := []) rfl trivial ?_
  refine jb_ite (fun c => ?_) (fun c => ?_)
  · replace h := (if_pos c).symm.trans h
    refine jb_seg 3 (pc' := (if 0 < (s 79 34) then 234 else 290)) (ls' := [some (.ref 79), none, none, none]) (st' := []) (σ' := (zE L, s, N)) (G := []) rfl trivial ?_
    refine jb_ite (fun c => ?_) (fun c => ?_)
    · replace h := (if_pos c).symm.trans h
      obtain ⟨g11, h⟩ := jb_gd_of h
      obtain ⟨g12, h⟩ := jb_gd_of h
      obtain ⟨g13, h⟩ := jb_gd_of h
      refine jb_seg 28 (pc' := 282) (ls' := [some (.ref 79), none, none, none]) (st' := [(.int ((jb_up (jb_up s 79 5 ((s 79 5) + 1)) 79 34 (((jb_up s 79 5 ((s 79 5) + 1)) 79 34) - 1)) 100 (((jb_up (jb_up s 79 5 ((s 79 5) + 1)) 79 34 (((jb_up s 79 5 ((s 79 5) + 1)) 79 34) - 1)) 79 34)).toNatClampNeg)), (.int ((jb_up (jb_up s 79 5 ((s 79 5) + 1)) 79 34 (((jb_up s 79 5 ((s 79 5) + 1)) 79 34) - 1)) 102 (((jb_up (jb_up s 79 5 ((s 79 5) + 1)) 79 34 (((jb_up s 79 5 ((s 79 5) + 1)) 79 34) - 1)) 79 34)).toNatClampNeg)), (.int ((jb_up (jb_up s 79 5 ((s 79 5) + 1)) 79 34 (((jb_up s 79 5 ((s 79 5) + 1)) 79 34) - 1)) 101 (((jb_up (jb_up s 79 5 ((s 79 5) + 1)) 79 34 (((jb_up s 79 5 ((s 79 5) + 1)) 79 34) - 1)) 79 34)).toNatClampNeg)), (.ref 79)]) (σ' := (zE L, (jb_up (jb_up s 79 5 ((s 79 5) + 1)) 79 34 (((jb_up s 79 5 ((s 79 5) + 1)) 79 34) - 1)), N)) (G := [vp_in ((jb_up (jb_up s 79 5 ((s 79 5) + 1)) 79 34 (((jb_up s 79 5 ((s 79 5) + 1)) 79 34) - 1)) 79 34) 2, vp_in ((jb_up (jb_up s 79 5 ((s 79 5) + 1)) 79 34 (((jb_up s 79 5 ((s 79 5) + 1)) 79 34) - 1)) 79 34) 2, vp_in ((jb_up (jb_up s 79 5 ((s 79 5) + 1)) 79 34 (((jb_up s 79 5 ((s 79 5) + 1)) 79 34) - 1)) 79 34) 2]) rfl ⟨g11, g12, g13⟩ ?_
      obtain ⟨q14, h14, h⟩ := jb_bd_of h
      refine jb_callV (q' := zq_212) (As := [(.int ((jb_up (jb_up s 79 5 ((s 79 5) + 1)) 79 34 (((jb_up s 79 5 ((s 79 5) + 1)) 79 34) - 1)) 101 (((jb_up (jb_up s 79 5 ((s 79 5) + 1)) 79 34 (((jb_up s 79 5 ((s 79 5) + 1)) 79 34) - 1)) 79 34)).toNatClampNeg)), (.int ((jb_up (jb_up s 79 5 ((s 79 5) + 1)) 79 34 (((jb_up s 79 5 ((s 79 5) + 1)) 79 34) - 1)) 102 (((jb_up (jb_up s 79 5 ((s 79 5) + 1)) 79 34 (((jb_up s 79 5 ((s 79 5) + 1)) 79 34) - 1)) 79 34)).toNatClampNeg)), (.int ((jb_up (jb_up s 79 5 ((s 79 5) + 1)) 79 34 (((jb_up s 79 5 ((s 79 5) + 1)) 79 34) - 1)) 100 (((jb_up (jb_up s 79 5 ((s 79 5) + 1)) 79 34 (((jb_up s 79 5 ((s 79 5) + 1)) 79 34) - 1)) 79 34)).toNatClampNeg))]) (rest := []) (σ1 := (zE L, q14.2, N)) (v := some (.int (jb_b2i q14.1))) rfl rfl zp_212 rfl (Nat.le_of_ble_eq_true rfl) (jb_cat rfl) (Nat.le_of_ble_eq_true rfl) (Nat.le_of_ble_eq_true rfl) (Or.inl rfl) rfl (ze_212 (by omega) ((jb_up (jb_up s 79 5 ((s 79 5) + 1)) 79 34 (((jb_up s 79 5 ((s 79 5) + 1)) 79 34) - 1)) 101 (((jb_up (jb_up s 79 5 ((s 79 5) + 1)) 79 34 (((jb_up s 79 5 ((s 79 5) + 1)) 79 34) - 1)) 79 34)).toNatClampNeg) ((jb_up (jb_up s 79 5 ((s 79 5) + 1)) 79 34 (((jb_up s 79 5 ((s 79 5) + 1)) 79 34) - 1)) 102 (((jb_up (jb_up s 79 5 ((s 79 5) + 1)) 79 34 (((jb_up s 79 5 ((s 79 5) + 1)) 79 34) - 1)) 79 34)).toNatClampNeg) ((jb_up (jb_up s 79 5 ((s 79 5) + 1)) 79 34 (((jb_up s 79 5 ((s 79 5) + 1)) 79 34) - 1)) 100 (((jb_up (jb_up s 79 5 ((s 79 5) + 1)) 79 34 (((jb_up s 79 5 ((s 79 5) + 1)) 79 34) - 1)) 79 34)).toNatClampNeg) (jb_up (jb_up s 79 5 ((s 79 5) + 1)) 79 34 (((jb_up s 79 5 ((s 79 5) + 1)) 79 34) - 1)) N h14) ?_
      refine jb_seg 1 (pc' := (if (jb_b2i q14.1) = 0 then 288 else 218)) (ls' := [some (.ref 79), none, none, none]) (st' := []) (σ' := (zE L, q14.2, N)) (G := []) rfl trivial ?_
      refine jb_ite (fun c => ?_) (fun c => ?_)
      · replace h := (if_pos c).symm.trans h
        refine jb_seg 1 (pc' := 289) (ls' := [some (.ref 79), none, none, none]) (st' := [(.int 0)]) (σ' := (zE L, q14.2, N)) (G := []) rfl trivial ?_
        obtain rfl := Option.some.inj h
        obtain ⟨rfl, rfl⟩ := hK
        exact jb_retz (by decide) rfl rfl
      · replace h := (if_neg c).symm.trans h
        obtain rfl := Option.some.inj h
        exact jb_mask [true, false, false, false] rfl hK
    · replace h := (if_neg c).symm.trans h
      refine jb_seg 1 (pc' := 291) (ls' := [some (.ref 79), none, none, none]) (st' := [(.int 1)]) (σ' := (zE L, s, N)) (G := []) rfl trivial ?_
      obtain rfl := Option.some.inj h
      obtain ⟨rfl, rfl⟩ := hK
      exact jb_retz (by decide) rfl rfl
  · replace h := (if_neg c).symm.trans h
    refine jb_seg 1 (pc' := 291) (ls' := [some (.ref 79), none, none, none]) (st' := [(.int 1)]) (σ' := (zE L, s, N)) (G := []) rfl trivial ?_
    obtain rfl := Option.some.inj h
    obtain ⟨rfl, rfl⟩ := hK
    exact jb_retz (by decide) rfl rfl
theorem zg_214_H218L {Γ : jb_G} {L : Nat} {d : Nat} (hd : 2 ≤ d) (N : jb_Ml) {v : Option Value} {σ2 : jb_S} {s : jb_Mi} {r : (Bool × jb_Mi)} (h : jb_lp (zf_214_H218) s = some r) (hK : (fun r : Bool × jb_Mi => v = some (.int (jb_b2i r.1)) ∧ σ2 = (zE L, r.2, N)) r) : jb_V Γ d zq_214 218 [some (.ref 79), none, none, none] [] (zE L, s, N) v σ2 := by
  exact @jb_lp_ind (jb_Mi) ((Bool × jb_Mi)) (zf_214_H218) (fun s => jb_V Γ d zq_214 218 [some (.ref 79), none, none, none] [] (zE L, s, N) v σ2) (fun r : Bool × jb_Mi => v = some (.int (jb_b2i r.1)) ∧ σ2 = (zE L, r.2, N)) (fun s r h hk => zg_214_H218 hd N s h hk) s r h hK
set_option maxRecDepth 20000 in
theorem zg_214_J180 {Γ : jb_G} {L : Nat} {d : Nat} (hd : 2 ≤ d) (x1 : Int32) (x2 : Int32) (s1 : Int32) (s2 : Int32) (M : jb_Mi) (N : jb_Ml) {v : Option Value} {σ2 : jb_S} {r : (Bool × jb_Mi)} (h : zf_214_J180 x1 x2 s1 s2 M = some r) (hK : (fun r : Bool × jb_Mi => v = some (.int (jb_b2i r.1)) ∧ σ2 = (zE L, r.2, N)) r) : jb_V Γ d zq_214 180 [some (.ref 79), some (.int x1), some (.int x2), none] [(.int s2), (.int s1), (.ref 99)] (zE L, M, N) v σ2 := by
  obtain ⟨d, rfl⟩ : ∃ e, d = e + 1 := ⟨d - 1, by omega⟩
  unfold zf_214_J180 at h
  obtain ⟨g8, h⟩ := jb_gd_of h
  refine jb_seg 20 (pc' := 210) (ls' := [some (.ref 79), some (.int x1), some (.int x2), none]) (st' := [(.int x1), (.int x2), (.int (((jb_up (jb_up (jb_up M 99 s1.toNatClampNeg s2) 79 33 (((jb_up M 99 s1.toNatClampNeg s2) 79 33) + 1)) 79 5 (((jb_up (jb_up M 99 s1.toNatClampNeg s2) 79 33 (((jb_up M 99 s1.toNatClampNeg s2) 79 33) + 1)) 79 5) + 1)) 79 33) - 1)), (.ref 79)]) (σ' := (zE L, (jb_up (jb_up (jb_up M 99 s1.toNatClampNeg s2) 79 33 (((jb_up M 99 s1.toNatClampNeg s2) 79 33) + 1)) 79 5 (((jb_up (jb_up M 99 s1.toNatClampNeg s2) 79 33 (((jb_up M 99 s1.toNatClampNeg s2) 79 33) + 1)) 79 5) + 1)), N)) (G := [vp_in s1 48]) rfl g8 ?_
  obtain ⟨q9, h9, h⟩ := jb_bd_of h
  refine jb_callV (q' := zq_212) (As := [(.int (((jb_up (jb_up (jb_up M 99 s1.toNatClampNeg s2) 79 33 (((jb_up M 99 s1.toNatClampNeg s2) 79 33) + 1)) 79 5 (((jb_up (jb_up M 99 s1.toNatClampNeg s2) 79 33 (((jb_up M 99 s1.toNatClampNeg s2) 79 33) + 1)) 79 5) + 1)) 79 33) - 1)), (.int x2), (.int x1)]) (rest := []) (σ1 := (zE L, q9.2, N)) (v := some (.int (jb_b2i q9.1))) rfl rfl zp_212 rfl (Nat.le_of_ble_eq_true rfl) (jb_cat rfl) (Nat.le_of_ble_eq_true rfl) (Nat.le_of_ble_eq_true rfl) (Or.inl rfl) rfl (ze_212 (by omega) (((jb_up (jb_up (jb_up M 99 s1.toNatClampNeg s2) 79 33 (((jb_up M 99 s1.toNatClampNeg s2) 79 33) + 1)) 79 5 (((jb_up (jb_up M 99 s1.toNatClampNeg s2) 79 33 (((jb_up M 99 s1.toNatClampNeg s2) 79 33) + 1)) 79 5) + 1)) 79 33) - 1) x2 x1 (jb_up (jb_up (jb_up M 99 s1.toNatClampNeg s2) 79 33 (((jb_up M 99 s1.toNatClampNeg s2) 79 33) + 1)) 79 5 (((jb_up (jb_up M 99 s1.toNatClampNeg s2) 79 33 (((jb_up M 99 s1.toNatClampNeg s2) 79 33) + 1)) 79 5) + 1)) N h9) ?_
  refine jb_seg 1 (pc' := (if (jb_b2i q9.1) = 0 then 216 else 218)) (ls' := [some (.ref 79), some (.int x1), some (.int x2), none]) (st' := []) (σ' := (zE L, q9.2, N)) (G := []) rfl trivial ?_
  refine jb_ite (fun c => ?_) (fun c => ?_)
  · replace h := (if_pos c).symm.trans h
    refine jb_seg 1 (pc' := 217) (ls' := [some (.ref 79), some (.int x1), some (.int x2), none]) (st' := [(.int 0)]) (σ' := (zE L, q9.2, N)) (G := []) rfl trivial ?_
    obtain rfl := Option.some.inj h
    obtain ⟨rfl, rfl⟩ := hK
    exact jb_retz (by decide) rfl rfl
  · replace h := (if_neg c).symm.trans h
    exact jb_mask [true, false, false, false] rfl (zg_214_H218L hd N h hK)
set_option maxRecDepth 20000 in
theorem zg_214_J139 {Γ : jb_G} {L : Nat} {d : Nat} (hd : 2 ≤ d) (x1 : Int32) (x2 : Int32) (x3 : Int32) (M : jb_Mi) (N : jb_Ml) {v : Option Value} {σ2 : jb_S} {r : (Bool × jb_Mi)} (h : zf_214_J139 x1 x2 x3 M = some r) (hK : (fun r : Bool × jb_Mi => v = some (.int (jb_b2i r.1)) ∧ σ2 = (zE L, r.2, N)) r) : jb_V Γ d zq_214 139 [some (.ref 79), some (.int x1), some (.int x2), some (.int x3)] [] (zE L, M, N) v σ2 := by
  obtain ⟨d, rfl⟩ : ∃ e, d = e + 1 := ⟨d - 1, by omega⟩
  unfold zf_214_J139 at h
  refine jb_seg 6 (pc' := (if 48 < ((M 79 33) + x2) then 150 else 158)) (ls' := [some (.ref 79), some (.int x1), some (.int x2), some (.int x3)]) (st' := []) (σ' := (zE L, M, N)) (G := []) rfl trivial ?_
  refine jb_ite (fun c => ?_) (fun c => ?_)
  · replace h := (if_pos c).symm.trans h
    refine jb_seg 3 (pc' := 154) (ls' := [some (.ref 79), some (.int x1), some (.int x2), some (.int x3)]) (st' := [(.int x1), (.int 6), (.ref 79)]) (σ' := (zE L, M, N)) (G := []) rfl trivial ?_
    refine jb_callV (q' := zq_186) (As := [(.int 6), (.int x1)]) (rest := []) (σ1 := (zE L, (zf_186 6 x1 M).2, N)) (v := some (.int (jb_b2i (zf_186 6 x1 M).1))) rfl rfl zp_186 rfl (Nat.le_of_ble_eq_true rfl) (jb_cat rfl) (Nat.le_of_ble_eq_true rfl) (Nat.le_of_ble_eq_true rfl) (Or.inl rfl) rfl (ze_186 6 x1 M N rfl) ?_
    obtain rfl := Option.some.inj h
    obtain ⟨rfl, rfl⟩ := hK
    exact jb_retz (jb_b2i_or _) rfl rfl
  · replace h := (if_neg c).symm.trans h
    refine jb_seg 7 (pc' := (if x3 = 46 then 172 else 176)) (ls' := [some (.ref 79), some (.int x1), some (.int x2), some (.int x3)]) (st' := [(.int (M 79 33)), (.ref 99)]) (σ' := (zE L, M, N)) (G := []) rfl trivial ?_
    refine jb_ite (fun c => ?_) (fun c => ?_)
    · replace h := (if_pos c).symm.trans h
      refine jb_seg 2 (pc' := 180) (ls' := [some (.ref 79), some (.int x1), some (.int x2), some (.int x3)]) (st' := [(.int (-1)), (.int (M 79 33)), (.ref 99)]) (σ' := (zE L, M, N)) (G := []) rfl trivial ?_
      exact jb_mask [true, true, true, false] rfl (zg_214_J180 hd x1 x2 (M 79 33) (-1) M N h hK)
    · replace h := (if_neg c).symm.trans h
      refine jb_seg 3 (pc' := 180) (ls' := [some (.ref 79), some (.int x1), some (.int x2), some (.int x3)]) (st' := [(.int (x3 - 97)), (.int (M 79 33)), (.ref 99)]) (σ' := (zE L, M, N)) (G := []) rfl trivial ?_
      exact jb_mask [true, true, true, false] rfl (zg_214_J180 hd x1 x2 (M 79 33) (x3 - 97) M N h hK)
set_option maxRecDepth 20000 in
theorem zg_214_H4 {Γ : jb_G} {L : Nat} {d : Nat} (hd : 2 ≤ d) (N : jb_Ml) (s : jb_Mi) {v : Option Value} {σ2 : jb_S} {r : ((jb_Mi) ⊕ (Bool × jb_Mi))} (h : zf_214_H4 s = some r) (hK : (jb_K (fun s : jb_Mi => jb_V Γ d zq_214 4 [some (.ref 79), none, none, none] [] (zE L, s, N) v σ2) (fun r : Bool × jb_Mi => v = some (.int (jb_b2i r.1)) ∧ σ2 = (zE L, r.2, N))) r) : jb_V Γ d zq_214 4 [some (.ref 79), none, none, none] [] (zE L, s, N) v σ2 := by
  obtain ⟨d, rfl⟩ : ∃ e, d = e + 1 := ⟨d - 1, by omega⟩
  unfold zf_214_H4 at h
  refine jb_seg 1 (pc' := 5) (ls' := [some (.ref 79), none, none, none]) (st' := [(.ref 79)]) (σ' := (zE L, s, N)) (G := []) rfl trivial ?_
  obtain ⟨q2, h2, h⟩ := jb_bd_of h
  refine jb_callV (q' := zq_184) (As := []) (rest := []) (σ1 := (zE L, s, N)) (v := some (.int q2)) rfl rfl zp_184 rfl (Nat.le_of_ble_eq_true rfl) (jb_cat rfl) (Nat.le_of_ble_eq_true rfl) (Nat.le_of_ble_eq_true rfl) (Or.inl rfl) rfl (ze_184 s N h2) ?_
  refine jb_seg 2 (pc' := (if q2 = 40 then 13 else 97)) (ls' := [some (.ref 79), none, none, none]) (st' := []) (σ' := (zE L, s, N)) (G := []) rfl trivial ?_
  refine jb_ite (fun c => ?_) (fun c => ?_)
  · replace h := (if_pos c).symm.trans h
    refine jb_seg 4 (pc' := (if (s 79 34) = 2 then 21 else 31)) (ls' := [some (.ref 79), none, none, none]) (st' := []) (σ' := (zE L, s, N)) (G := []) rfl trivial ?_
    refine jb_ite (fun c => ?_) (fun c => ?_)
    · replace h := (if_pos c).symm.trans h
      refine jb_seg 4 (pc' := 27) (ls' := [some (.ref 79), none, none, none]) (st' := [(.int (s 79 5)), (.int 5), (.ref 79)]) (σ' := (zE L, s, N)) (G := []) rfl trivial ?_
      refine jb_callV (q' := zq_186) (As := [(.int 5), (.int (s 79 5))]) (rest := []) (σ1 := (zE L, (zf_186 5 (s 79 5) s).2, N)) (v := some (.int (jb_b2i (zf_186 5 (s 79 5) s).1))) rfl rfl zp_186 rfl (Nat.le_of_ble_eq_true rfl) (jb_cat rfl) (Nat.le_of_ble_eq_true rfl) (Nat.le_of_ble_eq_true rfl) (Or.inl rfl) rfl (ze_186 5 (s 79 5) s N rfl) ?_
      obtain rfl := Option.some.inj h
      obtain ⟨rfl, rfl⟩ := hK
      exact jb_retz (jb_b2i_or _) rfl rfl
    · replace h := (if_neg c).symm.trans h
      obtain ⟨g3, h⟩ := jb_gd_of h
      obtain ⟨g4, h⟩ := jb_gd_of h
      obtain ⟨g5, h⟩ := jb_gd_of h
      refine jb_seg 34 (pc' := 91) (ls' := [some (.ref 79), none, none, none]) (st' := [(.ref 79)]) (σ' := (zE L, (jb_up (jb_up (jb_up (jb_up (jb_up s 100 ((s 79 34)).toNatClampNeg (s 79 35)) 101 (((jb_up s 100 ((s 79 34)).toNatClampNeg (s 79 35)) 79 34)).toNatClampNeg ((jb_up s 100 ((s 79 34)).toNatClampNeg (s 79 35)) 79 33)) 102 (((jb_up (jb_up s 100 ((s 79 34)).toNatClampNeg (s 79 35)) 101 (((jb_up s 100 ((s 79 34)).toNatClampNeg (s 79 35)) 79 34)).toNatClampNeg ((jb_up s 100 ((s 79 34)).toNatClampNeg (s 79 35)) 79 33)) 79 34)).toNatClampNeg ((jb_up (jb_up s 100 ((s 79 34)).toNatClampNeg (s 79 35)) 101 (((jb_up s 100 ((s 79 34)).toNatClampNeg (s 79 35)) 79 34)).toNatClampNeg ((jb_up s 100 ((s 79 34)).toNatClampNeg (s 79 35)) 79 33)) 79 36)) 79 34 (((jb_up (jb_up (jb_up s 100 ((s 79 34)).toNatClampNeg (s 79 35)) 101 (((jb_up s 100 ((s 79 34)).toNatClampNeg (s 79 35)) 79 34)).toNatClampNeg ((jb_up s 100 ((s 79 34)).toNatClampNeg (s 79 35)) 79 33)) 102 (((jb_up (jb_up s 100 ((s 79 34)).toNatClampNeg (s 79 35)) 101 (((jb_up s 100 ((s 79 34)).toNatClampNeg (s 79 35)) 79 34)).toNatClampNeg ((jb_up s 100 ((s 79 34)).toNatClampNeg (s 79 35)) 79 33)) 79 34)).toNatClampNeg ((jb_up (jb_up s 100 ((s 79 34)).toNatClampNeg (s 79 35)) 101 (((jb_up s 100 ((s 79 34)).toNatClampNeg (s 79 35)) 79 34)).toNatClampNeg ((jb_up s 100 ((s 79 34)).toNatClampNeg (s 79 35)) 79 33)) 79 36)) 79 34) + 1)) 79 5 (((jb_up (jb_up (jb_up (jb_up s 100 ((s 79 34)).toNatClampNeg (s 79 35)) 101 (((jb_up s 100 ((s 79 34)).toNatClampNeg (s 79 35)) 79 34)).toNatClampNeg ((jb_up s 100 ((s 79 34)).toNatClampNeg (s 79 35)) 79 33)) 102 (((jb_up (jb_up s 100 ((s 79 34)).toNatClampNeg (s 79 35)) 101 (((jb_up s 100 ((s 79 34)).toNatClampNeg (s 79 35)) 79 34)).toNatClampNeg ((jb_up s 100 ((s 79 34)).toNatClampNeg (s 79 35)) 79 33)) 79 34)).toNatClampNeg ((jb_up (jb_up s 100 ((s 79 34)).toNatClampNeg (s 79 35)) 101 (((jb_up s 100 ((s 79 34)).toNatClampNeg (s 79 35)) 79 34)).toNatClampNeg ((jb_up s 100 ((s 79 34)).toNatClampNeg (s 79 35)) 79 33)) 79 36)) 79 34 (((jb_up (jb_up (jb_up s 100 ((s 79 34)).toNatClampNeg (s 79 35)) 101 (((jb_up s 100 ((s 79 34)).toNatClampNeg (s 79 35)) 79 34)).toNatClampNeg ((jb_up s 100 ((s 79 34)).toNatClampNeg (s 79 35)) 79 33)) 102 (((jb_up (jb_up s 100 ((s 79 34)).toNatClampNeg (s 79 35)) 101 (((jb_up s 100 ((s 79 34)).toNatClampNeg (s 79 35)) 79 34)).toNatClampNeg ((jb_up s 100 ((s 79 34)).toNatClampNeg (s 79 35)) 79 33)) 79 34)).toNatClampNeg ((jb_up (jb_up s 100 ((s 79 34)).toNatClampNeg (s 79 35)) 101 (((jb_up s 100 ((s 79 34)).toNatClampNeg (s 79 35)) 79 34)).toNatClampNeg ((jb_up s 100 ((s 79 34)).toNatClampNeg (s 79 35)) 79 33)) 79 36)) 79 34) + 1)) 79 5) + 1)), N)) (G := [vp_in (s 79 34) 2, vp_in ((jb_up s 100 ((s 79 34)).toNatClampNeg (s 79 35)) 79 34) 2, vp_in ((jb_up (jb_up s 100 ((s 79 34)).toNatClampNeg (s 79 35)) 101 (((jb_up s 100 ((s 79 34)).toNatClampNeg (s 79 35)) 79 34)).toNatClampNeg ((jb_up s 100 ((s 79 34)).toNatClampNeg (s 79 35)) 79 33)) 79 34) 2]) rfl ⟨g3, g4, g5⟩ ?_
      obtain ⟨q6, h6, h⟩ := jb_bd_of h
      refine jb_callV (q' := zq_213) (As := []) (rest := []) (σ1 := (zE L, q6, N)) (v := none) rfl rfl zp_213 rfl (Nat.le_of_ble_eq_true rfl) (jb_cat rfl) (Nat.le_of_ble_eq_true rfl) (Nat.le_of_ble_eq_true rfl) (Or.inl rfl) rfl (ze_213 (by omega) (jb_up (jb_up (jb_up (jb_up (jb_up s 100 ((s 79 34)).toNatClampNeg (s 79 35)) 101 (((jb_up s 100 ((s 79 34)).toNatClampNeg (s 79 35)) 79 34)).toNatClampNeg ((jb_up s 100 ((s 79 34)).toNatClampNeg (s 79 35)) 79 33)) 102 (((jb_up (jb_up s 100 ((s 79 34)).toNatClampNeg (s 79 35)) 101 (((jb_up s 100 ((s 79 34)).toNatClampNeg (s 79 35)) 79 34)).toNatClampNeg ((jb_up s 100 ((s 79 34)).toNatClampNeg (s 79 35)) 79 33)) 79 34)).toNatClampNeg ((jb_up (jb_up s 100 ((s 79 34)).toNatClampNeg (s 79 35)) 101 (((jb_up s 100 ((s 79 34)).toNatClampNeg (s 79 35)) 79 34)).toNatClampNeg ((jb_up s 100 ((s 79 34)).toNatClampNeg (s 79 35)) 79 33)) 79 36)) 79 34 (((jb_up (jb_up (jb_up s 100 ((s 79 34)).toNatClampNeg (s 79 35)) 101 (((jb_up s 100 ((s 79 34)).toNatClampNeg (s 79 35)) 79 34)).toNatClampNeg ((jb_up s 100 ((s 79 34)).toNatClampNeg (s 79 35)) 79 33)) 102 (((jb_up (jb_up s 100 ((s 79 34)).toNatClampNeg (s 79 35)) 101 (((jb_up s 100 ((s 79 34)).toNatClampNeg (s 79 35)) 79 34)).toNatClampNeg ((jb_up s 100 ((s 79 34)).toNatClampNeg (s 79 35)) 79 33)) 79 34)).toNatClampNeg ((jb_up (jb_up s 100 ((s 79 34)).toNatClampNeg (s 79 35)) 101 (((jb_up s 100 ((s 79 34)).toNatClampNeg (s 79 35)) 79 34)).toNatClampNeg ((jb_up s 100 ((s 79 34)).toNatClampNeg (s 79 35)) 79 33)) 79 36)) 79 34) + 1)) 79 5 (((jb_up (jb_up (jb_up (jb_up s 100 ((s 79 34)).toNatClampNeg (s 79 35)) 101 (((jb_up s 100 ((s 79 34)).toNatClampNeg (s 79 35)) 79 34)).toNatClampNeg ((jb_up s 100 ((s 79 34)).toNatClampNeg (s 79 35)) 79 33)) 102 (((jb_up (jb_up s 100 ((s 79 34)).toNatClampNeg (s 79 35)) 101 (((jb_up s 100 ((s 79 34)).toNatClampNeg (s 79 35)) 79 34)).toNatClampNeg ((jb_up s 100 ((s 79 34)).toNatClampNeg (s 79 35)) 79 33)) 79 34)).toNatClampNeg ((jb_up (jb_up s 100 ((s 79 34)).toNatClampNeg (s 79 35)) 101 (((jb_up s 100 ((s 79 34)).toNatClampNeg (s 79 35)) 79 34)).toNatClampNeg ((jb_up s 100 ((s 79 34)).toNatClampNeg (s 79 35)) 79 33)) 79 36)) 79 34 (((jb_up (jb_up (jb_up s 100 ((s 79 34)).toNatClampNeg (s 79 35)) 101 (((jb_up s 100 ((s 79 34)).toNatClampNeg (s 79 35)) 79 34)).toNatClampNeg ((jb_up s 100 ((s 79 34)).toNatClampNeg (s 79 35)) 79 33)) 102 (((jb_up (jb_up s 100 ((s 79 34)).toNatClampNeg (s 79 35)) 101 (((jb_up s 100 ((s 79 34)).toNatClampNeg (s 79 35)) 79 34)).toNatClampNeg ((jb_up s 100 ((s 79 34)).toNatClampNeg (s 79 35)) 79 33)) 79 34)).toNatClampNeg ((jb_up (jb_up s 100 ((s 79 34)).toNatClampNeg (s 79 35)) 101 (((jb_up s 100 ((s 79 34)).toNatClampNeg (s 79 35)) 79 34)).toNatClampNeg ((jb_up s 100 ((s 79 34)).toNatClampNeg (s 79 35)) 79 33)) 79 36)) 79 34) + 1)) 79 5) + 1)) N h6) ?_
      refine jb_seg 1 (pc' := 4) (ls' := [some (.ref 79), none, none, none]) (st' := []) (σ' := (zE L, q6, N)) (G := []) rfl trivial ?_
      obtain rfl := Option.some.inj h
      exact jb_mask [true, false, false, false] rfl hK
  · replace h := (if_neg c).symm.trans h
    refine jb_seg 7 (pc' := 108) (ls' := [some (.ref 79), some (.int (s 79 35)), some (.int (s 79 36)), none]) (st' := [(.ref 79)]) (σ' := (zE L, s, N)) (G := []) rfl trivial ?_
    obtain ⟨q7, h7, h⟩ := jb_bd_of h
    refine jb_callV (q' := zq_184) (As := []) (rest := []) (σ1 := (zE L, s, N)) (v := some (.int q7)) rfl rfl zp_184 rfl (Nat.le_of_ble_eq_true rfl) (jb_cat rfl) (Nat.le_of_ble_eq_true rfl) (Nat.le_of_ble_eq_true rfl) (Or.inl rfl) rfl (ze_184 s N h7) ?_
    refine jb_seg 4 (pc' := (if q7 = 46 then 139 else 118)) (ls' := [some (.ref 79), some (.int (s 79 35)), some (.int (s 79 36)), some (.int q7)]) (st' := []) (σ' := (zE L, s, N)) (G := []) rfl trivial ?_
    refine jb_ite (fun c => ?_) (fun c => ?_)
    · replace h := (if_pos c).symm.trans h
      obtain ⟨y0, hy0, rfl⟩ := jb_mp_of h
      exact jb_mask [true, true, true, true] rfl (zg_214_J139 hd (s 79 35) (s 79 36) q7 s N hy0 hK)
    · replace h := (if_neg c).symm.trans h
      refine jb_seg 3 (pc' := 123) (ls' := [some (.ref 79), some (.int (s 79 35)), some (.int (s 79 36)), some (.int q7)]) (st' := [(.int 112), (.int 97), (.int q7)]) (σ' := (zE L, s, N)) (G := []) rfl trivial ?_
      refine jb_callS (q' := zq_164) (As := [(.int q7), (.int 97), (.int 112)]) (rest := []) (σ1 := (zE L, s, N)) (v := some (.int (jb_b2i (zf_164 q7 97 112)))) rfl (Nat.le_of_ble_eq_true rfl) rfl zp_164 (jb_cat rfl) (Nat.le_of_ble_eq_true rfl) (Nat.le_of_ble_eq_true rfl) (Or.inl rfl) rfl (ze_164 q7 97 112 s N rfl) ?_
      refine jb_seg 1 (pc' := (if (jb_b2i (zf_164 q7 97 112)) = 0 then 129 else 139)) (ls' := [some (.ref 79), some (.int (s 79 35)), some (.int (s 79 36)), some (.int q7)]) (st' := []) (σ' := (zE L, s, N)) (G := []) rfl trivial ?_
      refine jb_ite (fun c => ?_) (fun c => ?_)
      · replace h := (if_pos c).symm.trans h
        refine jb_seg 4 (pc' := 135) (ls' := [some (.ref 79), some (.int (s 79 35)), some (.int (s 79 36)), some (.int q7)]) (st' := [(.int (s 79 5)), (.int 1), (.ref 79)]) (σ' := (zE L, s, N)) (G := []) rfl trivial ?_
        refine jb_callV (q' := zq_186) (As := [(.int 1), (.int (s 79 5))]) (rest := []) (σ1 := (zE L, (zf_186 1 (s 79 5) s).2, N)) (v := some (.int (jb_b2i (zf_186 1 (s 79 5) s).1))) rfl rfl zp_186 rfl (Nat.le_of_ble_eq_true rfl) (jb_cat rfl) (Nat.le_of_ble_eq_true rfl) (Nat.le_of_ble_eq_true rfl) (Or.inl rfl) rfl (ze_186 1 (s 79 5) s N rfl) ?_
        obtain rfl := Option.some.inj h
        obtain ⟨rfl, rfl⟩ := hK
        exact jb_retz (jb_b2i_or _) rfl rfl
      · replace h := (if_neg c).symm.trans h
        obtain ⟨y0, hy0, rfl⟩ := jb_mp_of h
        exact jb_mask [true, true, true, true] rfl (zg_214_J139 hd (s 79 35) (s 79 36) q7 s N hy0 hK)
theorem zg_214_H4L {Γ : jb_G} {L : Nat} {d : Nat} (hd : 2 ≤ d) (N : jb_Ml) {v : Option Value} {σ2 : jb_S} {s : jb_Mi} {r : (Bool × jb_Mi)} (h : jb_lp (zf_214_H4) s = some r) (hK : (fun r : Bool × jb_Mi => v = some (.int (jb_b2i r.1)) ∧ σ2 = (zE L, r.2, N)) r) : jb_V Γ d zq_214 4 [some (.ref 79), none, none, none] [] (zE L, s, N) v σ2 := by
  exact @jb_lp_ind (jb_Mi) ((Bool × jb_Mi)) (zf_214_H4) (fun s => jb_V Γ d zq_214 4 [some (.ref 79), none, none, none] [] (zE L, s, N) v σ2) (fun r : Bool × jb_Mi => v = some (.int (jb_b2i r.1)) ∧ σ2 = (zE L, r.2, N)) (fun s r h hk => zg_214_H4 hd N s h hk) s r h hK
set_option maxRecDepth 20000 in
theorem zg_214 {Γ : jb_G} {L : Nat} {d : Nat} (hd : 2 ≤ d) (M : jb_Mi) (N : jb_Ml) {v : Option Value} {σ2 : jb_S} {r : (Bool × jb_Mi)} (h : zf_214 M = some r) (hK : (fun r : Bool × jb_Mi => v = some (.int (jb_b2i r.1)) ∧ σ2 = (zE L, r.2, N)) r) : jb_V Γ d zq_214 0 [some (.ref 79), none, none, none] [] (zE L, M, N) v σ2 := by
  obtain ⟨d, rfl⟩ : ∃ e, d = e + 1 := ⟨d - 1, by omega⟩
  unfold zf_214 at h
  refine jb_seg 1 (pc' := 1) (ls' := [some (.ref 79), none, none, none]) (st' := [(.ref 79)]) (σ' := (zE L, M, N)) (G := []) rfl trivial ?_
  obtain ⟨q1, h1, h⟩ := jb_bd_of h
  refine jb_callV (q' := zq_213) (As := []) (rest := []) (σ1 := (zE L, q1, N)) (v := none) rfl rfl zp_213 rfl (Nat.le_of_ble_eq_true rfl) (jb_cat rfl) (Nat.le_of_ble_eq_true rfl) (Nat.le_of_ble_eq_true rfl) (Or.inl rfl) rfl (ze_213 (by omega) M N h1) ?_
  exact jb_mask [true, false, false, false] rfl (zg_214_H4L hd N h hK)
theorem ze_214 {Γ : jb_G} {L : Nat} {d : Nat} (hd : 2 ≤ d) (M : jb_Mi) (N : jb_Ml) {r : (Bool × jb_Mi)} (h : zf_214 M = some r) : jb_V Γ d zq_214 0 (jb_en 4 [(.ref 79)]) [] (zE L, M, N) (some (.int (jb_b2i r.1))) (zE L, r.2, N) := zg_214 hd M N h ⟨rfl, rfl⟩
