-- X12_isMan
set_option maxRecDepth 20000 in
theorem zg_86 {Γ : jb_G} {L : Nat} {d : Nat} (x0 : Int32) (M : jb_Mi) (N : jb_Ml) {v : Option Value} {σ2 : jb_S} {r : Bool} (h : zf_86 x0 = r) (hK : (fun r : Bool => v = some (.int (jb_b2i r)) ∧ σ2 = (zE L, M, N)) r) : jb_V Γ d zq_86 0 [some (.int x0)] [] (zE L, M, N) v σ2 := by
  unfold zf_86 at h
  refine jb_seg 3 (pc' := (if x0 < 97 then 16 else 6)) (ls' := [some (.int x0)]) (st' := []) (σ' := (zE L, M, N)) (G := []) rfl trivial ?_
  refine jb_ite (fun c => ?_) (fun c => ?_)
  · replace h := (if_pos c).symm.trans h
    refine jb_seg 1 (pc' := 17) (ls' := [some (.int x0)]) (st' := [(.int 0)]) (σ' := (zE L, M, N)) (G := []) rfl trivial ?_
    subst h
    obtain ⟨rfl, rfl⟩ := hK
    exact jb_retz (by decide) rfl rfl
  · replace h := (if_neg c).symm.trans h
    refine jb_seg 3 (pc' := (if 112 < x0 then 16 else 12)) (ls' := [some (.int x0)]) (st' := []) (σ' := (zE L, M, N)) (G := []) rfl trivial ?_
    refine jb_ite (fun c => ?_) (fun c => ?_)
    · replace h := (if_pos c).symm.trans h
      refine jb_seg 1 (pc' := 17) (ls' := [some (.int x0)]) (st' := [(.int 0)]) (σ' := (zE L, M, N)) (G := []) rfl trivial ?_
      subst h
      obtain ⟨rfl, rfl⟩ := hK
      exact jb_retz (by decide) rfl rfl
    · replace h := (if_neg c).symm.trans h
      refine jb_seg 2 (pc' := 17) (ls' := [some (.int x0)]) (st' := [(.int 1)]) (σ' := (zE L, M, N)) (G := []) rfl trivial ?_
      subst h
      obtain ⟨rfl, rfl⟩ := hK
      exact jb_retz (by decide) rfl rfl
theorem ze_86 {Γ : jb_G} {L : Nat} {d : Nat} (x0 : Int32) (M : jb_Mi) (N : jb_Ml) {r : Bool} (h : zf_86 x0 = r) : jb_V Γ d zq_86 0 (jb_en 1 [(.int x0)]) [] (zE L, M, N) (some (.int (jb_b2i r))) (zE L, M, N) := zg_86 x0 M N h ⟨rfl, rfl⟩
-- X7_fail
set_option maxRecDepth 20000 in
theorem zg_87 {Γ : jb_G} {L : Nat} {d : Nat} (hd : 1 ≤ d) (x1 : Int32) (x2 : Int32) (M : jb_Mi) (N : jb_Ml) {v : Option Value} {σ2 : jb_S} {r : Bool × jb_Mi} (h : zf_87 x1 x2 M = r) (hK : (fun r : Bool × jb_Mi => v = some (.int (jb_b2i r.1)) ∧ σ2 = (zE L, r.2, N)) r) : jb_V Γ d zq_87 0 [some (.ref 43), some (.int x1), some (.int x2)] [] (zE L, M, N) v σ2 := by
  obtain ⟨d, rfl⟩ : ∃ e, d = e + 1 := ⟨d - 1, by omega⟩
  unfold zf_87 at h
  refine jb_seg 3 (pc' := 3) (ls' := [some (.ref 43), some (.int x1), some (.int x2)]) (st' := [(.int x2), (.int x1), (.ref 43)]) (σ' := (zE L, M, N)) (G := []) rfl trivial ?_
  refine jb_callS (q' := zq_74) (As := [(.int x1), (.int x2)]) (rest := [(.ref 43)]) (σ1 := (zE L, M, N)) (v := some (.int (zf_74 x1 x2))) rfl (Nat.le_of_ble_eq_true rfl) rfl zp_74 (jb_cat rfl) (Nat.le_of_ble_eq_true rfl) (Nat.le_of_ble_eq_true rfl) (Or.inl rfl) rfl (ze_74 x1 x2 M N rfl) ?_
  refine jb_seg 2 (pc' := 10) (ls' := [some (.ref 43), some (.int x1), some (.int x2)]) (st' := [(.int 0)]) (σ' := (zE L, (jb_up M 43 3 (zf_74 x1 x2)), N)) (G := []) rfl trivial ?_
  subst h
  obtain ⟨rfl, rfl⟩ := hK
  exact jb_retz (by decide) rfl rfl
theorem ze_87 {Γ : jb_G} {L : Nat} {d : Nat} (hd : 1 ≤ d) (x1 : Int32) (x2 : Int32) (M : jb_Mi) (N : jb_Ml) {r : Bool × jb_Mi} (h : zf_87 x1 x2 M = r) : jb_V Γ d zq_87 0 (jb_en 3 [(.ref 43), (.int x1), (.int x2)]) [] (zE L, M, N) (some (.int (jb_b2i r.1))) (zE L, r.2, N) := zg_87 hd x1 x2 M N h ⟨rfl, rfl⟩
-- X7_readNumber
set_option maxRecDepth 20000 in
theorem zg_88_J71 {Γ : jb_G} {L : Nat} {d : Nat} (hd : 2 ≤ d) (x1 : Int32) (x2 : Int32) (M : jb_Mi) (N : jb_Ml) {v : Option Value} {σ2 : jb_S} {r : ((Int32 × Int32 × jb_Mi) ⊕ (Int32 × jb_Mi))} (h : zf_88_J71 x1 x2 M = some r) (hK : (jb_K (fun s : Int32 × Int32 × jb_Mi => jb_V Γ d zq_88 4 [some (.ref 43), some (.int s.1), some (.int s.2.1), none] [] (zE L, s.2.2, N) v σ2) (fun r : Int32 × jb_Mi => v = some (.int r.1) ∧ σ2 = (zE L, r.2, N))) r) : jb_V Γ d zq_88 71 [some (.ref 43), some (.int x1), some (.int x2), none] [] (zE L, M, N) v σ2 := by
  obtain ⟨d, rfl⟩ : ∃ e, d = e + 1 := ⟨d - 1, by omega⟩
  unfold zf_88_J71 at h
  refine jb_seg 2 (pc' := 4) (ls' := [some (.ref 43), some (.int x1), some (.int (x2 + 1)), none]) (st' := []) (σ' := (zE L, M, N)) (G := []) rfl trivial ?_
  obtain rfl := Option.some.inj h
  exact jb_mask [true, true, true, false] rfl hK
set_option maxRecDepth 20000 in
theorem zg_88_H4 {Γ : jb_G} {L : Nat} {d : Nat} (hd : 2 ≤ d) (N : jb_Ml) (s : Int32 × Int32 × jb_Mi) {v : Option Value} {σ2 : jb_S} {r : ((Int32 × Int32 × jb_Mi) ⊕ (Int32 × jb_Mi))} (h : zf_88_H4 s = some r) (hK : (jb_K (fun s : Int32 × Int32 × jb_Mi => jb_V Γ d zq_88 4 [some (.ref 43), some (.int s.1), some (.int s.2.1), none] [] (zE L, s.2.2, N) v σ2) (fun r : Int32 × jb_Mi => v = some (.int r.1) ∧ σ2 = (zE L, r.2, N))) r) : jb_V Γ d zq_88 4 [some (.ref 43), some (.int s.1), some (.int s.2.1), none] [] (zE L, s.2.2, N) v σ2 := by
  obtain ⟨d, rfl⟩ : ∃ e, d = e + 1 := ⟨d - 1, by omega⟩
  unfold zf_88_H4 at h
  refine jb_seg 3 (pc' := (if 2 < s.2.1 then 77 else 9)) (ls' := [some (.ref 43), some (.int s.1), some (.int s.2.1), none]) (st' := []) (σ' := (zE L, s.2.2, N)) (G := []) rfl trivial ?_
  refine jb_ite (fun c => ?_) (fun c => ?_)
  · replace h := (if_pos c).symm.trans h
    refine jb_seg 4 (pc' := 83) (ls' := [some (.ref 43), some (.int s.1), some (.int s.2.1), none]) (st' := [(.int (s.2.2 43 2)), (.int 2), (.ref 43)]) (σ' := (zE L, s.2.2, N)) (G := []) rfl trivial ?_
    refine jb_callV (q' := zq_87) (As := [(.int 2), (.int (s.2.2 43 2))]) (rest := []) (σ1 := (zE L, (zf_87 2 (s.2.2 43 2) s.2.2).2, N)) (v := some (.int (jb_b2i (zf_87 2 (s.2.2 43 2) s.2.2).1))) rfl rfl zp_87 rfl (Nat.le_of_ble_eq_true rfl) (jb_cat rfl) (Nat.le_of_ble_eq_true rfl) (Nat.le_of_ble_eq_true rfl) (Or.inl rfl) rfl (ze_87 (by omega) 2 (s.2.2 43 2) s.2.2 N rfl) ?_
    refine jb_seg 2 (pc' := 88) (ls' := [some (.ref 43), some (.int s.1), some (.int s.2.1), none]) (st' := [(.int (-1))]) (σ' := (zE L, (zf_87 2 (s.2.2 43 2) s.2.2).2, N)) (G := []) rfl trivial ?_
    obtain rfl := Option.some.inj h
    obtain ⟨rfl, rfl⟩ := hK
    exact jb_reti rfl rfl
  · replace h := (if_neg c).symm.trans h
    refine jb_seg 4 (pc' := 17) (ls' := [some (.ref 43), some (.int s.1), some (.int s.2.1), none]) (st' := [(.int (s.2.2 43 2)), (.ref 2)]) (σ' := (zE L, s.2.2, N)) (G := []) rfl trivial ?_
    obtain ⟨q1, h1, h⟩ := jb_bd_of h
    refine jb_callV (q' := zq_30) (As := [(.int (s.2.2 43 2))]) (rest := []) (σ1 := (zE L, s.2.2, N)) (v := some (.int q1)) rfl rfl zp_30 rfl (Nat.le_of_ble_eq_true rfl) (jb_cat rfl) (Nat.le_of_ble_eq_true rfl) (Nat.le_of_ble_eq_true rfl) (Or.inl rfl) rfl (ze_30 (s.2.2 43 2) s.2.2 N h1) ?_
    refine jb_seg 2 (pc' := 22) (ls' := [some (.ref 43), some (.int s.1), some (.int s.2.1), some (.int q1)]) (st' := [(.int q1)]) (σ' := (zE L, s.2.2, N)) (G := []) rfl trivial ?_
    refine jb_callS (q' := zq_76) (As := [(.int q1)]) (rest := []) (σ1 := (zE L, s.2.2, N)) (v := some (.int (jb_b2i (zf_76 q1)))) rfl (Nat.le_of_ble_eq_true rfl) rfl zp_76 (jb_cat rfl) (Nat.le_of_ble_eq_true rfl) (Nat.le_of_ble_eq_true rfl) (Or.inl rfl) rfl (ze_76 q1 s.2.2 N rfl) ?_
    refine jb_seg 1 (pc' := (if (jb_b2i (zf_76 q1)) = 0 then 28 else 46)) (ls' := [some (.ref 43), some (.int s.1), some (.int s.2.1), some (.int q1)]) (st' := []) (σ' := (zE L, s.2.2, N)) (G := []) rfl trivial ?_
    refine jb_ite (fun c => ?_) (fun c => ?_)
    · replace h := (if_pos c).symm.trans h
      refine jb_seg 2 (pc' := (if 0 < s.2.1 then 32 else 34)) (ls' := [some (.ref 43), some (.int s.1), some (.int s.2.1), some (.int q1)]) (st' := []) (σ' := (zE L, s.2.2, N)) (G := []) rfl trivial ?_
      refine jb_ite (fun c => ?_) (fun c => ?_)
      · replace h := (if_pos c).symm.trans h
        refine jb_seg 1 (pc' := 33) (ls' := [some (.ref 43), some (.int s.1), some (.int s.2.1), some (.int q1)]) (st' := [(.int s.1)]) (σ' := (zE L, s.2.2, N)) (G := []) rfl trivial ?_
        obtain rfl := Option.some.inj h
        obtain ⟨rfl, rfl⟩ := hK
        exact jb_reti rfl rfl
      · replace h := (if_neg c).symm.trans h
        refine jb_seg 4 (pc' := 40) (ls' := [some (.ref 43), some (.int s.1), some (.int s.2.1), some (.int q1)]) (st' := [(.int (s.2.2 43 2)), (.int 1), (.ref 43)]) (σ' := (zE L, s.2.2, N)) (G := []) rfl trivial ?_
        refine jb_callV (q' := zq_87) (As := [(.int 1), (.int (s.2.2 43 2))]) (rest := []) (σ1 := (zE L, (zf_87 1 (s.2.2 43 2) s.2.2).2, N)) (v := some (.int (jb_b2i (zf_87 1 (s.2.2 43 2) s.2.2).1))) rfl rfl zp_87 rfl (Nat.le_of_ble_eq_true rfl) (jb_cat rfl) (Nat.le_of_ble_eq_true rfl) (Nat.le_of_ble_eq_true rfl) (Or.inl rfl) rfl (ze_87 (by omega) 1 (s.2.2 43 2) s.2.2 N rfl) ?_
        refine jb_seg 2 (pc' := 45) (ls' := [some (.ref 43), some (.int s.1), some (.int s.2.1), some (.int q1)]) (st' := [(.int (-1))]) (σ' := (zE L, (zf_87 1 (s.2.2 43 2) s.2.2).2, N)) (G := []) rfl trivial ?_
        obtain rfl := Option.some.inj h
        obtain ⟨rfl, rfl⟩ := hK
        exact jb_reti rfl rfl
    · replace h := (if_neg c).symm.trans h
      refine jb_seg 3 (pc' := (if s.2.1 < 2 then 51 else 71)) (ls' := [some (.ref 43), some (.int s.1), some (.int s.2.1), some (.int q1)]) (st' := []) (σ' := (zE L, s.2.2, N)) (G := []) rfl trivial ?_
      refine jb_ite (fun c => ?_) (fun c => ?_)
      · replace h := (if_pos c).symm.trans h
        refine jb_seg 14 (pc' := 71) (ls' := [some (.ref 43), some (.int (((10 * s.1) + q1) - 48)), some (.int s.2.1), some (.int q1)]) (st' := []) (σ' := (zE L, (jb_up s.2.2 43 2 ((s.2.2 43 2) + 1)), N)) (G := []) rfl trivial ?_
        exact jb_mask [true, true, true, false] rfl (zg_88_J71 hd (((10 * s.1) + q1) - 48) s.2.1 (jb_up s.2.2 43 2 ((s.2.2 43 2) + 1)) N h hK)
      · replace h := (if_neg c).symm.trans h
        exact jb_mask [true, true, true, false] rfl (zg_88_J71 hd s.1 s.2.1 s.2.2 N h hK)
theorem zg_88_H4L {Γ : jb_G} {L : Nat} {d : Nat} (hd : 2 ≤ d) (N : jb_Ml) {v : Option Value} {σ2 : jb_S} {s : Int32 × Int32 × jb_Mi} {r : (Int32 × jb_Mi)} (h : jb_lp (zf_88_H4) s = some r) (hK : (fun r : Int32 × jb_Mi => v = some (.int r.1) ∧ σ2 = (zE L, r.2, N)) r) : jb_V Γ d zq_88 4 [some (.ref 43), some (.int s.1), some (.int s.2.1), none] [] (zE L, s.2.2, N) v σ2 := by
  exact @jb_lp_ind (Int32 × Int32 × jb_Mi) ((Int32 × jb_Mi)) (zf_88_H4) (fun s => jb_V Γ d zq_88 4 [some (.ref 43), some (.int s.1), some (.int s.2.1), none] [] (zE L, s.2.2, N) v σ2) (fun r : Int32 × jb_Mi => v = some (.int r.1) ∧ σ2 = (zE L, r.2, N)) (fun s r h hk => zg_88_H4 hd N s h hk) s r h hK
set_option maxRecDepth 20000 in
theorem zg_88 {Γ : jb_G} {L : Nat} {d : Nat} (hd : 2 ≤ d) (M : jb_Mi) (N : jb_Ml) {v : Option Value} {σ2 : jb_S} {r : (Int32 × jb_Mi)} (h : zf_88 M = some r) (hK : (fun r : Int32 × jb_Mi => v = some (.int r.1) ∧ σ2 = (zE L, r.2, N)) r) : jb_V Γ d zq_88 0 [some (.ref 43), none, none, none] [] (zE L, M, N) v σ2 := by
  obtain ⟨d, rfl⟩ : ∃ e, d = e + 1 := ⟨d - 1, by omega⟩
  unfold zf_88 at h
  refine jb_seg 4 (pc' := 4) (ls' := [some (.ref 43), some (.int 0), some (.int 0), none]) (st' := []) (σ' := (zE L, M, N)) (G := []) rfl trivial ?_
  exact jb_mask [true, true, true, false] rfl (zg_88_H4L hd N h hK)
theorem ze_88 {Γ : jb_G} {L : Nat} {d : Nat} (hd : 2 ≤ d) (M : jb_Mi) (N : jb_Ml) {r : (Int32 × jb_Mi)} (h : zf_88 M = some r) : jb_V Γ d zq_88 0 (jb_en 4 [(.ref 43)]) [] (zE L, M, N) (some (.int r.1)) (zE L, r.2, N) := zg_88 hd M N h ⟨rfl, rfl⟩
-- X7_readRest
set_option maxRecDepth 20000 in
theorem zg_89 {Γ : jb_G} {L : Nat} {d : Nat} (hd : 3 ≤ d) (M : jb_Mi) (N : jb_Ml) {v : Option Value} {σ2 : jb_S} {r : (Bool × jb_Mi)} (h : zf_89 M = some r) (hK : (fun r : Bool × jb_Mi => v = some (.int (jb_b2i r.1)) ∧ σ2 = (zE L, r.2, N)) r) : jb_V Γ d zq_89 0 [some (.ref 43), none, none] [] (zE L, M, N) v σ2 := by
  obtain ⟨d, rfl⟩ : ∃ e, d = e + 1 := ⟨d - 1, by omega⟩
  unfold zf_89 at h
  refine jb_seg 4 (pc' := 8) (ls' := [some (.ref 43), none, none]) (st' := [(.int (M 43 2)), (.ref 2)]) (σ' := (zE L, M, N)) (G := []) rfl trivial ?_
  obtain ⟨q1, h1, h⟩ := jb_bd_of h
  refine jb_callV (q' := zq_30) (As := [(.int (M 43 2))]) (rest := []) (σ1 := (zE L, M, N)) (v := some (.int q1)) rfl rfl zp_30 rfl (Nat.le_of_ble_eq_true rfl) (jb_cat rfl) (Nat.le_of_ble_eq_true rfl) (Nat.le_of_ble_eq_true rfl) (Or.inl rfl) rfl (ze_30 (M 43 2) M N h1) ?_
  refine jb_seg 6 (pc' := 20) (ls' := [some (.ref 43), some (.int (q1 - 97)), none]) (st' := [(.int (q1 - 97)), (.ref 24)]) (σ' := (zE L, M, N)) (G := []) rfl trivial ?_
  obtain ⟨q2, h2, h⟩ := jb_bd_of h
  refine jb_callV (q' := zq_18) (As := [(.int (q1 - 97))]) (rest := []) (σ1 := (zE L, M, N)) (v := some (.int (jb_b2i q2))) rfl rfl zp_18 rfl (Nat.le_of_ble_eq_true rfl) (jb_cat rfl) (Nat.le_of_ble_eq_true rfl) (Nat.le_of_ble_eq_true rfl) (Or.inl rfl) rfl (ze_18 24 (q1 - 97) M N (by decide) h2) ?_
  refine jb_seg 1 (pc' := (if (jb_b2i q2) = 0 then 26 else 37)) (ls' := [some (.ref 43), some (.int (q1 - 97)), none]) (st' := []) (σ' := (zE L, M, N)) (G := []) rfl trivial ?_
  refine jb_ite (fun c => ?_) (fun c => ?_)
  · replace h := (if_pos c).symm.trans h
    refine jb_seg 4 (pc' := 33) (ls' := [some (.ref 43), some (.int (q1 - 97)), none]) (st' := [(.int (M 43 2)), (.int 7), (.ref 43)]) (σ' := (zE L, M, N)) (G := []) rfl trivial ?_
    refine jb_callV (q' := zq_87) (As := [(.int 7), (.int (M 43 2))]) (rest := []) (σ1 := (zE L, (zf_87 7 (M 43 2) M).2, N)) (v := some (.int (jb_b2i (zf_87 7 (M 43 2) M).1))) rfl rfl zp_87 rfl (Nat.le_of_ble_eq_true rfl) (jb_cat rfl) (Nat.le_of_ble_eq_true rfl) (Nat.le_of_ble_eq_true rfl) (Or.inl rfl) rfl (ze_87 (by omega) 7 (M 43 2) M N rfl) ?_
    obtain rfl := Option.some.inj h
    obtain ⟨rfl, rfl⟩ := hK
    exact jb_retz (jb_b2i_or _) rfl rfl
  · replace h := (if_neg c).symm.trans h
    refine jb_seg 7 (pc' := 48) (ls' := [some (.ref 43), some (.int (q1 - 97)), none]) (st' := [(.ref 43)]) (σ' := (zE L, (jb_up M 43 2 ((M 43 2) + 1)), N)) (G := []) rfl trivial ?_
    obtain ⟨q3, h3, h⟩ := jb_bd_of h
    refine jb_callV (q' := zq_88) (As := []) (rest := []) (σ1 := (zE L, q3.2, N)) (v := some (.int q3.1)) rfl rfl zp_88 rfl (Nat.le_of_ble_eq_true rfl) (jb_cat rfl) (Nat.le_of_ble_eq_true rfl) (Nat.le_of_ble_eq_true rfl) (Or.inl rfl) rfl (ze_88 (by omega) (jb_up M 43 2 ((M 43 2) + 1)) N h3) ?_
    refine jb_seg 3 (pc' := (if q3.1 < 0 then 56 else 58)) (ls' := [some (.ref 43), some (.int (q1 - 97)), some (.int q3.1)]) (st' := []) (σ' := (zE L, q3.2, N)) (G := []) rfl trivial ?_
    refine jb_ite (fun c => ?_) (fun c => ?_)
    · replace h := (if_pos c).symm.trans h
      refine jb_seg 1 (pc' := 57) (ls' := [some (.ref 43), some (.int (q1 - 97)), some (.int q3.1)]) (st' := [(.int 0)]) (σ' := (zE L, q3.2, N)) (G := []) rfl trivial ?_
      obtain rfl := Option.some.inj h
      obtain ⟨rfl, rfl⟩ := hK
      exact jb_retz (by decide) rfl rfl
    · replace h := (if_neg c).symm.trans h
      obtain ⟨g4, h⟩ := jb_gd_of h
      refine jb_seg 12 (pc' := 78) (ls' := [some (.ref 43), some (.int (q1 - 97)), some (.int q3.1)]) (st' := [(.int ((q3.2 33 ((q1 - 97)).toNatClampNeg) - q3.1)), (.int 0), (.int (q1 - 97)), (.ref 33)]) (σ' := (zE L, q3.2, N)) (G := [vp_in (q1 - 97) 16]) rfl g4 ?_
      refine jb_callS (q' := zq_271) (As := [(.int 0), (.int ((q3.2 33 ((q1 - 97)).toNatClampNeg) - q3.1))]) (rest := [(.int (q1 - 97)), (.ref 33)]) (σ1 := (zE L, q3.2, N)) (v := some (.int (zf_271 0 ((q3.2 33 ((q1 - 97)).toNatClampNeg) - q3.1)))) rfl (Nat.le_of_ble_eq_true rfl) rfl zp_271 (jb_cat rfl) (Nat.le_of_ble_eq_true rfl) (Nat.le_of_ble_eq_true rfl) (Or.inl rfl) rfl (ze_271 0 ((q3.2 33 ((q1 - 97)).toNatClampNeg) - q3.1) q3.2 N rfl) ?_
      obtain ⟨g5, h⟩ := jb_gd_of h
      refine jb_seg 2 (pc' := 83) (ls' := [some (.ref 43), some (.int (q1 - 97)), some (.int q3.1)]) (st' := [(.int 1)]) (σ' := (zE L, (jb_up q3.2 33 ((q1 - 97)).toNatClampNeg (zf_271 0 ((q3.2 33 ((q1 - 97)).toNatClampNeg) - q3.1))), N)) (G := [vp_in (q1 - 97) 16]) rfl g5 ?_
      obtain rfl := Option.some.inj h
      obtain ⟨rfl, rfl⟩ := hK
      exact jb_retz (by decide) rfl rfl
theorem ze_89 {Γ : jb_G} {L : Nat} {d : Nat} (hd : 3 ≤ d) (M : jb_Mi) (N : jb_Ml) {r : (Bool × jb_Mi)} (h : zf_89 M = some r) : jb_V Γ d zq_89 0 (jb_en 3 [(.ref 43)]) [] (zE L, M, N) (some (.int (jb_b2i r.1))) (zE L, r.2, N) := zg_89 hd M N h ⟨rfl, rfl⟩
-- X7_readSpot
set_option maxRecDepth 20000 in
theorem zg_90_J73 {Γ : jb_G} {L : Nat} {d : Nat} (hd : 2 ≤ d) (x1 : Int32) (x2 : Int32) (M : jb_Mi) (N : jb_Ml) {v : Option Value} {σ2 : jb_S} {r : ((Int32 × jb_Mi) ⊕ (Bool × jb_Mi))} (h : zf_90_J73 x1 x2 M = some r) (hK : (jb_K (fun s : Int32 × jb_Mi => jb_V Γ d zq_90 2 [some (.ref 43), some (.int x1), some (.int s.1), none] [] (zE L, s.2, N) v σ2) (fun r : Bool × jb_Mi => v = some (.int (jb_b2i r.1)) ∧ σ2 = (zE L, r.2, N))) r) : jb_V Γ d zq_90 73 [some (.ref 43), some (.int x1), some (.int x2), none] [] (zE L, M, N) v σ2 := by
  obtain ⟨d, rfl⟩ : ∃ e, d = e + 1 := ⟨d - 1, by omega⟩
  unfold zf_90_J73 at h
  refine jb_seg 8 (pc' := 2) (ls' := [some (.ref 43), some (.int x1), some (.int (x2 + 1)), none]) (st' := []) (σ' := (zE L, (jb_up M 43 2 ((M 43 2) + 1)), N)) (G := []) rfl trivial ?_
  obtain rfl := Option.some.inj h
  exact jb_mask [true, true, true, false] rfl hK
set_option maxRecDepth 20000 in
theorem zg_90_H2 {Γ : jb_G} {L : Nat} {d : Nat} (hd : 2 ≤ d) (x1 : Int32) (N : jb_Ml) (s : Int32 × jb_Mi) {v : Option Value} {σ2 : jb_S} {r : ((Int32 × jb_Mi) ⊕ (Bool × jb_Mi))} (h : zf_90_H2 x1 s = some r) (hK : (jb_K (fun s : Int32 × jb_Mi => jb_V Γ d zq_90 2 [some (.ref 43), some (.int x1), some (.int s.1), none] [] (zE L, s.2, N) v σ2) (fun r : Bool × jb_Mi => v = some (.int (jb_b2i r.1)) ∧ σ2 = (zE L, r.2, N))) r) : jb_V Γ d zq_90 2 [some (.ref 43), some (.int x1), some (.int s.1), none] [] (zE L, s.2, N) v σ2 := by
  obtain ⟨d, rfl⟩ : ∃ e, d = e + 1 := ⟨d - 1, by omega⟩
  unfold zf_90_H2 at h
  refine jb_seg 3 (pc' := (if s.1 < 2 then 7 else 89)) (ls' := [some (.ref 43), some (.int x1), some (.int s.1), none]) (st' := []) (σ' := (zE L, s.2, N)) (G := []) rfl trivial ?_
  refine jb_ite (fun c => ?_) (fun c => ?_)
  · replace h := (if_pos c).symm.trans h
    refine jb_seg 4 (pc' := 15) (ls' := [some (.ref 43), some (.int x1), some (.int s.1), none]) (st' := [(.int (s.2 43 2)), (.ref 2)]) (σ' := (zE L, s.2, N)) (G := []) rfl trivial ?_
    obtain ⟨q1, h1, h⟩ := jb_bd_of h
    refine jb_callV (q' := zq_30) (As := [(.int (s.2 43 2))]) (rest := []) (σ1 := (zE L, s.2, N)) (v := some (.int q1)) rfl rfl zp_30 rfl (Nat.le_of_ble_eq_true rfl) (jb_cat rfl) (Nat.le_of_ble_eq_true rfl) (Nat.le_of_ble_eq_true rfl) (Or.inl rfl) rfl (ze_30 (s.2 43 2) s.2 N h1) ?_
    refine jb_seg 4 (pc' := 24) (ls' := [some (.ref 43), some (.int x1), some (.int s.1), some (.int q1)]) (st' := [(.int 56), (.int 48), (.int q1)]) (σ' := (zE L, s.2, N)) (G := []) rfl trivial ?_
    refine jb_callS (q' := zq_23) (As := [(.int q1), (.int 48), (.int 56)]) (rest := []) (σ1 := (zE L, s.2, N)) (v := some (.int (jb_b2i (zf_23 q1 48 56)))) rfl (Nat.le_of_ble_eq_true rfl) rfl zp_23 (jb_cat rfl) (Nat.le_of_ble_eq_true rfl) (Nat.le_of_ble_eq_true rfl) (Or.inl rfl) rfl (ze_23 q1 48 56 s.2 N rfl) ?_
    refine jb_seg 1 (pc' := (if (jb_b2i (zf_23 q1 48 56)) = 0 then 30 else 40)) (ls' := [some (.ref 43), some (.int x1), some (.int s.1), some (.int q1)]) (st' := []) (σ' := (zE L, s.2, N)) (G := []) rfl trivial ?_
    refine jb_ite (fun c => ?_) (fun c => ?_)
    · replace h := (if_pos c).symm.trans h
      refine jb_seg 4 (pc' := 36) (ls' := [some (.ref 43), some (.int x1), some (.int s.1), some (.int q1)]) (st' := [(.int (s.2 43 2)), (.int 1), (.ref 43)]) (σ' := (zE L, s.2, N)) (G := []) rfl trivial ?_
      refine jb_callV (q' := zq_87) (As := [(.int 1), (.int (s.2 43 2))]) (rest := []) (σ1 := (zE L, (zf_87 1 (s.2 43 2) s.2).2, N)) (v := some (.int (jb_b2i (zf_87 1 (s.2 43 2) s.2).1))) rfl rfl zp_87 rfl (Nat.le_of_ble_eq_true rfl) (jb_cat rfl) (Nat.le_of_ble_eq_true rfl) (Nat.le_of_ble_eq_true rfl) (Or.inl rfl) rfl (ze_87 (by omega) 1 (s.2 43 2) s.2 N rfl) ?_
      obtain rfl := Option.some.inj h
      obtain ⟨rfl, rfl⟩ := hK
      exact jb_retz (jb_b2i_or _) rfl rfl
    · replace h := (if_neg c).symm.trans h
      refine jb_seg 2 (pc' := (if s.1 = 0 then 44 else 60)) (ls' := [some (.ref 43), some (.int x1), some (.int s.1), some (.int q1)]) (st' := []) (σ' := (zE L, s.2, N)) (G := []) rfl trivial ?_
      refine jb_ite (fun c => ?_) (fun c => ?_)
      · replace h := (if_pos c).symm.trans h
        obtain ⟨g2, h⟩ := jb_gd_of h
        refine jb_seg 9 (pc' := 73) (ls' := [some (.ref 43), some (.int x1), some (.int s.1), some (.int q1)]) (st' := []) (σ' := (zE L, (jb_up s.2 29 x1.toNatClampNeg (q1 - 48)), N)) (G := [vp_in x1 24]) rfl g2 ?_
        exact jb_mask [true, true, true, false] rfl (zg_90_J73 hd x1 s.1 (jb_up s.2 29 x1.toNatClampNeg (q1 - 48)) N h hK)
      · replace h := (if_neg c).symm.trans h
        obtain ⟨g3, h⟩ := jb_gd_of h
        refine jb_seg 8 (pc' := 73) (ls' := [some (.ref 43), some (.int x1), some (.int s.1), some (.int q1)]) (st' := []) (σ' := (zE L, (jb_up s.2 30 x1.toNatClampNeg (q1 - 48)), N)) (G := [vp_in x1 24]) rfl g3 ?_
        exact jb_mask [true, true, true, false] rfl (zg_90_J73 hd x1 s.1 (jb_up s.2 30 x1.toNatClampNeg (q1 - 48)) N h hK)
  · replace h := (if_neg c).symm.trans h
    refine jb_seg 1 (pc' := 90) (ls' := [some (.ref 43), some (.int x1), some (.int s.1), none]) (st' := [(.int 1)]) (σ' := (zE L, s.2, N)) (G := []) rfl trivial ?_
    obtain rfl := Option.some.inj h
    obtain ⟨rfl, rfl⟩ := hK
    exact jb_retz (by decide) rfl rfl
theorem zg_90_H2L {Γ : jb_G} {L : Nat} {d : Nat} (hd : 2 ≤ d) (x1 : Int32) (N : jb_Ml) {v : Option Value} {σ2 : jb_S} {s : Int32 × jb_Mi} {r : (Bool × jb_Mi)} (h : jb_lp (zf_90_H2 x1) s = some r) (hK : (fun r : Bool × jb_Mi => v = some (.int (jb_b2i r.1)) ∧ σ2 = (zE L, r.2, N)) r) : jb_V Γ d zq_90 2 [some (.ref 43), some (.int x1), some (.int s.1), none] [] (zE L, s.2, N) v σ2 := by
  exact @jb_lp_ind (Int32 × jb_Mi) ((Bool × jb_Mi)) (zf_90_H2 x1) (fun s => jb_V Γ d zq_90 2 [some (.ref 43), some (.int x1), some (.int s.1), none] [] (zE L, s.2, N) v σ2) (fun r : Bool × jb_Mi => v = some (.int (jb_b2i r.1)) ∧ σ2 = (zE L, r.2, N)) (fun s r h hk => zg_90_H2 hd x1 N s h hk) s r h hK
set_option maxRecDepth 20000 in
theorem zg_90 {Γ : jb_G} {L : Nat} {d : Nat} (hd : 2 ≤ d) (x1 : Int32) (M : jb_Mi) (N : jb_Ml) {v : Option Value} {σ2 : jb_S} {r : (Bool × jb_Mi)} (h : zf_90 x1 M = some r) (hK : (fun r : Bool × jb_Mi => v = some (.int (jb_b2i r.1)) ∧ σ2 = (zE L, r.2, N)) r) : jb_V Γ d zq_90 0 [some (.ref 43), some (.int x1), none, none] [] (zE L, M, N) v σ2 := by
  obtain ⟨d, rfl⟩ : ∃ e, d = e + 1 := ⟨d - 1, by omega⟩
  unfold zf_90 at h
  refine jb_seg 2 (pc' := 2) (ls' := [some (.ref 43), some (.int x1), some (.int 0), none]) (st' := []) (σ' := (zE L, M, N)) (G := []) rfl trivial ?_
  exact jb_mask [true, true, true, false] rfl (zg_90_H2L hd x1 N h hK)
theorem ze_90 {Γ : jb_G} {L : Nat} {d : Nat} (hd : 2 ≤ d) (x1 : Int32) (M : jb_Mi) (N : jb_Ml) {r : (Bool × jb_Mi)} (h : zf_90 x1 M = some r) : jb_V Γ d zq_90 0 (jb_en 4 [(.ref 43), (.int x1)]) [] (zE L, M, N) (some (.int (jb_b2i r.1))) (zE L, r.2, N) := zg_90 hd x1 M N h ⟨rfl, rfl⟩
-- X7_readHouse
set_option maxRecDepth 20000 in
theorem zg_91 {Γ : jb_G} {L : Nat} {d : Nat} (hd : 2 ≤ d) (x1 : Int32) (M : jb_Mi) (N : jb_Ml) {v : Option Value} {σ2 : jb_S} {r : (Bool × jb_Mi)} (h : zf_91 x1 M = some r) (hK : (fun r : Bool × jb_Mi => v = some (.int (jb_b2i r.1)) ∧ σ2 = (zE L, r.2, N)) r) : jb_V Γ d zq_91 0 [some (.ref 43), some (.int x1), none] [] (zE L, M, N) v σ2 := by
  obtain ⟨d, rfl⟩ : ∃ e, d = e + 1 := ⟨d - 1, by omega⟩
  unfold zf_91 at h
  refine jb_seg 4 (pc' := 8) (ls' := [some (.ref 43), some (.int x1), none]) (st' := [(.int (M 43 2)), (.ref 2)]) (σ' := (zE L, M, N)) (G := []) rfl trivial ?_
  obtain ⟨q1, h1, h⟩ := jb_bd_of h
  refine jb_callV (q' := zq_30) (As := [(.int (M 43 2))]) (rest := []) (σ1 := (zE L, M, N)) (v := some (.int q1)) rfl rfl zp_30 rfl (Nat.le_of_ble_eq_true rfl) (jb_cat rfl) (Nat.le_of_ble_eq_true rfl) (Nat.le_of_ble_eq_true rfl) (Or.inl rfl) rfl (ze_30 (M 43 2) M N h1) ?_
  refine jb_seg 4 (pc' := 17) (ls' := [some (.ref 43), some (.int x1), some (.int q1)]) (st' := [(.int 53), (.int 48), (.int q1)]) (σ' := (zE L, M, N)) (G := []) rfl trivial ?_
  refine jb_callS (q' := zq_23) (As := [(.int q1), (.int 48), (.int 53)]) (rest := []) (σ1 := (zE L, M, N)) (v := some (.int (jb_b2i (zf_23 q1 48 53)))) rfl (Nat.le_of_ble_eq_true rfl) rfl zp_23 (jb_cat rfl) (Nat.le_of_ble_eq_true rfl) (Nat.le_of_ble_eq_true rfl) (Or.inl rfl) rfl (ze_23 q1 48 53 M N rfl) ?_
  refine jb_seg 1 (pc' := (if (jb_b2i (zf_23 q1 48 53)) = 0 then 23 else 33)) (ls' := [some (.ref 43), some (.int x1), some (.int q1)]) (st' := []) (σ' := (zE L, M, N)) (G := []) rfl trivial ?_
  refine jb_ite (fun c => ?_) (fun c => ?_)
  · replace h := (if_pos c).symm.trans h
    refine jb_seg 4 (pc' := 29) (ls' := [some (.ref 43), some (.int x1), some (.int q1)]) (st' := [(.int (M 43 2)), (.int 1), (.ref 43)]) (σ' := (zE L, M, N)) (G := []) rfl trivial ?_
    refine jb_callV (q' := zq_87) (As := [(.int 1), (.int (M 43 2))]) (rest := []) (σ1 := (zE L, (zf_87 1 (M 43 2) M).2, N)) (v := some (.int (jb_b2i (zf_87 1 (M 43 2) M).1))) rfl rfl zp_87 rfl (Nat.le_of_ble_eq_true rfl) (jb_cat rfl) (Nat.le_of_ble_eq_true rfl) (Nat.le_of_ble_eq_true rfl) (Or.inl rfl) rfl (ze_87 (by omega) 1 (M 43 2) M N rfl) ?_
    obtain rfl := Option.some.inj h
    obtain ⟨rfl, rfl⟩ := hK
    exact jb_retz (jb_b2i_or _) rfl rfl
  · replace h := (if_neg c).symm.trans h
    refine jb_seg 5 (pc' := 41) (ls' := [some (.ref 43), some (.int x1), some (.int q1)]) (st' := [(.int (q1 - 48)), (.ref 24)]) (σ' := (zE L, M, N)) (G := []) rfl trivial ?_
    obtain ⟨q2, h2, h⟩ := jb_bd_of h
    refine jb_callV (q' := zq_2) (As := [(.int (q1 - 48))]) (rest := []) (σ1 := (zE L, M, N)) (v := some (.int (jb_b2i q2))) rfl rfl zp_2 rfl (Nat.le_of_ble_eq_true rfl) (jb_cat rfl) (Nat.le_of_ble_eq_true rfl) (Nat.le_of_ble_eq_true rfl) (Or.inl rfl) rfl (ze_2 24 (q1 - 48) M N (by decide) h2) ?_
    refine jb_seg 1 (pc' := (if (jb_b2i q2) = 0 then 47 else 58)) (ls' := [some (.ref 43), some (.int x1), some (.int q1)]) (st' := []) (σ' := (zE L, M, N)) (G := []) rfl trivial ?_
    refine jb_ite (fun c => ?_) (fun c => ?_)
    · replace h := (if_pos c).symm.trans h
      refine jb_seg 4 (pc' := 54) (ls' := [some (.ref 43), some (.int x1), some (.int q1)]) (st' := [(.int (M 43 2)), (.int 7), (.ref 43)]) (σ' := (zE L, M, N)) (G := []) rfl trivial ?_
      refine jb_callV (q' := zq_87) (As := [(.int 7), (.int (M 43 2))]) (rest := []) (σ1 := (zE L, (zf_87 7 (M 43 2) M).2, N)) (v := some (.int (jb_b2i (zf_87 7 (M 43 2) M).1))) rfl rfl zp_87 rfl (Nat.le_of_ble_eq_true rfl) (jb_cat rfl) (Nat.le_of_ble_eq_true rfl) (Nat.le_of_ble_eq_true rfl) (Or.inl rfl) rfl (ze_87 (by omega) 7 (M 43 2) M N rfl) ?_
      obtain rfl := Option.some.inj h
      obtain ⟨rfl, rfl⟩ := hK
      exact jb_retz (jb_b2i_or _) rfl rfl
    · replace h := (if_neg c).symm.trans h
      obtain ⟨g3, h⟩ := jb_gd_of h
      refine jb_seg 15 (pc' := 82) (ls' := [some (.ref 43), some (.int x1), some (.int q1)]) (st' := [(.int 1)]) (σ' := (zE L, (jb_up (jb_up M 28 x1.toNatClampNeg (q1 - 48)) 43 2 (((jb_up M 28 x1.toNatClampNeg (q1 - 48)) 43 2) + 1)), N)) (G := [vp_in x1 24]) rfl g3 ?_
      obtain rfl := Option.some.inj h
      obtain ⟨rfl, rfl⟩ := hK
      exact jb_retz (by decide) rfl rfl
theorem ze_91 {Γ : jb_G} {L : Nat} {d : Nat} (hd : 2 ≤ d) (x1 : Int32) (M : jb_Mi) (N : jb_Ml) {r : (Bool × jb_Mi)} (h : zf_91 x1 M = some r) : jb_V Γ d zq_91 0 (jb_en 3 [(.ref 43), (.int x1)]) [] (zE L, M, N) (some (.int (jb_b2i r.1))) (zE L, r.2, N) := zg_91 hd x1 M N h ⟨rfl, rfl⟩
-- X7_readThing
set_option maxRecDepth 20000 in
theorem zg_92 {Γ : jb_G} {L : Nat} {d : Nat} (hd : 3 ≤ d) (M : jb_Mi) (N : jb_Ml) {v : Option Value} {σ2 : jb_S} {r : (Bool × jb_Mi)} (h : zf_92 M = some r) (hK : (fun r : Bool × jb_Mi => v = some (.int (jb_b2i r.1)) ∧ σ2 = (zE L, r.2, N)) r) : jb_V Γ d zq_92 0 [some (.ref 43), none, none, none] [] (zE L, M, N) v σ2 := by
  obtain ⟨d, rfl⟩ : ∃ e, d = e + 1 := ⟨d - 1, by omega⟩
  unfold zf_92 at h
  refine jb_seg 4 (pc' := 6) (ls' := [some (.ref 43), some (.int (M 43 2)), none, none]) (st' := [(.ref 43)]) (σ' := (zE L, M, N)) (G := []) rfl trivial ?_
  obtain ⟨q1, h1, h⟩ := jb_bd_of h
  refine jb_callV (q' := zq_88) (As := []) (rest := []) (σ1 := (zE L, q1.2, N)) (v := some (.int q1.1)) rfl rfl zp_88 rfl (Nat.le_of_ble_eq_true rfl) (jb_cat rfl) (Nat.le_of_ble_eq_true rfl) (Nat.le_of_ble_eq_true rfl) (Or.inl rfl) rfl (ze_88 (by omega) M N h1) ?_
  refine jb_seg 3 (pc' := (if q1.1 < 0 then 14 else 16)) (ls' := [some (.ref 43), some (.int (M 43 2)), some (.int q1.1), none]) (st' := []) (σ' := (zE L, q1.2, N)) (G := []) rfl trivial ?_
  refine jb_ite (fun c => ?_) (fun c => ?_)
  · replace h := (if_pos c).symm.trans h
    refine jb_seg 1 (pc' := 15) (ls' := [some (.ref 43), some (.int (M 43 2)), some (.int q1.1), none]) (st' := [(.int 0)]) (σ' := (zE L, q1.2, N)) (G := []) rfl trivial ?_
    obtain rfl := Option.some.inj h
    obtain ⟨rfl, rfl⟩ := hK
    exact jb_retz (by decide) rfl rfl
  · replace h := (if_neg c).symm.trans h
    refine jb_seg 3 (pc' := 21) (ls' := [some (.ref 43), some (.int (M 43 2)), some (.int q1.1), none]) (st' := [(.int q1.1), (.ref 24)]) (σ' := (zE L, q1.2, N)) (G := []) rfl trivial ?_
    obtain ⟨q2, h2, h⟩ := jb_bd_of h
    refine jb_callV (q' := zq_3) (As := [(.int q1.1)]) (rest := []) (σ1 := (zE L, q1.2, N)) (v := some (.int (jb_b2i q2))) rfl rfl zp_3 rfl (Nat.le_of_ble_eq_true rfl) (jb_cat rfl) (Nat.le_of_ble_eq_true rfl) (Nat.le_of_ble_eq_true rfl) (Or.inl rfl) rfl (ze_3 24 q1.1 q1.2 N (by decide) h2) ?_
    refine jb_seg 1 (pc' := (if (jb_b2i q2) = 0 then 27 else 35)) (ls' := [some (.ref 43), some (.int (M 43 2)), some (.int q1.1), none]) (st' := []) (σ' := (zE L, q1.2, N)) (G := []) rfl trivial ?_
    refine jb_ite (fun c => ?_) (fun c => ?_)
    · replace h := (if_pos c).symm.trans h
      refine jb_seg 3 (pc' := 31) (ls' := [some (.ref 43), some (.int (M 43 2)), some (.int q1.1), none]) (st' := [(.int (M 43 2)), (.int 7), (.ref 43)]) (σ' := (zE L, q1.2, N)) (G := []) rfl trivial ?_
      refine jb_callV (q' := zq_87) (As := [(.int 7), (.int (M 43 2))]) (rest := []) (σ1 := (zE L, (zf_87 7 (M 43 2) q1.2).2, N)) (v := some (.int (jb_b2i (zf_87 7 (M 43 2) q1.2).1))) rfl rfl zp_87 rfl (Nat.le_of_ble_eq_true rfl) (jb_cat rfl) (Nat.le_of_ble_eq_true rfl) (Nat.le_of_ble_eq_true rfl) (Or.inl rfl) rfl (ze_87 (by omega) 7 (M 43 2) q1.2 N rfl) ?_
      obtain rfl := Option.some.inj h
      obtain ⟨rfl, rfl⟩ := hK
      exact jb_retz (jb_b2i_or _) rfl rfl
    · replace h := (if_neg c).symm.trans h
      refine jb_seg 4 (pc' := 43) (ls' := [some (.ref 43), some (.int (M 43 2)), some (.int q1.1), none]) (st' := [(.int (q1.2 43 2)), (.ref 2)]) (σ' := (zE L, q1.2, N)) (G := []) rfl trivial ?_
      obtain ⟨q3, h3, h⟩ := jb_bd_of h
      refine jb_callV (q' := zq_30) (As := [(.int (q1.2 43 2))]) (rest := []) (σ1 := (zE L, q1.2, N)) (v := some (.int q3)) rfl rfl zp_30 rfl (Nat.le_of_ble_eq_true rfl) (jb_cat rfl) (Nat.le_of_ble_eq_true rfl) (Nat.le_of_ble_eq_true rfl) (Or.inl rfl) rfl (ze_30 (q1.2 43 2) q1.2 N h3) ?_
      refine jb_seg 2 (pc' := 48) (ls' := [some (.ref 43), some (.int (M 43 2)), some (.int q1.1), some (.int q3)]) (st' := [(.int q3)]) (σ' := (zE L, q1.2, N)) (G := []) rfl trivial ?_
      refine jb_lsw [(33, 116), (62, 84), (64, 100)] 138 rfl (by decide +kernel) (by decide +kernel) ?_
      refine jb_swc (fun c => ?_) (fun c => ?_)
      · replace h := (if_pos c).symm.trans h
        obtain ⟨g4, h⟩ := jb_gd_of h
        refine jb_seg 13 (pc' := 137) (ls' := [some (.ref 43), some (.int (M 43 2)), some (.int q1.1), some (.int q3)]) (st' := [(.int 1)]) (σ' := (zE L, (jb_up (jb_up q1.2 43 2 ((q1.2 43 2) + 1)) 31 (q1.1).toNatClampNeg 0), N)) (G := [vp_in q1.1 24]) rfl g4 ?_
        obtain rfl := Option.some.inj h
        obtain ⟨rfl, rfl⟩ := hK
        exact jb_retz (by decide) rfl rfl
      · replace h := (if_neg c).symm.trans h
        refine jb_swc (fun c => ?_) (fun c => ?_)
        · replace h := (if_pos c).symm.trans h
          refine jb_seg 8 (pc' := 96) (ls' := [some (.ref 43), some (.int (M 43 2)), some (.int q1.1), some (.int q3)]) (st' := [(.int q1.1), (.ref 43)]) (σ' := (zE L, (jb_up q1.2 43 2 ((q1.2 43 2) + 1)), N)) (G := []) rfl trivial ?_
          obtain ⟨q5, h5, h⟩ := jb_bd_of h
          refine jb_callV (q' := zq_90) (As := [(.int q1.1)]) (rest := []) (σ1 := (zE L, q5.2, N)) (v := some (.int (jb_b2i q5.1))) rfl rfl zp_90 rfl (Nat.le_of_ble_eq_true rfl) (jb_cat rfl) (Nat.le_of_ble_eq_true rfl) (Nat.le_of_ble_eq_true rfl) (Or.inl rfl) rfl (ze_90 (by omega) q1.1 (jb_up q1.2 43 2 ((q1.2 43 2) + 1)) N h5) ?_
          obtain rfl := Option.some.inj h
          obtain ⟨rfl, rfl⟩ := hK
          exact jb_retz (jb_b2i_or _) rfl rfl
        · replace h := (if_neg c).symm.trans h
          refine jb_swc (fun c => ?_) (fun c => ?_)
          · replace h := (if_pos c).symm.trans h
            refine jb_seg 8 (pc' := 112) (ls' := [some (.ref 43), some (.int (M 43 2)), some (.int q1.1), some (.int q3)]) (st' := [(.int q1.1), (.ref 43)]) (σ' := (zE L, (jb_up q1.2 43 2 ((q1.2 43 2) + 1)), N)) (G := []) rfl trivial ?_
            obtain ⟨q6, h6, h⟩ := jb_bd_of h
            refine jb_callV (q' := zq_91) (As := [(.int q1.1)]) (rest := []) (σ1 := (zE L, q6.2, N)) (v := some (.int (jb_b2i q6.1))) rfl rfl zp_91 rfl (Nat.le_of_ble_eq_true rfl) (jb_cat rfl) (Nat.le_of_ble_eq_true rfl) (Nat.le_of_ble_eq_true rfl) (Or.inl rfl) rfl (ze_91 (by omega) q1.1 (jb_up q1.2 43 2 ((q1.2 43 2) + 1)) N h6) ?_
            obtain rfl := Option.some.inj h
            obtain ⟨rfl, rfl⟩ := hK
            exact jb_retz (jb_b2i_or _) rfl rfl
          · replace h := (if_neg c).symm.trans h
            refine jb_swn ?_
            refine jb_seg 4 (pc' := 144) (ls' := [some (.ref 43), some (.int (M 43 2)), some (.int q1.1), some (.int q3)]) (st' := [(.int (q1.2 43 2)), (.int 1), (.ref 43)]) (σ' := (zE L, q1.2, N)) (G := []) rfl trivial ?_
            refine jb_callV (q' := zq_87) (As := [(.int 1), (.int (q1.2 43 2))]) (rest := []) (σ1 := (zE L, (zf_87 1 (q1.2 43 2) q1.2).2, N)) (v := some (.int (jb_b2i (zf_87 1 (q1.2 43 2) q1.2).1))) rfl rfl zp_87 rfl (Nat.le_of_ble_eq_true rfl) (jb_cat rfl) (Nat.le_of_ble_eq_true rfl) (Nat.le_of_ble_eq_true rfl) (Or.inl rfl) rfl (ze_87 (by omega) 1 (q1.2 43 2) q1.2 N rfl) ?_
            obtain rfl := Option.some.inj h
            obtain ⟨rfl, rfl⟩ := hK
            exact jb_retz (jb_b2i_or _) rfl rfl
theorem ze_92 {Γ : jb_G} {L : Nat} {d : Nat} (hd : 3 ≤ d) (M : jb_Mi) (N : jb_Ml) {r : (Bool × jb_Mi)} (h : zf_92 M = some r) : jb_V Γ d zq_92 0 (jb_en 4 [(.ref 43)]) [] (zE L, M, N) (some (.int (jb_b2i r.1))) (zE L, r.2, N) := zg_92 hd M N h ⟨rfl, rfl⟩
-- X7_read
set_option maxRecDepth 20000 in
theorem zg_93_J97 {Γ : jb_G} {L : Nat} {d : Nat} (hd : 4 ≤ d) (x1 : Int32) (M : jb_Mi) (N : jb_Ml) {v : Option Value} {σ2 : jb_S} {r : ((Int32 × jb_Mi) ⊕ (Int32 × jb_Mi))} (h : zf_93_J97 x1 M = some r) (hK : (jb_K (fun s : Int32 × jb_Mi => jb_V Γ d zq_93 12 [some (.ref 43), some (.int s.1), none] [] (zE L, s.2, N) v σ2) (fun r : Int32 × jb_Mi => v = some (.int r.1) ∧ σ2 = (zE L, r.2, N))) r) : jb_V Γ d zq_93 97 [some (.ref 43), some (.int x1), none] [] (zE L, M, N) v σ2 := by
  obtain ⟨d, rfl⟩ : ∃ e, d = e + 1 := ⟨d - 1, by omega⟩
  unfold zf_93_J97 at h
  refine jb_seg 4 (pc' := 105) (ls' := [some (.ref 43), some (.int x1), none]) (st' := [(.int (M 43 2)), (.ref 2)]) (σ' := (zE L, M, N)) (G := []) rfl trivial ?_
  obtain ⟨q3, h3, h⟩ := jb_bd_of h
  refine jb_callV (q' := zq_30) (As := [(.int (M 43 2))]) (rest := []) (σ1 := (zE L, M, N)) (v := some (.int q3)) rfl rfl zp_30 rfl (Nat.le_of_ble_eq_true rfl) (jb_cat rfl) (Nat.le_of_ble_eq_true rfl) (Nat.le_of_ble_eq_true rfl) (Or.inl rfl) rfl (ze_30 (M 43 2) M N h3) ?_
  refine jb_seg 2 (pc' := (if q3 = (-1) then 112 else 116)) (ls' := [some (.ref 43), some (.int x1), none]) (st' := []) (σ' := (zE L, M, N)) (G := []) rfl trivial ?_
  refine jb_ite (fun c => ?_) (fun c => ?_)
  · replace h := (if_pos c).symm.trans h
    refine jb_seg 3 (pc' := 115) (ls' := [some (.ref 43), some (.int x1), none]) (st' := [(.int (x1 + 1))]) (σ' := (zE L, M, N)) (G := []) rfl trivial ?_
    obtain rfl := Option.some.inj h
    obtain ⟨rfl, rfl⟩ := hK
    exact jb_reti rfl rfl
  · replace h := (if_neg c).symm.trans h
    refine jb_seg 4 (pc' := 124) (ls' := [some (.ref 43), some (.int x1), none]) (st' := [(.int (M 43 2)), (.ref 2)]) (σ' := (zE L, M, N)) (G := []) rfl trivial ?_
    obtain ⟨q4, h4, h⟩ := jb_bd_of h
    refine jb_callV (q' := zq_30) (As := [(.int (M 43 2))]) (rest := []) (σ1 := (zE L, M, N)) (v := some (.int q4)) rfl rfl zp_30 rfl (Nat.le_of_ble_eq_true rfl) (jb_cat rfl) (Nat.le_of_ble_eq_true rfl) (Nat.le_of_ble_eq_true rfl) (Or.inl rfl) rfl (ze_30 (M 43 2) M N h4) ?_
    refine jb_seg 2 (pc' := (if q4 = 59 then 141 else 132)) (ls' := [some (.ref 43), some (.int x1), none]) (st' := []) (σ' := (zE L, M, N)) (G := []) rfl trivial ?_
    refine jb_ite (fun c => ?_) (fun c => ?_)
    · replace h := (if_pos c).symm.trans h
      refine jb_seg 8 (pc' := 12) (ls' := [some (.ref 43), some (.int (x1 + 1)), none]) (st' := []) (σ' := (zE L, (jb_up M 43 2 ((M 43 2) + 1)), N)) (G := []) rfl trivial ?_
      obtain rfl := Option.some.inj h
      exact jb_mask [true, true, false] rfl hK
    · replace h := (if_neg c).symm.trans h
      refine jb_seg 3 (pc' := 137) (ls' := [some (.ref 43), some (.int x1), none]) (st' := [(.int (M 43 2)), (.int 1)]) (σ' := (zE L, M, N)) (G := []) rfl trivial ?_
      refine jb_callS (q' := zq_74) (As := [(.int 1), (.int (M 43 2))]) (rest := []) (σ1 := (zE L, M, N)) (v := some (.int (zf_74 1 (M 43 2)))) rfl (Nat.le_of_ble_eq_true rfl) rfl zp_74 (jb_cat rfl) (Nat.le_of_ble_eq_true rfl) (Nat.le_of_ble_eq_true rfl) (Or.inl rfl) rfl (ze_74 1 (M 43 2) M N rfl) ?_
      obtain rfl := Option.some.inj h
      obtain ⟨rfl, rfl⟩ := hK
      exact jb_reti rfl rfl
set_option maxRecDepth 20000 in
theorem zg_93_J53 {Γ : jb_G} {L : Nat} {d : Nat} (hd : 4 ≤ d) (x1 : Int32) (x2 : Int32) (M : jb_Mi) (N : jb_Ml) {v : Option Value} {σ2 : jb_S} {r : ((Int32 × jb_Mi) ⊕ (Int32 × jb_Mi))} (h : zf_93_J53 x1 x2 M = some r) (hK : (jb_K (fun s : Int32 × jb_Mi => jb_V Γ d zq_93 12 [some (.ref 43), some (.int s.1), none] [] (zE L, s.2, N) v σ2) (fun r : Int32 × jb_Mi => v = some (.int r.1) ∧ σ2 = (zE L, r.2, N))) r) : jb_V Γ d zq_93 53 [some (.ref 43), some (.int x1), some (.int x2)] [] (zE L, M, N) v σ2 := by
  obtain ⟨d, rfl⟩ : ∃ e, d = e + 1 := ⟨d - 1, by omega⟩
  unfold zf_93_J53 at h
  refine jb_seg 3 (pc' := (if x1 = 20 then 59 else 68)) (ls' := [some (.ref 43), some (.int x1), some (.int x2)]) (st' := []) (σ' := (zE L, M, N)) (G := []) rfl trivial ?_
  refine jb_ite (fun c => ?_) (fun c => ?_)
  · replace h := (if_pos c).symm.trans h
    refine jb_seg 3 (pc' := 64) (ls' := [some (.ref 43), some (.int x1), some (.int x2)]) (st' := [(.int (M 43 2)), (.int 4)]) (σ' := (zE L, M, N)) (G := []) rfl trivial ?_
    refine jb_callS (q' := zq_74) (As := [(.int 4), (.int (M 43 2))]) (rest := []) (σ1 := (zE L, M, N)) (v := some (.int (zf_74 4 (M 43 2)))) rfl (Nat.le_of_ble_eq_true rfl) rfl zp_74 (jb_cat rfl) (Nat.le_of_ble_eq_true rfl) (Nat.le_of_ble_eq_true rfl) (Or.inl rfl) rfl (ze_74 4 (M 43 2) M N rfl) ?_
    obtain rfl := Option.some.inj h
    obtain ⟨rfl, rfl⟩ := hK
    exact jb_reti rfl rfl
  · replace h := (if_neg c).symm.trans h
    refine jb_seg 1 (pc' := 69) (ls' := [some (.ref 43), some (.int x1), some (.int x2)]) (st' := [(.int x2)]) (σ' := (zE L, M, N)) (G := []) rfl trivial ?_
    refine jb_callS (q' := zq_86) (As := [(.int x2)]) (rest := []) (σ1 := (zE L, M, N)) (v := some (.int (jb_b2i (zf_86 x2)))) rfl (Nat.le_of_ble_eq_true rfl) rfl zp_86 (jb_cat rfl) (Nat.le_of_ble_eq_true rfl) (Nat.le_of_ble_eq_true rfl) (Or.inl rfl) rfl (ze_86 x2 M N rfl) ?_
    refine jb_seg 1 (pc' := (if (jb_b2i (zf_86 x2)) = 0 then 85 else 75)) (ls' := [some (.ref 43), some (.int x1), some (.int x2)]) (st' := []) (σ' := (zE L, M, N)) (G := []) rfl trivial ?_
    refine jb_ite (fun c => ?_) (fun c => ?_)
    · replace h := (if_pos c).symm.trans h
      refine jb_seg 1 (pc' := 86) (ls' := [some (.ref 43), some (.int x1), some (.int x2)]) (st' := [(.ref 43)]) (σ' := (zE L, M, N)) (G := []) rfl trivial ?_
      obtain ⟨q2, h2, h⟩ := jb_bd_of h
      refine jb_callV (q' := zq_92) (As := []) (rest := []) (σ1 := (zE L, q2.2, N)) (v := some (.int (jb_b2i q2.1))) rfl rfl zp_92 rfl (Nat.le_of_ble_eq_true rfl) (jb_cat rfl) (Nat.le_of_ble_eq_true rfl) (Nat.le_of_ble_eq_true rfl) (Or.inl rfl) rfl (ze_92 (by omega) M N h2) ?_
      refine jb_seg 1 (pc' := (if (jb_b2i q2.1) = 0 then 92 else 97)) (ls' := [some (.ref 43), some (.int x1), some (.int x2)]) (st' := []) (σ' := (zE L, q2.2, N)) (G := []) rfl trivial ?_
      refine jb_ite (fun c => ?_) (fun c => ?_)
      · replace h := (if_pos c).symm.trans h
        refine jb_seg 2 (pc' := 96) (ls' := [some (.ref 43), some (.int x1), some (.int x2)]) (st' := [(.int (q2.2 43 3))]) (σ' := (zE L, q2.2, N)) (G := []) rfl trivial ?_
        obtain rfl := Option.some.inj h
        obtain ⟨rfl, rfl⟩ := hK
        exact jb_reti rfl rfl
      · replace h := (if_neg c).symm.trans h
        exact jb_mask [true, true, false] rfl (zg_93_J97 hd x1 q2.2 N h hK)
    · replace h := (if_neg c).symm.trans h
      refine jb_seg 1 (pc' := 76) (ls' := [some (.ref 43), some (.int x1), some (.int x2)]) (st' := [(.ref 43)]) (σ' := (zE L, M, N)) (G := []) rfl trivial ?_
      obtain ⟨q5, h5, h⟩ := jb_bd_of h
      refine jb_callV (q' := zq_89) (As := []) (rest := []) (σ1 := (zE L, q5.2, N)) (v := some (.int (jb_b2i q5.1))) rfl rfl zp_89 rfl (Nat.le_of_ble_eq_true rfl) (jb_cat rfl) (Nat.le_of_ble_eq_true rfl) (Nat.le_of_ble_eq_true rfl) (Or.inl rfl) rfl (ze_89 (by omega) M N h5) ?_
      refine jb_seg 1 (pc' := (if (jb_b2i q5.1) = 0 then 92 else 82)) (ls' := [some (.ref 43), some (.int x1), some (.int x2)]) (st' := []) (σ' := (zE L, q5.2, N)) (G := []) rfl trivial ?_
      refine jb_ite (fun c => ?_) (fun c => ?_)
      · replace h := (if_pos c).symm.trans h
        refine jb_seg 2 (pc' := 96) (ls' := [some (.ref 43), some (.int x1), some (.int x2)]) (st' := [(.int (q5.2 43 3))]) (σ' := (zE L, q5.2, N)) (G := []) rfl trivial ?_
        obtain rfl := Option.some.inj h
        obtain ⟨rfl, rfl⟩ := hK
        exact jb_reti rfl rfl
      · replace h := (if_neg c).symm.trans h
        refine jb_seg 1 (pc' := 97) (ls' := [some (.ref 43), some (.int x1), some (.int x2)]) (st' := []) (σ' := (zE L, q5.2, N)) (G := []) rfl trivial ?_
        exact jb_mask [true, true, false] rfl (zg_93_J97 hd x1 q5.2 N h hK)
set_option maxRecDepth 20000 in
theorem zg_93_H12 {Γ : jb_G} {L : Nat} {d : Nat} (hd : 4 ≤ d) (N : jb_Ml) (s : Int32 × jb_Mi) {v : Option Value} {σ2 : jb_S} {r : ((Int32 × jb_Mi) ⊕ (Int32 × jb_Mi))} (h : zf_93_H12 s = some r) (hK : (jb_K (fun s : Int32 × jb_Mi => jb_V Γ d zq_93 12 [some (.ref 43), some (.int s.1), none] [] (zE L, s.2, N) v σ2) (fun r : Int32 × jb_Mi => v = some (.int r.1) ∧ σ2 = (zE L, r.2, N))) r) : jb_V Γ d zq_93 12 [some (.ref 43), some (.int s.1), none] [] (zE L, s.2, N) v σ2 := by
  obtain ⟨d, rfl⟩ : ∃ e, d = e + 1 := ⟨d - 1, by omega⟩
  unfold zf_93_H12 at h
  refine jb_seg 3 (pc' := (if 20 < s.1 then 157 else 18)) (ls' := [some (.ref 43), some (.int s.1), none]) (st' := []) (σ' := (zE L, s.2, N)) (G := []) rfl trivial ?_
  refine jb_ite (fun c => ?_) (fun c => ?_)
  · replace h := (if_pos c).symm.trans h
    refine jb_seg 2 (pc' := 161) (ls' := [some (.ref 43), some (.int s.1), none]) (st' := [(.int (s.2 43 3))]) (σ' := (zE L, s.2, N)) (G := []) rfl trivial ?_
    obtain rfl := Option.some.inj h
    obtain ⟨rfl, rfl⟩ := hK
    exact jb_reti rfl rfl
  · replace h := (if_neg c).symm.trans h
    refine jb_seg 4 (pc' := 26) (ls' := [some (.ref 43), some (.int s.1), none]) (st' := [(.int (s.2 43 2)), (.ref 2)]) (σ' := (zE L, s.2, N)) (G := []) rfl trivial ?_
    obtain ⟨q1, h1, h⟩ := jb_bd_of h
    refine jb_callV (q' := zq_30) (As := [(.int (s.2 43 2))]) (rest := []) (σ1 := (zE L, s.2, N)) (v := some (.int q1)) rfl rfl zp_30 rfl (Nat.le_of_ble_eq_true rfl) (jb_cat rfl) (Nat.le_of_ble_eq_true rfl) (Nat.le_of_ble_eq_true rfl) (Or.inl rfl) rfl (ze_30 (s.2 43 2) s.2 N h1) ?_
    refine jb_seg 2 (pc' := 31) (ls' := [some (.ref 43), some (.int s.1), some (.int q1)]) (st' := [(.int q1)]) (σ' := (zE L, s.2, N)) (G := []) rfl trivial ?_
    refine jb_callS (q' := zq_86) (As := [(.int q1)]) (rest := []) (σ1 := (zE L, s.2, N)) (v := some (.int (jb_b2i (zf_86 q1)))) rfl (Nat.le_of_ble_eq_true rfl) rfl zp_86 (jb_cat rfl) (Nat.le_of_ble_eq_true rfl) (Nat.le_of_ble_eq_true rfl) (Or.inl rfl) rfl (ze_86 q1 s.2 N rfl) ?_
    refine jb_seg 1 (pc' := (if (jb_b2i (zf_86 q1)) = 0 then 37 else 53)) (ls' := [some (.ref 43), some (.int s.1), some (.int q1)]) (st' := []) (σ' := (zE L, s.2, N)) (G := []) rfl trivial ?_
    refine jb_ite (fun c => ?_) (fun c => ?_)
    · replace h := (if_pos c).symm.trans h
      refine jb_seg 1 (pc' := 38) (ls' := [some (.ref 43), some (.int s.1), some (.int q1)]) (st' := [(.int q1)]) (σ' := (zE L, s.2, N)) (G := []) rfl trivial ?_
      refine jb_callS (q' := zq_76) (As := [(.int q1)]) (rest := []) (σ1 := (zE L, s.2, N)) (v := some (.int (jb_b2i (zf_76 q1)))) rfl (Nat.le_of_ble_eq_true rfl) rfl zp_76 (jb_cat rfl) (Nat.le_of_ble_eq_true rfl) (Nat.le_of_ble_eq_true rfl) (Or.inl rfl) rfl (ze_76 q1 s.2 N rfl) ?_
      refine jb_seg 1 (pc' := (if (jb_b2i (zf_76 q1)) = 0 then 44 else 53)) (ls' := [some (.ref 43), some (.int s.1), some (.int q1)]) (st' := []) (σ' := (zE L, s.2, N)) (G := []) rfl trivial ?_
      refine jb_ite (fun c => ?_) (fun c => ?_)
      · replace h := (if_pos c).symm.trans h
        refine jb_seg 3 (pc' := 49) (ls' := [some (.ref 43), some (.int s.1), some (.int q1)]) (st' := [(.int (s.2 43 2)), (.int 1)]) (σ' := (zE L, s.2, N)) (G := []) rfl trivial ?_
        refine jb_callS (q' := zq_74) (As := [(.int 1), (.int (s.2 43 2))]) (rest := []) (σ1 := (zE L, s.2, N)) (v := some (.int (zf_74 1 (s.2 43 2)))) rfl (Nat.le_of_ble_eq_true rfl) rfl zp_74 (jb_cat rfl) (Nat.le_of_ble_eq_true rfl) (Nat.le_of_ble_eq_true rfl) (Or.inl rfl) rfl (ze_74 1 (s.2 43 2) s.2 N rfl) ?_
        obtain rfl := Option.some.inj h
        obtain ⟨rfl, rfl⟩ := hK
        exact jb_reti rfl rfl
      · replace h := (if_neg c).symm.trans h
        exact jb_mask [true, true, true] rfl (zg_93_J53 hd s.1 q1 s.2 N h hK)
    · replace h := (if_neg c).symm.trans h
      exact jb_mask [true, true, true] rfl (zg_93_J53 hd s.1 q1 s.2 N h hK)
theorem zg_93_H12L {Γ : jb_G} {L : Nat} {d : Nat} (hd : 4 ≤ d) (N : jb_Ml) {v : Option Value} {σ2 : jb_S} {s : Int32 × jb_Mi} {r : (Int32 × jb_Mi)} (h : jb_lp (zf_93_H12) s = some r) (hK : (fun r : Int32 × jb_Mi => v = some (.int r.1) ∧ σ2 = (zE L, r.2, N)) r) : jb_V Γ d zq_93 12 [some (.ref 43), some (.int s.1), none] [] (zE L, s.2, N) v σ2 := by
  exact @jb_lp_ind (Int32 × jb_Mi) ((Int32 × jb_Mi)) (zf_93_H12) (fun s => jb_V Γ d zq_93 12 [some (.ref 43), some (.int s.1), none] [] (zE L, s.2, N) v σ2) (fun r : Int32 × jb_Mi => v = some (.int r.1) ∧ σ2 = (zE L, r.2, N)) (fun s r h hk => zg_93_H12 hd N s h hk) s r h hK
set_option maxRecDepth 20000 in
theorem zg_93 {Γ : jb_G} {L : Nat} {d : Nat} (hd : 4 ≤ d) (M : jb_Mi) (N : jb_Ml) {v : Option Value} {σ2 : jb_S} {r : (Int32 × jb_Mi)} (h : zf_93 M = some r) (hK : (fun r : Int32 × jb_Mi => v = some (.int r.1) ∧ σ2 = (zE L, r.2, N)) r) : jb_V Γ d zq_93 0 [some (.ref 43), none, none] [] (zE L, M, N) v σ2 := by
  obtain ⟨d, rfl⟩ : ∃ e, d = e + 1 := ⟨d - 1, by omega⟩
  unfold zf_93 at h
  refine jb_seg 8 (pc' := 12) (ls' := [some (.ref 43), some (.int 0), none]) (st' := []) (σ' := (zE L, (jb_up (jb_up M 43 2 0) 43 3 0), N)) (G := []) rfl trivial ?_
  exact jb_mask [true, true, false] rfl (zg_93_H12L hd N h hK)
theorem ze_93 {Γ : jb_G} {L : Nat} {d : Nat} (hd : 4 ≤ d) (M : jb_Mi) (N : jb_Ml) {r : (Int32 × jb_Mi)} (h : zf_93 M = some r) : jb_V Γ d zq_93 0 (jb_en 3 [(.ref 43)]) [] (zE L, M, N) (some (.int r.1)) (zE L, r.2, N) := zg_93 hd M N h ⟨rfl, rfl⟩
-- X8_add
set_option maxRecDepth 20000 in
theorem zg_95_H15 {Γ : jb_G} {L : Nat} {d : Nat} (x1 : Int32) (x2 : Int32) (N : jb_Ml) (s : Int32 × jb_Mi) {v : Option Value} {σ2 : jb_S} {r : ((Int32 × jb_Mi) ⊕ (Bool × jb_Mi))} (h : zf_95_H15 x1 x2 s = some r) (hK : (jb_K (fun s : Int32 × jb_Mi => jb_V Γ d zq_95 15 [some (.ref 34), some (.int x1), some (.int x2), some (.int s.1)] [] (zE L, s.2, N) v σ2) (fun r : Bool × jb_Mi => v = some (.int (jb_b2i r.1)) ∧ σ2 = (zE L, r.2, N))) r) : jb_V Γ d zq_95 15 [some (.ref 34), some (.int x1), some (.int x2), some (.int s.1)] [] (zE L, s.2, N) v σ2 := by
  unfold zf_95_H15 at h
  refine jb_seg 3 (pc' := (if s.1 < x2 then 20 else 46)) (ls' := [some (.ref 34), some (.int x1), some (.int x2), some (.int s.1)]) (st' := []) (σ' := (zE L, s.2, N)) (G := []) rfl trivial ?_
  refine jb_ite (fun c => ?_) (fun c => ?_)
  · replace h := (if_pos c).symm.trans h
    obtain ⟨g1, h⟩ := jb_gd_of h
    refine jb_seg 14 (pc' := 15) (ls' := [some (.ref 34), some (.int x1), some (.int x2), some (.int (s.1 + 1))]) (st' := []) (σ' := (zE L, (jb_up (jb_up s.2 37 ((s.2 34 3)).toNatClampNeg x1) 34 3 (((jb_up s.2 37 ((s.2 34 3)).toNatClampNeg x1) 34 3) + 1)), N)) (G := [vp_in (s.2 34 3) 48]) rfl g1 ?_
    obtain rfl := Option.some.inj h
    exact jb_mask [true, true, true, true] rfl hK
  · replace h := (if_neg c).symm.trans h
    refine jb_seg 1 (pc' := 47) (ls' := [some (.ref 34), some (.int x1), some (.int x2), some (.int s.1)]) (st' := [(.int 1)]) (σ' := (zE L, s.2, N)) (G := []) rfl trivial ?_
    obtain rfl := Option.some.inj h
    obtain ⟨rfl, rfl⟩ := hK
    exact jb_retz (by decide) rfl rfl
theorem zg_95_H15L {Γ : jb_G} {L : Nat} {d : Nat} (x1 : Int32) (x2 : Int32) (N : jb_Ml) {v : Option Value} {σ2 : jb_S} {s : Int32 × jb_Mi} {r : (Bool × jb_Mi)} (h : jb_lp (zf_95_H15 x1 x2) s = some r) (hK : (fun r : Bool × jb_Mi => v = some (.int (jb_b2i r.1)) ∧ σ2 = (zE L, r.2, N)) r) : jb_V Γ d zq_95 15 [some (.ref 34), some (.int x1), some (.int x2), some (.int s.1)] [] (zE L, s.2, N) v σ2 := by
  exact @jb_lp_ind (Int32 × jb_Mi) ((Bool × jb_Mi)) (zf_95_H15 x1 x2) (fun s => jb_V Γ d zq_95 15 [some (.ref 34), some (.int x1), some (.int x2), some (.int s.1)] [] (zE L, s.2, N) v σ2) (fun r : Bool × jb_Mi => v = some (.int (jb_b2i r.1)) ∧ σ2 = (zE L, r.2, N)) (fun s r h hk => zg_95_H15 x1 x2 N s h hk) s r h hK
set_option maxRecDepth 20000 in
theorem zg_95 {Γ : jb_G} {L : Nat} {d : Nat} (x1 : Int32) (x2 : Int32) (M : jb_Mi) (N : jb_Ml) {v : Option Value} {σ2 : jb_S} {r : (Bool × jb_Mi)} (h : zf_95 x1 x2 M = some r) (hK : (fun r : Bool × jb_Mi => v = some (.int (jb_b2i r.1)) ∧ σ2 = (zE L, r.2, N)) r) : jb_V Γ d zq_95 0 [some (.ref 34), some (.int x1), some (.int x2), none] [] (zE L, M, N) v σ2 := by
  unfold zf_95 at h
  refine jb_seg 6 (pc' := (if 48 < ((M 34 3) + x2) then 11 else 13)) (ls' := [some (.ref 34), some (.int x1), some (.int x2), none]) (st' := []) (σ' := (zE L, M, N)) (G := []) rfl trivial ?_
  refine jb_ite (fun c => ?_) (fun c => ?_)
  · replace h := (if_pos c).symm.trans h
    refine jb_seg 1 (pc' := 12) (ls' := [some (.ref 34), some (.int x1), some (.int x2), none]) (st' := [(.int 0)]) (σ' := (zE L, M, N)) (G := []) rfl trivial ?_
    obtain rfl := Option.some.inj h
    obtain ⟨rfl, rfl⟩ := hK
    exact jb_retz (by decide) rfl rfl
  · replace h := (if_neg c).symm.trans h
    refine jb_seg 2 (pc' := 15) (ls' := [some (.ref 34), some (.int x1), some (.int x2), some (.int 0)]) (st' := []) (σ' := (zE L, M, N)) (G := []) rfl trivial ?_
    exact jb_mask [true, true, true, true] rfl (zg_95_H15L x1 x2 N h hK)
theorem ze_95 {Γ : jb_G} {L : Nat} {d : Nat} (x1 : Int32) (x2 : Int32) (M : jb_Mi) (N : jb_Ml) {r : (Bool × jb_Mi)} (h : zf_95 x1 x2 M = some r) : jb_V Γ d zq_95 0 (jb_en 4 [(.ref 34), (.int x1), (.int x2)]) [] (zE L, M, N) (some (.int (jb_b2i r.1))) (zE L, r.2, N) := zg_95 x1 x2 M N h ⟨rfl, rfl⟩
-- X8_begin
set_option maxRecDepth 20000 in
theorem zg_96 {Γ : jb_G} {L : Nat} {d : Nat} (x1 : Int32) (x2 : Int32) (M : jb_Mi) (N : jb_Ml) {v : Option Value} {σ2 : jb_S} {r : (Bool × jb_Mi)} (h : zf_96 x1 x2 M = some r) (hK : (fun r : Bool × jb_Mi => v = some (.int (jb_b2i r.1)) ∧ σ2 = (zE L, r.2, N)) r) : jb_V Γ d zq_96 0 [some (.ref 34), some (.int x1), some (.int x2)] [] (zE L, M, N) v σ2 := by
  unfold zf_96 at h
  refine jb_seg 4 (pc' := (if (M 34 7) < 2 then 10 else 8)) (ls' := [some (.ref 34), some (.int x1), some (.int x2)]) (st' := []) (σ' := (zE L, M, N)) (G := []) rfl trivial ?_
  refine jb_ite (fun c => ?_) (fun c => ?_)
  · replace h := (if_pos c).symm.trans h
    obtain ⟨g1, h⟩ := jb_gd_of h
    obtain ⟨g2, h⟩ := jb_gd_of h
    obtain ⟨g3, h⟩ := jb_gd_of h
    refine jb_seg 26 (pc' := 54) (ls' := [some (.ref 34), some (.int x1), some (.int x2)]) (st' := [(.int 1)]) (σ' := (zE L, (jb_up (jb_up (jb_up (jb_up M 38 ((M 34 7)).toNatClampNeg x1) 39 (((jb_up M 38 ((M 34 7)).toNatClampNeg x1) 34 7)).toNatClampNeg x2) 40 (((jb_up (jb_up M 38 ((M 34 7)).toNatClampNeg x1) 39 (((jb_up M 38 ((M 34 7)).toNatClampNeg x1) 34 7)).toNatClampNeg x2) 34 7)).toNatClampNeg ((jb_up (jb_up M 38 ((M 34 7)).toNatClampNeg x1) 39 (((jb_up M 38 ((M 34 7)).toNatClampNeg x1) 34 7)).toNatClampNeg x2) 34 3)) 34 7 (((jb_up (jb_up (jb_up M 38 ((M 34 7)).toNatClampNeg x1) 39 (((jb_up M 38 ((M 34 7)).toNatClampNeg x1) 34 7)).toNatClampNeg x2) 40 (((jb_up (jb_up M 38 ((M 34 7)).toNatClampNeg x1) 39 (((jb_up M 38 ((M 34 7)).toNatClampNeg x1) 34 7)).toNatClampNeg x2) 34 7)).toNatClampNeg ((jb_up (jb_up M 38 ((M 34 7)).toNatClampNeg x1) 39 (((jb_up M 38 ((M 34 7)).toNatClampNeg x1) 34 7)).toNatClampNeg x2) 34 3)) 34 7) + 1)), N)) (G := [vp_in (M 34 7) 2, vp_in ((jb_up M 38 ((M 34 7)).toNatClampNeg x1) 34 7) 2, vp_in ((jb_up (jb_up M 38 ((M 34 7)).toNatClampNeg x1) 39 (((jb_up M 38 ((M 34 7)).toNatClampNeg x1) 34 7)).toNatClampNeg x2) 34 7) 2]) rfl ⟨g1, g2, g3⟩ ?_
    obtain rfl := Option.some.inj h
    obtain ⟨rfl, rfl⟩ := hK
    exact jb_retz (by decide) rfl rfl
  · replace h := (if_neg c).symm.trans h
    refine jb_seg 1 (pc' := 9) (ls' := [some (.ref 34), some (.int x1), some (.int x2)]) (st' := [(.int 0)]) (σ' := (zE L, M, N)) (G := []) rfl trivial ?_
    obtain rfl := Option.some.inj h
    obtain ⟨rfl, rfl⟩ := hK
    exact jb_retz (by decide) rfl rfl
theorem ze_96 {Γ : jb_G} {L : Nat} {d : Nat} (x1 : Int32) (x2 : Int32) (M : jb_Mi) (N : jb_Ml) {r : (Bool × jb_Mi)} (h : zf_96 x1 x2 M = some r) : jb_V Γ d zq_96 0 (jb_en 3 [(.ref 34), (.int x1), (.int x2)]) [] (zE L, M, N) (some (.int (jb_b2i r.1))) (zE L, r.2, N) := zg_96 x1 x2 M N h ⟨rfl, rfl⟩
-- X8_canEnd
set_option maxRecDepth 20000 in
theorem zg_97 {Γ : jb_G} {L : Nat} {d : Nat} (M : jb_Mi) (N : jb_Ml) {v : Option Value} {σ2 : jb_S} {r : (Bool)} (h : zf_97 M = some r) (hK : (fun r : Bool => v = some (.int (jb_b2i r)) ∧ σ2 = (zE L, M, N)) r) : jb_V Γ d zq_97 0 [some (.ref 34)] [] (zE L, M, N) v σ2 := by
  unfold zf_97 at h
  refine jb_seg 3 (pc' := (if 0 < (M 34 7) then 7 else 37)) (ls' := [some (.ref 34)]) (st' := []) (σ' := (zE L, M, N)) (G := []) rfl trivial ?_
  refine jb_ite (fun c => ?_) (fun c => ?_)
  · replace h := (if_pos c).symm.trans h
    refine jb_seg 4 (pc' := (if 2 < (M 34 7) then 37 else 15)) (ls' := [some (.ref 34)]) (st' := []) (σ' := (zE L, M, N)) (G := []) rfl trivial ?_
    refine jb_ite (fun c => ?_) (fun c => ?_)
    · replace h := (if_pos c).symm.trans h
      refine jb_seg 1 (pc' := 38) (ls' := [some (.ref 34)]) (st' := [(.int 0)]) (σ' := (zE L, M, N)) (G := []) rfl trivial ?_
      obtain rfl := Option.some.inj h
      obtain ⟨rfl, rfl⟩ := hK
      exact jb_retz (by decide) rfl rfl
    · replace h := (if_neg c).symm.trans h
      obtain ⟨g1, h⟩ := jb_gd_of h
      refine jb_seg 10 (pc' := (if (M 40 (((M 34 7) - 1)).toNatClampNeg) < (M 34 3) then 33 else 37)) (ls' := [some (.ref 34)]) (st' := []) (σ' := (zE L, M, N)) (G := [vp_in ((M 34 7) - 1) 2]) rfl g1 ?_
      refine jb_ite (fun c => ?_) (fun c => ?_)
      · replace h := (if_pos c).symm.trans h
        refine jb_seg 2 (pc' := 38) (ls' := [some (.ref 34)]) (st' := [(.int 1)]) (σ' := (zE L, M, N)) (G := []) rfl trivial ?_
        obtain rfl := Option.some.inj h
        obtain ⟨rfl, rfl⟩ := hK
        exact jb_retz (by decide) rfl rfl
      · replace h := (if_neg c).symm.trans h
        refine jb_seg 1 (pc' := 38) (ls' := [some (.ref 34)]) (st' := [(.int 0)]) (σ' := (zE L, M, N)) (G := []) rfl trivial ?_
        obtain rfl := Option.some.inj h
        obtain ⟨rfl, rfl⟩ := hK
        exact jb_retz (by decide) rfl rfl
  · replace h := (if_neg c).symm.trans h
    refine jb_seg 1 (pc' := 38) (ls' := [some (.ref 34)]) (st' := [(.int 0)]) (σ' := (zE L, M, N)) (G := []) rfl trivial ?_
    obtain rfl := Option.some.inj h
    obtain ⟨rfl, rfl⟩ := hK
    exact jb_retz (by decide) rfl rfl
theorem ze_97 {Γ : jb_G} {L : Nat} {d : Nat} (M : jb_Mi) (N : jb_Ml) {r : (Bool)} (h : zf_97 M = some r) : jb_V Γ d zq_97 0 (jb_en 1 [(.ref 34)]) [] (zE L, M, N) (some (.int (jb_b2i r))) (zE L, M, N) := zg_97 M N h ⟨rfl, rfl⟩
-- X8_repeat
set_option maxRecDepth 20000 in
theorem zg_98_H35 {Γ : jb_G} {L : Nat} {d : Nat} (x1 : Int32) (x3 : Int32) (N : jb_Ml) (s : Int32 × jb_Mi) {v : Option Value} {σ2 : jb_S} {r : ((Int32 × jb_Mi) ⊕ (Bool × jb_Mi))} (h : zf_98_H35 x1 x3 s = some r) (hK : (jb_K (fun s : Int32 × jb_Mi => jb_V Γ d zq_98 35 [some (.ref 34), some (.int x1), none, some (.int x3), some (.int s.1)] [] (zE L, s.2, N) v σ2) (fun r : Bool × jb_Mi => v = some (.int (jb_b2i r.1)) ∧ σ2 = (zE L, r.2, N))) r) : jb_V Γ d zq_98 35 [some (.ref 34), some (.int x1), none, some (.int x3), some (.int s.1)] [] (zE L, s.2, N) v σ2 := by
  unfold zf_98_H35 at h
  refine jb_seg 3 (pc' := (if s.1 < x3 then 41 else 75)) (ls' := [some (.ref 34), some (.int x1), none, some (.int x3), some (.int s.1)]) (st' := []) (σ' := (zE L, s.2, N)) (G := []) rfl trivial ?_
  refine jb_ite (fun c => ?_) (fun c => ?_)
  · replace h := (if_pos c).symm.trans h
    obtain ⟨g1, h⟩ := jb_gd_of h
    obtain ⟨g2, h⟩ := jb_gd_of h
    refine jb_seg 19 (pc' := 35) (ls' := [some (.ref 34), some (.int x1), none, some (.int x3), some (.int (s.1 + 1))]) (st' := []) (σ' := (zE L, (jb_up (jb_up s.2 37 ((s.2 34 3)).toNatClampNeg (s.2 37 ((x1 + s.1)).toNatClampNeg)) 34 3 (((jb_up s.2 37 ((s.2 34 3)).toNatClampNeg (s.2 37 ((x1 + s.1)).toNatClampNeg)) 34 3) + 1)), N)) (G := [vp_in (x1 + s.1) 48, vp_in (s.2 34 3) 48]) rfl ⟨g1, g2⟩ ?_
    obtain rfl := Option.some.inj h
    exact jb_mask [true, true, false, true, true] rfl hK
  · replace h := (if_neg c).symm.trans h
    refine jb_seg 1 (pc' := 76) (ls' := [some (.ref 34), some (.int x1), none, some (.int x3), some (.int s.1)]) (st' := [(.int 1)]) (σ' := (zE L, s.2, N)) (G := []) rfl trivial ?_
    obtain rfl := Option.some.inj h
    obtain ⟨rfl, rfl⟩ := hK
    exact jb_retz (by decide) rfl rfl
theorem zg_98_H35L {Γ : jb_G} {L : Nat} {d : Nat} (x1 : Int32) (x3 : Int32) (N : jb_Ml) {v : Option Value} {σ2 : jb_S} {s : Int32 × jb_Mi} {r : (Bool × jb_Mi)} (h : jb_lp (zf_98_H35 x1 x3) s = some r) (hK : (fun r : Bool × jb_Mi => v = some (.int (jb_b2i r.1)) ∧ σ2 = (zE L, r.2, N)) r) : jb_V Γ d zq_98 35 [some (.ref 34), some (.int x1), none, some (.int x3), some (.int s.1)] [] (zE L, s.2, N) v σ2 := by
  exact @jb_lp_ind (Int32 × jb_Mi) ((Bool × jb_Mi)) (zf_98_H35 x1 x3) (fun s => jb_V Γ d zq_98 35 [some (.ref 34), some (.int x1), none, some (.int x3), some (.int s.1)] [] (zE L, s.2, N) v σ2) (fun r : Bool × jb_Mi => v = some (.int (jb_b2i r.1)) ∧ σ2 = (zE L, r.2, N)) (fun s r h hk => zg_98_H35 x1 x3 N s h hk) s r h hK
set_option maxRecDepth 20000 in
theorem zg_98 {Γ : jb_G} {L : Nat} {d : Nat} (x1 : Int32) (x2 : Int32) (M : jb_Mi) (N : jb_Ml) {v : Option Value} {σ2 : jb_S} {r : (Bool × jb_Mi)} (h : zf_98 x1 x2 M = some r) (hK : (fun r : Bool × jb_Mi => v = some (.int (jb_b2i r.1)) ∧ σ2 = (zE L, r.2, N)) r) : jb_V Γ d zq_98 0 [some (.ref 34), some (.int x1), some (.int x2), none, none] [] (zE L, M, N) v σ2 := by
  unfold zf_98 at h
  refine jb_seg 11 (pc' := (if x1 < 0 then 30 else 15)) (ls' := [some (.ref 34), some (.int x1), some (.int x2), some (.int (((M 34 3) - x1) * (x2 - 1))), none]) (st' := []) (σ' := (zE L, M, N)) (G := []) rfl trivial ?_
  refine jb_ite (fun c => ?_) (fun c => ?_)
  · replace h := (if_pos c).symm.trans h
    refine jb_seg 1 (pc' := 31) (ls' := [some (.ref 34), some (.int x1), some (.int x2), some (.int (((M 34 3) - x1) * (x2 - 1))), none]) (st' := [(.int 0)]) (σ' := (zE L, M, N)) (G := []) rfl trivial ?_
    obtain rfl := Option.some.inj h
    obtain ⟨rfl, rfl⟩ := hK
    exact jb_retz (by decide) rfl rfl
  · replace h := (if_neg c).symm.trans h
    refine jb_seg 2 (pc' := (if (((M 34 3) - x1) * (x2 - 1)) < 0 then 30 else 19)) (ls' := [some (.ref 34), some (.int x1), some (.int x2), some (.int (((M 34 3) - x1) * (x2 - 1))), none]) (st' := []) (σ' := (zE L, M, N)) (G := []) rfl trivial ?_
    refine jb_ite (fun c => ?_) (fun c => ?_)
    · replace h := (if_pos c).symm.trans h
      refine jb_seg 1 (pc' := 31) (ls' := [some (.ref 34), some (.int x1), some (.int x2), some (.int (((M 34 3) - x1) * (x2 - 1))), none]) (st' := [(.int 0)]) (σ' := (zE L, M, N)) (G := []) rfl trivial ?_
      obtain rfl := Option.some.inj h
      obtain ⟨rfl, rfl⟩ := hK
      exact jb_retz (by decide) rfl rfl
    · replace h := (if_neg c).symm.trans h
      refine jb_seg 6 (pc' := (if 48 < ((M 34 3) + (((M 34 3) - x1) * (x2 - 1))) then 30 else 32)) (ls' := [some (.ref 34), some (.int x1), some (.int x2), some (.int (((M 34 3) - x1) * (x2 - 1))), none]) (st' := []) (σ' := (zE L, M, N)) (G := []) rfl trivial ?_
      refine jb_ite (fun c => ?_) (fun c => ?_)
      · replace h := (if_pos c).symm.trans h
        refine jb_seg 1 (pc' := 31) (ls' := [some (.ref 34), some (.int x1), some (.int x2), some (.int (((M 34 3) - x1) * (x2 - 1))), none]) (st' := [(.int 0)]) (σ' := (zE L, M, N)) (G := []) rfl trivial ?_
        obtain rfl := Option.some.inj h
        obtain ⟨rfl, rfl⟩ := hK
        exact jb_retz (by decide) rfl rfl
      · replace h := (if_neg c).symm.trans h
        refine jb_seg 2 (pc' := 35) (ls' := [some (.ref 34), some (.int x1), some (.int x2), some (.int (((M 34 3) - x1) * (x2 - 1))), some (.int 0)]) (st' := []) (σ' := (zE L, M, N)) (G := []) rfl trivial ?_
        exact jb_mask [true, true, false, true, true] rfl (zg_98_H35L x1 (((M 34 3) - x1) * (x2 - 1)) N h hK)
theorem ze_98 {Γ : jb_G} {L : Nat} {d : Nat} (x1 : Int32) (x2 : Int32) (M : jb_Mi) (N : jb_Ml) {r : (Bool × jb_Mi)} (h : zf_98 x1 x2 M = some r) : jb_V Γ d zq_98 0 (jb_en 5 [(.ref 34), (.int x1), (.int x2)]) [] (zE L, M, N) (some (.int (jb_b2i r.1))) (zE L, r.2, N) := zg_98 x1 x2 M N h ⟨rfl, rfl⟩
-- X8_read
set_option maxRecDepth 20000 in
theorem zg_99_J253 {Γ : jb_G} {L : Nat} {d : Nat} (hd : 1 ≤ d) (x2 : Int32) (x3 : Int32) (x7 : Int32) (x8 : Int32) (M : jb_Mi) (N : jb_Ml) {v : Option Value} {σ2 : jb_S} {r : ((Int32 × Int32 × jb_Mi) ⊕ (Int32 × jb_Mi))} (h : zf_99_J253 x2 x3 x7 x8 M = some r) (hK : (jb_K (fun s : Int32 × Int32 × jb_Mi => jb_V Γ d zq_99 14 [some (.ref 34), some (.ref 2), some (.int s.1), some (.int s.2.1), none, none, none, none, none] [] (zE L, s.2.2, N) v σ2) (fun r : Int32 × jb_Mi => v = some (.int r.1) ∧ σ2 = (zE L, r.2, N))) r) : jb_V Γ d zq_99 253 [some (.ref 34), some (.ref 2), some (.int x2), some (.int x3), none, none, none, some (.int x7), some (.int x8)] [] (zE L, M, N) v σ2 := by
  obtain ⟨d, rfl⟩ : ∃ e, d = e + 1 := ⟨d - 1, by omega⟩
  unfold zf_99_J253 at h
  refine jb_seg 2 (pc' := (if x7 = 0 then 266 else 258)) (ls' := [some (.ref 34), some (.ref 2), some (.int x2), some (.int x3), none, none, none, some (.int x7), some (.int x8)]) (st' := []) (σ' := (zE L, M, N)) (G := []) rfl trivial ?_
  refine jb_ite (fun c => ?_) (fun c => ?_)
  · replace h := (if_pos c).symm.trans h
    refine jb_seg 2 (pc' := 14) (ls' := [some (.ref 34), some (.ref 2), some (.int x2), some (.int (x3 + 1)), none, none, none, some (.int x7), some (.int x8)]) (st' := []) (σ' := (zE L, M, N)) (G := []) rfl trivial ?_
    obtain rfl := Option.some.inj h
    exact jb_mask [true, true, true, true, false, false, false, false, false] rfl hK
  · replace h := (if_neg c).symm.trans h
    refine jb_seg 2 (pc' := 262) (ls' := [some (.ref 34), some (.ref 2), some (.int x2), some (.int x3), none, none, none, some (.int x7), some (.int x8)]) (st' := [(.int x8), (.int x7)]) (σ' := (zE L, M, N)) (G := []) rfl trivial ?_
    refine jb_callS (q' := zq_74) (As := [(.int x7), (.int x8)]) (rest := []) (σ1 := (zE L, M, N)) (v := some (.int (zf_74 x7 x8))) rfl (Nat.le_of_ble_eq_true rfl) rfl zp_74 (jb_cat rfl) (Nat.le_of_ble_eq_true rfl) (Nat.le_of_ble_eq_true rfl) (Or.inl rfl) rfl (ze_74 x7 x8 M N rfl) ?_
    obtain rfl := Option.some.inj h
    obtain ⟨rfl, rfl⟩ := hK
    exact jb_reti rfl rfl
set_option maxRecDepth 20000 in
theorem zg_99_J134 {Γ : jb_G} {L : Nat} {d : Nat} (hd : 1 ≤ d) (x3 : Int32) (x5 : Int32) (s0 : Int32) (M : jb_Mi) (N : jb_Ml) {v : Option Value} {σ2 : jb_S} {r : ((Int32 × Int32 × jb_Mi) ⊕ (Int32 × jb_Mi))} (h : zf_99_J134 x3 x5 s0 M = some r) (hK : (jb_K (fun s : Int32 × Int32 × jb_Mi => jb_V Γ d zq_99 14 [some (.ref 34), some (.ref 2), some (.int s.1), some (.int s.2.1), none, none, none, none, none] [] (zE L, s.2.2, N) v σ2) (fun r : Int32 × jb_Mi => v = some (.int r.1) ∧ σ2 = (zE L, r.2, N))) r) : jb_V Γ d zq_99 134 [some (.ref 34), some (.ref 2), none, some (.int x3), none, some (.int x5), none, none, none] [(.int s0)] (zE L, M, N) v σ2 := by
  obtain ⟨d, rfl⟩ : ∃ e, d = e + 1 := ⟨d - 1, by omega⟩
  unfold zf_99_J134 at h
  refine jb_seg 6 (pc' := 253) (ls' := [some (.ref 34), some (.ref 2), some (.int 0), some (.int x3), none, some (.int x5), none, some (.int s0), some (.int x5)]) (st' := []) (σ' := (zE L, M, N)) (G := []) rfl trivial ?_
  exact jb_mask [true, true, true, true, false, false, false, true, true] rfl (zg_99_J253 hd 0 x3 s0 x5 M N h hK)
set_option maxRecDepth 20000 in
theorem zg_99_J120 {Γ : jb_G} {L : Nat} {d : Nat} (hd : 1 ≤ d) (x3 : Int32) (x5 : Int32) (x6 : Int32) (s1 : Int32) (M : jb_Mi) (N : jb_Ml) {v : Option Value} {σ2 : jb_S} {r : ((Int32 × Int32 × jb_Mi) ⊕ (Int32 × jb_Mi))} (h : zf_99_J120 x3 x5 x6 s1 M = some r) (hK : (jb_K (fun s : Int32 × Int32 × jb_Mi => jb_V Γ d zq_99 14 [some (.ref 34), some (.ref 2), some (.int s.1), some (.int s.2.1), none, none, none, none, none] [] (zE L, s.2.2, N) v σ2) (fun r : Int32 × jb_Mi => v = some (.int r.1) ∧ σ2 = (zE L, r.2, N))) r) : jb_V Γ d zq_99 120 [some (.ref 34), some (.ref 2), none, some (.int x3), none, some (.int x5), some (.int x6), none, none] [(.int s1), (.ref 34)] (zE L, M, N) v σ2 := by
  obtain ⟨d, rfl⟩ : ∃ e, d = e + 1 := ⟨d - 1, by omega⟩
  unfold zf_99_J120 at h
  refine jb_seg 1 (pc' := 122) (ls' := [some (.ref 34), some (.ref 2), none, some (.int x3), none, some (.int x5), some (.int x6), none, none]) (st' := [(.int x6), (.int s1), (.ref 34)]) (σ' := (zE L, M, N)) (G := []) rfl trivial ?_
  obtain ⟨q2, h2, h⟩ := jb_bd_of h
  refine jb_callV (q' := zq_95) (As := [(.int s1), (.int x6)]) (rest := []) (σ1 := (zE L, q2.2, N)) (v := some (.int (jb_b2i q2.1))) rfl rfl zp_95 rfl (Nat.le_of_ble_eq_true rfl) (jb_cat rfl) (Nat.le_of_ble_eq_true rfl) (Nat.le_of_ble_eq_true rfl) (Or.inl rfl) rfl (ze_95 s1 x6 M N h2) ?_
  refine jb_seg 1 (pc' := (if (jb_b2i q2.1) = 0 then 132 else 128)) (ls' := [some (.ref 34), some (.ref 2), none, some (.int x3), none, some (.int x5), some (.int x6), none, none]) (st' := []) (σ' := (zE L, q2.2, N)) (G := []) rfl trivial ?_
  refine jb_ite (fun c => ?_) (fun c => ?_)
  · replace h := (if_pos c).symm.trans h
    refine jb_seg 1 (pc' := 134) (ls' := [some (.ref 34), some (.ref 2), none, some (.int x3), none, some (.int x5), some (.int x6), none, none]) (st' := [(.int 6)]) (σ' := (zE L, q2.2, N)) (G := []) rfl trivial ?_
    exact jb_mask [true, true, false, true, false, true, false, false, false] rfl (zg_99_J134 hd x3 x5 6 q2.2 N h hK)
  · replace h := (if_neg c).symm.trans h
    refine jb_seg 2 (pc' := 134) (ls' := [some (.ref 34), some (.ref 2), none, some (.int x3), none, some (.int x5), some (.int x6), none, none]) (st' := [(.int 0)]) (σ' := (zE L, q2.2, N)) (G := []) rfl trivial ?_
    exact jb_mask [true, true, false, true, false, true, false, false, false] rfl (zg_99_J134 hd x3 x5 0 q2.2 N h hK)
set_option maxRecDepth 20000 in
theorem zg_99_J102 {Γ : jb_G} {L : Nat} {d : Nat} (hd : 1 ≤ d) (x3 : Int32) (x4 : Int32) (x5 : Int32) (x6 : Int32) (M : jb_Mi) (N : jb_Ml) {v : Option Value} {σ2 : jb_S} {r : ((Int32 × Int32 × jb_Mi) ⊕ (Int32 × jb_Mi))} (h : zf_99_J102 x3 x4 x5 x6 M = some r) (hK : (jb_K (fun s : Int32 × Int32 × jb_Mi => jb_V Γ d zq_99 14 [some (.ref 34), some (.ref 2), some (.int s.1), some (.int s.2.1), none, none, none, none, none] [] (zE L, s.2.2, N) v σ2) (fun r : Int32 × jb_Mi => v = some (.int r.1) ∧ σ2 = (zE L, r.2, N))) r) : jb_V Γ d zq_99 102 [some (.ref 34), some (.ref 2), none, some (.int x3), some (.int x4), some (.int x5), some (.int x6), none, none] [] (zE L, M, N) v σ2 := by
  obtain ⟨d, rfl⟩ : ∃ e, d = e + 1 := ⟨d - 1, by omega⟩
  unfold zf_99_J102 at h
  refine jb_seg 4 (pc' := (if x4 = 46 then 110 else 115)) (ls' := [some (.ref 34), some (.ref 2), none, some (.int x3), some (.int x4), some (.int x5), some (.int x6), none, none]) (st' := [(.ref 34)]) (σ' := (zE L, M, N)) (G := []) rfl trivial ?_
  refine jb_ite (fun c => ?_) (fun c => ?_)
  · replace h := (if_pos c).symm.trans h
    refine jb_seg 2 (pc' := 120) (ls' := [some (.ref 34), some (.ref 2), none, some (.int x3), some (.int x4), some (.int x5), some (.int x6), none, none]) (st' := [(.int (-2)), (.ref 34)]) (σ' := (zE L, M, N)) (G := []) rfl trivial ?_
    exact jb_mask [true, true, false, true, false, true, true, false, false] rfl (zg_99_J120 hd x3 x5 x6 (-2) M N h hK)
  · replace h := (if_neg c).symm.trans h
    refine jb_seg 3 (pc' := 120) (ls' := [some (.ref 34), some (.ref 2), none, some (.int x3), some (.int x4), some (.int x5), some (.int x6), none, none]) (st' := [(.int (x4 - 97)), (.ref 34)]) (σ' := (zE L, M, N)) (G := []) rfl trivial ?_
    exact jb_mask [true, true, false, true, false, true, true, false, false] rfl (zg_99_J120 hd x3 x5 x6 (x4 - 97) M N h hK)
set_option maxRecDepth 20000 in
theorem zg_99_J168 {Γ : jb_G} {L : Nat} {d : Nat} (hd : 1 ≤ d) (x3 : Int32) (x8 : Int32) (s0 : Int32) (M : jb_Mi) (N : jb_Ml) {v : Option Value} {σ2 : jb_S} {r : ((Int32 × Int32 × jb_Mi) ⊕ (Int32 × jb_Mi))} (h : zf_99_J168 x3 x8 s0 M = some r) (hK : (jb_K (fun s : Int32 × Int32 × jb_Mi => jb_V Γ d zq_99 14 [some (.ref 34), some (.ref 2), some (.int s.1), some (.int s.2.1), none, none, none, none, none] [] (zE L, s.2.2, N) v σ2) (fun r : Int32 × jb_Mi => v = some (.int r.1) ∧ σ2 = (zE L, r.2, N))) r) : jb_V Γ d zq_99 168 [some (.ref 34), some (.ref 2), none, some (.int x3), none, none, none, none, some (.int x8)] [(.int s0)] (zE L, M, N) v σ2 := by
  obtain ⟨d, rfl⟩ : ∃ e, d = e + 1 := ⟨d - 1, by omega⟩
  unfold zf_99_J168 at h
  refine jb_seg 4 (pc' := 253) (ls' := [some (.ref 34), some (.ref 2), some (.int 0), some (.int x3), none, none, none, some (.int s0), some (.int x8)]) (st' := []) (σ' := (zE L, M, N)) (G := []) rfl trivial ?_
  exact jb_mask [true, true, true, true, false, false, false, true, true] rfl (zg_99_J253 hd 0 x3 s0 x8 M N h hK)
set_option maxRecDepth 20000 in
theorem zg_99_J250 {Γ : jb_G} {L : Nat} {d : Nat} (hd : 1 ≤ d) (x2 : Int32) (x3 : Int32) (x8 : Int32) (M : jb_Mi) (N : jb_Ml) {v : Option Value} {σ2 : jb_S} {r : ((Int32 × Int32 × jb_Mi) ⊕ (Int32 × jb_Mi))} (h : zf_99_J250 x2 x3 x8 M = some r) (hK : (jb_K (fun s : Int32 × Int32 × jb_Mi => jb_V Γ d zq_99 14 [some (.ref 34), some (.ref 2), some (.int s.1), some (.int s.2.1), none, none, none, none, none] [] (zE L, s.2.2, N) v σ2) (fun r : Int32 × jb_Mi => v = some (.int r.1) ∧ σ2 = (zE L, r.2, N))) r) : jb_V Γ d zq_99 250 [some (.ref 34), some (.ref 2), some (.int x2), some (.int x3), none, none, none, none, some (.int x8)] [] (zE L, M, N) v σ2 := by
  obtain ⟨d, rfl⟩ : ∃ e, d = e + 1 := ⟨d - 1, by omega⟩
  unfold zf_99_J250 at h
  refine jb_seg 2 (pc' := 253) (ls' := [some (.ref 34), some (.ref 2), some (.int x2), some (.int x3), none, none, none, some (.int 1), some (.int x8)]) (st' := []) (σ' := (zE L, M, N)) (G := []) rfl trivial ?_
  exact jb_mask [true, true, true, true, false, false, false, true, true] rfl (zg_99_J253 hd x2 x3 1 x8 M N h hK)
set_option maxRecDepth 20000 in
theorem zg_99_J245 {Γ : jb_G} {L : Nat} {d : Nat} (hd : 1 ≤ d) (x2 : Int32) (x3 : Int32) (x8 : Int32) (s0 : Int32) (M : jb_Mi) (N : jb_Ml) {v : Option Value} {σ2 : jb_S} {r : ((Int32 × Int32 × jb_Mi) ⊕ (Int32 × jb_Mi))} (h : zf_99_J245 x2 x3 x8 s0 M = some r) (hK : (jb_K (fun s : Int32 × Int32 × jb_Mi => jb_V Γ d zq_99 14 [some (.ref 34), some (.ref 2), some (.int s.1), some (.int s.2.1), none, none, none, none, none] [] (zE L, s.2.2, N) v σ2) (fun r : Int32 × jb_Mi => v = some (.int r.1) ∧ σ2 = (zE L, r.2, N))) r) : jb_V Γ d zq_99 245 [some (.ref 34), some (.ref 2), some (.int x2), some (.int x3), none, none, none, none, some (.int x8)] [(.int s0)] (zE L, M, N) v σ2 := by
  obtain ⟨d, rfl⟩ : ∃ e, d = e + 1 := ⟨d - 1, by omega⟩
  unfold zf_99_J245 at h
  refine jb_seg 2 (pc' := 253) (ls' := [some (.ref 34), some (.ref 2), some (.int x2), some (.int x3), none, none, none, some (.int s0), some (.int x8)]) (st' := []) (σ' := (zE L, M, N)) (G := []) rfl trivial ?_
  exact jb_mask [true, true, true, true, false, false, false, true, true] rfl (zg_99_J253 hd x2 x3 s0 x8 M N h hK)
set_option maxRecDepth 20000 in
theorem zg_99_J76 {Γ : jb_G} {L : Nat} {d : Nat} (hd : 1 ≤ d) (x3 : Int32) (x4 : Int32) (x8 : Int32) (s0 : Int32) (M : jb_Mi) (N : jb_Ml) {v : Option Value} {σ2 : jb_S} {r : ((Int32 × Int32 × jb_Mi) ⊕ (Int32 × jb_Mi))} (h : zf_99_J76 x3 x4 x8 s0 M = some r) (hK : (jb_K (fun s : Int32 × Int32 × jb_Mi => jb_V Γ d zq_99 14 [some (.ref 34), some (.ref 2), some (.int s.1), some (.int s.2.1), none, none, none, none, none] [] (zE L, s.2.2, N) v σ2) (fun r : Int32 × jb_Mi => v = some (.int r.1) ∧ σ2 = (zE L, r.2, N))) r) : jb_V Γ d zq_99 76 [some (.ref 34), some (.ref 2), none, some (.int x3), some (.int x4), none, none, none, some (.int x8)] [(.int s0)] (zE L, M, N) v σ2 := by
  obtain ⟨d, rfl⟩ : ∃ e, d = e + 1 := ⟨d - 1, by omega⟩
  unfold zf_99_J76 at h
  refine jb_seg 6 (pc' := 253) (ls' := [some (.ref 34), some (.ref 2), some (.int (x4 - 48)), some (.int x3), some (.int x4), none, none, some (.int s0), some (.int x8)]) (st' := []) (σ' := (zE L, M, N)) (G := []) rfl trivial ?_
  exact jb_mask [true, true, true, true, false, false, false, true, true] rfl (zg_99_J253 hd (x4 - 48) x3 s0 x8 M N h hK)
set_option maxRecDepth 20000 in
theorem zg_99_J40 {Γ : jb_G} {L : Nat} {d : Nat} (hd : 1 ≤ d) (x2 : Int32) (x3 : Int32) (x4 : Int32) (s0 : Int32) (M : jb_Mi) (N : jb_Ml) {v : Option Value} {σ2 : jb_S} {r : ((Int32 × Int32 × jb_Mi) ⊕ (Int32 × jb_Mi))} (h : zf_99_J40 x2 x3 x4 s0 M = some r) (hK : (jb_K (fun s : Int32 × Int32 × jb_Mi => jb_V Γ d zq_99 14 [some (.ref 34), some (.ref 2), some (.int s.1), some (.int s.2.1), none, none, none, none, none] [] (zE L, s.2.2, N) v σ2) (fun r : Int32 × jb_Mi => v = some (.int r.1) ∧ σ2 = (zE L, r.2, N))) r) : jb_V Γ d zq_99 40 [some (.ref 34), some (.ref 2), some (.int x2), some (.int x3), some (.int x4), none, none, none, none] [(.int s0)] (zE L, M, N) v σ2 := by
  obtain ⟨d, rfl⟩ : ∃ e, d = e + 1 := ⟨d - 1, by omega⟩
  unfold zf_99_J40 at h
  refine jb_seg 3 (pc' := 44) (ls' := [some (.ref 34), some (.ref 2), some (.int x2), some (.int x3), some (.int x4), some (.int s0), none, none, none]) (st' := [(.int x2), (.int 1)]) (σ' := (zE L, M, N)) (G := []) rfl trivial ?_
  refine jb_callS (q' := zq_271) (As := [(.int 1), (.int x2)]) (rest := []) (σ1 := (zE L, M, N)) (v := some (.int (zf_271 1 x2))) rfl (Nat.le_of_ble_eq_true rfl) rfl zp_271 (jb_cat rfl) (Nat.le_of_ble_eq_true rfl) (Nat.le_of_ble_eq_true rfl) (Or.inl rfl) rfl (ze_271 1 x2 M N rfl) ?_
  refine jb_seg 8 (pc' := 61) (ls' := [some (.ref 34), some (.ref 2), some (.int x2), some (.int x3), some (.int x4), some (.int s0), some (.int (zf_271 1 x2)), some (.int 0), some (.int x3)]) (st' := [(.int 57), (.int 50), (.int x4)]) (σ' := (zE L, M, N)) (G := []) rfl trivial ?_
  refine jb_callS (q' := zq_23) (As := [(.int x4), (.int 50), (.int 57)]) (rest := []) (σ1 := (zE L, M, N)) (v := some (.int (jb_b2i (zf_23 x4 50 57)))) rfl (Nat.le_of_ble_eq_true rfl) rfl zp_23 (jb_cat rfl) (Nat.le_of_ble_eq_true rfl) (Nat.le_of_ble_eq_true rfl) (Or.inl rfl) rfl (ze_23 x4 50 57 M N rfl) ?_
  refine jb_seg 1 (pc' := (if (jb_b2i (zf_23 x4 50 57)) = 0 then 87 else 67)) (ls' := [some (.ref 34), some (.ref 2), some (.int x2), some (.int x3), some (.int x4), some (.int s0), some (.int (zf_271 1 x2)), some (.int 0), some (.int x3)]) (st' := []) (σ' := (zE L, M, N)) (G := []) rfl trivial ?_
  refine jb_ite (fun c => ?_) (fun c => ?_)
  · replace h := (if_pos c).symm.trans h
    refine jb_seg 1 (pc' := 89) (ls' := [some (.ref 34), some (.ref 2), some (.int x2), some (.int x3), some (.int x4), some (.int s0), some (.int (zf_271 1 x2)), some (.int 0), some (.int x3)]) (st' := [(.int x4)]) (σ' := (zE L, M, N)) (G := []) rfl trivial ?_
    refine jb_callS (q' := zq_86) (As := [(.int x4)]) (rest := []) (σ1 := (zE L, M, N)) (v := some (.int (jb_b2i (zf_86 x4)))) rfl (Nat.le_of_ble_eq_true rfl) rfl zp_86 (jb_cat rfl) (Nat.le_of_ble_eq_true rfl) (Nat.le_of_ble_eq_true rfl) (Or.inl rfl) rfl (ze_86 x4 M N rfl) ?_
    refine jb_seg 1 (pc' := (if (jb_b2i (zf_86 x4)) = 0 then 95 else 102)) (ls' := [some (.ref 34), some (.ref 2), some (.int x2), some (.int x3), some (.int x4), some (.int s0), some (.int (zf_271 1 x2)), some (.int 0), some (.int x3)]) (st' := []) (σ' := (zE L, M, N)) (G := []) rfl trivial ?_
    refine jb_ite (fun c => ?_) (fun c => ?_)
    · replace h := (if_pos c).symm.trans h
      refine jb_seg 3 (pc' := (if x4 = 46 then 102 else 145)) (ls' := [some (.ref 34), some (.ref 2), some (.int x2), some (.int x3), some (.int x4), some (.int s0), some (.int (zf_271 1 x2)), some (.int 0), some (.int x3)]) (st' := []) (σ' := (zE L, M, N)) (G := []) rfl trivial ?_
      refine jb_ite (fun c => ?_) (fun c => ?_)
      · replace h := (if_pos c).symm.trans h
        exact jb_mask [true, true, false, true, true, true, true, false, false] rfl (zg_99_J102 hd x3 x4 s0 (zf_271 1 x2) M N h hK)
      · replace h := (if_neg c).symm.trans h
        refine jb_seg 3 (pc' := (if x4 = 40 then 152 else 175)) (ls' := [some (.ref 34), some (.ref 2), some (.int x2), some (.int x3), some (.int x4), some (.int s0), some (.int (zf_271 1 x2)), some (.int 0), some (.int x3)]) (st' := []) (σ' := (zE L, M, N)) (G := []) rfl trivial ?_
        refine jb_ite (fun c => ?_) (fun c => ?_)
        · replace h := (if_pos c).symm.trans h
          refine jb_seg 3 (pc' := 157) (ls' := [some (.ref 34), some (.ref 2), some (.int x2), some (.int x3), some (.int x4), some (.int s0), some (.int (zf_271 1 x2)), some (.int 0), some (.int x3)]) (st' := [(.int (zf_271 1 x2)), (.int s0), (.ref 34)]) (σ' := (zE L, M, N)) (G := []) rfl trivial ?_
          obtain ⟨q3, h3, h⟩ := jb_bd_of h
          refine jb_callV (q' := zq_96) (As := [(.int s0), (.int (zf_271 1 x2))]) (rest := []) (σ1 := (zE L, q3.2, N)) (v := some (.int (jb_b2i q3.1))) rfl rfl zp_96 rfl (Nat.le_of_ble_eq_true rfl) (jb_cat rfl) (Nat.le_of_ble_eq_true rfl) (Nat.le_of_ble_eq_true rfl) (Or.inl rfl) rfl (ze_96 s0 (zf_271 1 x2) M N h3) ?_
          refine jb_seg 1 (pc' := (if (jb_b2i q3.1) = 0 then 167 else 163)) (ls' := [some (.ref 34), some (.ref 2), some (.int x2), some (.int x3), some (.int x4), some (.int s0), some (.int (zf_271 1 x2)), some (.int 0), some (.int x3)]) (st' := []) (σ' := (zE L, q3.2, N)) (G := []) rfl trivial ?_
          refine jb_ite (fun c => ?_) (fun c => ?_)
          · replace h := (if_pos c).symm.trans h
            refine jb_seg 1 (pc' := 168) (ls' := [some (.ref 34), some (.ref 2), some (.int x2), some (.int x3), some (.int x4), some (.int s0), some (.int (zf_271 1 x2)), some (.int 0), some (.int x3)]) (st' := [(.int 5)]) (σ' := (zE L, q3.2, N)) (G := []) rfl trivial ?_
            exact jb_mask [true, true, false, true, false, false, false, false, true] rfl (zg_99_J168 hd x3 x3 5 q3.2 N h hK)
          · replace h := (if_neg c).symm.trans h
            refine jb_seg 2 (pc' := 168) (ls' := [some (.ref 34), some (.ref 2), some (.int x2), some (.int x3), some (.int x4), some (.int s0), some (.int (zf_271 1 x2)), some (.int 0), some (.int x3)]) (st' := [(.int 0)]) (σ' := (zE L, q3.2, N)) (G := []) rfl trivial ?_
            exact jb_mask [true, true, false, true, false, false, false, false, true] rfl (zg_99_J168 hd x3 x3 0 q3.2 N h hK)
        · replace h := (if_neg c).symm.trans h
          refine jb_seg 3 (pc' := (if x4 = 41 then 182 else 250)) (ls' := [some (.ref 34), some (.ref 2), some (.int x2), some (.int x3), some (.int x4), some (.int s0), some (.int (zf_271 1 x2)), some (.int 0), some (.int x3)]) (st' := []) (σ' := (zE L, M, N)) (G := []) rfl trivial ?_
          refine jb_ite (fun c => ?_) (fun c => ?_)
          · replace h := (if_pos c).symm.trans h
            refine jb_seg 2 (pc' := (if x2 = 0 then 186 else 250)) (ls' := [some (.ref 34), some (.ref 2), some (.int x2), some (.int x3), some (.int x4), some (.int s0), some (.int (zf_271 1 x2)), some (.int 0), some (.int x3)]) (st' := []) (σ' := (zE L, M, N)) (G := []) rfl trivial ?_
            refine jb_ite (fun c => ?_) (fun c => ?_)
            · replace h := (if_pos c).symm.trans h
              refine jb_seg 1 (pc' := 187) (ls' := [some (.ref 34), some (.ref 2), some (.int x2), some (.int x3), some (.int x4), some (.int s0), some (.int (zf_271 1 x2)), some (.int 0), some (.int x3)]) (st' := [(.ref 34)]) (σ' := (zE L, M, N)) (G := []) rfl trivial ?_
              obtain ⟨q4, h4, h⟩ := jb_bd_of h
              refine jb_callV (q' := zq_97) (As := []) (rest := []) (σ1 := (zE L, M, N)) (v := some (.int (jb_b2i q4))) rfl rfl zp_97 rfl (Nat.le_of_ble_eq_true rfl) (jb_cat rfl) (Nat.le_of_ble_eq_true rfl) (Nat.le_of_ble_eq_true rfl) (Or.inl rfl) rfl (ze_97 M N h4) ?_
              refine jb_seg 1 (pc' := (if (jb_b2i q4) = 0 then 250 else 193)) (ls' := [some (.ref 34), some (.ref 2), some (.int x2), some (.int x3), some (.int x4), some (.int s0), some (.int (zf_271 1 x2)), some (.int 0), some (.int x3)]) (st' := []) (σ' := (zE L, M, N)) (G := []) rfl trivial ?_
              refine jb_ite (fun c => ?_) (fun c => ?_)
              · replace h := (if_pos c).symm.trans h
                exact jb_mask [true, true, true, true, false, false, false, false, true] rfl (zg_99_J250 hd x2 x3 x3 M N h hK)
              · replace h := (if_neg c).symm.trans h
                obtain ⟨g5, h⟩ := jb_gd_of h
                obtain ⟨g6, h⟩ := jb_gd_of h
                obtain ⟨g7, h⟩ := jb_gd_of h
                refine jb_seg 23 (pc' := 233) (ls' := [some (.ref 34), some (.ref 2), some (.int x2), some (.int x3), some (.int x4), some (.int s0), some (.int (zf_271 1 x2)), some (.int 0), some (.int ((jb_up M 34 7 ((M 34 7) - 1)) 38 (((jb_up M 34 7 ((M 34 7) - 1)) 34 7)).toNatClampNeg))]) (st' := [(.int ((jb_up M 34 7 ((M 34 7) - 1)) 39 (((jb_up M 34 7 ((M 34 7) - 1)) 34 7)).toNatClampNeg)), (.int ((jb_up M 34 7 ((M 34 7) - 1)) 40 (((jb_up M 34 7 ((M 34 7) - 1)) 34 7)).toNatClampNeg)), (.ref 34)]) (σ' := (zE L, (jb_up M 34 7 ((M 34 7) - 1)), N)) (G := [vp_in ((jb_up M 34 7 ((M 34 7) - 1)) 34 7) 2, vp_in ((jb_up M 34 7 ((M 34 7) - 1)) 34 7) 2, vp_in ((jb_up M 34 7 ((M 34 7) - 1)) 34 7) 2]) rfl ⟨g5, g6, g7⟩ ?_
                obtain ⟨q8, h8, h⟩ := jb_bd_of h
                refine jb_callV (q' := zq_98) (As := [(.int ((jb_up M 34 7 ((M 34 7) - 1)) 40 (((jb_up M 34 7 ((M 34 7) - 1)) 34 7)).toNatClampNeg)), (.int ((jb_up M 34 7 ((M 34 7) - 1)) 39 (((jb_up M 34 7 ((M 34 7) - 1)) 34 7)).toNatClampNeg))]) (rest := []) (σ1 := (zE L, q8.2, N)) (v := some (.int (jb_b2i q8.1))) rfl rfl zp_98 rfl (Nat.le_of_ble_eq_true rfl) (jb_cat rfl) (Nat.le_of_ble_eq_true rfl) (Nat.le_of_ble_eq_true rfl) (Or.inl rfl) rfl (ze_98 ((jb_up M 34 7 ((M 34 7) - 1)) 40 (((jb_up M 34 7 ((M 34 7) - 1)) 34 7)).toNatClampNeg) ((jb_up M 34 7 ((M 34 7) - 1)) 39 (((jb_up M 34 7 ((M 34 7) - 1)) 34 7)).toNatClampNeg) (jb_up M 34 7 ((M 34 7) - 1)) N h8) ?_
                refine jb_seg 1 (pc' := (if (jb_b2i q8.1) = 0 then 243 else 239)) (ls' := [some (.ref 34), some (.ref 2), some (.int x2), some (.int x3), some (.int x4), some (.int s0), some (.int (zf_271 1 x2)), some (.int 0), some (.int ((jb_up M 34 7 ((M 34 7) - 1)) 38 (((jb_up M 34 7 ((M 34 7) - 1)) 34 7)).toNatClampNeg))]) (st' := []) (σ' := (zE L, q8.2, N)) (G := []) rfl trivial ?_
                refine jb_ite (fun c => ?_) (fun c => ?_)
                · replace h := (if_pos c).symm.trans h
                  refine jb_seg 1 (pc' := 245) (ls' := [some (.ref 34), some (.ref 2), some (.int x2), some (.int x3), some (.int x4), some (.int s0), some (.int (zf_271 1 x2)), some (.int 0), some (.int ((jb_up M 34 7 ((M 34 7) - 1)) 38 (((jb_up M 34 7 ((M 34 7) - 1)) 34 7)).toNatClampNeg))]) (st' := [(.int 6)]) (σ' := (zE L, q8.2, N)) (G := []) rfl trivial ?_
                  exact jb_mask [true, true, true, true, false, false, false, false, true] rfl (zg_99_J245 hd x2 x3 ((jb_up M 34 7 ((M 34 7) - 1)) 38 (((jb_up M 34 7 ((M 34 7) - 1)) 34 7)).toNatClampNeg) 6 q8.2 N h hK)
                · replace h := (if_neg c).symm.trans h
                  refine jb_seg 2 (pc' := 245) (ls' := [some (.ref 34), some (.ref 2), some (.int x2), some (.int x3), some (.int x4), some (.int s0), some (.int (zf_271 1 x2)), some (.int 0), some (.int ((jb_up M 34 7 ((M 34 7) - 1)) 38 (((jb_up M 34 7 ((M 34 7) - 1)) 34 7)).toNatClampNeg))]) (st' := [(.int 0)]) (σ' := (zE L, q8.2, N)) (G := []) rfl trivial ?_
                  exact jb_mask [true, true, true, true, false, false, false, false, true] rfl (zg_99_J245 hd x2 x3 ((jb_up M 34 7 ((M 34 7) - 1)) 38 (((jb_up M 34 7 ((M 34 7) - 1)) 34 7)).toNatClampNeg) 0 q8.2 N h hK)
            · replace h := (if_neg c).symm.trans h
              exact jb_mask [true, true, true, true, false, false, false, false, true] rfl (zg_99_J250 hd x2 x3 x3 M N h hK)
          · replace h := (if_neg c).symm.trans h
            exact jb_mask [true, true, true, true, false, false, false, false, true] rfl (zg_99_J250 hd x2 x3 x3 M N h hK)
    · replace h := (if_neg c).symm.trans h
      exact jb_mask [true, true, false, true, true, true, true, false, false] rfl (zg_99_J102 hd x3 x4 s0 (zf_271 1 x2) M N h hK)
  · replace h := (if_neg c).symm.trans h
    refine jb_seg 2 (pc' := (if x2 = 0 then 71 else 75)) (ls' := [some (.ref 34), some (.ref 2), some (.int x2), some (.int x3), some (.int x4), some (.int s0), some (.int (zf_271 1 x2)), some (.int 0), some (.int x3)]) (st' := []) (σ' := (zE L, M, N)) (G := []) rfl trivial ?_
    refine jb_ite (fun c => ?_) (fun c => ?_)
    · replace h := (if_pos c).symm.trans h
      refine jb_seg 2 (pc' := 76) (ls' := [some (.ref 34), some (.ref 2), some (.int x2), some (.int x3), some (.int x4), some (.int s0), some (.int (zf_271 1 x2)), some (.int 0), some (.int x3)]) (st' := [(.int 0)]) (σ' := (zE L, M, N)) (G := []) rfl trivial ?_
      exact jb_mask [true, true, false, true, true, false, false, false, true] rfl (zg_99_J76 hd x3 x4 x3 0 M N h hK)
    · replace h := (if_neg c).symm.trans h
      refine jb_seg 1 (pc' := 76) (ls' := [some (.ref 34), some (.ref 2), some (.int x2), some (.int x3), some (.int x4), some (.int s0), some (.int (zf_271 1 x2)), some (.int 0), some (.int x3)]) (st' := [(.int 1)]) (σ' := (zE L, M, N)) (G := []) rfl trivial ?_
      exact jb_mask [true, true, false, true, true, false, false, false, true] rfl (zg_99_J76 hd x3 x4 x3 1 M N h hK)
set_option maxRecDepth 20000 in
theorem zg_99_J290 {Γ : jb_G} {L : Nat} {d : Nat} (hd : 1 ≤ d) (M : jb_Mi) (N : jb_Ml) {v : Option Value} {σ2 : jb_S} {r : (Int32 × jb_Mi)} (h : zf_99_J290 M = some r) (hK : (fun r : Int32 × jb_Mi => v = some (.int r.1) ∧ σ2 = (zE L, r.2, N)) r) : jb_V Γ d zq_99 290 [none, some (.ref 2), none, none, none, none, none, none, none] [] (zE L, M, N) v σ2 := by
  obtain ⟨d, rfl⟩ : ∃ e, d = e + 1 := ⟨d - 1, by omega⟩
  unfold zf_99_J290 at h
  refine jb_seg 3 (pc' := 295) (ls' := [none, some (.ref 2), none, none, none, none, none, none, none]) (st' := [(.int (M 2 1)), (.int 1)]) (σ' := (zE L, M, N)) (G := []) rfl trivial ?_
  refine jb_callS (q' := zq_74) (As := [(.int 1), (.int (M 2 1))]) (rest := []) (σ1 := (zE L, M, N)) (v := some (.int (zf_74 1 (M 2 1)))) rfl (Nat.le_of_ble_eq_true rfl) rfl zp_74 (jb_cat rfl) (Nat.le_of_ble_eq_true rfl) (Nat.le_of_ble_eq_true rfl) (Or.inl rfl) rfl (ze_74 1 (M 2 1) M N rfl) ?_
  refine jb_seg 1 (pc' := 305) (ls' := [none, some (.ref 2), none, none, none, none, none, none, none]) (st' := [(.int (zf_74 1 (M 2 1)))]) (σ' := (zE L, M, N)) (G := []) rfl trivial ?_
  obtain rfl := Option.some.inj h
  obtain ⟨rfl, rfl⟩ := hK
  exact jb_reti rfl rfl
set_option maxRecDepth 20000 in
theorem zg_99_H14 {Γ : jb_G} {L : Nat} {d : Nat} (hd : 1 ≤ d) (N : jb_Ml) (s : Int32 × Int32 × jb_Mi) {v : Option Value} {σ2 : jb_S} {r : ((Int32 × Int32 × jb_Mi) ⊕ (Int32 × jb_Mi))} (h : zf_99_H14 s = some r) (hK : (jb_K (fun s : Int32 × Int32 × jb_Mi => jb_V Γ d zq_99 14 [some (.ref 34), some (.ref 2), some (.int s.1), some (.int s.2.1), none, none, none, none, none] [] (zE L, s.2.2, N) v σ2) (fun r : Int32 × jb_Mi => v = some (.int r.1) ∧ σ2 = (zE L, r.2, N))) r) : jb_V Γ d zq_99 14 [some (.ref 34), some (.ref 2), some (.int s.1), some (.int s.2.1), none, none, none, none, none] [] (zE L, s.2.2, N) v σ2 := by
  obtain ⟨d, rfl⟩ : ∃ e, d = e + 1 := ⟨d - 1, by omega⟩
  unfold zf_99_H14 at h
  refine jb_seg 4 (pc' := (if s.2.1 < (s.2.2 2 1) then 22 else 272)) (ls' := [some (.ref 34), some (.ref 2), some (.int s.1), some (.int s.2.1), none, none, none, none, none]) (st' := []) (σ' := (zE L, s.2.2, N)) (G := []) rfl trivial ?_
  refine jb_ite (fun c => ?_) (fun c => ?_)
  · replace h := (if_pos c).symm.trans h
    refine jb_seg 2 (pc' := 24) (ls' := [some (.ref 34), some (.ref 2), some (.int s.1), some (.int s.2.1), none, none, none, none, none]) (st' := [(.int s.2.1), (.ref 2)]) (σ' := (zE L, s.2.2, N)) (G := []) rfl trivial ?_
    obtain ⟨q1, h1, h⟩ := jb_bd_of h
    refine jb_callV (q' := zq_30) (As := [(.int s.2.1)]) (rest := []) (σ1 := (zE L, s.2.2, N)) (v := some (.int q1)) rfl rfl zp_30 rfl (Nat.le_of_ble_eq_true rfl) (jb_cat rfl) (Nat.le_of_ble_eq_true rfl) (Nat.le_of_ble_eq_true rfl) (Or.inl rfl) rfl (ze_30 s.2.1 s.2.2 N h1) ?_
    refine jb_seg 3 (pc' := (if s.1 = 0 then 33 else 37)) (ls' := [some (.ref 34), some (.ref 2), some (.int s.1), some (.int s.2.1), some (.int q1), none, none, none, none]) (st' := []) (σ' := (zE L, s.2.2, N)) (G := []) rfl trivial ?_
    refine jb_ite (fun c => ?_) (fun c => ?_)
    · replace h := (if_pos c).symm.trans h
      refine jb_seg 2 (pc' := 40) (ls' := [some (.ref 34), some (.ref 2), some (.int s.1), some (.int s.2.1), some (.int q1), none, none, none, none]) (st' := [(.int s.2.1)]) (σ' := (zE L, s.2.2, N)) (G := []) rfl trivial ?_
      exact jb_mask [true, true, true, true, true, false, false, false, false] rfl (zg_99_J40 hd s.1 s.2.1 q1 s.2.1 s.2.2 N h hK)
    · replace h := (if_neg c).symm.trans h
      refine jb_seg 3 (pc' := 40) (ls' := [some (.ref 34), some (.ref 2), some (.int s.1), some (.int s.2.1), some (.int q1), none, none, none, none]) (st' := [(.int (s.2.1 - 1))]) (σ' := (zE L, s.2.2, N)) (G := []) rfl trivial ?_
      exact jb_mask [true, true, true, true, true, false, false, false, false] rfl (zg_99_J40 hd s.1 s.2.1 q1 (s.2.1 - 1) s.2.2 N h hK)
  · replace h := (if_neg c).symm.trans h
    refine jb_seg 2 (pc' := (if s.1 = 0 then 276 else 290)) (ls' := [some (.ref 34), some (.ref 2), some (.int s.1), some (.int s.2.1), none, none, none, none, none]) (st' := []) (σ' := (zE L, s.2.2, N)) (G := []) rfl trivial ?_
    refine jb_ite (fun c => ?_) (fun c => ?_)
    · replace h := (if_pos c).symm.trans h
      refine jb_seg 3 (pc' := (if (s.2.2 34 7) = 0 then 283 else 290)) (ls' := [some (.ref 34), some (.ref 2), some (.int s.1), some (.int s.2.1), none, none, none, none, none]) (st' := []) (σ' := (zE L, s.2.2, N)) (G := []) rfl trivial ?_
      refine jb_ite (fun c => ?_) (fun c => ?_)
      · replace h := (if_pos c).symm.trans h
        refine jb_seg 3 (pc' := (if (s.2.2 34 3) = 0 then 290 else 301)) (ls' := [some (.ref 34), some (.ref 2), some (.int s.1), some (.int s.2.1), none, none, none, none, none]) (st' := []) (σ' := (zE L, s.2.2, N)) (G := []) rfl trivial ?_
        refine jb_ite (fun c => ?_) (fun c => ?_)
        · replace h := (if_pos c).symm.trans h
          obtain ⟨y0, hy0, rfl⟩ := jb_mp_of h
          exact jb_mask [false, true, false, false, false, false, false, false, false] rfl (zg_99_J290 hd s.2.2 N hy0 hK)
        · replace h := (if_neg c).symm.trans h
          refine jb_seg 2 (pc' := 305) (ls' := [some (.ref 34), some (.ref 2), some (.int s.1), some (.int s.2.1), none, none, none, none, none]) (st' := [(.int (s.2.2 34 3))]) (σ' := (zE L, s.2.2, N)) (G := []) rfl trivial ?_
          obtain rfl := Option.some.inj h
          obtain ⟨rfl, rfl⟩ := hK
          exact jb_reti rfl rfl
      · replace h := (if_neg c).symm.trans h
        obtain ⟨y0, hy0, rfl⟩ := jb_mp_of h
        exact jb_mask [false, true, false, false, false, false, false, false, false] rfl (zg_99_J290 hd s.2.2 N hy0 hK)
    · replace h := (if_neg c).symm.trans h
      obtain ⟨y0, hy0, rfl⟩ := jb_mp_of h
      exact jb_mask [false, true, false, false, false, false, false, false, false] rfl (zg_99_J290 hd s.2.2 N hy0 hK)
theorem zg_99_H14L {Γ : jb_G} {L : Nat} {d : Nat} (hd : 1 ≤ d) (N : jb_Ml) {v : Option Value} {σ2 : jb_S} {s : Int32 × Int32 × jb_Mi} {r : (Int32 × jb_Mi)} (h : jb_lp (zf_99_H14) s = some r) (hK : (fun r : Int32 × jb_Mi => v = some (.int r.1) ∧ σ2 = (zE L, r.2, N)) r) : jb_V Γ d zq_99 14 [some (.ref 34), some (.ref 2), some (.int s.1), some (.int s.2.1), none, none, none, none, none] [] (zE L, s.2.2, N) v σ2 := by
  exact @jb_lp_ind (Int32 × Int32 × jb_Mi) ((Int32 × jb_Mi)) (zf_99_H14) (fun s => jb_V Γ d zq_99 14 [some (.ref 34), some (.ref 2), some (.int s.1), some (.int s.2.1), none, none, none, none, none] [] (zE L, s.2.2, N) v σ2) (fun r : Int32 × jb_Mi => v = some (.int r.1) ∧ σ2 = (zE L, r.2, N)) (fun s r h hk => zg_99_H14 hd N s h hk) s r h hK
set_option maxRecDepth 20000 in
theorem zg_99 {Γ : jb_G} {L : Nat} {d : Nat} (hd : 1 ≤ d) (M : jb_Mi) (N : jb_Ml) {v : Option Value} {σ2 : jb_S} {r : (Int32 × jb_Mi)} (h : zf_99 M = some r) (hK : (fun r : Int32 × jb_Mi => v = some (.int r.1) ∧ σ2 = (zE L, r.2, N)) r) : jb_V Γ d zq_99 0 [some (.ref 34), some (.ref 2), none, none, none, none, none, none, none] [] (zE L, M, N) v σ2 := by
  obtain ⟨d, rfl⟩ : ∃ e, d = e + 1 := ⟨d - 1, by omega⟩
  unfold zf_99 at h
  refine jb_seg 10 (pc' := 14) (ls' := [some (.ref 34), some (.ref 2), some (.int 0), some (.int 0), none, none, none, none, none]) (st' := []) (σ' := (zE L, (jb_up (jb_up M 34 3 0) 34 7 0), N)) (G := []) rfl trivial ?_
  exact jb_mask [true, true, true, true, false, false, false, false, false] rfl (zg_99_H14L hd N h hK)
theorem ze_99 {Γ : jb_G} {L : Nat} {d : Nat} (hd : 1 ≤ d) (M : jb_Mi) (N : jb_Ml) {r : (Int32 × jb_Mi)} (h : zf_99 M = some r) : jb_V Γ d zq_99 0 (jb_en 9 [(.ref 34), (.ref 2)]) [] (zE L, M, N) (some (.int r.1)) (zE L, r.2, N) := zg_99 hd M N h ⟨rfl, rfl⟩
