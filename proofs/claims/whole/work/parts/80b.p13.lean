-- X13_wrongAt
set_option maxRecDepth 20000 in
theorem zg_186 {Γ : jb_G} {L : Nat} {d : Nat} (x1 : Int32) (x2 : Int32) (M : jb_Mi) (N : jb_Ml) {v : Option Value} {σ2 : jb_S} {r : Bool × jb_Mi} (h : zf_186 x1 x2 M = r) (hK : (fun r : Bool × jb_Mi => v = some (.int (jb_b2i r.1)) ∧ σ2 = (zE L, r.2, N)) r) : jb_V Γ d zq_186 0 [some (.ref 79), some (.int x1), some (.int x2)] [] (zE L, M, N) v σ2 := by
  unfold zf_186 at h
  refine jb_seg 8 (pc' := 12) (ls' := [some (.ref 79), some (.int x1), some (.int x2)]) (st' := [(.int 0)]) (σ' := (zE L, (jb_up M 79 7 (((-1000) * x1) - x2)), N)) (G := []) rfl trivial ?_
  subst h
  obtain ⟨rfl, rfl⟩ := hK
  exact jb_retz (by decide) rfl rfl
theorem ze_186 {Γ : jb_G} {L : Nat} {d : Nat} (x1 : Int32) (x2 : Int32) (M : jb_Mi) (N : jb_Ml) {r : Bool × jb_Mi} (h : zf_186 x1 x2 M = r) : jb_V Γ d zq_186 0 (jb_en 3 [(.ref 79), (.int x1), (.int x2)]) [] (zE L, M, N) (some (.int (jb_b2i r.1))) (zE L, r.2, N) := zg_186 x1 x2 M N h ⟨rfl, rfl⟩
-- X13_takes
set_option maxRecDepth 20000 in
theorem zg_187 {Γ : jb_G} {L : Nat} {d : Nat} (hd : 1 ≤ d) (x1 : Int32) (M : jb_Mi) (N : jb_Ml) {v : Option Value} {σ2 : jb_S} {r : (Bool × jb_Mi)} (h : zf_187 x1 M = some r) (hK : (fun r : Bool × jb_Mi => v = some (.int (jb_b2i r.1)) ∧ σ2 = (zE L, r.2, N)) r) : jb_V Γ d zq_187 0 [some (.ref 79), some (.int x1)] [] (zE L, M, N) v σ2 := by
  obtain ⟨d, rfl⟩ : ∃ e, d = e + 1 := ⟨d - 1, by omega⟩
  unfold zf_187 at h
  refine jb_seg 1 (pc' := 1) (ls' := [some (.ref 79), some (.int x1)]) (st' := [(.ref 79)]) (σ' := (zE L, M, N)) (G := []) rfl trivial ?_
  obtain ⟨q1, h1, h⟩ := jb_bd_of h
  refine jb_callV (q' := zq_184) (As := []) (rest := []) (σ1 := (zE L, M, N)) (v := some (.int q1)) rfl rfl zp_184 rfl (Nat.le_of_ble_eq_true rfl) (jb_cat rfl) (Nat.le_of_ble_eq_true rfl) (Nat.le_of_ble_eq_true rfl) (Or.inl rfl) rfl (ze_184 M N h1) ?_
  refine jb_seg 2 (pc' := (if q1 = x1 then 18 else 8)) (ls' := [some (.ref 79), some (.int x1)]) (st' := []) (σ' := (zE L, M, N)) (G := []) rfl trivial ?_
  refine jb_ite (fun c => ?_) (fun c => ?_)
  · replace h := (if_pos c).symm.trans h
    refine jb_seg 7 (pc' := 29) (ls' := [some (.ref 79), some (.int x1)]) (st' := [(.int 1)]) (σ' := (zE L, (jb_up M 79 5 ((M 79 5) + 1)), N)) (G := []) rfl trivial ?_
    obtain rfl := Option.some.inj h
    obtain ⟨rfl, rfl⟩ := hK
    exact jb_retz (by decide) rfl rfl
  · replace h := (if_neg c).symm.trans h
    refine jb_seg 4 (pc' := 14) (ls' := [some (.ref 79), some (.int x1)]) (st' := [(.int (M 79 5)), (.int 1), (.ref 79)]) (σ' := (zE L, M, N)) (G := []) rfl trivial ?_
    refine jb_callV (q' := zq_186) (As := [(.int 1), (.int (M 79 5))]) (rest := []) (σ1 := (zE L, (zf_186 1 (M 79 5) M).2, N)) (v := some (.int (jb_b2i (zf_186 1 (M 79 5) M).1))) rfl rfl zp_186 rfl (Nat.le_of_ble_eq_true rfl) (jb_cat rfl) (Nat.le_of_ble_eq_true rfl) (Nat.le_of_ble_eq_true rfl) (Or.inl rfl) rfl (ze_186 1 (M 79 5) M N rfl) ?_
    obtain rfl := Option.some.inj h
    obtain ⟨rfl, rfl⟩ := hK
    exact jb_retz (jb_b2i_or _) rfl rfl
theorem ze_187 {Γ : jb_G} {L : Nat} {d : Nat} (hd : 1 ≤ d) (x1 : Int32) (M : jb_Mi) (N : jb_Ml) {r : (Bool × jb_Mi)} (h : zf_187 x1 M = some r) : jb_V Γ d zq_187 0 (jb_en 2 [(.ref 79), (.int x1)]) [] (zE L, M, N) (some (.int (jb_b2i r.1))) (zE L, r.2, N) := zg_187 hd x1 M N h ⟨rfl, rfl⟩
-- X13_readsNumber
set_option maxRecDepth 20000 in
theorem zg_188_H10 {Γ : jb_G} {L : Nat} {d : Nat} (hd : 2 ≤ d) (x1 : Int32) (N : jb_Ml) (s : jb_Mi) {v : Option Value} {σ2 : jb_S} {r : ((jb_Mi) ⊕ (Bool × jb_Mi))} (h : zf_188_H10 x1 s = some r) (hK : (jb_K (fun s : jb_Mi => jb_V Γ d zq_188 10 [some (.ref 79), some (.int x1)] [] (zE L, s, N) v σ2) (fun r : Bool × jb_Mi => v = some (.int (jb_b2i r.1)) ∧ σ2 = (zE L, r.2, N))) r) : jb_V Γ d zq_188 10 [some (.ref 79), some (.int x1)] [] (zE L, s, N) v σ2 := by
  obtain ⟨d, rfl⟩ : ∃ e, d = e + 1 := ⟨d - 1, by omega⟩
  unfold zf_188_H10 at h
  refine jb_seg 1 (pc' := 11) (ls' := [some (.ref 79), some (.int x1)]) (st' := [(.ref 79)]) (σ' := (zE L, s, N)) (G := []) rfl trivial ?_
  obtain ⟨q1, h1, h⟩ := jb_bd_of h
  refine jb_callV (q' := zq_185) (As := []) (rest := []) (σ1 := (zE L, s, N)) (v := some (.int (jb_b2i q1))) rfl rfl zp_185 rfl (Nat.le_of_ble_eq_true rfl) (jb_cat rfl) (Nat.le_of_ble_eq_true rfl) (Nat.le_of_ble_eq_true rfl) (Or.inl rfl) rfl (ze_185 (by omega) s N h1) ?_
  refine jb_seg 1 (pc' := (if (jb_b2i q1) = 0 then 69 else 17)) (ls' := [some (.ref 79), some (.int x1)]) (st' := []) (σ' := (zE L, s, N)) (G := []) rfl trivial ?_
  refine jb_ite (fun c => ?_) (fun c => ?_)
  · replace h := (if_pos c).symm.trans h
    refine jb_seg 1 (pc' := 70) (ls' := [some (.ref 79), some (.int x1)]) (st' := [(.int 1)]) (σ' := (zE L, s, N)) (G := []) rfl trivial ?_
    obtain rfl := Option.some.inj h
    obtain ⟨rfl, rfl⟩ := hK
    exact jb_retz (by decide) rfl rfl
  · replace h := (if_neg c).symm.trans h
    refine jb_seg 6 (pc' := (if (s 79 5) = (x1 + 5) then 27 else 37)) (ls' := [some (.ref 79), some (.int x1)]) (st' := []) (σ' := (zE L, s, N)) (G := []) rfl trivial ?_
    refine jb_ite (fun c => ?_) (fun c => ?_)
    · replace h := (if_pos c).symm.trans h
      refine jb_seg 4 (pc' := 33) (ls' := [some (.ref 79), some (.int x1)]) (st' := [(.int (s 79 5)), (.int 2), (.ref 79)]) (σ' := (zE L, s, N)) (G := []) rfl trivial ?_
      refine jb_callV (q' := zq_186) (As := [(.int 2), (.int (s 79 5))]) (rest := []) (σ1 := (zE L, (zf_186 2 (s 79 5) s).2, N)) (v := some (.int (jb_b2i (zf_186 2 (s 79 5) s).1))) rfl rfl zp_186 rfl (Nat.le_of_ble_eq_true rfl) (jb_cat rfl) (Nat.le_of_ble_eq_true rfl) (Nat.le_of_ble_eq_true rfl) (Or.inl rfl) rfl (ze_186 2 (s 79 5) s N rfl) ?_
      obtain rfl := Option.some.inj h
      obtain ⟨rfl, rfl⟩ := hK
      exact jb_retz (jb_b2i_or _) rfl rfl
    · replace h := (if_neg c).symm.trans h
      refine jb_seg 6 (pc' := 46) (ls' := [some (.ref 79), some (.int x1)]) (st' := [(.ref 79), (.int (10 * (s 79 8))), (.ref 79)]) (σ' := (zE L, s, N)) (G := []) rfl trivial ?_
      obtain ⟨q2, h2, h⟩ := jb_bd_of h
      refine jb_callV (q' := zq_184) (As := []) (rest := [(.int (10 * (s 79 8))), (.ref 79)]) (σ1 := (zE L, s, N)) (v := some (.int q2)) rfl rfl zp_184 rfl (Nat.le_of_ble_eq_true rfl) (jb_cat rfl) (Nat.le_of_ble_eq_true rfl) (Nat.le_of_ble_eq_true rfl) (Or.inl rfl) rfl (ze_184 s N h2) ?_
      refine jb_seg 11 (pc' := 10) (ls' := [some (.ref 79), some (.int x1)]) (st' := []) (σ' := (zE L, (jb_up (jb_up s 79 8 (((10 * (s 79 8)) + q2) - 48)) 79 5 (((jb_up s 79 8 (((10 * (s 79 8)) + q2) - 48)) 79 5) + 1)), N)) (G := []) rfl trivial ?_
      obtain rfl := Option.some.inj h
      exact jb_mask [true, true] rfl hK
theorem zg_188_H10L {Γ : jb_G} {L : Nat} {d : Nat} (hd : 2 ≤ d) (x1 : Int32) (N : jb_Ml) {v : Option Value} {σ2 : jb_S} {s : jb_Mi} {r : (Bool × jb_Mi)} (h : jb_lp (zf_188_H10 x1) s = some r) (hK : (fun r : Bool × jb_Mi => v = some (.int (jb_b2i r.1)) ∧ σ2 = (zE L, r.2, N)) r) : jb_V Γ d zq_188 10 [some (.ref 79), some (.int x1)] [] (zE L, s, N) v σ2 := by
  exact @jb_lp_ind (jb_Mi) ((Bool × jb_Mi)) (zf_188_H10 x1) (fun s => jb_V Γ d zq_188 10 [some (.ref 79), some (.int x1)] [] (zE L, s, N) v σ2) (fun r : Bool × jb_Mi => v = some (.int (jb_b2i r.1)) ∧ σ2 = (zE L, r.2, N)) (fun s r h hk => zg_188_H10 hd x1 N s h hk) s r h hK
set_option maxRecDepth 20000 in
theorem zg_188 {Γ : jb_G} {L : Nat} {d : Nat} (hd : 2 ≤ d) (M : jb_Mi) (N : jb_Ml) {v : Option Value} {σ2 : jb_S} {r : (Bool × jb_Mi)} (h : zf_188 M = some r) (hK : (fun r : Bool × jb_Mi => v = some (.int (jb_b2i r.1)) ∧ σ2 = (zE L, r.2, N)) r) : jb_V Γ d zq_188 0 [some (.ref 79), none] [] (zE L, M, N) v σ2 := by
  obtain ⟨d, rfl⟩ : ∃ e, d = e + 1 := ⟨d - 1, by omega⟩
  unfold zf_188 at h
  refine jb_seg 6 (pc' := 10) (ls' := [some (.ref 79), some (.int (M 79 5))]) (st' := []) (σ' := (zE L, (jb_up M 79 8 0), N)) (G := []) rfl trivial ?_
  exact jb_mask [true, true] rfl (zg_188_H10L hd (M 79 5) N h hK)
theorem ze_188 {Γ : jb_G} {L : Nat} {d : Nat} (hd : 2 ≤ d) (M : jb_Mi) (N : jb_Ml) {r : (Bool × jb_Mi)} (h : zf_188 M = some r) : jb_V Γ d zq_188 0 (jb_en 2 [(.ref 79)]) [] (zE L, M, N) (some (.int (jb_b2i r.1))) (zE L, r.2, N) := zg_188 hd M N h ⟨rfl, rfl⟩
-- X13_notes
set_option maxRecDepth 20000 in
theorem zg_189 {Γ : jb_G} {L : Nat} {d : Nat} (x1 : Int32) (x2 : Int32) (M : jb_Mi) (N : jb_Ml) {v : Option Value} {σ2 : jb_S} {r : (jb_Mi)} (h : zf_189 x1 x2 M = some r) (hK : (fun r : jb_Mi => v = none ∧ σ2 = (zE L, r, N)) r) : jb_V Γ d zq_189 0 [some (.ref 79), some (.int x1), some (.int x2)] [] (zE L, M, N) v σ2 := by
  unfold zf_189 at h
  obtain ⟨g1, h⟩ := jb_gd_of h
  refine jb_seg 16 (pc' := 25) (ls' := [some (.ref 79), some (.int x1), some (.int x2)]) (st' := []) (σ' := (zE L, (jb_up (jb_up M 84 ((M 79 10)).toNatClampNeg ((1048576 * x1) + x2)) 79 10 (((jb_up M 84 ((M 79 10)).toNatClampNeg ((1048576 * x1) + x2)) 79 10) + 1)), N)) (G := [vp_in (M 79 10) 260]) rfl g1 ?_
  obtain rfl := Option.some.inj h
  obtain ⟨rfl, rfl⟩ := hK
  exact jb_retv rfl rfl
theorem ze_189 {Γ : jb_G} {L : Nat} {d : Nat} (x1 : Int32) (x2 : Int32) (M : jb_Mi) (N : jb_Ml) {r : (jb_Mi)} (h : zf_189 x1 x2 M = some r) : jb_V Γ d zq_189 0 (jb_en 3 [(.ref 79), (.int x1), (.int x2)]) [] (zE L, M, N) (none) (zE L, r, N) := zg_189 x1 x2 M N h ⟨rfl, rfl⟩
-- X13_opens
set_option maxRecDepth 20000 in
theorem zg_190 {Γ : jb_G} {L : Nat} {d : Nat} (hd : 1 ≤ d) (x1 : Int32) (M : jb_Mi) (N : jb_Ml) {v : Option Value} {σ2 : jb_S} {r : (Bool × jb_Mi)} (h : zf_190 x1 M = some r) (hK : (fun r : Bool × jb_Mi => v = some (.int (jb_b2i r.1)) ∧ σ2 = (zE L, r.2, N)) r) : jb_V Γ d zq_190 0 [some (.ref 79), some (.int x1)] [] (zE L, M, N) v σ2 := by
  obtain ⟨d, rfl⟩ : ∃ e, d = e + 1 := ⟨d - 1, by omega⟩
  unfold zf_190 at h
  refine jb_seg 4 (pc' := (if (M 79 9) = 6 then 9 else 19)) (ls' := [some (.ref 79), some (.int x1)]) (st' := []) (σ' := (zE L, M, N)) (G := []) rfl trivial ?_
  refine jb_ite (fun c => ?_) (fun c => ?_)
  · replace h := (if_pos c).symm.trans h
    refine jb_seg 4 (pc' := 15) (ls' := [some (.ref 79), some (.int x1)]) (st' := [(.int (M 79 5)), (.int 5), (.ref 79)]) (σ' := (zE L, M, N)) (G := []) rfl trivial ?_
    refine jb_callV (q' := zq_186) (As := [(.int 5), (.int (M 79 5))]) (rest := []) (σ1 := (zE L, (zf_186 5 (M 79 5) M).2, N)) (v := some (.int (jb_b2i (zf_186 5 (M 79 5) M).1))) rfl rfl zp_186 rfl (Nat.le_of_ble_eq_true rfl) (jb_cat rfl) (Nat.le_of_ble_eq_true rfl) (Nat.le_of_ble_eq_true rfl) (Or.inl rfl) rfl (ze_186 5 (M 79 5) M N rfl) ?_
    obtain rfl := Option.some.inj h
    obtain ⟨rfl, rfl⟩ := hK
    exact jb_retz (jb_b2i_or _) rfl rfl
  · replace h := (if_neg c).symm.trans h
    obtain ⟨g1, h⟩ := jb_gd_of h
    refine jb_seg 27 (pc' := 63) (ls' := [some (.ref 79), some (.int x1)]) (st' := [(.int 1)]) (σ' := (zE L, (jb_up (jb_up (jb_up (jb_up M 79 9 ((M 79 9) + 1)) 85 (((jb_up M 79 9 ((M 79 9) + 1)) 79 11)).toNatClampNeg (1048576 * x1)) 79 11 (((jb_up (jb_up M 79 9 ((M 79 9) + 1)) 85 (((jb_up M 79 9 ((M 79 9) + 1)) 79 11)).toNatClampNeg (1048576 * x1)) 79 11) + 1)) 79 5 (((jb_up (jb_up (jb_up M 79 9 ((M 79 9) + 1)) 85 (((jb_up M 79 9 ((M 79 9) + 1)) 79 11)).toNatClampNeg (1048576 * x1)) 79 11 (((jb_up (jb_up M 79 9 ((M 79 9) + 1)) 85 (((jb_up M 79 9 ((M 79 9) + 1)) 79 11)).toNatClampNeg (1048576 * x1)) 79 11) + 1)) 79 5) + 1)), N)) (G := [vp_in ((jb_up M 79 9 ((M 79 9) + 1)) 79 11) 260]) rfl g1 ?_
    obtain rfl := Option.some.inj h
    obtain ⟨rfl, rfl⟩ := hK
    exact jb_retz (by decide) rfl rfl
theorem ze_190 {Γ : jb_G} {L : Nat} {d : Nat} (hd : 1 ≤ d) (x1 : Int32) (M : jb_Mi) (N : jb_Ml) {r : (Bool × jb_Mi)} (h : zf_190 x1 M = some r) : jb_V Γ d zq_190 0 (jb_en 2 [(.ref 79), (.int x1)]) [] (zE L, M, N) (some (.int (jb_b2i r.1))) (zE L, r.2, N) := zg_190 hd x1 M N h ⟨rfl, rfl⟩
-- X13_waitTop
set_option maxRecDepth 20000 in
theorem zg_191 {Γ : jb_G} {L : Nat} {d : Nat} (M : jb_Mi) (N : jb_Ml) {v : Option Value} {σ2 : jb_S} {r : (Int32)} (h : zf_191 M = some r) (hK : (fun r : Int32 => v = some (.int r) ∧ σ2 = (zE L, M, N)) r) : jb_V Γ d zq_191 0 [some (.ref 79)] [] (zE L, M, N) v σ2 := by
  unfold zf_191 at h
  refine jb_seg 3 (pc' := (if (M 79 11) = 0 then 7 else 11)) (ls' := [some (.ref 79)]) (st' := []) (σ' := (zE L, M, N)) (G := []) rfl trivial ?_
  refine jb_ite (fun c => ?_) (fun c => ?_)
  · replace h := (if_pos c).symm.trans h
    refine jb_seg 2 (pc' := 25) (ls' := [some (.ref 79)]) (st' := [(.int (-1))]) (σ' := (zE L, M, N)) (G := []) rfl trivial ?_
    obtain rfl := Option.some.inj h
    obtain ⟨rfl, rfl⟩ := hK
    exact jb_reti rfl rfl
  · replace h := (if_neg c).symm.trans h
    obtain ⟨g1, h⟩ := jb_gd_of h
    refine jb_seg 9 (pc' := 25) (ls' := [some (.ref 79)]) (st' := [(.int ((M 85 (((M 79 11) - 1)).toNatClampNeg) / 1048576))]) (σ' := (zE L, M, N)) (G := [vp_in ((M 79 11) - 1) 260, ¬ (1048576 : Int32) = 0]) rfl ⟨g1, (show ¬ (1048576 : Int32) = 0 from (by decide))⟩ ?_
    obtain rfl := Option.some.inj h
    obtain ⟨rfl, rfl⟩ := hK
    exact jb_reti rfl rfl
theorem ze_191 {Γ : jb_G} {L : Nat} {d : Nat} (M : jb_Mi) (N : jb_Ml) {r : (Int32)} (h : zf_191 M = some r) : jb_V Γ d zq_191 0 (jb_en 1 [(.ref 79)]) [] (zE L, M, N) (some (.int r)) (zE L, M, N) := zg_191 M N h ⟨rfl, rfl⟩
-- X13_factOf
set_option maxRecDepth 20000 in
theorem zg_192 {Γ : jb_G} {L : Nat} {d : Nat} (x0 : Int32) (M : jb_Mi) (N : jb_Ml) {v : Option Value} {σ2 : jb_S} {r : Int32} (h : zf_192 x0 = r) (hK : (fun r : Int32 => v = some (.int r) ∧ σ2 = (zE L, M, N)) r) : jb_V Γ d zq_192 0 [some (.int x0)] [] (zE L, M, N) v σ2 := by
  unfold zf_192 at h
  refine jb_seg 1 (pc' := 1) (ls' := [some (.int x0)]) (st' := [(.int x0)]) (σ' := (zE L, M, N)) (G := []) rfl trivial ?_
  refine jb_tsw [(97, 96), (98, 116), (99, 102), (100, 116), (101, 116), (102, 116), (103, 107), (104, 110), (105, 100), (106, 116), (107, 104), (108, 98), (109, 92), (110, 113), (111, 116), (112, 116), (113, 116), (114, 116), (115, 94)] 116 rfl (by decide +kernel) ?_
  refine jb_swc (fun c => ?_) (fun c => ?_)
  · replace h := (if_pos c).symm.trans h
    refine jb_seg 1 (pc' := 97) (ls' := [some (.int x0)]) (st' := [(.int 2)]) (σ' := (zE L, M, N)) (G := []) rfl trivial ?_
    subst h
    obtain ⟨rfl, rfl⟩ := hK
    exact jb_reti rfl rfl
  · replace h := (if_neg c).symm.trans h
    refine jb_swc (fun c => ?_) (fun c => ?_)
    · replace h := (if_pos c).symm.trans h
      refine jb_seg 1 (pc' := 117) (ls' := [some (.int x0)]) (st' := [(.int (-1))]) (σ' := (zE L, M, N)) (G := []) rfl trivial ?_
      subst h
      obtain ⟨rfl, rfl⟩ := hK
      exact jb_reti rfl rfl
    · replace h := (if_neg c).symm.trans h
      refine jb_swc (fun c => ?_) (fun c => ?_)
      · replace h := (if_pos c).symm.trans h
        refine jb_seg 1 (pc' := 103) (ls' := [some (.int x0)]) (st' := [(.int 5)]) (σ' := (zE L, M, N)) (G := []) rfl trivial ?_
        subst h
        obtain ⟨rfl, rfl⟩ := hK
        exact jb_reti rfl rfl
      · replace h := (if_neg c).symm.trans h
        refine jb_swc (fun c => ?_) (fun c => ?_)
        · replace h := (if_pos c).symm.trans h
          refine jb_seg 1 (pc' := 117) (ls' := [some (.int x0)]) (st' := [(.int (-1))]) (σ' := (zE L, M, N)) (G := []) rfl trivial ?_
          subst h
          obtain ⟨rfl, rfl⟩ := hK
          exact jb_reti rfl rfl
        · replace h := (if_neg c).symm.trans h
          refine jb_swc (fun c => ?_) (fun c => ?_)
          · replace h := (if_pos c).symm.trans h
            refine jb_seg 1 (pc' := 117) (ls' := [some (.int x0)]) (st' := [(.int (-1))]) (σ' := (zE L, M, N)) (G := []) rfl trivial ?_
            subst h
            obtain ⟨rfl, rfl⟩ := hK
            exact jb_reti rfl rfl
          · replace h := (if_neg c).symm.trans h
            refine jb_swc (fun c => ?_) (fun c => ?_)
            · replace h := (if_pos c).symm.trans h
              refine jb_seg 1 (pc' := 117) (ls' := [some (.int x0)]) (st' := [(.int (-1))]) (σ' := (zE L, M, N)) (G := []) rfl trivial ?_
              subst h
              obtain ⟨rfl, rfl⟩ := hK
              exact jb_reti rfl rfl
            · replace h := (if_neg c).symm.trans h
              refine jb_swc (fun c => ?_) (fun c => ?_)
              · replace h := (if_pos c).symm.trans h
                refine jb_seg 1 (pc' := 109) (ls' := [some (.int x0)]) (st' := [(.int 7)]) (σ' := (zE L, M, N)) (G := []) rfl trivial ?_
                subst h
                obtain ⟨rfl, rfl⟩ := hK
                exact jb_reti rfl rfl
              · replace h := (if_neg c).symm.trans h
                refine jb_swc (fun c => ?_) (fun c => ?_)
                · replace h := (if_pos c).symm.trans h
                  refine jb_seg 1 (pc' := 112) (ls' := [some (.int x0)]) (st' := [(.int 8)]) (σ' := (zE L, M, N)) (G := []) rfl trivial ?_
                  subst h
                  obtain ⟨rfl, rfl⟩ := hK
                  exact jb_reti rfl rfl
                · replace h := (if_neg c).symm.trans h
                  refine jb_swc (fun c => ?_) (fun c => ?_)
                  · replace h := (if_pos c).symm.trans h
                    refine jb_seg 1 (pc' := 101) (ls' := [some (.int x0)]) (st' := [(.int 4)]) (σ' := (zE L, M, N)) (G := []) rfl trivial ?_
                    subst h
                    obtain ⟨rfl, rfl⟩ := hK
                    exact jb_reti rfl rfl
                  · replace h := (if_neg c).symm.trans h
                    refine jb_swc (fun c => ?_) (fun c => ?_)
                    · replace h := (if_pos c).symm.trans h
                      refine jb_seg 1 (pc' := 117) (ls' := [some (.int x0)]) (st' := [(.int (-1))]) (σ' := (zE L, M, N)) (G := []) rfl trivial ?_
                      subst h
                      obtain ⟨rfl, rfl⟩ := hK
                      exact jb_reti rfl rfl
                    · replace h := (if_neg c).symm.trans h
                      refine jb_swc (fun c => ?_) (fun c => ?_)
                      · replace h := (if_pos c).symm.trans h
                        refine jb_seg 1 (pc' := 106) (ls' := [some (.int x0)]) (st' := [(.int 6)]) (σ' := (zE L, M, N)) (G := []) rfl trivial ?_
                        subst h
                        obtain ⟨rfl, rfl⟩ := hK
                        exact jb_reti rfl rfl
                      · replace h := (if_neg c).symm.trans h
                        refine jb_swc (fun c => ?_) (fun c => ?_)
                        · replace h := (if_pos c).symm.trans h
                          refine jb_seg 1 (pc' := 99) (ls' := [some (.int x0)]) (st' := [(.int 3)]) (σ' := (zE L, M, N)) (G := []) rfl trivial ?_
                          subst h
                          obtain ⟨rfl, rfl⟩ := hK
                          exact jb_reti rfl rfl
                        · replace h := (if_neg c).symm.trans h
                          refine jb_swc (fun c => ?_) (fun c => ?_)
                          · replace h := (if_pos c).symm.trans h
                            refine jb_seg 1 (pc' := 93) (ls' := [some (.int x0)]) (st' := [(.int 0)]) (σ' := (zE L, M, N)) (G := []) rfl trivial ?_
                            subst h
                            obtain ⟨rfl, rfl⟩ := hK
                            exact jb_reti rfl rfl
                          · replace h := (if_neg c).symm.trans h
                            refine jb_swc (fun c => ?_) (fun c => ?_)
                            · replace h := (if_pos c).symm.trans h
                              refine jb_seg 1 (pc' := 115) (ls' := [some (.int x0)]) (st' := [(.int 9)]) (σ' := (zE L, M, N)) (G := []) rfl trivial ?_
                              subst h
                              obtain ⟨rfl, rfl⟩ := hK
                              exact jb_reti rfl rfl
                            · replace h := (if_neg c).symm.trans h
                              refine jb_swc (fun c => ?_) (fun c => ?_)
                              · replace h := (if_pos c).symm.trans h
                                refine jb_seg 1 (pc' := 117) (ls' := [some (.int x0)]) (st' := [(.int (-1))]) (σ' := (zE L, M, N)) (G := []) rfl trivial ?_
                                subst h
                                obtain ⟨rfl, rfl⟩ := hK
                                exact jb_reti rfl rfl
                              · replace h := (if_neg c).symm.trans h
                                refine jb_swc (fun c => ?_) (fun c => ?_)
                                · replace h := (if_pos c).symm.trans h
                                  refine jb_seg 1 (pc' := 117) (ls' := [some (.int x0)]) (st' := [(.int (-1))]) (σ' := (zE L, M, N)) (G := []) rfl trivial ?_
                                  subst h
                                  obtain ⟨rfl, rfl⟩ := hK
                                  exact jb_reti rfl rfl
                                · replace h := (if_neg c).symm.trans h
                                  refine jb_swc (fun c => ?_) (fun c => ?_)
                                  · replace h := (if_pos c).symm.trans h
                                    refine jb_seg 1 (pc' := 117) (ls' := [some (.int x0)]) (st' := [(.int (-1))]) (σ' := (zE L, M, N)) (G := []) rfl trivial ?_
                                    subst h
                                    obtain ⟨rfl, rfl⟩ := hK
                                    exact jb_reti rfl rfl
                                  · replace h := (if_neg c).symm.trans h
                                    refine jb_swc (fun c => ?_) (fun c => ?_)
                                    · replace h := (if_pos c).symm.trans h
                                      refine jb_seg 1 (pc' := 117) (ls' := [some (.int x0)]) (st' := [(.int (-1))]) (σ' := (zE L, M, N)) (G := []) rfl trivial ?_
                                      subst h
                                      obtain ⟨rfl, rfl⟩ := hK
                                      exact jb_reti rfl rfl
                                    · replace h := (if_neg c).symm.trans h
                                      refine jb_swc (fun c => ?_) (fun c => ?_)
                                      · replace h := (if_pos c).symm.trans h
                                        refine jb_seg 1 (pc' := 95) (ls' := [some (.int x0)]) (st' := [(.int 1)]) (σ' := (zE L, M, N)) (G := []) rfl trivial ?_
                                        subst h
                                        obtain ⟨rfl, rfl⟩ := hK
                                        exact jb_reti rfl rfl
                                      · replace h := (if_neg c).symm.trans h
                                        refine jb_swn ?_
                                        refine jb_seg 1 (pc' := 117) (ls' := [some (.int x0)]) (st' := [(.int (-1))]) (σ' := (zE L, M, N)) (G := []) rfl trivial ?_
                                        subst h
                                        obtain ⟨rfl, rfl⟩ := hK
                                        exact jb_reti rfl rfl
theorem ze_192 {Γ : jb_G} {L : Nat} {d : Nat} (x0 : Int32) (M : jb_Mi) (N : jb_Ml) {r : Int32} (h : zf_192 x0 = r) : jb_V Γ d zq_192 0 (jb_en 1 [(.int x0)]) [] (zE L, M, N) (some (.int r)) (zE L, M, N) := zg_192 x0 M N h ⟨rfl, rfl⟩
-- X13_sumSign
set_option maxRecDepth 20000 in
theorem zg_193 {Γ : jb_G} {L : Nat} {d : Nat} (x0 : Int32) (M : jb_Mi) (N : jb_Ml) {v : Option Value} {σ2 : jb_S} {r : Int32} (h : zf_193 x0 = r) (hK : (fun r : Int32 => v = some (.int r) ∧ σ2 = (zE L, M, N)) r) : jb_V Γ d zq_193 0 [some (.int x0)] [] (zE L, M, N) v σ2 := by
  unfold zf_193 at h
  refine jb_seg 3 (pc' := (if x0 = 43 then 6 else 10)) (ls' := [some (.int x0)]) (st' := []) (σ' := (zE L, M, N)) (G := []) rfl trivial ?_
  refine jb_ite (fun c => ?_) (fun c => ?_)
  · replace h := (if_pos c).symm.trans h
    refine jb_seg 2 (pc' := 52) (ls' := [some (.int x0)]) (st' := [(.int 2)]) (σ' := (zE L, M, N)) (G := []) rfl trivial ?_
    subst h
    obtain ⟨rfl, rfl⟩ := hK
    exact jb_reti rfl rfl
  · replace h := (if_neg c).symm.trans h
    refine jb_seg 3 (pc' := (if x0 = 45 then 16 else 20)) (ls' := [some (.int x0)]) (st' := []) (σ' := (zE L, M, N)) (G := []) rfl trivial ?_
    refine jb_ite (fun c => ?_) (fun c => ?_)
    · replace h := (if_pos c).symm.trans h
      refine jb_seg 2 (pc' := 52) (ls' := [some (.int x0)]) (st' := [(.int 3)]) (σ' := (zE L, M, N)) (G := []) rfl trivial ?_
      subst h
      obtain ⟨rfl, rfl⟩ := hK
      exact jb_reti rfl rfl
    · replace h := (if_neg c).symm.trans h
      refine jb_seg 3 (pc' := (if x0 = 42 then 26 else 30)) (ls' := [some (.int x0)]) (st' := []) (σ' := (zE L, M, N)) (G := []) rfl trivial ?_
      refine jb_ite (fun c => ?_) (fun c => ?_)
      · replace h := (if_pos c).symm.trans h
        refine jb_seg 2 (pc' := 52) (ls' := [some (.int x0)]) (st' := [(.int 4)]) (σ' := (zE L, M, N)) (G := []) rfl trivial ?_
        subst h
        obtain ⟨rfl, rfl⟩ := hK
        exact jb_reti rfl rfl
      · replace h := (if_neg c).symm.trans h
        refine jb_seg 3 (pc' := (if x0 = 47 then 36 else 40)) (ls' := [some (.int x0)]) (st' := []) (σ' := (zE L, M, N)) (G := []) rfl trivial ?_
        refine jb_ite (fun c => ?_) (fun c => ?_)
        · replace h := (if_pos c).symm.trans h
          refine jb_seg 2 (pc' := 52) (ls' := [some (.int x0)]) (st' := [(.int 5)]) (σ' := (zE L, M, N)) (G := []) rfl trivial ?_
          subst h
          obtain ⟨rfl, rfl⟩ := hK
          exact jb_reti rfl rfl
        · replace h := (if_neg c).symm.trans h
          refine jb_seg 3 (pc' := (if x0 = 37 then 46 else 51)) (ls' := [some (.int x0)]) (st' := []) (σ' := (zE L, M, N)) (G := []) rfl trivial ?_
          refine jb_ite (fun c => ?_) (fun c => ?_)
          · replace h := (if_pos c).symm.trans h
            refine jb_seg 2 (pc' := 52) (ls' := [some (.int x0)]) (st' := [(.int 6)]) (σ' := (zE L, M, N)) (G := []) rfl trivial ?_
            subst h
            obtain ⟨rfl, rfl⟩ := hK
            exact jb_reti rfl rfl
          · replace h := (if_neg c).symm.trans h
            refine jb_seg 1 (pc' := 52) (ls' := [some (.int x0)]) (st' := [(.int (-1))]) (σ' := (zE L, M, N)) (G := []) rfl trivial ?_
            subst h
            obtain ⟨rfl, rfl⟩ := hK
            exact jb_reti rfl rfl
theorem ze_193 {Γ : jb_G} {L : Nat} {d : Nat} (x0 : Int32) (M : jb_Mi) (N : jb_Ml) {r : Int32} (h : zf_193 x0 = r) : jb_V Γ d zq_193 0 (jb_en 1 [(.int x0)]) [] (zE L, M, N) (some (.int r)) (zE L, M, N) := zg_193 x0 M N h ⟨rfl, rfl⟩
-- X13_closesSums
set_option maxRecDepth 20000 in
theorem zg_194_J37 {Γ : jb_G} {L : Nat} {d : Nat} (hd : 1 ≤ d) (x1 : Int32) (M : jb_Mi) (N : jb_Ml) {v : Option Value} {σ2 : jb_S} {r : ((jb_Mi) ⊕ (jb_Mi))} (h : zf_194_J37 x1 M = some r) (hK : (jb_K (fun s : jb_Mi => jb_V Γ d zq_194 0 [some (.ref 79), some (.int x1)] [] (zE L, s, N) v σ2) (fun r : jb_Mi => v = none ∧ σ2 = (zE L, r, N))) r) : jb_V Γ d zq_194 37 [some (.ref 79), some (.int x1)] [] (zE L, M, N) v σ2 := by
  obtain ⟨d, rfl⟩ : ∃ e, d = e + 1 := ⟨d - 1, by omega⟩
  unfold zf_194_J37 at h
  refine jb_seg 2 (pc' := 39) (ls' := [some (.ref 79), some (.int x1)]) (st' := [(.ref 79), (.ref 79)]) (σ' := (zE L, M, N)) (G := []) rfl trivial ?_
  obtain ⟨q3, h3, h⟩ := jb_bd_of h
  refine jb_callV (q' := zq_191) (As := []) (rest := [(.ref 79)]) (σ1 := (zE L, M, N)) (v := some (.int q3)) rfl rfl zp_191 rfl (Nat.le_of_ble_eq_true rfl) (jb_cat rfl) (Nat.le_of_ble_eq_true rfl) (Nat.le_of_ble_eq_true rfl) (Or.inl rfl) rfl (ze_191 M N h3) ?_
  refine jb_seg 1 (pc' := 43) (ls' := [some (.ref 79), some (.int x1)]) (st' := [(.int 0), (.int q3), (.ref 79)]) (σ' := (zE L, M, N)) (G := []) rfl trivial ?_
  obtain ⟨q4, h4, h⟩ := jb_bd_of h
  refine jb_callV (q' := zq_189) (As := [(.int q3), (.int 0)]) (rest := []) (σ1 := (zE L, q4, N)) (v := none) rfl rfl zp_189 rfl (Nat.le_of_ble_eq_true rfl) (jb_cat rfl) (Nat.le_of_ble_eq_true rfl) (Nat.le_of_ble_eq_true rfl) (Or.inl rfl) rfl (ze_189 q3 0 M N h4) ?_
  refine jb_seg 7 (pc' := 0) (ls' := [some (.ref 79), some (.int x1)]) (st' := []) (σ' := (zE L, (jb_up q4 79 11 ((q4 79 11) - 1)), N)) (G := []) rfl trivial ?_
  obtain rfl := Option.some.inj h
  exact jb_mask [true, true] rfl hK
set_option maxRecDepth 20000 in
theorem zg_194_J17 {Γ : jb_G} {L : Nat} {d : Nat} (hd : 1 ≤ d) (x1 : Int32) (M : jb_Mi) (N : jb_Ml) {v : Option Value} {σ2 : jb_S} {r : ((jb_Mi) ⊕ (jb_Mi))} (h : zf_194_J17 x1 M = some r) (hK : (jb_K (fun s : jb_Mi => jb_V Γ d zq_194 0 [some (.ref 79), some (.int x1)] [] (zE L, s, N) v σ2) (fun r : jb_Mi => v = none ∧ σ2 = (zE L, r, N))) r) : jb_V Γ d zq_194 17 [some (.ref 79), some (.int x1)] [] (zE L, M, N) v σ2 := by
  obtain ⟨d, rfl⟩ : ∃ e, d = e + 1 := ⟨d - 1, by omega⟩
  unfold zf_194_J17 at h
  refine jb_seg 2 (pc' := (if x1 = 0 then 59 else 21)) (ls' := [some (.ref 79), some (.int x1)]) (st' := []) (σ' := (zE L, M, N)) (G := []) rfl trivial ?_
  refine jb_ite (fun c => ?_) (fun c => ?_)
  · replace h := (if_pos c).symm.trans h
    obtain rfl := Option.some.inj h
    obtain ⟨rfl, rfl⟩ := hK
    exact jb_retv rfl rfl
  · replace h := (if_neg c).symm.trans h
    refine jb_seg 1 (pc' := 22) (ls' := [some (.ref 79), some (.int x1)]) (st' := [(.ref 79)]) (σ' := (zE L, M, N)) (G := []) rfl trivial ?_
    obtain ⟨q2, h2, h⟩ := jb_bd_of h
    refine jb_callV (q' := zq_191) (As := []) (rest := []) (σ1 := (zE L, M, N)) (v := some (.int q2)) rfl rfl zp_191 rfl (Nat.le_of_ble_eq_true rfl) (jb_cat rfl) (Nat.le_of_ble_eq_true rfl) (Nat.le_of_ble_eq_true rfl) (Or.inl rfl) rfl (ze_191 M N h2) ?_
    refine jb_seg 2 (pc' := (if q2 = 2 then 37 else 29)) (ls' := [some (.ref 79), some (.int x1)]) (st' := []) (σ' := (zE L, M, N)) (G := []) rfl trivial ?_
    refine jb_ite (fun c => ?_) (fun c => ?_)
    · replace h := (if_pos c).symm.trans h
      exact jb_mask [true, true] rfl (zg_194_J37 hd x1 M N h hK)
    · replace h := (if_neg c).symm.trans h
      refine jb_seg 1 (pc' := 30) (ls' := [some (.ref 79), some (.int x1)]) (st' := [(.ref 79)]) (σ' := (zE L, M, N)) (G := []) rfl trivial ?_
      obtain ⟨q5, h5, h⟩ := jb_bd_of h
      refine jb_callV (q' := zq_191) (As := []) (rest := []) (σ1 := (zE L, M, N)) (v := some (.int q5)) rfl rfl zp_191 rfl (Nat.le_of_ble_eq_true rfl) (jb_cat rfl) (Nat.le_of_ble_eq_true rfl) (Nat.le_of_ble_eq_true rfl) (Or.inl rfl) rfl (ze_191 M N h5) ?_
      refine jb_seg 2 (pc' := (if q5 = 3 then 37 else 59)) (ls' := [some (.ref 79), some (.int x1)]) (st' := []) (σ' := (zE L, M, N)) (G := []) rfl trivial ?_
      refine jb_ite (fun c => ?_) (fun c => ?_)
      · replace h := (if_pos c).symm.trans h
        exact jb_mask [true, true] rfl (zg_194_J37 hd x1 M N h hK)
      · replace h := (if_neg c).symm.trans h
        obtain rfl := Option.some.inj h
        obtain ⟨rfl, rfl⟩ := hK
        exact jb_retv rfl rfl
set_option maxRecDepth 20000 in
theorem zg_194_H0 {Γ : jb_G} {L : Nat} {d : Nat} (hd : 1 ≤ d) (x1 : Int32) (N : jb_Ml) (s : jb_Mi) {v : Option Value} {σ2 : jb_S} {r : ((jb_Mi) ⊕ (jb_Mi))} (h : zf_194_H0 x1 s = some r) (hK : (jb_K (fun s : jb_Mi => jb_V Γ d zq_194 0 [some (.ref 79), some (.int x1)] [] (zE L, s, N) v σ2) (fun r : jb_Mi => v = none ∧ σ2 = (zE L, r, N))) r) : jb_V Γ d zq_194 0 [some (.ref 79), some (.int x1)] [] (zE L, s, N) v σ2 := by
  obtain ⟨d, rfl⟩ : ∃ e, d = e + 1 := ⟨d - 1, by omega⟩
  unfold zf_194_H0 at h
  refine jb_seg 1 (pc' := 1) (ls' := [some (.ref 79), some (.int x1)]) (st' := [(.ref 79)]) (σ' := (zE L, s, N)) (G := []) rfl trivial ?_
  obtain ⟨q1, h1, h⟩ := jb_bd_of h
  refine jb_callV (q' := zq_191) (As := []) (rest := []) (σ1 := (zE L, s, N)) (v := some (.int q1)) rfl rfl zp_191 rfl (Nat.le_of_ble_eq_true rfl) (jb_cat rfl) (Nat.le_of_ble_eq_true rfl) (Nat.le_of_ble_eq_true rfl) (Or.inl rfl) rfl (ze_191 s N h1) ?_
  refine jb_seg 2 (pc' := (if q1 < 4 then 17 else 8)) (ls' := [some (.ref 79), some (.int x1)]) (st' := []) (σ' := (zE L, s, N)) (G := []) rfl trivial ?_
  refine jb_ite (fun c => ?_) (fun c => ?_)
  · replace h := (if_pos c).symm.trans h
    exact jb_mask [true, true] rfl (zg_194_J17 hd x1 s N h hK)
  · replace h := (if_neg c).symm.trans h
    refine jb_seg 1 (pc' := 9) (ls' := [some (.ref 79), some (.int x1)]) (st' := [(.ref 79)]) (σ' := (zE L, s, N)) (G := []) rfl trivial ?_
    obtain ⟨q6, h6, h⟩ := jb_bd_of h
    refine jb_callV (q' := zq_191) (As := []) (rest := []) (σ1 := (zE L, s, N)) (v := some (.int q6)) rfl rfl zp_191 rfl (Nat.le_of_ble_eq_true rfl) (jb_cat rfl) (Nat.le_of_ble_eq_true rfl) (Nat.le_of_ble_eq_true rfl) (Or.inl rfl) rfl (ze_191 s N h6) ?_
    refine jb_seg 2 (pc' := (if 6 < q6 then 17 else 37)) (ls' := [some (.ref 79), some (.int x1)]) (st' := []) (σ' := (zE L, s, N)) (G := []) rfl trivial ?_
    refine jb_ite (fun c => ?_) (fun c => ?_)
    · replace h := (if_pos c).symm.trans h
      exact jb_mask [true, true] rfl (zg_194_J17 hd x1 s N h hK)
    · replace h := (if_neg c).symm.trans h
      exact jb_mask [true, true] rfl (zg_194_J37 hd x1 s N h hK)
theorem zg_194_H0L {Γ : jb_G} {L : Nat} {d : Nat} (hd : 1 ≤ d) (x1 : Int32) (N : jb_Ml) {v : Option Value} {σ2 : jb_S} {s : jb_Mi} {r : (jb_Mi)} (h : jb_lp (zf_194_H0 x1) s = some r) (hK : (fun r : jb_Mi => v = none ∧ σ2 = (zE L, r, N)) r) : jb_V Γ d zq_194 0 [some (.ref 79), some (.int x1)] [] (zE L, s, N) v σ2 := by
  exact @jb_lp_ind (jb_Mi) ((jb_Mi)) (zf_194_H0 x1) (fun s => jb_V Γ d zq_194 0 [some (.ref 79), some (.int x1)] [] (zE L, s, N) v σ2) (fun r : jb_Mi => v = none ∧ σ2 = (zE L, r, N)) (fun s r h hk => zg_194_H0 hd x1 N s h hk) s r h hK
set_option maxRecDepth 20000 in
theorem zg_194 {Γ : jb_G} {L : Nat} {d : Nat} (hd : 1 ≤ d) (x1 : Int32) (M : jb_Mi) (N : jb_Ml) {v : Option Value} {σ2 : jb_S} {r : (jb_Mi)} (h : zf_194 x1 M = some r) (hK : (fun r : jb_Mi => v = none ∧ σ2 = (zE L, r, N)) r) : jb_V Γ d zq_194 0 [some (.ref 79), some (.int x1)] [] (zE L, M, N) v σ2 := by
  obtain ⟨d, rfl⟩ : ∃ e, d = e + 1 := ⟨d - 1, by omega⟩
  unfold zf_194 at h
  exact jb_mask [true, true] rfl (zg_194_H0L hd x1 N h hK)
theorem ze_194 {Γ : jb_G} {L : Nat} {d : Nat} (hd : 1 ≤ d) (x1 : Int32) (M : jb_Mi) (N : jb_Ml) {r : (jb_Mi)} (h : zf_194 x1 M = some r) : jb_V Γ d zq_194 0 (jb_en 2 [(.ref 79), (.int x1)]) [] (zE L, M, N) (none) (zE L, r, N) := zg_194 hd x1 M N h ⟨rfl, rfl⟩
-- X13_readsFactor
set_option maxRecDepth 20000 in
theorem zg_195_H0 {Γ : jb_G} {L : Nat} {d : Nat} (hd : 3 ≤ d) (N : jb_Ml) (s : jb_Mi) {v : Option Value} {σ2 : jb_S} {r : ((jb_Mi) ⊕ (Bool × jb_Mi))} (h : zf_195_H0 s = some r) (hK : (jb_K (fun s : jb_Mi => jb_V Γ d zq_195 0 [some (.ref 79), none] [] (zE L, s, N) v σ2) (fun r : Bool × jb_Mi => v = some (.int (jb_b2i r.1)) ∧ σ2 = (zE L, r.2, N))) r) : jb_V Γ d zq_195 0 [some (.ref 79), none] [] (zE L, s, N) v σ2 := by
  obtain ⟨d, rfl⟩ : ∃ e, d = e + 1 := ⟨d - 1, by omega⟩
  unfold zf_195_H0 at h
  refine jb_seg 1 (pc' := 1) (ls' := [some (.ref 79), none]) (st' := [(.ref 79)]) (σ' := (zE L, s, N)) (G := []) rfl trivial ?_
  obtain ⟨q1, h1, h⟩ := jb_bd_of h
  refine jb_callV (q' := zq_184) (As := []) (rest := []) (σ1 := (zE L, s, N)) (v := some (.int q1)) rfl rfl zp_184 rfl (Nat.le_of_ble_eq_true rfl) (jb_cat rfl) (Nat.le_of_ble_eq_true rfl) (Nat.le_of_ble_eq_true rfl) (Or.inl rfl) rfl (ze_184 s N h1) ?_
  refine jb_seg 2 (pc' := (if q1 = 91 then 9 else 20)) (ls' := [some (.ref 79), none]) (st' := []) (σ' := (zE L, s, N)) (G := []) rfl trivial ?_
  refine jb_ite (fun c => ?_) (fun c => ?_)
  · replace h := (if_pos c).symm.trans h
    refine jb_seg 2 (pc' := 12) (ls' := [some (.ref 79), none]) (st' := [(.int 14), (.ref 79)]) (σ' := (zE L, s, N)) (G := []) rfl trivial ?_
    obtain ⟨q2, h2, h⟩ := jb_bd_of h
    refine jb_callV (q' := zq_190) (As := [(.int 14)]) (rest := []) (σ1 := (zE L, q2.2, N)) (v := some (.int (jb_b2i q2.1))) rfl rfl zp_190 rfl (Nat.le_of_ble_eq_true rfl) (jb_cat rfl) (Nat.le_of_ble_eq_true rfl) (Nat.le_of_ble_eq_true rfl) (Or.inl rfl) rfl (ze_190 (by omega) 14 s N h2) ?_
    refine jb_seg 1 (pc' := (if (jb_b2i q2.1) = 0 then 18 else 0)) (ls' := [some (.ref 79), none]) (st' := []) (σ' := (zE L, q2.2, N)) (G := []) rfl trivial ?_
    refine jb_ite (fun c => ?_) (fun c => ?_)
    · replace h := (if_pos c).symm.trans h
      refine jb_seg 1 (pc' := 19) (ls' := [some (.ref 79), none]) (st' := [(.int 0)]) (σ' := (zE L, q2.2, N)) (G := []) rfl trivial ?_
      obtain rfl := Option.some.inj h
      obtain ⟨rfl, rfl⟩ := hK
      exact jb_retz (by decide) rfl rfl
    · replace h := (if_neg c).symm.trans h
      obtain rfl := Option.some.inj h
      exact jb_mask [true, false] rfl hK
  · replace h := (if_neg c).symm.trans h
    refine jb_seg 1 (pc' := 21) (ls' := [some (.ref 79), none]) (st' := [(.ref 79)]) (σ' := (zE L, s, N)) (G := []) rfl trivial ?_
    obtain ⟨q3, h3, h⟩ := jb_bd_of h
    refine jb_callV (q' := zq_185) (As := []) (rest := []) (σ1 := (zE L, s, N)) (v := some (.int (jb_b2i q3))) rfl rfl zp_185 rfl (Nat.le_of_ble_eq_true rfl) (jb_cat rfl) (Nat.le_of_ble_eq_true rfl) (Nat.le_of_ble_eq_true rfl) (Or.inl rfl) rfl (ze_185 (by omega) s N h3) ?_
    refine jb_seg 1 (pc' := (if (jb_b2i q3) = 0 then 47 else 27)) (ls' := [some (.ref 79), none]) (st' := []) (σ' := (zE L, s, N)) (G := []) rfl trivial ?_
    refine jb_ite (fun c => ?_) (fun c => ?_)
    · replace h := (if_pos c).symm.trans h
      refine jb_seg 1 (pc' := 48) (ls' := [some (.ref 79), none]) (st' := [(.ref 79)]) (σ' := (zE L, s, N)) (G := []) rfl trivial ?_
      obtain ⟨q4, h4, h⟩ := jb_bd_of h
      refine jb_callV (q' := zq_184) (As := []) (rest := []) (σ1 := (zE L, s, N)) (v := some (.int q4)) rfl rfl zp_184 rfl (Nat.le_of_ble_eq_true rfl) (jb_cat rfl) (Nat.le_of_ble_eq_true rfl) (Nat.le_of_ble_eq_true rfl) (Or.inl rfl) rfl (ze_184 s N h4) ?_
      refine jb_callS (q' := zq_192) (As := [(.int q4)]) (rest := []) (σ1 := (zE L, s, N)) (v := some (.int (zf_192 q4))) rfl (Nat.le_of_ble_eq_true rfl) rfl zp_192 (jb_cat rfl) (Nat.le_of_ble_eq_true rfl) (Nat.le_of_ble_eq_true rfl) (Or.inl rfl) rfl (ze_192 q4 s N rfl) ?_
      refine jb_seg 4 (pc' := (if (zf_192 q4) = (-1) then 60 else 70)) (ls' := [some (.ref 79), some (.int (zf_192 q4))]) (st' := []) (σ' := (zE L, s, N)) (G := []) rfl trivial ?_
      refine jb_ite (fun c => ?_) (fun c => ?_)
      · replace h := (if_pos c).symm.trans h
        refine jb_seg 4 (pc' := 66) (ls' := [some (.ref 79), some (.int (zf_192 q4))]) (st' := [(.int (s 79 5)), (.int 1), (.ref 79)]) (σ' := (zE L, s, N)) (G := []) rfl trivial ?_
        refine jb_callV (q' := zq_186) (As := [(.int 1), (.int (s 79 5))]) (rest := []) (σ1 := (zE L, (zf_186 1 (s 79 5) s).2, N)) (v := some (.int (jb_b2i (zf_186 1 (s 79 5) s).1))) rfl rfl zp_186 rfl (Nat.le_of_ble_eq_true rfl) (jb_cat rfl) (Nat.le_of_ble_eq_true rfl) (Nat.le_of_ble_eq_true rfl) (Or.inl rfl) rfl (ze_186 1 (s 79 5) s N rfl) ?_
        obtain rfl := Option.some.inj h
        obtain ⟨rfl, rfl⟩ := hK
        exact jb_retz (jb_b2i_or _) rfl rfl
      · replace h := (if_neg c).symm.trans h
        refine jb_seg 3 (pc' := 73) (ls' := [some (.ref 79), some (.int (zf_192 q4))]) (st' := [(.int (zf_192 q4)), (.int 1), (.ref 79)]) (σ' := (zE L, s, N)) (G := []) rfl trivial ?_
        obtain ⟨q5, h5, h⟩ := jb_bd_of h
        refine jb_callV (q' := zq_189) (As := [(.int 1), (.int (zf_192 q4))]) (rest := []) (σ1 := (zE L, q5, N)) (v := none) rfl rfl zp_189 rfl (Nat.le_of_ble_eq_true rfl) (jb_cat rfl) (Nat.le_of_ble_eq_true rfl) (Nat.le_of_ble_eq_true rfl) (Or.inl rfl) rfl (ze_189 1 (zf_192 q4) s N h5) ?_
        refine jb_seg 7 (pc' := 87) (ls' := [some (.ref 79), some (.int (zf_192 q4))]) (st' := [(.int 1)]) (σ' := (zE L, (jb_up q5 79 5 ((q5 79 5) + 1)), N)) (G := []) rfl trivial ?_
        obtain rfl := Option.some.inj h
        obtain ⟨rfl, rfl⟩ := hK
        exact jb_retz (by decide) rfl rfl
    · replace h := (if_neg c).symm.trans h
      refine jb_seg 1 (pc' := 28) (ls' := [some (.ref 79), none]) (st' := [(.ref 79)]) (σ' := (zE L, s, N)) (G := []) rfl trivial ?_
      obtain ⟨q6, h6, h⟩ := jb_bd_of h
      refine jb_callV (q' := zq_188) (As := []) (rest := []) (σ1 := (zE L, q6.2, N)) (v := some (.int (jb_b2i q6.1))) rfl rfl zp_188 rfl (Nat.le_of_ble_eq_true rfl) (jb_cat rfl) (Nat.le_of_ble_eq_true rfl) (Nat.le_of_ble_eq_true rfl) (Or.inl rfl) rfl (ze_188 (by omega) s N h6) ?_
      refine jb_seg 1 (pc' := (if (jb_b2i q6.1) = 0 then 34 else 36)) (ls' := [some (.ref 79), none]) (st' := []) (σ' := (zE L, q6.2, N)) (G := []) rfl trivial ?_
      refine jb_ite (fun c => ?_) (fun c => ?_)
      · replace h := (if_pos c).symm.trans h
        refine jb_seg 1 (pc' := 35) (ls' := [some (.ref 79), none]) (st' := [(.int 0)]) (σ' := (zE L, q6.2, N)) (G := []) rfl trivial ?_
        obtain rfl := Option.some.inj h
        obtain ⟨rfl, rfl⟩ := hK
        exact jb_retz (by decide) rfl rfl
      · replace h := (if_neg c).symm.trans h
        refine jb_seg 4 (pc' := 42) (ls' := [some (.ref 79), none]) (st' := [(.int (q6.2 79 8)), (.int 0), (.ref 79)]) (σ' := (zE L, q6.2, N)) (G := []) rfl trivial ?_
        obtain ⟨q7, h7, h⟩ := jb_bd_of h
        refine jb_callV (q' := zq_189) (As := [(.int 0), (.int (q6.2 79 8))]) (rest := []) (σ1 := (zE L, q7, N)) (v := none) rfl rfl zp_189 rfl (Nat.le_of_ble_eq_true rfl) (jb_cat rfl) (Nat.le_of_ble_eq_true rfl) (Nat.le_of_ble_eq_true rfl) (Or.inl rfl) rfl (ze_189 0 (q6.2 79 8) q6.2 N h7) ?_
        refine jb_seg 1 (pc' := 46) (ls' := [some (.ref 79), none]) (st' := [(.int 1)]) (σ' := (zE L, q7, N)) (G := []) rfl trivial ?_
        obtain rfl := Option.some.inj h
        obtain ⟨rfl, rfl⟩ := hK
        exact jb_retz (by decide) rfl rfl
theorem zg_195_H0L {Γ : jb_G} {L : Nat} {d : Nat} (hd : 3 ≤ d) (N : jb_Ml) {v : Option Value} {σ2 : jb_S} {s : jb_Mi} {r : (Bool × jb_Mi)} (h : jb_lp (zf_195_H0) s = some r) (hK : (fun r : Bool × jb_Mi => v = some (.int (jb_b2i r.1)) ∧ σ2 = (zE L, r.2, N)) r) : jb_V Γ d zq_195 0 [some (.ref 79), none] [] (zE L, s, N) v σ2 := by
  exact @jb_lp_ind (jb_Mi) ((Bool × jb_Mi)) (zf_195_H0) (fun s => jb_V Γ d zq_195 0 [some (.ref 79), none] [] (zE L, s, N) v σ2) (fun r : Bool × jb_Mi => v = some (.int (jb_b2i r.1)) ∧ σ2 = (zE L, r.2, N)) (fun s r h hk => zg_195_H0 hd N s h hk) s r h hK
set_option maxRecDepth 20000 in
theorem zg_195 {Γ : jb_G} {L : Nat} {d : Nat} (hd : 3 ≤ d) (M : jb_Mi) (N : jb_Ml) {v : Option Value} {σ2 : jb_S} {r : (Bool × jb_Mi)} (h : zf_195 M = some r) (hK : (fun r : Bool × jb_Mi => v = some (.int (jb_b2i r.1)) ∧ σ2 = (zE L, r.2, N)) r) : jb_V Γ d zq_195 0 [some (.ref 79), none] [] (zE L, M, N) v σ2 := by
  obtain ⟨d, rfl⟩ : ∃ e, d = e + 1 := ⟨d - 1, by omega⟩
  unfold zf_195 at h
  exact jb_mask [true, false] rfl (zg_195_H0L hd N h hK)
theorem ze_195 {Γ : jb_G} {L : Nat} {d : Nat} (hd : 3 ≤ d) (M : jb_Mi) (N : jb_Ml) {r : (Bool × jb_Mi)} (h : zf_195 M = some r) : jb_V Γ d zq_195 0 (jb_en 2 [(.ref 79)]) [] (zE L, M, N) (some (.int (jb_b2i r.1))) (zE L, r.2, N) := zg_195 hd M N h ⟨rfl, rfl⟩
-- X13_hasOpenSum
set_option maxRecDepth 20000 in
theorem zg_196_H2 {Γ : jb_G} {L : Nat} {d : Nat} (M : jb_Mi) (N : jb_Ml) (s : Int32) {v : Option Value} {σ2 : jb_S} {r : ((Int32) ⊕ (Bool))} (h : zf_196_H2 M s = some r) (hK : (jb_K (fun s : Int32 => jb_V Γ d zq_196 2 [some (.ref 79), none, some (.int s)] [] (zE L, M, N) v σ2) (fun r : Bool => v = some (.int (jb_b2i r)) ∧ σ2 = (zE L, M, N))) r) : jb_V Γ d zq_196 2 [some (.ref 79), none, some (.int s)] [] (zE L, M, N) v σ2 := by
  unfold zf_196_H2 at h
  refine jb_seg 4 (pc' := (if s < (M 79 11) then 10 else 32)) (ls' := [some (.ref 79), none, some (.int s)]) (st' := []) (σ' := (zE L, M, N)) (G := []) rfl trivial ?_
  refine jb_ite (fun c => ?_) (fun c => ?_)
  · replace h := (if_pos c).symm.trans h
    obtain ⟨g1, h⟩ := jb_gd_of h
    refine jb_seg 8 (pc' := (if ((M 85 s.toNatClampNeg) / 1048576) = 14 then 24 else 26)) (ls' := [some (.ref 79), none, some (.int s)]) (st' := []) (σ' := (zE L, M, N)) (G := [vp_in s 260, ¬ (1048576 : Int32) = 0]) rfl ⟨g1, (show ¬ (1048576 : Int32) = 0 from (by decide))⟩ ?_
    refine jb_ite (fun c => ?_) (fun c => ?_)
    · replace h := (if_pos c).symm.trans h
      refine jb_seg 1 (pc' := 25) (ls' := [some (.ref 79), none, some (.int s)]) (st' := [(.int 1)]) (σ' := (zE L, M, N)) (G := []) rfl trivial ?_
      obtain rfl := Option.some.inj h
      obtain ⟨rfl, rfl⟩ := hK
      exact jb_retz (by decide) rfl rfl
    · replace h := (if_neg c).symm.trans h
      refine jb_seg 2 (pc' := 2) (ls' := [some (.ref 79), none, some (.int (s + 1))]) (st' := []) (σ' := (zE L, M, N)) (G := []) rfl trivial ?_
      obtain rfl := Option.some.inj h
      exact jb_mask [true, false, true] rfl hK
  · replace h := (if_neg c).symm.trans h
    refine jb_seg 1 (pc' := 33) (ls' := [some (.ref 79), none, some (.int s)]) (st' := [(.int 0)]) (σ' := (zE L, M, N)) (G := []) rfl trivial ?_
    obtain rfl := Option.some.inj h
    obtain ⟨rfl, rfl⟩ := hK
    exact jb_retz (by decide) rfl rfl
theorem zg_196_H2L {Γ : jb_G} {L : Nat} {d : Nat} (M : jb_Mi) (N : jb_Ml) {v : Option Value} {σ2 : jb_S} {s : Int32} {r : (Bool)} (h : jb_lp (zf_196_H2 M) s = some r) (hK : (fun r : Bool => v = some (.int (jb_b2i r)) ∧ σ2 = (zE L, M, N)) r) : jb_V Γ d zq_196 2 [some (.ref 79), none, some (.int s)] [] (zE L, M, N) v σ2 := by
  exact @jb_lp_ind (Int32) ((Bool)) (zf_196_H2 M) (fun s => jb_V Γ d zq_196 2 [some (.ref 79), none, some (.int s)] [] (zE L, M, N) v σ2) (fun r : Bool => v = some (.int (jb_b2i r)) ∧ σ2 = (zE L, M, N)) (fun s r h hk => zg_196_H2 M N s h hk) s r h hK
set_option maxRecDepth 20000 in
theorem zg_196 {Γ : jb_G} {L : Nat} {d : Nat} (x1 : Int32) (M : jb_Mi) (N : jb_Ml) {v : Option Value} {σ2 : jb_S} {r : (Bool)} (h : zf_196 x1 M = some r) (hK : (fun r : Bool => v = some (.int (jb_b2i r)) ∧ σ2 = (zE L, M, N)) r) : jb_V Γ d zq_196 0 [some (.ref 79), some (.int x1), none] [] (zE L, M, N) v σ2 := by
  unfold zf_196 at h
  refine jb_seg 2 (pc' := 2) (ls' := [some (.ref 79), some (.int x1), some (.int x1)]) (st' := []) (σ' := (zE L, M, N)) (G := []) rfl trivial ?_
  exact jb_mask [true, false, true] rfl (zg_196_H2L M N h hK)
theorem ze_196 {Γ : jb_G} {L : Nat} {d : Nat} (x1 : Int32) (M : jb_Mi) (N : jb_Ml) {r : (Bool)} (h : zf_196 x1 M = some r) : jb_V Γ d zq_196 0 (jb_en 3 [(.ref 79), (.int x1)]) [] (zE L, M, N) (some (.int (jb_b2i r))) (zE L, M, N) := zg_196 x1 M N h ⟨rfl, rfl⟩
-- X13_readsSum
set_option maxRecDepth 20000 in
theorem zg_197_J138 {Γ : jb_G} {L : Nat} {d : Nat} (hd : 4 ≤ d) (x1 : Int32) (M : jb_Mi) (N : jb_Ml) {v : Option Value} {σ2 : jb_S} {r : (Bool × jb_Mi)} (h : zf_197_J138 x1 M = some r) (hK : (fun r : Bool × jb_Mi => v = some (.int (jb_b2i r.1)) ∧ σ2 = (zE L, r.2, N)) r) : jb_V Γ d zq_197 138 [some (.ref 79), some (.int x1), none] [] (zE L, M, N) v σ2 := by
  obtain ⟨d, rfl⟩ : ∃ e, d = e + 1 := ⟨d - 1, by omega⟩
  unfold zf_197_J138 at h
  refine jb_seg 2 (pc' := 140) (ls' := [some (.ref 79), some (.int x1), none]) (st' := [(.int x1), (.ref 79)]) (σ' := (zE L, M, N)) (G := []) rfl trivial ?_
  obtain ⟨q5, h5, h⟩ := jb_bd_of h
  refine jb_callV (q' := zq_196) (As := [(.int x1)]) (rest := []) (σ1 := (zE L, M, N)) (v := some (.int (jb_b2i q5))) rfl rfl zp_196 rfl (Nat.le_of_ble_eq_true rfl) (jb_cat rfl) (Nat.le_of_ble_eq_true rfl) (Nat.le_of_ble_eq_true rfl) (Or.inl rfl) rfl (ze_196 x1 M N h5) ?_
  refine jb_seg 1 (pc' := (if (jb_b2i q5) = 0 then 156 else 146)) (ls' := [some (.ref 79), some (.int x1), none]) (st' := []) (σ' := (zE L, M, N)) (G := []) rfl trivial ?_
  refine jb_ite (fun c => ?_) (fun c => ?_)
  · replace h := (if_pos c).symm.trans h
    refine jb_seg 2 (pc' := 158) (ls' := [some (.ref 79), some (.int x1), none]) (st' := [(.int 1), (.ref 79)]) (σ' := (zE L, M, N)) (G := []) rfl trivial ?_
    obtain ⟨q6, h6, h⟩ := jb_bd_of h
    refine jb_callV (q' := zq_194) (As := [(.int 1)]) (rest := []) (σ1 := (zE L, q6, N)) (v := none) rfl rfl zp_194 rfl (Nat.le_of_ble_eq_true rfl) (jb_cat rfl) (Nat.le_of_ble_eq_true rfl) (Nat.le_of_ble_eq_true rfl) (Or.inl rfl) rfl (ze_194 (by omega) 1 M N h6) ?_
    refine jb_seg 1 (pc' := 162) (ls' := [some (.ref 79), some (.int x1), none]) (st' := [(.int 1)]) (σ' := (zE L, q6, N)) (G := []) rfl trivial ?_
    obtain rfl := Option.some.inj h
    obtain ⟨rfl, rfl⟩ := hK
    exact jb_retz (by decide) rfl rfl
  · replace h := (if_neg c).symm.trans h
    refine jb_seg 4 (pc' := 152) (ls' := [some (.ref 79), some (.int x1), none]) (st' := [(.int (M 79 5)), (.int 1), (.ref 79)]) (σ' := (zE L, M, N)) (G := []) rfl trivial ?_
    refine jb_callV (q' := zq_186) (As := [(.int 1), (.int (M 79 5))]) (rest := []) (σ1 := (zE L, (zf_186 1 (M 79 5) M).2, N)) (v := some (.int (jb_b2i (zf_186 1 (M 79 5) M).1))) rfl rfl zp_186 rfl (Nat.le_of_ble_eq_true rfl) (jb_cat rfl) (Nat.le_of_ble_eq_true rfl) (Nat.le_of_ble_eq_true rfl) (Or.inl rfl) rfl (ze_186 1 (M 79 5) M N rfl) ?_
    obtain rfl := Option.some.inj h
    obtain ⟨rfl, rfl⟩ := hK
    exact jb_retz (jb_b2i_or _) rfl rfl
set_option maxRecDepth 20000 in
theorem zg_197_J163 {Γ : jb_G} {L : Nat} {d : Nat} (hd : 4 ≤ d) (x1 : Int32) (M : jb_Mi) (N : jb_Ml) {v : Option Value} {σ2 : jb_S} {r : ((jb_Mi) ⊕ (Bool × jb_Mi))} (h : zf_197_J163 x1 M = some r) (hK : (jb_K (fun s : jb_Mi => jb_V Γ d zq_197 14 [some (.ref 79), some (.int x1), none] [] (zE L, s, N) v σ2) (fun r : Bool × jb_Mi => v = some (.int (jb_b2i r.1)) ∧ σ2 = (zE L, r.2, N))) r) : jb_V Γ d zq_197 163 [some (.ref 79), some (.int x1), none] [] (zE L, M, N) v σ2 := by
  obtain ⟨d, rfl⟩ : ∃ e, d = e + 1 := ⟨d - 1, by omega⟩
  unfold zf_197_J163 at h
  refine jb_seg 1 (pc' := 14) (ls' := [some (.ref 79), some (.int x1), none]) (st' := []) (σ' := (zE L, M, N)) (G := []) rfl trivial ?_
  obtain rfl := Option.some.inj h
  exact jb_mask [true, true, false] rfl hK
set_option maxRecDepth 20000 in
theorem zg_197_J38 {Γ : jb_G} {L : Nat} {d : Nat} (hd : 4 ≤ d) (x1 : Int32) (x2 : Int32) (s1 : Int32) (M : jb_Mi) (N : jb_Ml) {v : Option Value} {σ2 : jb_S} {r : ((jb_Mi) ⊕ (Bool × jb_Mi))} (h : zf_197_J38 x1 x2 s1 M = some r) (hK : (jb_K (fun s : jb_Mi => jb_V Γ d zq_197 14 [some (.ref 79), some (.int x1), none] [] (zE L, s, N) v σ2) (fun r : Bool × jb_Mi => v = some (.int (jb_b2i r.1)) ∧ σ2 = (zE L, r.2, N))) r) : jb_V Γ d zq_197 38 [some (.ref 79), some (.int x1), some (.int x2)] [(.int s1), (.ref 79)] (zE L, M, N) v σ2 := by
  obtain ⟨d, rfl⟩ : ∃ e, d = e + 1 := ⟨d - 1, by omega⟩
  unfold zf_197_J38 at h
  obtain ⟨q8, h8, h⟩ := jb_bd_of h
  refine jb_callV (q' := zq_194) (As := [(.int s1)]) (rest := []) (σ1 := (zE L, q8, N)) (v := none) rfl rfl zp_194 rfl (Nat.le_of_ble_eq_true rfl) (jb_cat rfl) (Nat.le_of_ble_eq_true rfl) (Nat.le_of_ble_eq_true rfl) (Or.inl rfl) rfl (ze_194 (by omega) s1 M N h8) ?_
  obtain ⟨g9, h⟩ := jb_gd_of h
  refine jb_seg 21 (pc' := 75) (ls' := [some (.ref 79), some (.int x1), some (.int x2)]) (st' := [(.ref 79)]) (σ' := (zE L, (jb_up (jb_up (jb_up q8 85 ((q8 79 11)).toNatClampNeg (1048576 * x2)) 79 11 (((jb_up q8 85 ((q8 79 11)).toNatClampNeg (1048576 * x2)) 79 11) + 1)) 79 5 (((jb_up (jb_up q8 85 ((q8 79 11)).toNatClampNeg (1048576 * x2)) 79 11 (((jb_up q8 85 ((q8 79 11)).toNatClampNeg (1048576 * x2)) 79 11) + 1)) 79 5) + 1)), N)) (G := [vp_in (q8 79 11) 260]) rfl g9 ?_
  obtain ⟨q10, h10, h⟩ := jb_bd_of h
  refine jb_callV (q' := zq_195) (As := []) (rest := []) (σ1 := (zE L, q10.2, N)) (v := some (.int (jb_b2i q10.1))) rfl rfl zp_195 rfl (Nat.le_of_ble_eq_true rfl) (jb_cat rfl) (Nat.le_of_ble_eq_true rfl) (Nat.le_of_ble_eq_true rfl) (Or.inl rfl) rfl (ze_195 (by omega) (jb_up (jb_up (jb_up q8 85 ((q8 79 11)).toNatClampNeg (1048576 * x2)) 79 11 (((jb_up q8 85 ((q8 79 11)).toNatClampNeg (1048576 * x2)) 79 11) + 1)) 79 5 (((jb_up (jb_up q8 85 ((q8 79 11)).toNatClampNeg (1048576 * x2)) 79 11 (((jb_up q8 85 ((q8 79 11)).toNatClampNeg (1048576 * x2)) 79 11) + 1)) 79 5) + 1)) N h10) ?_
  refine jb_seg 1 (pc' := (if (jb_b2i q10.1) = 0 then 81 else 163)) (ls' := [some (.ref 79), some (.int x1), some (.int x2)]) (st' := []) (σ' := (zE L, q10.2, N)) (G := []) rfl trivial ?_
  refine jb_ite (fun c => ?_) (fun c => ?_)
  · replace h := (if_pos c).symm.trans h
    refine jb_seg 1 (pc' := 82) (ls' := [some (.ref 79), some (.int x1), some (.int x2)]) (st' := [(.int 0)]) (σ' := (zE L, q10.2, N)) (G := []) rfl trivial ?_
    obtain rfl := Option.some.inj h
    obtain ⟨rfl, rfl⟩ := hK
    exact jb_retz (by decide) rfl rfl
  · replace h := (if_neg c).symm.trans h
    exact jb_mask [true, true, false] rfl (zg_197_J163 hd x1 q10.2 N h hK)
set_option maxRecDepth 20000 in
theorem zg_197_H14 {Γ : jb_G} {L : Nat} {d : Nat} (hd : 4 ≤ d) (x1 : Int32) (N : jb_Ml) (s : jb_Mi) {v : Option Value} {σ2 : jb_S} {r : ((jb_Mi) ⊕ (Bool × jb_Mi))} (h : zf_197_H14 x1 s = some r) (hK : (jb_K (fun s : jb_Mi => jb_V Γ d zq_197 14 [some (.ref 79), some (.int x1), none] [] (zE L, s, N) v σ2) (fun r : Bool × jb_Mi => v = some (.int (jb_b2i r.1)) ∧ σ2 = (zE L, r.2, N))) r) : jb_V Γ d zq_197 14 [some (.ref 79), some (.int x1), none] [] (zE L, s, N) v σ2 := by
  obtain ⟨d, rfl⟩ : ∃ e, d = e + 1 := ⟨d - 1, by omega⟩
  unfold zf_197_H14 at h
  refine jb_seg 1 (pc' := 15) (ls' := [some (.ref 79), some (.int x1), none]) (st' := [(.ref 79)]) (σ' := (zE L, s, N)) (G := []) rfl trivial ?_
  obtain ⟨q2, h2, h⟩ := jb_bd_of h
  refine jb_callV (q' := zq_184) (As := []) (rest := []) (σ1 := (zE L, s, N)) (v := some (.int q2)) rfl rfl zp_184 rfl (Nat.le_of_ble_eq_true rfl) (jb_cat rfl) (Nat.le_of_ble_eq_true rfl) (Nat.le_of_ble_eq_true rfl) (Or.inl rfl) rfl (ze_184 s N h2) ?_
  refine jb_callS (q' := zq_193) (As := [(.int q2)]) (rest := []) (σ1 := (zE L, s, N)) (v := some (.int (zf_193 q2))) rfl (Nat.le_of_ble_eq_true rfl) rfl zp_193 (jb_cat rfl) (Nat.le_of_ble_eq_true rfl) (Nat.le_of_ble_eq_true rfl) (Or.inl rfl) rfl (ze_193 q2 s N rfl) ?_
  refine jb_seg 4 (pc' := (if (zf_193 q2) = (-1) then 83 else 27)) (ls' := [some (.ref 79), some (.int x1), some (.int (zf_193 q2))]) (st' := []) (σ' := (zE L, s, N)) (G := []) rfl trivial ?_
  refine jb_ite (fun c => ?_) (fun c => ?_)
  · replace h := (if_pos c).symm.trans h
    refine jb_seg 1 (pc' := 84) (ls' := [some (.ref 79), some (.int x1), some (.int (zf_193 q2))]) (st' := [(.ref 79)]) (σ' := (zE L, s, N)) (G := []) rfl trivial ?_
    obtain ⟨q3, h3, h⟩ := jb_bd_of h
    refine jb_callV (q' := zq_184) (As := []) (rest := []) (σ1 := (zE L, s, N)) (v := some (.int q3)) rfl rfl zp_184 rfl (Nat.le_of_ble_eq_true rfl) (jb_cat rfl) (Nat.le_of_ble_eq_true rfl) (Nat.le_of_ble_eq_true rfl) (Or.inl rfl) rfl (ze_184 s N h3) ?_
    refine jb_seg 2 (pc' := (if q3 = 93 then 92 else 138)) (ls' := [some (.ref 79), some (.int x1), some (.int (zf_193 q2))]) (st' := []) (σ' := (zE L, s, N)) (G := []) rfl trivial ?_
    refine jb_ite (fun c => ?_) (fun c => ?_)
    · replace h := (if_pos c).symm.trans h
      refine jb_seg 2 (pc' := 94) (ls' := [some (.ref 79), some (.int x1), some (.int (zf_193 q2))]) (st' := [(.int x1), (.ref 79)]) (σ' := (zE L, s, N)) (G := []) rfl trivial ?_
      obtain ⟨q4, h4, h⟩ := jb_bd_of h
      refine jb_callV (q' := zq_196) (As := [(.int x1)]) (rest := []) (σ1 := (zE L, s, N)) (v := some (.int (jb_b2i q4))) rfl rfl zp_196 rfl (Nat.le_of_ble_eq_true rfl) (jb_cat rfl) (Nat.le_of_ble_eq_true rfl) (Nat.le_of_ble_eq_true rfl) (Or.inl rfl) rfl (ze_196 x1 s N h4) ?_
      refine jb_seg 1 (pc' := (if (jb_b2i q4) = 0 then 138 else 100)) (ls' := [some (.ref 79), some (.int x1), some (.int (zf_193 q2))]) (st' := []) (σ' := (zE L, s, N)) (G := []) rfl trivial ?_
      refine jb_ite (fun c => ?_) (fun c => ?_)
      · replace h := (if_pos c).symm.trans h
        obtain ⟨y0, hy0, rfl⟩ := jb_mp_of h
        exact jb_mask [true, true, false] rfl (zg_197_J138 hd x1 s N hy0 hK)
      · replace h := (if_neg c).symm.trans h
        refine jb_seg 2 (pc' := 102) (ls' := [some (.ref 79), some (.int x1), some (.int (zf_193 q2))]) (st' := [(.int 1), (.ref 79)]) (σ' := (zE L, s, N)) (G := []) rfl trivial ?_
        obtain ⟨q7, h7, h⟩ := jb_bd_of h
        refine jb_callV (q' := zq_194) (As := [(.int 1)]) (rest := []) (σ1 := (zE L, q7, N)) (v := none) rfl rfl zp_194 rfl (Nat.le_of_ble_eq_true rfl) (jb_cat rfl) (Nat.le_of_ble_eq_true rfl) (Nat.le_of_ble_eq_true rfl) (Or.inl rfl) rfl (ze_194 (by omega) 1 s N h7) ?_
        refine jb_seg 19 (pc' := 163) (ls' := [some (.ref 79), some (.int x1), some (.int (zf_193 q2))]) (st' := []) (σ' := (zE L, (jb_up (jb_up (jb_up q7 79 11 ((q7 79 11) - 1)) 79 9 (((jb_up q7 79 11 ((q7 79 11) - 1)) 79 9) - 1)) 79 5 (((jb_up (jb_up q7 79 11 ((q7 79 11) - 1)) 79 9 (((jb_up q7 79 11 ((q7 79 11) - 1)) 79 9) - 1)) 79 5) + 1)), N)) (G := []) rfl trivial ?_
        exact jb_mask [true, true, false] rfl (zg_197_J163 hd x1 (jb_up (jb_up (jb_up q7 79 11 ((q7 79 11) - 1)) 79 9 (((jb_up q7 79 11 ((q7 79 11) - 1)) 79 9) - 1)) 79 5 (((jb_up (jb_up q7 79 11 ((q7 79 11) - 1)) 79 9 (((jb_up q7 79 11 ((q7 79 11) - 1)) 79 9) - 1)) 79 5) + 1)) N h hK)
    · replace h := (if_neg c).symm.trans h
      obtain ⟨y0, hy0, rfl⟩ := jb_mp_of h
      exact jb_mask [true, true, false] rfl (zg_197_J138 hd x1 s N hy0 hK)
  · replace h := (if_neg c).symm.trans h
    refine jb_seg 4 (pc' := (if (zf_193 q2) < 4 then 33 else 37)) (ls' := [some (.ref 79), some (.int x1), some (.int (zf_193 q2))]) (st' := [(.ref 79)]) (σ' := (zE L, s, N)) (G := []) rfl trivial ?_
    refine jb_ite (fun c => ?_) (fun c => ?_)
    · replace h := (if_pos c).symm.trans h
      refine jb_seg 2 (pc' := 38) (ls' := [some (.ref 79), some (.int x1), some (.int (zf_193 q2))]) (st' := [(.int 1), (.ref 79)]) (σ' := (zE L, s, N)) (G := []) rfl trivial ?_
      exact jb_mask [true, true, true] rfl (zg_197_J38 hd x1 (zf_193 q2) 1 s N h hK)
    · replace h := (if_neg c).symm.trans h
      refine jb_seg 1 (pc' := 38) (ls' := [some (.ref 79), some (.int x1), some (.int (zf_193 q2))]) (st' := [(.int 0), (.ref 79)]) (σ' := (zE L, s, N)) (G := []) rfl trivial ?_
      exact jb_mask [true, true, true] rfl (zg_197_J38 hd x1 (zf_193 q2) 0 s N h hK)
theorem zg_197_H14L {Γ : jb_G} {L : Nat} {d : Nat} (hd : 4 ≤ d) (x1 : Int32) (N : jb_Ml) {v : Option Value} {σ2 : jb_S} {s : jb_Mi} {r : (Bool × jb_Mi)} (h : jb_lp (zf_197_H14 x1) s = some r) (hK : (fun r : Bool × jb_Mi => v = some (.int (jb_b2i r.1)) ∧ σ2 = (zE L, r.2, N)) r) : jb_V Γ d zq_197 14 [some (.ref 79), some (.int x1), none] [] (zE L, s, N) v σ2 := by
  exact @jb_lp_ind (jb_Mi) ((Bool × jb_Mi)) (zf_197_H14 x1) (fun s => jb_V Γ d zq_197 14 [some (.ref 79), some (.int x1), none] [] (zE L, s, N) v σ2) (fun r : Bool × jb_Mi => v = some (.int (jb_b2i r.1)) ∧ σ2 = (zE L, r.2, N)) (fun s r h hk => zg_197_H14 hd x1 N s h hk) s r h hK
set_option maxRecDepth 20000 in
theorem zg_197 {Γ : jb_G} {L : Nat} {d : Nat} (hd : 4 ≤ d) (M : jb_Mi) (N : jb_Ml) {v : Option Value} {σ2 : jb_S} {r : (Bool × jb_Mi)} (h : zf_197 M = some r) (hK : (fun r : Bool × jb_Mi => v = some (.int (jb_b2i r.1)) ∧ σ2 = (zE L, r.2, N)) r) : jb_V Γ d zq_197 0 [some (.ref 79), none, none] [] (zE L, M, N) v σ2 := by
  obtain ⟨d, rfl⟩ : ∃ e, d = e + 1 := ⟨d - 1, by omega⟩
  unfold zf_197 at h
  refine jb_seg 4 (pc' := 6) (ls' := [some (.ref 79), some (.int (M 79 11)), none]) (st' := [(.ref 79)]) (σ' := (zE L, M, N)) (G := []) rfl trivial ?_
  obtain ⟨q1, h1, h⟩ := jb_bd_of h
  refine jb_callV (q' := zq_195) (As := []) (rest := []) (σ1 := (zE L, q1.2, N)) (v := some (.int (jb_b2i q1.1))) rfl rfl zp_195 rfl (Nat.le_of_ble_eq_true rfl) (jb_cat rfl) (Nat.le_of_ble_eq_true rfl) (Nat.le_of_ble_eq_true rfl) (Or.inl rfl) rfl (ze_195 (by omega) M N h1) ?_
  refine jb_seg 1 (pc' := (if (jb_b2i q1.1) = 0 then 12 else 14)) (ls' := [some (.ref 79), some (.int (M 79 11)), none]) (st' := []) (σ' := (zE L, q1.2, N)) (G := []) rfl trivial ?_
  refine jb_ite (fun c => ?_) (fun c => ?_)
  · replace h := (if_pos c).symm.trans h
    refine jb_seg 1 (pc' := 13) (ls' := [some (.ref 79), some (.int (M 79 11)), none]) (st' := [(.int 0)]) (σ' := (zE L, q1.2, N)) (G := []) rfl trivial ?_
    obtain rfl := Option.some.inj h
    obtain ⟨rfl, rfl⟩ := hK
    exact jb_retz (by decide) rfl rfl
  · replace h := (if_neg c).symm.trans h
    exact jb_mask [true, true, false] rfl (zg_197_H14L hd (M 79 11) N h hK)
theorem ze_197 {Γ : jb_G} {L : Nat} {d : Nat} (hd : 4 ≤ d) (M : jb_Mi) (N : jb_Ml) {r : (Bool × jb_Mi)} (h : zf_197 M = some r) : jb_V Γ d zq_197 0 (jb_en 3 [(.ref 79)]) [] (zE L, M, N) (some (.int (jb_b2i r.1))) (zE L, r.2, N) := zg_197 hd M N h ⟨rfl, rfl⟩
-- X13_endsPiece
set_option maxRecDepth 20000 in
theorem zg_198_H0 {Γ : jb_G} {L : Nat} {d : Nat} (hd : 1 ≤ d) (N : jb_Ml) (s : jb_Mi) {v : Option Value} {σ2 : jb_S} {r : ((jb_Mi) ⊕ (jb_Mi))} (h : zf_198_H0 s = some r) (hK : (jb_K (fun s : jb_Mi => jb_V Γ d zq_198 0 [some (.ref 79)] [] (zE L, s, N) v σ2) (fun r : jb_Mi => v = none ∧ σ2 = (zE L, r, N))) r) : jb_V Γ d zq_198 0 [some (.ref 79)] [] (zE L, s, N) v σ2 := by
  obtain ⟨d, rfl⟩ : ∃ e, d = e + 1 := ⟨d - 1, by omega⟩
  unfold zf_198_H0 at h
  refine jb_seg 1 (pc' := 1) (ls' := [some (.ref 79)]) (st' := [(.ref 79)]) (σ' := (zE L, s, N)) (G := []) rfl trivial ?_
  obtain ⟨q1, h1, h⟩ := jb_bd_of h
  refine jb_callV (q' := zq_191) (As := []) (rest := []) (σ1 := (zE L, s, N)) (v := some (.int q1)) rfl rfl zp_191 rfl (Nat.le_of_ble_eq_true rfl) (jb_cat rfl) (Nat.le_of_ble_eq_true rfl) (Nat.le_of_ble_eq_true rfl) (Or.inl rfl) rfl (ze_191 s N h1) ?_
  refine jb_seg 2 (pc' := (if q1 = 10 then 9 else 39)) (ls' := [some (.ref 79)]) (st' := []) (σ' := (zE L, s, N)) (G := []) rfl trivial ?_
  refine jb_ite (fun c => ?_) (fun c => ?_)
  · replace h := (if_pos c).symm.trans h
    refine jb_seg 3 (pc' := 13) (ls' := [some (.ref 79)]) (st' := [(.int 0), (.int 10), (.ref 79)]) (σ' := (zE L, s, N)) (G := []) rfl trivial ?_
    obtain ⟨q2, h2, h⟩ := jb_bd_of h
    refine jb_callV (q' := zq_189) (As := [(.int 10), (.int 0)]) (rest := []) (σ1 := (zE L, q2, N)) (v := none) rfl rfl zp_189 rfl (Nat.le_of_ble_eq_true rfl) (jb_cat rfl) (Nat.le_of_ble_eq_true rfl) (Nat.le_of_ble_eq_true rfl) (Or.inl rfl) rfl (ze_189 10 0 s N h2) ?_
    refine jb_seg 13 (pc' := 0) (ls' := [some (.ref 79)]) (st' := []) (σ' := (zE L, (jb_up (jb_up q2 79 11 ((q2 79 11) - 1)) 79 9 (((jb_up q2 79 11 ((q2 79 11) - 1)) 79 9) - 1)), N)) (G := []) rfl trivial ?_
    obtain rfl := Option.some.inj h
    exact jb_mask [true] rfl hK
  · replace h := (if_neg c).symm.trans h
    obtain rfl := Option.some.inj h
    obtain ⟨rfl, rfl⟩ := hK
    exact jb_retv rfl rfl
theorem zg_198_H0L {Γ : jb_G} {L : Nat} {d : Nat} (hd : 1 ≤ d) (N : jb_Ml) {v : Option Value} {σ2 : jb_S} {s : jb_Mi} {r : (jb_Mi)} (h : jb_lp (zf_198_H0) s = some r) (hK : (fun r : jb_Mi => v = none ∧ σ2 = (zE L, r, N)) r) : jb_V Γ d zq_198 0 [some (.ref 79)] [] (zE L, s, N) v σ2 := by
  exact @jb_lp_ind (jb_Mi) ((jb_Mi)) (zf_198_H0) (fun s => jb_V Γ d zq_198 0 [some (.ref 79)] [] (zE L, s, N) v σ2) (fun r : jb_Mi => v = none ∧ σ2 = (zE L, r, N)) (fun s r h hk => zg_198_H0 hd N s h hk) s r h hK
set_option maxRecDepth 20000 in
theorem zg_198 {Γ : jb_G} {L : Nat} {d : Nat} (hd : 1 ≤ d) (M : jb_Mi) (N : jb_Ml) {v : Option Value} {σ2 : jb_S} {r : (jb_Mi)} (h : zf_198 M = some r) (hK : (fun r : jb_Mi => v = none ∧ σ2 = (zE L, r, N)) r) : jb_V Γ d zq_198 0 [some (.ref 79)] [] (zE L, M, N) v σ2 := by
  obtain ⟨d, rfl⟩ : ∃ e, d = e + 1 := ⟨d - 1, by omega⟩
  unfold zf_198 at h
  exact jb_mask [true] rfl (zg_198_H0L hd N h hK)
theorem ze_198 {Γ : jb_G} {L : Nat} {d : Nat} (hd : 1 ≤ d) (M : jb_Mi) (N : jb_Ml) {r : (jb_Mi)} (h : zf_198 M = some r) : jb_V Γ d zq_198 0 (jb_en 1 [(.ref 79)]) [] (zE L, M, N) (none) (zE L, r, N) := zg_198 hd M N h ⟨rfl, rfl⟩
-- X13_lands
set_option maxRecDepth 20000 in
theorem zg_199_J22 {Γ : jb_G} {L : Nat} {d : Nat} (hd : 1 ≤ d) (x1 : Int32) (M : jb_Mi) (N : jb_Ml) {v : Option Value} {σ2 : jb_S} {r : ((jb_Mi) ⊕ (jb_Mi))} (h : zf_199_J22 x1 M = some r) (hK : (jb_K (fun s : jb_Mi => jb_V Γ d zq_199 0 [some (.ref 79), some (.int x1), none] [] (zE L, s, N) v σ2) (fun r : jb_Mi => v = none ∧ σ2 = (zE L, r, N))) r) : jb_V Γ d zq_199 22 [some (.ref 79), some (.int x1), none] [] (zE L, M, N) v σ2 := by
  obtain ⟨d, rfl⟩ : ∃ e, d = e + 1 := ⟨d - 1, by omega⟩
  unfold zf_199_J22 at h
  obtain ⟨g2, h⟩ := jb_gd_of h
  obtain ⟨g3, h⟩ := jb_gd_of h
  obtain ⟨g4, h⟩ := jb_gd_of h
  refine jb_seg 32 (pc' := 0) (ls' := [some (.ref 79), some (.int x1), some (.int ((M 85 (((M 79 11) - 1)).toNatClampNeg) - (M 85 (((M 79 11) - 1)).toNatClampNeg) / 1048576 * 1048576))]) (st' := []) (σ' := (zE L, (jb_up (jb_up M 84 (((M 85 (((M 79 11) - 1)).toNatClampNeg) - (M 85 (((M 79 11) - 1)).toNatClampNeg) / 1048576 * 1048576)).toNatClampNeg ((1048576 * ((M 84 (((M 85 (((M 79 11) - 1)).toNatClampNeg) - (M 85 (((M 79 11) - 1)).toNatClampNeg) / 1048576 * 1048576)).toNatClampNeg) / 1048576)) + (M 79 10))) 79 11 (((jb_up M 84 (((M 85 (((M 79 11) - 1)).toNatClampNeg) - (M 85 (((M 79 11) - 1)).toNatClampNeg) / 1048576 * 1048576)).toNatClampNeg ((1048576 * ((M 84 (((M 85 (((M 79 11) - 1)).toNatClampNeg) - (M 85 (((M 79 11) - 1)).toNatClampNeg) / 1048576 * 1048576)).toNatClampNeg) / 1048576)) + (M 79 10))) 79 11) - 1)), N)) (G := [vp_in ((M 79 11) - 1) 260, ¬ (1048576 : Int32) = 0, vp_in ((M 85 (((M 79 11) - 1)).toNatClampNeg) - (M 85 (((M 79 11) - 1)).toNatClampNeg) / 1048576 * 1048576) 260, ¬ (1048576 : Int32) = 0, vp_in ((M 85 (((M 79 11) - 1)).toNatClampNeg) - (M 85 (((M 79 11) - 1)).toNatClampNeg) / 1048576 * 1048576) 260]) rfl ⟨g2, (show ¬ (1048576 : Int32) = 0 from (by decide)), g3, (show ¬ (1048576 : Int32) = 0 from (by decide)), g4⟩ ?_
  obtain rfl := Option.some.inj h
  exact jb_mask [true, true, false] rfl hK
set_option maxRecDepth 20000 in
theorem zg_199_H0 {Γ : jb_G} {L : Nat} {d : Nat} (hd : 1 ≤ d) (x1 : Int32) (N : jb_Ml) (s : jb_Mi) {v : Option Value} {σ2 : jb_S} {r : ((jb_Mi) ⊕ (jb_Mi))} (h : zf_199_H0 x1 s = some r) (hK : (jb_K (fun s : jb_Mi => jb_V Γ d zq_199 0 [some (.ref 79), some (.int x1), none] [] (zE L, s, N) v σ2) (fun r : jb_Mi => v = none ∧ σ2 = (zE L, r, N))) r) : jb_V Γ d zq_199 0 [some (.ref 79), some (.int x1), none] [] (zE L, s, N) v σ2 := by
  obtain ⟨d, rfl⟩ : ∃ e, d = e + 1 := ⟨d - 1, by omega⟩
  unfold zf_199_H0 at h
  refine jb_seg 1 (pc' := 1) (ls' := [some (.ref 79), some (.int x1), none]) (st' := [(.ref 79)]) (σ' := (zE L, s, N)) (G := []) rfl trivial ?_
  obtain ⟨q1, h1, h⟩ := jb_bd_of h
  refine jb_callV (q' := zq_191) (As := []) (rest := []) (σ1 := (zE L, s, N)) (v := some (.int q1)) rfl rfl zp_191 rfl (Nat.le_of_ble_eq_true rfl) (jb_cat rfl) (Nat.le_of_ble_eq_true rfl) (Nat.le_of_ble_eq_true rfl) (Or.inl rfl) rfl (ze_191 s N h1) ?_
  refine jb_seg 2 (pc' := (if q1 = 11 then 22 else 9)) (ls' := [some (.ref 79), some (.int x1), none]) (st' := []) (σ' := (zE L, s, N)) (G := []) rfl trivial ?_
  refine jb_ite (fun c => ?_) (fun c => ?_)
  · replace h := (if_pos c).symm.trans h
    exact jb_mask [true, true, false] rfl (zg_199_J22 hd x1 s N h hK)
  · replace h := (if_neg c).symm.trans h
    refine jb_seg 2 (pc' := (if x1 = 0 then 73 else 13)) (ls' := [some (.ref 79), some (.int x1), none]) (st' := []) (σ' := (zE L, s, N)) (G := []) rfl trivial ?_
    refine jb_ite (fun c => ?_) (fun c => ?_)
    · replace h := (if_pos c).symm.trans h
      obtain rfl := Option.some.inj h
      obtain ⟨rfl, rfl⟩ := hK
      exact jb_retv rfl rfl
    · replace h := (if_neg c).symm.trans h
      refine jb_seg 1 (pc' := 14) (ls' := [some (.ref 79), some (.int x1), none]) (st' := [(.ref 79)]) (σ' := (zE L, s, N)) (G := []) rfl trivial ?_
      obtain ⟨q5, h5, h⟩ := jb_bd_of h
      refine jb_callV (q' := zq_191) (As := []) (rest := []) (σ1 := (zE L, s, N)) (v := some (.int q5)) rfl rfl zp_191 rfl (Nat.le_of_ble_eq_true rfl) (jb_cat rfl) (Nat.le_of_ble_eq_true rfl) (Nat.le_of_ble_eq_true rfl) (Or.inl rfl) rfl (ze_191 s N h5) ?_
      refine jb_seg 2 (pc' := (if q5 = 12 then 22 else 73)) (ls' := [some (.ref 79), some (.int x1), none]) (st' := []) (σ' := (zE L, s, N)) (G := []) rfl trivial ?_
      refine jb_ite (fun c => ?_) (fun c => ?_)
      · replace h := (if_pos c).symm.trans h
        exact jb_mask [true, true, false] rfl (zg_199_J22 hd x1 s N h hK)
      · replace h := (if_neg c).symm.trans h
        obtain rfl := Option.some.inj h
        obtain ⟨rfl, rfl⟩ := hK
        exact jb_retv rfl rfl
theorem zg_199_H0L {Γ : jb_G} {L : Nat} {d : Nat} (hd : 1 ≤ d) (x1 : Int32) (N : jb_Ml) {v : Option Value} {σ2 : jb_S} {s : jb_Mi} {r : (jb_Mi)} (h : jb_lp (zf_199_H0 x1) s = some r) (hK : (fun r : jb_Mi => v = none ∧ σ2 = (zE L, r, N)) r) : jb_V Γ d zq_199 0 [some (.ref 79), some (.int x1), none] [] (zE L, s, N) v σ2 := by
  exact @jb_lp_ind (jb_Mi) ((jb_Mi)) (zf_199_H0 x1) (fun s => jb_V Γ d zq_199 0 [some (.ref 79), some (.int x1), none] [] (zE L, s, N) v σ2) (fun r : jb_Mi => v = none ∧ σ2 = (zE L, r, N)) (fun s r h hk => zg_199_H0 hd x1 N s h hk) s r h hK
set_option maxRecDepth 20000 in
theorem zg_199 {Γ : jb_G} {L : Nat} {d : Nat} (hd : 1 ≤ d) (x1 : Int32) (M : jb_Mi) (N : jb_Ml) {v : Option Value} {σ2 : jb_S} {r : (jb_Mi)} (h : zf_199 x1 M = some r) (hK : (fun r : jb_Mi => v = none ∧ σ2 = (zE L, r, N)) r) : jb_V Γ d zq_199 0 [some (.ref 79), some (.int x1), none] [] (zE L, M, N) v σ2 := by
  obtain ⟨d, rfl⟩ : ∃ e, d = e + 1 := ⟨d - 1, by omega⟩
  unfold zf_199 at h
  exact jb_mask [true, true, false] rfl (zg_199_H0L hd x1 N h hK)
theorem ze_199 {Γ : jb_G} {L : Nat} {d : Nat} (hd : 1 ≤ d) (x1 : Int32) (M : jb_Mi) (N : jb_Ml) {r : (jb_Mi)} (h : zf_199 x1 M = some r) : jb_V Γ d zq_199 0 (jb_en 3 [(.ref 79), (.int x1)]) [] (zE L, M, N) (none) (zE L, r, N) := zg_199 hd x1 M N h ⟨rfl, rfl⟩
-- X13_jumps
set_option maxRecDepth 20000 in
theorem zg_200 {Γ : jb_G} {L : Nat} {d : Nat} (hd : 1 ≤ d) (x1 : Int32) (M : jb_Mi) (N : jb_Ml) {v : Option Value} {σ2 : jb_S} {r : (jb_Mi)} (h : zf_200 x1 M = some r) (hK : (fun r : jb_Mi => v = none ∧ σ2 = (zE L, r, N)) r) : jb_V Γ d zq_200 0 [some (.ref 79), some (.int x1)] [] (zE L, M, N) v σ2 := by
  obtain ⟨d, rfl⟩ : ∃ e, d = e + 1 := ⟨d - 1, by omega⟩
  unfold zf_200 at h
  obtain ⟨g1, h⟩ := jb_gd_of h
  refine jb_seg 20 (pc' := 31) (ls' := [some (.ref 79), some (.int x1)]) (st' := [(.int 0), (.int x1), (.ref 79)]) (σ' := (zE L, (jb_up (jb_up M 85 ((M 79 11)).toNatClampNeg ((1048576 * x1) + (M 79 10))) 79 11 (((jb_up M 85 ((M 79 11)).toNatClampNeg ((1048576 * x1) + (M 79 10))) 79 11) + 1)), N)) (G := [vp_in (M 79 11) 260]) rfl g1 ?_
  obtain ⟨q2, h2, h⟩ := jb_bd_of h
  refine jb_callV (q' := zq_189) (As := [(.int x1), (.int 0)]) (rest := []) (σ1 := (zE L, q2, N)) (v := none) rfl rfl zp_189 rfl (Nat.le_of_ble_eq_true rfl) (jb_cat rfl) (Nat.le_of_ble_eq_true rfl) (Nat.le_of_ble_eq_true rfl) (Or.inl rfl) rfl (ze_189 x1 0 (jb_up (jb_up M 85 ((M 79 11)).toNatClampNeg ((1048576 * x1) + (M 79 10))) 79 11 (((jb_up M 85 ((M 79 11)).toNatClampNeg ((1048576 * x1) + (M 79 10))) 79 11) + 1)) N h2) ?_
  refine jb_seg 6 (pc' := 44) (ls' := [some (.ref 79), some (.int x1)]) (st' := []) (σ' := (zE L, (jb_up q2 79 5 ((q2 79 5) + 1)), N)) (G := []) rfl trivial ?_
  obtain rfl := Option.some.inj h
  obtain ⟨rfl, rfl⟩ := hK
  exact jb_retv rfl rfl
theorem ze_200 {Γ : jb_G} {L : Nat} {d : Nat} (hd : 1 ≤ d) (x1 : Int32) (M : jb_Mi) (N : jb_Ml) {r : (jb_Mi)} (h : zf_200 x1 M = some r) : jb_V Γ d zq_200 0 (jb_en 2 [(.ref 79), (.int x1)]) [] (zE L, M, N) (none) (zE L, r, N) := zg_200 hd x1 M N h ⟨rfl, rfl⟩
-- X13_readsCompared
set_option maxRecDepth 20000 in
theorem zg_201_J52 {Γ : jb_G} {L : Nat} {d : Nat} (hd : 5 ≤ d) (s0 : Int32) (M : jb_Mi) (N : jb_Ml) {v : Option Value} {σ2 : jb_S} {r : (Bool × jb_Mi)} (h : zf_201_J52 s0 M = some r) (hK : (fun r : Bool × jb_Mi => v = some (.int (jb_b2i r.1)) ∧ σ2 = (zE L, r.2, N)) r) : jb_V Γ d zq_201 52 [some (.ref 79), none] [(.int s0)] (zE L, M, N) v σ2 := by
  obtain ⟨d, rfl⟩ : ∃ e, d = e + 1 := ⟨d - 1, by omega⟩
  unfold zf_201_J52 at h
  refine jb_seg 4 (pc' := (if s0 = (-1) then 58 else 68)) (ls' := [some (.ref 79), some (.int s0)]) (st' := []) (σ' := (zE L, M, N)) (G := []) rfl trivial ?_
  refine jb_ite (fun c => ?_) (fun c => ?_)
  · replace h := (if_pos c).symm.trans h
    refine jb_seg 4 (pc' := 64) (ls' := [some (.ref 79), some (.int s0)]) (st' := [(.int (M 79 5)), (.int 1), (.ref 79)]) (σ' := (zE L, M, N)) (G := []) rfl trivial ?_
    refine jb_callV (q' := zq_186) (As := [(.int 1), (.int (M 79 5))]) (rest := []) (σ1 := (zE L, (zf_186 1 (M 79 5) M).2, N)) (v := some (.int (jb_b2i (zf_186 1 (M 79 5) M).1))) rfl rfl zp_186 rfl (Nat.le_of_ble_eq_true rfl) (jb_cat rfl) (Nat.le_of_ble_eq_true rfl) (Nat.le_of_ble_eq_true rfl) (Or.inl rfl) rfl (ze_186 1 (M 79 5) M N rfl) ?_
    obtain rfl := Option.some.inj h
    obtain ⟨rfl, rfl⟩ := hK
    exact jb_retz (jb_b2i_or _) rfl rfl
  · replace h := (if_neg c).symm.trans h
    refine jb_seg 7 (pc' := 79) (ls' := [some (.ref 79), some (.int s0)]) (st' := [(.ref 79)]) (σ' := (zE L, (jb_up M 79 5 ((M 79 5) + 1)), N)) (G := []) rfl trivial ?_
    obtain ⟨q3, h3, h⟩ := jb_bd_of h
    refine jb_callV (q' := zq_197) (As := []) (rest := []) (σ1 := (zE L, q3.2, N)) (v := some (.int (jb_b2i q3.1))) rfl rfl zp_197 rfl (Nat.le_of_ble_eq_true rfl) (jb_cat rfl) (Nat.le_of_ble_eq_true rfl) (Nat.le_of_ble_eq_true rfl) (Or.inl rfl) rfl (ze_197 (by omega) (jb_up M 79 5 ((M 79 5) + 1)) N h3) ?_
    refine jb_seg 1 (pc' := (if (jb_b2i q3.1) = 0 then 85 else 87)) (ls' := [some (.ref 79), some (.int s0)]) (st' := []) (σ' := (zE L, q3.2, N)) (G := []) rfl trivial ?_
    refine jb_ite (fun c => ?_) (fun c => ?_)
    · replace h := (if_pos c).symm.trans h
      refine jb_seg 1 (pc' := 86) (ls' := [some (.ref 79), some (.int s0)]) (st' := [(.int 0)]) (σ' := (zE L, q3.2, N)) (G := []) rfl trivial ?_
      obtain rfl := Option.some.inj h
      obtain ⟨rfl, rfl⟩ := hK
      exact jb_retz (by decide) rfl rfl
    · replace h := (if_neg c).symm.trans h
      refine jb_seg 3 (pc' := 90) (ls' := [some (.ref 79), some (.int s0)]) (st' := [(.int 0), (.int s0), (.ref 79)]) (σ' := (zE L, q3.2, N)) (G := []) rfl trivial ?_
      obtain ⟨q4, h4, h⟩ := jb_bd_of h
      refine jb_callV (q' := zq_189) (As := [(.int s0), (.int 0)]) (rest := []) (σ1 := (zE L, q4, N)) (v := none) rfl rfl zp_189 rfl (Nat.le_of_ble_eq_true rfl) (jb_cat rfl) (Nat.le_of_ble_eq_true rfl) (Nat.le_of_ble_eq_true rfl) (Or.inl rfl) rfl (ze_189 s0 0 q3.2 N h4) ?_
      refine jb_seg 1 (pc' := 94) (ls' := [some (.ref 79), some (.int s0)]) (st' := [(.ref 79)]) (σ' := (zE L, q4, N)) (G := []) rfl trivial ?_
      obtain ⟨q5, h5, h⟩ := jb_bd_of h
      refine jb_callV (q' := zq_198) (As := []) (rest := []) (σ1 := (zE L, q5, N)) (v := none) rfl rfl zp_198 rfl (Nat.le_of_ble_eq_true rfl) (jb_cat rfl) (Nat.le_of_ble_eq_true rfl) (Nat.le_of_ble_eq_true rfl) (Or.inl rfl) rfl (ze_198 (by omega) q4 N h5) ?_
      refine jb_seg 1 (pc' := 98) (ls' := [some (.ref 79), some (.int s0)]) (st' := [(.int 1)]) (σ' := (zE L, q5, N)) (G := []) rfl trivial ?_
      obtain rfl := Option.some.inj h
      obtain ⟨rfl, rfl⟩ := hK
      exact jb_retz (by decide) rfl rfl
set_option maxRecDepth 20000 in
theorem zg_201 {Γ : jb_G} {L : Nat} {d : Nat} (hd : 5 ≤ d) (M : jb_Mi) (N : jb_Ml) {v : Option Value} {σ2 : jb_S} {r : (Bool × jb_Mi)} (h : zf_201 M = some r) (hK : (fun r : Bool × jb_Mi => v = some (.int (jb_b2i r.1)) ∧ σ2 = (zE L, r.2, N)) r) : jb_V Γ d zq_201 0 [some (.ref 79), none] [] (zE L, M, N) v σ2 := by
  obtain ⟨d, rfl⟩ : ∃ e, d = e + 1 := ⟨d - 1, by omega⟩
  unfold zf_201 at h
  refine jb_seg 1 (pc' := 1) (ls' := [some (.ref 79), none]) (st' := [(.ref 79)]) (σ' := (zE L, M, N)) (G := []) rfl trivial ?_
  obtain ⟨q1, h1, h⟩ := jb_bd_of h
  refine jb_callV (q' := zq_197) (As := []) (rest := []) (σ1 := (zE L, q1.2, N)) (v := some (.int (jb_b2i q1.1))) rfl rfl zp_197 rfl (Nat.le_of_ble_eq_true rfl) (jb_cat rfl) (Nat.le_of_ble_eq_true rfl) (Nat.le_of_ble_eq_true rfl) (Or.inl rfl) rfl (ze_197 (by omega) M N h1) ?_
  refine jb_seg 1 (pc' := (if (jb_b2i q1.1) = 0 then 7 else 9)) (ls' := [some (.ref 79), none]) (st' := []) (σ' := (zE L, q1.2, N)) (G := []) rfl trivial ?_
  refine jb_ite (fun c => ?_) (fun c => ?_)
  · replace h := (if_pos c).symm.trans h
    refine jb_seg 1 (pc' := 8) (ls' := [some (.ref 79), none]) (st' := [(.int 0)]) (σ' := (zE L, q1.2, N)) (G := []) rfl trivial ?_
    obtain rfl := Option.some.inj h
    obtain ⟨rfl, rfl⟩ := hK
    exact jb_retz (by decide) rfl rfl
  · replace h := (if_neg c).symm.trans h
    refine jb_seg 1 (pc' := 10) (ls' := [some (.ref 79), none]) (st' := [(.ref 79)]) (σ' := (zE L, q1.2, N)) (G := []) rfl trivial ?_
    obtain ⟨q2, h2, h⟩ := jb_bd_of h
    refine jb_callV (q' := zq_184) (As := []) (rest := []) (σ1 := (zE L, q1.2, N)) (v := some (.int q2)) rfl rfl zp_184 rfl (Nat.le_of_ble_eq_true rfl) (jb_cat rfl) (Nat.le_of_ble_eq_true rfl) (Nat.le_of_ble_eq_true rfl) (Or.inl rfl) rfl (ze_184 q1.2 N h2) ?_
    refine jb_seg 2 (pc' := (if q2 = 60 then 18 else 23)) (ls' := [some (.ref 79), none]) (st' := []) (σ' := (zE L, q1.2, N)) (G := []) rfl trivial ?_
    refine jb_ite (fun c => ?_) (fun c => ?_)
    · replace h := (if_pos c).symm.trans h
      refine jb_seg 2 (pc' := 52) (ls' := [some (.ref 79), none]) (st' := [(.int 7)]) (σ' := (zE L, q1.2, N)) (G := []) rfl trivial ?_
      exact jb_mask [true, false] rfl (zg_201_J52 hd 7 q1.2 N h hK)
    · replace h := (if_neg c).symm.trans h
      refine jb_seg 1 (pc' := 24) (ls' := [some (.ref 79), none]) (st' := [(.ref 79)]) (σ' := (zE L, q1.2, N)) (G := []) rfl trivial ?_
      obtain ⟨q6, h6, h⟩ := jb_bd_of h
      refine jb_callV (q' := zq_184) (As := []) (rest := []) (σ1 := (zE L, q1.2, N)) (v := some (.int q6)) rfl rfl zp_184 rfl (Nat.le_of_ble_eq_true rfl) (jb_cat rfl) (Nat.le_of_ble_eq_true rfl) (Nat.le_of_ble_eq_true rfl) (Or.inl rfl) rfl (ze_184 q1.2 N h6) ?_
      refine jb_seg 2 (pc' := (if q6 = 62 then 32 else 37)) (ls' := [some (.ref 79), none]) (st' := []) (σ' := (zE L, q1.2, N)) (G := []) rfl trivial ?_
      refine jb_ite (fun c => ?_) (fun c => ?_)
      · replace h := (if_pos c).symm.trans h
        refine jb_seg 2 (pc' := 52) (ls' := [some (.ref 79), none]) (st' := [(.int 8)]) (σ' := (zE L, q1.2, N)) (G := []) rfl trivial ?_
        exact jb_mask [true, false] rfl (zg_201_J52 hd 8 q1.2 N h hK)
      · replace h := (if_neg c).symm.trans h
        refine jb_seg 1 (pc' := 38) (ls' := [some (.ref 79), none]) (st' := [(.ref 79)]) (σ' := (zE L, q1.2, N)) (G := []) rfl trivial ?_
        obtain ⟨q7, h7, h⟩ := jb_bd_of h
        refine jb_callV (q' := zq_184) (As := []) (rest := []) (σ1 := (zE L, q1.2, N)) (v := some (.int q7)) rfl rfl zp_184 rfl (Nat.le_of_ble_eq_true rfl) (jb_cat rfl) (Nat.le_of_ble_eq_true rfl) (Nat.le_of_ble_eq_true rfl) (Or.inl rfl) rfl (ze_184 q1.2 N h7) ?_
        refine jb_seg 2 (pc' := (if q7 = 61 then 46 else 51)) (ls' := [some (.ref 79), none]) (st' := []) (σ' := (zE L, q1.2, N)) (G := []) rfl trivial ?_
        refine jb_ite (fun c => ?_) (fun c => ?_)
        · replace h := (if_pos c).symm.trans h
          refine jb_seg 2 (pc' := 52) (ls' := [some (.ref 79), none]) (st' := [(.int 9)]) (σ' := (zE L, q1.2, N)) (G := []) rfl trivial ?_
          exact jb_mask [true, false] rfl (zg_201_J52 hd 9 q1.2 N h hK)
        · replace h := (if_neg c).symm.trans h
          refine jb_seg 1 (pc' := 52) (ls' := [some (.ref 79), none]) (st' := [(.int (-1))]) (σ' := (zE L, q1.2, N)) (G := []) rfl trivial ?_
          exact jb_mask [true, false] rfl (zg_201_J52 hd (-1) q1.2 N h hK)
theorem ze_201 {Γ : jb_G} {L : Nat} {d : Nat} (hd : 5 ≤ d) (M : jb_Mi) (N : jb_Ml) {r : (Bool × jb_Mi)} (h : zf_201 M = some r) : jb_V Γ d zq_201 0 (jb_en 2 [(.ref 79)]) [] (zE L, M, N) (some (.int (jb_b2i r.1))) (zE L, r.2, N) := zg_201 hd M N h ⟨rfl, rfl⟩
-- X13_readsCondition
set_option maxRecDepth 20000 in
theorem zg_202_J75 {Γ : jb_G} {L : Nat} {d : Nat} (hd : 6 ≤ d) (s1 : Int32) (M : jb_Mi) (N : jb_Ml) {v : Option Value} {σ2 : jb_S} {r : ((jb_Mi) ⊕ (Bool × jb_Mi))} (h : zf_202_J75 s1 M = some r) (hK : (jb_K (fun s : jb_Mi => jb_V Γ d zq_202 40 [some (.ref 79)] [] (zE L, s, N) v σ2) (fun r : Bool × jb_Mi => v = some (.int (jb_b2i r.1)) ∧ σ2 = (zE L, r.2, N))) r) : jb_V Γ d zq_202 75 [some (.ref 79)] [(.int s1), (.ref 79)] (zE L, M, N) v σ2 := by
  obtain ⟨d, rfl⟩ : ∃ e, d = e + 1 := ⟨d - 1, by omega⟩
  unfold zf_202_J75 at h
  obtain ⟨q5, h5, h⟩ := jb_bd_of h
  refine jb_callV (q' := zq_190) (As := [(.int s1)]) (rest := []) (σ1 := (zE L, q5.2, N)) (v := some (.int (jb_b2i q5.1))) rfl rfl zp_190 rfl (Nat.le_of_ble_eq_true rfl) (jb_cat rfl) (Nat.le_of_ble_eq_true rfl) (Nat.le_of_ble_eq_true rfl) (Or.inl rfl) rfl (ze_190 (by omega) s1 M N h5) ?_
  refine jb_seg 1 (pc' := (if (jb_b2i q5.1) = 0 then 81 else 40)) (ls' := [some (.ref 79)]) (st' := []) (σ' := (zE L, q5.2, N)) (G := []) rfl trivial ?_
  refine jb_ite (fun c => ?_) (fun c => ?_)
  · replace h := (if_pos c).symm.trans h
    refine jb_seg 1 (pc' := 82) (ls' := [some (.ref 79)]) (st' := [(.int 0)]) (σ' := (zE L, q5.2, N)) (G := []) rfl trivial ?_
    obtain rfl := Option.some.inj h
    obtain ⟨rfl, rfl⟩ := hK
    exact jb_retz (by decide) rfl rfl
  · replace h := (if_neg c).symm.trans h
    obtain rfl := Option.some.inj h
    exact jb_mask [true] rfl hK
set_option maxRecDepth 20000 in
theorem zg_202_J58 {Γ : jb_G} {L : Nat} {d : Nat} (hd : 6 ≤ d) (M : jb_Mi) (N : jb_Ml) {v : Option Value} {σ2 : jb_S} {r : ((jb_Mi) ⊕ (Bool × jb_Mi))} (h : zf_202_J58 M = some r) (hK : (jb_K (fun s : jb_Mi => jb_V Γ d zq_202 40 [some (.ref 79)] [] (zE L, s, N) v σ2) (fun r : Bool × jb_Mi => v = some (.int (jb_b2i r.1)) ∧ σ2 = (zE L, r.2, N))) r) : jb_V Γ d zq_202 58 [some (.ref 79)] [] (zE L, M, N) v σ2 := by
  obtain ⟨d, rfl⟩ : ∃ e, d = e + 1 := ⟨d - 1, by omega⟩
  unfold zf_202_J58 at h
  refine jb_seg 2 (pc' := 60) (ls' := [some (.ref 79)]) (st' := [(.ref 79), (.ref 79)]) (σ' := (zE L, M, N)) (G := []) rfl trivial ?_
  obtain ⟨q4, h4, h⟩ := jb_bd_of h
  refine jb_callV (q' := zq_184) (As := []) (rest := [(.ref 79)]) (σ1 := (zE L, M, N)) (v := some (.int q4)) rfl rfl zp_184 rfl (Nat.le_of_ble_eq_true rfl) (jb_cat rfl) (Nat.le_of_ble_eq_true rfl) (Nat.le_of_ble_eq_true rfl) (Or.inl rfl) rfl (ze_184 M N h4) ?_
  refine jb_seg 2 (pc' := (if q4 = 33 then 68 else 73)) (ls' := [some (.ref 79)]) (st' := [(.ref 79)]) (σ' := (zE L, M, N)) (G := []) rfl trivial ?_
  refine jb_ite (fun c => ?_) (fun c => ?_)
  · replace h := (if_pos c).symm.trans h
    refine jb_seg 2 (pc' := 75) (ls' := [some (.ref 79)]) (st' := [(.int 10), (.ref 79)]) (σ' := (zE L, M, N)) (G := []) rfl trivial ?_
    exact jb_mask [true] rfl (zg_202_J75 hd 10 M N h hK)
  · replace h := (if_neg c).symm.trans h
    refine jb_seg 1 (pc' := 75) (ls' := [some (.ref 79)]) (st' := [(.int 13), (.ref 79)]) (σ' := (zE L, M, N)) (G := []) rfl trivial ?_
    exact jb_mask [true] rfl (zg_202_J75 hd 13 M N h hK)
set_option maxRecDepth 20000 in
theorem zg_202_J215 {Γ : jb_G} {L : Nat} {d : Nat} (hd : 6 ≤ d) (s1 : Int32) (M : jb_Mi) (N : jb_Ml) {v : Option Value} {σ2 : jb_S} {r : ((jb_Mi) ⊕ (Bool × jb_Mi))} (h : zf_202_J215 s1 M = some r) (hK : (jb_K (fun s : jb_Mi => jb_V Γ d zq_202 40 [some (.ref 79)] [] (zE L, s, N) v σ2) (fun r : Bool × jb_Mi => v = some (.int (jb_b2i r.1)) ∧ σ2 = (zE L, r.2, N))) r) : jb_V Γ d zq_202 215 [some (.ref 79)] [(.int s1), (.ref 79)] (zE L, M, N) v σ2 := by
  obtain ⟨d, rfl⟩ : ∃ e, d = e + 1 := ⟨d - 1, by omega⟩
  unfold zf_202_J215 at h
  obtain ⟨q15, h15, h⟩ := jb_bd_of h
  refine jb_callV (q' := zq_200) (As := [(.int s1)]) (rest := []) (σ1 := (zE L, q15, N)) (v := none) rfl rfl zp_200 rfl (Nat.le_of_ble_eq_true rfl) (jb_cat rfl) (Nat.le_of_ble_eq_true rfl) (Nat.le_of_ble_eq_true rfl) (Or.inl rfl) rfl (ze_200 (by omega) s1 M N h15) ?_
  refine jb_seg 1 (pc' := 40) (ls' := [some (.ref 79)]) (st' := []) (σ' := (zE L, q15, N)) (G := []) rfl trivial ?_
  obtain rfl := Option.some.inj h
  exact jb_mask [true] rfl hK
set_option maxRecDepth 20000 in
theorem zg_202_J195 {Γ : jb_G} {L : Nat} {d : Nat} (hd : 6 ≤ d) (s1 : Int32) (M : jb_Mi) (N : jb_Ml) {v : Option Value} {σ2 : jb_S} {r : ((jb_Mi) ⊕ (Bool × jb_Mi))} (h : zf_202_J195 s1 M = some r) (hK : (jb_K (fun s : jb_Mi => jb_V Γ d zq_202 40 [some (.ref 79)] [] (zE L, s, N) v σ2) (fun r : Bool × jb_Mi => v = some (.int (jb_b2i r.1)) ∧ σ2 = (zE L, r.2, N))) r) : jb_V Γ d zq_202 195 [some (.ref 79)] [(.int s1), (.ref 79)] (zE L, M, N) v σ2 := by
  obtain ⟨d, rfl⟩ : ∃ e, d = e + 1 := ⟨d - 1, by omega⟩
  unfold zf_202_J195 at h
  obtain ⟨q13, h13, h⟩ := jb_bd_of h
  refine jb_callV (q' := zq_199) (As := [(.int s1)]) (rest := []) (σ1 := (zE L, q13, N)) (v := none) rfl rfl zp_199 rfl (Nat.le_of_ble_eq_true rfl) (jb_cat rfl) (Nat.le_of_ble_eq_true rfl) (Nat.le_of_ble_eq_true rfl) (Or.inl rfl) rfl (ze_199 (by omega) s1 M N h13) ?_
  refine jb_seg 2 (pc' := 200) (ls' := [some (.ref 79)]) (st' := [(.ref 79), (.ref 79)]) (σ' := (zE L, q13, N)) (G := []) rfl trivial ?_
  obtain ⟨q14, h14, h⟩ := jb_bd_of h
  refine jb_callV (q' := zq_184) (As := []) (rest := [(.ref 79)]) (σ1 := (zE L, q13, N)) (v := some (.int q14)) rfl rfl zp_184 rfl (Nat.le_of_ble_eq_true rfl) (jb_cat rfl) (Nat.le_of_ble_eq_true rfl) (Nat.le_of_ble_eq_true rfl) (Or.inl rfl) rfl (ze_184 q13 N h14) ?_
  refine jb_seg 2 (pc' := (if q14 = 38 then 208 else 213)) (ls' := [some (.ref 79)]) (st' := [(.ref 79)]) (σ' := (zE L, q13, N)) (G := []) rfl trivial ?_
  refine jb_ite (fun c => ?_) (fun c => ?_)
  · replace h := (if_pos c).symm.trans h
    refine jb_seg 2 (pc' := 215) (ls' := [some (.ref 79)]) (st' := [(.int 11), (.ref 79)]) (σ' := (zE L, q13, N)) (G := []) rfl trivial ?_
    exact jb_mask [true] rfl (zg_202_J215 hd 11 q13 N h hK)
  · replace h := (if_neg c).symm.trans h
    refine jb_seg 1 (pc' := 215) (ls' := [some (.ref 79)]) (st' := [(.int 12), (.ref 79)]) (σ' := (zE L, q13, N)) (G := []) rfl trivial ?_
    exact jb_mask [true] rfl (zg_202_J215 hd 12 q13 N h hK)
set_option maxRecDepth 20000 in
theorem zg_202_J180 {Γ : jb_G} {L : Nat} {d : Nat} (hd : 6 ≤ d) (M : jb_Mi) (N : jb_Ml) {v : Option Value} {σ2 : jb_S} {r : ((jb_Mi) ⊕ (Bool × jb_Mi))} (h : zf_202_J180 M = some r) (hK : (jb_K (fun s : jb_Mi => jb_V Γ d zq_202 40 [some (.ref 79)] [] (zE L, s, N) v σ2) (fun r : Bool × jb_Mi => v = some (.int (jb_b2i r.1)) ∧ σ2 = (zE L, r.2, N))) r) : jb_V Γ d zq_202 180 [some (.ref 79)] [] (zE L, M, N) v σ2 := by
  obtain ⟨d, rfl⟩ : ∃ e, d = e + 1 := ⟨d - 1, by omega⟩
  unfold zf_202_J180 at h
  refine jb_seg 2 (pc' := 182) (ls' := [some (.ref 79)]) (st' := [(.ref 79), (.ref 79)]) (σ' := (zE L, M, N)) (G := []) rfl trivial ?_
  obtain ⟨q12, h12, h⟩ := jb_bd_of h
  refine jb_callV (q' := zq_184) (As := []) (rest := [(.ref 79)]) (σ1 := (zE L, M, N)) (v := some (.int q12)) rfl rfl zp_184 rfl (Nat.le_of_ble_eq_true rfl) (jb_cat rfl) (Nat.le_of_ble_eq_true rfl) (Nat.le_of_ble_eq_true rfl) (Or.inl rfl) rfl (ze_184 M N h12) ?_
  refine jb_seg 2 (pc' := (if q12 = 124 then 190 else 194)) (ls' := [some (.ref 79)]) (st' := [(.ref 79)]) (σ' := (zE L, M, N)) (G := []) rfl trivial ?_
  refine jb_ite (fun c => ?_) (fun c => ?_)
  · replace h := (if_pos c).symm.trans h
    refine jb_seg 2 (pc' := 195) (ls' := [some (.ref 79)]) (st' := [(.int 1), (.ref 79)]) (σ' := (zE L, M, N)) (G := []) rfl trivial ?_
    exact jb_mask [true] rfl (zg_202_J195 hd 1 M N h hK)
  · replace h := (if_neg c).symm.trans h
    refine jb_seg 1 (pc' := 195) (ls' := [some (.ref 79)]) (st' := [(.int 0), (.ref 79)]) (σ' := (zE L, M, N)) (G := []) rfl trivial ?_
    exact jb_mask [true] rfl (zg_202_J195 hd 0 M N h hK)
set_option maxRecDepth 20000 in
theorem zg_202_H92 {Γ : jb_G} {L : Nat} {d : Nat} (hd : 6 ≤ d) (N : jb_Ml) (s : jb_Mi) {v : Option Value} {σ2 : jb_S} {r : ((jb_Mi) ⊕ ((jb_Mi) ⊕ (Bool × jb_Mi)))} (h : zf_202_H92 s = some r) (hK : (jb_K (fun s : jb_Mi => jb_V Γ d zq_202 92 [some (.ref 79)] [] (zE L, s, N) v σ2) (jb_K (fun s : jb_Mi => jb_V Γ d zq_202 40 [some (.ref 79)] [] (zE L, s, N) v σ2) (fun r : Bool × jb_Mi => v = some (.int (jb_b2i r.1)) ∧ σ2 = (zE L, r.2, N)))) r) : jb_V Γ d zq_202 92 [some (.ref 79)] [] (zE L, s, N) v σ2 := by
  obtain ⟨d, rfl⟩ : ∃ e, d = e + 1 := ⟨d - 1, by omega⟩
  unfold zf_202_H92 at h
  refine jb_seg 1 (pc' := 93) (ls' := [some (.ref 79)]) (st' := [(.ref 79)]) (σ' := (zE L, s, N)) (G := []) rfl trivial ?_
  obtain ⟨q8, h8, h⟩ := jb_bd_of h
  refine jb_callV (q' := zq_184) (As := []) (rest := []) (σ1 := (zE L, s, N)) (v := some (.int q8)) rfl rfl zp_184 rfl (Nat.le_of_ble_eq_true rfl) (jb_cat rfl) (Nat.le_of_ble_eq_true rfl) (Nat.le_of_ble_eq_true rfl) (Or.inl rfl) rfl (ze_184 s N h8) ?_
  refine jb_seg 2 (pc' := (if q8 = 41 then 101 else 152)) (ls' := [some (.ref 79)]) (st' := []) (σ' := (zE L, s, N)) (G := []) rfl trivial ?_
  refine jb_ite (fun c => ?_) (fun c => ?_)
  · replace h := (if_pos c).symm.trans h
    refine jb_seg 2 (pc' := 103) (ls' := [some (.ref 79)]) (st' := [(.int 1), (.ref 79)]) (σ' := (zE L, s, N)) (G := []) rfl trivial ?_
    obtain ⟨q9, h9, h⟩ := jb_bd_of h
    refine jb_callV (q' := zq_199) (As := [(.int 1)]) (rest := []) (σ1 := (zE L, q9, N)) (v := none) rfl rfl zp_199 rfl (Nat.le_of_ble_eq_true rfl) (jb_cat rfl) (Nat.le_of_ble_eq_true rfl) (Nat.le_of_ble_eq_true rfl) (Or.inl rfl) rfl (ze_199 (by omega) 1 s N h9) ?_
    refine jb_seg 21 (pc' := (if ((jb_up (jb_up (jb_up q9 79 11 ((q9 79 11) - 1)) 79 9 (((jb_up q9 79 11 ((q9 79 11) - 1)) 79 9) - 1)) 79 5 (((jb_up (jb_up q9 79 11 ((q9 79 11) - 1)) 79 9 (((jb_up q9 79 11 ((q9 79 11) - 1)) 79 9) - 1)) 79 5) + 1)) 79 11) = 0 then 143 else 145)) (ls' := [some (.ref 79)]) (st' := []) (σ' := (zE L, (jb_up (jb_up (jb_up q9 79 11 ((q9 79 11) - 1)) 79 9 (((jb_up q9 79 11 ((q9 79 11) - 1)) 79 9) - 1)) 79 5 (((jb_up (jb_up q9 79 11 ((q9 79 11) - 1)) 79 9 (((jb_up q9 79 11 ((q9 79 11) - 1)) 79 9) - 1)) 79 5) + 1)), N)) (G := []) rfl trivial ?_
    refine jb_ite (fun c => ?_) (fun c => ?_)
    · replace h := (if_pos c).symm.trans h
      refine jb_seg 1 (pc' := 144) (ls' := [some (.ref 79)]) (st' := [(.int 1)]) (σ' := (zE L, (jb_up (jb_up (jb_up q9 79 11 ((q9 79 11) - 1)) 79 9 (((jb_up q9 79 11 ((q9 79 11) - 1)) 79 9) - 1)) 79 5 (((jb_up (jb_up q9 79 11 ((q9 79 11) - 1)) 79 9 (((jb_up q9 79 11 ((q9 79 11) - 1)) 79 9) - 1)) 79 5) + 1)), N)) (G := []) rfl trivial ?_
      obtain rfl := Option.some.inj h
      obtain ⟨rfl, rfl⟩ := hK
      exact jb_retz (by decide) rfl rfl
    · replace h := (if_neg c).symm.trans h
      refine jb_seg 1 (pc' := 146) (ls' := [some (.ref 79)]) (st' := [(.ref 79)]) (σ' := (zE L, (jb_up (jb_up (jb_up q9 79 11 ((q9 79 11) - 1)) 79 9 (((jb_up q9 79 11 ((q9 79 11) - 1)) 79 9) - 1)) 79 5 (((jb_up (jb_up q9 79 11 ((q9 79 11) - 1)) 79 9 (((jb_up q9 79 11 ((q9 79 11) - 1)) 79 9) - 1)) 79 5) + 1)), N)) (G := []) rfl trivial ?_
      obtain ⟨q10, h10, h⟩ := jb_bd_of h
      refine jb_callV (q' := zq_198) (As := []) (rest := []) (σ1 := (zE L, q10, N)) (v := none) rfl rfl zp_198 rfl (Nat.le_of_ble_eq_true rfl) (jb_cat rfl) (Nat.le_of_ble_eq_true rfl) (Nat.le_of_ble_eq_true rfl) (Or.inl rfl) rfl (ze_198 (by omega) (jb_up (jb_up (jb_up q9 79 11 ((q9 79 11) - 1)) 79 9 (((jb_up q9 79 11 ((q9 79 11) - 1)) 79 9) - 1)) 79 5 (((jb_up (jb_up q9 79 11 ((q9 79 11) - 1)) 79 9 (((jb_up q9 79 11 ((q9 79 11) - 1)) 79 9) - 1)) 79 5) + 1)) N h10) ?_
      refine jb_seg 1 (pc' := 92) (ls' := [some (.ref 79)]) (st' := []) (σ' := (zE L, q10, N)) (G := []) rfl trivial ?_
      obtain rfl := Option.some.inj h
      exact jb_mask [true] rfl hK
  · replace h := (if_neg c).symm.trans h
    refine jb_seg 1 (pc' := 153) (ls' := [some (.ref 79)]) (st' := [(.ref 79)]) (σ' := (zE L, s, N)) (G := []) rfl trivial ?_
    obtain ⟨q11, h11, h⟩ := jb_bd_of h
    refine jb_callV (q' := zq_184) (As := []) (rest := []) (σ1 := (zE L, s, N)) (v := some (.int q11)) rfl rfl zp_184 rfl (Nat.le_of_ble_eq_true rfl) (jb_cat rfl) (Nat.le_of_ble_eq_true rfl) (Nat.le_of_ble_eq_true rfl) (Or.inl rfl) rfl (ze_184 s N h11) ?_
    refine jb_seg 2 (pc' := (if q11 = 38 then 180 else 161)) (ls' := [some (.ref 79)]) (st' := []) (σ' := (zE L, s, N)) (G := []) rfl trivial ?_
    refine jb_ite (fun c => ?_) (fun c => ?_)
    · replace h := (if_pos c).symm.trans h
      obtain ⟨y0, hy0, rfl⟩ := jb_mp_of h
      exact jb_mask [true] rfl (zg_202_J180 hd s N hy0 hK)
    · replace h := (if_neg c).symm.trans h
      refine jb_seg 1 (pc' := 162) (ls' := [some (.ref 79)]) (st' := [(.ref 79)]) (σ' := (zE L, s, N)) (G := []) rfl trivial ?_
      obtain ⟨q16, h16, h⟩ := jb_bd_of h
      refine jb_callV (q' := zq_184) (As := []) (rest := []) (σ1 := (zE L, s, N)) (v := some (.int q16)) rfl rfl zp_184 rfl (Nat.le_of_ble_eq_true rfl) (jb_cat rfl) (Nat.le_of_ble_eq_true rfl) (Nat.le_of_ble_eq_true rfl) (Or.inl rfl) rfl (ze_184 s N h16) ?_
      refine jb_seg 2 (pc' := (if q16 = 124 then 180 else 170)) (ls' := [some (.ref 79)]) (st' := []) (σ' := (zE L, s, N)) (G := []) rfl trivial ?_
      refine jb_ite (fun c => ?_) (fun c => ?_)
      · replace h := (if_pos c).symm.trans h
        obtain ⟨y0, hy0, rfl⟩ := jb_mp_of h
        exact jb_mask [true] rfl (zg_202_J180 hd s N hy0 hK)
      · replace h := (if_neg c).symm.trans h
        refine jb_seg 4 (pc' := 176) (ls' := [some (.ref 79)]) (st' := [(.int (s 79 5)), (.int 1), (.ref 79)]) (σ' := (zE L, s, N)) (G := []) rfl trivial ?_
        refine jb_callV (q' := zq_186) (As := [(.int 1), (.int (s 79 5))]) (rest := []) (σ1 := (zE L, (zf_186 1 (s 79 5) s).2, N)) (v := some (.int (jb_b2i (zf_186 1 (s 79 5) s).1))) rfl rfl zp_186 rfl (Nat.le_of_ble_eq_true rfl) (jb_cat rfl) (Nat.le_of_ble_eq_true rfl) (Nat.le_of_ble_eq_true rfl) (Or.inl rfl) rfl (ze_186 1 (s 79 5) s N rfl) ?_
        obtain rfl := Option.some.inj h
        obtain ⟨rfl, rfl⟩ := hK
        exact jb_retz (jb_b2i_or _) rfl rfl
theorem zg_202_H92L {Γ : jb_G} {L : Nat} {d : Nat} (hd : 6 ≤ d) (N : jb_Ml) {v : Option Value} {σ2 : jb_S} {s : jb_Mi} {r : ((jb_Mi) ⊕ (Bool × jb_Mi))} (h : jb_lp (zf_202_H92) s = some r) (hK : (jb_K (fun s : jb_Mi => jb_V Γ d zq_202 40 [some (.ref 79)] [] (zE L, s, N) v σ2) (fun r : Bool × jb_Mi => v = some (.int (jb_b2i r.1)) ∧ σ2 = (zE L, r.2, N))) r) : jb_V Γ d zq_202 92 [some (.ref 79)] [] (zE L, s, N) v σ2 := by
  exact @jb_lp_ind (jb_Mi) (((jb_Mi) ⊕ (Bool × jb_Mi))) (zf_202_H92) (fun s => jb_V Γ d zq_202 92 [some (.ref 79)] [] (zE L, s, N) v σ2) (jb_K (fun s : jb_Mi => jb_V Γ d zq_202 40 [some (.ref 79)] [] (zE L, s, N) v σ2) (fun r : Bool × jb_Mi => v = some (.int (jb_b2i r.1)) ∧ σ2 = (zE L, r.2, N))) (fun s r h hk => zg_202_H92 hd N s h hk) s r h hK
set_option maxRecDepth 20000 in
theorem zg_202_H40 {Γ : jb_G} {L : Nat} {d : Nat} (hd : 6 ≤ d) (N : jb_Ml) (s : jb_Mi) {v : Option Value} {σ2 : jb_S} {r : ((jb_Mi) ⊕ (Bool × jb_Mi))} (h : zf_202_H40 s = some r) (hK : (jb_K (fun s : jb_Mi => jb_V Γ d zq_202 40 [some (.ref 79)] [] (zE L, s, N) v σ2) (fun r : Bool × jb_Mi => v = some (.int (jb_b2i r.1)) ∧ σ2 = (zE L, r.2, N))) r) : jb_V Γ d zq_202 40 [some (.ref 79)] [] (zE L, s, N) v σ2 := by
  obtain ⟨d, rfl⟩ : ∃ e, d = e + 1 := ⟨d - 1, by omega⟩
  unfold zf_202_H40 at h
  refine jb_seg 1 (pc' := 41) (ls' := [some (.ref 79)]) (st' := [(.ref 79)]) (σ' := (zE L, s, N)) (G := []) rfl trivial ?_
  obtain ⟨q3, h3, h⟩ := jb_bd_of h
  refine jb_callV (q' := zq_184) (As := []) (rest := []) (σ1 := (zE L, s, N)) (v := some (.int q3)) rfl rfl zp_184 rfl (Nat.le_of_ble_eq_true rfl) (jb_cat rfl) (Nat.le_of_ble_eq_true rfl) (Nat.le_of_ble_eq_true rfl) (Or.inl rfl) rfl (ze_184 s N h3) ?_
  refine jb_seg 2 (pc' := (if q3 = 33 then 58 else 49)) (ls' := [some (.ref 79)]) (st' := []) (σ' := (zE L, s, N)) (G := []) rfl trivial ?_
  refine jb_ite (fun c => ?_) (fun c => ?_)
  · replace h := (if_pos c).symm.trans h
    exact jb_mask [true] rfl (zg_202_J58 hd s N h hK)
  · replace h := (if_neg c).symm.trans h
    refine jb_seg 1 (pc' := 50) (ls' := [some (.ref 79)]) (st' := [(.ref 79)]) (σ' := (zE L, s, N)) (G := []) rfl trivial ?_
    obtain ⟨q6, h6, h⟩ := jb_bd_of h
    refine jb_callV (q' := zq_184) (As := []) (rest := []) (σ1 := (zE L, s, N)) (v := some (.int q6)) rfl rfl zp_184 rfl (Nat.le_of_ble_eq_true rfl) (jb_cat rfl) (Nat.le_of_ble_eq_true rfl) (Nat.le_of_ble_eq_true rfl) (Or.inl rfl) rfl (ze_184 s N h6) ?_
    refine jb_seg 2 (pc' := (if q6 = 40 then 58 else 83)) (ls' := [some (.ref 79)]) (st' := []) (σ' := (zE L, s, N)) (G := []) rfl trivial ?_
    refine jb_ite (fun c => ?_) (fun c => ?_)
    · replace h := (if_pos c).symm.trans h
      exact jb_mask [true] rfl (zg_202_J58 hd s N h hK)
    · replace h := (if_neg c).symm.trans h
      refine jb_seg 1 (pc' := 84) (ls' := [some (.ref 79)]) (st' := [(.ref 79)]) (σ' := (zE L, s, N)) (G := []) rfl trivial ?_
      obtain ⟨q7, h7, h⟩ := jb_bd_of h
      refine jb_callV (q' := zq_201) (As := []) (rest := []) (σ1 := (zE L, q7.2, N)) (v := some (.int (jb_b2i q7.1))) rfl rfl zp_201 rfl (Nat.le_of_ble_eq_true rfl) (jb_cat rfl) (Nat.le_of_ble_eq_true rfl) (Nat.le_of_ble_eq_true rfl) (Or.inl rfl) rfl (ze_201 (by omega) s N h7) ?_
      refine jb_seg 1 (pc' := (if (jb_b2i q7.1) = 0 then 90 else 92)) (ls' := [some (.ref 79)]) (st' := []) (σ' := (zE L, q7.2, N)) (G := []) rfl trivial ?_
      refine jb_ite (fun c => ?_) (fun c => ?_)
      · replace h := (if_pos c).symm.trans h
        refine jb_seg 1 (pc' := 91) (ls' := [some (.ref 79)]) (st' := [(.int 0)]) (σ' := (zE L, q7.2, N)) (G := []) rfl trivial ?_
        obtain rfl := Option.some.inj h
        obtain ⟨rfl, rfl⟩ := hK
        exact jb_retz (by decide) rfl rfl
      · replace h := (if_neg c).symm.trans h
        exact jb_mask [true] rfl (zg_202_H92L hd N h hK)
theorem zg_202_H40L {Γ : jb_G} {L : Nat} {d : Nat} (hd : 6 ≤ d) (N : jb_Ml) {v : Option Value} {σ2 : jb_S} {s : jb_Mi} {r : (Bool × jb_Mi)} (h : jb_lp (zf_202_H40) s = some r) (hK : (fun r : Bool × jb_Mi => v = some (.int (jb_b2i r.1)) ∧ σ2 = (zE L, r.2, N)) r) : jb_V Γ d zq_202 40 [some (.ref 79)] [] (zE L, s, N) v σ2 := by
  exact @jb_lp_ind (jb_Mi) ((Bool × jb_Mi)) (zf_202_H40) (fun s => jb_V Γ d zq_202 40 [some (.ref 79)] [] (zE L, s, N) v σ2) (fun r : Bool × jb_Mi => v = some (.int (jb_b2i r.1)) ∧ σ2 = (zE L, r.2, N)) (fun s r h hk => zg_202_H40 hd N s h hk) s r h hK
set_option maxRecDepth 20000 in
theorem zg_202 {Γ : jb_G} {L : Nat} {d : Nat} (hd : 6 ≤ d) (M : jb_Mi) (N : jb_Ml) {v : Option Value} {σ2 : jb_S} {r : (Bool × jb_Mi)} (h : zf_202 M = some r) (hK : (fun r : Bool × jb_Mi => v = some (.int (jb_b2i r.1)) ∧ σ2 = (zE L, r.2, N)) r) : jb_V Γ d zq_202 0 [some (.ref 79)] [] (zE L, M, N) v σ2 := by
  obtain ⟨d, rfl⟩ : ∃ e, d = e + 1 := ⟨d - 1, by omega⟩
  unfold zf_202 at h
  refine jb_seg 1 (pc' := 1) (ls' := [some (.ref 79)]) (st' := [(.ref 79)]) (σ' := (zE L, M, N)) (G := []) rfl trivial ?_
  obtain ⟨q1, h1, h⟩ := jb_bd_of h
  refine jb_callV (q' := zq_184) (As := []) (rest := []) (σ1 := (zE L, M, N)) (v := some (.int q1)) rfl rfl zp_184 rfl (Nat.le_of_ble_eq_true rfl) (jb_cat rfl) (Nat.le_of_ble_eq_true rfl) (Nat.le_of_ble_eq_true rfl) (Or.inl rfl) rfl (ze_184 M N h1) ?_
  refine jb_seg 2 (pc' := (if q1 = 40 then 19 else 9)) (ls' := [some (.ref 79)]) (st' := []) (σ' := (zE L, M, N)) (G := []) rfl trivial ?_
  refine jb_ite (fun c => ?_) (fun c => ?_)
  · replace h := (if_pos c).symm.trans h
    refine jb_seg 8 (pc' := 32) (ls' := [some (.ref 79)]) (st' := [(.int 13), (.ref 79)]) (σ' := (zE L, (jb_up (jb_up M 79 9 0) 79 11 0), N)) (G := []) rfl trivial ?_
    obtain ⟨q2, h2, h⟩ := jb_bd_of h
    refine jb_callV (q' := zq_190) (As := [(.int 13)]) (rest := []) (σ1 := (zE L, q2.2, N)) (v := some (.int (jb_b2i q2.1))) rfl rfl zp_190 rfl (Nat.le_of_ble_eq_true rfl) (jb_cat rfl) (Nat.le_of_ble_eq_true rfl) (Nat.le_of_ble_eq_true rfl) (Or.inl rfl) rfl (ze_190 (by omega) 13 (jb_up (jb_up M 79 9 0) 79 11 0) N h2) ?_
    refine jb_seg 1 (pc' := (if (jb_b2i q2.1) = 0 then 38 else 40)) (ls' := [some (.ref 79)]) (st' := []) (σ' := (zE L, q2.2, N)) (G := []) rfl trivial ?_
    refine jb_ite (fun c => ?_) (fun c => ?_)
    · replace h := (if_pos c).symm.trans h
      refine jb_seg 1 (pc' := 39) (ls' := [some (.ref 79)]) (st' := [(.int 0)]) (σ' := (zE L, q2.2, N)) (G := []) rfl trivial ?_
      obtain rfl := Option.some.inj h
      obtain ⟨rfl, rfl⟩ := hK
      exact jb_retz (by decide) rfl rfl
    · replace h := (if_neg c).symm.trans h
      exact jb_mask [true] rfl (zg_202_H40L hd N h hK)
  · replace h := (if_neg c).symm.trans h
    refine jb_seg 4 (pc' := 15) (ls' := [some (.ref 79)]) (st' := [(.int (M 79 5)), (.int 1), (.ref 79)]) (σ' := (zE L, M, N)) (G := []) rfl trivial ?_
    refine jb_callV (q' := zq_186) (As := [(.int 1), (.int (M 79 5))]) (rest := []) (σ1 := (zE L, (zf_186 1 (M 79 5) M).2, N)) (v := some (.int (jb_b2i (zf_186 1 (M 79 5) M).1))) rfl rfl zp_186 rfl (Nat.le_of_ble_eq_true rfl) (jb_cat rfl) (Nat.le_of_ble_eq_true rfl) (Nat.le_of_ble_eq_true rfl) (Or.inl rfl) rfl (ze_186 1 (M 79 5) M N rfl) ?_
    obtain rfl := Option.some.inj h
    obtain ⟨rfl, rfl⟩ := hK
    exact jb_retz (jb_b2i_or _) rfl rfl
theorem ze_202 {Γ : jb_G} {L : Nat} {d : Nat} (hd : 6 ≤ d) (M : jb_Mi) (N : jb_Ml) {r : (Bool × jb_Mi)} (h : zf_202 M = some r) : jb_V Γ d zq_202 0 (jb_en 1 [(.ref 79)]) [] (zE L, M, N) (some (.int (jb_b2i r.1))) (zE L, r.2, N) := zg_202 hd M N h ⟨rfl, rfl⟩
