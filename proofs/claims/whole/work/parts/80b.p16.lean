-- X13_hourGoes
set_option maxRecDepth 20000 in
theorem zg_226_J43 {Γ : jb_G} {L : Nat} {d : Nat} (hd : 5 ≤ d) (x1 : Int32) (M : jb_Mi) (N : jb_Ml) {v : Option Value} {σ2 : jb_S} {r : ((Int32 × jb_Mi) ⊕ (jb_Mi))} (h : zf_226_J43 x1 M = some r) (hK : (jb_K (fun s : Int32 × jb_Mi => jb_V Γ d zq_226 17 [some (.ref 79), some (.int s.1)] [] (zE L, s.2, N) v σ2) (fun r : jb_Mi => v = none ∧ σ2 = (zE L, r, N))) r) : jb_V Γ d zq_226 43 [some (.ref 79), some (.int x1)] [] (zE L, M, N) v σ2 := by
  obtain ⟨d, rfl⟩ : ∃ e, d = e + 1 := ⟨d - 1, by omega⟩
  unfold zf_226_J43 at h
  refine jb_seg 2 (pc' := 17) (ls' := [some (.ref 79), some (.int (x1 + 1))]) (st' := []) (σ' := (zE L, M, N)) (G := []) rfl trivial ?_
  obtain rfl := Option.some.inj h
  exact jb_mask [true, true] rfl hK
set_option maxRecDepth 20000 in
theorem zg_226_J117 {Γ : jb_G} {L : Nat} {d : Nat} (hd : 5 ≤ d) (x1 : Int32) (M : jb_Mi) (N : jb_Ml) {v : Option Value} {σ2 : jb_S} {r : ((Int32 × jb_Mi) ⊕ (jb_Mi))} (h : zf_226_J117 x1 M = some r) (hK : (jb_K (fun s : Int32 × jb_Mi => jb_V Γ d zq_226 51 [some (.ref 79), some (.int s.1)] [] (zE L, s.2, N) v σ2) (fun r : jb_Mi => v = none ∧ σ2 = (zE L, r, N))) r) : jb_V Γ d zq_226 117 [some (.ref 79), some (.int x1)] [] (zE L, M, N) v σ2 := by
  obtain ⟨d, rfl⟩ : ∃ e, d = e + 1 := ⟨d - 1, by omega⟩
  unfold zf_226_J117 at h
  refine jb_seg 2 (pc' := 51) (ls' := [some (.ref 79), some (.int (x1 + 1))]) (st' := []) (σ' := (zE L, M, N)) (G := []) rfl trivial ?_
  obtain rfl := Option.some.inj h
  exact jb_mask [true, true] rfl hK
set_option maxRecDepth 20000 in
theorem zg_226_H51 {Γ : jb_G} {L : Nat} {d : Nat} (hd : 5 ≤ d) (N : jb_Ml) (s : Int32 × jb_Mi) {v : Option Value} {σ2 : jb_S} {r : ((Int32 × jb_Mi) ⊕ (jb_Mi))} (h : zf_226_H51 s = some r) (hK : (jb_K (fun s : Int32 × jb_Mi => jb_V Γ d zq_226 51 [some (.ref 79), some (.int s.1)] [] (zE L, s.2, N) v σ2) (fun r : jb_Mi => v = none ∧ σ2 = (zE L, r, N))) r) : jb_V Γ d zq_226 51 [some (.ref 79), some (.int s.1)] [] (zE L, s.2, N) v σ2 := by
  obtain ⟨d, rfl⟩ : ∃ e, d = e + 1 := ⟨d - 1, by omega⟩
  unfold zf_226_H51 at h
  refine jb_seg 3 (pc' := (if s.1 < 16 then 57 else 123)) (ls' := [some (.ref 79), some (.int s.1)]) (st' := []) (σ' := (zE L, s.2, N)) (G := []) rfl trivial ?_
  refine jb_ite (fun c => ?_) (fun c => ?_)
  · replace h := (if_pos c).symm.trans h
    refine jb_seg 2 (pc' := 59) (ls' := [some (.ref 79), some (.int s.1)]) (st' := [(.int s.1), (.ref 79)]) (σ' := (zE L, s.2, N)) (G := []) rfl trivial ?_
    obtain ⟨q3, h3, h⟩ := jb_bd_of h
    refine jb_callV (q' := zq_174) (As := [(.int s.1)]) (rest := []) (σ1 := (zE L, s.2, N)) (v := some (.int (jb_b2i q3))) rfl rfl zp_174 rfl (Nat.le_of_ble_eq_true rfl) (jb_cat rfl) (Nat.le_of_ble_eq_true rfl) (Nat.le_of_ble_eq_true rfl) (Or.inl rfl) rfl (ze_174 (by omega) s.1 s.2 N h3) ?_
    refine jb_seg 1 (pc' := (if (jb_b2i q3) = 0 then 117 else 65)) (ls' := [some (.ref 79), some (.int s.1)]) (st' := []) (σ' := (zE L, s.2, N)) (G := []) rfl trivial ?_
    refine jb_ite (fun c => ?_) (fun c => ?_)
    · replace h := (if_pos c).symm.trans h
      exact jb_mask [true, true] rfl (zg_226_J117 hd s.1 s.2 N h hK)
    · replace h := (if_neg c).symm.trans h
      refine jb_seg 3 (pc' := 70) (ls' := [some (.ref 79), some (.int s.1)]) (st' := [(.int s.1), (.int (s.2 79 44))]) (σ' := (zE L, s.2, N)) (G := []) rfl trivial ?_
      refine jb_callS (q' := zq_168) (As := [(.int (s.2 79 44)), (.int s.1)]) (rest := []) (σ1 := (zE L, s.2, N)) (v := some (.int (jb_b2i (zf_168 (s.2 79 44) s.1)))) rfl (Nat.le_of_ble_eq_true rfl) rfl zp_168 (jb_cat rfl) (Nat.le_of_ble_eq_true rfl) (Nat.le_of_ble_eq_true rfl) (Or.inl rfl) rfl (ze_168 (s.2 79 44) s.1 s.2 N rfl) ?_
      refine jb_seg 1 (pc' := (if (jb_b2i (zf_168 (s.2 79 44) s.1)) = 0 then 79 else 76)) (ls' := [some (.ref 79), some (.int s.1)]) (st' := []) (σ' := (zE L, s.2, N)) (G := []) rfl trivial ?_
      refine jb_ite (fun c => ?_) (fun c => ?_)
      · replace h := (if_pos c).symm.trans h
        refine jb_seg 2 (pc' := 81) (ls' := [some (.ref 79), some (.int s.1)]) (st' := [(.int s.1), (.ref 79)]) (σ' := (zE L, s.2, N)) (G := []) rfl trivial ?_
        obtain ⟨q4, h4, h⟩ := jb_bd_of h
        refine jb_callV (q' := zq_210) (As := [(.int s.1)]) (rest := []) (σ1 := (zE L, q4, N)) (v := none) rfl rfl zp_210 rfl (Nat.le_of_ble_eq_true rfl) (jb_cat rfl) (Nat.le_of_ble_eq_true rfl) (Nat.le_of_ble_eq_true rfl) (Or.inl rfl) rfl (ze_210 s.1 s.2 N h4) ?_
        obtain ⟨g5, h⟩ := jb_gd_of h
        refine jb_seg 15 (pc' := 109) (ls' := [some (.ref 79), some (.int s.1)]) (st' := [(.int 99), (.int 121), (.ref 79), (.int (q4 80 ((130 + s.1)).toNatClampNeg)), (.int 0), (.int (130 + s.1)), (.ref 80)]) (σ' := (zE L, q4, N)) (G := [vp_in (130 + s.1) 149]) rfl g5 ?_
        obtain ⟨q6, h6, h⟩ := jb_bd_of h
        refine jb_callV (q' := zq_208) (As := [(.int 121), (.int 99)]) (rest := [(.int (q4 80 ((130 + s.1)).toNatClampNeg)), (.int 0), (.int (130 + s.1)), (.ref 80)]) (σ1 := (zE L, q6.2, N)) (v := some (.int q6.1)) rfl rfl zp_208 rfl (Nat.le_of_ble_eq_true rfl) (jb_cat rfl) (Nat.le_of_ble_eq_true rfl) (Nat.le_of_ble_eq_true rfl) (Or.inl rfl) rfl (ze_208 (by omega) 121 99 q4 N h6) ?_
        refine jb_seg 1 (pc' := 113) (ls' := [some (.ref 79), some (.int s.1)]) (st' := [(.int ((q4 80 ((130 + s.1)).toNatClampNeg) - q6.1)), (.int 0), (.int (130 + s.1)), (.ref 80)]) (σ' := (zE L, q6.2, N)) (G := []) rfl trivial ?_
        refine jb_callS (q' := zq_166) (As := [(.int 0), (.int ((q4 80 ((130 + s.1)).toNatClampNeg) - q6.1))]) (rest := [(.int (130 + s.1)), (.ref 80)]) (σ1 := (zE L, q6.2, N)) (v := some (.int (zf_166 0 ((q4 80 ((130 + s.1)).toNatClampNeg) - q6.1)))) rfl (Nat.le_of_ble_eq_true rfl) rfl zp_166 (jb_cat rfl) (Nat.le_of_ble_eq_true rfl) (Nat.le_of_ble_eq_true rfl) (Or.inl rfl) rfl (ze_166 0 ((q4 80 ((130 + s.1)).toNatClampNeg) - q6.1) q6.2 N rfl) ?_
        obtain ⟨g7, h⟩ := jb_gd_of h
        refine jb_seg 1 (pc' := 117) (ls' := [some (.ref 79), some (.int s.1)]) (st' := []) (σ' := (zE L, (jb_up q6.2 80 ((130 + s.1)).toNatClampNeg (zf_166 0 ((q4 80 ((130 + s.1)).toNatClampNeg) - q6.1))), N)) (G := [vp_in (130 + s.1) 149]) rfl g7 ?_
        exact jb_mask [true, true] rfl (zg_226_J117 hd s.1 (jb_up q6.2 80 ((130 + s.1)).toNatClampNeg (zf_166 0 ((q4 80 ((130 + s.1)).toNatClampNeg) - q6.1))) N h hK)
      · replace h := (if_neg c).symm.trans h
        refine jb_seg 1 (pc' := 117) (ls' := [some (.ref 79), some (.int s.1)]) (st' := []) (σ' := (zE L, s.2, N)) (G := []) rfl trivial ?_
        exact jb_mask [true, true] rfl (zg_226_J117 hd s.1 s.2 N h hK)
  · replace h := (if_neg c).symm.trans h
    refine jb_seg 16 (pc' := (if ((jb_up s.2 80 146 ((s.2 80 146) + 1)) 80 146) < 24 then 154 else 155)) (ls' := [some (.ref 79), some (.int s.1)]) (st' := []) (σ' := (zE L, (jb_up s.2 80 146 ((s.2 80 146) + 1)), N)) (G := [vp_in 146 149, vp_in 146 149, vp_in 146 149]) rfl ⟨(show vp_in 146 149 from (by unfold vp_in; decide)), (show vp_in 146 149 from (by unfold vp_in; decide)), (show vp_in 146 149 from (by unfold vp_in; decide))⟩ ?_
    refine jb_ite (fun c => ?_) (fun c => ?_)
    · replace h := (if_pos c).symm.trans h
      obtain rfl := Option.some.inj h
      obtain ⟨rfl, rfl⟩ := hK
      exact jb_retv rfl rfl
    · replace h := (if_neg c).symm.trans h
      refine jb_seg 15 (pc' := 182) (ls' := [some (.ref 79), some (.int s.1)]) (st' := []) (σ' := (zE L, (jb_up (jb_up (jb_up s.2 80 146 ((s.2 80 146) + 1)) 80 146 0) 80 147 (((jb_up (jb_up s.2 80 146 ((s.2 80 146) + 1)) 80 146 0) 80 147) + 1)), N)) (G := [vp_in 146 149, vp_in 147 149, vp_in 147 149]) rfl ⟨(show vp_in 146 149 from (by unfold vp_in; decide)), (show vp_in 147 149 from (by unfold vp_in; decide)), (show vp_in 147 149 from (by unfold vp_in; decide))⟩ ?_
      obtain rfl := Option.some.inj h
      obtain ⟨rfl, rfl⟩ := hK
      exact jb_retv rfl rfl
theorem zg_226_H51L {Γ : jb_G} {L : Nat} {d : Nat} (hd : 5 ≤ d) (N : jb_Ml) {v : Option Value} {σ2 : jb_S} {s : Int32 × jb_Mi} {r : (jb_Mi)} (h : jb_lp (zf_226_H51) s = some r) (hK : (fun r : jb_Mi => v = none ∧ σ2 = (zE L, r, N)) r) : jb_V Γ d zq_226 51 [some (.ref 79), some (.int s.1)] [] (zE L, s.2, N) v σ2 := by
  exact @jb_lp_ind (Int32 × jb_Mi) ((jb_Mi)) (zf_226_H51) (fun s => jb_V Γ d zq_226 51 [some (.ref 79), some (.int s.1)] [] (zE L, s.2, N) v σ2) (fun r : jb_Mi => v = none ∧ σ2 = (zE L, r, N)) (fun s r h hk => zg_226_H51 hd N s h hk) s r h hK
set_option maxRecDepth 20000 in
theorem zg_226_H17 {Γ : jb_G} {L : Nat} {d : Nat} (hd : 5 ≤ d) (N : jb_Ml) (s : Int32 × jb_Mi) {v : Option Value} {σ2 : jb_S} {r : ((Int32 × jb_Mi) ⊕ (jb_Mi))} (h : zf_226_H17 s = some r) (hK : (jb_K (fun s : Int32 × jb_Mi => jb_V Γ d zq_226 17 [some (.ref 79), some (.int s.1)] [] (zE L, s.2, N) v σ2) (fun r : jb_Mi => v = none ∧ σ2 = (zE L, r, N))) r) : jb_V Γ d zq_226 17 [some (.ref 79), some (.int s.1)] [] (zE L, s.2, N) v σ2 := by
  obtain ⟨d, rfl⟩ : ∃ e, d = e + 1 := ⟨d - 1, by omega⟩
  unfold zf_226_H17 at h
  refine jb_seg 3 (pc' := (if s.1 < 24 then 23 else 49)) (ls' := [some (.ref 79), some (.int s.1)]) (st' := []) (σ' := (zE L, s.2, N)) (G := []) rfl trivial ?_
  refine jb_ite (fun c => ?_) (fun c => ?_)
  · replace h := (if_pos c).symm.trans h
    refine jb_seg 4 (pc' := 27) (ls' := [some (.ref 79), some (.int s.1)]) (st' := [(.int (s.1 / 4)), (.ref 79)]) (σ' := (zE L, s.2, N)) (G := [¬ (4 : Int32) = 0]) rfl (show ¬ (4 : Int32) = 0 from (by decide)) ?_
    obtain ⟨q1, h1, h⟩ := jb_bd_of h
    refine jb_callV (q' := zq_172) (As := [(.int (s.1 / 4))]) (rest := []) (σ1 := (zE L, s.2, N)) (v := some (.int (jb_b2i q1))) rfl rfl zp_172 rfl (Nat.le_of_ble_eq_true rfl) (jb_cat rfl) (Nat.le_of_ble_eq_true rfl) (Nat.le_of_ble_eq_true rfl) (Or.inl rfl) rfl (ze_172 (by omega) (s.1 / 4) s.2 N h1) ?_
    refine jb_seg 1 (pc' := (if (jb_b2i q1) = 0 then 43 else 33)) (ls' := [some (.ref 79), some (.int s.1)]) (st' := []) (σ' := (zE L, s.2, N)) (G := []) rfl trivial ?_
    refine jb_ite (fun c => ?_) (fun c => ?_)
    · replace h := (if_pos c).symm.trans h
      exact jb_mask [true, true] rfl (zg_226_J43 hd s.1 s.2 N h hK)
    · replace h := (if_neg c).symm.trans h
      refine jb_seg 7 (pc' := 40) (ls' := [some (.ref 79), some (.int s.1)]) (st' := [(.int (s.1 - s.1 / 4 * 4)), (.int (s.1 / 4)), (.ref 79)]) (σ' := (zE L, s.2, N)) (G := [¬ (4 : Int32) = 0, ¬ (4 : Int32) = 0]) rfl ⟨(show ¬ (4 : Int32) = 0 from (by decide)), (show ¬ (4 : Int32) = 0 from (by decide))⟩ ?_
      obtain ⟨q2, h2, h⟩ := jb_bd_of h
      refine jb_callV (q' := zq_225) (As := [(.int (s.1 / 4)), (.int (s.1 - s.1 / 4 * 4))]) (rest := []) (σ1 := (zE L, q2, N)) (v := none) rfl rfl zp_225 rfl (Nat.le_of_ble_eq_true rfl) (jb_cat rfl) (Nat.le_of_ble_eq_true rfl) (Nat.le_of_ble_eq_true rfl) (Or.inl rfl) rfl (ze_225 (by omega) (s.1 / 4) (s.1 - s.1 / 4 * 4) s.2 N h2) ?_
      exact jb_mask [true, true] rfl (zg_226_J43 hd s.1 q2 N h hK)
  · replace h := (if_neg c).symm.trans h
    refine jb_seg 2 (pc' := 51) (ls' := [some (.ref 79), some (.int 0)]) (st' := []) (σ' := (zE L, s.2, N)) (G := []) rfl trivial ?_
    obtain ⟨y0, hy0, rfl⟩ := jb_mp_of h
    exact jb_mask [true, true] rfl (zg_226_H51L hd N hy0 hK)
theorem zg_226_H17L {Γ : jb_G} {L : Nat} {d : Nat} (hd : 5 ≤ d) (N : jb_Ml) {v : Option Value} {σ2 : jb_S} {s : Int32 × jb_Mi} {r : (jb_Mi)} (h : jb_lp (zf_226_H17) s = some r) (hK : (fun r : jb_Mi => v = none ∧ σ2 = (zE L, r, N)) r) : jb_V Γ d zq_226 17 [some (.ref 79), some (.int s.1)] [] (zE L, s.2, N) v σ2 := by
  exact @jb_lp_ind (Int32 × jb_Mi) ((jb_Mi)) (zf_226_H17) (fun s => jb_V Γ d zq_226 17 [some (.ref 79), some (.int s.1)] [] (zE L, s.2, N) v σ2) (fun r : jb_Mi => v = none ∧ σ2 = (zE L, r, N)) (fun s r h hk => zg_226_H17 hd N s h hk) s r h hK
set_option maxRecDepth 20000 in
theorem zg_226 {Γ : jb_G} {L : Nat} {d : Nat} (hd : 5 ≤ d) (M : jb_Mi) (N : jb_Ml) {v : Option Value} {σ2 : jb_S} {r : (jb_Mi)} (h : zf_226 M = some r) (hK : (fun r : jb_Mi => v = none ∧ σ2 = (zE L, r, N)) r) : jb_V Γ d zq_226 0 [some (.ref 79), none] [] (zE L, M, N) v σ2 := by
  obtain ⟨d, rfl⟩ : ∃ e, d = e + 1 := ⟨d - 1, by omega⟩
  unfold zf_226 at h
  refine jb_seg 11 (pc' := 17) (ls' := [some (.ref 79), some (.int 0)]) (st' := []) (σ' := (zE L, (jb_up (jb_up M 79 43 ((M 79 43) + 1)) 79 44 0), N)) (G := []) rfl trivial ?_
  exact jb_mask [true, true] rfl (zg_226_H17L hd N h hK)
theorem ze_226 {Γ : jb_G} {L : Nat} {d : Nat} (hd : 5 ≤ d) (M : jb_Mi) (N : jb_Ml) {r : (jb_Mi)} (h : zf_226 M = some r) : jb_V Γ d zq_226 0 (jb_en 2 [(.ref 79)]) [] (zE L, M, N) (none) (zE L, r, N) := zg_226 hd M N h ⟨rfl, rfl⟩
-- X13_hoursGo
set_option maxRecDepth 20000 in
theorem zg_227_H54 {Γ : jb_G} {L : Nat} {d : Nat} (hd : 6 ≤ d) (x1 : Int32) (N : jb_Ml) (s : Int32 × jb_Mi) {v : Option Value} {σ2 : jb_S} {r : ((Int32 × jb_Mi) ⊕ (jb_Mi))} (h : zf_227_H54 x1 s = some r) (hK : (jb_K (fun s : Int32 × jb_Mi => jb_V Γ d zq_227 54 [some (.ref 79), some (.int x1), some (.int s.1)] [] (zE L, s.2, N) v σ2) (fun r : jb_Mi => v = none ∧ σ2 = (zE L, r, N))) r) : jb_V Γ d zq_227 54 [some (.ref 79), some (.int x1), some (.int s.1)] [] (zE L, s.2, N) v σ2 := by
  obtain ⟨d, rfl⟩ : ∃ e, d = e + 1 := ⟨d - 1, by omega⟩
  unfold zf_227_H54 at h
  refine jb_seg 3 (pc' := (if s.1 < x1 then 59 else 83)) (ls' := [some (.ref 79), some (.int x1), some (.int s.1)]) (st' := []) (σ' := (zE L, s.2, N)) (G := []) rfl trivial ?_
  refine jb_ite (fun c => ?_) (fun c => ?_)
  · replace h := (if_pos c).symm.trans h
    refine jb_seg 6 (pc' := (if (s.2 80 147) < 9999 then 73 else 83)) (ls' := [some (.ref 79), some (.int x1), some (.int s.1)]) (st' := []) (σ' := (zE L, s.2, N)) (G := [vp_in 147 149]) rfl (show vp_in 147 149 from (by unfold vp_in; decide)) ?_
    refine jb_ite (fun c => ?_) (fun c => ?_)
    · replace h := (if_pos c).symm.trans h
      refine jb_seg 1 (pc' := 74) (ls' := [some (.ref 79), some (.int x1), some (.int s.1)]) (st' := [(.ref 79)]) (σ' := (zE L, s.2, N)) (G := []) rfl trivial ?_
      obtain ⟨q2, h2, h⟩ := jb_bd_of h
      refine jb_callV (q' := zq_226) (As := []) (rest := []) (σ1 := (zE L, q2, N)) (v := none) rfl rfl zp_226 rfl (Nat.le_of_ble_eq_true rfl) (jb_cat rfl) (Nat.le_of_ble_eq_true rfl) (Nat.le_of_ble_eq_true rfl) (Or.inl rfl) rfl (ze_226 (by omega) s.2 N h2) ?_
      refine jb_seg 2 (pc' := 54) (ls' := [some (.ref 79), some (.int x1), some (.int (s.1 + 1))]) (st' := []) (σ' := (zE L, q2, N)) (G := []) rfl trivial ?_
      obtain rfl := Option.some.inj h
      exact jb_mask [true, true, true] rfl hK
    · replace h := (if_neg c).symm.trans h
      obtain rfl := Option.some.inj h
      obtain ⟨rfl, rfl⟩ := hK
      exact jb_retv rfl rfl
  · replace h := (if_neg c).symm.trans h
    obtain rfl := Option.some.inj h
    obtain ⟨rfl, rfl⟩ := hK
    exact jb_retv rfl rfl
theorem zg_227_H54L {Γ : jb_G} {L : Nat} {d : Nat} (hd : 6 ≤ d) (x1 : Int32) (N : jb_Ml) {v : Option Value} {σ2 : jb_S} {s : Int32 × jb_Mi} {r : (jb_Mi)} (h : jb_lp (zf_227_H54 x1) s = some r) (hK : (fun r : jb_Mi => v = none ∧ σ2 = (zE L, r, N)) r) : jb_V Γ d zq_227 54 [some (.ref 79), some (.int x1), some (.int s.1)] [] (zE L, s.2, N) v σ2 := by
  exact @jb_lp_ind (Int32 × jb_Mi) ((jb_Mi)) (zf_227_H54 x1) (fun s => jb_V Γ d zq_227 54 [some (.ref 79), some (.int x1), some (.int s.1)] [] (zE L, s.2, N) v σ2) (fun r : jb_Mi => v = none ∧ σ2 = (zE L, r, N)) (fun s r h hk => zg_227_H54 hd x1 N s h hk) s r h hK
set_option maxRecDepth 20000 in
theorem zg_227_H32 {Γ : jb_G} {L : Nat} {d : Nat} (hd : 6 ≤ d) (x1 : Int32) (N : jb_Ml) (s : Int32 × jb_Mi) {v : Option Value} {σ2 : jb_S} {r : ((Int32 × jb_Mi) ⊕ (jb_Mi))} (h : zf_227_H32 x1 s = some r) (hK : (jb_K (fun s : Int32 × jb_Mi => jb_V Γ d zq_227 32 [some (.ref 79), some (.int x1), some (.int s.1)] [] (zE L, s.2, N) v σ2) (fun r : jb_Mi => v = none ∧ σ2 = (zE L, r, N))) r) : jb_V Γ d zq_227 32 [some (.ref 79), some (.int x1), some (.int s.1)] [] (zE L, s.2, N) v σ2 := by
  obtain ⟨d, rfl⟩ : ∃ e, d = e + 1 := ⟨d - 1, by omega⟩
  unfold zf_227_H32 at h
  refine jb_seg 3 (pc' := (if s.1 < 6 then 38 else 52)) (ls' := [some (.ref 79), some (.int x1), some (.int s.1)]) (st' := []) (σ' := (zE L, s.2, N)) (G := []) rfl trivial ?_
  refine jb_ite (fun c => ?_) (fun c => ?_)
  · replace h := (if_pos c).symm.trans h
    obtain ⟨g1, h⟩ := jb_gd_of h
    refine jb_seg 7 (pc' := 32) (ls' := [some (.ref 79), some (.int x1), some (.int (s.1 + 1))]) (st' := []) (σ' := (zE L, (jb_up s.2 103 (s.1).toNatClampNeg (-2)), N)) (G := [vp_in s.1 6]) rfl g1 ?_
    obtain rfl := Option.some.inj h
    exact jb_mask [true, true, true] rfl hK
  · replace h := (if_neg c).symm.trans h
    refine jb_seg 2 (pc' := 54) (ls' := [some (.ref 79), some (.int x1), some (.int 0)]) (st' := []) (σ' := (zE L, s.2, N)) (G := []) rfl trivial ?_
    obtain ⟨y0, hy0, rfl⟩ := jb_mp_of h
    exact jb_mask [true, true, true] rfl (zg_227_H54L hd x1 N hy0 hK)
theorem zg_227_H32L {Γ : jb_G} {L : Nat} {d : Nat} (hd : 6 ≤ d) (x1 : Int32) (N : jb_Ml) {v : Option Value} {σ2 : jb_S} {s : Int32 × jb_Mi} {r : (jb_Mi)} (h : jb_lp (zf_227_H32 x1) s = some r) (hK : (fun r : jb_Mi => v = none ∧ σ2 = (zE L, r, N)) r) : jb_V Γ d zq_227 32 [some (.ref 79), some (.int x1), some (.int s.1)] [] (zE L, s.2, N) v σ2 := by
  exact @jb_lp_ind (Int32 × jb_Mi) ((jb_Mi)) (zf_227_H32 x1) (fun s => jb_V Γ d zq_227 32 [some (.ref 79), some (.int x1), some (.int s.1)] [] (zE L, s.2, N) v σ2) (fun r : jb_Mi => v = none ∧ σ2 = (zE L, r, N)) (fun s r h hk => zg_227_H32 hd x1 N s h hk) s r h hK
set_option maxRecDepth 20000 in
theorem zg_227 {Γ : jb_G} {L : Nat} {d : Nat} (hd : 6 ≤ d) (x1 : Int32) (M : jb_Mi) (N : jb_Ml) {v : Option Value} {σ2 : jb_S} {r : (jb_Mi)} (h : zf_227 x1 M = some r) (hK : (fun r : jb_Mi => v = none ∧ σ2 = (zE L, r, N)) r) : jb_V Γ d zq_227 0 [some (.ref 79), some (.int x1), none] [] (zE L, M, N) v σ2 := by
  obtain ⟨d, rfl⟩ : ∃ e, d = e + 1 := ⟨d - 1, by omega⟩
  unfold zf_227 at h
  refine jb_seg 20 (pc' := 32) (ls' := [some (.ref 79), some (.int x1), some (.int 0)]) (st' := []) (σ' := (zE L, (jb_up (jb_up (jb_up (jb_up (jb_up (jb_up M 79 38 0) 79 39 0) 79 40 0) 79 41 0) 79 42 (-1)) 79 43 0), N)) (G := []) rfl trivial ?_
  exact jb_mask [true, true, true] rfl (zg_227_H32L hd x1 N h hK)
theorem ze_227 {Γ : jb_G} {L : Nat} {d : Nat} (hd : 6 ≤ d) (x1 : Int32) (M : jb_Mi) (N : jb_Ml) {r : (jb_Mi)} (h : zf_227 x1 M = some r) : jb_V Γ d zq_227 0 (jb_en 3 [(.ref 79), (.int x1)]) [] (zE L, M, N) (none) (zE L, r, N) := zg_227 hd x1 M N h ⟨rfl, rfl⟩
-- X13_hours
set_option maxRecDepth 20000 in
theorem zg_228 {Γ : jb_G} {L : Nat} {d : Nat} (hd : 7 ≤ d) (x1 : Int32) (M : jb_Mi) (N : jb_Ml) {v : Option Value} {σ2 : jb_S} {r : (Int32 × jb_Mi)} (h : zf_228 x1 M = some r) (hK : (fun r : Int32 × jb_Mi => v = some (.int r.1) ∧ σ2 = (zE L, r.2, N)) r) : jb_V Γ d zq_228 0 [some (.ref 79), some (.int x1)] [] (zE L, M, N) v σ2 := by
  obtain ⟨d, rfl⟩ : ∃ e, d = e + 1 := ⟨d - 1, by omega⟩
  unfold zf_228 at h
  refine jb_seg 3 (pc' := 5) (ls' := [some (.ref 79), some (.int x1)]) (st' := [(.int 240), (.int 1), (.int x1)]) (σ' := (zE L, M, N)) (G := []) rfl trivial ?_
  refine jb_callS (q' := zq_164) (As := [(.int x1), (.int 1), (.int 240)]) (rest := []) (σ1 := (zE L, M, N)) (v := some (.int (jb_b2i (zf_164 x1 1 240)))) rfl (Nat.le_of_ble_eq_true rfl) rfl zp_164 (jb_cat rfl) (Nat.le_of_ble_eq_true rfl) (Nat.le_of_ble_eq_true rfl) (Or.inl rfl) rfl (ze_164 x1 1 240 M N rfl) ?_
  refine jb_seg 1 (pc' := (if (jb_b2i (zf_164 x1 1 240)) = 0 then 11 else 13)) (ls' := [some (.ref 79), some (.int x1)]) (st' := []) (σ' := (zE L, M, N)) (G := []) rfl trivial ?_
  refine jb_ite (fun c => ?_) (fun c => ?_)
  · replace h := (if_pos c).symm.trans h
    refine jb_seg 1 (pc' := 12) (ls' := [some (.ref 79), some (.int x1)]) (st' := [(.int (-1))]) (σ' := (zE L, M, N)) (G := []) rfl trivial ?_
    obtain rfl := Option.some.inj h
    obtain ⟨rfl, rfl⟩ := hK
    exact jb_reti rfl rfl
  · replace h := (if_neg c).symm.trans h
    refine jb_seg 2 (pc' := 15) (ls' := [some (.ref 79), some (.int x1)]) (st' := [(.int x1), (.ref 79)]) (σ' := (zE L, M, N)) (G := []) rfl trivial ?_
    obtain ⟨q1, h1, h⟩ := jb_bd_of h
    refine jb_callV (q' := zq_227) (As := [(.int x1)]) (rest := []) (σ1 := (zE L, q1, N)) (v := none) rfl rfl zp_227 rfl (Nat.le_of_ble_eq_true rfl) (jb_cat rfl) (Nat.le_of_ble_eq_true rfl) (Nat.le_of_ble_eq_true rfl) (Or.inl rfl) rfl (ze_227 (by omega) x1 M N h1) ?_
    refine jb_seg 2 (pc' := 22) (ls' := [some (.ref 79), some (.int x1)]) (st' := [(.int (q1 79 38))]) (σ' := (zE L, q1, N)) (G := []) rfl trivial ?_
    obtain rfl := Option.some.inj h
    obtain ⟨rfl, rfl⟩ := hK
    exact jb_reti rfl rfl
theorem ze_228 {Γ : jb_G} {L : Nat} {d : Nat} (hd : 7 ≤ d) (x1 : Int32) (M : jb_Mi) (N : jb_Ml) {r : (Int32 × jb_Mi)} (h : zf_228 x1 M = some r) : jb_V Γ d zq_228 0 (jb_en 2 [(.ref 79), (.int x1)]) [] (zE L, M, N) (some (.int r.1)) (zE L, r.2, N) := zg_228 hd x1 M N h ⟨rfl, rfl⟩
-- X13_tried
set_option maxRecDepth 20000 in
theorem zg_229_J179 {Γ : jb_G} {L : Nat} {d : Nat} (hd : 7 ≤ d) (x3 : Int32) (M : jb_Mi) (N : jb_Ml) {v : Option Value} {σ2 : jb_S} {r : (Int32 × jb_Mi)} (h : zf_229_J179 x3 M = some r) (hK : (fun r : Int32 × jb_Mi => v = some (.int r.1) ∧ σ2 = (zE L, r.2, N)) r) : jb_V Γ d zq_229 179 [some (.ref 79), none, none, some (.int x3)] [] (zE L, M, N) v σ2 := by
  obtain ⟨d, rfl⟩ : ∃ e, d = e + 1 := ⟨d - 1, by omega⟩
  unfold zf_229_J179 at h
  refine jb_seg 4 (pc' := 187) (ls' := [some (.ref 79), none, none, some (.int x3)]) (st' := [(.ref 80), (.ref 81)]) (σ' := (zE L, M, N)) (G := []) rfl trivial ?_
  obtain ⟨q4, h4, h⟩ := jb_bd_of h
  refine jb_callS (q' := zq_170) (As := [(.ref 81), (.ref 80)]) (rest := []) (σ1 := (zE L, q4, N)) (v := none) rfl (Nat.le_of_ble_eq_true rfl) rfl zp_170 (jb_cat rfl) (Nat.le_of_ble_eq_true rfl) (Nat.le_of_ble_eq_true rfl) (Or.inl rfl) rfl (ze_170 81 80 M N (by decide) h4) ?_
  refine jb_seg 1 (pc' := 191) (ls' := [some (.ref 79), none, none, some (.int x3)]) (st' := [(.int x3)]) (σ' := (zE L, q4, N)) (G := []) rfl trivial ?_
  obtain rfl := Option.some.inj h
  obtain ⟨rfl, rfl⟩ := hK
  exact jb_reti rfl rfl
set_option maxRecDepth 20000 in
theorem zg_229_J178 {Γ : jb_G} {L : Nat} {d : Nat} (hd : 7 ≤ d) (s0 : Int32) (M : jb_Mi) (N : jb_Ml) {v : Option Value} {σ2 : jb_S} {r : (Int32 × jb_Mi)} (h : zf_229_J178 s0 M = some r) (hK : (fun r : Int32 × jb_Mi => v = some (.int r.1) ∧ σ2 = (zE L, r.2, N)) r) : jb_V Γ d zq_229 178 [some (.ref 79), none, none, none] [(.int s0)] (zE L, M, N) v σ2 := by
  obtain ⟨d, rfl⟩ : ∃ e, d = e + 1 := ⟨d - 1, by omega⟩
  unfold zf_229_J178 at h
  refine jb_seg 1 (pc' := 179) (ls' := [some (.ref 79), none, none, some (.int s0)]) (st' := []) (σ' := (zE L, M, N)) (G := []) rfl trivial ?_
  exact jb_mask [true, false, false, true] rfl (zg_229_J179 hd s0 M N h hK)
set_option maxRecDepth 20000 in
theorem zg_229_J66 {Γ : jb_G} {L : Nat} {d : Nat} (hd : 7 ≤ d) (x1 : Int32) (x2 : Int32) (M : jb_Mi) (N : jb_Ml) {v : Option Value} {σ2 : jb_S} {r : (Int32 × jb_Mi)} (h : zf_229_J66 x1 x2 M = some r) (hK : (fun r : Int32 × jb_Mi => v = some (.int r.1) ∧ σ2 = (zE L, r.2, N)) r) : jb_V Γ d zq_229 66 [some (.ref 79), some (.int x1), some (.int x2), none] [] (zE L, M, N) v σ2 := by
  obtain ⟨d, rfl⟩ : ∃ e, d = e + 1 := ⟨d - 1, by omega⟩
  unfold zf_229_J66 at h
  refine jb_seg 4 (pc' := 74) (ls' := [some (.ref 79), some (.int x1), some (.int x2), none]) (st' := [(.ref 81), (.ref 80)]) (σ' := (zE L, M, N)) (G := []) rfl trivial ?_
  obtain ⟨q2, h2, h⟩ := jb_bd_of h
  refine jb_callS (q' := zq_170) (As := [(.ref 80), (.ref 81)]) (rest := []) (σ1 := (zE L, q2, N)) (v := none) rfl (Nat.le_of_ble_eq_true rfl) rfl zp_170 (jb_cat rfl) (Nat.le_of_ble_eq_true rfl) (Nat.le_of_ble_eq_true rfl) (Or.inl rfl) rfl (ze_170 80 81 M N (by decide) h2) ?_
  refine jb_seg 2 (pc' := 79) (ls' := [some (.ref 79), some (.int x1), some (.int x2), none]) (st' := [(.int x1), (.ref 79)]) (σ' := (zE L, q2, N)) (G := []) rfl trivial ?_
  obtain ⟨q3, h3, h⟩ := jb_bd_of h
  refine jb_callV (q' := zq_227) (As := [(.int x1)]) (rest := []) (σ1 := (zE L, q3, N)) (v := none) rfl rfl zp_227 rfl (Nat.le_of_ble_eq_true rfl) (jb_cat rfl) (Nat.le_of_ble_eq_true rfl) (Nat.le_of_ble_eq_true rfl) (Or.inl rfl) rfl (ze_227 (by omega) x1 q2 N h3) ?_
  refine jb_seg 1 (pc' := 83) (ls' := [some (.ref 79), some (.int x1), some (.int x2), none]) (st' := [(.int x2)]) (σ' := (zE L, q3, N)) (G := []) rfl trivial ?_
  refine jb_tsw [(0, 112), (1, 120), (2, 128), (3, 136)] 144 rfl (by decide +kernel) ?_
  refine jb_swc (fun c => ?_) (fun c => ?_)
  · replace h := (if_pos c).symm.trans h
    refine jb_seg 4 (pc' := 179) (ls' := [some (.ref 79), some (.int x1), some (.int x2), some (.int (q3 79 38))]) (st' := []) (σ' := (zE L, q3, N)) (G := []) rfl trivial ?_
    exact jb_mask [true, false, false, true] rfl (zg_229_J179 hd (q3 79 38) q3 N h hK)
  · replace h := (if_neg c).symm.trans h
    refine jb_swc (fun c => ?_) (fun c => ?_)
    · replace h := (if_pos c).symm.trans h
      refine jb_seg 4 (pc' := 179) (ls' := [some (.ref 79), some (.int x1), some (.int x2), some (.int (q3 79 39))]) (st' := []) (σ' := (zE L, q3, N)) (G := []) rfl trivial ?_
      exact jb_mask [true, false, false, true] rfl (zg_229_J179 hd (q3 79 39) q3 N h hK)
    · replace h := (if_neg c).symm.trans h
      refine jb_swc (fun c => ?_) (fun c => ?_)
      · replace h := (if_pos c).symm.trans h
        refine jb_seg 4 (pc' := 179) (ls' := [some (.ref 79), some (.int x1), some (.int x2), some (.int (q3 79 40))]) (st' := []) (σ' := (zE L, q3, N)) (G := []) rfl trivial ?_
        exact jb_mask [true, false, false, true] rfl (zg_229_J179 hd (q3 79 40) q3 N h hK)
      · replace h := (if_neg c).symm.trans h
        refine jb_swc (fun c => ?_) (fun c => ?_)
        · replace h := (if_pos c).symm.trans h
          refine jb_seg 4 (pc' := 179) (ls' := [some (.ref 79), some (.int x1), some (.int x2), some (.int (q3 79 41))]) (st' := []) (σ' := (zE L, q3, N)) (G := []) rfl trivial ?_
          exact jb_mask [true, false, false, true] rfl (zg_229_J179 hd (q3 79 41) q3 N h hK)
        · replace h := (if_neg c).symm.trans h
          refine jb_swn ?_
          refine jb_seg 3 (pc' := (if x2 < 30 then 150 else 166)) (ls' := [some (.ref 79), some (.int x1), some (.int x2), none]) (st' := []) (σ' := (zE L, q3, N)) (G := []) rfl trivial ?_
          refine jb_ite (fun c => ?_) (fun c => ?_)
          · replace h := (if_pos c).symm.trans h
            obtain ⟨g5, h⟩ := jb_gd_of h
            refine jb_seg 9 (pc' := 178) (ls' := [some (.ref 79), some (.int x1), some (.int x2), none]) (st' := [(.int (q3 80 (((130 + x2) - 10)).toNatClampNeg))]) (σ' := (zE L, q3, N)) (G := [vp_in ((130 + x2) - 10) 149]) rfl g5 ?_
            exact jb_mask [true, false, false, false] rfl (zg_229_J178 hd (q3 80 (((130 + x2) - 10)).toNatClampNeg) q3 N h hK)
          · replace h := (if_neg c).symm.trans h
            obtain ⟨g6, h⟩ := jb_gd_of h
            refine jb_seg 8 (pc' := 178) (ls' := [some (.ref 79), some (.int x1), some (.int x2), none]) (st' := [(.int (q3 80 (((12 + x2) - 30)).toNatClampNeg))]) (σ' := (zE L, q3, N)) (G := [vp_in ((12 + x2) - 30) 149]) rfl g6 ?_
            exact jb_mask [true, false, false, false] rfl (zg_229_J178 hd (q3 80 (((12 + x2) - 30)).toNatClampNeg) q3 N h hK)
set_option maxRecDepth 20000 in
theorem zg_229_J42 {Γ : jb_G} {L : Nat} {d : Nat} (hd : 7 ≤ d) (x1 : Int32) (x2 : Int32) (M : jb_Mi) (N : jb_Ml) {v : Option Value} {σ2 : jb_S} {r : (Int32 × jb_Mi)} (h : zf_229_J42 x1 x2 M = some r) (hK : (fun r : Int32 × jb_Mi => v = some (.int r.1) ∧ σ2 = (zE L, r.2, N)) r) : jb_V Γ d zq_229 42 [some (.ref 79), some (.int x1), some (.int x2), none] [] (zE L, M, N) v σ2 := by
  obtain ⟨d, rfl⟩ : ∃ e, d = e + 1 := ⟨d - 1, by omega⟩
  unfold zf_229_J42 at h
  refine jb_seg 3 (pc' := 47) (ls' := [some (.ref 79), some (.int x1), some (.int x2), none]) (st' := [(.int 35), (.int 30), (.int x2)]) (σ' := (zE L, M, N)) (G := []) rfl trivial ?_
  refine jb_callS (q' := zq_164) (As := [(.int x2), (.int 30), (.int 35)]) (rest := []) (σ1 := (zE L, M, N)) (v := some (.int (jb_b2i (zf_164 x2 30 35)))) rfl (Nat.le_of_ble_eq_true rfl) rfl zp_164 (jb_cat rfl) (Nat.le_of_ble_eq_true rfl) (Nat.le_of_ble_eq_true rfl) (Or.inl rfl) rfl (ze_164 x2 30 35 M N rfl) ?_
  refine jb_seg 1 (pc' := (if (jb_b2i (zf_164 x2 30 35)) = 0 then 64 else 53)) (ls' := [some (.ref 79), some (.int x1), some (.int x2), none]) (st' := []) (σ' := (zE L, M, N)) (G := []) rfl trivial ?_
  refine jb_ite (fun c => ?_) (fun c => ?_)
  · replace h := (if_pos c).symm.trans h
    refine jb_seg 1 (pc' := 65) (ls' := [some (.ref 79), some (.int x1), some (.int x2), none]) (st' := [(.int (-1))]) (σ' := (zE L, M, N)) (G := []) rfl trivial ?_
    obtain rfl := Option.some.inj h
    obtain ⟨rfl, rfl⟩ := hK
    exact jb_reti rfl rfl
  · replace h := (if_neg c).symm.trans h
    refine jb_seg 4 (pc' := 58) (ls' := [some (.ref 79), some (.int x1), some (.int x2), none]) (st' := [(.int (x2 - 30)), (.ref 79)]) (σ' := (zE L, M, N)) (G := []) rfl trivial ?_
    obtain ⟨q1, h1, h⟩ := jb_bd_of h
    refine jb_callV (q' := zq_171) (As := [(.int (x2 - 30))]) (rest := []) (σ1 := (zE L, M, N)) (v := some (.int (jb_b2i q1))) rfl rfl zp_171 rfl (Nat.le_of_ble_eq_true rfl) (jb_cat rfl) (Nat.le_of_ble_eq_true rfl) (Nat.le_of_ble_eq_true rfl) (Or.inl rfl) rfl (ze_171 (by omega) (x2 - 30) M N h1) ?_
    refine jb_seg 1 (pc' := (if (jb_b2i q1) = 0 then 64 else 66)) (ls' := [some (.ref 79), some (.int x1), some (.int x2), none]) (st' := []) (σ' := (zE L, M, N)) (G := []) rfl trivial ?_
    refine jb_ite (fun c => ?_) (fun c => ?_)
    · replace h := (if_pos c).symm.trans h
      refine jb_seg 1 (pc' := 65) (ls' := [some (.ref 79), some (.int x1), some (.int x2), none]) (st' := [(.int (-1))]) (σ' := (zE L, M, N)) (G := []) rfl trivial ?_
      obtain rfl := Option.some.inj h
      obtain ⟨rfl, rfl⟩ := hK
      exact jb_reti rfl rfl
    · replace h := (if_neg c).symm.trans h
      exact jb_mask [true, true, true, false] rfl (zg_229_J66 hd x1 x2 M N h hK)
set_option maxRecDepth 20000 in
theorem zg_229 {Γ : jb_G} {L : Nat} {d : Nat} (hd : 7 ≤ d) (x1 : Int32) (x2 : Int32) (M : jb_Mi) (N : jb_Ml) {v : Option Value} {σ2 : jb_S} {r : (Int32 × jb_Mi)} (h : zf_229 x1 x2 M = some r) (hK : (fun r : Int32 × jb_Mi => v = some (.int r.1) ∧ σ2 = (zE L, r.2, N)) r) : jb_V Γ d zq_229 0 [some (.ref 79), some (.int x1), some (.int x2), none] [] (zE L, M, N) v σ2 := by
  obtain ⟨d, rfl⟩ : ∃ e, d = e + 1 := ⟨d - 1, by omega⟩
  unfold zf_229 at h
  refine jb_seg 3 (pc' := 5) (ls' := [some (.ref 79), some (.int x1), some (.int x2), none]) (st' := [(.int 240), (.int 1), (.int x1)]) (σ' := (zE L, M, N)) (G := []) rfl trivial ?_
  refine jb_callS (q' := zq_164) (As := [(.int x1), (.int 1), (.int 240)]) (rest := []) (σ1 := (zE L, M, N)) (v := some (.int (jb_b2i (zf_164 x1 1 240)))) rfl (Nat.le_of_ble_eq_true rfl) rfl zp_164 (jb_cat rfl) (Nat.le_of_ble_eq_true rfl) (Nat.le_of_ble_eq_true rfl) (Or.inl rfl) rfl (ze_164 x1 1 240 M N rfl) ?_
  refine jb_seg 1 (pc' := (if (jb_b2i (zf_164 x1 1 240)) = 0 then 64 else 11)) (ls' := [some (.ref 79), some (.int x1), some (.int x2), none]) (st' := []) (σ' := (zE L, M, N)) (G := []) rfl trivial ?_
  refine jb_ite (fun c => ?_) (fun c => ?_)
  · replace h := (if_pos c).symm.trans h
    refine jb_seg 1 (pc' := 65) (ls' := [some (.ref 79), some (.int x1), some (.int x2), none]) (st' := [(.int (-1))]) (σ' := (zE L, M, N)) (G := []) rfl trivial ?_
    obtain rfl := Option.some.inj h
    obtain ⟨rfl, rfl⟩ := hK
    exact jb_reti rfl rfl
  · replace h := (if_neg c).symm.trans h
    refine jb_seg 3 (pc' := 14) (ls' := [some (.ref 79), some (.int x1), some (.int x2), none]) (st' := [(.int 3), (.int 0), (.int x2)]) (σ' := (zE L, M, N)) (G := []) rfl trivial ?_
    refine jb_callS (q' := zq_164) (As := [(.int x2), (.int 0), (.int 3)]) (rest := []) (σ1 := (zE L, M, N)) (v := some (.int (jb_b2i (zf_164 x2 0 3)))) rfl (Nat.le_of_ble_eq_true rfl) rfl zp_164 (jb_cat rfl) (Nat.le_of_ble_eq_true rfl) (Nat.le_of_ble_eq_true rfl) (Or.inl rfl) rfl (ze_164 x2 0 3 M N rfl) ?_
    refine jb_seg 1 (pc' := (if (jb_b2i (zf_164 x2 0 3)) = 0 then 20 else 66)) (ls' := [some (.ref 79), some (.int x1), some (.int x2), none]) (st' := []) (σ' := (zE L, M, N)) (G := []) rfl trivial ?_
    refine jb_ite (fun c => ?_) (fun c => ?_)
    · replace h := (if_pos c).symm.trans h
      refine jb_seg 3 (pc' := 25) (ls' := [some (.ref 79), some (.int x1), some (.int x2), none]) (st' := [(.int 25), (.int 10), (.int x2)]) (σ' := (zE L, M, N)) (G := []) rfl trivial ?_
      refine jb_callS (q' := zq_164) (As := [(.int x2), (.int 10), (.int 25)]) (rest := []) (σ1 := (zE L, M, N)) (v := some (.int (jb_b2i (zf_164 x2 10 25)))) rfl (Nat.le_of_ble_eq_true rfl) rfl zp_164 (jb_cat rfl) (Nat.le_of_ble_eq_true rfl) (Nat.le_of_ble_eq_true rfl) (Or.inl rfl) rfl (ze_164 x2 10 25 M N rfl) ?_
      refine jb_seg 1 (pc' := (if (jb_b2i (zf_164 x2 10 25)) = 0 then 42 else 31)) (ls' := [some (.ref 79), some (.int x1), some (.int x2), none]) (st' := []) (σ' := (zE L, M, N)) (G := []) rfl trivial ?_
      refine jb_ite (fun c => ?_) (fun c => ?_)
      · replace h := (if_pos c).symm.trans h
        exact jb_mask [true, true, true, false] rfl (zg_229_J42 hd x1 x2 M N h hK)
      · replace h := (if_neg c).symm.trans h
        refine jb_seg 4 (pc' := 36) (ls' := [some (.ref 79), some (.int x1), some (.int x2), none]) (st' := [(.int (x2 - 10)), (.ref 79)]) (σ' := (zE L, M, N)) (G := []) rfl trivial ?_
        obtain ⟨q7, h7, h⟩ := jb_bd_of h
        refine jb_callV (q' := zq_174) (As := [(.int (x2 - 10))]) (rest := []) (σ1 := (zE L, M, N)) (v := some (.int (jb_b2i q7))) rfl rfl zp_174 rfl (Nat.le_of_ble_eq_true rfl) (jb_cat rfl) (Nat.le_of_ble_eq_true rfl) (Nat.le_of_ble_eq_true rfl) (Or.inl rfl) rfl (ze_174 (by omega) (x2 - 10) M N h7) ?_
        refine jb_seg 1 (pc' := (if (jb_b2i q7) = 0 then 42 else 66)) (ls' := [some (.ref 79), some (.int x1), some (.int x2), none]) (st' := []) (σ' := (zE L, M, N)) (G := []) rfl trivial ?_
        refine jb_ite (fun c => ?_) (fun c => ?_)
        · replace h := (if_pos c).symm.trans h
          exact jb_mask [true, true, true, false] rfl (zg_229_J42 hd x1 x2 M N h hK)
        · replace h := (if_neg c).symm.trans h
          exact jb_mask [true, true, true, false] rfl (zg_229_J66 hd x1 x2 M N h hK)
    · replace h := (if_neg c).symm.trans h
      exact jb_mask [true, true, true, false] rfl (zg_229_J66 hd x1 x2 M N h hK)
theorem ze_229 {Γ : jb_G} {L : Nat} {d : Nat} (hd : 7 ≤ d) (x1 : Int32) (x2 : Int32) (M : jb_Mi) (N : jb_Ml) {r : (Int32 × jb_Mi)} (h : zf_229 x1 x2 M = some r) : jb_V Γ d zq_229 0 (jb_en 4 [(.ref 79), (.int x1), (.int x2)]) [] (zE L, M, N) (some (.int r.1)) (zE L, r.2, N) := zg_229 hd x1 x2 M N h ⟨rfl, rfl⟩
-- X13_stands
set_option maxRecDepth 20000 in
theorem zg_230 {Γ : jb_G} {L : Nat} {d : Nat} (hd : 7 ≤ d) (x1 : Int32) (x2 : Int32) (M : jb_Mi) (N : jb_Ml) {v : Option Value} {σ2 : jb_S} {r : (Int32 × jb_Mi)} (h : zf_230 x1 x2 M = some r) (hK : (fun r : Int32 × jb_Mi => v = some (.int r.1) ∧ σ2 = (zE L, r.2, N)) r) : jb_V Γ d zq_230 0 [some (.ref 79), some (.int x1), some (.int x2)] [] (zE L, M, N) v σ2 := by
  obtain ⟨d, rfl⟩ : ∃ e, d = e + 1 := ⟨d - 1, by omega⟩
  unfold zf_230 at h
  refine jb_seg 2 (pc' := 2) (ls' := [some (.ref 79), some (.int x1), some (.int x2)]) (st' := [(.int x1), (.ref 79)]) (σ' := (zE L, M, N)) (G := []) rfl trivial ?_
  obtain ⟨q1, h1, h⟩ := jb_bd_of h
  refine jb_callV (q' := zq_171) (As := [(.int x1)]) (rest := []) (σ1 := (zE L, M, N)) (v := some (.int (jb_b2i q1))) rfl rfl zp_171 rfl (Nat.le_of_ble_eq_true rfl) (jb_cat rfl) (Nat.le_of_ble_eq_true rfl) (Nat.le_of_ble_eq_true rfl) (Or.inl rfl) rfl (ze_171 (by omega) x1 M N h1) ?_
  refine jb_seg 1 (pc' := (if (jb_b2i q1) = 0 then 19 else 8)) (ls' := [some (.ref 79), some (.int x1), some (.int x2)]) (st' := []) (σ' := (zE L, M, N)) (G := []) rfl trivial ?_
  refine jb_ite (fun c => ?_) (fun c => ?_)
  · replace h := (if_pos c).symm.trans h
    refine jb_seg 1 (pc' := 20) (ls' := [some (.ref 79), some (.int x1), some (.int x2)]) (st' := [(.int (-1))]) (σ' := (zE L, M, N)) (G := []) rfl trivial ?_
    obtain rfl := Option.some.inj h
    obtain ⟨rfl, rfl⟩ := hK
    exact jb_reti rfl rfl
  · replace h := (if_neg c).symm.trans h
    refine jb_seg 3 (pc' := 13) (ls' := [some (.ref 79), some (.int x1), some (.int x2)]) (st' := [(.int 240), (.int 1), (.int x2)]) (σ' := (zE L, M, N)) (G := []) rfl trivial ?_
    refine jb_callS (q' := zq_164) (As := [(.int x2), (.int 1), (.int 240)]) (rest := []) (σ1 := (zE L, M, N)) (v := some (.int (jb_b2i (zf_164 x2 1 240)))) rfl (Nat.le_of_ble_eq_true rfl) rfl zp_164 (jb_cat rfl) (Nat.le_of_ble_eq_true rfl) (Nat.le_of_ble_eq_true rfl) (Or.inl rfl) rfl (ze_164 x2 1 240 M N rfl) ?_
    refine jb_seg 1 (pc' := (if (jb_b2i (zf_164 x2 1 240)) = 0 then 19 else 21)) (ls' := [some (.ref 79), some (.int x1), some (.int x2)]) (st' := []) (σ' := (zE L, M, N)) (G := []) rfl trivial ?_
    refine jb_ite (fun c => ?_) (fun c => ?_)
    · replace h := (if_pos c).symm.trans h
      refine jb_seg 1 (pc' := 20) (ls' := [some (.ref 79), some (.int x1), some (.int x2)]) (st' := [(.int (-1))]) (σ' := (zE L, M, N)) (G := []) rfl trivial ?_
      obtain rfl := Option.some.inj h
      obtain ⟨rfl, rfl⟩ := hK
      exact jb_reti rfl rfl
    · replace h := (if_neg c).symm.trans h
      obtain ⟨g2, h⟩ := jb_gd_of h
      refine jb_seg 8 (pc' := (if (M 80 ((12 + x1)).toNatClampNeg) = 9 then 35 else 37)) (ls' := [some (.ref 79), some (.int x1), some (.int x2)]) (st' := []) (σ' := (zE L, M, N)) (G := [vp_in (12 + x1) 149]) rfl g2 ?_
      refine jb_ite (fun c => ?_) (fun c => ?_)
      · replace h := (if_pos c).symm.trans h
        refine jb_seg 1 (pc' := 36) (ls' := [some (.ref 79), some (.int x1), some (.int x2)]) (st' := [(.int 0)]) (σ' := (zE L, M, N)) (G := []) rfl trivial ?_
        obtain rfl := Option.some.inj h
        obtain ⟨rfl, rfl⟩ := hK
        exact jb_reti rfl rfl
      · replace h := (if_neg c).symm.trans h
        refine jb_seg 4 (pc' := 45) (ls' := [some (.ref 79), some (.int x1), some (.int x2)]) (st' := [(.ref 81), (.ref 80)]) (σ' := (zE L, M, N)) (G := []) rfl trivial ?_
        obtain ⟨q3, h3, h⟩ := jb_bd_of h
        refine jb_callS (q' := zq_170) (As := [(.ref 80), (.ref 81)]) (rest := []) (σ1 := (zE L, q3, N)) (v := none) rfl (Nat.le_of_ble_eq_true rfl) rfl zp_170 (jb_cat rfl) (Nat.le_of_ble_eq_true rfl) (Nat.le_of_ble_eq_true rfl) (Or.inl rfl) rfl (ze_170 80 81 M N (by decide) h3) ?_
        refine jb_seg 2 (pc' := 50) (ls' := [some (.ref 79), some (.int x1), some (.int x2)]) (st' := [(.int x2), (.ref 79)]) (σ' := (zE L, q3, N)) (G := []) rfl trivial ?_
        obtain ⟨q4, h4, h⟩ := jb_bd_of h
        refine jb_callV (q' := zq_227) (As := [(.int x2)]) (rest := []) (σ1 := (zE L, q4, N)) (v := none) rfl rfl zp_227 rfl (Nat.le_of_ble_eq_true rfl) (jb_cat rfl) (Nat.le_of_ble_eq_true rfl) (Nat.le_of_ble_eq_true rfl) (Or.inl rfl) rfl (ze_227 (by omega) x2 q3 N h4) ?_
        refine jb_seg 4 (pc' := 61) (ls' := [some (.ref 79), some (.int x1), some (.int x2)]) (st' := [(.ref 80), (.ref 81)]) (σ' := (zE L, q4, N)) (G := []) rfl trivial ?_
        obtain ⟨q5, h5, h⟩ := jb_bd_of h
        refine jb_callS (q' := zq_170) (As := [(.ref 81), (.ref 80)]) (rest := []) (σ1 := (zE L, q5, N)) (v := none) rfl (Nat.le_of_ble_eq_true rfl) rfl zp_170 (jb_cat rfl) (Nat.le_of_ble_eq_true rfl) (Nat.le_of_ble_eq_true rfl) (Or.inl rfl) rfl (ze_170 81 80 q4 N (by decide) h5) ?_
        obtain ⟨g6, h⟩ := jb_gd_of h
        refine jb_seg 4 (pc' := 70) (ls' := [some (.ref 79), some (.int x1), some (.int x2)]) (st' := [(.int (q5 103 x1.toNatClampNeg))]) (σ' := (zE L, q5, N)) (G := [vp_in x1 6]) rfl g6 ?_
        obtain rfl := Option.some.inj h
        obtain ⟨rfl, rfl⟩ := hK
        exact jb_reti rfl rfl
theorem ze_230 {Γ : jb_G} {L : Nat} {d : Nat} (hd : 7 ≤ d) (x1 : Int32) (x2 : Int32) (M : jb_Mi) (N : jb_Ml) {r : (Int32 × jb_Mi)} (h : zf_230 x1 x2 M = some r) : jb_V Γ d zq_230 0 (jb_en 3 [(.ref 79), (.int x1), (.int x2)]) [] (zE L, M, N) (some (.int r.1)) (zE L, r.2, N) := zg_230 hd x1 x2 M N h ⟨rfl, rfl⟩
-- X13_fallsFirst
set_option maxRecDepth 20000 in
theorem zg_231 {Γ : jb_G} {L : Nat} {d : Nat} (hd : 7 ≤ d) (x1 : Int32) (M : jb_Mi) (N : jb_Ml) {v : Option Value} {σ2 : jb_S} {r : (Int32 × jb_Mi)} (h : zf_231 x1 M = some r) (hK : (fun r : Int32 × jb_Mi => v = some (.int r.1) ∧ σ2 = (zE L, r.2, N)) r) : jb_V Γ d zq_231 0 [some (.ref 79), some (.int x1)] [] (zE L, M, N) v σ2 := by
  obtain ⟨d, rfl⟩ : ∃ e, d = e + 1 := ⟨d - 1, by omega⟩
  unfold zf_231 at h
  refine jb_seg 3 (pc' := 5) (ls' := [some (.ref 79), some (.int x1)]) (st' := [(.int 240), (.int 1), (.int x1)]) (σ' := (zE L, M, N)) (G := []) rfl trivial ?_
  refine jb_callS (q' := zq_164) (As := [(.int x1), (.int 1), (.int 240)]) (rest := []) (σ1 := (zE L, M, N)) (v := some (.int (jb_b2i (zf_164 x1 1 240)))) rfl (Nat.le_of_ble_eq_true rfl) rfl zp_164 (jb_cat rfl) (Nat.le_of_ble_eq_true rfl) (Nat.le_of_ble_eq_true rfl) (Or.inl rfl) rfl (ze_164 x1 1 240 M N rfl) ?_
  refine jb_seg 1 (pc' := (if (jb_b2i (zf_164 x1 1 240)) = 0 then 11 else 13)) (ls' := [some (.ref 79), some (.int x1)]) (st' := []) (σ' := (zE L, M, N)) (G := []) rfl trivial ?_
  refine jb_ite (fun c => ?_) (fun c => ?_)
  · replace h := (if_pos c).symm.trans h
    refine jb_seg 1 (pc' := 12) (ls' := [some (.ref 79), some (.int x1)]) (st' := [(.int (-1))]) (σ' := (zE L, M, N)) (G := []) rfl trivial ?_
    obtain rfl := Option.some.inj h
    obtain ⟨rfl, rfl⟩ := hK
    exact jb_reti rfl rfl
  · replace h := (if_neg c).symm.trans h
    refine jb_seg 4 (pc' := 21) (ls' := [some (.ref 79), some (.int x1)]) (st' := [(.ref 81), (.ref 80)]) (σ' := (zE L, M, N)) (G := []) rfl trivial ?_
    obtain ⟨q1, h1, h⟩ := jb_bd_of h
    refine jb_callS (q' := zq_170) (As := [(.ref 80), (.ref 81)]) (rest := []) (σ1 := (zE L, q1, N)) (v := none) rfl (Nat.le_of_ble_eq_true rfl) rfl zp_170 (jb_cat rfl) (Nat.le_of_ble_eq_true rfl) (Nat.le_of_ble_eq_true rfl) (Or.inl rfl) rfl (ze_170 80 81 M N (by decide) h1) ?_
    refine jb_seg 2 (pc' := 26) (ls' := [some (.ref 79), some (.int x1)]) (st' := [(.int x1), (.ref 79)]) (σ' := (zE L, q1, N)) (G := []) rfl trivial ?_
    obtain ⟨q2, h2, h⟩ := jb_bd_of h
    refine jb_callV (q' := zq_227) (As := [(.int x1)]) (rest := []) (σ1 := (zE L, q2, N)) (v := none) rfl rfl zp_227 rfl (Nat.le_of_ble_eq_true rfl) (jb_cat rfl) (Nat.le_of_ble_eq_true rfl) (Nat.le_of_ble_eq_true rfl) (Or.inl rfl) rfl (ze_227 (by omega) x1 q1 N h2) ?_
    refine jb_seg 4 (pc' := 37) (ls' := [some (.ref 79), some (.int x1)]) (st' := [(.ref 80), (.ref 81)]) (σ' := (zE L, q2, N)) (G := []) rfl trivial ?_
    obtain ⟨q3, h3, h⟩ := jb_bd_of h
    refine jb_callS (q' := zq_170) (As := [(.ref 81), (.ref 80)]) (rest := []) (σ1 := (zE L, q3, N)) (v := none) rfl (Nat.le_of_ble_eq_true rfl) rfl zp_170 (jb_cat rfl) (Nat.le_of_ble_eq_true rfl) (Nat.le_of_ble_eq_true rfl) (Or.inl rfl) rfl (ze_170 81 80 q2 N (by decide) h3) ?_
    refine jb_seg 4 (pc' := (if (q3 79 42) = (-1) then 48 else 53)) (ls' := [some (.ref 79), some (.int x1)]) (st' := []) (σ' := (zE L, q3, N)) (G := []) rfl trivial ?_
    refine jb_ite (fun c => ?_) (fun c => ?_)
    · replace h := (if_pos c).symm.trans h
      refine jb_seg 2 (pc' := 57) (ls' := [some (.ref 79), some (.int x1)]) (st' := [(.int (-2))]) (σ' := (zE L, q3, N)) (G := []) rfl trivial ?_
      obtain rfl := Option.some.inj h
      obtain ⟨rfl, rfl⟩ := hK
      exact jb_reti rfl rfl
    · replace h := (if_neg c).symm.trans h
      refine jb_seg 2 (pc' := 57) (ls' := [some (.ref 79), some (.int x1)]) (st' := [(.int (q3 79 42))]) (σ' := (zE L, q3, N)) (G := []) rfl trivial ?_
      obtain rfl := Option.some.inj h
      obtain ⟨rfl, rfl⟩ := hK
      exact jb_reti rfl rfl
theorem ze_231 {Γ : jb_G} {L : Nat} {d : Nat} (hd : 7 ≤ d) (x1 : Int32) (M : jb_Mi) (N : jb_Ml) {r : (Int32 × jb_Mi)} (h : zf_231 x1 M = some r) : jb_V Γ d zq_231 0 (jb_en 2 [(.ref 79), (.int x1)]) [] (zE L, M, N) (some (.int r.1)) (zE L, r.2, N) := zg_231 hd x1 M N h ⟨rfl, rfl⟩
-- X13_heaviestOf
set_option maxRecDepth 20000 in
theorem zg_232_H4 {Γ : jb_G} {L : Nat} {d : Nat} (hd : 2 ≤ d) (x1 : Int32) (M : jb_Mi) (N : jb_Ml) (s : Int32 × Int32) {v : Option Value} {σ2 : jb_S} {r : ((Int32 × Int32) ⊕ (Int32))} (h : zf_232_H4 x1 M s = some r) (hK : (jb_K (fun s : Int32 × Int32 => jb_V Γ d zq_232 4 [some (.ref 79), some (.int x1), some (.int s.1), some (.int s.2)] [] (zE L, M, N) v σ2) (fun r : Int32 => v = some (.int r) ∧ σ2 = (zE L, M, N))) r) : jb_V Γ d zq_232 4 [some (.ref 79), some (.int x1), some (.int s.1), some (.int s.2)] [] (zE L, M, N) v σ2 := by
  obtain ⟨d, rfl⟩ : ∃ e, d = e + 1 := ⟨d - 1, by omega⟩
  unfold zf_232_H4 at h
  refine jb_seg 3 (pc' := (if s.2 < 4 then 9 else 26)) (ls' := [some (.ref 79), some (.int x1), some (.int s.1), some (.int s.2)]) (st' := []) (σ' := (zE L, M, N)) (G := []) rfl trivial ?_
  refine jb_ite (fun c => ?_) (fun c => ?_)
  · replace h := (if_pos c).symm.trans h
    refine jb_seg 4 (pc' := 13) (ls' := [some (.ref 79), some (.int x1), some (.int s.1), some (.int s.2)]) (st' := [(.int s.2), (.int x1), (.ref 79), (.int s.1)]) (σ' := (zE L, M, N)) (G := []) rfl trivial ?_
    obtain ⟨q1, h1, h⟩ := jb_bd_of h
    refine jb_callV (q' := zq_179) (As := [(.int x1), (.int s.2)]) (rest := [(.int s.1)]) (σ1 := (zE L, M, N)) (v := some (.int q1)) rfl rfl zp_179 rfl (Nat.le_of_ble_eq_true rfl) (jb_cat rfl) (Nat.le_of_ble_eq_true rfl) (Nat.le_of_ble_eq_true rfl) (Or.inl rfl) rfl (ze_179 (by omega) x1 s.2 M N h1) ?_
    refine jb_callS (q' := zq_166) (As := [(.int s.1), (.int q1)]) (rest := []) (σ1 := (zE L, M, N)) (v := some (.int (zf_166 s.1 q1))) rfl (Nat.le_of_ble_eq_true rfl) rfl zp_166 (jb_cat rfl) (Nat.le_of_ble_eq_true rfl) (Nat.le_of_ble_eq_true rfl) (Or.inl rfl) rfl (ze_166 s.1 q1 M N rfl) ?_
    refine jb_seg 3 (pc' := 4) (ls' := [some (.ref 79), some (.int x1), some (.int (zf_166 s.1 q1)), some (.int (s.2 + 1))]) (st' := []) (σ' := (zE L, M, N)) (G := []) rfl trivial ?_
    obtain rfl := Option.some.inj h
    exact jb_mask [true, true, true, true] rfl hK
  · replace h := (if_neg c).symm.trans h
    refine jb_seg 1 (pc' := 27) (ls' := [some (.ref 79), some (.int x1), some (.int s.1), some (.int s.2)]) (st' := [(.int s.1)]) (σ' := (zE L, M, N)) (G := []) rfl trivial ?_
    obtain rfl := Option.some.inj h
    obtain ⟨rfl, rfl⟩ := hK
    exact jb_reti rfl rfl
theorem zg_232_H4L {Γ : jb_G} {L : Nat} {d : Nat} (hd : 2 ≤ d) (x1 : Int32) (M : jb_Mi) (N : jb_Ml) {v : Option Value} {σ2 : jb_S} {s : Int32 × Int32} {r : (Int32)} (h : jb_lp (zf_232_H4 x1 M) s = some r) (hK : (fun r : Int32 => v = some (.int r) ∧ σ2 = (zE L, M, N)) r) : jb_V Γ d zq_232 4 [some (.ref 79), some (.int x1), some (.int s.1), some (.int s.2)] [] (zE L, M, N) v σ2 := by
  exact @jb_lp_ind (Int32 × Int32) ((Int32)) (zf_232_H4 x1 M) (fun s => jb_V Γ d zq_232 4 [some (.ref 79), some (.int x1), some (.int s.1), some (.int s.2)] [] (zE L, M, N) v σ2) (fun r : Int32 => v = some (.int r) ∧ σ2 = (zE L, M, N)) (fun s r h hk => zg_232_H4 hd x1 M N s h hk) s r h hK
set_option maxRecDepth 20000 in
theorem zg_232 {Γ : jb_G} {L : Nat} {d : Nat} (hd : 2 ≤ d) (x1 : Int32) (M : jb_Mi) (N : jb_Ml) {v : Option Value} {σ2 : jb_S} {r : (Int32)} (h : zf_232 x1 M = some r) (hK : (fun r : Int32 => v = some (.int r) ∧ σ2 = (zE L, M, N)) r) : jb_V Γ d zq_232 0 [some (.ref 79), some (.int x1), none, none] [] (zE L, M, N) v σ2 := by
  obtain ⟨d, rfl⟩ : ∃ e, d = e + 1 := ⟨d - 1, by omega⟩
  unfold zf_232 at h
  refine jb_seg 4 (pc' := 4) (ls' := [some (.ref 79), some (.int x1), some (.int 0), some (.int 0)]) (st' := []) (σ' := (zE L, M, N)) (G := []) rfl trivial ?_
  exact jb_mask [true, true, true, true] rfl (zg_232_H4L hd x1 M N h hK)
theorem ze_232 {Γ : jb_G} {L : Nat} {d : Nat} (hd : 2 ≤ d) (x1 : Int32) (M : jb_Mi) (N : jb_Ml) {r : (Int32)} (h : zf_232 x1 M = some r) : jb_V Γ d zq_232 0 (jb_en 4 [(.ref 79), (.int x1)]) [] (zE L, M, N) (some (.int r)) (zE L, M, N) := zg_232 hd x1 M N h ⟨rfl, rfl⟩
-- X13_evenOf
set_option maxRecDepth 20000 in
theorem zg_233_H6 {Γ : jb_G} {L : Nat} {d : Nat} (hd : 3 ≤ d) (x1 : Int32) (M : jb_Mi) (N : jb_Ml) (s : Int32 × Int32) {v : Option Value} {σ2 : jb_S} {r : ((Int32 × Int32) ⊕ (Int32))} (h : zf_233_H6 x1 M s = some r) (hK : (jb_K (fun s : Int32 × Int32 => jb_V Γ d zq_233 6 [some (.ref 79), some (.int x1), some (.int s.1), some (.int s.2)] [] (zE L, M, N) v σ2) (fun r : Int32 => v = some (.int r) ∧ σ2 = (zE L, M, N))) r) : jb_V Γ d zq_233 6 [some (.ref 79), some (.int x1), some (.int s.1), some (.int s.2)] [] (zE L, M, N) v σ2 := by
  obtain ⟨d, rfl⟩ : ∃ e, d = e + 1 := ⟨d - 1, by omega⟩
  unfold zf_233_H6 at h
  refine jb_seg 3 (pc' := (if s.2 < 4 then 11 else 28)) (ls' := [some (.ref 79), some (.int x1), some (.int s.1), some (.int s.2)]) (st' := []) (σ' := (zE L, M, N)) (G := []) rfl trivial ?_
  refine jb_ite (fun c => ?_) (fun c => ?_)
  · replace h := (if_pos c).symm.trans h
    refine jb_seg 4 (pc' := 15) (ls' := [some (.ref 79), some (.int x1), some (.int s.1), some (.int s.2)]) (st' := [(.int s.2), (.int x1), (.ref 79), (.int s.1)]) (σ' := (zE L, M, N)) (G := []) rfl trivial ?_
    obtain ⟨q1, h1, h⟩ := jb_bd_of h
    refine jb_callV (q' := zq_179) (As := [(.int x1), (.int s.2)]) (rest := [(.int s.1)]) (σ1 := (zE L, M, N)) (v := some (.int q1)) rfl rfl zp_179 rfl (Nat.le_of_ble_eq_true rfl) (jb_cat rfl) (Nat.le_of_ble_eq_true rfl) (Nat.le_of_ble_eq_true rfl) (Or.inl rfl) rfl (ze_179 (by omega) x1 s.2 M N h1) ?_
    refine jb_callS (q' := zq_165) (As := [(.int s.1), (.int q1)]) (rest := []) (σ1 := (zE L, M, N)) (v := some (.int (zf_165 s.1 q1))) rfl (Nat.le_of_ble_eq_true rfl) rfl zp_165 (jb_cat rfl) (Nat.le_of_ble_eq_true rfl) (Nat.le_of_ble_eq_true rfl) (Or.inl rfl) rfl (ze_165 s.1 q1 M N rfl) ?_
    refine jb_seg 3 (pc' := 6) (ls' := [some (.ref 79), some (.int x1), some (.int (zf_165 s.1 q1)), some (.int (s.2 + 1))]) (st' := []) (σ' := (zE L, M, N)) (G := []) rfl trivial ?_
    obtain rfl := Option.some.inj h
    exact jb_mask [true, true, true, true] rfl hK
  · replace h := (if_neg c).symm.trans h
    refine jb_seg 2 (pc' := 30) (ls' := [some (.ref 79), some (.int x1), some (.int s.1), some (.int s.2)]) (st' := [(.int x1), (.ref 79)]) (σ' := (zE L, M, N)) (G := []) rfl trivial ?_
    obtain ⟨q2, h2, h⟩ := jb_bd_of h
    refine jb_callV (q' := zq_232) (As := [(.int x1)]) (rest := []) (σ1 := (zE L, M, N)) (v := some (.int q2)) rfl rfl zp_232 rfl (Nat.le_of_ble_eq_true rfl) (jb_cat rfl) (Nat.le_of_ble_eq_true rfl) (Nat.le_of_ble_eq_true rfl) (Or.inl rfl) rfl (ze_232 (by omega) x1 M N h2) ?_
    refine jb_seg 2 (pc' := 35) (ls' := [some (.ref 79), some (.int x1), some (.int s.1), some (.int s.2)]) (st' := [(.int (q2 - s.1))]) (σ' := (zE L, M, N)) (G := []) rfl trivial ?_
    obtain rfl := Option.some.inj h
    obtain ⟨rfl, rfl⟩ := hK
    exact jb_reti rfl rfl
theorem zg_233_H6L {Γ : jb_G} {L : Nat} {d : Nat} (hd : 3 ≤ d) (x1 : Int32) (M : jb_Mi) (N : jb_Ml) {v : Option Value} {σ2 : jb_S} {s : Int32 × Int32} {r : (Int32)} (h : jb_lp (zf_233_H6 x1 M) s = some r) (hK : (fun r : Int32 => v = some (.int r) ∧ σ2 = (zE L, M, N)) r) : jb_V Γ d zq_233 6 [some (.ref 79), some (.int x1), some (.int s.1), some (.int s.2)] [] (zE L, M, N) v σ2 := by
  exact @jb_lp_ind (Int32 × Int32) ((Int32)) (zf_233_H6 x1 M) (fun s => jb_V Γ d zq_233 6 [some (.ref 79), some (.int x1), some (.int s.1), some (.int s.2)] [] (zE L, M, N) v σ2) (fun r : Int32 => v = some (.int r) ∧ σ2 = (zE L, M, N)) (fun s r h hk => zg_233_H6 hd x1 M N s h hk) s r h hK
set_option maxRecDepth 20000 in
theorem zg_233 {Γ : jb_G} {L : Nat} {d : Nat} (hd : 3 ≤ d) (x1 : Int32) (M : jb_Mi) (N : jb_Ml) {v : Option Value} {σ2 : jb_S} {r : (Int32)} (h : zf_233 x1 M = some r) (hK : (fun r : Int32 => v = some (.int r) ∧ σ2 = (zE L, M, N)) r) : jb_V Γ d zq_233 0 [some (.ref 79), some (.int x1), none, none] [] (zE L, M, N) v σ2 := by
  obtain ⟨d, rfl⟩ : ∃ e, d = e + 1 := ⟨d - 1, by omega⟩
  unfold zf_233 at h
  refine jb_seg 4 (pc' := 6) (ls' := [some (.ref 79), some (.int x1), some (.int 100000000), some (.int 0)]) (st' := []) (σ' := (zE L, M, N)) (G := []) rfl trivial ?_
  exact jb_mask [true, true, true, true] rfl (zg_233_H6L hd x1 M N h hK)
theorem ze_233 {Γ : jb_G} {L : Nat} {d : Nat} (hd : 3 ≤ d) (x1 : Int32) (M : jb_Mi) (N : jb_Ml) {r : (Int32)} (h : zf_233 x1 M = some r) : jb_V Γ d zq_233 0 (jb_en 4 [(.ref 79), (.int x1)]) [] (zE L, M, N) (some (.int r)) (zE L, M, N) := zg_233 hd x1 M N h ⟨rfl, rfl⟩
-- X13_houseIs
set_option maxRecDepth 20000 in
theorem zg_234_J61 {Γ : jb_G} {L : Nat} {d : Nat} (hd : 4 ≤ d) (x1 : Int32) (x2 : Int32) (x3 : Int32) (x4 : Int32) (x5 : Int32) (M : jb_Mi) (N : jb_Ml) {v : Option Value} {σ2 : jb_S} {r : ((Int32 × Int32 × Int32) ⊕ (Int32))} (h : zf_234_J61 x1 x2 x3 x4 x5 M = some r) (hK : (jb_K (fun s : Int32 × Int32 × Int32 => jb_V Γ d zq_234 18 [some (.ref 79), some (.int x1), some (.int x2), some (.int s.1), some (.int s.2.1), some (.int s.2.2)] [] (zE L, M, N) v σ2) (fun r : Int32 => v = some (.int r) ∧ σ2 = (zE L, M, N))) r) : jb_V Γ d zq_234 61 [some (.ref 79), some (.int x1), some (.int x2), some (.int x3), some (.int x4), some (.int x5)] [] (zE L, M, N) v σ2 := by
  obtain ⟨d, rfl⟩ : ∃ e, d = e + 1 := ⟨d - 1, by omega⟩
  unfold zf_234_J61 at h
  refine jb_seg 2 (pc' := 18) (ls' := [some (.ref 79), some (.int x1), some (.int x2), some (.int x3), some (.int x4), some (.int (x5 + 1))]) (st' := []) (σ' := (zE L, M, N)) (G := []) rfl trivial ?_
  obtain rfl := Option.some.inj h
  exact jb_mask [true, true, true, true, true, true] rfl hK
set_option maxRecDepth 20000 in
theorem zg_234_H18 {Γ : jb_G} {L : Nat} {d : Nat} (hd : 4 ≤ d) (x1 : Int32) (x2 : Int32) (M : jb_Mi) (N : jb_Ml) (s : Int32 × Int32 × Int32) {v : Option Value} {σ2 : jb_S} {r : ((Int32 × Int32 × Int32) ⊕ (Int32))} (h : zf_234_H18 x1 x2 M s = some r) (hK : (jb_K (fun s : Int32 × Int32 × Int32 => jb_V Γ d zq_234 18 [some (.ref 79), some (.int x1), some (.int x2), some (.int s.1), some (.int s.2.1), some (.int s.2.2)] [] (zE L, M, N) v σ2) (fun r : Int32 => v = some (.int r) ∧ σ2 = (zE L, M, N))) r) : jb_V Γ d zq_234 18 [some (.ref 79), some (.int x1), some (.int x2), some (.int s.1), some (.int s.2.1), some (.int s.2.2)] [] (zE L, M, N) v σ2 := by
  obtain ⟨d, rfl⟩ : ∃ e, d = e + 1 := ⟨d - 1, by omega⟩
  unfold zf_234_H18 at h
  refine jb_seg 3 (pc' := (if s.2.2 < 24 then 25 else 67)) (ls' := [some (.ref 79), some (.int x1), some (.int x2), some (.int s.1), some (.int s.2.1), some (.int s.2.2)]) (st' := []) (σ' := (zE L, M, N)) (G := []) rfl trivial ?_
  refine jb_ite (fun c => ?_) (fun c => ?_)
  · replace h := (if_pos c).symm.trans h
    obtain ⟨g2, h⟩ := jb_gd_of h
    refine jb_seg 8 (pc' := (if (M 80 ((18 + s.2.2)).toNatClampNeg) = x1 then 42 else 39)) (ls' := [some (.ref 79), some (.int x1), some (.int x2), some (.int s.1), some (.int s.2.1), some (.int s.2.2)]) (st' := []) (σ' := (zE L, M, N)) (G := [vp_in (18 + s.2.2) 149]) rfl g2 ?_
    refine jb_ite (fun c => ?_) (fun c => ?_)
    · replace h := (if_pos c).symm.trans h
      obtain ⟨g3, h⟩ := jb_gd_of h
      refine jb_seg 13 (pc' := 61) (ls' := [some (.ref 79), some (.int x1), some (.int x2), some (.int (s.1 + 1)), some (.int (s.2.1 + (M 80 ((90 + s.2.2)).toNatClampNeg))), some (.int s.2.2)]) (st' := []) (σ' := (zE L, M, N)) (G := [vp_in (90 + s.2.2) 149]) rfl g3 ?_
      exact jb_mask [true, true, true, true, true, true] rfl (zg_234_J61 hd x1 x2 (s.1 + 1) (s.2.1 + (M 80 ((90 + s.2.2)).toNatClampNeg)) s.2.2 M N h hK)
    · replace h := (if_neg c).symm.trans h
      refine jb_seg 1 (pc' := 61) (ls' := [some (.ref 79), some (.int x1), some (.int x2), some (.int s.1), some (.int s.2.1), some (.int s.2.2)]) (st' := []) (σ' := (zE L, M, N)) (G := []) rfl trivial ?_
      exact jb_mask [true, true, true, true, true, true] rfl (zg_234_J61 hd x1 x2 s.1 s.2.1 s.2.2 M N h hK)
  · replace h := (if_neg c).symm.trans h
    refine jb_seg 1 (pc' := 68) (ls' := [some (.ref 79), some (.int x1), some (.int x2), some (.int s.1), some (.int s.2.1), some (.int s.2.2)]) (st' := [(.int x2)]) (σ' := (zE L, M, N)) (G := []) rfl trivial ?_
    refine jb_tsw [(0, 108), (1, 117), (2, 127), (3, 137), (4, 139), (5, 145)] 148 rfl (by decide +kernel) ?_
    refine jb_swc (fun c => ?_) (fun c => ?_)
    · replace h := (if_pos c).symm.trans h
      obtain ⟨g4, h⟩ := jb_gd_of h
      refine jb_seg 6 (pc' := 116) (ls' := [some (.ref 79), some (.int x1), some (.int x2), some (.int s.1), some (.int s.2.1), some (.int s.2.2)]) (st' := [(.int (M 80 ((0 + x1)).toNatClampNeg))]) (σ' := (zE L, M, N)) (G := [vp_in (0 + x1) 149]) rfl g4 ?_
      obtain rfl := Option.some.inj h
      obtain ⟨rfl, rfl⟩ := hK
      exact jb_reti rfl rfl
    · replace h := (if_neg c).symm.trans h
      refine jb_swc (fun c => ?_) (fun c => ?_)
      · replace h := (if_pos c).symm.trans h
        obtain ⟨g5, h⟩ := jb_gd_of h
        refine jb_seg 6 (pc' := 126) (ls' := [some (.ref 79), some (.int x1), some (.int x2), some (.int s.1), some (.int s.2.1), some (.int s.2.2)]) (st' := [(.int (M 80 ((6 + x1)).toNatClampNeg))]) (σ' := (zE L, M, N)) (G := [vp_in (6 + x1) 149]) rfl g5 ?_
        obtain rfl := Option.some.inj h
        obtain ⟨rfl, rfl⟩ := hK
        exact jb_reti rfl rfl
      · replace h := (if_neg c).symm.trans h
        refine jb_swc (fun c => ?_) (fun c => ?_)
        · replace h := (if_pos c).symm.trans h
          obtain ⟨g6, h⟩ := jb_gd_of h
          refine jb_seg 6 (pc' := 136) (ls' := [some (.ref 79), some (.int x1), some (.int x2), some (.int s.1), some (.int s.2.1), some (.int s.2.2)]) (st' := [(.int (M 80 ((12 + x1)).toNatClampNeg))]) (σ' := (zE L, M, N)) (G := [vp_in (12 + x1) 149]) rfl g6 ?_
          obtain rfl := Option.some.inj h
          obtain ⟨rfl, rfl⟩ := hK
          exact jb_reti rfl rfl
        · replace h := (if_neg c).symm.trans h
          refine jb_swc (fun c => ?_) (fun c => ?_)
          · replace h := (if_pos c).symm.trans h
            refine jb_seg 1 (pc' := 138) (ls' := [some (.ref 79), some (.int x1), some (.int x2), some (.int s.1), some (.int s.2.1), some (.int s.2.2)]) (st' := [(.int s.1)]) (σ' := (zE L, M, N)) (G := []) rfl trivial ?_
            obtain rfl := Option.some.inj h
            obtain ⟨rfl, rfl⟩ := hK
            exact jb_reti rfl rfl
          · replace h := (if_neg c).symm.trans h
            refine jb_swc (fun c => ?_) (fun c => ?_)
            · replace h := (if_pos c).symm.trans h
              refine jb_seg 2 (pc' := 141) (ls' := [some (.ref 79), some (.int x1), some (.int x2), some (.int s.1), some (.int s.2.1), some (.int s.2.2)]) (st' := [(.int x1), (.ref 79)]) (σ' := (zE L, M, N)) (G := []) rfl trivial ?_
              obtain ⟨q7, h7, h⟩ := jb_bd_of h
              refine jb_callV (q' := zq_233) (As := [(.int x1)]) (rest := []) (σ1 := (zE L, M, N)) (v := some (.int q7)) rfl rfl zp_233 rfl (Nat.le_of_ble_eq_true rfl) (jb_cat rfl) (Nat.le_of_ble_eq_true rfl) (Nat.le_of_ble_eq_true rfl) (Or.inl rfl) rfl (ze_233 (by omega) x1 M N h7) ?_
              obtain rfl := Option.some.inj h
              obtain ⟨rfl, rfl⟩ := hK
              exact jb_reti rfl rfl
            · replace h := (if_neg c).symm.trans h
              refine jb_swc (fun c => ?_) (fun c => ?_)
              · replace h := (if_pos c).symm.trans h
                refine jb_seg 1 (pc' := 147) (ls' := [some (.ref 79), some (.int x1), some (.int x2), some (.int s.1), some (.int s.2.1), some (.int s.2.2)]) (st' := [(.int s.2.1)]) (σ' := (zE L, M, N)) (G := []) rfl trivial ?_
                obtain rfl := Option.some.inj h
                obtain ⟨rfl, rfl⟩ := hK
                exact jb_reti rfl rfl
              · replace h := (if_neg c).symm.trans h
                refine jb_swn ?_
                refine jb_seg 1 (pc' := 149) (ls' := [some (.ref 79), some (.int x1), some (.int x2), some (.int s.1), some (.int s.2.1), some (.int s.2.2)]) (st' := [(.int (-1))]) (σ' := (zE L, M, N)) (G := []) rfl trivial ?_
                obtain rfl := Option.some.inj h
                obtain ⟨rfl, rfl⟩ := hK
                exact jb_reti rfl rfl
theorem zg_234_H18L {Γ : jb_G} {L : Nat} {d : Nat} (hd : 4 ≤ d) (x1 : Int32) (x2 : Int32) (M : jb_Mi) (N : jb_Ml) {v : Option Value} {σ2 : jb_S} {s : Int32 × Int32 × Int32} {r : (Int32)} (h : jb_lp (zf_234_H18 x1 x2 M) s = some r) (hK : (fun r : Int32 => v = some (.int r) ∧ σ2 = (zE L, M, N)) r) : jb_V Γ d zq_234 18 [some (.ref 79), some (.int x1), some (.int x2), some (.int s.1), some (.int s.2.1), some (.int s.2.2)] [] (zE L, M, N) v σ2 := by
  exact @jb_lp_ind (Int32 × Int32 × Int32) ((Int32)) (zf_234_H18 x1 x2 M) (fun s => jb_V Γ d zq_234 18 [some (.ref 79), some (.int x1), some (.int x2), some (.int s.1), some (.int s.2.1), some (.int s.2.2)] [] (zE L, M, N) v σ2) (fun r : Int32 => v = some (.int r) ∧ σ2 = (zE L, M, N)) (fun s r h hk => zg_234_H18 hd x1 x2 M N s h hk) s r h hK
set_option maxRecDepth 20000 in
theorem zg_234 {Γ : jb_G} {L : Nat} {d : Nat} (hd : 4 ≤ d) (x1 : Int32) (x2 : Int32) (M : jb_Mi) (N : jb_Ml) {v : Option Value} {σ2 : jb_S} {r : (Int32)} (h : zf_234 x1 x2 M = some r) (hK : (fun r : Int32 => v = some (.int r) ∧ σ2 = (zE L, M, N)) r) : jb_V Γ d zq_234 0 [some (.ref 79), some (.int x1), some (.int x2), none, none, none] [] (zE L, M, N) v σ2 := by
  obtain ⟨d, rfl⟩ : ∃ e, d = e + 1 := ⟨d - 1, by omega⟩
  unfold zf_234 at h
  refine jb_seg 2 (pc' := 2) (ls' := [some (.ref 79), some (.int x1), some (.int x2), none, none, none]) (st' := [(.int x1), (.ref 79)]) (σ' := (zE L, M, N)) (G := []) rfl trivial ?_
  obtain ⟨q1, h1, h⟩ := jb_bd_of h
  refine jb_callV (q' := zq_171) (As := [(.int x1)]) (rest := []) (σ1 := (zE L, M, N)) (v := some (.int (jb_b2i q1))) rfl rfl zp_171 rfl (Nat.le_of_ble_eq_true rfl) (jb_cat rfl) (Nat.le_of_ble_eq_true rfl) (Nat.le_of_ble_eq_true rfl) (Or.inl rfl) rfl (ze_171 (by omega) x1 M N h1) ?_
  refine jb_seg 1 (pc' := (if (jb_b2i q1) = 0 then 8 else 10)) (ls' := [some (.ref 79), some (.int x1), some (.int x2), none, none, none]) (st' := []) (σ' := (zE L, M, N)) (G := []) rfl trivial ?_
  refine jb_ite (fun c => ?_) (fun c => ?_)
  · replace h := (if_pos c).symm.trans h
    refine jb_seg 1 (pc' := 9) (ls' := [some (.ref 79), some (.int x1), some (.int x2), none, none, none]) (st' := [(.int (-1))]) (σ' := (zE L, M, N)) (G := []) rfl trivial ?_
    obtain rfl := Option.some.inj h
    obtain ⟨rfl, rfl⟩ := hK
    exact jb_reti rfl rfl
  · replace h := (if_neg c).symm.trans h
    refine jb_seg 6 (pc' := 18) (ls' := [some (.ref 79), some (.int x1), some (.int x2), some (.int 0), some (.int 0), some (.int 0)]) (st' := []) (σ' := (zE L, M, N)) (G := []) rfl trivial ?_
    exact jb_mask [true, true, true, true, true, true] rfl (zg_234_H18L hd x1 x2 M N h hK)
theorem ze_234 {Γ : jb_G} {L : Nat} {d : Nat} (hd : 4 ≤ d) (x1 : Int32) (x2 : Int32) (M : jb_Mi) (N : jb_Ml) {r : (Int32)} (h : zf_234 x1 x2 M = some r) : jb_V Γ d zq_234 0 (jb_en 6 [(.ref 79), (.int x1), (.int x2)]) [] (zE L, M, N) (some (.int r)) (zE L, M, N) := zg_234 hd x1 x2 M N h ⟨rfl, rfl⟩
-- X13_thingIs
set_option maxRecDepth 20000 in
theorem zg_235 {Γ : jb_G} {L : Nat} {d : Nat} (hd : 2 ≤ d) (x1 : Int32) (x2 : Int32) (M : jb_Mi) (N : jb_Ml) {v : Option Value} {σ2 : jb_S} {r : (Int32)} (h : zf_235 x1 x2 M = some r) (hK : (fun r : Int32 => v = some (.int r) ∧ σ2 = (zE L, M, N)) r) : jb_V Γ d zq_235 0 [some (.ref 79), some (.int x1), some (.int x2)] [] (zE L, M, N) v σ2 := by
  obtain ⟨d, rfl⟩ : ∃ e, d = e + 1 := ⟨d - 1, by omega⟩
  unfold zf_235 at h
  refine jb_seg 2 (pc' := 2) (ls' := [some (.ref 79), some (.int x1), some (.int x2)]) (st' := [(.int x1), (.ref 79)]) (σ' := (zE L, M, N)) (G := []) rfl trivial ?_
  obtain ⟨q1, h1, h⟩ := jb_bd_of h
  refine jb_callV (q' := zq_173) (As := [(.int x1)]) (rest := []) (σ1 := (zE L, M, N)) (v := some (.int (jb_b2i q1))) rfl rfl zp_173 rfl (Nat.le_of_ble_eq_true rfl) (jb_cat rfl) (Nat.le_of_ble_eq_true rfl) (Nat.le_of_ble_eq_true rfl) (Or.inl rfl) rfl (ze_173 (by omega) x1 M N h1) ?_
  refine jb_seg 1 (pc' := (if (jb_b2i q1) = 0 then 17 else 8)) (ls' := [some (.ref 79), some (.int x1), some (.int x2)]) (st' := []) (σ' := (zE L, M, N)) (G := []) rfl trivial ?_
  refine jb_ite (fun c => ?_) (fun c => ?_)
  · replace h := (if_pos c).symm.trans h
    refine jb_seg 1 (pc' := 18) (ls' := [some (.ref 79), some (.int x1), some (.int x2)]) (st' := [(.int (-1))]) (σ' := (zE L, M, N)) (G := []) rfl trivial ?_
    obtain rfl := Option.some.inj h
    obtain ⟨rfl, rfl⟩ := hK
    exact jb_reti rfl rfl
  · replace h := (if_neg c).symm.trans h
    refine jb_seg 3 (pc' := 11) (ls' := [some (.ref 79), some (.int x1), some (.int x2)]) (st' := [(.int 3), (.int 0), (.int x2)]) (σ' := (zE L, M, N)) (G := []) rfl trivial ?_
    refine jb_callS (q' := zq_164) (As := [(.int x2), (.int 0), (.int 3)]) (rest := []) (σ1 := (zE L, M, N)) (v := some (.int (jb_b2i (zf_164 x2 0 3)))) rfl (Nat.le_of_ble_eq_true rfl) rfl zp_164 (jb_cat rfl) (Nat.le_of_ble_eq_true rfl) (Nat.le_of_ble_eq_true rfl) (Or.inl rfl) rfl (ze_164 x2 0 3 M N rfl) ?_
    refine jb_seg 1 (pc' := (if (jb_b2i (zf_164 x2 0 3)) = 0 then 17 else 19)) (ls' := [some (.ref 79), some (.int x1), some (.int x2)]) (st' := []) (σ' := (zE L, M, N)) (G := []) rfl trivial ?_
    refine jb_ite (fun c => ?_) (fun c => ?_)
    · replace h := (if_pos c).symm.trans h
      refine jb_seg 1 (pc' := 18) (ls' := [some (.ref 79), some (.int x1), some (.int x2)]) (st' := [(.int (-1))]) (σ' := (zE L, M, N)) (G := []) rfl trivial ?_
      obtain rfl := Option.some.inj h
      obtain ⟨rfl, rfl⟩ := hK
      exact jb_reti rfl rfl
    · replace h := (if_neg c).symm.trans h
      obtain ⟨g2, h⟩ := jb_gd_of h
      refine jb_seg 10 (pc' := 33) (ls' := [some (.ref 79), some (.int x1), some (.int x2)]) (st' := [(.int (M 80 (((18 + (24 * x2)) + x1)).toNatClampNeg))]) (σ' := (zE L, M, N)) (G := [vp_in ((18 + (24 * x2)) + x1) 149]) rfl g2 ?_
      obtain rfl := Option.some.inj h
      obtain ⟨rfl, rfl⟩ := hK
      exact jb_reti rfl rfl
theorem ze_235 {Γ : jb_G} {L : Nat} {d : Nat} (hd : 2 ≤ d) (x1 : Int32) (x2 : Int32) (M : jb_Mi) (N : jb_Ml) {r : (Int32)} (h : zf_235 x1 x2 M = some r) : jb_V Γ d zq_235 0 (jb_en 3 [(.ref 79), (.int x1), (.int x2)]) [] (zE L, M, N) (some (.int r)) (zE L, M, N) := zg_235 hd x1 x2 M N h ⟨rfl, rfl⟩
-- X13_cornerOf
set_option maxRecDepth 20000 in
theorem zg_236_J30 {Γ : jb_G} {L : Nat} {d : Nat} (hd : 3 ≤ d) (x1 : Int32) (x2 : Int32) (x3 : Int32) (M : jb_Mi) (N : jb_Ml) {v : Option Value} {σ2 : jb_S} {r : ((Int32) ⊕ (Int32))} (h : zf_236_J30 x1 x2 x3 M = some r) (hK : (jb_K (fun s : Int32 => jb_V Γ d zq_236 2 [some (.ref 79), some (.int x1), some (.int x2), some (.int s)] [] (zE L, M, N) v σ2) (fun r : Int32 => v = some (.int r) ∧ σ2 = (zE L, M, N))) r) : jb_V Γ d zq_236 30 [some (.ref 79), some (.int x1), some (.int x2), some (.int x3)] [] (zE L, M, N) v σ2 := by
  obtain ⟨d, rfl⟩ : ∃ e, d = e + 1 := ⟨d - 1, by omega⟩
  unfold zf_236_J30 at h
  refine jb_seg 2 (pc' := 2) (ls' := [some (.ref 79), some (.int x1), some (.int x2), some (.int (x3 + 1))]) (st' := []) (σ' := (zE L, M, N)) (G := []) rfl trivial ?_
  obtain rfl := Option.some.inj h
  exact jb_mask [true, true, true, true] rfl hK
set_option maxRecDepth 20000 in
theorem zg_236_H2 {Γ : jb_G} {L : Nat} {d : Nat} (hd : 3 ≤ d) (x1 : Int32) (x2 : Int32) (M : jb_Mi) (N : jb_Ml) (s : Int32) {v : Option Value} {σ2 : jb_S} {r : ((Int32) ⊕ (Int32))} (h : zf_236_H2 x1 x2 M s = some r) (hK : (jb_K (fun s : Int32 => jb_V Γ d zq_236 2 [some (.ref 79), some (.int x1), some (.int x2), some (.int s)] [] (zE L, M, N) v σ2) (fun r : Int32 => v = some (.int r) ∧ σ2 = (zE L, M, N))) r) : jb_V Γ d zq_236 2 [some (.ref 79), some (.int x1), some (.int x2), some (.int s)] [] (zE L, M, N) v σ2 := by
  obtain ⟨d, rfl⟩ : ∃ e, d = e + 1 := ⟨d - 1, by omega⟩
  unfold zf_236_H2 at h
  refine jb_seg 3 (pc' := (if s < 24 then 8 else 36)) (ls' := [some (.ref 79), some (.int x1), some (.int x2), some (.int s)]) (st' := []) (σ' := (zE L, M, N)) (G := []) rfl trivial ?_
  refine jb_ite (fun c => ?_) (fun c => ?_)
  · replace h := (if_pos c).symm.trans h
    refine jb_seg 4 (pc' := 12) (ls' := [some (.ref 79), some (.int x1), some (.int x2), some (.int s)]) (st' := [(.int (s / 4)), (.ref 79)]) (σ' := (zE L, M, N)) (G := [¬ (4 : Int32) = 0]) rfl (show ¬ (4 : Int32) = 0 from (by decide)) ?_
    obtain ⟨q1, h1, h⟩ := jb_bd_of h
    refine jb_callV (q' := zq_172) (As := [(.int (s / 4))]) (rest := []) (σ1 := (zE L, M, N)) (v := some (.int (jb_b2i q1))) rfl rfl zp_172 rfl (Nat.le_of_ble_eq_true rfl) (jb_cat rfl) (Nat.le_of_ble_eq_true rfl) (Nat.le_of_ble_eq_true rfl) (Or.inl rfl) rfl (ze_172 (by omega) (s / 4) M N h1) ?_
    refine jb_seg 1 (pc' := (if (jb_b2i q1) = 0 then 30 else 18)) (ls' := [some (.ref 79), some (.int x1), some (.int x2), some (.int s)]) (st' := []) (σ' := (zE L, M, N)) (G := []) rfl trivial ?_
    refine jb_ite (fun c => ?_) (fun c => ?_)
    · replace h := (if_pos c).symm.trans h
      exact jb_mask [true, true, true, true] rfl (zg_236_J30 hd x1 x2 s M N h hK)
    · replace h := (if_neg c).symm.trans h
      refine jb_seg 3 (pc' := 21) (ls' := [some (.ref 79), some (.int x1), some (.int x2), some (.int s)]) (st' := [(.int x2), (.int s), (.ref 79)]) (σ' := (zE L, M, N)) (G := []) rfl trivial ?_
      obtain ⟨q2, h2, h⟩ := jb_bd_of h
      refine jb_callV (q' := zq_216) (As := [(.int s), (.int x2)]) (rest := []) (σ1 := (zE L, M, N)) (v := some (.int q2)) rfl rfl zp_216 rfl (Nat.le_of_ble_eq_true rfl) (jb_cat rfl) (Nat.le_of_ble_eq_true rfl) (Nat.le_of_ble_eq_true rfl) (Or.inl rfl) rfl (ze_216 (by omega) s x2 M N h2) ?_
      refine jb_seg 2 (pc' := (if q2 = x1 then 28 else 30)) (ls' := [some (.ref 79), some (.int x1), some (.int x2), some (.int s)]) (st' := []) (σ' := (zE L, M, N)) (G := []) rfl trivial ?_
      refine jb_ite (fun c => ?_) (fun c => ?_)
      · replace h := (if_pos c).symm.trans h
        refine jb_seg 1 (pc' := 29) (ls' := [some (.ref 79), some (.int x1), some (.int x2), some (.int s)]) (st' := [(.int s)]) (σ' := (zE L, M, N)) (G := []) rfl trivial ?_
        obtain rfl := Option.some.inj h
        obtain ⟨rfl, rfl⟩ := hK
        exact jb_reti rfl rfl
      · replace h := (if_neg c).symm.trans h
        exact jb_mask [true, true, true, true] rfl (zg_236_J30 hd x1 x2 s M N h hK)
  · replace h := (if_neg c).symm.trans h
    refine jb_seg 1 (pc' := 38) (ls' := [some (.ref 79), some (.int x1), some (.int x2), some (.int s)]) (st' := [(.int (-2))]) (σ' := (zE L, M, N)) (G := []) rfl trivial ?_
    obtain rfl := Option.some.inj h
    obtain ⟨rfl, rfl⟩ := hK
    exact jb_reti rfl rfl
theorem zg_236_H2L {Γ : jb_G} {L : Nat} {d : Nat} (hd : 3 ≤ d) (x1 : Int32) (x2 : Int32) (M : jb_Mi) (N : jb_Ml) {v : Option Value} {σ2 : jb_S} {s : Int32} {r : (Int32)} (h : jb_lp (zf_236_H2 x1 x2 M) s = some r) (hK : (fun r : Int32 => v = some (.int r) ∧ σ2 = (zE L, M, N)) r) : jb_V Γ d zq_236 2 [some (.ref 79), some (.int x1), some (.int x2), some (.int s)] [] (zE L, M, N) v σ2 := by
  exact @jb_lp_ind (Int32) ((Int32)) (zf_236_H2 x1 x2 M) (fun s => jb_V Γ d zq_236 2 [some (.ref 79), some (.int x1), some (.int x2), some (.int s)] [] (zE L, M, N) v σ2) (fun r : Int32 => v = some (.int r) ∧ σ2 = (zE L, M, N)) (fun s r h hk => zg_236_H2 hd x1 x2 M N s h hk) s r h hK
set_option maxRecDepth 20000 in
theorem zg_236 {Γ : jb_G} {L : Nat} {d : Nat} (hd : 3 ≤ d) (x1 : Int32) (x2 : Int32) (M : jb_Mi) (N : jb_Ml) {v : Option Value} {σ2 : jb_S} {r : (Int32)} (h : zf_236 x1 x2 M = some r) (hK : (fun r : Int32 => v = some (.int r) ∧ σ2 = (zE L, M, N)) r) : jb_V Γ d zq_236 0 [some (.ref 79), some (.int x1), some (.int x2), none] [] (zE L, M, N) v σ2 := by
  obtain ⟨d, rfl⟩ : ∃ e, d = e + 1 := ⟨d - 1, by omega⟩
  unfold zf_236 at h
  refine jb_seg 2 (pc' := 2) (ls' := [some (.ref 79), some (.int x1), some (.int x2), some (.int 0)]) (st' := []) (σ' := (zE L, M, N)) (G := []) rfl trivial ?_
  exact jb_mask [true, true, true, true] rfl (zg_236_H2L hd x1 x2 M N h hK)
theorem ze_236 {Γ : jb_G} {L : Nat} {d : Nat} (hd : 3 ≤ d) (x1 : Int32) (x2 : Int32) (M : jb_Mi) (N : jb_Ml) {r : (Int32)} (h : zf_236 x1 x2 M = some r) : jb_V Γ d zq_236 0 (jb_en 4 [(.ref 79), (.int x1), (.int x2)]) [] (zE L, M, N) (some (.int r)) (zE L, M, N) := zg_236 hd x1 x2 M N h ⟨rfl, rfl⟩
-- X13_cornersOf
set_option maxRecDepth 20000 in
theorem zg_237_J38 {Γ : jb_G} {L : Nat} {d : Nat} (hd : 3 ≤ d) (x1 : Int32) (x2 : Int32) (x3 : Int32) (x4 : Int32) (M : jb_Mi) (N : jb_Ml) {v : Option Value} {σ2 : jb_S} {r : ((Int32 × Int32) ⊕ (Int32))} (h : zf_237_J38 x1 x2 x3 x4 M = some r) (hK : (jb_K (fun s : Int32 × Int32 => jb_V Γ d zq_237 5 [some (.ref 79), some (.int x1), some (.int x2), some (.int s.1), some (.int s.2)] [] (zE L, M, N) v σ2) (fun r : Int32 => v = some (.int r) ∧ σ2 = (zE L, M, N))) r) : jb_V Γ d zq_237 38 [some (.ref 79), some (.int x1), some (.int x2), some (.int x3), some (.int x4)] [] (zE L, M, N) v σ2 := by
  obtain ⟨d, rfl⟩ : ∃ e, d = e + 1 := ⟨d - 1, by omega⟩
  unfold zf_237_J38 at h
  refine jb_seg 2 (pc' := 5) (ls' := [some (.ref 79), some (.int x1), some (.int x2), some (.int x3), some (.int (x4 + 1))]) (st' := []) (σ' := (zE L, M, N)) (G := []) rfl trivial ?_
  obtain rfl := Option.some.inj h
  exact jb_mask [true, true, true, true, true] rfl hK
set_option maxRecDepth 20000 in
theorem zg_237_H5 {Γ : jb_G} {L : Nat} {d : Nat} (hd : 3 ≤ d) (x1 : Int32) (x2 : Int32) (M : jb_Mi) (N : jb_Ml) (s : Int32 × Int32) {v : Option Value} {σ2 : jb_S} {r : ((Int32 × Int32) ⊕ (Int32))} (h : zf_237_H5 x1 x2 M s = some r) (hK : (jb_K (fun s : Int32 × Int32 => jb_V Γ d zq_237 5 [some (.ref 79), some (.int x1), some (.int x2), some (.int s.1), some (.int s.2)] [] (zE L, M, N) v σ2) (fun r : Int32 => v = some (.int r) ∧ σ2 = (zE L, M, N))) r) : jb_V Γ d zq_237 5 [some (.ref 79), some (.int x1), some (.int x2), some (.int s.1), some (.int s.2)] [] (zE L, M, N) v σ2 := by
  obtain ⟨d, rfl⟩ : ∃ e, d = e + 1 := ⟨d - 1, by omega⟩
  unfold zf_237_H5 at h
  refine jb_seg 3 (pc' := (if s.2 < 24 then 12 else 44)) (ls' := [some (.ref 79), some (.int x1), some (.int x2), some (.int s.1), some (.int s.2)]) (st' := []) (σ' := (zE L, M, N)) (G := []) rfl trivial ?_
  refine jb_ite (fun c => ?_) (fun c => ?_)
  · replace h := (if_pos c).symm.trans h
    refine jb_seg 4 (pc' := 17) (ls' := [some (.ref 79), some (.int x1), some (.int x2), some (.int s.1), some (.int s.2)]) (st' := [(.int (s.2 / 4)), (.ref 79)]) (σ' := (zE L, M, N)) (G := [¬ (4 : Int32) = 0]) rfl (show ¬ (4 : Int32) = 0 from (by decide)) ?_
    obtain ⟨q1, h1, h⟩ := jb_bd_of h
    refine jb_callV (q' := zq_172) (As := [(.int (s.2 / 4))]) (rest := []) (σ1 := (zE L, M, N)) (v := some (.int (jb_b2i q1))) rfl rfl zp_172 rfl (Nat.le_of_ble_eq_true rfl) (jb_cat rfl) (Nat.le_of_ble_eq_true rfl) (Nat.le_of_ble_eq_true rfl) (Or.inl rfl) rfl (ze_172 (by omega) (s.2 / 4) M N h1) ?_
    refine jb_seg 1 (pc' := (if (jb_b2i q1) = 0 then 38 else 23)) (ls' := [some (.ref 79), some (.int x1), some (.int x2), some (.int s.1), some (.int s.2)]) (st' := []) (σ' := (zE L, M, N)) (G := []) rfl trivial ?_
    refine jb_ite (fun c => ?_) (fun c => ?_)
    · replace h := (if_pos c).symm.trans h
      exact jb_mask [true, true, true, true, true] rfl (zg_237_J38 hd x1 x2 s.1 s.2 M N h hK)
    · replace h := (if_neg c).symm.trans h
      refine jb_seg 3 (pc' := 27) (ls' := [some (.ref 79), some (.int x1), some (.int x2), some (.int s.1), some (.int s.2)]) (st' := [(.int x2), (.int s.2), (.ref 79)]) (σ' := (zE L, M, N)) (G := []) rfl trivial ?_
      obtain ⟨q2, h2, h⟩ := jb_bd_of h
      refine jb_callV (q' := zq_216) (As := [(.int s.2), (.int x2)]) (rest := []) (σ1 := (zE L, M, N)) (v := some (.int q2)) rfl rfl zp_216 rfl (Nat.le_of_ble_eq_true rfl) (jb_cat rfl) (Nat.le_of_ble_eq_true rfl) (Nat.le_of_ble_eq_true rfl) (Or.inl rfl) rfl (ze_216 (by omega) s.2 x2 M N h2) ?_
      refine jb_seg 2 (pc' := (if q2 = x1 then 34 else 38)) (ls' := [some (.ref 79), some (.int x1), some (.int x2), some (.int s.1), some (.int s.2)]) (st' := []) (σ' := (zE L, M, N)) (G := []) rfl trivial ?_
      refine jb_ite (fun c => ?_) (fun c => ?_)
      · replace h := (if_pos c).symm.trans h
        refine jb_seg 4 (pc' := 38) (ls' := [some (.ref 79), some (.int x1), some (.int x2), some (.int (s.1 + 1)), some (.int s.2)]) (st' := []) (σ' := (zE L, M, N)) (G := []) rfl trivial ?_
        exact jb_mask [true, true, true, true, true] rfl (zg_237_J38 hd x1 x2 (s.1 + 1) s.2 M N h hK)
      · replace h := (if_neg c).symm.trans h
        exact jb_mask [true, true, true, true, true] rfl (zg_237_J38 hd x1 x2 s.1 s.2 M N h hK)
  · replace h := (if_neg c).symm.trans h
    refine jb_seg 1 (pc' := 45) (ls' := [some (.ref 79), some (.int x1), some (.int x2), some (.int s.1), some (.int s.2)]) (st' := [(.int s.1)]) (σ' := (zE L, M, N)) (G := []) rfl trivial ?_
    obtain rfl := Option.some.inj h
    obtain ⟨rfl, rfl⟩ := hK
    exact jb_reti rfl rfl
theorem zg_237_H5L {Γ : jb_G} {L : Nat} {d : Nat} (hd : 3 ≤ d) (x1 : Int32) (x2 : Int32) (M : jb_Mi) (N : jb_Ml) {v : Option Value} {σ2 : jb_S} {s : Int32 × Int32} {r : (Int32)} (h : jb_lp (zf_237_H5 x1 x2 M) s = some r) (hK : (fun r : Int32 => v = some (.int r) ∧ σ2 = (zE L, M, N)) r) : jb_V Γ d zq_237 5 [some (.ref 79), some (.int x1), some (.int x2), some (.int s.1), some (.int s.2)] [] (zE L, M, N) v σ2 := by
  exact @jb_lp_ind (Int32 × Int32) ((Int32)) (zf_237_H5 x1 x2 M) (fun s => jb_V Γ d zq_237 5 [some (.ref 79), some (.int x1), some (.int x2), some (.int s.1), some (.int s.2)] [] (zE L, M, N) v σ2) (fun r : Int32 => v = some (.int r) ∧ σ2 = (zE L, M, N)) (fun s r h hk => zg_237_H5 hd x1 x2 M N s h hk) s r h hK
set_option maxRecDepth 20000 in
theorem zg_237 {Γ : jb_G} {L : Nat} {d : Nat} (hd : 3 ≤ d) (x1 : Int32) (x2 : Int32) (M : jb_Mi) (N : jb_Ml) {v : Option Value} {σ2 : jb_S} {r : (Int32)} (h : zf_237 x1 x2 M = some r) (hK : (fun r : Int32 => v = some (.int r) ∧ σ2 = (zE L, M, N)) r) : jb_V Γ d zq_237 0 [some (.ref 79), some (.int x1), some (.int x2), none, none] [] (zE L, M, N) v σ2 := by
  obtain ⟨d, rfl⟩ : ∃ e, d = e + 1 := ⟨d - 1, by omega⟩
  unfold zf_237 at h
  refine jb_seg 4 (pc' := 5) (ls' := [some (.ref 79), some (.int x1), some (.int x2), some (.int 0), some (.int 0)]) (st' := []) (σ' := (zE L, M, N)) (G := []) rfl trivial ?_
  exact jb_mask [true, true, true, true, true] rfl (zg_237_H5L hd x1 x2 M N h hK)
theorem ze_237 {Γ : jb_G} {L : Nat} {d : Nat} (hd : 3 ≤ d) (x1 : Int32) (x2 : Int32) (M : jb_Mi) (N : jb_Ml) {r : (Int32)} (h : zf_237 x1 x2 M = some r) : jb_V Γ d zq_237 0 (jb_en 5 [(.ref 79), (.int x1), (.int x2)]) [] (zE L, M, N) (some (.int r)) (zE L, M, N) := zg_237 hd x1 x2 M N h ⟨rfl, rfl⟩
-- X13_manIs
set_option maxRecDepth 20000 in
theorem zg_238_J123 {Γ : jb_G} {L : Nat} {d : Nat} (hd : 4 ≤ d) (x1 : Int32) (x2 : Int32) (x3 : Int32) (x4 : Int32) (x5 : Int32) (M : jb_Mi) (N : jb_Ml) {v : Option Value} {σ2 : jb_S} {r : ((Int32 × Int32 × Int32) ⊕ (Int32))} (h : zf_238_J123 x1 x2 x3 x4 x5 M = some r) (hK : (jb_K (fun s : Int32 × Int32 × Int32 => jb_V Γ d zq_238 71 [some (.ref 79), some (.int x1), some (.int x2), some (.int s.1), some (.int s.2.1), some (.int s.2.2), none] [] (zE L, M, N) v σ2) (fun r : Int32 => v = some (.int r) ∧ σ2 = (zE L, M, N))) r) : jb_V Γ d zq_238 123 [some (.ref 79), some (.int x1), some (.int x2), some (.int x3), some (.int x4), some (.int x5), none] [] (zE L, M, N) v σ2 := by
  obtain ⟨d, rfl⟩ : ∃ e, d = e + 1 := ⟨d - 1, by omega⟩
  unfold zf_238_J123 at h
  refine jb_seg 2 (pc' := 71) (ls' := [some (.ref 79), some (.int x1), some (.int x2), some (.int x3), some (.int x4), some (.int (x5 + 1)), none]) (st' := []) (σ' := (zE L, M, N)) (G := []) rfl trivial ?_
  obtain rfl := Option.some.inj h
  exact jb_mask [true, true, true, true, true, true, false] rfl hK
set_option maxRecDepth 20000 in
theorem zg_238_J108 {Γ : jb_G} {L : Nat} {d : Nat} (hd : 4 ≤ d) (x1 : Int32) (x2 : Int32) (x3 : Int32) (x4 : Int32) (x5 : Int32) (M : jb_Mi) (N : jb_Ml) {v : Option Value} {σ2 : jb_S} {r : ((Int32 × Int32 × Int32) ⊕ (Int32))} (h : zf_238_J108 x1 x2 x3 x4 x5 M = some r) (hK : (jb_K (fun s : Int32 × Int32 × Int32 => jb_V Γ d zq_238 71 [some (.ref 79), some (.int x1), some (.int x2), some (.int s.1), some (.int s.2.1), some (.int s.2.2), none] [] (zE L, M, N) v σ2) (fun r : Int32 => v = some (.int r) ∧ σ2 = (zE L, M, N))) r) : jb_V Γ d zq_238 108 [some (.ref 79), some (.int x1), some (.int x2), some (.int x3), some (.int x4), some (.int x5), none] [] (zE L, M, N) v σ2 := by
  obtain ⟨d, rfl⟩ : ∃ e, d = e + 1 := ⟨d - 1, by omega⟩
  unfold zf_238_J108 at h
  refine jb_seg 3 (pc' := 112) (ls' := [some (.ref 79), some (.int x1), some (.int x2), some (.int x3), some (.int x4), some (.int x5), none]) (st' := [(.int x5), (.int x1), (.ref 79)]) (σ' := (zE L, M, N)) (G := []) rfl trivial ?_
  obtain ⟨q6, h6, h⟩ := jb_bd_of h
  refine jb_callV (q' := zq_237) (As := [(.int x1), (.int x5)]) (rest := []) (σ1 := (zE L, M, N)) (v := some (.int q6)) rfl rfl zp_237 rfl (Nat.le_of_ble_eq_true rfl) (jb_cat rfl) (Nat.le_of_ble_eq_true rfl) (Nat.le_of_ble_eq_true rfl) (Or.inl rfl) rfl (ze_237 (by omega) x1 x5 M N h6) ?_
  refine jb_seg 2 (pc' := (if 1 < q6 then 119 else 123)) (ls' := [some (.ref 79), some (.int x1), some (.int x2), some (.int x3), some (.int x4), some (.int x5), none]) (st' := []) (σ' := (zE L, M, N)) (G := []) rfl trivial ?_
  refine jb_ite (fun c => ?_) (fun c => ?_)
  · replace h := (if_pos c).symm.trans h
    refine jb_seg 4 (pc' := 123) (ls' := [some (.ref 79), some (.int x1), some (.int x2), some (.int (x3 + 1)), some (.int x4), some (.int x5), none]) (st' := []) (σ' := (zE L, M, N)) (G := []) rfl trivial ?_
    exact jb_mask [true, true, true, true, true, true, false] rfl (zg_238_J123 hd x1 x2 (x3 + 1) x4 x5 M N h hK)
  · replace h := (if_neg c).symm.trans h
    exact jb_mask [true, true, true, true, true, true, false] rfl (zg_238_J123 hd x1 x2 x3 x4 x5 M N h hK)
set_option maxRecDepth 20000 in
theorem zg_238_H71 {Γ : jb_G} {L : Nat} {d : Nat} (hd : 4 ≤ d) (x1 : Int32) (x2 : Int32) (M : jb_Mi) (N : jb_Ml) (s : Int32 × Int32 × Int32) {v : Option Value} {σ2 : jb_S} {r : ((Int32 × Int32 × Int32) ⊕ (Int32))} (h : zf_238_H71 x1 x2 M s = some r) (hK : (jb_K (fun s : Int32 × Int32 × Int32 => jb_V Γ d zq_238 71 [some (.ref 79), some (.int x1), some (.int x2), some (.int s.1), some (.int s.2.1), some (.int s.2.2), none] [] (zE L, M, N) v σ2) (fun r : Int32 => v = some (.int r) ∧ σ2 = (zE L, M, N))) r) : jb_V Γ d zq_238 71 [some (.ref 79), some (.int x1), some (.int x2), some (.int s.1), some (.int s.2.1), some (.int s.2.2), none] [] (zE L, M, N) v σ2 := by
  obtain ⟨d, rfl⟩ : ∃ e, d = e + 1 := ⟨d - 1, by omega⟩
  unfold zf_238_H71 at h
  refine jb_seg 3 (pc' := (if s.2.2 < 24 then 78 else 129)) (ls' := [some (.ref 79), some (.int x1), some (.int x2), some (.int s.1), some (.int s.2.1), some (.int s.2.2), none]) (st' := []) (σ' := (zE L, M, N)) (G := []) rfl trivial ?_
  refine jb_ite (fun c => ?_) (fun c => ?_)
  · replace h := (if_pos c).symm.trans h
    refine jb_seg 3 (pc' := 82) (ls' := [some (.ref 79), some (.int x1), some (.int x2), some (.int s.1), some (.int s.2.1), some (.int s.2.2), none]) (st' := [(.int s.2.2), (.int x1), (.ref 79)]) (σ' := (zE L, M, N)) (G := []) rfl trivial ?_
    obtain ⟨q5, h5, h⟩ := jb_bd_of h
    refine jb_callV (q' := zq_236) (As := [(.int x1), (.int s.2.2)]) (rest := []) (σ1 := (zE L, M, N)) (v := some (.int q5)) rfl rfl zp_236 rfl (Nat.le_of_ble_eq_true rfl) (jb_cat rfl) (Nat.le_of_ble_eq_true rfl) (Nat.le_of_ble_eq_true rfl) (Or.inl rfl) rfl (ze_236 (by omega) x1 s.2.2 M N h5) ?_
    refine jb_seg 3 (pc' := (if q5 < 0 then 108 else 92)) (ls' := [some (.ref 79), some (.int x1), some (.int x2), some (.int s.1), some (.int s.2.1), some (.int s.2.2), some (.int q5)]) (st' := []) (σ' := (zE L, M, N)) (G := []) rfl trivial ?_
    refine jb_ite (fun c => ?_) (fun c => ?_)
    · replace h := (if_pos c).symm.trans h
      exact jb_mask [true, true, true, true, true, true, false] rfl (zg_238_J108 hd x1 x2 s.1 s.2.1 s.2.2 M N h hK)
    · replace h := (if_neg c).symm.trans h
      obtain ⟨g7, h⟩ := jb_gd_of h
      refine jb_seg 11 (pc' := 108) (ls' := [some (.ref 79), some (.int x1), some (.int x2), some (.int s.1), some (.int (s.2.1 + (M 80 ((0 + (q5 / 4))).toNatClampNeg))), some (.int s.2.2), some (.int q5)]) (st' := []) (σ' := (zE L, M, N)) (G := [¬ (4 : Int32) = 0, vp_in (0 + (q5 / 4)) 149]) rfl ⟨(show ¬ (4 : Int32) = 0 from (by decide)), g7⟩ ?_
      exact jb_mask [true, true, true, true, true, true, false] rfl (zg_238_J108 hd x1 x2 s.1 (s.2.1 + (M 80 ((0 + (q5 / 4))).toNatClampNeg)) s.2.2 M N h hK)
  · replace h := (if_neg c).symm.trans h
    refine jb_seg 3 (pc' := (if x2 = 3 then 134 else 138)) (ls' := [some (.ref 79), some (.int x1), some (.int x2), some (.int s.1), some (.int s.2.1), some (.int s.2.2), none]) (st' := []) (σ' := (zE L, M, N)) (G := []) rfl trivial ?_
    refine jb_ite (fun c => ?_) (fun c => ?_)
    · replace h := (if_pos c).symm.trans h
      refine jb_seg 2 (pc' := 140) (ls' := [some (.ref 79), some (.int x1), some (.int x2), some (.int s.1), some (.int s.2.1), some (.int s.2.2), none]) (st' := [(.int s.1)]) (σ' := (zE L, M, N)) (G := []) rfl trivial ?_
      obtain rfl := Option.some.inj h
      obtain ⟨rfl, rfl⟩ := hK
      exact jb_reti rfl rfl
    · replace h := (if_neg c).symm.trans h
      refine jb_seg 1 (pc' := 140) (ls' := [some (.ref 79), some (.int x1), some (.int x2), some (.int s.1), some (.int s.2.1), some (.int s.2.2), none]) (st' := [(.int s.2.1)]) (σ' := (zE L, M, N)) (G := []) rfl trivial ?_
      obtain rfl := Option.some.inj h
      obtain ⟨rfl, rfl⟩ := hK
      exact jb_reti rfl rfl
theorem zg_238_H71L {Γ : jb_G} {L : Nat} {d : Nat} (hd : 4 ≤ d) (x1 : Int32) (x2 : Int32) (M : jb_Mi) (N : jb_Ml) {v : Option Value} {σ2 : jb_S} {s : Int32 × Int32 × Int32} {r : (Int32)} (h : jb_lp (zf_238_H71 x1 x2 M) s = some r) (hK : (fun r : Int32 => v = some (.int r) ∧ σ2 = (zE L, M, N)) r) : jb_V Γ d zq_238 71 [some (.ref 79), some (.int x1), some (.int x2), some (.int s.1), some (.int s.2.1), some (.int s.2.2), none] [] (zE L, M, N) v σ2 := by
  exact @jb_lp_ind (Int32 × Int32 × Int32) ((Int32)) (zf_238_H71 x1 x2 M) (fun s => jb_V Γ d zq_238 71 [some (.ref 79), some (.int x1), some (.int x2), some (.int s.1), some (.int s.2.1), some (.int s.2.2), none] [] (zE L, M, N) v σ2) (fun r : Int32 => v = some (.int r) ∧ σ2 = (zE L, M, N)) (fun s r h hk => zg_238_H71 hd x1 x2 M N s h hk) s r h hK
set_option maxRecDepth 20000 in
theorem zg_238 {Γ : jb_G} {L : Nat} {d : Nat} (hd : 4 ≤ d) (x1 : Int32) (x2 : Int32) (M : jb_Mi) (N : jb_Ml) {v : Option Value} {σ2 : jb_S} {r : (Int32)} (h : zf_238 x1 x2 M = some r) (hK : (fun r : Int32 => v = some (.int r) ∧ σ2 = (zE L, M, N)) r) : jb_V Γ d zq_238 0 [some (.ref 79), some (.int x1), some (.int x2), none, none, none, none] [] (zE L, M, N) v σ2 := by
  obtain ⟨d, rfl⟩ : ∃ e, d = e + 1 := ⟨d - 1, by omega⟩
  unfold zf_238 at h
  refine jb_seg 2 (pc' := 2) (ls' := [some (.ref 79), some (.int x1), some (.int x2), none, none, none, none]) (st' := [(.int x1), (.ref 79)]) (σ' := (zE L, M, N)) (G := []) rfl trivial ?_
  obtain ⟨q1, h1, h⟩ := jb_bd_of h
  refine jb_callV (q' := zq_174) (As := [(.int x1)]) (rest := []) (σ1 := (zE L, M, N)) (v := some (.int (jb_b2i q1))) rfl rfl zp_174 rfl (Nat.le_of_ble_eq_true rfl) (jb_cat rfl) (Nat.le_of_ble_eq_true rfl) (Nat.le_of_ble_eq_true rfl) (Or.inl rfl) rfl (ze_174 (by omega) x1 M N h1) ?_
  refine jb_seg 1 (pc' := (if (jb_b2i q1) = 0 then 17 else 8)) (ls' := [some (.ref 79), some (.int x1), some (.int x2), none, none, none, none]) (st' := []) (σ' := (zE L, M, N)) (G := []) rfl trivial ?_
  refine jb_ite (fun c => ?_) (fun c => ?_)
  · replace h := (if_pos c).symm.trans h
    refine jb_seg 1 (pc' := 18) (ls' := [some (.ref 79), some (.int x1), some (.int x2), none, none, none, none]) (st' := [(.int (-1))]) (σ' := (zE L, M, N)) (G := []) rfl trivial ?_
    obtain rfl := Option.some.inj h
    obtain ⟨rfl, rfl⟩ := hK
    exact jb_reti rfl rfl
  · replace h := (if_neg c).symm.trans h
    refine jb_seg 3 (pc' := 11) (ls' := [some (.ref 79), some (.int x1), some (.int x2), none, none, none, none]) (st' := [(.int 4), (.int 0), (.int x2)]) (σ' := (zE L, M, N)) (G := []) rfl trivial ?_
    refine jb_callS (q' := zq_164) (As := [(.int x2), (.int 0), (.int 4)]) (rest := []) (σ1 := (zE L, M, N)) (v := some (.int (jb_b2i (zf_164 x2 0 4)))) rfl (Nat.le_of_ble_eq_true rfl) rfl zp_164 (jb_cat rfl) (Nat.le_of_ble_eq_true rfl) (Nat.le_of_ble_eq_true rfl) (Or.inl rfl) rfl (ze_164 x2 0 4 M N rfl) ?_
    refine jb_seg 1 (pc' := (if (jb_b2i (zf_164 x2 0 4)) = 0 then 17 else 19)) (ls' := [some (.ref 79), some (.int x1), some (.int x2), none, none, none, none]) (st' := []) (σ' := (zE L, M, N)) (G := []) rfl trivial ?_
    refine jb_ite (fun c => ?_) (fun c => ?_)
    · replace h := (if_pos c).symm.trans h
      refine jb_seg 1 (pc' := 18) (ls' := [some (.ref 79), some (.int x1), some (.int x2), none, none, none, none]) (st' := [(.int (-1))]) (σ' := (zE L, M, N)) (G := []) rfl trivial ?_
      obtain rfl := Option.some.inj h
      obtain ⟨rfl, rfl⟩ := hK
      exact jb_reti rfl rfl
    · replace h := (if_neg c).symm.trans h
      refine jb_seg 3 (pc' := (if x2 < 2 then 24 else 51)) (ls' := [some (.ref 79), some (.int x1), some (.int x2), none, none, none, none]) (st' := []) (σ' := (zE L, M, N)) (G := []) rfl trivial ?_
      refine jb_ite (fun c => ?_) (fun c => ?_)
      · replace h := (if_pos c).symm.trans h
        refine jb_seg 2 (pc' := (if x2 = 0 then 28 else 40)) (ls' := [some (.ref 79), some (.int x1), some (.int x2), none, none, none, none]) (st' := []) (σ' := (zE L, M, N)) (G := []) rfl trivial ?_
        refine jb_ite (fun c => ?_) (fun c => ?_)
        · replace h := (if_pos c).symm.trans h
          obtain ⟨g2, h⟩ := jb_gd_of h
          refine jb_seg 7 (pc' := 50) (ls' := [some (.ref 79), some (.int x1), some (.int x2), none, none, none, none]) (st' := [(.int (M 80 ((114 + x1)).toNatClampNeg))]) (σ' := (zE L, M, N)) (G := [vp_in (114 + x1) 149]) rfl g2 ?_
          obtain rfl := Option.some.inj h
          obtain ⟨rfl, rfl⟩ := hK
          exact jb_reti rfl rfl
        · replace h := (if_neg c).symm.trans h
          obtain ⟨g3, h⟩ := jb_gd_of h
          refine jb_seg 6 (pc' := 50) (ls' := [some (.ref 79), some (.int x1), some (.int x2), none, none, none, none]) (st' := [(.int (M 80 ((130 + x1)).toNatClampNeg))]) (σ' := (zE L, M, N)) (G := [vp_in (130 + x1) 149]) rfl g3 ?_
          obtain rfl := Option.some.inj h
          obtain ⟨rfl, rfl⟩ := hK
          exact jb_reti rfl rfl
      · replace h := (if_neg c).symm.trans h
        refine jb_seg 3 (pc' := (if x2 = 2 then 56 else 63)) (ls' := [some (.ref 79), some (.int x1), some (.int x2), none, none, none, none]) (st' := []) (σ' := (zE L, M, N)) (G := []) rfl trivial ?_
        refine jb_ite (fun c => ?_) (fun c => ?_)
        · replace h := (if_pos c).symm.trans h
          refine jb_seg 3 (pc' := 59) (ls' := [some (.ref 79), some (.int x1), some (.int x2), none, none, none, none]) (st' := [(.int 0), (.int x1), (.ref 79)]) (σ' := (zE L, M, N)) (G := []) rfl trivial ?_
          obtain ⟨q4, h4, h⟩ := jb_bd_of h
          refine jb_callV (q' := zq_236) (As := [(.int x1), (.int 0)]) (rest := []) (σ1 := (zE L, M, N)) (v := some (.int q4)) rfl rfl zp_236 rfl (Nat.le_of_ble_eq_true rfl) (jb_cat rfl) (Nat.le_of_ble_eq_true rfl) (Nat.le_of_ble_eq_true rfl) (Or.inl rfl) rfl (ze_236 (by omega) x1 0 M N h4) ?_
          obtain rfl := Option.some.inj h
          obtain ⟨rfl, rfl⟩ := hK
          exact jb_reti rfl rfl
        · replace h := (if_neg c).symm.trans h
          refine jb_seg 6 (pc' := 71) (ls' := [some (.ref 79), some (.int x1), some (.int x2), some (.int 0), some (.int 0), some (.int 0), none]) (st' := []) (σ' := (zE L, M, N)) (G := []) rfl trivial ?_
          exact jb_mask [true, true, true, true, true, true, false] rfl (zg_238_H71L hd x1 x2 M N h hK)
theorem ze_238 {Γ : jb_G} {L : Nat} {d : Nat} (hd : 4 ≤ d) (x1 : Int32) (x2 : Int32) (M : jb_Mi) (N : jb_Ml) {r : (Int32)} (h : zf_238 x1 x2 M = some r) : jb_V Γ d zq_238 0 (jb_en 7 [(.ref 79), (.int x1), (.int x2)]) [] (zE L, M, N) (some (.int r)) (zE L, M, N) := zg_238 hd x1 x2 M N h ⟨rfl, rfl⟩
