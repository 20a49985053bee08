-- X12_orders
noncomputable def zf_132 (x1 : Int32) (M : jb_Mi) : Option (Int32 × jb_Mi) :=
  if (jb_b2i (zf_23 x1 1 120)) = 0 then some ((-1), M) else if (jb_b2i (zf_116 x1 M)) = 0 then some ((-1), M) else (zf_93 (zf_102 24 4 (zf_117 x1 M))).bind fun q1 => if 0 < q1.1 then some (q1.1, (zf_102 4 24 (zf_117 0 q1.2))) else some (q1.1, (zf_117 0 q1.2))
set_option maxRecDepth 4000 in
theorem zg_132 {Γ : jb_G} {L : Nat} {d : Nat} (hd : 5 ≤ d) (x1 : Int32) (M : jb_Mi) (N : jb_Ml) {v : Option Value} {σ2 : jb_S} {r : (Int32 × jb_Mi)} (h : zf_132 x1 M = some r) (hK : (fun r : Int32 × jb_Mi => v = some (.int r.1) ∧ σ2 = (zE L, r.2, N)) r) : jb_V Γ d zq_132 0 [some (.ref 1), some (.int x1), none] [] (zE L, M, N) v σ2 := by
  obtain ⟨d, rfl⟩ : ∃ e, d = e + 1 := ⟨d - 1, by omega⟩
  unfold zf_132 at h
  refine jb_seg 3 (pc' := 4) (ls' := [some (.ref 1), some (.int x1), none]) (st' := [(.int 120), (.int 1), (.int x1)]) (σ' := (zE L, M, N)) (G := []) rfl trivial ?_
  refine jb_callS (q' := zq_23) (As := [(.int x1), (.int 1), (.int 120)]) (rest := []) (σ1 := (zE L, M, N)) (v := some (.int (jb_b2i (zf_23 x1 1 120)))) rfl (by decide) rfl zp_23 (jb_cat rfl) (Nat.le_of_ble_eq_true rfl) (Nat.le_of_ble_eq_true rfl) (Or.inl rfl) rfl (ze_23 x1 1 120 M N rfl) ?_
  refine jb_seg 1 (pc' := (if (jb_b2i (zf_23 x1 1 120)) = 0 then 21 else 10)) (ls' := [some (.ref 1), some (.int x1), none]) (st' := []) (σ' := (zE L, M, N)) (G := []) rfl trivial ?_
  refine jb_ite (fun c => ?_) (fun c => ?_)
  · rw [if_pos c] at h
    refine jb_seg 1 (pc' := 22) (ls' := [some (.ref 1), some (.int x1), none]) (st' := [(.int (-1))]) (σ' := (zE L, M, N)) (G := []) rfl trivial ?_
    cases h
    obtain ⟨rfl, rfl⟩ := hK
    exact jb_reti rfl rfl
  · rw [if_neg c] at h
    refine jb_seg 3 (pc' := 15) (ls' := [some (.ref 1), some (.int x1), none]) (st' := [(.int x1), (.ref 2)]) (σ' := (zE L, M, N)) (G := []) rfl trivial ?_
    refine jb_callV (q' := zq_116) (As := [(.int x1)]) (rest := []) (σ1 := (zE L, M, N)) (v := some (.int (jb_b2i (zf_116 x1 M)))) rfl rfl zp_116 rfl (by decide) (jb_cat rfl) (Nat.le_of_ble_eq_true rfl) (Nat.le_of_ble_eq_true rfl) (Or.inl rfl) rfl (ze_116 x1 M N rfl) ?_
    refine jb_seg 1 (pc' := (if (jb_b2i (zf_116 x1 M)) = 0 then 21 else 23)) (ls' := [some (.ref 1), some (.int x1), none]) (st' := []) (σ' := (zE L, M, N)) (G := []) rfl trivial ?_
    refine jb_ite (fun c => ?_) (fun c => ?_)
    · rw [if_pos c] at h
      refine jb_seg 1 (pc' := 22) (ls' := [some (.ref 1), some (.int x1), none]) (st' := [(.int (-1))]) (σ' := (zE L, M, N)) (G := []) rfl trivial ?_
      cases h
      obtain ⟨rfl, rfl⟩ := hK
      exact jb_reti rfl rfl
    · rw [if_neg c] at h
      refine jb_seg 3 (pc' := 28) (ls' := [some (.ref 1), some (.int x1), none]) (st' := [(.int x1), (.ref 2)]) (σ' := (zE L, M, N)) (G := []) rfl trivial ?_
      refine jb_callV (q' := zq_117) (As := [(.int x1)]) (rest := []) (σ1 := (zE L, (zf_117 x1 M), N)) (v := none) rfl rfl zp_117 rfl (by decide) (jb_cat rfl) (Nat.le_of_ble_eq_true rfl) (Nat.le_of_ble_eq_true rfl) (Or.inl rfl) rfl (ze_117 (by omega) x1 M N rfl) ?_
      refine jb_seg 4 (pc' := 39) (ls' := [some (.ref 1), some (.int x1), none]) (st' := [(.ref 4), (.ref 24)]) (σ' := (zE L, (zf_117 x1 M), N)) (G := []) rfl trivial ?_
      refine jb_callV (q' := zq_102) (As := [(.ref 4)]) (rest := []) (σ1 := (zE L, (zf_102 24 4 (zf_117 x1 M)), N)) (v := none) rfl rfl zp_102 rfl (by decide) (jb_cat rfl) (Nat.le_of_ble_eq_true rfl) (Nat.le_of_ble_eq_true rfl) (Or.inl rfl) rfl (ze_102 (by omega) 24 4 (zf_117 x1 M) N (by decide) rfl) ?_
      refine jb_seg 2 (pc' := 46) (ls' := [some (.ref 1), some (.int x1), none]) (st' := [(.ref 43)]) (σ' := (zE L, (zf_102 24 4 (zf_117 x1 M)), N)) (G := []) rfl trivial ?_
      obtain ⟨q1, h1, h⟩ := jb_bd_of h
      refine jb_callV (q' := zq_93) (As := []) (rest := []) (σ1 := (zE L, q1.2, N)) (v := some (.int q1.1)) rfl rfl zp_93 rfl (by decide) (jb_cat rfl) (Nat.le_of_ble_eq_true rfl) (Nat.le_of_ble_eq_true rfl) (Or.inl rfl) rfl (ze_93 (by omega) (zf_102 24 4 (zf_117 x1 M)) N h1) ?_
      refine jb_seg 4 (pc' := 55) (ls' := [some (.ref 1), some (.int x1), some (.int q1.1)]) (st' := [(.int 0), (.ref 2)]) (σ' := (zE L, q1.2, N)) (G := []) rfl trivial ?_
      refine jb_callV (q' := zq_117) (As := [(.int 0)]) (rest := []) (σ1 := (zE L, (zf_117 0 q1.2), N)) (v := none) rfl rfl zp_117 rfl (by decide) (jb_cat rfl) (Nat.le_of_ble_eq_true rfl) (Nat.le_of_ble_eq_true rfl) (Or.inl rfl) rfl (ze_117 (by omega) 0 q1.2 N rfl) ?_
      refine jb_seg 2 (pc' := (if 0 < q1.1 then 62 else 73)) (ls' := [some (.ref 1), some (.int x1), some (.int q1.1)]) (st' := []) (σ' := (zE L, (zf_117 0 q1.2), N)) (G := []) rfl trivial ?_
      refine jb_ite (fun c => ?_) (fun c => ?_)
      · rw [if_pos c] at h
        refine jb_seg 4 (pc' := 70) (ls' := [some (.ref 1), some (.int x1), some (.int q1.1)]) (st' := [(.ref 24), (.ref 4)]) (σ' := (zE L, (zf_117 0 q1.2), N)) (G := []) rfl trivial ?_
        refine jb_callV (q' := zq_102) (As := [(.ref 24)]) (rest := []) (σ1 := (zE L, (zf_102 4 24 (zf_117 0 q1.2)), N)) (v := none) rfl rfl zp_102 rfl (by decide) (jb_cat rfl) (Nat.le_of_ble_eq_true rfl) (Nat.le_of_ble_eq_true rfl) (Or.inl rfl) rfl (ze_102 (by omega) 4 24 (zf_117 0 q1.2) N (by decide) rfl) ?_
        refine jb_seg 1 (pc' := 74) (ls' := [some (.ref 1), some (.int x1), some (.int q1.1)]) (st' := [(.int q1.1)]) (σ' := (zE L, (zf_102 4 24 (zf_117 0 q1.2)), N)) (G := []) rfl trivial ?_
        cases h
        obtain ⟨rfl, rfl⟩ := hK
        exact jb_reti rfl rfl
      · rw [if_neg c] at h
        refine jb_seg 1 (pc' := 74) (ls' := [some (.ref 1), some (.int x1), some (.int q1.1)]) (st' := [(.int q1.1)]) (σ' := (zE L, (zf_117 0 q1.2), N)) (G := []) rfl trivial ?_
        cases h
        obtain ⟨rfl, rfl⟩ := hK
        exact jb_reti rfl rfl
theorem ze_132 {Γ : jb_G} {L : Nat} {d : Nat} (hd : 5 ≤ d) (x1 : Int32) (M : jb_Mi) (N : jb_Ml) {r : (Int32 × jb_Mi)} (h : zf_132 x1 M = some r) : jb_V Γ d zq_132 0 (jb_en 3 [(.ref 1), (.int x1)]) [] (zE L, M, N) (some (.int r.1)) (zE L, r.2, N) := zg_132 hd x1 M N h ⟨rfl, rfl⟩
-- X12_hours
noncomputable def zf_133_H22 (x1 : Int32) (s : Int32 × jb_Mi) : Option ((Int32 × jb_Mi) ⊕ (Int32 × jb_Mi)) :=
  if s.1 < x1 then (zf_124 60 4 s.2).bind fun q2 => some (.inl ((s.1 + 1), q2)) else some (.inr ((s.2 60 5), s.2))
noncomputable def zf_133 (x1 : Int32) (M : jb_Mi) : Option (Int32 × jb_Mi) :=
  if (jb_b2i (zf_23 x1 1 240)) = 0 then some ((-1), M) else (zf_119 60 4 M).bind fun q1 => jb_lp (zf_133_H22 x1) (0, q1)
set_option maxRecDepth 4000 in
theorem zg_133_H22 {Γ : jb_G} {L : Nat} {d : Nat} (hd : 6 ≤ d) (x1 : Int32) (N : jb_Ml) (s : Int32 × jb_Mi) {v : Option Value} {σ2 : jb_S} {r : ((Int32 × jb_Mi) ⊕ (Int32 × jb_Mi))} (h : zf_133_H22 x1 s = some r) (hK : (jb_K (fun s : Int32 × jb_Mi => jb_V Γ d zq_133 22 [some (.ref 1), some (.int x1), some (.int s.1)] [] (zE L, s.2, N) v σ2) (fun r : Int32 × jb_Mi => v = some (.int r.1) ∧ σ2 = (zE L, r.2, N))) r) : jb_V Γ d zq_133 22 [some (.ref 1), some (.int x1), some (.int s.1)] [] (zE L, s.2, N) v σ2 := by
  obtain ⟨d, rfl⟩ : ∃ e, d = e + 1 := ⟨d - 1, by omega⟩
  unfold zf_133_H22 at h
  refine jb_seg 3 (pc' := (if s.1 < x1 then 27 else 40)) (ls' := [some (.ref 1), some (.int x1), some (.int s.1)]) (st' := []) (σ' := (zE L, s.2, N)) (G := []) rfl trivial ?_
  refine jb_ite (fun c => ?_) (fun c => ?_)
  · rw [if_pos c] at h
    refine jb_seg 2 (pc' := 31) (ls' := [some (.ref 1), some (.int x1), some (.int s.1)]) (st' := [(.ref 60)]) (σ' := (zE L, s.2, N)) (G := []) rfl trivial ?_
    obtain ⟨q2, h2, h⟩ := jb_bd_of h
    refine jb_callV (q' := zq_124) (As := []) (rest := []) (σ1 := (zE L, q2, N)) (v := none) rfl rfl zp_124 rfl (by decide) (jb_cat rfl) (Nat.le_of_ble_eq_true rfl) (Nat.le_of_ble_eq_true rfl) (Or.inl rfl) rfl (ze_124 (by omega) 60 4 s.2 N (by decide) h2) ?_
    refine jb_seg 2 (pc' := 22) (ls' := [some (.ref 1), some (.int x1), some (.int (s.1 + 1))]) (st' := []) (σ' := (zE L, q2, N)) (G := []) rfl trivial ?_
    cases h
    exact jb_mask [true, true, true] rfl hK
  · rw [if_neg c] at h
    refine jb_seg 3 (pc' := 47) (ls' := [some (.ref 1), some (.int x1), some (.int s.1)]) (st' := [(.int (s.2 60 5))]) (σ' := (zE L, s.2, N)) (G := []) rfl trivial ?_
    cases h
    obtain ⟨rfl, rfl⟩ := hK
    exact jb_reti rfl rfl
theorem zg_133_H22L {Γ : jb_G} {L : Nat} {d : Nat} (hd : 6 ≤ d) (x1 : Int32) (N : jb_Ml) {v : Option Value} {σ2 : jb_S} {s : Int32 × jb_Mi} {r : (Int32 × jb_Mi)} (h : jb_lp (zf_133_H22 x1) s = some r) (hK : (fun r : Int32 × jb_Mi => v = some (.int r.1) ∧ σ2 = (zE L, r.2, N)) r) : jb_V Γ d zq_133 22 [some (.ref 1), some (.int x1), some (.int s.1)] [] (zE L, s.2, N) v σ2 := by
  exact jb_lp_ind (P := fun s => jb_V Γ d zq_133 22 [some (.ref 1), some (.int x1), some (.int s.1)] [] (zE L, s.2, N) v σ2) (K := (fun r : Int32 × jb_Mi => v = some (.int r.1) ∧ σ2 = (zE L, r.2, N))) (fun s r h hk => zg_133_H22 hd x1 N s h (by cases r <;> exact hk)) h hK
set_option maxRecDepth 4000 in
theorem zg_133 {Γ : jb_G} {L : Nat} {d : Nat} (hd : 6 ≤ d) (x1 : Int32) (M : jb_Mi) (N : jb_Ml) {v : Option Value} {σ2 : jb_S} {r : (Int32 × jb_Mi)} (h : zf_133 x1 M = some r) (hK : (fun r : Int32 × jb_Mi => v = some (.int r.1) ∧ σ2 = (zE L, r.2, N)) r) : jb_V Γ d zq_133 0 [some (.ref 1), some (.int x1), none] [] (zE L, M, N) v σ2 := by
  obtain ⟨d, rfl⟩ : ∃ e, d = e + 1 := ⟨d - 1, by omega⟩
  unfold zf_133 at h
  refine jb_seg 3 (pc' := 5) (ls' := [some (.ref 1), some (.int x1), none]) (st' := [(.int 240), (.int 1), (.int x1)]) (σ' := (zE L, M, N)) (G := []) rfl trivial ?_
  refine jb_callS (q' := zq_23) (As := [(.int x1), (.int 1), (.int 240)]) (rest := []) (σ1 := (zE L, M, N)) (v := some (.int (jb_b2i (zf_23 x1 1 240)))) rfl (by decide) rfl zp_23 (jb_cat rfl) (Nat.le_of_ble_eq_true rfl) (Nat.le_of_ble_eq_true rfl) (Or.inl rfl) rfl (ze_23 x1 1 240 M N rfl) ?_
  refine jb_seg 1 (pc' := (if (jb_b2i (zf_23 x1 1 240)) = 0 then 11 else 13)) (ls' := [some (.ref 1), some (.int x1), none]) (st' := []) (σ' := (zE L, M, N)) (G := []) rfl trivial ?_
  refine jb_ite (fun c => ?_) (fun c => ?_)
  · rw [if_pos c] at h
    refine jb_seg 1 (pc' := 12) (ls' := [some (.ref 1), some (.int x1), none]) (st' := [(.int (-1))]) (σ' := (zE L, M, N)) (G := []) rfl trivial ?_
    cases h
    obtain ⟨rfl, rfl⟩ := hK
    exact jb_reti rfl rfl
  · rw [if_neg c] at h
    refine jb_seg 2 (pc' := 17) (ls' := [some (.ref 1), some (.int x1), none]) (st' := [(.ref 60)]) (σ' := (zE L, M, N)) (G := []) rfl trivial ?_
    obtain ⟨q1, h1, h⟩ := jb_bd_of h
    refine jb_callV (q' := zq_119) (As := []) (rest := []) (σ1 := (zE L, q1, N)) (v := none) rfl rfl zp_119 rfl (by decide) (jb_cat rfl) (Nat.le_of_ble_eq_true rfl) (Nat.le_of_ble_eq_true rfl) (Or.inl rfl) rfl (ze_119 (by omega) 60 4 M N (by decide) h1) ?_
    refine jb_seg 2 (pc' := 22) (ls' := [some (.ref 1), some (.int x1), some (.int 0)]) (st' := []) (σ' := (zE L, q1, N)) (G := []) rfl trivial ?_
    exact jb_mask [true, true, true] rfl (zg_133_H22L hd x1 N h hK)
theorem ze_133 {Γ : jb_G} {L : Nat} {d : Nat} (hd : 6 ≤ d) (x1 : Int32) (M : jb_Mi) (N : jb_Ml) {r : (Int32 × jb_Mi)} (h : zf_133 x1 M = some r) : jb_V Γ d zq_133 0 (jb_en 3 [(.ref 1), (.int x1)]) [] (zE L, M, N) (some (.int r.1)) (zE L, r.2, N) := zg_133 hd x1 M N h ⟨rfl, rfl⟩
-- X12_beginTrial
noncomputable def zf_134 (M : jb_Mi) : Option (jb_Mi) :=
  (zf_119 62 24 (zf_102 24 4 M)).bind fun q1 => some q1
set_option maxRecDepth 4000 in
theorem zg_134 {Γ : jb_G} {L : Nat} {d : Nat} (hd : 4 ≤ d) (M : jb_Mi) (N : jb_Ml) {v : Option Value} {σ2 : jb_S} {r : (jb_Mi)} (h : zf_134 M = some r) (hK : (fun r : jb_Mi => v = none ∧ σ2 = (zE L, r, N)) r) : jb_V Γ d zq_134 0 [some (.ref 1)] [] (zE L, M, N) v σ2 := by
  obtain ⟨d, rfl⟩ : ∃ e, d = e + 1 := ⟨d - 1, by omega⟩
  unfold zf_134 at h
  refine jb_seg 4 (pc' := 8) (ls' := [some (.ref 1)]) (st' := [(.ref 4), (.ref 24)]) (σ' := (zE L, M, N)) (G := []) rfl trivial ?_
  refine jb_callV (q' := zq_102) (As := [(.ref 4)]) (rest := []) (σ1 := (zE L, (zf_102 24 4 M), N)) (v := none) rfl rfl zp_102 rfl (by decide) (jb_cat rfl) (Nat.le_of_ble_eq_true rfl) (Nat.le_of_ble_eq_true rfl) (Or.inl rfl) rfl (ze_102 (by omega) 24 4 M N (by decide) rfl) ?_
  refine jb_seg 2 (pc' := 15) (ls' := [some (.ref 1)]) (st' := [(.ref 62)]) (σ' := (zE L, (zf_102 24 4 M), N)) (G := []) rfl trivial ?_
  obtain ⟨q1, h1, h⟩ := jb_bd_of h
  refine jb_callV (q' := zq_119) (As := []) (rest := []) (σ1 := (zE L, q1, N)) (v := none) rfl rfl zp_119 rfl (by decide) (jb_cat rfl) (Nat.le_of_ble_eq_true rfl) (Nat.le_of_ble_eq_true rfl) (Or.inl rfl) rfl (ze_119 (by omega) 62 24 (zf_102 24 4 M) N (by decide) h1) ?_
  cases h
  obtain ⟨rfl, rfl⟩ := hK
  exact jb_retv rfl rfl
theorem ze_134 {Γ : jb_G} {L : Nat} {d : Nat} (hd : 4 ≤ d) (M : jb_Mi) (N : jb_Ml) {r : (jb_Mi)} (h : zf_134 M = some r) : jb_V Γ d zq_134 0 (jb_en 1 [(.ref 1)]) [] (zE L, M, N) (none) (zE L, r, N) := zg_134 hd M N h ⟨rfl, rfl⟩
-- X12_tried
noncomputable def zf_135_H63 (x1 : Int32) (x2 : Int32) (x3 : Int32) (x4 : Int32) (s : Int32 × jb_Mi) : Option ((Int32 × jb_Mi) ⊕ (Int32 × jb_Mi)) :=
  if s.1 < x1 then (zf_124 62 24 s.2).bind fun q4 => some (.inl ((s.1 + 1), q4)) else if x3 = 0 then if x4 = 0 then if x2 = 0 then some (.inr ((s.2 62 5), s.2)) else if x2 = 1 then some (.inr ((s.2 62 6), s.2)) else if x2 = 2 then some (.inr ((s.2 62 7), s.2)) else some (.inr ((s.2 62 8), s.2)) else jb_gd (x2 - 30) 6 (some (.inr ((s.2 27 ((x2 - 30)).toNatClampNeg), s.2))) else jb_gd (x2 - 10) 16 (some (.inr ((s.2 33 ((x2 - 10)).toNatClampNeg), s.2)))
noncomputable def zf_135_J56 (x1 : Int32) (x2 : Int32) (x3 : Int32) (x4 : Int32) (M : jb_Mi) : Option (Int32 × jb_Mi) :=
  (zf_134 M).bind fun q3 => jb_lp (zf_135_H63 x1 x2 x3 x4) (0, q3)
noncomputable def zf_135 (x1 : Int32) (x2 : Int32) (M : jb_Mi) : Option (Int32 × jb_Mi) :=
  (zf_18 4 (x2 - 10) M).bind fun q1 => (zf_2 4 (x2 - 30) M).bind fun q2 => if (jb_b2i (zf_23 x1 1 240)) = 0 then some ((-1), M) else if (jb_b2i (zf_23 x2 0 3)) = 0 then if (jb_b2i q1) = 0 then if (jb_b2i q2) = 0 then some ((-1), M) else zf_135_J56 x1 x2 (jb_b2i q1) (jb_b2i q2) M else zf_135_J56 x1 x2 (jb_b2i q1) (jb_b2i q2) M else zf_135_J56 x1 x2 (jb_b2i q1) (jb_b2i q2) M
set_option maxRecDepth 4000 in
theorem zg_135_H63 {Γ : jb_G} {L : Nat} {d : Nat} (hd : 6 ≤ d) (x1 : Int32) (x2 : Int32) (x3 : Int32) (x4 : Int32) (N : jb_Ml) (s : Int32 × jb_Mi) {v : Option Value} {σ2 : jb_S} {r : ((Int32 × jb_Mi) ⊕ (Int32 × jb_Mi))} (h : zf_135_H63 x1 x2 x3 x4 s = some r) (hK : (jb_K (fun s : Int32 × jb_Mi => jb_V Γ d zq_135 63 [some (.ref 1), some (.int x1), some (.int x2), some (.int x3), some (.int x4), some (.int s.1)] [] (zE L, s.2, N) v σ2) (fun r : Int32 × jb_Mi => v = some (.int r.1) ∧ σ2 = (zE L, r.2, N))) r) : jb_V Γ d zq_135 63 [some (.ref 1), some (.int x1), some (.int x2), some (.int x3), some (.int x4), some (.int s.1)] [] (zE L, s.2, N) v σ2 := by
  obtain ⟨d, rfl⟩ : ∃ e, d = e + 1 := ⟨d - 1, by omega⟩
  unfold zf_135_H63 at h
  refine jb_seg 3 (pc' := (if s.1 < x1 then 69 else 82)) (ls' := [some (.ref 1), some (.int x1), some (.int x2), some (.int x3), some (.int x4), some (.int s.1)]) (st' := []) (σ' := (zE L, s.2, N)) (G := []) rfl trivial ?_
  refine jb_ite (fun c => ?_) (fun c => ?_)
  · rw [if_pos c] at h
    refine jb_seg 2 (pc' := 73) (ls' := [some (.ref 1), some (.int x1), some (.int x2), some (.int x3), some (.int x4), some (.int s.1)]) (st' := [(.ref 62)]) (σ' := (zE L, s.2, N)) (G := []) rfl trivial ?_
    obtain ⟨q4, h4, h⟩ := jb_bd_of h
    refine jb_callV (q' := zq_124) (As := []) (rest := []) (σ1 := (zE L, q4, N)) (v := none) rfl rfl zp_124 rfl (by decide) (jb_cat rfl) (Nat.le_of_ble_eq_true rfl) (Nat.le_of_ble_eq_true rfl) (Or.inl rfl) rfl (ze_124 (by omega) 62 24 s.2 N (by decide) h4) ?_
    refine jb_seg 2 (pc' := 63) (ls' := [some (.ref 1), some (.int x1), some (.int x2), some (.int x3), some (.int x4), some (.int (s.1 + 1))]) (st' := []) (σ' := (zE L, q4, N)) (G := []) rfl trivial ?_
    cases h
    exact jb_mask [true, true, true, true, true, true] rfl hK
  · rw [if_neg c] at h
    refine jb_seg 2 (pc' := (if x3 = 0 then 99 else 86)) (ls' := [some (.ref 1), some (.int x1), some (.int x2), some (.int x3), some (.int x4), some (.int s.1)]) (st' := []) (σ' := (zE L, s.2, N)) (G := []) rfl trivial ?_
    refine jb_ite (fun c => ?_) (fun c => ?_)
    · rw [if_pos c] at h
      refine jb_seg 2 (pc' := (if x4 = 0 then 117 else 104)) (ls' := [some (.ref 1), some (.int x1), some (.int x2), some (.int x3), some (.int x4), some (.int s.1)]) (st' := []) (σ' := (zE L, s.2, N)) (G := []) rfl trivial ?_
      refine jb_ite (fun c => ?_) (fun c => ?_)
      · rw [if_pos c] at h
        refine jb_seg 1 (pc' := 118) (ls' := [some (.ref 1), some (.int x1), some (.int x2), some (.int x3), some (.int x4), some (.int s.1)]) (st' := [(.int x2)]) (σ' := (zE L, s.2, N)) (G := []) rfl trivial ?_
        refine jb_tsw [(0, 144), (1, 152), (2, 160)] 168 rfl (by decide +kernel) ?_
        refine jb_swc (fun c => ?_) (fun c => ?_)
        · rw [if_pos c] at h
          refine jb_seg 3 (pc' := 151) (ls' := [some (.ref 1), some (.int x1), some (.int x2), some (.int x3), some (.int x4), some (.int s.1)]) (st' := [(.int (s.2 62 5))]) (σ' := (zE L, s.2, N)) (G := []) rfl trivial ?_
          cases h
          obtain ⟨rfl, rfl⟩ := hK
          exact jb_reti rfl rfl
        · rw [if_neg c] at h
          refine jb_swc (fun c => ?_) (fun c => ?_)
          · rw [if_pos c] at h
            refine jb_seg 3 (pc' := 159) (ls' := [some (.ref 1), some (.int x1), some (.int x2), some (.int x3), some (.int x4), some (.int s.1)]) (st' := [(.int (s.2 62 6))]) (σ' := (zE L, s.2, N)) (G := []) rfl trivial ?_
            cases h
            obtain ⟨rfl, rfl⟩ := hK
            exact jb_reti rfl rfl
          · rw [if_neg c] at h
            refine jb_swc (fun c => ?_) (fun c => ?_)
            · rw [if_pos c] at h
              refine jb_seg 3 (pc' := 167) (ls' := [some (.ref 1), some (.int x1), some (.int x2), some (.int x3), some (.int x4), some (.int s.1)]) (st' := [(.int (s.2 62 7))]) (σ' := (zE L, s.2, N)) (G := []) rfl trivial ?_
              cases h
              obtain ⟨rfl, rfl⟩ := hK
              exact jb_reti rfl rfl
            · rw [if_neg c] at h
              refine jb_swn ?_
              refine jb_seg 3 (pc' := 175) (ls' := [some (.ref 1), some (.int x1), some (.int x2), some (.int x3), some (.int x4), some (.int s.1)]) (st' := [(.int (s.2 62 8))]) (σ' := (zE L, s.2, N)) (G := []) rfl trivial ?_
              cases h
              obtain ⟨rfl, rfl⟩ := hK
              exact jb_reti rfl rfl
      · rw [if_neg c] at h
        obtain ⟨g5, h⟩ := jb_gd_of h
        refine jb_seg 7 (pc' := 116) (ls' := [some (.ref 1), some (.int x1), some (.int x2), some (.int x3), some (.int x4), some (.int s.1)]) (st' := [(.int (s.2 27 ((x2 - 30)).toNatClampNeg))]) (σ' := (zE L, s.2, N)) (G := [vp_in (x2 - 30) 6]) rfl g5 ?_
        cases h
        obtain ⟨rfl, rfl⟩ := hK
        exact jb_reti rfl rfl
    · rw [if_neg c] at h
      obtain ⟨g6, h⟩ := jb_gd_of h
      refine jb_seg 7 (pc' := 98) (ls' := [some (.ref 1), some (.int x1), some (.int x2), some (.int x3), some (.int x4), some (.int s.1)]) (st' := [(.int (s.2 33 ((x2 - 10)).toNatClampNeg))]) (σ' := (zE L, s.2, N)) (G := [vp_in (x2 - 10) 16]) rfl g6 ?_
      cases h
      obtain ⟨rfl, rfl⟩ := hK
      exact jb_reti rfl rfl
theorem zg_135_H63L {Γ : jb_G} {L : Nat} {d : Nat} (hd : 6 ≤ d) (x1 : Int32) (x2 : Int32) (x3 : Int32) (x4 : Int32) (N : jb_Ml) {v : Option Value} {σ2 : jb_S} {s : Int32 × jb_Mi} {r : (Int32 × jb_Mi)} (h : jb_lp (zf_135_H63 x1 x2 x3 x4) s = some r) (hK : (fun r : Int32 × jb_Mi => v = some (.int r.1) ∧ σ2 = (zE L, r.2, N)) r) : jb_V Γ d zq_135 63 [some (.ref 1), some (.int x1), some (.int x2), some (.int x3), some (.int x4), some (.int s.1)] [] (zE L, s.2, N) v σ2 := by
  exact jb_lp_ind (P := fun s => jb_V Γ d zq_135 63 [some (.ref 1), some (.int x1), some (.int x2), some (.int x3), some (.int x4), some (.int s.1)] [] (zE L, s.2, N) v σ2) (K := (fun r : Int32 × jb_Mi => v = some (.int r.1) ∧ σ2 = (zE L, r.2, N))) (fun s r h hk => zg_135_H63 hd x1 x2 x3 x4 N s h (by cases r <;> exact hk)) h hK
set_option maxRecDepth 4000 in
theorem zg_135_J56 {Γ : jb_G} {L : Nat} {d : Nat} (hd : 6 ≤ d) (x1 : Int32) (x2 : Int32) (x3 : Int32) (x4 : Int32) (M : jb_Mi) (N : jb_Ml) {v : Option Value} {σ2 : jb_S} {r : (Int32 × jb_Mi)} (h : zf_135_J56 x1 x2 x3 x4 M = some r) (hK : (fun r : Int32 × jb_Mi => v = some (.int r.1) ∧ σ2 = (zE L, r.2, N)) r) : jb_V Γ d zq_135 56 [some (.ref 1), some (.int x1), some (.int x2), some (.int x3), some (.int x4), none] [] (zE L, M, N) v σ2 := by
  obtain ⟨d, rfl⟩ : ∃ e, d = e + 1 := ⟨d - 1, by omega⟩
  unfold zf_135_J56 at h
  refine jb_seg 1 (pc' := 57) (ls' := [some (.ref 1), some (.int x1), some (.int x2), some (.int x3), some (.int x4), none]) (st' := [(.ref 1)]) (σ' := (zE L, M, N)) (G := []) rfl trivial ?_
  obtain ⟨q3, h3, h⟩ := jb_bd_of h
  refine jb_callV (q' := zq_134) (As := []) (rest := []) (σ1 := (zE L, q3, N)) (v := none) rfl rfl zp_134 rfl (by decide) (jb_cat rfl) (Nat.le_of_ble_eq_true rfl) (Nat.le_of_ble_eq_true rfl) (Or.inl rfl) rfl (ze_134 (by omega) M N h3) ?_
  refine jb_seg 2 (pc' := 63) (ls' := [some (.ref 1), some (.int x1), some (.int x2), some (.int x3), some (.int x4), some (.int 0)]) (st' := []) (σ' := (zE L, q3, N)) (G := []) rfl trivial ?_
  exact jb_mask [true, true, true, true, true, true] rfl (zg_135_H63L hd x1 x2 x3 x4 N h hK)
set_option maxRecDepth 4000 in
theorem zg_135 {Γ : jb_G} {L : Nat} {d : Nat} (hd : 6 ≤ d) (x1 : Int32) (x2 : Int32) (M : jb_Mi) (N : jb_Ml) {v : Option Value} {σ2 : jb_S} {r : (Int32 × jb_Mi)} (h : zf_135 x1 x2 M = some r) (hK : (fun r : Int32 × jb_Mi => v = some (.int r.1) ∧ σ2 = (zE L, r.2, N)) r) : jb_V Γ d zq_135 0 [some (.ref 1), some (.int x1), some (.int x2), none, none, none] [] (zE L, M, N) v σ2 := by
  obtain ⟨d, rfl⟩ : ∃ e, d = e + 1 := ⟨d - 1, by omega⟩
  unfold zf_135 at h
  refine jb_seg 5 (pc' := 8) (ls' := [some (.ref 1), some (.int x1), some (.int x2), none, none, none]) (st' := [(.int (x2 - 10)), (.ref 4)]) (σ' := (zE L, M, N)) (G := []) rfl trivial ?_
  obtain ⟨q1, h1, h⟩ := jb_bd_of h
  refine jb_callV (q' := zq_18) (As := [(.int (x2 - 10))]) (rest := []) (σ1 := (zE L, M, N)) (v := some (.int (jb_b2i q1))) rfl rfl zp_18 rfl (by decide) (jb_cat rfl) (Nat.le_of_ble_eq_true rfl) (Nat.le_of_ble_eq_true rfl) (Or.inl rfl) rfl (ze_18 4 (x2 - 10) M N (by decide) h1) ?_
  refine jb_seg 6 (pc' := 20) (ls' := [some (.ref 1), some (.int x1), some (.int x2), some (.int (jb_b2i q1)), none, none]) (st' := [(.int (x2 - 30)), (.ref 4)]) (σ' := (zE L, M, N)) (G := []) rfl trivial ?_
  obtain ⟨q2, h2, h⟩ := jb_bd_of h
  refine jb_callV (q' := zq_2) (As := [(.int (x2 - 30))]) (rest := []) (σ1 := (zE L, M, N)) (v := some (.int (jb_b2i q2))) rfl rfl zp_2 rfl (by decide) (jb_cat rfl) (Nat.le_of_ble_eq_true rfl) (Nat.le_of_ble_eq_true rfl) (Or.inl rfl) rfl (ze_2 4 (x2 - 30) M N (by decide) h2) ?_
  refine jb_seg 4 (pc' := 30) (ls' := [some (.ref 1), some (.int x1), some (.int x2), some (.int (jb_b2i q1)), some (.int (jb_b2i q2)), none]) (st' := [(.int 240), (.int 1), (.int x1)]) (σ' := (zE L, M, N)) (G := []) rfl trivial ?_
  refine jb_callS (q' := zq_23) (As := [(.int x1), (.int 1), (.int 240)]) (rest := []) (σ1 := (zE L, M, N)) (v := some (.int (jb_b2i (zf_23 x1 1 240)))) rfl (by decide) rfl zp_23 (jb_cat rfl) (Nat.le_of_ble_eq_true rfl) (Nat.le_of_ble_eq_true rfl) (Or.inl rfl) rfl (ze_23 x1 1 240 M N rfl) ?_
  refine jb_seg 1 (pc' := (if (jb_b2i (zf_23 x1 1 240)) = 0 then 54 else 36)) (ls' := [some (.ref 1), some (.int x1), some (.int x2), some (.int (jb_b2i q1)), some (.int (jb_b2i q2)), none]) (st' := []) (σ' := (zE L, M, N)) (G := []) rfl trivial ?_
  refine jb_ite (fun c => ?_) (fun c => ?_)
  · rw [if_pos c] at h
    refine jb_seg 1 (pc' := 55) (ls' := [some (.ref 1), some (.int x1), some (.int x2), some (.int (jb_b2i q1)), some (.int (jb_b2i q2)), none]) (st' := [(.int (-1))]) (σ' := (zE L, M, N)) (G := []) rfl trivial ?_
    cases h
    obtain ⟨rfl, rfl⟩ := hK
    exact jb_reti rfl rfl
  · rw [if_neg c] at h
    refine jb_seg 3 (pc' := 39) (ls' := [some (.ref 1), some (.int x1), some (.int x2), some (.int (jb_b2i q1)), some (.int (jb_b2i q2)), none]) (st' := [(.int 3), (.int 0), (.int x2)]) (σ' := (zE L, M, N)) (G := []) rfl trivial ?_
    refine jb_callS (q' := zq_23) (As := [(.int x2), (.int 0), (.int 3)]) (rest := []) (σ1 := (zE L, M, N)) (v := some (.int (jb_b2i (zf_23 x2 0 3)))) rfl (by decide) rfl zp_23 (jb_cat rfl) (Nat.le_of_ble_eq_true rfl) (Nat.le_of_ble_eq_true rfl) (Or.inl rfl) rfl (ze_23 x2 0 3 M N rfl) ?_
    refine jb_seg 1 (pc' := (if (jb_b2i (zf_23 x2 0 3)) = 0 then 45 else 56)) (ls' := [some (.ref 1), some (.int x1), some (.int x2), some (.int (jb_b2i q1)), some (.int (jb_b2i q2)), none]) (st' := []) (σ' := (zE L, M, N)) (G := []) rfl trivial ?_
    refine jb_ite (fun c => ?_) (fun c => ?_)
    · rw [if_pos c] at h
      refine jb_seg 2 (pc' := (if (jb_b2i q1) = 0 then 49 else 56)) (ls' := [some (.ref 1), some (.int x1), some (.int x2), some (.int (jb_b2i q1)), some (.int (jb_b2i q2)), none]) (st' := []) (σ' := (zE L, M, N)) (G := []) rfl trivial ?_
      refine jb_ite (fun c => ?_) (fun c => ?_)
      · rw [if_pos c] at h
        refine jb_seg 2 (pc' := (if (jb_b2i q2) = 0 then 54 else 56)) (ls' := [some (.ref 1), some (.int x1), some (.int x2), some (.int (jb_b2i q1)), some (.int (jb_b2i q2)), none]) (st' := []) (σ' := (zE L, M, N)) (G := []) rfl trivial ?_
        refine jb_ite (fun c => ?_) (fun c => ?_)
        · rw [if_pos c] at h
          refine jb_seg 1 (pc' := 55) (ls' := [some (.ref 1), some (.int x1), some (.int x2), some (.int (jb_b2i q1)), some (.int (jb_b2i q2)), none]) (st' := [(.int (-1))]) (σ' := (zE L, M, N)) (G := []) rfl trivial ?_
          cases h
          obtain ⟨rfl, rfl⟩ := hK
          exact jb_reti rfl rfl
        · rw [if_neg c] at h
          exact jb_mask [true, true, true, true, true, false] rfl (zg_135_J56 hd x1 x2 (jb_b2i q1) (jb_b2i q2) M N h hK)
      · rw [if_neg c] at h
        exact jb_mask [true, true, true, true, true, false] rfl (zg_135_J56 hd x1 x2 (jb_b2i q1) (jb_b2i q2) M N h hK)
    · rw [if_neg c] at h
      exact jb_mask [true, true, true, true, true, false] rfl (zg_135_J56 hd x1 x2 (jb_b2i q1) (jb_b2i q2) M N h hK)
theorem ze_135 {Γ : jb_G} {L : Nat} {d : Nat} (hd : 6 ≤ d) (x1 : Int32) (x2 : Int32) (M : jb_Mi) (N : jb_Ml) {r : (Int32 × jb_Mi)} (h : zf_135 x1 x2 M = some r) : jb_V Γ d zq_135 0 (jb_en 6 [(.ref 1), (.int x1), (.int x2)]) [] (zE L, M, N) (some (.int r.1)) (zE L, r.2, N) := zg_135 hd x1 x2 M N h ⟨rfl, rfl⟩
-- X12_houseIs
noncomputable def zf_136 (x1 : Int32) (x2 : Int32) (M : jb_Mi) : Option (Int32) :=
  (zf_2 4 x1 M).bind fun q1 => if (jb_b2i q1) = 0 then some (-1) else if x2 = 0 then jb_gd x1 6 (some (M 5 x1.toNatClampNeg)) else if x2 = 1 then jb_gd x1 6 (some (M 6 x1.toNatClampNeg)) else if x2 = 2 then jb_gd x1 6 (some (M 7 x1.toNatClampNeg)) else if x2 = 3 then (zf_13 4 x1 M).bind fun q5 => some q5 else if x2 = 4 then (zf_108 4 x1 M).bind fun q6 => some q6 else if x2 = 5 then (zf_107 4 x1 M).bind fun q7 => some q7 else some (-1)
set_option maxRecDepth 4000 in
theorem zg_136 {Γ : jb_G} {L : Nat} {d : Nat} (hd : 4 ≤ d) (x1 : Int32) (x2 : Int32) (M : jb_Mi) (N : jb_Ml) {v : Option Value} {σ2 : jb_S} {r : (Int32)} (h : zf_136 x1 x2 M = some r) (hK : (fun r : Int32 => v = some (.int r) ∧ σ2 = (zE L, M, N)) r) : jb_V Γ d zq_136 0 [some (.ref 1), some (.int x1), some (.int x2)] [] (zE L, M, N) v σ2 := by
  obtain ⟨d, rfl⟩ : ∃ e, d = e + 1 := ⟨d - 1, by omega⟩
  unfold zf_136 at h
  refine jb_seg 3 (pc' := 5) (ls' := [some (.ref 1), some (.int x1), some (.int x2)]) (st' := [(.int x1), (.ref 4)]) (σ' := (zE L, M, N)) (G := []) rfl trivial ?_
  obtain ⟨q1, h1, h⟩ := jb_bd_of h
  refine jb_callV (q' := zq_2) (As := [(.int x1)]) (rest := []) (σ1 := (zE L, M, N)) (v := some (.int (jb_b2i q1))) rfl rfl zp_2 rfl (by decide) (jb_cat rfl) (Nat.le_of_ble_eq_true rfl) (Nat.le_of_ble_eq_true rfl) (Or.inl rfl) rfl (ze_2 4 x1 M N (by decide) h1) ?_
  refine jb_seg 1 (pc' := (if (jb_b2i q1) = 0 then 11 else 13)) (ls' := [some (.ref 1), some (.int x1), some (.int x2)]) (st' := []) (σ' := (zE L, M, N)) (G := []) rfl trivial ?_
  refine jb_ite (fun c => ?_) (fun c => ?_)
  · rw [if_pos c] at h
    refine jb_seg 1 (pc' := 12) (ls' := [some (.ref 1), some (.int x1), some (.int x2)]) (st' := [(.int (-1))]) (σ' := (zE L, M, N)) (G := []) rfl trivial ?_
    cases h
    obtain ⟨rfl, rfl⟩ := hK
    exact jb_reti rfl rfl
  · rw [if_neg c] at h
    refine jb_seg 1 (pc' := 14) (ls' := [some (.ref 1), some (.int x1), some (.int x2)]) (st' := [(.int x2)]) (σ' := (zE L, M, N)) (G := []) rfl trivial ?_
    refine jb_tsw [(0, 52), (1, 62), (2, 72), (3, 82), (4, 91), (5, 100)] 109 rfl (by decide +kernel) ?_
    refine jb_swc (fun c => ?_) (fun c => ?_)
    · rw [if_pos c] at h
      obtain ⟨g2, h⟩ := jb_gd_of h
      refine jb_seg 5 (pc' := 61) (ls' := [some (.ref 1), some (.int x1), some (.int x2)]) (st' := [(.int (M 5 x1.toNatClampNeg))]) (σ' := (zE L, M, N)) (G := [vp_in x1 6]) rfl g2 ?_
      cases h
      obtain ⟨rfl, rfl⟩ := hK
      exact jb_reti rfl rfl
    · rw [if_neg c] at h
      refine jb_swc (fun c => ?_) (fun c => ?_)
      · rw [if_pos c] at h
        obtain ⟨g3, h⟩ := jb_gd_of h
        refine jb_seg 5 (pc' := 71) (ls' := [some (.ref 1), some (.int x1), some (.int x2)]) (st' := [(.int (M 6 x1.toNatClampNeg))]) (σ' := (zE L, M, N)) (G := [vp_in x1 6]) rfl g3 ?_
        cases h
        obtain ⟨rfl, rfl⟩ := hK
        exact jb_reti rfl rfl
      · rw [if_neg c] at h
        refine jb_swc (fun c => ?_) (fun c => ?_)
        · rw [if_pos c] at h
          obtain ⟨g4, h⟩ := jb_gd_of h
          refine jb_seg 5 (pc' := 81) (ls' := [some (.ref 1), some (.int x1), some (.int x2)]) (st' := [(.int (M 7 x1.toNatClampNeg))]) (σ' := (zE L, M, N)) (G := [vp_in x1 6]) rfl g4 ?_
          cases h
          obtain ⟨rfl, rfl⟩ := hK
          exact jb_reti rfl rfl
        · rw [if_neg c] at h
          refine jb_swc (fun c => ?_) (fun c => ?_)
          · rw [if_pos c] at h
            refine jb_seg 3 (pc' := 87) (ls' := [some (.ref 1), some (.int x1), some (.int x2)]) (st' := [(.int x1), (.ref 4)]) (σ' := (zE L, M, N)) (G := []) rfl trivial ?_
            obtain ⟨q5, h5, h⟩ := jb_bd_of h
            refine jb_callV (q' := zq_13) (As := [(.int x1)]) (rest := []) (σ1 := (zE L, M, N)) (v := some (.int q5)) rfl rfl zp_13 rfl (by decide) (jb_cat rfl) (Nat.le_of_ble_eq_true rfl) (Nat.le_of_ble_eq_true rfl) (Or.inl rfl) rfl (ze_13 (by omega) 4 x1 M N (by decide) h5) ?_
            cases h
            obtain ⟨rfl, rfl⟩ := hK
            exact jb_reti rfl rfl
          · rw [if_neg c] at h
            refine jb_swc (fun c => ?_) (fun c => ?_)
            · rw [if_pos c] at h
              refine jb_seg 3 (pc' := 96) (ls' := [some (.ref 1), some (.int x1), some (.int x2)]) (st' := [(.int x1), (.ref 4)]) (σ' := (zE L, M, N)) (G := []) rfl trivial ?_
              obtain ⟨q6, h6, h⟩ := jb_bd_of h
              refine jb_callV (q' := zq_108) (As := [(.int x1)]) (rest := []) (σ1 := (zE L, M, N)) (v := some (.int q6)) rfl rfl zp_108 rfl (by decide) (jb_cat rfl) (Nat.le_of_ble_eq_true rfl) (Nat.le_of_ble_eq_true rfl) (Or.inl rfl) rfl (ze_108 (by omega) 4 x1 M N (by decide) h6) ?_
              cases h
              obtain ⟨rfl, rfl⟩ := hK
              exact jb_reti rfl rfl
            · rw [if_neg c] at h
              refine jb_swc (fun c => ?_) (fun c => ?_)
              · rw [if_pos c] at h
                refine jb_seg 3 (pc' := 105) (ls' := [some (.ref 1), some (.int x1), some (.int x2)]) (st' := [(.int x1), (.ref 4)]) (σ' := (zE L, M, N)) (G := []) rfl trivial ?_
                obtain ⟨q7, h7, h⟩ := jb_bd_of h
                refine jb_callV (q' := zq_107) (As := [(.int x1)]) (rest := []) (σ1 := (zE L, M, N)) (v := some (.int q7)) rfl rfl zp_107 rfl (by decide) (jb_cat rfl) (Nat.le_of_ble_eq_true rfl) (Nat.le_of_ble_eq_true rfl) (Or.inl rfl) rfl (ze_107 (by omega) 4 x1 M N (by decide) h7) ?_
                cases h
                obtain ⟨rfl, rfl⟩ := hK
                exact jb_reti rfl rfl
              · rw [if_neg c] at h
                refine jb_swn ?_
                refine jb_seg 1 (pc' := 110) (ls' := [some (.ref 1), some (.int x1), some (.int x2)]) (st' := [(.int (-1))]) (σ' := (zE L, M, N)) (G := []) rfl trivial ?_
                cases h
                obtain ⟨rfl, rfl⟩ := hK
                exact jb_reti rfl rfl
theorem ze_136 {Γ : jb_G} {L : Nat} {d : Nat} (hd : 4 ≤ d) (x1 : Int32) (x2 : Int32) (M : jb_Mi) (N : jb_Ml) {r : (Int32)} (h : zf_136 x1 x2 M = some r) : jb_V Γ d zq_136 0 (jb_en 3 [(.ref 1), (.int x1), (.int x2)]) [] (zE L, M, N) (some (.int r)) (zE L, M, N) := zg_136 hd x1 x2 M N h ⟨rfl, rfl⟩
-- X12_thingIs
noncomputable def zf_137 (x1 : Int32) (x2 : Int32) (M : jb_Mi) : Option (Int32) :=
  (zf_3 4 x1 M).bind fun q1 => if (jb_b2i q1) = 0 then some (-1) else if x2 = 0 then jb_gd x1 24 (some (M 8 x1.toNatClampNeg)) else if x2 = 1 then jb_gd x1 24 (some (M 9 x1.toNatClampNeg)) else if x2 = 2 then jb_gd x1 24 (some (M 10 x1.toNatClampNeg)) else if x2 = 3 then jb_gd x1 24 (some (M 11 x1.toNatClampNeg)) else some (-1)
set_option maxRecDepth 4000 in
theorem zg_137 {Γ : jb_G} {L : Nat} {d : Nat} (hd : 1 ≤ d) (x1 : Int32) (x2 : Int32) (M : jb_Mi) (N : jb_Ml) {v : Option Value} {σ2 : jb_S} {r : (Int32)} (h : zf_137 x1 x2 M = some r) (hK : (fun r : Int32 => v = some (.int r) ∧ σ2 = (zE L, M, N)) r) : jb_V Γ d zq_137 0 [some (.ref 1), some (.int x1), some (.int x2)] [] (zE L, M, N) v σ2 := by
  obtain ⟨d, rfl⟩ : ∃ e, d = e + 1 := ⟨d - 1, by omega⟩
  unfold zf_137 at h
  refine jb_seg 3 (pc' := 5) (ls' := [some (.ref 1), some (.int x1), some (.int x2)]) (st' := [(.int x1), (.ref 4)]) (σ' := (zE L, M, N)) (G := []) rfl trivial ?_
  obtain ⟨q1, h1, h⟩ := jb_bd_of h
  refine jb_callV (q' := zq_3) (As := [(.int x1)]) (rest := []) (σ1 := (zE L, M, N)) (v := some (.int (jb_b2i q1))) rfl rfl zp_3 rfl (by decide) (jb_cat rfl) (Nat.le_of_ble_eq_true rfl) (Nat.le_of_ble_eq_true rfl) (Or.inl rfl) rfl (ze_3 4 x1 M N (by decide) h1) ?_
  refine jb_seg 1 (pc' := (if (jb_b2i q1) = 0 then 11 else 13)) (ls' := [some (.ref 1), some (.int x1), some (.int x2)]) (st' := []) (σ' := (zE L, M, N)) (G := []) rfl trivial ?_
  refine jb_ite (fun c => ?_) (fun c => ?_)
  · rw [if_pos c] at h
    refine jb_seg 1 (pc' := 12) (ls' := [some (.ref 1), some (.int x1), some (.int x2)]) (st' := [(.int (-1))]) (σ' := (zE L, M, N)) (G := []) rfl trivial ?_
    cases h
    obtain ⟨rfl, rfl⟩ := hK
    exact jb_reti rfl rfl
  · rw [if_neg c] at h
    refine jb_seg 1 (pc' := 14) (ls' := [some (.ref 1), some (.int x1), some (.int x2)]) (st' := [(.int x2)]) (σ' := (zE L, M, N)) (G := []) rfl trivial ?_
    refine jb_tsw [(0, 44), (1, 54), (2, 64), (3, 74)] 84 rfl (by decide +kernel) ?_
    refine jb_swc (fun c => ?_) (fun c => ?_)
    · rw [if_pos c] at h
      obtain ⟨g2, h⟩ := jb_gd_of h
      refine jb_seg 5 (pc' := 53) (ls' := [some (.ref 1), some (.int x1), some (.int x2)]) (st' := [(.int (M 8 x1.toNatClampNeg))]) (σ' := (zE L, M, N)) (G := [vp_in x1 24]) rfl g2 ?_
      cases h
      obtain ⟨rfl, rfl⟩ := hK
      exact jb_reti rfl rfl
    · rw [if_neg c] at h
      refine jb_swc (fun c => ?_) (fun c => ?_)
      · rw [if_pos c] at h
        obtain ⟨g3, h⟩ := jb_gd_of h
        refine jb_seg 5 (pc' := 63) (ls' := [some (.ref 1), some (.int x1), some (.int x2)]) (st' := [(.int (M 9 x1.toNatClampNeg))]) (σ' := (zE L, M, N)) (G := [vp_in x1 24]) rfl g3 ?_
        cases h
        obtain ⟨rfl, rfl⟩ := hK
        exact jb_reti rfl rfl
      · rw [if_neg c] at h
        refine jb_swc (fun c => ?_) (fun c => ?_)
        · rw [if_pos c] at h
          obtain ⟨g4, h⟩ := jb_gd_of h
          refine jb_seg 5 (pc' := 73) (ls' := [some (.ref 1), some (.int x1), some (.int x2)]) (st' := [(.int (M 10 x1.toNatClampNeg))]) (σ' := (zE L, M, N)) (G := [vp_in x1 24]) rfl g4 ?_
          cases h
          obtain ⟨rfl, rfl⟩ := hK
          exact jb_reti rfl rfl
        · rw [if_neg c] at h
          refine jb_swc (fun c => ?_) (fun c => ?_)
          · rw [if_pos c] at h
            obtain ⟨g5, h⟩ := jb_gd_of h
            refine jb_seg 5 (pc' := 83) (ls' := [some (.ref 1), some (.int x1), some (.int x2)]) (st' := [(.int (M 11 x1.toNatClampNeg))]) (σ' := (zE L, M, N)) (G := [vp_in x1 24]) rfl g5 ?_
            cases h
            obtain ⟨rfl, rfl⟩ := hK
            exact jb_reti rfl rfl
          · rw [if_neg c] at h
            refine jb_swn ?_
            refine jb_seg 1 (pc' := 85) (ls' := [some (.ref 1), some (.int x1), some (.int x2)]) (st' := [(.int (-1))]) (σ' := (zE L, M, N)) (G := []) rfl trivial ?_
            cases h
            obtain ⟨rfl, rfl⟩ := hK
            exact jb_reti rfl rfl
theorem ze_137 {Γ : jb_G} {L : Nat} {d : Nat} (hd : 1 ≤ d) (x1 : Int32) (x2 : Int32) (M : jb_Mi) (N : jb_Ml) {r : (Int32)} (h : zf_137 x1 x2 M = some r) : jb_V Γ d zq_137 0 (jb_en 3 [(.ref 1), (.int x1), (.int x2)]) [] (zE L, M, N) (some (.int r)) (zE L, M, N) := zg_137 hd x1 x2 M N h ⟨rfl, rfl⟩
-- X12_manIs
noncomputable def zf_138 (x1 : Int32) (x2 : Int32) (M : jb_Mi) : Option (Int32) :=
  (zf_18 4 x1 M).bind fun q1 => if (jb_b2i q1) = 0 then some (-1) else if x2 = 0 then jb_gd x1 16 (some (M 12 x1.toNatClampNeg)) else if x2 = 1 then jb_gd x1 16 (some (M 13 x1.toNatClampNeg)) else if x2 = 2 then (zf_39 x1 (zf_14 4 M) M).bind fun q4 => some q4 else if x2 = 3 then (zf_40 x1 M).bind fun q5 => some q5 else if x2 = 4 then (zf_41 x1 M).bind fun q6 => some q6 else some (-1)
set_option maxRecDepth 4000 in
theorem zg_138 {Γ : jb_G} {L : Nat} {d : Nat} (hd : 6 ≤ d) (x1 : Int32) (x2 : Int32) (M : jb_Mi) (N : jb_Ml) {v : Option Value} {σ2 : jb_S} {r : (Int32)} (h : zf_138 x1 x2 M = some r) (hK : (fun r : Int32 => v = some (.int r) ∧ σ2 = (zE L, M, N)) r) : jb_V Γ d zq_138 0 [some (.ref 1), some (.int x1), some (.int x2)] [] (zE L, M, N) v σ2 := by
  obtain ⟨d, rfl⟩ : ∃ e, d = e + 1 := ⟨d - 1, by omega⟩
  unfold zf_138 at h
  refine jb_seg 3 (pc' := 5) (ls' := [some (.ref 1), some (.int x1), some (.int x2)]) (st' := [(.int x1), (.ref 4)]) (σ' := (zE L, M, N)) (G := []) rfl trivial ?_
  obtain ⟨q1, h1, h⟩ := jb_bd_of h
  refine jb_callV (q' := zq_18) (As := [(.int x1)]) (rest := []) (σ1 := (zE L, M, N)) (v := some (.int (jb_b2i q1))) rfl rfl zp_18 rfl (by decide) (jb_cat rfl) (Nat.le_of_ble_eq_true rfl) (Nat.le_of_ble_eq_true rfl) (Or.inl rfl) rfl (ze_18 4 x1 M N (by decide) h1) ?_
  refine jb_seg 1 (pc' := (if (jb_b2i q1) = 0 then 11 else 13)) (ls' := [some (.ref 1), some (.int x1), some (.int x2)]) (st' := []) (σ' := (zE L, M, N)) (G := []) rfl trivial ?_
  refine jb_ite (fun c => ?_) (fun c => ?_)
  · rw [if_pos c] at h
    refine jb_seg 1 (pc' := 12) (ls' := [some (.ref 1), some (.int x1), some (.int x2)]) (st' := [(.int (-1))]) (σ' := (zE L, M, N)) (G := []) rfl trivial ?_
    cases h
    obtain ⟨rfl, rfl⟩ := hK
    exact jb_reti rfl rfl
  · rw [if_neg c] at h
    refine jb_seg 1 (pc' := 14) (ls' := [some (.ref 1), some (.int x1), some (.int x2)]) (st' := [(.int x2)]) (σ' := (zE L, M, N)) (G := []) rfl trivial ?_
    refine jb_tsw [(0, 48), (1, 58), (2, 68), (3, 84), (4, 93)] 102 rfl (by decide +kernel) ?_
    refine jb_swc (fun c => ?_) (fun c => ?_)
    · rw [if_pos c] at h
      obtain ⟨g2, h⟩ := jb_gd_of h
      refine jb_seg 5 (pc' := 57) (ls' := [some (.ref 1), some (.int x1), some (.int x2)]) (st' := [(.int (M 12 x1.toNatClampNeg))]) (σ' := (zE L, M, N)) (G := [vp_in x1 16]) rfl g2 ?_
      cases h
      obtain ⟨rfl, rfl⟩ := hK
      exact jb_reti rfl rfl
    · rw [if_neg c] at h
      refine jb_swc (fun c => ?_) (fun c => ?_)
      · rw [if_pos c] at h
        obtain ⟨g3, h⟩ := jb_gd_of h
        refine jb_seg 5 (pc' := 67) (ls' := [some (.ref 1), some (.int x1), some (.int x2)]) (st' := [(.int (M 13 x1.toNatClampNeg))]) (σ' := (zE L, M, N)) (G := [vp_in x1 16]) rfl g3 ?_
        cases h
        obtain ⟨rfl, rfl⟩ := hK
        exact jb_reti rfl rfl
      · rw [if_neg c] at h
        refine jb_swc (fun c => ?_) (fun c => ?_)
        · rw [if_pos c] at h
          refine jb_seg 5 (pc' := 77) (ls' := [some (.ref 1), some (.int x1), some (.int x2)]) (st' := [(.ref 4), (.int x1), (.ref 41)]) (σ' := (zE L, M, N)) (G := []) rfl trivial ?_
          refine jb_callV (q' := zq_14) (As := []) (rest := [(.int x1), (.ref 41)]) (σ1 := (zE L, M, N)) (v := some (.int (zf_14 4 M))) rfl rfl zp_14 rfl (by decide) (jb_cat rfl) (Nat.le_of_ble_eq_true rfl) (Nat.le_of_ble_eq_true rfl) (Or.inl rfl) rfl (ze_14 4 M N (by decide) rfl) ?_
          obtain ⟨q4, h4, h⟩ := jb_bd_of h
          refine jb_callV (q' := zq_39) (As := [(.int x1), (.int (zf_14 4 M))]) (rest := []) (σ1 := (zE L, M, N)) (v := some (.int q4)) rfl rfl zp_39 rfl (by decide) (jb_cat rfl) (Nat.le_of_ble_eq_true rfl) (Nat.le_of_ble_eq_true rfl) (Or.inl rfl) rfl (ze_39 (by omega) x1 (zf_14 4 M) M N h4) ?_
          cases h
          obtain ⟨rfl, rfl⟩ := hK
          exact jb_reti rfl rfl
        · rw [if_neg c] at h
          refine jb_swc (fun c => ?_) (fun c => ?_)
          · rw [if_pos c] at h
            refine jb_seg 3 (pc' := 89) (ls' := [some (.ref 1), some (.int x1), some (.int x2)]) (st' := [(.int x1), (.ref 41)]) (σ' := (zE L, M, N)) (G := []) rfl trivial ?_
            obtain ⟨q5, h5, h⟩ := jb_bd_of h
            refine jb_callV (q' := zq_40) (As := [(.int x1)]) (rest := []) (σ1 := (zE L, M, N)) (v := some (.int q5)) rfl rfl zp_40 rfl (by decide) (jb_cat rfl) (Nat.le_of_ble_eq_true rfl) (Nat.le_of_ble_eq_true rfl) (Or.inl rfl) rfl (ze_40 (by omega) x1 M N h5) ?_
            cases h
            obtain ⟨rfl, rfl⟩ := hK
            exact jb_reti rfl rfl
          · rw [if_neg c] at h
            refine jb_swc (fun c => ?_) (fun c => ?_)
            · rw [if_pos c] at h
              refine jb_seg 3 (pc' := 98) (ls' := [some (.ref 1), some (.int x1), some (.int x2)]) (st' := [(.int x1), (.ref 41)]) (σ' := (zE L, M, N)) (G := []) rfl trivial ?_
              obtain ⟨q6, h6, h⟩ := jb_bd_of h
              refine jb_callV (q' := zq_41) (As := [(.int x1)]) (rest := []) (σ1 := (zE L, M, N)) (v := some (.int q6)) rfl rfl zp_41 rfl (by decide) (jb_cat rfl) (Nat.le_of_ble_eq_true rfl) (Nat.le_of_ble_eq_true rfl) (Or.inl rfl) rfl (ze_41 (by omega) x1 M N h6) ?_
              cases h
              obtain ⟨rfl, rfl⟩ := hK
              exact jb_reti rfl rfl
            · rw [if_neg c] at h
              refine jb_swn ?_
              refine jb_seg 1 (pc' := 103) (ls' := [some (.ref 1), some (.int x1), some (.int x2)]) (st' := [(.int (-1))]) (σ' := (zE L, M, N)) (G := []) rfl trivial ?_
              cases h
              obtain ⟨rfl, rfl⟩ := hK
              exact jb_reti rfl rfl
theorem ze_138 {Γ : jb_G} {L : Nat} {d : Nat} (hd : 6 ≤ d) (x1 : Int32) (x2 : Int32) (M : jb_Mi) (N : jb_Ml) {r : (Int32)} (h : zf_138 x1 x2 M = some r) : jb_V Γ d zq_138 0 (jb_en 3 [(.ref 1), (.int x1), (.int x2)]) [] (zE L, M, N) (some (.int r)) (zE L, M, N) := zg_138 hd x1 x2 M N h ⟨rfl, rfl⟩
-- X12_load
noncomputable def zf_139 (x1 : Int32) (x2 : Int32) (M : jb_Mi) : Option (Int32) :=
  (zf_2 4 x1 M).bind fun q1 => if (jb_b2i q1) = 0 then some (-1) else if (jb_b2i (zf_23 x2 0 3)) = 0 then some (-1) else (zf_7 4 x1 x2 M).bind fun q2 => some q2
set_option maxRecDepth 4000 in
theorem zg_139 {Γ : jb_G} {L : Nat} {d : Nat} (hd : 3 ≤ d) (x1 : Int32) (x2 : Int32) (M : jb_Mi) (N : jb_Ml) {v : Option Value} {σ2 : jb_S} {r : (Int32)} (h : zf_139 x1 x2 M = some r) (hK : (fun r : Int32 => v = some (.int r) ∧ σ2 = (zE L, M, N)) r) : jb_V Γ d zq_139 0 [some (.ref 1), some (.int x1), some (.int x2)] [] (zE L, M, N) v σ2 := by
  obtain ⟨d, rfl⟩ : ∃ e, d = e + 1 := ⟨d - 1, by omega⟩
  unfold zf_139 at h
  refine jb_seg 3 (pc' := 5) (ls' := [some (.ref 1), some (.int x1), some (.int x2)]) (st' := [(.int x1), (.ref 4)]) (σ' := (zE L, M, N)) (G := []) rfl trivial ?_
  obtain ⟨q1, h1, h⟩ := jb_bd_of h
  refine jb_callV (q' := zq_2) (As := [(.int x1)]) (rest := []) (σ1 := (zE L, M, N)) (v := some (.int (jb_b2i q1))) rfl rfl zp_2 rfl (by decide) (jb_cat rfl) (Nat.le_of_ble_eq_true rfl) (Nat.le_of_ble_eq_true rfl) (Or.inl rfl) rfl (ze_2 4 x1 M N (by decide) h1) ?_
  refine jb_seg 1 (pc' := (if (jb_b2i q1) = 0 then 20 else 11)) (ls' := [some (.ref 1), some (.int x1), some (.int x2)]) (st' := []) (σ' := (zE L, M, N)) (G := []) rfl trivial ?_
  refine jb_ite (fun c => ?_) (fun c => ?_)
  · rw [if_pos c] at h
    refine jb_seg 1 (pc' := 21) (ls' := [some (.ref 1), some (.int x1), some (.int x2)]) (st' := [(.int (-1))]) (σ' := (zE L, M, N)) (G := []) rfl trivial ?_
    cases h
    obtain ⟨rfl, rfl⟩ := hK
    exact jb_reti rfl rfl
  · rw [if_neg c] at h
    refine jb_seg 3 (pc' := 14) (ls' := [some (.ref 1), some (.int x1), some (.int x2)]) (st' := [(.int 3), (.int 0), (.int x2)]) (σ' := (zE L, M, N)) (G := []) rfl trivial ?_
    refine jb_callS (q' := zq_23) (As := [(.int x2), (.int 0), (.int 3)]) (rest := []) (σ1 := (zE L, M, N)) (v := some (.int (jb_b2i (zf_23 x2 0 3)))) rfl (by decide) rfl zp_23 (jb_cat rfl) (Nat.le_of_ble_eq_true rfl) (Nat.le_of_ble_eq_true rfl) (Or.inl rfl) rfl (ze_23 x2 0 3 M N rfl) ?_
    refine jb_seg 1 (pc' := (if (jb_b2i (zf_23 x2 0 3)) = 0 then 20 else 22)) (ls' := [some (.ref 1), some (.int x1), some (.int x2)]) (st' := []) (σ' := (zE L, M, N)) (G := []) rfl trivial ?_
    refine jb_ite (fun c => ?_) (fun c => ?_)
    · rw [if_pos c] at h
      refine jb_seg 1 (pc' := 21) (ls' := [some (.ref 1), some (.int x1), some (.int x2)]) (st' := [(.int (-1))]) (σ' := (zE L, M, N)) (G := []) rfl trivial ?_
      cases h
      obtain ⟨rfl, rfl⟩ := hK
      exact jb_reti rfl rfl
    · rw [if_neg c] at h
      refine jb_seg 4 (pc' := 28) (ls' := [some (.ref 1), some (.int x1), some (.int x2)]) (st' := [(.int x2), (.int x1), (.ref 4)]) (σ' := (zE L, M, N)) (G := []) rfl trivial ?_
      obtain ⟨q2, h2, h⟩ := jb_bd_of h
      refine jb_callV (q' := zq_7) (As := [(.int x1), (.int x2)]) (rest := []) (σ1 := (zE L, M, N)) (v := some (.int q2)) rfl rfl zp_7 rfl (by decide) (jb_cat rfl) (Nat.le_of_ble_eq_true rfl) (Nat.le_of_ble_eq_true rfl) (Or.inl rfl) rfl (ze_7 (by omega) 4 x1 x2 M N (by decide) h2) ?_
      cases h
      obtain ⟨rfl, rfl⟩ := hK
      exact jb_reti rfl rfl
theorem ze_139 {Γ : jb_G} {L : Nat} {d : Nat} (hd : 3 ≤ d) (x1 : Int32) (x2 : Int32) (M : jb_Mi) (N : jb_Ml) {r : (Int32)} (h : zf_139 x1 x2 M = some r) : jb_V Γ d zq_139 0 (jb_en 3 [(.ref 1), (.int x1), (.int x2)]) [] (zE L, M, N) (some (.int r)) (zE L, M, N) := zg_139 hd x1 x2 M N h ⟨rfl, rfl⟩
-- X12_duty
noncomputable def zf_140 (x1 : Int32) (x2 : Int32) (M : jb_Mi) : Option (Int32) :=
  (zf_2 4 x1 M).bind fun q1 => if (jb_b2i q1) = 0 then some (-1) else if (jb_b2i (zf_23 x2 0 3)) = 0 then some (-1) else (zf_19 ((x1 * 4) + x2) (zf_14 4 M) M).bind fun q2 => some q2
set_option maxRecDepth 4000 in
theorem zg_140 {Γ : jb_G} {L : Nat} {d : Nat} (hd : 3 ≤ d) (x1 : Int32) (x2 : Int32) (M : jb_Mi) (N : jb_Ml) {v : Option Value} {σ2 : jb_S} {r : (Int32)} (h : zf_140 x1 x2 M = some r) (hK : (fun r : Int32 => v = some (.int r) ∧ σ2 = (zE L, M, N)) r) : jb_V Γ d zq_140 0 [some (.ref 1), some (.int x1), some (.int x2)] [] (zE L, M, N) v σ2 := by
  obtain ⟨d, rfl⟩ : ∃ e, d = e + 1 := ⟨d - 1, by omega⟩
  unfold zf_140 at h
  refine jb_seg 3 (pc' := 5) (ls' := [some (.ref 1), some (.int x1), some (.int x2)]) (st' := [(.int x1), (.ref 4)]) (σ' := (zE L, M, N)) (G := []) rfl trivial ?_
  obtain ⟨q1, h1, h⟩ := jb_bd_of h
  refine jb_callV (q' := zq_2) (As := [(.int x1)]) (rest := []) (σ1 := (zE L, M, N)) (v := some (.int (jb_b2i q1))) rfl rfl zp_2 rfl (by decide) (jb_cat rfl) (Nat.le_of_ble_eq_true rfl) (Nat.le_of_ble_eq_true rfl) (Or.inl rfl) rfl (ze_2 4 x1 M N (by decide) h1) ?_
  refine jb_seg 1 (pc' := (if (jb_b2i q1) = 0 then 20 else 11)) (ls' := [some (.ref 1), some (.int x1), some (.int x2)]) (st' := []) (σ' := (zE L, M, N)) (G := []) rfl trivial ?_
  refine jb_ite (fun c => ?_) (fun c => ?_)
  · rw [if_pos c] at h
    refine jb_seg 1 (pc' := 21) (ls' := [some (.ref 1), some (.int x1), some (.int x2)]) (st' := [(.int (-1))]) (σ' := (zE L, M, N)) (G := []) rfl trivial ?_
    cases h
    obtain ⟨rfl, rfl⟩ := hK
    exact jb_reti rfl rfl
  · rw [if_neg c] at h
    refine jb_seg 3 (pc' := 14) (ls' := [some (.ref 1), some (.int x1), some (.int x2)]) (st' := [(.int 3), (.int 0), (.int x2)]) (σ' := (zE L, M, N)) (G := []) rfl trivial ?_
    refine jb_callS (q' := zq_23) (As := [(.int x2), (.int 0), (.int 3)]) (rest := []) (σ1 := (zE L, M, N)) (v := some (.int (jb_b2i (zf_23 x2 0 3)))) rfl (by decide) rfl zp_23 (jb_cat rfl) (Nat.le_of_ble_eq_true rfl) (Nat.le_of_ble_eq_true rfl) (Or.inl rfl) rfl (ze_23 x2 0 3 M N rfl) ?_
    refine jb_seg 1 (pc' := (if (jb_b2i (zf_23 x2 0 3)) = 0 then 20 else 22)) (ls' := [some (.ref 1), some (.int x1), some (.int x2)]) (st' := []) (σ' := (zE L, M, N)) (G := []) rfl trivial ?_
    refine jb_ite (fun c => ?_) (fun c => ?_)
    · rw [if_pos c] at h
      refine jb_seg 1 (pc' := 21) (ls' := [some (.ref 1), some (.int x1), some (.int x2)]) (st' := [(.int (-1))]) (σ' := (zE L, M, N)) (G := []) rfl trivial ?_
      cases h
      obtain ⟨rfl, rfl⟩ := hK
      exact jb_reti rfl rfl
    · rw [if_neg c] at h
      refine jb_seg 9 (pc' := 35) (ls' := [some (.ref 1), some (.int x1), some (.int x2)]) (st' := [(.ref 4), (.int ((x1 * 4) + x2)), (.ref 41)]) (σ' := (zE L, M, N)) (G := []) rfl trivial ?_
      refine jb_callV (q' := zq_14) (As := []) (rest := [(.int ((x1 * 4) + x2)), (.ref 41)]) (σ1 := (zE L, M, N)) (v := some (.int (zf_14 4 M))) rfl rfl zp_14 rfl (by decide) (jb_cat rfl) (Nat.le_of_ble_eq_true rfl) (Nat.le_of_ble_eq_true rfl) (Or.inl rfl) rfl (ze_14 4 M N (by decide) rfl) ?_
      obtain ⟨q2, h2, h⟩ := jb_bd_of h
      refine jb_callV (q' := zq_19) (As := [(.int ((x1 * 4) + x2)), (.int (zf_14 4 M))]) (rest := []) (σ1 := (zE L, M, N)) (v := some (.int q2)) rfl rfl zp_19 rfl (by decide) (jb_cat rfl) (Nat.le_of_ble_eq_true rfl) (Nat.le_of_ble_eq_true rfl) (Or.inl rfl) rfl (ze_19 (by omega) ((x1 * 4) + x2) (zf_14 4 M) M N h2) ?_
      cases h
      obtain ⟨rfl, rfl⟩ := hK
      exact jb_reti rfl rfl
theorem ze_140 {Γ : jb_G} {L : Nat} {d : Nat} (hd : 3 ≤ d) (x1 : Int32) (x2 : Int32) (M : jb_Mi) (N : jb_Ml) {r : (Int32)} (h : zf_140 x1 x2 M = some r) : jb_V Γ d zq_140 0 (jb_en 3 [(.ref 1), (.int x1), (.int x2)]) [] (zE L, M, N) (some (.int r)) (zE L, M, N) := zg_140 hd x1 x2 M N h ⟨rfl, rfl⟩
-- X12_stands
noncomputable def zf_141_H43 (x1 : Int32) (x2 : Int32) (s : Int32 × jb_Mi) : Option ((Int32 × jb_Mi) ⊕ (Int32 × jb_Mi)) :=
  if x2 < s.1 then some (.inr ((-2), s.2)) else (zf_124 62 24 s.2).bind fun q4 => (zf_37 24 x1 q4).bind fun q5 => if (jb_b2i q5) = 0 then some (.inr (s.1, q4)) else some (.inl ((s.1 + 1), q4))
noncomputable def zf_141 (x1 : Int32) (x2 : Int32) (M : jb_Mi) : Option (Int32 × jb_Mi) :=
  (zf_2 4 x1 M).bind fun q1 => if (jb_b2i q1) = 0 then some ((-1), M) else if (jb_b2i (zf_23 x2 1 240)) = 0 then some ((-1), M) else (zf_37 4 x1 M).bind fun q2 => if (jb_b2i q2) = 0 then some (0, M) else (zf_134 M).bind fun q3 => jb_lp (zf_141_H43 x1 x2) (1, q3)
set_option maxRecDepth 4000 in
theorem zg_141_H43 {Γ : jb_G} {L : Nat} {d : Nat} (hd : 6 ≤ d) (x1 : Int32) (x2 : Int32) (N : jb_Ml) (s : Int32 × jb_Mi) {v : Option Value} {σ2 : jb_S} {r : ((Int32 × jb_Mi) ⊕ (Int32 × jb_Mi))} (h : zf_141_H43 x1 x2 s = some r) (hK : (jb_K (fun s : Int32 × jb_Mi => jb_V Γ d zq_141 43 [some (.ref 1), some (.int x1), some (.int x2), some (.int s.1)] [] (zE L, s.2, N) v σ2) (fun r : Int32 × jb_Mi => v = some (.int r.1) ∧ σ2 = (zE L, r.2, N))) r) : jb_V Γ d zq_141 43 [some (.ref 1), some (.int x1), some (.int x2), some (.int s.1)] [] (zE L, s.2, N) v σ2 := by
  obtain ⟨d, rfl⟩ : ∃ e, d = e + 1 := ⟨d - 1, by omega⟩
  unfold zf_141_H43 at h
  refine jb_seg 3 (pc' := (if x2 < s.1 then 74 else 48)) (ls' := [some (.ref 1), some (.int x1), some (.int x2), some (.int s.1)]) (st' := []) (σ' := (zE L, s.2, N)) (G := []) rfl trivial ?_
  refine jb_ite (fun c => ?_) (fun c => ?_)
  · rw [if_pos c] at h
    refine jb_seg 1 (pc' := 76) (ls' := [some (.ref 1), some (.int x1), some (.int x2), some (.int s.1)]) (st' := [(.int (-2))]) (σ' := (zE L, s.2, N)) (G := []) rfl trivial ?_
    cases h
    obtain ⟨rfl, rfl⟩ := hK
    exact jb_reti rfl rfl
  · rw [if_neg c] at h
    refine jb_seg 2 (pc' := 52) (ls' := [some (.ref 1), some (.int x1), some (.int x2), some (.int s.1)]) (st' := [(.ref 62)]) (σ' := (zE L, s.2, N)) (G := []) rfl trivial ?_
    obtain ⟨q4, h4, h⟩ := jb_bd_of h
    refine jb_callV (q' := zq_124) (As := []) (rest := []) (σ1 := (zE L, q4, N)) (v := none) rfl rfl zp_124 rfl (by decide) (jb_cat rfl) (Nat.le_of_ble_eq_true rfl) (Nat.le_of_ble_eq_true rfl) (Or.inl rfl) rfl (ze_124 (by omega) 62 24 s.2 N (by decide) h4) ?_
    refine jb_seg 3 (pc' := 60) (ls' := [some (.ref 1), some (.int x1), some (.int x2), some (.int s.1)]) (st' := [(.int x1), (.ref 24)]) (σ' := (zE L, q4, N)) (G := []) rfl trivial ?_
    obtain ⟨q5, h5, h⟩ := jb_bd_of h
    refine jb_callV (q' := zq_37) (As := [(.int x1)]) (rest := []) (σ1 := (zE L, q4, N)) (v := some (.int (jb_b2i q5))) rfl rfl zp_37 rfl (by decide) (jb_cat rfl) (Nat.le_of_ble_eq_true rfl) (Nat.le_of_ble_eq_true rfl) (Or.inl rfl) rfl (ze_37 24 x1 q4 N (by decide) h5) ?_
    refine jb_seg 1 (pc' := (if (jb_b2i q5) = 0 then 66 else 68)) (ls' := [some (.ref 1), some (.int x1), some (.int x2), some (.int s.1)]) (st' := []) (σ' := (zE L, q4, N)) (G := []) rfl trivial ?_
    refine jb_ite (fun c => ?_) (fun c => ?_)
    · rw [if_pos c] at h
      refine jb_seg 1 (pc' := 67) (ls' := [some (.ref 1), some (.int x1), some (.int x2), some (.int s.1)]) (st' := [(.int s.1)]) (σ' := (zE L, q4, N)) (G := []) rfl trivial ?_
      cases h
      obtain ⟨rfl, rfl⟩ := hK
      exact jb_reti rfl rfl
    · rw [if_neg c] at h
      refine jb_seg 2 (pc' := 43) (ls' := [some (.ref 1), some (.int x1), some (.int x2), some (.int (s.1 + 1))]) (st' := []) (σ' := (zE L, q4, N)) (G := []) rfl trivial ?_
      cases h
      exact jb_mask [true, true, true, true] rfl hK
theorem zg_141_H43L {Γ : jb_G} {L : Nat} {d : Nat} (hd : 6 ≤ d) (x1 : Int32) (x2 : Int32) (N : jb_Ml) {v : Option Value} {σ2 : jb_S} {s : Int32 × jb_Mi} {r : (Int32 × jb_Mi)} (h : jb_lp (zf_141_H43 x1 x2) s = some r) (hK : (fun r : Int32 × jb_Mi => v = some (.int r.1) ∧ σ2 = (zE L, r.2, N)) r) : jb_V Γ d zq_141 43 [some (.ref 1), some (.int x1), some (.int x2), some (.int s.1)] [] (zE L, s.2, N) v σ2 := by
  exact jb_lp_ind (P := fun s => jb_V Γ d zq_141 43 [some (.ref 1), some (.int x1), some (.int x2), some (.int s.1)] [] (zE L, s.2, N) v σ2) (K := (fun r : Int32 × jb_Mi => v = some (.int r.1) ∧ σ2 = (zE L, r.2, N))) (fun s r h hk => zg_141_H43 hd x1 x2 N s h (by cases r <;> exact hk)) h hK
set_option maxRecDepth 4000 in
theorem zg_141 {Γ : jb_G} {L : Nat} {d : Nat} (hd : 6 ≤ d) (x1 : Int32) (x2 : Int32) (M : jb_Mi) (N : jb_Ml) {v : Option Value} {σ2 : jb_S} {r : (Int32 × jb_Mi)} (h : zf_141 x1 x2 M = some r) (hK : (fun r : Int32 × jb_Mi => v = some (.int r.1) ∧ σ2 = (zE L, r.2, N)) r) : jb_V Γ d zq_141 0 [some (.ref 1), some (.int x1), some (.int x2), none] [] (zE L, M, N) v σ2 := by
  obtain ⟨d, rfl⟩ : ∃ e, d = e + 1 := ⟨d - 1, by omega⟩
  unfold zf_141 at h
  refine jb_seg 3 (pc' := 5) (ls' := [some (.ref 1), some (.int x1), some (.int x2), none]) (st' := [(.int x1), (.ref 4)]) (σ' := (zE L, M, N)) (G := []) rfl trivial ?_
  obtain ⟨q1, h1, h⟩ := jb_bd_of h
  refine jb_callV (q' := zq_2) (As := [(.int x1)]) (rest := []) (σ1 := (zE L, M, N)) (v := some (.int (jb_b2i q1))) rfl rfl zp_2 rfl (by decide) (jb_cat rfl) (Nat.le_of_ble_eq_true rfl) (Nat.le_of_ble_eq_true rfl) (Or.inl rfl) rfl (ze_2 4 x1 M N (by decide) h1) ?_
  refine jb_seg 1 (pc' := (if (jb_b2i q1) = 0 then 22 else 11)) (ls' := [some (.ref 1), some (.int x1), some (.int x2), none]) (st' := []) (σ' := (zE L, M, N)) (G := []) rfl trivial ?_
  refine jb_ite (fun c => ?_) (fun c => ?_)
  · rw [if_pos c] at h
    refine jb_seg 1 (pc' := 23) (ls' := [some (.ref 1), some (.int x1), some (.int x2), none]) (st' := [(.int (-1))]) (σ' := (zE L, M, N)) (G := []) rfl trivial ?_
    cases h
    obtain ⟨rfl, rfl⟩ := hK
    exact jb_reti rfl rfl
  · rw [if_neg c] at h
    refine jb_seg 3 (pc' := 16) (ls' := [some (.ref 1), some (.int x1), some (.int x2), none]) (st' := [(.int 240), (.int 1), (.int x2)]) (σ' := (zE L, M, N)) (G := []) rfl trivial ?_
    refine jb_callS (q' := zq_23) (As := [(.int x2), (.int 1), (.int 240)]) (rest := []) (σ1 := (zE L, M, N)) (v := some (.int (jb_b2i (zf_23 x2 1 240)))) rfl (by decide) rfl zp_23 (jb_cat rfl) (Nat.le_of_ble_eq_true rfl) (Nat.le_of_ble_eq_true rfl) (Or.inl rfl) rfl (ze_23 x2 1 240 M N rfl) ?_
    refine jb_seg 1 (pc' := (if (jb_b2i (zf_23 x2 1 240)) = 0 then 22 else 24)) (ls' := [some (.ref 1), some (.int x1), some (.int x2), none]) (st' := []) (σ' := (zE L, M, N)) (G := []) rfl trivial ?_
    refine jb_ite (fun c => ?_) (fun c => ?_)
    · rw [if_pos c] at h
      refine jb_seg 1 (pc' := 23) (ls' := [some (.ref 1), some (.int x1), some (.int x2), none]) (st' := [(.int (-1))]) (σ' := (zE L, M, N)) (G := []) rfl trivial ?_
      cases h
      obtain ⟨rfl, rfl⟩ := hK
      exact jb_reti rfl rfl
    · rw [if_neg c] at h
      refine jb_seg 3 (pc' := 29) (ls' := [some (.ref 1), some (.int x1), some (.int x2), none]) (st' := [(.int x1), (.ref 4)]) (σ' := (zE L, M, N)) (G := []) rfl trivial ?_
      obtain ⟨q2, h2, h⟩ := jb_bd_of h
      refine jb_callV (q' := zq_37) (As := [(.int x1)]) (rest := []) (σ1 := (zE L, M, N)) (v := some (.int (jb_b2i q2))) rfl rfl zp_37 rfl (by decide) (jb_cat rfl) (Nat.le_of_ble_eq_true rfl) (Nat.le_of_ble_eq_true rfl) (Or.inl rfl) rfl (ze_37 4 x1 M N (by decide) h2) ?_
      refine jb_seg 1 (pc' := (if (jb_b2i q2) = 0 then 35 else 37)) (ls' := [some (.ref 1), some (.int x1), some (.int x2), none]) (st' := []) (σ' := (zE L, M, N)) (G := []) rfl trivial ?_
      refine jb_ite (fun c => ?_) (fun c => ?_)
      · rw [if_pos c] at h
        refine jb_seg 1 (pc' := 36) (ls' := [some (.ref 1), some (.int x1), some (.int x2), none]) (st' := [(.int 0)]) (σ' := (zE L, M, N)) (G := []) rfl trivial ?_
        cases h
        obtain ⟨rfl, rfl⟩ := hK
        exact jb_reti rfl rfl
      · rw [if_neg c] at h
        refine jb_seg 1 (pc' := 38) (ls' := [some (.ref 1), some (.int x1), some (.int x2), none]) (st' := [(.ref 1)]) (σ' := (zE L, M, N)) (G := []) rfl trivial ?_
        obtain ⟨q3, h3, h⟩ := jb_bd_of h
        refine jb_callV (q' := zq_134) (As := []) (rest := []) (σ1 := (zE L, q3, N)) (v := none) rfl rfl zp_134 rfl (by decide) (jb_cat rfl) (Nat.le_of_ble_eq_true rfl) (Nat.le_of_ble_eq_true rfl) (Or.inl rfl) rfl (ze_134 (by omega) M N h3) ?_
        refine jb_seg 2 (pc' := 43) (ls' := [some (.ref 1), some (.int x1), some (.int x2), some (.int 1)]) (st' := []) (σ' := (zE L, q3, N)) (G := []) rfl trivial ?_
        exact jb_mask [true, true, true, true] rfl (zg_141_H43L hd x1 x2 N h hK)
theorem ze_141 {Γ : jb_G} {L : Nat} {d : Nat} (hd : 6 ≤ d) (x1 : Int32) (x2 : Int32) (M : jb_Mi) (N : jb_Ml) {r : (Int32 × jb_Mi)} (h : zf_141 x1 x2 M = some r) : jb_V Γ d zq_141 0 (jb_en 4 [(.ref 1), (.int x1), (.int x2)]) [] (zE L, M, N) (some (.int r.1)) (zE L, r.2, N) := zg_141 hd x1 x2 M N h ⟨rfl, rfl⟩
-- X12_fallsFirst
noncomputable def zf_142_J79 (x2 : Int32) (M : jb_Mi) : Option ((Int32) ⊕ (Int32 × jb_Mi)) :=
  some (.inl (x2 + 1))
noncomputable def zf_142_H49 (M : jb_Mi) (s : Int32) : Option ((Int32) ⊕ (Int32 × jb_Mi)) :=
  if s < 6 then (zf_37 4 s M).bind fun q3 => if (jb_b2i q3) = 0 then zf_142_J79 s M else (zf_37 24 s M).bind fun q4 => if (jb_b2i q4) = 0 then some (.inr (s, M)) else zf_142_J79 s M else some (.inr ((-2), M))
noncomputable def zf_142_J47 (M : jb_Mi) : Option (Int32 × jb_Mi) :=
  jb_lp (zf_142_H49 M) 0
noncomputable def zf_142_H19 (x1 : Int32) (s : Int32 × jb_Mi) : Option ((Int32 × jb_Mi) ⊕ (Int32 × jb_Mi)) :=
  if s.1 < x1 then if (s.2 62 8) = 0 then (zf_124 62 24 s.2).bind fun q2 => some (.inl ((s.1 + 1), q2)) else ((zf_142_J47 s.2).map .inr) else ((zf_142_J47 s.2).map .inr)
noncomputable def zf_142 (x1 : Int32) (M : jb_Mi) : Option (Int32 × jb_Mi) :=
  if (jb_b2i (zf_23 x1 1 240)) = 0 then some ((-1), M) else (zf_134 M).bind fun q1 => jb_lp (zf_142_H19 x1) (0, q1)
set_option maxRecDepth 4000 in
theorem zg_142_J79 {Γ : jb_G} {L : Nat} {d : Nat} (hd : 6 ≤ d) (x2 : Int32) (M : jb_Mi) (N : jb_Ml) {v : Option Value} {σ2 : jb_S} {r : ((Int32) ⊕ (Int32 × jb_Mi))} (h : zf_142_J79 x2 M = some r) (hK : (jb_K (fun s : Int32 => jb_V Γ d zq_142 49 [some (.ref 1), none, some (.int s)] [] (zE L, M, N) v σ2) (fun r : Int32 × jb_Mi => v = some (.int r.1) ∧ σ2 = (zE L, r.2, N))) r) : jb_V Γ d zq_142 79 [some (.ref 1), none, some (.int x2)] [] (zE L, M, N) v σ2 := by
  obtain ⟨d, rfl⟩ : ∃ e, d = e + 1 := ⟨d - 1, by omega⟩
  unfold zf_142_J79 at h
  refine jb_seg 2 (pc' := 49) (ls' := [some (.ref 1), none, some (.int (x2 + 1))]) (st' := []) (σ' := (zE L, M, N)) (G := []) rfl trivial ?_
  cases h
  exact jb_mask [true, false, true] rfl hK
set_option maxRecDepth 4000 in
theorem zg_142_H49 {Γ : jb_G} {L : Nat} {d : Nat} (hd : 6 ≤ d) (M : jb_Mi) (N : jb_Ml) (s : Int32) {v : Option Value} {σ2 : jb_S} {r : ((Int32) ⊕ (Int32 × jb_Mi))} (h : zf_142_H49 M s = some r) (hK : (jb_K (fun s : Int32 => jb_V Γ d zq_142 49 [some (.ref 1), none, some (.int s)] [] (zE L, M, N) v σ2) (fun r : Int32 × jb_Mi => v = some (.int r.1) ∧ σ2 = (zE L, r.2, N))) r) : jb_V Γ d zq_142 49 [some (.ref 1), none, some (.int s)] [] (zE L, M, N) v σ2 := by
  obtain ⟨d, rfl⟩ : ∃ e, d = e + 1 := ⟨d - 1, by omega⟩
  unfold zf_142_H49 at h
  refine jb_seg 3 (pc' := (if s < 6 then 55 else 85)) (ls' := [some (.ref 1), none, some (.int s)]) (st' := []) (σ' := (zE L, M, N)) (G := []) rfl trivial ?_
  refine jb_ite (fun c => ?_) (fun c => ?_)
  · rw [if_pos c] at h
    refine jb_seg 3 (pc' := 60) (ls' := [some (.ref 1), none, some (.int s)]) (st' := [(.int s), (.ref 4)]) (σ' := (zE L, M, N)) (G := []) rfl trivial ?_
    obtain ⟨q3, h3, h⟩ := jb_bd_of h
    refine jb_callV (q' := zq_37) (As := [(.int s)]) (rest := []) (σ1 := (zE L, M, N)) (v := some (.int (jb_b2i q3))) rfl rfl zp_37 rfl (by decide) (jb_cat rfl) (Nat.le_of_ble_eq_true rfl) (Nat.le_of_ble_eq_true rfl) (Or.inl rfl) rfl (ze_37 4 s M N (by decide) h3) ?_
    refine jb_seg 1 (pc' := (if (jb_b2i q3) = 0 then 79 else 66)) (ls' := [some (.ref 1), none, some (.int s)]) (st' := []) (σ' := (zE L, M, N)) (G := []) rfl trivial ?_
    refine jb_ite (fun c => ?_) (fun c => ?_)
    · rw [if_pos c] at h
      exact jb_mask [true, false, true] rfl (zg_142_J79 hd s M N h hK)
    · rw [if_neg c] at h
      refine jb_seg 3 (pc' := 71) (ls' := [some (.ref 1), none, some (.int s)]) (st' := [(.int s), (.ref 24)]) (σ' := (zE L, M, N)) (G := []) rfl trivial ?_
      obtain ⟨q4, h4, h⟩ := jb_bd_of h
      refine jb_callV (q' := zq_37) (As := [(.int s)]) (rest := []) (σ1 := (zE L, M, N)) (v := some (.int (jb_b2i q4))) rfl rfl zp_37 rfl (by decide) (jb_cat rfl) (Nat.le_of_ble_eq_true rfl) (Nat.le_of_ble_eq_true rfl) (Or.inl rfl) rfl (ze_37 24 s M N (by decide) h4) ?_
      refine jb_seg 1 (pc' := (if (jb_b2i q4) = 0 then 77 else 79)) (ls' := [some (.ref 1), none, some (.int s)]) (st' := []) (σ' := (zE L, M, N)) (G := []) rfl trivial ?_
      refine jb_ite (fun c => ?_) (fun c => ?_)
      · rw [if_pos c] at h
        refine jb_seg 1 (pc' := 78) (ls' := [some (.ref 1), none, some (.int s)]) (st' := [(.int s)]) (σ' := (zE L, M, N)) (G := []) rfl trivial ?_
        cases h
        obtain ⟨rfl, rfl⟩ := hK
        exact jb_reti rfl rfl
      · rw [if_neg c] at h
        exact jb_mask [true, false, true] rfl (zg_142_J79 hd s M N h hK)
  · rw [if_neg c] at h
    refine jb_seg 1 (pc' := 87) (ls' := [some (.ref 1), none, some (.int s)]) (st' := [(.int (-2))]) (σ' := (zE L, M, N)) (G := []) rfl trivial ?_
    cases h
    obtain ⟨rfl, rfl⟩ := hK
    exact jb_reti rfl rfl
theorem zg_142_H49L {Γ : jb_G} {L : Nat} {d : Nat} (hd : 6 ≤ d) (M : jb_Mi) (N : jb_Ml) {v : Option Value} {σ2 : jb_S} {s : Int32} {r : (Int32 × jb_Mi)} (h : jb_lp (zf_142_H49 M) s = some r) (hK : (fun r : Int32 × jb_Mi => v = some (.int r.1) ∧ σ2 = (zE L, r.2, N)) r) : jb_V Γ d zq_142 49 [some (.ref 1), none, some (.int s)] [] (zE L, M, N) v σ2 := by
  exact jb_lp_ind (P := fun s => jb_V Γ d zq_142 49 [some (.ref 1), none, some (.int s)] [] (zE L, M, N) v σ2) (K := (fun r : Int32 × jb_Mi => v = some (.int r.1) ∧ σ2 = (zE L, r.2, N))) (fun s r h hk => zg_142_H49 hd M N s h (by cases r <;> exact hk)) h hK
set_option maxRecDepth 4000 in
theorem zg_142_J47 {Γ : jb_G} {L : Nat} {d : Nat} (hd : 6 ≤ d) (M : jb_Mi) (N : jb_Ml) {v : Option Value} {σ2 : jb_S} {r : (Int32 × jb_Mi)} (h : zf_142_J47 M = some r) (hK : (fun r : Int32 × jb_Mi => v = some (.int r.1) ∧ σ2 = (zE L, r.2, N)) r) : jb_V Γ d zq_142 47 [some (.ref 1), none, none] [] (zE L, M, N) v σ2 := by
  obtain ⟨d, rfl⟩ : ∃ e, d = e + 1 := ⟨d - 1, by omega⟩
  unfold zf_142_J47 at h
  refine jb_seg 2 (pc' := 49) (ls' := [some (.ref 1), none, some (.int 0)]) (st' := []) (σ' := (zE L, M, N)) (G := []) rfl trivial ?_
  exact jb_mask [true, false, true] rfl (zg_142_H49L hd M N h hK)
set_option maxRecDepth 4000 in
theorem zg_142_H19 {Γ : jb_G} {L : Nat} {d : Nat} (hd : 6 ≤ d) (x1 : Int32) (N : jb_Ml) (s : Int32 × jb_Mi) {v : Option Value} {σ2 : jb_S} {r : ((Int32 × jb_Mi) ⊕ (Int32 × jb_Mi))} (h : zf_142_H19 x1 s = some r) (hK : (jb_K (fun s : Int32 × jb_Mi => jb_V Γ d zq_142 19 [some (.ref 1), some (.int x1), some (.int s.1)] [] (zE L, s.2, N) v σ2) (fun r : Int32 × jb_Mi => v = some (.int r.1) ∧ σ2 = (zE L, r.2, N))) r) : jb_V Γ d zq_142 19 [some (.ref 1), some (.int x1), some (.int s.1)] [] (zE L, s.2, N) v σ2 := by
  obtain ⟨d, rfl⟩ : ∃ e, d = e + 1 := ⟨d - 1, by omega⟩
  unfold zf_142_H19 at h
  refine jb_seg 3 (pc' := (if s.1 < x1 then 24 else 47)) (ls' := [some (.ref 1), some (.int x1), some (.int s.1)]) (st' := []) (σ' := (zE L, s.2, N)) (G := []) rfl trivial ?_
  refine jb_ite (fun c => ?_) (fun c => ?_)
  · rw [if_pos c] at h
    refine jb_seg 4 (pc' := (if (s.2 62 8) = 0 then 34 else 47)) (ls' := [some (.ref 1), some (.int x1), some (.int s.1)]) (st' := []) (σ' := (zE L, s.2, N)) (G := []) rfl trivial ?_
    refine jb_ite (fun c => ?_) (fun c => ?_)
    · rw [if_pos c] at h
      refine jb_seg 2 (pc' := 38) (ls' := [some (.ref 1), some (.int x1), some (.int s.1)]) (st' := [(.ref 62)]) (σ' := (zE L, s.2, N)) (G := []) rfl trivial ?_
      obtain ⟨q2, h2, h⟩ := jb_bd_of h
      refine jb_callV (q' := zq_124) (As := []) (rest := []) (σ1 := (zE L, q2, N)) (v := none) rfl rfl zp_124 rfl (by decide) (jb_cat rfl) (Nat.le_of_ble_eq_true rfl) (Nat.le_of_ble_eq_true rfl) (Or.inl rfl) rfl (ze_124 (by omega) 62 24 s.2 N (by decide) h2) ?_
      refine jb_seg 2 (pc' := 19) (ls' := [some (.ref 1), some (.int x1), some (.int (s.1 + 1))]) (st' := []) (σ' := (zE L, q2, N)) (G := []) rfl trivial ?_
      cases h
      exact jb_mask [true, true, true] rfl hK
    · rw [if_neg c] at h
      obtain ⟨y0, hy0, rfl⟩ := jb_mp_of h
      exact jb_mask [true, false, false] rfl (zg_142_J47 hd s.2 N hy0 hK)
  · rw [if_neg c] at h
    obtain ⟨y0, hy0, rfl⟩ := jb_mp_of h
    exact jb_mask [true, false, false] rfl (zg_142_J47 hd s.2 N hy0 hK)
theorem zg_142_H19L {Γ : jb_G} {L : Nat} {d : Nat} (hd : 6 ≤ d) (x1 : Int32) (N : jb_Ml) {v : Option Value} {σ2 : jb_S} {s : Int32 × jb_Mi} {r : (Int32 × jb_Mi)} (h : jb_lp (zf_142_H19 x1) s = some r) (hK : (fun r : Int32 × jb_Mi => v = some (.int r.1) ∧ σ2 = (zE L, r.2, N)) r) : jb_V Γ d zq_142 19 [some (.ref 1), some (.int x1), some (.int s.1)] [] (zE L, s.2, N) v σ2 := by
  exact jb_lp_ind (P := fun s => jb_V Γ d zq_142 19 [some (.ref 1), some (.int x1), some (.int s.1)] [] (zE L, s.2, N) v σ2) (K := (fun r : Int32 × jb_Mi => v = some (.int r.1) ∧ σ2 = (zE L, r.2, N))) (fun s r h hk => zg_142_H19 hd x1 N s h (by cases r <;> exact hk)) h hK
set_option maxRecDepth 4000 in
theorem zg_142 {Γ : jb_G} {L : Nat} {d : Nat} (hd : 6 ≤ d) (x1 : Int32) (M : jb_Mi) (N : jb_Ml) {v : Option Value} {σ2 : jb_S} {r : (Int32 × jb_Mi)} (h : zf_142 x1 M = some r) (hK : (fun r : Int32 × jb_Mi => v = some (.int r.1) ∧ σ2 = (zE L, r.2, N)) r) : jb_V Γ d zq_142 0 [some (.ref 1), some (.int x1), none] [] (zE L, M, N) v σ2 := by
  obtain ⟨d, rfl⟩ : ∃ e, d = e + 1 := ⟨d - 1, by omega⟩
  unfold zf_142 at h
  refine jb_seg 3 (pc' := 5) (ls' := [some (.ref 1), some (.int x1), none]) (st' := [(.int 240), (.int 1), (.int x1)]) (σ' := (zE L, M, N)) (G := []) rfl trivial ?_
  refine jb_callS (q' := zq_23) (As := [(.int x1), (.int 1), (.int 240)]) (rest := []) (σ1 := (zE L, M, N)) (v := some (.int (jb_b2i (zf_23 x1 1 240)))) rfl (by decide) rfl zp_23 (jb_cat rfl) (Nat.le_of_ble_eq_true rfl) (Nat.le_of_ble_eq_true rfl) (Or.inl rfl) rfl (ze_23 x1 1 240 M N rfl) ?_
  refine jb_seg 1 (pc' := (if (jb_b2i (zf_23 x1 1 240)) = 0 then 11 else 13)) (ls' := [some (.ref 1), some (.int x1), none]) (st' := []) (σ' := (zE L, M, N)) (G := []) rfl trivial ?_
  refine jb_ite (fun c => ?_) (fun c => ?_)
  · rw [if_pos c] at h
    refine jb_seg 1 (pc' := 12) (ls' := [some (.ref 1), some (.int x1), none]) (st' := [(.int (-1))]) (σ' := (zE L, M, N)) (G := []) rfl trivial ?_
    cases h
    obtain ⟨rfl, rfl⟩ := hK
    exact jb_reti rfl rfl
  · rw [if_neg c] at h
    refine jb_seg 1 (pc' := 14) (ls' := [some (.ref 1), some (.int x1), none]) (st' := [(.ref 1)]) (σ' := (zE L, M, N)) (G := []) rfl trivial ?_
    obtain ⟨q1, h1, h⟩ := jb_bd_of h
    refine jb_callV (q' := zq_134) (As := []) (rest := []) (σ1 := (zE L, q1, N)) (v := none) rfl rfl zp_134 rfl (by decide) (jb_cat rfl) (Nat.le_of_ble_eq_true rfl) (Nat.le_of_ble_eq_true rfl) (Or.inl rfl) rfl (ze_134 (by omega) M N h1) ?_
    refine jb_seg 2 (pc' := 19) (ls' := [some (.ref 1), some (.int x1), some (.int 0)]) (st' := []) (σ' := (zE L, q1, N)) (G := []) rfl trivial ?_
    exact jb_mask [true, true, true] rfl (zg_142_H19L hd x1 N h hK)
theorem ze_142 {Γ : jb_G} {L : Nat} {d : Nat} (hd : 6 ≤ d) (x1 : Int32) (M : jb_Mi) (N : jb_Ml) {r : (Int32 × jb_Mi)} (h : zf_142 x1 M = some r) : jb_V Γ d zq_142 0 (jb_en 3 [(.ref 1), (.int x1)]) [] (zE L, M, N) (some (.int r.1)) (zE L, r.2, N) := zg_142 hd x1 M N h ⟨rfl, rfl⟩
-- X12_bed
noncomputable def zf_143 (x1 : Int32) (x2 : Int32) (x3 : Int32) (M : jb_Mi) : Option (Int32 × jb_Mi) :=
  (zf_2 4 x1 M).bind fun q1 => if (jb_b2i q1) = 0 then some ((-1), M) else if (jb_b2i (zf_23 x2 1 99)) = 0 then some ((-1), M) else if (jb_b2i (zf_23 x3 0 2)) = 0 then some ((-1), M) else (zf_9 x1 x2 M).bind fun q2 => if x3 = 0 then some ((q2 64 6), q2) else if x3 = 1 then some ((q2 64 7), q2) else some ((q2 64 8), q2)
set_option maxRecDepth 4000 in
theorem zg_143 {Γ : jb_G} {L : Nat} {d : Nat} (hd : 5 ≤ d) (x1 : Int32) (x2 : Int32) (x3 : Int32) (M : jb_Mi) (N : jb_Ml) {v : Option Value} {σ2 : jb_S} {r : (Int32 × jb_Mi)} (h : zf_143 x1 x2 x3 M = some r) (hK : (fun r : Int32 × jb_Mi => v = some (.int r.1) ∧ σ2 = (zE L, r.2, N)) r) : jb_V Γ d zq_143 0 [some (.ref 1), some (.int x1), some (.int x2), some (.int x3)] [] (zE L, M, N) v σ2 := by
  obtain ⟨d, rfl⟩ : ∃ e, d = e + 1 := ⟨d - 1, by omega⟩
  unfold zf_143 at h
  refine jb_seg 3 (pc' := 5) (ls' := [some (.ref 1), some (.int x1), some (.int x2), some (.int x3)]) (st' := [(.int x1), (.ref 4)]) (σ' := (zE L, M, N)) (G := []) rfl trivial ?_
  obtain ⟨q1, h1, h⟩ := jb_bd_of h
  refine jb_callV (q' := zq_2) (As := [(.int x1)]) (rest := []) (σ1 := (zE L, M, N)) (v := some (.int (jb_b2i q1))) rfl rfl zp_2 rfl (by decide) (jb_cat rfl) (Nat.le_of_ble_eq_true rfl) (Nat.le_of_ble_eq_true rfl) (Or.inl rfl) rfl (ze_2 4 x1 M N (by decide) h1) ?_
  refine jb_seg 1 (pc' := (if (jb_b2i q1) = 0 then 30 else 11)) (ls' := [some (.ref 1), some (.int x1), some (.int x2), some (.int x3)]) (st' := []) (σ' := (zE L, M, N)) (G := []) rfl trivial ?_
  refine jb_ite (fun c => ?_) (fun c => ?_)
  · rw [if_pos c] at h
    refine jb_seg 1 (pc' := 31) (ls' := [some (.ref 1), some (.int x1), some (.int x2), some (.int x3)]) (st' := [(.int (-1))]) (σ' := (zE L, M, N)) (G := []) rfl trivial ?_
    cases h
    obtain ⟨rfl, rfl⟩ := hK
    exact jb_reti rfl rfl
  · rw [if_neg c] at h
    refine jb_seg 3 (pc' := 15) (ls' := [some (.ref 1), some (.int x1), some (.int x2), some (.int x3)]) (st' := [(.int 99), (.int 1), (.int x2)]) (σ' := (zE L, M, N)) (G := []) rfl trivial ?_
    refine jb_callS (q' := zq_23) (As := [(.int x2), (.int 1), (.int 99)]) (rest := []) (σ1 := (zE L, M, N)) (v := some (.int (jb_b2i (zf_23 x2 1 99)))) rfl (by decide) rfl zp_23 (jb_cat rfl) (Nat.le_of_ble_eq_true rfl) (Nat.le_of_ble_eq_true rfl) (Or.inl rfl) rfl (ze_23 x2 1 99 M N rfl) ?_
    refine jb_seg 1 (pc' := (if (jb_b2i (zf_23 x2 1 99)) = 0 then 30 else 21)) (ls' := [some (.ref 1), some (.int x1), some (.int x2), some (.int x3)]) (st' := []) (σ' := (zE L, M, N)) (G := []) rfl trivial ?_
    refine jb_ite (fun c => ?_) (fun c => ?_)
    · rw [if_pos c] at h
      refine jb_seg 1 (pc' := 31) (ls' := [some (.ref 1), some (.int x1), some (.int x2), some (.int x3)]) (st' := [(.int (-1))]) (σ' := (zE L, M, N)) (G := []) rfl trivial ?_
      cases h
      obtain ⟨rfl, rfl⟩ := hK
      exact jb_reti rfl rfl
    · rw [if_neg c] at h
      refine jb_seg 3 (pc' := 24) (ls' := [some (.ref 1), some (.int x1), some (.int x2), some (.int x3)]) (st' := [(.int 2), (.int 0), (.int x3)]) (σ' := (zE L, M, N)) (G := []) rfl trivial ?_
      refine jb_callS (q' := zq_23) (As := [(.int x3), (.int 0), (.int 2)]) (rest := []) (σ1 := (zE L, M, N)) (v := some (.int (jb_b2i (zf_23 x3 0 2)))) rfl (by decide) rfl zp_23 (jb_cat rfl) (Nat.le_of_ble_eq_true rfl) (Nat.le_of_ble_eq_true rfl) (Or.inl rfl) rfl (ze_23 x3 0 2 M N rfl) ?_
      refine jb_seg 1 (pc' := (if (jb_b2i (zf_23 x3 0 2)) = 0 then 30 else 32)) (ls' := [some (.ref 1), some (.int x1), some (.int x2), some (.int x3)]) (st' := []) (σ' := (zE L, M, N)) (G := []) rfl trivial ?_
      refine jb_ite (fun c => ?_) (fun c => ?_)
      · rw [if_pos c] at h
        refine jb_seg 1 (pc' := 31) (ls' := [some (.ref 1), some (.int x1), some (.int x2), some (.int x3)]) (st' := [(.int (-1))]) (σ' := (zE L, M, N)) (G := []) rfl trivial ?_
        cases h
        obtain ⟨rfl, rfl⟩ := hK
        exact jb_reti rfl rfl
      · rw [if_neg c] at h
        refine jb_seg 4 (pc' := 38) (ls' := [some (.ref 1), some (.int x1), some (.int x2), some (.int x3)]) (st' := [(.int x2), (.int x1), (.ref 64)]) (σ' := (zE L, M, N)) (G := []) rfl trivial ?_
        obtain ⟨q2, h2, h⟩ := jb_bd_of h
        refine jb_callV (q' := zq_9) (As := [(.int x1), (.int x2)]) (rest := []) (σ1 := (zE L, q2, N)) (v := none) rfl rfl zp_9 rfl (by decide) (jb_cat rfl) (Nat.le_of_ble_eq_true rfl) (Nat.le_of_ble_eq_true rfl) (Or.inl rfl) rfl (ze_9 (by omega) x1 x2 M N h2) ?_
        refine jb_seg 1 (pc' := 42) (ls' := [some (.ref 1), some (.int x1), some (.int x2), some (.int x3)]) (st' := [(.int x3)]) (σ' := (zE L, q2, N)) (G := []) rfl trivial ?_
        refine jb_lsw [(0, 68), (1, 76)] 84 rfl (by decide +kernel) (by decide +kernel) ?_
        refine jb_swc (fun c => ?_) (fun c => ?_)
        · rw [if_pos c] at h
          refine jb_seg 3 (pc' := 75) (ls' := [some (.ref 1), some (.int x1), some (.int x2), some (.int x3)]) (st' := [(.int (q2 64 6))]) (σ' := (zE L, q2, N)) (G := []) rfl trivial ?_
          cases h
          obtain ⟨rfl, rfl⟩ := hK
          exact jb_reti rfl rfl
        · rw [if_neg c] at h
          refine jb_swc (fun c => ?_) (fun c => ?_)
          · rw [if_pos c] at h
            refine jb_seg 3 (pc' := 83) (ls' := [some (.ref 1), some (.int x1), some (.int x2), some (.int x3)]) (st' := [(.int (q2 64 7))]) (σ' := (zE L, q2, N)) (G := []) rfl trivial ?_
            cases h
            obtain ⟨rfl, rfl⟩ := hK
            exact jb_reti rfl rfl
          · rw [if_neg c] at h
            refine jb_swn ?_
            refine jb_seg 3 (pc' := 91) (ls' := [some (.ref 1), some (.int x1), some (.int x2), some (.int x3)]) (st' := [(.int (q2 64 8))]) (σ' := (zE L, q2, N)) (G := []) rfl trivial ?_
            cases h
            obtain ⟨rfl, rfl⟩ := hK
            exact jb_reti rfl rfl
theorem ze_143 {Γ : jb_G} {L : Nat} {d : Nat} (hd : 5 ≤ d) (x1 : Int32) (x2 : Int32) (x3 : Int32) (M : jb_Mi) (N : jb_Ml) {r : (Int32 × jb_Mi)} (h : zf_143 x1 x2 x3 M = some r) : jb_V Γ d zq_143 0 (jb_en 4 [(.ref 1), (.int x1), (.int x2), (.int x3)]) [] (zE L, M, N) (some (.int r.1)) (zE L, r.2, N) := zg_143 hd x1 x2 x3 M N h ⟨rfl, rfl⟩
-- X12_greatestDivisor
noncomputable def zf_144_H7 (s : Int32 × Int32 × Int32) : Option ((Int32 × Int32 × Int32) ⊕ (Int32)) :=
  if s.2.2 < 64 then if s.2.1 = 0 then some (.inr s.1) else jb_g0 s.2.1 (some (.inl (s.2.1, (s.1 - s.1 / s.2.1 * s.2.1), (s.2.2 + 1)))) else some (.inr s.1)
noncomputable def zf_144 (x0 : Int32) (x1 : Int32) : Option (Int32) :=
  jb_lp (zf_144_H7) (x0, x1, 0)
set_option maxRecDepth 4000 in
theorem zg_144_H7 {Γ : jb_G} {L : Nat} {d : Nat} (M : jb_Mi) (N : jb_Ml) (s : Int32 × Int32 × Int32) {v : Option Value} {σ2 : jb_S} {r : ((Int32 × Int32 × Int32) ⊕ (Int32))} (h : zf_144_H7 s = some r) (hK : (jb_K (fun s : Int32 × Int32 × Int32 => jb_V Γ d zq_144 7 [none, none, some (.int s.1), some (.int s.2.1), some (.int s.2.2), none] [] (zE L, M, N) v σ2) (fun r : Int32 => v = some (.int r) ∧ σ2 = (zE L, M, N))) r) : jb_V Γ d zq_144 7 [none, none, some (.int s.1), some (.int s.2.1), some (.int s.2.2), none] [] (zE L, M, N) v σ2 := by
  unfold zf_144_H7 at h
  refine jb_seg 3 (pc' := (if s.2.2 < 64 then 14 else 34)) (ls' := [none, none, some (.int s.1), some (.int s.2.1), some (.int s.2.2), none]) (st' := []) (σ' := (zE L, M, N)) (G := []) rfl trivial ?_
  refine jb_ite (fun c => ?_) (fun c => ?_)
  · rw [if_pos c] at h
    refine jb_seg 2 (pc' := (if s.2.1 = 0 then 34 else 18)) (ls' := [none, none, some (.int s.1), some (.int s.2.1), some (.int s.2.2), none]) (st' := []) (σ' := (zE L, M, N)) (G := []) rfl trivial ?_
    refine jb_ite (fun c => ?_) (fun c => ?_)
    · rw [if_pos c] at h
      refine jb_seg 1 (pc' := 35) (ls' := [none, none, some (.int s.1), some (.int s.2.1), some (.int s.2.2), none]) (st' := [(.int s.1)]) (σ' := (zE L, M, N)) (G := []) rfl trivial ?_
      cases h
      obtain ⟨rfl, rfl⟩ := hK
      exact jb_reti rfl rfl
    · rw [if_neg c] at h
      obtain ⟨g1, h⟩ := jb_g0_of h
      refine jb_seg 10 (pc' := 7) (ls' := [none, none, some (.int s.2.1), some (.int (s.1 - s.1 / s.2.1 * s.2.1)), some (.int (s.2.2 + 1)), some (.int (s.1 - s.1 / s.2.1 * s.2.1))]) (st' := []) (σ' := (zE L, M, N)) (G := [¬ (s.2.1 : Int32) = 0]) rfl g1 ?_
      cases h
      exact jb_mask [false, false, true, true, true, false] rfl hK
  · rw [if_neg c] at h
    refine jb_seg 1 (pc' := 35) (ls' := [none, none, some (.int s.1), some (.int s.2.1), some (.int s.2.2), none]) (st' := [(.int s.1)]) (σ' := (zE L, M, N)) (G := []) rfl trivial ?_
    cases h
    obtain ⟨rfl, rfl⟩ := hK
    exact jb_reti rfl rfl
theorem zg_144_H7L {Γ : jb_G} {L : Nat} {d : Nat} (M : jb_Mi) (N : jb_Ml) {v : Option Value} {σ2 : jb_S} {s : Int32 × Int32 × Int32} {r : (Int32)} (h : jb_lp (zf_144_H7) s = some r) (hK : (fun r : Int32 => v = some (.int r) ∧ σ2 = (zE L, M, N)) r) : jb_V Γ d zq_144 7 [none, none, some (.int s.1), some (.int s.2.1), some (.int s.2.2), none] [] (zE L, M, N) v σ2 := by
  exact jb_lp_ind (P := fun s => jb_V Γ d zq_144 7 [none, none, some (.int s.1), some (.int s.2.1), some (.int s.2.2), none] [] (zE L, M, N) v σ2) (K := (fun r : Int32 => v = some (.int r) ∧ σ2 = (zE L, M, N))) (fun s r h hk => zg_144_H7 M N s h (by cases r <;> exact hk)) h hK
set_option maxRecDepth 4000 in
theorem zg_144 {Γ : jb_G} {L : Nat} {d : Nat} (x0 : Int32) (x1 : Int32) (M : jb_Mi) (N : jb_Ml) {v : Option Value} {σ2 : jb_S} {r : (Int32)} (h : zf_144 x0 x1 = some r) (hK : (fun r : Int32 => v = some (.int r) ∧ σ2 = (zE L, M, N)) r) : jb_V Γ d zq_144 0 [some (.int x0), some (.int x1), none, none, none, none] [] (zE L, M, N) v σ2 := by
  unfold zf_144 at h
  refine jb_seg 6 (pc' := 7) (ls' := [some (.int x0), some (.int x1), some (.int x0), some (.int x1), some (.int 0), none]) (st' := []) (σ' := (zE L, M, N)) (G := []) rfl trivial ?_
  exact jb_mask [false, false, true, true, true, false] rfl (zg_144_H7L M N h hK)
theorem ze_144 {Γ : jb_G} {L : Nat} {d : Nat} (x0 : Int32) (x1 : Int32) (M : jb_Mi) (N : jb_Ml) {r : (Int32)} (h : zf_144 x0 x1 = some r) : jb_V Γ d zq_144 0 (jb_en 6 [(.int x0), (.int x1)]) [] (zE L, M, N) (some (.int r)) (zE L, M, N) := zg_144 x0 x1 M N h ⟨rfl, rfl⟩
-- X12_stand
noncomputable def zf_145_J105 (x4 : Int32) (s0 : Int32) (M : jb_Mi) : Option (Int32 × jb_Mi) :=
  jb_g0 x4 (some ((s0 / x4), M))
noncomputable def zf_145 (x1 : Int32) (x2 : Int32) (x3 : Int32) (M : jb_Mi) : Option (Int32 × jb_Mi) :=
  (zf_2 4 x1 M).bind fun q1 => if (jb_b2i q1) = 0 then some ((-1), M) else if (jb_b2i (zf_23 x3 0 5)) = 0 then some ((-1), M) else (zf_104 4 x2 M).bind fun q2 => if (jb_b2i q2) = 0 then some ((-1), M) else (zf_12 x1 x2 M).bind fun q3 => if x3 < 4 then jb_gd x3 4 (some ((q3 69 x3.toNatClampNeg), q3)) else (zf_144 (q3 64 10) (q3 64 11)).bind fun q5 => if 0 < q5 then if x3 = 4 then zf_145_J105 q5 (q3 64 10) q3 else zf_145_J105 q5 (q3 64 11) q3 else some ((-1), q3)
set_option maxRecDepth 4000 in
theorem zg_145_J105 {Γ : jb_G} {L : Nat} {d : Nat} (hd : 5 ≤ d) (x4 : Int32) (s0 : Int32) (M : jb_Mi) (N : jb_Ml) {v : Option Value} {σ2 : jb_S} {r : (Int32 × jb_Mi)} (h : zf_145_J105 x4 s0 M = some r) (hK : (fun r : Int32 × jb_Mi => v = some (.int r.1) ∧ σ2 = (zE L, r.2, N)) r) : jb_V Γ d zq_145 105 [none, none, none, none, some (.int x4)] [(.int s0)] (zE L, M, N) v σ2 := by
  obtain ⟨d, rfl⟩ : ∃ e, d = e + 1 := ⟨d - 1, by omega⟩
  unfold zf_145_J105 at h
  obtain ⟨g6, h⟩ := jb_g0_of h
  refine jb_seg 2 (pc' := 108) (ls' := [none, none, none, none, some (.int x4)]) (st' := [(.int (s0 / x4))]) (σ' := (zE L, M, N)) (G := [¬ (x4 : Int32) = 0]) rfl g6 ?_
  cases h
  obtain ⟨rfl, rfl⟩ := hK
  exact jb_reti rfl rfl
set_option maxRecDepth 4000 in
theorem zg_145 {Γ : jb_G} {L : Nat} {d : Nat} (hd : 5 ≤ d) (x1 : Int32) (x2 : Int32) (x3 : Int32) (M : jb_Mi) (N : jb_Ml) {v : Option Value} {σ2 : jb_S} {r : (Int32 × jb_Mi)} (h : zf_145 x1 x2 x3 M = some r) (hK : (fun r : Int32 × jb_Mi => v = some (.int r.1) ∧ σ2 = (zE L, r.2, N)) r) : jb_V Γ d zq_145 0 [some (.ref 1), some (.int x1), some (.int x2), some (.int x3), none] [] (zE L, M, N) v σ2 := by
  obtain ⟨d, rfl⟩ : ∃ e, d = e + 1 := ⟨d - 1, by omega⟩
  unfold zf_145 at h
  refine jb_seg 3 (pc' := 5) (ls' := [some (.ref 1), some (.int x1), some (.int x2), some (.int x3), none]) (st' := [(.int x1), (.ref 4)]) (σ' := (zE L, M, N)) (G := []) rfl trivial ?_
  obtain ⟨q1, h1, h⟩ := jb_bd_of h
  refine jb_callV (q' := zq_2) (As := [(.int x1)]) (rest := []) (σ1 := (zE L, M, N)) (v := some (.int (jb_b2i q1))) rfl rfl zp_2 rfl (by decide) (jb_cat rfl) (Nat.le_of_ble_eq_true rfl) (Nat.le_of_ble_eq_true rfl) (Or.inl rfl) rfl (ze_2 4 x1 M N (by decide) h1) ?_
  refine jb_seg 1 (pc' := (if (jb_b2i q1) = 0 then 31 else 11)) (ls' := [some (.ref 1), some (.int x1), some (.int x2), some (.int x3), none]) (st' := []) (σ' := (zE L, M, N)) (G := []) rfl trivial ?_
  refine jb_ite (fun c => ?_) (fun c => ?_)
  · rw [if_pos c] at h
    refine jb_seg 1 (pc' := 32) (ls' := [some (.ref 1), some (.int x1), some (.int x2), some (.int x3), none]) (st' := [(.int (-1))]) (σ' := (zE L, M, N)) (G := []) rfl trivial ?_
    cases h
    obtain ⟨rfl, rfl⟩ := hK
    exact jb_reti rfl rfl
  · rw [if_neg c] at h
    refine jb_seg 3 (pc' := 14) (ls' := [some (.ref 1), some (.int x1), some (.int x2), some (.int x3), none]) (st' := [(.int 5), (.int 0), (.int x3)]) (σ' := (zE L, M, N)) (G := []) rfl trivial ?_
    refine jb_callS (q' := zq_23) (As := [(.int x3), (.int 0), (.int 5)]) (rest := []) (σ1 := (zE L, M, N)) (v := some (.int (jb_b2i (zf_23 x3 0 5)))) rfl (by decide) rfl zp_23 (jb_cat rfl) (Nat.le_of_ble_eq_true rfl) (Nat.le_of_ble_eq_true rfl) (Or.inl rfl) rfl (ze_23 x3 0 5 M N rfl) ?_
    refine jb_seg 1 (pc' := (if (jb_b2i (zf_23 x3 0 5)) = 0 then 31 else 20)) (ls' := [some (.ref 1), some (.int x1), some (.int x2), some (.int x3), none]) (st' := []) (σ' := (zE L, M, N)) (G := []) rfl trivial ?_
    refine jb_ite (fun c => ?_) (fun c => ?_)
    · rw [if_pos c] at h
      refine jb_seg 1 (pc' := 32) (ls' := [some (.ref 1), some (.int x1), some (.int x2), some (.int x3), none]) (st' := [(.int (-1))]) (σ' := (zE L, M, N)) (G := []) rfl trivial ?_
      cases h
      obtain ⟨rfl, rfl⟩ := hK
      exact jb_reti rfl rfl
    · rw [if_neg c] at h
      refine jb_seg 3 (pc' := 25) (ls' := [some (.ref 1), some (.int x1), some (.int x2), some (.int x3), none]) (st' := [(.int x2), (.ref 4)]) (σ' := (zE L, M, N)) (G := []) rfl trivial ?_
      obtain ⟨q2, h2, h⟩ := jb_bd_of h
      refine jb_callV (q' := zq_104) (As := [(.int x2)]) (rest := []) (σ1 := (zE L, M, N)) (v := some (.int (jb_b2i q2))) rfl rfl zp_104 rfl (by decide) (jb_cat rfl) (Nat.le_of_ble_eq_true rfl) (Nat.le_of_ble_eq_true rfl) (Or.inl rfl) rfl (ze_104 (by omega) 4 x2 M N (by decide) h2) ?_
      refine jb_seg 1 (pc' := (if (jb_b2i q2) = 0 then 31 else 33)) (ls' := [some (.ref 1), some (.int x1), some (.int x2), some (.int x3), none]) (st' := []) (σ' := (zE L, M, N)) (G := []) rfl trivial ?_
      refine jb_ite (fun c => ?_) (fun c => ?_)
      · rw [if_pos c] at h
        refine jb_seg 1 (pc' := 32) (ls' := [some (.ref 1), some (.int x1), some (.int x2), some (.int x3), none]) (st' := [(.int (-1))]) (σ' := (zE L, M, N)) (G := []) rfl trivial ?_
        cases h
        obtain ⟨rfl, rfl⟩ := hK
        exact jb_reti rfl rfl
      · rw [if_neg c] at h
        refine jb_seg 4 (pc' := 39) (ls' := [some (.ref 1), some (.int x1), some (.int x2), some (.int x3), none]) (st' := [(.int x2), (.int x1), (.ref 64)]) (σ' := (zE L, M, N)) (G := []) rfl trivial ?_
        obtain ⟨q3, h3, h⟩ := jb_bd_of h
        refine jb_callV (q' := zq_12) (As := [(.int x1), (.int x2)]) (rest := []) (σ1 := (zE L, q3, N)) (v := none) rfl rfl zp_12 rfl (by decide) (jb_cat rfl) (Nat.le_of_ble_eq_true rfl) (Nat.le_of_ble_eq_true rfl) (Or.inl rfl) rfl (ze_12 (by omega) x1 x2 M N h3) ?_
        refine jb_seg 3 (pc' := (if x3 < 4 then 47 else 57)) (ls' := [some (.ref 1), some (.int x1), some (.int x2), some (.int x3), none]) (st' := []) (σ' := (zE L, q3, N)) (G := []) rfl trivial ?_
        refine jb_ite (fun c => ?_) (fun c => ?_)
        · rw [if_pos c] at h
          obtain ⟨g4, h⟩ := jb_gd_of h
          refine jb_seg 5 (pc' := 56) (ls' := [some (.ref 1), some (.int x1), some (.int x2), some (.int x3), none]) (st' := [(.int (q3 69 x3.toNatClampNeg))]) (σ' := (zE L, q3, N)) (G := [vp_in x3 4]) rfl g4 ?_
          cases h
          obtain ⟨rfl, rfl⟩ := hK
          exact jb_reti rfl rfl
        · rw [if_neg c] at h
          refine jb_seg 6 (pc' := 71) (ls' := [some (.ref 1), some (.int x1), some (.int x2), some (.int x3), none]) (st' := [(.int (q3 64 11)), (.int (q3 64 10))]) (σ' := (zE L, q3, N)) (G := []) rfl trivial ?_
          obtain ⟨q5, h5, h⟩ := jb_bd_of h
          refine jb_callS (q' := zq_144) (As := [(.int (q3 64 10)), (.int (q3 64 11))]) (rest := []) (σ1 := (zE L, q3, N)) (v := some (.int q5)) rfl (by decide) rfl zp_144 (jb_cat rfl) (Nat.le_of_ble_eq_true rfl) (Nat.le_of_ble_eq_true rfl) (Or.inl rfl) rfl (ze_144 (q3 64 10) (q3 64 11) q3 N h5) ?_
          refine jb_seg 3 (pc' := (if 0 < q5 then 83 else 81)) (ls' := [some (.ref 1), some (.int x1), some (.int x2), some (.int x3), some (.int q5)]) (st' := []) (σ' := (zE L, q3, N)) (G := []) rfl trivial ?_
          refine jb_ite (fun c => ?_) (fun c => ?_)
          · rw [if_pos c] at h
            refine jb_seg 3 (pc' := (if x3 = 4 then 88 else 98)) (ls' := [some (.ref 1), some (.int x1), some (.int x2), some (.int x3), some (.int q5)]) (st' := []) (σ' := (zE L, q3, N)) (G := []) rfl trivial ?_
            refine jb_ite (fun c => ?_) (fun c => ?_)
            · rw [if_pos c] at h
              refine jb_seg 4 (pc' := 105) (ls' := [some (.ref 1), some (.int x1), some (.int x2), some (.int x3), some (.int q5)]) (st' := [(.int (q3 64 10))]) (σ' := (zE L, q3, N)) (G := []) rfl trivial ?_
              exact jb_mask [false, false, false, false, true] rfl (zg_145_J105 hd q5 (q3 64 10) q3 N h hK)
            · rw [if_neg c] at h
              refine jb_seg 3 (pc' := 105) (ls' := [some (.ref 1), some (.int x1), some (.int x2), some (.int x3), some (.int q5)]) (st' := [(.int (q3 64 11))]) (σ' := (zE L, q3, N)) (G := []) rfl trivial ?_
              exact jb_mask [false, false, false, false, true] rfl (zg_145_J105 hd q5 (q3 64 11) q3 N h hK)
          · rw [if_neg c] at h
            refine jb_seg 1 (pc' := 82) (ls' := [some (.ref 1), some (.int x1), some (.int x2), some (.int x3), some (.int q5)]) (st' := [(.int (-1))]) (σ' := (zE L, q3, N)) (G := []) rfl trivial ?_
            cases h
            obtain ⟨rfl, rfl⟩ := hK
            exact jb_reti rfl rfl
theorem ze_145 {Γ : jb_G} {L : Nat} {d : Nat} (hd : 5 ≤ d) (x1 : Int32) (x2 : Int32) (x3 : Int32) (M : jb_Mi) (N : jb_Ml) {r : (Int32 × jb_Mi)} (h : zf_145 x1 x2 x3 M = some r) : jb_V Γ d zq_145 0 (jb_en 5 [(.ref 1), (.int x1), (.int x2), (.int x3)]) [] (zE L, M, N) (some (.int r.1)) (zE L, r.2, N) := zg_145 hd x1 x2 x3 M N h ⟨rfl, rfl⟩
-- X12_go
noncomputable def zf_146_J40 (x3 : Int32) (M : jb_Mi) : Option (Int32 × jb_Mi) :=
  some (x3, M)
noncomputable def zf_146 (x1 : Int32) (x2 : Int32) (M : jb_Mi) : Option (Int32 × jb_Mi) :=
  (zf_2 4 x1 M).bind fun q1 => if (jb_b2i q1) = 0 then some ((-1), M) else if (jb_b2i (zf_23 x2 0 1)) = 0 then some ((-1), M) else (zf_29 x1 M).bind fun q2 => if q2.1 < 0 then zf_146_J40 q2.1 q2.2 else if x2 = 1 then zf_146_J40 q2.1 q2.2 else some ((zf_26 q2.1), q2.2)
set_option maxRecDepth 4000 in
theorem zg_146_J40 {Γ : jb_G} {L : Nat} {d : Nat} (hd : 6 ≤ d) (x3 : Int32) (M : jb_Mi) (N : jb_Ml) {v : Option Value} {σ2 : jb_S} {r : (Int32 × jb_Mi)} (h : zf_146_J40 x3 M = some r) (hK : (fun r : Int32 × jb_Mi => v = some (.int r.1) ∧ σ2 = (zE L, r.2, N)) r) : jb_V Γ d zq_146 40 [none, none, none, some (.int x3)] [] (zE L, M, N) v σ2 := by
  obtain ⟨d, rfl⟩ : ∃ e, d = e + 1 := ⟨d - 1, by omega⟩
  unfold zf_146_J40 at h
  refine jb_seg 2 (pc' := 48) (ls' := [none, none, none, some (.int x3)]) (st' := [(.int x3)]) (σ' := (zE L, M, N)) (G := []) rfl trivial ?_
  cases h
  obtain ⟨rfl, rfl⟩ := hK
  exact jb_reti rfl rfl
set_option maxRecDepth 4000 in
theorem zg_146 {Γ : jb_G} {L : Nat} {d : Nat} (hd : 6 ≤ d) (x1 : Int32) (x2 : Int32) (M : jb_Mi) (N : jb_Ml) {v : Option Value} {σ2 : jb_S} {r : (Int32 × jb_Mi)} (h : zf_146 x1 x2 M = some r) (hK : (fun r : Int32 × jb_Mi => v = some (.int r.1) ∧ σ2 = (zE L, r.2, N)) r) : jb_V Γ d zq_146 0 [some (.ref 1), some (.int x1), some (.int x2), none] [] (zE L, M, N) v σ2 := by
  obtain ⟨d, rfl⟩ : ∃ e, d = e + 1 := ⟨d - 1, by omega⟩
  unfold zf_146 at h
  refine jb_seg 3 (pc' := 5) (ls' := [some (.ref 1), some (.int x1), some (.int x2), none]) (st' := [(.int x1), (.ref 4)]) (σ' := (zE L, M, N)) (G := []) rfl trivial ?_
  obtain ⟨q1, h1, h⟩ := jb_bd_of h
  refine jb_callV (q' := zq_2) (As := [(.int x1)]) (rest := []) (σ1 := (zE L, M, N)) (v := some (.int (jb_b2i q1))) rfl rfl zp_2 rfl (by decide) (jb_cat rfl) (Nat.le_of_ble_eq_true rfl) (Nat.le_of_ble_eq_true rfl) (Or.inl rfl) rfl (ze_2 4 x1 M N (by decide) h1) ?_
  refine jb_seg 1 (pc' := (if (jb_b2i q1) = 0 then 20 else 11)) (ls' := [some (.ref 1), some (.int x1), some (.int x2), none]) (st' := []) (σ' := (zE L, M, N)) (G := []) rfl trivial ?_
  refine jb_ite (fun c => ?_) (fun c => ?_)
  · rw [if_pos c] at h
    refine jb_seg 1 (pc' := 21) (ls' := [some (.ref 1), some (.int x1), some (.int x2), none]) (st' := [(.int (-1))]) (σ' := (zE L, M, N)) (G := []) rfl trivial ?_
    cases h
    obtain ⟨rfl, rfl⟩ := hK
    exact jb_reti rfl rfl
  · rw [if_neg c] at h
    refine jb_seg 3 (pc' := 14) (ls' := [some (.ref 1), some (.int x1), some (.int x2), none]) (st' := [(.int 1), (.int 0), (.int x2)]) (σ' := (zE L, M, N)) (G := []) rfl trivial ?_
    refine jb_callS (q' := zq_23) (As := [(.int x2), (.int 0), (.int 1)]) (rest := []) (σ1 := (zE L, M, N)) (v := some (.int (jb_b2i (zf_23 x2 0 1)))) rfl (by decide) rfl zp_23 (jb_cat rfl) (Nat.le_of_ble_eq_true rfl) (Nat.le_of_ble_eq_true rfl) (Or.inl rfl) rfl (ze_23 x2 0 1 M N rfl) ?_
    refine jb_seg 1 (pc' := (if (jb_b2i (zf_23 x2 0 1)) = 0 then 20 else 22)) (ls' := [some (.ref 1), some (.int x1), some (.int x2), none]) (st' := []) (σ' := (zE L, M, N)) (G := []) rfl trivial ?_
    refine jb_ite (fun c => ?_) (fun c => ?_)
    · rw [if_pos c] at h
      refine jb_seg 1 (pc' := 21) (ls' := [some (.ref 1), some (.int x1), some (.int x2), none]) (st' := [(.int (-1))]) (σ' := (zE L, M, N)) (G := []) rfl trivial ?_
      cases h
      obtain ⟨rfl, rfl⟩ := hK
      exact jb_reti rfl rfl
    · rw [if_neg c] at h
      refine jb_seg 3 (pc' := 27) (ls' := [some (.ref 1), some (.int x1), some (.int x2), none]) (st' := [(.int x1), (.ref 64)]) (σ' := (zE L, M, N)) (G := []) rfl trivial ?_
      obtain ⟨q2, h2, h⟩ := jb_bd_of h
      refine jb_callV (q' := zq_29) (As := [(.int x1)]) (rest := []) (σ1 := (zE L, q2.2, N)) (v := some (.int q2.1)) rfl rfl zp_29 rfl (by decide) (jb_cat rfl) (Nat.le_of_ble_eq_true rfl) (Nat.le_of_ble_eq_true rfl) (Or.inl rfl) rfl (ze_29 (by omega) x1 M N h2) ?_
      refine jb_seg 3 (pc' := (if q2.1 < 0 then 40 else 35)) (ls' := [some (.ref 1), some (.int x1), some (.int x2), some (.int q2.1)]) (st' := []) (σ' := (zE L, q2.2, N)) (G := []) rfl trivial ?_
      refine jb_ite (fun c => ?_) (fun c => ?_)
      · rw [if_pos c] at h
        exact jb_mask [false, false, false, true] rfl (zg_146_J40 hd q2.1 q2.2 N h hK)
      · rw [if_neg c] at h
        refine jb_seg 3 (pc' := (if x2 = 1 then 40 else 44)) (ls' := [some (.ref 1), some (.int x1), some (.int x2), some (.int q2.1)]) (st' := []) (σ' := (zE L, q2.2, N)) (G := []) rfl trivial ?_
        refine jb_ite (fun c => ?_) (fun c => ?_)
        · rw [if_pos c] at h
          exact jb_mask [false, false, false, true] rfl (zg_146_J40 hd q2.1 q2.2 N h hK)
        · rw [if_neg c] at h
          refine jb_seg 1 (pc' := 45) (ls' := [some (.ref 1), some (.int x1), some (.int x2), some (.int q2.1)]) (st' := [(.int q2.1)]) (σ' := (zE L, q2.2, N)) (G := []) rfl trivial ?_
          refine jb_callS (q' := zq_26) (As := [(.int q2.1)]) (rest := []) (σ1 := (zE L, q2.2, N)) (v := some (.int (zf_26 q2.1))) rfl (by decide) rfl zp_26 (jb_cat rfl) (Nat.le_of_ble_eq_true rfl) (Nat.le_of_ble_eq_true rfl) (Or.inl rfl) rfl (ze_26 q2.1 q2.2 N rfl) ?_
          cases h
          obtain ⟨rfl, rfl⟩ := hK
          exact jb_reti rfl rfl
theorem ze_146 {Γ : jb_G} {L : Nat} {d : Nat} (hd : 6 ≤ d) (x1 : Int32) (x2 : Int32) (M : jb_Mi) (N : jb_Ml) {r : (Int32 × jb_Mi)} (h : zf_146 x1 x2 M = some r) : jb_V Γ d zq_146 0 (jb_en 4 [(.ref 1), (.int x1), (.int x2)]) [] (zE L, M, N) (some (.int r.1)) (zE L, r.2, N) := zg_146 hd x1 x2 M N h ⟨rfl, rfl⟩
