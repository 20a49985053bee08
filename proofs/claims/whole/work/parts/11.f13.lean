-- X13_copies
noncomputable def zf_170_H2 (a1 : Nat) (a2 : Nat) (s : Int32 × jb_Mi) : Option ((Int32 × jb_Mi) ⊕ (jb_Mi)) :=
  if s.1 < 149 then jb_gd s.1 149 (jb_gd s.1 149 (some (.inl ((s.1 + 1), (jb_up s.2 a2 (s.1).toNatClampNeg (s.2 a1 (s.1).toNatClampNeg)))))) else some (.inr s.2)
noncomputable def zf_170 (a1 : Nat) (a2 : Nat) (M : jb_Mi) : Option (jb_Mi) :=
  jb_lp (zf_170_H2 a1 a2) (0, M)
set_option maxRecDepth 4000 in
theorem zg_170_H2 {Γ : jb_G} {L : Nat} {d : Nat} (a1 : Nat) (a2 : Nat) (N : jb_Ml) (s : Int32 × jb_Mi) (hp : (a1 = 80 ∧ a2 = 81) ∨ (a1 = 81 ∧ a2 = 80) ∨ (a1 = 80 ∧ a2 = 82) ∨ (a1 = 82 ∧ a2 = 80)) {v : Option Value} {σ2 : jb_S} {r : ((Int32 × jb_Mi) ⊕ (jb_Mi))} (h : zf_170_H2 a1 a2 s = some r) (hK : (jb_K (fun s : Int32 × jb_Mi => jb_V Γ d zq_170 2 [some (.ref a1), some (.ref a2), some (.int s.1)] [] (zE L, s.2, N) v σ2) (fun r : jb_Mi => v = none ∧ σ2 = (zE L, r, N))) r) : jb_V Γ d zq_170 2 [some (.ref a1), some (.ref a2), some (.int s.1)] [] (zE L, s.2, N) v σ2 := by
  rcases hp with ⟨rfl, rfl⟩ | ⟨rfl, rfl⟩ | ⟨rfl, rfl⟩ | ⟨rfl, rfl⟩
  · unfold zf_170_H2 at h
    refine jb_seg 3 (pc' := (if s.1 < 149 then 9 else 21)) (ls' := [some (.ref 80), some (.ref 81), some (.int s.1)]) (st' := []) (σ' := (zE L, s.2, N)) (G := []) rfl trivial ?_
    refine jb_ite (fun c => ?_) (fun c => ?_)
    · rw [if_pos c] at h
      obtain ⟨g1, h⟩ := jb_gd_of h
      obtain ⟨g2, h⟩ := jb_gd_of h
      refine jb_seg 8 (pc' := 2) (ls' := [some (.ref 80), some (.ref 81), some (.int (s.1 + 1))]) (st' := []) (σ' := (zE L, (jb_up s.2 81 (s.1).toNatClampNeg (s.2 80 (s.1).toNatClampNeg)), N)) (G := [vp_in s.1 149, vp_in s.1 149]) rfl ⟨g1, g2⟩ ?_
      cases h
      exact jb_mask [true, true, true] rfl hK
    · rw [if_neg c] at h
      cases h
      obtain ⟨rfl, rfl⟩ := hK
      exact jb_retv rfl rfl
  · unfold zf_170_H2 at h
    refine jb_seg 3 (pc' := (if s.1 < 149 then 9 else 21)) (ls' := [some (.ref 81), some (.ref 80), some (.int s.1)]) (st' := []) (σ' := (zE L, s.2, N)) (G := []) rfl trivial ?_
    refine jb_ite (fun c => ?_) (fun c => ?_)
    · rw [if_pos c] at h
      obtain ⟨g1, h⟩ := jb_gd_of h
      obtain ⟨g2, h⟩ := jb_gd_of h
      refine jb_seg 8 (pc' := 2) (ls' := [some (.ref 81), some (.ref 80), some (.int (s.1 + 1))]) (st' := []) (σ' := (zE L, (jb_up s.2 80 (s.1).toNatClampNeg (s.2 81 (s.1).toNatClampNeg)), N)) (G := [vp_in s.1 149, vp_in s.1 149]) rfl ⟨g1, g2⟩ ?_
      cases h
      exact jb_mask [true, true, true] rfl hK
    · rw [if_neg c] at h
      cases h
      obtain ⟨rfl, rfl⟩ := hK
      exact jb_retv rfl rfl
  · unfold zf_170_H2 at h
    refine jb_seg 3 (pc' := (if s.1 < 149 then 9 else 21)) (ls' := [some (.ref 80), some (.ref 82), some (.int s.1)]) (st' := []) (σ' := (zE L, s.2, N)) (G := []) rfl trivial ?_
    refine jb_ite (fun c => ?_) (fun c => ?_)
    · rw [if_pos c] at h
      obtain ⟨g1, h⟩ := jb_gd_of h
      obtain ⟨g2, h⟩ := jb_gd_of h
      refine jb_seg 8 (pc' := 2) (ls' := [some (.ref 80), some (.ref 82), some (.int (s.1 + 1))]) (st' := []) (σ' := (zE L, (jb_up s.2 82 (s.1).toNatClampNeg (s.2 80 (s.1).toNatClampNeg)), N)) (G := [vp_in s.1 149, vp_in s.1 149]) rfl ⟨g1, g2⟩ ?_
      cases h
      exact jb_mask [true, true, true] rfl hK
    · rw [if_neg c] at h
      cases h
      obtain ⟨rfl, rfl⟩ := hK
      exact jb_retv rfl rfl
  · unfold zf_170_H2 at h
    refine jb_seg 3 (pc' := (if s.1 < 149 then 9 else 21)) (ls' := [some (.ref 82), some (.ref 80), some (.int s.1)]) (st' := []) (σ' := (zE L, s.2, N)) (G := []) rfl trivial ?_
    refine jb_ite (fun c => ?_) (fun c => ?_)
    · rw [if_pos c] at h
      obtain ⟨g1, h⟩ := jb_gd_of h
      obtain ⟨g2, h⟩ := jb_gd_of h
      refine jb_seg 8 (pc' := 2) (ls' := [some (.ref 82), some (.ref 80), some (.int (s.1 + 1))]) (st' := []) (σ' := (zE L, (jb_up s.2 80 (s.1).toNatClampNeg (s.2 82 (s.1).toNatClampNeg)), N)) (G := [vp_in s.1 149, vp_in s.1 149]) rfl ⟨g1, g2⟩ ?_
      cases h
      exact jb_mask [true, true, true] rfl hK
    · rw [if_neg c] at h
      cases h
      obtain ⟨rfl, rfl⟩ := hK
      exact jb_retv rfl rfl
theorem zg_170_H2L {Γ : jb_G} {L : Nat} {d : Nat} (a1 : Nat) (a2 : Nat) (N : jb_Ml) (hp : (a1 = 80 ∧ a2 = 81) ∨ (a1 = 81 ∧ a2 = 80) ∨ (a1 = 80 ∧ a2 = 82) ∨ (a1 = 82 ∧ a2 = 80)) {v : Option Value} {σ2 : jb_S} {s : Int32 × jb_Mi} {r : (jb_Mi)} (h : jb_lp (zf_170_H2 a1 a2) s = some r) (hK : (fun r : jb_Mi => v = none ∧ σ2 = (zE L, r, N)) r) : jb_V Γ d zq_170 2 [some (.ref a1), some (.ref a2), some (.int s.1)] [] (zE L, s.2, N) v σ2 := by
  exact jb_lp_ind (P := fun s => jb_V Γ d zq_170 2 [some (.ref a1), some (.ref a2), some (.int s.1)] [] (zE L, s.2, N) v σ2) (K := (fun r : jb_Mi => v = none ∧ σ2 = (zE L, r, N))) (fun s r h hk => zg_170_H2 a1 a2 N s hp h (by cases r <;> exact hk)) h hK
set_option maxRecDepth 4000 in
theorem zg_170 {Γ : jb_G} {L : Nat} {d : Nat} (a1 : Nat) (a2 : Nat) (M : jb_Mi) (N : jb_Ml) (hp : (a1 = 80 ∧ a2 = 81) ∨ (a1 = 81 ∧ a2 = 80) ∨ (a1 = 80 ∧ a2 = 82) ∨ (a1 = 82 ∧ a2 = 80)) {v : Option Value} {σ2 : jb_S} {r : (jb_Mi)} (h : zf_170 a1 a2 M = some r) (hK : (fun r : jb_Mi => v = none ∧ σ2 = (zE L, r, N)) r) : jb_V Γ d zq_170 0 [some (.ref a1), some (.ref a2), none] [] (zE L, M, N) v σ2 := by
  rcases hp with ⟨rfl, rfl⟩ | ⟨rfl, rfl⟩ | ⟨rfl, rfl⟩ | ⟨rfl, rfl⟩
  · unfold zf_170 at h
    refine jb_seg 2 (pc' := 2) (ls' := [some (.ref 80), some (.ref 81), some (.int 0)]) (st' := []) (σ' := (zE L, M, N)) (G := []) rfl trivial ?_
    exact jb_mask [true, true, true] rfl (zg_170_H2L 80 81 N (by decide) h hK)
  · unfold zf_170 at h
    refine jb_seg 2 (pc' := 2) (ls' := [some (.ref 81), some (.ref 80), some (.int 0)]) (st' := []) (σ' := (zE L, M, N)) (G := []) rfl trivial ?_
    exact jb_mask [true, true, true] rfl (zg_170_H2L 81 80 N (by decide) h hK)
  · unfold zf_170 at h
    refine jb_seg 2 (pc' := 2) (ls' := [some (.ref 80), some (.ref 82), some (.int 0)]) (st' := []) (σ' := (zE L, M, N)) (G := []) rfl trivial ?_
    exact jb_mask [true, true, true] rfl (zg_170_H2L 80 82 N (by decide) h hK)
  · unfold zf_170 at h
    refine jb_seg 2 (pc' := 2) (ls' := [some (.ref 82), some (.ref 80), some (.int 0)]) (st' := []) (σ' := (zE L, M, N)) (G := []) rfl trivial ?_
    exact jb_mask [true, true, true] rfl (zg_170_H2L 82 80 N (by decide) h hK)
theorem ze_170 {Γ : jb_G} {L : Nat} {d : Nat} (a1 : Nat) (a2 : Nat) (M : jb_Mi) (N : jb_Ml) (hp : (a1 = 80 ∧ a2 = 81) ∨ (a1 = 81 ∧ a2 = 80) ∨ (a1 = 80 ∧ a2 = 82) ∨ (a1 = 82 ∧ a2 = 80)) {r : (jb_Mi)} (h : zf_170 a1 a2 M = some r) : jb_V Γ d zq_170 0 (jb_en 3 [(.ref a1), (.ref a2)]) [] (zE L, M, N) (none) (zE L, r, N) := zg_170 a1 a2 M N hp h ⟨rfl, rfl⟩
-- X13_isHouse
noncomputable def zf_171 (x1 : Int32) (M : jb_Mi) : Option (Bool) :=
  if (jb_b2i (zf_164 x1 0 5)) = 0 then some false else jb_gd (0 + x1) 149 (if 0 < (M 80 ((0 + x1)).toNatClampNeg) then some true else some false)
set_option maxRecDepth 4000 in
theorem zg_171 {Γ : jb_G} {L : Nat} {d : Nat} (hd : 1 ≤ d) (x1 : Int32) (M : jb_Mi) (N : jb_Ml) {v : Option Value} {σ2 : jb_S} {r : (Bool)} (h : zf_171 x1 M = some r) (hK : (fun r : Bool => v = some (.int (jb_b2i r)) ∧ σ2 = (zE L, M, N)) r) : jb_V Γ d zq_171 0 [some (.ref 79), some (.int x1)] [] (zE L, M, N) v σ2 := by
  obtain ⟨d, rfl⟩ : ∃ e, d = e + 1 := ⟨d - 1, by omega⟩
  unfold zf_171 at h
  refine jb_seg 3 (pc' := 3) (ls' := [some (.ref 79), some (.int x1)]) (st' := [(.int 5), (.int 0), (.int x1)]) (σ' := (zE L, M, N)) (G := []) rfl trivial ?_
  refine jb_callS (q' := zq_164) (As := [(.int x1), (.int 0), (.int 5)]) (rest := []) (σ1 := (zE L, M, N)) (v := some (.int (jb_b2i (zf_164 x1 0 5)))) rfl (by decide) rfl zp_164 (jb_cat rfl) (Nat.le_of_ble_eq_true rfl) (Nat.le_of_ble_eq_true rfl) (Or.inl rfl) rfl (ze_164 x1 0 5 M N rfl) ?_
  refine jb_seg 1 (pc' := (if (jb_b2i (zf_164 x1 0 5)) = 0 then 24 else 9)) (ls' := [some (.ref 79), some (.int x1)]) (st' := []) (σ' := (zE L, M, N)) (G := []) rfl trivial ?_
  refine jb_ite (fun c => ?_) (fun c => ?_)
  · rw [if_pos c] at h
    refine jb_seg 1 (pc' := 25) (ls' := [some (.ref 79), some (.int x1)]) (st' := [(.int 0)]) (σ' := (zE L, M, N)) (G := []) rfl trivial ?_
    cases h
    obtain ⟨rfl, rfl⟩ := hK
    exact jb_retz (by decide) rfl rfl
  · rw [if_neg c] at h
    obtain ⟨g1, h⟩ := jb_gd_of h
    refine jb_seg 7 (pc' := (if 0 < (M 80 ((0 + x1)).toNatClampNeg) then 20 else 24)) (ls' := [some (.ref 79), some (.int x1)]) (st' := []) (σ' := (zE L, M, N)) (G := [vp_in (0 + x1) 149]) rfl g1 ?_
    refine jb_ite (fun c => ?_) (fun c => ?_)
    · rw [if_pos c] at h
      refine jb_seg 2 (pc' := 25) (ls' := [some (.ref 79), some (.int x1)]) (st' := [(.int 1)]) (σ' := (zE L, M, N)) (G := []) rfl trivial ?_
      cases h
      obtain ⟨rfl, rfl⟩ := hK
      exact jb_retz (by decide) rfl rfl
    · rw [if_neg c] at h
      refine jb_seg 1 (pc' := 25) (ls' := [some (.ref 79), some (.int x1)]) (st' := [(.int 0)]) (σ' := (zE L, M, N)) (G := []) rfl trivial ?_
      cases h
      obtain ⟨rfl, rfl⟩ := hK
      exact jb_retz (by decide) rfl rfl
theorem ze_171 {Γ : jb_G} {L : Nat} {d : Nat} (hd : 1 ≤ d) (x1 : Int32) (M : jb_Mi) (N : jb_Ml) {r : (Bool)} (h : zf_171 x1 M = some r) : jb_V Γ d zq_171 0 (jb_en 2 [(.ref 79), (.int x1)]) [] (zE L, M, N) (some (.int (jb_b2i r))) (zE L, M, N) := zg_171 hd x1 M N h ⟨rfl, rfl⟩
-- X13_isUp
noncomputable def zf_172 (x1 : Int32) (M : jb_Mi) : Option (Bool) :=
  (zf_171 x1 M).bind fun q1 => if (jb_b2i q1) = 0 then some false else jb_gd (12 + x1) 149 (if (M 80 ((12 + x1)).toNatClampNeg) < 9 then some true else some false)
set_option maxRecDepth 4000 in
theorem zg_172 {Γ : jb_G} {L : Nat} {d : Nat} (hd : 2 ≤ d) (x1 : Int32) (M : jb_Mi) (N : jb_Ml) {v : Option Value} {σ2 : jb_S} {r : (Bool)} (h : zf_172 x1 M = some r) (hK : (fun r : Bool => v = some (.int (jb_b2i r)) ∧ σ2 = (zE L, M, N)) r) : jb_V Γ d zq_172 0 [some (.ref 79), some (.int x1)] [] (zE L, M, N) v σ2 := by
  obtain ⟨d, rfl⟩ : ∃ e, d = e + 1 := ⟨d - 1, by omega⟩
  unfold zf_172 at h
  refine jb_seg 2 (pc' := 2) (ls' := [some (.ref 79), some (.int x1)]) (st' := [(.int x1), (.ref 79)]) (σ' := (zE L, M, N)) (G := []) rfl trivial ?_
  obtain ⟨q1, h1, h⟩ := jb_bd_of h
  refine jb_callV (q' := zq_171) (As := [(.int x1)]) (rest := []) (σ1 := (zE L, M, N)) (v := some (.int (jb_b2i q1))) rfl rfl zp_171 rfl (by decide) (jb_cat rfl) (Nat.le_of_ble_eq_true rfl) (Nat.le_of_ble_eq_true rfl) (Or.inl rfl) rfl (ze_171 (by omega) x1 M N h1) ?_
  refine jb_seg 1 (pc' := (if (jb_b2i q1) = 0 then 26 else 8)) (ls' := [some (.ref 79), some (.int x1)]) (st' := []) (σ' := (zE L, M, N)) (G := []) rfl trivial ?_
  refine jb_ite (fun c => ?_) (fun c => ?_)
  · rw [if_pos c] at h
    refine jb_seg 1 (pc' := 27) (ls' := [some (.ref 79), some (.int x1)]) (st' := [(.int 0)]) (σ' := (zE L, M, N)) (G := []) rfl trivial ?_
    cases h
    obtain ⟨rfl, rfl⟩ := hK
    exact jb_retz (by decide) rfl rfl
  · rw [if_neg c] at h
    obtain ⟨g2, h⟩ := jb_gd_of h
    refine jb_seg 8 (pc' := (if (M 80 ((12 + x1)).toNatClampNeg) < 9 then 22 else 26)) (ls' := [some (.ref 79), some (.int x1)]) (st' := []) (σ' := (zE L, M, N)) (G := [vp_in (12 + x1) 149]) rfl g2 ?_
    refine jb_ite (fun c => ?_) (fun c => ?_)
    · rw [if_pos c] at h
      refine jb_seg 2 (pc' := 27) (ls' := [some (.ref 79), some (.int x1)]) (st' := [(.int 1)]) (σ' := (zE L, M, N)) (G := []) rfl trivial ?_
      cases h
      obtain ⟨rfl, rfl⟩ := hK
      exact jb_retz (by decide) rfl rfl
    · rw [if_neg c] at h
      refine jb_seg 1 (pc' := 27) (ls' := [some (.ref 79), some (.int x1)]) (st' := [(.int 0)]) (σ' := (zE L, M, N)) (G := []) rfl trivial ?_
      cases h
      obtain ⟨rfl, rfl⟩ := hK
      exact jb_retz (by decide) rfl rfl
theorem ze_172 {Γ : jb_G} {L : Nat} {d : Nat} (hd : 2 ≤ d) (x1 : Int32) (M : jb_Mi) (N : jb_Ml) {r : (Bool)} (h : zf_172 x1 M = some r) : jb_V Γ d zq_172 0 (jb_en 2 [(.ref 79), (.int x1)]) [] (zE L, M, N) (some (.int (jb_b2i r))) (zE L, M, N) := zg_172 hd x1 M N h ⟨rfl, rfl⟩
-- X13_isThing
noncomputable def zf_173 (x1 : Int32) (M : jb_Mi) : Option (Bool) :=
  if (jb_b2i (zf_164 x1 0 23)) = 0 then some false else jb_gd (18 + x1) 149 (if (M 80 ((18 + x1)).toNatClampNeg) = (-1) then some false else some true)
set_option maxRecDepth 4000 in
theorem zg_173 {Γ : jb_G} {L : Nat} {d : Nat} (hd : 1 ≤ d) (x1 : Int32) (M : jb_Mi) (N : jb_Ml) {v : Option Value} {σ2 : jb_S} {r : (Bool)} (h : zf_173 x1 M = some r) (hK : (fun r : Bool => v = some (.int (jb_b2i r)) ∧ σ2 = (zE L, M, N)) r) : jb_V Γ d zq_173 0 [some (.ref 79), some (.int x1)] [] (zE L, M, N) v σ2 := by
  obtain ⟨d, rfl⟩ : ∃ e, d = e + 1 := ⟨d - 1, by omega⟩
  unfold zf_173 at h
  refine jb_seg 3 (pc' := 4) (ls' := [some (.ref 79), some (.int x1)]) (st' := [(.int 23), (.int 0), (.int x1)]) (σ' := (zE L, M, N)) (G := []) rfl trivial ?_
  refine jb_callS (q' := zq_164) (As := [(.int x1), (.int 0), (.int 23)]) (rest := []) (σ1 := (zE L, M, N)) (v := some (.int (jb_b2i (zf_164 x1 0 23)))) rfl (by decide) rfl zp_164 (jb_cat rfl) (Nat.le_of_ble_eq_true rfl) (Nat.le_of_ble_eq_true rfl) (Or.inl rfl) rfl (ze_164 x1 0 23 M N rfl) ?_
  refine jb_seg 1 (pc' := (if (jb_b2i (zf_164 x1 0 23)) = 0 then 27 else 10)) (ls' := [some (.ref 79), some (.int x1)]) (st' := []) (σ' := (zE L, M, N)) (G := []) rfl trivial ?_
  refine jb_ite (fun c => ?_) (fun c => ?_)
  · rw [if_pos c] at h
    refine jb_seg 1 (pc' := 28) (ls' := [some (.ref 79), some (.int x1)]) (st' := [(.int 0)]) (σ' := (zE L, M, N)) (G := []) rfl trivial ?_
    cases h
    obtain ⟨rfl, rfl⟩ := hK
    exact jb_retz (by decide) rfl rfl
  · rw [if_neg c] at h
    obtain ⟨g1, h⟩ := jb_gd_of h
    refine jb_seg 8 (pc' := (if (M 80 ((18 + x1)).toNatClampNeg) = (-1) then 27 else 23)) (ls' := [some (.ref 79), some (.int x1)]) (st' := []) (σ' := (zE L, M, N)) (G := [vp_in (18 + x1) 149]) rfl g1 ?_
    refine jb_ite (fun c => ?_) (fun c => ?_)
    · rw [if_pos c] at h
      refine jb_seg 1 (pc' := 28) (ls' := [some (.ref 79), some (.int x1)]) (st' := [(.int 0)]) (σ' := (zE L, M, N)) (G := []) rfl trivial ?_
      cases h
      obtain ⟨rfl, rfl⟩ := hK
      exact jb_retz (by decide) rfl rfl
    · rw [if_neg c] at h
      refine jb_seg 2 (pc' := 28) (ls' := [some (.ref 79), some (.int x1)]) (st' := [(.int 1)]) (σ' := (zE L, M, N)) (G := []) rfl trivial ?_
      cases h
      obtain ⟨rfl, rfl⟩ := hK
      exact jb_retz (by decide) rfl rfl
theorem ze_173 {Γ : jb_G} {L : Nat} {d : Nat} (hd : 1 ≤ d) (x1 : Int32) (M : jb_Mi) (N : jb_Ml) {r : (Bool)} (h : zf_173 x1 M = some r) : jb_V Γ d zq_173 0 (jb_en 2 [(.ref 79), (.int x1)]) [] (zE L, M, N) (some (.int (jb_b2i r))) (zE L, M, N) := zg_173 hd x1 M N h ⟨rfl, rfl⟩
-- X13_isMan
noncomputable def zf_174 (x1 : Int32) (M : jb_Mi) : Option (Bool) :=
  if (jb_b2i (zf_164 x1 0 15)) = 0 then some false else jb_gd (114 + x1) 149 (if 0 < (M 80 ((114 + x1)).toNatClampNeg) then some true else some false)
set_option maxRecDepth 4000 in
theorem zg_174 {Γ : jb_G} {L : Nat} {d : Nat} (hd : 1 ≤ d) (x1 : Int32) (M : jb_Mi) (N : jb_Ml) {v : Option Value} {σ2 : jb_S} {r : (Bool)} (h : zf_174 x1 M = some r) (hK : (fun r : Bool => v = some (.int (jb_b2i r)) ∧ σ2 = (zE L, M, N)) r) : jb_V Γ d zq_174 0 [some (.ref 79), some (.int x1)] [] (zE L, M, N) v σ2 := by
  obtain ⟨d, rfl⟩ : ∃ e, d = e + 1 := ⟨d - 1, by omega⟩
  unfold zf_174 at h
  refine jb_seg 3 (pc' := 4) (ls' := [some (.ref 79), some (.int x1)]) (st' := [(.int 15), (.int 0), (.int x1)]) (σ' := (zE L, M, N)) (G := []) rfl trivial ?_
  refine jb_callS (q' := zq_164) (As := [(.int x1), (.int 0), (.int 15)]) (rest := []) (σ1 := (zE L, M, N)) (v := some (.int (jb_b2i (zf_164 x1 0 15)))) rfl (by decide) rfl zp_164 (jb_cat rfl) (Nat.le_of_ble_eq_true rfl) (Nat.le_of_ble_eq_true rfl) (Or.inl rfl) rfl (ze_164 x1 0 15 M N rfl) ?_
  refine jb_seg 1 (pc' := (if (jb_b2i (zf_164 x1 0 15)) = 0 then 26 else 10)) (ls' := [some (.ref 79), some (.int x1)]) (st' := []) (σ' := (zE L, M, N)) (G := []) rfl trivial ?_
  refine jb_ite (fun c => ?_) (fun c => ?_)
  · rw [if_pos c] at h
    refine jb_seg 1 (pc' := 27) (ls' := [some (.ref 79), some (.int x1)]) (st' := [(.int 0)]) (σ' := (zE L, M, N)) (G := []) rfl trivial ?_
    cases h
    obtain ⟨rfl, rfl⟩ := hK
    exact jb_retz (by decide) rfl rfl
  · rw [if_neg c] at h
    obtain ⟨g1, h⟩ := jb_gd_of h
    refine jb_seg 7 (pc' := (if 0 < (M 80 ((114 + x1)).toNatClampNeg) then 22 else 26)) (ls' := [some (.ref 79), some (.int x1)]) (st' := []) (σ' := (zE L, M, N)) (G := [vp_in (114 + x1) 149]) rfl g1 ?_
    refine jb_ite (fun c => ?_) (fun c => ?_)
    · rw [if_pos c] at h
      refine jb_seg 2 (pc' := 27) (ls' := [some (.ref 79), some (.int x1)]) (st' := [(.int 1)]) (σ' := (zE L, M, N)) (G := []) rfl trivial ?_
      cases h
      obtain ⟨rfl, rfl⟩ := hK
      exact jb_retz (by decide) rfl rfl
    · rw [if_neg c] at h
      refine jb_seg 1 (pc' := 27) (ls' := [some (.ref 79), some (.int x1)]) (st' := [(.int 0)]) (σ' := (zE L, M, N)) (G := []) rfl trivial ?_
      cases h
      obtain ⟨rfl, rfl⟩ := hK
      exact jb_retz (by decide) rfl rfl
theorem ze_174 {Γ : jb_G} {L : Nat} {d : Nat} (hd : 1 ≤ d) (x1 : Int32) (M : jb_Mi) (N : jb_Ml) {r : (Bool)} (h : zf_174 x1 M = some r) : jb_V Γ d zq_174 0 (jb_en 2 [(.ref 79), (.int x1)]) [] (zE L, M, N) (some (.int (jb_b2i r))) (zE L, M, N) := zg_174 hd x1 M N h ⟨rfl, rfl⟩
-- X13_house
noncomputable def zf_175 (x1 : Int32) (x2 : Int32) (x3 : Int32) (M : jb_Mi) : Option (Bool × jb_Mi) :=
  if (jb_b2i (zf_164 x1 0 5)) = 0 then some (false, M) else if (jb_b2i (zf_164 x2 1 9)) = 0 then some (false, M) else if (jb_b2i (zf_164 x3 0 99)) = 0 then some (false, M) else jb_gd (0 + x1) 149 (jb_gd (6 + x1) 149 (jb_gd (12 + x1) 149 (some (true, (jb_up (jb_up (jb_up M 80 ((0 + x1)).toNatClampNeg x2) 80 ((6 + x1)).toNatClampNeg x3) 80 ((12 + x1)).toNatClampNeg 0)))))
set_option maxRecDepth 4000 in
theorem zg_175 {Γ : jb_G} {L : Nat} {d : Nat} (hd : 1 ≤ d) (x1 : Int32) (x2 : Int32) (x3 : Int32) (M : jb_Mi) (N : jb_Ml) {v : Option Value} {σ2 : jb_S} {r : (Bool × jb_Mi)} (h : zf_175 x1 x2 x3 M = some r) (hK : (fun r : Bool × jb_Mi => v = some (.int (jb_b2i r.1)) ∧ σ2 = (zE L, r.2, N)) r) : jb_V Γ d zq_175 0 [some (.ref 79), some (.int x1), some (.int x2), some (.int x3)] [] (zE L, M, N) v σ2 := by
  obtain ⟨d, rfl⟩ : ∃ e, d = e + 1 := ⟨d - 1, by omega⟩
  unfold zf_175 at h
  refine jb_seg 3 (pc' := 3) (ls' := [some (.ref 79), some (.int x1), some (.int x2), some (.int x3)]) (st' := [(.int 5), (.int 0), (.int x1)]) (σ' := (zE L, M, N)) (G := []) rfl trivial ?_
  refine jb_callS (q' := zq_164) (As := [(.int x1), (.int 0), (.int 5)]) (rest := []) (σ1 := (zE L, M, N)) (v := some (.int (jb_b2i (zf_164 x1 0 5)))) rfl (by decide) rfl zp_164 (jb_cat rfl) (Nat.le_of_ble_eq_true rfl) (Nat.le_of_ble_eq_true rfl) (Or.inl rfl) rfl (ze_164 x1 0 5 M N rfl) ?_
  refine jb_seg 1 (pc' := (if (jb_b2i (zf_164 x1 0 5)) = 0 then 29 else 9)) (ls' := [some (.ref 79), some (.int x1), some (.int x2), some (.int x3)]) (st' := []) (σ' := (zE L, M, N)) (G := []) rfl trivial ?_
  refine jb_ite (fun c => ?_) (fun c => ?_)
  · rw [if_pos c] at h
    refine jb_seg 1 (pc' := 30) (ls' := [some (.ref 79), some (.int x1), some (.int x2), some (.int x3)]) (st' := [(.int 0)]) (σ' := (zE L, M, N)) (G := []) rfl trivial ?_
    cases h
    obtain ⟨rfl, rfl⟩ := hK
    exact jb_retz (by decide) rfl rfl
  · rw [if_neg c] at h
    refine jb_seg 3 (pc' := 13) (ls' := [some (.ref 79), some (.int x1), some (.int x2), some (.int x3)]) (st' := [(.int 9), (.int 1), (.int x2)]) (σ' := (zE L, M, N)) (G := []) rfl trivial ?_
    refine jb_callS (q' := zq_164) (As := [(.int x2), (.int 1), (.int 9)]) (rest := []) (σ1 := (zE L, M, N)) (v := some (.int (jb_b2i (zf_164 x2 1 9)))) rfl (by decide) rfl zp_164 (jb_cat rfl) (Nat.le_of_ble_eq_true rfl) (Nat.le_of_ble_eq_true rfl) (Or.inl rfl) rfl (ze_164 x2 1 9 M N rfl) ?_
    refine jb_seg 1 (pc' := (if (jb_b2i (zf_164 x2 1 9)) = 0 then 29 else 19)) (ls' := [some (.ref 79), some (.int x1), some (.int x2), some (.int x3)]) (st' := []) (σ' := (zE L, M, N)) (G := []) rfl trivial ?_
    refine jb_ite (fun c => ?_) (fun c => ?_)
    · rw [if_pos c] at h
      refine jb_seg 1 (pc' := 30) (ls' := [some (.ref 79), some (.int x1), some (.int x2), some (.int x3)]) (st' := [(.int 0)]) (σ' := (zE L, M, N)) (G := []) rfl trivial ?_
      cases h
      obtain ⟨rfl, rfl⟩ := hK
      exact jb_retz (by decide) rfl rfl
    · rw [if_neg c] at h
      refine jb_seg 3 (pc' := 23) (ls' := [some (.ref 79), some (.int x1), some (.int x2), some (.int x3)]) (st' := [(.int 99), (.int 0), (.int x3)]) (σ' := (zE L, M, N)) (G := []) rfl trivial ?_
      refine jb_callS (q' := zq_164) (As := [(.int x3), (.int 0), (.int 99)]) (rest := []) (σ1 := (zE L, M, N)) (v := some (.int (jb_b2i (zf_164 x3 0 99)))) rfl (by decide) rfl zp_164 (jb_cat rfl) (Nat.le_of_ble_eq_true rfl) (Nat.le_of_ble_eq_true rfl) (Or.inl rfl) rfl (ze_164 x3 0 99 M N rfl) ?_
      refine jb_seg 1 (pc' := (if (jb_b2i (zf_164 x3 0 99)) = 0 then 29 else 31)) (ls' := [some (.ref 79), some (.int x1), some (.int x2), some (.int x3)]) (st' := []) (σ' := (zE L, M, N)) (G := []) rfl trivial ?_
      refine jb_ite (fun c => ?_) (fun c => ?_)
      · rw [if_pos c] at h
        refine jb_seg 1 (pc' := 30) (ls' := [some (.ref 79), some (.int x1), some (.int x2), some (.int x3)]) (st' := [(.int 0)]) (σ' := (zE L, M, N)) (G := []) rfl trivial ?_
        cases h
        obtain ⟨rfl, rfl⟩ := hK
        exact jb_retz (by decide) rfl rfl
      · rw [if_neg c] at h
        obtain ⟨g1, h⟩ := jb_gd_of h
        obtain ⟨g2, h⟩ := jb_gd_of h
        obtain ⟨g3, h⟩ := jb_gd_of h
        refine jb_seg 22 (pc' := 61) (ls' := [some (.ref 79), some (.int x1), some (.int x2), some (.int x3)]) (st' := [(.int 1)]) (σ' := (zE L, (jb_up (jb_up (jb_up M 80 ((0 + x1)).toNatClampNeg x2) 80 ((6 + x1)).toNatClampNeg x3) 80 ((12 + x1)).toNatClampNeg 0), N)) (G := [vp_in (0 + x1) 149, vp_in (6 + x1) 149, vp_in (12 + x1) 149]) rfl ⟨g1, g2, g3⟩ ?_
        cases h
        obtain ⟨rfl, rfl⟩ := hK
        exact jb_retz (by decide) rfl rfl
theorem ze_175 {Γ : jb_G} {L : Nat} {d : Nat} (hd : 1 ≤ d) (x1 : Int32) (x2 : Int32) (x3 : Int32) (M : jb_Mi) (N : jb_Ml) {r : (Bool × jb_Mi)} (h : zf_175 x1 x2 x3 M = some r) : jb_V Γ d zq_175 0 (jb_en 4 [(.ref 79), (.int x1), (.int x2), (.int x3)]) [] (zE L, M, N) (some (.int (jb_b2i r.1))) (zE L, r.2, N) := zg_175 hd x1 x2 x3 M N h ⟨rfl, rfl⟩
-- X13_thing
noncomputable def zf_176 (x1 : Int32) (x2 : Int32) (x3 : Int32) (x4 : Int32) (x5 : Int32) (M : jb_Mi) : Option (Bool × jb_Mi) :=
  if (jb_b2i (zf_164 x1 0 23)) = 0 then some (false, M) else (zf_171 x2 M).bind fun q1 => if (jb_b2i q1) = 0 then some (false, M) else if (jb_b2i (zf_164 x3 0 8)) = 0 then some (false, M) else if (jb_b2i (zf_164 x4 0 8)) = 0 then some (false, M) else if (jb_b2i (zf_164 x5 1 99)) = 0 then some (false, M) else jb_gd (18 + x1) 149 (jb_gd (42 + x1) 149 (jb_gd (66 + x1) 149 (jb_gd (90 + x1) 149 (some (true, (jb_up (jb_up (jb_up (jb_up M 80 ((18 + x1)).toNatClampNeg x2) 80 ((42 + x1)).toNatClampNeg x3) 80 ((66 + x1)).toNatClampNeg x4) 80 ((90 + x1)).toNatClampNeg x5))))))
set_option maxRecDepth 4000 in
theorem zg_176 {Γ : jb_G} {L : Nat} {d : Nat} (hd : 2 ≤ d) (x1 : Int32) (x2 : Int32) (x3 : Int32) (x4 : Int32) (x5 : Int32) (M : jb_Mi) (N : jb_Ml) {v : Option Value} {σ2 : jb_S} {r : (Bool × jb_Mi)} (h : zf_176 x1 x2 x3 x4 x5 M = some r) (hK : (fun r : Bool × jb_Mi => v = some (.int (jb_b2i r.1)) ∧ σ2 = (zE L, r.2, N)) r) : jb_V Γ d zq_176 0 [some (.ref 79), some (.int x1), some (.int x2), some (.int x3), some (.int x4), some (.int x5)] [] (zE L, M, N) v σ2 := by
  obtain ⟨d, rfl⟩ : ∃ e, d = e + 1 := ⟨d - 1, by omega⟩
  unfold zf_176 at h
  refine jb_seg 3 (pc' := 4) (ls' := [some (.ref 79), some (.int x1), some (.int x2), some (.int x3), some (.int x4), some (.int x5)]) (st' := [(.int 23), (.int 0), (.int x1)]) (σ' := (zE L, M, N)) (G := []) rfl trivial ?_
  refine jb_callS (q' := zq_164) (As := [(.int x1), (.int 0), (.int 23)]) (rest := []) (σ1 := (zE L, M, N)) (v := some (.int (jb_b2i (zf_164 x1 0 23)))) rfl (by decide) rfl zp_164 (jb_cat rfl) (Nat.le_of_ble_eq_true rfl) (Nat.le_of_ble_eq_true rfl) (Or.inl rfl) rfl (ze_164 x1 0 23 M N rfl) ?_
  refine jb_seg 1 (pc' := (if (jb_b2i (zf_164 x1 0 23)) = 0 then 50 else 10)) (ls' := [some (.ref 79), some (.int x1), some (.int x2), some (.int x3), some (.int x4), some (.int x5)]) (st' := []) (σ' := (zE L, M, N)) (G := []) rfl trivial ?_
  refine jb_ite (fun c => ?_) (fun c => ?_)
  · rw [if_pos c] at h
    refine jb_seg 1 (pc' := 51) (ls' := [some (.ref 79), some (.int x1), some (.int x2), some (.int x3), some (.int x4), some (.int x5)]) (st' := [(.int 0)]) (σ' := (zE L, M, N)) (G := []) rfl trivial ?_
    cases h
    obtain ⟨rfl, rfl⟩ := hK
    exact jb_retz (by decide) rfl rfl
  · rw [if_neg c] at h
    refine jb_seg 2 (pc' := 12) (ls' := [some (.ref 79), some (.int x1), some (.int x2), some (.int x3), some (.int x4), some (.int x5)]) (st' := [(.int x2), (.ref 79)]) (σ' := (zE L, M, N)) (G := []) rfl trivial ?_
    obtain ⟨q1, h1, h⟩ := jb_bd_of h
    refine jb_callV (q' := zq_171) (As := [(.int x2)]) (rest := []) (σ1 := (zE L, M, N)) (v := some (.int (jb_b2i q1))) rfl rfl zp_171 rfl (by decide) (jb_cat rfl) (Nat.le_of_ble_eq_true rfl) (Nat.le_of_ble_eq_true rfl) (Or.inl rfl) rfl (ze_171 (by omega) x2 M N h1) ?_
    refine jb_seg 1 (pc' := (if (jb_b2i q1) = 0 then 50 else 18)) (ls' := [some (.ref 79), some (.int x1), some (.int x2), some (.int x3), some (.int x4), some (.int x5)]) (st' := []) (σ' := (zE L, M, N)) (G := []) rfl trivial ?_
    refine jb_ite (fun c => ?_) (fun c => ?_)
    · rw [if_pos c] at h
      refine jb_seg 1 (pc' := 51) (ls' := [some (.ref 79), some (.int x1), some (.int x2), some (.int x3), some (.int x4), some (.int x5)]) (st' := [(.int 0)]) (σ' := (zE L, M, N)) (G := []) rfl trivial ?_
      cases h
      obtain ⟨rfl, rfl⟩ := hK
      exact jb_retz (by decide) rfl rfl
    · rw [if_neg c] at h
      refine jb_seg 3 (pc' := 22) (ls' := [some (.ref 79), some (.int x1), some (.int x2), some (.int x3), some (.int x4), some (.int x5)]) (st' := [(.int 8), (.int 0), (.int x3)]) (σ' := (zE L, M, N)) (G := []) rfl trivial ?_
      refine jb_callS (q' := zq_164) (As := [(.int x3), (.int 0), (.int 8)]) (rest := []) (σ1 := (zE L, M, N)) (v := some (.int (jb_b2i (zf_164 x3 0 8)))) rfl (by decide) rfl zp_164 (jb_cat rfl) (Nat.le_of_ble_eq_true rfl) (Nat.le_of_ble_eq_true rfl) (Or.inl rfl) rfl (ze_164 x3 0 8 M N rfl) ?_
      refine jb_seg 1 (pc' := (if (jb_b2i (zf_164 x3 0 8)) = 0 then 50 else 28)) (ls' := [some (.ref 79), some (.int x1), some (.int x2), some (.int x3), some (.int x4), some (.int x5)]) (st' := []) (σ' := (zE L, M, N)) (G := []) rfl trivial ?_
      refine jb_ite (fun c => ?_) (fun c => ?_)
      · rw [if_pos c] at h
        refine jb_seg 1 (pc' := 51) (ls' := [some (.ref 79), some (.int x1), some (.int x2), some (.int x3), some (.int x4), some (.int x5)]) (st' := [(.int 0)]) (σ' := (zE L, M, N)) (G := []) rfl trivial ?_
        cases h
        obtain ⟨rfl, rfl⟩ := hK
        exact jb_retz (by decide) rfl rfl
      · rw [if_neg c] at h
        refine jb_seg 3 (pc' := 33) (ls' := [some (.ref 79), some (.int x1), some (.int x2), some (.int x3), some (.int x4), some (.int x5)]) (st' := [(.int 8), (.int 0), (.int x4)]) (σ' := (zE L, M, N)) (G := []) rfl trivial ?_
        refine jb_callS (q' := zq_164) (As := [(.int x4), (.int 0), (.int 8)]) (rest := []) (σ1 := (zE L, M, N)) (v := some (.int (jb_b2i (zf_164 x4 0 8)))) rfl (by decide) rfl zp_164 (jb_cat rfl) (Nat.le_of_ble_eq_true rfl) (Nat.le_of_ble_eq_true rfl) (Or.inl rfl) rfl (ze_164 x4 0 8 M N rfl) ?_
        refine jb_seg 1 (pc' := (if (jb_b2i (zf_164 x4 0 8)) = 0 then 50 else 39)) (ls' := [some (.ref 79), some (.int x1), some (.int x2), some (.int x3), some (.int x4), some (.int x5)]) (st' := []) (σ' := (zE L, M, N)) (G := []) rfl trivial ?_
        refine jb_ite (fun c => ?_) (fun c => ?_)
        · rw [if_pos c] at h
          refine jb_seg 1 (pc' := 51) (ls' := [some (.ref 79), some (.int x1), some (.int x2), some (.int x3), some (.int x4), some (.int x5)]) (st' := [(.int 0)]) (σ' := (zE L, M, N)) (G := []) rfl trivial ?_
          cases h
          obtain ⟨rfl, rfl⟩ := hK
          exact jb_retz (by decide) rfl rfl
        · rw [if_neg c] at h
          refine jb_seg 3 (pc' := 44) (ls' := [some (.ref 79), some (.int x1), some (.int x2), some (.int x3), some (.int x4), some (.int x5)]) (st' := [(.int 99), (.int 1), (.int x5)]) (σ' := (zE L, M, N)) (G := []) rfl trivial ?_
          refine jb_callS (q' := zq_164) (As := [(.int x5), (.int 1), (.int 99)]) (rest := []) (σ1 := (zE L, M, N)) (v := some (.int (jb_b2i (zf_164 x5 1 99)))) rfl (by decide) rfl zp_164 (jb_cat rfl) (Nat.le_of_ble_eq_true rfl) (Nat.le_of_ble_eq_true rfl) (Or.inl rfl) rfl (ze_164 x5 1 99 M N rfl) ?_
          refine jb_seg 1 (pc' := (if (jb_b2i (zf_164 x5 1 99)) = 0 then 50 else 52)) (ls' := [some (.ref 79), some (.int x1), some (.int x2), some (.int x3), some (.int x4), some (.int x5)]) (st' := []) (σ' := (zE L, M, N)) (G := []) rfl trivial ?_
          refine jb_ite (fun c => ?_) (fun c => ?_)
          · rw [if_pos c] at h
            refine jb_seg 1 (pc' := 51) (ls' := [some (.ref 79), some (.int x1), some (.int x2), some (.int x3), some (.int x4), some (.int x5)]) (st' := [(.int 0)]) (σ' := (zE L, M, N)) (G := []) rfl trivial ?_
            cases h
            obtain ⟨rfl, rfl⟩ := hK
            exact jb_retz (by decide) rfl rfl
          · rw [if_neg c] at h
            obtain ⟨g2, h⟩ := jb_gd_of h
            obtain ⟨g3, h⟩ := jb_gd_of h
            obtain ⟨g4, h⟩ := jb_gd_of h
            obtain ⟨g5, h⟩ := jb_gd_of h
            refine jb_seg 29 (pc' := 95) (ls' := [some (.ref 79), some (.int x1), some (.int x2), some (.int x3), some (.int x4), some (.int x5)]) (st' := [(.int 1)]) (σ' := (zE L, (jb_up (jb_up (jb_up (jb_up M 80 ((18 + x1)).toNatClampNeg x2) 80 ((42 + x1)).toNatClampNeg x3) 80 ((66 + x1)).toNatClampNeg x4) 80 ((90 + x1)).toNatClampNeg x5), N)) (G := [vp_in (18 + x1) 149, vp_in (42 + x1) 149, vp_in (66 + x1) 149, vp_in (90 + x1) 149]) rfl ⟨g2, g3, g4, g5⟩ ?_
            cases h
            obtain ⟨rfl, rfl⟩ := hK
            exact jb_retz (by decide) rfl rfl
theorem ze_176 {Γ : jb_G} {L : Nat} {d : Nat} (hd : 2 ≤ d) (x1 : Int32) (x2 : Int32) (x3 : Int32) (x4 : Int32) (x5 : Int32) (M : jb_Mi) (N : jb_Ml) {r : (Bool × jb_Mi)} (h : zf_176 x1 x2 x3 x4 x5 M = some r) : jb_V Γ d zq_176 0 (jb_en 6 [(.ref 79), (.int x1), (.int x2), (.int x3), (.int x4), (.int x5)]) [] (zE L, M, N) (some (.int (jb_b2i r.1))) (zE L, r.2, N) := zg_176 hd x1 x2 x3 x4 x5 M N h ⟨rfl, rfl⟩
-- X13_man
noncomputable def zf_177 (x1 : Int32) (x2 : Int32) (M : jb_Mi) : Option (Bool × jb_Mi) :=
  if (jb_b2i (zf_164 x1 0 15)) = 0 then some (false, M) else if (jb_b2i (zf_164 x2 1 99)) = 0 then some (false, M) else jb_gd (114 + x1) 149 (jb_gd (130 + x1) 149 (some (true, (jb_up (jb_up M 80 ((114 + x1)).toNatClampNeg x2) 80 ((130 + x1)).toNatClampNeg 0))))
set_option maxRecDepth 4000 in
theorem zg_177 {Γ : jb_G} {L : Nat} {d : Nat} (hd : 1 ≤ d) (x1 : Int32) (x2 : Int32) (M : jb_Mi) (N : jb_Ml) {v : Option Value} {σ2 : jb_S} {r : (Bool × jb_Mi)} (h : zf_177 x1 x2 M = some r) (hK : (fun r : Bool × jb_Mi => v = some (.int (jb_b2i r.1)) ∧ σ2 = (zE L, r.2, N)) r) : jb_V Γ d zq_177 0 [some (.ref 79), some (.int x1), some (.int x2)] [] (zE L, M, N) v σ2 := by
  obtain ⟨d, rfl⟩ : ∃ e, d = e + 1 := ⟨d - 1, by omega⟩
  unfold zf_177 at h
  refine jb_seg 3 (pc' := 4) (ls' := [some (.ref 79), some (.int x1), some (.int x2)]) (st' := [(.int 15), (.int 0), (.int x1)]) (σ' := (zE L, M, N)) (G := []) rfl trivial ?_
  refine jb_callS (q' := zq_164) (As := [(.int x1), (.int 0), (.int 15)]) (rest := []) (σ1 := (zE L, M, N)) (v := some (.int (jb_b2i (zf_164 x1 0 15)))) rfl (by decide) rfl zp_164 (jb_cat rfl) (Nat.le_of_ble_eq_true rfl) (Nat.le_of_ble_eq_true rfl) (Or.inl rfl) rfl (ze_164 x1 0 15 M N rfl) ?_
  refine jb_seg 1 (pc' := (if (jb_b2i (zf_164 x1 0 15)) = 0 then 20 else 10)) (ls' := [some (.ref 79), some (.int x1), some (.int x2)]) (st' := []) (σ' := (zE L, M, N)) (G := []) rfl trivial ?_
  refine jb_ite (fun c => ?_) (fun c => ?_)
  · rw [if_pos c] at h
    refine jb_seg 1 (pc' := 21) (ls' := [some (.ref 79), some (.int x1), some (.int x2)]) (st' := [(.int 0)]) (σ' := (zE L, M, N)) (G := []) rfl trivial ?_
    cases h
    obtain ⟨rfl, rfl⟩ := hK
    exact jb_retz (by decide) rfl rfl
  · rw [if_neg c] at h
    refine jb_seg 3 (pc' := 14) (ls' := [some (.ref 79), some (.int x1), some (.int x2)]) (st' := [(.int 99), (.int 1), (.int x2)]) (σ' := (zE L, M, N)) (G := []) rfl trivial ?_
    refine jb_callS (q' := zq_164) (As := [(.int x2), (.int 1), (.int 99)]) (rest := []) (σ1 := (zE L, M, N)) (v := some (.int (jb_b2i (zf_164 x2 1 99)))) rfl (by decide) rfl zp_164 (jb_cat rfl) (Nat.le_of_ble_eq_true rfl) (Nat.le_of_ble_eq_true rfl) (Or.inl rfl) rfl (ze_164 x2 1 99 M N rfl) ?_
    refine jb_seg 1 (pc' := (if (jb_b2i (zf_164 x2 1 99)) = 0 then 20 else 22)) (ls' := [some (.ref 79), some (.int x1), some (.int x2)]) (st' := []) (σ' := (zE L, M, N)) (G := []) rfl trivial ?_
    refine jb_ite (fun c => ?_) (fun c => ?_)
    · rw [if_pos c] at h
      refine jb_seg 1 (pc' := 21) (ls' := [some (.ref 79), some (.int x1), some (.int x2)]) (st' := [(.int 0)]) (σ' := (zE L, M, N)) (G := []) rfl trivial ?_
      cases h
      obtain ⟨rfl, rfl⟩ := hK
      exact jb_retz (by decide) rfl rfl
    · rw [if_neg c] at h
      obtain ⟨g1, h⟩ := jb_gd_of h
      obtain ⟨g2, h⟩ := jb_gd_of h
      refine jb_seg 15 (pc' := 44) (ls' := [some (.ref 79), some (.int x1), some (.int x2)]) (st' := [(.int 1)]) (σ' := (zE L, (jb_up (jb_up M 80 ((114 + x1)).toNatClampNeg x2) 80 ((130 + x1)).toNatClampNeg 0), N)) (G := [vp_in (114 + x1) 149, vp_in (130 + x1) 149]) rfl ⟨g1, g2⟩ ?_
      cases h
      obtain ⟨rfl, rfl⟩ := hK
      exact jb_retz (by decide) rfl rfl
theorem ze_177 {Γ : jb_G} {L : Nat} {d : Nat} (hd : 1 ≤ d) (x1 : Int32) (x2 : Int32) (M : jb_Mi) (N : jb_Ml) {r : (Bool × jb_Mi)} (h : zf_177 x1 x2 M = some r) : jb_V Γ d zq_177 0 (jb_en 3 [(.ref 79), (.int x1), (.int x2)]) [] (zE L, M, N) (some (.int (jb_b2i r.1))) (zE L, r.2, N) := zg_177 hd x1 x2 M N h ⟨rfl, rfl⟩
-- X13_partOf
noncomputable def zf_178_J29 (x0 : Int32) (x4 : Int32) (s0 : Int32) : Int32 :=
  ((x0 * x4) * s0)
noncomputable def zf_178_J14 (x0 : Int32) (x2 : Int32) (x3 : Int32) (s0 : Int32) : Int32 :=
  if x3 < 2 then zf_178_J29 x0 s0 (8 - x2) else zf_178_J29 x0 s0 x2
noncomputable def zf_178 (x0 : Int32) (x1 : Int32) (x2 : Int32) (x3 : Int32) : Int32 :=
  if (x3 - x3 / 2 * 2) = 0 then zf_178_J14 x0 x2 x3 (8 - x1) else zf_178_J14 x0 x2 x3 x1
set_option maxRecDepth 4000 in
theorem zg_178_J29 {Γ : jb_G} {L : Nat} {d : Nat} (x0 : Int32) (x4 : Int32) (s0 : Int32) (M : jb_Mi) (N : jb_Ml) {v : Option Value} {σ2 : jb_S} {r : Int32} (h : zf_178_J29 x0 x4 s0 = r) (hK : (fun r : Int32 => v = some (.int r) ∧ σ2 = (zE L, M, N)) r) : jb_V Γ d zq_178 29 [some (.int x0), none, none, none, some (.int x4), none] [(.int s0)] (zE L, M, N) v σ2 := by
  unfold zf_178_J29 at h
  refine jb_seg 6 (pc' := 38) (ls' := [some (.int x0), none, none, none, some (.int x4), some (.int s0)]) (st' := [(.int ((x0 * x4) * s0))]) (σ' := (zE L, M, N)) (G := []) rfl trivial ?_
  subst h
  obtain ⟨rfl, rfl⟩ := hK
  exact jb_reti rfl rfl
set_option maxRecDepth 4000 in
theorem zg_178_J14 {Γ : jb_G} {L : Nat} {d : Nat} (x0 : Int32) (x2 : Int32) (x3 : Int32) (s0 : Int32) (M : jb_Mi) (N : jb_Ml) {v : Option Value} {σ2 : jb_S} {r : Int32} (h : zf_178_J14 x0 x2 x3 s0 = r) (hK : (fun r : Int32 => v = some (.int r) ∧ σ2 = (zE L, M, N)) r) : jb_V Γ d zq_178 14 [some (.int x0), none, some (.int x2), some (.int x3), none, none] [(.int s0)] (zE L, M, N) v σ2 := by
  unfold zf_178_J14 at h
  refine jb_seg 4 (pc' := (if x3 < 2 then 21 else 28)) (ls' := [some (.int x0), none, some (.int x2), some (.int x3), some (.int s0), none]) (st' := []) (σ' := (zE L, M, N)) (G := []) rfl trivial ?_
  refine jb_ite (fun c => ?_) (fun c => ?_)
  · rw [if_pos c] at h
    refine jb_seg 4 (pc' := 29) (ls' := [some (.int x0), none, some (.int x2), some (.int x3), some (.int s0), none]) (st' := [(.int (8 - x2))]) (σ' := (zE L, M, N)) (G := []) rfl trivial ?_
    exact jb_mask [true, false, false, false, true, false] rfl (zg_178_J29 x0 s0 (8 - x2) M N h hK)
  · rw [if_neg c] at h
    refine jb_seg 1 (pc' := 29) (ls' := [some (.int x0), none, some (.int x2), some (.int x3), some (.int s0), none]) (st' := [(.int x2)]) (σ' := (zE L, M, N)) (G := []) rfl trivial ?_
    exact jb_mask [true, false, false, false, true, false] rfl (zg_178_J29 x0 s0 x2 M N h hK)
set_option maxRecDepth 4000 in
theorem zg_178 {Γ : jb_G} {L : Nat} {d : Nat} (x0 : Int32) (x1 : Int32) (x2 : Int32) (x3 : Int32) (M : jb_Mi) (N : jb_Ml) {v : Option Value} {σ2 : jb_S} {r : Int32} (h : zf_178 x0 x1 x2 x3 = r) (hK : (fun r : Int32 => v = some (.int r) ∧ σ2 = (zE L, M, N)) r) : jb_V Γ d zq_178 0 [some (.int x0), some (.int x1), some (.int x2), some (.int x3), none, none] [] (zE L, M, N) v σ2 := by
  unfold zf_178 at h
  refine jb_seg 4 (pc' := (if (x3 - x3 / 2 * 2) = 0 then 6 else 13)) (ls' := [some (.int x0), some (.int x1), some (.int x2), some (.int x3), none, none]) (st' := []) (σ' := (zE L, M, N)) (G := [¬ (2 : Int32) = 0]) rfl (show ¬ (2 : Int32) = 0 from (by decide)) ?_
  refine jb_ite (fun c => ?_) (fun c => ?_)
  · rw [if_pos c] at h
    refine jb_seg 4 (pc' := 14) (ls' := [some (.int x0), some (.int x1), some (.int x2), some (.int x3), none, none]) (st' := [(.int (8 - x1))]) (σ' := (zE L, M, N)) (G := []) rfl trivial ?_
    exact jb_mask [true, false, true, true, false, false] rfl (zg_178_J14 x0 x2 x3 (8 - x1) M N h hK)
  · rw [if_neg c] at h
    refine jb_seg 1 (pc' := 14) (ls' := [some (.int x0), some (.int x1), some (.int x2), some (.int x3), none, none]) (st' := [(.int x1)]) (σ' := (zE L, M, N)) (G := []) rfl trivial ?_
    exact jb_mask [true, false, true, true, false, false] rfl (zg_178_J14 x0 x2 x3 x1 M N h hK)
theorem ze_178 {Γ : jb_G} {L : Nat} {d : Nat} (x0 : Int32) (x1 : Int32) (x2 : Int32) (x3 : Int32) (M : jb_Mi) (N : jb_Ml) {r : Int32} (h : zf_178 x0 x1 x2 x3 = r) : jb_V Γ d zq_178 0 (jb_en 6 [(.int x0), (.int x1), (.int x2), (.int x3)]) [] (zE L, M, N) (some (.int r)) (zE L, M, N) := zg_178 x0 x1 x2 x3 M N h ⟨rfl, rfl⟩
-- X13_loadOf
noncomputable def zf_179_J74 (x1 : Int32) (x2 : Int32) (x3 : Int32) (x4 : Int32) (M : jb_Mi) : Option ((Int32 × Int32) ⊕ (Int32)) :=
  some (.inl (x3, (x4 + 1)))
noncomputable def zf_179_H16 (x1 : Int32) (x2 : Int32) (M : jb_Mi) (s : Int32 × Int32) : Option ((Int32 × Int32) ⊕ (Int32)) :=
  if s.2 < 24 then jb_gd (18 + s.2) 149 (if (M 80 ((18 + s.2)).toNatClampNeg) = x1 then jb_gd (90 + s.2) 149 (jb_gd (42 + s.2) 149 (jb_gd (66 + s.2) 149 (zf_179_J74 x1 x2 (s.1 + (zf_178 (M 80 ((90 + s.2)).toNatClampNeg) (M 80 ((42 + s.2)).toNatClampNeg) (M 80 ((66 + s.2)).toNatClampNeg) x2)) s.2 M))) else zf_179_J74 x1 x2 s.1 s.2 M) else some (.inr s.1)
noncomputable def zf_179 (x1 : Int32) (x2 : Int32) (M : jb_Mi) : Option (Int32) :=
  jb_gd (0 + x1) 149 (jb_lp (zf_179_H16 x1 x2 M) ((640 * (M 80 ((0 + x1)).toNatClampNeg)), 0))
set_option maxRecDepth 4000 in
theorem zg_179_J74 {Γ : jb_G} {L : Nat} {d : Nat} (hd : 1 ≤ d) (x1 : Int32) (x2 : Int32) (x3 : Int32) (x4 : Int32) (M : jb_Mi) (N : jb_Ml) {v : Option Value} {σ2 : jb_S} {r : ((Int32 × Int32) ⊕ (Int32))} (h : zf_179_J74 x1 x2 x3 x4 M = some r) (hK : (jb_K (fun s : Int32 × Int32 => jb_V Γ d zq_179 16 [some (.ref 79), some (.int x1), some (.int x2), some (.int s.1), some (.int s.2)] [] (zE L, M, N) v σ2) (fun r : Int32 => v = some (.int r) ∧ σ2 = (zE L, M, N))) r) : jb_V Γ d zq_179 74 [some (.ref 79), some (.int x1), some (.int x2), some (.int x3), some (.int x4)] [] (zE L, M, N) v σ2 := by
  obtain ⟨d, rfl⟩ : ∃ e, d = e + 1 := ⟨d - 1, by omega⟩
  unfold zf_179_J74 at h
  refine jb_seg 2 (pc' := 16) (ls' := [some (.ref 79), some (.int x1), some (.int x2), some (.int x3), some (.int (x4 + 1))]) (st' := []) (σ' := (zE L, M, N)) (G := []) rfl trivial ?_
  cases h
  exact jb_mask [true, true, true, true, true] rfl hK
set_option maxRecDepth 4000 in
theorem zg_179_H16 {Γ : jb_G} {L : Nat} {d : Nat} (hd : 1 ≤ d) (x1 : Int32) (x2 : Int32) (M : jb_Mi) (N : jb_Ml) (s : Int32 × Int32) {v : Option Value} {σ2 : jb_S} {r : ((Int32 × Int32) ⊕ (Int32))} (h : zf_179_H16 x1 x2 M s = some r) (hK : (jb_K (fun s : Int32 × Int32 => jb_V Γ d zq_179 16 [some (.ref 79), some (.int x1), some (.int x2), some (.int s.1), some (.int s.2)] [] (zE L, M, N) v σ2) (fun r : Int32 => v = some (.int r) ∧ σ2 = (zE L, M, N))) r) : jb_V Γ d zq_179 16 [some (.ref 79), some (.int x1), some (.int x2), some (.int s.1), some (.int s.2)] [] (zE L, M, N) v σ2 := by
  obtain ⟨d, rfl⟩ : ∃ e, d = e + 1 := ⟨d - 1, by omega⟩
  unfold zf_179_H16 at h
  refine jb_seg 3 (pc' := (if s.2 < 24 then 23 else 80)) (ls' := [some (.ref 79), some (.int x1), some (.int x2), some (.int s.1), some (.int s.2)]) (st' := []) (σ' := (zE L, M, N)) (G := []) rfl trivial ?_
  refine jb_ite (fun c => ?_) (fun c => ?_)
  · rw [if_pos c] at h
    obtain ⟨g2, h⟩ := jb_gd_of h
    refine jb_seg 8 (pc' := (if (M 80 ((18 + s.2)).toNatClampNeg) = x1 then 37 else 74)) (ls' := [some (.ref 79), some (.int x1), some (.int x2), some (.int s.1), some (.int s.2)]) (st' := []) (σ' := (zE L, M, N)) (G := [vp_in (18 + s.2) 149]) rfl g2 ?_
    refine jb_ite (fun c => ?_) (fun c => ?_)
    · rw [if_pos c] at h
      obtain ⟨g3, h⟩ := jb_gd_of h
      obtain ⟨g4, h⟩ := jb_gd_of h
      obtain ⟨g5, h⟩ := jb_gd_of h
      refine jb_seg 20 (pc' := 69) (ls' := [some (.ref 79), some (.int x1), some (.int x2), some (.int s.1), some (.int s.2)]) (st' := [(.int x2), (.int (M 80 ((66 + s.2)).toNatClampNeg)), (.int (M 80 ((42 + s.2)).toNatClampNeg)), (.int (M 80 ((90 + s.2)).toNatClampNeg)), (.int s.1)]) (σ' := (zE L, M, N)) (G := [vp_in (90 + s.2) 149, vp_in (42 + s.2) 149, vp_in (66 + s.2) 149]) rfl ⟨g3, g4, g5⟩ ?_
      refine jb_callS (q' := zq_178) (As := [(.int (M 80 ((90 + s.2)).toNatClampNeg)), (.int (M 80 ((42 + s.2)).toNatClampNeg)), (.int (M 80 ((66 + s.2)).toNatClampNeg)), (.int x2)]) (rest := [(.int s.1)]) (σ1 := (zE L, M, N)) (v := some (.int (zf_178 (M 80 ((90 + s.2)).toNatClampNeg) (M 80 ((42 + s.2)).toNatClampNeg) (M 80 ((66 + s.2)).toNatClampNeg) x2))) rfl (by decide) rfl zp_178 (jb_cat rfl) (Nat.le_of_ble_eq_true rfl) (Nat.le_of_ble_eq_true rfl) (Or.inl rfl) rfl (ze_178 (M 80 ((90 + s.2)).toNatClampNeg) (M 80 ((42 + s.2)).toNatClampNeg) (M 80 ((66 + s.2)).toNatClampNeg) x2 M N rfl) ?_
      refine jb_seg 2 (pc' := 74) (ls' := [some (.ref 79), some (.int x1), some (.int x2), some (.int (s.1 + (zf_178 (M 80 ((90 + s.2)).toNatClampNeg) (M 80 ((42 + s.2)).toNatClampNeg) (M 80 ((66 + s.2)).toNatClampNeg) x2))), some (.int s.2)]) (st' := []) (σ' := (zE L, M, N)) (G := []) rfl trivial ?_
      exact jb_mask [true, true, true, true, true] rfl (zg_179_J74 hd x1 x2 (s.1 + (zf_178 (M 80 ((90 + s.2)).toNatClampNeg) (M 80 ((42 + s.2)).toNatClampNeg) (M 80 ((66 + s.2)).toNatClampNeg) x2)) s.2 M N h hK)
    · rw [if_neg c] at h
      exact jb_mask [true, true, true, true, true] rfl (zg_179_J74 hd x1 x2 s.1 s.2 M N h hK)
  · rw [if_neg c] at h
    refine jb_seg 1 (pc' := 81) (ls' := [some (.ref 79), some (.int x1), some (.int x2), some (.int s.1), some (.int s.2)]) (st' := [(.int s.1)]) (σ' := (zE L, M, N)) (G := []) rfl trivial ?_
    cases h
    obtain ⟨rfl, rfl⟩ := hK
    exact jb_reti rfl rfl
theorem zg_179_H16L {Γ : jb_G} {L : Nat} {d : Nat} (hd : 1 ≤ d) (x1 : Int32) (x2 : Int32) (M : jb_Mi) (N : jb_Ml) {v : Option Value} {σ2 : jb_S} {s : Int32 × Int32} {r : (Int32)} (h : jb_lp (zf_179_H16 x1 x2 M) s = some r) (hK : (fun r : Int32 => v = some (.int r) ∧ σ2 = (zE L, M, N)) r) : jb_V Γ d zq_179 16 [some (.ref 79), some (.int x1), some (.int x2), some (.int s.1), some (.int s.2)] [] (zE L, M, N) v σ2 := by
  exact jb_lp_ind (P := fun s => jb_V Γ d zq_179 16 [some (.ref 79), some (.int x1), some (.int x2), some (.int s.1), some (.int s.2)] [] (zE L, M, N) v σ2) (K := (fun r : Int32 => v = some (.int r) ∧ σ2 = (zE L, M, N))) (fun s r h hk => zg_179_H16 hd x1 x2 M N s h (by cases r <;> exact hk)) h hK
set_option maxRecDepth 4000 in
theorem zg_179 {Γ : jb_G} {L : Nat} {d : Nat} (hd : 1 ≤ d) (x1 : Int32) (x2 : Int32) (M : jb_Mi) (N : jb_Ml) {v : Option Value} {σ2 : jb_S} {r : (Int32)} (h : zf_179 x1 x2 M = some r) (hK : (fun r : Int32 => v = some (.int r) ∧ σ2 = (zE L, M, N)) r) : jb_V Γ d zq_179 0 [some (.ref 79), some (.int x1), some (.int x2), none, none] [] (zE L, M, N) v σ2 := by
  obtain ⟨d, rfl⟩ : ∃ e, d = e + 1 := ⟨d - 1, by omega⟩
  unfold zf_179 at h
  obtain ⟨g1, h⟩ := jb_gd_of h
  refine jb_seg 11 (pc' := 16) (ls' := [some (.ref 79), some (.int x1), some (.int x2), some (.int (640 * (M 80 ((0 + x1)).toNatClampNeg))), some (.int 0)]) (st' := []) (σ' := (zE L, M, N)) (G := [vp_in (0 + x1) 149]) rfl g1 ?_
  exact jb_mask [true, true, true, true, true] rfl (zg_179_H16L hd x1 x2 M N h hK)
theorem ze_179 {Γ : jb_G} {L : Nat} {d : Nat} (hd : 1 ≤ d) (x1 : Int32) (x2 : Int32) (M : jb_Mi) (N : jb_Ml) {r : (Int32)} (h : zf_179 x1 x2 M = some r) : jb_V Γ d zq_179 0 (jb_en 5 [(.ref 79), (.int x1), (.int x2)]) [] (zE L, M, N) (some (.int r)) (zE L, M, N) := zg_179 hd x1 x2 M N h ⟨rfl, rfl⟩
-- X13_load
noncomputable def zf_180 (x1 : Int32) (x2 : Int32) (M : jb_Mi) : Option (Int32) :=
  (zf_171 x1 M).bind fun q1 => if (jb_b2i q1) = 0 then some (-1) else if (jb_b2i (zf_164 x2 0 3)) = 0 then some (-1) else (zf_179 x1 x2 M).bind fun q2 => some q2
set_option maxRecDepth 4000 in
theorem zg_180 {Γ : jb_G} {L : Nat} {d : Nat} (hd : 2 ≤ d) (x1 : Int32) (x2 : Int32) (M : jb_Mi) (N : jb_Ml) {v : Option Value} {σ2 : jb_S} {r : (Int32)} (h : zf_180 x1 x2 M = some r) (hK : (fun r : Int32 => v = some (.int r) ∧ σ2 = (zE L, M, N)) r) : jb_V Γ d zq_180 0 [some (.ref 79), some (.int x1), some (.int x2)] [] (zE L, M, N) v σ2 := by
  obtain ⟨d, rfl⟩ : ∃ e, d = e + 1 := ⟨d - 1, by omega⟩
  unfold zf_180 at h
  refine jb_seg 2 (pc' := 2) (ls' := [some (.ref 79), some (.int x1), some (.int x2)]) (st' := [(.int x1), (.ref 79)]) (σ' := (zE L, M, N)) (G := []) rfl trivial ?_
  obtain ⟨q1, h1, h⟩ := jb_bd_of h
  refine jb_callV (q' := zq_171) (As := [(.int x1)]) (rest := []) (σ1 := (zE L, M, N)) (v := some (.int (jb_b2i q1))) rfl rfl zp_171 rfl (by decide) (jb_cat rfl) (Nat.le_of_ble_eq_true rfl) (Nat.le_of_ble_eq_true rfl) (Or.inl rfl) rfl (ze_171 (by omega) x1 M N h1) ?_
  refine jb_seg 1 (pc' := (if (jb_b2i q1) = 0 then 26 else 8)) (ls' := [some (.ref 79), some (.int x1), some (.int x2)]) (st' := []) (σ' := (zE L, M, N)) (G := []) rfl trivial ?_
  refine jb_ite (fun c => ?_) (fun c => ?_)
  · rw [if_pos c] at h
    refine jb_seg 1 (pc' := 27) (ls' := [some (.ref 79), some (.int x1), some (.int x2)]) (st' := [(.int (-1))]) (σ' := (zE L, M, N)) (G := []) rfl trivial ?_
    cases h
    obtain ⟨rfl, rfl⟩ := hK
    exact jb_reti rfl rfl
  · rw [if_neg c] at h
    refine jb_seg 3 (pc' := 11) (ls' := [some (.ref 79), some (.int x1), some (.int x2)]) (st' := [(.int 3), (.int 0), (.int x2)]) (σ' := (zE L, M, N)) (G := []) rfl trivial ?_
    refine jb_callS (q' := zq_164) (As := [(.int x2), (.int 0), (.int 3)]) (rest := []) (σ1 := (zE L, M, N)) (v := some (.int (jb_b2i (zf_164 x2 0 3)))) rfl (by decide) rfl zp_164 (jb_cat rfl) (Nat.le_of_ble_eq_true rfl) (Nat.le_of_ble_eq_true rfl) (Or.inl rfl) rfl (ze_164 x2 0 3 M N rfl) ?_
    refine jb_seg 1 (pc' := (if (jb_b2i (zf_164 x2 0 3)) = 0 then 26 else 17)) (ls' := [some (.ref 79), some (.int x1), some (.int x2)]) (st' := []) (σ' := (zE L, M, N)) (G := []) rfl trivial ?_
    refine jb_ite (fun c => ?_) (fun c => ?_)
    · rw [if_pos c] at h
      refine jb_seg 1 (pc' := 27) (ls' := [some (.ref 79), some (.int x1), some (.int x2)]) (st' := [(.int (-1))]) (σ' := (zE L, M, N)) (G := []) rfl trivial ?_
      cases h
      obtain ⟨rfl, rfl⟩ := hK
      exact jb_reti rfl rfl
    · rw [if_neg c] at h
      refine jb_seg 3 (pc' := 20) (ls' := [some (.ref 79), some (.int x1), some (.int x2)]) (st' := [(.int x2), (.int x1), (.ref 79)]) (σ' := (zE L, M, N)) (G := []) rfl trivial ?_
      obtain ⟨q2, h2, h⟩ := jb_bd_of h
      refine jb_callV (q' := zq_179) (As := [(.int x1), (.int x2)]) (rest := []) (σ1 := (zE L, M, N)) (v := some (.int q2)) rfl rfl zp_179 rfl (by decide) (jb_cat rfl) (Nat.le_of_ble_eq_true rfl) (Nat.le_of_ble_eq_true rfl) (Or.inl rfl) rfl (ze_179 (by omega) x1 x2 M N h2) ?_
      refine jb_seg 1 (pc' := 27) (ls' := [some (.ref 79), some (.int x1), some (.int x2)]) (st' := [(.int q2)]) (σ' := (zE L, M, N)) (G := []) rfl trivial ?_
      cases h
      obtain ⟨rfl, rfl⟩ := hK
      exact jb_reti rfl rfl
theorem ze_180 {Γ : jb_G} {L : Nat} {d : Nat} (hd : 2 ≤ d) (x1 : Int32) (x2 : Int32) (M : jb_Mi) (N : jb_Ml) {r : (Int32)} (h : zf_180 x1 x2 M = some r) : jb_V Γ d zq_180 0 (jb_en 3 [(.ref 79), (.int x1), (.int x2)]) [] (zE L, M, N) (some (.int r)) (zE L, M, N) := zg_180 hd x1 x2 M N h ⟨rfl, rfl⟩
-- X13_types
noncomputable def zf_181_H2 (x1 : Int32) (s : Int32 × jb_Mi) : Option ((Int32 × jb_Mi) ⊕ (jb_Mi)) :=
  if s.1 < 0 then some (.inr s.2) else jb_gd (s.2 79 4) 260 (some (.inl ((s.1 + (-1)), (jb_up (jb_up s.2 83 ((s.2 79 4)).toNatClampNeg (((x1 >>> ((8 * s.1) &&& 31)) : Int32).toInt8.toInt32 : Int32).toInt8.toInt32) 79 4 (((jb_up s.2 83 ((s.2 79 4)).toNatClampNeg (((x1 >>> ((8 * s.1) &&& 31)) : Int32).toInt8.toInt32 : Int32).toInt8.toInt32) 79 4) + 1)))))
noncomputable def zf_181 (x1 : Int32) (M : jb_Mi) : Option (jb_Mi) :=
  jb_lp (zf_181_H2 x1) (3, M)
set_option maxRecDepth 4000 in
theorem zg_181_H2 {Γ : jb_G} {L : Nat} {d : Nat} (x1 : Int32) (N : jb_Ml) (s : Int32 × jb_Mi) {v : Option Value} {σ2 : jb_S} {r : ((Int32 × jb_Mi) ⊕ (jb_Mi))} (h : zf_181_H2 x1 s = some r) (hK : (jb_K (fun s : Int32 × jb_Mi => jb_V Γ d zq_181 2 [some (.ref 79), some (.int x1), some (.int s.1)] [] (zE L, s.2, N) v σ2) (fun r : jb_Mi => v = none ∧ σ2 = (zE L, r, N))) r) : jb_V Γ d zq_181 2 [some (.ref 79), some (.int x1), some (.int s.1)] [] (zE L, s.2, N) v σ2 := by
  unfold zf_181_H2 at h
  refine jb_seg 2 (pc' := (if s.1 < 0 then 38 else 6)) (ls' := [some (.ref 79), some (.int x1), some (.int s.1)]) (st' := []) (σ' := (zE L, s.2, N)) (G := []) rfl trivial ?_
  refine jb_ite (fun c => ?_) (fun c => ?_)
  · rw [if_pos c] at h
    cases h
    obtain ⟨rfl, rfl⟩ := hK
    exact jb_retv rfl rfl
  · rw [if_neg c] at h
    obtain ⟨g1, h⟩ := jb_gd_of h
    refine jb_seg 19 (pc' := 2) (ls' := [some (.ref 79), some (.int x1), some (.int (s.1 + (-1)))]) (st' := []) (σ' := (zE L, (jb_up (jb_up s.2 83 ((s.2 79 4)).toNatClampNeg (((x1 >>> ((8 * s.1) &&& 31)) : Int32).toInt8.toInt32 : Int32).toInt8.toInt32) 79 4 (((jb_up s.2 83 ((s.2 79 4)).toNatClampNeg (((x1 >>> ((8 * s.1) &&& 31)) : Int32).toInt8.toInt32 : Int32).toInt8.toInt32) 79 4) + 1)), N)) (G := [vp_in (s.2 79 4) 260]) rfl g1 ?_
    cases h
    exact jb_mask [true, true, true] rfl hK
theorem zg_181_H2L {Γ : jb_G} {L : Nat} {d : Nat} (x1 : Int32) (N : jb_Ml) {v : Option Value} {σ2 : jb_S} {s : Int32 × jb_Mi} {r : (jb_Mi)} (h : jb_lp (zf_181_H2 x1) s = some r) (hK : (fun r : jb_Mi => v = none ∧ σ2 = (zE L, r, N)) r) : jb_V Γ d zq_181 2 [some (.ref 79), some (.int x1), some (.int s.1)] [] (zE L, s.2, N) v σ2 := by
  exact jb_lp_ind (P := fun s => jb_V Γ d zq_181 2 [some (.ref 79), some (.int x1), some (.int s.1)] [] (zE L, s.2, N) v σ2) (K := (fun r : jb_Mi => v = none ∧ σ2 = (zE L, r, N))) (fun s r h hk => zg_181_H2 x1 N s h (by cases r <;> exact hk)) h hK
set_option maxRecDepth 4000 in
theorem zg_181 {Γ : jb_G} {L : Nat} {d : Nat} (x1 : Int32) (M : jb_Mi) (N : jb_Ml) {v : Option Value} {σ2 : jb_S} {r : (jb_Mi)} (h : zf_181 x1 M = some r) (hK : (fun r : jb_Mi => v = none ∧ σ2 = (zE L, r, N)) r) : jb_V Γ d zq_181 0 [some (.ref 79), some (.int x1), none] [] (zE L, M, N) v σ2 := by
  unfold zf_181 at h
  refine jb_seg 2 (pc' := 2) (ls' := [some (.ref 79), some (.int x1), some (.int 3)]) (st' := []) (σ' := (zE L, M, N)) (G := []) rfl trivial ?_
  exact jb_mask [true, true, true] rfl (zg_181_H2L x1 N h hK)
theorem ze_181 {Γ : jb_G} {L : Nat} {d : Nat} (x1 : Int32) (M : jb_Mi) (N : jb_Ml) {r : (jb_Mi)} (h : zf_181 x1 M = some r) : jb_V Γ d zq_181 0 (jb_en 3 [(.ref 79), (.int x1)]) [] (zE L, M, N) (none) (zE L, r, N) := zg_181 x1 M N h ⟨rfl, rfl⟩
-- X13_feed
noncomputable def zf_182 (x1 : Int32) (x2 : Int32) (x3 : Int32) (x4 : Int32) (x5 : Int32) (M : jb_Mi) : Option (Int32 × jb_Mi) :=
  if 260 < ((M 79 4) + 20) then some ((-1), M) else (zf_181 x1 M).bind fun q1 => (zf_181 x2 q1).bind fun q2 => (zf_181 x3 q2).bind fun q3 => (zf_181 x4 q3).bind fun q4 => (zf_181 x5 q4).bind fun q5 => some ((q5 79 4), q5)
set_option maxRecDepth 4000 in
theorem zg_182 {Γ : jb_G} {L : Nat} {d : Nat} (hd : 1 ≤ d) (x1 : Int32) (x2 : Int32) (x3 : Int32) (x4 : Int32) (x5 : Int32) (M : jb_Mi) (N : jb_Ml) {v : Option Value} {σ2 : jb_S} {r : (Int32 × jb_Mi)} (h : zf_182 x1 x2 x3 x4 x5 M = some r) (hK : (fun r : Int32 × jb_Mi => v = some (.int r.1) ∧ σ2 = (zE L, r.2, N)) r) : jb_V Γ d zq_182 0 [some (.ref 79), some (.int x1), some (.int x2), some (.int x3), some (.int x4), some (.int x5)] [] (zE L, M, N) v σ2 := by
  obtain ⟨d, rfl⟩ : ∃ e, d = e + 1 := ⟨d - 1, by omega⟩
  unfold zf_182 at h
  refine jb_seg 6 (pc' := (if 260 < ((M 79 4) + 20) then 13 else 15)) (ls' := [some (.ref 79), some (.int x1), some (.int x2), some (.int x3), some (.int x4), some (.int x5)]) (st' := []) (σ' := (zE L, M, N)) (G := []) rfl trivial ?_
  refine jb_ite (fun c => ?_) (fun c => ?_)
  · rw [if_pos c] at h
    refine jb_seg 1 (pc' := 14) (ls' := [some (.ref 79), some (.int x1), some (.int x2), some (.int x3), some (.int x4), some (.int x5)]) (st' := [(.int (-1))]) (σ' := (zE L, M, N)) (G := []) rfl trivial ?_
    cases h
    obtain ⟨rfl, rfl⟩ := hK
    exact jb_reti rfl rfl
  · rw [if_neg c] at h
    refine jb_seg 2 (pc' := 17) (ls' := [some (.ref 79), some (.int x1), some (.int x2), some (.int x3), some (.int x4), some (.int x5)]) (st' := [(.int x1), (.ref 79)]) (σ' := (zE L, M, N)) (G := []) rfl trivial ?_
    obtain ⟨q1, h1, h⟩ := jb_bd_of h
    refine jb_callV (q' := zq_181) (As := [(.int x1)]) (rest := []) (σ1 := (zE L, q1, N)) (v := none) rfl rfl zp_181 rfl (by decide) (jb_cat rfl) (Nat.le_of_ble_eq_true rfl) (Nat.le_of_ble_eq_true rfl) (Or.inl rfl) rfl (ze_181 x1 M N h1) ?_
    refine jb_seg 2 (pc' := 22) (ls' := [some (.ref 79), some (.int x1), some (.int x2), some (.int x3), some (.int x4), some (.int x5)]) (st' := [(.int x2), (.ref 79)]) (σ' := (zE L, q1, N)) (G := []) rfl trivial ?_
    obtain ⟨q2, h2, h⟩ := jb_bd_of h
    refine jb_callV (q' := zq_181) (As := [(.int x2)]) (rest := []) (σ1 := (zE L, q2, N)) (v := none) rfl rfl zp_181 rfl (by decide) (jb_cat rfl) (Nat.le_of_ble_eq_true rfl) (Nat.le_of_ble_eq_true rfl) (Or.inl rfl) rfl (ze_181 x2 q1 N h2) ?_
    refine jb_seg 2 (pc' := 27) (ls' := [some (.ref 79), some (.int x1), some (.int x2), some (.int x3), some (.int x4), some (.int x5)]) (st' := [(.int x3), (.ref 79)]) (σ' := (zE L, q2, N)) (G := []) rfl trivial ?_
    obtain ⟨q3, h3, h⟩ := jb_bd_of h
    refine jb_callV (q' := zq_181) (As := [(.int x3)]) (rest := []) (σ1 := (zE L, q3, N)) (v := none) rfl rfl zp_181 rfl (by decide) (jb_cat rfl) (Nat.le_of_ble_eq_true rfl) (Nat.le_of_ble_eq_true rfl) (Or.inl rfl) rfl (ze_181 x3 q2 N h3) ?_
    refine jb_seg 2 (pc' := 33) (ls' := [some (.ref 79), some (.int x1), some (.int x2), some (.int x3), some (.int x4), some (.int x5)]) (st' := [(.int x4), (.ref 79)]) (σ' := (zE L, q3, N)) (G := []) rfl trivial ?_
    obtain ⟨q4, h4, h⟩ := jb_bd_of h
    refine jb_callV (q' := zq_181) (As := [(.int x4)]) (rest := []) (σ1 := (zE L, q4, N)) (v := none) rfl rfl zp_181 rfl (by decide) (jb_cat rfl) (Nat.le_of_ble_eq_true rfl) (Nat.le_of_ble_eq_true rfl) (Or.inl rfl) rfl (ze_181 x4 q3 N h4) ?_
    refine jb_seg 2 (pc' := 39) (ls' := [some (.ref 79), some (.int x1), some (.int x2), some (.int x3), some (.int x4), some (.int x5)]) (st' := [(.int x5), (.ref 79)]) (σ' := (zE L, q4, N)) (G := []) rfl trivial ?_
    obtain ⟨q5, h5, h⟩ := jb_bd_of h
    refine jb_callV (q' := zq_181) (As := [(.int x5)]) (rest := []) (σ1 := (zE L, q5, N)) (v := none) rfl rfl zp_181 rfl (by decide) (jb_cat rfl) (Nat.le_of_ble_eq_true rfl) (Nat.le_of_ble_eq_true rfl) (Or.inl rfl) rfl (ze_181 x5 q4 N h5) ?_
    refine jb_seg 2 (pc' := 46) (ls' := [some (.ref 79), some (.int x1), some (.int x2), some (.int x3), some (.int x4), some (.int x5)]) (st' := [(.int (q5 79 4))]) (σ' := (zE L, q5, N)) (G := []) rfl trivial ?_
    cases h
    obtain ⟨rfl, rfl⟩ := hK
    exact jb_reti rfl rfl
theorem ze_182 {Γ : jb_G} {L : Nat} {d : Nat} (hd : 1 ≤ d) (x1 : Int32) (x2 : Int32) (x3 : Int32) (x4 : Int32) (x5 : Int32) (M : jb_Mi) (N : jb_Ml) {r : (Int32 × jb_Mi)} (h : zf_182 x1 x2 x3 x4 x5 M = some r) : jb_V Γ d zq_182 0 (jb_en 6 [(.ref 79), (.int x1), (.int x2), (.int x3), (.int x4), (.int x5)]) [] (zE L, M, N) (some (.int r.1)) (zE L, r.2, N) := zg_182 hd x1 x2 x3 x4 x5 M N h ⟨rfl, rfl⟩
-- X13_octet
noncomputable def zf_183 (x1 : Int32) (M : jb_Mi) : Option (Int32) :=
  jb_gd x1 260 (some ((M 83 x1.toNatClampNeg) &&& 255))
set_option maxRecDepth 4000 in
theorem zg_183 {Γ : jb_G} {L : Nat} {d : Nat} (x1 : Int32) (M : jb_Mi) (N : jb_Ml) {v : Option Value} {σ2 : jb_S} {r : (Int32)} (h : zf_183 x1 M = some r) (hK : (fun r : Int32 => v = some (.int r) ∧ σ2 = (zE L, M, N)) r) : jb_V Γ d zq_183 0 [some (.ref 79), some (.int x1)] [] (zE L, M, N) v σ2 := by
  unfold zf_183 at h
  obtain ⟨g1, h⟩ := jb_gd_of h
  refine jb_seg 6 (pc' := 10) (ls' := [some (.ref 79), some (.int x1)]) (st' := [(.int ((M 83 x1.toNatClampNeg) &&& 255))]) (σ' := (zE L, M, N)) (G := [vp_in x1 260]) rfl g1 ?_
  cases h
  obtain ⟨rfl, rfl⟩ := hK
  exact jb_reti rfl rfl
theorem ze_183 {Γ : jb_G} {L : Nat} {d : Nat} (x1 : Int32) (M : jb_Mi) (N : jb_Ml) {r : (Int32)} (h : zf_183 x1 M = some r) : jb_V Γ d zq_183 0 (jb_en 2 [(.ref 79), (.int x1)]) [] (zE L, M, N) (some (.int r)) (zE L, M, N) := zg_183 x1 M N h ⟨rfl, rfl⟩
-- X13_here
noncomputable def zf_184 (M : jb_Mi) : Option (Int32) :=
  if (M 79 5) < (M 79 6) then jb_gd (M 79 5) 260 (some ((M 83 ((M 79 5)).toNatClampNeg) &&& 255)) else some (-1)
set_option maxRecDepth 4000 in
theorem zg_184 {Γ : jb_G} {L : Nat} {d : Nat} (M : jb_Mi) (N : jb_Ml) {v : Option Value} {σ2 : jb_S} {r : (Int32)} (h : zf_184 M = some r) (hK : (fun r : Int32 => v = some (.int r) ∧ σ2 = (zE L, M, N)) r) : jb_V Γ d zq_184 0 [some (.ref 79)] [] (zE L, M, N) v σ2 := by
  unfold zf_184 at h
  refine jb_seg 5 (pc' := (if (M 79 5) < (M 79 6) then 11 else 27)) (ls' := [some (.ref 79)]) (st' := []) (σ' := (zE L, M, N)) (G := []) rfl trivial ?_
  refine jb_ite (fun c => ?_) (fun c => ?_)
  · rw [if_pos c] at h
    obtain ⟨g1, h⟩ := jb_gd_of h
    refine jb_seg 8 (pc' := 28) (ls' := [some (.ref 79)]) (st' := [(.int ((M 83 ((M 79 5)).toNatClampNeg) &&& 255))]) (σ' := (zE L, M, N)) (G := [vp_in (M 79 5) 260]) rfl g1 ?_
    cases h
    obtain ⟨rfl, rfl⟩ := hK
    exact jb_reti rfl rfl
  · rw [if_neg c] at h
    refine jb_seg 1 (pc' := 28) (ls' := [some (.ref 79)]) (st' := [(.int (-1))]) (σ' := (zE L, M, N)) (G := []) rfl trivial ?_
    cases h
    obtain ⟨rfl, rfl⟩ := hK
    exact jb_reti rfl rfl
theorem ze_184 {Γ : jb_G} {L : Nat} {d : Nat} (M : jb_Mi) (N : jb_Ml) {r : (Int32)} (h : zf_184 M = some r) : jb_V Γ d zq_184 0 (jb_en 1 [(.ref 79)]) [] (zE L, M, N) (some (.int r)) (zE L, M, N) := zg_184 M N h ⟨rfl, rfl⟩
-- X13_isDigit
noncomputable def zf_185 (M : jb_Mi) : Option (Bool) :=
  (zf_184 M).bind fun q1 => if q1 < 48 then some false else (zf_184 M).bind fun q2 => if 57 < q2 then some false else some true
set_option maxRecDepth 4000 in
theorem zg_185 {Γ : jb_G} {L : Nat} {d : Nat} (hd : 1 ≤ d) (M : jb_Mi) (N : jb_Ml) {v : Option Value} {σ2 : jb_S} {r : (Bool)} (h : zf_185 M = some r) (hK : (fun r : Bool => v = some (.int (jb_b2i r)) ∧ σ2 = (zE L, M, N)) r) : jb_V Γ d zq_185 0 [some (.ref 79)] [] (zE L, M, N) v σ2 := by
  obtain ⟨d, rfl⟩ : ∃ e, d = e + 1 := ⟨d - 1, by omega⟩
  unfold zf_185 at h
  refine jb_seg 1 (pc' := 1) (ls' := [some (.ref 79)]) (st' := [(.ref 79)]) (σ' := (zE L, M, N)) (G := []) rfl trivial ?_
  obtain ⟨q1, h1, h⟩ := jb_bd_of h
  refine jb_callV (q' := zq_184) (As := []) (rest := []) (σ1 := (zE L, M, N)) (v := some (.int q1)) rfl rfl zp_184 rfl (by decide) (jb_cat rfl) (Nat.le_of_ble_eq_true rfl) (Nat.le_of_ble_eq_true rfl) (Or.inl rfl) rfl (ze_184 M N h1) ?_
  refine jb_seg 2 (pc' := (if q1 < 48 then 22 else 9)) (ls' := [some (.ref 79)]) (st' := []) (σ' := (zE L, M, N)) (G := []) rfl trivial ?_
  refine jb_ite (fun c => ?_) (fun c => ?_)
  · rw [if_pos c] at h
    refine jb_seg 1 (pc' := 23) (ls' := [some (.ref 79)]) (st' := [(.int 0)]) (σ' := (zE L, M, N)) (G := []) rfl trivial ?_
    cases h
    obtain ⟨rfl, rfl⟩ := hK
    exact jb_retz (by decide) rfl rfl
  · rw [if_neg c] at h
    refine jb_seg 1 (pc' := 10) (ls' := [some (.ref 79)]) (st' := [(.ref 79)]) (σ' := (zE L, M, N)) (G := []) rfl trivial ?_
    obtain ⟨q2, h2, h⟩ := jb_bd_of h
    refine jb_callV (q' := zq_184) (As := []) (rest := []) (σ1 := (zE L, M, N)) (v := some (.int q2)) rfl rfl zp_184 rfl (by decide) (jb_cat rfl) (Nat.le_of_ble_eq_true rfl) (Nat.le_of_ble_eq_true rfl) (Or.inl rfl) rfl (ze_184 M N h2) ?_
    refine jb_seg 2 (pc' := (if 57 < q2 then 22 else 18)) (ls' := [some (.ref 79)]) (st' := []) (σ' := (zE L, M, N)) (G := []) rfl trivial ?_
    refine jb_ite (fun c => ?_) (fun c => ?_)
    · rw [if_pos c] at h
      refine jb_seg 1 (pc' := 23) (ls' := [some (.ref 79)]) (st' := [(.int 0)]) (σ' := (zE L, M, N)) (G := []) rfl trivial ?_
      cases h
      obtain ⟨rfl, rfl⟩ := hK
      exact jb_retz (by decide) rfl rfl
    · rw [if_neg c] at h
      refine jb_seg 2 (pc' := 23) (ls' := [some (.ref 79)]) (st' := [(.int 1)]) (σ' := (zE L, M, N)) (G := []) rfl trivial ?_
      cases h
      obtain ⟨rfl, rfl⟩ := hK
      exact jb_retz (by decide) rfl rfl
theorem ze_185 {Γ : jb_G} {L : Nat} {d : Nat} (hd : 1 ≤ d) (M : jb_Mi) (N : jb_Ml) {r : (Bool)} (h : zf_185 M = some r) : jb_V Γ d zq_185 0 (jb_en 1 [(.ref 79)]) [] (zE L, M, N) (some (.int (jb_b2i r))) (zE L, M, N) := zg_185 hd M N h ⟨rfl, rfl⟩
-- X13_wrongAt
noncomputable def zf_186 (x1 : Int32) (x2 : Int32) (M : jb_Mi) : Bool × jb_Mi :=
  (false, (jb_up M 79 7 (((-1000) * x1) - x2)))
set_option maxRecDepth 4000 in
theorem zg_186 {Γ : jb_G} {L : Nat} {d : Nat} (x1 : Int32) (x2 : Int32) (M : jb_Mi) (N : jb_Ml) {v : Option Value} {σ2 : jb_S} {r : Bool × jb_Mi} (h : zf_186 x1 x2 M = r) (hK : (fun r : Bool × jb_Mi => v = some (.int (jb_b2i r.1)) ∧ σ2 = (zE L, r.2, N)) r) : jb_V Γ d zq_186 0 [some (.ref 79), some (.int x1), some (.int x2)] [] (zE L, M, N) v σ2 := by
  unfold zf_186 at h
  refine jb_seg 8 (pc' := 12) (ls' := [some (.ref 79), some (.int x1), some (.int x2)]) (st' := [(.int 0)]) (σ' := (zE L, (jb_up M 79 7 (((-1000) * x1) - x2)), N)) (G := []) rfl trivial ?_
  subst h
  obtain ⟨rfl, rfl⟩ := hK
  exact jb_retz (by decide) rfl rfl
theorem ze_186 {Γ : jb_G} {L : Nat} {d : Nat} (x1 : Int32) (x2 : Int32) (M : jb_Mi) (N : jb_Ml) {r : Bool × jb_Mi} (h : zf_186 x1 x2 M = r) : jb_V Γ d zq_186 0 (jb_en 3 [(.ref 79), (.int x1), (.int x2)]) [] (zE L, M, N) (some (.int (jb_b2i r.1))) (zE L, r.2, N) := zg_186 x1 x2 M N h ⟨rfl, rfl⟩
-- X13_takes
noncomputable def zf_187 (x1 : Int32) (M : jb_Mi) : Option (Bool × jb_Mi) :=
  (zf_184 M).bind fun q1 => if q1 = x1 then some (true, (jb_up M 79 5 ((M 79 5) + 1))) else some ((zf_186 1 (M 79 5) M).1, (zf_186 1 (M 79 5) M).2)
set_option maxRecDepth 4000 in
theorem zg_187 {Γ : jb_G} {L : Nat} {d : Nat} (hd : 1 ≤ d) (x1 : Int32) (M : jb_Mi) (N : jb_Ml) {v : Option Value} {σ2 : jb_S} {r : (Bool × jb_Mi)} (h : zf_187 x1 M = some r) (hK : (fun r : Bool × jb_Mi => v = some (.int (jb_b2i r.1)) ∧ σ2 = (zE L, r.2, N)) r) : jb_V Γ d zq_187 0 [some (.ref 79), some (.int x1)] [] (zE L, M, N) v σ2 := by
  obtain ⟨d, rfl⟩ : ∃ e, d = e + 1 := ⟨d - 1, by omega⟩
  unfold zf_187 at h
  refine jb_seg 1 (pc' := 1) (ls' := [some (.ref 79), some (.int x1)]) (st' := [(.ref 79)]) (σ' := (zE L, M, N)) (G := []) rfl trivial ?_
  obtain ⟨q1, h1, h⟩ := jb_bd_of h
  refine jb_callV (q' := zq_184) (As := []) (rest := []) (σ1 := (zE L, M, N)) (v := some (.int q1)) rfl rfl zp_184 rfl (by decide) (jb_cat rfl) (Nat.le_of_ble_eq_true rfl) (Nat.le_of_ble_eq_true rfl) (Or.inl rfl) rfl (ze_184 M N h1) ?_
  refine jb_seg 2 (pc' := (if q1 = x1 then 18 else 8)) (ls' := [some (.ref 79), some (.int x1)]) (st' := []) (σ' := (zE L, M, N)) (G := []) rfl trivial ?_
  refine jb_ite (fun c => ?_) (fun c => ?_)
  · rw [if_pos c] at h
    refine jb_seg 7 (pc' := 29) (ls' := [some (.ref 79), some (.int x1)]) (st' := [(.int 1)]) (σ' := (zE L, (jb_up M 79 5 ((M 79 5) + 1)), N)) (G := []) rfl trivial ?_
    cases h
    obtain ⟨rfl, rfl⟩ := hK
    exact jb_retz (by decide) rfl rfl
  · rw [if_neg c] at h
    refine jb_seg 4 (pc' := 14) (ls' := [some (.ref 79), some (.int x1)]) (st' := [(.int (M 79 5)), (.int 1), (.ref 79)]) (σ' := (zE L, M, N)) (G := []) rfl trivial ?_
    refine jb_callV (q' := zq_186) (As := [(.int 1), (.int (M 79 5))]) (rest := []) (σ1 := (zE L, (zf_186 1 (M 79 5) M).2, N)) (v := some (.int (jb_b2i (zf_186 1 (M 79 5) M).1))) rfl rfl zp_186 rfl (by decide) (jb_cat rfl) (Nat.le_of_ble_eq_true rfl) (Nat.le_of_ble_eq_true rfl) (Or.inl rfl) rfl (ze_186 1 (M 79 5) M N rfl) ?_
    cases h
    obtain ⟨rfl, rfl⟩ := hK
    exact jb_retz (jb_b2i_or _) rfl rfl
theorem ze_187 {Γ : jb_G} {L : Nat} {d : Nat} (hd : 1 ≤ d) (x1 : Int32) (M : jb_Mi) (N : jb_Ml) {r : (Bool × jb_Mi)} (h : zf_187 x1 M = some r) : jb_V Γ d zq_187 0 (jb_en 2 [(.ref 79), (.int x1)]) [] (zE L, M, N) (some (.int (jb_b2i r.1))) (zE L, r.2, N) := zg_187 hd x1 M N h ⟨rfl, rfl⟩
-- X13_readsNumber
noncomputable def zf_188_H10 (x1 : Int32) (s : jb_Mi) : Option ((jb_Mi) ⊕ (Bool × jb_Mi)) :=
  (zf_185 s).bind fun q1 => if (jb_b2i q1) = 0 then some (.inr (true, s)) else if (s 79 5) = (x1 + 5) then some (.inr ((zf_186 2 (s 79 5) s).1, (zf_186 2 (s 79 5) s).2)) else (zf_184 s).bind fun q2 => some (.inl (jb_up (jb_up s 79 8 (((10 * (s 79 8)) + q2) - 48)) 79 5 (((jb_up s 79 8 (((10 * (s 79 8)) + q2) - 48)) 79 5) + 1)))
noncomputable def zf_188 (M : jb_Mi) : Option (Bool × jb_Mi) :=
  jb_lp (zf_188_H10 (M 79 5)) (jb_up M 79 8 0)
set_option maxRecDepth 4000 in
theorem zg_188_H10 {Γ : jb_G} {L : Nat} {d : Nat} (hd : 2 ≤ d) (x1 : Int32) (N : jb_Ml) (s : jb_Mi) {v : Option Value} {σ2 : jb_S} {r : ((jb_Mi) ⊕ (Bool × jb_Mi))} (h : zf_188_H10 x1 s = some r) (hK : (jb_K (fun s : jb_Mi => jb_V Γ d zq_188 10 [some (.ref 79), some (.int x1)] [] (zE L, s, N) v σ2) (fun r : Bool × jb_Mi => v = some (.int (jb_b2i r.1)) ∧ σ2 = (zE L, r.2, N))) r) : jb_V Γ d zq_188 10 [some (.ref 79), some (.int x1)] [] (zE L, s, N) v σ2 := by
  obtain ⟨d, rfl⟩ : ∃ e, d = e + 1 := ⟨d - 1, by omega⟩
  unfold zf_188_H10 at h
  refine jb_seg 1 (pc' := 11) (ls' := [some (.ref 79), some (.int x1)]) (st' := [(.ref 79)]) (σ' := (zE L, s, N)) (G := []) rfl trivial ?_
  obtain ⟨q1, h1, h⟩ := jb_bd_of h
  refine jb_callV (q' := zq_185) (As := []) (rest := []) (σ1 := (zE L, s, N)) (v := some (.int (jb_b2i q1))) rfl rfl zp_185 rfl (by decide) (jb_cat rfl) (Nat.le_of_ble_eq_true rfl) (Nat.le_of_ble_eq_true rfl) (Or.inl rfl) rfl (ze_185 (by omega) s N h1) ?_
  refine jb_seg 1 (pc' := (if (jb_b2i q1) = 0 then 69 else 17)) (ls' := [some (.ref 79), some (.int x1)]) (st' := []) (σ' := (zE L, s, N)) (G := []) rfl trivial ?_
  refine jb_ite (fun c => ?_) (fun c => ?_)
  · rw [if_pos c] at h
    refine jb_seg 1 (pc' := 70) (ls' := [some (.ref 79), some (.int x1)]) (st' := [(.int 1)]) (σ' := (zE L, s, N)) (G := []) rfl trivial ?_
    cases h
    obtain ⟨rfl, rfl⟩ := hK
    exact jb_retz (by decide) rfl rfl
  · rw [if_neg c] at h
    refine jb_seg 6 (pc' := (if (s 79 5) = (x1 + 5) then 27 else 37)) (ls' := [some (.ref 79), some (.int x1)]) (st' := []) (σ' := (zE L, s, N)) (G := []) rfl trivial ?_
    refine jb_ite (fun c => ?_) (fun c => ?_)
    · rw [if_pos c] at h
      refine jb_seg 4 (pc' := 33) (ls' := [some (.ref 79), some (.int x1)]) (st' := [(.int (s 79 5)), (.int 2), (.ref 79)]) (σ' := (zE L, s, N)) (G := []) rfl trivial ?_
      refine jb_callV (q' := zq_186) (As := [(.int 2), (.int (s 79 5))]) (rest := []) (σ1 := (zE L, (zf_186 2 (s 79 5) s).2, N)) (v := some (.int (jb_b2i (zf_186 2 (s 79 5) s).1))) rfl rfl zp_186 rfl (by decide) (jb_cat rfl) (Nat.le_of_ble_eq_true rfl) (Nat.le_of_ble_eq_true rfl) (Or.inl rfl) rfl (ze_186 2 (s 79 5) s N rfl) ?_
      cases h
      obtain ⟨rfl, rfl⟩ := hK
      exact jb_retz (jb_b2i_or _) rfl rfl
    · rw [if_neg c] at h
      refine jb_seg 6 (pc' := 46) (ls' := [some (.ref 79), some (.int x1)]) (st' := [(.ref 79), (.int (10 * (s 79 8))), (.ref 79)]) (σ' := (zE L, s, N)) (G := []) rfl trivial ?_
      obtain ⟨q2, h2, h⟩ := jb_bd_of h
      refine jb_callV (q' := zq_184) (As := []) (rest := [(.int (10 * (s 79 8))), (.ref 79)]) (σ1 := (zE L, s, N)) (v := some (.int q2)) rfl rfl zp_184 rfl (by decide) (jb_cat rfl) (Nat.le_of_ble_eq_true rfl) (Nat.le_of_ble_eq_true rfl) (Or.inl rfl) rfl (ze_184 s N h2) ?_
      refine jb_seg 11 (pc' := 10) (ls' := [some (.ref 79), some (.int x1)]) (st' := []) (σ' := (zE L, (jb_up (jb_up s 79 8 (((10 * (s 79 8)) + q2) - 48)) 79 5 (((jb_up s 79 8 (((10 * (s 79 8)) + q2) - 48)) 79 5) + 1)), N)) (G := []) rfl trivial ?_
      cases h
      exact jb_mask [true, true] rfl hK
theorem zg_188_H10L {Γ : jb_G} {L : Nat} {d : Nat} (hd : 2 ≤ d) (x1 : Int32) (N : jb_Ml) {v : Option Value} {σ2 : jb_S} {s : jb_Mi} {r : (Bool × jb_Mi)} (h : jb_lp (zf_188_H10 x1) s = some r) (hK : (fun r : Bool × jb_Mi => v = some (.int (jb_b2i r.1)) ∧ σ2 = (zE L, r.2, N)) r) : jb_V Γ d zq_188 10 [some (.ref 79), some (.int x1)] [] (zE L, s, N) v σ2 := by
  exact jb_lp_ind (P := fun s => jb_V Γ d zq_188 10 [some (.ref 79), some (.int x1)] [] (zE L, s, N) v σ2) (K := (fun r : Bool × jb_Mi => v = some (.int (jb_b2i r.1)) ∧ σ2 = (zE L, r.2, N))) (fun s r h hk => zg_188_H10 hd x1 N s h (by cases r <;> exact hk)) h hK
set_option maxRecDepth 4000 in
theorem zg_188 {Γ : jb_G} {L : Nat} {d : Nat} (hd : 2 ≤ d) (M : jb_Mi) (N : jb_Ml) {v : Option Value} {σ2 : jb_S} {r : (Bool × jb_Mi)} (h : zf_188 M = some r) (hK : (fun r : Bool × jb_Mi => v = some (.int (jb_b2i r.1)) ∧ σ2 = (zE L, r.2, N)) r) : jb_V Γ d zq_188 0 [some (.ref 79), none] [] (zE L, M, N) v σ2 := by
  obtain ⟨d, rfl⟩ : ∃ e, d = e + 1 := ⟨d - 1, by omega⟩
  unfold zf_188 at h
  refine jb_seg 6 (pc' := 10) (ls' := [some (.ref 79), some (.int (M 79 5))]) (st' := []) (σ' := (zE L, (jb_up M 79 8 0), N)) (G := []) rfl trivial ?_
  exact jb_mask [true, true] rfl (zg_188_H10L hd (M 79 5) N h hK)
theorem ze_188 {Γ : jb_G} {L : Nat} {d : Nat} (hd : 2 ≤ d) (M : jb_Mi) (N : jb_Ml) {r : (Bool × jb_Mi)} (h : zf_188 M = some r) : jb_V Γ d zq_188 0 (jb_en 2 [(.ref 79)]) [] (zE L, M, N) (some (.int (jb_b2i r.1))) (zE L, r.2, N) := zg_188 hd M N h ⟨rfl, rfl⟩
-- X13_notes
noncomputable def zf_189 (x1 : Int32) (x2 : Int32) (M : jb_Mi) : Option (jb_Mi) :=
  jb_gd (M 79 10) 260 (some (jb_up (jb_up M 84 ((M 79 10)).toNatClampNeg ((1048576 * x1) + x2)) 79 10 (((jb_up M 84 ((M 79 10)).toNatClampNeg ((1048576 * x1) + x2)) 79 10) + 1)))
set_option maxRecDepth 4000 in
theorem zg_189 {Γ : jb_G} {L : Nat} {d : Nat} (x1 : Int32) (x2 : Int32) (M : jb_Mi) (N : jb_Ml) {v : Option Value} {σ2 : jb_S} {r : (jb_Mi)} (h : zf_189 x1 x2 M = some r) (hK : (fun r : jb_Mi => v = none ∧ σ2 = (zE L, r, N)) r) : jb_V Γ d zq_189 0 [some (.ref 79), some (.int x1), some (.int x2)] [] (zE L, M, N) v σ2 := by
  unfold zf_189 at h
  obtain ⟨g1, h⟩ := jb_gd_of h
  refine jb_seg 16 (pc' := 25) (ls' := [some (.ref 79), some (.int x1), some (.int x2)]) (st' := []) (σ' := (zE L, (jb_up (jb_up M 84 ((M 79 10)).toNatClampNeg ((1048576 * x1) + x2)) 79 10 (((jb_up M 84 ((M 79 10)).toNatClampNeg ((1048576 * x1) + x2)) 79 10) + 1)), N)) (G := [vp_in (M 79 10) 260]) rfl g1 ?_
  cases h
  obtain ⟨rfl, rfl⟩ := hK
  exact jb_retv rfl rfl
theorem ze_189 {Γ : jb_G} {L : Nat} {d : Nat} (x1 : Int32) (x2 : Int32) (M : jb_Mi) (N : jb_Ml) {r : (jb_Mi)} (h : zf_189 x1 x2 M = some r) : jb_V Γ d zq_189 0 (jb_en 3 [(.ref 79), (.int x1), (.int x2)]) [] (zE L, M, N) (none) (zE L, r, N) := zg_189 x1 x2 M N h ⟨rfl, rfl⟩
-- X13_opens
noncomputable def zf_190 (x1 : Int32) (M : jb_Mi) : Option (Bool × jb_Mi) :=
  if (M 79 9) = 6 then some ((zf_186 5 (M 79 5) M).1, (zf_186 5 (M 79 5) M).2) else jb_gd ((jb_up M 79 9 ((M 79 9) + 1)) 79 11) 260 (some (true, (jb_up (jb_up (jb_up (jb_up M 79 9 ((M 79 9) + 1)) 85 (((jb_up M 79 9 ((M 79 9) + 1)) 79 11)).toNatClampNeg (1048576 * x1)) 79 11 (((jb_up (jb_up M 79 9 ((M 79 9) + 1)) 85 (((jb_up M 79 9 ((M 79 9) + 1)) 79 11)).toNatClampNeg (1048576 * x1)) 79 11) + 1)) 79 5 (((jb_up (jb_up (jb_up M 79 9 ((M 79 9) + 1)) 85 (((jb_up M 79 9 ((M 79 9) + 1)) 79 11)).toNatClampNeg (1048576 * x1)) 79 11 (((jb_up (jb_up M 79 9 ((M 79 9) + 1)) 85 (((jb_up M 79 9 ((M 79 9) + 1)) 79 11)).toNatClampNeg (1048576 * x1)) 79 11) + 1)) 79 5) + 1))))
set_option maxRecDepth 4000 in
theorem zg_190 {Γ : jb_G} {L : Nat} {d : Nat} (hd : 1 ≤ d) (x1 : Int32) (M : jb_Mi) (N : jb_Ml) {v : Option Value} {σ2 : jb_S} {r : (Bool × jb_Mi)} (h : zf_190 x1 M = some r) (hK : (fun r : Bool × jb_Mi => v = some (.int (jb_b2i r.1)) ∧ σ2 = (zE L, r.2, N)) r) : jb_V Γ d zq_190 0 [some (.ref 79), some (.int x1)] [] (zE L, M, N) v σ2 := by
  obtain ⟨d, rfl⟩ : ∃ e, d = e + 1 := ⟨d - 1, by omega⟩
  unfold zf_190 at h
  refine jb_seg 4 (pc' := (if (M 79 9) = 6 then 9 else 19)) (ls' := [some (.ref 79), some (.int x1)]) (st' := []) (σ' := (zE L, M, N)) (G := []) rfl trivial ?_
  refine jb_ite (fun c => ?_) (fun c => ?_)
  · rw [if_pos c] at h
    refine jb_seg 4 (pc' := 15) (ls' := [some (.ref 79), some (.int x1)]) (st' := [(.int (M 79 5)), (.int 5), (.ref 79)]) (σ' := (zE L, M, N)) (G := []) rfl trivial ?_
    refine jb_callV (q' := zq_186) (As := [(.int 5), (.int (M 79 5))]) (rest := []) (σ1 := (zE L, (zf_186 5 (M 79 5) M).2, N)) (v := some (.int (jb_b2i (zf_186 5 (M 79 5) M).1))) rfl rfl zp_186 rfl (by decide) (jb_cat rfl) (Nat.le_of_ble_eq_true rfl) (Nat.le_of_ble_eq_true rfl) (Or.inl rfl) rfl (ze_186 5 (M 79 5) M N rfl) ?_
    cases h
    obtain ⟨rfl, rfl⟩ := hK
    exact jb_retz (jb_b2i_or _) rfl rfl
  · rw [if_neg c] at h
    obtain ⟨g1, h⟩ := jb_gd_of h
    refine jb_seg 27 (pc' := 63) (ls' := [some (.ref 79), some (.int x1)]) (st' := [(.int 1)]) (σ' := (zE L, (jb_up (jb_up (jb_up (jb_up M 79 9 ((M 79 9) + 1)) 85 (((jb_up M 79 9 ((M 79 9) + 1)) 79 11)).toNatClampNeg (1048576 * x1)) 79 11 (((jb_up (jb_up M 79 9 ((M 79 9) + 1)) 85 (((jb_up M 79 9 ((M 79 9) + 1)) 79 11)).toNatClampNeg (1048576 * x1)) 79 11) + 1)) 79 5 (((jb_up (jb_up (jb_up M 79 9 ((M 79 9) + 1)) 85 (((jb_up M 79 9 ((M 79 9) + 1)) 79 11)).toNatClampNeg (1048576 * x1)) 79 11 (((jb_up (jb_up M 79 9 ((M 79 9) + 1)) 85 (((jb_up M 79 9 ((M 79 9) + 1)) 79 11)).toNatClampNeg (1048576 * x1)) 79 11) + 1)) 79 5) + 1)), N)) (G := [vp_in ((jb_up M 79 9 ((M 79 9) + 1)) 79 11) 260]) rfl g1 ?_
    cases h
    obtain ⟨rfl, rfl⟩ := hK
    exact jb_retz (by decide) rfl rfl
theorem ze_190 {Γ : jb_G} {L : Nat} {d : Nat} (hd : 1 ≤ d) (x1 : Int32) (M : jb_Mi) (N : jb_Ml) {r : (Bool × jb_Mi)} (h : zf_190 x1 M = some r) : jb_V Γ d zq_190 0 (jb_en 2 [(.ref 79), (.int x1)]) [] (zE L, M, N) (some (.int (jb_b2i r.1))) (zE L, r.2, N) := zg_190 hd x1 M N h ⟨rfl, rfl⟩
-- X13_waitTop
noncomputable def zf_191 (M : jb_Mi) : Option (Int32) :=
  if (M 79 11) = 0 then some (-1) else jb_gd ((M 79 11) - 1) 260 (some ((M 85 (((M 79 11) - 1)).toNatClampNeg) / 1048576))
set_option maxRecDepth 4000 in
theorem zg_191 {Γ : jb_G} {L : Nat} {d : Nat} (M : jb_Mi) (N : jb_Ml) {v : Option Value} {σ2 : jb_S} {r : (Int32)} (h : zf_191 M = some r) (hK : (fun r : Int32 => v = some (.int r) ∧ σ2 = (zE L, M, N)) r) : jb_V Γ d zq_191 0 [some (.ref 79)] [] (zE L, M, N) v σ2 := by
  unfold zf_191 at h
  refine jb_seg 3 (pc' := (if (M 79 11) = 0 then 7 else 11)) (ls' := [some (.ref 79)]) (st' := []) (σ' := (zE L, M, N)) (G := []) rfl trivial ?_
  refine jb_ite (fun c => ?_) (fun c => ?_)
  · rw [if_pos c] at h
    refine jb_seg 2 (pc' := 25) (ls' := [some (.ref 79)]) (st' := [(.int (-1))]) (σ' := (zE L, M, N)) (G := []) rfl trivial ?_
    cases h
    obtain ⟨rfl, rfl⟩ := hK
    exact jb_reti rfl rfl
  · rw [if_neg c] at h
    obtain ⟨g1, h⟩ := jb_gd_of h
    refine jb_seg 9 (pc' := 25) (ls' := [some (.ref 79)]) (st' := [(.int ((M 85 (((M 79 11) - 1)).toNatClampNeg) / 1048576))]) (σ' := (zE L, M, N)) (G := [vp_in ((M 79 11) - 1) 260, ¬ (1048576 : Int32) = 0]) rfl ⟨g1, (show ¬ (1048576 : Int32) = 0 from (by decide))⟩ ?_
    cases h
    obtain ⟨rfl, rfl⟩ := hK
    exact jb_reti rfl rfl
theorem ze_191 {Γ : jb_G} {L : Nat} {d : Nat} (M : jb_Mi) (N : jb_Ml) {r : (Int32)} (h : zf_191 M = some r) : jb_V Γ d zq_191 0 (jb_en 1 [(.ref 79)]) [] (zE L, M, N) (some (.int r)) (zE L, M, N) := zg_191 M N h ⟨rfl, rfl⟩
-- X13_factOf
noncomputable def zf_192 (x0 : Int32) : Int32 :=
  if x0 = 97 then 2 else if x0 = 98 then (-1) else if x0 = 99 then 5 else if x0 = 100 then (-1) else if x0 = 101 then (-1) else if x0 = 102 then (-1) else if x0 = 103 then 7 else if x0 = 104 then 8 else if x0 = 105 then 4 else if x0 = 106 then (-1) else if x0 = 107 then 6 else if x0 = 108 then 3 else if x0 = 109 then 0 else if x0 = 110 then 9 else if x0 = 111 then (-1) else if x0 = 112 then (-1) else if x0 = 113 then (-1) else if x0 = 114 then (-1) else if x0 = 115 then 1 else (-1)
set_option maxRecDepth 4000 in
theorem zg_192 {Γ : jb_G} {L : Nat} {d : Nat} (x0 : Int32) (M : jb_Mi) (N : jb_Ml) {v : Option Value} {σ2 : jb_S} {r : Int32} (h : zf_192 x0 = r) (hK : (fun r : Int32 => v = some (.int r) ∧ σ2 = (zE L, M, N)) r) : jb_V Γ d zq_192 0 [some (.int x0)] [] (zE L, M, N) v σ2 := by
  unfold zf_192 at h
  refine jb_seg 1 (pc' := 1) (ls' := [some (.int x0)]) (st' := [(.int x0)]) (σ' := (zE L, M, N)) (G := []) rfl trivial ?_
  refine jb_tsw [(97, 96), (98, 116), (99, 102), (100, 116), (101, 116), (102, 116), (103, 107), (104, 110), (105, 100), (106, 116), (107, 104), (108, 98), (109, 92), (110, 113), (111, 116), (112, 116), (113, 116), (114, 116), (115, 94)] 116 rfl (by decide +kernel) ?_
  refine jb_swc (fun c => ?_) (fun c => ?_)
  · rw [if_pos c] at h
    refine jb_seg 1 (pc' := 97) (ls' := [some (.int x0)]) (st' := [(.int 2)]) (σ' := (zE L, M, N)) (G := []) rfl trivial ?_
    subst h
    obtain ⟨rfl, rfl⟩ := hK
    exact jb_reti rfl rfl
  · rw [if_neg c] at h
    refine jb_swc (fun c => ?_) (fun c => ?_)
    · rw [if_pos c] at h
      refine jb_seg 1 (pc' := 117) (ls' := [some (.int x0)]) (st' := [(.int (-1))]) (σ' := (zE L, M, N)) (G := []) rfl trivial ?_
      subst h
      obtain ⟨rfl, rfl⟩ := hK
      exact jb_reti rfl rfl
    · rw [if_neg c] at h
      refine jb_swc (fun c => ?_) (fun c => ?_)
      · rw [if_pos c] at h
        refine jb_seg 1 (pc' := 103) (ls' := [some (.int x0)]) (st' := [(.int 5)]) (σ' := (zE L, M, N)) (G := []) rfl trivial ?_
        subst h
        obtain ⟨rfl, rfl⟩ := hK
        exact jb_reti rfl rfl
      · rw [if_neg c] at h
        refine jb_swc (fun c => ?_) (fun c => ?_)
        · rw [if_pos c] at h
          refine jb_seg 1 (pc' := 117) (ls' := [some (.int x0)]) (st' := [(.int (-1))]) (σ' := (zE L, M, N)) (G := []) rfl trivial ?_
          subst h
          obtain ⟨rfl, rfl⟩ := hK
          exact jb_reti rfl rfl
        · rw [if_neg c] at h
          refine jb_swc (fun c => ?_) (fun c => ?_)
          · rw [if_pos c] at h
            refine jb_seg 1 (pc' := 117) (ls' := [some (.int x0)]) (st' := [(.int (-1))]) (σ' := (zE L, M, N)) (G := []) rfl trivial ?_
            subst h
            obtain ⟨rfl, rfl⟩ := hK
            exact jb_reti rfl rfl
          · rw [if_neg c] at h
            refine jb_swc (fun c => ?_) (fun c => ?_)
            · rw [if_pos c] at h
              refine jb_seg 1 (pc' := 117) (ls' := [some (.int x0)]) (st' := [(.int (-1))]) (σ' := (zE L, M, N)) (G := []) rfl trivial ?_
              subst h
              obtain ⟨rfl, rfl⟩ := hK
              exact jb_reti rfl rfl
            · rw [if_neg c] at h
              refine jb_swc (fun c => ?_) (fun c => ?_)
              · rw [if_pos c] at h
                refine jb_seg 1 (pc' := 109) (ls' := [some (.int x0)]) (st' := [(.int 7)]) (σ' := (zE L, M, N)) (G := []) rfl trivial ?_
                subst h
                obtain ⟨rfl, rfl⟩ := hK
                exact jb_reti rfl rfl
              · rw [if_neg c] at h
                refine jb_swc (fun c => ?_) (fun c => ?_)
                · rw [if_pos c] at h
                  refine jb_seg 1 (pc' := 112) (ls' := [some (.int x0)]) (st' := [(.int 8)]) (σ' := (zE L, M, N)) (G := []) rfl trivial ?_
                  subst h
                  obtain ⟨rfl, rfl⟩ := hK
                  exact jb_reti rfl rfl
                · rw [if_neg c] at h
                  refine jb_swc (fun c => ?_) (fun c => ?_)
                  · rw [if_pos c] at h
                    refine jb_seg 1 (pc' := 101) (ls' := [some (.int x0)]) (st' := [(.int 4)]) (σ' := (zE L, M, N)) (G := []) rfl trivial ?_
                    subst h
                    obtain ⟨rfl, rfl⟩ := hK
                    exact jb_reti rfl rfl
                  · rw [if_neg c] at h
                    refine jb_swc (fun c => ?_) (fun c => ?_)
                    · rw [if_pos c] at h
                      refine jb_seg 1 (pc' := 117) (ls' := [some (.int x0)]) (st' := [(.int (-1))]) (σ' := (zE L, M, N)) (G := []) rfl trivial ?_
                      subst h
                      obtain ⟨rfl, rfl⟩ := hK
                      exact jb_reti rfl rfl
                    · rw [if_neg c] at h
                      refine jb_swc (fun c => ?_) (fun c => ?_)
                      · rw [if_pos c] at h
                        refine jb_seg 1 (pc' := 106) (ls' := [some (.int x0)]) (st' := [(.int 6)]) (σ' := (zE L, M, N)) (G := []) rfl trivial ?_
                        subst h
                        obtain ⟨rfl, rfl⟩ := hK
                        exact jb_reti rfl rfl
                      · rw [if_neg c] at h
                        refine jb_swc (fun c => ?_) (fun c => ?_)
                        · rw [if_pos c] at h
                          refine jb_seg 1 (pc' := 99) (ls' := [some (.int x0)]) (st' := [(.int 3)]) (σ' := (zE L, M, N)) (G := []) rfl trivial ?_
                          subst h
                          obtain ⟨rfl, rfl⟩ := hK
                          exact jb_reti rfl rfl
                        · rw [if_neg c] at h
                          refine jb_swc (fun c => ?_) (fun c => ?_)
                          · rw [if_pos c] at h
                            refine jb_seg 1 (pc' := 93) (ls' := [some (.int x0)]) (st' := [(.int 0)]) (σ' := (zE L, M, N)) (G := []) rfl trivial ?_
                            subst h
                            obtain ⟨rfl, rfl⟩ := hK
                            exact jb_reti rfl rfl
                          · rw [if_neg c] at h
                            refine jb_swc (fun c => ?_) (fun c => ?_)
                            · rw [if_pos c] at h
                              refine jb_seg 1 (pc' := 115) (ls' := [some (.int x0)]) (st' := [(.int 9)]) (σ' := (zE L, M, N)) (G := []) rfl trivial ?_
                              subst h
                              obtain ⟨rfl, rfl⟩ := hK
                              exact jb_reti rfl rfl
                            · rw [if_neg c] at h
                              refine jb_swc (fun c => ?_) (fun c => ?_)
                              · rw [if_pos c] at h
                                refine jb_seg 1 (pc' := 117) (ls' := [some (.int x0)]) (st' := [(.int (-1))]) (σ' := (zE L, M, N)) (G := []) rfl trivial ?_
                                subst h
                                obtain ⟨rfl, rfl⟩ := hK
                                exact jb_reti rfl rfl
                              · rw [if_neg c] at h
                                refine jb_swc (fun c => ?_) (fun c => ?_)
                                · rw [if_pos c] at h
                                  refine jb_seg 1 (pc' := 117) (ls' := [some (.int x0)]) (st' := [(.int (-1))]) (σ' := (zE L, M, N)) (G := []) rfl trivial ?_
                                  subst h
                                  obtain ⟨rfl, rfl⟩ := hK
                                  exact jb_reti rfl rfl
                                · rw [if_neg c] at h
                                  refine jb_swc (fun c => ?_) (fun c => ?_)
                                  · rw [if_pos c] at h
                                    refine jb_seg 1 (pc' := 117) (ls' := [some (.int x0)]) (st' := [(.int (-1))]) (σ' := (zE L, M, N)) (G := []) rfl trivial ?_
                                    subst h
                                    obtain ⟨rfl, rfl⟩ := hK
                                    exact jb_reti rfl rfl
                                  · rw [if_neg c] at h
                                    refine jb_swc (fun c => ?_) (fun c => ?_)
                                    · rw [if_pos c] at h
                                      refine jb_seg 1 (pc' := 117) (ls' := [some (.int x0)]) (st' := [(.int (-1))]) (σ' := (zE L, M, N)) (G := []) rfl trivial ?_
                                      subst h
                                      obtain ⟨rfl, rfl⟩ := hK
                                      exact jb_reti rfl rfl
                                    · rw [if_neg c] at h
                                      refine jb_swc (fun c => ?_) (fun c => ?_)
                                      · rw [if_pos c] at h
                                        refine jb_seg 1 (pc' := 95) (ls' := [some (.int x0)]) (st' := [(.int 1)]) (σ' := (zE L, M, N)) (G := []) rfl trivial ?_
                                        subst h
                                        obtain ⟨rfl, rfl⟩ := hK
                                        exact jb_reti rfl rfl
                                      · rw [if_neg c] at h
                                        refine jb_swn ?_
                                        refine jb_seg 1 (pc' := 117) (ls' := [some (.int x0)]) (st' := [(.int (-1))]) (σ' := (zE L, M, N)) (G := []) rfl trivial ?_
                                        subst h
                                        obtain ⟨rfl, rfl⟩ := hK
                                        exact jb_reti rfl rfl
theorem ze_192 {Γ : jb_G} {L : Nat} {d : Nat} (x0 : Int32) (M : jb_Mi) (N : jb_Ml) {r : Int32} (h : zf_192 x0 = r) : jb_V Γ d zq_192 0 (jb_en 1 [(.int x0)]) [] (zE L, M, N) (some (.int r)) (zE L, M, N) := zg_192 x0 M N h ⟨rfl, rfl⟩
-- X13_sumSign
noncomputable def zf_193 (x0 : Int32) : Int32 :=
  if x0 = 43 then 2 else if x0 = 45 then 3 else if x0 = 42 then 4 else if x0 = 47 then 5 else if x0 = 37 then 6 else (-1)
set_option maxRecDepth 4000 in
theorem zg_193 {Γ : jb_G} {L : Nat} {d : Nat} (x0 : Int32) (M : jb_Mi) (N : jb_Ml) {v : Option Value} {σ2 : jb_S} {r : Int32} (h : zf_193 x0 = r) (hK : (fun r : Int32 => v = some (.int r) ∧ σ2 = (zE L, M, N)) r) : jb_V Γ d zq_193 0 [some (.int x0)] [] (zE L, M, N) v σ2 := by
  unfold zf_193 at h
  refine jb_seg 3 (pc' := (if x0 = 43 then 6 else 10)) (ls' := [some (.int x0)]) (st' := []) (σ' := (zE L, M, N)) (G := []) rfl trivial ?_
  refine jb_ite (fun c => ?_) (fun c => ?_)
  · rw [if_pos c] at h
    refine jb_seg 2 (pc' := 52) (ls' := [some (.int x0)]) (st' := [(.int 2)]) (σ' := (zE L, M, N)) (G := []) rfl trivial ?_
    subst h
    obtain ⟨rfl, rfl⟩ := hK
    exact jb_reti rfl rfl
  · rw [if_neg c] at h
    refine jb_seg 3 (pc' := (if x0 = 45 then 16 else 20)) (ls' := [some (.int x0)]) (st' := []) (σ' := (zE L, M, N)) (G := []) rfl trivial ?_
    refine jb_ite (fun c => ?_) (fun c => ?_)
    · rw [if_pos c] at h
      refine jb_seg 2 (pc' := 52) (ls' := [some (.int x0)]) (st' := [(.int 3)]) (σ' := (zE L, M, N)) (G := []) rfl trivial ?_
      subst h
      obtain ⟨rfl, rfl⟩ := hK
      exact jb_reti rfl rfl
    · rw [if_neg c] at h
      refine jb_seg 3 (pc' := (if x0 = 42 then 26 else 30)) (ls' := [some (.int x0)]) (st' := []) (σ' := (zE L, M, N)) (G := []) rfl trivial ?_
      refine jb_ite (fun c => ?_) (fun c => ?_)
      · rw [if_pos c] at h
        refine jb_seg 2 (pc' := 52) (ls' := [some (.int x0)]) (st' := [(.int 4)]) (σ' := (zE L, M, N)) (G := []) rfl trivial ?_
        subst h
        obtain ⟨rfl, rfl⟩ := hK
        exact jb_reti rfl rfl
      · rw [if_neg c] at h
        refine jb_seg 3 (pc' := (if x0 = 47 then 36 else 40)) (ls' := [some (.int x0)]) (st' := []) (σ' := (zE L, M, N)) (G := []) rfl trivial ?_
        refine jb_ite (fun c => ?_) (fun c => ?_)
        · rw [if_pos c] at h
          refine jb_seg 2 (pc' := 52) (ls' := [some (.int x0)]) (st' := [(.int 5)]) (σ' := (zE L, M, N)) (G := []) rfl trivial ?_
          subst h
          obtain ⟨rfl, rfl⟩ := hK
          exact jb_reti rfl rfl
        · rw [if_neg c] at h
          refine jb_seg 3 (pc' := (if x0 = 37 then 46 else 51)) (ls' := [some (.int x0)]) (st' := []) (σ' := (zE L, M, N)) (G := []) rfl trivial ?_
          refine jb_ite (fun c => ?_) (fun c => ?_)
          · rw [if_pos c] at h
            refine jb_seg 2 (pc' := 52) (ls' := [some (.int x0)]) (st' := [(.int 6)]) (σ' := (zE L, M, N)) (G := []) rfl trivial ?_
            subst h
            obtain ⟨rfl, rfl⟩ := hK
            exact jb_reti rfl rfl
          · rw [if_neg c] at h
            refine jb_seg 1 (pc' := 52) (ls' := [some (.int x0)]) (st' := [(.int (-1))]) (σ' := (zE L, M, N)) (G := []) rfl trivial ?_
            subst h
            obtain ⟨rfl, rfl⟩ := hK
            exact jb_reti rfl rfl
theorem ze_193 {Γ : jb_G} {L : Nat} {d : Nat} (x0 : Int32) (M : jb_Mi) (N : jb_Ml) {r : Int32} (h : zf_193 x0 = r) : jb_V Γ d zq_193 0 (jb_en 1 [(.int x0)]) [] (zE L, M, N) (some (.int r)) (zE L, M, N) := zg_193 x0 M N h ⟨rfl, rfl⟩
-- X13_closesSums
noncomputable def zf_194_J37 (x1 : Int32) (M : jb_Mi) : Option ((jb_Mi) ⊕ (jb_Mi)) :=
  (zf_191 M).bind fun q3 => (zf_189 q3 0 M).bind fun q4 => some (.inl (jb_up q4 79 11 ((q4 79 11) - 1)))
noncomputable def zf_194_J17 (x1 : Int32) (M : jb_Mi) : Option ((jb_Mi) ⊕ (jb_Mi)) :=
  if x1 = 0 then some (.inr M) else (zf_191 M).bind fun q2 => if q2 = 2 then zf_194_J37 x1 M else (zf_191 M).bind fun q5 => if q5 = 3 then zf_194_J37 x1 M else some (.inr M)
noncomputable def zf_194_H0 (x1 : Int32) (s : jb_Mi) : Option ((jb_Mi) ⊕ (jb_Mi)) :=
  (zf_191 s).bind fun q1 => if q1 < 4 then zf_194_J17 x1 s else (zf_191 s).bind fun q6 => if 6 < q6 then zf_194_J17 x1 s else zf_194_J37 x1 s
noncomputable def zf_194 (x1 : Int32) (M : jb_Mi) : Option (jb_Mi) :=
  jb_lp (zf_194_H0 x1) M
set_option maxRecDepth 4000 in
theorem zg_194_J37 {Γ : jb_G} {L : Nat} {d : Nat} (hd : 1 ≤ d) (x1 : Int32) (M : jb_Mi) (N : jb_Ml) {v : Option Value} {σ2 : jb_S} {r : ((jb_Mi) ⊕ (jb_Mi))} (h : zf_194_J37 x1 M = some r) (hK : (jb_K (fun s : jb_Mi => jb_V Γ d zq_194 0 [some (.ref 79), some (.int x1)] [] (zE L, s, N) v σ2) (fun r : jb_Mi => v = none ∧ σ2 = (zE L, r, N))) r) : jb_V Γ d zq_194 37 [some (.ref 79), some (.int x1)] [] (zE L, M, N) v σ2 := by
  obtain ⟨d, rfl⟩ : ∃ e, d = e + 1 := ⟨d - 1, by omega⟩
  unfold zf_194_J37 at h
  refine jb_seg 2 (pc' := 39) (ls' := [some (.ref 79), some (.int x1)]) (st' := [(.ref 79), (.ref 79)]) (σ' := (zE L, M, N)) (G := []) rfl trivial ?_
  obtain ⟨q3, h3, h⟩ := jb_bd_of h
  refine jb_callV (q' := zq_191) (As := []) (rest := [(.ref 79)]) (σ1 := (zE L, M, N)) (v := some (.int q3)) rfl rfl zp_191 rfl (by decide) (jb_cat rfl) (Nat.le_of_ble_eq_true rfl) (Nat.le_of_ble_eq_true rfl) (Or.inl rfl) rfl (ze_191 M N h3) ?_
  refine jb_seg 1 (pc' := 43) (ls' := [some (.ref 79), some (.int x1)]) (st' := [(.int 0), (.int q3), (.ref 79)]) (σ' := (zE L, M, N)) (G := []) rfl trivial ?_
  obtain ⟨q4, h4, h⟩ := jb_bd_of h
  refine jb_callV (q' := zq_189) (As := [(.int q3), (.int 0)]) (rest := []) (σ1 := (zE L, q4, N)) (v := none) rfl rfl zp_189 rfl (by decide) (jb_cat rfl) (Nat.le_of_ble_eq_true rfl) (Nat.le_of_ble_eq_true rfl) (Or.inl rfl) rfl (ze_189 q3 0 M N h4) ?_
  refine jb_seg 7 (pc' := 0) (ls' := [some (.ref 79), some (.int x1)]) (st' := []) (σ' := (zE L, (jb_up q4 79 11 ((q4 79 11) - 1)), N)) (G := []) rfl trivial ?_
  cases h
  exact jb_mask [true, true] rfl hK
set_option maxRecDepth 4000 in
theorem zg_194_J17 {Γ : jb_G} {L : Nat} {d : Nat} (hd : 1 ≤ d) (x1 : Int32) (M : jb_Mi) (N : jb_Ml) {v : Option Value} {σ2 : jb_S} {r : ((jb_Mi) ⊕ (jb_Mi))} (h : zf_194_J17 x1 M = some r) (hK : (jb_K (fun s : jb_Mi => jb_V Γ d zq_194 0 [some (.ref 79), some (.int x1)] [] (zE L, s, N) v σ2) (fun r : jb_Mi => v = none ∧ σ2 = (zE L, r, N))) r) : jb_V Γ d zq_194 17 [some (.ref 79), some (.int x1)] [] (zE L, M, N) v σ2 := by
  obtain ⟨d, rfl⟩ : ∃ e, d = e + 1 := ⟨d - 1, by omega⟩
  unfold zf_194_J17 at h
  refine jb_seg 2 (pc' := (if x1 = 0 then 59 else 21)) (ls' := [some (.ref 79), some (.int x1)]) (st' := []) (σ' := (zE L, M, N)) (G := []) rfl trivial ?_
  refine jb_ite (fun c => ?_) (fun c => ?_)
  · rw [if_pos c] at h
    cases h
    obtain ⟨rfl, rfl⟩ := hK
    exact jb_retv rfl rfl
  · rw [if_neg c] at h
    refine jb_seg 1 (pc' := 22) (ls' := [some (.ref 79), some (.int x1)]) (st' := [(.ref 79)]) (σ' := (zE L, M, N)) (G := []) rfl trivial ?_
    obtain ⟨q2, h2, h⟩ := jb_bd_of h
    refine jb_callV (q' := zq_191) (As := []) (rest := []) (σ1 := (zE L, M, N)) (v := some (.int q2)) rfl rfl zp_191 rfl (by decide) (jb_cat rfl) (Nat.le_of_ble_eq_true rfl) (Nat.le_of_ble_eq_true rfl) (Or.inl rfl) rfl (ze_191 M N h2) ?_
    refine jb_seg 2 (pc' := (if q2 = 2 then 37 else 29)) (ls' := [some (.ref 79), some (.int x1)]) (st' := []) (σ' := (zE L, M, N)) (G := []) rfl trivial ?_
    refine jb_ite (fun c => ?_) (fun c => ?_)
    · rw [if_pos c] at h
      exact jb_mask [true, true] rfl (zg_194_J37 hd x1 M N h hK)
    · rw [if_neg c] at h
      refine jb_seg 1 (pc' := 30) (ls' := [some (.ref 79), some (.int x1)]) (st' := [(.ref 79)]) (σ' := (zE L, M, N)) (G := []) rfl trivial ?_
      obtain ⟨q5, h5, h⟩ := jb_bd_of h
      refine jb_callV (q' := zq_191) (As := []) (rest := []) (σ1 := (zE L, M, N)) (v := some (.int q5)) rfl rfl zp_191 rfl (by decide) (jb_cat rfl) (Nat.le_of_ble_eq_true rfl) (Nat.le_of_ble_eq_true rfl) (Or.inl rfl) rfl (ze_191 M N h5) ?_
      refine jb_seg 2 (pc' := (if q5 = 3 then 37 else 59)) (ls' := [some (.ref 79), some (.int x1)]) (st' := []) (σ' := (zE L, M, N)) (G := []) rfl trivial ?_
      refine jb_ite (fun c => ?_) (fun c => ?_)
      · rw [if_pos c] at h
        exact jb_mask [true, true] rfl (zg_194_J37 hd x1 M N h hK)
      · rw [if_neg c] at h
        cases h
        obtain ⟨rfl, rfl⟩ := hK
        exact jb_retv rfl rfl
set_option maxRecDepth 4000 in
theorem zg_194_H0 {Γ : jb_G} {L : Nat} {d : Nat} (hd : 1 ≤ d) (x1 : Int32) (N : jb_Ml) (s : jb_Mi) {v : Option Value} {σ2 : jb_S} {r : ((jb_Mi) ⊕ (jb_Mi))} (h : zf_194_H0 x1 s = some r) (hK : (jb_K (fun s : jb_Mi => jb_V Γ d zq_194 0 [some (.ref 79), some (.int x1)] [] (zE L, s, N) v σ2) (fun r : jb_Mi => v = none ∧ σ2 = (zE L, r, N))) r) : jb_V Γ d zq_194 0 [some (.ref 79), some (.int x1)] [] (zE L, s, N) v σ2 := by
  obtain ⟨d, rfl⟩ : ∃ e, d = e + 1 := ⟨d - 1, by omega⟩
  unfold zf_194_H0 at h
  refine jb_seg 1 (pc' := 1) (ls' := [some (.ref 79), some (.int x1)]) (st' := [(.ref 79)]) (σ' := (zE L, s, N)) (G := []) rfl trivial ?_
  obtain ⟨q1, h1, h⟩ := jb_bd_of h
  refine jb_callV (q' := zq_191) (As := []) (rest := []) (σ1 := (zE L, s, N)) (v := some (.int q1)) rfl rfl zp_191 rfl (by decide) (jb_cat rfl) (Nat.le_of_ble_eq_true rfl) (Nat.le_of_ble_eq_true rfl) (Or.inl rfl) rfl (ze_191 s N h1) ?_
  refine jb_seg 2 (pc' := (if q1 < 4 then 17 else 8)) (ls' := [some (.ref 79), some (.int x1)]) (st' := []) (σ' := (zE L, s, N)) (G := []) rfl trivial ?_
  refine jb_ite (fun c => ?_) (fun c => ?_)
  · rw [if_pos c] at h
    exact jb_mask [true, true] rfl (zg_194_J17 hd x1 s N h hK)
  · rw [if_neg c] at h
    refine jb_seg 1 (pc' := 9) (ls' := [some (.ref 79), some (.int x1)]) (st' := [(.ref 79)]) (σ' := (zE L, s, N)) (G := []) rfl trivial ?_
    obtain ⟨q6, h6, h⟩ := jb_bd_of h
    refine jb_callV (q' := zq_191) (As := []) (rest := []) (σ1 := (zE L, s, N)) (v := some (.int q6)) rfl rfl zp_191 rfl (by decide) (jb_cat rfl) (Nat.le_of_ble_eq_true rfl) (Nat.le_of_ble_eq_true rfl) (Or.inl rfl) rfl (ze_191 s N h6) ?_
    refine jb_seg 2 (pc' := (if 6 < q6 then 17 else 37)) (ls' := [some (.ref 79), some (.int x1)]) (st' := []) (σ' := (zE L, s, N)) (G := []) rfl trivial ?_
    refine jb_ite (fun c => ?_) (fun c => ?_)
    · rw [if_pos c] at h
      exact jb_mask [true, true] rfl (zg_194_J17 hd x1 s N h hK)
    · rw [if_neg c] at h
      exact jb_mask [true, true] rfl (zg_194_J37 hd x1 s N h hK)
theorem zg_194_H0L {Γ : jb_G} {L : Nat} {d : Nat} (hd : 1 ≤ d) (x1 : Int32) (N : jb_Ml) {v : Option Value} {σ2 : jb_S} {s : jb_Mi} {r : (jb_Mi)} (h : jb_lp (zf_194_H0 x1) s = some r) (hK : (fun r : jb_Mi => v = none ∧ σ2 = (zE L, r, N)) r) : jb_V Γ d zq_194 0 [some (.ref 79), some (.int x1)] [] (zE L, s, N) v σ2 := by
  exact jb_lp_ind (P := fun s => jb_V Γ d zq_194 0 [some (.ref 79), some (.int x1)] [] (zE L, s, N) v σ2) (K := (fun r : jb_Mi => v = none ∧ σ2 = (zE L, r, N))) (fun s r h hk => zg_194_H0 hd x1 N s h (by cases r <;> exact hk)) h hK
set_option maxRecDepth 4000 in
theorem zg_194 {Γ : jb_G} {L : Nat} {d : Nat} (hd : 1 ≤ d) (x1 : Int32) (M : jb_Mi) (N : jb_Ml) {v : Option Value} {σ2 : jb_S} {r : (jb_Mi)} (h : zf_194 x1 M = some r) (hK : (fun r : jb_Mi => v = none ∧ σ2 = (zE L, r, N)) r) : jb_V Γ d zq_194 0 [some (.ref 79), some (.int x1)] [] (zE L, M, N) v σ2 := by
  obtain ⟨d, rfl⟩ : ∃ e, d = e + 1 := ⟨d - 1, by omega⟩
  unfold zf_194 at h
  exact jb_mask [true, true] rfl (zg_194_H0L hd x1 N h hK)
theorem ze_194 {Γ : jb_G} {L : Nat} {d : Nat} (hd : 1 ≤ d) (x1 : Int32) (M : jb_Mi) (N : jb_Ml) {r : (jb_Mi)} (h : zf_194 x1 M = some r) : jb_V Γ d zq_194 0 (jb_en 2 [(.ref 79), (.int x1)]) [] (zE L, M, N) (none) (zE L, r, N) := zg_194 hd x1 M N h ⟨rfl, rfl⟩
