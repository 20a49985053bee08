-- X4_ruleFor
noncomputable def zf_67_J57 (x1 : Int32) (x2 : Int32) (M : jb_Mi) : Option ((Int32 × jb_Mi) ⊕ (Int32 × jb_Mi)) :=
  some (.inl ((x2 + 1), M))
noncomputable def zf_67_H2 (x1 : Int32) (s : Int32 × jb_Mi) : Option ((Int32 × jb_Mi) ⊕ (Int32 × jb_Mi)) :=
  if s.1 < (s.2 44 6) then if s.1 < 16 then jb_gd s.1 16 (if (s.2 47 (s.1).toNatClampNeg) = x1 then jb_gd s.1 16 ((zf_66 (s.2 49 (s.1).toNatClampNeg) s.2).bind fun q3 => if q3.1 = 0 then zf_67_J57 x1 s.1 q3.2 else if (q3.2 57 3) = 0 then some (.inr (s.1, q3.2)) else zf_67_J57 x1 s.1 q3.2) else zf_67_J57 x1 s.1 s.2) else some (.inr ((-1), s.2)) else some (.inr ((-1), s.2))
noncomputable def zf_67 (x1 : Int32) (M : jb_Mi) : Option (Int32 × jb_Mi) :=
  jb_lp (zf_67_H2 x1) (0, M)
set_option maxRecDepth 4000 in
theorem zg_67_J57 {Γ : jb_G} {L : Nat} {d : Nat} (hd : 2 ≤ d) (x1 : Int32) (x2 : Int32) (M : jb_Mi) (N : jb_Ml) {v : Option Value} {σ2 : jb_S} {r : ((Int32 × jb_Mi) ⊕ (Int32 × jb_Mi))} (h : zf_67_J57 x1 x2 M = some r) (hK : (jb_K (fun s : Int32 × jb_Mi => jb_V Γ d zq_67 2 [some (.ref 57), some (.int x1), some (.int s.1)] [] (zE L, s.2, N) v σ2) (fun r : Int32 × jb_Mi => v = some (.int r.1) ∧ σ2 = (zE L, r.2, N))) r) : jb_V Γ d zq_67 57 [some (.ref 57), some (.int x1), some (.int x2)] [] (zE L, M, N) v σ2 := by
  obtain ⟨d, rfl⟩ : ∃ e, d = e + 1 := ⟨d - 1, by omega⟩
  unfold zf_67_J57 at h
  refine jb_seg 2 (pc' := 2) (ls' := [some (.ref 57), some (.int x1), some (.int (x2 + 1))]) (st' := []) (σ' := (zE L, M, N)) (G := []) rfl trivial ?_
  cases h
  exact jb_mask [true, true, true] rfl hK
set_option maxRecDepth 4000 in
theorem zg_67_H2 {Γ : jb_G} {L : Nat} {d : Nat} (hd : 2 ≤ d) (x1 : Int32) (N : jb_Ml) (s : Int32 × jb_Mi) {v : Option Value} {σ2 : jb_S} {r : ((Int32 × jb_Mi) ⊕ (Int32 × jb_Mi))} (h : zf_67_H2 x1 s = some r) (hK : (jb_K (fun s : Int32 × jb_Mi => jb_V Γ d zq_67 2 [some (.ref 57), some (.int x1), some (.int s.1)] [] (zE L, s.2, N) v σ2) (fun r : Int32 × jb_Mi => v = some (.int r.1) ∧ σ2 = (zE L, r.2, N))) r) : jb_V Γ d zq_67 2 [some (.ref 57), some (.int x1), some (.int s.1)] [] (zE L, s.2, N) v σ2 := by
  obtain ⟨d, rfl⟩ : ∃ e, d = e + 1 := ⟨d - 1, by omega⟩
  unfold zf_67_H2 at h
  refine jb_seg 5 (pc' := (if s.1 < (s.2 44 6) then 13 else 63)) (ls' := [some (.ref 57), some (.int x1), some (.int s.1)]) (st' := []) (σ' := (zE L, s.2, N)) (G := []) rfl trivial ?_
  refine jb_ite (fun c => ?_) (fun c => ?_)
  · rw [if_pos c] at h
    refine jb_seg 3 (pc' := (if s.1 < 16 then 19 else 63)) (ls' := [some (.ref 57), some (.int x1), some (.int s.1)]) (st' := []) (σ' := (zE L, s.2, N)) (G := []) rfl trivial ?_
    refine jb_ite (fun c => ?_) (fun c => ?_)
    · rw [if_pos c] at h
      obtain ⟨g1, h⟩ := jb_gd_of h
      refine jb_seg 7 (pc' := (if (s.2 47 (s.1).toNatClampNeg) = x1 then 32 else 57)) (ls' := [some (.ref 57), some (.int x1), some (.int s.1)]) (st' := []) (σ' := (zE L, s.2, N)) (G := [vp_in s.1 16]) rfl g1 ?_
      refine jb_ite (fun c => ?_) (fun c => ?_)
      · rw [if_pos c] at h
        obtain ⟨g2, h⟩ := jb_gd_of h
        refine jb_seg 6 (pc' := 42) (ls' := [some (.ref 57), some (.int x1), some (.int s.1)]) (st' := [(.int (s.2 49 (s.1).toNatClampNeg)), (.ref 57)]) (σ' := (zE L, s.2, N)) (G := [vp_in s.1 16]) rfl g2 ?_
        obtain ⟨q3, h3, h⟩ := jb_bd_of h
        refine jb_callV (q' := zq_66) (As := [(.int (s.2 49 (s.1).toNatClampNeg))]) (rest := []) (σ1 := (zE L, q3.2, N)) (v := some (.int q3.1)) rfl rfl zp_66 rfl (by decide) (jb_cat rfl) (Nat.le_of_ble_eq_true rfl) (Nat.le_of_ble_eq_true rfl) (Or.inl rfl) rfl (ze_66 (by omega) (s.2 49 (s.1).toNatClampNeg) s.2 N h3) ?_
        refine jb_seg 1 (pc' := (if q3.1 = 0 then 57 else 48)) (ls' := [some (.ref 57), some (.int x1), some (.int s.1)]) (st' := []) (σ' := (zE L, q3.2, N)) (G := []) rfl trivial ?_
        refine jb_ite (fun c => ?_) (fun c => ?_)
        · rw [if_pos c] at h
          exact jb_mask [true, true, true] rfl (zg_67_J57 hd x1 s.1 q3.2 N h hK)
        · rw [if_neg c] at h
          refine jb_seg 3 (pc' := (if (q3.2 57 3) = 0 then 55 else 57)) (ls' := [some (.ref 57), some (.int x1), some (.int s.1)]) (st' := []) (σ' := (zE L, q3.2, N)) (G := []) rfl trivial ?_
          refine jb_ite (fun c => ?_) (fun c => ?_)
          · rw [if_pos c] at h
            refine jb_seg 1 (pc' := 56) (ls' := [some (.ref 57), some (.int x1), some (.int s.1)]) (st' := [(.int s.1)]) (σ' := (zE L, q3.2, N)) (G := []) rfl trivial ?_
            cases h
            obtain ⟨rfl, rfl⟩ := hK
            exact jb_reti rfl rfl
          · rw [if_neg c] at h
            exact jb_mask [true, true, true] rfl (zg_67_J57 hd x1 s.1 q3.2 N h hK)
      · rw [if_neg c] at h
        exact jb_mask [true, true, true] rfl (zg_67_J57 hd x1 s.1 s.2 N h hK)
    · rw [if_neg c] at h
      refine jb_seg 1 (pc' := 64) (ls' := [some (.ref 57), some (.int x1), some (.int s.1)]) (st' := [(.int (-1))]) (σ' := (zE L, s.2, N)) (G := []) rfl trivial ?_
      cases h
      obtain ⟨rfl, rfl⟩ := hK
      exact jb_reti rfl rfl
  · rw [if_neg c] at h
    refine jb_seg 1 (pc' := 64) (ls' := [some (.ref 57), some (.int x1), some (.int s.1)]) (st' := [(.int (-1))]) (σ' := (zE L, s.2, N)) (G := []) rfl trivial ?_
    cases h
    obtain ⟨rfl, rfl⟩ := hK
    exact jb_reti rfl rfl
theorem zg_67_H2L {Γ : jb_G} {L : Nat} {d : Nat} (hd : 2 ≤ d) (x1 : Int32) (N : jb_Ml) {v : Option Value} {σ2 : jb_S} {s : Int32 × jb_Mi} {r : (Int32 × jb_Mi)} (h : jb_lp (zf_67_H2 x1) s = some r) (hK : (fun r : Int32 × jb_Mi => v = some (.int r.1) ∧ σ2 = (zE L, r.2, N)) r) : jb_V Γ d zq_67 2 [some (.ref 57), some (.int x1), some (.int s.1)] [] (zE L, s.2, N) v σ2 := by
  exact jb_lp_ind (P := fun s => jb_V Γ d zq_67 2 [some (.ref 57), some (.int x1), some (.int s.1)] [] (zE L, s.2, N) v σ2) (K := (fun r : Int32 × jb_Mi => v = some (.int r.1) ∧ σ2 = (zE L, r.2, N))) (fun s r h hk => zg_67_H2 hd x1 N s h (by cases r <;> exact hk)) h hK
set_option maxRecDepth 4000 in
theorem zg_67 {Γ : jb_G} {L : Nat} {d : Nat} (hd : 2 ≤ d) (x1 : Int32) (M : jb_Mi) (N : jb_Ml) {v : Option Value} {σ2 : jb_S} {r : (Int32 × jb_Mi)} (h : zf_67 x1 M = some r) (hK : (fun r : Int32 × jb_Mi => v = some (.int r.1) ∧ σ2 = (zE L, r.2, N)) r) : jb_V Γ d zq_67 0 [some (.ref 57), some (.int x1), none] [] (zE L, M, N) v σ2 := by
  obtain ⟨d, rfl⟩ : ∃ e, d = e + 1 := ⟨d - 1, by omega⟩
  unfold zf_67 at h
  refine jb_seg 2 (pc' := 2) (ls' := [some (.ref 57), some (.int x1), some (.int 0)]) (st' := []) (σ' := (zE L, M, N)) (G := []) rfl trivial ?_
  exact jb_mask [true, true, true] rfl (zg_67_H2L hd x1 N h hK)
theorem ze_67 {Γ : jb_G} {L : Nat} {d : Nat} (hd : 2 ≤ d) (x1 : Int32) (M : jb_Mi) (N : jb_Ml) {r : (Int32 × jb_Mi)} (h : zf_67 x1 M = some r) : jb_V Γ d zq_67 0 (jb_en 3 [(.ref 57), (.int x1)]) [] (zE L, M, N) (some (.int r.1)) (zE L, r.2, N) := zg_67 hd x1 M N h ⟨rfl, rfl⟩
-- X4_amount
noncomputable def zf_68 (x1 : Int32) (x2 : Int32) (M : jb_Mi) : Option (Int32 × jb_Mi) :=
  (zf_67 x1 M).bind fun q1 => if q1.1 < 0 then some (0, q1.2) else jb_gd q1.1 16 ((zf_66 (q1.2 48 (q1.1).toNatClampNeg) q1.2).bind fun q3 => if (q3.2 57 3) = 0 then some ((zf_271 0 (zf_272 x2 q3.1)), q3.2) else some (0, q3.2))
set_option maxRecDepth 4000 in
theorem zg_68 {Γ : jb_G} {L : Nat} {d : Nat} (hd : 3 ≤ d) (x1 : Int32) (x2 : Int32) (M : jb_Mi) (N : jb_Ml) {v : Option Value} {σ2 : jb_S} {r : (Int32 × jb_Mi)} (h : zf_68 x1 x2 M = some r) (hK : (fun r : Int32 × jb_Mi => v = some (.int r.1) ∧ σ2 = (zE L, r.2, N)) r) : jb_V Γ d zq_68 0 [some (.ref 57), some (.int x1), some (.int x2), none, none] [] (zE L, M, N) v σ2 := by
  obtain ⟨d, rfl⟩ : ∃ e, d = e + 1 := ⟨d - 1, by omega⟩
  unfold zf_68 at h
  refine jb_seg 2 (pc' := 2) (ls' := [some (.ref 57), some (.int x1), some (.int x2), none, none]) (st' := [(.int x1), (.ref 57)]) (σ' := (zE L, M, N)) (G := []) rfl trivial ?_
  obtain ⟨q1, h1, h⟩ := jb_bd_of h
  refine jb_callV (q' := zq_67) (As := [(.int x1)]) (rest := []) (σ1 := (zE L, q1.2, N)) (v := some (.int q1.1)) rfl rfl zp_67 rfl (by decide) (jb_cat rfl) (Nat.le_of_ble_eq_true rfl) (Nat.le_of_ble_eq_true rfl) (Or.inl rfl) rfl (ze_67 (by omega) x1 M N h1) ?_
  refine jb_seg 3 (pc' := (if q1.1 < 0 then 10 else 12)) (ls' := [some (.ref 57), some (.int x1), some (.int x2), some (.int q1.1), none]) (st' := []) (σ' := (zE L, q1.2, N)) (G := []) rfl trivial ?_
  refine jb_ite (fun c => ?_) (fun c => ?_)
  · rw [if_pos c] at h
    refine jb_seg 1 (pc' := 11) (ls' := [some (.ref 57), some (.int x1), some (.int x2), some (.int q1.1), none]) (st' := [(.int 0)]) (σ' := (zE L, q1.2, N)) (G := []) rfl trivial ?_
    cases h
    obtain ⟨rfl, rfl⟩ := hK
    exact jb_reti rfl rfl
  · rw [if_neg c] at h
    obtain ⟨g2, h⟩ := jb_gd_of h
    refine jb_seg 6 (pc' := 22) (ls' := [some (.ref 57), some (.int x1), some (.int x2), some (.int q1.1), none]) (st' := [(.int (q1.2 48 (q1.1).toNatClampNeg)), (.ref 57)]) (σ' := (zE L, q1.2, N)) (G := [vp_in q1.1 16]) rfl g2 ?_
    obtain ⟨q3, h3, h⟩ := jb_bd_of h
    refine jb_callV (q' := zq_66) (As := [(.int (q1.2 48 (q1.1).toNatClampNeg))]) (rest := []) (σ1 := (zE L, q3.2, N)) (v := some (.int q3.1)) rfl rfl zp_66 rfl (by decide) (jb_cat rfl) (Nat.le_of_ble_eq_true rfl) (Nat.le_of_ble_eq_true rfl) (Or.inl rfl) rfl (ze_66 (by omega) (q1.2 48 (q1.1).toNatClampNeg) q1.2 N h3) ?_
    refine jb_seg 4 (pc' := (if (q3.2 57 3) = 0 then 38 else 34)) (ls' := [some (.ref 57), some (.int x1), some (.int x2), some (.int q1.1), some (.int q3.1)]) (st' := []) (σ' := (zE L, q3.2, N)) (G := []) rfl trivial ?_
    refine jb_ite (fun c => ?_) (fun c => ?_)
    · rw [if_pos c] at h
      refine jb_seg 3 (pc' := 42) (ls' := [some (.ref 57), some (.int x1), some (.int x2), some (.int q1.1), some (.int q3.1)]) (st' := [(.int q3.1), (.int x2), (.int 0)]) (σ' := (zE L, q3.2, N)) (G := []) rfl trivial ?_
      refine jb_callS (q' := zq_272) (As := [(.int x2), (.int q3.1)]) (rest := [(.int 0)]) (σ1 := (zE L, q3.2, N)) (v := some (.int (zf_272 x2 q3.1))) rfl (by decide) rfl zp_272 (jb_cat rfl) (Nat.le_of_ble_eq_true rfl) (Nat.le_of_ble_eq_true rfl) (Or.inl rfl) rfl (ze_272 x2 q3.1 q3.2 N rfl) ?_
      refine jb_callS (q' := zq_271) (As := [(.int 0), (.int (zf_272 x2 q3.1))]) (rest := []) (σ1 := (zE L, q3.2, N)) (v := some (.int (zf_271 0 (zf_272 x2 q3.1)))) rfl (by decide) rfl zp_271 (jb_cat rfl) (Nat.le_of_ble_eq_true rfl) (Nat.le_of_ble_eq_true rfl) (Or.inl rfl) rfl (ze_271 0 (zf_272 x2 q3.1) q3.2 N rfl) ?_
      cases h
      obtain ⟨rfl, rfl⟩ := hK
      exact jb_reti rfl rfl
    · rw [if_neg c] at h
      refine jb_seg 2 (pc' := 48) (ls' := [some (.ref 57), some (.int x1), some (.int x2), some (.int q1.1), some (.int q3.1)]) (st' := [(.int 0)]) (σ' := (zE L, q3.2, N)) (G := []) rfl trivial ?_
      cases h
      obtain ⟨rfl, rfl⟩ := hK
      exact jb_reti rfl rfl
theorem ze_68 {Γ : jb_G} {L : Nat} {d : Nat} (hd : 3 ≤ d) (x1 : Int32) (x2 : Int32) (M : jb_Mi) (N : jb_Ml) {r : (Int32 × jb_Mi)} (h : zf_68 x1 x2 M = some r) : jb_V Γ d zq_68 0 (jb_en 5 [(.ref 57), (.int x1), (.int x2)]) [] (zE L, M, N) (some (.int r.1)) (zE L, r.2, N) := zg_68 hd x1 x2 M N h ⟨rfl, rfl⟩
-- X5_emit
noncomputable def zf_70 (x1 : Int32) (x2 : Int32) (M : jb_Mi) : Option (Int32 × jb_Mi) :=
  if (M 51 5) < 240 then jb_gd (M 51 5) 240 (jb_gd ((jb_up M 52 ((M 51 5)).toNatClampNeg x1) 51 5) 240 (some ((((jb_up (jb_up (jb_up M 52 ((M 51 5)).toNatClampNeg x1) 53 (((jb_up M 52 ((M 51 5)).toNatClampNeg x1) 51 5)).toNatClampNeg x2) 51 5 (((jb_up (jb_up M 52 ((M 51 5)).toNatClampNeg x1) 53 (((jb_up M 52 ((M 51 5)).toNatClampNeg x1) 51 5)).toNatClampNeg x2) 51 5) + 1)) 51 5) - 1), (jb_up (jb_up (jb_up M 52 ((M 51 5)).toNatClampNeg x1) 53 (((jb_up M 52 ((M 51 5)).toNatClampNeg x1) 51 5)).toNatClampNeg x2) 51 5 (((jb_up (jb_up M 52 ((M 51 5)).toNatClampNeg x1) 53 (((jb_up M 52 ((M 51 5)).toNatClampNeg x1) 51 5)).toNatClampNeg x2) 51 5) + 1))))) else some ((-1), M)
set_option maxRecDepth 4000 in
theorem zg_70 {Γ : jb_G} {L : Nat} {d : Nat} (x1 : Int32) (x2 : Int32) (M : jb_Mi) (N : jb_Ml) {v : Option Value} {σ2 : jb_S} {r : (Int32 × jb_Mi)} (h : zf_70 x1 x2 M = some r) (hK : (fun r : Int32 × jb_Mi => v = some (.int r.1) ∧ σ2 = (zE L, r.2, N)) r) : jb_V Γ d zq_70 0 [some (.ref 51), some (.int x1), some (.int x2)] [] (zE L, M, N) v σ2 := by
  unfold zf_70 at h
  refine jb_seg 4 (pc' := (if (M 51 5) < 240 then 12 else 10)) (ls' := [some (.ref 51), some (.int x1), some (.int x2)]) (st' := []) (σ' := (zE L, M, N)) (G := []) rfl trivial ?_
  refine jb_ite (fun c => ?_) (fun c => ?_)
  · rw [if_pos c] at h
    obtain ⟨g1, h⟩ := jb_gd_of h
    obtain ⟨g2, h⟩ := jb_gd_of h
    refine jb_seg 22 (pc' := 48) (ls' := [some (.ref 51), some (.int x1), some (.int x2)]) (st' := [(.int (((jb_up (jb_up (jb_up M 52 ((M 51 5)).toNatClampNeg x1) 53 (((jb_up M 52 ((M 51 5)).toNatClampNeg x1) 51 5)).toNatClampNeg x2) 51 5 (((jb_up (jb_up M 52 ((M 51 5)).toNatClampNeg x1) 53 (((jb_up M 52 ((M 51 5)).toNatClampNeg x1) 51 5)).toNatClampNeg x2) 51 5) + 1)) 51 5) - 1))]) (σ' := (zE L, (jb_up (jb_up (jb_up M 52 ((M 51 5)).toNatClampNeg x1) 53 (((jb_up M 52 ((M 51 5)).toNatClampNeg x1) 51 5)).toNatClampNeg x2) 51 5 (((jb_up (jb_up M 52 ((M 51 5)).toNatClampNeg x1) 53 (((jb_up M 52 ((M 51 5)).toNatClampNeg x1) 51 5)).toNatClampNeg x2) 51 5) + 1)), N)) (G := [vp_in (M 51 5) 240, vp_in ((jb_up M 52 ((M 51 5)).toNatClampNeg x1) 51 5) 240]) rfl ⟨g1, g2⟩ ?_
    cases h
    obtain ⟨rfl, rfl⟩ := hK
    exact jb_reti rfl rfl
  · rw [if_neg c] at h
    refine jb_seg 1 (pc' := 11) (ls' := [some (.ref 51), some (.int x1), some (.int x2)]) (st' := [(.int (-1))]) (σ' := (zE L, M, N)) (G := []) rfl trivial ?_
    cases h
    obtain ⟨rfl, rfl⟩ := hK
    exact jb_reti rfl rfl
theorem ze_70 {Γ : jb_G} {L : Nat} {d : Nat} (x1 : Int32) (x2 : Int32) (M : jb_Mi) (N : jb_Ml) {r : (Int32 × jb_Mi)} (h : zf_70 x1 x2 M = some r) : jb_V Γ d zq_70 0 (jb_en 3 [(.ref 51), (.int x1), (.int x2)]) [] (zE L, M, N) (some (.int r.1)) (zE L, r.2, N) := zg_70 x1 x2 M N h ⟨rfl, rfl⟩
-- X5_aim
noncomputable def zf_71 (x1 : Int32) (M : jb_Mi) : Option (jb_Mi) :=
  if x1 < 0 then some M else if x1 < (M 51 5) then jb_gd x1 240 (some (jb_up M 53 x1.toNatClampNeg (M 51 5))) else some M
set_option maxRecDepth 4000 in
theorem zg_71 {Γ : jb_G} {L : Nat} {d : Nat} (x1 : Int32) (M : jb_Mi) (N : jb_Ml) {v : Option Value} {σ2 : jb_S} {r : (jb_Mi)} (h : zf_71 x1 M = some r) (hK : (fun r : jb_Mi => v = none ∧ σ2 = (zE L, r, N)) r) : jb_V Γ d zq_71 0 [some (.ref 51), some (.int x1)] [] (zE L, M, N) v σ2 := by
  unfold zf_71 at h
  refine jb_seg 2 (pc' := (if x1 < 0 then 22 else 4)) (ls' := [some (.ref 51), some (.int x1)]) (st' := []) (σ' := (zE L, M, N)) (G := []) rfl trivial ?_
  refine jb_ite (fun c => ?_) (fun c => ?_)
  · rw [if_pos c] at h
    cases h
    obtain ⟨rfl, rfl⟩ := hK
    exact jb_retv rfl rfl
  · rw [if_neg c] at h
    refine jb_seg 4 (pc' := (if x1 < (M 51 5) then 12 else 22)) (ls' := [some (.ref 51), some (.int x1)]) (st' := []) (σ' := (zE L, M, N)) (G := []) rfl trivial ?_
    refine jb_ite (fun c => ?_) (fun c => ?_)
    · rw [if_pos c] at h
      obtain ⟨g1, h⟩ := jb_gd_of h
      refine jb_seg 6 (pc' := 22) (ls' := [some (.ref 51), some (.int x1)]) (st' := []) (σ' := (zE L, (jb_up M 53 x1.toNatClampNeg (M 51 5)), N)) (G := [vp_in x1 240]) rfl g1 ?_
      cases h
      obtain ⟨rfl, rfl⟩ := hK
      exact jb_retv rfl rfl
    · rw [if_neg c] at h
      cases h
      obtain ⟨rfl, rfl⟩ := hK
      exact jb_retv rfl rfl
theorem ze_71 {Γ : jb_G} {L : Nat} {d : Nat} (x1 : Int32) (M : jb_Mi) (N : jb_Ml) {r : (jb_Mi)} (h : zf_71 x1 M = some r) : jb_V Γ d zq_71 0 (jb_en 2 [(.ref 51), (.int x1)]) [] (zE L, M, N) (none) (zE L, r, N) := zg_71 x1 M N h ⟨rfl, rfl⟩
-- X5_copy
noncomputable def zf_72 (M : jb_Mi) : Option (jb_Mi) :=
  jb_gc 0 0 (M 51 5) 240 240 (jb_gc 0 0 ((jb_cp M 52 45 0 0 ((M 51 5)).toNatClampNeg) 51 5) 240 240 (jb_gc 0 0 ((jb_cp (jb_cp M 52 45 0 0 ((M 51 5)).toNatClampNeg) 53 46 0 0 (((jb_cp M 52 45 0 0 ((M 51 5)).toNatClampNeg) 51 5)).toNatClampNeg) 51 6) 16 16 (jb_gc 0 0 ((jb_cp (jb_cp (jb_cp M 52 45 0 0 ((M 51 5)).toNatClampNeg) 53 46 0 0 (((jb_cp M 52 45 0 0 ((M 51 5)).toNatClampNeg) 51 5)).toNatClampNeg) 54 47 0 0 (((jb_cp (jb_cp M 52 45 0 0 ((M 51 5)).toNatClampNeg) 53 46 0 0 (((jb_cp M 52 45 0 0 ((M 51 5)).toNatClampNeg) 51 5)).toNatClampNeg) 51 6)).toNatClampNeg) 51 6) 16 16 (jb_gc 0 0 ((jb_cp (jb_cp (jb_cp (jb_cp M 52 45 0 0 ((M 51 5)).toNatClampNeg) 53 46 0 0 (((jb_cp M 52 45 0 0 ((M 51 5)).toNatClampNeg) 51 5)).toNatClampNeg) 54 47 0 0 (((jb_cp (jb_cp M 52 45 0 0 ((M 51 5)).toNatClampNeg) 53 46 0 0 (((jb_cp M 52 45 0 0 ((M 51 5)).toNatClampNeg) 51 5)).toNatClampNeg) 51 6)).toNatClampNeg) 55 48 0 0 (((jb_cp (jb_cp (jb_cp M 52 45 0 0 ((M 51 5)).toNatClampNeg) 53 46 0 0 (((jb_cp M 52 45 0 0 ((M 51 5)).toNatClampNeg) 51 5)).toNatClampNeg) 54 47 0 0 (((jb_cp (jb_cp M 52 45 0 0 ((M 51 5)).toNatClampNeg) 53 46 0 0 (((jb_cp M 52 45 0 0 ((M 51 5)).toNatClampNeg) 51 5)).toNatClampNeg) 51 6)).toNatClampNeg) 51 6)).toNatClampNeg) 51 6) 16 16 (some (jb_up (jb_up (jb_cp (jb_cp (jb_cp (jb_cp (jb_cp M 52 45 0 0 ((M 51 5)).toNatClampNeg) 53 46 0 0 (((jb_cp M 52 45 0 0 ((M 51 5)).toNatClampNeg) 51 5)).toNatClampNeg) 54 47 0 0 (((jb_cp (jb_cp M 52 45 0 0 ((M 51 5)).toNatClampNeg) 53 46 0 0 (((jb_cp M 52 45 0 0 ((M 51 5)).toNatClampNeg) 51 5)).toNatClampNeg) 51 6)).toNatClampNeg) 55 48 0 0 (((jb_cp (jb_cp (jb_cp M 52 45 0 0 ((M 51 5)).toNatClampNeg) 53 46 0 0 (((jb_cp M 52 45 0 0 ((M 51 5)).toNatClampNeg) 51 5)).toNatClampNeg) 54 47 0 0 (((jb_cp (jb_cp M 52 45 0 0 ((M 51 5)).toNatClampNeg) 53 46 0 0 (((jb_cp M 52 45 0 0 ((M 51 5)).toNatClampNeg) 51 5)).toNatClampNeg) 51 6)).toNatClampNeg) 51 6)).toNatClampNeg) 56 49 0 0 (((jb_cp (jb_cp (jb_cp (jb_cp M 52 45 0 0 ((M 51 5)).toNatClampNeg) 53 46 0 0 (((jb_cp M 52 45 0 0 ((M 51 5)).toNatClampNeg) 51 5)).toNatClampNeg) 54 47 0 0 (((jb_cp (jb_cp M 52 45 0 0 ((M 51 5)).toNatClampNeg) 53 46 0 0 (((jb_cp M 52 45 0 0 ((M 51 5)).toNatClampNeg) 51 5)).toNatClampNeg) 51 6)).toNatClampNeg) 55 48 0 0 (((jb_cp (jb_cp (jb_cp M 52 45 0 0 ((M 51 5)).toNatClampNeg) 53 46 0 0 (((jb_cp M 52 45 0 0 ((M 51 5)).toNatClampNeg) 51 5)).toNatClampNeg) 54 47 0 0 (((jb_cp (jb_cp M 52 45 0 0 ((M 51 5)).toNatClampNeg) 53 46 0 0 (((jb_cp M 52 45 0 0 ((M 51 5)).toNatClampNeg) 51 5)).toNatClampNeg) 51 6)).toNatClampNeg) 51 6)).toNatClampNeg) 51 6)).toNatClampNeg) 44 5 ((jb_cp (jb_cp (jb_cp (jb_cp (jb_cp M 52 45 0 0 ((M 51 5)).toNatClampNeg) 53 46 0 0 (((jb_cp M 52 45 0 0 ((M 51 5)).toNatClampNeg) 51 5)).toNatClampNeg) 54 47 0 0 (((jb_cp (jb_cp M 52 45 0 0 ((M 51 5)).toNatClampNeg) 53 46 0 0 (((jb_cp M 52 45 0 0 ((M 51 5)).toNatClampNeg) 51 5)).toNatClampNeg) 51 6)).toNatClampNeg) 55 48 0 0 (((jb_cp (jb_cp (jb_cp M 52 45 0 0 ((M 51 5)).toNatClampNeg) 53 46 0 0 (((jb_cp M 52 45 0 0 ((M 51 5)).toNatClampNeg) 51 5)).toNatClampNeg) 54 47 0 0 (((jb_cp (jb_cp M 52 45 0 0 ((M 51 5)).toNatClampNeg) 53 46 0 0 (((jb_cp M 52 45 0 0 ((M 51 5)).toNatClampNeg) 51 5)).toNatClampNeg) 51 6)).toNatClampNeg) 51 6)).toNatClampNeg) 56 49 0 0 (((jb_cp (jb_cp (jb_cp (jb_cp M 52 45 0 0 ((M 51 5)).toNatClampNeg) 53 46 0 0 (((jb_cp M 52 45 0 0 ((M 51 5)).toNatClampNeg) 51 5)).toNatClampNeg) 54 47 0 0 (((jb_cp (jb_cp M 52 45 0 0 ((M 51 5)).toNatClampNeg) 53 46 0 0 (((jb_cp M 52 45 0 0 ((M 51 5)).toNatClampNeg) 51 5)).toNatClampNeg) 51 6)).toNatClampNeg) 55 48 0 0 (((jb_cp (jb_cp (jb_cp M 52 45 0 0 ((M 51 5)).toNatClampNeg) 53 46 0 0 (((jb_cp M 52 45 0 0 ((M 51 5)).toNatClampNeg) 51 5)).toNatClampNeg) 54 47 0 0 (((jb_cp (jb_cp M 52 45 0 0 ((M 51 5)).toNatClampNeg) 53 46 0 0 (((jb_cp M 52 45 0 0 ((M 51 5)).toNatClampNeg) 51 5)).toNatClampNeg) 51 6)).toNatClampNeg) 51 6)).toNatClampNeg) 51 6)).toNatClampNeg) 51 5)) 44 6 ((jb_up (jb_cp (jb_cp (jb_cp (jb_cp (jb_cp M 52 45 0 0 ((M 51 5)).toNatClampNeg) 53 46 0 0 (((jb_cp M 52 45 0 0 ((M 51 5)).toNatClampNeg) 51 5)).toNatClampNeg) 54 47 0 0 (((jb_cp (jb_cp M 52 45 0 0 ((M 51 5)).toNatClampNeg) 53 46 0 0 (((jb_cp M 52 45 0 0 ((M 51 5)).toNatClampNeg) 51 5)).toNatClampNeg) 51 6)).toNatClampNeg) 55 48 0 0 (((jb_cp (jb_cp (jb_cp M 52 45 0 0 ((M 51 5)).toNatClampNeg) 53 46 0 0 (((jb_cp M 52 45 0 0 ((M 51 5)).toNatClampNeg) 51 5)).toNatClampNeg) 54 47 0 0 (((jb_cp (jb_cp M 52 45 0 0 ((M 51 5)).toNatClampNeg) 53 46 0 0 (((jb_cp M 52 45 0 0 ((M 51 5)).toNatClampNeg) 51 5)).toNatClampNeg) 51 6)).toNatClampNeg) 51 6)).toNatClampNeg) 56 49 0 0 (((jb_cp (jb_cp (jb_cp (jb_cp M 52 45 0 0 ((M 51 5)).toNatClampNeg) 53 46 0 0 (((jb_cp M 52 45 0 0 ((M 51 5)).toNatClampNeg) 51 5)).toNatClampNeg) 54 47 0 0 (((jb_cp (jb_cp M 52 45 0 0 ((M 51 5)).toNatClampNeg) 53 46 0 0 (((jb_cp M 52 45 0 0 ((M 51 5)).toNatClampNeg) 51 5)).toNatClampNeg) 51 6)).toNatClampNeg) 55 48 0 0 (((jb_cp (jb_cp (jb_cp M 52 45 0 0 ((M 51 5)).toNatClampNeg) 53 46 0 0 (((jb_cp M 52 45 0 0 ((M 51 5)).toNatClampNeg) 51 5)).toNatClampNeg) 54 47 0 0 (((jb_cp (jb_cp M 52 45 0 0 ((M 51 5)).toNatClampNeg) 53 46 0 0 (((jb_cp M 52 45 0 0 ((M 51 5)).toNatClampNeg) 51 5)).toNatClampNeg) 51 6)).toNatClampNeg) 51 6)).toNatClampNeg) 51 6)).toNatClampNeg) 44 5 ((jb_cp (jb_cp (jb_cp (jb_cp (jb_cp M 52 45 0 0 ((M 51 5)).toNatClampNeg) 53 46 0 0 (((jb_cp M 52 45 0 0 ((M 51 5)).toNatClampNeg) 51 5)).toNatClampNeg) 54 47 0 0 (((jb_cp (jb_cp M 52 45 0 0 ((M 51 5)).toNatClampNeg) 53 46 0 0 (((jb_cp M 52 45 0 0 ((M 51 5)).toNatClampNeg) 51 5)).toNatClampNeg) 51 6)).toNatClampNeg) 55 48 0 0 (((jb_cp (jb_cp (jb_cp M 52 45 0 0 ((M 51 5)).toNatClampNeg) 53 46 0 0 (((jb_cp M 52 45 0 0 ((M 51 5)).toNatClampNeg) 51 5)).toNatClampNeg) 54 47 0 0 (((jb_cp (jb_cp M 52 45 0 0 ((M 51 5)).toNatClampNeg) 53 46 0 0 (((jb_cp M 52 45 0 0 ((M 51 5)).toNatClampNeg) 51 5)).toNatClampNeg) 51 6)).toNatClampNeg) 51 6)).toNatClampNeg) 56 49 0 0 (((jb_cp (jb_cp (jb_cp (jb_cp M 52 45 0 0 ((M 51 5)).toNatClampNeg) 53 46 0 0 (((jb_cp M 52 45 0 0 ((M 51 5)).toNatClampNeg) 51 5)).toNatClampNeg) 54 47 0 0 (((jb_cp (jb_cp M 52 45 0 0 ((M 51 5)).toNatClampNeg) 53 46 0 0 (((jb_cp M 52 45 0 0 ((M 51 5)).toNatClampNeg) 51 5)).toNatClampNeg) 51 6)).toNatClampNeg) 55 48 0 0 (((jb_cp (jb_cp (jb_cp M 52 45 0 0 ((M 51 5)).toNatClampNeg) 53 46 0 0 (((jb_cp M 52 45 0 0 ((M 51 5)).toNatClampNeg) 51 5)).toNatClampNeg) 54 47 0 0 (((jb_cp (jb_cp M 52 45 0 0 ((M 51 5)).toNatClampNeg) 53 46 0 0 (((jb_cp M 52 45 0 0 ((M 51 5)).toNatClampNeg) 51 5)).toNatClampNeg) 51 6)).toNatClampNeg) 51 6)).toNatClampNeg) 51 6)).toNatClampNeg) 51 5)) 51 6)))))))
set_option maxRecDepth 4000 in
theorem zg_72 {Γ : jb_G} {L : Nat} {d : Nat} (hd : 1 ≤ d) (M : jb_Mi) (N : jb_Ml) {v : Option Value} {σ2 : jb_S} {r : (jb_Mi)} (h : zf_72 M = some r) (hK : (fun r : jb_Mi => v = none ∧ σ2 = (zE L, r, N)) r) : jb_V Γ d zq_72 0 [some (.ref 44), some (.ref 51)] [] (zE L, M, N) v σ2 := by
  obtain ⟨d, rfl⟩ : ∃ e, d = e + 1 := ⟨d - 1, by omega⟩
  unfold zf_72 at h
  refine jb_seg 8 (pc' := 14) (ls' := [some (.ref 44), some (.ref 51)]) (st' := [(.int (M 51 5)), (.int 0), (.ref 45), (.int 0), (.ref 52)]) (σ' := (zE L, M, N)) (G := []) rfl trivial ?_
  obtain ⟨g1, h⟩ := jb_gc_of h
  refine jb_copyi (rest := []) rfl rfl rfl g1 (Nat.le_of_ble_eq_true rfl) ?_
  refine jb_seg 8 (pc' := 31) (ls' := [some (.ref 44), some (.ref 51)]) (st' := [(.int ((jb_cp M 52 45 0 0 ((M 51 5)).toNatClampNeg) 51 5)), (.int 0), (.ref 46), (.int 0), (.ref 53)]) (σ' := (zE L, (jb_cp M 52 45 0 0 ((M 51 5)).toNatClampNeg), N)) (G := []) rfl trivial ?_
  obtain ⟨g2, h⟩ := jb_gc_of h
  refine jb_copyi (rest := []) rfl rfl rfl g2 (Nat.le_of_ble_eq_true rfl) ?_
  refine jb_seg 8 (pc' := 48) (ls' := [some (.ref 44), some (.ref 51)]) (st' := [(.int ((jb_cp (jb_cp M 52 45 0 0 ((M 51 5)).toNatClampNeg) 53 46 0 0 (((jb_cp M 52 45 0 0 ((M 51 5)).toNatClampNeg) 51 5)).toNatClampNeg) 51 6)), (.int 0), (.ref 47), (.int 0), (.ref 54)]) (σ' := (zE L, (jb_cp (jb_cp M 52 45 0 0 ((M 51 5)).toNatClampNeg) 53 46 0 0 (((jb_cp M 52 45 0 0 ((M 51 5)).toNatClampNeg) 51 5)).toNatClampNeg), N)) (G := []) rfl trivial ?_
  obtain ⟨g3, h⟩ := jb_gc_of h
  refine jb_copyi (rest := []) rfl rfl rfl g3 (Nat.le_of_ble_eq_true rfl) ?_
  refine jb_seg 8 (pc' := 65) (ls' := [some (.ref 44), some (.ref 51)]) (st' := [(.int ((jb_cp (jb_cp (jb_cp M 52 45 0 0 ((M 51 5)).toNatClampNeg) 53 46 0 0 (((jb_cp M 52 45 0 0 ((M 51 5)).toNatClampNeg) 51 5)).toNatClampNeg) 54 47 0 0 (((jb_cp (jb_cp M 52 45 0 0 ((M 51 5)).toNatClampNeg) 53 46 0 0 (((jb_cp M 52 45 0 0 ((M 51 5)).toNatClampNeg) 51 5)).toNatClampNeg) 51 6)).toNatClampNeg) 51 6)), (.int 0), (.ref 48), (.int 0), (.ref 55)]) (σ' := (zE L, (jb_cp (jb_cp (jb_cp M 52 45 0 0 ((M 51 5)).toNatClampNeg) 53 46 0 0 (((jb_cp M 52 45 0 0 ((M 51 5)).toNatClampNeg) 51 5)).toNatClampNeg) 54 47 0 0 (((jb_cp (jb_cp M 52 45 0 0 ((M 51 5)).toNatClampNeg) 53 46 0 0 (((jb_cp M 52 45 0 0 ((M 51 5)).toNatClampNeg) 51 5)).toNatClampNeg) 51 6)).toNatClampNeg), N)) (G := []) rfl trivial ?_
  obtain ⟨g4, h⟩ := jb_gc_of h
  refine jb_copyi (rest := []) rfl rfl rfl g4 (Nat.le_of_ble_eq_true rfl) ?_
  refine jb_seg 8 (pc' := 82) (ls' := [some (.ref 44), some (.ref 51)]) (st' := [(.int ((jb_cp (jb_cp (jb_cp (jb_cp M 52 45 0 0 ((M 51 5)).toNatClampNeg) 53 46 0 0 (((jb_cp M 52 45 0 0 ((M 51 5)).toNatClampNeg) 51 5)).toNatClampNeg) 54 47 0 0 (((jb_cp (jb_cp M 52 45 0 0 ((M 51 5)).toNatClampNeg) 53 46 0 0 (((jb_cp M 52 45 0 0 ((M 51 5)).toNatClampNeg) 51 5)).toNatClampNeg) 51 6)).toNatClampNeg) 55 48 0 0 (((jb_cp (jb_cp (jb_cp M 52 45 0 0 ((M 51 5)).toNatClampNeg) 53 46 0 0 (((jb_cp M 52 45 0 0 ((M 51 5)).toNatClampNeg) 51 5)).toNatClampNeg) 54 47 0 0 (((jb_cp (jb_cp M 52 45 0 0 ((M 51 5)).toNatClampNeg) 53 46 0 0 (((jb_cp M 52 45 0 0 ((M 51 5)).toNatClampNeg) 51 5)).toNatClampNeg) 51 6)).toNatClampNeg) 51 6)).toNatClampNeg) 51 6)), (.int 0), (.ref 49), (.int 0), (.ref 56)]) (σ' := (zE L, (jb_cp (jb_cp (jb_cp (jb_cp M 52 45 0 0 ((M 51 5)).toNatClampNeg) 53 46 0 0 (((jb_cp M 52 45 0 0 ((M 51 5)).toNatClampNeg) 51 5)).toNatClampNeg) 54 47 0 0 (((jb_cp (jb_cp M 52 45 0 0 ((M 51 5)).toNatClampNeg) 53 46 0 0 (((jb_cp M 52 45 0 0 ((M 51 5)).toNatClampNeg) 51 5)).toNatClampNeg) 51 6)).toNatClampNeg) 55 48 0 0 (((jb_cp (jb_cp (jb_cp M 52 45 0 0 ((M 51 5)).toNatClampNeg) 53 46 0 0 (((jb_cp M 52 45 0 0 ((M 51 5)).toNatClampNeg) 51 5)).toNatClampNeg) 54 47 0 0 (((jb_cp (jb_cp M 52 45 0 0 ((M 51 5)).toNatClampNeg) 53 46 0 0 (((jb_cp M 52 45 0 0 ((M 51 5)).toNatClampNeg) 51 5)).toNatClampNeg) 51 6)).toNatClampNeg) 51 6)).toNatClampNeg), N)) (G := []) rfl trivial ?_
  obtain ⟨g5, h⟩ := jb_gc_of h
  refine jb_copyi (rest := []) rfl rfl rfl g5 (Nat.le_of_ble_eq_true rfl) ?_
  refine jb_seg 8 (pc' := 101) (ls' := [some (.ref 44), some (.ref 51)]) (st' := []) (σ' := (zE L, (jb_up (jb_up (jb_cp (jb_cp (jb_cp (jb_cp (jb_cp M 52 45 0 0 ((M 51 5)).toNatClampNeg) 53 46 0 0 (((jb_cp M 52 45 0 0 ((M 51 5)).toNatClampNeg) 51 5)).toNatClampNeg) 54 47 0 0 (((jb_cp (jb_cp M 52 45 0 0 ((M 51 5)).toNatClampNeg) 53 46 0 0 (((jb_cp M 52 45 0 0 ((M 51 5)).toNatClampNeg) 51 5)).toNatClampNeg) 51 6)).toNatClampNeg) 55 48 0 0 (((jb_cp (jb_cp (jb_cp M 52 45 0 0 ((M 51 5)).toNatClampNeg) 53 46 0 0 (((jb_cp M 52 45 0 0 ((M 51 5)).toNatClampNeg) 51 5)).toNatClampNeg) 54 47 0 0 (((jb_cp (jb_cp M 52 45 0 0 ((M 51 5)).toNatClampNeg) 53 46 0 0 (((jb_cp M 52 45 0 0 ((M 51 5)).toNatClampNeg) 51 5)).toNatClampNeg) 51 6)).toNatClampNeg) 51 6)).toNatClampNeg) 56 49 0 0 (((jb_cp (jb_cp (jb_cp (jb_cp M 52 45 0 0 ((M 51 5)).toNatClampNeg) 53 46 0 0 (((jb_cp M 52 45 0 0 ((M 51 5)).toNatClampNeg) 51 5)).toNatClampNeg) 54 47 0 0 (((jb_cp (jb_cp M 52 45 0 0 ((M 51 5)).toNatClampNeg) 53 46 0 0 (((jb_cp M 52 45 0 0 ((M 51 5)).toNatClampNeg) 51 5)).toNatClampNeg) 51 6)).toNatClampNeg) 55 48 0 0 (((jb_cp (jb_cp (jb_cp M 52 45 0 0 ((M 51 5)).toNatClampNeg) 53 46 0 0 (((jb_cp M 52 45 0 0 ((M 51 5)).toNatClampNeg) 51 5)).toNatClampNeg) 54 47 0 0 (((jb_cp (jb_cp M 52 45 0 0 ((M 51 5)).toNatClampNeg) 53 46 0 0 (((jb_cp M 52 45 0 0 ((M 51 5)).toNatClampNeg) 51 5)).toNatClampNeg) 51 6)).toNatClampNeg) 51 6)).toNatClampNeg) 51 6)).toNatClampNeg) 44 5 ((jb_cp (jb_cp (jb_cp (jb_cp (jb_cp M 52 45 0 0 ((M 51 5)).toNatClampNeg) 53 46 0 0 (((jb_cp M 52 45 0 0 ((M 51 5)).toNatClampNeg) 51 5)).toNatClampNeg) 54 47 0 0 (((jb_cp (jb_cp M 52 45 0 0 ((M 51 5)).toNatClampNeg) 53 46 0 0 (((jb_cp M 52 45 0 0 ((M 51 5)).toNatClampNeg) 51 5)).toNatClampNeg) 51 6)).toNatClampNeg) 55 48 0 0 (((jb_cp (jb_cp (jb_cp M 52 45 0 0 ((M 51 5)).toNatClampNeg) 53 46 0 0 (((jb_cp M 52 45 0 0 ((M 51 5)).toNatClampNeg) 51 5)).toNatClampNeg) 54 47 0 0 (((jb_cp (jb_cp M 52 45 0 0 ((M 51 5)).toNatClampNeg) 53 46 0 0 (((jb_cp M 52 45 0 0 ((M 51 5)).toNatClampNeg) 51 5)).toNatClampNeg) 51 6)).toNatClampNeg) 51 6)).toNatClampNeg) 56 49 0 0 (((jb_cp (jb_cp (jb_cp (jb_cp M 52 45 0 0 ((M 51 5)).toNatClampNeg) 53 46 0 0 (((jb_cp M 52 45 0 0 ((M 51 5)).toNatClampNeg) 51 5)).toNatClampNeg) 54 47 0 0 (((jb_cp (jb_cp M 52 45 0 0 ((M 51 5)).toNatClampNeg) 53 46 0 0 (((jb_cp M 52 45 0 0 ((M 51 5)).toNatClampNeg) 51 5)).toNatClampNeg) 51 6)).toNatClampNeg) 55 48 0 0 (((jb_cp (jb_cp (jb_cp M 52 45 0 0 ((M 51 5)).toNatClampNeg) 53 46 0 0 (((jb_cp M 52 45 0 0 ((M 51 5)).toNatClampNeg) 51 5)).toNatClampNeg) 54 47 0 0 (((jb_cp (jb_cp M 52 45 0 0 ((M 51 5)).toNatClampNeg) 53 46 0 0 (((jb_cp M 52 45 0 0 ((M 51 5)).toNatClampNeg) 51 5)).toNatClampNeg) 51 6)).toNatClampNeg) 51 6)).toNatClampNeg) 51 6)).toNatClampNeg) 51 5)) 44 6 ((jb_up (jb_cp (jb_cp (jb_cp (jb_cp (jb_cp M 52 45 0 0 ((M 51 5)).toNatClampNeg) 53 46 0 0 (((jb_cp M 52 45 0 0 ((M 51 5)).toNatClampNeg) 51 5)).toNatClampNeg) 54 47 0 0 (((jb_cp (jb_cp M 52 45 0 0 ((M 51 5)).toNatClampNeg) 53 46 0 0 (((jb_cp M 52 45 0 0 ((M 51 5)).toNatClampNeg) 51 5)).toNatClampNeg) 51 6)).toNatClampNeg) 55 48 0 0 (((jb_cp (jb_cp (jb_cp M 52 45 0 0 ((M 51 5)).toNatClampNeg) 53 46 0 0 (((jb_cp M 52 45 0 0 ((M 51 5)).toNatClampNeg) 51 5)).toNatClampNeg) 54 47 0 0 (((jb_cp (jb_cp M 52 45 0 0 ((M 51 5)).toNatClampNeg) 53 46 0 0 (((jb_cp M 52 45 0 0 ((M 51 5)).toNatClampNeg) 51 5)).toNatClampNeg) 51 6)).toNatClampNeg) 51 6)).toNatClampNeg) 56 49 0 0 (((jb_cp (jb_cp (jb_cp (jb_cp M 52 45 0 0 ((M 51 5)).toNatClampNeg) 53 46 0 0 (((jb_cp M 52 45 0 0 ((M 51 5)).toNatClampNeg) 51 5)).toNatClampNeg) 54 47 0 0 (((jb_cp (jb_cp M 52 45 0 0 ((M 51 5)).toNatClampNeg) 53 46 0 0 (((jb_cp M 52 45 0 0 ((M 51 5)).toNatClampNeg) 51 5)).toNatClampNeg) 51 6)).toNatClampNeg) 55 48 0 0 (((jb_cp (jb_cp (jb_cp M 52 45 0 0 ((M 51 5)).toNatClampNeg) 53 46 0 0 (((jb_cp M 52 45 0 0 ((M 51 5)).toNatClampNeg) 51 5)).toNatClampNeg) 54 47 0 0 (((jb_cp (jb_cp M 52 45 0 0 ((M 51 5)).toNatClampNeg) 53 46 0 0 (((jb_cp M 52 45 0 0 ((M 51 5)).toNatClampNeg) 51 5)).toNatClampNeg) 51 6)).toNatClampNeg) 51 6)).toNatClampNeg) 51 6)).toNatClampNeg) 44 5 ((jb_cp (jb_cp (jb_cp (jb_cp (jb_cp M 52 45 0 0 ((M 51 5)).toNatClampNeg) 53 46 0 0 (((jb_cp M 52 45 0 0 ((M 51 5)).toNatClampNeg) 51 5)).toNatClampNeg) 54 47 0 0 (((jb_cp (jb_cp M 52 45 0 0 ((M 51 5)).toNatClampNeg) 53 46 0 0 (((jb_cp M 52 45 0 0 ((M 51 5)).toNatClampNeg) 51 5)).toNatClampNeg) 51 6)).toNatClampNeg) 55 48 0 0 (((jb_cp (jb_cp (jb_cp M 52 45 0 0 ((M 51 5)).toNatClampNeg) 53 46 0 0 (((jb_cp M 52 45 0 0 ((M 51 5)).toNatClampNeg) 51 5)).toNatClampNeg) 54 47 0 0 (((jb_cp (jb_cp M 52 45 0 0 ((M 51 5)).toNatClampNeg) 53 46 0 0 (((jb_cp M 52 45 0 0 ((M 51 5)).toNatClampNeg) 51 5)).toNatClampNeg) 51 6)).toNatClampNeg) 51 6)).toNatClampNeg) 56 49 0 0 (((jb_cp (jb_cp (jb_cp (jb_cp M 52 45 0 0 ((M 51 5)).toNatClampNeg) 53 46 0 0 (((jb_cp M 52 45 0 0 ((M 51 5)).toNatClampNeg) 51 5)).toNatClampNeg) 54 47 0 0 (((jb_cp (jb_cp M 52 45 0 0 ((M 51 5)).toNatClampNeg) 53 46 0 0 (((jb_cp M 52 45 0 0 ((M 51 5)).toNatClampNeg) 51 5)).toNatClampNeg) 51 6)).toNatClampNeg) 55 48 0 0 (((jb_cp (jb_cp (jb_cp M 52 45 0 0 ((M 51 5)).toNatClampNeg) 53 46 0 0 (((jb_cp M 52 45 0 0 ((M 51 5)).toNatClampNeg) 51 5)).toNatClampNeg) 54 47 0 0 (((jb_cp (jb_cp M 52 45 0 0 ((M 51 5)).toNatClampNeg) 53 46 0 0 (((jb_cp M 52 45 0 0 ((M 51 5)).toNatClampNeg) 51 5)).toNatClampNeg) 51 6)).toNatClampNeg) 51 6)).toNatClampNeg) 51 6)).toNatClampNeg) 51 5)) 51 6)), N)) (G := []) rfl trivial ?_
  cases h
  obtain ⟨rfl, rfl⟩ := hK
  exact jb_retv rfl rfl
theorem ze_72 {Γ : jb_G} {L : Nat} {d : Nat} (hd : 1 ≤ d) (M : jb_Mi) (N : jb_Ml) {r : (jb_Mi)} (h : zf_72 M = some r) : jb_V Γ d zq_72 0 (jb_en 2 [(.ref 44), (.ref 51)]) [] (zE L, M, N) (none) (zE L, r, N) := zg_72 hd M N h ⟨rfl, rfl⟩
-- X12_faultAt
noncomputable def zf_74 (x0 : Int32) (x1 : Int32) : Int32 :=
  (((-1000) * x0) - x1)
set_option maxRecDepth 4000 in
theorem zg_74 {Γ : jb_G} {L : Nat} {d : Nat} (x0 : Int32) (x1 : Int32) (M : jb_Mi) (N : jb_Ml) {v : Option Value} {σ2 : jb_S} {r : Int32} (h : zf_74 x0 x1 = r) (hK : (fun r : Int32 => v = some (.int r) ∧ σ2 = (zE L, M, N)) r) : jb_V Γ d zq_74 0 [some (.int x0), some (.int x1)] [] (zE L, M, N) v σ2 := by
  unfold zf_74 at h
  refine jb_seg 5 (pc' := 7) (ls' := [some (.int x0), some (.int x1)]) (st' := [(.int (((-1000) * x0) - x1))]) (σ' := (zE L, M, N)) (G := []) rfl trivial ?_
  subst h
  obtain ⟨rfl, rfl⟩ := hK
  exact jb_reti rfl rfl
theorem ze_74 {Γ : jb_G} {L : Nat} {d : Nat} (x0 : Int32) (x1 : Int32) (M : jb_Mi) (N : jb_Ml) {r : Int32} (h : zf_74 x0 x1 = r) : jb_V Γ d zq_74 0 (jb_en 2 [(.int x0), (.int x1)]) [] (zE L, M, N) (some (.int r)) (zE L, M, N) := zg_74 x0 x1 M N h ⟨rfl, rfl⟩
-- X6_fail
noncomputable def zf_75 (x1 : Int32) (M : jb_Mi) : Bool × jb_Mi :=
  (false, (jb_up M 50 3 x1))
set_option maxRecDepth 4000 in
theorem zg_75 {Γ : jb_G} {L : Nat} {d : Nat} (x1 : Int32) (M : jb_Mi) (N : jb_Ml) {v : Option Value} {σ2 : jb_S} {r : Bool × jb_Mi} (h : zf_75 x1 M = r) (hK : (fun r : Bool × jb_Mi => v = some (.int (jb_b2i r.1)) ∧ σ2 = (zE L, r.2, N)) r) : jb_V Γ d zq_75 0 [some (.ref 50), some (.int x1)] [] (zE L, M, N) v σ2 := by
  unfold zf_75 at h
  refine jb_seg 4 (pc' := 6) (ls' := [some (.ref 50), some (.int x1)]) (st' := [(.int 0)]) (σ' := (zE L, (jb_up M 50 3 x1), N)) (G := []) rfl trivial ?_
  subst h
  obtain ⟨rfl, rfl⟩ := hK
  exact jb_retz (by decide) rfl rfl
theorem ze_75 {Γ : jb_G} {L : Nat} {d : Nat} (x1 : Int32) (M : jb_Mi) (N : jb_Ml) {r : Bool × jb_Mi} (h : zf_75 x1 M = r) : jb_V Γ d zq_75 0 (jb_en 2 [(.ref 50), (.int x1)]) [] (zE L, M, N) (some (.int (jb_b2i r.1))) (zE L, r.2, N) := zg_75 x1 M N h ⟨rfl, rfl⟩
-- X12_isDigit
noncomputable def zf_76 (x0 : Int32) : Bool :=
  if x0 < 48 then false else if 57 < x0 then false else true
set_option maxRecDepth 4000 in
theorem zg_76 {Γ : jb_G} {L : Nat} {d : Nat} (x0 : Int32) (M : jb_Mi) (N : jb_Ml) {v : Option Value} {σ2 : jb_S} {r : Bool} (h : zf_76 x0 = r) (hK : (fun r : Bool => v = some (.int (jb_b2i r)) ∧ σ2 = (zE L, M, N)) r) : jb_V Γ d zq_76 0 [some (.int x0)] [] (zE L, M, N) v σ2 := by
  unfold zf_76 at h
  refine jb_seg 3 (pc' := (if x0 < 48 then 16 else 6)) (ls' := [some (.int x0)]) (st' := []) (σ' := (zE L, M, N)) (G := []) rfl trivial ?_
  refine jb_ite (fun c => ?_) (fun c => ?_)
  · rw [if_pos c] at h
    refine jb_seg 1 (pc' := 17) (ls' := [some (.int x0)]) (st' := [(.int 0)]) (σ' := (zE L, M, N)) (G := []) rfl trivial ?_
    subst h
    obtain ⟨rfl, rfl⟩ := hK
    exact jb_retz (by decide) rfl rfl
  · rw [if_neg c] at h
    refine jb_seg 3 (pc' := (if 57 < x0 then 16 else 12)) (ls' := [some (.int x0)]) (st' := []) (σ' := (zE L, M, N)) (G := []) rfl trivial ?_
    refine jb_ite (fun c => ?_) (fun c => ?_)
    · rw [if_pos c] at h
      refine jb_seg 1 (pc' := 17) (ls' := [some (.int x0)]) (st' := [(.int 0)]) (σ' := (zE L, M, N)) (G := []) rfl trivial ?_
      subst h
      obtain ⟨rfl, rfl⟩ := hK
      exact jb_retz (by decide) rfl rfl
    · rw [if_neg c] at h
      refine jb_seg 2 (pc' := 17) (ls' := [some (.int x0)]) (st' := [(.int 1)]) (σ' := (zE L, M, N)) (G := []) rfl trivial ?_
      subst h
      obtain ⟨rfl, rfl⟩ := hK
      exact jb_retz (by decide) rfl rfl
theorem ze_76 {Γ : jb_G} {L : Nat} {d : Nat} (x0 : Int32) (M : jb_Mi) (N : jb_Ml) {r : Bool} (h : zf_76 x0 = r) : jb_V Γ d zq_76 0 (jb_en 1 [(.int x0)]) [] (zE L, M, N) (some (.int (jb_b2i r))) (zE L, M, N) := zg_76 x0 M N h ⟨rfl, rfl⟩
-- X6_readNumber
noncomputable def zf_77_J65 (x1 : Int32) (x2 : Int32) (M : jb_Mi) : Option ((Int32 × Int32 × jb_Mi) ⊕ (Bool × jb_Mi)) :=
  some (.inl (x1, (x2 + 1), M))
noncomputable def zf_77_H4 (s : Int32 × Int32 × jb_Mi) : Option ((Int32 × Int32 × jb_Mi) ⊕ (Bool × jb_Mi)) :=
  if 5 < s.2.1 then some (.inr ((zf_75 2 s.2.2).1, (zf_75 2 s.2.2).2)) else (zf_30 (s.2.2 50 2) s.2.2).bind fun q1 => if (jb_b2i (zf_76 q1)) = 0 then (zf_70 1 s.1 s.2.2).bind fun q2 => some (.inr (true, q2.2)) else if s.2.1 < 5 then zf_77_J65 (((10 * s.1) + q1) - 48) s.2.1 (jb_up s.2.2 50 2 ((s.2.2 50 2) + 1)) else zf_77_J65 s.1 s.2.1 s.2.2
noncomputable def zf_77 (M : jb_Mi) : Option (Bool × jb_Mi) :=
  jb_lp (zf_77_H4) (0, 0, M)
set_option maxRecDepth 4000 in
theorem zg_77_J65 {Γ : jb_G} {L : Nat} {d : Nat} (hd : 1 ≤ d) (x1 : Int32) (x2 : Int32) (M : jb_Mi) (N : jb_Ml) {v : Option Value} {σ2 : jb_S} {r : ((Int32 × Int32 × jb_Mi) ⊕ (Bool × jb_Mi))} (h : zf_77_J65 x1 x2 M = some r) (hK : (jb_K (fun s : Int32 × Int32 × jb_Mi => jb_V Γ d zq_77 4 [some (.ref 50), some (.int s.1), some (.int s.2.1), none] [] (zE L, s.2.2, N) v σ2) (fun r : Bool × jb_Mi => v = some (.int (jb_b2i r.1)) ∧ σ2 = (zE L, r.2, N))) r) : jb_V Γ d zq_77 65 [some (.ref 50), some (.int x1), some (.int x2), none] [] (zE L, M, N) v σ2 := by
  obtain ⟨d, rfl⟩ : ∃ e, d = e + 1 := ⟨d - 1, by omega⟩
  unfold zf_77_J65 at h
  refine jb_seg 2 (pc' := 4) (ls' := [some (.ref 50), some (.int x1), some (.int (x2 + 1)), none]) (st' := []) (σ' := (zE L, M, N)) (G := []) rfl trivial ?_
  cases h
  exact jb_mask [true, true, true, false] rfl hK
set_option maxRecDepth 4000 in
theorem zg_77_H4 {Γ : jb_G} {L : Nat} {d : Nat} (hd : 1 ≤ d) (N : jb_Ml) (s : Int32 × Int32 × jb_Mi) {v : Option Value} {σ2 : jb_S} {r : ((Int32 × Int32 × jb_Mi) ⊕ (Bool × jb_Mi))} (h : zf_77_H4 s = some r) (hK : (jb_K (fun s : Int32 × Int32 × jb_Mi => jb_V Γ d zq_77 4 [some (.ref 50), some (.int s.1), some (.int s.2.1), none] [] (zE L, s.2.2, N) v σ2) (fun r : Bool × jb_Mi => v = some (.int (jb_b2i r.1)) ∧ σ2 = (zE L, r.2, N))) r) : jb_V Γ d zq_77 4 [some (.ref 50), some (.int s.1), some (.int s.2.1), none] [] (zE L, s.2.2, N) v σ2 := by
  obtain ⟨d, rfl⟩ : ∃ e, d = e + 1 := ⟨d - 1, by omega⟩
  unfold zf_77_H4 at h
  refine jb_seg 3 (pc' := (if 5 < s.2.1 then 71 else 9)) (ls' := [some (.ref 50), some (.int s.1), some (.int s.2.1), none]) (st' := []) (σ' := (zE L, s.2.2, N)) (G := []) rfl trivial ?_
  refine jb_ite (fun c => ?_) (fun c => ?_)
  · rw [if_pos c] at h
    refine jb_seg 2 (pc' := 73) (ls' := [some (.ref 50), some (.int s.1), some (.int s.2.1), none]) (st' := [(.int 2), (.ref 50)]) (σ' := (zE L, s.2.2, N)) (G := []) rfl trivial ?_
    refine jb_callV (q' := zq_75) (As := [(.int 2)]) (rest := []) (σ1 := (zE L, (zf_75 2 s.2.2).2, N)) (v := some (.int (jb_b2i (zf_75 2 s.2.2).1))) rfl rfl zp_75 rfl (by decide) (jb_cat rfl) (Nat.le_of_ble_eq_true rfl) (Nat.le_of_ble_eq_true rfl) (Or.inl rfl) rfl (ze_75 2 s.2.2 N rfl) ?_
    cases h
    obtain ⟨rfl, rfl⟩ := hK
    exact jb_retz (jb_b2i_or _) rfl rfl
  · rw [if_neg c] at h
    refine jb_seg 4 (pc' := 17) (ls' := [some (.ref 50), some (.int s.1), some (.int s.2.1), none]) (st' := [(.int (s.2.2 50 2)), (.ref 2)]) (σ' := (zE L, s.2.2, N)) (G := []) rfl trivial ?_
    obtain ⟨q1, h1, h⟩ := jb_bd_of h
    refine jb_callV (q' := zq_30) (As := [(.int (s.2.2 50 2))]) (rest := []) (σ1 := (zE L, s.2.2, N)) (v := some (.int q1)) rfl rfl zp_30 rfl (by decide) (jb_cat rfl) (Nat.le_of_ble_eq_true rfl) (Nat.le_of_ble_eq_true rfl) (Or.inl rfl) rfl (ze_30 (s.2.2 50 2) s.2.2 N h1) ?_
    refine jb_seg 2 (pc' := 22) (ls' := [some (.ref 50), some (.int s.1), some (.int s.2.1), some (.int q1)]) (st' := [(.int q1)]) (σ' := (zE L, s.2.2, N)) (G := []) rfl trivial ?_
    refine jb_callS (q' := zq_76) (As := [(.int q1)]) (rest := []) (σ1 := (zE L, s.2.2, N)) (v := some (.int (jb_b2i (zf_76 q1)))) rfl (by decide) rfl zp_76 (jb_cat rfl) (Nat.le_of_ble_eq_true rfl) (Nat.le_of_ble_eq_true rfl) (Or.inl rfl) rfl (ze_76 q1 s.2.2 N rfl) ?_
    refine jb_seg 1 (pc' := (if (jb_b2i (zf_76 q1)) = 0 then 28 else 40)) (ls' := [some (.ref 50), some (.int s.1), some (.int s.2.1), some (.int q1)]) (st' := []) (σ' := (zE L, s.2.2, N)) (G := []) rfl trivial ?_
    refine jb_ite (fun c => ?_) (fun c => ?_)
    · rw [if_pos c] at h
      refine jb_seg 4 (pc' := 34) (ls' := [some (.ref 50), some (.int s.1), some (.int s.2.1), some (.int q1)]) (st' := [(.int s.1), (.int 1), (.ref 51)]) (σ' := (zE L, s.2.2, N)) (G := []) rfl trivial ?_
      obtain ⟨q2, h2, h⟩ := jb_bd_of h
      refine jb_callV (q' := zq_70) (As := [(.int 1), (.int s.1)]) (rest := []) (σ1 := (zE L, q2.2, N)) (v := some (.int q2.1)) rfl rfl zp_70 rfl (by decide) (jb_cat rfl) (Nat.le_of_ble_eq_true rfl) (Nat.le_of_ble_eq_true rfl) (Or.inl rfl) rfl (ze_70 1 s.1 s.2.2 N h2) ?_
      refine jb_seg 2 (pc' := 39) (ls' := [some (.ref 50), some (.int s.1), some (.int s.2.1), some (.int q1)]) (st' := [(.int 1)]) (σ' := (zE L, q2.2, N)) (G := []) rfl trivial ?_
      cases h
      obtain ⟨rfl, rfl⟩ := hK
      exact jb_retz (by decide) rfl rfl
    · rw [if_neg c] at h
      refine jb_seg 3 (pc' := (if s.2.1 < 5 then 45 else 65)) (ls' := [some (.ref 50), some (.int s.1), some (.int s.2.1), some (.int q1)]) (st' := []) (σ' := (zE L, s.2.2, N)) (G := []) rfl trivial ?_
      refine jb_ite (fun c => ?_) (fun c => ?_)
      · rw [if_pos c] at h
        refine jb_seg 14 (pc' := 65) (ls' := [some (.ref 50), some (.int (((10 * s.1) + q1) - 48)), some (.int s.2.1), some (.int q1)]) (st' := []) (σ' := (zE L, (jb_up s.2.2 50 2 ((s.2.2 50 2) + 1)), N)) (G := []) rfl trivial ?_
        exact jb_mask [true, true, true, false] rfl (zg_77_J65 hd (((10 * s.1) + q1) - 48) s.2.1 (jb_up s.2.2 50 2 ((s.2.2 50 2) + 1)) N h hK)
      · rw [if_neg c] at h
        exact jb_mask [true, true, true, false] rfl (zg_77_J65 hd s.1 s.2.1 s.2.2 N h hK)
theorem zg_77_H4L {Γ : jb_G} {L : Nat} {d : Nat} (hd : 1 ≤ d) (N : jb_Ml) {v : Option Value} {σ2 : jb_S} {s : Int32 × Int32 × jb_Mi} {r : (Bool × jb_Mi)} (h : jb_lp (zf_77_H4) s = some r) (hK : (fun r : Bool × jb_Mi => v = some (.int (jb_b2i r.1)) ∧ σ2 = (zE L, r.2, N)) r) : jb_V Γ d zq_77 4 [some (.ref 50), some (.int s.1), some (.int s.2.1), none] [] (zE L, s.2.2, N) v σ2 := by
  exact jb_lp_ind (P := fun s => jb_V Γ d zq_77 4 [some (.ref 50), some (.int s.1), some (.int s.2.1), none] [] (zE L, s.2.2, N) v σ2) (K := (fun r : Bool × jb_Mi => v = some (.int (jb_b2i r.1)) ∧ σ2 = (zE L, r.2, N))) (fun s r h hk => zg_77_H4 hd N s h (by cases r <;> exact hk)) h hK
set_option maxRecDepth 4000 in
theorem zg_77 {Γ : jb_G} {L : Nat} {d : Nat} (hd : 1 ≤ d) (M : jb_Mi) (N : jb_Ml) {v : Option Value} {σ2 : jb_S} {r : (Bool × jb_Mi)} (h : zf_77 M = some r) (hK : (fun r : Bool × jb_Mi => v = some (.int (jb_b2i r.1)) ∧ σ2 = (zE L, r.2, N)) r) : jb_V Γ d zq_77 0 [some (.ref 50), none, none, none] [] (zE L, M, N) v σ2 := by
  obtain ⟨d, rfl⟩ : ∃ e, d = e + 1 := ⟨d - 1, by omega⟩
  unfold zf_77 at h
  refine jb_seg 4 (pc' := 4) (ls' := [some (.ref 50), some (.int 0), some (.int 0), none]) (st' := []) (σ' := (zE L, M, N)) (G := []) rfl trivial ?_
  exact jb_mask [true, true, true, false] rfl (zg_77_H4L hd N h hK)
theorem ze_77 {Γ : jb_G} {L : Nat} {d : Nat} (hd : 1 ≤ d) (M : jb_Mi) (N : jb_Ml) {r : (Bool × jb_Mi)} (h : zf_77 M = some r) : jb_V Γ d zq_77 0 (jb_en 4 [(.ref 50)]) [] (zE L, M, N) (some (.int (jb_b2i r.1))) (zE L, r.2, N) := zg_77 hd M N h ⟨rfl, rfl⟩
-- X6_enter
noncomputable def zf_78 (x1 : Int32) (M : jb_Mi) : Bool × jb_Mi :=
  if x1 < 6 then (true, (jb_up M 50 2 ((M 50 2) + 1))) else ((zf_75 5 M).1, (zf_75 5 M).2)
set_option maxRecDepth 4000 in
theorem zg_78 {Γ : jb_G} {L : Nat} {d : Nat} (hd : 1 ≤ d) (x1 : Int32) (M : jb_Mi) (N : jb_Ml) {v : Option Value} {σ2 : jb_S} {r : Bool × jb_Mi} (h : zf_78 x1 M = r) (hK : (fun r : Bool × jb_Mi => v = some (.int (jb_b2i r.1)) ∧ σ2 = (zE L, r.2, N)) r) : jb_V Γ d zq_78 0 [some (.ref 50), some (.int x1)] [] (zE L, M, N) v σ2 := by
  obtain ⟨d, rfl⟩ : ∃ e, d = e + 1 := ⟨d - 1, by omega⟩
  unfold zf_78 at h
  refine jb_seg 3 (pc' := (if x1 < 6 then 12 else 6)) (ls' := [some (.ref 50), some (.int x1)]) (st' := []) (σ' := (zE L, M, N)) (G := []) rfl trivial ?_
  refine jb_ite (fun c => ?_) (fun c => ?_)
  · rw [if_pos c] at h
    refine jb_seg 7 (pc' := 23) (ls' := [some (.ref 50), some (.int x1)]) (st' := [(.int 1)]) (σ' := (zE L, (jb_up M 50 2 ((M 50 2) + 1)), N)) (G := []) rfl trivial ?_
    subst h
    obtain ⟨rfl, rfl⟩ := hK
    exact jb_retz (by decide) rfl rfl
  · rw [if_neg c] at h
    refine jb_seg 2 (pc' := 8) (ls' := [some (.ref 50), some (.int x1)]) (st' := [(.int 5), (.ref 50)]) (σ' := (zE L, M, N)) (G := []) rfl trivial ?_
    refine jb_callV (q' := zq_75) (As := [(.int 5)]) (rest := []) (σ1 := (zE L, (zf_75 5 M).2, N)) (v := some (.int (jb_b2i (zf_75 5 M).1))) rfl rfl zp_75 rfl (by decide) (jb_cat rfl) (Nat.le_of_ble_eq_true rfl) (Nat.le_of_ble_eq_true rfl) (Or.inl rfl) rfl (ze_75 5 M N rfl) ?_
    subst h
    obtain ⟨rfl, rfl⟩ := hK
    exact jb_retz (jb_b2i_or _) rfl rfl
theorem ze_78 {Γ : jb_G} {L : Nat} {d : Nat} (hd : 1 ≤ d) (x1 : Int32) (M : jb_Mi) (N : jb_Ml) {r : Bool × jb_Mi} (h : zf_78 x1 M = r) : jb_V Γ d zq_78 0 (jb_en 2 [(.ref 50), (.int x1)]) [] (zE L, M, N) (some (.int (jb_b2i r.1))) (zE L, r.2, N) := zg_78 hd x1 M N h ⟨rfl, rfl⟩
-- X6_readSign
noncomputable def zf_79 (x1 : Int32) (M : jb_Mi) : Option (Bool × jb_Mi) :=
  (zf_30 (M 50 2) M).bind fun q1 => if q1 = x1 then some (true, (jb_up M 50 2 ((M 50 2) + 1))) else some ((zf_75 1 M).1, (zf_75 1 M).2)
set_option maxRecDepth 4000 in
theorem zg_79 {Γ : jb_G} {L : Nat} {d : Nat} (hd : 1 ≤ d) (x1 : Int32) (M : jb_Mi) (N : jb_Ml) {v : Option Value} {σ2 : jb_S} {r : (Bool × jb_Mi)} (h : zf_79 x1 M = some r) (hK : (fun r : Bool × jb_Mi => v = some (.int (jb_b2i r.1)) ∧ σ2 = (zE L, r.2, N)) r) : jb_V Γ d zq_79 0 [some (.ref 50), some (.int x1)] [] (zE L, M, N) v σ2 := by
  obtain ⟨d, rfl⟩ : ∃ e, d = e + 1 := ⟨d - 1, by omega⟩
  unfold zf_79 at h
  refine jb_seg 4 (pc' := 8) (ls' := [some (.ref 50), some (.int x1)]) (st' := [(.int (M 50 2)), (.ref 2)]) (σ' := (zE L, M, N)) (G := []) rfl trivial ?_
  obtain ⟨q1, h1, h⟩ := jb_bd_of h
  refine jb_callV (q' := zq_30) (As := [(.int (M 50 2))]) (rest := []) (σ1 := (zE L, M, N)) (v := some (.int q1)) rfl rfl zp_30 rfl (by decide) (jb_cat rfl) (Nat.le_of_ble_eq_true rfl) (Nat.le_of_ble_eq_true rfl) (Or.inl rfl) rfl (ze_30 (M 50 2) M N h1) ?_
  refine jb_seg 2 (pc' := (if q1 = x1 then 21 else 15)) (ls' := [some (.ref 50), some (.int x1)]) (st' := []) (σ' := (zE L, M, N)) (G := []) rfl trivial ?_
  refine jb_ite (fun c => ?_) (fun c => ?_)
  · rw [if_pos c] at h
    refine jb_seg 7 (pc' := 32) (ls' := [some (.ref 50), some (.int x1)]) (st' := [(.int 1)]) (σ' := (zE L, (jb_up M 50 2 ((M 50 2) + 1)), N)) (G := []) rfl trivial ?_
    cases h
    obtain ⟨rfl, rfl⟩ := hK
    exact jb_retz (by decide) rfl rfl
  · rw [if_neg c] at h
    refine jb_seg 2 (pc' := 17) (ls' := [some (.ref 50), some (.int x1)]) (st' := [(.int 1), (.ref 50)]) (σ' := (zE L, M, N)) (G := []) rfl trivial ?_
    refine jb_callV (q' := zq_75) (As := [(.int 1)]) (rest := []) (σ1 := (zE L, (zf_75 1 M).2, N)) (v := some (.int (jb_b2i (zf_75 1 M).1))) rfl rfl zp_75 rfl (by decide) (jb_cat rfl) (Nat.le_of_ble_eq_true rfl) (Nat.le_of_ble_eq_true rfl) (Or.inl rfl) rfl (ze_75 1 M N rfl) ?_
    cases h
    obtain ⟨rfl, rfl⟩ := hK
    exact jb_retz (jb_b2i_or _) rfl rfl
theorem ze_79 {Γ : jb_G} {L : Nat} {d : Nat} (hd : 1 ≤ d) (x1 : Int32) (M : jb_Mi) (N : jb_Ml) {r : (Bool × jb_Mi)} (h : zf_79 x1 M = some r) : jb_V Γ d zq_79 0 (jb_en 2 [(.ref 50), (.int x1)]) [] (zE L, M, N) (some (.int (jb_b2i r.1))) (zE L, r.2, N) := zg_79 hd x1 M N h ⟨rfl, rfl⟩
-- X6_readFactor
noncomputable def zf_81 (f : Nat → Int32 → jb_Mi → Option (Bool × jb_Mi)) (x1 : Int32) (M : jb_Mi) : Option (Bool × jb_Mi) :=
  (zf_30 (M 50 2) M).bind fun q1 => if (jb_b2i (zf_76 q1)) = 0 then if q1 = 91 then if (jb_b2i (zf_78 x1 M).1) = 0 then some (false, (zf_78 x1 M).2) else (f 0 (x1 + 1) ((zf_78 x1 M).2)).bind fun q2 => if (jb_b2i q2.1) = 0 then some (false, q2.2) else (zf_79 93 q2.2).bind fun q3 => if (jb_b2i q3.1) = 0 then some (false, q3.2) else some (true, q3.2) else if (zf_63 q1) < 0 then some ((zf_75 1 M).1, (zf_75 1 M).2) else (zf_70 2 (zf_63 q1) M).bind fun q4 => some (true, (jb_up q4.2 50 2 ((q4.2 50 2) + 1))) else (zf_77 M).bind fun q5 => some (q5.1, q5.2)
set_option maxRecDepth 4000 in
theorem zg_81 {Γ : jb_G} {L : Nat} {d : Nat} (hd : 2 ≤ (d + 1)) (f : Nat → Int32 → jb_Mi → Option (Bool × jb_Mi)) (hf0 : ∀ (x1 : Int32) (M : jb_Mi) (N : jb_Ml) {r : Bool × jb_Mi}, f 0 x1 M = some r → jb_V Γ d zq_80 0 (jb_en 6 [.ref 50, .int x1]) [] (zE L, M, N) (some (.int (jb_b2i r.1))) (zE L, r.2, N)) (hf1 : ∀ (x1 : Int32) (M : jb_Mi) (N : jb_Ml) {r : Bool × jb_Mi}, f 1 x1 M = some r → jb_V Γ d zq_81 0 (jb_en 4 [.ref 50, .int x1]) [] (zE L, M, N) (some (.int (jb_b2i r.1))) (zE L, r.2, N)) (hf2 : ∀ (x1 : Int32) (M : jb_Mi) (N : jb_Ml) {r : Bool × jb_Mi}, f 2 x1 M = some r → jb_V Γ d zq_82 0 (jb_en 6 [.ref 50, .int x1]) [] (zE L, M, N) (some (.int (jb_b2i r.1))) (zE L, r.2, N)) (hf3 : ∀ (x1 : Int32) (M : jb_Mi) (N : jb_Ml) {r : Bool × jb_Mi}, f 3 x1 M = some r → jb_V Γ d zq_83 0 (jb_en 4 [.ref 50, .int x1]) [] (zE L, M, N) (some (.int (jb_b2i r.1))) (zE L, r.2, N)) (x1 : Int32) (M : jb_Mi) (N : jb_Ml) {v : Option Value} {σ2 : jb_S} {r : (Bool × jb_Mi)} (h : zf_81 f x1 M = some r) (hK : (fun r : Bool × jb_Mi => v = some (.int (jb_b2i r.1)) ∧ σ2 = (zE L, r.2, N)) r) : jb_V Γ (d + 1) zq_81 0 [some (.ref 50), some (.int x1), none, none] [] (zE L, M, N) v σ2 := by
  unfold zf_81 at h
  refine jb_seg 4 (pc' := 8) (ls' := [some (.ref 50), some (.int x1), none, none]) (st' := [(.int (M 50 2)), (.ref 2)]) (σ' := (zE L, M, N)) (G := []) rfl trivial ?_
  obtain ⟨q1, h1, h⟩ := jb_bd_of h
  refine jb_callV (q' := zq_30) (As := [(.int (M 50 2))]) (rest := []) (σ1 := (zE L, M, N)) (v := some (.int q1)) rfl rfl zp_30 rfl (by decide) (jb_cat rfl) (Nat.le_of_ble_eq_true rfl) (Nat.le_of_ble_eq_true rfl) (Or.inl rfl) rfl (ze_30 (M 50 2) M N h1) ?_
  refine jb_seg 2 (pc' := 13) (ls' := [some (.ref 50), some (.int x1), some (.int q1), none]) (st' := [(.int q1)]) (σ' := (zE L, M, N)) (G := []) rfl trivial ?_
  refine jb_callS (q' := zq_76) (As := [(.int q1)]) (rest := []) (σ1 := (zE L, M, N)) (v := some (.int (jb_b2i (zf_76 q1)))) rfl (by decide) rfl zp_76 (jb_cat rfl) (Nat.le_of_ble_eq_true rfl) (Nat.le_of_ble_eq_true rfl) (Or.inl rfl) rfl (ze_76 q1 M N rfl) ?_
  refine jb_seg 1 (pc' := (if (jb_b2i (zf_76 q1)) = 0 then 24 else 19)) (ls' := [some (.ref 50), some (.int x1), some (.int q1), none]) (st' := []) (σ' := (zE L, M, N)) (G := []) rfl trivial ?_
  refine jb_ite (fun c => ?_) (fun c => ?_)
  · rw [if_pos c] at h
    refine jb_seg 3 (pc' := (if q1 = 91 then 30 else 63)) (ls' := [some (.ref 50), some (.int x1), some (.int q1), none]) (st' := []) (σ' := (zE L, M, N)) (G := []) rfl trivial ?_
    refine jb_ite (fun c => ?_) (fun c => ?_)
    · rw [if_pos c] at h
      refine jb_seg 2 (pc' := 32) (ls' := [some (.ref 50), some (.int x1), some (.int q1), none]) (st' := [(.int x1), (.ref 50)]) (σ' := (zE L, M, N)) (G := []) rfl trivial ?_
      refine jb_callV (q' := zq_78) (As := [(.int x1)]) (rest := []) (σ1 := (zE L, (zf_78 x1 M).2, N)) (v := some (.int (jb_b2i (zf_78 x1 M).1))) rfl rfl zp_78 rfl (by decide) (jb_cat rfl) (Nat.le_of_ble_eq_true rfl) (Nat.le_of_ble_eq_true rfl) (Or.inl rfl) rfl (ze_78 (by omega) x1 M N rfl) ?_
      refine jb_seg 1 (pc' := (if (jb_b2i (zf_78 x1 M).1) = 0 then 61 else 38)) (ls' := [some (.ref 50), some (.int x1), some (.int q1), none]) (st' := []) (σ' := (zE L, (zf_78 x1 M).2, N)) (G := []) rfl trivial ?_
      refine jb_ite (fun c => ?_) (fun c => ?_)
      · rw [if_pos c] at h
        refine jb_seg 1 (pc' := 62) (ls' := [some (.ref 50), some (.int x1), some (.int q1), none]) (st' := [(.int 0)]) (σ' := (zE L, (zf_78 x1 M).2, N)) (G := []) rfl trivial ?_
        cases h
        obtain ⟨rfl, rfl⟩ := hK
        exact jb_retz (by decide) rfl rfl
      · rw [if_neg c] at h
        refine jb_seg 4 (pc' := 42) (ls' := [some (.ref 50), some (.int x1), some (.int q1), none]) (st' := [(.int (x1 + 1)), (.ref 50)]) (σ' := (zE L, (zf_78 x1 M).2, N)) (G := []) rfl trivial ?_
        obtain ⟨q2, h2, h⟩ := jb_bd_of h
        refine jb_callV (q' := zq_80) (As := [(.int (x1 + 1))]) (rest := []) (σ1 := (zE L, q2.2, N)) (v := some (.int (jb_b2i q2.1))) rfl rfl zp_80 rfl (by decide) (jb_cat rfl) (Nat.le_of_ble_eq_true rfl) (Nat.le_of_ble_eq_true rfl) (Or.inl rfl) rfl (hf0 (x1 + 1) ((zf_78 x1 M).2) N h2) ?_
        refine jb_seg 1 (pc' := (if (jb_b2i q2.1) = 0 then 61 else 48)) (ls' := [some (.ref 50), some (.int x1), some (.int q1), none]) (st' := []) (σ' := (zE L, q2.2, N)) (G := []) rfl trivial ?_
        refine jb_ite (fun c => ?_) (fun c => ?_)
        · rw [if_pos c] at h
          refine jb_seg 1 (pc' := 62) (ls' := [some (.ref 50), some (.int x1), some (.int q1), none]) (st' := [(.int 0)]) (σ' := (zE L, q2.2, N)) (G := []) rfl trivial ?_
          cases h
          obtain ⟨rfl, rfl⟩ := hK
          exact jb_retz (by decide) rfl rfl
        · rw [if_neg c] at h
          refine jb_seg 2 (pc' := 51) (ls' := [some (.ref 50), some (.int x1), some (.int q1), none]) (st' := [(.int 93), (.ref 50)]) (σ' := (zE L, q2.2, N)) (G := []) rfl trivial ?_
          obtain ⟨q3, h3, h⟩ := jb_bd_of h
          refine jb_callV (q' := zq_79) (As := [(.int 93)]) (rest := []) (σ1 := (zE L, q3.2, N)) (v := some (.int (jb_b2i q3.1))) rfl rfl zp_79 rfl (by decide) (jb_cat rfl) (Nat.le_of_ble_eq_true rfl) (Nat.le_of_ble_eq_true rfl) (Or.inl rfl) rfl (ze_79 (by omega) 93 q2.2 N h3) ?_
          refine jb_seg 1 (pc' := (if (jb_b2i q3.1) = 0 then 61 else 57)) (ls' := [some (.ref 50), some (.int x1), some (.int q1), none]) (st' := []) (σ' := (zE L, q3.2, N)) (G := []) rfl trivial ?_
          refine jb_ite (fun c => ?_) (fun c => ?_)
          · rw [if_pos c] at h
            refine jb_seg 1 (pc' := 62) (ls' := [some (.ref 50), some (.int x1), some (.int q1), none]) (st' := [(.int 0)]) (σ' := (zE L, q3.2, N)) (G := []) rfl trivial ?_
            cases h
            obtain ⟨rfl, rfl⟩ := hK
            exact jb_retz (by decide) rfl rfl
          · rw [if_neg c] at h
            refine jb_seg 2 (pc' := 62) (ls' := [some (.ref 50), some (.int x1), some (.int q1), none]) (st' := [(.int 1)]) (σ' := (zE L, q3.2, N)) (G := []) rfl trivial ?_
            cases h
            obtain ⟨rfl, rfl⟩ := hK
            exact jb_retz (by decide) rfl rfl
    · rw [if_neg c] at h
      refine jb_seg 1 (pc' := 64) (ls' := [some (.ref 50), some (.int x1), some (.int q1), none]) (st' := [(.int q1)]) (σ' := (zE L, M, N)) (G := []) rfl trivial ?_
      refine jb_callS (q' := zq_63) (As := [(.int q1)]) (rest := []) (σ1 := (zE L, M, N)) (v := some (.int (zf_63 q1))) rfl (by decide) rfl zp_63 (jb_cat rfl) (Nat.le_of_ble_eq_true rfl) (Nat.le_of_ble_eq_true rfl) (Or.inl rfl) rfl (ze_63 q1 M N rfl) ?_
      refine jb_seg 3 (pc' := (if (zf_63 q1) < 0 then 72 else 78)) (ls' := [some (.ref 50), some (.int x1), some (.int q1), some (.int (zf_63 q1))]) (st' := []) (σ' := (zE L, M, N)) (G := []) rfl trivial ?_
      refine jb_ite (fun c => ?_) (fun c => ?_)
      · rw [if_pos c] at h
        refine jb_seg 2 (pc' := 74) (ls' := [some (.ref 50), some (.int x1), some (.int q1), some (.int (zf_63 q1))]) (st' := [(.int 1), (.ref 50)]) (σ' := (zE L, M, N)) (G := []) rfl trivial ?_
        refine jb_callV (q' := zq_75) (As := [(.int 1)]) (rest := []) (σ1 := (zE L, (zf_75 1 M).2, N)) (v := some (.int (jb_b2i (zf_75 1 M).1))) rfl rfl zp_75 rfl (by decide) (jb_cat rfl) (Nat.le_of_ble_eq_true rfl) (Nat.le_of_ble_eq_true rfl) (Or.inl rfl) rfl (ze_75 1 M N rfl) ?_
        cases h
        obtain ⟨rfl, rfl⟩ := hK
        exact jb_retz (jb_b2i_or _) rfl rfl
      · rw [if_neg c] at h
        refine jb_seg 4 (pc' := 84) (ls' := [some (.ref 50), some (.int x1), some (.int q1), some (.int (zf_63 q1))]) (st' := [(.int (zf_63 q1)), (.int 2), (.ref 51)]) (σ' := (zE L, M, N)) (G := []) rfl trivial ?_
        obtain ⟨q4, h4, h⟩ := jb_bd_of h
        refine jb_callV (q' := zq_70) (As := [(.int 2), (.int (zf_63 q1))]) (rest := []) (σ1 := (zE L, q4.2, N)) (v := some (.int q4.1)) rfl rfl zp_70 rfl (by decide) (jb_cat rfl) (Nat.le_of_ble_eq_true rfl) (Nat.le_of_ble_eq_true rfl) (Or.inl rfl) rfl (ze_70 2 (zf_63 q1) M N h4) ?_
        refine jb_seg 8 (pc' := 99) (ls' := [some (.ref 50), some (.int x1), some (.int q1), some (.int (zf_63 q1))]) (st' := [(.int 1)]) (σ' := (zE L, (jb_up q4.2 50 2 ((q4.2 50 2) + 1)), N)) (G := []) rfl trivial ?_
        cases h
        obtain ⟨rfl, rfl⟩ := hK
        exact jb_retz (by decide) rfl rfl
  · rw [if_neg c] at h
    refine jb_seg 1 (pc' := 20) (ls' := [some (.ref 50), some (.int x1), some (.int q1), none]) (st' := [(.ref 50)]) (σ' := (zE L, M, N)) (G := []) rfl trivial ?_
    obtain ⟨q5, h5, h⟩ := jb_bd_of h
    refine jb_callV (q' := zq_77) (As := []) (rest := []) (σ1 := (zE L, q5.2, N)) (v := some (.int (jb_b2i q5.1))) rfl rfl zp_77 rfl (by decide) (jb_cat rfl) (Nat.le_of_ble_eq_true rfl) (Nat.le_of_ble_eq_true rfl) (Or.inl rfl) rfl (ze_77 (by omega) M N h5) ?_
    cases h
    obtain ⟨rfl, rfl⟩ := hK
    exact jb_retz (jb_b2i_or _) rfl rfl
theorem ze_81 {Γ : jb_G} {L : Nat} {d : Nat} (hd : 2 ≤ (d + 1)) (f : Nat → Int32 → jb_Mi → Option (Bool × jb_Mi)) (hf0 : ∀ (x1 : Int32) (M : jb_Mi) (N : jb_Ml) {r : Bool × jb_Mi}, f 0 x1 M = some r → jb_V Γ d zq_80 0 (jb_en 6 [.ref 50, .int x1]) [] (zE L, M, N) (some (.int (jb_b2i r.1))) (zE L, r.2, N)) (hf1 : ∀ (x1 : Int32) (M : jb_Mi) (N : jb_Ml) {r : Bool × jb_Mi}, f 1 x1 M = some r → jb_V Γ d zq_81 0 (jb_en 4 [.ref 50, .int x1]) [] (zE L, M, N) (some (.int (jb_b2i r.1))) (zE L, r.2, N)) (hf2 : ∀ (x1 : Int32) (M : jb_Mi) (N : jb_Ml) {r : Bool × jb_Mi}, f 2 x1 M = some r → jb_V Γ d zq_82 0 (jb_en 6 [.ref 50, .int x1]) [] (zE L, M, N) (some (.int (jb_b2i r.1))) (zE L, r.2, N)) (hf3 : ∀ (x1 : Int32) (M : jb_Mi) (N : jb_Ml) {r : Bool × jb_Mi}, f 3 x1 M = some r → jb_V Γ d zq_83 0 (jb_en 4 [.ref 50, .int x1]) [] (zE L, M, N) (some (.int (jb_b2i r.1))) (zE L, r.2, N)) (x1 : Int32) (M : jb_Mi) (N : jb_Ml) {r : (Bool × jb_Mi)} (h : zf_81 f x1 M = some r) : jb_V Γ (d + 1) zq_81 0 (jb_en 4 [(.ref 50), (.int x1)]) [] (zE L, M, N) (some (.int (jb_b2i r.1))) (zE L, r.2, N) := zg_81 hd f hf0 hf1 hf2 hf3 x1 M N h ⟨rfl, rfl⟩
-- X6_readExpression
noncomputable def zf_80_J116 (f : Nat → Int32 → jb_Mi → Option (Bool × jb_Mi)) (x1 : Int32) (x2 : Int32) (x3 : Int32) (x4 : Int32) (M : jb_Mi) : Option ((Int32 × Int32 × Int32 × jb_Mi) ⊕ (Bool × jb_Mi)) :=
  some (.inl (x2, x3, (x4 + 1), (jb_up M 50 2 ((M 50 2) + 1))))
noncomputable def zf_80_J76 (f : Nat → Int32 → jb_Mi → Option (Bool × jb_Mi)) (x1 : Int32) (x2 : Int32) (x4 : Int32) (x5 : Int32) (M : jb_Mi) : Option ((Int32 × Int32 × Int32 × jb_Mi) ⊕ (Bool × jb_Mi)) :=
  zf_80_J116 f x1 x2 x5 x4 M
noncomputable def zf_80_J113 (f : Nat → Int32 → jb_Mi → Option (Bool × jb_Mi)) (x1 : Int32) (x3 : Int32) (x4 : Int32) (x5 : Int32) (M : jb_Mi) : Option ((Int32 × Int32 × Int32 × jb_Mi) ⊕ (Bool × jb_Mi)) :=
  zf_80_J116 f x1 x5 x3 x4 M
noncomputable def zf_80_J97 (f : Nat → Int32 → jb_Mi → Option (Bool × jb_Mi)) (x1 : Int32) (x3 : Int32) (x4 : Int32) (x5 : Int32) (M : jb_Mi) : Option ((Int32 × Int32 × Int32 × jb_Mi) ⊕ (Bool × jb_Mi)) :=
  if x5 = 43 then zf_80_J113 f x1 x3 x4 x5 M else if x5 = 45 then zf_80_J113 f x1 x3 x4 x5 M else some (.inr (true, M))
noncomputable def zf_80_J42 (f : Nat → Int32 → jb_Mi → Option (Bool × jb_Mi)) (x1 : Int32) (x2 : Int32) (x3 : Int32) (x4 : Int32) (M : jb_Mi) : Option ((Int32 × Int32 × Int32 × jb_Mi) ⊕ (Bool × jb_Mi)) :=
  (zf_30 (M 50 2) M).bind fun q2 => if q2 = 42 then zf_80_J76 f x1 x2 x4 q2 M else if q2 = 47 then zf_80_J76 f x1 x2 x4 q2 M else if q2 = 37 then zf_80_J76 f x1 x2 x4 q2 M else if x2 = (-1) then zf_80_J97 f x1 x3 x4 q2 M else (zf_70 x2 0 M).bind fun q3 => zf_80_J97 f x1 x3 x4 q2 q3.2
noncomputable def zf_80_H7 (f : Nat → Int32 → jb_Mi → Option (Bool × jb_Mi)) (x1 : Int32) (s : Int32 × Int32 × Int32 × jb_Mi) : Option ((Int32 × Int32 × Int32 × jb_Mi) ⊕ (Bool × jb_Mi)) :=
  if s.2.2.1 < 240 then (f 1 x1 s.2.2.2).bind fun q1 => if (jb_b2i q1.1) = 0 then some (.inr (false, q1.2)) else if s.2.1 = (-1) then zf_80_J42 f x1 s.1 s.2.1 s.2.2.1 q1.2 else (zf_70 s.2.1 0 q1.2).bind fun q4 => zf_80_J42 f x1 s.1 (-1) s.2.2.1 q4.2 else some (.inr ((zf_75 1 s.2.2.2).1, (zf_75 1 s.2.2.2).2))
noncomputable def zf_80 (f : Nat → Int32 → jb_Mi → Option (Bool × jb_Mi)) (x1 : Int32) (M : jb_Mi) : Option (Bool × jb_Mi) :=
  jb_lp (zf_80_H7 f x1) ((-1), (-1), 0, M)
set_option maxRecDepth 4000 in
theorem zg_80_J116 {Γ : jb_G} {L : Nat} {d : Nat} (hd : 1 ≤ (d + 1)) (f : Nat → Int32 → jb_Mi → Option (Bool × jb_Mi)) (hf0 : ∀ (x1 : Int32) (M : jb_Mi) (N : jb_Ml) {r : Bool × jb_Mi}, f 0 x1 M = some r → jb_V Γ d zq_80 0 (jb_en 6 [.ref 50, .int x1]) [] (zE L, M, N) (some (.int (jb_b2i r.1))) (zE L, r.2, N)) (hf1 : ∀ (x1 : Int32) (M : jb_Mi) (N : jb_Ml) {r : Bool × jb_Mi}, f 1 x1 M = some r → jb_V Γ d zq_81 0 (jb_en 4 [.ref 50, .int x1]) [] (zE L, M, N) (some (.int (jb_b2i r.1))) (zE L, r.2, N)) (hf2 : ∀ (x1 : Int32) (M : jb_Mi) (N : jb_Ml) {r : Bool × jb_Mi}, f 2 x1 M = some r → jb_V Γ d zq_82 0 (jb_en 6 [.ref 50, .int x1]) [] (zE L, M, N) (some (.int (jb_b2i r.1))) (zE L, r.2, N)) (hf3 : ∀ (x1 : Int32) (M : jb_Mi) (N : jb_Ml) {r : Bool × jb_Mi}, f 3 x1 M = some r → jb_V Γ d zq_83 0 (jb_en 4 [.ref 50, .int x1]) [] (zE L, M, N) (some (.int (jb_b2i r.1))) (zE L, r.2, N)) (x1 : Int32) (x2 : Int32) (x3 : Int32) (x4 : Int32) (M : jb_Mi) (N : jb_Ml) {v : Option Value} {σ2 : jb_S} {r : ((Int32 × Int32 × Int32 × jb_Mi) ⊕ (Bool × jb_Mi))} (h : zf_80_J116 f x1 x2 x3 x4 M = some r) (hK : (jb_K (fun s : Int32 × Int32 × Int32 × jb_Mi => jb_V Γ (d + 1) zq_80 7 [some (.ref 50), some (.int x1), some (.int s.1), some (.int s.2.1), some (.int s.2.2.1), none] [] (zE L, s.2.2.2, N) v σ2) (fun r : Bool × jb_Mi => v = some (.int (jb_b2i r.1)) ∧ σ2 = (zE L, r.2, N))) r) : jb_V Γ (d + 1) zq_80 116 [some (.ref 50), some (.int x1), some (.int x2), some (.int x3), some (.int x4), none] [] (zE L, M, N) v σ2 := by
  unfold zf_80_J116 at h
  refine jb_seg 8 (pc' := 7) (ls' := [some (.ref 50), some (.int x1), some (.int x2), some (.int x3), some (.int (x4 + 1)), none]) (st' := []) (σ' := (zE L, (jb_up M 50 2 ((M 50 2) + 1)), N)) (G := []) rfl trivial ?_
  cases h
  exact jb_mask [true, true, true, true, true, false] rfl hK
set_option maxRecDepth 4000 in
theorem zg_80_J76 {Γ : jb_G} {L : Nat} {d : Nat} (hd : 1 ≤ (d + 1)) (f : Nat → Int32 → jb_Mi → Option (Bool × jb_Mi)) (hf0 : ∀ (x1 : Int32) (M : jb_Mi) (N : jb_Ml) {r : Bool × jb_Mi}, f 0 x1 M = some r → jb_V Γ d zq_80 0 (jb_en 6 [.ref 50, .int x1]) [] (zE L, M, N) (some (.int (jb_b2i r.1))) (zE L, r.2, N)) (hf1 : ∀ (x1 : Int32) (M : jb_Mi) (N : jb_Ml) {r : Bool × jb_Mi}, f 1 x1 M = some r → jb_V Γ d zq_81 0 (jb_en 4 [.ref 50, .int x1]) [] (zE L, M, N) (some (.int (jb_b2i r.1))) (zE L, r.2, N)) (hf2 : ∀ (x1 : Int32) (M : jb_Mi) (N : jb_Ml) {r : Bool × jb_Mi}, f 2 x1 M = some r → jb_V Γ d zq_82 0 (jb_en 6 [.ref 50, .int x1]) [] (zE L, M, N) (some (.int (jb_b2i r.1))) (zE L, r.2, N)) (hf3 : ∀ (x1 : Int32) (M : jb_Mi) (N : jb_Ml) {r : Bool × jb_Mi}, f 3 x1 M = some r → jb_V Γ d zq_83 0 (jb_en 4 [.ref 50, .int x1]) [] (zE L, M, N) (some (.int (jb_b2i r.1))) (zE L, r.2, N)) (x1 : Int32) (x2 : Int32) (x4 : Int32) (x5 : Int32) (M : jb_Mi) (N : jb_Ml) {v : Option Value} {σ2 : jb_S} {r : ((Int32 × Int32 × Int32 × jb_Mi) ⊕ (Bool × jb_Mi))} (h : zf_80_J76 f x1 x2 x4 x5 M = some r) (hK : (jb_K (fun s : Int32 × Int32 × Int32 × jb_Mi => jb_V Γ (d + 1) zq_80 7 [some (.ref 50), some (.int x1), some (.int s.1), some (.int s.2.1), some (.int s.2.2.1), none] [] (zE L, s.2.2.2, N) v σ2) (fun r : Bool × jb_Mi => v = some (.int (jb_b2i r.1)) ∧ σ2 = (zE L, r.2, N))) r) : jb_V Γ (d + 1) zq_80 76 [some (.ref 50), some (.int x1), some (.int x2), none, some (.int x4), some (.int x5)] [] (zE L, M, N) v σ2 := by
  unfold zf_80_J76 at h
  refine jb_seg 3 (pc' := 116) (ls' := [some (.ref 50), some (.int x1), some (.int x2), some (.int x5), some (.int x4), some (.int x5)]) (st' := []) (σ' := (zE L, M, N)) (G := []) rfl trivial ?_
  exact jb_mask [true, true, true, true, true, false] rfl (zg_80_J116 hd f hf0 hf1 hf2 hf3 x1 x2 x5 x4 M N h hK)
set_option maxRecDepth 4000 in
theorem zg_80_J113 {Γ : jb_G} {L : Nat} {d : Nat} (hd : 1 ≤ (d + 1)) (f : Nat → Int32 → jb_Mi → Option (Bool × jb_Mi)) (hf0 : ∀ (x1 : Int32) (M : jb_Mi) (N : jb_Ml) {r : Bool × jb_Mi}, f 0 x1 M = some r → jb_V Γ d zq_80 0 (jb_en 6 [.ref 50, .int x1]) [] (zE L, M, N) (some (.int (jb_b2i r.1))) (zE L, r.2, N)) (hf1 : ∀ (x1 : Int32) (M : jb_Mi) (N : jb_Ml) {r : Bool × jb_Mi}, f 1 x1 M = some r → jb_V Γ d zq_81 0 (jb_en 4 [.ref 50, .int x1]) [] (zE L, M, N) (some (.int (jb_b2i r.1))) (zE L, r.2, N)) (hf2 : ∀ (x1 : Int32) (M : jb_Mi) (N : jb_Ml) {r : Bool × jb_Mi}, f 2 x1 M = some r → jb_V Γ d zq_82 0 (jb_en 6 [.ref 50, .int x1]) [] (zE L, M, N) (some (.int (jb_b2i r.1))) (zE L, r.2, N)) (hf3 : ∀ (x1 : Int32) (M : jb_Mi) (N : jb_Ml) {r : Bool × jb_Mi}, f 3 x1 M = some r → jb_V Γ d zq_83 0 (jb_en 4 [.ref 50, .int x1]) [] (zE L, M, N) (some (.int (jb_b2i r.1))) (zE L, r.2, N)) (x1 : Int32) (x3 : Int32) (x4 : Int32) (x5 : Int32) (M : jb_Mi) (N : jb_Ml) {v : Option Value} {σ2 : jb_S} {r : ((Int32 × Int32 × Int32 × jb_Mi) ⊕ (Bool × jb_Mi))} (h : zf_80_J113 f x1 x3 x4 x5 M = some r) (hK : (jb_K (fun s : Int32 × Int32 × Int32 × jb_Mi => jb_V Γ (d + 1) zq_80 7 [some (.ref 50), some (.int x1), some (.int s.1), some (.int s.2.1), some (.int s.2.2.1), none] [] (zE L, s.2.2.2, N) v σ2) (fun r : Bool × jb_Mi => v = some (.int (jb_b2i r.1)) ∧ σ2 = (zE L, r.2, N))) r) : jb_V Γ (d + 1) zq_80 113 [some (.ref 50), some (.int x1), none, some (.int x3), some (.int x4), some (.int x5)] [] (zE L, M, N) v σ2 := by
  unfold zf_80_J113 at h
  refine jb_seg 2 (pc' := 116) (ls' := [some (.ref 50), some (.int x1), some (.int x5), some (.int x3), some (.int x4), some (.int x5)]) (st' := []) (σ' := (zE L, M, N)) (G := []) rfl trivial ?_
  exact jb_mask [true, true, true, true, true, false] rfl (zg_80_J116 hd f hf0 hf1 hf2 hf3 x1 x5 x3 x4 M N h hK)
set_option maxRecDepth 4000 in
theorem zg_80_J97 {Γ : jb_G} {L : Nat} {d : Nat} (hd : 1 ≤ (d + 1)) (f : Nat → Int32 → jb_Mi → Option (Bool × jb_Mi)) (hf0 : ∀ (x1 : Int32) (M : jb_Mi) (N : jb_Ml) {r : Bool × jb_Mi}, f 0 x1 M = some r → jb_V Γ d zq_80 0 (jb_en 6 [.ref 50, .int x1]) [] (zE L, M, N) (some (.int (jb_b2i r.1))) (zE L, r.2, N)) (hf1 : ∀ (x1 : Int32) (M : jb_Mi) (N : jb_Ml) {r : Bool × jb_Mi}, f 1 x1 M = some r → jb_V Γ d zq_81 0 (jb_en 4 [.ref 50, .int x1]) [] (zE L, M, N) (some (.int (jb_b2i r.1))) (zE L, r.2, N)) (hf2 : ∀ (x1 : Int32) (M : jb_Mi) (N : jb_Ml) {r : Bool × jb_Mi}, f 2 x1 M = some r → jb_V Γ d zq_82 0 (jb_en 6 [.ref 50, .int x1]) [] (zE L, M, N) (some (.int (jb_b2i r.1))) (zE L, r.2, N)) (hf3 : ∀ (x1 : Int32) (M : jb_Mi) (N : jb_Ml) {r : Bool × jb_Mi}, f 3 x1 M = some r → jb_V Γ d zq_83 0 (jb_en 4 [.ref 50, .int x1]) [] (zE L, M, N) (some (.int (jb_b2i r.1))) (zE L, r.2, N)) (x1 : Int32) (x3 : Int32) (x4 : Int32) (x5 : Int32) (M : jb_Mi) (N : jb_Ml) {v : Option Value} {σ2 : jb_S} {r : ((Int32 × Int32 × Int32 × jb_Mi) ⊕ (Bool × jb_Mi))} (h : zf_80_J97 f x1 x3 x4 x5 M = some r) (hK : (jb_K (fun s : Int32 × Int32 × Int32 × jb_Mi => jb_V Γ (d + 1) zq_80 7 [some (.ref 50), some (.int x1), some (.int s.1), some (.int s.2.1), some (.int s.2.2.1), none] [] (zE L, s.2.2.2, N) v σ2) (fun r : Bool × jb_Mi => v = some (.int (jb_b2i r.1)) ∧ σ2 = (zE L, r.2, N))) r) : jb_V Γ (d + 1) zq_80 97 [some (.ref 50), some (.int x1), none, some (.int x3), some (.int x4), some (.int x5)] [] (zE L, M, N) v σ2 := by
  unfold zf_80_J97 at h
  refine jb_seg 3 (pc' := (if x5 = 43 then 113 else 104)) (ls' := [some (.ref 50), some (.int x1), none, some (.int x3), some (.int x4), some (.int x5)]) (st' := []) (σ' := (zE L, M, N)) (G := []) rfl trivial ?_
  refine jb_ite (fun c => ?_) (fun c => ?_)
  · rw [if_pos c] at h
    exact jb_mask [true, true, false, true, true, true] rfl (zg_80_J113 hd f hf0 hf1 hf2 hf3 x1 x3 x4 x5 M N h hK)
  · rw [if_neg c] at h
    refine jb_seg 3 (pc' := (if x5 = 45 then 113 else 111)) (ls' := [some (.ref 50), some (.int x1), none, some (.int x3), some (.int x4), some (.int x5)]) (st' := []) (σ' := (zE L, M, N)) (G := []) rfl trivial ?_
    refine jb_ite (fun c => ?_) (fun c => ?_)
    · rw [if_pos c] at h
      exact jb_mask [true, true, false, true, true, true] rfl (zg_80_J113 hd f hf0 hf1 hf2 hf3 x1 x3 x4 x5 M N h hK)
    · rw [if_neg c] at h
      refine jb_seg 1 (pc' := 112) (ls' := [some (.ref 50), some (.int x1), none, some (.int x3), some (.int x4), some (.int x5)]) (st' := [(.int 1)]) (σ' := (zE L, M, N)) (G := []) rfl trivial ?_
      cases h
      obtain ⟨rfl, rfl⟩ := hK
      exact jb_retz (by decide) rfl rfl
set_option maxRecDepth 4000 in
theorem zg_80_J42 {Γ : jb_G} {L : Nat} {d : Nat} (hd : 1 ≤ (d + 1)) (f : Nat → Int32 → jb_Mi → Option (Bool × jb_Mi)) (hf0 : ∀ (x1 : Int32) (M : jb_Mi) (N : jb_Ml) {r : Bool × jb_Mi}, f 0 x1 M = some r → jb_V Γ d zq_80 0 (jb_en 6 [.ref 50, .int x1]) [] (zE L, M, N) (some (.int (jb_b2i r.1))) (zE L, r.2, N)) (hf1 : ∀ (x1 : Int32) (M : jb_Mi) (N : jb_Ml) {r : Bool × jb_Mi}, f 1 x1 M = some r → jb_V Γ d zq_81 0 (jb_en 4 [.ref 50, .int x1]) [] (zE L, M, N) (some (.int (jb_b2i r.1))) (zE L, r.2, N)) (hf2 : ∀ (x1 : Int32) (M : jb_Mi) (N : jb_Ml) {r : Bool × jb_Mi}, f 2 x1 M = some r → jb_V Γ d zq_82 0 (jb_en 6 [.ref 50, .int x1]) [] (zE L, M, N) (some (.int (jb_b2i r.1))) (zE L, r.2, N)) (hf3 : ∀ (x1 : Int32) (M : jb_Mi) (N : jb_Ml) {r : Bool × jb_Mi}, f 3 x1 M = some r → jb_V Γ d zq_83 0 (jb_en 4 [.ref 50, .int x1]) [] (zE L, M, N) (some (.int (jb_b2i r.1))) (zE L, r.2, N)) (x1 : Int32) (x2 : Int32) (x3 : Int32) (x4 : Int32) (M : jb_Mi) (N : jb_Ml) {v : Option Value} {σ2 : jb_S} {r : ((Int32 × Int32 × Int32 × jb_Mi) ⊕ (Bool × jb_Mi))} (h : zf_80_J42 f x1 x2 x3 x4 M = some r) (hK : (jb_K (fun s : Int32 × Int32 × Int32 × jb_Mi => jb_V Γ (d + 1) zq_80 7 [some (.ref 50), some (.int x1), some (.int s.1), some (.int s.2.1), some (.int s.2.2.1), none] [] (zE L, s.2.2.2, N) v σ2) (fun r : Bool × jb_Mi => v = some (.int (jb_b2i r.1)) ∧ σ2 = (zE L, r.2, N))) r) : jb_V Γ (d + 1) zq_80 42 [some (.ref 50), some (.int x1), some (.int x2), some (.int x3), some (.int x4), none] [] (zE L, M, N) v σ2 := by
  unfold zf_80_J42 at h
  refine jb_seg 4 (pc' := 50) (ls' := [some (.ref 50), some (.int x1), some (.int x2), some (.int x3), some (.int x4), none]) (st' := [(.int (M 50 2)), (.ref 2)]) (σ' := (zE L, M, N)) (G := []) rfl trivial ?_
  obtain ⟨q2, h2, h⟩ := jb_bd_of h
  refine jb_callV (q' := zq_30) (As := [(.int (M 50 2))]) (rest := []) (σ1 := (zE L, M, N)) (v := some (.int q2)) rfl rfl zp_30 rfl (by decide) (jb_cat rfl) (Nat.le_of_ble_eq_true rfl) (Nat.le_of_ble_eq_true rfl) (Or.inl rfl) rfl (ze_30 (M 50 2) M N h2) ?_
  refine jb_seg 4 (pc' := (if q2 = 42 then 76 else 62)) (ls' := [some (.ref 50), some (.int x1), some (.int x2), some (.int x3), some (.int x4), some (.int q2)]) (st' := []) (σ' := (zE L, M, N)) (G := []) rfl trivial ?_
  refine jb_ite (fun c => ?_) (fun c => ?_)
  · rw [if_pos c] at h
    exact jb_mask [true, true, true, false, true, true] rfl (zg_80_J76 hd f hf0 hf1 hf2 hf3 x1 x2 x4 q2 M N h hK)
  · rw [if_neg c] at h
    refine jb_seg 3 (pc' := (if q2 = 47 then 76 else 69)) (ls' := [some (.ref 50), some (.int x1), some (.int x2), some (.int x3), some (.int x4), some (.int q2)]) (st' := []) (σ' := (zE L, M, N)) (G := []) rfl trivial ?_
    refine jb_ite (fun c => ?_) (fun c => ?_)
    · rw [if_pos c] at h
      exact jb_mask [true, true, true, false, true, true] rfl (zg_80_J76 hd f hf0 hf1 hf2 hf3 x1 x2 x4 q2 M N h hK)
    · rw [if_neg c] at h
      refine jb_seg 3 (pc' := (if q2 = 37 then 76 else 82)) (ls' := [some (.ref 50), some (.int x1), some (.int x2), some (.int x3), some (.int x4), some (.int q2)]) (st' := []) (σ' := (zE L, M, N)) (G := []) rfl trivial ?_
      refine jb_ite (fun c => ?_) (fun c => ?_)
      · rw [if_pos c] at h
        exact jb_mask [true, true, true, false, true, true] rfl (zg_80_J76 hd f hf0 hf1 hf2 hf3 x1 x2 x4 q2 M N h hK)
      · rw [if_neg c] at h
        refine jb_seg 3 (pc' := (if x2 = (-1) then 97 else 87)) (ls' := [some (.ref 50), some (.int x1), some (.int x2), some (.int x3), some (.int x4), some (.int q2)]) (st' := []) (σ' := (zE L, M, N)) (G := []) rfl trivial ?_
        refine jb_ite (fun c => ?_) (fun c => ?_)
        · rw [if_pos c] at h
          exact jb_mask [true, true, false, true, true, true] rfl (zg_80_J97 hd f hf0 hf1 hf2 hf3 x1 x3 x4 q2 M N h hK)
        · rw [if_neg c] at h
          refine jb_seg 4 (pc' := 93) (ls' := [some (.ref 50), some (.int x1), some (.int x2), some (.int x3), some (.int x4), some (.int q2)]) (st' := [(.int 0), (.int x2), (.ref 51)]) (σ' := (zE L, M, N)) (G := []) rfl trivial ?_
          obtain ⟨q3, h3, h⟩ := jb_bd_of h
          refine jb_callV (q' := zq_70) (As := [(.int x2), (.int 0)]) (rest := []) (σ1 := (zE L, q3.2, N)) (v := some (.int q3.1)) rfl rfl zp_70 rfl (by decide) (jb_cat rfl) (Nat.le_of_ble_eq_true rfl) (Nat.le_of_ble_eq_true rfl) (Or.inl rfl) rfl (ze_70 x2 0 M N h3) ?_
          refine jb_seg 1 (pc' := 97) (ls' := [some (.ref 50), some (.int x1), some (.int x2), some (.int x3), some (.int x4), some (.int q2)]) (st' := []) (σ' := (zE L, q3.2, N)) (G := []) rfl trivial ?_
          exact jb_mask [true, true, false, true, true, true] rfl (zg_80_J97 hd f hf0 hf1 hf2 hf3 x1 x3 x4 q2 q3.2 N h hK)
set_option maxRecDepth 4000 in
theorem zg_80_H7 {Γ : jb_G} {L : Nat} {d : Nat} (hd : 1 ≤ (d + 1)) (f : Nat → Int32 → jb_Mi → Option (Bool × jb_Mi)) (hf0 : ∀ (x1 : Int32) (M : jb_Mi) (N : jb_Ml) {r : Bool × jb_Mi}, f 0 x1 M = some r → jb_V Γ d zq_80 0 (jb_en 6 [.ref 50, .int x1]) [] (zE L, M, N) (some (.int (jb_b2i r.1))) (zE L, r.2, N)) (hf1 : ∀ (x1 : Int32) (M : jb_Mi) (N : jb_Ml) {r : Bool × jb_Mi}, f 1 x1 M = some r → jb_V Γ d zq_81 0 (jb_en 4 [.ref 50, .int x1]) [] (zE L, M, N) (some (.int (jb_b2i r.1))) (zE L, r.2, N)) (hf2 : ∀ (x1 : Int32) (M : jb_Mi) (N : jb_Ml) {r : Bool × jb_Mi}, f 2 x1 M = some r → jb_V Γ d zq_82 0 (jb_en 6 [.ref 50, .int x1]) [] (zE L, M, N) (some (.int (jb_b2i r.1))) (zE L, r.2, N)) (hf3 : ∀ (x1 : Int32) (M : jb_Mi) (N : jb_Ml) {r : Bool × jb_Mi}, f 3 x1 M = some r → jb_V Γ d zq_83 0 (jb_en 4 [.ref 50, .int x1]) [] (zE L, M, N) (some (.int (jb_b2i r.1))) (zE L, r.2, N)) (x1 : Int32) (N : jb_Ml) (s : Int32 × Int32 × Int32 × jb_Mi) {v : Option Value} {σ2 : jb_S} {r : ((Int32 × Int32 × Int32 × jb_Mi) ⊕ (Bool × jb_Mi))} (h : zf_80_H7 f x1 s = some r) (hK : (jb_K (fun s : Int32 × Int32 × Int32 × jb_Mi => jb_V Γ (d + 1) zq_80 7 [some (.ref 50), some (.int x1), some (.int s.1), some (.int s.2.1), some (.int s.2.2.1), none] [] (zE L, s.2.2.2, N) v σ2) (fun r : Bool × jb_Mi => v = some (.int (jb_b2i r.1)) ∧ σ2 = (zE L, r.2, N))) r) : jb_V Γ (d + 1) zq_80 7 [some (.ref 50), some (.int x1), some (.int s.1), some (.int s.2.1), some (.int s.2.2.1), none] [] (zE L, s.2.2.2, N) v σ2 := by
  unfold zf_80_H7 at h
  refine jb_seg 3 (pc' := (if s.2.2.1 < 240 then 15 else 132)) (ls' := [some (.ref 50), some (.int x1), some (.int s.1), some (.int s.2.1), some (.int s.2.2.1), none]) (st' := []) (σ' := (zE L, s.2.2.2, N)) (G := []) rfl trivial ?_
  refine jb_ite (fun c => ?_) (fun c => ?_)
  · rw [if_pos c] at h
    refine jb_seg 2 (pc' := 17) (ls' := [some (.ref 50), some (.int x1), some (.int s.1), some (.int s.2.1), some (.int s.2.2.1), none]) (st' := [(.int x1), (.ref 50)]) (σ' := (zE L, s.2.2.2, N)) (G := []) rfl trivial ?_
    obtain ⟨q1, h1, h⟩ := jb_bd_of h
    refine jb_callV (q' := zq_81) (As := [(.int x1)]) (rest := []) (σ1 := (zE L, q1.2, N)) (v := some (.int (jb_b2i q1.1))) rfl rfl zp_81 rfl (by decide) (jb_cat rfl) (Nat.le_of_ble_eq_true rfl) (Nat.le_of_ble_eq_true rfl) (Or.inl rfl) rfl (hf1 x1 s.2.2.2 N h1) ?_
    refine jb_seg 1 (pc' := (if (jb_b2i q1.1) = 0 then 23 else 25)) (ls' := [some (.ref 50), some (.int x1), some (.int s.1), some (.int s.2.1), some (.int s.2.2.1), none]) (st' := []) (σ' := (zE L, q1.2, N)) (G := []) rfl trivial ?_
    refine jb_ite (fun c => ?_) (fun c => ?_)
    · rw [if_pos c] at h
      refine jb_seg 1 (pc' := 24) (ls' := [some (.ref 50), some (.int x1), some (.int s.1), some (.int s.2.1), some (.int s.2.2.1), none]) (st' := [(.int 0)]) (σ' := (zE L, q1.2, N)) (G := []) rfl trivial ?_
      cases h
      obtain ⟨rfl, rfl⟩ := hK
      exact jb_retz (by decide) rfl rfl
    · rw [if_neg c] at h
      refine jb_seg 3 (pc' := (if s.2.1 = (-1) then 42 else 30)) (ls' := [some (.ref 50), some (.int x1), some (.int s.1), some (.int s.2.1), some (.int s.2.2.1), none]) (st' := []) (σ' := (zE L, q1.2, N)) (G := []) rfl trivial ?_
      refine jb_ite (fun c => ?_) (fun c => ?_)
      · rw [if_pos c] at h
        exact jb_mask [true, true, true, true, true, false] rfl (zg_80_J42 hd f hf0 hf1 hf2 hf3 x1 s.1 s.2.1 s.2.2.1 q1.2 N h hK)
      · rw [if_neg c] at h
        refine jb_seg 4 (pc' := 36) (ls' := [some (.ref 50), some (.int x1), some (.int s.1), some (.int s.2.1), some (.int s.2.2.1), none]) (st' := [(.int 0), (.int s.2.1), (.ref 51)]) (σ' := (zE L, q1.2, N)) (G := []) rfl trivial ?_
        obtain ⟨q4, h4, h⟩ := jb_bd_of h
        refine jb_callV (q' := zq_70) (As := [(.int s.2.1), (.int 0)]) (rest := []) (σ1 := (zE L, q4.2, N)) (v := some (.int q4.1)) rfl rfl zp_70 rfl (by decide) (jb_cat rfl) (Nat.le_of_ble_eq_true rfl) (Nat.le_of_ble_eq_true rfl) (Or.inl rfl) rfl (ze_70 s.2.1 0 q1.2 N h4) ?_
        refine jb_seg 3 (pc' := 42) (ls' := [some (.ref 50), some (.int x1), some (.int s.1), some (.int (-1)), some (.int s.2.2.1), none]) (st' := []) (σ' := (zE L, q4.2, N)) (G := []) rfl trivial ?_
        exact jb_mask [true, true, true, true, true, false] rfl (zg_80_J42 hd f hf0 hf1 hf2 hf3 x1 s.1 (-1) s.2.2.1 q4.2 N h hK)
  · rw [if_neg c] at h
    refine jb_seg 2 (pc' := 134) (ls' := [some (.ref 50), some (.int x1), some (.int s.1), some (.int s.2.1), some (.int s.2.2.1), none]) (st' := [(.int 1), (.ref 50)]) (σ' := (zE L, s.2.2.2, N)) (G := []) rfl trivial ?_
    refine jb_callV (q' := zq_75) (As := [(.int 1)]) (rest := []) (σ1 := (zE L, (zf_75 1 s.2.2.2).2, N)) (v := some (.int (jb_b2i (zf_75 1 s.2.2.2).1))) rfl rfl zp_75 rfl (by decide) (jb_cat rfl) (Nat.le_of_ble_eq_true rfl) (Nat.le_of_ble_eq_true rfl) (Or.inl rfl) rfl (ze_75 1 s.2.2.2 N rfl) ?_
    cases h
    obtain ⟨rfl, rfl⟩ := hK
    exact jb_retz (jb_b2i_or _) rfl rfl
theorem zg_80_H7L {Γ : jb_G} {L : Nat} {d : Nat} (hd : 1 ≤ (d + 1)) (f : Nat → Int32 → jb_Mi → Option (Bool × jb_Mi)) (hf0 : ∀ (x1 : Int32) (M : jb_Mi) (N : jb_Ml) {r : Bool × jb_Mi}, f 0 x1 M = some r → jb_V Γ d zq_80 0 (jb_en 6 [.ref 50, .int x1]) [] (zE L, M, N) (some (.int (jb_b2i r.1))) (zE L, r.2, N)) (hf1 : ∀ (x1 : Int32) (M : jb_Mi) (N : jb_Ml) {r : Bool × jb_Mi}, f 1 x1 M = some r → jb_V Γ d zq_81 0 (jb_en 4 [.ref 50, .int x1]) [] (zE L, M, N) (some (.int (jb_b2i r.1))) (zE L, r.2, N)) (hf2 : ∀ (x1 : Int32) (M : jb_Mi) (N : jb_Ml) {r : Bool × jb_Mi}, f 2 x1 M = some r → jb_V Γ d zq_82 0 (jb_en 6 [.ref 50, .int x1]) [] (zE L, M, N) (some (.int (jb_b2i r.1))) (zE L, r.2, N)) (hf3 : ∀ (x1 : Int32) (M : jb_Mi) (N : jb_Ml) {r : Bool × jb_Mi}, f 3 x1 M = some r → jb_V Γ d zq_83 0 (jb_en 4 [.ref 50, .int x1]) [] (zE L, M, N) (some (.int (jb_b2i r.1))) (zE L, r.2, N)) (x1 : Int32) (N : jb_Ml) {v : Option Value} {σ2 : jb_S} {s : Int32 × Int32 × Int32 × jb_Mi} {r : (Bool × jb_Mi)} (h : jb_lp (zf_80_H7 f x1) s = some r) (hK : (fun r : Bool × jb_Mi => v = some (.int (jb_b2i r.1)) ∧ σ2 = (zE L, r.2, N)) r) : jb_V Γ (d + 1) zq_80 7 [some (.ref 50), some (.int x1), some (.int s.1), some (.int s.2.1), some (.int s.2.2.1), none] [] (zE L, s.2.2.2, N) v σ2 := by
  exact jb_lp_ind (P := fun s => jb_V Γ (d + 1) zq_80 7 [some (.ref 50), some (.int x1), some (.int s.1), some (.int s.2.1), some (.int s.2.2.1), none] [] (zE L, s.2.2.2, N) v σ2) (K := (fun r : Bool × jb_Mi => v = some (.int (jb_b2i r.1)) ∧ σ2 = (zE L, r.2, N))) (fun s r h hk => zg_80_H7 hd f hf0 hf1 hf2 hf3 x1 N s h (by cases r <;> exact hk)) h hK
set_option maxRecDepth 4000 in
theorem zg_80 {Γ : jb_G} {L : Nat} {d : Nat} (hd : 1 ≤ (d + 1)) (f : Nat → Int32 → jb_Mi → Option (Bool × jb_Mi)) (hf0 : ∀ (x1 : Int32) (M : jb_Mi) (N : jb_Ml) {r : Bool × jb_Mi}, f 0 x1 M = some r → jb_V Γ d zq_80 0 (jb_en 6 [.ref 50, .int x1]) [] (zE L, M, N) (some (.int (jb_b2i r.1))) (zE L, r.2, N)) (hf1 : ∀ (x1 : Int32) (M : jb_Mi) (N : jb_Ml) {r : Bool × jb_Mi}, f 1 x1 M = some r → jb_V Γ d zq_81 0 (jb_en 4 [.ref 50, .int x1]) [] (zE L, M, N) (some (.int (jb_b2i r.1))) (zE L, r.2, N)) (hf2 : ∀ (x1 : Int32) (M : jb_Mi) (N : jb_Ml) {r : Bool × jb_Mi}, f 2 x1 M = some r → jb_V Γ d zq_82 0 (jb_en 6 [.ref 50, .int x1]) [] (zE L, M, N) (some (.int (jb_b2i r.1))) (zE L, r.2, N)) (hf3 : ∀ (x1 : Int32) (M : jb_Mi) (N : jb_Ml) {r : Bool × jb_Mi}, f 3 x1 M = some r → jb_V Γ d zq_83 0 (jb_en 4 [.ref 50, .int x1]) [] (zE L, M, N) (some (.int (jb_b2i r.1))) (zE L, r.2, N)) (x1 : Int32) (M : jb_Mi) (N : jb_Ml) {v : Option Value} {σ2 : jb_S} {r : (Bool × jb_Mi)} (h : zf_80 f x1 M = some r) (hK : (fun r : Bool × jb_Mi => v = some (.int (jb_b2i r.1)) ∧ σ2 = (zE L, r.2, N)) r) : jb_V Γ (d + 1) zq_80 0 [some (.ref 50), some (.int x1), none, none, none, none] [] (zE L, M, N) v σ2 := by
  unfold zf_80 at h
  refine jb_seg 6 (pc' := 7) (ls' := [some (.ref 50), some (.int x1), some (.int (-1)), some (.int (-1)), some (.int 0), none]) (st' := []) (σ' := (zE L, M, N)) (G := []) rfl trivial ?_
  exact jb_mask [true, true, true, true, true, false] rfl (zg_80_H7L hd f hf0 hf1 hf2 hf3 x1 N h hK)
theorem ze_80 {Γ : jb_G} {L : Nat} {d : Nat} (hd : 1 ≤ (d + 1)) (f : Nat → Int32 → jb_Mi → Option (Bool × jb_Mi)) (hf0 : ∀ (x1 : Int32) (M : jb_Mi) (N : jb_Ml) {r : Bool × jb_Mi}, f 0 x1 M = some r → jb_V Γ d zq_80 0 (jb_en 6 [.ref 50, .int x1]) [] (zE L, M, N) (some (.int (jb_b2i r.1))) (zE L, r.2, N)) (hf1 : ∀ (x1 : Int32) (M : jb_Mi) (N : jb_Ml) {r : Bool × jb_Mi}, f 1 x1 M = some r → jb_V Γ d zq_81 0 (jb_en 4 [.ref 50, .int x1]) [] (zE L, M, N) (some (.int (jb_b2i r.1))) (zE L, r.2, N)) (hf2 : ∀ (x1 : Int32) (M : jb_Mi) (N : jb_Ml) {r : Bool × jb_Mi}, f 2 x1 M = some r → jb_V Γ d zq_82 0 (jb_en 6 [.ref 50, .int x1]) [] (zE L, M, N) (some (.int (jb_b2i r.1))) (zE L, r.2, N)) (hf3 : ∀ (x1 : Int32) (M : jb_Mi) (N : jb_Ml) {r : Bool × jb_Mi}, f 3 x1 M = some r → jb_V Γ d zq_83 0 (jb_en 4 [.ref 50, .int x1]) [] (zE L, M, N) (some (.int (jb_b2i r.1))) (zE L, r.2, N)) (x1 : Int32) (M : jb_Mi) (N : jb_Ml) {r : (Bool × jb_Mi)} (h : zf_80 f x1 M = some r) : jb_V Γ (d + 1) zq_80 0 (jb_en 6 [(.ref 50), (.int x1)]) [] (zE L, M, N) (some (.int (jb_b2i r.1))) (zE L, r.2, N) := zg_80 hd f hf0 hf1 hf2 hf3 x1 M N h ⟨rfl, rfl⟩
-- X6_readTest
noncomputable def zf_83_J135 (f : Nat → Int32 → jb_Mi → Option (Bool × jb_Mi)) (x1 : Int32) (x3 : Int32) (M : jb_Mi) : Option (Bool × jb_Mi) :=
  (f 0 x1 (jb_up M 50 2 ((M 50 2) + 1))).bind fun q8 => if (jb_b2i q8.1) = 0 then some (false, q8.2) else (zf_70 x3 0 q8.2).bind fun q9 => some (true, q9.2)
noncomputable def zf_83 (f : Nat → Int32 → jb_Mi → Option (Bool × jb_Mi)) (x1 : Int32) (M : jb_Mi) : Option (Bool × jb_Mi) :=
  (zf_30 (M 50 2) M).bind fun q1 => if q1 = 33 then if (jb_b2i (zf_78 x1 M).1) = 0 then some (false, (zf_78 x1 M).2) else (f 3 (x1 + 1) ((zf_78 x1 M).2)).bind fun q2 => if (jb_b2i q2.1) = 0 then some (false, q2.2) else (zf_70 3 0 q2.2).bind fun q3 => some (true, q3.2) else if q1 = 40 then if (jb_b2i (zf_78 x1 M).1) = 0 then some (false, (zf_78 x1 M).2) else (f 2 (x1 + 1) ((zf_78 x1 M).2)).bind fun q4 => if (jb_b2i q4.1) = 0 then some (false, q4.2) else (zf_79 41 q4.2).bind fun q5 => if (jb_b2i q5.1) = 0 then some (false, q5.2) else some (true, q5.2) else (f 0 x1 M).bind fun q6 => if (jb_b2i q6.1) = 0 then some (false, q6.2) else (zf_30 (q6.2 50 2) q6.2).bind fun q7 => if q7 = 60 then zf_83_J135 f x1 q7 q6.2 else if q7 = 62 then zf_83_J135 f x1 q7 q6.2 else if q7 = 61 then zf_83_J135 f x1 q7 q6.2 else some ((zf_75 1 q6.2).1, (zf_75 1 q6.2).2)
set_option maxRecDepth 4000 in
theorem zg_83_J135 {Γ : jb_G} {L : Nat} {d : Nat} (hd : 2 ≤ (d + 1)) (f : Nat → Int32 → jb_Mi → Option (Bool × jb_Mi)) (hf0 : ∀ (x1 : Int32) (M : jb_Mi) (N : jb_Ml) {r : Bool × jb_Mi}, f 0 x1 M = some r → jb_V Γ d zq_80 0 (jb_en 6 [.ref 50, .int x1]) [] (zE L, M, N) (some (.int (jb_b2i r.1))) (zE L, r.2, N)) (hf1 : ∀ (x1 : Int32) (M : jb_Mi) (N : jb_Ml) {r : Bool × jb_Mi}, f 1 x1 M = some r → jb_V Γ d zq_81 0 (jb_en 4 [.ref 50, .int x1]) [] (zE L, M, N) (some (.int (jb_b2i r.1))) (zE L, r.2, N)) (hf2 : ∀ (x1 : Int32) (M : jb_Mi) (N : jb_Ml) {r : Bool × jb_Mi}, f 2 x1 M = some r → jb_V Γ d zq_82 0 (jb_en 6 [.ref 50, .int x1]) [] (zE L, M, N) (some (.int (jb_b2i r.1))) (zE L, r.2, N)) (hf3 : ∀ (x1 : Int32) (M : jb_Mi) (N : jb_Ml) {r : Bool × jb_Mi}, f 3 x1 M = some r → jb_V Γ d zq_83 0 (jb_en 4 [.ref 50, .int x1]) [] (zE L, M, N) (some (.int (jb_b2i r.1))) (zE L, r.2, N)) (x1 : Int32) (x3 : Int32) (M : jb_Mi) (N : jb_Ml) {v : Option Value} {σ2 : jb_S} {r : (Bool × jb_Mi)} (h : zf_83_J135 f x1 x3 M = some r) (hK : (fun r : Bool × jb_Mi => v = some (.int (jb_b2i r.1)) ∧ σ2 = (zE L, r.2, N)) r) : jb_V Γ (d + 1) zq_83 135 [some (.ref 50), some (.int x1), none, some (.int x3)] [] (zE L, M, N) v σ2 := by
  unfold zf_83_J135 at h
  refine jb_seg 8 (pc' := 147) (ls' := [some (.ref 50), some (.int x1), none, some (.int x3)]) (st' := [(.int x1), (.ref 50)]) (σ' := (zE L, (jb_up M 50 2 ((M 50 2) + 1)), N)) (G := []) rfl trivial ?_
  obtain ⟨q8, h8, h⟩ := jb_bd_of h
  refine jb_callV (q' := zq_80) (As := [(.int x1)]) (rest := []) (σ1 := (zE L, q8.2, N)) (v := some (.int (jb_b2i q8.1))) rfl rfl zp_80 rfl (by decide) (jb_cat rfl) (Nat.le_of_ble_eq_true rfl) (Nat.le_of_ble_eq_true rfl) (Or.inl rfl) rfl (hf0 x1 (jb_up M 50 2 ((M 50 2) + 1)) N h8) ?_
  refine jb_seg 1 (pc' := (if (jb_b2i q8.1) = 0 then 153 else 155)) (ls' := [some (.ref 50), some (.int x1), none, some (.int x3)]) (st' := []) (σ' := (zE L, q8.2, N)) (G := []) rfl trivial ?_
  refine jb_ite (fun c => ?_) (fun c => ?_)
  · rw [if_pos c] at h
    refine jb_seg 1 (pc' := 154) (ls' := [some (.ref 50), some (.int x1), none, some (.int x3)]) (st' := [(.int 0)]) (σ' := (zE L, q8.2, N)) (G := []) rfl trivial ?_
    cases h
    obtain ⟨rfl, rfl⟩ := hK
    exact jb_retz (by decide) rfl rfl
  · rw [if_neg c] at h
    refine jb_seg 4 (pc' := 161) (ls' := [some (.ref 50), some (.int x1), none, some (.int x3)]) (st' := [(.int 0), (.int x3), (.ref 51)]) (σ' := (zE L, q8.2, N)) (G := []) rfl trivial ?_
    obtain ⟨q9, h9, h⟩ := jb_bd_of h
    refine jb_callV (q' := zq_70) (As := [(.int x3), (.int 0)]) (rest := []) (σ1 := (zE L, q9.2, N)) (v := some (.int q9.1)) rfl rfl zp_70 rfl (by decide) (jb_cat rfl) (Nat.le_of_ble_eq_true rfl) (Nat.le_of_ble_eq_true rfl) (Or.inl rfl) rfl (ze_70 x3 0 q8.2 N h9) ?_
    refine jb_seg 2 (pc' := 166) (ls' := [some (.ref 50), some (.int x1), none, some (.int x3)]) (st' := [(.int 1)]) (σ' := (zE L, q9.2, N)) (G := []) rfl trivial ?_
    cases h
    obtain ⟨rfl, rfl⟩ := hK
    exact jb_retz (by decide) rfl rfl
set_option maxRecDepth 4000 in
theorem zg_83 {Γ : jb_G} {L : Nat} {d : Nat} (hd : 2 ≤ (d + 1)) (f : Nat → Int32 → jb_Mi → Option (Bool × jb_Mi)) (hf0 : ∀ (x1 : Int32) (M : jb_Mi) (N : jb_Ml) {r : Bool × jb_Mi}, f 0 x1 M = some r → jb_V Γ d zq_80 0 (jb_en 6 [.ref 50, .int x1]) [] (zE L, M, N) (some (.int (jb_b2i r.1))) (zE L, r.2, N)) (hf1 : ∀ (x1 : Int32) (M : jb_Mi) (N : jb_Ml) {r : Bool × jb_Mi}, f 1 x1 M = some r → jb_V Γ d zq_81 0 (jb_en 4 [.ref 50, .int x1]) [] (zE L, M, N) (some (.int (jb_b2i r.1))) (zE L, r.2, N)) (hf2 : ∀ (x1 : Int32) (M : jb_Mi) (N : jb_Ml) {r : Bool × jb_Mi}, f 2 x1 M = some r → jb_V Γ d zq_82 0 (jb_en 6 [.ref 50, .int x1]) [] (zE L, M, N) (some (.int (jb_b2i r.1))) (zE L, r.2, N)) (hf3 : ∀ (x1 : Int32) (M : jb_Mi) (N : jb_Ml) {r : Bool × jb_Mi}, f 3 x1 M = some r → jb_V Γ d zq_83 0 (jb_en 4 [.ref 50, .int x1]) [] (zE L, M, N) (some (.int (jb_b2i r.1))) (zE L, r.2, N)) (x1 : Int32) (M : jb_Mi) (N : jb_Ml) {v : Option Value} {σ2 : jb_S} {r : (Bool × jb_Mi)} (h : zf_83 f x1 M = some r) (hK : (fun r : Bool × jb_Mi => v = some (.int (jb_b2i r.1)) ∧ σ2 = (zE L, r.2, N)) r) : jb_V Γ (d + 1) zq_83 0 [some (.ref 50), some (.int x1), none, none] [] (zE L, M, N) v σ2 := by
  unfold zf_83 at h
  refine jb_seg 4 (pc' := 8) (ls' := [some (.ref 50), some (.int x1), none, none]) (st' := [(.int (M 50 2)), (.ref 2)]) (σ' := (zE L, M, N)) (G := []) rfl trivial ?_
  obtain ⟨q1, h1, h⟩ := jb_bd_of h
  refine jb_callV (q' := zq_30) (As := [(.int (M 50 2))]) (rest := []) (σ1 := (zE L, M, N)) (v := some (.int q1)) rfl rfl zp_30 rfl (by decide) (jb_cat rfl) (Nat.le_of_ble_eq_true rfl) (Nat.le_of_ble_eq_true rfl) (Or.inl rfl) rfl (ze_30 (M 50 2) M N h1) ?_
  refine jb_seg 4 (pc' := (if q1 = 33 then 18 else 50)) (ls' := [some (.ref 50), some (.int x1), some (.int q1), none]) (st' := []) (σ' := (zE L, M, N)) (G := []) rfl trivial ?_
  refine jb_ite (fun c => ?_) (fun c => ?_)
  · rw [if_pos c] at h
    refine jb_seg 2 (pc' := 20) (ls' := [some (.ref 50), some (.int x1), some (.int q1), none]) (st' := [(.int x1), (.ref 50)]) (σ' := (zE L, M, N)) (G := []) rfl trivial ?_
    refine jb_callV (q' := zq_78) (As := [(.int x1)]) (rest := []) (σ1 := (zE L, (zf_78 x1 M).2, N)) (v := some (.int (jb_b2i (zf_78 x1 M).1))) rfl rfl zp_78 rfl (by decide) (jb_cat rfl) (Nat.le_of_ble_eq_true rfl) (Nat.le_of_ble_eq_true rfl) (Or.inl rfl) rfl (ze_78 (by omega) x1 M N rfl) ?_
    refine jb_seg 1 (pc' := (if (jb_b2i (zf_78 x1 M).1) = 0 then 36 else 26)) (ls' := [some (.ref 50), some (.int x1), some (.int q1), none]) (st' := []) (σ' := (zE L, (zf_78 x1 M).2, N)) (G := []) rfl trivial ?_
    refine jb_ite (fun c => ?_) (fun c => ?_)
    · rw [if_pos c] at h
      refine jb_seg 1 (pc' := 37) (ls' := [some (.ref 50), some (.int x1), some (.int q1), none]) (st' := [(.int 0)]) (σ' := (zE L, (zf_78 x1 M).2, N)) (G := []) rfl trivial ?_
      cases h
      obtain ⟨rfl, rfl⟩ := hK
      exact jb_retz (by decide) rfl rfl
    · rw [if_neg c] at h
      refine jb_seg 4 (pc' := 30) (ls' := [some (.ref 50), some (.int x1), some (.int q1), none]) (st' := [(.int (x1 + 1)), (.ref 50)]) (σ' := (zE L, (zf_78 x1 M).2, N)) (G := []) rfl trivial ?_
      obtain ⟨q2, h2, h⟩ := jb_bd_of h
      refine jb_callV (q' := zq_83) (As := [(.int (x1 + 1))]) (rest := []) (σ1 := (zE L, q2.2, N)) (v := some (.int (jb_b2i q2.1))) rfl rfl zp_83 rfl (by decide) (jb_cat rfl) (Nat.le_of_ble_eq_true rfl) (Nat.le_of_ble_eq_true rfl) (Or.inl rfl) rfl (hf3 (x1 + 1) ((zf_78 x1 M).2) N h2) ?_
      refine jb_seg 1 (pc' := (if (jb_b2i q2.1) = 0 then 36 else 38)) (ls' := [some (.ref 50), some (.int x1), some (.int q1), none]) (st' := []) (σ' := (zE L, q2.2, N)) (G := []) rfl trivial ?_
      refine jb_ite (fun c => ?_) (fun c => ?_)
      · rw [if_pos c] at h
        refine jb_seg 1 (pc' := 37) (ls' := [some (.ref 50), some (.int x1), some (.int q1), none]) (st' := [(.int 0)]) (σ' := (zE L, q2.2, N)) (G := []) rfl trivial ?_
        cases h
        obtain ⟨rfl, rfl⟩ := hK
        exact jb_retz (by decide) rfl rfl
      · rw [if_neg c] at h
        refine jb_seg 4 (pc' := 44) (ls' := [some (.ref 50), some (.int x1), some (.int q1), none]) (st' := [(.int 0), (.int 3), (.ref 51)]) (σ' := (zE L, q2.2, N)) (G := []) rfl trivial ?_
        obtain ⟨q3, h3, h⟩ := jb_bd_of h
        refine jb_callV (q' := zq_70) (As := [(.int 3), (.int 0)]) (rest := []) (σ1 := (zE L, q3.2, N)) (v := some (.int q3.1)) rfl rfl zp_70 rfl (by decide) (jb_cat rfl) (Nat.le_of_ble_eq_true rfl) (Nat.le_of_ble_eq_true rfl) (Or.inl rfl) rfl (ze_70 3 0 q2.2 N h3) ?_
        refine jb_seg 2 (pc' := 49) (ls' := [some (.ref 50), some (.int x1), some (.int q1), none]) (st' := [(.int 1)]) (σ' := (zE L, q3.2, N)) (G := []) rfl trivial ?_
        cases h
        obtain ⟨rfl, rfl⟩ := hK
        exact jb_retz (by decide) rfl rfl
  · rw [if_neg c] at h
    refine jb_seg 3 (pc' := (if q1 = 40 then 56 else 89)) (ls' := [some (.ref 50), some (.int x1), some (.int q1), none]) (st' := []) (σ' := (zE L, M, N)) (G := []) rfl trivial ?_
    refine jb_ite (fun c => ?_) (fun c => ?_)
    · rw [if_pos c] at h
      refine jb_seg 2 (pc' := 58) (ls' := [some (.ref 50), some (.int x1), some (.int q1), none]) (st' := [(.int x1), (.ref 50)]) (σ' := (zE L, M, N)) (G := []) rfl trivial ?_
      refine jb_callV (q' := zq_78) (As := [(.int x1)]) (rest := []) (σ1 := (zE L, (zf_78 x1 M).2, N)) (v := some (.int (jb_b2i (zf_78 x1 M).1))) rfl rfl zp_78 rfl (by decide) (jb_cat rfl) (Nat.le_of_ble_eq_true rfl) (Nat.le_of_ble_eq_true rfl) (Or.inl rfl) rfl (ze_78 (by omega) x1 M N rfl) ?_
      refine jb_seg 1 (pc' := (if (jb_b2i (zf_78 x1 M).1) = 0 then 87 else 64)) (ls' := [some (.ref 50), some (.int x1), some (.int q1), none]) (st' := []) (σ' := (zE L, (zf_78 x1 M).2, N)) (G := []) rfl trivial ?_
      refine jb_ite (fun c => ?_) (fun c => ?_)
      · rw [if_pos c] at h
        refine jb_seg 1 (pc' := 88) (ls' := [some (.ref 50), some (.int x1), some (.int q1), none]) (st' := [(.int 0)]) (σ' := (zE L, (zf_78 x1 M).2, N)) (G := []) rfl trivial ?_
        cases h
        obtain ⟨rfl, rfl⟩ := hK
        exact jb_retz (by decide) rfl rfl
      · rw [if_neg c] at h
        refine jb_seg 4 (pc' := 68) (ls' := [some (.ref 50), some (.int x1), some (.int q1), none]) (st' := [(.int (x1 + 1)), (.ref 50)]) (σ' := (zE L, (zf_78 x1 M).2, N)) (G := []) rfl trivial ?_
        obtain ⟨q4, h4, h⟩ := jb_bd_of h
        refine jb_callV (q' := zq_82) (As := [(.int (x1 + 1))]) (rest := []) (σ1 := (zE L, q4.2, N)) (v := some (.int (jb_b2i q4.1))) rfl rfl zp_82 rfl (by decide) (jb_cat rfl) (Nat.le_of_ble_eq_true rfl) (Nat.le_of_ble_eq_true rfl) (Or.inl rfl) rfl (hf2 (x1 + 1) ((zf_78 x1 M).2) N h4) ?_
        refine jb_seg 1 (pc' := (if (jb_b2i q4.1) = 0 then 87 else 74)) (ls' := [some (.ref 50), some (.int x1), some (.int q1), none]) (st' := []) (σ' := (zE L, q4.2, N)) (G := []) rfl trivial ?_
        refine jb_ite (fun c => ?_) (fun c => ?_)
        · rw [if_pos c] at h
          refine jb_seg 1 (pc' := 88) (ls' := [some (.ref 50), some (.int x1), some (.int q1), none]) (st' := [(.int 0)]) (σ' := (zE L, q4.2, N)) (G := []) rfl trivial ?_
          cases h
          obtain ⟨rfl, rfl⟩ := hK
          exact jb_retz (by decide) rfl rfl
        · rw [if_neg c] at h
          refine jb_seg 2 (pc' := 77) (ls' := [some (.ref 50), some (.int x1), some (.int q1), none]) (st' := [(.int 41), (.ref 50)]) (σ' := (zE L, q4.2, N)) (G := []) rfl trivial ?_
          obtain ⟨q5, h5, h⟩ := jb_bd_of h
          refine jb_callV (q' := zq_79) (As := [(.int 41)]) (rest := []) (σ1 := (zE L, q5.2, N)) (v := some (.int (jb_b2i q5.1))) rfl rfl zp_79 rfl (by decide) (jb_cat rfl) (Nat.le_of_ble_eq_true rfl) (Nat.le_of_ble_eq_true rfl) (Or.inl rfl) rfl (ze_79 (by omega) 41 q4.2 N h5) ?_
          refine jb_seg 1 (pc' := (if (jb_b2i q5.1) = 0 then 87 else 83)) (ls' := [some (.ref 50), some (.int x1), some (.int q1), none]) (st' := []) (σ' := (zE L, q5.2, N)) (G := []) rfl trivial ?_
          refine jb_ite (fun c => ?_) (fun c => ?_)
          · rw [if_pos c] at h
            refine jb_seg 1 (pc' := 88) (ls' := [some (.ref 50), some (.int x1), some (.int q1), none]) (st' := [(.int 0)]) (σ' := (zE L, q5.2, N)) (G := []) rfl trivial ?_
            cases h
            obtain ⟨rfl, rfl⟩ := hK
            exact jb_retz (by decide) rfl rfl
          · rw [if_neg c] at h
            refine jb_seg 2 (pc' := 88) (ls' := [some (.ref 50), some (.int x1), some (.int q1), none]) (st' := [(.int 1)]) (σ' := (zE L, q5.2, N)) (G := []) rfl trivial ?_
            cases h
            obtain ⟨rfl, rfl⟩ := hK
            exact jb_retz (by decide) rfl rfl
    · rw [if_neg c] at h
      refine jb_seg 2 (pc' := 91) (ls' := [some (.ref 50), some (.int x1), some (.int q1), none]) (st' := [(.int x1), (.ref 50)]) (σ' := (zE L, M, N)) (G := []) rfl trivial ?_
      obtain ⟨q6, h6, h⟩ := jb_bd_of h
      refine jb_callV (q' := zq_80) (As := [(.int x1)]) (rest := []) (σ1 := (zE L, q6.2, N)) (v := some (.int (jb_b2i q6.1))) rfl rfl zp_80 rfl (by decide) (jb_cat rfl) (Nat.le_of_ble_eq_true rfl) (Nat.le_of_ble_eq_true rfl) (Or.inl rfl) rfl (hf0 x1 M N h6) ?_
      refine jb_seg 1 (pc' := (if (jb_b2i q6.1) = 0 then 97 else 99)) (ls' := [some (.ref 50), some (.int x1), some (.int q1), none]) (st' := []) (σ' := (zE L, q6.2, N)) (G := []) rfl trivial ?_
      refine jb_ite (fun c => ?_) (fun c => ?_)
      · rw [if_pos c] at h
        refine jb_seg 1 (pc' := 98) (ls' := [some (.ref 50), some (.int x1), some (.int q1), none]) (st' := [(.int 0)]) (σ' := (zE L, q6.2, N)) (G := []) rfl trivial ?_
        cases h
        obtain ⟨rfl, rfl⟩ := hK
        exact jb_retz (by decide) rfl rfl
      · rw [if_neg c] at h
        refine jb_seg 4 (pc' := 107) (ls' := [some (.ref 50), some (.int x1), some (.int q1), none]) (st' := [(.int (q6.2 50 2)), (.ref 2)]) (σ' := (zE L, q6.2, N)) (G := []) rfl trivial ?_
        obtain ⟨q7, h7, h⟩ := jb_bd_of h
        refine jb_callV (q' := zq_30) (As := [(.int (q6.2 50 2))]) (rest := []) (σ1 := (zE L, q6.2, N)) (v := some (.int q7)) rfl rfl zp_30 rfl (by decide) (jb_cat rfl) (Nat.le_of_ble_eq_true rfl) (Nat.le_of_ble_eq_true rfl) (Or.inl rfl) rfl (ze_30 (q6.2 50 2) q6.2 N h7) ?_
        refine jb_seg 4 (pc' := (if q7 = 60 then 135 else 117)) (ls' := [some (.ref 50), some (.int x1), some (.int q1), some (.int q7)]) (st' := []) (σ' := (zE L, q6.2, N)) (G := []) rfl trivial ?_
        refine jb_ite (fun c => ?_) (fun c => ?_)
        · rw [if_pos c] at h
          exact jb_mask [true, true, false, true] rfl (zg_83_J135 hd f hf0 hf1 hf2 hf3 x1 q7 q6.2 N h hK)
        · rw [if_neg c] at h
          refine jb_seg 3 (pc' := (if q7 = 62 then 135 else 123)) (ls' := [some (.ref 50), some (.int x1), some (.int q1), some (.int q7)]) (st' := []) (σ' := (zE L, q6.2, N)) (G := []) rfl trivial ?_
          refine jb_ite (fun c => ?_) (fun c => ?_)
          · rw [if_pos c] at h
            exact jb_mask [true, true, false, true] rfl (zg_83_J135 hd f hf0 hf1 hf2 hf3 x1 q7 q6.2 N h hK)
          · rw [if_neg c] at h
            refine jb_seg 3 (pc' := (if q7 = 61 then 135 else 129)) (ls' := [some (.ref 50), some (.int x1), some (.int q1), some (.int q7)]) (st' := []) (σ' := (zE L, q6.2, N)) (G := []) rfl trivial ?_
            refine jb_ite (fun c => ?_) (fun c => ?_)
            · rw [if_pos c] at h
              exact jb_mask [true, true, false, true] rfl (zg_83_J135 hd f hf0 hf1 hf2 hf3 x1 q7 q6.2 N h hK)
            · rw [if_neg c] at h
              refine jb_seg 2 (pc' := 131) (ls' := [some (.ref 50), some (.int x1), some (.int q1), some (.int q7)]) (st' := [(.int 1), (.ref 50)]) (σ' := (zE L, q6.2, N)) (G := []) rfl trivial ?_
              refine jb_callV (q' := zq_75) (As := [(.int 1)]) (rest := []) (σ1 := (zE L, (zf_75 1 q6.2).2, N)) (v := some (.int (jb_b2i (zf_75 1 q6.2).1))) rfl rfl zp_75 rfl (by decide) (jb_cat rfl) (Nat.le_of_ble_eq_true rfl) (Nat.le_of_ble_eq_true rfl) (Or.inl rfl) rfl (ze_75 1 q6.2 N rfl) ?_
              cases h
              obtain ⟨rfl, rfl⟩ := hK
              exact jb_retz (jb_b2i_or _) rfl rfl
theorem ze_83 {Γ : jb_G} {L : Nat} {d : Nat} (hd : 2 ≤ (d + 1)) (f : Nat → Int32 → jb_Mi → Option (Bool × jb_Mi)) (hf0 : ∀ (x1 : Int32) (M : jb_Mi) (N : jb_Ml) {r : Bool × jb_Mi}, f 0 x1 M = some r → jb_V Γ d zq_80 0 (jb_en 6 [.ref 50, .int x1]) [] (zE L, M, N) (some (.int (jb_b2i r.1))) (zE L, r.2, N)) (hf1 : ∀ (x1 : Int32) (M : jb_Mi) (N : jb_Ml) {r : Bool × jb_Mi}, f 1 x1 M = some r → jb_V Γ d zq_81 0 (jb_en 4 [.ref 50, .int x1]) [] (zE L, M, N) (some (.int (jb_b2i r.1))) (zE L, r.2, N)) (hf2 : ∀ (x1 : Int32) (M : jb_Mi) (N : jb_Ml) {r : Bool × jb_Mi}, f 2 x1 M = some r → jb_V Γ d zq_82 0 (jb_en 6 [.ref 50, .int x1]) [] (zE L, M, N) (some (.int (jb_b2i r.1))) (zE L, r.2, N)) (hf3 : ∀ (x1 : Int32) (M : jb_Mi) (N : jb_Ml) {r : Bool × jb_Mi}, f 3 x1 M = some r → jb_V Γ d zq_83 0 (jb_en 4 [.ref 50, .int x1]) [] (zE L, M, N) (some (.int (jb_b2i r.1))) (zE L, r.2, N)) (x1 : Int32) (M : jb_Mi) (N : jb_Ml) {r : (Bool × jb_Mi)} (h : zf_83 f x1 M = some r) : jb_V Γ (d + 1) zq_83 0 (jb_en 4 [(.ref 50), (.int x1)]) [] (zE L, M, N) (some (.int (jb_b2i r.1))) (zE L, r.2, N) := zg_83 hd f hf0 hf1 hf2 hf3 x1 M N h ⟨rfl, rfl⟩
