-- X8_canEnd
noncomputable def zf_97 (M : jb_Mi) : Option (Bool) :=
  if 0 < (M 34 7) then if 2 < (M 34 7) then some false else jb_gd ((M 34 7) - 1) 2 (if (M 40 (((M 34 7) - 1)).toNatClampNeg) < (M 34 3) then some true else some false) else some false
set_option maxRecDepth 4000 in
theorem zg_97 {Γ : jb_G} {L : Nat} {d : Nat} (M : jb_Mi) (N : jb_Ml) {v : Option Value} {σ2 : jb_S} {r : (Bool)} (h : zf_97 M = some r) (hK : (fun r : Bool => v = some (.int (jb_b2i r)) ∧ σ2 = (zE L, M, N)) r) : jb_V Γ d zq_97 0 [some (.ref 34)] [] (zE L, M, N) v σ2 := by
  unfold zf_97 at h
  refine jb_seg 3 (pc' := (if 0 < (M 34 7) then 7 else 37)) (ls' := [some (.ref 34)]) (st' := []) (σ' := (zE L, M, N)) (G := []) rfl trivial ?_
  refine jb_ite (fun c => ?_) (fun c => ?_)
  · rw [if_pos c] at h
    refine jb_seg 4 (pc' := (if 2 < (M 34 7) then 37 else 15)) (ls' := [some (.ref 34)]) (st' := []) (σ' := (zE L, M, N)) (G := []) rfl trivial ?_
    refine jb_ite (fun c => ?_) (fun c => ?_)
    · rw [if_pos c] at h
      refine jb_seg 1 (pc' := 38) (ls' := [some (.ref 34)]) (st' := [(.int 0)]) (σ' := (zE L, M, N)) (G := []) rfl trivial ?_
      cases h
      obtain ⟨rfl, rfl⟩ := hK
      exact jb_retz (by decide) rfl rfl
    · rw [if_neg c] at h
      obtain ⟨g1, h⟩ := jb_gd_of h
      refine jb_seg 10 (pc' := (if (M 40 (((M 34 7) - 1)).toNatClampNeg) < (M 34 3) then 33 else 37)) (ls' := [some (.ref 34)]) (st' := []) (σ' := (zE L, M, N)) (G := [vp_in ((M 34 7) - 1) 2]) rfl g1 ?_
      refine jb_ite (fun c => ?_) (fun c => ?_)
      · rw [if_pos c] at h
        refine jb_seg 2 (pc' := 38) (ls' := [some (.ref 34)]) (st' := [(.int 1)]) (σ' := (zE L, M, N)) (G := []) rfl trivial ?_
        cases h
        obtain ⟨rfl, rfl⟩ := hK
        exact jb_retz (by decide) rfl rfl
      · rw [if_neg c] at h
        refine jb_seg 1 (pc' := 38) (ls' := [some (.ref 34)]) (st' := [(.int 0)]) (σ' := (zE L, M, N)) (G := []) rfl trivial ?_
        cases h
        obtain ⟨rfl, rfl⟩ := hK
        exact jb_retz (by decide) rfl rfl
  · rw [if_neg c] at h
    refine jb_seg 1 (pc' := 38) (ls' := [some (.ref 34)]) (st' := [(.int 0)]) (σ' := (zE L, M, N)) (G := []) rfl trivial ?_
    cases h
    obtain ⟨rfl, rfl⟩ := hK
    exact jb_retz (by decide) rfl rfl
theorem ze_97 {Γ : jb_G} {L : Nat} {d : Nat} (M : jb_Mi) (N : jb_Ml) {r : (Bool)} (h : zf_97 M = some r) : jb_V Γ d zq_97 0 (jb_en 1 [(.ref 34)]) [] (zE L, M, N) (some (.int (jb_b2i r))) (zE L, M, N) := zg_97 M N h ⟨rfl, rfl⟩
-- X8_repeat
noncomputable def zf_98_H35 (x1 : Int32) (x3 : Int32) (s : Int32 × jb_Mi) : Option ((Int32 × jb_Mi) ⊕ (Bool × jb_Mi)) :=
  if s.1 < x3 then jb_gd (x1 + s.1) 48 (jb_gd (s.2 34 3) 48 (some (.inl ((s.1 + 1), (jb_up (jb_up s.2 37 ((s.2 34 3)).toNatClampNeg (s.2 37 ((x1 + s.1)).toNatClampNeg)) 34 3 (((jb_up s.2 37 ((s.2 34 3)).toNatClampNeg (s.2 37 ((x1 + s.1)).toNatClampNeg)) 34 3) + 1)))))) else some (.inr (true, s.2))
noncomputable def zf_98 (x1 : Int32) (x2 : Int32) (M : jb_Mi) : Option (Bool × jb_Mi) :=
  if x1 < 0 then some (false, M) else if (((M 34 3) - x1) * (x2 - 1)) < 0 then some (false, M) else if 48 < ((M 34 3) + (((M 34 3) - x1) * (x2 - 1))) then some (false, M) else jb_lp (zf_98_H35 x1 (((M 34 3) - x1) * (x2 - 1))) (0, M)
set_option maxRecDepth 4000 in
theorem zg_98_H35 {Γ : jb_G} {L : Nat} {d : Nat} (x1 : Int32) (x3 : Int32) (N : jb_Ml) (s : Int32 × jb_Mi) {v : Option Value} {σ2 : jb_S} {r : ((Int32 × jb_Mi) ⊕ (Bool × jb_Mi))} (h : zf_98_H35 x1 x3 s = some r) (hK : (jb_K (fun s : Int32 × jb_Mi => jb_V Γ d zq_98 35 [some (.ref 34), some (.int x1), none, some (.int x3), some (.int s.1)] [] (zE L, s.2, N) v σ2) (fun r : Bool × jb_Mi => v = some (.int (jb_b2i r.1)) ∧ σ2 = (zE L, r.2, N))) r) : jb_V Γ d zq_98 35 [some (.ref 34), some (.int x1), none, some (.int x3), some (.int s.1)] [] (zE L, s.2, N) v σ2 := by
  unfold zf_98_H35 at h
  refine jb_seg 3 (pc' := (if s.1 < x3 then 41 else 75)) (ls' := [some (.ref 34), some (.int x1), none, some (.int x3), some (.int s.1)]) (st' := []) (σ' := (zE L, s.2, N)) (G := []) rfl trivial ?_
  refine jb_ite (fun c => ?_) (fun c => ?_)
  · rw [if_pos c] at h
    obtain ⟨g1, h⟩ := jb_gd_of h
    obtain ⟨g2, h⟩ := jb_gd_of h
    refine jb_seg 19 (pc' := 35) (ls' := [some (.ref 34), some (.int x1), none, some (.int x3), some (.int (s.1 + 1))]) (st' := []) (σ' := (zE L, (jb_up (jb_up s.2 37 ((s.2 34 3)).toNatClampNeg (s.2 37 ((x1 + s.1)).toNatClampNeg)) 34 3 (((jb_up s.2 37 ((s.2 34 3)).toNatClampNeg (s.2 37 ((x1 + s.1)).toNatClampNeg)) 34 3) + 1)), N)) (G := [vp_in (x1 + s.1) 48, vp_in (s.2 34 3) 48]) rfl ⟨g1, g2⟩ ?_
    cases h
    exact jb_mask [true, true, false, true, true] rfl hK
  · rw [if_neg c] at h
    refine jb_seg 1 (pc' := 76) (ls' := [some (.ref 34), some (.int x1), none, some (.int x3), some (.int s.1)]) (st' := [(.int 1)]) (σ' := (zE L, s.2, N)) (G := []) rfl trivial ?_
    cases h
    obtain ⟨rfl, rfl⟩ := hK
    exact jb_retz (by decide) rfl rfl
theorem zg_98_H35L {Γ : jb_G} {L : Nat} {d : Nat} (x1 : Int32) (x3 : Int32) (N : jb_Ml) {v : Option Value} {σ2 : jb_S} {s : Int32 × jb_Mi} {r : (Bool × jb_Mi)} (h : jb_lp (zf_98_H35 x1 x3) s = some r) (hK : (fun r : Bool × jb_Mi => v = some (.int (jb_b2i r.1)) ∧ σ2 = (zE L, r.2, N)) r) : jb_V Γ d zq_98 35 [some (.ref 34), some (.int x1), none, some (.int x3), some (.int s.1)] [] (zE L, s.2, N) v σ2 := by
  exact jb_lp_ind (P := fun s => jb_V Γ d zq_98 35 [some (.ref 34), some (.int x1), none, some (.int x3), some (.int s.1)] [] (zE L, s.2, N) v σ2) (K := (fun r : Bool × jb_Mi => v = some (.int (jb_b2i r.1)) ∧ σ2 = (zE L, r.2, N))) (fun s r h hk => zg_98_H35 x1 x3 N s h (by cases r <;> exact hk)) h hK
set_option maxRecDepth 4000 in
theorem zg_98 {Γ : jb_G} {L : Nat} {d : Nat} (x1 : Int32) (x2 : Int32) (M : jb_Mi) (N : jb_Ml) {v : Option Value} {σ2 : jb_S} {r : (Bool × jb_Mi)} (h : zf_98 x1 x2 M = some r) (hK : (fun r : Bool × jb_Mi => v = some (.int (jb_b2i r.1)) ∧ σ2 = (zE L, r.2, N)) r) : jb_V Γ d zq_98 0 [some (.ref 34), some (.int x1), some (.int x2), none, none] [] (zE L, M, N) v σ2 := by
  unfold zf_98 at h
  refine jb_seg 11 (pc' := (if x1 < 0 then 30 else 15)) (ls' := [some (.ref 34), some (.int x1), some (.int x2), some (.int (((M 34 3) - x1) * (x2 - 1))), none]) (st' := []) (σ' := (zE L, M, N)) (G := []) rfl trivial ?_
  refine jb_ite (fun c => ?_) (fun c => ?_)
  · rw [if_pos c] at h
    refine jb_seg 1 (pc' := 31) (ls' := [some (.ref 34), some (.int x1), some (.int x2), some (.int (((M 34 3) - x1) * (x2 - 1))), none]) (st' := [(.int 0)]) (σ' := (zE L, M, N)) (G := []) rfl trivial ?_
    cases h
    obtain ⟨rfl, rfl⟩ := hK
    exact jb_retz (by decide) rfl rfl
  · rw [if_neg c] at h
    refine jb_seg 2 (pc' := (if (((M 34 3) - x1) * (x2 - 1)) < 0 then 30 else 19)) (ls' := [some (.ref 34), some (.int x1), some (.int x2), some (.int (((M 34 3) - x1) * (x2 - 1))), none]) (st' := []) (σ' := (zE L, M, N)) (G := []) rfl trivial ?_
    refine jb_ite (fun c => ?_) (fun c => ?_)
    · rw [if_pos c] at h
      refine jb_seg 1 (pc' := 31) (ls' := [some (.ref 34), some (.int x1), some (.int x2), some (.int (((M 34 3) - x1) * (x2 - 1))), none]) (st' := [(.int 0)]) (σ' := (zE L, M, N)) (G := []) rfl trivial ?_
      cases h
      obtain ⟨rfl, rfl⟩ := hK
      exact jb_retz (by decide) rfl rfl
    · rw [if_neg c] at h
      refine jb_seg 6 (pc' := (if 48 < ((M 34 3) + (((M 34 3) - x1) * (x2 - 1))) then 30 else 32)) (ls' := [some (.ref 34), some (.int x1), some (.int x2), some (.int (((M 34 3) - x1) * (x2 - 1))), none]) (st' := []) (σ' := (zE L, M, N)) (G := []) rfl trivial ?_
      refine jb_ite (fun c => ?_) (fun c => ?_)
      · rw [if_pos c] at h
        refine jb_seg 1 (pc' := 31) (ls' := [some (.ref 34), some (.int x1), some (.int x2), some (.int (((M 34 3) - x1) * (x2 - 1))), none]) (st' := [(.int 0)]) (σ' := (zE L, M, N)) (G := []) rfl trivial ?_
        cases h
        obtain ⟨rfl, rfl⟩ := hK
        exact jb_retz (by decide) rfl rfl
      · rw [if_neg c] at h
        refine jb_seg 2 (pc' := 35) (ls' := [some (.ref 34), some (.int x1), some (.int x2), some (.int (((M 34 3) - x1) * (x2 - 1))), some (.int 0)]) (st' := []) (σ' := (zE L, M, N)) (G := []) rfl trivial ?_
        exact jb_mask [true, true, false, true, true] rfl (zg_98_H35L x1 (((M 34 3) - x1) * (x2 - 1)) N h hK)
theorem ze_98 {Γ : jb_G} {L : Nat} {d : Nat} (x1 : Int32) (x2 : Int32) (M : jb_Mi) (N : jb_Ml) {r : (Bool × jb_Mi)} (h : zf_98 x1 x2 M = some r) : jb_V Γ d zq_98 0 (jb_en 5 [(.ref 34), (.int x1), (.int x2)]) [] (zE L, M, N) (some (.int (jb_b2i r.1))) (zE L, r.2, N) := zg_98 x1 x2 M N h ⟨rfl, rfl⟩
-- X8_read
noncomputable def zf_99_J253 (x2 : Int32) (x3 : Int32) (x7 : Int32) (x8 : Int32) (M : jb_Mi) : Option ((Int32 × Int32 × jb_Mi) ⊕ (Int32 × jb_Mi)) :=
  if x7 = 0 then some (.inl (x2, (x3 + 1), M)) else some (.inr ((zf_74 x7 x8), M))
noncomputable def zf_99_J134 (x3 : Int32) (x5 : Int32) (s0 : Int32) (M : jb_Mi) : Option ((Int32 × Int32 × jb_Mi) ⊕ (Int32 × jb_Mi)) :=
  zf_99_J253 0 x3 s0 x5 M
noncomputable def zf_99_J120 (x3 : Int32) (x5 : Int32) (x6 : Int32) (s1 : Int32) (M : jb_Mi) : Option ((Int32 × Int32 × jb_Mi) ⊕ (Int32 × jb_Mi)) :=
  (zf_95 s1 x6 M).bind fun q2 => if (jb_b2i q2.1) = 0 then zf_99_J134 x3 x5 6 q2.2 else zf_99_J134 x3 x5 0 q2.2
noncomputable def zf_99_J102 (x3 : Int32) (x4 : Int32) (x5 : Int32) (x6 : Int32) (M : jb_Mi) : Option ((Int32 × Int32 × jb_Mi) ⊕ (Int32 × jb_Mi)) :=
  if x4 = 46 then zf_99_J120 x3 x5 x6 (-2) M else zf_99_J120 x3 x5 x6 (x4 - 97) M
noncomputable def zf_99_J168 (x3 : Int32) (x8 : Int32) (s0 : Int32) (M : jb_Mi) : Option ((Int32 × Int32 × jb_Mi) ⊕ (Int32 × jb_Mi)) :=
  zf_99_J253 0 x3 s0 x8 M
noncomputable def zf_99_J250 (x2 : Int32) (x3 : Int32) (x8 : Int32) (M : jb_Mi) : Option ((Int32 × Int32 × jb_Mi) ⊕ (Int32 × jb_Mi)) :=
  zf_99_J253 x2 x3 1 x8 M
noncomputable def zf_99_J245 (x2 : Int32) (x3 : Int32) (x8 : Int32) (s0 : Int32) (M : jb_Mi) : Option ((Int32 × Int32 × jb_Mi) ⊕ (Int32 × jb_Mi)) :=
  zf_99_J253 x2 x3 s0 x8 M
noncomputable def zf_99_J76 (x3 : Int32) (x4 : Int32) (x8 : Int32) (s0 : Int32) (M : jb_Mi) : Option ((Int32 × Int32 × jb_Mi) ⊕ (Int32 × jb_Mi)) :=
  zf_99_J253 (x4 - 48) x3 s0 x8 M
noncomputable def zf_99_J40 (x2 : Int32) (x3 : Int32) (x4 : Int32) (s0 : Int32) (M : jb_Mi) : Option ((Int32 × Int32 × jb_Mi) ⊕ (Int32 × jb_Mi)) :=
  if (jb_b2i (zf_23 x4 50 57)) = 0 then if (jb_b2i (zf_86 x4)) = 0 then if x4 = 46 then zf_99_J102 x3 x4 s0 (zf_271 1 x2) M else if x4 = 40 then (zf_96 s0 (zf_271 1 x2) M).bind fun q3 => if (jb_b2i q3.1) = 0 then zf_99_J168 x3 x3 5 q3.2 else zf_99_J168 x3 x3 0 q3.2 else if x4 = 41 then if x2 = 0 then (zf_97 M).bind fun q4 => if (jb_b2i q4) = 0 then zf_99_J250 x2 x3 x3 M else jb_gd ((jb_up M 34 7 ((M 34 7) - 1)) 34 7) 2 (jb_gd ((jb_up M 34 7 ((M 34 7) - 1)) 34 7) 2 (jb_gd ((jb_up M 34 7 ((M 34 7) - 1)) 34 7) 2 ((zf_98 ((jb_up M 34 7 ((M 34 7) - 1)) 40 (((jb_up M 34 7 ((M 34 7) - 1)) 34 7)).toNatClampNeg) ((jb_up M 34 7 ((M 34 7) - 1)) 39 (((jb_up M 34 7 ((M 34 7) - 1)) 34 7)).toNatClampNeg) (jb_up M 34 7 ((M 34 7) - 1))).bind fun q8 => if (jb_b2i q8.1) = 0 then zf_99_J245 x2 x3 ((jb_up M 34 7 ((M 34 7) - 1)) 38 (((jb_up M 34 7 ((M 34 7) - 1)) 34 7)).toNatClampNeg) 6 q8.2 else zf_99_J245 x2 x3 ((jb_up M 34 7 ((M 34 7) - 1)) 38 (((jb_up M 34 7 ((M 34 7) - 1)) 34 7)).toNatClampNeg) 0 q8.2))) else zf_99_J250 x2 x3 x3 M else zf_99_J250 x2 x3 x3 M else zf_99_J102 x3 x4 s0 (zf_271 1 x2) M else if x2 = 0 then zf_99_J76 x3 x4 x3 0 M else zf_99_J76 x3 x4 x3 1 M
noncomputable def zf_99_J290 (M : jb_Mi) : Option (Int32 × jb_Mi) :=
  some ((zf_74 1 (M 2 1)), M)
noncomputable def zf_99_H14 (s : Int32 × Int32 × jb_Mi) : Option ((Int32 × Int32 × jb_Mi) ⊕ (Int32 × jb_Mi)) :=
  if s.2.1 < (s.2.2 2 1) then (zf_30 s.2.1 s.2.2).bind fun q1 => if s.1 = 0 then zf_99_J40 s.1 s.2.1 q1 s.2.1 s.2.2 else zf_99_J40 s.1 s.2.1 q1 (s.2.1 - 1) s.2.2 else if s.1 = 0 then if (s.2.2 34 7) = 0 then if (s.2.2 34 3) = 0 then ((zf_99_J290 s.2.2).map .inr) else some (.inr ((s.2.2 34 3), s.2.2)) else ((zf_99_J290 s.2.2).map .inr) else ((zf_99_J290 s.2.2).map .inr)
noncomputable def zf_99 (M : jb_Mi) : Option (Int32 × jb_Mi) :=
  jb_lp (zf_99_H14) (0, 0, (jb_up (jb_up M 34 3 0) 34 7 0))
set_option maxRecDepth 4000 in
theorem zg_99_J253 {Γ : jb_G} {L : Nat} {d : Nat} (hd : 1 ≤ d) (x2 : Int32) (x3 : Int32) (x7 : Int32) (x8 : Int32) (M : jb_Mi) (N : jb_Ml) {v : Option Value} {σ2 : jb_S} {r : ((Int32 × Int32 × jb_Mi) ⊕ (Int32 × jb_Mi))} (h : zf_99_J253 x2 x3 x7 x8 M = some r) (hK : (jb_K (fun s : Int32 × Int32 × jb_Mi => jb_V Γ d zq_99 14 [some (.ref 34), some (.ref 2), some (.int s.1), some (.int s.2.1), none, none, none, none, none] [] (zE L, s.2.2, N) v σ2) (fun r : Int32 × jb_Mi => v = some (.int r.1) ∧ σ2 = (zE L, r.2, N))) r) : jb_V Γ d zq_99 253 [some (.ref 34), some (.ref 2), some (.int x2), some (.int x3), none, none, none, some (.int x7), some (.int x8)] [] (zE L, M, N) v σ2 := by
  obtain ⟨d, rfl⟩ : ∃ e, d = e + 1 := ⟨d - 1, by omega⟩
  unfold zf_99_J253 at h
  refine jb_seg 2 (pc' := (if x7 = 0 then 266 else 258)) (ls' := [some (.ref 34), some (.ref 2), some (.int x2), some (.int x3), none, none, none, some (.int x7), some (.int x8)]) (st' := []) (σ' := (zE L, M, N)) (G := []) rfl trivial ?_
  refine jb_ite (fun c => ?_) (fun c => ?_)
  · rw [if_pos c] at h
    refine jb_seg 2 (pc' := 14) (ls' := [some (.ref 34), some (.ref 2), some (.int x2), some (.int (x3 + 1)), none, none, none, some (.int x7), some (.int x8)]) (st' := []) (σ' := (zE L, M, N)) (G := []) rfl trivial ?_
    cases h
    exact jb_mask [true, true, true, true, false, false, false, false, false] rfl hK
  · rw [if_neg c] at h
    refine jb_seg 2 (pc' := 262) (ls' := [some (.ref 34), some (.ref 2), some (.int x2), some (.int x3), none, none, none, some (.int x7), some (.int x8)]) (st' := [(.int x8), (.int x7)]) (σ' := (zE L, M, N)) (G := []) rfl trivial ?_
    refine jb_callS (q' := zq_74) (As := [(.int x7), (.int x8)]) (rest := []) (σ1 := (zE L, M, N)) (v := some (.int (zf_74 x7 x8))) rfl (by decide) rfl zp_74 (jb_cat rfl) (Nat.le_of_ble_eq_true rfl) (Nat.le_of_ble_eq_true rfl) (Or.inl rfl) rfl (ze_74 x7 x8 M N rfl) ?_
    cases h
    obtain ⟨rfl, rfl⟩ := hK
    exact jb_reti rfl rfl
set_option maxRecDepth 4000 in
theorem zg_99_J134 {Γ : jb_G} {L : Nat} {d : Nat} (hd : 1 ≤ d) (x3 : Int32) (x5 : Int32) (s0 : Int32) (M : jb_Mi) (N : jb_Ml) {v : Option Value} {σ2 : jb_S} {r : ((Int32 × Int32 × jb_Mi) ⊕ (Int32 × jb_Mi))} (h : zf_99_J134 x3 x5 s0 M = some r) (hK : (jb_K (fun s : Int32 × Int32 × jb_Mi => jb_V Γ d zq_99 14 [some (.ref 34), some (.ref 2), some (.int s.1), some (.int s.2.1), none, none, none, none, none] [] (zE L, s.2.2, N) v σ2) (fun r : Int32 × jb_Mi => v = some (.int r.1) ∧ σ2 = (zE L, r.2, N))) r) : jb_V Γ d zq_99 134 [some (.ref 34), some (.ref 2), none, some (.int x3), none, some (.int x5), none, none, none] [(.int s0)] (zE L, M, N) v σ2 := by
  obtain ⟨d, rfl⟩ : ∃ e, d = e + 1 := ⟨d - 1, by omega⟩
  unfold zf_99_J134 at h
  refine jb_seg 6 (pc' := 253) (ls' := [some (.ref 34), some (.ref 2), some (.int 0), some (.int x3), none, some (.int x5), none, some (.int s0), some (.int x5)]) (st' := []) (σ' := (zE L, M, N)) (G := []) rfl trivial ?_
  exact jb_mask [true, true, true, true, false, false, false, true, true] rfl (zg_99_J253 hd 0 x3 s0 x5 M N h hK)
set_option maxRecDepth 4000 in
theorem zg_99_J120 {Γ : jb_G} {L : Nat} {d : Nat} (hd : 1 ≤ d) (x3 : Int32) (x5 : Int32) (x6 : Int32) (s1 : Int32) (M : jb_Mi) (N : jb_Ml) {v : Option Value} {σ2 : jb_S} {r : ((Int32 × Int32 × jb_Mi) ⊕ (Int32 × jb_Mi))} (h : zf_99_J120 x3 x5 x6 s1 M = some r) (hK : (jb_K (fun s : Int32 × Int32 × jb_Mi => jb_V Γ d zq_99 14 [some (.ref 34), some (.ref 2), some (.int s.1), some (.int s.2.1), none, none, none, none, none] [] (zE L, s.2.2, N) v σ2) (fun r : Int32 × jb_Mi => v = some (.int r.1) ∧ σ2 = (zE L, r.2, N))) r) : jb_V Γ d zq_99 120 [some (.ref 34), some (.ref 2), none, some (.int x3), none, some (.int x5), some (.int x6), none, none] [(.int s1), (.ref 34)] (zE L, M, N) v σ2 := by
  obtain ⟨d, rfl⟩ : ∃ e, d = e + 1 := ⟨d - 1, by omega⟩
  unfold zf_99_J120 at h
  refine jb_seg 1 (pc' := 122) (ls' := [some (.ref 34), some (.ref 2), none, some (.int x3), none, some (.int x5), some (.int x6), none, none]) (st' := [(.int x6), (.int s1), (.ref 34)]) (σ' := (zE L, M, N)) (G := []) rfl trivial ?_
  obtain ⟨q2, h2, h⟩ := jb_bd_of h
  refine jb_callV (q' := zq_95) (As := [(.int s1), (.int x6)]) (rest := []) (σ1 := (zE L, q2.2, N)) (v := some (.int (jb_b2i q2.1))) rfl rfl zp_95 rfl (by decide) (jb_cat rfl) (Nat.le_of_ble_eq_true rfl) (Nat.le_of_ble_eq_true rfl) (Or.inl rfl) rfl (ze_95 s1 x6 M N h2) ?_
  refine jb_seg 1 (pc' := (if (jb_b2i q2.1) = 0 then 132 else 128)) (ls' := [some (.ref 34), some (.ref 2), none, some (.int x3), none, some (.int x5), some (.int x6), none, none]) (st' := []) (σ' := (zE L, q2.2, N)) (G := []) rfl trivial ?_
  refine jb_ite (fun c => ?_) (fun c => ?_)
  · rw [if_pos c] at h
    refine jb_seg 1 (pc' := 134) (ls' := [some (.ref 34), some (.ref 2), none, some (.int x3), none, some (.int x5), some (.int x6), none, none]) (st' := [(.int 6)]) (σ' := (zE L, q2.2, N)) (G := []) rfl trivial ?_
    exact jb_mask [true, true, false, true, false, true, false, false, false] rfl (zg_99_J134 hd x3 x5 6 q2.2 N h hK)
  · rw [if_neg c] at h
    refine jb_seg 2 (pc' := 134) (ls' := [some (.ref 34), some (.ref 2), none, some (.int x3), none, some (.int x5), some (.int x6), none, none]) (st' := [(.int 0)]) (σ' := (zE L, q2.2, N)) (G := []) rfl trivial ?_
    exact jb_mask [true, true, false, true, false, true, false, false, false] rfl (zg_99_J134 hd x3 x5 0 q2.2 N h hK)
set_option maxRecDepth 4000 in
theorem zg_99_J102 {Γ : jb_G} {L : Nat} {d : Nat} (hd : 1 ≤ d) (x3 : Int32) (x4 : Int32) (x5 : Int32) (x6 : Int32) (M : jb_Mi) (N : jb_Ml) {v : Option Value} {σ2 : jb_S} {r : ((Int32 × Int32 × jb_Mi) ⊕ (Int32 × jb_Mi))} (h : zf_99_J102 x3 x4 x5 x6 M = some r) (hK : (jb_K (fun s : Int32 × Int32 × jb_Mi => jb_V Γ d zq_99 14 [some (.ref 34), some (.ref 2), some (.int s.1), some (.int s.2.1), none, none, none, none, none] [] (zE L, s.2.2, N) v σ2) (fun r : Int32 × jb_Mi => v = some (.int r.1) ∧ σ2 = (zE L, r.2, N))) r) : jb_V Γ d zq_99 102 [some (.ref 34), some (.ref 2), none, some (.int x3), some (.int x4), some (.int x5), some (.int x6), none, none] [] (zE L, M, N) v σ2 := by
  obtain ⟨d, rfl⟩ : ∃ e, d = e + 1 := ⟨d - 1, by omega⟩
  unfold zf_99_J102 at h
  refine jb_seg 4 (pc' := (if x4 = 46 then 110 else 115)) (ls' := [some (.ref 34), some (.ref 2), none, some (.int x3), some (.int x4), some (.int x5), some (.int x6), none, none]) (st' := [(.ref 34)]) (σ' := (zE L, M, N)) (G := []) rfl trivial ?_
  refine jb_ite (fun c => ?_) (fun c => ?_)
  · rw [if_pos c] at h
    refine jb_seg 2 (pc' := 120) (ls' := [some (.ref 34), some (.ref 2), none, some (.int x3), some (.int x4), some (.int x5), some (.int x6), none, none]) (st' := [(.int (-2)), (.ref 34)]) (σ' := (zE L, M, N)) (G := []) rfl trivial ?_
    exact jb_mask [true, true, false, true, false, true, true, false, false] rfl (zg_99_J120 hd x3 x5 x6 (-2) M N h hK)
  · rw [if_neg c] at h
    refine jb_seg 3 (pc' := 120) (ls' := [some (.ref 34), some (.ref 2), none, some (.int x3), some (.int x4), some (.int x5), some (.int x6), none, none]) (st' := [(.int (x4 - 97)), (.ref 34)]) (σ' := (zE L, M, N)) (G := []) rfl trivial ?_
    exact jb_mask [true, true, false, true, false, true, true, false, false] rfl (zg_99_J120 hd x3 x5 x6 (x4 - 97) M N h hK)
set_option maxRecDepth 4000 in
theorem zg_99_J168 {Γ : jb_G} {L : Nat} {d : Nat} (hd : 1 ≤ d) (x3 : Int32) (x8 : Int32) (s0 : Int32) (M : jb_Mi) (N : jb_Ml) {v : Option Value} {σ2 : jb_S} {r : ((Int32 × Int32 × jb_Mi) ⊕ (Int32 × jb_Mi))} (h : zf_99_J168 x3 x8 s0 M = some r) (hK : (jb_K (fun s : Int32 × Int32 × jb_Mi => jb_V Γ d zq_99 14 [some (.ref 34), some (.ref 2), some (.int s.1), some (.int s.2.1), none, none, none, none, none] [] (zE L, s.2.2, N) v σ2) (fun r : Int32 × jb_Mi => v = some (.int r.1) ∧ σ2 = (zE L, r.2, N))) r) : jb_V Γ d zq_99 168 [some (.ref 34), some (.ref 2), none, some (.int x3), none, none, none, none, some (.int x8)] [(.int s0)] (zE L, M, N) v σ2 := by
  obtain ⟨d, rfl⟩ : ∃ e, d = e + 1 := ⟨d - 1, by omega⟩
  unfold zf_99_J168 at h
  refine jb_seg 4 (pc' := 253) (ls' := [some (.ref 34), some (.ref 2), some (.int 0), some (.int x3), none, none, none, some (.int s0), some (.int x8)]) (st' := []) (σ' := (zE L, M, N)) (G := []) rfl trivial ?_
  exact jb_mask [true, true, true, true, false, false, false, true, true] rfl (zg_99_J253 hd 0 x3 s0 x8 M N h hK)
set_option maxRecDepth 4000 in
theorem zg_99_J250 {Γ : jb_G} {L : Nat} {d : Nat} (hd : 1 ≤ d) (x2 : Int32) (x3 : Int32) (x8 : Int32) (M : jb_Mi) (N : jb_Ml) {v : Option Value} {σ2 : jb_S} {r : ((Int32 × Int32 × jb_Mi) ⊕ (Int32 × jb_Mi))} (h : zf_99_J250 x2 x3 x8 M = some r) (hK : (jb_K (fun s : Int32 × Int32 × jb_Mi => jb_V Γ d zq_99 14 [some (.ref 34), some (.ref 2), some (.int s.1), some (.int s.2.1), none, none, none, none, none] [] (zE L, s.2.2, N) v σ2) (fun r : Int32 × jb_Mi => v = some (.int r.1) ∧ σ2 = (zE L, r.2, N))) r) : jb_V Γ d zq_99 250 [some (.ref 34), some (.ref 2), some (.int x2), some (.int x3), none, none, none, none, some (.int x8)] [] (zE L, M, N) v σ2 := by
  obtain ⟨d, rfl⟩ : ∃ e, d = e + 1 := ⟨d - 1, by omega⟩
  unfold zf_99_J250 at h
  refine jb_seg 2 (pc' := 253) (ls' := [some (.ref 34), some (.ref 2), some (.int x2), some (.int x3), none, none, none, some (.int 1), some (.int x8)]) (st' := []) (σ' := (zE L, M, N)) (G := []) rfl trivial ?_
  exact jb_mask [true, true, true, true, false, false, false, true, true] rfl (zg_99_J253 hd x2 x3 1 x8 M N h hK)
set_option maxRecDepth 4000 in
theorem zg_99_J245 {Γ : jb_G} {L : Nat} {d : Nat} (hd : 1 ≤ d) (x2 : Int32) (x3 : Int32) (x8 : Int32) (s0 : Int32) (M : jb_Mi) (N : jb_Ml) {v : Option Value} {σ2 : jb_S} {r : ((Int32 × Int32 × jb_Mi) ⊕ (Int32 × jb_Mi))} (h : zf_99_J245 x2 x3 x8 s0 M = some r) (hK : (jb_K (fun s : Int32 × Int32 × jb_Mi => jb_V Γ d zq_99 14 [some (.ref 34), some (.ref 2), some (.int s.1), some (.int s.2.1), none, none, none, none, none] [] (zE L, s.2.2, N) v σ2) (fun r : Int32 × jb_Mi => v = some (.int r.1) ∧ σ2 = (zE L, r.2, N))) r) : jb_V Γ d zq_99 245 [some (.ref 34), some (.ref 2), some (.int x2), some (.int x3), none, none, none, none, some (.int x8)] [(.int s0)] (zE L, M, N) v σ2 := by
  obtain ⟨d, rfl⟩ : ∃ e, d = e + 1 := ⟨d - 1, by omega⟩
  unfold zf_99_J245 at h
  refine jb_seg 2 (pc' := 253) (ls' := [some (.ref 34), some (.ref 2), some (.int x2), some (.int x3), none, none, none, some (.int s0), some (.int x8)]) (st' := []) (σ' := (zE L, M, N)) (G := []) rfl trivial ?_
  exact jb_mask [true, true, true, true, false, false, false, true, true] rfl (zg_99_J253 hd x2 x3 s0 x8 M N h hK)
set_option maxRecDepth 4000 in
theorem zg_99_J76 {Γ : jb_G} {L : Nat} {d : Nat} (hd : 1 ≤ d) (x3 : Int32) (x4 : Int32) (x8 : Int32) (s0 : Int32) (M : jb_Mi) (N : jb_Ml) {v : Option Value} {σ2 : jb_S} {r : ((Int32 × Int32 × jb_Mi) ⊕ (Int32 × jb_Mi))} (h : zf_99_J76 x3 x4 x8 s0 M = some r) (hK : (jb_K (fun s : Int32 × Int32 × jb_Mi => jb_V Γ d zq_99 14 [some (.ref 34), some (.ref 2), some (.int s.1), some (.int s.2.1), none, none, none, none, none] [] (zE L, s.2.2, N) v σ2) (fun r : Int32 × jb_Mi => v = some (.int r.1) ∧ σ2 = (zE L, r.2, N))) r) : jb_V Γ d zq_99 76 [some (.ref 34), some (.ref 2), none, some (.int x3), some (.int x4), none, none, none, some (.int x8)] [(.int s0)] (zE L, M, N) v σ2 := by
  obtain ⟨d, rfl⟩ : ∃ e, d = e + 1 := ⟨d - 1, by omega⟩
  unfold zf_99_J76 at h
  refine jb_seg 6 (pc' := 253) (ls' := [some (.ref 34), some (.ref 2), some (.int (x4 - 48)), some (.int x3), some (.int x4), none, none, some (.int s0), some (.int x8)]) (st' := []) (σ' := (zE L, M, N)) (G := []) rfl trivial ?_
  exact jb_mask [true, true, true, true, false, false, false, true, true] rfl (zg_99_J253 hd (x4 - 48) x3 s0 x8 M N h hK)
set_option maxRecDepth 4000 in
theorem zg_99_J40 {Γ : jb_G} {L : Nat} {d : Nat} (hd : 1 ≤ d) (x2 : Int32) (x3 : Int32) (x4 : Int32) (s0 : Int32) (M : jb_Mi) (N : jb_Ml) {v : Option Value} {σ2 : jb_S} {r : ((Int32 × Int32 × jb_Mi) ⊕ (Int32 × jb_Mi))} (h : zf_99_J40 x2 x3 x4 s0 M = some r) (hK : (jb_K (fun s : Int32 × Int32 × jb_Mi => jb_V Γ d zq_99 14 [some (.ref 34), some (.ref 2), some (.int s.1), some (.int s.2.1), none, none, none, none, none] [] (zE L, s.2.2, N) v σ2) (fun r : Int32 × jb_Mi => v = some (.int r.1) ∧ σ2 = (zE L, r.2, N))) r) : jb_V Γ d zq_99 40 [some (.ref 34), some (.ref 2), some (.int x2), some (.int x3), some (.int x4), none, none, none, none] [(.int s0)] (zE L, M, N) v σ2 := by
  obtain ⟨d, rfl⟩ : ∃ e, d = e + 1 := ⟨d - 1, by omega⟩
  unfold zf_99_J40 at h
  refine jb_seg 3 (pc' := 44) (ls' := [some (.ref 34), some (.ref 2), some (.int x2), some (.int x3), some (.int x4), some (.int s0), none, none, none]) (st' := [(.int x2), (.int 1)]) (σ' := (zE L, M, N)) (G := []) rfl trivial ?_
  refine jb_callS (q' := zq_271) (As := [(.int 1), (.int x2)]) (rest := []) (σ1 := (zE L, M, N)) (v := some (.int (zf_271 1 x2))) rfl (by decide) rfl zp_271 (jb_cat rfl) (Nat.le_of_ble_eq_true rfl) (Nat.le_of_ble_eq_true rfl) (Or.inl rfl) rfl (ze_271 1 x2 M N rfl) ?_
  refine jb_seg 8 (pc' := 61) (ls' := [some (.ref 34), some (.ref 2), some (.int x2), some (.int x3), some (.int x4), some (.int s0), some (.int (zf_271 1 x2)), some (.int 0), some (.int x3)]) (st' := [(.int 57), (.int 50), (.int x4)]) (σ' := (zE L, M, N)) (G := []) rfl trivial ?_
  refine jb_callS (q' := zq_23) (As := [(.int x4), (.int 50), (.int 57)]) (rest := []) (σ1 := (zE L, M, N)) (v := some (.int (jb_b2i (zf_23 x4 50 57)))) rfl (by decide) rfl zp_23 (jb_cat rfl) (Nat.le_of_ble_eq_true rfl) (Nat.le_of_ble_eq_true rfl) (Or.inl rfl) rfl (ze_23 x4 50 57 M N rfl) ?_
  refine jb_seg 1 (pc' := (if (jb_b2i (zf_23 x4 50 57)) = 0 then 87 else 67)) (ls' := [some (.ref 34), some (.ref 2), some (.int x2), some (.int x3), some (.int x4), some (.int s0), some (.int (zf_271 1 x2)), some (.int 0), some (.int x3)]) (st' := []) (σ' := (zE L, M, N)) (G := []) rfl trivial ?_
  refine jb_ite (fun c => ?_) (fun c => ?_)
  · rw [if_pos c] at h
    refine jb_seg 1 (pc' := 89) (ls' := [some (.ref 34), some (.ref 2), some (.int x2), some (.int x3), some (.int x4), some (.int s0), some (.int (zf_271 1 x2)), some (.int 0), some (.int x3)]) (st' := [(.int x4)]) (σ' := (zE L, M, N)) (G := []) rfl trivial ?_
    refine jb_callS (q' := zq_86) (As := [(.int x4)]) (rest := []) (σ1 := (zE L, M, N)) (v := some (.int (jb_b2i (zf_86 x4)))) rfl (by decide) rfl zp_86 (jb_cat rfl) (Nat.le_of_ble_eq_true rfl) (Nat.le_of_ble_eq_true rfl) (Or.inl rfl) rfl (ze_86 x4 M N rfl) ?_
    refine jb_seg 1 (pc' := (if (jb_b2i (zf_86 x4)) = 0 then 95 else 102)) (ls' := [some (.ref 34), some (.ref 2), some (.int x2), some (.int x3), some (.int x4), some (.int s0), some (.int (zf_271 1 x2)), some (.int 0), some (.int x3)]) (st' := []) (σ' := (zE L, M, N)) (G := []) rfl trivial ?_
    refine jb_ite (fun c => ?_) (fun c => ?_)
    · rw [if_pos c] at h
      refine jb_seg 3 (pc' := (if x4 = 46 then 102 else 145)) (ls' := [some (.ref 34), some (.ref 2), some (.int x2), some (.int x3), some (.int x4), some (.int s0), some (.int (zf_271 1 x2)), some (.int 0), some (.int x3)]) (st' := []) (σ' := (zE L, M, N)) (G := []) rfl trivial ?_
      refine jb_ite (fun c => ?_) (fun c => ?_)
      · rw [if_pos c] at h
        exact jb_mask [true, true, false, true, true, true, true, false, false] rfl (zg_99_J102 hd x3 x4 s0 (zf_271 1 x2) M N h hK)
      · rw [if_neg c] at h
        refine jb_seg 3 (pc' := (if x4 = 40 then 152 else 175)) (ls' := [some (.ref 34), some (.ref 2), some (.int x2), some (.int x3), some (.int x4), some (.int s0), some (.int (zf_271 1 x2)), some (.int 0), some (.int x3)]) (st' := []) (σ' := (zE L, M, N)) (G := []) rfl trivial ?_
        refine jb_ite (fun c => ?_) (fun c => ?_)
        · rw [if_pos c] at h
          refine jb_seg 3 (pc' := 157) (ls' := [some (.ref 34), some (.ref 2), some (.int x2), some (.int x3), some (.int x4), some (.int s0), some (.int (zf_271 1 x2)), some (.int 0), some (.int x3)]) (st' := [(.int (zf_271 1 x2)), (.int s0), (.ref 34)]) (σ' := (zE L, M, N)) (G := []) rfl trivial ?_
          obtain ⟨q3, h3, h⟩ := jb_bd_of h
          refine jb_callV (q' := zq_96) (As := [(.int s0), (.int (zf_271 1 x2))]) (rest := []) (σ1 := (zE L, q3.2, N)) (v := some (.int (jb_b2i q3.1))) rfl rfl zp_96 rfl (by decide) (jb_cat rfl) (Nat.le_of_ble_eq_true rfl) (Nat.le_of_ble_eq_true rfl) (Or.inl rfl) rfl (ze_96 s0 (zf_271 1 x2) M N h3) ?_
          refine jb_seg 1 (pc' := (if (jb_b2i q3.1) = 0 then 167 else 163)) (ls' := [some (.ref 34), some (.ref 2), some (.int x2), some (.int x3), some (.int x4), some (.int s0), some (.int (zf_271 1 x2)), some (.int 0), some (.int x3)]) (st' := []) (σ' := (zE L, q3.2, N)) (G := []) rfl trivial ?_
          refine jb_ite (fun c => ?_) (fun c => ?_)
          · rw [if_pos c] at h
            refine jb_seg 1 (pc' := 168) (ls' := [some (.ref 34), some (.ref 2), some (.int x2), some (.int x3), some (.int x4), some (.int s0), some (.int (zf_271 1 x2)), some (.int 0), some (.int x3)]) (st' := [(.int 5)]) (σ' := (zE L, q3.2, N)) (G := []) rfl trivial ?_
            exact jb_mask [true, true, false, true, false, false, false, false, true] rfl (zg_99_J168 hd x3 x3 5 q3.2 N h hK)
          · rw [if_neg c] at h
            refine jb_seg 2 (pc' := 168) (ls' := [some (.ref 34), some (.ref 2), some (.int x2), some (.int x3), some (.int x4), some (.int s0), some (.int (zf_271 1 x2)), some (.int 0), some (.int x3)]) (st' := [(.int 0)]) (σ' := (zE L, q3.2, N)) (G := []) rfl trivial ?_
            exact jb_mask [true, true, false, true, false, false, false, false, true] rfl (zg_99_J168 hd x3 x3 0 q3.2 N h hK)
        · rw [if_neg c] at h
          refine jb_seg 3 (pc' := (if x4 = 41 then 182 else 250)) (ls' := [some (.ref 34), some (.ref 2), some (.int x2), some (.int x3), some (.int x4), some (.int s0), some (.int (zf_271 1 x2)), some (.int 0), some (.int x3)]) (st' := []) (σ' := (zE L, M, N)) (G := []) rfl trivial ?_
          refine jb_ite (fun c => ?_) (fun c => ?_)
          · rw [if_pos c] at h
            refine jb_seg 2 (pc' := (if x2 = 0 then 186 else 250)) (ls' := [some (.ref 34), some (.ref 2), some (.int x2), some (.int x3), some (.int x4), some (.int s0), some (.int (zf_271 1 x2)), some (.int 0), some (.int x3)]) (st' := []) (σ' := (zE L, M, N)) (G := []) rfl trivial ?_
            refine jb_ite (fun c => ?_) (fun c => ?_)
            · rw [if_pos c] at h
              refine jb_seg 1 (pc' := 187) (ls' := [some (.ref 34), some (.ref 2), some (.int x2), some (.int x3), some (.int x4), some (.int s0), some (.int (zf_271 1 x2)), some (.int 0), some (.int x3)]) (st' := [(.ref 34)]) (σ' := (zE L, M, N)) (G := []) rfl trivial ?_
              obtain ⟨q4, h4, h⟩ := jb_bd_of h
              refine jb_callV (q' := zq_97) (As := []) (rest := []) (σ1 := (zE L, M, N)) (v := some (.int (jb_b2i q4))) rfl rfl zp_97 rfl (by decide) (jb_cat rfl) (Nat.le_of_ble_eq_true rfl) (Nat.le_of_ble_eq_true rfl) (Or.inl rfl) rfl (ze_97 M N h4) ?_
              refine jb_seg 1 (pc' := (if (jb_b2i q4) = 0 then 250 else 193)) (ls' := [some (.ref 34), some (.ref 2), some (.int x2), some (.int x3), some (.int x4), some (.int s0), some (.int (zf_271 1 x2)), some (.int 0), some (.int x3)]) (st' := []) (σ' := (zE L, M, N)) (G := []) rfl trivial ?_
              refine jb_ite (fun c => ?_) (fun c => ?_)
              · rw [if_pos c] at h
                exact jb_mask [true, true, true, true, false, false, false, false, true] rfl (zg_99_J250 hd x2 x3 x3 M N h hK)
              · rw [if_neg c] at h
                obtain ⟨g5, h⟩ := jb_gd_of h
                obtain ⟨g6, h⟩ := jb_gd_of h
                obtain ⟨g7, h⟩ := jb_gd_of h
                refine jb_seg 23 (pc' := 233) (ls' := [some (.ref 34), some (.ref 2), some (.int x2), some (.int x3), some (.int x4), some (.int s0), some (.int (zf_271 1 x2)), some (.int 0), some (.int ((jb_up M 34 7 ((M 34 7) - 1)) 38 (((jb_up M 34 7 ((M 34 7) - 1)) 34 7)).toNatClampNeg))]) (st' := [(.int ((jb_up M 34 7 ((M 34 7) - 1)) 39 (((jb_up M 34 7 ((M 34 7) - 1)) 34 7)).toNatClampNeg)), (.int ((jb_up M 34 7 ((M 34 7) - 1)) 40 (((jb_up M 34 7 ((M 34 7) - 1)) 34 7)).toNatClampNeg)), (.ref 34)]) (σ' := (zE L, (jb_up M 34 7 ((M 34 7) - 1)), N)) (G := [vp_in ((jb_up M 34 7 ((M 34 7) - 1)) 34 7) 2, vp_in ((jb_up M 34 7 ((M 34 7) - 1)) 34 7) 2, vp_in ((jb_up M 34 7 ((M 34 7) - 1)) 34 7) 2]) rfl ⟨g5, g6, g7⟩ ?_
                obtain ⟨q8, h8, h⟩ := jb_bd_of h
                refine jb_callV (q' := zq_98) (As := [(.int ((jb_up M 34 7 ((M 34 7) - 1)) 40 (((jb_up M 34 7 ((M 34 7) - 1)) 34 7)).toNatClampNeg)), (.int ((jb_up M 34 7 ((M 34 7) - 1)) 39 (((jb_up M 34 7 ((M 34 7) - 1)) 34 7)).toNatClampNeg))]) (rest := []) (σ1 := (zE L, q8.2, N)) (v := some (.int (jb_b2i q8.1))) rfl rfl zp_98 rfl (by decide) (jb_cat rfl) (Nat.le_of_ble_eq_true rfl) (Nat.le_of_ble_eq_true rfl) (Or.inl rfl) rfl (ze_98 ((jb_up M 34 7 ((M 34 7) - 1)) 40 (((jb_up M 34 7 ((M 34 7) - 1)) 34 7)).toNatClampNeg) ((jb_up M 34 7 ((M 34 7) - 1)) 39 (((jb_up M 34 7 ((M 34 7) - 1)) 34 7)).toNatClampNeg) (jb_up M 34 7 ((M 34 7) - 1)) N h8) ?_
                refine jb_seg 1 (pc' := (if (jb_b2i q8.1) = 0 then 243 else 239)) (ls' := [some (.ref 34), some (.ref 2), some (.int x2), some (.int x3), some (.int x4), some (.int s0), some (.int (zf_271 1 x2)), some (.int 0), some (.int ((jb_up M 34 7 ((M 34 7) - 1)) 38 (((jb_up M 34 7 ((M 34 7) - 1)) 34 7)).toNatClampNeg))]) (st' := []) (σ' := (zE L, q8.2, N)) (G := []) rfl trivial ?_
                refine jb_ite (fun c => ?_) (fun c => ?_)
                · rw [if_pos c] at h
                  refine jb_seg 1 (pc' := 245) (ls' := [some (.ref 34), some (.ref 2), some (.int x2), some (.int x3), some (.int x4), some (.int s0), some (.int (zf_271 1 x2)), some (.int 0), some (.int ((jb_up M 34 7 ((M 34 7) - 1)) 38 (((jb_up M 34 7 ((M 34 7) - 1)) 34 7)).toNatClampNeg))]) (st' := [(.int 6)]) (σ' := (zE L, q8.2, N)) (G := []) rfl trivial ?_
                  exact jb_mask [true, true, true, true, false, false, false, false, true] rfl (zg_99_J245 hd x2 x3 ((jb_up M 34 7 ((M 34 7) - 1)) 38 (((jb_up M 34 7 ((M 34 7) - 1)) 34 7)).toNatClampNeg) 6 q8.2 N h hK)
                · rw [if_neg c] at h
                  refine jb_seg 2 (pc' := 245) (ls' := [some (.ref 34), some (.ref 2), some (.int x2), some (.int x3), some (.int x4), some (.int s0), some (.int (zf_271 1 x2)), some (.int 0), some (.int ((jb_up M 34 7 ((M 34 7) - 1)) 38 (((jb_up M 34 7 ((M 34 7) - 1)) 34 7)).toNatClampNeg))]) (st' := [(.int 0)]) (σ' := (zE L, q8.2, N)) (G := []) rfl trivial ?_
                  exact jb_mask [true, true, true, true, false, false, false, false, true] rfl (zg_99_J245 hd x2 x3 ((jb_up M 34 7 ((M 34 7) - 1)) 38 (((jb_up M 34 7 ((M 34 7) - 1)) 34 7)).toNatClampNeg) 0 q8.2 N h hK)
            · rw [if_neg c] at h
              exact jb_mask [true, true, true, true, false, false, false, false, true] rfl (zg_99_J250 hd x2 x3 x3 M N h hK)
          · rw [if_neg c] at h
            exact jb_mask [true, true, true, true, false, false, false, false, true] rfl (zg_99_J250 hd x2 x3 x3 M N h hK)
    · rw [if_neg c] at h
      exact jb_mask [true, true, false, true, true, true, true, false, false] rfl (zg_99_J102 hd x3 x4 s0 (zf_271 1 x2) M N h hK)
  · rw [if_neg c] at h
    refine jb_seg 2 (pc' := (if x2 = 0 then 71 else 75)) (ls' := [some (.ref 34), some (.ref 2), some (.int x2), some (.int x3), some (.int x4), some (.int s0), some (.int (zf_271 1 x2)), some (.int 0), some (.int x3)]) (st' := []) (σ' := (zE L, M, N)) (G := []) rfl trivial ?_
    refine jb_ite (fun c => ?_) (fun c => ?_)
    · rw [if_pos c] at h
      refine jb_seg 2 (pc' := 76) (ls' := [some (.ref 34), some (.ref 2), some (.int x2), some (.int x3), some (.int x4), some (.int s0), some (.int (zf_271 1 x2)), some (.int 0), some (.int x3)]) (st' := [(.int 0)]) (σ' := (zE L, M, N)) (G := []) rfl trivial ?_
      exact jb_mask [true, true, false, true, true, false, false, false, true] rfl (zg_99_J76 hd x3 x4 x3 0 M N h hK)
    · rw [if_neg c] at h
      refine jb_seg 1 (pc' := 76) (ls' := [some (.ref 34), some (.ref 2), some (.int x2), some (.int x3), some (.int x4), some (.int s0), some (.int (zf_271 1 x2)), some (.int 0), some (.int x3)]) (st' := [(.int 1)]) (σ' := (zE L, M, N)) (G := []) rfl trivial ?_
      exact jb_mask [true, true, false, true, true, false, false, false, true] rfl (zg_99_J76 hd x3 x4 x3 1 M N h hK)
set_option maxRecDepth 4000 in
theorem zg_99_J290 {Γ : jb_G} {L : Nat} {d : Nat} (hd : 1 ≤ d) (M : jb_Mi) (N : jb_Ml) {v : Option Value} {σ2 : jb_S} {r : (Int32 × jb_Mi)} (h : zf_99_J290 M = some r) (hK : (fun r : Int32 × jb_Mi => v = some (.int r.1) ∧ σ2 = (zE L, r.2, N)) r) : jb_V Γ d zq_99 290 [none, some (.ref 2), none, none, none, none, none, none, none] [] (zE L, M, N) v σ2 := by
  obtain ⟨d, rfl⟩ : ∃ e, d = e + 1 := ⟨d - 1, by omega⟩
  unfold zf_99_J290 at h
  refine jb_seg 3 (pc' := 295) (ls' := [none, some (.ref 2), none, none, none, none, none, none, none]) (st' := [(.int (M 2 1)), (.int 1)]) (σ' := (zE L, M, N)) (G := []) rfl trivial ?_
  refine jb_callS (q' := zq_74) (As := [(.int 1), (.int (M 2 1))]) (rest := []) (σ1 := (zE L, M, N)) (v := some (.int (zf_74 1 (M 2 1)))) rfl (by decide) rfl zp_74 (jb_cat rfl) (Nat.le_of_ble_eq_true rfl) (Nat.le_of_ble_eq_true rfl) (Or.inl rfl) rfl (ze_74 1 (M 2 1) M N rfl) ?_
  refine jb_seg 1 (pc' := 305) (ls' := [none, some (.ref 2), none, none, none, none, none, none, none]) (st' := [(.int (zf_74 1 (M 2 1)))]) (σ' := (zE L, M, N)) (G := []) rfl trivial ?_
  cases h
  obtain ⟨rfl, rfl⟩ := hK
  exact jb_reti rfl rfl
set_option maxRecDepth 4000 in
theorem zg_99_H14 {Γ : jb_G} {L : Nat} {d : Nat} (hd : 1 ≤ d) (N : jb_Ml) (s : Int32 × Int32 × jb_Mi) {v : Option Value} {σ2 : jb_S} {r : ((Int32 × Int32 × jb_Mi) ⊕ (Int32 × jb_Mi))} (h : zf_99_H14 s = some r) (hK : (jb_K (fun s : Int32 × Int32 × jb_Mi => jb_V Γ d zq_99 14 [some (.ref 34), some (.ref 2), some (.int s.1), some (.int s.2.1), none, none, none, none, none] [] (zE L, s.2.2, N) v σ2) (fun r : Int32 × jb_Mi => v = some (.int r.1) ∧ σ2 = (zE L, r.2, N))) r) : jb_V Γ d zq_99 14 [some (.ref 34), some (.ref 2), some (.int s.1), some (.int s.2.1), none, none, none, none, none] [] (zE L, s.2.2, N) v σ2 := by
  obtain ⟨d, rfl⟩ : ∃ e, d = e + 1 := ⟨d - 1, by omega⟩
  unfold zf_99_H14 at h
  refine jb_seg 4 (pc' := (if s.2.1 < (s.2.2 2 1) then 22 else 272)) (ls' := [some (.ref 34), some (.ref 2), some (.int s.1), some (.int s.2.1), none, none, none, none, none]) (st' := []) (σ' := (zE L, s.2.2, N)) (G := []) rfl trivial ?_
  refine jb_ite (fun c => ?_) (fun c => ?_)
  · rw [if_pos c] at h
    refine jb_seg 2 (pc' := 24) (ls' := [some (.ref 34), some (.ref 2), some (.int s.1), some (.int s.2.1), none, none, none, none, none]) (st' := [(.int s.2.1), (.ref 2)]) (σ' := (zE L, s.2.2, N)) (G := []) rfl trivial ?_
    obtain ⟨q1, h1, h⟩ := jb_bd_of h
    refine jb_callV (q' := zq_30) (As := [(.int s.2.1)]) (rest := []) (σ1 := (zE L, s.2.2, N)) (v := some (.int q1)) rfl rfl zp_30 rfl (by decide) (jb_cat rfl) (Nat.le_of_ble_eq_true rfl) (Nat.le_of_ble_eq_true rfl) (Or.inl rfl) rfl (ze_30 s.2.1 s.2.2 N h1) ?_
    refine jb_seg 3 (pc' := (if s.1 = 0 then 33 else 37)) (ls' := [some (.ref 34), some (.ref 2), some (.int s.1), some (.int s.2.1), some (.int q1), none, none, none, none]) (st' := []) (σ' := (zE L, s.2.2, N)) (G := []) rfl trivial ?_
    refine jb_ite (fun c => ?_) (fun c => ?_)
    · rw [if_pos c] at h
      refine jb_seg 2 (pc' := 40) (ls' := [some (.ref 34), some (.ref 2), some (.int s.1), some (.int s.2.1), some (.int q1), none, none, none, none]) (st' := [(.int s.2.1)]) (σ' := (zE L, s.2.2, N)) (G := []) rfl trivial ?_
      exact jb_mask [true, true, true, true, true, false, false, false, false] rfl (zg_99_J40 hd s.1 s.2.1 q1 s.2.1 s.2.2 N h hK)
    · rw [if_neg c] at h
      refine jb_seg 3 (pc' := 40) (ls' := [some (.ref 34), some (.ref 2), some (.int s.1), some (.int s.2.1), some (.int q1), none, none, none, none]) (st' := [(.int (s.2.1 - 1))]) (σ' := (zE L, s.2.2, N)) (G := []) rfl trivial ?_
      exact jb_mask [true, true, true, true, true, false, false, false, false] rfl (zg_99_J40 hd s.1 s.2.1 q1 (s.2.1 - 1) s.2.2 N h hK)
  · rw [if_neg c] at h
    refine jb_seg 2 (pc' := (if s.1 = 0 then 276 else 290)) (ls' := [some (.ref 34), some (.ref 2), some (.int s.1), some (.int s.2.1), none, none, none, none, none]) (st' := []) (σ' := (zE L, s.2.2, N)) (G := []) rfl trivial ?_
    refine jb_ite (fun c => ?_) (fun c => ?_)
    · rw [if_pos c] at h
      refine jb_seg 3 (pc' := (if (s.2.2 34 7) = 0 then 283 else 290)) (ls' := [some (.ref 34), some (.ref 2), some (.int s.1), some (.int s.2.1), none, none, none, none, none]) (st' := []) (σ' := (zE L, s.2.2, N)) (G := []) rfl trivial ?_
      refine jb_ite (fun c => ?_) (fun c => ?_)
      · rw [if_pos c] at h
        refine jb_seg 3 (pc' := (if (s.2.2 34 3) = 0 then 290 else 301)) (ls' := [some (.ref 34), some (.ref 2), some (.int s.1), some (.int s.2.1), none, none, none, none, none]) (st' := []) (σ' := (zE L, s.2.2, N)) (G := []) rfl trivial ?_
        refine jb_ite (fun c => ?_) (fun c => ?_)
        · rw [if_pos c] at h
          obtain ⟨y0, hy0, rfl⟩ := jb_mp_of h
          exact jb_mask [false, true, false, false, false, false, false, false, false] rfl (zg_99_J290 hd s.2.2 N hy0 hK)
        · rw [if_neg c] at h
          refine jb_seg 2 (pc' := 305) (ls' := [some (.ref 34), some (.ref 2), some (.int s.1), some (.int s.2.1), none, none, none, none, none]) (st' := [(.int (s.2.2 34 3))]) (σ' := (zE L, s.2.2, N)) (G := []) rfl trivial ?_
          cases h
          obtain ⟨rfl, rfl⟩ := hK
          exact jb_reti rfl rfl
      · rw [if_neg c] at h
        obtain ⟨y0, hy0, rfl⟩ := jb_mp_of h
        exact jb_mask [false, true, false, false, false, false, false, false, false] rfl (zg_99_J290 hd s.2.2 N hy0 hK)
    · rw [if_neg c] at h
      obtain ⟨y0, hy0, rfl⟩ := jb_mp_of h
      exact jb_mask [false, true, false, false, false, false, false, false, false] rfl (zg_99_J290 hd s.2.2 N hy0 hK)
theorem zg_99_H14L {Γ : jb_G} {L : Nat} {d : Nat} (hd : 1 ≤ d) (N : jb_Ml) {v : Option Value} {σ2 : jb_S} {s : Int32 × Int32 × jb_Mi} {r : (Int32 × jb_Mi)} (h : jb_lp (zf_99_H14) s = some r) (hK : (fun r : Int32 × jb_Mi => v = some (.int r.1) ∧ σ2 = (zE L, r.2, N)) r) : jb_V Γ d zq_99 14 [some (.ref 34), some (.ref 2), some (.int s.1), some (.int s.2.1), none, none, none, none, none] [] (zE L, s.2.2, N) v σ2 := by
  exact jb_lp_ind (P := fun s => jb_V Γ d zq_99 14 [some (.ref 34), some (.ref 2), some (.int s.1), some (.int s.2.1), none, none, none, none, none] [] (zE L, s.2.2, N) v σ2) (K := (fun r : Int32 × jb_Mi => v = some (.int r.1) ∧ σ2 = (zE L, r.2, N))) (fun s r h hk => zg_99_H14 hd N s h (by cases r <;> exact hk)) h hK
set_option maxRecDepth 4000 in
theorem zg_99 {Γ : jb_G} {L : Nat} {d : Nat} (hd : 1 ≤ d) (M : jb_Mi) (N : jb_Ml) {v : Option Value} {σ2 : jb_S} {r : (Int32 × jb_Mi)} (h : zf_99 M = some r) (hK : (fun r : Int32 × jb_Mi => v = some (.int r.1) ∧ σ2 = (zE L, r.2, N)) r) : jb_V Γ d zq_99 0 [some (.ref 34), some (.ref 2), none, none, none, none, none, none, none] [] (zE L, M, N) v σ2 := by
  obtain ⟨d, rfl⟩ : ∃ e, d = e + 1 := ⟨d - 1, by omega⟩
  unfold zf_99 at h
  refine jb_seg 10 (pc' := 14) (ls' := [some (.ref 34), some (.ref 2), some (.int 0), some (.int 0), none, none, none, none, none]) (st' := []) (σ' := (zE L, (jb_up (jb_up M 34 3 0) 34 7 0), N)) (G := []) rfl trivial ?_
  exact jb_mask [true, true, true, true, false, false, false, false, false] rfl (zg_99_H14L hd N h hK)
theorem ze_99 {Γ : jb_G} {L : Nat} {d : Nat} (hd : 1 ≤ d) (M : jb_Mi) (N : jb_Ml) {r : (Int32 × jb_Mi)} (h : zf_99 M = some r) : jb_V Γ d zq_99 0 (jb_en 9 [(.ref 34), (.ref 2)]) [] (zE L, M, N) (some (.int r.1)) (zE L, r.2, N) := zg_99 hd M N h ⟨rfl, rfl⟩
-- X8_post
noncomputable def zf_100 (x1 : Int32) (M : jb_Mi) : Option (jb_Mi) :=
  if (jb_b2i (zf_23 x1 0 23)) = 0 then some M else jb_gc 0 (x1 * 48) (M 34 3) 48 1152 (jb_gd x1 24 (some (jb_up (jb_cp M 37 35 0 ((x1 * 48)).toNatClampNeg ((M 34 3)).toNatClampNeg) 36 x1.toNatClampNeg ((jb_cp M 37 35 0 ((x1 * 48)).toNatClampNeg ((M 34 3)).toNatClampNeg) 34 3))))
set_option maxRecDepth 4000 in
theorem zg_100 {Γ : jb_G} {L : Nat} {d : Nat} (hd : 1 ≤ d) (x1 : Int32) (M : jb_Mi) (N : jb_Ml) {v : Option Value} {σ2 : jb_S} {r : (jb_Mi)} (h : zf_100 x1 M = some r) (hK : (fun r : jb_Mi => v = none ∧ σ2 = (zE L, r, N)) r) : jb_V Γ d zq_100 0 [some (.ref 34), some (.int x1)] [] (zE L, M, N) v σ2 := by
  obtain ⟨d, rfl⟩ : ∃ e, d = e + 1 := ⟨d - 1, by omega⟩
  unfold zf_100 at h
  refine jb_seg 3 (pc' := 4) (ls' := [some (.ref 34), some (.int x1)]) (st' := [(.int 23), (.int 0), (.int x1)]) (σ' := (zE L, M, N)) (G := []) rfl trivial ?_
  refine jb_callS (q' := zq_23) (As := [(.int x1), (.int 0), (.int 23)]) (rest := []) (σ1 := (zE L, M, N)) (v := some (.int (jb_b2i (zf_23 x1 0 23)))) rfl (by decide) rfl zp_23 (jb_cat rfl) (Nat.le_of_ble_eq_true rfl) (Nat.le_of_ble_eq_true rfl) (Or.inl rfl) rfl (ze_23 x1 0 23 M N rfl) ?_
  refine jb_seg 1 (pc' := (if (jb_b2i (zf_23 x1 0 23)) = 0 then 10 else 11)) (ls' := [some (.ref 34), some (.int x1)]) (st' := []) (σ' := (zE L, M, N)) (G := []) rfl trivial ?_
  refine jb_ite (fun c => ?_) (fun c => ?_)
  · rw [if_pos c] at h
    cases h
    obtain ⟨rfl, rfl⟩ := hK
    exact jb_retv rfl rfl
  · rw [if_neg c] at h
    refine jb_seg 10 (pc' := 28) (ls' := [some (.ref 34), some (.int x1)]) (st' := [(.int (M 34 3)), (.int (x1 * 48)), (.ref 35), (.int 0), (.ref 37)]) (σ' := (zE L, M, N)) (G := []) rfl trivial ?_
    obtain ⟨g1, h⟩ := jb_gc_of h
    refine jb_copyi (rest := []) rfl rfl rfl g1 (Nat.le_of_ble_eq_true rfl) ?_
    obtain ⟨g2, h⟩ := jb_gd_of h
    refine jb_seg 6 (pc' := 41) (ls' := [some (.ref 34), some (.int x1)]) (st' := []) (σ' := (zE L, (jb_up (jb_cp M 37 35 0 ((x1 * 48)).toNatClampNeg ((M 34 3)).toNatClampNeg) 36 x1.toNatClampNeg ((jb_cp M 37 35 0 ((x1 * 48)).toNatClampNeg ((M 34 3)).toNatClampNeg) 34 3)), N)) (G := [vp_in x1 24]) rfl g2 ?_
    cases h
    obtain ⟨rfl, rfl⟩ := hK
    exact jb_retv rfl rfl
theorem ze_100 {Γ : jb_G} {L : Nat} {d : Nat} (hd : 1 ≤ d) (x1 : Int32) (M : jb_Mi) (N : jb_Ml) {r : (jb_Mi)} (h : zf_100 x1 M = some r) : jb_V Γ d zq_100 0 (jb_en 2 [(.ref 34), (.int x1)]) [] (zE L, M, N) (none) (zE L, r, N) := zg_100 hd x1 M N h ⟨rfl, rfl⟩
-- X9_copy
noncomputable def zf_102 (o : Nat) (o2 : Nat) (M : jb_Mi) : jb_Mi :=
  (jb_up (jb_up (jb_up (jb_cp (jb_cp (jb_cp (jb_cp (jb_cp (jb_cp (jb_cp (jb_cp (jb_cp M (o2 + 1) (o + 1) 0 0 6) (o2 + 2) (o + 2) 0 0 6) (o2 + 3) (o + 3) 0 0 6) (o2 + 4) (o + 4) 0 0 24) (o2 + 5) (o + 5) 0 0 24) (o2 + 6) (o + 6) 0 0 24) (o2 + 7) (o + 7) 0 0 24) (o2 + 8) (o + 8) 0 0 16) (o2 + 9) (o + 9) 0 0 16) o 9 ((jb_cp (jb_cp (jb_cp (jb_cp (jb_cp (jb_cp (jb_cp (jb_cp (jb_cp M (o2 + 1) (o + 1) 0 0 6) (o2 + 2) (o + 2) 0 0 6) (o2 + 3) (o + 3) 0 0 6) (o2 + 4) (o + 4) 0 0 24) (o2 + 5) (o + 5) 0 0 24) (o2 + 6) (o + 6) 0 0 24) (o2 + 7) (o + 7) 0 0 24) (o2 + 8) (o + 8) 0 0 16) (o2 + 9) (o + 9) 0 0 16) o2 9)) o 10 ((jb_up (jb_cp (jb_cp (jb_cp (jb_cp (jb_cp (jb_cp (jb_cp (jb_cp (jb_cp M (o2 + 1) (o + 1) 0 0 6) (o2 + 2) (o + 2) 0 0 6) (o2 + 3) (o + 3) 0 0 6) (o2 + 4) (o + 4) 0 0 24) (o2 + 5) (o + 5) 0 0 24) (o2 + 6) (o + 6) 0 0 24) (o2 + 7) (o + 7) 0 0 24) (o2 + 8) (o + 8) 0 0 16) (o2 + 9) (o + 9) 0 0 16) o 9 ((jb_cp (jb_cp (jb_cp (jb_cp (jb_cp (jb_cp (jb_cp (jb_cp (jb_cp M (o2 + 1) (o + 1) 0 0 6) (o2 + 2) (o + 2) 0 0 6) (o2 + 3) (o + 3) 0 0 6) (o2 + 4) (o + 4) 0 0 24) (o2 + 5) (o + 5) 0 0 24) (o2 + 6) (o + 6) 0 0 24) (o2 + 7) (o + 7) 0 0 24) (o2 + 8) (o + 8) 0 0 16) (o2 + 9) (o + 9) 0 0 16) o2 9)) o2 10)) o 11 ((jb_up (jb_up (jb_cp (jb_cp (jb_cp (jb_cp (jb_cp (jb_cp (jb_cp (jb_cp (jb_cp M (o2 + 1) (o + 1) 0 0 6) (o2 + 2) (o + 2) 0 0 6) (o2 + 3) (o + 3) 0 0 6) (o2 + 4) (o + 4) 0 0 24) (o2 + 5) (o + 5) 0 0 24) (o2 + 6) (o + 6) 0 0 24) (o2 + 7) (o + 7) 0 0 24) (o2 + 8) (o + 8) 0 0 16) (o2 + 9) (o + 9) 0 0 16) o 9 ((jb_cp (jb_cp (jb_cp (jb_cp (jb_cp (jb_cp (jb_cp (jb_cp (jb_cp M (o2 + 1) (o + 1) 0 0 6) (o2 + 2) (o + 2) 0 0 6) (o2 + 3) (o + 3) 0 0 6) (o2 + 4) (o + 4) 0 0 24) (o2 + 5) (o + 5) 0 0 24) (o2 + 6) (o + 6) 0 0 24) (o2 + 7) (o + 7) 0 0 24) (o2 + 8) (o + 8) 0 0 16) (o2 + 9) (o + 9) 0 0 16) o2 9)) o 10 ((jb_up (jb_cp (jb_cp (jb_cp (jb_cp (jb_cp (jb_cp (jb_cp (jb_cp (jb_cp M (o2 + 1) (o + 1) 0 0 6) (o2 + 2) (o + 2) 0 0 6) (o2 + 3) (o + 3) 0 0 6) (o2 + 4) (o + 4) 0 0 24) (o2 + 5) (o + 5) 0 0 24) (o2 + 6) (o + 6) 0 0 24) (o2 + 7) (o + 7) 0 0 24) (o2 + 8) (o + 8) 0 0 16) (o2 + 9) (o + 9) 0 0 16) o 9 ((jb_cp (jb_cp (jb_cp (jb_cp (jb_cp (jb_cp (jb_cp (jb_cp (jb_cp M (o2 + 1) (o + 1) 0 0 6) (o2 + 2) (o + 2) 0 0 6) (o2 + 3) (o + 3) 0 0 6) (o2 + 4) (o + 4) 0 0 24) (o2 + 5) (o + 5) 0 0 24) (o2 + 6) (o + 6) 0 0 24) (o2 + 7) (o + 7) 0 0 24) (o2 + 8) (o + 8) 0 0 16) (o2 + 9) (o + 9) 0 0 16) o2 9)) o2 10)) o2 11))
set_option maxRecDepth 4000 in
theorem zg_102 {Γ : jb_G} {L : Nat} {d : Nat} (hd : 1 ≤ d) (o : Nat) (o2 : Nat) (M : jb_Mi) (N : jb_Ml) (hp : (o = 14 ∧ o2 = 4) ∨ (o = 4 ∧ o2 = 14) ∨ (o = 24 ∧ o2 = 4) ∨ (o = 4 ∧ o2 = 24)) {v : Option Value} {σ2 : jb_S} {r : jb_Mi} (h : zf_102 o o2 M = r) (hK : (fun r : jb_Mi => v = none ∧ σ2 = (zE L, r, N)) r) : jb_V Γ d zq_102 0 [some (.ref o), some (.ref o2)] [] (zE L, M, N) v σ2 := by
  rcases hp with ⟨rfl, rfl⟩ | ⟨rfl, rfl⟩ | ⟨rfl, rfl⟩ | ⟨rfl, rfl⟩
  · obtain ⟨d, rfl⟩ : ∃ e, d = e + 1 := ⟨d - 1, by omega⟩
    unfold zf_102 at h
    refine jb_seg 7 (pc' := 12) (ls' := [some (.ref 14), some (.ref 4)]) (st' := [(.int 6), (.int 0), (.ref (14 + 1)), (.int 0), (.ref (4 + 1))]) (σ' := (zE L, M, N)) (G := []) rfl trivial ?_
    refine jb_copyi (rest := []) rfl rfl rfl (by decide) (Nat.le_of_ble_eq_true rfl) ?_
    refine jb_seg 7 (pc' := 27) (ls' := [some (.ref 14), some (.ref 4)]) (st' := [(.int 6), (.int 0), (.ref (14 + 2)), (.int 0), (.ref (4 + 2))]) (σ' := (zE L, (jb_cp M (4 + 1) (14 + 1) 0 0 6), N)) (G := []) rfl trivial ?_
    refine jb_copyi (rest := []) rfl rfl rfl (by decide) (Nat.le_of_ble_eq_true rfl) ?_
    refine jb_seg 7 (pc' := 42) (ls' := [some (.ref 14), some (.ref 4)]) (st' := [(.int 6), (.int 0), (.ref (14 + 3)), (.int 0), (.ref (4 + 3))]) (σ' := (zE L, (jb_cp (jb_cp M (4 + 1) (14 + 1) 0 0 6) (4 + 2) (14 + 2) 0 0 6), N)) (G := []) rfl trivial ?_
    refine jb_copyi (rest := []) rfl rfl rfl (by decide) (Nat.le_of_ble_eq_true rfl) ?_
    refine jb_seg 7 (pc' := 57) (ls' := [some (.ref 14), some (.ref 4)]) (st' := [(.int 24), (.int 0), (.ref (14 + 4)), (.int 0), (.ref (4 + 4))]) (σ' := (zE L, (jb_cp (jb_cp (jb_cp M (4 + 1) (14 + 1) 0 0 6) (4 + 2) (14 + 2) 0 0 6) (4 + 3) (14 + 3) 0 0 6), N)) (G := []) rfl trivial ?_
    refine jb_copyi (rest := []) rfl rfl rfl (by decide) (Nat.le_of_ble_eq_true rfl) ?_
    refine jb_seg 7 (pc' := 72) (ls' := [some (.ref 14), some (.ref 4)]) (st' := [(.int 24), (.int 0), (.ref (14 + 5)), (.int 0), (.ref (4 + 5))]) (σ' := (zE L, (jb_cp (jb_cp (jb_cp (jb_cp M (4 + 1) (14 + 1) 0 0 6) (4 + 2) (14 + 2) 0 0 6) (4 + 3) (14 + 3) 0 0 6) (4 + 4) (14 + 4) 0 0 24), N)) (G := []) rfl trivial ?_
    refine jb_copyi (rest := []) rfl rfl rfl (by decide) (Nat.le_of_ble_eq_true rfl) ?_
    refine jb_seg 7 (pc' := 87) (ls' := [some (.ref 14), some (.ref 4)]) (st' := [(.int 24), (.int 0), (.ref (14 + 6)), (.int 0), (.ref (4 + 6))]) (σ' := (zE L, (jb_cp (jb_cp (jb_cp (jb_cp (jb_cp M (4 + 1) (14 + 1) 0 0 6) (4 + 2) (14 + 2) 0 0 6) (4 + 3) (14 + 3) 0 0 6) (4 + 4) (14 + 4) 0 0 24) (4 + 5) (14 + 5) 0 0 24), N)) (G := []) rfl trivial ?_
    refine jb_copyi (rest := []) rfl rfl rfl (by decide) (Nat.le_of_ble_eq_true rfl) ?_
    refine jb_seg 7 (pc' := 102) (ls' := [some (.ref 14), some (.ref 4)]) (st' := [(.int 24), (.int 0), (.ref (14 + 7)), (.int 0), (.ref (4 + 7))]) (σ' := (zE L, (jb_cp (jb_cp (jb_cp (jb_cp (jb_cp (jb_cp M (4 + 1) (14 + 1) 0 0 6) (4 + 2) (14 + 2) 0 0 6) (4 + 3) (14 + 3) 0 0 6) (4 + 4) (14 + 4) 0 0 24) (4 + 5) (14 + 5) 0 0 24) (4 + 6) (14 + 6) 0 0 24), N)) (G := []) rfl trivial ?_
    refine jb_copyi (rest := []) rfl rfl rfl (by decide) (Nat.le_of_ble_eq_true rfl) ?_
    refine jb_seg 7 (pc' := 117) (ls' := [some (.ref 14), some (.ref 4)]) (st' := [(.int 16), (.int 0), (.ref (14 + 8)), (.int 0), (.ref (4 + 8))]) (σ' := (zE L, (jb_cp (jb_cp (jb_cp (jb_cp (jb_cp (jb_cp (jb_cp M (4 + 1) (14 + 1) 0 0 6) (4 + 2) (14 + 2) 0 0 6) (4 + 3) (14 + 3) 0 0 6) (4 + 4) (14 + 4) 0 0 24) (4 + 5) (14 + 5) 0 0 24) (4 + 6) (14 + 6) 0 0 24) (4 + 7) (14 + 7) 0 0 24), N)) (G := []) rfl trivial ?_
    refine jb_copyi (rest := []) rfl rfl rfl (by decide) (Nat.le_of_ble_eq_true rfl) ?_
    refine jb_seg 7 (pc' := 132) (ls' := [some (.ref 14), some (.ref 4)]) (st' := [(.int 16), (.int 0), (.ref (14 + 9)), (.int 0), (.ref (4 + 9))]) (σ' := (zE L, (jb_cp (jb_cp (jb_cp (jb_cp (jb_cp (jb_cp (jb_cp (jb_cp M (4 + 1) (14 + 1) 0 0 6) (4 + 2) (14 + 2) 0 0 6) (4 + 3) (14 + 3) 0 0 6) (4 + 4) (14 + 4) 0 0 24) (4 + 5) (14 + 5) 0 0 24) (4 + 6) (14 + 6) 0 0 24) (4 + 7) (14 + 7) 0 0 24) (4 + 8) (14 + 8) 0 0 16), N)) (G := []) rfl trivial ?_
    refine jb_copyi (rest := []) rfl rfl rfl (by decide) (Nat.le_of_ble_eq_true rfl) ?_
    refine jb_seg 12 (pc' := 159) (ls' := [some (.ref 14), some (.ref 4)]) (st' := []) (σ' := (zE L, (jb_up (jb_up (jb_up (jb_cp (jb_cp (jb_cp (jb_cp (jb_cp (jb_cp (jb_cp (jb_cp (jb_cp M (4 + 1) (14 + 1) 0 0 6) (4 + 2) (14 + 2) 0 0 6) (4 + 3) (14 + 3) 0 0 6) (4 + 4) (14 + 4) 0 0 24) (4 + 5) (14 + 5) 0 0 24) (4 + 6) (14 + 6) 0 0 24) (4 + 7) (14 + 7) 0 0 24) (4 + 8) (14 + 8) 0 0 16) (4 + 9) (14 + 9) 0 0 16) 14 9 ((jb_cp (jb_cp (jb_cp (jb_cp (jb_cp (jb_cp (jb_cp (jb_cp (jb_cp M (4 + 1) (14 + 1) 0 0 6) (4 + 2) (14 + 2) 0 0 6) (4 + 3) (14 + 3) 0 0 6) (4 + 4) (14 + 4) 0 0 24) (4 + 5) (14 + 5) 0 0 24) (4 + 6) (14 + 6) 0 0 24) (4 + 7) (14 + 7) 0 0 24) (4 + 8) (14 + 8) 0 0 16) (4 + 9) (14 + 9) 0 0 16) 4 9)) 14 10 ((jb_up (jb_cp (jb_cp (jb_cp (jb_cp (jb_cp (jb_cp (jb_cp (jb_cp (jb_cp M (4 + 1) (14 + 1) 0 0 6) (4 + 2) (14 + 2) 0 0 6) (4 + 3) (14 + 3) 0 0 6) (4 + 4) (14 + 4) 0 0 24) (4 + 5) (14 + 5) 0 0 24) (4 + 6) (14 + 6) 0 0 24) (4 + 7) (14 + 7) 0 0 24) (4 + 8) (14 + 8) 0 0 16) (4 + 9) (14 + 9) 0 0 16) 14 9 ((jb_cp (jb_cp (jb_cp (jb_cp (jb_cp (jb_cp (jb_cp (jb_cp (jb_cp M (4 + 1) (14 + 1) 0 0 6) (4 + 2) (14 + 2) 0 0 6) (4 + 3) (14 + 3) 0 0 6) (4 + 4) (14 + 4) 0 0 24) (4 + 5) (14 + 5) 0 0 24) (4 + 6) (14 + 6) 0 0 24) (4 + 7) (14 + 7) 0 0 24) (4 + 8) (14 + 8) 0 0 16) (4 + 9) (14 + 9) 0 0 16) 4 9)) 4 10)) 14 11 ((jb_up (jb_up (jb_cp (jb_cp (jb_cp (jb_cp (jb_cp (jb_cp (jb_cp (jb_cp (jb_cp M (4 + 1) (14 + 1) 0 0 6) (4 + 2) (14 + 2) 0 0 6) (4 + 3) (14 + 3) 0 0 6) (4 + 4) (14 + 4) 0 0 24) (4 + 5) (14 + 5) 0 0 24) (4 + 6) (14 + 6) 0 0 24) (4 + 7) (14 + 7) 0 0 24) (4 + 8) (14 + 8) 0 0 16) (4 + 9) (14 + 9) 0 0 16) 14 9 ((jb_cp (jb_cp (jb_cp (jb_cp (jb_cp (jb_cp (jb_cp (jb_cp (jb_cp M (4 + 1) (14 + 1) 0 0 6) (4 + 2) (14 + 2) 0 0 6) (4 + 3) (14 + 3) 0 0 6) (4 + 4) (14 + 4) 0 0 24) (4 + 5) (14 + 5) 0 0 24) (4 + 6) (14 + 6) 0 0 24) (4 + 7) (14 + 7) 0 0 24) (4 + 8) (14 + 8) 0 0 16) (4 + 9) (14 + 9) 0 0 16) 4 9)) 14 10 ((jb_up (jb_cp (jb_cp (jb_cp (jb_cp (jb_cp (jb_cp (jb_cp (jb_cp (jb_cp M (4 + 1) (14 + 1) 0 0 6) (4 + 2) (14 + 2) 0 0 6) (4 + 3) (14 + 3) 0 0 6) (4 + 4) (14 + 4) 0 0 24) (4 + 5) (14 + 5) 0 0 24) (4 + 6) (14 + 6) 0 0 24) (4 + 7) (14 + 7) 0 0 24) (4 + 8) (14 + 8) 0 0 16) (4 + 9) (14 + 9) 0 0 16) 14 9 ((jb_cp (jb_cp (jb_cp (jb_cp (jb_cp (jb_cp (jb_cp (jb_cp (jb_cp M (4 + 1) (14 + 1) 0 0 6) (4 + 2) (14 + 2) 0 0 6) (4 + 3) (14 + 3) 0 0 6) (4 + 4) (14 + 4) 0 0 24) (4 + 5) (14 + 5) 0 0 24) (4 + 6) (14 + 6) 0 0 24) (4 + 7) (14 + 7) 0 0 24) (4 + 8) (14 + 8) 0 0 16) (4 + 9) (14 + 9) 0 0 16) 4 9)) 4 10)) 4 11)), N)) (G := []) rfl trivial ?_
    subst h
    obtain ⟨rfl, rfl⟩ := hK
    exact jb_retv rfl rfl
  · obtain ⟨d, rfl⟩ : ∃ e, d = e + 1 := ⟨d - 1, by omega⟩
    unfold zf_102 at h
    refine jb_seg 7 (pc' := 12) (ls' := [some (.ref 4), some (.ref 14)]) (st' := [(.int 6), (.int 0), (.ref (4 + 1)), (.int 0), (.ref (14 + 1))]) (σ' := (zE L, M, N)) (G := []) rfl trivial ?_
    refine jb_copyi (rest := []) rfl rfl rfl (by decide) (Nat.le_of_ble_eq_true rfl) ?_
    refine jb_seg 7 (pc' := 27) (ls' := [some (.ref 4), some (.ref 14)]) (st' := [(.int 6), (.int 0), (.ref (4 + 2)), (.int 0), (.ref (14 + 2))]) (σ' := (zE L, (jb_cp M (14 + 1) (4 + 1) 0 0 6), N)) (G := []) rfl trivial ?_
    refine jb_copyi (rest := []) rfl rfl rfl (by decide) (Nat.le_of_ble_eq_true rfl) ?_
    refine jb_seg 7 (pc' := 42) (ls' := [some (.ref 4), some (.ref 14)]) (st' := [(.int 6), (.int 0), (.ref (4 + 3)), (.int 0), (.ref (14 + 3))]) (σ' := (zE L, (jb_cp (jb_cp M (14 + 1) (4 + 1) 0 0 6) (14 + 2) (4 + 2) 0 0 6), N)) (G := []) rfl trivial ?_
    refine jb_copyi (rest := []) rfl rfl rfl (by decide) (Nat.le_of_ble_eq_true rfl) ?_
    refine jb_seg 7 (pc' := 57) (ls' := [some (.ref 4), some (.ref 14)]) (st' := [(.int 24), (.int 0), (.ref (4 + 4)), (.int 0), (.ref (14 + 4))]) (σ' := (zE L, (jb_cp (jb_cp (jb_cp M (14 + 1) (4 + 1) 0 0 6) (14 + 2) (4 + 2) 0 0 6) (14 + 3) (4 + 3) 0 0 6), N)) (G := []) rfl trivial ?_
    refine jb_copyi (rest := []) rfl rfl rfl (by decide) (Nat.le_of_ble_eq_true rfl) ?_
    refine jb_seg 7 (pc' := 72) (ls' := [some (.ref 4), some (.ref 14)]) (st' := [(.int 24), (.int 0), (.ref (4 + 5)), (.int 0), (.ref (14 + 5))]) (σ' := (zE L, (jb_cp (jb_cp (jb_cp (jb_cp M (14 + 1) (4 + 1) 0 0 6) (14 + 2) (4 + 2) 0 0 6) (14 + 3) (4 + 3) 0 0 6) (14 + 4) (4 + 4) 0 0 24), N)) (G := []) rfl trivial ?_
    refine jb_copyi (rest := []) rfl rfl rfl (by decide) (Nat.le_of_ble_eq_true rfl) ?_
    refine jb_seg 7 (pc' := 87) (ls' := [some (.ref 4), some (.ref 14)]) (st' := [(.int 24), (.int 0), (.ref (4 + 6)), (.int 0), (.ref (14 + 6))]) (σ' := (zE L, (jb_cp (jb_cp (jb_cp (jb_cp (jb_cp M (14 + 1) (4 + 1) 0 0 6) (14 + 2) (4 + 2) 0 0 6) (14 + 3) (4 + 3) 0 0 6) (14 + 4) (4 + 4) 0 0 24) (14 + 5) (4 + 5) 0 0 24), N)) (G := []) rfl trivial ?_
    refine jb_copyi (rest := []) rfl rfl rfl (by decide) (Nat.le_of_ble_eq_true rfl) ?_
    refine jb_seg 7 (pc' := 102) (ls' := [some (.ref 4), some (.ref 14)]) (st' := [(.int 24), (.int 0), (.ref (4 + 7)), (.int 0), (.ref (14 + 7))]) (σ' := (zE L, (jb_cp (jb_cp (jb_cp (jb_cp (jb_cp (jb_cp M (14 + 1) (4 + 1) 0 0 6) (14 + 2) (4 + 2) 0 0 6) (14 + 3) (4 + 3) 0 0 6) (14 + 4) (4 + 4) 0 0 24) (14 + 5) (4 + 5) 0 0 24) (14 + 6) (4 + 6) 0 0 24), N)) (G := []) rfl trivial ?_
    refine jb_copyi (rest := []) rfl rfl rfl (by decide) (Nat.le_of_ble_eq_true rfl) ?_
    refine jb_seg 7 (pc' := 117) (ls' := [some (.ref 4), some (.ref 14)]) (st' := [(.int 16), (.int 0), (.ref (4 + 8)), (.int 0), (.ref (14 + 8))]) (σ' := (zE L, (jb_cp (jb_cp (jb_cp (jb_cp (jb_cp (jb_cp (jb_cp M (14 + 1) (4 + 1) 0 0 6) (14 + 2) (4 + 2) 0 0 6) (14 + 3) (4 + 3) 0 0 6) (14 + 4) (4 + 4) 0 0 24) (14 + 5) (4 + 5) 0 0 24) (14 + 6) (4 + 6) 0 0 24) (14 + 7) (4 + 7) 0 0 24), N)) (G := []) rfl trivial ?_
    refine jb_copyi (rest := []) rfl rfl rfl (by decide) (Nat.le_of_ble_eq_true rfl) ?_
    refine jb_seg 7 (pc' := 132) (ls' := [some (.ref 4), some (.ref 14)]) (st' := [(.int 16), (.int 0), (.ref (4 + 9)), (.int 0), (.ref (14 + 9))]) (σ' := (zE L, (jb_cp (jb_cp (jb_cp (jb_cp (jb_cp (jb_cp (jb_cp (jb_cp M (14 + 1) (4 + 1) 0 0 6) (14 + 2) (4 + 2) 0 0 6) (14 + 3) (4 + 3) 0 0 6) (14 + 4) (4 + 4) 0 0 24) (14 + 5) (4 + 5) 0 0 24) (14 + 6) (4 + 6) 0 0 24) (14 + 7) (4 + 7) 0 0 24) (14 + 8) (4 + 8) 0 0 16), N)) (G := []) rfl trivial ?_
    refine jb_copyi (rest := []) rfl rfl rfl (by decide) (Nat.le_of_ble_eq_true rfl) ?_
    refine jb_seg 12 (pc' := 159) (ls' := [some (.ref 4), some (.ref 14)]) (st' := []) (σ' := (zE L, (jb_up (jb_up (jb_up (jb_cp (jb_cp (jb_cp (jb_cp (jb_cp (jb_cp (jb_cp (jb_cp (jb_cp M (14 + 1) (4 + 1) 0 0 6) (14 + 2) (4 + 2) 0 0 6) (14 + 3) (4 + 3) 0 0 6) (14 + 4) (4 + 4) 0 0 24) (14 + 5) (4 + 5) 0 0 24) (14 + 6) (4 + 6) 0 0 24) (14 + 7) (4 + 7) 0 0 24) (14 + 8) (4 + 8) 0 0 16) (14 + 9) (4 + 9) 0 0 16) 4 9 ((jb_cp (jb_cp (jb_cp (jb_cp (jb_cp (jb_cp (jb_cp (jb_cp (jb_cp M (14 + 1) (4 + 1) 0 0 6) (14 + 2) (4 + 2) 0 0 6) (14 + 3) (4 + 3) 0 0 6) (14 + 4) (4 + 4) 0 0 24) (14 + 5) (4 + 5) 0 0 24) (14 + 6) (4 + 6) 0 0 24) (14 + 7) (4 + 7) 0 0 24) (14 + 8) (4 + 8) 0 0 16) (14 + 9) (4 + 9) 0 0 16) 14 9)) 4 10 ((jb_up (jb_cp (jb_cp (jb_cp (jb_cp (jb_cp (jb_cp (jb_cp (jb_cp (jb_cp M (14 + 1) (4 + 1) 0 0 6) (14 + 2) (4 + 2) 0 0 6) (14 + 3) (4 + 3) 0 0 6) (14 + 4) (4 + 4) 0 0 24) (14 + 5) (4 + 5) 0 0 24) (14 + 6) (4 + 6) 0 0 24) (14 + 7) (4 + 7) 0 0 24) (14 + 8) (4 + 8) 0 0 16) (14 + 9) (4 + 9) 0 0 16) 4 9 ((jb_cp (jb_cp (jb_cp (jb_cp (jb_cp (jb_cp (jb_cp (jb_cp (jb_cp M (14 + 1) (4 + 1) 0 0 6) (14 + 2) (4 + 2) 0 0 6) (14 + 3) (4 + 3) 0 0 6) (14 + 4) (4 + 4) 0 0 24) (14 + 5) (4 + 5) 0 0 24) (14 + 6) (4 + 6) 0 0 24) (14 + 7) (4 + 7) 0 0 24) (14 + 8) (4 + 8) 0 0 16) (14 + 9) (4 + 9) 0 0 16) 14 9)) 14 10)) 4 11 ((jb_up (jb_up (jb_cp (jb_cp (jb_cp (jb_cp (jb_cp (jb_cp (jb_cp (jb_cp (jb_cp M (14 + 1) (4 + 1) 0 0 6) (14 + 2) (4 + 2) 0 0 6) (14 + 3) (4 + 3) 0 0 6) (14 + 4) (4 + 4) 0 0 24) (14 + 5) (4 + 5) 0 0 24) (14 + 6) (4 + 6) 0 0 24) (14 + 7) (4 + 7) 0 0 24) (14 + 8) (4 + 8) 0 0 16) (14 + 9) (4 + 9) 0 0 16) 4 9 ((jb_cp (jb_cp (jb_cp (jb_cp (jb_cp (jb_cp (jb_cp (jb_cp (jb_cp M (14 + 1) (4 + 1) 0 0 6) (14 + 2) (4 + 2) 0 0 6) (14 + 3) (4 + 3) 0 0 6) (14 + 4) (4 + 4) 0 0 24) (14 + 5) (4 + 5) 0 0 24) (14 + 6) (4 + 6) 0 0 24) (14 + 7) (4 + 7) 0 0 24) (14 + 8) (4 + 8) 0 0 16) (14 + 9) (4 + 9) 0 0 16) 14 9)) 4 10 ((jb_up (jb_cp (jb_cp (jb_cp (jb_cp (jb_cp (jb_cp (jb_cp (jb_cp (jb_cp M (14 + 1) (4 + 1) 0 0 6) (14 + 2) (4 + 2) 0 0 6) (14 + 3) (4 + 3) 0 0 6) (14 + 4) (4 + 4) 0 0 24) (14 + 5) (4 + 5) 0 0 24) (14 + 6) (4 + 6) 0 0 24) (14 + 7) (4 + 7) 0 0 24) (14 + 8) (4 + 8) 0 0 16) (14 + 9) (4 + 9) 0 0 16) 4 9 ((jb_cp (jb_cp (jb_cp (jb_cp (jb_cp (jb_cp (jb_cp (jb_cp (jb_cp M (14 + 1) (4 + 1) 0 0 6) (14 + 2) (4 + 2) 0 0 6) (14 + 3) (4 + 3) 0 0 6) (14 + 4) (4 + 4) 0 0 24) (14 + 5) (4 + 5) 0 0 24) (14 + 6) (4 + 6) 0 0 24) (14 + 7) (4 + 7) 0 0 24) (14 + 8) (4 + 8) 0 0 16) (14 + 9) (4 + 9) 0 0 16) 14 9)) 14 10)) 14 11)), N)) (G := []) rfl trivial ?_
    subst h
    obtain ⟨rfl, rfl⟩ := hK
    exact jb_retv rfl rfl
  · obtain ⟨d, rfl⟩ : ∃ e, d = e + 1 := ⟨d - 1, by omega⟩
    unfold zf_102 at h
    refine jb_seg 7 (pc' := 12) (ls' := [some (.ref 24), some (.ref 4)]) (st' := [(.int 6), (.int 0), (.ref (24 + 1)), (.int 0), (.ref (4 + 1))]) (σ' := (zE L, M, N)) (G := []) rfl trivial ?_
    refine jb_copyi (rest := []) rfl rfl rfl (by decide) (Nat.le_of_ble_eq_true rfl) ?_
    refine jb_seg 7 (pc' := 27) (ls' := [some (.ref 24), some (.ref 4)]) (st' := [(.int 6), (.int 0), (.ref (24 + 2)), (.int 0), (.ref (4 + 2))]) (σ' := (zE L, (jb_cp M (4 + 1) (24 + 1) 0 0 6), N)) (G := []) rfl trivial ?_
    refine jb_copyi (rest := []) rfl rfl rfl (by decide) (Nat.le_of_ble_eq_true rfl) ?_
    refine jb_seg 7 (pc' := 42) (ls' := [some (.ref 24), some (.ref 4)]) (st' := [(.int 6), (.int 0), (.ref (24 + 3)), (.int 0), (.ref (4 + 3))]) (σ' := (zE L, (jb_cp (jb_cp M (4 + 1) (24 + 1) 0 0 6) (4 + 2) (24 + 2) 0 0 6), N)) (G := []) rfl trivial ?_
    refine jb_copyi (rest := []) rfl rfl rfl (by decide) (Nat.le_of_ble_eq_true rfl) ?_
    refine jb_seg 7 (pc' := 57) (ls' := [some (.ref 24), some (.ref 4)]) (st' := [(.int 24), (.int 0), (.ref (24 + 4)), (.int 0), (.ref (4 + 4))]) (σ' := (zE L, (jb_cp (jb_cp (jb_cp M (4 + 1) (24 + 1) 0 0 6) (4 + 2) (24 + 2) 0 0 6) (4 + 3) (24 + 3) 0 0 6), N)) (G := []) rfl trivial ?_
    refine jb_copyi (rest := []) rfl rfl rfl (by decide) (Nat.le_of_ble_eq_true rfl) ?_
    refine jb_seg 7 (pc' := 72) (ls' := [some (.ref 24), some (.ref 4)]) (st' := [(.int 24), (.int 0), (.ref (24 + 5)), (.int 0), (.ref (4 + 5))]) (σ' := (zE L, (jb_cp (jb_cp (jb_cp (jb_cp M (4 + 1) (24 + 1) 0 0 6) (4 + 2) (24 + 2) 0 0 6) (4 + 3) (24 + 3) 0 0 6) (4 + 4) (24 + 4) 0 0 24), N)) (G := []) rfl trivial ?_
    refine jb_copyi (rest := []) rfl rfl rfl (by decide) (Nat.le_of_ble_eq_true rfl) ?_
    refine jb_seg 7 (pc' := 87) (ls' := [some (.ref 24), some (.ref 4)]) (st' := [(.int 24), (.int 0), (.ref (24 + 6)), (.int 0), (.ref (4 + 6))]) (σ' := (zE L, (jb_cp (jb_cp (jb_cp (jb_cp (jb_cp M (4 + 1) (24 + 1) 0 0 6) (4 + 2) (24 + 2) 0 0 6) (4 + 3) (24 + 3) 0 0 6) (4 + 4) (24 + 4) 0 0 24) (4 + 5) (24 + 5) 0 0 24), N)) (G := []) rfl trivial ?_
    refine jb_copyi (rest := []) rfl rfl rfl (by decide) (Nat.le_of_ble_eq_true rfl) ?_
    refine jb_seg 7 (pc' := 102) (ls' := [some (.ref 24), some (.ref 4)]) (st' := [(.int 24), (.int 0), (.ref (24 + 7)), (.int 0), (.ref (4 + 7))]) (σ' := (zE L, (jb_cp (jb_cp (jb_cp (jb_cp (jb_cp (jb_cp M (4 + 1) (24 + 1) 0 0 6) (4 + 2) (24 + 2) 0 0 6) (4 + 3) (24 + 3) 0 0 6) (4 + 4) (24 + 4) 0 0 24) (4 + 5) (24 + 5) 0 0 24) (4 + 6) (24 + 6) 0 0 24), N)) (G := []) rfl trivial ?_
    refine jb_copyi (rest := []) rfl rfl rfl (by decide) (Nat.le_of_ble_eq_true rfl) ?_
    refine jb_seg 7 (pc' := 117) (ls' := [some (.ref 24), some (.ref 4)]) (st' := [(.int 16), (.int 0), (.ref (24 + 8)), (.int 0), (.ref (4 + 8))]) (σ' := (zE L, (jb_cp (jb_cp (jb_cp (jb_cp (jb_cp (jb_cp (jb_cp M (4 + 1) (24 + 1) 0 0 6) (4 + 2) (24 + 2) 0 0 6) (4 + 3) (24 + 3) 0 0 6) (4 + 4) (24 + 4) 0 0 24) (4 + 5) (24 + 5) 0 0 24) (4 + 6) (24 + 6) 0 0 24) (4 + 7) (24 + 7) 0 0 24), N)) (G := []) rfl trivial ?_
    refine jb_copyi (rest := []) rfl rfl rfl (by decide) (Nat.le_of_ble_eq_true rfl) ?_
    refine jb_seg 7 (pc' := 132) (ls' := [some (.ref 24), some (.ref 4)]) (st' := [(.int 16), (.int 0), (.ref (24 + 9)), (.int 0), (.ref (4 + 9))]) (σ' := (zE L, (jb_cp (jb_cp (jb_cp (jb_cp (jb_cp (jb_cp (jb_cp (jb_cp M (4 + 1) (24 + 1) 0 0 6) (4 + 2) (24 + 2) 0 0 6) (4 + 3) (24 + 3) 0 0 6) (4 + 4) (24 + 4) 0 0 24) (4 + 5) (24 + 5) 0 0 24) (4 + 6) (24 + 6) 0 0 24) (4 + 7) (24 + 7) 0 0 24) (4 + 8) (24 + 8) 0 0 16), N)) (G := []) rfl trivial ?_
    refine jb_copyi (rest := []) rfl rfl rfl (by decide) (Nat.le_of_ble_eq_true rfl) ?_
    refine jb_seg 12 (pc' := 159) (ls' := [some (.ref 24), some (.ref 4)]) (st' := []) (σ' := (zE L, (jb_up (jb_up (jb_up (jb_cp (jb_cp (jb_cp (jb_cp (jb_cp (jb_cp (jb_cp (jb_cp (jb_cp M (4 + 1) (24 + 1) 0 0 6) (4 + 2) (24 + 2) 0 0 6) (4 + 3) (24 + 3) 0 0 6) (4 + 4) (24 + 4) 0 0 24) (4 + 5) (24 + 5) 0 0 24) (4 + 6) (24 + 6) 0 0 24) (4 + 7) (24 + 7) 0 0 24) (4 + 8) (24 + 8) 0 0 16) (4 + 9) (24 + 9) 0 0 16) 24 9 ((jb_cp (jb_cp (jb_cp (jb_cp (jb_cp (jb_cp (jb_cp (jb_cp (jb_cp M (4 + 1) (24 + 1) 0 0 6) (4 + 2) (24 + 2) 0 0 6) (4 + 3) (24 + 3) 0 0 6) (4 + 4) (24 + 4) 0 0 24) (4 + 5) (24 + 5) 0 0 24) (4 + 6) (24 + 6) 0 0 24) (4 + 7) (24 + 7) 0 0 24) (4 + 8) (24 + 8) 0 0 16) (4 + 9) (24 + 9) 0 0 16) 4 9)) 24 10 ((jb_up (jb_cp (jb_cp (jb_cp (jb_cp (jb_cp (jb_cp (jb_cp (jb_cp (jb_cp M (4 + 1) (24 + 1) 0 0 6) (4 + 2) (24 + 2) 0 0 6) (4 + 3) (24 + 3) 0 0 6) (4 + 4) (24 + 4) 0 0 24) (4 + 5) (24 + 5) 0 0 24) (4 + 6) (24 + 6) 0 0 24) (4 + 7) (24 + 7) 0 0 24) (4 + 8) (24 + 8) 0 0 16) (4 + 9) (24 + 9) 0 0 16) 24 9 ((jb_cp (jb_cp (jb_cp (jb_cp (jb_cp (jb_cp (jb_cp (jb_cp (jb_cp M (4 + 1) (24 + 1) 0 0 6) (4 + 2) (24 + 2) 0 0 6) (4 + 3) (24 + 3) 0 0 6) (4 + 4) (24 + 4) 0 0 24) (4 + 5) (24 + 5) 0 0 24) (4 + 6) (24 + 6) 0 0 24) (4 + 7) (24 + 7) 0 0 24) (4 + 8) (24 + 8) 0 0 16) (4 + 9) (24 + 9) 0 0 16) 4 9)) 4 10)) 24 11 ((jb_up (jb_up (jb_cp (jb_cp (jb_cp (jb_cp (jb_cp (jb_cp (jb_cp (jb_cp (jb_cp M (4 + 1) (24 + 1) 0 0 6) (4 + 2) (24 + 2) 0 0 6) (4 + 3) (24 + 3) 0 0 6) (4 + 4) (24 + 4) 0 0 24) (4 + 5) (24 + 5) 0 0 24) (4 + 6) (24 + 6) 0 0 24) (4 + 7) (24 + 7) 0 0 24) (4 + 8) (24 + 8) 0 0 16) (4 + 9) (24 + 9) 0 0 16) 24 9 ((jb_cp (jb_cp (jb_cp (jb_cp (jb_cp (jb_cp (jb_cp (jb_cp (jb_cp M (4 + 1) (24 + 1) 0 0 6) (4 + 2) (24 + 2) 0 0 6) (4 + 3) (24 + 3) 0 0 6) (4 + 4) (24 + 4) 0 0 24) (4 + 5) (24 + 5) 0 0 24) (4 + 6) (24 + 6) 0 0 24) (4 + 7) (24 + 7) 0 0 24) (4 + 8) (24 + 8) 0 0 16) (4 + 9) (24 + 9) 0 0 16) 4 9)) 24 10 ((jb_up (jb_cp (jb_cp (jb_cp (jb_cp (jb_cp (jb_cp (jb_cp (jb_cp (jb_cp M (4 + 1) (24 + 1) 0 0 6) (4 + 2) (24 + 2) 0 0 6) (4 + 3) (24 + 3) 0 0 6) (4 + 4) (24 + 4) 0 0 24) (4 + 5) (24 + 5) 0 0 24) (4 + 6) (24 + 6) 0 0 24) (4 + 7) (24 + 7) 0 0 24) (4 + 8) (24 + 8) 0 0 16) (4 + 9) (24 + 9) 0 0 16) 24 9 ((jb_cp (jb_cp (jb_cp (jb_cp (jb_cp (jb_cp (jb_cp (jb_cp (jb_cp M (4 + 1) (24 + 1) 0 0 6) (4 + 2) (24 + 2) 0 0 6) (4 + 3) (24 + 3) 0 0 6) (4 + 4) (24 + 4) 0 0 24) (4 + 5) (24 + 5) 0 0 24) (4 + 6) (24 + 6) 0 0 24) (4 + 7) (24 + 7) 0 0 24) (4 + 8) (24 + 8) 0 0 16) (4 + 9) (24 + 9) 0 0 16) 4 9)) 4 10)) 4 11)), N)) (G := []) rfl trivial ?_
    subst h
    obtain ⟨rfl, rfl⟩ := hK
    exact jb_retv rfl rfl
  · obtain ⟨d, rfl⟩ : ∃ e, d = e + 1 := ⟨d - 1, by omega⟩
    unfold zf_102 at h
    refine jb_seg 7 (pc' := 12) (ls' := [some (.ref 4), some (.ref 24)]) (st' := [(.int 6), (.int 0), (.ref (4 + 1)), (.int 0), (.ref (24 + 1))]) (σ' := (zE L, M, N)) (G := []) rfl trivial ?_
    refine jb_copyi (rest := []) rfl rfl rfl (by decide) (Nat.le_of_ble_eq_true rfl) ?_
    refine jb_seg 7 (pc' := 27) (ls' := [some (.ref 4), some (.ref 24)]) (st' := [(.int 6), (.int 0), (.ref (4 + 2)), (.int 0), (.ref (24 + 2))]) (σ' := (zE L, (jb_cp M (24 + 1) (4 + 1) 0 0 6), N)) (G := []) rfl trivial ?_
    refine jb_copyi (rest := []) rfl rfl rfl (by decide) (Nat.le_of_ble_eq_true rfl) ?_
    refine jb_seg 7 (pc' := 42) (ls' := [some (.ref 4), some (.ref 24)]) (st' := [(.int 6), (.int 0), (.ref (4 + 3)), (.int 0), (.ref (24 + 3))]) (σ' := (zE L, (jb_cp (jb_cp M (24 + 1) (4 + 1) 0 0 6) (24 + 2) (4 + 2) 0 0 6), N)) (G := []) rfl trivial ?_
    refine jb_copyi (rest := []) rfl rfl rfl (by decide) (Nat.le_of_ble_eq_true rfl) ?_
    refine jb_seg 7 (pc' := 57) (ls' := [some (.ref 4), some (.ref 24)]) (st' := [(.int 24), (.int 0), (.ref (4 + 4)), (.int 0), (.ref (24 + 4))]) (σ' := (zE L, (jb_cp (jb_cp (jb_cp M (24 + 1) (4 + 1) 0 0 6) (24 + 2) (4 + 2) 0 0 6) (24 + 3) (4 + 3) 0 0 6), N)) (G := []) rfl trivial ?_
    refine jb_copyi (rest := []) rfl rfl rfl (by decide) (Nat.le_of_ble_eq_true rfl) ?_
    refine jb_seg 7 (pc' := 72) (ls' := [some (.ref 4), some (.ref 24)]) (st' := [(.int 24), (.int 0), (.ref (4 + 5)), (.int 0), (.ref (24 + 5))]) (σ' := (zE L, (jb_cp (jb_cp (jb_cp (jb_cp M (24 + 1) (4 + 1) 0 0 6) (24 + 2) (4 + 2) 0 0 6) (24 + 3) (4 + 3) 0 0 6) (24 + 4) (4 + 4) 0 0 24), N)) (G := []) rfl trivial ?_
    refine jb_copyi (rest := []) rfl rfl rfl (by decide) (Nat.le_of_ble_eq_true rfl) ?_
    refine jb_seg 7 (pc' := 87) (ls' := [some (.ref 4), some (.ref 24)]) (st' := [(.int 24), (.int 0), (.ref (4 + 6)), (.int 0), (.ref (24 + 6))]) (σ' := (zE L, (jb_cp (jb_cp (jb_cp (jb_cp (jb_cp M (24 + 1) (4 + 1) 0 0 6) (24 + 2) (4 + 2) 0 0 6) (24 + 3) (4 + 3) 0 0 6) (24 + 4) (4 + 4) 0 0 24) (24 + 5) (4 + 5) 0 0 24), N)) (G := []) rfl trivial ?_
    refine jb_copyi (rest := []) rfl rfl rfl (by decide) (Nat.le_of_ble_eq_true rfl) ?_
    refine jb_seg 7 (pc' := 102) (ls' := [some (.ref 4), some (.ref 24)]) (st' := [(.int 24), (.int 0), (.ref (4 + 7)), (.int 0), (.ref (24 + 7))]) (σ' := (zE L, (jb_cp (jb_cp (jb_cp (jb_cp (jb_cp (jb_cp M (24 + 1) (4 + 1) 0 0 6) (24 + 2) (4 + 2) 0 0 6) (24 + 3) (4 + 3) 0 0 6) (24 + 4) (4 + 4) 0 0 24) (24 + 5) (4 + 5) 0 0 24) (24 + 6) (4 + 6) 0 0 24), N)) (G := []) rfl trivial ?_
    refine jb_copyi (rest := []) rfl rfl rfl (by decide) (Nat.le_of_ble_eq_true rfl) ?_
    refine jb_seg 7 (pc' := 117) (ls' := [some (.ref 4), some (.ref 24)]) (st' := [(.int 16), (.int 0), (.ref (4 + 8)), (.int 0), (.ref (24 + 8))]) (σ' := (zE L, (jb_cp (jb_cp (jb_cp (jb_cp (jb_cp (jb_cp (jb_cp M (24 + 1) (4 + 1) 0 0 6) (24 + 2) (4 + 2) 0 0 6) (24 + 3) (4 + 3) 0 0 6) (24 + 4) (4 + 4) 0 0 24) (24 + 5) (4 + 5) 0 0 24) (24 + 6) (4 + 6) 0 0 24) (24 + 7) (4 + 7) 0 0 24), N)) (G := []) rfl trivial ?_
    refine jb_copyi (rest := []) rfl rfl rfl (by decide) (Nat.le_of_ble_eq_true rfl) ?_
    refine jb_seg 7 (pc' := 132) (ls' := [some (.ref 4), some (.ref 24)]) (st' := [(.int 16), (.int 0), (.ref (4 + 9)), (.int 0), (.ref (24 + 9))]) (σ' := (zE L, (jb_cp (jb_cp (jb_cp (jb_cp (jb_cp (jb_cp (jb_cp (jb_cp M (24 + 1) (4 + 1) 0 0 6) (24 + 2) (4 + 2) 0 0 6) (24 + 3) (4 + 3) 0 0 6) (24 + 4) (4 + 4) 0 0 24) (24 + 5) (4 + 5) 0 0 24) (24 + 6) (4 + 6) 0 0 24) (24 + 7) (4 + 7) 0 0 24) (24 + 8) (4 + 8) 0 0 16), N)) (G := []) rfl trivial ?_
    refine jb_copyi (rest := []) rfl rfl rfl (by decide) (Nat.le_of_ble_eq_true rfl) ?_
    refine jb_seg 12 (pc' := 159) (ls' := [some (.ref 4), some (.ref 24)]) (st' := []) (σ' := (zE L, (jb_up (jb_up (jb_up (jb_cp (jb_cp (jb_cp (jb_cp (jb_cp (jb_cp (jb_cp (jb_cp (jb_cp M (24 + 1) (4 + 1) 0 0 6) (24 + 2) (4 + 2) 0 0 6) (24 + 3) (4 + 3) 0 0 6) (24 + 4) (4 + 4) 0 0 24) (24 + 5) (4 + 5) 0 0 24) (24 + 6) (4 + 6) 0 0 24) (24 + 7) (4 + 7) 0 0 24) (24 + 8) (4 + 8) 0 0 16) (24 + 9) (4 + 9) 0 0 16) 4 9 ((jb_cp (jb_cp (jb_cp (jb_cp (jb_cp (jb_cp (jb_cp (jb_cp (jb_cp M (24 + 1) (4 + 1) 0 0 6) (24 + 2) (4 + 2) 0 0 6) (24 + 3) (4 + 3) 0 0 6) (24 + 4) (4 + 4) 0 0 24) (24 + 5) (4 + 5) 0 0 24) (24 + 6) (4 + 6) 0 0 24) (24 + 7) (4 + 7) 0 0 24) (24 + 8) (4 + 8) 0 0 16) (24 + 9) (4 + 9) 0 0 16) 24 9)) 4 10 ((jb_up (jb_cp (jb_cp (jb_cp (jb_cp (jb_cp (jb_cp (jb_cp (jb_cp (jb_cp M (24 + 1) (4 + 1) 0 0 6) (24 + 2) (4 + 2) 0 0 6) (24 + 3) (4 + 3) 0 0 6) (24 + 4) (4 + 4) 0 0 24) (24 + 5) (4 + 5) 0 0 24) (24 + 6) (4 + 6) 0 0 24) (24 + 7) (4 + 7) 0 0 24) (24 + 8) (4 + 8) 0 0 16) (24 + 9) (4 + 9) 0 0 16) 4 9 ((jb_cp (jb_cp (jb_cp (jb_cp (jb_cp (jb_cp (jb_cp (jb_cp (jb_cp M (24 + 1) (4 + 1) 0 0 6) (24 + 2) (4 + 2) 0 0 6) (24 + 3) (4 + 3) 0 0 6) (24 + 4) (4 + 4) 0 0 24) (24 + 5) (4 + 5) 0 0 24) (24 + 6) (4 + 6) 0 0 24) (24 + 7) (4 + 7) 0 0 24) (24 + 8) (4 + 8) 0 0 16) (24 + 9) (4 + 9) 0 0 16) 24 9)) 24 10)) 4 11 ((jb_up (jb_up (jb_cp (jb_cp (jb_cp (jb_cp (jb_cp (jb_cp (jb_cp (jb_cp (jb_cp M (24 + 1) (4 + 1) 0 0 6) (24 + 2) (4 + 2) 0 0 6) (24 + 3) (4 + 3) 0 0 6) (24 + 4) (4 + 4) 0 0 24) (24 + 5) (4 + 5) 0 0 24) (24 + 6) (4 + 6) 0 0 24) (24 + 7) (4 + 7) 0 0 24) (24 + 8) (4 + 8) 0 0 16) (24 + 9) (4 + 9) 0 0 16) 4 9 ((jb_cp (jb_cp (jb_cp (jb_cp (jb_cp (jb_cp (jb_cp (jb_cp (jb_cp M (24 + 1) (4 + 1) 0 0 6) (24 + 2) (4 + 2) 0 0 6) (24 + 3) (4 + 3) 0 0 6) (24 + 4) (4 + 4) 0 0 24) (24 + 5) (4 + 5) 0 0 24) (24 + 6) (4 + 6) 0 0 24) (24 + 7) (4 + 7) 0 0 24) (24 + 8) (4 + 8) 0 0 16) (24 + 9) (4 + 9) 0 0 16) 24 9)) 4 10 ((jb_up (jb_cp (jb_cp (jb_cp (jb_cp (jb_cp (jb_cp (jb_cp (jb_cp (jb_cp M (24 + 1) (4 + 1) 0 0 6) (24 + 2) (4 + 2) 0 0 6) (24 + 3) (4 + 3) 0 0 6) (24 + 4) (4 + 4) 0 0 24) (24 + 5) (4 + 5) 0 0 24) (24 + 6) (4 + 6) 0 0 24) (24 + 7) (4 + 7) 0 0 24) (24 + 8) (4 + 8) 0 0 16) (24 + 9) (4 + 9) 0 0 16) 4 9 ((jb_cp (jb_cp (jb_cp (jb_cp (jb_cp (jb_cp (jb_cp (jb_cp (jb_cp M (24 + 1) (4 + 1) 0 0 6) (24 + 2) (4 + 2) 0 0 6) (24 + 3) (4 + 3) 0 0 6) (24 + 4) (4 + 4) 0 0 24) (24 + 5) (4 + 5) 0 0 24) (24 + 6) (4 + 6) 0 0 24) (24 + 7) (4 + 7) 0 0 24) (24 + 8) (4 + 8) 0 0 16) (24 + 9) (4 + 9) 0 0 16) 24 9)) 24 10)) 24 11)), N)) (G := []) rfl trivial ?_
    subst h
    obtain ⟨rfl, rfl⟩ := hK
    exact jb_retv rfl rfl
theorem ze_102 {Γ : jb_G} {L : Nat} {d : Nat} (hd : 1 ≤ d) (o : Nat) (o2 : Nat) (M : jb_Mi) (N : jb_Ml) (hp : (o = 14 ∧ o2 = 4) ∨ (o = 4 ∧ o2 = 14) ∨ (o = 24 ∧ o2 = 4) ∨ (o = 4 ∧ o2 = 24)) {r : jb_Mi} (h : zf_102 o o2 M = r) : jb_V Γ d zq_102 0 (jb_en 2 [(.ref o), (.ref o2)]) [] (zE L, M, N) (none) (zE L, r, N) := zg_102 hd o o2 M N hp h ⟨rfl, rfl⟩
-- X9_menBits
noncomputable def zf_103_J26 (o : Nat) (x2 : Int32) (s0 : Int32) (s1 : Int32) (M : jb_Mi) : Option ((Int32 × Int32) ⊕ (Int32)) :=
  some (.inl ((s0 ||| s1), (x2 + 1)))
noncomputable def zf_103_H4 (o : Nat) (M : jb_Mi) (s : Int32 × Int32) : Option ((Int32 × Int32) ⊕ (Int32)) :=
  if s.2 < 16 then (zf_18 o s.2 M).bind fun q1 => if (jb_b2i q1) = 0 then zf_103_J26 o s.2 s.1 0 M else zf_103_J26 o s.2 s.1 ((1 : Int32) <<< (s.2 &&& 31)) M else some (.inr s.1)
noncomputable def zf_103 (o : Nat) (M : jb_Mi) : Option (Int32) :=
  jb_lp (zf_103_H4 o M) (0, 0)
set_option maxRecDepth 4000 in
theorem zg_103_J26 {Γ : jb_G} {L : Nat} {d : Nat} (hd : 1 ≤ d) (o : Nat) (x2 : Int32) (s0 : Int32) (s1 : Int32) (M : jb_Mi) (N : jb_Ml) (hp : o = 4 ∨ o = 24) {v : Option Value} {σ2 : jb_S} {r : ((Int32 × Int32) ⊕ (Int32))} (h : zf_103_J26 o x2 s0 s1 M = some r) (hK : (jb_K (fun s : Int32 × Int32 => jb_V Γ d zq_103 4 [some (.ref o), some (.int s.1), some (.int s.2)] [] (zE L, M, N) v σ2) (fun r : Int32 => v = some (.int r) ∧ σ2 = (zE L, M, N))) r) : jb_V Γ d zq_103 26 [some (.ref o), none, some (.int x2)] [(.int s1), (.int s0)] (zE L, M, N) v σ2 := by
  rcases hp with rfl | rfl
  · obtain ⟨d, rfl⟩ : ∃ e, d = e + 1 := ⟨d - 1, by omega⟩
    unfold zf_103_J26 at h
    refine jb_seg 4 (pc' := 4) (ls' := [some (.ref 4), some (.int (s0 ||| s1)), some (.int (x2 + 1))]) (st' := []) (σ' := (zE L, M, N)) (G := []) rfl trivial ?_
    cases h
    exact jb_mask [true, true, true] rfl hK
  · obtain ⟨d, rfl⟩ : ∃ e, d = e + 1 := ⟨d - 1, by omega⟩
    unfold zf_103_J26 at h
    refine jb_seg 4 (pc' := 4) (ls' := [some (.ref 24), some (.int (s0 ||| s1)), some (.int (x2 + 1))]) (st' := []) (σ' := (zE L, M, N)) (G := []) rfl trivial ?_
    cases h
    exact jb_mask [true, true, true] rfl hK
set_option maxRecDepth 4000 in
theorem zg_103_H4 {Γ : jb_G} {L : Nat} {d : Nat} (hd : 1 ≤ d) (o : Nat) (M : jb_Mi) (N : jb_Ml) (s : Int32 × Int32) (hp : o = 4 ∨ o = 24) {v : Option Value} {σ2 : jb_S} {r : ((Int32 × Int32) ⊕ (Int32))} (h : zf_103_H4 o M s = some r) (hK : (jb_K (fun s : Int32 × Int32 => jb_V Γ d zq_103 4 [some (.ref o), some (.int s.1), some (.int s.2)] [] (zE L, M, N) v σ2) (fun r : Int32 => v = some (.int r) ∧ σ2 = (zE L, M, N))) r) : jb_V Γ d zq_103 4 [some (.ref o), some (.int s.1), some (.int s.2)] [] (zE L, M, N) v σ2 := by
  rcases hp with rfl | rfl
  · obtain ⟨d, rfl⟩ : ∃ e, d = e + 1 := ⟨d - 1, by omega⟩
    unfold zf_103_H4 at h
    refine jb_seg 3 (pc' := (if s.2 < 16 then 10 else 34)) (ls' := [some (.ref 4), some (.int s.1), some (.int s.2)]) (st' := []) (σ' := (zE L, M, N)) (G := []) rfl trivial ?_
    refine jb_ite (fun c => ?_) (fun c => ?_)
    · rw [if_pos c] at h
      refine jb_seg 3 (pc' := 13) (ls' := [some (.ref 4), some (.int s.1), some (.int s.2)]) (st' := [(.int s.2), (.ref 4), (.int s.1)]) (σ' := (zE L, M, N)) (G := []) rfl trivial ?_
      obtain ⟨q1, h1, h⟩ := jb_bd_of h
      refine jb_callV (q' := zq_18) (As := [(.int s.2)]) (rest := [(.int s.1)]) (σ1 := (zE L, M, N)) (v := some (.int (jb_b2i q1))) rfl rfl zp_18 rfl (by decide) (jb_cat rfl) (Nat.le_of_ble_eq_true rfl) (Nat.le_of_ble_eq_true rfl) (Or.inl rfl) rfl (ze_18 4 s.2 M N (by decide) h1) ?_
      refine jb_seg 1 (pc' := (if (jb_b2i q1) = 0 then 25 else 19)) (ls' := [some (.ref 4), some (.int s.1), some (.int s.2)]) (st' := [(.int s.1)]) (σ' := (zE L, M, N)) (G := []) rfl trivial ?_
      refine jb_ite (fun c => ?_) (fun c => ?_)
      · rw [if_pos c] at h
        refine jb_seg 1 (pc' := 26) (ls' := [some (.ref 4), some (.int s.1), some (.int s.2)]) (st' := [(.int 0), (.int s.1)]) (σ' := (zE L, M, N)) (G := []) rfl trivial ?_
        exact jb_mask [true, false, true] rfl (zg_103_J26 hd 4 s.2 s.1 0 M N (by decide) h hK)
      · rw [if_neg c] at h
        refine jb_seg 4 (pc' := 26) (ls' := [some (.ref 4), some (.int s.1), some (.int s.2)]) (st' := [(.int ((1 : Int32) <<< (s.2 &&& 31))), (.int s.1)]) (σ' := (zE L, M, N)) (G := []) rfl trivial ?_
        exact jb_mask [true, false, true] rfl (zg_103_J26 hd 4 s.2 s.1 ((1 : Int32) <<< (s.2 &&& 31)) M N (by decide) h hK)
    · rw [if_neg c] at h
      refine jb_seg 1 (pc' := 35) (ls' := [some (.ref 4), some (.int s.1), some (.int s.2)]) (st' := [(.int s.1)]) (σ' := (zE L, M, N)) (G := []) rfl trivial ?_
      cases h
      obtain ⟨rfl, rfl⟩ := hK
      exact jb_reti rfl rfl
  · obtain ⟨d, rfl⟩ : ∃ e, d = e + 1 := ⟨d - 1, by omega⟩
    unfold zf_103_H4 at h
    refine jb_seg 3 (pc' := (if s.2 < 16 then 10 else 34)) (ls' := [some (.ref 24), some (.int s.1), some (.int s.2)]) (st' := []) (σ' := (zE L, M, N)) (G := []) rfl trivial ?_
    refine jb_ite (fun c => ?_) (fun c => ?_)
    · rw [if_pos c] at h
      refine jb_seg 3 (pc' := 13) (ls' := [some (.ref 24), some (.int s.1), some (.int s.2)]) (st' := [(.int s.2), (.ref 24), (.int s.1)]) (σ' := (zE L, M, N)) (G := []) rfl trivial ?_
      obtain ⟨q1, h1, h⟩ := jb_bd_of h
      refine jb_callV (q' := zq_18) (As := [(.int s.2)]) (rest := [(.int s.1)]) (σ1 := (zE L, M, N)) (v := some (.int (jb_b2i q1))) rfl rfl zp_18 rfl (by decide) (jb_cat rfl) (Nat.le_of_ble_eq_true rfl) (Nat.le_of_ble_eq_true rfl) (Or.inl rfl) rfl (ze_18 24 s.2 M N (by decide) h1) ?_
      refine jb_seg 1 (pc' := (if (jb_b2i q1) = 0 then 25 else 19)) (ls' := [some (.ref 24), some (.int s.1), some (.int s.2)]) (st' := [(.int s.1)]) (σ' := (zE L, M, N)) (G := []) rfl trivial ?_
      refine jb_ite (fun c => ?_) (fun c => ?_)
      · rw [if_pos c] at h
        refine jb_seg 1 (pc' := 26) (ls' := [some (.ref 24), some (.int s.1), some (.int s.2)]) (st' := [(.int 0), (.int s.1)]) (σ' := (zE L, M, N)) (G := []) rfl trivial ?_
        exact jb_mask [true, false, true] rfl (zg_103_J26 hd 24 s.2 s.1 0 M N (by decide) h hK)
      · rw [if_neg c] at h
        refine jb_seg 4 (pc' := 26) (ls' := [some (.ref 24), some (.int s.1), some (.int s.2)]) (st' := [(.int ((1 : Int32) <<< (s.2 &&& 31))), (.int s.1)]) (σ' := (zE L, M, N)) (G := []) rfl trivial ?_
        exact jb_mask [true, false, true] rfl (zg_103_J26 hd 24 s.2 s.1 ((1 : Int32) <<< (s.2 &&& 31)) M N (by decide) h hK)
    · rw [if_neg c] at h
      refine jb_seg 1 (pc' := 35) (ls' := [some (.ref 24), some (.int s.1), some (.int s.2)]) (st' := [(.int s.1)]) (σ' := (zE L, M, N)) (G := []) rfl trivial ?_
      cases h
      obtain ⟨rfl, rfl⟩ := hK
      exact jb_reti rfl rfl
theorem zg_103_H4L {Γ : jb_G} {L : Nat} {d : Nat} (hd : 1 ≤ d) (o : Nat) (M : jb_Mi) (N : jb_Ml) (hp : o = 4 ∨ o = 24) {v : Option Value} {σ2 : jb_S} {s : Int32 × Int32} {r : (Int32)} (h : jb_lp (zf_103_H4 o M) s = some r) (hK : (fun r : Int32 => v = some (.int r) ∧ σ2 = (zE L, M, N)) r) : jb_V Γ d zq_103 4 [some (.ref o), some (.int s.1), some (.int s.2)] [] (zE L, M, N) v σ2 := by
  exact jb_lp_ind (P := fun s => jb_V Γ d zq_103 4 [some (.ref o), some (.int s.1), some (.int s.2)] [] (zE L, M, N) v σ2) (K := (fun r : Int32 => v = some (.int r) ∧ σ2 = (zE L, M, N))) (fun s r h hk => zg_103_H4 hd o M N s hp h (by cases r <;> exact hk)) h hK
set_option maxRecDepth 4000 in
theorem zg_103 {Γ : jb_G} {L : Nat} {d : Nat} (hd : 1 ≤ d) (o : Nat) (M : jb_Mi) (N : jb_Ml) (hp : o = 4 ∨ o = 24) {v : Option Value} {σ2 : jb_S} {r : (Int32)} (h : zf_103 o M = some r) (hK : (fun r : Int32 => v = some (.int r) ∧ σ2 = (zE L, M, N)) r) : jb_V Γ d zq_103 0 [some (.ref o), none, none] [] (zE L, M, N) v σ2 := by
  rcases hp with rfl | rfl
  · obtain ⟨d, rfl⟩ : ∃ e, d = e + 1 := ⟨d - 1, by omega⟩
    unfold zf_103 at h
    refine jb_seg 4 (pc' := 4) (ls' := [some (.ref 4), some (.int 0), some (.int 0)]) (st' := []) (σ' := (zE L, M, N)) (G := []) rfl trivial ?_
    exact jb_mask [true, true, true] rfl (zg_103_H4L hd 4 M N (by decide) h hK)
  · obtain ⟨d, rfl⟩ : ∃ e, d = e + 1 := ⟨d - 1, by omega⟩
    unfold zf_103 at h
    refine jb_seg 4 (pc' := 4) (ls' := [some (.ref 24), some (.int 0), some (.int 0)]) (st' := []) (σ' := (zE L, M, N)) (G := []) rfl trivial ?_
    exact jb_mask [true, true, true] rfl (zg_103_H4L hd 24 M N (by decide) h hK)
theorem ze_103 {Γ : jb_G} {L : Nat} {d : Nat} (hd : 1 ≤ d) (o : Nat) (M : jb_Mi) (N : jb_Ml) (hp : o = 4 ∨ o = 24) {r : (Int32)} (h : zf_103 o M = some r) : jb_V Γ d zq_103 0 (jb_en 3 [(.ref o)]) [] (zE L, M, N) (some (.int r)) (zE L, M, N) := zg_103 hd o M N hp h ⟨rfl, rfl⟩
-- X9_fourTold
noncomputable def zf_104 (o : Nat) (x1 : Int32) (M : jb_Mi) : Option (Bool) :=
  if (zf_26 x1) = 4 then (zf_103 o M).bind fun q1 => if (x1 &&& (q1 ^^^ (-1))) = 0 then some true else some false else some false
set_option maxRecDepth 4000 in
theorem zg_104 {Γ : jb_G} {L : Nat} {d : Nat} (hd : 2 ≤ d) (o : Nat) (x1 : Int32) (M : jb_Mi) (N : jb_Ml) (hp : o = 4 ∨ o = 24) {v : Option Value} {σ2 : jb_S} {r : (Bool)} (h : zf_104 o x1 M = some r) (hK : (fun r : Bool => v = some (.int (jb_b2i r)) ∧ σ2 = (zE L, M, N)) r) : jb_V Γ d zq_104 0 [some (.ref o), some (.int x1)] [] (zE L, M, N) v σ2 := by
  rcases hp with rfl | rfl
  · obtain ⟨d, rfl⟩ : ∃ e, d = e + 1 := ⟨d - 1, by omega⟩
    unfold zf_104 at h
    refine jb_seg 1 (pc' := 1) (ls' := [some (.ref 4), some (.int x1)]) (st' := [(.int x1)]) (σ' := (zE L, M, N)) (G := []) rfl trivial ?_
    refine jb_callS (q' := zq_26) (As := [(.int x1)]) (rest := []) (σ1 := (zE L, M, N)) (v := some (.int (zf_26 x1))) rfl (by decide) rfl zp_26 (jb_cat rfl) (Nat.le_of_ble_eq_true rfl) (Nat.le_of_ble_eq_true rfl) (Or.inl rfl) rfl (ze_26 x1 M N rfl) ?_
    refine jb_seg 2 (pc' := (if (zf_26 x1) = 4 then 8 else 23)) (ls' := [some (.ref 4), some (.int x1)]) (st' := []) (σ' := (zE L, M, N)) (G := []) rfl trivial ?_
    refine jb_ite (fun c => ?_) (fun c => ?_)
    · rw [if_pos c] at h
      refine jb_seg 2 (pc' := 10) (ls' := [some (.ref 4), some (.int x1)]) (st' := [(.ref 4), (.int x1)]) (σ' := (zE L, M, N)) (G := []) rfl trivial ?_
      obtain ⟨q1, h1, h⟩ := jb_bd_of h
      refine jb_callV (q' := zq_103) (As := []) (rest := [(.int x1)]) (σ1 := (zE L, M, N)) (v := some (.int q1)) rfl rfl zp_103 rfl (by decide) (jb_cat rfl) (Nat.le_of_ble_eq_true rfl) (Nat.le_of_ble_eq_true rfl) (Or.inl rfl) rfl (ze_103 (by omega) 4 M N (by decide) h1) ?_
      refine jb_seg 4 (pc' := (if (x1 &&& (q1 ^^^ (-1))) = 0 then 19 else 23)) (ls' := [some (.ref 4), some (.int x1)]) (st' := []) (σ' := (zE L, M, N)) (G := []) rfl trivial ?_
      refine jb_ite (fun c => ?_) (fun c => ?_)
      · rw [if_pos c] at h
        refine jb_seg 2 (pc' := 24) (ls' := [some (.ref 4), some (.int x1)]) (st' := [(.int 1)]) (σ' := (zE L, M, N)) (G := []) rfl trivial ?_
        cases h
        obtain ⟨rfl, rfl⟩ := hK
        exact jb_retz (by decide) rfl rfl
      · rw [if_neg c] at h
        refine jb_seg 1 (pc' := 24) (ls' := [some (.ref 4), some (.int x1)]) (st' := [(.int 0)]) (σ' := (zE L, M, N)) (G := []) rfl trivial ?_
        cases h
        obtain ⟨rfl, rfl⟩ := hK
        exact jb_retz (by decide) rfl rfl
    · rw [if_neg c] at h
      refine jb_seg 1 (pc' := 24) (ls' := [some (.ref 4), some (.int x1)]) (st' := [(.int 0)]) (σ' := (zE L, M, N)) (G := []) rfl trivial ?_
      cases h
      obtain ⟨rfl, rfl⟩ := hK
      exact jb_retz (by decide) rfl rfl
  · obtain ⟨d, rfl⟩ : ∃ e, d = e + 1 := ⟨d - 1, by omega⟩
    unfold zf_104 at h
    refine jb_seg 1 (pc' := 1) (ls' := [some (.ref 24), some (.int x1)]) (st' := [(.int x1)]) (σ' := (zE L, M, N)) (G := []) rfl trivial ?_
    refine jb_callS (q' := zq_26) (As := [(.int x1)]) (rest := []) (σ1 := (zE L, M, N)) (v := some (.int (zf_26 x1))) rfl (by decide) rfl zp_26 (jb_cat rfl) (Nat.le_of_ble_eq_true rfl) (Nat.le_of_ble_eq_true rfl) (Or.inl rfl) rfl (ze_26 x1 M N rfl) ?_
    refine jb_seg 2 (pc' := (if (zf_26 x1) = 4 then 8 else 23)) (ls' := [some (.ref 24), some (.int x1)]) (st' := []) (σ' := (zE L, M, N)) (G := []) rfl trivial ?_
    refine jb_ite (fun c => ?_) (fun c => ?_)
    · rw [if_pos c] at h
      refine jb_seg 2 (pc' := 10) (ls' := [some (.ref 24), some (.int x1)]) (st' := [(.ref 24), (.int x1)]) (σ' := (zE L, M, N)) (G := []) rfl trivial ?_
      obtain ⟨q1, h1, h⟩ := jb_bd_of h
      refine jb_callV (q' := zq_103) (As := []) (rest := [(.int x1)]) (σ1 := (zE L, M, N)) (v := some (.int q1)) rfl rfl zp_103 rfl (by decide) (jb_cat rfl) (Nat.le_of_ble_eq_true rfl) (Nat.le_of_ble_eq_true rfl) (Or.inl rfl) rfl (ze_103 (by omega) 24 M N (by decide) h1) ?_
      refine jb_seg 4 (pc' := (if (x1 &&& (q1 ^^^ (-1))) = 0 then 19 else 23)) (ls' := [some (.ref 24), some (.int x1)]) (st' := []) (σ' := (zE L, M, N)) (G := []) rfl trivial ?_
      refine jb_ite (fun c => ?_) (fun c => ?_)
      · rw [if_pos c] at h
        refine jb_seg 2 (pc' := 24) (ls' := [some (.ref 24), some (.int x1)]) (st' := [(.int 1)]) (σ' := (zE L, M, N)) (G := []) rfl trivial ?_
        cases h
        obtain ⟨rfl, rfl⟩ := hK
        exact jb_retz (by decide) rfl rfl
      · rw [if_neg c] at h
        refine jb_seg 1 (pc' := 24) (ls' := [some (.ref 24), some (.int x1)]) (st' := [(.int 0)]) (σ' := (zE L, M, N)) (G := []) rfl trivial ?_
        cases h
        obtain ⟨rfl, rfl⟩ := hK
        exact jb_retz (by decide) rfl rfl
    · rw [if_neg c] at h
      refine jb_seg 1 (pc' := 24) (ls' := [some (.ref 24), some (.int x1)]) (st' := [(.int 0)]) (σ' := (zE L, M, N)) (G := []) rfl trivial ?_
      cases h
      obtain ⟨rfl, rfl⟩ := hK
      exact jb_retz (by decide) rfl rfl
theorem ze_104 {Γ : jb_G} {L : Nat} {d : Nat} (hd : 2 ≤ d) (o : Nat) (x1 : Int32) (M : jb_Mi) (N : jb_Ml) (hp : o = 4 ∨ o = 24) {r : (Bool)} (h : zf_104 o x1 M = some r) : jb_V Γ d zq_104 0 (jb_en 2 [(.ref o), (.int x1)]) [] (zE L, M, N) (some (.int (jb_b2i r))) (zE L, M, N) := zg_104 hd o x1 M N hp h ⟨rfl, rfl⟩
-- X9_houseBits
noncomputable def zf_105_J26 (o : Nat) (x2 : Int32) (s0 : Int32) (s1 : Int32) (M : jb_Mi) : Option ((Int32 × Int32) ⊕ (Int32)) :=
  some (.inl ((s0 ||| s1), (x2 + 1)))
noncomputable def zf_105_H4 (o : Nat) (M : jb_Mi) (s : Int32 × Int32) : Option ((Int32 × Int32) ⊕ (Int32)) :=
  if s.2 < 6 then (zf_2 o s.2 M).bind fun q1 => if (jb_b2i q1) = 0 then zf_105_J26 o s.2 s.1 0 M else zf_105_J26 o s.2 s.1 ((1 : Int32) <<< (s.2 &&& 31)) M else some (.inr s.1)
noncomputable def zf_105 (o : Nat) (M : jb_Mi) : Option (Int32) :=
  jb_lp (zf_105_H4 o M) (0, 0)
set_option maxRecDepth 4000 in
theorem zg_105_J26 {Γ : jb_G} {L : Nat} {d : Nat} (hd : 1 ≤ d) (o : Nat) (x2 : Int32) (s0 : Int32) (s1 : Int32) (M : jb_Mi) (N : jb_Ml) (hp : o = 4 ∨ o = 24) {v : Option Value} {σ2 : jb_S} {r : ((Int32 × Int32) ⊕ (Int32))} (h : zf_105_J26 o x2 s0 s1 M = some r) (hK : (jb_K (fun s : Int32 × Int32 => jb_V Γ d zq_105 4 [some (.ref o), some (.int s.1), some (.int s.2)] [] (zE L, M, N) v σ2) (fun r : Int32 => v = some (.int r) ∧ σ2 = (zE L, M, N))) r) : jb_V Γ d zq_105 26 [some (.ref o), none, some (.int x2)] [(.int s1), (.int s0)] (zE L, M, N) v σ2 := by
  rcases hp with rfl | rfl
  · obtain ⟨d, rfl⟩ : ∃ e, d = e + 1 := ⟨d - 1, by omega⟩
    unfold zf_105_J26 at h
    refine jb_seg 4 (pc' := 4) (ls' := [some (.ref 4), some (.int (s0 ||| s1)), some (.int (x2 + 1))]) (st' := []) (σ' := (zE L, M, N)) (G := []) rfl trivial ?_
    cases h
    exact jb_mask [true, true, true] rfl hK
  · obtain ⟨d, rfl⟩ : ∃ e, d = e + 1 := ⟨d - 1, by omega⟩
    unfold zf_105_J26 at h
    refine jb_seg 4 (pc' := 4) (ls' := [some (.ref 24), some (.int (s0 ||| s1)), some (.int (x2 + 1))]) (st' := []) (σ' := (zE L, M, N)) (G := []) rfl trivial ?_
    cases h
    exact jb_mask [true, true, true] rfl hK
set_option maxRecDepth 4000 in
theorem zg_105_H4 {Γ : jb_G} {L : Nat} {d : Nat} (hd : 1 ≤ d) (o : Nat) (M : jb_Mi) (N : jb_Ml) (s : Int32 × Int32) (hp : o = 4 ∨ o = 24) {v : Option Value} {σ2 : jb_S} {r : ((Int32 × Int32) ⊕ (Int32))} (h : zf_105_H4 o M s = some r) (hK : (jb_K (fun s : Int32 × Int32 => jb_V Γ d zq_105 4 [some (.ref o), some (.int s.1), some (.int s.2)] [] (zE L, M, N) v σ2) (fun r : Int32 => v = some (.int r) ∧ σ2 = (zE L, M, N))) r) : jb_V Γ d zq_105 4 [some (.ref o), some (.int s.1), some (.int s.2)] [] (zE L, M, N) v σ2 := by
  rcases hp with rfl | rfl
  · obtain ⟨d, rfl⟩ : ∃ e, d = e + 1 := ⟨d - 1, by omega⟩
    unfold zf_105_H4 at h
    refine jb_seg 3 (pc' := (if s.2 < 6 then 10 else 34)) (ls' := [some (.ref 4), some (.int s.1), some (.int s.2)]) (st' := []) (σ' := (zE L, M, N)) (G := []) rfl trivial ?_
    refine jb_ite (fun c => ?_) (fun c => ?_)
    · rw [if_pos c] at h
      refine jb_seg 3 (pc' := 13) (ls' := [some (.ref 4), some (.int s.1), some (.int s.2)]) (st' := [(.int s.2), (.ref 4), (.int s.1)]) (σ' := (zE L, M, N)) (G := []) rfl trivial ?_
      obtain ⟨q1, h1, h⟩ := jb_bd_of h
      refine jb_callV (q' := zq_2) (As := [(.int s.2)]) (rest := [(.int s.1)]) (σ1 := (zE L, M, N)) (v := some (.int (jb_b2i q1))) rfl rfl zp_2 rfl (by decide) (jb_cat rfl) (Nat.le_of_ble_eq_true rfl) (Nat.le_of_ble_eq_true rfl) (Or.inl rfl) rfl (ze_2 4 s.2 M N (by decide) h1) ?_
      refine jb_seg 1 (pc' := (if (jb_b2i q1) = 0 then 25 else 19)) (ls' := [some (.ref 4), some (.int s.1), some (.int s.2)]) (st' := [(.int s.1)]) (σ' := (zE L, M, N)) (G := []) rfl trivial ?_
      refine jb_ite (fun c => ?_) (fun c => ?_)
      · rw [if_pos c] at h
        refine jb_seg 1 (pc' := 26) (ls' := [some (.ref 4), some (.int s.1), some (.int s.2)]) (st' := [(.int 0), (.int s.1)]) (σ' := (zE L, M, N)) (G := []) rfl trivial ?_
        exact jb_mask [true, false, true] rfl (zg_105_J26 hd 4 s.2 s.1 0 M N (by decide) h hK)
      · rw [if_neg c] at h
        refine jb_seg 4 (pc' := 26) (ls' := [some (.ref 4), some (.int s.1), some (.int s.2)]) (st' := [(.int ((1 : Int32) <<< (s.2 &&& 31))), (.int s.1)]) (σ' := (zE L, M, N)) (G := []) rfl trivial ?_
        exact jb_mask [true, false, true] rfl (zg_105_J26 hd 4 s.2 s.1 ((1 : Int32) <<< (s.2 &&& 31)) M N (by decide) h hK)
    · rw [if_neg c] at h
      refine jb_seg 1 (pc' := 35) (ls' := [some (.ref 4), some (.int s.1), some (.int s.2)]) (st' := [(.int s.1)]) (σ' := (zE L, M, N)) (G := []) rfl trivial ?_
      cases h
      obtain ⟨rfl, rfl⟩ := hK
      exact jb_reti rfl rfl
  · obtain ⟨d, rfl⟩ : ∃ e, d = e + 1 := ⟨d - 1, by omega⟩
    unfold zf_105_H4 at h
    refine jb_seg 3 (pc' := (if s.2 < 6 then 10 else 34)) (ls' := [some (.ref 24), some (.int s.1), some (.int s.2)]) (st' := []) (σ' := (zE L, M, N)) (G := []) rfl trivial ?_
    refine jb_ite (fun c => ?_) (fun c => ?_)
    · rw [if_pos c] at h
      refine jb_seg 3 (pc' := 13) (ls' := [some (.ref 24), some (.int s.1), some (.int s.2)]) (st' := [(.int s.2), (.ref 24), (.int s.1)]) (σ' := (zE L, M, N)) (G := []) rfl trivial ?_
      obtain ⟨q1, h1, h⟩ := jb_bd_of h
      refine jb_callV (q' := zq_2) (As := [(.int s.2)]) (rest := [(.int s.1)]) (σ1 := (zE L, M, N)) (v := some (.int (jb_b2i q1))) rfl rfl zp_2 rfl (by decide) (jb_cat rfl) (Nat.le_of_ble_eq_true rfl) (Nat.le_of_ble_eq_true rfl) (Or.inl rfl) rfl (ze_2 24 s.2 M N (by decide) h1) ?_
      refine jb_seg 1 (pc' := (if (jb_b2i q1) = 0 then 25 else 19)) (ls' := [some (.ref 24), some (.int s.1), some (.int s.2)]) (st' := [(.int s.1)]) (σ' := (zE L, M, N)) (G := []) rfl trivial ?_
      refine jb_ite (fun c => ?_) (fun c => ?_)
      · rw [if_pos c] at h
        refine jb_seg 1 (pc' := 26) (ls' := [some (.ref 24), some (.int s.1), some (.int s.2)]) (st' := [(.int 0), (.int s.1)]) (σ' := (zE L, M, N)) (G := []) rfl trivial ?_
        exact jb_mask [true, false, true] rfl (zg_105_J26 hd 24 s.2 s.1 0 M N (by decide) h hK)
      · rw [if_neg c] at h
        refine jb_seg 4 (pc' := 26) (ls' := [some (.ref 24), some (.int s.1), some (.int s.2)]) (st' := [(.int ((1 : Int32) <<< (s.2 &&& 31))), (.int s.1)]) (σ' := (zE L, M, N)) (G := []) rfl trivial ?_
        exact jb_mask [true, false, true] rfl (zg_105_J26 hd 24 s.2 s.1 ((1 : Int32) <<< (s.2 &&& 31)) M N (by decide) h hK)
    · rw [if_neg c] at h
      refine jb_seg 1 (pc' := 35) (ls' := [some (.ref 24), some (.int s.1), some (.int s.2)]) (st' := [(.int s.1)]) (σ' := (zE L, M, N)) (G := []) rfl trivial ?_
      cases h
      obtain ⟨rfl, rfl⟩ := hK
      exact jb_reti rfl rfl
theorem zg_105_H4L {Γ : jb_G} {L : Nat} {d : Nat} (hd : 1 ≤ d) (o : Nat) (M : jb_Mi) (N : jb_Ml) (hp : o = 4 ∨ o = 24) {v : Option Value} {σ2 : jb_S} {s : Int32 × Int32} {r : (Int32)} (h : jb_lp (zf_105_H4 o M) s = some r) (hK : (fun r : Int32 => v = some (.int r) ∧ σ2 = (zE L, M, N)) r) : jb_V Γ d zq_105 4 [some (.ref o), some (.int s.1), some (.int s.2)] [] (zE L, M, N) v σ2 := by
  exact jb_lp_ind (P := fun s => jb_V Γ d zq_105 4 [some (.ref o), some (.int s.1), some (.int s.2)] [] (zE L, M, N) v σ2) (K := (fun r : Int32 => v = some (.int r) ∧ σ2 = (zE L, M, N))) (fun s r h hk => zg_105_H4 hd o M N s hp h (by cases r <;> exact hk)) h hK
set_option maxRecDepth 4000 in
theorem zg_105 {Γ : jb_G} {L : Nat} {d : Nat} (hd : 1 ≤ d) (o : Nat) (M : jb_Mi) (N : jb_Ml) (hp : o = 4 ∨ o = 24) {v : Option Value} {σ2 : jb_S} {r : (Int32)} (h : zf_105 o M = some r) (hK : (fun r : Int32 => v = some (.int r) ∧ σ2 = (zE L, M, N)) r) : jb_V Γ d zq_105 0 [some (.ref o), none, none] [] (zE L, M, N) v σ2 := by
  rcases hp with rfl | rfl
  · obtain ⟨d, rfl⟩ : ∃ e, d = e + 1 := ⟨d - 1, by omega⟩
    unfold zf_105 at h
    refine jb_seg 4 (pc' := 4) (ls' := [some (.ref 4), some (.int 0), some (.int 0)]) (st' := []) (σ' := (zE L, M, N)) (G := []) rfl trivial ?_
    exact jb_mask [true, true, true] rfl (zg_105_H4L hd 4 M N (by decide) h hK)
  · obtain ⟨d, rfl⟩ : ∃ e, d = e + 1 := ⟨d - 1, by omega⟩
    unfold zf_105 at h
    refine jb_seg 4 (pc' := 4) (ls' := [some (.ref 24), some (.int 0), some (.int 0)]) (st' := []) (σ' := (zE L, M, N)) (G := []) rfl trivial ?_
    exact jb_mask [true, true, true] rfl (zg_105_H4L hd 24 M N (by decide) h hK)
theorem ze_105 {Γ : jb_G} {L : Nat} {d : Nat} (hd : 1 ≤ d) (o : Nat) (M : jb_Mi) (N : jb_Ml) (hp : o = 4 ∨ o = 24) {r : (Int32)} (h : zf_105 o M = some r) : jb_V Γ d zq_105 0 (jb_en 3 [(.ref o)]) [] (zE L, M, N) (some (.int r)) (zE L, M, N) := zg_105 hd o M N hp h ⟨rfl, rfl⟩
