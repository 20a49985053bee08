-- X6_readCondition
noncomputable def zf_82_J95 (f : Nat → Int32 → jb_Mi → Option (Bool × jb_Mi)) (x1 : Int32) (x2 : Int32) (x3 : Int32) (x4 : Int32) (M : jb_Mi) : Option ((Int32 × Int32 × Int32 × jb_Mi) ⊕ (Bool × jb_Mi)) :=
  some (.inl (x2, x3, (x4 + 1), (jb_up M 50 2 ((M 50 2) + 1))))
noncomputable def zf_82_H7 (f : Nat → Int32 → jb_Mi → Option (Bool × jb_Mi)) (x1 : Int32) (s : Int32 × Int32 × Int32 × jb_Mi) : Option ((Int32 × Int32 × Int32 × jb_Mi) ⊕ (Bool × jb_Mi)) :=
  if s.2.2.1 < 240 then (f 3 x1 s.2.2.2).bind fun q1 => if (jb_b2i q1.1) = 0 then some (.inr (false, q1.2)) else (zf_71 s.1 q1.2).bind fun q2 => (zf_30 (q2 50 2) q2).bind fun q3 => if q3 = 38 then (zf_70 4 0 q2).bind fun q4 => zf_82_J95 f x1 q4.1 s.2.1 s.2.2.1 q4.2 else (zf_71 s.2.1 q2).bind fun q5 => if q3 = 124 then (zf_70 5 0 q5).bind fun q6 => zf_82_J95 f x1 (-1) q6.1 s.2.2.1 q6.2 else some (.inr (true, q5)) else some (.inr ((zf_75 1 s.2.2.2).1, (zf_75 1 s.2.2.2).2))
noncomputable def zf_82 (f : Nat → Int32 → jb_Mi → Option (Bool × jb_Mi)) (x1 : Int32) (M : jb_Mi) : Option (Bool × jb_Mi) :=
  jb_lp (zf_82_H7 f x1) ((-1), (-1), 0, M)
set_option maxRecDepth 4000 in
theorem zg_82_J95 {Γ : jb_G} {L : Nat} {d : Nat} (hd : 1 ≤ (d + 1)) (f : Nat → Int32 → jb_Mi → Option (Bool × jb_Mi)) (hf0 : ∀ (x1 : Int32) (M : jb_Mi) (N : jb_Ml) {r : Bool × jb_Mi}, f 0 x1 M = some r → jb_V Γ d zq_80 0 (jb_en 6 [.ref 50, .int x1]) [] (zE L, M, N) (some (.int (jb_b2i r.1))) (zE L, r.2, N)) (hf1 : ∀ (x1 : Int32) (M : jb_Mi) (N : jb_Ml) {r : Bool × jb_Mi}, f 1 x1 M = some r → jb_V Γ d zq_81 0 (jb_en 4 [.ref 50, .int x1]) [] (zE L, M, N) (some (.int (jb_b2i r.1))) (zE L, r.2, N)) (hf2 : ∀ (x1 : Int32) (M : jb_Mi) (N : jb_Ml) {r : Bool × jb_Mi}, f 2 x1 M = some r → jb_V Γ d zq_82 0 (jb_en 6 [.ref 50, .int x1]) [] (zE L, M, N) (some (.int (jb_b2i r.1))) (zE L, r.2, N)) (hf3 : ∀ (x1 : Int32) (M : jb_Mi) (N : jb_Ml) {r : Bool × jb_Mi}, f 3 x1 M = some r → jb_V Γ d zq_83 0 (jb_en 4 [.ref 50, .int x1]) [] (zE L, M, N) (some (.int (jb_b2i r.1))) (zE L, r.2, N)) (x1 : Int32) (x2 : Int32) (x3 : Int32) (x4 : Int32) (M : jb_Mi) (N : jb_Ml) {v : Option Value} {σ2 : jb_S} {r : ((Int32 × Int32 × Int32 × jb_Mi) ⊕ (Bool × jb_Mi))} (h : zf_82_J95 f x1 x2 x3 x4 M = some r) (hK : (jb_K (fun s : Int32 × Int32 × Int32 × jb_Mi => jb_V Γ (d + 1) zq_82 7 [some (.ref 50), some (.int x1), some (.int s.1), some (.int s.2.1), some (.int s.2.2.1), none] [] (zE L, s.2.2.2, N) v σ2) (fun r : Bool × jb_Mi => v = some (.int (jb_b2i r.1)) ∧ σ2 = (zE L, r.2, N))) r) : jb_V Γ (d + 1) zq_82 95 [some (.ref 50), some (.int x1), some (.int x2), some (.int x3), some (.int x4), none] [] (zE L, M, N) v σ2 := by
  unfold zf_82_J95 at h
  refine jb_seg 8 (pc' := 7) (ls' := [some (.ref 50), some (.int x1), some (.int x2), some (.int x3), some (.int (x4 + 1)), none]) (st' := []) (σ' := (zE L, (jb_up M 50 2 ((M 50 2) + 1)), N)) (G := []) rfl trivial ?_
  cases h
  exact jb_mask [true, true, true, true, true, false] rfl hK
set_option maxRecDepth 4000 in
theorem zg_82_H7 {Γ : jb_G} {L : Nat} {d : Nat} (hd : 1 ≤ (d + 1)) (f : Nat → Int32 → jb_Mi → Option (Bool × jb_Mi)) (hf0 : ∀ (x1 : Int32) (M : jb_Mi) (N : jb_Ml) {r : Bool × jb_Mi}, f 0 x1 M = some r → jb_V Γ d zq_80 0 (jb_en 6 [.ref 50, .int x1]) [] (zE L, M, N) (some (.int (jb_b2i r.1))) (zE L, r.2, N)) (hf1 : ∀ (x1 : Int32) (M : jb_Mi) (N : jb_Ml) {r : Bool × jb_Mi}, f 1 x1 M = some r → jb_V Γ d zq_81 0 (jb_en 4 [.ref 50, .int x1]) [] (zE L, M, N) (some (.int (jb_b2i r.1))) (zE L, r.2, N)) (hf2 : ∀ (x1 : Int32) (M : jb_Mi) (N : jb_Ml) {r : Bool × jb_Mi}, f 2 x1 M = some r → jb_V Γ d zq_82 0 (jb_en 6 [.ref 50, .int x1]) [] (zE L, M, N) (some (.int (jb_b2i r.1))) (zE L, r.2, N)) (hf3 : ∀ (x1 : Int32) (M : jb_Mi) (N : jb_Ml) {r : Bool × jb_Mi}, f 3 x1 M = some r → jb_V Γ d zq_83 0 (jb_en 4 [.ref 50, .int x1]) [] (zE L, M, N) (some (.int (jb_b2i r.1))) (zE L, r.2, N)) (x1 : Int32) (N : jb_Ml) (s : Int32 × Int32 × Int32 × jb_Mi) {v : Option Value} {σ2 : jb_S} {r : ((Int32 × Int32 × Int32 × jb_Mi) ⊕ (Bool × jb_Mi))} (h : zf_82_H7 f x1 s = some r) (hK : (jb_K (fun s : Int32 × Int32 × Int32 × jb_Mi => jb_V Γ (d + 1) zq_82 7 [some (.ref 50), some (.int x1), some (.int s.1), some (.int s.2.1), some (.int s.2.2.1), none] [] (zE L, s.2.2.2, N) v σ2) (fun r : Bool × jb_Mi => v = some (.int (jb_b2i r.1)) ∧ σ2 = (zE L, r.2, N))) r) : jb_V Γ (d + 1) zq_82 7 [some (.ref 50), some (.int x1), some (.int s.1), some (.int s.2.1), some (.int s.2.2.1), none] [] (zE L, s.2.2.2, N) v σ2 := by
  unfold zf_82_H7 at h
  refine jb_seg 3 (pc' := (if s.2.2.1 < 240 then 15 else 111)) (ls' := [some (.ref 50), some (.int x1), some (.int s.1), some (.int s.2.1), some (.int s.2.2.1), none]) (st' := []) (σ' := (zE L, s.2.2.2, N)) (G := []) rfl trivial ?_
  refine jb_ite (fun c => ?_) (fun c => ?_)
  · rw [if_pos c] at h
    refine jb_seg 2 (pc' := 17) (ls' := [some (.ref 50), some (.int x1), some (.int s.1), some (.int s.2.1), some (.int s.2.2.1), none]) (st' := [(.int x1), (.ref 50)]) (σ' := (zE L, s.2.2.2, N)) (G := []) rfl trivial ?_
    obtain ⟨q1, h1, h⟩ := jb_bd_of h
    refine jb_callV (q' := zq_83) (As := [(.int x1)]) (rest := []) (σ1 := (zE L, q1.2, N)) (v := some (.int (jb_b2i q1.1))) rfl rfl zp_83 rfl (by decide) (jb_cat rfl) (Nat.le_of_ble_eq_true rfl) (Nat.le_of_ble_eq_true rfl) (Or.inl rfl) rfl (hf3 x1 s.2.2.2 N h1) ?_
    refine jb_seg 1 (pc' := (if (jb_b2i q1.1) = 0 then 23 else 25)) (ls' := [some (.ref 50), some (.int x1), some (.int s.1), some (.int s.2.1), some (.int s.2.2.1), none]) (st' := []) (σ' := (zE L, q1.2, N)) (G := []) rfl trivial ?_
    refine jb_ite (fun c => ?_) (fun c => ?_)
    · rw [if_pos c] at h
      refine jb_seg 1 (pc' := 24) (ls' := [some (.ref 50), some (.int x1), some (.int s.1), some (.int s.2.1), some (.int s.2.2.1), none]) (st' := [(.int 0)]) (σ' := (zE L, q1.2, N)) (G := []) rfl trivial ?_
      cases h
      obtain ⟨rfl, rfl⟩ := hK
      exact jb_retz (by decide) rfl rfl
    · rw [if_neg c] at h
      refine jb_seg 3 (pc' := 30) (ls' := [some (.ref 50), some (.int x1), some (.int s.1), some (.int s.2.1), some (.int s.2.2.1), none]) (st' := [(.int s.1), (.ref 51)]) (σ' := (zE L, q1.2, N)) (G := []) rfl trivial ?_
      obtain ⟨q2, h2, h⟩ := jb_bd_of h
      refine jb_callV (q' := zq_71) (As := [(.int s.1)]) (rest := []) (σ1 := (zE L, q2, N)) (v := none) rfl rfl zp_71 rfl (by decide) (jb_cat rfl) (Nat.le_of_ble_eq_true rfl) (Nat.le_of_ble_eq_true rfl) (Or.inl rfl) rfl (ze_71 s.1 q1.2 N h2) ?_
      refine jb_seg 6 (pc' := 43) (ls' := [some (.ref 50), some (.int x1), some (.int (-1)), some (.int s.2.1), some (.int s.2.2.1), none]) (st' := [(.int (q2 50 2)), (.ref 2)]) (σ' := (zE L, q2, N)) (G := []) rfl trivial ?_
      obtain ⟨q3, h3, h⟩ := jb_bd_of h
      refine jb_callV (q' := zq_30) (As := [(.int (q2 50 2))]) (rest := []) (σ1 := (zE L, q2, N)) (v := some (.int q3)) rfl rfl zp_30 rfl (by decide) (jb_cat rfl) (Nat.le_of_ble_eq_true rfl) (Nat.le_of_ble_eq_true rfl) (Or.inl rfl) rfl (ze_30 (q2 50 2) q2 N h3) ?_
      refine jb_seg 4 (pc' := (if q3 = 38 then 55 else 68)) (ls' := [some (.ref 50), some (.int x1), some (.int (-1)), some (.int s.2.1), some (.int s.2.2.1), some (.int q3)]) (st' := []) (σ' := (zE L, q2, N)) (G := []) rfl trivial ?_
      refine jb_ite (fun c => ?_) (fun c => ?_)
      · rw [if_pos c] at h
        refine jb_seg 4 (pc' := 61) (ls' := [some (.ref 50), some (.int x1), some (.int (-1)), some (.int s.2.1), some (.int s.2.2.1), some (.int q3)]) (st' := [(.int 0), (.int 4), (.ref 51)]) (σ' := (zE L, q2, N)) (G := []) rfl trivial ?_
        obtain ⟨q4, h4, h⟩ := jb_bd_of h
        refine jb_callV (q' := zq_70) (As := [(.int 4), (.int 0)]) (rest := []) (σ1 := (zE L, q4.2, N)) (v := some (.int q4.1)) rfl rfl zp_70 rfl (by decide) (jb_cat rfl) (Nat.le_of_ble_eq_true rfl) (Nat.le_of_ble_eq_true rfl) (Or.inl rfl) rfl (ze_70 4 0 q2 N h4) ?_
        refine jb_seg 2 (pc' := 95) (ls' := [some (.ref 50), some (.int x1), some (.int q4.1), some (.int s.2.1), some (.int s.2.2.1), some (.int q3)]) (st' := []) (σ' := (zE L, q4.2, N)) (G := []) rfl trivial ?_
        exact jb_mask [true, true, true, true, true, false] rfl (zg_82_J95 hd f hf0 hf1 hf2 hf3 x1 q4.1 s.2.1 s.2.2.1 q4.2 N h hK)
      · rw [if_neg c] at h
        refine jb_seg 3 (pc' := 73) (ls' := [some (.ref 50), some (.int x1), some (.int (-1)), some (.int s.2.1), some (.int s.2.2.1), some (.int q3)]) (st' := [(.int s.2.1), (.ref 51)]) (σ' := (zE L, q2, N)) (G := []) rfl trivial ?_
        obtain ⟨q5, h5, h⟩ := jb_bd_of h
        refine jb_callV (q' := zq_71) (As := [(.int s.2.1)]) (rest := []) (σ1 := (zE L, q5, N)) (v := none) rfl rfl zp_71 rfl (by decide) (jb_cat rfl) (Nat.le_of_ble_eq_true rfl) (Nat.le_of_ble_eq_true rfl) (Or.inl rfl) rfl (ze_71 s.2.1 q2 N h5) ?_
        refine jb_seg 3 (pc' := (if q3 = 124 then 85 else 83)) (ls' := [some (.ref 50), some (.int x1), some (.int (-1)), some (.int s.2.1), some (.int s.2.2.1), some (.int q3)]) (st' := []) (σ' := (zE L, q5, N)) (G := []) rfl trivial ?_
        refine jb_ite (fun c => ?_) (fun c => ?_)
        · rw [if_pos c] at h
          refine jb_seg 4 (pc' := 91) (ls' := [some (.ref 50), some (.int x1), some (.int (-1)), some (.int s.2.1), some (.int s.2.2.1), some (.int q3)]) (st' := [(.int 0), (.int 5), (.ref 51)]) (σ' := (zE L, q5, N)) (G := []) rfl trivial ?_
          obtain ⟨q6, h6, h⟩ := jb_bd_of h
          refine jb_callV (q' := zq_70) (As := [(.int 5), (.int 0)]) (rest := []) (σ1 := (zE L, q6.2, N)) (v := some (.int q6.1)) rfl rfl zp_70 rfl (by decide) (jb_cat rfl) (Nat.le_of_ble_eq_true rfl) (Nat.le_of_ble_eq_true rfl) (Or.inl rfl) rfl (ze_70 5 0 q5 N h6) ?_
          refine jb_seg 1 (pc' := 95) (ls' := [some (.ref 50), some (.int x1), some (.int (-1)), some (.int q6.1), some (.int s.2.2.1), some (.int q3)]) (st' := []) (σ' := (zE L, q6.2, N)) (G := []) rfl trivial ?_
          exact jb_mask [true, true, true, true, true, false] rfl (zg_82_J95 hd f hf0 hf1 hf2 hf3 x1 (-1) q6.1 s.2.2.1 q6.2 N h hK)
        · rw [if_neg c] at h
          refine jb_seg 1 (pc' := 84) (ls' := [some (.ref 50), some (.int x1), some (.int (-1)), some (.int s.2.1), some (.int s.2.2.1), some (.int q3)]) (st' := [(.int 1)]) (σ' := (zE L, q5, N)) (G := []) rfl trivial ?_
          cases h
          obtain ⟨rfl, rfl⟩ := hK
          exact jb_retz (by decide) rfl rfl
  · rw [if_neg c] at h
    refine jb_seg 2 (pc' := 113) (ls' := [some (.ref 50), some (.int x1), some (.int s.1), some (.int s.2.1), some (.int s.2.2.1), none]) (st' := [(.int 1), (.ref 50)]) (σ' := (zE L, s.2.2.2, N)) (G := []) rfl trivial ?_
    refine jb_callV (q' := zq_75) (As := [(.int 1)]) (rest := []) (σ1 := (zE L, (zf_75 1 s.2.2.2).2, N)) (v := some (.int (jb_b2i (zf_75 1 s.2.2.2).1))) rfl rfl zp_75 rfl (by decide) (jb_cat rfl) (Nat.le_of_ble_eq_true rfl) (Nat.le_of_ble_eq_true rfl) (Or.inl rfl) rfl (ze_75 1 s.2.2.2 N rfl) ?_
    cases h
    obtain ⟨rfl, rfl⟩ := hK
    exact jb_retz (jb_b2i_or _) rfl rfl
theorem zg_82_H7L {Γ : jb_G} {L : Nat} {d : Nat} (hd : 1 ≤ (d + 1)) (f : Nat → Int32 → jb_Mi → Option (Bool × jb_Mi)) (hf0 : ∀ (x1 : Int32) (M : jb_Mi) (N : jb_Ml) {r : Bool × jb_Mi}, f 0 x1 M = some r → jb_V Γ d zq_80 0 (jb_en 6 [.ref 50, .int x1]) [] (zE L, M, N) (some (.int (jb_b2i r.1))) (zE L, r.2, N)) (hf1 : ∀ (x1 : Int32) (M : jb_Mi) (N : jb_Ml) {r : Bool × jb_Mi}, f 1 x1 M = some r → jb_V Γ d zq_81 0 (jb_en 4 [.ref 50, .int x1]) [] (zE L, M, N) (some (.int (jb_b2i r.1))) (zE L, r.2, N)) (hf2 : ∀ (x1 : Int32) (M : jb_Mi) (N : jb_Ml) {r : Bool × jb_Mi}, f 2 x1 M = some r → jb_V Γ d zq_82 0 (jb_en 6 [.ref 50, .int x1]) [] (zE L, M, N) (some (.int (jb_b2i r.1))) (zE L, r.2, N)) (hf3 : ∀ (x1 : Int32) (M : jb_Mi) (N : jb_Ml) {r : Bool × jb_Mi}, f 3 x1 M = some r → jb_V Γ d zq_83 0 (jb_en 4 [.ref 50, .int x1]) [] (zE L, M, N) (some (.int (jb_b2i r.1))) (zE L, r.2, N)) (x1 : Int32) (N : jb_Ml) {v : Option Value} {σ2 : jb_S} {s : Int32 × Int32 × Int32 × jb_Mi} {r : (Bool × jb_Mi)} (h : jb_lp (zf_82_H7 f x1) s = some r) (hK : (fun r : Bool × jb_Mi => v = some (.int (jb_b2i r.1)) ∧ σ2 = (zE L, r.2, N)) r) : jb_V Γ (d + 1) zq_82 7 [some (.ref 50), some (.int x1), some (.int s.1), some (.int s.2.1), some (.int s.2.2.1), none] [] (zE L, s.2.2.2, N) v σ2 := by
  exact jb_lp_ind (P := fun s => jb_V Γ (d + 1) zq_82 7 [some (.ref 50), some (.int x1), some (.int s.1), some (.int s.2.1), some (.int s.2.2.1), none] [] (zE L, s.2.2.2, N) v σ2) (K := (fun r : Bool × jb_Mi => v = some (.int (jb_b2i r.1)) ∧ σ2 = (zE L, r.2, N))) (fun s r h hk => zg_82_H7 hd f hf0 hf1 hf2 hf3 x1 N s h (by cases r <;> exact hk)) h hK
set_option maxRecDepth 4000 in
theorem zg_82 {Γ : jb_G} {L : Nat} {d : Nat} (hd : 1 ≤ (d + 1)) (f : Nat → Int32 → jb_Mi → Option (Bool × jb_Mi)) (hf0 : ∀ (x1 : Int32) (M : jb_Mi) (N : jb_Ml) {r : Bool × jb_Mi}, f 0 x1 M = some r → jb_V Γ d zq_80 0 (jb_en 6 [.ref 50, .int x1]) [] (zE L, M, N) (some (.int (jb_b2i r.1))) (zE L, r.2, N)) (hf1 : ∀ (x1 : Int32) (M : jb_Mi) (N : jb_Ml) {r : Bool × jb_Mi}, f 1 x1 M = some r → jb_V Γ d zq_81 0 (jb_en 4 [.ref 50, .int x1]) [] (zE L, M, N) (some (.int (jb_b2i r.1))) (zE L, r.2, N)) (hf2 : ∀ (x1 : Int32) (M : jb_Mi) (N : jb_Ml) {r : Bool × jb_Mi}, f 2 x1 M = some r → jb_V Γ d zq_82 0 (jb_en 6 [.ref 50, .int x1]) [] (zE L, M, N) (some (.int (jb_b2i r.1))) (zE L, r.2, N)) (hf3 : ∀ (x1 : Int32) (M : jb_Mi) (N : jb_Ml) {r : Bool × jb_Mi}, f 3 x1 M = some r → jb_V Γ d zq_83 0 (jb_en 4 [.ref 50, .int x1]) [] (zE L, M, N) (some (.int (jb_b2i r.1))) (zE L, r.2, N)) (x1 : Int32) (M : jb_Mi) (N : jb_Ml) {v : Option Value} {σ2 : jb_S} {r : (Bool × jb_Mi)} (h : zf_82 f x1 M = some r) (hK : (fun r : Bool × jb_Mi => v = some (.int (jb_b2i r.1)) ∧ σ2 = (zE L, r.2, N)) r) : jb_V Γ (d + 1) zq_82 0 [some (.ref 50), some (.int x1), none, none, none, none] [] (zE L, M, N) v σ2 := by
  unfold zf_82 at h
  refine jb_seg 6 (pc' := 7) (ls' := [some (.ref 50), some (.int x1), some (.int (-1)), some (.int (-1)), some (.int 0), none]) (st' := []) (σ' := (zE L, M, N)) (G := []) rfl trivial ?_
  exact jb_mask [true, true, true, true, true, false] rfl (zg_82_H7L hd f hf0 hf1 hf2 hf3 x1 N h hK)
theorem ze_82 {Γ : jb_G} {L : Nat} {d : Nat} (hd : 1 ≤ (d + 1)) (f : Nat → Int32 → jb_Mi → Option (Bool × jb_Mi)) (hf0 : ∀ (x1 : Int32) (M : jb_Mi) (N : jb_Ml) {r : Bool × jb_Mi}, f 0 x1 M = some r → jb_V Γ d zq_80 0 (jb_en 6 [.ref 50, .int x1]) [] (zE L, M, N) (some (.int (jb_b2i r.1))) (zE L, r.2, N)) (hf1 : ∀ (x1 : Int32) (M : jb_Mi) (N : jb_Ml) {r : Bool × jb_Mi}, f 1 x1 M = some r → jb_V Γ d zq_81 0 (jb_en 4 [.ref 50, .int x1]) [] (zE L, M, N) (some (.int (jb_b2i r.1))) (zE L, r.2, N)) (hf2 : ∀ (x1 : Int32) (M : jb_Mi) (N : jb_Ml) {r : Bool × jb_Mi}, f 2 x1 M = some r → jb_V Γ d zq_82 0 (jb_en 6 [.ref 50, .int x1]) [] (zE L, M, N) (some (.int (jb_b2i r.1))) (zE L, r.2, N)) (hf3 : ∀ (x1 : Int32) (M : jb_Mi) (N : jb_Ml) {r : Bool × jb_Mi}, f 3 x1 M = some r → jb_V Γ d zq_83 0 (jb_en 4 [.ref 50, .int x1]) [] (zE L, M, N) (some (.int (jb_b2i r.1))) (zE L, r.2, N)) (x1 : Int32) (M : jb_Mi) (N : jb_Ml) {r : (Bool × jb_Mi)} (h : zf_82 f x1 M = some r) : jb_V Γ (d + 1) zq_82 0 (jb_en 6 [(.ref 50), (.int x1)]) [] (zE L, M, N) (some (.int (jb_b2i r.1))) (zE L, r.2, N) := zg_82 hd f hf0 hf1 hf2 hf3 x1 M N h ⟨rfl, rfl⟩
noncomputable def zfr_LT : Nat → Nat → Int32 → jb_Mi → Option (Bool × jb_Mi)
  | 0, _, _, _ => none
  | n + 1, w, x1, M => if w = 0 then zf_80 (zfr_LT n) x1 M else if w = 1 then zf_81 (zfr_LT n) x1 M else if w = 2 then zf_82 (zfr_LT n) x1 M else if w = 3 then zf_83 (zfr_LT n) x1 M else none
theorem zes_LT {Γ : jb_G} {L : Nat} : ∀ (n d : Nat), n + 2 ≤ d → (∀ (x1 : Int32) (M : jb_Mi) (N : jb_Ml) {r : Bool × jb_Mi}, zfr_LT n 0 x1 M = some r → jb_V Γ d zq_80 0 (jb_en 6 [.ref 50, .int x1]) [] (zE L, M, N) (some (.int (jb_b2i r.1))) (zE L, r.2, N)) ∧ (∀ (x1 : Int32) (M : jb_Mi) (N : jb_Ml) {r : Bool × jb_Mi}, zfr_LT n 1 x1 M = some r → jb_V Γ d zq_81 0 (jb_en 4 [.ref 50, .int x1]) [] (zE L, M, N) (some (.int (jb_b2i r.1))) (zE L, r.2, N)) ∧ (∀ (x1 : Int32) (M : jb_Mi) (N : jb_Ml) {r : Bool × jb_Mi}, zfr_LT n 2 x1 M = some r → jb_V Γ d zq_82 0 (jb_en 6 [.ref 50, .int x1]) [] (zE L, M, N) (some (.int (jb_b2i r.1))) (zE L, r.2, N)) ∧ (∀ (x1 : Int32) (M : jb_Mi) (N : jb_Ml) {r : Bool × jb_Mi}, zfr_LT n 3 x1 M = some r → jb_V Γ d zq_83 0 (jb_en 4 [.ref 50, .int x1]) [] (zE L, M, N) (some (.int (jb_b2i r.1))) (zE L, r.2, N))
  | 0, d, hd => ⟨fun _ _ _ _ h => by cases h, fun _ _ _ _ h => by cases h, fun _ _ _ _ h => by cases h, fun _ _ _ _ h => by cases h⟩
  | n + 1, 0, hd => by omega
  | n + 1, d + 1, hd => by
    obtain ⟨i0, i1, i2, i3⟩ := zes_LT (Γ := Γ) (L := L) n d (by omega)
    exact ⟨fun x1 M N r h => ze_80 (by omega) (zfr_LT n) i0 i1 i2 i3 x1 M N (by simpa [zfr_LT] using h), fun x1 M N r h => ze_81 (by omega) (zfr_LT n) i0 i1 i2 i3 x1 M N (by simpa [zfr_LT] using h), fun x1 M N r h => ze_82 (by omega) (zfr_LT n) i0 i1 i2 i3 x1 M N (by simpa [zfr_LT] using h), fun x1 M N r h => ze_83 (by omega) (zfr_LT n) i0 i1 i2 i3 x1 M N (by simpa [zfr_LT] using h)⟩
theorem zer_LT0 {Γ : jb_G} {L : Nat} {d : Nat} (hd : 46 ≤ d) (x1 : Int32) (M : jb_Mi) (N : jb_Ml) {r : Bool × jb_Mi} (h : zfr_LT 40 0 x1 M = some r) : jb_V Γ d zq_80 0 (jb_en 6 [.ref 50, .int x1]) [] (zE L, M, N) (some (.int (jb_b2i r.1))) (zE L, r.2, N) := (zes_LT 40 d (by omega)).1 x1 M N h
theorem zer_LT1 {Γ : jb_G} {L : Nat} {d : Nat} (hd : 46 ≤ d) (x1 : Int32) (M : jb_Mi) (N : jb_Ml) {r : Bool × jb_Mi} (h : zfr_LT 40 1 x1 M = some r) : jb_V Γ d zq_81 0 (jb_en 4 [.ref 50, .int x1]) [] (zE L, M, N) (some (.int (jb_b2i r.1))) (zE L, r.2, N) := (zes_LT 40 d (by omega)).2.1 x1 M N h
theorem zer_LT2 {Γ : jb_G} {L : Nat} {d : Nat} (hd : 46 ≤ d) (x1 : Int32) (M : jb_Mi) (N : jb_Ml) {r : Bool × jb_Mi} (h : zfr_LT 40 2 x1 M = some r) : jb_V Γ d zq_82 0 (jb_en 6 [.ref 50, .int x1]) [] (zE L, M, N) (some (.int (jb_b2i r.1))) (zE L, r.2, N) := (zes_LT 40 d (by omega)).2.2.1 x1 M N h
theorem zer_LT3 {Γ : jb_G} {L : Nat} {d : Nat} (hd : 46 ≤ d) (x1 : Int32) (M : jb_Mi) (N : jb_Ml) {r : Bool × jb_Mi} (h : zfr_LT 40 3 x1 M = some r) : jb_V Γ d zq_83 0 (jb_en 4 [.ref 50, .int x1]) [] (zE L, M, N) (some (.int (jb_b2i r.1))) (zE L, r.2, N) := (zes_LT 40 d (by omega)).2.2.2 x1 M N h
-- X6_read
noncomputable def zf_84_J208 (M : jb_Mi) : Option (Int32 × jb_Mi) :=
  some ((zf_74 (M 50 3) (M 50 2)), M)
noncomputable def zf_84_J166 (x1 : Int32) (M : jb_Mi) : Option ((Int32 × jb_Mi) ⊕ (Int32 × jb_Mi)) :=
  jb_gd x1 16 ((zf_79 40 (jb_up M 56 x1.toNatClampNeg (M 51 5))).bind fun q5 => if (jb_b2i q5.1) = 0 then ((zf_84_J208 q5.2).map .inr) else (zfr_LT 40 2 1 q5.2).bind fun q6 => if (jb_b2i q6.1) = 0 then ((zf_84_J208 q6.2).map .inr) else (zf_79 41 q6.2).bind fun q7 => if (jb_b2i q7.1) = 0 then ((zf_84_J208 q7.2).map .inr) else (zf_70 0 0 q7.2).bind fun q8 => (zf_30 ((jb_up q8.2 51 6 (x1 + 1)) 50 2) (jb_up q8.2 51 6 (x1 + 1))).bind fun q9 => if q9 = (-1) then some (.inr (((jb_up q8.2 51 6 (x1 + 1)) 51 6), (jb_up q8.2 51 6 (x1 + 1)))) else (zf_79 59 (jb_up q8.2 51 6 (x1 + 1))).bind fun q10 => if (jb_b2i q10.1) = 0 then some (.inr ((zf_74 (q10.2 50 3) (q10.2 50 2)), q10.2)) else some (.inl ((x1 + 1), q10.2)))
noncomputable def zf_84_J79 (x1 : Int32) (x2 : Int32) (M : jb_Mi) : Option ((Int32 × jb_Mi) ⊕ (Int32 × jb_Mi)) :=
  if x1 = 16 then some (.inr ((zf_74 4 (M 50 2)), M)) else jb_gd x1 16 (jb_gd x1 16 (if x2 = 120 then zf_84_J166 x1 (jb_up (jb_up (jb_up M 50 2 ((M 50 2) + 1)) 54 x1.toNatClampNeg x2) 55 x1.toNatClampNeg ((jb_up (jb_up M 50 2 ((M 50 2) + 1)) 54 x1.toNatClampNeg x2) 51 5)) else (zfr_LT 40 0 0 (jb_up (jb_up (jb_up M 50 2 ((M 50 2) + 1)) 54 x1.toNatClampNeg x2) 55 x1.toNatClampNeg ((jb_up (jb_up M 50 2 ((M 50 2) + 1)) 54 x1.toNatClampNeg x2) 51 5))).bind fun q11 => if (jb_b2i q11.1) = 0 then some (.inr ((zf_74 (q11.2 50 3) (q11.2 50 2)), q11.2)) else (zf_70 0 0 q11.2).bind fun q12 => zf_84_J166 x1 q12.2))
noncomputable def zf_84_H28 (s : Int32 × jb_Mi) : Option ((Int32 × jb_Mi) ⊕ (Int32 × jb_Mi)) :=
  if 16 < s.1 then some (.inr ((zf_74 (s.2 50 3) (s.2 50 2)), s.2)) else (zf_30 (s.2 50 2) s.2).bind fun q1 => if q1 = 116 then zf_84_J79 s.1 q1 s.2 else if q1 = 121 then zf_84_J79 s.1 q1 s.2 else if q1 = 100 then zf_84_J79 s.1 q1 s.2 else if q1 = 120 then zf_84_J79 s.1 q1 s.2 else some (.inr ((zf_74 1 (s.2 50 2)), s.2))
noncomputable def zf_84 (M : jb_Mi) : Option (Int32 × jb_Mi) :=
  jb_lp (zf_84_H28) (0, (jb_up (jb_up (jb_up (jb_up M 50 2 0) 50 3 0) 51 5 0) 51 6 0))
set_option maxRecDepth 4000 in
theorem zg_84_J208 {Γ : jb_G} {L : Nat} {d : Nat} (hd : 47 ≤ d) (M : jb_Mi) (N : jb_Ml) {v : Option Value} {σ2 : jb_S} {r : (Int32 × jb_Mi)} (h : zf_84_J208 M = some r) (hK : (fun r : Int32 × jb_Mi => v = some (.int r.1) ∧ σ2 = (zE L, r.2, N)) r) : jb_V Γ d zq_84 208 [some (.ref 50), none, none] [] (zE L, M, N) v σ2 := by
  obtain ⟨d, rfl⟩ : ∃ e, d = e + 1 := ⟨d - 1, by omega⟩
  unfold zf_84_J208 at h
  refine jb_seg 4 (pc' := 216) (ls' := [some (.ref 50), none, none]) (st' := [(.int (M 50 2)), (.int (M 50 3))]) (σ' := (zE L, M, N)) (G := []) rfl trivial ?_
  refine jb_callS (q' := zq_74) (As := [(.int (M 50 3)), (.int (M 50 2))]) (rest := []) (σ1 := (zE L, M, N)) (v := some (.int (zf_74 (M 50 3) (M 50 2)))) rfl (by decide) rfl zp_74 (jb_cat rfl) (Nat.le_of_ble_eq_true rfl) (Nat.le_of_ble_eq_true rfl) (Or.inl rfl) rfl (ze_74 (M 50 3) (M 50 2) M N rfl) ?_
  cases h
  obtain ⟨rfl, rfl⟩ := hK
  exact jb_reti rfl rfl
set_option maxRecDepth 4000 in
theorem zg_84_J166 {Γ : jb_G} {L : Nat} {d : Nat} (hd : 47 ≤ d) (x1 : Int32) (M : jb_Mi) (N : jb_Ml) {v : Option Value} {σ2 : jb_S} {r : ((Int32 × jb_Mi) ⊕ (Int32 × jb_Mi))} (h : zf_84_J166 x1 M = some r) (hK : (jb_K (fun s : Int32 × jb_Mi => jb_V Γ d zq_84 28 [some (.ref 50), some (.int s.1), none] [] (zE L, s.2, N) v σ2) (fun r : Int32 × jb_Mi => v = some (.int r.1) ∧ σ2 = (zE L, r.2, N))) r) : jb_V Γ d zq_84 166 [some (.ref 50), some (.int x1), none] [] (zE L, M, N) v σ2 := by
  obtain ⟨d, rfl⟩ : ∃ e, d = e + 1 := ⟨d - 1, by omega⟩
  unfold zf_84_J166 at h
  obtain ⟨g4, h⟩ := jb_gd_of h
  refine jb_seg 10 (pc' := 185) (ls' := [some (.ref 50), some (.int x1), none]) (st' := [(.int 40), (.ref 50)]) (σ' := (zE L, (jb_up M 56 x1.toNatClampNeg (M 51 5)), N)) (G := [vp_in x1 16]) rfl g4 ?_
  obtain ⟨q5, h5, h⟩ := jb_bd_of h
  refine jb_callV (q' := zq_79) (As := [(.int 40)]) (rest := []) (σ1 := (zE L, q5.2, N)) (v := some (.int (jb_b2i q5.1))) rfl rfl zp_79 rfl (by decide) (jb_cat rfl) (Nat.le_of_ble_eq_true rfl) (Nat.le_of_ble_eq_true rfl) (Or.inl rfl) rfl (ze_79 (by omega) 40 (jb_up M 56 x1.toNatClampNeg (M 51 5)) N h5) ?_
  refine jb_seg 1 (pc' := (if (jb_b2i q5.1) = 0 then 208 else 191)) (ls' := [some (.ref 50), some (.int x1), none]) (st' := []) (σ' := (zE L, q5.2, N)) (G := []) rfl trivial ?_
  refine jb_ite (fun c => ?_) (fun c => ?_)
  · rw [if_pos c] at h
    obtain ⟨y0, hy0, rfl⟩ := jb_mp_of h
    exact jb_mask [true, false, false] rfl (zg_84_J208 hd q5.2 N hy0 hK)
  · rw [if_neg c] at h
    refine jb_seg 2 (pc' := 193) (ls' := [some (.ref 50), some (.int x1), none]) (st' := [(.int 1), (.ref 50)]) (σ' := (zE L, q5.2, N)) (G := []) rfl trivial ?_
    obtain ⟨q6, h6, h⟩ := jb_bd_of h
    refine jb_callV (q' := zq_82) (As := [(.int 1)]) (rest := []) (σ1 := (zE L, q6.2, N)) (v := some (.int (jb_b2i q6.1))) rfl rfl zp_82 rfl (by decide) (jb_cat rfl) (Nat.le_of_ble_eq_true rfl) (Nat.le_of_ble_eq_true rfl) (Or.inl rfl) rfl (zer_LT2 (by omega) 1 q5.2 N h6) ?_
    refine jb_seg 1 (pc' := (if (jb_b2i q6.1) = 0 then 208 else 199)) (ls' := [some (.ref 50), some (.int x1), none]) (st' := []) (σ' := (zE L, q6.2, N)) (G := []) rfl trivial ?_
    refine jb_ite (fun c => ?_) (fun c => ?_)
    · rw [if_pos c] at h
      obtain ⟨y0, hy0, rfl⟩ := jb_mp_of h
      exact jb_mask [true, false, false] rfl (zg_84_J208 hd q6.2 N hy0 hK)
    · rw [if_neg c] at h
      refine jb_seg 2 (pc' := 202) (ls' := [some (.ref 50), some (.int x1), none]) (st' := [(.int 41), (.ref 50)]) (σ' := (zE L, q6.2, N)) (G := []) rfl trivial ?_
      obtain ⟨q7, h7, h⟩ := jb_bd_of h
      refine jb_callV (q' := zq_79) (As := [(.int 41)]) (rest := []) (σ1 := (zE L, q7.2, N)) (v := some (.int (jb_b2i q7.1))) rfl rfl zp_79 rfl (by decide) (jb_cat rfl) (Nat.le_of_ble_eq_true rfl) (Nat.le_of_ble_eq_true rfl) (Or.inl rfl) rfl (ze_79 (by omega) 41 q6.2 N h7) ?_
      refine jb_seg 1 (pc' := (if (jb_b2i q7.1) = 0 then 208 else 220)) (ls' := [some (.ref 50), some (.int x1), none]) (st' := []) (σ' := (zE L, q7.2, N)) (G := []) rfl trivial ?_
      refine jb_ite (fun c => ?_) (fun c => ?_)
      · rw [if_pos c] at h
        obtain ⟨y0, hy0, rfl⟩ := jb_mp_of h
        exact jb_mask [true, false, false] rfl (zg_84_J208 hd q7.2 N hy0 hK)
      · rw [if_neg c] at h
        refine jb_seg 4 (pc' := 226) (ls' := [some (.ref 50), some (.int x1), none]) (st' := [(.int 0), (.int 0), (.ref 51)]) (σ' := (zE L, q7.2, N)) (G := []) rfl trivial ?_
        obtain ⟨q8, h8, h⟩ := jb_bd_of h
        refine jb_callV (q' := zq_70) (As := [(.int 0), (.int 0)]) (rest := []) (σ1 := (zE L, q8.2, N)) (v := some (.int q8.1)) rfl rfl zp_70 rfl (by decide) (jb_cat rfl) (Nat.le_of_ble_eq_true rfl) (Nat.le_of_ble_eq_true rfl) (Or.inl rfl) rfl (ze_70 0 0 q7.2 N h8) ?_
        refine jb_seg 11 (pc' := 248) (ls' := [some (.ref 50), some (.int x1), none]) (st' := [(.int ((jb_up q8.2 51 6 (x1 + 1)) 50 2)), (.ref 2)]) (σ' := (zE L, (jb_up q8.2 51 6 (x1 + 1)), N)) (G := []) rfl trivial ?_
        obtain ⟨q9, h9, h⟩ := jb_bd_of h
        refine jb_callV (q' := zq_30) (As := [(.int ((jb_up q8.2 51 6 (x1 + 1)) 50 2))]) (rest := []) (σ1 := (zE L, (jb_up q8.2 51 6 (x1 + 1)), N)) (v := some (.int q9)) rfl rfl zp_30 rfl (by decide) (jb_cat rfl) (Nat.le_of_ble_eq_true rfl) (Nat.le_of_ble_eq_true rfl) (Or.inl rfl) rfl (ze_30 ((jb_up q8.2 51 6 (x1 + 1)) 50 2) (jb_up q8.2 51 6 (x1 + 1)) N h9) ?_
        refine jb_seg 2 (pc' := (if q9 = (-1) then 255 else 263)) (ls' := [some (.ref 50), some (.int x1), none]) (st' := []) (σ' := (zE L, (jb_up q8.2 51 6 (x1 + 1)), N)) (G := []) rfl trivial ?_
        refine jb_ite (fun c => ?_) (fun c => ?_)
        · rw [if_pos c] at h
          refine jb_seg 3 (pc' := 262) (ls' := [some (.ref 50), some (.int x1), none]) (st' := [(.int ((jb_up q8.2 51 6 (x1 + 1)) 51 6))]) (σ' := (zE L, (jb_up q8.2 51 6 (x1 + 1)), N)) (G := []) rfl trivial ?_
          cases h
          obtain ⟨rfl, rfl⟩ := hK
          exact jb_reti rfl rfl
        · rw [if_neg c] at h
          refine jb_seg 2 (pc' := 266) (ls' := [some (.ref 50), some (.int x1), none]) (st' := [(.int 59), (.ref 50)]) (σ' := (zE L, (jb_up q8.2 51 6 (x1 + 1)), N)) (G := []) rfl trivial ?_
          obtain ⟨q10, h10, h⟩ := jb_bd_of h
          refine jb_callV (q' := zq_79) (As := [(.int 59)]) (rest := []) (σ1 := (zE L, q10.2, N)) (v := some (.int (jb_b2i q10.1))) rfl rfl zp_79 rfl (by decide) (jb_cat rfl) (Nat.le_of_ble_eq_true rfl) (Nat.le_of_ble_eq_true rfl) (Or.inl rfl) rfl (ze_79 (by omega) 59 (jb_up q8.2 51 6 (x1 + 1)) N h10) ?_
          refine jb_seg 1 (pc' := (if (jb_b2i q10.1) = 0 then 272 else 284)) (ls' := [some (.ref 50), some (.int x1), none]) (st' := []) (σ' := (zE L, q10.2, N)) (G := []) rfl trivial ?_
          refine jb_ite (fun c => ?_) (fun c => ?_)
          · rw [if_pos c] at h
            refine jb_seg 4 (pc' := 280) (ls' := [some (.ref 50), some (.int x1), none]) (st' := [(.int (q10.2 50 2)), (.int (q10.2 50 3))]) (σ' := (zE L, q10.2, N)) (G := []) rfl trivial ?_
            refine jb_callS (q' := zq_74) (As := [(.int (q10.2 50 3)), (.int (q10.2 50 2))]) (rest := []) (σ1 := (zE L, q10.2, N)) (v := some (.int (zf_74 (q10.2 50 3) (q10.2 50 2)))) rfl (by decide) rfl zp_74 (jb_cat rfl) (Nat.le_of_ble_eq_true rfl) (Nat.le_of_ble_eq_true rfl) (Or.inl rfl) rfl (ze_74 (q10.2 50 3) (q10.2 50 2) q10.2 N rfl) ?_
            cases h
            obtain ⟨rfl, rfl⟩ := hK
            exact jb_reti rfl rfl
          · rw [if_neg c] at h
            refine jb_seg 2 (pc' := 28) (ls' := [some (.ref 50), some (.int (x1 + 1)), none]) (st' := []) (σ' := (zE L, q10.2, N)) (G := []) rfl trivial ?_
            cases h
            exact jb_mask [true, true, false] rfl hK
set_option maxRecDepth 4000 in
theorem zg_84_J79 {Γ : jb_G} {L : Nat} {d : Nat} (hd : 47 ≤ d) (x1 : Int32) (x2 : Int32) (M : jb_Mi) (N : jb_Ml) {v : Option Value} {σ2 : jb_S} {r : ((Int32 × jb_Mi) ⊕ (Int32 × jb_Mi))} (h : zf_84_J79 x1 x2 M = some r) (hK : (jb_K (fun s : Int32 × jb_Mi => jb_V Γ d zq_84 28 [some (.ref 50), some (.int s.1), none] [] (zE L, s.2, N) v σ2) (fun r : Int32 × jb_Mi => v = some (.int r.1) ∧ σ2 = (zE L, r.2, N))) r) : jb_V Γ d zq_84 79 [some (.ref 50), some (.int x1), some (.int x2)] [] (zE L, M, N) v σ2 := by
  obtain ⟨d, rfl⟩ : ∃ e, d = e + 1 := ⟨d - 1, by omega⟩
  unfold zf_84_J79 at h
  refine jb_seg 3 (pc' := (if x1 = 16 then 85 else 94)) (ls' := [some (.ref 50), some (.int x1), some (.int x2)]) (st' := []) (σ' := (zE L, M, N)) (G := []) rfl trivial ?_
  refine jb_ite (fun c => ?_) (fun c => ?_)
  · rw [if_pos c] at h
    refine jb_seg 3 (pc' := 90) (ls' := [some (.ref 50), some (.int x1), some (.int x2)]) (st' := [(.int (M 50 2)), (.int 4)]) (σ' := (zE L, M, N)) (G := []) rfl trivial ?_
    refine jb_callS (q' := zq_74) (As := [(.int 4), (.int (M 50 2))]) (rest := []) (σ1 := (zE L, M, N)) (v := some (.int (zf_74 4 (M 50 2)))) rfl (by decide) rfl zp_74 (jb_cat rfl) (Nat.le_of_ble_eq_true rfl) (Nat.le_of_ble_eq_true rfl) (Or.inl rfl) rfl (ze_74 4 (M 50 2) M N rfl) ?_
    cases h
    obtain ⟨rfl, rfl⟩ := hK
    exact jb_reti rfl rfl
  · rw [if_neg c] at h
    obtain ⟨g2, h⟩ := jb_gd_of h
    obtain ⟨g3, h⟩ := jb_gd_of h
    refine jb_seg 23 (pc' := (if x2 = 120 then 166 else 136)) (ls' := [some (.ref 50), some (.int x1), some (.int x2)]) (st' := []) (σ' := (zE L, (jb_up (jb_up (jb_up M 50 2 ((M 50 2) + 1)) 54 x1.toNatClampNeg x2) 55 x1.toNatClampNeg ((jb_up (jb_up M 50 2 ((M 50 2) + 1)) 54 x1.toNatClampNeg x2) 51 5)), N)) (G := [vp_in x1 16, vp_in x1 16]) rfl ⟨g2, g3⟩ ?_
    refine jb_ite (fun c => ?_) (fun c => ?_)
    · rw [if_pos c] at h
      exact jb_mask [true, true, false] rfl (zg_84_J166 hd x1 (jb_up (jb_up (jb_up M 50 2 ((M 50 2) + 1)) 54 x1.toNatClampNeg x2) 55 x1.toNatClampNeg ((jb_up (jb_up M 50 2 ((M 50 2) + 1)) 54 x1.toNatClampNeg x2) 51 5)) N h hK)
    · rw [if_neg c] at h
      refine jb_seg 2 (pc' := 138) (ls' := [some (.ref 50), some (.int x1), some (.int x2)]) (st' := [(.int 0), (.ref 50)]) (σ' := (zE L, (jb_up (jb_up (jb_up M 50 2 ((M 50 2) + 1)) 54 x1.toNatClampNeg x2) 55 x1.toNatClampNeg ((jb_up (jb_up M 50 2 ((M 50 2) + 1)) 54 x1.toNatClampNeg x2) 51 5)), N)) (G := []) rfl trivial ?_
      obtain ⟨q11, h11, h⟩ := jb_bd_of h
      refine jb_callV (q' := zq_80) (As := [(.int 0)]) (rest := []) (σ1 := (zE L, q11.2, N)) (v := some (.int (jb_b2i q11.1))) rfl rfl zp_80 rfl (by decide) (jb_cat rfl) (Nat.le_of_ble_eq_true rfl) (Nat.le_of_ble_eq_true rfl) (Or.inl rfl) rfl (zer_LT0 (by omega) 0 (jb_up (jb_up (jb_up M 50 2 ((M 50 2) + 1)) 54 x1.toNatClampNeg x2) 55 x1.toNatClampNeg ((jb_up (jb_up M 50 2 ((M 50 2) + 1)) 54 x1.toNatClampNeg x2) 51 5)) N h11) ?_
      refine jb_seg 1 (pc' := (if (jb_b2i q11.1) = 0 then 144 else 156)) (ls' := [some (.ref 50), some (.int x1), some (.int x2)]) (st' := []) (σ' := (zE L, q11.2, N)) (G := []) rfl trivial ?_
      refine jb_ite (fun c => ?_) (fun c => ?_)
      · rw [if_pos c] at h
        refine jb_seg 4 (pc' := 152) (ls' := [some (.ref 50), some (.int x1), some (.int x2)]) (st' := [(.int (q11.2 50 2)), (.int (q11.2 50 3))]) (σ' := (zE L, q11.2, N)) (G := []) rfl trivial ?_
        refine jb_callS (q' := zq_74) (As := [(.int (q11.2 50 3)), (.int (q11.2 50 2))]) (rest := []) (σ1 := (zE L, q11.2, N)) (v := some (.int (zf_74 (q11.2 50 3) (q11.2 50 2)))) rfl (by decide) rfl zp_74 (jb_cat rfl) (Nat.le_of_ble_eq_true rfl) (Nat.le_of_ble_eq_true rfl) (Or.inl rfl) rfl (ze_74 (q11.2 50 3) (q11.2 50 2) q11.2 N rfl) ?_
        cases h
        obtain ⟨rfl, rfl⟩ := hK
        exact jb_reti rfl rfl
      · rw [if_neg c] at h
        refine jb_seg 4 (pc' := 162) (ls' := [some (.ref 50), some (.int x1), some (.int x2)]) (st' := [(.int 0), (.int 0), (.ref 51)]) (σ' := (zE L, q11.2, N)) (G := []) rfl trivial ?_
        obtain ⟨q12, h12, h⟩ := jb_bd_of h
        refine jb_callV (q' := zq_70) (As := [(.int 0), (.int 0)]) (rest := []) (σ1 := (zE L, q12.2, N)) (v := some (.int q12.1)) rfl rfl zp_70 rfl (by decide) (jb_cat rfl) (Nat.le_of_ble_eq_true rfl) (Nat.le_of_ble_eq_true rfl) (Or.inl rfl) rfl (ze_70 0 0 q11.2 N h12) ?_
        refine jb_seg 1 (pc' := 166) (ls' := [some (.ref 50), some (.int x1), some (.int x2)]) (st' := []) (σ' := (zE L, q12.2, N)) (G := []) rfl trivial ?_
        exact jb_mask [true, true, false] rfl (zg_84_J166 hd x1 q12.2 N h hK)
set_option maxRecDepth 4000 in
theorem zg_84_H28 {Γ : jb_G} {L : Nat} {d : Nat} (hd : 47 ≤ d) (N : jb_Ml) (s : Int32 × jb_Mi) {v : Option Value} {σ2 : jb_S} {r : ((Int32 × jb_Mi) ⊕ (Int32 × jb_Mi))} (h : zf_84_H28 s = some r) (hK : (jb_K (fun s : Int32 × jb_Mi => jb_V Γ d zq_84 28 [some (.ref 50), some (.int s.1), none] [] (zE L, s.2, N) v σ2) (fun r : Int32 × jb_Mi => v = some (.int r.1) ∧ σ2 = (zE L, r.2, N))) r) : jb_V Γ d zq_84 28 [some (.ref 50), some (.int s.1), none] [] (zE L, s.2, N) v σ2 := by
  obtain ⟨d, rfl⟩ : ∃ e, d = e + 1 := ⟨d - 1, by omega⟩
  unfold zf_84_H28 at h
  refine jb_seg 3 (pc' := (if 16 < s.1 then 290 else 34)) (ls' := [some (.ref 50), some (.int s.1), none]) (st' := []) (σ' := (zE L, s.2, N)) (G := []) rfl trivial ?_
  refine jb_ite (fun c => ?_) (fun c => ?_)
  · rw [if_pos c] at h
    refine jb_seg 4 (pc' := 298) (ls' := [some (.ref 50), some (.int s.1), none]) (st' := [(.int (s.2 50 2)), (.int (s.2 50 3))]) (σ' := (zE L, s.2, N)) (G := []) rfl trivial ?_
    refine jb_callS (q' := zq_74) (As := [(.int (s.2 50 3)), (.int (s.2 50 2))]) (rest := []) (σ1 := (zE L, s.2, N)) (v := some (.int (zf_74 (s.2 50 3) (s.2 50 2)))) rfl (by decide) rfl zp_74 (jb_cat rfl) (Nat.le_of_ble_eq_true rfl) (Nat.le_of_ble_eq_true rfl) (Or.inl rfl) rfl (ze_74 (s.2 50 3) (s.2 50 2) s.2 N rfl) ?_
    cases h
    obtain ⟨rfl, rfl⟩ := hK
    exact jb_reti rfl rfl
  · rw [if_neg c] at h
    refine jb_seg 4 (pc' := 42) (ls' := [some (.ref 50), some (.int s.1), none]) (st' := [(.int (s.2 50 2)), (.ref 2)]) (σ' := (zE L, s.2, N)) (G := []) rfl trivial ?_
    obtain ⟨q1, h1, h⟩ := jb_bd_of h
    refine jb_callV (q' := zq_30) (As := [(.int (s.2 50 2))]) (rest := []) (σ1 := (zE L, s.2, N)) (v := some (.int q1)) rfl rfl zp_30 rfl (by decide) (jb_cat rfl) (Nat.le_of_ble_eq_true rfl) (Nat.le_of_ble_eq_true rfl) (Or.inl rfl) rfl (ze_30 (s.2 50 2) s.2 N h1) ?_
    refine jb_seg 4 (pc' := (if q1 = 116 then 79 else 52)) (ls' := [some (.ref 50), some (.int s.1), some (.int q1)]) (st' := []) (σ' := (zE L, s.2, N)) (G := []) rfl trivial ?_
    refine jb_ite (fun c => ?_) (fun c => ?_)
    · rw [if_pos c] at h
      exact jb_mask [true, true, true] rfl (zg_84_J79 hd s.1 q1 s.2 N h hK)
    · rw [if_neg c] at h
      refine jb_seg 3 (pc' := (if q1 = 121 then 79 else 58)) (ls' := [some (.ref 50), some (.int s.1), some (.int q1)]) (st' := []) (σ' := (zE L, s.2, N)) (G := []) rfl trivial ?_
      refine jb_ite (fun c => ?_) (fun c => ?_)
      · rw [if_pos c] at h
        exact jb_mask [true, true, true] rfl (zg_84_J79 hd s.1 q1 s.2 N h hK)
      · rw [if_neg c] at h
        refine jb_seg 3 (pc' := (if q1 = 100 then 79 else 64)) (ls' := [some (.ref 50), some (.int s.1), some (.int q1)]) (st' := []) (σ' := (zE L, s.2, N)) (G := []) rfl trivial ?_
        refine jb_ite (fun c => ?_) (fun c => ?_)
        · rw [if_pos c] at h
          exact jb_mask [true, true, true] rfl (zg_84_J79 hd s.1 q1 s.2 N h hK)
        · rw [if_neg c] at h
          refine jb_seg 3 (pc' := (if q1 = 120 then 79 else 70)) (ls' := [some (.ref 50), some (.int s.1), some (.int q1)]) (st' := []) (σ' := (zE L, s.2, N)) (G := []) rfl trivial ?_
          refine jb_ite (fun c => ?_) (fun c => ?_)
          · rw [if_pos c] at h
            exact jb_mask [true, true, true] rfl (zg_84_J79 hd s.1 q1 s.2 N h hK)
          · rw [if_neg c] at h
            refine jb_seg 3 (pc' := 75) (ls' := [some (.ref 50), some (.int s.1), some (.int q1)]) (st' := [(.int (s.2 50 2)), (.int 1)]) (σ' := (zE L, s.2, N)) (G := []) rfl trivial ?_
            refine jb_callS (q' := zq_74) (As := [(.int 1), (.int (s.2 50 2))]) (rest := []) (σ1 := (zE L, s.2, N)) (v := some (.int (zf_74 1 (s.2 50 2)))) rfl (by decide) rfl zp_74 (jb_cat rfl) (Nat.le_of_ble_eq_true rfl) (Nat.le_of_ble_eq_true rfl) (Or.inl rfl) rfl (ze_74 1 (s.2 50 2) s.2 N rfl) ?_
            cases h
            obtain ⟨rfl, rfl⟩ := hK
            exact jb_reti rfl rfl
theorem zg_84_H28L {Γ : jb_G} {L : Nat} {d : Nat} (hd : 47 ≤ d) (N : jb_Ml) {v : Option Value} {σ2 : jb_S} {s : Int32 × jb_Mi} {r : (Int32 × jb_Mi)} (h : jb_lp (zf_84_H28) s = some r) (hK : (fun r : Int32 × jb_Mi => v = some (.int r.1) ∧ σ2 = (zE L, r.2, N)) r) : jb_V Γ d zq_84 28 [some (.ref 50), some (.int s.1), none] [] (zE L, s.2, N) v σ2 := by
  exact jb_lp_ind (P := fun s => jb_V Γ d zq_84 28 [some (.ref 50), some (.int s.1), none] [] (zE L, s.2, N) v σ2) (K := (fun r : Int32 × jb_Mi => v = some (.int r.1) ∧ σ2 = (zE L, r.2, N))) (fun s r h hk => zg_84_H28 hd N s h (by cases r <;> exact hk)) h hK
set_option maxRecDepth 4000 in
theorem zg_84 {Γ : jb_G} {L : Nat} {d : Nat} (hd : 47 ≤ d) (M : jb_Mi) (N : jb_Ml) {v : Option Value} {σ2 : jb_S} {r : (Int32 × jb_Mi)} (h : zf_84 M = some r) (hK : (fun r : Int32 × jb_Mi => v = some (.int r.1) ∧ σ2 = (zE L, r.2, N)) r) : jb_V Γ d zq_84 0 [some (.ref 50), none, none] [] (zE L, M, N) v σ2 := by
  obtain ⟨d, rfl⟩ : ∃ e, d = e + 1 := ⟨d - 1, by omega⟩
  unfold zf_84 at h
  refine jb_seg 16 (pc' := 28) (ls' := [some (.ref 50), some (.int 0), none]) (st' := []) (σ' := (zE L, (jb_up (jb_up (jb_up (jb_up M 50 2 0) 50 3 0) 51 5 0) 51 6 0), N)) (G := []) rfl trivial ?_
  exact jb_mask [true, true, false] rfl (zg_84_H28L hd N h hK)
theorem ze_84 {Γ : jb_G} {L : Nat} {d : Nat} (hd : 47 ≤ d) (M : jb_Mi) (N : jb_Ml) {r : (Int32 × jb_Mi)} (h : zf_84 M = some r) : jb_V Γ d zq_84 0 (jb_en 3 [(.ref 50)]) [] (zE L, M, N) (some (.int r.1)) (zE L, r.2, N) := zg_84 hd M N h ⟨rfl, rfl⟩
-- X12_isMan
noncomputable def zf_86 (x0 : Int32) : Bool :=
  if x0 < 97 then false else if 112 < x0 then false else true
set_option maxRecDepth 4000 in
theorem zg_86 {Γ : jb_G} {L : Nat} {d : Nat} (x0 : Int32) (M : jb_Mi) (N : jb_Ml) {v : Option Value} {σ2 : jb_S} {r : Bool} (h : zf_86 x0 = r) (hK : (fun r : Bool => v = some (.int (jb_b2i r)) ∧ σ2 = (zE L, M, N)) r) : jb_V Γ d zq_86 0 [some (.int x0)] [] (zE L, M, N) v σ2 := by
  unfold zf_86 at h
  refine jb_seg 3 (pc' := (if x0 < 97 then 16 else 6)) (ls' := [some (.int x0)]) (st' := []) (σ' := (zE L, M, N)) (G := []) rfl trivial ?_
  refine jb_ite (fun c => ?_) (fun c => ?_)
  · rw [if_pos c] at h
    refine jb_seg 1 (pc' := 17) (ls' := [some (.int x0)]) (st' := [(.int 0)]) (σ' := (zE L, M, N)) (G := []) rfl trivial ?_
    subst h
    obtain ⟨rfl, rfl⟩ := hK
    exact jb_retz (by decide) rfl rfl
  · rw [if_neg c] at h
    refine jb_seg 3 (pc' := (if 112 < x0 then 16 else 12)) (ls' := [some (.int x0)]) (st' := []) (σ' := (zE L, M, N)) (G := []) rfl trivial ?_
    refine jb_ite (fun c => ?_) (fun c => ?_)
    · rw [if_pos c] at h
      refine jb_seg 1 (pc' := 17) (ls' := [some (.int x0)]) (st' := [(.int 0)]) (σ' := (zE L, M, N)) (G := []) rfl trivial ?_
      subst h
      obtain ⟨rfl, rfl⟩ := hK
      exact jb_retz (by decide) rfl rfl
    · rw [if_neg c] at h
      refine jb_seg 2 (pc' := 17) (ls' := [some (.int x0)]) (st' := [(.int 1)]) (σ' := (zE L, M, N)) (G := []) rfl trivial ?_
      subst h
      obtain ⟨rfl, rfl⟩ := hK
      exact jb_retz (by decide) rfl rfl
theorem ze_86 {Γ : jb_G} {L : Nat} {d : Nat} (x0 : Int32) (M : jb_Mi) (N : jb_Ml) {r : Bool} (h : zf_86 x0 = r) : jb_V Γ d zq_86 0 (jb_en 1 [(.int x0)]) [] (zE L, M, N) (some (.int (jb_b2i r))) (zE L, M, N) := zg_86 x0 M N h ⟨rfl, rfl⟩
-- X7_fail
noncomputable def zf_87 (x1 : Int32) (x2 : Int32) (M : jb_Mi) : Bool × jb_Mi :=
  (false, (jb_up M 43 3 (zf_74 x1 x2)))
set_option maxRecDepth 4000 in
theorem zg_87 {Γ : jb_G} {L : Nat} {d : Nat} (hd : 1 ≤ d) (x1 : Int32) (x2 : Int32) (M : jb_Mi) (N : jb_Ml) {v : Option Value} {σ2 : jb_S} {r : Bool × jb_Mi} (h : zf_87 x1 x2 M = r) (hK : (fun r : Bool × jb_Mi => v = some (.int (jb_b2i r.1)) ∧ σ2 = (zE L, r.2, N)) r) : jb_V Γ d zq_87 0 [some (.ref 43), some (.int x1), some (.int x2)] [] (zE L, M, N) v σ2 := by
  obtain ⟨d, rfl⟩ : ∃ e, d = e + 1 := ⟨d - 1, by omega⟩
  unfold zf_87 at h
  refine jb_seg 3 (pc' := 3) (ls' := [some (.ref 43), some (.int x1), some (.int x2)]) (st' := [(.int x2), (.int x1), (.ref 43)]) (σ' := (zE L, M, N)) (G := []) rfl trivial ?_
  refine jb_callS (q' := zq_74) (As := [(.int x1), (.int x2)]) (rest := [(.ref 43)]) (σ1 := (zE L, M, N)) (v := some (.int (zf_74 x1 x2))) rfl (by decide) rfl zp_74 (jb_cat rfl) (Nat.le_of_ble_eq_true rfl) (Nat.le_of_ble_eq_true rfl) (Or.inl rfl) rfl (ze_74 x1 x2 M N rfl) ?_
  refine jb_seg 2 (pc' := 10) (ls' := [some (.ref 43), some (.int x1), some (.int x2)]) (st' := [(.int 0)]) (σ' := (zE L, (jb_up M 43 3 (zf_74 x1 x2)), N)) (G := []) rfl trivial ?_
  subst h
  obtain ⟨rfl, rfl⟩ := hK
  exact jb_retz (by decide) rfl rfl
theorem ze_87 {Γ : jb_G} {L : Nat} {d : Nat} (hd : 1 ≤ d) (x1 : Int32) (x2 : Int32) (M : jb_Mi) (N : jb_Ml) {r : Bool × jb_Mi} (h : zf_87 x1 x2 M = r) : jb_V Γ d zq_87 0 (jb_en 3 [(.ref 43), (.int x1), (.int x2)]) [] (zE L, M, N) (some (.int (jb_b2i r.1))) (zE L, r.2, N) := zg_87 hd x1 x2 M N h ⟨rfl, rfl⟩
-- X7_readNumber
noncomputable def zf_88_J71 (x1 : Int32) (x2 : Int32) (M : jb_Mi) : Option ((Int32 × Int32 × jb_Mi) ⊕ (Int32 × jb_Mi)) :=
  some (.inl (x1, (x2 + 1), M))
noncomputable def zf_88_H4 (s : Int32 × Int32 × jb_Mi) : Option ((Int32 × Int32 × jb_Mi) ⊕ (Int32 × jb_Mi)) :=
  if 2 < s.2.1 then some (.inr ((-1), (zf_87 2 (s.2.2 43 2) s.2.2).2)) else (zf_30 (s.2.2 43 2) s.2.2).bind fun q1 => if (jb_b2i (zf_76 q1)) = 0 then if 0 < s.2.1 then some (.inr (s.1, s.2.2)) else some (.inr ((-1), (zf_87 1 (s.2.2 43 2) s.2.2).2)) else if s.2.1 < 2 then zf_88_J71 (((10 * s.1) + q1) - 48) s.2.1 (jb_up s.2.2 43 2 ((s.2.2 43 2) + 1)) else zf_88_J71 s.1 s.2.1 s.2.2
noncomputable def zf_88 (M : jb_Mi) : Option (Int32 × jb_Mi) :=
  jb_lp (zf_88_H4) (0, 0, M)
set_option maxRecDepth 4000 in
theorem zg_88_J71 {Γ : jb_G} {L : Nat} {d : Nat} (hd : 2 ≤ d) (x1 : Int32) (x2 : Int32) (M : jb_Mi) (N : jb_Ml) {v : Option Value} {σ2 : jb_S} {r : ((Int32 × Int32 × jb_Mi) ⊕ (Int32 × jb_Mi))} (h : zf_88_J71 x1 x2 M = some r) (hK : (jb_K (fun s : Int32 × Int32 × jb_Mi => jb_V Γ d zq_88 4 [some (.ref 43), some (.int s.1), some (.int s.2.1), none] [] (zE L, s.2.2, N) v σ2) (fun r : Int32 × jb_Mi => v = some (.int r.1) ∧ σ2 = (zE L, r.2, N))) r) : jb_V Γ d zq_88 71 [some (.ref 43), some (.int x1), some (.int x2), none] [] (zE L, M, N) v σ2 := by
  obtain ⟨d, rfl⟩ : ∃ e, d = e + 1 := ⟨d - 1, by omega⟩
  unfold zf_88_J71 at h
  refine jb_seg 2 (pc' := 4) (ls' := [some (.ref 43), some (.int x1), some (.int (x2 + 1)), none]) (st' := []) (σ' := (zE L, M, N)) (G := []) rfl trivial ?_
  cases h
  exact jb_mask [true, true, true, false] rfl hK
set_option maxRecDepth 4000 in
theorem zg_88_H4 {Γ : jb_G} {L : Nat} {d : Nat} (hd : 2 ≤ d) (N : jb_Ml) (s : Int32 × Int32 × jb_Mi) {v : Option Value} {σ2 : jb_S} {r : ((Int32 × Int32 × jb_Mi) ⊕ (Int32 × jb_Mi))} (h : zf_88_H4 s = some r) (hK : (jb_K (fun s : Int32 × Int32 × jb_Mi => jb_V Γ d zq_88 4 [some (.ref 43), some (.int s.1), some (.int s.2.1), none] [] (zE L, s.2.2, N) v σ2) (fun r : Int32 × jb_Mi => v = some (.int r.1) ∧ σ2 = (zE L, r.2, N))) r) : jb_V Γ d zq_88 4 [some (.ref 43), some (.int s.1), some (.int s.2.1), none] [] (zE L, s.2.2, N) v σ2 := by
  obtain ⟨d, rfl⟩ : ∃ e, d = e + 1 := ⟨d - 1, by omega⟩
  unfold zf_88_H4 at h
  refine jb_seg 3 (pc' := (if 2 < s.2.1 then 77 else 9)) (ls' := [some (.ref 43), some (.int s.1), some (.int s.2.1), none]) (st' := []) (σ' := (zE L, s.2.2, N)) (G := []) rfl trivial ?_
  refine jb_ite (fun c => ?_) (fun c => ?_)
  · rw [if_pos c] at h
    refine jb_seg 4 (pc' := 83) (ls' := [some (.ref 43), some (.int s.1), some (.int s.2.1), none]) (st' := [(.int (s.2.2 43 2)), (.int 2), (.ref 43)]) (σ' := (zE L, s.2.2, N)) (G := []) rfl trivial ?_
    refine jb_callV (q' := zq_87) (As := [(.int 2), (.int (s.2.2 43 2))]) (rest := []) (σ1 := (zE L, (zf_87 2 (s.2.2 43 2) s.2.2).2, N)) (v := some (.int (jb_b2i (zf_87 2 (s.2.2 43 2) s.2.2).1))) rfl rfl zp_87 rfl (by decide) (jb_cat rfl) (Nat.le_of_ble_eq_true rfl) (Nat.le_of_ble_eq_true rfl) (Or.inl rfl) rfl (ze_87 (by omega) 2 (s.2.2 43 2) s.2.2 N rfl) ?_
    refine jb_seg 2 (pc' := 88) (ls' := [some (.ref 43), some (.int s.1), some (.int s.2.1), none]) (st' := [(.int (-1))]) (σ' := (zE L, (zf_87 2 (s.2.2 43 2) s.2.2).2, N)) (G := []) rfl trivial ?_
    cases h
    obtain ⟨rfl, rfl⟩ := hK
    exact jb_reti rfl rfl
  · rw [if_neg c] at h
    refine jb_seg 4 (pc' := 17) (ls' := [some (.ref 43), some (.int s.1), some (.int s.2.1), none]) (st' := [(.int (s.2.2 43 2)), (.ref 2)]) (σ' := (zE L, s.2.2, N)) (G := []) rfl trivial ?_
    obtain ⟨q1, h1, h⟩ := jb_bd_of h
    refine jb_callV (q' := zq_30) (As := [(.int (s.2.2 43 2))]) (rest := []) (σ1 := (zE L, s.2.2, N)) (v := some (.int q1)) rfl rfl zp_30 rfl (by decide) (jb_cat rfl) (Nat.le_of_ble_eq_true rfl) (Nat.le_of_ble_eq_true rfl) (Or.inl rfl) rfl (ze_30 (s.2.2 43 2) s.2.2 N h1) ?_
    refine jb_seg 2 (pc' := 22) (ls' := [some (.ref 43), some (.int s.1), some (.int s.2.1), some (.int q1)]) (st' := [(.int q1)]) (σ' := (zE L, s.2.2, N)) (G := []) rfl trivial ?_
    refine jb_callS (q' := zq_76) (As := [(.int q1)]) (rest := []) (σ1 := (zE L, s.2.2, N)) (v := some (.int (jb_b2i (zf_76 q1)))) rfl (by decide) rfl zp_76 (jb_cat rfl) (Nat.le_of_ble_eq_true rfl) (Nat.le_of_ble_eq_true rfl) (Or.inl rfl) rfl (ze_76 q1 s.2.2 N rfl) ?_
    refine jb_seg 1 (pc' := (if (jb_b2i (zf_76 q1)) = 0 then 28 else 46)) (ls' := [some (.ref 43), some (.int s.1), some (.int s.2.1), some (.int q1)]) (st' := []) (σ' := (zE L, s.2.2, N)) (G := []) rfl trivial ?_
    refine jb_ite (fun c => ?_) (fun c => ?_)
    · rw [if_pos c] at h
      refine jb_seg 2 (pc' := (if 0 < s.2.1 then 32 else 34)) (ls' := [some (.ref 43), some (.int s.1), some (.int s.2.1), some (.int q1)]) (st' := []) (σ' := (zE L, s.2.2, N)) (G := []) rfl trivial ?_
      refine jb_ite (fun c => ?_) (fun c => ?_)
      · rw [if_pos c] at h
        refine jb_seg 1 (pc' := 33) (ls' := [some (.ref 43), some (.int s.1), some (.int s.2.1), some (.int q1)]) (st' := [(.int s.1)]) (σ' := (zE L, s.2.2, N)) (G := []) rfl trivial ?_
        cases h
        obtain ⟨rfl, rfl⟩ := hK
        exact jb_reti rfl rfl
      · rw [if_neg c] at h
        refine jb_seg 4 (pc' := 40) (ls' := [some (.ref 43), some (.int s.1), some (.int s.2.1), some (.int q1)]) (st' := [(.int (s.2.2 43 2)), (.int 1), (.ref 43)]) (σ' := (zE L, s.2.2, N)) (G := []) rfl trivial ?_
        refine jb_callV (q' := zq_87) (As := [(.int 1), (.int (s.2.2 43 2))]) (rest := []) (σ1 := (zE L, (zf_87 1 (s.2.2 43 2) s.2.2).2, N)) (v := some (.int (jb_b2i (zf_87 1 (s.2.2 43 2) s.2.2).1))) rfl rfl zp_87 rfl (by decide) (jb_cat rfl) (Nat.le_of_ble_eq_true rfl) (Nat.le_of_ble_eq_true rfl) (Or.inl rfl) rfl (ze_87 (by omega) 1 (s.2.2 43 2) s.2.2 N rfl) ?_
        refine jb_seg 2 (pc' := 45) (ls' := [some (.ref 43), some (.int s.1), some (.int s.2.1), some (.int q1)]) (st' := [(.int (-1))]) (σ' := (zE L, (zf_87 1 (s.2.2 43 2) s.2.2).2, N)) (G := []) rfl trivial ?_
        cases h
        obtain ⟨rfl, rfl⟩ := hK
        exact jb_reti rfl rfl
    · rw [if_neg c] at h
      refine jb_seg 3 (pc' := (if s.2.1 < 2 then 51 else 71)) (ls' := [some (.ref 43), some (.int s.1), some (.int s.2.1), some (.int q1)]) (st' := []) (σ' := (zE L, s.2.2, N)) (G := []) rfl trivial ?_
      refine jb_ite (fun c => ?_) (fun c => ?_)
      · rw [if_pos c] at h
        refine jb_seg 14 (pc' := 71) (ls' := [some (.ref 43), some (.int (((10 * s.1) + q1) - 48)), some (.int s.2.1), some (.int q1)]) (st' := []) (σ' := (zE L, (jb_up s.2.2 43 2 ((s.2.2 43 2) + 1)), N)) (G := []) rfl trivial ?_
        exact jb_mask [true, true, true, false] rfl (zg_88_J71 hd (((10 * s.1) + q1) - 48) s.2.1 (jb_up s.2.2 43 2 ((s.2.2 43 2) + 1)) N h hK)
      · rw [if_neg c] at h
        exact jb_mask [true, true, true, false] rfl (zg_88_J71 hd s.1 s.2.1 s.2.2 N h hK)
theorem zg_88_H4L {Γ : jb_G} {L : Nat} {d : Nat} (hd : 2 ≤ d) (N : jb_Ml) {v : Option Value} {σ2 : jb_S} {s : Int32 × Int32 × jb_Mi} {r : (Int32 × jb_Mi)} (h : jb_lp (zf_88_H4) s = some r) (hK : (fun r : Int32 × jb_Mi => v = some (.int r.1) ∧ σ2 = (zE L, r.2, N)) r) : jb_V Γ d zq_88 4 [some (.ref 43), some (.int s.1), some (.int s.2.1), none] [] (zE L, s.2.2, N) v σ2 := by
  exact jb_lp_ind (P := fun s => jb_V Γ d zq_88 4 [some (.ref 43), some (.int s.1), some (.int s.2.1), none] [] (zE L, s.2.2, N) v σ2) (K := (fun r : Int32 × jb_Mi => v = some (.int r.1) ∧ σ2 = (zE L, r.2, N))) (fun s r h hk => zg_88_H4 hd N s h (by cases r <;> exact hk)) h hK
set_option maxRecDepth 4000 in
theorem zg_88 {Γ : jb_G} {L : Nat} {d : Nat} (hd : 2 ≤ d) (M : jb_Mi) (N : jb_Ml) {v : Option Value} {σ2 : jb_S} {r : (Int32 × jb_Mi)} (h : zf_88 M = some r) (hK : (fun r : Int32 × jb_Mi => v = some (.int r.1) ∧ σ2 = (zE L, r.2, N)) r) : jb_V Γ d zq_88 0 [some (.ref 43), none, none, none] [] (zE L, M, N) v σ2 := by
  obtain ⟨d, rfl⟩ : ∃ e, d = e + 1 := ⟨d - 1, by omega⟩
  unfold zf_88 at h
  refine jb_seg 4 (pc' := 4) (ls' := [some (.ref 43), some (.int 0), some (.int 0), none]) (st' := []) (σ' := (zE L, M, N)) (G := []) rfl trivial ?_
  exact jb_mask [true, true, true, false] rfl (zg_88_H4L hd N h hK)
theorem ze_88 {Γ : jb_G} {L : Nat} {d : Nat} (hd : 2 ≤ d) (M : jb_Mi) (N : jb_Ml) {r : (Int32 × jb_Mi)} (h : zf_88 M = some r) : jb_V Γ d zq_88 0 (jb_en 4 [(.ref 43)]) [] (zE L, M, N) (some (.int r.1)) (zE L, r.2, N) := zg_88 hd M N h ⟨rfl, rfl⟩
-- X7_readRest
noncomputable def zf_89 (M : jb_Mi) : Option (Bool × jb_Mi) :=
  (zf_30 (M 43 2) M).bind fun q1 => (zf_18 24 (q1 - 97) M).bind fun q2 => if (jb_b2i q2) = 0 then some ((zf_87 7 (M 43 2) M).1, (zf_87 7 (M 43 2) M).2) else (zf_88 (jb_up M 43 2 ((M 43 2) + 1))).bind fun q3 => if q3.1 < 0 then some (false, q3.2) else jb_gd (q1 - 97) 16 (jb_gd (q1 - 97) 16 (some (true, (jb_up q3.2 33 ((q1 - 97)).toNatClampNeg (zf_271 0 ((q3.2 33 ((q1 - 97)).toNatClampNeg) - q3.1))))))
set_option maxRecDepth 4000 in
theorem zg_89 {Γ : jb_G} {L : Nat} {d : Nat} (hd : 3 ≤ d) (M : jb_Mi) (N : jb_Ml) {v : Option Value} {σ2 : jb_S} {r : (Bool × jb_Mi)} (h : zf_89 M = some r) (hK : (fun r : Bool × jb_Mi => v = some (.int (jb_b2i r.1)) ∧ σ2 = (zE L, r.2, N)) r) : jb_V Γ d zq_89 0 [some (.ref 43), none, none] [] (zE L, M, N) v σ2 := by
  obtain ⟨d, rfl⟩ : ∃ e, d = e + 1 := ⟨d - 1, by omega⟩
  unfold zf_89 at h
  refine jb_seg 4 (pc' := 8) (ls' := [some (.ref 43), none, none]) (st' := [(.int (M 43 2)), (.ref 2)]) (σ' := (zE L, M, N)) (G := []) rfl trivial ?_
  obtain ⟨q1, h1, h⟩ := jb_bd_of h
  refine jb_callV (q' := zq_30) (As := [(.int (M 43 2))]) (rest := []) (σ1 := (zE L, M, N)) (v := some (.int q1)) rfl rfl zp_30 rfl (by decide) (jb_cat rfl) (Nat.le_of_ble_eq_true rfl) (Nat.le_of_ble_eq_true rfl) (Or.inl rfl) rfl (ze_30 (M 43 2) M N h1) ?_
  refine jb_seg 6 (pc' := 20) (ls' := [some (.ref 43), some (.int (q1 - 97)), none]) (st' := [(.int (q1 - 97)), (.ref 24)]) (σ' := (zE L, M, N)) (G := []) rfl trivial ?_
  obtain ⟨q2, h2, h⟩ := jb_bd_of h
  refine jb_callV (q' := zq_18) (As := [(.int (q1 - 97))]) (rest := []) (σ1 := (zE L, M, N)) (v := some (.int (jb_b2i q2))) rfl rfl zp_18 rfl (by decide) (jb_cat rfl) (Nat.le_of_ble_eq_true rfl) (Nat.le_of_ble_eq_true rfl) (Or.inl rfl) rfl (ze_18 24 (q1 - 97) M N (by decide) h2) ?_
  refine jb_seg 1 (pc' := (if (jb_b2i q2) = 0 then 26 else 37)) (ls' := [some (.ref 43), some (.int (q1 - 97)), none]) (st' := []) (σ' := (zE L, M, N)) (G := []) rfl trivial ?_
  refine jb_ite (fun c => ?_) (fun c => ?_)
  · rw [if_pos c] at h
    refine jb_seg 4 (pc' := 33) (ls' := [some (.ref 43), some (.int (q1 - 97)), none]) (st' := [(.int (M 43 2)), (.int 7), (.ref 43)]) (σ' := (zE L, M, N)) (G := []) rfl trivial ?_
    refine jb_callV (q' := zq_87) (As := [(.int 7), (.int (M 43 2))]) (rest := []) (σ1 := (zE L, (zf_87 7 (M 43 2) M).2, N)) (v := some (.int (jb_b2i (zf_87 7 (M 43 2) M).1))) rfl rfl zp_87 rfl (by decide) (jb_cat rfl) (Nat.le_of_ble_eq_true rfl) (Nat.le_of_ble_eq_true rfl) (Or.inl rfl) rfl (ze_87 (by omega) 7 (M 43 2) M N rfl) ?_
    cases h
    obtain ⟨rfl, rfl⟩ := hK
    exact jb_retz (jb_b2i_or _) rfl rfl
  · rw [if_neg c] at h
    refine jb_seg 7 (pc' := 48) (ls' := [some (.ref 43), some (.int (q1 - 97)), none]) (st' := [(.ref 43)]) (σ' := (zE L, (jb_up M 43 2 ((M 43 2) + 1)), N)) (G := []) rfl trivial ?_
    obtain ⟨q3, h3, h⟩ := jb_bd_of h
    refine jb_callV (q' := zq_88) (As := []) (rest := []) (σ1 := (zE L, q3.2, N)) (v := some (.int q3.1)) rfl rfl zp_88 rfl (by decide) (jb_cat rfl) (Nat.le_of_ble_eq_true rfl) (Nat.le_of_ble_eq_true rfl) (Or.inl rfl) rfl (ze_88 (by omega) (jb_up M 43 2 ((M 43 2) + 1)) N h3) ?_
    refine jb_seg 3 (pc' := (if q3.1 < 0 then 56 else 58)) (ls' := [some (.ref 43), some (.int (q1 - 97)), some (.int q3.1)]) (st' := []) (σ' := (zE L, q3.2, N)) (G := []) rfl trivial ?_
    refine jb_ite (fun c => ?_) (fun c => ?_)
    · rw [if_pos c] at h
      refine jb_seg 1 (pc' := 57) (ls' := [some (.ref 43), some (.int (q1 - 97)), some (.int q3.1)]) (st' := [(.int 0)]) (σ' := (zE L, q3.2, N)) (G := []) rfl trivial ?_
      cases h
      obtain ⟨rfl, rfl⟩ := hK
      exact jb_retz (by decide) rfl rfl
    · rw [if_neg c] at h
      obtain ⟨g4, h⟩ := jb_gd_of h
      refine jb_seg 12 (pc' := 78) (ls' := [some (.ref 43), some (.int (q1 - 97)), some (.int q3.1)]) (st' := [(.int ((q3.2 33 ((q1 - 97)).toNatClampNeg) - q3.1)), (.int 0), (.int (q1 - 97)), (.ref 33)]) (σ' := (zE L, q3.2, N)) (G := [vp_in (q1 - 97) 16]) rfl g4 ?_
      refine jb_callS (q' := zq_271) (As := [(.int 0), (.int ((q3.2 33 ((q1 - 97)).toNatClampNeg) - q3.1))]) (rest := [(.int (q1 - 97)), (.ref 33)]) (σ1 := (zE L, q3.2, N)) (v := some (.int (zf_271 0 ((q3.2 33 ((q1 - 97)).toNatClampNeg) - q3.1)))) rfl (by decide) rfl zp_271 (jb_cat rfl) (Nat.le_of_ble_eq_true rfl) (Nat.le_of_ble_eq_true rfl) (Or.inl rfl) rfl (ze_271 0 ((q3.2 33 ((q1 - 97)).toNatClampNeg) - q3.1) q3.2 N rfl) ?_
      obtain ⟨g5, h⟩ := jb_gd_of h
      refine jb_seg 2 (pc' := 83) (ls' := [some (.ref 43), some (.int (q1 - 97)), some (.int q3.1)]) (st' := [(.int 1)]) (σ' := (zE L, (jb_up q3.2 33 ((q1 - 97)).toNatClampNeg (zf_271 0 ((q3.2 33 ((q1 - 97)).toNatClampNeg) - q3.1))), N)) (G := [vp_in (q1 - 97) 16]) rfl g5 ?_
      cases h
      obtain ⟨rfl, rfl⟩ := hK
      exact jb_retz (by decide) rfl rfl
theorem ze_89 {Γ : jb_G} {L : Nat} {d : Nat} (hd : 3 ≤ d) (M : jb_Mi) (N : jb_Ml) {r : (Bool × jb_Mi)} (h : zf_89 M = some r) : jb_V Γ d zq_89 0 (jb_en 3 [(.ref 43)]) [] (zE L, M, N) (some (.int (jb_b2i r.1))) (zE L, r.2, N) := zg_89 hd M N h ⟨rfl, rfl⟩
-- X7_readSpot
noncomputable def zf_90_J73 (x1 : Int32) (x2 : Int32) (M : jb_Mi) : Option ((Int32 × jb_Mi) ⊕ (Bool × jb_Mi)) :=
  some (.inl ((x2 + 1), (jb_up M 43 2 ((M 43 2) + 1))))
noncomputable def zf_90_H2 (x1 : Int32) (s : Int32 × jb_Mi) : Option ((Int32 × jb_Mi) ⊕ (Bool × jb_Mi)) :=
  if s.1 < 2 then (zf_30 (s.2 43 2) s.2).bind fun q1 => if (jb_b2i (zf_23 q1 48 56)) = 0 then some (.inr ((zf_87 1 (s.2 43 2) s.2).1, (zf_87 1 (s.2 43 2) s.2).2)) else if s.1 = 0 then jb_gd x1 24 (zf_90_J73 x1 s.1 (jb_up s.2 29 x1.toNatClampNeg (q1 - 48))) else jb_gd x1 24 (zf_90_J73 x1 s.1 (jb_up s.2 30 x1.toNatClampNeg (q1 - 48))) else some (.inr (true, s.2))
noncomputable def zf_90 (x1 : Int32) (M : jb_Mi) : Option (Bool × jb_Mi) :=
  jb_lp (zf_90_H2 x1) (0, M)
set_option maxRecDepth 4000 in
theorem zg_90_J73 {Γ : jb_G} {L : Nat} {d : Nat} (hd : 2 ≤ d) (x1 : Int32) (x2 : Int32) (M : jb_Mi) (N : jb_Ml) {v : Option Value} {σ2 : jb_S} {r : ((Int32 × jb_Mi) ⊕ (Bool × jb_Mi))} (h : zf_90_J73 x1 x2 M = some r) (hK : (jb_K (fun s : Int32 × jb_Mi => jb_V Γ d zq_90 2 [some (.ref 43), some (.int x1), some (.int s.1), none] [] (zE L, s.2, N) v σ2) (fun r : Bool × jb_Mi => v = some (.int (jb_b2i r.1)) ∧ σ2 = (zE L, r.2, N))) r) : jb_V Γ d zq_90 73 [some (.ref 43), some (.int x1), some (.int x2), none] [] (zE L, M, N) v σ2 := by
  obtain ⟨d, rfl⟩ : ∃ e, d = e + 1 := ⟨d - 1, by omega⟩
  unfold zf_90_J73 at h
  refine jb_seg 8 (pc' := 2) (ls' := [some (.ref 43), some (.int x1), some (.int (x2 + 1)), none]) (st' := []) (σ' := (zE L, (jb_up M 43 2 ((M 43 2) + 1)), N)) (G := []) rfl trivial ?_
  cases h
  exact jb_mask [true, true, true, false] rfl hK
set_option maxRecDepth 4000 in
theorem zg_90_H2 {Γ : jb_G} {L : Nat} {d : Nat} (hd : 2 ≤ d) (x1 : Int32) (N : jb_Ml) (s : Int32 × jb_Mi) {v : Option Value} {σ2 : jb_S} {r : ((Int32 × jb_Mi) ⊕ (Bool × jb_Mi))} (h : zf_90_H2 x1 s = some r) (hK : (jb_K (fun s : Int32 × jb_Mi => jb_V Γ d zq_90 2 [some (.ref 43), some (.int x1), some (.int s.1), none] [] (zE L, s.2, N) v σ2) (fun r : Bool × jb_Mi => v = some (.int (jb_b2i r.1)) ∧ σ2 = (zE L, r.2, N))) r) : jb_V Γ d zq_90 2 [some (.ref 43), some (.int x1), some (.int s.1), none] [] (zE L, s.2, N) v σ2 := by
  obtain ⟨d, rfl⟩ : ∃ e, d = e + 1 := ⟨d - 1, by omega⟩
  unfold zf_90_H2 at h
  refine jb_seg 3 (pc' := (if s.1 < 2 then 7 else 89)) (ls' := [some (.ref 43), some (.int x1), some (.int s.1), none]) (st' := []) (σ' := (zE L, s.2, N)) (G := []) rfl trivial ?_
  refine jb_ite (fun c => ?_) (fun c => ?_)
  · rw [if_pos c] at h
    refine jb_seg 4 (pc' := 15) (ls' := [some (.ref 43), some (.int x1), some (.int s.1), none]) (st' := [(.int (s.2 43 2)), (.ref 2)]) (σ' := (zE L, s.2, N)) (G := []) rfl trivial ?_
    obtain ⟨q1, h1, h⟩ := jb_bd_of h
    refine jb_callV (q' := zq_30) (As := [(.int (s.2 43 2))]) (rest := []) (σ1 := (zE L, s.2, N)) (v := some (.int q1)) rfl rfl zp_30 rfl (by decide) (jb_cat rfl) (Nat.le_of_ble_eq_true rfl) (Nat.le_of_ble_eq_true rfl) (Or.inl rfl) rfl (ze_30 (s.2 43 2) s.2 N h1) ?_
    refine jb_seg 4 (pc' := 24) (ls' := [some (.ref 43), some (.int x1), some (.int s.1), some (.int q1)]) (st' := [(.int 56), (.int 48), (.int q1)]) (σ' := (zE L, s.2, N)) (G := []) rfl trivial ?_
    refine jb_callS (q' := zq_23) (As := [(.int q1), (.int 48), (.int 56)]) (rest := []) (σ1 := (zE L, s.2, N)) (v := some (.int (jb_b2i (zf_23 q1 48 56)))) rfl (by decide) rfl zp_23 (jb_cat rfl) (Nat.le_of_ble_eq_true rfl) (Nat.le_of_ble_eq_true rfl) (Or.inl rfl) rfl (ze_23 q1 48 56 s.2 N rfl) ?_
    refine jb_seg 1 (pc' := (if (jb_b2i (zf_23 q1 48 56)) = 0 then 30 else 40)) (ls' := [some (.ref 43), some (.int x1), some (.int s.1), some (.int q1)]) (st' := []) (σ' := (zE L, s.2, N)) (G := []) rfl trivial ?_
    refine jb_ite (fun c => ?_) (fun c => ?_)
    · rw [if_pos c] at h
      refine jb_seg 4 (pc' := 36) (ls' := [some (.ref 43), some (.int x1), some (.int s.1), some (.int q1)]) (st' := [(.int (s.2 43 2)), (.int 1), (.ref 43)]) (σ' := (zE L, s.2, N)) (G := []) rfl trivial ?_
      refine jb_callV (q' := zq_87) (As := [(.int 1), (.int (s.2 43 2))]) (rest := []) (σ1 := (zE L, (zf_87 1 (s.2 43 2) s.2).2, N)) (v := some (.int (jb_b2i (zf_87 1 (s.2 43 2) s.2).1))) rfl rfl zp_87 rfl (by decide) (jb_cat rfl) (Nat.le_of_ble_eq_true rfl) (Nat.le_of_ble_eq_true rfl) (Or.inl rfl) rfl (ze_87 (by omega) 1 (s.2 43 2) s.2 N rfl) ?_
      cases h
      obtain ⟨rfl, rfl⟩ := hK
      exact jb_retz (jb_b2i_or _) rfl rfl
    · rw [if_neg c] at h
      refine jb_seg 2 (pc' := (if s.1 = 0 then 44 else 60)) (ls' := [some (.ref 43), some (.int x1), some (.int s.1), some (.int q1)]) (st' := []) (σ' := (zE L, s.2, N)) (G := []) rfl trivial ?_
      refine jb_ite (fun c => ?_) (fun c => ?_)
      · rw [if_pos c] at h
        obtain ⟨g2, h⟩ := jb_gd_of h
        refine jb_seg 9 (pc' := 73) (ls' := [some (.ref 43), some (.int x1), some (.int s.1), some (.int q1)]) (st' := []) (σ' := (zE L, (jb_up s.2 29 x1.toNatClampNeg (q1 - 48)), N)) (G := [vp_in x1 24]) rfl g2 ?_
        exact jb_mask [true, true, true, false] rfl (zg_90_J73 hd x1 s.1 (jb_up s.2 29 x1.toNatClampNeg (q1 - 48)) N h hK)
      · rw [if_neg c] at h
        obtain ⟨g3, h⟩ := jb_gd_of h
        refine jb_seg 8 (pc' := 73) (ls' := [some (.ref 43), some (.int x1), some (.int s.1), some (.int q1)]) (st' := []) (σ' := (zE L, (jb_up s.2 30 x1.toNatClampNeg (q1 - 48)), N)) (G := [vp_in x1 24]) rfl g3 ?_
        exact jb_mask [true, true, true, false] rfl (zg_90_J73 hd x1 s.1 (jb_up s.2 30 x1.toNatClampNeg (q1 - 48)) N h hK)
  · rw [if_neg c] at h
    refine jb_seg 1 (pc' := 90) (ls' := [some (.ref 43), some (.int x1), some (.int s.1), none]) (st' := [(.int 1)]) (σ' := (zE L, s.2, N)) (G := []) rfl trivial ?_
    cases h
    obtain ⟨rfl, rfl⟩ := hK
    exact jb_retz (by decide) rfl rfl
theorem zg_90_H2L {Γ : jb_G} {L : Nat} {d : Nat} (hd : 2 ≤ d) (x1 : Int32) (N : jb_Ml) {v : Option Value} {σ2 : jb_S} {s : Int32 × jb_Mi} {r : (Bool × jb_Mi)} (h : jb_lp (zf_90_H2 x1) s = some r) (hK : (fun r : Bool × jb_Mi => v = some (.int (jb_b2i r.1)) ∧ σ2 = (zE L, r.2, N)) r) : jb_V Γ d zq_90 2 [some (.ref 43), some (.int x1), some (.int s.1), none] [] (zE L, s.2, N) v σ2 := by
  exact jb_lp_ind (P := fun s => jb_V Γ d zq_90 2 [some (.ref 43), some (.int x1), some (.int s.1), none] [] (zE L, s.2, N) v σ2) (K := (fun r : Bool × jb_Mi => v = some (.int (jb_b2i r.1)) ∧ σ2 = (zE L, r.2, N))) (fun s r h hk => zg_90_H2 hd x1 N s h (by cases r <;> exact hk)) h hK
set_option maxRecDepth 4000 in
theorem zg_90 {Γ : jb_G} {L : Nat} {d : Nat} (hd : 2 ≤ d) (x1 : Int32) (M : jb_Mi) (N : jb_Ml) {v : Option Value} {σ2 : jb_S} {r : (Bool × jb_Mi)} (h : zf_90 x1 M = some r) (hK : (fun r : Bool × jb_Mi => v = some (.int (jb_b2i r.1)) ∧ σ2 = (zE L, r.2, N)) r) : jb_V Γ d zq_90 0 [some (.ref 43), some (.int x1), none, none] [] (zE L, M, N) v σ2 := by
  obtain ⟨d, rfl⟩ : ∃ e, d = e + 1 := ⟨d - 1, by omega⟩
  unfold zf_90 at h
  refine jb_seg 2 (pc' := 2) (ls' := [some (.ref 43), some (.int x1), some (.int 0), none]) (st' := []) (σ' := (zE L, M, N)) (G := []) rfl trivial ?_
  exact jb_mask [true, true, true, false] rfl (zg_90_H2L hd x1 N h hK)
theorem ze_90 {Γ : jb_G} {L : Nat} {d : Nat} (hd : 2 ≤ d) (x1 : Int32) (M : jb_Mi) (N : jb_Ml) {r : (Bool × jb_Mi)} (h : zf_90 x1 M = some r) : jb_V Γ d zq_90 0 (jb_en 4 [(.ref 43), (.int x1)]) [] (zE L, M, N) (some (.int (jb_b2i r.1))) (zE L, r.2, N) := zg_90 hd x1 M N h ⟨rfl, rfl⟩
-- X7_readHouse
noncomputable def zf_91 (x1 : Int32) (M : jb_Mi) : Option (Bool × jb_Mi) :=
  (zf_30 (M 43 2) M).bind fun q1 => if (jb_b2i (zf_23 q1 48 53)) = 0 then some ((zf_87 1 (M 43 2) M).1, (zf_87 1 (M 43 2) M).2) else (zf_2 24 (q1 - 48) M).bind fun q2 => if (jb_b2i q2) = 0 then some ((zf_87 7 (M 43 2) M).1, (zf_87 7 (M 43 2) M).2) else jb_gd x1 24 (some (true, (jb_up (jb_up M 28 x1.toNatClampNeg (q1 - 48)) 43 2 (((jb_up M 28 x1.toNatClampNeg (q1 - 48)) 43 2) + 1))))
set_option maxRecDepth 4000 in
theorem zg_91 {Γ : jb_G} {L : Nat} {d : Nat} (hd : 2 ≤ d) (x1 : Int32) (M : jb_Mi) (N : jb_Ml) {v : Option Value} {σ2 : jb_S} {r : (Bool × jb_Mi)} (h : zf_91 x1 M = some r) (hK : (fun r : Bool × jb_Mi => v = some (.int (jb_b2i r.1)) ∧ σ2 = (zE L, r.2, N)) r) : jb_V Γ d zq_91 0 [some (.ref 43), some (.int x1), none] [] (zE L, M, N) v σ2 := by
  obtain ⟨d, rfl⟩ : ∃ e, d = e + 1 := ⟨d - 1, by omega⟩
  unfold zf_91 at h
  refine jb_seg 4 (pc' := 8) (ls' := [some (.ref 43), some (.int x1), none]) (st' := [(.int (M 43 2)), (.ref 2)]) (σ' := (zE L, M, N)) (G := []) rfl trivial ?_
  obtain ⟨q1, h1, h⟩ := jb_bd_of h
  refine jb_callV (q' := zq_30) (As := [(.int (M 43 2))]) (rest := []) (σ1 := (zE L, M, N)) (v := some (.int q1)) rfl rfl zp_30 rfl (by decide) (jb_cat rfl) (Nat.le_of_ble_eq_true rfl) (Nat.le_of_ble_eq_true rfl) (Or.inl rfl) rfl (ze_30 (M 43 2) M N h1) ?_
  refine jb_seg 4 (pc' := 17) (ls' := [some (.ref 43), some (.int x1), some (.int q1)]) (st' := [(.int 53), (.int 48), (.int q1)]) (σ' := (zE L, M, N)) (G := []) rfl trivial ?_
  refine jb_callS (q' := zq_23) (As := [(.int q1), (.int 48), (.int 53)]) (rest := []) (σ1 := (zE L, M, N)) (v := some (.int (jb_b2i (zf_23 q1 48 53)))) rfl (by decide) rfl zp_23 (jb_cat rfl) (Nat.le_of_ble_eq_true rfl) (Nat.le_of_ble_eq_true rfl) (Or.inl rfl) rfl (ze_23 q1 48 53 M N rfl) ?_
  refine jb_seg 1 (pc' := (if (jb_b2i (zf_23 q1 48 53)) = 0 then 23 else 33)) (ls' := [some (.ref 43), some (.int x1), some (.int q1)]) (st' := []) (σ' := (zE L, M, N)) (G := []) rfl trivial ?_
  refine jb_ite (fun c => ?_) (fun c => ?_)
  · rw [if_pos c] at h
    refine jb_seg 4 (pc' := 29) (ls' := [some (.ref 43), some (.int x1), some (.int q1)]) (st' := [(.int (M 43 2)), (.int 1), (.ref 43)]) (σ' := (zE L, M, N)) (G := []) rfl trivial ?_
    refine jb_callV (q' := zq_87) (As := [(.int 1), (.int (M 43 2))]) (rest := []) (σ1 := (zE L, (zf_87 1 (M 43 2) M).2, N)) (v := some (.int (jb_b2i (zf_87 1 (M 43 2) M).1))) rfl rfl zp_87 rfl (by decide) (jb_cat rfl) (Nat.le_of_ble_eq_true rfl) (Nat.le_of_ble_eq_true rfl) (Or.inl rfl) rfl (ze_87 (by omega) 1 (M 43 2) M N rfl) ?_
    cases h
    obtain ⟨rfl, rfl⟩ := hK
    exact jb_retz (jb_b2i_or _) rfl rfl
  · rw [if_neg c] at h
    refine jb_seg 5 (pc' := 41) (ls' := [some (.ref 43), some (.int x1), some (.int q1)]) (st' := [(.int (q1 - 48)), (.ref 24)]) (σ' := (zE L, M, N)) (G := []) rfl trivial ?_
    obtain ⟨q2, h2, h⟩ := jb_bd_of h
    refine jb_callV (q' := zq_2) (As := [(.int (q1 - 48))]) (rest := []) (σ1 := (zE L, M, N)) (v := some (.int (jb_b2i q2))) rfl rfl zp_2 rfl (by decide) (jb_cat rfl) (Nat.le_of_ble_eq_true rfl) (Nat.le_of_ble_eq_true rfl) (Or.inl rfl) rfl (ze_2 24 (q1 - 48) M N (by decide) h2) ?_
    refine jb_seg 1 (pc' := (if (jb_b2i q2) = 0 then 47 else 58)) (ls' := [some (.ref 43), some (.int x1), some (.int q1)]) (st' := []) (σ' := (zE L, M, N)) (G := []) rfl trivial ?_
    refine jb_ite (fun c => ?_) (fun c => ?_)
    · rw [if_pos c] at h
      refine jb_seg 4 (pc' := 54) (ls' := [some (.ref 43), some (.int x1), some (.int q1)]) (st' := [(.int (M 43 2)), (.int 7), (.ref 43)]) (σ' := (zE L, M, N)) (G := []) rfl trivial ?_
      refine jb_callV (q' := zq_87) (As := [(.int 7), (.int (M 43 2))]) (rest := []) (σ1 := (zE L, (zf_87 7 (M 43 2) M).2, N)) (v := some (.int (jb_b2i (zf_87 7 (M 43 2) M).1))) rfl rfl zp_87 rfl (by decide) (jb_cat rfl) (Nat.le_of_ble_eq_true rfl) (Nat.le_of_ble_eq_true rfl) (Or.inl rfl) rfl (ze_87 (by omega) 7 (M 43 2) M N rfl) ?_
      cases h
      obtain ⟨rfl, rfl⟩ := hK
      exact jb_retz (jb_b2i_or _) rfl rfl
    · rw [if_neg c] at h
      obtain ⟨g3, h⟩ := jb_gd_of h
      refine jb_seg 15 (pc' := 82) (ls' := [some (.ref 43), some (.int x1), some (.int q1)]) (st' := [(.int 1)]) (σ' := (zE L, (jb_up (jb_up M 28 x1.toNatClampNeg (q1 - 48)) 43 2 (((jb_up M 28 x1.toNatClampNeg (q1 - 48)) 43 2) + 1)), N)) (G := [vp_in x1 24]) rfl g3 ?_
      cases h
      obtain ⟨rfl, rfl⟩ := hK
      exact jb_retz (by decide) rfl rfl
theorem ze_91 {Γ : jb_G} {L : Nat} {d : Nat} (hd : 2 ≤ d) (x1 : Int32) (M : jb_Mi) (N : jb_Ml) {r : (Bool × jb_Mi)} (h : zf_91 x1 M = some r) : jb_V Γ d zq_91 0 (jb_en 3 [(.ref 43), (.int x1)]) [] (zE L, M, N) (some (.int (jb_b2i r.1))) (zE L, r.2, N) := zg_91 hd x1 M N h ⟨rfl, rfl⟩
-- X7_readThing
noncomputable def zf_92 (M : jb_Mi) : Option (Bool × jb_Mi) :=
  (zf_88 M).bind fun q1 => if q1.1 < 0 then some (false, q1.2) else (zf_3 24 q1.1 q1.2).bind fun q2 => if (jb_b2i q2) = 0 then some ((zf_87 7 (M 43 2) q1.2).1, (zf_87 7 (M 43 2) q1.2).2) else (zf_30 (q1.2 43 2) q1.2).bind fun q3 => if q3 = 33 then jb_gd q1.1 24 (some (true, (jb_up (jb_up q1.2 43 2 ((q1.2 43 2) + 1)) 31 (q1.1).toNatClampNeg 0))) else if q3 = 62 then (zf_90 q1.1 (jb_up q1.2 43 2 ((q1.2 43 2) + 1))).bind fun q5 => some (q5.1, q5.2) else if q3 = 64 then (zf_91 q1.1 (jb_up q1.2 43 2 ((q1.2 43 2) + 1))).bind fun q6 => some (q6.1, q6.2) else some ((zf_87 1 (q1.2 43 2) q1.2).1, (zf_87 1 (q1.2 43 2) q1.2).2)
set_option maxRecDepth 4000 in
theorem zg_92 {Γ : jb_G} {L : Nat} {d : Nat} (hd : 3 ≤ d) (M : jb_Mi) (N : jb_Ml) {v : Option Value} {σ2 : jb_S} {r : (Bool × jb_Mi)} (h : zf_92 M = some r) (hK : (fun r : Bool × jb_Mi => v = some (.int (jb_b2i r.1)) ∧ σ2 = (zE L, r.2, N)) r) : jb_V Γ d zq_92 0 [some (.ref 43), none, none, none] [] (zE L, M, N) v σ2 := by
  obtain ⟨d, rfl⟩ : ∃ e, d = e + 1 := ⟨d - 1, by omega⟩
  unfold zf_92 at h
  refine jb_seg 4 (pc' := 6) (ls' := [some (.ref 43), some (.int (M 43 2)), none, none]) (st' := [(.ref 43)]) (σ' := (zE L, M, N)) (G := []) rfl trivial ?_
  obtain ⟨q1, h1, h⟩ := jb_bd_of h
  refine jb_callV (q' := zq_88) (As := []) (rest := []) (σ1 := (zE L, q1.2, N)) (v := some (.int q1.1)) rfl rfl zp_88 rfl (by decide) (jb_cat rfl) (Nat.le_of_ble_eq_true rfl) (Nat.le_of_ble_eq_true rfl) (Or.inl rfl) rfl (ze_88 (by omega) M N h1) ?_
  refine jb_seg 3 (pc' := (if q1.1 < 0 then 14 else 16)) (ls' := [some (.ref 43), some (.int (M 43 2)), some (.int q1.1), none]) (st' := []) (σ' := (zE L, q1.2, N)) (G := []) rfl trivial ?_
  refine jb_ite (fun c => ?_) (fun c => ?_)
  · rw [if_pos c] at h
    refine jb_seg 1 (pc' := 15) (ls' := [some (.ref 43), some (.int (M 43 2)), some (.int q1.1), none]) (st' := [(.int 0)]) (σ' := (zE L, q1.2, N)) (G := []) rfl trivial ?_
    cases h
    obtain ⟨rfl, rfl⟩ := hK
    exact jb_retz (by decide) rfl rfl
  · rw [if_neg c] at h
    refine jb_seg 3 (pc' := 21) (ls' := [some (.ref 43), some (.int (M 43 2)), some (.int q1.1), none]) (st' := [(.int q1.1), (.ref 24)]) (σ' := (zE L, q1.2, N)) (G := []) rfl trivial ?_
    obtain ⟨q2, h2, h⟩ := jb_bd_of h
    refine jb_callV (q' := zq_3) (As := [(.int q1.1)]) (rest := []) (σ1 := (zE L, q1.2, N)) (v := some (.int (jb_b2i q2))) rfl rfl zp_3 rfl (by decide) (jb_cat rfl) (Nat.le_of_ble_eq_true rfl) (Nat.le_of_ble_eq_true rfl) (Or.inl rfl) rfl (ze_3 24 q1.1 q1.2 N (by decide) h2) ?_
    refine jb_seg 1 (pc' := (if (jb_b2i q2) = 0 then 27 else 35)) (ls' := [some (.ref 43), some (.int (M 43 2)), some (.int q1.1), none]) (st' := []) (σ' := (zE L, q1.2, N)) (G := []) rfl trivial ?_
    refine jb_ite (fun c => ?_) (fun c => ?_)
    · rw [if_pos c] at h
      refine jb_seg 3 (pc' := 31) (ls' := [some (.ref 43), some (.int (M 43 2)), some (.int q1.1), none]) (st' := [(.int (M 43 2)), (.int 7), (.ref 43)]) (σ' := (zE L, q1.2, N)) (G := []) rfl trivial ?_
      refine jb_callV (q' := zq_87) (As := [(.int 7), (.int (M 43 2))]) (rest := []) (σ1 := (zE L, (zf_87 7 (M 43 2) q1.2).2, N)) (v := some (.int (jb_b2i (zf_87 7 (M 43 2) q1.2).1))) rfl rfl zp_87 rfl (by decide) (jb_cat rfl) (Nat.le_of_ble_eq_true rfl) (Nat.le_of_ble_eq_true rfl) (Or.inl rfl) rfl (ze_87 (by omega) 7 (M 43 2) q1.2 N rfl) ?_
      cases h
      obtain ⟨rfl, rfl⟩ := hK
      exact jb_retz (jb_b2i_or _) rfl rfl
    · rw [if_neg c] at h
      refine jb_seg 4 (pc' := 43) (ls' := [some (.ref 43), some (.int (M 43 2)), some (.int q1.1), none]) (st' := [(.int (q1.2 43 2)), (.ref 2)]) (σ' := (zE L, q1.2, N)) (G := []) rfl trivial ?_
      obtain ⟨q3, h3, h⟩ := jb_bd_of h
      refine jb_callV (q' := zq_30) (As := [(.int (q1.2 43 2))]) (rest := []) (σ1 := (zE L, q1.2, N)) (v := some (.int q3)) rfl rfl zp_30 rfl (by decide) (jb_cat rfl) (Nat.le_of_ble_eq_true rfl) (Nat.le_of_ble_eq_true rfl) (Or.inl rfl) rfl (ze_30 (q1.2 43 2) q1.2 N h3) ?_
      refine jb_seg 2 (pc' := 48) (ls' := [some (.ref 43), some (.int (M 43 2)), some (.int q1.1), some (.int q3)]) (st' := [(.int q3)]) (σ' := (zE L, q1.2, N)) (G := []) rfl trivial ?_
      refine jb_lsw [(33, 116), (62, 84), (64, 100)] 138 rfl (by decide +kernel) (by decide +kernel) ?_
      refine jb_swc (fun c => ?_) (fun c => ?_)
      · rw [if_pos c] at h
        obtain ⟨g4, h⟩ := jb_gd_of h
        refine jb_seg 13 (pc' := 137) (ls' := [some (.ref 43), some (.int (M 43 2)), some (.int q1.1), some (.int q3)]) (st' := [(.int 1)]) (σ' := (zE L, (jb_up (jb_up q1.2 43 2 ((q1.2 43 2) + 1)) 31 (q1.1).toNatClampNeg 0), N)) (G := [vp_in q1.1 24]) rfl g4 ?_
        cases h
        obtain ⟨rfl, rfl⟩ := hK
        exact jb_retz (by decide) rfl rfl
      · rw [if_neg c] at h
        refine jb_swc (fun c => ?_) (fun c => ?_)
        · rw [if_pos c] at h
          refine jb_seg 8 (pc' := 96) (ls' := [some (.ref 43), some (.int (M 43 2)), some (.int q1.1), some (.int q3)]) (st' := [(.int q1.1), (.ref 43)]) (σ' := (zE L, (jb_up q1.2 43 2 ((q1.2 43 2) + 1)), N)) (G := []) rfl trivial ?_
          obtain ⟨q5, h5, h⟩ := jb_bd_of h
          refine jb_callV (q' := zq_90) (As := [(.int q1.1)]) (rest := []) (σ1 := (zE L, q5.2, N)) (v := some (.int (jb_b2i q5.1))) rfl rfl zp_90 rfl (by decide) (jb_cat rfl) (Nat.le_of_ble_eq_true rfl) (Nat.le_of_ble_eq_true rfl) (Or.inl rfl) rfl (ze_90 (by omega) q1.1 (jb_up q1.2 43 2 ((q1.2 43 2) + 1)) N h5) ?_
          cases h
          obtain ⟨rfl, rfl⟩ := hK
          exact jb_retz (jb_b2i_or _) rfl rfl
        · rw [if_neg c] at h
          refine jb_swc (fun c => ?_) (fun c => ?_)
          · rw [if_pos c] at h
            refine jb_seg 8 (pc' := 112) (ls' := [some (.ref 43), some (.int (M 43 2)), some (.int q1.1), some (.int q3)]) (st' := [(.int q1.1), (.ref 43)]) (σ' := (zE L, (jb_up q1.2 43 2 ((q1.2 43 2) + 1)), N)) (G := []) rfl trivial ?_
            obtain ⟨q6, h6, h⟩ := jb_bd_of h
            refine jb_callV (q' := zq_91) (As := [(.int q1.1)]) (rest := []) (σ1 := (zE L, q6.2, N)) (v := some (.int (jb_b2i q6.1))) rfl rfl zp_91 rfl (by decide) (jb_cat rfl) (Nat.le_of_ble_eq_true rfl) (Nat.le_of_ble_eq_true rfl) (Or.inl rfl) rfl (ze_91 (by omega) q1.1 (jb_up q1.2 43 2 ((q1.2 43 2) + 1)) N h6) ?_
            cases h
            obtain ⟨rfl, rfl⟩ := hK
            exact jb_retz (jb_b2i_or _) rfl rfl
          · rw [if_neg c] at h
            refine jb_swn ?_
            refine jb_seg 4 (pc' := 144) (ls' := [some (.ref 43), some (.int (M 43 2)), some (.int q1.1), some (.int q3)]) (st' := [(.int (q1.2 43 2)), (.int 1), (.ref 43)]) (σ' := (zE L, q1.2, N)) (G := []) rfl trivial ?_
            refine jb_callV (q' := zq_87) (As := [(.int 1), (.int (q1.2 43 2))]) (rest := []) (σ1 := (zE L, (zf_87 1 (q1.2 43 2) q1.2).2, N)) (v := some (.int (jb_b2i (zf_87 1 (q1.2 43 2) q1.2).1))) rfl rfl zp_87 rfl (by decide) (jb_cat rfl) (Nat.le_of_ble_eq_true rfl) (Nat.le_of_ble_eq_true rfl) (Or.inl rfl) rfl (ze_87 (by omega) 1 (q1.2 43 2) q1.2 N rfl) ?_
            cases h
            obtain ⟨rfl, rfl⟩ := hK
            exact jb_retz (jb_b2i_or _) rfl rfl
theorem ze_92 {Γ : jb_G} {L : Nat} {d : Nat} (hd : 3 ≤ d) (M : jb_Mi) (N : jb_Ml) {r : (Bool × jb_Mi)} (h : zf_92 M = some r) : jb_V Γ d zq_92 0 (jb_en 4 [(.ref 43)]) [] (zE L, M, N) (some (.int (jb_b2i r.1))) (zE L, r.2, N) := zg_92 hd M N h ⟨rfl, rfl⟩
-- X7_read
noncomputable def zf_93_J97 (x1 : Int32) (M : jb_Mi) : Option ((Int32 × jb_Mi) ⊕ (Int32 × jb_Mi)) :=
  (zf_30 (M 43 2) M).bind fun q3 => if q3 = (-1) then some (.inr ((x1 + 1), M)) else (zf_30 (M 43 2) M).bind fun q4 => if q4 = 59 then some (.inl ((x1 + 1), (jb_up M 43 2 ((M 43 2) + 1)))) else some (.inr ((zf_74 1 (M 43 2)), M))
noncomputable def zf_93_J53 (x1 : Int32) (x2 : Int32) (M : jb_Mi) : Option ((Int32 × jb_Mi) ⊕ (Int32 × jb_Mi)) :=
  if x1 = 20 then some (.inr ((zf_74 4 (M 43 2)), M)) else if (jb_b2i (zf_86 x2)) = 0 then (zf_92 M).bind fun q2 => if (jb_b2i q2.1) = 0 then some (.inr ((q2.2 43 3), q2.2)) else zf_93_J97 x1 q2.2 else (zf_89 M).bind fun q5 => if (jb_b2i q5.1) = 0 then some (.inr ((q5.2 43 3), q5.2)) else zf_93_J97 x1 q5.2
noncomputable def zf_93_H12 (s : Int32 × jb_Mi) : Option ((Int32 × jb_Mi) ⊕ (Int32 × jb_Mi)) :=
  if 20 < s.1 then some (.inr ((s.2 43 3), s.2)) else (zf_30 (s.2 43 2) s.2).bind fun q1 => if (jb_b2i (zf_86 q1)) = 0 then if (jb_b2i (zf_76 q1)) = 0 then some (.inr ((zf_74 1 (s.2 43 2)), s.2)) else zf_93_J53 s.1 q1 s.2 else zf_93_J53 s.1 q1 s.2
noncomputable def zf_93 (M : jb_Mi) : Option (Int32 × jb_Mi) :=
  jb_lp (zf_93_H12) (0, (jb_up (jb_up M 43 2 0) 43 3 0))
set_option maxRecDepth 4000 in
theorem zg_93_J97 {Γ : jb_G} {L : Nat} {d : Nat} (hd : 4 ≤ d) (x1 : Int32) (M : jb_Mi) (N : jb_Ml) {v : Option Value} {σ2 : jb_S} {r : ((Int32 × jb_Mi) ⊕ (Int32 × jb_Mi))} (h : zf_93_J97 x1 M = some r) (hK : (jb_K (fun s : Int32 × jb_Mi => jb_V Γ d zq_93 12 [some (.ref 43), some (.int s.1), none] [] (zE L, s.2, N) v σ2) (fun r : Int32 × jb_Mi => v = some (.int r.1) ∧ σ2 = (zE L, r.2, N))) r) : jb_V Γ d zq_93 97 [some (.ref 43), some (.int x1), none] [] (zE L, M, N) v σ2 := by
  obtain ⟨d, rfl⟩ : ∃ e, d = e + 1 := ⟨d - 1, by omega⟩
  unfold zf_93_J97 at h
  refine jb_seg 4 (pc' := 105) (ls' := [some (.ref 43), some (.int x1), none]) (st' := [(.int (M 43 2)), (.ref 2)]) (σ' := (zE L, M, N)) (G := []) rfl trivial ?_
  obtain ⟨q3, h3, h⟩ := jb_bd_of h
  refine jb_callV (q' := zq_30) (As := [(.int (M 43 2))]) (rest := []) (σ1 := (zE L, M, N)) (v := some (.int q3)) rfl rfl zp_30 rfl (by decide) (jb_cat rfl) (Nat.le_of_ble_eq_true rfl) (Nat.le_of_ble_eq_true rfl) (Or.inl rfl) rfl (ze_30 (M 43 2) M N h3) ?_
  refine jb_seg 2 (pc' := (if q3 = (-1) then 112 else 116)) (ls' := [some (.ref 43), some (.int x1), none]) (st' := []) (σ' := (zE L, M, N)) (G := []) rfl trivial ?_
  refine jb_ite (fun c => ?_) (fun c => ?_)
  · rw [if_pos c] at h
    refine jb_seg 3 (pc' := 115) (ls' := [some (.ref 43), some (.int x1), none]) (st' := [(.int (x1 + 1))]) (σ' := (zE L, M, N)) (G := []) rfl trivial ?_
    cases h
    obtain ⟨rfl, rfl⟩ := hK
    exact jb_reti rfl rfl
  · rw [if_neg c] at h
    refine jb_seg 4 (pc' := 124) (ls' := [some (.ref 43), some (.int x1), none]) (st' := [(.int (M 43 2)), (.ref 2)]) (σ' := (zE L, M, N)) (G := []) rfl trivial ?_
    obtain ⟨q4, h4, h⟩ := jb_bd_of h
    refine jb_callV (q' := zq_30) (As := [(.int (M 43 2))]) (rest := []) (σ1 := (zE L, M, N)) (v := some (.int q4)) rfl rfl zp_30 rfl (by decide) (jb_cat rfl) (Nat.le_of_ble_eq_true rfl) (Nat.le_of_ble_eq_true rfl) (Or.inl rfl) rfl (ze_30 (M 43 2) M N h4) ?_
    refine jb_seg 2 (pc' := (if q4 = 59 then 141 else 132)) (ls' := [some (.ref 43), some (.int x1), none]) (st' := []) (σ' := (zE L, M, N)) (G := []) rfl trivial ?_
    refine jb_ite (fun c => ?_) (fun c => ?_)
    · rw [if_pos c] at h
      refine jb_seg 8 (pc' := 12) (ls' := [some (.ref 43), some (.int (x1 + 1)), none]) (st' := []) (σ' := (zE L, (jb_up M 43 2 ((M 43 2) + 1)), N)) (G := []) rfl trivial ?_
      cases h
      exact jb_mask [true, true, false] rfl hK
    · rw [if_neg c] at h
      refine jb_seg 3 (pc' := 137) (ls' := [some (.ref 43), some (.int x1), none]) (st' := [(.int (M 43 2)), (.int 1)]) (σ' := (zE L, M, N)) (G := []) rfl trivial ?_
      refine jb_callS (q' := zq_74) (As := [(.int 1), (.int (M 43 2))]) (rest := []) (σ1 := (zE L, M, N)) (v := some (.int (zf_74 1 (M 43 2)))) rfl (by decide) rfl zp_74 (jb_cat rfl) (Nat.le_of_ble_eq_true rfl) (Nat.le_of_ble_eq_true rfl) (Or.inl rfl) rfl (ze_74 1 (M 43 2) M N rfl) ?_
      cases h
      obtain ⟨rfl, rfl⟩ := hK
      exact jb_reti rfl rfl
set_option maxRecDepth 4000 in
theorem zg_93_J53 {Γ : jb_G} {L : Nat} {d : Nat} (hd : 4 ≤ d) (x1 : Int32) (x2 : Int32) (M : jb_Mi) (N : jb_Ml) {v : Option Value} {σ2 : jb_S} {r : ((Int32 × jb_Mi) ⊕ (Int32 × jb_Mi))} (h : zf_93_J53 x1 x2 M = some r) (hK : (jb_K (fun s : Int32 × jb_Mi => jb_V Γ d zq_93 12 [some (.ref 43), some (.int s.1), none] [] (zE L, s.2, N) v σ2) (fun r : Int32 × jb_Mi => v = some (.int r.1) ∧ σ2 = (zE L, r.2, N))) r) : jb_V Γ d zq_93 53 [some (.ref 43), some (.int x1), some (.int x2)] [] (zE L, M, N) v σ2 := by
  obtain ⟨d, rfl⟩ : ∃ e, d = e + 1 := ⟨d - 1, by omega⟩
  unfold zf_93_J53 at h
  refine jb_seg 3 (pc' := (if x1 = 20 then 59 else 68)) (ls' := [some (.ref 43), some (.int x1), some (.int x2)]) (st' := []) (σ' := (zE L, M, N)) (G := []) rfl trivial ?_
  refine jb_ite (fun c => ?_) (fun c => ?_)
  · rw [if_pos c] at h
    refine jb_seg 3 (pc' := 64) (ls' := [some (.ref 43), some (.int x1), some (.int x2)]) (st' := [(.int (M 43 2)), (.int 4)]) (σ' := (zE L, M, N)) (G := []) rfl trivial ?_
    refine jb_callS (q' := zq_74) (As := [(.int 4), (.int (M 43 2))]) (rest := []) (σ1 := (zE L, M, N)) (v := some (.int (zf_74 4 (M 43 2)))) rfl (by decide) rfl zp_74 (jb_cat rfl) (Nat.le_of_ble_eq_true rfl) (Nat.le_of_ble_eq_true rfl) (Or.inl rfl) rfl (ze_74 4 (M 43 2) M N rfl) ?_
    cases h
    obtain ⟨rfl, rfl⟩ := hK
    exact jb_reti rfl rfl
  · rw [if_neg c] at h
    refine jb_seg 1 (pc' := 69) (ls' := [some (.ref 43), some (.int x1), some (.int x2)]) (st' := [(.int x2)]) (σ' := (zE L, M, N)) (G := []) rfl trivial ?_
    refine jb_callS (q' := zq_86) (As := [(.int x2)]) (rest := []) (σ1 := (zE L, M, N)) (v := some (.int (jb_b2i (zf_86 x2)))) rfl (by decide) rfl zp_86 (jb_cat rfl) (Nat.le_of_ble_eq_true rfl) (Nat.le_of_ble_eq_true rfl) (Or.inl rfl) rfl (ze_86 x2 M N rfl) ?_
    refine jb_seg 1 (pc' := (if (jb_b2i (zf_86 x2)) = 0 then 85 else 75)) (ls' := [some (.ref 43), some (.int x1), some (.int x2)]) (st' := []) (σ' := (zE L, M, N)) (G := []) rfl trivial ?_
    refine jb_ite (fun c => ?_) (fun c => ?_)
    · rw [if_pos c] at h
      refine jb_seg 1 (pc' := 86) (ls' := [some (.ref 43), some (.int x1), some (.int x2)]) (st' := [(.ref 43)]) (σ' := (zE L, M, N)) (G := []) rfl trivial ?_
      obtain ⟨q2, h2, h⟩ := jb_bd_of h
      refine jb_callV (q' := zq_92) (As := []) (rest := []) (σ1 := (zE L, q2.2, N)) (v := some (.int (jb_b2i q2.1))) rfl rfl zp_92 rfl (by decide) (jb_cat rfl) (Nat.le_of_ble_eq_true rfl) (Nat.le_of_ble_eq_true rfl) (Or.inl rfl) rfl (ze_92 (by omega) M N h2) ?_
      refine jb_seg 1 (pc' := (if (jb_b2i q2.1) = 0 then 92 else 97)) (ls' := [some (.ref 43), some (.int x1), some (.int x2)]) (st' := []) (σ' := (zE L, q2.2, N)) (G := []) rfl trivial ?_
      refine jb_ite (fun c => ?_) (fun c => ?_)
      · rw [if_pos c] at h
        refine jb_seg 2 (pc' := 96) (ls' := [some (.ref 43), some (.int x1), some (.int x2)]) (st' := [(.int (q2.2 43 3))]) (σ' := (zE L, q2.2, N)) (G := []) rfl trivial ?_
        cases h
        obtain ⟨rfl, rfl⟩ := hK
        exact jb_reti rfl rfl
      · rw [if_neg c] at h
        exact jb_mask [true, true, false] rfl (zg_93_J97 hd x1 q2.2 N h hK)
    · rw [if_neg c] at h
      refine jb_seg 1 (pc' := 76) (ls' := [some (.ref 43), some (.int x1), some (.int x2)]) (st' := [(.ref 43)]) (σ' := (zE L, M, N)) (G := []) rfl trivial ?_
      obtain ⟨q5, h5, h⟩ := jb_bd_of h
      refine jb_callV (q' := zq_89) (As := []) (rest := []) (σ1 := (zE L, q5.2, N)) (v := some (.int (jb_b2i q5.1))) rfl rfl zp_89 rfl (by decide) (jb_cat rfl) (Nat.le_of_ble_eq_true rfl) (Nat.le_of_ble_eq_true rfl) (Or.inl rfl) rfl (ze_89 (by omega) M N h5) ?_
      refine jb_seg 1 (pc' := (if (jb_b2i q5.1) = 0 then 92 else 82)) (ls' := [some (.ref 43), some (.int x1), some (.int x2)]) (st' := []) (σ' := (zE L, q5.2, N)) (G := []) rfl trivial ?_
      refine jb_ite (fun c => ?_) (fun c => ?_)
      · rw [if_pos c] at h
        refine jb_seg 2 (pc' := 96) (ls' := [some (.ref 43), some (.int x1), some (.int x2)]) (st' := [(.int (q5.2 43 3))]) (σ' := (zE L, q5.2, N)) (G := []) rfl trivial ?_
        cases h
        obtain ⟨rfl, rfl⟩ := hK
        exact jb_reti rfl rfl
      · rw [if_neg c] at h
        refine jb_seg 1 (pc' := 97) (ls' := [some (.ref 43), some (.int x1), some (.int x2)]) (st' := []) (σ' := (zE L, q5.2, N)) (G := []) rfl trivial ?_
        exact jb_mask [true, true, false] rfl (zg_93_J97 hd x1 q5.2 N h hK)
set_option maxRecDepth 4000 in
theorem zg_93_H12 {Γ : jb_G} {L : Nat} {d : Nat} (hd : 4 ≤ d) (N : jb_Ml) (s : Int32 × jb_Mi) {v : Option Value} {σ2 : jb_S} {r : ((Int32 × jb_Mi) ⊕ (Int32 × jb_Mi))} (h : zf_93_H12 s = some r) (hK : (jb_K (fun s : Int32 × jb_Mi => jb_V Γ d zq_93 12 [some (.ref 43), some (.int s.1), none] [] (zE L, s.2, N) v σ2) (fun r : Int32 × jb_Mi => v = some (.int r.1) ∧ σ2 = (zE L, r.2, N))) r) : jb_V Γ d zq_93 12 [some (.ref 43), some (.int s.1), none] [] (zE L, s.2, N) v σ2 := by
  obtain ⟨d, rfl⟩ : ∃ e, d = e + 1 := ⟨d - 1, by omega⟩
  unfold zf_93_H12 at h
  refine jb_seg 3 (pc' := (if 20 < s.1 then 157 else 18)) (ls' := [some (.ref 43), some (.int s.1), none]) (st' := []) (σ' := (zE L, s.2, N)) (G := []) rfl trivial ?_
  refine jb_ite (fun c => ?_) (fun c => ?_)
  · rw [if_pos c] at h
    refine jb_seg 2 (pc' := 161) (ls' := [some (.ref 43), some (.int s.1), none]) (st' := [(.int (s.2 43 3))]) (σ' := (zE L, s.2, N)) (G := []) rfl trivial ?_
    cases h
    obtain ⟨rfl, rfl⟩ := hK
    exact jb_reti rfl rfl
  · rw [if_neg c] at h
    refine jb_seg 4 (pc' := 26) (ls' := [some (.ref 43), some (.int s.1), none]) (st' := [(.int (s.2 43 2)), (.ref 2)]) (σ' := (zE L, s.2, N)) (G := []) rfl trivial ?_
    obtain ⟨q1, h1, h⟩ := jb_bd_of h
    refine jb_callV (q' := zq_30) (As := [(.int (s.2 43 2))]) (rest := []) (σ1 := (zE L, s.2, N)) (v := some (.int q1)) rfl rfl zp_30 rfl (by decide) (jb_cat rfl) (Nat.le_of_ble_eq_true rfl) (Nat.le_of_ble_eq_true rfl) (Or.inl rfl) rfl (ze_30 (s.2 43 2) s.2 N h1) ?_
    refine jb_seg 2 (pc' := 31) (ls' := [some (.ref 43), some (.int s.1), some (.int q1)]) (st' := [(.int q1)]) (σ' := (zE L, s.2, N)) (G := []) rfl trivial ?_
    refine jb_callS (q' := zq_86) (As := [(.int q1)]) (rest := []) (σ1 := (zE L, s.2, N)) (v := some (.int (jb_b2i (zf_86 q1)))) rfl (by decide) rfl zp_86 (jb_cat rfl) (Nat.le_of_ble_eq_true rfl) (Nat.le_of_ble_eq_true rfl) (Or.inl rfl) rfl (ze_86 q1 s.2 N rfl) ?_
    refine jb_seg 1 (pc' := (if (jb_b2i (zf_86 q1)) = 0 then 37 else 53)) (ls' := [some (.ref 43), some (.int s.1), some (.int q1)]) (st' := []) (σ' := (zE L, s.2, N)) (G := []) rfl trivial ?_
    refine jb_ite (fun c => ?_) (fun c => ?_)
    · rw [if_pos c] at h
      refine jb_seg 1 (pc' := 38) (ls' := [some (.ref 43), some (.int s.1), some (.int q1)]) (st' := [(.int q1)]) (σ' := (zE L, s.2, N)) (G := []) rfl trivial ?_
      refine jb_callS (q' := zq_76) (As := [(.int q1)]) (rest := []) (σ1 := (zE L, s.2, N)) (v := some (.int (jb_b2i (zf_76 q1)))) rfl (by decide) rfl zp_76 (jb_cat rfl) (Nat.le_of_ble_eq_true rfl) (Nat.le_of_ble_eq_true rfl) (Or.inl rfl) rfl (ze_76 q1 s.2 N rfl) ?_
      refine jb_seg 1 (pc' := (if (jb_b2i (zf_76 q1)) = 0 then 44 else 53)) (ls' := [some (.ref 43), some (.int s.1), some (.int q1)]) (st' := []) (σ' := (zE L, s.2, N)) (G := []) rfl trivial ?_
      refine jb_ite (fun c => ?_) (fun c => ?_)
      · rw [if_pos c] at h
        refine jb_seg 3 (pc' := 49) (ls' := [some (.ref 43), some (.int s.1), some (.int q1)]) (st' := [(.int (s.2 43 2)), (.int 1)]) (σ' := (zE L, s.2, N)) (G := []) rfl trivial ?_
        refine jb_callS (q' := zq_74) (As := [(.int 1), (.int (s.2 43 2))]) (rest := []) (σ1 := (zE L, s.2, N)) (v := some (.int (zf_74 1 (s.2 43 2)))) rfl (by decide) rfl zp_74 (jb_cat rfl) (Nat.le_of_ble_eq_true rfl) (Nat.le_of_ble_eq_true rfl) (Or.inl rfl) rfl (ze_74 1 (s.2 43 2) s.2 N rfl) ?_
        cases h
        obtain ⟨rfl, rfl⟩ := hK
        exact jb_reti rfl rfl
      · rw [if_neg c] at h
        exact jb_mask [true, true, true] rfl (zg_93_J53 hd s.1 q1 s.2 N h hK)
    · rw [if_neg c] at h
      exact jb_mask [true, true, true] rfl (zg_93_J53 hd s.1 q1 s.2 N h hK)
theorem zg_93_H12L {Γ : jb_G} {L : Nat} {d : Nat} (hd : 4 ≤ d) (N : jb_Ml) {v : Option Value} {σ2 : jb_S} {s : Int32 × jb_Mi} {r : (Int32 × jb_Mi)} (h : jb_lp (zf_93_H12) s = some r) (hK : (fun r : Int32 × jb_Mi => v = some (.int r.1) ∧ σ2 = (zE L, r.2, N)) r) : jb_V Γ d zq_93 12 [some (.ref 43), some (.int s.1), none] [] (zE L, s.2, N) v σ2 := by
  exact jb_lp_ind (P := fun s => jb_V Γ d zq_93 12 [some (.ref 43), some (.int s.1), none] [] (zE L, s.2, N) v σ2) (K := (fun r : Int32 × jb_Mi => v = some (.int r.1) ∧ σ2 = (zE L, r.2, N))) (fun s r h hk => zg_93_H12 hd N s h (by cases r <;> exact hk)) h hK
set_option maxRecDepth 4000 in
theorem zg_93 {Γ : jb_G} {L : Nat} {d : Nat} (hd : 4 ≤ d) (M : jb_Mi) (N : jb_Ml) {v : Option Value} {σ2 : jb_S} {r : (Int32 × jb_Mi)} (h : zf_93 M = some r) (hK : (fun r : Int32 × jb_Mi => v = some (.int r.1) ∧ σ2 = (zE L, r.2, N)) r) : jb_V Γ d zq_93 0 [some (.ref 43), none, none] [] (zE L, M, N) v σ2 := by
  obtain ⟨d, rfl⟩ : ∃ e, d = e + 1 := ⟨d - 1, by omega⟩
  unfold zf_93 at h
  refine jb_seg 8 (pc' := 12) (ls' := [some (.ref 43), some (.int 0), none]) (st' := []) (σ' := (zE L, (jb_up (jb_up M 43 2 0) 43 3 0), N)) (G := []) rfl trivial ?_
  exact jb_mask [true, true, false] rfl (zg_93_H12L hd N h hK)
theorem ze_93 {Γ : jb_G} {L : Nat} {d : Nat} (hd : 4 ≤ d) (M : jb_Mi) (N : jb_Ml) {r : (Int32 × jb_Mi)} (h : zf_93 M = some r) : jb_V Γ d zq_93 0 (jb_en 3 [(.ref 43)]) [] (zE L, M, N) (some (.int r.1)) (zE L, r.2, N) := zg_93 hd M N h ⟨rfl, rfl⟩
-- X8_add
noncomputable def zf_95_H15 (x1 : Int32) (x2 : Int32) (s : Int32 × jb_Mi) : Option ((Int32 × jb_Mi) ⊕ (Bool × jb_Mi)) :=
  if s.1 < x2 then jb_gd (s.2 34 3) 48 (some (.inl ((s.1 + 1), (jb_up (jb_up s.2 37 ((s.2 34 3)).toNatClampNeg x1) 34 3 (((jb_up s.2 37 ((s.2 34 3)).toNatClampNeg x1) 34 3) + 1))))) else some (.inr (true, s.2))
noncomputable def zf_95 (x1 : Int32) (x2 : Int32) (M : jb_Mi) : Option (Bool × jb_Mi) :=
  if 48 < ((M 34 3) + x2) then some (false, M) else jb_lp (zf_95_H15 x1 x2) (0, M)
set_option maxRecDepth 4000 in
theorem zg_95_H15 {Γ : jb_G} {L : Nat} {d : Nat} (x1 : Int32) (x2 : Int32) (N : jb_Ml) (s : Int32 × jb_Mi) {v : Option Value} {σ2 : jb_S} {r : ((Int32 × jb_Mi) ⊕ (Bool × jb_Mi))} (h : zf_95_H15 x1 x2 s = some r) (hK : (jb_K (fun s : Int32 × jb_Mi => jb_V Γ d zq_95 15 [some (.ref 34), some (.int x1), some (.int x2), some (.int s.1)] [] (zE L, s.2, N) v σ2) (fun r : Bool × jb_Mi => v = some (.int (jb_b2i r.1)) ∧ σ2 = (zE L, r.2, N))) r) : jb_V Γ d zq_95 15 [some (.ref 34), some (.int x1), some (.int x2), some (.int s.1)] [] (zE L, s.2, N) v σ2 := by
  unfold zf_95_H15 at h
  refine jb_seg 3 (pc' := (if s.1 < x2 then 20 else 46)) (ls' := [some (.ref 34), some (.int x1), some (.int x2), some (.int s.1)]) (st' := []) (σ' := (zE L, s.2, N)) (G := []) rfl trivial ?_
  refine jb_ite (fun c => ?_) (fun c => ?_)
  · rw [if_pos c] at h
    obtain ⟨g1, h⟩ := jb_gd_of h
    refine jb_seg 14 (pc' := 15) (ls' := [some (.ref 34), some (.int x1), some (.int x2), some (.int (s.1 + 1))]) (st' := []) (σ' := (zE L, (jb_up (jb_up s.2 37 ((s.2 34 3)).toNatClampNeg x1) 34 3 (((jb_up s.2 37 ((s.2 34 3)).toNatClampNeg x1) 34 3) + 1)), N)) (G := [vp_in (s.2 34 3) 48]) rfl g1 ?_
    cases h
    exact jb_mask [true, true, true, true] rfl hK
  · rw [if_neg c] at h
    refine jb_seg 1 (pc' := 47) (ls' := [some (.ref 34), some (.int x1), some (.int x2), some (.int s.1)]) (st' := [(.int 1)]) (σ' := (zE L, s.2, N)) (G := []) rfl trivial ?_
    cases h
    obtain ⟨rfl, rfl⟩ := hK
    exact jb_retz (by decide) rfl rfl
theorem zg_95_H15L {Γ : jb_G} {L : Nat} {d : Nat} (x1 : Int32) (x2 : Int32) (N : jb_Ml) {v : Option Value} {σ2 : jb_S} {s : Int32 × jb_Mi} {r : (Bool × jb_Mi)} (h : jb_lp (zf_95_H15 x1 x2) s = some r) (hK : (fun r : Bool × jb_Mi => v = some (.int (jb_b2i r.1)) ∧ σ2 = (zE L, r.2, N)) r) : jb_V Γ d zq_95 15 [some (.ref 34), some (.int x1), some (.int x2), some (.int s.1)] [] (zE L, s.2, N) v σ2 := by
  exact jb_lp_ind (P := fun s => jb_V Γ d zq_95 15 [some (.ref 34), some (.int x1), some (.int x2), some (.int s.1)] [] (zE L, s.2, N) v σ2) (K := (fun r : Bool × jb_Mi => v = some (.int (jb_b2i r.1)) ∧ σ2 = (zE L, r.2, N))) (fun s r h hk => zg_95_H15 x1 x2 N s h (by cases r <;> exact hk)) h hK
set_option maxRecDepth 4000 in
theorem zg_95 {Γ : jb_G} {L : Nat} {d : Nat} (x1 : Int32) (x2 : Int32) (M : jb_Mi) (N : jb_Ml) {v : Option Value} {σ2 : jb_S} {r : (Bool × jb_Mi)} (h : zf_95 x1 x2 M = some r) (hK : (fun r : Bool × jb_Mi => v = some (.int (jb_b2i r.1)) ∧ σ2 = (zE L, r.2, N)) r) : jb_V Γ d zq_95 0 [some (.ref 34), some (.int x1), some (.int x2), none] [] (zE L, M, N) v σ2 := by
  unfold zf_95 at h
  refine jb_seg 6 (pc' := (if 48 < ((M 34 3) + x2) then 11 else 13)) (ls' := [some (.ref 34), some (.int x1), some (.int x2), none]) (st' := []) (σ' := (zE L, M, N)) (G := []) rfl trivial ?_
  refine jb_ite (fun c => ?_) (fun c => ?_)
  · rw [if_pos c] at h
    refine jb_seg 1 (pc' := 12) (ls' := [some (.ref 34), some (.int x1), some (.int x2), none]) (st' := [(.int 0)]) (σ' := (zE L, M, N)) (G := []) rfl trivial ?_
    cases h
    obtain ⟨rfl, rfl⟩ := hK
    exact jb_retz (by decide) rfl rfl
  · rw [if_neg c] at h
    refine jb_seg 2 (pc' := 15) (ls' := [some (.ref 34), some (.int x1), some (.int x2), some (.int 0)]) (st' := []) (σ' := (zE L, M, N)) (G := []) rfl trivial ?_
    exact jb_mask [true, true, true, true] rfl (zg_95_H15L x1 x2 N h hK)
theorem ze_95 {Γ : jb_G} {L : Nat} {d : Nat} (x1 : Int32) (x2 : Int32) (M : jb_Mi) (N : jb_Ml) {r : (Bool × jb_Mi)} (h : zf_95 x1 x2 M = some r) : jb_V Γ d zq_95 0 (jb_en 4 [(.ref 34), (.int x1), (.int x2)]) [] (zE L, M, N) (some (.int (jb_b2i r.1))) (zE L, r.2, N) := zg_95 x1 x2 M N h ⟨rfl, rfl⟩
-- X8_begin
noncomputable def zf_96 (x1 : Int32) (x2 : Int32) (M : jb_Mi) : Option (Bool × jb_Mi) :=
  if (M 34 7) < 2 then jb_gd (M 34 7) 2 (jb_gd ((jb_up M 38 ((M 34 7)).toNatClampNeg x1) 34 7) 2 (jb_gd ((jb_up (jb_up M 38 ((M 34 7)).toNatClampNeg x1) 39 (((jb_up M 38 ((M 34 7)).toNatClampNeg x1) 34 7)).toNatClampNeg x2) 34 7) 2 (some (true, (jb_up (jb_up (jb_up (jb_up M 38 ((M 34 7)).toNatClampNeg x1) 39 (((jb_up M 38 ((M 34 7)).toNatClampNeg x1) 34 7)).toNatClampNeg x2) 40 (((jb_up (jb_up M 38 ((M 34 7)).toNatClampNeg x1) 39 (((jb_up M 38 ((M 34 7)).toNatClampNeg x1) 34 7)).toNatClampNeg x2) 34 7)).toNatClampNeg ((jb_up (jb_up M 38 ((M 34 7)).toNatClampNeg x1) 39 (((jb_up M 38 ((M 34 7)).toNatClampNeg x1) 34 7)).toNatClampNeg x2) 34 3)) 34 7 (((jb_up (jb_up (jb_up M 38 ((M 34 7)).toNatClampNeg x1) 39 (((jb_up M 38 ((M 34 7)).toNatClampNeg x1) 34 7)).toNatClampNeg x2) 40 (((jb_up (jb_up M 38 ((M 34 7)).toNatClampNeg x1) 39 (((jb_up M 38 ((M 34 7)).toNatClampNeg x1) 34 7)).toNatClampNeg x2) 34 7)).toNatClampNeg ((jb_up (jb_up M 38 ((M 34 7)).toNatClampNeg x1) 39 (((jb_up M 38 ((M 34 7)).toNatClampNeg x1) 34 7)).toNatClampNeg x2) 34 3)) 34 7) + 1)))))) else some (false, M)
set_option maxRecDepth 4000 in
theorem zg_96 {Γ : jb_G} {L : Nat} {d : Nat} (x1 : Int32) (x2 : Int32) (M : jb_Mi) (N : jb_Ml) {v : Option Value} {σ2 : jb_S} {r : (Bool × jb_Mi)} (h : zf_96 x1 x2 M = some r) (hK : (fun r : Bool × jb_Mi => v = some (.int (jb_b2i r.1)) ∧ σ2 = (zE L, r.2, N)) r) : jb_V Γ d zq_96 0 [some (.ref 34), some (.int x1), some (.int x2)] [] (zE L, M, N) v σ2 := by
  unfold zf_96 at h
  refine jb_seg 4 (pc' := (if (M 34 7) < 2 then 10 else 8)) (ls' := [some (.ref 34), some (.int x1), some (.int x2)]) (st' := []) (σ' := (zE L, M, N)) (G := []) rfl trivial ?_
  refine jb_ite (fun c => ?_) (fun c => ?_)
  · rw [if_pos c] at h
    obtain ⟨g1, h⟩ := jb_gd_of h
    obtain ⟨g2, h⟩ := jb_gd_of h
    obtain ⟨g3, h⟩ := jb_gd_of h
    refine jb_seg 26 (pc' := 54) (ls' := [some (.ref 34), some (.int x1), some (.int x2)]) (st' := [(.int 1)]) (σ' := (zE L, (jb_up (jb_up (jb_up (jb_up M 38 ((M 34 7)).toNatClampNeg x1) 39 (((jb_up M 38 ((M 34 7)).toNatClampNeg x1) 34 7)).toNatClampNeg x2) 40 (((jb_up (jb_up M 38 ((M 34 7)).toNatClampNeg x1) 39 (((jb_up M 38 ((M 34 7)).toNatClampNeg x1) 34 7)).toNatClampNeg x2) 34 7)).toNatClampNeg ((jb_up (jb_up M 38 ((M 34 7)).toNatClampNeg x1) 39 (((jb_up M 38 ((M 34 7)).toNatClampNeg x1) 34 7)).toNatClampNeg x2) 34 3)) 34 7 (((jb_up (jb_up (jb_up M 38 ((M 34 7)).toNatClampNeg x1) 39 (((jb_up M 38 ((M 34 7)).toNatClampNeg x1) 34 7)).toNatClampNeg x2) 40 (((jb_up (jb_up M 38 ((M 34 7)).toNatClampNeg x1) 39 (((jb_up M 38 ((M 34 7)).toNatClampNeg x1) 34 7)).toNatClampNeg x2) 34 7)).toNatClampNeg ((jb_up (jb_up M 38 ((M 34 7)).toNatClampNeg x1) 39 (((jb_up M 38 ((M 34 7)).toNatClampNeg x1) 34 7)).toNatClampNeg x2) 34 3)) 34 7) + 1)), N)) (G := [vp_in (M 34 7) 2, vp_in ((jb_up M 38 ((M 34 7)).toNatClampNeg x1) 34 7) 2, vp_in ((jb_up (jb_up M 38 ((M 34 7)).toNatClampNeg x1) 39 (((jb_up M 38 ((M 34 7)).toNatClampNeg x1) 34 7)).toNatClampNeg x2) 34 7) 2]) rfl ⟨g1, g2, g3⟩ ?_
    cases h
    obtain ⟨rfl, rfl⟩ := hK
    exact jb_retz (by decide) rfl rfl
  · rw [if_neg c] at h
    refine jb_seg 1 (pc' := 9) (ls' := [some (.ref 34), some (.int x1), some (.int x2)]) (st' := [(.int 0)]) (σ' := (zE L, M, N)) (G := []) rfl trivial ?_
    cases h
    obtain ⟨rfl, rfl⟩ := hK
    exact jb_retz (by decide) rfl rfl
theorem ze_96 {Γ : jb_G} {L : Nat} {d : Nat} (x1 : Int32) (x2 : Int32) (M : jb_Mi) (N : jb_Ml) {r : (Bool × jb_Mi)} (h : zf_96 x1 x2 M = some r) : jb_V Γ d zq_96 0 (jb_en 3 [(.ref 34), (.int x1), (.int x2)]) [] (zE L, M, N) (some (.int (jb_b2i r.1))) (zE L, r.2, N) := zg_96 x1 x2 M N h ⟨rfl, rfl⟩
