/-! THE LAW: the reference reads rule by rule -/
def mZ (f r : Nat) (M M' : jb_Mi) : Prop := (∀ a, (a < 79 ∨ 89 < a ∨ (80 ≤ a ∧ a ≤ 83)) → M' a = M a) ∧ (∀ j, j ≠ 5 → j ≠ 7 → j ≠ 8 → j ≠ 9 → j ≠ 10 → j ≠ 11 → j ≠ 12 → M' 79 j = M 79 j) ∧ (∀ j, j < f → M' 84 j = M 84 j) ∧ ∀ j, j ≠ r → M' 86 j = M 86 j ∧ M' 87 j = M 87 j ∧ M' 88 j = M 88 j ∧ M' 89 j = M 89 j
theorem mZ_0 (f r : Nat) (M : jb_Mi) : mZ f r M M := ⟨fun _ _ => rfl, fun _ _ _ _ _ _ _ _ => rfl, fun _ _ => rfl, fun _ _ => ⟨rfl, rfl, rfl, rfl⟩⟩
theorem mZ_t {f r : Nat} {M M1 M2 : jb_Mi} (h1 : mZ f r M M1) (h2 : mZ f r M1 M2) : mZ f r M M2 := ⟨fun a ha => by rw [h2.1 a ha, h1.1 a ha], fun j q1 q2 q3 q4 q5 q6 q7 => by rw [h2.2.1 j q1 q2 q3 q4 q5 q6 q7, h1.2.1 j q1 q2 q3 q4 q5 q6 q7], fun j hj => by rw [h2.2.2.1 j hj, h1.2.2.1 j hj], fun j hj => ⟨by rw [(h2.2.2.2 j hj).1, (h1.2.2.2 j hj).1], by rw [(h2.2.2.2 j hj).2.1, (h1.2.2.2 j hj).2.1], by rw [(h2.2.2.2 j hj).2.2.1, (h1.2.2.2 j hj).2.2.1], by rw [(h2.2.2.2 j hj).2.2.2, (h1.2.2.2 j hj).2.2.2]⟩⟩
theorem mZ_X {f f' r : Nat} {M M1 M2 : jb_Mi} (h : mZ f r M M1) (hf : f ≤ f') (h2 : mX f' M1 M2) : mZ f r M M2 := mZ_t h ⟨fun a ha => h2.1 a (by omega) (by omega) (by omega), fun j q1 q2 q3 q4 q5 q6 _ => h2.2.1 j q1 q2 q3 q4 q5 q6, fun j hj => h2.2.2 j (by omega), fun j _ => ⟨by rw [h2.1 86 (by decide) (by decide) (by decide)], by rw [h2.1 87 (by decide) (by decide) (by decide)], by rw [h2.1 88 (by decide) (by decide) (by decide)], by rw [h2.1 89 (by decide) (by decide) (by decide)]⟩⟩
theorem mZ_w {f f' r : Nat} {M M1 : jb_Mi} (h : mZ f' r M M1) (hf : f ≤ f') : mZ f r M M1 := ⟨h.1, h.2.1, fun j hj => h.2.2.1 j (by omega), h.2.2.2⟩
theorem mZ_u {f r : Nat} {M M1 : jb_Mi} (h : mZ f r M M1) {a j : Nat} {x : Int32} (ha : (a = 79 ∧ (j = 5 ∨ j = 7 ∨ j = 8 ∨ j = 9 ∨ j = 10 ∨ j = 11 ∨ j = 12)) ∨ (86 ≤ a ∧ a ≤ 89 ∧ j = r)) : mZ f r M (jb_up M1 a j x) := by
  refine mZ_t h ⟨fun c hc => jb_up_off (by omega), fun i q1 q2 q3 q4 q5 q6 q7 => ?_, fun i _ => ?_, fun i hi => ⟨?_, ?_, ?_, ?_⟩⟩
  · rw [jb_up_at, if_neg (by omega)]
  · rw [jb_up_at, if_neg (by omega)]
  · rw [jb_up_at, if_neg (by omega)]
  · rw [jb_up_at, if_neg (by omega)]
  · rw [jb_up_at, if_neg (by omega)]
  · rw [jb_up_at, if_neg (by omega)]
/-- words of a piece -/
def cW (f : Nat) (c : jPc) (M : jb_Mi) : Prop := ∀ k, k < c.length → M 84 (f + k) = nI (wrd f (pat c k))
theorem cW_D {f : Nat} {c : jPc} {M : jb_Mi} (h : cW f c M) (ho : okP c) : cD 84 f c M := by
  intro k hk
  rw [h k hk]
  unfold wrd
  rw [if_neg (fun y => by have := ((ho.1 k hk).2.2.2.2.2.2 y.1).1; omega)]
theorem jd_tests {b : Nat → Nat} {n r f q : Nat} {M : jb_Mi} (hn : n ≤ 240) (hr : r < 16) (h12 : M 79 12 = nI r) (hD : lD b n f q 6 [] [] M) (hf : f ≤ q) (hq : q ≤ n) : match cpR b n q with
    | .inl e => ∃ M', zf_203_J116 M = some (false, M') ∧ M' 79 7 = zf_74 (nI e.1) (nI e.2) ∧ mZ f r M M'
    | .inr z => ∃ M', zf_203_J116 M = some (true, M') ∧ tdB b n M' ∧ M' 79 5 = nI z.1 ∧ M' 79 10 = nI (f + z.2.length) ∧ M' 79 12 = nI (r + 1) ∧ M' 88 r = nI f ∧ M' 89 r = nI (f + z.2.length) ∧ M' 86 r = M 86 r ∧ M' 87 r = M 87 r ∧ cW f z.2 M' ∧ f + z.2.length ≤ z.1 ∧ q < z.1 ∧ z.1 ≤ n ∧ mZ f r M M' := by
  have h10 : M 79 10 = nI f := hD.2.2.2.1.1
  have hM1 : lD b n f q 6 [] [] (jb_up M 88 r (nI f)) := by
    obtain ⟨k1, k2, k3, ⟨k4, k5⟩, k6⟩ := hD
    exact ⟨tdB_of k1 (by rw [jb_up_off (by decide)]) (jb_up_off (by decide)), by rw [jb_up_off (by decide), k2], by rw [jb_up_off (by decide), k3], ⟨by rw [jb_up_off (by decide), k4], fun k hk => by simp at hk⟩, stk_of k6 (by rw [jb_up_off (by decide)]) (fun k hk => by rw [jb_up_off (by decide)])⟩
  have hZ1 : mZ f r M (jb_up M 88 r (nI f)) := mZ_u (mZ_0 f r M) (by omega)
  obtain ⟨z, z1, z2, z3⟩ := jd_cond (g := 0) hn hM1 ⟨by show f + 0 + 0 + 0 ≤ q; omega, by show 0 ≤ q; omega, fun w hw => by simp at hw⟩ hq
  have hZ2 := mZ_X hZ1 (Nat.le_refl _) z2
  have g12 : z.2 79 12 = nI r := by rw [z2.2.1 12 (by decide) (by decide) (by decide) (by decide) (by decide) (by decide), jb_up_off (by decide), h12]
  have e0 : zf_203_J116 M = if (jb_b2i z.1) = 0 then some (false, z.2) else some (true, jb_up (jb_up z.2 89 r (z.2 79 10)) 79 12 (nI (r + 1))) := by
    unfold zf_203_J116
    rw [h12, jn_gd hr (by decide), nI_clamp (by omega), h10, z1, Option.bind_some, g12, jn_gd hr (by decide), nI_clamp (by omega), jb_up_off (show (79 : Nat) ≠ 89 by decide), g12, nI_succ]
  cases e : cpR b n q with
  | inl x =>
    rw [e] at z3
    rw [z3.1, jb_no] at e0
    exact ⟨_, e0, z3.2, hZ2⟩
  | inr x =>
    rw [e] at z3
    obtain ⟨y1, y2, y3, y4, y5⟩ := z3
    obtain ⟨d1, d2, d3, ⟨d4, d6⟩, d5⟩ := y2
    rw [y1, jb_yes, d4] at e0
    have i1 : f + x.2.length + 0 + 0 ≤ x.1 := y3.1
    have o79 : ∀ j, j ≠ 12 → jb_up (jb_up z.2 89 r (nI (f + x.2.length))) 79 12 (nI (r + 1)) 79 j = z.2 79 j := fun j hj => by rw [jb_up_at, if_neg (by omega), jb_up_off (by decide)]
    refine ⟨_, e0, tdB_of d1 (o79 6 (by decide)) (by rw [jb_up_off (by decide), jb_up_off (by decide)]), by rw [o79 5 (by decide), d2], by rw [o79 10 (by decide), d4], by rw [jb_up_at, if_pos ⟨rfl, rfl⟩], ?_, ?_, ?_, ?_, fun k hk => ?_, by omega, y4, y5, mZ_u (mZ_u hZ2 (by omega)) (by omega)⟩
    · rw [jb_up_off (by decide), jb_up_off (by decide), z2.1 88 (by decide) (by decide) (by decide), jb_up_at, if_pos ⟨rfl, rfl⟩]
    · rw [jb_up_off (by decide), jb_up_at, if_pos ⟨rfl, rfl⟩]
    · rw [jb_up_off (by decide), jb_up_off (by decide), z2.1 86 (by decide) (by decide) (by decide), jb_up_off (by decide)]
    · rw [jb_up_off (by decide), jb_up_off (by decide), z2.1 87 (by decide) (by decide) (by decide), jb_up_off (by decide)]
    · rw [jb_up_off (by decide), jb_up_off (by decide), d6 k hk]
/-- a rule in the reference's draft -/
def drD (M : jb_Mi) (sz r e : Nat) (E C : jPc) (f : Nat) : Prop := M 86 r = nI e ∧ M 87 r = nI f ∧ M 88 r = nI (f + E.length) ∧ M 89 r = nI (f + E.length + C.length) ∧ f + E.length + C.length ≤ sz ∧ cD 84 f E M ∧ cD 84 (f + E.length) C M
theorem jd_rl {b : Nat → Nat} {n r p f : Nat} {M : jb_Mi} (hn : n ≤ 240) (hr : r < 16) (hT : tdB b n M) (h5 : M 79 5 = nI p) (h10 : M 79 10 = nI f) (h12 : M 79 12 = nI r) (hf : f ≤ p) (hp : p < n) : match spR b n p with
    | .inl e => ∃ M', zf_203_J39 (sgc (ch b n p)) M = some (false, M') ∧ M' 79 7 = zf_74 (nI e.1) (nI e.2) ∧ mZ f r M M'
    | .inr y => ∃ M' sz, zf_203_J39 (sgc (ch b n p)) M = some (true, M') ∧ tdB b n M' ∧ M' 79 5 = nI y.1 ∧ M' 79 10 = nI sz ∧ M' 79 12 = nI (r + 1) ∧ f ≤ sz ∧ sz ≤ y.1 ∧ y.1 ≤ n ∧ drD M' sz r (ch b n p) y.2.1 y.2.2 f ∧ mZ f r M M' := by
  have hb := tdB_b hT
  have hc : ch b n p < 256 := by
    unfold ch
    rw [if_pos hp]
    exact hb.2 p hp
  have hro := spR_ok hb hp
  have hM1 : lD b n f (p + 1) 6 [] [] (jb_up (jb_up (jb_up (jb_up (jb_up M 86 r (nI (ch b n p))) 79 5 (nI (p + 1))) 87 r (nI f)) 79 9 0) 79 11 0) := by
    refine ⟨tdB_of hT ?_ ?_, ?_, ?_, ⟨?_, fun k hk => by simp at hk⟩, ?_, fun k hk => by simp at hk⟩
    · rw [jb_up_at, if_neg (by omega), jb_up_at, if_neg (by omega), jb_up_off (by decide), jb_up_at, if_neg (by omega), jb_up_off (by decide)]
    · rw [jb_up_off (by decide), jb_up_off (by decide), jb_up_off (by decide), jb_up_off (by decide), jb_up_off (by decide)]
    · rw [jb_up_at, if_neg (by omega), jb_up_at, if_neg (by omega), jb_up_off (by decide), jb_up_at, if_pos ⟨rfl, rfl⟩]
    · rw [jb_up_at, if_neg (by omega), jb_up_at, if_pos ⟨rfl, rfl⟩]
      rfl
    · rw [jb_up_at, if_neg (by omega), jb_up_at, if_neg (by omega), jb_up_off (by decide), jb_up_at, if_neg (by omega), jb_up_off (by decide), h10]
      rfl
    · rw [jb_up_at, if_pos ⟨rfl, rfl⟩]
      rfl
  have hZ1 : mZ f r M (jb_up (jb_up (jb_up (jb_up (jb_up M 86 r (nI (ch b n p))) 79 5 (nI (p + 1))) 87 r (nI f)) 79 9 0) 79 11 0) := mZ_u (mZ_u (mZ_u (mZ_u (mZ_u (mZ_0 f r M) (by omega)) (by omega)) (by omega)) (by omega)) (by omega)
  have g12 : jb_up (jb_up (jb_up (jb_up (jb_up M 86 r (nI (ch b n p))) 79 5 (nI (p + 1))) 87 r (nI f)) 79 9 0) 79 11 0 79 12 = nI r := by
    rw [jb_up_at, if_neg (by omega), jb_up_at, if_neg (by omega), jb_up_off (by decide), jb_up_at, if_neg (by omega), jb_up_off (by decide), h12]
  have g86 : jb_up (jb_up (jb_up (jb_up (jb_up M 86 r (nI (ch b n p))) 79 5 (nI (p + 1))) 87 r (nI f)) 79 9 0) 79 11 0 86 r = nI (ch b n p) ∧ jb_up (jb_up (jb_up (jb_up (jb_up M 86 r (nI (ch b n p))) 79 5 (nI (p + 1))) 87 r (nI f)) 79 9 0) 79 11 0 87 r = nI f := by
    refine ⟨?_, ?_⟩
    · rw [jb_up_off (by decide), jb_up_off (by decide), jb_up_off (by decide), jb_up_off (by decide), jb_up_at, if_pos ⟨rfl, rfl⟩]
    · rw [jb_up_off (by decide), jb_up_off (by decide), jb_up_at, if_pos ⟨rfl, rfl⟩]
  have e0 : zf_203_J39 (sgc (ch b n p)) M = if ch b n p = 120 then zf_203_J116 (jb_up (jb_up (jb_up (jb_up (jb_up M 86 r (nI (ch b n p))) 79 5 (nI (p + 1))) 87 r (nI f)) 79 9 0) 79 11 0) else (zf_197 (jb_up (jb_up (jb_up (jb_up (jb_up M 86 r (nI (ch b n p))) 79 5 (nI (p + 1))) 87 r (nI f)) 79 9 0) 79 11 0)).bind fun q7 => if (jb_b2i q7.1) = 0 then some (false, q7.2) else zf_203_J116 q7.2 := by
    have hr16 : (nI r = 16) = (r = 16) := jn_eq (b := 16) (by omega) (by decide)
    have s120 : (sgc (ch b n p) = 120) = (ch b n p = 120) := sgc_eq (k := 120) (by omega) (by decide)
    have f5 : jb_up M 86 r (nI (ch b n p)) 79 5 + 1 = nI (p + 1) := by rw [jb_up_off (by decide), h5, nI_succ]
    have f12 : jb_up (jb_up M 86 r (nI (ch b n p))) 79 5 (nI (p + 1)) 79 12 = nI r := by rw [jb_up_at, if_neg (by omega), jb_up_off (by decide), h12]
    have f10 : jb_up (jb_up M 86 r (nI (ch b n p))) 79 5 (nI (p + 1)) 79 10 = nI f := by rw [jb_up_at, if_neg (by omega), jb_up_off (by decide), h10]
    unfold zf_203_J39
    simp only [s120]
    rw [sgc_in hc, h12]
    simp only [hr16]
    rw [if_neg (by omega), nI_clamp (by omega), f5, f12, nI_clamp (by omega), f10, jn_gd hr (by decide), jn_gd hr (by decide)]
  generalize jb_up (jb_up (jb_up (jb_up (jb_up M 86 r (nI (ch b n p))) 79 5 (nI (p + 1))) 87 r (nI f)) 79 9 0) 79 11 0 = M1 at hM1 hZ1 g12 g86 e0
  rw [spR_c] at hro ⊢
  by_cases c : ch b n p = 120
  · rw [if_pos c] at e0 hro ⊢
    dsimp only at hro ⊢
    have ht := jd_tests hn hr g12 hM1 (by omega) (by omega)
    cases e : cpR b n (p + 1) with
    | inl x =>
      rw [e] at ht
      obtain ⟨M', k1, k2, k3⟩ := ht
      exact ⟨M', by rw [e0, k1], k2, mZ_t hZ1 k3⟩
    | inr z =>
      rw [e] at ht hro
      obtain ⟨M', k1, k2, k3, k4, k5, k6, k7, k8, k9, k10, k11, k12, k13, k14⟩ := ht
      obtain ⟨-, -, -, o4⟩ := hro
      exact ⟨M', f + z.2.length, by rw [e0, k1], k2, k3, k4, k5, by omega, k11, k13, ⟨by rw [k8, g86.1], by rw [k9, g86.2], k6, k7, Nat.le_refl _, fun k hk => by simp at hk, cW_D k10 o4.1⟩, mZ_t hZ1 k14⟩
  · rw [if_neg c] at e0 hro ⊢
    obtain ⟨w, w1, w2, w3⟩ := jd_sum (g := 0) hn (show 6 ≤ 6 by omega) (show tpo [] from True.intro) hM1 ⟨by show f + 0 + 0 + 0 ≤ p + 1; omega, by show 0 ≤ p + 1; omega, fun w hw => by simp at hw⟩ (by omega)
    rw [w1, Option.bind_some] at e0
    have hZ2 := mZ_X hZ1 (Nat.le_refl _) w2
    cases e : spE b n 6 (p + 1) [] with
    | inl x =>
      rw [e] at w3
      rw [w3.1, jb_no] at e0
      exact ⟨_, e0, w3.2, hZ2⟩
    | inr y =>
      rw [e] at w3 hro
      obtain ⟨y1, y2, y3, y4⟩ := w3
      obtain ⟨d1, d2, d3, ⟨d4, d6⟩, d5⟩ := y2
      rw [y1, jb_yes] at e0
      have i1 : f + y.2.length + 0 + 0 ≤ y.1 := y3.1
      have v12 : w.2 79 12 = nI r := by rw [w2.2.1 12 (by decide) (by decide) (by decide) (by decide) (by decide) (by decide), g12]
      have hD2 : lD b n (f + y.2.length) y.1 6 [] [] w.2 := ⟨d1, d2, d3, ⟨d4, fun k hk => by simp at hk⟩, d5⟩
      have ht := jd_tests hn hr v12 hD2 (by omega) y4
      dsimp only at e0 hro ⊢
      cases e2 : cpR b n y.1 with
      | inl x =>
        rw [e2] at ht
        obtain ⟨M', k1, k2, k3⟩ := ht
        exact ⟨M', by rw [e0, k1], k2, mZ_t hZ2 (mZ_w k3 (by omega))⟩
      | inr z =>
        rw [e2] at ht hro
        obtain ⟨M', k1, k2, k3, k4, k5, k6, k7, k8, k9, k10, k11, k12, k13, k14⟩ := ht
        obtain ⟨-, -, -, o4⟩ := hro
        refine ⟨M', f + y.2.length + z.2.length, by rw [e0, k1], k2, k3, k4, k5, by omega, k11, k13, ⟨?_, ?_, k6, k7, Nat.le_refl _, ?_, cW_D k10 o4.1⟩, mZ_t hZ2 (mZ_w k14 (by omega))⟩
        · rw [k8, w2.1 86 (by decide) (by decide) (by decide), g86.1]
        · rw [k9, w2.1 87 (by decide) (by decide) (by decide), g86.2]
        · refine cW_D (fun k hk => ?_) (o4.2.2.1 c)
          have hk' : k < y.2.length := hk
          rw [k14.2.2.1 (f + k) (by omega)]
          exact d6 k hk
def duD (u : lwU) (sz : Nat) (M : jb_Mi) : Prop := ∀ r, r < u.length → ∃ f, drD M sz r (ug u r).1 (ug u r).2.1 (ug u r).2.2 f
theorem drD_of {M M' : jb_Mi} {sz sz' r e f : Nat} {E C : jPc} (h : drD M sz r e E C f) (hs : sz ≤ sz') (h86 : M' 86 r = M 86 r ∧ M' 87 r = M 87 r ∧ M' 88 r = M 88 r ∧ M' 89 r = M 89 r) (hc : ∀ j, j < sz → M' 84 j = M 84 j) : drD M' sz' r e E C f := by
  obtain ⟨h1, h2, h3, h4, h5, h6, h7⟩ := h
  refine ⟨by rw [h86.1, h1], by rw [h86.2.1, h2], by rw [h86.2.2.1, h3], by rw [h86.2.2.2, h4], by omega, fun k hk => ?_, fun k hk => ?_⟩
  · rw [hc _ (by omega)]
    exact h6 k hk
  · rw [hc _ (by omega)]
    exact h7 k hk
/-- what the reading of the law leaves alone -/
def uZ (M M' : jb_Mi) : Prop := (∀ a, (a < 79 ∨ 89 < a ∨ (80 ≤ a ∧ a ≤ 83)) → M' a = M a) ∧ ∀ j, j ≠ 5 → j ≠ 7 → j ≠ 8 → j ≠ 9 → j ≠ 10 → j ≠ 11 → j ≠ 12 → M' 79 j = M 79 j
theorem uZ_t {M M1 M2 : jb_Mi} (h1 : uZ M M1) (h2 : uZ M1 M2) : uZ M M2 := ⟨fun a ha => by rw [h2.1 a ha, h1.1 a ha], fun j q1 q2 q3 q4 q5 q6 q7 => by rw [h2.2 j q1 q2 q3 q4 q5 q6 q7, h1.2 j q1 q2 q3 q4 q5 q6 q7]⟩
theorem uZ_m {f r : Nat} {M M1 : jb_Mi} (h : mZ f r M M1) : uZ M M1 := ⟨h.1, h.2.1⟩
def ldE (x : (Nat × Nat) ⊕ lwU) (g : Int32) (M : jb_Mi) : Prop := match x with
  | .inl e => g = 0 ∧ M 79 7 = zf_74 (nI e.1) (nI e.2)
  | .inr u => g = 1 ∧ M 79 12 = nI u.length ∧ ∃ sz, sz ≤ 240 ∧ M 79 10 = nI sz ∧ duD u sz M
theorem jd_stop {g : Int32} {M : jb_Mi} {w : Int32 × jb_Mi} (h : g = 0 ∨ ¬ M 79 5 < M 79 6) (hw : zf_205_J71 g M = some w) : jb_lp zf_205_H31 (g, M) = some w := by
  refine jb_lp_inr ?_
  unfold zf_205_H31
  dsimp only
  rw [hw]
  rcases h with h | h
  · rw [if_pos h]
    rfl
  · by_cases z : g = 0
    · rw [if_pos z]
      rfl
    · rw [if_neg z, if_neg h]
      rfl
theorem jd_law {b : Nat → Nat} {n : Nat} (hn : n ≤ 240) : ∀ (f p sz : Nat) (u : lwU) (M : jb_Mi), tdB b n M → M 79 5 = nI p → M 79 10 = nI sz → M 79 12 = nI u.length → sz ≤ p → p ≤ n → u.length + f = 17 → 0 < f → duD u sz M → ∃ q, zf_203 M = some q ∧ ∃ (g : Int32) (M' : jb_Mi), (∀ w, zf_205_J71 g M' = some w → jb_lp zf_205_H31 (jb_b2i q.1, q.2) = some w) ∧ ldE (spL b n f p u) g M' ∧ uZ M M' := by
  intro f
  induction f with
  | zero => intros; omega
  | succ f ih =>
    intro p sz u M hT h5 h10 h12 hsz hp hu _ hU
    have hb := tdB_b hT
    have hc := ch_le hb p
    have s116 : (sgc (ch b n p) = 116) = (ch b n p = 116) := sgc_eq (k := 116) hc (by decide)
    have s121 : (sgc (ch b n p) = 121) = (ch b n p = 121) := sgc_eq (k := 121) hc (by decide)
    have s100 : (sgc (ch b n p) = 100) = (ch b n p = 100) := sgc_eq (k := 100) hc (by decide)
    have s120 : (sgc (ch b n p) = 120) = (ch b n p = 120) := sgc_eq (k := 120) hc (by decide)
    have e0 : zf_203 M = if ch b n p = 116 ∨ ch b n p = 121 ∨ ch b n p = 100 ∨ ch b n p = 120 then zf_203_J39 (sgc (ch b n p)) M else some (zf_186 (nI 1) (nI p) M) := by
      unfold zf_203
      rw [sgc_peek hT (by omega) h5, Option.bind_some, h5]
      simp only [s116, s121, s100, s120]
      by_cases k1 : ch b n p = 116
      · rw [if_pos k1, if_pos (by omega)]
      rw [if_neg k1]
      by_cases k2 : ch b n p = 121
      · rw [if_pos k2, if_pos (by omega)]
      rw [if_neg k2]
      by_cases k3 : ch b n p = 100
      · rw [if_pos k3, if_pos (by omega)]
      rw [if_neg k3]
      by_cases k4 : ch b n p = 120
      · rw [if_pos k4, if_pos (by omega)]
      rw [if_neg k4, if_neg (by omega)]
      rfl
    have bad : ∀ (e : Nat × Nat) (M' : jb_Mi), zf_203 M = some (false, M') → M' 79 7 = zf_74 (nI e.1) (nI e.2) → uZ M M' → ∃ q, zf_203 M = some q ∧ ∃ (g : Int32) (M' : jb_Mi), (∀ w, zf_205_J71 g M' = some w → jb_lp zf_205_H31 (jb_b2i q.1, q.2) = some w) ∧ ldE (.inl e) g M' ∧ uZ M M' := by
      intro e M' k1 k2 k3
      exact ⟨_, k1, 0, M', fun w hw => jd_stop (Or.inl rfl) hw, ⟨rfl, k2⟩, k3⟩
    have u7 : ∀ x, uZ M (jb_up M 79 7 x) := fun x => ⟨fun a ha => jb_up_off (by omega), fun j q1 q2 q3 q4 q5 q6 q7 => by rw [jb_up_at, if_neg (by omega)]⟩
    rw [spL]
    by_cases c1 : ch b n p = 116 ∨ ch b n p = 121 ∨ ch b n p = 100 ∨ ch b n p = 120
    · rw [if_pos c1] at e0 ⊢
      have hpn := ch_in hb (k := p) (by omega)
      by_cases c2 : u.length = 16
      · rw [if_pos c2]
        refine bad (4, p) (jb_up M 79 7 (zf_74 (nI 4) (nI p))) ?_ (by rw [jb_up_at, if_pos ⟨rfl, rfl⟩]) (u7 _)
        rw [e0]
        unfold zf_203_J39
        rw [h12, if_pos (by rw [c2]; rfl), h5]
        rfl
      rw [if_neg c2]
      have rl := jd_rl (r := u.length) hn (by omega) hT h5 h10 h12 hsz hpn
      have ro := spR_ok hb hpn
      cases e : spR b n p with
      | inl x =>
        rw [e] at rl
        obtain ⟨M', k1, k2, k3⟩ := rl
        rw [k1] at e0
        exact bad x M' e0 k2 (uZ_m k3)
      | inr y =>
        rw [e] at rl ro
        obtain ⟨M', sz', k1, k2, k3, k4, k5, k6, k7, k8, k9, k10⟩ := rl
        obtain ⟨o1, o2, o3, o4⟩ := ro
        rw [k1] at e0
        dsimp only
        have hcy := ch_le hb y.1
        have hlen : (u ++ [(ch b n p, y.2.1, y.2.2)]).length = u.length + 1 := by simp
        have hU' : duD (u ++ [(ch b n p, y.2.1, y.2.2)]) sz' M' := by
          intro r hr
          rw [hlen] at hr
          rw [ug_app]
          by_cases z : r < u.length
          · rw [if_pos z]
            obtain ⟨s1, d1⟩ := hU r z
            exact ⟨s1, drD_of d1 k6 (k10.2.2.2 r (by omega)) k10.2.2.1⟩
          · have : r = u.length := by omega
            subst this
            rw [if_neg z, if_pos rfl]
            exact ⟨sz, k9⟩
        have hlt : (M' 79 5 < M' 79 6) = (y.1 < n) := by
          rw [k3, k2.2.1]
          exact jn_lt (by omega) (by omega)
        refine ⟨_, e0, ?_⟩
        by_cases q1 : n ≤ y.1
        · rw [if_pos q1]
          exact ⟨1, M', fun w hw => jd_stop (Or.inr (by rw [hlt]; omega)) hw, ⟨rfl, by rw [k5, hlen], sz', by omega, k4, hU'⟩, uZ_m k10⟩
        rw [if_neg q1]
        have e1 : zf_205_H31 (jb_b2i true, M') = if ch b n y.1 = 59 then (zf_203 (jb_up M' 79 5 (nI (y.1 + 1)))).bind fun q13 => if (jb_b2i q13.1) = 0 then zf_205_J66 q13.2 else zf_205_J67 1 q13.2 else some (.inl (0, jb_up M' 79 7 (zf_74 (nI 1) (nI y.1)))) := by
          have s59 : (sgc (ch b n y.1) = 59) = (ch b n y.1 = 59) := sgc_eq (k := 59) hcy (by decide)
          unfold zf_205_H31 zf_187
          dsimp only
          rw [if_neg (by decide)]
          simp only [hlt]
          rw [if_pos (by omega), sgc_peek k2 (by omega) k3, Option.bind_some, k3]
          simp only [s59]
          by_cases q2 : ch b n y.1 = 59
          · rw [if_pos q2, if_pos q2, Option.bind_some, jb_yes, ← nI_succ]
          · rw [if_neg q2, if_neg q2, Option.bind_some]
            exact jb_no _ _
        by_cases q2 : ch b n y.1 = 59
        · rw [if_pos q2] at e1 ⊢
          have o79 : ∀ j, j ≠ 5 → jb_up M' 79 5 (nI (y.1 + 1)) 79 j = M' 79 j := fun j hj => by rw [jb_up_at, if_neg (by omega)]
          obtain ⟨v, v1, g, M2, v2, v3, v4⟩ := ih (y.1 + 1) sz' (u ++ [(ch b n p, y.2.1, y.2.2)]) (jb_up M' 79 5 (nI (y.1 + 1))) (tdB_of k2 (o79 6 (by decide)) (jb_up_off (by decide))) (by rw [jb_up_at, if_pos ⟨rfl, rfl⟩]) (by rw [o79 10 (by decide), k4]) (by rw [o79 12 (by decide), k5, hlen]) (by omega) (by omega) (by omega) (by omega) (fun r hr => by
            obtain ⟨s1, d1⟩ := hU' r hr
            exact ⟨s1, drD_of d1 (Nat.le_refl _) ⟨by rw [jb_up_off (by decide)], by rw [jb_up_off (by decide)], by rw [jb_up_off (by decide)], by rw [jb_up_off (by decide)]⟩ (fun j _ => by rw [jb_up_off (by decide)])⟩)
          rw [v1, Option.bind_some] at e1
          have e2 : zf_205_H31 (jb_b2i true, M') = some (.inl (jb_b2i v.1, v.2)) := by
            rw [e1]
            cases hv : v.1 with
            | false => exact jb_no _ _
            | true => exact jb_yes _ _
          refine ⟨g, M2, fun w hw => ?_, v3, uZ_t (uZ_m k10) (uZ_t ⟨fun a ha => jb_up_off (by omega), fun j q1 q2 q3 q4 q5 q6 q7 => o79 j q1⟩ v4)⟩
          rw [jb_lp_inl e2]
          exact v2 w hw
        · rw [if_neg q2] at e1 ⊢
          refine ⟨0, jb_up M' 79 7 (zf_74 (nI 1) (nI y.1)), fun w hw => ?_, ⟨rfl, by rw [jb_up_at, if_pos ⟨rfl, rfl⟩]⟩, uZ_t (uZ_m k10) ⟨fun a ha => jb_up_off (by omega), fun j q1 q2 q3 q4 q5 q6 q7 => by rw [jb_up_at, if_neg (by omega)]⟩⟩
          rw [jb_lp_inl e1]
          exact jd_stop (Or.inl rfl) hw
    · rw [if_neg c1] at e0 ⊢
      exact bad (1, p) _ e0 (by show jb_up M 79 7 (zf_74 (nI 1) (nI p)) 79 7 = _; rw [jb_up_at, if_pos ⟨rfl, rfl⟩]) (u7 _)
