/-! THE LAW: the class reads rules -/
theorem okP_of {c : jPc} (h : wfc c) (hp : ∀ k, k < c.length → 11 ≤ (pat c k).1 → (pat c k).2 ≠ 0) (hd : dp c c.length = 1) : okP c := by
  refine ⟨fun k hk => ?_, hd⟩
  obtain ⟨h1, h2, h3, h4, h5, h6, h7⟩ := h.2 k hk
  exact ⟨h1, h2, h3, h4, h5, h6, fun y => (h7 y).resolve_left (hp k hk y)⟩
theorem wfc_nil : wfc [] := ⟨by simp, fun k hk => by simp at hk⟩
/-- E and C of a rule -/
def okE (e : Nat) (E C : jPc) : Prop := okP C ∧ isb C C.length ∧ (e ≠ 120 → okP E) ∧ (e = 120 → E = []) ∧ e < 256
theorem spR_ok {b : Nat → Nat} {n p : Nat} (hb : bB b n) (hp : p < n) : match spR b n p with
  | .inl e => e.1 ≤ 9 ∧ e.2 ≤ n
  | .inr y => p < y.1 ∧ y.1 ≤ n ∧ y.2.1.length + y.2.2.length + p + 3 ≤ y.1 ∧ okE (ch b n p) y.2.1 y.2.2 := by
  have hcp : ch b n p < 256 := by
    unfold ch
    rw [if_pos hp]
    exact hb.2 p hp
  have h1 : match (if ch b n p = 120 then (.inr (p + 1, []) : lwR) else spE b n 6 (p + 1) []) with
    | .inl e => e.1 ≤ 9 ∧ e.2 ≤ n
    | .inr y => p < y.1 ∧ y.1 ≤ n ∧ y.2.length + p + 1 ≤ y.1 ∧ (ch b n p ≠ 120 → okP y.2) ∧ (ch b n p = 120 → y.2 = []) := by
    by_cases c : ch b n p = 120
    · rw [if_pos c]
      exact ⟨by dsimp only; omega, by dsimp only; omega, by simp, fun y => absurd c y, fun _ => rfl⟩
    · rw [if_neg c]
      have g := (spE_ok hb 6).2 (p + 1) [] wfc_nil (by simp [dp]) hp (by simp)
      cases e : spE b n 6 (p + 1) [] with
      | inl x => rw [e] at g; exact g
      | inr y =>
        rw [e] at g
        obtain ⟨a1, a2, a3, a4⟩ := g
        have hl := a3.2.2.1
        simp at hl
        exact ⟨by omega, a2, by omega, fun _ => okP_of a3.1 (fun k hk => a3.2.2.2 k (by simp) hk) (by rw [a4]; simp [dp]), fun y => absurd y c⟩
  unfold spR
  cases e : (if ch b n p = 120 then (.inr (p + 1, []) : lwR) else spE b n 6 (p + 1) []) with
  | inl x => rw [e] at h1; exact h1
  | inr y =>
    rw [e] at h1
    obtain ⟨a1, a2, a3, a4, a5⟩ := h1
    dsimp only
    by_cases c : ch b n y.1 = 40
    · rw [if_pos c]
      have hq := ch_in hb (k := y.1) (by omega)
      have g := (spT_ok hb 5).2 (y.1 + 1) [] wfc_nil (by simp [dp]) hq (by simp)
      cases e2 : spC b n 5 (y.1 + 1) [] with
      | inl x => rw [e2] at g; exact g
      | inr z =>
        rw [e2] at g
        obtain ⟨b1, b2, b3, b4, b5⟩ := g
        have hl := b3.2.2.1
        simp at hl
        dsimp only
        by_cases c2 : ch b n z.1 = 41
        · rw [if_pos c2]
          have hq2 := ch_in hb (k := z.1) (by omega)
          exact ⟨by dsimp only; omega, hq2, by dsimp only; omega, okP_of b3.1 (fun k hk => b3.2.2.2 k (by simp) hk) (by rw [b4]; simp [dp]), b5, a4, a5, hcp⟩
        · rw [if_neg c2]
          exact ⟨by dsimp only; omega, b2⟩
    · rw [if_neg c]
      exact ⟨by dsimp only; omega, a2⟩
/-- a rule in the class's draft -/
def drC (M : jb_Mi) (sz r e : Nat) (E C : jPc) (s t : Nat) : Prop := M 54 r = nI e ∧ M 55 r = nI s ∧ M 56 r = nI t ∧ (t + C.length < sz ∧ cC 52 53 t C M ∧ M 52 (t + C.length) = 0) ∧ (e ≠ 120 → s + E.length < sz ∧ cC 52 53 s E M ∧ M 52 (s + E.length) = 0)
def lZ (sz r : Nat) (M M' : jb_Mi) : Prop := (∀ a, (a < 50 ∨ 56 < a) → M' a = M a) ∧ (∀ j, j ≠ r → M' 54 j = M 54 j ∧ M' 55 j = M 55 j ∧ M' 56 j = M 56 j) ∧ ∀ j, j < sz → M' 52 j = M 52 j ∧ M' 53 j = M 53 j
theorem lZ_t {sz r : Nat} {M M1 M2 : jb_Mi} (h1 : lZ sz r M M1) (h2 : lZ sz r M1 M2) : lZ sz r M M2 := ⟨fun a ha => by rw [h2.1 a ha, h1.1 a ha], fun j hj => ⟨by rw [(h2.2.1 j hj).1, (h1.2.1 j hj).1], by rw [(h2.2.1 j hj).2.1, (h1.2.1 j hj).2.1], by rw [(h2.2.1 j hj).2.2, (h1.2.1 j hj).2.2]⟩, fun j hj => ⟨by rw [(h2.2.2 j hj).1, (h1.2.2 j hj).1], by rw [(h2.2.2 j hj).2, (h1.2.2 j hj).2]⟩⟩
theorem lZ_0 (sz r : Nat) (M : jb_Mi) : lZ sz r M M := ⟨fun _ _ => rfl, fun _ _ => ⟨rfl, rfl, rfl⟩, fun _ _ => ⟨rfl, rfl⟩⟩
theorem lZ_X {sz s r : Nat} {M M1 M2 : jb_Mi} (h : lZ sz r M M1) (hs : sz ≤ s) (h2 : lX s M1 M2) : lZ sz r M M2 := lZ_t h ⟨fun a ha => h2.1 a (by omega) (by omega) (by omega) (by omega), fun j _ => ⟨by rw [h2.1 54 (by decide) (by decide) (by decide) (by decide)], by rw [h2.1 55 (by decide) (by decide) (by decide) (by decide)], by rw [h2.1 56 (by decide) (by decide) (by decide) (by decide)]⟩, fun j hj => h2.2.2 j (by omega)⟩
theorem lZ_u {sz r : Nat} {M M1 : jb_Mi} (h : lZ sz r M M1) {a j : Nat} {x : Int32} (ha : a = 50 ∨ a = 51 ∨ ((a = 54 ∨ a = 55 ∨ a = 56) ∧ j = r)) : lZ sz r M (jb_up M1 a j x) := by
  refine lZ_t h ⟨fun c hc => jb_up_off (by omega), fun i hi => ⟨?_, ?_, ?_⟩, fun i _ => ⟨?_, ?_⟩⟩
  · rw [jb_up_at, if_neg (by omega)]
  · rw [jb_up_at, if_neg (by omega)]
  · rw [jb_up_at, if_neg (by omega)]
  · rw [jb_up_at, if_neg (by omega)]
  · rw [jb_up_at, if_neg (by omega)]
/-- the end of a piece -/
theorem jc_end {b : Nat → Nat} {n s p : Nat} {c : jPc} {M : jb_Mi} (h : lC b n s p c M) (hl : s + c.length < 240) (hp : ∀ k, k < c.length → 11 ≤ (pat c k).1 → (pat c k).2 ≠ 0) : ∃ x M', zf_70 0 0 M = some (x, M') ∧ lC b n (s + c.length + 1) p [] M' ∧ cC 52 53 s c M' ∧ M' 52 (s + c.length) = 0 ∧ lX s M M' := by
  obtain ⟨k1, k2, k3, k4⟩ := h
  refine ⟨nI (s + c.length), jb_up (jb_up (jb_up M 52 (s + c.length) 0) 53 (s + c.length) 0) 51 5 (nI (s + c.length + 1)), ?_, ?_, ?_, ?_, ?_⟩
  · unfold zf_70
    simp only [jb_up_off (show (51 : Nat) ≠ 52 by decide), jb_up_off (show (51 : Nat) ≠ 53 by decide), k3]
    rw [if_pos (show nI (s + c.length) < 240 from nI_lt (b := 240) hl (by decide)), jn_gd hl (by decide), jn_gd hl (by decide), nI_clamp (by omega), ← nI_succ, jb_up_at, if_pos ⟨rfl, rfl⟩, nI_pred]
  · exact ⟨tcB_of k1 (by rw [jb_up_off (by decide), jb_up_off (by decide), jb_up_off (by decide)]) (by rw [jb_up_off (by decide), jb_up_off (by decide), jb_up_off (by decide)]), by rw [jb_up_off (by decide), jb_up_off (by decide), jb_up_off (by decide), k2], by rw [jb_up_at, if_pos ⟨rfl, rfl⟩]; rfl, fun k hk => by simp at hk⟩
  · intro k hk
    rw [jb_up_off (show (52 : Nat) ≠ 51 by decide), jb_up_off (show (52 : Nat) ≠ 53 by decide), jb_up_off (show (53 : Nat) ≠ 51 by decide), jb_up_at, if_neg (by omega), jb_up_at, if_neg (by omega), jb_up_off (by decide)]
    obtain ⟨q1, q2⟩ := k4 k hk
    refine ⟨q1, q2 ?_⟩
    by_cases e : (pat c k).1 < 11
    · exact Or.inl e
    · exact Or.inr (hp k hk (by omega))
  · rw [jb_up_off (by decide), jb_up_off (by decide), jb_up_at, if_pos ⟨rfl, rfl⟩]
  · refine ⟨fun a q1 q2 q3 q4 => by rw [jb_up_off q2, jb_up_off q4, jb_up_off q3], fun j hj => by rw [jb_up_at, if_neg (by omega), jb_up_off (by decide), jb_up_off (by decide)], fun j hj => ⟨?_, ?_⟩⟩
    · rw [jb_up_off (by decide), jb_up_off (by decide), jb_up_at, if_neg (by omega)]
    · rw [jb_up_off (by decide), jb_up_at, if_neg (by omega), jb_up_off (by decide)]
/-- what the class does behind a rule -/
noncomputable def ctl (r : Nat) (M : jb_Mi) : Option ((Int32 × jb_Mi) ⊕ (Int32 × jb_Mi)) := (zf_30 (M 50 2) M).bind fun q9 => if q9 = (-1) then some (.inr ((M 51 6), M)) else (zf_79 59 M).bind fun q10 => if (jb_b2i q10.1) = 0 then some (.inr ((zf_74 (q10.2 50 3) (q10.2 50 2)), q10.2)) else some (.inl (nI (r + 1), q10.2))
def cpR (b : Nat → Nat) (n q : Nat) : lwR := if ch b n q = 40 then (match spC b n 5 (q + 1) [] with
      | .inl e => .inl e
      | .inr z => if ch b n z.1 = 41 then .inr (z.1 + 1, z.2) else .inl (1, z.1)) else .inl (1, q)
theorem spR_c (b : Nat → Nat) (n p : Nat) : spR b n p = match (if ch b n p = 120 then (.inr (p + 1, []) : lwR) else spE b n 6 (p + 1) []) with
  | .inl e => .inl e
  | .inr y => match cpR b n y.1 with
    | .inl e => .inl e
    | .inr z => .inr (z.1, y.2, z.2) := by
  unfold spR cpR
  cases (if ch b n p = 120 then (.inr (p + 1, []) : lwR) else spE b n 6 (p + 1) []) with
  | inl e => rfl
  | inr y =>
    dsimp only
    by_cases c : ch b n y.1 = 40
    · rw [if_pos c, if_pos c]
      cases spC b n 5 (y.1 + 1) [] with
      | inl e => rfl
      | inr z =>
        dsimp only
        by_cases c2 : ch b n z.1 = 41
        · rw [if_pos c2, if_pos c2]
        · rw [if_neg c2, if_neg c2]
    · rw [if_neg c, if_neg c]
theorem jc_tests {b : Nat → Nat} {n r t q : Nat} {M : jb_Mi} (hn : n ≤ 240) (hb : bB b n) (hr : r < 16) (h : lC b n t q [] M) (ht : t ≤ q) (hq : q ≤ n) : match cpR b n q with
    | .inl e => ∃ M', zf_84_J166 (nI r) M = some (.inr (zf_74 (nI e.1) (nI e.2), M')) ∧ lZ t r M M'
    | .inr z => ∃ M', zf_84_J166 (nI r) M = ctl r M' ∧ lC b n (t + z.2.length + 1) z.1 [] M' ∧ t + z.2.length + 2 ≤ z.1 ∧ M' 56 r = nI t ∧ M' 54 = M 54 ∧ M' 55 = M 55 ∧ M' 51 6 = nI (r + 1) ∧ cC 52 53 t z.2 M' ∧ M' 52 (t + z.2.length) = 0 ∧ lZ t r M M' := by
  unfold cpR
  have hM1 : lC b n t q [] (jb_up M 56 r (nI t)) := by
    obtain ⟨k1, k2, k3, k4⟩ := h
    exact ⟨tcB_of k1 (jb_up_off (by decide)) (jb_up_off (by decide)), by rw [jb_up_off (by decide), k2], by rw [jb_up_off (by decide), k3], fun k hk => by simp at hk⟩
  have hZ1 : lZ t r M (jb_up M 56 r (nI t)) := lZ_u (lZ_0 t r M) (by omega)
  have h51 : M 51 5 = nI t := by have := h.2.2.1; simp at this; exact this
  have e0 : zf_84_J166 (nI r) M = (zf_79 (nI 40) (jb_up M 56 r (nI t))).bind fun q5 => if (jb_b2i q5.1) = 0 then ((zf_84_J208 q5.2).map .inr) else (zfr_LT 40 2 1 q5.2).bind fun q6 => if (jb_b2i q6.1) = 0 then ((zf_84_J208 q6.2).map .inr) else (zf_79 41 q6.2).bind fun q7 => if (jb_b2i q7.1) = 0 then ((zf_84_J208 q7.2).map .inr) else (zf_70 0 0 q7.2).bind fun q8 => ctl r (jb_up q8.2 51 6 (nI (r + 1))) := by
    unfold zf_84_J166 ctl
    rw [jn_gd hr (by decide), nI_clamp (by omega), h51]
    simp only [← nI_succ]
    rfl
  have bad : ∀ (M1 : jb_Mi) (x p : Nat), M1 50 3 = nI x → M1 50 2 = nI p → ((zf_84_J208 M1).map Sum.inr : Option ((Int32 × jb_Mi) ⊕ (Int32 × jb_Mi))) = some (.inr (zf_74 (nI x) (nI p), M1)) := by
    intro M1 x p h1 h2
    unfold zf_84_J208
    rw [h1, h2]
    rfl
  rw [e0, jc_sign hM1 (by omega) (by decide)]
  by_cases c1 : ch b n q = 40
  · rw [if_pos c1, if_pos c1, Option.bind_some, jb_yes]
    dsimp only
    have hqn := ch_in hb (k := q) (by omega)
    have hM2 := lC_p (q := q + 1) hM1
    obtain ⟨r6, r61, r62⟩ := ((jc_LT2 (s := t) hn hb 5 (by omega) 40).2 (by omega)) (q + 1) [] _ hM2 wfc_nil (by simp [dp]) (by omega) (by simp; omega)
    have g := (spT_ok hb 5).2 (q + 1) [] wfc_nil (by simp [dp]) (by omega) (by simp)
    rw [show zfr_LT 40 2 1 (jb_up (jb_up M 56 r (nI t)) 50 2 (nI (q + 1))) = some r6 from r61, Option.bind_some]
    have hZ6 : lZ t r M r6.2 := lZ_X (lZ_u hZ1 (by omega)) (Nat.le_refl _) r62.1
    cases e : spC b n 5 (q + 1) [] with
    | inl x =>
      rw [e] at r62
      rw [r62.2.1, jb_no, bad _ _ _ r62.2.2.1 r62.2.2.2]
      exact ⟨_, rfl, hZ6⟩
    | inr z =>
      rw [e] at r62 g
      obtain ⟨a1, a2, a3, a4, a5⟩ := g
      obtain ⟨x1, x2, x3⟩ := r62
      have hl := a3.2.2.1
      simp at hl
      rw [x2, jb_yes, show (41 : Int32) = nI 41 from rfl, jc_sign x3 (by omega) (by decide)]
      dsimp only
      by_cases c2 : ch b n z.1 = 41
      · have hzn := ch_in hb (k := z.1) (by omega)
        rw [if_pos c2, if_pos c2, Option.bind_some, jb_yes]
        dsimp only
        obtain ⟨w, M8, m1, m2, m3, m4, m5⟩ := jc_end (lC_p (q := z.1 + 1) x3) (by omega) (fun k hk => a3.2.2.2 k (by simp) hk)
        rw [m1, Option.bind_some]
        dsimp only
        have f54 : ∀ a, a = 54 ∨ a = 55 ∨ a = 56 → M8 a = jb_up M 56 r (nI t) a := fun a ha => by
          rw [m5.1 a (by omega) (by omega) (by omega) (by omega), jb_up_off (by omega), x1.1 a (by omega) (by omega) (by omega) (by omega), jb_up_off (by omega)]
        refine ⟨_, rfl, ?_, by omega, ?_, ?_, ?_, ?_, ?_, ?_, ?_⟩
        · obtain ⟨k1, k2, k3, k4⟩ := m2
          exact ⟨tcB_of k1 (jb_up_off (by decide)) (jb_up_off (by decide)), by rw [jb_up_off (by decide), k2], by rw [jb_up_at, if_neg (by omega), k3], fun k hk => by simp at hk⟩
        · rw [jb_up_off (by decide), f54 56 (by omega), jb_up_at, if_pos ⟨rfl, rfl⟩]
        · rw [jb_up_off (by decide), f54 54 (by omega), jb_up_off (by decide)]
        · rw [jb_up_off (by decide), f54 55 (by omega), jb_up_off (by decide)]
        · rw [jb_up_at, if_pos ⟨rfl, rfl⟩]
        · intro k hk
          rw [jb_up_off (by decide), jb_up_off (by decide)]
          exact m3 k hk
        · rw [jb_up_off (by decide), m4]
        · exact lZ_u (lZ_X (lZ_u hZ6 (by omega)) (Nat.le_refl _) m5) (by omega)
      · rw [if_neg c2, if_neg c2, Option.bind_some]
        have e75 : zf_75 (nI 1) r6.2 = (false, jb_up r6.2 50 3 (nI 1)) := rfl
        rw [e75, jb_no]
        dsimp only
        rw [bad _ 1 z.1 (by rw [jb_up_at, if_pos ⟨rfl, rfl⟩]) (by rw [jb_up_at, if_neg (by omega), x3.2.1])]
        exact ⟨_, rfl, lZ_u hZ6 (by omega)⟩
  · rw [if_neg c1, if_neg c1, Option.bind_some]
    have e75 : zf_75 (nI 1) (jb_up M 56 r (nI t)) = (false, jb_up (jb_up M 56 r (nI t)) 50 3 (nI 1)) := rfl
    rw [e75, jb_no]
    dsimp only
    rw [bad _ 1 q (by rw [jb_up_at, if_pos ⟨rfl, rfl⟩]) (by rw [jb_up_at, if_neg (by omega), hM1.2.1])]
    exact ⟨_, rfl, lZ_u hZ1 (by omega)⟩
