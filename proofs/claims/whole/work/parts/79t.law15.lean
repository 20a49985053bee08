/-! THE LAW: the case -/
def cq4 (M : jb_Mi) : Nat → jb_Mi
  | 0 => M
  | k + 1 => jb_up (jb_up (jb_up (jb_up (cq4 M k) 91 k (cq4 M k 86 k)) 92 k (cq4 M k 87 k)) 93 k (cq4 M k 88 k)) 94 k (cq4 M k 89 k)
theorem cq4_ok (M : jb_Mi) : ∀ k, (∀ a, (a < 91 ∨ 94 < a) → cq4 M k a = M a) ∧ ∀ j, j < k → cq4 M k 91 j = M 86 j ∧ cq4 M k 92 j = M 87 j ∧ cq4 M k 93 j = M 88 j ∧ cq4 M k 94 j = M 89 j
  | 0 => ⟨fun _ _ => rfl, fun j hj => by omega⟩
  | k + 1 => by
    obtain ⟨i1, i2⟩ := cq4_ok M k
    refine ⟨fun a ha => ?_, fun j hj => ?_⟩
    · show jb_up (jb_up (jb_up (jb_up (cq4 M k) 91 k (cq4 M k 86 k)) 92 k (cq4 M k 87 k)) 93 k (cq4 M k 88 k)) 94 k (cq4 M k 89 k) a = M a
      rw [jb_up_off (by omega), jb_up_off (by omega), jb_up_off (by omega), jb_up_off (by omega), i1 a ha]
    · have g : ∀ a, cq4 M (k + 1) a j = jb_up (jb_up (jb_up (jb_up (cq4 M k) 91 k (cq4 M k 86 k)) 92 k (cq4 M k 87 k)) 93 k (cq4 M k 88 k)) 94 k (cq4 M k 89 k) a j := fun _ => rfl
      rw [g, g, g, g]
      simp only [jb_up_at]
      by_cases e : j = k
      · subst e
        simp [i1 86, i1 87, i1 88, i1 89]
      · simp [e]
        exact i2 j (by omega)
theorem jd_take {u sz : Nat} {M : jb_Mi} (h12 : M 79 12 = nI u) (hu : u ≤ 16) (h10 : M 79 10 = nI sz) (hs : sz ≤ 240) : ∃ M', zf_205_J71 1 M = some (nI u, M') ∧ M' 79 4 = 0 ∧ M' 79 13 = nI u ∧ (∀ j, j ≠ 4 → j ≠ 13 → M' 79 j = M 79 j) ∧ (∀ a, a ≠ 79 → (a < 90 ∨ 94 < a) → M' a = M a) ∧ (∀ j, j < sz → M' 90 j = M 84 j) ∧ ∀ j, j < u → M' 91 j = M 86 j ∧ M' 92 j = M 87 j ∧ M' 93 j = M 88 j ∧ M' 94 j = M 89 j := by
  have f12 : jb_up M 79 4 0 79 12 = nI u := by rw [jb_up_at, if_neg (by omega), h12]
  have e0 : zf_205_J71 1 M = jb_lp zf_205_H95 (0, jb_up (jb_up M 79 4 0) 79 13 (nI u)) := by
    unfold zf_205_J71
    rw [if_neg (by decide), f12]
  have m0 : ∀ a, a ≠ 79 → jb_up (jb_up M 79 4 0) 79 13 (nI u) a = M a := fun a ha => by rw [jb_up_off ha, jb_up_off ha]
  have m1 : ∀ j, j ≠ 4 → j ≠ 13 → jb_up (jb_up M 79 4 0) 79 13 (nI u) 79 j = M 79 j := fun j h1 h2 => by rw [jb_up_at, if_neg (by omega), jb_up_at, if_neg (by omega)]
  have m4 : jb_up (jb_up M 79 4 0) 79 13 (nI u) 79 4 = 0 := by rw [jb_up_at, if_neg (by omega), jb_up_at, if_pos ⟨rfl, rfl⟩]
  have m13 : jb_up (jb_up M 79 4 0) 79 13 (nI u) 79 13 = nI u := by rw [jb_up_at, if_pos ⟨rfl, rfl⟩]
  generalize jb_up (jb_up M 79 4 0) 79 13 (nI u) = M0 at e0 m0 m1 m4 m13
  have g10 : M0 79 10 = nI sz := by rw [m1 10 (by decide) (by decide), h10]
  have g12 : M0 79 12 = nI u := by rw [m1 12 (by decide) (by decide), h12]
  obtain ⟨k1, k2⟩ := cpk_ok M0 (a1 := 84) (a2 := 90) (by decide) sz
  have e1 : jb_lp zf_205_H95 (nI 0, cpk M0 84 90 0) = jb_lp zf_205_H95 (nI sz, cpk M0 84 90 sz) := by
    refine jb_for (fun k => (nI k, cpk M0 84 90 k)) sz ?_
    intro k hk
    have hx : cpk M0 84 90 k 79 10 = nI sz := by rw [(cpk_ok M0 (a1 := 84) (a2 := 90) (by decide) k).1 79 (by decide), g10]
    unfold zf_205_H95
    dsimp only
    rw [if_pos (show nI k < cpk M0 84 90 k 79 10 by rw [hx]; exact nI_lt hk (by omega)), jn_gd (by omega) (by decide), jn_gd (by omega) (by decide), nI_clamp (by omega), nI_succ]
    rfl
  obtain ⟨q1, q2⟩ := cq4_ok (cpk M0 84 90 sz) u
  have h79 : cq4 (cpk M0 84 90 sz) u 79 = M0 79 := by rw [q1 79 (by decide), k1 79 (by decide)]
  have e2 : jb_lp zf_205_H123 (nI 0, cq4 (cpk M0 84 90 sz) 0) = some (nI u, cq4 (cpk M0 84 90 sz) u) := by
    refine jb_forx (fun k => (nI k, cq4 (cpk M0 84 90 sz) k)) u ?_ ?_
    · intro k hk
      have hx : cq4 (cpk M0 84 90 sz) k 79 12 = nI u := by rw [(cq4_ok (cpk M0 84 90 sz) k).1 79 (by decide), k1 79 (by decide), g12]
      unfold zf_205_H123
      dsimp only
      rw [if_pos (show nI k < cq4 (cpk M0 84 90 sz) k 79 12 by rw [hx]; exact nI_lt hk (by omega)), nI_clamp (by omega)]
      simp only [jb_up_off (show (87 : Nat) ≠ 91 by decide), jb_up_off (show (88 : Nat) ≠ 91 by decide), jb_up_off (show (88 : Nat) ≠ 92 by decide), jb_up_off (show (89 : Nat) ≠ 91 by decide), jb_up_off (show (89 : Nat) ≠ 92 by decide), jb_up_off (show (89 : Nat) ≠ 93 by decide)]
      rw [jn_gd (by omega) (by decide), jn_gd (by omega) (by decide), jn_gd (by omega) (by decide), jn_gd (by omega) (by decide), jn_gd (by omega) (by decide), jn_gd (by omega) (by decide), jn_gd (by omega) (by decide), jn_gd (by omega) (by decide), nI_succ]
      rfl
    · unfold zf_205_H123
      dsimp only
      rw [if_neg (show ¬ nI u < cq4 (cpk M0 84 90 sz) u 79 12 by rw [h79, g12]; exact nI_nlt (Nat.le_refl _) (by omega)), h79, g12]
  have e3 : jb_lp zf_205_H95 (nI sz, cpk M0 84 90 sz) = some (nI u, cq4 (cpk M0 84 90 sz) u) := by
    refine jb_lp_inr ?_
    unfold zf_205_H95
    dsimp only
    rw [if_neg (show ¬ nI sz < cpk M0 84 90 sz 79 10 by rw [k1 79 (by decide), g10]; exact nI_nlt (Nat.le_refl _) (by omega)), show jb_lp zf_205_H123 (0, cpk M0 84 90 sz) = some (nI u, cq4 (cpk M0 84 90 sz) u) from e2]
    rfl
  refine ⟨cq4 (cpk M0 84 90 sz) u, by rw [e0, show jb_lp zf_205_H95 (0, M0) = _ from e1, e3], by rw [h79, m4], by rw [h79, m13], fun j h1 h2 => by rw [h79, m1 j h1 h2], fun a h1 h2 => by rw [q1 a (by omega), k1 a (by omega), m0 a h1], fun j hj => by rw [q1 90 (by decide), k2 j hj, m0 84 (by decide)], fun j hj => ?_⟩
  obtain ⟨w1, w2, w3, w4⟩ := q2 j hj
  rw [w1, w2, w3, w4, k1 86 (by decide), k1 87 (by decide), k1 88 (by decide), k1 89 (by decide), m0 86 (by decide), m0 87 (by decide), m0 88 (by decide), m0 89 (by decide)]
  exact ⟨rfl, rfl, rfl, rfl⟩
/-- the class takes its draft over -/
theorem jn_gc {α : Type} {m k : Nat} {x : Option α} (h : m ≤ k) (hk : k < 2 ^ 31) : jb_gc 0 0 (nI m) k k x = x := by
  unfold jb_gc
  rw [nI_clamp (by omega)]
  exact if_pos ⟨by decide, by decide, nI_pos (by omega), by show 0 + m ≤ k; omega, by show 0 + m ≤ k; omega⟩
noncomputable def cpL (sz nr : Nat) (M : jb_Mi) : jb_Mi := jb_up (jb_up (jb_cp (jb_cp (jb_cp (jb_cp (jb_cp M 52 45 0 0 sz) 53 46 0 0 sz) 54 47 0 0 nr) 55 48 0 0 nr) 56 49 0 0 nr) 44 5 (nI sz)) 44 6 (nI nr)
theorem jc_take {nr sz : Nat} {M : jb_Mi} (h5 : M 51 5 = nI sz) (h6 : M 51 6 = nI nr) (hs : sz ≤ 240) (hr : nr ≤ 16) : zf_72 M = some (cpL sz nr M) := by
  have c1 : (nI sz).toNatClampNeg = sz := nI_clamp (by omega)
  have c2 : (nI nr).toNatClampNeg = nr := nI_clamp (by omega)
  unfold zf_72 cpL
  simp only [jb_up_off (show (51 : Nat) ≠ 44 by decide), jb_cp_off (show (51 : Nat) ≠ 45 by decide), jb_cp_off (show (51 : Nat) ≠ 46 by decide), jb_cp_off (show (51 : Nat) ≠ 47 by decide), jb_cp_off (show (51 : Nat) ≠ 48 by decide), jb_cp_off (show (51 : Nat) ≠ 49 by decide), h5, h6, c1, c2]
  rw [jn_gc hs (by decide), jn_gc hs (by decide), jn_gc hr (by decide), jn_gc hr (by decide), jn_gc hr (by decide)]
def drK (M : jb_Mi) (sz r e : Nat) (E C : jPc) (s t : Nat) : Prop := M 47 r = nI e ∧ M 48 r = nI s ∧ M 49 r = nI t ∧ (t + C.length < sz ∧ cC 45 46 t C M ∧ M 45 (t + C.length) = 0) ∧ (e ≠ 120 → s + E.length < sz ∧ cC 45 46 s E M ∧ M 45 (s + E.length) = 0)
theorem cpL_ok (sz nr : Nat) (M : jb_Mi) : (∀ a, (a < 44 ∨ 49 < a) → cpL sz nr M a = M a) ∧ cpL sz nr M 44 5 = nI sz ∧ cpL sz nr M 44 6 = nI nr ∧ (∀ j, j < sz → cpL sz nr M 45 j = M 52 j ∧ cpL sz nr M 46 j = M 53 j) ∧ ∀ j, j < nr → cpL sz nr M 47 j = M 54 j ∧ cpL sz nr M 48 j = M 55 j ∧ cpL sz nr M 49 j = M 56 j := by
  unfold cpL
  refine ⟨fun a ha => ?_, ?_, ?_, fun j hj => ⟨?_, ?_⟩, fun j hj => ⟨?_, ?_, ?_⟩⟩
  · rw [jb_up_off (by omega), jb_up_off (by omega), jb_cp_off (by omega), jb_cp_off (by omega), jb_cp_off (by omega), jb_cp_off (by omega), jb_cp_off (by omega)]
  · rw [jb_up_at, if_neg (by omega), jb_up_at, if_pos ⟨rfl, rfl⟩]
  · rw [jb_up_at, if_pos ⟨rfl, rfl⟩]
  · rw [jb_up_off (by omega), jb_up_off (by omega), jb_cp_off (by omega), jb_cp_off (by omega), jb_cp_off (by omega), jb_cp_off (by omega), jb_cp_at, if_pos ⟨rfl, hj⟩]
  · rw [jb_up_off (by omega), jb_up_off (by omega), jb_cp_off (by omega), jb_cp_off (by omega), jb_cp_off (by omega), jb_cp_at, if_pos ⟨rfl, hj⟩, jb_cp_off (by omega)]
  · rw [jb_up_off (by omega), jb_up_off (by omega), jb_cp_off (by omega), jb_cp_off (by omega), jb_cp_at, if_pos ⟨rfl, hj⟩, jb_cp_off (by omega), jb_cp_off (by omega)]
  · rw [jb_up_off (by omega), jb_up_off (by omega), jb_cp_off (by omega), jb_cp_at, if_pos ⟨rfl, hj⟩, jb_cp_off (by omega), jb_cp_off (by omega), jb_cp_off (by omega)]
  · rw [jb_up_off (by omega), jb_up_off (by omega), jb_cp_at, if_pos ⟨rfl, hj⟩, jb_cp_off (by omega), jb_cp_off (by omega), jb_cp_off (by omega), jb_cp_off (by omega)]
theorem drK_of {M M' : jb_Mi} {sz r e s t : Nat} {E C : jPc} (h : drC M sz r e E C s t) (h47 : M' 47 r = M 54 r ∧ M' 48 r = M 55 r ∧ M' 49 r = M 56 r) (hc : ∀ j, j < sz → M' 45 j = M 52 j ∧ M' 46 j = M 53 j) : drK M' sz r e E C s t := by
  obtain ⟨h1, h2, h3, ⟨h4, h5, h6⟩, h7⟩ := h
  refine ⟨by rw [h47.1, h1], by rw [h47.2.1, h2], by rw [h47.2.2, h3], ⟨h4, fun k hk => ?_, by rw [(hc _ h4).1, h6]⟩, fun y => ?_⟩
  · rw [(hc _ (by omega)).1, (hc _ (by omega)).2]
    exact h5 k hk
  · obtain ⟨a1, a2, a3⟩ := h7 y
    refine ⟨a1, fun k hk => ?_, by rw [(hc _ a1).1, a3]⟩
    rw [(hc _ (by omega)).1, (hc _ (by omega)).2]
    exact a2 k hk
theorem okR_of {M M2 M3 : jb_Mi} {sz sz' r e s t f : Nat} {E C : jPc} (h : drK M2 sz r e E C s t) (h4 : ∀ a, 45 ≤ a → a ≤ 49 → M a = M2 a) (h' : drD M3 sz' r e E C f) (hs' : sz' ≤ 240) (h9 : M 91 r = M3 86 r ∧ M 92 r = M3 87 r ∧ M 93 r = M3 88 r ∧ M 94 r = M3 89 r) (hc : ∀ j, j < sz' → M 90 j = M3 84 j) (ho : okE e E C) : okR M sz r e E C s t f := by
  obtain ⟨h1, h2, h3, ⟨k4, h5, h6⟩, h7⟩ := h
  obtain ⟨d1, d2, d3, d4, d5, d6, d7⟩ := h'
  obtain ⟨o1, o2, o3, o4, o5⟩ := ho
  refine ⟨o5, by rw [h4 47 (by decide) (by decide), h1], by rw [h9.1, d1], by rw [h4 48 (by decide) (by decide), h2], by rw [h4 49 (by decide) (by decide), h3], by rw [h9.2.1, d2], by rw [h9.2.2.1, d3], by rw [h9.2.2.2, d4], by omega, ⟨k4, fun k hk => ?_, by rw [h4 45 (by decide) (by decide), h6], fun k hk => ?_, o1, o2⟩, fun y => ?_⟩
  · rw [h4 45 (by decide) (by decide), h4 46 (by decide) (by decide)]
    exact h5 k hk
  · rw [hc _ (by omega)]
    exact d7 k hk
  · obtain ⟨a1, a2, a3⟩ := h7 y
    refine ⟨a1, fun k hk => ?_, by rw [h4 45 (by decide) (by decide), a3], fun k hk => ?_, o3 y⟩
    · rw [h4 45 (by decide) (by decide), h4 46 (by decide) (by decide)]
      exact a2 k hk
    · rw [hc _ (by omega)]
      exact d6 k hk
theorem jInv_lw {n : Nat} {M M' : jb_Mi} {N N' : jb_Ml} (h : jInv n M N) (hs : ∀ a, a ≠ 2 → a ≠ 79 → (a < 44 ∨ 56 < a) → (a < 84 ∨ 94 < a) → M' a = M a) (hb : jTp [] M') (hl : jLx M') (h57 : M' 79 57 = M 79 57) : jInv (n + 1) M' N' := by
  obtain ⟨⟨S, hC, hD, hR, hT⟩, h2, -, ⟨R, h5⟩, h6⟩ := h
  refine ⟨⟨S, jC_of hC (fun a q1 q2 => hs a (by omega) (by omega) (by omega) (by omega)), jD_of hD (hs 80 (by decide) (by decide) (by decide) (by decide)), hR, by omega⟩, ?_, ⟨[], hb⟩, ⟨R, jRo_of h5 (hs 36 (by decide) (by decide) (by decide) (by decide)) (hs 98 (by decide) (by decide) (by decide) (by decide)) (hs 35 (by decide) (by decide) (by decide) (by decide)) (hs 97 (by decide) (by decide) (by decide) (by decide))⟩, hl, by rw [hs 77 (by decide) (by decide) (by decide) (by decide)]; exact h6.2⟩
  unfold jKe at h2 ⊢
  rw [hs 1 (by decide) (by decide) (by decide) (by decide), h57]
  rcases h2 with h2 | ⟨b1, b2, K, b3, b4, b5, b6⟩
  · exact Or.inl h2
  · exact Or.inr ⟨b1, b2, K, jC_of b3 (fun a q1 q2 => hs a (by omega) (by omega) (by omega) (by omega)), jD_of b4 (hs 82 (by decide) (by decide) (by decide) (by decide)), b5, by omega⟩
/-- what the class keeps of the law -/
def lkC (F : (Nat × Nat) ⊕ lwU) (M M2 : jb_Mi) : Prop := match F with
  | .inl _ => ∀ a, 44 ≤ a → a ≤ 49 → M2 a = M a
  | .inr u => M2 44 6 = nI u.length ∧ ∃ sz, sz ≤ 240 ∧ M2 44 5 = nI sz ∧ ∀ r, r < u.length → ∃ s t, drK M2 sz r (ug u r).1 (ug u r).2.1 (ug u r).2.2 s t
theorem ca_law {n : Nat} {M : jb_Mi} {N : jb_Ml} (hn : n < 512) (h : jInv n M N) (a1 : Int32) : ∃ (r : Int32) (M1 : jb_Mi) (M2 : jb_Mi), zf_130 a1 M = some (r, M1) ∧ M1 0 = M 0 ∧ zf_205 a1 M1 = some (r, M2) ∧ M2 0 = M 0 ∧ jInv (n + 1) M2 N := by
  obtain ⟨-, -, ⟨bs, hb⟩, -, hLw⟩ := id h
  obtain ⟨b1, b2, b3, b4⟩ := hb
  by_cases c1 : zf_23 a1 1 240 = false
  · refine ⟨-1, M, M, ?_, rfl, ?_, rfl, jInv_mono h⟩
    · unfold zf_130; rw [c1, jb_no]
    · unfold zf_205; rw [show zf_164 a1 1 240 = false from c1, jb_no]
  have c1' : zf_23 a1 1 240 = true := by simpa using c1
  obtain ⟨m, hm1, hm2, rfl⟩ := jn_in1 (x := a1) 1 240 (by decide) (by decide) c1
  by_cases c4 : bs.length < m
  · have c5 : nI bs.length < nI m := nI_lt c4 (by omega)
    refine ⟨-1, M, M, ?_, rfl, ?_, rfl, jInv_mono h⟩
    · unfold zf_130 zf_116
      rw [c1', jb_yes, if_pos (show M 2 1 < nI m by rw [b2]; exact c5), jb_no]
    · unfold zf_205
      rw [show zf_164 (nI m) 1 240 = true from c1', jb_yes, if_pos (show M 79 4 < nI m by rw [b3]; exact c5)]
  have c5 : ¬ nI bs.length < nI m := nI_nlt (by omega) (by omega)
  -- the class
  have e130 : zf_130 (nI m) M = (zf_84 (jb_up M 2 1 (nI m))).bind fun q1 => if 0 < q1.1 then (zf_72 (zf_117 0 q1.2)).bind fun q2 => some (q1.1, q2) else some (q1.1, (zf_117 0 q1.2)) := by
    unfold zf_130 zf_116
    rw [c1', jb_yes, if_neg (show ¬ M 2 1 < nI m by rw [b2]; exact c5), jb_yes, cutn M b2 b1 (by omega)]
  have hbB : bB (fun k => bs.getD k 0) m := ⟨by omega, fun k hk => (b4 k (by omega)).1⟩
  have f0 : ∀ a, a ≠ 50 → a ≠ 51 → jb_up (jb_up (jb_up (jb_up (jb_up M 2 1 (nI m)) 50 2 0) 50 3 0) 51 5 0) 51 6 0 a = jb_up M 2 1 (nI m) a := fun a q1 q2 => by rw [jb_up_off q2, jb_up_off q2, jb_up_off q1, jb_up_off q1]
  have g0 : jb_up (jb_up (jb_up (jb_up (jb_up M 2 1 (nI m)) 50 2 0) 50 3 0) 51 5 0) 51 6 0 50 2 = nI 0 ∧ jb_up (jb_up (jb_up (jb_up (jb_up M 2 1 (nI m)) 50 2 0) 50 3 0) 51 5 0) 51 6 0 51 5 = nI 0 := by
    refine ⟨?_, ?_⟩
    · rw [jb_up_off (by decide), jb_up_off (by decide), jb_up_at, if_neg (by omega), jb_up_at, if_pos ⟨rfl, rfl⟩]
      rfl
    · rw [jb_up_at, if_neg (by omega), jb_up_at, if_pos ⟨rfl, rfl⟩]
      rfl
  have e84 : zf_84 (jb_up M 2 1 (nI m)) = jb_lp zf_84_H28 (0, jb_up (jb_up (jb_up (jb_up (jb_up M 2 1 (nI m)) 50 2 0) 50 3 0) 51 5 0) 51 6 0) := rfl
  generalize jb_up (jb_up (jb_up (jb_up (jb_up M 2 1 (nI m)) 50 2 0) 50 3 0) 51 5 0) 51 6 0 = M0 at f0 g0 e84
  have hTC : tcB (fun k => bs.getD k 0) m M0 := by
    refine ⟨by omega, ?_, fun k hk => ⟨(b4 k (by omega)).1, ?_⟩⟩
    · rw [f0 2 (by decide) (by decide), jb_up_at, if_pos ⟨rfl, rfl⟩]
    · rw [f0 3 (by decide) (by decide), jb_up_off (by decide), (b4 k (by omega)).2.1]
  obtain ⟨⟨r, M1⟩, r1, r2, r3, r4⟩ := jc_law hm2 17 0 0 [] M0 hTC g0.1 g0.2 (Nat.le_refl _) (by omega) rfl (by omega) (fun r hr => by simp at hr)
  have okF := spL_ok hbB 17 0 [] (by omega) rfl (fun r hr => by simp at hr)
  generalize hF : spL (fun k => bs.getD k 0) m 17 0 [] = F at r2 r4 okF
  dsimp only at r2 r3 r4
  subst r2
  have f1 : ∀ a, a ≠ 2 → (a < 50 ∨ 56 < a) → M1 a = M a := fun a q0 q1 => by rw [r3 a q1, f0 a (by omega) (by omega), jb_up_off q0]
  have e2 : M1 2 1 = nI m := by rw [r3 2 (by decide), f0 2 (by decide) (by decide), jb_up_at, if_pos ⟨rfl, rfl⟩]
  have ecl : ∃ M2, zf_130 (nI m) M = some (lrr F, M2) ∧ (∀ a, a ≠ 2 → (a < 44 ∨ 56 < a) → M2 a = M a) ∧ M2 2 1 = 0 ∧ lkC F M M2 := by
    rw [e130, e84, show jb_lp zf_84_H28 (0, M0) = some (lrr F, M1) from r1, Option.bind_some]
    dsimp only
    rw [cut0 M1 e2 (by omega)]
    cases F with
    | inl y =>
      rw [if_neg (show ¬ (0 : Int32) < lrr (.inl y) from zf_74_neg okF.1 (by have := okF.2; omega))]
      exact ⟨jb_up M1 2 1 0, rfl, fun a q0 q1 => by rw [jb_up_off q0, f1 a q0 (by omega)], by rw [jb_up_at, if_pos ⟨rfl, rfl⟩], fun a q1 q2 => by rw [jb_up_off (by omega), f1 a (by omega) (by omega)]⟩
    | inr u =>
      obtain ⟨t1, sz, t2, t3, t4⟩ := r4
      obtain ⟨o1, o2, o3⟩ := okF
      rw [if_pos (show (0 : Int32) < lrr (.inr u) from nI_lt (a := 0) o1 (by omega)), jc_take (sz := sz) (nr := u.length) (by rw [jb_up_off (by decide), t3]) (by rw [jb_up_off (by decide), t1]) t2 o2, Option.bind_some]
      obtain ⟨p1, p2, p3, p4, p5⟩ := cpL_ok sz u.length (jb_up M1 2 1 0)
      refine ⟨cpL sz u.length (jb_up M1 2 1 0), rfl, fun a q0 q1 => by rw [p1 a (by omega), jb_up_off q0, f1 a q0 (by omega)], by rw [p1 2 (by decide), jb_up_at, if_pos ⟨rfl, rfl⟩], p3, sz, t2, p2, fun r hr => ?_⟩
      obtain ⟨s, t, d⟩ := t4 r hr
      refine ⟨s, t, drK_of d ?_ (fun j hj => ?_)⟩
      · rw [(p5 r hr).1, (p5 r hr).2.1, (p5 r hr).2.2, jb_up_off (by decide), jb_up_off (by decide), jb_up_off (by decide)]
        exact ⟨rfl, rfl, rfl⟩
      · rw [(p4 j hj).1, (p4 j hj).2, jb_up_off (by decide), jb_up_off (by decide)]
        exact ⟨rfl, rfl⟩
  obtain ⟨M2, s1, s2, s3, s4⟩ := ecl
  have e79 : M2 79 = M 79 := s2 79 (by decide) (by decide)
  -- the reference
  have q79 : ∀ a, a ≠ 79 → zf_204 (nI m) M2 a = M2 a := fun a ha => by
    unfold zf_204
    rw [jb_up_off ha, jb_up_off ha, jb_up_off ha, jb_up_off ha]
  have q5 : zf_204 (nI m) M2 79 5 = nI 0 ∧ zf_204 (nI m) M2 79 6 = nI m ∧ zf_204 (nI m) M2 79 10 = nI 0 ∧ zf_204 (nI m) M2 79 12 = nI 0 ∧ ∀ j, j ≠ 5 → j ≠ 6 → j ≠ 10 → j ≠ 12 → zf_204 (nI m) M2 79 j = M 79 j := by
    unfold zf_204
    refine ⟨?_, ?_, ?_, ?_, fun j h1 h2 h3 h4 => ?_⟩
    · rw [jb_up_at, if_neg (by omega), jb_up_at, if_neg (by omega), jb_up_at, if_neg (by omega), jb_up_at, if_pos ⟨rfl, rfl⟩]
      rfl
    · rw [jb_up_at, if_neg (by omega), jb_up_at, if_neg (by omega), jb_up_at, if_pos ⟨rfl, rfl⟩]
    · rw [jb_up_at, if_neg (by omega), jb_up_at, if_pos ⟨rfl, rfl⟩]
      rfl
    · rw [jb_up_at, if_pos ⟨rfl, rfl⟩]
      rfl
    · rw [jb_up_at, if_neg (by omega), jb_up_at, if_neg (by omega), jb_up_at, if_neg (by omega), jb_up_at, if_neg (by omega), e79]
  obtain ⟨q51, q52, q53, q54, q55⟩ := q5
  have hTD : tdB (fun k => bs.getD k 0) m (zf_204 (nI m) M2) := ⟨by omega, q52, fun k hk => ⟨(b4 k (by omega)).1, by rw [q79 83 (by decide), s2 83 (by decide) (by decide), (b4 k (by omega)).2.2]⟩⟩
  obtain ⟨q, z1, g, M3, z2, z3, z4⟩ := jd_law hm2 17 0 0 [] (zf_204 (nI m) M2) hTD q51 q53 q54 (Nat.le_refl _) (by omega) rfl (by omega) (fun r hr => by simp at hr)
  rw [hF] at z3
  have e205 : zf_205 (nI m) M2 = jb_lp zf_205_H31 (jb_b2i q.1, q.2) := by
    unfold zf_205
    rw [show zf_164 (nI m) 1 240 = true from c1', jb_yes, if_neg (show ¬ M2 79 4 < nI m by rw [e79, b3]; exact c5), z1, Option.bind_some]
  have f3 : ∀ a, a ≠ 2 → a ≠ 79 → (a < 44 ∨ 56 < a) → (a < 84 ∨ 89 < a) → M3 a = M a := fun a q0 q1 q2 q3 => by rw [z4.1 a (by omega), q79 a q1, s2 a q0 q2]
  have f3' : ∀ a, a < 79 → M3 a = M2 a := fun a q0 => by rw [z4.1 a (by omega), q79 a (by omega)]
  have f79 : ∀ j, j = 13 ∨ j = 57 → M3 79 j = M 79 j := fun j hj => by rw [z4.2 j (by omega) (by omega) (by omega) (by omega) (by omega) (by omega) (by omega), q55 j (by omega) (by omega) (by omega) (by omega)]
  cases F with
  | inl y =>
    obtain ⟨y1, y2⟩ := z3
    subst y1
    have e3 : zf_205_J71 0 M3 = some (lrr (.inl y), jb_up M3 79 4 0) := by
      unfold zf_205_J71
      rw [if_pos rfl, jb_up_at, if_neg (by omega), y2]
      rfl
    refine ⟨lrr (.inl y), M2, jb_up M3 79 4 0, s1, s2 0 (by decide) (by decide), by rw [e205, z2 _ e3], by rw [jb_up_off (by decide), f3 0 (by decide) (by decide) (by decide) (by decide)], ?_⟩
    refine jInv_lw h (fun a h1 h2 h3 h4 => by rw [jb_up_off h2, f3 a h1 h2 h3 (by omega)]) (jTp_0 (by rw [jb_up_off (by decide), f3' 2 (by decide), s3]) (by rw [jb_up_at, if_pos ⟨rfl, rfl⟩])) ?_ (by rw [jb_up_at, if_neg (by omega), f79 57 (by omega)])
    refine (jLw_of hLw (fun a ha _ => ?_) (by rw [jb_up_at, if_neg (by omega), f79 13 (by omega)])).1
    rw [jb_up_off (by omega)]
    by_cases z : 44 ≤ a ∧ a ≤ 49
    · rw [f3' a (by omega), s4 a z.1 z.2]
    · exact f3 a (by omega) (by omega) (by omega) (by omega)
  | inr u =>
    obtain ⟨y1, y2, sz', y3, y4, y5⟩ := z3
    obtain ⟨t1, sz, t2, t3, t4⟩ := s4
    obtain ⟨o1, o2, o3⟩ := okF
    subst y1
    obtain ⟨M4, m1, m2, m3, m4, m5, m6, m7⟩ := jd_take y2 o2 y4 y3
    refine ⟨lrr (.inr u), M2, M4, s1, s2 0 (by decide) (by decide), by rw [e205, z2 _ m1]; rfl, by rw [m5 0 (by decide) (by decide), f3 0 (by decide) (by decide) (by decide) (by decide)], ?_⟩
    have f4 : ∀ a, a < 79 → M4 a = M2 a := fun a q0 => by rw [m5 a (by omega) (by omega), f3' a q0]
    refine jInv_lw h (fun a h1 h2 h3 h4 => by rw [m5 a h2 (by omega), f3 a h1 h2 h3 (by omega)]) (jTp_0 (by rw [f4 2 (by decide), s3]) m2) ?_ (by rw [m4 57 (by decide) (by decide), f79 57 (by omega)])
    refine ⟨u.length, sz, o2, t2, by rw [f4 44 (by decide), t1], m3, by rw [f4 44 (by decide), t3], fun r hr => ?_⟩
    obtain ⟨s, t, d⟩ := t4 r hr
    obtain ⟨f, d'⟩ := y5 r hr
    exact ⟨_, _, _, s, t, f, okR_of d (fun a h1 h2 => f4 a (by omega)) d' y3 (m7 r hr) m6 (o3 r hr)⟩
