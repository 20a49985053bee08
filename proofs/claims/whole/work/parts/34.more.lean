/-! more cases -/
theorem jD_thing {S : jSt} {M : jb_Mi} (h : jD 80 S M) {t i x y w : Nat} (ht : t < 24) (hw : 0 < w) : jD 80 (jset (jset (jset (jset S 3 t i) 4 t x) 5 t y) 6 t w) (jb_up (jb_up (jb_up (jb_up M 80 (18 + t) (nI i)) 80 (42 + t) (nI x)) 80 (66 + t) (nI y)) 80 (90 + t) (nI w)) := by
  obtain ⟨c1, c2, c3, c4⟩ := h
  refine ⟨fun j hj => ?_, fun j hj => ?_, fun j hj => ?_, ?_⟩
  · have q := c1 j hj
    simp only [jb_up_at, jset, true_and]
    simp [show ¬ (j = 90 + t) by omega, show ¬ (j = 66 + t) by omega, show ¬ (j = 42 + t) by omega, show ¬ (j = 18 + t) by omega, show ¬ (6 + j = 90 + t) by omega, show ¬ (6 + j = 66 + t) by omega, show ¬ (6 + j = 42 + t) by omega, show ¬ (6 + j = 18 + t) by omega, show ¬ (12 + j = 90 + t) by omega, show ¬ (12 + j = 66 + t) by omega, show ¬ (12 + j = 42 + t) by omega, show ¬ (12 + j = 18 + t) by omega]
    exact q
  · have q := c2 j hj
    simp only [jb_up_at, jset, true_and]
    by_cases e : j = t
    · subst e
      simp [show ¬ (18 + j = 90 + j) by omega, show ¬ (18 + j = 66 + j) by omega, show ¬ (18 + j = 42 + j) by omega, show ¬ (42 + j = 90 + j) by omega, show ¬ (42 + j = 66 + j) by omega, show ¬ (66 + j = 90 + j) by omega]
      omega
    · simp [e, show ¬ (18 + j = 90 + t) by omega, show ¬ (18 + j = 66 + t) by omega, show ¬ (18 + j = 42 + t) by omega, show ¬ (18 + j = 18 + t) by omega, show ¬ (42 + j = 90 + t) by omega, show ¬ (42 + j = 66 + t) by omega, show ¬ (42 + j = 42 + t) by omega, show ¬ (42 + j = 18 + t) by omega, show ¬ (66 + j = 90 + t) by omega, show ¬ (66 + j = 66 + t) by omega, show ¬ (66 + j = 42 + t) by omega, show ¬ (66 + j = 18 + t) by omega, show ¬ (90 + j = 90 + t) by omega, show ¬ (90 + j = 66 + t) by omega, show ¬ (90 + j = 42 + t) by omega, show ¬ (90 + j = 18 + t) by omega]
      exact q
  · have q := c3 j hj
    simp only [jb_up_at, jset, true_and]
    simp [show ¬ (114 + j = 90 + t) by omega, show ¬ (114 + j = 66 + t) by omega, show ¬ (114 + j = 42 + t) by omega, show ¬ (114 + j = 18 + t) by omega, show ¬ (130 + j = 90 + t) by omega, show ¬ (130 + j = 66 + t) by omega, show ¬ (130 + j = 42 + t) by omega, show ¬ (130 + j = 18 + t) by omega]
    exact q
  · simp only [jb_up_at, jset, true_and]
    simp [show ¬ (146 = 90 + t) by omega, show ¬ (146 = 66 + t) by omega, show ¬ (146 = 42 + t) by omega, show ¬ (146 = 18 + t) by omega, show ¬ (147 = 90 + t) by omega, show ¬ (147 = 66 + t) by omega, show ¬ (147 = 42 + t) by omega, show ¬ (147 = 18 + t) by omega, show ¬ (148 = 90 + t) by omega, show ¬ (148 = 66 + t) by omega, show ¬ (148 = 42 + t) by omega, show ¬ (148 = 18 + t) by omega]
    exact c4
theorem ca_thing {n : Nat} {M : jb_Mi} {N : jb_Ml} (hn : n < 512) (h : jInv n M N) (a1 a2 a3 a4 a5 : Int32) : ∃ (r : Bool) (M1 : jb_Mi) (M2 : jb_Mi), zf_127 a1 a2 a3 a4 a5 M = some (r, M1) ∧ M1 0 = M 0 ∧ zf_176 a1 a2 a3 a4 a5 M1 = some (r, M2) ∧ M2 0 = M 0 ∧ jInv (n + 1) M2 N := by
  obtain ⟨⟨S, hC, hD, hR, hT⟩, -⟩ := id h
  have key : (zf_127 a1 a2 a3 a4 a5 M = some (false, M) ∧ zf_176 a1 a2 a3 a4 a5 M = some (false, M)) ∨ ∃ t i x y w, t < 24 ∧ i < 6 ∧ x ≤ 8 ∧ y ≤ 8 ∧ 1 ≤ w ∧ w ≤ 99 ∧ a1 = nI t ∧ a2 = nI i ∧ a3 = nI x ∧ a4 = nI y ∧ a5 = nI w ∧ 0 < S 0 i := by
    unfold zf_127 zf_176
    simp only [jn_w, jn_b]
    by_cases c1 : zf_23 a1 0 23 = false
    · exact Or.inl ⟨if_pos c1, if_pos c1⟩
    simp only [c1, if_false]
    rcases jx_house hC hD hR a2 with ⟨e1, e2⟩ | ⟨i, hi, rfl, hs, e1, e2⟩
    · exact Or.inl ⟨by rw [e1]; rfl, by rw [e2]; rfl⟩
    rw [e1, e2]
    simp only [Option.bind_some, Bool.true_eq_false, if_false]
    by_cases c3 : zf_23 a3 0 8 = false
    · refine Or.inl ⟨?_, if_pos c3⟩
      simp only [c3, if_true]
      split <;> rfl
    by_cases c4 : zf_23 a4 0 8 = false
    · refine Or.inl ⟨?_, ?_⟩
      · simp only [c3, c4, if_true, if_false, Bool.true_eq_false]
        split <;> rfl
      · simp only [c3, c4, if_true, if_false, Bool.true_eq_false]
    by_cases c5 : zf_23 a5 1 99 = false
    · refine Or.inl ⟨?_, ?_⟩
      · simp only [c5, if_true]
      · simp only [c3, c4, c5, if_true, if_false, Bool.true_eq_false]
    obtain ⟨t, ht, rfl⟩ := jn_in (x := a1) 23 (by decide) c1
    obtain ⟨x, hx, rfl⟩ := jn_in (x := a3) 8 (by decide) c3
    obtain ⟨y, hy, rfl⟩ := jn_in (x := a4) 8 (by decide) c4
    obtain ⟨w, hw1, hw, rfl⟩ := jn_in1 (x := a5) 1 99 (by decide) (by decide) c5
    exact Or.inr ⟨t, i, x, y, w, by omega, hi, hx, hy, hw1, hw, rfl, rfl, rfl, rfl, rfl, hs⟩
  rcases key with ⟨k1, k2⟩ | ⟨t, i, x, y, w, ht, hi, hx, hy, hw1, hw, rfl, rfl, rfl, rfl, rfl, hs⟩
  · exact ⟨false, M, M, k1, rfl, k2, rfl, jInv_mono h⟩
  have hM1 : zf_127 (nI t) (nI i) (nI x) (nI y) (nI w) M = some (true, jb_up (jb_up (jb_up (jb_up M 8 t (nI i)) 9 t (nI x)) 10 t (nI y)) 11 t (nI w)) := by
    unfold zf_127
    rw [jc_told hC hR hi]
    simp (disch := omega) only [jn_ltl, jn_gtl, jn_lt, jn_eq, jn_eql, jn_eqr, jn_addl, jn_addr, nI_add, jn_gd, nI_clamp, jn_n0, jn_0n, jn_m1, jn_b, jn_clz, jn_mul, jn_mull, jn_mulr, jn_wl, if_true, if_false, Bool.true_eq_false, Bool.false_eq_true, Option.bind_some, hs, decide_true]
  have hD0 : jD 80 S (jb_up (jb_up (jb_up (jb_up M 8 t (nI i)) 9 t (nI x)) 10 t (nI y)) 11 t (nI w)) := jD_of hD (by rw [jb_up_off (by omega), jb_up_off (by omega), jb_up_off (by omega), jb_up_off (by omega)])
  refine ⟨true, _, _, hM1, rfl, ?_, ?_, jInv_street (S := jset (jset (jset (jset S 3 t i) 4 t x) 5 t y) 6 t w) h (jC_of (jC_up (jC_up (jC_up (jC_up hC (k := 3) (j := t) (v := i) (by omega)) (k := 4) (j := t) (v := x) (by omega)) (k := 5) (j := t) (v := y) (by omega)) (k := 6) (j := t) (v := w) (by omega)) ?_) (jD_thing hD0 ht hw1) (jR_set (jR_set (jR_set (jR_set hR (by omega)) (by omega)) (by omega)) (by omega)) (by simpa [jset] using (show 24 * S 9 1 + S 9 0 ≤ 240 * (n + 1) by omega)) ?_ ?_ ?_ ?_⟩
  · unfold zf_176
    rw [jd_told hD0 hR hi]
    simp (disch := omega) only [jn_w, jn_ltl, jn_gtl, jn_lt, jn_eq, jn_eql, jn_eqr, jn_addl, jn_addr, nI_add, jn_gd, nI_clamp, jn_n0, jn_0n, jn_m1, jn_b, jn_clz, jn_mul, jn_mull, jn_mulr, jn_wl, if_true, if_false, Bool.true_eq_false, Bool.false_eq_true, Option.bind_some, hs, decide_true]
  · rfl
  · intro a h1 h2
    rw [jb_up_off (by omega), jb_up_off (by omega), jb_up_off (by omega), jb_up_off (by omega)]
  · intro a ha
    unfold jrel at ha
    rw [jb_up_off (by omega), jb_up_off (by omega), jb_up_off (by omega), jb_up_off (by omega), jb_up_off (by omega), jb_up_off (by omega), jb_up_off (by omega), jb_up_off (by omega)]
  · simp [jb_up_at]
  · simp [jb_up_at]
  · simp [jb_up_at]
/-- the heaviest corner: the first with the greatest load, of told houses (24: none yet) -/
def hvL (S : jSt) (q : Nat) : Nat := if 0 < S 0 (q / 4) then ld S (q / 4) (q % 4) else 0
def hv (S : jSt) : Nat → Nat × Nat
  | 0 => (24, 0)
  | k + 1 => if (hv S k).2 < hvL S k then (k, hvL S k) else hv S k
theorem jn_div {a : Nat} (ha : a < 2 ^ 31) : nI a / 4 = nI (a / 4) := pk_div ha (by decide) (by decide)
theorem jn_rem {a : Nat} (ha : a < 2 ^ 31) : nI a - nI a / 4 * 4 = nI (a % 4) := pk_rem (d := 4) ha (by decide) (by decide)
theorem jn_rem' {a : Nat} (ha : a < 2 ^ 31) : nI a - nI (a / 4) * 4 = nI (a % 4) := by rw [← jn_div ha]; exact jn_rem ha
theorem hvL_le {S : jSt} (hR : jR S) {q : Nat} (hq : q < 24) : hvL S q ≤ 157824 := by
  unfold hvL
  split
  · exact ld_le hR (by omega)
  · omega
theorem hv_ok {S : jSt} (hR : jR S) : ∀ k, k ≤ 24 → (hv S k = (24, 0) ∧ ∀ q, q < k → S 0 (q / 4) = 0) ∨ ((hv S k).1 < k ∧ 0 < S 0 ((hv S k).1 / 4) ∧ (hv S k).2 = ld S ((hv S k).1 / 4) ((hv S k).1 % 4) ∧ 0 < (hv S k).2 ∧ (hv S k).2 ≤ 157824)
  | 0, _ => Or.inl ⟨rfl, fun q hq => by omega⟩
  | k + 1, hk => by
    have ih := hv_ok hR k (by omega)
    have hle := hvL_le hR (q := k) (by omega)
    simp only [hv]
    by_cases c : (hv S k).2 < hvL S k
    · rw [if_pos c]
      have c0 : 0 < S 0 (k / 4) := by
        apply Classical.byContradiction
        intro z
        unfold hvL at c
        rw [if_neg z] at c
        omega
      refine Or.inr ⟨by omega, c0, ?_, by omega, hle⟩
      unfold hvL
      rw [if_pos c0]
    · rw [if_neg c]
      rcases ih with ⟨i1, i2⟩ | ⟨i1, i2⟩
      · refine Or.inl ⟨i1, fun q hq => ?_⟩
        by_cases e : q = k
        · subst e
          apply Classical.byContradiction
          intro z
          rw [i1] at c
          unfold hvL at c
          rw [if_pos (by omega)] at c
          unfold ld at c
          omega
        · exact i2 q (by omega)
      · exact Or.inr ⟨by omega, i2⟩
theorem jc_load0 {o : Nat} {S : jSt} {M : jb_Mi} (hC : jC o S M) (hR : jR S) {i c : Nat} (hi : i < 6) (hs : ¬ 0 < S 0 i) : zf_7 o (nI i) (nI c) M = some 0 := by
  unfold zf_7
  rw [jc_told hC hR hi]
  simp only [hs, decide_false, Option.bind_some]
  rfl
theorem jc_hvL {o : Nat} {S : jSt} {M : jb_Mi} (hC : jC o S M) (hR : jR S) {q : Nat} (hq : q < 24) : zf_7 o (nI (q / 4)) (nI (q % 4)) M = some (nI (hvL S q)) := by
  unfold hvL
  by_cases c : 0 < S 0 (q / 4)
  · rw [if_pos c]; exact jc_load hC hR (by omega) (by omega) c
  · rw [if_neg c]; exact jc_load0 hC hR (by omega) c
theorem jc_hv {S : jSt} {M : jb_Mi} (hC : jC 4 S M) (hR : jR S) : zf_109 4 M = some (if (hv S 24).1 = 24 then (-1) else nI (hv S 24).1) := by
  unfold zf_109
  refine jb_forx (fun k => ((if (hv S k).1 = 24 then (-1) else nI (hv S k).1), nI (hv S k).2, nI k)) 24 ?_ ?_
  · intro k hk
    unfold zf_109_H6 zf_109_J35
    dsimp only
    have hl := hvL_le hR hk
    have h2 : (hv S k).2 ≤ 157824 := by
      rcases hv_ok hR k (by omega) with ⟨e, -⟩ | ⟨-, -, -, -, e⟩
      · rw [e]; decide
      · exact e
    refine (if_pos (show nI k < nI 24 from nI_lt hk (by decide))).trans ?_
    rw [jn_div (by omega), jn_rem' (by omega), jc_hvL hC hR hk, Option.bind_some]
    by_cases c : (hv S k).2 < hvL S k
    · rw [if_pos (nI_lt c (by omega))]
      simp only [hv, if_pos c, jn_addr]
      rw [if_neg (by omega)]
    · rw [if_neg (nI_nlt (by omega) (by omega))]
      simp only [hv, if_neg c, jn_addr]
  · unfold zf_109_H6
    exact if_neg (by dsimp only; decide)
theorem jd_hv {S : jSt} {M : jb_Mi} (hD : jD 80 S M) (hR : jR S) (x1 : Int32) : jb_lp (zf_264_H20 x1 M) ((-2), (-2), 0) = zf_264_H20 x1 M ((if (hv S 24).1 = 24 then (-2) else nI (hv S 24).1), (if (hv S 24).1 = 24 then (-2) else nI (hv S 24).2), nI 24) >>= fun r => match r with
    | .inl s => jb_lp (zf_264_H20 x1 M) s
    | .inr x => some x := by
  have e := jb_for (f := zf_264_H20 x1 M) (fun k => ((if (hv S k).1 = 24 then (-2) else nI (hv S k).1), (if (hv S k).1 = 24 then (-2) else nI (hv S k).2), nI k)) 24 ?_
  · refine Eq.trans e ?_
    cases hx : zf_264_H20 x1 M ((if (hv S 24).1 = 24 then (-2) else nI (hv S 24).1), (if (hv S 24).1 = 24 then (-2) else nI (hv S 24).2), nI 24) with
    | none =>
      apply Option.ext
      intro x
      rw [jb_lp_iff]
      constructor
      · rintro ⟨m, hm⟩
        cases m with
        | zero => cases hm
        | succ m => rw [jb_lpN, hx] at hm; cases hm
      · intro hm; cases hm
    | some r =>
      cases r with
      | inl s => exact jb_lp_inl hx
      | inr x => exact jb_lp_inr hx
  · intro k hk
    unfold zf_264_H20 zf_264_J70
    dsimp only
    have hl := hvL_le hR hk
    refine (if_pos (show nI k < nI 24 from nI_lt hk (by decide))).trans ?_
    rw [jn_div (by omega), jn_rem' (by omega), jd_told hD hR (by omega), Option.bind_some, jd_load hD hR (by omega) (by omega), Option.bind_some]
    have hok := hv_ok hR k (by omega)
    by_cases c0 : 0 < S 0 (k / 4)
    · have e1 : hvL S k = ld S (k / 4) (k % 4) := by unfold hvL; rw [if_pos c0]
      have e2 : 640 ≤ hvL S k := by rw [e1]; unfold ld; omega
      simp only [c0, decide_true, jn_b, Bool.true_eq_false, if_false, ← e1, jn_addr]
      rcases hok with ⟨i1, i2⟩ | ⟨i1, i2, i3, i4, i5⟩
      · have c : (hv S k).2 < hvL S k := by rw [i1]; show 0 < _; omega
        have c' : ((if (hv S k).1 = 24 then (-2) else nI (hv S k).2) : Int32) < nI (hvL S k) := by
          rw [i1, if_pos rfl, fa_ltx, nI_toInt (by omega)]
          have : ((-2) : Int32).toInt = -2 := by decide
          omega
        rw [if_pos c']
        simp only [hv, if_pos c]
        rw [if_neg (by omega), if_neg (by omega)]
      · by_cases c : (hv S k).2 < hvL S k
        · rw [if_pos (by rw [if_neg (by omega)]; exact nI_lt c (by omega))]
          simp only [hv, if_pos c]
          rw [if_neg (by omega), if_neg (by omega)]
        · rw [if_neg (by rw [if_neg (by omega)]; exact nI_nlt (by omega) (by omega))]
          simp only [hv, if_neg c]
    · have e1 : hvL S k = 0 := by unfold hvL; rw [if_neg c0]
      simp only [c0, decide_false, jn_b, if_true, jn_addr]
      have c : ¬ (hv S k).2 < hvL S k := by omega
      simp only [hv, if_neg c]
theorem ca_heaviest {n : Nat} {M : jb_Mi} {N : jb_Ml} (hn : n < 512) (h : jInv n M N) (a1 : Int32) : ∃ (r : Int32), zf_157 a1 M = some r ∧ zf_264 a1 M = some r ∧ jInv (n + 1) M N := by
  obtain ⟨⟨S, hC, hD, hR, hT⟩, -⟩ := id h
  unfold zf_157 zf_264
  simp only [jn_w, jn_b]
  by_cases c : zf_23 a1 0 2 = false
  · exact ⟨_, if_pos c, if_pos c, jInv_mono h⟩
  simp only [c, if_false]
  rw [jc_hv hC hR, jd_hv hD hR, Option.bind_some]
  have hlast : ∀ y z : Int32, zf_264_H20 a1 M (y, z, nI 24) = if y = (-2) then some (.inr (-2)) else if a1 = 0 then some (.inr (y / 4)) else if a1 = 1 then some (.inr (y - y / 4 * 4)) else some (.inr z) := by
    intro y z
    unfold zf_264_H20
    exact if_neg (by dsimp only; decide)
  rw [hlast]
  rcases hv_ok hR 24 (by omega) with ⟨i1, i2⟩ | ⟨i1, i2, i3, i4, i5⟩
  · rw [i1]
    exact ⟨_, rfl, rfl, jInv_mono h⟩
  · have hne : ¬ (hv S 24).1 = 24 := by omega
    have hn2 : ¬ nI (hv S 24).1 = (-2) := by
      intro z
      have z2 : (nI (hv S 24).1).toInt = ((-2) : Int32).toInt := by rw [z]
      rw [nI_toInt (by omega)] at z2
      have : ((-2) : Int32).toInt = -2 := by decide
      omega
    simp only [hne, if_false, hn2]
    rw [if_neg (nI_pos (by omega))]
    by_cases k0 : a1 = 0
    · exact ⟨_, if_pos k0, by simp only [k0, if_true]; rfl, jInv_mono h⟩
    by_cases k1 : a1 = 1
    · exact ⟨_, (if_neg k0).trans (if_pos k1), by simp only [k0, k1, if_true, if_false]; rfl, jInv_mono h⟩
    refine ⟨nI (hv S 24).2, ?_, ?_, jInv_mono h⟩
    · simp only [k0, k1, if_false]
      rw [jn_div (by omega), jn_rem' (by omega), jc_load hC hR (by omega) (by omega) i2, ← i3]
      rfl
    · simp only [k0, k1, if_false]
      rfl
