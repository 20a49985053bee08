/-! who is told; simple questions -/
theorem jd_told_no {M : jb_Mi} {x : Int32} (h : ∀ i, i < 6 → x ≠ nI i) : zf_171 x M = some false := by
  unfold zf_171
  by_cases c : jb_b2i (zf_164 x 0 5) = 0
  · rw [if_pos c]
  · rw [jn_b] at c
    obtain ⟨j, hj, rfl⟩ := jn_in (x := x) 5 (by decide) c
    exact absurd rfl (h j (by omega))
theorem jx_house {S : jSt} {M : jb_Mi} (hC : jC 4 S M) (hD : jD 80 S M) (hR : jR S) (x : Int32) : (zf_2 4 x M = some false ∧ zf_171 x M = some false) ∨ ∃ i, i < 6 ∧ x = nI i ∧ 0 < S 0 i ∧ zf_2 4 x M = some true ∧ zf_171 x M = some true := by
  by_cases h : ∃ i, i < 6 ∧ x = nI i
  · obtain ⟨i, hi, rfl⟩ := h
    have h1 := jc_told hC hR hi
    have h2 := jd_told hD hR hi
    by_cases c : 0 < S 0 i
    · simp only [c, decide_true] at h1 h2
      exact Or.inr ⟨i, hi, rfl, c, h1, h2⟩
    · simp only [c, decide_false] at h1 h2
      exact Or.inl ⟨h1, h2⟩
  · have h' : ∀ i, i < 6 → x ≠ nI i := fun i hi e => h ⟨i, hi, e⟩
    exact Or.inl ⟨jc_told_no h', jd_told_no h'⟩
theorem jc_up_no {o : Nat} {M : jb_Mi} {x : Int32} (h : ∀ i, i < 6 → x ≠ nI i) : zf_37 o x M = some false := by
  unfold zf_37
  by_cases c : x < 0
  · rw [if_pos c]
  · rw [if_neg c]
    by_cases c2 : x < 6
    · obtain ⟨j, hj, rfl⟩ := nI_of c
      have c3 : nI j < nI 6 := c2
      rw [nI_ltI hj (by decide)] at c3
      exact absurd rfl (h j c3)
    · rw [if_neg c2]
theorem jx_up {S : jSt} {M : jb_Mi} (hC : jC 4 S M) (hD : jD 80 S M) (hR : jR S) (x : Int32) : (zf_37 4 x M = some false ∧ zf_172 x M = some false) ∨ ∃ i, i < 6 ∧ x = nI i ∧ 0 < S 0 i ∧ S 2 i < 9 ∧ zf_37 4 x M = some true ∧ zf_172 x M = some true := by
  by_cases h : ∃ i, i < 6 ∧ x = nI i
  · obtain ⟨i, hi, rfl⟩ := h
    have h1 := jc_up hC hR hi
    have h2 := jd_up hD hR hi
    by_cases c : 0 < S 0 i ∧ S 2 i < 9
    · simp only [c, and_self, decide_true] at h1 h2
      exact Or.inr ⟨i, hi, rfl, c.1, c.2, h1, h2⟩
    · simp only [c, decide_false] at h1 h2
      exact Or.inl ⟨h1, h2⟩
  · have h' : ∀ i, i < 6 → x ≠ nI i := fun i hi e => h ⟨i, hi, e⟩
    refine Or.inl ⟨jc_up_no h', ?_⟩
    unfold zf_172
    rw [jd_told_no h']
    rfl
theorem jx_man {S : jSt} {M : jb_Mi} (hC : jC 4 S M) (hD : jD 80 S M) (hR : jR S) (x : Int32) : (zf_18 4 x M = some false ∧ zf_174 x M = some false) ∨ ∃ i, i < 16 ∧ x = nI i ∧ 0 < S 7 i ∧ zf_18 4 x M = some true ∧ zf_174 x M = some true := by
  by_cases h : ∃ i, i < 16 ∧ x = nI i
  · obtain ⟨i, hi, rfl⟩ := h
    have h1 := jc_man hC hR hi
    have h2 := jd_man hD hR hi
    by_cases c : 0 < S 7 i
    · simp only [c, decide_true] at h1 h2
      exact Or.inr ⟨i, hi, rfl, c, h1, h2⟩
    · simp only [c, decide_false] at h1 h2
      exact Or.inl ⟨h1, h2⟩
  · have h' : ∀ i, i < 16 → x ≠ nI i := fun i hi e => h ⟨i, hi, e⟩
    refine Or.inl ⟨?_, ?_⟩
    · unfold zf_18
      by_cases c : x < 0
      · rw [if_pos c]
      · rw [if_neg c]
        by_cases c2 : x < 16
        · obtain ⟨j, hj, rfl⟩ := nI_of c
          have c3 : nI j < nI 16 := c2
          rw [nI_ltI hj (by decide)] at c3
          exact absurd rfl (h' j c3)
        · rw [if_neg c2]
    · unfold zf_174
      by_cases c : jb_b2i (zf_164 x 0 15) = 0
      · rw [if_pos c]
      · rw [jn_b] at c
        obtain ⟨j, hj, rfl⟩ := jn_in (x := x) 15 (by decide) c
        exact absurd rfl (h' j (by omega))
theorem jx_thing {S : jSt} {M : jb_Mi} (hC : jC 4 S M) (hD : jD 80 S M) (hR : jR S) (x : Int32) : (zf_3 4 x M = some false ∧ zf_173 x M = some false) ∨ ∃ i, i < 24 ∧ x = nI i ∧ 0 < S 6 i ∧ zf_3 4 x M = some true ∧ zf_173 x M = some true := by
  by_cases h : ∃ i, i < 24 ∧ x = nI i
  · obtain ⟨i, hi, rfl⟩ := h
    have h1 := jc_thing hC hR hi
    have h2 := jd_thing hD hR hi
    by_cases c : 0 < S 6 i
    · simp only [c, decide_true] at h1 h2
      exact Or.inr ⟨i, hi, rfl, c, h1, h2⟩
    · simp only [c, decide_false] at h1 h2
      exact Or.inl ⟨h1, h2⟩
  · have h' : ∀ i, i < 24 → x ≠ nI i := fun i hi e => h ⟨i, hi, e⟩
    refine Or.inl ⟨?_, ?_⟩
    · unfold zf_3
      by_cases c : x < 0
      · rw [if_pos c]
      · rw [if_neg c]
        by_cases c2 : x < 24
        · obtain ⟨j, hj, rfl⟩ := nI_of c
          have c3 : nI j < nI 24 := c2
          rw [nI_ltI hj (by decide)] at c3
          exact absurd rfl (h' j c3)
        · rw [if_neg c2]
    · unfold zf_173
      by_cases c : jb_b2i (zf_164 x 0 23) = 0
      · rw [if_pos c]
      · rw [jn_b] at c
        obtain ⟨j, hj, rfl⟩ := jn_in (x := x) 23 (by decide) c
        exact absurd rfl (h' j (by omega))
theorem ca_load {n : Nat} {M : jb_Mi} {N : jb_Ml} (hn : n < 512) (h : jInv n M N) (a1 a2 : Int32) : ∃ (r : Int32), zf_139 a1 a2 M = some r ∧ zf_180 a1 a2 M = some r ∧ jInv (n + 1) M N := by
  obtain ⟨⟨S, hC, hD, hR, hT⟩, -⟩ := id h
  unfold zf_139 zf_180
  rcases jx_house hC hD hR a1 with ⟨e1, e2⟩ | ⟨i, hi, rfl, hs, e1, e2⟩
  · exact ⟨_, by rw [e1]; rfl, by rw [e2]; rfl, jInv_mono h⟩
  · rw [e1, e2]
    simp only [Option.bind_some, jn_b, Bool.true_eq_false, if_false, jn_w]
    by_cases c : zf_23 a2 0 3 = false
    · exact ⟨_, if_pos c, if_pos c, jInv_mono h⟩
    · obtain ⟨j, hj, rfl⟩ := jn_in (x := a2) 3 (by decide) c
      simp only [c, if_false]
      rw [jc_load hC hR hi (by omega) hs, jd_load hD hR hi (by omega)]
      exact ⟨_, rfl, rfl, jInv_mono h⟩
theorem ca_thingIs {n : Nat} {M : jb_Mi} {N : jb_Ml} (hn : n < 512) (h : jInv n M N) (a1 a2 : Int32) : ∃ (r : Int32), zf_137 a1 a2 M = some r ∧ zf_235 a1 a2 M = some r ∧ jInv (n + 1) M N := by
  obtain ⟨⟨S, hC, hD, hR, hT⟩, -⟩ := id h
  unfold zf_137 zf_235
  rcases jx_thing hC hD hR a1 with ⟨e1, e2⟩ | ⟨i, hi, rfl, hs, e1, e2⟩
  · exact ⟨_, by rw [e1]; rfl, by rw [e2]; rfl, jInv_mono h⟩
  · have h1 := hC.2.1 i hi
    have h2 := (hD.2.1 i hi).2 (by omega)
    rw [e1, e2]
    simp only [Option.bind_some, jn_b, Bool.true_eq_false, if_false, jn_w]
    by_cases c : zf_23 a2 0 3 = false
    · have hne : ∀ j, j ≤ 3 → a2 ≠ nI j := by
        rintro j hj rfl
        rw [show zf_23 (nI j) 0 3 = true from jn_wl (l := 0) (k := 3) (Nat.zero_le _) hj (by decide)] at c
        cases c
      refine ⟨-1, ?_, if_pos c, jInv_mono h⟩
      exact (if_neg (hne 0 (by omega))).trans ((if_neg (hne 1 (by omega))).trans ((if_neg (hne 2 (by omega))).trans (if_neg (hne 3 (by omega)))))
    · obtain ⟨j, hj, rfl⟩ := jn_in (x := a2) 3 (by decide) c
      simp (disch := omega) only [jn_ltl, jn_gtl, jn_lt, jn_eq, jn_eql, jn_eqr, jn_addl, jn_addr, nI_add, jn_gd, nI_clamp, jn_n0, jn_0n, jn_m1, jn_b, jn_clz, jn_mul, jn_mull, jn_mulr, jn_wl, if_true, if_false, Bool.true_eq_false, Bool.false_eq_true, c, h1.1, h1.2.1, h1.2.2.1, h1.2.2.2]
      rcases (show j = 0 ∨ j = 1 ∨ j = 2 ∨ j = 3 by omega) with rfl | rfl | rfl | rfl
      · exact ⟨_, rfl, by rw [h2.1], jInv_mono h⟩
      · exact ⟨_, rfl, by rw [show 18 + 24 * 1 + i = 42 + i by omega, h2.2.1], jInv_mono h⟩
      · exact ⟨_, rfl, by rw [show 18 + 24 * 2 + i = 66 + i by omega, h2.2.2.1], jInv_mono h⟩
      · exact ⟨_, rfl, by rw [show 18 + 24 * 3 + i = 90 + i by omega, h2.2.2.2], jInv_mono h⟩
theorem jb_up_at (M : jb_Mi) (a j a' j' : Nat) (x : Int32) : jb_up M a j x a' j' = if a' = a ∧ j' = j then x else M a' j' := by
  unfold jb_up
  by_cases h : a' = a
  · subst h
    simp only [if_true, upd, true_and]
  · simp [h]
theorem jb_up_off {M : jb_Mi} {a j a' : Nat} {x : Int32} (h : a' ≠ a) : jb_up M a j x a' = M a' := if_neg h
/-- which cells the invariant speaks of -/
def jrel (a : Nat) : Prop := a = 1 ∨ a = 2 ∨ a = 3 ∨ (14 ≤ a ∧ a ≤ 23) ∨ a = 35 ∨ a = 36 ∨ (44 ≤ a ∧ a ≤ 49) ∨ a = 77 ∨ a = 82 ∨ a = 83 ∨ (90 ≤ a ∧ a ≤ 94) ∨ a = 97 ∨ a = 98
theorem jC_of {o : Nat} {S : jSt} {M M' : jb_Mi} (h : jC o S M) (hs : ∀ a, o ≤ a → a ≤ o + 9 → M' a = M a) : jC o S M' := by
  unfold jC at h ⊢
  rw [hs (o + 1) (by omega) (by omega), hs (o + 2) (by omega) (by omega), hs (o + 3) (by omega) (by omega), hs (o + 4) (by omega) (by omega), hs (o + 5) (by omega) (by omega), hs (o + 6) (by omega) (by omega), hs (o + 7) (by omega) (by omega), hs (o + 8) (by omega) (by omega), hs (o + 9) (by omega) (by omega), hs o (by omega) (by omega)]
  exact h
theorem jD_of {a : Nat} {S : jSt} {M M' : jb_Mi} (h : jD a S M) (hs : M' a = M a) : jD a S M' := by
  unfold jD at h ⊢
  rw [hs]
  exact h
theorem jLw_of {M M' : jb_Mi} (h : jLw M) (hs : ∀ a, (44 ≤ a ∧ a ≤ 49) ∨ a = 77 ∨ (90 ≤ a ∧ a ≤ 94) → True → M' a = M a) (h13 : M' 79 13 = M 79 13) : jLw M' := by
  unfold jLw jLx okR cC cD at h ⊢
  rw [hs 44 (by omega) trivial, hs 45 (by omega) trivial, hs 46 (by omega) trivial, hs 47 (by omega) trivial, hs 48 (by omega) trivial, hs 49 (by omega) trivial, hs 77 (by omega) trivial, hs 90 (by omega) trivial, hs 91 (by omega) trivial, hs 92 (by omega) trivial, hs 93 (by omega) trivial, hs 94 (by omega) trivial, h13]
  exact h
theorem jInv_street {n : Nat} {M M' : jb_Mi} {N N' : jb_Ml} {S : jSt} (h : jInv n M N) (hC : jC 4 S M') (hD : jD 80 S M') (hR : jR S) (hT : 24 * S 9 1 + S 9 0 ≤ 240 * (n + 1)) (hs : ∀ a, jrel a → M' a = M a) (h4 : M' 79 4 = M 79 4) (h13 : M' 79 13 = M 79 13) (h57 : M' 79 57 = M 79 57) : jInv (n + 1) M' N' := by
  obtain ⟨-, h2, ⟨bs, h3⟩, ⟨R, h5⟩, h6⟩ := h
  refine ⟨⟨S, hC, hD, hR, hT⟩, ?_, ⟨bs, ?_⟩, ⟨R, ?_⟩, jLw_of h6 (fun a h1 h2 => hs a (by unfold jrel; omega)) h13⟩
  · unfold jKe at h2 ⊢
    rw [hs 1 (by simp [jrel]), h57]
    rcases h2 with h2 | ⟨b1, b2, K, b3, b4, b5, b6⟩
    · exact Or.inl h2
    · exact Or.inr ⟨b1, b2, K, jC_of b3 (fun a h1 h2 => hs a (by unfold jrel; omega)), jD_of b4 (hs 82 (by simp [jrel])), b5, by omega⟩
  · unfold jTp at h3 ⊢
    rw [hs 2 (by simp [jrel]), hs 3 (by simp [jrel]), hs 83 (by simp [jrel]), h4]
    exact h3
  · unfold jRo at h5 ⊢
    rw [hs 36 (by simp [jrel]), hs 98 (by simp [jrel]), hs 35 (by simp [jrel]), hs 97 (by simp [jrel])]
    exact h5
/-- the street with one number changed -/
def jset (S : jSt) (a j v : Nat) : jSt := fun a' j' => if a' = a ∧ j' = j then v else S a' j'
theorem jR_set {S : jSt} (h : jR S) {a j v : Nat} (hv : (a = 0 ∧ v ≤ 9) ∨ (a = 1 ∧ v ≤ 99) ∨ (a = 2 ∧ v ≤ 9) ∨ (a = 3 ∧ v ≤ 5) ∨ (a = 4 ∧ v ≤ 8) ∨ (a = 5 ∧ v ≤ 8) ∨ (a = 6 ∧ v ≤ 99) ∨ (a = 7 ∧ v ≤ 99) ∨ (a = 8 ∧ v ≤ 99) ∨ (a = 9 ∧ j = 2 ∧ v < 65536)) : jR (jset S a j v) := by
  obtain ⟨h1, h2, h3, h4, h5, h6⟩ := h
  refine ⟨fun k hk => ?_, fun k hk => ?_, fun k hk => ?_, ?_, ?_, ?_⟩
  · have := h1 k hk; unfold jset; refine ⟨?_, ?_, ?_⟩ <;> split <;> omega
  · have := h2 k hk; unfold jset; refine ⟨?_, ?_, ?_, ?_⟩ <;> split <;> omega
  · have := h3 k hk; unfold jset; refine ⟨?_, ?_⟩ <;> split <;> omega
  · unfold jset; split <;> omega
  · unfold jset; split <;> omega
  · unfold jset; split <;> omega
theorem ca_seed {n : Nat} {M : jb_Mi} {N : jb_Ml} (hn : n < 512) (h : jInv n M N) (a1 : Int32) : ∃ (r : Bool) (M1 : jb_Mi) (M2 : jb_Mi), zf_158 a1 M = (r, M1) ∧ M1 0 = M 0 ∧ zf_265 a1 M1 = (r, M2) ∧ M2 0 = M 0 ∧ jInv (n + 1) M2 N := by
  obtain ⟨⟨S, hC, hD, hR, hT⟩, -⟩ := id h
  unfold zf_158 zf_265
  simp only [jn_w, jn_b]
  by_cases c : zf_23 a1 0 65535 = false
  · exact ⟨false, M, M, if_pos c, rfl, if_pos c, rfl, jInv_mono h⟩
  · refine ⟨true, _, _, if_neg c, rfl, if_neg c, rfl, ?_⟩
    obtain ⟨x, hx, rfl⟩ := jn_in (x := a1) 65535 (by decide) c
    refine jInv_street (S := jset S 9 2 x) h ?_ ?_ (jR_set hR (by omega)) (by simpa [jset] using (show 24 * S 9 1 + S 9 0 ≤ 240 * (n + 1) by omega)) ?_ ?_ ?_ ?_
    · obtain ⟨c1, c2, c3, c4⟩ := hC
      refine ⟨fun j hj => ?_, fun j hj => ?_, fun j hj => ?_, ?_⟩
      · simpa [jb_up_at, jset] using c1 j hj
      · simpa [jb_up_at, jset] using c2 j hj
      · simpa [jb_up_at, jset] using c3 j hj
      · simpa [jb_up_at, jset] using ⟨c4.1, c4.2.1⟩
    · obtain ⟨c1, c2, c3, c4⟩ := hD
      refine ⟨fun j hj => ?_, fun j hj => ?_, fun j hj => ?_, ?_⟩
      · have := c1 j hj
        simp only [jb_up_at, jset]
        simp (disch := omega) [this, show ¬ (j = 148) by omega, show ¬ (6 + j = 148) by omega, show ¬ (12 + j = 148) by omega]
      · have := c2 j hj
        simp only [jb_up_at, jset]
        simp [show ¬ (18 + j = 148) by omega, show ¬ (42 + j = 148) by omega, show ¬ (66 + j = 148) by omega, show ¬ (90 + j = 148) by omega]
        exact this
      · have := c3 j hj
        simp only [jb_up_at, jset]
        simp [this, show ¬ (114 + j = 148) by omega, show ¬ (130 + j = 148) by omega]
      · simp [jb_up_at, jset, c4.1, c4.2.1]
    · intro a ha
      unfold jrel at ha
      rw [jb_up_off (by omega), jb_up_off (by omega)]
    · simp [jb_up_at]
    · simp [jb_up_at]
    · simp [jb_up_at]
theorem jC_up {o : Nat} {S : jSt} {M : jb_Mi} (h : jC o S M) {k j v : Nat} (hk : k < 9) : jC o (jset S k j v) (jb_up M (o + 1 + k) j (nI v)) := by
  obtain ⟨c1, c2, c3, c4⟩ := h
  refine ⟨fun j' hj => ?_, fun j' hj => ?_, fun j' hj => ?_, ?_⟩
  · have q := c1 j' hj
    simp only [jb_up_at, jset]
    refine ⟨by
      by_cases c : 0 = k ∧ j' = j
      · rw [if_pos (by omega), if_pos c]
      · rw [if_neg (by omega), if_neg c]; exact q.1, by
      by_cases c : 1 = k ∧ j' = j
      · rw [if_pos (by omega), if_pos c]
      · rw [if_neg (by omega), if_neg c]; exact q.2.1, by
      by_cases c : 2 = k ∧ j' = j
      · rw [if_pos (by omega), if_pos c]
      · rw [if_neg (by omega), if_neg c]; exact q.2.2⟩
  · have q := c2 j' hj
    simp only [jb_up_at, jset]
    refine ⟨by
      by_cases c : 3 = k ∧ j' = j
      · rw [if_pos (by omega), if_pos c]
      · rw [if_neg (by omega), if_neg c]; exact q.1, by
      by_cases c : 4 = k ∧ j' = j
      · rw [if_pos (by omega), if_pos c]
      · rw [if_neg (by omega), if_neg c]; exact q.2.1, by
      by_cases c : 5 = k ∧ j' = j
      · rw [if_pos (by omega), if_pos c]
      · rw [if_neg (by omega), if_neg c]; exact q.2.2.1, by
      by_cases c : 6 = k ∧ j' = j
      · rw [if_pos (by omega), if_pos c]
      · rw [if_neg (by omega), if_neg c]; exact q.2.2.2⟩
  · have q := c3 j' hj
    simp only [jb_up_at, jset]
    refine ⟨by
      by_cases c : 7 = k ∧ j' = j
      · rw [if_pos (by omega), if_pos c]
      · rw [if_neg (by omega), if_neg c]; exact q.1, by
      by_cases c : 8 = k ∧ j' = j
      · rw [if_pos (by omega), if_pos c]
      · rw [if_neg (by omega), if_neg c]; exact q.2⟩
  · simp only [jb_up_at, jset]
    rw [if_neg (by omega), if_neg (by omega), if_neg (by omega), if_neg (by omega), if_neg (by omega), if_neg (by omega)]
    exact c4
def joff (k : Nat) : Nat := if k = 0 then 0 else if k = 1 then 6 else if k = 2 then 12 else if k = 7 then 114 else 130
theorem jD_up {S : jSt} {M : jb_Mi} (h : jD 80 S M) {k j v : Nat} (hk : (k < 3 ∧ j < 6) ∨ (7 ≤ k ∧ k < 9 ∧ j < 16)) : jD 80 (jset S k j v) (jb_up M 80 (joff k + j) (nI v)) := by
  have hoff : (k = 0 ∧ joff k = 0) ∨ (k = 1 ∧ joff k = 6) ∨ (k = 2 ∧ joff k = 12) ∨ (k = 7 ∧ joff k = 114) ∨ (k = 8 ∧ joff k = 130) := by
    rcases (show k = 0 ∨ k = 1 ∨ k = 2 ∨ k = 7 ∨ k = 8 by omega) with rfl | rfl | rfl | rfl | rfl <;> simp [joff]
  obtain ⟨c1, c2, c3, c4⟩ := h
  refine ⟨fun j' hj => ?_, fun j' hj => ?_, fun j' hj => ?_, ?_⟩
  · have q := c1 j' hj
    simp only [jb_up_at, jset, true_and]
    refine ⟨by
      by_cases c : 0 = k ∧ j' = j
      · rw [if_pos (by omega), if_pos c]
      · rw [if_neg (by omega), if_neg c]; exact q.1, by
      by_cases c : 1 = k ∧ j' = j
      · rw [if_pos (by omega), if_pos c]
      · rw [if_neg (by omega), if_neg c]; exact q.2.1, by
      by_cases c : 2 = k ∧ j' = j
      · rw [if_pos (by omega), if_pos c]
      · rw [if_neg (by omega), if_neg c]; exact q.2.2⟩
  · have q := c2 j' hj
    simp only [jb_up_at, jset, true_and]
    rw [if_neg (show ¬ (6 = k ∧ j' = j) by omega), if_neg (show ¬ (3 = k ∧ j' = j) by omega), if_neg (show ¬ (4 = k ∧ j' = j) by omega), if_neg (show ¬ (5 = k ∧ j' = j) by omega), if_neg (show ¬ (18 + j' = joff k + j) by omega), if_neg (show ¬ (42 + j' = joff k + j) by omega), if_neg (show ¬ (66 + j' = joff k + j) by omega), if_neg (show ¬ (90 + j' = joff k + j) by omega)]
    exact q
  · have q := c3 j' hj
    simp only [jb_up_at, jset, true_and]
    refine ⟨by
      by_cases c : 7 = k ∧ j' = j
      · rw [if_pos (by omega), if_pos c]
      · rw [if_neg (by omega), if_neg c]; exact q.1, by
      by_cases c : 8 = k ∧ j' = j
      · rw [if_pos (by omega), if_pos c]
      · rw [if_neg (by omega), if_neg c]; exact q.2⟩
  · simp only [jb_up_at, jset, true_and]
    rw [if_neg (show ¬ (146 = joff k + j) by omega), if_neg (show ¬ (147 = joff k + j) by omega), if_neg (show ¬ (148 = joff k + j) by omega), if_neg (by omega), if_neg (by omega), if_neg (by omega)]
    exact c4
theorem jD_up' {S : jSt} {M : jb_Mi} (h : jD 80 S M) {k j v o : Nat} (hk : (k < 3 ∧ j < 6) ∨ (7 ≤ k ∧ k < 9 ∧ j < 16)) (ho : o = joff k + j) : jD 80 (jset S k j v) (jb_up M 80 o (nI v)) := by
  rw [ho]
  exact jD_up h hk
theorem ca_house {n : Nat} {M : jb_Mi} {N : jb_Ml} (hn : n < 512) (h : jInv n M N) (a1 a2 a3 : Int32) : ∃ (r : Bool) (M1 : jb_Mi) (M2 : jb_Mi), zf_126 a1 a2 a3 M = some (r, M1) ∧ M1 0 = M 0 ∧ zf_175 a1 a2 a3 M1 = some (r, M2) ∧ M2 0 = M 0 ∧ jInv (n + 1) M2 N := by
  obtain ⟨⟨S, hC, hD, hR, hT⟩, -⟩ := id h
  unfold zf_126 zf_175
  simp only [jn_w, jn_b]
  by_cases c1 : zf_23 a1 0 5 = false
  · exact ⟨false, M, M, if_pos c1, rfl, if_pos c1, rfl, jInv_mono h⟩
  by_cases c2 : zf_23 a2 1 9 = false
  · exact ⟨false, M, M, (if_neg c1).trans (if_pos c2), rfl, (if_neg c1).trans (if_pos c2), rfl, jInv_mono h⟩
  by_cases c3 : zf_23 a3 0 99 = false
  · exact ⟨false, M, M, (if_neg c1).trans ((if_neg c2).trans (if_pos c3)), rfl, (if_neg c1).trans ((if_neg c2).trans (if_pos c3)), rfl, jInv_mono h⟩
  obtain ⟨i, hi, rfl⟩ := jn_in (x := a1) 5 (by decide) c1
  obtain ⟨s, hs1, hs, rfl⟩ := jn_in1 (x := a2) 1 9 (by decide) (by decide) c2
  obtain ⟨p, hp, rfl⟩ := jn_in (x := a3) 99 (by decide) c3
  simp (disch := omega) only [jn_ltl, jn_gtl, jn_lt, jn_eq, jn_eql, jn_eqr, jn_addl, jn_addr, nI_add, jn_gd, nI_clamp, jn_n0, jn_0n, jn_m1, jn_b, jn_clz, jn_mul, jn_mull, jn_mulr, jn_wl, if_true, if_false, Bool.true_eq_false, Bool.false_eq_true, Nat.zero_add]
  have e0 : (0 : Int32) = nI 0 := rfl
  rw [e0]
  refine ⟨true, _, _, rfl, rfl, rfl, rfl, ?_⟩
  have hC1 := jC_up (jC_up (jC_up hC (k := 0) (j := i) (v := s) (by omega)) (k := 1) (j := i) (v := p) (by omega)) (k := 2) (j := i) (v := 0) (by omega)
  have hD0 : jD 80 S (jb_up (jb_up (jb_up M 5 i (nI s)) 6 i (nI p)) 7 i (nI 0)) := jD_of hD (by rw [jb_up_off (by omega), jb_up_off (by omega), jb_up_off (by omega)])
  have hD1 := jD_up' (jD_up' (jD_up' hD0 (k := 0) (j := i) (v := s) (o := i) (by omega) (by simp [joff])) (k := 1) (j := i) (v := p) (o := 6 + i) (by omega) (by simp [joff])) (k := 2) (j := i) (v := 0) (o := 12 + i) (by omega) (by simp [joff])
  refine jInv_street (S := jset (jset (jset S 0 i s) 1 i p) 2 i 0) h (jC_of hC1 ?_) hD1 (jR_set (jR_set (jR_set hR (by omega)) (by omega)) (by omega)) (by simpa [jset] using (show 24 * S 9 1 + S 9 0 ≤ 240 * (n + 1) by omega)) ?_ ?_ ?_ ?_
  · intro a h1 h2
    rw [jb_up_off (by omega), jb_up_off (by omega), jb_up_off (by omega)]
  · intro a ha
    unfold jrel at ha
    rw [jb_up_off (by omega), jb_up_off (by omega), jb_up_off (by omega), jb_up_off (by omega), jb_up_off (by omega), jb_up_off (by omega)]
  · simp [jb_up_at]
  · simp [jb_up_at]
  · simp [jb_up_at]
theorem ca_man {n : Nat} {M : jb_Mi} {N : jb_Ml} (hn : n < 512) (h : jInv n M N) (a1 a2 : Int32) : ∃ (r : Bool) (M1 : jb_Mi) (M2 : jb_Mi), zf_128 a1 a2 M = some (r, M1) ∧ M1 0 = M 0 ∧ zf_177 a1 a2 M1 = some (r, M2) ∧ M2 0 = M 0 ∧ jInv (n + 1) M2 N := by
  obtain ⟨⟨S, hC, hD, hR, hT⟩, -⟩ := id h
  unfold zf_128 zf_177
  simp only [jn_w, jn_b]
  by_cases c1 : zf_23 a1 0 15 = false
  · exact ⟨false, M, M, if_pos c1, rfl, if_pos c1, rfl, jInv_mono h⟩
  by_cases c2 : zf_23 a2 1 99 = false
  · exact ⟨false, M, M, (if_neg c1).trans (if_pos c2), rfl, (if_neg c1).trans (if_pos c2), rfl, jInv_mono h⟩
  obtain ⟨i, hi, rfl⟩ := jn_in (x := a1) 15 (by decide) c1
  obtain ⟨s, hs1, hs, rfl⟩ := jn_in1 (x := a2) 1 99 (by decide) (by decide) c2
  simp (disch := omega) only [jn_ltl, jn_gtl, jn_lt, jn_eq, jn_eql, jn_eqr, jn_addl, jn_addr, nI_add, jn_gd, nI_clamp, jn_n0, jn_0n, jn_m1, jn_b, jn_clz, jn_mul, jn_mull, jn_mulr, jn_wl, if_true, if_false, Bool.true_eq_false, Bool.false_eq_true]
  have e0 : (0 : Int32) = nI 0 := rfl
  rw [e0]
  refine ⟨true, _, _, rfl, rfl, rfl, rfl, ?_⟩
  have hC1 := jC_up (jC_up hC (k := 7) (j := i) (v := s) (by omega)) (k := 8) (j := i) (v := 0) (by omega)
  have hD0 : jD 80 S (jb_up (jb_up M 12 i (nI s)) 13 i (nI 0)) := jD_of hD (by rw [jb_up_off (by omega), jb_up_off (by omega)])
  have hD1 := jD_up' (jD_up' hD0 (k := 7) (j := i) (v := s) (o := 114 + i) (by omega) (by simp [joff])) (k := 8) (j := i) (v := 0) (o := 130 + i) (by omega) (by simp [joff])
  refine jInv_street (S := jset (jset S 7 i s) 8 i 0) h (jC_of hC1 ?_) hD1 (jR_set (jR_set hR (by omega)) (by omega)) (by simpa [jset] using (show 24 * S 9 1 + S 9 0 ≤ 240 * (n + 1) by omega)) ?_ ?_ ?_ ?_
  · intro a h1 h2
    rw [jb_up_off (by omega), jb_up_off (by omega)]
  · intro a ha
    unfold jrel at ha
    rw [jb_up_off (by omega), jb_up_off (by omega), jb_up_off (by omega), jb_up_off (by omega)]
  · simp [jb_up_at]
  · simp [jb_up_at]
  · simp [jb_up_at]
