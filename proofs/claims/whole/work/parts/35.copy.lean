/-! copies of streets; keep, undo -/
def cpk (M : jb_Mi) (a1 a2 : Nat) : Nat → jb_Mi
  | 0 => M
  | k + 1 => jb_up (cpk M a1 a2 k) a2 k (cpk M a1 a2 k a1 k)
theorem cpk_ok (M : jb_Mi) {a1 a2 : Nat} (h : a1 ≠ a2) : ∀ k, (∀ a, a ≠ a2 → cpk M a1 a2 k a = M a) ∧ (∀ j, j < k → cpk M a1 a2 k a2 j = M a1 j)
  | 0 => ⟨fun _ _ => rfl, fun j hj => by omega⟩
  | k + 1 => by
    obtain ⟨i1, i2⟩ := cpk_ok M h k
    refine ⟨fun a ha => ?_, fun j hj => ?_⟩
    · simp only [cpk]
      rw [jb_up_off ha]
      exact i1 a ha
    · simp only [cpk, jb_up_at, true_and]
      by_cases e : j = k
      · rw [if_pos e, e, i1 a1 h]
      · rw [if_neg e]
        exact i2 j (by omega)
theorem jd_copies {a1 a2 : Nat} (h : a1 ≠ a2) (M : jb_Mi) : ∃ M', zf_170 a1 a2 M = some M' ∧ (∀ a, a ≠ a2 → M' a = M a) ∧ ∀ j, j < 149 → M' a2 j = M a1 j := by
  refine ⟨cpk M a1 a2 149, ?_, cpk_ok M h 149⟩
  unfold zf_170
  refine jb_forx (fun k => (nI k, cpk M a1 a2 k)) 149 ?_ ?_
  · intro k hk
    unfold zf_170_H2
    dsimp only
    refine (if_pos (show nI k < nI 149 from nI_lt hk (by decide))).trans ?_
    simp (disch := omega) only [jn_ltl, jn_gtl, jn_lt, jn_eq, jn_eql, jn_eqr, jn_addl, jn_addr, nI_add, jn_gd, nI_clamp, jn_n0, jn_0n, jn_m1, jn_b, jn_clz, jn_mul, jn_mull, jn_mulr, jn_wl, if_true, if_false, Bool.true_eq_false, Bool.false_eq_true]
    rfl
  · unfold zf_170_H2
    exact if_neg (by dsimp only; decide)
theorem jD_copy {a1 a2 : Nat} {S : jSt} {M M' : jb_Mi} (hD : jD a1 S M) (hM : ∀ j, j < 149 → M' a2 j = M a1 j) : jD a2 S M' := by
  obtain ⟨c1, c2, c3, c4⟩ := hD
  refine ⟨fun j hj => ?_, fun j hj => ?_, fun j hj => ?_, ?_⟩
  · rw [hM j (by omega), hM (6 + j) (by omega), hM (12 + j) (by omega)]; exact c1 j hj
  · rw [hM (18 + j) (by omega), hM (42 + j) (by omega), hM (66 + j) (by omega), hM (90 + j) (by omega)]; exact c2 j hj
  · rw [hM (114 + j) (by omega), hM (130 + j) (by omega)]; exact c3 j hj
  · rw [hM 146 (by omega), hM 147 (by omega), hM 148 (by omega)]; exact c4
theorem jb_cp_at (M : jb_Mi) (f t n a j : Nat) : jb_cp M f t 0 0 n a j = if a = t ∧ j < n then M f j else M a j := by
  unfold jb_cp va_cpy
  by_cases h : a = t
  · subst h
    simp only [if_true, true_and, Nat.zero_le, Nat.zero_add, Nat.sub_zero]
  · simp [h]
theorem jb_cp_off {M : jb_Mi} {f t n a : Nat} (h : a ≠ t) : jb_cp M f t 0 0 n a = M a := if_neg h
/-- nine arrays copied -/
def cp9 (o o2 : Nat) (M : jb_Mi) : jb_Mi := (jb_cp (jb_cp (jb_cp (jb_cp (jb_cp (jb_cp (jb_cp (jb_cp (jb_cp M (o2 + 1) (o + 1) 0 0 6) (o2 + 2) (o + 2) 0 0 6) (o2 + 3) (o + 3) 0 0 6) (o2 + 4) (o + 4) 0 0 24) (o2 + 5) (o + 5) 0 0 24) (o2 + 6) (o + 6) 0 0 24) (o2 + 7) (o + 7) 0 0 24) (o2 + 8) (o + 8) 0 0 16) (o2 + 9) (o + 9) 0 0 16)
theorem cp9_off {o o2 : Nat} {M : jb_Mi} {a : Nat} (h : a ≤ o ∨ o + 9 < a) : cp9 o o2 M a = M a := by
  unfold cp9
  rw [jb_cp_off (by omega), jb_cp_off (by omega), jb_cp_off (by omega), jb_cp_off (by omega), jb_cp_off (by omega), jb_cp_off (by omega), jb_cp_off (by omega), jb_cp_off (by omega), jb_cp_off (by omega)]
theorem zf_102_eq {o o2 : Nat} (h : o ≠ o2) (M : jb_Mi) : zf_102 o o2 M = jb_up (jb_up (jb_up (cp9 o o2 M) o 9 (cp9 o o2 M o2 9)) o 10 (cp9 o o2 M o2 10)) o 11 (cp9 o o2 M o2 11) := by
  have e : zf_102 o o2 M = jb_up (jb_up (jb_up (cp9 o o2 M) o 9 (cp9 o o2 M o2 9)) o 10 (jb_up (cp9 o o2 M) o 9 (cp9 o o2 M o2 9) o2 10)) o 11 (jb_up (jb_up (cp9 o o2 M) o 9 (cp9 o o2 M o2 9)) o 10 (jb_up (cp9 o o2 M) o 9 (cp9 o o2 M o2 9) o2 10) o2 11) := rfl
  rw [e, jb_up_off (M := cp9 o o2 M) (Ne.symm h), jb_up_off (M := jb_up (cp9 o o2 M) o 9 _) (Ne.symm h), jb_up_off (M := cp9 o o2 M) (Ne.symm h)]
theorem jc_copy_off {o o2 : Nat} (h : o ≠ o2) (M : jb_Mi) {a : Nat} (ha : a < o ∨ o + 9 < a) : zf_102 o o2 M a = M a := by
  rw [zf_102_eq h, jb_up_off (by omega), jb_up_off (by omega), jb_up_off (by omega), cp9_off (by omega)]
theorem jc_copy {o o2 : Nat} {S : jSt} {M : jb_Mi} (hd : o + 9 < o2 ∨ o2 + 9 < o) (h : jC o2 S M) : jC o S (zf_102 o o2 M) := by
  obtain ⟨c1, c2, c3, c4⟩ := h
  rw [zf_102_eq (by omega)]
  refine ⟨fun j hj => ?_, fun j hj => ?_, fun j hj => ?_, ?_⟩
  · have q := c1 j hj
    refine ⟨?_, ?_, ?_⟩
    · rw [jb_up_off (by omega), jb_up_off (by omega), jb_up_off (by omega)]
      unfold cp9
      rw [jb_cp_off (by omega), jb_cp_off (by omega), jb_cp_off (by omega), jb_cp_off (by omega), jb_cp_off (by omega), jb_cp_off (by omega), jb_cp_off (by omega), jb_cp_off (by omega), jb_cp_at, if_pos (by omega)]
      exact q.1
    · rw [jb_up_off (by omega), jb_up_off (by omega), jb_up_off (by omega)]
      unfold cp9
      rw [jb_cp_off (by omega), jb_cp_off (by omega), jb_cp_off (by omega), jb_cp_off (by omega), jb_cp_off (by omega), jb_cp_off (by omega), jb_cp_off (by omega), jb_cp_at, if_pos (by omega), jb_cp_off (by omega)]
      exact q.2.1
    · rw [jb_up_off (by omega), jb_up_off (by omega), jb_up_off (by omega)]
      unfold cp9
      rw [jb_cp_off (by omega), jb_cp_off (by omega), jb_cp_off (by omega), jb_cp_off (by omega), jb_cp_off (by omega), jb_cp_off (by omega), jb_cp_at, if_pos (by omega), jb_cp_off (by omega), jb_cp_off (by omega)]
      exact q.2.2
  · have q := c2 j hj
    refine ⟨?_, ?_, ?_, ?_⟩
    · rw [jb_up_off (by omega), jb_up_off (by omega), jb_up_off (by omega)]
      unfold cp9
      rw [jb_cp_off (by omega), jb_cp_off (by omega), jb_cp_off (by omega), jb_cp_off (by omega), jb_cp_off (by omega), jb_cp_at, if_pos (by omega), jb_cp_off (by omega), jb_cp_off (by omega), jb_cp_off (by omega)]
      exact q.1
    · rw [jb_up_off (by omega), jb_up_off (by omega), jb_up_off (by omega)]
      unfold cp9
      rw [jb_cp_off (by omega), jb_cp_off (by omega), jb_cp_off (by omega), jb_cp_off (by omega), jb_cp_at, if_pos (by omega), jb_cp_off (by omega), jb_cp_off (by omega), jb_cp_off (by omega), jb_cp_off (by omega)]
      exact q.2.1
    · rw [jb_up_off (by omega), jb_up_off (by omega), jb_up_off (by omega)]
      unfold cp9
      rw [jb_cp_off (by omega), jb_cp_off (by omega), jb_cp_off (by omega), jb_cp_at, if_pos (by omega), jb_cp_off (by omega), jb_cp_off (by omega), jb_cp_off (by omega), jb_cp_off (by omega), jb_cp_off (by omega)]
      exact q.2.2.1
    · rw [jb_up_off (by omega), jb_up_off (by omega), jb_up_off (by omega)]
      unfold cp9
      rw [jb_cp_off (by omega), jb_cp_off (by omega), jb_cp_at, if_pos (by omega), jb_cp_off (by omega), jb_cp_off (by omega), jb_cp_off (by omega), jb_cp_off (by omega), jb_cp_off (by omega), jb_cp_off (by omega)]
      exact q.2.2.2
  · have q := c3 j hj
    refine ⟨?_, ?_⟩
    · rw [jb_up_off (by omega), jb_up_off (by omega), jb_up_off (by omega)]
      unfold cp9
      rw [jb_cp_off (by omega), jb_cp_at, if_pos (by omega), jb_cp_off (by omega), jb_cp_off (by omega), jb_cp_off (by omega), jb_cp_off (by omega), jb_cp_off (by omega), jb_cp_off (by omega), jb_cp_off (by omega)]
      exact q.1
    · rw [jb_up_off (by omega), jb_up_off (by omega), jb_up_off (by omega)]
      unfold cp9
      rw [jb_cp_at, if_pos (by omega), jb_cp_off (by omega), jb_cp_off (by omega), jb_cp_off (by omega), jb_cp_off (by omega), jb_cp_off (by omega), jb_cp_off (by omega), jb_cp_off (by omega), jb_cp_off (by omega)]
      exact q.2
  · rw [cp9_off (a := o2) (by omega)]
    simp only [jb_up_at, true_and]
    simp
    exact c4
theorem ca_keep {n : Nat} {M : jb_Mi} {N : jb_Ml} (hn : n < 512) (h : jInv n M N) : ∃ (r : Int32) (M1 : jb_Mi) (M2 : jb_Mi), zf_159 M = (r, M1) ∧ M1 0 = M 0 ∧ zf_266 M1 = some (r, M2) ∧ M2 0 = M 0 ∧ jInv (n + 1) M2 N := by
  obtain ⟨⟨S, hC, hD, hR, hT⟩, -, ⟨bs, hb⟩, ⟨R, hr⟩, hl⟩ := id h
  unfold zf_159 zf_266
  have o1 : ∀ a, a ≠ 1 → (a < 14 ∨ 23 < a) → jb_up (zf_102 14 4 M) 1 14 1 a = M a := by
    intro a h1 h2
    rw [jb_up_off h1, jc_copy_off (by decide) M (by omega)]
  obtain ⟨M2, k1, k2, k3⟩ := jd_copies (a1 := 80) (a2 := 82) (by decide) (jb_up (jb_up (zf_102 14 4 M) 1 14 1) 79 57 1)
  refine ⟨_, _, M2, rfl, o1 0 (by decide) (by decide), ?_, ?_, ?_⟩
  · rw [k1, Option.bind_some, k2 80 (by decide), jb_up_off (by decide), o1 80 (by decide) (by decide), o1 4 (by decide) (by decide), hD.2.2.2.2.1, hC.2.2.2.2.1]
  · rw [k2 0 (by decide), jb_up_off (by decide), o1 0 (by decide) (by decide)]
  · have o2 : ∀ a, a ≠ 1 → (a < 14 ∨ 23 < a) → a ≠ 79 → a ≠ 82 → M2 a = M a := by
      intro a h1 h2 h3 h4
      rw [k2 a h4, jb_up_off h3, o1 a h1 h2]
    have e4 : M2 79 4 = M 79 4 := by rw [k2 79 (by decide), jb_up_at, if_neg (by decide), o1 79 (by decide) (by decide)]
    have e13 : M2 79 13 = M 79 13 := by rw [k2 79 (by decide), jb_up_at, if_neg (by decide), o1 79 (by decide) (by decide)]
    refine ⟨⟨S, jC_of hC (fun a h1 h2 => o2 a (by omega) (by omega) (by omega) (by omega)), jD_of hD (o2 80 (by decide) (by decide) (by decide) (by decide)), hR, by omega⟩, Or.inr ⟨?_, ?_, S, ?_, ?_, hR, by omega⟩, ⟨bs, ?_⟩, ⟨R, ?_⟩, jLw_of hl (fun a h1 _ => o2 a (by omega) (by omega) (by omega) (by omega)) e13⟩
    · rw [k2 1 (by decide), jb_up_off (by decide), jb_up_at, if_pos (by decide)]
    · rw [k2 79 (by decide), jb_up_at, if_pos (by decide)]
    · refine jC_of (jc_copy (o := 14) (o2 := 4) (by omega) hC) (fun a h1 h2 => ?_)
      rw [k2 a (by omega), jb_up_off (by omega), jb_up_off (by omega)]
    · refine jD_copy (a1 := 80) hD (fun j hj => ?_)
      rw [k3 j hj, jb_up_off (by decide), o1 80 (by decide) (by decide)]
    · unfold jTp at hb ⊢
      rw [o2 2 (by decide) (by decide) (by decide) (by decide), o2 3 (by decide) (by decide) (by decide) (by decide), o2 83 (by decide) (by decide) (by decide) (by decide), e4]
      exact hb
    · unfold jRo at hr ⊢
      rw [o2 36 (by decide) (by decide) (by decide) (by decide), o2 98 (by decide) (by decide) (by decide) (by decide), o2 35 (by decide) (by decide) (by decide) (by decide), o2 97 (by decide) (by decide) (by decide) (by decide)]
      exact hr
theorem ca_undo {n : Nat} {M : jb_Mi} {N : jb_Ml} (hn : n < 512) (h : jInv n M N) : ∃ (r : Bool) (M1 : jb_Mi) (M2 : jb_Mi), zf_160 M = (r, M1) ∧ M1 0 = M 0 ∧ zf_267 M1 = some (r, M2) ∧ M2 0 = M 0 ∧ jInv (n + 1) M2 N := by
  obtain ⟨⟨S, hC, hD, hR, hT⟩, hk, -⟩ := id h
  unfold zf_160 zf_267
  rcases hk with ⟨e1, e2⟩ | ⟨e1, e2, K, kC, kD, kR, kT⟩
  · exact ⟨false, M, M, if_pos e1, rfl, if_pos e2, rfl, jInv_mono h⟩
  · have o1 : ∀ a, (a < 4 ∨ 13 < a) → zf_102 4 14 M a = M a := fun a h2 => jc_copy_off (by decide) M (by omega)
    obtain ⟨M2, k1, k2, k3⟩ := jd_copies (a1 := 82) (a2 := 80) (by decide) (zf_102 4 14 M)
    have o2 : ∀ a, (a < 4 ∨ 13 < a) → a ≠ 80 → M2 a = M a := by
      intro a h1 h2
      rw [k2 a h2, o1 a h1]
    refine ⟨true, zf_102 4 14 M, M2, if_neg (by rw [e1]; decide), o1 0 (by decide), ?_, o2 0 (by decide) (by decide), ?_⟩
    · rw [if_neg (by rw [o1 79 (by decide), e2]; decide), k1]
      rfl
    · refine jInv_street (S := K) h ?_ ?_ kR (by omega) (fun a ha => o2 a (by unfold jrel at ha; omega) (by unfold jrel at ha; omega)) (by rw [o2 79 (by decide) (by decide)]) (by rw [o2 79 (by decide) (by decide)]) (by rw [o2 79 (by decide) (by decide)])
      · refine jC_of (jc_copy (o := 4) (o2 := 14) (by omega) kC) (fun a h1 h2 => ?_)
        rw [k2 a (by omega)]
      · refine jD_copy (a1 := 82) kD (fun j hj => ?_)
        rw [k3 j hj, o1 82 (by decide)]
