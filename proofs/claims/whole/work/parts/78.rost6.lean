/-! ROSTERS: the case -/
/-- the class writes the roster down -/
def rcE (q : Nat) (F : (Nat × Nat) ⊕ (Nat × (Nat → Nat))) (M M' : jb_Mi) : Prop := (∀ a, a ≠ 35 → a ≠ 36 → M' a = M a) ∧ match F with
  | .inl _ => M' = M
  | .inr y => M' 36 q = nI y.1 ∧ (∀ j, j ≠ q → M' 36 j = M 36 j) ∧ (∀ k, k < y.1 → M' 35 (48 * q + k) = cv (y.2 k)) ∧ ∀ j, (j < 48 * q ∨ 48 * q + 48 ≤ j) → M' 35 j = M 35 j
theorem jc_post {q l : Nat} {h : Nat → Nat} {M : jb_Mi} (hq : q < 24) (hl : l ≤ 48) (h3 : M 34 3 = nI l) (hh : ∀ k, k < l → M 37 k = cv (h k)) : ∃ M', zf_100 (nI q) M = some M' ∧ rcE q (.inr (l, h)) M M' := by
  unfold zf_100
  rw [show zf_23 (nI q) 0 23 = true from jn_wl (l := 0) (k := 23) (Nat.zero_le _) (show q ≤ 23 by omega) (by decide), jb_yes, h3, jn_mulr]
  unfold jb_gc
  have hn : ¬ nI (q * 48) < 0 := nI_pos (by omega)
  rw [nI_clamp (show q * 48 < 2 ^ 31 by omega), nI_clamp (show l < 2 ^ 31 by omega), if_pos ⟨by decide, hn, nI_pos (by omega), by rw [show (0 : Int32).toNatClampNeg = 0 from rfl]; omega, by omega⟩, jn_gd (by omega) (by decide), nI_clamp (by omega)]
  refine ⟨_, rfl, ?_, ?_, ?_, ?_, ?_⟩
  · intro a a1 a2
    rw [jb_up_off a2]
    exact if_neg a1
  · dsimp only
    rw [jb_up_at, if_pos ⟨rfl, rfl⟩]
    show jb_cp M 37 35 0 (q * 48) l 34 3 = nI l
    unfold jb_cp
    rw [if_neg (by decide), h3]
  · intro j hj
    rw [jb_up_at, if_neg (by omega)]
    unfold jb_cp
    rw [if_neg (by decide)]
  · intro k hk
    dsimp only at hk ⊢
    rw [jb_up_off (by decide)]
    unfold jb_cp
    rw [if_pos rfl, pk_cpy_in (by omega) (by omega), show 0 + (48 * q + k - q * 48) = k by omega, hh k hk]
  · intro j hj
    rw [jb_up_off (by decide)]
    unfold jb_cp
    rw [if_pos rfl, pk_cpy_out (by omega)]
theorem zf_74_neg {x q : Nat} (hx : x ≤ 9) (hq : q < 300) : ¬ (0 : Int32) < zf_74 (nI x) (nI q) := by
  have e : zf_74 (nI x) (nI q) = (-1000) * nI x - nI q := rfl
  have h2 : (-1000 : Int32) * nI x - nI q = nI 0 - nI (1000 * x + q) := by
    rw [show (-1000 : Int32) = - nI 1000 from rfl, Int32.neg_mul, jn_mul, ← nI_add, show (nI 0 : Int32) = 0 from rfl, Int32.zero_sub, Int32.neg_add]
  rw [e, h2]
  by_cases c : 1000 * x + q = 0
  · rw [c]
    decide
  · have := pk_sneg (a := 0) (b := 1000 * x + q) (by omega) (by omega)
    rw [fa_ltx] at this ⊢
    omega
theorem jRo_set {R : Nat → List Nat} {q l : Nat} {h : Nat → Nat} {M M' : jb_Mi} (hr : jRo R M) (hq : q < 24) (hl : l ≤ 48) (hh : ∀ k, k < l → h k ≤ 16) (a1 : M' 36 q = nI l) (a2 : ∀ j, j ≠ q → M' 36 j = M 36 j) (a3 : ∀ k, k < l → M' 35 (48 * q + k) = cv (h k)) (a4 : ∀ j, (j < 48 * q ∨ 48 * q + 48 ≤ j) → M' 35 j = M 35 j) (b1 : M' 98 q = nI l) (b2 : ∀ j, j ≠ q → M' 98 j = M 98 j) (b3 : ∀ k, k < l → M' 97 (48 * q + k) = dv (h k)) (b4 : ∀ j, (j < 48 * q ∨ 48 * q + 48 ≤ j) → M' 97 j = M 97 j) : jRo (fun q' => if q' = q then (List.range l).map h else R q') M' := by
  intro q' hq'
  dsimp only
  by_cases c : q' = q
  · subst c
    rw [if_pos rfl, List.length_map, List.length_range]
    refine ⟨hl, a1, b1, fun k hk => ?_⟩
    have e : ((List.range l).map h).getD k 16 = h k := by
      rw [List.getD_eq_getElem?_getD, List.getElem?_map, List.getElem?_range hk]
      rfl
    rw [e, a3 k hk, b3 k hk]
    have := hh k hk
    unfold cv dv
    by_cases c2 : h k = 16
    · rw [if_pos c2, if_pos c2]
      exact Or.inr ⟨c2, rfl, rfl⟩
    · rw [if_neg c2, if_neg c2]
      exact Or.inl ⟨by omega, rfl, rfl⟩
  · rw [if_neg c]
    obtain ⟨r1, r2, r3, r4⟩ := hr q' hq'
    refine ⟨r1, by rw [a2 q' c, r2], by rw [b2 q' c, r3], fun k hk => ?_⟩
    rw [a4 _ (by omega), b4 _ (by omega)]
    exact r4 k hk
theorem jInv_ro {n : Nat} {M M' : jb_Mi} {N N' : jb_Ml} {R : Nat → List Nat} (h : jInv n M N) (hs : ∀ a, jfix a → a ≠ 2 → a ≠ 3 → a ≠ 83 → a ≠ 35 → a ≠ 36 → a ≠ 97 → a ≠ 98 → M' a = M a) (hb : jTp [] M') (hr : jRo R M') (h13 : M' 79 13 = M 79 13) (h57 : M' 79 57 = M 79 57) : jInv (n + 1) M' N' := by
  obtain ⟨⟨S, hC, hD, hR, hT⟩, h2, -, -, h6⟩ := h
  have f : ∀ a, jrel a → jfix a := fun a ha => Or.inl ha
  refine ⟨⟨S, jC_of hC (fun a q1 q2 => hs a (Or.inr (Or.inl ⟨q1, q2⟩)) (by omega) (by omega) (by omega) (by omega) (by omega) (by omega) (by omega)), jD_of hD (hs 80 (Or.inr (Or.inr rfl)) (by decide) (by decide) (by decide) (by decide) (by decide) (by decide) (by decide)), hR, by omega⟩, ?_, ⟨[], hb⟩, ⟨R, hr⟩, jLw_of h6 (fun a h1 h2 => hs a (f a (by unfold jrel; omega)) (by omega) (by omega) (by omega) (by omega) (by omega) (by omega) (by omega)) h13⟩
  unfold jKe at h2 ⊢
  rw [hs 1 (f 1 (by simp [jrel])) (by decide) (by decide) (by decide) (by decide) (by decide) (by decide) (by decide), h57]
  rcases h2 with h2 | ⟨b1, b2, K, b3, b4, b5, b6⟩
  · exact Or.inl h2
  · exact Or.inr ⟨b1, b2, K, jC_of b3 (fun a h1 h2 => hs a (f a (by unfold jrel; omega)) (by omega) (by omega) (by omega) (by omega) (by omega) (by omega) (by omega)), jD_of b4 (hs 82 (f 82 (by simp [jrel])) (by decide) (by decide) (by decide) (by decide) (by decide) (by decide) (by decide)), b5, by omega⟩
theorem ca_roster {n : Nat} {M : jb_Mi} {N : jb_Ml} (hn : n < 512) (h : jInv n M N) (a1 a2 a3 : Int32) : ∃ (r : Int32) (M1 : jb_Mi) (M2 : jb_Mi), zf_131 a1 a2 a3 M = some (r, M1) ∧ M1 0 = M 0 ∧ zf_215 a1 a2 a3 M1 = some (r, M2) ∧ M2 0 = M 0 ∧ jInv (n + 1) M2 N := by
  obtain ⟨-, -, ⟨bs, hb⟩, ⟨R, hr⟩, -⟩ := id h
  obtain ⟨b1, b2, b3, b4⟩ := hb
  by_cases c1 : zf_23 a1 0 5 = false
  · refine ⟨-1, M, M, ?_, rfl, ?_, rfl, jInv_mono h⟩
    · unfold zf_131; rw [c1, jb_no]
    · unfold zf_215; rw [show zf_164 a1 0 5 = false from c1, jb_no]
  have c1' : zf_23 a1 0 5 = true := by simpa using c1
  by_cases c2 : zf_23 a2 0 3 = false
  · refine ⟨-1, M, M, ?_, rfl, ?_, rfl, jInv_mono h⟩
    · unfold zf_131; rw [c1', jb_yes, c2, jb_no]
    · unfold zf_215; rw [show zf_164 a1 0 5 = true from c1', jb_yes, show zf_164 a2 0 3 = false from c2, jb_no]
  have c2' : zf_23 a2 0 3 = true := by simpa using c2
  by_cases c3 : zf_23 a3 1 40 = false
  · refine ⟨-1, M, M, ?_, rfl, ?_, rfl, jInv_mono h⟩
    · unfold zf_131; rw [c1', jb_yes, c2', jb_yes, c3, jb_no]
    · unfold zf_215; rw [show zf_164 a1 0 5 = true from c1', jb_yes, show zf_164 a2 0 3 = true from c2', jb_yes, show zf_164 a3 1 40 = false from c3, jb_no]
  have c3' : zf_23 a3 1 40 = true := by simpa using c3
  obtain ⟨i, hi, rfl⟩ := jn_in (x := a1) 5 (by decide) c1
  obtain ⟨c, hc, rfl⟩ := jn_in (x := a2) 3 (by decide) c2
  obtain ⟨m, hm1, hm2, rfl⟩ := jn_in1 (x := a3) 1 40 (by decide) (by decide) c3
  by_cases c4 : bs.length < m
  · have c5 : nI bs.length < nI m := nI_lt c4 (by omega)
    refine ⟨-1, M, M, ?_, rfl, ?_, rfl, jInv_mono h⟩
    · unfold zf_131 zf_116
      rw [c1', jb_yes, c2', jb_yes, c3', jb_yes, if_pos (show M 2 1 < nI m by rw [b2]; exact c5), jb_no]
    · unfold zf_215
      rw [show zf_164 (nI i) 0 5 = true from c1', jb_yes, show zf_164 (nI c) 0 3 = true from c2', jb_yes, show zf_164 (nI m) 1 40 = true from c3', jb_yes, if_pos (show M 79 4 < nI m by rw [b3]; exact c5)]
  have c5 : ¬ nI bs.length < nI m := nI_nlt (by omega) (by omega)
  -- the bytes
  have e131 : zf_131 (nI i) (nI c) (nI m) M = (zf_99 (jb_up M 2 1 (nI m))).bind fun q1 => if 0 < q1.1 then (zf_100 (nI (4 * i + c)) (zf_117 0 q1.2)).bind fun q2 => some (q1.1, q2) else some (q1.1, (zf_117 0 q1.2)) := by
    unfold zf_131 zf_116
    rw [c1', jb_yes, c2', jb_yes, c3', jb_yes, if_neg (show ¬ M 2 1 < nI m by rw [b2]; exact c5), jb_yes, cutn M b2 b1 (by omega), jn_mulr, nI_add, Nat.mul_comm i 4]
  have hTC : tcB (fun k => bs.getD k 0) m (jb_up (jb_up (jb_up M 2 1 (nI m)) 34 3 0) 34 7 0) := by
    refine ⟨by omega, ?_, fun k hk => ⟨(b4 k (by omega)).1, ?_⟩⟩
    · rw [jb_up_off (by decide), jb_up_off (by decide), jb_up_at, if_pos ⟨rfl, rfl⟩]
    · rw [jb_up_off (by decide), jb_up_off (by decide), jb_up_off (by decide), (b4 k (by omega)).2.1]
  have hk0 : rok 0 0 (fun _ => 0) (fun _ => (0, 0, 0)) := ⟨by omega, by omega, fun k hk => by omega, fun k hk => by omega⟩
  obtain ⟨M1, r1, r2, r3⟩ := jc_rs (show m < 300 by omega) (m + 1) 0 0 0 0 (fun _ => 0) (fun _ => (0, 0, 0)) _ hTC hk0 ⟨by rw [jb_up_at, if_neg (by omega), jb_up_at, if_pos ⟨rfl, rfl⟩]; rfl, by rw [jb_up_at, if_pos ⟨rfl, rfl⟩]; rfl, fun k hk => by omega, fun k hk => by omega⟩ (by omega) (fun y => absurd rfl y) (by omega) (by omega)
  generalize hF : rsF (fun k => bs.getD k 0) m (m + 1) 0 0 0 0 (fun _ => 0) (fun _ => (0, 0, 0)) = F at r1 r3
  have f1 : ∀ a, a ≠ 2 → a ≠ 34 → a ≠ 37 → a ≠ 38 → a ≠ 39 → a ≠ 40 → M1 a = M a := fun a q0 q1 q2 q3 q4 q5 => by rw [r2 a q1 q2 q3 q4 q5, jb_up_off q1, jb_up_off q1, jb_up_off q0]
  have e2 : M1 2 1 = nI m := by rw [r2 2 (by decide) (by decide) (by decide) (by decide) (by decide), jb_up_off (by decide), jb_up_off (by decide), jb_up_at, if_pos ⟨rfl, rfl⟩]
  have ecl : ∃ M2, zf_131 (nI i) (nI c) (nI m) M = some (rsr F, M2) ∧ rcE (4 * i + c) F (jb_up M1 2 1 0) M2 := by
    rw [e131]
    unfold zf_99
    rw [show jb_lp zf_99_H14 (0, 0, jb_up (jb_up (jb_up M 2 1 (nI m)) 34 3 0) 34 7 0) = some (rsr F, M1) from r1, Option.bind_some]
    dsimp only
    rw [cut0 M1 e2 (by omega)]
    cases F with
    | inl y =>
      refine ⟨jb_up M1 2 1 0, ?_, fun a _ _ => rfl, rfl⟩
      rw [if_neg (show ¬ (0 : Int32) < rsr (.inl y) from zf_74_neg r3.1 r3.2)]
    | inr y =>
      obtain ⟨y1, y2, y3, y4⟩ := r3
      obtain ⟨M2, p1, p2⟩ := jc_post (q := 4 * i + c) (l := y.1) (h := y.2) (M := jb_up M1 2 1 0) (by omega) y2 (by rw [jb_up_off (by decide), y3]) (fun k hk => by rw [jb_up_off (by decide), (y4 k hk).2])
      refine ⟨M2, ?_, p2⟩
      rw [if_pos (show (0 : Int32) < rsr (.inr y) from nI_lt (a := 0) y1 (by omega)), p1, Option.bind_some]
  obtain ⟨M2, s1, s2⟩ := ecl
  refine ⟨rsr F, M2, ?_⟩
  have f2 : ∀ a, a ≠ 2 → a ≠ 34 → a ≠ 37 → a ≠ 38 → a ≠ 39 → a ≠ 40 → a ≠ 35 → a ≠ 36 → M2 a = M a := fun a q0 q1 q2 q3 q4 q5 q6 q7 => by rw [s2.1 a q6 q7, jb_up_off q0, f1 a q0 q1 q2 q3 q4 q5]
  have e79 : M2 79 = M 79 := f2 79 (by decide) (by decide) (by decide) (by decide) (by decide) (by decide) (by decide) (by decide)
  have hTD : tdB (fun k => bs.getD k 0) m (jb_up (jb_up (zf_204 (nI m) M2) 79 33 0) 79 34 0) := by
    refine ⟨by omega, ?_, fun k hk => ⟨(b4 k (by omega)).1, ?_⟩⟩
    · unfold zf_204
      simp [jb_up_at]
    · unfold zf_204
      simp only [jb_up_off (show (83 : Nat) ≠ 79 by decide)]
      rw [f2 83 (by decide) (by decide) (by decide) (by decide) (by decide) (by decide) (by decide) (by decide), (b4 k (by omega)).2.2]
  have hDR : dR 0 0 0 (fun _ => 0) (fun _ => (0, 0, 0)) (jb_up (jb_up (zf_204 (nI m) M2) 79 33 0) 79 34 0) := by
    refine ⟨?_, ?_, ?_, fun k hk => by omega, fun k hk => by omega⟩
    · unfold zf_204
      simp [jb_up_at]
      rfl
    · unfold zf_204
      simp [jb_up_at]
      rfl
    · unfold zf_204
      simp [jb_up_at]
      rfl
  obtain ⟨x, t1, t2⟩ := jd_item (show m < 300 by omega) (f := m + 1) hTD hk0 hDR (by omega) (by omega) (by omega) (fun _ => rfl)
  rw [hF] at t2
  obtain ⟨M3, y, u1, u2, u3⟩ := jd_items (show i < 6 by omega) (show c < 4 by omega) (show m < 300 by omega) hTD (m + 1) 1 x (by omega) t2
  have e215 : zf_215 (nI i) (nI c) (nI m) M2 = some y := by
    unfold zf_215
    rw [show zf_164 (nI i) 0 5 = true from c1', jb_yes, show zf_164 (nI c) 0 3 = true from c2', jb_yes, show zf_164 (nI m) 1 40 = true from c3', jb_yes, if_neg (show ¬ M2 79 4 < nI m by rw [e79, b3]; exact c5), t1, Option.bind_some, u1]
  obtain ⟨v1, v2, v3, v4, v5⟩ := u3
  have f3 : ∀ a, a ≠ 79 → a ≠ 97 → a ≠ 98 → a ≠ 99 → a ≠ 100 → a ≠ 101 → a ≠ 102 → y.2 a = M2 a := fun a q0 q1 q2 q3 q4 q5 q6 => by
    rw [v3 a q0 q1 q2, u2.1 a q0 q3 q4 q5 q6, jb_up_off q0, jb_up_off q0]
    unfold zf_204
    rw [jb_up_off q0, jb_up_off q0, jb_up_off q0, jb_up_off q0]
  have f79 : ∀ j, j = 13 ∨ j = 57 → y.2 79 j = M 79 j := fun j hj => by
    rw [v4 j (by omega), u2.2 j (by omega) (by omega) (by omega) (by omega) (by omega) (by omega), jb_up_at, if_neg (by omega), jb_up_at, if_neg (by omega)]
    unfold zf_204
    rw [jb_up_at, if_neg (by omega), jb_up_at, if_neg (by omega), jb_up_at, if_neg (by omega), jb_up_at, if_neg (by omega), e79]
  have f97 : ∀ a, a = 97 ∨ a = 98 → M3 a = M a := fun a ha => by
    rw [u2.1 a (by omega) (by omega) (by omega) (by omega) (by omega), jb_up_off (by omega), jb_up_off (by omega)]
    unfold zf_204
    rw [jb_up_off (by omega), jb_up_off (by omega), jb_up_off (by omega), jb_up_off (by omega), f2 a (by omega) (by omega) (by omega) (by omega) (by omega) (by omega) (by omega) (by omega)]
  have f35 : ∀ a, a = 35 ∨ a = 36 → jb_up M1 2 1 0 a = M a := fun a ha => by
    rw [jb_up_off (by omega), f1 a (by omega) (by omega) (by omega) (by omega) (by omega) (by omega)]
  have hb0 : jTp [] y.2 := jTp_0 (by rw [f3 2 (by decide) (by decide) (by decide) (by decide) (by decide) (by decide) (by decide), s2.1 2 (by decide) (by decide), jb_up_at, if_pos ⟨rfl, rfl⟩]) v2
  have hfr : ∀ a, jfix a → a ≠ 2 → a ≠ 3 → a ≠ 83 → a ≠ 35 → a ≠ 36 → a ≠ 97 → a ≠ 98 → y.2 a = M a := fun a z0 z1 z2 z3 z4 z5 z6 z7 => by
    have hj : a ≠ 79 ∧ a ≠ 99 ∧ a ≠ 100 ∧ a ≠ 101 ∧ a ≠ 102 ∧ a ≠ 34 ∧ a ≠ 37 ∧ a ≠ 38 ∧ a ≠ 39 ∧ a ≠ 40 := by unfold jfix jrel at z0; omega
    rw [f3 a hj.1 z6 z7 hj.2.1 hj.2.2.1 hj.2.2.2.1 hj.2.2.2.2.1, f2 a z1 hj.2.2.2.2.2.1 hj.2.2.2.2.2.2.1 hj.2.2.2.2.2.2.2.1 hj.2.2.2.2.2.2.2.2.1 hj.2.2.2.2.2.2.2.2.2 z4 z5]
  refine ⟨y.2, s1, f2 0 (by decide) (by decide) (by decide) (by decide) (by decide) (by decide) (by decide) (by decide), by rw [e215, ← v1], by rw [f3 0 (by decide) (by decide) (by decide) (by decide) (by decide) (by decide) (by decide), f2 0 (by decide) (by decide) (by decide) (by decide) (by decide) (by decide) (by decide) (by decide)], ?_⟩
  cases F with
  | inl z =>
    refine jInv_ro (R := R) h hfr hb0 (jRo_of hr ?_ ?_ ?_ ?_) (f79 13 (by omega)) (f79 57 (by omega))
    · rw [f3 36 (by decide) (by decide) (by decide) (by decide) (by decide) (by decide) (by decide), s2.2, f35 36 (by decide)]
    · rw [v5.2, f97 98 (by decide)]
    · rw [f3 35 (by decide) (by decide) (by decide) (by decide) (by decide) (by decide) (by decide), s2.2, f35 35 (by decide)]
    · rw [v5.1, f97 97 (by decide)]
  | inr z =>
    obtain ⟨y1, y2, y3, y4⟩ := r3
    obtain ⟨m1, m2, m3, m4⟩ := s2.2
    obtain ⟨n1, n2, n3, n4⟩ := v5
    have g35 : y.2 35 = M2 35 := f3 35 (by decide) (by decide) (by decide) (by decide) (by decide) (by decide) (by decide)
    have g36 : y.2 36 = M2 36 := f3 36 (by decide) (by decide) (by decide) (by decide) (by decide) (by decide) (by decide)
    refine jInv_ro h hfr hb0 (jRo_set (q := 4 * i + c) (l := z.1) (h := z.2) hr (by omega) y2 (fun k hk => (y4 k hk).1) (by rw [g36, m1]) (fun j hj => by rw [g36, m2 j hj, f35 36 (by decide)]) (fun k hk => by rw [g35, m3 k hk]) (fun j hj => by rw [g35, m4 j hj, f35 35 (by decide)]) n1 (fun j hj => by rw [n2 j hj, f97 98 (by decide)]) n3 (fun j hj => by rw [n4 j hj, f97 97 (by decide)])) (f79 13 (by omega)) (f79 57 (by omega))
