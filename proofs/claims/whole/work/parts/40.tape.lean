/-! the tape: feed, check, bread -/
theorem jInv_tp {n : Nat} {M M' : jb_Mi} {N N' : jb_Ml} {bs : List Nat} (h : jInv n M N) (hs : ∀ a, jfix a → a ≠ 2 → a ≠ 3 → a ≠ 83 → M' a = M a) (hb : jTp bs M') (h13 : M' 79 13 = M 79 13) (h57 : M' 79 57 = M 79 57) : jInv (n + 1) M' N' := by
  obtain ⟨⟨S, hC, hD, hR, hT⟩, h2, -, ⟨R, h5⟩, h6⟩ := h
  have f : ∀ a, jrel a → jfix a := fun a ha => Or.inl ha
  refine ⟨⟨S, jC_of hC (fun a q1 q2 => hs a (Or.inr (Or.inl ⟨q1, q2⟩)) (by omega) (by omega) (by omega)), jD_of hD (hs 80 (Or.inr (Or.inr rfl)) (by decide) (by decide) (by decide)), hR, by omega⟩, ?_, ⟨bs, hb⟩, ⟨R, ?_⟩, jLw_of h6 (fun a h1 h2 => hs a (f a (by unfold jrel; omega)) (by omega) (by omega) (by omega)) h13⟩
  · unfold jKe at h2 ⊢
    rw [hs 1 (f 1 (by simp [jrel])) (by decide) (by decide) (by decide), h57]
    rcases h2 with h2 | ⟨b1, b2, K, b3, b4, b5, b6⟩
    · exact Or.inl h2
    · exact Or.inr ⟨b1, b2, K, jC_of b3 (fun a h1 h2 => hs a (f a (by unfold jrel; omega)) (by omega) (by omega) (by omega)), jD_of b4 (hs 82 (f 82 (by simp [jrel])) (by decide) (by decide) (by decide)), b5, by omega⟩
  · unfold jRo at h5 ⊢
    rw [hs 36 (f 36 (by simp [jrel])) (by decide) (by decide) (by decide), hs 98 (f 98 (by simp [jrel])) (by decide) (by decide) (by decide), hs 35 (f 35 (by simp [jrel])) (by decide) (by decide) (by decide), hs 97 (f 97 (by simp [jrel])) (by decide) (by decide) (by decide)]
    exact h5
theorem jTp_0 {M : jb_Mi} (h1 : M 2 1 = 0) (h2 : M 79 4 = 0) : jTp [] M := ⟨by simp, h1, h2, fun k hk => by simp at hk⟩
theorem cut0 (M : jb_Mi) {l : Nat} (h : M 2 1 = nI l) (hl : l ≤ 260) : zf_117 0 M = jb_up M 2 1 0 := by
  unfold zf_117
  rw [h, show zf_272 (nI l) 0 = nI (min l 0) from jn_min (b := 0) (by omega) (by decide), Nat.min_zero]
  rfl
theorem cutn (M : jb_Mi) {l n : Nat} (h : M 2 1 = nI l) (hl : l ≤ 260) (hn : n ≤ l) : zf_117 (nI n) M = jb_up M 2 1 (nI n) := by
  unfold zf_117
  rw [h, jn_min (by omega) (by omega), Nat.min_eq_right hn, show zf_271 0 (nI n) = nI (max 0 n) from jn_max (a := 0) (by decide) (by omega), Nat.zero_max]
/-- a byte of a word -/
noncomputable def by1 (x : Int32) (s : Int32) : Int32 := ((x : Int32).toUInt32 >>> ((s : Int32).toUInt32 &&& Int32.toUInt32 31)).toInt32 &&& 255
theorem by1_ok (x s : Int32) : ∃ j, j < 256 ∧ by1 x s = nI j := pk_andE _ 8 (by decide)
theorem by1_ref (x : Int32) : ∀ k, k < 4 → (((x >>> ((8 * nI k) &&& 31)) : Int32).toInt8.toInt32 : Int32).toInt8.toInt32 &&& 255 = by1 x (nI (8 * k)) := by
  intro k hk
  unfold by1
  have m : ∀ i, i < 32 → (255#32).getLsbD i = decide (i < 8) := by decide
  apply Int32.toBitVec_inj.mp
  rcases (show k = 0 ∨ k = 1 ∨ k = 2 ∨ k = 3 by omega) with rfl | rfl | rfl | rfl
  all_goals
    apply BitVec.eq_of_getLsbD_eq
    intro i hi
    simp [nI]
    rw [m i hi]
    by_cases c : i < 8
    · have c1 : i < 32 := hi
      have c2 : ¬ 32 ≤ i := by omega
      have c3 : 8 + i < 32 := by omega
      have c4 : 16 + i < 32 := by omega
      have c5 : 24 + i < 32 := by omega
      simp [c, c1, c2, c3, c4, c5, BitVec.getLsbD_signExtend, BitVec.getLsbD_sshiftRight, BitVec.getElem_signExtend, BitVec.getElem_sshiftRight]
    · simp [c]
def tC (bs : List Nat) (M : jb_Mi) : Prop := bs.length ≤ 260 ∧ M 2 1 = nI bs.length ∧ ∀ k, k < bs.length → bs.getD k 0 < 256 ∧ M 3 k = nI (bs.getD k 0)
def tD (bs : List Nat) (M : jb_Mi) : Prop := bs.length ≤ 260 ∧ M 79 4 = nI bs.length ∧ ∀ k, k < bs.length → M 83 k &&& 255 = nI (bs.getD k 0)
theorem jTp_of {bs : List Nat} {M : jb_Mi} (h1 : tC bs M) (h2 : tD bs M) : jTp bs M := ⟨h1.1, h1.2.1, h2.2.1, fun k hk => ⟨(h1.2.2 k hk).1, (h1.2.2 k hk).2, h2.2.2 k hk⟩⟩
theorem getD_app (bs : List Nat) (b k : Nat) (hk : k < bs.length + 1) : (bs ++ [b]).getD k 0 = if k = bs.length then b else bs.getD k 0 := by
  by_cases c : k = bs.length
  · subst c; simp
  · have c2 : k < bs.length := by omega
    simp [c, List.getElem?_append_left c2]
theorem tC_put {bs : List Nat} {M : jb_Mi} (h : tC bs M) (hl : bs.length < 260) (j : Nat) (hj : j < 256) : tC (bs ++ [j]) (jb_up (jb_up M 3 bs.length (nI j)) 2 1 (nI (bs.length + 1))) := by
  obtain ⟨h1, h2, h3⟩ := h
  refine ⟨by simp; omega, by simp [jb_up_at], fun k hk => ?_⟩
  have hk' : k < bs.length + 1 := by simpa using hk
  rw [getD_app bs j k hk', jb_up_off (show (3 : Nat) ≠ 2 by decide), jb_up_at]
  by_cases c : k = bs.length
  · rw [if_pos c, if_pos ⟨rfl, c⟩]; exact ⟨hj, rfl⟩
  · rw [if_neg c, if_neg (fun q => c q.2)]; exact h3 k (by omega)
theorem tD_put {bs : List Nat} {M : jb_Mi} (h : tD bs M) (hl : bs.length < 260) (j : Nat) {z : Int32} (hz : z &&& 255 = nI j) : tD (bs ++ [j]) (jb_up (jb_up M 83 bs.length z) 79 4 (nI (bs.length + 1))) := by
  obtain ⟨h1, h2, h3⟩ := h
  refine ⟨by simp; omega, by simp [jb_up_at], fun k hk => ?_⟩
  have hk' : k < bs.length + 1 := by simpa using hk
  rw [getD_app bs j k hk', jb_up_off (show (83 : Nat) ≠ 79 by decide), jb_up_at]
  by_cases c : k = bs.length
  · rw [if_pos c, if_pos ⟨rfl, c⟩, hz]
  · rw [if_neg c, if_neg (fun q => c q.2)]; exact h3 k (by omega)
/-- the bytes of a word -/
noncomputable def bt (x : Int32) (k : Nat) : Nat := (by1 x (nI (8 * k))).toNatClampNeg
theorem bt_ok (x : Int32) (k : Nat) : bt x k < 256 ∧ by1 x (nI (8 * k)) = nI (bt x k) := by
  obtain ⟨j, h1, h2⟩ := by1_ok x (nI (8 * k))
  unfold bt
  rw [h2, nI_clamp (by omega)]
  exact ⟨h1, rfl⟩
noncomputable def by4 (x : Int32) : List Nat := [bt x 3, bt x 2, bt x 1, bt x 0]
theorem put_1 {x : Int32} {bs : List Nat} {M : jb_Mi} (h : tC bs M) (hl : bs.length < 260) (k : Nat) (hk : k < 4) (y : Int32) (hy : y = nI (8 * k) + (-8)) : ∃ M', zf_115_H3 x (nI (8 * k), M) = some (.inl (y, M')) ∧ tC (bs ++ [bt x k]) M' ∧ ∀ a, a ≠ 2 → a ≠ 3 → M' a = M a := by
  obtain ⟨b1, b2⟩ := bt_ok x k
  refine ⟨_, ?_, tC_put h hl (bt x k) b1, fun a q1 q2 => by rw [jb_up_off q1, jb_up_off q2]⟩
  unfold zf_115_H3 zf_115_J43
  dsimp only
  rw [if_neg (nI_pos (by omega)), if_pos (show M 2 1 < 260 by rw [h.2.1]; exact nI_lt (b := 260) hl (by decide)), h.2.1, jn_gd hl (by decide), nI_clamp (by omega), jb_up_off (show (2 : Nat) ≠ 3 by decide), h.2.1, nI_1, hy]
  unfold by1 at b2
  rw [b2]
theorem put_4 (x : Int32) {bs : List Nat} {M : jb_Mi} (h : tC bs M) (hl : bs.length + 4 ≤ 260) : ∃ M', zf_115 x M = some M' ∧ tC (bs ++ by4 x) M' ∧ ∀ a, a ≠ 2 → a ≠ 3 → M' a = M a := by
  obtain ⟨M1, a1, a2, a3⟩ := put_1 (x := x) h (by omega) 3 (by omega) (nI (8 * 2)) (by decide)
  obtain ⟨M2, c1, c2, c3⟩ := put_1 (x := x) a2 (by simp; omega) 2 (by omega) (nI (8 * 1)) (by decide)
  obtain ⟨M3, d1, d2, d3⟩ := put_1 (x := x) c2 (by simp; omega) 1 (by omega) (nI (8 * 0)) (by decide)
  obtain ⟨M4, e1, e2, e3⟩ := put_1 (x := x) d2 (by simp; omega) 0 (by omega) (-8) (by decide)
  refine ⟨M4, ?_, by simpa [by4] using e2, fun a q1 q2 => by rw [e3 a q1 q2, d3 a q1 q2, c3 a q1 q2, a3 a q1 q2]⟩
  unfold zf_115
  rw [show ((24 : Int32), M) = (nI (8 * 3), M) from rfl, jb_lp_inl a1, jb_lp_inl c1, jb_lp_inl d1, jb_lp_inl e1]
  refine jb_lp_inr ?_
  unfold zf_115_H3
  exact if_pos (by dsimp only; decide)
theorem typ_1 {x : Int32} {bs : List Nat} {M : jb_Mi} (h : tD bs M) (hl : bs.length < 260) (k : Nat) (hk : k < 4) (y : Int32) (hy : y = nI k + (-1)) : ∃ M', zf_181_H2 x (nI k, M) = some (.inl (y, M')) ∧ tD (bs ++ [bt x k]) M' ∧ (∀ a, a ≠ 79 → a ≠ 83 → M' a = M a) ∧ ∀ j, j ≠ 4 → M' 79 j = M 79 j := by
  obtain ⟨b1, b2⟩ := bt_ok x k
  refine ⟨_, ?_, tD_put h hl (bt x k) ((by1_ref x k hk).trans b2), fun a q1 q2 => by rw [jb_up_off q1, jb_up_off q2], fun j hj => by rw [jb_up_at, if_neg (fun q => hj q.2), jb_up_off (by decide)]⟩
  unfold zf_181_H2
  dsimp only
  rw [if_neg (nI_pos (by omega)), h.2.1, jn_gd hl (by decide), nI_clamp (by omega), jb_up_off (show (79 : Nat) ≠ 83 by decide), h.2.1, nI_1, hy]
theorem typ_4 (x : Int32) {bs : List Nat} {M : jb_Mi} (h : tD bs M) (hl : bs.length + 4 ≤ 260) : ∃ M', zf_181 x M = some M' ∧ tD (bs ++ by4 x) M' ∧ (∀ a, a ≠ 79 → a ≠ 83 → M' a = M a) ∧ ∀ j, j ≠ 4 → M' 79 j = M 79 j := by
  obtain ⟨M1, a1, a2, a3, a4⟩ := typ_1 (x := x) h (by omega) 3 (by omega) (nI 2) (by decide)
  obtain ⟨M2, c1, c2, c3, c4⟩ := typ_1 (x := x) a2 (by simp; omega) 2 (by omega) (nI 1) (by decide)
  obtain ⟨M3, d1, d2, d3, d4⟩ := typ_1 (x := x) c2 (by simp; omega) 1 (by omega) (nI 0) (by decide)
  obtain ⟨M4, e1, e2, e3, e4⟩ := typ_1 (x := x) d2 (by simp; omega) 0 (by omega) (-1) (by decide)
  refine ⟨M4, ?_, by simpa [by4] using e2, fun a q1 q2 => by rw [e3 a q1 q2, d3 a q1 q2, c3 a q1 q2, a3 a q1 q2], fun j hj => by rw [e4 j hj, d4 j hj, c4 j hj, a4 j hj]⟩
  unfold zf_181
  rw [show ((3 : Int32), M) = (nI 3, M) from rfl, jb_lp_inl a1, jb_lp_inl c1, jb_lp_inl d1, jb_lp_inl e1]
  refine jb_lp_inr ?_
  unfold zf_181_H2
  exact if_pos (by dsimp only; decide)
theorem by4_len (x : Int32) : (by4 x).length = 4 := rfl
theorem ca_feed {n : Nat} {M : jb_Mi} {N : jb_Ml} (hn : n < 512) (h : jInv n M N) (a1 a2 a3 a4 a5 : Int32) : ∃ (r : Int32) (M1 : jb_Mi) (M2 : jb_Mi), zf_129 a1 a2 a3 a4 a5 M = some (r, M1) ∧ M1 0 = M 0 ∧ zf_182 a1 a2 a3 a4 a5 M1 = some (r, M2) ∧ M2 0 = M 0 ∧ jInv (n + 1) M2 N := by
  obtain ⟨-, -, ⟨bs, hb⟩, -, -⟩ := id h
  obtain ⟨b1, b2, b3, b4⟩ := hb
  have hC : tC bs M := ⟨b1, b2, fun k hk => ⟨(b4 k hk).1, (b4 k hk).2.1⟩⟩
  have hD : tD bs M := ⟨b1, b3, fun k hk => (b4 k hk).2.2⟩
  unfold zf_129 zf_114
  rw [b2, show nI bs.length + 20 = nI (bs.length + 20) from jn_addr _ 20]
  by_cases c : 260 < bs.length + 20
  · rw [if_pos (show (260 : Int32) < nI (bs.length + 20) from nI_lt (a := 260) c (by omega))]
    refine ⟨-1, M, M, rfl, rfl, ?_, rfl, jInv_mono h⟩
    unfold zf_182
    rw [b3, show nI bs.length + 20 = nI (bs.length + 20) from jn_addr _ 20, if_pos (show (260 : Int32) < nI (bs.length + 20) from nI_lt (a := 260) c (by omega))]
  · rw [if_neg (show ¬ (260 : Int32) < nI (bs.length + 20) from nI_nlt (a := 260) (by omega) (by decide)), if_neg (by decide)]
    obtain ⟨M1, p1, p2, p3⟩ := put_4 a1 hC (by omega)
    obtain ⟨M2, q1, q2, q3⟩ := put_4 a2 p2 (by simp [by4_len]; omega)
    obtain ⟨M3, r1, r2, r3⟩ := put_4 a3 q2 (by simp [by4_len]; omega)
    obtain ⟨M4, s1, s2, s3⟩ := put_4 a4 r2 (by simp [by4_len]; omega)
    obtain ⟨M5, t1, t2, t3⟩ := put_4 a5 s2 (by simp [by4_len]; omega)
    have fC : ∀ a, a ≠ 2 → a ≠ 3 → M5 a = M a := fun a x1 x2 => by rw [t3 a x1 x2, s3 a x1 x2, r3 a x1 x2, q3 a x1 x2, p3 a x1 x2]
    have hD5 : tD bs M5 := by
      unfold tD
      rw [fC 79 (by decide) (by decide), fC 83 (by decide) (by decide)]
      exact hD
    obtain ⟨L1, u1, u2, u3, u4⟩ := typ_4 a1 hD5 (by omega)
    obtain ⟨L2, v1, v2, v3, v4⟩ := typ_4 a2 u2 (by simp [by4_len]; omega)
    obtain ⟨L3, w1, w2, w3, w4⟩ := typ_4 a3 v2 (by simp [by4_len]; omega)
    obtain ⟨L4, x1, x2, x3, x4⟩ := typ_4 a4 w2 (by simp [by4_len]; omega)
    obtain ⟨L5, y1, y2, y3, y4⟩ := typ_4 a5 x2 (by simp [by4_len]; omega)
    have fD : ∀ a, a ≠ 79 → a ≠ 83 → L5 a = M5 a := fun a z1 z2 => by rw [y3 a z1 z2, x3 a z1 z2, w3 a z1 z2, v3 a z1 z2, u3 a z1 z2]
    have f79 : ∀ j, j ≠ 4 → L5 79 j = M 79 j := fun j hj => by rw [y4 j hj, x4 j hj, w4 j hj, v4 j hj, u4 j hj, fC 79 (by decide) (by decide)]
    refine ⟨M5 2 1, M5, L5, ?_, fC 0 (by decide) (by decide), ?_, ?_, ?_⟩
    · rw [p1, Option.bind_some, q1, Option.bind_some, r1, Option.bind_some, s1, Option.bind_some, t1, Option.bind_some]
    · unfold zf_182
      rw [hD5.2.1, show nI bs.length + 20 = nI (bs.length + 20) from jn_addr _ 20, if_neg (show ¬ (260 : Int32) < nI (bs.length + 20) from nI_nlt (a := 260) (by omega) (by decide)), u1, Option.bind_some, v1, Option.bind_some, w1, Option.bind_some, x1, Option.bind_some, y1, Option.bind_some, y2.2.1, t2.2.1]
    · rw [fD 0 (by decide) (by decide), fC 0 (by decide) (by decide)]
    · have t2' : tC (bs ++ by4 a1 ++ by4 a2 ++ by4 a3 ++ by4 a4 ++ by4 a5) L5 := by
        unfold tC
        rw [fD 2 (by decide) (by decide), fD 3 (by decide) (by decide)]
        exact t2
      refine jInv_tp h (fun a z1 z2 z3 z4 => ?_) (jTp_of t2' y2) (f79 13 (by decide)) (f79 57 (by decide))
      rw [fD a (by unfold jfix jrel at z1; omega) z4, fC a z2 z3]
theorem byteAt {bs : List Nat} {M : jb_Mi} (h : tC bs M) {k : Nat} (hk : k < bs.length) : zf_30 (nI k) M = some (nI (bs.getD k 0)) := by
  have := h.1
  unfold zf_30
  rw [if_neg (nI_pos (by omega)), h.2.1, if_pos (nI_lt hk (by omega)), jn_gd (by omega) (by decide), nI_clamp (by omega), (h.2.2 k hk).2]
theorem octet {bs : List Nat} {M : jb_Mi} (h : tD bs M) {k : Nat} (hk : k < bs.length) : zf_183 (nI k) M = some (nI (bs.getD k 0)) := by
  have := h.1
  unfold zf_183
  rw [jn_gd (by omega) (by decide), nI_clamp (by omega), h.2.2 k hk]
/-- bytes below some place stay what they were when the tape is cut -/
def oD (bs : List Nat) (M : jb_Mi) : Prop := ∀ k, k < bs.length → k < 260 ∧ bs.getD k 0 < 256 ∧ M 83 k &&& 255 = nI (bs.getD k 0)
theorem octet' {bs : List Nat} {M : jb_Mi} (h : oD bs M) {k : Nat} (hk : k < bs.length) : zf_183 (nI k) M = some (nI (bs.getD k 0)) := by
  obtain ⟨h1, h2, h3⟩ := h k hk
  unfold zf_183
  rw [jn_gd h1 (by decide), nI_clamp (by omega), h3]
