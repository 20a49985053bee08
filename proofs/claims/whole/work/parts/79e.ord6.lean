/-! ORDERS: the case -/
theorem jInv_or {n : Nat} {M M' : jb_Mi} {N N' : jb_Ml} {S : jSt} (h : jInv n M N) (hC : jC 4 S M') (hD : jD 80 S M') (hR : jR S) (hT : 24 * S 9 1 + S 9 0 ≤ 240 * (n + 1)) (hs : ∀ a, jrel a → a ≠ 2 → M' a = M a) (hb : jTp [] M') (h13 : M' 79 13 = M 79 13) (h57 : M' 79 57 = M 79 57) : jInv (n + 1) M' N' := by
  obtain ⟨-, h2, -, ⟨R, h5⟩, h6⟩ := h
  refine ⟨⟨S, hC, hD, hR, hT⟩, ?_, ⟨[], hb⟩, ⟨R, jRo_of h5 (hs 36 (by simp [jrel]) (by decide)) (hs 98 (by simp [jrel]) (by decide)) (hs 35 (by simp [jrel]) (by decide)) (hs 97 (by simp [jrel]) (by decide))⟩, jLw_of h6 (fun a h1 h2 => hs a (by unfold jrel; omega) (by omega)) h13⟩
  unfold jKe at h2 ⊢
  rw [hs 1 (by simp [jrel]) (by decide), h57]
  rcases h2 with h2 | ⟨b1, b2, K, b3, b4, b5, b6⟩
  · exact Or.inl h2
  · exact Or.inr ⟨b1, b2, K, jC_of b3 (fun a h1 h2 => hs a (by unfold jrel; omega) (by omega)), jD_of b4 (hs 82 (by simp [jrel]) (by decide)), b5, by omega⟩
def ofC (S : jSt) (F : (Nat × Nat) ⊕ (Nat × jSt)) (M : jb_Mi) : Prop := match F with
  | .inl _ => jC 4 S M
  | .inr y => jC 4 y.2 M
theorem ca_orders {n : Nat} {M : jb_Mi} {N : jb_Ml} (hn : n < 512) (h : jInv n M N) (a1 : Int32) : ∃ (r : Int32) (M1 : jb_Mi) (M2 : jb_Mi), zf_132 a1 M = some (r, M1) ∧ M1 0 = M 0 ∧ zf_222 a1 M1 = some (r, M2) ∧ M2 0 = M 0 ∧ jInv (n + 1) M2 N := by
  obtain ⟨⟨S, hC, hD, hR, hT⟩, -, ⟨bs, hb⟩, -, -⟩ := id h
  obtain ⟨b1, b2, b3, b4⟩ := hb
  by_cases c1 : zf_23 a1 1 120 = false
  · refine ⟨-1, M, M, ?_, rfl, ?_, rfl, jInv_mono h⟩
    · unfold zf_132; rw [c1, jb_no]
    · unfold zf_222; rw [show zf_164 a1 1 120 = false from c1, jb_no]
  have c1' : zf_23 a1 1 120 = true := by simpa using c1
  obtain ⟨m, hm1, hm2, rfl⟩ := jn_in1 (x := a1) 1 120 (by decide) (by decide) c1
  by_cases c4 : bs.length < m
  · have c5 : nI bs.length < nI m := nI_lt c4 (by omega)
    refine ⟨-1, M, M, ?_, rfl, ?_, rfl, jInv_mono h⟩
    · unfold zf_132 zf_116
      rw [c1', jb_yes, if_pos (show M 2 1 < nI m by rw [b2]; exact c5), jb_no]
    · unfold zf_222
      rw [show zf_164 (nI m) 1 120 = true from c1', jb_yes, if_pos (show M 79 4 < nI m by rw [b3]; exact c5)]
  have c5 : ¬ nI bs.length < nI m := nI_nlt (by omega) (by omega)
  -- the class, on the trial street
  have e132 : zf_132 (nI m) M = (zf_93 (zf_102 24 4 (jb_up M 2 1 (nI m)))).bind fun q1 => if 0 < q1.1 then some (q1.1, (zf_102 4 24 (zf_117 0 q1.2))) else some (q1.1, (zf_117 0 q1.2)) := by
    unfold zf_132 zf_116
    rw [c1', jb_yes, if_neg (show ¬ M 2 1 < nI m by rw [b2]; exact c5), jb_yes, cutn M b2 b1 (by omega)]
  have hM0C : jC 24 S (zf_102 24 4 (jb_up M 2 1 (nI m))) := jc_copy (o := 24) (o2 := 4) (by omega) (jC_of hC (fun a h1 h2 => jb_up_off (by omega)))
  have hM0 : ∀ a, a ≠ 2 → (a < 24 ∨ 33 < a) → zf_102 24 4 (jb_up M 2 1 (nI m)) a = M a := fun a q1 q2 => by rw [jc_copy_off (by decide) _ (by omega), jb_up_off q1]
  have hM02 : zf_102 24 4 (jb_up M 2 1 (nI m)) 2 1 = nI m := by rw [jc_copy_off (by decide) _ (by omega), jb_up_at, if_pos ⟨rfl, rfl⟩]
  generalize zf_102 24 4 (jb_up M 2 1 (nI m)) = M0 at e132 hM0C hM0 hM02
  have hbB : bB (fun k => bs.getD k 0) m := ⟨by omega, fun k hk => (b4 k (by omega)).1⟩
  have hTC : tcB (fun k => bs.getD k 0) m (jb_up (jb_up M0 43 2 0) 43 3 0) := by
    refine ⟨by omega, ?_, fun k hk => ⟨(b4 k (by omega)).1, ?_⟩⟩
    · rw [jb_up_off (by decide), jb_up_off (by decide), hM02]
    · rw [jb_up_off (by decide), jb_up_off (by decide), hM0 3 (by decide) (by decide), (b4 k (by omega)).2.1]
  obtain ⟨⟨r, M1⟩, r1, r2, r3, r4⟩ := jc_lines (show m < 270 by omega) 21 0 0 S (jb_up (jb_up M0 43 2 0) 43 3 0) hTC (by rw [jb_up_at, if_neg (by omega), jb_up_at, if_pos ⟨rfl, rfl⟩]; rfl) (by omega) (jC_of hM0C (fun a h1 h2 => by rw [jb_up_off (by omega), jb_up_off (by omega)])) hR (by omega) (by omega)
  have okF := oF_ok hbB 21 0 0 S (by omega) hR
  generalize hF : oF (fun k => bs.getD k 0) m 21 0 0 S = F at r2 r4 okF
  have f1 : ∀ a, a ≠ 2 → a ≠ 43 → (a < 24 ∨ 33 < a) → M1 a = M a := fun a q0 q1 q2 => by
    have := r3 a q1 q2
    dsimp only at this
    rw [this, jb_up_off q1, jb_up_off q1, hM0 a q0 q2]
  have e2 : M1 2 1 = nI m := by
    have := r3 2 (by decide) (by decide)
    dsimp only at this
    rw [this, jb_up_off (by decide), jb_up_off (by decide), hM02]
  dsimp only at r2 r4
  subst r2
  have ecl : ∃ M2, zf_132 (nI m) M = some (orr F, M2) ∧ (∀ a, a ≠ 2 → a ≠ 43 → (a < 24 ∨ 33 < a) → (a < 4 ∨ 13 < a) → M2 a = M a) ∧ M2 2 1 = 0 ∧ ofC S F M2 := by
    rw [e132]
    unfold zf_93
    rw [show jb_lp zf_93_H12 (0, jb_up (jb_up M0 43 2 0) 43 3 0) = some (orr F, M1) from r1, Option.bind_some]
    dsimp only
    rw [cut0 M1 e2 (by omega)]
    cases F with
    | inl y =>
      rw [if_neg (show ¬ (0 : Int32) < orr (.inl y) from zf_74_neg okF.1 (by have := okF.2; omega))]
      refine ⟨jb_up M1 2 1 0, rfl, fun a q0 q1 q2 _ => by rw [jb_up_off q0, f1 a q0 q1 q2], by rw [jb_up_at, if_pos ⟨rfl, rfl⟩], jC_of hC (fun a q1 q2 => by rw [jb_up_off (by omega), f1 a (by omega) (by omega) (by omega)])⟩
    | inr y =>
      rw [if_pos (show (0 : Int32) < orr (.inr y) from nI_lt (a := 0) okF.1 (by have := okF.2.1; omega))]
      refine ⟨zf_102 4 24 (jb_up M1 2 1 0), rfl, fun a q0 q1 q2 q3 => by rw [jc_copy_off (by decide) _ (by omega), jb_up_off q0, f1 a q0 q1 q2], by rw [jc_copy_off (by decide) _ (by omega), jb_up_at, if_pos ⟨rfl, rfl⟩], ?_⟩
      exact jc_copy (o := 4) (o2 := 24) (by omega) (jC_of r4 (fun a q1 q2 => jb_up_off (by omega)))
  obtain ⟨M2, s1, s2, s3, s4⟩ := ecl
  have e79 : M2 79 = M 79 := s2 79 (by decide) (by decide) (by decide) (by decide)
  have e80 : M2 80 = M 80 := s2 80 (by decide) (by decide) (by decide) (by decide)
  -- the reference
  obtain ⟨M3, k1, k2, k3⟩ := jd_copies (a1 := 80) (a2 := 81) (by decide) (jb_up (zf_204 (nI m) M2) 79 37 0)
  have q79 : ∀ a, a ≠ 79 → jb_up (zf_204 (nI m) M2) 79 37 0 a = M2 a := fun a ha => by
    unfold zf_204
    rw [jb_up_off ha, jb_up_off ha, jb_up_off ha, jb_up_off ha, jb_up_off ha]
  have hTD : tdB (fun k => bs.getD k 0) m M3 := by
    refine ⟨by omega, ?_, fun k hk => ⟨(b4 k (by omega)).1, ?_⟩⟩
    · rw [k2 79 (by decide)]
      unfold zf_204
      simp [jb_up_at]
    · rw [k2 83 (by decide), q79 83 (by decide), s2 83 (by decide) (by decide) (by decide) (by decide), (b4 k (by omega)).2.2]
  have hD3 : jD 80 S M3 := jD_of hD (by rw [k2 80 (by decide), q79 80 (by decide), e80])
  obtain ⟨z, z1, z2, z3, z4, z5, z6, z7⟩ := jd_lines (show m < 270 by omega) 21 0 0 S M3 hTD (by rw [k2 79 (by decide)]; unfold zf_204; simp [jb_up_at]; rfl) (by omega) hD3 hR (by rw [k2 79 (by decide), jb_up_at, if_pos ⟨rfl, rfl⟩]; rfl) (by omega) (by omega)
  rw [hF] at z2 z7
  have e222 : zf_222 (nI m) M2 = some z := by
    unfold zf_222
    rw [show zf_164 (nI m) 1 120 = true from c1', jb_yes, if_neg (show ¬ M2 79 4 < nI m by rw [e79, b3]; exact c5), k1, Option.bind_some, z1]
  have f3 : ∀ a, a ≠ 79 → a ≠ 80 → a ≠ 81 → z.2 a = M2 a := fun a q1 q2 q3 => by rw [z3 a q1 q2, k2 a q3, q79 a q1]
  have f79 : ∀ j, j = 13 ∨ j = 57 → M3 79 j = M 79 j := fun j hj => by
    rw [k2 79 (by decide), jb_up_at, if_neg (by omega)]
    unfold zf_204
    rw [jb_up_at, if_neg (by omega), jb_up_at, if_neg (by omega), jb_up_at, if_neg (by omega), jb_up_at, if_neg (by omega), e79]
  refine ⟨orr F, M2, z.2, s1, s2 0 (by decide) (by decide) (by decide) (by decide), by rw [e222, ← z2], by rw [f3 0 (by decide) (by decide) (by decide), s2 0 (by decide) (by decide) (by decide) (by decide)], ?_⟩
  have hb0 : jTp [] z.2 := jTp_0 (by rw [f3 2 (by decide) (by decide) (by decide), s3]) z4
  have hfr : ∀ a, jrel a → a ≠ 2 → z.2 a = M a := fun a ha h2 => by
    unfold jrel at ha
    rw [f3 a (by omega) (by omega) (by omega), s2 a h2 (by omega) (by omega) (by omega)]
  have g13 : z.2 79 13 = M 79 13 := by rw [z5, f79 13 (by omega)]
  have g57 : z.2 79 57 = M 79 57 := by rw [z6, f79 57 (by omega)]
  cases F with
  | inl y =>
    refine jInv_or (S := S) h (jC_of s4 (fun a q1 q2 => f3 a (by omega) (by omega) (by omega))) (jD_copy (a1 := 81) (M := M3) (jD_copy (a1 := 80) (M := jb_up (zf_204 (nI m) M2) 79 37 0) (jD_of hD (by rw [q79 80 (by decide), e80])) k3) z7) hR (by omega) hfr hb0 g13 g57
  | inr y =>
    have o9 := okF.2.2.2
    refine jInv_or (S := y.2) h (jC_of s4 (fun a q1 q2 => f3 a (by omega) (by omega) (by omega))) z7 okF.2.2.1 (by rw [o9]; omega) hfr hb0 g13 g57
