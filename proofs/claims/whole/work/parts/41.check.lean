/-! check, bread -/
theorem ff_p (p : Nat → Bool) : ∀ n q, ff p q n < q + n → p (ff p q n) = true
  | 0, q => by intro h; simp [ff] at h
  | n + 1, q => by
    simp only [ff]
    cases c : p q
    · simp only [cond_false]; intro h; exact ff_p p n (q + 1) (by omega)
    · simp only [cond_true]; intro _; exact c
/-- a byte that is not right -/
def wrg (S : jSt) (bs : List Nat) (m : Nat) : Bool := decide (bs.getD m 0 ≠ if 0 < S 7 m then S 8 m else 0)
noncomputable def enn (n q : Nat) : Int32 := if q = n then (-1) else nI q
theorem tC_cut {bs : List Nat} {M : jb_Mi} (h : tC bs M) (v : Int32) : ∀ k, k < bs.length → jb_up M 2 1 v 3 k = nI (bs.getD k 0) := fun k hk => by rw [jb_up_off (by decide)]; exact (h.2.2 k hk).2
theorem ca_check {n : Nat} {M : jb_Mi} {N : jb_Ml} (hn : n < 512) (h : jInv n M N) (a1 : Int32) : ∃ (r : Int32) (M1 : jb_Mi) (M2 : jb_Mi), zf_161 a1 M = some (r, M1) ∧ M1 0 = M 0 ∧ zf_268 a1 M1 = some (r, M2) ∧ M2 0 = M 0 ∧ jInv (n + 1) M2 N := by
  obtain ⟨⟨S, hC, hD, hR, hT⟩, -, ⟨bs, hb⟩, -, -⟩ := id h
  obtain ⟨b1, b2, b3, b4⟩ := hb
  have hTC : tC bs M := ⟨b1, b2, fun k hk => ⟨(b4 k hk).1, (b4 k hk).2.1⟩⟩
  unfold zf_161 zf_268
  simp only [jn_b, jn_w]
  by_cases c : zf_23 a1 0 16 = false
  · exact ⟨_, M, M, if_pos c, rfl, if_pos c, rfl, jInv_mono h⟩
  rw [if_neg c]
  obtain ⟨L, hL, rfl⟩ := jn_in (x := a1) 16 (by decide) c
  unfold zf_116
  by_cases c2 : bs.length < L
  · have c3 : nI bs.length < nI L := nI_lt c2 (by omega)
    refine ⟨-2, M, M, ?_, rfl, ?_, rfl, jInv_mono h⟩
    · rw [if_pos (show M 2 1 < nI L by rw [b2]; exact c3)]; rfl
    · rw [if_neg c, if_pos (show M 79 4 < nI L by rw [b3]; exact c3)]
  have c3 : ¬ nI bs.length < nI L := nI_nlt (by omega) (by omega)
  have key : ∀ m, m < L → ∀ m', (m' = nI m) → zf_161_H30 M (enn L (ff (wrg S bs) (m + 1) (L - (m + 1))), nI m) = some (.inl (enn L (ff (wrg S bs) m (L - m)), nI m + (-1))) := by
    intro m hm m' _
    have h8 := hC.2.2.1 m (by omega)
    have hr := hR.2.2.1 m (by omega)
    have hb' := (b4 m (by omega)).1
    unfold zf_161_H30 zf_161_J58 zf_161_J75
    dsimp only
    rw [if_neg (nI_pos (by omega)), jc_man hC hR (by omega), Option.bind_some, byteAt hTC (by omega), show L - m = (L - (m + 1)) + 1 by omega]
    simp only [ff, Option.bind_some]
    rw [jn_gd (show m < 16 by omega) (by decide), nI_clamp (by omega), h8.2]
    have e0 : (nI (bs.getD m 0) = 0) = (bs.getD m 0 = 0) := jn_eq (b := 0) (by omega) (by decide)
    have e1 : (nI (bs.getD m 0) = nI (S 8 m)) = (bs.getD m 0 = S 8 m) := jn_eq (by omega) (by omega)
    simp only [e0, e1]
    unfold wrg
    by_cases k1 : 0 < S 7 m
    · simp only [k1, decide_true, if_true, jb_yes]
      by_cases k2 : bs.getD m 0 = S 8 m
      · simp only [k2, if_true, ne_eq, not_true_eq_false, decide_false, cond_false]
      · simp only [k2, if_false, ne_eq, not_false_eq_true, decide_true, cond_true, enn]
        rw [if_neg (by omega)]
    · simp only [k1, decide_false, if_false, jb_no]
      by_cases k2 : bs.getD m 0 = 0
      · simp only [k2, if_true, ne_eq, not_true_eq_false, decide_false, cond_false]
      · simp only [k2, if_false, ne_eq, not_false_eq_true, decide_true, cond_true, enn]
        rw [if_neg (by omega)]
  have hcl : ∀ m, m ≤ L → jb_lp (zf_161_H30 M) (enn L (ff (wrg S bs) m (L - m)), nI m - 1) = some (enn L (ff (wrg S bs) 0 L), jb_up M 2 1 0) := by
    intro m
    induction m with
    | zero =>
      intro _
      refine jb_lp_inr ?_
      unfold zf_161_H30
      rw [if_pos (by dsimp only; decide), cut0 M b2 b1]
      rfl
    | succ m ih =>
      intro hm
      rw [nI_pred, jb_lp_inl (key m (by omega) _ rfl)]
      have := ih (by omega)
      rwa [show nI m - 1 = nI m + (-1) from Int32.sub_eq_add_neg ..] at this
  have hcl2 := hcl L (Nat.le_refl _)
  rw [Nat.sub_self] at hcl2
  simp only [ff] at hcl2
  refine ⟨enn L (ff (wrg S bs) 0 L), jb_up M 2 1 0, jb_up (jb_up M 2 1 0) 79 4 0, ?_, rfl, ?_, rfl, ?_⟩
  · rw [if_neg (show ¬ M 2 1 < nI L by rw [b2]; exact c3), if_neg (by decide)]
    have e : enn L L = (-1) := if_pos rfl
    rw [e] at hcl2
    exact hcl2
  · rw [if_neg c, if_neg (show ¬ jb_up M 2 1 0 79 4 < nI L by rw [jb_up_off (by decide), b3]; exact c3)]
    have hD2 : jD 80 S (jb_up (jb_up M 2 1 0) 79 4 0) := jD_of hD (by rw [jb_up_off (by decide), jb_up_off (by decide)])
    have h83 : (jb_up (jb_up M 2 1 0) 79 4 0) 83 = M 83 := by rw [jb_up_off (by decide), jb_up_off (by decide)]
    generalize jb_up (jb_up M 2 1 0) 79 4 0 = M2 at hD2 h83
    have hO : oD bs M2 := fun k hk => ⟨by omega, (b4 k hk).1, by rw [h83]; exact (b4 k hk).2.2⟩
    have lo : ∀ n q, q + n = L → jb_lp (zf_268_H28 (nI L) M2) (nI q) = some (enn L (ff (wrg S bs) q n), M2) := by
      intro n
      induction n with
      | zero =>
        intro q hq
        have e : q = L := by omega
        subst e
        refine jb_lp_inr ?_
        unfold zf_268_H28
        rw [if_neg (nI_nlt (Nat.le_refl _) (by omega))]
        simp only [ff, enn]
        rw [if_pos trivial]
      | succ n ih =>
        intro q hq
        have h8 := hD2.2.2.1 q (by omega)
        have hr := hR.2.2.1 q (by omega)
        have hb' := (b4 q (by omega)).1
        have hstep : zf_268_H28 (nI L) M2 (nI q) = if wrg S bs q = true then some (.inr (nI q, M2)) else some (.inl (nI (q + 1))) := by
          unfold zf_268_H28 zf_268_J60
          rw [if_pos (nI_lt (by omega) (by omega)), octet' hO (by omega), Option.bind_some, jd_man hD2 hR (by omega), Option.bind_some, show (130 : Int32) + nI q = nI (130 + q) from jn_addl 130 q, jn_gd (by omega) (by decide), nI_clamp (by omega), h8.2, nI_1]
          have e0 : (nI (bs.getD q 0) = 0) = (bs.getD q 0 = 0) := jn_eq (b := 0) (by omega) (by decide)
          have e1 : (nI (bs.getD q 0) = nI (S 8 q)) = (bs.getD q 0 = S 8 q) := jn_eq (by omega) (by omega)
          simp only [e0, e1]
          unfold wrg
          by_cases k1 : 0 < S 7 q
          · simp only [k1, decide_true, if_true, jb_yes]
            by_cases k2 : bs.getD q 0 = S 8 q
            · simp [k2]
            · simp [k2]
          · simp only [k1, decide_false, if_false, jb_no]
            by_cases k2 : bs.getD q 0 = 0
            · simp [k2]
            · simp [k2]
        simp only [ff]
        cases cc : wrg S bs q
        · rw [jb_lp_inl (s' := nI (q + 1)) (by rw [hstep, cc]; rfl), ih (q + 1) (by omega)]; rfl
        · rw [jb_lp_inr (x := (nI q, M2)) (by rw [hstep, cc]; rfl)]
          simp only [cond_true, enn]
          rw [if_neg (by omega)]
    exact lo L 0 (by omega)
  · refine jInv_tp h (bs := []) (fun a z1 z2 z3 z4 => ?_) (jTp_0 rfl rfl) rfl rfl
    rw [jb_up_off (by unfold jfix jrel at z1; omega), jb_up_off z2]
theorem ca_bread {n : Nat} {M : jb_Mi} {N : jb_Ml} (hn : n < 512) (h : jInv n M N) (a1 : Int32) : ∃ (r : Int32) (M1 : jb_Mi) (M2 : jb_Mi), zf_154 a1 M = some (r, M1) ∧ M1 0 = M 0 ∧ zf_261 a1 M1 = some (r, M2) ∧ M2 0 = M 0 ∧ jInv (n + 1) M2 N := by
  obtain ⟨-, -, ⟨bs, hb⟩, -, -⟩ := id h
  obtain ⟨b1, b2, b3, b4⟩ := hb
  unfold zf_154 zf_261
  simp only [jn_b, jn_w]
  by_cases c : zf_23 a1 1 12 = false
  · exact ⟨_, M, M, if_pos c, rfl, if_pos c, rfl, jInv_mono h⟩
  rw [if_neg c]
  obtain ⟨L, hL1, hL, rfl⟩ := jn_in1 (x := a1) 1 12 (by decide) (by decide) c
  unfold zf_116
  by_cases c2 : bs.length < L
  · have c3 : nI bs.length < nI L := nI_lt c2 (by omega)
    refine ⟨-1, M, M, ?_, rfl, ?_, rfl, jInv_mono h⟩
    · rw [if_pos (show M 2 1 < nI L by rw [b2]; exact c3)]; rfl
    · rw [if_neg c, if_pos (show M 79 4 < nI L by rw [b3]; exact c3)]
  have c3 : ¬ nI bs.length < nI L := nI_nlt (by omega) (by omega)
  have cM : jb_up (jb_up M 2 1 (nI L)) 2 1 0 = jb_up M 2 1 0 := by
    funext a j
    simp only [jb_up_at]
    split <;> rfl
  have ec : zf_117 0 (jb_up M 2 1 (nI L)) = jb_up M 2 1 0 := by rw [cut0 _ (l := L) (by rw [jb_up_at, if_pos ⟨rfl, rfl⟩]) (by omega), cM]
  let sm : Nat → Int32 → Int32 := fun k a => a + nI (bs.getD k 0)
  let G : Int32 → Nat → Int32 × Int32 → Int32 × Int32 := fun s k a => let o := a.1 + nI (bs.getD k 0) - (s / nI L + (if nI k < s - s / nI L * nI L then 1 else 0)); (o, a.2 + zf_270 o)
  have L0 : ¬ nI L = 0 := nI_ne0 (by omega) (by omega)
  have cl : zf_59 (jb_up M 2 1 (nI L)) = some (itf (G (itf sm 0 L)) (0, 0) L).2 := by
    have hTC : tC (bs.take L) (jb_up M 2 1 (nI L)) := by
      have e : (bs.take L).length = L := by simp; omega
      refine ⟨by omega, by rw [e, jb_up_at, if_pos ⟨rfl, rfl⟩], fun k hk => ?_⟩
      rw [e] at hk
      rw [jb_up_off (by decide), show (bs.take L).getD k 0 = bs.getD k 0 by simp [List.getElem?_take, hk]]
      exact ⟨(b4 k (by omega)).1, (b4 k (by omega)).2.1⟩
    have by' : ∀ k, k < L → zf_30 (nI k) (jb_up M 2 1 (nI L)) = some (nI (bs.getD k 0)) := by
      intro k hk
      rw [byteAt hTC (by simp; omega), show (bs.take L).getD k 0 = bs.getD k 0 by simp [List.getElem?_take, hk]]
    unfold zf_59
    rw [hTC.2.1, show (bs.take L).length = L by simp; omega, if_pos (show (0 : Int32) < nI L from nI_lt (a := 0) (by omega) (by omega))]
    refine jb_it (f := zf_59_H16 (nI L) (jb_up M 2 1 (nI L))) (fun (a : Int32) k => (a, nI k)) sm 0 L ?_ ?_
    · intro k a hk
      unfold zf_59_H16
      dsimp only
      rw [if_pos (nI_lt hk (by omega)), by' k hk, Option.bind_some, nI_1]
    · generalize itf sm 0 L = s
      unfold zf_59_H16
      refine (if_neg (nI_nlt (Nat.le_refl _) (by omega))).trans ?_
      dsimp only
      have : jb_lp (zf_59_H46 (nI L) s (jb_up M 2 1 (nI L))) (0, 0, 0) = some (itf (G s) (0, 0) L).2 := by
        refine jb_it (f := zf_59_H46 (nI L) s (jb_up M 2 1 (nI L))) (fun (a : Int32 × Int32) k => (a.1, a.2, nI k)) (G s) (0, 0) L ?_ ?_
        · intro k a hk
          unfold zf_59_H46 zf_59_J77
          dsimp only
          rw [if_pos (nI_lt hk (by omega)), by' k hk, Option.bind_some]
          unfold jb_g0
          rw [if_neg L0, if_neg L0, nI_1]
          have ar : ∀ z : Int32, a.1 + (nI (bs.getD k 0) - s / nI L - z) = a.1 + nI (bs.getD k 0) - (s / nI L + z) := by
            intro z
            simp only [Int32.sub_eq_add_neg, Int32.neg_add, Int32.add_assoc]
          by_cases q : nI k < s - s / nI L * nI L
          · rw [if_pos q, ar 1]; simp only [G, if_pos q]
          · rw [if_neg q, ar 0]; simp only [G, if_neg q]
        · unfold zf_59_H46
          exact if_neg (nI_nlt (Nat.le_refl _) (by omega))
      rw [this]
      rfl
  refine ⟨(itf (G (itf sm 0 L)) (0, 0) L).2, jb_up M 2 1 0, jb_up (jb_up M 2 1 0) 79 4 0, ?_, ?_, ?_, rfl, ?_⟩
  · rw [if_neg (show ¬ M 2 1 < nI L by rw [b2]; exact c3), if_neg (by decide), cutn M b2 b1 (by omega), ec, cl]
    rfl
  · rfl
  · rw [if_neg c, if_neg (show ¬ jb_up M 2 1 0 79 4 < nI L by rw [jb_up_off (by decide), b3]; exact c3)]
    have h83 : (jb_up (jb_up M 2 1 0) 79 4 0) 83 = M 83 := by rw [jb_up_off (by decide), jb_up_off (by decide)]
    generalize jb_up (jb_up M 2 1 0) 79 4 0 = M2 at h83
    have hO : oD bs M2 := fun k hk => ⟨by omega, (b4 k hk).1, by rw [h83]; exact (b4 k hk).2.2⟩
    refine jb_it (f := zf_261_H29 (nI L) M2) (fun (a : Int32) k => (a, nI k)) sm 0 L ?_ ?_
    · intro k a hk
      unfold zf_261_H29
      dsimp only
      rw [if_pos (nI_lt hk (by omega)), octet' hO (by omega), Option.bind_some, nI_1]
    · generalize itf sm 0 L = s
      unfold zf_261_H29
      refine (if_neg (nI_nlt (Nat.le_refl _) (by omega))).trans ?_
      dsimp only
      have : jb_lp (zf_261_H56 (nI L) s M2) (0, 0, 0) = some ((itf (G s) (0, 0) L).2, M2) := by
        refine jb_it (f := zf_261_H56 (nI L) s M2) (fun (a : Int32 × Int32) k => (a.2, a.1, nI k)) (G s) (0, 0) L ?_ ?_
        · intro k a hk
          unfold zf_261_H56 zf_261_J78
          dsimp only
          rw [if_pos (nI_lt hk (by omega)), octet' hO (by omega)]
          unfold jb_g0
          rw [if_neg L0, if_neg L0, nI_1]
          simp only [Option.bind_some]
          by_cases q : nI k < s - s / nI L * nI L
          · rw [if_pos q]; simp only [G, if_pos q]; rfl
          · rw [if_neg q]; simp only [G, if_neg q]; rfl
        · unfold zf_261_H56
          exact if_neg (nI_nlt (Nat.le_refl _) (by omega))
      rw [this]
      rfl
  · refine jInv_tp h (bs := []) (fun a z1 z2 z3 z4 => ?_) (jTp_0 rfl rfl) rfl rfl
    rw [jb_up_off (by unfold jfix jrel at z1; omega), jb_up_off z2]
