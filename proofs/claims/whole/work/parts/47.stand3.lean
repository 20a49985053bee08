theorem jd_choose {S : jSt} {M : jb_Mi} (hD : jD 80 S M) (hR : jR S) {i w x : Nat} (hi : i < 6) (hw : w < 6) (hx : x < 65536) (hp : pc x = 4) : ∃ r M1, jb_lp (zf_243_H44 (nI i) (nI x) (nI w)) (0, 0, M) = some (r, M1) ∧ (∀ a, a ≠ 79 → a ≠ 104 → a ≠ 105 → a ≠ 106 → M1 a = M a) ∧ (∀ j, j ≠ 49 → j ≠ 50 → M1 79 j = M 79 j) ∧ r = @ite _ (x &&& mens S = x) (Classical.propDecidable _) (stA (chs x 16).2 (sd S i (chs x 16).2 256) w) (-1) := by
  obtain ⟨⟨r, M1⟩, h1, h2, h3, h4⟩ := jb_inv (f := zf_243_H44 (nI i) (nI x) (nI w)) (fun n s => ∃ m M', m + n = 16 ∧ s = (nI (chs x m).1, nI m, M') ∧ (∀ a, a ≠ 104 → M' a = M a) ∧ (∀ c, c < (chs x m).1 → M' 104 c = nI ((chs x m).2 c)) ∧ ∀ k, k < m → x.testBit k = true → 0 < S 7 k) (fun q => (∀ a, a ≠ 79 → a ≠ 104 → a ≠ 105 → a ≠ 106 → q.2 a = M a) ∧ (∀ j, j ≠ 49 → j ≠ 50 → q.2 79 j = M 79 j) ∧ q.1 = @ite _ (x &&& mens S = x) (Classical.propDecidable _) (stA (chs x 16).2 (sd S i (chs x 16).2 256) w) (-1)) (by
    rintro n s ⟨m, M', hn, rfl, h1, h2, h3⟩
    have hD' : jD 80 S M' := jD_of hD (h1 80 (by decide))
    unfold zf_243_H44 zf_243_J89
    dsimp only
    by_cases c : m < 16
    · rw [if_pos (show nI m < 16 from nI_lt (b := 16) c (by decide)), jn_has (by omega) (by omega), jd_man hD' hR c, Option.bind_some, nI_1]
      have e : chs x (m + 1) = chG x m (chs x m) := rfl
      cases b : x.testBit m
      · rw [jb_no]
        refine Or.inl ⟨n - 1, _, by omega, rfl, m + 1, M', by omega, ?_, h1, ?_, ?_⟩
        · rw [e]; unfold chG; rw [b]; rfl
        · rw [e]; unfold chG; rw [b]; exact h2
        · intro k hk hb
          by_cases q : k = m
          · rw [q, b] at hb; cases hb
          · exact h3 k (by omega) hb
      · have hl := chs_lt c b
        rw [hp] at hl
        rw [jb_yes]
        by_cases t : 0 < S 7 m
        · rw [decide_eq_true t, jb_yes]
          refine Or.inl ⟨n - 1, (nI ((chs x m).1 + 1), nI (m + 1), jb_up M' 104 (chs x m).1 (nI m)), by omega, ?_, m + 1, jb_up M' 104 (chs x m).1 (nI m), by omega, ?_, ?_, ?_, ?_⟩
          · rw [jn_gd hl (by decide), nI_clamp (by omega), nI_1]
          · rw [e]; unfold chG; rw [b]; rfl
          · intro a ha
            rw [jb_up_off ha, h1 a ha]
          · rw [e]
            unfold chG
            rw [if_pos b]
            intro j hj
            dsimp only at hj ⊢
            rw [jb_up_at]
            by_cases q : j = (chs x m).1
            · rw [if_pos ⟨rfl, q⟩, if_pos q]
            · rw [if_neg (fun z => q z.2), if_neg q]
              exact h2 j (by omega)
          · intro k hk hb
            by_cases q : k = m
            · rw [q]; exact t
            · exact h3 k (by omega) hb
        · rw [decide_eq_false t, jb_no]
          refine Or.inr ⟨_, rfl, fun a q1 q2 q3 q4 => h1 a q2, fun j q1 q2 => by dsimp only; rw [h1 79 (by decide)], ?_⟩
          dsimp only
          rw [if_neg (fun z => t (mens_sub z b).2)]
    · have e : m = 16 := by omega
      subst e
      have hl : (chs x 16).1 = 4 := by rw [chs_1]; exact hp
      have hsub : x &&& mens S = x := by
        apply Nat.eq_of_testBit_eq
        intro k
        rw [Nat.testBit_and]
        cases b : x.testBit k
        · rfl
        · have hk : k < 16 := by
            apply Classical.byContradiction
            intro z
            rw [Nat.testBit_lt_two_pow (Nat.lt_of_lt_of_le hx (show 65536 ≤ 2 ^ k from Nat.pow_le_pow_right (n := 2) (i := 16) (j := k) (by decide) (by omega)))] at b
            cases b
          have := h3 k hk b
          unfold mens
          rw [bmk_bit]
          simp [hk, tdm, this]
      have hf : ∀ j, j < 4 → (chs x 16).2 j < 16 ∧ 0 < S 7 ((chs x 16).2 j) := fun j hj => mens_sub hsub (chs_ok x 16 j (by omega)).2
      obtain ⟨M1, y1, y2, y3⟩ := jd_rows (M := jb_up M' 79 50 0) (w := w) (jD_of hD' (jb_up_off (by decide))) hR hi hw hf (fun c hc => by rw [jb_up_off (by decide), h2 c (by omega)]) (by simp [jb_up_at])
      refine Or.inr ⟨(stA (chs x 16).2 (sd S i (chs x 16).2 256) w, M1), ?_, ?_, ?_, ?_⟩
      · rw [if_neg (by decide), y1]
        rfl
      · intro a q1 q2 q3 q4
        dsimp only
        rw [y2 a q1 q3 q4, jb_up_off q1, h1 a q2]
      · intro j q1 q2
        dsimp only
        rw [y3 j q1 q2, jb_up_at, if_neg (fun z => q2 z.2), h1 79 (by decide)]
      · dsimp only
        rw [if_pos hsub]) 16 (nI 0, nI 0, M) ⟨0, M, by omega, rfl, fun _ _ => rfl, fun c hc => by simp [chs, itf] at hc, fun k hk => by omega⟩
  exact ⟨r, M1, h1, h2, h3, h4⟩
theorem ca_stand {n : Nat} {M : jb_Mi} {N : jb_Ml} (hn : n < 512) (h : jInv n M N) (a1 a2 a3 : Int32) : ∃ (r : Int32) (M1 : jb_Mi) (M2 : jb_Mi), zf_145 a1 a2 a3 M = some (r, M1) ∧ M1 0 = M 0 ∧ zf_243 a1 a2 a3 M1 = some (r, M2) ∧ M2 0 = M 0 ∧ jInv (n + 1) M2 N := by
  obtain ⟨⟨S, hC, hD, hR, hT⟩, -⟩ := id h
  unfold zf_145 zf_243
  rcases jx_house hC hD hR a1 with ⟨e1, e2⟩ | ⟨i, hi, rfl, hs, e1, e2⟩
  · exact ⟨_, M, M, by rw [e1]; rfl, rfl, by rw [e2]; rfl, rfl, jInv_mono h⟩
  rw [e1]
  simp only [Option.bind_some, jb_yes]
  simp only [jn_b, jn_w]
  obtain ⟨x, hx, rfl⟩ := nI_any a2
  have fr : ∀ {r : Int32} {M1 : jb_Mi}, (∀ a, a ≠ 79 → a ≠ 104 → a ≠ 105 → a ≠ 106 → M1 a = M a) → (∀ j, j ≠ 49 → j ≠ 50 → M1 79 j = M 79 j) → M1 0 = M 0 ∧ jInv (n + 1) M1 N := by
    intro r M1 q1 q2
    exact ⟨q1 0 (by decide) (by decide) (by decide) (by decide), jInv_same h (fun a ha => q1 a (by unfold jfix jrel at ha; omega) (by unfold jfix jrel at ha; omega) (by unfold jfix jrel at ha; omega) (by unfold jfix jrel at ha; omega)) (q2 4 (by decide) (by decide)) (q2 13 (by decide) (by decide)) (q2 57 (by decide) (by decide))⟩
  -- the class refuses: then the reference does
  have ref : (zf_23 a3 0 5 = false ∨ x &&& mens S ≠ x ∨ pc x ≠ 4) → ∃ M2, ((zf_171 (nI i) M).bind fun q1 => if q1 = false then some (-1, M) else if zf_23 (nI x) 1 65535 = false then some (-1, M) else (zf_169 (nI x)).bind fun q2 => if q2 = 4 then if zf_23 a3 0 5 = false then some (-1, M) else jb_lp (zf_243_H44 (nI i) (nI x) a3) (0, 0, M) else some (-1, M)) = some (-1, M2) ∧ M2 0 = M 0 ∧ jInv (n + 1) M2 N := by
    intro hr
    rw [e2, Option.bind_some, if_neg (by decide)]
    by_cases c1 : zf_23 (nI x) 1 65535 = false
    · exact ⟨M, if_pos c1, rfl, jInv_mono h⟩
    rw [if_neg c1]
    have hx2 : x < 65536 := by
      obtain ⟨j, j1, j2, j3⟩ := jn_in1 (x := nI x) 1 65535 (by decide) (by decide) c1
      have : (nI x).toBitVec.toNat = (nI j).toBitVec.toNat := by rw [j3]
      have e4 : ∀ z, z < 2 ^ 32 → (nI z).toBitVec.toNat = z := by
        intro z hz
        show (BitVec.ofNat 32 z).toNat = z
        rw [BitVec.toNat_ofNat]
        exact Nat.mod_eq_of_lt hz
      rw [e4 x hx, e4 j (by omega)] at this
      omega
    have hpc := pc_le x
    rw [jd_bits (by omega), Option.bind_some]
    simp only [show (nI (pc x) = 4) = (pc x = 4) from jn_eq (b := 4) (by omega) (by decide)]
    by_cases c2 : pc x = 4
    · rw [if_pos c2]
      by_cases c3 : zf_23 a3 0 5 = false
      · exact ⟨M, if_pos c3, rfl, jInv_mono h⟩
      rw [if_neg c3]
      obtain ⟨w, hw, rfl⟩ := jn_in (x := a3) 5 (by decide) c3
      obtain ⟨r, M1, k1, k2, k3, k4⟩ := jd_choose (w := w) hD hR hi (by omega) hx2 c2
      have hns : ¬ x &&& mens S = x := by
        rcases hr with hr | hr | hr
        · exact absurd hr c3
        · exact hr
        · exact absurd c2 hr
      rw [if_neg hns] at k4
      subst k4
      exact ⟨M1, k1, fr (r := 0) k2 k3⟩
    · exact ⟨M, if_neg c2, rfl, jInv_mono h⟩
  by_cases c3 : zf_23 a3 0 5 = false
  · obtain ⟨M2, g1, g2, g3⟩ := ref (Or.inl c3)
    exact ⟨-1, M, M2, if_pos c3, rfl, g1, g2, g3⟩
  have hcl : zf_104 4 (nI x) M = some (decide (zf_26 (nI x) = 4 ∧ x &&& mens S = x)) := by
    unfold zf_104
    rw [jc_mens hC hR, Option.bind_some]
    simp only [jn_sub32 hx (show mens S < 2 ^ 31 by have := mens_lt S; omega)]
    by_cases c1 : zf_26 (nI x) = 4
    · by_cases c2 : x &&& mens S = x
      · simp [c1, c2]
      · simp [c1, c2]
    · simp [c1]
  by_cases c4 : zf_26 (nI x) = 4 ∧ x &&& mens S = x
  · obtain ⟨c4, c5⟩ := c4
    have hx2 : x < 65536 := by
      have h1 : x &&& mens S ≤ mens S := Nat.and_le_right
      have := mens_lt S
      omega
    have hpc := pc_le x
    have hp : pc x = 4 := by
      rw [jc_bits hx2, show (4 : Int32) = nI 4 from rfl, nI_eq (by omega) (by decide)] at c4
      exact c4
    obtain ⟨w, hw, rfl⟩ := jn_in (x := a3) 5 (by decide) c3
    obtain ⟨M1, k1, k2, k3⟩ := jc_rows hC hR hi hs hx2 hp c5
    have hD1 : jD 80 S M1 := jD_of hD (k2 80 (by decide) (by decide) (by decide) (by decide))
    obtain ⟨r, M2, l1, l2, l3, l4⟩ := jd_choose (w := w) hD1 hR hi (by omega) hx2 hp
    rw [if_pos c5] at l4
    have hf : ∀ j, j < 4 → (chs x 16).2 j < 16 ∧ 0 < S 7 ((chs x 16).2 j) := by
      intro j hj
      have hl : (chs x 16).1 = 4 := by rw [chs_1]; exact hp
      exact mens_sub c5 (chs_ok x 16 j (by omega)).2
    have hh : (sd S i (chs x 16).2 256).1 ≠ 0 := sd_has 228
    have ho := sd_ok hR hi hf 256 (Nat.le_refl _)
    obtain ⟨g1, g2, g3⟩ := k3.2 hh
    obtain ⟨p1, p2⟩ := gcd_ok hh ho
    obtain ⟨u1, u2, u3, u4⟩ := ho hh
    refine ⟨r, M1, M2, ?_, k2 0 (by decide) (by decide) (by decide) (by decide), ?_, ?_, ?_⟩
    · rw [if_neg c3, hcl, decide_eq_true ⟨c4, c5⟩, Option.bind_some, if_neg (by decide), k1, Option.bind_some, l4]
      unfold zf_145_J105 zf_144
      rw [g1, g2, show ((nI (sd S i (chs x 16).2 256).2.1, nI (sd S i (chs x 16).2 256).2.2.1, (0 : Int32)) : Int32 × Int32 × Int32) = (nI (sd S i (chs x 16).2 256).2.1, nI (sd S i (chs x 16).2 256).2.2.1, nI 0) from rfl, jc_gcd 7 _ _ 0 (by omega) (by omega) (by omega) (by omega), Option.bind_some]
      unfold jb_g0 stA
      simp only [show (nI w < 4) = (w < 4) from jn_lt (b := 4) (by omega) (by decide), show (nI w = 4) = (w = 4) from jn_eq (b := 4) (by omega) (by decide)]
      by_cases cw : w < 4
      · rw [if_pos cw, if_pos cw, jn_gd cw (by decide), nI_clamp (by omega), g3 w cw]
      · rw [if_neg cw, if_neg cw, if_neg (nI_ne0 p1 (by omega)), if_neg (nI_ne0 p1 (by omega)), pk_div (by omega) p1 (by omega), pk_div (by omega) p1 (by omega), if_pos (show (0 : Int32) < nI (Nat.gcd (sd S i (chs x 16).2 256).2.1 (sd S i (chs x 16).2 256).2.2.1) from nI_lt (a := 0) p1 (by omega))]
        split <;> rfl
    · rw [show zf_171 (nI i) M1 = some true by rw [jd_told hD1 hR hi, decide_eq_true hs], Option.bind_some, if_neg (by decide)]
      have hx0 : 1 ≤ x := by
        apply Classical.byContradiction
        intro z
        have : x = 0 := by omega
        subst this
        exact absurd hp (by decide)
      rw [if_neg (show ¬ zf_23 (nI x) 1 65535 = false by rw [show zf_23 (nI x) 1 65535 = true from jn_wl (l := 1) (k := 65535) hx0 (show x ≤ 65535 by omega) (by decide)]; decide), jd_bits (by omega), Option.bind_some, if_pos (by rw [hp]; rfl), if_neg c3]
      exact l1
    · rw [l2 0 (by decide) (by decide) (by decide) (by decide), k2 0 (by decide) (by decide) (by decide) (by decide)]
    · refine jInv_same h (fun a ha => ?_) ?_ ?_ ?_
      · rw [l2 a (by unfold jfix jrel at ha; omega) (by unfold jfix jrel at ha; omega) (by unfold jfix jrel at ha; omega) (by unfold jfix jrel at ha; omega), k2 a (by unfold jfix jrel at ha; omega) (by unfold jfix jrel at ha; omega) (by unfold jfix jrel at ha; omega) (by unfold jfix jrel at ha; omega)]
      · rw [l3 4 (by decide) (by decide), k2 79 (by decide) (by decide) (by decide) (by decide)]
      · rw [l3 13 (by decide) (by decide), k2 79 (by decide) (by decide) (by decide) (by decide)]
      · rw [l3 57 (by decide) (by decide), k2 79 (by decide) (by decide) (by decide) (by decide)]
  · have hor : zf_23 a3 0 5 = false ∨ x &&& mens S ≠ x ∨ pc x ≠ 4 := by
      by_cases c5 : x &&& mens S = x
      · have hx2 : x < 65536 := by
          have h1 : x &&& mens S ≤ mens S := Nat.and_le_right
          have := mens_lt S
          omega
        refine Or.inr (Or.inr fun hp => c4 ⟨?_, c5⟩)
        rw [jc_bits hx2, hp]
        rfl
      · exact Or.inr (Or.inl c5)
    obtain ⟨M2, g1, g2, g3⟩ := ref hor
    refine ⟨-1, M, M2, ?_, rfl, g1, g2, g3⟩
    rw [if_neg c3, hcl, decide_eq_false c4]
    rfl
