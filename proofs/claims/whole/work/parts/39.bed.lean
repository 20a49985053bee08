/-! bed -/
def jfix (a : Nat) : Prop := jrel a ∨ (4 ≤ a ∧ a ≤ 13) ∨ a = 80
theorem jInv_same {n : Nat} {M M' : jb_Mi} {N N' : jb_Ml} (h : jInv n M N) (hs : ∀ a, jfix a → M' a = M a) (h4 : M' 79 4 = M 79 4) (h13 : M' 79 13 = M 79 13) (h57 : M' 79 57 = M 79 57) : jInv (n + 1) M' N' := by
  obtain ⟨⟨S, hC, hD, hR, hT⟩, -⟩ := id h
  exact jInv_street h (jC_of hC (fun a h1 h2 => hs a (Or.inr (Or.inl ⟨h1, h2⟩)))) (jD_of hD (hs 80 (Or.inr (Or.inr rfl)))) hR (by omega) (fun a ha => hs a (Or.inl ha)) h4 h13 h57
theorem jInv_off {n : Nat} {M M' : jb_Mi} {N N' : jb_Ml} (h : jInv n M N) (hs : ∀ a, jfix a ∨ a = 79 → M' a = M a) : jInv (n + 1) M' N' :=
  jInv_same h (fun a ha => hs a (Or.inl ha)) (by rw [hs 79 (Or.inr rfl)]) (by rw [hs 79 (Or.inr rfl)]) (by rw [hs 79 (Or.inr rfl)])
theorem jc_weigh {S : jSt} {M : jb_Mi} (hC : jC 4 S M) (hR : jR S) {i : Nat} (hi : i < 6) (hs : 0 < S 0 i) : ∃ M1, zf_8 (nI i) M = some M1 ∧ (∀ a, a ≠ 65 → M1 a = M a) ∧ ∀ c, c < 4 → M1 65 c = nI (ld S i c) := by
  unfold zf_8
  refine jb_inv (f := zf_8_H2 (nI i)) (fun n s => ∃ c M', c + n = 4 ∧ s = (nI c, M') ∧ (∀ a, a ≠ 65 → M' a = M a) ∧ ∀ d, d < c → M' 65 d = nI (ld S i d)) (fun M1 => (∀ a, a ≠ 65 → M1 a = M a) ∧ ∀ c, c < 4 → M1 65 c = nI (ld S i c)) ?_ 4 _ ⟨0, M, by omega, rfl, fun _ _ => rfl, fun d hd => by omega⟩
  rintro n s ⟨c, M', hc, rfl, h1, h2⟩
  have hC' : jC 4 S M' := jC_of hC (fun a q1 q2 => h1 a (by omega))
  unfold zf_8_H2
  dsimp only
  by_cases e : c < 4
  · refine Or.inl ⟨n - 1, (nI (c + 1), jb_up M' 65 c (nI (ld S i c))), by omega, ?_, c + 1, _, by omega, rfl, ?_, ?_⟩
    · rw [if_pos (show nI c < 4 from nI_lt (b := 4) e (by decide)), jc_load hC' hR hi e hs, Option.bind_some, jn_gd e (by decide), nI_clamp (by omega), nI_1]
    · intro a ha
      rw [jb_up_off ha]
      exact h1 a ha
    · intro d hd
      rw [jb_up_at]
      by_cases q : d = c
      · rw [if_pos ⟨rfl, q⟩, q]
      · rw [if_neg (fun z => q z.2)]
        exact h2 d (by omega)
  · have e : c = 4 := by omega
    subst e
    exact Or.inr ⟨M', if_neg (by decide), h1, h2⟩
/-- the greatest load with a weight at a spot -/
def bmc (S : jSt) (i w x y : Nat) (c a : Nat) : Nat := max a (ld S i c + w * prt x y c)
def bm (S : jSt) (i w k : Nat) : Nat := itf (bmc S i w (k % 9) (k / 9)) 0 4
def bdG (S : jSt) (i w k : Nat) (a : Nat × Nat) : Nat × Nat := if bm S i w k < a.2 then (k, bm S i w k) else a
def bd (S : jSt) (i w k : Nat) : Nat × Nat := itf (bdG S i w) (0, 100000000) k
theorem wprt_le {w x y c : Nat} (hw : w ≤ 99) (hx : x ≤ 8) (hy : y ≤ 8) : w * prt x y c ≤ 6336 := Nat.mul_le_mul hw (prt_le hx hy)
theorem bmc_le {S : jSt} (hR : jR S) {i w x y c a : Nat} (hi : i < 6) (hw : w ≤ 99) (hx : x ≤ 8) (hy : y ≤ 8) (ha : a ≤ 164160) : bmc S i w x y c a ≤ 164160 := by
  have h1 := ld_le hR (c := c) hi
  have h2 := wprt_le (c := c) hw hx hy
  unfold bmc
  omega
theorem bm_le {S : jSt} (hR : jR S) {i w k : Nat} (hi : i < 6) (hw : w ≤ 99) (hk : k < 81) : bm S i w k ≤ 164160 := by
  have hx : k % 9 ≤ 8 := by omega
  have hy : k / 9 ≤ 8 := by omega
  unfold bm
  simp only [itf]
  exact bmc_le hR hi hw hx hy (bmc_le hR hi hw hx hy (bmc_le hR hi hw hx hy (bmc_le hR hi hw hx hy (by omega))))
theorem bd_ok {S : jSt} (hR : jR S) {i w : Nat} (hi : i < 6) (hw : w ≤ 99) : ∀ k, k ≤ 81 → (bd S i w k).1 < 81 ∧ (0 < k → (bd S i w k).2 ≤ 164160) ∧ (bd S i w k).2 ≤ 100000000
  | 0, _ => ⟨by simp [bd, itf], fun h => by omega, by simp [bd, itf]⟩
  | k + 1, hk => by
    obtain ⟨h1, h2, h3⟩ := bd_ok hR hi hw k (by omega)
    have hb := bm_le hR (k := k) hi hw (by omega)
    have e : bd S i w (k + 1) = bdG S i w k (bd S i w k) := rfl
    rw [e]
    unfold bdG
    split
    · dsimp only; omega
    · omega
theorem jc_bedc {S : jSt} {M1 : jb_Mi} (hR : jR S) {i w x y : Nat} (hi : i < 6) (hw : w ≤ 99) (hx : x < 9) (hy : y < 9) (hl : ∀ c, c < 4 → M1 65 c = nI (ld S i c)) {z : (Int32 × jb_Mi) ⊕ ((Int32 × jb_Mi) ⊕ jb_Mi)} (hz : zf_9_H34 (nI w) (nI y) (nI x) M1 (nI (bm S i w (9 * y + x)), nI 4) = some (.inr z)) : jb_lp (zf_9_H34 (nI w) (nI y) (nI x) M1) (0, 0) = some z := by
  have e1 : (9 * y + x) % 9 = x := by omega
  have e2 : (9 * y + x) / 9 = y := by omega
  refine jb_itp (f := zf_9_H34 (nI w) (nI y) (nI x) M1) (fun (a : Nat) k => (nI a, nI k)) (bmc S i w x y) (fun _ a => a ≤ 164160) 0 4 (by omega) ?_ ?_
  · intro k a hk ha
    have hb := bmc_le hR (c := k) hi hw (show x ≤ 8 by omega) (show y ≤ 8 by omega) ha
    refine ⟨?_, hb⟩
    unfold zf_9_H34
    dsimp only
    have h1 := ld_le hR (c := k) hi
    have h2 := wprt_le (c := k) hw (show x ≤ 8 by omega) (show y ≤ 8 by omega)
    rw [if_pos (show nI k < 4 from nI_lt (b := 4) hk (by decide)), jn_gd hk (by decide), nI_clamp (by omega), hl k hk, jc_prt x hx y hy k hk, jn_mul, nI_add, jn_max (by omega) (by omega), nI_1]
    rfl
  · rintro b - rfl
    unfold bm at hz
    rw [e1, e2] at hz
    exact hz
theorem jc_bed {S : jSt} {M : jb_Mi} (hC : jC 4 S M) (hR : jR S) {i w : Nat} (hi : i < 6) (hs : 0 < S 0 i) (hw : w ≤ 99) : ∃ M1, zf_9 (nI i) (nI w) M = some M1 ∧ (∀ a, a ≠ 64 → a ≠ 65 → M1 a = M a) ∧ M1 64 6 = nI ((bd S i w 81).1 % 9) ∧ M1 64 7 = nI ((bd S i w 81).1 / 9) ∧ M1 64 8 = nI (bd S i w 81).2 := by
  obtain ⟨M0, w1, w2, w3⟩ := jc_weigh hC hR hi hs
  unfold zf_9
  rw [w1, Option.bind_some]
  let P : Nat → jb_Mi → Prop := fun k M' => (∀ a, a ≠ 64 → M' a = M0 a) ∧ (k = 0 → M' 64 8 = (-1)) ∧ (0 < k → M' 64 6 = nI ((bd S i w k).1 % 9) ∧ M' 64 7 = nI ((bd S i w k).1 / 9) ∧ M' 64 8 = nI (bd S i w k).2)
  have step : ∀ x y M', x < 9 → y < 9 → P (9 * y + x) M' → ∃ M'', zf_9_H21 (nI w) (nI y) (nI x, M') = some (.inl (nI (x + 1), M'')) ∧ P (9 * y + x + 1) M'' := by
    intro x y M' hx hy hP
    obtain ⟨p1, p2, p3⟩ := hP
    obtain ⟨o1, o2, o3⟩ := bd_ok hR hi hw (9 * y + x) (by omega)
    have hb := bm_le hR (k := 9 * y + x) hi hw (by omega)
    have hl : ∀ c, c < 4 → M' 65 c = nI (ld S i c) := by
      intro c hc
      rw [p1 65 (by decide), w3 c hc]
    have hM : M' = (fun a => if a = 64 then M' 64 else M0 a) := by
      funext a
      by_cases e : a = 64
      · simp [e]
      · rw [if_neg e, p1 a e]
    have hbd : bd S i w (9 * y + x + 1) = bdG S i w (9 * y + x) (bd S i w (9 * y + x)) := rfl
    have key : zf_9_H34 (nI w) (nI y) (nI x) M' (nI (bm S i w (9 * y + x)), nI 4) = some (.inr (.inl (nI (x + 1), if bm S i w (9 * y + x) < (bd S i w (9 * y + x)).2 then jb_up (jb_up (jb_up M' 64 8 (nI (bm S i w (9 * y + x)))) 64 6 (nI x)) 64 7 (nI y) else M'))) := by
      unfold zf_9_H34 zf_9_J87 zf_9_J104
      refine (if_neg (by dsimp only; decide)).trans ?_
      dsimp only
      simp only [Option.map_some, nI_1]
      by_cases k0 : 9 * y + x = 0
      · rw [p2 k0, if_pos (by decide), if_pos (by rw [k0]; unfold bd; simp only [itf]; rw [k0] at hb; omega)]
      · have q3 := (p3 (by omega)).2.2
        have q2 := o2 (by omega)
        rw [q3, if_neg (nI_pos (by omega))]
        by_cases c : bm S i w (9 * y + x) < (bd S i w (9 * y + x)).2
        · rw [if_pos (nI_lt c (by omega)), if_pos c]
        · rw [if_neg (nI_nlt (by omega) (by omega)), if_neg c]
    refine ⟨if bm S i w (9 * y + x) < (bd S i w (9 * y + x)).2 then jb_up (jb_up (jb_up M' 64 8 (nI (bm S i w (9 * y + x)))) 64 6 (nI x)) 64 7 (nI y) else M', ?_, ?_⟩
    · unfold zf_9_H21
      dsimp only
      rw [if_pos (show nI x < 9 from nI_lt (b := 9) hx (by decide)), jc_bedc hR hi hw hx hy hl key]
    · by_cases c : bm S i w (9 * y + x) < (bd S i w (9 * y + x)).2
      · rw [if_pos c]
        refine ⟨fun a ha => ?_, fun h => by omega, fun _ => ?_⟩
        · rw [jb_up_off ha, jb_up_off ha, jb_up_off ha, p1 a ha]
        · rw [hbd]
          unfold bdG
          rw [if_pos c]
          simp only [jb_up_at]
          refine ⟨?_, ?_, ?_⟩
          · simp; congr 1; omega
          · simp; congr 1; omega
          · simp
      · rw [if_neg c]
        have k0 : 0 < 9 * y + x := by
          apply Classical.byContradiction
          intro z
          have z0 : 9 * y + x = 0 := by omega
          apply c
          rw [z0] at hb ⊢
          unfold bd
          simp only [itf]
          omega
        refine ⟨p1, fun h => by omega, fun _ => ?_⟩
        rw [hbd]
        unfold bdG
        rw [if_neg c]
        exact p3 k0
  have row : ∀ y M', y < 9 → P (9 * y) M' → ∃ M'', jb_lp (zf_9_H21 (nI w) (nI y)) (nI 0, M') = some (.inl (nI (y + 1), M'')) ∧ P (9 * y + 9) M'' := by
    intro y M' hy hP
    have := jb_inv (f := zf_9_H21 (nI w) (nI y)) (fun n s => ∃ x M', x + n = 9 ∧ s = (nI x, M') ∧ P (9 * y + x) M') (fun r => ∃ M'', r = .inl (nI (y + 1), M'') ∧ P (9 * y + 9) M'') ?_ 9 (nI 0, M') ⟨0, M', by omega, rfl, hP⟩
    · obtain ⟨r, h1, M'', h2, h3⟩ := this
      exact ⟨M'', by rw [h1, h2], h3⟩
    · rintro n s ⟨x, M2, hx, rfl, hP2⟩
      by_cases e : x < 9
      · obtain ⟨M3, g1, g2⟩ := step x y M2 e hy hP2
        exact Or.inl ⟨n - 1, _, by omega, g1, x + 1, M3, by omega, rfl, g2⟩
      · have e : x = 9 := by omega
        subst e
        refine Or.inr ⟨_, ?_, M2, rfl, hP2⟩
        unfold zf_9_H21
        refine (if_neg (by dsimp only; decide)).trans ?_
        rw [nI_1]
  have := jb_inv (f := zf_9_H12 (nI w)) (fun n s => ∃ y M', y + n = 9 ∧ s = (nI y, M') ∧ P (9 * y) M') (fun M1 => P 81 M1) ?_ 9 (nI 0, jb_up M0 64 8 (-1)) ⟨0, _, by omega, rfl, ?_⟩
  · obtain ⟨M1, h1, h2, h3, h4⟩ := this
    exact ⟨M1, h1, fun a q1 q2 => by rw [h2 a q1, w2 a q2], h4 (by omega)⟩
  · rintro n s ⟨y, M2, hy, rfl, hP2⟩
    by_cases e : y < 9
    · obtain ⟨M3, g1, g2⟩ := row y M2 e hP2
      refine Or.inl ⟨n - 1, _, by omega, ?_, y + 1, M3, by omega, rfl, by rw [show 9 * (y + 1) = 9 * y + 9 by omega]; exact g2⟩
      unfold zf_9_H12
      exact (if_pos (show nI y < 9 from nI_lt (b := 9) e (by decide))).trans g1
    · have e : y = 9 := by omega
      subst e
      exact Or.inr ⟨M2, if_neg (by dsimp only; decide), hP2⟩
  · exact ⟨fun a ha => jb_up_off ha, fun _ => by rw [jb_up_at, if_pos ⟨rfl, rfl⟩], fun h => by omega⟩
theorem jn_div9 {a : Nat} (ha : a < 2 ^ 31) : nI a / 9 = nI (a / 9) := pk_div ha (by decide) (by decide)
theorem jn_rem9 {a : Nat} (ha : a < 2 ^ 31) : nI a - nI (a / 9) * 9 = nI (a % 9) := by rw [← jn_div9 ha]; exact pk_rem (d := 9) ha (by decide) (by decide)
theorem jd_bed {S : jSt} {M : jb_Mi} (hD : jD 80 S M) (hR : jR S) {i w : Nat} (hi : i < 6) (hw : w ≤ 99) (x3 : Int32) : jb_lp (zf_239_H40 (nI i) (nI w) x3 M) (0, 100000000, 0) = some (if x3 = 0 then nI ((bd S i w 81).1 % 9) else if x3 = 1 then nI ((bd S i w 81).1 / 9) else nI (bd S i w 81).2) := by
  refine jb_itp (f := zf_239_H40 (nI i) (nI w) x3 M) (fun (a : Nat × Nat) k => (nI a.1, nI a.2, nI k)) (bdG S i w) (fun k a => a.2 ≤ 100000000) (0, 100000000) 81 (Nat.le_refl _) ?_ ?_
  · intro k a hk ha
    have hb := bm_le hR (k := k) hi hw (by omega)
    have key : zf_239_H53 (nI i) (nI w) x3 (nI a.1) (nI a.2) (nI k) M (nI (bm S i w k), nI 4) = some (.inr (.inl (nI (bdG S i w k a).1, nI (bdG S i w k a).2, nI (k + 1)))) := by
      unfold zf_239_H53 zf_239_J114
      refine (if_neg (by dsimp only; decide)).trans ?_
      dsimp only
      simp only [Option.map_some, nI_1]
      unfold bdG
      by_cases c : bm S i w k < a.2
      · rw [if_pos (nI_lt c (by omega)), if_pos c]
      · rw [if_neg (nI_nlt (by omega) (by omega)), if_neg c]
    refine ⟨?_, ?_⟩
    · unfold zf_239_H40
      dsimp only
      rw [if_pos (show nI k < 81 from nI_lt (b := 81) hk (by decide))]
      refine jb_itp (f := zf_239_H53 (nI i) (nI w) x3 (nI a.1) (nI a.2) (nI k) M) (fun (a : Nat) k => (nI a, nI k)) (bmc S i w (k % 9) (k / 9)) (fun _ a => a ≤ 164160) 0 4 (by omega) ?_ ?_
      · intro c b hc hb
        have hb' := bmc_le hR (c := c) hi hw (show k % 9 ≤ 8 by omega) (show k / 9 ≤ 8 by omega) hb
        refine ⟨?_, hb'⟩
        have h1 := ld_le hR (c := c) hi
        have h2 := wprt_le (c := c) hw (show k % 9 ≤ 8 by omega) (show k / 9 ≤ 8 by omega)
        unfold zf_239_H53
        dsimp only
        rw [if_pos (show nI c < 4 from nI_lt (b := 4) hc (by decide)), jd_load hD hR hi hc, Option.bind_some, jn_div9 (by omega), jn_rem9 (by omega), jd_part, jc_prt _ (by omega) _ (by omega) c hc, jn_mul, nI_add, jn_max' (by omega) (by omega), nI_1]
        rfl
      · rintro b - rfl
        exact key
    · unfold bdG
      split
      · dsimp only; omega
      · exact ha
  · intro z hb e
    have o1 := (bd_ok hR hi hw 81 (by omega)).1
    have e2 : bd S i w 81 = z := e.symm
    rw [e2] at o1 ⊢
    unfold zf_239_H40
    refine (if_neg (by dsimp only; decide)).trans ?_
    dsimp only
    rw [jn_div9 (by omega), jn_rem9 (by omega)]
    repeat' (first | rfl | split)
theorem ca_bed {n : Nat} {M : jb_Mi} {N : jb_Ml} (hn : n < 512) (h : jInv n M N) (a1 a2 a3 : Int32) : ∃ (r : Int32) (M1 : jb_Mi), zf_143 a1 a2 a3 M = some (r, M1) ∧ M1 0 = M 0 ∧ zf_239 a1 a2 a3 M1 = some r ∧ jInv (n + 1) M1 N := by
  obtain ⟨⟨S, hC, hD, hR, hT⟩, -⟩ := id h
  unfold zf_143 zf_239
  rcases jx_house hC hD hR a1 with ⟨e1, e2⟩ | ⟨i, hi, rfl, hs, e1, e2⟩
  · exact ⟨_, M, by rw [e1]; rfl, rfl, by rw [e2]; rfl, jInv_mono h⟩
  rw [e1]
  simp only [Option.bind_some, jb_yes]
  simp only [jn_b, jn_w]
  by_cases c : zf_23 a2 1 99 = false
  · refine ⟨_, M, if_pos c, rfl, ?_, jInv_mono h⟩
    rw [e2, Option.bind_some]
    simp only [if_pos c]
    rfl
  by_cases c2 : zf_23 a3 0 2 = false
  · refine ⟨_, M, (if_neg c).trans (if_pos c2), rfl, ?_, jInv_mono h⟩
    rw [e2, Option.bind_some]
    simp only [if_neg c, if_pos c2]
    rfl
  obtain ⟨w, hw1, hw, rfl⟩ := jn_in1 (x := a2) 1 99 (by decide) (by decide) c
  obtain ⟨M1, k1, k2, k3, k4, k5⟩ := jc_bed hC hR hi hs hw
  rw [if_neg c, if_neg c2, k1]
  have hD1 : jD 80 S M1 := jD_of hD (k2 80 (by decide) (by decide))
  refine ⟨if a3 = 0 then M1 64 6 else if a3 = 1 then M1 64 7 else M1 64 8, M1, ?_, k2 0 (by decide) (by decide), ?_, jInv_off h (fun a ha => k2 a (by unfold jfix jrel at ha; omega) (by unfold jfix jrel at ha; omega))⟩
  · simp only [Option.bind_some]
    repeat' (first | rfl | split)
  · rw [jd_told hD1 hR hi, Option.bind_some]
    simp only [hs, decide_true, jn_b]
    rw [if_neg (by decide), if_neg c, if_neg c2, jd_bed hD1 hR hi hw, k3, k4, k5]
