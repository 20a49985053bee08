/-! hours, tried, stands, fallsFirst -/
noncomputable def uq (L : jLa) (R : Nat → List Nat) (S : jSt) (k i : Nat) : Bool := uph (sX L R S k).1.1 i
noncomputable def fq (L : jLa) (R : Nat → List Nat) (S : jSt) (k : Nat) : Nat := (sX L R S k).1.2.2.2.2.2
theorem sX_p (L : jLa) (R : Nat → List Nat) (S : jSt) (k : Nat) : pQ (k + 1) 24 (sX L R S k).1 (sX L R S k).2 (sX L R S (k + 1)).1 (sX L R S (k + 1)).2 := by
  have e1 : (sX L R S (k + 1)).1 = hourZ L R (sX L R S k).1 := by rw [sX_s]
  have e2 : (sX L R S (k + 1)).2 = hourX L R (k + 1) (sX L R S k).1 (sX L R S k).2 := by rw [sX_s]
  rw [e1, e2]
  exact hourX_ok
theorem fq_s (L : jLa) (R : Nat → List Nat) (S : jSt) (k : Nat) : fq L R S k ≤ fq L R S (k + 1) := by
  have := (sX_p L R S k).2.2.2.2.1
  unfold fq
  exact this
theorem fq_mono (L : jLa) (R : Nat → List Nat) (S : jSt) {a b : Nat} (hab : a ≤ b) : fq L R S a ≤ fq L R S b := by
  induction hab with
  | refl => exact Nat.le_refl _
  | step _ ih => exact Nat.le_trans ih (fq_s L R S _)
theorem uq_s {L : jLa} {R : Nat → List Nat} {S : jSt} {k i : Nat} (hi : i < 6) (h : uq L R S (k + 1) i = true) : uq L R S k i = true := (sX_p L R S k).1 i hi h
theorem uq_mono {L : jLa} {R : Nat → List Nat} {S : jSt} {i : Nat} (hi : i < 6) {a b : Nat} (hab : a ≤ b) (h : uq L R S b i = true) : uq L R S a i = true := by
  induction hab with
  | refl => exact h
  | step _ ih => exact ih (uq_s hi h)
theorem fa_ok {L : jLa} {R : Nat → List Nat} {S : jSt} {i : Nat} (hi : i < 6) (h0 : uq L R S 0 i = true) : ∀ k, (uq L R S k i = true → (sX L R S k).2.2 i = 0) ∧ (uq L R S k i = false → ∃ t, 1 ≤ t ∧ t ≤ k ∧ (sX L R S k).2.2 i = t ∧ uq L R S t i = false ∧ ∀ s, s < t → uq L R S s i = true)
  | 0 => ⟨fun _ => rfl, fun h => by rw [h0] at h; cases h⟩
  | k + 1 => by
    obtain ⟨i1, i2⟩ := fa_ok hi h0 k
    have hp := (sX_p L R S k).2.1 i hi
    constructor
    · intro hu
      have hk := uq_s hi hu
      have hn : ¬ fln (sX L R S k).1.1 (sX L R S (k + 1)).1.1 i := fun z => by
        have := z.2
        unfold uq at hu
        rw [hu] at this
        cases this
      rw [hp.2 hn]
      exact i1 hk
    · intro hu
      cases hk : uq L R S k i
      · obtain ⟨t, t1, t2, t3, t4, t5⟩ := i2 hk
        have hn : ¬ fln (sX L R S k).1.1 (sX L R S (k + 1)).1.1 i := fun z => by
          have := z.1
          unfold uq at hk
          rw [hk] at this
          cases this
        exact ⟨t, t1, by omega, by rw [hp.2 hn]; exact t3, t4, t5⟩
      · have hf : fln (sX L R S k).1.1 (sX L R S (k + 1)).1.1 i := ⟨hk, hu⟩
        exact ⟨k + 1, by omega, Nat.le_refl _, hp.1 hf, hu, fun s hs => uq_mono hi (show s ≤ k by omega) hk⟩
theorem ff_ok {L : jLa} {R : Nat → List Nat} {S : jSt} : ∀ k, (fq L R S k = 0 ∧ (sX L R S k).2.1 = 6 ∧ ∀ i, i < 6 → uq L R S k i = uq L R S 0 i) ∨ (∃ t, 1 ≤ t ∧ t ≤ k ∧ (∀ s, s < t → fq L R S s = 0) ∧ fq L R S t ≠ 0 ∧ (sX L R S k).2.1 < 6 ∧ fln S (sX L R S t).1.1 (sX L R S k).2.1 ∧ ∀ i, i < 6 → fln S (sX L R S t).1.1 i → (sX L R S k).2.1 ≤ i)
  | 0 => Or.inl ⟨rfl, rfl, fun _ _ => rfl⟩
  | k + 1 => by
    obtain ⟨p1, p2, p3, p4, p5, p6⟩ := sX_p L R S k
    rcases ff_ok (L := L) (R := R) (S := S) k with ⟨a, b, c⟩ | ⟨t, t1, t2, t3, t4, t5, t6, t7⟩
    · have hS : ∀ i, i < 6 → (fln S (sX L R S (k + 1)).1.1 i ↔ fln (sX L R S k).1.1 (sX L R S (k + 1)).1.1 i) := by
        intro i hi
        unfold fln
        have : uph (sX L R S k).1.1 i = uph S i := c i hi
        rw [this]
      have hs0 : ∀ s, s < k + 1 → fq L R S s = 0 := by
        intro s hs
        have := fq_mono L R S (show s ≤ k by omega)
        omega
      rcases p4 b with ⟨q1, q2⟩ | ⟨q1, -, q3, q4⟩
      · left
        refine ⟨?_, q1, fun i hi => ?_⟩
        · have := p6.mpr q2
          unfold fq at a ⊢
          omega
        · rw [← c i hi]
          cases hk : uq L R S k i
          · cases hk1 : uq L R S (k + 1) i
            · rfl
            · rw [uq_s hi hk1] at hk; cases hk
          · cases hk1 : uq L R S (k + 1) i
            · exact absurd ⟨hk, hk1⟩ (q2 i hi)
            · rfl
      · right
        refine ⟨k + 1, by omega, Nat.le_refl _, hs0, ?_, q1, (hS _ q1).mpr q3, fun i hi z => q4 i hi ((hS i hi).mp z)⟩
        intro z
        have : (sX L R S (k + 1)).1.2.2.2.2.2 = (sX L R S k).1.2.2.2.2.2 := by
          unfold fq at a z
          omega
        exact p6.mp this _ q1 q3
    · right
      have hx : (sX L R S (k + 1)).2.1 = (sX L R S k).2.1 := p3 (by omega)
      rw [hx]
      exact ⟨t, t1, by omega, t3, t4, t5, t6, t7⟩
theorem jrel_hfr {w o : Nat} {M M' : jb_Mi} (hw : (w = 60 ∧ o = 4) ∨ (w = 62 ∧ o = 24)) (h : hfr w o M M') : ∀ a, jrel a ∨ a = 79 ∨ a = 80 ∨ a = 0 → M' a = M a := fun a ha => h a (by unfold jrel at ha; omega) (by unfold jrel at ha; omega) (by unfold jrel at ha; omega) (by unfold jrel at ha; omega) (by unfold jrel at ha; omega) (by unfold jrel at ha; omega) (by unfold jrel at ha; omega)
theorem ca_hours {n : Nat} {M : jb_Mi} {N : jb_Ml} (hn : n < 512) (h : jInv n M N) (a1 : Int32) : ∃ (r : Int32) (M1 : jb_Mi) (M2 : jb_Mi), zf_133 a1 M = some (r, M1) ∧ M1 0 = M 0 ∧ zf_228 a1 M1 = some (r, M2) ∧ M2 0 = M 0 ∧ jInv (n + 1) M2 N := by
  obtain ⟨⟨S, hC, hD, hR, hT⟩, -, -, ⟨R, hr⟩, hlw, -⟩ := id h
  obtain ⟨L, hO, hLC, hLD⟩ := jLx_law hlw
  unfold zf_133 zf_228
  simp only [jn_b, jn_w]
  by_cases c : zf_23 a1 1 240 = false
  · exact ⟨_, M, M, if_pos c, rfl, if_pos c, rfl, jInv_mono h⟩
  obtain ⟨k, hk1, hk, rfl⟩ := jn_in1 (x := a1) 1 240 (by decide) (by decide) c
  have hnow : now S + k < 239976 := by unfold now; omega
  have hwo : wo 60 4 := Or.inl ⟨rfl, rfl⟩
  obtain ⟨M0, b1, b2, b3⟩ := cS_begin hwo hC hR
  obtain ⟨x, y1, M1, rfl, y2, y3⟩ := jb_inv (f := zf_133_H22 (nI k)) (fun m s => ∃ j M', j + m = k ∧ s = (nI j, M') ∧ cS 60 4 (sX L R S j).1 M' ∧ hfr 60 4 M0 M') (fun x => ∃ M1, x = (nI (sX L R S k).1.2.2.1, M1) ∧ cS 60 4 (sX L R S k).1 M1 ∧ hfr 60 4 M0 M1) (by
    rintro m s ⟨j, M', hm, rfl, h1, h2⟩
    unfold zf_133_H22
    dsimp only
    by_cases e : j < k
    · obtain ⟨i1, i2, i3⟩ := sX_ok (L := L) (R := R) hR j (by omega)
      have hL' : lwC L M' := lwC_of hLC (fun a g1 g2 => by rw [h2 a (by omega) (by omega) (by omega) (by omega) (by omega) (by omega) (by omega), b3 a (by omega) (by omega)])
      have hr' : jRo R M' := jRo_of hr (by rw [h2 36 (by decide) (by decide) (by decide) (by decide) (by decide) (by decide) (by decide), b3 36 (by decide) (by decide)]) (by rw [h2 98 (by decide) (by decide) (by decide) (by decide) (by decide) (by decide) (by decide), b3 98 (by decide) (by decide)]) (by rw [h2 35 (by decide) (by decide) (by decide) (by decide) (by decide) (by decide) (by decide), b3 35 (by decide) (by decide)]) (by rw [h2 97 (by decide) (by decide) (by decide) (by decide) (by decide) (by decide) (by decide), b3 97 (by decide) (by decide)])
      obtain ⟨M2, p1, p2, p3⟩ := cS_pass hwo hO hL' hr' h1 i1
      have p4 : cS 60 4 (sX L R S (j + 1)).1 M2 := by rw [sX_s]; exact p2
      exact Or.inl ⟨m - 1, (nI (j + 1), M2), by omega, by rw [if_pos (nI_lt e (by omega)), p1, Option.bind_some, nI_1], j + 1, M2, by omega, rfl, p4, hfr_trans h2 p3⟩
    · have e : j = k := by omega
      subst e
      refine Or.inr ⟨_, ?_, M', rfl, h1, h2⟩
      rw [if_neg (nI_nlt (Nat.le_refl _) (by omega))]
      obtain ⟨y, q1, q2, q3⟩ := h1
      rw [q1.2.2.1, q3]) k (nI 0, M0) ⟨0, M0, by omega, rfl, b2, hfr_refl _ _ _⟩
  have hM1 : ∀ a, jrel a ∨ a = 79 ∨ a = 80 ∨ a = 0 → M1 a = M a := fun a ha => by rw [jrel_hfr hwo y3 a ha, b3 a (by unfold jrel at ha; omega) (by unfold jrel at ha; omega)]
  have hD1 : jD 80 S M1 := jD_of hD (hM1 80 (by omega))
  have hr1 : jRo R M1 := jRo_of hr (hM1 36 (by unfold jrel; omega)) (hM1 98 (by unfold jrel; omega)) (hM1 35 (by unfold jrel; omega)) (hM1 97 (by unfold jrel; omega))
  have hL1 : lwD L M1 := lwD_of hLD (fun a g1 g2 => hM1 a (by unfold jrel; omega)) (by rw [hM1 79 (by omega)])
  obtain ⟨M2, g1, ⟨y, q1, q2, q3⟩, g3⟩ := jd_hoursGo hO hL1 hr1 hD1 hR hk hnow
  obtain ⟨i1, i2, i3⟩ := sX_ok (L := L) (R := R) hR k hnow
  refine ⟨nI (sX L R S k).1.2.2.1, M1, M2, ?_, hM1 0 (by omega), ?_, ?_, ?_⟩
  · rw [if_neg c, b1, Option.bind_some]
    exact y1
  · rw [if_neg c, g1, Option.bind_some, q1.1.2.2.1, q3]
  · rw [g3.1 0 (by decide) (by decide) (by decide) (by decide) (by decide), hM1 0 (by omega)]
  · obtain ⟨y', u1, u2, u3⟩ := y2
    have hjr : ∀ a, jrel a → M2 a = M a := fun a ha => by rw [g3.1 a (by unfold jrel at ha; omega) (by unfold jrel at ha; omega) (by unfold jrel at ha; omega) (by unfold jrel at ha; omega) (by unfold jrel at ha; omega), hM1 a (Or.inl ha)]
    refine jInv_street (S := (sX L R S k).1.1) h ?_ ?_ i1 ?_ hjr ?_ ?_ ?_
    · rw [← u2]
      exact jC_of u1.1 (fun a e1 e2 => g3.1 a (by omega) (by omega) (by omega) (by omega) (by omega))
    · rw [← q2]
      exact q1.1.1
    · unfold now at i3 hnow
      omega
    · rw [g3.2 4 (by omega), hM1 79 (by omega)]
    · rw [g3.2 13 (by omega), hM1 79 (by omega)]
    · rw [g3.2 57 (by omega), hM1 79 (by omega)]
/-! trials -/
theorem jc_trial {S : jSt} {M : jb_Mi} (hC : jC 4 S M) (hR : jR S) : ∃ M', zf_134 M = some M' ∧ cS 62 24 (S, 0, 0, 0, 0, 0) M' ∧ ∀ a, a < 24 ∨ (33 < a ∧ a ≠ 62 ∧ a ≠ 63) → M' a = M a := by
  have hC1 : jC 24 S (zf_102 24 4 M) := jc_copy (by omega) hC
  obtain ⟨M', b1, b2, b3⟩ := cS_begin (w := 62) (o := 24) (Or.inr ⟨rfl, rfl⟩) hC1 hR
  refine ⟨M', ?_, b2, fun a ha => ?_⟩
  · unfold zf_134
    rw [b1]
    rfl
  · rw [b3 a (by omega) (by omega), jc_copy_off (by decide) M (by omega)]
/-- what a trial leaves -/
def trf (M M' : jb_Mi) : Prop := ∀ a, a < 24 ∨ (33 < a ∧ a ≠ 57 ∧ a ≠ 58 ∧ a ≠ 59 ∧ a ≠ 62 ∧ a ≠ 63) → M' a = M a
theorem trf_pass {L : jLa} {R : Nat → List Nat} {S : jSt} {M M' : jb_Mi} (hO : lwO L) (hL : lwC L M) (hr : jRo R M) (hR : jR S) {j : Nat} (hb : now S + j < 239976) (hC : cS 62 24 (sX L R S j).1 M') (hf : trf M M') : ∃ M2, zf_124 62 24 M' = some M2 ∧ cS 62 24 (sX L R S (j + 1)).1 M2 ∧ trf M M2 := by
  obtain ⟨i1, i2, i3⟩ := sX_ok (L := L) (R := R) hR j hb
  have hL' : lwC L M' := lwC_of hL (fun a g1 g2 => hf a (by omega))
  have hr' : jRo R M' := jRo_of hr (hf 36 (by omega)) (hf 98 (by omega)) (hf 35 (by omega)) (hf 97 (by omega))
  obtain ⟨M2, p1, p2, p3⟩ := cS_pass (w := 62) (o := 24) (Or.inr ⟨rfl, rfl⟩) hO hL' hr' hC i1
  refine ⟨M2, p1, by rw [sX_s]; exact p2, fun a ha => ?_⟩
  rw [p3 a (by omega) (by omega) (by omega) (by omega) (by omega) (by omega) (by omega), hf a ha]
/-- the reference tries hours and puts all back -/
theorem jd_try {L : jLa} {R : Nat → List Nat} {S : jSt} {M : jb_Mi} (hO : lwO L) (hL : lwD L M) (hr : jRo R M) (hD : jD 80 S M) (hR : jR S) {k : Nat} (hk : k ≤ 240) (hb : now S + k < 239976) : ∃ M2 M3 M4, zf_170 80 81 M = some M2 ∧ zf_227 (nI k) M2 = some M3 ∧ zf_170 81 80 M3 = some M4 ∧ dS (sX L R S k).1 k (sX L R S k).2 M3 ∧ (∀ a, a ≠ 80 → M4 a = M3 a) ∧ jD 80 S M4 ∧ (∀ a, a ≠ 79 → a ≠ 80 → a ≠ 81 → a ≠ 95 → a ≠ 96 → a ≠ 103 → M4 a = M a) ∧ ∀ j, j < 38 ∨ 44 < j → M4 79 j = M 79 j := by
  obtain ⟨M2, c1, c2, c3⟩ := jd_copies (a1 := 80) (a2 := 81) (by decide) M
  have hD2 : jD 80 S M2 := jD_of hD (c2 80 (by decide))
  have hr2 : jRo R M2 := jRo_of hr (c2 36 (by decide)) (c2 98 (by decide)) (c2 35 (by decide)) (c2 97 (by decide))
  have hL2 : lwD L M2 := lwD_of hL (fun a g1 g2 => c2 a (by omega)) (by rw [c2 79 (by decide)])
  obtain ⟨M3, g1, g2, g3⟩ := jd_hoursGo hO hL2 hr2 hD2 hR hk hb
  obtain ⟨M4, d1, d2, d3⟩ := jd_copies (a1 := 81) (a2 := 80) (by decide) M3
  refine ⟨M2, M3, M4, c1, g1, d1, g2, d2, ?_, ?_, ?_⟩
  · refine jD_copy (a1 := 80) (M := M) hD (fun j hj => ?_)
    rw [d3 j hj, g3.1 81 (by decide) (by decide) (by decide) (by decide) (by decide), c3 j hj]
  · intro a q1 q2 q3 q4 q5 q6
    rw [d2 a q2, g3.1 a q1 q2 q4 q5 q6, c2 a q3]
  · intro j hj
    rw [d2 79 (by decide), g3.2 j hj, c2 79 (by decide)]
theorem jInv_try {n : Nat} {M M1 M4 : jb_Mi} {N : jb_Ml} {S : jSt} (h : jInv n M N) (hC : jC 4 S M) (hR : jR S) (hT : 24 * S 9 1 + S 9 0 ≤ 240 * n) (hf : trf M M1) (hD : jD 80 S M4) (h4 : ∀ a, a ≠ 79 → a ≠ 80 → a ≠ 81 → a ≠ 95 → a ≠ 96 → a ≠ 103 → M4 a = M1 a) (h79 : ∀ j, j < 38 ∨ 44 < j → M4 79 j = M1 79 j) : M4 0 = M 0 ∧ jInv (n + 1) M4 N := by
  refine ⟨by rw [h4 0 (by decide) (by decide) (by decide) (by decide) (by decide) (by decide), hf 0 (by omega)], ?_⟩
  refine jInv_street (S := S) h (jC_of hC (fun a e1 e2 => by rw [h4 a (by omega) (by omega) (by omega) (by omega) (by omega) (by omega), hf a (by omega)])) hD hR (by omega) (fun a ha => ?_) ?_ ?_ ?_
  · rw [h4 a (by unfold jrel at ha; omega) (by unfold jrel at ha; omega) (by unfold jrel at ha; omega) (by unfold jrel at ha; omega) (by unfold jrel at ha; omega) (by unfold jrel at ha; omega), hf a (by unfold jrel at ha; omega)]
  · rw [h79 4 (by omega), hf 79 (by omega)]
  · rw [h79 13 (by omega), hf 79 (by omega)]
  · rw [h79 57 (by omega), hf 79 (by omega)]
