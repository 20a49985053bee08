/-! an hour goes by in the reference -/
theorem jD_9 {S : jSt} {M : jb_Mi} (h : jD 80 S M) {j v : Nat} (hj : j < 3) : jD 80 (jset S 9 j v) (jb_up M 80 (146 + j) (nI v)) := by
  obtain ⟨c1, c2, c3, c4⟩ := h
  refine ⟨fun k hk => ?_, fun k hk => ?_, fun k hk => ?_, ?_⟩
  · have q := c1 k hk
    rw [jb_up_at, if_neg (by omega), jb_up_at, if_neg (by omega), jb_up_at, if_neg (by omega)]
    simpa [jset] using q
  · have q := c2 k hk
    rw [jb_up_at, if_neg (by omega), jb_up_at, if_neg (by omega), jb_up_at, if_neg (by omega), jb_up_at, if_neg (by omega)]
    simpa [jset] using q
  · have q := c3 k hk
    rw [jb_up_at, if_neg (by omega), jb_up_at, if_neg (by omega)]
    simpa [jset] using q
  · simp only [jb_up_at, jset, true_and]
    rcases (show j = 0 ∨ j = 1 ∨ j = 2 by omega) with rfl | rfl | rfl
    · simp [c4.2.1, c4.2.2]
    · simp [c4.1, c4.2.2]
    · simp [c4.1, c4.2.1]
theorem jD_2 {S : jSt} {M : jb_Mi} (h : jD 80 S M) {i v : Nat} (hi : i < 6) : jD 80 (jset S 2 i v) (jb_up M 80 (12 + i) (nI v)) := jD_up' h (k := 2) (j := i) (by omega) (by simp [joff])
theorem jD_8 {S : jSt} {M : jb_Mi} (h : jD 80 S M) {m v : Nat} (hm : m < 16) : jD 80 (jset S 8 m v) (jb_up M 80 (130 + m) (nI v)) := jD_up' h (k := 8) (j := m) (by omega) (by simp [joff])
def hzD (z : hz) (M : jb_Mi) : Prop := jD 80 z.1 M ∧ M 79 44 = nI z.2.1 ∧ M 79 38 = nI z.2.2.1 ∧ M 79 39 = nI z.2.2.2.1 ∧ M 79 40 = nI z.2.2.2.2.1 ∧ M 79 41 = nI z.2.2.2.2.2
/-- who fell first (6: none), at which hour each fell (0: not) -/
abbrev hx : Type := Nat × (Nat → Nat)
noncomputable def ef (f : Nat) : Int32 := if f = 6 then (-1) else nI f
noncomputable def ea (t : Nat) : Int32 := if t = 0 then (-2) else nI t
def hzX (z : hz) (h : Nat) (x : hx) (M : jb_Mi) : Prop := hzD z M ∧ M 79 43 = nI h ∧ M 79 42 = ef x.1 ∧ x.1 ≤ 6 ∧ ∀ i, i < 6 → M 103 i = ea (x.2 i)
def hfD (M M' : jb_Mi) : Prop := (∀ a, a ≠ 79 → a ≠ 80 → a ≠ 95 → a ≠ 96 → a ≠ 103 → M' a = M a) ∧ ∀ j, j < 38 ∨ 44 < j → M' 79 j = M 79 j
theorem hfD_refl (M : jb_Mi) : hfD M M := ⟨fun _ _ _ _ _ _ => rfl, fun _ _ => rfl⟩
theorem hfD_trans {A B C : jb_Mi} (h1 : hfD A B) (h2 : hfD B C) : hfD A C := ⟨fun a q1 q2 q3 q4 q5 => by rw [h2.1 a q1 q2 q3 q4 q5, h1.1 a q1 q2 q3 q4 q5], fun j hj => by rw [h2.2 j hj, h1.2 j hj]⟩
theorem hfD_ld {M M' : jb_Mi} (h : ldsame M M') : hfD M M' := ⟨fun a _ _ q3 _ _ => h a q3, fun j _ => by rw [h 79 (by decide)]⟩
theorem hfD_96 {M M' : jb_Mi} (h : ∀ a, a ≠ 96 → M' a = M a) : hfD M M' := ⟨fun a _ _ _ q4 _ => h a q4, fun j _ => by rw [h 79 (by decide)]⟩
theorem hfD_80 (M : jb_Mi) (j : Nat) (x : Int32) : hfD M (jb_up M 80 j x) := ⟨fun a _ q2 _ _ _ => jb_up_off q2, fun k _ => by rw [jb_up_off (by decide)]⟩
theorem hfD_79 (M : jb_Mi) {j : Nat} (hj : 38 ≤ j ∧ j ≤ 44) (x : Int32) : hfD M (jb_up M 79 j x) := ⟨fun a q1 _ _ _ _ => jb_up_off q1, fun k hk => by rw [jb_up_at, if_neg (by omega)]⟩
theorem hfD_103 (M : jb_Mi) (j : Nat) (x : Int32) : hfD M (jb_up M 103 j x) := ⟨fun a _ _ _ _ q5 => jb_up_off q5, fun k _ => by rw [jb_up_off (by decide)]⟩
theorem hzD_of {z : hz} {M M' : jb_Mi} (h : hzD z M) (h80 : M' 80 = M 80) (h79 : M' 79 = M 79) : hzD z M' := by
  obtain ⟨c1, c2, c3, c4, c5, c6⟩ := h
  exact ⟨jD_of c1 h80, by rw [h79]; exact c2, by rw [h79]; exact c3, by rw [h79]; exact c4, by rw [h79]; exact c5, by rw [h79]; exact c6⟩
theorem hzX_of {z : hz} {h : Nat} {x : hx} {M M' : jb_Mi} (hh : hzX z h x M) (h80 : M' 80 = M 80) (h79 : M' 79 = M 79) (h103 : M' 103 = M 103) : hzX z h x M' := by
  obtain ⟨c1, c2, c3, c4, c5⟩ := hh
  exact ⟨hzD_of c1 h80 h79, by rw [h79]; exact c2, by rw [h79]; exact c3, c4, by rw [h103]; exact c5⟩
def sagX (i h : Nat) (S : jSt) (x : hx) : hx := if S 2 i + 1 < 9 then x else (if x.1 = 6 then i else x.1, fun j => if j = i then h else x.2 j)
theorem jd_sag {z : hz} {h : Nat} {x : hx} {M : jb_Mi} (hX : hzX z h x M) (hk : hok z) (hh : 1 ≤ h) {i : Nat} (hi : i < 6) (hu : uph z.1 i = true) : ∃ M', zf_223 (nI i) M = some M' ∧ hzX (sagZ i z) h (sagX i h z.1 x) M' ∧ hfD M M' := by
  obtain ⟨⟨c1, c2, c3, c4, c5, c6⟩, d1, d2, d3, d4⟩ := hX
  have hu2 := (uph_iff _ _).mp hu
  have q := c1.1 i hi
  unfold zf_223
  rw [show (12 : Int32) + nI i = nI (12 + i) from jn_addl 12 i, jn_gd (by omega) (by decide), jn_gd (by omega) (by decide), jn_gd (by omega) (by decide), jn_gd hi (by decide), nI_clamp (by omega), nI_clamp (by omega), q.2.2, nI_1]
  have e38 : jb_up M 80 (12 + i) (nI (z.1 2 i + 1)) 79 38 = nI z.2.2.1 := by rw [jb_up_off (by decide)]; exact c3
  rw [e38, nI_1]
  have e80 : jb_up (jb_up M 80 (12 + i) (nI (z.1 2 i + 1))) 79 38 (nI (z.2.2.1 + 1)) 80 (12 + i) = nI (z.1 2 i + 1) := by rw [jb_up_off (by decide), jb_up_at, if_pos ⟨rfl, rfl⟩]
  have e41 : jb_up (jb_up M 80 (12 + i) (nI (z.1 2 i + 1))) 79 38 (nI (z.2.2.1 + 1)) 79 41 = nI z.2.2.2.2.2 := by rw [jb_up_at, if_neg (by omega), jb_up_off (by decide)]; exact c6
  rw [e41, nI_1]
  have hD1 : jD 80 (sagZ i z).1 (jb_up (jb_up M 80 (12 + i) (nI (z.1 2 i + 1))) 79 38 (nI (z.2.2.1 + 1))) := jD_of (jD_2 c1 hi) (jb_up_off (by decide))
  have fr1 : hfD M (jb_up (jb_up M 80 (12 + i) (nI (z.1 2 i + 1))) 79 38 (nI (z.2.2.1 + 1))) := hfD_trans (hfD_80 M _ _) (hfD_79 _ (by omega) _)
  have b79 : ∀ j, j ≠ 38 → jb_up (jb_up M 80 (12 + i) (nI (z.1 2 i + 1))) 79 38 (nI (z.2.2.1 + 1)) 79 j = M 79 j := fun j hj => by rw [jb_up_at, if_neg (fun y => hj y.2), jb_up_off (by decide)]
  have b38 : jb_up (jb_up M 80 (12 + i) (nI (z.1 2 i + 1))) 79 38 (nI (z.2.2.1 + 1)) 79 38 = nI (z.2.2.1 + 1) := by rw [jb_up_at, if_pos ⟨rfl, rfl⟩]
  have b103 : jb_up (jb_up M 80 (12 + i) (nI (z.1 2 i + 1))) 79 38 (nI (z.2.2.1 + 1)) 103 = M 103 := by rw [jb_up_off (by decide), jb_up_off (by decide)]
  simp only [e80]
  generalize jb_up (jb_up M 80 (12 + i) (nI (z.1 2 i + 1))) 79 38 (nI (z.2.2.1 + 1)) = M1 at hD1 fr1 b79 b38 b103
  by_cases c : z.1 2 i + 1 < 9
  · rw [if_pos (show nI (z.1 2 i + 1) < 9 from nI_lt (b := 9) c (by decide))]
    have ex : sagX i h z.1 x = x := if_pos c
    have e5 : (sagZ i z).2 = (z.2.1, z.2.2.1 + 1, z.2.2.2.1, z.2.2.2.2.1, z.2.2.2.2.2) := by unfold sagZ; rw [if_pos c]; rfl
    rw [ex]
    refine ⟨M1, rfl, ⟨⟨hD1, ?_, ?_, ?_, ?_, ?_⟩, ?_, ?_, d3, ?_⟩, fr1⟩
    · rw [e5, b79 44 (by decide)]; exact c2
    · rw [e5, b38]
    · rw [e5, b79 39 (by decide)]; exact c4
    · rw [e5, b79 40 (by decide)]; exact c5
    · rw [e5, b79 41 (by decide)]; exact c6
    · rw [b79 43 (by decide)]; exact d1
    · rw [b79 42 (by decide)]; exact d2
    · rw [b103]; exact d4
  · rw [if_neg (show ¬ nI (z.1 2 i + 1) < 9 from nI_nlt (b := 9) (by omega) (by omega))]
    have ex : sagX i h z.1 x = (if x.1 = 6 then i else x.1, fun j => if j = i then h else x.2 j) := if_neg c
    have e5 : (sagZ i z).2 = (z.2.1, z.2.2.1 + 1, z.2.2.2.1, z.2.2.2.2.1, z.2.2.2.2.2 + 1) := by unfold sagZ; rw [if_neg c]
    have e43 : jb_up M1 79 41 (nI (z.2.2.2.2.2 + 1)) 79 43 = nI h := by rw [jb_up_at, if_neg (by omega), b79 43 (by decide)]; exact d1
    rw [e43, ex]
    have e42 : jb_up (jb_up M1 79 41 (nI (z.2.2.2.2.2 + 1))) 103 i (nI h) 79 42 = ef x.1 := by rw [jb_up_off (by decide), jb_up_at, if_neg (by omega), b79 42 (by decide)]; exact d2
    have fr2 : hfD M (jb_up (jb_up M1 79 41 (nI (z.2.2.2.2.2 + 1))) 103 i (nI h)) := hfD_trans fr1 (hfD_trans (hfD_79 M1 (by omega) _) (hfD_103 _ _ _))
    have fin : ∀ M2, (∀ a, a ≠ 79 → M2 a = jb_up (jb_up M1 79 41 (nI (z.2.2.2.2.2 + 1))) 103 i (nI h) a) → (∀ j, j ≠ 42 → M2 79 j = jb_up M1 79 41 (nI (z.2.2.2.2.2 + 1)) 79 j) → M2 79 42 = ef (if x.1 = 6 then i else x.1) → hzX (sagZ i z) h (if x.1 = 6 then i else x.1, fun j => if j = i then h else x.2 j) M2 := by
      intro M2 m1 m2 m3
      refine ⟨⟨jD_of hD1 (by rw [m1 80 (by decide), jb_up_off (by decide), jb_up_off (by decide)]), ?_, ?_, ?_, ?_, ?_⟩, ?_, m3, ?_, ?_⟩
      · rw [e5, m2 44 (by decide), jb_up_at, if_neg (by omega), b79 44 (by decide)]; exact c2
      · rw [e5, m2 38 (by decide), jb_up_at, if_neg (by omega), b38]
      · rw [e5, m2 39 (by decide), jb_up_at, if_neg (by omega), b79 39 (by decide)]; exact c4
      · rw [e5, m2 40 (by decide), jb_up_at, if_neg (by omega), b79 40 (by decide)]; exact c5
      · rw [e5, m2 41 (by decide), jb_up_at, if_pos ⟨rfl, rfl⟩]
      · rw [m2 43 (by decide), e43]
      · dsimp only; split <;> omega
      · intro j hj
        rw [m1 103 (by decide), jb_up_at]
        dsimp only
        by_cases cj : j = i
        · rw [if_pos ⟨rfl, cj⟩, if_pos cj]
          unfold ea
          rw [if_neg (by omega)]
        · rw [if_neg (fun y => cj y.2), if_neg cj, jb_up_off (by decide), b103]
          exact d4 j hj
    by_cases cf : x.1 = 6
    · rw [if_pos (show jb_up (jb_up M1 79 41 (nI (z.2.2.2.2.2 + 1))) 103 i (nI h) 79 42 = -1 by rw [e42]; unfold ef; rw [if_pos cf])]
      refine ⟨_, rfl, fin _ (fun a ha => jb_up_off ha) (fun j hj => by rw [jb_up_at, if_neg (fun y => hj y.2), jb_up_off (by decide)]) ?_, hfD_trans fr2 (hfD_79 _ (by omega) _)⟩
      rw [jb_up_at, if_pos ⟨rfl, rfl⟩, if_pos cf]
      unfold ef
      rw [if_neg (by omega)]
    · rw [if_neg (show ¬ jb_up (jb_up M1 79 41 (nI (z.2.2.2.2.2 + 1))) 103 i (nI h) 79 42 = -1 by rw [e42]; unfold ef; rw [if_neg cf, jn_m1 (by omega)]; exact id)]
      refine ⟨_, rfl, fin _ (fun a _ => rfl) (fun j hj => by rw [jb_up_off (by decide)]) ?_, fr2⟩
      rw [e42, if_neg cf]
theorem jd_feelsOff {S : jSt} {M : jb_Mi} (hD : jD 80 S M) (hR : jR S) {m : Nat} (hm : m < 16) : ∃ M', zf_210 (nI m) M = some M' ∧ (∀ a, a ≠ 96 → M' a = M a) ∧ ∀ k, k < 10 → M' 96 k = fac S m 24 k := by
  have hd := hR.2.2.2.2.1
  unfold zf_210
  obtain ⟨M', r1, r2, r3⟩ := jb_inv (f := zf_210_H2 (nI m)) (fun n s => ∃ k M', k + n = 10 ∧ s = (nI k, M') ∧ (∀ a, a ≠ 96 → M' a = M a) ∧ ∀ j, j < k → M' 96 j = 0) (fun M' => (∀ a, a ≠ 96 → M' a = M a) ∧ ∀ k, k < 10 → M' 96 k = fac S m 24 k) (by
    rintro n s ⟨k, M', hn, rfl, h1, h2⟩
    unfold zf_210_H2
    dsimp only
    by_cases e : k < 10
    · refine Or.inl ⟨n - 1, (nI (k + 1), jb_up M' 96 k 0), by omega, ?_, k + 1, jb_up M' 96 k 0, by omega, rfl, fun a ha => by rw [jb_up_off ha, h1 a ha], fun j hj => ?_⟩
      · rw [if_pos (show nI k < 10 from nI_lt (b := 10) e (by decide)), jn_gd e (by decide), nI_clamp (by omega), nI_1]
      · rw [jb_up_at]
        by_cases c : j = k
        · rw [if_pos ⟨rfl, c⟩]
        · rw [if_neg (fun y => c y.2)]
          exact h2 j (by omega)
    · have e : k = 10 := by omega
      subst e
      have hD' : jD 80 S M' := jD_of hD (h1 80 (by decide))
      right
      rw [if_neg (by decide), show (114 : Int32) + nI m = nI (114 + m) from jn_addl 114 m, show (130 : Int32) + nI m = nI (130 + m) from jn_addl 130 m, jn_gd (by omega) (by decide), jn_gd (by omega) (by decide), nI_clamp (by omega), nI_clamp (by omega)]
      simp only [jb_up_off (show (80 : Nat) ≠ 96 by decide), (hD'.2.2.1 m hm).1, (hD'.2.2.1 m hm).2, hD'.2.2.2.1, hD'.2.2.2.2.1, rem100 (show S 9 1 < 2 ^ 31 by omega)]
      refine ⟨_, rfl, fun a ha => by simp only [jb_up_off ha]; exact h1 a ha, fun k hk => ?_⟩
      unfold fac
      simp only [jb_up_at, true_and]
      rcases (show k = 0 ∨ k = 1 ∨ k = 2 ∨ k = 3 ∨ k = 4 ∨ k = 5 ∨ k = 6 ∨ k = 7 ∨ k = 8 ∨ k = 9 by omega) with rfl | rfl | rfl | rfl | rfl | rfl | rfl | rfl | rfl | rfl <;> simp [h2]) 10 (nI 0, M) ⟨0, M, by omega, rfl, fun _ _ => rfl, fun j hj => by omega⟩
  exact ⟨M', r1, r2, r3⟩
theorem jd_feelsAt {S : jSt} {M : jb_Mi} (hD : jD 80 S M) (hR : jR S) {m q : Nat} (hm : m < 16) (hq : q < 24) : ∃ M', zf_211 (nI m) (nI (q / 4)) (nI (q % 4)) M = some M' ∧ (∀ a, a ≠ 96 → M' a = M a) ∧ ∀ k, k < 10 → M' 96 k = fac S m q k := by
  obtain ⟨M1, f1, f2, f3⟩ := jd_feelsOff hD hR hm
  have hD1 : jD 80 S M1 := jD_of hD (f2 80 (by decide))
  have hll := ld_le hR (i := q / 4) (c := q % 4) (by omega)
  unfold zf_211
  rw [f1, Option.bind_some, jd_load hD1 hR (by omega) (by omega), Option.bind_some, show (0 : Int32) + nI (q / 4) = nI (0 + q / 4) from jn_addl 0 _, show (12 : Int32) + nI (q / 4) = nI (12 + q / 4) from jn_addl 12 _, Nat.zero_add, jn_gd (by omega) (by decide), jn_gd (by omega) (by decide), nI_clamp (by omega), nI_clamp (by omega)]
  simp only [jb_up_off (show (80 : Nat) ≠ 96 by decide), (hD1.1 (q / 4) (by omega)).1, (hD1.1 (q / 4) (by omega)).2.2, show nI (ld S (q / 4) (q % 4)) / 64 = nI (ld S (q / 4) (q % 4) / 64) from pk_div (d := 64) (by omega) (by decide) (by decide)]
  refine ⟨_, rfl, fun a ha => by simp only [jb_up_off ha]; exact f2 a ha, fun k hk => ?_⟩
  have f3k := f3 k hk
  unfold fac at f3k ⊢
  simp only [jb_up_at, true_and]
  rcases (show k = 0 ∨ k = 1 ∨ k = 2 ∨ k = 3 ∨ k = 4 ∨ k = 5 ∨ k = 6 ∨ k = 7 ∨ k = 8 ∨ k = 9 by omega) with rfl | rfl | rfl | rfl | rfl | rfl | rfl | rfl | rfl | rfl <;> simp [show ¬ q = 24 by omega] at f3k ⊢ <;> exact f3k
/-- what holdX says of those that fall -/
noncomputable def stepX (q h : Nat) (S S' : jSt) (x : hx) : hx := if uph S (q / 4) = true ∧ uph S' (q / 4) = false then (if x.1 = 6 then q / 4 else x.1, fun j => if j = q / 4 then h else x.2 j) else x
theorem sagX_step {q h : Nat} {S S1 : jSt} {x : hx} (h0 : S1 0 (q / 4) = S 0 (q / 4)) (h2 : S1 2 (q / 4) = S 2 (q / 4)) (hu : uph S (q / 4) = true) : sagX (q / 4) h S1 x = stepX q h S (jset S1 2 (q / 4) (S1 2 (q / 4) + 1)) x := by
  have hu2 := (uph_iff _ _).mp hu
  unfold sagX stepX
  rw [hu]
  have eu : uph (jset S1 2 (q / 4) (S1 2 (q / 4) + 1)) (q / 4) = decide (S1 2 (q / 4) + 1 < 9) := by
    unfold uph jset
    rw [if_neg (by omega), if_pos ⟨rfl, rfl⟩, h0]
    simp [hu2.1]
  rw [eu]
  by_cases c : S1 2 (q / 4) + 1 < 9
  · rw [if_pos c, if_neg (fun y => by have := y.2; rw [decide_eq_true c] at this; cases this)]
  · rw [if_neg c, if_pos (show true = true ∧ decide (S1 2 (q / 4) + 1 < 9) = false from ⟨rfl, decide_eq_false c⟩)]
theorem stepX_same {q h : Nat} {S S' : jSt} {x : hx} (he : uph S' (q / 4) = uph S (q / 4)) : stepX q h S S' x = x := by
  unfold stepX
  rw [he]
  refine if_neg (fun y => ?_)
  have a := y.1
  have b := y.2
  rw [a] at b
  cases b
