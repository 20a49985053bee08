/-! who falls in an hour -/
def fln (S S' : jSt) (i : Nat) : Prop := uph S i = true ∧ uph S' i = false
theorem fln_irr {S : jSt} {i : Nat} : ¬ fln S S i := fun z => by
  have a := z.1
  have b := z.2
  rw [a] at b
  cases b
theorem uph_of {S S' : jSt} {i : Nat} (h0 : S' 0 i = S 0 i) (h2 : S' 2 i = S 2 i) : uph S' i = uph S i := by
  unfold uph
  rw [h0, h2]
theorem uph_val {S : jSt} {i a b : Nat} (h0 : S 0 i = a) (h2 : S 2 i = b) : uph S i = decide (0 < a ∧ b < 9) := by
  unfold uph
  rw [h0, h2]
theorem row_ne {S : jSt} {k j v a : Nat} (h : a ≠ k) : jset S k j v a = S a := by
  funext j'
  unfold jset
  rw [if_neg (by omega)]
theorem tir_ne {S : jSt} {w t a : Nat} (h : a ≠ 8) : tirS S w t a = S a := row_ne h
theorem sag_u {z y : hz} {i : Nat} (h0 : y.1 0 = z.1 0) (h2 : y.1 2 = z.1 2) (hf : y.2.2.2.2.2 = z.2.2.2.2.2) (hu : uph z.1 i = true) : (∀ j, j ≠ i → uph (sagZ i y).1 j = uph z.1 j) ∧ ((uph (sagZ i y).1 i = uph z.1 i ∧ (sagZ i y).2.2.2.2.2 = z.2.2.2.2.2) ∨ (uph z.1 i = true ∧ uph (sagZ i y).1 i = false ∧ (sagZ i y).2.2.2.2.2 = z.2.2.2.2.2 + 1)) := by
  have hu2 := (uph_iff _ _).mp hu
  have e1 : (sagZ i y).1 = jset y.1 2 i (y.1 2 i + 1) := rfl
  refine ⟨fun j hj => ?_, ?_⟩
  · apply uph_of
    · rw [e1, row_ne (by decide), h0]
    · rw [e1]
      unfold jset
      rw [if_neg (fun z => hj z.2), h2]
  · have e : uph (sagZ i y).1 i = decide (z.1 2 i + 1 < 9) := by
      rw [uph_val (a := z.1 0 i) (b := z.1 2 i + 1) (by rw [e1, row_ne (by decide), h0]) (by rw [e1]; unfold jset; rw [if_pos ⟨rfl, rfl⟩, h2])]
      simp [hu2.1]
    have e5 : (sagZ i y).2.2.2.2.2 = z.2.2.2.2.2 + (if z.1 2 i + 1 < 9 then 0 else 1) := by
      have : (sagZ i y).2.2.2.2.2 = y.2.2.2.2.2 + (if y.1 2 i + 1 < 9 then 0 else 1) := rfl
      rw [this, hf, h2]
    rw [e, e5]
    by_cases c : z.1 2 i + 1 < 9
    · left
      rw [decide_eq_true c, hu, if_pos c]
      exact ⟨rfl, rfl⟩
    · right
      rw [decide_eq_false c, if_neg c]
      exact ⟨hu, rfl, rfl⟩
theorem corn_u {L : jLa} {R : Nat → List Nat} {q : Nat} {z : hz} : (∀ j, j ≠ q / 4 → uph (cornZ L R q z).1 j = uph z.1 j) ∧ ((uph (cornZ L R q z).1 (q / 4) = uph z.1 (q / 4) ∧ (cornZ L R q z).2.2.2.2.2 = z.2.2.2.2.2) ∨ (uph z.1 (q / 4) = true ∧ uph (cornZ L R q z).1 (q / 4) = false ∧ (cornZ L R q z).2.2.2.2.2 = z.2.2.2.2.2 + 1)) := by
  unfold cornZ
  by_cases hu : uph z.1 (q / 4) = true
  · rw [if_pos hu]
    unfold holdZ
    split
    · exact sag_u rfl rfl rfl hu
    · split
      · refine sag_u ?_ ?_ rfl hu
        · dsimp only; rw [tir_ne (by decide)]
        · dsimp only; rw [tir_ne (by decide)]
      · split
        · refine sag_u ?_ ?_ rfl hu
          · dsimp only; rw [row_ne (by decide), tir_ne (by decide)]
          · dsimp only; rw [row_ne (by decide), tir_ne (by decide)]
        · have key : ∀ j, uph (jset (tirS z.1 (whoT z.1 R q (now z.1)) (amt L (fac z.1 (whoT z.1 R q (now z.1)) q) 116 99)) 9 2 (nxtX (z.1 9 2))) j = uph z.1 j := fun j => uph_of (by rw [row_ne (by decide), tir_ne (by decide)]) (by rw [row_ne (by decide), tir_ne (by decide)])
          exact ⟨fun j _ => key j, Or.inl ⟨key _, rfl⟩⟩
  · rw [if_neg hu]
    exact ⟨fun _ _ => rfl, Or.inl ⟨rfl, rfl⟩⟩
noncomputable def cornX (L : jLa) (R : Nat → List Nat) (h q : Nat) (p : hz × hx) : hz × hx := (cornZ L R q p.1, stepX q h p.1.1 (cornZ L R q p.1).1 p.2)
theorem cornX_1 (L : jLa) (R : Nat → List Nat) (h : Nat) (p : hz × hx) : ∀ n, (itf (cornX L R h) p n).1 = itf (cornZ L R) p.1 n
  | 0 => rfl
  | n + 1 => by
    have i := cornX_1 L R h p n
    simp only [itf]
    rw [← i]
    rfl
/-- what is known behind q corners -/
def pQ (h q : Nat) (z0 : hz) (x0 : hx) (z : hz) (x : hx) : Prop := (∀ i, i < 6 → uph z.1 i = true → uph z0.1 i = true) ∧ (∀ i, i < 6 → (fln z0.1 z.1 i → x.2 i = h) ∧ (¬ fln z0.1 z.1 i → x.2 i = x0.2 i)) ∧ (x0.1 ≠ 6 → x.1 = x0.1) ∧ (x0.1 = 6 → (x.1 = 6 ∧ ∀ i, i < 6 → ¬ fln z0.1 z.1 i) ∨ (x.1 < 6 ∧ 4 * x.1 < q ∧ fln z0.1 z.1 x.1 ∧ ∀ i, i < 6 → fln z0.1 z.1 i → x.1 ≤ i)) ∧ z0.2.2.2.2.2 ≤ z.2.2.2.2.2 ∧ (z.2.2.2.2.2 = z0.2.2.2.2.2 ↔ ∀ i, i < 6 → ¬ fln z0.1 z.1 i)
theorem pQ_s {L : jLa} {R : Nat → List Nat} {h q : Nat} {z0 : hz} {x0 : hx} {z : hz} {x : hx} (hq : q < 24) (hp : pQ h q z0 x0 z x) : pQ h (q + 1) z0 x0 (cornZ L R q z) (stepX q h z.1 (cornZ L R q z).1 x) := by
  obtain ⟨p1, p2, p3, p4, p5, p6⟩ := hp
  obtain ⟨u1, u2⟩ := corn_u (L := L) (R := R) (q := q) (z := z)
  have hj : q / 4 < 6 := by omega
  generalize cornZ L R q z = y at u1 u2
  rcases u2 with ⟨u2, u3⟩ | ⟨u2, u3, u4⟩
  · -- nobody falls
    have hall : ∀ i, uph y.1 i = uph z.1 i := by
      intro i
      by_cases c : i = q / 4
      · rw [c]; exact u2
      · exact u1 i c
    have hf : ∀ i, fln z0.1 y.1 i ↔ fln z0.1 z.1 i := by
      intro i
      unfold fln
      rw [hall i]
    rw [stepX_same u2]
    refine ⟨fun i hi hu => p1 i hi (by rw [← hall i]; exact hu), fun i hi => ⟨fun z1 => (p2 i hi).1 ((hf i).mp z1), fun z1 => (p2 i hi).2 (fun z2 => z1 ((hf i).mpr z2))⟩, p3, fun hx => ?_, by omega, ?_⟩
    · rcases p4 hx with ⟨a, b⟩ | ⟨a, b, c, d⟩
      · exact Or.inl ⟨a, fun i hi z1 => b i hi ((hf i).mp z1)⟩
      · exact Or.inr ⟨a, by omega, (hf _).mpr c, fun i hi z1 => d i hi ((hf i).mp z1)⟩
    · rw [u3, p6]
      exact ⟨fun z1 i hi z2 => z1 i hi ((hf i).mp z2), fun z1 i hi z2 => z1 i hi ((hf i).mpr z2)⟩
  · -- house q / 4 falls
    have ex : stepX q h z.1 y.1 x = (if x.1 = 6 then q / 4 else x.1, fun j => if j = q / 4 then h else x.2 j) := if_pos ⟨u2, u3⟩
    have h0 := p1 _ hj u2
    have hfj : fln z0.1 y.1 (q / 4) := ⟨h0, u3⟩
    have hnj : ¬ fln z0.1 z.1 (q / 4) := fun z1 => by rw [z1.2] at u2; cases u2
    have hfo : ∀ i, i ≠ q / 4 → (fln z0.1 y.1 i ↔ fln z0.1 z.1 i) := by
      intro i hi
      unfold fln
      rw [u1 i hi]
    rw [ex]
    refine ⟨fun i hi hu => ?_, fun i hi => ?_, fun hx => ?_, fun hx => ?_, by omega, ?_⟩
    · by_cases c : i = q / 4
      · rw [c] at hu; rw [u3] at hu; cases hu
      · exact p1 i hi (by rw [← u1 i c]; exact hu)
    · dsimp only
      by_cases c : i = q / 4
      · rw [if_pos c]
        exact ⟨fun _ => rfl, fun z1 => absurd (c ▸ hfj) z1⟩
      · rw [if_neg c]
        exact ⟨fun z1 => (p2 i hi).1 ((hfo i c).mp z1), fun z1 => (p2 i hi).2 (fun z2 => z1 ((hfo i c).mpr z2))⟩
    · dsimp only
      rw [p3 hx, if_neg hx]
    · right
      dsimp only
      rcases p4 hx with ⟨a, b⟩ | ⟨a, b, c, d⟩
      · rw [if_pos a]
        refine ⟨hj, by omega, hfj, fun i hi z1 => ?_⟩
        by_cases ci : i = q / 4
        · omega
        · exact absurd ((hfo i ci).mp z1) (b i hi)
      · rw [if_neg (show ¬ x.1 = 6 by omega)]
        have hne : x.1 ≠ q / 4 := fun z1 => hnj (z1 ▸ c)
        refine ⟨a, by omega, (hfo _ hne).mpr c, fun i hi z1 => ?_⟩
        by_cases ci : i = q / 4
        · omega
        · exact d i hi ((hfo i ci).mp z1)
    · constructor
      · intro z1; omega
      · intro z1; exact absurd hfj (z1 _ hj)
theorem pQ_all {L : jLa} {R : Nat → List Nat} {h : Nat} {z0 : hz} {x0 : hx} : ∀ q, q ≤ 24 → pQ h q z0 x0 (itf (cornX L R h) (z0, x0) q).1 (itf (cornX L R h) (z0, x0) q).2
  | 0, _ => ⟨fun _ _ hu => hu, fun i hi => ⟨fun z1 => absurd z1 fln_irr, fun _ => rfl⟩, fun _ => rfl, fun hx => Or.inl ⟨hx, fun i hi => fln_irr⟩, Nat.le_refl _, ⟨fun _ i hi => fln_irr, fun _ => rfl⟩⟩
  | q + 1, hq => by
    have i := pQ_all (L := L) (R := R) (h := h) (z0 := z0) (x0 := x0) q (by omega)
    exact pQ_s (by omega) i
/-- the whole hour -/
noncomputable def hourX (L : jLa) (R : Nat → List Nat) (h : Nat) (z : hz) (x : hx) : hx := (itf (cornX L R h) ((z.1, 0, z.2.2), x) 24).2
theorem rest_u {L : jLa} (z : hz) (i : Nat) : ∀ n, uph (itf (restZ L) z n).1 i = uph z.1 i ∧ (itf (restZ L) z n).2.2.2.2.2 = z.2.2.2.2.2
  | 0 => ⟨rfl, rfl⟩
  | n + 1 => by
    obtain ⟨i1, i2⟩ := rest_u (L := L) z i n
    simp only [itf]
    generalize itf (restZ L) z n = y at i1 i2
    unfold restZ
    split
    · refine ⟨?_, i2⟩
      rw [← i1]
      exact uph_set8 (Or.inl rfl)
    · exact ⟨i1, i2⟩
theorem tick_u (S : jSt) (i : Nat) : uph (tickS S) i = uph S i := by
  unfold tickS
  split
  · exact uph_set8 (Or.inr rfl)
  · rw [uph_set8 (Or.inr rfl), uph_set8 (Or.inr rfl)]
theorem hour_u {L : jLa} {R : Nat → List Nat} (z : hz) (i : Nat) : uph (hourZ L R z).1 i = uph (midZ L R z).1 i ∧ (hourZ L R z).2.2.2.2.2 = (midZ L R z).2.2.2.2.2 := by
  have := rest_u (L := L) (midZ L R z) i 16
  unfold hourZ endZ
  dsimp only
  rw [tick_u]
  exact this
theorem hourX_ok {L : jLa} {R : Nat → List Nat} {h : Nat} {z : hz} {x : hx} : pQ h 24 z x (hourZ L R z) (hourX L R h z x) := by
  have hp := pQ_all (L := L) (R := R) (h := h) (z0 := (z.1, 0, z.2.2)) (x0 := x) 24 (Nat.le_refl _)
  have e1 : (itf (cornX L R h) ((z.1, 0, z.2.2), x) 24).1 = midZ L R z := by
    rw [cornX_1]
    unfold midZ
    rfl
  rw [e1] at hp
  unfold hourX
  generalize (itf (cornX L R h) ((z.1, 0, z.2.2), x) 24).2 = y at hp
  have hu := hour_u (L := L) (R := R) z
  generalize hourZ L R z = w at hu
  generalize midZ L R z = v at hp hu
  obtain ⟨p1, p2, p3, p4, p5, p6⟩ := hp
  have hf : ∀ i, fln z.1 w.1 i ↔ fln z.1 v.1 i := by
    intro i
    unfold fln
    rw [(hu i).1]
  have h5 := (hu 0).2
  refine ⟨fun i hi hh => p1 i hi (by rw [← (hu i).1]; exact hh), fun i hi => ⟨fun z1 => (p2 i hi).1 ((hf i).mp z1), fun z1 => (p2 i hi).2 (fun z2 => z1 ((hf i).mpr z2))⟩, p3, fun hx => ?_, by rw [h5]; exact p5, ?_⟩
  · rcases p4 hx with ⟨a, b⟩ | ⟨a, b, c, d⟩
    · exact Or.inl ⟨a, fun i hi z1 => b i hi ((hf i).mp z1)⟩
    · exact Or.inr ⟨a, b, (hf _).mpr c, fun i hi z1 => d i hi ((hf i).mp z1)⟩
  · rw [h5, p6]
    exact ⟨fun z1 i hi z2 => z1 i hi ((hf i).mp z2), fun z1 i hi z2 => z1 i hi ((hf i).mpr z2)⟩
