/-! who has to strike: sums -/
theorem jsum_add (f g : Nat → Nat) : ∀ n, jsum (fun k => f k + g k) n = jsum f n + jsum g n
  | 0 => rfl
  | n + 1 => by
    have i := jsum_add f g n
    simp only [jsum]
    omega
theorem jsum_congr {f g : Nat → Nat} : ∀ n, (∀ k, k < n → f k = g k) → jsum f n = jsum g n
  | 0, _ => rfl
  | n + 1, h => by
    simp only [jsum]
    rw [jsum_congr n (fun k hk => h k (by omega)), h n (by omega)]
theorem jsum_le2 {f g : Nat → Nat} : ∀ n, (∀ k, k < n → f k ≤ g k) → jsum f n ≤ jsum g n
  | 0, _ => Nat.le_refl _
  | n + 1, h => by
    have i := jsum_le2 n (fun k hk => h k (by omega))
    have := h n (by omega)
    simp only [jsum]
    omega
/-- the sum of some numbers over a set -/
def sg (f : Nat → Nat) (s k : Nat) : Nat := if s.testBit k = true then f k else 0
def ssum (f : Nat → Nat) (s : Nat) : Nat := jsum (sg f s) 16
theorem bit01 (x k : Nat) : x / 2 ^ k % 2 = if x.testBit k = true then 1 else 0 := by
  rw [Nat.testBit_eq_decide_div_mod_eq]
  by_cases c : x / 2 ^ k % 2 = 1
  · simp [c]
  · have : x / 2 ^ k % 2 = 0 := by omega
    simp [this]
theorem pc_ssum (s : Nat) : pc s = ssum (fun _ => 1) s := jsum_congr 16 (fun k _ => bit01 s k)
theorem self_sum (s : Nat) : ∀ n, jsum (fun k => if s.testBit k = true then 2 ^ k else 0) n = s % 2 ^ n
  | 0 => by simp [jsum, Nat.mod_one]
  | n + 1 => by
    have i := self_sum s n
    simp only [jsum]
    rw [i, Nat.pow_succ, Nat.mod_mul]
    have := bit01 s n
    by_cases c : s.testBit n = true
    · rw [if_pos c] at this ⊢
      rw [this, Nat.mul_one]
    · rw [if_neg c] at this ⊢
      rw [this, Nat.mul_zero]
theorem self_ssum {s : Nat} (h : s < 65536) : ssum (fun k => 2 ^ k) s = s := (self_sum s 16).trans (Nat.mod_eq_of_lt h)
/-- one taken out, one put in -/
theorem ssum_out (f : Nat → Nat) {s b : Nat} (hb : b < 16) (h : s.testBit b = true) : ssum f s = ssum f (s ^^^ 2 ^ b) + f b := by
  have := jsum_upd (f := sg f s) (g := sg f (s ^^^ 2 ^ b)) (b := b) 16 (fun k hk => by
    unfold sg
    rw [Nat.testBit_xor, Nat.testBit_two_pow, show decide (b = k) = false from decide_eq_false (fun z => hk z.symm), Bool.xor_false]) hb
  have e1 : sg f s b = f b := if_pos h
  have e2 : sg f (s ^^^ 2 ^ b) b = 0 := by
    unfold sg
    rw [Nat.testBit_xor, Nat.testBit_two_pow, h, decide_eq_true rfl]
    rfl
  unfold ssum
  omega
theorem ssum_in (f : Nat → Nat) {s b : Nat} (hb : b < 16) (h : s.testBit b = false) : ssum f (s ||| 2 ^ b) = ssum f s + f b := by
  have := jsum_upd (f := sg f (s ||| 2 ^ b)) (g := sg f s) (b := b) 16 (fun k hk => by
    unfold sg
    rw [Nat.testBit_or, Nat.testBit_two_pow, show decide (b = k) = false from decide_eq_false (fun z => hk z.symm), Bool.or_false]) hb
  have e1 : sg f s b = 0 := by
    unfold sg
    rw [h]
    rfl
  have e2 : sg f (s ||| 2 ^ b) b = f b := by
    unfold sg
    rw [Nat.testBit_or, Nat.testBit_two_pow, h, decide_eq_true rfl]
    rfl
  unfold ssum
  omega
/-- a set is of another -/
def sub16 (a b : Nat) : Prop := ∀ k, a.testBit k = true → b.testBit k = true
theorem sub_and {a b : Nat} : a &&& b = a ↔ sub16 a b := by
  constructor
  · intro h k hk
    rw [← h, Nat.testBit_and, Bool.and_eq_true] at hk
    exact hk.2
  · intro h
    apply Nat.eq_of_testBit_eq
    intro k
    rw [Nat.testBit_and]
    cases c : a.testBit k
    · rfl
    · rw [h k c]; rfl
theorem sub_pc {a b : Nat} (h : sub16 a b) : pc a ≤ pc b := by
  rw [pc_ssum, pc_ssum]
  apply jsum_le2
  intro k _
  unfold sg
  by_cases c : a.testBit k = true
  · rw [if_pos c, if_pos (h k c)]
    exact Nat.le_refl _
  · rw [if_neg c]; exact Nat.zero_le _
theorem pc_diff {a b : Nat} (h : pc b < pc a) : ∃ k, a.testBit k = true ∧ b.testBit k = false := by
  apply Classical.byContradiction
  intro c
  have hs : sub16 a b := by
    intro k hk
    cases q : b.testBit k
    · exact absurd ⟨k, hk, q⟩ c
    · rfl
  have := sub_pc hs
  omega
/-- what a man counts: his hours, then his number -/
def phi (h : Nat → Nat) (m : Nat) : Nat := 2 ^ 20 * h m + (65536 - 2 ^ m)
theorem p16 {m : Nat} (hm : m < 16) : 2 ^ m ≤ 32768 := Nat.pow_le_pow_right (n := 2) (i := m) (j := 15) (by decide) (by omega)
theorem phi_le {h : Nat → Nat} {a b : Nat} (ha : a < 16) (hb : b < 16) (h1 : h a < h b ∨ (h a = h b ∧ b ≤ a)) : phi h a ≤ phi h b := by
  have q1 := p16 ha
  have q2 := p16 hb
  have q3 : 0 < 2 ^ a := Nat.pow_pos (by decide)
  unfold phi
  rcases h1 with h1 | ⟨h1, h2⟩
  · omega
  · have : 2 ^ b ≤ 2 ^ a := Nat.pow_le_pow_right (by decide) h2
    rw [h1]
    omega
theorem phi_sum (h : Nat → Nat) {s : Nat} (hs : s < 65536) : ssum (phi h) s + s = 2 ^ 20 * ssum h s + 65536 * pc s := by
  have e : ∀ n, n ≤ 16 → jsum (sg (phi h) s) n + jsum (fun k => if s.testBit k = true then 2 ^ k else 0) n = 2 ^ 20 * jsum (sg h s) n + 65536 * jsum (sg (fun _ => 1) s) n := by
    intro n
    induction n with
    | zero => intro _; rfl
    | succ n ih =>
      intro hn
      have i := ih (by omega)
      have q := p16 (m := n) (by omega)
      simp only [jsum]
      have e4 : phi h n = 2 ^ 20 * h n + (65536 - 2 ^ n) := rfl
      by_cases c : s.testBit n = true
      · rw [if_pos c, show sg (phi h) s n = phi h n from if_pos c, show sg h s n = h n from if_pos c, show sg (fun _ => 1) s n = 1 from if_pos c]
        omega
      · rw [if_neg c, show sg (phi h) s n = 0 from if_neg c, show sg h s n = 0 from if_neg c, show sg (fun _ => 1) s n = 0 from if_neg c]
        omega
  have := e 16 (Nat.le_refl _)
  rw [pc_ssum]
  have e2 := self_ssum hs
  unfold ssum at e2 ⊢
  have e3 : jsum (sg (fun k => 2 ^ k) s) 16 = jsum (fun k => if s.testBit k = true then 2 ^ k else 0) 16 := rfl
  omega
/-- the best of j: whoever they are, no others are better -/
def bestj (h : Nat → Nat) (all j g : Nat) : Prop := g < 65536 ∧ sub16 g all ∧ pc g = j ∧ ∀ s, s < 65536 → sub16 s all → pc s = j → ssum (phi h) s ≤ ssum (phi h) g
theorem bestj_0 (h : Nat → Nat) (all : Nat) : bestj h all 0 0 := by
  refine ⟨by decide, (fun k hk => absurd hk (by rw [Nat.zero_testBit]; decide)), by decide, fun s hs h1 h2 => ?_⟩
  have e : s = 0 := by
    apply Classical.byContradiction
    intro c
    have hp : pc 0 < pc s ∨ pc s = 0 := by omega
    have : ∀ k, s.testBit k = false := by
      intro k
      cases q : s.testBit k
      · rfl
      · have hk : k < 16 := by
          apply Classical.byContradiction
          intro z
          rw [Nat.testBit_lt_two_pow (Nat.lt_of_lt_of_le hs (show 65536 ≤ 2 ^ k from Nat.pow_le_pow_right (n := 2) (i := 16) (j := k) (by decide) (by omega)))] at q
          cases q
        have := ssum_out (fun _ => 1) hk q
        rw [← pc_ssum, h2] at this
        omega
    exact c (Nat.eq_of_testBit_eq (fun i => by rw [this i, Nat.zero_testBit]))
  rw [e]
  exact Nat.le_refl _
theorem bit_lt16 {s k : Nat} (hs : s < 65536) (h : s.testBit k = true) : k < 16 := by
  apply Classical.byContradiction
  intro z
  rw [Nat.testBit_lt_two_pow (Nat.lt_of_lt_of_le hs (show 65536 ≤ 2 ^ k from Nat.pow_le_pow_right (n := 2) (i := 16) (j := k) (by decide) (by omega)))] at h
  cases h
theorem bestj_s {h : Nat → Nat} {all j g b : Nat} (hg : bestj h all j g) (hb : b < 16) (h1 : all.testBit b = true) (h2 : g.testBit b = false) (h3 : ∀ m, m < 16 → all.testBit m = true → g.testBit m = false → phi h m ≤ phi h b) : bestj h all (j + 1) (g ||| 2 ^ b) := by
  obtain ⟨g1, g2, g3, g4⟩ := hg
  refine ⟨Nat.or_lt_two_pow (n := 16) g1 (Nat.pow_lt_pow_right (a := 2) (by decide) hb), ?_, ?_, ?_⟩
  · intro k hk
    rw [Nat.testBit_or, Bool.or_eq_true] at hk
    rcases hk with hk | hk
    · exact g2 k hk
    · rw [Nat.testBit_two_pow, decide_eq_true_eq] at hk
      rw [← hk]; exact h1
  · rw [pc_ssum, ssum_in _ hb h2, ← pc_ssum, g3]
  · intro s hs q1 q2
    obtain ⟨k, k1, k2⟩ := pc_diff (a := s) (b := g) (by omega)
    have hk := bit_lt16 hs k1
    have e1 := ssum_out (phi h) hk k1
    have e2 := ssum_out (fun _ => 1) hk k1
    rw [← pc_ssum, ← pc_ssum] at e2
    have hx : s ^^^ 2 ^ k < 65536 := Nat.xor_lt_two_pow (n := 16) hs (Nat.pow_lt_pow_right (a := 2) (by decide) hk)
    have l := g4 (s ^^^ 2 ^ k) hx (fun m hm => by
      rw [Nat.testBit_xor, Nat.testBit_two_pow] at hm
      by_cases z : k = m
      · subst z
        rw [k1, decide_eq_true rfl] at hm
        cases hm
      · rw [decide_eq_false z, Bool.xor_false] at hm
        exact q1 m hm) (by omega)
    have l2 := h3 k hk (q1 k k1) k2
    rw [ssum_in (phi h) hb h2]
    omega
/-- the first of the greatest is the best -/
theorem bestj_first {h : Nat → Nat} {all j g b : Nat} (hg : bestj h all j g) (hb : b < 65536) (h1 : sub16 b all) (h2 : pc b = j) (h3 : ssum h g < ssum h b ∨ (ssum h g = ssum h b ∧ b ≤ g)) : b = g := by
  obtain ⟨g1, g2, g3, g4⟩ := hg
  have l := g4 b hb h1 h2
  have e1 := phi_sum h hb
  have e2 := phi_sum h g1
  rw [h2] at e1
  rw [g3] at e2
  omega
/-! the hours of a day -/
def wk (S : jSt) (R : Nat → List Nat) (k q : Nat) : Nat := if 0 < S 0 (q / 4) ∧ S 2 (q / 4) < 9 then whoT S R q (now S + k) else 17
theorem wk_le (S : jSt) (R : Nat → List Nat) (k q : Nat) : wk S R k q ≤ 17 := by
  unfold wk
  split
  · have := whoT_le S R q (now S + k); omega
  · omega
def aG (w : Nat → Nat) (q a : Nat) : Nat := if w q < 16 then a ||| 2 ^ w q else a
def aS (w : Nat → Nat) (q : Nat) : Nat := itf (aG w) 0 q
def emG (w : Nat → Nat) (q : Nat) (a : Nat × Nat) : Nat × Nat := if w q = 17 then a else if w q = 16 ∨ a.2.testBit (w q) = true then (a.1 + 1, a.2) else (a.1, a.2 ||| 2 ^ w q)
def tot (w : Nat → Nat) (q : Nat) : Nat := jsum (fun q => if w q = 17 then 0 else 1) q
def ds (s a : Nat) : Nat := ssum (fun m => if s.testBit m = true then 0 else 1) a
theorem aS_lt {w : Nat → Nat} : ∀ q, aS w q < 65536
  | 0 => by show (0 : Nat) < 65536; decide
  | q + 1 => by
    have i := aS_lt (w := w) q
    have e : aS w (q + 1) = aG w q (aS w q) := rfl
    rw [e]
    unfold aG
    split
    · rename_i h; exact Nat.or_lt_two_pow (n := 16) i (Nat.pow_lt_pow_right (a := 2) (by decide) h)
    · exact i
theorem or_self_bit {a k : Nat} (h : a.testBit k = true) : a ||| 2 ^ k = a := by
  apply Nat.eq_of_testBit_eq
  intro i
  rw [Nat.testBit_or, Nat.testBit_two_pow]
  by_cases c : k = i
  · subst c; rw [h]; rfl
  · rw [decide_eq_false c, Bool.or_false]
theorem em_ok {w : Nat → Nat} (hw : ∀ q, w q ≤ 17) (s n0 : Nat) : ∀ q, (itf (emG w) (n0, s) q).2 = s ||| aS w q ∧ (itf (emG w) (n0, s) q).1 + ds s (aS w q) = n0 + tot w q
  | 0 => by
    refine ⟨(Nat.or_zero s).symm, ?_⟩
    have e : ds s (aS w 0) = 0 := by
      unfold ds ssum
      have : ∀ n, jsum (sg (fun m => if s.testBit m = true then 0 else 1) (aS w 0)) n = 0 := by
        intro n
        induction n with
        | zero => rfl
        | succ n ih =>
          simp only [jsum]
          rw [ih]
          unfold sg
          have : aS w 0 = 0 := rfl
          rw [this, Nat.zero_testBit]
          rfl
      exact this 16
    rw [e]
    rfl
  | q + 1 => by
    obtain ⟨i1, i2⟩ := em_ok hw s n0 q
    have ea : aS w (q + 1) = aG w q (aS w q) := rfl
    have et : tot w (q + 1) = tot w q + (if w q = 17 then 0 else 1) := rfl
    simp only [itf]
    rw [ea, et]
    generalize itf (emG w) (n0, s) q = z at i1 i2
    have hq := hw q
    unfold emG aG
    by_cases c1 : w q = 17
    · rw [if_pos c1, if_pos c1, if_neg (by omega)]
      exact ⟨i1, i2⟩
    · rw [if_neg c1, if_neg c1]
      by_cases c2 : w q = 16
      · rw [if_pos (Or.inl c2), if_neg (by omega)]
        exact ⟨i1, by dsimp only; omega⟩
      · have hlt : w q < 16 := by omega
        rw [if_pos hlt]
        by_cases c3 : z.2.testBit (w q) = true
        · rw [if_pos (Or.inr c3)]
          dsimp only
          rw [i1, Nat.testBit_or, Bool.or_eq_true] at c3
          by_cases c4 : (aS w q).testBit (w q) = true
          · rw [or_self_bit c4]
            exact ⟨i1, by omega⟩
          · have c5 : s.testBit (w q) = true := c3.resolve_right c4
            refine ⟨?_, ?_⟩
            · rw [i1, ← Nat.or_assoc, Nat.or_comm s, Nat.or_assoc, or_self_bit c5, Nat.or_comm]
            · have := ssum_in (fun m => if s.testBit m = true then 0 else 1) hlt (show (aS w q).testBit (w q) = false by simpa using c4)
              rw [if_pos c5] at this
              unfold ds at i2 ⊢
              omega
        · rw [if_neg (fun z => z.elim c2 c3)]
          dsimp only
          rw [i1, Nat.testBit_or, Bool.or_eq_true] at c3
          have c4 : (aS w q).testBit (w q) = false := by
            cases h : (aS w q).testBit (w q)
            · rfl
            · exact absurd (Or.inr h) c3
          have c5 : ¬ s.testBit (w q) = true := fun h => c3 (Or.inl h)
          refine ⟨by rw [i1, Nat.or_assoc], ?_⟩
          have := ssum_in (fun m => if s.testBit m = true then 0 else 1) hlt c4
          rw [if_neg c5] at this
          unfold ds at i2 ⊢
          omega
/-- empty corners' hours without some men; the hours of each man; all corners' hours -/
def eE (W : Nat → Nat → Nat) (s k : Nat) : Nat := itf (fun k n => (itf (emG (W k)) (n, s) 24).1) 0 k
def hH (W : Nat → Nat → Nat) (k m : Nat) : Nat := jsum (fun k => if (aS (W k) 24).testBit m = true then 1 else 0) k
def tT (W : Nat → Nat → Nat) (k : Nat) : Nat := jsum (fun k => tot (W k) 24) k
theorem eE_ok {W : Nat → Nat → Nat} (hW : ∀ k q, W k q ≤ 17) (s : Nat) : ∀ k, eE W s k + jsum (fun m => if s.testBit m = true then 0 else hH W k m) 16 = tT W k
  | 0 => by
    have : ∀ n, jsum (fun m => if s.testBit m = true then 0 else hH W 0 m) n = 0 := by
      intro n
      induction n with
      | zero => rfl
      | succ n ih =>
        simp only [jsum]
        rw [ih]
        split <;> rfl
    rw [this 16]
    rfl
  | k + 1 => by
    have i := eE_ok hW s k
    have e1 : eE W s (k + 1) = (itf (emG (W k)) (eE W s k, s) 24).1 := rfl
    have e2 := (em_ok (hW k) s (eE W s k) 24).2
    have e3 : tT W (k + 1) = tT W k + tot (W k) 24 := rfl
    have e4 : jsum (fun m => if s.testBit m = true then 0 else hH W (k + 1) m) 16 = jsum (fun m => if s.testBit m = true then 0 else hH W k m) 16 + ds s (aS (W k) 24) := by
      unfold ds ssum
      rw [← jsum_add]
      apply jsum_congr
      intro m _
      have e5 : hH W (k + 1) m = hH W k m + (if (aS (W k) 24).testBit m = true then 1 else 0) := rfl
      rw [e5]
      unfold sg
      by_cases c : s.testBit m = true
      · simp [c]
      · simp [c]
    rw [e1, e3, e4]
    omega
theorem eE_sum {W : Nat → Nat → Nat} (hW : ∀ k q, W k q ≤ 17) (s : Nat) : eE W s 24 = eE W 0 24 + ssum (hH W 24) s := by
  have a := eE_ok hW s 24
  have b := eE_ok hW 0 24
  have c : jsum (fun m => if s.testBit m = true then 0 else hH W 24 m) 16 + ssum (hH W 24) s = jsum (fun m => if (0 : Nat).testBit m = true then 0 else hH W 24 m) 16 := by
    unfold ssum
    rw [← jsum_add]
    apply jsum_congr
    intro m _
    unfold sg
    rw [Nat.zero_testBit]
    by_cases c : s.testBit m = true
    · simp [c]
    · simp [c]
  omega
theorem hH_le (W : Nat → Nat → Nat) (k m : Nat) : hH W k m ≤ k := by
  have := jsum_le (f := fun k => if (aS (W k) 24).testBit m = true then 1 else 0) (b := 1) k (fun j _ => by split <;> omega)
  unfold hH
  omega
theorem eE_le {W : Nat → Nat → Nat} (hW : ∀ k q, W k q ≤ 17) (s : Nat) {k : Nat} (hk : k ≤ 24) : eE W s k ≤ 576 := by
  have a := eE_ok hW s k
  have b : tT W k ≤ k * 24 := jsum_le k (fun j _ => by
    have := jsum_le (f := fun q => if W j q = 17 then 0 else 1) (b := 1) 24 (fun q _ => by split <;> omega)
    unfold tot
    omega)
  have : k * 24 ≤ 24 * 24 := Nat.mul_le_mul_right 24 hk
  omega
