/-! sets one behind the other, a bit at a time -/
def gray (t : Nat) : Nat := Nat.xor t (Nat.div t (nat_lit 2))
def ntz : Nat → Nat → Nat
  | 0, _ => 0
  | f + 1, t => bif Nat.beq (Nat.mod t (nat_lit 2)) (nat_lit 1) then 0 else Nat.succ (ntz f (Nat.div t (nat_lit 2)))
def ginv (s : Nat) : Nat := Nat.xor (Nat.xor (Nat.xor (Nat.xor (Nat.xor (Nat.xor (Nat.xor (Nat.xor (Nat.xor (Nat.xor (Nat.xor s (Nat.div s (nat_lit 2))) (Nat.div s (nat_lit 4))) (Nat.div s (nat_lit 8))) (Nat.div s (nat_lit 16))) (Nat.div s (nat_lit 32))) (Nat.div s (nat_lit 64))) (Nat.div s (nat_lit 128))) (Nat.div s (nat_lit 256))) (Nat.div s (nat_lit 512))) (Nat.div s (nat_lit 1024))) (Nat.div s (nat_lit 2048))
noncomputable def gck (t : Nat) : Bool := Nat.beq (gray (ginv t)) t && (Nat.beq t 0 || (decide (zf_22 (nI t) = nI (ntz 12 t)) && (Nat.beq (Nat.xor (gray (Nat.pred t)) (Nat.pow (nat_lit 2) (ntz 12 t))) (gray t) && Nat.testBit t (ntz 12 t))))
theorem gck_0 : allB gck 10 0 = true := by decide +kernel
theorem gck_1 : allB gck 10 1024 = true := by decide +kernel
theorem gck_2 : allB gck 10 2048 = true := by decide +kernel
theorem gck_3 : allB gck 10 3072 = true := by decide +kernel
theorem gck_ok {t : Nat} (h : t < 4096) : gck t = true := by
  rcases (show t < 1024 ∨ (1024 ≤ t ∧ t < 2048) ∨ (2048 ≤ t ∧ t < 3072) ∨ (3072 ≤ t ∧ t < 4096) by omega) with q | q | q | q
  · exact allB_ok gck 10 0 gck_0 t (by omega) (by omega)
  · exact allB_ok gck 10 1024 gck_1 t (by omega) (by omega)
  · exact allB_ok gck 10 2048 gck_2 t (by omega) (by omega)
  · exact allB_ok gck 10 3072 gck_3 t (by omega) (by omega)
theorem gray_inv {s : Nat} (h : s < 4096) : gray (ginv s) = s := by
  have := gck_ok h
  unfold gck at this
  rw [Bool.and_eq_true] at this
  exact Nat.eq_of_beq_eq_true this.1
theorem gray_step {t : Nat} (h0 : 0 < t) (h : t < 4096) : zf_22 (nI t) = nI (ntz 12 t) ∧ gray (t - 1) ^^^ 2 ^ ntz 12 t = gray t ∧ t.testBit (ntz 12 t) = true := by
  have := gck_ok h
  unfold gck at this
  have e0 : Nat.beq t 0 = false := by
    cases q : Nat.beq t 0
    · rfl
    · have := Nat.eq_of_beq_eq_true q
      omega
  rw [Bool.and_eq_true, e0, Bool.false_or, Bool.and_eq_true, Bool.and_eq_true] at this
  obtain ⟨-, h1, h2, h3⟩ := this
  exact ⟨of_decide_eq_true h1, Nat.eq_of_beq_eq_true h2, h3⟩
theorem ntz_lt {t n : Nat} (h0 : 0 < t) (h : t < 4096) (hn : t < 2 ^ n) : ntz 12 t < n := by
  have h3 := (gray_step h0 h).2.2
  apply Classical.byContradiction
  intro c
  rw [Nat.testBit_lt_two_pow (Nat.lt_of_lt_of_le hn (Nat.pow_le_pow_right (by decide) (by omega)))] at h3
  cases h3
theorem gray_lt {t n : Nat} (h : t < 2 ^ n) : gray t < 2 ^ n := Nat.xor_lt_two_pow h (Nat.lt_of_le_of_lt (Nat.div_le_self t 2) h)
theorem ginv_lt {t n : Nat} (h : t < 2 ^ n) : ginv t < 2 ^ n := by
  have d : ∀ k, t / k < 2 ^ n := fun k => Nat.lt_of_le_of_lt (Nat.div_le_self t k) h
  exact Nat.xor_lt_two_pow (Nat.xor_lt_two_pow (Nat.xor_lt_two_pow (Nat.xor_lt_two_pow (Nat.xor_lt_two_pow (Nat.xor_lt_two_pow (Nat.xor_lt_two_pow (Nat.xor_lt_two_pow (Nat.xor_lt_two_pow (Nat.xor_lt_two_pow (Nat.xor_lt_two_pow h (d 2)) (d 4)) (d 8)) (d 16)) (d 32)) (d 64)) (d 128)) (d 256)) (d 512)) (d 1024)) (d 2048)
/-- fewer, or as many and less -/
def lle (a b : Nat) : Prop := pc a < pc b ∨ (pc a = pc b ∧ a ≤ b)
theorem jc_less {a b : Nat} (ha : a < 65536) (hb : b < 65536) : zf_28 (nI a) (nI b) = decide (pc a < pc b ∨ (pc a = pc b ∧ a < b)) := by
  have q1 := pc_le a
  have q2 := pc_le b
  unfold zf_28 zf_27 zf_28_J25
  rw [jc_bits ha, jc_bits hb]
  simp only [jn_lt (show pc a < 2 ^ 31 by omega) (show pc b < 2 ^ 31 by omega), jn_eq (show pc a < 2 ^ 31 by omega) (show pc b < 2 ^ 31 by omega), jn_lt (show a < 2 ^ 31 by omega) (show b < 2 ^ 31 by omega)]
  by_cases c : pc a < pc b
  · rw [if_pos c, if_pos (by decide), decide_eq_true (Or.inl c)]
  · rw [if_neg c]
    by_cases c2 : pc a = pc b
    · rw [if_pos c2, if_neg (by decide), if_pos (by decide)]
      by_cases c3 : a < b
      · rw [if_pos c3, decide_eq_true (Or.inr ⟨c2, c3⟩)]
      · rw [if_neg c3, decide_eq_false (fun z => by omega)]
    · rw [if_neg c2, if_neg (by decide), if_neg (by decide), decide_eq_false (fun z => by omega)]
/-- the best of what was tried (4096: none) -/
def bst (P : Nat → Prop) (g : Nat → Nat) (n t b : Nat) : Prop := (b = 4096 ∧ ∀ u, u < t → ¬ P (g u)) ∨ (b < 2 ^ n ∧ P b ∧ (∃ u, u < t ∧ b = g u) ∧ ∀ u, u < t → P (g u) → lle b (g u))
theorem bst_uniq {P : Nat → Prop} {g g' : Nat → Nat} {n b b' : Nat} (hn : n ≤ 12) (hg : ∀ s, s < 2 ^ n → ∃ u, u < 2 ^ n ∧ g u = s) (hg' : ∀ s, s < 2 ^ n → ∃ u, u < 2 ^ n ∧ g' u = s) (h : bst P g n (2 ^ n) b) (h' : bst P g' n (2 ^ n) b') : b = b' := by
  rcases h with ⟨h1, h2⟩ | ⟨h1, h2, -, h3⟩
  · rcases h' with ⟨k1, k2⟩ | ⟨k1, k2, -, k3⟩
    · omega
    · obtain ⟨u, hu, e⟩ := hg b' k1
      exact absurd (e ▸ k2) (h2 u hu)
  · rcases h' with ⟨k1, k2⟩ | ⟨k1, k2, -, k3⟩
    · obtain ⟨u, hu, e⟩ := hg' b h1
      exact absurd (e ▸ h2) (k2 u hu)
    · obtain ⟨u, hu, e⟩ := hg b' k1
      obtain ⟨u', hu', e'⟩ := hg' b h1
      have l1 := h3 u hu (e.symm ▸ k2)
      have l2 := k3 u' hu' (e'.symm ▸ h2)
      rw [e] at l1
      rw [e'] at l2
      unfold lle at l1 l2
      omega
/-- one more that does, one more that doesn't -/
theorem bst_no {P : Nat → Prop} {g : Nat → Nat} {n t b : Nat} (h : bst P g n t b) (hp : ¬ P (g t)) : bst P g n (t + 1) b := by
  rcases h with ⟨h1, h2⟩ | ⟨h1, h2, ⟨w, w1, w2⟩, h3⟩
  · refine Or.inl ⟨h1, fun u hu => ?_⟩
    by_cases c : u = t
    · rw [c]; exact hp
    · exact h2 u (by omega)
  · refine Or.inr ⟨h1, h2, ⟨w, by omega, w2⟩, fun u hu hpu => ?_⟩
    by_cases c : u = t
    · rw [c] at hpu; exact absurd hpu hp
    · exact h3 u (by omega) hpu
theorem bst_keep {P : Nat → Prop} {g : Nat → Nat} {n t b : Nat} (h : bst P g n t b) (hb : b ≠ 4096) (hl : lle b (g t)) : bst P g n (t + 1) b := by
  rcases h with ⟨h1, h2⟩ | ⟨h1, h2, ⟨w, w1, w2⟩, h3⟩
  · exact absurd h1 hb
  · refine Or.inr ⟨h1, h2, ⟨w, by omega, w2⟩, fun u hu hpu => ?_⟩
    by_cases c : u = t
    · rw [c]; exact hl
    · exact h3 u (by omega) hpu
theorem p12 {n : Nat} (hn : n ≤ 12) : 2 ^ n ≤ 4096 := Nat.pow_le_pow_right (n := 2) (i := n) (j := 12) (by decide) hn
theorem bst_new {P : Nat → Prop} {g : Nat → Nat} {n t b : Nat} (hn : n ≤ 12) (h : bst P g n t b) (hp : P (g t)) (hg : g t < 2 ^ n) (hl : b = 4096 ∨ lle (g t) b) : bst P g n (t + 1) (g t) := by
  refine Or.inr ⟨hg, hp, ⟨t, by omega, rfl⟩, fun u hu hpu => ?_⟩
  have h12 := p12 hn
  by_cases c : u = t
  · rw [c]; exact Or.inr ⟨rfl, Nat.le_refl _⟩
  · rcases h with ⟨h1, h2⟩ | ⟨h1, h2, -, h3⟩
    · exact absurd hpu (h2 u (by omega))
    · have h4 := h3 u (by omega) hpu
      rcases hl with hl | hl
      · omega
      · unfold lle at *
        omega
