/-! numbers, loops; the street as numbers, in the class and in the reference -/
theorem jb_for {S X : Type} {f : S → Option (S ⊕ X)} (st : Nat → S) (n : Nat) (h : ∀ k, k < n → f (st k) = some (.inl (st (k + 1)))) : jb_lp f (st 0) = jb_lp f (st n) := by
  induction n with
  | zero => rfl
  | succ n ih => rw [ih (fun k hk => h k (by omega)), jb_lp_inl (h n (by omega))]
theorem jb_forx {S X : Type} {f : S → Option (S ⊕ X)} (st : Nat → S) (n : Nat) {x : X} (h : ∀ k, k < n → f (st k) = some (.inl (st (k + 1)))) (hx : f (st n) = some (.inr x)) : jb_lp f (st 0) = some x := by
  rw [jb_for st n h, jb_lp_inr hx]
theorem jn_lit (n : Nat) : (OfNat.ofNat n : Int32) = nI n := rfl
theorem jn_gd {α : Type} {j n : Nat} {x : Option α} (h : j < n) (hn : n < 2 ^ 31) : jb_gd (nI j) n x = x := by
  unfold jb_gd
  rw [if_neg (nI_in h hn)]
theorem jn_lt {a b : Nat} (ha : a < 2 ^ 31) (hb : b < 2 ^ 31) : (nI a < nI b) = (a < b) := propext (nI_ltI ha hb)
theorem jn_eq {a b : Nat} (ha : a < 2 ^ 31) (hb : b < 2 ^ 31) : (nI a = nI b) = (a = b) := propext (nI_eq ha hb)
theorem jn_n0 {a : Nat} (ha : a < 2 ^ 31) : (nI a < 0) = False := eq_false (nI_pos ha)
theorem jn_0n {a : Nat} (ha : a < 2 ^ 31) : ((0 : Int32) < nI a) = (0 < a) := jn_lt (a := 0) (by decide) ha
theorem jn_m1 {a : Nat} (ha : a < 2 ^ 31) : (nI a = (-1)) = False := by
  refine eq_false fun h => ?_
  have h2 : (nI a).toInt = (-1 : Int32).toInt := by rw [h]
  rw [nI_toInt ha] at h2
  have : (-1 : Int32).toInt = -1 := by decide
  omega
theorem jn_b (b : Bool) : (jb_b2i b = 0) = (b = false) := propext (jb_b2i_0 b)
theorem jn_ltl {a n : Nat} (ha : a < 2 ^ 31) (hn : (OfNat.ofNat n : Nat) < 2 ^ 31) : (nI a < (no_index (OfNat.ofNat n) : Int32)) = (a < (OfNat.ofNat n : Nat)) := jn_lt ha hn
theorem jn_gtl {a n : Nat} (ha : a < 2 ^ 31) (hn : (OfNat.ofNat n : Nat) < 2 ^ 31) : ((no_index (OfNat.ofNat n) : Int32) < nI a) = ((OfNat.ofNat n : Nat) < a) := jn_lt hn ha
theorem jn_eql {a n : Nat} (ha : a < 2 ^ 31) (hn : (OfNat.ofNat n : Nat) < 2 ^ 31) : (nI a = (no_index (OfNat.ofNat n) : Int32)) = (a = (OfNat.ofNat n : Nat)) := jn_eq ha hn
theorem jn_eqr {a n : Nat} (ha : a < 2 ^ 31) (hn : (OfNat.ofNat n : Nat) < 2 ^ 31) : ((no_index (OfNat.ofNat n) : Int32) = nI a) = ((OfNat.ofNat n : Nat) = a) := jn_eq hn ha
theorem jn_addl (n a : Nat) : (no_index (OfNat.ofNat n) : Int32) + nI a = nI ((OfNat.ofNat n : Nat) + a) := nI_add n a
theorem jn_addr (a n : Nat) : nI a + (no_index (OfNat.ofNat n) : Int32) = nI (a + (OfNat.ofNat n : Nat)) := nI_add a n
theorem jn_mul (a b : Nat) : nI a * nI b = nI (a * b) := pk_mul a b
theorem jn_mull (n a : Nat) : (no_index (OfNat.ofNat n) : Int32) * nI a = nI ((OfNat.ofNat n : Nat) * a) := pk_mul n a
theorem jn_mulr (a n : Nat) : nI a * (no_index (OfNat.ofNat n) : Int32) = nI (a * (OfNat.ofNat n : Nat)) := pk_mul a n
theorem jn_clz (n : Nat) (h : (OfNat.ofNat n : Nat) < 2 ^ 31) : (no_index (OfNat.ofNat n) : Int32).toNatClampNeg = (OfNat.ofNat n : Nat) := nI_clamp h
theorem jn_wl {i l k : Nat} (h1 : (OfNat.ofNat l : Nat) ≤ i) (h2 : i ≤ (OfNat.ofNat k : Nat)) (hk : (OfNat.ofNat k : Nat) < 2 ^ 31) : zf_23 (nI i) (no_index (OfNat.ofNat l)) (no_index (OfNat.ofNat k)) = true := by
  have e : zf_23 (nI i) (nI l) (nI k) = true := by
    have h1 : l ≤ i := h1
    have h2 : i ≤ k := h2
    have hk : k < 2 ^ 31 := hk
    unfold zf_23
    rw [if_neg (nI_nlt h1 (Nat.lt_of_le_of_lt h2 hk)), if_neg (nI_nlt h2 hk)]
  exact e
/-- a number within bounds -/
theorem jn_in {x : Int32} (k : Nat) (hk : k < 2 ^ 31) (c : ¬ zf_23 x 0 (nI k) = false) : ∃ j, j ≤ k ∧ x = nI j := by
  unfold zf_23 at c
  by_cases h : x < 0
  · rw [if_pos h] at c; exact absurd rfl c
  · rw [if_neg h] at c
    by_cases h2 : nI k < x
    · rw [if_pos h2] at c; exact absurd rfl c
    · obtain ⟨j, hj, rfl⟩ := nI_of h
      refine ⟨j, ?_, rfl⟩
      rw [nI_ltI hk hj] at h2
      omega
theorem fa_ltx (a b : Int32) : a < b ↔ a.toInt < b.toInt := Int32.lt_iff_toInt_lt
theorem jn_in1 {x : Int32} (l k : Nat) (hl : l < 2 ^ 31) (hk : k < 2 ^ 31) (c : ¬ zf_23 x (nI l) (nI k) = false) : ∃ j, l ≤ j ∧ j ≤ k ∧ x = nI j := by
  unfold zf_23 at c
  by_cases h : x < nI l
  · rw [if_pos h] at c; exact absurd rfl c
  · rw [if_neg h] at c
    by_cases h2 : nI k < x
    · rw [if_pos h2] at c; exact absurd rfl c
    · have h0 : ¬ x < 0 := fun h3 => h (by
        rw [fa_ltx] at h3 ⊢
        rw [nI_toInt hl]
        have : (0 : Int32).toInt = 0 := by decide
        omega)
      obtain ⟨j, hj, rfl⟩ := nI_of h0
      rw [nI_ltI hk hj] at h2
      rw [nI_ltI hj hl] at h
      exact ⟨j, by omega, by omega, rfl⟩
/-- the street's numbers: S 0 storeys, 1 places, 2 sags, 3 homes, 4 xs, 5 ys, 6 weights (0: not told), 7 strengths (0: not told), 8 tired, 9: hour, day, X -/
abbrev jSt : Type := Nat → Nat → Nat
def jC (o : Nat) (S : jSt) (M : jb_Mi) : Prop :=
  (∀ j, j < 6 → M (o + 1) j = nI (S 0 j) ∧ M (o + 2) j = nI (S 1 j) ∧ M (o + 3) j = nI (S 2 j)) ∧
  (∀ j, j < 24 → M (o + 4) j = nI (S 3 j) ∧ M (o + 5) j = nI (S 4 j) ∧ M (o + 6) j = nI (S 5 j) ∧ M (o + 7) j = nI (S 6 j)) ∧
  (∀ j, j < 16 → M (o + 8) j = nI (S 7 j) ∧ M (o + 9) j = nI (S 8 j)) ∧
  (M o 9 = nI (S 9 0) ∧ M o 10 = nI (S 9 1) ∧ M o 11 = nI (S 9 2))
def jD (a : Nat) (S : jSt) (M : jb_Mi) : Prop :=
  (∀ j, j < 6 → M a j = nI (S 0 j) ∧ M a (6 + j) = nI (S 1 j) ∧ M a (12 + j) = nI (S 2 j)) ∧
  (∀ j, j < 24 → (S 6 j = 0 → M a (18 + j) = (-1)) ∧ (S 6 j ≠ 0 → M a (18 + j) = nI (S 3 j) ∧ M a (42 + j) = nI (S 4 j) ∧ M a (66 + j) = nI (S 5 j) ∧ M a (90 + j) = nI (S 6 j))) ∧
  (∀ j, j < 16 → M a (114 + j) = nI (S 7 j) ∧ M a (130 + j) = nI (S 8 j)) ∧
  (M a 146 = nI (S 9 0) ∧ M a 147 = nI (S 9 1) ∧ M a 148 = nI (S 9 2))
def jR (S : jSt) : Prop :=
  (∀ j, j < 6 → S 0 j ≤ 9 ∧ S 1 j ≤ 99 ∧ S 2 j ≤ 9) ∧ (∀ j, j < 24 → S 3 j ≤ 5 ∧ S 4 j ≤ 8 ∧ S 5 j ≤ 8 ∧ S 6 j ≤ 99) ∧ (∀ j, j < 16 → S 7 j ≤ 99 ∧ S 8 j ≤ 99) ∧ S 9 0 < 24 ∧ S 9 1 < 9999 ∧ S 9 2 < 65536
theorem jn_w {x a b : Int32} : zf_164 x a b = zf_23 x a b := rfl
/-- a house is told -/
theorem jc_told {o : Nat} {S : jSt} {M : jb_Mi} (hC : jC o S M) (hR : jR S) {i : Nat} (hi : i < 6) : zf_2 o (nI i) M = some (decide (0 < S 0 i)) := by
  have h1 := (hC.1 i hi).1
  have h2 := (hR.1 i hi).1
  unfold zf_2
  simp (disch := omega) only [jn_ltl, jn_gtl, jn_lt, jn_eq, jn_eql, jn_eqr, jn_addl, jn_addr, nI_add, jn_gd, nI_clamp, jn_n0, jn_0n, jn_m1, jn_b, jn_clz, jn_mul, jn_mull, jn_mulr, jn_wl, if_true, if_false, Bool.true_eq_false, Bool.false_eq_true, h1, hi]
  by_cases c : 0 < S 0 i <;> simp [c]
theorem jc_told_no {o : Nat} {M : jb_Mi} {x : Int32} (h : ∀ i, i < 6 → x ≠ nI i) : zf_2 o x M = some false := by
  unfold zf_2
  by_cases c : x < 0
  · rw [if_pos c]
  · rw [if_neg c]
    by_cases c2 : x < 6
    · obtain ⟨j, hj, rfl⟩ := nI_of c
      have c3 : nI j < nI 6 := c2
      rw [nI_ltI hj (by decide)] at c3
      exact absurd rfl (h j c3)
    · rw [if_neg c2]
theorem jd_told {S : jSt} {M : jb_Mi} (hD : jD 80 S M) (hR : jR S) {i : Nat} (hi : i < 6) : zf_171 (nI i) M = some (decide (0 < S 0 i)) := by
  have h1 := (hD.1 i hi).1
  have h2 := (hR.1 i hi).1
  unfold zf_171
  simp (disch := omega) only [jn_w, jn_ltl, jn_gtl, jn_lt, jn_eq, jn_eql, jn_eqr, jn_addl, jn_addr, nI_add, jn_gd, nI_clamp, jn_n0, jn_0n, jn_m1, jn_b, jn_clz, jn_mul, jn_mull, jn_mulr, jn_wl, if_true, if_false, Bool.true_eq_false, Bool.false_eq_true, Nat.zero_add, h1]
  by_cases c : 0 < S 0 i <;> simp [c]
theorem jc_up {o : Nat} {S : jSt} {M : jb_Mi} (hC : jC o S M) (hR : jR S) {i : Nat} (hi : i < 6) : zf_37 o (nI i) M = some (decide (0 < S 0 i ∧ S 2 i < 9)) := by
  have h1 := hC.1 i hi
  have h2 := hR.1 i hi
  unfold zf_37
  simp (disch := omega) only [jn_ltl, jn_gtl, jn_lt, jn_eq, jn_eql, jn_eqr, jn_addl, jn_addr, nI_add, jn_gd, nI_clamp, jn_n0, jn_0n, jn_m1, jn_b, jn_clz, jn_mul, jn_mull, jn_mulr, jn_wl, if_true, if_false, Bool.true_eq_false, Bool.false_eq_true, h1.1, h1.2.2, hi]
  by_cases c : 0 < S 0 i <;> by_cases c2 : S 2 i < 9 <;> simp [c, c2]
theorem jd_up {S : jSt} {M : jb_Mi} (hD : jD 80 S M) (hR : jR S) {i : Nat} (hi : i < 6) : zf_172 (nI i) M = some (decide (0 < S 0 i ∧ S 2 i < 9)) := by
  have h1 := hD.1 i hi
  have h2 := hR.1 i hi
  unfold zf_172
  rw [jd_told hD hR hi]
  simp (disch := omega) only [jn_ltl, jn_gtl, jn_lt, jn_eq, jn_eql, jn_eqr, jn_addl, jn_addr, nI_add, jn_gd, nI_clamp, jn_n0, jn_0n, jn_m1, jn_b, jn_clz, jn_mul, jn_mull, jn_mulr, jn_wl, if_true, if_false, Bool.true_eq_false, Bool.false_eq_true, Option.bind_some, h1.2.2]
  by_cases c : 0 < S 0 i <;> by_cases c2 : S 2 i < 9 <;> simp [c, c2]
theorem jc_man {o : Nat} {S : jSt} {M : jb_Mi} (hC : jC o S M) (hR : jR S) {i : Nat} (hi : i < 16) : zf_18 o (nI i) M = some (decide (0 < S 7 i)) := by
  have h1 := hC.2.2.1 i hi
  have h2 := hR.2.2.1 i hi
  unfold zf_18
  simp (disch := omega) only [jn_ltl, jn_gtl, jn_lt, jn_eq, jn_eql, jn_eqr, jn_addl, jn_addr, nI_add, jn_gd, nI_clamp, jn_n0, jn_0n, jn_m1, jn_b, jn_clz, jn_mul, jn_mull, jn_mulr, jn_wl, if_true, if_false, Bool.true_eq_false, Bool.false_eq_true, h1.1, hi]
  by_cases c : 0 < S 7 i <;> simp [c]
theorem jd_man {S : jSt} {M : jb_Mi} (hD : jD 80 S M) (hR : jR S) {i : Nat} (hi : i < 16) : zf_174 (nI i) M = some (decide (0 < S 7 i)) := by
  have h1 := hD.2.2.1 i hi
  have h2 := hR.2.2.1 i hi
  unfold zf_174
  simp (disch := omega) only [jn_w, jn_ltl, jn_gtl, jn_lt, jn_eq, jn_eql, jn_eqr, jn_addl, jn_addr, nI_add, jn_gd, nI_clamp, jn_n0, jn_0n, jn_m1, jn_b, jn_clz, jn_mul, jn_mull, jn_mulr, jn_wl, if_true, if_false, Bool.true_eq_false, Bool.false_eq_true, h1.1]
  by_cases c : 0 < S 7 i <;> simp [c]
theorem jc_thing {o : Nat} {S : jSt} {M : jb_Mi} (hC : jC o S M) (hR : jR S) {i : Nat} (hi : i < 24) : zf_3 o (nI i) M = some (decide (0 < S 6 i)) := by
  have h1 := hC.2.1 i hi
  have h2 := hR.2.1 i hi
  unfold zf_3
  simp (disch := omega) only [jn_ltl, jn_gtl, jn_lt, jn_eq, jn_eql, jn_eqr, jn_addl, jn_addr, nI_add, jn_gd, nI_clamp, jn_n0, jn_0n, jn_m1, jn_b, jn_clz, jn_mul, jn_mull, jn_mulr, jn_wl, if_true, if_false, Bool.true_eq_false, Bool.false_eq_true, h1.2.2.2, hi]
  by_cases c : 0 < S 6 i <;> simp [c]
theorem jd_thing {S : jSt} {M : jb_Mi} (hD : jD 80 S M) (hR : jR S) {i : Nat} (hi : i < 24) : zf_173 (nI i) M = some (decide (0 < S 6 i)) := by
  have h1 := hD.2.1 i hi
  have h2 := hR.2.1 i hi
  unfold zf_173
  simp (disch := omega) only [jn_w, jn_ltl, jn_gtl, jn_lt, jn_eq, jn_eql, jn_eqr, jn_addl, jn_addr, nI_add, jn_gd, nI_clamp, jn_n0, jn_0n, jn_m1, jn_b, jn_clz, jn_mul, jn_mull, jn_mulr, jn_wl, if_true, if_false, Bool.true_eq_false, Bool.false_eq_true]
  by_cases c : S 6 i = 0
  · rw [h1.1 c]; simp [c]
  · rw [(h1.2 c).1, if_neg (by rw [jn_m1 (by omega)]; exact id)]; simp; omega
theorem jc_isIn {o : Nat} {S : jSt} {M : jb_Mi} (hC : jC o S M) (hR : jR S) {t i : Nat} (ht : t < 24) (hi : i < 2 ^ 31) : zf_4 o (nI t) (nI i) M = some (decide (0 < S 6 t ∧ S 3 t = i)) := by
  have h1 := hC.2.1 t ht
  have h2 := hR.2.1 t ht
  unfold zf_4
  rw [jc_thing hC hR ht]
  simp (disch := omega) only [jn_ltl, jn_gtl, jn_lt, jn_eq, jn_eql, jn_eqr, jn_addl, jn_addr, nI_add, jn_gd, nI_clamp, jn_n0, jn_0n, jn_m1, jn_b, jn_clz, jn_mul, jn_mull, jn_mulr, jn_wl, if_true, if_false, Bool.true_eq_false, Bool.false_eq_true, Option.bind_some, h1.1]
  by_cases c : 0 < S 6 t <;> by_cases c2 : S 3 t = i <;> simp [c, c2]
def jsum (f : Nat → Nat) : Nat → Nat
  | 0 => 0
  | n + 1 => jsum f n + f n
def prt (x y c : Nat) : Nat := (if c % 2 = 0 then 8 - x else x) * (if c < 2 then 8 - y else y)
theorem prt_le {x y c : Nat} (hx : x ≤ 8) (hy : y ≤ 8) : prt x y c ≤ 64 := by
  unfold prt
  have h1 : (if c % 2 = 0 then 8 - x else x) ≤ 8 := by split <;> omega
  have h2 : (if c < 2 then 8 - y else y) ≤ 8 := by split <;> omega
  exact Nat.mul_le_mul h1 h2
theorem jc_prt : ∀ x, x < 9 → ∀ y, y < 9 → ∀ c, c < 4 → zf_5 (nI x) (nI y) (nI c) = nI (prt x y c) := by
  unfold zf_5 zf_5_J14
  decide +kernel
theorem jd_part (w x y c : Int32) : zf_178 w x y c = w * zf_5 x y c := by
  unfold zf_178 zf_178_J14 zf_178_J29 zf_5 zf_5_J14
  split <;> split <;> rw [Int32.mul_assoc]
/-- what a thing gives a corner of a house -/
def tld (S : jSt) (i c t : Nat) : Nat := if 0 < S 6 t ∧ S 3 t = i then S 6 t * prt (S 4 t) (S 5 t) c else 0
def ld (S : jSt) (i c : Nat) : Nat := 640 * S 0 i + jsum (tld S i c) 24
theorem tld_le {S : jSt} (hR : jR S) {i c t : Nat} (ht : t < 24) : tld S i c t ≤ 6336 := by
  have h := hR.2.1 t ht
  unfold tld
  split
  · exact Nat.mul_le_mul h.2.2.2 (prt_le h.2.1 h.2.2.1)
  · omega
theorem jsum_le {f : Nat → Nat} {b : Nat} : ∀ n, (∀ k, k < n → f k ≤ b) → jsum f n ≤ n * b
  | 0, _ => by simp [jsum]
  | n + 1, h => by
    have h1 := jsum_le n (fun k hk => h k (by omega))
    have h2 := h n (by omega)
    simp only [jsum]
    rw [Nat.succ_mul]
    omega
theorem ld_le {S : jSt} (hR : jR S) {i c : Nat} (hi : i < 6) : ld S i c ≤ 157824 := by
  have h1 := (hR.1 i hi).1
  have h2 : jsum (tld S i c) 24 ≤ 24 * 6336 := jsum_le 24 (fun k hk => tld_le (i := i) (c := c) hR hk)
  unfold ld
  omega
theorem jc_loadBy {o : Nat} {S : jSt} {M : jb_Mi} (hC : jC o S M) (hR : jR S) {t c : Nat} (ht : t < 24) (hc : c < 4) (hs : 0 < S 6 t) : zf_6 o (nI t) (nI c) M = some (nI (S 6 t * prt (S 4 t) (S 5 t) c)) := by
  have h1 := hC.2.1 t ht
  have h2 := hR.2.1 t ht
  unfold zf_6
  rw [jc_thing hC hR ht]
  simp (disch := omega) only [jn_ltl, jn_gtl, jn_lt, jn_eq, jn_eql, jn_eqr, jn_addl, jn_addr, nI_add, jn_gd, nI_clamp, jn_n0, jn_0n, jn_m1, jn_b, jn_clz, jn_mul, jn_mull, jn_mulr, jn_wl, if_true, if_false, Bool.true_eq_false, Bool.false_eq_true, Option.bind_some, h1.2.1, h1.2.2.1, h1.2.2.2, hs, decide_true]
  rw [jc_prt _ (by omega) _ (by omega) _ hc, jn_mul]
theorem jc_load {o : Nat} {S : jSt} {M : jb_Mi} (hC : jC o S M) (hR : jR S) {i c : Nat} (hi : i < 6) (hc : c < 4) (hs : 0 < S 0 i) : zf_7 o (nI i) (nI c) M = some (nI (ld S i c)) := by
  have h1 := hC.1 i hi
  have h2 := hR.1 i hi
  unfold zf_7
  rw [jc_told hC hR hi]
  simp (disch := omega) only [jn_ltl, jn_gtl, jn_lt, jn_eq, jn_eql, jn_eqr, jn_addl, jn_addr, nI_add, jn_gd, nI_clamp, jn_n0, jn_0n, jn_m1, jn_b, jn_clz, jn_mul, jn_mull, jn_mulr, jn_wl, if_true, if_false, Bool.true_eq_false, Bool.false_eq_true, Option.bind_some, h1.1, hs, decide_true]
  refine jb_forx (fun k => (nI (640 * S 0 i + jsum (tld S i c) k), nI k)) 24 ?_ ?_
  · intro k hk
    unfold zf_7_H24 zf_7_J53
    dsimp only
    rw [jc_isIn hC hR hk (by omega)]
    simp (disch := omega) only [jn_ltl, jn_gtl, jn_lt, jn_eq, jn_eql, jn_eqr, jn_addl, jn_addr, nI_add, jn_gd, nI_clamp, jn_n0, jn_0n, jn_m1, jn_b, jn_clz, jn_mul, jn_mull, jn_mulr, jn_wl, if_true, if_false, Bool.true_eq_false, Bool.false_eq_true, hk, Option.bind_some]
    by_cases c1 : 0 < S 6 k ∧ S 3 k = i
    · rw [jc_loadBy hC hR hk hc c1.1]
      simp [c1, jsum, tld, nI_add, Nat.add_assoc]
    · simp [c1, jsum, tld]
  · unfold zf_7_H24
    dsimp only
    rw [if_neg (by decide)]
    rfl
theorem jd_load {S : jSt} {M : jb_Mi} (hD : jD 80 S M) (hR : jR S) {i c : Nat} (hi : i < 6) (hc : c < 4) : zf_179 (nI i) (nI c) M = some (nI (ld S i c)) := by
  have h1 := hD.1 i hi
  have h2 := hR.1 i hi
  unfold zf_179
  simp (disch := omega) only [jn_ltl, jn_gtl, jn_lt, jn_eq, jn_eql, jn_eqr, jn_addl, jn_addr, nI_add, jn_gd, nI_clamp, jn_n0, jn_0n, jn_m1, jn_b, jn_clz, jn_mul, jn_mull, jn_mulr, jn_wl, if_true, if_false, Bool.true_eq_false, Bool.false_eq_true, Nat.zero_add, h1.1]
  refine jb_forx (fun k => (nI (640 * S 0 i + jsum (tld S i c) k), nI k)) 24 ?_ ?_
  · intro k hk
    have h3 := hD.2.1 k hk
    have h4 := hR.2.1 k hk
    unfold zf_179_H16 zf_179_J74
    dsimp only
    simp (disch := omega) only [jn_ltl, jn_gtl, jn_lt, jn_eq, jn_eql, jn_eqr, jn_addl, jn_addr, nI_add, jn_gd, nI_clamp, jn_n0, jn_0n, jn_m1, jn_b, jn_clz, jn_mul, jn_mull, jn_mulr, jn_wl, if_true, if_false, Bool.true_eq_false, Bool.false_eq_true, hk]
    by_cases c1 : S 6 k = 0
    · rw [h3.1 c1, if_neg (fun h => by rw [eq_comm, jn_m1 (by omega)] at h; exact h)]
      simp [jsum, tld, c1]
    · have h5 := h3.2 c1
      rw [h5.1, h5.2.1, h5.2.2.1, h5.2.2.2]
      by_cases c2 : S 3 k = i
      · rw [if_pos (by rw [c2]), jd_part, jc_prt _ (by omega) _ (by omega) _ hc, jn_mul, nI_add]
        simp [jsum, tld, c2, Nat.pos_of_ne_zero c1, Nat.add_assoc]
      · rw [if_neg (by rw [jn_eq (by omega) (by omega)]; exact c2)]
        simp [jsum, tld, c2]
  · unfold zf_179_H16
    dsimp only
    rw [if_neg (by decide)]
    rfl
