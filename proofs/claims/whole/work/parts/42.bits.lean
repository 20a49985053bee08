/-! bits -/
theorem jn_or (a b : Nat) : nI a ||| nI b = nI (a ||| b) := by
  apply Int32.toBitVec_inj.mp
  simp only [nI, Int32.toBitVec_or]
  exact (BitVec.ofNat_or).symm
theorem jn_and (a b : Nat) : nI a &&& nI b = nI (a &&& b) := by
  apply Int32.toBitVec_inj.mp
  simp only [nI, Int32.toBitVec_and]
  exact (BitVec.ofNat_and).symm
theorem jn_31 : ∀ k, k < 32 → nI k &&& 31 = nI k := by decide +kernel
theorem jn_s32 : ∀ k, k < 32 → ((nI k &&& 31).toBitVec.smod 32).toNat = k := by decide +kernel
theorem jn_shl : ∀ k, k < 31 → (1 : Int32) <<< (nI k &&& 31) = nI (2 ^ k) := by decide +kernel
theorem jn_shr {a k : Nat} (ha : a < 2 ^ 31) (hk : k < 32) : nI a >>> (nI k &&& 31) = nI (a / 2 ^ k) := pk_shrN ha _ k (jn_s32 k hk)
theorem jn_bit {a k : Nat} (ha : a < 2 ^ 31) (hk : k < 32) : (nI a >>> (nI k &&& 31)) &&& 1 = nI (a / 2 ^ k % 2) := by
  rw [jn_shr ha hk, show (1 : Int32) = nI 1 from rfl, jn_and, Nat.and_one_is_mod]
theorem jn_bit0 {a k : Nat} (ha : a < 2 ^ 31) (hk : k < 32) : ((nI a >>> (nI k &&& 31)) &&& 1 = 0) = (a.testBit k = false) := by
  rw [jn_bit ha hk, show (0 : Int32) = nI 0 from rfl, jn_eq (by omega) (by decide), Nat.testBit_eq_decide_div_mod_eq]
  simp
theorem jn_bit1 {a k : Nat} (ha : a < 2 ^ 31) (hk : k < 32) : ((nI a >>> (nI k &&& 31)) &&& 1 = 1) = (a.testBit k = true) := by
  rw [jn_bit ha hk, show (1 : Int32) = nI 1 from rfl, jn_eq (by omega) (by decide), Nat.testBit_eq_decide_div_mod_eq]
  simp
theorem jn_has {a k : Nat} (ha : a < 2 ^ 31) (hk : k < 32) : zf_168 (nI a) (nI k) = a.testBit k := by
  unfold zf_168
  simp only [jn_bit1 ha hk]
  cases a.testBit k <;> rfl
theorem jn_sub0 {a b : Nat} (ha : a < 2 ^ 31) (hb : b < 2 ^ 31) : (nI a &&& (nI b ^^^ (-1)) = 0) = (a &&& b = a) := by
  have hle : a &&& (b ^^^ (2 ^ 32 - 1)) ≤ a := Nat.and_le_left
  rw [show (-1 : Int32) = nI (2 ^ 32 - 1) from by decide, jn_xor, jn_and, show (0 : Int32) = nI 0 from rfl, jn_eq (by omega) (by decide)]
  apply propext
  constructor
  · intro h
    apply Nat.eq_of_testBit_eq
    intro i
    have h1 : (a &&& (b ^^^ (2 ^ 32 - 1))).testBit i = false := by rw [h]; exact Nat.zero_testBit i
    rw [Nat.testBit_and, Nat.testBit_xor, Nat.testBit_two_pow_sub_one] at h1
    rw [Nat.testBit_and]
    by_cases c : i < 32
    · simp only [c, decide_true, Bool.xor_true] at h1
      cases h2 : a.testBit i <;> cases h3 : b.testBit i <;> simp_all
    · rw [Nat.testBit_lt_two_pow (Nat.lt_of_lt_of_le ha (Nat.pow_le_pow_right (by decide) (by omega)))]
      rfl
  · intro h
    apply Nat.eq_of_testBit_eq
    intro i
    rw [Nat.zero_testBit, ← h, Nat.testBit_and, Nat.testBit_and, Nat.testBit_xor, Nat.testBit_two_pow_sub_one]
    by_cases c : i < 32
    · simp only [c, decide_true, Bool.xor_true]
      cases h2 : a.testBit i <;> cases h3 : b.testBit i <;> rfl
    · rw [Nat.testBit_lt_two_pow (Nat.lt_of_lt_of_le ha (Nat.pow_le_pow_right (by decide) (by omega)))]
      rfl
/-! how many bits -/
def pc (x : Nat) : Nat := jsum (fun k => x / 2 ^ k % 2) 16
theorem pc_le (x : Nat) : pc x ≤ 16 := by
  have := jsum_le (f := fun k => x / 2 ^ k % 2) (b := 1) 16 (fun k _ => by omega)
  unfold pc
  omega
theorem jd_bits {a : Nat} (ha : a < 2 ^ 31) : zf_169 (nI a) = some (nI (pc a)) := by
  unfold zf_169
  refine jb_forx (fun k => (nI (jsum (fun k => a / 2 ^ k % 2) k), nI k)) 16 ?_ ?_
  · intro k hk
    unfold zf_169_H4
    dsimp only
    rw [if_pos (show nI k < 16 from nI_lt (b := 16) hk (by decide)), jn_bit ha (by omega), nI_add, nI_1]
    rfl
  · unfold zf_169_H4
    exact if_neg (by dsimp only; decide)
noncomputable def bc1 (x : Int32) : Int32 := x - (((x : Int32).toUInt32 >>> ((1 : Int32).toUInt32 &&& Int32.toUInt32 31)).toInt32 &&& 1431655765)
noncomputable def bc2 (x : Int32) : Int32 := (x &&& 858993459) + (((x : Int32).toUInt32 >>> ((2 : Int32).toUInt32 &&& Int32.toUInt32 31)).toInt32 &&& 858993459)
noncomputable def bc3 (x : Int32) : Int32 := (x + ((x : Int32).toUInt32 >>> ((4 : Int32).toUInt32 &&& Int32.toUInt32 31)).toInt32) &&& 252645135
noncomputable def bc4 (x : Int32) : Int32 := x + ((x : Int32).toUInt32 >>> ((8 : Int32).toUInt32 &&& Int32.toUInt32 31)).toInt32
noncomputable def bc5 (x : Int32) : Int32 := (x + ((x : Int32).toUInt32 >>> ((16 : Int32).toUInt32 &&& Int32.toUInt32 31)).toInt32) &&& 63
theorem bc_eq (x : Int32) : zf_26 x = bc5 (bc4 (bc3 (bc2 (bc1 x)))) := rfl
def pn1 (x : Nat) : Nat := Nat.sub x (Nat.land (Nat.div x (nat_lit 2)) (nat_lit 1431655765))
def pn2 (x : Nat) : Nat := Nat.add (Nat.land x (nat_lit 858993459)) (Nat.land (Nat.div x (nat_lit 4)) (nat_lit 858993459))
def pn3 (x : Nat) : Nat := Nat.land (Nat.add x (Nat.div x (nat_lit 16))) (nat_lit 252645135)
def pn4 (x : Nat) : Nat := Nat.add x (Nat.div x (nat_lit 256))
def pn5 (x : Nat) : Nat := Nat.land (Nat.add x (Nat.div x (nat_lit 65536))) (nat_lit 63)
def allB (f : Nat → Bool) : Nat → Nat → Bool
  | 0, s => f s
  | d + 1, s => allB f d s && allB f d (s + 2 ^ d)
theorem allB_ok (f : Nat → Bool) : ∀ d s, allB f d s = true → ∀ x, s ≤ x → x < s + 2 ^ d → f x = true
  | 0, s, h, x, h1, h2 => by
    have : x = s := by simp at h2; omega
    rw [this]; exact h
  | d + 1, s, h, x, h1, h2 => by
    simp only [allB, Bool.and_eq_true] at h
    rw [Nat.pow_succ] at h2
    by_cases c : x < s + 2 ^ d
    · exact allB_ok f d s h.1 x h1 c
    · exact allB_ok f d (s + 2 ^ d) h.2 x (by omega) (by omega)
def pcr : Nat → Nat → Nat
  | 0, _ => 0
  | n + 1, x => Nat.add (Nat.mod x (nat_lit 2)) (pcr n (Nat.div x (nat_lit 2)))
def pnk (x : Nat) : Bool := Nat.beq (pn5 (pn4 (pn3 (pn2 (pn1 x))))) (pcr 16 x)
theorem pn_0 : allB pnk 12 0 = true := by decide +kernel
theorem pn_1 : allB pnk 12 4096 = true := by decide +kernel
theorem pn_2 : allB pnk 12 8192 = true := by decide +kernel
theorem pn_3 : allB pnk 12 12288 = true := by decide +kernel
theorem pn_4 : allB pnk 12 16384 = true := by decide +kernel
theorem pn_5 : allB pnk 12 20480 = true := by decide +kernel
theorem pn_6 : allB pnk 12 24576 = true := by decide +kernel
theorem pn_7 : allB pnk 12 28672 = true := by decide +kernel
theorem pn_8 : allB pnk 12 32768 = true := by decide +kernel
theorem pn_9 : allB pnk 12 36864 = true := by decide +kernel
theorem pn_10 : allB pnk 12 40960 = true := by decide +kernel
theorem pn_11 : allB pnk 12 45056 = true := by decide +kernel
theorem pn_12 : allB pnk 12 49152 = true := by decide +kernel
theorem pn_13 : allB pnk 12 53248 = true := by decide +kernel
theorem pn_14 : allB pnk 12 57344 = true := by decide +kernel
theorem pn_15 : allB pnk 12 61440 = true := by decide +kernel
theorem pn_ok {x : Nat} (hx : x < 65536) : pnk x = true := by
  have h : x / 4096 < 16 := by omega
  have h1 : 4096 * (x / 4096) ≤ x := by omega
  have h2 : x < 4096 * (x / 4096) + 2 ^ 12 := by omega
  rcases (show x / 4096 = 0 ∨ x / 4096 = 1 ∨ x / 4096 = 2 ∨ x / 4096 = 3 ∨ x / 4096 = 4 ∨ x / 4096 = 5 ∨ x / 4096 = 6 ∨ x / 4096 = 7 ∨ x / 4096 = 8 ∨ x / 4096 = 9 ∨ x / 4096 = 10 ∨ x / 4096 = 11 ∨ x / 4096 = 12 ∨ x / 4096 = 13 ∨ x / 4096 = 14 ∨ x / 4096 = 15 by omega) with e | e | e | e | e | e | e | e | e | e | e | e | e | e | e | e
  · exact allB_ok pnk 12 0 pn_0 x (by omega) (by omega)
  · exact allB_ok pnk 12 4096 pn_1 x (by omega) (by omega)
  · exact allB_ok pnk 12 8192 pn_2 x (by omega) (by omega)
  · exact allB_ok pnk 12 12288 pn_3 x (by omega) (by omega)
  · exact allB_ok pnk 12 16384 pn_4 x (by omega) (by omega)
  · exact allB_ok pnk 12 20480 pn_5 x (by omega) (by omega)
  · exact allB_ok pnk 12 24576 pn_6 x (by omega) (by omega)
  · exact allB_ok pnk 12 28672 pn_7 x (by omega) (by omega)
  · exact allB_ok pnk 12 32768 pn_8 x (by omega) (by omega)
  · exact allB_ok pnk 12 36864 pn_9 x (by omega) (by omega)
  · exact allB_ok pnk 12 40960 pn_10 x (by omega) (by omega)
  · exact allB_ok pnk 12 45056 pn_11 x (by omega) (by omega)
  · exact allB_ok pnk 12 49152 pn_12 x (by omega) (by omega)
  · exact allB_ok pnk 12 53248 pn_13 x (by omega) (by omega)
  · exact allB_ok pnk 12 57344 pn_14 x (by omega) (by omega)
  · exact allB_ok pnk 12 61440 pn_15 x (by omega) (by omega)
theorem pcr_eq (x : Nat) : ∀ n j, pcr n (x / 2 ^ j) + jsum (fun k => x / 2 ^ k % 2) j = jsum (fun k => x / 2 ^ k % 2) (j + n)
  | 0, j => by simp [pcr]
  | n + 1, j => by
    have e : pcr (n + 1) (x / 2 ^ j) = x / 2 ^ j % 2 + pcr n (x / 2 ^ j / 2) := rfl
    have e1 : x / 2 ^ j / 2 = x / 2 ^ (j + 1) := by rw [Nat.div_div_eq_div_mul, ← Nat.pow_succ]
    have i := pcr_eq x n (j + 1)
    have e3 : jsum (fun k => x / 2 ^ k % 2) (j + 1) = jsum (fun k => x / 2 ^ k % 2) j + x / 2 ^ j % 2 := rfl
    rw [e, e1, show j + (n + 1) = j + 1 + n by omega]
    omega
theorem jc_bits {x : Nat} (hx : x < 65536) : zf_26 (nI x) = nI (pc x) := by
  have e2 : pn5 (pn4 (pn3 (pn2 (pn1 x)))) = pc x := by
    have := Nat.eq_of_beq_eq_true (pn_ok hx)
    have h : pcr 16 (x / 2 ^ 0) + jsum (fun k => x / 2 ^ k % 2) 0 = pc x := pcr_eq x 16 0
    rw [Nat.pow_zero, Nat.div_one] at h
    exact this.trans h
  rw [bc_eq]
  have h1 : bc1 (nI x) = nI (pn1 x) := by
    have q : x / 2 &&& 1431655765 ≤ x / 2 := Nat.and_le_left
    show _ = nI (x - (x / 2 &&& 1431655765))
    unfold bc1
    rw [pk_ushrN (by omega) 1 1 (by decide), show (1431655765 : Int32) = nI 1431655765 from rfl, jn_and, pk_sub (by rw [Nat.pow_one]; omega), Nat.pow_one]
  have l1 : pn1 x < 65536 := by
    show x - (x / 2 &&& 1431655765) < 65536
    omega
  generalize pn1 x = y at h1 l1 e2
  have h2 : bc2 (nI y) = nI (pn2 y) := by
    show _ = nI ((y &&& 858993459) + (y / 4 &&& 858993459))
    unfold bc2
    rw [pk_ushrN (by omega) 2 2 (by decide), show (858993459 : Int32) = nI 858993459 from rfl, jn_and, jn_and, nI_add]
  have l2 : pn2 y < 131072 := by
    have q1 : y &&& 858993459 ≤ y := Nat.and_le_left
    have q2 : y / 4 &&& 858993459 ≤ y / 4 := Nat.and_le_left
    show (y &&& 858993459) + (y / 4 &&& 858993459) < 131072
    omega
  generalize pn2 y = z at h2 l2 e2
  have h3 : bc3 (nI z) = nI (pn3 z) := by
    show _ = nI ((z + z / 16) &&& 252645135)
    unfold bc3
    rw [pk_ushrN (by omega) 4 4 (by decide), nI_add, show (252645135 : Int32) = nI 252645135 from rfl, jn_and]
  have l3 : pn3 z < 262144 := by
    have q1 : (z + z / 16) &&& 252645135 ≤ z + z / 16 := Nat.and_le_left
    show (z + z / 16) &&& 252645135 < 262144
    omega
  generalize pn3 z = w at h3 l3 e2
  have h4 : bc4 (nI w) = nI (pn4 w) := by
    show _ = nI (w + w / 256)
    unfold bc4
    rw [pk_ushrN (by omega) 8 8 (by decide), nI_add]
  have l4 : pn4 w < 524288 := by
    show w + w / 256 < 524288
    omega
  generalize pn4 w = v at h4 l4 e2
  have h5 : bc5 (nI v) = nI (pn5 v) := by
    show _ = nI ((v + v / 65536) &&& 63)
    unfold bc5
    rw [pk_ushrN (by omega) 16 16 (by decide), nI_add, show (63 : Int32) = nI 63 from rfl, jn_and]
  rw [h1, h2, h3, h4, h5, e2]
