/-! texts: a byte, or 256 where the text has ended -/
def ch (b : Nat → Nat) (n k : Nat) : Nat := if k < n then b k else 256
def sgc (c : Nat) : Int32 := if c < 256 then nI c else -1
def tcB (b : Nat → Nat) (n : Nat) (M : jb_Mi) : Prop := n ≤ 260 ∧ M 2 1 = nI n ∧ ∀ k, k < n → b k < 256 ∧ M 3 k = nI (b k)
def tdB (b : Nat → Nat) (n : Nat) (M : jb_Mi) : Prop := n ≤ 260 ∧ M 79 6 = nI n ∧ ∀ k, k < n → b k < 256 ∧ M 83 k &&& 255 = nI (b k)
def bB (b : Nat → Nat) (n : Nat) : Prop := n ≤ 260 ∧ ∀ k, k < n → b k < 256
theorem tcB_b {b : Nat → Nat} {n : Nat} {M : jb_Mi} (h : tcB b n M) : bB b n := ⟨h.1, fun k hk => (h.2.2 k hk).1⟩
theorem tdB_b {b : Nat → Nat} {n : Nat} {M : jb_Mi} (h : tdB b n M) : bB b n := ⟨h.1, fun k hk => (h.2.2 k hk).1⟩
theorem tcB_of {b : Nat → Nat} {n : Nat} {M M' : jb_Mi} (h : tcB b n M) (h2 : M' 2 = M 2) (h3 : M' 3 = M 3) : tcB b n M' := by
  unfold tcB at h ⊢
  rw [h2, h3]
  exact h
theorem tdB_of {b : Nat → Nat} {n : Nat} {M M' : jb_Mi} (h : tdB b n M) (h2 : M' 79 6 = M 79 6) (h3 : M' 83 = M 83) : tdB b n M' := by
  unfold tdB at h ⊢
  rw [h2, h3]
  exact h
theorem ch_le {b : Nat → Nat} {n : Nat} (h : bB b n) (k : Nat) : ch b n k ≤ 256 := by
  unfold ch
  split
  · have := h.2 k (by assumption); omega
  · omega
theorem ch_end {b : Nat → Nat} {n : Nat} (h : bB b n) (k : Nat) : ch b n k = 256 ↔ n ≤ k := by
  unfold ch
  split
  · have := h.2 k (by assumption); omega
  · omega
theorem sgc_in {c : Nat} (h : c < 256) : sgc c = nI c := if_pos h
theorem sgc_256 : sgc 256 = -1 := rfl
theorem sgc_byte {b : Nat → Nat} {n : Nat} {M : jb_Mi} (h : tcB b n M) {k : Nat} (hk : k < 2 ^ 31) : zf_30 (nI k) M = some (sgc (ch b n k)) := by
  have := h.1
  unfold zf_30 ch
  rw [if_neg (nI_pos hk), h.2.1]
  by_cases c : k < n
  · rw [if_pos (nI_lt c (by omega)), jn_gd (by omega) (by decide), nI_clamp (by omega), (h.2.2 k c).2, if_pos c, sgc_in (h.2.2 k c).1]
  · rw [if_neg (nI_nlt (by omega) (by omega)), if_neg c]
    rfl
theorem sgc_peek {b : Nat → Nat} {n : Nat} {M : jb_Mi} (h : tdB b n M) {k : Nat} (hk : k < 2 ^ 31) (hp : M 79 5 = nI k) : zf_184 M = some (sgc (ch b n k)) := by
  have := h.1
  unfold zf_184 ch
  rw [h.2.1, hp]
  by_cases c : k < n
  · rw [if_pos (nI_lt c (by omega)), jn_gd (by omega) (by decide), nI_clamp (by omega), (h.2.2 k c).2, if_pos c, sgc_in (h.2.2 k c).1]
  · rw [if_neg (nI_nlt (by omega) (by omega)), if_neg c]
    rfl
theorem sgc_eq {c k : Nat} (hc : c ≤ 256) (hk : k < 256) : (sgc c = nI k) = (c = k) := by
  unfold sgc
  split
  · exact jn_eq (by omega) (by omega)
  · apply propext
    constructor
    · intro h
      have := (jn_m1 (a := k) (by omega)).mp h.symm
      exact this.elim
    · intro h; omega
theorem sgc_eql {c n : Nat} (hc : c ≤ 256) (hn : (OfNat.ofNat n : Nat) < 256) : (sgc c = (no_index (OfNat.ofNat n) : Int32)) = (c = (OfNat.ofNat n : Nat)) := sgc_eq hc hn
theorem sgc_w {c : Nat} (hc : c ≤ 256) {lo hi : Nat} (hl : lo < 256) (hh : hi < 256) : zf_23 (sgc c) (nI lo) (nI hi) = decide (lo ≤ c ∧ c ≤ hi) := by
  unfold sgc zf_23
  split
  · simp only [jn_lt (show c < 2 ^ 31 by omega) (show lo < 2 ^ 31 by omega), jn_lt (show hi < 2 ^ 31 by omega) (show c < 2 ^ 31 by omega)]
    by_cases c1 : c < lo
    · rw [if_pos c1, decide_eq_false (by omega)]
    · rw [if_neg c1]
      by_cases c2 : hi < c
      · rw [if_pos c2, decide_eq_false (by omega)]
      · rw [if_neg c2, decide_eq_true (by omega)]
  · rw [if_pos, decide_eq_false (by omega)]
    have : (nI lo).toInt = lo := nI_toInt (by omega)
    rw [fa_ltx, this]
    have : (-1 : Int32).toInt = -1 := by decide
    rw [this]
    omega
