/-! who stands where -/
theorem jn_z32 {z : Nat} (h : z < 2 ^ 32) : (nI z = 0) = (z = 0) := by
  apply propext
  constructor
  · intro e
    have e2 : (nI z).toBitVec = (0 : Int32).toBitVec := by rw [e]
    have e3 : (nI z).toBitVec.toNat = (0 : Int32).toBitVec.toNat := by rw [e2]
    have e4 : (nI z).toBitVec.toNat = z := by
      show (BitVec.ofNat 32 z).toNat = z
      rw [BitVec.toNat_ofNat]
      exact Nat.mod_eq_of_lt h
    rw [e4] at e3
    exact e3
  · rintro rfl; rfl
theorem nI_any (x : Int32) : ∃ u, u < 2 ^ 32 ∧ x = nI u := by
  refine ⟨x.toBitVec.toNat, x.toBitVec.isLt, ?_⟩
  apply Int32.toBitVec_inj.mp
  show x.toBitVec = BitVec.ofNat 32 x.toBitVec.toNat
  rw [BitVec.ofNat_toNat, BitVec.setWidth_eq]
theorem jn_sub32 {a b : Nat} (ha : a < 2 ^ 32) (hb : b < 2 ^ 31) : (nI a &&& (nI b ^^^ (-1)) = 0) = (a &&& b = a) := by
  have hle : a &&& (b ^^^ (2 ^ 32 - 1)) ≤ a := Nat.and_le_left
  rw [show (-1 : Int32) = nI (2 ^ 32 - 1) from by decide, jn_xor, jn_and, jn_z32 (by omega)]
  apply propext
  constructor
  · intro h
    apply Nat.eq_of_testBit_eq
    intro i
    have h1 : (a &&& (b ^^^ (2 ^ 32 - 1))).testBit i = false := by rw [h]; exact Nat.zero_testBit i
    rw [Nat.testBit_and, Nat.testBit_xor, Nat.testBit_two_pow_sub_one] at h1
    rw [Nat.testBit_and]
    by_cases c : i < 32
    · simp only [c, decide_true, Bool.xor_true] at h1
      cases h2 : a.testBit i <;> cases h3 : b.testBit i <;> simp_all
    · rw [Nat.testBit_lt_two_pow (Nat.lt_of_lt_of_le ha (Nat.pow_le_pow_right (by decide) (by omega)))]
      rfl
  · intro h
    apply Nat.eq_of_testBit_eq
    intro i
    rw [Nat.zero_testBit, ← h, Nat.testBit_and, Nat.testBit_and, Nat.testBit_xor, Nat.testBit_two_pow_sub_one]
    by_cases c : i < 32
    · simp only [c, decide_true, Bool.xor_true]
      cases h2 : a.testBit i <;> cases h3 : b.testBit i <;> rfl
    · rw [Nat.testBit_lt_two_pow (Nat.lt_of_lt_of_le ha (Nat.pow_le_pow_right (by decide) (by omega)))]
      rfl
def tdm (S : jSt) (k : Nat) : Bool := decide (0 < S 7 k)
def mens (S : jSt) : Nat := bmk (tdm S) 16
theorem mens_lt (S : jSt) : mens S < 65536 := bmk_lt (tdm S) 16
theorem jc_mens {S : jSt} {M : jb_Mi} (hC : jC 4 S M) (hR : jR S) : zf_103 4 M = some (nI (mens S)) := by
  rw [jc_menBits hC hR, btG_bmk (p := tdm S) (fun k => by simp [tdm]) 16 (by decide)]
  rfl
theorem jd_mens {S : jSt} {M : jb_Mi} (hD : jD 80 S M) (hR : jR S) : zf_257 M = some (nI (mens S)) := by
  rw [jd_menBits hD hR, btG_bmk (p := tdm S) (fun k => by simp [tdm]) 16 (by decide)]
  rfl
theorem mens_sub {S : jSt} {x : Nat} (h : x &&& mens S = x) {k : Nat} (hk : x.testBit k = true) : k < 16 ∧ 0 < S 7 k := by
  rw [← h, Nat.testBit_and, Bool.and_eq_true] at hk
  have := hk.2
  unfold mens at this
  rw [bmk_bit, Bool.and_eq_true] at this
  exact ⟨by simpa using this.1, by simpa [tdm] using this.2⟩
/-- the men of a set, one behind the other -/
def chG (x m : Nat) (a : Nat × (Nat → Nat)) : Nat × (Nat → Nat) := if x.testBit m = true then (a.1 + 1, fun j => if j = a.1 then m else a.2 j) else a
def chs (x n : Nat) : Nat × (Nat → Nat) := itf (chG x) (0, fun _ => 0) n
theorem chs_1 (x : Nat) : ∀ n, (chs x n).1 = jsum (fun k => x / 2 ^ k % 2) n
  | 0 => rfl
  | n + 1 => by
    have i := chs_1 x n
    have e : chs x (n + 1) = chG x n (chs x n) := rfl
    rw [e]
    simp only [jsum]
    rw [← i]
    unfold chG
    rw [Nat.testBit_eq_decide_div_mod_eq]
    by_cases c : x / 2 ^ n % 2 = 1
    · simp [c]
    · have : x / 2 ^ n % 2 = 0 := by omega
      simp [this]
theorem jsum_mono (f : Nat → Nat) {a b : Nat} (h : a ≤ b) : jsum f a ≤ jsum f b := by
  induction h with
  | refl => exact Nat.le_refl _
  | step _ ih => exact Nat.le_trans ih (Nat.le_add_right _ _)
theorem chs_le {x n : Nat} (hn : n ≤ 16) : (chs x n).1 ≤ pc x := by
  rw [chs_1]
  exact jsum_mono _ hn
theorem chs_lt {x n : Nat} (hn : n < 16) (hb : x.testBit n = true) : (chs x n).1 < pc x := by
  have h := chs_le (x := x) (n := n + 1) (by omega)
  have e : chs x (n + 1) = chG x n (chs x n) := rfl
  rw [e] at h
  unfold chG at h
  rw [if_pos hb] at h
  exact h
theorem chs_ok (x : Nat) : ∀ n c, c < (chs x n).1 → (chs x n).2 c < n ∧ x.testBit ((chs x n).2 c) = true
  | 0, c, h => by simp [chs, itf] at h
  | n + 1, c, h => by
    have e : chs x (n + 1) = chG x n (chs x n) := rfl
    rw [e] at h ⊢
    unfold chG at h ⊢
    by_cases b : x.testBit n = true
    · rw [if_pos b] at h ⊢
      dsimp only at h ⊢
      by_cases c2 : c = (chs x n).1
      · rw [if_pos c2]; exact ⟨by omega, b⟩
      · rw [if_neg c2]
        obtain ⟨i1, i2⟩ := chs_ok x n c (by omega)
        exact ⟨by omega, i2⟩
    · rw [if_neg b] at h ⊢
      obtain ⟨i1, i2⟩ := chs_ok x n c h
      exact ⟨by omega, i2⟩
theorem jc_choose {x : Nat} (hx : x < 65536) (hp : pc x = 4) (M : jb_Mi) : ∃ M1, zf_10 (nI x) M = some M1 ∧ (∀ a, a ≠ 68 → M1 a = M a) ∧ ∀ c, c < 4 → M1 68 c = nI ((chs x 16).2 c) := by
  unfold zf_10
  obtain ⟨M1, h1, h2, h3⟩ := jb_inv (f := zf_10_H4 (nI x)) (fun n s => ∃ m M', m + n = 16 ∧ s = (nI (chs x m).1, nI m, M') ∧ (∀ a, a ≠ 68 → M' a = M a) ∧ ∀ c, c < (chs x m).1 → M' 68 c = nI ((chs x m).2 c)) (fun M1 => (∀ a, a ≠ 68 → M1 a = M a) ∧ ∀ c, c < (chs x 16).1 → M1 68 c = nI ((chs x 16).2 c)) (by
    rintro n s ⟨m, M', hn, rfl, h1, h2⟩
    unfold zf_10_H4 zf_10_J33
    dsimp only
    by_cases c : m < 16
    · rw [if_pos (show nI m < 16 from nI_lt (b := 16) c (by decide)), nI_1]
      simp only [jn_bit0 (show x < 2 ^ 31 by omega) (show m < 32 by omega)]
      have e : chs x (m + 1) = chG x m (chs x m) := rfl
      cases b : x.testBit m
      · refine Or.inl ⟨n - 1, _, by omega, if_pos rfl, m + 1, M', by omega, ?_, h1, ?_⟩
        · rw [e]; unfold chG; rw [b]; rfl
        · rw [e]; unfold chG; rw [b]; exact h2
      · have hl := chs_lt c b
        rw [hp] at hl
        refine Or.inl ⟨n - 1, (nI ((chs x m).1 + 1), nI (m + 1), jb_up M' 68 (chs x m).1 (nI m)), by omega, ?_, m + 1, jb_up M' 68 (chs x m).1 (nI m), by omega, ?_, ?_, ?_⟩
        · rw [if_neg (by decide), if_pos (show nI (chs x m).1 < 4 from nI_lt (b := 4) hl (by decide)), jn_gd hl (by decide), nI_clamp (by omega), nI_1]
        · rw [e]; unfold chG; rw [b]; rfl
        · intro a ha
          rw [jb_up_off ha, h1 a ha]
        · rw [e]
          unfold chG
          rw [if_pos b]
          intro j hj
          dsimp only at hj ⊢
          rw [jb_up_at]
          by_cases q : j = (chs x m).1
          · rw [if_pos ⟨rfl, q⟩, if_pos q]
          · rw [if_neg (fun z => q z.2), if_neg q]
            exact h2 j (by omega)
    · have e : m = 16 := by omega
      subst e
      exact Or.inr ⟨M', if_neg (by decide), h1, h2⟩) 16 (nI 0, nI 0, M) ⟨0, M, by omega, rfl, fun _ _ => rfl, fun c hc => by simp [chs, itf] at hc⟩
  refine ⟨M1, h1, h2, ?_⟩
  rw [chs_1] at h3
  intro c hc
  exact h3 c (by show c < pc x; omega)
/-- who of four stands at corner c in row k -/
def rwc (k c : Nat) : Nat := if c = 0 then k / 64 else if c = 1 then k / 16 % 4 else if c = 2 then k / 4 % 4 else k % 4
theorem rwc_lt {k c : Nat} (hk : k < 256) : rwc k c < 4 := by
  unfold rwc
  split
  · omega
  · split
    · omega
    · split <;> omega
def prm (k : Nat) : Bool := Nat.beq (2 ^ (k / 64) ||| 2 ^ (k / 16 % 4) ||| 2 ^ (k / 4 % 4) ||| 2 ^ (k % 4)) 15
def evG (S : jSt) (i : Nat) (f : Nat → Nat) (k c : Nat) (a : Nat × Nat) : Nat × Nat := if a.1 * S 7 (f (rwc k c)) < ld S i c * a.2 then (ld S i c, S 7 (f (rwc k c))) else a
def ev (S : jSt) (i : Nat) (f : Nat → Nat) (k : Nat) : Nat × Nat := itf (evG S i f k) (0, 1) 4
def evok (a : Nat × Nat) : Prop := a.1 ≤ 157824 ∧ 1 ≤ a.2 ∧ a.2 ≤ 99
theorem evG_ok {S : jSt} (hR : jR S) {i k c : Nat} {f : Nat → Nat} (hi : i < 6) (hk : k < 256) (hf : ∀ j, j < 4 → f j < 16 ∧ 0 < S 7 (f j)) {a : Nat × Nat} (ha : evok a) : evok (evG S i f k c a) := by
  unfold evG
  have h1 := ld_le hR (c := c) hi
  obtain ⟨h2, h3⟩ := hf _ (rwc_lt (c := c) hk)
  have h4 := (hR.2.2.1 _ h2).1
  split
  · exact ⟨h1, h3, h4⟩
  · exact ha
theorem ev_ok {S : jSt} (hR : jR S) {i k : Nat} {f : Nat → Nat} (hi : i < 6) (hk : k < 256) (hf : ∀ j, j < 4 → f j < 16 ∧ 0 < S 7 (f j)) : evok (ev S i f k) := by
  unfold ev
  simp only [itf]
  exact evG_ok hR hi hk hf (evG_ok hR hi hk hf (evG_ok hR hi hk hf (evG_ok hR hi hk hf ⟨by decide, by decide, by decide⟩)))
theorem mul_lt_b {a b : Nat} (ha : a ≤ 157824) (hb : b ≤ 99) : a * b < 2 ^ 31 := Nat.lt_of_le_of_lt (Nat.mul_le_mul ha hb) (by decide)
/-- the best so far: whether there is one, above, below, its row -/
def sdG (S : jSt) (i : Nat) (f : Nat → Nat) (k : Nat) (b : Nat × Nat × Nat × Nat) : Nat × Nat × Nat × Nat := if prm k = true ∧ (b.1 = 0 ∨ (ev S i f k).1 * b.2.2.1 < b.2.1 * (ev S i f k).2) then (1, (ev S i f k).1, (ev S i f k).2, k) else b
def sdok (b : Nat × Nat × Nat × Nat) : Prop := b.1 ≠ 0 → b.2.1 ≤ 157824 ∧ 1 ≤ b.2.2.1 ∧ b.2.2.1 ≤ 99 ∧ b.2.2.2 < 256
theorem sdG_ok {S : jSt} (hR : jR S) {i k : Nat} {f : Nat → Nat} (hi : i < 6) (hk : k < 256) (hf : ∀ j, j < 4 → f j < 16 ∧ 0 < S 7 (f j)) {b : Nat × Nat × Nat × Nat} (hb : sdok b) : sdok (sdG S i f k b) := by
  unfold sdG
  have := ev_ok hR hi hk hf
  split
  · exact fun _ => ⟨this.1, this.2.1, this.2.2, hk⟩
  · exact hb
def sd (S : jSt) (i : Nat) (f : Nat → Nat) (n : Nat) : Nat × Nat × Nat × Nat := itf (sdG S i f) (0, 0, 0, 0) n
theorem sd_ok {S : jSt} (hR : jR S) {i : Nat} {f : Nat → Nat} (hi : i < 6) (hf : ∀ j, j < 4 → f j < 16 ∧ 0 < S 7 (f j)) : ∀ n, n ≤ 256 → sdok (sd S i f n)
  | 0, _ => fun h => absurd rfl h
  | n + 1, h => sdG_ok hR hi (by omega) hf (sd_ok hR hi hf n (by omega))
theorem sd_has {S : jSt} {i : Nat} {f : Nat → Nat} : ∀ n, (sd S i f (28 + n)).1 ≠ 0
  | 0 => by
    have e : sd S i f (28 + 0) = sdG S i f 27 (sd S i f 27) := rfl
    rw [e]
    unfold sdG
    by_cases c : (sd S i f 27).1 = 0
    · rw [if_pos ⟨by decide, Or.inl c⟩]; simp
    · split
      · simp
      · exact c
  | n + 1 => by
    have i' := sd_has (S := S) (i := i) (f := f) n
    have e : sd S i f (28 + (n + 1)) = sdG S i f (28 + n) (sd S i f (28 + n)) := rfl
    rw [e]
    unfold sdG
    split
    · simp
    · exact i'
def crS (f : Nat → Nat) (b : Nat × Nat × Nat × Nat) (M : jb_Mi) : Prop := (b.1 = 0 → M 64 10 = (-1) ∧ M 64 11 = 1) ∧ (b.1 ≠ 0 → M 64 10 = nI b.2.1 ∧ M 64 11 = nI b.2.2.1 ∧ ∀ c, c < 4 → M 69 c = nI (f (rwc b.2.2.2 c)))
theorem jc_row {S : jSt} {M : jb_Mi} (hR : jR S) {i k : Nat} {f : Nat → Nat} {b : Nat × Nat × Nat × Nat} (hi : i < 6) (hk : k < 256) (hf : ∀ j, j < 4 → f j < 16 ∧ 0 < S 7 (f j)) (hl : ∀ c, c < 4 → M 65 c = nI (ld S i c)) (h12 : ∀ j, j < 16 → M 12 j = nI (S 7 j)) (h68 : ∀ c, c < 4 → M 68 c = nI (f c)) (hb : sdok b) (hc : crS f b M) (hp : prm k = true) : ∃ M1, zf_11 (nI (rwc k 0)) (nI (rwc k 1)) (nI (rwc k 2)) (nI (rwc k 3)) M = some M1 ∧ (∀ a, a ≠ 64 → a ≠ 69 → M1 a = M a) ∧ crS f (sdG S i f k b) M1 := by
  have r4 : ∀ c, rwc k c < 4 := fun c => rwc_lt hk
  obtain ⟨o1, o2, o3⟩ := ev_ok hR hi hk hf
  have hm : ∀ z, zf_11_H9 (nI (rwc k 0)) (nI (rwc k 1)) (nI (rwc k 2)) (nI (rwc k 3)) M (nI (ev S i f k).1, nI (ev S i f k).2, nI 4) = some (.inr z) → zf_11 (nI (rwc k 0)) (nI (rwc k 1)) (nI (rwc k 2)) (nI (rwc k 3)) M = some z := by
    intro z hz
    unfold zf_11
    refine jb_itp (f := zf_11_H9 (nI (rwc k 0)) (nI (rwc k 1)) (nI (rwc k 2)) (nI (rwc k 3)) M) (fun (a : Nat × Nat) c => (nI a.1, nI a.2, nI c)) (evG S i f k) (fun _ a => evok a) (0, 1) 4 ⟨by decide, by decide, by decide⟩ ?_ ?_
    · intro c a hc' ha
      refine ⟨?_, evG_ok hR hi hk hf ha⟩
      have hld := ld_le hR (c := c) hi
      obtain ⟨f1, f2⟩ := hf _ (r4 c)
      have f3 := (hR.2.2.1 _ f1).1
      have key : zf_11_J57 (nI (rwc k 0)) (nI (rwc k 1)) (nI (rwc k 2)) (nI (rwc k 3)) (nI a.1) (nI a.2) (nI c) (nI (rwc k c)) M = some (.inl (nI (evG S i f k c a).1, nI (evG S i f k c a).2, nI (c + 1))) := by
        unfold zf_11_J57 zf_11_J92
        have := r4 c
        rw [jn_gd (r4 c) (by decide), nI_clamp (by omega), h68 _ (r4 c), jn_gd f1 (by decide), nI_clamp (by omega), h12 _ f1, jn_gd hc' (by decide), nI_clamp (by omega), hl c hc', jn_mul, jn_mul, jn_gd hc' (by decide), nI_1]
        simp only [jn_lt (mul_lt_b ha.1 f3) (mul_lt_b hld ha.2.2)]
        unfold evG
        by_cases q : a.1 * S 7 (f (rwc k c)) < ld S i c * a.2
        · rw [if_pos q, if_pos q]
        · rw [if_neg q, if_neg q]
      unfold zf_11_H9
      dsimp only
      rw [if_pos (show nI c < 4 from nI_lt (b := 4) hc' (by decide))]
      rcases (show c = 0 ∨ c = 1 ∨ c = 2 ∨ c = 3 by omega) with rfl | rfl | rfl | rfl
      · rw [if_pos (by decide)]; exact key
      · rw [if_neg (by decide), if_pos (by decide)]; exact key
      · rw [if_neg (by decide), if_neg (by decide), if_pos (by decide)]; exact key
      · rw [if_neg (by decide), if_neg (by decide), if_neg (by decide)]; exact key
    · rintro z' - rfl
      exact hz
  have hup : zf_11_J122 (nI (rwc k 0)) (nI (rwc k 1)) (nI (rwc k 2)) (nI (rwc k 3)) (nI (ev S i f k).1) (nI (ev S i f k).2) M = some (jb_up (jb_up (jb_up (jb_up (jb_up (jb_up M 64 10 (nI (ev S i f k).1)) 64 11 (nI (ev S i f k).2)) 69 0 (nI (f (rwc k 0)))) 69 1 (nI (f (rwc k 1)))) 69 2 (nI (f (rwc k 2)))) 69 3 (nI (f (rwc k 3)))) := by
    unfold zf_11_J122
    have q0 := r4 0
    have q1 := r4 1
    have q2 := r4 2
    have q3 := r4 3
    rw [jn_gd q0 (by decide), jn_gd q1 (by decide), jn_gd q2 (by decide), jn_gd q3 (by decide), nI_clamp (by omega), nI_clamp (by omega), nI_clamp (by omega), nI_clamp (by omega)]
    simp only [jb_up_off (show (68 : Nat) ≠ 64 by decide), jb_up_off (show (68 : Nat) ≠ 69 by decide), h68 _ q0, h68 _ q1, h68 _ q2, h68 _ q3]
  by_cases cb : b.1 = 0 ∨ (ev S i f k).1 * b.2.2.1 < b.2.1 * (ev S i f k).2
  · refine ⟨_, hm (jb_up (jb_up (jb_up (jb_up (jb_up (jb_up M 64 10 (nI (ev S i f k).1)) 64 11 (nI (ev S i f k).2)) 69 0 (nI (f (rwc k 0)))) 69 1 (nI (f (rwc k 1)))) 69 2 (nI (f (rwc k 2)))) 69 3 (nI (f (rwc k 3)))) ?_, ?_, ?_⟩
    · unfold zf_11_H9
      refine (if_neg (by dsimp only; decide)).trans ?_
      dsimp only
      rw [hup]
      by_cases c0 : b.1 = 0
      · rw [(hc.1 c0).1, if_pos (by decide)]; rfl
      · obtain ⟨g1, g2, -⟩ := hc.2 c0
        obtain ⟨u1, u2, u3, -⟩ := hb c0
        rw [g1, g2, if_neg (nI_pos (by omega)), jn_mul, jn_mul, if_pos (nI_lt (cb.resolve_left c0) (mul_lt_b u1 o3))]; rfl
    · intro a q1 q2
      rw [jb_up_off q2, jb_up_off q2, jb_up_off q2, jb_up_off q2, jb_up_off q1, jb_up_off q1]
    · unfold sdG
      rw [if_pos ⟨hp, cb⟩]
      refine ⟨fun z => absurd z (show ¬ (1 : Nat) = 0 by decide), fun _ => ⟨?_, ?_, ?_⟩⟩
      · simp [jb_up_at]
      · simp [jb_up_at]
      · intro c hc'
        rcases (show c = 0 ∨ c = 1 ∨ c = 2 ∨ c = 3 by omega) with rfl | rfl | rfl | rfl <;> simp [jb_up_at]
  · have c0 : b.1 ≠ 0 := fun z => cb (Or.inl z)
    obtain ⟨g1, g2, -⟩ := hc.2 c0
    obtain ⟨u1, u2, u3, -⟩ := hb c0
    refine ⟨M, hm M ?_, fun _ _ _ => rfl, ?_⟩
    · unfold zf_11_H9
      refine (if_neg (by dsimp only; decide)).trans ?_
      dsimp only
      rw [g1, g2, if_neg (nI_pos (by omega)), jn_mul, jn_mul, if_neg (nI_nlt (Nat.le_of_not_lt (fun z => cb (Or.inr z))) (mul_lt_b o1 u3))]
    · unfold sdG
      rw [if_neg (fun z => cb z.2)]
      exact hc
theorem ca_code : ∀ k, k < 256 → (nI k >>> ((6 : Int32) &&& 31)) = nI (rwc k 0) ∧ ((nI k >>> ((4 : Int32) &&& 31)) &&& 3) = nI (rwc k 1) ∧ ((nI k >>> ((2 : Int32) &&& 31)) &&& 3) = nI (rwc k 2) ∧ (nI k &&& 3) = nI (rwc k 3) ∧ (((((1 : Int32) <<< (nI (rwc k 0) &&& 31)) ||| ((1 : Int32) <<< (nI (rwc k 1) &&& 31))) ||| ((1 : Int32) <<< (nI (rwc k 2) &&& 31))) ||| ((1 : Int32) <<< (nI (rwc k 3) &&& 31)) = 15 ↔ prm k = true) := by decide +kernel
theorem jc_rows {S : jSt} {M : jb_Mi} (hC : jC 4 S M) (hR : jR S) {i x : Nat} (hi : i < 6) (hs : 0 < S 0 i) (hx : x < 65536) (hp : pc x = 4) (hm : x &&& mens S = x) : ∃ M1, zf_12 (nI i) (nI x) M = some M1 ∧ (∀ a, a ≠ 64 → a ≠ 65 → a ≠ 68 → a ≠ 69 → M1 a = M a) ∧ crS (chs x 16).2 (sd S i (chs x 16).2 256) M1 := by
  obtain ⟨M0, w1, w2, w3⟩ := jc_weigh hC hR hi hs
  obtain ⟨M2, v1, v2, v3⟩ := jc_choose hx hp M0
  have hf : ∀ j, j < 4 → (chs x 16).2 j < 16 ∧ 0 < S 7 ((chs x 16).2 j) := by
    intro j hj
    have hl : (chs x 16).1 = 4 := by rw [chs_1]; exact hp
    exact mens_sub hm (chs_ok x 16 j (by omega)).2
  generalize (chs x 16).2 = f at v3 hf
  unfold zf_12
  rw [w1, Option.bind_some, v1, Option.bind_some]
  obtain ⟨M1, h1, h2, h3⟩ := jb_inv (f := zf_12_H22) (fun n s => ∃ k M', k + n = 256 ∧ s = (nI k, M') ∧ (∀ a, a ≠ 64 → a ≠ 69 → M' a = M2 a) ∧ crS f (sd S i f k) M') (fun M1 => (∀ a, a ≠ 64 → a ≠ 69 → M1 a = M2 a) ∧ crS f (sd S i f 256) M1) (by
    rintro n s ⟨k, M', hn, rfl, h1, h2⟩
    unfold zf_12_H22 zf_12_J90
    dsimp only
    by_cases c : k < 256
    · obtain ⟨e1, e2, e3, e4, e5⟩ := ca_code k c
      rw [if_pos (show nI k < 256 from nI_lt (b := 256) c (by decide)), e1, e2, e3, e4, nI_1]
      by_cases hpr : prm k = true
      · rw [if_pos (e5.mpr hpr)]
        obtain ⟨M3, g1, g2, g3⟩ := jc_row hR hi c hf (M := M') (b := sd S i f k) (fun c hc => by rw [h1 65 (by decide) (by decide), v2 65 (by decide), w3 c hc]) (fun j hj => by rw [h1 12 (by decide) (by decide), v2 12 (by decide), w2 12 (by decide)]; exact (hC.2.2.1 j hj).1) (fun c hc => by rw [h1 68 (by decide) (by decide), v3 c hc]) (sd_ok hR hi hf k (by omega)) h2 hpr
        rw [g1]
        exact Or.inl ⟨n - 1, _, by omega, rfl, k + 1, M3, by omega, rfl, fun a q1 q2 => by rw [g2 a q1 q2, h1 a q1 q2], g3⟩
      · rw [if_neg (fun z => hpr (e5.mp z))]
        refine Or.inl ⟨n - 1, _, by omega, rfl, k + 1, M', by omega, rfl, h1, ?_⟩
        have e : sd S i f (k + 1) = sdG S i f k (sd S i f k) := rfl
        rw [e]
        unfold sdG
        rw [if_neg (fun z => hpr z.1)]
        exact h2
    · have e : k = 256 := by omega
      subst e
      exact Or.inr ⟨M', if_neg (by decide), h1, h2⟩) 256 (nI 0, jb_up (jb_up M2 64 10 (-1)) 64 11 1) ⟨0, _, by omega, rfl, fun a q1 q2 => by rw [jb_up_off q1, jb_up_off q1], fun _ => by simp [jb_up_at], fun z => absurd rfl z⟩
  exact ⟨M1, h1, fun a q1 q2 q3 q4 => by rw [h2 a q1 q4, v2 a q3, w2 a q2], h3⟩
