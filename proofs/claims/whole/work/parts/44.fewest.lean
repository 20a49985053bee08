/-! fewest -/
def bmk (p : Nat → Bool) (n : Nat) : Nat := itf (fun k m => if p k = true then m ||| 2 ^ k else m) 0 n
theorem bmk_bit (p : Nat → Bool) (k : Nat) : ∀ n, (bmk p n).testBit k = (decide (k < n) && p k)
  | 0 => by simp [bmk, itf]
  | n + 1 => by
    have i := bmk_bit p k n
    have e : bmk p (n + 1) = if p n = true then bmk p n ||| 2 ^ n else bmk p n := rfl
    rw [e]
    by_cases c : p n = true
    · rw [if_pos c, Nat.testBit_or, i, Nat.testBit_two_pow]
      by_cases c2 : n = k
      · subst c2; simp [c]
      · by_cases c3 : k < n
        · simp [c2, c3, show k < n + 1 by omega]
        · simp [c2, c3, show ¬ k < n + 1 by omega]
    · rw [if_neg c, i]
      by_cases c2 : n = k
      · subst c2; simp at c; simp [c]
      · by_cases c3 : k < n
        · simp [c3, show k < n + 1 by omega]
        · simp [c3, show ¬ k < n + 1 by omega]
theorem bmk_lt (p : Nat → Bool) (n : Nat) : bmk p n < 2 ^ n := by
  apply Nat.lt_pow_two_of_testBit
  intro i hi
  rw [bmk_bit]
  simp [show ¬ i < n by omega]
theorem btG_bmk {P : Nat → Prop} {p : Nat → Bool} (h : ∀ k, P k ↔ p k = true) : ∀ n, n ≤ 31 → itf (btG P) 0 n = nI (bmk p n)
  | 0, _ => rfl
  | n + 1, hn => by
    have i := btG_bmk h n (by omega)
    have e : bmk p (n + 1) = if p n = true then bmk p n ||| 2 ^ n else bmk p n := rfl
    simp only [itf]
    rw [i, e]
    unfold btG
    rw [jn_shl n (by omega), jn_or]
    by_cases c : P n
    · rw [if_pos c, if_pos ((h n).mp c)]
    · rw [if_neg c, if_neg (fun z => c ((h n).mpr z))]
def uph (S : jSt) (k : Nat) : Bool := decide (0 < S 0 k ∧ S 2 k < 9)
def ups (S : jSt) : Nat := bmk (uph S) 6
theorem ups_lt (S : jSt) : ups S < 64 := bmk_lt (uph S) 6
theorem jc_ups {S : jSt} {M : jb_Mi} (hC : jC 4 S M) (hR : jR S) : zf_51 4 M = some (nI (ups S)) := by
  rw [jc_upBits hC hR, btG_bmk (p := uph S) (fun k => by simp [uph]) 6 (by decide)]
  rfl
theorem jd_ups {S : jSt} {M : jb_Mi} (hD : jD 80 S M) (hR : jR S) : zf_253 M = some (nI (ups S)) := by
  rw [jd_upBits hD hR, btG_bmk (p := uph S) (fun k => by simp [uph]) 6 (by decide)]
  rfl
theorem and_or64 : ∀ a, a < 64 → ∀ b, b < 64 → (a &&& b = a → a ||| b = b) := by decide +kernel
/-- what falls if some are pushed, some of them to the right -/
def felG (S : jSt) (p r i b : Nat) : Nat := if p.testBit i = true then b ||| kn S (r.testBit i) i else b
def fel (S : jSt) (p r : Nat) : Nat := itf (felG S p r) 0 6
noncomputable def cfb (S : jSt) (p : Nat) : Bool := @decide (∃ r, r < 64 ∧ r &&& p = r ∧ fel S p r = ups S) (Classical.propDecidable _)
theorem cfb_iff (S : jSt) (p : Nat) : cfb S p = true ↔ ∃ r, r < 64 ∧ r &&& p = r ∧ fel S p r = ups S := by
  unfold cfb
  exact @decide_eq_true_iff _ (Classical.propDecidable _)
theorem fel_lt {S : jSt} {p r : Nat} : ∀ n, n ≤ 6 → itf (felG S p r) 0 n < 64
  | 0, _ => by show (0 : Nat) < 64; decide
  | n + 1, h => by
    have i := fel_lt (S := S) (p := p) (r := r) n (by omega)
    simp only [itf]
    unfold felG at i ⊢
    split
    · exact or64 i (kn_lt (by omega))
    · exact i
theorem l64 {m : Nat} (h : m < 64) : m < 2 ^ 31 := by omega
def kT (S : jSt) (M : jb_Mi) : Prop := ∀ i, i < 6 → uph S i = true → M 71 i = nI (kn S true i) ∧ M 72 i = nI (kn S false i)
theorem jc_fel {S : jSt} {M : jb_Mi} (hk : kT S M) {p r : Nat} (hp : p < 64) (hr : r < 64) (hs : p &&& ups S = p) : zf_52 (nI p) (nI r) M = some (nI (fel S p r)) := by
  unfold zf_52
  refine jb_it (f := zf_52_H5 (nI p) (nI r) M) (fun (b : Nat) k => (nI b, nI k)) (felG S p r) 0 6 ?_ ?_
  · intro k b hk'
    unfold zf_52_H5 zf_52_J48 zf_52_J50 felG
    dsimp only
    rw [if_pos (show nI k < 6 from nI_lt (b := 6) hk' (by decide)), nI_1]
    simp only [jn_bit0 (l64 hp) (show k < 32 by omega), jn_bit0 (l64 hr) (show k < 32 by omega)]
    cases c : p.testBit k
    · simp
    · have hu : uph S k = true := by
        rw [← hs, Nat.testBit_and, Bool.and_eq_true] at c
        have := c.2
        unfold ups at this
        rw [bmk_bit, Bool.and_eq_true] at this
        exact this.2
      obtain ⟨k1, k2⟩ := hk k hk' hu
      rw [jn_gd hk' (by decide), jn_gd hk' (by decide), nI_clamp (by omega), k1, k2, jn_or, jn_or]
      cases c2 : r.testBit k <;> simp
  · unfold zf_52_H5
    exact if_neg (by dsimp only; decide)
theorem jc_can {S : jSt} {M : jb_Mi} (hk : kT S M) {p : Nat} (hp : p < 64) (hs : p &&& ups S = p) : zf_53 (nI p) (nI (ups S)) M = some (cfb S p) := by
  unfold zf_53
  obtain ⟨x, h1, h2⟩ := jb_inv (f := zf_53_H2 (nI p) (nI (ups S)) M) (fun n s => ∃ r, r + n = 64 ∧ s = nI r ∧ ∀ r', r' < r → ¬ (r' &&& p = r' ∧ fel S p r' = ups S)) (fun x => x = cfb S p) (by
    rintro n s ⟨r, hn, rfl, hr⟩
    unfold zf_53_H2 zf_53_J28
    by_cases c : r < 64
    · rw [if_pos (show nI r < 64 from nI_lt (b := 64) c (by decide)), jc_fel hk hp c hs, Option.bind_some, nI_1]
      simp only [jn_sub0 (l64 c) (l64 hp), jn_eq (l64 (show fel S p r < 64 from fel_lt 6 (by decide))) (l64 (ups_lt S))]
      by_cases c2 : r &&& p = r ∧ fel S p r = ups S
      · refine Or.inr ⟨true, ?_, ((cfb_iff S p).mpr ⟨r, c, c2⟩).symm⟩
        rw [if_pos c2.1, if_pos c2.2]
      · refine Or.inl ⟨n - 1, nI (r + 1), by omega, ?_, r + 1, by omega, rfl, ?_⟩
        · by_cases c3 : r &&& p = r
          · rw [if_pos c3, if_neg (fun z => c2 ⟨c3, z⟩)]
          · rw [if_neg c3]
        · intro r' h'
          by_cases e : r' = r
          · rw [e]; exact c2
          · exact hr r' (by omega)
    · refine Or.inr ⟨false, ?_, ?_⟩
      · rw [show r = 64 by omega]
        exact if_neg (by decide)
      · cases e : cfb S p
        · rfl
        · obtain ⟨r', q1, q2⟩ := (cfb_iff S p).mp e
          exact absurd q2 (hr r' (by omega))) 64 (nI 0) ⟨0, by omega, rfl, fun r' h => by omega⟩
  rw [show (0 : Int32) = nI 0 from rfl, h1, h2]
noncomputable def fwG (S : jSt) (k b : Nat) : Nat := @ite _ ((k &&& ups S = k ∧ pc k < pc b) ∧ cfb S k = true) (Classical.propDecidable _) k b
theorem fwG_lt {S : jSt} {k b : Nat} (hk : k < 64) (hb : b < 64) : fwG S k b < 64 := by
  unfold fwG
  split
  · exact hk
  · exact hb
theorem jc_fw {S : jSt} {M : jb_Mi} (hk : kT S M) : jb_lp (zf_54_H80 (nI (ups S)) M) (nI (ups S), 0) = some (nI (itf (fwG S) (ups S) 64), M) := by
  refine jb_itp (f := zf_54_H80 (nI (ups S)) M) (fun (b : Nat) k => (nI b, nI k)) (fwG S) (fun _ b => b < 64) (ups S) 64 (ups_lt S) ?_ ?_
  · intro k b hk' hb
    refine ⟨?_, fwG_lt hk' hb⟩
    have q1 := pc_le k
    have q2 := pc_le b
    have key : ∀ s : Int32, zf_54_J102 (nI (ups S)) (nI b) (nI k) s M = some (.inl (nI (@ite _ ((k &&& ups S = k ∧ s ≠ 0) ∧ cfb S k = true) (Classical.propDecidable _) k b), nI (k + 1))) := by
      intro s
      unfold zf_54_J102 zf_54_J128
      rw [nI_1]
      simp only [jn_sub0 (l64 hk') (l64 (ups_lt S))]
      by_cases c : k &&& ups S = k
      · rw [if_pos c]
        by_cases c2 : s = 0
        · rw [if_pos c2, if_neg (fun z => z.1.2 c2)]
        · rw [if_neg c2, jc_can hk hk' c, Option.bind_some]
          cases c3 : cfb S k
          · rw [jb_no, if_neg (fun z => by simp at z)]
          · rw [jb_yes, if_pos ⟨⟨c, c2⟩, rfl⟩]
      · rw [if_neg c, if_neg (fun z => c z.1.1)]
    unfold zf_54_H80
    dsimp only
    rw [if_pos (show nI k < 64 from nI_lt (b := 64) hk' (by decide)), jc_bits (by omega), jc_bits (by omega), key, key]
    simp only [jn_lt (show pc k < 2 ^ 31 by omega) (show pc b < 2 ^ 31 by omega)]
    unfold fwG
    by_cases c : pc k < pc b
    · rw [if_pos c]
      simp [c]
    · rw [if_neg c]
      simp [c]
  · rintro b hb rfl
    unfold zf_54_H80
    exact if_neg (by dsimp only; decide)
theorem jc_least {S : jSt} {M : jb_Mi} (hC : jC 4 S M) (hR : jR S) : ∃ M1, zf_54 M = some (nI (itf (fwG S) (ups S) 64), M1) ∧ ∀ a, a ≠ 71 → a ≠ 72 → M1 a = M a := by
  unfold zf_54
  rw [jc_ups hC hR, Option.bind_some]
  obtain ⟨x, h1, M1, rfl, h3⟩ := jb_inv (f := zf_54_H10 (nI (ups S))) (fun n s => ∃ k M', k + n = 6 ∧ s = (nI k, M') ∧ (∀ a, a ≠ 71 → a ≠ 72 → M' a = M a) ∧ ∀ i, i < k → uph S i = true → M' 71 i = nI (kn S true i) ∧ M' 72 i = nI (kn S false i)) (fun x => ∃ M1, x = (nI (itf (fwG S) (ups S) 64), M1) ∧ ∀ a, a ≠ 71 → a ≠ 72 → M1 a = M a) (by
    rintro n s ⟨k, M', hn, rfl, h1, h2⟩
    have hC' : jC 4 S M' := jC_of hC (fun a q1 q2 => h1 a (by omega) (by omega))
    unfold zf_54_H10
    dsimp only
    by_cases c : k < 6
    · left
      have fin : ∀ x y : Int32, (uph S k = true → x = nI (kn S true k) ∧ y = nI (kn S false k)) → ∃ (m : Nat) (t : Int32 × jb_Mi), m < n ∧ some (Sum.inl (nI (k + 1), jb_up (jb_up M' 71 k x) 72 k y)) = (some (.inl t) : Option ((Int32 × jb_Mi) ⊕ (Int32 × jb_Mi))) ∧ ∃ k' M', k' + m = 6 ∧ t = (nI k', M') ∧ (∀ a, a ≠ 71 → a ≠ 72 → M' a = M a) ∧ ∀ i, i < k' → uph S i = true → M' 71 i = nI (kn S true i) ∧ M' 72 i = nI (kn S false i) := by
        intro x y hxy
        refine ⟨n - 1, _, by omega, rfl, k + 1, _, by omega, rfl, ?_, ?_⟩
        · intro a q1 q2
          rw [jb_up_off q2, jb_up_off q1, h1 a q1 q2]
        · intro i hi hu
          rw [jb_up_off (show (71 : Nat) ≠ 72 by decide), jb_up_at, jb_up_at, jb_up_off (show (72 : Nat) ≠ 71 by decide)]
          by_cases e : i = k
          · subst e
            rw [if_pos ⟨rfl, rfl⟩, if_pos ⟨rfl, rfl⟩]
            exact hxy hu
          · rw [if_neg (fun z => e z.2), if_neg (fun z => e z.2)]
            exact h2 i (by omega) hu
      rw [if_pos (show nI k < 6 from nI_lt (b := 6) c (by decide)), jc_up hC' hR c, Option.bind_some]
      have e : decide (0 < S 0 k ∧ S 2 k < 9) = uph S k := rfl
      rw [e]
      have tail : ∀ x : Int32, zf_54_J42 (nI (ups S)) (nI k) (nI k) x M' = some (.inl (nI (k + 1), jb_up (jb_up M' 71 k x) 72 k (if uph S k = true then nI (kn S false k) else 0))) := by
        intro x
        have hC2 : jC 4 S (jb_up M' 71 k x) := jC_of hC' (fun a q1 q2 => jb_up_off (by omega))
        unfold zf_54_J42 zf_54_J69
        rw [jn_gd c (by decide), nI_clamp (by omega), jc_up hC2 hR c, Option.bind_some, e, jc_knock hC2 hR c (r := false) (by simp), Option.bind_some, jn_gd c (by decide), jn_gd c (by decide), nI_1]
        cases uph S k
        · rw [jb_no]; rfl
        · rw [jb_yes]; rfl
      rw [tail, jc_knock hC' hR c (r := true) (by simp), Option.bind_some, tail]
      cases cu : uph S k
      · rw [jb_no]
        exact fin _ _ (fun z => by rw [cu] at z; cases z)
      · rw [jb_yes]
        exact fin _ _ (fun _ => ⟨rfl, rfl⟩)
    · have e : k = 6 := by omega
      subst e
      right
      refine ⟨_, ?_, M', rfl, h1⟩
      rw [if_neg (by decide), jc_fw (S := S) (M := M') h2]
      rfl) 6 (nI 0, M) ⟨0, M, by omega, rfl, fun _ _ _ => rfl, fun i hi => by omega⟩
  exact ⟨M1, h1, h3⟩
theorem jd_fel {S : jSt} {M : jb_Mi} (hD : jD 80 S M) (hR : jR S) {p r : Nat} (hp : p < 64) (hr : r < 64) : zf_254 (nI p) (nI r) M = some (decide (fel S p r = ups S)) := by
  unfold zf_254
  refine jb_itp (f := zf_254_H5 (nI p) (nI r) M) (fun (b : Nat) k => (nI b, nI k)) (felG S p r) (fun _ b => b < 64) 0 6 (by decide) ?_ ?_
  · intro k b hk hb
    have hlt : felG S p r k b < 64 := by
      unfold felG
      split
      · exact or64 hb (kn_lt hk)
      · exact hb
    refine ⟨?_, hlt⟩
    unfold zf_254_H5 zf_254_J36 felG
    dsimp only
    rw [if_pos (show nI k < 6 from nI_lt (b := 6) hk (by decide)), jn_has (l64 hp) (by omega), jn_has (l64 hr) (by omega), nI_1, jd_knock hD hR hk (r := r.testBit k) (jn_b _), Option.bind_some, jn_or]
    cases c : p.testBit k
    · rw [jb_no]; simp
    · rw [jb_yes]; simp
  · rintro b hb rfl
    unfold zf_254_H5
    refine (if_neg (by dsimp only; decide)).trans ?_
    rw [jd_ups hD hR, Option.bind_some]
    dsimp only
    simp only [jn_eq (l64 hb) (l64 (ups_lt S))]
    have e : itf (felG S p r) 0 6 = fel S p r := rfl
    rw [e]
    by_cases c : fel S p r = ups S
    · rw [if_pos c, decide_eq_true c]
    · rw [if_neg c, decide_eq_false c]
theorem jd_can {S : jSt} {M : jb_Mi} (hD : jD 80 S M) (hR : jR S) {p b : Nat} (hp : p < 64) (x1 x2 : Int32) : zf_255_J70 x1 x2 (nI b) (nI p) M = some (.inl (nI (if cfb S p = true then p else b), nI (p + 1))) := by
  unfold zf_255_J70
  obtain ⟨x, h1, h2⟩ := jb_inv (f := zf_255_H76 x1 x2 (nI b) (nI p) M) (fun n s => (∃ r, r + n = 65 ∧ s = (0, nI r) ∧ ∀ r', r' < r → ¬ (r' &&& p = r' ∧ fel S p r' = ups S)) ∨ (∃ r, n = 0 ∧ s = (1, nI r) ∧ cfb S p = true)) (fun x => x = .inl (nI (if cfb S p = true then p else b), nI (p + 1))) (by
    rintro n s (⟨r, hn, rfl, hr⟩ | ⟨r, rfl, rfl, hc⟩)
    · unfold zf_255_H76 zf_255_J113 zf_255_J114 zf_255_J122 zf_255_J130
      dsimp only
      by_cases c : r < 64
      · rw [if_pos (show nI r < 64 from nI_lt (b := 64) c (by decide)), if_pos rfl, jd_fel hD hR hp c, Option.bind_some, nI_1]
        simp only [jn_sub0 (l64 c) (l64 hp)]
        by_cases c2 : r &&& p = r ∧ fel S p r = ups S
        · refine Or.inl ⟨0, (1, nI (r + 1)), by omega, ?_, Or.inr ⟨r + 1, rfl, rfl, (cfb_iff S p).mpr ⟨r, c, c2⟩⟩⟩
          rw [if_pos c2.1, decide_eq_true c2.2, jb_yes]
        · refine Or.inl ⟨n - 1, (0, nI (r + 1)), by omega, ?_, Or.inl ⟨r + 1, by omega, rfl, ?_⟩⟩
          · by_cases c3 : r &&& p = r
            · rw [if_pos c3, decide_eq_false (fun z => c2 ⟨c3, z⟩), jb_no]
            · rw [if_neg c3]
          · intro r' h'
            by_cases e : r' = r
            · rw [e]; exact c2
            · exact hr r' (by omega)
      · have hc : cfb S p = false := by
          cases e : cfb S p
          · rfl
          · obtain ⟨r', q1, q2⟩ := (cfb_iff S p).mp e
            exact absurd q2 (hr r' (by omega))
        refine Or.inr ⟨_, ?_, rfl⟩
        rw [if_neg (show ¬ nI r < 64 from nI_nlt (b := 64) (by omega) (by omega)), if_pos rfl, hc, nI_1]
        rfl
    · unfold zf_255_H76 zf_255_J122 zf_255_J130
      dsimp only
      refine Or.inr ⟨_, ?_, rfl⟩
      rw [hc, nI_1, if_neg (show ¬ (1 : Int32) = 0 by decide), if_neg (show ¬ (1 : Int32) = 0 by decide)]
      split <;> rfl) 65 (0, nI 0) (Or.inl ⟨0, by omega, rfl, fun r' h => by omega⟩)
  rw [show ((0 : Int32), (0 : Int32)) = (0, nI 0) from rfl, h1, h2]
theorem jd_fw {S : jSt} {M : jb_Mi} (hD : jD 80 S M) (hR : jR S) (x1 : Int32) : jb_lp (zf_255_H21 x1 (nI (ups S)) M) (nI (ups S), 0) = some (if x1 = 0 then nI (pc (itf (fwG S) (ups S) 64)) else nI (itf (fwG S) (ups S) 64)) := by
  refine jb_itp (f := zf_255_H21 x1 (nI (ups S)) M) (fun (b : Nat) k => (nI b, nI k)) (fwG S) (fun k b => b < 64 ∧ (b = ups S ∨ b < k)) (ups S) 64 ⟨ups_lt S, Or.inl rfl⟩ ?_ ?_
  · intro k b hk ⟨hb, hb2⟩
    refine ⟨?_, fwG_lt hk hb, ?_⟩
    · have q1 := pc_le k
      have q2 := pc_le b
      unfold zf_255_H21
      dsimp only
      rw [if_pos (show nI k < 64 from nI_lt (b := 64) hk (by decide)), jd_bits (l64 hk), jd_bits (l64 hb)]
      simp only [Option.bind_some, jd_can hD hR hk, jn_sub0 (l64 hk) (l64 (ups_lt S)), jn_lt (show pc b < 2 ^ 31 by omega) (show pc k < 2 ^ 31 by omega), jn_eq (show pc k < 2 ^ 31 by omega) (show pc b < 2 ^ 31 by omega), jn_lt (l64 hk) (l64 hb)]
      unfold zf_255_J130
      rw [nI_1]
      by_cases c : k &&& ups S = k
      · rw [if_pos c]
        have hne : pc k = pc b → ¬ k < b := by
          intro e hlt
          rcases hb2 with rfl | h
          · have := sb_pc k hk (ups S) (ups_lt S) (and_or64 k hk _ (ups_lt S) c) (by omega)
            omega
          · omega
        by_cases c2 : pc b < pc k
        · rw [if_pos c2]
          unfold fwG
          rw [if_neg (fun z => by omega)]
        · rw [if_neg c2]
          by_cases c3 : pc k = pc b
          · rw [if_pos c3, if_neg (hne c3)]
            unfold fwG
            rw [if_neg (fun z => by omega)]
          · rw [if_neg c3]
            unfold fwG
            cases c4 : cfb S k
            · rw [if_neg (by decide), if_neg (fun z => by simp at z)]
            · rw [if_pos rfl, if_pos ⟨⟨c, by omega⟩, rfl⟩]
      · rw [if_neg c]
        unfold fwG
        rw [if_neg (fun z => c z.1.1)]
    · unfold fwG
      split
      · exact Or.inr (by omega)
      · omega
  · rintro b ⟨hb, -⟩ rfl
    unfold zf_255_H21
    refine (if_neg (by dsimp only; decide)).trans ?_
    rw [jd_bits (l64 hb), Option.bind_some]
    split <;> rfl
theorem ca_fewest {n : Nat} {M : jb_Mi} {N : jb_Ml} (hn : n < 512) (h : jInv n M N) (a1 : Int32) : ∃ (r : Int32) (M1 : jb_Mi), zf_151 a1 M = some (r, M1) ∧ M1 0 = M 0 ∧ zf_255 a1 M1 = some r ∧ jInv (n + 1) M1 N := by
  obtain ⟨⟨S, hC, hD, hR, hT⟩, -⟩ := id h
  unfold zf_151 zf_255
  simp only [jn_b, jn_w]
  by_cases c : zf_23 a1 0 1 = false
  · exact ⟨_, M, if_pos c, rfl, if_pos c, jInv_mono h⟩
  obtain ⟨w, hw, rfl⟩ := jn_in (x := a1) 1 (by decide) c
  obtain ⟨M1, k1, k2⟩ := jc_least hC hR
  have hD1 : jD 80 S M1 := jD_of hD (k2 80 (by decide) (by decide))
  have hlt : itf (fwG S) (ups S) 64 < 64 := by
    have : ∀ n, n ≤ 64 → itf (fwG S) (ups S) n < 64 := by
      intro n
      induction n with
      | zero => intro _; exact ups_lt S
      | succ n ih => intro hn; exact fwG_lt (by omega) (ih (by omega))
    exact this 64 (by decide)
  refine ⟨if nI w = 0 then nI (pc (itf (fwG S) (ups S) 64)) else nI (itf (fwG S) (ups S) 64), M1, ?_, k2 0 (by decide) (by decide), ?_, jInv_off h (fun a ha => k2 a (by unfold jfix jrel at ha; omega) (by unfold jfix jrel at ha; omega))⟩
  · rw [if_neg c, k1, Option.bind_some]
    dsimp only
    rw [jc_bits (by omega)]
    rcases (show w = 0 ∨ w = 1 by omega) with rfl | rfl
    · rfl
    · rfl
  · rw [if_neg c, jd_ups hD1 hR, Option.bind_some, jd_fw hD1 hR]
