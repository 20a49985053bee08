/-! sets of houses as bits; who knocks over whom -/
def sb (a b : Nat) : Prop := a ||| b = b
theorem sb_refl (a : Nat) : sb a a := Nat.or_self a
theorem sb_trans {a b c : Nat} (h1 : sb a b) (h2 : sb b c) : sb a c := by
  unfold sb at *
  rw [← h2, ← Nat.or_assoc, h1]
theorem sb_l (a b : Nat) : sb a (a ||| b) := by
  unfold sb
  rw [← Nat.or_assoc, Nat.or_self]
theorem sb_or {a b c : Nat} (h1 : sb a c) (h2 : sb b c) : sb (a ||| b) c := by
  unfold sb at *
  rw [Nat.or_assoc, h2, h1]
theorem sb_anti {a b : Nat} (h1 : sb a b) (h2 : sb b a) : a = b := by
  unfold sb at *
  rw [← h2, Nat.or_comm, h1]
theorem sb_bit {a b k : Nat} (h : sb a b) (ha : a.testBit k = true) : b.testBit k = true := by
  unfold sb at h
  rw [← h, Nat.testBit_or, ha, Bool.true_or]
theorem sb_le {a b : Nat} (h : sb a b) : a ≤ b := by
  unfold sb at h
  rw [← h]
  exact Nat.left_le_or
theorem or64 {a b : Nat} (ha : a < 64) (hb : b < 64) : a ||| b < 64 := Nat.or_lt_two_pow (n := 6) ha hb
theorem p2_64 {k : Nat} (h : k < 6) : 2 ^ k < 64 := Nat.pow_lt_pow_right (a := 2) (by decide) h
theorem sb_pc : ∀ a, a < 64 → ∀ b, b < 64 → a ||| b = b → a ≠ b → pc a < pc b := by decide +kernel
theorem pc_6 : ∀ a, a < 64 → pc a ≤ 6 := by decide +kernel
theorem pc_1 : ∀ k, k < 6 → pc (2 ^ k) = 1 := by decide +kernel
/-- a knocks over b -/
def kE (S : jSt) (r : Bool) (a b : Nat) : Bool := decide ((0 < S 0 b ∧ S 2 b < 9) ∧ (if r = true then S 1 a < S 1 b ∧ S 1 b - S 1 a ≤ 3 * S 0 a else S 1 b < S 1 a ∧ S 1 a - S 1 b ≤ 3 * S 0 a))
def kAG (S : jSt) (r : Bool) (a b m : Nat) : Nat := if kE S r a b = true then m ||| 2 ^ b else m
def kA (S : jSt) (r : Bool) (a : Nat) : Nat := itf (kAG S r a) 0 6
theorem kA_from (S : jSt) (r : Bool) (a m : Nat) : ∀ n, itf (kAG S r a) m n = m ||| itf (kAG S r a) 0 n
  | 0 => (Nat.or_zero m).symm
  | n + 1 => by
    simp only [itf]
    rw [kA_from S r a m n]
    unfold kAG
    split
    · rw [Nat.or_assoc]
    · rfl
theorem kAG_lt {S : jSt} {r : Bool} {a m : Nat} (hm : m < 64) : ∀ n, n ≤ 6 → itf (kAG S r a) m n < 64
  | 0, _ => hm
  | n + 1, h => by
    have i := kAG_lt (S := S) (r := r) (a := a) hm n (by omega)
    simp only [itf]
    unfold kAG at i ⊢
    split
    · exact or64 i (p2_64 (by omega))
    · exact i
theorem kA_lt (S : jSt) (r : Bool) (a : Nat) : kA S r a < 64 := kAG_lt (by decide) 6 (by decide)
theorem i_sub {a b : Nat} (ha : a < 2 ^ 30) (hb : b < 2 ^ 30) : (nI a - nI b).toInt = (a : Int) - b := pk_sub_toInt ha hb
theorem i_neg_sub {a b : Nat} : -(nI a - nI b) = nI b - nI a := by
  rw [Int32.neg_sub]
theorem i_gt0 {a b : Nat} (ha : a < 2 ^ 30) (hb : b < 2 ^ 30) : ((0 : Int32) < nI a - nI b) = (b < a) := by
  apply propext
  rw [fa_ltx, i_sub ha hb, show (0 : Int32).toInt = 0 from by decide]
  omega
theorem i_gtn {a b c : Nat} (ha : a < 2 ^ 30) (hb : b < 2 ^ 30) (hc : c < 2 ^ 30) : (nI c < nI a - nI b) = (c + b < a) := by
  apply propext
  rw [fa_ltx, i_sub ha hb, nI_toInt (by omega)]
  omega
theorem jc_reach {S : jSt} {M : jb_Mi} (hC : jC 4 S M) (hR : jR S) {a : Nat} (ha : a < 6) {r : Bool} {x2 : Int32} (hx : (x2 = 0) = (r = false)) : zf_49 (nI a) x2 M = some (nI (kA S r a)) := by
  unfold zf_49
  have h1 := hC.1 a ha
  have h2 := hR.1 a ha
  refine jb_it (f := zf_49_H5 (nI a) x2 M) (fun (m : Nat) k => (nI m, nI k)) (kAG S r a) 0 6 ?_ ?_
  · intro k m hk
    have g1 := hC.1 k hk
    have g2 := hR.1 k hk
    unfold zf_49_H5
    dsimp only
    rw [if_pos (show nI k < 6 from nI_lt (b := 6) hk (by decide)), jn_gd hk (by decide), jn_gd ha (by decide), nI_clamp (by omega), nI_clamp (by omega), show M 6 k = nI (S 1 k) from g1.2.1, show M 6 a = nI (S 1 a) from h1.2.1]
    have key : ∀ p q, p < 100 → q < 100 → zf_49_J46 (nI a) x2 (nI m) (nI k) (nI p - nI q) M = some (.inl (nI (if (0 < S 0 k ∧ S 2 k < 9) ∧ (q < p ∧ p - q ≤ 3 * S 0 a) then m ||| 2 ^ k else m), nI (k + 1))) := by
      intro p q hp hq
      unfold zf_49_J46 zf_49_J88
      rw [jc_up hC hR hk, Option.bind_some, jn_gd ha (by decide), nI_clamp (by omega), show M 5 a = nI (S 0 a) from h1.1, show (3 : Int32) * nI (S 0 a) = nI (3 * S 0 a) from jn_mull 3 _, jn_shl k (by omega), jn_or, nI_1]
      simp only [i_gt0 (show p < 2 ^ 30 by omega) (show q < 2 ^ 30 by omega), i_gtn (show p < 2 ^ 30 by omega) (show q < 2 ^ 30 by omega) (show 3 * S 0 a < 2 ^ 30 by omega)]
      by_cases c : 0 < S 0 k ∧ S 2 k < 9
      · simp only [c, and_self, decide_true, jb_yes, true_and]
        by_cases c2 : q < p
        · simp only [c2, if_true, true_and]
          by_cases c3 : 3 * S 0 a + q < p
          · rw [if_pos c3, if_neg (by omega)]
          · rw [if_neg c3, if_pos (by omega)]
        · simp only [c2, if_false, false_and]
      · simp only [c, decide_false, jb_no, false_and, if_false]
    cases r
    · rw [if_pos (by rw [hx]), i_neg_sub, key _ _ (by omega) (by omega)]
      simp only [kAG, kE, decide_eq_true_eq, Bool.false_eq_true, if_false]
    · rw [if_neg (by rw [hx]; simp), key _ _ (by omega) (by omega)]
      simp only [kAG, kE, decide_eq_true_eq, if_true]
  · unfold zf_49_H5
    refine (if_neg (by dsimp only; decide)).trans ?_
    rfl
/-- one round in place, one at once -/
def kPG (S : jSt) (r : Bool) (a m : Nat) : Nat := if m.testBit a = true then m ||| kA S r a else m
def kP (S : jSt) (r : Bool) (m : Nat) : Nat := itf (kPG S r) m 6
def kQG (S : jSt) (r : Bool) (b a m : Nat) : Nat := if b.testBit a = true then m ||| kA S r a else m
def kQ (S : jSt) (r : Bool) (m : Nat) : Nat := itf (kQG S r m) m 6
def kC (S : jSt) (r : Bool) (i n : Nat) : Nat := itf (fun _ m => kP S r m) (2 ^ i) n
def clo (S : jSt) (r : Bool) (m : Nat) : Prop := ∀ a, a < 6 → m.testBit a = true → sb (kA S r a) m
theorem kPG_lt {S : jSt} {r : Bool} {m : Nat} (hm : m < 64) : ∀ n, itf (kPG S r) m n < 64
  | 0 => hm
  | n + 1 => by
    have i := kPG_lt (S := S) (r := r) hm n
    simp only [itf]
    unfold kPG at i ⊢
    split
    · exact or64 i (kA_lt S r n)
    · exact i
theorem kP_lt {S : jSt} {r : Bool} {m : Nat} (hm : m < 64) : kP S r m < 64 := kPG_lt hm 6
theorem kQG_lt {S : jSt} {r : Bool} {b m : Nat} (hm : m < 64) : ∀ n, itf (kQG S r b) m n < 64
  | 0 => hm
  | n + 1 => by
    have i := kQG_lt (S := S) (r := r) (b := b) hm n
    simp only [itf]
    unfold kQG at i ⊢
    split
    · exact or64 i (kA_lt S r n)
    · exact i
theorem kPG_up (S : jSt) (r : Bool) (m : Nat) : ∀ n, sb m (itf (kPG S r) m n)
  | 0 => sb_refl m
  | n + 1 => by
    have i := kPG_up S r m n
    simp only [itf]
    refine sb_trans i ?_
    unfold kPG
    split
    · exact sb_l _ _
    · exact sb_refl _
theorem kPG_in {S : jSt} {r : Bool} {m t : Nat} (hm : sb m t) (ht : clo S r t) : ∀ n, n ≤ 6 → sb (itf (kPG S r) m n) t
  | 0, _ => hm
  | n + 1, h => by
    have i := kPG_in hm ht n (by omega)
    simp only [itf]
    generalize itf (kPG S r) m n = z at i
    unfold kPG
    split
    · rename_i c; exact sb_or i (ht n (by omega) (sb_bit i c))
    · exact i
theorem kQG_up (S : jSt) (r : Bool) (b m : Nat) : ∀ n, sb m (itf (kQG S r b) m n)
  | 0 => sb_refl m
  | n + 1 => by
    have i := kQG_up S r b m n
    simp only [itf]
    refine sb_trans i ?_
    unfold kQG
    split
    · exact sb_l _ _
    · exact sb_refl _
theorem kQG_in {S : jSt} {r : Bool} {b m t : Nat} (hb : sb b t) (hm : sb m t) (ht : clo S r t) : ∀ n, n ≤ 6 → sb (itf (kQG S r b) m n) t
  | 0, _ => hm
  | n + 1, h => by
    have i := kQG_in hb hm ht n (by omega)
    simp only [itf]
    generalize itf (kQG S r b) m n = z at i
    unfold kQG
    split
    · rename_i c; exact sb_or i (ht n (by omega) (sb_bit hb c))
    · exact i
/-- what stays in a round is closed -/
theorem kP_clo {S : jSt} {r : Bool} {m : Nat} (h : kP S r m = m) : clo S r m := by
  have hst : ∀ n, n ≤ 6 → itf (kPG S r) m n = m := by
    have h1 : ∀ d n, n + d = 6 → sb (itf (kPG S r) m n) (kP S r m) := by
      intro d
      induction d with
      | zero => intro n hn; have e : n = 6 := by omega
                subst e; exact sb_refl _
      | succ d ih =>
        intro n hn
        refine sb_trans ?_ (ih (n + 1) (by omega))
        simp only [itf]
        unfold kPG
        split
        · exact sb_l _ _
        · exact sb_refl _
    intro n hn
    have h2 := h1 (6 - n) n (by omega)
    rw [h] at h2
    exact sb_anti h2 (kPG_up S r m n)
  intro a ha hb
  have e1 := hst (a + 1) (by omega)
  simp only [itf] at e1
  rw [hst a (by omega)] at e1
  unfold kPG at e1
  rw [if_pos hb] at e1
  have := sb_l (kA S r a) m
  rw [Nat.or_comm, e1] at this
  exact this
theorem kQ_clo {S : jSt} {r : Bool} {m : Nat} (h : kQ S r m = m) : clo S r m := by
  intro a ha hb
  have h1 : ∀ d n, n + d = 6 → sb (itf (kQG S r m) m n) (kQ S r m) := by
    intro d
    induction d with
    | zero => intro n hn; have e : n = 6 := by omega
              subst e; exact sb_refl _
    | succ d ih =>
      intro n hn
      refine sb_trans ?_ (ih (n + 1) (by omega))
      simp only [itf]
      unfold kQG
      split
      · exact sb_l _ _
      · exact sb_refl _
  have h2 := h1 (6 - (a + 1)) (a + 1) (by omega)
  rw [h] at h2
  refine sb_trans ?_ h2
  simp only [itf]
  unfold kQG
  rw [if_pos hb, Nat.or_comm]
  exact sb_l _ _
theorem kC_lt {S : jSt} {r : Bool} {i : Nat} (hi : i < 6) : ∀ n, kC S r i n < 64
  | 0 => p2_64 hi
  | n + 1 => kP_lt (kC_lt hi n)
theorem kC_up (S : jSt) (r : Bool) (i : Nat) : ∀ n, sb (2 ^ i) (kC S r i n)
  | 0 => sb_refl _
  | n + 1 => sb_trans (kC_up S r i n) (kPG_up S r _ 6)
theorem kC_in {S : jSt} {r : Bool} {i t : Nat} (h : sb (2 ^ i) t) (ht : clo S r t) : ∀ n, sb (kC S r i n) t
  | 0 => h
  | n + 1 => kPG_in (kC_in h ht n) ht 6 (by decide)
theorem kC_grow {S : jSt} {r : Bool} {i : Nat} (hi : i < 6) : ∀ n, kP S r (kC S r i n) = kC S r i n ∨ n + 1 ≤ pc (kC S r i n)
  | 0 => Or.inr (Nat.le_of_eq (pc_1 i hi).symm)
  | n + 1 => by
    have e : kC S r i (n + 1) = kP S r (kC S r i n) := rfl
    rcases kC_grow hi n with h | h
    · exact Or.inl (by rw [e, h, h])
    · by_cases c : kP S r (kC S r i n) = kC S r i n
      · exact Or.inl (by rw [e, c, c])
      · refine Or.inr ?_
        have := sb_pc _ (kC_lt hi n) _ (kP_lt (kC_lt hi n)) (kPG_up S r (kC S r i n) 6) (fun z => c z.symm)
        rw [e]
        omega
/-- those that a house knocks over -/
def kn (S : jSt) (r : Bool) (i : Nat) : Nat := kC S r i 6
theorem kn_lt {S : jSt} {r : Bool} {i : Nat} (hi : i < 6) : kn S r i < 64 := kC_lt hi 6
theorem kn_clo {S : jSt} {r : Bool} {i : Nat} (hi : i < 6) : clo S r (kn S r i) := by
  apply kP_clo
  rcases kC_grow (S := S) (r := r) hi 6 with h | h
  · exact h
  · have := pc_6 _ (kC_lt (S := S) (r := r) hi 6)
    omega
theorem jc_knock {S : jSt} {M : jb_Mi} (hC : jC 4 S M) (hR : jR S) {i : Nat} (hi : i < 6) {r : Bool} {x2 : Int32} (hx : (x2 = 0) = (r = false)) : zf_50 (nI i) x2 M = some (nI (kn S r i)) := by
  unfold zf_50
  rw [jn_shl i (by omega)]
  have l64 : ∀ m, m < 64 → m < 2 ^ 31 := fun m h => by omega
  refine jb_itp (f := zf_50_H7 x2 M) (fun (m : Nat) k => (nI m, nI k)) (fun _ m => kP S r m) (fun _ m => m < 64) (2 ^ i) 6 (p2_64 hi) ?_ ?_
  · intro k m hk hm
    refine ⟨?_, kP_lt hm⟩
    unfold zf_50_H7
    dsimp only
    rw [if_pos (show nI k < 6 from nI_lt (b := 6) hk (by decide))]
    refine jb_itp (f := zf_50_H17 x2 (nI k) M) (fun (m : Nat) a => (nI m, nI a)) (kPG S r) (fun _ m => m < 64) m 6 hm ?_ ?_
    · intro a m ha hm
      unfold zf_50_H17 zf_50_J43 kPG
      dsimp only
      rw [if_pos (show nI a < 6 from nI_lt (b := 6) ha (by decide)), jc_reach hC hR ha hx, Option.bind_some, jn_or, nI_1]
      simp only [jn_bit0 (l64 m hm) (show a < 32 by omega)]
      cases c : m.testBit a
      · exact ⟨rfl, by simpa using hm⟩
      · exact ⟨rfl, by simpa using or64 hm (kA_lt S r a)⟩
    · rintro b hb rfl
      unfold zf_50_H17
      refine (if_neg (by dsimp only; decide)).trans ?_
      rw [nI_1]
      rfl
  · rintro b hb rfl
    unfold zf_50_H7
    refine (if_neg (by dsimp only; decide)).trans ?_
    rfl
theorem jd_knock {S : jSt} {M : jb_Mi} (hD : jD 80 S M) (hR : jR S) {i : Nat} (hi : i < 6) {r : Bool} {x2 : Int32} (hx : (x2 = 0) = (r = false)) : zf_251 (nI i) x2 M = some (nI (kn S r i)) := by
  unfold zf_251
  rw [jn_shl i (by omega)]
  have l64 : ∀ m, m < 64 → m < 2 ^ 31 := fun m h => by omega
  have inner : ∀ (b a m : Nat), a < 6 → m < 64 → jb_lp (zf_251_H42 x2 (nI b) (nI a) M) (nI m, 0) = some (.inl (nI (m ||| kA S r a), nI (a + 1))) := by
    intro b a m ha hm
    have h1 := hD.1 a ha
    have h2 := hR.1 a ha
    refine jb_it (f := zf_251_H42 x2 (nI b) (nI a) M) (fun (m : Nat) k => (nI m, nI k)) (kAG S r a) m 6 ?_ ?_
    · intro k m hk
      have g1 := hD.1 k hk
      have g2 := hR.1 k hk
      have key : ∀ p q, p < 100 → q < 100 → zf_251_J98 x2 (nI m) (nI b) (nI a) (nI k) (nI p - nI q) M = some (.inl (nI (if (0 < S 0 k ∧ S 2 k < 9) ∧ (q < p ∧ p - q ≤ 3 * S 0 a) then m ||| 2 ^ k else m), nI (k + 1))) := by
        intro p q hp hq
        have w : zf_164 (nI p - nI q) 1 (nI (3 * S 0 a)) = decide (q < p ∧ p - q ≤ 3 * S 0 a) := by
          unfold zf_164
          have w1 : ((nI p - nI q) < 1) = ¬ (q < p) := by
            apply propext
            rw [fa_ltx, i_sub (by omega) (by omega), show (1 : Int32).toInt = 1 from by decide]
            omega
          simp only [w1, i_gtn (show p < 2 ^ 30 by omega) (show q < 2 ^ 30 by omega) (show 3 * S 0 a < 2 ^ 30 by omega)]
          by_cases c2 : q < p
          · by_cases c3 : 3 * S 0 a + q < p
            · simp [c2, c3, show ¬ (p - q ≤ 3 * S 0 a) by omega]
            · simp [c2, c3, show (p - q ≤ 3 * S 0 a) by omega]
          · simp [c2]
        unfold zf_251_J98 zf_251_J136
        rw [jd_up hD hR hk, Option.bind_some, show (0 : Int32) + nI a = nI (0 + a) from jn_addl 0 a, Nat.zero_add, jn_gd (show a < 149 by omega) (by decide), nI_clamp (by omega), h1.1, show (3 : Int32) * nI (S 0 a) = nI (3 * S 0 a) from jn_mull 3 _, w, jn_shl k (by omega), jn_or, nI_1]
        by_cases c : 0 < S 0 k ∧ S 2 k < 9
        · by_cases c2 : q < p ∧ p - q ≤ 3 * S 0 a
          · simp only [c, c2, and_self, decide_true, jb_yes, if_true]
          · simp only [c, c2, and_self, decide_true, decide_false, jb_yes, jb_no, if_false, and_false]
        · simp only [c, decide_false, jb_no, false_and, if_false]
      unfold zf_251_H42
      dsimp only
      rw [if_pos (show nI k < 6 from nI_lt (b := 6) hk (by decide)), show (6 : Int32) + nI a = nI (6 + a) from jn_addl 6 a, show (6 : Int32) + nI k = nI (6 + k) from jn_addl 6 k, jn_gd (show 6 + a < 149 by omega) (by decide), jn_gd (show 6 + k < 149 by omega) (by decide), jn_gd (show 6 + k < 149 by omega) (by decide), jn_gd (show 6 + a < 149 by omega) (by decide), nI_clamp (by omega), nI_clamp (by omega), g1.2.1, h1.2.1]
      cases r
      · rw [if_pos (by rw [hx]), key _ _ (by omega) (by omega)]
        simp only [kAG, kE, decide_eq_true_eq, Bool.false_eq_true, if_false]
      · rw [if_neg (by rw [hx]; simp), key _ _ (by omega) (by omega)]
        simp only [kAG, kE, decide_eq_true_eq, if_true]
    · rw [kA_from]
      unfold zf_251_H42 zf_251_J142
      refine (if_neg (by dsimp only; decide)).trans ?_
      dsimp only
      rw [nI_1]
      rfl
  have outer : ∀ m, m < 64 → jb_lp (zf_251_H19 x2 (nI m) M) (nI m, 0) = some (.inl (nI (kQ S r m), nI m)) := by
    intro m hm
    refine jb_itp (f := zf_251_H19 x2 (nI m) M) (fun (z : Nat) k => (nI z, nI k)) (kQG S r m) (fun _ z => z < 64) m 6 hm ?_ ?_
    · intro a z ha hz
      unfold zf_251_H19 zf_251_J142 kQG
      dsimp only
      rw [if_pos (show nI a < 6 from nI_lt (b := 6) ha (by decide)), jn_has (l64 m hm) (by omega), inner m a z ha hz, nI_1]
      cases c : m.testBit a
      · exact ⟨by rw [jb_no]; rfl, by simpa using hz⟩
      · exact ⟨by rw [jb_yes]; rfl, by simpa using or64 hz (kA_lt S r a)⟩
    · rintro b hb rfl
      unfold zf_251_H19
      exact if_neg (by dsimp only; decide)
  have hk := kn_clo (S := S) (r := r) hi
  have hki : sb (2 ^ i) (kn S r i) := kC_up S r i 6
  have := jb_inv (f := zf_251_H7 x2 M) (fun n s => ∃ m b, s = (nI m, nI b) ∧ m < 64 ∧ b < 64 ∧ n = 64 - b ∧ sb (2 ^ i) m ∧ sb m (kn S r i) ∧ ((b = 0 ∧ m = 2 ^ i) ∨ (m = kQ S r b))) (fun x => x = nI (kn S r i)) ?_ 64 (nI (2 ^ i), nI 0) ⟨2 ^ i, 0, rfl, p2_64 hi, by decide, rfl, sb_refl _, hki, Or.inl ⟨rfl, rfl⟩⟩
  · obtain ⟨x, h1, h2⟩ := this
    rw [show ((0 : Int32)) = nI 0 from rfl, h1, h2]
  · rintro n s ⟨m, b, rfl, hm, hb, rfl, h1, h2, h3⟩
    have hp : 0 < 2 ^ i := Nat.pow_pos (by decide)
    unfold zf_251_H7
    dsimp only
    by_cases c : m = b
    · refine Or.inr ⟨nI m, if_pos (by rw [c]), ?_⟩
      rcases h3 with ⟨h3, h4⟩ | h3
      · omega
      · have cl : clo S r m := kQ_clo (by rw [c]; rw [c] at h3; exact h3.symm)
        rw [sb_anti h2 (kC_in h1 cl 6)]
    · refine Or.inl ⟨64 - m, _, ?_, (if_neg (fun e => c ((nI_eq (l64 m hm) (l64 b hb)).mp e))).trans (outer m hm), kQ S r m, m, rfl, kQG_lt hm 6, hm, rfl, sb_trans h1 (kQG_up S r m m 6), kQG_in h2 h2 hk 6 (by decide), Or.inr rfl⟩
      have : b ≤ m := by
        rcases h3 with ⟨h3, -⟩ | h3
        · omega
        · rw [h3]; exact sb_le (kQG_up S r b b 6)
      omega
theorem ca_knocked {n : Nat} {M : jb_Mi} {N : jb_Ml} (hn : n < 512) (h : jInv n M N) (a1 a2 : Int32) : ∃ (r : Int32), zf_150 a1 a2 M = some r ∧ zf_252 a1 a2 M = some r ∧ jInv (n + 1) M N := by
  obtain ⟨⟨S, hC, hD, hR, hT⟩, -⟩ := id h
  unfold zf_150 zf_252
  rcases jx_up hC hD hR a1 with ⟨e1, e2⟩ | ⟨i, hi, rfl, -, -, e1, e2⟩
  · exact ⟨_, by rw [e1]; rfl, by rw [e2]; rfl, jInv_mono h⟩
  · have hx : (a2 = 0) = ((!decide (a2 = 0)) = false) := by simp
    rw [e1, e2, jc_knock hC hR hi hx, jd_knock hD hR hi hx]
    exact ⟨_, rfl, rfl, jInv_mono h⟩
