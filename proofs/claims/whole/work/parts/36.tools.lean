/-! loops with a fold; loops in step; loops with an invariant -/
def itf {A : Type} (G : Nat → A → A) (a : A) : Nat → A
  | 0 => a
  | k + 1 => G k (itf G a k)
theorem jb_itp {A S X : Type} {f : S → Option (S ⊕ X)} (mk : A → Nat → S) (G : Nat → A → A) (P : Nat → A → Prop) (a : A) (n : Nat) {x : X} (h0 : P 0 a) (h : ∀ k a, k < n → P k a → f (mk a k) = some (.inl (mk (G k a) (k + 1))) ∧ P (k + 1) (G k a)) (hx : ∀ b, P n b → b = itf G a n → f (mk b n) = some (.inr x)) : jb_lp f (mk a 0) = some x := by
  have hP : ∀ k, k ≤ n → P k (itf G a k) := by
    intro k
    induction k with
    | zero => intro _; exact h0
    | succ k ih => intro hk; exact (h k _ (by omega) (ih (by omega))).2
  exact jb_forx (f := f) (fun k => mk (itf G a k) k) n (fun k hk => (h k _ hk (hP k (by omega))).1) (hx _ (hP n (Nat.le_refl n)) rfl)
theorem jb_it {A S X : Type} {f : S → Option (S ⊕ X)} (mk : A → Nat → S) (G : Nat → A → A) (a : A) (n : Nat) {x : X} (h : ∀ k a, k < n → f (mk a k) = some (.inl (mk (G k a) (k + 1)))) (hx : f (mk (itf G a n) n) = some (.inr x)) : jb_lp f (mk a 0) = some x :=
  jb_forx (f := f) (fun k => mk (itf G a k) k) n (fun k hk => h k _ hk) hx
theorem itf_congr {A : Type} {G H : Nat → A → A} (a : A) (n : Nat) (h : ∀ k a, k < n → G k a = H k a) : itf G a n = itf H a n := by
  induction n with
  | zero => rfl
  | succ n ih => simp only [itf]; rw [ih (fun k a hk => h k a (by omega)), h n _ (by omega)]
theorem jb_inv {S X : Type} {f : S → Option (S ⊕ X)} (R : Nat → S → Prop) (Q : X → Prop) (h : ∀ n s, R n s → (∃ m t, m < n ∧ f s = some (.inl t) ∧ R m t) ∨ ∃ x, f s = some (.inr x) ∧ Q x) : ∀ n s, R n s → ∃ x, jb_lp f s = some x ∧ Q x := by
  intro n
  induction n using Nat.strongRecOn with
  | ind n ih =>
    intro s hs
    rcases h n s hs with ⟨m, t, hm, e, ht⟩ | ⟨x, e, hq⟩
    · rw [jb_lp_inl e]; exact ih m hm t ht
    · exact ⟨x, jb_lp_inr e, hq⟩
theorem jb_rel {S S' X X' : Type} {f : S → Option (S ⊕ X)} {f' : S' → Option (S' ⊕ X')} (R : Nat → S → S' → Prop) (Q : X → X' → Prop) (h : ∀ n s s', R n s s' → (∃ m t t', m < n ∧ f s = some (.inl t) ∧ f' s' = some (.inl t') ∧ R m t t') ∨ (∃ x x', f s = some (.inr x) ∧ f' s' = some (.inr x') ∧ Q x x')) : ∀ n s s', R n s s' → ∃ x x', jb_lp f s = some x ∧ jb_lp f' s' = some x' ∧ Q x x' := by
  intro n
  induction n using Nat.strongRecOn with
  | ind n ih =>
    intro s s' hs
    rcases h n s s' hs with ⟨m, t, t', hm, e, e', ht⟩ | ⟨x, x', e, e', hq⟩
    · rw [jb_lp_inl e, jb_lp_inl e']; exact ih m hm t t' ht
    · exact ⟨x, x', jb_lp_inr e, jb_lp_inr e', hq⟩
theorem jb_is {α : Type} {c : Prop} [Decidable c] (a b : α) : (if c then some a else some b) = some (if c then a else b) := by split <;> rfl
theorem jn_min {a b : Nat} (ha : a < 2 ^ 31) (hb : b < 2 ^ 31) : zf_272 (nI a) (nI b) = nI (min a b) := by
  unfold zf_272
  simp only [jn_lt hb ha]
  split
  · rw [Nat.min_eq_right (by omega)]
  · rw [Nat.min_eq_left (by omega)]
theorem jn_max {a b : Nat} (ha : a < 2 ^ 31) (hb : b < 2 ^ 31) : zf_271 (nI a) (nI b) = nI (max a b) := by
  unfold zf_271
  simp only [jn_lt ha hb]
  split
  · rw [Nat.max_eq_right (by omega)]
  · rw [Nat.max_eq_left (by omega)]
theorem jn_min' {a b : Nat} (ha : a < 2 ^ 31) (hb : b < 2 ^ 31) : zf_165 (nI a) (nI b) = nI (min a b) := by
  unfold zf_165
  simp only [jn_lt ha hb]
  split
  · rw [Nat.min_eq_left (by omega)]
  · rw [Nat.min_eq_right (by omega)]
theorem jn_max' {a b : Nat} (ha : a < 2 ^ 31) (hb : b < 2 ^ 31) : zf_166 (nI a) (nI b) = nI (max a b) := by
  unfold zf_166
  simp only [jn_lt hb ha]
  split
  · rw [Nat.max_eq_left (by omega)]
  · rw [Nat.max_eq_right (by omega)]
theorem jx_home {S : jSt} {M : jb_Mi} (hD : jD 80 S M) (hR : jR S) {t i : Nat} (ht : t < 24) (hi : i < 2 ^ 31) : (M 80 (18 + t) = nI i) = (0 < S 6 t ∧ S 3 t = i) := by
  have h3 := hD.2.1 t ht
  have h4 := hR.2.1 t ht
  by_cases c1 : S 6 t = 0
  · rw [h3.1 c1, show ((-1 : Int32) = nI i) = False from eq_false (fun h => by rw [eq_comm, jn_m1 hi] at h; exact h)]
    simp [c1]
  · rw [(h3.2 c1).1, jn_eq (by omega) hi]
    have : 0 < S 6 t := by omega
    simp [this]
/-- things in a house: how many, their weights -/
noncomputable def thG (S : jSt) (i : Nat) (k : Nat) (a : Int32 × Int32) : Int32 × Int32 := if 0 < S 6 k ∧ S 3 k = i then (a.1 + 1, a.2 + nI (S 6 k)) else a
theorem jc_thingsIn {S : jSt} {M : jb_Mi} (hC : jC 4 S M) (hR : jR S) {i : Nat} (hi : i < 6) : zf_13 4 (nI i) M = some (itf (thG S i) (0, 0) 24).1 := by
  unfold zf_13
  refine Eq.trans (jb_it (f := zf_13_H4 4 (nI i) M) (fun (a : Int32) k => (a, nI k)) (fun k a => if 0 < S 6 k ∧ S 3 k = i then a + 1 else a) 0 24 (x := itf (fun k a => if 0 < S 6 k ∧ S 3 k = i then a + 1 else a) (0 : Int32) 24) ?_ ?_) ?_
  · intro k a hk
    unfold zf_13_H4 zf_13_J25
    dsimp only
    rw [jc_isIn hC hR hk (by omega)]
    simp (disch := omega) only [jn_ltl, jn_gtl, jn_lt, jn_eq, jn_eql, jn_eqr, jn_addl, jn_addr, nI_add, jn_gd, nI_clamp, jn_n0, jn_0n, jn_m1, jn_b, jn_clz, jn_mul, jn_mull, jn_mulr, jn_wl, if_true, if_false, Bool.true_eq_false, Bool.false_eq_true, hk, Option.bind_some]
    by_cases c : 0 < S 6 k ∧ S 3 k = i <;> simp [c]
  · unfold zf_13_H4
    exact if_neg (by dsimp only; decide)
  · congr 1
    have : ∀ n, (itf (thG S i) (0, 0) n).1 = itf (fun k a => if 0 < S 6 k ∧ S 3 k = i then a + 1 else a) (0 : Int32) n := by
      intro n
      induction n with
      | zero => rfl
      | succ n ih => simp only [itf]; rw [← ih]; unfold thG; split <;> rfl
    rw [this]
theorem jc_weightIn {S : jSt} {M : jb_Mi} (hC : jC 4 S M) (hR : jR S) {i : Nat} (hi : i < 6) : zf_107 4 (nI i) M = some (itf (thG S i) (0, 0) 24).2 := by
  unfold zf_107
  refine Eq.trans (jb_it (f := zf_107_H4 4 (nI i) M) (fun (a : Int32) k => (a, nI k)) (fun k a => if 0 < S 6 k ∧ S 3 k = i then a + nI (S 6 k) else a) 0 24 (x := itf (fun k a => if 0 < S 6 k ∧ S 3 k = i then a + nI (S 6 k) else a) (0 : Int32) 24) ?_ ?_) ?_
  · intro k a hk
    have h1 := hC.2.1 k hk
    unfold zf_107_H4 zf_107_J30
    dsimp only
    rw [jc_isIn hC hR hk (by omega)]
    simp (disch := omega) only [jn_ltl, jn_gtl, jn_lt, jn_eq, jn_eql, jn_eqr, jn_addl, jn_addr, nI_add, jn_gd, nI_clamp, jn_n0, jn_0n, jn_m1, jn_b, jn_clz, jn_mul, jn_mull, jn_mulr, jn_wl, if_true, if_false, Bool.true_eq_false, Bool.false_eq_true, hk, Option.bind_some, h1.2.2.2]
    by_cases c : 0 < S 6 k ∧ S 3 k = i <;> simp [c]
  · unfold zf_107_H4
    exact if_neg (by dsimp only; decide)
  · congr 1
    have : ∀ n, (itf (thG S i) (0, 0) n).2 = itf (fun k a => if 0 < S 6 k ∧ S 3 k = i then a + nI (S 6 k) else a) (0 : Int32) n := by
      intro n
      induction n with
      | zero => rfl
      | succ n ih => simp only [itf]; rw [← ih]; unfold thG; split <;> rfl
    rw [this]
/-- the greatest and the least of four -/
def mx4 (S : jSt) (i : Nat) : Nat := max (max (max (ld S i 0) (ld S i 1)) (ld S i 2)) (ld S i 3)
def mn4 (S : jSt) (i : Nat) : Nat := min (min (min (ld S i 0) (ld S i 1)) (ld S i 2)) (ld S i 3)
theorem jc_even {S : jSt} {M : jb_Mi} (hC : jC 4 S M) (hR : jR S) {i : Nat} (hi : i < 6) (hs : 0 < S 0 i) : zf_108 4 (nI i) M = some (nI (mx4 S i) - nI (mn4 S i)) := by
  have l : ∀ c, ld S i c ≤ 157824 := fun c => ld_le hR hi
  unfold zf_108
  rw [show zf_7 4 (nI i) 0 M = some (nI (ld S i 0)) from jc_load hC hR hi (c := 0) (by omega) hs, Option.bind_some]
  refine jb_itp (f := zf_108_H12 4 (nI i) M) (fun (a : Nat × Nat) k => (nI a.1, nI a.2, nI (k + 1))) (fun k a => (min a.1 (ld S i (k + 1)), max a.2 (ld S i (k + 1)))) (fun _ a => a.1 ≤ 157824 ∧ a.2 ≤ 157824) (ld S i 0, ld S i 0) 3 ⟨l 0, l 0⟩ ?_ ?_
  · intro k a hk ⟨p1, p2⟩
    have := l (k + 1)
    refine ⟨?_, by dsimp only; omega, by dsimp only; omega⟩
    unfold zf_108_H12
    dsimp only
    simp (disch := omega) only [jn_ltl, jn_gtl, jn_lt, jn_eq, jn_eql, jn_eqr, jn_addl, jn_addr, nI_add, jn_gd, nI_clamp, jn_n0, jn_0n, jn_m1, jn_b, jn_clz, jn_mul, jn_mull, jn_mulr, jn_wl, if_true, if_false, Bool.true_eq_false, Bool.false_eq_true]
    rw [if_pos (by omega), jc_load hC hR hi (by omega) hs, Option.bind_some]
    rw [jn_min (by omega) (by omega), jn_max (by omega) (by omega)]
  · rintro b ⟨p1, p2⟩ rfl
    unfold zf_108_H12
    refine (if_neg (by dsimp only; decide)).trans ?_
    rfl
theorem jd_even {S : jSt} {M : jb_Mi} (hD : jD 80 S M) (hR : jR S) {i : Nat} (hi : i < 6) : zf_233 (nI i) M = some (nI (mx4 S i) - nI (mn4 S i)) := by
  have l : ∀ c, ld S i c ≤ 157824 := fun c => ld_le hR hi
  unfold zf_233
  refine jb_itp (f := zf_233_H6 (nI i) M) (fun (a : Nat) k => (nI a, nI k)) (fun k a => min a (ld S i k)) (fun _ a => a ≤ 100000000) 100000000 4 (Nat.le_refl _) ?_ ?_
  · intro k a hk p
    have := l k
    refine ⟨?_, by omega⟩
    unfold zf_233_H6
    dsimp only
    simp (disch := omega) only [jn_ltl, jn_gtl, jn_lt, jn_eq, jn_eql, jn_eqr, jn_addl, jn_addr, nI_add, jn_gd, nI_clamp, jn_n0, jn_0n, jn_m1, jn_b, jn_clz, jn_mul, jn_mull, jn_mulr, jn_wl, if_true, if_false, Bool.true_eq_false, Bool.false_eq_true]
    rw [if_pos (by omega), jd_load hD hR hi (by omega), Option.bind_some, jn_min' (by omega) (by omega)]
  · rintro b p e
    have e2 : zf_232 (nI i) M = some (nI (mx4 S i)) := by
      unfold zf_232
      refine jb_itp (f := zf_232_H4 (nI i) M) (fun (a : Nat) k => (nI a, nI k)) (fun k a => max a (ld S i k)) (fun _ a => a ≤ 157824) 0 4 (Nat.zero_le _) ?_ ?_
      · intro k a hk p
        have := l k
        refine ⟨?_, by omega⟩
        unfold zf_232_H4
        dsimp only
        simp (disch := omega) only [jn_ltl, jn_gtl, jn_lt, jn_eq, jn_eql, jn_eqr, jn_addl, jn_addr, nI_add, jn_gd, nI_clamp, jn_n0, jn_0n, jn_m1, jn_b, jn_clz, jn_mul, jn_mull, jn_mulr, jn_wl, if_true, if_false, Bool.true_eq_false, Bool.false_eq_true]
        rw [if_pos (by omega), jd_load hD hR hi (by omega), Option.bind_some, jn_max' (by omega) (by omega)]
      · rintro b p e
        unfold zf_232_H4
        refine (if_neg (by dsimp only; decide)).trans ?_
        dsimp only
        rw [e]
        congr 3
    unfold zf_233_H6
    refine (if_neg (by dsimp only; decide)).trans ?_
    rw [e2, Option.bind_some]
    dsimp only
    rw [e]
    congr 4
    have l0 := l 0
    simp only [itf, mn4]
    rw [Nat.min_eq_right (a := 100000000) (by omega)]
theorem ca_houseIs {n : Nat} {M : jb_Mi} {N : jb_Ml} (hn : n < 512) (h : jInv n M N) (a1 a2 : Int32) : ∃ (r : Int32), zf_136 a1 a2 M = some r ∧ zf_234 a1 a2 M = some r ∧ jInv (n + 1) M N := by
  obtain ⟨⟨S, hC, hD, hR, hT⟩, -⟩ := id h
  unfold zf_136 zf_234
  rcases jx_house hC hD hR a1 with ⟨e1, e2⟩ | ⟨i, hi, rfl, hs, e1, e2⟩
  · exact ⟨_, by rw [e1]; rfl, by rw [e2]; rfl, jInv_mono h⟩
  · rw [e1, e2]
    have h1 := hC.1 i hi
    have h2 := hD.1 i hi
    simp (disch := omega) only [jn_ltl, jn_gtl, jn_lt, jn_eq, jn_eql, jn_eqr, jn_addl, jn_addr, nI_add, jn_gd, nI_clamp, jn_n0, jn_0n, jn_m1, jn_b, jn_clz, jn_mul, jn_mull, jn_mulr, jn_wl, if_true, if_false, Bool.true_eq_false, Bool.false_eq_true, Option.bind_some, jc_thingsIn hC hR hi, jc_weightIn hC hR hi, jc_even hC hR hi hs, h1.1, h1.2.1, h1.2.2, jb_is]
    refine ⟨_, rfl, ?_, jInv_mono h⟩
    refine jb_it (f := zf_234_H18 (nI i) a2 M) (fun (a : Int32 × Int32) k => (a.1, a.2, nI k)) (thG S i) (0, 0) 24 ?_ ?_
    · intro k a hk
      unfold zf_234_H18 zf_234_J61
      dsimp only
      have h3 := hD.2.1 k hk
      simp (disch := omega) only [jn_ltl, jn_gtl, jn_lt, jn_eq, jn_eql, jn_eqr, jn_addl, jn_addr, nI_add, jn_gd, nI_clamp, jn_n0, jn_0n, jn_m1, jn_b, jn_clz, jn_mul, jn_mull, jn_mulr, jn_wl, if_true, if_false, Bool.true_eq_false, Bool.false_eq_true, hk, jx_home hD hR hk (show i < 2 ^ 31 by omega)]
      by_cases c : 0 < S 6 k ∧ S 3 k = i
      · rw [(h3.2 (by omega)).2.2.2]
        simp [c, thG]
      · simp [c, thG]
    · unfold zf_234_H18
      refine (if_neg (by dsimp only; decide)).trans ?_
      simp (disch := omega) only [jn_ltl, jn_gtl, jn_lt, jn_eq, jn_eql, jn_eqr, jn_addl, jn_addr, nI_add, jn_gd, nI_clamp, jn_n0, jn_0n, jn_m1, jn_b, jn_clz, jn_mul, jn_mull, jn_mulr, jn_wl, if_true, if_false, Bool.true_eq_false, Bool.false_eq_true, Nat.zero_add, h2.1, h2.2.1, h2.2.2, jd_even hD hR hi, Option.bind_some]
      repeat' (first | rfl | split)
/-! bits of those that are told -/
noncomputable def btG (p : Nat → Prop) (k : Nat) (a : Int32) : Int32 := @ite _ (p k) (Classical.propDecidable _) (a ||| ((1 : Int32) <<< (nI k &&& 31))) a
theorem jn_or0 (a : Int32) : a ||| 0 = a := by simp
theorem jc_houseBits {S : jSt} {M : jb_Mi} (hC : jC 4 S M) (hR : jR S) : zf_105 4 M = some (itf (btG (fun k => 0 < S 0 k)) 0 6) := by
  unfold zf_105
  refine jb_it (f := zf_105_H4 4 M) (fun (a : Int32) k => (a, nI k)) (btG (fun k => 0 < S 0 k)) 0 6 ?_ ?_
  · intro k a hk
    unfold zf_105_H4 zf_105_J26
    dsimp only
    rw [jc_told hC hR hk]
    simp (disch := omega) only [jn_ltl, jn_gtl, jn_lt, jn_eq, jn_eql, jn_eqr, jn_addl, jn_addr, nI_add, jn_gd, nI_clamp, jn_n0, jn_0n, jn_m1, jn_b, jn_clz, jn_mul, jn_mull, jn_mulr, jn_wl, if_true, if_false, Bool.true_eq_false, Bool.false_eq_true, hk, Option.bind_some]
    by_cases c : 0 < S 0 k <;> simp [c, btG]
  · unfold zf_105_H4
    exact if_neg (by dsimp only; decide)
theorem jc_upBits {S : jSt} {M : jb_Mi} (hC : jC 4 S M) (hR : jR S) : zf_51 4 M = some (itf (btG (fun k => 0 < S 0 k ∧ S 2 k < 9)) 0 6) := by
  unfold zf_51
  refine jb_it (f := zf_51_H4 4 M) (fun (a : Int32) k => (a, nI k)) (btG (fun k => 0 < S 0 k ∧ S 2 k < 9)) 0 6 ?_ ?_
  · intro k a hk
    unfold zf_51_H4 zf_51_J26
    dsimp only
    rw [jc_up hC hR hk]
    simp (disch := omega) only [jn_ltl, jn_gtl, jn_lt, jn_eq, jn_eql, jn_eqr, jn_addl, jn_addr, nI_add, jn_gd, nI_clamp, jn_n0, jn_0n, jn_m1, jn_b, jn_clz, jn_mul, jn_mull, jn_mulr, jn_wl, if_true, if_false, Bool.true_eq_false, Bool.false_eq_true, hk, Option.bind_some]
    by_cases c : 0 < S 0 k ∧ S 2 k < 9 <;> simp [c, btG]
  · unfold zf_51_H4
    exact if_neg (by dsimp only; decide)
theorem jc_menBits {S : jSt} {M : jb_Mi} (hC : jC 4 S M) (hR : jR S) : zf_103 4 M = some (itf (btG (fun k => 0 < S 7 k)) 0 16) := by
  unfold zf_103
  refine jb_it (f := zf_103_H4 4 M) (fun (a : Int32) k => (a, nI k)) (btG (fun k => 0 < S 7 k)) 0 16 ?_ ?_
  · intro k a hk
    unfold zf_103_H4 zf_103_J26
    dsimp only
    rw [jc_man hC hR hk]
    simp (disch := omega) only [jn_ltl, jn_gtl, jn_lt, jn_eq, jn_eql, jn_eqr, jn_addl, jn_addr, nI_add, jn_gd, nI_clamp, jn_n0, jn_0n, jn_m1, jn_b, jn_clz, jn_mul, jn_mull, jn_mulr, jn_wl, if_true, if_false, Bool.true_eq_false, Bool.false_eq_true, hk, Option.bind_some]
    by_cases c : 0 < S 7 k <;> simp [c, btG]
  · unfold zf_103_H4
    exact if_neg (by dsimp only; decide)
theorem jd_upBits {S : jSt} {M : jb_Mi} (hD : jD 80 S M) (hR : jR S) : zf_253 M = some (itf (btG (fun k => 0 < S 0 k ∧ S 2 k < 9)) 0 6) := by
  unfold zf_253
  refine jb_it (f := zf_253_H4 M) (fun (a : Int32) k => (a, nI k)) (btG (fun k => 0 < S 0 k ∧ S 2 k < 9)) 0 6 ?_ ?_
  · intro k a hk
    unfold zf_253_H4 zf_253_J24
    dsimp only
    rw [jd_up hD hR hk]
    simp (disch := omega) only [jn_ltl, jn_gtl, jn_lt, jn_eq, jn_eql, jn_eqr, jn_addl, jn_addr, nI_add, jn_gd, nI_clamp, jn_n0, jn_0n, jn_m1, jn_b, jn_clz, jn_mul, jn_mull, jn_mulr, jn_wl, if_true, if_false, Bool.true_eq_false, Bool.false_eq_true, hk, Option.bind_some]
    by_cases c : 0 < S 0 k ∧ S 2 k < 9 <;> simp [c, btG]
  · unfold zf_253_H4
    exact if_neg (by dsimp only; decide)
theorem jd_menBits {S : jSt} {M : jb_Mi} (hD : jD 80 S M) (hR : jR S) : zf_257 M = some (itf (btG (fun k => 0 < S 7 k)) 0 16) := by
  unfold zf_257
  refine jb_it (f := zf_257_H4 M) (fun (a : Int32) k => (a, nI k)) (btG (fun k => 0 < S 7 k)) 0 16 ?_ ?_
  · intro k a hk
    unfold zf_257_H4 zf_257_J24
    dsimp only
    rw [jd_man hD hR hk]
    simp (disch := omega) only [jn_ltl, jn_gtl, jn_lt, jn_eq, jn_eql, jn_eqr, jn_addl, jn_addr, nI_add, jn_gd, nI_clamp, jn_n0, jn_0n, jn_m1, jn_b, jn_clz, jn_mul, jn_mull, jn_mulr, jn_wl, if_true, if_false, Bool.true_eq_false, Bool.false_eq_true, hk, Option.bind_some]
    by_cases c : 0 < S 7 k <;> simp [c, btG]
  · unfold zf_257_H4
    exact if_neg (by dsimp only; decide)
noncomputable def tcG (S : jSt) (k : Nat) (a : Int32) : Int32 := if 0 < S 6 k then a + 1 else a
theorem jc_things {S : jSt} {M : jb_Mi} (hC : jC 4 S M) (hR : jR S) : zf_106 4 M = some (itf (tcG S) 0 24) := by
  unfold zf_106
  refine jb_it (f := zf_106_H4 4 M) (fun (a : Int32) k => (a, nI k)) (tcG S) 0 24 ?_ ?_
  · intro k a hk
    unfold zf_106_H4 zf_106_J24
    dsimp only
    rw [jc_thing hC hR hk]
    simp (disch := omega) only [jn_ltl, jn_gtl, jn_lt, jn_eq, jn_eql, jn_eqr, jn_addl, jn_addr, nI_add, jn_gd, nI_clamp, jn_n0, jn_0n, jn_m1, jn_b, jn_clz, jn_mul, jn_mull, jn_mulr, jn_wl, if_true, if_false, Bool.true_eq_false, Bool.false_eq_true, hk, Option.bind_some]
    by_cases c : 0 < S 6 k <;> simp [c, tcG]
  · unfold zf_106_H4
    exact if_neg (by dsimp only; decide)
theorem ca_count {n : Nat} {M : jb_Mi} {N : jb_Ml} (hn : n < 512) (h : jInv n M N) (a1 : Int32) : ∃ (r : Int32), zf_162 a1 M = some r ∧ zf_269 a1 M = some r ∧ jInv (n + 1) M N := by
  obtain ⟨⟨S, hC, hD, hR, hT⟩, -, ⟨bs, hb⟩, -, hl⟩ := id h
  unfold zf_162 zf_269
  rw [jc_houseBits hC hR, jc_upBits hC hR, jc_menBits hC hR, jc_things hC hR]
  simp only [Option.bind_some, jb_is]
  refine ⟨_, rfl, ?_, jInv_mono h⟩
  refine jb_it (f := zf_269_H7 a1 0 M) (fun (a : Int32) k => (a, nI k)) (btG (fun k => 0 < S 0 k)) 0 6 ?_ ?_
  · intro k a hk
    unfold zf_269_H7 zf_269_J30
    dsimp only
    rw [jd_told hD hR hk]
    simp (disch := omega) only [jn_ltl, jn_gtl, jn_lt, jn_eq, jn_eql, jn_eqr, jn_addl, jn_addr, nI_add, jn_gd, nI_clamp, jn_n0, jn_0n, jn_m1, jn_b, jn_clz, jn_mul, jn_mull, jn_mulr, jn_wl, if_true, if_false, Bool.true_eq_false, Bool.false_eq_true, hk, Option.bind_some]
    by_cases c : 0 < S 0 k <;> simp [c, btG]
  · unfold zf_269_H7
    refine (if_neg (by dsimp only; decide)).trans ?_
    dsimp only
    generalize itf (btG fun k => 0 < S 0 k) 0 6 = hb6
    have e : jb_lp (zf_269_H39 a1 hb6 M) (0, 0) = some (if a1 = 0 then M 4 9 else if a1 = 1 then M 4 10 else if a1 = 2 then hb6 else if a1 = 3 then hb6 &&& (itf (btG (fun k => 0 < S 0 k ∧ S 2 k < 9)) 0 6 ^^^ (-1)) else if a1 = 4 then itf (btG (fun k => 0 < S 7 k)) 0 16 else if a1 = 5 then itf (tcG S) 0 24 else if a1 = 6 then M 44 6 else if a1 = 7 then M 2 1 else if a1 = 8 then M 4 11 else (-1)) := by
      refine jb_it (f := zf_269_H39 a1 hb6 M) (fun (a : Int32) k => (a, nI k)) (tcG S) 0 24 ?_ ?_
      · intro k a hk
        unfold zf_269_H39 zf_269_J59
        dsimp only
        rw [jd_thing hD hR hk]
        simp (disch := omega) only [jn_ltl, jn_gtl, jn_lt, jn_eq, jn_eql, jn_eqr, jn_addl, jn_addr, nI_add, jn_gd, nI_clamp, jn_n0, jn_0n, jn_m1, jn_b, jn_clz, jn_mul, jn_mull, jn_mulr, jn_wl, if_true, if_false, Bool.true_eq_false, Bool.false_eq_true, hk, Option.bind_some]
        by_cases c : 0 < S 6 k <;> simp [c, tcG]
      · unfold zf_269_H39
        refine (if_neg (by dsimp only; decide)).trans ?_
        rw [jd_upBits hD hR, jd_menBits hD hR, hD.2.2.2.1, hD.2.2.2.2.1, hD.2.2.2.2.2, hC.2.2.2.1, hC.2.2.2.2.1, hC.2.2.2.2.2, hb.2.1, hb.2.2.1, ← jLw_n hl]
        simp only [Option.bind_some]
        repeat' (first | rfl | split)
    rw [e]
    simp only [Option.map_some]
