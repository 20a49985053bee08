/-! where somebody is felt -/
theorem jb_ul_at (N : jb_Ml) (a j a' j' : Nat) (x : Int64) : jb_ul N a j x a' j' = if a' = a ∧ j' = j then x else N a' j' := by
  unfold jb_ul
  by_cases h : a' = a
  · subst h
    simp only [if_true, vp_updL, true_and]
  · simp [h]
theorem lN_div {a d : Nat} (ha : a < 2 ^ 31) (h0 : 0 < d) (hd : d < 2 ^ 31) : lN a / lN d = lN (a / d) := by
  apply Int64.toInt_inj.mp
  have hne : lN d ≠ -1 := by
    intro e
    have e2 : (lN d).toInt = (-1 : Int64).toInt := by rw [e]
    rw [lN_toInt hd, show (-1 : Int64).toInt = -1 from by decide] at e2
    omega
  rw [Int64.toInt_div_of_ne_right _ _ hne, lN_toInt ha, lN_toInt hd, lN_toInt (Nat.lt_of_le_of_lt (Nat.div_le_self a d) ha)]
  exact Int.ofNat_tdiv a d ▸ rfl
/-- the word of four bytes -/
def wd4 (b0 b1 b2 b3 : Nat) : Nat := 2 ^ 24 * b0 + 2 ^ 16 * b1 + 2 ^ 8 * b2 + b3
theorem wd_or {b0 b1 b2 b3 : Nat} (h1 : b1 < 256) (h2 : b2 < 256) (h3 : b3 < 256) : b0 * 2 ^ 24 ||| b1 * 2 ^ 16 ||| b2 * 2 ^ 8 ||| b3 = wd4 b0 b1 b2 b3 := by
  have e1 : b0 * 2 ^ 24 ||| b1 * 2 ^ 16 = 2 ^ 24 * b0 + b1 * 2 ^ 16 := by
    rw [Nat.mul_comm b0, ← Nat.two_pow_add_eq_or_of_lt (show b1 * 2 ^ 16 < 2 ^ 24 by omega)]
  have e2 : (2 ^ 24 * b0 + b1 * 2 ^ 16) ||| b2 * 2 ^ 8 = 2 ^ 24 * b0 + b1 * 2 ^ 16 + b2 * 2 ^ 8 := by
    have : 2 ^ 24 * b0 + b1 * 2 ^ 16 = 2 ^ 16 * (2 ^ 8 * b0 + b1) := by omega
    rw [this, ← Nat.two_pow_add_eq_or_of_lt (show b2 * 2 ^ 8 < 2 ^ 16 by omega)]
  have e3 : (2 ^ 24 * b0 + b1 * 2 ^ 16 + b2 * 2 ^ 8) ||| b3 = 2 ^ 24 * b0 + b1 * 2 ^ 16 + b2 * 2 ^ 8 + b3 := by
    have : 2 ^ 24 * b0 + b1 * 2 ^ 16 + b2 * 2 ^ 8 = 2 ^ 8 * (2 ^ 16 * b0 + 2 ^ 8 * b1 + b2) := by omega
    rw [this, ← Nat.two_pow_add_eq_or_of_lt (show b3 < 2 ^ 8 by omega)]
  rw [e1, e2, e3]
  unfold wd4
  omega
noncomputable def fU (S : jSt) (i : Nat) (bs : List Nat) (c : Nat) : Int64 := (nI (wd4 (bs.getD (4 * c) 0) (bs.getD (4 * c + 1) 0) (bs.getD (4 * c + 2) 0) (bs.getD (4 * c + 3) 0)) : Int32).toInt64 - (nI (ld S i c) : Int32).toInt64
theorem jc_word {bs : List Nat} {M : jb_Mi} (h : tC bs M) {c : Nat} (hc : 4 * c + 3 < bs.length) : zf_31 (4 * nI c) M = some (nI (wd4 (bs.getD (4 * c) 0) (bs.getD (4 * c + 1) 0) (bs.getD (4 * c + 2) 0) (bs.getD (4 * c + 3) 0))) := by
  have l0 := (h.2.2 (4 * c) (by omega)).1
  have l1 := (h.2.2 (4 * c + 1) (by omega)).1
  have l2 := (h.2.2 (4 * c + 2) (by omega)).1
  have l3 := (h.2.2 (4 * c + 3) (by omega)).1
  unfold zf_31
  rw [show (4 : Int32) * nI c = nI (4 * c) from jn_mull 4 c, show nI (4 * c) + 1 = nI (4 * c + 1) from jn_addr _ 1, show nI (4 * c) + 2 = nI (4 * c + 2) from jn_addr _ 2, show nI (4 * c) + 3 = nI (4 * c + 3) from jn_addr _ 3, byteAt h (by omega), byteAt h (by omega), byteAt h (by omega), byteAt h (by omega)]
  simp only [Option.bind_some]
  rw [pk_shlN _ 24 (by decide) (by omega), pk_shlN _ 16 (by decide) (by omega), pk_shlN _ 8 (by decide) (by omega), jn_or, jn_or, jn_or, wd_or l1 l2 l3]
theorem jc_feel {S : jSt} {M : jb_Mi} {N : jb_Ml} {bs : List Nat} (hC : jC 4 S M) (hR : jR S) (hb : tC bs M) (hl : 16 ≤ bs.length) {i : Nat} (hi : i < 6) (hs : 0 < S 0 i) : ∃ M1 N1, zf_32 (nI i) M N = some (M1, N1) ∧ (∀ a, a ≠ 65 → M1 a = M a) ∧ (∀ a, a ≠ 66 → N1 a = N a) ∧ ∀ c, c < 4 → N1 66 c = fU S i bs c := by
  obtain ⟨M0, w1, w2, w3⟩ := jc_weigh hC hR hi hs
  have hb0 : tC bs M0 := by
    unfold tC
    rw [w2 2 (by decide), w2 3 (by decide)]
    exact hb
  unfold zf_32
  rw [w1, Option.bind_some]
  obtain ⟨x, h1, N1, rfl, h2, h3⟩ := jb_inv (f := zf_32_H7 M0) (fun n s => ∃ c N', c + n = 4 ∧ s = (nI c, N') ∧ (∀ a, a ≠ 66 → N' a = N a) ∧ ∀ d, d < c → N' 66 d = fU S i bs d) (fun x => ∃ N1, x = (M0, N1) ∧ (∀ a, a ≠ 66 → N1 a = N a) ∧ ∀ c, c < 4 → N1 66 c = fU S i bs c) (by
    rintro n s ⟨c, N', hn, rfl, h1, h2⟩
    unfold zf_32_H7
    dsimp only
    by_cases e : c < 4
    · refine Or.inl ⟨n - 1, (nI (c + 1), jb_ul N' 66 c (fU S i bs c)), by omega, ?_, c + 1, jb_ul N' 66 c (fU S i bs c), by omega, rfl, ?_, ?_⟩
      · rw [if_pos (show nI c < 4 from nI_lt (b := 4) e (by decide)), jc_word hb0 (by omega), Option.bind_some, jn_gd e (by decide), jn_gd e (by decide), nI_clamp (by omega), w3 c e, nI_1]
        rfl
      · intro a ha
        rw [jb_ul_n ha, h1 a ha]
      · intro d hd
        rw [jb_ul_at]
        by_cases q : d = c
        · rw [if_pos ⟨rfl, q⟩, q]
        · rw [if_neg (fun z => q z.2)]
          exact h2 d (by omega)
    · have e : c = 4 := by omega
      subst e
      exact Or.inr ⟨_, if_neg (by decide), N', rfl, h1, h2⟩) 4 (nI 0, N) ⟨0, N, by omega, rfl, fun _ _ => rfl, fun d hd => by omega⟩
  exact ⟨M0, N1, h1, w2, h2, h3⟩
theorem jd_feel {S : jSt} {M : jb_Mi} {N : jb_Ml} {bs : List Nat} (hD : jD 80 S M) (hR : jR S) (hb : oD bs M) (hl : 16 ≤ bs.length) {i : Nat} (hi : i < 6) : ∃ N1, zf_246 (nI i) M N = some N1 ∧ ∀ c, c < 4 → N1 108 c = fU S i bs c := by
  unfold zf_246
  obtain ⟨N1, h1, h3⟩ := jb_inv (f := zf_246_H2 (nI i) M) (fun n s => ∃ c N', c + n = 4 ∧ s = (nI c, N') ∧ ∀ d, d < c → N' 108 d = fU S i bs d) (fun N1 => ∀ c, c < 4 → N1 108 c = fU S i bs c) (by
    rintro n s ⟨c, N', hn, rfl, h2⟩
    unfold zf_246_H2
    dsimp only
    by_cases e : c < 4
    · refine Or.inl ⟨n - 1, (nI (c + 1), jb_ul N' 108 c (fU S i bs c)), by omega, ?_, c + 1, jb_ul N' 108 c (fU S i bs c), by omega, rfl, ?_⟩
      · rw [if_pos (show nI c < 4 from nI_lt (b := 4) e (by decide))]
        refine jb_it (f := zf_246_H12 (nI i) (nI c) M N') (fun (a : Nat) k => (lN a, nI k)) (fun k a => 256 * a + bs.getD (4 * c + k) 0) 0 4 ?_ ?_
        · intro k a hk
          have l := (hb (4 * c + k) (by omega)).2.1
          unfold zf_246_H12
          dsimp only
          rw [if_pos (show nI k < 4 from nI_lt (b := 4) hk (by decide)), show (4 : Int32) * nI c = nI (4 * c) from jn_mull 4 c, nI_add, octet' hb (by omega), Option.bind_some, nI_l (by omega), show (256 : Int64) = lN 256 from rfl, lN_mul, lN_add, nI_1]
        · unfold zf_246_H12
          refine (if_neg (by dsimp only; decide)).trans ?_
          dsimp only
          rw [jd_load hD hR hi e, Option.bind_some, jn_gd e (by decide), nI_clamp (by omega), lN_i, nI_1]
          have e5 : itf (fun k a => 256 * a + bs.getD (4 * c + k) 0) 0 4 = wd4 (bs.getD (4 * c) 0) (bs.getD (4 * c + 1) 0) (bs.getD (4 * c + 2) 0) (bs.getD (4 * c + 3) 0) := by
            simp only [itf, Nat.add_zero]
            unfold wd4
            omega
          rw [e5]
          rfl
      · intro d hd
        rw [jb_ul_at]
        by_cases q : d = c
        · rw [if_pos ⟨rfl, q⟩, q]
        · rw [if_neg (fun z => q z.2)]
          exact h2 d (by omega)
    · have e : c = 4 := by omega
      subst e
      exact Or.inr ⟨_, if_neg (by decide), h2⟩) 4 (nI 0, N) ⟨0, N, by omega, rfl, fun d hd => by omega⟩
  exact ⟨N1, h1, h3⟩
/-- a weight at a spot explains it -/
def mt (V : Nat → Int64) (w x y : Nat) : Prop := ∀ c, c < 4 → V c = lN (w * prt x y c)
theorem prt_13 {x y : Nat} (hx : x ≤ 8) (hy : y ≤ 8) : prt x y 1 + prt x y 3 = 8 * x ∧ prt x y 2 + prt x y 3 = 8 * y := by
  have hd : ∀ x, x < 9 → ∀ y, y < 9 → prt x y 1 + prt x y 3 = 8 * x ∧ prt x y 2 + prt x y 3 = 8 * y := by decide +kernel
  exact hd x (by omega) y (by omega)
theorem mt_xy {V : Nat → Int64} {w x y : Nat} (hw1 : 1 ≤ w) (hw : w ≤ 99) (hx : x ≤ 8) (hy : y ≤ 8) (h : mt V w x y) : (V 1 + V 3) / lN (8 * w) = lN x ∧ (V 2 + V 3) / lN (8 * w) = lN y := by
  obtain ⟨p1, p2⟩ := prt_13 hx hy
  rw [h 1 (by decide), h 2 (by decide), h 3 (by decide), lN_add, lN_add, ← Nat.mul_add, ← Nat.mul_add, p1, p2, ← Nat.mul_assoc, ← Nat.mul_assoc, Nat.mul_comm w 8]
  have b1 : 8 * w * x ≤ 792 * 8 := Nat.mul_le_mul (by omega) hx
  have b2 : 8 * w * y ≤ 792 * 8 := Nat.mul_le_mul (by omega) hy
  rw [lN_div (by omega) (by omega) (by omega), lN_div (by omega) (by omega) (by omega), Nat.mul_div_cancel_left _ (by omega), Nat.mul_div_cancel_left _ (by omega)]
  exact ⟨rfl, rfl⟩
theorem mt_uniq {V : Nat → Int64} {w x y x' y' : Nat} (hw1 : 1 ≤ w) (hw : w ≤ 99) (hx : x ≤ 8) (hy : y ≤ 8) (hx' : x' ≤ 8) (hy' : y' ≤ 8) (h : mt V w x y) (h' : mt V w x' y') : x = x' ∧ y = y' := by
  have a := mt_xy hw1 hw hx hy h
  have b := mt_xy hw1 hw hx' hy' h'
  rw [a.1, a.2] at b
  exact ⟨(lN_eq (by omega) (by omega)).mp b.1, (lN_eq (by omega) (by omega)).mp b.2⟩
theorem lN_of8 {x : Int64} (h1 : ¬ x < 0) (h2 : ¬ (8 : Int64) < x) : ∃ n, n ≤ 8 ∧ x = lN n := by
  rw [Int64.lt_iff_toInt_lt] at h1 h2
  rw [show (0 : Int64).toInt = 0 from by decide] at h1
  rw [show (8 : Int64).toInt = 8 from by decide] at h2
  refine ⟨x.toInt.toNat, by omega, ?_⟩
  apply Int64.toInt_inj.mp
  rw [lN_toInt (by omega)]
  omega
theorem jc_spot {w : Nat} (hw1 : 1 ≤ w) (hw : w ≤ 99) {N : jb_Ml} : (∃ x y, x ≤ 8 ∧ y ≤ 8 ∧ mt (N 66) w x y ∧ zf_33 (nI w) N = some (nI (9 * y + x))) ∨ ((∀ x y, x ≤ 8 → y ≤ 8 → ¬ mt (N 66) w x y) ∧ zf_33 (nI w) N = some (-1)) := by
  have eu : 8 * (nI w : Int32).toInt64 = lN (8 * w) := by rw [nI_l (by omega)]; exact lN_mul 8 w
  have u0 : ¬ lN (8 * w) = 0 := fun z => by
    have := (lN_eq (a := 8 * w) (b := 0) (by omega) (by omega)).mp z
    omega
  unfold zf_33 jb_g0l
  rw [eu, if_pos (show 0 < lg_cmp (lN (8 * w)) 0 from (lg_cmp_gt _ _).mpr ((lN_lt (a := 0) (by omega) (by omega)).mpr (by omega))), if_neg u0, if_neg u0]
  simp only [show ∀ x y : Int64, (lg_cmp x y < 0) = (x < y) from fun x y => propext (lg_cmp_lt x y), show ∀ x y : Int64, (0 < lg_cmp x y) = (y < x) from fun x y => propext (lg_cmp_gt x y)]
  have no : ∀ {X Y : Int64}, (N 66 1 + N 66 3) / lN (8 * w) = X → (N 66 2 + N 66 3) / lN (8 * w) = Y → (∀ x y, x ≤ 8 → y ≤ 8 → X = lN x → Y = lN y → ¬ mt (N 66) w x y) → ∀ x y, x ≤ 8 → y ≤ 8 → ¬ mt (N 66) w x y := by
    intro X Y e1 e2 hn x y hx hy hm
    have := mt_xy hw1 hw hx hy hm
    exact hn x y hx hy (e1.symm.trans this.1) (e2.symm.trans this.2) hm
  have no2 := no rfl rfl
  generalize (N 66 1 + N 66 3) / lN (8 * w) = X at no2
  generalize (N 66 2 + N 66 3) / lN (8 * w) = Y at no2
  have l0 : ∀ n, n ≤ 8 → ¬ lN n < 0 := fun n hn z => by
    have := (lN_lt (a := n) (b := 0) (by omega) (by omega)).mp z
    omega
  have l8 : ∀ n, n ≤ 8 → ¬ (8 : Int64) < lN n := fun n hn z => by
    have := (lN_lt (a := 8) (b := n) (by omega) (by omega)).mp z
    omega
  by_cases c1 : X < 0
  · rw [if_pos c1]; exact Or.inr ⟨no2 (fun x y hx hy e1 _ _ => l0 x hx (e1 ▸ c1)), rfl⟩
  by_cases c2 : (8 : Int64) < X
  · rw [if_neg c1, if_pos c2]; exact Or.inr ⟨no2 (fun x y hx hy e1 _ _ => l8 x hx (e1 ▸ c2)), rfl⟩
  by_cases c3 : Y < 0
  · rw [if_neg c1, if_neg c2, if_pos c3]; exact Or.inr ⟨no2 (fun x y hx hy _ e2 _ => l0 y hy (e2 ▸ c3)), rfl⟩
  by_cases c4 : (8 : Int64) < Y
  · rw [if_neg c1, if_neg c2, if_neg c3, if_pos c4]; exact Or.inr ⟨no2 (fun x y hx hy _ e2 _ => l8 y hy (e2 ▸ c4)), rfl⟩
  rw [if_neg c1, if_neg c2, if_neg c3, if_neg c4]
  obtain ⟨x, hx, rfl⟩ := lN_of8 c1 c2
  obtain ⟨y, hy, rfl⟩ := lN_of8 c3 c4
  obtain ⟨r, h1, h2⟩ := jb_inv (f := zf_33_H86 (nI w) (lN x) (lN y) N) (fun n s => ∃ c, c + n = 4 ∧ s = nI c ∧ ∀ d, d < c → N 66 d = lN (w * prt x y d)) (fun r => (mt (N 66) w x y ∧ r = nI (9 * y + x)) ∨ (¬ mt (N 66) w x y ∧ r = -1)) (by
    rintro n s ⟨c, hn, rfl, h1⟩
    unfold zf_33_H86
    by_cases e : c < 4
    · have pl := wprt_le (c := c) hw hx hy
      rw [if_pos (show nI c < 4 from nI_lt (b := 4) e (by decide)), jn_gd e (by decide), nI_clamp (by omega), lN_i, lN_i, jc_prt x (by omega) y (by omega) c e, jl_mul (by omega) (by have := prt_le (c := c) hx hy; omega), nI_1]
      by_cases q : N 66 c = lN (w * prt x y c)
      · refine Or.inl ⟨n - 1, nI (c + 1), by omega, if_pos ((lg_cmp_eq _ _).mpr q), c + 1, by omega, rfl, fun d hd => ?_⟩
        by_cases q2 : d = c
        · rw [q2]; exact q
        · exact h1 d (by omega)
      · exact Or.inr ⟨-1, if_neg (fun z => q ((lg_cmp_eq _ _).mp z)), Or.inr ⟨fun hm => q (hm c e), rfl⟩⟩
    · have e : c = 4 := by omega
      subst e
      refine Or.inr ⟨_, if_neg (by decide), Or.inl ⟨h1, ?_⟩⟩
      rw [lN_i, lN_i, show nI y * 9 = nI (y * 9) from jn_mulr y 9, nI_add, Nat.mul_comm y 9]) 4 (nI 0) ⟨0, by omega, rfl, fun d hd => by omega⟩
  rcases h2 with ⟨h2, rfl⟩ | ⟨h2, rfl⟩
  · exact Or.inl ⟨x, y, hx, hy, h2, h1⟩
  · refine Or.inr ⟨no2 (fun x' y' hx' hy' e1 e2 hm => h2 ?_), h1⟩
    have q1 := (lN_eq (by omega) (by omega)).mp e1
    have q2 := (lN_eq (by omega) (by omega)).mp e2
    rw [q1, q2]
    exact hm
/-- two weights explain it -/
def m2 (U : Nat → Int64) (w o s p : Nat) : Prop := ∀ c, c < 4 → U c = lN (w * prt (s % 9) (s / 9) c + o * prt (p % 9) (p / 9) c)
theorem jd_isFelt {w o s p : Nat} (hw : w ≤ 99) (ho : o ≤ 99) (hs : s < 81) (hp : p < 81) {N : jb_Ml} {U : Nat → Int64} (hN : ∀ c, c < 4 → N 108 c = U c) : zf_247 (nI w) (nI s) (nI o) (nI p) N = some (@decide (m2 U w o s p) (Classical.propDecidable _)) := by
  unfold zf_247
  obtain ⟨r, h1, h2⟩ := jb_inv (f := zf_247_H3 (nI w) (nI s) (nI o) (nI p) N) (fun n t => ∃ c, c + n = 4 ∧ t = nI c ∧ ∀ d, d < c → U d = lN (w * prt (s % 9) (s / 9) d + o * prt (p % 9) (p / 9) d)) (fun r => (m2 U w o s p ∧ r = true) ∨ (¬ m2 U w o s p ∧ r = false)) (by
    rintro n t ⟨c, hn, rfl, h1⟩
    unfold zf_247_H3
    by_cases e : c < 4
    · have b1 := wprt_le (c := c) hw (show s % 9 ≤ 8 by omega) (show s / 9 ≤ 8 by omega)
      have b2 := wprt_le (c := c) ho (show p % 9 ≤ 8 by omega) (show p / 9 ≤ 8 by omega)
      rw [if_pos (show nI c < 4 from nI_lt (b := 4) e (by decide)), jn_gd e (by decide), nI_clamp (by omega), jn_div9 (by omega), jn_rem9 (by omega), jn_div9 (by omega), jn_rem9 (by omega), jd_part, jd_part, jc_prt _ (by omega) _ (by omega) c e, jc_prt _ (by omega) _ (by omega) c e, jn_mul, jn_mul, nI_add, nI_l (by omega), hN c e, nI_1]
      by_cases q : U c = lN (w * prt (s % 9) (s / 9) c + o * prt (p % 9) (p / 9) c)
      · refine Or.inl ⟨n - 1, nI (c + 1), by omega, if_pos ((lg_cmp_eq _ _).mpr q.symm), c + 1, by omega, rfl, fun d hd => ?_⟩
        by_cases q2 : d = c
        · rw [q2]; exact q
        · exact h1 d (by omega)
      · exact Or.inr ⟨false, if_neg (fun z => q ((lg_cmp_eq _ _).mp z).symm), Or.inr ⟨fun hm => q (hm c e), rfl⟩⟩
    · have e : c = 4 := by omega
      subst e
      exact Or.inr ⟨true, if_neg (by decide), Or.inl ⟨h1, rfl⟩⟩) 4 (nI 0) ⟨0, by omega, rfl, fun d hd => by omega⟩
  rw [show (0 : Int32) = nI 0 from rfl, h1]
  rcases h2 with ⟨h2, rfl⟩ | ⟨h2, rfl⟩
  · rw [@decide_eq_true _ (Classical.propDecidable _) h2]
  · rw [@decide_eq_false _ (Classical.propDecidable _) h2]
