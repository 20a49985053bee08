/-! beams -/
theorem jLx_of {M M' : jb_Mi} (h : jLx M) (hs : ∀ a, (44 ≤ a ∧ a ≤ 49) ∨ (90 ≤ a ∧ a ≤ 94) → M' a = M a) (h13 : M' 79 13 = M 79 13) : jLx M' := by
  unfold jLx okR cC cD at h ⊢
  rw [hs 44 (by omega), hs 45 (by omega), hs 46 (by omega), hs 47 (by omega), hs 48 (by omega), hs 49 (by omega), hs 90 (by omega), hs 91 (by omega), hs 92 (by omega), hs 93 (by omega), hs 94 (by omega), h13]
  exact h
theorem jInv_tb {n : Nat} {M M' : jb_Mi} {N N' : jb_Ml} {bs : List Nat} (h : jInv n M N) (hs : ∀ a, jfix a → a ≠ 2 → a ≠ 3 → a ≠ 83 → a ≠ 77 → M' a = M a) (hb : jTp bs M') (h13 : M' 79 13 = M 79 13) (h57 : M' 79 57 = M 79 57) (h77 : M' 77 0 = 0) : jInv (n + 1) M' N' := by
  obtain ⟨⟨S, hC, hD, hR, hT⟩, h2, -, ⟨R, h5⟩, h6, -⟩ := h
  have f : ∀ a, jrel a → jfix a := fun a ha => Or.inl ha
  refine ⟨⟨S, jC_of hC (fun a q1 q2 => hs a (Or.inr (Or.inl ⟨q1, q2⟩)) (by omega) (by omega) (by omega) (by omega)), jD_of hD (hs 80 (Or.inr (Or.inr rfl)) (by decide) (by decide) (by decide) (by decide)), hR, by omega⟩, ?_, ⟨bs, hb⟩, ⟨R, ?_⟩, jLx_of h6 (fun a h1 => hs a (f a (by unfold jrel; omega)) (by omega) (by omega) (by omega) (by omega)) h13, h77⟩
  · unfold jKe at h2 ⊢
    rw [hs 1 (f 1 (by simp [jrel])) (by decide) (by decide) (by decide) (by decide), h57]
    rcases h2 with h2 | ⟨b1, b2, K, b3, b4, b5, b6⟩
    · exact Or.inl h2
    · exact Or.inr ⟨b1, b2, K, jC_of b3 (fun a h1 h2 => hs a (f a (by unfold jrel; omega)) (by omega) (by omega) (by omega) (by omega)), jD_of b4 (hs 82 (f 82 (by simp [jrel])) (by decide) (by decide) (by decide) (by decide)), b5, by omega⟩
  · unfold jRo at h5 ⊢
    rw [hs 36 (f 36 (by simp [jrel])) (by decide) (by decide) (by decide) (by decide), hs 98 (f 98 (by simp [jrel])) (by decide) (by decide) (by decide) (by decide), hs 35 (f 35 (by simp [jrel])) (by decide) (by decide) (by decide) (by decide), hs 97 (f 97 (by simp [jrel])) (by decide) (by decide) (by decide) (by decide)]
    exact h5
/-- the cost of the pieces a to a + d -/
def lo (b : Nat → Nat) (a d : Nat) : Nat := jsum (fun k => b (a + k)) (d + 1)
def lbG (t : Nat → Nat → Nat) (a d j acc : Nat) : Nat := min acc (t a j + t (a + j + 1) (d - 1 - j))
def lb (t : Nat → Nat → Nat) (a d : Nat) : Nat := itf (lbG t a d) 100000000 d
def tb (b : Nat → Nat) : Nat → Nat → Nat → Nat
  | 0 => fun _ _ => 0
  | m + 1 => fun a d => if d = m + 1 then lo b a (m + 1) + lb (tb b m) a (m + 1) else tb b m a d
def cT (b : Nat → Nat) (a d : Nat) : Nat := tb b d a d
theorem tb_st (b : Nat → Nat) (a : Nat) : ∀ m d, d ≤ m → tb b m a d = cT b a d
  | 0, d, h => by
    have : d = 0 := by omega
    subst this; rfl
  | m + 1, d, h => by
    by_cases c : d = m + 1
    · subst c; rfl
    · have e : tb b (m + 1) a d = tb b m a d := if_neg c
      rw [e, tb_st b a m d (by omega)]
theorem cT_0 (b : Nat → Nat) (a : Nat) : cT b a 0 = 0 := rfl
theorem cT_succ (b : Nat → Nat) (a d : Nat) : cT b a (d + 1) = lo b a (d + 1) + lb (cT b) a (d + 1) := by
  have e : cT b a (d + 1) = lo b a (d + 1) + lb (tb b d) a (d + 1) := if_pos rfl
  rw [e]
  congr 1
  unfold lb
  apply itf_congr
  intro j acc hj
  unfold lbG
  rw [tb_st b a d j (by omega), tb_st b (a + j + 1) d (d + 1 - 1 - j) (by omega)]
theorem lb_le {t : Nat → Nat → Nat} {a d F : Nat} : ∀ n, itf (lbG t a d) F n ≤ F ∧ ∀ j, j < n → itf (lbG t a d) F n ≤ t a j + t (a + j + 1) (d - 1 - j)
  | 0 => ⟨Nat.le_refl _, fun j hj => by omega⟩
  | n + 1 => by
    obtain ⟨i1, i2⟩ := lb_le (t := t) (a := a) (d := d) (F := F) n
    simp only [itf]
    generalize itf (lbG t a d) F n = z at i1 i2
    unfold lbG
    refine ⟨by omega, fun j hj => ?_⟩
    by_cases c : j = n
    · subst c; omega
    · have := i2 j (by omega)
      omega
theorem lo_le {b : Nat → Nat} (hb : ∀ k, b k ≤ 99) (a d : Nat) : lo b a d ≤ (d + 1) * 99 := jsum_le (d + 1) (fun k _ => hb (a + k))
theorem cT_le {b : Nat → Nat} (hb : ∀ k, b k ≤ 99) : ∀ d a, d ≤ 7 → cT b a d ≤ 792 * d := by
  intro d
  induction d with
  | zero => intro a _; exact Nat.le_refl _
  | succ d ih =>
    intro a hd
    rw [cT_succ]
    have h1 := lo_le hb a (d + 1)
    have h2 := (lb_le (t := cT b) (a := a) (d := d + 1) (F := 100000000) (d + 1)).2 0 (by omega)
    have h3 := ih (a + 1) (by omega)
    have e : lb (cT b) a (d + 1) = itf (lbG (cT b) a (d + 1)) 100000000 (d + 1) := rfl
    rw [e]
    simp only [Nat.add_zero, Nat.sub_zero, Nat.add_sub_cancel, cT_0, Nat.zero_add] at h2
    omega
theorem jsum_split (b : Nat → Nat) (a : Nat) : ∀ n, jsum b (a + n) = jsum b a + jsum (fun k => b (a + k)) n
  | 0 => rfl
  | n + 1 => by
    have i := jsum_split b a n
    have e : jsum b (a + (n + 1)) = jsum b (a + n) + b (a + n) := rfl
    rw [e, i]
    simp only [jsum]
    omega
theorem cT_sum {b : Nat → Nat} (hb : ∀ k, b k ≤ 99) {a j d : Nat} (hj : j < d) (hd : d ≤ 7) : cT b a j + cT b (a + j + 1) (d - 1 - j) ≤ 11088 := by
  have h1 := cT_le hb j a (by omega)
  have h2 := cT_le hb (d - 1 - j) (a + j + 1) (by omega)
  omega
/-- the table so far: all shorter ones, and of these those ahead of first -/
def tbl (c : Nat) (b : Nat → Nat) (n more first : Nat) (M : jb_Mi) : Prop := ∀ a d, a + d < n → (d < more ∨ (d = more ∧ a < first)) → M c (8 * a + (a + d)) = nI (cT b a d)
theorem tbl_put {c : Nat} {b : Nat → Nat} {n more first : Nat} {M : jb_Mi} (hn : n ≤ 8) (h : tbl c b n more first M) (hf : first + more < n) {x : Int32} (hx : x = nI (cT b first more)) : tbl c b n more (first + 1) (jb_up M c (8 * first + (first + more)) x) := by
  intro a d had hd
  rw [jb_up_at]
  by_cases q : a = first ∧ d = more
  · rw [if_pos ⟨rfl, by omega⟩, hx, q.1, q.2]
  · rw [if_neg (fun z => by omega)]
    exact h a d had (by omega)
theorem jc_leastBelow {b : Nat → Nat} (hb : ∀ k, b k ≤ 99) {n a d : Nat} {M : jb_Mi} (hn : n ≤ 8) (had : a + d < n) (hd : 0 < d) {f : Nat} (ht : tbl 78 b n d f M) : zf_60 (nI a) (nI (a + d)) M = some (nI (lb (cT b) a d)) := by
  unfold zf_60
  refine jb_itp (f := zf_60_H5 (nI a) (nI (a + d)) M) (fun (acc : Nat) k => (if k = 0 then (-1) else nI acc, nI (a + k))) (lbG (cT b) a d) (fun k acc => acc ≤ 100000000 ∧ (k = 0 → acc = 100000000)) 100000000 d ⟨Nat.le_refl _, fun _ => rfl⟩ ?_ ?_
  · intro k acc hk ⟨ha, ha0⟩
    have hs := cT_sum hb (a := a) hk (show d ≤ 7 by omega)
    have hle : lbG (cT b) a d k acc ≤ 100000000 := by unfold lbG; omega
    refine ⟨?_, hle, fun h => by omega⟩
    have t1 := ht a k (by omega) (by omega)
    have t2 := ht (a + k + 1) (d - 1 - k) (by omega) (by omega)
    unfold zf_60_H5 zf_60_J50 zf_60_J53
    dsimp only
    rw [if_pos (nI_lt (show a + k < a + d by omega) (by omega)), show nI a * 8 = nI (a * 8) from jn_mulr a 8, nI_add, nI_1, show nI (a + k + 1) * 8 = nI ((a + k + 1) * 8) from jn_mulr _ 8, nI_add, jn_gd (show a * 8 + (a + k) < 64 by omega) (by decide), jn_gd (show (a + k + 1) * 8 + (a + d) < 64 by omega) (by decide), nI_clamp (by omega), nI_clamp (by omega), show a * 8 + (a + k) = 8 * a + (a + k) by omega, t1, show (a + k + 1) * 8 + (a + d) = 8 * (a + k + 1) + (a + k + 1 + (d - 1 - k)) by omega, t2, nI_add, if_neg (show ¬ k + 1 = 0 by omega), show a + (k + 1) = a + k + 1 by omega]
    unfold lbG
    by_cases k0 : k = 0
    · rw [if_pos k0, if_pos (by decide), ha0 k0, Nat.min_eq_right (by omega)]
    · rw [if_neg k0, if_neg (nI_pos (by omega))]
      by_cases q : cT b a k + cT b (a + k + 1) (d - 1 - k) < acc
      · rw [if_pos (nI_lt q (by omega)), Nat.min_eq_right (by omega)]
      · rw [if_neg (nI_nlt (by omega) (by omega)), Nat.min_eq_left (by omega)]
  · rintro z ⟨q1, -⟩ e
    unfold zf_60_H5
    refine (if_neg (nI_nlt (Nat.le_refl _) (by omega))).trans ?_
    dsimp only
    rw [if_neg (by omega), e]
    rfl
theorem jc_cut {b : Nat → Nat} (hb : ∀ k, b k ≤ 99) {n : Nat} {M : jb_Mi} (hn1 : 1 ≤ n) (hn : n ≤ 8) (ht : tbl 78 b n 1 0 M) (he : ∀ k, k ≤ n → M 77 k = nI (jsum b k)) : ∃ M1, jb_lp (zf_61_H75 (nI n)) (1, M) = some (nI (cT b 0 (n - 1)), M1) ∧ ∀ a, a ≠ 78 → M1 a = M a := by
  obtain ⟨x, h1, M1, rfl, h2⟩ := jb_inv (f := zf_61_H75 (nI n)) (fun k s => ∃ m M', m + k = n ∧ s = (nI m, M') ∧ 1 ≤ m ∧ (∀ a, a ≠ 78 → M' a = M a) ∧ tbl 78 b n m 0 M') (fun x => ∃ M1, x = (nI (cT b 0 (n - 1)), M1) ∧ ∀ a, a ≠ 78 → M1 a = M a) (by
    rintro k s ⟨m, M', hm, rfl, hm1, h1, h2⟩
    unfold zf_61_H75
    dsimp only
    by_cases c : m < n
    · left
      rw [if_pos (nI_lt c (by omega))]
      obtain ⟨x, y1, M2, rfl, y2, y3⟩ := jb_inv (f := zf_61_H83 (nI n) (nI m)) (fun k s => ∃ f M2, f + k = n - m ∧ s = (nI f, M2) ∧ (∀ a, a ≠ 78 → M2 a = M a) ∧ tbl 78 b n m f M2) (fun x => ∃ M2, x = .inl (nI (m + 1), M2) ∧ (∀ a, a ≠ 78 → M2 a = M a) ∧ tbl 78 b n (m + 1) 0 M2) (by
        rintro k s ⟨f, M2, hf, rfl, y1, y2⟩
        unfold zf_61_H83
        dsimp only
        by_cases c2 : f + m < n
        · have l1 := lo_le hb f m
          have l2 := (lb_le (t := cT b) (a := f) (d := m) (F := 100000000) m).1
          obtain ⟨m', rfl⟩ : ∃ m', m = m' + 1 := ⟨m - 1, by omega⟩
          have es : jsum b (f + (m' + 1) + 1) = jsum b f + lo b f (m' + 1) := jsum_split b f (m' + 1 + 1)
          refine Or.inl ⟨k - 1, (nI (f + 1), jb_up M2 78 (8 * f + (f + (m' + 1))) (nI (cT b f (m' + 1)))), by omega, ?_, f + 1, jb_up M2 78 (8 * f + (f + (m' + 1))) (nI (cT b f (m' + 1))), by omega, rfl, fun a ha => by rw [jb_up_off ha, y1 a ha], tbl_put hn y2 c2 rfl⟩
          rw [nI_add, if_pos (nI_lt c2 (by omega)), nI_1, nI_1, jn_gd (by omega) (by decide), jn_gd (by omega) (by decide), jc_leastBelow hb hn c2 (by omega) y2, Option.bind_some, show nI f * 8 = nI (f * 8) from jn_mulr f 8, nI_add, jn_gd (by omega) (by decide), nI_clamp (by omega), nI_clamp (by omega), nI_clamp (by omega), y1 77 (by decide), he _ (by omega), he f (by omega), es, pk_sub (by omega), Nat.add_sub_cancel_left, nI_add, cT_succ, show f * 8 + (f + (m' + 1)) = 8 * f + (f + (m' + 1)) by omega]
        · refine Or.inr ⟨_, ?_, M2, rfl, y1, ?_⟩
          · rw [nI_add, if_neg (nI_nlt (by omega) (by omega)), nI_1]
          · intro a d had hd
            exact y2 a d had (by omega)) (n - m) (nI 0, M') ⟨0, M', by omega, rfl, h1, h2⟩
      exact ⟨k - 1, (nI (m + 1), M2), by omega, y1, m + 1, M2, by omega, rfl, by omega, y2, y3⟩
    · have e : m = n := by omega
      subst e
      refine Or.inr ⟨_, ?_, M', rfl, h1⟩
      have := h2 0 (m - 1) (by omega) (by omega)
      rw [if_neg (nI_nlt (Nat.le_refl _) (by omega)), if_pos (show (0 : Int32) < nI m from nI_lt (a := 0) (by omega) (by omega)), show nI m - 1 = nI (m - 1) from pk_sub (a := m) (b := 1) hm1, jn_gd (by omega) (by decide), nI_clamp (by omega)]
      simp only [Nat.mul_zero, Nat.zero_add] at this
      rw [this]) (n - 1) (nI 1, M) ⟨1, M, by omega, rfl, Nat.le_refl _, fun _ _ => rfl, ht⟩
  exact ⟨M1, h1, h2⟩
/-- whether all pieces are right -/
def good (bs : List Nat) (n : Nat) : Prop := ∀ k, k < n → 1 ≤ bs.getD k 0 ∧ bs.getD k 0 ≤ 99
def bmb (bs : List Nat) (n k : Nat) : Nat := if k < n then bs.getD k 0 else 0
noncomputable def bmA (bs : List Nat) (n : Nat) : Int32 := @ite _ (good bs n) (Classical.propDecidable _) (nI (cT (bmb bs n) 0 (n - 1))) (-2)
theorem in99 {v : Nat} (hv : v < 256) : (zf_23 (nI v) 1 99 = false) = ¬ (1 ≤ v ∧ v ≤ 99) := by
  apply propext
  constructor
  · intro h z
    rw [show zf_23 (nI v) 1 99 = true from jn_wl (l := 1) (k := 99) z.1 z.2 (by decide)] at h
    cases h
  · intro h
    apply Classical.byContradiction
    intro z
    obtain ⟨j, h1, h2, h3⟩ := jn_in1 (x := nI v) 1 99 (by decide) (by decide) z
    rw [nI_eq (by omega) (by omega)] at h3
    omega
theorem jc_cutting {bs : List Nat} {n : Nat} {M : jb_Mi} (hn1 : 1 ≤ n) (hn : n ≤ 8) (hT : tC (bs.take n) M) (hl : n ≤ bs.length) (h77 : M 77 0 = 0) : ∃ M1, zf_61 M = some (bmA bs n, M1) ∧ (∀ a, a ≠ 77 → a ≠ 78 → M1 a = M a) ∧ M1 77 0 = 0 := by
  have el : (bs.take n).length = n := by simp; omega
  have eg : ∀ k, k < n → (bs.take n).getD k 0 = bs.getD k 0 := fun k hk => by simp [List.getElem?_take, hk]
  have hlt : ∀ k, k < n → bs.getD k 0 < 256 := fun k hk => by
    have := (hT.2.2 k (by omega)).1
    rw [eg k hk] at this
    exact this
  unfold zf_61
  rw [hT.2.1, el, show zf_272 (nI n) 8 = nI (min n 8) from jn_min (b := 8) (by omega) (by decide), Nat.min_eq_left hn]
  obtain ⟨x, h1, M1, rfl, h2, h3⟩ := jb_inv (f := zf_61_H12 (nI n)) (fun m s => ∃ k M', k + m = n ∧ s = (nI k, M') ∧ (∀ a, a ≠ 77 → a ≠ 78 → M' a = M a) ∧ (∀ j, j ≤ k → M' 77 j = nI (jsum (bmb bs n) j)) ∧ (∀ j, j < k → M' 78 (9 * j) = 0) ∧ ∀ j, j < k → 1 ≤ bs.getD j 0 ∧ bs.getD j 0 ≤ 99) (fun x => ∃ M1, x = (bmA bs n, M1) ∧ (∀ a, a ≠ 77 → a ≠ 78 → M1 a = M a) ∧ M1 77 0 = 0) (by
    rintro m s ⟨k, M', hm, rfl, h1, h2, h3, h4⟩
    unfold zf_61_H12
    dsimp only
    have hT' : tC (bs.take n) M' := by
      unfold tC
      rw [h1 2 (by decide) (by decide), h1 3 (by decide) (by decide)]
      exact hT
    by_cases c : k < n
    · rw [if_pos (nI_lt c (by omega)), byteAt hT' (by omega), eg k c, Option.bind_some]
      simp only [jn_b, in99 (hlt k c)]
      by_cases g : 1 ≤ bs.getD k 0 ∧ bs.getD k 0 ≤ 99
      · left
        refine ⟨m - 1, (nI (k + 1), jb_up (jb_up M' 77 (k + 1) (nI (jsum (bmb bs n) k + bs.getD k 0))) 78 (9 * k) 0), by omega, ?_, k + 1, jb_up (jb_up M' 77 (k + 1) (nI (jsum (bmb bs n) k + bs.getD k 0))) 78 (9 * k) 0, by omega, rfl, ?_, ?_, ?_, ?_⟩
        · rw [if_neg (fun z => z g), show nI k * 8 = nI (k * 8) from jn_mulr k 8, nI_add, nI_1, jn_gd (by omega) (by decide), jn_gd (by omega) (by decide), jn_gd (by omega) (by decide), nI_clamp (by omega), nI_clamp (by omega), nI_clamp (by omega), h2 k (Nat.le_refl _), nI_add, show k * 8 + k = 9 * k by omega]
        · intro a q1 q2
          rw [jb_up_off q2, jb_up_off q1, h1 a q1 q2]
        · intro j hj
          rw [jb_up_off (by decide), jb_up_at]
          by_cases q : j = k + 1
          · rw [if_pos ⟨rfl, q⟩, q]
            simp only [jsum, bmb, if_pos c]
          · rw [if_neg (fun z => q z.2)]
            exact h2 j (by omega)
        · intro j hj
          rw [jb_up_at]
          by_cases q : j = k
          · rw [if_pos ⟨rfl, by rw [q]⟩]
          · rw [if_neg (fun z => by omega), jb_up_off (by decide)]
            exact h3 j (by omega)
        · intro j hj
          by_cases q : j = k
          · rw [q]; exact g
          · exact h4 j (by omega)
      · right
        refine ⟨_, if_pos g, M', ?_, h1, h2 0 (by omega)⟩
        unfold bmA
        rw [if_neg (fun z => g (z k c))]
    · have e : k = n := by omega
      subst e
      right
      have hb : ∀ j, bmb bs k j ≤ 99 := by
        intro j
        unfold bmb
        split
        · rename_i q; exact (h4 j q).2
        · omega
      obtain ⟨M2, y1, y2⟩ := jc_cut hb hn1 hn (M := M') (fun a d had hd => by
        have hd0 : d = 0 := by omega
        subst hd0
        rw [show 8 * a + (a + 0) = 9 * a by omega, h3 a (by omega)]
        rfl) h2
      refine ⟨(bmA bs k, M2), ?_, M2, rfl, ?_, ?_⟩
      · rw [if_neg (nI_nlt (Nat.le_refl _) (by omega)), y1]
        unfold bmA
        rw [if_pos (show good bs k from h4)]
        rfl
      · intro a q1 q2
        rw [y2 a q2, h1 a q1 q2]
      · rw [y2 77 (by decide)]
        exact h2 0 (by omega)) n (nI 0, M) ⟨0, M, by omega, rfl, fun _ _ _ => rfl, fun j hj => by
          have : j = 0 := by omega
          subst this; exact h77, fun j hj => by omega, fun j hj => by omega⟩
  exact ⟨M1, h1, h2, h3⟩
theorem jd_beams {bs : List Nat} {n : Nat} {M : jb_Mi} (hn1 : 1 ≤ n) (hn : n ≤ 8) (hO : oD bs M) (hl : n ≤ bs.length) (hg : good bs n) : ∃ M1, jb_lp (zf_262_H57 (nI n)) (1, M) = some (nI (cT (bmb bs n) 0 (n - 1)), M1) ∧ ∀ a, a ≠ 112 → M1 a = M a := by
  have hb : ∀ j, bmb bs n j ≤ 99 := by
    intro j
    unfold bmb
    split
    · rename_i q; exact (hg j q).2
    · omega
  obtain ⟨x, h1, M1, rfl, h2⟩ := jb_inv (f := zf_262_H57 (nI n)) (fun k s => ∃ m M', m + k = n ∧ s = (nI (m + 1), M') ∧ (∀ a, a ≠ 112 → M' a = M a) ∧ tbl 112 (bmb bs n) n m 0 M') (fun x => ∃ M1, x = (nI (cT (bmb bs n) 0 (n - 1)), M1) ∧ ∀ a, a ≠ 112 → M1 a = M a) (by
    rintro k s ⟨m, M', hm, rfl, h1, h2⟩
    unfold zf_262_H57
    dsimp only
    by_cases c : m < n
    · left
      rw [if_neg (nI_nlt (show m + 1 ≤ n by omega) (by omega))]
      obtain ⟨x, y1, M2, rfl, y2, y3⟩ := jb_inv (f := zf_262_H64 (nI n) (nI (m + 1))) (fun k s => ∃ f M2, f + k = n - m ∧ s = (nI f, M2) ∧ (∀ a, a ≠ 112 → M2 a = M a) ∧ tbl 112 (bmb bs n) n m f M2) (fun x => ∃ M2, x = .inl (nI (m + 2), M2) ∧ (∀ a, a ≠ 112 → M2 a = M a) ∧ tbl 112 (bmb bs n) n (m + 1) 0 M2) (by
        rintro k s ⟨f, M2, hf, rfl, y1, y2⟩
        have hO2 : oD bs M2 := by
          unfold oD
          rw [y1 83 (by decide)]
          exact hO
        unfold zf_262_H64
        dsimp only
        by_cases c2 : f + m < n
        · have l1 := lo_le hb f m
          left
          -- the inner loops
          have inner : ∀ st : Nat, (m = 0 → st = 0) → (m ≠ 0 → st = 100000000) → zf_262_J93 (nI n) (nI (m + 1)) (nI f) (nI (f + m)) 0 (nI st) M2 = some (.inl (nI (f + 1), jb_up M2 112 (8 * f + (f + m)) (nI (cT (bmb bs n) f m)))) := by
            intro st hs0 hs1
            have hst : st ≤ 100000000 := by
              by_cases q : m = 0
              · have := hs0 q; omega
              · have := hs1 q; omega
            unfold zf_262_J93
            have mid : ∀ z, jb_lp (zf_262_H125 (nI n) (nI (m + 1)) (nI f) (nI (f + m)) (nI (lo (bmb bs n) f m)) M2) (nI st, nI f) = some z → jb_lp (zf_262_H98 (nI n) (nI (m + 1)) (nI f) (nI (f + m)) (nI st) M2) (0, nI f) = some z := by
              intro z hz
              refine jb_it (f := zf_262_H98 (nI n) (nI (m + 1)) (nI f) (nI (f + m)) (nI st) M2) (fun (a : Nat) k => (nI a, nI (f + k))) (fun k a => a + bmb bs n (f + k)) 0 (m + 1) ?_ ?_
              · intro k a hk
                unfold zf_262_H98
                dsimp only
                rw [if_neg (nI_nlt (show f + k ≤ f + m by omega) (by omega)), octet' hO2 (by omega), Option.bind_some, nI_add, nI_1]
                unfold bmb
                rw [if_pos (show f + k < n by omega)]
                rfl
              · have ej : itf (fun k a => a + bmb bs n (f + k)) 0 (m + 1) = lo (bmb bs n) f m := by
                  unfold lo
                  have : ∀ q, itf (fun k a => a + bmb bs n (f + k)) 0 q = jsum (fun k => bmb bs n (f + k)) q := by
                    intro q
                    induction q with
                    | zero => rfl
                    | succ q ih => simp only [itf, jsum]; rw [ih]
                  exact this (m + 1)
                rw [ej]
                unfold zf_262_H98
                dsimp only
                rw [if_pos (nI_lt (show f + m < f + (m + 1) by omega) (by omega)), hz]
                rfl
            apply mid
            refine jb_itp (f := zf_262_H125 (nI n) (nI (m + 1)) (nI f) (nI (f + m)) (nI (lo (bmb bs n) f m)) M2) (fun (a : Nat) k => (nI a, nI (f + k))) (lbG (cT (bmb bs n)) f m) (fun _ a => a ≤ 100000000) st m hst ?_ ?_
            · intro k acc hk ha
              have hs := cT_sum hb (a := f) hk (show m ≤ 7 by omega)
              have t1 := y2 f k (by omega) (by omega)
              have t2 := y2 (f + k + 1) (m - 1 - k) (by omega) (by omega)
              refine ⟨?_, by unfold lbG; omega⟩
              unfold zf_262_H125
              dsimp only
              rw [if_pos (nI_lt (show f + k < f + m by omega) (by omega)), show (8 : Int32) * nI f = nI (8 * f) from jn_mull 8 f, nI_add, nI_1, show (8 : Int32) * nI (f + k + 1) = nI (8 * (f + k + 1)) from jn_mull 8 _, nI_add, jn_gd (by omega) (by decide), jn_gd (by omega) (by decide), nI_clamp (by omega), nI_clamp (by omega), t1, show 8 * (f + k + 1) + (f + m) = 8 * (f + k + 1) + (f + k + 1 + (m - 1 - k)) by omega, t2, nI_add, jn_min' (by omega) (by omega)]
              rfl
            · rintro z hz e
              unfold zf_262_H125 zf_262_J197
              refine (if_neg (nI_nlt (Nat.le_refl _) (by omega))).trans ?_
              dsimp only
              rw [show (8 : Int32) * nI f = nI (8 * f) from jn_mull 8 f, nI_add, jn_gd (by omega) (by decide), jn_gd (by omega) (by decide), nI_clamp (by omega), nI_1]
              by_cases q : m = 0
              · subst q
                rw [if_pos (by rfl), hs0 rfl] at *
                subst e
                rw [show nI (itf (lbG (cT (bmb bs n)) f 0) 0 0) + 0 = nI (cT (bmb bs n) f 0) from rfl]
                rfl
              · rw [if_neg (fun z => q (by have := (nI_eq (a := m + 1) (b := 1) (by omega) (by omega)).mp z; omega)), e, hs1 q, nI_add]
                obtain ⟨m', rfl⟩ : ∃ m', m = m' + 1 := ⟨m - 1, by omega⟩
                rw [cT_succ, Nat.add_comm (lo (bmb bs n) f (m' + 1))]
                rfl
          refine ⟨k - 1, (nI (f + 1), jb_up M2 112 (8 * f + (f + m)) (nI (cT (bmb bs n) f m))), by omega, ?_, f + 1, jb_up M2 112 (8 * f + (f + m)) (nI (cT (bmb bs n) f m)), by omega, rfl, fun a ha => by rw [jb_up_off ha, y1 a ha], tbl_put hn y2 c2 rfl⟩
          rw [nI_add, if_neg (nI_nlt (show f + (m + 1) ≤ n by omega) (by omega)), show nI (f + (m + 1)) - 1 = nI (f + m) from nI_pred (f + m)]
          by_cases q : m = 0
          · rw [if_pos (by rw [q]; rfl)]
            exact inner 0 (fun _ => rfl) (fun z => absurd q z)
          · rw [if_neg (fun z => q (by have := (nI_eq (a := m + 1) (b := 1) (by omega) (by omega)).mp z; omega))]
            exact inner 100000000 (fun z => absurd z q) (fun _ => rfl)
        · refine Or.inr ⟨_, ?_, M2, rfl, y1, ?_⟩
          · rw [nI_add, if_pos (nI_lt (show n < f + (m + 1) by omega) (by omega)), nI_1]
          · intro a d had hd
            exact y2 a d had (by omega)) (n - m) (nI 0, M') ⟨0, M', by omega, rfl, h1, h2⟩
      exact ⟨k - 1, (nI (m + 2), M2), by omega, y1, m + 1, M2, by omega, rfl, y2, y3⟩
    · have e : m = n := by omega
      subst e
      refine Or.inr ⟨_, ?_, M', rfl, h1⟩
      have := h2 0 (m - 1) (by omega) (by omega)
      rw [if_pos (nI_lt (show m < m + 1 by omega) (by omega)), show nI m - 1 = nI (m - 1) from pk_sub (a := m) (b := 1) hn1, jn_gd (by omega) (by decide), nI_clamp (by omega)]
      simp only [Nat.mul_zero, Nat.zero_add] at this
      rw [this]) n (nI 1, M) ⟨0, M, by omega, rfl, fun _ _ => rfl, fun a d had hd => by omega⟩
  exact ⟨M1, h1, h2⟩
theorem ca_beams {n : Nat} {M : jb_Mi} {N : jb_Ml} (hn : n < 512) (h : jInv n M N) (a1 : Int32) : ∃ (r : Int32) (M1 : jb_Mi) (M2 : jb_Mi), zf_155 a1 M = some (r, M1) ∧ M1 0 = M 0 ∧ zf_262 a1 M1 = some (r, M2) ∧ M2 0 = M 0 ∧ jInv (n + 1) M2 N := by
  obtain ⟨-, -, ⟨bs, hb⟩, -, -, h77⟩ := id h
  obtain ⟨b1, b2, b3, b4⟩ := hb
  unfold zf_155 zf_262
  simp only [jn_b, jn_w]
  by_cases c : zf_23 a1 1 8 = false
  · exact ⟨_, M, M, if_pos c, rfl, if_pos c, rfl, jInv_mono h⟩
  rw [if_neg c]
  obtain ⟨L, hL1, hL, rfl⟩ := jn_in1 (x := a1) 1 8 (by decide) (by decide) c
  unfold zf_116
  by_cases c2 : bs.length < L
  · have c3 : nI bs.length < nI L := nI_lt c2 (by omega)
    refine ⟨-1, M, M, ?_, rfl, ?_, rfl, jInv_mono h⟩
    · rw [if_pos (show M 2 1 < nI L by rw [b2]; exact c3)]; rfl
    · rw [if_neg c, if_pos (show M 79 4 < nI L by rw [b3]; exact c3)]
  have c3 : ¬ nI bs.length < nI L := nI_nlt (by omega) (by omega)
  have hT : tC (bs.take L) (jb_up M 2 1 (nI L)) := by
    have e : (bs.take L).length = L := by simp; omega
    refine ⟨by omega, by rw [e, jb_up_at, if_pos ⟨rfl, rfl⟩], fun k hk => ?_⟩
    rw [e] at hk
    rw [jb_up_off (by decide), show (bs.take L).getD k 0 = bs.getD k 0 by simp [List.getElem?_take, hk]]
    exact ⟨(b4 k (by omega)).1, (b4 k (by omega)).2.1⟩
  obtain ⟨M1, k1, k2, k3⟩ := jc_cutting (M := jb_up M 2 1 (nI L)) hL1 hL hT (by omega) (by rw [jb_up_off (by decide)]; exact h77)
  have e2 : M1 2 1 = nI L := by rw [k2 2 (by decide) (by decide), jb_up_at, if_pos ⟨rfl, rfl⟩]
  have f0 : zf_117 0 M1 = jb_up M1 2 1 0 := cut0 M1 e2 (by omega)
  have hM : ∀ a, a ≠ 2 → a ≠ 77 → a ≠ 78 → jb_up M1 2 1 0 a = M a := fun a q1 q2 q3 => by rw [jb_up_off q1, k2 a q2 q3, jb_up_off q1]
  have h81 : ∀ k, k < L → bs.getD k 0 < 256 := fun k hk => (b4 k (by omega)).1
  have hO : oD bs (jb_up (jb_up M1 2 1 0) 79 4 0) := fun k hk => ⟨by omega, (b4 k hk).1, by rw [jb_up_off (by decide), hM 83 (by decide) (by decide) (by decide)]; exact (b4 k hk).2.2⟩
  obtain ⟨x, g1, M2, rfl, g2⟩ := jb_inv (f := zf_262_H27 (nI L) (jb_up (jb_up M1 2 1 0) 79 4 0)) (fun m s => ∃ k, k + m = L ∧ s = nI k ∧ ∀ j, j < k → 1 ≤ bs.getD j 0 ∧ bs.getD j 0 ≤ 99) (fun x => ∃ M2, x = (bmA bs L, M2) ∧ ∀ a, a ≠ 112 → M2 a = jb_up (jb_up M1 2 1 0) 79 4 0 a) (by
    rintro m s ⟨k, hm, rfl, h4⟩
    unfold zf_262_H27
    by_cases c : k < L
    · rw [if_pos (nI_lt c (by omega)), octet' hO (by omega), Option.bind_some]
      simp only [jn_b, jn_w, in99 (h81 k c)]
      by_cases g : 1 ≤ bs.getD k 0 ∧ bs.getD k 0 ≤ 99
      · refine Or.inl ⟨m - 1, nI (k + 1), by omega, ?_, k + 1, by omega, rfl, fun j hj => ?_⟩
        · rw [if_neg (fun z => z g), nI_1]
        · by_cases q : j = k
          · rw [q]; exact g
          · exact h4 j (by omega)
      · refine Or.inr ⟨_, if_pos g, _, ?_, fun _ _ => rfl⟩
        unfold bmA
        rw [if_neg (fun z => g (z k c))]
    · have e : k = L := by omega
      subst e
      obtain ⟨M2, y1, y2⟩ := jd_beams hL1 hL hO (by omega) h4
      refine Or.inr ⟨(bmA bs k, M2), ?_, M2, rfl, y2⟩
      rw [if_neg (nI_nlt (Nat.le_refl _) (by omega)), y1]
      unfold bmA
      rw [if_pos (show good bs k from h4)]
      rfl) L (nI 0) ⟨0, by omega, rfl, fun j hj => by omega⟩
  refine ⟨bmA bs L, jb_up M1 2 1 0, M2, ?_, hM 0 (by decide) (by decide) (by decide), ?_, ?_, ?_⟩
  · rw [if_neg (show ¬ M 2 1 < nI L by rw [b2]; exact c3), if_neg (by decide), cutn M b2 b1 (by omega), k1, Option.bind_some, f0]
  · rw [if_neg c, if_neg (show ¬ jb_up M1 2 1 0 79 4 < nI L by rw [hM 79 (by decide) (by decide) (by decide), b3]; exact c3)]
    exact g1
  · rw [g2 0 (by decide), jb_up_off (by decide), hM 0 (by decide) (by decide) (by decide)]
  · refine jInv_tb h (bs := []) (fun a z1 z2 z3 z4 z5 => ?_) (jTp_0 ?_ ?_) ?_ ?_ ?_
    · rw [g2 a (by unfold jfix jrel at z1; omega), jb_up_off (by unfold jfix jrel at z1; omega), hM a z2 z5 (by unfold jfix jrel at z1; omega)]
    · rw [g2 2 (by decide), jb_up_off (by decide)]; rfl
    · rw [g2 79 (by decide)]; rfl
    · rw [g2 79 (by decide), jb_up_at, if_neg (by decide), hM 79 (by decide) (by decide) (by decide)]
    · rw [g2 79 (by decide), jb_up_at, if_neg (by decide), hM 79 (by decide) (by decide) (by decide)]
    · rw [g2 77 (by decide), jb_up_off (by decide), jb_up_off (by decide)]
      exact k3
