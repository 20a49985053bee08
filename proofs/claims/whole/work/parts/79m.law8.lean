/-! THE LAW: the reference's stack and steps -/
def wrd (f : Nat) (i : Nat × Nat) : Nat := if 11 ≤ i.1 ∧ i.2 = 0 then 1048576 * i.1 else 1048576 * i.1 + ptg f i
def stk (W : List Nat) (M : jb_Mi) : Prop := M 79 11 = nI W.length ∧ ∀ k, k < W.length → M 85 (W.length - 1 - k) = nI (W.getD k 0)
def lD (b : Nat → Nat) (n f p l : Nat) (c : jPc) (W : List Nat) (M : jb_Mi) : Prop := tdB b n M ∧ M 79 5 = nI p ∧ M 79 9 = nI (6 - l) ∧ (M 79 10 = nI (f + c.length) ∧ ∀ k, k < c.length → M 84 (f + k) = nI (wrd f (pat c k))) ∧ stk W M
def mX (f : Nat) (M M' : jb_Mi) : Prop := (∀ a, a ≠ 79 → a ≠ 84 → a ≠ 85 → M' a = M a) ∧ (∀ j, j ≠ 5 → j ≠ 7 → j ≠ 8 → j ≠ 9 → j ≠ 10 → j ≠ 11 → M' 79 j = M 79 j) ∧ ∀ j, j < f → M' 84 j = M 84 j
theorem mX_0 (f : Nat) (M : jb_Mi) : mX f M M := ⟨fun _ _ _ _ => rfl, fun _ _ _ _ _ _ _ => rfl, fun _ _ => rfl⟩
theorem mX_t {f : Nat} {M M1 M2 : jb_Mi} (h1 : mX f M M1) (h2 : mX f M1 M2) : mX f M M2 := ⟨fun a q1 q2 q3 => by rw [h2.1 a q1 q2 q3, h1.1 a q1 q2 q3], fun j q1 q2 q3 q4 q5 q6 => by rw [h2.2.1 j q1 q2 q3 q4 q5 q6, h1.2.1 j q1 q2 q3 q4 q5 q6], fun j hj => by rw [h2.2.2 j hj, h1.2.2 j hj]⟩
theorem mX_u {f : Nat} {M M1 : jb_Mi} (h1 : mX f M M1) {j : Nat} {x : Int32} (hj : j = 5 ∨ j = 7 ∨ j = 8 ∨ j = 9 ∨ j = 10 ∨ j = 11) : mX f M (jb_up M1 79 j x) := ⟨fun a q1 q2 q3 => by rw [jb_up_off q1, h1.1 a q1 q2 q3], fun i q1 q2 q3 q4 q5 q6 => by rw [jb_up_at, if_neg (by omega), h1.2.1 i q1 q2 q3 q4 q5 q6], fun i hi => by rw [jb_up_off (by decide), h1.2.2 i hi]⟩
theorem mX_v {f : Nat} {M M1 : jb_Mi} (h1 : mX f M M1) {a j : Nat} {x : Int32} (ha : a = 85 ∨ (a = 84 ∧ f ≤ j)) : mX f M (jb_up M1 a j x) := ⟨fun c q1 q2 q3 => by rw [jb_up_off (by omega), h1.1 c q1 q2 q3], fun i q1 q2 q3 q4 q5 q6 => by rw [jb_up_off (by omega), h1.2.1 i q1 q2 q3 q4 q5 q6], fun i hi => by rw [jb_up_at, if_neg (by omega), h1.2.2 i hi]⟩
theorem tdB_m {b : Nat → Nat} {n f : Nat} {M M' : jb_Mi} (h : tdB b n M) (hx : mX f M M') : tdB b n M' := tdB_of h (hx.2.1 6 (by decide) (by decide) (by decide) (by decide) (by decide) (by decide)) (hx.1 83 (by decide) (by decide) (by decide))
theorem stk_of {W : List Nat} {M M' : jb_Mi} (h : stk W M) (h1 : M' 79 11 = M 79 11) (h2 : ∀ k, k < W.length → M' 85 k = M 85 k) : stk W M' := ⟨by rw [h1, h.1], fun k hk => by rw [h2 _ (by omega), h.2 k hk]⟩
theorem stk_push {W : List Nat} {M M' : jb_Mi} {w : Nat} (h : stk W M) (h1 : M' 79 11 = nI (W.length + 1)) (h2 : ∀ k, M' 85 k = if k = W.length then nI w else M 85 k) : stk (w :: W) M' := by
  refine ⟨by rw [h1, List.length_cons], fun k hk => ?_⟩
  rw [List.length_cons] at hk ⊢
  cases k with
  | zero => rw [h2, if_pos (by omega)]; rfl
  | succ k =>
    rw [h2, if_neg (by omega), show W.length + 1 - 1 - (k + 1) = W.length - 1 - k by omega, h.2 k (by omega)]
    rfl
theorem stk_pop {W : List Nat} {M M' : jb_Mi} {w : Nat} (h : stk (w :: W) M) (h1 : M' 79 11 = nI W.length) (h2 : M' 85 = M 85) : stk W M' := by
  refine ⟨h1, fun k hk => ?_⟩
  have := h.2 (k + 1) (by rw [List.length_cons]; omega)
  rw [List.length_cons, show W.length + 1 - 1 - (k + 1) = W.length - 1 - k by omega] at this
  rw [h2, this]
  rfl
/-- lD again from what it speaks of -/
theorem lD_of {b : Nat → Nat} {n f p l p' l' : Nat} {c : jPc} {W W' : List Nat} {M M' : jb_Mi} (h : lD b n f p l c W M) (hx : mX f M M') (h5 : M' 79 5 = nI p') (h9 : M' 79 9 = nI (6 - l')) (h10 : M' 79 10 = M 79 10) (h84 : M' 84 = M 84) (hs : stk W' M') : lD b n f p' l' c W' M' := by
  obtain ⟨k1, k2, k3, ⟨k4, k5⟩, k6⟩ := h
  exact ⟨tdB_m k1 hx, h5, h9, ⟨by rw [h10, k4], fun k hk => by rw [h84, k5 k hk]⟩, hs⟩
theorem jd_note {b : Nat → Nat} {n f p l : Nat} {c : jPc} {W : List Nat} {M : jb_Mi} (h : lD b n f p l c W M) (hl : f + c.length < 260) (o a : Nat) (x1 x2 : Int32) (hw : 1048576 * x1 + x2 = nI (wrd f (o, a))) : ∃ M', zf_189 x1 x2 M = some M' ∧ lD b n f p l (c ++ [(o, a)]) W M' ∧ mX f M M' := by
  obtain ⟨k1, k2, k3, ⟨k4, k5⟩, k6⟩ := h
  have hX : mX f M (jb_up (jb_up M 84 (f + c.length) (nI (wrd f (o, a)))) 79 10 (nI (f + c.length + 1))) := mX_u (mX_v (mX_0 f M) (by omega)) (by omega)
  refine ⟨jb_up (jb_up M 84 (f + c.length) (nI (wrd f (o, a)))) 79 10 (nI (f + c.length + 1)), ?_, ⟨tdB_m k1 hX, ?_, ?_, ⟨?_, fun k hk => ?_⟩, stk_of k6 ?_ (fun k _ => ?_)⟩, hX⟩
  · unfold zf_189
    rw [k4, jn_gd hl (by decide), nI_clamp (by omega), hw, jb_up_off (show (79 : Nat) ≠ 84 by decide), k4, nI_succ]
  · rw [jb_up_at, if_neg (by omega), jb_up_off (by decide), k2]
  · rw [jb_up_at, if_neg (by omega), jb_up_off (by decide), k3]
  · rw [jb_up_at, if_pos ⟨rfl, rfl⟩, List.length_append, List.length_singleton, Nat.add_assoc]
  · rw [List.length_append, List.length_singleton] at hk
    rw [jb_up_off (by decide), jb_up_at, pat_app]
    by_cases e : k < c.length
    · rw [if_neg (by omega), if_pos e, k5 k e]
    · have : k = c.length := by omega
      subst this
      rw [if_pos ⟨rfl, rfl⟩, if_neg e, if_pos rfl]
  · rw [jb_up_at, if_neg (by omega), jb_up_off (by decide)]
  · rw [jb_up_off (by decide), jb_up_off (by decide)]
theorem jd_top {W : List Nat} {M : jb_Mi} (h : stk W M) (hl : W.length ≤ 260) (hw : ∀ k, k < W.length → W.getD k 0 < 2 ^ 31) : zf_191 M = some (match W with
    | [] => -1
    | w :: _ => nI (w / 1048576)) := by
  unfold zf_191
  cases W with
  | nil =>
    rw [h.1]
    exact if_pos (show nI ([] : List Nat).length = 0 from rfl)
  | cons w W =>
    have h0 := h.2 0 (by simp)
    rw [List.length_cons, Nat.sub_zero, Nat.add_sub_cancel] at h0
    rw [List.length_cons] at hl
    have hw0 : w < 2 ^ 31 := hw 0 (by simp)
    rw [h.1, List.length_cons, if_neg (fun y => by have := (nI_eq (b := 0) (by omega) (by decide)).mp y; omega), nI_pred, jn_gd (by omega) (by decide), nI_clamp (by omega), h0]
    show some (nI w / nI 1048576) = some (nI (w / 1048576))
    rw [pk_div hw0 (by decide) (by decide)]
/-- words: op and place -/
def wok (w : Nat) : Prop := w < 15728640 ∧ w % 1048576 < 260
theorem wok_lt {W : List Nat} (h : ∀ w, w ∈ W → wok w) : ∀ k, k < W.length → W.getD k 0 < 2 ^ 31 := by
  intro k hk
  rw [List.getD_eq_getElem?_getD, List.getElem?_eq_getElem hk]
  have := (h _ (List.getElem_mem hk)).1
  show W[k] < 2 ^ 31
  omega
theorem jd_opens {b : Nat → Nat} {n f p l o : Nat} {c : jPc} {W : List Nat} {M : jb_Mi} (h : lD b n f p l c W M) (hl : l ≤ 6) (hW : W.length < 260) : (l = 0 → zf_190 (nI o) M = some (zf_186 (nI 5) (nI p) M)) ∧ (l ≠ 0 → ∃ M', zf_190 (nI o) M = some (true, M') ∧ lD b n f (p + 1) (l - 1) c ((1048576 * o) :: W) M' ∧ mX f M M') := by
  obtain ⟨k1, k2, k3, ⟨k4, k5⟩, k6⟩ := id h
  have e6 : (M 79 9 = 6) = (l = 0) := by
    rw [k3]
    have : (nI (6 - l) = nI 6) = (6 - l = 6) := jn_eq (by omega) (by decide)
    exact this.trans (propext ⟨fun _ => by omega, fun _ => by omega⟩)
  unfold zf_190
  simp only [e6]
  constructor
  · intro e
    rw [if_pos e, k2]
    rfl
  · intro e
    rw [if_neg e]
    have hX : mX f M (jb_up (jb_up (jb_up (jb_up M 79 9 (nI (6 - (l - 1)))) 85 W.length (nI (1048576 * o))) 79 11 (nI (W.length + 1))) 79 5 (nI (p + 1))) := mX_u (mX_u (mX_v (mX_u (mX_0 f M) (by omega)) (by omega)) (by omega)) (by omega)
    refine ⟨_, ?_, lD_of (p' := p + 1) (l' := l - 1) (W' := (1048576 * o) :: W) h hX ?_ ?_ ?_ ?_ (stk_push k6 ?_ (fun k => ?_)), hX⟩
    · have e9 : M 79 9 + 1 = nI (6 - (l - 1)) := by
        rw [k3, ← nI_succ]
        congr 1
        omega
      have e11 : jb_up M 79 9 (nI (6 - (l - 1))) 79 11 = nI W.length := by rw [jb_up_at, if_neg (by omega), k6.1]
      rw [e9, e11, jn_gd hW (by decide), nI_clamp (by omega), jn_mull, jb_up_off (show (79 : Nat) ≠ 85 by decide), e11, ← nI_succ, jb_up_at (M := jb_up (jb_up M 79 9 (nI (6 - (l - 1)))) 85 W.length (nI (1048576 * o))), if_neg (by omega), jb_up_off (show (79 : Nat) ≠ 85 by decide), jb_up_at, if_neg (by omega), k2, ← nI_succ]
    · rw [jb_up_at, if_pos ⟨rfl, rfl⟩]
    · rw [jb_up_at, if_neg (by omega), jb_up_at, if_neg (by omega), jb_up_off (by decide), jb_up_at, if_pos ⟨rfl, rfl⟩]
    · rw [jb_up_at, if_neg (by omega), jb_up_at, if_neg (by omega), jb_up_off (by decide), jb_up_at, if_neg (by omega)]
    · rw [jb_up_off (by decide), jb_up_off (by decide), jb_up_off (by decide), jb_up_off (by decide)]
    · rw [jb_up_at, if_neg (by omega), jb_up_at, if_pos ⟨rfl, rfl⟩]
    · rw [jb_up_off (by decide), jb_up_off (by decide), jb_up_at]
      by_cases e : k = W.length
      · rw [if_pos ⟨rfl, e⟩, if_pos e]
      · rw [if_neg (by omega), if_neg e, jb_up_off (by decide)]
/-! sums that wait -/
def opw (o : Nat) : List Nat := if o = 0 then [] else [1048576 * o]
def cw : List Nat → Nat
  | [] => 0
  | w :: W => (if w < 11534336 then 1 else 0) + cw W
def lI (f g p : Nat) (c : jPc) (W : List Nat) : Prop := f + c.length + cw W + g ≤ p ∧ W.length ≤ p ∧ ∀ w, w ∈ W → wok w
theorem jd_note1 {b : Nat → Nat} {n f g p l o x1 : Nat} {c : jPc} {W : List Nat} {M : jb_Mi} (h : lD b n f p l c ((1048576 * o) :: W) M) (hI : lI f g p c ((1048576 * o) :: W)) (hp : p ≤ 240) (ho : o < 11) : ∃ M', zf_194_J37 (nI x1) M = some (.inl M') ∧ lD b n f p l (c ++ [(o, 0)]) W M' ∧ lI f g p (c ++ [(o, 0)]) W ∧ mX f M M' := by
  obtain ⟨i1, i2, i3⟩ := hI
  rw [List.length_cons] at i2
  unfold cw at i1
  rw [if_pos (by omega)] at i1
  have hop : 1048576 * o / 1048576 = o := Nat.mul_div_cancel_left o (by decide)
  obtain ⟨M1, m1, m2, m3⟩ := jd_note h (by omega) o 0 (nI o) 0 (by
    rw [jn_mull]
    unfold wrd ptg
    rw [if_neg (by dsimp only; omega), if_neg (by dsimp only; omega)]
    exact nI_add (1048576 * o) 0)
  obtain ⟨k1, k2, k3, ⟨k4, k5⟩, k6⟩ := id m2
  have hX : mX f M (jb_up M1 79 11 (nI W.length)) := mX_u m3 (by omega)
  have hX1 : mX f M1 (jb_up M1 79 11 (nI W.length)) := mX_u (mX_0 f M1) (by omega)
  refine ⟨jb_up M1 79 11 (nI W.length), ?_, lD_of m2 hX1 (by rw [jb_up_at, if_neg (by omega), k2]) (by rw [jb_up_at, if_neg (by omega), k3]) (by rw [jb_up_at, if_neg (by omega)]) (by rw [jb_up_off (by decide)]) (stk_pop k6 (by rw [jb_up_at, if_pos ⟨rfl, rfl⟩]) (by rw [jb_up_off (by decide)])), ⟨?_, by omega, fun w hw => i3 w (List.mem_cons_of_mem _ hw)⟩, hX⟩
  · unfold zf_194_J37
    rw [jd_top h.2.2.2.2 (by rw [List.length_cons]; omega) (wok_lt i3), Option.bind_some]
    dsimp only
    rw [hop, m1, Option.bind_some, k6.1, List.length_cons, nI_pred]
  · rw [List.length_append, List.length_singleton]
    omega
def tpo (W : List Nat) : Prop := match W with
  | [] => True
  | w :: _ => 7 ≤ w / 1048576
theorem cop_o {o : Nat} : 1048576 * o / 1048576 = o := Nat.mul_div_cancel_left o (by decide)
theorem jd_cl1 {b : Nat → Nat} {n f g p l x1 o : Nat} {c : jPc} {W : List Nat} {M : jb_Mi} (h : lD b n f p l c (opw o ++ W) M) (hI : lI f g p c (opw o ++ W)) (hp : p ≤ 240) (ho : o = 0 ∨ (4 ≤ o ∧ o ≤ 6) ∨ (x1 ≠ 0 ∧ (o = 2 ∨ o = 3))) (hx : x1 ≤ 1) : ∃ M', jb_lp (zf_194_H0 (nI x1)) M = jb_lp (zf_194_H0 (nI x1)) M' ∧ lD b n f p l (app c o) W M' ∧ lI f g p (app c o) W ∧ mX f M M' := by
  unfold opw app at *
  by_cases e : o = 0
  · rw [if_pos e] at h hI ⊢
    exact ⟨M, rfl, h, hI, mX_0 f M⟩
  · rw [if_neg e] at h hI ⊢
    obtain ⟨M', m1, m2, m3, m4⟩ := jd_note1 (x1 := x1) h hI hp (by omega)
    refine ⟨M', jb_lp_inl ?_, m2, m3, m4⟩
    rw [← m1]
    have t := jd_top h.2.2.2.2 (by have := hI.2.1; omega) (wok_lt hI.2.2)
    dsimp only [List.cons_append] at t
    rw [cop_o] at t
    unfold zf_194_H0 zf_194_J17
    rw [t, Option.bind_some, Option.bind_some, Option.bind_some, Option.bind_some]
    rcases ho with ho | ho | ⟨ho, h2⟩
    · exact absurd ho e
    · rw [if_neg (show ¬ nI o < 4 from nI_nlt (b := 4) ho.1 (by omega)), if_neg (show ¬ (6 : Int32) < nI o from nI_nlt (a := 6) ho.2 (by decide))]
    · rw [if_pos (show nI o < 4 from nI_lt (b := 4) (by omega) (by decide)), if_neg (show ¬ nI x1 = 0 from fun y => ho ((nI_eq (b := 0) (by omega) (by decide)).mp y))]
      rcases h2 with rfl | rfl
      · rw [if_pos (show nI 2 = 2 from rfl)]
      · rw [if_neg (by decide), if_pos (show nI 3 = 3 from rfl)]
theorem jd_cl0 {x1 : Nat} {W : List Nat} {M : jb_Mi} (h : stk W M) (hl : W.length ≤ 260) (hw : ∀ w, w ∈ W → wok w) (hW : tpo W ∨ (x1 = 0 ∧ ∃ o W', W = (1048576 * o) :: W' ∧ o < 4)) : jb_lp (zf_194_H0 (nI x1)) M = some M := by
  refine jb_lp_inr ?_
  have t := jd_top h hl (wok_lt hw)
  rcases hW with hW | ⟨rfl, o, W', rfl, ho⟩
  · cases W with
    | nil =>
      dsimp only at t
      unfold zf_194_H0 zf_194_J17
      rw [t, Option.bind_some, Option.bind_some, Option.bind_some, Option.bind_some, if_pos (by decide)]
      by_cases z : nI x1 = 0
      · rw [if_pos z]
      · rw [if_neg z, if_neg (by decide), if_neg (by decide)]
    | cons w W =>
      have hwl := (hw w (by simp)).1
      obtain ⟨q, t', hq1, hq2⟩ : ∃ q, zf_191 M = some (nI q) ∧ 7 ≤ q ∧ q < 15 := ⟨w / 1048576, t, hW, by omega⟩
      unfold zf_194_H0 zf_194_J17
      rw [t', Option.bind_some, Option.bind_some, Option.bind_some, Option.bind_some, if_neg (show ¬ nI q < 4 from nI_nlt (b := 4) (by omega) (by omega)), if_pos (show (6 : Int32) < nI q from nI_lt (a := 6) (by omega) (by omega))]
      by_cases z : nI x1 = 0
      · rw [if_pos z]
      · rw [if_neg z, if_neg (show ¬ nI q = 2 from fun y => by have := (nI_eq (b := 2) (by omega) (by decide)).mp y; omega), if_neg (show ¬ nI q = 3 from fun y => by have := (nI_eq (b := 3) (by omega) (by decide)).mp y; omega)]
  · have t' : zf_191 M = some (nI o) := by rw [t]; dsimp only; rw [cop_o]
    unfold zf_194_H0 zf_194_J17
    rw [t', Option.bind_some, if_pos (show nI o < 4 from nI_lt (b := 4) ho (by decide)), if_pos (show nI 0 = 0 from rfl)]
