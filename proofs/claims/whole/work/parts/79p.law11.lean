/-! THE LAW: the reference's conditions: what waits -/
def nots : Nat → jPc → jPc
  | 0, c => c
  | k + 1, c => nots k (c ++ [(10, 0)])
def jw (o f x : Nat) : List Nat := if x = 0 then [] else [1048576 * o + (f + (x - 1))]
def r10 : Nat → List Nat
  | 0 => []
  | k + 1 => 10485760 :: r10 k
abbrev cfr : Type := Nat × Nat × Nat × Nat
def wC (f : Nat) : List cfr → List Nat
  | [] => []
  | y :: r => r10 y.2.2.2 ++ (jw 11 f y.2.2.1 ++ (jw 12 f y.2.1 ++ (13631488 :: wC f r)))
def resU (b : Nat → Nat) (n : Nat) : List cfr → Nat → Nat → jPc → lwR
  | [], _, q, c => .inr (q, c)
  | y :: r, l, q, c => bnd (cnK b n (spT b n (l + y.2.2.2)) y.1 y.2.1 y.2.2.1 q (nots y.2.2.2 c)) fun q' c' => if ch b n q' = 41 then resU b n r (l + y.2.2.2 + 1) (q' + 1) c' else .inl (1, q')
def resT (b : Nat → Nat) (n : Nat) (fs : List cfr) (l p : Nat) (c : jPc) : lwR := bnd (spT b n l p c) (resU b n fs l)
theorem resU_nots (b : Nat → Nat) (n fu po pa k l q : Nat) (r : List cfr) (c : jPc) : resU b n ((fu, po, pa, k) :: r) l q c = resU b n ((fu, po, pa, 0) :: r) (l + k) q (nots k c) := rfl
theorem resT_not {b : Nat → Nat} {n fu po pa k l p : Nat} {r : List cfr} {c : jPc} (h : ch b n p = 33) : resT b n ((fu, po, pa, k) :: r) (l + 1) p c = resT b n ((fu, po, pa, k + 1) :: r) l (p + 1) c := by
  have e : spT b n (l + 1) p c = bnd (spT b n l (p + 1) c) fun q c' => .inr (q, c' ++ [(10, 0)]) := by
    show tsR b n (l + 1) (spT b n l) (cnL b n (spT b n l) 241 0 0) p c = _
    unfold tsR
    rw [if_pos h, if_neg (by omega)]
  unfold resT
  rw [e]
  cases spT b n l (p + 1) c with
  | inl x => rfl
  | inr y =>
    show resU b n ((fu, po, pa, k) :: r) (l + 1) y.1 (y.2 ++ [(10, 0)]) = resU b n ((fu, po, pa, k + 1) :: r) l y.1 y.2
    rw [resU_nots, resU_nots b n fu po pa (k + 1), show l + 1 + k = l + (k + 1) by omega]
    rfl
theorem resT_par {b : Nat → Nat} {n l p : Nat} {fs : List cfr} {c : jPc} (h : ch b n p = 40) : resT b n fs (l + 1) p c = resT b n ((240, 0, 0, 0) :: fs) l (p + 1) c := by
  have e : spT b n (l + 1) p c = bnd (cnL b n (spT b n l) 241 0 0 (p + 1) c) fun q c' => if ch b n q = 41 then .inr (q + 1, c') else .inl (1, q) := by
    show tsR b n (l + 1) (spT b n l) (cnL b n (spT b n l) 241 0 0) p c = _
    unfold tsR
    rw [if_neg (by omega), if_pos h, if_neg (by omega)]
  unfold resT
  rw [e, cnL_s]
  cases spT b n l (p + 1) c with
  | inl x => rfl
  | inr y =>
    show bnd (bnd (cnK b n (spT b n l) 240 0 0 y.1 y.2) fun q c' => if ch b n q = 41 then .inr (q + 1, c') else .inl (1, q)) (resU b n fs (l + 1)) = bnd (cnK b n (spT b n l) 240 0 0 y.1 y.2) fun q' c' => if ch b n q' = 41 then resU b n fs (l + 1) (q' + 1) c' else .inl (1, q')
    cases cnK b n (spT b n l) 240 0 0 y.1 y.2 with
    | inl x => rfl
    | inr z =>
      unfold bnd
      dsimp only
      by_cases c4 : ch b n z.1 = 41
      · rw [if_pos c4, if_pos c4]
      · rw [if_neg c4, if_neg c4]
theorem cpR_T {b : Nat → Nat} {n q : Nat} (h : ch b n q = 40) : cpR b n q = resT b n [(240, 0, 0, 0)] 5 (q + 1) [] := by
  unfold cpR spC resT
  rw [if_pos h, cnL_s]
  cases spT b n 5 (q + 1) [] with
  | inl x => rfl
  | inr y =>
    show (match cnK b n (spT b n 5) 240 0 0 y.1 y.2 with
      | .inl e => .inl e
      | .inr z => if ch b n z.1 = 41 then .inr (z.1 + 1, z.2) else .inl (1, z.1)) = bnd (cnK b n (spT b n 5) 240 0 0 y.1 y.2) fun q' c' => if ch b n q' = 41 then .inr (q' + 1, c') else .inl (1, q')
    cases cnK b n (spT b n 5) 240 0 0 y.1 y.2 with
    | inl x => rfl
    | inr z => rfl
/-- the jumps that wait, frame by frame: those of outer frames come before those of inner ones -/
def cfI (c : jPc) : Nat → List cfr → Prop
  | _, [] => True
  | m, y :: r => (y.2.2.1 ≠ 0 → y.2.2.1 ≤ m ∧ pat c (y.2.2.1 - 1) = (11, 0)) ∧ (y.2.1 ≠ 0 → y.2.1 ≤ m ∧ pat c (y.2.1 - 1) = (12, 0)) ∧ ∃ m', m' ≤ m ∧ (y.2.2.1 ≠ 0 → m' < y.2.2.1) ∧ (y.2.1 ≠ 0 → m' < y.2.1) ∧ cfI c m' r
theorem cfI_pre {c c' : jPc} : ∀ (fs : List cfr) (m m2 : Nat), (∀ k, k < m → pat c' k = pat c k) → m ≤ m2 → cfI c m fs → cfI c' m2 fs := by
  intro fs
  induction fs with
  | nil => intros; trivial
  | cons y r ih =>
    intro m m2 h hm hc
    obtain ⟨h1, h2, m', h3, h4, h5, h6⟩ := hc
    refine ⟨fun z => ?_, fun z => ?_, m', by omega, h4, h5, ih m' m' (fun k hk => h k (by omega)) (Nat.le_refl _) h6⟩
    · obtain ⟨a1, a2⟩ := h1 z
      exact ⟨by omega, by rw [h _ (by omega), a2]⟩
    · obtain ⟨a1, a2⟩ := h2 z
      exact ⟨by omega, by rw [h _ (by omega), a2]⟩
def n10 (W : List Nat) : Prop := match W with
  | [] => True
  | w :: _ => w / 1048576 ≠ 10
theorem jd_ends {b : Nat → Nat} {n f g p : Nat} {V : List Nat} (hp : p ≤ 240) (hV : n10 V) : ∀ (k l : Nat) (c : jPc) (M : jb_Mi), l + k ≤ 6 → lD b n f p l c (r10 k ++ V) M → lI f g p c (r10 k ++ V) → ∃ M', zf_198 M = some M' ∧ lD b n f p (l + k) (nots k c) V M' ∧ lI f g p (nots k c) V ∧ mX f M M' := by
  intro k
  induction k with
  | zero =>
    intro l c M hl hD hI
    refine ⟨M, jb_lp_inr ?_, hD, hI, mX_0 f M⟩
    have t := jd_top hD.2.2.2.2 (by have := hI.2.1; omega) (wok_lt hI.2.2)
    unfold zf_198_H0
    cases V with
    | nil =>
      have t' : zf_191 M = some (-1) := t
      rw [t', Option.bind_some, if_neg (by decide)]
    | cons w V =>
      have t' : zf_191 M = some (nI (w / 1048576)) := t
      have hw := (hI.2.2 w (by simp [r10])).1
      rw [t', Option.bind_some, if_neg (show ¬ nI (w / 1048576) = 10 from fun y => hV ((nI_eq (b := 10) (by omega) (by decide)).mp y))]
  | succ k ih =>
    intro l c M hl hD hI
    have hD' : lD b n f p l c (10485760 :: (r10 k ++ V)) M := hD
    have hI' : lI f g p c (10485760 :: (r10 k ++ V)) := hI
    obtain ⟨i1, i2, i3⟩ := hI'
    unfold cw at i1
    rw [if_pos (by omega)] at i1
    rw [List.length_cons] at i2
    have t : zf_191 M = some (nI 10) := jd_top hD'.2.2.2.2 (by rw [List.length_cons]; omega) (wok_lt i3)
    obtain ⟨M1, m1, m2, m3⟩ := jd_note hD' (by omega) 10 0 10 0 rfl
    obtain ⟨d1, d2, d3, d4, d5⟩ := id m2
    have e11 : M1 79 11 - 1 = nI (r10 k ++ V).length := by rw [d5.1, List.length_cons, nI_pred]
    have e9 : jb_up M1 79 11 (nI (r10 k ++ V).length) 79 9 - 1 = nI (6 - (l + 1)) := by
      rw [jb_up_at, if_neg (by omega), d3, show 6 - l = (6 - (l + 1)) + 1 by omega, nI_pred]
    have hX2 : mX f M1 (jb_up (jb_up M1 79 11 (nI (r10 k ++ V).length)) 79 9 (nI (6 - (l + 1)))) := mX_u (mX_u (mX_0 f M1) (by omega)) (by omega)
    have hD2 : lD b n f p (l + 1) (c ++ [(10, 0)]) (r10 k ++ V) (jb_up (jb_up M1 79 11 (nI (r10 k ++ V).length)) 79 9 (nI (6 - (l + 1)))) := by
      refine lD_of m2 hX2 (by rw [jb_up_at, if_neg (by omega), jb_up_at, if_neg (by omega), d2]) (by rw [jb_up_at, if_pos ⟨rfl, rfl⟩]) (by rw [jb_up_at, if_neg (by omega), jb_up_at, if_neg (by omega)]) (by rw [jb_up_off (by decide), jb_up_off (by decide)]) (stk_pop d5 ?_ ?_)
      · rw [jb_up_at, if_neg (by omega), jb_up_at, if_pos ⟨rfl, rfl⟩]
      · rw [jb_up_off (by decide), jb_up_off (by decide)]
    have s : zf_198_H0 M = some (.inl (jb_up (jb_up M1 79 11 (nI (r10 k ++ V).length)) 79 9 (nI (6 - (l + 1))))) := by
      unfold zf_198_H0
      rw [t, Option.bind_some, if_pos (show nI 10 = 10 from rfl), m1, Option.bind_some, e11, e9]
    obtain ⟨M', k1, k2, k3, k4⟩ := ih (l + 1) (c ++ [(10, 0)]) _ (by omega) hD2 ⟨by rw [List.length_append, List.length_singleton]; omega, by omega, fun w hw => i3 w (List.mem_cons_of_mem _ hw)⟩
    refine ⟨M', by unfold zf_198 at k1 ⊢; rw [jb_lp_inl s, k1], ?_, k3, mX_t m3 (mX_t hX2 k4)⟩
    rw [show l + (k + 1) = l + 1 + k by omega]
    exact k2
/-- a jump lands -/
theorem jd_land1 {b : Nat → Nat} {n f g p l o x x1 : Nat} {c : jPc} {V : List Nat} {M : jb_Mi} (hD : lD b n f p l c ((1048576 * o + (f + (x - 1))) :: V) M) (hI : lI f g p c ((1048576 * o + (f + (x - 1))) :: V)) (hp : p ≤ 240) (ho : o = 11 ∨ o = 12) (hx0 : x ≠ 0) (hx : x ≤ c.length) (hpt : pat c (x - 1) = (o, 0)) : ∃ M', zf_199_J22 (nI x1) M = some (.inl M') ∧ lD b n f p l (aim x c) V M' ∧ lI f g p (aim x c) V ∧ mX f M M' := by
  obtain ⟨i1, i2, i3⟩ := hI
  obtain ⟨d1, d2, d3, ⟨d4, d6⟩, d5⟩ := id hD
  rw [List.length_cons] at i2
  have hfx : f + (x - 1) < 260 := by omega
  have h11 : M 79 11 - 1 = nI V.length := by rw [d5.1, List.length_cons, nI_pred]
  have hw : M 85 V.length = nI (1048576 * o + (f + (x - 1))) := by
    have := d5.2 0 (by simp)
    rw [List.length_cons, Nat.sub_zero, Nat.add_sub_cancel] at this
    exact this
  have hrem : nI (1048576 * o + (f + (x - 1))) - nI (1048576 * o + (f + (x - 1))) / 1048576 * 1048576 = nI (f + (x - 1)) := by
    have := pk_rem (a := 1048576 * o + (f + (x - 1))) (d := 1048576) (by omega) (by decide) (by decide)
    rw [Nat.mul_add_mod, Nat.mod_eq_of_lt (by omega)] at this
    exact this
  have h84 : M 84 (f + (x - 1)) = nI (1048576 * o) := by
    rw [d6 (x - 1) (by omega), hpt]
    unfold wrd
    rw [if_pos (by dsimp only; omega)]
  have hq : nI (1048576 * o) / 1048576 = nI o := by
    have := pk_div (a := 1048576 * o) (d := 1048576) (by omega) (by decide) (by decide)
    rw [cop_o] at this
    exact this
  have hX : mX f M (jb_up (jb_up M 84 (f + (x - 1)) (nI (1048576 * o + (f + c.length)))) 79 11 (nI V.length)) := mX_u (mX_v (mX_0 f M) (by omega)) (by omega)
  refine ⟨jb_up (jb_up M 84 (f + (x - 1)) (nI (1048576 * o + (f + c.length)))) 79 11 (nI V.length), ?_, ⟨tdB_m d1 hX, ?_, ?_, ⟨?_, fun k hk => ?_⟩, stk_pop d5 ?_ ?_⟩, ⟨?_, by omega, fun w hw => i3 w (List.mem_cons_of_mem _ hw)⟩, hX⟩
  · unfold zf_199_J22
    rw [h11, jn_gd (by omega) (by decide), nI_clamp (by omega), hw, hrem, jn_gd hfx (by decide), jn_gd hfx (by decide), nI_clamp (by omega), h84, hq, d4, jn_mull, nI_add, jb_up_off (show (79 : Nat) ≠ 84 by decide), h11]
  · rw [jb_up_at, if_neg (by omega), jb_up_off (by decide), d2]
  · rw [jb_up_at, if_neg (by omega), jb_up_off (by decide), d3]
  · rw [jb_up_at, if_neg (by omega), jb_up_off (by decide), d4, aim_len]
  · rw [aim_len] at hk
    rw [jb_up_off (by decide), jb_up_at]
    by_cases e : k = x - 1
    · subst e
      rw [if_pos ⟨rfl, rfl⟩, aim_at c (by omega) hk, hpt]
      unfold wrd ptg
      rw [if_neg (by dsimp only; omega), if_pos (by dsimp only; omega)]
    · rw [if_neg (by omega), aim_ne c (by omega), d6 k hk]
  · rw [jb_up_at, if_pos ⟨rfl, rfl⟩]
  · rw [jb_up_off (by decide), jb_up_off (by decide)]
  · rw [aim_len]
    unfold cw at i1
    omega
theorem jd_lnd {b : Nat → Nat} {n f g p l o x x1 : Nat} {c : jPc} {V : List Nat} {M : jb_Mi} (hD : lD b n f p l c (jw o f x ++ V) M) (hI : lI f g p c (jw o f x ++ V)) (hp : p ≤ 240) (ho : o = 11 ∨ (o = 12 ∧ x1 = 1)) (hx1 : x1 ≤ 1) (hx : x ≠ 0 → x ≤ c.length ∧ pat c (x - 1) = (o, 0)) : ∃ M', jb_lp (zf_199_H0 (nI x1)) M = jb_lp (zf_199_H0 (nI x1)) M' ∧ lD b n f p l (aim x c) V M' ∧ lI f g p (aim x c) V ∧ mX f M M' := by
  by_cases e : x = 0
  · subst e
    exact ⟨M, rfl, hD, hI, mX_0 f M⟩
  · have ew : jw o f x ++ V = (1048576 * o + (f + (x - 1))) :: V := by
      unfold jw
      rw [if_neg e]
      rfl
    rw [ew] at hD hI
    obtain ⟨a1, a2⟩ := hx e
    obtain ⟨M', m1, m2, m3, m4⟩ := jd_land1 (x1 := x1) hD hI hp (by omega) e a1 a2
    refine ⟨M', jb_lp_inl ?_, m2, m3, m4⟩
    rw [← m1]
    have i1 := hI.1
    have t := jd_top hD.2.2.2.2 (by have := hI.2.1; omega) (wok_lt hI.2.2)
    have t' : zf_191 M = some (nI o) := by
      rw [t]
      dsimp only
      rw [show (1048576 * o + (f + (x - 1))) / 1048576 = o by omega]
    unfold zf_199_H0
    rw [t', Option.bind_some, Option.bind_some]
    rcases ho with rfl | ⟨rfl, rfl⟩
    · rw [if_pos (show nI 11 = 11 from rfl)]
    · rw [if_neg (by decide), if_neg (by decide), if_pos (show nI 12 = 12 from rfl)]
theorem jd_lnd0 {x1 : Nat} {W : List Nat} {M : jb_Mi} (h : stk W M) (hl : W.length ≤ 260) (hw : ∀ w, w ∈ W → wok w) (hW : ∃ w V, W = w :: V ∧ (w / 1048576 = 13 ∨ (x1 = 0 ∧ w / 1048576 = 12))) : jb_lp (zf_199_H0 (nI x1)) M = some M := by
  refine jb_lp_inr ?_
  obtain ⟨w, V, rfl, h2⟩ := hW
  have t : zf_191 M = some (nI (w / 1048576)) := jd_top h hl (wok_lt hw)
  unfold zf_199_H0
  rw [t, Option.bind_some, Option.bind_some]
  rcases h2 with h2 | ⟨rfl, h2⟩
  · rw [h2, if_neg (by decide)]
    by_cases z : nI x1 = 0
    · rw [if_pos z]
    · rw [if_neg z, if_neg (by decide)]
  · rw [h2, if_neg (by decide), if_pos (show nI 0 = 0 from rfl)]
/-- '&', '|' -/
theorem jd_jump {b : Nat → Nat} {n f g p l o : Nat} {c : jPc} {V : List Nat} {M : jb_Mi} (hD : lD b n f p l c V M) (hI : lI f g p c V) (hp : p < 240) (ho : o = 11 ∨ o = 12) : ∃ M', zf_200 (nI o) M = some M' ∧ lD b n f (p + 1) l (c ++ [(o, 0)]) ((1048576 * o + (f + c.length)) :: V) M' ∧ lI f g (p + 1) (c ++ [(o, 0)]) ((1048576 * o + (f + c.length)) :: V) ∧ mX f M M' := by
  obtain ⟨i1, i2, i3⟩ := hI
  obtain ⟨d1, d2, d3, ⟨d4, d6⟩, d5⟩ := id hD
  have hX1 : mX f M (jb_up (jb_up M 85 V.length (nI (1048576 * o + (f + c.length)))) 79 11 (nI (V.length + 1))) := mX_u (mX_v (mX_0 f M) (by omega)) (by omega)
  have hD1 : lD b n f p l c ((1048576 * o + (f + c.length)) :: V) (jb_up (jb_up M 85 V.length (nI (1048576 * o + (f + c.length)))) 79 11 (nI (V.length + 1))) := by
    refine lD_of hD hX1 (by rw [jb_up_at, if_neg (by omega), jb_up_off (by decide), d2]) (by rw [jb_up_at, if_neg (by omega), jb_up_off (by decide), d3]) (by rw [jb_up_at, if_neg (by omega), jb_up_off (by decide)]) (by rw [jb_up_off (by decide), jb_up_off (by decide)]) (stk_push d5 (by rw [jb_up_at, if_pos ⟨rfl, rfl⟩]) (fun k => ?_))
    rw [jb_up_off (by decide), jb_up_at]
    by_cases z : k = V.length
    · rw [if_pos ⟨rfl, z⟩, if_pos z]
    · rw [if_neg (by omega), if_neg z]
  obtain ⟨M2, m1, m2, m3⟩ := jd_note hD1 (by omega) o 0 (nI o) 0 (by
    rw [jn_mull]
    unfold wrd
    rw [if_pos (by dsimp only; omega)]
    exact nI_add (1048576 * o) 0)
  have hX3 : odX M2 (jb_up M2 79 5 (nI (p + 1))) := odX_u (odX_0 M2) (by decide)
  refine ⟨jb_up M2 79 5 (nI (p + 1)), ?_, lD_o m2 hX3 (by rw [jb_up_at, if_pos ⟨rfl, rfl⟩]), ⟨?_, by rw [List.length_cons]; omega, fun w hw => ?_⟩, mX_t hX1 (mX_t m3 (mX_o hX3))⟩
  · unfold zf_200
    rw [d5.1, jn_gd (by omega) (by decide), nI_clamp (by omega), d4, jn_mull, nI_add, jb_up_off (show (79 : Nat) ≠ 85 by decide), d5.1, ← nI_succ, m1, Option.bind_some, m2.2.1, ← nI_succ]
  · rw [List.length_append, List.length_singleton]
    unfold cw
    rw [if_neg (by omega)]
    omega
  · rcases List.mem_cons.mp hw with rfl | hw
    · exact ⟨by omega, by rw [Nat.mul_add_mod]; have := Nat.mod_le (f + c.length) 1048576; omega⟩
    · exact i3 w hw
