/-! THE LAW: the reference's sums -/
theorem jd_h140 {W : List Nat} {M : jb_Mi} (h : stk W M) (hl : W.length ≤ 260) (hw : ∀ w, w ∈ W → wok w) {i : Nat} (hi : i < W.length) : zf_196_H2 M (nI i) = if W.getD (W.length - 1 - i) 0 / 1048576 = 14 then some (.inr true) else some (.inl (nI (i + 1))) := by
  have hx := h.2 (W.length - 1 - i) (by omega)
  have hb := wok_lt hw (W.length - 1 - i) (by omega)
  rw [show W.length - 1 - (W.length - 1 - i) = i by omega] at hx
  unfold zf_196_H2
  rw [h.1, if_pos (nI_lt hi (by omega)), jn_gd (by omega) (by decide), nI_clamp (by omega), hx, show nI (W.getD (W.length - 1 - i) 0) / 1048576 = nI (W.getD (W.length - 1 - i) 0 / 1048576) from pk_div (d := 1048576) hb (by decide) (by decide), nI_succ]
  have e : (nI (W.getD (W.length - 1 - i) 0 / 1048576) = 14) = (W.getD (W.length - 1 - i) 0 / 1048576 = 14) := jn_eq (b := 14) (by omega) (by decide)
  simp only [e]
theorem jd_h14 {W : List Nat} {M : jb_Mi} (h : stk W M) (hl : W.length ≤ 260) (hw : ∀ w, w ∈ W → wok w) : ∀ d i, i + d = W.length → ((∀ j, i ≤ j → j < W.length → W.getD (W.length - 1 - j) 0 / 1048576 ≠ 14) → zf_196 (nI i) M = some false) ∧ ((∃ j, i ≤ j ∧ j < W.length ∧ W.getD (W.length - 1 - j) 0 / 1048576 = 14) → zf_196 (nI i) M = some true) := by
  intro d
  induction d with
  | zero =>
    intro i hi
    refine ⟨fun _ => jb_lp_inr ?_, fun ⟨j, j1, j2, _⟩ => by omega⟩
    unfold zf_196_H2
    rw [h.1, if_neg (nI_nlt (by omega) (by omega))]
  | succ d ih =>
    intro i hi
    have s := jd_h140 h hl hw (show i < W.length by omega)
    obtain ⟨i1, i2⟩ := ih (i + 1) (by omega)
    by_cases c : W.getD (W.length - 1 - i) 0 / 1048576 = 14
    · rw [if_pos c] at s
      exact ⟨fun y => absurd c (y i (Nat.le_refl _) (by omega)), fun _ => jb_lp_inr s⟩
    · rw [if_neg c] at s
      refine ⟨fun y => ?_, fun ⟨j, j1, j2, j3⟩ => ?_⟩
      · rw [show zf_196 (nI i) M = zf_196 (nI (i + 1)) M from jb_lp_inl s]
        exact i1 (fun j h1 h2 => y j (by omega) h2)
      · rw [show zf_196 (nI i) M = zf_196 (nI (i + 1)) M from jb_lp_inl s]
        refine i2 ⟨j, ?_, j2, j3⟩
        rcases Nat.lt_or_ge i j with z | z
        · omega
        · have : j = i := by omega
          subst this
          exact absurd j3 c
theorem wS_len (fs : List sfr) (W : List Nat) : W.length ≤ (wS fs W).length := by
  induction fs with
  | nil => exact Nat.le_refl _
  | cons x r ih =>
    unfold wS
    rw [List.length_append, List.length_append, List.length_append]
    omega
theorem getD_mid (A : List Nat) (w : Nat) (V : List Nat) : (A ++ w :: V).getD A.length 0 = w := by
  rw [List.getD_eq_getElem?_getD, List.getElem?_append_right (Nat.le_refl _), Nat.sub_self]
  rfl
theorem getD_left {A V : List Nat} {k : Nat} (h : k < A.length) : (A ++ V).getD k 0 = A.getD k 0 := by
  rw [List.getD_eq_getElem?_getD, List.getD_eq_getElem?_getD, List.getElem?_append_left h]
theorem opw_len (o : Nat) : (opw o).length = bto o := by
  unfold opw bto
  split <;> rfl
theorem opw_at {o k : Nat} (h : k < (opw o).length) : (opw o).getD k 0 = 1048576 * o := by
  unfold opw at h ⊢
  by_cases e : o = 0
  · rw [if_pos e] at h
    simp at h
  · rw [if_neg e] at h ⊢
    simp at h
    subst h
    rfl
theorem opw_mem {o w : Nat} (h : w ∈ opw o) : w = 1048576 * o := by
  unfold opw at h
  split at h
  · simp at h
  · simpa using h
/-- is a bracket open inside the sum? -/
theorem jd_open14 {b : Nat → Nat} {n f g p l : Nat} {c : jPc} {x : sfr} {r : List sfr} {W0 : List Nat} {M : jb_Mi} (hD : lD b n f p l c (wS (x :: r) W0) M) (hI : lI f g p c (wS (x :: r) W0)) (hp : p ≤ 240) (hx : fOK p x) : zf_196 (nI W0.length) M = some (decide (r.length ≠ 0)) := by
  obtain ⟨i1, i2, i3⟩ := hI
  have hl : (wS (x :: r) W0).length ≤ 260 := by omega
  have hle := wS_len (x :: r) W0
  obtain ⟨q1, q2⟩ := jd_h14 hD.2.2.2.2 hl i3 ((wS (x :: r) W0).length - W0.length) W0.length (by omega)
  cases r with
  | nil =>
    rw [decide_eq_false (by simp)]
    refine q1 (fun j j1 j2 => ?_)
    have ew : wS [x] W0 = (opw x.2.2 ++ opw x.2.1) ++ W0 := by
      rw [List.append_assoc]
      rfl
    rw [ew] at j2 ⊢
    rw [List.length_append] at j2 ⊢
    generalize hk : (opw x.2.2 ++ opw x.2.1).length + W0.length - 1 - j = k
    have hk2 : k < (opw x.2.2 ++ opw x.2.1).length := by omega
    rw [getD_left hk2]
    by_cases hk3 : k < (opw x.2.2).length
    · rw [getD_left hk3, opw_at hk3, cop_o]
      have := hx.2.2
      omega
    · rw [List.getD_eq_getElem?_getD, List.getElem?_append_right (by omega), ← List.getD_eq_getElem?_getD, opw_at (by rw [List.length_append] at hk2; omega), cop_o]
      have := hx.2.1
      omega
  | cons y r =>
    rw [decide_eq_true (by simp)]
    have ew : wS (x :: y :: r) W0 = (opw x.2.2 ++ opw x.2.1) ++ 14680064 :: wS (y :: r) W0 := by
      rw [List.append_assoc]
      rfl
    refine q2 ⟨(wS (y :: r) W0).length, wS_len _ _, ?_, ?_⟩
    · rw [ew, List.length_append, List.length_cons]
      omega
    · rw [ew, List.length_append, List.length_cons, show (opw x.2.2 ++ opw x.2.1).length + ((wS (y :: r) W0).length + 1) - 1 - (wS (y :: r) W0).length = (opw x.2.2 ++ opw x.2.1).length by omega, getD_mid]
theorem jd_closeA {b : Nat → Nat} {n f g p l pt pf : Nat} {c : jPc} {V : List Nat} {M : jb_Mi} (hD : lD b n f p l c (opw pf ++ (opw pt ++ V)) M) (hI : lI f g p c (opw pf ++ (opw pt ++ V))) (hp : p ≤ 240) (h1 : pt = 0 ∨ pt = 2 ∨ pt = 3) (h2 : pf = 0 ∨ (4 ≤ pf ∧ pf ≤ 6)) (hV : tpo V) : ∃ M', zf_194 1 M = some M' ∧ lD b n f p l (app (app c pf) pt) V M' ∧ lI f g p (app (app c pf) pt) V ∧ mX f M M' := by
  obtain ⟨M1, a1, a2, a3, a4⟩ := jd_cl1 (x1 := 1) hD hI hp (by omega) (by omega)
  obtain ⟨M2, b1, b2, b3, b4⟩ := jd_cl1 (x1 := 1) a2 a3 hp (by omega) (by omega)
  have e := jd_cl0 (x1 := 1) b2.2.2.2.2 (by have := b3.2.1; omega) b3.2.2 (Or.inl hV)
  exact ⟨M2, by unfold zf_194; rw [show (1 : Int32) = nI 1 from rfl, a1, b1, e], b2, b3, mX_t a4 b4⟩
theorem jd_closeB {b : Nat → Nat} {n f g p l pt pf : Nat} {c : jPc} {V : List Nat} {M : jb_Mi} (hD : lD b n f p l c (opw pf ++ (opw pt ++ V)) M) (hI : lI f g p c (opw pf ++ (opw pt ++ V))) (hp : p ≤ 240) (h1 : pt = 0 ∨ pt = 2 ∨ pt = 3) (h2 : pf = 0 ∨ (4 ≤ pf ∧ pf ≤ 6)) (hV : tpo V) : ∃ M', zf_194 0 M = some M' ∧ lD b n f p l (app c pf) (opw pt ++ V) M' ∧ lI f g p (app c pf) (opw pt ++ V) ∧ mX f M M' := by
  obtain ⟨M1, a1, a2, a3, a4⟩ := jd_cl1 (x1 := 0) hD hI hp (by omega) (by omega)
  have e := jd_cl0 (x1 := 0) a2.2.2.2.2 (by have := a3.2.1; omega) a3.2.2 (by
    by_cases z : pt = 0
    · refine Or.inl ?_
      rw [z]
      exact hV
    · refine Or.inr ⟨rfl, pt, V, ?_, by omega⟩
      unfold opw
      rw [if_neg z]
      rfl)
  exact ⟨M1, by unfold zf_194; rw [show (0 : Int32) = nI 0 from rfl, a1, e], a2, a3, a4⟩
def sQ (b : Nat → Nat) (n f g : Nat) (W0 : List Nat) (l : Nat) (F : lwR) (M : jb_Mi) (r : Bool × jb_Mi) : Prop := mX f M r.2 ∧ match F with
  | .inl e => r.1 = false ∧ r.2 79 7 = zf_74 (nI e.1) (nI e.2)
  | .inr y => r.1 = true ∧ lD b n f y.1 l y.2 W0 r.2 ∧ lI f g y.1 y.2 W0 ∧ y.1 ≤ n
theorem sQ_t {b : Nat → Nat} {n f g l : Nat} {W0 : List Nat} {F : lwR} {M M1 : jb_Mi} {r : Bool × jb_Mi} (hX : mX f M M1) (h : sQ b n f g W0 l F M1 r) : sQ b n f g W0 l F M r := ⟨mX_t hX h.1, h.2⟩
theorem sQ_bad {b : Nat → Nat} {n f g l x q : Nat} {W0 : List Nat} {M M1 : jb_Mi} (hX : mX f M M1) : sQ b n f g W0 l (.inl (x, q)) M (zf_186 (nI x) (nI q) M1) := ⟨by rw [df_186]; exact mX_u hX (by decide), rfl, by rw [df_186]; dsimp only; rw [jb_up_at, if_pos ⟨rfl, rfl⟩]⟩
theorem tpo_sep {r : List sfr} {W0 : List Nat} (h : tpo W0) : tpo (sep r ++ wS r W0) := by
  cases r with
  | nil => exact h
  | cons y r =>
    show 7 ≤ 14680064 / 1048576
    decide
theorem jd_sumL {b : Nat → Nat} {n f g L : Nat} {W0 : List Nat} (hn : n ≤ 240) (hL : L ≤ 6) (h0 : tpo W0) : ∀ (k q l : Nat) (c : jPc) (fs : List sfr) (M : jb_Mi), n < q + k → fs ≠ [] → l + fs.length = L + 1 → lD b n f q l c (wS fs W0) M → lI f g q c (wS fs W0) → 0 < q → q ≤ n → (∀ x, x ∈ fs → fOK (q - 1) x) → ∃ r, jb_lp (zf_197_H14 (nI W0.length)) M = some r ∧ sQ b n f g W0 L (resG b n fs l q c) M r := by
  intro k
  induction k with
  | zero => intros; omega
  | succ k ih =>
    intro q l c fs M hk hfs hlL hD hI hq0 hq hfo
    cases fs with
    | nil => exact absurd rfl hfs
    | cons x r =>
      have hb := tdB_b hD.1
      have hc := ch_le hb q
      have hx := hfo x (by simp)
      obtain ⟨fu, pt, pf⟩ := x
      have hx' := hx
      unfold fOK at hx'
      dsimp only at hx'
      have ek := sgc_peek hD.1 (show q < 2 ^ 31 by omega) hD.2.1
      have s93 : (sgc (ch b n q) = 93) = (ch b n q = 93) := sgc_eq (k := 93) hc (by decide)
      have h14 := jd_open14 hD hI (by omega) (fOK_m hx (show q - 1 ≤ q by omega))
      have hfoR : ∀ p', q ≤ p' → ∀ y, y ∈ r → fOK p' y := fun p' hp' y hy => fOK_m (hfo y (List.mem_cons_of_mem _ hy)) (by omega)
      rw [List.length_cons] at hlL
      have hso := sgn_ok (c := ch b n q)
      -- reading a factor, then on
      have goF : ∀ (M1 : jb_Mi) (c1 : jPc) (pt1 pf1 : Nat), mX f M M1 → q + 1 ≤ n → lD b n f (q + 1) l c1 (wS ((fu - 1, pt1, pf1) :: r) W0) M1 → lI f g (q + 1) c1 (wS ((fu - 1, pt1, pf1) :: r) W0) → (pt1 = 0 ∨ pt1 = 2 ∨ pt1 = 3) → (pf1 = 0 ∨ (4 ≤ pf1 ∧ pf1 ≤ 6)) → zf_197_H14 (nI W0.length) M = ((zf_195 M1).bind fun q10 => if (jb_b2i q10.1) = 0 then some (.inr (false, q10.2)) else zf_197_J163 (nI W0.length) q10.2) → resG b n ((fu, pt, pf) :: r) l q c = resF b n ((fu - 1, pt1, pf1) :: r) l (q + 1) c1 → ∃ z, jb_lp (zf_197_H14 (nI W0.length)) M = some z ∧ sQ b n f g W0 L (resG b n ((fu, pt, pf) :: r) l q c) M z := by
        intro M1 c1 pt1 pf1 hX1 hq1n hD1 hI1 g1 g2 e1 e2
        obtain ⟨z, z1, z2, z3⟩ := jd_fac hn (show L + 1 ≤ 7 by omega) (n + 1) (q + 1) l c1 ((fu - 1, pt1, pf1) :: r) M1 (by omega) (by simp) (by rw [List.length_cons]; omega) hD1 hI1 hq1n (fun y hy => by
          rcases List.mem_cons.mp hy with rfl | hy
          · exact ⟨by dsimp only; omega, g1, g2⟩
          · exact hfoR (q + 1) (by omega) y hy)
        unfold zf_195 at e1
        rw [z1, Option.bind_some] at e1
        rw [e2]
        rcases z3 with ⟨y1, e, y2, y3⟩ | ⟨y1, p', l', c', fs', y2, y3, y4, y5, y6, y7, y8, y9⟩
        · rw [y1, jb_no] at e1
          rw [y2]
          exact ⟨_, jb_lp_inr e1, mX_t hX1 z2, rfl, y3⟩
        · rw [y1, jb_yes] at e1
          unfold zf_197_J163 at e1
          rw [y9, jb_lp_inl e1]
          obtain ⟨w, w1, w2⟩ := ih p' l' c' fs' z.2 (by omega) y2 y3 y4 y5 (by omega) y7 y8
          exact ⟨w, w1, sQ_t (mX_t hX1 z2) w2⟩
      have hfu : fu - 1 + 1 = fu := by omega
      have hK : exK b n (spF b n l) fu pt pf q c = if 4 ≤ sgn (ch b n q) then bnd (spF b n l (q + 1) (app c pf)) (exK b n (spF b n l) (fu - 1) pt (sgn (ch b n q))) else if sgn (ch b n q) = 0 then .inr (q, app (app c pf) pt) else bnd (spF b n l (q + 1) (app (app c pf) pt)) (exK b n (spF b n l) (fu - 1) (sgn (ch b n q)) 0) := by
        unfold exK
        rw [← hfu, exL_s, exL_s]
        rfl
      have hG : resG b n ((fu, pt, pf) :: r) l q c = bnd (exK b n (spF b n l) fu pt pf q c) (fun q' c' => if r.length = 0 then .inr (q', c') else if ch b n q' = 93 then resG b n r (l + 1) (q' + 1) c' else .inl (1, q')) := rfl
      by_cases k1 : sgn (ch b n q) = 0
      · -- no sign: the sum ends here, or a bracket
        obtain ⟨M1, a1, a2, a3, a4⟩ := jd_closeA hD hI (by omega) hx'.2.1 hx'.2.2 (tpo_sep h0)
        have hF : resG b n ((fu, pt, pf) :: r) l q c = if r.length = 0 then .inr (q, app (app c pf) pt) else if ch b n q = 93 then resG b n r (l + 1) (q + 1) (app (app c pf) pt) else .inl (1, q) := by
          rw [hG, hK, if_neg (by omega), if_pos k1]
          rfl
        have e138 : zf_197_J138 (nI W0.length) M = if r.length = 0 then some (true, M1) else some (zf_186 (nI 1) (nI q) M) := by
          unfold zf_197_J138
          rw [h14, Option.bind_some, a1, Option.bind_some, hD.2.1]
          by_cases z : r.length = 0
          · rw [decide_eq_false (fun y => y z), jb_no, if_pos z]
          · rw [decide_eq_true z, jb_yes, if_neg z]
            rfl
        have e0 : zf_197_H14 (nI W0.length) M = if ch b n q = 93 ∧ r.length ≠ 0 then zf_197_J163 (nI W0.length) (jb_up (jb_up (jb_up M1 79 11 ((M1 79 11) - 1)) 79 9 (((jb_up M1 79 11 ((M1 79 11) - 1)) 79 9) - 1)) 79 5 (((jb_up (jb_up M1 79 11 ((M1 79 11) - 1)) 79 9 (((jb_up M1 79 11 ((M1 79 11) - 1)) 79 9) - 1)) 79 5) + 1)) else (zf_197_J138 (nI W0.length) M).map .inr := by
          unfold zf_197_H14
          rw [ek, Option.bind_some, sgn_d hc, if_pos k1, if_pos rfl, Option.bind_some]
          simp only [s93]
          by_cases z1 : ch b n q = 93
          · rw [if_pos z1, h14, Option.bind_some]
            by_cases z2 : r.length = 0
            · rw [decide_eq_false (fun y => y z2), jb_no, if_neg (fun y => y.2 z2)]
            · rw [decide_eq_true z2, jb_yes, if_pos ⟨z1, z2⟩, a1, Option.bind_some]
          · rw [if_neg z1, if_neg (fun y => z1 y.1)]
        by_cases z : r.length = 0
        · rw [if_neg (fun y => y.2 z), e138, if_pos z] at e0
          rw [hF, if_pos z]
          have hr : r = [] := List.eq_nil_of_length_eq_zero z
          subst hr
          have : l = L := by simp at hlL; omega
          subst this
          exact ⟨_, jb_lp_inr e0, a4, rfl, a2, a3, hq⟩
        · rw [hF, if_neg z]
          by_cases z2 : ch b n q = 93
          · have hqn := ch_in hb (k := q) (by omega)
            rw [if_pos z2]
            rw [if_pos ⟨z2, z⟩] at e0
            cases r with
            | nil => exact absurd rfl z
            | cons y r =>
              have a2' : lD b n f q l (app (app c pf) pt) (14680064 :: wS (y :: r) W0) M1 := a2
              have a3' : lI f g q (app (app c pf) pt) (14680064 :: wS (y :: r) W0) := a3
              obtain ⟨d1, d2, d3, d4, d5⟩ := id a2'
              have e11 : M1 79 11 - 1 = nI (wS (y :: r) W0).length := by rw [d5.1, List.length_cons, nI_pred]
              have e9 : jb_up M1 79 11 (nI (wS (y :: r) W0).length) 79 9 - 1 = nI (6 - (l + 1)) := by
                rw [jb_up_at, if_neg (by omega), d3, show 6 - l = (6 - (l + 1)) + 1 by simp at hlL; omega, nI_pred]
              have e5 : jb_up (jb_up M1 79 11 (nI (wS (y :: r) W0).length)) 79 9 (nI (6 - (l + 1))) 79 5 + 1 = nI (q + 1) := by
                rw [jb_up_at, if_neg (by omega), jb_up_at, if_neg (by omega), d2, nI_succ]
              unfold zf_197_J163 at e0
              rw [e11, e9, e5] at e0
              have hX2 : mX f M1 (jb_up (jb_up (jb_up M1 79 11 (nI (wS (y :: r) W0).length)) 79 9 (nI (6 - (l + 1)))) 79 5 (nI (q + 1))) := mX_u (mX_u (mX_u (mX_0 f M1) (by omega)) (by omega)) (by omega)
              have hD2 : lD b n f (q + 1) (l + 1) (app (app c pf) pt) (wS (y :: r) W0) (jb_up (jb_up (jb_up M1 79 11 (nI (wS (y :: r) W0).length)) 79 9 (nI (6 - (l + 1)))) 79 5 (nI (q + 1))) := by
                refine lD_of a2' hX2 (by rw [jb_up_at, if_pos ⟨rfl, rfl⟩]) (by rw [jb_up_at, if_neg (by omega), jb_up_at, if_pos ⟨rfl, rfl⟩]) (by rw [jb_up_at, if_neg (by omega), jb_up_at, if_neg (by omega), jb_up_at, if_neg (by omega)]) (by rw [jb_up_off (by decide), jb_up_off (by decide), jb_up_off (by decide)]) (stk_pop d5 ?_ ?_)
                · rw [jb_up_at, if_neg (by omega), jb_up_at, if_neg (by omega), jb_up_at, if_pos ⟨rfl, rfl⟩]
                · rw [jb_up_off (by decide), jb_up_off (by decide), jb_up_off (by decide)]
              have hI2 : lI f g (q + 1) (app (app c pf) pt) (wS (y :: r) W0) := by
                obtain ⟨i1, i2, i3⟩ := a3'
                unfold cw at i1
                rw [List.length_cons] at i2
                exact ⟨by omega, by omega, fun w hw => i3 w (List.mem_cons_of_mem _ hw)⟩
              rw [jb_lp_inl e0]
              obtain ⟨w, w1, w2⟩ := ih (q + 1) (l + 1) (app (app c pf) pt) (y :: r) _ (by omega) (by simp) (by simp at hlL ⊢; omega) hD2 hI2 (by omega) (by omega) (hfoR (q + 1 - 1) (by omega))
              exact ⟨w, w1, sQ_t (mX_t a4 hX2) w2⟩
          · rw [if_neg (fun y => z2 y.1), e138, if_neg z] at e0
            rw [if_neg z2]
            exact ⟨_, jb_lp_inr e0, sQ_bad (x := 1) (mX_0 f M)⟩
      · have hqn := ch_in hb (hso.2.2 k1)
        -- a sign is pushed
        have push : ∀ (M1 : jb_Mi) (c1 : jPc) (V : List Nat), lD b n f q l c1 V M1 → lI f g q c1 V → mX f M M1 → zf_197_H14 (nI W0.length) M = (some M1).bind (fun q8 => jb_gd (q8 79 11) 260 ((zf_195 (jb_up (jb_up (jb_up q8 85 ((q8 79 11)).toNatClampNeg (1048576 * nI (sgn (ch b n q)))) 79 11 (((jb_up q8 85 ((q8 79 11)).toNatClampNeg (1048576 * nI (sgn (ch b n q)))) 79 11) + 1)) 79 5 (((jb_up (jb_up q8 85 ((q8 79 11)).toNatClampNeg (1048576 * nI (sgn (ch b n q)))) 79 11 (((jb_up q8 85 ((q8 79 11)).toNatClampNeg (1048576 * nI (sgn (ch b n q)))) 79 11) + 1)) 79 5) + 1))).bind fun q10 => if (jb_b2i q10.1) = 0 then some (.inr (false, q10.2)) else zf_197_J163 (nI W0.length) q10.2)) → ∃ M2, zf_197_H14 (nI W0.length) M = ((zf_195 M2).bind fun q10 => if (jb_b2i q10.1) = 0 then some (.inr (false, q10.2)) else zf_197_J163 (nI W0.length) q10.2) ∧ mX f M M2 ∧ lD b n f (q + 1) l c1 ((1048576 * sgn (ch b n q)) :: V) M2 ∧ lI f g (q + 1) c1 ((1048576 * sgn (ch b n q)) :: V) := by
          intro M1 c1 V hD1 hI1 hX1 e1
          obtain ⟨d1, d2, d3, d4, d5⟩ := id hD1
          obtain ⟨i1, i2, i3⟩ := hI1
          have hX2 : mX f M1 (jb_up (jb_up (jb_up M1 85 V.length (nI (1048576 * sgn (ch b n q)))) 79 11 (nI (V.length + 1))) 79 5 (nI (q + 1))) := mX_u (mX_u (mX_v (mX_0 f M1) (by omega)) (by omega)) (by omega)
          refine ⟨jb_up (jb_up (jb_up M1 85 V.length (nI (1048576 * sgn (ch b n q)))) 79 11 (nI (V.length + 1))) 79 5 (nI (q + 1)), ?_, mX_t hX1 hX2, ?_, ?_⟩
          · rw [e1, Option.bind_some, d5.1, jn_gd (by omega) (by decide), nI_clamp (by omega), jn_mull, jb_up_off (show (79 : Nat) ≠ 85 by decide), d5.1, ← nI_succ, show jb_up (jb_up M1 85 V.length (nI (1048576 * sgn (ch b n q)))) 79 11 (nI (V.length + 1)) 79 5 + 1 = nI (q + 1) by rw [jb_up_at, if_neg (by omega), jb_up_off (by decide), d2, nI_succ]]
          · refine lD_of hD1 hX2 (by rw [jb_up_at, if_pos ⟨rfl, rfl⟩]) (by rw [jb_up_at, if_neg (by omega), jb_up_at, if_neg (by omega), jb_up_off (by decide), d3]) (by rw [jb_up_at, if_neg (by omega), jb_up_at, if_neg (by omega), jb_up_off (by decide)]) (by rw [jb_up_off (by decide), jb_up_off (by decide), jb_up_off (by decide)]) (stk_push d5 ?_ (fun k => ?_))
            · rw [jb_up_at, if_neg (by omega), jb_up_at, if_pos ⟨rfl, rfl⟩]
            · rw [jb_up_off (by decide), jb_up_off (by decide), jb_up_at]
              by_cases z : k = V.length
              · rw [if_pos ⟨rfl, z⟩, if_pos z]
              · rw [if_neg (by omega), if_neg z]
          · refine ⟨?_, by rw [List.length_cons]; omega, fun w hw => ?_⟩
            · unfold cw
              rw [if_pos (by omega)]
              omega
            · rcases List.mem_cons.mp hw with rfl | hw
              · exact ⟨by omega, by rw [Nat.mul_mod_right]; omega⟩
              · exact i3 w hw
        have e0 : zf_197_H14 (nI W0.length) M = if sgn (ch b n q) < 4 then zf_197_J38 (nI W0.length) (nI (sgn (ch b n q))) 1 M else zf_197_J38 (nI W0.length) (nI (sgn (ch b n q))) 0 M := by
          unfold zf_197_H14
          rw [ek, Option.bind_some, sgn_d hc, if_neg k1, if_neg (fun y => ((jn_m1 (a := sgn (ch b n q)) (by omega)).mp y).elim)]
          by_cases z : sgn (ch b n q) < 4
          · rw [if_pos (show nI (sgn (ch b n q)) < 4 from nI_lt (b := 4) z (by decide)), if_pos z]
          · rw [if_neg (show ¬ nI (sgn (ch b n q)) < 4 from nI_nlt (b := 4) (by omega) (by omega)), if_neg z]
        by_cases k2 : 4 ≤ sgn (ch b n q)
        · rw [if_neg (by omega)] at e0
          obtain ⟨M1, a1, a2, a3, a4⟩ := jd_closeB hD hI (by omega) hx'.2.1 hx'.2.2 (tpo_sep h0)
          unfold zf_197_J38 at e0
          rw [a1] at e0
          obtain ⟨M2, p1, p2, p3, p4⟩ := push M1 (app c pf) _ a2 a3 a4 e0
          have ew : wS ((fu - 1, pt, sgn (ch b n q)) :: r) W0 = (1048576 * sgn (ch b n q)) :: (opw pt ++ (sep r ++ wS r W0)) := by
            show opw (sgn (ch b n q)) ++ _ = _
            unfold opw
            rw [if_neg k1]
            rfl
          refine goF M2 (app c pf) pt (sgn (ch b n q)) p2 (by omega) (by rw [ew]; exact p3) (by rw [ew]; exact p4) hx'.2.1 (Or.inr ⟨k2, hso.1⟩) p1 ?_
          rw [hG, hK, if_pos k2]
          unfold resF
          cases spF b n l (q + 1) (app c pf) with
          | inl e => rfl
          | inr y => rfl
        · rw [if_pos (by omega)] at e0
          obtain ⟨M1, a1, a2, a3, a4⟩ := jd_closeA hD hI (by omega) hx'.2.1 hx'.2.2 (tpo_sep h0)
          unfold zf_197_J38 at e0
          rw [a1] at e0
          obtain ⟨M2, p1, p2, p3, p4⟩ := push M1 (app (app c pf) pt) _ a2 a3 a4 e0
          have ew : wS ((fu - 1, sgn (ch b n q), 0) :: r) W0 = (1048576 * sgn (ch b n q)) :: (sep r ++ wS r W0) := by
            show [] ++ (opw (sgn (ch b n q)) ++ _) = _
            unfold opw
            rw [if_neg k1]
            rfl
          refine goF M2 (app (app c pf) pt) (sgn (ch b n q)) 0 p2 (by omega) (by rw [ew]; exact p3) (by rw [ew]; exact p4) (by omega) (Or.inl rfl) p1 ?_
          rw [hG, hK, if_neg k2, if_neg k1]
          unfold resF
          cases spF b n l (q + 1) (app (app c pf) pt) with
          | inl e => rfl
          | inr y => rfl
theorem bnd_inr (x : lwR) : bnd x (fun q c => .inr (q, c)) = x := by
  cases x with
  | inl e => rfl
  | inr y => rfl
theorem jd_sum {b : Nat → Nat} {n f g p l : Nat} {c : jPc} {W : List Nat} {M : jb_Mi} (hn : n ≤ 240) (hl : l ≤ 6) (hW : tpo W) (hD : lD b n f p l c W M) (hI : lI f g p c W) (hp : p ≤ n) : ∃ r, zf_197 M = some r ∧ sQ b n f g W l (spE b n l p c) M r := by
  have eF : spE b n l p c = resF b n [(240, 0, 0)] l p c := by
    rw [spE_F, exL_s]
    unfold resF
    cases spF b n l p c with
    | inl e => rfl
    | inr y =>
      show exK b n (spF b n l) 240 0 0 y.1 y.2 = bnd (exK b n (spF b n l) 240 0 0 y.1 y.2) (fun q' c' => .inr (q', c'))
      rw [bnd_inr]
  obtain ⟨z, z1, z2, z3⟩ := jd_fac (g := g) (W0 := W) hn (show l + 1 ≤ 7 by omega) (n + 1) p l c [(240, 0, 0)] M (by omega) (by simp) rfl hD hI hp (fun y hy => by
    simp at hy
    subst hy
    exact ⟨by dsimp only; omega, Or.inl rfl, Or.inl rfl⟩)
  unfold zf_197 zf_195
  rw [z1, Option.bind_some, hD.2.2.2.2.1, eF]
  rcases z3 with ⟨y1, e, y2, y3⟩ | ⟨y1, p', l', c', fs', y2, y3, y4, y5, y6, y7, y8, y9⟩
  · rw [y1, jb_no, y2]
    exact ⟨_, rfl, z2, rfl, y3⟩
  · rw [y1, jb_yes, y9]
    obtain ⟨w, w1, w2⟩ := jd_sumL hn hl hW (n + 1) p' l' c' fs' z.2 (by omega) y2 y3 y4 y5 (by omega) y7 y8
    exact ⟨w, w1, sQ_t z2 w2⟩
