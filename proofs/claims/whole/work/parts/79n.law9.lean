/-! THE LAW: the reference reads sums -/
theorem fct_d {c : Nat} (hc : c ≤ 256) : zf_192 (sgc c) = if fct c < 10 then nI (fct c) else -1 := fct_c hc
theorem sgn_d {c : Nat} (hc : c ≤ 256) : zf_193 (sgc c) = if sgn c = 0 then -1 else nI (sgn c) := by
  have h : ∀ c, c < 257 → zf_193 (sgc c) = if sgn c = 0 then -1 else nI (sgn c) := by
    unfold zf_193 sgc sgn
    decide +kernel
  exact h c (by omega)
theorem jd_nm1 {b : Nat → Nat} {n p0 p v : Nat} {M : jb_Mi} (hT : tdB b n M) (hp : M 79 5 = nI p) (hpn : p < 300) (h8 : M 79 8 = nI v) (hv : v < 100000) (h0 : p0 < 300) : zf_188_H10 (nI p0) M = if dgt (ch b n p) then (if p = p0 + 5 then some (.inr (false, jb_up M 79 7 (zf_74 (nI 2) (nI p)))) else some (.inl (jb_up (jb_up M 79 8 (nI (10 * v + (ch b n p - 48)))) 79 5 (nI (p + 1))))) else some (.inr (true, M)) := by
  have hc := ch_le (tdB_b hT) p
  unfold zf_188_H10
  rw [sgc_dig hT (by omega) hp, Option.bind_some]
  by_cases c : dgt (ch b n p)
  · rw [decide_eq_true c, jb_yes, if_pos c, hp, jn_addr]
    have e : (nI p = nI (p0 + 5)) = (p = p0 + 5) := jn_eq (by omega) (by omega)
    simp only [e]
    by_cases c2 : p = p0 + 5
    · rw [if_pos c2, if_pos c2]
      rfl
    · rw [if_neg c2, if_neg c2, sgc_peek hT (by omega) hp, Option.bind_some]
      have c' := c
      unfold dgt at c'
      rw [h8, sgc_in (by omega), jn_mull, nI_add, show nI (10 * v + ch b n p) - 48 = nI (10 * v + (ch b n p - 48)) from by rw [show (48 : Int32) = nI 48 from rfl, pk_sub (by omega), Nat.add_sub_assoc (by omega)], jb_up_at, if_neg (by omega), hp, nI_succ]
  · rw [decide_eq_false c, jb_no, if_neg c]
theorem jd_nm {b : Nat → Nat} {n p0 : Nat} (h0 : p0 < 290) : ∀ (f k v p : Nat) (M : jb_Mi), k + f = 5 → p = p0 + k → tdB b n M → M 79 5 = nI p → M 79 8 = nI v → v < 10 ^ k → ∃ r, jb_lp (zf_188_H10 (nI p0)) M = some r ∧ odX M r.2 ∧ match nmR b n f v p with
    | .inl e => r.1 = false ∧ r.2 79 7 = zf_74 (nI e.1) (nI e.2)
    | .inr y => r.1 = true ∧ r.2 79 8 = nI y.2 ∧ r.2 79 5 = nI y.1 := by
  intro f
  induction f with
  | zero =>
    intro k v p M hk hpk hT hp h8 hv
    have hk5 : k = 5 := by omega
    subst hk5
    have s := jd_nm1 (p0 := p0) hT hp (by omega) h8 (by omega) (by omega)
    unfold nmR
    by_cases c : dgt (ch b n p)
    · rw [if_pos c, if_pos hpk] at s
      rw [if_pos c]
      refine ⟨_, jb_lp_inr s, odX_u (odX_0 M) (by decide), rfl, ?_⟩
      dsimp only
      rw [jb_up_at, if_pos ⟨rfl, rfl⟩]
    · rw [if_neg c] at s
      rw [if_neg c]
      exact ⟨_, jb_lp_inr s, odX_0 M, rfl, h8, hp⟩
  | succ f ih =>
    intro k v p M hk hpk hT hp h8 hv
    have hv5 : v < 100000 := Nat.lt_of_lt_of_le hv (by
      have : 10 ^ k ≤ 10 ^ 5 := Nat.pow_le_pow_right (by decide) (by omega)
      omega)
    have s := jd_nm1 (p0 := p0) hT hp (by omega) h8 hv5 (by omega)
    unfold nmR
    by_cases c : dgt (ch b n p)
    · rw [if_pos c, if_neg (by omega)] at s
      rw [if_pos c, jb_lp_inl s]
      have hX : odX M (jb_up (jb_up M 79 8 (nI (10 * v + (ch b n p - 48)))) 79 5 (nI (p + 1))) := odX_u (odX_u (odX_0 M) (by decide)) (by decide)
      obtain ⟨r, r1, r2, r3⟩ := ih (k + 1) (10 * v + (ch b n p - 48)) (p + 1) _ (by omega) (by omega) (tdB_o hT hX) (by rw [jb_up_at, if_pos ⟨rfl, rfl⟩]) (by rw [jb_up_at, if_neg (by omega), jb_up_at, if_pos ⟨rfl, rfl⟩]) (by rw [Nat.pow_succ]; unfold dgt at c; omega)
      exact ⟨r, r1, odX_t hX r2, r3⟩
    · rw [if_neg c] at s
      rw [if_neg c]
      exact ⟨_, jb_lp_inr s, odX_0 M, rfl, h8, hp⟩
theorem mX_o {f : Nat} {M M' : jb_Mi} (h : odX M M') : mX f M M' := ⟨fun a q1 _ _ => h.1 a q1, fun j q1 q2 q3 _ _ _ => h.2 j q1 q2 q3, fun j _ => by rw [h.1 84 (by decide)]⟩
theorem lD_o {b : Nat → Nat} {n f p q l : Nat} {c : jPc} {W : List Nat} {M M' : jb_Mi} (h : lD b n f p l c W M) (hx : odX M M') (h5 : M' 79 5 = nI q) : lD b n f q l c W M' :=
  lD_of h (mX_o hx) h5 (by rw [hx.2 9 (by decide) (by decide) (by decide), h.2.2.1]) (hx.2 10 (by decide) (by decide) (by decide)) (hx.1 84 (by decide)) (stk_of h.2.2.2.2 (hx.2 11 (by decide) (by decide) (by decide)) (fun k _ => by rw [hx.1 85 (by decide)]))
/-! frames of a sum: fuel, the + or - that waits, the * / % that waits -/
abbrev sfr : Type := Nat × Nat × Nat
def sep (r : List sfr) : List Nat := match r with
  | [] => []
  | _ :: _ => [14680064]
def wS : List sfr → List Nat → List Nat
  | [], W => W
  | x :: r, W => opw x.2.2 ++ (opw x.2.1 ++ (sep r ++ wS r W))
def resG (b : Nat → Nat) (n : Nat) : List sfr → Nat → Nat → jPc → lwR
  | [], _, q, c => .inr (q, c)
  | x :: r, l, q, c => bnd (exK b n (spF b n l) x.1 x.2.1 x.2.2 q c) fun q' c' => if r.length = 0 then .inr (q', c') else if ch b n q' = 93 then resG b n r (l + 1) (q' + 1) c' else .inl (1, q')
def resF (b : Nat → Nat) (n : Nat) (fs : List sfr) (l p : Nat) (c : jPc) : lwR := bnd (spF b n l p c) (resG b n fs l)
def fOK (p : Nat) (x : sfr) : Prop := 480 ≤ 2 * x.1 + p ∧ (x.2.1 = 0 ∨ x.2.1 = 2 ∨ x.2.1 = 3) ∧ (x.2.2 = 0 ∨ (4 ≤ x.2.2 ∧ x.2.2 ≤ 6))
theorem fOK_m {p q : Nat} {x : sfr} (h : fOK p x) (hq : p ≤ q) : fOK q x := ⟨by have := h.1; omega, h.2⟩
theorem resF_open {b : Nat → Nat} {n l p : Nat} {c : jPc} {fs : List sfr} (h : ch b n p = 91) (hf : fs ≠ []) : resF b n fs (l + 1) p c = resF b n ((240, 0, 0) :: fs) l (p + 1) c := by
  have hl : fs.length ≠ 0 := fun y => hf (List.eq_nil_of_length_eq_zero y)
  have e : spF b n (l + 1) p c = bnd (spE b n l (p + 1) c) fun q c' => if ch b n q = 93 then .inr (q + 1, c') else .inl (1, q) := by
    show fcR b n (l + 1) (spE b n l) p c = _
    unfold fcR
    rw [if_neg (by unfold dgt; omega), if_pos h, if_neg (by omega)]
  unfold resF
  rw [e, spE_F, exL_s]
  cases spF b n l (p + 1) c with
  | inl x => rfl
  | inr y =>
    show bnd (bnd (exK b n (spF b n l) 240 0 0 y.1 y.2) fun q c' => if ch b n q = 93 then .inr (q + 1, c') else .inl (1, q)) (resG b n fs (l + 1)) = bnd (exK b n (spF b n l) 240 0 0 y.1 y.2) fun q' c' => if fs.length = 0 then .inr (q', c') else if ch b n q' = 93 then resG b n fs (l + 1) (q' + 1) c' else .inl (1, q')
    cases exK b n (spF b n l) 240 0 0 y.1 y.2 with
    | inl x => rfl
    | inr z =>
      unfold bnd
      dsimp only
      rw [if_neg hl]
      by_cases c4 : ch b n z.1 = 93
      · rw [if_pos c4, if_pos c4]
      · rw [if_neg c4, if_neg c4]
def fQ (b : Nat → Nat) (n f g : Nat) (W0 : List Nat) (L : Nat) (F : lwR) (p : Nat) (M : jb_Mi) (r : Bool × jb_Mi) : Prop := mX f M r.2 ∧ ((r.1 = false ∧ ∃ e, F = .inl e ∧ r.2 79 7 = zf_74 (nI e.1) (nI e.2)) ∨ (r.1 = true ∧ ∃ p' l c fs, fs ≠ [] ∧ l + fs.length = L ∧ lD b n f p' l c (wS fs W0) r.2 ∧ lI f g p' c (wS fs W0) ∧ p < p' ∧ p' ≤ n ∧ (∀ x, x ∈ fs → fOK (p' - 1) x) ∧ F = resG b n fs l p' c))
theorem lI_m {f g p q : Nat} {c : jPc} {W : List Nat} (h : lI f g p c W) (hq : p ≤ q) : lI f g q c W := ⟨by have := h.1; omega, by have := h.2.1; omega, h.2.2⟩
theorem lI_s {f g p q : Nat} {c : jPc} {W : List Nat} {x : Nat × Nat} (h : lI f g p c W) (hq : p < q) : lI f g q (c ++ [x]) W := ⟨by have := h.1; rw [List.length_append, List.length_singleton]; omega, by have := h.2.1; omega, h.2.2⟩
theorem jd_fac {b : Nat → Nat} {n f g L : Nat} {W0 : List Nat} (hn : n ≤ 240) (hL : L ≤ 7) : ∀ (k p l : Nat) (c : jPc) (fs : List sfr) (M : jb_Mi), n < p + k → fs ≠ [] → l + fs.length = L → lD b n f p l c (wS fs W0) M → lI f g p c (wS fs W0) → p ≤ n → (∀ x, x ∈ fs → fOK p x) → ∃ r, jb_lp zf_195_H0 M = some r ∧ fQ b n f g W0 L (resF b n fs l p c) p M r := by
  intro k
  induction k with
  | zero => intros; omega
  | succ k ih =>
    intro p l c fs M hk hfs hlL hD hI hp hfo
    have hb := tdB_b hD.1
    have hc := ch_le hb p
    have hfl : 0 < fs.length := List.length_pos_iff.mpr hfs
    have ek := sgc_peek hD.1 (show p < 2 ^ 31 by omega) hD.2.1
    have s91 : (sgc (ch b n p) = 91) = (ch b n p = 91) := sgc_eq (k := 91) hc (by decide)
    have bad : ∀ x q, zf_195_H0 M = some (.inr (zf_186 (nI x) (nI q) M)) → resF b n fs l p c = .inl (x, q) → ∃ r, jb_lp zf_195_H0 M = some r ∧ fQ b n f g W0 L (resF b n fs l p c) p M r := by
      intro x q e1 e2
      rw [e2]
      refine ⟨_, jb_lp_inr e1, mX_u (mX_0 f M) (by decide), Or.inl ⟨rfl, (x, q), rfl, ?_⟩⟩
      rw [df_186]
      dsimp only
      rw [jb_up_at, if_pos ⟨rfl, rfl⟩]
    by_cases c1 : ch b n p = 91
    · have hpn := ch_in hb (k := p) (by omega)
      obtain ⟨o1, o2⟩ := jd_opens (o := 14) hD (by omega) (by have := hI.2.1; omega)
      have e0 : zf_195_H0 M = (zf_190 (nI 14) M).bind fun q2 => if (jb_b2i q2.1) = 0 then some (.inr (false, q2.2)) else some (.inl q2.2) := by
        unfold zf_195_H0
        rw [ek, Option.bind_some]
        simp only [s91]
        rw [if_pos c1]
        rfl
      by_cases hl : l = 0
      · rw [o1 hl, Option.bind_some] at e0
        refine bad 5 p e0 ?_
        subst hl
        unfold resF
        show bnd (fcR b n 0 (fun _ _ => .inl (0, 0)) p c) (resG b n fs 0) = .inl (5, p)
        unfold fcR
        rw [if_neg (by unfold dgt; omega), if_pos c1, if_pos rfl]
        rfl
      · obtain ⟨M', m1, m2, m3⟩ := o2 hl
        rw [m1, Option.bind_some, jb_yes] at e0
        rw [jb_lp_inl e0]
        obtain ⟨l', rfl⟩ : ∃ l', l = l' + 1 := ⟨l - 1, by omega⟩
        rw [resF_open c1 hfs]
        have ew : wS ((240, 0, 0) :: fs) W0 = (1048576 * 14) :: wS fs W0 := by
          cases fs with
          | nil => exact absurd rfl hfs
          | cons y r => rfl
        have hI2 : lI f g (p + 1) c (wS ((240, 0, 0) :: fs) W0) := by
          rw [ew]
          obtain ⟨i1, i2, i3⟩ := hI
          refine ⟨?_, by rw [List.length_cons]; omega, fun w hw => ?_⟩
          · unfold cw
            rw [if_neg (by omega)]
            omega
          · rcases List.mem_cons.mp hw with rfl | hw
            · exact ⟨by decide, by decide⟩
            · exact i3 w hw
        obtain ⟨r, r1, r2, r3⟩ := ih (p + 1) l' c ((240, 0, 0) :: fs) M' (by omega) (by simp) (by rw [List.length_cons]; omega) (by rw [ew]; exact m2) hI2 (by omega) (fun x hx => by
          rcases List.mem_cons.mp hx with rfl | hx
          · exact ⟨by dsimp only; omega, Or.inl rfl, Or.inl rfl⟩
          · exact fOK_m (hfo x hx) (by omega))
        refine ⟨r, r1, mX_t m3 r2, ?_⟩
        rcases r3 with r3 | ⟨z1, p', l'', c', fs', z2, z3, z4, z5, z6, z7⟩
        · exact Or.inl r3
        · exact Or.inr ⟨z1, p', l'', c', fs', z2, z3, z4, z5, by omega, z7⟩
    have hsp : ∀ x, fcR b n l (match l with
        | 0 => fun _ _ => .inl (0, 0)
        | l' + 1 => spE b n l') p c = x → spF b n l p c = x := by
      intro x hx
      cases l with
      | zero => exact hx
      | succ l => exact hx
    by_cases c2 : dgt (ch b n p)
    · have hpn := dgt_in hb c2
      have hX0 : odX M (jb_up M 79 8 0) := odX_u (odX_0 M) (by decide)
      obtain ⟨r, r1, r2, r3⟩ := jd_nm (show p < 290 by omega) 5 0 0 p (jb_up M 79 8 0) (by omega) (by omega) (tdB_o hD.1 hX0) (by rw [jb_up_at, if_neg (by omega), hD.2.1]) (by rw [jb_up_at, if_pos ⟨rfl, rfl⟩]; rfl) (by decide)
      have e0 : zf_195_H0 M = if (jb_b2i r.1) = 0 then some (.inr (false, r.2)) else (zf_189 0 (r.2 79 8) r.2).bind fun q7 => some (.inr (true, q7)) := by
        unfold zf_195_H0 zf_188
        rw [ek, Option.bind_some]
        simp only [s91]
        rw [if_neg c1, sgc_dig hD.1 (by omega) hD.2.1, Option.bind_some, decide_eq_true c2, jb_yes, hD.2.1, r1, Option.bind_some]
      have hX := odX_t hX0 r2
      have hnm := nmR_ok hb 5 0 p hp
      cases e : nmR b n 5 0 p with
      | inl x =>
        rw [e] at r3
        rw [r3.1, jb_no] at e0
        refine ⟨_, jb_lp_inr e0, mX_o hX, Or.inl ⟨rfl, x, ?_, r3.2⟩⟩
        unfold resF
        rw [hsp (.inl x) (by unfold fcR; rw [if_pos c2, e])]
        rfl
      | inr y =>
        rw [e] at r3 hnm
        obtain ⟨a1, a2, a3, a4⟩ := hnm
        have a5 := a4 c2
        have hD1 := lD_o hD hX r3.2.2
        have hI1 := lI_m hI (Nat.le_of_lt a5)
        obtain ⟨M', m1, m2, m3⟩ := jd_note hD1 (by have := hI.1; omega) 0 y.2 0 (r.2 79 8) (by
          rw [r3.2.1]
          unfold wrd ptg
          rw [if_neg (by dsimp only; omega), if_neg (by dsimp only; omega)]
          exact nI_add (1048576 * 0) y.2)
        rw [r3.1, jb_yes, m1, Option.bind_some] at e0
        refine ⟨_, jb_lp_inr e0, mX_t (mX_o hX) m3, Or.inr ⟨rfl, y.1, l, c ++ [(0, y.2)], fs, hfs, hlL, m2, lI_s hI a5, a5, a2, fun x hx => fOK_m (hfo x hx) (by omega), ?_⟩⟩
        unfold resF
        rw [hsp (.inr (y.1, c ++ [(0, y.2)])) (by unfold fcR; rw [if_pos c2, e])]
        rfl
    · have e0 : zf_195_H0 M = if (zf_192 (sgc (ch b n p))) = (-1) then some (.inr (zf_186 (nI 1) (nI p) M)) else (zf_189 1 (zf_192 (sgc (ch b n p))) M).bind fun q5 => some (.inr (true, (jb_up q5 79 5 ((q5 79 5) + 1)))) := by
        unfold zf_195_H0
        rw [ek, Option.bind_some]
        simp only [s91]
        rw [if_neg c1, sgc_dig hD.1 (by omega) hD.2.1, Option.bind_some, decide_eq_false c2, jb_no, Option.bind_some, hD.2.1]
        rfl
      rw [fct_d hc] at e0
      by_cases c3 : fct (ch b n p) < 10
      · have hpn := ch_in hb (fct_ok c3)
        obtain ⟨M', m1, m2, m3⟩ := jd_note hD (by have := hI.1; omega) 1 (fct (ch b n p)) 1 (nI (fct (ch b n p))) (by
          unfold wrd ptg
          rw [if_neg (by dsimp only; omega), if_neg (by dsimp only; omega)]
          exact nI_add (1048576 * 1) _)
        rw [if_pos c3, if_neg (fun y => ((jn_m1 (a := fct (ch b n p)) (by omega)).mp y).elim), m1, Option.bind_some, m2.2.1, ← nI_succ] at e0
        have hX2 : odX M' (jb_up M' 79 5 (nI (p + 1))) := odX_u (odX_0 M') (by decide)
        refine ⟨_, jb_lp_inr e0, mX_t m3 (mX_o hX2), Or.inr ⟨rfl, p + 1, l, c ++ [(1, fct (ch b n p))], fs, hfs, hlL, lD_o m2 hX2 (by dsimp only; rw [jb_up_at, if_pos ⟨rfl, rfl⟩]), lI_s hI (by omega), by omega, by omega, fun x hx => fOK_m (hfo x hx) (by omega), ?_⟩⟩
        unfold resF
        rw [hsp (.inr (p + 1, c ++ [(1, fct (ch b n p))])) (by unfold fcR; rw [if_neg c2, if_neg c1, if_pos c3])]
        rfl
      · rw [if_neg c3, if_pos rfl] at e0
        refine bad 1 p e0 ?_
        unfold resF
        rw [hsp (.inl (1, p)) (by unfold fcR; rw [if_neg c2, if_neg c1, if_neg c3])]
        rfl
