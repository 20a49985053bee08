/-! THE LAW: what is read is right -/
theorem nmR_ok {b : Nat → Nat} {n : Nat} (hb : bB b n) : ∀ f v p, p ≤ n → match nmR b n f v p with
  | .inl e => e.1 ≤ 9 ∧ e.2 ≤ n
  | .inr y => p ≤ y.1 ∧ y.1 ≤ n ∧ y.2 < (v + 1) * 10 ^ f ∧ (dgt (ch b n p) → p < y.1) := by
  intro f
  induction f with
  | zero =>
    intro v p hp
    unfold nmR
    by_cases c : dgt (ch b n p)
    · rw [if_pos c]
      exact ⟨by dsimp only; omega, hp⟩
    · rw [if_neg c]
      exact ⟨Nat.le_refl _, hp, by dsimp only; omega, fun y => absurd y c⟩
  | succ f ih =>
    intro v p hp
    unfold nmR
    by_cases c : dgt (ch b n p)
    · rw [if_pos c]
      have h1 := ch_in hb (k := p) (by unfold dgt at c; omega)
      have := ih (10 * v + (ch b n p - 48)) (p + 1) h1
      cases e : nmR b n f (10 * v + (ch b n p - 48)) (p + 1) with
      | inl x => rw [e] at this; exact this
      | inr y =>
        rw [e] at this
        obtain ⟨a1, a2, a3, a4⟩ := this
        refine ⟨by omega, a2, Nat.lt_of_lt_of_le a3 ?_, fun _ => by omega⟩
        rw [Nat.pow_succ, Nat.mul_comm (10 ^ f) 10, ← Nat.mul_assoc]
        exact Nat.mul_le_mul_right _ (by unfold dgt at c; omega)
    · rw [if_neg c]
      exact ⟨Nat.le_refl _, hp, by dsimp only; exact Nat.lt_of_lt_of_le (Nat.lt_succ_self v) (Nat.le_mul_of_pos_right _ (Nat.pow_pos (by decide))), fun y => absurd y c⟩
/-- c grew to c' while the text was read from p to q; no jump of the new steps waits -/
def gG (p : Nat) (c : jPc) (q : Nat) (c' : jPc) : Prop := wfc c' ∧ pre c c' ∧ c'.length + p ≤ c.length + q ∧ ∀ k, c.length ≤ k → k < c'.length → 11 ≤ (pat c' k).1 → (pat c' k).2 ≠ 0
def gO (n p : Nat) (c : jPc) (x : lwR) : Prop := match x with
  | .inl e => e.1 ≤ 9 ∧ e.2 ≤ n
  | .inr y => p < y.1 ∧ y.1 ≤ n ∧ gG p c y.1 y.2 ∧ dp y.2 y.2.length = dp c c.length + 1
def gX (n w : Nat) (X : Nat → jPc → lwR) : Prop := ∀ p c, wfc c → dp c c.length + w ≤ 30 → p ≤ n → c.length ≤ p → gO n p c (X p c)
theorem gG_0 {p : Nat} {c : jPc} (h : wfc c) : gG p c p c := ⟨h, pre_0 c, Nat.le_refl _, fun k h1 h2 => by omega⟩
theorem gG_t {p q r : Nat} {c c1 c2 : jPc} (h1 : gG p c q c1) (h2 : gG q c1 r c2) : gG p c r c2 := by
  obtain ⟨a1, a2, a3, a4⟩ := h1
  obtain ⟨b1, b2, b3, b4⟩ := h2
  refine ⟨b1, pre_t a2 b2, by omega, fun k k1 k2 k3 => ?_⟩
  by_cases e : k < c1.length
  · rw [b2.2 k e] at k3 ⊢
    exact a4 k k1 e k3
  · exact b4 k (by omega) k2 k3
theorem gG_m {p q q' : Nat} {c c' : jPc} (h : gG p c q c') (hq : q ≤ q') : gG p c q' c' := ⟨h.1, h.2.1, by have := h.2.2.1; omega, h.2.2.2⟩
theorem gG_p {p p' q : Nat} {c c' : jPc} (h : gG p c q c') (hp : p' ≤ p) : gG p' c q c' := ⟨h.1, h.2.1, by have := h.2.2.1; omega, h.2.2.2⟩
theorem gG_app {p : Nat} {c : jPc} {x : Nat × Nat} (h : wfc c) (hl : c.length < 900) (hx : okN c x) (h11 : x.1 < 11) : gG p c (p + 1) (c ++ [x]) := by
  refine ⟨wfc_app h hl hx, pre_app c x, by simp; omega, fun k k1 k2 k3 => ?_⟩
  rw [List.length_append, List.length_singleton] at k2
  have : k = c.length := by omega
  subst this
  rw [pat_app, if_neg (by omega), if_pos rfl] at k3
  omega
theorem dgt_in {b : Nat → Nat} {n : Nat} (hb : bB b n) {k : Nat} (h : dgt (ch b n k)) : k < n := ch_in hb (by unfold dgt at h; omega)
theorem fct_ok {c : Nat} (h : fct c < 10) : c < 256 := by
  rcases Nat.lt_or_ge c 256 with h1 | h1
  · exact h1
  · unfold fct at h
    repeat rw [if_neg (by omega)] at h
    omega
theorem sgn_ok {c : Nat} : sgn c ≤ 6 ∧ sgn c ≠ 1 ∧ (sgn c ≠ 0 → c < 256) := by
  unfold sgn
  repeat' split
  all_goals omega
theorem cmq_ok {c : Nat} : cmq c = 0 ∨ (7 ≤ cmq c ∧ cmq c ≤ 9 ∧ c < 256) := by
  unfold cmq
  repeat' split
  all_goals omega
theorem fcR_ok {b : Nat → Nat} {n l : Nat} {E : Nat → jPc → lwR} (hb : bB b n) (hE : l ≠ 0 → gX n (2 * l) E) : gX n (2 * l) (fcR b n l E) := by
  intro p c hc hd hp hl
  have hn := hb.1
  unfold fcR
  by_cases c1 : dgt (ch b n p)
  · rw [if_pos c1]
    have := nmR_ok hb 5 0 p hp
    cases e : nmR b n 5 0 p with
    | inl x => rw [e] at this; exact this
    | inr y =>
      rw [e] at this
      obtain ⟨a1, a2, a3, a4⟩ := this
      have := a4 c1
      refine ⟨this, a2, gG_m (gG_app hc (by omega) ⟨by dsimp only; omega, by dsimp only; omega, fun _ => by omega, fun y => by dsimp only at y; omega, fun y => by dsimp only at y; omega, fun y => by dsimp only at y; omega, fun y => by dsimp only at y; omega⟩ (by dsimp only; omega)) (by dsimp only; omega), ?_⟩
      dsimp only
      rw [dp_end]
      unfold dst
      rw [if_pos (by dsimp only; omega)]
  rw [if_neg c1]
  by_cases c2 : ch b n p = 91
  · rw [if_pos c2]
    have hpn := ch_in hb (k := p) (by omega)
    by_cases c3 : l = 0
    · rw [if_pos c3]
      exact ⟨by dsimp only; omega, hp⟩
    · rw [if_neg c3]
      have := hE c3 (p + 1) c hc hd (by omega) (by omega)
      cases e : E (p + 1) c with
      | inl x => rw [e] at this; exact this
      | inr y =>
        rw [e] at this
        obtain ⟨a1, a2, a3, a4⟩ := this
        unfold bnd
        dsimp only
        by_cases c4 : ch b n y.1 = 93
        · rw [if_pos c4]
          have := ch_in hb (k := y.1) (by omega)
          exact ⟨by dsimp only; omega, this, gG_p (gG_m a3 (by omega)) (by omega), a4⟩
        · rw [if_neg c4]
          exact ⟨by dsimp only; omega, a2⟩
  rw [if_neg c2]
  by_cases c3 : fct (ch b n p) < 10
  · rw [if_pos c3]
    have hpn := ch_in hb (fct_ok c3)
    refine ⟨by dsimp only; omega, hpn, gG_app hc (by omega) ⟨by dsimp only; omega, by dsimp only; omega, fun _ => by omega, fun _ => c3, fun y => by dsimp only at y; omega, fun y => by dsimp only at y; omega, fun y => by dsimp only at y; omega⟩ (by dsimp only; omega), ?_⟩
    dsimp only
    rw [dp_end]
    unfold dst
    rw [if_pos (by dsimp only; omega)]
  · rw [if_neg c3]
    exact ⟨by dsimp only; omega, hp⟩
def bto (x : Nat) : Nat := if x = 0 then 0 else 1
theorem bto_0 : bto 0 = 0 := rfl
theorem bto_1 {x : Nat} (h : x ≠ 0) : bto x = 1 := if_neg h
theorem app_ok {p o : Nat} {c : jPc} (h : wfc c) (hl : c.length < 900) (ho : o = 0 ∨ (2 ≤ o ∧ o ≤ 6)) (hd : o ≠ 0 → 2 ≤ dp c c.length) : gG p c (p + bto o) (app c o) ∧ dp (app c o) (app c o).length + bto o = dp c c.length ∧ (app c o).length = c.length + bto o := by
  unfold app bto
  by_cases e : o = 0
  · rw [if_pos e, if_pos e]
    exact ⟨gG_0 h, by omega, rfl⟩
  · rw [if_neg e, if_neg e]
    refine ⟨gG_app h hl ⟨by dsimp only; omega, by dsimp only; omega, fun y => by dsimp only at y; omega, fun y => by dsimp only at y; omega, fun _ _ => hd e, fun y => by dsimp only at y; omega, fun y => by dsimp only at y; omega⟩ (by dsimp only; omega), ?_, by simp⟩
    rw [dp_end]
    unfold dst
    rw [if_neg (by dsimp only; omega), if_neg (by dsimp only; omega)]
    have := hd e
    omega
/-- after the outcome of a factor (or of a part): what goes on from q with c1 -/
theorem gO_b {n p : Nat} {c : jPc} {x : lwR} {k : Nat → jPc → lwR} {P : lwR → Prop} (h : gO n p c x) (h1 : ∀ e, e.1 ≤ 9 ∧ e.2 ≤ n → P (.inl e)) (h2 : ∀ q c1, x = .inr (q, c1) → p < q → q ≤ n → gG p c q c1 → dp c1 c1.length = dp c c.length + 1 → P (k q c1)) : P (bnd x k) := by
  cases x with
  | inl e => exact h1 e h
  | inr y => exact h2 y.1 y.2 rfl h.1 h.2.1 h.2.2.1 h.2.2.2
theorem exL_ok {b : Nat → Nat} {n w : Nat} {Fc : Nat → jPc → lwR} (hb : bB b n) (hF : gX n w Fc) : ∀ (f pt pf p : Nat) (c : jPc) (d : Nat), wfc c → dp c c.length = d + bto pt + bto pf → d + w + 2 ≤ 30 → p ≤ n → c.length + bto pt + bto pf ≤ p → (pt = 0 ∨ pt = 2 ∨ pt = 3) → (pf = 0 ∨ (4 ≤ pf ∧ pf ≤ 6)) → match exL b n Fc f pt pf p c with
    | .inl e => e.1 ≤ 9 ∧ e.2 ≤ n
    | .inr y => p < y.1 ∧ y.1 ≤ n ∧ gG p c (y.1 + bto pt + bto pf) y.2 ∧ dp y.2 y.2.length = d + 1 := by
  intro f
  induction f with
  | zero =>
    intro pt pf p c d hc hd hw hp hl h1 h2
    exact ⟨by dsimp only; omega, hp⟩
  | succ f ih =>
    intro pt pf p c d hc hd hw hp hl h1 h2
    have hn := hb.1
    have b1 : bto pt ≤ 1 := by unfold bto; split <;> omega
    have b2 : bto pf ≤ 1 := by unfold bto; split <;> omega
    rw [exL_s]
    refine gO_b (P := fun x => match x with
      | .inl e => e.1 ≤ 9 ∧ e.2 ≤ n
      | .inr y => p < y.1 ∧ y.1 ≤ n ∧ gG p c (y.1 + bto pt + bto pf) y.2 ∧ dp y.2 y.2.length = d + 1) (hF p c hc (by omega) hp (by omega)) (fun e he => he) ?_
    intro q c1 _ hpq hqn hG hd1
    have hlen := hG.2.2.1
    obtain ⟨f1, f2, f3⟩ := app_ok (p := q) (o := pf) hG.1 (by omega) (by omega) (fun y => by rw [bto_1 y] at hd; omega)
    have hlen2 : (app c1 pf).length < 900 := by omega
    obtain ⟨t1, t2, t3⟩ := app_ok (p := q + bto pf) (o := pt) f1.1 hlen2 (by omega) (fun y => by rw [bto_1 y] at hd; omega)
    have hs := sgn_ok (c := ch b n q)
    unfold exK
    by_cases s1 : 4 ≤ sgn (ch b n q)
    · rw [if_pos s1]
      have hq1 := ch_in hb (hs.2.2 (by omega))
      have := ih pt (sgn (ch b n q)) (q + 1) (app c1 pf) d f1.1 (by rw [bto_1 (x := sgn (ch b n q)) (by omega)]; omega) hw (by omega) (by rw [bto_1 (x := sgn (ch b n q)) (by omega)]; omega) h1 (by omega)
      cases e : exL b n Fc f pt (sgn (ch b n q)) (q + 1) (app c1 pf) with
      | inl x => rw [e] at this; exact this
      | inr y =>
        rw [e, bto_1 (x := sgn (ch b n q)) (by omega)] at this
        obtain ⟨a1, a2, a3, a4⟩ := this
        refine ⟨by omega, a2, ?_, a4⟩
        have g := gG_t hG (gG_t f1 (gG_p a3 (show q + bto pf ≤ q + 1 by omega)))
        refine ⟨g.1, g.2.1, ?_, g.2.2.2⟩
        have := a3.2.2.1
        try dsimp only at this ⊢
        omega
    · rw [if_neg s1]
      by_cases s2 : sgn (ch b n q) = 0
      · rw [if_pos s2]
        refine ⟨hpq, hqn, ?_, by dsimp only; omega⟩
        have g := gG_t hG (gG_t f1 t1)
        exact gG_m g (by dsimp only; omega)
      · rw [if_neg s2]
        have hq1 := ch_in hb (hs.2.2 s2)
        have := ih (sgn (ch b n q)) 0 (q + 1) (app (app c1 pf) pt) d t1.1 (by rw [bto_1 s2, bto_0]; omega) hw (by omega) (by rw [bto_1 s2, bto_0]; omega) (by omega) (Or.inl rfl)
        cases e : exL b n Fc f (sgn (ch b n q)) 0 (q + 1) (app (app c1 pf) pt) with
        | inl x => rw [e] at this; exact this
        | inr y =>
          rw [e, bto_1 s2, bto_0] at this
          obtain ⟨a1, a2, a3, a4⟩ := this
          refine ⟨by omega, a2, ?_, a4⟩
          have a3' := gG_p a3 (Nat.le_refl _)
          refine ⟨a3.1, pre_t hG.2.1 (pre_t f1.2.1 (pre_t t1.2.1 a3.2.1)), ?_, ?_⟩
          · have := a3.2.2.1
            try dsimp only at this ⊢
            omega
          · intro k k1 k2 k3
            by_cases z : k < (app (app c1 pf) pt).length
            · have e1 := a3.2.1.2 k z
              rw [e1] at k3 ⊢
              exact (gG_t hG (gG_t f1 t1)).2.2.2 k k1 z k3
            · exact a3.2.2.2 k (by omega) k2 k3
theorem spE_ok {b : Nat → Nat} {n : Nat} (hb : bB b n) : ∀ l, gX n (2 * l) (spF b n l) ∧ gX n (2 * l + 2) (spE b n l) := by
  have up : ∀ l, gX n (2 * l) (spF b n l) → gX n (2 * l + 2) (spE b n l) := by
    intro l hF p c hc hd hp hl
    rw [spE_F]
    have := exL_ok hb hF 241 0 0 p c (dp c c.length) hc (by rw [bto_0]; omega) (by omega) hp (by rw [bto_0]; omega) (Or.inl rfl) (Or.inl rfl)
    cases e : exL b n (spF b n l) 241 0 0 p c with
    | inl x => rw [e] at this; exact this
    | inr y =>
      rw [e, bto_0] at this
      exact this
  intro l
  induction l with
  | zero =>
    have h : gX n (2 * 0) (spF b n 0) := fcR_ok (l := 0) (E := fun _ _ => .inl (0, 0)) hb (fun y => absurd rfl y)
    exact ⟨h, up 0 h⟩
  | succ l ih =>
    have h : gX n (2 * (l + 1)) (spF b n (l + 1)) := fcR_ok hb (fun _ => ih.2)
    exact ⟨h, up (l + 1) h⟩
