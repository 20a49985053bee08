/-! THE LAW: tests and conditions are right -/
theorem aim_len (x : Nat) (c : jPc) : (aim x c).length = c.length := by
  unfold aim
  split
  · rfl
  · rw [List.length_set]
theorem aim_op (x : Nat) (c : jPc) (k : Nat) : (pat (aim x c) k).1 = (pat c k).1 := by
  unfold aim
  split
  · rfl
  · rw [pat_set]
    by_cases e : k = x - 1 ∧ x - 1 < c.length
    · rw [if_pos e, e.1]
    · rw [if_neg e]
theorem aim_ne {x : Nat} (c : jPc) {k : Nat} (h : k + 1 ≠ x) : pat (aim x c) k = pat c k := by
  unfold aim
  by_cases e : x = 0
  · rw [if_pos e]
  · rw [if_neg e, pat_set, if_neg (by omega)]
theorem aim_at {x : Nat} (c : jPc) {k : Nat} (h : k + 1 = x) (hk : k < c.length) : pat (aim x c) k = ((pat c k).1, c.length) := by
  subst h
  unfold aim
  rw [if_neg (by omega), Nat.add_sub_cancel, pat_set, if_pos ⟨rfl, hk⟩]
theorem aim_dp (x : Nat) (c : jPc) (k : Nat) : dp (aim x c) k = dp c k := dp_ops k (fun i _ => aim_op x c i)
theorem aim_isb (x : Nat) (c : jPc) (k : Nat) : isb (aim x c) k ↔ isb c k := isb_ops (fun i _ => aim_op x c i)
theorem aim_wf {x : Nat} {c : jPc} (h : wfc c) (hx : x ≠ 0 → x - 1 < c.length ∧ 11 ≤ (pat c (x - 1)).1 ∧ dp c c.length = dp c (x - 1)) (hb : isb c c.length) : wfc (aim x c) := by
  unfold aim
  by_cases e : x = 0
  · rw [if_pos e]; exact h
  · rw [if_neg e]
    obtain ⟨h1, h2, h3⟩ := hx e
    exact wfc_aim h h1 h2 h3 hb
def tO (n p : Nat) (c : jPc) (x : lwR) : Prop := match x with
  | .inl e => e.1 ≤ 9 ∧ e.2 ≤ n
  | .inr y => p < y.1 ∧ y.1 ≤ n ∧ gG p c y.1 y.2 ∧ dp y.2 y.2.length = dp c c.length + 1 ∧ isb y.2 y.2.length
def tX (n w : Nat) (X : Nat → jPc → lwR) : Prop := ∀ p c, wfc c → dp c c.length + w ≤ 30 → p ≤ n → c.length ≤ p → tO n p c (X p c)
theorem tO_b {n p : Nat} {c : jPc} {x : lwR} {k : Nat → jPc → lwR} {P : lwR → Prop} (h : tO n p c x) (h1 : ∀ e, e.1 ≤ 9 ∧ e.2 ≤ n → P (.inl e)) (h2 : ∀ q c1, x = .inr (q, c1) → p < q → q ≤ n → gG p c q c1 → dp c1 c1.length = dp c c.length + 1 → isb c1 c1.length → P (k q c1)) : P (bnd x k) := by
  cases x with
  | inl e => exact h1 e h
  | inr y => exact h2 y.1 y.2 rfl h.1 h.2.1 h.2.2.1 h.2.2.2.1 h.2.2.2.2
theorem tsR_ok {b : Nat → Nat} {n l : Nat} {T C : Nat → jPc → lwR} (hb : bB b n) (hT : l ≠ 0 → tX n (2 * l + 3) T) (hC : l ≠ 0 → tX n (2 * l + 3) C) : tX n (2 * l + 3) (tsR b n l T C) := by
  intro p c hc hd hp hl
  have hn := hb.1
  unfold tsR
  by_cases c1 : ch b n p = 33
  · rw [if_pos c1]
    have hpn := ch_in hb (k := p) (by omega)
    by_cases c3 : l = 0
    · rw [if_pos c3]
      exact ⟨by dsimp only; omega, hp⟩
    · rw [if_neg c3]
      refine tO_b (P := tO n p c) (hT c3 (p + 1) c hc hd (by omega) (by omega)) (fun e he => he) ?_
      intro q c1 _ h1 h2 h3 h4 h5
      have hlen := h3.2.2.1
      have ha : gG q c1 (q + 1) (c1 ++ [(10, 0)]) := gG_app h3.1 (by omega) ⟨by dsimp only; omega, by dsimp only; omega, fun y => by dsimp only at y; omega, fun y => by dsimp only at y; omega, fun y z => by dsimp only at z; omega, fun _ => ⟨by omega, h5⟩, fun y => by dsimp only at y; omega⟩ (by dsimp only; omega)
      have g := gG_t h3 ha
      refine ⟨by dsimp only; omega, h2, ⟨g.1, g.2.1, by have := g.2.2.1; dsimp only; omega, g.2.2.2⟩, ?_, isb_end _ _ (by dsimp only; omega)⟩
      dsimp only
      rw [dp_end]
      unfold dst
      rw [if_neg (by dsimp only; omega), if_pos (by dsimp only), h4]
  rw [if_neg c1]
  by_cases c2 : ch b n p = 40
  · rw [if_pos c2]
    have hpn := ch_in hb (k := p) (by omega)
    by_cases c3 : l = 0
    · rw [if_pos c3]
      exact ⟨by dsimp only; omega, hp⟩
    · rw [if_neg c3]
      refine tO_b (P := tO n p c) (hC c3 (p + 1) c hc hd (by omega) (by omega)) (fun e he => he) ?_
      intro q c1 _ h1 h2 h3 h4 h5
      by_cases c4 : ch b n q = 41
      · rw [if_pos c4]
        have := ch_in hb (k := q) (by omega)
        exact ⟨by dsimp only; omega, this, gG_p (gG_m h3 (by omega)) (by omega), h4, h5⟩
      · rw [if_neg c4]
        exact ⟨by dsimp only; omega, h2⟩
  rw [if_neg c2]
  refine gO_b (P := tO n p c) ((spE_ok hb l).2 p c hc (by omega) hp hl) (fun e he => he) ?_
  intro q c1 _ h1 h2 h3 h4
  have hlen := h3.2.2.1
  rcases cmq_ok (c := ch b n q) with z | ⟨z1, z2, z3⟩
  · rw [if_pos z]
    exact ⟨by dsimp only; omega, h2⟩
  · rw [if_neg (by omega)]
    have hq := ch_in hb z3
    refine gO_b (P := tO n p c) ((spE_ok hb l).2 (q + 1) c1 h3.1 (by omega) hq (by omega)) (fun e he => he) ?_
    intro q2 c2 _ k1 k2 k3 k4
    have hlen2 := k3.2.2.1
    have ha : gG q2 c2 (q2 + 1) (c2 ++ [(cmq (ch b n q), 0)]) := gG_app k3.1 (by omega) ⟨by dsimp only; omega, by dsimp only; omega, fun y => by dsimp only at y; omega, fun y => by dsimp only at y; omega, fun _ _ => by omega, fun y => by dsimp only at y; omega, fun y => by dsimp only at y; omega⟩ (by dsimp only; omega)
    have g := gG_t h3 (gG_t (gG_p k3 (Nat.le_succ q)) ha)
    refine ⟨by dsimp only; omega, k2, ⟨g.1, g.2.1, ?_, g.2.2.2⟩, ?_, isb_end _ _ ⟨z1, by dsimp only; omega⟩⟩
    · dsimp only
      rw [List.length_append, List.length_singleton]
      omega
    · dsimp only
      rw [dp_end]
      unfold dst
      rw [if_neg (by dsimp only; omega), if_neg (by dsimp only; omega), k4, h4]
      omega
/-- a jump that waits at x - 1, from m on, its value on top of d -/
def pnd (c : jPc) (m d o x : Nat) : Prop := x ≠ 0 → m + 1 ≤ x ∧ x ≤ c.length ∧ (pat c (x - 1)).1 = o ∧ dp c (x - 1) = d + 1
theorem pnd_pre {c c' : jPc} {m d o x : Nat} (h : pnd c m d o x) (hp : c.length ≤ c'.length) (ho : ∀ k, k < c.length → (pat c' k).1 = (pat c k).1) : pnd c' m d o x := by
  intro hx
  obtain ⟨h1, h2, h3, h4⟩ := h hx
  exact ⟨h1, by omega, by rw [ho _ (by omega), h3], by rw [dp_ops (c := c) _ (fun i hi => ho i (by omega)), h4]⟩
def cO (n p m d : Nat) (c : jPc) (x : lwR) : Prop := match x with
  | .inl e => e.1 ≤ 9 ∧ e.2 ≤ n
  | .inr y => p < y.1 ∧ y.1 ≤ n ∧ wfc y.2 ∧ c.length ≤ y.2.length ∧ (∀ k, k < m → pat y.2 k = pat c k) ∧ y.2.length + p ≤ c.length + y.1 ∧ (∀ k, m ≤ k → k < y.2.length → 11 ≤ (pat y.2 k).1 → (pat y.2 k).2 ≠ 0) ∧ dp y.2 y.2.length = d + 1 ∧ isb y.2 y.2.length
theorem cnL_ok {b : Nat → Nat} {n w : Nat} {Ts : Nat → jPc → lwR} (hb : bB b n) (hT : tX n w Ts) : ∀ (f po pa p m d : Nat) (c : jPc), wfc c → dp c c.length = d → d + w ≤ 30 → p ≤ n → c.length ≤ p → m ≤ c.length → pnd c m d 12 po → pnd c m d 11 pa → (∀ k, m ≤ k → k < c.length → 11 ≤ (pat c k).1 → (pat c k).2 = 0 → k + 1 = po ∨ k + 1 = pa) → cO n p m d c (cnL b n Ts f po pa p c) := by
  intro f
  induction f with
  | zero =>
    intro po pa p m d c hc hd hw hp hl hm _ _ _
    exact ⟨by dsimp only; omega, hp⟩
  | succ f ih =>
    intro po pa p m d c hc hd hw hp hl hm hpo hpa hpd
    have hn := hb.1
    rw [cnL_s]
    refine tO_b (P := cO n p m d c) (hT p c hc (by omega) hp hl) (fun e he => he) ?_
    intro q c1 _ h1 h2 h3 h4 h5
    obtain ⟨g1, g2, g3, g4⟩ := id h3
    have ho1 : ∀ k, k < c.length → (pat c1 k).1 = (pat c k).1 := fun k hk => by rw [g2.2 k hk]
    have hpo1 := pnd_pre hpo g2.1 ho1
    have hpa1 := pnd_pre hpa g2.1 ho1
    rw [hd] at h4
    -- the and that waits lands here
    have w2 : wfc (aim pa c1) := aim_wf g1 (fun y => by obtain ⟨a1, a2, a3, a4⟩ := hpa1 y; exact ⟨by omega, by omega, by rw [h4, a4]⟩) h5
    have hpd2 : ∀ k, m ≤ k → k < c1.length → 11 ≤ (pat (aim pa c1) k).1 → (pat (aim pa c1) k).2 = 0 → k + 1 = po := by
      intro k k1 k2 k3 k4
      by_cases e : k + 1 = pa
      · rw [aim_at c1 e k2] at k4
        dsimp only at k4
        omega
      · rw [aim_ne c1 e] at k3 k4
        by_cases e2 : k < c.length
        · rw [g2.2 k e2] at k3 k4
          exact (hpd k k1 e2 k3 k4).resolve_right e
        · exact absurd k4 (g4 k (by omega) k2 k3)
    have hpre2 : ∀ k, k < m → pat (aim pa c1) k = pat c k := by
      intro k hk
      rw [aim_ne c1 (fun e => by have := hpa1 (by omega); omega), g2.2 k (by omega)]
    have l2 := aim_len pa c1
    have hlen := g2.1
    unfold cnK
    by_cases c2 : ch b n q = 38
    · rw [if_pos c2]
      have hq := ch_in hb (k := q) (by omega)
      have hN : okN (aim pa c1) (11, 0) := ⟨by dsimp only; omega, by dsimp only; omega, fun y => by dsimp only at y; omega, fun y => by dsimp only at y; omega, fun y z => by dsimp only at z; omega, fun _ => ⟨by rw [aim_dp, aim_len, h4]; omega, by rw [aim_isb, aim_len]; exact h5⟩, fun _ => rfl⟩
      have w3 := wfc_app w2 (by omega) hN
      have d3 : dp (aim pa c1 ++ [(11, 0)]) (aim pa c1 ++ [(11, 0)]).length = d := by
        rw [dp_end, aim_dp, aim_len, h4]
        unfold dst
        rw [if_neg (by dsimp only; omega), if_neg (by dsimp only; omega), Nat.add_sub_cancel]
      have l3 : (aim pa c1 ++ [(11, 0)]).length = c1.length + 1 := by rw [List.length_append, aim_len]; rfl
      have p12 : pnd (aim pa c1 ++ [(11, 0)]) m d 12 po := pnd_pre (pnd_pre hpo1 (by omega) (fun k _ => aim_op pa c1 k)) (by omega) (fun k hk => by rw [pat_app, if_pos hk])
      have p11 : pnd (aim pa c1 ++ [(11, 0)]) m d 11 ((aim pa c1).length + 1) := by
        intro _
        rw [Nat.add_sub_cancel, pat_app, if_neg (by omega), if_pos rfl, dp_app _ _ (Nat.le_refl _), aim_dp, aim_len, h4]
        exact ⟨by omega, by omega, rfl, rfl⟩
      have := ih po ((aim pa c1).length + 1) (q + 1) m d (aim pa c1 ++ [(11, 0)]) w3 d3 hw hq (by omega) (by omega) p12 p11 (by
        intro k k1 k2 k3 k4
        rw [l3] at k2
        by_cases e : k < (aim pa c1).length
        · rw [pat_app, if_pos e] at k3 k4
          exact Or.inl (hpd2 k k1 (by omega) k3 k4)
        · exact Or.inr (by omega))
      cases e : cnL b n Ts f po ((aim pa c1).length + 1) (q + 1) (aim pa c1 ++ [(11, 0)]) with
      | inl x => rw [e] at this; exact this
      | inr y =>
        rw [e] at this
        obtain ⟨a1, a2, a3, a4, a5, a6, a7, a8, a9⟩ := this
        refine ⟨by omega, a2, a3, by omega, fun k hk => ?_, by omega, a7, a8, a9⟩
        rw [a5 k hk, pat_app, if_pos (by omega), hpre2 k hk]
    · rw [if_neg c2]
      have hpo2 : pnd (aim pa c1) m d 12 po := pnd_pre hpo1 (by omega) (fun k _ => aim_op pa c1 k)
      have w4 : wfc (aim po (aim pa c1)) := aim_wf w2 (fun y => by obtain ⟨a1, a2, a3, a4⟩ := hpo2 y; exact ⟨by omega, by omega, by rw [aim_dp, aim_len, h4, a4]⟩) (by rw [aim_isb, aim_len]; exact h5)
      have hpd4 : ∀ k, m ≤ k → k < c1.length → 11 ≤ (pat (aim po (aim pa c1)) k).1 → (pat (aim po (aim pa c1)) k).2 ≠ 0 := by
        intro k k1 k2 k3 k4
        by_cases e : k + 1 = po
        · rw [aim_at _ e (by omega)] at k4
          dsimp only at k4
          omega
        · rw [aim_ne _ e] at k3 k4
          exact e (hpd2 k k1 k2 k3 k4)
      have hpre4 : ∀ k, k < m → pat (aim po (aim pa c1)) k = pat c k := by
        intro k hk
        rw [aim_ne _ (fun e => by have := hpo1 (by omega); omega), hpre2 k hk]
      have l4 : (aim po (aim pa c1)).length = c1.length := by rw [aim_len, aim_len]
      have d4 : dp (aim po (aim pa c1)) c1.length = d + 1 := by rw [aim_dp, aim_dp, h4]
      have i4 : isb (aim po (aim pa c1)) c1.length := by rw [aim_isb, aim_isb]; exact h5
      by_cases c3 : ch b n q = 124
      · rw [if_pos c3]
        have hq := ch_in hb (k := q) (by omega)
        have hN : okN (aim po (aim pa c1)) (12, 0) := ⟨by dsimp only; omega, by dsimp only; omega, fun y => by dsimp only at y; omega, fun y => by dsimp only at y; omega, fun y z => by dsimp only at z; omega, fun _ => ⟨by rw [l4, d4]; omega, by rw [l4]; exact i4⟩, fun _ => rfl⟩
        have w5 := wfc_app w4 (by omega) hN
        have d5 : dp (aim po (aim pa c1) ++ [(12, 0)]) (aim po (aim pa c1) ++ [(12, 0)]).length = d := by
          rw [dp_end, l4, d4]
          unfold dst
          rw [if_neg (by dsimp only; omega), if_neg (by dsimp only; omega), Nat.add_sub_cancel]
        have l5 : (aim po (aim pa c1) ++ [(12, 0)]).length = c1.length + 1 := by rw [List.length_append, l4]; rfl
        have p12 : pnd (aim po (aim pa c1) ++ [(12, 0)]) m d 12 ((aim po (aim pa c1)).length + 1) := by
          intro _
          rw [Nat.add_sub_cancel, pat_app, if_neg (by omega), if_pos rfl, dp_app _ _ (Nat.le_refl _), l4, d4]
          exact ⟨by omega, by omega, rfl, rfl⟩
        have := ih ((aim po (aim pa c1)).length + 1) 0 (q + 1) m d (aim po (aim pa c1) ++ [(12, 0)]) w5 d5 hw hq (by omega) (by omega) p12 (fun y => absurd rfl y) (by
          intro k k1 k2 k3 k4
          rw [l5] at k2
          by_cases e : k < (aim po (aim pa c1)).length
          · rw [pat_app, if_pos e] at k3 k4
            exact absurd k4 (hpd4 k k1 (by omega) k3)
          · exact Or.inl (by omega))
        cases e : cnL b n Ts f ((aim po (aim pa c1)).length + 1) 0 (q + 1) (aim po (aim pa c1) ++ [(12, 0)]) with
        | inl x => rw [e] at this; exact this
        | inr y =>
          rw [e] at this
          obtain ⟨a1, a2, a3, a4, a5, a6, a7, a8, a9⟩ := this
          refine ⟨by omega, a2, a3, by omega, fun k hk => ?_, by omega, a7, a8, a9⟩
          rw [a5 k hk, pat_app, if_pos (by omega), hpre4 k hk]
      · rw [if_neg c3]
        refine ⟨h1, h2, w4, by dsimp only; omega, hpre4, by dsimp only; omega, fun k k1 k2 => hpd4 k k1 (by dsimp only at k2; omega), by dsimp only; rw [l4]; exact d4, by dsimp only; rw [l4]; exact i4⟩
theorem spT_ok {b : Nat → Nat} {n : Nat} (hb : bB b n) : ∀ l, tX n (2 * l + 3) (spT b n l) ∧ tX n (2 * l + 3) (spC b n l) := by
  have up : ∀ l, tX n (2 * l + 3) (spT b n l) → tX n (2 * l + 3) (spC b n l) := by
    intro l hT p c hc hd hp hl
    have := cnL_ok hb hT 241 0 0 p c.length (dp c c.length) c hc rfl hd hp hl (Nat.le_refl _) (fun y => absurd rfl y) (fun y => absurd rfl y) (fun k k1 k2 => by omega)
    unfold spC
    cases e : cnL b n (spT b n l) 241 0 0 p c with
    | inl x => rw [e] at this; exact this
    | inr y =>
      rw [e] at this
      obtain ⟨a1, a2, a3, a4, a5, a6, a7, a8, a9⟩ := this
      exact ⟨a1, a2, ⟨a3, ⟨a4, a5⟩, a6, a7⟩, a8, a9⟩
  have wk : ∀ l X, tX n (2 * l + 3) X → tX n (2 * (l + 1) + 3) X := fun l X h p c hc hd hp hl => h p c hc (by omega) hp hl
  intro l
  induction l with
  | zero =>
    have h : tX n (2 * 0 + 3) (spT b n 0) := tsR_ok (l := 0) hb (fun y => absurd rfl y) (fun y => absurd rfl y)
    exact ⟨h, up 0 h⟩
  | succ l ih =>
    have h : tX n (2 * (l + 1) + 3) (spT b n (l + 1)) := tsR_ok hb (fun _ => wk l _ ih.1) (fun _ => wk l _ ih.2)
    exact ⟨h, up (l + 1) h⟩
