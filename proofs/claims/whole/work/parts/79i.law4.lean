/-! THE LAW: the class reads numbers, factors, expressions -/
theorem fct_c {c : Nat} (hc : c ≤ 256) : zf_63 (sgc c) = if fct c < 10 then nI (fct c) else -1 := by
  have h : ∀ c, c < 257 → zf_63 (sgc c) = if fct c < 10 then nI (fct c) else -1 := by
    unfold zf_63 sgc fct
    decide +kernel
  exact h c (by omega)
theorem sgn_c {c : Nat} (h : sgn c ≠ 0) : cop (sgn c) = c := by
  unfold sgn at h ⊢
  repeat' split at h
  all_goals first | (exact absurd rfl h) | skip
  all_goals (repeat' split) <;> first | omega | (subst_vars; rfl) | skip
def lC (b : Nat → Nat) (n s p : Nat) (c : jPc) (M : jb_Mi) : Prop := tcB b n M ∧ M 50 2 = nI p ∧ M 51 5 = nI (s + c.length) ∧ ∀ k, k < c.length → M 52 (s + k) = nI (cop (pat c k).1) ∧ (((pat c k).1 < 11 ∨ (pat c k).2 ≠ 0) → M 53 (s + k) = nI (ptg s (pat c k)))
def lX (s : Nat) (M M' : jb_Mi) : Prop := (∀ a, a ≠ 50 → a ≠ 51 → a ≠ 52 → a ≠ 53 → M' a = M a) ∧ (∀ j, j ≠ 5 → M' 51 j = M 51 j) ∧ ∀ j, j < s → M' 52 j = M 52 j ∧ M' 53 j = M 53 j
theorem lX_0 (s : Nat) (M : jb_Mi) : lX s M M := ⟨fun _ _ _ _ _ => rfl, fun _ _ => rfl, fun _ _ => ⟨rfl, rfl⟩⟩
theorem lX_t {s : Nat} {M M1 M2 : jb_Mi} (h1 : lX s M M1) (h2 : lX s M1 M2) : lX s M M2 := ⟨fun a q1 q2 q3 q4 => by rw [h2.1 a q1 q2 q3 q4, h1.1 a q1 q2 q3 q4], fun j hj => by rw [h2.2.1 j hj, h1.2.1 j hj], fun j hj => ⟨by rw [(h2.2.2 j hj).1, (h1.2.2 j hj).1], by rw [(h2.2.2 j hj).2, (h1.2.2 j hj).2]⟩⟩
theorem lX_u {s : Nat} {M M1 : jb_Mi} (h1 : lX s M M1) {j : Nat} {x : Int32} : lX s M (jb_up M1 50 j x) := ⟨fun a q1 q2 q3 q4 => by rw [jb_up_off q1, h1.1 a q1 q2 q3 q4], fun j hj => by rw [jb_up_off (by decide), h1.2.1 j hj], fun j hj => by rw [jb_up_off (by decide), jb_up_off (by decide)]; exact h1.2.2 j hj⟩
theorem lC_p {b : Nat → Nat} {n s p q : Nat} {c : jPc} {M : jb_Mi} (h : lC b n s p c M) : lC b n s q c (jb_up M 50 2 (nI q)) := by
  obtain ⟨h1, h2, h3, h4⟩ := h
  refine ⟨tcB_of h1 (jb_up_off (by decide)) (jb_up_off (by decide)), by rw [jb_up_at, if_pos ⟨rfl, rfl⟩], by rw [jb_up_off (by decide), h3], fun k hk => ?_⟩
  rw [jb_up_off (by decide), jb_up_off (by decide)]
  exact h4 k hk
def lO (b : Nat → Nat) (n s : Nat) (M : jb_Mi) (x : lwR) (r : Bool × jb_Mi) : Prop := lX s M r.2 ∧ match x with
  | .inl e => r.1 = false ∧ r.2 50 3 = nI e.1 ∧ r.2 50 2 = nI e.2
  | .inr y => r.1 = true ∧ lC b n s y.1 y.2 r.2
def sim (b : Nat → Nat) (n s w : Nat) (X : Nat → jPc → lwR) (Y : jb_Mi → Option (Bool × jb_Mi)) : Prop := ∀ p c M, lC b n s p c M → wfc c → dp c c.length + w ≤ 30 → p ≤ n → s + c.length ≤ p → ∃ r, Y M = some r ∧ lO b n s M (X p c) r
theorem lO_bad {b : Nat → Nat} {n s x q : Nat} {M M1 : jb_Mi} (hX : lX s M M1) (hp : M1 50 2 = nI q) : lO b n s M (.inl (x, q)) (zf_75 (nI x) M1) := ⟨lX_u hX, rfl, by show jb_up M1 50 3 (nI x) 50 3 = _; rw [jb_up_at, if_pos ⟨rfl, rfl⟩], by show jb_up M1 50 3 (nI x) 50 2 = _; rw [jb_up_at, if_neg (by omega), hp]⟩
theorem lO_t {b : Nat → Nat} {n s : Nat} {M M1 : jb_Mi} {x : lwR} {r : Bool × jb_Mi} (hX : lX s M M1) (h : lO b n s M1 x r) : lO b n s M x r := ⟨lX_t hX h.1, h.2⟩
theorem jc_emit {b : Nat → Nat} {n s p : Nat} {c : jPc} {M : jb_Mi} (h : lC b n s p c M) (hl : s + c.length < 240) (o a : Nat) (x1 x2 : Int32) (h1 : x1 = nI (cop o)) (h2 : (o < 11 ∨ a ≠ 0) → x2 = nI (ptg s (o, a))) : ∃ M', zf_70 x1 x2 M = some (nI (s + c.length), M') ∧ lC b n s p (c ++ [(o, a)]) M' ∧ lX s M M' := by
  obtain ⟨k1, k2, k3, k4⟩ := h
  refine ⟨jb_up (jb_up (jb_up M 52 (s + c.length) x1) 53 (s + c.length) x2) 51 5 (nI (s + c.length + 1)), ?_, ?_, ?_⟩
  · unfold zf_70
    simp only [jb_up_off (show (51 : Nat) ≠ 52 by decide), jb_up_off (show (51 : Nat) ≠ 53 by decide), k3]
    rw [if_pos (show nI (s + c.length) < 240 from nI_lt (b := 240) hl (by decide)), jn_gd hl (by decide), jn_gd hl (by decide), nI_clamp (by omega), ← nI_succ, jb_up_at, if_pos ⟨rfl, rfl⟩, nI_pred]
  · refine ⟨tcB_of k1 (by rw [jb_up_off (by decide), jb_up_off (by decide), jb_up_off (by decide)]) (by rw [jb_up_off (by decide), jb_up_off (by decide), jb_up_off (by decide)]), by rw [jb_up_off (by decide), jb_up_off (by decide), jb_up_off (by decide), k2], by rw [jb_up_at, if_pos ⟨rfl, rfl⟩, List.length_append, List.length_singleton, Nat.add_assoc], fun k hk => ?_⟩
    rw [List.length_append, List.length_singleton] at hk
    rw [jb_up_off (show (52 : Nat) ≠ 51 by decide), jb_up_off (show (52 : Nat) ≠ 53 by decide), jb_up_off (show (53 : Nat) ≠ 51 by decide), pat_app, jb_up_at, jb_up_at]
    by_cases e : k < c.length
    · rw [if_pos e, if_neg (by omega), if_neg (by omega), jb_up_off (by decide)]
      exact k4 k e
    · have : k = c.length := by omega
      subst this
      rw [if_neg e, if_pos rfl, if_pos ⟨rfl, rfl⟩, if_pos ⟨rfl, rfl⟩]
      exact ⟨h1, h2⟩
  · refine ⟨fun a q1 q2 q3 q4 => by rw [jb_up_off q2, jb_up_off q4, jb_up_off q3], fun j hj => by rw [jb_up_at, if_neg (by omega), jb_up_off (by decide), jb_up_off (by decide)], fun j hj => ⟨?_, ?_⟩⟩
    · rw [jb_up_off (by decide), jb_up_off (by decide), jb_up_at, if_neg (by omega)]
    · rw [jb_up_off (by decide), jb_up_at, if_neg (by omega), jb_up_off (by decide)]
theorem jc_nm {b : Nat → Nat} {n s : Nat} {c : jPc} (hn : n ≤ 240) : ∀ (f k v p : Nat) (M : jb_Mi), k + f = 5 → lC b n s p c M → v < 10 ^ k → p ≤ n → s + c.length + 1 ≤ p + (if k = 0 then 1 else 0) → (k = 0 → dgt (ch b n p)) → ∃ r, jb_lp zf_77_H4 (nI v, nI k, M) = some r ∧ lO b n s M (match nmR b n f v p with
    | .inl e => .inl e
    | .inr y => .inr (y.1, c ++ [(0, y.2)])) r := by
  intro f
  induction f with
  | zero =>
    intro k v p M hk h hv hp hl h0
    have hk5 : k = 5 := by omega
    subst hk5
    have hc := ch_le (tcB_b h.1) p
    unfold nmR
    have e0 : zf_77_H4 (nI v, nI 5, M) = if jb_b2i (decide (dgt (ch b n p))) = 0 then (zf_70 1 (nI v) M).bind fun q2 => some (.inr (true, q2.2)) else some (.inl (nI v, nI 6, M)) := by
      unfold zf_77_H4 zf_77_J65
      dsimp only
      rw [if_neg (by decide), h.2.1, sgc_byte h.1 (by omega), Option.bind_some, show zf_76 (sgc (ch b n p)) = decide (dgt (ch b n p)) from sgc_w hc (lo := 48) (hi := 57) (by decide) (by decide), if_neg (show ¬ nI 5 < 5 by decide)]
      rfl
    by_cases c1 : dgt (ch b n p)
    · rw [decide_eq_true c1, jb_yes] at e0
      rw [if_pos c1, jb_lp_inl e0]
      refine ⟨_, jb_lp_inr ?_, lO_bad (x := 2) (lX_0 s M) h.2.1⟩
      unfold zf_77_H4
      dsimp only
      rw [if_pos (by decide)]
      rfl
    · rw [if_neg c1]
      obtain ⟨M', m1, m2, m3⟩ := jc_emit h (by simp at hl; omega) 0 v 1 (nI v) rfl (fun _ => rfl)
      rw [decide_eq_false c1, jb_no, m1, Option.bind_some] at e0
      exact ⟨_, jb_lp_inr e0, m3, rfl, m2⟩
  | succ f ih =>
    intro k v p M hk h hv hp hl h0
    have hc := ch_le (tcB_b h.1) p
    have hv5 : v < 100000 := Nat.lt_of_lt_of_le hv (by
      have : 10 ^ k ≤ 10 ^ 5 := Nat.pow_le_pow_right (by decide) (by omega)
      omega)
    unfold nmR
    have e0 : zf_77_H4 (nI v, nI k, M) = if jb_b2i (decide (dgt (ch b n p))) = 0 then (zf_70 1 (nI v) M).bind fun q2 => some (.inr (true, q2.2)) else some (.inl (10 * nI v + sgc (ch b n p) - 48, nI (k + 1), jb_up M 50 2 (nI (p + 1)))) := by
      unfold zf_77_H4 zf_77_J65
      dsimp only
      rw [if_neg (show ¬ (5 : Int32) < nI k from nI_nlt (a := 5) (by omega) (by omega)), h.2.1, sgc_byte h.1 (by omega), Option.bind_some, show zf_76 (sgc (ch b n p)) = decide (dgt (ch b n p)) from sgc_w hc (lo := 48) (hi := 57) (by decide) (by decide), if_pos (show nI k < 5 from nI_lt (b := 5) (by omega) (by decide)), nI_succ, nI_succ]
    by_cases c1 : dgt (ch b n p)
    · have hpn := dgt_in (tcB_b h.1) c1
      have c1' := c1
      unfold dgt at c1'
      rw [decide_eq_true c1, jb_yes, sgc_in (by omega), jn_mull, nI_add, show nI (10 * v + ch b n p) - 48 = nI (10 * v + (ch b n p - 48)) from by rw [show (48 : Int32) = nI 48 from rfl, pk_sub (by omega), Nat.add_sub_assoc (by omega)]] at e0
      rw [if_pos c1, jb_lp_inl e0]
      obtain ⟨r, r1, r2⟩ := ih (k + 1) (10 * v + (ch b n p - 48)) (p + 1) _ (by omega) (lC_p (q := p + 1) h) (by rw [Nat.pow_succ]; omega) (by omega) (by rw [if_neg (by omega)]; split at hl <;> omega) (fun y => by omega)
      exact ⟨r, r1, lO_t (lX_u (lX_0 s M)) r2⟩
    · rw [if_neg c1]
      have hk0 : k ≠ 0 := fun y => c1 (h0 y)
      rw [if_neg hk0] at hl
      obtain ⟨M', m1, m2, m3⟩ := jc_emit h (by omega) 0 v 1 (nI v) rfl (fun _ => rfl)
      rw [decide_eq_false c1, jb_no, m1, Option.bind_some] at e0
      exact ⟨_, jb_lp_inr e0, m3, rfl, m2⟩
theorem jc_sign {b : Nat → Nat} {n s p k : Nat} {c : jPc} {M : jb_Mi} (h : lC b n s p c M) (hp : p < 2 ^ 31) (hk : k < 256) : zf_79 (nI k) M = if ch b n p = k then some (true, jb_up M 50 2 (nI (p + 1))) else some (zf_75 (nI 1) M) := by
  have hc := ch_le (tcB_b h.1) p
  unfold zf_79
  rw [h.2.1, sgc_byte h.1 hp, Option.bind_some]
  have e : (sgc (ch b n p) = nI k) = (ch b n p = k) := sgc_eq hc hk
  simp only [e]
  rw [nI_succ]
  rfl
theorem jc_enter {b : Nat → Nat} {n s p l : Nat} {c : jPc} {M : jb_Mi} (h : lC b n s p c M) (hl : l ≤ 6) : zf_78 (nI (6 - l)) M = if l = 0 then zf_75 (nI 5) M else (true, jb_up M 50 2 (nI (p + 1))) := by
  unfold zf_78
  by_cases e : l = 0
  · subst e
    rw [if_neg (by decide), if_pos rfl]
    rfl
  · rw [if_pos (show nI (6 - l) < 6 from nI_lt (b := 6) (by omega) (by decide)), if_neg e, h.2.1, nI_succ]
theorem jc_factor {b : Nat → Nat} {n s l : Nat} {E : Nat → jPc → lwR} {g : Nat → Int32 → jb_Mi → Option (Bool × jb_Mi)} (hn : n ≤ 240) (hl : l ≤ 6) (hE : l ≠ 0 → gX n (2 * l) E ∧ sim b n s (2 * l) E (g 0 (nI (7 - l)))) : sim b n s (2 * l) (fcR b n l E) (zf_81 g (nI (6 - l))) := by
  intro p c M h hc hd hp hs
  have hch := ch_le (tcB_b h.1) p
  have s91 : (sgc (ch b n p) = 91) = (ch b n p = 91) := sgc_eq (k := 91) hch (by decide)
  unfold zf_81 fcR
  rw [h.2.1, sgc_byte h.1 (by omega), Option.bind_some, show zf_76 (sgc (ch b n p)) = decide (dgt (ch b n p)) from sgc_w hch (lo := 48) (hi := 57) (by decide) (by decide)]
  simp only [s91]
  by_cases c1 : dgt (ch b n p)
  · rw [decide_eq_true c1, jb_yes, if_pos c1]
    obtain ⟨r, r1, r2⟩ := jc_nm hn 5 0 0 p M (by omega) h (by decide) hp (by rw [if_pos rfl]; omega) (fun _ => c1)
    unfold zf_77
    rw [show jb_lp zf_77_H4 (0, 0, M) = some r from r1, Option.bind_some]
    exact ⟨r, rfl, r2⟩
  rw [decide_eq_false c1, jb_no, if_neg c1]
  by_cases c2 : ch b n p = 91
  · rw [if_pos c2, if_pos c2, jc_enter h hl]
    by_cases c3 : l = 0
    · rw [if_pos c3, if_pos c3]
      refine ⟨_, ?_, lO_bad (x := 5) (lX_0 s M) h.2.1⟩
      exact jb_no _ _
    · rw [if_neg c3, if_neg c3, jb_yes]
      dsimp only
      obtain ⟨gE, sE⟩ := hE c3
      have hpn := ch_in (tcB_b h.1) (k := p) (by omega)
      obtain ⟨r, r1, r2⟩ := sE (p + 1) c _ (lC_p (q := p + 1) h) hc hd (by omega) (by omega)
      have hg := gE (p + 1) c hc hd (by omega) (by omega)
      rw [show nI (6 - l) + 1 = nI (7 - l) from by rw [← nI_succ]; congr 1; omega, r1, Option.bind_some]
      have r3 := lO_t (lX_u (lX_0 s M)) r2
      cases e : E (p + 1) c with
      | inl x =>
        rw [e] at r3
        rw [r3.2.1, jb_no]
        exact ⟨_, rfl, r3.1, rfl, r3.2.2⟩
      | inr y =>
        rw [e] at r3 hg
        have hy := hg.2.1
        rw [r3.2.1, jb_yes, show (93 : Int32) = nI 93 from rfl, jc_sign r3.2.2 (by omega) (by decide)]
        unfold bnd
        dsimp only
        by_cases c4 : ch b n y.1 = 93
        · rw [if_pos c4, if_pos c4, Option.bind_some, jb_yes]
          exact ⟨_, rfl, lX_u r3.1, rfl, lC_p r3.2.2⟩
        · rw [if_neg c4, if_neg c4, Option.bind_some]
          refine ⟨_, jb_no _ _, lO_bad (x := 1) r3.1 r3.2.2.2.1⟩
  rw [if_neg c2, if_neg c2, fct_c hch]
  by_cases c3 : fct (ch b n p) < 10
  · have hpn := ch_in (tcB_b h.1) (fct_ok c3)
    rw [if_pos c3, if_pos c3, if_neg (nI_pos (by omega))]
    obtain ⟨M', m1, m2, m3⟩ := jc_emit h (by omega) 1 (fct (ch b n p)) 2 (nI (fct (ch b n p))) rfl (fun _ => rfl)
    rw [m1, Option.bind_some]
    refine ⟨_, rfl, lX_u m3, rfl, ?_⟩
    dsimp only
    rw [m2.2.1, ← nI_succ]
    exact lC_p m2
  · rw [if_neg c3, if_neg c3, if_pos (by decide)]
    exact ⟨_, rfl, lO_bad (x := 1) (lX_0 s M) h.2.1⟩
