/-! ORDERS: the class's lines -/
noncomputable def orr (x : (Nat × Nat) ⊕ (Nat × jSt)) : Int32 := match x with
  | .inl e => zf_74 (nI e.1) (nI e.2)
  | .inr y => nI y.1
def ocF (x : (Nat × Nat) ⊕ (Nat × jSt)) (M : jb_Mi) (r : Int32 × jb_Mi) : Prop := r.1 = orr x ∧ (∀ a, a ≠ 43 → (a < 24 ∨ 33 < a) → r.2 a = M a) ∧ match x with
  | .inl _ => True
  | .inr y => jC 24 y.2 r.2
theorem jc_step {b : Nat → Nat} {n k p : Nat} {S : jSt} {M : jb_Mi} (hT : tcB b n M) (hp : M 43 2 = nI p) (hpn : p ≤ n) (hn : n < 270) (hC : jC 24 S M) (hR : jR S) (hk : k ≤ 20) : match oStep b n k p S with
  | .inl e => ∃ M', zf_93_H12 (nI k, M) = some (.inr (zf_74 (nI e.1) (nI e.2), M')) ∧ ∀ a, a ≠ 43 → (a < 24 ∨ 33 < a) → M' a = M a
  | .inr y => ∃ M', zf_93_H12 (nI k, M) = zf_93_J97 (nI k) M' ∧ (∀ a, a ≠ 43 → (a < 24 ∨ 33 < a) → M' a = M a) ∧ M' 43 2 = nI y.1 ∧ jC 24 y.2 M' := by
  have hc := ch_le (tcB_b hT) p
  have w1 : zf_86 (sgc (ch b n p)) = decide (mnc (ch b n p)) := sgc_w hc (lo := 97) (hi := 112) (by decide) (by decide)
  have w2 : zf_76 (sgc (ch b n p)) = decide (dgt (ch b n p)) := sgc_w hc (lo := 48) (hi := 57) (by decide) (by decide)
  have e0 : zf_93_H12 (nI k, M) = if mnc (ch b n p) ∨ dgt (ch b n p) then zf_93_J53 (nI k) (sgc (ch b n p)) M else some (.inr (zf_74 (nI 1) (nI p), M)) := by
    unfold zf_93_H12
    dsimp only
    rw [if_neg (show ¬ (20 : Int32) < nI k from nI_nlt (a := 20) (by omega) (by omega)), hp, sgc_byte hT (by omega), Option.bind_some, w1, w2]
    by_cases c1 : mnc (ch b n p)
    · rw [decide_eq_true c1, jb_yes, if_pos (Or.inl c1)]
    · rw [decide_eq_false c1, jb_no]
      by_cases c2 : dgt (ch b n p)
      · rw [decide_eq_true c2, jb_yes, if_pos (Or.inr c2)]
      · rw [decide_eq_false c2, jb_no, if_neg (fun y => y.elim c1 c2)]
        rfl
  rw [e0]
  unfold oStep
  by_cases c0 : mnc (ch b n p) ∨ dgt (ch b n p)
  · rw [if_pos c0, if_pos c0]
    unfold zf_93_J53
    have hk20 : (nI k = 20) = (k = 20) := jn_eq (b := 20) (by omega) (by decide)
    simp only [hk20]
    by_cases ck : k = 20
    · rw [if_pos ck, if_pos ck, hp]
      exact ⟨M, rfl, fun _ _ _ => rfl⟩
    rw [if_neg ck, if_neg ck, w1]
    by_cases c1 : mnc (ch b n p)
    · rw [decide_eq_true c1, jb_yes, if_pos c1]
      obtain ⟨r, r1, r2, r3⟩ := jc_rest1 hT hp (by omega) hC hR c1
      rw [r1, Option.bind_some]
      cases e : oRest b n p S with
      | inl e1 =>
        rw [e] at r3
        exact ⟨r.2, by rw [r3.1, jb_no, r3.2], r2⟩
      | inr y =>
        rw [e] at r3
        exact ⟨r.2, by rw [r3.1, jb_yes], r2, r3.2⟩
    · rw [decide_eq_false c1, jb_no, if_neg c1]
      obtain ⟨r, r1, r2, r3⟩ := jc_thing1 hT hp hpn hn hC hR
      rw [r1, Option.bind_some]
      cases e : oThing b n p S with
      | inl e1 =>
        rw [e] at r3
        exact ⟨r.2, by rw [r3.1, jb_no, r3.2], r2⟩
      | inr y =>
        rw [e] at r3
        exact ⟨r.2, by rw [r3.1, jb_yes], r2, r3.2⟩
  · rw [if_neg c0, if_neg c0]
    exact ⟨M, rfl, fun _ _ _ => rfl⟩
theorem oStep_20 {b : Nat → Nat} {n p : Nat} {S : jSt} : ∃ e, oStep b n 20 p S = .inl e := by
  unfold oStep
  split
  · exact ⟨_, rfl⟩
  · exact ⟨_, rfl⟩
theorem jc_lines {b : Nat → Nat} {n : Nat} (hn : n < 270) : ∀ (f k p : Nat) (S : jSt) (M : jb_Mi), tcB b n M → M 43 2 = nI p → p ≤ n → jC 24 S M → jR S → k + f = 21 → 0 < f → ∃ r, jb_lp zf_93_H12 (nI k, M) = some r ∧ ocF (oF b n f k p S) M r := by
  intro f
  induction f with
  | zero => intros; omega
  | succ f ih =>
    intro k p S M hT hp hpn hC hR hk _
    have st := jc_step hT hp hpn hn hC hR (show k ≤ 20 by omega)
    have ok := oStep_ok (tcB_b hT) (k := k) hpn hR
    rw [oF]
    cases e : oStep b n k p S with
    | inl e1 =>
      rw [e] at st
      obtain ⟨M', s1, s2⟩ := st
      exact ⟨_, jb_lp_inr s1, rfl, s2, trivial⟩
    | inr y =>
      rw [e] at st ok
      obtain ⟨M', s1, s2, s3, s4⟩ := st
      obtain ⟨o1, o2, o3, o4⟩ := ok
      have hT' : tcB b n M' := tcB_of hT (s2 2 (by decide) (by decide)) (s2 3 (by decide) (by decide))
      have hc := ch_le (tcB_b hT) y.1
      have e97 : zf_93_J97 (nI k) M' = if n ≤ y.1 then some (.inr (nI (k + 1), M')) else if ch b n y.1 = 59 then some (.inl (nI (k + 1), jb_up M' 43 2 (nI (y.1 + 1)))) else some (.inr (zf_74 (nI 1) (nI y.1), M')) := by
        unfold zf_93_J97
        rw [s3, sgc_byte hT' (by omega), Option.bind_some, Option.bind_some]
        have s59 : (sgc (ch b n y.1) = 59) = (ch b n y.1 = 59) := sgc_eq (k := 59) hc (by decide)
        have sm : (sgc (ch b n y.1) = -1) = (n ≤ y.1) := by rw [sgc_m1 hc]; exact propext (ch_end (tcB_b hT) y.1)
        simp only [s59, sm]
        rw [nI_succ, nI_succ]
        rfl
      rw [e97] at s1
      dsimp only
      by_cases c1 : n ≤ y.1
      · rw [if_pos c1] at s1 ⊢
        exact ⟨_, jb_lp_inr s1, rfl, s2, s4⟩
      · rw [if_neg c1] at s1 ⊢
        by_cases c2 : ch b n y.1 = 59
        · rw [if_pos c2] at s1 ⊢
          have hf : 0 < f := by
            rcases Nat.eq_zero_or_pos f with h0 | h0
            · subst h0
              have : k = 20 := by omega
              subst this
              obtain ⟨e2, e3⟩ := oStep_20 (b := b) (n := n) (p := p) (S := S)
              rw [e] at e3
              cases e3
            · exact h0
          obtain ⟨r, r1, r2, r3, r4⟩ := ih (k + 1) (y.1 + 1) y.2 (jb_up M' 43 2 (nI (y.1 + 1))) (tcB_of hT' (jb_up_off (by decide)) (jb_up_off (by decide))) (by rw [jb_up_at, if_pos ⟨rfl, rfl⟩]) (by omega) (jC_of s4 (fun a h1 h2 => jb_up_off (by omega))) o3 (by omega) hf
          rw [jb_lp_inl s1]
          exact ⟨r, r1, r2, fun a h1 h2 => by rw [r3 a h1 h2, jb_up_off h1, s2 a h1 h2], r4⟩
        · rw [if_neg c2] at s1 ⊢
          exact ⟨_, jb_lp_inr s1, rfl, s2, trivial⟩
theorem oF_ok {b : Nat → Nat} {n : Nat} (hb : bB b n) : ∀ (f k p : Nat) (S : jSt), p ≤ n → jR S → match oF b n f k p S with
  | .inl e => e.1 ≤ 9 ∧ e.2 ≤ n
  | .inr y => 0 < y.1 ∧ y.1 ≤ k + f ∧ jR y.2 ∧ y.2 9 = S 9 := by
  intro f
  induction f with
  | zero =>
    intro k p S hp hR
    exact ⟨by dsimp only; omega, by dsimp only; omega⟩
  | succ f ih =>
    intro k p S hp hR
    have ok := oStep_ok hb (k := k) hp hR
    rw [oF]
    cases e : oStep b n k p S with
    | inl e1 => rw [e] at ok; exact ok
    | inr y =>
      rw [e] at ok
      obtain ⟨o1, o2, o3, o4⟩ := ok
      dsimp only
      by_cases c1 : n ≤ y.1
      · rw [if_pos c1]
        exact ⟨by dsimp only; omega, by dsimp only; omega, o3, o4⟩
      · rw [if_neg c1]
        by_cases c2 : ch b n y.1 = 59
        · rw [if_pos c2]
          have := ih (k + 1) (y.1 + 1) y.2 (by omega) o3
          cases e2 : oF b n f (k + 1) (y.1 + 1) y.2 with
          | inl e3 => rw [e2] at this; exact this
          | inr z => rw [e2] at this; exact ⟨this.1, by have := this.2.1; omega, this.2.2.1, by rw [this.2.2.2, o4]⟩
        · rw [if_neg c2]
          exact ⟨by dsimp only; omega, o2⟩
