/-! ORDERS: the class reads -/
theorem cf_87 (x q : Nat) (M : jb_Mi) : zf_87 (nI x) (nI q) M = (false, jb_up M 43 3 (zf_74 (nI x) (nI q))) := rfl
theorem jc_num1 {b : Nat → Nat} {n p v k : Nat} {M : jb_Mi} (hT : tcB b n M) (hp : M 43 2 = nI p) (hpn : p < 300) (hv : v ≤ 99) (hk : k ≤ 2) : zf_88_H4 (nI v, nI k, M) = if dgt (ch b n p) then (if k < 2 then some (.inl (nI (10 * v + (ch b n p - 48)), nI (k + 1), jb_up M 43 2 (nI (p + 1)))) else some (.inl (nI v, nI (k + 1), M))) else if 0 < k then some (.inr (nI v, M)) else some (.inr (-1, jb_up M 43 3 (zf_74 (nI 1) (nI p)))) := by
  have hc := ch_le (tcB_b hT) p
  unfold zf_88_H4
  dsimp only
  rw [if_neg (show ¬ (2 : Int32) < nI k from nI_nlt (a := 2) (by omega) (by omega)), hp, sgc_byte hT (by omega), Option.bind_some, show zf_76 (sgc (ch b n p)) = decide (dgt (ch b n p)) from sgc_w hc (lo := 48) (hi := 57) (by decide) (by decide)]
  by_cases c : dgt (ch b n p)
  · rw [decide_eq_true c, jb_yes, if_pos c]
    unfold zf_88_J71
    have c' := c
    unfold dgt at c'
    rw [sgc_in (by omega), jn_mull, nI_add, show nI (10 * v + ch b n p) - 48 = nI (10 * v + (ch b n p - 48)) from by rw [show (48 : Int32) = nI 48 from rfl, pk_sub (by omega), Nat.add_sub_assoc (by omega)], nI_succ, nI_succ]
    by_cases c2 : k < 2
    · rw [if_pos (show nI k < 2 from nI_lt (b := 2) c2 (by decide)), if_pos c2]
    · rw [if_neg (show ¬ nI k < 2 from nI_nlt (b := 2) (by omega) (by omega)), if_neg c2]
  · rw [decide_eq_false c, jb_no, if_neg c]
    by_cases c2 : 0 < k
    · rw [if_pos (show (0 : Int32) < nI k from nI_lt (a := 0) c2 (by omega)), if_pos c2]
    · rw [if_neg (show ¬ (0 : Int32) < nI k from nI_nlt (a := 0) (by omega) (by omega)), if_neg c2]
      rfl
theorem jc_num {b : Nat → Nat} {n p : Nat} {M : jb_Mi} (hT : tcB b n M) (hp : M 43 2 = nI p) (hpn : p < 290) : ∃ v M', zf_88 M = some (v, M') ∧ (∀ a, a ≠ 43 → M' a = M a) ∧ match oNum b n p with
  | .inl e => v = -1 ∧ M' 43 3 = zf_74 (nI e.1) (nI e.2)
  | .inr y => v = nI y.1 ∧ M' 43 2 = nI y.2 := by
  unfold zf_88 oNum
  have s0 := jc_num1 hT hp (by omega) (v := 0) (k := 0) (by omega) (by omega)
  by_cases c0 : dgt (ch b n p)
  · rw [if_pos c0, if_pos (by omega)] at s0
    rw [if_pos c0, show jb_lp zf_88_H4 (0, 0, M) = jb_lp zf_88_H4 (nI 0, nI 0, M) from rfl, jb_lp_inl s0]
    have hT1 : tcB b n (jb_up M 43 2 (nI (p + 1))) := tcB_of hT (jb_up_off (by decide)) (jb_up_off (by decide))
    have s1 := jc_num1 hT1 (p := p + 1) (by rw [jb_up_at, if_pos ⟨rfl, rfl⟩]) (by omega) (v := 10 * 0 + (ch b n p - 48)) (k := 0 + 1) (by unfold dgt at c0; omega) (by omega)
    by_cases c1 : dgt (ch b n (p + 1))
    · rw [if_pos c1, if_pos (by omega)] at s1
      rw [if_pos c1, jb_lp_inl s1]
      have hT2 : tcB b n (jb_up (jb_up M 43 2 (nI (p + 1))) 43 2 (nI (p + 1 + 1))) := tcB_of hT1 (jb_up_off (by decide)) (jb_up_off (by decide))
      have s2 := jc_num1 hT2 (p := p + 1 + 1) (by rw [jb_up_at, if_pos ⟨rfl, rfl⟩]) (by omega) (v := 10 * (10 * 0 + (ch b n p - 48)) + (ch b n (p + 1) - 48)) (k := 0 + 1 + 1) (by unfold dgt at c0 c1; omega) (by omega)
      by_cases c2 : dgt (ch b n (p + 2))
      · rw [if_pos c2, if_neg (by omega)] at s2
        rw [if_pos c2, jb_lp_inl s2]
        refine ⟨-1, jb_up (jb_up (jb_up M 43 2 (nI (p + 1))) 43 2 (nI (p + 1 + 1))) 43 3 (zf_74 (nI 2) (nI (p + 2))), jb_lp_inr ?_, fun a ha => by rw [jb_up_off ha, jb_up_off ha, jb_up_off ha], rfl, by rw [jb_up_at, if_pos ⟨rfl, rfl⟩]⟩
        unfold zf_88_H4
        dsimp only
        rw [if_pos (by decide), show jb_up (jb_up M 43 2 (nI (p + 1))) 43 2 (nI (p + 1 + 1)) 43 2 = nI (p + 2) by rw [jb_up_at, if_pos ⟨rfl, rfl⟩]]
        rfl
      · rw [if_neg c2, if_pos (by omega)] at s2
        rw [if_neg c2]
        refine ⟨_, _, jb_lp_inr s2, fun a ha => by rw [jb_up_off ha, jb_up_off ha], by dsimp only; congr 1; omega, by rw [jb_up_at, if_pos ⟨rfl, rfl⟩]⟩
    · rw [if_neg c1, if_pos (by omega)] at s1
      rw [if_neg c1]
      exact ⟨_, _, jb_lp_inr s1, fun a ha => by rw [jb_up_off ha], by dsimp only; congr 1; omega, by rw [jb_up_at, if_pos ⟨rfl, rfl⟩]⟩
  · rw [if_neg c0, if_neg (by omega)] at s0
    rw [if_neg c0]
    exact ⟨_, _, jb_lp_inr s0, fun a ha => by rw [jb_up_off ha], rfl, by rw [jb_up_at, if_pos ⟨rfl, rfl⟩]⟩
def ocO (S : jSt) (x : (Nat × Nat) ⊕ (Nat × jSt)) (M : jb_Mi) (r : Bool × jb_Mi) : Prop := (∀ a, a ≠ 43 → (a < 24 ∨ 33 < a) → r.2 a = M a) ∧ match x with
  | .inl e => r.1 = false ∧ r.2 43 3 = zf_74 (nI e.1) (nI e.2)
  | .inr y => r.1 = true ∧ r.2 43 2 = nI y.1 ∧ jC 24 y.2 r.2
theorem ocO_bad {S : jSt} {x q : Nat} {M M1 : jb_Mi} (h : ∀ a, a ≠ 43 → (a < 24 ∨ 33 < a) → M1 a = M a) : ocO S (.inl (x, q)) M (zf_87 (nI x) (nI q) M1) := ⟨fun a h1 h2 => by rw [cf_87]; dsimp only; rw [jb_up_off h1, h a h1 h2], rfl, by rw [cf_87]; dsimp only; rw [jb_up_at, if_pos ⟨rfl, rfl⟩]⟩
theorem jn_max0 {a b : Nat} (ha : a < 1000) (hb : b < 1000) : zf_271 0 (nI a - nI b) = nI (a - b) := by
  unfold zf_271
  by_cases c : b < a
  · rw [pk_sub (by omega), if_pos (show (0 : Int32) < nI (a - b) from nI_lt (a := 0) (by omega) (by omega))]
  · rw [show a - b = 0 by omega]
    by_cases c2 : a = b
    · subst c2
      rw [pk_sub (Nat.le_refl _), Nat.sub_self, if_neg (by decide)]
      rfl
    · have := pk_sneg (a := a) (b := b) (by omega) (by omega)
      rw [if_neg (by rw [fa_ltx] at this ⊢; omega)]
      rfl
theorem jc_rest1 {b : Nat → Nat} {n p : Nat} {S : jSt} {M : jb_Mi} (hT : tcB b n M) (hp : M 43 2 = nI p) (hpn : p < 280) (hC : jC 24 S M) (hR : jR S) (hm : mnc (ch b n p)) : ∃ r, zf_89 M = some r ∧ ocO S (oRest b n p S) M r := by
  have hc := ch_le (tcB_b hT) p
  have hm' := hm
  unfold mnc at hm'
  have hT1 : tcB b n (jb_up M 43 2 (nI (p + 1))) := tcB_of hT (jb_up_off (by decide)) (jb_up_off (by decide))
  obtain ⟨v, M1, n1, n2, n3⟩ := jc_num hT1 (p := p + 1) (by rw [jb_up_at, if_pos ⟨rfl, rfl⟩]) (by omega)
  have hnum := oNum_ok (tcB_b hT) (p := p + 1) (ch_in (tcB_b hT) (by omega))
  unfold zf_89 oRest
  rw [hp, sgc_byte hT (by omega), Option.bind_some, sgc_in (by omega), show nI (ch b n p) - 97 = nI (ch b n p - 97) from pk_sub (b := 97) (by omega), jc_man hC hR (by omega), Option.bind_some]
  by_cases c : 0 < S 7 (ch b n p - 97)
  · rw [decide_eq_true c, jb_yes, if_pos c, ← nI_succ, n1, Option.bind_some]
    cases e : oNum b n (p + 1) with
    | inl e1 =>
      rw [e] at n3
      refine ⟨(false, M1), ?_, fun a h1 h2 => by dsimp only; rw [n2 a h1, jb_up_off h1], rfl, n3.2⟩
      dsimp only
      rw [if_pos (by rw [n3.1]; decide)]
    | inr y =>
      rw [e] at n3 hnum
      have hm16 : ch b n p - 97 < 16 := by omega
      have h8 := (hR.2.2.1 _ hm16).2
      have hC1 : jC 24 S M1 := jC_of hC (fun a h1 h2 => by rw [n2 a (by omega), jb_up_off (by omega)])
      have e9 := (hC1.2.2.1 _ hm16).2
      refine ⟨(true, jb_up M1 33 (ch b n p - 97) (nI (S 8 (ch b n p - 97) - y.1))), ?_, fun a h1 h2 => by dsimp only; rw [jb_up_off (by omega), n2 a h1, jb_up_off h1], rfl, by dsimp only; rw [jb_up_off (by decide), n3.2], ?_⟩
      · dsimp only
        have y99 := hnum.1
        rw [n3.1, if_neg (nI_pos (by omega)), jn_gd hm16 (by decide), jn_gd hm16 (by decide), nI_clamp (by omega), show M1 33 (ch b n p - 97) = nI (S 8 (ch b n p - 97)) from e9, jn_max0 (by omega) (by omega)]
      · exact jC_up (k := 8) hC1 (by omega)
  · rw [decide_eq_false c, jb_no, if_neg c]
    exact ⟨_, rfl, ocO_bad (fun _ _ _ => rfl)⟩
theorem jc_ospot {b : Nat → Nat} {n p t : Nat} {S : jSt} {M : jb_Mi} (hT : tcB b n M) (hp : M 43 2 = nI p) (hpn : p < 280) (hC : jC 24 S M) (ht : t < 24) : ∃ r, zf_90 (nI t) M = some r ∧ ocO S (if 48 ≤ ch b n p ∧ ch b n p ≤ 56 then (if 48 ≤ ch b n (p + 1) ∧ ch b n (p + 1) ≤ 56 then .inr (p + 2, jset (jset S 4 t (ch b n p - 48)) 5 t (ch b n (p + 1) - 48)) else .inl (1, p + 1)) else .inl (1, p)) M r := by
  have hc := ch_le (tcB_b hT) p
  have hc1 := ch_le (tcB_b hT) (p + 1)
  unfold zf_90
  have w1 : zf_23 (sgc (ch b n p)) 48 56 = decide (48 ≤ ch b n p ∧ ch b n p ≤ 56) := sgc_w hc (lo := 48) (hi := 56) (by decide) (by decide)
  have w2 : zf_23 (sgc (ch b n (p + 1))) 48 56 = decide (48 ≤ ch b n (p + 1) ∧ ch b n (p + 1) ≤ 56) := sgc_w hc1 (lo := 48) (hi := 56) (by decide) (by decide)
  by_cases c1 : 48 ≤ ch b n p ∧ ch b n p ≤ 56
  · rw [if_pos c1]
    have s0 : zf_90_H2 (nI t) (0, M) = some (.inl (nI 1, jb_up (jb_up M 29 t (nI (ch b n p - 48))) 43 2 (nI (p + 1)))) := by
      unfold zf_90_H2 zf_90_J73
      dsimp only
      rw [if_pos (by decide), hp, sgc_byte hT (by omega), Option.bind_some, w1, decide_eq_true c1, jb_yes, if_pos rfl, jn_gd ht (by decide), nI_clamp (by omega), jb_up_off (by decide), hp, nI_succ p, sgc_in (by omega), show nI (ch b n p) - 48 = nI (ch b n p - 48) from pk_sub (b := 48) (by omega)]
      rfl
    rw [jb_lp_inl s0]
    have hp1 : jb_up (jb_up M 29 t (nI (ch b n p - 48))) 43 2 (nI (p + 1)) 43 2 = nI (p + 1) := by rw [jb_up_at, if_pos ⟨rfl, rfl⟩]
    have hT1 : tcB b n (jb_up (jb_up M 29 t (nI (ch b n p - 48))) 43 2 (nI (p + 1))) := tcB_of hT (by rw [jb_up_off (by decide), jb_up_off (by decide)]) (by rw [jb_up_off (by decide), jb_up_off (by decide)])
    have hC1 : jC 24 (jset S 4 t (ch b n p - 48)) (jb_up (jb_up M 29 t (nI (ch b n p - 48))) 43 2 (nI (p + 1))) := jC_of (jC_up (k := 4) hC (by omega)) (fun a h1 h2 => jb_up_off (by omega))
    by_cases c2 : 48 ≤ ch b n (p + 1) ∧ ch b n (p + 1) ≤ 56
    · rw [if_pos c2]
      have s1 : zf_90_H2 (nI t) (nI 1, jb_up (jb_up M 29 t (nI (ch b n p - 48))) 43 2 (nI (p + 1))) = some (.inl (nI 2, jb_up (jb_up (jb_up (jb_up M 29 t (nI (ch b n p - 48))) 43 2 (nI (p + 1))) 30 t (nI (ch b n (p + 1) - 48))) 43 2 (nI (p + 2)))) := by
        unfold zf_90_H2 zf_90_J73
        dsimp only
        rw [if_pos (by decide), hp1, sgc_byte hT1 (by omega), Option.bind_some, w2, decide_eq_true c2, jb_yes, if_neg (by decide), jn_gd ht (by decide), nI_clamp (by omega), jb_up_off (show (43 : Nat) ≠ 30 by decide), hp1, nI_succ (p + 1), sgc_in (by omega), show nI (ch b n (p + 1)) - 48 = nI (ch b n (p + 1) - 48) from pk_sub (b := 48) (by omega)]
        rfl
      rw [jb_lp_inl s1]
      refine ⟨(true, jb_up (jb_up (jb_up (jb_up M 29 t (nI (ch b n p - 48))) 43 2 (nI (p + 1))) 30 t (nI (ch b n (p + 1) - 48))) 43 2 (nI (p + 2))), jb_lp_inr ?_, fun a h1 h2 => ?_, rfl, ?_, ?_⟩
      · unfold zf_90_H2
        dsimp only
        rw [if_neg (by decide)]
      · dsimp only
        rw [jb_up_off h1, jb_up_off (by omega), jb_up_off h1, jb_up_off (by omega)]
      · dsimp only
        rw [jb_up_at, if_pos ⟨rfl, rfl⟩]
      · exact jC_of (jC_up (k := 5) hC1 (by omega)) (fun a h1 h2 => jb_up_off (by omega))
    · rw [if_neg c2]
      refine ⟨_, jb_lp_inr ?_, ocO_bad (x := 1) (q := p + 1) (M1 := jb_up (jb_up M 29 t (nI (ch b n p - 48))) 43 2 (nI (p + 1))) (fun a h1 h2 => by rw [jb_up_off h1, jb_up_off (by omega)])⟩
      unfold zf_90_H2
      dsimp only
      rw [if_pos (by decide), hp1, sgc_byte hT1 (by omega), Option.bind_some, w2, decide_eq_false c2, jb_no]
      rfl
  · rw [if_neg c1]
    refine ⟨_, jb_lp_inr ?_, ocO_bad (x := 1) (q := p) (M1 := M) (fun a h1 h2 => rfl)⟩
    unfold zf_90_H2
    dsimp only
    rw [if_pos (by decide), hp, sgc_byte hT (by omega), Option.bind_some, w1, decide_eq_false c1, jb_no]
    rfl
theorem jc_hs {b : Nat → Nat} {n p t : Nat} {S : jSt} {M : jb_Mi} (hT : tcB b n M) (hp : M 43 2 = nI p) (hpn : p < 280) (hC : jC 24 S M) (hR : jR S) (ht : t < 24) : ∃ r, zf_91 (nI t) M = some r ∧ ocO S (if 48 ≤ ch b n p ∧ ch b n p ≤ 53 then (if 0 < S 0 (ch b n p - 48) then .inr (p + 1, jset S 3 t (ch b n p - 48)) else .inl (7, p)) else .inl (1, p)) M r := by
  have hc := ch_le (tcB_b hT) p
  unfold zf_91
  rw [hp, sgc_byte hT (by omega), Option.bind_some, show zf_23 (sgc (ch b n p)) 48 53 = decide (48 ≤ ch b n p ∧ ch b n p ≤ 53) from sgc_w hc (lo := 48) (hi := 53) (by decide) (by decide)]
  by_cases c1 : 48 ≤ ch b n p ∧ ch b n p ≤ 53
  · rw [decide_eq_true c1, jb_yes, if_pos c1, sgc_in (by omega), show nI (ch b n p) - 48 = nI (ch b n p - 48) from pk_sub (b := 48) (by omega), jc_told hC hR (by omega), Option.bind_some]
    by_cases c2 : 0 < S 0 (ch b n p - 48)
    · rw [decide_eq_true c2, jb_yes, if_pos c2, jn_gd ht (by decide), nI_clamp (by omega)]
      refine ⟨_, rfl, fun a h1 h2 => ?_, rfl, ?_, ?_⟩
      · dsimp only
        rw [jb_up_off h1, jb_up_off (by omega)]
      · dsimp only
        rw [jb_up_at, if_pos ⟨rfl, rfl⟩, jb_up_off (by decide), hp, nI_succ]
      · exact jC_of (jC_up (k := 3) hC (by omega)) (fun a h1 h2 => jb_up_off (by omega))
    · rw [decide_eq_false c2, jb_no, if_neg c2]
      exact ⟨_, rfl, ocO_bad (fun _ _ _ => rfl)⟩
  · rw [decide_eq_false c1, jb_no, if_neg c1]
    exact ⟨_, rfl, ocO_bad (fun _ _ _ => rfl)⟩
theorem jc_thing_no {o : Nat} {M : jb_Mi} {v : Nat} (h : 24 ≤ v) (hv : v < 2 ^ 31) : zf_3 o (nI v) M = some false := by
  unfold zf_3
  rw [if_neg (nI_pos hv), if_neg (show ¬ nI v < 24 from nI_nlt (b := 24) h hv)]
theorem jc_thing1 {b : Nat → Nat} {n p : Nat} {S : jSt} {M : jb_Mi} (hT : tcB b n M) (hp : M 43 2 = nI p) (hpn : p ≤ n) (hn : n < 270) (hC : jC 24 S M) (hR : jR S) : ∃ r, zf_92 M = some r ∧ ocO S (oThing b n p S) M r := by
  obtain ⟨v, M1, n1, n2, n3⟩ := jc_num hT hp (by omega)
  have hnum := oNum_ok (tcB_b hT) hpn
  have hC1 : jC 24 S M1 := jC_of hC (fun a h1 h2 => n2 a (by omega))
  have hT1 : tcB b n M1 := tcB_of hT (n2 2 (by decide)) (n2 3 (by decide))
  unfold zf_92 oThing
  rw [n1, Option.bind_some, hp]
  cases e : oNum b n p with
  | inl e1 =>
    rw [e] at n3
    refine ⟨(false, M1), ?_, fun a h1 h2 => n2 a h1, rfl, n3.2⟩
    dsimp only
    rw [if_pos (by rw [n3.1]; decide)]
  | inr y =>
    rw [e] at n3 hnum
    obtain ⟨t, p'⟩ := y
    dsimp only at n3 hnum ⊢
    obtain ⟨rfl, n4⟩ := n3
    have hc := ch_le (tcB_b hT) p'
    rw [if_neg (nI_pos (by omega)), n4]
    have hnt : ¬ (t < 24 ∧ 0 < S 6 t) → zf_3 24 (nI t) M1 = some false := by
      intro y
      by_cases c : t < 24
      · rw [jc_thing hC1 hR c, decide_eq_false (fun z => y ⟨c, z⟩)]
      · exact jc_thing_no (by omega) (by omega)
    by_cases c1 : t < 24 ∧ 0 < S 6 t
    · have hT2 : tcB b n (jb_up M1 43 2 (nI (p' + 1))) := tcB_of hT1 (jb_up_off (by decide)) (jb_up_off (by decide))
      have hC2 : jC 24 S (jb_up M1 43 2 (nI (p' + 1))) := jC_of hC1 (fun a h1 h2 => jb_up_off (by omega))
      have hp2 : jb_up M1 43 2 (nI (p' + 1)) 43 2 = nI (p' + 1) := by rw [jb_up_at, if_pos ⟨rfl, rfl⟩]
      have hfr : ∀ a, a ≠ 43 → (a < 24 ∨ 33 < a) → jb_up M1 43 2 (nI (p' + 1)) a = M a := fun a h1 h2 => by rw [jb_up_off h1, n2 a h1]
      have lift : ∀ x r, ocO S x (jb_up M1 43 2 (nI (p' + 1))) r → ocO S x M r := fun x r h => ⟨fun a h1 h2 => by rw [h.1 a h1 h2, hfr a h1 h2], h.2⟩
      rw [jc_thing hC1 hR c1.1, decide_eq_true c1.2, Option.bind_some, jb_yes, if_pos c1, sgc_byte hT1 (by omega), Option.bind_some, ← nI_succ]
      unfold oMove
      have s33 : (sgc (ch b n p') = 33) = (ch b n p' = 33) := sgc_eq (k := 33) hc (by decide)
      have s62 : (sgc (ch b n p') = 62) = (ch b n p' = 62) := sgc_eq (k := 62) hc (by decide)
      have s64 : (sgc (ch b n p') = 64) = (ch b n p' = 64) := sgc_eq (k := 64) hc (by decide)
      simp only [s33, s62, s64]
      by_cases c2 : ch b n p' = 33
      · rw [if_pos c2, if_pos c2, jn_gd c1.1 (by decide), nI_clamp (by omega)]
        refine ⟨_, rfl, fun a h1 h2 => ?_, rfl, ?_, ?_⟩
        · dsimp only
          rw [jb_up_off (by omega), hfr a h1 h2]
        · dsimp only
          rw [jb_up_off (by decide), hp2]
        · exact jC_up (k := 6) (v := 0) hC2 (by omega)
      rw [if_neg c2, if_neg c2]
      by_cases c3 : ch b n p' = 62
      · rw [if_pos c3, if_pos c3]
        obtain ⟨r, r1, r2⟩ := jc_ospot hT2 hp2 (by omega) hC2 c1.1
        rw [r1, Option.bind_some]
        exact ⟨r, rfl, lift _ _ r2⟩
      rw [if_neg c3, if_neg c3]
      by_cases c4 : ch b n p' = 64
      · rw [if_pos c4, if_pos c4]
        obtain ⟨r, r1, r2⟩ := jc_hs hT2 hp2 (by omega) hC2 hR c1.1
        rw [r1, Option.bind_some]
        exact ⟨r, rfl, lift _ _ r2⟩
      rw [if_neg c4, if_neg c4]
      exact ⟨_, rfl, ocO_bad (x := 1) (fun a h1 _ => n2 a h1)⟩
    · rw [hnt c1, Option.bind_some, jb_no, if_neg c1]
      exact ⟨_, rfl, ocO_bad (x := 7) (fun a h1 _ => n2 a h1)⟩
