/-! ORDERS: the reference's lines, and the case -/
theorem jn_max0' {a b : Nat} (ha : a < 1000) (hb : b < 1000) : zf_166 0 (nI a - nI b) = nI (a - b) := by
  have h := jn_max0 ha hb
  have e : ∀ x : Int32, zf_166 0 x = zf_271 0 x := by
    intro x
    unfold zf_166 zf_271
    by_cases c : (0 : Int32) < x
    · rw [if_pos c, if_neg (by rw [fa_ltx] at c ⊢; omega)]
    · rw [if_neg c]
      by_cases c2 : x < 0
      · rw [if_pos c2]
      · rw [if_neg c2]
        apply Int32.toInt_inj.mp
        rw [fa_ltx] at c c2
        omega
  rw [e, h]
theorem jd_thing_no {M : jb_Mi} {v : Nat} (h : 24 ≤ v) (hv : v < 2 ^ 31) : zf_173 (nI v) M = some false := by
  unfold zf_173
  rw [show zf_164 (nI v) 0 23 = false from in_no (lo := 0) (hi := 23) (by decide) (fun j h1 h2 z => by have := (nI_eq hv (by omega)).mp z; omega) (by decide), jb_no]
/-- what a line leaves: 37 counts it -/
def ofO (k : Nat) (x : (Nat × Nat) ⊕ (Nat × jSt)) (M : jb_Mi) (r : Bool × jb_Mi) : Prop := (∀ a, a ≠ 79 → a ≠ 80 → r.2 a = M a) ∧ (∀ j, j ≠ 5 → j ≠ 7 → j ≠ 8 → j ≠ 37 → r.2 79 j = M 79 j) ∧ match x with
  | .inl e => r.1 = false ∧ r.2 79 7 = zf_74 (nI e.1) (nI e.2)
  | .inr y => r.1 = true ∧ r.2 79 5 = nI y.1 ∧ r.2 79 37 = nI (k + 1) ∧ jD 80 y.2 r.2
theorem ofO_of {k : Nat} {x : (Nat × Nat) ⊕ (Nat × jSt)} {M M1 : jb_Mi} {r : Bool × jb_Mi} (h : odO x M1 r) (h1 : ∀ a, a ≠ 79 → a ≠ 80 → M1 a = M a) (h2 : ∀ j, j ≠ 5 → j ≠ 7 → j ≠ 8 → j ≠ 37 → M1 79 j = M 79 j) (h37 : M1 79 37 = nI (k + 1)) : ofO k x M r := by
  obtain ⟨⟨x1, x2⟩, x3⟩ := h
  refine ⟨fun a q1 q2 => by rw [x1 a q1 q2, h1 a q1 q2], fun j q1 q2 q3 q4 => by rw [x2 j q1 q2 q3, h2 j q1 q2 q3 q4], ?_⟩
  cases x with
  | inl e => exact x3
  | inr y => exact ⟨x3.1, x3.2.1, by rw [x2 37 (by decide) (by decide) (by decide), h37], x3.2.2⟩
theorem jd_line {b : Nat → Nat} {n k p : Nat} {S : jSt} {M : jb_Mi} (hT : tdB b n M) (hp : M 79 5 = nI p) (hpn : p ≤ n) (hn : n < 270) (hD : jD 80 S M) (hR : jR S) (hk : k ≤ 20) (h37 : M 79 37 = nI k) : ∃ r, zf_221 M = some r ∧ ofO k (oStep b n k p S) M r := by
  have hb := tdB_b hT
  have hc := ch_le hb p
  have e0 : zf_221 M = if mnc (ch b n p) ∨ dgt (ch b n p) then zf_221_J40 (nI p) (sgc (ch b n p) - 97) M else some (zf_186 (nI 1) (nI p) M) := by
    unfold zf_221
    rw [sgc_peek hT (by omega) hp, Option.bind_some, sgc_dig hT (by omega) hp, Option.bind_some, hp, show zf_164 (sgc (ch b n p) - 97) 0 15 = decide (mnc (ch b n p)) from sgc_o (k := 97) (m := 15) hc (by decide)]
    by_cases c2 : dgt (ch b n p)
    · rw [decide_eq_true c2, jb_yes, if_pos (Or.inr c2)]
    · rw [decide_eq_false c2, jb_no]
      by_cases c1 : mnc (ch b n p)
      · rw [decide_eq_true c1, jb_yes, if_pos (Or.inl c1)]
      · rw [decide_eq_false c1, jb_no, if_neg (fun y => y.elim c1 c2)]
        rfl
  rw [e0]
  unfold oStep
  have bad0 : ∀ x q, ofO k (.inl (x, q)) M (zf_186 (nI x) (nI q) M) := fun x q => ⟨fun a q1 _ => by rw [df_186]; exact jb_up_off q1, fun j _ q2 _ _ => by rw [df_186]; dsimp only; rw [jb_up_at, if_neg (by omega)], rfl, by rw [df_186]; dsimp only; rw [jb_up_at, if_pos ⟨rfl, rfl⟩]⟩
  by_cases c0 : mnc (ch b n p) ∨ dgt (ch b n p)
  · rw [if_pos c0, if_pos c0]
    have hpn' := ch_in hb (k := p) (by unfold mnc dgt at c0; omega)
    unfold zf_221_J40
    rw [h37]
    have hk20 : (nI k = 20) = (k = 20) := jn_eq (b := 20) (by omega) (by decide)
    simp only [hk20]
    by_cases ck : k = 20
    · rw [if_pos ck, if_pos ck, hp]
      exact ⟨_, rfl, bad0 4 p⟩
    rw [if_neg ck, if_neg ck, ← nI_succ]
    -- the line is counted
    have hT1 : tdB b n (jb_up M 79 37 (nI (k + 1))) := tdB_of hT (by rw [jb_up_at, if_neg (by omega)]) (jb_up_off (by decide))
    have hp1 : jb_up M 79 37 (nI (k + 1)) 79 5 = nI p := by rw [jb_up_at, if_neg (by omega), hp]
    have hD1 : jD 80 S (jb_up M 79 37 (nI (k + 1))) := jD_of hD (jb_up_off (by decide))
    have lift : ∀ x r, odO x (jb_up M 79 37 (nI (k + 1))) r → ofO k x M r := fun x r h => ofO_of h (fun a q1 _ => jb_up_off q1) (fun j _ _ _ q4 => by rw [jb_up_at, if_neg (by omega)]) (by rw [jb_up_at, if_pos ⟨rfl, rfl⟩])
    rw [sgc_dig hT1 (by omega) hp1, Option.bind_some, hp1]
    generalize jb_up M 79 37 (nI (k + 1)) = M1 at hT1 hp1 hD1 lift
    by_cases c1 : mnc (ch b n p)
    · have c1' := c1
      unfold mnc at c1'
      rw [decide_eq_false (show ¬ dgt (ch b n p) by unfold dgt; omega), jb_no, if_pos c1, sgc_in (by omega), show nI (ch b n p) - 97 = nI (ch b n p - 97) from pk_sub (b := 97) (by omega), jd_man hD1 hR (by omega), Option.bind_some]
      unfold oRest
      by_cases c2 : 0 < S 7 (ch b n p - 97)
      · rw [decide_eq_true c2, jb_yes, if_pos c2, ← nI_succ]
        have hX2 : odX M1 (jb_up M1 79 5 (nI (p + 1))) := odX_u (odX_0 M1) (by decide)
        obtain ⟨r, r1, r2, r3⟩ := jd_num (tdB_o hT1 hX2) (p := p + 1) (by rw [jb_up_at, if_pos ⟨rfl, rfl⟩]) (by omega)
        have hnum := oNum_ok hb (p := p + 1) hpn'
        rw [r1, Option.bind_some]
        have hX3 := odX_t hX2 r2
        cases e : oNum b n (p + 1) with
        | inl e1 =>
          rw [e] at r3
          rw [r3.1, jb_no]
          exact ⟨_, rfl, lift _ _ ⟨oeX_o hX3, rfl, r3.2⟩⟩
        | inr y =>
          rw [e] at r3 hnum
          have hm16 : ch b n p - 97 < 16 := by omega
          have hD3 : jD 80 S r.2 := jD_of hD1 (hX3.1 80 (by decide))
          have h8 := (hR.2.2.1 _ hm16).2
          have y99 := hnum.1
          rw [r3.1, jb_yes, jn_addl, jn_gd (show 130 + (ch b n p - 97) < 149 by omega) (by decide), jn_gd (show 130 + (ch b n p - 97) < 149 by omega) (by decide), nI_clamp (show 130 + (ch b n p - 97) < 2 ^ 31 by omega), (hD3.2.2.1 _ hm16).2, r3.2.1, jn_max0' (by omega) (by omega)]
          refine ⟨_, rfl, lift _ _ ⟨oeX_u hX3, rfl, ?_, ?_⟩⟩
          · dsimp only
            rw [jb_up_off (by decide), r3.2.2]
          · exact jD_up' (k := 8) hD3 (Or.inr ⟨by omega, by omega, hm16⟩) rfl
      · rw [decide_eq_false c2, jb_no, if_neg c2]
        exact ⟨_, rfl, lift _ _ (odO_bad (x := 7) (q := p) (odX_0 M1))⟩
    · rw [decide_eq_true (show dgt (ch b n p) from c0.resolve_left c1), jb_yes, if_neg c1]
      unfold oThing
      obtain ⟨r, r1, r2, r3⟩ := jd_num hT1 hp1 (by omega)
      have hnum := oNum_ok hb hpn
      rw [r1, Option.bind_some]
      cases e : oNum b n p with
      | inl e1 =>
        rw [e] at r3
        rw [r3.1, jb_no]
        exact ⟨_, rfl, lift _ _ ⟨oeX_o r2, rfl, r3.2⟩⟩
      | inr y =>
        rw [e] at r3 hnum
        obtain ⟨t, p'⟩ := y
        dsimp only at r3 hnum ⊢
        have hD3 : jD 80 S r.2 := jD_of hD1 (r2.1 80 (by decide))
        rw [r3.1, jb_yes, r3.2.1]
        by_cases c2 : t < 24 ∧ 0 < S 6 t
        · rw [jd_thing hD3 hR c2.1, decide_eq_true c2.2, Option.bind_some, jb_yes, if_pos c2]
          obtain ⟨z, z1, z2⟩ := jd_move (tdB_o hT1 r2) r3.2.2 (by omega) hD3 hR c2.1 c2.2
          rw [z1, Option.bind_some]
          refine ⟨z, rfl, lift _ _ ⟨⟨fun a q1 q2 => by rw [z2.1.1 a q1 q2, r2.1 a q1], fun j q1 q2 q3 => by rw [z2.1.2 j q1 q2 q3, r2.2 j q1 q2 q3]⟩, z2.2⟩⟩
        · rw [show zf_173 (nI t) r.2 = some false from ?_, Option.bind_some, jb_no, if_neg c2]
          · exact ⟨_, rfl, lift _ _ (odO_bad (x := 7) (q := p) r2)⟩
          · by_cases c3 : t < 24
            · rw [jd_thing hD3 hR c3, decide_eq_false (fun z => c2 ⟨c3, z⟩)]
            · exact jd_thing_no (by omega) (by omega)
  · rw [if_neg c0, if_neg c0]
    exact ⟨_, rfl, bad0 1 p⟩
/-- the end of the orders -/
def ofE (x : (Nat × Nat) ⊕ (Nat × jSt)) (M : jb_Mi) (r : Int32 × jb_Mi) : Prop := r.1 = orr x ∧ (∀ a, a ≠ 79 → a ≠ 80 → r.2 a = M a) ∧ r.2 79 4 = 0 ∧ r.2 79 13 = M 79 13 ∧ r.2 79 57 = M 79 57 ∧ match x with
  | .inl _ => ∀ j, j < 149 → r.2 80 j = M 81 j
  | .inr y => jD 80 y.2 r.2
theorem jd_bad {M : jb_Mi} {x q : Nat} (h7 : M 79 7 = zf_74 (nI x) (nI q)) : ∃ r, zf_222_J86 (jb_b2i false) M = some r ∧ ofE (.inl (x, q)) M r := by
  unfold zf_222_J86
  rw [if_pos (by decide)]
  obtain ⟨M2, k1, k2, k3⟩ := jd_copies (a1 := 81) (a2 := 80) (by decide) (jb_up M 79 4 0)
  rw [k1, Option.bind_some]
  refine ⟨_, rfl, ?_, ?_, ?_, ?_, ?_, ?_⟩
  · dsimp only
    rw [k2 79 (by decide), jb_up_at, if_neg (by omega), h7]
    rfl
  · intro a q1 q2
    dsimp only
    rw [k2 a q2, jb_up_off q1]
  · dsimp only
    rw [k2 79 (by decide), jb_up_at, if_pos ⟨rfl, rfl⟩]
  · dsimp only
    rw [k2 79 (by decide), jb_up_at, if_neg (by omega)]
  · dsimp only
    rw [k2 79 (by decide), jb_up_at, if_neg (by omega)]
  · intro j hj
    dsimp only
    rw [k3 j hj, jb_up_off (by decide)]
theorem ofE_of {x : (Nat × Nat) ⊕ (Nat × jSt)} {M M1 : jb_Mi} {r : Int32 × jb_Mi} (h : ofE x M1 r) (h1 : ∀ a, a ≠ 79 → a ≠ 80 → M1 a = M a) (h13 : M1 79 13 = M 79 13) (h57 : M1 79 57 = M 79 57) : ofE x M r := by
  obtain ⟨x1, x2, x3, x4, x5, x6⟩ := h
  refine ⟨x1, fun a q1 q2 => by rw [x2 a q1 q2, h1 a q1 q2], x3, by rw [x4, h13], by rw [x5, h57], ?_⟩
  cases x with
  | inl e => exact fun j hj => by rw [x6 j hj, h1 81 (by decide) (by decide)]
  | inr y => exact x6
theorem jd_lines {b : Nat → Nat} {n : Nat} (hn : n < 270) : ∀ (f k p : Nat) (S : jSt) (M : jb_Mi), tdB b n M → M 79 5 = nI p → p ≤ n → jD 80 S M → jR S → M 79 37 = nI k → k + f = 21 → 0 < f → ∃ z, ((zf_221 M).bind fun q2 => jb_lp zf_222_H46 (jb_b2i q2.1, q2.2)) = some z ∧ ofE (oF b n f k p S) M z := by
  intro f
  induction f with
  | zero => intros; omega
  | succ f ih =>
    intro k p S M hT hp hpn hD hR h37 hk _
    obtain ⟨r, r1, r2, r3, r4⟩ := jd_line hT hp hpn hn hD hR (show k ≤ 20 by omega) h37
    have ok := oStep_ok (tdB_b hT) (k := k) hpn hR
    rw [r1, Option.bind_some, oF]
    cases e : oStep b n k p S with
    | inl e1 =>
      rw [e] at r4
      obtain ⟨z, z1, z2⟩ := jd_bad (M := r.2) r4.2
      refine ⟨z, jb_lp_inr ?_, ofE_of z2 r2 (r3 13 (by decide) (by decide) (by decide) (by decide)) (r3 57 (by decide) (by decide) (by decide) (by decide))⟩
      unfold zf_222_H46
      rw [r4.1]
      dsimp only
      rw [if_pos (by decide), z1]
      rfl
    | inr y =>
      rw [e] at r4 ok
      obtain ⟨o1, o2, o3, o4⟩ := ok
      obtain ⟨s1, s2, s3, s4⟩ := r4
      have hT' : tdB b n r.2 := tdB_of hT (r3 6 (by decide) (by decide) (by decide) (by decide)) (r2 83 (by decide) (by decide))
      have hc := ch_le (tdB_b hT) y.1
      dsimp only
      by_cases c1 : n ≤ y.1
      · rw [if_pos c1]
        have e86 : zf_222_J86 (jb_b2i true) r.2 = some (nI (k + 1), jb_up r.2 79 4 0) := by
          unfold zf_222_J86
          rw [if_neg (by decide), jb_up_at, if_neg (by omega), s3]
        refine ⟨(nI (k + 1), jb_up r.2 79 4 0), jb_lp_inr ?_, rfl, ?_, ?_, ?_, ?_, ?_⟩
        · unfold zf_222_H46
          rw [s1]
          dsimp only
          rw [if_neg (by decide), s2, hT'.2.1, if_neg (nI_nlt c1 (by omega)), e86]
          rfl
        · intro a q1 q2
          dsimp only
          rw [jb_up_off q1, r2 a q1 q2]
        · dsimp only
          rw [jb_up_at, if_pos ⟨rfl, rfl⟩]
        · dsimp only
          rw [jb_up_at, if_neg (by omega), r3 13 (by decide) (by decide) (by decide) (by decide)]
        · dsimp only
          rw [jb_up_at, if_neg (by omega), r3 57 (by decide) (by decide) (by decide) (by decide)]
        · dsimp only
          exact jD_of s4 (jb_up_off (by decide))
      · rw [if_neg c1]
        have s59 : (sgc (ch b n y.1) = 59) = (ch b n y.1 = 59) := sgc_eq (k := 59) hc (by decide)
        have e187 : zf_187 59 r.2 = if ch b n y.1 = 59 then some (true, jb_up r.2 79 5 (nI (y.1 + 1))) else some (false, jb_up r.2 79 7 (zf_74 (nI 1) (nI y.1))) := by
          unfold zf_187
          rw [sgc_peek hT' (by omega) s2, Option.bind_some, s2, nI_succ]
          simp only [s59]
          rfl
        by_cases c2 : ch b n y.1 = 59
        · rw [if_pos c2] at e187 ⊢
          have hf : 0 < f := by
            rcases Nat.eq_zero_or_pos f with h0 | h0
            · subst h0
              have : k = 20 := by omega
              subst this
              obtain ⟨e2, e3⟩ := oStep_20 (b := b) (n := n) (p := p) (S := S)
              rw [e] at e3
              cases e3
            · exact h0
          obtain ⟨z, z1, z2⟩ := ih (k + 1) (y.1 + 1) y.2 (jb_up r.2 79 5 (nI (y.1 + 1))) (tdB_of hT' (by rw [jb_up_at, if_neg (by omega)]) (jb_up_off (by decide))) (by rw [jb_up_at, if_pos ⟨rfl, rfl⟩]) (by omega) (jD_of s4 (jb_up_off (by decide))) o3 (by rw [jb_up_at, if_neg (by omega), s3]) (by omega) hf
          refine ⟨z, ?_, ofE_of z2 (fun a q1 q2 => by rw [jb_up_off q1, r2 a q1 q2]) (by rw [jb_up_at, if_neg (by omega), r3 13 (by decide) (by decide) (by decide) (by decide)]) (by rw [jb_up_at, if_neg (by omega), r3 57 (by decide) (by decide) (by decide) (by decide)])⟩
          rw [← z1]
          cases e221 : zf_221 (jb_up r.2 79 5 (nI (y.1 + 1))) with
          | none => rw [e221] at z1; cases z1
          | some w =>
            rw [Option.bind_some]
            refine jb_lp_inl ?_
            unfold zf_222_H46 zf_222_J81 zf_222_J82
            rw [s1]
            dsimp only
            rw [if_neg (by decide), s2, hT'.2.1, if_pos (nI_lt (by omega) (by omega)), e187, Option.bind_some, jb_yes]
            dsimp only
            rw [e221, Option.bind_some]
            cases w.1
            · rw [jb_no]; rfl
            · rw [jb_yes]; rfl
        · rw [if_neg c2] at e187 ⊢
          obtain ⟨z, z1, z2⟩ := jd_bad (M := jb_up r.2 79 7 (zf_74 (nI 1) (nI y.1))) (x := 1) (q := y.1) (by rw [jb_up_at, if_pos ⟨rfl, rfl⟩])
          refine ⟨z, ?_, ofE_of z2 (fun a q1 q2 => by rw [jb_up_off q1, r2 a q1 q2]) (by rw [jb_up_at, if_neg (by omega), r3 13 (by decide) (by decide) (by decide) (by decide)]) (by rw [jb_up_at, if_neg (by omega), r3 57 (by decide) (by decide) (by decide) (by decide)])⟩
          have e1 : zf_222_H46 (jb_b2i r.1, r.2) = some (.inl (jb_b2i false, jb_up r.2 79 7 (zf_74 (nI 1) (nI y.1)))) := by
            unfold zf_222_H46 zf_222_J81 zf_222_J82
            rw [s1]
            dsimp only
            rw [if_neg (by decide), s2, hT'.2.1, if_pos (nI_lt (by omega) (by omega)), e187, Option.bind_some, jb_no]
            rfl
          rw [jb_lp_inl e1]
          refine jb_lp_inr ?_
          unfold zf_222_H46
          dsimp only
          rw [if_pos (by decide), z1]
          rfl
