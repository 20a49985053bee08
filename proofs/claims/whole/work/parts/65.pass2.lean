theorem jc_rest {w o : Nat} (hwo : wo w o) {L : jLa} {z : hz} {M : jb_Mi} (hO : lwO L) (hL : lwC L M) (hC : hzC w o z M) (hk : hok z) {m : Nat} (hm : m < 16) : ∃ M', zf_123 w o (nI m) M = some M' ∧ hzC w o (jset z.1 8 m (z.1 8 m - amt L (fac z.1 m 24) 121 99), z.2) M' ∧ hfr w o M M' := by
  have hR := hk.1
  obtain ⟨c1, c2, c3, c4, c5, c6, c7⟩ := id hC
  obtain ⟨M2, t1, t2, t3⟩ := jc_tell_off hwo c1 hR hm
  have hL2 : lwC L M2 := lwC_of hL (fun a h1 h2 => t2 a (by omega))
  obtain ⟨M3, a1, a2⟩ := jc_amount hO hL2 t3 (l := 121) (m := 99) (by omega) (by omega)
  have htm := amt_le L (fac z.1 m 24) 121 99 (by omega)
  have h8 := (hR.2.2.1 m hm).2
  unfold zf_123
  rw [t1, Option.bind_some, show (121 : Int32) = nI 121 from rfl, show (99 : Int32) = nI 99 from rfl, a1, Option.bind_some]
  generalize amt L (fac z.1 m 24) 121 99 = t at htm
  have base : ∀ a, (o ≤ a ∧ a ≤ o + 9) ∨ a = w ∨ a = w + 1 → M3 a = M a := by
    intro a ha
    rw [a2 a (by unfold wo at hwo; omega) (by unfold wo at hwo; omega), t2 a (by unfold wo at hwo; omega)]
  have e9 : M3 (o + 9) m = nI (z.1 8 m) := by
    rw [base (o + 9) (Or.inl ⟨by omega, by omega⟩)]
    exact (c1.2.2.1 m hm).2
  have emax : zf_271 0 (nI (z.1 8 m) - nI t) = nI (z.1 8 m - t) := by
    unfold zf_271
    by_cases c : t < z.1 8 m
    · rw [pk_sub (by omega), if_pos (show (0 : Int32) < nI (z.1 8 m - t) from nI_lt (a := 0) (by omega) (by omega))]
    · rw [if_neg (fun y => by rw [i_gt0 (by omega) (by omega)] at y; exact c y), show z.1 8 m - t = 0 by omega]
      rfl
  dsimp only
  rw [jn_gd hm (by decide), jn_gd hm (by decide), nI_clamp (by omega), e9, emax]
  have n9 : w ≠ o + 9 := by unfold wo at hwo; omega
  refine ⟨_, rfl, ⟨jC_up (jC_of c1 (M' := M3) (fun a h1 h2 => base a (Or.inl ⟨h1, h2⟩))) (k := 8) (j := m) (v := z.1 8 m - t) (by omega), ?_, ?_, ?_, ?_, ?_, ?_⟩, ?_⟩
  · show jb_up M3 (o + 9) m (nI (z.1 8 m - t)) w 4 = _
    rw [jb_up_off n9, base w (Or.inr (Or.inl rfl))]; exact c2
  · show jb_up M3 (o + 9) m (nI (z.1 8 m - t)) w 5 = _
    rw [jb_up_off n9, base w (Or.inr (Or.inl rfl))]; exact c3
  · show jb_up M3 (o + 9) m (nI (z.1 8 m - t)) w 6 = _
    rw [jb_up_off n9, base w (Or.inr (Or.inl rfl))]; exact c4
  · show jb_up M3 (o + 9) m (nI (z.1 8 m - t)) w 7 = _
    rw [jb_up_off n9, base w (Or.inr (Or.inl rfl))]; exact c5
  · show jb_up M3 (o + 9) m (nI (z.1 8 m - t)) w 8 = _
    rw [jb_up_off n9, base w (Or.inr (Or.inl rfl))]; exact c6
  · intro j hj h0
    show jb_up M3 (o + 9) m (nI (z.1 8 m - t)) (w + 1) j = _
    rw [jb_up_off (by unfold wo at hwo; omega), base (w + 1) (Or.inr (Or.inr rfl))]
    have es : ld (jset z.1 8 m (z.1 8 m - t)) (j / 4) (j % 4) = ld z.1 (j / 4) (j % 4) := ld_sm (sm7_set (by omega)) _ _
    dsimp only at h0 ⊢
    rw [es]
    refine c7 j hj ?_
    have : jset z.1 8 m (z.1 8 m - t) 0 (j / 4) = z.1 0 (j / 4) := by unfold jset; rw [if_neg (by omega)]
    rw [← this]; exact h0
  · intro a q1 q2 q3 q4 q5 q6 q7
    rw [jb_up_off q7, a2 a q1 q3, t2 a q2]
theorem hzC_tick {w o : Nat} (hwo : wo w o) {z : hz} {M : jb_Mi} (hC : hzC w o z M) (hk : hok z) : hzC w o (tickS z.1, z.2) (zf_111 o M) ∧ hfr w o M (zf_111 o M) := by
  obtain ⟨c1, c2, c3, c4, c5, c6, c7⟩ := hC
  have h0 := hk.1.2.2.2.1
  have hd := hk.1.2.2.2.2.1
  have nw : w ≠ o := by unfold wo at hwo; omega
  have nw1 : w + 1 ≠ o := by unfold wo at hwo; omega
  have e00 : jb_up M o 9 (nI (z.1 9 0 + 1)) o 9 = nI (z.1 9 0 + 1) := by rw [jb_up_at, if_pos ⟨rfl, rfl⟩]
  unfold zf_111
  rw [c1.2.2.2.1, nI_1, e00]
  by_cases c : z.1 9 0 + 1 < 24
  · rw [if_pos (show nI (z.1 9 0 + 1) < 24 from nI_lt (b := 24) c (by decide))]
    have et : tickS z.1 = jset z.1 9 0 (z.1 9 0 + 1) := if_pos c
    rw [et]
    refine ⟨⟨jC_9 c1 (j := 0) (by omega), ?_, ?_, ?_, ?_, ?_, ?_⟩, fun a q1 q2 q3 q4 q5 q6 q7 => jb_up_off q5⟩
    · rw [jb_up_off nw]; exact c2
    · rw [jb_up_off nw]; exact c3
    · rw [jb_up_off nw]; exact c4
    · rw [jb_up_off nw]; exact c5
    · rw [jb_up_off nw]; exact c6
    · intro j hj hh
      rw [jb_up_off nw1]
      have es : ld (jset z.1 9 0 (z.1 9 0 + 1)) (j / 4) (j % 4) = ld z.1 (j / 4) (j % 4) := ld_sm (sm7_set (by omega)) _ _
      dsimp only at hh ⊢
      rw [es]
      refine c7 j hj ?_
      have : jset z.1 9 0 (z.1 9 0 + 1) 0 (j / 4) = z.1 0 (j / 4) := by unfold jset; rw [if_neg (by omega)]
      rw [← this]; exact hh
  · rw [if_neg (show ¬ nI (z.1 9 0 + 1) < 24 from nI_nlt (b := 24) (by omega) (by omega))]
    have et : tickS z.1 = jset (jset z.1 9 0 0) 9 1 (z.1 9 1 + 1) := if_neg c
    have e10 : jb_up (jb_up M o 9 (nI (z.1 9 0 + 1))) o 9 0 o 10 = nI (z.1 9 1) := by
      rw [jb_up_at, if_neg (by omega), jb_up_at, if_neg (by omega), c1.2.2.2.2.1]
    have em : jb_up (jb_up M o 9 (nI (z.1 9 0 + 1))) o 9 0 = jb_up M o 9 (nI 0) := by
      funext a j
      simp only [jb_up_at]
      split <;> rfl
    rw [e10, nI_1, et, em]
    refine ⟨⟨jC_9 (jC_9 c1 (j := 0) (v := 0) (by omega)) (j := 1) (by omega), ?_, ?_, ?_, ?_, ?_, ?_⟩, fun a q1 q2 q3 q4 q5 q6 q7 => by rw [jb_up_off q5, jb_up_off q5]⟩
    · rw [jb_up_off nw, jb_up_off nw]; exact c2
    · rw [jb_up_off nw, jb_up_off nw]; exact c3
    · rw [jb_up_off nw, jb_up_off nw]; exact c4
    · rw [jb_up_off nw, jb_up_off nw]; exact c5
    · rw [jb_up_off nw, jb_up_off nw]; exact c6
    · intro j hj hh
      rw [jb_up_off nw1, jb_up_off nw1]
      have es : ld (jset (jset z.1 9 0 0) 9 1 (z.1 9 1 + 1)) (j / 4) (j % 4) = ld z.1 (j / 4) (j % 4) := ld_sm (sm7_trans (sm7_set (by omega)) (sm7_set (by omega))) _ _
      dsimp only at hh ⊢
      rw [es]
      refine c7 j hj ?_
      have : jset (jset z.1 9 0 0) 9 1 (z.1 9 1 + 1) 0 (j / 4) = z.1 0 (j / 4) := by unfold jset; rw [if_neg (by omega), if_neg (by omega)]
      rw [← this]; exact hh
theorem jc_pass {w o : Nat} (hwo : wo w o) {L : jLa} {R : Nat → List Nat} {z : hz} {M : jb_Mi} (hO : lwO L) (hL : lwC L M) (hr : jRo R M) (hC : hzC w o z M) (hR : jR z.1) : ∃ M', zf_124 w o M = some M' ∧ hzC w o (hourZ L R z) M' ∧ hfr w o M M' := by
  obtain ⟨c1, c2, c3, c4, c5, c6, c7⟩ := id hC
  have hd := hR.2.2.2.2.1
  have frL : ∀ {M' : jb_Mi}, hfr w o M M' → lwC L M' := fun {M'} f => lwC_of hL (fun a h1 h2 => f a (by omega) (by omega) (by omega) (by unfold wo at hwo; omega) (by unfold wo at hwo; omega) (by unfold wo at hwo; omega) (by unfold wo at hwo; omega))
  have frR : ∀ {M' : jb_Mi}, hfr w o M M' → jRo R M' := fun {M'} f => jRo_of hr (f 36 (by decide) (by decide) (by decide) (by unfold wo at hwo; omega) (by unfold wo at hwo; omega) (by unfold wo at hwo; omega) (by unfold wo at hwo; omega)) (f 98 (by decide) (by decide) (by decide) (by unfold wo at hwo; omega) (by unfold wo at hwo; omega) (by unfold wo at hwo; omega) (by unfold wo at hwo; omega)) (f 35 (by decide) (by decide) (by decide) (by unfold wo at hwo; omega) (by unfold wo at hwo; omega) (by unfold wo at hwo; omega) (by unfold wo at hwo; omega)) (f 97 (by decide) (by decide) (by decide) (by unfold wo at hwo; omega) (by unfold wo at hwo; omega) (by unfold wo at hwo; omega) (by unfold wo at hwo; omega))
  unfold zf_124
  rw [show zf_110 o M = false by unfold zf_110; rw [c1.2.2.2.2.1, if_pos (show nI (z.1 9 1) < 9999 from nI_lt (b := 9999) hd (by decide))], jb_no]
  have rest : ∀ M1, hzC w o (midZ L R z) M1 → hfr w o M M1 → ∃ M', jb_lp (zf_124_H50 w o) (nI 0, M1) = some M' ∧ hzC w o (hourZ L R z) M' ∧ hfr w o M M' := by
    intro M1 hC1 hf1
    have hm2 := midZ_ok2 (L := L) (R := R) hR
    unfold hourZ endZ
    generalize midZ L R z = y at hC1 hm2
    obtain ⟨M', r1, r2, r3⟩ := jb_inv (f := zf_124_H50 w o) (fun n s => ∃ m M', m + n = 16 ∧ s = (nI m, M') ∧ hzC w o (itf (restZ L) y m) M' ∧ hfr w o M M') (fun M' => hzC w o (tickS (itf (restZ L) y 16).1, (itf (restZ L) y 16).2) M' ∧ hfr w o M M') (by
      rintro n s ⟨m, M', hn, rfl, h1, h2⟩
      have hok' := (restN_ok (L := L) hm2.1 hm2.2 m (by omega)).1
      unfold zf_124_H50 zf_124_J83
      dsimp only
      by_cases e : m < 16
      · left
        have es : itf (restZ L) y (m + 1) = restZ L m (itf (restZ L) y m) := rfl
        rw [if_pos (show nI m < 16 from nI_lt (b := 16) e (by decide)), jc_man h1.1 hok'.1 e, Option.bind_some, nI_1]
        by_cases ct : 0 < (itf (restZ L) y m).1 7 m
        · rw [decide_eq_true ct, jb_yes]
          have hst := hok'.2
          have hb : ((M' w 4 >>> (nI m &&& 31)) &&& 1 = 0) = ((itf (restZ L) y m).2.1.testBit m = false) := by rw [h1.2.1]; exact jn_bit0 (by omega) (by omega)
          by_cases cb : (itf (restZ L) y m).2.1.testBit m = false
          · rw [if_pos (hb ▸ cb)]
            obtain ⟨M2, x1, x2, x3⟩ := jc_rest hwo hO (frL h2) h1 hok' e
            rw [x1, Option.bind_some]
            refine ⟨n - 1, (nI (m + 1), M2), by omega, rfl, m + 1, M2, by omega, rfl, ?_, hfr_trans h2 x3⟩
            rw [es]
            unfold restZ at x2 ⊢
            rw [if_pos ⟨ct, cb⟩]
            exact x2
          · rw [if_neg (fun x => cb (hb ▸ x))]
            refine ⟨n - 1, (nI (m + 1), M'), by omega, rfl, m + 1, M', by omega, rfl, ?_, h2⟩
            rw [es]
            have : restZ L m (itf (restZ L) y m) = itf (restZ L) y m := if_neg (fun x => cb x.2)
            rw [this]
            exact h1
        · rw [decide_eq_false ct, jb_no]
          refine ⟨n - 1, (nI (m + 1), M'), by omega, rfl, m + 1, M', by omega, rfl, ?_, h2⟩
          rw [es]
          have : restZ L m (itf (restZ L) y m) = itf (restZ L) y m := if_neg (fun x => ct x.1)
          rw [this]
          exact h1
      · have e : m = 16 := by omega
        subst e
        obtain ⟨k1, k2⟩ := hzC_tick hwo h1 hok'
        exact Or.inr ⟨_, if_neg (by decide), k1, hfr_trans h2 k2⟩) 16 (nI 0, M1) ⟨0, M1, by omega, rfl, hC1, hf1⟩
    exact ⟨M', r1, r2, r3⟩
  have hC0 : hzC w o (z.1, 0, z.2.2) (jb_up M w 4 0) := by
    refine ⟨jC_of c1 (fun a h1 h2 => jb_up_off (by unfold wo at hwo; omega)), ?_, ?_, ?_, ?_, ?_, ?_⟩
    · rw [jb_up_at, if_pos ⟨rfl, rfl⟩]; rfl
    · rw [jb_up_at, if_neg (by omega)]; exact c3
    · rw [jb_up_at, if_neg (by omega)]; exact c4
    · rw [jb_up_at, if_neg (by omega)]; exact c5
    · rw [jb_up_at, if_neg (by omega)]; exact c6
    · intro j hj h0
      rw [jb_up_off (by omega)]
      exact c7 j hj h0
  have hf0 : hfr w o M (jb_up M w 4 0) := fun a q1 q2 q3 q4 q5 q6 q7 => jb_up_off q4
  obtain ⟨M', r1, r2, r3⟩ := jb_inv (f := zf_124_H18 w o) (fun n s => ∃ q M', q + n = 24 ∧ s = (nI q, M') ∧ hzC w o (itf (cornZ L R) (z.1, 0, z.2.2) q) M' ∧ hfr w o M M') (fun M' => hzC w o (hourZ L R z) M' ∧ hfr w o M M') (by
    rintro n s ⟨q, M', hn, rfl, h1, h2⟩
    have hok' := (midZ_ok (L := L) (R := R) hR q).1
    unfold zf_124_H18 zf_124_J42
    dsimp only
    by_cases e : q < 24
    · left
      have es : itf (cornZ L R) (z.1, 0, z.2.2) (q + 1) = cornZ L R q (itf (cornZ L R) (z.1, 0, z.2.2) q) := rfl
      rw [if_pos (show nI q < 24 from nI_lt (b := 24) e (by decide)), jn_div (by omega), jc_up h1.1 hok'.1 (by omega), Option.bind_some, nI_1]
      by_cases cu : uph (itf (cornZ L R) (z.1, 0, z.2.2) q).1 (q / 4) = true
      · obtain ⟨M2, x1, x2, x3⟩ := jc_hold hwo hO (frL h2) (frR h2) h1 hok' e cu
        have cu' : decide (0 < (itf (cornZ L R) (z.1, 0, z.2.2) q).1 0 (q / 4) ∧ (itf (cornZ L R) (z.1, 0, z.2.2) q).1 2 (q / 4) < 9) = true := cu
        rw [cu', jb_yes, x1, Option.bind_some]
        refine ⟨n - 1, (nI (q + 1), M2), by omega, rfl, q + 1, M2, by omega, rfl, ?_, hfr_trans h2 x3⟩
        rw [es]
        have : cornZ L R q (itf (cornZ L R) (z.1, 0, z.2.2) q) = holdZ L R q (itf (cornZ L R) (z.1, 0, z.2.2) q) := if_pos cu
        rw [this]
        exact x2
      · have cu' : decide (0 < (itf (cornZ L R) (z.1, 0, z.2.2) q).1 0 (q / 4) ∧ (itf (cornZ L R) (z.1, 0, z.2.2) q).1 2 (q / 4) < 9) = false := by
          have : uph (itf (cornZ L R) (z.1, 0, z.2.2) q).1 (q / 4) = false := by simpa using cu
          exact this
        rw [cu', jb_no]
        refine ⟨n - 1, (nI (q + 1), M'), by omega, rfl, q + 1, M', by omega, rfl, ?_, h2⟩
        rw [es]
        have : cornZ L R q (itf (cornZ L R) (z.1, 0, z.2.2) q) = itf (cornZ L R) (z.1, 0, z.2.2) q := if_neg cu
        rw [this]
        exact h1
    · have e : q = 24 := by omega
      subst e
      have h1' : hzC w o (midZ L R z) M' := by unfold midZ; exact h1
      obtain ⟨M2, x1, x2, x3⟩ := rest M' h1' h2
      refine Or.inr ⟨M2, ?_, x2, x3⟩
      rw [if_neg (by decide), show ((0 : Int32), M') = (nI 0, M') from rfl, x1]
      rfl) 24 (nI 0, jb_up M w 4 0) ⟨0, _, by omega, rfl, hC0, hf0⟩
  exact ⟨M', r1, r2, r3⟩
/-- the watch begins -/
theorem jc_begin {w o : Nat} (hwo : wo w o) {S : jSt} {M : jb_Mi} (hC : jC o S M) (hR : jR S) : ∃ M', zf_119 w o M = some M' ∧ (∃ st, hzC w o (S, st, 0, 0, 0, 0) M' ∨ True) ∧ (∀ a, a ≠ w → a ≠ w + 1 → M' a = M a) ∧ (M' w 5 = 0 ∧ M' w 6 = 0 ∧ M' w 7 = 0 ∧ M' w 8 = 0 ∧ M' w 4 = M w 4) ∧ ∀ q, q < 24 → 0 < S 0 (q / 4) → M' (w + 1) q = nI (ld S (q / 4) (q % 4)) := by
  unfold zf_119
  obtain ⟨M', r1, r2, r3, r4⟩ := jb_inv (f := zf_119_H22 w o) (fun n s => ∃ q M', q + n = 24 ∧ s = (nI q, M') ∧ (∀ a, a ≠ w → a ≠ w + 1 → M' a = M a) ∧ (M' w 5 = 0 ∧ M' w 6 = 0 ∧ M' w 7 = 0 ∧ M' w 8 = 0 ∧ M' w 4 = M w 4) ∧ ∀ j, j < q → 0 < S 0 (j / 4) → M' (w + 1) j = nI (ld S (j / 4) (j % 4))) (fun M' => (∀ a, a ≠ w → a ≠ w + 1 → M' a = M a) ∧ (M' w 5 = 0 ∧ M' w 6 = 0 ∧ M' w 7 = 0 ∧ M' w 8 = 0 ∧ M' w 4 = M w 4) ∧ ∀ q, q < 24 → 0 < S 0 (q / 4) → M' (w + 1) q = nI (ld S (q / 4) (q % 4))) (by
    rintro n s ⟨q, M', hn, rfl, h1, h2, h3⟩
    have hC' : jC o S M' := jC_of hC (fun a g1 g2 => h1 a (by unfold wo at hwo; omega) (by unfold wo at hwo; omega))
    unfold zf_119_H22
    dsimp only
    by_cases e : q < 24
    · left
      have hld : ∃ x, zf_7 o (nI (q / 4)) (nI (q % 4)) M' = some x ∧ (0 < S 0 (q / 4) → x = nI (ld S (q / 4) (q % 4))) := by
        by_cases c : 0 < S 0 (q / 4)
        · exact ⟨_, jc_load hC' hR (by omega) (by omega) c, fun _ => rfl⟩
        · refine ⟨0, ?_, fun h => absurd h c⟩
          unfold zf_7
          rw [jc_told hC' hR (by omega), decide_eq_false c]
          rfl
      obtain ⟨x, x1, x2⟩ := hld
      refine ⟨n - 1, (nI (q + 1), jb_up M' (w + 1) q x), by omega, ?_, q + 1, jb_up M' (w + 1) q x, by omega, rfl, fun a g1 g2 => by rw [jb_up_off g2, h1 a g1 g2], by rw [jb_up_off (by omega)]; exact h2, fun j hj h0 => ?_⟩
      · rw [if_pos (show nI q < 24 from nI_lt (b := 24) e (by decide)), jn_div (by omega), jn_rem' (by omega), x1, Option.bind_some, jn_gd e (by decide), nI_clamp (by omega), nI_1]
      · rw [jb_up_at]
        by_cases c : j = q
        · rw [if_pos ⟨rfl, c⟩, x2 (c ▸ h0), c]
        · rw [if_neg (fun y => c y.2)]
          exact h3 j (by omega) h0
    · have e : q = 24 := by omega
      subst e
      exact Or.inr ⟨M', if_neg (by decide), h1, h2, h3⟩) 24 (nI 0, jb_up (jb_up (jb_up (jb_up M w 5 0) w 6 0) w 7 0) w 8 0) ⟨0, _, by omega, rfl, fun a g1 g2 => by rw [jb_up_off g1, jb_up_off g1, jb_up_off g1, jb_up_off g1], by simp [jb_up_at], fun j hj => by omega⟩
  exact ⟨M', r1, ⟨0, Or.inr trivial⟩, r2, r3, r4⟩
