/-! an hour goes by in the class -/
theorem hzC_of {w o : Nat} {z : hz} {M M' : jb_Mi} (h : hzC w o z M) (hs : ∀ a, (o ≤ a ∧ a ≤ o + 9) ∨ a = w ∨ a = w + 1 → M' a = M a) : hzC w o z M' := by
  obtain ⟨c1, c2, c3, c4, c5, c6, c7⟩ := h
  refine ⟨jC_of c1 (fun a h1 h2 => hs a (Or.inl ⟨h1, h2⟩)), ?_, ?_, ?_, ?_, ?_, ?_⟩
  · rw [hs w (Or.inr (Or.inl rfl))]; exact c2
  · rw [hs w (Or.inr (Or.inl rfl))]; exact c3
  · rw [hs w (Or.inr (Or.inl rfl))]; exact c4
  · rw [hs w (Or.inr (Or.inl rfl))]; exact c5
  · rw [hs w (Or.inr (Or.inl rfl))]; exact c6
  · rw [hs (w + 1) (Or.inr (Or.inr rfl))]; exact c7
theorem nxt_i {x : Nat} (hx : x < 65536) : (25173 * nI x + 13849) - (25173 * nI x + 13849) / 65536 * 65536 = nI (nxtX x) := by
  rw [show (25173 : Int32) * nI x = nI (25173 * x) from jn_mull 25173 x, show nI (25173 * x) + 13849 = nI (25173 * x + 13849) from jn_addr _ 13849]
  exact pk_rem (d := 65536) (by omega) (by decide) (by decide)
theorem rem10 {x : Nat} (hx : x < 65536) : nI x - nI x / 10 * 10 = nI (x % 10) := pk_rem (d := 10) (by omega) (by decide) (by decide)
theorem jc_draw {o x : Nat} {M : jb_Mi} (h : M o 11 = nI x) (hx : x < 65536) : zf_112 o M = (nI (nxtX x % 10), jb_up M o 11 (nI (nxtX x))) := by
  have := nxtX_lt x
  unfold zf_112
  rw [h, nxt_i hx, jb_up_at, if_pos ⟨rfl, rfl⟩, rem10 this]
theorem fac_tir {S : jSt} {m t q : Nat} (k : Nat) : fac (tirS S m t) m q k = if k = 2 then nI (min 99 (S 8 m + t)) else fac S m q k := by
  have e : sm7 S (tirS S m t) := sm7_set (by omega)
  have e8 : tirS S m t 8 m = min 99 (S 8 m + t) := by unfold tirS jset; rw [if_pos ⟨rfl, rfl⟩]
  have e9 : ∀ j, tirS S m t 9 j = S 9 j := fun j => by unfold tirS jset; rw [if_neg (by omega)]
  have e2 : ∀ j, tirS S m t 2 j = S 2 j := fun j => by unfold tirS jset; rw [if_neg (by omega)]
  unfold fac
  rw [e 7 (by decide) (by decide) (by decide), e 0 (by decide) (by decide) (by decide), e8, e9, e9, e2, ld_sm e]
  by_cases c0 : k = 0
  · subst c0; rfl
  · by_cases c1 : k = 1
    · subst c1; rfl
    · by_cases c2 : k = 2
      · subst c2; rfl
      · rw [if_neg c0, if_neg c1, if_neg c2, if_neg c2, if_neg c0, if_neg c1, if_neg c2]
theorem hfr_lw {w o : Nat} {M M' : jb_Mi} (h : lwsame M M') : hfr w o M M' := fun a q1 _ q3 _ _ _ _ => h a q1 q3
/-- he lets go -/
theorem jc_go {w o : Nat} (hwo : wo w o) {z : hz} {M : jb_Mi} (hC : hzC w o z M) (hk : hok z) {q : Nat} (hq : q < 24) (hu : uph z.1 (q / 4) = true) : ∃ M', zf_122_J155 w o (nI q) M = some M' ∧ hzC w o (sagZ (q / 4) z) M' ∧ hfr w o M M' := by
  unfold zf_122_J155 zf_122_J160 zf_122_J192 zf_122_J193 zf_122_J210 zf_122_J224
  rw [if_neg (show ¬ (1 : Int32) = 0 by decide), if_pos (show (0 : Int32) = 0 from rfl), if_neg (show ¬ (1 : Int32) = 0 by decide), jn_div (by omega)]
  have e6 : M w 6 + 0 = nI z.2.2.2.1 := by rw [hC.2.2.2.1]; exact nI_add _ 0
  rw [e6]
  have hC1 : hzC w o z (jb_up M w 6 (nI z.2.2.2.1)) := by
    have : jb_up M w 6 (nI z.2.2.2.1) = M := by
      funext a j
      rw [jb_up_at]
      split
      · rename_i c; rw [c.1, c.2, hC.2.2.2.1]
      · rfl
    rw [this]
    exact hC
  obtain ⟨M', s1, s2, s3⟩ := jc_sag hwo hC1 hk (show q / 4 < 6 by omega) hu
  refine ⟨M', by rw [s1]; rfl, s2, fun a q1 q2 q3 q4 q5 q6 q7 => by rw [s3 a q1 q2 q3 q4 q5 q6 q7, jb_up_off q4]⟩
/-- a corner that nobody holds -/
theorem jc_none {w o : Nat} (hwo : wo w o) {z : hz} {M : jb_Mi} (hC : hzC w o z M) (hk : hok z) {q : Nat} (hq : q < 24) (hu : uph z.1 (q / 4) = true) : ∃ M', zf_122_J38 w o (nI q) M = some M' ∧ hzC w o (sagZ (q / 4) (z.1, z.2.1, z.2.2.1, z.2.2.2.1, z.2.2.2.2.1 + 1, z.2.2.2.2.2)) M' ∧ hfr w o M M' := by
  unfold zf_122_J38
  obtain ⟨c1, c2, c3, c4, c5, c6, c7⟩ := hC
  rw [c5, nI_1, jn_div (by omega)]
  have hC1 : hzC w o (z.1, z.2.1, z.2.2.1, z.2.2.2.1, z.2.2.2.2.1 + 1, z.2.2.2.2.2) (jb_up M w 7 (nI (z.2.2.2.2.1 + 1))) := by
    refine ⟨jC_of c1 (fun a h1 h2 => jb_up_off (by unfold wo at hwo; omega)), ?_, ?_, ?_, ?_, ?_, ?_⟩
    · rw [jb_up_at, if_neg (by omega)]; exact c2
    · rw [jb_up_at, if_neg (by omega)]; exact c3
    · rw [jb_up_at, if_neg (by omega)]; exact c4
    · rw [jb_up_at, if_pos ⟨rfl, rfl⟩]
    · rw [jb_up_at, if_neg (by omega)]; exact c6
    · intro j hj h0
      rw [jb_up_off (by omega)]
      exact c7 j hj h0
  obtain ⟨M', s1, s2, s3⟩ := jc_sag hwo hC1 hk (show q / 4 < 6 by omega) hu
  refine ⟨M', by rw [s1]; rfl, s2, fun a q1 q2 q3 q4 q5 q6 q7 => by rw [s3 a q1 q2 q3 q4 q5 q6 q7, jb_up_off q4]⟩
theorem jc_hold {w o : Nat} (hwo : wo w o) {L : jLa} {R : Nat → List Nat} {z : hz} {M : jb_Mi} (hO : lwO L) (hL : lwC L M) (hr : jRo R M) (hC : hzC w o z M) (hk : hok z) {q : Nat} (hq : q < 24) (hu : uph z.1 (q / 4) = true) : ∃ M', zf_122 w o (nI q) M = some M' ∧ hzC w o (holdZ L R q z) M' ∧ hfr w o M M' := by
  have hR := hk.1
  have hnow := now_lt hR
  have hu2 := (uph_iff _ _).mp hu
  obtain ⟨c1, c2, c3, c4, c5, c6, c7⟩ := id hC
  obtain ⟨x, w1, w2, w3⟩ := jc_who c1 hR hr hq (show now z.1 < 2 ^ 31 by omega)
  unfold zf_122
  rw [jc_time c1, w1, Option.bind_some, w2, Option.bind_some]
  by_cases cw : whoT z.1 R q (now z.1) = 16
  · obtain ⟨M', n1, n2, n3⟩ := jc_none hwo hC hk hq hu
    refine ⟨M', ?_, ?_, n3⟩
    · rw [show decide (whoT z.1 R q (now z.1) ≠ 16) = false from decide_eq_false (fun y => y cw), jb_no, n1]
    · have e : holdZ L R q z = sagZ (q / 4) (z.1, z.2.1, z.2.2.1, z.2.2.2.1, z.2.2.2.2.1 + 1, z.2.2.2.2.2) := if_pos (Or.inl cw)
      rw [e]
      exact n2
  · have hxm := w3 cw
    obtain ⟨hm, htold⟩ := whoT_told cw
    rw [decide_eq_true (show whoT z.1 R q (now z.1) ≠ 16 from cw), jb_yes, hxm, c2]
    have hst := hk.2
    cases cb : z.2.1.testBit (whoT z.1 R q (now z.1))
    · -- he stands here
      have ee : holdZ L R q z = if tirS z.1 (whoT z.1 R q (now z.1)) (amt L (fac z.1 (whoT z.1 R q (now z.1)) q) 116 99) 8 (whoT z.1 R q (now z.1)) = 99 ∨ frl L (fac (tirS z.1 (whoT z.1 R q (now z.1)) (amt L (fac z.1 (whoT z.1 R q (now z.1)) q) 116 99)) (whoT z.1 R q (now z.1)) q) 120 ≠ L.1 then sagZ (q / 4) (tirS z.1 (whoT z.1 R q (now z.1)) (amt L (fac z.1 (whoT z.1 R q (now z.1)) q) 116 99), z.2.1 ||| 2 ^ whoT z.1 R q (now z.1), z.2.2) else if nxtX (z.1 9 2) % 10 < amt L (fac (tirS z.1 (whoT z.1 R q (now z.1)) (amt L (fac z.1 (whoT z.1 R q (now z.1)) q) 116 99)) (whoT z.1 R q (now z.1)) q) 100 10 then sagZ (q / 4) (jset (tirS z.1 (whoT z.1 R q (now z.1)) (amt L (fac z.1 (whoT z.1 R q (now z.1)) q) 116 99)) 9 2 (nxtX (z.1 9 2)), z.2.1 ||| 2 ^ whoT z.1 R q (now z.1), z.2.2.1, z.2.2.2.1 + 1, z.2.2.2.2) else (jset (tirS z.1 (whoT z.1 R q (now z.1)) (amt L (fac z.1 (whoT z.1 R q (now z.1)) q) 116 99)) 9 2 (nxtX (z.1 9 2)), z.2.1 ||| 2 ^ whoT z.1 R q (now z.1), z.2.2) := if_neg (fun y => y.elim cw (by rw [cb]; decide))
      rw [ee]
      generalize whoT z.1 R q (now z.1) = m at hm htold cb
      clear ee w3 w2 w1 hxm
      rw [if_pos (show (nI z.2.1 >>> (nI m &&& 31)) &&& 1 = 0 by rw [jn_bit0 (by omega) (by omega)]; exact cb), jn_shl m (by omega), jn_or]
      -- what he is told
      obtain ⟨M2, t1, t2, t3⟩ := jc_tell_on hwo (M := jb_up M w 4 (nI (z.2.1 ||| 2 ^ m))) (jC_of c1 (fun a h1 h2 => jb_up_off (by unfold wo at hwo; omega))) hR hm hq (by rw [jb_up_off (by omega)]; exact c7 q hq hu2.1)
      rw [t1, Option.bind_some]
      have hL2 : lwC L M2 := lwC_of hL (fun a h1 h2 => by rw [t2 a (by omega), jb_up_off (by unfold wo at hwo; omega)])
      obtain ⟨M3, a1, a2⟩ := jc_amount hO hL2 t3 (l := 116) (m := 99) (by omega) (by omega)
      have htm := amt_le L (fac z.1 m q) 116 99 (by omega)
      rw [show (116 : Int32) = nI 116 from rfl, show (99 : Int32) = nI 99 from rfl, a1, Option.bind_some]
      dsimp only
      generalize amt L (fac z.1 m q) 116 99 = t at htm
      have n9 : o + 9 ≠ 57 ∧ o + 9 ≠ 58 ∧ o + 9 ≠ 59 ∧ o + 9 ≠ w := by unfold wo at hwo; omega
      have e9 : M3 (o + 9) m = nI (z.1 8 m) := by
        rw [a2 (o + 9) n9.1 n9.2.2.1, t2 (o + 9) n9.2.1, jb_up_off n9.2.2.2]
        exact (c1.2.2.1 m hm).2
      have h8 := (hR.2.2.1 m hm).2
      rw [jn_gd hm (by decide), jn_gd hm (by decide), jn_gd hm (by decide), jn_gd hm (by decide), nI_clamp (by omega)]
      have emin : zf_272 (nI 99) (nI (z.1 8 m + t)) = nI (min 99 (z.1 8 m + t)) := jn_min (by omega) (by omega)
      simp only [e9, nI_add, emin]
      have et : jb_up M3 (o + 9) m (nI (min 99 (z.1 8 m + t))) (o + 9) m = nI (min 99 (z.1 8 m + t)) := by rw [jb_up_at, if_pos ⟨rfl, rfl⟩]
      simp only [jb_up_off n9.2.1, et]
      -- the memory behind that
      have hR1 := tirS_R hR m t
      have fr5 : hfr w o M (jb_up (jb_up M3 (o + 9) m (nI (min 99 (z.1 8 m + t)))) 58 2 (nI (min 99 (z.1 8 m + t)))) := by
        intro a q1 q2 q3 q4 q5 q6 q7
        rw [jb_up_off q2, jb_up_off q7, a2 a q1 q3, t2 a q2, jb_up_off q4]
      have hz5 : hzC w o (tirS z.1 m t, z.2.1 ||| 2 ^ m, z.2.2) (jb_up (jb_up M3 (o + 9) m (nI (min 99 (z.1 8 m + t)))) 58 2 (nI (min 99 (z.1 8 m + t)))) := by
        have base : ∀ a, (o ≤ a ∧ a ≤ o + 9) ∨ a = w + 1 → M3 a = M a := by
          intro a ha
          rw [a2 a (by unfold wo at hwo; omega) (by unfold wo at hwo; omega), t2 a (by unfold wo at hwo; omega), jb_up_off (by unfold wo at hwo; omega)]
        have bw : ∀ j, M3 w j = jb_up M w 4 (nI (z.2.1 ||| 2 ^ m)) w j := by
          intro j
          rw [a2 w (by unfold wo at hwo; omega) (by unfold wo at hwo; omega), t2 w (by unfold wo at hwo; omega)]
        have nw9 : w ≠ o + 9 := by unfold wo at hwo; omega
        have nw58 : w ≠ 58 := by unfold wo at hwo; omega
        refine ⟨jC_of (jC_up (jC_of c1 (M' := M3) (fun a h1 h2 => base a (Or.inl ⟨h1, h2⟩))) (k := 8) (j := m) (v := min 99 (z.1 8 m + t)) (by omega)) (fun a h1 h2 => jb_up_off (by unfold wo at hwo; omega)), ?_, ?_, ?_, ?_, ?_, ?_⟩
        · rw [jb_up_off nw58, jb_up_off nw9, bw, jb_up_at, if_pos ⟨rfl, rfl⟩]
        · rw [jb_up_off nw58, jb_up_off nw9, bw, jb_up_at, if_neg (by omega)]; exact c3
        · rw [jb_up_off nw58, jb_up_off nw9, bw, jb_up_at, if_neg (by omega)]; exact c4
        · rw [jb_up_off nw58, jb_up_off nw9, bw, jb_up_at, if_neg (by omega)]; exact c5
        · rw [jb_up_off nw58, jb_up_off nw9, bw, jb_up_at, if_neg (by omega)]; exact c6
        · intro j hj h0
          rw [jb_up_off (by unfold wo at hwo; omega), jb_up_off (by unfold wo at hwo; omega), base (w + 1) (Or.inr rfl)]
          have es : ld (tirS z.1 m t) (j / 4) (j % 4) = ld z.1 (j / 4) (j % 4) := ld_sm (sm7_set (by omega)) _ _
          dsimp only at h0 ⊢
          rw [es]
          refine c7 j hj ?_
          have : tirS z.1 m t 0 (j / 4) = z.1 0 (j / 4) := by unfold tirS jset; rw [if_neg (by omega)]
          rw [← this]; exact h0
      have hF5 : ∀ k, k < 10 → jb_up (jb_up M3 (o + 9) m (nI (min 99 (z.1 8 m + t)))) 58 2 (nI (min 99 (z.1 8 m + t))) 58 k = fac (tirS z.1 m t) m q k := by
        intro k hk'
        rw [fac_tir, jb_up_at]
        by_cases c : k = 2
        · rw [if_pos ⟨rfl, c⟩, if_pos c]
        · rw [if_neg (fun y => c y.2), if_neg c, jb_up_off (fun y => n9.2.1 y.symm), a2 58 (by decide) (by decide), t3 k hk']
      have hL5 : lwC L (jb_up (jb_up M3 (o + 9) m (nI (min 99 (z.1 8 m + t)))) 58 2 (nI (min 99 (z.1 8 m + t)))) := lwC_of hL (fun a h1 h2 => fr5 a (by omega) (by omega) (by omega) (by unfold wo at hwo; omega) (by unfold wo at hwo; omega) (by unfold wo at hwo; omega) (by unfold wo at hwo; omega))
      generalize jb_up (jb_up M3 (o + 9) m (nI (min 99 (z.1 8 m + t)))) 58 2 (nI (min 99 (z.1 8 m + t))) = M5 at fr5 hz5 hF5 hL5
      have hk5 : hok (tirS z.1 m t, z.2.1 ||| 2 ^ m, z.2.2) := ⟨hR1, Nat.or_lt_two_pow (n := 16) hst (Nat.pow_lt_pow_right (a := 2) (by decide) hm)⟩
      have hu5 : uph (tirS z.1 m t) (q / 4) = true := by
        unfold tirS
        rw [uph_set8 (Or.inl rfl)]
        exact hu
      have e8t : tirS z.1 m t 8 m = min 99 (z.1 8 m + t) := by unfold tirS jset; rw [if_pos ⟨rfl, rfl⟩]
      rw [e8t]
      clear t1 t2 t3 a1 a2 hL2 e9 et
      by_cases c99 : min 99 (z.1 8 m + t) < 99
      · rw [if_pos (nI_lt c99 (by omega))]
        obtain ⟨M6, r1, r2⟩ := jc_rule hO hL5 hF5 (l := 120) (by omega)
        rw [show (120 : Int32) = nI 120 from rfl, r1, Option.bind_some]
        dsimp only
        have hz6 : hzC w o (tirS z.1 m t, z.2.1 ||| 2 ^ m, z.2.2) M6 := hzC_of hz5 (fun a ha => r2 a (by unfold wo at hwo; omega) (by unfold wo at hwo; omega))
        have fr6 : hfr w o M M6 := hfr_trans fr5 (hfr_lw r2)
        have hfl := frl_le L (fac (tirS z.1 m t) m q) 120
        have h16 := hO.1
        by_cases cf : frl L (fac (tirS z.1 m t) m q) 120 = L.1
        · rw [if_pos (show ern L.1 (frl L (fac (tirS z.1 m t) m q) 120) < 0 by unfold ern; rw [if_pos cf]; decide), if_neg (show ¬ (min 99 (z.1 8 m + t) = 99 ∨ frl L (fac (tirS z.1 m t) m q) 120 ≠ L.1) by omega)]
          have ex : M6 o 11 = nI (z.1 9 2) := by
            have := hz6.1.2.2.2.2.2
            rw [this]
            dsimp only
            unfold tirS jset
            rw [if_neg (by omega)]
          have hx := hR.2.2.2.2.2
          unfold zf_122_J160
          rw [if_pos (show (0 : Int32) = 0 from rfl), jc_draw ex hx]
          dsimp only
          have hz7 : hzC w o (jset (tirS z.1 m t) 9 2 (nxtX (z.1 9 2)), z.2.1 ||| 2 ^ m, z.2.2) (jb_up M6 o 11 (nI (nxtX (z.1 9 2)))) := by
            obtain ⟨d1, d2, d3, d4, d5, d6, d7⟩ := hz6
            have now' : w ≠ o := by unfold wo at hwo; omega
            refine ⟨jC_9 d1 (j := 2) (by omega), ?_, ?_, ?_, ?_, ?_, ?_⟩
            · rw [jb_up_off now']; exact d2
            · rw [jb_up_off now']; exact d3
            · rw [jb_up_off now']; exact d4
            · rw [jb_up_off now']; exact d5
            · rw [jb_up_off now']; exact d6
            · intro j hj h0
              rw [jb_up_off (by unfold wo at hwo; omega)]
              have es : ld (jset (tirS z.1 m t) 9 2 (nxtX (z.1 9 2))) (j / 4) (j % 4) = ld (tirS z.1 m t) (j / 4) (j % 4) := ld_sm (sm7_set (by omega)) _ _
              dsimp only at h0 ⊢
              rw [es]
              refine d7 j hj ?_
              dsimp only
              have : jset (tirS z.1 m t) 9 2 (nxtX (z.1 9 2)) 0 (j / 4) = tirS z.1 m t 0 (j / 4) := by unfold jset; rw [if_neg (by omega)]
              rw [← this]; exact h0
          have fr7 : hfr w o M (jb_up M6 o 11 (nI (nxtX (z.1 9 2)))) := fun a q1 q2 q3 q4 q5 q6 q7 => by rw [jb_up_off q5, fr6 a q1 q2 q3 q4 q5 q6 q7]
          have hF7 : ∀ k, k < 10 → jb_up M6 o 11 (nI (nxtX (z.1 9 2))) 58 k = fac (tirS z.1 m t) m q k := fun k hk' => by rw [jb_up_off (by unfold wo at hwo; omega), r2 58 (by decide) (by decide), hF5 k hk']
          have hL7 : lwC L (jb_up M6 o 11 (nI (nxtX (z.1 9 2)))) := lwC_of hL (fun a h1 h2 => fr7 a (by omega) (by omega) (by omega) (by unfold wo at hwo; omega) (by unfold wo at hwo; omega) (by unfold wo at hwo; omega) (by unfold wo at hwo; omega))
          generalize jb_up M6 o 11 (nI (nxtX (z.1 9 2))) = M7 at hz7 fr7 hF7 hL7
          obtain ⟨M8, d1, d2⟩ := jc_amount hO hL7 hF7 (l := 100) (m := 10) (by omega) (by omega)
          have hdm := amt_le L (fac (tirS z.1 m t) m q) 100 10 (by omega)
          rw [show (100 : Int32) = nI 100 from rfl, show (10 : Int32) = nI 10 from rfl, d1, Option.bind_some]
          dsimp only
          have hz8 : hzC w o (jset (tirS z.1 m t) 9 2 (nxtX (z.1 9 2)), z.2.1 ||| 2 ^ m, z.2.2) M8 := hzC_of hz7 (fun a ha => d2 a (by unfold wo at hwo; omega) (by unfold wo at hwo; omega))
          have fr8 : hfr w o M M8 := hfr_trans fr7 (hfr_lw d2)
          have hR8 : jR (jset (tirS z.1 m t) 9 2 (nxtX (z.1 9 2))) := jR_set hR1 (by have := nxtX_lt (z.1 9 2); omega)
          unfold zf_122_J192 zf_122_J193 zf_122_J210 zf_122_J224
          by_cases cs : nxtX (z.1 9 2) % 10 < amt L (fac (tirS z.1 m t) m q) 100 10
          · rw [if_pos (nI_lt cs (by omega)), if_pos cs, if_neg (show ¬ (1 : Int32) = 0 by decide), if_pos (show (0 : Int32) = 0 from rfl), if_neg (show ¬ (1 : Int32) = 0 by decide), jn_div (by omega)]
            obtain ⟨g1, g2, g3, g4, g5, g6, g7⟩ := hz8
            rw [g4, nI_1]
            have hz9 : hzC w o (jset (tirS z.1 m t) 9 2 (nxtX (z.1 9 2)), z.2.1 ||| 2 ^ m, z.2.2.1, z.2.2.2.1 + 1, z.2.2.2.2) (jb_up M8 w 6 (nI (z.2.2.2.1 + 1))) := by
              refine ⟨jC_of g1 (fun a h1 h2 => jb_up_off (by unfold wo at hwo; omega)), ?_, ?_, ?_, ?_, ?_, ?_⟩
              · rw [jb_up_at, if_neg (by omega)]; exact g2
              · rw [jb_up_at, if_neg (by omega)]; exact g3
              · rw [jb_up_at, if_pos ⟨rfl, rfl⟩]
              · rw [jb_up_at, if_neg (by omega)]; exact g5
              · rw [jb_up_at, if_neg (by omega)]; exact g6
              · intro j hj h0
                rw [jb_up_off (by omega)]
                exact g7 j hj h0
            obtain ⟨M', s1, s2, s3⟩ := jc_sag hwo hz9 ⟨hR8, hk5.2⟩ (show q / 4 < 6 by omega) (by dsimp only; rw [uph_set8 (Or.inr rfl)]; exact hu5)
            refine ⟨M', by rw [s1]; rfl, s2, fun a q1 q2 q3 q4 q5 q6 q7 => by rw [s3 a q1 q2 q3 q4 q5 q6 q7, jb_up_off q4, fr8 a q1 q2 q3 q4 q5 q6 q7]⟩
          · rw [if_neg (nI_nlt (by omega) (by omega)), if_neg cs, if_pos (show (0 : Int32) = 0 from rfl), if_pos (show (0 : Int32) = 0 from rfl), if_pos (show (0 : Int32) = 0 from rfl)]
            have e6 : M8 w 6 + 0 = M8 w 6 := Int32.add_zero _
            have e7 : jb_up M8 w 6 (M8 w 6) = M8 := by
              funext a j
              rw [jb_up_at]
              split
              · rename_i c; rw [c.1, c.2]
              · rfl
            rw [e6, e7]
            exact ⟨M8, rfl, hz8, fr8⟩
        · rw [if_neg (show ¬ ern L.1 (frl L (fac (tirS z.1 m t) m q) 120) < 0 by unfold ern; rw [if_neg cf]; exact nI_pos (by omega)), if_pos (Or.inr cf)]
          obtain ⟨M', s1, s2, s3⟩ := jc_go hwo hz6 hk5 hq hu5
          exact ⟨M', s1, s2, hfr_trans fr6 s3⟩
      · rw [if_neg (nI_nlt (by omega) (by omega)), if_pos (Or.inl (by omega))]
        obtain ⟨M', s1, s2, s3⟩ := jc_go hwo hz5 hk5 hq hu5
        exact ⟨M', s1, s2, hfr_trans fr5 s3⟩
    · -- he stands elsewhere
      obtain ⟨M', n1, n2, n3⟩ := jc_none hwo hC hk hq hu
      refine ⟨M', ?_, ?_, n3⟩
      · rw [if_neg (show ¬ (nI z.2.1 >>> (nI (whoT z.1 R q (now z.1)) &&& 31)) &&& 1 = 0 by rw [jn_bit0 (by omega) (by omega), cb]; decide), n1]
      · have e : holdZ L R q z = sagZ (q / 4) (z.1, z.2.1, z.2.2.1, z.2.2.2.1, z.2.2.2.2.1 + 1, z.2.2.2.2.2) := if_pos (Or.inr cb)
        rw [e]
        exact n2
