theorem frD_law {L : jLa} {M M' : jb_Mi} (hL : lwD L M) (f : hfD M M') : lwD L M' := lwD_of hL (fun a h1 h2 => f.1 a (by omega) (by omega) (by omega) (by omega) (by omega)) (f.2 13 (by omega))
theorem frD_ro {R : Nat → List Nat} {M M' : jb_Mi} (hr : jRo R M) (f : hfD M M') : jRo R M' := jRo_of hr (f.1 36 (by decide) (by decide) (by decide) (by decide) (by decide)) (f.1 98 (by decide) (by decide) (by decide) (by decide) (by decide)) (f.1 35 (by decide) (by decide) (by decide) (by decide) (by decide)) (f.1 97 (by decide) (by decide) (by decide) (by decide) (by decide))
theorem jd_none {z : hz} {h : Nat} {x : hx} {M : jb_Mi} (hX : hzX z h x M) (hk : hok z) (hh : 1 ≤ h) {q : Nat} (hq : q < 24) (hu : uph z.1 (q / 4) = true) : ∃ M', zf_225_J27 (nI (q / 4)) M = some M' ∧ hzX (sagZ (q / 4) (z.1, z.2.1, z.2.2.1, z.2.2.2.1, z.2.2.2.2.1 + 1, z.2.2.2.2.2)) h (stepX q h z.1 (jset z.1 2 (q / 4) (z.1 2 (q / 4) + 1)) x) M' ∧ hfD M M' := by
  obtain ⟨⟨c1, c2, c3, c4, c5, c6⟩, d1, d2, d3, d4⟩ := hX
  unfold zf_225_J27
  rw [c5, nI_1]
  have hX1 : hzX (z.1, z.2.1, z.2.2.1, z.2.2.2.1, z.2.2.2.2.1 + 1, z.2.2.2.2.2) h x (jb_up M 79 40 (nI (z.2.2.2.2.1 + 1))) := by
    refine ⟨⟨jD_of c1 (jb_up_off (by decide)), ?_, ?_, ?_, ?_, ?_⟩, ?_, ?_, d3, ?_⟩
    · rw [jb_up_at, if_neg (by omega)]; exact c2
    · rw [jb_up_at, if_neg (by omega)]; exact c3
    · rw [jb_up_at, if_neg (by omega)]; exact c4
    · rw [jb_up_at, if_pos ⟨rfl, rfl⟩]
    · rw [jb_up_at, if_neg (by omega)]; exact c6
    · rw [jb_up_at, if_neg (by omega)]; exact d1
    · rw [jb_up_at, if_neg (by omega)]; exact d2
    · rw [jb_up_off (by decide)]; exact d4
  obtain ⟨M', s1, s2, s3⟩ := jd_sag hX1 hk hh (show q / 4 < 6 by omega) hu
  refine ⟨M', by rw [s1]; rfl, ?_, hfD_trans (hfD_79 M (by omega) _) s3⟩
  rw [← sagX_step (S1 := z.1) rfl rfl hu]
  exact s2
theorem jd_holds {L : jLa} {R : Nat → List Nat} {z : hz} {h : Nat} {x : hx} {M : jb_Mi} (hO : lwO L) (hL : lwD L M) (hr : jRo R M) (hX : hzX z h x M) (hk : hok z) (hh : 1 ≤ h) {q : Nat} (hq : q < 24) (hu : uph z.1 (q / 4) = true) : ∃ M', zf_225 (nI (q / 4)) (nI (q % 4)) M = some M' ∧ hzX (holdZ L R q z) h (stepX q h z.1 (holdZ L R q z).1 x) M' ∧ hfD M M' := by
  have hR := hk.1
  have hu2 := (uph_iff _ _).mp hu
  obtain ⟨⟨c1, c2, c3, c4, c5, c6⟩, d1, d2, d3, d4⟩ := id hX
  unfold zf_225
  rw [show (4 : Int32) * nI (q / 4) = nI (4 * (q / 4)) from jn_mull 4 _, nI_add, show 4 * (q / 4) + q % 4 = q by omega, show zf_216 (nI q) 0 M = some (enc (-1) (whoT z.1 R q (now z.1 + 0))) from jd_has c1 hR hr hq (k := 0) (by omega), Option.bind_some, Nat.add_zero]
  have hst := hk.2
  have hwl := whoT_le z.1 R q (now z.1)
  by_cases cw : whoT z.1 R q (now z.1) = 16
  · obtain ⟨M', n1, n2, n3⟩ := jd_none hX hk hh hq hu
    have e : holdZ L R q z = sagZ (q / 4) (z.1, z.2.1, z.2.2.1, z.2.2.2.1, z.2.2.2.2.1 + 1, z.2.2.2.2.2) := if_pos (Or.inl cw)
    refine ⟨M', ?_, ?_, n3⟩
    · unfold enc
      rw [if_pos cw, if_pos rfl, n1]
    · rw [e]
      exact n2
  · obtain ⟨hm, htold⟩ := whoT_told cw
    have een : enc (-1) (whoT z.1 R q (now z.1)) = nI (whoT z.1 R q (now z.1)) := if_neg cw
    rw [een, if_neg (by rw [jn_m1 (by omega)]; exact id), c2, jn_has (by omega) (by omega)]
    cases cb : z.2.1.testBit (whoT z.1 R q (now z.1))
    · have ee : holdZ L R q z = if tirS z.1 (whoT z.1 R q (now z.1)) (amt L (fac z.1 (whoT z.1 R q (now z.1)) q) 116 99) 8 (whoT z.1 R q (now z.1)) = 99 ∨ frl L (fac (tirS z.1 (whoT z.1 R q (now z.1)) (amt L (fac z.1 (whoT z.1 R q (now z.1)) q) 116 99)) (whoT z.1 R q (now z.1)) q) 120 ≠ L.1 then sagZ (q / 4) (tirS z.1 (whoT z.1 R q (now z.1)) (amt L (fac z.1 (whoT z.1 R q (now z.1)) q) 116 99), z.2.1 ||| 2 ^ whoT z.1 R q (now z.1), z.2.2) else if nxtX (z.1 9 2) % 10 < amt L (fac (tirS z.1 (whoT z.1 R q (now z.1)) (amt L (fac z.1 (whoT z.1 R q (now z.1)) q) 116 99)) (whoT z.1 R q (now z.1)) q) 100 10 then sagZ (q / 4) (jset (tirS z.1 (whoT z.1 R q (now z.1)) (amt L (fac z.1 (whoT z.1 R q (now z.1)) q) 116 99)) 9 2 (nxtX (z.1 9 2)), z.2.1 ||| 2 ^ whoT z.1 R q (now z.1), z.2.2.1, z.2.2.2.1 + 1, z.2.2.2.2) else (jset (tirS z.1 (whoT z.1 R q (now z.1)) (amt L (fac z.1 (whoT z.1 R q (now z.1)) q) 116 99)) 9 2 (nxtX (z.1 9 2)), z.2.1 ||| 2 ^ whoT z.1 R q (now z.1), z.2.2) := if_neg (fun y => y.elim cw (by rw [cb]; decide))
      rw [ee]
      generalize whoT z.1 R q (now z.1) = m at hm htold cb
      clear ee een cw hwl
      rw [jb_no, jn_shl m (by omega), jn_or]
      unfold zf_224
      -- what he feels
      have hX0 : hzX (z.1, z.2.1 ||| 2 ^ m, z.2.2) h x (jb_up M 79 44 (nI (z.2.1 ||| 2 ^ m))) := by
        refine ⟨⟨jD_of c1 (jb_up_off (by decide)), ?_, ?_, ?_, ?_, ?_⟩, ?_, ?_, d3, ?_⟩
        · rw [jb_up_at, if_pos ⟨rfl, rfl⟩]
        · rw [jb_up_at, if_neg (by omega)]; exact c3
        · rw [jb_up_at, if_neg (by omega)]; exact c4
        · rw [jb_up_at, if_neg (by omega)]; exact c5
        · rw [jb_up_at, if_neg (by omega)]; exact c6
        · rw [jb_up_at, if_neg (by omega)]; exact d1
        · rw [jb_up_at, if_neg (by omega)]; exact d2
        · rw [jb_up_off (by decide)]; exact d4
      have fr0 : hfD M (jb_up M 79 44 (nI (z.2.1 ||| 2 ^ m))) := hfD_79 M (by omega) _
      generalize jb_up M 79 44 (nI (z.2.1 ||| 2 ^ m)) = M0 at hX0 fr0
      obtain ⟨M1, f1, f2, f3⟩ := jd_feelsAt hX0.1.1 hR hm hq
      have fr1 : hfD M M1 := hfD_trans fr0 (hfD_96 f2)
      obtain ⟨M2, a1, a2⟩ := jd_byLaw hO (frD_law hL fr1) f3 (l := 116) (m := 99) (by omega) (by omega)
      have htm := amt_le L (fac z.1 m q) 116 99 (by omega)
      have e130 : M1 80 (130 + m) = nI (z.1 8 m) := by rw [f2 80 (by decide)]; exact (hX0.1.1.2.2.1 m hm).2
      have h8 := (hR.2.2.1 m hm).2
      rw [f1, Option.bind_some, show (130 : Int32) + nI m = nI (130 + m) from jn_addl 130 m, jn_gd (by omega) (by decide), show (116 : Int32) = nI 116 from rfl, show (99 : Int32) = nI 99 from rfl, a1, Option.bind_some]
      generalize amt L (fac z.1 m q) 116 99 = t at htm
      rw [jn_gd (by omega) (by decide), nI_clamp (by omega), e130, nI_add, jn_min' (by omega) (by omega)]
      dsimp only
      have fr2 : hfD M M2 := hfD_trans fr1 (hfD_ld a2)
      have hX2 : hzX (z.1, z.2.1 ||| 2 ^ m, z.2.2) h x M2 := hzX_of hX0 (by rw [a2 80 (by decide), f2 80 (by decide)]) (by rw [a2 79 (by decide), f2 79 (by decide)]) (by rw [a2 103 (by decide), f2 103 (by decide)])
      have hR1 := tirS_R hR m t
      have hX3 : hzX (tirS z.1 m t, z.2.1 ||| 2 ^ m, z.2.2) h x (jb_up M2 80 (130 + m) (nI (min 99 (z.1 8 m + t)))) := by
        obtain ⟨⟨g1, g2, g3, g4, g5, g6⟩, k1, k2, k3, k4⟩ := hX2
        refine ⟨⟨jD_8 g1 hm, ?_, ?_, ?_, ?_, ?_⟩, ?_, ?_, k3, ?_⟩
        · rw [jb_up_off (by decide)]; exact g2
        · rw [jb_up_off (by decide)]; exact g3
        · rw [jb_up_off (by decide)]; exact g4
        · rw [jb_up_off (by decide)]; exact g5
        · rw [jb_up_off (by decide)]; exact g6
        · rw [jb_up_off (by decide)]; exact k1
        · rw [jb_up_off (by decide)]; exact k2
        · rw [jb_up_off (by decide)]; exact k4
      have fr3 : hfD M (jb_up M2 80 (130 + m) (nI (min 99 (z.1 8 m + t)))) := hfD_trans fr2 (hfD_80 _ _ _)
      generalize jb_up M2 80 (130 + m) (nI (min 99 (z.1 8 m + t))) = M3 at hX3 fr3
      obtain ⟨M5, p1, p2, p3⟩ := jd_feelsAt hX3.1.1 hR1 hm hq
      have fr5 : hfD M M5 := hfD_trans fr3 (hfD_96 p2)
      have hX5 : hzX (tirS z.1 m t, z.2.1 ||| 2 ^ m, z.2.2) h x M5 := hzX_of hX3 (p2 80 (by decide)) (p2 79 (by decide)) (p2 103 (by decide))
      have e8t : tirS z.1 m t 8 m = min 99 (z.1 8 m + t) := by unfold tirS jset; rw [if_pos ⟨rfl, rfl⟩]
      have e5 : M5 80 (130 + m) = nI (min 99 (z.1 8 m + t)) := by
        rw [(hX5.1.1.2.2.1 m hm).2]
        dsimp only
        rw [e8t]
      rw [p1, Option.bind_some, jn_gd (by omega) (by decide)]
      have hk5 : hok (tirS z.1 m t, z.2.1 ||| 2 ^ m, z.2.2) := ⟨hR1, Nat.or_lt_two_pow (n := 16) hst (Nat.pow_lt_pow_right (a := 2) (by decide) hm)⟩
      have hu5 : uph (tirS z.1 m t) (q / 4) = true := by
        unfold tirS
        rw [uph_set8 (Or.inl rfl)]
        exact hu
      have t0 : tirS z.1 m t 0 (q / 4) = z.1 0 (q / 4) := by unfold tirS jset; rw [if_neg (by omega)]
      have t2 : tirS z.1 m t 2 (q / 4) = z.1 2 (q / 4) := by unfold tirS jset; rw [if_neg (by omega)]
      rw [e8t]
      have goes : ∀ M', hzX (tirS z.1 m t, z.2.1 ||| 2 ^ m, z.2.2) h x M' → hfD M M' → ∃ M'', ((zf_223 (nI (q / 4)) M').bind fun q4 => some q4) = some M'' ∧ hzX (sagZ (q / 4) (tirS z.1 m t, z.2.1 ||| 2 ^ m, z.2.2)) h (stepX q h z.1 (sagZ (q / 4) (tirS z.1 m t, z.2.1 ||| 2 ^ m, z.2.2)).1 x) M'' ∧ hfD M M'' := by
        intro M' y1 y2
        obtain ⟨M'', s1, s2, s3⟩ := jd_sag y1 hk5 hh (show q / 4 < 6 by omega) hu5
        refine ⟨M'', by rw [s1]; rfl, ?_, hfD_trans y2 s3⟩
        have := sagX_step (h := h) (x := x) t0 t2 hu
        rw [show (sagZ (q / 4) (tirS z.1 m t, z.2.1 ||| 2 ^ m, z.2.2)).1 = jset (tirS z.1 m t) 2 (q / 4) (tirS z.1 m t 2 (q / 4) + 1) from rfl, ← this]
        exact s2
      have e99 : (M5 80 (130 + m) = nI 99) = (min 99 (z.1 8 m + t) = 99) := by
        rw [e5]
        exact jn_eq (by omega) (by omega)
      by_cases c99 : min 99 (z.1 8 m + t) = 99
      · rw [if_pos (e99 ▸ c99), Option.bind_some, if_pos (Or.inl c99)]
        dsimp only
        rw [jb_yes]
        exact goes M5 hX5 fr5
      · rw [if_neg (fun y => c99 (e99 ▸ y))]
        obtain ⟨M6, r1, r2⟩ := jd_any hO (frD_law hL fr5) p3 (l := 120) (by omega)
        have fr6 : hfD M M6 := hfD_trans fr5 (hfD_ld r2)
        have hX6 : hzX (tirS z.1 m t, z.2.1 ||| 2 ^ m, z.2.2) h x M6 := hzX_of hX5 (r2 80 (by decide)) (r2 79 (by decide)) (r2 103 (by decide))
        rw [show (120 : Int32) = nI 120 from rfl, r1, Option.bind_some]
        dsimp only
        by_cases cf : frl L (fac (tirS z.1 m t) m q) 120 = L.1
        · rw [show decide (frl L (fac (tirS z.1 m t) m q) 120 ≠ L.1) = false from decide_eq_false (fun y => y cf), jb_no, if_neg (show ¬ (min 99 (z.1 8 m + t) = 99 ∨ frl L (fac (tirS z.1 m t) m q) 120 ≠ L.1) by omega)]
          have p3' : ∀ j, j < 10 → M6 96 j = fac (tirS z.1 m t) m q j := fun j hj => by rw [r2 96 (by decide)]; exact p3 j hj
          obtain ⟨M8, b1, b2⟩ := jd_byLaw hO (frD_law hL fr6) p3' (l := 100) (m := 10) (by omega) (by omega)
          have hdm := amt_le L (fac (tirS z.1 m t) m q) 100 10 (by omega)
          have fr8 : hfD M M8 := hfD_trans fr6 (hfD_ld b2)
          have hX8 : hzX (tirS z.1 m t, z.2.1 ||| 2 ^ m, z.2.2) h x M8 := hzX_of hX6 (b2 80 (by decide)) (b2 79 (by decide)) (b2 103 (by decide))
          rw [show (100 : Int32) = nI 100 from rfl, show (10 : Int32) = nI 10 from rfl, b1, Option.bind_some]
          dsimp only
          have hx' := hR.2.2.2.2.2
          have ex : M8 80 148 = nI (z.1 9 2) := by
            rw [hX8.1.1.2.2.2.2.2]
            dsimp only
            unfold tirS jset
            rw [if_neg (by omega)]
          have hnx := nxtX_lt (z.1 9 2)
          have enx := nxt_i hx'
          have erm : nI (nxtX (z.1 9 2)) - nI (nxtX (z.1 9 2)) / nI 10 * nI 10 = nI (nxtX (z.1 9 2) % 10) := rem10 hnx
          have e148 : jb_up M8 80 148 (nI (nxtX (z.1 9 2))) 80 148 = nI (nxtX (z.1 9 2)) := by rw [jb_up_at, if_pos ⟨rfl, rfl⟩]
          simp only [ex, enx, e148, erm]
          have hX9 : hzX (jset (tirS z.1 m t) 9 2 (nxtX (z.1 9 2)), z.2.1 ||| 2 ^ m, z.2.2) h x (jb_up M8 80 148 (nI (nxtX (z.1 9 2)))) := by
            obtain ⟨⟨g1, g2, g3, g4, g5, g6⟩, k1, k2, k3, k4⟩ := hX8
            refine ⟨⟨jD_9 g1 (j := 2) (by omega), ?_, ?_, ?_, ?_, ?_⟩, ?_, ?_, k3, ?_⟩
            · rw [jb_up_off (by decide)]; exact g2
            · rw [jb_up_off (by decide)]; exact g3
            · rw [jb_up_off (by decide)]; exact g4
            · rw [jb_up_off (by decide)]; exact g5
            · rw [jb_up_off (by decide)]; exact g6
            · rw [jb_up_off (by decide)]; exact k1
            · rw [jb_up_off (by decide)]; exact k2
            · rw [jb_up_off (by decide)]; exact k4
          have fr9 : hfD M (jb_up M8 80 148 (nI (nxtX (z.1 9 2)))) := hfD_trans fr8 (hfD_80 _ _ _)
          generalize jb_up M8 80 148 (nI (nxtX (z.1 9 2))) = M9 at hX9 fr9
          have hR9 : jR (jset (tirS z.1 m t) 9 2 (nxtX (z.1 9 2))) := jR_set hR1 (by omega)
          have hu9 : uph (jset (tirS z.1 m t) 9 2 (nxtX (z.1 9 2))) (q / 4) = true := by rw [uph_set8 (Or.inr rfl)]; exact hu5
          unfold zf_224_J133 jb_gz
          by_cases cs : nxtX (z.1 9 2) % 10 < amt L (fac (tirS z.1 m t) m q) 100 10
          · rw [if_pos (nI_lt cs (by omega)), if_pos cs, if_neg (show ¬ (1 : Int32) = 0 by decide), if_neg (show ¬ (1 : Int32) = 0 by decide), if_pos (show (1 : Int32) = 1 from rfl), Option.bind_some]
            dsimp only
            rw [jb_yes]
            obtain ⟨⟨g1, g2, g3, g4, g5, g6⟩, k1, k2, k3, k4⟩ := hX9
            rw [g4, nI_1]
            have hX10 : hzX (jset (tirS z.1 m t) 9 2 (nxtX (z.1 9 2)), z.2.1 ||| 2 ^ m, z.2.2.1, z.2.2.2.1 + 1, z.2.2.2.2) h x (jb_up M9 79 39 (nI (z.2.2.2.1 + 1))) := by
              refine ⟨⟨jD_of g1 (jb_up_off (by decide)), ?_, ?_, ?_, ?_, ?_⟩, ?_, ?_, k3, ?_⟩
              · rw [jb_up_at, if_neg (by omega)]; exact g2
              · rw [jb_up_at, if_neg (by omega)]; exact g3
              · rw [jb_up_at, if_pos ⟨rfl, rfl⟩]
              · rw [jb_up_at, if_neg (by omega)]; exact g5
              · rw [jb_up_at, if_neg (by omega)]; exact g6
              · rw [jb_up_at, if_neg (by omega)]; exact k1
              · rw [jb_up_at, if_neg (by omega)]; exact k2
              · rw [jb_up_off (by decide)]; exact k4
            obtain ⟨M', s1, s2, s3⟩ := jd_sag hX10 ⟨hR9, hk5.2⟩ hh (show q / 4 < 6 by omega) hu9
            refine ⟨M', by rw [s1]; rfl, ?_, hfD_trans (hfD_trans fr9 (hfD_79 _ (by omega) _)) s3⟩
            have h0 : jset (tirS z.1 m t) 9 2 (nxtX (z.1 9 2)) 0 (q / 4) = z.1 0 (q / 4) := by unfold jset; rw [if_neg (by omega)]; exact t0
            have h2 : jset (tirS z.1 m t) 9 2 (nxtX (z.1 9 2)) 2 (q / 4) = z.1 2 (q / 4) := by unfold jset; rw [if_neg (by omega)]; exact t2
            have := sagX_step (h := h) (x := x) h0 h2 hu
            rw [show (sagZ (q / 4) (jset (tirS z.1 m t) 9 2 (nxtX (z.1 9 2)), z.2.1 ||| 2 ^ m, z.2.2.1, z.2.2.2.1 + 1, z.2.2.2.2)).1 = jset (jset (tirS z.1 m t) 9 2 (nxtX (z.1 9 2))) 2 (q / 4) (jset (tirS z.1 m t) 9 2 (nxtX (z.1 9 2)) 2 (q / 4) + 1) from rfl, ← this]
            exact s2
          · rw [if_neg (nI_nlt (by omega) (by omega)), if_neg cs, if_pos (show (0 : Int32) = 0 from rfl), if_pos (show (0 : Int32) = 0 from rfl), Option.bind_some]
            dsimp only
            rw [jb_no, stepX_same (by rw [hu9, hu])]
            exact ⟨M9, rfl, hX9, fr9⟩
        · rw [show decide (frl L (fac (tirS z.1 m t) m q) 120 ≠ L.1) = true from decide_eq_true cf, jb_yes, Option.bind_some, if_pos (Or.inr cf)]
          dsimp only
          rw [jb_yes]
          exact goes M6 hX6 fr6
    · obtain ⟨M', n1, n2, n3⟩ := jd_none hX hk hh hq hu
      have e : holdZ L R q z = sagZ (q / 4) (z.1, z.2.1, z.2.2.1, z.2.2.2.1, z.2.2.2.2.1 + 1, z.2.2.2.2.2) := if_pos (Or.inr cb)
      refine ⟨M', by rw [jb_yes]; exact n1, ?_, n3⟩
      rw [e]
      exact n2
