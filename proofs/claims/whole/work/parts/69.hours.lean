/-! hours go by in the reference, one behind the other -/
theorem hzD_tick {z : hz} {h : Nat} {x : hx} {M : jb_Mi} (hX : hzX z h x M) (hk : hok z) : ∃ M', (if (jb_up M 80 146 ((M 80 146) + 1)) 80 146 < 24 then (some (.inr (jb_up M 80 146 ((M 80 146) + 1))) : Option ((Int32 × jb_Mi) ⊕ jb_Mi)) else some (.inr (jb_up (jb_up (jb_up M 80 146 ((M 80 146) + 1)) 80 146 0) 80 147 (((jb_up (jb_up M 80 146 ((M 80 146) + 1)) 80 146 0) 80 147) + 1)))) = some (.inr M') ∧ hzX (tickS z.1, z.2) h x M' ∧ hfD M M' := by
  obtain ⟨⟨c1, c2, c3, c4, c5, c6⟩, d1, d2, d3, d4⟩ := hX
  have h0 := hk.1.2.2.2.1
  have hd := hk.1.2.2.2.2.1
  have e00 : jb_up M 80 146 (nI (z.1 9 0 + 1)) 80 146 = nI (z.1 9 0 + 1) := by rw [jb_up_at, if_pos ⟨rfl, rfl⟩]
  rw [c1.2.2.2.1, nI_1, e00]
  have fin : ∀ (S' : jSt) (M' : jb_Mi), jD 80 S' M' → (∀ a, a ≠ 80 → M' a = M a) → hzX (S', z.2) h x M' ∧ hfD M M' := by
    intro S' M' q1 q2
    refine ⟨⟨⟨q1, ?_, ?_, ?_, ?_, ?_⟩, ?_, ?_, d3, ?_⟩, ⟨fun a _ q _ _ _ => q2 a q, fun j _ => by rw [q2 79 (by decide)]⟩⟩
    · rw [q2 79 (by decide)]; exact c2
    · rw [q2 79 (by decide)]; exact c3
    · rw [q2 79 (by decide)]; exact c4
    · rw [q2 79 (by decide)]; exact c5
    · rw [q2 79 (by decide)]; exact c6
    · rw [q2 79 (by decide)]; exact d1
    · rw [q2 79 (by decide)]; exact d2
    · rw [q2 103 (by decide)]; exact d4
  by_cases c : z.1 9 0 + 1 < 24
  · rw [if_pos (show nI (z.1 9 0 + 1) < 24 from nI_lt (b := 24) c (by decide))]
    have et : tickS z.1 = jset z.1 9 0 (z.1 9 0 + 1) := if_pos c
    rw [et]
    exact ⟨_, rfl, fin _ _ (jD_9 c1 (j := 0) (by omega)) (fun a ha => jb_up_off ha)⟩
  · rw [if_neg (show ¬ nI (z.1 9 0 + 1) < 24 from nI_nlt (b := 24) (by omega) (by omega))]
    have et : tickS z.1 = jset (jset z.1 9 0 0) 9 1 (z.1 9 1 + 1) := if_neg c
    have e10 : jb_up (jb_up M 80 146 (nI (z.1 9 0 + 1))) 80 146 0 80 147 = nI (z.1 9 1) := by
      rw [jb_up_at, if_neg (by omega), jb_up_at, if_neg (by omega), c1.2.2.2.2.1]
    have em : jb_up (jb_up M 80 146 (nI (z.1 9 0 + 1))) 80 146 0 = jb_up M 80 146 (nI 0) := by
      funext a j
      simp only [jb_up_at]
      split <;> rfl
    rw [e10, nI_1, et, em]
    exact ⟨_, rfl, fin _ _ (jD_9 (jD_9 c1 (j := 0) (v := 0) (by omega)) (j := 1) (by omega)) (fun a ha => by rw [jb_up_off ha, jb_up_off ha])⟩
theorem jd_rest {L : jLa} {z : hz} {h : Nat} {x : hx} {M : jb_Mi} (hO : lwO L) (hL : lwD L M) (hX : hzX z h x M) (hk : hok z) {m : Nat} (hm : m < 16) : ∃ M', (((zf_210 (nI m) M).bind fun q4 => jb_gd (130 + nI m) 149 ((zf_208 121 99 q4).bind fun q6 => jb_gd (130 + nI m) 149 (zf_226_J117 (nI m) (jb_up q6.2 80 ((130 + nI m)).toNatClampNeg (zf_166 0 ((q4 80 ((130 + nI m)).toNatClampNeg) - q6.1)))))) : Option ((Int32 × jb_Mi) ⊕ jb_Mi)) = some (.inl (nI (m + 1), M')) ∧ hzX (jset z.1 8 m (z.1 8 m - amt L (fac z.1 m 24) 121 99), z.2) h x M' ∧ hfD M M' := by
  have hR := hk.1
  obtain ⟨M1, f1, f2, f3⟩ := jd_feelsOff hX.1.1 hR hm
  have fr1 : hfD M M1 := hfD_96 f2
  obtain ⟨M2, a1, a2⟩ := jd_byLaw hO (frD_law hL fr1) f3 (l := 121) (m := 99) (by omega) (by omega)
  have htm := amt_le L (fac z.1 m 24) 121 99 (by omega)
  have h8 := (hR.2.2.1 m hm).2
  have e130 : M1 80 (130 + m) = nI (z.1 8 m) := by rw [f2 80 (by decide)]; exact (hX.1.1.2.2.1 m hm).2
  rw [f1, Option.bind_some, show (130 : Int32) + nI m = nI (130 + m) from jn_addl 130 m, jn_gd (by omega) (by decide), show (121 : Int32) = nI 121 from rfl, show (99 : Int32) = nI 99 from rfl, a1, Option.bind_some]
  generalize amt L (fac z.1 m 24) 121 99 = t at htm
  rw [jn_gd (by omega) (by decide), nI_clamp (by omega), e130]
  dsimp only
  have emax : zf_166 0 (nI (z.1 8 m) - nI t) = nI (z.1 8 m - t) := by
    rw [jn_mxx]
    unfold zf_271
    by_cases c : t < z.1 8 m
    · rw [pk_sub (by omega), if_pos (show (0 : Int32) < nI (z.1 8 m - t) from nI_lt (a := 0) (by omega) (by omega))]
    · rw [if_neg (fun y => by rw [i_gt0 (by omega) (by omega)] at y; exact c y), show z.1 8 m - t = 0 by omega]
      rfl
  unfold zf_226_J117
  rw [emax, nI_1]
  obtain ⟨⟨g1, g2, g3, g4, g5, g6⟩, k1, k2, k3, k4⟩ := hzX_of hX (M' := M2) (by rw [a2 80 (by decide), f2 80 (by decide)]) (by rw [a2 79 (by decide), f2 79 (by decide)]) (by rw [a2 103 (by decide), f2 103 (by decide)])
  refine ⟨_, rfl, ⟨⟨jD_8 g1 hm, ?_, ?_, ?_, ?_, ?_⟩, ?_, ?_, k3, ?_⟩, hfD_trans (hfD_trans fr1 (hfD_ld a2)) (hfD_80 _ _ _)⟩
  · rw [jb_up_off (by decide)]; exact g2
  · rw [jb_up_off (by decide)]; exact g3
  · rw [jb_up_off (by decide)]; exact g4
  · rw [jb_up_off (by decide)]; exact g5
  · rw [jb_up_off (by decide)]; exact g6
  · rw [jb_up_off (by decide)]; exact k1
  · rw [jb_up_off (by decide)]; exact k2
  · rw [jb_up_off (by decide)]; exact k4
theorem jd_hour {L : jLa} {R : Nat → List Nat} {z : hz} {h : Nat} {x : hx} {M : jb_Mi} (hO : lwO L) (hL : lwD L M) (hr : jRo R M) (hX : hzX z h x M) (hR : jR z.1) : ∃ M', zf_226 M = some M' ∧ hzX (hourZ L R z) (h + 1) (hourX L R (h + 1) z x) M' ∧ hfD M M' := by
  obtain ⟨⟨c1, c2, c3, c4, c5, c6⟩, d1, d2, d3, d4⟩ := hX
  unfold zf_226
  rw [d1, nI_1]
  have hX0 : hzX (z.1, 0, z.2.2) (h + 1) x (jb_up (jb_up M 79 43 (nI (h + 1))) 79 44 0) := by
    refine ⟨⟨jD_of c1 (by rw [jb_up_off (by decide), jb_up_off (by decide)]), ?_, ?_, ?_, ?_, ?_⟩, ?_, ?_, d3, ?_⟩
    · rw [jb_up_at, if_pos ⟨rfl, rfl⟩]; rfl
    · rw [jb_up_at, if_neg (by omega), jb_up_at, if_neg (by omega)]; exact c3
    · rw [jb_up_at, if_neg (by omega), jb_up_at, if_neg (by omega)]; exact c4
    · rw [jb_up_at, if_neg (by omega), jb_up_at, if_neg (by omega)]; exact c5
    · rw [jb_up_at, if_neg (by omega), jb_up_at, if_neg (by omega)]; exact c6
    · rw [jb_up_at, if_neg (by omega), jb_up_at, if_pos ⟨rfl, rfl⟩]
    · rw [jb_up_at, if_neg (by omega), jb_up_at, if_neg (by omega)]; exact d2
    · rw [jb_up_off (by decide), jb_up_off (by decide)]; exact d4
  have fr0 : hfD M (jb_up (jb_up M 79 43 (nI (h + 1))) 79 44 0) := hfD_trans (hfD_79 M (by omega) _) (hfD_79 _ (by omega) _)
  have rest : ∀ M1 y, hzX (midZ L R z) (h + 1) y M1 → hfD M M1 → ∃ M', jb_lp zf_226_H51 (nI 0, M1) = some M' ∧ hzX (hourZ L R z) (h + 1) y M' ∧ hfD M M' := by
    intro M1 y hC1 hf1
    have hm2 := midZ_ok2 (L := L) (R := R) hR
    unfold hourZ endZ
    generalize midZ L R z = v at hC1 hm2
    obtain ⟨M', r1, r2, r3⟩ := jb_inv (f := zf_226_H51) (fun n s => ∃ m M', m + n = 16 ∧ s = (nI m, M') ∧ hzX (itf (restZ L) v m) (h + 1) y M' ∧ hfD M M') (fun M' => hzX (tickS (itf (restZ L) v 16).1, (itf (restZ L) v 16).2) (h + 1) y M' ∧ hfD M M') (by
      rintro n s ⟨m, M', hn, rfl, h1, h2⟩
      have hok' := (restN_ok (L := L) hm2.1 hm2.2 m (by omega)).1
      by_cases e : m < 16
      · left
        have es : itf (restZ L) v (m + 1) = restZ L m (itf (restZ L) v m) := rfl
        have skip : ¬ (0 < (itf (restZ L) v m).1 7 m ∧ (itf (restZ L) v m).2.1.testBit m = false) → zf_226_H51 (nI m, M') = some (.inl (nI (m + 1), M')) → ∃ (m' : Nat) (t : Int32 × jb_Mi), m' < n ∧ zf_226_H51 (nI m, M') = some (.inl t) ∧ ∃ m M', m + m' = 16 ∧ t = (nI m, M') ∧ hzX (itf (restZ L) v m) (h + 1) y M' ∧ hfD M M' := by
          intro hn2 he
          refine ⟨n - 1, (nI (m + 1), M'), by omega, he, m + 1, M', by omega, rfl, ?_, h2⟩
          rw [es]
          have : restZ L m (itf (restZ L) v m) = itf (restZ L) v m := if_neg hn2
          rw [this]
          exact h1
        have hst := hok'.2
        have hb8 : zf_168 (M' 79 44) (nI m) = (itf (restZ L) v m).2.1.testBit m := by rw [h1.1.2.1]; exact jn_has (by omega) (by omega)
        by_cases ct : 0 < (itf (restZ L) v m).1 7 m
        · by_cases cb : (itf (restZ L) v m).2.1.testBit m = false
          · obtain ⟨M2, x1, x2, x3⟩ := jd_rest hO (frD_law hL h2) h1 hok' e
            refine ⟨n - 1, (nI (m + 1), M2), by omega, ?_, m + 1, M2, by omega, rfl, ?_, hfD_trans h2 x3⟩
            · unfold zf_226_H51
              dsimp only
              rw [if_pos (show nI m < 16 from nI_lt (b := 16) e (by decide)), jd_man h1.1.1 hok'.1 e, Option.bind_some, decide_eq_true ct, jb_yes, if_pos (show jb_b2i (zf_168 (M' 79 44) (nI m)) = 0 by rw [hb8, cb]; rfl)]
              exact x1
            · rw [es]
              have : restZ L m (itf (restZ L) v m) = (jset (itf (restZ L) v m).1 8 m ((itf (restZ L) v m).1 8 m - amt L (fac (itf (restZ L) v m).1 m 24) 121 99), (itf (restZ L) v m).2) := if_pos ⟨ct, cb⟩
              rw [this]
              exact x2
          · refine skip (fun y => cb y.2) ?_
            unfold zf_226_H51 zf_226_J117
            dsimp only
            have cb' : (itf (restZ L) v m).2.1.testBit m = true := by simpa using cb
            rw [if_pos (show nI m < 16 from nI_lt (b := 16) e (by decide)), jd_man h1.1.1 hok'.1 e, Option.bind_some, decide_eq_true ct, jb_yes, if_neg (show ¬ jb_b2i (zf_168 (M' 79 44) (nI m)) = 0 by rw [hb8, cb']; decide), nI_1]
        · refine skip (fun y => ct y.1) ?_
          unfold zf_226_H51 zf_226_J117
          dsimp only
          rw [if_pos (show nI m < 16 from nI_lt (b := 16) e (by decide)), jd_man h1.1.1 hok'.1 e, Option.bind_some, decide_eq_false ct, jb_no, nI_1]
      · have e : m = 16 := by omega
        subst e
        obtain ⟨M2, k1, k2, k3⟩ := hzD_tick h1 hok'
        refine Or.inr ⟨M2, ?_, k2, hfD_trans h2 k3⟩
        unfold zf_226_H51
        refine (if_neg (by dsimp only; decide)).trans ?_
        exact k1) 16 (nI 0, M1) ⟨0, M1, by omega, rfl, hC1, hf1⟩
    exact ⟨M', r1, r2, r3⟩
  obtain ⟨M', r1, r2, r3⟩ := jb_inv (f := zf_226_H17) (fun n s => ∃ q M', q + n = 24 ∧ s = (nI q, M') ∧ hzX (itf (cornX L R (h + 1)) ((z.1, 0, z.2.2), x) q).1 (h + 1) (itf (cornX L R (h + 1)) ((z.1, 0, z.2.2), x) q).2 M' ∧ hfD M M') (fun M' => hzX (hourZ L R z) (h + 1) (hourX L R (h + 1) z x) M' ∧ hfD M M') (by
    rintro n s ⟨q, M', hn, rfl, h1, h2⟩
    have hok' := (midZ_ok (L := L) (R := R) hR q).1
    rw [← cornX_1 L R (h + 1) ((z.1, 0, z.2.2), x)] at hok'
    unfold zf_226_H17 zf_226_J43
    dsimp only
    by_cases e : q < 24
    · left
      have es : itf (cornX L R (h + 1)) ((z.1, 0, z.2.2), x) (q + 1) = cornX L R (h + 1) q (itf (cornX L R (h + 1)) ((z.1, 0, z.2.2), x) q) := rfl
      generalize itf (cornX L R (h + 1)) ((z.1, 0, z.2.2), x) q = p at h1 hok' es
      rw [if_pos (show nI q < 24 from nI_lt (b := 24) e (by decide)), jn_div (by omega), jd_up h1.1.1 hok'.1 (by omega), Option.bind_some, nI_1, jn_rem' (by omega)]
      by_cases cu : uph p.1.1 (q / 4) = true
      · obtain ⟨M2, x1, x2, x3⟩ := jd_holds hO (frD_law hL h2) (frD_ro hr h2) h1 hok' (by omega) e cu
        have cu' : decide (0 < p.1.1 0 (q / 4) ∧ p.1.1 2 (q / 4) < 9) = true := cu
        rw [cu', jb_yes, x1, Option.bind_some]
        refine ⟨n - 1, (nI (q + 1), M2), by omega, rfl, q + 1, M2, by omega, rfl, ?_, hfD_trans h2 x3⟩
        rw [es]
        have : cornZ L R q p.1 = holdZ L R q p.1 := if_pos cu
        unfold cornX
        dsimp only
        rw [this]
        exact x2
      · have cu' : decide (0 < p.1.1 0 (q / 4) ∧ p.1.1 2 (q / 4) < 9) = false := by
          have : uph p.1.1 (q / 4) = false := by simpa using cu
          exact this
        rw [cu', jb_no]
        refine ⟨n - 1, (nI (q + 1), M'), by omega, rfl, q + 1, M', by omega, rfl, ?_, h2⟩
        rw [es]
        have : cornZ L R q p.1 = p.1 := if_neg cu
        unfold cornX
        dsimp only
        rw [this, stepX_same rfl]
        exact h1
    · have e : q = 24 := by omega
      subst e
      have e1 : (itf (cornX L R (h + 1)) ((z.1, 0, z.2.2), x) 24).1 = midZ L R z := by
        rw [cornX_1]
        unfold midZ
        rfl
      rw [e1] at h1
      obtain ⟨M2, x1, x2, x3⟩ := rest M' _ h1 h2
      refine Or.inr ⟨M2, ?_, x2, x3⟩
      rw [if_neg (by decide), show ((0 : Int32), M') = (nI 0, M') from rfl, x1]
      rfl) 24 (nI 0, jb_up (jb_up M 79 43 (nI (h + 1))) 79 44 0) ⟨0, _, by omega, rfl, hX0, fr0⟩
  exact ⟨M', r1, r2, r3⟩
/-! hours one behind the other -/
noncomputable def sX (L : jLa) (R : Nat → List Nat) (S : jSt) (k : Nat) : hz × hx := itf (fun k p => (hourZ L R p.1, hourX L R (k + 1) p.1 p.2)) ((S, 0, 0, 0, 0, 0), (6, fun _ => 0)) k
theorem sX_s (L : jLa) (R : Nat → List Nat) (S : jSt) (k : Nat) : sX L R S (k + 1) = (hourZ L R (sX L R S k).1, hourX L R (k + 1) (sX L R S k).1 (sX L R S k).2) := rfl
theorem sX_ok {L : jLa} {R : Nat → List Nat} {S : jSt} (hR : jR S) : ∀ k, now S + k < 239976 → jR (sX L R S k).1.1 ∧ sm7 S (sX L R S k).1.1 ∧ now (sX L R S k).1.1 = now S + k
  | 0, _ => ⟨hR, sm7_refl S, rfl⟩
  | k + 1, hk => by
    obtain ⟨i1, i2, i3⟩ := sX_ok (L := L) (R := R) hR k (by omega)
    obtain ⟨h1, h2, h3⟩ := hourZ_ok (L := L) (R := R) (z := (sX L R S k).1) i1 (by omega)
    rw [sX_s]
    exact ⟨h1.1, sm7_trans i2 h2, by dsimp only; omega⟩
theorem hourZ_congr {L : jLa} {R : Nat → List Nat} {z y : hz} (h1 : z.1 = y.1) (h2 : z.2.2 = y.2.2) : hourZ L R z = hourZ L R y := by
  unfold hourZ endZ midZ
  rw [h1, h2]
theorem hourX_congr {L : jLa} {R : Nat → List Nat} {h : Nat} {z y : hz} {x : hx} (h1 : z.1 = y.1) (h2 : z.2.2 = y.2.2) : hourX L R h z x = hourX L R h y x := by
  unfold hourX
  rw [h1, h2]
/-- the class's watch behind k hours -/
def cS (w o : Nat) (z : hz) (M : jb_Mi) : Prop := ∃ y : hz, hzC w o y M ∧ y.1 = z.1 ∧ y.2.2 = z.2.2
theorem cS_pass {w o : Nat} (hwo : wo w o) {L : jLa} {R : Nat → List Nat} {z : hz} {M : jb_Mi} (hO : lwO L) (hL : lwC L M) (hr : jRo R M) (hC : cS w o z M) (hR : jR z.1) : ∃ M', zf_124 w o M = some M' ∧ cS w o (hourZ L R z) M' ∧ hfr w o M M' := by
  obtain ⟨y, y1, y2, y3⟩ := hC
  obtain ⟨M', p1, p2, p3⟩ := jc_pass hwo hO hL hr y1 (by rw [y2]; exact hR)
  rw [hourZ_congr y2 y3] at p2
  exact ⟨M', p1, ⟨_, p2, rfl, rfl⟩, p3⟩
theorem cS_begin {w o : Nat} (hwo : wo w o) {S : jSt} {M : jb_Mi} (hC : jC o S M) (hR : jR S) : ∃ M', zf_119 w o M = some M' ∧ cS w o (S, 0, 0, 0, 0, 0) M' ∧ ∀ a, a ≠ w → a ≠ w + 1 → M' a = M a := by
  obtain ⟨M', b1, -, b2, ⟨e5, e6, e7, e8, e4⟩, b4⟩ := jc_begin hwo hC hR
  obtain ⟨u, -, hu⟩ := nI_any (M w 4)
  refine ⟨M', b1, ⟨(S, u, 0, 0, 0, 0), ⟨jC_of hC (fun a h1 h2 => b2 a (by unfold wo at hwo; omega) (by unfold wo at hwo; omega)), by rw [e4, hu], e5, e6, e7, e8, b4⟩, rfl, rfl⟩, b2⟩
def dS (z : hz) (h : Nat) (x : hx) (M : jb_Mi) : Prop := ∃ y : hz, hzX y h x M ∧ y.1 = z.1 ∧ y.2.2 = z.2.2
theorem jd_hoursGo {L : jLa} {R : Nat → List Nat} {S : jSt} {M : jb_Mi} (hO : lwO L) (hL : lwD L M) (hr : jRo R M) (hD : jD 80 S M) (hR : jR S) {n : Nat} (hn : n ≤ 240) (hb : now S + n < 239976) : ∃ M', zf_227 (nI n) M = some M' ∧ dS (sX L R S n).1 n (sX L R S n).2 M' ∧ hfD M M' := by
  unfold zf_227
  obtain ⟨u, -, hu⟩ := nI_any (M 79 44)
  have b : ∀ j, jb_up (jb_up (jb_up (jb_up (jb_up (jb_up M 79 38 0) 79 39 0) 79 40 0) 79 41 0) 79 42 (-1)) 79 43 0 79 j = if j = 43 then 0 else if j = 42 then (-1) else if j = 41 then 0 else if j = 40 then 0 else if j = 39 then 0 else if j = 38 then 0 else M 79 j := by
    intro j
    simp only [jb_up_at, true_and]
  have bo : ∀ a, a ≠ 79 → jb_up (jb_up (jb_up (jb_up (jb_up (jb_up M 79 38 0) 79 39 0) 79 40 0) 79 41 0) 79 42 (-1)) 79 43 0 a = M a := fun a ha => by simp only [jb_up_off ha]
  generalize jb_up (jb_up (jb_up (jb_up (jb_up (jb_up M 79 38 0) 79 39 0) 79 40 0) 79 41 0) 79 42 (-1)) 79 43 0 = M0 at b bo
  have hours : ∀ M1, (∀ a, a ≠ 103 → M1 a = M0 a) → (∀ i, i < 6 → M1 103 i = (-2)) → ∃ M', jb_lp (zf_227_H54 (nI n)) (nI 0, M1) = some M' ∧ dS (sX L R S n).1 n (sX L R S n).2 M' ∧ hfD M M' := by
    intro M1 q1 q2
    have f1 : hfD M M1 := ⟨fun a g1 g2 g3 g4 g5 => by rw [q1 a g5, bo a g1], fun j hj => by rw [q1 79 (by decide), b j, if_neg (by omega), if_neg (by omega), if_neg (by omega), if_neg (by omega), if_neg (by omega), if_neg (by omega)]⟩
    have s0 : dS (sX L R S 0).1 0 (sX L R S 0).2 M1 := by
      refine ⟨(S, u, 0, 0, 0, 0), ⟨⟨jD_of hD (by rw [q1 80 (by decide), bo 80 (by decide)]), ?_, ?_, ?_, ?_, ?_⟩, ?_, ?_, ?_, ?_⟩, rfl, rfl⟩
      · rw [q1 79 (by decide), b 44]; exact hu
      · rw [q1 79 (by decide), b 38]; rfl
      · rw [q1 79 (by decide), b 39]; rfl
      · rw [q1 79 (by decide), b 40]; rfl
      · rw [q1 79 (by decide), b 41]; rfl
      · rw [q1 79 (by decide), b 43]; rfl
      · rw [q1 79 (by decide), b 42]; rfl
      · show (6 : Nat) ≤ 6; decide
      · intro i hi; rw [q2 i hi]; rfl
    obtain ⟨M', r1, r2, r3⟩ := jb_inv (f := zf_227_H54 (nI n)) (fun m s => ∃ k M', k + m = n ∧ s = (nI k, M') ∧ dS (sX L R S k).1 k (sX L R S k).2 M' ∧ hfD M M') (fun M' => dS (sX L R S n).1 n (sX L R S n).2 M' ∧ hfD M M') (by
      rintro m s ⟨k, M', hm, rfl, h1, h2⟩
      unfold zf_227_H54
      dsimp only
      by_cases e : k < n
      · left
        obtain ⟨i1, i2, i3⟩ := sX_ok (L := L) (R := R) hR k (by omega)
        obtain ⟨y, y1, y2, y3⟩ := h1
        obtain ⟨M2, p1, p2, p3⟩ := jd_hour hO (frD_law hL h2) (frD_ro hr h2) y1 (by rw [y2]; exact i1)
        rw [hourZ_congr y2 y3, hourX_congr y2 y3] at p2
        have hd := i1.2.2.2.2.1
        have ed : M' 80 147 = nI ((sX L R S k).1.1 9 1) := by rw [y1.1.1.2.2.2.2.1, y2]
        have p4 : dS (sX L R S (k + 1)).1 (k + 1) (sX L R S (k + 1)).2 M2 := by
          rw [sX_s]
          dsimp only
          generalize hourZ L R (sX L R S k).1 = y' at p2 ⊢
          exact ⟨y', p2, rfl, rfl⟩
        refine ⟨m - 1, (nI (k + 1), M2), by omega, ?_, k + 1, M2, by omega, rfl, p4, hfD_trans h2 p3⟩
        rw [if_pos (nI_lt e (by omega)), if_pos (show M' 80 147 < 9999 by rw [ed]; exact nI_lt (b := 9999) hd (by decide)), p1, Option.bind_some, nI_1]
      · have e : k = n := by omega
        subst e
        exact Or.inr ⟨M', if_neg (nI_nlt (Nat.le_refl _) (by omega)), h1, h2⟩) n (nI 0, M1) ⟨0, M1, by omega, rfl, s0, f1⟩
    exact ⟨M', r1, r2, r3⟩
  obtain ⟨M', r1, r2, r3⟩ := jb_inv (f := zf_227_H32 (nI n)) (fun m s => ∃ k M', k + m = 6 ∧ s = (nI k, M') ∧ (∀ a, a ≠ 103 → M' a = M0 a) ∧ ∀ i, i < k → M' 103 i = (-2)) (fun M' => dS (sX L R S n).1 n (sX L R S n).2 M' ∧ hfD M M') (by
    rintro m s ⟨k, M', hm, rfl, h1, h2⟩
    unfold zf_227_H32
    dsimp only
    by_cases e : k < 6
    · refine Or.inl ⟨m - 1, (nI (k + 1), jb_up M' 103 k (-2)), by omega, ?_, k + 1, jb_up M' 103 k (-2), by omega, rfl, fun a ha => by rw [jb_up_off ha, h1 a ha], fun i hi => ?_⟩
      · rw [if_pos (show nI k < 6 from nI_lt (b := 6) e (by decide)), jn_gd e (by decide), nI_clamp (by omega), nI_1]
      · rw [jb_up_at]
        by_cases c : i = k
        · rw [if_pos ⟨rfl, c⟩]
        · rw [if_neg (fun y => c y.2)]
          exact h2 i (by omega)
    · have e : k = 6 := by omega
      subst e
      obtain ⟨M2, x1, x2, x3⟩ := hours M' h1 h2
      refine Or.inr ⟨M2, ?_, x2, x3⟩
      rw [if_neg (by decide), show ((0 : Int32), M') = (nI 0, M') from rfl, x1]
      rfl) 6 (nI 0, M0) ⟨0, M0, by omega, rfl, fun _ _ => rfl, fun i hi => by omega⟩
  exact ⟨M', r1, r2, r3⟩
