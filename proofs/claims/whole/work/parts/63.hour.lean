/-! an hour, in itself -/
noncomputable def fac (S : jSt) (m d k : Nat) : Int32 := if k = 0 then nI m else if k = 1 then nI (S 7 m) else if k = 2 then nI (S 8 m) else if k = 8 then nI (S 9 0) else if k = 9 then nI (S 9 1 % 100) else if d = 24 then 0 else if k = 3 then nI (ld S (d / 4) (d % 4) / 64) else if k = 4 then nI (d / 4) else if k = 5 then nI (d % 4) else if k = 6 then nI (S 0 (d / 4)) else if k = 7 then nI (S 2 (d / 4)) else 0
/-- the street, who stood, by how much all sag is more, sneezes, held by nobody, fell -/
abbrev hz : Type := jSt × Nat × Nat × Nat × Nat × Nat
def sagZ (i : Nat) (z : hz) : hz := (jset z.1 2 i (z.1 2 i + 1), z.2.1, z.2.2.1 + 1, z.2.2.2.1, z.2.2.2.2.1, z.2.2.2.2.2 + (if z.1 2 i + 1 < 9 then 0 else 1))
def tirS (S : jSt) (w t : Nat) : jSt := jset S 8 w (min 99 (S 8 w + t))
def nxtX (x : Nat) : Nat := (25173 * x + 13849) % 65536
noncomputable def holdZ (L : jLa) (R : Nat → List Nat) (q : Nat) (z : hz) : hz :=
  if whoT z.1 R q (now z.1) = 16 ∨ z.2.1.testBit (whoT z.1 R q (now z.1)) = true then sagZ (q / 4) (z.1, z.2.1, z.2.2.1, z.2.2.2.1, z.2.2.2.2.1 + 1, z.2.2.2.2.2)
  else
    if tirS z.1 (whoT z.1 R q (now z.1)) (amt L (fac z.1 (whoT z.1 R q (now z.1)) q) 116 99) 8 (whoT z.1 R q (now z.1)) = 99 ∨ frl L (fac (tirS z.1 (whoT z.1 R q (now z.1)) (amt L (fac z.1 (whoT z.1 R q (now z.1)) q) 116 99)) (whoT z.1 R q (now z.1)) q) 120 ≠ L.1 then sagZ (q / 4) (tirS z.1 (whoT z.1 R q (now z.1)) (amt L (fac z.1 (whoT z.1 R q (now z.1)) q) 116 99), z.2.1 ||| 2 ^ whoT z.1 R q (now z.1), z.2.2)
    else
      if nxtX (z.1 9 2) % 10 < amt L (fac (tirS z.1 (whoT z.1 R q (now z.1)) (amt L (fac z.1 (whoT z.1 R q (now z.1)) q) 116 99)) (whoT z.1 R q (now z.1)) q) 100 10 then sagZ (q / 4) (jset (tirS z.1 (whoT z.1 R q (now z.1)) (amt L (fac z.1 (whoT z.1 R q (now z.1)) q) 116 99)) 9 2 (nxtX (z.1 9 2)), z.2.1 ||| 2 ^ whoT z.1 R q (now z.1), z.2.2.1, z.2.2.2.1 + 1, z.2.2.2.2)
      else (jset (tirS z.1 (whoT z.1 R q (now z.1)) (amt L (fac z.1 (whoT z.1 R q (now z.1)) q) 116 99)) 9 2 (nxtX (z.1 9 2)), z.2.1 ||| 2 ^ whoT z.1 R q (now z.1), z.2.2)
noncomputable def cornZ (L : jLa) (R : Nat → List Nat) (q : Nat) (z : hz) : hz := if uph z.1 (q / 4) = true then holdZ L R q z else z
noncomputable def restZ (L : jLa) (m : Nat) (z : hz) : hz := if 0 < z.1 7 m ∧ z.2.1.testBit m = false then (jset z.1 8 m (z.1 8 m - amt L (fac z.1 m 24) 121 99), z.2) else z
def tickS (S : jSt) : jSt := if S 9 0 + 1 < 24 then jset S 9 0 (S 9 0 + 1) else jset (jset S 9 0 0) 9 1 (S 9 1 + 1)
noncomputable def midZ (L : jLa) (R : Nat → List Nat) (z : hz) : hz := itf (cornZ L R) (z.1, 0, z.2.2) 24
noncomputable def endZ (L : jLa) (R : Nat → List Nat) (z : hz) : hz := itf (restZ L) (midZ L R z) 16
noncomputable def hourZ (L : jLa) (R : Nat → List Nat) (z : hz) : hz := (tickS (endZ L R z).1, (endZ L R z).2)
/-- what an hour leaves as it is -/
def sm7 (S S' : jSt) : Prop := ∀ k, k ≠ 2 → k ≠ 8 → k ≠ 9 → S' k = S k
theorem sm7_refl (S : jSt) : sm7 S S := fun _ _ _ _ => rfl
theorem sm7_trans {A B C : jSt} (h1 : sm7 A B) (h2 : sm7 B C) : sm7 A C := fun k a b c => by rw [h2 k a b c, h1 k a b c]
theorem sm7_set {S : jSt} {k j v : Nat} (h : k = 2 ∨ k = 8 ∨ k = 9) : sm7 S (jset S k j v) := by
  intro a h1 h2 h3
  funext j'
  unfold jset
  rw [if_neg (by omega)]
theorem ld_sm {S S' : jSt} (h : sm7 S S') (i c : Nat) : ld S' i c = ld S i c := by
  unfold ld tld
  rw [h 0 (by decide) (by decide) (by decide), h 6 (by decide) (by decide) (by decide), h 3 (by decide) (by decide) (by decide), h 4 (by decide) (by decide) (by decide), h 5 (by decide) (by decide) (by decide)]
def smc (S S' : jSt) : Prop := sm7 S S' ∧ S' 9 0 = S 9 0 ∧ S' 9 1 = S 9 1
def hok (z : hz) : Prop := jR z.1 ∧ z.2.1 < 65536
theorem uph_iff (S : jSt) (i : Nat) : uph S i = true ↔ (0 < S 0 i ∧ S 2 i < 9) := by unfold uph; exact decide_eq_true_iff
theorem sagZ_ok {i : Nat} {z : hz} (h : hok z) (hu : uph z.1 i = true) : hok (sagZ i z) := by
  rw [uph_iff] at hu
  exact ⟨jR_set h.1 (by omega), h.2⟩
theorem tirS_R {S : jSt} (h : jR S) (w t : Nat) : jR (tirS S w t) := jR_set h (by omega)
theorem nxtX_lt (x : Nat) : nxtX x < 65536 := Nat.mod_lt _ (by decide)
theorem uph_set8 {S : jSt} {k j v i : Nat} (hk : k = 8 ∨ k = 9) : uph (jset S k j v) i = uph S i := by
  unfold uph jset
  rw [if_neg (by omega), if_neg (by omega)]
theorem holdZ_ok {L : jLa} {R : Nat → List Nat} {q : Nat} {z : hz} (h : hok z) (hu : uph z.1 (q / 4) = true) : hok (holdZ L R q z) := by
  have hor : ∀ w, w < 16 → z.2.1 ||| 2 ^ w < 65536 := fun w hw => Nat.or_lt_two_pow (n := 16) h.2 (Nat.pow_lt_pow_right (a := 2) (by decide) hw)
  unfold holdZ
  by_cases c1 : whoT z.1 R q (now z.1) = 16 ∨ z.2.1.testBit (whoT z.1 R q (now z.1)) = true
  · rw [if_pos c1]
    exact sagZ_ok h hu
  · rw [if_neg c1]
    have hw : whoT z.1 R q (now z.1) < 16 := (whoT_told (fun e => c1 (Or.inl e))).1
    have hR1 := tirS_R h.1 (whoT z.1 R q (now z.1)) (amt L (fac z.1 (whoT z.1 R q (now z.1)) q) 116 99)
    have hu1 : uph (tirS z.1 (whoT z.1 R q (now z.1)) (amt L (fac z.1 (whoT z.1 R q (now z.1)) q) 116 99)) (q / 4) = true := by
      unfold tirS
      rw [uph_set8 (Or.inl rfl)]
      exact hu
    split
    · exact sagZ_ok ⟨hR1, hor _ hw⟩ hu1
    · have hR2 : jR (jset (tirS z.1 (whoT z.1 R q (now z.1)) (amt L (fac z.1 (whoT z.1 R q (now z.1)) q) 116 99)) 9 2 (nxtX (z.1 9 2))) := jR_set hR1 (by have := nxtX_lt (z.1 9 2); omega)
      split
      · exact sagZ_ok ⟨hR2, hor _ hw⟩ (by rw [uph_set8 (Or.inr rfl)]; exact hu1)
      · exact ⟨hR2, hor _ hw⟩
theorem cornZ_ok {L : jLa} {R : Nat → List Nat} {q : Nat} {z : hz} (h : hok z) : hok (cornZ L R q z) := by
  unfold cornZ
  split
  · rename_i c; exact holdZ_ok h c
  · exact h
theorem restZ_ok {L : jLa} {m : Nat} {z : hz} (h : hok z) (hm : m < 16) : hok (restZ L m z) := by
  unfold restZ
  split
  · exact ⟨jR_set h.1 (by have := (h.1.2.2.1 m hm).2; omega), h.2⟩
  · exact h
theorem smc_refl (S : jSt) : smc S S := ⟨sm7_refl S, rfl, rfl⟩
theorem smc_trans {A B C : jSt} (h1 : smc A B) (h2 : smc B C) : smc A C := ⟨sm7_trans h1.1 h2.1, h2.2.1.trans h1.2.1, h2.2.2.trans h1.2.2⟩
theorem smc_set {S : jSt} {k j v : Nat} (h : k = 2 ∨ k = 8 ∨ (k = 9 ∧ j = 2)) : smc S (jset S k j v) := by
  refine ⟨sm7_set (by omega), ?_, ?_⟩
  · unfold jset; rw [if_neg (by omega)]
  · unfold jset; rw [if_neg (by omega)]
theorem holdZ_sm {L : jLa} {R : Nat → List Nat} {q : Nat} {z : hz} : smc z.1 (holdZ L R q z).1 := by
  unfold holdZ
  split
  · exact smc_set (Or.inl rfl)
  · split
    · exact smc_trans (smc_set (Or.inr (Or.inl rfl))) (smc_set (Or.inl rfl))
    · split
      · exact smc_trans (smc_trans (smc_set (Or.inr (Or.inl rfl))) (smc_set (Or.inr (Or.inr ⟨rfl, rfl⟩)))) (smc_set (Or.inl rfl))
      · exact smc_trans (smc_set (Or.inr (Or.inl rfl))) (smc_set (Or.inr (Or.inr ⟨rfl, rfl⟩)))
theorem cornZ_sm {L : jLa} {R : Nat → List Nat} {q : Nat} {z : hz} : smc z.1 (cornZ L R q z).1 := by
  unfold cornZ
  split
  · exact holdZ_sm
  · exact smc_refl _
theorem restZ_sm {L : jLa} {m : Nat} {z : hz} : smc z.1 (restZ L m z).1 := by
  unfold restZ
  split
  · exact smc_set (Or.inr (Or.inl rfl))
  · exact smc_refl _
theorem midZ_ok {L : jLa} {R : Nat → List Nat} {z : hz} (h : jR z.1) : ∀ n, hok (itf (cornZ L R) (z.1, 0, z.2.2) n) ∧ smc z.1 (itf (cornZ L R) (z.1, 0, z.2.2) n).1
  | 0 => ⟨⟨h, by show (0 : Nat) < 65536; decide⟩, smc_refl _⟩
  | n + 1 => by
    obtain ⟨i1, i2⟩ := midZ_ok (L := L) (R := R) h n
    exact ⟨cornZ_ok i1, smc_trans i2 cornZ_sm⟩
theorem restN_ok {S0 : jSt} {L : jLa} {z : hz} (h1 : hok z) (h2 : smc S0 z.1) : ∀ n, n ≤ 16 → hok (itf (restZ L) z n) ∧ smc S0 (itf (restZ L) z n).1
  | 0, _ => ⟨h1, h2⟩
  | n + 1, hn => by
    obtain ⟨i1, i2⟩ := restN_ok (L := L) h1 h2 n (by omega)
    exact ⟨restZ_ok i1 (by omega), smc_trans i2 restZ_sm⟩
theorem midZ_ok2 {L : jLa} {R : Nat → List Nat} {z : hz} (h : jR z.1) : hok (midZ L R z) ∧ smc z.1 (midZ L R z).1 := by
  unfold midZ
  exact midZ_ok h 24
theorem endZ_ok {L : jLa} {R : Nat → List Nat} {z : hz} (h : jR z.1) : hok (endZ L R z) ∧ smc z.1 (endZ L R z).1 := by
  unfold endZ
  have := midZ_ok2 (L := L) (R := R) h
  exact restN_ok this.1 this.2 16 (Nat.le_refl _)
theorem tickS_R {S : jSt} (h : jR S) (hb : now S + 1 < 239976) : jR (tickS S) ∧ now (tickS S) = now S + 1 ∧ sm7 S (tickS S) := by
  obtain ⟨h1, h2, h3, h4, h5, h6⟩ := h
  unfold now at hb
  by_cases c : S 9 0 + 1 < 24
  · have e : tickS S = jset S 9 0 (S 9 0 + 1) := if_pos c
    rw [e]
    refine ⟨⟨fun k hk => ?_, fun k hk => ?_, fun k hk => ?_, ?_, ?_, ?_⟩, ?_, sm7_set (by omega)⟩
    · simpa [jset] using h1 k hk
    · simpa [jset] using h2 k hk
    · simpa [jset] using h3 k hk
    · simpa [jset] using c
    · simpa [jset] using h5
    · simpa [jset] using h6
    · simp [now, jset]; omega
  · have e : tickS S = jset (jset S 9 0 0) 9 1 (S 9 1 + 1) := if_neg c
    rw [e]
    refine ⟨⟨fun k hk => ?_, fun k hk => ?_, fun k hk => ?_, ?_, ?_, ?_⟩, ?_, sm7_trans (sm7_set (by omega)) (sm7_set (by omega))⟩
    · simpa [jset] using h1 k hk
    · simpa [jset] using h2 k hk
    · simpa [jset] using h3 k hk
    · simp [jset]
    · simp [jset]; omega
    · simpa [jset] using h6
    · simp [now, jset]; omega
theorem hourZ_ok {L : jLa} {R : Nat → List Nat} {z : hz} (h : jR z.1) (hb : now z.1 + 1 < 239976) : hok (hourZ L R z) ∧ sm7 z.1 (hourZ L R z).1 ∧ now (hourZ L R z).1 = now z.1 + 1 := by
  have he := endZ_ok (L := L) (R := R) h
  unfold hourZ
  generalize endZ L R z = y at he
  obtain ⟨e1, e2⟩ := he
  have en : now y.1 = now z.1 := by
    unfold now
    rw [e2.2.2, e2.2.1]
  obtain ⟨t1, t2, t3⟩ := tickS_R (S := y.1) e1.1 (by omega)
  exact ⟨⟨t1, e1.2⟩, sm7_trans e2.1 t3, by dsimp only; omega⟩
/-! an hour, in the class -/
theorem jC_9 {o : Nat} {S : jSt} {M : jb_Mi} (h : jC o S M) {j v : Nat} (hj : j < 3) : jC o (jset S 9 j v) (jb_up M o (9 + j) (nI v)) := by
  obtain ⟨c1, c2, c3, c4⟩ := h
  refine ⟨fun k hk => ?_, fun k hk => ?_, fun k hk => ?_, ?_⟩
  · have q := c1 k hk
    rw [jb_up_off (by omega), jb_up_off (by omega), jb_up_off (by omega)]
    simpa [jset] using q
  · have q := c2 k hk
    rw [jb_up_off (by omega), jb_up_off (by omega), jb_up_off (by omega), jb_up_off (by omega)]
    simpa [jset] using q
  · have q := c3 k hk
    rw [jb_up_off (by omega), jb_up_off (by omega)]
    simpa [jset] using q
  · simp only [jb_up_at, jset, true_and]
    rcases (show j = 0 ∨ j = 1 ∨ j = 2 by omega) with rfl | rfl | rfl
    · simp [c4.2.1, c4.2.2]
    · simp [c4.1, c4.2.2]
    · simp [c4.1, c4.2.1]
def wo (w o : Nat) : Prop := (w = 60 ∧ o = 4) ∨ (w = 62 ∧ o = 24)
def hzC (w o : Nat) (z : hz) (M : jb_Mi) : Prop := jC o z.1 M ∧ M w 4 = nI z.2.1 ∧ M w 5 = nI z.2.2.1 ∧ M w 6 = nI z.2.2.2.1 ∧ M w 7 = nI z.2.2.2.2.1 ∧ M w 8 = nI z.2.2.2.2.2 ∧ ∀ q, q < 24 → 0 < z.1 0 (q / 4) → M (w + 1) q = nI (ld z.1 (q / 4) (q % 4))
def hfr (w o : Nat) (M M' : jb_Mi) : Prop := ∀ a, a ≠ 57 → a ≠ 58 → a ≠ 59 → a ≠ w → a ≠ o → a ≠ o + 3 → a ≠ o + 9 → M' a = M a
theorem hfr_refl (w o : Nat) (M : jb_Mi) : hfr w o M M := fun _ _ _ _ _ _ _ _ => rfl
theorem hfr_trans {w o : Nat} {A B C : jb_Mi} (h1 : hfr w o A B) (h2 : hfr w o B C) : hfr w o A C := fun a q1 q2 q3 q4 q5 q6 q7 => by rw [h2 a q1 q2 q3 q4 q5 q6 q7, h1 a q1 q2 q3 q4 q5 q6 q7]
theorem gd3 {α : Type} (x : Option α) : jb_gd 3 10 x = x := jn_gd (j := 3) (by decide) (by decide)
theorem gd5 {α : Type} (x : Option α) : jb_gd 5 10 x = x := jn_gd (j := 5) (by decide) (by decide)
theorem gd6 {α : Type} (x : Option α) : jb_gd 6 10 x = x := jn_gd (j := 6) (by decide) (by decide)
theorem gd7 {α : Type} (x : Option α) : jb_gd 7 10 x = x := jn_gd (j := 7) (by decide) (by decide)
theorem cl3 : (3 : Int32).toNatClampNeg = 3 := by decide
theorem cl5 : (5 : Int32).toNatClampNeg = 5 := by decide
theorem cl6 : (6 : Int32).toNatClampNeg = 6 := by decide
theorem cl7 : (7 : Int32).toNatClampNeg = 7 := by decide
theorem rem100 {a : Nat} (ha : a < 2 ^ 31) : nI a - nI a / 100 * 100 = nI (a % 100) := pk_rem (d := 100) ha (by decide) (by decide)
theorem jc_tell_on {w o : Nat} (hwo : wo w o) {S : jSt} {M : jb_Mi} (hC : jC o S M) (hR : jR S) {m q : Nat} (hm : m < 16) (hq : q < 24) (hl : M (w + 1) q = nI (ld S (q / 4) (q % 4))) : ∃ M', zf_121 w o (nI m) (nI q) M = some M' ∧ (∀ a, a ≠ 58 → M' a = M a) ∧ ∀ k, k < 10 → M' 58 k = fac S m q k := by
  have hd := hR.2.2.2.2.1
  have hll := ld_le hR (i := q / 4) (c := q % 4) (by omega)
  have n8 : o + 8 ≠ 58 := by unfold wo at hwo; omega
  have n9 : o + 9 ≠ 58 := by unfold wo at hwo; omega
  have n1 : o + 1 ≠ 58 := by unfold wo at hwo; omega
  have n3 : o + 3 ≠ 58 := by unfold wo at hwo; omega
  have n0 : o ≠ 58 := by unfold wo at hwo; omega
  have nw : w + 1 ≠ 58 := by unfold wo at hwo; omega
  unfold zf_121
  rw [show zf_23 (nI q) 0 23 = true from jn_wl (l := 0) (k := 23) (Nat.zero_le _) (show q ≤ 23 by omega) (by decide), jb_yes]
  unfold zf_121_J19
  rw [jb_yes, jn_gd hm (by decide), jn_gd hm (by decide), jn_gd hq (by decide)]
  unfold zf_121_J81
  rw [jb_yes, gd3]
  unfold zf_121_J102
  rw [jb_yes, gd5, jn_div (by omega), jn_gd (show q / 4 < 6 by omega) (by decide)]
  unfold zf_121_J125
  rw [jb_yes, gd6, jn_gd (show q / 4 < 6 by omega) (by decide)]
  unfold zf_121_J148
  rw [gd7, nI_clamp (by omega), nI_clamp (by omega), nI_clamp (by omega), cl3, cl5, cl6, cl7]
  simp only [jb_up_off n8, jb_up_off n9, jb_up_off n1, jb_up_off n3, jb_up_off n0, jb_up_off nw, hl, jn_rem' (show q < 2 ^ 31 by omega), (hC.2.2.1 m hm).1, (hC.2.2.1 m hm).2, (hC.1 (q / 4) (by omega)).1, (hC.1 (q / 4) (by omega)).2.2, hC.2.2.2.1, hC.2.2.2.2.1, rem100 (show S 9 1 < 2 ^ 31 by omega), show nI (ld S (q / 4) (q % 4)) / 64 = nI (ld S (q / 4) (q % 4) / 64) from pk_div (d := 64) (by omega) (by decide) (by decide)]
  refine ⟨_, rfl, fun a ha => by simp only [jb_up_off ha], fun k hk => ?_⟩
  unfold fac
  simp only [jb_up_at, true_and]
  rcases (show k = 0 ∨ k = 1 ∨ k = 2 ∨ k = 3 ∨ k = 4 ∨ k = 5 ∨ k = 6 ∨ k = 7 ∨ k = 8 ∨ k = 9 by omega) with rfl | rfl | rfl | rfl | rfl | rfl | rfl | rfl | rfl | rfl <;> simp [show ¬ q = 24 by omega]
theorem jc_tell_off {w o : Nat} (hwo : wo w o) {S : jSt} {M : jb_Mi} (hC : jC o S M) (hR : jR S) {m : Nat} (hm : m < 16) : ∃ M', zf_121 w o (nI m) (-1) M = some M' ∧ (∀ a, a ≠ 58 → M' a = M a) ∧ ∀ k, k < 10 → M' 58 k = fac S m 24 k := by
  have hd := hR.2.2.2.2.1
  have n8 : o + 8 ≠ 58 := by unfold wo at hwo; omega
  have n9 : o + 9 ≠ 58 := by unfold wo at hwo; omega
  have n0 : o ≠ 58 := by unfold wo at hwo; omega
  unfold zf_121
  rw [show zf_23 (-1) 0 23 = false from by unfold zf_23; decide, jb_no]
  unfold zf_121_J19
  rw [jb_no, jn_gd hm (by decide), jn_gd hm (by decide)]
  unfold zf_121_J81
  rw [jb_no, gd3]
  unfold zf_121_J102
  rw [jb_no, gd5]
  unfold zf_121_J125
  rw [jb_no, gd6]
  unfold zf_121_J148
  rw [gd7, nI_clamp (by omega), cl3, cl5, cl6, cl7]
  simp only [jb_up_off n8, jb_up_off n9, jb_up_off n0, (hC.2.2.1 m hm).1, (hC.2.2.1 m hm).2, hC.2.2.2.1, hC.2.2.2.2.1, rem100 (show S 9 1 < 2 ^ 31 by omega)]
  refine ⟨_, rfl, fun a ha => by simp only [jb_up_off ha], fun k hk => ?_⟩
  unfold fac
  simp only [jb_up_at, true_and]
  rcases (show k = 0 ∨ k = 1 ∨ k = 2 ∨ k = 3 ∨ k = 4 ∨ k = 5 ∨ k = 6 ∨ k = 7 ∨ k = 8 ∨ k = 9 by omega) with rfl | rfl | rfl | rfl | rfl | rfl | rfl | rfl | rfl | rfl <;> simp
/-- house i sags -/
theorem jc_sag {w o : Nat} (hwo : wo w o) {z : hz} {M : jb_Mi} (hC : hzC w o z M) (hk : hok z) {i : Nat} (hi : i < 6) (hu : uph z.1 i = true) : ∃ M', zf_120 w o (nI i) M = some M' ∧ hzC w o (sagZ i z) M' ∧ hfr w o M M' := by
  obtain ⟨c1, c2, c3, c4, c5, c6, c7⟩ := hC
  have hR := hk.1
  have hu2 := (uph_iff _ _).mp hu
  have n1 : w ≠ o + 3 := by unfold wo at hwo; omega
  have q := c1.1 i hi
  unfold zf_120
  rw [jc_up c1 hR hi, show decide (0 < z.1 0 i ∧ z.1 2 i < 9) = true from decide_eq_true hu2, Option.bind_some, jb_yes, jn_gd hi (by decide), jn_gd hi (by decide), nI_clamp (by omega), q.2.2, jb_up_off n1, c3, nI_1, nI_1]
  have hC1 : jC o (jset z.1 2 i (z.1 2 i + 1)) (jb_up (jb_up M (o + 3) i (nI (z.1 2 i + 1))) w 5 (nI (z.2.2.1 + 1))) := jC_of (jC_up c1 (k := 2) (j := i) (v := z.1 2 i + 1) (by omega)) (fun a h1 h2 => jb_up_off (by unfold wo at hwo; omega))
  have hR1 := jR_set hR (a := 2) (j := i) (v := z.1 2 i + 1) (by omega)
  have e8 : jb_up (jb_up M (o + 3) i (nI (z.1 2 i + 1))) w 5 (nI (z.2.2.1 + 1)) w 8 = nI z.2.2.2.2.2 := by
    rw [jb_up_at, if_neg (by omega), jb_up_off n1, c6]
  rw [jc_up hC1 hR1 hi, Option.bind_some, e8]
  have e0 : jset z.1 2 i (z.1 2 i + 1) 0 i = z.1 0 i := by unfold jset; rw [if_neg (by omega)]
  have e2 : jset z.1 2 i (z.1 2 i + 1) 2 i = z.1 2 i + 1 := by unfold jset; rw [if_pos ⟨rfl, rfl⟩]
  rw [e0, e2]
  unfold zf_120_J56
  have fin : ∀ x : Int32, x = nI (z.2.2.2.2.2 + (if z.1 2 i + 1 < 9 then 0 else 1)) → hzC w o (sagZ i z) (jb_up (jb_up (jb_up M (o + 3) i (nI (z.1 2 i + 1))) w 5 (nI (z.2.2.1 + 1))) w 8 x) ∧ hfr w o M (jb_up (jb_up (jb_up M (o + 3) i (nI (z.1 2 i + 1))) w 5 (nI (z.2.2.1 + 1))) w 8 x) := by
    intro x hx
    refine ⟨⟨jC_of hC1 (fun a h1 h2 => jb_up_off (by unfold wo at hwo; omega)), ?_, ?_, ?_, ?_, ?_, ?_⟩, ?_⟩
    · rw [jb_up_at, if_neg (by omega), jb_up_at, if_neg (by omega), jb_up_off n1]; exact c2
    · rw [jb_up_at, if_neg (by omega), jb_up_at, if_pos ⟨rfl, rfl⟩]; rfl
    · rw [jb_up_at, if_neg (by omega), jb_up_at, if_neg (by omega), jb_up_off n1]; exact c4
    · rw [jb_up_at, if_neg (by omega), jb_up_at, if_neg (by omega), jb_up_off n1]; exact c5
    · rw [jb_up_at, if_pos ⟨rfl, rfl⟩, hx]; rfl
    · intro j hj h0
      rw [jb_up_off (by omega), jb_up_off (by omega), jb_up_off (by unfold wo at hwo; omega)]
      have es : ld (sagZ i z).1 (j / 4) (j % 4) = ld z.1 (j / 4) (j % 4) := ld_sm (sm7_set (by omega)) _ _
      rw [es]
      refine c7 j hj ?_
      have : (sagZ i z).1 0 (j / 4) = z.1 0 (j / 4) := by
        show jset z.1 2 i (z.1 2 i + 1) 0 (j / 4) = _
        unfold jset; rw [if_neg (by omega)]
      rw [← this]; exact h0
    · intro a q1 q2 q3 q4 q5 q6 q7
      rw [jb_up_off q4, jb_up_off q4, jb_up_off q6]
  by_cases c : z.1 2 i + 1 < 9
  · rw [decide_eq_true ⟨hu2.1, c⟩, jb_yes]
    refine ⟨_, rfl, fin _ ?_⟩
    rw [if_pos c]
    exact nI_add _ 0
  · rw [decide_eq_false (fun y => c y.2), jb_no]
    refine ⟨_, rfl, fin _ ?_⟩
    rw [if_neg c]
    exact nI_add _ 1
