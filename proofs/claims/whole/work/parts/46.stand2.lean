/-! who stands where, in the reference -/
theorem jd_readsRow {k : Nat} (hk : k < 256) (M : jb_Mi) : ∃ M1, zf_241 (nI k) M = some (prm k, M1) ∧ (∀ a, a ≠ 105 → M1 a = M a) ∧ ∀ c, c < 4 → M1 105 c = nI (rwc k c) := by
  have st : ∀ (l c z : Nat) (y y' : Int32) (M' : jb_Mi), l < 256 → c < 4 → y' = nI c + (-1) → zf_241_H7 (nI l, y, nI c, M') = some (.inl (nI (l / 4), y ||| nI (2 ^ (l % 4)), y', jb_up M' 105 c (nI (l % 4)))) := by
    intro l c z y y' M' hl hc hy
    unfold zf_241_H7
    dsimp only
    have h4 : l % 4 < 31 := by omega
    rw [if_neg (nI_pos (by omega)), jn_gd hc (by decide), jn_gd hc (by decide), nI_clamp (by omega), jb_up_at, if_pos ⟨rfl, rfl⟩, jn_rem (by omega), jn_shl _ h4, jn_div (by omega), hy]
  have e0 := st k 3 0 0 (nI 2) M hk (by decide) (by decide)
  have e1 := st (k / 4) 2 0 (0 ||| nI (2 ^ (k % 4))) (nI 1) (jb_up M 105 3 (nI (k % 4))) (by omega) (by decide) (by decide)
  have e2 := st (k / 4 / 4) 1 0 (0 ||| nI (2 ^ (k % 4)) ||| nI (2 ^ (k / 4 % 4))) (nI 0) (jb_up (jb_up M 105 3 (nI (k % 4))) 105 2 (nI (k / 4 % 4))) (by omega) (by decide) (by decide)
  have e3 := st (k / 4 / 4 / 4) 0 0 (0 ||| nI (2 ^ (k % 4)) ||| nI (2 ^ (k / 4 % 4)) ||| nI (2 ^ (k / 4 / 4 % 4))) (-1) (jb_up (jb_up (jb_up M 105 3 (nI (k % 4))) 105 2 (nI (k / 4 % 4))) 105 1 (nI (k / 4 / 4 % 4))) (by omega) (by decide) (by decide)
  refine ⟨jb_up (jb_up (jb_up (jb_up M 105 3 (nI (k % 4))) 105 2 (nI (k / 4 % 4))) 105 1 (nI (k / 4 / 4 % 4))) 105 0 (nI (k / 4 / 4 / 4 % 4)), ?_, ?_, ?_⟩
  · unfold zf_241
    rw [show ((nI k, (0 : Int32), (3 : Int32), M) : Int32 × Int32 × Int32 × jb_Mi) = (nI k, 0, nI 3, M) from rfl, jb_lp_inl e0, jb_lp_inl e1, jb_lp_inl e2, jb_lp_inl e3]
    refine jb_lp_inr ?_
    unfold zf_241_H7
    refine (if_pos (by dsimp only; decide)).trans ?_
    dsimp only
    rw [show (0 : Int32) = nI 0 from rfl, jn_or, jn_or, jn_or, jn_or]
    have hd : ∀ k, k < 256 → (nI (0 ||| 2 ^ (k % 4) ||| 2 ^ (k / 4 % 4) ||| 2 ^ (k / 4 / 4 % 4) ||| 2 ^ (k / 4 / 4 / 4 % 4)) = 15 ↔ prm k = true) := by decide +kernel
    by_cases c : prm k = true
    · rw [if_pos ((hd k hk).mpr c), c]
    · have c' : prm k = false := by simpa using c
      rw [if_neg (fun z => c ((hd k hk).mp z)), c']
  · intro a ha
    rw [jb_up_off ha, jb_up_off ha, jb_up_off ha, jb_up_off ha]
  · intro c hc
    unfold rwc
    rcases (show c = 0 ∨ c = 1 ∨ c = 2 ∨ c = 3 by omega) with rfl | rfl | rfl | rfl
    · simp only [jb_up_at]; simp; congr 1; omega
    · simp only [jb_up_at]; simp; congr 1; omega
    · simp only [jb_up_at]; simp
    · simp only [jb_up_at]; simp
def drS (f : Nat → Nat) (b : Nat × Nat × Nat × Nat) (M : jb_Mi) : Prop := (b.1 = 0 → M 79 50 = 0) ∧ (b.1 ≠ 0 → M 79 49 = nI b.2.1 ∧ M 79 50 = nI b.2.2.1 ∧ ∀ c, c < 4 → M 106 c = nI (f (rwc b.2.2.2 c)))
theorem jl_mul {a b : Nat} (ha : a < 2 ^ 31) (hb : b < 2 ^ 31) : (nI a : Int32).toInt64 * (nI b : Int32).toInt64 = lN (a * b) := by
  rw [nI_l ha, nI_l hb, lN_mul]
theorem jd_better {S : jSt} {M : jb_Mi} (hD : jD 80 S M) (hR : jR S) {i k : Nat} {f : Nat → Nat} {b : Nat × Nat × Nat × Nat} (hi : i < 6) (hk : k < 256) (hf : ∀ j, j < 4 → f j < 16 ∧ 0 < S 7 (f j)) (h105 : ∀ c, c < 4 → M 105 c = nI (rwc k c)) (h104 : ∀ c, c < 4 → M 104 c = nI (f c)) (hb : sdok b) (hc : drS f b M) : zf_242 (nI i) M = some (if b.1 = 0 ∨ (ev S i f k).1 * b.2.2.1 < b.2.1 * (ev S i f k).2 then (true, jb_up (jb_up M 79 49 (nI (ev S i f k).1)) 79 50 (nI (ev S i f k).2)) else (false, M)) := by
  have r4 : ∀ c, rwc k c < 4 := fun c => rwc_lt hk
  obtain ⟨o1, o2, o3⟩ := ev_ok hR hi hk hf
  unfold zf_242
  refine jb_itp (f := zf_242_H7 (nI i) M) (fun (a : Nat × Nat) c => (nI a.1, nI a.2, nI c)) (evG S i f k) (fun _ a => evok a) (0, 1) 4 ⟨by decide, by decide, by decide⟩ ?_ ?_
  · intro c a hc' ha
    refine ⟨?_, evG_ok hR hi hk hf ha⟩
    have hld := ld_le hR (c := c) hi
    obtain ⟨f1, f2⟩ := hf _ (r4 c)
    have f3 := (hR.2.2.1 _ f1).1
    have g1 := hD.2.2.1 _ f1
    obtain ⟨a1, a2, a3⟩ := ha
    have := r4 c
    unfold zf_242_H7 zf_242_J69
    dsimp only
    rw [if_pos (show nI c < 4 from nI_lt (b := 4) hc' (by decide)), jd_load hD hR hi hc', Option.bind_some, jn_gd hc' (by decide), nI_clamp (by omega), h105 c hc', jn_gd (r4 c) (by decide), nI_clamp (by omega), h104 _ (r4 c), show (114 : Int32) + nI (f (rwc k c)) = nI (114 + f (rwc k c)) from jn_addl 114 _, jn_gd (by omega) (by decide), nI_clamp (by omega), g1.1, jl_mul (by omega) (by omega), jl_mul (by omega) (by omega), nI_1]
    have hm1 := mul_lt_b a1 f3
    have hm2 := mul_lt_b hld a3
    unfold evG
    by_cases q : a.1 * S 7 (f (rwc k c)) < ld S i c * a.2
    · rw [if_pos ((lg_cmp_gt _ _).mpr ((lN_lt hm1 hm2).mpr q)), if_pos q]
    · rw [if_neg (fun z => q ((lN_lt hm1 hm2).mp ((lg_cmp_gt _ _).mp z))), if_neg q]
  · rintro z - e
    have e : z = ev S i f k := e
    subst e
    unfold zf_242_H7 zf_242_J104
    refine (if_neg (by dsimp only; decide)).trans ?_
    dsimp only
    by_cases c0 : b.1 = 0
    · rw [hc.1 c0, if_neg (by decide), if_pos (Or.inl c0)]; rfl
    · obtain ⟨g1, g2, -⟩ := hc.2 c0
      obtain ⟨u1, u2, u3, -⟩ := hb c0
      have hm1 := mul_lt_b o1 u3
      have hm2 := mul_lt_b u1 o3
      rw [g1, g2, if_pos (show (0 : Int32) < nI b.2.2.1 from nI_lt (a := 0) (by omega) (by omega)), jl_mul (by omega) (by omega), jl_mul (by omega) (by omega)]
      by_cases q : (ev S i f k).1 * b.2.2.1 < b.2.1 * (ev S i f k).2
      · rw [if_pos ((lg_cmp_lt _ _).mpr ((lN_lt hm1 hm2).mpr q)), if_pos (Or.inr q)]; rfl
      · rw [if_neg (fun z => q ((lN_lt hm1 hm2).mp ((lg_cmp_lt _ _).mp z))), if_neg (fun z => z.elim c0 q)]
/-! the greatest divisor -/
theorem jd_gcd : ∀ (b a : Nat), a < 2 ^ 31 → b < 2 ^ 31 → jb_lp zf_240_H4 (nI a, nI b) = some (nI (Nat.gcd a b)) := by
  intro b
  induction b using Nat.strongRecOn with
  | ind b ih =>
    intro a ha hb
    by_cases c : b = 0
    · subst c
      rw [Nat.gcd_zero_right]
      refine jb_lp_inr ?_
      unfold zf_240_H4
      exact if_pos (by dsimp only; rfl)
    · have st : zf_240_H4 (nI a, nI b) = some (.inl (nI b, nI (a % b))) := by
        unfold zf_240_H4 jb_g0
        dsimp only
        rw [if_neg (nI_ne0 (by omega) hb), if_neg (nI_ne0 (by omega) hb), pk_rem ha (by omega) hb]
      have hlt : a % b < b := Nat.mod_lt _ (by omega)
      rw [jb_lp_inl st, ih (a % b) hlt b hb (by omega), Nat.gcd_comm b (a % b), ← Nat.gcd_rec b a, Nat.gcd_comm]
theorem jc_gcd : ∀ (n a b t : Nat), a < 2 ^ 31 → b < 2 ^ n → n ≤ 30 → t + 2 * n + 1 < 64 → jb_lp zf_144_H7 (nI a, nI b, nI t) = some (nI (Nat.gcd a b)) := by
  intro n
  induction n with
  | zero =>
    intro a b t ha hb hn ht
    have c : b = 0 := by omega
    subst c
    rw [Nat.gcd_zero_right]
    refine jb_lp_inr ?_
    unfold zf_144_H7
    exact (if_pos (show nI t < 64 from nI_lt (b := 64) (by omega) (by decide))).trans (if_pos (by dsimp only; rfl))
  | succ n ih =>
    intro a b t ha hb hn ht
    have hp : 2 ^ (n + 1) ≤ 2 ^ 30 := Nat.pow_le_pow_right (by decide) hn
    have hbb : b < 2 ^ 31 := by omega
    have z0 : ∀ (a t : Nat), t < 64 → jb_lp zf_144_H7 (nI a, nI 0, nI t) = some (nI a) := by
      intro a t ht
      refine jb_lp_inr ?_
      unfold zf_144_H7
      exact (if_pos (show nI t < 64 from nI_lt (b := 64) ht (by decide))).trans (if_pos (by dsimp only; rfl))
    have st : ∀ (a b t : Nat), a < 2 ^ 31 → 0 < b → b < 2 ^ 31 → t < 64 → zf_144_H7 (nI a, nI b, nI t) = some (.inl (nI b, nI (a % b), nI (t + 1))) := by
      intro a b t ha h0 hb ht
      unfold zf_144_H7 jb_g0
      dsimp only
      rw [if_pos (show nI t < 64 from nI_lt (b := 64) ht (by decide)), if_neg (nI_ne0 h0 hb), if_neg (nI_ne0 h0 hb), pk_rem ha h0 hb, nI_1]
    by_cases c : b = 0
    · subst c
      rw [Nat.gcd_zero_right, z0 a t (by omega)]
    · have hlt : a % b < b := Nat.mod_lt _ (by omega)
      have g1 : Nat.gcd a b = Nat.gcd b (a % b) := by rw [Nat.gcd_comm b (a % b), ← Nat.gcd_rec b a, Nat.gcd_comm]
      rw [jb_lp_inl (st a b t ha (by omega) hbb (by omega)), g1]
      by_cases c2 : a % b = 0
      · rw [c2, Nat.gcd_zero_right, z0 b (t + 1) (by omega)]
      · have hlt2 : b % (a % b) < a % b := Nat.mod_lt _ (by omega)
        have hle : b % (a % b) + (a % b) ≤ b := by
          have h1 := Nat.div_add_mod b (a % b)
          have h2 : 1 ≤ b / (a % b) := Nat.div_pos (by omega) (by omega)
          have h3 : (a % b) * 1 ≤ (a % b) * (b / (a % b)) := Nat.mul_le_mul_left _ h2
          omega
        have g2 : Nat.gcd b (a % b) = Nat.gcd (a % b) (b % (a % b)) := by rw [Nat.gcd_comm (a % b) (b % (a % b)), ← Nat.gcd_rec (a % b) b, Nat.gcd_comm]
        have hp2 : 2 ^ (n + 1) = 2 * 2 ^ n := by rw [Nat.pow_succ, Nat.mul_comm]
        rw [jb_lp_inl (st b (a % b) (t + 1) hbb (by omega) (by omega) (by omega)), g2, ih (a % b) (b % (a % b)) (t + 1 + 1) (by omega) (by omega) (by omega) (by omega)]
/-- what stand answers -/
noncomputable def stA (f : Nat → Nat) (b : Nat × Nat × Nat × Nat) (w : Nat) : Int32 := if w < 4 then nI (f (rwc b.2.2.2 w)) else if w = 4 then nI (b.2.1 / Nat.gcd b.2.1 b.2.2.1) else nI (b.2.2.1 / Nat.gcd b.2.1 b.2.2.1)
theorem gcd_ok {b : Nat × Nat × Nat × Nat} (h : b.1 ≠ 0) (hb : sdok b) : 0 < Nat.gcd b.2.1 b.2.2.1 ∧ Nat.gcd b.2.1 b.2.2.1 ≤ 99 := by
  obtain ⟨u1, u2, u3, u4⟩ := hb h
  exact ⟨Nat.gcd_pos_of_pos_right _ u2, Nat.le_trans (Nat.gcd_le_right _ u2) u3⟩
theorem jd_rows {S : jSt} {M : jb_Mi} (hD : jD 80 S M) (hR : jR S) {i w : Nat} {f : Nat → Nat} (hi : i < 6) (hw : w < 6) (hf : ∀ j, j < 4 → f j < 16 ∧ 0 < S 7 (f j)) (h104 : ∀ c, c < 4 → M 104 c = nI (f c)) (h50 : M 79 50 = 0) : ∃ M1, jb_lp (zf_243_H103 (nI i) (nI w)) (0, M) = some (stA f (sd S i f 256) w, M1) ∧ (∀ a, a ≠ 79 → a ≠ 105 → a ≠ 106 → M1 a = M a) ∧ ∀ j, j ≠ 49 → j ≠ 50 → M1 79 j = M 79 j := by
  obtain ⟨x, h1, M1, h2, h3, h4⟩ := jb_inv (f := zf_243_H103 (nI i) (nI w)) (fun n s => ∃ k M', k + n = 256 ∧ s = (nI k, M') ∧ ((∀ a, a ≠ 79 → a ≠ 105 → a ≠ 106 → M' a = M a) ∧ ∀ j, j ≠ 49 → j ≠ 50 → M' 79 j = M 79 j) ∧ drS f (sd S i f k) M') (fun x => ∃ M1, x = (stA f (sd S i f 256) w, M1) ∧ (∀ a, a ≠ 79 → a ≠ 105 → a ≠ 106 → M1 a = M a) ∧ ∀ j, j ≠ 49 → j ≠ 50 → M1 79 j = M 79 j) (by
    rintro n s ⟨k, M', hn, rfl, ⟨h1, h1b⟩, h2⟩
    unfold zf_243_H103 zf_243_J165
    dsimp only
    by_cases c : k < 256
    · left
      obtain ⟨M2, r1, r2, r3⟩ := jd_readsRow c M'
      rw [if_pos (show nI k < 256 from nI_lt (b := 256) c (by decide)), r1, Option.bind_some, nI_1]
      dsimp only
      have e : sd S i f (k + 1) = sdG S i f k (sd S i f k) := rfl
      have d2 : drS f (sd S i f k) M2 := by
        unfold drS at h2 ⊢
        rw [r2 79 (by decide), r2 106 (by decide)]
        exact h2
      by_cases hpr : prm k = true
      · rw [hpr, jb_yes, jd_better (jD_of hD (by rw [r2 80 (by decide), h1 80 (by decide) (by decide) (by decide)])) hR hi c hf r3 (fun c hc => by rw [r2 104 (by decide), h1 104 (by decide) (by decide) (by decide), h104 c hc]) (sd_ok hR hi hf k (by omega)) d2, Option.bind_some]
        by_cases q : (sd S i f k).1 = 0 ∨ (ev S i f k).1 * (sd S i f k).2.2.1 < (sd S i f k).2.1 * (ev S i f k).2
        · rw [if_pos q]
          dsimp only
          rw [jb_yes]
          obtain ⟨x, y1, M4, rfl, y2, y3⟩ := jb_inv (f := zf_243_H134 (nI i) (nI w) (nI k)) (fun n s => ∃ c M4, c + n = 4 ∧ s = (nI c, M4) ∧ (∀ a, a ≠ 106 → M4 a = jb_up (jb_up M2 79 49 (nI (ev S i f k).1)) 79 50 (nI (ev S i f k).2) a) ∧ ∀ j, j < c → M4 106 j = nI (f (rwc k j))) (fun x => ∃ M4, x = .inl (nI (k + 1), M4) ∧ (∀ a, a ≠ 106 → M4 a = jb_up (jb_up M2 79 49 (nI (ev S i f k).1)) 79 50 (nI (ev S i f k).2) a) ∧ ∀ j, j < 4 → M4 106 j = nI (f (rwc k j))) (by
            rintro n s ⟨d, M4, hn, rfl, y1, y2⟩
            unfold zf_243_H134 zf_243_J165
            dsimp only
            by_cases cd : d < 4
            · have r4 := rwc_lt (c := d) c
              refine Or.inl ⟨n - 1, (nI (d + 1), jb_up M4 106 d (nI (f (rwc k d)))), by omega, ?_, d + 1, jb_up M4 106 d (nI (f (rwc k d))), by omega, rfl, ?_, ?_⟩
              · rw [if_pos (show nI d < 4 from nI_lt (b := 4) cd (by decide)), jn_gd cd (by decide), nI_clamp (by omega), y1 105 (by decide), jb_up_off (by decide), jb_up_off (by decide), r3 d cd, jn_gd r4 (by decide), nI_clamp (by omega), y1 104 (by decide), jb_up_off (by decide), jb_up_off (by decide), r2 104 (by decide), h1 104 (by decide) (by decide) (by decide), h104 _ r4, jn_gd cd (by decide), nI_1]
              · intro a ha
                rw [jb_up_off ha, y1 a ha]
              · intro j hj
                rw [jb_up_at]
                by_cases q : j = d
                · rw [if_pos ⟨rfl, q⟩, q]
                · rw [if_neg (fun z => q z.2)]
                  exact y2 j (by omega)
            · have e : d = 4 := by omega
              subst e
              refine Or.inr ⟨_, ?_, M4, rfl, y1, y2⟩
              rw [if_neg (by decide), nI_1]
              rfl) 4 (nI 0, jb_up (jb_up M2 79 49 (nI (ev S i f k).1)) 79 50 (nI (ev S i f k).2)) ⟨0, _, by omega, rfl, fun _ _ => rfl, fun j hj => by omega⟩
          refine ⟨n - 1, (nI (k + 1), M4), by omega, y1, k + 1, M4, by omega, rfl, ⟨?_, ?_⟩, ?_⟩
          · intro a q1 q2 q3
            rw [y2 a q3, jb_up_off q1, jb_up_off q1, r2 a q2, h1 a q1 q2 q3]
          · intro j q1 q2
            rw [y2 79 (by decide), jb_up_at, if_neg (fun z => q2 z.2), jb_up_at, if_neg (fun z => q1 z.2), r2 79 (by decide), h1b j q1 q2]
          · rw [e]
            unfold sdG
            rw [if_pos ⟨hpr, q⟩]
            refine ⟨fun z => absurd z (show ¬ (1 : Nat) = 0 by decide), fun _ => ⟨?_, ?_, y3⟩⟩
            · rw [y2 79 (by decide)]; simp [jb_up_at]
            · rw [y2 79 (by decide)]; simp [jb_up_at]
        · rw [if_neg q]
          dsimp only
          rw [jb_no]
          refine ⟨n - 1, (nI (k + 1), M2), by omega, rfl, k + 1, M2, by omega, rfl, ⟨fun a q1 q2 q3 => by rw [r2 a q2, h1 a q1 q2 q3], fun j q1 q2 => by rw [r2 79 (by decide), h1b j q1 q2]⟩, ?_⟩
          rw [e]
          unfold sdG
          rw [if_neg (fun z => q z.2)]
          exact d2
      · have hpr' : prm k = false := by simpa using hpr
        rw [hpr', jb_no]
        refine ⟨n - 1, (nI (k + 1), M2), by omega, rfl, k + 1, M2, by omega, rfl, ⟨fun a q1 q2 q3 => by rw [r2 a q2, h1 a q1 q2 q3], fun j q1 q2 => by rw [r2 79 (by decide), h1b j q1 q2]⟩, ?_⟩
        rw [e]
        unfold sdG
        rw [if_neg (fun z => hpr z.1)]
        exact d2
    · have e : k = 256 := by omega
      subst e
      right
      have hh : (sd S i f 256).1 ≠ 0 := sd_has 228
      have ho := sd_ok hR hi hf 256 (Nat.le_refl _)
      obtain ⟨g1, g2, g3⟩ := h2.2 hh
      obtain ⟨p1, p2⟩ := gcd_ok hh ho
      obtain ⟨u1, u2, u3, u4⟩ := ho hh
      refine ⟨_, ?_, M', rfl, h1, h1b⟩
      rw [if_neg (by decide)]
      unfold zf_240
      rw [g1, g2, jd_gcd _ _ (by omega) (by omega), Option.bind_some]
      unfold jb_g0 stA
      simp only [show (nI w < 4) = (w < 4) from jn_lt (b := 4) (by omega) (by decide), show (nI w = 4) = (w = 4) from jn_eq (b := 4) (by omega) (by decide)]
      by_cases cw : w < 4
      · rw [if_pos cw, if_pos cw, jn_gd cw (by decide), nI_clamp (by omega), g3 w cw]
      · rw [if_neg cw, if_neg cw, if_neg (nI_ne0 p1 (by omega)), if_neg (nI_ne0 p1 (by omega)), pk_div (by omega) p1 (by omega), pk_div (by omega) p1 (by omega)]
        split <;> rfl) 256 (nI 0, M) ⟨0, M, by omega, rfl, ⟨fun _ _ _ _ => rfl, fun _ _ _ => rfl⟩, fun _ => h50, fun z => absurd rfl z⟩
  exact ⟨M1, by rw [show ((0 : Int32), M) = (nI 0, M) from rfl, h1, h2], h3, h4⟩
