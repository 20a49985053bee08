/-! where a man stands -/
def ff (p : Nat → Bool) : Nat → Nat → Nat
  | q, 0 => q
  | q, n + 1 => bif p q then q else ff p (q + 1) n
def cf (p : Nat → Bool) : Nat → Nat → Nat
  | _, 0 => 0
  | q, n + 1 => (bif p q then 1 else 0) + cf p (q + 1) n
theorem ff_le (p : Nat → Bool) : ∀ n q, q ≤ ff p q n ∧ ff p q n ≤ q + n
  | 0, q => ⟨Nat.le_refl _, Nat.le_refl _⟩
  | n + 1, q => by
    have := ff_le p n (q + 1)
    simp only [ff]
    cases p q
    · simp only [cond_false]; omega
    · simp only [cond_true]; omega
theorem cf_0 (p : Nat → Bool) : ∀ n q, (cf p q n = 0) = (ff p q n = q + n)
  | 0, q => by simp [cf, ff]
  | n + 1, q => by
    simp only [cf, ff]
    cases p q
    · simp only [cond_false, Nat.zero_add]; rw [cf_0 p n (q + 1)]; congr 1; omega
    · simp only [cond_true]; refine propext ⟨fun h => by omega, fun h => by omega⟩
theorem cf_1 (p : Nat → Bool) : ∀ n q, ff p q n < q + n → cf p q n = 1 + cf p (ff p q n + 1) (q + n - ff p q n - 1)
  | 0, q => by intro h; simp [ff] at h
  | n + 1, q => by
    simp only [cf, ff]
    cases p q
    · simp only [cond_false, Nat.zero_add]
      intro h
      rw [cf_1 p n (q + 1) (by omega)]
      congr 2
      omega
    · simp only [cond_true]
      intro _
      congr 2
      omega
/-- where a man stands in an hour: corners that are his -/
def his (S : jSt) (R : Nat → List Nat) (m k q : Nat) : Bool := decide (0 < S 0 (q / 4) ∧ S 2 (q / 4) < 9 ∧ whoT S R q (now S + k) = m)
noncomputable def enq (q : Nat) : Int32 := if q = 24 then (-2) else nI q
theorem enc_man {x : Int32} (hx : ∀ a, a < 2 ^ 31 → (nI a = x) = False) {a m : Nat} (ha : a ≤ 16) (hm : m < 16) : (enc x a = nI m) = (a = m) := by
  have h := enc_eq hx ha (show m ≤ 16 by omega)
  rw [← h]
  unfold enc
  rw [if_neg (show ¬ m = 16 by omega)]
theorem jc_next {S : jSt} {R : Nat → List Nat} {M : jb_Mi} (hC : jC 4 S M) (hR : jR S) (hr : jRo R M) {m k : Nat} (hm : m < 16) (hk : k ≤ 24) : ∀ n q, q + n = 24 → zf_38 (nI m) (zf_14 4 M + nI k) (nI q) M = some (enq (ff (his S R m k) q n)) := by
  obtain ⟨-, -, -, t1, t2, -⟩ := id hR
  intro n
  induction n with
  | zero =>
    intro q hq
    unfold zf_38
    have e : q = 24 := by omega
    subst e
    refine jb_lp_inr ?_
    unfold zf_38_H3
    rw [if_neg (by decide)]
    rfl
  | succ n ih =>
    intro q hq
    have h1 := ih (q + 1) (by omega)
    have hb : zf_38_H3 (nI m) (zf_14 4 M + nI k) M (nI q) = if his S R m k q = true then some (.inr (nI q)) else some (.inl (nI (q + 1))) := by
      unfold zf_38_H3 zf_38_J38
      rw [if_pos (show nI q < 24 from nI_lt (b := 24) (by omega) (by decide)), jn_div (by omega), jc_up hC hR (by omega), Option.bind_some, jc_time hC, nI_add, jc_has hC hR hr (by omega) (by unfold now; omega), Option.bind_some, nI_1]
      unfold his
      by_cases c1 : 0 < S 0 (q / 4) ∧ S 2 (q / 4) < 9
      · by_cases c2 : whoT S R q (now S + k) = m
        · have : enc (-2) m = nI m := by unfold enc; rw [if_neg (by omega)]
          simp [c1, this, jn_b, c2]
        · have : ¬ enc (-2) (whoT S R q (now S + k)) = nI m := by rw [enc_man m2x (whoT_le _ _ _ _) hm]; exact c2
          simp [c1, this, jn_b, c2]
      · have : ¬ (0 < S 0 (q / 4) ∧ S 2 (q / 4) < 9 ∧ whoT S R q (now S + k) = m) := fun h => c1 ⟨h.1, h.2.1⟩
        simp [c1, jn_b, this]
    unfold zf_38 at h1 ⊢
    simp only [ff]
    cases c : his S R m k q
    · rw [jb_lp_inl (s' := nI (q + 1)) (by rw [hb, c]; rfl), h1]; rfl
    · rw [jb_lp_inr (x := nI q) (by rw [hb, c]; rfl)]
      simp only [cond_true, enq]
      rw [if_neg (by omega)]
theorem jd_body {S : jSt} {R : Nat → List Nat} {M : jb_Mi} (hD : jD 80 S M) (hR : jR S) (hr : jRo R M) {m k q : Nat} (hm : m < 16) (hk : k ≤ 24) (hq : q < 24) {α : Type} (a b : Option α) : ((zf_172 (nI q / 4) M).bind fun q1 => if jb_b2i q1 = 0 then b else (zf_216 (nI q) (nI k) M).bind fun q2 => if q2 = nI m then a else b) = if his S R m k q = true then a else b := by
  rw [jn_div (by omega), jd_up hD hR (by omega), Option.bind_some, jd_has hD hR hr hq hk, Option.bind_some]
  unfold his
  by_cases c1 : 0 < S 0 (q / 4) ∧ S 2 (q / 4) < 9
  · by_cases c2 : whoT S R q (now S + k) = m
    · have : enc (-1) m = nI m := by unfold enc; rw [if_neg (by omega)]
      simp [c1, this, jn_b, c2]
    · have : ¬ enc (-1) (whoT S R q (now S + k)) = nI m := by rw [enc_man m1x (whoT_le _ _ _ _) hm]; exact c2
      simp [c1, this, jn_b, c2]
  · have : ¬ (0 < S 0 (q / 4) ∧ S 2 (q / 4) < 9 ∧ whoT S R q (now S + k) = m) := fun h => c1 ⟨h.1, h.2.1⟩
    simp [c1, jn_b, this]
theorem jd_corner {S : jSt} {R : Nat → List Nat} {M : jb_Mi} (hD : jD 80 S M) (hR : jR S) (hr : jRo R M) {m k : Nat} (hm : m < 16) (hk : k ≤ 24) : ∀ n q, q + n = 24 → jb_lp (zf_236_H2 (nI m) (nI k) M) (nI q) = some (enq (ff (his S R m k) q n)) := by
  intro n
  induction n with
  | zero =>
    intro q hq
    have e : q = 24 := by omega
    subst e
    refine jb_lp_inr ?_
    unfold zf_236_H2
    rw [if_neg (by decide)]
    rfl
  | succ n ih =>
    intro q hq
    have h1 := ih (q + 1) (by omega)
    have hb : zf_236_H2 (nI m) (nI k) M (nI q) = if his S R m k q = true then some (.inr (nI q)) else some (.inl (nI (q + 1))) := by
      unfold zf_236_H2 zf_236_J30
      rw [if_pos (show nI q < 24 from nI_lt (b := 24) (by omega) (by decide)), nI_1]
      exact jd_body hD hR hr hm hk (by omega) _ _
    simp only [ff]
    cases c : his S R m k q
    · rw [jb_lp_inl (s' := nI (q + 1)) (by rw [hb, c]; rfl), h1]; rfl
    · rw [jb_lp_inr (x := nI q) (by rw [hb, c]; rfl)]
      simp only [cond_true, enq]
      rw [if_neg (by omega)]
theorem jd_corners {S : jSt} {R : Nat → List Nat} {M : jb_Mi} (hD : jD 80 S M) (hR : jR S) (hr : jRo R M) {m k : Nat} (hm : m < 16) (hk : k ≤ 24) : ∀ n q a, q + n = 24 → jb_lp (zf_237_H5 (nI m) (nI k) M) (nI a, nI q) = some (nI (a + cf (his S R m k) q n)) := by
  intro n
  induction n with
  | zero =>
    intro q a hq
    have e : q = 24 := by omega
    subst e
    refine jb_lp_inr ?_
    unfold zf_237_H5
    rw [if_neg (by dsimp only; decide)]
    rfl
  | succ n ih =>
    intro q a hq
    have hb : zf_237_H5 (nI m) (nI k) M (nI a, nI q) = if his S R m k q = true then some (.inl (nI (a + 1), nI (q + 1))) else some (.inl (nI a, nI (q + 1))) := by
      unfold zf_237_H5 zf_237_J38
      dsimp only
      rw [if_pos (show nI q < 24 from nI_lt (b := 24) (by omega) (by decide)), nI_1, nI_1]
      exact jd_body hD hR hr hm hk (by omega) _ _
    simp only [cf]
    cases c : his S R m k q
    · rw [jb_lp_inl (s' := (nI a, nI (q + 1))) (by rw [hb, c]; rfl), ih (q + 1) a (by omega)]; simp
    · rw [jb_lp_inl (s' := (nI (a + 1), nI (q + 1))) (by rw [hb, c]; rfl), ih (q + 1) (a + 1) (by omega)]; simp only [cond_true]; rw [Nat.add_assoc]
theorem cf_le (p : Nat → Bool) : ∀ n q, cf p q n ≤ n
  | 0, q => Nat.le_refl _
  | n + 1, q => by
    have := cf_le p n (q + 1)
    simp only [cf]
    cases p q
    · simp only [cond_false]; omega
    · simp only [cond_true]; omega
theorem enq_neg {q : Nat} (h : q ≤ 24) : (enq q < 0) = (q = 24) := by
  unfold enq
  by_cases c : q = 24
  · rw [if_pos c]; simp [c]
  · rw [if_neg c, jn_n0 (by omega)]; exact (eq_false c).symm
noncomputable def twG (S : jSt) (R : Nat → List Nat) (m k : Nat) (a : Int32) : Int32 := if 1 < cf (his S R m k) 0 24 then a + 1 else a
noncomputable def shG (S : jSt) (R : Nat → List Nat) (m k : Nat) (a : Int32) : Int32 := if ff (his S R m k) 0 24 = 24 then a else a + nI (S 0 (ff (his S R m k) 0 24 / 4))
theorem ca_manIs {n : Nat} {M : jb_Mi} {N : jb_Ml} (hn : n < 512) (h : jInv n M N) (a1 a2 : Int32) : ∃ (r : Int32), zf_138 a1 a2 M = some r ∧ zf_238 a1 a2 M = some r ∧ jInv (n + 1) M N := by
  obtain ⟨⟨S, hC, hD, hR, hT⟩, -, -, ⟨R, hr⟩, -⟩ := id h
  obtain ⟨-, -, -, t1, t2, -⟩ := id hR
  unfold zf_138 zf_238
  rcases jx_man hC hD hR a1 with ⟨e1, e2⟩ | ⟨m, hm, rfl, hs, e1, e2⟩
  · exact ⟨_, by rw [e1]; rfl, by rw [e2]; rfl, jInv_mono h⟩
  have h1 := hC.2.2.1 m hm
  have h2 := hD.2.2.1 m hm
  have f39 : ∀ k, k ≤ 24 → zf_39 (nI m) (zf_14 4 M + nI k) M = some (enq (ff (his S R m k) 0 24)) := by
    intro k hk
    unfold zf_39
    rw [show zf_38 (nI m) (zf_14 4 M + nI k) 0 M = _ from jc_next hC hR hr hm hk 24 0 (by omega)]
    rfl
  have f40 : zf_40 (nI m) M = some (itf (twG S R m) 0 24) := by
    unfold zf_40
    refine jb_it (f := zf_40_H4 (nI m) M) (fun (a : Int32) k => (a, nI k)) (twG S R m) 0 24 ?_ ?_
    · intro k a hk
      have hle := (ff_le (his S R m k) 24 0).2
      unfold zf_40_H4 zf_40_J54 zf_40_J55
      dsimp only
      rw [if_pos (show nI k < 24 from nI_lt (b := 24) (by omega) (by decide)), f39 k (by omega), Option.bind_some]
      unfold twG
      by_cases c : ff (his S R m k) 0 24 = 24
      · rw [if_pos (by rw [enq_neg (by omega)]; exact c)]
        have : cf (his S R m k) 0 24 = 0 := by rw [cf_0]; omega
        rw [this]
        simp [nI_1]
      · rw [if_neg (by rw [enq_neg (by omega)]; exact c)]
        have e3 : enq (ff (his S R m k) 0 24) + 1 = nI (ff (his S R m k) 0 24 + 1) := by
          unfold enq
          rw [if_neg c, nI_1]
        rw [e3, jc_next hC hR hr hm (by omega) (24 - ff (his S R m k) 0 24 - 1) _ (by omega), Option.bind_some]
        have hle2 := ff_le (his S R m k) (24 - ff (his S R m k) 0 24 - 1) (ff (his S R m k) 0 24 + 1)
        have hc1 := cf_1 (his S R m k) 24 0 (by omega)
        have hc0 := cf_0 (his S R m k) (24 - ff (his S R m k) 0 24 - 1) (ff (his S R m k) 0 24 + 1)
        simp only [Nat.zero_add] at hc1
        by_cases c2 : ff (his S R m k) (ff (his S R m k) 0 24 + 1) (24 - ff (his S R m k) 0 24 - 1) = 24
        · rw [if_pos (by rw [enq_neg (by omega)]; exact c2)]
          have : cf (his S R m k) (ff (his S R m k) 0 24 + 1) (24 - ff (his S R m k) 0 24 - 1) = 0 := by rw [hc0]; omega
          rw [hc1, this]
          simp [nI_1]
        · rw [if_neg (by rw [enq_neg (by omega)]; exact c2)]
          have : ¬ cf (his S R m k) (ff (his S R m k) 0 24 + 1) (24 - ff (his S R m k) 0 24 - 1) = 0 := by rw [hc0]; omega
          rw [if_pos (by omega), nI_1]
    · generalize itf (twG S R m) 0 24 = v
      unfold zf_40_H4
      exact if_neg (by dsimp only; decide)
  have f41 : zf_41 (nI m) M = some (itf (shG S R m) 0 24) := by
    unfold zf_41
    refine jb_it (f := zf_41_H4 (nI m) M) (fun (a : Int32) k => (a, nI k)) (shG S R m) 0 24 ?_ ?_
    · intro k a hk
      have hle := (ff_le (his S R m k) 24 0).2
      unfold zf_41_H4 zf_41_J48
      dsimp only
      rw [if_pos (show nI k < 24 from nI_lt (b := 24) (by omega) (by decide)), f39 k (by omega), Option.bind_some]
      unfold shG
      by_cases c : ff (his S R m k) 0 24 = 24
      · rw [if_pos (by rw [enq_neg (by omega)]; exact c), if_pos c]
        simp [nI_1]
      · rw [if_neg (by rw [enq_neg (by omega)]; exact c), if_neg c]
        unfold enq
        rw [if_neg c, jn_div (by omega), jn_gd (by omega) (by decide), nI_clamp (by omega), (hC.1 _ (by omega)).1, nI_1]
    · generalize itf (shG S R m) 0 24 = v
      unfold zf_41_H4
      exact if_neg (by dsimp only; decide)
  have hloop : ∀ b, jb_lp (zf_238_H71 (nI m) (nI b) M) (0, 0, 0) = some (if nI b = 3 then itf (twG S R m) 0 24 else itf (shG S R m) 0 24) := by
    intro b
    refine jb_it (f := zf_238_H71 (nI m) (nI b) M) (fun (a : Int32 × Int32) k => (a.1, a.2, nI k)) (fun k a => (twG S R m k a.1, shG S R m k a.2)) (0, 0) 24 ?_ ?_
    · intro k a hk
      have hle := (ff_le (his S R m k) 24 0).2
      have hcl := cf_le (his S R m k) 24 0
      unfold zf_238_H71 zf_238_J108 zf_238_J123
      dsimp only
      rw [if_pos (show nI k < 24 from nI_lt (b := 24) (by omega) (by decide))]
      rw [show zf_236 (nI m) (nI k) M = _ from jd_corner hD hR hr hm (by omega) 24 0 (by omega), Option.bind_some]
      rw [show zf_237 (nI m) (nI k) M = _ from jd_corners hD hR hr hm (by omega) 24 0 0 (by omega)]
      simp only [Option.bind_some, Nat.zero_add]
      have e5 : ((1 : Int32) < nI (cf (his S R m k) 0 24)) = (1 < cf (his S R m k) 0 24) := jn_lt (a := 1) (by decide) (by omega)
      simp only [e5]
      unfold twG shG
      by_cases c : ff (his S R m k) 0 24 = 24
      · rw [if_pos (by rw [enq_neg (by omega)]; exact c)]
        by_cases c2 : 1 < cf (his S R m k) 0 24
        · simp [c, c2, nI_1]
        · simp [c, c2, nI_1]
      · rw [if_neg (by rw [enq_neg (by omega)]; exact c)]
        have e6 : enq (ff (his S R m k) 0 24) / 4 = nI (ff (his S R m k) 0 24 / 4) := by
          unfold enq
          rw [if_neg c, jn_div (by omega)]
        rw [e6]
        simp (disch := omega) only [jn_ltl, jn_gtl, jn_lt, jn_eq, jn_eql, jn_eqr, jn_addl, jn_addr, nI_add, jn_gd, nI_clamp, jn_n0, jn_0n, jn_m1, jn_b, jn_clz, jn_mul, jn_mull, jn_mulr, jn_wl, if_true, if_false, Bool.true_eq_false, Bool.false_eq_true, Nat.zero_add, (hD.1 _ (show ff (his S R m k) 0 24 / 4 < 6 by omega)).1]
        by_cases c2 : 1 < cf (his S R m k) 0 24
        · simp [c, c2]
        · simp [c, c2]
    · unfold zf_238_H71
      refine (if_neg (by dsimp only; decide)).trans ?_
      rw [itf_prod (twG S R m) (shG S R m)]
      simp only [jb_is]
      congr 1
      repeat' (first | rfl | split)
  have g0 : zf_39 (nI m) (zf_14 4 M) M = some (enq (ff (his S R m 0) 0 24)) := by have := f39 0 (by omega); rwa [show zf_14 4 M + nI 0 = zf_14 4 M by rw [jc_time hC, nI_add]; rfl] at this
  have g1 : zf_236 (nI m) 0 M = some (enq (ff (his S R m 0) 0 24)) := jd_corner hD hR hr hm (k := 0) (by omega) 24 0 (by omega)
  generalize itf (twG S R m) 0 24 = tw at f40 hloop
  generalize itf (shG S R m) 0 24 = sh at f41 hloop
  generalize enq (ff (his S R m 0) 0 24) = eq0 at g0 g1
  rw [e1, e2]
  simp only [Option.bind_some, jb_yes]
  rw [f40, f41, g0]
  simp (disch := omega) only [Option.bind_some, jn_gd, nI_clamp, h1.1, h1.2, jb_is]
  refine ⟨_, rfl, ?_, jInv_mono h⟩
  simp only [jn_b, jn_w]
  by_cases c3 : zf_23 a2 0 4 = false
  · rw [if_pos c3]
    have hne : ∀ j, j ≤ 4 → a2 ≠ nI j := by
      rintro j hj rfl
      rw [show zf_23 (nI j) 0 4 = true from jn_wl (l := 0) (k := 4) (Nat.zero_le _) hj (by decide)] at c3
      cases c3
    rw [if_neg (show ¬ a2 = 0 from hne 0 (by omega)), if_neg (show ¬ a2 = 1 from hne 1 (by omega)), if_neg (show ¬ a2 = 2 from hne 2 (by omega)), if_neg (show ¬ a2 = 3 from hne 3 (by omega)), if_neg (show ¬ a2 = 4 from hne 4 (by omega))]
  obtain ⟨b, hb, rfl⟩ := jn_in (x := a2) 4 (by decide) c3
  rw [if_neg c3]
  rw [hloop, g1]
  simp (disch := omega) only [jn_ltl, jn_gtl, jn_lt, jn_eq, jn_eql, jn_eqr, jn_addl, jn_addr, nI_add, jn_gd, nI_clamp, jn_n0, jn_0n, jn_m1, jn_b, jn_clz, jn_mul, jn_mull, jn_mulr, jn_wl, if_true, if_false, Bool.true_eq_false, Bool.false_eq_true, h2.1, h2.2, Option.bind_some]
  rcases (show b = 0 ∨ b = 1 ∨ b = 2 ∨ b = 3 ∨ b = 4 by omega) with rfl | rfl | rfl | rfl | rfl <;> rfl
