/-! who has an hour; duty, relieved, manIs -/
theorem jn_xor (a b : Nat) : nI a ^^^ nI b = nI (a ^^^ b) := by
  apply Int32.toBitVec_inj.mp
  simp only [nI, Int32.toBitVec_xor]
  exact (BitVec.ofNat_xor).symm
theorem jb_yes {α : Type} (a b : α) : (if jb_b2i true = 0 then a else b) = b := if_neg (by decide)
theorem jb_no {α : Type} (a b : α) : (if jb_b2i false = 0 then a else b) = a := if_pos (by decide)
theorem jn_fm {a d : Nat} (ha : a < 2 ^ 31) (h0 : 0 < d) (hd : d < 2 ^ 31) : zf_16 (nI a) (nI d) = some (nI (a % d)) := by
  unfold zf_16 jb_g0
  rw [if_neg (nI_ne0 h0 hd), jn_xor, if_neg (nI_pos (Nat.xor_lt_two_pow ha hd)), pk_rem ha h0 hd]
/-- who has the hour T (from the first of all on) of corner q; 16: nobody -/
def whoT (S : jSt) (R : Nat → List Nat) (q T : Nat) : Nat := if (R q).length = 0 then 16 else if (R q).getD (T % (R q).length) 16 < 16 ∧ 0 < S 7 ((R q).getD (T % (R q).length) 16) then (R q).getD (T % (R q).length) 16 else 16
def now (S : jSt) : Nat := 24 * S 9 1 + S 9 0
theorem whoT_le (S : jSt) (R : Nat → List Nat) (q T : Nat) : whoT S R q T ≤ 16 := by
  unfold whoT
  split
  · omega
  · split <;> omega
noncomputable def enc (x : Int32) (w : Nat) : Int32 := if w = 16 then x else nI w
theorem jc_time {o : Nat} {S : jSt} {M : jb_Mi} (hC : jC o S M) : zf_14 o M = nI (now S) := by
  unfold zf_14 now
  rw [hC.2.2.2.1, hC.2.2.2.2.1]
  simp only [jn_mulr, nI_add]
  congr 1
  omega
theorem jn_m2 {a : Nat} (ha : a < 2 ^ 31) : (nI a = (-2)) = False := by
  refine eq_false fun h => ?_
  have h2 : (nI a).toInt = (-2 : Int32).toInt := by rw [h]
  rw [nI_toInt ha] at h2
  have : (-2 : Int32).toInt = -2 := by decide
  omega
theorem jc_len {R : Nat → List Nat} {M : jb_Mi} (hr : jRo R M) {q : Nat} (hq : q < 24) : zf_15 (nI q) M = some (nI (R q).length) := by
  unfold zf_15
  rw [if_neg (nI_pos (by omega)), if_pos (show nI q < 24 from nI_lt (b := 24) hq (by decide)), jn_gd hq (by decide), nI_clamp (by omega), (hr q hq).2.1]
theorem whoT_a {S : jSt} {R : Nat → List Nat} {q T g : Nat} (c : ¬ (R q).length = 0) (hg : (R q).getD (T % (R q).length) 16 = g) (h1 : g < 16) : whoT S R q T = if 0 < S 7 g then g else 16 := by
  unfold whoT
  rw [if_neg c, hg]
  by_cases c2 : 0 < S 7 g
  · rw [if_pos ⟨h1, c2⟩, if_pos c2]
  · rw [if_neg (fun h => c2 h.2), if_neg c2]
theorem whoT_b {S : jSt} {R : Nat → List Nat} {q T g : Nat} (c : ¬ (R q).length = 0) (hg : (R q).getD (T % (R q).length) 16 = g) (h1 : g = 16) : whoT S R q T = 16 := by
  unfold whoT
  rw [if_neg c, hg, if_neg (by omega)]
theorem jc_who {o : Nat} {S : jSt} {R : Nat → List Nat} {M : jb_Mi} (hC : jC o S M) (hR : jR S) (hr : jRo R M) {q T : Nat} (hq : q < 24) (hT : T < 2 ^ 31) : ∃ x, zf_17 (nI q) (nI T) M = some x ∧ (zf_18 o x M = some (decide (whoT S R q T ≠ 16))) ∧ (whoT S R q T ≠ 16 → x = nI (whoT S R q T)) := by
  obtain ⟨r1, r2, -, r4⟩ := hr q hq
  unfold zf_17
  rw [jc_len hr hq, Option.bind_some]
  by_cases c : (R q).length = 0
  · have e : whoT S R q T = 16 := by unfold whoT; rw [if_pos c]
    rw [if_neg (by rw [c]; decide), e]
    refine ⟨_, rfl, ?_, fun h => absurd rfl h⟩
    unfold zf_18
    rw [if_pos (by decide)]
    simp
  · rw [if_pos (show (0 : Int32) < nI (R q).length from nI_lt (a := 0) (by omega) (by omega)), jn_fm hT (by omega) (by omega), Option.bind_some]
    have hlt : T % (R q).length < (R q).length := Nat.mod_lt _ (by omega)
    simp (disch := omega) only [jn_ltl, jn_gtl, jn_lt, jn_eq, jn_eql, jn_eqr, jn_addl, jn_addr, nI_add, jn_gd, nI_clamp, jn_n0, jn_0n, jn_m1, jn_b, jn_clz, jn_mul, jn_mull, jn_mulr, jn_wl, if_true, if_false, Bool.true_eq_false, Bool.false_eq_true]
    refine ⟨_, rfl, ?_⟩
    rw [show q * 48 = 48 * q from Nat.mul_comm _ _]
    have r5 := r4 _ hlt
    generalize hg : (R q).getD (T % (R q).length) 16 = g at r5
    rcases r5 with ⟨s1, s2, -⟩ | ⟨s1, s2, -⟩
    · rw [s2, whoT_a c hg s1, jc_man hC hR s1]
      by_cases c2 : 0 < S 7 g
      · have : g ≠ 16 := by omega
        simp [c2, this]
      · simp [c2]
    · rw [s2, whoT_b c hg s1]
      refine ⟨?_, fun h => absurd rfl h⟩
      unfold zf_18
      rw [if_pos (by decide)]
      simp
theorem jc_has {S : jSt} {R : Nat → List Nat} {M : jb_Mi} (hC : jC 4 S M) (hR : jR S) (hr : jRo R M) {q T : Nat} (hq : q < 24) (hT : T < 2 ^ 31) : zf_19 (nI q) (nI T) M = some (enc (-2) (whoT S R q T)) := by
  obtain ⟨x, h1, h2, h3⟩ := jc_who hC hR hr hq hT
  unfold zf_19
  rw [h1, Option.bind_some, h2, Option.bind_some]
  unfold enc
  by_cases c : whoT S R q T = 16
  · simp [c, jn_b]
  · rw [← h3 c]
    simp [c, jn_b]
theorem jd_has {S : jSt} {R : Nat → List Nat} {M : jb_Mi} (hD : jD 80 S M) (hR : jR S) (hr : jRo R M) {q k : Nat} (hq : q < 24) (hk : k ≤ 24) : zf_216 (nI q) (nI k) M = some (enc (-1) (whoT S R q (now S + k))) := by
  obtain ⟨r1, -, r2, r4⟩ := hr q hq
  obtain ⟨-, -, -, t1, t2, -⟩ := id hR
  unfold zf_216
  rw [hD.2.2.2.1, hD.2.2.2.2.1]
  simp (disch := omega) only [jn_ltl, jn_gtl, jn_lt, jn_eq, jn_eql, jn_eqr, jn_addl, jn_addr, nI_add, jn_gd, nI_clamp, jn_n0, jn_0n, jn_m1, jn_b, jn_clz, jn_mul, jn_mull, jn_mulr, jn_wl, if_true, if_false, Bool.true_eq_false, Bool.false_eq_true, r2]
  rw [show 24 * S 9 1 + S 9 0 + k = now S + k from rfl]
  by_cases c : (R q).length = 0
  · rw [if_pos c]
    simp [enc, whoT, c]
  · rw [if_neg c]
    unfold jb_g0
    rw [if_neg (nI_ne0 (by omega) (by omega)), pk_rem (by unfold now; omega) (by omega) (by omega)]
    have hlt : (now S + k) % (R q).length < (R q).length := Nat.mod_lt _ (by omega)
    simp (disch := omega) only [jn_ltl, jn_gtl, jn_lt, jn_eq, jn_eql, jn_eqr, jn_addl, jn_addr, nI_add, jn_gd, nI_clamp, jn_n0, jn_0n, jn_m1, jn_b, jn_clz, jn_mul, jn_mull, jn_mulr, jn_wl, if_true, if_false, Bool.true_eq_false, Bool.false_eq_true]
    have r5 := r4 _ hlt
    generalize hg : (R q).getD ((now S + k) % (R q).length) 16 = g at r5
    rcases r5 with ⟨s1, -, s2⟩ | ⟨s1, -, s2⟩
    · rw [s2, jd_man hD hR s1, Option.bind_some, whoT_a c hg s1]
      unfold enc
      by_cases c2 : 0 < S 7 g
      · have : ¬ g = 16 := by omega
        simp [c2, this]
      · simp [c2]
    · rw [s2, whoT_b c hg s1]
      rfl
theorem ca_duty {n : Nat} {M : jb_Mi} {N : jb_Ml} (hn : n < 512) (h : jInv n M N) (a1 a2 : Int32) : ∃ (r : Int32), zf_140 a1 a2 M = some r ∧ zf_217 a1 a2 M = some r ∧ jInv (n + 1) M N := by
  obtain ⟨⟨S, hC, hD, hR, hT⟩, -, -, ⟨R, hr⟩, -⟩ := id h
  obtain ⟨-, -, -, t1, t2, -⟩ := id hR
  unfold zf_140 zf_217
  rcases jx_house hC hD hR a1 with ⟨e1, e2⟩ | ⟨i, hi, rfl, hs, e1, e2⟩
  · exact ⟨_, by rw [e1]; rfl, by rw [e2]; rfl, jInv_mono h⟩
  · rw [e1, e2]
    simp only [Option.bind_some, jb_yes]
    simp only [jn_b, jn_w]
    by_cases c : zf_23 a2 0 3 = false
    · exact ⟨_, if_pos c, if_pos c, jInv_mono h⟩
    · obtain ⟨j, hj, rfl⟩ := jn_in (x := a2) 3 (by decide) c
      rw [if_neg c, if_neg c, jc_time hC]
      simp only [jn_mulr, jn_mull, nI_add]
      rw [show i * 4 = 4 * i from Nat.mul_comm _ _, jc_has hC hR hr (by omega) (by unfold now; omega), show zf_216 (nI (4 * i + j)) 0 M = _ from jd_has (k := 0) hD hR hr (by omega) (by omega), Option.bind_some, Option.bind_some]
      refine ⟨_, rfl, ?_, jInv_mono h⟩
      have hw := whoT_le S R (4 * i + j) (now S)
      unfold enc
      rw [Nat.add_zero]
      by_cases c2 : whoT S R (4 * i + j) (now S) = 16
      · simp [c2]
      · simp only [c2, if_false]
        rw [if_neg (show ¬ nI (whoT S R (4 * i + j) (now S)) = (-1) by rw [jn_m1 (by omega)]; exact id)]
theorem itf_prod {A B : Type} (g : Nat → A → A) (k : Nat → B → B) (a : A) (b : B) (n : Nat) : itf (fun j (p : A × B) => (g j p.1, k j p.2)) (a, b) n = (itf g a n, itf k b n) := by
  induction n with
  | zero => rfl
  | succ n ih => simp only [itf]; rw [ih]
theorem itf_shift {A : Type} (G : Nat → A → A) (a : A) (n : Nat) : itf G a (n + 1) = itf (fun k => G (k + 1)) (G 0 a) n := by
  induction n with
  | zero => rfl
  | succ n ih => rw [show itf G a (n + 1 + 1) = G (n + 1) (itf G a (n + 1)) from rfl, ih]; rfl
theorem jn_mxx (a b : Int32) : zf_166 a b = zf_271 a b := by
  unfold zf_166 zf_271
  by_cases c : b < a
  · rw [if_pos c, if_neg (by rw [fa_ltx] at c ⊢; omega)]
  · by_cases c2 : a < b
    · rw [if_neg c, if_pos c2]
    · rw [if_neg c, if_neg c2]
      apply Int32.toInt_inj.mp
      rw [fa_ltx] at c c2
      omega
/-- the one before -/
def pv (w : Nat → Nat) : Nat → Nat
  | 0 => 16
  | k + 1 => w k
theorem enc_eq {x : Int32} (hx : ∀ a, a < 2 ^ 31 → (nI a = x) = False) {a b : Nat} (ha : a ≤ 16) (hb : b ≤ 16) : (enc x a = enc x b) = (a = b) := by
  unfold enc
  by_cases c1 : a = 16
  · by_cases c2 : b = 16
    · simp [c1, c2]
    · rw [if_pos c1, if_neg c2, show (x = nI b) = False from (propext eq_comm).trans (hx b (by omega))]
      refine (eq_false ?_).symm
      omega
  · by_cases c2 : b = 16
    · rw [if_neg c1, if_pos c2, hx a (by omega)]
      refine (eq_false ?_).symm
      omega
    · rw [if_neg c1, if_neg c2, jn_eq (by omega) (by omega)]
theorem pv_s (w : Nat → Nat) (k : Nat) : pv w (k + 1) = w k := rfl
noncomputable def tmG (w : Nat → Nat) (k : Nat) (a : Int32) : Int32 := if 0 < k ∧ w k ≠ pv w k then a + 1 else a
noncomputable def nbG (w : Nat → Nat) (k : Nat) (a : Int32) : Int32 := if w k = 16 then a + 1 else a
noncomputable def lgG (w : Nat → Nat) (k : Nat) (a : Int32 × Int32) : Int32 × Int32 := (zf_271 a.1 (if w k = 16 then 0 else if w k = pv w k then a.2 + 1 else 1), if w k = 16 then 0 else if w k = pv w k then a.2 + 1 else 1)
theorem enc_neg {x : Int32} (h1 : x < 0) {a : Nat} (ha : a ≤ 16) : (enc x a < 0) = (a = 16) := by
  unfold enc
  by_cases c1 : a = 16
  · simp [c1, h1]
  · rw [if_neg c1, jn_n0 (by omega)]
    exact (eq_false c1).symm
theorem enc_m {x : Int32} (hx : ∀ a, a < 2 ^ 31 → (nI a = x) = False) {a : Nat} (ha : a ≤ 16) : (enc x a = x) = (a = 16) := by
  unfold enc
  by_cases c1 : a = 16
  · simp [c1]
  · rw [if_neg c1, hx a (by omega)]
    exact (eq_false c1).symm
theorem m1x : ∀ a, a < 2 ^ 31 → (nI a = (-1)) = False := fun a h => jn_m1 h
theorem m2x : ∀ a, a < 2 ^ 31 → (nI a = (-2)) = False := fun a h => jn_m2 h
theorem pv_le {w : Nat → Nat} (hw : ∀ k, w k ≤ 16) : ∀ k, pv w k ≤ 16
  | 0 => Nat.le_refl _
  | k + 1 => hw k
theorem ca_relieved {n : Nat} {M : jb_Mi} {N : jb_Ml} (hn : n < 512) (h : jInv n M N) (a1 a2 a3 : Int32) : ∃ (r : Int32), zf_156 a1 a2 a3 M = some r ∧ zf_263 a1 a2 a3 M = some r ∧ jInv (n + 1) M N := by
  obtain ⟨⟨S, hC, hD, hR, hT⟩, -, -, ⟨R, hr⟩, -⟩ := id h
  obtain ⟨-, -, -, t1, t2, -⟩ := id hR
  unfold zf_156 zf_263
  rcases jx_house hC hD hR a1 with ⟨e1, e2⟩ | ⟨i, hi, rfl, hs, e1, e2⟩
  · exact ⟨_, by rw [e1]; rfl, by rw [e2]; rfl, jInv_mono h⟩
  · rw [e1, e2]
    simp only [Option.bind_some, jb_yes]
    simp only [jn_b, jn_w]
    by_cases c : zf_23 a2 0 3 = false
    · exact ⟨_, if_pos c, if_pos c, jInv_mono h⟩
    obtain ⟨j, hj, rfl⟩ := jn_in (x := a2) 3 (by decide) c
    rw [if_neg c, if_neg c]
    simp only [jn_mulr, jn_mull, nI_add]
    rw [show i * 4 = 4 * i from Nat.mul_comm _ _]
    have hq : 4 * i + j < 24 := by omega
    generalize 4 * i + j = q at hq
    obtain ⟨w, hw⟩ : ∃ w : Nat → Nat, ∀ k, whoT S R q (now S + k) = w k := ⟨_, fun _ => rfl⟩
    have wle : ∀ k, w k ≤ 16 := fun k => by rw [← hw]; exact whoT_le _ _ _ _
    have hc : ∀ k, k ≤ 24 → zf_19 (nI q) (zf_14 4 M + nI k) M = some (enc (-2) (w k)) := by
      intro k hk
      rw [jc_time hC, nI_add, jc_has hC hR hr hq (by unfold now; omega), hw]
    have hd : ∀ k, k ≤ 24 → zf_216 (nI q) (nI k) M = some (enc (-1) (w k)) := by
      intro k hk
      rw [jd_has hD hR hr hq hk, hw]
    have f42 : zf_42 (nI q) M = some (itf (tmG w) 0 24) := by
      unfold zf_42
      rw [itf_shift, show tmG w 0 0 = 0 by simp [tmG]]
      refine jb_it (f := zf_42_H4 (nI q) M) (fun (a : Int32) k => (a, nI (k + 1))) (fun k => tmG w (k + 1)) 0 23 ?_ ?_
      · intro k a hk
        unfold zf_42_H4 zf_42_J46
        dsimp only
        rw [hc (k + 1) (by omega), show zf_14 4 M + nI (k + 1) - 1 = zf_14 4 M + nI k by rw [jc_time hC, nI_add, nI_add, ← Nat.add_assoc, nI_pred], hc k (by omega)]
        simp only [Option.bind_some]
        simp (disch := omega) only [jn_ltl, jn_gtl, jn_lt, jn_eq, jn_eql, jn_eqr, jn_addl, jn_addr, nI_add, jn_gd, nI_clamp, jn_n0, jn_0n, jn_m1, jn_b, jn_clz, jn_mul, jn_mull, jn_mulr, jn_wl, if_true, if_false, Bool.true_eq_false, Bool.false_eq_true, enc_eq m2x (wle _) (wle _)]
        rw [if_pos (by omega)]
        by_cases c : w (k + 1) = w k
        · simp [c, tmG, pv_s]
        · simp [c, tmG, pv_s]
      · unfold zf_42_H4
        exact if_neg (by dsimp only; decide)
    have f43 : zf_43 (nI q) M = some (itf (nbG w) 0 24) := by
      unfold zf_43
      refine jb_it (f := zf_43_H4 (nI q) M) (fun (a : Int32) k => (a, nI k)) (nbG w) 0 24 ?_ ?_
      · intro k a hk
        unfold zf_43_H4 zf_43_J33
        dsimp only
        rw [hc k (by omega)]
        simp only [Option.bind_some]
        simp (disch := omega) only [jn_ltl, jn_gtl, jn_lt, jn_eq, jn_eql, jn_eqr, jn_addl, jn_addr, nI_add, jn_gd, nI_clamp, jn_n0, jn_0n, jn_m1, jn_b, jn_clz, jn_mul, jn_mull, jn_mulr, jn_wl, if_true, if_false, Bool.true_eq_false, Bool.false_eq_true, enc_neg (x := -2) (by decide) (wle _), hk]
        by_cases c : w k = 16
        · simp [c, nbG]
        · simp [c, nbG]
      · unfold zf_43_H4
        exact if_neg (by dsimp only; decide)
    have f44 : zf_44 (nI q) M = some (itf (lgG w) (0, 0) 24).1 := by
      unfold zf_44
      refine jb_it (f := zf_44_H11 (nI q) M) (fun (a : Int32 × Int32) k => (a.1, a.2, enc (-2) (pv w k), nI k)) (lgG w) (0, 0) 24 ?_ ?_
      · intro k a hk
        unfold zf_44_H11 zf_44_J58
        dsimp only
        rw [hc k (by omega)]
        simp only [Option.bind_some]
        simp (disch := omega) only [jn_ltl, jn_gtl, jn_lt, jn_eq, jn_eql, jn_eqr, jn_addl, jn_addr, nI_add, jn_gd, nI_clamp, jn_n0, jn_0n, jn_m1, jn_b, jn_clz, jn_mul, jn_mull, jn_mulr, jn_wl, if_true, if_false, Bool.true_eq_false, Bool.false_eq_true, enc_neg (x := -2) (by decide) (wle _), enc_eq m2x (wle _) (pv_le wle _), hk]
        by_cases c : w k = 16
        · simp [c, lgG, pv_s]
        · by_cases c2 : w k = pv w k
          · have c3 : ¬ pv w k = 16 := by omega
            simp [c2, c3, lgG, pv_s]
          · simp [c, c2, lgG, pv_s]
      · unfold zf_44_H11
        exact if_neg (by dsimp only; decide)
    rw [f42, f43, f44]
    have f15 := jc_len hr hq
    rw [f15]
    simp only [Option.bind_some, jb_is]
    refine ⟨_, rfl, ?_, jInv_mono h⟩
    by_cases c3 : zf_23 a3 0 3 = false
    · rw [if_pos c3]
      have hne : ∀ j, j ≤ 3 → a3 ≠ nI j := by
        rintro j hj rfl
        rw [show zf_23 (nI j) 0 3 = true from jn_wl (l := 0) (k := 3) (Nat.zero_le _) hj (by decide)] at c3
        cases c3
      rw [if_neg (show ¬ a3 = 0 from hne 0 (by omega)), if_neg (show ¬ a3 = 1 from hne 1 (by omega)), if_neg (show ¬ a3 = 2 from hne 2 (by omega)), if_neg (show ¬ a3 = 3 from hne 3 (by omega))]
    obtain ⟨b, hb, rfl⟩ := jn_in (x := a3) 3 (by decide) c3
    rw [if_neg c3]
    by_cases c4 : b = 3
    · subst c4
      simp (disch := omega) only [jn_ltl, jn_gtl, jn_lt, jn_eq, jn_eql, jn_eqr, jn_addl, jn_addr, nI_add, jn_gd, nI_clamp, jn_n0, jn_0n, jn_m1, jn_b, jn_clz, jn_mul, jn_mull, jn_mulr, jn_wl, if_true, if_false, Bool.true_eq_false, Bool.false_eq_true, hq, (hr q hq).2.2.1]
      rfl
    · have hloop : jb_lp (zf_263_H66 (nI b) (nI q) M) (0, 0, 0, 0, -1, 0) = some (if nI b = 0 then itf (tmG w) 0 24 else if nI b = 1 then itf (nbG w) 0 24 else (itf (lgG w) (0, 0) 24).1) := by
        refine jb_it (f := zf_263_H66 (nI b) (nI q) M) (fun (a : Int32 × Int32 × Int32 × Int32) k => (a.1, a.2.1, a.2.2.1, a.2.2.2, enc (-1) (pv w k), nI k)) (fun k a => (tmG w k a.1, nbG w k a.2.1, lgG w k a.2.2)) (0, 0, 0, 0) 24 ?_ ?_
        · intro k a hk
          unfold zf_263_H66 zf_263_J101 zf_263_J113 zf_263_J138
          dsimp only
          rw [hd k (by omega)]
          simp only [Option.bind_some]
          simp (disch := omega) only [jn_ltl, jn_gtl, jn_lt, jn_eq, jn_eql, jn_eqr, jn_addl, jn_addr, nI_add, jn_gd, nI_clamp, jn_n0, jn_0n, jn_m1, jn_b, jn_clz, jn_mul, jn_mull, jn_mulr, jn_wl, if_true, if_false, Bool.true_eq_false, Bool.false_eq_true, enc_m m1x (wle _), enc_eq m1x (wle _) (pv_le wle _), hk, jn_mxx]
          by_cases c : w k = 16
          · by_cases c2 : w k = pv w k
            · by_cases c5 : 0 < k
              · simp [c, ← c2, c5, tmG, nbG, lgG, pv_s]
              · simp [c, ← c2, c5, tmG, nbG, lgG, pv_s]
            · by_cases c5 : 0 < k
              · simp [c, c2, c5, tmG, nbG, lgG, pv_s]
                simp [← c, c2]
              · simp [c, c2, c5, tmG, nbG, lgG, pv_s]
          · by_cases c2 : w k = pv w k
            · have c6 : ¬ pv w k = 16 := by omega
              by_cases c5 : 0 < k
              · simp [c2, c6, c5, tmG, nbG, lgG, pv_s]
              · simp [c2, c6, c5, tmG, nbG, lgG, pv_s]
            · by_cases c5 : 0 < k
              · simp [c, c2, c5, tmG, nbG, lgG, pv_s]
              · simp [c, c2, c5, tmG, nbG, lgG, pv_s]
        · unfold zf_263_H66
          refine (if_neg (by dsimp only; decide)).trans ?_
          rw [itf_prod (tmG w) (fun k (p : Int32 × Int32 × Int32) => (nbG w k p.1, lgG w k p.2)), itf_prod (nbG w) (lgG w)]
          simp only [jb_is]
          congr 1
          repeat' (first | rfl | split)
      rw [hloop, if_neg (show ¬ nI b = 3 from fun e => c4 ((nI_eq (by omega) (by decide)).mp e))]
      congr 1
      rcases (show b = 0 ∨ b = 1 ∨ b = 2 by omega) with rfl | rfl | rfl <;> rfl
