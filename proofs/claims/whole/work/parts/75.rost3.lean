/-! ROSTERS: the reference reads -/
def dR (p l o : Nat) (h : Nat → Nat) (g : rsG) (M : jb_Mi) : Prop := M 79 5 = nI p ∧ M 79 33 = nI l ∧ M 79 34 = nI o ∧ (∀ k, k < l → M 99 k = dv (h k)) ∧ ∀ i, i < o → M 100 i = nI (g i).1 ∧ M 101 i = nI (g i).2.2 ∧ M 102 i = nI (g i).2.1
def rdX (M M' : jb_Mi) : Prop := (∀ a, a ≠ 79 → a ≠ 99 → a ≠ 100 → a ≠ 101 → a ≠ 102 → M' a = M a) ∧ ∀ j, j ≠ 5 → j ≠ 7 → j ≠ 33 → j ≠ 34 → j ≠ 35 → j ≠ 36 → M' 79 j = M 79 j
theorem rdX_0 (M : jb_Mi) : rdX M M := ⟨fun _ _ _ _ _ _ => rfl, fun _ _ _ _ _ _ _ => rfl⟩
theorem rdX_t {M M1 M2 : jb_Mi} (h1 : rdX M M1) (h2 : rdX M1 M2) : rdX M M2 := ⟨fun a q1 q2 q3 q4 q5 => by rw [h2.1 a q1 q2 q3 q4 q5, h1.1 a q1 q2 q3 q4 q5], fun j q1 q2 q3 q4 q5 q6 => by rw [h2.2 j q1 q2 q3 q4 q5 q6, h1.2 j q1 q2 q3 q4 q5 q6]⟩
theorem rdX_u {M M1 : jb_Mi} (h1 : rdX M M1) {j : Nat} {x : Int32} (hj : j = 5 ∨ j = 7 ∨ j = 33 ∨ j = 34 ∨ j = 35 ∨ j = 36) : rdX M (jb_up M1 79 j x) := ⟨fun a q1 q2 q3 q4 q5 => by rw [jb_up_off q1, h1.1 a q1 q2 q3 q4 q5], fun i q1 q2 q3 q4 q5 q6 => by rw [jb_up_at, if_neg (by omega), h1.2 i q1 q2 q3 q4 q5 q6]⟩
theorem rdX_v {M M1 : jb_Mi} (h1 : rdX M M1) {a j : Nat} {x : Int32} (ha : a = 99 ∨ a = 100 ∨ a = 101 ∨ a = 102) : rdX M (jb_up M1 a j x) := ⟨fun c q1 q2 q3 q4 q5 => by rw [jb_up_off (by omega), h1.1 c q1 q2 q3 q4 q5], fun i q1 q2 q3 q4 q5 q6 => by rw [jb_up_off (by omega), h1.2 i q1 q2 q3 q4 q5 q6]⟩
theorem tdB_X {b : Nat → Nat} {n : Nat} {M M' : jb_Mi} (h : tdB b n M) (hx : rdX M M') : tdB b n M' := tdB_of h (hx.2 6 (by decide) (by decide) (by decide) (by decide) (by decide) (by decide)) (hx.1 83 (by decide) (by decide) (by decide) (by decide) (by decide))
def rdQ (b : Nat → Nat) (n : Nat) (F : (Nat × Nat) ⊕ (Nat × (Nat → Nat))) (p : Nat) (M : jb_Mi) (x : Bool × jb_Mi) : Prop := rdX M x.2 ∧ ((x.1 = false ∧ ∃ c q, x.2 79 7 = zf_74 (nI c) (nI q) ∧ F = .inl (c, q)) ∨ (x.1 = true ∧ ∃ f p' l o h g, p ≤ p' ∧ p' ≤ n ∧ n < p' + f ∧ rok l o h g ∧ dR p' l o h g x.2 ∧ 0 < l ∧ (∀ i, i < o → (g i).2.2 < l) ∧ (ch b n p' = 41 → o = 0) ∧ F = rsF b n f p' 0 l o h g))
theorem jd_rsrep {l s k m : Nat} {h : Nat → Nat} {M : jb_Mi} (h33 : M 79 33 = nI l) (h99 : ∀ j, j < l → M 99 j = dv (h j)) (hl : l ≤ 48) (hs : s < l) (hk1 : 1 ≤ k) (hk9 : k ≤ 9) (hme : m = (l - s) * (k - 1)) (x3 : Int32) :
    (48 < l + m → zf_212 (nI s) (nI k) x3 M = some (false, jb_up M 79 7 ((-1000) * 6 - x3))) ∧ (l + m ≤ 48 → ∃ M', zf_212 (nI s) (nI k) x3 M = some (true, M') ∧ M' 79 33 = nI (l + m) ∧ (∀ j, j < l + m → M' 99 j = dv (rsp h s l m j)) ∧ (∀ a, a ≠ 79 → a ≠ 99 → M' a = M a) ∧ ∀ j, j ≠ 33 → M' 79 j = M 79 j) := by
  have e : (l - s) * k = (l - s) + m := by
    rw [hme, show k = (k - 1) + 1 by omega, Nat.mul_succ, Nat.add_sub_cancel]
    omega
  have hmm : m ≤ 384 := by
    have := Nat.mul_le_mul (show l - s ≤ 48 by omega) (show k - 1 ≤ 8 by omega)
    omega
  have e0 : zf_212 (nI s) (nI k) x3 M = if 48 < nI (l + m) then some ((zf_186 6 x3 M).1, (zf_186 6 x3 M).2) else jb_lp (zf_212_H31 (nI s) (nI k) (nI (l - s))) (nI (l - s), M) := by
    unfold zf_212
    rw [h33, pk_sub (by omega), jn_mul, e, nI_add, show s + (l - s + m) = l + m by omega]
  rw [e0]
  constructor
  · intro c
    rw [if_pos (show (48 : Int32) < nI (l + m) from nI_lt (a := 48) c (by omega))]
    rfl
  intro c
  rw [if_neg (show ¬ (48 : Int32) < nI (l + m) from nI_nlt (a := 48) c (by omega))]
  obtain ⟨⟨r, M'⟩, e1, rfl, e2, e3, e4, e5⟩ := jb_inv (f := zf_212_H31 (nI s) (nI k) (nI (l - s))) (fun d t => ∃ q M1, t = (nI (l - s + q), M1) ∧ q + d = m ∧ (∀ j, j < l + q → M1 99 j = dv (rsp h s l m j)) ∧ ∀ a, a ≠ 99 → M1 a = M a)
    (fun x => x.1 = true ∧ x.2 79 33 = nI (l + m) ∧ (∀ j, j < l + m → x.2 99 j = dv (rsp h s l m j)) ∧ (∀ a, a ≠ 79 → a ≠ 99 → x.2 a = M a) ∧ ∀ j, j ≠ 33 → x.2 79 j = M 79 j) (by
      rintro d t ⟨q, M1, rfl, hd, f3, f4⟩
      unfold zf_212_H31
      dsimp only
      rw [jn_mul, e]
      by_cases hkm : q < m
      · refine Or.inl ⟨d - 1, (nI (l - s + (q + 1)), jb_up M1 99 (l + q) (M1 99 (s + q))), by omega, ?_, q + 1, _, rfl, by omega, ?_, ?_⟩
        · rw [if_pos (nI_lt (by omega) (by omega)), nI_add, show s + (l - s + q) = l + q by omega, pk_sub (by omega), show l + q - (l - s) = s + q by omega, jn_gd (by omega) (by decide), jn_gd (by omega) (by decide), nI_clamp (by omega), nI_clamp (by omega), ← Nat.add_assoc, nI_succ]
        · intro j hj
          rw [jb_up_at]
          by_cases cj : j = l + q
          · rw [if_pos ⟨rfl, cj⟩, cj, rsp_eq hs hkm, f3 _ (by omega)]
          · rw [if_neg (by omega), f3 j (by omega)]
        · intro a a1
          rw [jb_up_off a1, f4 a a1]
      · have : q = m := by omega
        subst this
        refine Or.inr ⟨(true, jb_up M1 79 33 (nI (l + q))), ?_, rfl, ?_, ?_, ?_, ?_⟩
        · rw [if_neg (nI_nlt (by omega) (by omega)), nI_add, show s + (l - s + q) = l + q by omega]
        · dsimp only; rw [jb_up_at, if_pos ⟨rfl, rfl⟩]
        · intro j hj; dsimp only; rw [jb_up_off (by decide), f3 j hj]
        · intro a a1 a2; dsimp only; rw [jb_up_off a1, f4 a a2]
        · intro j hj; dsimp only; rw [jb_up_at, if_neg (by omega), f4 79 (by decide)]) m (nI (l - s), M) ⟨0, M, rfl, by omega, (fun j hj => by rw [h99 j hj]; unfold rsp; rw [if_neg (by omega)]), fun a _ => rfl⟩
  exact ⟨M', e1, e2, e3, e4, e5⟩
theorem jd_close {b : Nat → Nat} {n : Nat} (hn : n < 300) : ∀ (f p l o : Nat) (h : Nat → Nat) (g : rsG) (M : jb_Mi), tdB b n M → rok l o h g → dR p l o h g M → 0 < l → (∀ i, i < o → (g i).2.2 < l) → p ≤ n → n < p + f → ∃ x, jb_lp zf_214_H218 M = some x ∧ rdQ b n (rsF b n f p 0 l o h g) p M x := by
  intro f
  induction f with
  | zero => intros; omega
  | succ f ih =>
    intro p l o h g M hT hk hD hl hst hp hf
    have hb := tdB_b hT
    have hc := ch_le hb p
    obtain ⟨c0, c1, c2, c3, c4⟩ := id hD
    obtain ⟨k1, k2, k3, k4⟩ := id hk
    have ek := sgc_peek hT (show p < 2 ^ 31 by omega) c0
    have s41 : (sgc (ch b n p) = 41) = (ch b n p = 41) := sgc_eq (k := 41) hc (by decide)
    have stop : (ch b n p = 41 → o = 0) → zf_214_H218 M = some (.inr (true, M)) → ∃ x, jb_lp zf_214_H218 M = some x ∧ rdQ b n (rsF b n (f + 1) p 0 l o h g) p M x := fun e0 e => ⟨_, jb_lp_inr e, rdX_0 M, Or.inr ⟨rfl, f + 1, p, l, o, h, g, Nat.le_refl _, hp, hf, hk, hD, hl, hst, e0, rfl⟩⟩
    by_cases q1 : ch b n p = 41 ∧ 0 < o
    · obtain ⟨o', rfl⟩ : ∃ o', o = o' + 1 := ⟨o - 1, by omega⟩
      have hpn : p < n := by
        rcases Nat.lt_or_ge p n with c | c
        · exact c
        · have := (ch_end hb p).mpr c
          omega
      obtain ⟨d1, d2, d3⟩ := c4 o' (by omega)
      obtain ⟨d4, d5, d6, d7⟩ := k4 o' (by omega)
      have hst' := hst o' (by omega)
      have q4 : ch b n p = 41 ∧ 0 = 0 ∧ 0 < o' + 1 ∧ (g (o' + 1 - 1)).2.2 < l := ⟨q1.1, rfl, q1.2, by rw [Nat.add_sub_cancel]; exact hst'⟩
      have eF : rsF b n (f + 1) p 0 l (o' + 1) h g = (if 48 < l + rsm l (g o') then .inl (6, (g o').1) else rsF b n f (p + 1) 0 (l + rsm l (g o')) o' (rsp h (g o').2.2 l (rsm l (g o'))) g) := by
        rw [rsF, if_neg (by omega), if_neg (by omega), if_neg (by omega), if_neg (by omega), if_pos q4, Nat.add_sub_cancel]
      rw [eF]
      -- the world as the group is ended
      have hX1 : rdX M (jb_up (jb_up M 79 5 (nI (p + 1))) 79 34 (nI o')) := rdX_u (rdX_u (rdX_0 M) (by decide)) (by decide)
      have e33 : jb_up (jb_up M 79 5 (nI (p + 1))) 79 34 (nI o') 79 33 = nI l := by
        rw [jb_up_at, if_neg (by omega), jb_up_at, if_neg (by omega), c1]
      obtain ⟨r1, r2⟩ := jd_rsrep (M := jb_up (jb_up M 79 5 (nI (p + 1))) 79 34 (nI o')) (h := h) (k := (g o').2.1) e33 (fun j hj => by rw [jb_up_off (by decide), jb_up_off (by decide), c3 j hj]) k1 hst' d5 d6 (show rsm l (g o') = (l - (g o').2.2) * ((g o').2.1 - 1) from rfl) (nI (g o').1)
      have e1 : zf_214_H218 M = (zf_212 (nI (g o').2.2) (nI (g o').2.1) (nI (g o').1) (jb_up (jb_up M 79 5 (nI (p + 1))) 79 34 (nI o'))).bind fun q14 => if (jb_b2i q14.1) = 0 then some (.inr (false, q14.2)) else some (.inl q14.2) := by
        unfold zf_214_H218
        rw [ek, Option.bind_some, if_pos (by rw [s41]; exact q1.1), c2, if_pos (show (0 : Int32) < nI (o' + 1) from nI_lt (a := 0) (by omega) (by omega)), c0, show jb_up M 79 5 (nI p + 1) 79 34 - 1 = nI o' by rw [jb_up_at, if_neg (by omega), c2, nI_pred], ← nI_succ, show jb_up (jb_up M 79 5 (nI (p + 1))) 79 34 (nI o') 79 34 = nI o' by rw [jb_up_at, if_pos ⟨rfl, rfl⟩], jn_gd (by omega) (by decide), jn_gd (by omega) (by decide), jn_gd (by omega) (by decide), nI_clamp (by omega), jb_up_off (show (101 : Nat) ≠ 79 by decide), jb_up_off (show (101 : Nat) ≠ 79 by decide), jb_up_off (show (102 : Nat) ≠ 79 by decide), jb_up_off (show (102 : Nat) ≠ 79 by decide), jb_up_off (show (100 : Nat) ≠ 79 by decide), jb_up_off (show (100 : Nat) ≠ 79 by decide), d1, d2, d3]
      by_cases q5 : 48 < l + rsm l (g o')
      · rw [r1 q5, Option.bind_some, jb_no] at e1
        refine ⟨_, jb_lp_inr e1, rdX_u hX1 (by decide), Or.inl ⟨rfl, 6, (g o').1, ?_, if_pos q5⟩⟩
        dsimp only
        rw [jb_up_at, if_pos ⟨rfl, rfl⟩]
        rfl
      · obtain ⟨M1, a1, a2, a3, a4, a5⟩ := r2 (by omega)
        rw [a1, Option.bind_some, jb_yes] at e1
        rw [if_neg q5, jb_lp_inl e1]
        dsimp only
        have hX2 : rdX M M1 := rdX_t hX1 ⟨fun a q1 q2 _ _ _ => a4 a q1 q2, fun j _ _ q3 _ _ _ => a5 j q3⟩
        have hD2 : dR (p + 1) (l + rsm l (g o')) o' (rsp h (g o').2.2 l (rsm l (g o'))) g M1 := by
          refine ⟨?_, a2, ?_, a3, fun i hi => ?_⟩
          · rw [a5 5 (by decide), jb_up_at, if_neg (by omega), jb_up_at, if_pos ⟨rfl, rfl⟩]
          · rw [a5 34 (by decide), jb_up_at, if_pos ⟨rfl, rfl⟩]
          · rw [a4 100 (by decide) (by decide), a4 101 (by decide) (by decide), a4 102 (by decide) (by decide), jb_up_off (by decide), jb_up_off (by decide), jb_up_off (by decide), jb_up_off (by decide), jb_up_off (by decide), jb_up_off (by decide)]
            exact c4 i (by omega)
        obtain ⟨x, z1, z2, z3⟩ := ih (p + 1) (l + rsm l (g o')) o' (rsp h (g o').2.2 l (rsm l (g o'))) g M1 (tdB_X hT hX2) (rok_rep hk hst' (by omega)) hD2 (by omega) (fun i hi => by have := hst i (by omega); omega) (by omega) (by omega)
        refine ⟨x, z1, rdX_t hX2 z2, ?_⟩
        rcases z3 with z3 | ⟨y1, f', p', l', o'', h', g', y2, y3⟩
        · exact Or.inl z3
        · exact Or.inr ⟨y1, f', p', l', o'', h', g', by omega, y3⟩
    · refine stop (fun y => by omega) ?_
      unfold zf_214_H218
      rw [ek, Option.bind_some]
      by_cases y1 : ch b n p = 41
      · rw [if_pos (by rw [s41]; exact y1), if_neg (show ¬ (0 : Int32) < M 79 34 by rw [c2]; exact nI_nlt (a := 0) (by omega) (by omega))]
      · rw [if_neg (by rw [s41]; exact y1)]
