/-! ROSTERS: the reference reads an item -/
theorem dR_of {p l o : Nat} {h : Nat → Nat} {g : rsG} {M M' : jb_Mi} (hD : dR p l o h g M) (h5 : M' 79 5 = M 79 5) (h33 : M' 79 33 = M 79 33) (h34 : M' 79 34 = M 79 34) (ha : ∀ a, 99 ≤ a → a ≤ 102 → M' a = M a) : dR p l o h g M' := by
  unfold dR at hD ⊢
  rw [h5, h33, h34, ha 99 (by omega) (by omega), ha 100 (by omega) (by omega), ha 101 (by omega) (by omega), ha 102 (by omega) (by omega)]
  exact hD
theorem jd_times {b : Nat → Nat} {n : Nat} (hn : n < 300) {f p l o : Nat} {h : Nat → Nat} {g : rsG} {M : jb_Mi} (hT : tdB b n M) (hD : dR p l o h g M) (hp : p ≤ n) (hf : n < p + f) : ∃ M' f' p' t, zf_213 M = some M' ∧ rdX M M' ∧ dR p' l o h g M' ∧ t ≤ 9 ∧ (t ≠ 0 → 0 < p') ∧ (t = 0 → ¬ (50 ≤ ch b n p' ∧ ch b n p' ≤ 57)) ∧ M' 79 35 = nI (rsf p' t) ∧ M' 79 36 = nI (max 1 t) ∧ p ≤ p' ∧ p' ≤ n ∧ n < p' + f' ∧ f' ≤ f ∧ (p < n ∨ t = 0) ∧ (t = 0 → p' = p) ∧ rsF b n f p 0 l o h g = rsF b n f' p' t l o h g := by
  have hb := tdB_b hT
  have hc := ch_le hb p
  have c0 := hD.1
  have hX1 : rdX M (jb_up (jb_up M 79 35 (nI p)) 79 36 1) := rdX_u (rdX_u (rdX_0 M) (by decide)) (by decide)
  have hD1 : dR p l o h g (jb_up (jb_up M 79 35 (nI p)) 79 36 1) := dR_of hD (by rw [jb_up_at, if_neg (by omega), jb_up_at, if_neg (by omega)]) (by rw [jb_up_at, if_neg (by omega), jb_up_at, if_neg (by omega)]) (by rw [jb_up_at, if_neg (by omega), jb_up_at, if_neg (by omega)]) (fun a a1 a2 => by rw [jb_up_off (by omega), jb_up_off (by omega)])
  have ek := sgc_peek (tdB_X hT hX1) (show p < 2 ^ 31 by omega) hD1.1
  have e0 : zf_213 M = if jb_b2i (decide (50 ≤ ch b n p ∧ ch b n p ≤ 57)) = 0 then some (jb_up (jb_up M 79 35 (nI p)) 79 36 1) else some (jb_up (jb_up (jb_up (jb_up M 79 35 (nI p)) 79 36 1) 79 36 (sgc (ch b n p) - 48)) 79 5 (nI (p + 1))) := by
    unfold zf_213
    rw [c0, ek, Option.bind_some, show zf_164 (sgc (ch b n p)) 50 57 = decide (50 ≤ ch b n p ∧ ch b n p ≤ 57) from sgc_w hc (lo := 50) (hi := 57) (by decide) (by decide), Option.bind_some, show jb_up (jb_up (jb_up M 79 35 (nI p)) 79 36 1) 79 36 (sgc (ch b n p) - 48) 79 5 = nI p by rw [jb_up_at, if_neg (by omega), hD1.1], ← nI_succ]
  by_cases q : 50 ≤ ch b n p ∧ ch b n p ≤ 57
  · have hpn : p < n := by
      rcases Nat.lt_or_ge p n with c | c
      · exact c
      · have := (ch_end hb p).mpr c
        omega
    rw [decide_eq_true q, jb_yes, sgc_in (by omega), show nI (ch b n p) - 48 = nI (ch b n p - 48) from pk_sub (b := 48) (by omega)] at e0
    have hX2 : rdX M (jb_up (jb_up (jb_up (jb_up M 79 35 (nI p)) 79 36 1) 79 36 (nI (ch b n p - 48))) 79 5 (nI (p + 1))) := rdX_u (rdX_u hX1 (by decide)) (by decide)
    obtain ⟨f, rfl⟩ : ∃ f1, f = f1 + 1 := ⟨f - 1, by omega⟩
    refine ⟨_, f, p + 1, ch b n p - 48, e0, hX2, ?_, by omega, fun _ => by omega, fun y => by omega, ?_, ?_, by omega, by omega, by omega, by omega, Or.inl hpn, fun y => by omega, ?_⟩
    · obtain ⟨d1, d2, d3, d4, d5⟩ := hD1
      refine ⟨?_, ?_, ?_, ?_, ?_⟩
      · rw [jb_up_at, if_pos ⟨rfl, rfl⟩]
      · rw [jb_up_at, if_neg (by omega), jb_up_at, if_neg (by omega), d2]
      · rw [jb_up_at, if_neg (by omega), jb_up_at, if_neg (by omega), d3]
      · intro k hk
        rw [jb_up_off (by decide), jb_up_off (by decide), d4 k hk]
      · intro i hi
        have := d5 i hi
        simp only [jb_up_off (show (100 : Nat) ≠ 79 by decide), jb_up_off (show (101 : Nat) ≠ 79 by decide), jb_up_off (show (102 : Nat) ≠ 79 by decide)] at this ⊢
        exact this
    · rw [jb_up_at, if_neg (by omega), jb_up_at, if_neg (by omega), jb_up_at, if_neg (by omega), jb_up_at, if_pos ⟨rfl, rfl⟩]
      unfold rsf
      rw [if_neg (by omega), Nat.add_sub_cancel]
    · rw [jb_up_at, if_neg (by omega), jb_up_at, if_pos ⟨rfl, rfl⟩, Nat.max_eq_right (by omega)]
    · rw [rsF, if_neg (by omega), if_pos q, if_pos rfl]
  · rw [decide_eq_false q, jb_no] at e0
    refine ⟨_, f, p, 0, e0, hX1, hD1, by omega, fun y => absurd rfl y, fun _ => q, ?_, ?_, Nat.le_refl _, hp, hf, Nat.le_refl _, Or.inr rfl, fun _ => rfl, rfl⟩
    · rw [jb_up_at, if_neg (by omega), jb_up_at, if_pos ⟨rfl, rfl⟩]
      rfl
    · rw [jb_up_at, if_pos ⟨rfl, rfl⟩]
      rfl
theorem rsp_1 {h : Nat → Nat} {l m v : Nat} : rsp (rsl h l 1 v) l (l + 1) m = rsl h l (m + 1) v := by
  funext k
  unfold rsp rsl
  by_cases c : l + 1 ≤ k ∧ k < l + 1 + m
  · rw [if_pos c, show l + 1 - l = 1 by omega, Nat.mod_one, if_pos (by omega), if_pos (by omega)]
  · rw [if_neg c]
    by_cases c1 : k = l
    · rw [if_pos (by omega), if_pos (by omega)]
    · rw [if_neg (by omega), if_neg (by omega)]
theorem jd_item4 {b : Nat → Nat} {n : Nat} (hn : n < 300) : ∀ (F f p t l o : Nat) (h : Nat → Nat) (g : rsG) (M : jb_Mi), f ≤ F → tdB b n M → rok l o h g → dR p l o h g M → t ≤ 9 → (t ≠ 0 → 0 < p) → (t = 0 → ¬ (50 ≤ ch b n p ∧ ch b n p ≤ 57)) → M 79 35 = nI (rsf p t) → M 79 36 = nI (max 1 t) → p ≤ n → n < p + f → (p < n ∨ 0 < o ∨ l = 0 ∨ t ≠ 0) → (∀ i, i < o → (g i).2.2 ≤ l) → (ch b n p = 41 → t = 0 → 0 < o → l ≤ (g (o - 1)).2.2) → ∃ x, jb_lp zf_214_H4 M = some x ∧ rdQ b n (rsF b n f p t l o h g) (p + 1) M x := by
  intro F
  induction F with
  | zero => intros; omega
  | succ F ih =>
    intro f p t l o h g M hF hT hk hD ht htp htd h35 h36 hp hf hmore hst hcl
    obtain ⟨f, rfl⟩ : ∃ f1, f = f1 + 1 := ⟨f - 1, by omega⟩
    have hb := tdB_b hT
    have hc := ch_le hb p
    obtain ⟨c0, c1, c2, c3, c4⟩ := id hD
    obtain ⟨k1, k2, k3, k4⟩ := id hk
    have ek := sgc_peek hT (show p < 2 ^ 31 by omega) c0
    have s40 : (sgc (ch b n p) = 40) = (ch b n p = 40) := sgc_eq (k := 40) hc (by decide)
    have s46 : (sgc (ch b n p) = 46) = (ch b n p = 46) := sgc_eq (k := 46) hc (by decide)
    have w2 : zf_164 (sgc (ch b n p)) 97 112 = decide (97 ≤ ch b n p ∧ ch b n p ≤ 112) := sgc_w hc (lo := 97) (hi := 112) (by decide) (by decide)
    have hrf : rsf p t < 300 := by unfold rsf; split <;> omega
    have hpn : ch b n p < 256 → p < n := by
      intro y
      rcases Nat.lt_or_ge p n with c | c
      · exact c
      · have := (ch_end hb p).mpr c
        omega
    have bad : ∀ x q, zf_214_H4 M = some (.inr (zf_186 (nI x) (nI q) M)) → rsF b n (f + 1) p t l o h g = .inl (x, q) → ∃ y, jb_lp zf_214_H4 M = some y ∧ rdQ b n (rsF b n (f + 1) p t l o h g) (p + 1) M y := by
      intro x q e1 e2
      rw [e2]
      refine ⟨_, jb_lp_inr e1, rdX_u (rdX_0 M) (by decide), Or.inl ⟨rfl, x, q, ?_, rfl⟩⟩
      unfold zf_186
      dsimp only
      rw [jb_up_at, if_pos ⟨rfl, rfl⟩]
      rfl
    by_cases q1 : ch b n p = 40
    · by_cases q2 : o < 2
      · -- a group begins
        have hX1 : rdX M (jb_up (jb_up (jb_up (jb_up (jb_up M 100 o (nI (rsf p t))) 101 o (nI l)) 102 o (nI (max 1 t))) 79 34 (nI (o + 1))) 79 5 (nI (p + 1))) := rdX_u (rdX_u (rdX_v (rdX_v (rdX_v (rdX_0 M) (by decide)) (by decide)) (by decide)) (by decide)) (by decide)
        have e1 : zf_214_H4 M = (zf_213 (jb_up (jb_up (jb_up (jb_up (jb_up M 100 o (nI (rsf p t))) 101 o (nI l)) 102 o (nI (max 1 t))) 79 34 (nI (o + 1))) 79 5 (nI (p + 1)))).bind fun q6 => some (.inl q6) := by
          unfold zf_214_H4
          rw [ek, Option.bind_some, if_pos (by rw [s40]; exact q1), if_neg (show ¬ M 79 34 = 2 by rw [c2]; exact fun y => absurd ((nI_eq (b := 2) (by omega) (by decide)).mp y) (by omega))]
          simp only [jb_up_off (show (79 : Nat) ≠ 100 by decide), jb_up_off (show (79 : Nat) ≠ 101 by decide), jb_up_off (show (79 : Nat) ≠ 102 by decide), c1, c2, h35, h36]
          rw [jn_gd q2 (by decide), jn_gd q2 (by decide), jn_gd q2 (by decide), nI_clamp (by omega), show ∀ (Z : jb_Mi) x, jb_up Z 79 34 x 79 5 = Z 79 5 from fun Z x => by rw [jb_up_at, if_neg (by omega)], jb_up_off (show (79 : Nat) ≠ 102 by decide), jb_up_off (show (79 : Nat) ≠ 101 by decide), jb_up_off (show (79 : Nat) ≠ 100 by decide), c0, nI_succ o, nI_succ p]
        have eF : rsF b n (f + 1) p t l o h g = rsF b n f (p + 1) 0 l (o + 1) h (rsu g o (rsf p t, max 1 t, l)) := by
          rw [rsF, if_neg (by omega), if_neg (by omega), if_neg (by omega), if_pos q1, if_pos q2]
        have hD1 : dR (p + 1) l (o + 1) h (rsu g o (rsf p t, max 1 t, l)) (jb_up (jb_up (jb_up (jb_up (jb_up M 100 o (nI (rsf p t))) 101 o (nI l)) 102 o (nI (max 1 t))) 79 34 (nI (o + 1))) 79 5 (nI (p + 1))) := by
          refine ⟨?_, ?_, ?_, ?_, ?_⟩
          · rw [jb_up_at, if_pos ⟨rfl, rfl⟩]
          · rw [jb_up_at, if_neg (by omega), jb_up_at, if_neg (by omega), jb_up_off (by decide), jb_up_off (by decide), jb_up_off (by decide), c1]
          · rw [jb_up_at, if_neg (by omega), jb_up_at, if_pos ⟨rfl, rfl⟩]
          · intro k hk
            rw [jb_up_off (by decide), jb_up_off (by decide), jb_up_off (by decide), jb_up_off (by decide), jb_up_off (by decide), c3 k hk]
          · intro i hi
            by_cases ci : i = o
            · subst ci
              simp [jb_up_at, rsu]
            · have := c4 i (by omega)
              simp only [jb_up_at, rsu, ci, if_false, and_false]
              simpa using this
        obtain ⟨M2, f2, p2, t2, z1, z2, z3, z4, z5, z6, z7, z8, z9, z10, z11, z12, z13, z14, z15⟩ := jd_times hn (tdB_X hT hX1) hD1 (show p + 1 ≤ n from hpn (by omega)) (show n < p + 1 + f by omega)
        rw [z1, Option.bind_some] at e1
        have hX2 := rdX_t hX1 z2
        obtain ⟨x, y1, y2, y3⟩ := ih f2 p2 t2 l (o + 1) h _ M2 (by omega) (tdB_X hT hX2) (rok_new hk q2 hrf ht) z3 z4 z5 z6 z7 z8 z10 z11 (by omega) (fun i hi => by
          unfold rsu
          split
          · exact Nat.le_refl _
          · exact hst i (by omega)) (fun _ _ _ => by
          unfold rsu
          rw [Nat.add_sub_cancel, if_pos rfl]
          exact Nat.le_refl _)
        rw [eF, z15, jb_lp_inl e1]
        refine ⟨x, y1, rdX_t hX2 y2, ?_⟩
        rcases y3 with y3 | ⟨w1, f', p', l', o'', h', g', w2, w3⟩
        · exact Or.inl y3
        · exact Or.inr ⟨w1, f', p', l', o'', h', g', by omega, w3⟩
      · refine bad 5 p ?_ (by rw [rsF, if_neg (by omega), if_neg (by omega), if_neg (by omega), if_pos q1, if_neg q2])
        have : o = 2 := by omega
        subst this
        unfold zf_214_H4
        rw [ek, Option.bind_some, if_pos (by rw [s40]; exact q1), if_pos (show M 79 34 = 2 from c2), c0]
        rfl
    have e0 : zf_214_H4 M = if ch b n p = 46 ∨ (97 ≤ ch b n p ∧ ch b n p ≤ 112) then (zf_214_J139 (nI (rsf p t)) (nI (max 1 t)) (sgc (ch b n p)) M).map .inr else some (.inr (zf_186 (nI 1) (nI p) M)) := by
      unfold zf_214_H4
      rw [ek, Option.bind_some, if_neg (by rw [s40]; exact q1), Option.bind_some, w2, h35, h36, c0]
      by_cases y : ch b n p = 46
      · rw [if_pos (by rw [s46]; exact y), if_pos (Or.inl y)]
      · rw [if_neg (by rw [s46]; exact y)]
        by_cases y2 : 97 ≤ ch b n p ∧ ch b n p ≤ 112
        · rw [decide_eq_true y2, jb_yes, if_pos (Or.inr y2)]
        · rw [decide_eq_false y2, jb_no, if_neg (by omega)]
          rfl
    by_cases q2 : ch b n p = 46 ∨ (97 ≤ ch b n p ∧ ch b n p ≤ 112)
    · rw [if_pos q2] at e0
      have hrv : rsv (ch b n p) ≤ 16 := by unfold rsv; split <;> omega
      have hpn' := hpn (by omega)
      by_cases q3 : 48 < l + max 1 t
      · refine bad 6 (rsf p t) ?_ (by rw [rsF, if_neg (by omega), if_neg (by omega), if_pos q2, if_pos q3])
        rw [e0]
        unfold zf_214_J139
        rw [c1, nI_add, if_pos (show (48 : Int32) < nI (l + max 1 t) from nI_lt (a := 48) q3 (by omega))]
        rfl
      · have eF : rsF b n (f + 1) p t l o h g = rsF b n f (p + 1) 0 (l + max 1 t) o (rsl h l (max 1 t) (rsv (ch b n p))) g := by
          rw [rsF, if_neg (by omega), if_neg (by omega), if_pos q2, if_neg q3]
        have e1 : zf_214_H4 M = (zf_214_J180 (nI (rsf p t)) (nI (max 1 t)) (nI l) (dv (rsv (ch b n p))) M).map .inr := by
          rw [e0]
          unfold zf_214_J139
          rw [c1, nI_add, if_neg (show ¬ (48 : Int32) < nI (l + max 1 t) from nI_nlt (a := 48) (by omega) (by omega))]
          simp only [s46]
          by_cases y : ch b n p = 46
          · rw [if_pos y]
            unfold rsv dv
            rw [if_pos y, if_pos rfl]
          · rw [if_neg y]
            unfold rsv dv
            rw [if_neg y, if_neg (by omega), sgc_in (by omega), show nI (ch b n p) - 97 = nI (ch b n p - 97) from pk_sub (b := 97) (by omega)]
        have hX1 : rdX M (jb_up (jb_up (jb_up M 99 l (dv (rsv (ch b n p)))) 79 33 (nI (l + 1))) 79 5 (nI (p + 1))) := rdX_u (rdX_u (rdX_v (rdX_0 M) (by decide)) (by decide)) (by decide)
        obtain ⟨r1, r2⟩ := jd_rsrep (M := jb_up (jb_up (jb_up M 99 l (dv (rsv (ch b n p)))) 79 33 (nI (l + 1))) 79 5 (nI (p + 1))) (h := rsl h l 1 (rsv (ch b n p))) (l := l + 1) (s := l) (k := max 1 t) (m := max 1 t - 1) (by rw [jb_up_at, if_neg (by omega), jb_up_at, if_pos ⟨rfl, rfl⟩]) (fun j hj => by
          rw [jb_up_off (by decide), jb_up_off (by decide), jb_up_at]
          unfold rsl
          by_cases cj : j = l
          · rw [if_pos ⟨rfl, cj⟩, if_pos (by omega)]
          · rw [if_neg (by omega), if_neg (by omega), c3 j (by omega)]) (by omega) (by omega) (by omega) (by omega) (by rw [show l + 1 - l = 1 by omega, Nat.one_mul]) (nI (rsf p t))
        obtain ⟨M1, a1, a2, a3, a4, a5⟩ := r2 (by omega)
        have e2 : zf_214_J180 (nI (rsf p t)) (nI (max 1 t)) (nI l) (dv (rsv (ch b n p))) M = jb_lp zf_214_H218 M1 := by
          unfold zf_214_J180
          rw [jn_gd (by omega) (by decide), nI_clamp (by omega)]
          simp only [jb_up_off (show (79 : Nat) ≠ 99 by decide), c1]
          rw [show jb_up (jb_up M 99 l (dv (rsv (ch b n p)))) 79 33 (nI l + 1) 79 5 + 1 = nI (p + 1) by rw [jb_up_at, if_neg (by omega), jb_up_off (by decide), c0, nI_succ], ← nI_succ, show jb_up (jb_up (jb_up M 99 l (dv (rsv (ch b n p)))) 79 33 (nI (l + 1))) 79 5 (nI (p + 1)) 79 33 - 1 = nI l by rw [jb_up_at, if_neg (by omega), jb_up_at, if_pos ⟨rfl, rfl⟩, nI_pred], a1, Option.bind_some, jb_yes]
        have hX2 : rdX M M1 := rdX_t hX1 ⟨fun a q1 q2 _ _ _ => a4 a q1 q2, fun j _ _ q3 _ _ _ => a5 j q3⟩
        have hD2 : dR (p + 1) (l + max 1 t) o (rsl h l (max 1 t) (rsv (ch b n p))) g M1 := by
          refine ⟨?_, ?_, ?_, ?_, fun i hi => ?_⟩
          · rw [a5 5 (by decide), jb_up_at, if_pos ⟨rfl, rfl⟩]
          · rw [a2]; congr 1; omega
          · rw [a5 34 (by decide), jb_up_at, if_neg (by omega), jb_up_at, if_neg (by omega), jb_up_off (by decide), c2]
          · intro k hk
            rw [a3 k (by omega), rsp_1, show max 1 t - 1 + 1 = max 1 t by omega]
          · rw [a4 100 (by decide) (by decide), a4 101 (by decide) (by decide), a4 102 (by decide) (by decide), jb_up_off (by decide), jb_up_off (by decide), jb_up_off (by decide), jb_up_off (by decide), jb_up_off (by decide), jb_up_off (by decide), jb_up_off (by decide), jb_up_off (by decide), jb_up_off (by decide)]
            exact c4 i hi
        obtain ⟨x, z1, z2, z3⟩ := jd_close hn f (p + 1) (l + max 1 t) o _ g M1 (tdB_X hT hX2) (rok_add hk (by omega) hrv) hD2 (by omega) (fun i hi => by have := hst i hi; omega) (by omega) (by omega)
        rw [eF]
        refine ⟨x, jb_lp_inr (by rw [e1, e2, z1]; rfl), rdX_t hX2 z2, z3⟩
    · rw [if_neg q2] at e0
      refine bad 1 p e0 ?_
      by_cases y0 : ch b n p = 256
      · have : n ≤ p := (ch_end hb p).mp y0
        have : p = n := by omega
        subst this
        rw [rsF, if_pos y0, if_neg (by omega)]
      · rw [rsF, if_neg y0]
        by_cases y1 : 50 ≤ ch b n p ∧ ch b n p ≤ 57
        · rw [if_pos y1, if_neg (fun y => htd y y1)]
        · rw [if_neg y1, if_neg q2, if_neg q1]
          exact if_neg (fun y => by have := hcl y.1 y.2.1 y.2.2.1; omega)
