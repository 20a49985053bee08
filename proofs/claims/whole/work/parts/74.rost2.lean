/-! ROSTERS: the class reads -/
noncomputable def rsr (x : (Nat × Nat) ⊕ (Nat × (Nat → Nat))) : Int32 := match x with
  | .inl y => zf_74 (nI y.1) (nI y.2)
  | .inr y => nI y.1
def rsO (x : (Nat × Nat) ⊕ (Nat × (Nat → Nat))) (M : jb_Mi) : Prop := match x with
  | .inl y => y.1 ≤ 9 ∧ y.2 < 300
  | .inr y => 0 < y.1 ∧ y.1 ≤ 48 ∧ M 34 3 = nI y.1 ∧ ∀ k, k < y.1 → y.2 k ≤ 16 ∧ M 37 k = cv (y.2 k)
def rsX (M M' : jb_Mi) : Prop := ∀ a, a ≠ 34 → a ≠ 37 → a ≠ 38 → a ≠ 39 → a ≠ 40 → M' a = M a
theorem jc_rs {b : Nat → Nat} {n : Nat} (hn : n < 300) : ∀ (f p t l o : Nat) (h : Nat → Nat) (g : rsG) (M : jb_Mi), tcB b n M → rok l o h g → cR l o h g M → t ≤ 9 → (t ≠ 0 → 0 < p) → p ≤ n → n < p + f → ∃ M', jb_lp zf_99_H14 (nI t, nI p, M) = some (rsr (rsF b n f p t l o h g), M') ∧ rsX M M' ∧ rsO (rsF b n f p t l o h g) M' := by
  intro f
  induction f with
  | zero => intros; omega
  | succ f ih =>
    intro p t l o h g M hT hk hC ht htp hp hf
    have hb := tcB_b hT
    have hc := ch_le hb p
    obtain ⟨c1, c2, c3, c4⟩ := id hC
    obtain ⟨k1, k2, k3, k4⟩ := id hk
    have t0 : (nI t = 0) = (t = 0) := jn_eq (b := 0) (by omega) (by decide)
    -- a fault ends it
    have bad : ∀ x q M', (x ≤ 9 ∧ q < 300) → rsX M M' → zf_99_H14 (nI t, nI p, M) = some (.inr (zf_74 (nI x) (nI q), M')) → rsF b n (f + 1) p t l o h g = .inl (x, q) → ∃ M', jb_lp zf_99_H14 (nI t, nI p, M) = some (rsr (rsF b n (f + 1) p t l o h g), M') ∧ rsX M M' ∧ rsO (rsF b n (f + 1) p t l o h g) M' := by
      intro x q M' hxq hx e1 e2
      rw [e2]
      exact ⟨M', jb_lp_inr e1, hx, hxq⟩
    -- one more byte
    have go : ∀ t' l' o' h' g' M', rsX M M' → rok l' o' h' g' → cR l' o' h' g' M' → t' ≤ 9 → p < n → zf_99_H14 (nI t, nI p, M) = some (.inl (nI t', nI (p + 1), M')) → rsF b n (f + 1) p t l o h g = rsF b n f (p + 1) t' l' o' h' g' → ∃ M', jb_lp zf_99_H14 (nI t, nI p, M) = some (rsr (rsF b n (f + 1) p t l o h g), M') ∧ rsX M M' ∧ rsO (rsF b n (f + 1) p t l o h g) M' := by
      intro t' l' o' h' g' M1 hx q1 q2 q3 q4 e1 e2
      obtain ⟨M', r1, r2, r3⟩ := ih (p + 1) t' l' o' h' g' M1 (tcB_of hT (hx 2 (by decide) (by decide) (by decide) (by decide) (by decide)) (hx 3 (by decide) (by decide) (by decide) (by decide) (by decide))) q1 q2 q3 (fun _ => by omega) (by omega) (by omega)
      rw [e2, jb_lp_inl e1]
      exact ⟨M', r1, fun a a1 a2 a3 a4 a5 => by rw [r2 a a1 a2 a3 a4 a5, hx a a1 a2 a3 a4 a5], r3⟩
    have hx0 : rsX M M := fun a _ _ _ _ _ => rfl
    by_cases cp : n ≤ p
    · -- the end of the text
      have ce : ch b n p = 256 := (ch_end hb p).mpr cp
      have e0 : zf_99_H14 (nI t, nI p, M) = if nI t = 0 then if (M 34 7) = 0 then if (M 34 3) = 0 then ((zf_99_J290 M).map .inr) else some (.inr ((M 34 3), M)) else ((zf_99_J290 M).map .inr) else ((zf_99_J290 M).map .inr) := by
        unfold zf_99_H14
        exact if_neg (by dsimp only; rw [hT.2.1]; exact nI_nlt cp (by omega))
      have e9 : ((zf_99_J290 M).map Sum.inr : Option ((Int32 × Int32 × jb_Mi) ⊕ (Int32 × jb_Mi))) = some (.inr (zf_74 (nI 1) (nI n), M)) := by
        unfold zf_99_J290
        rw [hT.2.1]; rfl
      have eo : (M 34 7 = 0) = (o = 0) := by rw [c2]; exact jn_eq (b := 0) (by omega) (by decide)
      have el : (M 34 3 = 0) = (l = 0) := by rw [c1]; exact jn_eq (b := 0) (by omega) (by decide)
      simp only [t0, eo, el, e9] at e0
      by_cases q : t = 0 ∧ o = 0 ∧ l ≠ 0
      · have eF : rsF b n (f + 1) p t l o h g = .inr (l, h) := by rw [rsF, if_pos ce, if_pos q]
        rw [eF]
        rw [if_pos q.1, if_pos q.2.1, if_neg q.2.2] at e0
        refine ⟨M, ?_, hx0, ?_⟩
        · rw [jb_lp_inr e0, c1]; rfl
        · exact ⟨by dsimp only; omega, k1, c1, fun k hk => ⟨k3 k hk, c3 k hk⟩⟩
      · refine bad 1 n M ⟨by omega, by omega⟩ hx0 ?_ (by rw [rsF, if_pos ce, if_neg q])
        rw [e0]
        by_cases q1 : t = 0
        · rw [if_pos q1]
          by_cases q2 : o = 0
          · rw [if_pos q2, if_pos (by omega)]
          · rw [if_neg q2]
        · rw [if_neg q1]
    -- a byte
    have cn : ¬ ch b n p = 256 := fun y => cp ((ch_end hb p).mp y)
    have cb : ch b n p < 256 := by omega
    have e0 : zf_99_H14 (nI t, nI p, M) = zf_99_J40 (nI t) (nI p) (sgc (ch b n p)) (nI (rsf p t)) M := by
      unfold zf_99_H14
      rw [if_pos (by dsimp only; rw [hT.2.1]; exact nI_lt (by omega) (by omega))]
      dsimp only
      rw [sgc_byte hT (by omega), Option.bind_some]
      unfold rsf
      by_cases q1 : t = 0
      · rw [if_pos (by rw [t0]; exact q1), if_pos q1]
      · rw [if_neg (by rw [t0]; exact q1), if_neg q1]
        rw [show nI p - 1 = nI (p - 1) from pk_sub (b := 1) (htp q1)]
    have w1 : zf_23 (sgc (ch b n p)) 50 57 = decide (50 ≤ ch b n p ∧ ch b n p ≤ 57) := sgc_w hc (lo := 50) (hi := 57) (by decide) (by decide)
    have w2 : zf_86 (sgc (ch b n p)) = decide (97 ≤ ch b n p ∧ ch b n p ≤ 112) := sgc_w hc (lo := 97) (hi := 112) (by decide) (by decide)
    have s46 : (sgc (ch b n p) = 46) = (ch b n p = 46) := sgc_eq (k := 46) hc (by decide)
    have s40 : (sgc (ch b n p) = 40) = (ch b n p = 40) := sgc_eq (k := 40) hc (by decide)
    have s41 : (sgc (ch b n p) = 41) = (ch b n p = 41) := sgc_eq (k := 41) hc (by decide)
    have emx : zf_271 1 (nI t) = nI (max 1 t) := jn_max (a := 1) (by decide) (by omega)
    have hrf : rsf p t < 300 := by unfold rsf; split <;> omega
    by_cases q1 : 50 ≤ ch b n p ∧ ch b n p ≤ 57
    · -- how often
      have e1 : zf_99_H14 (nI t, nI p, M) = if t = 0 then zf_99_J76 (nI p) (sgc (ch b n p)) (nI p) 0 M else zf_99_J76 (nI p) (sgc (ch b n p)) (nI p) 1 M := by
        rw [e0]
        unfold zf_99_J40
        rw [w1, decide_eq_true q1, jb_yes]
        simp only [t0]
      by_cases q2 : t = 0
      · refine go (ch b n p - 48) l o h g M hx0 hk hC (by omega) (by omega) ?_ (by rw [rsF, if_neg cn, if_pos q1, if_pos q2])
        rw [e1, if_pos q2, sgc_in cb]
        unfold zf_99_J76 zf_99_J253
        rw [if_pos rfl, show nI (ch b n p) - 48 = nI (ch b n p - 48) from pk_sub (b := 48) (by omega), nI_succ]
      · refine bad 1 p M ⟨by omega, by omega⟩ hx0 ?_ (by rw [rsF, if_neg cn, if_pos q1, if_neg q2])
        rw [e1, if_neg q2]
        unfold zf_99_J76 zf_99_J253
        rw [if_neg (by decide)]
        rfl
    have cq1 := decide_eq_false q1
    by_cases q2 : ch b n p = 46 ∨ (97 ≤ ch b n p ∧ ch b n p ≤ 112)
    · -- a man's hour, or nobody's
      have hrv : rsv (ch b n p) ≤ 16 := by unfold rsv; split <;> omega
      have e1 : zf_99_H14 (nI t, nI p, M) = zf_99_J120 (nI p) (nI (rsf p t)) (nI (max 1 t)) (cv (rsv (ch b n p))) M := by
        rw [e0]
        unfold zf_99_J40
        rw [w1, cq1, jb_no, w2, emx]
        unfold zf_99_J102
        simp only [s46]
        by_cases q3 : ch b n p = 46
        · rw [decide_eq_false (by omega), jb_no, if_pos q3, if_pos q3]
          unfold rsv cv
          rw [if_pos q3, if_pos rfl]
        · rw [decide_eq_true (by omega), jb_yes, if_neg q3]
          unfold rsv cv
          rw [if_neg q3, if_neg (by omega), sgc_in cb, show nI (ch b n p) - 97 = nI (ch b n p - 97) from pk_sub (b := 97) (by omega)]
      by_cases q3 : 48 < l + max 1 t
      · refine bad 6 (rsf p t) M ⟨by omega, by omega⟩ hx0 ?_ (by rw [rsF, if_neg cn, if_neg q1, if_pos q2, if_pos q3])
        rw [e1]
        unfold zf_99_J120 zf_95
        rw [c1, nI_add, if_pos (show (48 : Int32) < nI (l + max 1 t) from nI_lt (a := 48) q3 (by omega)), Option.bind_some, jb_no]
        unfold zf_99_J134 zf_99_J253
        rw [if_neg (by decide)]
        rfl
      · obtain ⟨M1, a1, a2, a3⟩ := jc_rsadd (m := max 1 t) (v := rsv (ch b n p)) hk hC (by omega)
        refine go 0 (l + max 1 t) o _ g M1 (fun a h1 h2 _ _ _ => a3 a h1 h2) (rok_add hk (by omega) hrv) a2 (by omega) (by omega) ?_ (by rw [rsF, if_neg cn, if_neg q1, if_pos q2, if_neg q3])
        rw [e1]
        unfold zf_99_J120
        rw [a1, Option.bind_some, jb_yes]
        unfold zf_99_J134 zf_99_J253
        rw [if_pos rfl, nI_succ]
        rfl
    have cq2 : zf_86 (sgc (ch b n p)) = false := by rw [w2]; exact decide_eq_false (by omega)
    by_cases q3 : ch b n p = 40
    · -- a group begins
      have e1 : zf_99_H14 (nI t, nI p, M) = (zf_96 (nI (rsf p t)) (nI (max 1 t)) M).bind fun q3 => if (jb_b2i q3.1) = 0 then zf_99_J168 (nI p) (nI p) 5 q3.2 else zf_99_J168 (nI p) (nI p) 0 q3.2 := by
        rw [e0]
        unfold zf_99_J40
        rw [w1, cq1, jb_no, cq2, jb_no, emx]
        simp only [s46, s40]
        rw [if_neg (by omega), if_pos q3]
      by_cases q4 : o < 2
      · refine go 0 l (o + 1) h (rsu g o (rsf p t, max 1 t, l)) (jb_up (jb_up (jb_up (jb_up M 38 o (nI (rsf p t))) 39 o (nI (max 1 t))) 40 o (nI l)) 34 7 (nI (o + 1))) (fun a h1 _ h3 h4 h5 => by rw [jb_up_off h1, jb_up_off h5, jb_up_off h4, jb_up_off h3]) (rok_new hk q4 hrf ht) ?_ (by omega) (by omega) ?_ (by rw [rsF, if_neg cn, if_neg q1, if_neg q2, if_pos q3, if_pos q4])
        · refine ⟨?_, ?_, ?_, fun i hi => ?_⟩
          · rw [jb_up_at, if_neg (by omega), jb_up_off (by decide), jb_up_off (by decide), jb_up_off (by decide), c1]
          · rw [jb_up_at, if_pos ⟨rfl, rfl⟩]
          · intro k hk
            rw [jb_up_off (by decide), jb_up_off (by decide), jb_up_off (by decide), jb_up_off (by decide), c3 k hk]
          · by_cases ci : i = o
            · subst ci
              simp [jb_up_at, rsu]
            · have := c4 i (by omega)
              simp only [jb_up_at, rsu, ci, if_false, and_false]
              simpa using this
        · rw [e1]
          unfold zf_96
          simp only [jb_up_off (show (34 : Nat) ≠ 38 by decide), jb_up_off (show (34 : Nat) ≠ 39 by decide), jb_up_off (show (34 : Nat) ≠ 40 by decide), c1, c2]
          rw [if_pos (show nI o < 2 from nI_lt (b := 2) q4 (by decide)), jn_gd q4 (by decide), jn_gd q4 (by decide), jn_gd q4 (by decide), Option.bind_some, nI_clamp (by omega), jb_yes]
          unfold zf_99_J168 zf_99_J253
          rw [if_pos rfl]
          simp only [nI_succ]
          rfl
      · refine bad 5 p M ⟨by omega, by omega⟩ hx0 ?_ (by rw [rsF, if_neg cn, if_neg q1, if_neg q2, if_pos q3, if_neg q4])
        rw [e1]
        unfold zf_96
        rw [if_neg (show ¬ M 34 7 < 2 by rw [c2]; exact nI_nlt (b := 2) (by omega) (by omega)), Option.bind_some, jb_no]
        unfold zf_99_J168 zf_99_J253
        rw [if_neg (by decide)]
        rfl
    -- the rest
    have e250 : zf_99_J250 (nI t) (nI p) (nI p) M = some (.inr (zf_74 (nI 1) (nI p), M)) := by
      unfold zf_99_J250 zf_99_J253
      rw [if_neg (by decide)]
      rfl
    have e1 : zf_99_H14 (nI t, nI p, M) = if ch b n p = 41 then if t = 0 then (zf_97 M).bind fun q4 => if (jb_b2i q4) = 0 then zf_99_J250 (nI t) (nI p) (nI p) M else jb_gd ((jb_up M 34 7 ((M 34 7) - 1)) 34 7) 2 (jb_gd ((jb_up M 34 7 ((M 34 7) - 1)) 34 7) 2 (jb_gd ((jb_up M 34 7 ((M 34 7) - 1)) 34 7) 2 ((zf_98 ((jb_up M 34 7 ((M 34 7) - 1)) 40 (((jb_up M 34 7 ((M 34 7) - 1)) 34 7)).toNatClampNeg) ((jb_up M 34 7 ((M 34 7) - 1)) 39 (((jb_up M 34 7 ((M 34 7) - 1)) 34 7)).toNatClampNeg) (jb_up M 34 7 ((M 34 7) - 1))).bind fun q8 => if (jb_b2i q8.1) = 0 then zf_99_J245 (nI t) (nI p) ((jb_up M 34 7 ((M 34 7) - 1)) 38 (((jb_up M 34 7 ((M 34 7) - 1)) 34 7)).toNatClampNeg) 6 q8.2 else zf_99_J245 (nI t) (nI p) ((jb_up M 34 7 ((M 34 7) - 1)) 38 (((jb_up M 34 7 ((M 34 7) - 1)) 34 7)).toNatClampNeg) 0 q8.2))) else zf_99_J250 (nI t) (nI p) (nI p) M else zf_99_J250 (nI t) (nI p) (nI p) M := by
      rw [e0]
      unfold zf_99_J40
      rw [w1, cq1, jb_no, cq2, jb_no]
      simp only [s46, s40, s41, t0]
      rw [if_neg (by omega), if_neg q3]
    have e97 : zf_97 M = some (decide (0 < o ∧ (g (o - 1)).2.2 < l)) := by
      unfold zf_97
      rw [c2]
      by_cases y1 : 0 < o
      · have c40 := (c4 (o - 1) (by omega)).2.2
        have hg := (k4 (o - 1) (by omega)).2.2.2
        rw [if_pos (show (0 : Int32) < nI o from nI_lt (a := 0) y1 (by omega)), if_neg (show ¬ (2 : Int32) < nI o from nI_nlt (a := 2) (by omega) (by omega)), show nI o - 1 = nI (o - 1) from pk_sub (b := 1) y1, jn_gd (by omega) (by decide), nI_clamp (by omega), c40, c1]
        by_cases y2 : (g (o - 1)).2.2 < l
        · rw [if_pos (nI_lt y2 (by omega)), decide_eq_true ⟨y1, y2⟩]
        · rw [if_neg (nI_nlt (by omega) (by omega)), decide_eq_false (fun y => y2 y.2)]
      · rw [if_neg (show ¬ (0 : Int32) < nI o from nI_nlt (a := 0) (by omega) (by omega)), decide_eq_false (fun y => y1 y.1)]
    by_cases q4 : ch b n p = 41 ∧ t = 0 ∧ 0 < o ∧ (g (o - 1)).2.2 < l
    · -- a group ends
      obtain ⟨o', rfl⟩ : ∃ o', o = o' + 1 := ⟨o - 1, by omega⟩
      rw [if_pos q4.1, if_pos q4.2.1, e97, decide_eq_true q4.2.2, Option.bind_some, jb_yes] at e1
      simp only [Nat.add_sub_cancel] at q4 e1 ⊢
      have hM7 : M 34 7 - 1 = nI o' := by rw [c2]; exact nI_pred o'
      obtain ⟨d1, d2, d3⟩ := c4 o' (by omega)
      obtain ⟨d4, d5, d6, d7⟩ := k4 o' (by omega)
      have hme := rsm_le hk (show o' < o' + 1 by omega)
      rw [hM7, show jb_up M 34 7 (nI o') 34 7 = nI o' by rw [jb_up_at, if_pos ⟨rfl, rfl⟩], jn_gd (by omega) (by decide), jn_gd (by omega) (by decide), jn_gd (by omega) (by decide), nI_clamp (by omega), jb_up_off (show (40 : Nat) ≠ 34 by decide), jb_up_off (show (39 : Nat) ≠ 34 by decide), jb_up_off (show (38 : Nat) ≠ 34 by decide), d1, d2, d3] at e1
      have hk' : rok l o' h g := ⟨k1, by omega, k3, fun i hi => k4 i (by omega)⟩
      have hC' : cR l o' h g (jb_up M 34 7 (nI o')) := by
        refine ⟨?_, ?_, ?_, ?_⟩
        · rw [jb_up_at, if_neg (by omega), c1]
        · rw [jb_up_at, if_pos ⟨rfl, rfl⟩]
        · intro k hk
          rw [jb_up_off (by decide), c3 k hk]
        · intro i hi
          rw [jb_up_off (by decide), jb_up_off (by decide), jb_up_off (by decide)]
          exact c4 i (by omega)
      have hxx : rsX M (jb_up M 34 7 (nI o')) := fun a h1 _ _ _ _ => jb_up_off h1
      by_cases q5 : 48 < l + rsm l (g o')
      · refine bad 6 (g o').1 _ ⟨by omega, by omega⟩ hxx ?_ (by rw [rsF, if_neg cn, if_neg q1, if_neg q2, if_neg q3, if_pos (by simp only [Nat.add_sub_cancel]; exact q4), if_pos (by simp only [Nat.add_sub_cancel]; exact q5)]; rfl)
        rw [e1]
        unfold zf_98
        rw [hC'.1, show nI (g o').2.1 - 1 = nI ((g o').2.1 - 1) from pk_sub (b := 1) d5, pk_sub d7, jn_mul, show (l - (g o').2.2) * ((g o').2.1 - 1) = rsm l (g o') from rfl, nI_add, if_neg (nI_pos (by omega)), if_neg (nI_pos (by omega)), if_pos (show (48 : Int32) < nI (l + rsm l (g o')) from nI_lt (a := 48) q5 (by omega)), Option.bind_some, jb_no]
        unfold zf_99_J245 zf_99_J253
        rw [if_neg (by decide)]
        rfl
      · obtain ⟨M1, a1, a2, a3⟩ := jc_rsrep hk' hC' (s := (g o').2.2) (k := (g o').2.1) (m := rsm l (g o')) q4.2.2.2 (by omega) d5 rfl
        refine go 0 (l + rsm l (g o')) o' _ g M1 (fun a h1 h2 h3 h4 h5 => by rw [a3 a h1 h2, hxx a h1 h2 h3 h4 h5]) (rok_rep hk q4.2.2.2 (by omega)) a2 (by omega) (by omega) ?_ (by rw [rsF, if_neg cn, if_neg q1, if_neg q2, if_neg q3, if_pos (by simp only [Nat.add_sub_cancel]; exact q4), if_neg (by simp only [Nat.add_sub_cancel]; exact q5)]; rfl)
        rw [e1, a1, Option.bind_some, jb_yes]
        unfold zf_99_J245 zf_99_J253
        rw [if_pos rfl, nI_succ, q4.2.1]
    · refine bad 1 p M ⟨by omega, by omega⟩ hx0 ?_ (by rw [rsF, if_neg cn, if_neg q1, if_neg q2, if_neg q3, if_neg q4])
      rw [e1, e250, e97, Option.bind_some]
      by_cases y1 : ch b n p = 41
      · rw [if_pos y1]
        by_cases y2 : t = 0
        · rw [if_pos y2, decide_eq_false (fun y => q4 ⟨y1, y2, y⟩), jb_no]
        · rw [if_neg y2]
      · rw [if_neg y1]
