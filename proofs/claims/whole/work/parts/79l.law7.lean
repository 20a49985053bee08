/-! THE LAW: the class reads rule by rule -/
theorem jc_rl {b : Nat → Nat} {n r p sz : Nat} {M : jb_Mi} (hn : n ≤ 240) (hr : r < 16) (hT : tcB b n M) (h2 : M 50 2 = nI p) (h5 : M 51 5 = nI sz) (hsz : sz ≤ p) (hp : p < n) : match spR b n p with
    | .inl e => ∃ M', zf_84_J79 (nI r) (sgc (ch b n p)) M = some (.inr (zf_74 (nI e.1) (nI e.2), M')) ∧ lZ sz r M M'
    | .inr y => ∃ M' s t sz', zf_84_J79 (nI r) (sgc (ch b n p)) M = ctl r M' ∧ lC b n sz' y.1 [] M' ∧ sz' + 1 ≤ y.1 ∧ sz ≤ sz' ∧ M' 51 6 = nI (r + 1) ∧ drC M' sz' r (ch b n p) y.2.1 y.2.2 s t ∧ lZ sz r M M' := by
  have hb := tcB_b hT
  have hc : ch b n p < 256 := by
    unfold ch
    rw [if_pos hp]
    exact hb.2 p hp
  have hM1 : lC b n sz (p + 1) [] (jb_up (jb_up (jb_up M 50 2 (nI (p + 1))) 54 r (nI (ch b n p))) 55 r (nI sz)) := by
    refine ⟨tcB_of hT (by rw [jb_up_off (by decide), jb_up_off (by decide), jb_up_off (by decide)]) (by rw [jb_up_off (by decide), jb_up_off (by decide), jb_up_off (by decide)]), by rw [jb_up_off (by decide), jb_up_off (by decide), jb_up_at, if_pos ⟨rfl, rfl⟩], by rw [jb_up_off (by decide), jb_up_off (by decide), jb_up_off (by decide), h5]; rfl, fun k hk => by simp at hk⟩
  have hZ1 : lZ sz r M (jb_up (jb_up (jb_up M 50 2 (nI (p + 1))) 54 r (nI (ch b n p))) 55 r (nI sz)) := lZ_u (lZ_u (lZ_u (lZ_0 sz r M) (by omega)) (by omega)) (by omega)
  have s120 : (sgc (ch b n p) = 120) = (ch b n p = 120) := sgc_eq (k := 120) (by omega) (by decide)
  have e0 : zf_84_J79 (nI r) (sgc (ch b n p)) M = if ch b n p = 120 then zf_84_J166 (nI r) (jb_up (jb_up (jb_up M 50 2 (nI (p + 1))) 54 r (nI (ch b n p))) 55 r (nI sz)) else (zfr_LT 40 0 0 (jb_up (jb_up (jb_up M 50 2 (nI (p + 1))) 54 r (nI (ch b n p))) 55 r (nI sz))).bind fun q11 => if (jb_b2i q11.1) = 0 then some (.inr ((zf_74 (q11.2 50 3) (q11.2 50 2)), q11.2)) else (zf_70 0 0 q11.2).bind fun q12 => zf_84_J166 (nI r) q12.2 := by
    unfold zf_84_J79
    have hr16 : (nI r = 16) = (r = 16) := jn_eq (b := 16) (by omega) (by decide)
    simp only [hr16, s120]
    rw [if_neg (by omega), jn_gd hr (by decide), jn_gd hr (by decide), nI_clamp (by omega), jb_up_off (show (51 : Nat) ≠ 54 by decide), jb_up_off (show (51 : Nat) ≠ 50 by decide), h5, h2, ← nI_succ, sgc_in hc]
  have e54 : ∀ M' : jb_Mi, (∀ a, a = 54 ∨ a = 55 → M' a = jb_up (jb_up (jb_up M 50 2 (nI (p + 1))) 54 r (nI (ch b n p))) 55 r (nI sz) a) → M' 54 r = nI (ch b n p) ∧ M' 55 r = nI sz := by
    intro M' h
    rw [h 54 (by omega), h 55 (by omega)]
    exact ⟨by rw [jb_up_off (by decide), jb_up_at, if_pos ⟨rfl, rfl⟩], by rw [jb_up_at, if_pos ⟨rfl, rfl⟩]⟩
  generalize jb_up (jb_up (jb_up M 50 2 (nI (p + 1))) 54 r (nI (ch b n p))) 55 r (nI sz) = M1 at hM1 hZ1 e0 e54
  rw [spR_c]
  by_cases c : ch b n p = 120
  · rw [if_pos c] at e0 ⊢
    dsimp only
    have ht := jc_tests hn hb hr hM1 (by omega) (by omega)
    cases e : cpR b n (p + 1) with
    | inl x =>
      rw [e] at ht
      obtain ⟨M', k1, k2⟩ := ht
      exact ⟨M', by rw [e0, k1], lZ_t hZ1 k2⟩
    | inr z =>
      rw [e] at ht
      obtain ⟨M', k1, k2, k3, k4, k5, k6, k7, k8, k9, k10⟩ := ht
      obtain ⟨u1, u2⟩ := e54 M' (fun a ha => by rcases ha with rfl | rfl; exact k5; exact k6)
      exact ⟨M', sz, sz, sz + z.2.length + 1, by rw [e0, k1], k2, by dsimp only; omega, by omega, k7, ⟨u1, u2, k4, ⟨by dsimp only; omega, k8, k9⟩, fun y => absurd c y⟩, lZ_t hZ1 k10⟩
  · rw [if_neg c] at e0 ⊢
    obtain ⟨r6, r61, r62⟩ := ((jc_LT (s := sz) hn hb 6 (by omega) 40).2 (by omega)) (p + 1) [] M1 hM1 wfc_nil (by simp [dp]) (by omega) (by simp; omega)
    have g := (spE_ok hb 6).2 (p + 1) [] wfc_nil (by simp [dp]) hp (by simp)
    rw [show zfr_LT 40 0 0 M1 = some r6 from r61, Option.bind_some] at e0
    have hZ6 : lZ sz r M r6.2 := lZ_X hZ1 (Nat.le_refl _) r62.1
    cases e : spE b n 6 (p + 1) [] with
    | inl x =>
      rw [e] at r62
      rw [r62.2.1, jb_no, r62.2.2.1, r62.2.2.2] at e0
      exact ⟨_, e0, hZ6⟩
    | inr y =>
      rw [e] at r62 g
      obtain ⟨a1, a2, a3, a4⟩ := g
      obtain ⟨x1, x2, x3⟩ := r62
      have hl := a3.2.2.1
      simp at hl
      obtain ⟨w, M8, m1, m2, m3, m4, m5⟩ := jc_end x3 (by omega) (fun k hk => a3.2.2.2 k (by simp) hk)
      rw [x2, jb_yes, m1, Option.bind_some] at e0
      have hZ8 := lZ_X hZ6 (Nat.le_refl _) m5
      have ht := jc_tests hn hb hr m2 (by omega) (by omega)
      dsimp only at e0 ⊢
      cases e2 : cpR b n y.1 with
      | inl x =>
        rw [e2] at ht
        obtain ⟨M', k1, k2⟩ := ht
        refine ⟨M', by rw [e0, k1], lZ_t hZ8 ⟨k2.1, k2.2.1, fun j hj => k2.2.2 j (by omega)⟩⟩
      | inr z =>
        rw [e2] at ht
        obtain ⟨M', k1, k2, k3, k4, k5, k6, k7, k8, k9, k10⟩ := ht
        obtain ⟨u1, u2⟩ := e54 M' (fun a ha => by
          have f : ∀ a, a = 54 ∨ a = 55 → M8 a = M1 a := fun a ha => by rw [m5.1 a (by omega) (by omega) (by omega) (by omega), x1.1 a (by omega) (by omega) (by omega) (by omega)]
          rcases ha with rfl | rfl
          · rw [k5, f 54 (by omega)]
          · rw [k6, f 55 (by omega)])
        refine ⟨M', sz, sz + y.2.length + 1, sz + y.2.length + 1 + z.2.length + 1, by rw [e0, k1], k2, by dsimp only; omega, by omega, k7, ⟨u1, u2, k4, ⟨by dsimp only; omega, k8, k9⟩, fun _ => ⟨by dsimp only; omega, ?_, ?_⟩⟩, lZ_t hZ8 ⟨k10.1, k10.2.1, fun j hj => k10.2.2 j (by omega)⟩⟩
        · intro k hk
          dsimp only at hk ⊢
          rw [(k10.2.2 (sz + k) (by omega)).1, (k10.2.2 (sz + k) (by omega)).2]
          exact m3 k hk
        · dsimp only
          rw [(k10.2.2 (sz + y.2.length) (by omega)).1, m4]
def ug (u : lwU) (r : Nat) : Nat × jPc × jPc := u.getD r (0, [], [])
theorem ug_app (u : lwU) (x : Nat × jPc × jPc) (r : Nat) : ug (u ++ [x]) r = if r < u.length then ug u r else if r = u.length then x else (0, [], []) := by
  unfold ug
  rw [List.getD_eq_getElem?_getD, List.getD_eq_getElem?_getD]
  by_cases h : r < u.length
  · rw [if_pos h, List.getElem?_append_left h]
  · rw [if_neg h, List.getElem?_append_right (by omega)]
    by_cases h2 : r = u.length
    · subst h2
      rw [if_pos rfl, Nat.sub_self]
      rfl
    · rw [if_neg h2, List.getElem?_eq_none (by simp; omega)]
      rfl
def drU (u : lwU) (sz : Nat) (M : jb_Mi) : Prop := ∀ r, r < u.length → ∃ s t, drC M sz r (ug u r).1 (ug u r).2.1 (ug u r).2.2 s t
theorem drC_of {M M' : jb_Mi} {sz sz' r e s t : Nat} {E C : jPc} (h : drC M sz r e E C s t) (hs : sz ≤ sz') (h54 : M' 54 r = M 54 r ∧ M' 55 r = M 55 r ∧ M' 56 r = M 56 r) (hc : ∀ j, j < sz → M' 52 j = M 52 j ∧ M' 53 j = M 53 j) : drC M' sz' r e E C s t := by
  obtain ⟨h1, h2, h3, ⟨h4, h5, h6⟩, h7⟩ := h
  refine ⟨by rw [h54.1, h1], by rw [h54.2.1, h2], by rw [h54.2.2, h3], ⟨by omega, fun k hk => ?_, by rw [(hc _ h4).1, h6]⟩, fun y => ?_⟩
  · rw [(hc _ (by omega)).1, (hc _ (by omega)).2]
    exact h5 k hk
  · obtain ⟨a1, a2, a3⟩ := h7 y
    refine ⟨by omega, fun k hk => ?_, by rw [(hc _ a1).1, a3]⟩
    rw [(hc _ (by omega)).1, (hc _ (by omega)).2]
    exact a2 k hk
noncomputable def lrr (x : (Nat × Nat) ⊕ lwU) : Int32 := match x with
  | .inl e => zf_74 (nI e.1) (nI e.2)
  | .inr u => nI u.length
def lcE (x : (Nat × Nat) ⊕ lwU) (M : jb_Mi) (z : Int32 × jb_Mi) : Prop := z.1 = lrr x ∧ (∀ a, (a < 50 ∨ 56 < a) → z.2 a = M a) ∧ match x with
  | .inl _ => True
  | .inr u => z.2 51 6 = nI u.length ∧ ∃ sz, sz ≤ 240 ∧ z.2 51 5 = nI sz ∧ drU u sz z.2
theorem jc_law {b : Nat → Nat} {n : Nat} (hn : n ≤ 240) : ∀ (f p sz : Nat) (u : lwU) (M : jb_Mi), tcB b n M → M 50 2 = nI p → M 51 5 = nI sz → sz ≤ p → p ≤ n → u.length + f = 17 → 0 < f → drU u sz M → ∃ z, jb_lp zf_84_H28 (nI u.length, M) = some z ∧ lcE (spL b n f p u) M z := by
  intro f
  induction f with
  | zero => intros; omega
  | succ f ih =>
    intro p sz u M hT h2 h5 hsz hp hu _ hU
    have hb := tcB_b hT
    have hc := ch_le hb p
    have s116 : (sgc (ch b n p) = 116) = (ch b n p = 116) := sgc_eq (k := 116) hc (by decide)
    have s121 : (sgc (ch b n p) = 121) = (ch b n p = 121) := sgc_eq (k := 121) hc (by decide)
    have s100 : (sgc (ch b n p) = 100) = (ch b n p = 100) := sgc_eq (k := 100) hc (by decide)
    have s120 : (sgc (ch b n p) = 120) = (ch b n p = 120) := sgc_eq (k := 120) hc (by decide)
    have e0 : zf_84_H28 (nI u.length, M) = if ch b n p = 116 ∨ ch b n p = 121 ∨ ch b n p = 100 ∨ ch b n p = 120 then zf_84_J79 (nI u.length) (sgc (ch b n p)) M else some (.inr (zf_74 (nI 1) (nI p), M)) := by
      unfold zf_84_H28
      dsimp only
      rw [if_neg (show ¬ (16 : Int32) < nI u.length from nI_nlt (a := 16) (by omega) (by omega)), h2, sgc_byte hT (by omega), Option.bind_some]
      simp only [s116, s121, s100, s120]
      by_cases k1 : ch b n p = 116
      · rw [if_pos k1, if_pos (by omega)]
      rw [if_neg k1]
      by_cases k2 : ch b n p = 121
      · rw [if_pos k2, if_pos (by omega)]
      rw [if_neg k2]
      by_cases k3 : ch b n p = 100
      · rw [if_pos k3, if_pos (by omega)]
      rw [if_neg k3]
      by_cases k4 : ch b n p = 120
      · rw [if_pos k4, if_pos (by omega)]
      rw [if_neg k4, if_neg (by omega)]
      rfl
    rw [spL]
    by_cases c1 : ch b n p = 116 ∨ ch b n p = 121 ∨ ch b n p = 100 ∨ ch b n p = 120
    · rw [if_pos c1] at e0 ⊢
      have hpn := ch_in hb (k := p) (by omega)
      by_cases c2 : u.length = 16
      · rw [if_pos c2]
        refine ⟨_, jb_lp_inr (x := (zf_74 (nI 4) (nI p), M)) ?_, rfl, fun _ _ => rfl, trivial⟩
        rw [e0]
        unfold zf_84_J79
        rw [if_pos (by rw [c2]; rfl), h2]
        rfl
      rw [if_neg c2]
      have rl := jc_rl (r := u.length) hn (by omega) hT h2 h5 hsz hpn
      have ro := spR_ok hb hpn
      cases e : spR b n p with
      | inl x =>
        rw [e] at rl
        obtain ⟨M', k1, k2⟩ := rl
        rw [k1] at e0
        exact ⟨_, jb_lp_inr e0, rfl, k2.1, trivial⟩
      | inr y =>
        rw [e] at rl ro
        obtain ⟨M', s, t, sz', k1, k2, k3, k4, k5, k6, k7⟩ := rl
        obtain ⟨o1, o2, o3, o4⟩ := ro
        rw [k1] at e0
        dsimp only
        have hcy := ch_le hb y.1
        have hlen : (u ++ [(ch b n p, y.2.1, y.2.2)]).length = u.length + 1 := by simp
        have hU' : drU (u ++ [(ch b n p, y.2.1, y.2.2)]) sz' M' := by
          intro r hr
          rw [hlen] at hr
          rw [ug_app]
          by_cases z : r < u.length
          · rw [if_pos z]
            obtain ⟨s1, t1, d1⟩ := hU r z
            exact ⟨s1, t1, drC_of d1 k4 (k7.2.1 r (by omega)) k7.2.2⟩
          · have : r = u.length := by omega
            subst this
            rw [if_neg z, if_pos rfl]
            exact ⟨s, t, k6⟩
        have e1 : ctl u.length M' = if n ≤ y.1 then some (.inr (nI (u.length + 1), M')) else if ch b n y.1 = 59 then some (.inl (nI (u.length + 1), jb_up M' 50 2 (nI (y.1 + 1)))) else some (.inr (zf_74 (nI 1) (nI y.1), jb_up M' 50 3 (nI 1))) := by
          unfold ctl
          rw [k2.2.1, sgc_byte k2.1 (by omega), Option.bind_some, k5, show (59 : Int32) = nI 59 from rfl, jc_sign k2 (by omega) (by decide)]
          have sm : (sgc (ch b n y.1) = -1) = (n ≤ y.1) := by rw [sgc_m1 hcy]; exact propext (ch_end hb y.1)
          simp only [sm]
          by_cases q1 : n ≤ y.1
          · rw [if_pos q1, if_pos q1]
          rw [if_neg q1, if_neg q1]
          by_cases q2 : ch b n y.1 = 59
          · rw [if_pos q2, if_pos q2, Option.bind_some, jb_yes]
          · rw [if_neg q2, if_neg q2, Option.bind_some, show zf_75 (nI 1) M' = (false, jb_up M' 50 3 (nI 1)) from rfl, jb_no]
            dsimp only
            rw [jb_up_at, if_pos ⟨rfl, rfl⟩, jb_up_at, if_neg (by omega), k2.2.1]
        rw [e1] at e0
        by_cases q1 : n ≤ y.1
        · rw [if_pos q1] at e0 ⊢
          refine ⟨_, jb_lp_inr e0, by show nI (u.length + 1) = nI (u ++ [(ch b n p, y.2.1, y.2.2)]).length; rw [hlen], k7.1, by dsimp only; rw [k5, hlen], sz', by omega, ?_, hU'⟩
          have := k2.2.2.1
          simp at this
          exact this
        rw [if_neg q1] at e0 ⊢
        by_cases q2 : ch b n y.1 = 59
        · rw [if_pos q2] at e0 ⊢
          rw [jb_lp_inl e0]
          have h51 : M' 51 5 = nI sz' := by
            have := k2.2.2.1
            simp at this
            exact this
          obtain ⟨z, z1, z2, z3, z4⟩ := ih (y.1 + 1) sz' (u ++ [(ch b n p, y.2.1, y.2.2)]) (jb_up M' 50 2 (nI (y.1 + 1))) (tcB_of k2.1 (jb_up_off (by decide)) (jb_up_off (by decide))) (by rw [jb_up_at, if_pos ⟨rfl, rfl⟩]) (by rw [jb_up_off (by decide), h51]) (by omega) (by omega) (by omega) (by omega) (fun r hr => by
            obtain ⟨s1, t1, d1⟩ := hU' r hr
            exact ⟨s1, t1, drC_of d1 (Nat.le_refl _) ⟨by rw [jb_up_off (by decide)], by rw [jb_up_off (by decide)], by rw [jb_up_off (by decide)]⟩ (fun j _ => ⟨by rw [jb_up_off (by decide)], by rw [jb_up_off (by decide)]⟩)⟩)
          rw [hlen] at z1
          exact ⟨z, z1, z2, fun a ha => by rw [z3 a ha, jb_up_off (by omega), k7.1 a ha], z4⟩
        · rw [if_neg q2] at e0 ⊢
          exact ⟨_, jb_lp_inr e0, rfl, fun a ha => by dsimp only; rw [jb_up_off (by omega), k7.1 a ha], trivial⟩
    · rw [if_neg c1] at e0 ⊢
      exact ⟨_, jb_lp_inr e0, rfl, fun _ _ => rfl, trivial⟩
theorem spL_ok {b : Nat → Nat} {n : Nat} (hb : bB b n) : ∀ (f p : Nat) (u : lwU), p ≤ n → u.length + f = 17 → (∀ r, r < u.length → okE (ug u r).1 (ug u r).2.1 (ug u r).2.2) → match spL b n f p u with
  | .inl e => e.1 ≤ 9 ∧ e.2 ≤ n
  | .inr v => 0 < v.length ∧ v.length ≤ 16 ∧ ∀ r, r < v.length → okE (ug v r).1 (ug v r).2.1 (ug v r).2.2 := by
  intro f
  induction f with
  | zero =>
    intro p u hp hu hU
    exact ⟨by dsimp only; omega, by dsimp only; omega⟩
  | succ f ih =>
    intro p u hp hu hU
    rw [spL]
    by_cases c1 : ch b n p = 116 ∨ ch b n p = 121 ∨ ch b n p = 100 ∨ ch b n p = 120
    · rw [if_pos c1]
      have hpn := ch_in hb (k := p) (by omega)
      by_cases c2 : u.length = 16
      · rw [if_pos c2]
        exact ⟨by dsimp only; omega, hp⟩
      rw [if_neg c2]
      have ro := spR_ok hb hpn
      cases e : spR b n p with
      | inl x => rw [e] at ro; exact ro
      | inr y =>
        rw [e] at ro
        obtain ⟨o1, o2, o3, o4⟩ := ro
        have hlen : (u ++ [(ch b n p, y.2.1, y.2.2)]).length = u.length + 1 := by simp
        have hU' : ∀ r, r < (u ++ [(ch b n p, y.2.1, y.2.2)]).length → okE (ug (u ++ [(ch b n p, y.2.1, y.2.2)]) r).1 (ug (u ++ [(ch b n p, y.2.1, y.2.2)]) r).2.1 (ug (u ++ [(ch b n p, y.2.1, y.2.2)]) r).2.2 := by
          intro r hr
          rw [hlen] at hr
          rw [ug_app]
          by_cases z : r < u.length
          · rw [if_pos z]
            exact hU r z
          · rw [if_neg z, if_pos (by omega)]
            exact o4
        dsimp only
        by_cases q1 : n ≤ y.1
        · rw [if_pos q1]
          exact ⟨by rw [hlen]; omega, by rw [hlen]; omega, hU'⟩
        rw [if_neg q1]
        by_cases q2 : ch b n y.1 = 59
        · rw [if_pos q2]
          exact ih (y.1 + 1) _ (by omega) (by rw [hlen]; omega) hU'
        · rw [if_neg q2]
          exact ⟨by dsimp only; omega, o2⟩
    · rw [if_neg c1]
      exact ⟨by dsimp only; omega, hp⟩
