/-! what has to go, in the reference -/
theorem jd_borne {S : jSt} {R : Nat → List Nat} {M : jb_Mi} (hD : jD 80 S M) (hR : jR S) (hr : jRo R M) {f : Nat → Nat} {i n s : Nat} (hi : i < 6) (hn : n ≤ 12) (hf : ∀ k, k < n → f k < 24 ∧ 0 < S 6 (f k)) (hs : s < 2 ^ n) (h107 : ∀ k, k < n → M 107 k = nI (f k)) : zf_244 (nI i) (nI s) M = some (@decide (brn S R i f s) (Classical.propDecidable _)) := by
  have h12 := p12 hn
  have hf' : ∀ k, k < n → f k < 24 := fun k hk => (hf k hk).1
  unfold zf_244
  obtain ⟨x, h1, h2⟩ := jb_inv (f := zf_244_H2 (nI i) (nI s) M) (fun m t => ∃ c, c + m = 4 ∧ t = nI c ∧ ∀ d, d < c → ld S i d ≤ 64 * stt S R i d + gs S f s d) (fun x => (brn S R i f s ∧ x = true) ∨ (¬ brn S R i f s ∧ x = false)) (by
    rintro m t ⟨c, hm, rfl, h1⟩
    unfold zf_244_H2
    by_cases e : c < 4
    · have l1 := ld_le hR (c := c) hi
      have l2 := stt_le hR (R := R) (i := i) (c := c)
      have l3 := gs_le hR (c := c) hf' hs
      rw [if_pos (show nI c < 4 from nI_lt (b := 4) e (by decide)), jd_load hD hR hi e, Option.bind_some]
      have inner : jb_lp (zf_244_H18 (nI i) (nI s) (nI c) M) (nI (ld S i c), 0) = some (if 64 * stt S R i c + gs S f s c < ld S i c then .inr false else .inl (nI (c + 1))) := by
        refine jb_it (f := zf_244_H18 (nI i) (nI s) (nI c) M) (fun (g : Nat) k => (nI (ld S i c) - nI g, nI k)) (fun k g => g + gsf S f s c k) 0 12 ?_ ?_ |> (fun z => by rwa [show nI (ld S i c) - nI 0 = nI (ld S i c) from Int32.sub_zero _] at z)
        · intro k g hk
          unfold zf_244_H18 zf_244_J85 gsf
          dsimp only
          rw [if_pos (show nI k < 12 from nI_lt (b := 12) hk (by decide)), jn_has (by omega) (by omega), nI_1]
          cases q : s.testBit k
          · rw [jb_no]; simp
          · have hk' : k < n := by
              apply Classical.byContradiction
              intro z
              rw [Nat.testBit_lt_two_pow (Nat.lt_of_lt_of_le hs (Nat.pow_le_pow_right (by decide) (by omega)))] at q
              cases q
            obtain ⟨f1, f2⟩ := hf k hk'
            have g1 := (hD.2.1 _ f1).2 (by omega)
            have g2 := hR.2.1 _ f1
            rw [jb_yes, jn_gd hk (by decide), nI_clamp (by omega), h107 k hk', show (90 : Int32) + nI (f k) = nI (90 + f k) from jn_addl 90 _, show (42 : Int32) + nI (f k) = nI (42 + f k) from jn_addl 42 _, show (66 : Int32) + nI (f k) = nI (66 + f k) from jn_addl 66 _, jn_gd (by omega) (by decide), jn_gd (by omega) (by decide), jn_gd (by omega) (by decide), nI_clamp (by omega), nI_clamp (by omega), nI_clamp (by omega), g1.2.1, g1.2.2.1, g1.2.2.2, jd_part, jc_prt _ (by omega) _ (by omega) c e, jn_mul]
            have ez : ∀ a b d : Nat, nI a - nI b - nI d = nI a - nI (b + d) := by
              intro a b d
              rw [← nI_add]
              simp only [Int32.sub_eq_add_neg, Int32.neg_add, Int32.add_assoc]
            rw [if_pos rfl, ez]
            rfl
        · have eg : itf (fun k g => g + gsf S f s c k) 0 12 = gs S f s c := by
            have : ∀ q, itf (fun k g => g + gsf S f s c k) 0 q = jsum (gsf S f s c) q := by
              intro q
              induction q with
              | zero => rfl
              | succ q ih => simp only [itf, jsum]; rw [ih]
            exact this 12
          rw [eg]
          unfold zf_244_H18 zf_244_J127
          refine (if_neg (by dsimp only; decide)).trans ?_
          dsimp only
          rw [show (4 : Int32) * nI i = nI (4 * i) from jn_mull 4 i, nI_add, show (0 : Int32) = nI 0 from rfl, jd_has hD hR hr (by omega) (by omega), Option.bind_some, Nat.add_zero, nI_1]
          unfold stt at l2 ⊢
          unfold enc
          by_cases q : whoT S R (4 * i + c) (now S) = 16
          · rw [if_pos q, if_pos q, if_pos rfl, show (64 : Int32) * nI 0 = nI (64 * 0) from jn_mull 64 0]
            simp only [i_gtn (show ld S i c < 2 ^ 30 by omega) (show gs S f s c < 2 ^ 30 by omega) (show 64 * 0 < 2 ^ 30 by omega)]
            split <;> rfl
          · obtain ⟨t1, t2⟩ := whoT_told q
            rw [if_neg q] at l2
            rw [if_neg q, if_neg q, if_neg (by rw [jn_m1 (by omega)]; exact id), show (114 : Int32) + nI (whoT S R (4 * i + c) (now S)) = nI (114 + whoT S R (4 * i + c) (now S)) from jn_addl 114 _, jn_gd (by omega) (by decide), nI_clamp (by omega), (hD.2.2.1 _ t1).1, show (64 : Int32) * nI (S 7 (whoT S R (4 * i + c) (now S))) = nI (64 * S 7 (whoT S R (4 * i + c) (now S))) from jn_mull 64 _]
            simp only [i_gtn (show ld S i c < 2 ^ 30 by omega) (show gs S f s c < 2 ^ 30 by omega) (show 64 * S 7 (whoT S R (4 * i + c) (now S)) < 2 ^ 30 by omega)]
            split <;> rfl
      rw [inner]
      by_cases q : 64 * stt S R i c + gs S f s c < ld S i c
      · rw [if_pos q]
        exact Or.inr ⟨false, rfl, Or.inr ⟨fun z => by have := z c e; omega, rfl⟩⟩
      · rw [if_neg q]
        refine Or.inl ⟨m - 1, nI (c + 1), by omega, rfl, c + 1, by omega, rfl, fun d hd => ?_⟩
        by_cases z : d = c
        · rw [z]; omega
        · exact h1 d (by omega)
    · have e : c = 4 := by omega
      subst e
      exact Or.inr ⟨true, if_neg (by decide), Or.inl ⟨h1, rfl⟩⟩) 4 (nI 0) ⟨0, by omega, rfl, fun d hd => by omega⟩
  rw [show (0 : Int32) = nI 0 from rfl, h1]
  rcases h2 with ⟨h2, rfl⟩ | ⟨h2, rfl⟩
  · rw [@decide_eq_true _ (Classical.propDecidable _) h2]
  · rw [@decide_eq_false _ (Classical.propDecidable _) h2]
/-- the answer of go -/
noncomputable def goA (b w : Nat) : Int32 := if w = 1 ∨ b = 4096 then ebs b else nI (pc b)
theorem jd_least2 {S : jSt} {R : Nat → List Nat} {M : jb_Mi} (hD : jD 80 S M) (hR : jR S) (hr : jRo R M) {f : Nat → Nat} {i n w : Nat} (hi : i < 6) (hn : n ≤ 12) (hw : w ≤ 1) (hf : ∀ k, k < n → f k < 24 ∧ 0 < S 6 (f k)) (h107 : ∀ k, k < n → M 107 k = nI (f k)) : ∃ b, jb_lp (zf_245_H82 (nI i) (nI w) (nI n) M) ((-2), 0) = some (goA b w, M) ∧ bst (brn S R i f) id n (2 ^ n) b := by
  have h12 := p12 hn
  obtain ⟨x, h1, b, rfl, h3⟩ := jb_inv (f := zf_245_H82 (nI i) (nI w) (nI n) M) (fun m s => ∃ t b, t + m = 2 ^ n ∧ s = (ebs b, nI t) ∧ bst (brn S R i f) id n t b) (fun x => ∃ b, x = (goA b w, M) ∧ bst (brn S R i f) id n (2 ^ n) b) (by
    rintro m s ⟨t, b, hm, rfl, h3⟩
    unfold zf_245_H82
    dsimp only
    rw [jn_shl n (by omega)]
    by_cases e : t < 2 ^ n
    · left
      have en : nI t = ebs t := (if_neg (by omega)).symm
      have cont : ∀ b', bst (brn S R i f) id n (t + 1) b' → ∃ (m' : Nat) (u : Int32 × Int32), m' < m ∧ some (Sum.inl (ebs b', nI (t + 1))) = (some (.inl u) : Option ((Int32 × Int32) ⊕ (Int32 × jb_Mi))) ∧ ∃ t b, t + m' = 2 ^ n ∧ u = (ebs b, nI t) ∧ bst (brn S R i f) id n t b := fun b' hb' => ⟨m - 1, _, by omega, rfl, t + 1, b', by omega, rfl, hb'⟩
      rw [if_pos (nI_lt e (by omega))]
      unfold zf_245_J113 zf_245_J127
      rw [jd_borne hD hR hr hi hn hf e h107, Option.bind_some, nI_1]
      by_cases q2 : b = 4096
      · rw [if_pos (show ebs b = -2 from if_pos q2)]
        by_cases q : brn S R i f t
        · rw [@decide_eq_true _ (Classical.propDecidable _) q, jb_yes]
          have := cont t (bst_new (g := id) hn h3 q e (Or.inl q2))
          rw [← en] at this
          exact this
        · rw [@decide_eq_false _ (Classical.propDecidable _) q, jb_no]
          exact cont b (bst_no h3 q)
      · have hb : b < 2 ^ n ∧ b < t := by
          rcases h3 with h3 | h3
          · exact absurd h3.1 q2
          · obtain ⟨u, u1, u2⟩ := h3.2.2.1
            exact ⟨h3.1, by rw [u2]; exact u1⟩
        have eb : ebs b = nI b := if_neg q2
        have p1 := pc_le t
        have p2 := pc_le b
        rw [eb, if_neg (by rw [jn_m2 (by omega)]; exact id), jd_bits (by omega), jd_bits (by omega)]
        simp only [Option.bind_some, jn_lt (show pc t < 2 ^ 31 by omega) (show pc b < 2 ^ 31 by omega)]
        by_cases q3 : pc t < pc b
        · rw [if_pos q3]
          by_cases q : brn S R i f t
          · rw [@decide_eq_true _ (Classical.propDecidable _) q, jb_yes]
            have := cont t (bst_new (g := id) hn h3 q e (Or.inr (Or.inl q3)))
            rw [← en] at this
            exact this
          · rw [@decide_eq_false _ (Classical.propDecidable _) q, jb_no, ← eb]
            exact cont b (bst_no h3 q)
        · rw [if_neg q3, ← eb]
          by_cases q : brn S R i f t
          · refine cont b (bst_keep h3 q2 ?_)
            show lle b t
            unfold lle
            omega
          · exact cont b (bst_no h3 q)
    · have e : t = 2 ^ n := by omega
      subst e
      refine Or.inr ⟨_, ?_, b, rfl, h3⟩
      rw [if_neg (nI_nlt (Nat.le_refl _) (by omega))]
      unfold zf_245_J145 goA
      simp only [show (nI w = 1) = (w = 1) from jn_eq (b := 1) (by omega) (by decide)]
      by_cases q : w = 1
      · rw [if_pos q, if_pos (Or.inl q)]; rfl
      · rw [if_neg q]
        by_cases q2 : b = 4096
        · rw [if_pos (show ebs b = -2 from if_pos q2), if_pos (Or.inr q2)]; rfl
        · have eb : ebs b = nI b := if_neg q2
          have hb : b < 2 ^ n := by
            rcases h3 with h3 | h3
            · exact absurd h3.1 q2
            · exact h3.1
          rw [eb, if_neg (by rw [jn_m2 (by omega)]; exact id), jd_bits (by omega), Option.bind_some, if_neg (fun z => z.elim q q2)]) (2 ^ n) (ebs 4096, nI 0) ⟨0, 4096, by omega, rfl, Or.inl ⟨rfl, fun u hu => by omega⟩⟩
  exact ⟨b, h1, h3⟩
theorem ca_go {n : Nat} {M : jb_Mi} {N : jb_Ml} (hn : n < 512) (h : jInv n M N) (a1 a2 : Int32) : ∃ (r : Int32) (M1 : jb_Mi) (M2 : jb_Mi), zf_146 a1 a2 M = some (r, M1) ∧ M1 0 = M 0 ∧ zf_245 a1 a2 M1 = some (r, M2) ∧ M2 0 = M 0 ∧ jInv (n + 1) M2 N := by
  obtain ⟨⟨S, hC, hD, hR, hT⟩, -, -, ⟨R, hr⟩, -⟩ := id h
  unfold zf_146 zf_245
  rcases jx_house hC hD hR a1 with ⟨e1, e2⟩ | ⟨i, hi, rfl, hs, e1, e2⟩
  · exact ⟨_, M, M, by rw [e1]; rfl, rfl, by rw [e2]; rfl, rfl, jInv_mono h⟩
  rw [e1]
  simp only [Option.bind_some, jb_yes]
  simp only [jn_b, jn_w]
  by_cases c : zf_23 a2 0 1 = false
  · exact ⟨_, M, M, if_pos c, rfl, by rw [e2, Option.bind_some, if_neg (by decide), if_pos c], rfl, jInv_mono h⟩
  obtain ⟨w, hw, rfl⟩ := jn_in (x := a2) 1 (by decide) c
  have hcl := jc_thingsIn hC hR hi
  rw [tg_cnt] at hcl
  have htl := tg_le S i 24
  -- the reference's first loop
  have ref : ∀ M1, (∀ a, a ≠ 65 → a ≠ 67 → M1 a = M a) → ∃ r M2, jb_lp (zf_245_H24 (nI i) (nI w)) (0, 0, M1) = some (r, M2) ∧ (∀ a, a ≠ 107 → M2 a = M1 a) ∧ ((12 < (tg S i 24).1 ∧ r = -3) ∨ ((tg S i 24).1 ≤ 12 ∧ ∃ b, r = goA b w ∧ bst (brn S R i (tg S i 24).2) id (tg S i 24).1 (2 ^ (tg S i 24).1) b)) := by
    intro M1 hM1
    have hD1 : jD 80 S M1 := jD_of hD (hM1 80 (by decide) (by decide))
    obtain ⟨⟨r, M2⟩, g1, g2, g3⟩ := jb_inv (f := zf_245_H24 (nI i) (nI w)) (fun m s => ∃ t M', t + m = 24 ∧ s = (nI (tg S i t).1, nI t, M') ∧ (tg S i t).1 ≤ 12 ∧ (∀ a, a ≠ 107 → M' a = M1 a) ∧ ∀ k, k < (tg S i t).1 → M' 107 k = nI ((tg S i t).2 k)) (fun x => (∀ a, a ≠ 107 → x.2 a = M1 a) ∧ ((12 < (tg S i 24).1 ∧ x.1 = -3) ∨ ((tg S i 24).1 ≤ 12 ∧ ∃ b, x.1 = goA b w ∧ bst (brn S R i (tg S i 24).2) id (tg S i 24).1 (2 ^ (tg S i 24).1) b))) (by
      rintro m s ⟨t, M', hm, rfl, h12, h1, h2⟩
      have hD' : jD 80 S M' := jD_of hD1 (h1 80 (by decide))
      unfold zf_245_H24 zf_245_J69
      dsimp only
      by_cases e : t < 24
      · rw [if_pos (show nI t < 24 from nI_lt (b := 24) e (by decide)), show (18 : Int32) + nI t = nI (18 + t) from jn_addl 18 t, jn_gd (by omega) (by decide), nI_clamp (by omega), nI_1]
        simp only [jx_home hD' hR e (show i < 2 ^ 31 by omega)]
        by_cases b : 0 < S 6 t ∧ S 3 t = i
        · rw [if_pos b]
          have e12 : (nI (tg S i t).1 = 12) = ((tg S i t).1 = 12) := jn_eq (b := 12) (by omega) (by decide)
          simp only [e12]
          by_cases q : (tg S i t).1 = 12
          · rw [if_pos q]
            refine Or.inr ⟨_, rfl, h1, Or.inl ⟨?_, rfl⟩⟩
            have mm := tg_mono S i (show t + 1 ≤ 24 by omega)
            rw [tg_s] at mm
            unfold tgG at mm
            rw [if_pos b] at mm
            dsimp only at mm
            omega
          · rw [if_neg q, jn_gd (show (tg S i t).1 < 12 by omega) (by decide), nI_clamp (by omega), nI_1]
            refine Or.inl ⟨m - 1, (nI ((tg S i t).1 + 1), nI (t + 1), jb_up M' 107 (tg S i t).1 (nI t)), by omega, rfl, t + 1, jb_up M' 107 (tg S i t).1 (nI t), by omega, ?_, ?_, ?_, ?_⟩
            · rw [tg_s]; unfold tgG; rw [if_pos b]
            · rw [tg_s]; unfold tgG; rw [if_pos b]; dsimp only; omega
            · intro a ha; rw [jb_up_off ha, h1 a ha]
            · rw [tg_s]
              unfold tgG
              rw [if_pos b]
              intro k hk
              dsimp only at hk ⊢
              rw [jb_up_at]
              by_cases z : k = (tg S i t).1
              · rw [if_pos ⟨rfl, z⟩, if_pos z]
              · rw [if_neg (fun y => z y.2), if_neg z]
                exact h2 k (by omega)
        · rw [if_neg b]
          refine Or.inl ⟨m - 1, (nI (tg S i t).1, nI (t + 1), M'), by omega, by rw [nI_1], t + 1, M', by omega, ?_, ?_, h1, ?_⟩
          · rw [tg_s]; unfold tgG; rw [if_neg b]
          · rw [tg_s]; unfold tgG; rw [if_neg b]; exact h12
          · rw [tg_s]; unfold tgG; rw [if_neg b]; exact h2
      · have e : t = 24 := by omega
        subst e
        have hr' : jRo R M' := by
          unfold jRo
          rw [h1 36 (by decide), h1 98 (by decide), h1 35 (by decide), h1 97 (by decide), hM1 36 (by decide) (by decide), hM1 98 (by decide) (by decide), hM1 35 (by decide) (by decide), hM1 97 (by decide) (by decide)]
          exact hr
        obtain ⟨b, y1, y2⟩ := jd_least2 hD' hR hr' (w := w) hi h12 hw (fun k hk => tg_ok S i 24 k hk) h2
        refine Or.inr ⟨(goA b w, M'), ?_, h1, Or.inr ⟨h12, b, rfl, y2⟩⟩
        rw [if_neg (by decide), y1]
        rfl) 24 (nI 0, nI 0, M1) ⟨0, M1, by omega, rfl, Nat.zero_le _, fun _ _ => rfl, fun k hk => by simp [tg, itf] at hk⟩
    exact ⟨r, M2, g1, g2, g3⟩
  have told : ∀ M1, (∀ a, a ≠ 65 → a ≠ 67 → M1 a = M a) → zf_171 (nI i) M1 = some true := fun M1 hM1 => by rw [jd_told (jD_of hD (hM1 80 (by decide) (by decide))) hR hi, decide_eq_true hs]
  have inv : ∀ (M1 M2 : jb_Mi), (∀ a, a ≠ 65 → a ≠ 67 → M1 a = M a) → (∀ a, a ≠ 107 → M2 a = M1 a) → jInv (n + 1) M2 N := fun M1 M2 q1 q2 => jInv_off h (fun a ha => by rw [q2 a (by unfold jfix jrel at ha; omega), q1 a (by unfold jfix jrel at ha; omega) (by unfold jfix jrel at ha; omega)])
  unfold zf_29
  rw [if_neg c, hcl, Option.bind_some]
  simp only [show ((12 : Int32) < nI (tg S i 24).1) = (12 < (tg S i 24).1) from jn_lt (a := 12) (by decide) (by omega)]
  by_cases q12 : 12 < (tg S i 24).1
  · obtain ⟨r, M2, y1, y2, y3⟩ := ref M (fun _ _ _ => rfl)
    have hr3 : r = -3 := by
      rcases y3 with y3 | y3
      · exact y3.2
      · omega
    subst hr3
    refine ⟨-3, M, M2, ?_, rfl, ?_, y2 0 (by decide), inv M M2 (fun _ _ _ => rfl) y2⟩
    · rw [if_pos q12, Option.bind_some, if_pos (show (-3 : Int32) < 0 by decide)]
      rfl
    · rw [e2, Option.bind_some, if_neg (by decide), if_neg c]
      exact y1
  · obtain ⟨M3, u1, u2, u3⟩ := jc_excess hC hR hr hi hs
    obtain ⟨M4, v1, v2, v3⟩ := jc_split (M := M3) (jC_of hC (fun a q1 q2 => u2 a (by omega))) hR hi (by omega)
    obtain ⟨b, M1, w1, w2, w3⟩ := jc_least2 (M := M4) (R := R) (n := (tg S i 24).1) (f := (tg S i 24).2) hR hi (by omega) (fun k hk => (tg_ok S i 24 k hk).1) (fun c hc => by rw [v2 65 (by decide), u3 c hc]) v3
    have hM1 : ∀ a, a ≠ 65 → a ≠ 67 → M1 a = M a := fun a q1 q2 => by rw [w2 a q1, v2 a q2, u2 a q1]
    obtain ⟨r, M2, y1, y2, y3⟩ := ref M1 hM1
    have h12 := p12 (show (tg S i 24).1 ≤ 12 by omega)
    have hra : r = goA b w := by
      rcases y3 with y3 | ⟨-, b', y3, y4⟩
      · omega
      · rw [y3, bst_uniq (show (tg S i 24).1 ≤ 12 by omega) (fun s hs => ⟨ginv s, ginv_lt hs, gray_inv (by omega)⟩) (fun s hs => ⟨s, hs, rfl⟩) w3 y4]
    refine ⟨r, M1, M2, ?_, hM1 0 (by decide) (by decide), ?_, ?_, inv M1 M2 hM1 y2⟩
    · rw [if_neg q12, u1, Option.bind_some, v1, Option.bind_some, w1, Option.bind_some, hra]
      unfold zf_146_J40 goA
      simp only [show (nI w = 1) = (w = 1) from jn_eq (b := 1) (by omega) (by decide)]
      by_cases q2 : b = 4096
      · rw [if_pos (show ebs b < 0 by unfold ebs; rw [if_pos q2]; decide), if_pos (Or.inr q2)]
      · have eb : ebs b = nI b := if_neg q2
        have hb : b < 2 ^ (tg S i 24).1 := by
          rcases w3 with w3 | w3
          · exact absurd w3.1 q2
          · exact w3.1
        rw [eb, if_neg (nI_pos (by omega))]
        by_cases q : w = 1
        · rw [if_pos q, if_pos (Or.inl q)]
        · rw [if_neg q, if_neg (fun z => z.elim q q2), jc_bits (by omega)]
    · rw [told M1 hM1, Option.bind_some, if_neg (by decide), if_neg c]
      exact y1
    · rw [y2 0 (by decide), hM1 0 (by decide) (by decide)]
