/-! who has to strike -/
theorem jRo_of {R : Nat → List Nat} {M M' : jb_Mi} (h : jRo R M) (h36 : M' 36 = M 36) (h98 : M' 98 = M 98) (h35 : M' 35 = M 35) (h97 : M' 97 = M 97) : jRo R M' := by
  unfold jRo
  rw [h36, h98, h35, h97]
  exact h
theorem now_lt {S : jSt} (hR : jR S) : now S < 240000 := by
  have q1 := hR.2.2.2.1
  have q2 := hR.2.2.2.2.1
  unfold now; omega
/-- the hours that each holds, so far -/
def hdR (h : Nat → Nat) (M : jb_Mi) : Prop := ∀ m, m < 16 → M 42 m = nI (h m)
theorem jc_fill (M : jb_Mi) : ∃ M1, zf_45 0 M = some M1 ∧ (∀ a, a ≠ 42 → M1 a = M a) ∧ hdR (fun _ => 0) M1 := by
  unfold zf_45
  obtain ⟨M1, h1, h2, h3⟩ := jb_inv (f := zf_45_H5 0 (Int32.ofNat 16)) (fun n s => ∃ k M', k + n = 16 ∧ s = (nI k, M') ∧ (∀ a, a ≠ 42 → M' a = M a) ∧ ∀ j, j < k → M' 42 j = nI 0) (fun M1 => (∀ a, a ≠ 42 → M1 a = M a) ∧ ∀ j, j < 16 → M1 42 j = nI 0) (by
    rintro n s ⟨k, M', hn, rfl, h1, h2⟩
    unfold zf_45_H5
    dsimp only
    by_cases e : k < 16
    · refine Or.inl ⟨n - 1, (nI (k + 1), jb_up M' 42 k 0), by omega, ?_, k + 1, jb_up M' 42 k 0, by omega, rfl, fun a ha => by rw [jb_up_off ha, h1 a ha], fun j hj => ?_⟩
      · rw [if_pos (show nI k < Int32.ofNat 16 from nI_lt (b := 16) e (by decide)), jn_gd e (by decide), nI_clamp (by omega), nI_1]
      · rw [jb_up_at]
        by_cases q : j = k
        · rw [if_pos ⟨rfl, q⟩]; rfl
        · rw [if_neg (fun z => q z.2)]
          exact h2 j (by omega)
    · have e : k = 16 := by omega
      subst e
      exact Or.inr ⟨M', if_neg (show ¬ nI 16 < Int32.ofNat 16 by decide), h1, h2⟩) 16 (nI 0, M) ⟨0, M, by omega, rfl, fun _ _ => rfl, fun j hj => by omega⟩
  exact ⟨M1, h1, h2, h3⟩
theorem jc_hour {S : jSt} {R : Nat → List Nat} {M : jb_Mi} (hC : jC 4 S M) (hR : jR S) (hr : jRo R M) {k : Nat} (hk : k < 24) {h : Nat → Nat} (hh : hdR h M) (hh2 : ∀ m, h m ≤ 100) : ∃ M1, jb_lp (zf_46_H20 (nI k)) (0, 0, M) = some (.inl (nI (k + 1), M1)) ∧ (∀ a, a ≠ 42 → M1 a = M a) ∧ hdR (fun m => h m + if (aS (wk S R k) 24).testBit m = true then 1 else 0) M1 := by
  have hnow := now_lt hR
  obtain ⟨x, h1, M1, rfl, h2, h3⟩ := jb_inv (f := zf_46_H20 (nI k)) (fun n s => ∃ q M', q + n = 24 ∧ s = (nI (aS (wk S R k) q), nI q, M') ∧ (∀ a, a ≠ 42 → M' a = M a) ∧ hdR (fun m => h m + if (aS (wk S R k) q).testBit m = true then 1 else 0) M') (fun x => ∃ M1, x = .inl (nI (k + 1), M1) ∧ (∀ a, a ≠ 42 → M1 a = M a) ∧ hdR (fun m => h m + if (aS (wk S R k) 24).testBit m = true then 1 else 0) M1) (by
    rintro n s ⟨q, M', hn, rfl, h1, h2⟩
    have hC' : jC 4 S M' := jC_of hC (fun a q1 q2 => h1 a (by omega))
    have hr' : jRo R M' := jRo_of hr (h1 36 (by decide)) (h1 98 (by decide)) (h1 35 (by decide)) (h1 97 (by decide))
    unfold zf_46_H20
    dsimp only
    by_cases e : q < 24
    · left
      have ha := aS_lt (w := wk S R k) q
      have ea : aS (wk S R k) (q + 1) = aG (wk S R k) q (aS (wk S R k) q) := rfl
      have stay : ∀ x : Int32, x < 0 → ¬ wk S R k q < 16 → ∃ (m : Nat) (t : Int32 × Int32 × jb_Mi), m < n ∧ zf_46_J58 (nI k) (nI (aS (wk S R k) q)) (nI q) x M' = some (.inl t) ∧ ∃ q M', q + m = 24 ∧ t = (nI (aS (wk S R k) q), nI q, M') ∧ (∀ a, a ≠ 42 → M' a = M a) ∧ hdR (fun m => h m + if (aS (wk S R k) q).testBit m = true then 1 else 0) M' := by
        intro x hx hw
        refine ⟨n - 1, (nI (aS (wk S R k) (q + 1)), nI (q + 1), M'), by omega, ?_, q + 1, M', by omega, rfl, h1, ?_⟩
        · unfold zf_46_J58 zf_46_J92
          rw [if_pos hx, nI_1, ea]
          unfold aG
          rw [if_neg hw]
        · rw [ea]
          unfold aG
          rw [if_neg hw]
          exact h2
      rw [if_pos (show nI q < 24 from nI_lt (b := 24) e (by decide)), jn_div (by omega), jc_up hC' hR (by omega), Option.bind_some]
      by_cases cu : 0 < S 0 (q / 4) ∧ S 2 (q / 4) < 9
      · have ew : wk S R k q = whoT S R q (now S + k) := if_pos cu
        rw [decide_eq_true cu, jb_yes, jc_time hC', nI_add, jc_has hC' hR hr' e (by omega), Option.bind_some]
        by_cases c16 : whoT S R q (now S + k) = 16
        · refine stay _ ?_ (by omega)
          unfold enc; rw [if_pos c16]; decide
        · obtain ⟨t1, -⟩ := whoT_told c16
          have ee : enc (-2) (whoT S R q (now S + k)) = nI (wk S R k q) := by unfold enc; rw [if_neg c16, ew]
          have hw : wk S R k q < 16 := by omega
          rw [ee]
          unfold zf_46_J58 zf_46_J92
          rw [if_neg (nI_pos (by omega)), nI_1, jn_shl _ (by omega), jn_or]
          simp only [jn_bit0 (show aS (wk S R k) q < 2 ^ 31 by omega) (show wk S R k q < 32 by omega)]
          cases cb : (aS (wk S R k) q).testBit (wk S R k q)
          · rw [if_pos rfl, jn_gd hw (by decide), jn_gd hw (by decide), nI_clamp (by omega), h2 _ hw, nI_1]
            refine ⟨n - 1, (nI (aS (wk S R k) (q + 1)), nI (q + 1), jb_up M' 42 (wk S R k q) (nI (h (wk S R k q) + 0 + 1))), by omega, ?_, q + 1, jb_up M' 42 (wk S R k q) (nI (h (wk S R k q) + 0 + 1)), by omega, rfl, fun a ha => by rw [jb_up_off ha, h1 a ha], ?_⟩
            · rw [ea]
              unfold aG
              rw [if_pos hw]
              dsimp only
              rw [cb]
              rfl
            · rw [ea]
              unfold aG
              rw [if_pos hw]
              intro m hm
              rw [jb_up_at]
              dsimp only
              rw [Nat.testBit_or, Nat.testBit_two_pow]
              by_cases z : m = wk S R k q
              · rw [if_pos ⟨rfl, z⟩, z, decide_eq_true rfl, Bool.or_true, if_pos rfl]
              · rw [if_neg (fun y => z y.2), decide_eq_false (fun y => z y.symm), Bool.or_false]
                exact h2 m hm
          · rw [if_neg (by decide)]
            refine ⟨n - 1, (nI (aS (wk S R k) (q + 1)), nI (q + 1), M'), by omega, ?_, q + 1, M', by omega, rfl, h1, ?_⟩
            · rw [ea]
              unfold aG
              rw [if_pos hw, or_self_bit cb]
            · rw [ea]
              unfold aG
              rw [if_pos hw, or_self_bit cb]
              exact h2
      · rw [decide_eq_false cu, jb_no]
        exact stay _ (by decide) (by unfold wk; rw [if_neg cu]; omega)
    · have e : q = 24 := by omega
      subst e
      refine Or.inr ⟨_, if_neg (by decide), M', ?_, h1, h2⟩
      rw [nI_1]) 24 (nI 0, nI 0, M) ⟨0, M, by omega, rfl, fun _ _ => rfl, fun m hm => by
        rw [hh m hm]
        show nI (h m) = nI (h m + if (0 : Nat).testBit m = true then 1 else 0)
        rw [Nat.zero_testBit]
        rfl⟩
  exact ⟨M1, h1, h2, h3⟩
theorem jc_held {S : jSt} {R : Nat → List Nat} {M : jb_Mi} (hC : jC 4 S M) (hR : jR S) (hr : jRo R M) : ∃ M1, zf_46 M = some M1 ∧ (∀ a, a ≠ 42 → M1 a = M a) ∧ hdR (hH (wk S R) 24) M1 := by
  obtain ⟨M0, f1, f2, f3⟩ := jc_fill M
  unfold zf_46
  rw [f1, Option.bind_some]
  obtain ⟨M1, h1, h2, h3⟩ := jb_inv (f := zf_46_H10) (fun n s => ∃ k M', k + n = 24 ∧ s = (nI k, M') ∧ (∀ a, a ≠ 42 → M' a = M a) ∧ hdR (hH (wk S R) k) M') (fun M1 => (∀ a, a ≠ 42 → M1 a = M a) ∧ hdR (hH (wk S R) 24) M1) (by
    rintro n s ⟨k, M', hn, rfl, h1, h2⟩
    unfold zf_46_H10
    dsimp only
    by_cases e : k < 24
    · obtain ⟨M2, y1, y2, y3⟩ := jc_hour (M := M') (jC_of hC (fun a q1 q2 => h1 a (by omega))) hR (jRo_of hr (h1 36 (by decide)) (h1 98 (by decide)) (h1 35 (by decide)) (h1 97 (by decide))) e h2 (fun m => by have := hH_le (wk S R) k m; omega)
      exact Or.inl ⟨n - 1, (nI (k + 1), M2), by omega, by rw [if_pos (show nI k < 24 from nI_lt (b := 24) e (by decide))]; exact y1, k + 1, M2, by omega, rfl, fun a ha => by rw [y2 a ha, h1 a ha], y3⟩
    · have e : k = 24 := by omega
      subst e
      exact Or.inr ⟨M', if_neg (by decide), h1, h2⟩) 24 (nI 0, M0) ⟨0, M0, by omega, rfl, f2, f3⟩
  exact ⟨M1, h1, h2, h3⟩
/-- the men from whom one is chosen -/
def avl (all g m : Nat) : Prop := all.testBit m = true ∧ g.testBit m = false
noncomputable def eb1 (b : Nat) : Int32 := if b = 16 then (-1) else nI b
theorem mens_bit {S : jSt} {m : Nat} (hm : m < 16) : (mens S).testBit m = decide (0 < S 7 m) := by
  unfold mens
  rw [bmk_bit]
  simp [hm, tdm]
theorem jc_pick {S : jSt} {M : jb_Mi} (hC : jC 4 S M) (hR : jR S) {h : Nat → Nat} (hh : hdR h M) (hh2 : ∀ m, h m ≤ 100) {g t : Nat} (hg : g < 65536) (ht : t ≤ 300) (h41 : M 41 4 = nI g) (h43 : M 41 3 = nI t) (n k : Int32) : (∃ b, b < 16 ∧ avl (mens S) g b ∧ (∀ m, m < 16 → avl (mens S) g m → phi h m ≤ phi h b) ∧ jb_lp (zf_47_H26 n k M) ((-1), 0) = some (.inl (k + 1, jb_up (jb_up M 41 4 (nI (g ||| 2 ^ b))) 41 3 (nI (t + h b))))) ∨ (∀ m, m < 16 → ¬ avl (mens S) g m) := by
  obtain ⟨x, h1, h2⟩ := jb_inv (f := zf_47_H26 n k M) (fun r s => ∃ m b, m + r = 16 ∧ s = (eb1 b, nI m) ∧ ((b = 16 ∧ ∀ u, u < m → ¬ avl (mens S) g u) ∨ (b < m ∧ avl (mens S) g b ∧ ∀ u, u < m → avl (mens S) g u → h u < h b ∨ (h u = h b ∧ b ≤ u)))) (fun x => (∃ b, b < 16 ∧ avl (mens S) g b ∧ (∀ m, m < 16 → avl (mens S) g m → phi h m ≤ phi h b) ∧ x = .inl (k + 1, jb_up (jb_up M 41 4 (nI (g ||| 2 ^ b))) 41 3 (nI (t + h b)))) ∨ (∀ m, m < 16 → ¬ avl (mens S) g m)) (by
    rintro r s ⟨m, b, hm, rfl, hb⟩
    unfold zf_47_H26
    dsimp only
    by_cases e : m < 16
    · left
      have next : ∀ b', ((b' = 16 ∧ ∀ u, u < m + 1 → ¬ avl (mens S) g u) ∨ (b' < m + 1 ∧ avl (mens S) g b' ∧ ∀ u, u < m + 1 → avl (mens S) g u → h u < h b' ∨ (h u = h b' ∧ b' ≤ u))) → ∃ (r' : Nat) (t : Int32 × Int32), r' < r ∧ some (Sum.inl (eb1 b', nI (m + 1))) = (some (.inl t) : Option ((Int32 × Int32) ⊕ ((Int32 × jb_Mi) ⊕ jb_Mi))) ∧ ∃ m b, m + r' = 16 ∧ t = (eb1 b, nI m) ∧ ((b = 16 ∧ ∀ u, u < m → ¬ avl (mens S) g u) ∨ (b < m ∧ avl (mens S) g b ∧ ∀ u, u < m → avl (mens S) g u → h u < h b ∨ (h u = h b ∧ b ≤ u))) := fun b' hb' => ⟨r - 1, _, by omega, rfl, m + 1, b', by omega, rfl, hb'⟩
      have skip : ¬ avl (mens S) g m → ∃ (r' : Nat) (t : Int32 × Int32), r' < r ∧ some (Sum.inl (eb1 b, nI (m + 1))) = (some (.inl t) : Option ((Int32 × Int32) ⊕ ((Int32 × jb_Mi) ⊕ jb_Mi))) ∧ ∃ m b, m + r' = 16 ∧ t = (eb1 b, nI m) ∧ ((b = 16 ∧ ∀ u, u < m → ¬ avl (mens S) g u) ∨ (b < m ∧ avl (mens S) g b ∧ ∀ u, u < m → avl (mens S) g u → h u < h b ∨ (h u = h b ∧ b ≤ u))) := by
        intro hv
        apply next
        rcases hb with ⟨b1, b2⟩ | ⟨b1, b2, b3⟩
        · refine Or.inl ⟨b1, fun u hu => ?_⟩
          by_cases z : u = m
          · rw [z]; exact hv
          · exact b2 u (by omega)
        · refine Or.inr ⟨by omega, b2, fun u hu hu2 => ?_⟩
          by_cases z : u = m
          · rw [z] at hu2; exact absurd hu2 hv
          · exact b3 u (by omega) hu2
      rw [if_pos (show nI m < 16 from nI_lt (b := 16) e (by decide)), jc_man hC hR e, Option.bind_some, h41]
      unfold zf_47_J61 zf_47_J62 zf_47_J89 zf_47_J92
      rw [if_pos rfl, if_neg (show ¬ (1 : Int32) = 0 by decide), nI_1]
      simp only [jn_bit0 (show g < 2 ^ 31 by omega) (show m < 32 by omega)]
      by_cases ct : 0 < S 7 m
      · rw [decide_eq_true ct, jb_yes]
        cases cg : g.testBit m
        · have hv : avl (mens S) g m := ⟨by rw [mens_bit e, decide_eq_true ct], cg⟩
          rw [if_pos rfl]
          have em : nI m = eb1 m := (if_neg (by omega)).symm
          rcases hb with ⟨b1, b2⟩ | ⟨b1, b2, b3⟩
          · rw [if_pos (show eb1 b < 0 by unfold eb1; rw [if_pos b1]; decide)]
            have := next m (Or.inr ⟨by omega, hv, fun u hu hu2 => by
              by_cases z : u = m
              · rw [z]; exact Or.inr ⟨rfl, Nat.le_refl _⟩
              · exact absurd hu2 (b2 u (by omega))⟩)
            rw [← em] at this
            exact this
          · have eb : eb1 b = nI b := if_neg (by omega)
            have hb16 : b < 16 := by omega
            have l1 := hh2 b
            have l2 := hh2 m
            rw [eb, if_neg (nI_pos (by omega)), jn_gd e (by decide), jn_gd hb16 (by decide), nI_clamp (by omega), nI_clamp (by omega), hh m e, hh b hb16]
            simp only [jn_lt (show h b < 2 ^ 31 by omega) (show h m < 2 ^ 31 by omega)]
            by_cases cl : h b < h m
            · rw [if_pos cl]
              have := next m (Or.inr ⟨by omega, hv, fun u hu hu2 => by
                by_cases z : u = m
                · rw [z]; exact Or.inr ⟨rfl, Nat.le_refl _⟩
                · have := b3 u (by omega) hu2
                  omega⟩)
              rw [← em] at this
              exact this
            · rw [if_neg cl, ← eb]
              exact next b (Or.inr ⟨by omega, b2, fun u hu hu2 => by
                by_cases z : u = m
                · rw [z]; omega
                · exact b3 u (by omega) hu2⟩)
        · rw [if_neg (by decide)]
          exact skip (fun z => by rw [z.2] at cg; cases cg)
      · rw [decide_eq_false ct, jb_no]
        exact skip (fun z => by have := z.1; rw [mens_bit e, decide_eq_false ct] at this; cases this)
    · have e : m = 16 := by omega
      subst e
      right
      rcases hb with ⟨b1, b2⟩ | ⟨b1, b2, b3⟩
      · refine ⟨.inl (k + 1, M), ?_, Or.inr b2⟩
        rw [if_neg (by decide), if_pos (show eb1 b < 0 by unfold eb1; rw [if_pos b1]; decide)]
        rfl
      · have eb : eb1 b = nI b := if_neg (by omega)
        have hb16 : b < 16 := by omega
        refine ⟨.inl (k + 1, jb_up (jb_up M 41 4 (nI (g ||| 2 ^ b))) 41 3 (nI (t + h b))), ?_, Or.inl ⟨b, b1, b2, fun m hm hv => ?_, rfl⟩⟩
        · unfold zf_47_J129
          rw [if_neg (by decide), eb, if_neg (nI_pos (by omega)), jn_gd hb16 (by decide), nI_clamp (by omega), h41, jn_shl _ (by omega), jn_or, jb_up_off (show (42 : Nat) ≠ 41 by decide), hh b hb16, jb_up_at, if_neg (by decide), h43, nI_add]
          rfl
        · exact phi_le hm hb16 (b3 m hm hv)) 16 (eb1 16, nI 0) ⟨0, 16, by omega, rfl, Or.inl ⟨rfl, fun u hu => by omega⟩⟩
  rcases h2 with ⟨b, b1, b2, b3, rfl⟩ | h2
  · exact Or.inl ⟨b, b1, b2, b3, h1⟩
  · exact Or.inr h2
theorem jc_strikers {S : jSt} {R : Nat → List Nat} {M : jb_Mi} (hC : jC 4 S M) (hR : jR S) (hr : jRo R M) {n : Nat} (hn : n ≤ 3) (hp : n ≤ pc (mens S)) : ∃ g M1, zf_47 (nI n) M = some M1 ∧ (∀ a, a ≠ 41 → a ≠ 42 → M1 a = M a) ∧ bestj (hH (wk S R) 24) (mens S) n g ∧ M1 41 4 = nI g ∧ M1 41 3 = nI (ssum (hH (wk S R) 24) g) := by
  obtain ⟨M0, f1, f2, f3⟩ := jc_held hC hR hr
  unfold zf_47
  rw [f1, Option.bind_some]
  obtain ⟨M1, h1, h2, g, h3, h4, h5⟩ := jb_inv (f := zf_47_H16 (nI n)) (fun r s => ∃ k g M', k + r = n ∧ s = (nI k, M') ∧ (∀ a, a ≠ 41 → M' a = M0 a) ∧ bestj (hH (wk S R) 24) (mens S) k g ∧ M' 41 4 = nI g ∧ M' 41 3 = nI (ssum (hH (wk S R) 24) g) ∧ ssum (hH (wk S R) 24) g ≤ 100 * k) (fun M1 => (∀ a, a ≠ 41 → M1 a = M0 a) ∧ ∃ g, bestj (hH (wk S R) 24) (mens S) n g ∧ M1 41 4 = nI g ∧ M1 41 3 = nI (ssum (hH (wk S R) 24) g)) (by
    rintro r s ⟨k, g, M', hk, rfl, h1, h2, h3, h4, h5⟩
    unfold zf_47_H16
    dsimp only
    have hl : ∀ m, hH (wk S R) 24 m ≤ 100 := fun m => by have := hH_le (wk S R) 24 m; omega
    by_cases e : k < n
    · rw [if_pos (nI_lt e (by omega))]
      rcases jc_pick (M := M') (jC_of hC (fun a q1 q2 => by rw [h1 a (by omega), f2 a (by omega)])) hR (h := hH (wk S R) 24) (fun m hm => by rw [h1 42 (by decide), f3 m hm]) hl h2.1 (by omega) h3 h4 (nI n) (nI k) with ⟨b, b1, b2, b3, b4⟩ | hno
      · have hin := ssum_in (hH (wk S R) 24) b1 b2.2
        have hlb := hl b
        refine Or.inl ⟨r - 1, (nI (k + 1), jb_up (jb_up M' 41 4 (nI (g ||| 2 ^ b))) 41 3 (nI (ssum (hH (wk S R) 24) g + hH (wk S R) 24 b))), by omega, ?_, k + 1, g ||| 2 ^ b, _, by omega, rfl, fun a ha => by rw [jb_up_off ha, jb_up_off ha, h1 a ha], bestj_s h2 b1 b2.1 b2.2 (fun m hm q1 q2 => b3 m hm ⟨q1, q2⟩), ?_, ?_, by omega⟩
        · rw [show ((-1 : Int32), (0 : Int32)) = (-1, 0) from rfl, b4, nI_1]
        · rw [jb_up_at, if_neg (by decide), jb_up_at, if_pos ⟨rfl, rfl⟩]
        · rw [jb_up_at, if_pos ⟨rfl, rfl⟩, hin]
      · exfalso
        have hs : sub16 (mens S) g := by
          intro m hm
          cases q : g.testBit m
          · exact absurd ⟨hm, q⟩ (hno m (bit_lt16 (mens_lt S) hm))
          · rfl
        have := sub_pc hs
        have := h2.2.2.1
        omega
    · have e : k = n := by omega
      subst e
      exact Or.inr ⟨M', if_neg (nI_nlt (Nat.le_refl _) (by omega)), h1, g, h2, h3, h4⟩) n (nI 0, jb_up (jb_up M0 41 3 0) 41 4 0) ⟨0, 0, _, by omega, rfl, fun a ha => by rw [jb_up_off ha, jb_up_off ha], bestj_0 _ _, by rw [jb_up_at, if_pos ⟨rfl, rfl⟩]; rfl, by
        rw [jb_up_at, if_neg (by decide), jb_up_at, if_pos ⟨rfl, rfl⟩]
        have : ssum (hH (wk S R) 24) 0 = 0 := by
          have : ∀ n, jsum (sg (hH (wk S R) 24) 0) n = 0 := by
            intro n
            induction n with
            | zero => rfl
            | succ n ih => simp only [jsum]; rw [ih]; unfold sg; rw [Nat.zero_testBit]; rfl
          exact this 16
        rw [this]
        rfl, by
        have : ∀ n, jsum (sg (hH (wk S R) 24) 0) n = 0 := by
          intro n
          induction n with
          | zero => rfl
          | succ n ih => simp only [jsum]; rw [ih]; unfold sg; rw [Nat.zero_testBit]; rfl
        exact Nat.le_of_eq (this 16)⟩
  exact ⟨g, M1, h1, fun a q1 q2 => by rw [h2 a q1, f2 a q2], h3, h4, h5⟩
theorem jd_empty {S : jSt} {R : Nat → List Nat} {M : jb_Mi} (hD : jD 80 S M) (hR : jR S) (hr : jRo R M) {s : Nat} (hs : s < 65536) : zf_256 (nI s) M = some (nI (eE (wk S R) s 24)) := by
  have hW : ∀ k q, wk S R k q ≤ 17 := wk_le S R
  unfold zf_256
  refine jb_itp (f := zf_256_H4 (nI s) M) (fun (n : Nat) k => (nI n, nI k)) (fun k n => (itf (emG (wk S R k)) (n, s) 24).1) (fun k n => n = eE (wk S R) s k) 0 24 rfl ?_ ?_
  · intro k n hk hn
    refine ⟨?_, by rw [hn]; rfl⟩
    unfold zf_256_H4
    dsimp only
    rw [if_pos (show nI k < 24 from nI_lt (b := 24) hk (by decide))]
    refine jb_itp (f := zf_256_H16 (nI s) (nI k) M) (fun (a : Nat × Nat) q => (nI a.1, nI a.2, nI q)) (emG (wk S R k)) (fun _ a => a.2 < 65536) (n, s) 24 hs ?_ ?_
    · intro q a hq ha
      have hlt : (emG (wk S R k) q a).2 < 65536 := by
        have := hW k q
        unfold emG
        split
        · exact ha
        · split
          · exact ha
          · rename_i c1 c2
            exact Nat.or_lt_two_pow (n := 16) ha (Nat.pow_lt_pow_right (a := 2) (by decide) (by omega))
      refine ⟨?_, hlt⟩
      unfold zf_256_H16 zf_256_J62 zf_256_J78
      dsimp only
      rw [if_pos (show nI q < 24 from nI_lt (b := 24) hq (by decide)), jn_div (by omega), jd_up hD hR (by omega), Option.bind_some, jd_has hD hR hr hq (by omega), Option.bind_some, nI_1, nI_1]
      unfold emG
      by_cases cu : 0 < S 0 (q / 4) ∧ S 2 (q / 4) < 9
      · have ew : wk S R k q = whoT S R q (now S + k) := if_pos cu
        have hwl := whoT_le S R q (now S + k)
        rw [decide_eq_true cu, jb_yes, ew, if_neg (show ¬ whoT S R q (now S + k) = 17 by omega)]
        unfold enc
        by_cases c16 : whoT S R q (now S + k) = 16
        · rw [if_pos c16, if_pos rfl, if_pos (Or.inl c16)]
        · obtain ⟨t1, -⟩ := whoT_told c16
          rw [if_neg c16, if_neg (by rw [jn_m1 (by omega)]; exact id), jn_has (by omega) (by omega), jn_shl _ (by omega), jn_or]
          cases cb : a.2.testBit (whoT S R q (now S + k))
          · rw [jb_no, if_neg (fun z => z.elim c16 (by decide))]
          · rw [jb_yes, if_pos (Or.inr rfl)]
      · rw [decide_eq_false cu, jb_no, if_pos (show wk S R k q = 17 from if_neg cu)]
    · rintro b - rfl
      unfold zf_256_H16
      refine (if_neg (by dsimp only; decide)).trans ?_
      dsimp only
      rw [nI_1]
  · rintro b hb -
    unfold zf_256_H4
    refine (if_neg (by dsimp only; decide)).trans ?_
    dsimp only
    rw [hb]
theorem ca_strike {n : Nat} {M : jb_Mi} {N : jb_Ml} (hn : n < 512) (h : jInv n M N) (a1 a2 : Int32) : ∃ (r : Int32) (M1 : jb_Mi), zf_152 a1 a2 M = some (r, M1) ∧ M1 0 = M 0 ∧ zf_258 a1 a2 M1 = some r ∧ jInv (n + 1) M1 N := by
  obtain ⟨⟨S, hC, hD, hR, hT⟩, -, -, ⟨R, hr⟩, -⟩ := id h
  unfold zf_152 zf_258
  simp only [jn_b, jn_w]
  by_cases c1 : zf_23 a1 1 3 = false
  · exact ⟨_, M, if_pos c1, rfl, if_pos c1, jInv_mono h⟩
  by_cases c2 : zf_23 a2 0 1 = false
  · exact ⟨_, M, (if_neg c1).trans (if_pos c2), rfl, (if_neg c1).trans (if_pos c2), jInv_mono h⟩
  obtain ⟨k, hk1, hk, rfl⟩ := jn_in1 (x := a1) 1 3 (by decide) (by decide) c1
  obtain ⟨w, hw, rfl⟩ := jn_in (x := a2) 1 (by decide) c2
  have hpl := pc_le (mens S)
  have hml := mens_lt S
  rw [jc_mens hC hR, if_neg c1, if_neg c2, Option.bind_some, jc_bits hml]
  simp only [jn_lt (show pc (mens S) < 2 ^ 31 by omega) (show k < 2 ^ 31 by omega)]
  by_cases c3 : pc (mens S) < k
  · refine ⟨-2, M, if_pos c3, rfl, ?_, jInv_mono h⟩
    rw [if_neg c1, if_neg c2, jd_mens hD hR, Option.bind_some, jd_bits (by omega), Option.bind_some]
    exact if_pos (nI_lt c3 (by omega))
  rw [if_neg c3]
  obtain ⟨g, M1, k1, k2, k3, k4, k5⟩ := jc_strikers hC hR hr hk (by omega)
  have hD1 : jD 80 S M1 := jD_of hD (k2 80 (by decide) (by decide))
  have hr1 : jRo R M1 := jRo_of hr (k2 36 (by decide) (by decide)) (k2 98 (by decide) (by decide)) (k2 35 (by decide) (by decide)) (k2 97 (by decide) (by decide))
  have hW : ∀ k q, wk S R k q ≤ 17 := wk_le S R
  refine ⟨if w = 0 then nI (ssum (hH (wk S R) 24) g) else nI g, M1, ?_, k2 0 (by decide) (by decide), ?_, jInv_off h (fun a ha => k2 a (by unfold jfix jrel at ha; omega) (by unfold jfix jrel at ha; omega))⟩
  · rw [k1, Option.bind_some, k4, k5]
    simp only [show (nI w = 0) = (w = 0) from jn_eq (b := 0) (by omega) (by decide)]
    split <;> rfl
  · rw [if_neg c1, if_neg c2, jd_mens hD1 hR, Option.bind_some, jd_bits (by omega), Option.bind_some, if_neg (nI_nlt (by omega) (by omega))]
    -- the reference's search: the first of the greatest so far
    obtain ⟨x, y1, y2⟩ := jb_inv (f := zf_258_H45 (nI k) (nI w) (nI (mens S)) M1) (fun r s => ∃ t b, t + r = 65536 ∧ 1 ≤ t ∧ ((s = (nI b, -1, nI t) ∧ ∀ u, u < t → 1 ≤ u → ¬ (sub16 u (mens S) ∧ pc u = k)) ∨ (s = (nI b, nI (eE (wk S R) b 24), nI t) ∧ b < t ∧ sub16 b (mens S) ∧ pc b = k ∧ ∀ u, u < t → 1 ≤ u → sub16 u (mens S) → pc u = k → eE (wk S R) u 24 < eE (wk S R) b 24 ∨ (eE (wk S R) u 24 = eE (wk S R) b 24 ∧ b ≤ u)))) (fun x => x = if w = 0 then nI (ssum (hH (wk S R) 24) g) else nI g) (by
      rintro r s ⟨t, b, ht, ht1, hs⟩
      unfold zf_258_H45 zf_258_J100
      by_cases e : t < 65536
      · left
        have keep : ¬ (sub16 t (mens S) ∧ pc t = k) → ∃ (r' : Nat) (z : Int32 × Int32 × Int32), r' < r ∧ some (Sum.inl (s.1, s.2.1, nI (t + 1))) = (some (.inl z) : Option ((Int32 × Int32 × Int32) ⊕ Int32)) ∧ ∃ t b, t + r' = 65536 ∧ 1 ≤ t ∧ ((z = (nI b, -1, nI t) ∧ ∀ u, u < t → 1 ≤ u → ¬ (sub16 u (mens S) ∧ pc u = k)) ∨ (z = (nI b, nI (eE (wk S R) b 24), nI t) ∧ b < t ∧ sub16 b (mens S) ∧ pc b = k ∧ ∀ u, u < t → 1 ≤ u → sub16 u (mens S) → pc u = k → eE (wk S R) u 24 < eE (wk S R) b 24 ∨ (eE (wk S R) u 24 = eE (wk S R) b 24 ∧ b ≤ u))) := by
          intro hno
          refine ⟨r - 1, _, by omega, rfl, t + 1, b, by omega, by omega, ?_⟩
          rcases hs with ⟨rfl, hs⟩ | ⟨rfl, s1, s2, s3, s4⟩
          · refine Or.inl ⟨rfl, fun u hu hu1 => ?_⟩
            by_cases z : u = t
            · rw [z]; exact hno
            · exact hs u (by omega) hu1
          · refine Or.inr ⟨rfl, by omega, s2, s3, fun u hu hu1 q1 q2 => ?_⟩
            by_cases z : u = t
            · rw [z] at q1 q2; exact absurd ⟨q1, q2⟩ hno
            · exact s4 u (by omega) hu1 q1 q2
        have est : s.2.2 = nI t := by
          rcases hs with ⟨rfl, -⟩ | ⟨rfl, -⟩ <;> rfl
        rw [est, if_pos (show nI t < 65536 from nI_lt (b := 65536) e (by decide)), jd_bits (by omega), Option.bind_some, jd_empty hD1 hR hr1 e, Option.bind_some, nI_1]
        have hpt := pc_le t
        simp only [jn_sub0 (show t < 2 ^ 31 by omega) (show mens S < 2 ^ 31 by omega), jn_eq (show pc t < 2 ^ 31 by omega) (show k < 2 ^ 31 by omega)]
        by_cases q1 : t &&& mens S = t
        · rw [if_pos q1]
          have q1' := sub_and.mp q1
          by_cases q2 : pc t = k
          · rw [if_pos q2]
            have et := eE_le hW t (Nat.le_refl 24)
            have eb := eE_le hW b (Nat.le_refl 24)
            rcases hs with ⟨rfl, hs⟩ | ⟨rfl, s1, s2, s3, s4⟩
            · dsimp only
              rw [if_pos (show (-1 : Int32) < nI (eE (wk S R) t 24) by rw [fa_ltx, nI_toInt (by omega), show (-1 : Int32).toInt = -1 from by decide]; omega)]
              refine ⟨r - 1, _, by omega, rfl, t + 1, t, by omega, by omega, Or.inr ⟨rfl, by omega, q1', q2, fun u hu hu1 z1 z2 => ?_⟩⟩
              by_cases z : u = t
              · rw [z]; exact Or.inr ⟨rfl, Nat.le_refl _⟩
              · exact absurd ⟨z1, z2⟩ (hs u (by omega) hu1)
            · dsimp only
              by_cases q3 : eE (wk S R) b 24 < eE (wk S R) t 24
              · rw [if_pos (nI_lt q3 (by omega))]
                refine ⟨r - 1, _, by omega, rfl, t + 1, t, by omega, by omega, Or.inr ⟨rfl, by omega, q1', q2, fun u hu hu1 z1 z2 => ?_⟩⟩
                by_cases z : u = t
                · rw [z]; exact Or.inr ⟨rfl, Nat.le_refl _⟩
                · have := s4 u (by omega) hu1 z1 z2
                  omega
              · rw [if_neg (nI_nlt (by omega) (by omega))]
                refine ⟨r - 1, _, by omega, rfl, t + 1, b, by omega, by omega, Or.inr ⟨rfl, by omega, s2, s3, fun u hu hu1 z1 z2 => ?_⟩⟩
                by_cases z : u = t
                · rw [z]; omega
                · exact s4 u (by omega) hu1 z1 z2
          · rw [if_neg q2]
            exact keep (fun z => q2 z.2)
        · rw [if_neg q1]
          exact keep (fun z => q1 (sub_and.mpr z.1))
      · right
        have e : t = 65536 := by omega
        subst e
        have g1 : 1 ≤ g := by
          apply Classical.byContradiction
          intro z
          have : g = 0 := by omega
          rw [this] at k3
          have := k3.2.2.1
          rw [show pc 0 = 0 by decide] at this
          omega
        rcases hs with ⟨rfl, hs⟩ | ⟨rfl, s1, s2, s3, s4⟩
        · exact absurd ⟨k3.2.1, k3.2.2.1⟩ (hs g k3.1 g1)
        · have hgb := s4 g k3.1 g1 k3.2.1 k3.2.2.1
          rw [eE_sum hW g, eE_sum hW b] at hgb
          have ebg : b = g := bestj_first k3 s1 s2 s3 (by omega)
          subst ebg
          refine ⟨_, ?_, rfl⟩
          dsimp only
          rw [if_neg (by decide), show (0 : Int32) = nI 0 from rfl, jd_empty hD1 hR hr1 (by decide), Option.bind_some]
          simp only [show (nI w = nI 0) = (w = 0) from jn_eq (b := 0) (by omega) (by decide)]
          rw [eE_sum hW b, pk_sub (by omega), Nat.add_sub_cancel_left]
          split <;> rfl) 65535 (nI 0, -1, nI 1) ⟨1, 0, by omega, Nat.le_refl _, Or.inl ⟨rfl, fun u hu hu1 => by omega⟩⟩
    rw [show ((0 : Int32), (-1 : Int32), (1 : Int32)) = (nI 0, -1, nI 1) from rfl, y1, y2]
