/-! THE LAW's steps, done: in themselves, by the class, by the reference -/
noncomputable def rck (o : Nat) (x y : Int32) : Int32 := if o = 2 then x + y else if o = 3 then x - y else if o = 4 then x * y else if o = 5 then x / y else if o = 6 then x - x / y * y else if o = 7 then (if x < y then 1 else 0) else if o = 8 then (if y < x then 1 else 0) else (if x = y then 1 else 0)
noncomputable def rnp (F : Nat → Int32) (p : jPc) : Nat → Nat → (Nat → Int32) → Option Int32
  | 0, _, _ => none
  | f + 1, k, st => if p.length ≤ k then some (st 0) else if (pat p k).1 ≤ 1 then rnp F p f (k + 1) (upd st (dp p k) (if (pat p k).1 = 0 then nI (pat p k).2 else F (pat p k).2)) else if (pat p k).1 = 10 then rnp F p f (k + 1) (upd st (dp p k - 1) (1 - st (dp p k - 1))) else if 11 ≤ (pat p k).1 then (if st (dp p k - 1) = (if (pat p k).1 = 12 then 1 else 0) then rnp F p f (pat p k).2 st else rnp F p f (k + 1) st) else if ((pat p k).1 = 5 ∨ (pat p k).1 = 6) ∧ st (dp p k - 1) = 0 then none else rnp F p f (k + 1) (upd st (dp p k - 2) (rck (pat p k).1 (st (dp p k - 2)) (st (dp p k - 1))))
/-- what a piece comes to; none: refused -/
noncomputable def rnv (F : Nat → Int32) (p : jPc) : Option Int32 := rnp F p (p.length + 1) 0 (fun _ => 0)
theorem upd_at (f : Nat → Int32) (k j : Nat) (x : Int32) : upd f k x j = if j = k then x else f j := rfl
theorem dp_s (p : jPc) (k : Nat) : dp p (k + 1) = dst (pat p k) (dp p k) := rfl
theorem dp_le {p : jPc} (h : ∀ k, k < p.length → okI p k) : ∀ k, k ≤ p.length → dp p k ≤ 31
  | 0, _ => Nat.zero_le _
  | k + 1, hk => by
    have i := dp_le h k (by omega)
    have o := (h k (by omega)).2.2.1
    rw [dp_s]
    unfold dst
    split
    · rename_i c; have := o c; omega
    · split <;> omega
theorem isb_s (p : jPc) (k : Nat) : isb p (k + 1) ↔ 7 ≤ (pat p k).1 ∧ (pat p k).1 ≤ 10 := by
  unfold isb
  simp
/-- the uppermost is 0 or 1 where it must be -/
def tb01 (p : jPc) (k : Nat) (st : Nat → Int32) : Prop := isb p k → st (dp p k - 1) = 0 ∨ st (dp p k - 1) = 1
theorem rck_b {o : Nat} (h : 7 ≤ o) (x y : Int32) : rck o x y = 0 ∨ rck o x y = 1 := by
  unfold rck
  rw [if_neg (by omega), if_neg (by omega), if_neg (by omega), if_neg (by omega), if_neg (by omega)]
  split
  · split <;> simp
  · split
    · split <;> simp
    · split <;> simp
theorem not01 {x : Int32} (h : x = 0 ∨ x = 1) : (1 - x = 0 ∨ 1 - x = 1) ∧ (1 - x = if x = 0 then 1 else 0) := by
  rcases h with rfl | rfl <;> decide
theorem cop_bin : ∀ o, o < 10 → 2 ≤ o → 6 ≤ cop o ∧ cop o < 128 := by decide
theorem jc_reckon {o : Nat} (h1 : 2 ≤ o) (h2 : o ≤ 9) (x y : Int32) (M : jb_Mi) : zf_65 (nI (cop o)) x y M = if (o = 5 ∨ o = 6) ∧ y = 0 then some (0, jb_up M 57 3 1) else some (rck o x y, M) := by
  unfold zf_65 jb_g0 rck
  rcases (show o = 2 ∨ o = 3 ∨ o = 4 ∨ o = 5 ∨ o = 6 ∨ o = 7 ∨ o = 8 ∨ o = 9 by omega) with rfl | rfl | rfl | rfl | rfl | rfl | rfl | rfl
  · simp [cop, nI]
  · simp [cop, nI]
  · simp [cop, nI]
  · by_cases hy : y = 0 <;> simp [cop, nI, hy]
  · by_cases hy : y = 0 <;> simp [cop, nI, hy]
  · simp [cop, nI]
    split <;> rfl
  · simp [cop, nI]
    split <;> rfl
  · simp [cop, nI]
    split <;> rfl
theorem jd_reckon {o : Nat} (h1 : 2 ≤ o) (h2 : o ≤ 9) (x y : Int32) (hy : ¬ ((o = 5 ∨ o = 6) ∧ y = 0)) : zf_206 (nI o) x y = some (rck o x y) := by
  unfold zf_206 jb_g0 rck
  rcases (show o = 2 ∨ o = 3 ∨ o = 4 ∨ o = 5 ∨ o = 6 ∨ o = 7 ∨ o = 8 ∨ o = 9 by omega) with rfl | rfl | rfl | rfl | rfl | rfl | rfl | rfl
  · simp [nI]
  · simp [nI]
  · simp [nI]
  · simp at hy
    simp [nI, hy]
  · simp at hy
    simp [nI, hy]
  · simp [nI]
    split <;> rfl
  · simp [nI]
    split <;> rfl
  · simp [nI]
    split <;> rfl
/-- what stays while THE LAW is asked -/
def lwsame (M M' : jb_Mi) : Prop := ∀ a, a ≠ 57 → a ≠ 59 → M' a = M a
theorem cC_of {s : Nat} {p : jPc} {M M' : jb_Mi} (h : cC 45 46 s p M) (h45 : M' 45 = M 45) (h46 : M' 46 = M 46) : cC 45 46 s p M' := by
  unfold cC
  rw [h45, h46]
  exact h
theorem tp0 : nI 0 - 1 = -1 := by decide
theorem tp1 (n : Nat) : nI n - 1 + 1 = nI n := Int32.sub_add_cancel ..
theorem jc_runs {F : Nat → Int32} {p : jPc} {s sz : Nat} (hp : okP p) (hs : s + p.length < sz) (hz : sz ≤ 240) : ∀ (f k c : Nat) (st : Nat → Int32) (M : jb_Mi), k ≤ p.length → p.length - k < f → c + (p.length - k) + 2 ≤ 240 ∨ (c + (p.length - k) + 1 ≤ 240) → cC 45 46 s p M → M 45 (s + p.length) = 0 → M 44 5 = nI sz → M 57 3 = 0 → (∀ j, j < 10 → M 58 j = F j) → (∀ j, j < dp p k → M 59 j = st j) → tb01 p k st → ∃ v M', jb_lp zf_66_H12 (nI (dp p k) - 1, nI (s + k), nI c, M) = some (v, M') ∧ lwsame M M' ∧ ((rnp F p f k st = some v ∧ M' 57 3 = 0) ∨ (rnp F p f k st = none ∧ v = 0 ∧ M' 57 3 = 1))
  | 0, k, c, st, M, hk, hf, hc, h1, h2, h3, h4, h5, h6, h7 => by omega
  | f + 1, k, c, st, M, hk, hf, hc, h1, h2, h3, h4, h5, h6, h7 => by
    have hd := dp_le hp.1 k hk
    have hlt : nI c < 240 := nI_lt (b := 240) (by omega) (by decide)
    by_cases ce : p.length ≤ k
    · have ek : k = p.length := by omega
      subst ek
      have e1 := hp.2
      refine ⟨M 59 0, M, ?_, fun _ _ _ => rfl, Or.inl ⟨?_, h4⟩⟩
      · refine jb_lp_inr ?_
        unfold zf_66_H12
        dsimp only
        rw [if_pos hlt, if_pos h4, if_neg (nI_pos (by omega)), if_pos (show nI (s + p.length) < M 44 5 by rw [h3]; exact nI_lt hs (by omega)), jn_gd (by omega) (by decide), jn_gd (by omega) (by decide), nI_clamp (by omega), if_neg (show ¬ M 45 (s + p.length) = 1 by rw [h2]; decide), if_neg (show ¬ M 45 (s + p.length) = 2 by rw [h2]; decide), e1, show nI 1 - 1 = nI 0 from by decide, if_neg (show ¬ nI 0 < 0 by decide), if_pos (show M 45 (s + p.length) = 0 from h2), jn_gd (by omega) (by decide)]
        rfl
      · unfold rnp
        rw [if_pos (Nat.le_refl _), h6 0 (by rw [e1]; omega)]
    · have hkl : k < p.length := by omega
      obtain ⟨o1, o2, o3, o4, o5, o6, o7⟩ := hp.1 k hkl
      obtain ⟨c1, c2⟩ := h1 k hkl
      -- the step as the machine sees it
      have head : ∀ X, (if nI (cop (pat p k).1) = 1 then zf_66_J81 (nI (dp p k) - 1) (nI (s + k + 1)) (nI c) (nI (cop (pat p k).1)) (nI (ptg s (pat p k))) M else if nI (cop (pat p k).1) = 2 then zf_66_J81 (nI (dp p k) - 1) (nI (s + k + 1)) (nI c) (nI (cop (pat p k).1)) (nI (ptg s (pat p k))) M else if nI (dp p k) - 1 < 0 then some (.inr (0, M)) else if nI (cop (pat p k).1) = 0 then jb_gd (nI (dp p k) - 1) 32 (some (.inr (M 59 (nI (dp p k) - 1).toNatClampNeg, M))) else if nI (cop (pat p k).1) = 3 then jb_gd (nI (dp p k) - 1) 32 (if M 59 (nI (dp p k) - 1).toNatClampNeg = 0 then zf_66_J163 (nI (dp p k) - 1) (nI (s + k + 1)) (nI c) (nI (dp p k) - 1) 1 M else zf_66_J163 (nI (dp p k) - 1) (nI (s + k + 1)) (nI c) (nI (dp p k) - 1) 0 M) else if nI (cop (pat p k).1) = 4 then zf_66_J179 (nI (dp p k) - 1) (nI (s + k + 1)) (nI c) (nI (cop (pat p k).1)) (nI (ptg s (pat p k))) M else if nI (cop (pat p k).1) = 5 then zf_66_J179 (nI (dp p k) - 1) (nI (s + k + 1)) (nI c) (nI (cop (pat p k).1)) (nI (ptg s (pat p k))) M else if nI (dp p k) - 1 < 1 then some (.inr (0, M)) else jb_gd (nI (dp p k) - 1 + (-1)) 32 (jb_gd (nI (dp p k) - 1 + (-1) + 1) 32 ((zf_65 (nI (cop (pat p k).1)) (M 59 (nI (dp p k) - 1 + (-1)).toNatClampNeg) (M 59 (nI (dp p k) - 1 + (-1) + 1).toNatClampNeg) M).bind fun q11 => jb_gd (nI (dp p k) - 1 + (-1)) 32 (zf_66_J278 (nI (dp p k) - 1 + (-1)) (nI (s + k + 1)) (nI c) (jb_up q11.2 59 (nI (dp p k) - 1 + (-1)).toNatClampNeg q11.1))))) = X → zf_66_H12 (nI (dp p k) - 1, nI (s + k), nI c, M) = X := by
        intro X hX
        rw [← hX]
        unfold zf_66_H12
        dsimp only
        rw [if_pos hlt, if_pos h4, if_neg (nI_pos (by omega)), if_pos (show nI (s + k) < M 44 5 by rw [h3]; exact nI_lt (by omega) (by omega)), jn_gd (by omega) (by decide), jn_gd (by omega) (by decide), nI_clamp (by omega)]
        simp only [c1, c2, nI_1]
      have ec : p.length - (k + 1) + 1 = p.length - k := by omega
      by_cases g1 : (pat p k).1 ≤ 1
      · -- a number, a fact
        have hd30 := o3 g1
        have hval : ∃ x : Int32, (if (pat p k).1 = 0 then nI (pat p k).2 else F (pat p k).2) = x ∧ zf_66_J81 (nI (dp p k) - 1) (nI (s + k + 1)) (nI c) (nI (cop (pat p k).1)) (nI (ptg s (pat p k))) M = some (.inl (nI (dp p k + 1) - 1, nI (s + k + 1), nI (c + 1), jb_up M 59 (dp p k) x)) ∧ (nI (cop (pat p k).1) = 1 ∨ nI (cop (pat p k).1) = 2) := by
          have ep : ptg s (pat p k) = (pat p k).2 := if_neg (by omega)
          rcases (show (pat p k).1 = 0 ∨ (pat p k).1 = 1 by omega) with q | q
          · refine ⟨nI (pat p k).2, if_pos q, ?_, by rw [q]; exact Or.inl rfl⟩
            unfold zf_66_J81 zf_66_J116 zf_66_J278
            rw [tp1, if_pos (show nI (dp p k) < 32 from nI_lt (b := 32) (by omega) (by decide)), q, show nI (cop 0) = 1 from rfl, if_pos rfl, jn_gd (by omega) (by decide), nI_clamp (by omega), ep, nI_1, nI_pred]
          · have h10 := o4 q
            refine ⟨F (pat p k).2, if_neg (by omega), ?_, by rw [q]; exact Or.inr rfl⟩
            unfold zf_66_J81 zf_66_J116 zf_66_J278 zf_64
            rw [tp1, if_pos (show nI (dp p k) < 32 from nI_lt (b := 32) (by omega) (by decide)), q, show nI (cop 1) = 2 from rfl, if_neg (by decide), ep, if_neg (nI_pos (by omega)), if_pos (show nI (pat p k).2 < 10 from nI_lt (b := 10) h10 (by decide)), jn_gd h10 (by decide), nI_clamp (by omega), Option.bind_some, jn_gd (by omega) (by decide), nI_clamp (by omega), h5 _ h10, nI_1, nI_pred]
        obtain ⟨x, hx, hj, hcc⟩ := hval
        have hst : zf_66_H12 (nI (dp p k) - 1, nI (s + k), nI c, M) = some (.inl (nI (dp p k + 1) - 1, nI (s + k + 1), nI (c + 1), jb_up M 59 (dp p k) x)) := by
          apply head
          rcases hcc with hcc | hcc
          · rw [if_pos hcc, hj]
          · rw [hcc, if_neg (by decide), if_pos rfl, ← hcc, hj]
        have ed : dp p (k + 1) = dp p k + 1 := by rw [dp_s]; unfold dst; rw [if_pos g1]
        obtain ⟨v, M', z1, z2, z3⟩ := jc_runs (F := F) hp hs hz f (k + 1) (c + 1) (upd st (dp p k) x) (jb_up M 59 (dp p k) x) (by omega) (by omega) (by omega) (cC_of h1 (jb_up_off (by decide)) (jb_up_off (by decide))) (by rw [jb_up_off (by decide)]; exact h2) (by rw [jb_up_off (by decide)]; exact h3) (by rw [jb_up_off (by decide)]; exact h4) (fun j hj => by rw [jb_up_off (by decide)]; exact h5 j hj) (fun j hj => by
          rw [jb_up_at, upd_at]
          by_cases q : j = dp p k
          · rw [if_pos ⟨rfl, q⟩, if_pos q]
          · rw [if_neg (fun z => q z.2), if_neg q]
            exact h6 j (by omega)) (fun hb => by
          rw [isb_s] at hb
          omega)
        rw [ed, show s + (k + 1) = s + k + 1 by omega] at z1
        refine ⟨v, M', by rw [jb_lp_inl hst, z1], fun a q1 q2 => by rw [z2 a q1 q2, jb_up_off q2], ?_⟩
        have er : rnp F p (f + 1) k st = rnp F p f (k + 1) (upd st (dp p k) x) := by
          conv => lhs; unfold rnp
          rw [if_neg ce, if_pos g1, hx]
        rw [er]
        exact z3
      · -- the others have something on the stack
        have hcop0 : ¬ nI (cop (pat p k).1) = 1 ∧ ¬ nI (cop (pat p k).1) = 2 ∧ ¬ nI (cop (pat p k).1) = 0 := by
          have : ∀ o, o < 13 → ¬ o ≤ 1 → ¬ nI (cop o) = 1 ∧ ¬ nI (cop o) = 2 ∧ ¬ nI (cop o) = 0 := by decide
          exact this _ (by omega) g1
        have hd1 : 1 ≤ dp p k := by
          by_cases q : 10 ≤ (pat p k).1
          · exact (o6 q).1
          · have := o5 (by omega) (by omega); omega
        obtain ⟨n, en⟩ : ∃ n, dp p k = n + 1 := ⟨dp p k - 1, by omega⟩
        have et : nI (dp p k) - 1 = nI n := by rw [en]; exact nI_pred n
        have h6n := h6 n (by omega)
        have en1 : dp p k - 1 = n := by omega
        by_cases g10 : (pat p k).1 = 10
        · -- not
          have hb := h7 (o6 (by omega)).2
          rw [en1] at hb
          have ec3 : nI (cop (pat p k).1) = 3 := by rw [g10]; rfl
          have ed : dp p (k + 1) = dp p k := by rw [dp_s]; unfold dst; rw [if_neg g1, if_pos g10]
          have hst : zf_66_H12 (nI (dp p k) - 1, nI (s + k), nI c, M) = some (.inl (nI (dp p k) - 1, nI (s + k + 1), nI (c + 1), jb_up M 59 n (1 - st n))) := by
            apply head
            rw [if_neg hcop0.1, if_neg hcop0.2.1, et, if_neg (nI_pos (by omega)), if_neg hcop0.2.2, if_pos ec3, jn_gd (by omega) (by decide), nI_clamp (by omega), h6n, (not01 hb).2]
            unfold zf_66_J163 zf_66_J278
            rw [jn_gd (by omega) (by decide), jn_gd (by omega) (by decide), nI_clamp (by omega), nI_1]
            by_cases q : st n = 0
            · rw [if_pos q, if_pos q]
            · rw [if_neg q, if_neg q]
          obtain ⟨v, M', z1, z2, z3⟩ := jc_runs (F := F) hp hs hz f (k + 1) (c + 1) (upd st n (1 - st n)) (jb_up M 59 n (1 - st n)) (by omega) (by omega) (by omega) (cC_of h1 (jb_up_off (by decide)) (jb_up_off (by decide))) (by rw [jb_up_off (by decide)]; exact h2) (by rw [jb_up_off (by decide)]; exact h3) (by rw [jb_up_off (by decide)]; exact h4) (fun j hj => by rw [jb_up_off (by decide)]; exact h5 j hj) (fun j hj => by
            rw [jb_up_at, upd_at]
            by_cases q : j = n
            · rw [if_pos ⟨rfl, q⟩, if_pos q]
            · rw [if_neg (fun z => q z.2), if_neg q]
              exact h6 j (by omega)) (fun _ => by
            rw [ed, en1, upd_at, if_pos rfl]
            exact (not01 hb).1)
          rw [ed, show s + (k + 1) = s + k + 1 by omega] at z1
          refine ⟨v, M', by rw [jb_lp_inl hst, z1], fun a q1 q2 => by rw [z2 a q1 q2, jb_up_off q2], ?_⟩
          have er : rnp F p (f + 1) k st = rnp F p f (k + 1) (upd st n (1 - st n)) := by
            conv => lhs; unfold rnp
            rw [if_neg ce, if_neg g1, if_pos g10, en1]
          rw [er]
          exact z3
        · by_cases g11 : 11 ≤ (pat p k).1
          · -- a jump
            obtain ⟨j1, j2, j3, j4⟩ := o7 g11
            have hb := h7 (o6 (by omega)).2
            rw [en1] at hb
            have ep : ptg s (pat p k) = s + (pat p k).2 := if_pos g11
            have hset : zf_66_J179 (nI n) (nI (s + k + 1)) (nI c) (nI (cop (pat p k).1)) (nI (ptg s (pat p k))) M = if st n = (if (pat p k).1 = 12 then 1 else 0) then some (.inl (nI n, nI (s + (pat p k).2), nI (c + 1), M)) else some (.inl (nI n - 1, nI (s + k + 1), nI (c + 1), M)) := by
              unfold zf_66_J179 zf_66_J193 zf_66_J204 zf_66_J212 zf_66_J225 zf_66_J238 zf_66_J278
              rw [jn_gd (by omega) (by decide), nI_clamp (by omega), h6n, ep, nI_1]
              rcases (show (pat p k).1 = 11 ∨ (pat p k).1 = 12 by omega) with q | q
              · rw [q, show nI (cop 11) = 4 from rfl]
                rcases hb with hb | hb
                · rw [hb]; rfl
                · rw [hb]; rfl
              · rw [q, show nI (cop 12) = 5 from rfl]
                rcases hb with hb | hb
                · rw [hb]; rfl
                · rw [hb]; rfl
            have hh : zf_66_H12 (nI (dp p k) - 1, nI (s + k), nI c, M) = if st n = (if (pat p k).1 = 12 then 1 else 0) then some (.inl (nI n, nI (s + (pat p k).2), nI (c + 1), M)) else some (.inl (nI n - 1, nI (s + k + 1), nI (c + 1), M)) := by
              apply head
              rw [if_neg hcop0.1, if_neg hcop0.2.1, et, if_neg (nI_pos (by omega)), if_neg hcop0.2.2]
              have : ∀ o, o < 13 → 11 ≤ o → ¬ nI (cop o) = 3 ∧ (nI (cop o) = 4 ∨ nI (cop o) = 5) := by decide
              obtain ⟨q3, q45⟩ := this _ (by omega) g11
              rw [if_neg q3]
              rcases q45 with q | q
              · rw [if_pos q, hset]
              · rw [q, if_neg (by decide), if_pos rfl, ← q, hset]
            by_cases q : st n = (if (pat p k).1 = 12 then 1 else 0)
            · rw [if_pos q] at hh
              obtain ⟨v, M', z1, z2, z3⟩ := jc_runs (F := F) hp hs hz f (pat p k).2 (c + 1) st M (by omega) (by omega) (by omega) h1 h2 h3 h4 h5 (fun j hj => h6 j (by omega)) (fun _ => by rw [j3, en1]; exact hb)
              rw [j3, et] at z1
              refine ⟨v, M', by rw [jb_lp_inl hh, z1], z2, ?_⟩
              have er : rnp F p (f + 1) k st = rnp F p f (pat p k).2 st := by
                conv => lhs; unfold rnp
                rw [if_neg ce, if_neg g1, if_neg g10, if_pos g11, en1, if_pos q]
              rw [er]
              exact z3
            · rw [if_neg q] at hh
              have ed : dp p (k + 1) = n := by rw [dp_s]; unfold dst; rw [if_neg g1, if_neg g10, en1]
              obtain ⟨v, M', z1, z2, z3⟩ := jc_runs (F := F) hp hs hz f (k + 1) (c + 1) st M (by omega) (by omega) (by omega) h1 h2 h3 h4 h5 (fun j hj => h6 j (by omega)) (fun hb => by rw [isb_s] at hb; omega)
              rw [ed, show s + (k + 1) = s + k + 1 by omega] at z1
              refine ⟨v, M', by rw [jb_lp_inl hh, z1], z2, ?_⟩
              have er : rnp F p (f + 1) k st = rnp F p f (k + 1) st := by
                conv => lhs; unfold rnp
                rw [if_neg ce, if_neg g1, if_neg g10, if_pos g11, en1, if_neg q]
              rw [er]
              exact z3
          · -- two values
            have hd2 := o5 (by omega) (by omega)
            obtain ⟨m, em⟩ : ∃ m, n = m + 1 := ⟨n - 1, by omega⟩
            have et2 : nI n + (-1) = nI m := by rw [em]; exact pk_m1 m
            have h6m := h6 m (by omega)
            have en2 : dp p k - 2 = m := by omega
            have hcb := cop_bin (pat p k).1 (by omega) (by omega)
            have hne : ∀ z, z < 6 → ¬ nI (cop (pat p k).1) = nI z := fun z hz e => by
              have := (nI_eq (by omega) (by omega)).mp e
              omega
            have ed : dp p (k + 1) = n := by rw [dp_s]; unfold dst; rw [if_neg g1, if_neg g10, en1]
            have hh : zf_66_H12 (nI (dp p k) - 1, nI (s + k), nI c, M) = if ((pat p k).1 = 5 ∨ (pat p k).1 = 6) ∧ st n = 0 then some (.inl (nI m, nI (s + k + 1), nI (c + 1), jb_up (jb_up M 57 3 1) 59 m 0)) else some (.inl (nI m, nI (s + k + 1), nI (c + 1), jb_up M 59 m (rck (pat p k).1 (st m) (st n)))) := by
              apply head
              rw [if_neg hcop0.1, if_neg hcop0.2.1, et, if_neg (nI_pos (by omega)), if_neg hcop0.2.2, if_neg (show ¬ nI (cop (pat p k).1) = 3 from hne 3 (by omega)), if_neg (show ¬ nI (cop (pat p k).1) = 4 from hne 4 (by omega)), if_neg (show ¬ nI (cop (pat p k).1) = 5 from hne 5 (by omega)), if_neg (show ¬ nI n < 1 from nI_nlt (b := 1) (by omega) (by omega)), et2, nI_1, ← em, jn_gd (by omega) (by decide), jn_gd (by omega) (by decide), nI_clamp (by omega), nI_clamp (by omega), h6m, h6n, jc_reckon (by omega) (by omega)]
              unfold zf_66_J278
              by_cases q : ((pat p k).1 = 5 ∨ (pat p k).1 = 6) ∧ st n = 0
              · rw [if_pos q, if_pos q, Option.bind_some, jn_gd (by omega) (by decide), nI_1]
              · rw [if_neg q, if_neg q, Option.bind_some, jn_gd (by omega) (by decide), nI_1]
            by_cases q : ((pat p k).1 = 5 ∨ (pat p k).1 = 6) ∧ st n = 0
            · rw [if_pos q] at hh
              refine ⟨0, jb_up (jb_up M 57 3 1) 59 m 0, ?_, fun a q1 q2 => by rw [jb_up_off q2, jb_up_off q1], Or.inr ⟨?_, rfl, ?_⟩⟩
              · rw [jb_lp_inl hh]
                refine jb_lp_inr ?_
                unfold zf_66_H12
                dsimp only
                rw [if_neg (show ¬ jb_up (jb_up M 57 3 1) 59 m 0 57 3 = 0 by rw [jb_up_off (by decide), jb_up_at, if_pos ⟨rfl, rfl⟩]; decide)]
                split <;> rfl
              · conv => lhs; unfold rnp
                rw [if_neg ce, if_neg g1, if_neg g10, if_neg g11, en1, if_pos q]
              · rw [jb_up_off (by decide), jb_up_at, if_pos ⟨rfl, rfl⟩]
            · rw [if_neg q] at hh
              obtain ⟨v, M', z1, z2, z3⟩ := jc_runs (F := F) hp hs hz f (k + 1) (c + 1) (upd st m (rck (pat p k).1 (st m) (st n))) (jb_up M 59 m (rck (pat p k).1 (st m) (st n))) (by omega) (by omega) (by omega) (cC_of h1 (jb_up_off (by decide)) (jb_up_off (by decide))) (by rw [jb_up_off (by decide)]; exact h2) (by rw [jb_up_off (by decide)]; exact h3) (by rw [jb_up_off (by decide)]; exact h4) (fun j hj => by rw [jb_up_off (by decide)]; exact h5 j hj) (fun j hj => by
                rw [jb_up_at, upd_at]
                by_cases q : j = m
                · rw [if_pos ⟨rfl, q⟩, if_pos q]
                · rw [if_neg (fun z => q z.2), if_neg q]
                  exact h6 j (by omega)) (fun hb => by
                rw [isb_s] at hb
                rw [ed, em, Nat.add_sub_cancel, upd_at, if_pos rfl]
                exact rck_b hb.1 _ _)
              rw [ed, em, nI_pred, show s + (k + 1) = s + k + 1 by omega, ← em] at z1
              refine ⟨v, M', by rw [jb_lp_inl hh, z1], fun a q1 q2 => by rw [z2 a q1 q2, jb_up_off q2], ?_⟩
              have er : rnp F p (f + 1) k st = rnp F p f (k + 1) (upd st m (rck (pat p k).1 (st m) (st n))) := by
                conv => lhs; unfold rnp
                rw [if_neg ce, if_neg g1, if_neg g10, if_neg g11, en1, en2, if_neg q]
              rw [er]
              exact z3
