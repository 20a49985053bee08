/-! the reference runs THE LAW's steps -/
def ldsame (M M' : jb_Mi) : Prop := ∀ a, a ≠ 95 → M' a = M a
theorem ptg_lt {p : jPc} {k s : Nat} (ho : okI p k) (hs : s + p.length ≤ 240) (hk : k < p.length) : ptg s (pat p k) < 1048576 ∧ (pat p k).1 ≤ 12 := by
  obtain ⟨o1, o2, -, -, -, -, o7⟩ := ho
  unfold ptg
  refine ⟨?_, o1⟩
  split
  · rename_i c; have := o7 c; omega
  · omega
theorem jd_runs {F : Nat → Int32} {p : jPc} {s : Nat} (hp : okP p) (hs : s + p.length ≤ 240) : ∀ (f k : Nat) (st : Nat → Int32) (M : jb_Mi), k ≤ p.length → p.length - k < f → cD 90 s p M → (∀ j, j < 10 → M 96 j = F j) → (∀ j, j < dp p k → M 95 j = st j) → tb01 p k st → ∃ v M', jb_lp (zf_207_H16 (nI (s + p.length)) (nI 0)) (nI (dp p k), nI (s + k), M) = some (v, M') ∧ ldsame M M' ∧ (rnp F p f k st = some v ∨ (rnp F p f k st = none ∧ v = 0))
  | 0, k, st, M, hk, hf, h1, h5, h6, h7 => by omega
  | f + 1, k, st, M, hk, hf, h1, h5, h6, h7 => by
    have hd := dp_le hp.1 k hk
    by_cases ce : p.length ≤ k
    · have ek : k = p.length := by omega
      subst ek
      have e1 := hp.2
      refine ⟨M 95 0, M, ?_, fun _ _ => rfl, Or.inl ?_⟩
      · refine jb_lp_inr ?_
        unfold zf_207_H16
        exact if_neg (nI_nlt (Nat.le_refl _) (by omega))
      · unfold rnp
        rw [if_pos (Nat.le_refl _), h6 0 (by rw [e1]; omega)]
    · have hkl : k < p.length := by omega
      have ho := hp.1 k hkl
      obtain ⟨hv, ho12⟩ := ptg_lt ho hs hkl
      obtain ⟨o1, o2, o3, o4, o5, o6, o7⟩ := ho
      have c1 := h1 k hkl
      have cdiv : M 90 (s + k) / 1048576 = nI (pat p k).1 := by
        rw [c1, show (1048576 : Int32) = nI 1048576 from rfl, pk_div (by omega) (by decide) (by decide)]
        congr 1
        omega
      have crem : M 90 (s + k) - nI (pat p k).1 * 1048576 = nI (ptg s (pat p k)) := by
        rw [c1, show (1048576 : Int32) = nI 1048576 from rfl, pk_mul, pk_sub (by omega)]
        congr 1
        omega
      -- the step as the machine sees it
      have head : ∀ X, (if nI (pat p k).1 = 0 then zf_207_J63 (nI (s + p.length)) (nI (dp p k)) (nI 0) (nI (s + k + 1)) (nI (pat p k).1) (nI (ptg s (pat p k))) M else if nI (pat p k).1 = 1 then zf_207_J63 (nI (s + p.length)) (nI (dp p k)) (nI 0) (nI (s + k + 1)) (nI (pat p k).1) (nI (ptg s (pat p k))) M else if nI (pat p k).1 = 10 then jb_gd (nI (dp p k) - 1) 260 (jb_gd (nI (dp p k) - 1) 260 (zf_207_J230 (nI (s + p.length)) (nI (dp p k)) (nI 0) (nI (s + k + 1)) (jb_up M 95 (nI (dp p k) - 1).toNatClampNeg (1 - M 95 (nI (dp p k) - 1).toNatClampNeg)))) else if nI (pat p k).1 = 11 then zf_207_J135 (nI (s + p.length)) (nI (dp p k)) (nI 0) (nI (s + k + 1)) (nI (pat p k).1) (nI (ptg s (pat p k))) M else if nI (pat p k).1 = 12 then zf_207_J135 (nI (s + p.length)) (nI (dp p k)) (nI 0) (nI (s + k + 1)) (nI (pat p k).1) (nI (ptg s (pat p k))) M else if nI (pat p k).1 = 5 then zf_207_J192 (nI (s + p.length)) (nI (dp p k) - 1) (nI 0) (nI (s + k + 1)) (nI (pat p k).1) M else if nI (pat p k).1 = 6 then zf_207_J192 (nI (s + p.length)) (nI (dp p k) - 1) (nI 0) (nI (s + k + 1)) (nI (pat p k).1) M else zf_207_J203 (nI (s + p.length)) (nI (dp p k) - 1) (nI 0) (nI (s + k + 1)) (nI (pat p k).1) M) = X → zf_207_H16 (nI (s + p.length)) (nI 0) (nI (dp p k), nI (s + k), M) = X := by
        intro X hX
        rw [← hX]
        unfold zf_207_H16
        dsimp only
        rw [if_pos (nI_lt (show s + k < s + p.length by omega) (by omega)), jn_gd (by omega) (by decide), jn_gd (by omega) (by decide), nI_clamp (by omega)]
        simp only [cdiv, crem, nI_1]
      have eo : ∀ z, z < 20 → (nI (pat p k).1 = nI z ↔ (pat p k).1 = z) := fun z hz => nI_eq (by omega) (by omega)
      by_cases g1 : (pat p k).1 ≤ 1
      · have hd30 := o3 g1
        have hval : ∃ x : Int32, (if (pat p k).1 = 0 then nI (pat p k).2 else F (pat p k).2) = x ∧ zf_207_J63 (nI (s + p.length)) (nI (dp p k)) (nI 0) (nI (s + k + 1)) (nI (pat p k).1) (nI (ptg s (pat p k))) M = some (.inl (nI (dp p k + 1), nI (s + k + 1), jb_up M 95 (dp p k) x)) ∧ (nI (pat p k).1 = 0 ∨ nI (pat p k).1 = 1) := by
          have ep : ptg s (pat p k) = (pat p k).2 := if_neg (by omega)
          rcases (show (pat p k).1 = 0 ∨ (pat p k).1 = 1 by omega) with q | q
          · refine ⟨nI (pat p k).2, if_pos q, ?_, by rw [q]; exact Or.inl rfl⟩
            unfold zf_207_J63 zf_207_J85 zf_207_J230
            rw [q, if_pos (by decide), jn_gd (by omega) (by decide), nI_clamp (by omega), ep, nI_1]
          · have h10 := o4 q
            refine ⟨F (pat p k).2, if_neg (by omega), ?_, by rw [q]; exact Or.inr rfl⟩
            unfold zf_207_J63 zf_207_J85 zf_207_J230
            rw [q, if_neg (by decide), ep, jn_gd h10 (by decide), nI_clamp (by omega), jn_gd (by omega) (by decide), nI_clamp (by omega), h5 _ h10, nI_1]
        obtain ⟨x, hx, hj, hcc⟩ := hval
        have hst : zf_207_H16 (nI (s + p.length)) (nI 0) (nI (dp p k), nI (s + k), M) = some (.inl (nI (dp p k + 1), nI (s + k + 1), jb_up M 95 (dp p k) x)) := by
          apply head
          rcases hcc with hcc | hcc
          · rw [if_pos hcc, hj]
          · rw [hcc, if_neg (by decide), if_pos rfl, ← hcc, hj]
        have ed : dp p (k + 1) = dp p k + 1 := by rw [dp_s]; unfold dst; rw [if_pos g1]
        obtain ⟨v, M', z1, z2, z3⟩ := jd_runs (F := F) hp hs f (k + 1) (upd st (dp p k) x) (jb_up M 95 (dp p k) x) (by omega) (by omega) (by unfold cD; rw [jb_up_off (by decide)]; exact h1) (fun j hj => by rw [jb_up_off (by decide)]; exact h5 j hj) (fun j hj => by
          rw [jb_up_at, upd_at]
          by_cases q : j = dp p k
          · rw [if_pos ⟨rfl, q⟩, if_pos q]
          · rw [if_neg (fun z => q z.2), if_neg q]
            exact h6 j (by omega)) (fun hb => by
          rw [isb_s] at hb
          omega)
        rw [ed, show s + (k + 1) = s + k + 1 by omega] at z1
        refine ⟨v, M', by rw [jb_lp_inl hst, z1], fun a q1 => by rw [z2 a q1, jb_up_off q1], ?_⟩
        have er : rnp F p (f + 1) k st = rnp F p f (k + 1) (upd st (dp p k) x) := by
          conv => lhs; unfold rnp
          rw [if_neg ce, if_pos g1, hx]
        rw [er]
        exact z3
      · have n0 : ¬ nI (pat p k).1 = 0 := fun z => by have := (eo 0 (by omega)).mp z; omega
        have n1 : ¬ nI (pat p k).1 = 1 := fun z => by have := (eo 1 (by omega)).mp z; omega
        have hd1 : 1 ≤ dp p k := by
          by_cases q : 10 ≤ (pat p k).1
          · exact (o6 q).1
          · have := o5 (by omega) (by omega); omega
        obtain ⟨n, en⟩ : ∃ n, dp p k = n + 1 := ⟨dp p k - 1, by omega⟩
        have et : nI (dp p k) - 1 = nI n := by rw [en]; exact nI_pred n
        have h6n := h6 n (by omega)
        have en1 : dp p k - 1 = n := by omega
        by_cases g10 : (pat p k).1 = 10
        · have hb := h7 (o6 (by omega)).2
          rw [en1] at hb
          have ed : dp p (k + 1) = dp p k := by rw [dp_s]; unfold dst; rw [if_neg g1, if_pos g10]
          have hst : zf_207_H16 (nI (s + p.length)) (nI 0) (nI (dp p k), nI (s + k), M) = some (.inl (nI (dp p k), nI (s + k + 1), jb_up M 95 n (1 - st n))) := by
            apply head
            rw [if_neg n0, if_neg n1, if_pos (show nI (pat p k).1 = 10 by rw [g10]; rfl), et, jn_gd (by omega) (by decide), jn_gd (by omega) (by decide), nI_clamp (by omega), h6n]
            rfl
          obtain ⟨v, M', z1, z2, z3⟩ := jd_runs (F := F) hp hs f (k + 1) (upd st n (1 - st n)) (jb_up M 95 n (1 - st n)) (by omega) (by omega) (by unfold cD; rw [jb_up_off (by decide)]; exact h1) (fun j hj => by rw [jb_up_off (by decide)]; exact h5 j hj) (fun j hj => by
            rw [jb_up_at, upd_at]
            by_cases q : j = n
            · rw [if_pos ⟨rfl, q⟩, if_pos q]
            · rw [if_neg (fun z => q z.2), if_neg q]
              exact h6 j (by omega)) (fun _ => by
            rw [ed, en1, upd_at, if_pos rfl]
            exact (not01 hb).1)
          rw [ed, show s + (k + 1) = s + k + 1 by omega] at z1
          refine ⟨v, M', by rw [jb_lp_inl hst, z1], fun a q1 => by rw [z2 a q1, jb_up_off q1], ?_⟩
          have er : rnp F p (f + 1) k st = rnp F p f (k + 1) (upd st n (1 - st n)) := by
            conv => lhs; unfold rnp
            rw [if_neg ce, if_neg g1, if_pos g10, en1]
          rw [er]
          exact z3
        · have n10 : ¬ nI (pat p k).1 = 10 := fun z => g10 ((eo 10 (by omega)).mp z)
          by_cases g11 : 11 ≤ (pat p k).1
          · obtain ⟨j1, j2, j3, j4⟩ := o7 g11
            have hb := h7 (o6 (by omega)).2
            rw [en1] at hb
            have ep : ptg s (pat p k) = s + (pat p k).2 := if_pos g11
            have hset : zf_207_J135 (nI (s + p.length)) (nI (dp p k)) (nI 0) (nI (s + k + 1)) (nI (pat p k).1) (nI (ptg s (pat p k))) M = if st n = (if (pat p k).1 = 12 then 1 else 0) then some (.inl (nI (dp p k), nI (s + (pat p k).2), M)) else some (.inl (nI n, nI (s + k + 1), M)) := by
              unfold zf_207_J135 zf_207_J155 zf_207_J230
              rw [et, jn_gd (by omega) (by decide), nI_clamp (by omega), h6n, ep, nI_add, Nat.zero_add]
              rcases (show (pat p k).1 = 11 ∨ (pat p k).1 = 12 by omega) with q | q
              · rw [q, if_neg (show ¬ nI 11 = 12 by decide), if_neg (show ¬ (11 : Nat) = 12 by decide)]
              · rw [q, if_pos (show nI 12 = 12 by decide), if_pos (show (12 : Nat) = 12 from rfl)]
            have hh : zf_207_H16 (nI (s + p.length)) (nI 0) (nI (dp p k), nI (s + k), M) = if st n = (if (pat p k).1 = 12 then 1 else 0) then some (.inl (nI (dp p k), nI (s + (pat p k).2), M)) else some (.inl (nI n, nI (s + k + 1), M)) := by
              apply head
              rw [if_neg n0, if_neg n1, if_neg n10]
              by_cases q : nI (pat p k).1 = 11
              · rw [if_pos q, hset]
              · have q12 : nI (pat p k).1 = 12 := by
                  have : (pat p k).1 = 12 := by
                    have : (pat p k).1 ≠ 11 := fun z => q (by rw [z]; rfl)
                    omega
                  rw [this]; rfl
                rw [if_neg q, if_pos q12, hset]
            by_cases q : st n = (if (pat p k).1 = 12 then 1 else 0)
            · rw [if_pos q] at hh
              obtain ⟨v, M', z1, z2, z3⟩ := jd_runs (F := F) hp hs f (pat p k).2 st M (by omega) (by omega) h1 h5 (fun j hj => h6 j (by omega)) (fun _ => by rw [j3, en1]; exact hb)
              rw [j3] at z1
              refine ⟨v, M', by rw [jb_lp_inl hh, z1], z2, ?_⟩
              have er : rnp F p (f + 1) k st = rnp F p f (pat p k).2 st := by
                conv => lhs; unfold rnp
                rw [if_neg ce, if_neg g1, if_neg g10, if_pos g11, en1, if_pos q]
              rw [er]
              exact z3
            · rw [if_neg q] at hh
              have ed : dp p (k + 1) = n := by rw [dp_s]; unfold dst; rw [if_neg g1, if_neg g10, en1]
              obtain ⟨v, M', z1, z2, z3⟩ := jd_runs (F := F) hp hs f (k + 1) st M (by omega) (by omega) h1 h5 (fun j hj => h6 j (by omega)) (fun hb => by rw [isb_s] at hb; omega)
              rw [ed, show s + (k + 1) = s + k + 1 by omega] at z1
              refine ⟨v, M', by rw [jb_lp_inl hh, z1], z2, ?_⟩
              have er : rnp F p (f + 1) k st = rnp F p f (k + 1) st := by
                conv => lhs; unfold rnp
                rw [if_neg ce, if_neg g1, if_neg g10, if_pos g11, en1, if_neg q]
              rw [er]
              exact z3
          · have n11 : ¬ nI (pat p k).1 = 11 := fun z => by have := (eo 11 (by omega)).mp z; omega
            have n12 : ¬ nI (pat p k).1 = 12 := fun z => by have := (eo 12 (by omega)).mp z; omega
            have hd2 := o5 (by omega) (by omega)
            obtain ⟨m, em⟩ : ∃ m, n = m + 1 := ⟨n - 1, by omega⟩
            have et2 : nI n - 1 = nI m := by rw [em]; exact nI_pred m
            have h6m := h6 m (by omega)
            have en2 : dp p k - 2 = m := by omega
            have ed : dp p (k + 1) = n := by rw [dp_s]; unfold dst; rw [if_neg g1, if_neg g10, en1]
            have hbin : ¬ (((pat p k).1 = 5 ∨ (pat p k).1 = 6) ∧ st n = 0) → zf_207_J203 (nI (s + p.length)) (nI n) (nI 0) (nI (s + k + 1)) (nI (pat p k).1) M = some (.inl (nI n, nI (s + k + 1), jb_up M 95 m (rck (pat p k).1 (st m) (st n)))) := by
              intro q
              unfold zf_207_J203 zf_207_J230
              rw [et2, jn_gd (by omega) (by decide), jn_gd (by omega) (by decide), nI_clamp (by omega), nI_clamp (by omega), h6m, h6n, jd_reckon (by omega) (by omega) _ _ q, Option.bind_some, jn_gd (by omega) (by decide)]
            have hh : zf_207_H16 (nI (s + p.length)) (nI 0) (nI (dp p k), nI (s + k), M) = if ((pat p k).1 = 5 ∨ (pat p k).1 = 6) ∧ st n = 0 then some (.inr (0, M)) else some (.inl (nI n, nI (s + k + 1), jb_up M 95 m (rck (pat p k).1 (st m) (st n)))) := by
              apply head
              rw [if_neg n0, if_neg n1, if_neg n10, if_neg n11, if_neg n12, et]
              have h192 : ((pat p k).1 = 5 ∨ (pat p k).1 = 6) → zf_207_J192 (nI (s + p.length)) (nI n) (nI 0) (nI (s + k + 1)) (nI (pat p k).1) M = if ((pat p k).1 = 5 ∨ (pat p k).1 = 6) ∧ st n = 0 then some (.inr (0, M)) else some (.inl (nI n, nI (s + k + 1), jb_up M 95 m (rck (pat p k).1 (st m) (st n)))) := by
                intro q56
                unfold zf_207_J192
                rw [jn_gd (by omega) (by decide), nI_clamp (by omega), h6n]
                by_cases q : st n = 0
                · rw [if_pos q, if_pos ⟨q56, q⟩]
                · rw [if_neg q, if_neg (fun z => q z.2), hbin (fun z => q z.2)]
              by_cases q5 : (pat p k).1 = 5
              · rw [if_pos (show nI (pat p k).1 = 5 by rw [q5]; rfl)]
                exact h192 (Or.inl q5)
              · rw [if_neg (show ¬ nI (pat p k).1 = 5 from fun z => q5 ((eo 5 (by omega)).mp z))]
                by_cases q6 : (pat p k).1 = 6
                · rw [if_pos (show nI (pat p k).1 = 6 by rw [q6]; rfl)]
                  exact h192 (Or.inr q6)
                · rw [if_neg (show ¬ nI (pat p k).1 = 6 from fun z => q6 ((eo 6 (by omega)).mp z)), if_neg (fun z => z.1.elim q5 q6)]
                  exact hbin (fun z => z.1.elim q5 q6)
            by_cases q : ((pat p k).1 = 5 ∨ (pat p k).1 = 6) ∧ st n = 0
            · rw [if_pos q] at hh
              refine ⟨0, M, jb_lp_inr hh, fun _ _ => rfl, Or.inr ⟨?_, rfl⟩⟩
              conv => lhs; unfold rnp
              rw [if_neg ce, if_neg g1, if_neg g10, if_neg g11, en1, if_pos q]
            · rw [if_neg q] at hh
              obtain ⟨v, M', z1, z2, z3⟩ := jd_runs (F := F) hp hs f (k + 1) (upd st m (rck (pat p k).1 (st m) (st n))) (jb_up M 95 m (rck (pat p k).1 (st m) (st n))) (by omega) (by omega) (by unfold cD; rw [jb_up_off (by decide)]; exact h1) (fun j hj => by rw [jb_up_off (by decide)]; exact h5 j hj) (fun j hj => by
                rw [jb_up_at, upd_at]
                by_cases q : j = m
                · rw [if_pos ⟨rfl, q⟩, if_pos q]
                · rw [if_neg (fun z => q z.2), if_neg q]
                  exact h6 j (by omega)) (fun hb => by
                rw [isb_s] at hb
                rw [ed, em, Nat.add_sub_cancel, upd_at, if_pos rfl]
                exact rck_b hb.1 _ _)
              rw [ed, show s + (k + 1) = s + k + 1 by omega] at z1
              refine ⟨v, M', by rw [jb_lp_inl hh, z1], fun a q1 => by rw [z2 a q1, jb_up_off q1], ?_⟩
              have er : rnp F p (f + 1) k st = rnp F p f (k + 1) (upd st m (rck (pat p k).1 (st m) (st n))) := by
                conv => lhs; unfold rnp
                rw [if_neg ce, if_neg g1, if_neg g10, if_neg g11, en1, en2, if_neg q]
              rw [er]
              exact z3
/-- a condition comes to 0 or 1 -/
theorem rnp_b {F : Nat → Int32} {p : jPc} (hp : okP p) (hb : isb p p.length) : ∀ (f k : Nat) (st : Nat → Int32) (v : Int32), k ≤ p.length → tb01 p k st → rnp F p f k st = some v → v = 0 ∨ v = 1
  | 0, k, st, v, hk, h7, h => by cases h
  | f + 1, k, st, v, hk, h7, h => by
    unfold rnp at h
    by_cases ce : p.length ≤ k
    · have ek : k = p.length := by omega
      subst ek
      rw [if_pos (Nat.le_refl _)] at h
      cases h
      have := h7 hb
      rw [hp.2] at this
      exact this
    · have hkl : k < p.length := by omega
      obtain ⟨o1, o2, o3, o4, o5, o6, o7⟩ := hp.1 k hkl
      rw [if_neg ce] at h
      by_cases g1 : (pat p k).1 ≤ 1
      · rw [if_pos g1] at h
        exact rnp_b hp hb f (k + 1) _ v (by omega) (fun z => by rw [isb_s] at z; omega) h
      · rw [if_neg g1] at h
        by_cases g10 : (pat p k).1 = 10
        · rw [if_pos g10] at h
          refine rnp_b hp hb f (k + 1) _ v (by omega) (fun z => ?_) h
          have ed : dp p (k + 1) = dp p k := by rw [dp_s]; unfold dst; rw [if_neg g1, if_pos g10]
          rw [ed, upd_at, if_pos rfl]
          exact (not01 (h7 (o6 (by omega)).2)).1
        · rw [if_neg g10] at h
          by_cases g11 : 11 ≤ (pat p k).1
          · rw [if_pos g11] at h
            obtain ⟨j1, j2, j3, j4⟩ := o7 g11
            by_cases q : st (dp p k - 1) = (if (pat p k).1 = 12 then 1 else 0)
            · rw [if_pos q] at h
              exact rnp_b hp hb f (pat p k).2 _ v j2 (fun _ => by rw [j3]; exact h7 (o6 (by omega)).2) h
            · rw [if_neg q] at h
              exact rnp_b hp hb f (k + 1) _ v (by omega) (fun z => by rw [isb_s] at z; omega) h
          · rw [if_neg g11] at h
            split at h
            · cases h
            · refine rnp_b hp hb f (k + 1) _ v (by omega) (fun z => ?_) h
              rw [isb_s] at z
              have ed : dp p (k + 1) = dp p k - 1 := by rw [dp_s]; unfold dst; rw [if_neg g1, if_neg g10]
              have hd2 := o5 (by omega) (by omega)
              rw [ed, show dp p k - 1 - 1 = dp p k - 2 by omega, upd_at, if_pos rfl]
              exact rck_b z.1 _ _
theorem tb01_0 (p : jPc) (st : Nat → Int32) : tb01 p 0 st := fun h => by
  have := h.1
  omega
theorem rnv_b {F : Nat → Int32} {p : jPc} (hp : okP p) (hb : isb p p.length) {v : Int32} (h : rnv F p = some v) : v = 0 ∨ v = 1 := rnp_b hp hb _ 0 _ v (Nat.zero_le _) (tb01_0 p _) h
theorem jc_run {F : Nat → Int32} {p : jPc} {s sz : Nat} {M : jb_Mi} (hp : okP p) (hs : s + p.length < sz) (hz : sz ≤ 240) (h1 : cC 45 46 s p M) (h2 : M 45 (s + p.length) = 0) (h3 : M 44 5 = nI sz) (h5 : ∀ j, j < 10 → M 58 j = F j) : ∃ v M', zf_66 (nI s) M = some (v, M') ∧ lwsame M M' ∧ ((rnv F p = some v ∧ M' 57 3 = 0) ∨ (rnv F p = none ∧ v = 0 ∧ M' 57 3 = 1)) := by
  obtain ⟨v, M', z1, z2, z3⟩ := jc_runs (F := F) hp hs hz (p.length + 1) 0 0 (fun _ => 0) (jb_up M 57 3 0) (Nat.zero_le _) (by omega) (by omega) (cC_of h1 (jb_up_off (by decide)) (jb_up_off (by decide))) (by rw [jb_up_off (by decide)]; exact h2) (by rw [jb_up_off (by decide)]; exact h3) (by rw [jb_up_at, if_pos ⟨rfl, rfl⟩]) (fun j hj => by rw [jb_up_off (by decide)]; exact h5 j hj) (fun j hj => by
    have : dp p 0 = 0 := rfl
    omega) (tb01_0 p _)
  refine ⟨v, M', ?_, fun a q1 q2 => by rw [z2 a q1 q2, jb_up_off q1], z3⟩
  unfold zf_66
  exact z1
theorem jd_comes {F : Nat → Int32} {p : jPc} {s : Nat} {M : jb_Mi} (hp : okP p) (hs : s + p.length ≤ 240) (h1 : cD 90 s p M) (h5 : ∀ j, j < 10 → M 96 j = F j) : ∃ v M', zf_207 (nI s) (nI (s + p.length)) M = some (v, M') ∧ ldsame M M' ∧ (rnv F p = some v ∨ (rnv F p = none ∧ v = 0)) := by
  obtain ⟨v, M', z1, z2, z3⟩ := jd_runs (F := F) hp hs (p.length + 1) 0 (fun _ => 0) M (Nat.zero_le _) (by omega) h1 h5 (fun j hj => by
    have : dp p 0 = 0 := rfl
    omega) (tb01_0 p _)
  refine ⟨v, M', ?_, z2, z3⟩
  unfold zf_207
  rw [show (260 : Int32) * (nI s / 260) = nI 0 by rw [show nI s / 260 = nI (s / 260) from pk_div (by omega) (by decide) (by decide), show s / 260 = 0 by omega]; rfl]
  exact z1
