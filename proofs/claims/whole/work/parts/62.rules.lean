/-! THE LAW asked -/
abbrev jLa : Type := Nat × (Nat → Nat) × (Nat → jPc) × (Nat → jPc)
def lwO (L : jLa) : Prop := L.1 ≤ 16 ∧ ∀ r, r < L.1 → L.2.1 r < 256 ∧ okP (L.2.2.2 r) ∧ isb (L.2.2.2 r) (L.2.2.2 r).length ∧ (L.2.1 r ≠ 120 → okP (L.2.2.1 r))
def lwC (L : jLa) (M : jb_Mi) : Prop := ∃ (sz : Nat) (s t : Nat → Nat), sz ≤ 240 ∧ M 44 6 = nI L.1 ∧ M 44 5 = nI sz ∧ ∀ r, r < L.1 → M 47 r = nI (L.2.1 r) ∧ M 48 r = nI (s r) ∧ M 49 r = nI (t r) ∧ (t r + (L.2.2.2 r).length < sz ∧ cC 45 46 (t r) (L.2.2.2 r) M ∧ M 45 (t r + (L.2.2.2 r).length) = 0) ∧ (L.2.1 r ≠ 120 → s r + (L.2.2.1 r).length < sz ∧ cC 45 46 (s r) (L.2.2.1 r) M ∧ M 45 (s r + (L.2.2.1 r).length) = 0)
def lwD (L : jLa) (M : jb_Mi) : Prop := ∃ f : Nat → Nat, M 79 13 = nI L.1 ∧ ∀ r, r < L.1 → M 91 r = nI (L.2.1 r) ∧ M 92 r = nI (f r) ∧ M 93 r = nI (f r + (L.2.2.1 r).length) ∧ M 94 r = nI (f r + (L.2.2.1 r).length + (L.2.2.2 r).length) ∧ f r + (L.2.2.1 r).length + (L.2.2.2 r).length ≤ 240 ∧ cD 90 (f r + (L.2.2.1 r).length) (L.2.2.2 r) M ∧ (L.2.1 r ≠ 120 → cD 90 (f r) (L.2.2.1 r) M)
theorem jLx_law {M : jb_Mi} (h : jLx M) : ∃ L, lwO L ∧ lwC L M ∧ lwD L M := by
  obtain ⟨n, sz, h1, h2, h3, h4, h5, h6⟩ := h
  have h7 : ∀ r, ∃ x : Nat × jPc × jPc × Nat × Nat × Nat, r < n → okR M sz r x.1 x.2.1 x.2.2.1 x.2.2.2.1 x.2.2.2.2.1 x.2.2.2.2.2 := by
    intro r
    by_cases c : r < n
    · obtain ⟨e, E, C, s, t, f, h⟩ := h6 r c
      exact ⟨(e, E, C, s, t, f), fun _ => h⟩
    · exact ⟨(0, [], [], 0, 0, 0), fun z => absurd z c⟩
  obtain ⟨x, hx⟩ := Classical.axiomOfChoice h7
  refine ⟨(n, fun r => (x r).1, fun r => (x r).2.1, fun r => (x r).2.2.1), ⟨h1, fun r hr => ?_⟩, ⟨sz, fun r => (x r).2.2.2.1, fun r => (x r).2.2.2.2.1, h2, h3, h5, fun r hr => ?_⟩, ⟨fun r => (x r).2.2.2.2.2, h4, fun r hr => ?_⟩⟩
  · obtain ⟨a1, a2, a3, a4, a5, a6, a7, a8, a9, ⟨b1, b2, b3, b4, b5, b6⟩, c⟩ := hx r hr
    exact ⟨a1, b5, b6, fun z => (c z).2.2.2.2⟩
  · obtain ⟨a1, a2, a3, a4, a5, a6, a7, a8, a9, ⟨b1, b2, b3, b4, b5, b6⟩, c⟩ := hx r hr
    exact ⟨a2, a4, a5, ⟨b1, b2, b3⟩, fun z => ⟨(c z).1, (c z).2.1, (c z).2.2.1⟩⟩
  · obtain ⟨a1, a2, a3, a4, a5, a6, a7, a8, a9, ⟨b1, b2, b3, b4, b5, b6⟩, c⟩ := hx r hr
    exact ⟨a3, a6, a7, a8, a9, b4, fun z => (c z).2.2.2.1⟩
theorem lwC_of {L : jLa} {M M' : jb_Mi} (h : lwC L M) (hs : ∀ a, 44 ≤ a → a ≤ 49 → M' a = M a) : lwC L M' := by
  unfold lwC cC at h ⊢
  rw [hs 44 (by omega) (by omega), hs 45 (by omega) (by omega), hs 46 (by omega) (by omega), hs 47 (by omega) (by omega), hs 48 (by omega) (by omega), hs 49 (by omega) (by omega)]
  exact h
theorem lwD_of {L : jLa} {M M' : jb_Mi} (h : lwD L M) (hs : ∀ a, 90 ≤ a → a ≤ 94 → M' a = M a) (h13 : M' 79 13 = M 79 13) : lwD L M' := by
  unfold lwD cD at h ⊢
  rw [hs 90 (by omega) (by omega), hs 91 (by omega) (by omega), hs 92 (by omega) (by omega), hs 93 (by omega) (by omega), hs 94 (by omega) (by omega), h13]
  exact h
/-- the first rule of a letter that holds (n: none); what it says, within bounds -/
noncomputable def rho (L : jLa) (F : Nat → Int32) (l r : Nat) : Bool := decide (L.2.1 r = l ∧ rnv F (L.2.2.2 r) = some 1)
noncomputable def frl (L : jLa) (F : Nat → Int32) (l : Nat) : Nat := ff (rho L F l) 0 L.1
noncomputable def clp (m : Nat) : Option Int32 → Nat
  | none => 0
  | some v => if v < 0 then 0 else if nI m < v then m else v.toNatClampNeg
noncomputable def amt (L : jLa) (F : Nat → Int32) (l m : Nat) : Nat := if frl L F l = L.1 then 0 else clp m (rnv F (L.2.2.1 (frl L F l)))
theorem frl_le (L : jLa) (F : Nat → Int32) (l : Nat) : frl L F l ≤ L.1 := by
  have := (ff_le (rho L F l) L.1 0).2
  unfold frl
  omega
theorem frl_p {L : jLa} {F : Nat → Int32} {l : Nat} (h : frl L F l ≠ L.1) : L.2.1 (frl L F l) = l := by
  have h1 := frl_le L F l
  have := ff_p (rho L F l) L.1 0 (by unfold frl at h h1; omega)
  unfold rho at this
  exact (of_decide_eq_true this).1
theorem clp_le (m : Nat) (v : Option Int32) (hm : m < 2 ^ 31) : clp m v ≤ m := by
  unfold clp
  cases v with
  | none => exact Nat.zero_le _
  | some v =>
    dsimp only
    split
    · exact Nat.zero_le _
    · rename_i c
      split
      · exact Nat.le_refl _
      · rename_i c2
        obtain ⟨j, hj, rfl⟩ := nI_of c
        rw [nI_clamp hj]
        rw [nI_ltI hm hj] at c2
        omega
theorem amt_le (L : jLa) (F : Nat → Int32) (l m : Nat) (hm : m < 2 ^ 31) : amt L F l m ≤ m := by
  unfold amt
  split
  · exact Nat.zero_le _
  · exact clp_le m _ hm
theorem clp_eq {m : Nat} (hm : m < 2 ^ 31) (v : Int32) : nI (clp m (some v)) = if v < 0 then 0 else if nI m < v then nI m else v := by
  unfold clp
  dsimp only
  split
  · rfl
  · rename_i c
    split
    · rfl
    · obtain ⟨j, hj, rfl⟩ := nI_of c
      rw [nI_clamp hj]
theorem clp_c {m : Nat} (hm : m < 2 ^ 31) (v : Int32) : zf_271 0 (zf_272 (nI m) v) = nI (clp m (some v)) := by
  rw [clp_eq hm]
  unfold zf_271 zf_272
  by_cases c : v < 0
  · rw [if_pos c]
    have h1 : v < nI m := by
      rw [fa_ltx] at c ⊢
      rw [nI_toInt hm]
      have : (0 : Int32).toInt = 0 := by decide
      omega
    rw [if_pos h1, if_neg (fun z => by
      rw [fa_ltx] at c z
      omega)]
  · obtain ⟨j, hj, rfl⟩ := nI_of c
    rw [if_neg c]
    simp only [jn_lt hj hm, jn_lt hm hj]
    by_cases c2 : j < m
    · rw [if_pos c2, if_neg (show ¬ m < j by omega)]
      by_cases c3 : (0 : Int32) < nI j
      · rw [if_pos c3]
      · rw [if_neg c3]
        have : j = 0 := by
          apply Classical.byContradiction
          intro z
          exact c3 (nI_lt (a := 0) (by omega) hj)
        rw [this]; rfl
    · rw [if_neg c2]
      by_cases c4 : m < j
      · rw [if_pos c4]
        by_cases c3 : (0 : Int32) < nI m
        · rw [if_pos c3]
        · rw [if_neg c3]
          have : m = 0 := by
            apply Classical.byContradiction
            intro z
            exact c3 (nI_lt (a := 0) (by omega) hm)
          rw [this]; rfl
      · have e : j = m := by omega
        subst e
        rw [if_neg (Nat.lt_irrefl _)]
        by_cases c3 : (0 : Int32) < nI j
        · rw [if_pos c3]
        · rw [if_neg c3]
          have : j = 0 := by
            apply Classical.byContradiction
            intro z
            exact c3 (nI_lt (a := 0) (by omega) hj)
          rw [this]; rfl
noncomputable def ern (n r : Nat) : Int32 := if r = n then (-1) else nI r
theorem jc_rule {L : jLa} {M : jb_Mi} {F : Nat → Int32} (hO : lwO L) (hC : lwC L M) (hF : ∀ j, j < 10 → M 58 j = F j) {l : Nat} (hl : l < 256) : ∃ M', zf_67 (nI l) M = some (ern L.1 (frl L F l), M') ∧ lwsame M M' := by
  obtain ⟨sz, s, t, c1, c2, c3, c4⟩ := hC
  have main : ∀ n r (M : jb_Mi), r + n = L.1 → M 44 6 = nI L.1 → lwC L M → (∀ j, j < 10 → M 58 j = F j) → ∃ M', jb_lp (zf_67_H2 (nI l)) (nI r, M) = some (ern L.1 (ff (rho L F l) r n), M') ∧ lwsame M M' := by
    intro n
    induction n with
    | zero =>
      intro r M hr h6 hC hF
      refine ⟨M, ?_, fun _ _ _ => rfl⟩
      refine jb_lp_inr ?_
      unfold zf_67_H2 ff ern
      dsimp only
      have h16 := hO.1
      rw [if_neg (show ¬ nI r < M 44 6 by rw [h6]; exact nI_nlt (by omega) (by omega)), if_pos (by omega)]
    | succ n ih =>
      intro r M hr h6 hC hF
      obtain ⟨sz, s, t, c1, c2, c3, c4⟩ := id hC
      have h16 := hO.1
      obtain ⟨e1, -, e3, ⟨e4, e5, e6⟩, -⟩ := c4 r (by omega)
      obtain ⟨o1, o2, o3, -⟩ := hO.2 r (by omega)
      have next : ∀ M2, lwsame M M2 → rho L F l r = false → zf_67_H2 (nI l) (nI r, M) = some (.inl (nI (r + 1), M2)) → ∃ M', jb_lp (zf_67_H2 (nI l)) (nI r, M) = some (ern L.1 (ff (rho L F l) r (n + 1)), M') ∧ lwsame M M' := by
        intro M2 q1 q2 q3
        obtain ⟨M', z1, z2⟩ := ih (r + 1) M2 (by omega) (by rw [q1 44 (by decide) (by decide)]; exact h6) (lwC_of hC (fun a y1 y2 => q1 a (by omega) (by omega))) (fun j hj => by rw [q1 58 (by decide) (by decide)]; exact hF j hj)
        refine ⟨M', ?_, fun a y1 y2 => by rw [z2 a y1 y2, q1 a y1 y2]⟩
        rw [jb_lp_inl q3, z1]
        simp only [ff, q2, cond_false]
      have hhd : ∀ X, (if M 47 r = nI l then jb_gd (nI r) 16 ((zf_66 (nI (t r)) M).bind fun q3 => if q3.1 = 0 then zf_67_J57 (nI l) (nI r) q3.2 else if q3.2 57 3 = 0 then some (.inr (nI r, q3.2)) else zf_67_J57 (nI l) (nI r) q3.2) else zf_67_J57 (nI l) (nI r) M) = X → zf_67_H2 (nI l) (nI r, M) = X := by
        intro X hX
        rw [← hX]
        unfold zf_67_H2
        dsimp only
        rw [if_pos (show nI r < M 44 6 by rw [h6]; exact nI_lt (by omega) (by omega)), if_pos (show nI r < 16 from nI_lt (b := 16) (by omega) (by decide)), jn_gd (by omega) (by decide), nI_clamp (by omega), e3]
      by_cases el : L.2.1 r = l
      · have e47 : M 47 r = nI l := by rw [e1, el]
        obtain ⟨v, M2, z1, z2, z3⟩ := jc_run (F := F) o2 e4 c1 e5 e6 c3 hF
        have hh : zf_67_H2 (nI l) (nI r, M) = if v = 0 then some (.inl (nI (r + 1), M2)) else if M2 57 3 = 0 then some (.inr (nI r, M2)) else some (.inl (nI (r + 1), M2)) := by
          apply hhd
          rw [if_pos e47, jn_gd (by omega) (by decide), z1, Option.bind_some]
          unfold zf_67_J57
          rw [nI_1]
        rcases z3 with ⟨z3, z4⟩ | ⟨z3, z4, z5⟩
        · rcases rnv_b o2 o3 z3 with rfl | rfl
          · exact next M2 z2 (decide_eq_false (fun q => by rw [z3] at q; exact absurd (Option.some.inj q.2) (by decide))) (by rw [hh, if_pos rfl])
          · refine ⟨M2, ?_, z2⟩
            rw [jb_lp_inr (by rw [hh, if_neg (by decide), if_pos z4])]
            have : rho L F l r = true := decide_eq_true ⟨el, z3⟩
            simp only [ff, this, cond_true]
            unfold ern
            rw [if_neg (by omega)]
        · refine next M2 z2 (decide_eq_false (fun q => by rw [z3] at q; cases q.2)) (by rw [hh, if_pos z4])
      · refine next M (fun _ _ _ => rfl) (decide_eq_false (fun q => el q.1)) ?_
        apply hhd
        rw [if_neg (fun z => by rw [e1, nI_eq (by omega) (by omega)] at z; exact el z)]
        unfold zf_67_J57
        rw [nI_1]
  exact main L.1 0 M (by omega) c2 ⟨sz, s, t, c1, c2, c3, c4⟩ hF
theorem jc_amount {L : jLa} {M : jb_Mi} {F : Nat → Int32} (hO : lwO L) (hC : lwC L M) (hF : ∀ j, j < 10 → M 58 j = F j) {l m : Nat} (hl : l < 120 ∨ l = 121) (hm : m < 2 ^ 31) : ∃ M', zf_68 (nI l) (nI m) M = some (nI (amt L F l m), M') ∧ lwsame M M' := by
  obtain ⟨M1, k1, k2⟩ := jc_rule hO hC hF (show l < 256 by omega)
  have h16 := hO.1
  have hle := frl_le L F l
  unfold zf_68 amt
  rw [k1, Option.bind_some]
  by_cases c : frl L F l = L.1
  · refine ⟨M1, ?_, k2⟩
    unfold ern
    rw [if_pos c, if_pos (show (-1 : Int32) < 0 by decide), if_pos c]
    rfl
  · have hlt : frl L F l < L.1 := by omega
    have hlet := frl_p c
    obtain ⟨sz, s, t, c1, c2, c3, c4⟩ := lwC_of hC (M' := M1) (fun a y1 y2 => k2 a (by omega) (by omega))
    obtain ⟨e1, e2, -, -, e7⟩ := c4 _ hlt
    obtain ⟨e8, e9, e10⟩ := e7 (by omega)
    have o4 := (hO.2 _ hlt).2.2.2 (by omega)
    obtain ⟨v, M2, z1, z2, z3⟩ := jc_run (F := F) o4 e8 c1 e9 e10 c3 (fun j hj => by rw [k2 58 (by decide) (by decide)]; exact hF j hj)
    refine ⟨M2, ?_, fun a y1 y2 => by rw [z2 a y1 y2, k2 a y1 y2]⟩
    have er : ern L.1 (frl L F l) = nI (frl L F l) := if_neg c
    dsimp only
    rw [er, if_neg (nI_pos (by omega)), jn_gd (by omega) (by decide), nI_clamp (by omega), e2, z1, Option.bind_some, if_neg c]
    dsimp only
    rcases z3 with ⟨z3, z4⟩ | ⟨z3, z4, z5⟩
    · rw [if_pos z4, z3, clp_c hm]
    · rw [if_neg (show ¬ M2 57 3 = 0 by rw [z5]; decide), z3]
      rfl
/-- the reference's first rule that holds, with what is done there -/
theorem jd_any {L : jLa} {M : jb_Mi} {F : Nat → Int32} (hO : lwO L) (hD : lwD L M) (hF : ∀ j, j < 10 → M 96 j = F j) {l : Nat} (hl : l < 256) : ∃ M', zf_209 (nI l) M = some (decide (frl L F l ≠ L.1), M') ∧ ldsame M M' := by
  have main : ∀ n r (M : jb_Mi), r + n = L.1 → lwD L M → (∀ j, j < 10 → M 96 j = F j) → ∃ M', jb_lp (zf_209_H2 (nI l)) (nI r, M) = some (decide (ff (rho L F l) r n ≠ L.1), M') ∧ ldsame M M' := by
    intro n
    induction n with
    | zero =>
      intro r M hr hD hF
      obtain ⟨f, d1, d2⟩ := hD
      refine ⟨M, ?_, fun _ _ => rfl⟩
      refine jb_lp_inr ?_
      unfold zf_209_H2 ff
      dsimp only
      have h16 := hO.1
      rw [if_neg (show ¬ nI r < M 79 13 by rw [d1]; exact nI_nlt (by omega) (by omega)), decide_eq_false (by omega)]
    | succ n ih =>
      intro r M hr hD hF
      obtain ⟨f, d1, d2⟩ := id hD
      have h16 := hO.1
      obtain ⟨e1, e2, e3, e4, e5, e6, -⟩ := d2 r (by omega)
      obtain ⟨o1, o2, o3, -⟩ := hO.2 r (by omega)
      have next : ∀ M2, ldsame M M2 → rho L F l r = false → zf_209_H2 (nI l) (nI r, M) = some (.inl (nI (r + 1), M2)) → ∃ M', jb_lp (zf_209_H2 (nI l)) (nI r, M) = some (decide (ff (rho L F l) r (n + 1) ≠ L.1), M') ∧ ldsame M M' := by
        intro M2 q1 q2 q3
        obtain ⟨M', z1, z2⟩ := ih (r + 1) M2 (by omega) (lwD_of hD (fun a y1 y2 => q1 a (by omega)) (by rw [q1 79 (by decide)])) (fun j hj => by rw [q1 96 (by decide)]; exact hF j hj)
        refine ⟨M', ?_, fun a y1 => by rw [z2 a y1, q1 a y1]⟩
        rw [jb_lp_inl q3, z1]
        simp only [ff, q2, cond_false]
      have hhd : ∀ X, (if M 91 r = nI l then jb_gd (nI r) 16 (jb_gd (nI r) 16 ((zf_207 (M 93 r) (M 94 r) M).bind fun q4 => if q4.1 = 1 then some (.inr (true, q4.2)) else zf_209_J42 (nI l) (nI r) q4.2)) else zf_209_J42 (nI l) (nI r) M) = X → zf_209_H2 (nI l) (nI r, M) = X := by
        intro X hX
        rw [← hX]
        unfold zf_209_H2
        dsimp only
        rw [if_pos (show nI r < M 79 13 by rw [d1]; exact nI_lt (by omega) (by omega)), jn_gd (by omega) (by decide), nI_clamp (by omega)]
      by_cases el : L.2.1 r = l
      · have e91 : M 91 r = nI l := by rw [e1, el]
        obtain ⟨v, M2, z1, z2, z3⟩ := jd_comes (F := F) o2 e5 e6 hF
        have hh : zf_209_H2 (nI l) (nI r, M) = if v = 1 then some (.inr (true, M2)) else some (.inl (nI (r + 1), M2)) := by
          apply hhd
          rw [if_pos e91, jn_gd (by omega) (by decide), jn_gd (by omega) (by decide), e3, e4, z1, Option.bind_some]
          unfold zf_209_J42
          rw [nI_1]
        rcases z3 with z3 | ⟨z3, z4⟩
        · rcases rnv_b o2 o3 z3 with rfl | rfl
          · exact next M2 z2 (decide_eq_false (fun q => by rw [z3] at q; exact absurd (Option.some.inj q.2) (by decide))) (by rw [hh, if_neg (by decide)])
          · refine ⟨M2, ?_, z2⟩
            rw [jb_lp_inr (by rw [hh, if_pos rfl])]
            have : rho L F l r = true := decide_eq_true ⟨el, z3⟩
            simp only [ff, this, cond_true]
            rw [decide_eq_true (by omega)]
        · refine next M2 z2 (decide_eq_false (fun q => by rw [z3] at q; cases q.2)) (by rw [hh, z4, if_neg (by decide)])
      · refine next M (fun _ _ => rfl) (decide_eq_false (fun q => el q.1)) ?_
        apply hhd
        rw [if_neg (fun z => by rw [e1, nI_eq (by omega) (by omega)] at z; exact el z)]
        unfold zf_209_J42
        rw [nI_1]
  exact main L.1 0 M (by omega) hD hF
theorem jd_byLaw {L : jLa} {M : jb_Mi} {F : Nat → Int32} (hO : lwO L) (hD : lwD L M) (hF : ∀ j, j < 10 → M 96 j = F j) {l m : Nat} (hl : l < 120 ∨ l = 121) (hm : m < 2 ^ 31) : ∃ M', zf_208 (nI l) (nI m) M = some (nI (amt L F l m), M') ∧ ldsame M M' := by
  have main : ∀ n r (M : jb_Mi), r + n = L.1 → lwD L M → (∀ j, j < 10 → M 96 j = F j) → ∃ M', jb_lp (zf_208_H2 (nI l) (nI m)) (nI r, M) = some (nI (if ff (rho L F l) r n = L.1 then 0 else clp m (rnv F (L.2.2.1 (ff (rho L F l) r n)))), M') ∧ ldsame M M' := by
    intro n
    induction n with
    | zero =>
      intro r M hr hD hF
      obtain ⟨f, d1, d2⟩ := hD
      refine ⟨M, ?_, fun _ _ => rfl⟩
      refine jb_lp_inr ?_
      unfold zf_208_H2 ff
      dsimp only
      have h16 := hO.1
      rw [if_neg (show ¬ nI r < M 79 13 by rw [d1]; exact nI_nlt (by omega) (by omega)), if_pos (by omega)]
      rfl
    | succ n ih =>
      intro r M hr hD hF
      obtain ⟨f, d1, d2⟩ := id hD
      have h16 := hO.1
      obtain ⟨e1, e2, e3, e4, e5, e6, e7⟩ := d2 r (by omega)
      obtain ⟨o1, o2, o3, o4⟩ := hO.2 r (by omega)
      have next : ∀ M2, ldsame M M2 → rho L F l r = false → zf_208_H2 (nI l) (nI m) (nI r, M) = some (.inl (nI (r + 1), M2)) → ∃ M', jb_lp (zf_208_H2 (nI l) (nI m)) (nI r, M) = some (nI (if ff (rho L F l) r (n + 1) = L.1 then 0 else clp m (rnv F (L.2.2.1 (ff (rho L F l) r (n + 1))))), M') ∧ ldsame M M' := by
        intro M2 q1 q2 q3
        obtain ⟨M', z1, z2⟩ := ih (r + 1) M2 (by omega) (lwD_of hD (fun a y1 y2 => q1 a (by omega)) (by rw [q1 79 (by decide)])) (fun j hj => by rw [q1 96 (by decide)]; exact hF j hj)
        refine ⟨M', ?_, fun a y1 => by rw [z2 a y1, q1 a y1]⟩
        rw [jb_lp_inl q3, z1]
        simp only [ff, q2, cond_false]
      have hhd : ∀ X, (if M 91 r = nI l then jb_gd (nI r) 16 (jb_gd (nI r) 16 ((zf_207 (M 93 r) (M 94 r) M).bind fun q4 => if q4.1 = 1 then jb_gd (nI r) 16 (jb_gd (nI r) 16 ((zf_207 (q4.2 92 r) (q4.2 93 r) q4.2).bind fun q7 => if q7.1 < 0 then some (.inr (0, q7.2)) else if nI m < q7.1 then some (.inr (nI m, q7.2)) else some (.inr (q7.1, q7.2)))) else zf_208_J83 (nI l) (nI m) (nI r) q4.2)) else zf_208_J83 (nI l) (nI m) (nI r) M) = X → zf_208_H2 (nI l) (nI m) (nI r, M) = X := by
        intro X hX
        rw [← hX]
        unfold zf_208_H2
        dsimp only
        rw [if_pos (show nI r < M 79 13 by rw [d1]; exact nI_lt (by omega) (by omega)), jn_gd (by omega) (by decide), nI_clamp (by omega)]
      by_cases el : L.2.1 r = l
      · have e91 : M 91 r = nI l := by rw [e1, el]
        obtain ⟨v, M2, z1, z2, z3⟩ := jd_comes (F := F) o2 e5 e6 hF
        obtain ⟨w, M3, y1, y2, y3⟩ := jd_comes (F := F) (M := M2) (s := f r) (o4 (by omega)) (by omega) (by unfold cD; rw [z2 90 (by decide)]; exact e7 (by omega)) (fun j hj => by rw [z2 96 (by decide)]; exact hF j hj)
        have hh : zf_208_H2 (nI l) (nI m) (nI r, M) = if v = 1 then (if w < 0 then some (.inr (0, M3)) else if nI m < w then some (.inr (nI m, M3)) else some (.inr (w, M3))) else some (.inl (nI (r + 1), M2)) := by
          apply hhd
          rw [if_pos e91, jn_gd (by omega) (by decide), jn_gd (by omega) (by decide), e3, e4, z1, Option.bind_some]
          dsimp only
          rw [jn_gd (by omega) (by decide), jn_gd (by omega) (by decide), z2 92 (by decide), z2 93 (by decide), e2, e3, y1, Option.bind_some]
          unfold zf_208_J83
          rw [nI_1]
        rcases z3 with z3 | ⟨z3, z4⟩
        · rcases rnv_b o2 o3 z3 with rfl | rfl
          · exact next M2 z2 (decide_eq_false (fun q => by rw [z3] at q; exact absurd (Option.some.inj q.2) (by decide))) (by rw [hh, if_neg (by decide)])
          · refine ⟨M3, ?_, fun a q1 => by rw [y2 a q1, z2 a q1]⟩
            rw [if_pos rfl] at hh
            have hrt : rho L F l r = true := decide_eq_true ⟨el, z3⟩
            simp only [ff, hrt, cond_true]
            rw [if_neg (show ¬ r = L.1 by omega)]
            refine jb_lp_inr ?_
            rw [hh]
            rcases y3 with y3 | ⟨y3, y4⟩
            · rw [y3, clp_eq hm]
              by_cases q1 : w < 0
              · rw [if_pos q1, if_pos q1]
              · rw [if_neg q1, if_neg q1]
                by_cases q2 : nI m < w
                · rw [if_pos q2, if_pos q2]
                · rw [if_neg q2, if_neg q2]
            · rw [y3, y4, if_neg (show ¬ (0 : Int32) < 0 by decide), if_neg (show ¬ nI m < 0 from nI_pos hm)]
              rfl
        · refine next M2 z2 (decide_eq_false (fun q => by rw [z3] at q; cases q.2)) (by rw [hh, z4, if_neg (by decide)])
      · refine next M (fun _ _ => rfl) (decide_eq_false (fun q => el q.1)) ?_
        apply hhd
        rw [if_neg (fun z => by rw [e1, nI_eq (by omega) (by omega)] at z; exact el z)]
        unfold zf_208_J83
        rw [nI_1]
  exact main L.1 0 M (by omega) hD hF
