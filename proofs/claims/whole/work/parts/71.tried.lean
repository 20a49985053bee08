/-! tried, stands, fallsFirst -/
theorem sub_in {x : Int32} (k lo : Nat) (hk : k < 100) (hlo : lo < 100) (c : ¬ zf_23 (x - nI lo) 0 (nI k) = false) : ∃ j, j ≤ k ∧ x = nI (lo + j) := by
  obtain ⟨j, hj, e⟩ := jn_in (x := x - nI lo) k (by omega) c
  refine ⟨j, hj, ?_⟩
  rw [← nI_add, ← e, Int32.add_comm, Int32.sub_add_cancel]
/-- which man, which house a trial is asked of -/
theorem ask_m {S : jSt} {M : jb_Mi} (hC : jC 4 S M) (hD : jD 80 S M) (hR : jR S) (x : Int32) : (∃ m, m < 16 ∧ x = nI (10 + m) ∧ 0 < S 7 m ∧ zf_18 4 (x - 10) M = some true) ∨ (zf_18 4 (x - 10) M = some false ∧ ∀ m, m < 16 → x = nI (10 + m) → ¬ 0 < S 7 m) := by
  rcases jx_man hC hD hR (x - 10) with ⟨e1, -⟩ | ⟨m, hm, e, hs, e1, -⟩
  · refine Or.inr ⟨e1, fun m hm hx ht => ?_⟩
    rw [hx, show nI (10 + m) - 10 = nI m from by rw [show (10 : Int32) = nI 10 from rfl, pk_sub (by omega), Nat.add_sub_cancel_left], jc_man hC hR hm, decide_eq_true ht] at e1
    cases e1
  · refine Or.inl ⟨m, hm, ?_, hs, e1⟩
    rw [← nI_add, ← e, Int32.add_comm, show nI 10 = (10 : Int32) from rfl, Int32.sub_add_cancel]
theorem ask_h {S : jSt} {M : jb_Mi} (hC : jC 4 S M) (hD : jD 80 S M) (hR : jR S) (x : Int32) : (∃ i, i < 6 ∧ x = nI (30 + i) ∧ 0 < S 0 i ∧ zf_2 4 (x - 30) M = some true) ∨ (zf_2 4 (x - 30) M = some false ∧ ∀ i, i < 6 → x = nI (30 + i) → ¬ 0 < S 0 i) := by
  rcases jx_house hC hD hR (x - 30) with ⟨e1, -⟩ | ⟨i, hi, e, hs, e1, -⟩
  · refine Or.inr ⟨e1, fun i hi hx ht => ?_⟩
    rw [hx, show nI (30 + i) - 30 = nI i from by rw [show (30 : Int32) = nI 30 from rfl, pk_sub (by omega), Nat.add_sub_cancel_left], jc_told hC hR hi, decide_eq_true ht] at e1
    cases e1
  · refine Or.inl ⟨i, hi, ?_, hs, e1⟩
    rw [← nI_add, ← e, Int32.add_comm, show nI 30 = (30 : Int32) from rfl, Int32.sub_add_cancel]
/-- what tried answers (x: what) -/
noncomputable def trA (z : hz) (v : Nat) : Int32 := if v = 0 then nI z.2.2.1 else if v = 1 then nI z.2.2.2.1 else if v = 2 then nI z.2.2.2.2.1 else if v = 3 then nI z.2.2.2.2.2 else if v < 30 then nI (z.1 8 (v - 10)) else nI (z.1 2 (v - 30))
theorem jc_tried {L : jLa} {R : Nat → List Nat} {S : jSt} {M : jb_Mi} (hO : lwO L) (hL : lwC L M) (hr : jRo R M) (hC : jC 4 S M) (hR : jR S) {k v : Nat} (hk : k ≤ 240) (hb : now S + k < 239976) (x3 x4 : Int32) (hv : (v ≤ 3 ∧ x3 = 0 ∧ x4 = 0) ∨ (10 ≤ v ∧ v < 26 ∧ x3 = 1) ∨ (30 ≤ v ∧ v < 36 ∧ x3 = 0 ∧ x4 = 1)) : ∃ M1, zf_135_J56 (nI k) (nI v) x3 x4 M = some (trA (sX L R S k).1 v, M1) ∧ trf M M1 := by
  obtain ⟨M0, b1, b2, b3⟩ := jc_trial hC hR
  unfold zf_135_J56
  rw [b1, Option.bind_some]
  obtain ⟨x, y1, M1, rfl, y3⟩ := jb_inv (f := zf_135_H63 (nI k) (nI v) x3 x4) (fun m s => ∃ j M', j + m = k ∧ s = (nI j, M') ∧ cS 62 24 (sX L R S j).1 M' ∧ trf M M') (fun x => ∃ M1, x = (trA (sX L R S k).1 v, M1) ∧ trf M M1) (by
    rintro m s ⟨j, M', hm, rfl, h1, h2⟩
    unfold zf_135_H63
    dsimp only
    by_cases e : j < k
    · obtain ⟨M2, p1, p2, p3⟩ := trf_pass hO hL hr hR (show now S + j < 239976 by omega) h1 h2
      exact Or.inl ⟨m - 1, (nI (j + 1), M2), by omega, by rw [if_pos (nI_lt e (by omega)), p1, Option.bind_some, nI_1], j + 1, M2, by omega, rfl, p2, p3⟩
    · have e : j = k := by omega
      subst e
      refine Or.inr ⟨(trA (sX L R S j).1 v, M'), ?_, M', rfl, h2⟩
      rw [if_neg (nI_nlt (Nat.le_refl _) (by omega))]
      obtain ⟨y, q1, q2, q3⟩ := h1
      obtain ⟨c1, -, c3, c4, c5, c6, -⟩ := q1
      rw [q3] at c3 c4 c5 c6
      rw [q2] at c1
      unfold trA
      generalize (sX L R S j).1 = z at c1 c3 c4 c5 c6
      rcases hv with ⟨hv, rfl, rfl⟩ | ⟨hv, hv2, rfl⟩ | ⟨hv, hv2, rfl, rfl⟩
      · rw [if_pos rfl, if_pos rfl, c3, c4, c5, c6]
        rcases (show v = 0 ∨ v = 1 ∨ v = 2 ∨ v = 3 by omega) with rfl | rfl | rfl | rfl <;> rfl
      · rw [if_neg (show ¬ (1 : Int32) = 0 by decide), if_neg (by omega), if_neg (by omega), if_neg (by omega), if_neg (by omega), if_pos (by omega), show nI v - 10 = nI (v - 10) from pk_sub (b := 10) hv, jn_gd (by omega) (by decide), nI_clamp (by omega), show M' 33 (v - 10) = nI (z.1 8 (v - 10)) from (c1.2.2.1 (v - 10) (by omega)).2]
      · rw [if_pos rfl, if_neg (show ¬ (1 : Int32) = 0 by decide), if_neg (by omega), if_neg (by omega), if_neg (by omega), if_neg (by omega), if_neg (by omega), show nI v - 30 = nI (v - 30) from pk_sub (b := 30) hv, jn_gd (by omega) (by decide), nI_clamp (by omega), show M' 27 (v - 30) = nI (z.1 2 (v - 30)) from (c1.1 (v - 30) (by omega)).2.2]) k (nI 0, M0) ⟨0, M0, by omega, rfl, b2, fun a ha => b3 a (by omega)⟩
  exact ⟨M1, y1, y3⟩
theorem jd_tried {L : jLa} {R : Nat → List Nat} {S : jSt} {M : jb_Mi} (hO : lwO L) (hL : lwD L M) (hr : jRo R M) (hD : jD 80 S M) (hR : jR S) {k v : Nat} (hk : k ≤ 240) (hb : now S + k < 239976) (hv : v ≤ 3 ∨ (10 ≤ v ∧ v < 26) ∨ (30 ≤ v ∧ v < 36)) : ∃ M4, zf_229_J66 (nI k) (nI v) M = some (trA (sX L R S k).1 v, M4) ∧ jD 80 S M4 ∧ (∀ a, a ≠ 79 → a ≠ 80 → a ≠ 81 → a ≠ 95 → a ≠ 96 → a ≠ 103 → M4 a = M a) ∧ ∀ j, j < 38 ∨ 44 < j → M4 79 j = M 79 j := by
  obtain ⟨M2, M3, M4, t1, t2, t3, ⟨y, q1, q2, q3⟩, -, t5, t6, t7⟩ := jd_try hO hL hr hD hR hk hb
  refine ⟨M4, ?_, t5, t6, t7⟩
  obtain ⟨⟨c1, -, c3, c4, c5, c6⟩, -⟩ := q1
  rw [q3] at c3 c4 c5 c6
  rw [q2] at c1
  unfold zf_229_J66 zf_229_J178 zf_229_J179 trA
  rw [t1, Option.bind_some, t2, Option.bind_some, t3]
  simp only [Option.bind_some]
  generalize (sX L R S k).1 = z at c1 c3 c4 c5 c6
  rw [c3, c4, c5, c6]
  rcases hv with hv | ⟨hv, hv2⟩ | ⟨hv, hv2⟩
  · rcases (show v = 0 ∨ v = 1 ∨ v = 2 ∨ v = 3 by omega) with rfl | rfl | rfl | rfl <;> rfl
  · have ne : ∀ w, w < 4 → ¬ nI v = nI w := fun w hw z => by have := (nI_eq (by omega) (by omega)).mp z; omega
    rw [if_neg (show ¬ nI v = 0 from ne 0 (by omega)), if_neg (show ¬ nI v = 1 from ne 1 (by omega)), if_neg (show ¬ nI v = 2 from ne 2 (by omega)), if_neg (show ¬ nI v = 3 from ne 3 (by omega)), if_pos (show nI v < 30 from nI_lt (b := 30) (by omega) (by decide)), if_neg (by omega), if_neg (by omega), if_neg (by omega), if_neg (by omega), if_pos (by omega), show (130 : Int32) + nI v = nI (130 + v) from jn_addl 130 v, show nI (130 + v) - 10 = nI (130 + v - 10) from pk_sub (b := 10) (by omega), jn_gd (by omega) (by decide), nI_clamp (by omega), show 130 + v - 10 = 130 + (v - 10) by omega, (c1.2.2.1 (v - 10) (by omega)).2]
  · have ne : ∀ w, w < 4 → ¬ nI v = nI w := fun w hw z => by have := (nI_eq (by omega) (by omega)).mp z; omega
    rw [if_neg (show ¬ nI v = 0 from ne 0 (by omega)), if_neg (show ¬ nI v = 1 from ne 1 (by omega)), if_neg (show ¬ nI v = 2 from ne 2 (by omega)), if_neg (show ¬ nI v = 3 from ne 3 (by omega)), if_neg (show ¬ nI v < 30 from nI_nlt (b := 30) (by omega) (by omega)), if_neg (by omega), if_neg (by omega), if_neg (by omega), if_neg (by omega), if_neg (by omega), show (12 : Int32) + nI v = nI (12 + v) from jn_addl 12 v, show nI (12 + v) - 30 = nI (12 + v - 30) from pk_sub (b := 30) (by omega), jn_gd (by omega) (by decide), nI_clamp (by omega), show 12 + v - 30 = 12 + (v - 30) by omega, (c1.1 (v - 30) (by omega)).2.2]
theorem in_no {x : Int32} {lo hi : Nat} (hhi : hi < 2 ^ 31) (h : ∀ j, lo ≤ j → j ≤ hi → x ≠ nI j) (hlo : lo < 2 ^ 31) : zf_23 x (nI lo) (nI hi) = false := by
  apply Classical.byContradiction
  intro z
  obtain ⟨j, h1, h2, h3⟩ := jn_in1 lo hi hlo hhi z
  exact h j h1 h2 h3
theorem ca_tried {n : Nat} {M : jb_Mi} {N : jb_Ml} (hn : n < 512) (h : jInv n M N) (a1 a2 : Int32) : ∃ (r : Int32) (M1 : jb_Mi) (M2 : jb_Mi), zf_135 a1 a2 M = some (r, M1) ∧ M1 0 = M 0 ∧ zf_229 a1 a2 M1 = some (r, M2) ∧ M2 0 = M 0 ∧ jInv (n + 1) M2 N := by
  obtain ⟨⟨S, hC, hD, hR, hT⟩, -, -, ⟨R, hr⟩, hlw, -⟩ := id h
  obtain ⟨L, hO, hLC, hLD⟩ := jLx_law hlw
  by_cases c : zf_23 a1 1 240 = false
  · refine ⟨-1, M, M, ?_, rfl, ?_, rfl, jInv_mono h⟩
    · unfold zf_135
      have e1 : ∃ b, zf_18 4 (a2 - 10) M = some b := by
        rcases ask_m hC hD hR a2 with ⟨m, -, -, -, e⟩ | ⟨e, -⟩
        · exact ⟨_, e⟩
        · exact ⟨_, e⟩
      have e2 : ∃ b, zf_2 4 (a2 - 30) M = some b := by
        rcases ask_h hC hD hR a2 with ⟨m, -, -, -, e⟩ | ⟨e, -⟩
        · exact ⟨_, e⟩
        · exact ⟨_, e⟩
      obtain ⟨b1, e1⟩ := e1
      obtain ⟨b2, e2⟩ := e2
      rw [e1, Option.bind_some, e2, Option.bind_some, c]
      rfl
    · unfold zf_229
      rw [jn_w, c]
      rfl
  obtain ⟨k, hk1, hk, rfl⟩ := jn_in1 (x := a1) 1 240 (by decide) (by decide) c
  have c' : zf_23 (nI k) 1 240 = true := by simpa using c
  have hnow : now S + k < 239976 := by unfold now; omega
  -- the class's part gives the reference's
  have both : ∀ v x3 x4, ((v ≤ 3 ∧ x3 = 0 ∧ x4 = 0) ∨ (10 ≤ v ∧ v < 26 ∧ x3 = 1) ∨ (30 ≤ v ∧ v < 36 ∧ x3 = 0 ∧ x4 = 1)) → (∀ M1, trf M M1 → zf_229 (nI k) (nI v) M1 = zf_229_J66 (nI k) (nI v) M1) → zf_135 (nI k) (nI v) M = zf_135_J56 (nI k) (nI v) x3 x4 M → ∃ (r : Int32) (M1 : jb_Mi) (M2 : jb_Mi), zf_135 (nI k) (nI v) M = some (r, M1) ∧ M1 0 = M 0 ∧ zf_229 (nI k) (nI v) M1 = some (r, M2) ∧ M2 0 = M 0 ∧ jInv (n + 1) M2 N := by
    intro v x3 x4 hv hd hc
    obtain ⟨M1, p1, p2⟩ := jc_tried hO hLC hr hC hR hk hnow x3 x4 hv
    have hD1 : jD 80 S M1 := jD_of hD (p2 80 (by omega))
    have hr1 : jRo R M1 := jRo_of hr (p2 36 (by omega)) (p2 98 (by omega)) (p2 35 (by omega)) (p2 97 (by omega))
    have hL1 : lwD L M1 := lwD_of hLD (fun a g1 g2 => p2 a (by omega)) (by rw [p2 79 (by omega)])
    obtain ⟨M4, g1, g2, g3, g4⟩ := jd_tried hO hL1 hr1 hD1 hR hk hnow (v := v) (by omega)
    obtain ⟨k1, k2⟩ := jInv_try h hC hR hT p2 g2 g3 g4
    exact ⟨_, M1, M4, by rw [hc, p1], p2 0 (by omega), by rw [hd M1 p2, g1], k1, k2⟩
  have told_m : ∀ M1, trf M M1 → ∀ m, m < 16 → zf_174 (nI m) M1 = some (decide (0 < S 7 m)) := fun M1 f m hm => jd_man (jD_of hD (f 80 (by omega))) hR hm
  have told_h : ∀ M1, trf M M1 → ∀ i, i < 6 → zf_171 (nI i) M1 = some (decide (0 < S 0 i)) := fun M1 f i hi => jd_told (jD_of hD (f 80 (by omega))) hR hi
  by_cases c3 : zf_23 a2 0 3 = false
  · rcases ask_m hC hD hR a2 with ⟨m, hm, rfl, hs, e1⟩ | ⟨e1, n1⟩
    · -- of a man
      have e2 : zf_2 4 (nI (10 + m) - 30) M = some false := by
        rcases ask_h hC hD hR (nI (10 + m)) with ⟨i, hi, hx, -, -⟩ | ⟨e, -⟩
        · have := (nI_eq (by omega) (by omega)).mp hx; omega
        · exact e
      refine both (10 + m) 1 0 (Or.inr (Or.inl ⟨by omega, by omega, rfl⟩)) (fun M1 f => ?_) ?_
      · unfold zf_229
        rw [show zf_164 (nI k) 1 240 = true from c', jb_yes, show zf_164 (nI (10 + m)) 0 3 = false from c3, jb_no, show zf_164 (nI (10 + m)) 10 25 = true from jn_wl (l := 10) (k := 25) (show 10 ≤ 10 + m by omega) (show 10 + m ≤ 25 by omega) (by decide), jb_yes, show nI (10 + m) - 10 = nI m from by rw [show (10 : Int32) = nI 10 from rfl, pk_sub (by omega), Nat.add_sub_cancel_left], told_m M1 f m hm, decide_eq_true hs, Option.bind_some, jb_yes]
      · unfold zf_135
        rw [e1, Option.bind_some, e2, Option.bind_some, c', jb_yes, c3, jb_no, jb_yes]
        rfl
    · rcases ask_h hC hD hR a2 with ⟨i, hi, rfl, hs, e2⟩ | ⟨e2, n2⟩
      · -- of a house
        refine both (30 + i) 0 1 (Or.inr (Or.inr ⟨by omega, by omega, rfl, rfl⟩)) (fun M1 f => ?_) ?_
        · unfold zf_229 zf_229_J42
          rw [show zf_164 (nI k) 1 240 = true from c', jb_yes, show zf_164 (nI (30 + i)) 0 3 = false from c3, jb_no, show zf_164 (nI (30 + i)) 10 25 = false from in_no (lo := 10) (hi := 25) (by decide) (fun j h1 h2 z => by have := (nI_eq (by omega) (by omega)).mp z; omega) (by decide), jb_no, show zf_164 (nI (30 + i)) 30 35 = true from jn_wl (l := 30) (k := 35) (show 30 ≤ 30 + i by omega) (show 30 + i ≤ 35 by omega) (by decide), jb_yes, show nI (30 + i) - 30 = nI i from by rw [show (30 : Int32) = nI 30 from rfl, pk_sub (by omega), Nat.add_sub_cancel_left], told_h M1 f i hi, decide_eq_true hs, Option.bind_some, jb_yes]
        · unfold zf_135
          rw [e1, Option.bind_some, e2, Option.bind_some, c', jb_yes, c3, jb_no, jb_no, jb_yes]
          rfl
      · -- of nothing
        refine ⟨-1, M, M, ?_, rfl, ?_, rfl, jInv_mono h⟩
        · unfold zf_135
          rw [e1, Option.bind_some, e2, Option.bind_some, c', jb_yes, c3, jb_no, jb_no, jb_no]
        · have j42 : zf_229_J42 (nI k) a2 M = some (-1, M) := by
            unfold zf_229_J42
            by_cases c5 : zf_23 a2 30 35 = false
            · rw [show zf_164 a2 30 35 = false from c5, jb_no]
            · obtain ⟨j, h1, h2, rfl⟩ := jn_in1 (x := a2) 30 35 (by decide) (by decide) c5
              have hj : ¬ 0 < S 0 (j - 30) := n2 (j - 30) (by omega) (by congr 1; omega)
              rw [show zf_164 (nI j) 30 35 = true from (by simpa using c5 : zf_23 (nI j) 30 35 = true), jb_yes, show nI j - 30 = nI (j - 30) from pk_sub (b := 30) h1, jd_told hD hR (by omega), decide_eq_false hj, Option.bind_some, jb_no]
          unfold zf_229
          rw [show zf_164 (nI k) 1 240 = true from c', jb_yes, show zf_164 a2 0 3 = false from c3, jb_no]
          by_cases c4 : zf_23 a2 10 25 = false
          · rw [show zf_164 a2 10 25 = false from c4, jb_no, j42]
          · obtain ⟨j, h1, h2, rfl⟩ := jn_in1 (x := a2) 10 25 (by decide) (by decide) c4
            have hj : ¬ 0 < S 7 (j - 10) := n1 (j - 10) (by omega) (by congr 1; omega)
            rw [show zf_164 (nI j) 10 25 = true from (by simpa using c4 : zf_23 (nI j) 10 25 = true), jb_yes, show nI j - 10 = nI (j - 10) from pk_sub (b := 10) h1, jd_man hD hR (by omega), decide_eq_false hj, Option.bind_some, jb_no, j42]
  · obtain ⟨v, hv, rfl⟩ := jn_in (x := a2) 3 (by decide) c3
    have c3' : zf_23 (nI v) 0 3 = true := by simpa using c3
    have e1 : zf_18 4 (nI v - 10) M = some false := by
      rcases ask_m hC hD hR (nI v) with ⟨m, hm, hx, -, -⟩ | ⟨e, -⟩
      · have := (nI_eq (by omega) (by omega)).mp hx; omega
      · exact e
    have e2 : zf_2 4 (nI v - 30) M = some false := by
      rcases ask_h hC hD hR (nI v) with ⟨i, hi, hx, -, -⟩ | ⟨e, -⟩
      · have := (nI_eq (by omega) (by omega)).mp hx; omega
      · exact e
    refine both v 0 0 (Or.inl ⟨hv, rfl, rfl⟩) (fun M1 f => ?_) ?_
    · unfold zf_229
      rw [show zf_164 (nI k) 1 240 = true from c', jb_yes, show zf_164 (nI v) 0 3 = true from c3', jb_yes]
    · unfold zf_135
      rw [e1, Option.bind_some, e2, Option.bind_some, c', jb_yes, c3', jb_yes]
      rfl
theorem ca_stands {n : Nat} {M : jb_Mi} {N : jb_Ml} (hn : n < 512) (h : jInv n M N) (a1 a2 : Int32) : ∃ (r : Int32) (M1 : jb_Mi) (M2 : jb_Mi), zf_141 a1 a2 M = some (r, M1) ∧ M1 0 = M 0 ∧ zf_230 a1 a2 M1 = some (r, M2) ∧ M2 0 = M 0 ∧ jInv (n + 1) M2 N := by
  obtain ⟨⟨S, hC, hD, hR, hT⟩, -, -, ⟨R, hr⟩, hlw, -⟩ := id h
  obtain ⟨L, hO, hLC, hLD⟩ := jLx_law hlw
  unfold zf_141 zf_230
  rcases jx_house hC hD hR a1 with ⟨e1, e2⟩ | ⟨i, hi, rfl, hs, e1, e2⟩
  · exact ⟨_, M, M, by rw [e1]; rfl, rfl, by rw [e2]; rfl, rfl, jInv_mono h⟩
  rw [e1]
  simp only [Option.bind_some, jb_yes]
  simp only [jn_b, jn_w]
  by_cases c : zf_23 a2 1 240 = false
  · exact ⟨_, M, M, if_pos c, rfl, by rw [e2, Option.bind_some, if_neg (by decide), if_pos c], rfl, jInv_mono h⟩
  obtain ⟨k, hk1, hk, rfl⟩ := jn_in1 (x := a2) 1 240 (by decide) (by decide) c
  have hnow : now S + k < 239976 := by unfold now; omega
  have h2 := hR.1 i hi
  rw [if_neg c, jc_up hC hR hi, Option.bind_some]
  by_cases cu : S 2 i < 9
  · have hu0 : uq L R S 0 i = true := decide_eq_true ⟨hs, cu⟩
    obtain ⟨f1, f2⟩ := fa_ok (L := L) (R := R) (S := S) hi hu0 k
    rw [decide_eq_true ⟨hs, cu⟩, if_neg (by decide)]
    obtain ⟨M0, b1, b2, b3⟩ := jc_trial hC hR
    rw [b1, Option.bind_some]
    obtain ⟨x, y1, M1, rfl, y3⟩ := jb_inv (f := zf_141_H43 (nI i) (nI k)) (fun m s => ∃ j M', j + m = k ∧ s = (nI (j + 1), M') ∧ cS 62 24 (sX L R S j).1 M' ∧ trf M M' ∧ ∀ s, s ≤ j → uq L R S s i = true) (fun x => ∃ M1, x = (ea ((sX L R S k).2.2 i), M1) ∧ trf M M1) (by
      rintro m s ⟨j, M', hm, rfl, h1, h2, h3⟩
      unfold zf_141_H43
      dsimp only
      by_cases e : j < k
      · obtain ⟨M2, p1, p2, p3⟩ := trf_pass hO hLC hr hR (show now S + j < 239976 by omega) h1 h2
        obtain ⟨g1, g2, g3⟩ := sX_ok (L := L) (R := R) hR (j + 1) (by omega)
        have hup : zf_37 24 (nI i) M2 = some (uq L R S (j + 1) i) := by
          obtain ⟨y, q1, q2, -⟩ := p2
          rw [jc_up q1.1 (by rw [q2]; exact g1) hi, q2]
          rfl
        rw [if_neg (nI_nlt (show j + 1 ≤ k by omega) (by omega)), p1, Option.bind_some, hup, Option.bind_some, nI_1]
        cases hq : uq L R S (j + 1) i
        · right
          rw [jb_no]
          refine ⟨_, rfl, M2, ?_, p3⟩
          have hkf : uq L R S k i = false := by
            cases hz : uq L R S k i
            · rfl
            · rw [uq_mono hi (show j + 1 ≤ k by omega) hz] at hq; cases hq
          obtain ⟨t, t1, t2, t3, t4, t5⟩ := f2 hkf
          have et : t = j + 1 := by
            apply Classical.byContradiction
            intro z
            by_cases zz : t < j + 1
            · rw [h3 t (by omega)] at t4; cases t4
            · rw [t5 (j + 1) (by omega)] at hq; cases hq
          rw [t3, et]
          unfold ea
          rw [if_neg (by omega)]
        · left
          rw [jb_yes]
          refine ⟨m - 1, (nI (j + 1 + 1), M2), by omega, rfl, j + 1, M2, by omega, rfl, p2, p3, fun s hs' => ?_⟩
          by_cases z : s = j + 1
          · rw [z]; exact hq
          · exact h3 s (by omega)
      · have e : j = k := by omega
        subst e
        refine Or.inr ⟨_, if_pos (nI_lt (show j < j + 1 by omega) (by omega)), M', ?_, h2⟩
        rw [f1 (h3 j (Nat.le_refl _))]
        rfl) k (nI 1, M0) ⟨0, M0, by omega, rfl, b2, fun a ha => b3 a (by omega), fun s hs' => by
          have : s = 0 := by omega
          rw [this]; exact hu0⟩
    have hD1 : jD 80 S M1 := jD_of hD (y3 80 (by omega))
    have hr1 : jRo R M1 := jRo_of hr (y3 36 (by omega)) (y3 98 (by omega)) (y3 35 (by omega)) (y3 97 (by omega))
    have hL1 : lwD L M1 := lwD_of hLD (fun a g1 g2 => y3 a (by omega)) (by rw [y3 79 (by omega)])
    obtain ⟨M2, M3, M4, t1, t2, t3, ⟨y, q1, q2, q3⟩, t4, t5, t6, t7⟩ := jd_try hO hL1 hr1 hD1 hR hk hnow
    obtain ⟨k1, k2⟩ := jInv_try h hC hR hT y3 t5 t6 t7
    refine ⟨ea ((sX L R S k).2.2 i), M1, M4, y1, y3 0 (by omega), ?_, k1, k2⟩
    rw [jd_told hD1 hR hi, decide_eq_true hs, Option.bind_some, if_neg (by decide), if_neg c, show (12 : Int32) + nI i = nI (12 + i) from jn_addl 12 i, jn_gd (by omega) (by decide), nI_clamp (by omega), (hD1.1 i hi).2.2, if_neg (fun z => by have := (nI_eq (b := 9) (by omega) (by decide)).mp z; omega), t1, Option.bind_some, t2, Option.bind_some, t3, Option.bind_some, jn_gd hi (by decide), nI_clamp (by omega), t4 103 (by decide), q1.2.2.2.2 i hi]
  · rw [decide_eq_false (fun z => cu z.2), if_pos rfl]
    refine ⟨0, M, M, rfl, rfl, ?_, rfl, jInv_mono h⟩
    rw [e2, Option.bind_some, if_neg (by decide), if_neg c, show (12 : Int32) + nI i = nI (12 + i) from jn_addl 12 i, jn_gd (by omega) (by decide), nI_clamp (by omega), (hD.1 i hi).2.2, if_pos (show nI (S 2 i) = 9 by rw [show S 2 i = 9 by omega]; rfl)]
theorem ca_fallsFirst {n : Nat} {M : jb_Mi} {N : jb_Ml} (hn : n < 512) (h : jInv n M N) (a1 : Int32) : ∃ (r : Int32) (M1 : jb_Mi) (M2 : jb_Mi), zf_142 a1 M = some (r, M1) ∧ M1 0 = M 0 ∧ zf_231 a1 M1 = some (r, M2) ∧ M2 0 = M 0 ∧ jInv (n + 1) M2 N := by
  obtain ⟨⟨S, hC, hD, hR, hT⟩, -, -, ⟨R, hr⟩, hlw, -⟩ := id h
  obtain ⟨L, hO, hLC, hLD⟩ := jLx_law hlw
  unfold zf_142 zf_231
  simp only [jn_b, jn_w]
  by_cases c : zf_23 a1 1 240 = false
  · exact ⟨_, M, M, if_pos c, rfl, if_pos c, rfl, jInv_mono h⟩
  obtain ⟨k, hk1, hk, rfl⟩ := jn_in1 (x := a1) 1 240 (by decide) (by decide) c
  have hnow : now S + k < 239976 := by unfold now; omega
  have hff := ff_ok (L := L) (R := R) (S := S) k
  have hfb : ∀ j, fq L R S j ≤ 24 * j := by
    intro j
    induction j with
    | zero => exact Nat.le_refl _
    | succ j ih =>
      have key : ∀ (z : hz) (q : Nat), (itf (cornZ L R) z q).2.2.2.2.2 ≤ z.2.2.2.2.2 + q := by
        intro z q
        induction q with
        | zero => exact Nat.le_refl _
        | succ q iq =>
          have := corn_u (L := L) (R := R) (q := q) (z := itf (cornZ L R) z q)
          simp only [itf]
          rcases this.2 with ⟨-, b⟩ | ⟨-, -, b⟩
          · rw [b]; omega
          · rw [b]; omega
      have e1 : (sX L R S (j + 1)).1 = hourZ L R (sX L R S j).1 := by rw [sX_s]
      have h1 := (hour_u (L := L) (R := R) (sX L R S j).1 0).2
      have h2 := key ((sX L R S j).1.1, 0, (sX L R S j).1.2.2) 24
      have e2 : midZ L R (sX L R S j).1 = itf (cornZ L R) ((sX L R S j).1.1, 0, (sX L R S j).1.2.2) 24 := by unfold midZ; rfl
      rw [← e2, ← h1, ← e1] at h2
      unfold fq at ih ⊢
      dsimp only at h2
      omega
  -- the lowest that fell
  have low : ∀ M', trf M M' → ∀ t, t ≤ k → cS 62 24 (sX L R S t).1 M' → zf_142_J47 M' = some (if (sX L R S k).2.1 = 6 then (-2) else nI (sX L R S k).2.1, M') ∨ ¬ (((fq L R S t = 0 ∧ t = k) ∨ (fq L R S t ≠ 0 ∧ ∀ s, s < t → fq L R S s = 0))) := by
    intro M' hf t ht hc
    by_cases hh : (fq L R S t = 0 ∧ t = k) ∨ (fq L R S t ≠ 0 ∧ ∀ s, s < t → fq L R S s = 0)
    · left
      have hC' : jC 4 S M' := jC_of hC (fun a g1 g2 => hf a (by omega))
      obtain ⟨g1, g2, g3⟩ := sX_ok (L := L) (R := R) hR t (by omega)
      obtain ⟨y, q1, q2, -⟩ := hc
      have ht24 : ∀ i, i < 6 → zf_37 24 (nI i) M' = some (uq L R S t i) := fun i hi => by
        rw [jc_up q1.1 (by rw [q2]; exact g1) hi, q2]
        rfl
      have ht4 : ∀ i, i < 6 → zf_37 4 (nI i) M' = some (uph S i) := fun i hi => by rw [jc_up hC' hR hi]; rfl
      -- which one the loop tells
      have loop : ∀ f, f ≤ 6 → (∀ i, i < f → ¬ fln S (sX L R S t).1.1 i) → (f < 6 → fln S (sX L R S t).1.1 f) → zf_142_J47 M' = some (if f = 6 then (-2) else nI f, M') := by
        intro f hf6 hn1 hy
        unfold zf_142_J47
        have st : ∀ i, i < f → zf_142_H49 M' (nI i) = some (.inl (nI (i + 1))) := by
          intro i hi
          unfold zf_142_H49 zf_142_J79
          rw [if_pos (show nI i < 6 from nI_lt (b := 6) (by omega) (by decide)), ht4 i (by omega), Option.bind_some, ht24 i (by omega), Option.bind_some, nI_1]
          cases ha : uph S i
          · rw [jb_no]
          · rw [jb_yes]
            cases hb : uq L R S t i
            · exact absurd ⟨ha, hb⟩ (hn1 i hi)
            · rw [jb_yes]
        rw [show (0 : Int32) = nI 0 from rfl, jb_for (f := zf_142_H49 M') (fun i => nI i) f (fun i hi => st i hi)]
        refine jb_lp_inr ?_
        unfold zf_142_H49
        by_cases c6 : f = 6
        · subst c6
          rw [if_neg (by decide), if_pos rfl]
        · obtain ⟨ha, hb⟩ := hy (by omega)
          have hb' : uq L R S t f = false := hb
          rw [if_pos (show nI f < 6 from nI_lt (b := 6) (by omega) (by decide)), ht4 f (by omega), Option.bind_some, ha, jb_yes, ht24 f (by omega), Option.bind_some, hb', jb_no, if_neg c6]
      rcases hff with ⟨a, b, c'⟩ | ⟨t', t1, t2, t3, t4, t5, t6, t7⟩
      · have f0 : fq L R S t = 0 := by
          have := fq_mono L R S ht
          omega
        rw [b]
        refine loop 6 (Nat.le_refl _) (fun i hi z => ?_) (fun z => by omega)
        have e : uq L R S t i = uq L R S 0 i := by
          cases hz : uq L R S 0 i
          · cases hy : uq L R S t i
            · rfl
            · rw [uq_mono hi (Nat.zero_le t) hy] at hz; cases hz
          · have hkk : uq L R S k i = true := by rw [c' i hi]; exact hz
            rw [uq_mono hi ht hkk]
        have e1 : uq L R S 0 i = true := z.1
        have e2 : uq L R S t i = false := z.2
        rw [e, e1] at e2
        cases e2
      · have et : t = t' := by
          rcases hh with ⟨h1, h2⟩ | ⟨h1, h2⟩
          · have := fq_mono L R S (show t' ≤ t by omega)
            omega
          · apply Classical.byContradiction
            intro z
            by_cases zz : t < t'
            · exact h1 (t3 t zz)
            · exact t4 (h2 t' (by omega))
        rw [et] at loop
        refine loop _ (by omega) (fun i hi z => ?_) (fun _ => t6)
        have := t7 i (by omega) z
        omega
    · exact Or.inr hh
  obtain ⟨M0, b1, b2, b3⟩ := jc_trial hC hR
  obtain ⟨x, y1, M1, rfl, y3⟩ := jb_inv (f := zf_142_H19 (nI k)) (fun m s => ∃ j M', j + m = k ∧ s = (nI j, M') ∧ cS 62 24 (sX L R S j).1 M' ∧ trf M M' ∧ ∀ s, s < j → fq L R S s = 0) (fun x => ∃ M1, x = (if (sX L R S k).2.1 = 6 then (-2) else nI (sX L R S k).2.1, M1) ∧ trf M M1) (by
    rintro m s ⟨j, M', hm, rfl, h1, h2, h3⟩
    have hfj := hfb j
    have e8 : M' 62 8 = nI (fq L R S j) := by
      obtain ⟨y, q1, q2, q3⟩ := h1
      rw [q1.2.2.2.2.2.1, q3]
      rfl
    unfold zf_142_H19
    dsimp only
    by_cases e : j < k
    · rw [if_pos (nI_lt e (by omega))]
      by_cases e0 : fq L R S j = 0
      · left
        obtain ⟨M2, p1, p2, p3⟩ := trf_pass hO hLC hr hR (show now S + j < 239976 by omega) h1 h2
        refine ⟨m - 1, (nI (j + 1), M2), by omega, ?_, j + 1, M2, by omega, rfl, p2, p3, fun s hs => ?_⟩
        · rw [if_pos (show M' 62 8 = 0 by rw [e8, e0]; rfl), p1, Option.bind_some, nI_1]
        · by_cases z : s = j
          · rw [z]; exact e0
          · exact h3 s (by omega)
      · right
        rw [if_neg (show ¬ M' 62 8 = 0 by rw [e8]; exact nI_ne0 (by omega) (by omega))]
        rcases low M' h2 j (by omega) h1 with hl | hl
        · exact ⟨_, by rw [hl]; rfl, M', rfl, h2⟩
        · exact absurd (Or.inr ⟨e0, h3⟩) hl
    · have e : j = k := by omega
      subst e
      right
      rw [if_neg (nI_nlt (Nat.le_refl _) (by omega))]
      rcases low M' h2 j (Nat.le_refl _) h1 with hl | hl
      · exact ⟨_, by rw [hl]; rfl, M', rfl, h2⟩
      · refine absurd ?_ hl
        by_cases e0 : fq L R S j = 0
        · exact Or.inl ⟨e0, rfl⟩
        · exact Or.inr ⟨e0, h3⟩) k (nI 0, M0) ⟨0, M0, by omega, rfl, b2, fun a ha => b3 a (by omega), fun s hs => by omega⟩
  have hD1 : jD 80 S M1 := jD_of hD (y3 80 (by omega))
  have hr1 : jRo R M1 := jRo_of hr (y3 36 (by omega)) (y3 98 (by omega)) (y3 35 (by omega)) (y3 97 (by omega))
  have hL1 : lwD L M1 := lwD_of hLD (fun a g1 g2 => y3 a (by omega)) (by rw [y3 79 (by omega)])
  obtain ⟨M2, M3, M4, t1, t2, t3, ⟨y, q1, q2, q3⟩, t4, t5, t6, t7⟩ := jd_try hO hL1 hr1 hD1 hR hk hnow
  obtain ⟨k1, k2⟩ := jInv_try h hC hR hT y3 t5 t6 t7
  refine ⟨if (sX L R S k).2.1 = 6 then (-2) else nI (sX L R S k).2.1, M1, M4, ?_, y3 0 (by omega), ?_, k1, k2⟩
  · rw [if_neg c, b1, Option.bind_some]
    exact y1
  · rw [if_neg c, t1, Option.bind_some, t2, Option.bind_some, t3, Option.bind_some, t4 79 (by decide), q1.2.2.1]
    have h6 := q1.2.2.2.1
    unfold ef
    by_cases c6 : (sX L R S k).2.1 = 6
    · rw [if_pos c6, if_pos rfl, if_pos c6]
    · rw [if_neg c6, if_neg (by rw [jn_m1 (by omega)]; exact id), if_neg c6]
