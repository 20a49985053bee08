/-! bricks, in the reference -/
def rwD (L : List Nat) (M : jb_Mi) : Prop := ∀ a, a < L.length → M 109 a = nI (L.getD a 0)
theorem rr_len (w : Nat) : ∀ d s, (rr w (d + 1) s).length = (rr w d s).length + (rr w d (s + 2 ^ d)).length := by
  intro d s
  have e : rr w (d + 1) s = rr w d s ++ rr w d (s + 2 ^ d) := rfl
  rw [e, List.length_append]
/-- many seams at once: the loop goes on behind them, with those that are rows -/
theorem jd_rows2 {w : Nat} (hw : w ≤ 16) (h : Int32) : ∀ (d s : Nat) (L : List Nat) (M : jb_Mi) (N : jb_Ml), s + 2 ^ d ≤ 2 ^ (w - 1) → 1 ≤ w → (L ++ rr w d s).length ≤ 64 → rwD L M → (∀ b, b < L.length → N 110 b = lN 1) → ∃ M1 N1, jb_lp (zf_260_H29 (nI w) h) (nI L.length, nI (2 * s), M, N) = jb_lp (zf_260_H29 (nI w) h) (nI (L ++ rr w d s).length, nI (2 * (s + 2 ^ d)), M1, N1) ∧ (∀ a, a ≠ 109 → M1 a = M a) ∧ rwD (L ++ rr w d s) M1 ∧ ∀ b, b < (L ++ rr w d s).length → N1 110 b = lN 1
  | 0, s, L, M, N, hs, hw1, hl, hM, hN => by
    have hp : 2 ^ w = 2 * 2 ^ (w - 1) := by
      rw [← Nat.pow_succ']
      congr 1
      omega
    have hp16 : 2 ^ (w - 1) ≤ 2 ^ 15 := Nat.pow_le_pow_right (by decide) (by omega)
    have hlt : 2 * s < 65536 := by omega
    have er : rr w 0 s = bif isr (2 * s) w w 1 0 then [2 * s] else [] := rfl
    have hrow : zf_259 (nI (2 * s)) (nI w) = some (isr (2 * s) w w 1 0) := by
      unfold zf_259
      rw [show ((0 : Int32), (1 : Int32)) = (nI 0, nI 1) from rfl]
      exact jd_isRow hlt hw w 1 0 (by omega) (by omega)
    rw [er] at hl ⊢
    have hstep : zf_260_H29 (nI w) h (nI L.length, nI (2 * s), M, N) = if isr (2 * s) w w 1 0 = true then jb_gd (nI L.length) 64 (jb_gd (nI L.length) 64 (some (.inl (nI (L.length + 1), nI (2 * (s + 1)), jb_up M 109 (nI L.length).toNatClampNeg (nI (2 * s)), jb_ul N 110 (nI L.length).toNatClampNeg 1)))) else some (.inl (nI L.length, nI (2 * (s + 1)), M, N)) := by
      unfold zf_260_H29 zf_260_J68
      dsimp only
      rw [jn_shl w (by omega), if_pos (nI_lt (show 2 * s < 2 ^ w by omega) (by omega)), hrow, Option.bind_some, nI_1, show nI (2 * s) + 2 = nI (2 * s + 2) from jn_addr _ 2, show 2 * s + 2 = 2 * (s + 1) by omega]
      cases isr (2 * s) w w 1 0
      · rw [jb_no]; rfl
      · rw [jb_yes]; rfl
    cases c : isr (2 * s) w w 1 0
    · rw [c] at hstep
      refine ⟨M, N, ?_, fun _ _ => rfl, by simpa using hM, by simpa using hN⟩
      rw [jb_lp_inl (s' := (nI L.length, nI (2 * (s + 1)), M, N)) (by rw [hstep]; rfl)]
      simp
    · rw [c] at hstep hl
      have hlL : L.length < 64 := by
        simp only [cond_true, List.length_append, List.length_cons, List.length_nil] at hl
        omega
      rw [if_pos rfl, jn_gd hlL (by decide), jn_gd hlL (by decide), nI_clamp (by omega)] at hstep
      refine ⟨jb_up M 109 L.length (nI (2 * s)), jb_ul N 110 L.length 1, ?_, fun a ha => jb_up_off ha, ?_, ?_⟩
      · rw [jb_lp_inl hstep]
        simp
      · intro k hk
        simp only [cond_true] at hk ⊢
        have hk' : k < L.length + 1 := by simpa using hk
        rw [getD_app2 L (2 * s) k hk', jb_up_at]
        by_cases q : k = L.length
        · rw [if_pos q, if_pos ⟨rfl, q⟩]
        · rw [if_neg q, if_neg (fun z => q z.2)]; exact hM k (by omega)
      · intro k hk
        simp only [cond_true] at hk
        have hk' : k < L.length + 1 := by simpa using hk
        rw [jb_ul_at]
        by_cases q : k = L.length
        · rw [if_pos ⟨rfl, q⟩]; rfl
        · rw [if_neg (fun z => q z.2)]; exact hN k (by omega)
  | d + 1, s, L, M, N, hs, hw1, hl, hM, hN => by
    have er : rr w (d + 1) s = rr w d s ++ rr w d (s + 2 ^ d) := rfl
    have e2 : 2 ^ (d + 1) = 2 ^ d + 2 ^ d := by rw [Nat.pow_succ]; omega
    have hp0 : 0 < 2 ^ d := Nat.pow_pos (by decide)
    rw [er, ← List.append_assoc] at hl ⊢
    obtain ⟨M1, N1, a1, a2, a3, a4⟩ := jd_rows2 hw h d s L M N (by omega) hw1 (by rw [List.length_append] at hl; omega) hM hN
    obtain ⟨M2, N2, b1, b2, b3, b4⟩ := jd_rows2 hw h d (s + 2 ^ d) (L ++ rr w d s) M1 N1 (by omega) hw1 hl a3 a4
    refine ⟨M2, N2, ?_, fun a ha => by rw [b2 a ha, a2 a ha], b3, b4⟩
    rw [a1, b1, e2, ← Nat.add_assoc]
theorem jd_level {L v : List Nat} {M : jb_Mi} {N : jb_Ml} (hl : L.length ≤ 40) (hv : v.length = L.length) (hb : ∀ a, L.getD a 0 < 65536) (hM : rwD L M) (hN : wyC 110 v L.length N) (x2 : Int32) (k : Nat) : ∃ N1, jb_lp (zf_260_H89 x2 (nI L.length) (nI k) M) (0, N) = some (.inl (nI (k + 1), N1)) ∧ wyC 110 (lvl L v) L.length N1 := by
  obtain ⟨x, h1, N1, rfl, h2⟩ := jb_inv (f := zf_260_H89 x2 (nI L.length) (nI k) M) (fun m s => ∃ a N', a + m = L.length ∧ s = (nI a, N') ∧ wyC 110 v L.length N' ∧ wyC 111 (lvl L v) a N') (fun x => ∃ N1, x = .inl (nI (k + 1), N1) ∧ wyC 110 (lvl L v) L.length N1) (by
    rintro m s ⟨a, N', hm, rfl, h1, h2⟩
    unfold zf_260_H89
    dsimp only
    by_cases e : a < L.length
    · left
      rw [if_pos (nI_lt e (by omega)), jn_gd (by omega) (by decide), nI_clamp (by omega)]
      obtain ⟨x, y1, N2, rfl, y2, y3, y4⟩ := jb_inv (f := zf_260_H106 x2 (nI L.length) (nI k) (nI a) M) (fun m s => ∃ b N2, b + m = L.length ∧ s = (nI b, N2) ∧ wyC 110 v L.length N2 ∧ (∀ j, j ≠ a → N2 111 j = N' 111 j) ∧ N2 111 a = lN (jsum (fun b => if L.getD a 0 &&& L.getD b 0 = 0 then v.getD b 0 else 0) b)) (fun x => ∃ N2, x = .inl (nI (a + 1), N2) ∧ wyC 110 v L.length N2 ∧ (∀ j, j ≠ a → N2 111 j = N' 111 j) ∧ N2 111 a = lN (jsum (fun b => if L.getD a 0 &&& L.getD b 0 = 0 then v.getD b 0 else 0) L.length)) (by
        rintro m s ⟨b, N2, hm, rfl, y1, y2, y3⟩
        unfold zf_260_H106 zf_260_J152
        dsimp only
        by_cases eb : b < L.length
        · left
          rw [if_pos (nI_lt eb (by omega)), jn_gd (by omega) (by decide), jn_gd (by omega) (by decide), nI_clamp (by omega), nI_clamp (by omega), hM a e, hM b eb, jn_gd (by omega) (by decide), jn_gd (by omega) (by decide), jn_gd (by omega) (by decide), y1 b eb, y3, nI_1]
          simp only [and0 (hb a), lN_add]
          by_cases q : L.getD a 0 &&& L.getD b 0 = 0
          · refine ⟨m - 1, (nI (b + 1), jb_ul N2 111 a (lN (jsum (fun b => if L.getD a 0 &&& L.getD b 0 = 0 then v.getD b 0 else 0) b + v.getD b 0))), by omega, by rw [if_pos q], b + 1, jb_ul N2 111 a (lN (jsum (fun b => if L.getD a 0 &&& L.getD b 0 = 0 then v.getD b 0 else 0) b + v.getD b 0)), by omega, rfl, ?_, ?_, ?_⟩
            · intro j hj
              rw [jb_ul_n (by decide)]
              exact y1 j hj
            · intro j hj
              rw [jb_ul_at, if_neg (fun z => hj z.2)]
              exact y2 j hj
            · rw [jb_ul_at, if_pos ⟨rfl, rfl⟩]
              simp only [jsum]
              rw [if_pos q]
          · refine ⟨m - 1, (nI (b + 1), N2), by omega, by rw [if_neg q], b + 1, N2, by omega, rfl, y1, y2, ?_⟩
            rw [y3]
            simp only [jsum]
            rw [if_neg q, Nat.add_zero]
        · have eb : b = L.length := by omega
          subst eb
          refine Or.inr ⟨_, if_neg (nI_nlt (Nat.le_refl _) (by omega)), N2, ?_, y1, y2, y3⟩
          rw [nI_1]) L.length (nI 0, jb_ul N' 111 a 0) ⟨0, jb_ul N' 111 a 0, by omega, rfl, fun j hj => by rw [jb_ul_n (by decide)]; exact h1 j hj, fun j hj => by rw [jb_ul_at, if_neg (fun z => hj z.2)], by rw [jb_ul_at, if_pos ⟨rfl, rfl⟩]; rfl⟩
      refine ⟨m - 1, (nI (a + 1), N2), by omega, y1, a + 1, N2, by omega, rfl, y2, fun j hj => ?_⟩
      by_cases q : j = a
      · rw [q, y4, lvl_at L v e, smz_jsum _ L v hv]
      · rw [y3 j q]
        exact h2 j (by omega)
    · have e : a = L.length := by omega
      subst e
      right
      obtain ⟨x, y1, N2, rfl, y2⟩ := jb_inv (f := zf_260_H167 x2 (nI L.length) (nI k) M) (fun m s => ∃ b N2, b + m = L.length ∧ s = (nI b, N2) ∧ (∀ j, N2 111 j = N' 111 j) ∧ ∀ j, j < b → N2 110 j = N' 111 j) (fun x => ∃ N2, x = .inl (nI (k + 1), N2) ∧ ∀ j, j < L.length → N2 110 j = N' 111 j) (by
        rintro m s ⟨b, N2, hm, rfl, y1, y2⟩
        unfold zf_260_H167
        dsimp only
        by_cases eb : b < L.length
        · refine Or.inl ⟨m - 1, (nI (b + 1), jb_ul N2 110 b (N2 111 b)), by omega, by rw [if_pos (nI_lt eb (by omega)), jn_gd (by omega) (by decide), jn_gd (by omega) (by decide), nI_clamp (by omega), nI_1], b + 1, jb_ul N2 110 b (N2 111 b), by omega, rfl, fun j => by rw [jb_ul_n (by decide)]; exact y1 j, fun j hj => ?_⟩
          rw [jb_ul_at]
          by_cases q : j = b
          · rw [if_pos ⟨rfl, q⟩, y1, q]
          · rw [if_neg (fun z => q z.2)]
            exact y2 j (by omega)
        · have eb : b = L.length := by omega
          subst eb
          refine Or.inr ⟨_, if_neg (nI_nlt (Nat.le_refl _) (by omega)), N2, ?_, y2⟩
          rw [nI_1]) L.length (nI 0, N') ⟨0, N', by omega, rfl, fun _ => rfl, fun j hj => by omega⟩
      refine ⟨_, ?_, N2, rfl, fun j hj => by rw [y2 j hj]; exact h2 j hj⟩
      rw [if_neg (nI_nlt (Nat.le_refl _) (by omega)), show ((0 : Int32), N') = (nI 0, N') from rfl, y1]
      rfl) L.length (nI 0, N) ⟨0, N, by omega, rfl, hN, fun a ha => by omega⟩
  exact ⟨N1, h1, h2⟩
theorem jd_walls {w h : Nat} (hw1 : 1 ≤ w) (hw : w ≤ 16) (hh1 : 1 ≤ h) (hh : h ≤ 6) (M : jb_Mi) (N : jb_Ml) : ∃ M1 N1, jb_lp (zf_260_H29 (nI w) (nI h)) (0, 0, M, N) = some (lN (lsum (vR w (h - 1))), M1, N1) ∧ ∀ a, a ≠ 109 → M1 a = M a := by
  have hrow := xR_ok hw1 hw
  have hlen := (xl_ok w (by omega)).1
  have hbd : ∀ w, w < 17 → ∀ a, a < 40 → (xR w).getD a 0 < 65536 := by decide +kernel
  have hb : ∀ a, (xR w).getD a 0 < 65536 := by
    intro a
    by_cases c : a < 40
    · exact hbd w (by omega) a c
    · have : (xR w).getD a 0 = 0 := by
        rw [List.getD_eq_getElem?_getD, List.getElem?_eq_none (by omega)]
        rfl
      omega
  have hvl : ∀ k, k ≤ 5 → (vR w k).length = (xR w).length := by
    intro k
    induction k with
    | zero => intro _; rw [← vR_0 w (by omega)]; simp
    | succ k ih => intro hk; rw [← vR_s hw1 hw k (by omega), lvl_len]
  have hp : 2 ^ w = 2 * 2 ^ (w - 1) := by
    rw [← Nat.pow_succ']
    congr 1
    omega
  have hp16 : 2 ^ (w - 1) ≤ 2 ^ 15 := Nat.pow_le_pow_right (by decide) (by omega)
  obtain ⟨M1, N1, a1, a2, a3, a4⟩ := jd_rows2 hw (nI h) (w - 1) 0 [] M N (by omega) hw1 (by rw [hrow]; simp; omega) (fun a ha => by simp at ha) (fun a ha => by simp at ha)
  rw [hrow, List.nil_append] at a1 a3 a4
  rw [show ((0 : Int32), (0 : Int32), M, N) = (nI ([] : List Nat).length, nI (2 * 0), M, N) from rfl, a1, Nat.zero_add, ← hp]
  have fin : ∀ N', wyC 110 (vR w (h - 1)) (xR w).length N' → jb_lp (zf_260_H205 (nI (xR w).length) M1 N') (0, 0) = some (lN (lsum (vR w (h - 1))), M1, N') := by
    intro N' hN'
    rw [lsum_jsum, hvl (h - 1) (by omega)]
    refine jb_forx (f := zf_260_H205 (nI (xR w).length) M1 N') (fun b => (lN (jsum (fun a => (vR w (h - 1)).getD a 0) b), nI b)) (xR w).length ?_ ?_
    · intro b hbl
      unfold zf_260_H205
      dsimp only
      rw [if_pos (nI_lt hbl (by omega)), jn_gd (by omega) (by decide), nI_clamp (by omega), hN' b hbl, lN_add, nI_1]
      rfl
    · unfold zf_260_H205
      dsimp only
      rw [if_neg (nI_nlt (Nat.le_refl _) (by omega))]
  obtain ⟨x, y1, N2, rfl⟩ := jb_inv (f := zf_260_H80 (nI h) (nI (xR w).length) M1) (fun m s => ∃ k N', k + m = h - 1 ∧ s = (nI (k + 1), N') ∧ wyC 110 (vR w k) (xR w).length N') (fun x => ∃ N1, x = (lN (lsum (vR w (h - 1))), M1, N1)) (by
    rintro m s ⟨k, N', hm, rfl, h1⟩
    unfold zf_260_H80
    dsimp only
    by_cases e : k < h - 1
    · obtain ⟨N2, z1, z2⟩ := jd_level hlen (hvl k (by omega)) hb a3 h1 (nI h) (k + 1)
      rw [vR_s hw1 hw k (by omega)] at z2
      exact Or.inl ⟨m - 1, (nI (k + 2), N2), by omega, by rw [if_pos (nI_lt (show k + 1 < h by omega) (by omega))]; exact z1, k + 1, N2, by omega, rfl, z2⟩
    · have e : k = h - 1 := by omega
      subst e
      refine Or.inr ⟨_, ?_, N', rfl⟩
      rw [if_neg (nI_nlt (by omega) (by omega)), fin N' h1]
      rfl) (h - 1) (nI 1, N1) ⟨0, N1, by omega, rfl, fun b hb' => by
        rw [a4 b hb', ← vR_0 w (by omega)]
        simp [List.getD_eq_getElem?_getD, hb']⟩
  refine ⟨M1, N2, ?_, a2⟩
  refine jb_lp_inr ?_
  unfold zf_260_H29
  dsimp only
  rw [jn_shl w (by omega), if_neg (nI_nlt (Nat.le_refl _) (by omega)), show ((1 : Int32), N1) = (nI 1, N1) from rfl, y1]
  rfl
theorem ca_bricks {n : Nat} {M : jb_Mi} {N : jb_Ml} (hn : n < 512) (h : jInv n M N) (a1 a2 : Int32) : ∃ (r : Int64) (M1 : jb_Mi) (N1 : jb_Ml) (M2 : jb_Mi) (N2 : jb_Ml), zf_153 a1 a2 M N = some (r, M1, N1) ∧ M1 0 = M 0 ∧ zf_260 a1 a2 M1 N1 = some (r, M2, N2) ∧ M2 0 = M 0 ∧ jInv (n + 1) M2 N2 := by
  unfold zf_153 zf_260
  simp only [jn_b, jn_w]
  by_cases c1 : zf_23 a1 1 16 = false
  · exact ⟨_, M, N, M, N, if_pos c1, rfl, if_pos c1, rfl, jInv_off h (fun _ _ => rfl)⟩
  by_cases c2 : zf_23 a2 1 6 = false
  · exact ⟨_, M, N, M, N, (if_neg c1).trans (if_pos c2), rfl, (if_neg c1).trans (if_pos c2), rfl, jInv_off h (fun _ _ => rfl)⟩
  obtain ⟨w, hw1, hw, rfl⟩ := jn_in1 (x := a1) 1 16 (by decide) (by decide) c1
  obtain ⟨k, hk1, hk, rfl⟩ := jn_in1 (x := a2) 1 6 (by decide) (by decide) c2
  obtain ⟨M1, N1, u1, u2⟩ := jc_walls hw1 hw hk1 hk M N
  obtain ⟨M2, N2, v1, v2⟩ := jd_walls hw1 hw hk1 hk M1 N1
  refine ⟨lN (lsum (vC w (k - 1))), M1, N1, M2, N2, ?_, u2 0 (by decide) (by decide), ?_, ?_, ?_⟩
  · rw [if_neg c1, if_neg c2, u1]
    rfl
  · rw [if_neg c1, if_neg c2, v_sum w (by omega) (k - 1) (by omega)]
    exact v1
  · rw [v2 0 (by decide), u2 0 (by decide) (by decide)]
  · exact jInv_off h (fun a ha => by rw [v2 a (by unfold jfix jrel at ha; omega), u2 a (by unfold jfix jrel at ha; omega) (by unfold jfix jrel at ha; omega)])
