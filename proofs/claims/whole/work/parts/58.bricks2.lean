/-! bricks -/
theorem jsum_head (f : Nat → Nat) (n : Nat) : jsum f (n + 1) = f 0 + jsum (fun k => f (k + 1)) n := by
  have := jsum_split f 1 n
  rw [Nat.add_comm 1 n] at this
  rw [this]
  have e : jsum f 1 = f 0 := by simp [jsum]
  rw [e]
  congr 1
  apply jsum_congr
  intro k _
  rw [Nat.add_comm]
theorem lsum_jsum : ∀ v : List Nat, lsum v = jsum (fun a => v.getD a 0) v.length
  | [] => rfl
  | x :: r => by
    rw [List.length_cons, jsum_head]
    simp only [lsum, List.getD_cons_zero, List.getD_cons_succ]
    rw [lsum_jsum r]
theorem smz_jsum (x : Nat) : ∀ L v : List Nat, v.length = L.length → smz x L v = jsum (fun b => if x &&& L.getD b 0 = 0 then v.getD b 0 else 0) L.length
  | [], [], _ => rfl
  | [], _ :: _, h => by simp at h
  | _ :: _, [], h => by simp at h
  | y :: L, c :: v, h => by
    rw [List.length_cons, jsum_head]
    simp only [smz, List.getD_cons_zero, List.getD_cons_succ]
    rw [smz_jsum x L v (by simpa using h)]
theorem lvl_len (L v : List Nat) : (lvl L v).length = L.length := by simp [lvl]
theorem lvl_at (L v : List Nat) {a : Nat} (ha : a < L.length) : (lvl L v).getD a 0 = smz (L.getD a 0) L v := by
  simp [lvl, List.getD_eq_getElem?_getD, ha]
theorem getD_app2 (L : List Nat) (x k : Nat) (hk : k < L.length + 1) : (L ++ [x]).getD k 0 = if k = L.length then x else L.getD k 0 := getD_app L x k hk
/-- rows in the class's memory -/
def rwC (L : List Nat) (M : jb_Mi) : Prop := M 73 1 = nI L.length ∧ ∀ a, a < L.length → M 74 a = nI (L.getD a 0)
theorem rwC_put {L : List Nat} {M : jb_Mi} (h : rwC L M) (x : Nat) : rwC (L ++ [x]) (jb_up (jb_up M 74 L.length (nI x)) 73 1 (nI (L.length + 1))) := by
  refine ⟨by simp [jb_up_at], fun k hk => ?_⟩
  have hk' : k < L.length + 1 := by simpa using hk
  rw [getD_app2 L x k hk', jb_up_off (show (74 : Nat) ≠ 73 by decide), jb_up_at]
  by_cases c : k = L.length
  · rw [if_pos c, if_pos ⟨rfl, c⟩]
  · rw [if_neg c, if_neg (fun q => c q.2)]; exact h.2 k (by omega)
theorem lyI_b {w : Nat} (hw : w ≤ 16) : ∀ n s to lf, to ≤ 20 → lf < 256 → (lyI w n s to lf).2.1 ≤ 20 ∧ (lyI w n s to lf).2.2 < 256
  | 0, s, to, lf, h1, h2 => ⟨h1, h2⟩
  | n + 1, s, to, lf, h1, h2 => by
    by_cases c : to < w
    · have e : lyI w (n + 1) s to lf = lyI w n (if to + (2 + lf % 2) < w then s ||| 2 ^ (to + (2 + lf % 2)) else s) (to + (2 + lf % 2)) (lf / 2) := if_pos c
      rw [e]
      exact lyI_b hw n _ _ _ (by omega) (by omega)
    · have e : lyI w (n + 1) s to lf = (s, to, lf) := if_neg c
      rw [e]
      exact ⟨h1, h2⟩
theorem jc_in {w k : Nat} (hw : w ≤ 16) (M : jb_Mi) {x : (Int32 × jb_Mi) ⊕ jb_Mi} : ∀ n s to lf, n ≤ 8 → to ≤ 20 → lf < 256 → zf_56_J78 (nI w) (nI k) (nI (lyI w n s to lf).1) (nI (lyI w n s to lf).2.1) (nI (lyI w n s to lf).2.2) M = some x → jb_lp (zf_56_H25 (nI w) (nI k) M) (nI s, nI to, nI lf, nI (8 - n)) = some x
  | 0, s, to, lf, _, _, _, h => by
    refine jb_lp_inr ?_
    unfold zf_56_H25
    dsimp only
    rw [if_neg (show ¬ nI (8 - 0) < (8 : Int32) by decide), show zf_56_J78 (nI w) (nI k) (nI s) (nI to) (nI lf) M = some x from h]
    rfl
  | n + 1, s, to, lf, hn, h1, h2, h => by
    have c8 : nI (8 - (n + 1)) < (8 : Int32) := nI_lt (b := 8) (by omega) (by decide)
    by_cases c : to < w
    · have e : lyI w (n + 1) s to lf = lyI w n (if to + (2 + lf % 2) < w then s ||| 2 ^ (to + (2 + lf % 2)) else s) (to + (2 + lf % 2)) (lf / 2) := if_pos c
      rw [e] at h
      have st : zf_56_H25 (nI w) (nI k) M (nI s, nI to, nI lf, nI (8 - (n + 1))) = some (.inl (nI (if to + (2 + lf % 2) < w then s ||| 2 ^ (to + (2 + lf % 2)) else s), nI (to + (2 + lf % 2)), nI (lf / 2), nI (8 - n))) := by
        have a0 : nI lf &&& 1 = nI (lf % 2) := by
          have := jn_and lf 1
          rw [Nat.and_one_is_mod] at this
          exact this
        have a1 : nI to + (2 + (nI lf &&& 1)) = nI (to + (2 + lf % 2)) := by
          rw [a0, show (2 : Int32) + nI (lf % 2) = nI (2 + lf % 2) from nI_add 2 _, nI_add]
        have a2 : nI lf >>> ((1 : Int32) &&& 31) = nI (lf / 2) := jn_shr (k := 1) (by omega) (by decide)
        unfold zf_56_H25 zf_56_J70
        dsimp only
        rw [if_pos c8, if_pos (nI_lt c (by omega)), a1, a2, nI_1, show 8 - (n + 1) + 1 = 8 - n by omega]
        by_cases q : to + (2 + lf % 2) < w
        · rw [if_pos q, if_pos (nI_lt q (by omega)), jn_shl _ (by omega), jn_or]
        · rw [if_neg q, if_neg (nI_nlt (by omega) (by omega)), jn_or0]
      rw [jb_lp_inl st]
      exact jc_in hw M n _ _ _ (by omega) (by omega) (by omega) h
    · have e : lyI w (n + 1) s to lf = (s, to, lf) := if_neg c
      rw [e] at h
      refine jb_lp_inr ?_
      unfold zf_56_H25
      dsimp only
      rw [if_pos c8, if_neg (nI_nlt (by omega) (by omega)), show zf_56_J78 (nI w) (nI k) (nI s) (nI to) (nI lf) M = some x from h]
      rfl
theorem jc_lyrow {w k : Nat} (hw : w ≤ 16) (hk : k < 256) {L : List Nat} {M : jb_Mi} (hL : rwC L M) (hlen : (L ++ lyR w k).length ≤ 40) : ∃ M1, zf_56_H7 (nI w) (nI k, M) = some (.inl (nI (k + 1), M1)) ∧ (∀ a, a ≠ 73 → a ≠ 74 → M1 a = M a) ∧ rwC (L ++ lyR w k) M1 := by
  obtain ⟨b1, b2⟩ := lyI_b hw 8 0 0 k (by omega) hk
  have go : ∀ x, zf_56_J78 (nI w) (nI k) (nI (lyI w 8 0 0 k).1) (nI (lyI w 8 0 0 k).2.1) (nI (lyI w 8 0 0 k).2.2) M = some x → zf_56_H7 (nI w) (nI k, M) = some x := by
    intro x h
    unfold zf_56_H7
    dsimp only
    rw [if_pos (show nI k < (256 : Int32) from nI_lt (b := 256) hk (by decide))]
    exact jc_in hw M 8 0 0 k (by omega) (by omega) hk h
  unfold lyR at hlen ⊢
  generalize lyI w 8 0 0 k = y at b1 b2 go hlen ⊢
  obtain ⟨s, to, lf⟩ := y
  dsimp only at b1 b2 go hlen ⊢
  by_cases c1 : to = w
  · by_cases c2 : lf = 0
    · rw [if_pos ⟨c1, c2⟩] at hlen ⊢
      have hl : L.length < 40 := by
        rw [List.length_append] at hlen
        exact hlen
      refine ⟨_, go _ ?_, fun a q1 q2 => by rw [jb_up_off q1, jb_up_off q2], rwC_put hL s⟩
      unfold zf_56_J78 zf_56_J118
      rw [if_pos (by rw [c1]), if_pos (by rw [c2]; rfl), hL.1, if_pos (show nI L.length < 40 from nI_lt (b := 40) hl (by decide)), jn_gd hl (by decide), nI_clamp (by omega), jb_up_off (show (73 : Nat) ≠ 74 by decide), hL.1, nI_1, nI_1]
    · rw [if_neg (fun z => c2 z.2), List.append_nil]
      refine ⟨M, go _ ?_, fun _ _ _ => rfl, hL⟩
      unfold zf_56_J78 zf_56_J118
      rw [if_pos (by rw [c1]), if_neg (show ¬ nI lf = 0 from fun z => c2 ((nI_eq (b := 0) (by omega) (by decide)).mp z)), nI_1]
  · rw [if_neg (fun z => c1 z.1), List.append_nil]
    refine ⟨M, go _ ?_, fun _ _ _ => rfl, hL⟩
    unfold zf_56_J78 zf_56_J118
    rw [if_neg (fun z => c1 ((nI_eq (by omega) (by omega)).mp z)), nI_1]
theorem jc_lay {w : Nat} (hw : w ≤ 16) : ∀ (n k : Nat) (L : List Nat) (M : jb_Mi), n + k = 256 → rwC L M → (L ++ lyN w n k).length ≤ 40 → ∃ M1, jb_lp (zf_56_H7 (nI w)) (nI k, M) = some M1 ∧ (∀ a, a ≠ 73 → a ≠ 74 → M1 a = M a) ∧ rwC (L ++ lyN w n k) M1
  | 0, k, L, M, hk, hL, _ => by
    refine ⟨M, jb_lp_inr ?_, fun _ _ _ => rfl, ?_⟩
    · unfold zf_56_H7
      dsimp only
      rw [if_neg (show ¬ nI k < (256 : Int32) from nI_nlt (b := 256) (by omega) (by omega))]
    · show rwC (L ++ []) M
      rw [List.append_nil]
      exact hL
  | n + 1, k, L, M, hk, hL, hlen => by
    have e : lyN w (n + 1) k = lyR w k ++ lyN w n (k + 1) := rfl
    rw [e, ← List.append_assoc] at hlen ⊢
    obtain ⟨M1, a1, a2, a3⟩ := jc_lyrow hw (show k < 256 by omega) hL (by rw [List.length_append] at hlen; omega)
    obtain ⟨M2, b1, b2, b3⟩ := jc_lay hw n (k + 1) (L ++ lyR w k) M1 (by omega) a3 hlen
    exact ⟨M2, by rw [jb_lp_inl a1]; exact b1, fun a q1 q2 => by rw [b2 a q1 q2, a2 a q1 q2], b3⟩
theorem and0 {x y : Nat} (hx : x < 65536) : (nI x &&& nI y = 0) = (x &&& y = 0) := by
  have : x &&& y ≤ x := Nat.and_le_left
  rw [jn_and, jn_z32 (by omega)]
def wyC (c : Nat) (v : List Nat) (n : Nat) (N : jb_Ml) : Prop := ∀ a, a < n → N c a = lN (v.getD a 0)
theorem jb_cl8_at (N : jb_Ml) (f t n a j : Nat) : jb_cl8 N f t 0 0 n a j = if a = t ∧ j < n then N f j else N a j := by
  unfold jb_cl8 va_cpy
  by_cases h : a = t
  · subst h
    simp only [if_true, true_and, Nat.zero_le, Nat.zero_add, Nat.sub_zero]
  · simp [h]
theorem jc_level {L v : List Nat} {M : jb_Mi} {N : jb_Ml} (hl : L.length ≤ 40) (hv : v.length = L.length) (hb : ∀ a, L.getD a 0 < 65536) (hM : rwC L M) (hN : wyC 75 v L.length N) : ∃ N1, zf_57 M N = some N1 ∧ wyC 75 (lvl L v) L.length N1 := by
  unfold zf_57
  obtain ⟨N1, h1, h2⟩ := jb_inv (f := zf_57_H2 M) (fun m s => ∃ a N', a + m = L.length ∧ s = (nI a, N') ∧ wyC 75 v L.length N' ∧ wyC 76 (lvl L v) a N') (fun N1 => wyC 75 (lvl L v) L.length N1) (by
    rintro m s ⟨a, N', hm, rfl, h1, h2⟩
    unfold zf_57_H2
    dsimp only
    rw [hM.1]
    by_cases e : a < L.length
    · refine Or.inl ⟨m - 1, (nI (a + 1), jb_ul N' 76 a (lN (smz (L.getD a 0) L v))), by omega, ?_, a + 1, jb_ul N' 76 a (lN (smz (L.getD a 0) L v)), by omega, rfl, ?_, ?_⟩
      · rw [if_pos (nI_lt e (by omega)), smz_jsum _ L v hv]
        refine jb_forx (f := zf_57_H15 (nI a) M N') (fun b => (lN (jsum (fun b => if L.getD a 0 &&& L.getD b 0 = 0 then v.getD b 0 else 0) b), nI b)) L.length ?_ ?_
        · intro b hbl
          unfold zf_57_H15 zf_57_J53
          dsimp only
          rw [hM.1, if_pos (nI_lt hbl (by omega)), jn_gd (by omega) (by decide), jn_gd (by omega) (by decide), nI_clamp (by omega), nI_clamp (by omega), hM.2 a e, hM.2 b hbl, jn_gd (by omega) (by decide), h1 b hbl, nI_1]
          simp only [and0 (hb a), jsum]
          by_cases q : L.getD a 0 &&& L.getD b 0 = 0
          · rw [if_pos q, if_pos q, lN_add]
          · rw [if_neg q, if_neg q, Nat.add_zero]
            congr 3
            exact Int64.add_zero _
        · unfold zf_57_H15
          dsimp only
          rw [hM.1, if_neg (nI_nlt (Nat.le_refl _) (by omega)), jn_gd (by omega) (by decide), nI_clamp (by omega), nI_1]
      · intro b hb'
        rw [jb_ul_n (by decide)]
        exact h1 b hb'
      · intro b hb'
        rw [jb_ul_at]
        by_cases q : b = a
        · rw [if_pos ⟨rfl, q⟩, q, lvl_at L v e]
        · rw [if_neg (fun z => q z.2)]
          exact h2 b (by omega)
    · have e : a = L.length := by omega
      subst e
      refine Or.inr ⟨jb_cl8 N' 76 75 0 0 L.length, ?_, ?_⟩
      · rw [if_neg (nI_nlt (Nat.le_refl _) (by omega))]
        unfold jb_gc
        rw [nI_clamp (by omega), if_pos ⟨by decide, by decide, nI_pos (by omega), by show 0 + L.length ≤ 40; omega, by show 0 + L.length ≤ 40; omega⟩]
      · intro a ha
        rw [jb_cl8_at, if_pos ⟨rfl, ha⟩]
        exact h2 a ha) L.length (nI 0, N) ⟨0, N, by omega, rfl, hN, fun a ha => by omega⟩
  exact ⟨N1, h1, h2⟩
theorem jc_walls {w h : Nat} (hw1 : 1 ≤ w) (hw : w ≤ 16) (hh1 : 1 ≤ h) (hh : h ≤ 6) (M : jb_Mi) (N : jb_Ml) : ∃ M1 N1, zf_58 (nI w) (nI h) M N = some (lN (lsum (vC w (h - 1))), M1, N1) ∧ ∀ a, a ≠ 73 → a ≠ 74 → M1 a = M a := by
  have hlay := xC_ok w (by omega) hw1
  have hlen := (xl_ok w (by omega)).2
  have hbd : ∀ w, w < 17 → ∀ a, a < 40 → (xC w).getD a 0 < 65536 := by decide +kernel
  have hb : ∀ a, (xC w).getD a 0 < 65536 := by
    intro a
    by_cases c : a < 40
    · exact hbd w (by omega) a c
    · have : (xC w).getD a 0 = 0 := by
        rw [List.getD_eq_getElem?_getD, List.getElem?_eq_none (by omega)]
        rfl
      omega
  have hvl : ∀ k, k ≤ 5 → (vC w k).length = (xC w).length := by
    intro k
    induction k with
    | zero => intro _; rw [← vC_0 w (by omega)]; simp
    | succ k ih => intro hk; rw [← vC_s hw1 hw k (by omega), lvl_len]
  obtain ⟨M1, l1, l2, l3⟩ := jc_lay hw 256 0 [] (jb_up M 73 1 0) rfl ⟨by rw [jb_up_at, if_pos ⟨rfl, rfl⟩]; rfl, fun a ha => by simp at ha⟩ (by rw [hlay]; exact hlen)
  rw [hlay, List.nil_append] at l3
  unfold zf_58
  rw [show zf_56 (nI w) M = some M1 from l1, Option.bind_some]
  have fin : ∀ N', wyC 75 (vC w (h - 1)) (xC w).length N' → jb_lp (zf_58_H50 M1 N') (0, 0) = some (lN (lsum (vC w (h - 1))), M1, N') := by
    intro N' hN'
    rw [lsum_jsum, hvl (h - 1) (by omega)]
    refine jb_forx (f := zf_58_H50 M1 N') (fun b => (lN (jsum (fun a => (vC w (h - 1)).getD a 0) b), nI b)) (xC w).length ?_ ?_
    · intro b hbl
      unfold zf_58_H50
      dsimp only
      rw [l3.1, if_pos (nI_lt hbl (by omega)), jn_gd (by omega) (by decide), nI_clamp (by omega), hN' b hbl, lN_add, nI_1]
      rfl
    · unfold zf_58_H50
      dsimp only
      rw [l3.1, if_neg (nI_nlt (Nat.le_refl _) (by omega))]
  have lev : ∀ N', wyC 75 (vC w 0) (xC w).length N' → ∃ N1, jb_lp (zf_58_H30 (nI h) M1) (1, N') = some (lN (lsum (vC w (h - 1))), M1, N1) := by
    intro N' hN'
    obtain ⟨x, y1, N1, rfl⟩ := jb_inv (f := zf_58_H30 (nI h) M1) (fun m s => ∃ k N', k + m = h - 1 ∧ s = (nI (k + 1), N') ∧ wyC 75 (vC w k) (xC w).length N') (fun x => ∃ N1, x = (lN (lsum (vC w (h - 1))), M1, N1)) (by
      rintro m s ⟨k, N', hm, rfl, h1⟩
      unfold zf_58_H30
      dsimp only
      by_cases e : k < h - 1
      · obtain ⟨N2, z1, z2⟩ := jc_level hlen (hvl k (by omega)) hb l3 h1
        rw [vC_s hw1 hw k (by omega)] at z2
        exact Or.inl ⟨m - 1, (nI (k + 2), N2), by omega, by rw [if_pos (nI_lt (show k + 1 < h by omega) (by omega)), z1, Option.bind_some, nI_1], k + 1, N2, by omega, rfl, z2⟩
      · have e : k = h - 1 := by omega
        subst e
        refine Or.inr ⟨_, ?_, N', rfl⟩
        rw [if_neg (nI_nlt (by omega) (by omega)), fin N' h1]
        rfl) (h - 1) (nI 1, N') ⟨0, N', by omega, rfl, hN'⟩
    exact ⟨N1, y1⟩
  obtain ⟨x, y1, N1, rfl⟩ := jb_inv (f := zf_58_H7 (nI h) M1) (fun m s => ∃ a N', a + m = (xC w).length ∧ s = (nI a, N') ∧ ∀ b, b < a → N' 75 b = lN 1) (fun x => ∃ N1, x = (lN (lsum (vC w (h - 1))), M1, N1)) (by
    rintro m s ⟨a, N', hm, rfl, h1⟩
    unfold zf_58_H7
    dsimp only
    rw [l3.1]
    by_cases e : a < (xC w).length
    · refine Or.inl ⟨m - 1, (nI (a + 1), jb_ul N' 75 a 1), by omega, by rw [if_pos (nI_lt e (by omega)), jn_gd (by omega) (by decide), nI_clamp (by omega), nI_1], a + 1, jb_ul N' 75 a 1, by omega, rfl, fun b hb' => ?_⟩
      rw [jb_ul_at]
      by_cases q : b = a
      · rw [if_pos ⟨rfl, q⟩]; rfl
      · rw [if_neg (fun z => q z.2)]
        exact h1 b (by omega)
    · have e : a = (xC w).length := by omega
      obtain ⟨N2, z1⟩ := lev N' (fun b hb' => by
        rw [h1 b (by omega), ← vC_0 w (by omega)]
        simp [List.getD_eq_getElem?_getD, hb'])
      refine Or.inr ⟨_, ?_, N2, rfl⟩
      rw [if_neg (nI_nlt (by omega) (by omega)), z1]
      rfl) (xC w).length (nI 0, N) ⟨0, N, by omega, rfl, fun b hb' => by omega⟩
  exact ⟨M1, N1, y1, fun a q1 q2 => by rw [l2 a q1 q2, jb_up_off q1]⟩
theorem jd_isRow {s w : Nat} (hs : s < 65536) (hw : w ≤ 16) : ∀ n at' fr, at' + n = w + 1 → fr ≤ at' → jb_lp (zf_259_H4 (nI s) (nI w)) (nI fr, nI at') = some (isr s w n at' fr)
  | 0, at', fr, h, hf => by
    refine jb_lp_inr ?_
    unfold zf_259_H4
    exact if_pos (nI_lt (by omega) (by omega))
  | n + 1, at', fr, h, hf => by
    have j25 : zf_259_J25 (nI s) (nI w) (nI fr) (nI at') = if (Nat.beq (at' - fr) 2 || Nat.beq (at' - fr) 3) = true then some (.inl (nI at', nI (at' + 1))) else some (.inr false) := by
      unfold zf_259_J25 zf_259_J41 zf_259_J43
      rw [pk_sub hf, nI_1]
      simp only [show (nI (at' - fr) = 2) = (at' - fr = 2) from jn_eq (b := 2) (by omega) (by decide), show (nI (at' - fr) = 3) = (at' - fr = 3) from jn_eq (b := 3) (by omega) (by decide), Bool.or_eq_true, Nat.beq_eq]
      by_cases c1 : at' - fr = 2
      · rw [if_pos c1, if_pos (Or.inl c1)]
      · rw [if_neg c1]
        by_cases c2 : at' - fr = 3
        · rw [if_pos c2, if_pos (Or.inr c2)]
        · rw [if_neg c2, if_neg (fun z => z.elim c1 c2)]
    have fin : zf_259_H4 (nI s) (nI w) (nI fr, nI at') = zf_259_J25 (nI s) (nI w) (nI fr) (nI at') → jb_lp (zf_259_H4 (nI s) (nI w)) (nI fr, nI at') = some (bif (Nat.beq (at' - fr) 2 || Nat.beq (at' - fr) 3) then isr s w n (at' + 1) at' else false) := by
      intro e
      cases c : (Nat.beq (at' - fr) 2 || Nat.beq (at' - fr) 3)
      · rw [jb_lp_inr (x := false) (by rw [e, j25, c]; rfl)]; rfl
      · rw [jb_lp_inl (s' := (nI at', nI (at' + 1))) (by rw [e, j25, c]; rfl), jd_isRow hs hw n (at' + 1) at' (by omega) (by omega)]; rfl
    simp only [isr]
    by_cases c : at' < w
    · have cb : Nat.blt at' w = true := by rw [Nat.blt_eq]; exact c
      rw [cb, Bool.true_and]
      cases cs : s.testBit at'
      · have e : zf_259_H4 (nI s) (nI w) (nI fr, nI at') = some (.inl (nI fr, nI (at' + 1))) := by
          unfold zf_259_H4 zf_259_J43
          dsimp only
          rw [if_neg (nI_nlt (by omega) (by omega)), if_pos (nI_lt c (by omega)), jn_has (by omega) (by omega), cs, jb_no, nI_1]
        rw [jb_lp_inl e, jd_isRow hs hw n (at' + 1) fr (by omega) (by omega)]
        rfl
      · refine fin ?_
        unfold zf_259_H4
        dsimp only
        rw [if_neg (nI_nlt (by omega) (by omega)), if_pos (nI_lt c (by omega)), jn_has (by omega) (by omega), cs, jb_yes]
    · have cb : Nat.blt at' w = false := by
        cases q : Nat.blt at' w
        · rfl
        · rw [Nat.blt_eq] at q; exact absurd q c
      rw [cb, Bool.false_and]
      refine fin ?_
      unfold zf_259_H4
      dsimp only
      rw [if_neg (nI_nlt (by omega) (by omega)), if_neg (nI_nlt (by omega) (by omega))]
