/-! felt, twoFelt -/
noncomputable def ftG (hit : Nat → Prop) (k : Nat) (a : Nat × Nat) : Nat × Nat := @ite _ (hit k) (Classical.propDecidable _) (a.1 + 1, if a.2 = 81 then k else a.2) a
noncomputable def ft (hit : Nat → Prop) (n : Nat) : Nat × Nat := itf (ftG hit) (0, 81) n
theorem ft_ok (hit : Nat → Prop) : ∀ n, n ≤ 81 → (ft hit n).1 ≤ n ∧ (ft hit n).2 ≤ 81 ∧ ((ft hit n).2 = 81 ∨ (ft hit n).2 < n)
  | 0, _ => ⟨Nat.le_refl _, Nat.le_refl _, Or.inl rfl⟩
  | n + 1, h => by
    obtain ⟨i1, i2, i3⟩ := ft_ok hit n (by omega)
    have e : ft hit (n + 1) = ftG hit n (ft hit n) := rfl
    rw [e]
    unfold ftG
    split
    · refine ⟨by dsimp only; omega, ?_, ?_⟩
      · dsimp only; split <;> omega
      · dsimp only; split <;> omega
    · omega
/-- the answer of both -/
noncomputable def ftA (hit : Nat → Prop) (w : Nat) : Int32 := if w = 0 then nI (ft hit 81).1 else if (ft hit 81).2 = 81 then (-2) else if w = 1 then nI ((ft hit 81).2 % 9) else nI ((ft hit 81).2 / 9)
noncomputable def ecd (x : Int32) (f : Nat) : Int32 := if f = 81 then x else nI f
theorem jd_feltIn {U : Nat → Int64} {w o wh n : Nat} (hw : w ≤ 99) (ho : o ≤ 99) (hwh : wh ≤ 2) (hn : n ≤ 81) {N : jb_Ml} (hN : ∀ c, c < 4 → N 108 c = U c) (M : jb_Mi) (hun : ∀ s, s < 81 → ∀ p p', p < n → p' < n → m2 U w o s p → m2 U w o s p' → p = p') : jb_lp (zf_248_H15 (nI w) (nI o) (nI wh) (nI n) M N) (0, (-2), 0) = some (ftA (fun s => ∃ p, p < n ∧ m2 U w o s p) wh, N) := by
  refine jb_itp (f := zf_248_H15 (nI w) (nI o) (nI wh) (nI n) M N) (fun (a : Nat × Nat) k => (nI a.1, ecd (-2) a.2, nI k)) (ftG (fun s => ∃ p, p < n ∧ m2 U w o s p)) (fun k a => a.1 ≤ k ∧ a.2 ≤ 81) (0, 81) 81 ⟨Nat.le_refl _, Nat.le_refl _⟩ ?_ ?_
  · intro k a hk ⟨q1, q2⟩
    refine ⟨?_, ?_⟩
    · unfold zf_248_H15
      dsimp only
      rw [if_pos (show nI k < 81 from nI_lt (b := 81) hk (by decide))]
      obtain ⟨x, h1, rfl⟩ := jb_inv (f := zf_248_H25 (nI w) (nI o) (nI wh) (nI n) (nI k) M N) (fun m s => ∃ p, p + m = n ∧ (((∀ p', p' < p → ¬ m2 U w o k p') ∧ s = (nI a.1, ecd (-2) a.2, nI p)) ∨ ((∃ p', p' < p ∧ m2 U w o k p') ∧ s = (nI (a.1 + 1), ecd (-2) (if a.2 = 81 then k else a.2), nI p)))) (fun x => x = .inl (nI (ftG (fun s => ∃ p, p < n ∧ m2 U w o s p) k a).1, ecd (-2) (ftG (fun s => ∃ p, p < n ∧ m2 U w o s p) k a).2, nI (k + 1))) (by
        rintro m s ⟨p, hm, hs⟩
        unfold zf_248_H25 zf_248_J65
        by_cases e : p < n
        · left
          rcases hs with ⟨g1, rfl⟩ | ⟨g1, rfl⟩
          · dsimp only
            rw [if_pos (nI_lt e (by omega)), jd_isFelt hw ho hk (by omega) hN, Option.bind_some, nI_1, nI_1]
            by_cases q : m2 U w o k p
            · refine ⟨m - 1, (nI (a.1 + 1), ecd (-2) (if a.2 = 81 then k else a.2), nI (p + 1)), by omega, ?_, p + 1, by omega, Or.inr ⟨⟨p, by omega, q⟩, rfl⟩⟩
              rw [@decide_eq_true _ (Classical.propDecidable _) q, jb_yes]
              unfold ecd
              by_cases z : a.2 = 81
              · rw [if_pos z, if_pos rfl, if_pos z, if_neg (by omega)]
              · rw [if_neg z, if_neg (by rw [jn_m2 (by omega)]; exact id), if_neg z, if_neg z]
            · refine ⟨m - 1, (nI a.1, ecd (-2) a.2, nI (p + 1)), by omega, ?_, p + 1, by omega, Or.inl ⟨fun p' hp' => ?_, rfl⟩⟩
              · rw [@decide_eq_false _ (Classical.propDecidable _) q, jb_no]
              · by_cases z : p' = p
                · rw [z]; exact q
                · exact g1 p' (by omega)
          · obtain ⟨p', g2, g3⟩ := g1
            dsimp only
            have q : ¬ m2 U w o k p := fun z => by
              have := hun k hk p p' e (by omega) z g3
              omega
            rw [if_pos (nI_lt e (by omega)), jd_isFelt hw ho hk (by omega) hN, Option.bind_some, nI_1, nI_1]
            refine ⟨m - 1, (nI (a.1 + 1), ecd (-2) (if a.2 = 81 then k else a.2), nI (p + 1)), by omega, ?_, p + 1, by omega, Or.inr ⟨⟨p', by omega, g3⟩, rfl⟩⟩
            rw [@decide_eq_false _ (Classical.propDecidable _) q, jb_no]
        · right
          have e : p = n := by omega
          subst e
          rcases hs with ⟨g1, rfl⟩ | ⟨g1, rfl⟩
          · refine ⟨_, (if_neg (nI_nlt (Nat.le_refl _) (by omega))).trans rfl, ?_⟩
            unfold ftG
            rw [if_neg (fun ⟨p', z1, z2⟩ => g1 p' z1 z2), nI_1]
          · refine ⟨_, (if_neg (nI_nlt (Nat.le_refl _) (by omega))).trans rfl, ?_⟩
            unfold ftG
            rw [if_pos g1, nI_1]) n (nI a.1, ecd (-2) a.2, nI 0) ⟨0, by omega, Or.inl ⟨fun p' h => by omega, rfl⟩⟩
      exact h1
    · unfold ftG
      split
      · refine ⟨by dsimp only; omega, ?_⟩
        dsimp only
        split <;> omega
      · omega
  · rintro b ⟨q1, q2⟩ e
    unfold zf_248_H15 ftA ft
    rw [← e]
    refine (if_neg (by dsimp only; decide)).trans ?_
    dsimp only
    unfold ecd
    simp only [show (nI wh = 0) = (wh = 0) from jn_eq (b := 0) (by omega) (by decide), show (nI wh = 1) = (wh = 1) from jn_eq (b := 1) (by omega) (by decide)]
    by_cases z : b.2 = 81
    · simp only [z, if_true]
      split <;> rfl
    · simp only [z, if_false, jn_m2 (show b.2 < 2 ^ 31 by omega), jn_div9 (show b.2 < 2 ^ 31 by omega), jn_rem9 (show b.2 < 2 ^ 31 by omega)]
      split
      · rfl
      · split <;> rfl
theorem ft_none {hit : Nat → Prop} (h : ∀ s, s < 81 → ¬ hit s) : ∀ n, n ≤ 81 → ft hit n = (0, 81)
  | 0, _ => rfl
  | n + 1, hn => by
    have e : ft hit (n + 1) = ftG hit n (ft hit n) := rfl
    rw [e, ft_none h n (by omega)]
    unfold ftG
    rw [if_neg (h n (by omega))]
theorem ft_one {hit : Nat → Prop} {t : Nat} (ht : t < 81) (h : hit t) (hu : ∀ s, s < 81 → hit s → s = t) : ∀ n, n ≤ 81 → ft hit n = if t < n then (1, t) else (0, 81)
  | 0, _ => rfl
  | n + 1, hn => by
    have e : ft hit (n + 1) = ftG hit n (ft hit n) := rfl
    rw [e, ft_one ht h hu n (by omega)]
    unfold ftG
    by_cases c : t < n
    · rw [if_pos c, if_neg (fun z => by have := hu n (by omega) z; omega), if_pos (by omega)]
    · rw [if_neg c]
      by_cases c2 : t = n
      · rw [if_pos (c2 ▸ h), c2, if_pos (show n < n + 1 by omega)]
        rfl
      · rw [if_neg (fun z => by have := hu n (by omega) z; omega), if_neg (by omega)]
theorem m2_0 {U : Nat → Int64} {w s p : Nat} : m2 U w 0 s p ↔ mt U w (s % 9) (s / 9) := by
  unfold m2 mt
  simp only [Nat.zero_mul, Nat.add_zero]
/-- the answer of one, as the class says it -/
theorem one_ans {U : Nat → Int64} {w wh : Nat} (hw1 : 1 ≤ w) (hw : w ≤ 99) (hwh : wh ≤ 2) {N : jb_Ml} (hN : ∀ c, c < 4 → N 66 c = U c) : ∃ r, zf_33 (nI w) N = some r ∧ (if r < 0 then zf_147 0 r (nI wh) else zf_147 1 r (nI wh)) = ftA (fun s => ∃ p, p < 1 ∧ m2 U w 0 s p) wh := by
  have hmt : ∀ x y, mt (N 66) w x y ↔ mt U w x y := by
    intro x y
    unfold mt
    constructor
    · intro h c hc; rw [← hN c hc]; exact h c hc
    · intro h c hc; rw [hN c hc]; exact h c hc
  have e0 : (nI wh = 0) = (wh = 0) := jn_eq (b := 0) (by omega) (by decide)
  have e1 : (nI wh = 1) = (wh = 1) := jn_eq (b := 1) (by omega) (by decide)
  rcases jc_spot hw1 hw (N := N) with ⟨x, y, hx, hy, hm, hz⟩ | ⟨hm, hz⟩
  · refine ⟨_, hz, ?_⟩
    have hm' := (hmt x y).mp hm
    have ho := ft_one (hit := fun s => ∃ p, p < 1 ∧ m2 U w 0 s p) (t := 9 * y + x) (by omega) ⟨0, by decide, m2_0.mpr (by rw [show (9 * y + x) % 9 = x by omega, show (9 * y + x) / 9 = y by omega]; exact hm')⟩ (by
      rintro s hs ⟨p, -, hp⟩
      obtain ⟨a, b⟩ := mt_uniq hw1 hw (show s % 9 ≤ 8 by omega) (show s / 9 ≤ 8 by omega) hx hy (m2_0.mp hp) hm'
      omega) 81 (Nat.le_refl _)
    rw [if_pos (show 9 * y + x < 81 by omega)] at ho
    unfold ftA zf_147
    rw [ho, if_neg (nI_pos (by omega)), if_neg (nI_pos (by omega)), jn_div9 (by omega), jn_rem9 (by omega)]
    dsimp only
    rw [if_neg (show ¬ 9 * y + x = 81 by omega)]
    simp only [e0, e1]
    rfl
  · refine ⟨_, hz, ?_⟩
    have ho := ft_none (hit := fun s => ∃ p, p < 1 ∧ m2 U w 0 s p) (by
      rintro s hs ⟨p, -, hp⟩
      exact hm (s % 9) (s / 9) (by omega) (by omega) ((hmt _ _).mpr (m2_0.mp hp))) 81 (Nat.le_refl _)
    unfold ftA zf_147
    rw [ho, if_pos (show (-1 : Int32) < 0 by decide)]
    simp only [e0, if_true]
    rw [if_pos (show (-1 : Int32) < 0 by decide)]
    split <;> rfl
theorem jn_cut16 {bs : List Nat} {M : jb_Mi} (b2 : M 2 1 = nI bs.length) (b1 : bs.length ≤ 260) : zf_116 16 M = decide (16 ≤ bs.length) := by
  unfold zf_116
  rw [b2]
  simp only [show (nI bs.length < 16) = (bs.length < 16) from jn_lt (b := 16) (by omega) (by decide)]
  by_cases c : bs.length < 16
  · rw [if_pos c, decide_eq_false (by omega)]
  · rw [if_neg c, decide_eq_true (by omega)]
theorem ca_felt {n : Nat} {M : jb_Mi} {N : jb_Ml} (hn : n < 512) (h : jInv n M N) (a1 a2 a3 : Int32) : ∃ (r : Int32) (M1 : jb_Mi) (N1 : jb_Ml) (M2 : jb_Mi) (N2 : jb_Ml), zf_148 a1 a2 a3 M N = some (r, M1, N1) ∧ M1 0 = M 0 ∧ zf_249 a1 a2 a3 M1 N1 = some (r, M2, N2) ∧ M2 0 = M 0 ∧ jInv (n + 1) M2 N2 := by
  obtain ⟨⟨S, hC, hD, hR, hT⟩, -, ⟨bs, hb⟩, -, -⟩ := id h
  obtain ⟨b1, b2, b3, b4⟩ := hb
  have hTC : tC bs M := ⟨b1, b2, fun k hk => ⟨(b4 k hk).1, (b4 k hk).2.1⟩⟩
  unfold zf_148 zf_249 zf_148_J86
  rcases jx_house hC hD hR a1 with ⟨e1, e2⟩ | ⟨i, hi, rfl, hs, e1, e2⟩
  · exact ⟨_, M, N, M, N, by rw [e1]; rfl, rfl, by rw [e2]; rfl, rfl, jInv_mono h⟩
  rw [e1]
  simp only [Option.bind_some, jb_yes]
  simp only [jn_b, jn_w, jn_cut16 b2 b1]
  by_cases c1 : zf_23 a2 1 99 = false
  · exact ⟨_, M, N, M, N, if_pos c1, rfl, by rw [e2, Option.bind_some, if_neg (by decide), if_pos c1], rfl, jInv_mono h⟩
  by_cases c2 : zf_23 a3 0 2 = false
  · exact ⟨_, M, N, M, N, by rw [if_neg c1, if_pos c2], rfl, by rw [e2, Option.bind_some, if_neg (by decide), if_neg c1, if_pos c2], rfl, jInv_mono h⟩
  by_cases c3 : bs.length < 16
  · refine ⟨_, M, N, M, N, by rw [if_neg c1, if_neg c2, decide_eq_false (by omega), if_pos rfl], rfl, by rw [e2, Option.bind_some, if_neg (by decide), if_neg c1, if_neg c2, b3, if_pos (show nI bs.length < 16 from nI_lt (b := 16) c3 (by decide))], rfl, jInv_mono h⟩
  obtain ⟨w, hw1, hw, rfl⟩ := jn_in1 (x := a2) 1 99 (by decide) (by decide) c1
  obtain ⟨wh, hwh, rfl⟩ := jn_in (x := a3) 2 (by decide) c2
  obtain ⟨M1, N1, k1, k2, k3, k4⟩ := jc_feel (N := N) hC hR hTC (by omega) hi hs
  obtain ⟨r, g1, g2⟩ := one_ans hw1 hw hwh k4
  have f0 : zf_117 0 M1 = jb_up M1 2 1 0 := cut0 M1 (by rw [k2 2 (by decide), b2]) b1
  rw [if_neg c1, if_neg c2, decide_eq_true (by omega), if_neg (by decide), k1, Option.bind_some, g1, Option.bind_some]
  dsimp only
  have hD2 : jD 80 S (jb_up (jb_up M1 2 1 0) 79 4 0) := jD_of hD (by rw [jb_up_off (by decide), jb_up_off (by decide), k2 80 (by decide)])
  have hO : oD bs (jb_up (jb_up M1 2 1 0) 79 4 0) := fun k hk => ⟨by omega, (b4 k hk).1, by rw [jb_up_off (by decide), jb_up_off (by decide), k2 83 (by decide)]; exact (b4 k hk).2.2⟩
  obtain ⟨N2, l1, l2⟩ := jd_feel (N := N1) hD2 hR hO (by omega) hi
  refine ⟨ftA (fun s => ∃ p, p < 1 ∧ m2 (fU S i bs) w 0 s p) wh, jb_up M1 2 1 0, N1, jb_up (jb_up M1 2 1 0) 79 4 0, N2, ?_, ?_, ?_, ?_, ?_⟩
  · rw [← g2, f0]
    split <;> rfl
  · rw [jb_up_off (by decide), k2 0 (by decide)]
  · rw [show zf_171 (nI i) (jb_up M1 2 1 0) = some true by rw [jd_told (jD_of hD (by rw [jb_up_off (by decide), k2 80 (by decide)])) hR hi, decide_eq_true hs], Option.bind_some, if_neg (by decide), if_neg c1, if_neg c2, jb_up_off (show (79 : Nat) ≠ 2 by decide), k2 79 (by decide), b3, if_neg (show ¬ nI bs.length < 16 from nI_nlt (b := 16) (by omega) (by omega))]
    unfold zf_248
    rw [l1, Option.bind_some, show zf_248_H15 (nI w) 0 (nI wh) 1 = zf_248_H15 (nI w) (nI 0) (nI wh) (nI 1) from rfl, jd_feltIn (U := fU S i bs) (w := w) (o := 0) (wh := wh) (n := 1) hw (by omega) hwh (by omega) l2 _ (fun s hs p p' q1 q2 _ _ => by omega)]
    rfl
  · rw [jb_up_off (by decide), jb_up_off (by decide), k2 0 (by decide)]
  · refine jInv_tp h (bs := []) (fun a z1 z2 z3 z4 => ?_) (jTp_0 ?_ rfl) ?_ ?_
    · rw [jb_up_off (by unfold jfix jrel at z1; omega), jb_up_off z2, k2 a (by unfold jfix jrel at z1; omega)]
    · rw [jb_up_off (by decide)]; rfl
    · simp [jb_up_at, k2 79 (by decide)]
    · simp [jb_up_at, k2 79 (by decide)]
/-- a weight taken away from what is felt, and put back -/
theorem jc_explain {s : Nat} (hs : s < 81) (x : Int32) (N : jb_Ml) : ∃ N1, zf_34 (nI s) x N = some N1 ∧ (∀ a, a ≠ 66 → N1 a = N a) ∧ (∀ c, c < 4 → N1 66 c = N 66 c + x.toInt64 * (nI (prt (s % 9) (s / 9) c) : Int32).toInt64) := by
  unfold zf_34
  obtain ⟨N1, h1, h2, h3⟩ := jb_inv (f := zf_34_H2 (nI s) x) (fun n t => ∃ c N', c + n = 4 ∧ t = (nI c, N') ∧ (∀ a, a ≠ 66 → N' a = N a) ∧ (∀ d, c ≤ d → N' 66 d = N 66 d) ∧ ∀ d, d < c → N' 66 d = N 66 d + x.toInt64 * (nI (prt (s % 9) (s / 9) d) : Int32).toInt64) (fun N1 => (∀ a, a ≠ 66 → N1 a = N a) ∧ ∀ c, c < 4 → N1 66 c = N 66 c + x.toInt64 * (nI (prt (s % 9) (s / 9) c) : Int32).toInt64) (by
    rintro n t ⟨c, N', hn, rfl, h1, h2, h3⟩
    unfold zf_34_H2
    dsimp only
    by_cases e : c < 4
    · refine Or.inl ⟨n - 1, (nI (c + 1), jb_ul N' 66 c (N 66 c + x.toInt64 * (nI (prt (s % 9) (s / 9) c) : Int32).toInt64)), by omega, ?_, c + 1, jb_ul N' 66 c (N 66 c + x.toInt64 * (nI (prt (s % 9) (s / 9) c) : Int32).toInt64), by omega, rfl, ?_, ?_, ?_⟩
      · rw [if_pos (show nI c < 4 from nI_lt (b := 4) e (by decide)), jn_gd e (by decide), jn_gd e (by decide), nI_clamp (by omega), jn_div9 (by omega), jn_rem9 (by omega), jc_prt _ (by omega) _ (by omega) c e, h2 c (Nat.le_refl _), nI_1]
      · intro a ha
        rw [jb_ul_n ha, h1 a ha]
      · intro d hd
        rw [jb_ul_at, if_neg (fun z => by omega)]
        exact h2 d (by omega)
      · intro d hd
        rw [jb_ul_at]
        by_cases q : d = c
        · rw [if_pos ⟨rfl, q⟩, q]
        · rw [if_neg (fun z => q z.2)]
          exact h3 d (by omega)
    · have e : c = 4 := by omega
      subst e
      exact Or.inr ⟨_, if_neg (by decide), h1, h3⟩) 4 (nI 0, N) ⟨0, N, by omega, rfl, fun _ _ => rfl, fun _ _ => rfl, fun d hd => by omega⟩
  exact ⟨N1, h1, h2, h3⟩
theorem neg_l {w : Nat} (hw : w ≤ 99) : (-(nI w) : Int32).toInt64 = -(lN w) := by
  have hd : ∀ w, w < 100 → (-(nI w) : Int32).toInt64 = -(lN w) := by decide +kernel
  exact hd w (by omega)
theorem l_sub_eq {a b c : Int64} : a + -b = c ↔ a = b + c := by
  constructor
  · intro h
    rw [← h, Int64.add_comm a, ← Int64.add_assoc, Int64.add_right_neg, Int64.zero_add]
  · intro h
    rw [h, Int64.add_comm b, Int64.add_assoc, Int64.add_right_neg, Int64.add_zero]
theorem jc_two {U : Nat → Int64} {w o : Nat} (hw : w ≤ 99) (ho1 : 1 ≤ o) (ho : o ≤ 99) {M : jb_Mi} {N : jb_Ml} (hN : ∀ c, c < 4 → N 66 c = U c) : ∃ M1 N1, zf_35 (nI w) (nI o) M N = some (nI (ft (fun s => ∃ p, p < 81 ∧ m2 U w o s p) 81).1, M1, N1) ∧ (∀ a, a ≠ 64 → M1 a = M a) ∧ M1 64 12 = ecd (-1) (ft (fun s => ∃ p, p < 81 ∧ m2 U w o s p) 81).2 := by
  unfold zf_35
  obtain ⟨x, h1, M1, N1, rfl, h2, h3⟩ := jb_inv (f := zf_35_H10 (nI w) (nI o)) (fun n t => ∃ s M' N', s + n = 81 ∧ t = (nI (ft (fun s => ∃ p, p < 81 ∧ m2 U w o s p) s).1, nI s, M', N') ∧ (∀ a, a ≠ 64 → M' a = M a) ∧ M' 64 12 = ecd (-1) (ft (fun s => ∃ p, p < 81 ∧ m2 U w o s p) s).2 ∧ ∀ c, c < 4 → N' 66 c = U c) (fun x => ∃ M1 N1, x = (nI (ft (fun s => ∃ p, p < 81 ∧ m2 U w o s p) 81).1, M1, N1) ∧ (∀ a, a ≠ 64 → M1 a = M a) ∧ M1 64 12 = ecd (-1) (ft (fun s => ∃ p, p < 81 ∧ m2 U w o s p) 81).2) (by
    rintro n t ⟨s, M', N', hn, rfl, h1, h2, h3⟩
    unfold zf_35_H10
    dsimp only
    by_cases e : s < 81
    · left
      obtain ⟨o1, o2, o3⟩ := ft_ok (fun s => ∃ p, p < 81 ∧ m2 U w o s p) s (by omega)
      obtain ⟨N2, k1, k2, k3⟩ := jc_explain e (-(nI w)) N'
      obtain ⟨N3, l1, l2, l3⟩ := jc_explain e (nI w) N2
      have hN3 : ∀ c, c < 4 → N3 66 c = U c := by
        intro c hc
        rw [l3 c hc, k3 c hc, h3 c hc, neg_l hw, nI_l (show w < 2 ^ 31 by omega), Int64.neg_mul, Int64.add_assoc, Int64.add_left_neg, Int64.add_zero]
      have hm : ∀ p, p < 81 → (mt (N2 66) o (p % 9) (p / 9) ↔ m2 U w o s p) := by
        intro p hp
        unfold mt m2
        have eq : ∀ c, c < 4 → (N2 66 c = lN (o * prt (p % 9) (p / 9) c) ↔ U c = lN (w * prt (s % 9) (s / 9) c + o * prt (p % 9) (p / 9) c)) := by
          intro c hc
          rw [k3 c hc, h3 c hc, neg_l hw, nI_l (show prt (s % 9) (s / 9) c < 2 ^ 31 by have := prt_le (c := c) (show s % 9 ≤ 8 by omega) (show s / 9 ≤ 8 by omega); omega), Int64.neg_mul, lN_mul, l_sub_eq, lN_add]
        constructor
        · intro z c hc; exact (eq c hc).mp (z c hc)
        · intro z c hc; exact (eq c hc).mpr (z c hc)
      have e1 : ft (fun s => ∃ p, p < 81 ∧ m2 U w o s p) (s + 1) = ftG (fun s => ∃ p, p < 81 ∧ m2 U w o s p) s (ft (fun s => ∃ p, p < 81 ∧ m2 U w o s p) s) := rfl
      rw [if_pos (show nI s < 81 from nI_lt (b := 81) e (by decide)), k1, Option.bind_some]
      unfold zf_35_J53 zf_35_J56
      rw [l1]
      simp only [Option.bind_some]
      rcases jc_spot ho1 ho (N := N2) with ⟨x, y, hx, hy, hmm, hz⟩ | ⟨hmm, hz⟩
      · have hit : ∃ p, p < 81 ∧ m2 U w o s p := ⟨9 * y + x, by omega, (hm _ (by omega)).mp (by rw [show (9 * y + x) % 9 = x by omega, show (9 * y + x) / 9 = y by omega]; exact hmm)⟩
        rw [hz, Option.bind_some, if_neg (nI_pos (by omega)), h2, nI_1, nI_1]
        refine ⟨n - 1, (nI (ft (fun s => ∃ p, p < 81 ∧ m2 U w o s p) (s + 1)).1, nI (s + 1), jb_up M' 64 12 (ecd (-1) (ft (fun s => ∃ p, p < 81 ∧ m2 U w o s p) (s + 1)).2), N3), by omega, ?_, s + 1, jb_up M' 64 12 (ecd (-1) (ft (fun s => ∃ p, p < 81 ∧ m2 U w o s p) (s + 1)).2), N3, by omega, rfl, fun a ha => by rw [jb_up_off ha, h1 a ha], by simp [jb_up_at], hN3⟩
        rw [e1]
        unfold ftG ecd
        rw [if_pos hit]
        dsimp only
        by_cases z : (ft (fun s => ∃ p, p < 81 ∧ m2 U w o s p) s).2 = 81
        · rw [if_pos z, if_pos z, if_pos (by decide), if_neg (by omega)]
        · rw [if_neg z, if_neg z, if_neg (nI_pos (by omega)), if_neg z]
      · have hit : ¬ ∃ p, p < 81 ∧ m2 U w o s p := fun ⟨p, q1, q2⟩ => hmm (p % 9) (p / 9) (by omega) (by omega) ((hm p q1).mpr q2)
        rw [hz, Option.bind_some, if_pos (by decide), nI_1]
        refine ⟨n - 1, (nI (ft (fun s => ∃ p, p < 81 ∧ m2 U w o s p) (s + 1)).1, nI (s + 1), M', N3), by omega, ?_, s + 1, M', N3, by omega, rfl, h1, ?_, hN3⟩
        · rw [e1]
          unfold ftG
          rw [if_neg hit]
        · rw [e1]
          unfold ftG
          rw [if_neg hit, h2]
    · have e : s = 81 := by omega
      subst e
      exact Or.inr ⟨_, if_neg (by decide), M', N', rfl, h1, h2⟩) 81 (nI 0, nI 0, jb_up M 64 12 (-1), N) ⟨0, _, N, by omega, rfl, fun a ha => jb_up_off ha, by simp [jb_up_at]; rfl, hN⟩
  exact ⟨M1, N1, h1, h2, h3⟩
theorem ca_twoFelt {n : Nat} {M : jb_Mi} {N : jb_Ml} (hn : n < 512) (h : jInv n M N) (a1 a2 a3 a4 : Int32) : ∃ (r : Int32) (M1 : jb_Mi) (N1 : jb_Ml) (M2 : jb_Mi) (N2 : jb_Ml), zf_149 a1 a2 a3 a4 M N = some (r, M1, N1) ∧ M1 0 = M 0 ∧ zf_250 a1 a2 a3 a4 M1 N1 = some (r, M2, N2) ∧ M2 0 = M 0 ∧ jInv (n + 1) M2 N2 := by
  obtain ⟨⟨S, hC, hD, hR, hT⟩, -, ⟨bs, hb⟩, -, -⟩ := id h
  obtain ⟨b1, b2, b3, b4⟩ := hb
  have hTC : tC bs M := ⟨b1, b2, fun k hk => ⟨(b4 k hk).1, (b4 k hk).2.1⟩⟩
  unfold zf_149 zf_250
  rcases jx_house hC hD hR a1 with ⟨e1, e2⟩ | ⟨i, hi, rfl, hs, e1, e2⟩
  · exact ⟨_, M, N, M, N, by rw [e1]; rfl, rfl, by rw [e2]; rfl, rfl, jInv_mono h⟩
  rw [e1]
  simp only [Option.bind_some, jb_yes]
  simp only [jn_b, jn_w, jn_cut16 b2 b1]
  by_cases c1 : zf_23 a2 1 99 = false
  · exact ⟨_, M, N, M, N, if_pos c1, rfl, by rw [e2, Option.bind_some, if_neg (by decide), if_pos c1], rfl, jInv_mono h⟩
  by_cases c4 : zf_23 a3 1 99 = false
  · exact ⟨_, M, N, M, N, by rw [if_neg c1, if_pos c4], rfl, by rw [e2, Option.bind_some, if_neg (by decide), if_neg c1, if_pos c4], rfl, jInv_mono h⟩
  by_cases c2 : zf_23 a4 0 2 = false
  · exact ⟨_, M, N, M, N, by rw [if_neg c1, if_neg c4, if_pos c2], rfl, by rw [e2, Option.bind_some, if_neg (by decide), if_neg c1, if_neg c4, if_pos c2], rfl, jInv_mono h⟩
  by_cases c3 : bs.length < 16
  · refine ⟨_, M, N, M, N, by rw [if_neg c1, if_neg c4, if_neg c2, decide_eq_false (by omega), if_pos rfl], rfl, by rw [e2, Option.bind_some, if_neg (by decide), if_neg c1, if_neg c4, if_neg c2, b3, if_pos (show nI bs.length < 16 from nI_lt (b := 16) c3 (by decide))], rfl, jInv_mono h⟩
  obtain ⟨w, hw1, hw, rfl⟩ := jn_in1 (x := a2) 1 99 (by decide) (by decide) c1
  obtain ⟨o, ho1, ho, rfl⟩ := jn_in1 (x := a3) 1 99 (by decide) (by decide) c4
  obtain ⟨wh, hwh, rfl⟩ := jn_in (x := a4) 2 (by decide) c2
  obtain ⟨M1, N1, k1, k2, k3, k4⟩ := jc_feel (N := N) hC hR hTC (by omega) hi hs
  have f0 : zf_117 0 M1 = jb_up M1 2 1 0 := cut0 M1 (by rw [k2 2 (by decide), b2]) b1
  obtain ⟨M3, N3, g1, g2, g3⟩ := jc_two hw ho1 ho (M := jb_up M1 2 1 0) k4
  obtain ⟨o1, o2, o3⟩ := ft_ok (fun s => ∃ p, p < 81 ∧ m2 (fU S i bs) w o s p) 81 (Nat.le_refl _)
  rw [if_neg c1, if_neg c4, if_neg c2, decide_eq_true (by omega), if_neg (by decide), k1, Option.bind_some]
  dsimp only
  rw [f0, g1, Option.bind_some]
  dsimp only
  have hM3 : ∀ a, a ≠ 64 → a ≠ 2 → a ≠ 65 → M3 a = M a := fun a q1 q2 q3 => by rw [g2 a q1, jb_up_off q2, k2 a q3]
  have hD2 : jD 80 S (jb_up M3 79 4 0) := jD_of hD (by rw [jb_up_off (by decide), hM3 80 (by decide) (by decide) (by decide)])
  have hO : oD bs (jb_up M3 79 4 0) := fun k hk => ⟨by omega, (b4 k hk).1, by rw [jb_up_off (by decide), hM3 83 (by decide) (by decide) (by decide)]; exact (b4 k hk).2.2⟩
  obtain ⟨N2, l1, l2⟩ := jd_feel (N := N3) hD2 hR hO (by omega) hi
  refine ⟨ftA (fun s => ∃ p, p < 81 ∧ m2 (fU S i bs) w o s p) wh, M3, N3, jb_up M3 79 4 0, N2, ?_, ?_, ?_, ?_, ?_⟩
  · rw [g3]
    unfold zf_147 ftA ecd
    simp only [show (nI wh = 0) = (wh = 0) from jn_eq (b := 0) (by omega) (by decide), show (nI wh = 1) = (wh = 1) from jn_eq (b := 1) (by omega) (by decide)]
    by_cases z : (ft (fun s => ∃ p, p < 81 ∧ m2 (fU S i bs) w o s p) 81).2 = 81
    · simp only [z, if_true]
      rw [if_pos (show (-1 : Int32) < 0 by decide)]
    · simp only [z, if_false]
      rw [if_neg (nI_pos (by omega)), jn_div9 (by omega), jn_rem9 (by omega)]
  · exact hM3 0 (by decide) (by decide) (by decide)
  · rw [show zf_171 (nI i) M3 = some true by rw [jd_told (jD_of hD (hM3 80 (by decide) (by decide) (by decide))) hR hi, decide_eq_true hs], Option.bind_some, if_neg (by decide), if_neg c1, if_neg c4, if_neg c2, hM3 79 (by decide) (by decide) (by decide), b3, if_neg (show ¬ nI bs.length < 16 from nI_nlt (b := 16) (by omega) (by omega))]
    unfold zf_248
    rw [l1, Option.bind_some, show (81 : Int32) = nI 81 from rfl, jd_feltIn (U := fU S i bs) (w := w) (o := o) (wh := wh) (n := 81) hw ho hwh (by omega) l2 _ (fun s hs p p' q1 q2 z1 z2 => by
      have key : ∀ q, m2 (fU S i bs) w o s q → mt (fun c => fU S i bs c + -(lN (w * prt (s % 9) (s / 9) c))) o (q % 9) (q / 9) := by
        intro q hq c hc
        dsimp only
        rw [l_sub_eq, lN_add]
        exact hq c hc
      obtain ⟨a, b⟩ := mt_uniq ho1 ho (show p % 9 ≤ 8 by omega) (show p / 9 ≤ 8 by omega) (show p' % 9 ≤ 8 by omega) (show p' / 9 ≤ 8 by omega) (key p z1) (key p' z2)
      omega)]
    rfl
  · rw [jb_up_off (by decide), hM3 0 (by decide) (by decide) (by decide)]
  · refine jInv_tp h (bs := []) (fun a z1 z2 z3 z4 => ?_) (jTp_0 ?_ rfl) ?_ ?_
    · rw [jb_up_off (by unfold jfix jrel at z1; omega), hM3 a (by unfold jfix jrel at z1; omega) z2 (by unfold jfix jrel at z1; omega)]
    · rw [jb_up_off (by decide), g2 2 (by decide)]; rfl
    · rw [jb_up_at, if_neg (by decide), hM3 79 (by decide) (by decide) (by decide)]
    · rw [jb_up_at, if_neg (by decide), hM3 79 (by decide) (by decide) (by decide)]
