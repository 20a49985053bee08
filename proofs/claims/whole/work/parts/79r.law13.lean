/-! THE LAW: the reference's brackets, ands and ors -/
def lkkQ (b : Nat → Nat) (n f g : Nat) (F : lwR) (q : Nat) (M : jb_Mi) (y : Bool × jb_Mi) : Prop := mX f M y.2 ∧ match F with
  | .inl e => y.1 = false ∧ y.2 79 7 = zf_74 (nI e.1) (nI e.2)
  | .inr x => y.1 = true ∧ lD b n f x.1 6 x.2 [] y.2 ∧ lI f g x.1 x.2 [] ∧ q < x.1 ∧ x.1 ≤ n
theorem kQ_t {b : Nat → Nat} {n f g q q1 : Nat} {F : lwR} {M M1 : jb_Mi} {y : Bool × jb_Mi} (hX : mX f M M1) (hq : q ≤ q1) (h : lkkQ b n f g F q1 M1 y) : lkkQ b n f g F q M y := by
  obtain ⟨h1, h2⟩ := h
  refine ⟨mX_t hX h1, ?_⟩
  cases F with
  | inl e => exact h2
  | inr x => exact ⟨h2.1, h2.2.1, h2.2.2.1, by have := h2.2.2.2.1; omega, h2.2.2.2.2⟩
def hQ (b : Nat → Nat) (n f g : Nat) (F : lwR) (q : Nat) (M : jb_Mi) (z : jb_Mi ⊕ (Bool × jb_Mi)) : Prop := match z with
  | .inl M' => mX f M M' ∧ ∃ p l c fs, fs ≠ [] ∧ q < p ∧ cG b n f g p l c fs M' ∧ cF p fs ∧ F = resT b n fs l p c
  | .inr y => lkkQ b n f g F q M y
theorem hQ_t {b : Nat → Nat} {n f g q q1 : Nat} {F : lwR} {M M1 : jb_Mi} {z : jb_Mi ⊕ (Bool × jb_Mi)} (hX : mX f M M1) (hq : q ≤ q1) (h : hQ b n f g F q1 M1 z) : hQ b n f g F q M z := by
  cases z with
  | inl M' =>
    obtain ⟨h1, p, l, c, fs, h2, h3, h4⟩ := h
    exact ⟨mX_t hX h1, p, l, c, fs, h2, by omega, h4⟩
  | inr y => exact kQ_t hX hq h
theorem wC_nil {f : Nat} {r : List cfr} (h : (wC f r).length = 0) : r = [] := by
  cases r with
  | nil => rfl
  | cons y r =>
    obtain ⟨fu, po, pa, k⟩ := y
    rw [wC_v, List.length_append] at h
    obtain ⟨w, V, h1, h2⟩ := vC_hd f po pa r
    rw [h1, List.length_cons] at h
    omega
/-- what the two landings leave -/
theorem jd_l1 {b : Nat → Nat} {n f g q l fu po pa : Nat} {r : List cfr} {c : jPc} {M : jb_Mi} (hn : n ≤ 240) (hG : cG b n f g q l c ((fu, po, pa, 0) :: r) M) : ∃ M', zf_199 1 M = some M' ∧ lD b n f q l (aim po (aim pa c)) (13631488 :: wC f r) M' ∧ lI f g q (aim po (aim pa c)) (13631488 :: wC f r) ∧ mX f M M' := by
  obtain ⟨hS, hD, hI, hp, h1, h2, -⟩ := hG
  have hD0 : lD b n f q l c (jw 11 f pa ++ (jw 12 f po ++ (13631488 :: wC f r))) M := hD
  have hI0 : lI f g q c (jw 11 f pa ++ (jw 12 f po ++ (13631488 :: wC f r))) := hI
  dsimp only at h1 h2
  obtain ⟨M1, a1, a2, a3, a4⟩ := jd_lnd (x1 := 1) hD0 hI0 (by omega) (Or.inl rfl) (by omega) h1
  obtain ⟨M2, b1, b2, b3, b4⟩ := jd_lnd (x1 := 1) a2 a3 (by omega) (Or.inr ⟨rfl, rfl⟩) (by omega) (fun y => by
    obtain ⟨k1, k2⟩ := h2 y
    refine ⟨by rw [aim_len]; exact k1, ?_⟩
    rw [aim_ne c (fun z => ?_), k2]
    have hz : pa ≠ 0 := by omega
    have := (h1 hz).2
    rw [show pa - 1 = po - 1 by omega, k2] at this
    injection this with t1 t2
    omega)
  have e := jd_lnd0 (x1 := 1) b2.2.2.2.2 (by have := b3.2.1; omega) b3.2.2 ⟨13631488, wC f r, rfl, Or.inl (by decide)⟩
  exact ⟨M2, by unfold zf_199; rw [show (1 : Int32) = nI 1 from rfl, a1, b1, e], b2, b3, mX_t a4 b4⟩
theorem jd_l0 {b : Nat → Nat} {n f g q l fu po pa : Nat} {r : List cfr} {c : jPc} {M : jb_Mi} (hn : n ≤ 240) (hG : cG b n f g q l c ((fu, po, pa, 0) :: r) M) : ∃ M', zf_199 0 M = some M' ∧ lD b n f q l (aim pa c) (jw 12 f po ++ (13631488 :: wC f r)) M' ∧ lI f g q (aim pa c) (jw 12 f po ++ (13631488 :: wC f r)) ∧ mX f M M' := by
  obtain ⟨hS, hD, hI, hp, h1, h2, -⟩ := hG
  have hD0 : lD b n f q l c (jw 11 f pa ++ (jw 12 f po ++ (13631488 :: wC f r))) M := hD
  have hI0 : lI f g q c (jw 11 f pa ++ (jw 12 f po ++ (13631488 :: wC f r))) := hI
  dsimp only at h1 h2
  obtain ⟨M1, a1, a2, a3, a4⟩ := jd_lnd (x1 := 0) hD0 hI0 (by omega) (Or.inl rfl) (by omega) h1
  have hi := hI0.1
  have e := jd_lnd0 (x1 := 0) a2.2.2.2.2 (by have := a3.2.1; omega) a3.2.2 (by
    by_cases z : po = 0
    · refine ⟨13631488, wC f r, ?_, Or.inl (by decide)⟩
      unfold jw
      rw [if_pos z]
      rfl
    · have := (h2 z).1
      refine ⟨1048576 * 12 + (f + (po - 1)), 13631488 :: wC f r, ?_, Or.inr ⟨rfl, by omega⟩⟩
      unfold jw
      rw [if_neg z]
      rfl)
  exact ⟨M1, by unfold zf_199; rw [show (0 : Int32) = nI 0 from rfl, a1, e], a2, a3, a4⟩
/-- the outer frames' jumps stay as they are -/
theorem cfI_out {c : jPc} {fu po pa : Nat} {r : List cfr} {c' : jPc} (h : cfI c c.length ((fu, po, pa, 0) :: r)) (hp : ∀ k, k + 1 ≠ pa → k + 1 ≠ po → k < c.length → pat c' k = pat c k) : ∃ m', m' ≤ c.length ∧ (pa ≠ 0 → m' < pa) ∧ (po ≠ 0 → m' < po) ∧ cfI c' m' r := by
  obtain ⟨-, -, m', h3, h4, h5, h6⟩ := h
  dsimp only at h4 h5
  refine ⟨m', h3, h4, h5, cfI_pre r m' m' (fun k hk => hp k (fun z => ?_) (fun z => ?_) (by omega)) (Nat.le_refl _) h6⟩
  · have := h4 (by omega)
    omega
  · have := h5 (by omega)
    omega
theorem cfI_up {c : jPc} {m m2 : Nat} {r : List cfr} (h : cfI c m r) (hm : m ≤ m2) : cfI c m2 r := cfI_pre r m m2 (fun _ _ => rfl) hm h
theorem cnK_out {b : Nat → Nat} {n fu po pa q : Nat} {Ts : Nat → jPc → lwR} {c : jPc} (h1 : ch b n q ≠ 38) (h2 : ch b n q ≠ 124) : cnK b n Ts fu po pa q c = .inr (q, aim po (aim pa c)) := by
  unfold cnK
  rw [if_neg h1, if_neg h2]
theorem jd_par {b : Nat → Nat} {n f g q l fu po pa : Nat} {r : List cfr} {c : jPc} {M : jb_Mi} (hn : n ≤ 240) (hG : cG b n f g q l c ((fu, po, pa, 0) :: r) M) (h41 : ch b n q = 41) : ∃ M1, zf_202_H92 M = (if (wC f r).length = 0 then some (.inr (.inr (true, M1))) else (zf_198 M1).bind fun q10 => some (.inl q10)) ∧ lD b n f (q + 1) (l + 1) (aim po (aim pa c)) (wC f r) M1 ∧ lI f g (q + 1) (aim po (aim pa c)) (wC f r) ∧ mX f M M1 ∧ q + 1 ≤ n ∧ cfI (aim po (aim pa c)) (aim po (aim pa c)).length r ∧ resU b n ((fu, po, pa, 0) :: r) l q c = resU b n r (l + 1) (q + 1) (aim po (aim pa c)) := by
  obtain ⟨M1, a1, a2, a3, a4⟩ := jd_l1 hn hG
  obtain ⟨hS, hD, hI, hp, hC⟩ := hG
  have hb := tdB_b hD.1
  have hc := ch_le hb q
  have hqn := ch_in hb (k := q) (by omega)
  have hl : l + 1 + lkcS r = 6 := by
    have : lkcS ((fu, po, pa, 0) :: r) = 1 + 0 + lkcS r := rfl
    omega
  obtain ⟨d1, d2, d3, d4, d5⟩ := id a2
  have e11 : M1 79 11 - 1 = nI (wC f r).length := by rw [d5.1, List.length_cons, nI_pred]
  have e9 : jb_up M1 79 11 (nI (wC f r).length) 79 9 - 1 = nI (6 - (l + 1)) := by
    rw [jb_up_at, if_neg (by omega), d3, show 6 - l = (6 - (l + 1)) + 1 by omega, nI_pred]
  have e5 : jb_up (jb_up M1 79 11 (nI (wC f r).length)) 79 9 (nI (6 - (l + 1))) 79 5 + 1 = nI (q + 1) := by
    rw [jb_up_at, if_neg (by omega), jb_up_at, if_neg (by omega), d2, nI_succ]
  have e11' : jb_up (jb_up (jb_up M1 79 11 (nI (wC f r).length)) 79 9 (nI (6 - (l + 1)))) 79 5 (nI (q + 1)) 79 11 = nI (wC f r).length := by
    rw [jb_up_at, if_neg (by omega), jb_up_at, if_neg (by omega), jb_up_at, if_pos ⟨rfl, rfl⟩]
  have hW := a3.2.1
  rw [List.length_cons] at hW
  have hX2 : mX f M1 (jb_up (jb_up (jb_up M1 79 11 (nI (wC f r).length)) 79 9 (nI (6 - (l + 1)))) 79 5 (nI (q + 1))) := mX_u (mX_u (mX_u (mX_0 f M1) (by omega)) (by omega)) (by omega)
  refine ⟨jb_up (jb_up (jb_up M1 79 11 (nI (wC f r).length)) 79 9 (nI (6 - (l + 1)))) 79 5 (nI (q + 1)), ?_, ?_, ?_, mX_t a4 hX2, hqn, ?_, ?_⟩
  · have s41 : (sgc (ch b n q) = 41) = (ch b n q = 41) := sgc_eq (k := 41) hc (by decide)
    have z0 : (nI (wC f r).length = 0) = ((wC f r).length = 0) := jn_eq (b := 0) (by omega) (by decide)
    unfold zf_202_H92
    rw [sgc_peek hD.1 (show q < 2 ^ 31 by omega) hD.2.1, Option.bind_some]
    simp only [s41]
    rw [if_pos h41, a1, Option.bind_some, e11, e9, e5, e11']
    simp only [z0]
  · refine lD_of a2 hX2 (by rw [jb_up_at, if_pos ⟨rfl, rfl⟩]) (by rw [jb_up_at, if_neg (by omega), jb_up_at, if_pos ⟨rfl, rfl⟩]) (by rw [jb_up_at, if_neg (by omega), jb_up_at, if_neg (by omega), jb_up_at, if_neg (by omega)]) (by rw [jb_up_off (by decide), jb_up_off (by decide), jb_up_off (by decide)]) (stk_pop d5 ?_ ?_)
    · rw [jb_up_at, if_neg (by omega), jb_up_at, if_neg (by omega), jb_up_at, if_pos ⟨rfl, rfl⟩]
    · rw [jb_up_off (by decide), jb_up_off (by decide), jb_up_off (by decide)]
  · obtain ⟨i1, i2, i3⟩ := a3
    unfold cw at i1
    exact ⟨by omega, by omega, fun w hw => i3 w (List.mem_cons_of_mem _ hw)⟩
  · obtain ⟨m', m1, -, -, m4⟩ := cfI_out (c' := aim po (aim pa c)) hC (fun k k1 k2 _ => by rw [aim_ne _ k2, aim_ne _ k1])
    exact cfI_up m4 (by rw [aim_len, aim_len]; exact m1)
  · show bnd (cnK b n (spT b n l) fu po pa q c) (fun q' c' => if ch b n q' = 41 then resU b n r (l + 1) (q' + 1) c' else .inl (1, q')) = _
    rw [cnK_out (by omega) (by omega)]
    show (if ch b n q = 41 then resU b n r (l + 1) (q + 1) (aim po (aim pa c)) else .inl (1, q)) = _
    rw [if_pos h41]
theorem resU_T {b : Nat → Nat} {n fu po pa l q : Nat} {r : List cfr} {c : jPc} (hfu : 0 < fu) : bnd (cnL b n (spT b n l) fu po pa q c) (fun q' c' => if ch b n q' = 41 then resU b n r (l + 1) (q' + 1) c' else .inl (1, q')) = resT b n ((fu - 1, po, pa, 0) :: r) l q c := by
  obtain ⟨u, rfl⟩ : ∃ u, fu = u + 1 := ⟨fu - 1, by omega⟩
  rw [cnL_s]
  unfold resT
  cases spT b n l q c with
  | inl x => rfl
  | inr y => rfl
theorem jd_npar {b : Nat → Nat} {n f g q l fu po pa : Nat} {r : List cfr} {c : jPc} {M : jb_Mi} (hn : n ≤ 240) (hG : cG b n f g q l c ((fu, po, pa, 0) :: r) M) (hF : cF (q - 1) ((fu, po, pa, 0) :: r)) (hq0 : 0 < q) (h41 : ch b n q ≠ 41) : ∃ z, zf_202_H92 M = some (.inr z) ∧ hQ b n f g (resU b n ((fu, po, pa, 0) :: r) l q c) q M z := by
  have hG0 := hG
  obtain ⟨hS, hD, hI, hp, hC⟩ := hG
  have hb := tdB_b hD.1
  have hc := ch_le hb q
  have hfu : 480 ≤ 2 * fu + (q - 1) := hF (fu, po, pa, 0) (by simp)
  have hl : l + (1 + 0 + lkcS r) = 6 := hS
  have s41 : (sgc (ch b n q) = 41) = (ch b n q = 41) := sgc_eq (k := 41) hc (by decide)
  have s38 : (sgc (ch b n q) = 38) = (ch b n q = 38) := sgc_eq (k := 38) hc (by decide)
  have s124 : (sgc (ch b n q) = 124) = (ch b n q = 124) := sgc_eq (k := 124) hc (by decide)
  have ek := sgc_peek hD.1 (show q < 2 ^ 31 by omega) hD.2.1
  have e0 : zf_202_H92 M = if ch b n q = 38 then (zf_202_J180 M).map .inr else if ch b n q = 124 then (zf_202_J180 M).map .inr else some (.inr (.inr (zf_186 (nI 1) (nI q) M))) := by
    unfold zf_202_H92
    rw [ek, Option.bind_some]
    simp only [s41]
    rw [if_neg h41, Option.bind_some, Option.bind_some, hD.2.1]
    simp only [s38, s124]
    rfl
  have e1 : zf_202_J180 M = if ch b n q = 124 then zf_202_J195 1 M else zf_202_J195 0 M := by
    unfold zf_202_J180
    rw [ek, Option.bind_some]
    simp only [s124]
  have eU : resU b n ((fu, po, pa, 0) :: r) l q c = bnd (cnK b n (spT b n l) fu po pa q c) (fun q' c' => if ch b n q' = 41 then resU b n r (l + 1) (q' + 1) c' else .inl (1, q')) := rfl
  obtain ⟨h11, h12, -⟩ := id hC
  dsimp only at h11 h12
  have hne : po ≠ 0 → po ≠ pa := by
    intro y z
    have k2 := (h12 y).2
    have := (h11 (by omega)).2
    rw [← z, k2] at this
    injection this with t1 t2
    omega
  have hFr : ∀ p', q ≤ p' → ∀ y, y ∈ r → 480 ≤ 2 * y.1 + p' := fun p' hp' y hy => by
    have := hF y (List.mem_cons_of_mem _ hy)
    omega
  by_cases c1 : ch b n q = 38
  · have hqn := ch_in hb (k := q) (by omega)
    rw [if_pos c1, e1, if_neg (by omega)] at e0
    obtain ⟨M1, a1, a2, a3, a4⟩ := jd_l0 hn hG0
    obtain ⟨M2, j1, j2, j3, j4⟩ := jd_jump (o := 11) a2 a3 (by omega) (Or.inl rfl)
    have ek1 := sgc_peek a2.1 (show q < 2 ^ 31 by omega) a2.2.1
    have e2 : zf_202_J195 0 M = some (.inl M2) := by
      unfold zf_202_J195 zf_202_J215
      rw [a1, Option.bind_some, ek1, Option.bind_some]
      simp only [s38]
      rw [if_pos c1, show zf_200 11 M1 = some M2 from j1, Option.bind_some]
    rw [e2] at e0
    refine ⟨.inl M2, e0, mX_t a4 j4, q + 1, l, aim pa c ++ [(11, 0)], (fu - 1, po, (aim pa c).length + 1, 0) :: r, by simp, by omega, ⟨hS, j2, j3, hqn, ?_⟩, ?_, ?_⟩
    · have l1 : (aim pa c ++ [(11, 0)]).length = (aim pa c).length + 1 := by simp
      obtain ⟨m', m1, m2, m3, m4⟩ := cfI_out (c' := aim pa c ++ [(11, 0)]) hC (fun k k1 k2 k3 => by rw [pat_app, if_pos (by rw [aim_len]; exact k3), aim_ne _ k1])
      refine ⟨fun _ => ⟨by dsimp only; omega, ?_⟩, fun y => ?_, m', ?_, fun _ => ?_, m3, m4⟩
      · show pat (aim pa c ++ [(11, 0)]) ((aim pa c).length + 1 - 1) = (11, 0)
        rw [Nat.add_sub_cancel, pat_app, if_neg (by omega), if_pos rfl]
      · obtain ⟨k1, k2⟩ := h12 y
        refine ⟨by dsimp only; rw [l1, aim_len]; omega, ?_⟩
        show pat (aim pa c ++ [(11, 0)]) (po - 1) = (12, 0)
        have y' : po ≠ 0 := y
        have := hne y
        rw [pat_app, if_pos (by rw [aim_len]; omega), aim_ne _ (by omega), k2]
      · rw [l1, aim_len]
        omega
      · show m' < (aim pa c).length + 1
        rw [aim_len]
        omega
    · intro y hy
      rcases List.mem_cons.mp hy with rfl | hy
      · dsimp only
        omega
      · exact hFr (q + 1) (by omega) y hy
    · rw [eU]
      unfold cnK
      rw [if_pos c1]
      exact resU_T (by omega)
  rw [if_neg c1] at e0
  by_cases c2 : ch b n q = 124
  · have hqn := ch_in hb (k := q) (by omega)
    rw [if_pos c2, e1, if_pos c2] at e0
    obtain ⟨M1, a1, a2, a3, a4⟩ := jd_l1 hn hG0
    obtain ⟨M2, j1, j2, j3, j4⟩ := jd_jump (o := 12) a2 a3 (by omega) (Or.inr rfl)
    have ek1 := sgc_peek a2.1 (show q < 2 ^ 31 by omega) a2.2.1
    have e2 : zf_202_J195 1 M = some (.inl M2) := by
      unfold zf_202_J195 zf_202_J215
      rw [a1, Option.bind_some, ek1, Option.bind_some]
      simp only [s38]
      rw [if_neg c1, show zf_200 12 M1 = some M2 from j1, Option.bind_some]
    rw [e2] at e0
    refine ⟨.inl M2, e0, mX_t a4 j4, q + 1, l, aim po (aim pa c) ++ [(12, 0)], (fu - 1, (aim po (aim pa c)).length + 1, 0, 0) :: r, by simp, by omega, ⟨hS, j2, j3, hqn, ?_⟩, ?_, ?_⟩
    · have l1 : (aim po (aim pa c) ++ [(12, 0)]).length = (aim po (aim pa c)).length + 1 := by simp
      have l2 : (aim po (aim pa c)).length = c.length := by rw [aim_len, aim_len]
      obtain ⟨m', m1, m2, m3, m4⟩ := cfI_out (c' := aim po (aim pa c) ++ [(12, 0)]) hC (fun k k1 k2 k3 => by rw [pat_app, if_pos (by omega), aim_ne _ k2, aim_ne _ k1])
      refine ⟨fun y => absurd rfl y, fun _ => ⟨by dsimp only; omega, ?_⟩, m', by omega, fun y => absurd rfl y, fun _ => ?_, m4⟩
      · show pat (aim po (aim pa c) ++ [(12, 0)]) ((aim po (aim pa c)).length + 1 - 1) = (12, 0)
        rw [Nat.add_sub_cancel, pat_app, if_neg (by omega), if_pos rfl]
      · show m' < (aim po (aim pa c)).length + 1
        omega
    · intro y hy
      rcases List.mem_cons.mp hy with rfl | hy
      · dsimp only
        omega
      · exact hFr (q + 1) (by omega) y hy
    · rw [eU]
      unfold cnK
      rw [if_neg c1, if_pos c2]
      exact resU_T (by omega)
  rw [if_neg c2] at e0
  have eE : resU b n ((fu, po, pa, 0) :: r) l q c = .inl (1, q) := by
    rw [eU, cnK_out c1 c2]
    show (if ch b n q = 41 then resU b n r (l + 1) (q + 1) (aim po (aim pa c)) else .inl (1, q)) = _
    rw [if_neg h41]
  rw [eE]
  refine ⟨_, e0, mX_u (mX_0 f M) (by decide), rfl, ?_⟩
  show jb_up M 79 7 (zf_74 (nI 1) (nI q)) 79 7 = _
  rw [jb_up_at, if_pos ⟨rfl, rfl⟩]
theorem jd_closes {b : Nat → Nat} {n f g : Nat} (hn : n ≤ 240) : ∀ (r : List cfr) (fu po pa l q : Nat) (c : jPc) (M : jb_Mi), cG b n f g q l c ((fu, po, pa, 0) :: r) M → cF (q - 1) ((fu, po, pa, 0) :: r) → 0 < q → ∃ z, jb_lp zf_202_H92 M = some z ∧ hQ b n f g (resU b n ((fu, po, pa, 0) :: r) l q c) q M z := by
  intro r
  induction r with
  | nil =>
    intro fu po pa l q c M hG hF hq0
    by_cases h41 : ch b n q = 41
    · obtain ⟨M1, a1, a2, a3, a4, a5, a6, a7⟩ := jd_par hn hG h41
      have hl : l + (1 + 0 + 0) = 6 := hG.1
      rw [if_pos (show (wC f []).length = 0 from rfl)] at a1
      rw [a7]
      refine ⟨_, jb_lp_inr a1, a4, rfl, ?_, a3, by dsimp only; omega, a5⟩
      have : l + 1 = 6 := by omega
      rw [this] at a2
      exact a2
    · obtain ⟨z, z1, z2⟩ := jd_npar hn hG hF hq0 h41
      exact ⟨z, jb_lp_inr z1, z2⟩
  | cons y r ih =>
    intro fu po pa l q c M hG hF hq0
    by_cases h41 : ch b n q = 41
    · obtain ⟨M1, a1, a2, a3, a4, a5, a6, a7⟩ := jd_par hn hG h41
      have hl : l + (1 + 0 + (1 + y.2.2.2 + lkcS r)) = 6 := hG.1
      rw [if_neg (fun z => by have := wC_nil z; simp at this)] at a1
      obtain ⟨fu', po', pa', k'⟩ := y
      dsimp only at hl
      rw [wC_v] at a2 a3
      obtain ⟨M2, n1, n2, n3, n4⟩ := jd_ends (show q + 1 ≤ 240 by omega) (vC_n10 f po' pa' r) k' (l + 1) _ M1 (by omega) a2 a3
      rw [n1, Option.bind_some] at a1
      rw [a7, resU_nots, jb_lp_inl a1]
      have hpre := pre_nots k' (aim po (aim pa c))
      obtain ⟨z, z1, z2⟩ := ih fu' po' pa' (l + 1 + k') (q + 1) (nots k' (aim po (aim pa c))) M2 ⟨by show l + 1 + k' + (1 + 0 + lkcS r) = 6; omega, n2, n3, a5, cfI_pre ((fu', po', pa', 0) :: r) _ _ hpre.2 hpre.1 a6⟩ (fun y hy => by
        have h1 := hF
        rcases List.mem_cons.mp hy with rfl | hy
        · have : 480 ≤ 2 * fu' + (q - 1) := h1 (fu', po', pa', k') (by simp)
          dsimp only
          omega
        · have := h1 y (List.mem_cons_of_mem _ (List.mem_cons_of_mem _ hy))
          omega) (by omega)
      exact ⟨z, z1, hQ_t (mX_t a4 n4) (by omega) z2⟩
    · obtain ⟨z, z1, z2⟩ := jd_npar hn hG hF hq0 h41
      exact ⟨z, jb_lp_inr z1, z2⟩
theorem jd_condL {b : Nat → Nat} {n f g : Nat} (hn : n ≤ 240) : ∀ (k p l : Nat) (c : jPc) (fs : List cfr) (M : jb_Mi), n < p + k → fs ≠ [] → cG b n f g p l c fs M → cF p fs → ∃ z, jb_lp zf_202_H40 M = some z ∧ lkkQ b n f g (resT b n fs l p c) p M z := by
  intro k
  induction k with
  | zero =>
    intro p l c fs M hk hfs hG hF
    have := hG.2.2.2.1
    omega
  | succ k ih =>
    intro p l c fs M hk hfs hG hF
    obtain ⟨hS, hD, hI, hp, hC⟩ := id hG
    have hb := tdB_b hD.1
    have hc := ch_le hb p
    have ek := sgc_peek hD.1 (show p < 2 ^ 31 by omega) hD.2.1
    have s33 : (sgc (ch b n p) = 33) = (ch b n p = 33) := sgc_eq (k := 33) hc (by decide)
    have s40 : (sgc (ch b n p) = 40) = (ch b n p = 40) := sgc_eq (k := 40) hc (by decide)
    have e0 : zf_202_H40 M = if ch b n p = 33 then zf_202_J75 (nI 10) M else if ch b n p = 40 then zf_202_J75 (nI 13) M else (zf_201 M).bind fun q7 => if (jb_b2i q7.1) = 0 then some (.inr (false, q7.2)) else jb_lp (zf_202_H92) q7.2 := by
      unfold zf_202_H40 zf_202_J58
      rw [ek, Option.bind_some, Option.bind_some, Option.bind_some]
      simp only [s33, s40]
      by_cases c1 : ch b n p = 33
      · rw [if_pos c1, if_pos c1, if_pos c1]
        rfl
      · rw [if_neg c1, if_neg c1, if_neg c1]
        by_cases c2 : ch b n p = 40
        · rw [if_pos c2, if_pos c2]
          rfl
        · rw [if_neg c2, if_neg c2]
    have hW := hI.2.1
    have bad : ∀ o, zf_202_H40 M = zf_202_J75 (nI o) M → l = 0 → resT b n fs l p c = .inl (5, p) → ∃ z, jb_lp zf_202_H40 M = some z ∧ lkkQ b n f g (resT b n fs l p c) p M z := by
      intro o e1 hl e2
      obtain ⟨o1, -⟩ := jd_opens (o := o) hD (by omega) (by omega)
      unfold zf_202_J75 at e1
      rw [o1 hl, Option.bind_some] at e1
      rw [e2]
      refine ⟨_, jb_lp_inr (e1.trans (jb_no _ _)), mX_u (mX_0 f M) (by decide), rfl, ?_⟩
      show jb_up M 79 7 (zf_74 (nI 5) (nI p)) 79 7 = _
      rw [jb_up_at, if_pos ⟨rfl, rfl⟩]
    have good : ∀ o fs', zf_202_H40 M = zf_202_J75 (nI o) M → l ≠ 0 → ch b n p < 256 → wC f fs' = (1048576 * o) :: wC f fs → fs' ≠ [] → l - 1 + lkcS fs' = 6 → cfI c c.length fs' → cF (p + 1) fs' → (o = 10 ∨ o = 13) → resT b n fs l p c = resT b n fs' (l - 1) (p + 1) c → ∃ z, jb_lp zf_202_H40 M = some z ∧ lkkQ b n f g (resT b n fs l p c) p M z := by
      intro o fs' e1 hl hch hw hne hS' hC' hF' ho eR
      have hpn := ch_in hb hch
      obtain ⟨-, o2⟩ := jd_opens (o := o) hD (by omega) (by omega)
      obtain ⟨M1, m1, m2, m3⟩ := o2 hl
      unfold zf_202_J75 at e1
      rw [m1, Option.bind_some, jb_yes] at e1
      rw [jb_lp_inl e1, eR]
      obtain ⟨i1, i2, i3⟩ := hI
      obtain ⟨z, z1, z2⟩ := ih (p + 1) (l - 1) c fs' M1 (by omega) hne ⟨hS', by rw [hw]; exact m2, by
        rw [hw]
        refine ⟨?_, by rw [List.length_cons]; omega, fun w hw => ?_⟩
        · unfold cw
          split <;> omega
        · rcases List.mem_cons.mp hw with rfl | hw
          · exact ⟨by omega, by rw [Nat.mul_mod_right]; omega⟩
          · exact i3 w hw, hpn, hC'⟩ hF'
      exact ⟨z, z1, kQ_t m3 (by omega) z2⟩
    cases fs with
    | nil => exact absurd rfl hfs
    | cons y r =>
      obtain ⟨fu, po, pa, j⟩ := y
      have hS0 : l + (1 + j + lkcS r) = 6 := hS
      by_cases c1 : ch b n p = 33
      · rw [if_pos c1] at e0
        by_cases hl : l = 0
        · refine bad 10 e0 hl ?_
          subst hl
          unfold resT
          show bnd (tsR b n 0 (fun _ _ => .inl (0, 0)) (fun _ _ => .inl (0, 0)) p c) _ = _
          unfold tsR
          rw [if_pos c1, if_pos rfl]
          rfl
        · obtain ⟨l', rfl⟩ : ∃ l', l = l' + 1 := ⟨l - 1, by omega⟩
          refine good 10 ((fu, po, pa, j + 1) :: r) e0 hl (by omega) rfl (by simp) (by show l' + 1 - 1 + (1 + (j + 1) + lkcS r) = 6; omega) hC (fun y hy => ?_) (Or.inl rfl) (resT_not c1)
          rcases List.mem_cons.mp hy with rfl | hy
          · have := hF (fu, po, pa, j) (by simp)
            dsimp only at this ⊢
            omega
          · have := hF y (List.mem_cons_of_mem _ hy)
            omega
      rw [if_neg c1] at e0
      by_cases c2 : ch b n p = 40
      · rw [if_pos c2] at e0
        by_cases hl : l = 0
        · refine bad 13 e0 hl ?_
          subst hl
          unfold resT
          show bnd (tsR b n 0 (fun _ _ => .inl (0, 0)) (fun _ _ => .inl (0, 0)) p c) _ = _
          unfold tsR
          rw [if_neg c1, if_pos c2, if_pos rfl]
          rfl
        · obtain ⟨l', rfl⟩ : ∃ l', l = l' + 1 := ⟨l - 1, by omega⟩
          refine good 13 ((240, 0, 0, 0) :: (fu, po, pa, j) :: r) e0 hl (by omega) rfl (by simp) (by show l' + 1 - 1 + (1 + 0 + (1 + j + lkcS r)) = 6; omega) ⟨fun y => absurd rfl y, fun y => absurd rfl y, c.length, Nat.le_refl _, fun y => absurd rfl y, fun y => absurd rfl y, hC⟩ (fun y hy => ?_) (Or.inr rfl) (resT_par c2)
          rcases List.mem_cons.mp hy with rfl | hy
          · dsimp only
            omega
          · have := hF y hy
            omega
      rw [if_neg c2] at e0
      obtain ⟨z, z1, z2, z3⟩ := jd_cmp hn hG c1 c2
      rw [z1, Option.bind_some] at e0
      rcases z3 with ⟨w1, e, w2, w3⟩ | ⟨w1, q, c', w2, w3, w4⟩
      · rw [w1, jb_no] at e0
        rw [w2]
        exact ⟨_, jb_lp_inr e0, z2, rfl, w3⟩
      · rw [w1, jb_yes] at e0
        obtain ⟨v, v1, v2⟩ := jd_closes hn r fu po pa (l + j) q c' z.2 w3 (fun y hy => by
          rcases List.mem_cons.mp hy with rfl | hy
          · have := hF (fu, po, pa, j) (by simp)
            dsimp only at this ⊢
            omega
          · have := hF y (List.mem_cons_of_mem _ hy)
            omega) (by omega)
        rw [v1] at e0
        rw [w4]
        cases v with
        | inl M' =>
          obtain ⟨u1, p2, l2, c2, fs2, u2, u3, u4, u5, u6⟩ := v2
          rw [jb_lp_inl e0, u6]
          obtain ⟨x, x1, x2⟩ := ih p2 l2 c2 fs2 M' (by omega) u2 u4 u5
          exact ⟨x, x1, kQ_t (mX_t z2 u1) (by omega) x2⟩
        | inr x => exact ⟨x, jb_lp_inr e0, kQ_t z2 (by omega) v2⟩
theorem jd_cond {b : Nat → Nat} {n f g q : Nat} {M : jb_Mi} (hn : n ≤ 240) (hD : lD b n f q 6 [] [] M) (hI : lI f g q [] []) (hq : q ≤ n) : ∃ z, zf_202 M = some z ∧ lkkQ b n f g (cpR b n q) q M z := by
  have hb := tdB_b hD.1
  have hc := ch_le hb q
  have ek := sgc_peek hD.1 (show q < 2 ^ 31 by omega) hD.2.1
  have s40 : (sgc (ch b n q) = 40) = (ch b n q = 40) := sgc_eq (k := 40) hc (by decide)
  unfold zf_202
  rw [ek, Option.bind_some, hD.2.1]
  simp only [s40]
  by_cases c1 : ch b n q = 40
  · rw [if_pos c1, cpR_T c1]
    have hqn := ch_in hb (k := q) (by omega)
    have hX1 : mX f M (jb_up (jb_up M 79 9 0) 79 11 0) := mX_u (mX_u (mX_0 f M) (by decide)) (by decide)
    have hD1 : lD b n f q 6 [] [] (jb_up (jb_up M 79 9 0) 79 11 0) := by
      refine lD_of hD hX1 (by rw [jb_up_at, if_neg (by omega), jb_up_at, if_neg (by omega), hD.2.1]) (by rw [jb_up_at, if_neg (by omega), jb_up_at, if_pos ⟨rfl, rfl⟩]; rfl) (by rw [jb_up_at, if_neg (by omega), jb_up_at, if_neg (by omega)]) (by rw [jb_up_off (by decide), jb_up_off (by decide)]) ⟨?_, fun k hk => by simp at hk⟩
      rw [jb_up_at, if_pos ⟨rfl, rfl⟩]
      rfl
    obtain ⟨-, o2⟩ := jd_opens (o := 13) hD1 (by omega) (by simp)
    obtain ⟨M1, m1, m2, m3⟩ := o2 (by omega)
    rw [show zf_190 13 (jb_up (jb_up M 79 9 0) 79 11 0) = some (true, M1) from m1, Option.bind_some, jb_yes]
    obtain ⟨i1, i2, i3⟩ := hI
    obtain ⟨z, z1, z2⟩ := jd_condL (g := g) hn (n + 1) (q + 1) 5 [] [(240, 0, 0, 0)] M1 (by omega) (by simp) ⟨rfl, m2, ⟨by simp [wC, r10, jw, cw] at i1 ⊢; omega, by show 1 ≤ q + 1; omega, fun w hw => by
      rcases List.mem_cons.mp hw with rfl | hw
      · exact ⟨by decide, by decide⟩
      · exact i3 w hw⟩, hqn, ⟨fun y => absurd rfl y, fun y => absurd rfl y, 0, Nat.zero_le _, fun y => absurd rfl y, fun y => absurd rfl y, True.intro⟩⟩ (fun y hy => by
      simp at hy
      subst hy
      dsimp only
      omega)
    exact ⟨z, z1, kQ_t (mX_t hX1 m3) (by omega) z2⟩
  · rw [if_neg c1]
    unfold cpR
    rw [if_neg c1]
    refine ⟨_, rfl, mX_u (mX_0 f M) (by decide), rfl, ?_⟩
    show jb_up M 79 7 (zf_74 (nI 1) (nI q)) 79 7 = _
    rw [jb_up_at, if_pos ⟨rfl, rfl⟩]
