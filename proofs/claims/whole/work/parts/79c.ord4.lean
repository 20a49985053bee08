/-! ORDERS: the reference reads -/
theorem jD_cell {S : jSt} {M : jb_Mi} (h : jD 80 S M) {k o t v : Nat} (ht : t < 24) (hk : (k = 3 ∧ o = 18) ∨ (k = 4 ∧ o = 42) ∨ (k = 5 ∧ o = 66)) (hs : 0 < S 6 t) : jD 80 (jset S k t v) (jb_up M 80 (o + t) (nI v)) := by
  obtain ⟨c1, c2, c3, c4⟩ := h
  refine ⟨fun j hj => ?_, fun j hj => ?_, fun j hj => ?_, ?_⟩
  · have q := c1 j hj
    simp only [jb_up_at, jset, true_and]
    rw [if_neg (by omega), if_neg (by omega), if_neg (by omega), if_neg (by omega), if_neg (by omega), if_neg (by omega)]
    exact q
  · have q := c2 j hj
    simp only [jb_up_at, jset, true_and]
    rw [if_neg (show ¬ (6 = k ∧ j = t) by omega)]
    refine ⟨fun y => ?_, fun y => ⟨?_, ?_, ?_, ?_⟩⟩
    · rw [if_neg (by intro z; have : j = t := by omega
                     subst this; omega)]
      exact q.1 y
    · by_cases e : 3 = k ∧ j = t
      · rw [if_pos (by omega), if_pos e]
      · rw [if_neg (by omega), if_neg e]; exact (q.2 y).1
    · by_cases e : 4 = k ∧ j = t
      · rw [if_pos (by omega), if_pos e]
      · rw [if_neg (by omega), if_neg e]; exact (q.2 y).2.1
    · by_cases e : 5 = k ∧ j = t
      · rw [if_pos (by omega), if_pos e]
      · rw [if_neg (by omega), if_neg e]; exact (q.2 y).2.2.1
    · rw [if_neg (by omega)]; exact (q.2 y).2.2.2
  · have q := c3 j hj
    simp only [jb_up_at, jset, true_and]
    rw [if_neg (by omega), if_neg (by omega), if_neg (by omega), if_neg (by omega)]
    exact q
  · simp only [jb_up_at, jset, true_and]
    rw [if_neg (by omega), if_neg (by omega), if_neg (by omega), if_neg (by omega), if_neg (by omega), if_neg (by omega)]
    exact c4
theorem jD_gone {S : jSt} {M : jb_Mi} (h : jD 80 S M) {t : Nat} (ht : t < 24) : jD 80 (jset S 6 t 0) (jb_up M 80 (18 + t) (-1)) := by
  obtain ⟨c1, c2, c3, c4⟩ := h
  refine ⟨fun j hj => ?_, fun j hj => ?_, fun j hj => ?_, ?_⟩
  · have q := c1 j hj
    simp only [jb_up_at, jset, true_and]
    rw [if_neg (by omega), if_neg (by omega), if_neg (by omega), if_neg (by omega), if_neg (by omega), if_neg (by omega)]
    exact q
  · have q := c2 j hj
    simp only [jb_up_at, jset, true_and]
    by_cases e : j = t
    · subst e
      rw [if_pos rfl]
      exact ⟨fun _ => if_pos rfl, fun y => absurd rfl y⟩
    · rw [if_neg e]
      simp only [show ¬ (3 = 6 ∧ j = t) by omega, show ¬ (4 = 6 ∧ j = t) by omega, show ¬ (5 = 6 ∧ j = t) by omega, show ¬ (18 + j = 18 + t) by omega, show ¬ (42 + j = 18 + t) by omega, show ¬ (66 + j = 18 + t) by omega, show ¬ (90 + j = 18 + t) by omega, if_false]
      exact q
  · have q := c3 j hj
    simp only [jb_up_at, jset, true_and]
    rw [if_neg (by omega), if_neg (by omega), if_neg (by omega), if_neg (by omega)]
    exact q
  · simp only [jb_up_at, jset, true_and]
    rw [if_neg (by omega), if_neg (by omega), if_neg (by omega), if_neg (by omega), if_neg (by omega), if_neg (by omega)]
    exact c4
def odX (M M' : jb_Mi) : Prop := (∀ a, a ≠ 79 → M' a = M a) ∧ ∀ j, j ≠ 5 → j ≠ 7 → j ≠ 8 → M' 79 j = M 79 j
theorem odX_0 (M : jb_Mi) : odX M M := ⟨fun _ _ => rfl, fun _ _ _ _ => rfl⟩
theorem odX_t {M M1 M2 : jb_Mi} (h1 : odX M M1) (h2 : odX M1 M2) : odX M M2 := ⟨fun a q => by rw [h2.1 a q, h1.1 a q], fun j q1 q2 q3 => by rw [h2.2 j q1 q2 q3, h1.2 j q1 q2 q3]⟩
theorem odX_u {M M1 : jb_Mi} (h1 : odX M M1) {j : Nat} {x : Int32} (hj : j = 5 ∨ j = 7 ∨ j = 8) : odX M (jb_up M1 79 j x) := ⟨fun a q => by rw [jb_up_off q, h1.1 a q], fun i q1 q2 q3 => by rw [jb_up_at, if_neg (by omega), h1.2 i q1 q2 q3]⟩
theorem tdB_o {b : Nat → Nat} {n : Nat} {M M' : jb_Mi} (h : tdB b n M) (hx : odX M M') : tdB b n M' := tdB_of h (hx.2 6 (by decide) (by decide) (by decide)) (hx.1 83 (by decide))
theorem df_186 (x q : Nat) (M : jb_Mi) : zf_186 (nI x) (nI q) M = (false, jb_up M 79 7 (zf_74 (nI x) (nI q))) := rfl
theorem jd_num1 {b : Nat → Nat} {n p0 p v : Nat} {M : jb_Mi} (hT : tdB b n M) (hp : M 79 5 = nI p) (hpn : p < 300) (h8 : M 79 8 = nI v) (hv : v ≤ 99) (h0 : p0 < 300) : zf_218_H27 (nI p0) M = if dgt (ch b n p) then (if p = p0 + 2 then some (.inr (false, jb_up M 79 7 (zf_74 (nI 2) (nI p)))) else some (.inl (jb_up (jb_up M 79 8 (nI (10 * v + (ch b n p - 48)))) 79 5 (nI (p + 1))))) else some (.inr (true, M)) := by
  have hc := ch_le (tdB_b hT) p
  unfold zf_218_H27
  rw [sgc_dig hT (by omega) hp, Option.bind_some]
  by_cases c : dgt (ch b n p)
  · rw [decide_eq_true c, jb_yes, if_pos c, hp, jn_addr]
    have e : (nI p = nI (p0 + 2)) = (p = p0 + 2) := jn_eq (by omega) (by omega)
    simp only [e]
    by_cases c2 : p = p0 + 2
    · rw [if_pos c2, if_pos c2]
      rfl
    · rw [if_neg c2, if_neg c2, sgc_peek hT (by omega) hp, Option.bind_some]
      have c' := c
      unfold dgt at c'
      rw [h8, sgc_in (by omega), jn_mull, nI_add, show nI (10 * v + ch b n p) - 48 = nI (10 * v + (ch b n p - 48)) from by rw [show (48 : Int32) = nI 48 from rfl, pk_sub (by omega), Nat.add_sub_assoc (by omega)], jb_up_at, if_neg (by omega), hp, nI_succ]
  · rw [decide_eq_false c, jb_no, if_neg c]
theorem jd_num {b : Nat → Nat} {n p : Nat} {M : jb_Mi} (hT : tdB b n M) (hp : M 79 5 = nI p) (hpn : p < 290) : ∃ r, zf_218 M = some r ∧ odX M r.2 ∧ match oNum b n p with
  | .inl e => r.1 = false ∧ r.2 79 7 = zf_74 (nI e.1) (nI e.2)
  | .inr y => r.1 = true ∧ r.2 79 8 = nI y.1 ∧ r.2 79 5 = nI y.2 := by
  unfold zf_218 oNum
  rw [sgc_dig hT (by omega) hp, Option.bind_some]
  by_cases c0 : dgt (ch b n p)
  · rw [decide_eq_true c0, jb_yes, if_pos c0, hp]
    have hX0 : odX M (jb_up M 79 8 0) := odX_u (odX_0 M) (by decide)
    have s0 := jd_num1 (p0 := p) (v := 0) (tdB_o hT hX0) (p := p) (by rw [jb_up_at, if_neg (by omega), hp]) (by omega) (by rw [jb_up_at, if_pos ⟨rfl, rfl⟩]; rfl) (by omega) (by omega)
    rw [if_pos c0, if_neg (by omega)] at s0
    rw [jb_lp_inl s0]
    have hX1 : odX M (jb_up (jb_up (jb_up M 79 8 0) 79 8 (nI (10 * 0 + (ch b n p - 48)))) 79 5 (nI (p + 1))) := odX_u (odX_u hX0 (by decide)) (by decide)
    have s1 := jd_num1 (p0 := p) (v := 10 * 0 + (ch b n p - 48)) (tdB_o hT hX1) (p := p + 1) (by rw [jb_up_at, if_pos ⟨rfl, rfl⟩]) (by omega) (by rw [jb_up_at, if_neg (by omega), jb_up_at, if_pos ⟨rfl, rfl⟩]) (by unfold dgt at c0; omega) (by omega)
    by_cases c1 : dgt (ch b n (p + 1))
    · rw [if_pos c1, if_neg (by omega)] at s1
      rw [if_pos c1, jb_lp_inl s1]
      have hX2 : odX M (jb_up (jb_up (jb_up (jb_up (jb_up M 79 8 0) 79 8 (nI (10 * 0 + (ch b n p - 48)))) 79 5 (nI (p + 1))) 79 8 (nI (10 * (10 * 0 + (ch b n p - 48)) + (ch b n (p + 1) - 48)))) 79 5 (nI (p + 1 + 1))) := odX_u (odX_u hX1 (by decide)) (by decide)
      have s2 := jd_num1 (p0 := p) (v := 10 * (10 * 0 + (ch b n p - 48)) + (ch b n (p + 1) - 48)) (tdB_o hT hX2) (p := p + 1 + 1) (by rw [jb_up_at, if_pos ⟨rfl, rfl⟩]) (by omega) (by rw [jb_up_at, if_neg (by omega), jb_up_at, if_pos ⟨rfl, rfl⟩]) (by unfold dgt at c0 c1; omega) (by omega)
      by_cases c2 : dgt (ch b n (p + 2))
      · rw [if_pos c2, if_pos (by omega)] at s2
        rw [if_pos c2]
        refine ⟨_, jb_lp_inr s2, odX_u hX2 (by decide), rfl, ?_⟩
        dsimp only
        rw [jb_up_at, if_pos ⟨rfl, rfl⟩]
      · rw [if_neg c2] at s2
        rw [if_neg c2]
        refine ⟨_, jb_lp_inr s2, hX2, rfl, ?_, ?_⟩
        · dsimp only
          rw [jb_up_at, if_neg (by omega), jb_up_at, if_pos ⟨rfl, rfl⟩]
          congr 1
          omega
        · dsimp only
          rw [jb_up_at, if_pos ⟨rfl, rfl⟩]
    · rw [if_neg c1] at s1
      rw [if_neg c1]
      refine ⟨_, jb_lp_inr s1, hX1, rfl, ?_, ?_⟩
      · dsimp only
        rw [jb_up_at, if_neg (by omega), jb_up_at, if_pos ⟨rfl, rfl⟩]
        congr 1
        omega
      · dsimp only
        rw [jb_up_at, if_pos ⟨rfl, rfl⟩]
  · rw [decide_eq_false c0, jb_no, if_neg c0, hp]
    refine ⟨_, rfl, odX_u (odX_0 M) (by decide), rfl, ?_⟩
    dsimp only
    rw [show (zf_186 1 (nI p) M).2 = jb_up M 79 7 (zf_74 (nI 1) (nI p)) from rfl, jb_up_at, if_pos ⟨rfl, rfl⟩]
def oeX (M M' : jb_Mi) : Prop := (∀ a, a ≠ 79 → a ≠ 80 → M' a = M a) ∧ ∀ j, j ≠ 5 → j ≠ 7 → j ≠ 8 → M' 79 j = M 79 j
theorem oeX_o {M M' : jb_Mi} (h : odX M M') : oeX M M' := ⟨fun a q _ => h.1 a q, h.2⟩
theorem oeX_u {M M' : jb_Mi} (h : odX M M') {j : Nat} {x : Int32} : oeX M (jb_up M' 80 j x) := ⟨fun a q1 q2 => by rw [jb_up_off q2, h.1 a q1], fun i q1 q2 q3 => by rw [jb_up_off (by decide), h.2 i q1 q2 q3]⟩
theorem oeX_v {M M' : jb_Mi} (h : oeX M M') {j : Nat} {x : Int32} : oeX M (jb_up M' 80 j x) := ⟨fun a q1 q2 => by rw [jb_up_off q2, h.1 a q1 q2], fun i q1 q2 q3 => by rw [jb_up_off (by decide), h.2 i q1 q2 q3]⟩
def odO (x : (Nat × Nat) ⊕ (Nat × jSt)) (M : jb_Mi) (r : Bool × jb_Mi) : Prop := oeX M r.2 ∧ match x with
  | .inl e => r.1 = false ∧ r.2 79 7 = zf_74 (nI e.1) (nI e.2)
  | .inr y => r.1 = true ∧ r.2 79 5 = nI y.1 ∧ jD 80 y.2 r.2
theorem odO_bad {x q : Nat} {M M1 : jb_Mi} (h : odX M M1) : odO (.inl (x, q)) M (zf_186 (nI x) (nI q) M1) := ⟨oeX_o (by rw [df_186]; exact odX_u h (by decide)), rfl, by rw [df_186]; dsimp only; rw [jb_up_at, if_pos ⟨rfl, rfl⟩]⟩
theorem jd_spot1 {b : Nat → Nat} {n p : Nat} {M : jb_Mi} (hT : tdB b n M) (hp : M 79 5 = nI p) (hpn : p < 290) : zf_219 M = if 48 ≤ ch b n p ∧ ch b n p ≤ 56 then some (true, jb_up (jb_up M 79 8 (nI (ch b n p - 48))) 79 5 (nI (p + 1))) else some (false, jb_up M 79 7 (zf_74 (nI 1) (nI p))) := by
  have hc := ch_le (tdB_b hT) p
  unfold zf_219
  rw [sgc_peek hT (by omega) hp, Option.bind_some, Option.bind_some, show zf_164 (sgc (ch b n p)) 48 56 = decide (48 ≤ ch b n p ∧ ch b n p ≤ 56) from sgc_w hc (lo := 48) (hi := 56) (by decide) (by decide)]
  by_cases c : 48 ≤ ch b n p ∧ ch b n p ≤ 56
  · rw [decide_eq_true c, jb_yes, if_pos c, sgc_in (by omega), show nI (ch b n p) - 48 = nI (ch b n p - 48) from pk_sub (b := 48) (by omega), jb_up_at, if_neg (by omega), hp, nI_succ]
  · rw [decide_eq_false c, jb_no, if_neg c, hp]
    rfl
theorem jd_move {b : Nat → Nat} {n p t : Nat} {S : jSt} {M : jb_Mi} (hT : tdB b n M) (hp : M 79 5 = nI p) (hpn : p < 280) (hD : jD 80 S M) (hR : jR S) (ht : t < 24) (hs : 0 < S 6 t) : ∃ r, zf_220 (nI t) M = some r ∧ odO (oMove b n p t S) M r := by
  have hc := ch_le (tdB_b hT) p
  have hc1 := ch_le (tdB_b hT) (p + 1)
  have hX1 : odX M (jb_up M 79 5 (nI (p + 1))) := odX_u (odX_0 M) (by decide)
  have hp1 : jb_up M 79 5 (nI (p + 1)) 79 5 = nI (p + 1) := by rw [jb_up_at, if_pos ⟨rfl, rfl⟩]
  have hD1 : jD 80 S (jb_up M 79 5 (nI (p + 1))) := jD_of hD (jb_up_off (by decide))
  have s33 : (sgc (ch b n p) = 33) = (ch b n p = 33) := sgc_eq (k := 33) hc (by decide)
  have s62 : (sgc (ch b n p) = 62) = (ch b n p = 62) := sgc_eq (k := 62) hc (by decide)
  have s64 : (sgc (ch b n p) = 64) = (ch b n p = 64) := sgc_eq (k := 64) hc (by decide)
  unfold zf_220 oMove
  rw [sgc_peek hT (by omega) hp, Option.bind_some]
  unfold zf_220_J33
  rw [hp, ← nI_succ]
  simp only [s33, s62, s64]
  by_cases c1 : ch b n p = 33
  · rw [if_neg (show ¬ ch b n p = 62 by omega), if_neg (show ¬ ch b n p = 64 by omega), if_pos c1, if_pos c1, if_pos c1, jn_addl, jn_gd (show 18 + t < 149 by omega) (by decide), nI_clamp (show 18 + t < 2 ^ 31 by omega)]
    refine ⟨_, rfl, oeX_u hX1, rfl, ?_, jD_gone hD1 ht⟩
    dsimp only
    rw [jb_up_off (by decide), hp1]
  rw [if_neg c1, if_neg c1, if_neg c1]
  by_cases c2 : ch b n p = 62
  · rw [if_pos c2, if_pos c2, if_neg (show ¬ ch b n p = 64 by omega), jd_spot1 (tdB_o hT hX1) hp1 (by omega)]
    by_cases c3 : 48 ≤ ch b n (p + 1) ∧ ch b n (p + 1) ≤ 56
    · rw [if_pos c3, if_pos c3, Option.bind_some, jb_yes]
      have hX2 : odX M (jb_up (jb_up (jb_up M 79 5 (nI (p + 1))) 79 8 (nI (ch b n (p + 1) - 48))) 79 5 (nI (p + 1 + 1))) := odX_u (odX_u hX1 (by decide)) (by decide)
      dsimp only
      rw [jd_spot1 (tdB_o hT hX2) (p := p + 1 + 1) (by rw [jb_up_at, if_pos ⟨rfl, rfl⟩]) (by omega)]
      by_cases c4 : 48 ≤ ch b n (p + 1 + 1) ∧ ch b n (p + 1 + 1) ≤ 56
      · rw [if_pos c4, if_pos (show 48 ≤ ch b n (p + 2) ∧ ch b n (p + 2) ≤ 56 from c4), Option.bind_some, jb_yes, jn_addl, jn_addl, jn_gd (show 42 + t < 149 by omega) (by decide), jn_gd (show 66 + t < 149 by omega) (by decide), nI_clamp (show 42 + t < 2 ^ 31 by omega), nI_clamp (show 66 + t < 2 ^ 31 by omega)]
        have hX3 : odX M (jb_up (jb_up (jb_up (jb_up (jb_up M 79 5 (nI (p + 1))) 79 8 (nI (ch b n (p + 1) - 48))) 79 5 (nI (p + 1 + 1))) 79 8 (nI (ch b n (p + 1 + 1) - 48))) 79 5 (nI (p + 1 + 1 + 1))) := odX_u (odX_u hX2 (by decide)) (by decide)
        refine ⟨_, rfl, oeX_v (oeX_u hX3), rfl, ?_, ?_⟩
        · dsimp only
          rw [jb_up_off (by decide), jb_up_off (by decide), jb_up_at, if_pos ⟨rfl, rfl⟩]
        · dsimp only
          have e1 : jb_up (jb_up (jb_up M 79 5 (nI (p + 1))) 79 8 (nI (ch b n (p + 1) - 48))) 79 5 (nI (p + 1 + 1)) 79 8 = nI (ch b n (p + 1) - 48) := by rw [jb_up_at, if_neg (by omega), jb_up_at, if_pos ⟨rfl, rfl⟩]
          rw [e1]
          have e2 : ∀ x, jb_up (jb_up (jb_up (jb_up (jb_up (jb_up M 79 5 (nI (p + 1))) 79 8 (nI (ch b n (p + 1) - 48))) 79 5 (nI (p + 1 + 1))) 79 8 (nI (ch b n (p + 1 + 1) - 48))) 79 5 (nI (p + 1 + 1 + 1))) 80 (42 + t) x 79 8 = nI (ch b n (p + 2) - 48) := by
            intro x
            rw [jb_up_off (by decide), jb_up_at, if_neg (by omega), jb_up_at, if_pos ⟨rfl, rfl⟩]
          rw [e2]
          refine jD_cell (k := 5) (o := 66) (jD_cell (k := 4) (o := 42) (jD_of hD (hX3.1 80 (by decide))) ht (by omega) hs) ht (by omega) ?_
          unfold jset
          rw [if_neg (by omega)]
          exact hs
      · rw [if_neg c4, if_neg (show ¬ (48 ≤ ch b n (p + 2) ∧ ch b n (p + 2) ≤ 56) from c4), Option.bind_some, jb_no]
        exact ⟨_, rfl, odO_bad (x := 1) (q := p + 2) hX2⟩
    · rw [if_neg c3, if_neg c3, Option.bind_some, jb_no]
      exact ⟨_, rfl, odO_bad (x := 1) (q := p + 1) hX1⟩
  rw [if_neg c2, if_neg c2]
  by_cases c3 : ch b n p = 64
  · rw [if_pos c3, if_pos c3, if_pos c3, sgc_peek (tdB_o hT hX1) (by omega) hp1, Option.bind_some, show zf_164 (sgc (ch b n (p + 1)) - 48) 0 5 = decide (48 ≤ ch b n (p + 1) ∧ ch b n (p + 1) ≤ 53) from sgc_o (k := 48) (m := 5) hc1 (by decide), hp1]
    by_cases c4 : 48 ≤ ch b n (p + 1) ∧ ch b n (p + 1) ≤ 53
    · rw [decide_eq_true c4, jb_yes, if_pos c4, sgc_in (by omega), show nI (ch b n (p + 1)) - 48 = nI (ch b n (p + 1) - 48) from pk_sub (b := 48) (by omega), jd_told hD1 hR (by omega), Option.bind_some]
      by_cases c5 : 0 < S 0 (ch b n (p + 1) - 48)
      · rw [decide_eq_true c5, jb_yes, if_pos c5, jn_addl, jn_gd (show 18 + t < 149 by omega) (by decide), nI_clamp (show 18 + t < 2 ^ 31 by omega)]
        refine ⟨_, rfl, oeX_u (odX_u hX1 (by decide)), rfl, ?_, ?_⟩
        · dsimp only
          rw [jb_up_off (by decide), jb_up_at, if_pos ⟨rfl, rfl⟩, nI_succ (p + 1)]
        · exact jD_cell (k := 3) (o := 18) (jD_of hD1 (jb_up_off (by decide))) ht (by omega) hs
      · rw [decide_eq_false c5, jb_no, if_neg c5]
        exact ⟨_, rfl, odO_bad (x := 7) (q := p + 1) hX1⟩
    · rw [decide_eq_false c4, jb_no, if_neg c4]
      exact ⟨_, rfl, odO_bad (x := 1) (q := p + 1) hX1⟩
  · rw [if_neg c3, if_neg c3]
    exact ⟨_, rfl, odO_bad (x := 1) (q := p) (odX_0 M)⟩
