/-! ROSTERS: the reference's law, and the case -/
theorem jd_item {b : Nat → Nat} {n : Nat} (hn : n < 300) {f p l o : Nat} {h : Nat → Nat} {g : rsG} {M : jb_Mi} (hT : tdB b n M) (hk : rok l o h g) (hD : dR p l o h g M) (hp : p ≤ n) (hf : n < p + f) (hmore : p < n ∨ 0 < o ∨ l = 0) (hcl : ch b n p = 41 → o = 0) : ∃ x, zf_214 M = some x ∧ rdQ b n (rsF b n f p 0 l o h g) (p + 1) M x := by
  obtain ⟨M2, f2, p2, t2, z1, z2, z3, z4, z5, z6, z7, z8, z9, z10, z11, z12, z13, z14, z15⟩ := jd_times hn hT hD hp hf
  obtain ⟨x, y1, y2, y3⟩ := jd_item4 hn f2 f2 p2 t2 l o h g M2 (Nat.le_refl _) (tdB_X hT z2) hk z3 z4 z5 z6 z7 z8 z10 z11 (by omega) (fun i hi => (hk.2.2.2 i hi).2.2.2) (fun a1 a2 a3 => by
    have e := z14 a2
    subst e
    have := hcl a1
    omega)
  unfold zf_214
  rw [z1, Option.bind_some, z15]
  refine ⟨x, y1, rdX_t z2 y2, ?_⟩
  rcases y3 with y3 | ⟨w1, f', p', l', o'', h', g', w2, w3⟩
  · exact Or.inl y3
  · exact Or.inr ⟨w1, f', p', l', o'', h', g', by omega, w3⟩
/-- the end: a fault, or the roster written down at corner q -/
def rdE (q : Nat) (F : (Nat × Nat) ⊕ (Nat × (Nat → Nat))) (M : jb_Mi) (x : Int32 × jb_Mi) : Prop := x.1 = rsr F ∧ x.2 79 4 = 0 ∧ (∀ a, a ≠ 79 → a ≠ 97 → a ≠ 98 → x.2 a = M a) ∧ (∀ j, j ≠ 4 → x.2 79 j = M 79 j) ∧ match F with
  | .inl _ => x.2 97 = M 97 ∧ x.2 98 = M 98
  | .inr y => x.2 98 q = nI y.1 ∧ (∀ j, j ≠ q → x.2 98 j = M 98 j) ∧ (∀ k, k < y.1 → x.2 97 (48 * q + k) = dv (y.2 k)) ∧ ∀ j, (j < 48 * q ∨ 48 * q + 48 ≤ j) → x.2 97 j = M 97 j
theorem dv_8 {v : Nat} (h : v ≤ 16) : ((dv v).toInt8.toInt32 : Int32).toInt8.toInt32 = dv v := by
  have : ∀ v, v < 17 → ((dv v).toInt8.toInt32 : Int32).toInt8.toInt32 = dv v := by decide
  exact this v (by omega)
theorem jd_end {i c : Nat} (hi : i < 6) (hc : c < 4) {b : Nat → Nat} {n : Nat} {F : (Nat × Nat) ⊕ (Nat × (Nat → Nat))} {M : jb_Mi} : (∀ x q, F = .inl (x, q) → M 79 7 = zf_74 (nI x) (nI q) → ∃ x, zf_215_J91 (nI i) (nI c) (jb_b2i false) M = some x ∧ rdE (4 * i + c) F M x) ∧ (∀ l h, F = .inr (l, h) → l ≤ 48 → (∀ k, k < l → h k ≤ 16) → M 79 33 = nI l → (∀ k, k < l → M 99 k = dv (h k)) → ∃ x, zf_215_J91 (nI i) (nI c) (jb_b2i true) M = some x ∧ rdE (4 * i + c) F M x) := by
  constructor
  · rintro x q rfl h7
    unfold zf_215_J91
    rw [if_pos (by decide)]
    refine ⟨_, rfl, ?_, ?_, ?_, ?_, ?_, ?_⟩
    · dsimp only
      rw [jb_up_at, if_neg (by omega), h7]
      rfl
    · dsimp only
      rw [jb_up_at, if_pos ⟨rfl, rfl⟩]
    · intro a a1 a2 a3
      dsimp only
      rw [jb_up_off a1]
    · intro j hj
      dsimp only
      rw [jb_up_at, if_neg (by omega)]
    · dsimp only
      rw [jb_up_off (by decide)]
    · dsimp only
      rw [jb_up_off (by decide)]
  · rintro l h rfl hl hh h33 h99
    unfold zf_215_J91
    rw [if_neg (by decide), jn_mull, nI_add, jn_gd (by omega) (by decide), nI_clamp (by omega), show jb_up M 79 4 0 79 33 = nI l by rw [jb_up_at, if_neg (by omega), h33]]
    generalize hq : 4 * i + c = q
    have hq' : q < 24 := by omega
    obtain ⟨⟨r, M'⟩, e1, e2, e3, e4⟩ := jb_inv (f := zf_215_H127 (nI q)) (fun d t => ∃ k M1, t = (nI k, M1) ∧ k + d = l ∧ (∀ a, a ≠ 97 → M1 a = jb_up (jb_up M 79 4 0) 98 q (nI l) a) ∧ (∀ j, j < k → M1 97 (48 * q + j) = dv (h j)) ∧ ∀ j, (j < 48 * q ∨ 48 * q + 48 ≤ j) → M1 97 j = M 97 j)
      (fun x => x.1 = nI l ∧ (∀ a, a ≠ 97 → x.2 a = jb_up (jb_up M 79 4 0) 98 q (nI l) a) ∧ (∀ j, j < l → x.2 97 (48 * q + j) = dv (h j)) ∧ ∀ j, (j < 48 * q ∨ 48 * q + 48 ≤ j) → x.2 97 j = M 97 j) (by
        rintro d t ⟨k, M1, rfl, hd, f1, f2, f3⟩
        unfold zf_215_H127
        dsimp only
        have e33 : M1 79 33 = nI l := by rw [f1 79 (by decide), jb_up_off (by decide), jb_up_at, if_neg (by omega), h33]
        simp only [e33]
        by_cases hkl : k < l
        · refine Or.inl ⟨d - 1, (nI (k + 1), jb_up M1 97 (48 * q + k) (dv (h k))), by omega, ?_, k + 1, _, rfl, by omega, ?_, ?_, ?_⟩
          · rw [if_pos (nI_lt hkl (by omega)), jn_mull, nI_add, jn_gd (by omega) (by decide), jn_gd (by omega) (by decide), nI_clamp (by omega), nI_clamp (by omega), f1 99 (by decide), jb_up_off (by decide), jb_up_off (by decide), h99 k hkl, dv_8 (hh k hkl), nI_succ]
          · intro a ha
            rw [jb_up_off ha, f1 a ha]
          · intro j hj
            rw [jb_up_at]
            by_cases cj : j = k
            · rw [if_pos ⟨rfl, by omega⟩, cj]
            · rw [if_neg (by omega), f2 j (by omega)]
          · intro j hj
            rw [jb_up_at, if_neg (by omega), f3 j hj]
        · have : k = l := by omega
          subst this
          exact Or.inr ⟨(nI k, M1), by rw [if_neg (nI_nlt (by omega) (by omega))], rfl, f1, f2, f3⟩) l (0, jb_up (jb_up M 79 4 0) 98 q (nI l)) ⟨0, _, rfl, by omega, fun a _ => rfl, fun j hj => by omega, fun j _ => by rw [jb_up_off (by decide), jb_up_off (by decide)]⟩
    refine ⟨_, e1, e2, ?_, ?_, ?_, ?_, ?_, ?_, ?_⟩
    · dsimp only at e3 ⊢
      rw [e3 79 (by decide), jb_up_off (by decide), jb_up_at, if_pos ⟨rfl, rfl⟩]
    · intro a a1 a2 a3
      dsimp only at e3 ⊢
      rw [e3 a a2, jb_up_off a3, jb_up_off a1]
    · intro j hj
      dsimp only at e3 ⊢
      rw [e3 79 (by decide), jb_up_off (by decide), jb_up_at, if_neg (by omega)]
    · dsimp only at e3 ⊢
      rw [e3 98 (by decide), jb_up_at, if_pos ⟨rfl, rfl⟩]
    · intro j hj
      dsimp only at e3 ⊢
      rw [e3 98 (by decide), jb_up_at, if_neg (by omega), jb_up_off (by decide)]
    · intro k hk
      exact e4.1 k hk
    · intro j hj
      exact e4.2 j hj
/-- items, until one is wrong or the text has ended -/
theorem jd_items {i c : Nat} (hi : i < 6) (hc : c < 4) {b : Nat → Nat} {n : Nat} (hn : n < 300) {F : (Nat × Nat) ⊕ (Nat × (Nat → Nat))} {M : jb_Mi} (hT : tdB b n M) : ∀ (d p : Nat) (x : Bool × jb_Mi), n < p + d → rdQ b n F p M x → ∃ M1 y, jb_lp (zf_215_H59 (nI i) (nI c)) (jb_b2i x.1, x.2) = some y ∧ rdX M M1 ∧ rdE (4 * i + c) F M1 y := by
  intro d
  induction d with
  | zero =>
    intro p x hd hQ
    obtain ⟨hX, ⟨h1, x1, q1, h7, hF⟩ | ⟨h1, f', p', l', o', h', g', z1, z2, -⟩⟩ := hQ
    · obtain ⟨y, e1, e2⟩ := (jd_end hi hc (b := b) (n := n) (F := F) (M := x.2)).1 x1 q1 hF h7
      refine ⟨x.2, y, jb_lp_inr ?_, hX, e2⟩
      unfold zf_215_H59
      rw [h1]
      dsimp only
      rw [if_pos (by decide), e1]
      rfl
    · omega
  | succ d ih =>
    intro p x hd hQ
    obtain ⟨hX, ⟨h1, x1, q1, h7, hF⟩ | ⟨h1, f', p', l', o', h', g', z1, z2, z3, z4, z5, z6, z7, z8, z9⟩⟩ := hQ
    · obtain ⟨y, e1, e2⟩ := (jd_end hi hc (b := b) (n := n) (F := F) (M := x.2)).1 x1 q1 hF h7
      refine ⟨x.2, y, jb_lp_inr ?_, hX, e2⟩
      unfold zf_215_H59
      rw [h1]
      dsimp only
      rw [if_pos (by decide), e1]
      rfl
    · have hT' := tdB_X hT hX
      obtain ⟨d0, d1, d2, d3, d4⟩ := id z5
      by_cases q : p' < n ∨ 0 < o'
      · obtain ⟨x2, a1, a2⟩ := jd_item hn hT' z4 z5 z2 z3 (by omega) z8
        have e : zf_215_H59 (nI i) (nI c) (jb_b2i x.1, x.2) = some (.inl (jb_b2i x2.1, x2.2)) := by
          have e82 : zf_215_J82 (nI i) (nI c) x.2 = some (.inl (jb_b2i x2.1, x2.2)) := by
            unfold zf_215_J82
            rw [a1]
            rfl
          unfold zf_215_H59
          rw [h1]
          dsimp only
          rw [if_neg (by decide), d0, hT'.2.1, d2, e82]
          by_cases y1 : p' < n
          · rw [if_pos (nI_lt y1 (by omega))]
          · rw [if_neg (nI_nlt (by omega) (by omega)), if_pos (show (0 : Int32) < nI o' from nI_lt (a := 0) (by omega) (by have := z4.2.1; omega))]
        rw [jb_lp_inl e]
        refine ih (p' + 1) x2 (by omega) ?_
        rw [z9]
        exact ⟨rdX_t hX a2.1, a2.2⟩
      · have : p' = n := by omega
        subst this
        have : o' = 0 := by omega
        subst this
        obtain ⟨f', rfl⟩ : ∃ f1, f' = f1 + 1 := ⟨f' - 1, by omega⟩
        have hF : F = .inr (l', h') := by
          rw [z9, rsF, if_pos ((ch_end (tdB_b hT) p').mpr (Nat.le_refl _)), if_pos ⟨rfl, rfl, by omega⟩]
        obtain ⟨y, e1, e2⟩ := (jd_end hi hc (b := b) (n := p') (F := F) (M := x.2)).2 l' h' hF z4.1 z4.2.2.1 d1 d3
        refine ⟨x.2, y, jb_lp_inr ?_, hX, e2⟩
        unfold zf_215_H59
        rw [h1]
        dsimp only
        rw [if_neg (by decide), d0, hT'.2.1, d2, if_neg (nI_nlt (by omega) (by omega)), if_neg (by decide), e1]
        rfl
