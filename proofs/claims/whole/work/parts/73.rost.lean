/-! ROSTERS: the text read byte by byte -/
abbrev rsG : Type := Nat → Nat × Nat × Nat
def rsf (p t : Nat) : Nat := if t = 0 then p else p - 1
def rsl (h : Nat → Nat) (l m v : Nat) : Nat → Nat := fun k => if l ≤ k ∧ k < l + m then v else h k
def rsp (h : Nat → Nat) (s l m : Nat) : Nat → Nat := fun k => if l ≤ k ∧ k < l + m then h (s + (k - l) % (l - s)) else h k
def rsu (g : rsG) (o : Nat) (x : Nat × Nat × Nat) : rsG := fun i => if i = o then x else g i
def rsm (l : Nat) (x : Nat × Nat × Nat) : Nat := (l - x.2.2) * (x.2.1 - 1)
def rsv (c : Nat) : Nat := if c = 46 then 16 else c - 97
def rsF (b : Nat → Nat) (n : Nat) : Nat → Nat → Nat → Nat → Nat → (Nat → Nat) → rsG → (Nat × Nat) ⊕ (Nat × (Nat → Nat))
  | 0, _, _, _, _, _, _ => .inl (0, 0)
  | f + 1, p, t, l, o, h, g =>
    if ch b n p = 256 then (if t = 0 ∧ o = 0 ∧ l ≠ 0 then .inr (l, h) else .inl (1, n))
    else if 50 ≤ ch b n p ∧ ch b n p ≤ 57 then (if t = 0 then rsF b n f (p + 1) (ch b n p - 48) l o h g else .inl (1, p))
    else if ch b n p = 46 ∨ (97 ≤ ch b n p ∧ ch b n p ≤ 112) then (if 48 < l + max 1 t then .inl (6, rsf p t) else rsF b n f (p + 1) 0 (l + max 1 t) o (rsl h l (max 1 t) (rsv (ch b n p))) g)
    else if ch b n p = 40 then (if o < 2 then rsF b n f (p + 1) 0 l (o + 1) h (rsu g o (rsf p t, max 1 t, l)) else .inl (5, p))
    else if ch b n p = 41 ∧ t = 0 ∧ 0 < o ∧ (g (o - 1)).2.2 < l then (if 48 < l + rsm l (g (o - 1)) then .inl (6, (g (o - 1)).1) else rsF b n f (p + 1) 0 (l + rsm l (g (o - 1))) (o - 1) (rsp h (g (o - 1)).2.2 l (rsm l (g (o - 1)))) g)
    else .inl (1, p)
def cv (v : Nat) : Int32 := if v = 16 then -2 else nI v
def dv (v : Nat) : Int32 := if v = 16 then -1 else nI v
def rok (l o : Nat) (h : Nat → Nat) (g : rsG) : Prop := l ≤ 48 ∧ o ≤ 2 ∧ (∀ k, k < l → h k ≤ 16) ∧ ∀ i, i < o → (g i).1 < 300 ∧ 1 ≤ (g i).2.1 ∧ (g i).2.1 ≤ 9 ∧ (g i).2.2 ≤ l
def cR (l o : Nat) (h : Nat → Nat) (g : rsG) (M : jb_Mi) : Prop := M 34 3 = nI l ∧ M 34 7 = nI o ∧ (∀ k, k < l → M 37 k = cv (h k)) ∧ ∀ i, i < o → M 38 i = nI (g i).1 ∧ M 39 i = nI (g i).2.1 ∧ M 40 i = nI (g i).2.2
theorem rsm_le {l o : Nat} {h : Nat → Nat} {g : rsG} (hk : rok l o h g) {i : Nat} (hi : i < o) : rsm l (g i) ≤ 384 := by
  obtain ⟨h1, h2, h3, h4⟩ := hk
  obtain ⟨q1, q2, q3, q4⟩ := h4 i hi
  have := Nat.mul_le_mul (show l - (g i).2.2 ≤ 48 by omega) (show (g i).2.1 - 1 ≤ 8 by omega)
  unfold rsm
  omega
theorem rok_add {l o m v : Nat} {h : Nat → Nat} {g : rsG} (hk : rok l o h g) (hm : l + m ≤ 48) (hv : v ≤ 16) : rok (l + m) o (rsl h l m v) g := by
  obtain ⟨h1, h2, h3, h4⟩ := hk
  refine ⟨hm, h2, fun k hk => ?_, fun i hi => ?_⟩
  · unfold rsl
    split
    · exact hv
    · exact h3 k (by omega)
  · obtain ⟨q1, q2, q3, q4⟩ := h4 i hi
    exact ⟨q1, q2, q3, by omega⟩
theorem rok_rep {l o m s : Nat} {h : Nat → Nat} {g : rsG} (hk : rok l (o + 1) h g) (hs : s < l) (hm : l + m ≤ 48) : rok (l + m) o (rsp h s l m) g := by
  obtain ⟨h1, h2, h3, h4⟩ := hk
  refine ⟨hm, by omega, fun k hk => ?_, fun i hi => ?_⟩
  · unfold rsp
    split
    · refine h3 _ ?_
      have := Nat.mod_lt (k - l) (show 0 < l - s by omega)
      omega
    · exact h3 k (by omega)
  · obtain ⟨q1, q2, q3, q4⟩ := h4 i (by omega)
    exact ⟨q1, q2, q3, by omega⟩
theorem rok_new {l o p t : Nat} {h : Nat → Nat} {g : rsG} (hk : rok l o h g) (ho : o < 2) (hp : p < 300) (ht : t ≤ 9) : rok l (o + 1) h (rsu g o (p, max 1 t, l)) := by
  obtain ⟨h1, h2, h3, h4⟩ := hk
  refine ⟨h1, by omega, h3, fun i hi => ?_⟩
  unfold rsu
  split
  · exact ⟨hp, by dsimp only; omega, by dsimp only; omega, Nat.le_refl _⟩
  · exact h4 i (by omega)
/-- a copy of what went before, some places on -/
theorem rsp_eq {h : Nat → Nat} {s l m k : Nat} (hs : s < l) (hk : k < m) : rsp h s l m (l + k) = rsp h s l m (s + k) := by
  unfold rsp
  rw [if_pos (by omega), Nat.add_sub_cancel_left]
  by_cases c : s + k < l
  · rw [if_neg (by omega), Nat.mod_eq_of_lt (by omega)]
  · rw [if_pos (by omega), show k = (s + k - l) + (l - s) by omega, Nat.add_mod_right]
    congr 3
    omega
theorem jc_rsadd {l o m v : Nat} {h : Nat → Nat} {g : rsG} {M : jb_Mi} (hk : rok l o h g) (hC : cR l o h g M) (hm : l + m ≤ 48) : ∃ M', zf_95 (cv v) (nI m) M = some (true, M') ∧ cR (l + m) o (rsl h l m v) g M' ∧ ∀ a, a ≠ 34 → a ≠ 37 → M' a = M a := by
  obtain ⟨c1, c2, c3, c4⟩ := hC
  unfold zf_95
  rw [c1, nI_add, if_neg (show ¬ (48 : Int32) < nI (l + m) from nI_nlt (a := 48) (by omega) (by omega))]
  obtain ⟨⟨r, M'⟩, e1, rfl, e2, e3, e4, e5⟩ := jb_inv (f := zf_95_H15 (cv v) (nI m)) (fun d s => ∃ k M1, s = (nI k, M1) ∧ k + d = m ∧ M1 34 3 = nI (l + k) ∧ M1 34 7 = nI o ∧ (∀ j, j < l + k → M1 37 j = cv (rsl h l m v j)) ∧ ∀ a, a ≠ 34 → a ≠ 37 → M1 a = M a)
    (fun x => x.1 = true ∧ x.2 34 3 = nI (l + m) ∧ x.2 34 7 = nI o ∧ (∀ j, j < l + m → x.2 37 j = cv (rsl h l m v j)) ∧ ∀ a, a ≠ 34 → a ≠ 37 → x.2 a = M a) (by
      rintro d s ⟨k, M1, rfl, hd, f1, f2, f3, f4⟩
      unfold zf_95_H15
      dsimp only
      by_cases hkm : k < m
      · refine Or.inl ⟨d - 1, (nI (k + 1), jb_up (jb_up M1 37 (l + k) (cv v)) 34 3 (nI (l + k + 1))), by omega, ?_, k + 1, _, rfl, by omega, ?_, ?_, ?_, ?_⟩
        · rw [if_pos (nI_lt hkm (by omega)), f1, jn_gd (by omega) (by decide), nI_clamp (by omega), jb_up_off (show (34 : Nat) ≠ 37 by decide), f1]
          simp only [nI_succ]
        · rw [jb_up_at, if_pos ⟨rfl, rfl⟩]; congr 1
        · rw [jb_up_at, if_neg (by omega), jb_up_off (by decide), f2]
        · intro j hj
          rw [jb_up_off (by decide), jb_up_at]
          by_cases cj : j = l + k
          · rw [if_pos ⟨rfl, cj⟩]; unfold rsl; rw [if_pos (by omega)]
          · rw [if_neg (by omega), f3 j (by omega)]
        · intro a a1 a2
          rw [jb_up_off a1, jb_up_off a2, f4 a a1 a2]
      · refine Or.inr ⟨(true, M1), by rw [if_neg (nI_nlt (by omega) (by omega))], rfl, ?_⟩
        have : k = m := by omega
        subst this
        exact ⟨f1, f2, f3, f4⟩) m (0, M) ⟨0, M, rfl, by omega, c1, c2, (fun j hj => by rw [c3 j hj]; unfold rsl; rw [if_neg (by omega)]), fun a _ _ => rfl⟩
  dsimp only at e5
  refine ⟨M', e1, ⟨e2, e3, e4, fun i hi => ?_⟩, e5⟩
  rw [e5 38 (by decide) (by decide), e5 39 (by decide) (by decide), e5 40 (by decide) (by decide)]
  exact c4 i hi
theorem jc_rsrep {l o s k m : Nat} {h : Nat → Nat} {g : rsG} {M : jb_Mi} (hk : rok l o h g) (hC : cR l o h g M) (hs : s < l) (hm : l + m ≤ 48) (hk1 : 1 ≤ k) (hme : m = (l - s) * (k - 1)) : ∃ M', zf_98 (nI s) (nI k) M = some (true, M') ∧ cR (l + m) o (rsp h s l m) g M' ∧ ∀ a, a ≠ 34 → a ≠ 37 → M' a = M a := by
  obtain ⟨c1, c2, c3, c4⟩ := hC
  have hl := hk.1
  unfold zf_98
  rw [c1, show nI k - 1 = nI (k - 1) from pk_sub (b := 1) hk1, pk_sub (by omega), jn_mul, ← hme, nI_add, if_neg (nI_pos (by omega)), if_neg (nI_pos (by omega)), if_neg (show ¬ (48 : Int32) < nI (l + m) from nI_nlt (a := 48) (by omega) (by omega))]
  obtain ⟨⟨r, M'⟩, e1, rfl, e2, e3, e4, e5⟩ := jb_inv (f := zf_98_H35 (nI s) (nI m)) (fun d t => ∃ k M1, t = (nI k, M1) ∧ k + d = m ∧ M1 34 3 = nI (l + k) ∧ M1 34 7 = nI o ∧ (∀ j, j < l + k → M1 37 j = cv (rsp h s l m j)) ∧ ∀ a, a ≠ 34 → a ≠ 37 → M1 a = M a)
    (fun x => x.1 = true ∧ x.2 34 3 = nI (l + m) ∧ x.2 34 7 = nI o ∧ (∀ j, j < l + m → x.2 37 j = cv (rsp h s l m j)) ∧ ∀ a, a ≠ 34 → a ≠ 37 → x.2 a = M a) (by
      rintro d t ⟨k, M1, rfl, hd, f1, f2, f3, f4⟩
      unfold zf_98_H35
      dsimp only
      by_cases hkm : k < m
      · refine Or.inl ⟨d - 1, (nI (k + 1), jb_up (jb_up M1 37 (l + k) (M1 37 (s + k))) 34 3 (nI (l + k + 1))), by omega, ?_, k + 1, _, rfl, by omega, ?_, ?_, ?_, ?_⟩
        · rw [if_pos (nI_lt hkm (by omega)), nI_add, f1, jn_gd (by omega) (by decide), jn_gd (by omega) (by decide), nI_clamp (by omega), nI_clamp (by omega), jb_up_off (show (34 : Nat) ≠ 37 by decide), f1]
          simp only [nI_succ]
        · rw [jb_up_at, if_pos ⟨rfl, rfl⟩]; congr 1
        · rw [jb_up_at, if_neg (by omega), jb_up_off (by decide), f2]
        · intro j hj
          rw [jb_up_off (by decide), jb_up_at]
          by_cases cj : j = l + k
          · rw [if_pos ⟨rfl, cj⟩, cj, rsp_eq hs hkm, f3 _ (by omega)]
          · rw [if_neg (by omega), f3 j (by omega)]
        · intro a a1 a2
          rw [jb_up_off a1, jb_up_off a2, f4 a a1 a2]
      · refine Or.inr ⟨(true, M1), by rw [if_neg (nI_nlt (by omega) (by omega))], rfl, ?_⟩
        have : k = m := by omega
        subst this
        exact ⟨f1, f2, f3, f4⟩) m (0, M) ⟨0, M, rfl, by omega, c1, c2, (fun j hj => by rw [c3 j hj]; unfold rsp; rw [if_neg (by omega)]), fun a _ _ => rfl⟩
  dsimp only at e5
  refine ⟨M', e1, ⟨e2, e3, e4, fun i hi => ?_⟩, e5⟩
  rw [e5 38 (by decide) (by decide), e5 39 (by decide) (by decide), e5 40 (by decide) (by decide)]
  exact c4 i hi
