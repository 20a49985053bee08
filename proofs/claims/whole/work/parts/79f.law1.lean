/-! THE LAW: what a text says (steps as in 32), read by levels: l brackets may still be opened -/
abbrev lwR : Type := (Nat × Nat) ⊕ (Nat × jPc)
def bnd (x : lwR) (k : Nat → jPc → lwR) : lwR := match x with
  | .inl e => .inl e
  | .inr y => k y.1 y.2
def nmR (b : Nat → Nat) (n : Nat) : Nat → Nat → Nat → (Nat × Nat) ⊕ (Nat × Nat)
  | 0, v, p => if dgt (ch b n p) then .inl (2, p) else .inr (p, v)
  | f + 1, v, p => if dgt (ch b n p) then nmR b n f (10 * v + (ch b n p - 48)) (p + 1) else .inr (p, v)
def fct (c : Nat) : Nat := if c = 97 then 2 else if c = 99 then 5 else if c = 103 then 7 else if c = 104 then 8 else if c = 105 then 4 else if c = 107 then 6 else if c = 108 then 3 else if c = 109 then 0 else if c = 110 then 9 else if c = 115 then 1 else 10
def sgn (c : Nat) : Nat := if c = 43 then 2 else if c = 45 then 3 else if c = 42 then 4 else if c = 47 then 5 else if c = 37 then 6 else 0
def cmq (c : Nat) : Nat := if c = 60 then 7 else if c = 62 then 8 else if c = 61 then 9 else 0
def app (c : jPc) (o : Nat) : jPc := if o = 0 then c else c ++ [(o, 0)]
def aim (x : Nat) (c : jPc) : jPc := if x = 0 then c else c.set (x - 1) ((pat c (x - 1)).1, c.length)
def fcR (b : Nat → Nat) (n l : Nat) (E : Nat → jPc → lwR) (p : Nat) (c : jPc) : lwR :=
  if dgt (ch b n p) then (match nmR b n 5 0 p with
    | .inl e => .inl e
    | .inr y => .inr (y.1, c ++ [(0, y.2)]))
  else if ch b n p = 91 then (if l = 0 then .inl (5, p) else bnd (E (p + 1) c) fun q c' => if ch b n q = 93 then .inr (q + 1, c') else .inl (1, q))
  else if fct (ch b n p) < 10 then .inr (p + 1, c ++ [(1, fct (ch b n p))]) else .inl (1, p)
def exL (b : Nat → Nat) (n : Nat) (Fc : Nat → jPc → lwR) : Nat → Nat → Nat → Nat → jPc → lwR
  | 0, _, _, p, _ => .inl (1, p)
  | f + 1, pt, pf, p, c => bnd (Fc p c) fun q c1 =>
    if 4 ≤ sgn (ch b n q) then exL b n Fc f pt (sgn (ch b n q)) (q + 1) (app c1 pf)
    else if sgn (ch b n q) = 0 then .inr (q, app (app c1 pf) pt)
    else exL b n Fc f (sgn (ch b n q)) 0 (q + 1) (app (app c1 pf) pt)
def exK (b : Nat → Nat) (n : Nat) (Fc : Nat → jPc → lwR) (f pt pf q : Nat) (c1 : jPc) : lwR :=
    if 4 ≤ sgn (ch b n q) then exL b n Fc f pt (sgn (ch b n q)) (q + 1) (app c1 pf)
    else if sgn (ch b n q) = 0 then .inr (q, app (app c1 pf) pt)
    else exL b n Fc f (sgn (ch b n q)) 0 (q + 1) (app (app c1 pf) pt)
theorem exL_s (b : Nat → Nat) (n : Nat) (Fc : Nat → jPc → lwR) (f pt pf p : Nat) (c : jPc) : exL b n Fc (f + 1) pt pf p c = bnd (Fc p c) (exK b n Fc f pt pf) := rfl
def spE (b : Nat → Nat) (n : Nat) : Nat → Nat → jPc → lwR
  | 0 => exL b n (fcR b n 0 (fun _ _ => .inl (0, 0))) 241 0 0
  | l + 1 => exL b n (fcR b n (l + 1) (spE b n l)) 241 0 0
def spF (b : Nat → Nat) (n : Nat) : Nat → Nat → jPc → lwR
  | 0 => fcR b n 0 (fun _ _ => .inl (0, 0))
  | l + 1 => fcR b n (l + 1) (spE b n l)
theorem spE_F (b : Nat → Nat) (n l p : Nat) (c : jPc) : spE b n l p c = exL b n (spF b n l) 241 0 0 p c := by
  cases l <;> rfl
def tsR (b : Nat → Nat) (n l : Nat) (T C : Nat → jPc → lwR) (p : Nat) (c : jPc) : lwR :=
  if ch b n p = 33 then (if l = 0 then .inl (5, p) else bnd (T (p + 1) c) fun q c' => .inr (q, c' ++ [(10, 0)]))
  else if ch b n p = 40 then (if l = 0 then .inl (5, p) else bnd (C (p + 1) c) fun q c' => if ch b n q = 41 then .inr (q + 1, c') else .inl (1, q))
  else bnd (spE b n l p c) fun q c1 => if cmq (ch b n q) = 0 then .inl (1, q) else bnd (spE b n l (q + 1) c1) fun q2 c2 => .inr (q2, c2 ++ [(cmq (ch b n q), 0)])
def cnL (b : Nat → Nat) (n : Nat) (Ts : Nat → jPc → lwR) : Nat → Nat → Nat → Nat → jPc → lwR
  | 0, _, _, p, _ => .inl (1, p)
  | f + 1, po, pa, p, c => bnd (Ts p c) fun q c1 =>
    if ch b n q = 38 then cnL b n Ts f po ((aim pa c1).length + 1) (q + 1) (aim pa c1 ++ [(11, 0)])
    else if ch b n q = 124 then cnL b n Ts f ((aim po (aim pa c1)).length + 1) 0 (q + 1) (aim po (aim pa c1) ++ [(12, 0)])
    else .inr (q, aim po (aim pa c1))
def cnK (b : Nat → Nat) (n : Nat) (Ts : Nat → jPc → lwR) (f po pa q : Nat) (c1 : jPc) : lwR :=
    if ch b n q = 38 then cnL b n Ts f po ((aim pa c1).length + 1) (q + 1) (aim pa c1 ++ [(11, 0)])
    else if ch b n q = 124 then cnL b n Ts f ((aim po (aim pa c1)).length + 1) 0 (q + 1) (aim po (aim pa c1) ++ [(12, 0)])
    else .inr (q, aim po (aim pa c1))
theorem cnL_s (b : Nat → Nat) (n : Nat) (Ts : Nat → jPc → lwR) (f po pa p : Nat) (c : jPc) : cnL b n Ts (f + 1) po pa p c = bnd (Ts p c) (cnK b n Ts f po pa) := rfl
def spT (b : Nat → Nat) (n : Nat) : Nat → Nat → jPc → lwR
  | 0 => tsR b n 0 (fun _ _ => .inl (0, 0)) (fun _ _ => .inl (0, 0))
  | l + 1 => tsR b n (l + 1) (spT b n l) (cnL b n (spT b n l) 241 0 0)
def spC (b : Nat → Nat) (n l p : Nat) (c : jPc) : lwR := cnL b n (spT b n l) 241 0 0 p c
/-- the rules: letter, E, C -/
abbrev lwU : Type := List (Nat × jPc × jPc)
def lwl (c : Nat) : Prop := c = 116 ∨ c = 121 ∨ c = 100 ∨ c = 120
def spR (b : Nat → Nat) (n p : Nat) : (Nat × Nat) ⊕ (Nat × jPc × jPc) :=
  match (if ch b n p = 120 then (.inr (p + 1, []) : lwR) else spE b n 6 (p + 1) []) with
  | .inl e => .inl e
  | .inr y => if ch b n y.1 = 40 then (match spC b n 5 (y.1 + 1) [] with
      | .inl e => .inl e
      | .inr z => if ch b n z.1 = 41 then .inr (z.1 + 1, y.2, z.2) else .inl (1, z.1)) else .inl (1, y.1)
def spL (b : Nat → Nat) (n : Nat) : Nat → Nat → lwU → (Nat × Nat) ⊕ lwU
  | 0, _, _ => .inl (0, 0)
  | f + 1, p, u =>
    if ch b n p = 116 ∨ ch b n p = 121 ∨ ch b n p = 100 ∨ ch b n p = 120 then (if u.length = 16 then .inl (4, p) else match spR b n p with
      | .inl e => .inl e
      | .inr y => if n ≤ y.1 then .inr (u ++ [(ch b n p, y.2.1, y.2.2)]) else if ch b n y.1 = 59 then spL b n f (y.1 + 1) (u ++ [(ch b n p, y.2.1, y.2.2)]) else .inl (1, y.1)) else .inl (1, p)
/-! lists of steps -/
theorem pat_app (c : jPc) (x : Nat × Nat) (k : Nat) : pat (c ++ [x]) k = if k < c.length then pat c k else if k = c.length then x else (0, 0) := by
  unfold pat
  rw [List.getD_eq_getElem?_getD, List.getD_eq_getElem?_getD]
  by_cases h : k < c.length
  · rw [if_pos h, List.getElem?_append_left h]
  · rw [if_neg h, List.getElem?_append_right (by omega)]
    by_cases h2 : k = c.length
    · subst h2
      rw [if_pos rfl, Nat.sub_self]
      rfl
    · rw [if_neg h2, List.getElem?_eq_none (by simp; omega)]
      rfl
theorem pat_set (c : jPc) (i : Nat) (x : Nat × Nat) (k : Nat) : pat (c.set i x) k = if k = i ∧ i < c.length then x else pat c k := by
  unfold pat
  rw [List.getD_eq_getElem?_getD, List.getD_eq_getElem?_getD, List.getElem?_set]
  by_cases h : i = k
  · subst h
    rw [if_pos rfl]
    by_cases h2 : i < c.length
    · rw [if_pos h2, if_pos ⟨rfl, h2⟩]
      rfl
    · rw [if_neg h2, if_neg (by omega), List.getElem?_eq_none (by omega)]
  · rw [if_neg h, if_neg (by omega)]
theorem dp_ops {c c' : jPc} : ∀ k, (∀ i, i < k → (pat c' i).1 = (pat c i).1) → dp c' k = dp c k := by
  intro k
  induction k with
  | zero => intro _; rfl
  | succ k ih =>
    intro h
    have e : dst (pat c' k) (dp c' k) = dst (pat c k) (dp c k) := by
      unfold dst
      rw [ih (fun i hi => h i (by omega)), h k (by omega)]
    exact e
theorem isb_ops {c c' : jPc} {k : Nat} (h : ∀ i, i < k → (pat c' i).1 = (pat c i).1) : isb c' k ↔ isb c k := by
  unfold isb
  by_cases h0 : 0 < k
  · rw [h (k - 1) (by omega)]
  · constructor <;> intro y <;> exact absurd y.1 h0
/-- steps that are right, but for jumps that still wait for their aim (arg 0) -/
def okJ (p : jPc) (k : Nat) : Prop := (pat p k).1 ≤ 12 ∧ (pat p k).2 < 100000 ∧ ((pat p k).1 ≤ 1 → dp p k ≤ 30) ∧ ((pat p k).1 = 1 → (pat p k).2 < 10) ∧ (2 ≤ (pat p k).1 → (pat p k).1 ≤ 9 → 2 ≤ dp p k) ∧ (10 ≤ (pat p k).1 → 1 ≤ dp p k ∧ isb p k) ∧ (11 ≤ (pat p k).1 → (pat p k).2 = 0 ∨ (k < (pat p k).2 ∧ (pat p k).2 ≤ p.length ∧ dp p (pat p k).2 = dp p k ∧ isb p (pat p k).2))
def wfc (c : jPc) : Prop := c.length < 1000 ∧ ∀ k, k < c.length → okJ c k
def pre (c c' : jPc) : Prop := c.length ≤ c'.length ∧ ∀ k, k < c.length → pat c' k = pat c k
theorem pre_0 (c : jPc) : pre c c := ⟨Nat.le_refl _, fun _ _ => rfl⟩
theorem pre_t {c c1 c2 : jPc} (h1 : pre c c1) (h2 : pre c1 c2) : pre c c2 := ⟨Nat.le_trans h1.1 h2.1, fun k hk => by rw [h2.2 k (by have := h1.1; omega), h1.2 k hk]⟩
theorem pre_app (c : jPc) (x : Nat × Nat) : pre c (c ++ [x]) := ⟨by simp, fun k hk => by rw [pat_app, if_pos hk]⟩
theorem dp_app (c : jPc) (x : Nat × Nat) {k : Nat} (hk : k ≤ c.length) : dp (c ++ [x]) k = dp c k := dp_ops k (fun i hi => by rw [pat_app, if_pos (by omega)])
theorem dp_end (c : jPc) (x : Nat × Nat) : dp (c ++ [x]) (c ++ [x]).length = dst x (dp c c.length) := by
  rw [List.length_append, List.length_singleton]
  show dst (pat (c ++ [x]) c.length) (dp (c ++ [x]) c.length) = _
  rw [pat_app, if_neg (by omega), if_pos rfl, dp_app c x (Nat.le_refl _)]
theorem isb_app (c : jPc) (x : Nat × Nat) {k : Nat} (hk : k ≤ c.length) : isb (c ++ [x]) k ↔ isb c k := isb_ops (fun i hi => by rw [pat_app, if_pos (by omega)])
theorem isb_end (c : jPc) (x : Nat × Nat) (h : 7 ≤ x.1 ∧ x.1 ≤ 10) : isb (c ++ [x]) (c ++ [x]).length := by
  unfold isb
  rw [List.length_append, List.length_singleton, Nat.add_sub_cancel, pat_app, if_neg (by omega), if_pos rfl]
  exact ⟨by omega, h⟩
def okN (c : jPc) (x : Nat × Nat) : Prop := x.1 ≤ 12 ∧ x.2 < 100000 ∧ (x.1 ≤ 1 → dp c c.length ≤ 30) ∧ (x.1 = 1 → x.2 < 10) ∧ (2 ≤ x.1 → x.1 ≤ 9 → 2 ≤ dp c c.length) ∧ (10 ≤ x.1 → 1 ≤ dp c c.length ∧ isb c c.length) ∧ (11 ≤ x.1 → x.2 = 0)
theorem okJ_app {c : jPc} {x : Nat × Nat} {k : Nat} (hk : k < c.length) (h : okJ c k) : okJ (c ++ [x]) k := by
  unfold okJ at h ⊢
  rw [pat_app, if_pos hk, dp_app c x (by omega)]
  obtain ⟨h1, h2, h3, h4, h5, h6, h7⟩ := h
  refine ⟨h1, h2, h3, h4, h5, fun y => ⟨(h6 y).1, (isb_app c x (by omega)).mpr (h6 y).2⟩, fun y => ?_⟩
  rcases h7 y with h7 | ⟨a1, a2, a3, a4⟩
  · exact Or.inl h7
  · exact Or.inr ⟨a1, by rw [List.length_append]; omega, by rw [dp_app c x a2, a3], (isb_app c x a2).mpr a4⟩
theorem wfc_app {c : jPc} {x : Nat × Nat} (h : wfc c) (hl : c.length < 900) (hx : okN c x) : wfc (c ++ [x]) := by
  refine ⟨by simp; omega, fun k hk => ?_⟩
  rw [List.length_append, List.length_singleton] at hk
  by_cases c1 : k < c.length
  · exact okJ_app c1 (h.2 k c1)
  · have : k = c.length := by omega
    subst this
    obtain ⟨h1, h2, h3, h4, h5, h6, h7⟩ := hx
    unfold okJ
    rw [pat_app, if_neg (by omega), if_pos rfl, dp_app c x (Nat.le_refl _)]
    exact ⟨h1, h2, h3, h4, h5, fun y => ⟨(h6 y).1, (isb_app c x (Nat.le_refl _)).mpr (h6 y).2⟩, fun y => Or.inl (h7 y)⟩
theorem wfc_aim {c : jPc} {i : Nat} (h : wfc c) (hi : i < c.length) (ho : 11 ≤ (pat c i).1) (hd : dp c c.length = dp c i) (hb : isb c c.length) : wfc (c.set i ((pat c i).1, c.length)) := by
  have ops : ∀ k, (pat (c.set i ((pat c i).1, c.length)) k).1 = (pat c k).1 := by
    intro k
    rw [pat_set]
    by_cases e : k = i ∧ i < c.length
    · rw [if_pos e, e.1]
    · rw [if_neg e]
  have dps : ∀ k, dp (c.set i ((pat c i).1, c.length)) k = dp c k := fun k => dp_ops k (fun j _ => ops j)
  have isbs : ∀ k, isb (c.set i ((pat c i).1, c.length)) k ↔ isb c k := fun k => isb_ops (fun j _ => ops j)
  refine ⟨by rw [List.length_set]; exact h.1, fun k hk => ?_⟩
  rw [List.length_set] at hk
  obtain ⟨h1, h2, h3, h4, h5, h6, h7⟩ := h.2 k hk
  unfold okJ
  rw [ops, dps, List.length_set]
  have hl := h.1
  by_cases e : k = i
  · subst e
    rw [pat_set, if_pos ⟨rfl, hi⟩]
    dsimp only
    refine ⟨h1, by omega, h3, fun y => by omega, h5, fun y => ⟨(h6 y).1, (isbs k).mpr (h6 y).2⟩, fun y => Or.inr ⟨hi, Nat.le_refl _, by rw [dps, hd], (isbs _).mpr hb⟩⟩
  · rw [pat_set, if_neg (by omega)]
    refine ⟨h1, h2, h3, h4, h5, fun y => ⟨(h6 y).1, (isbs k).mpr (h6 y).2⟩, fun y => ?_⟩
    rcases h7 y with h7 | ⟨a1, a2, a3, a4⟩
    · exact Or.inl h7
    · exact Or.inr ⟨a1, a2, by rw [dps, a3], (isbs _).mpr a4⟩
