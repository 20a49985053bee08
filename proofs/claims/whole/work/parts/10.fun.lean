/-! how methods are told as functions: guards, calls, loops; the cells by their numbers -/
def jb_b2i (b : Bool) : Int32 := bif b then 1 else 0
theorem jb_b2i_or (b : Bool) : jb_b2i b = 0 ∨ jb_b2i b = 1 := by cases b <;> simp [jb_b2i]
theorem jb_b2i_0 (b : Bool) : (jb_b2i b = 0) ↔ b = false := by cases b <;> simp [jb_b2i]
def jb_gd {α : Type} (i : Int32) (n : Nat) (x : Option α) : Option α := if i < 0 ∨ n ≤ i.toNatClampNeg then none else x
theorem jb_gd_of {α : Type} {i : Int32} {n : Nat} {x : Option α} {r : α} (h : jb_gd i n x = some r) : vp_in i n ∧ x = some r := by
  unfold jb_gd at h
  split at h
  · cases h
  · rename_i g; exact ⟨g, h⟩
def jb_g0 {α : Type} (i : Int32) (x : Option α) : Option α := if i = 0 then none else x
theorem jb_g0_of {α : Type} {i : Int32} {x : Option α} {r : α} (h : jb_g0 i x = some r) : ¬ i = 0 ∧ x = some r := by
  unfold jb_g0 at h
  split at h
  · cases h
  · rename_i g; exact ⟨g, h⟩
def jb_g0l {α : Type} (i : Int64) (x : Option α) : Option α := if i = 0 then none else x
theorem jb_g0l_of {α : Type} {i : Int64} {x : Option α} {r : α} (h : jb_g0l i x = some r) : ¬ i = 0 ∧ x = some r := by
  unfold jb_g0l at h
  split at h
  · cases h
  · rename_i g; exact ⟨g, h⟩
def jb_gc {α : Type} (sp dp n : Int32) (n0 n1 : Nat) (x : Option α) : Option α := if ¬ sp < 0 ∧ ¬ dp < 0 ∧ ¬ n < 0 ∧ sp.toNatClampNeg + n.toNatClampNeg ≤ n0 ∧ dp.toNatClampNeg + n.toNatClampNeg ≤ n1 then x else none
theorem jb_gc_of {α : Type} {sp dp n : Int32} {n0 n1 : Nat} {x : Option α} {r : α} (h : jb_gc sp dp n n0 n1 x = some r) : (¬ sp < 0 ∧ ¬ dp < 0 ∧ ¬ n < 0 ∧ sp.toNatClampNeg + n.toNatClampNeg ≤ n0 ∧ dp.toNatClampNeg + n.toNatClampNeg ≤ n1) ∧ x = some r := by
  unfold jb_gc at h
  split at h
  · rename_i g; exact ⟨g, h⟩
  · cases h
def jb_gz {α : Type} (i : Int32) (x : Bool → Option α) : Option α := if i = 0 then x false else if i = 1 then x true else none
theorem jb_bd_of {α β : Type} {x : Option α} {f : α → Option β} {r : β} (h : x.bind f = some r) : ∃ a, x = some a ∧ f a = some r := by
  cases x with
  | none => cases h
  | some a => exact ⟨a, rfl, h⟩
theorem jb_mp_of {α β : Type} {x : Option α} {f : α → β} {r : β} (h : x.map f = some r) : ∃ a, x = some a ∧ f a = r := by
  cases x with
  | none => cases h
  | some a => exact ⟨a, rfl, Option.some.inj h⟩
def jb_lpN {S X : Type} (f : S → Option (S ⊕ X)) : Nat → S → Option X
  | 0, _ => none
  | n + 1, s => match f s with
    | none => none
    | some (.inl s') => jb_lpN f n s'
    | some (.inr x) => some x
theorem jb_lpN_mono {S X : Type} (f : S → Option (S ⊕ X)) : ∀ (n : Nat) (s : S) (x : X), jb_lpN f n s = some x → jb_lpN f (n + 1) s = some x
  | 0, s, x, h => by cases h
  | n + 1, s, x, h => by
    unfold jb_lpN at h ⊢
    split at h
    · cases h
    · rename_i s' hs; exact jb_lpN_mono f n s' x h
    · exact h
theorem jb_lpN_le {S X : Type} (f : S → Option (S ⊕ X)) {n m : Nat} (h : n ≤ m) {s : S} {x : X} (hx : jb_lpN f n s = some x) : jb_lpN f m s = some x := by
  induction h with
  | refl => exact hx
  | step _ ih => exact jb_lpN_mono f _ s x ih
noncomputable def jb_lp {S X : Type} (f : S → Option (S ⊕ X)) (s : S) : Option X := @dite (Option X) (∃ (n : Nat) (x : X), jb_lpN f n s = some x) (Classical.propDecidable _) (fun h => jb_lpN f h.choose s) (fun _ => none)
theorem jb_lp_iff {S X : Type} (f : S → Option (S ⊕ X)) (s : S) (x : X) : jb_lp f s = some x ↔ ∃ n, jb_lpN f n s = some x := by
  unfold jb_lp
  constructor
  · intro h
    split at h
    · rename_i g; exact ⟨_, h⟩
    · cases h
  · rintro ⟨n, hn⟩
    have g : ∃ (n : Nat) (x : X), jb_lpN f n s = some x := ⟨n, x, hn⟩
    rw [dif_pos g]
    obtain ⟨y, hy⟩ := g.choose_spec
    rw [hy]
    have h1 := jb_lpN_le f (Nat.le_max_left n g.choose) hn
    have h2 := jb_lpN_le f (Nat.le_max_right n g.choose) hy
    rw [h1] at h2
    exact h2.symm
theorem jb_lp_inl {S X : Type} {f : S → Option (S ⊕ X)} {s s' : S} (h : f s = some (.inl s')) : jb_lp f s = jb_lp f s' := by
  apply Option.ext
  intro x
  rw [jb_lp_iff, jb_lp_iff]
  constructor
  · rintro ⟨n, hn⟩
    cases n with
    | zero => cases hn
    | succ n => rw [jb_lpN, h] at hn; exact ⟨n, hn⟩
  · rintro ⟨n, hn⟩
    exact ⟨n + 1, by rw [jb_lpN, h]; exact hn⟩
theorem jb_lp_inr {S X : Type} {f : S → Option (S ⊕ X)} {s : S} {x : X} (h : f s = some (.inr x)) : jb_lp f s = some x := (jb_lp_iff f s x).mpr ⟨1, by rw [jb_lpN, h]⟩
def jb_K {S X : Type} (P : S → Prop) (K : X → Prop) : S ⊕ X → Prop
  | .inl s => P s
  | .inr x => K x
theorem jb_lp_ind {S X : Type} {f : S → Option (S ⊕ X)} {P : S → Prop} {K : X → Prop} (hs : ∀ s r, f s = some r → jb_K P K r → P s) {s : S} {x : X} (h : jb_lp f s = some x) (hK : K x) : P s := by
  obtain ⟨n, hn⟩ := (jb_lp_iff f s x).mp h
  clear h
  induction n generalizing s with
  | zero => cases hn
  | succ n ih =>
    unfold jb_lpN at hn
    split at hn
    · cases hn
    · rename_i s' hs'; exact hs s _ hs' (ih hn)
    · rename_i x' hx'; cases hn; exact hs s _ hx' hK
theorem jb_cat {l : List Value} (h : (l.all fun v => Nat.beq v.category 1) = true) : ∀ v ∈ l, v.category = 1 := fun v hv => Nat.eq_of_beq_eq_true (List.all_eq_true.mp h v hv)
theorem jb_gz_of {α : Type} {i : Int32} {x : Bool → Option α} {r : α} (h : jb_gz i x = some r) : (i = 0 ∧ x false = some r) ∨ (i = 1 ∧ x true = some r) := by
  unfold jb_gz at h
  split at h
  · rename_i g; exact Or.inl ⟨g, h⟩
  · split at h
    · rename_i g; exact Or.inr ⟨g, h⟩
    · cases h
theorem jb_swc {Γ : jb_G} {d : Nat} {q : jb_Q} {k : Int32} {p d0 : Nat} {l : List (Int32 × Nat)} {x : Int32} {ls : jb_Ls} {st : List Value} {σ : jb_S} {v : Option Value} {σ2 : jb_S} (h1 : x = k → jb_V Γ d q p ls st σ v σ2) (h2 : ¬ x = k → jb_V Γ d q (jb_sw l d0 x) ls st σ v σ2) : jb_V Γ d q (jb_sw ((k, p) :: l) d0 x) ls st σ v σ2 := by
  show jb_V Γ d q (if x = k then p else jb_sw l d0 x) ls st σ v σ2
  exact jb_ite h1 h2
theorem jb_swn {Γ : jb_G} {d : Nat} {q : jb_Q} {d0 : Nat} {x : Int32} {ls : jb_Ls} {st : List Value} {σ : jb_S} {v : Option Value} {σ2 : jb_S} (h : jb_V Γ d q d0 ls st σ v σ2) : jb_V Γ d q (jb_sw [] d0 x) ls st σ v σ2 := h
def zE_sh : jb_Sh := [(22, 15), (20, 2), (0, 260), (19, 12), (0, 6), (0, 6), (0, 6), (0, 24), (0, 24), (0, 24), (0, 24), (0, 16), (0, 16), (19, 12), (0, 6), (0, 6), (0, 6), (0, 24), (0, 24), (0, 24), (0, 24), (0, 16), (0, 16), (19, 12), (0, 6), (0, 6), (0, 6), (0, 24), (0, 24), (0, 24), (0, 24), (0, 16), (0, 16), (18, 8), (0, 1152), (0, 24), (0, 48), (0, 2), (0, 2), (0, 2), (11, 5), (0, 16), (17, 4), (15, 7), (0, 240), (0, 240), (0, 16), (0, 16), (0, 16), (16, 4), (15, 7), (0, 240), (0, 240), (0, 16), (0, 16), (0, 16), (14, 4), (0, 10), (0, 32), (21, 9), (0, 24), (21, 9), (0, 24), (10, 13), (0, 4), (2, 4), (0, 48), (0, 4), (0, 4), (12, 3), (0, 6), (0, 6), (13, 6), (0, 40), (2, 40), (2, 40), (0, 9), (0, 64), (23, 58), (0, 149), (0, 149), (0, 149), (1, 260), (0, 260), (0, 260), (0, 16), (0, 16), (0, 16), (0, 16), (0, 260), (0, 16), (0, 16), (0, 16), (0, 16), (0, 260), (0, 10), (1, 1152), (0, 24), (0, 48), (0, 2), (0, 2), (0, 2), (0, 6), (0, 4), (0, 4), (0, 4), (0, 12), (2, 4), (0, 64), (2, 64), (2, 64), (0, 64)]
def jb_nth : List Nat → Nat → Nat
  | [], _ => 0
  | x :: _, 0 => x
  | _ :: r, n + 1 => jb_nth r n
def zE_rf : jb_Rf := fun a j => (bif Nat.blt a 50 then (bif Nat.blt a 24 then (bif Nat.blt a 4 then (bif Nat.blt a 2 then (bif Nat.beq a 1 then jb_nth [2, 4, 14, 24, 34, 41, 43, 44, 50, 60, 62, 64, 70, 73] j else 0) else (bif Nat.beq a 2 then jb_nth [3] j else 0)) else (bif Nat.blt a 14 then (bif Nat.beq a 4 then jb_nth [5, 6, 7, 8, 9, 10, 11, 12, 13] j else 0) else (bif Nat.beq a 14 then jb_nth [15, 16, 17, 18, 19, 20, 21, 22, 23] j else 0))) else (bif Nat.blt a 41 then (bif Nat.blt a 34 then (bif Nat.beq a 24 then jb_nth [25, 26, 27, 28, 29, 30, 31, 32, 33] j else 0) else (bif Nat.beq a 34 then jb_nth [35, 36, 37, 0, 38, 39, 40] j else 0)) else (bif Nat.blt a 43 then (bif Nat.beq a 41 then jb_nth [4, 34, 42] j else 0) else (bif Nat.blt a 44 then (bif Nat.beq a 43 then jb_nth [2, 24] j else 0) else (bif Nat.beq a 44 then jb_nth [45, 46, 47, 48, 49] j else 0))))) else (bif Nat.blt a 62 then (bif Nat.blt a 57 then (bif Nat.blt a 51 then (bif Nat.beq a 50 then jb_nth [2, 51] j else 0) else (bif Nat.beq a 51 then jb_nth [52, 53, 54, 55, 56] j else 0)) else (bif Nat.blt a 60 then (bif Nat.beq a 57 then jb_nth [44, 58, 59] j else 0) else (bif Nat.beq a 60 then jb_nth [4, 34, 57, 61] j else 0))) else (bif Nat.blt a 70 then (bif Nat.blt a 64 then (bif Nat.beq a 62 then jb_nth [24, 34, 57, 63] j else 0) else (bif Nat.beq a 64 then jb_nth [4, 41, 65, 66, 67, 68, 0, 0, 0, 69] j else 0)) else (bif Nat.blt a 73 then (bif Nat.beq a 70 then jb_nth [4, 71, 72] j else 0) else (bif Nat.blt a 79 then (bif Nat.beq a 73 then jb_nth [74, 0, 75, 76, 77, 78] j else 0) else (bif Nat.beq a 79 then jb_nth [80, 81, 82, 83, 0, 0, 0, 0, 0, 0, 0, 0, 0, 0, 84, 85, 86, 87, 88, 89, 90, 91, 92, 93, 94, 95, 96, 97, 98, 99, 100, 101, 102, 0, 0, 0, 0, 0, 0, 0, 0, 0, 0, 0, 0, 103, 104, 105, 106, 0, 0, 107, 108, 109, 110, 111, 112] j else 0))))))
def zE (L : Nat) : jb_Sh × jb_Rf := ((9, L) :: zE_sh, zE_rf)
