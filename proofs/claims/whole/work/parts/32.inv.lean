/-! the invariant between two calls (n: calls so far) -/
def jTp (bs : List Nat) (M : jb_Mi) : Prop := bs.length ≤ 260 ∧ M 2 1 = nI bs.length ∧ M 79 4 = nI bs.length ∧ ∀ k, k < bs.length → bs.getD k 0 < 256 ∧ M 3 k = nI (bs.getD k 0) ∧ M 83 k &&& 255 = nI (bs.getD k 0)
/-- rosters: R q the hours of corner q (a man 0 to 15, or 16: nobody) -/
def jRo (R : Nat → List Nat) (M : jb_Mi) : Prop := ∀ q, q < 24 → (R q).length ≤ 48 ∧ M 36 q = nI (R q).length ∧ M 98 q = nI (R q).length ∧ ∀ k, k < (R q).length →
  ((R q).getD k 16 < 16 ∧ M 35 (48 * q + k) = nI ((R q).getD k 16) ∧ M 97 (48 * q + k) = nI ((R q).getD k 16)) ∨ ((R q).getD k 16 = 16 ∧ M 35 (48 * q + k) = (-2) ∧ M 97 (48 * q + k) = (-1))
def jKe (n : Nat) (M : jb_Mi) : Prop := (M 1 14 = 0 ∧ M 79 57 = 0) ∨ (M 1 14 = 1 ∧ M 79 57 = 1 ∧ ∃ K : jSt, jC 14 K M ∧ jD 82 K M ∧ jR K ∧ 24 * K 9 1 + K 9 0 ≤ 240 * n)
/-! THE LAW as steps (op, arg): 0 a number, 1 a fact, 2 + 3 - 4 * 5 / 6 % 7 < 8 > 9 = 10 not 11 and 12 or (arg: where to, from the piece's first step on) -/
abbrev jPc : Type := List (Nat × Nat)
def cop (o : Nat) : Nat := if o = 0 then 1 else if o = 1 then 2 else if o = 2 then 43 else if o = 3 then 45 else if o = 4 then 42 else if o = 5 then 47 else if o = 6 then 37 else if o = 7 then 60 else if o = 8 then 62 else if o = 9 then 61 else if o = 10 then 3 else if o = 11 then 4 else 5
def pat (p : jPc) (k : Nat) : Nat × Nat := p.getD k (0, 0)
def ptg (s : Nat) (i : Nat × Nat) : Nat := if 11 ≤ i.1 then s + i.2 else i.2
/-- a piece in the class's two rows, in the reference's one -/
def cC (a b s : Nat) (p : jPc) (M : jb_Mi) : Prop := ∀ k, k < p.length → M a (s + k) = nI (cop (pat p k).1) ∧ M b (s + k) = nI (ptg s (pat p k))
def cD (a s : Nat) (p : jPc) (M : jb_Mi) : Prop := ∀ k, k < p.length → M a (s + k) = nI (1048576 * (pat p k).1 + ptg s (pat p k))
/-- how many values lie on the stack ahead of step k; whether the uppermost is 0 or 1 -/
def dst (i : Nat × Nat) (d : Nat) : Nat := if i.1 ≤ 1 then d + 1 else if i.1 = 10 then d else d - 1
def dp (p : jPc) : Nat → Nat
  | 0 => 0
  | k + 1 => dst (pat p k) (dp p k)
def isb (p : jPc) (k : Nat) : Prop := 0 < k ∧ 7 ≤ (pat p (k - 1)).1 ∧ (pat p (k - 1)).1 ≤ 10
def okI (p : jPc) (k : Nat) : Prop := (pat p k).1 ≤ 12 ∧ (pat p k).2 < 100000 ∧ ((pat p k).1 ≤ 1 → dp p k ≤ 30) ∧ ((pat p k).1 = 1 → (pat p k).2 < 10) ∧ (2 ≤ (pat p k).1 → (pat p k).1 ≤ 9 → 2 ≤ dp p k) ∧ (10 ≤ (pat p k).1 → 1 ≤ dp p k ∧ isb p k) ∧ (11 ≤ (pat p k).1 → k < (pat p k).2 ∧ (pat p k).2 ≤ p.length ∧ dp p (pat p k).2 = dp p k ∧ isb p (pat p k).2)
def okP (p : jPc) : Prop := (∀ k, k < p.length → okI p k) ∧ dp p p.length = 1
/-- rule r: its letter, its E (of x none), its C -/
def okR (M : jb_Mi) (sz r e : Nat) (E C : jPc) (s t f : Nat) : Prop := e < 256 ∧ M 47 r = nI e ∧ M 91 r = nI e ∧ M 48 r = nI s ∧ M 49 r = nI t ∧ M 92 r = nI f ∧ M 93 r = nI (f + E.length) ∧ M 94 r = nI (f + E.length + C.length) ∧ f + E.length + C.length ≤ 240 ∧ (t + C.length < sz ∧ cC 45 46 t C M ∧ M 45 (t + C.length) = 0 ∧ cD 90 (f + E.length) C M ∧ okP C ∧ isb C C.length) ∧ (e ≠ 120 → s + E.length < sz ∧ cC 45 46 s E M ∧ M 45 (s + E.length) = 0 ∧ cD 90 f E M ∧ okP E)
def jLx (M : jb_Mi) : Prop := ∃ n sz, n ≤ 16 ∧ sz ≤ 240 ∧ M 44 6 = nI n ∧ M 79 13 = nI n ∧ M 44 5 = nI sz ∧ ∀ r, r < n → ∃ e E C s t f, okR M sz r e E C s t f
/-- THE LAW's own part; and the first end of beams -/
def jLw (M : jb_Mi) : Prop := jLx M ∧ M 77 0 = 0
theorem jLw_n {M : jb_Mi} (h : jLw M) : M 44 6 = M 79 13 := by
  obtain ⟨⟨n, sz, -, -, h1, h2, -⟩, -⟩ := h
  rw [h1, h2]
def jInv (n : Nat) (M : jb_Mi) (N : jb_Ml) : Prop := (∃ S : jSt, jC 4 S M ∧ jD 80 S M ∧ jR S ∧ 24 * S 9 1 + S 9 0 ≤ 240 * n) ∧ jKe n M ∧ (∃ bs, jTp bs M) ∧ (∃ R, jRo R M) ∧ jLw M
theorem jInv_mono {n : Nat} {M : jb_Mi} {N : jb_Ml} (h : jInv n M N) : jInv (n + 1) M N := by
  obtain ⟨⟨S, h1, h2, h3, h4⟩, h5, h6⟩ := h
  refine ⟨⟨S, h1, h2, h3, by omega⟩, ?_, h6⟩
  rcases h5 with h5 | ⟨a, b, K, c, d, e, f⟩
  · exact Or.inl h5
  · exact Or.inr ⟨a, b, K, c, d, e, by omega⟩
theorem jInv_0 {M : jb_Mi} {N : jb_Ml} (hi : zb_init M) : jInv 0 M N := by
  have h80 := hi 80 (by decide) (by decide)
  have z : ∀ a, 1 ≤ a → a ≤ 112 → a ≠ 4 → a ≠ 14 → a ≠ 24 → a ≠ 80 → ∀ j, M a j = 0 := by
    intro a h1 h2 h3 h4 h5 h6 j
    rw [hi a h1 h2]
    simp [zb_I, h3, h4, h5, h6]
  have z4 : ∀ j, j ≠ 11 → M 4 j = 0 := by
    intro j hj
    rw [hi 4 (by decide) (by decide)]
    simp [zb_I, hj]
  have z4b : M 4 11 = 1 := by rw [hi 4 (by decide) (by decide)]; rfl
  have y1 : ∀ j, j ≠ 148 → (j < 18 ∨ 42 ≤ j) → M 80 j = 0 := by
    intro j h1 h2
    rw [h80]
    simp [zb_I, h1]
    omega
  have y2 : ∀ j, 18 ≤ j → j < 42 → M 80 j = (-1) := by
    intro j h1 h2
    rw [h80]
    have : j ≠ 148 := by omega
    simp [zb_I, this, h1, h2]
  have y3 : M 80 148 = 1 := by rw [h80]; rfl
  refine ⟨⟨fun a j => if a = 9 ∧ j = 2 then 1 else 0, ?_, ?_, ?_, by simp⟩, Or.inl ⟨z 1 (by decide) (by decide) (by decide) (by decide) (by decide) (by decide) 14, z 79 (by decide) (by decide) (by decide) (by decide) (by decide) (by decide) 57⟩, ⟨[], by simp, z 2 (by decide) (by decide) (by decide) (by decide) (by decide) (by decide) 1, z 79 (by decide) (by decide) (by decide) (by decide) (by decide) (by decide) 4, fun k hk => by simp at hk⟩, ⟨fun _ => [], fun q hq => ⟨by simp, z 36 (by decide) (by decide) (by decide) (by decide) (by decide) (by decide) q, z 98 (by decide) (by decide) (by decide) (by decide) (by decide) (by decide) q, fun k hk => by simp at hk⟩⟩, ⟨⟨0, 0, by decide, by decide, z 44 (by decide) (by decide) (by decide) (by decide) (by decide) (by decide) 6, z 79 (by decide) (by decide) (by decide) (by decide) (by decide) (by decide) 13, z 44 (by decide) (by decide) (by decide) (by decide) (by decide) (by decide) 5, fun r hr => by omega⟩, z 77 (by decide) (by decide) (by decide) (by decide) (by decide) (by decide) 0⟩⟩
  · refine ⟨fun j hj => ?_, fun j hj => ?_, fun j hj => ?_, ?_⟩
    · exact ⟨z 5 (by decide) (by decide) (by decide) (by decide) (by decide) (by decide) j, z 6 (by decide) (by decide) (by decide) (by decide) (by decide) (by decide) j, z 7 (by decide) (by decide) (by decide) (by decide) (by decide) (by decide) j⟩
    · exact ⟨z 8 (by decide) (by decide) (by decide) (by decide) (by decide) (by decide) j, z 9 (by decide) (by decide) (by decide) (by decide) (by decide) (by decide) j, z 10 (by decide) (by decide) (by decide) (by decide) (by decide) (by decide) j, z 11 (by decide) (by decide) (by decide) (by decide) (by decide) (by decide) j⟩
    · exact ⟨z 12 (by decide) (by decide) (by decide) (by decide) (by decide) (by decide) j, z 13 (by decide) (by decide) (by decide) (by decide) (by decide) (by decide) j⟩
    · exact ⟨z4 9 (by decide), z4 10 (by decide), z4b⟩
  · refine ⟨fun j hj => ?_, fun j hj => ?_, fun j hj => ?_, ?_⟩
    · exact ⟨y1 j (by omega) (by omega), y1 (6 + j) (by omega) (by omega), y1 (12 + j) (by omega) (by omega)⟩
    · exact ⟨fun _ => y2 (18 + j) (by omega) (by omega), fun h => absurd (by simp) h⟩
    · exact ⟨y1 (114 + j) (by omega) (by omega), y1 (130 + j) (by omega) (by omega)⟩
    · exact ⟨y1 146 (by omega) (by omega), y1 147 (by omega) (by omega), y3⟩
  · simp [jR]
