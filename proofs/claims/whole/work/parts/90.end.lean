set_option maxRecDepth 20000 in
theorem zb_c1 (M : jb_Mi) : zM_264 M 1 = (fun _ => 0) := rfl
set_option maxRecDepth 20000 in
theorem zb_c2 (M : jb_Mi) : zM_264 M 2 = (fun _ => 0) := rfl
set_option maxRecDepth 20000 in
theorem zb_c3 (M : jb_Mi) : zM_264 M 3 = (fun _ => 0) := rfl
set_option maxRecDepth 20000 in
theorem zb_c4 (M : jb_Mi) : zM_264 M 4 = upd (fun _ => 0) 11 1 := rfl
set_option maxRecDepth 20000 in
theorem zb_c5 (M : jb_Mi) : zM_264 M 5 = (fun _ => 0) := rfl
set_option maxRecDepth 20000 in
theorem zb_c6 (M : jb_Mi) : zM_264 M 6 = (fun _ => 0) := rfl
set_option maxRecDepth 20000 in
theorem zb_c7 (M : jb_Mi) : zM_264 M 7 = (fun _ => 0) := rfl
set_option maxRecDepth 20000 in
theorem zb_c8 (M : jb_Mi) : zM_264 M 8 = (fun _ => 0) := rfl
set_option maxRecDepth 20000 in
theorem zb_c9 (M : jb_Mi) : zM_264 M 9 = (fun _ => 0) := rfl
set_option maxRecDepth 20000 in
theorem zb_c10 (M : jb_Mi) : zM_264 M 10 = (fun _ => 0) := rfl
set_option maxRecDepth 20000 in
theorem zb_c11 (M : jb_Mi) : zM_264 M 11 = (fun _ => 0) := rfl
set_option maxRecDepth 20000 in
theorem zb_c12 (M : jb_Mi) : zM_264 M 12 = (fun _ => 0) := rfl
set_option maxRecDepth 20000 in
theorem zb_c13 (M : jb_Mi) : zM_264 M 13 = (fun _ => 0) := rfl
set_option maxRecDepth 20000 in
theorem zb_c14 (M : jb_Mi) : zM_264 M 14 = upd (fun _ => 0) 11 1 := rfl
set_option maxRecDepth 20000 in
theorem zb_c15 (M : jb_Mi) : zM_264 M 15 = (fun _ => 0) := rfl
set_option maxRecDepth 20000 in
theorem zb_c16 (M : jb_Mi) : zM_264 M 16 = (fun _ => 0) := rfl
set_option maxRecDepth 20000 in
theorem zb_c17 (M : jb_Mi) : zM_264 M 17 = (fun _ => 0) := rfl
set_option maxRecDepth 20000 in
theorem zb_c18 (M : jb_Mi) : zM_264 M 18 = (fun _ => 0) := rfl
set_option maxRecDepth 20000 in
theorem zb_c19 (M : jb_Mi) : zM_264 M 19 = (fun _ => 0) := rfl
set_option maxRecDepth 20000 in
theorem zb_c20 (M : jb_Mi) : zM_264 M 20 = (fun _ => 0) := rfl
set_option maxRecDepth 20000 in
theorem zb_c21 (M : jb_Mi) : zM_264 M 21 = (fun _ => 0) := rfl
set_option maxRecDepth 20000 in
theorem zb_c22 (M : jb_Mi) : zM_264 M 22 = (fun _ => 0) := rfl
set_option maxRecDepth 20000 in
theorem zb_c23 (M : jb_Mi) : zM_264 M 23 = (fun _ => 0) := rfl
set_option maxRecDepth 20000 in
theorem zb_c24 (M : jb_Mi) : zM_264 M 24 = upd (fun _ => 0) 11 1 := rfl
set_option maxRecDepth 20000 in
theorem zb_c25 (M : jb_Mi) : zM_264 M 25 = (fun _ => 0) := rfl
set_option maxRecDepth 20000 in
theorem zb_c26 (M : jb_Mi) : zM_264 M 26 = (fun _ => 0) := rfl
set_option maxRecDepth 20000 in
theorem zb_c27 (M : jb_Mi) : zM_264 M 27 = (fun _ => 0) := rfl
set_option maxRecDepth 20000 in
theorem zb_c28 (M : jb_Mi) : zM_264 M 28 = (fun _ => 0) := rfl
set_option maxRecDepth 20000 in
theorem zb_c29 (M : jb_Mi) : zM_264 M 29 = (fun _ => 0) := rfl
set_option maxRecDepth 20000 in
theorem zb_c30 (M : jb_Mi) : zM_264 M 30 = (fun _ => 0) := rfl
set_option maxRecDepth 20000 in
theorem zb_c31 (M : jb_Mi) : zM_264 M 31 = (fun _ => 0) := rfl
set_option maxRecDepth 20000 in
theorem zb_c32 (M : jb_Mi) : zM_264 M 32 = (fun _ => 0) := rfl
set_option maxRecDepth 20000 in
theorem zb_c33 (M : jb_Mi) : zM_264 M 33 = (fun _ => 0) := rfl
set_option maxRecDepth 20000 in
theorem zb_c34 (M : jb_Mi) : zM_264 M 34 = (fun _ => 0) := rfl
set_option maxRecDepth 20000 in
theorem zb_c35 (M : jb_Mi) : zM_264 M 35 = (fun _ => 0) := rfl
set_option maxRecDepth 20000 in
theorem zb_c36 (M : jb_Mi) : zM_264 M 36 = (fun _ => 0) := rfl
set_option maxRecDepth 20000 in
theorem zb_c37 (M : jb_Mi) : zM_264 M 37 = (fun _ => 0) := rfl
set_option maxRecDepth 20000 in
theorem zb_c38 (M : jb_Mi) : zM_264 M 38 = (fun _ => 0) := rfl
set_option maxRecDepth 20000 in
theorem zb_c39 (M : jb_Mi) : zM_264 M 39 = (fun _ => 0) := rfl
set_option maxRecDepth 20000 in
theorem zb_c40 (M : jb_Mi) : zM_264 M 40 = (fun _ => 0) := rfl
set_option maxRecDepth 20000 in
theorem zb_c41 (M : jb_Mi) : zM_264 M 41 = (fun _ => 0) := rfl
set_option maxRecDepth 20000 in
theorem zb_c42 (M : jb_Mi) : zM_264 M 42 = (fun _ => 0) := rfl
set_option maxRecDepth 20000 in
theorem zb_c43 (M : jb_Mi) : zM_264 M 43 = (fun _ => 0) := rfl
set_option maxRecDepth 20000 in
theorem zb_c44 (M : jb_Mi) : zM_264 M 44 = (fun _ => 0) := rfl
set_option maxRecDepth 20000 in
theorem zb_c45 (M : jb_Mi) : zM_264 M 45 = (fun _ => 0) := rfl
set_option maxRecDepth 20000 in
theorem zb_c46 (M : jb_Mi) : zM_264 M 46 = (fun _ => 0) := rfl
set_option maxRecDepth 20000 in
theorem zb_c47 (M : jb_Mi) : zM_264 M 47 = (fun _ => 0) := rfl
set_option maxRecDepth 20000 in
theorem zb_c48 (M : jb_Mi) : zM_264 M 48 = (fun _ => 0) := rfl
set_option maxRecDepth 20000 in
theorem zb_c49 (M : jb_Mi) : zM_264 M 49 = (fun _ => 0) := rfl
set_option maxRecDepth 20000 in
theorem zb_c50 (M : jb_Mi) : zM_264 M 50 = (fun _ => 0) := rfl
set_option maxRecDepth 20000 in
theorem zb_c51 (M : jb_Mi) : zM_264 M 51 = (fun _ => 0) := rfl
set_option maxRecDepth 20000 in
theorem zb_c52 (M : jb_Mi) : zM_264 M 52 = (fun _ => 0) := rfl
set_option maxRecDepth 20000 in
theorem zb_c53 (M : jb_Mi) : zM_264 M 53 = (fun _ => 0) := rfl
set_option maxRecDepth 20000 in
theorem zb_c54 (M : jb_Mi) : zM_264 M 54 = (fun _ => 0) := rfl
set_option maxRecDepth 20000 in
theorem zb_c55 (M : jb_Mi) : zM_264 M 55 = (fun _ => 0) := rfl
set_option maxRecDepth 20000 in
theorem zb_c56 (M : jb_Mi) : zM_264 M 56 = (fun _ => 0) := rfl
set_option maxRecDepth 20000 in
theorem zb_c57 (M : jb_Mi) : zM_264 M 57 = (fun _ => 0) := rfl
set_option maxRecDepth 20000 in
theorem zb_c58 (M : jb_Mi) : zM_264 M 58 = (fun _ => 0) := rfl
set_option maxRecDepth 20000 in
theorem zb_c59 (M : jb_Mi) : zM_264 M 59 = (fun _ => 0) := rfl
set_option maxRecDepth 20000 in
theorem zb_c60 (M : jb_Mi) : zM_264 M 60 = (fun _ => 0) := rfl
set_option maxRecDepth 20000 in
theorem zb_c61 (M : jb_Mi) : zM_264 M 61 = (fun _ => 0) := rfl
set_option maxRecDepth 20000 in
theorem zb_c62 (M : jb_Mi) : zM_264 M 62 = (fun _ => 0) := rfl
set_option maxRecDepth 20000 in
theorem zb_c63 (M : jb_Mi) : zM_264 M 63 = (fun _ => 0) := rfl
set_option maxRecDepth 20000 in
theorem zb_c64 (M : jb_Mi) : zM_264 M 64 = (fun _ => 0) := rfl
set_option maxRecDepth 20000 in
theorem zb_c65 (M : jb_Mi) : zM_264 M 65 = (fun _ => 0) := rfl
set_option maxRecDepth 20000 in
theorem zb_c66 (M : jb_Mi) : zM_264 M 66 = (fun _ => 0) := rfl
set_option maxRecDepth 20000 in
theorem zb_c67 (M : jb_Mi) : zM_264 M 67 = (fun _ => 0) := rfl
set_option maxRecDepth 20000 in
theorem zb_c68 (M : jb_Mi) : zM_264 M 68 = (fun _ => 0) := rfl
set_option maxRecDepth 20000 in
theorem zb_c69 (M : jb_Mi) : zM_264 M 69 = (fun _ => 0) := rfl
set_option maxRecDepth 20000 in
theorem zb_c70 (M : jb_Mi) : zM_264 M 70 = (fun _ => 0) := rfl
set_option maxRecDepth 20000 in
theorem zb_c71 (M : jb_Mi) : zM_264 M 71 = (fun _ => 0) := rfl
set_option maxRecDepth 20000 in
theorem zb_c72 (M : jb_Mi) : zM_264 M 72 = (fun _ => 0) := rfl
set_option maxRecDepth 20000 in
theorem zb_c73 (M : jb_Mi) : zM_264 M 73 = (fun _ => 0) := rfl
set_option maxRecDepth 20000 in
theorem zb_c74 (M : jb_Mi) : zM_264 M 74 = (fun _ => 0) := rfl
set_option maxRecDepth 20000 in
theorem zb_c75 (M : jb_Mi) : zM_264 M 75 = (fun _ => 0) := rfl
set_option maxRecDepth 20000 in
theorem zb_c76 (M : jb_Mi) : zM_264 M 76 = (fun _ => 0) := rfl
set_option maxRecDepth 20000 in
theorem zb_c77 (M : jb_Mi) : zM_264 M 77 = (fun _ => 0) := rfl
set_option maxRecDepth 20000 in
theorem zb_c78 (M : jb_Mi) : zM_264 M 78 = (fun _ => 0) := rfl
set_option maxRecDepth 20000 in
theorem zb_c79 (M : jb_Mi) : zM_264 M 79 = (fun _ => 0) := rfl
set_option maxRecDepth 20000 in
theorem zb_c80 (M : jb_Mi) : zM_264 M 80 = (upd (upd (upd (upd (upd (upd (upd (upd (upd (upd (upd (upd (upd (upd (upd (upd (upd (upd (upd (upd (upd (upd (upd (upd (upd (fun _ => 0) 148 1) 18 (-1)) 19 (-1)) 20 (-1)) 21 (-1)) 22 (-1)) 23 (-1)) 24 (-1)) 25 (-1)) 26 (-1)) 27 (-1)) 28 (-1)) 29 (-1)) 30 (-1)) 31 (-1)) 32 (-1)) 33 (-1)) 34 (-1)) 35 (-1)) 36 (-1)) 37 (-1)) 38 (-1)) 39 (-1)) 40 (-1)) 41 (-1)) := rfl
set_option maxRecDepth 20000 in
theorem zb_c81 (M : jb_Mi) : zM_264 M 81 = (fun _ => 0) := rfl
set_option maxRecDepth 20000 in
theorem zb_c82 (M : jb_Mi) : zM_264 M 82 = (fun _ => 0) := rfl
set_option maxRecDepth 20000 in
theorem zb_c83 (M : jb_Mi) : zM_264 M 83 = (fun _ => 0) := rfl
set_option maxRecDepth 20000 in
theorem zb_c84 (M : jb_Mi) : zM_264 M 84 = (fun _ => 0) := rfl
set_option maxRecDepth 20000 in
theorem zb_c85 (M : jb_Mi) : zM_264 M 85 = (fun _ => 0) := rfl
set_option maxRecDepth 20000 in
theorem zb_c86 (M : jb_Mi) : zM_264 M 86 = (fun _ => 0) := rfl
set_option maxRecDepth 20000 in
theorem zb_c87 (M : jb_Mi) : zM_264 M 87 = (fun _ => 0) := rfl
set_option maxRecDepth 20000 in
theorem zb_c88 (M : jb_Mi) : zM_264 M 88 = (fun _ => 0) := rfl
set_option maxRecDepth 20000 in
theorem zb_c89 (M : jb_Mi) : zM_264 M 89 = (fun _ => 0) := rfl
set_option maxRecDepth 20000 in
theorem zb_c90 (M : jb_Mi) : zM_264 M 90 = (fun _ => 0) := rfl
set_option maxRecDepth 20000 in
theorem zb_c91 (M : jb_Mi) : zM_264 M 91 = (fun _ => 0) := rfl
set_option maxRecDepth 20000 in
theorem zb_c92 (M : jb_Mi) : zM_264 M 92 = (fun _ => 0) := rfl
set_option maxRecDepth 20000 in
theorem zb_c93 (M : jb_Mi) : zM_264 M 93 = (fun _ => 0) := rfl
set_option maxRecDepth 20000 in
theorem zb_c94 (M : jb_Mi) : zM_264 M 94 = (fun _ => 0) := rfl
set_option maxRecDepth 20000 in
theorem zb_c95 (M : jb_Mi) : zM_264 M 95 = (fun _ => 0) := rfl
set_option maxRecDepth 20000 in
theorem zb_c96 (M : jb_Mi) : zM_264 M 96 = (fun _ => 0) := rfl
set_option maxRecDepth 20000 in
theorem zb_c97 (M : jb_Mi) : zM_264 M 97 = (fun _ => 0) := rfl
set_option maxRecDepth 20000 in
theorem zb_c98 (M : jb_Mi) : zM_264 M 98 = (fun _ => 0) := rfl
set_option maxRecDepth 20000 in
theorem zb_c99 (M : jb_Mi) : zM_264 M 99 = (fun _ => 0) := rfl
set_option maxRecDepth 20000 in
theorem zb_c100 (M : jb_Mi) : zM_264 M 100 = (fun _ => 0) := rfl
set_option maxRecDepth 20000 in
theorem zb_c101 (M : jb_Mi) : zM_264 M 101 = (fun _ => 0) := rfl
set_option maxRecDepth 20000 in
theorem zb_c102 (M : jb_Mi) : zM_264 M 102 = (fun _ => 0) := rfl
set_option maxRecDepth 20000 in
theorem zb_c103 (M : jb_Mi) : zM_264 M 103 = (fun _ => 0) := rfl
set_option maxRecDepth 20000 in
theorem zb_c104 (M : jb_Mi) : zM_264 M 104 = (fun _ => 0) := rfl
set_option maxRecDepth 20000 in
theorem zb_c105 (M : jb_Mi) : zM_264 M 105 = (fun _ => 0) := rfl
set_option maxRecDepth 20000 in
theorem zb_c106 (M : jb_Mi) : zM_264 M 106 = (fun _ => 0) := rfl
set_option maxRecDepth 20000 in
theorem zb_c107 (M : jb_Mi) : zM_264 M 107 = (fun _ => 0) := rfl
set_option maxRecDepth 20000 in
theorem zb_c108 (M : jb_Mi) : zM_264 M 108 = (fun _ => 0) := rfl
set_option maxRecDepth 20000 in
theorem zb_c109 (M : jb_Mi) : zM_264 M 109 = (fun _ => 0) := rfl
set_option maxRecDepth 20000 in
theorem zb_c110 (M : jb_Mi) : zM_264 M 110 = (fun _ => 0) := rfl
set_option maxRecDepth 20000 in
theorem zb_c111 (M : jb_Mi) : zM_264 M 111 = (fun _ => 0) := rfl
set_option maxRecDepth 20000 in
theorem zb_c112 (M : jb_Mi) : zM_264 M 112 = (fun _ => 0) := rfl
set_option maxRecDepth 20000 in
theorem zb_c0 (M : jb_Mi) : zM_264 M 0 = M 0 := rfl
theorem zb_i80 (M : jb_Mi) : zM_264 M 80 = zb_I 80 := by
  rw [zb_c80]
  funext j
  by_cases h : j < 149
  · have key : ∀ j, j < 149 → (upd (upd (upd (upd (upd (upd (upd (upd (upd (upd (upd (upd (upd (upd (upd (upd (upd (upd (upd (upd (upd (upd (upd (upd (upd (fun _ => 0) 148 1) 18 (-1)) 19 (-1)) 20 (-1)) 21 (-1)) 22 (-1)) 23 (-1)) 24 (-1)) 25 (-1)) 26 (-1)) 27 (-1)) 28 (-1)) 29 (-1)) 30 (-1)) 31 (-1)) 32 (-1)) 33 (-1)) 34 (-1)) 35 (-1)) 36 (-1)) 37 (-1)) 38 (-1)) 39 (-1)) 40 (-1)) 41 (-1)) j = zb_I 80 j := by decide +kernel
    exact key j h
  · have e : zb_I 80 j = 0 := by
      unfold zb_I
      rw [if_neg (by omega), if_neg (by omega), if_neg (by omega)]
    rw [e]
    simp only [upd]
    repeat rw [if_neg (by omega)]
theorem zb_start (M : jb_Mi) : zb_init (zM_264 M) := by
  intro a h1 h2
  obtain ⟨k, rfl⟩ : ∃ k, a = k + 1 := ⟨a - 1, by omega⟩
  have hk : k < 112 := by omega
  clear h1 h2
  have h4 : ∀ a, (a = 4 ∨ a = 14 ∨ a = 24) → upd (fun _ => (0 : Int32)) 11 1 = zb_I a := by
    intro a ha
    funext j
    simp only [upd, zb_I, ha, true_and]
    by_cases hj : j = 11
    · simp [hj]
    · rcases ha with rfl | rfl | rfl <;> simp [hj]
  have h0 : ∀ a, a ≠ 4 → a ≠ 14 → a ≠ 24 → a ≠ 80 → (fun _ => (0 : Int32)) = zb_I a := by
    intro a h1 h2 h3 h4
    funext j
    simp [zb_I, h1, h2, h3, h4]
  match k, hk with
  | 0, _ => exact (zb_c1 M).trans (h0 1 (by decide) (by decide) (by decide) (by decide))
  | 1, _ => exact (zb_c2 M).trans (h0 2 (by decide) (by decide) (by decide) (by decide))
  | 2, _ => exact (zb_c3 M).trans (h0 3 (by decide) (by decide) (by decide) (by decide))
  | 3, _ => exact (zb_c4 M).trans (h4 4 (by decide))
  | 4, _ => exact (zb_c5 M).trans (h0 5 (by decide) (by decide) (by decide) (by decide))
  | 5, _ => exact (zb_c6 M).trans (h0 6 (by decide) (by decide) (by decide) (by decide))
  | 6, _ => exact (zb_c7 M).trans (h0 7 (by decide) (by decide) (by decide) (by decide))
  | 7, _ => exact (zb_c8 M).trans (h0 8 (by decide) (by decide) (by decide) (by decide))
  | 8, _ => exact (zb_c9 M).trans (h0 9 (by decide) (by decide) (by decide) (by decide))
  | 9, _ => exact (zb_c10 M).trans (h0 10 (by decide) (by decide) (by decide) (by decide))
  | 10, _ => exact (zb_c11 M).trans (h0 11 (by decide) (by decide) (by decide) (by decide))
  | 11, _ => exact (zb_c12 M).trans (h0 12 (by decide) (by decide) (by decide) (by decide))
  | 12, _ => exact (zb_c13 M).trans (h0 13 (by decide) (by decide) (by decide) (by decide))
  | 13, _ => exact (zb_c14 M).trans (h4 14 (by decide))
  | 14, _ => exact (zb_c15 M).trans (h0 15 (by decide) (by decide) (by decide) (by decide))
  | 15, _ => exact (zb_c16 M).trans (h0 16 (by decide) (by decide) (by decide) (by decide))
  | 16, _ => exact (zb_c17 M).trans (h0 17 (by decide) (by decide) (by decide) (by decide))
  | 17, _ => exact (zb_c18 M).trans (h0 18 (by decide) (by decide) (by decide) (by decide))
  | 18, _ => exact (zb_c19 M).trans (h0 19 (by decide) (by decide) (by decide) (by decide))
  | 19, _ => exact (zb_c20 M).trans (h0 20 (by decide) (by decide) (by decide) (by decide))
  | 20, _ => exact (zb_c21 M).trans (h0 21 (by decide) (by decide) (by decide) (by decide))
  | 21, _ => exact (zb_c22 M).trans (h0 22 (by decide) (by decide) (by decide) (by decide))
  | 22, _ => exact (zb_c23 M).trans (h0 23 (by decide) (by decide) (by decide) (by decide))
  | 23, _ => exact (zb_c24 M).trans (h4 24 (by decide))
  | 24, _ => exact (zb_c25 M).trans (h0 25 (by decide) (by decide) (by decide) (by decide))
  | 25, _ => exact (zb_c26 M).trans (h0 26 (by decide) (by decide) (by decide) (by decide))
  | 26, _ => exact (zb_c27 M).trans (h0 27 (by decide) (by decide) (by decide) (by decide))
  | 27, _ => exact (zb_c28 M).trans (h0 28 (by decide) (by decide) (by decide) (by decide))
  | 28, _ => exact (zb_c29 M).trans (h0 29 (by decide) (by decide) (by decide) (by decide))
  | 29, _ => exact (zb_c30 M).trans (h0 30 (by decide) (by decide) (by decide) (by decide))
  | 30, _ => exact (zb_c31 M).trans (h0 31 (by decide) (by decide) (by decide) (by decide))
  | 31, _ => exact (zb_c32 M).trans (h0 32 (by decide) (by decide) (by decide) (by decide))
  | 32, _ => exact (zb_c33 M).trans (h0 33 (by decide) (by decide) (by decide) (by decide))
  | 33, _ => exact (zb_c34 M).trans (h0 34 (by decide) (by decide) (by decide) (by decide))
  | 34, _ => exact (zb_c35 M).trans (h0 35 (by decide) (by decide) (by decide) (by decide))
  | 35, _ => exact (zb_c36 M).trans (h0 36 (by decide) (by decide) (by decide) (by decide))
  | 36, _ => exact (zb_c37 M).trans (h0 37 (by decide) (by decide) (by decide) (by decide))
  | 37, _ => exact (zb_c38 M).trans (h0 38 (by decide) (by decide) (by decide) (by decide))
  | 38, _ => exact (zb_c39 M).trans (h0 39 (by decide) (by decide) (by decide) (by decide))
  | 39, _ => exact (zb_c40 M).trans (h0 40 (by decide) (by decide) (by decide) (by decide))
  | 40, _ => exact (zb_c41 M).trans (h0 41 (by decide) (by decide) (by decide) (by decide))
  | 41, _ => exact (zb_c42 M).trans (h0 42 (by decide) (by decide) (by decide) (by decide))
  | 42, _ => exact (zb_c43 M).trans (h0 43 (by decide) (by decide) (by decide) (by decide))
  | 43, _ => exact (zb_c44 M).trans (h0 44 (by decide) (by decide) (by decide) (by decide))
  | 44, _ => exact (zb_c45 M).trans (h0 45 (by decide) (by decide) (by decide) (by decide))
  | 45, _ => exact (zb_c46 M).trans (h0 46 (by decide) (by decide) (by decide) (by decide))
  | 46, _ => exact (zb_c47 M).trans (h0 47 (by decide) (by decide) (by decide) (by decide))
  | 47, _ => exact (zb_c48 M).trans (h0 48 (by decide) (by decide) (by decide) (by decide))
  | 48, _ => exact (zb_c49 M).trans (h0 49 (by decide) (by decide) (by decide) (by decide))
  | 49, _ => exact (zb_c50 M).trans (h0 50 (by decide) (by decide) (by decide) (by decide))
  | 50, _ => exact (zb_c51 M).trans (h0 51 (by decide) (by decide) (by decide) (by decide))
  | 51, _ => exact (zb_c52 M).trans (h0 52 (by decide) (by decide) (by decide) (by decide))
  | 52, _ => exact (zb_c53 M).trans (h0 53 (by decide) (by decide) (by decide) (by decide))
  | 53, _ => exact (zb_c54 M).trans (h0 54 (by decide) (by decide) (by decide) (by decide))
  | 54, _ => exact (zb_c55 M).trans (h0 55 (by decide) (by decide) (by decide) (by decide))
  | 55, _ => exact (zb_c56 M).trans (h0 56 (by decide) (by decide) (by decide) (by decide))
  | 56, _ => exact (zb_c57 M).trans (h0 57 (by decide) (by decide) (by decide) (by decide))
  | 57, _ => exact (zb_c58 M).trans (h0 58 (by decide) (by decide) (by decide) (by decide))
  | 58, _ => exact (zb_c59 M).trans (h0 59 (by decide) (by decide) (by decide) (by decide))
  | 59, _ => exact (zb_c60 M).trans (h0 60 (by decide) (by decide) (by decide) (by decide))
  | 60, _ => exact (zb_c61 M).trans (h0 61 (by decide) (by decide) (by decide) (by decide))
  | 61, _ => exact (zb_c62 M).trans (h0 62 (by decide) (by decide) (by decide) (by decide))
  | 62, _ => exact (zb_c63 M).trans (h0 63 (by decide) (by decide) (by decide) (by decide))
  | 63, _ => exact (zb_c64 M).trans (h0 64 (by decide) (by decide) (by decide) (by decide))
  | 64, _ => exact (zb_c65 M).trans (h0 65 (by decide) (by decide) (by decide) (by decide))
  | 65, _ => exact (zb_c66 M).trans (h0 66 (by decide) (by decide) (by decide) (by decide))
  | 66, _ => exact (zb_c67 M).trans (h0 67 (by decide) (by decide) (by decide) (by decide))
  | 67, _ => exact (zb_c68 M).trans (h0 68 (by decide) (by decide) (by decide) (by decide))
  | 68, _ => exact (zb_c69 M).trans (h0 69 (by decide) (by decide) (by decide) (by decide))
  | 69, _ => exact (zb_c70 M).trans (h0 70 (by decide) (by decide) (by decide) (by decide))
  | 70, _ => exact (zb_c71 M).trans (h0 71 (by decide) (by decide) (by decide) (by decide))
  | 71, _ => exact (zb_c72 M).trans (h0 72 (by decide) (by decide) (by decide) (by decide))
  | 72, _ => exact (zb_c73 M).trans (h0 73 (by decide) (by decide) (by decide) (by decide))
  | 73, _ => exact (zb_c74 M).trans (h0 74 (by decide) (by decide) (by decide) (by decide))
  | 74, _ => exact (zb_c75 M).trans (h0 75 (by decide) (by decide) (by decide) (by decide))
  | 75, _ => exact (zb_c76 M).trans (h0 76 (by decide) (by decide) (by decide) (by decide))
  | 76, _ => exact (zb_c77 M).trans (h0 77 (by decide) (by decide) (by decide) (by decide))
  | 77, _ => exact (zb_c78 M).trans (h0 78 (by decide) (by decide) (by decide) (by decide))
  | 78, _ => exact (zb_c79 M).trans (h0 79 (by decide) (by decide) (by decide) (by decide))
  | 79, _ => exact zb_i80 M
  | 80, _ => exact (zb_c81 M).trans (h0 81 (by decide) (by decide) (by decide) (by decide))
  | 81, _ => exact (zb_c82 M).trans (h0 82 (by decide) (by decide) (by decide) (by decide))
  | 82, _ => exact (zb_c83 M).trans (h0 83 (by decide) (by decide) (by decide) (by decide))
  | 83, _ => exact (zb_c84 M).trans (h0 84 (by decide) (by decide) (by decide) (by decide))
  | 84, _ => exact (zb_c85 M).trans (h0 85 (by decide) (by decide) (by decide) (by decide))
  | 85, _ => exact (zb_c86 M).trans (h0 86 (by decide) (by decide) (by decide) (by decide))
  | 86, _ => exact (zb_c87 M).trans (h0 87 (by decide) (by decide) (by decide) (by decide))
  | 87, _ => exact (zb_c88 M).trans (h0 88 (by decide) (by decide) (by decide) (by decide))
  | 88, _ => exact (zb_c89 M).trans (h0 89 (by decide) (by decide) (by decide) (by decide))
  | 89, _ => exact (zb_c90 M).trans (h0 90 (by decide) (by decide) (by decide) (by decide))
  | 90, _ => exact (zb_c91 M).trans (h0 91 (by decide) (by decide) (by decide) (by decide))
  | 91, _ => exact (zb_c92 M).trans (h0 92 (by decide) (by decide) (by decide) (by decide))
  | 92, _ => exact (zb_c93 M).trans (h0 93 (by decide) (by decide) (by decide) (by decide))
  | 93, _ => exact (zb_c94 M).trans (h0 94 (by decide) (by decide) (by decide) (by decide))
  | 94, _ => exact (zb_c95 M).trans (h0 95 (by decide) (by decide) (by decide) (by decide))
  | 95, _ => exact (zb_c96 M).trans (h0 96 (by decide) (by decide) (by decide) (by decide))
  | 96, _ => exact (zb_c97 M).trans (h0 97 (by decide) (by decide) (by decide) (by decide))
  | 97, _ => exact (zb_c98 M).trans (h0 98 (by decide) (by decide) (by decide) (by decide))
  | 98, _ => exact (zb_c99 M).trans (h0 99 (by decide) (by decide) (by decide) (by decide))
  | 99, _ => exact (zb_c100 M).trans (h0 100 (by decide) (by decide) (by decide) (by decide))
  | 100, _ => exact (zb_c101 M).trans (h0 101 (by decide) (by decide) (by decide) (by decide))
  | 101, _ => exact (zb_c102 M).trans (h0 102 (by decide) (by decide) (by decide) (by decide))
  | 102, _ => exact (zb_c103 M).trans (h0 103 (by decide) (by decide) (by decide) (by decide))
  | 103, _ => exact (zb_c104 M).trans (h0 104 (by decide) (by decide) (by decide) (by decide))
  | 104, _ => exact (zb_c105 M).trans (h0 105 (by decide) (by decide) (by decide) (by decide))
  | 105, _ => exact (zb_c106 M).trans (h0 106 (by decide) (by decide) (by decide) (by decide))
  | 106, _ => exact (zb_c107 M).trans (h0 107 (by decide) (by decide) (by decide) (by decide))
  | 107, _ => exact (zb_c108 M).trans (h0 108 (by decide) (by decide) (by decide) (by decide))
  | 108, _ => exact (zb_c109 M).trans (h0 109 (by decide) (by decide) (by decide) (by decide))
  | 109, _ => exact (zb_c110 M).trans (h0 110 (by decide) (by decide) (by decide) (by decide))
  | 110, _ => exact (zb_c111 M).trans (h0 111 (by decide) (by decide) (by decide) (by decide))
  | 111, _ => exact (zb_c112 M).trans (h0 112 (by decide) (by decide) (by decide) (by decide))
  | k + 112, hk => omega
/-! THE CLAIM OUT OF ONE WALK OF THE LAW'S BODY. Your part is whole_start (and what it stands on); all else here is the same for every law, but numbers. -/
def R_law : String := "StrongMenLaw"
def lw_P (b : Addr) (xs : List Int32) (args : Array Value) (s : State) : Prop := args = #[.ref b] ∧ s.IntsAt b xs ∧ xs.length ≤ 3072 ∧ (Jvm.Cond.and given_1 narrow_1).before args s = true
def lw_Q (_ : Array Value) (s : State) (o : Outcome) (t : State) : Prop := o = .returned (some (.int 1)) ∧ Framed s o t [] 600000 7302250
def lw_Z (below : List Frame) (a : Array Value) (s : State) : State → Prop := fun t => ∃ o, t.status = .running ∧ Ended t below o ∧ lw_Q a s o t
/-- the law's own end, with 1 on the stack, nothing written that was there before, its room as the claim has it -/
theorem lw_ret {p : Program} {l : Launch} {e : Env} {s : State} {m : MethodId} {below : List Frame} {meth : Method} {c : Code} {b : Nat} (hx : p.tables.exec = Jvm.exec) (hb : c.code = code) (hr : meth.sig.returnType = ret) (hlocks : meth.locks = false) {pc : Nat} {H : Heap} {ls : Array Slot} (hdg : decode code pc = .ok (.ireturn, 1)) : W p l e room_1 s m #[Value.ref b] below meth c H [] 600000 7302250 (lw_Z below #[Value.ref b] s) (F0 m pc ls [.int 1]) := by
  intro T hT X
  obtain ⟨fs, hret, hrun, hended, hW, hframe⟩ := X.leave (v := some (.int 1)) (hlocks := hlocks) (fun h => by rw [hr] at h; cases h)
  have hmeth' : T.vm.method? m = some meth := X.method'
  refine ⟨T.setFrames fs, ?_, .returned (some (.int 1)), hrun, hended, rfl, ⟨_, rfl⟩, hW, hframe⟩
  jvm_step X.here [X.here.top, hx, hb, hdg, hmeth', hr, ret, narrow_b1]
  (try refine ⟨rfl, ?_⟩); (try refine ⟨rfl, ?_⟩)
  first | (intro acts; rw [hret _ acts rfl rfl rfl]) | rw [hret _ _ rfl rfl rfl]
  exact Steps.refl _
/-- what holds at the law's entry: the machine, the code, the tables' words (any of lw_tbl by 'hts w (by decide +kernel)'), the script of L ints xs at the cell b, what the Statement gives of the start (any of its parts by flat_of_before) -/
def lw_At (p : Program) (s : State) (m : MethodId) (meth : Method) (c : Code) (b L : Nat) (xs : Nat → Int32) : Prop :=
  p.tables.exec = Jvm.exec ∧ c.code = code ∧ meth.sig.returnType = ret ∧ c.maxLocals = 4 ∧ s.vm.findClass R_law = some m.cls ∧ (∀ w ∈ lw_tbl, w.before #[Value.ref b] s = true) ∧ va_X b L xs s s.heap ∧ b < s.heap.size ∧ meth.locks = false ∧ (Jvm.Cond.and given_1 narrow_1).before #[Value.ref b] s = true ∧ meth.name = "law"
theorem jb_arr {s : State} {args : Array Value} {ty : FieldType} (hp : match ty with
    | .object _ => False
    | _ => True) (h : (Cond.arrayClass ty).before args s = true) : ∃ cA : ClassId, ArrOfT s cA ty ∧ va_RA s cA ty := by
  obtain ⟨cA, kA, comp, h1, h2, h3⟩ := Cond.arrayClass_spec h
  refine ⟨cA, fun n z => ⟨fun k h => (by cases h), kA, h2, comp, h3⟩, ?_⟩
  cases ty <;> first | exact h1 | exact absurd hp (by simp)
theorem jb_lw {w : Cond} (h : w ∈ jb_zw) : w ∈ lw_tbl := (List.mem_filter.mp h).1
set_option maxHeartbeats 4000000 in
theorem whole_start {p : Program} {e : Env} {s : State} {m : MethodId} {below : List Frame} {meth : Method} {c : Code} (l : Launch) {b L : Nat} {xs : Nat → Int32} (hL : L ≤ 3072) (C0 : lw_At p s m meth c b L xs) : W p l e room_1 s m #[Value.ref b] below meth c s.heap [] 0 0 (lw_Z below #[Value.ref b] s) (entryFrame m ([Value.ref b] : List Value).toArray 4) := by
  obtain ⟨hx, hb, hr, hml, hown, hts, hX, hbl, hlocks, hgv, hname⟩ := C0
  -- the classes
  have hcl : ∀ k, k < 14 → ∃ (cC : ClassId) (iS : Nat → Nat), u_Kn s (zc_nm k) (zc_cls.getD k ("", zc_T0, 0)).2.1 (jb_nF k) cC iS := fun k hk => u_known hts (fun w hw => jb_lw (jb_lays hk w hw)) (hts _ (jb_lw (jb_inst hk)))
  obtain ⟨dC, dI, hKc⟩ : ∃ (dC : Nat → ClassId) (dI : Nat → Nat → Nat), ∀ (k : Nat) (q : vw_C), zc_cls[k]? = some q → u_Kn s q.1 q.2.1 q.2.2 (dC k) (dI k) := by
    refine ⟨fun k => @dite _ (k < 14) (Classical.propDecidable _) (fun h => (hcl k h).choose) (fun _ => 0), fun k => @dite _ (k < 14) (Classical.propDecidable _) (fun h => (hcl k h).choose_spec.choose) (fun _ _ => 0), ?_⟩
    intro k q hq
    have hk : k < 14 := by
      have := (List.getElem?_eq_some_iff.mp hq).1
      rwa [zt_len] at this
    rw [jb_cl hk] at hq
    cases hq
    dsimp only
    rw [dif_pos hk, dif_pos hk]
    exact (hcl k hk).choose_spec.choose_spec
  -- the arrays' classes
  obtain ⟨cI, aI1, aI2⟩ := jb_arr (ty := .int) trivial (hts _ (jb_lw jb_w_ai))
  obtain ⟨cB, aB1, aB2⟩ := jb_arr (ty := .byte) trivial (hts _ (jb_lw jb_w_ab))
  obtain ⟨cL, aL1, aL2⟩ := jb_arr (ty := .long) trivial (hts _ (jb_lw jb_w_al))
  obtain ⟨aC, e0, e1, e2⟩ : ∃ aC : Nat → ClassId, aC 0 = cI ∧ aC 1 = cB ∧ aC 2 = cL := ⟨fun k => if k = 0 then cI else if k = 1 then cB else cL, rfl, rfl, rfl⟩
  obtain ⟨M, hM⟩ : ∃ M : jb_Mi, ∀ j, M 0 j = xs j := ⟨fun _ j => xs j, fun _ => rfl⟩
  obtain ⟨N, -⟩ : ∃ N : jb_Ml, True := ⟨fun _ _ => 0, trivial⟩
  obtain ⟨ad, had⟩ : ∃ ad : Nat → Nat, ad 0 = b := ⟨fun _ => b, rfl⟩
  obtain ⟨M', N', hrun⟩ := zb_all L hL (zM_264 M) (zN_264 N) (zb_start M)
  have hV : jb_V (l, s.heap, (dC, dI), aC, b, L, xs) 60 zq_0 0 [some (.ref 0), none, none, none] [] (zs_0 L M N) (some (.int 1)) (zE L, M', N') := zl_start (by decide) (zg_0 (by decide) L (zM_264 M) (zN_264 N) hrun ⟨rfl, rfl⟩)
  have hw : jb_w (l, s.heap, (dC, dI), aC, b, L, xs) ad (zs_0 L M N) s s.heap := by
    refine ⟨⟨hKc, fun k q hk => ?_⟩, fun k q h => ?_, ⟨fun i j p q h => ?_, fun k q h => ?_⟩, ⟨hX, hbl, had, rfl, fun j hj => hM j⟩, fun a j => ?_, fun a x hx ha => ?_, fun x hx => ?_⟩
    · rcases k with _ | _ | _ | k
      · cases hk; rw [← e0] at aI1 aI2; exact ⟨aI1, aI2⟩
      · cases hk; rw [← e1] at aB1 aB2; exact ⟨aB1, aB2⟩
      · cases hk; rw [← e2] at aL1 aL2; exact ⟨aL1, aL2⟩
      · simp [jb_tys] at hk
    · simp [jb_ws] at h
    · simp [jb_ws] at h
    · simp [jb_ws] at h
    · show 0 < _
      simp
    · cases a with
      | zero => exact absurd rfl ha
      | succ a =>
        have : jb_sk [(9, L)] (a + 1) = some x := hx
        simp [jb_sk] at this
    · have h1 := jb_all zt_N hx
      have h2 : lw_tbl[x.1]? = some (.methodLinkNest (zc_nm x.2.1) x.2.2.1 (zm_y x.2.2.2) "StrongMen") := of_decide_eq_true h1
      exact va_Nw.of rfl (hts _ (List.mem_of_getElem? h2))
  have hen := lv_entry ([.ref b]) (n := 4) (Nat.le_of_ble_eq_true rfl)
  rw [lg_entry_eq]
  have hsl : jb_slo (zE L).1 - jb_slo (zs_0 L M N).1.1 ≤ 7302250 := by
    have e1 : jb_slo (zE L).1 = L + jb_slo zE_sh := by simp [jb_slo, zE]
    have e2 : jb_slo (zs_0 L M N).1.1 = L := by simp [jb_slo, zs_0]
    have e3 : jb_slo zE_sh ≤ 10000 := by decide +kernel
    omega
  have hcells : (zE L).1.length - (zs_0 L M N).1.1.length ≤ 600000 := by
    have e1 : (zE L).1.length = 113 := rfl
    omega
  have key := hV.2.2 p e room_1 s m #[Value.ref b] below meth c s.heap [] 0 0 ad _ ⟨hx, hb, hr, hml, hown, fun w h => hts w (jb_lw h), hlocks, hname, zo_0⟩ (by decide) (by decide) hw va_S.rf
    ⟨hen.1, hen.2.1, fun i w hi => hen.2.2 (i, jb_tv ad w) (by
      cases i with
      | zero =>
        cases hi
        show (0, Value.ref (ad 0)) ∈ _
        rw [had]
        exact List.mem_cons_self
      | succ i =>
        have h1 : jb_lk [none, none, none] i = some w := hi
        rcases i with _ | _ | _ | i
        · cases h1
        · cases h1
        · cases h1
        · simp [jb_lk] at h1)⟩ (by rw [Nat.zero_add]; exact hcells) (by rw [Nat.zero_add]; exact hsl)
  refine jb_W_mono (fun t ht => ?_) key
  obtain ⟨o, b2, b3, ⟨ad2, c1, c2, c3, c4⟩, L2, ⟨f1, f2, f3⟩, b6⟩ := ht
  refine ⟨o, b2, b3, c3, f1, f2, ?_⟩
  exact (State.sameButNew.drop_fresh (L := []) f3 b6).mono (by rw [Nat.zero_add]; exact hcells) (by rw [Nat.zero_add]; exact hsl)
set_option maxHeartbeats 4000000 in
theorem lw_walk (l : Launch) (b : Addr) (xs : List Int32) : MetFree l x (headSpec (Jvm.Cond.code x code maxLocals ret :: tables_1) room_1) (lw_P b xs) (fun _ _ _ _ _ => True) lw_Q := by
  refine MetFree.of_bodyS (code := code) (maxLocals := maxLocals) (ret := ret) (by decide) ?_ ?_
  · intro args s m h hn
    obtain ⟨meth, c, h1, h2, h3, h4, h5, h6, -, -⟩ := Cond.code_spec hn (atoms_spec (ws := Jvm.Cond.code x code maxLocals ret :: tables_1) h _ List.mem_cons_self)
    exact ⟨meth, c, h1, h2, h3, h4, h5, h6⟩
  · intro p e s m args below meth c s₁ B hml0 hP _
    obtain ⟨rfl, hx, hbd, hgv⟩ := hP
    obtain ⟨scr, harrAt, hlist, hof, hsmall⟩ := hx
    obtain ⟨hcb, hkn, -, -⟩ := State.arrayAt?_spec harrAt
    have hown : s.vm.findClass R_law = some m.cls := findClass_of_methodNamed B.named
    have hts0 : ∀ c ∈ (Jvm.Cond.code x code maxLocals ret :: tables_1), c.before #[Value.ref b] s = true := atoms_spec (ws := Jvm.Cond.code x code maxLocals ret :: tables_1) B.pre
    have hts : ∀ w ∈ lw_tbl, w.before #[Value.ref b] s = true := k2_hts_sels lw_privs (fun w hw => hts0 w (List.mem_cons_of_mem _ hw)) lw_privs_ok
    have hml : c.maxLocals = 4 := B.maxLocals_eq (hts0 _ List.mem_cons_self)
    have X₀ : Stand p l e room_1 s m #[Value.ref b] below meth c s₁ [] 0 0 := Stand.of_body B
    have hh0 : s₁.heap = s.heap := by rw [B.state]; rfl
    have hsz : scr.slots.size = xs.length := by rw [← Array.length_toList, hlist, List.length_map]
    have hval : ∀ j : Nat, j < xs.length → scr.slots[j]? = some (.int (xs.getD j 0)) := fun j hj => by
      rw [← Array.getElem?_toList, hlist]
      simp [hj]
    have hbl : b < s.heap.size := (Array.getElem?_eq_some_iff.mp hcb).1
    have hX : va_X b xs.length (fun j => xs.getD j 0) s s.heap := ⟨scr, hcb, hof, hkn, hsz, hval⟩
    have K : W p l e room_1 s m #[Value.ref b] below meth c s₁.heap [] 0 0 (lw_Z below #[Value.ref b] s) (entryFrame m ([Value.ref b] : List Value).toArray 4) := by
      rw [hh0]
      exact whole_start l hbd ⟨B.exec, B.bytes, B.returns, hml, hown, hts, hX, hbl, B.notSynchronized, hgv, (name_of_methodNamed B.named B.method).1⟩
    obtain ⟨t, a1, o, b1, b2, b3⟩ := K s₁ rfl X₀
    exact ⟨t, o, a1, b1, b2, b3⟩
theorem lw_pre_spec {args : Array Value} {s : State} (h : (Jvm.Cond.and given_1 narrow_1).before args s = true) (hr : rest_1_c.before args s = true) : ∃ (b : Addr) (xs : List Int32), lw_P b xs args s := by
  have hs := flat_of_before _ h
  have hq := flat_of_before _ hr
  have hc : (Cond.count 1).before args s = true := hs _ (by decide +kernel)
  have harr : (Cond.arrayOf (.arg 0) .int).before args s = true := hs _ (by decide +kernel)
  have hle : (Cond.le (.length (.arg 0)) (.int 3072)).before args s = true := hs _ (by decide +kernel)
  have hlen : (Cond.isInt (.length (.arg 0))).before args s = true := hq _ (by decide +kernel)
  have hall : (Cond.all (.arg 0) (.isInt (.elem (.arg 0) (.index 0)))).before args s = true := hq _ (by decide +kernel)
  obtain ⟨b, xs, hb, hx⟩ := State.ints_of_pre rfl harr hlen hall
  have hsm : xs.length < 2 ^ 31 := hx.choose_spec.2.2.2
  have hev : (Term.length (.arg 0)).eval args s none [] s = some (.int xs.length.toInt32) := hx.length_eval hb
  have hv := Cond.le_ints hev (show (Term.int 3072).eval args s none [] s = some (.int 3072) from rfl)
  have hd : xs.length.toInt32 ≤ 3072 := by
    simpa [Cond.before, Cond.holds, hv] using hle
  have hN : xs.length ≤ 3072 := (Int32.ofNat_le_ofNat hsm (by decide)).mp (show Int32.ofNat xs.length ≤ Int32.ofNat 3072 from hd)
  exact ⟨b, xs, Cond.one_arg hc (show args[0]? = some (.ref b) from hb), hx, hN, h⟩
theorem lw_comes (l : Launch) : Comes l x (Jvm.Cond.code x code maxLocals ret :: tables_1) room_1 (fun tb e args s => Calls_1 tb e args s ∧ rest_1 tb e args s ∧ Pre_1 tb e args s)
    (fun _ _ args s o t => lw_Q args s o t) := by
  intro p e ha hc hk s m args below hf hfit hheap happ hpre
  obtain ⟨b, xs, hP⟩ := lw_pre_spec hpre.2.2 hpre.2.1
  obtain ⟨k, o, h1, h2, h3, hQ⟩ := lw_walk l b xs p e ha hc hk s m args below hf ((Spec.applies_iff_loose hf).mp happ).1 hP trivial
  exact ⟨k, o, h1, h2, h3, hQ⟩
theorem lw_frame {s t : State} {o : Outcome} {args : Array Value} (h : Framed s o t [] 600000 7302250) :
    Framed s o t (fieldLocs frame_1_writes args s ++ arrayLocs frame_1_arrays args s ++ staticLocs frame_1_statics s) 600000 7302250 := h
theorem lw_limb (L : Cond) (hL : ∀ (args : Array Value) (s t : State), L.after args s (.returned (some (.int 1))) t = true) :
    ArmFor flags0 classFile x code maxLocals ret World_1 tables_1 room_1 Calls_1 rest_1 Pre_1
      (fun tb e a s o t => postC L tb e a s o t ∧ Framed s o t (fieldLocs frame_1_writes a s ++ arrayLocs frame_1_arrays a s ++ staticLocs frame_1_statics s) 600000 7302250) := by
  intro l _ _ _ p e ha hc hk s m args below hf hfit hheap happ hpre
  obtain ⟨k, o, h1, h2, h3, rfl, hF⟩ := lw_comes l p e ha hc hk s m args below hf hfit hheap happ hpre
  exact ⟨k, _, h1, h2, h3, hL args s _, lw_frame hF⟩
theorem i_vc : Claimed_1_1 ∧ Claimed_1_2 := ⟨lw_limb limb_1_1 (fun args s t => by simp [limb_1_1, Cond.after, Cond.holds, Cond.value]), lw_limb limb_1_2 (fun args s t => Cond.after_iff.mpr (by
  first | (rw [show limb_1_2 = Cond.eq .result (.int 1) from rfl, Cond.eq_ints (x := 1) (y := 1) rfl rfl]; simp; done) | (simp [limb_1_2, Cond.value, Term.eval]; done)))⟩

