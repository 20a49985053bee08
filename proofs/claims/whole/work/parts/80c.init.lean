/-! the constructors -/
def zr_0 : jb_Rf := fun _ _ => 0
def zM_0 (M : jb_Mi) : jb_Mi := M
def zN_0 (N : jb_Ml) : jb_Ml := N
abbrev zs_0 (L : Nat) (M : jb_Mi) (N : jb_Ml) : jb_S := (((9, L) :: zE_sh.take 0, zr_0), zM_0 M, zN_0 N)
def zr_1 : jb_Rf := fun a => if a = 1 then (fun _ => 0) else zr_0 a
def zM_1 (M : jb_Mi) : jb_Mi := fun a => if a = 1 then (fun _ => 0) else zM_0 M a
def zN_1 (N : jb_Ml) : jb_Ml := fun a => if a = 1 then (fun _ => 0) else zN_0 N a
abbrev zs_1 (L : Nat) (M : jb_Mi) (N : jb_Ml) : jb_S := (((9, L) :: zE_sh.take 1, zr_1), zM_1 M, zN_1 N)
def zr_2 : jb_Rf := fun a => if a = 2 then (fun _ => 0) else zr_1 a
def zM_2 (M : jb_Mi) : jb_Mi := fun a => if a = 2 then (fun _ => 0) else zM_1 M a
def zN_2 (N : jb_Ml) : jb_Ml := fun a => if a = 2 then (fun _ => 0) else zN_1 N a
abbrev zs_2 (L : Nat) (M : jb_Mi) (N : jb_Ml) : jb_S := (((9, L) :: zE_sh.take 2, zr_2), zM_2 M, zN_2 N)
def zr_3 : jb_Rf := fun a => if a = 3 then (fun _ => 0) else zr_2 a
def zM_3 (M : jb_Mi) : jb_Mi := fun a => if a = 3 then (fun _ => 0) else zM_2 M a
def zN_3 (N : jb_Ml) : jb_Ml := fun a => if a = 3 then (fun _ => 0) else zN_2 N a
abbrev zs_3 (L : Nat) (M : jb_Mi) (N : jb_Ml) : jb_S := (((9, L) :: zE_sh.take 3, zr_3), zM_3 M, zN_3 N)
def zr_4 : jb_Rf := jb_ur zr_3 2 0 3
def zM_4 (M : jb_Mi) : jb_Mi := zM_3 M
def zN_4 (N : jb_Ml) : jb_Ml := zN_3 N
abbrev zs_4 (L : Nat) (M : jb_Mi) (N : jb_Ml) : jb_S := (((9, L) :: zE_sh.take 3, zr_4), zM_4 M, zN_4 N)
set_option maxRecDepth 8000 in
theorem zi_1 {Γ : jb_G} {L : Nat} {M : jb_Mi} {N : jb_Ml} {d : Nat} (hd : 1 ≤ d) : jb_V Γ d zq_113 0 (jb_en 1 [.ref 2]) [] (zs_2 L M N) none (zs_4 L M N) := by
  obtain ⟨d, rfl⟩ : ∃ e, d = e + 1 := ⟨d - 1, by omega⟩
  show jb_V Γ _ zq_113 0 [some (.ref 2)] [] (zs_2 L M N) _ _
  refine jb_seg 1 (pc' := 1) (ls' := [some (.ref 2)]) (st' := [(.ref 2)]) (σ' := (zs_2 L M N)) (G := []) rfl trivial ?_
  refine jb_oinit (rest := []) rfl (Nat.le_of_ble_eq_true rfl) ?_
  refine jb_seg 2 (pc' := 8) (ls' := [some (.ref 2)]) (st' := [(.int 260), (.ref 2)]) (σ' := (zs_2 L M N)) (G := []) rfl trivial ?_
  refine jb_newai (N := 260) (rest := [(.ref 2)]) rfl (by decide) (by decide) (by decide) rfl ?_
  show jb_V Γ _ zq_113 10 [some (.ref 2)] [(.ref 3), (.ref 2)] (zs_3 L M N) _ _
  refine jb_putR (rest := []) rfl rfl rfl rfl rfl rfl (by decide) (Nat.le_of_ble_eq_true rfl) ?_
  show jb_V Γ _ zq_113 13 [some (.ref 2)] [] (zs_4 L M N) _ _
  exact jb_retv rfl rfl
def zr_5 : jb_Rf := jb_ur zr_4 1 0 2
def zM_5 (M : jb_Mi) : jb_Mi := zM_4 M
def zN_5 (N : jb_Ml) : jb_Ml := zN_4 N
abbrev zs_5 (L : Nat) (M : jb_Mi) (N : jb_Ml) : jb_S := (((9, L) :: zE_sh.take 3, zr_5), zM_5 M, zN_5 N)
def zr_6 : jb_Rf := fun a => if a = 4 then (fun _ => 0) else zr_5 a
def zM_6 (M : jb_Mi) : jb_Mi := fun a => if a = 4 then (fun _ => 0) else zM_5 M a
def zN_6 (N : jb_Ml) : jb_Ml := fun a => if a = 4 then (fun _ => 0) else zN_5 N a
abbrev zs_6 (L : Nat) (M : jb_Mi) (N : jb_Ml) : jb_S := (((9, L) :: zE_sh.take 4, zr_6), zM_6 M, zN_6 N)
def zr_7 : jb_Rf := fun a => if a = 5 then (fun _ => 0) else zr_6 a
def zM_7 (M : jb_Mi) : jb_Mi := fun a => if a = 5 then (fun _ => 0) else zM_6 M a
def zN_7 (N : jb_Ml) : jb_Ml := fun a => if a = 5 then (fun _ => 0) else zN_6 N a
abbrev zs_7 (L : Nat) (M : jb_Mi) (N : jb_Ml) : jb_S := (((9, L) :: zE_sh.take 5, zr_7), zM_7 M, zN_7 N)
def zr_8 : jb_Rf := jb_ur zr_7 4 0 5
def zM_8 (M : jb_Mi) : jb_Mi := zM_7 M
def zN_8 (N : jb_Ml) : jb_Ml := zN_7 N
abbrev zs_8 (L : Nat) (M : jb_Mi) (N : jb_Ml) : jb_S := (((9, L) :: zE_sh.take 5, zr_8), zM_8 M, zN_8 N)
def zr_9 : jb_Rf := fun a => if a = 6 then (fun _ => 0) else zr_8 a
def zM_9 (M : jb_Mi) : jb_Mi := fun a => if a = 6 then (fun _ => 0) else zM_8 M a
def zN_9 (N : jb_Ml) : jb_Ml := fun a => if a = 6 then (fun _ => 0) else zN_8 N a
abbrev zs_9 (L : Nat) (M : jb_Mi) (N : jb_Ml) : jb_S := (((9, L) :: zE_sh.take 6, zr_9), zM_9 M, zN_9 N)
def zr_10 : jb_Rf := jb_ur zr_9 4 1 6
def zM_10 (M : jb_Mi) : jb_Mi := zM_9 M
def zN_10 (N : jb_Ml) : jb_Ml := zN_9 N
abbrev zs_10 (L : Nat) (M : jb_Mi) (N : jb_Ml) : jb_S := (((9, L) :: zE_sh.take 6, zr_10), zM_10 M, zN_10 N)
def zr_11 : jb_Rf := fun a => if a = 7 then (fun _ => 0) else zr_10 a
def zM_11 (M : jb_Mi) : jb_Mi := fun a => if a = 7 then (fun _ => 0) else zM_10 M a
def zN_11 (N : jb_Ml) : jb_Ml := fun a => if a = 7 then (fun _ => 0) else zN_10 N a
abbrev zs_11 (L : Nat) (M : jb_Mi) (N : jb_Ml) : jb_S := (((9, L) :: zE_sh.take 7, zr_11), zM_11 M, zN_11 N)
def zr_12 : jb_Rf := jb_ur zr_11 4 2 7
def zM_12 (M : jb_Mi) : jb_Mi := zM_11 M
def zN_12 (N : jb_Ml) : jb_Ml := zN_11 N
abbrev zs_12 (L : Nat) (M : jb_Mi) (N : jb_Ml) : jb_S := (((9, L) :: zE_sh.take 7, zr_12), zM_12 M, zN_12 N)
def zr_13 : jb_Rf := fun a => if a = 8 then (fun _ => 0) else zr_12 a
def zM_13 (M : jb_Mi) : jb_Mi := fun a => if a = 8 then (fun _ => 0) else zM_12 M a
def zN_13 (N : jb_Ml) : jb_Ml := fun a => if a = 8 then (fun _ => 0) else zN_12 N a
abbrev zs_13 (L : Nat) (M : jb_Mi) (N : jb_Ml) : jb_S := (((9, L) :: zE_sh.take 8, zr_13), zM_13 M, zN_13 N)
def zr_14 : jb_Rf := jb_ur zr_13 4 3 8
def zM_14 (M : jb_Mi) : jb_Mi := zM_13 M
def zN_14 (N : jb_Ml) : jb_Ml := zN_13 N
abbrev zs_14 (L : Nat) (M : jb_Mi) (N : jb_Ml) : jb_S := (((9, L) :: zE_sh.take 8, zr_14), zM_14 M, zN_14 N)
def zr_15 : jb_Rf := fun a => if a = 9 then (fun _ => 0) else zr_14 a
def zM_15 (M : jb_Mi) : jb_Mi := fun a => if a = 9 then (fun _ => 0) else zM_14 M a
def zN_15 (N : jb_Ml) : jb_Ml := fun a => if a = 9 then (fun _ => 0) else zN_14 N a
abbrev zs_15 (L : Nat) (M : jb_Mi) (N : jb_Ml) : jb_S := (((9, L) :: zE_sh.take 9, zr_15), zM_15 M, zN_15 N)
def zr_16 : jb_Rf := jb_ur zr_15 4 4 9
def zM_16 (M : jb_Mi) : jb_Mi := zM_15 M
def zN_16 (N : jb_Ml) : jb_Ml := zN_15 N
abbrev zs_16 (L : Nat) (M : jb_Mi) (N : jb_Ml) : jb_S := (((9, L) :: zE_sh.take 9, zr_16), zM_16 M, zN_16 N)
def zr_17 : jb_Rf := fun a => if a = 10 then (fun _ => 0) else zr_16 a
def zM_17 (M : jb_Mi) : jb_Mi := fun a => if a = 10 then (fun _ => 0) else zM_16 M a
def zN_17 (N : jb_Ml) : jb_Ml := fun a => if a = 10 then (fun _ => 0) else zN_16 N a
abbrev zs_17 (L : Nat) (M : jb_Mi) (N : jb_Ml) : jb_S := (((9, L) :: zE_sh.take 10, zr_17), zM_17 M, zN_17 N)
def zr_18 : jb_Rf := jb_ur zr_17 4 5 10
def zM_18 (M : jb_Mi) : jb_Mi := zM_17 M
def zN_18 (N : jb_Ml) : jb_Ml := zN_17 N
abbrev zs_18 (L : Nat) (M : jb_Mi) (N : jb_Ml) : jb_S := (((9, L) :: zE_sh.take 10, zr_18), zM_18 M, zN_18 N)
def zr_19 : jb_Rf := fun a => if a = 11 then (fun _ => 0) else zr_18 a
def zM_19 (M : jb_Mi) : jb_Mi := fun a => if a = 11 then (fun _ => 0) else zM_18 M a
def zN_19 (N : jb_Ml) : jb_Ml := fun a => if a = 11 then (fun _ => 0) else zN_18 N a
abbrev zs_19 (L : Nat) (M : jb_Mi) (N : jb_Ml) : jb_S := (((9, L) :: zE_sh.take 11, zr_19), zM_19 M, zN_19 N)
def zr_20 : jb_Rf := jb_ur zr_19 4 6 11
def zM_20 (M : jb_Mi) : jb_Mi := zM_19 M
def zN_20 (N : jb_Ml) : jb_Ml := zN_19 N
abbrev zs_20 (L : Nat) (M : jb_Mi) (N : jb_Ml) : jb_S := (((9, L) :: zE_sh.take 11, zr_20), zM_20 M, zN_20 N)
def zr_21 : jb_Rf := fun a => if a = 12 then (fun _ => 0) else zr_20 a
def zM_21 (M : jb_Mi) : jb_Mi := fun a => if a = 12 then (fun _ => 0) else zM_20 M a
def zN_21 (N : jb_Ml) : jb_Ml := fun a => if a = 12 then (fun _ => 0) else zN_20 N a
abbrev zs_21 (L : Nat) (M : jb_Mi) (N : jb_Ml) : jb_S := (((9, L) :: zE_sh.take 12, zr_21), zM_21 M, zN_21 N)
def zr_22 : jb_Rf := jb_ur zr_21 4 7 12
def zM_22 (M : jb_Mi) : jb_Mi := zM_21 M
def zN_22 (N : jb_Ml) : jb_Ml := zN_21 N
abbrev zs_22 (L : Nat) (M : jb_Mi) (N : jb_Ml) : jb_S := (((9, L) :: zE_sh.take 12, zr_22), zM_22 M, zN_22 N)
def zr_23 : jb_Rf := fun a => if a = 13 then (fun _ => 0) else zr_22 a
def zM_23 (M : jb_Mi) : jb_Mi := fun a => if a = 13 then (fun _ => 0) else zM_22 M a
def zN_23 (N : jb_Ml) : jb_Ml := fun a => if a = 13 then (fun _ => 0) else zN_22 N a
abbrev zs_23 (L : Nat) (M : jb_Mi) (N : jb_Ml) : jb_S := (((9, L) :: zE_sh.take 13, zr_23), zM_23 M, zN_23 N)
def zr_24 : jb_Rf := jb_ur zr_23 4 8 13
def zM_24 (M : jb_Mi) : jb_Mi := zM_23 M
def zN_24 (N : jb_Ml) : jb_Ml := zN_23 N
abbrev zs_24 (L : Nat) (M : jb_Mi) (N : jb_Ml) : jb_S := (((9, L) :: zE_sh.take 13, zr_24), zM_24 M, zN_24 N)
def zr_25 : jb_Rf := zr_24
def zM_25 (M : jb_Mi) : jb_Mi := jb_up (zM_24 M) 4 11 1
def zN_25 (N : jb_Ml) : jb_Ml := zN_24 N
abbrev zs_25 (L : Nat) (M : jb_Mi) (N : jb_Ml) : jb_S := (((9, L) :: zE_sh.take 13, zr_25), zM_25 M, zN_25 N)
set_option maxRecDepth 8000 in
theorem zi_2 {Γ : jb_G} {L : Nat} {M : jb_Mi} {N : jb_Ml} {d : Nat} (hd : 1 ≤ d) : jb_V Γ d zq_101 0 (jb_en 1 [.ref 4]) [] (zs_6 L M N) none (zs_25 L M N) := by
  obtain ⟨d, rfl⟩ : ∃ e, d = e + 1 := ⟨d - 1, by omega⟩
  show jb_V Γ _ zq_101 0 [some (.ref 4)] [] (zs_6 L M N) _ _
  refine jb_seg 1 (pc' := 1) (ls' := [some (.ref 4)]) (st' := [(.ref 4)]) (σ' := (zs_6 L M N)) (G := []) rfl trivial ?_
  refine jb_oinit (rest := []) rfl (Nat.le_of_ble_eq_true rfl) ?_
  refine jb_seg 2 (pc' := 7) (ls' := [some (.ref 4)]) (st' := [(.int 6), (.ref 4)]) (σ' := (zs_6 L M N)) (G := []) rfl trivial ?_
  refine jb_newai (N := 6) (rest := [(.ref 4)]) rfl (by decide) (by decide) (by decide) rfl ?_
  show jb_V Γ _ zq_101 9 [some (.ref 4)] [(.ref 5), (.ref 4)] (zs_7 L M N) _ _
  refine jb_putR (rest := []) rfl rfl rfl rfl rfl rfl (by decide) (Nat.le_of_ble_eq_true rfl) ?_
  show jb_V Γ _ zq_101 12 [some (.ref 4)] [] (zs_8 L M N) _ _
  refine jb_seg 2 (pc' := 15) (ls' := [some (.ref 4)]) (st' := [(.int 6), (.ref 4)]) (σ' := (zs_8 L M N)) (G := []) rfl trivial ?_
  refine jb_newai (N := 6) (rest := [(.ref 4)]) rfl (by decide) (by decide) (by decide) rfl ?_
  show jb_V Γ _ zq_101 17 [some (.ref 4)] [(.ref 6), (.ref 4)] (zs_9 L M N) _ _
  refine jb_putR (rest := []) rfl rfl rfl rfl rfl rfl (by decide) (Nat.le_of_ble_eq_true rfl) ?_
  show jb_V Γ _ zq_101 20 [some (.ref 4)] [] (zs_10 L M N) _ _
  refine jb_seg 2 (pc' := 23) (ls' := [some (.ref 4)]) (st' := [(.int 6), (.ref 4)]) (σ' := (zs_10 L M N)) (G := []) rfl trivial ?_
  refine jb_newai (N := 6) (rest := [(.ref 4)]) rfl (by decide) (by decide) (by decide) rfl ?_
  show jb_V Γ _ zq_101 25 [some (.ref 4)] [(.ref 7), (.ref 4)] (zs_11 L M N) _ _
  refine jb_putR (rest := []) rfl rfl rfl rfl rfl rfl (by decide) (Nat.le_of_ble_eq_true rfl) ?_
  show jb_V Γ _ zq_101 28 [some (.ref 4)] [] (zs_12 L M N) _ _
  refine jb_seg 2 (pc' := 31) (ls' := [some (.ref 4)]) (st' := [(.int 24), (.ref 4)]) (σ' := (zs_12 L M N)) (G := []) rfl trivial ?_
  refine jb_newai (N := 24) (rest := [(.ref 4)]) rfl (by decide) (by decide) (by decide) rfl ?_
  show jb_V Γ _ zq_101 33 [some (.ref 4)] [(.ref 8), (.ref 4)] (zs_13 L M N) _ _
  refine jb_putR (rest := []) rfl rfl rfl rfl rfl rfl (by decide) (Nat.le_of_ble_eq_true rfl) ?_
  show jb_V Γ _ zq_101 36 [some (.ref 4)] [] (zs_14 L M N) _ _
  refine jb_seg 2 (pc' := 39) (ls' := [some (.ref 4)]) (st' := [(.int 24), (.ref 4)]) (σ' := (zs_14 L M N)) (G := []) rfl trivial ?_
  refine jb_newai (N := 24) (rest := [(.ref 4)]) rfl (by decide) (by decide) (by decide) rfl ?_
  show jb_V Γ _ zq_101 41 [some (.ref 4)] [(.ref 9), (.ref 4)] (zs_15 L M N) _ _
  refine jb_putR (rest := []) rfl rfl rfl rfl rfl rfl (by decide) (Nat.le_of_ble_eq_true rfl) ?_
  show jb_V Γ _ zq_101 44 [some (.ref 4)] [] (zs_16 L M N) _ _
  refine jb_seg 2 (pc' := 47) (ls' := [some (.ref 4)]) (st' := [(.int 24), (.ref 4)]) (σ' := (zs_16 L M N)) (G := []) rfl trivial ?_
  refine jb_newai (N := 24) (rest := [(.ref 4)]) rfl (by decide) (by decide) (by decide) rfl ?_
  show jb_V Γ _ zq_101 49 [some (.ref 4)] [(.ref 10), (.ref 4)] (zs_17 L M N) _ _
  refine jb_putR (rest := []) rfl rfl rfl rfl rfl rfl (by decide) (Nat.le_of_ble_eq_true rfl) ?_
  show jb_V Γ _ zq_101 52 [some (.ref 4)] [] (zs_18 L M N) _ _
  refine jb_seg 2 (pc' := 55) (ls' := [some (.ref 4)]) (st' := [(.int 24), (.ref 4)]) (σ' := (zs_18 L M N)) (G := []) rfl trivial ?_
  refine jb_newai (N := 24) (rest := [(.ref 4)]) rfl (by decide) (by decide) (by decide) rfl ?_
  show jb_V Γ _ zq_101 57 [some (.ref 4)] [(.ref 11), (.ref 4)] (zs_19 L M N) _ _
  refine jb_putR (rest := []) rfl rfl rfl rfl rfl rfl (by decide) (Nat.le_of_ble_eq_true rfl) ?_
  show jb_V Γ _ zq_101 60 [some (.ref 4)] [] (zs_20 L M N) _ _
  refine jb_seg 2 (pc' := 63) (ls' := [some (.ref 4)]) (st' := [(.int 16), (.ref 4)]) (σ' := (zs_20 L M N)) (G := []) rfl trivial ?_
  refine jb_newai (N := 16) (rest := [(.ref 4)]) rfl (by decide) (by decide) (by decide) rfl ?_
  show jb_V Γ _ zq_101 65 [some (.ref 4)] [(.ref 12), (.ref 4)] (zs_21 L M N) _ _
  refine jb_putR (rest := []) rfl rfl rfl rfl rfl rfl (by decide) (Nat.le_of_ble_eq_true rfl) ?_
  show jb_V Γ _ zq_101 68 [some (.ref 4)] [] (zs_22 L M N) _ _
  refine jb_seg 2 (pc' := 71) (ls' := [some (.ref 4)]) (st' := [(.int 16), (.ref 4)]) (σ' := (zs_22 L M N)) (G := []) rfl trivial ?_
  refine jb_newai (N := 16) (rest := [(.ref 4)]) rfl (by decide) (by decide) (by decide) rfl ?_
  show jb_V Γ _ zq_101 73 [some (.ref 4)] [(.ref 13), (.ref 4)] (zs_23 L M N) _ _
  refine jb_putR (rest := []) rfl rfl rfl rfl rfl rfl (by decide) (Nat.le_of_ble_eq_true rfl) ?_
  show jb_V Γ _ zq_101 76 [some (.ref 4)] [] (zs_24 L M N) _ _
  refine jb_seg 3 (pc' := 81) (ls' := [some (.ref 4)]) (st' := []) (σ' := (zs_25 L M N)) (G := []) rfl trivial ?_
  exact jb_retv rfl rfl
def zr_26 : jb_Rf := jb_ur zr_25 1 1 4
def zM_26 (M : jb_Mi) : jb_Mi := zM_25 M
def zN_26 (N : jb_Ml) : jb_Ml := zN_25 N
abbrev zs_26 (L : Nat) (M : jb_Mi) (N : jb_Ml) : jb_S := (((9, L) :: zE_sh.take 13, zr_26), zM_26 M, zN_26 N)
def zr_27 : jb_Rf := fun a => if a = 14 then (fun _ => 0) else zr_26 a
def zM_27 (M : jb_Mi) : jb_Mi := fun a => if a = 14 then (fun _ => 0) else zM_26 M a
def zN_27 (N : jb_Ml) : jb_Ml := fun a => if a = 14 then (fun _ => 0) else zN_26 N a
abbrev zs_27 (L : Nat) (M : jb_Mi) (N : jb_Ml) : jb_S := (((9, L) :: zE_sh.take 14, zr_27), zM_27 M, zN_27 N)
def zr_28 : jb_Rf := fun a => if a = 15 then (fun _ => 0) else zr_27 a
def zM_28 (M : jb_Mi) : jb_Mi := fun a => if a = 15 then (fun _ => 0) else zM_27 M a
def zN_28 (N : jb_Ml) : jb_Ml := fun a => if a = 15 then (fun _ => 0) else zN_27 N a
abbrev zs_28 (L : Nat) (M : jb_Mi) (N : jb_Ml) : jb_S := (((9, L) :: zE_sh.take 15, zr_28), zM_28 M, zN_28 N)
def zr_29 : jb_Rf := jb_ur zr_28 14 0 15
def zM_29 (M : jb_Mi) : jb_Mi := zM_28 M
def zN_29 (N : jb_Ml) : jb_Ml := zN_28 N
abbrev zs_29 (L : Nat) (M : jb_Mi) (N : jb_Ml) : jb_S := (((9, L) :: zE_sh.take 15, zr_29), zM_29 M, zN_29 N)
def zr_30 : jb_Rf := fun a => if a = 16 then (fun _ => 0) else zr_29 a
def zM_30 (M : jb_Mi) : jb_Mi := fun a => if a = 16 then (fun _ => 0) else zM_29 M a
def zN_30 (N : jb_Ml) : jb_Ml := fun a => if a = 16 then (fun _ => 0) else zN_29 N a
abbrev zs_30 (L : Nat) (M : jb_Mi) (N : jb_Ml) : jb_S := (((9, L) :: zE_sh.take 16, zr_30), zM_30 M, zN_30 N)
def zr_31 : jb_Rf := jb_ur zr_30 14 1 16
def zM_31 (M : jb_Mi) : jb_Mi := zM_30 M
def zN_31 (N : jb_Ml) : jb_Ml := zN_30 N
abbrev zs_31 (L : Nat) (M : jb_Mi) (N : jb_Ml) : jb_S := (((9, L) :: zE_sh.take 16, zr_31), zM_31 M, zN_31 N)
def zr_32 : jb_Rf := fun a => if a = 17 then (fun _ => 0) else zr_31 a
def zM_32 (M : jb_Mi) : jb_Mi := fun a => if a = 17 then (fun _ => 0) else zM_31 M a
def zN_32 (N : jb_Ml) : jb_Ml := fun a => if a = 17 then (fun _ => 0) else zN_31 N a
abbrev zs_32 (L : Nat) (M : jb_Mi) (N : jb_Ml) : jb_S := (((9, L) :: zE_sh.take 17, zr_32), zM_32 M, zN_32 N)
def zr_33 : jb_Rf := jb_ur zr_32 14 2 17
def zM_33 (M : jb_Mi) : jb_Mi := zM_32 M
def zN_33 (N : jb_Ml) : jb_Ml := zN_32 N
abbrev zs_33 (L : Nat) (M : jb_Mi) (N : jb_Ml) : jb_S := (((9, L) :: zE_sh.take 17, zr_33), zM_33 M, zN_33 N)
def zr_34 : jb_Rf := fun a => if a = 18 then (fun _ => 0) else zr_33 a
def zM_34 (M : jb_Mi) : jb_Mi := fun a => if a = 18 then (fun _ => 0) else zM_33 M a
def zN_34 (N : jb_Ml) : jb_Ml := fun a => if a = 18 then (fun _ => 0) else zN_33 N a
abbrev zs_34 (L : Nat) (M : jb_Mi) (N : jb_Ml) : jb_S := (((9, L) :: zE_sh.take 18, zr_34), zM_34 M, zN_34 N)
def zr_35 : jb_Rf := jb_ur zr_34 14 3 18
def zM_35 (M : jb_Mi) : jb_Mi := zM_34 M
def zN_35 (N : jb_Ml) : jb_Ml := zN_34 N
abbrev zs_35 (L : Nat) (M : jb_Mi) (N : jb_Ml) : jb_S := (((9, L) :: zE_sh.take 18, zr_35), zM_35 M, zN_35 N)
def zr_36 : jb_Rf := fun a => if a = 19 then (fun _ => 0) else zr_35 a
def zM_36 (M : jb_Mi) : jb_Mi := fun a => if a = 19 then (fun _ => 0) else zM_35 M a
def zN_36 (N : jb_Ml) : jb_Ml := fun a => if a = 19 then (fun _ => 0) else zN_35 N a
abbrev zs_36 (L : Nat) (M : jb_Mi) (N : jb_Ml) : jb_S := (((9, L) :: zE_sh.take 19, zr_36), zM_36 M, zN_36 N)
def zr_37 : jb_Rf := jb_ur zr_36 14 4 19
def zM_37 (M : jb_Mi) : jb_Mi := zM_36 M
def zN_37 (N : jb_Ml) : jb_Ml := zN_36 N
abbrev zs_37 (L : Nat) (M : jb_Mi) (N : jb_Ml) : jb_S := (((9, L) :: zE_sh.take 19, zr_37), zM_37 M, zN_37 N)
def zr_38 : jb_Rf := fun a => if a = 20 then (fun _ => 0) else zr_37 a
def zM_38 (M : jb_Mi) : jb_Mi := fun a => if a = 20 then (fun _ => 0) else zM_37 M a
def zN_38 (N : jb_Ml) : jb_Ml := fun a => if a = 20 then (fun _ => 0) else zN_37 N a
abbrev zs_38 (L : Nat) (M : jb_Mi) (N : jb_Ml) : jb_S := (((9, L) :: zE_sh.take 20, zr_38), zM_38 M, zN_38 N)
def zr_39 : jb_Rf := jb_ur zr_38 14 5 20
def zM_39 (M : jb_Mi) : jb_Mi := zM_38 M
def zN_39 (N : jb_Ml) : jb_Ml := zN_38 N
abbrev zs_39 (L : Nat) (M : jb_Mi) (N : jb_Ml) : jb_S := (((9, L) :: zE_sh.take 20, zr_39), zM_39 M, zN_39 N)
def zr_40 : jb_Rf := fun a => if a = 21 then (fun _ => 0) else zr_39 a
def zM_40 (M : jb_Mi) : jb_Mi := fun a => if a = 21 then (fun _ => 0) else zM_39 M a
def zN_40 (N : jb_Ml) : jb_Ml := fun a => if a = 21 then (fun _ => 0) else zN_39 N a
abbrev zs_40 (L : Nat) (M : jb_Mi) (N : jb_Ml) : jb_S := (((9, L) :: zE_sh.take 21, zr_40), zM_40 M, zN_40 N)
def zr_41 : jb_Rf := jb_ur zr_40 14 6 21
def zM_41 (M : jb_Mi) : jb_Mi := zM_40 M
def zN_41 (N : jb_Ml) : jb_Ml := zN_40 N
abbrev zs_41 (L : Nat) (M : jb_Mi) (N : jb_Ml) : jb_S := (((9, L) :: zE_sh.take 21, zr_41), zM_41 M, zN_41 N)
def zr_42 : jb_Rf := fun a => if a = 22 then (fun _ => 0) else zr_41 a
def zM_42 (M : jb_Mi) : jb_Mi := fun a => if a = 22 then (fun _ => 0) else zM_41 M a
def zN_42 (N : jb_Ml) : jb_Ml := fun a => if a = 22 then (fun _ => 0) else zN_41 N a
abbrev zs_42 (L : Nat) (M : jb_Mi) (N : jb_Ml) : jb_S := (((9, L) :: zE_sh.take 22, zr_42), zM_42 M, zN_42 N)
def zr_43 : jb_Rf := jb_ur zr_42 14 7 22
def zM_43 (M : jb_Mi) : jb_Mi := zM_42 M
def zN_43 (N : jb_Ml) : jb_Ml := zN_42 N
abbrev zs_43 (L : Nat) (M : jb_Mi) (N : jb_Ml) : jb_S := (((9, L) :: zE_sh.take 22, zr_43), zM_43 M, zN_43 N)
def zr_44 : jb_Rf := fun a => if a = 23 then (fun _ => 0) else zr_43 a
def zM_44 (M : jb_Mi) : jb_Mi := fun a => if a = 23 then (fun _ => 0) else zM_43 M a
def zN_44 (N : jb_Ml) : jb_Ml := fun a => if a = 23 then (fun _ => 0) else zN_43 N a
abbrev zs_44 (L : Nat) (M : jb_Mi) (N : jb_Ml) : jb_S := (((9, L) :: zE_sh.take 23, zr_44), zM_44 M, zN_44 N)
def zr_45 : jb_Rf := jb_ur zr_44 14 8 23
def zM_45 (M : jb_Mi) : jb_Mi := zM_44 M
def zN_45 (N : jb_Ml) : jb_Ml := zN_44 N
abbrev zs_45 (L : Nat) (M : jb_Mi) (N : jb_Ml) : jb_S := (((9, L) :: zE_sh.take 23, zr_45), zM_45 M, zN_45 N)
def zr_46 : jb_Rf := zr_45
def zM_46 (M : jb_Mi) : jb_Mi := jb_up (zM_45 M) 14 11 1
def zN_46 (N : jb_Ml) : jb_Ml := zN_45 N
abbrev zs_46 (L : Nat) (M : jb_Mi) (N : jb_Ml) : jb_S := (((9, L) :: zE_sh.take 23, zr_46), zM_46 M, zN_46 N)
set_option maxRecDepth 8000 in
theorem zi_3 {Γ : jb_G} {L : Nat} {M : jb_Mi} {N : jb_Ml} {d : Nat} (hd : 1 ≤ d) : jb_V Γ d zq_101 0 (jb_en 1 [.ref 14]) [] (zs_27 L M N) none (zs_46 L M N) := by
  obtain ⟨d, rfl⟩ : ∃ e, d = e + 1 := ⟨d - 1, by omega⟩
  show jb_V Γ _ zq_101 0 [some (.ref 14)] [] (zs_27 L M N) _ _
  refine jb_seg 1 (pc' := 1) (ls' := [some (.ref 14)]) (st' := [(.ref 14)]) (σ' := (zs_27 L M N)) (G := []) rfl trivial ?_
  refine jb_oinit (rest := []) rfl (Nat.le_of_ble_eq_true rfl) ?_
  refine jb_seg 2 (pc' := 7) (ls' := [some (.ref 14)]) (st' := [(.int 6), (.ref 14)]) (σ' := (zs_27 L M N)) (G := []) rfl trivial ?_
  refine jb_newai (N := 6) (rest := [(.ref 14)]) rfl (by decide) (by decide) (by decide) rfl ?_
  show jb_V Γ _ zq_101 9 [some (.ref 14)] [(.ref 15), (.ref 14)] (zs_28 L M N) _ _
  refine jb_putR (rest := []) rfl rfl rfl rfl rfl rfl (by decide) (Nat.le_of_ble_eq_true rfl) ?_
  show jb_V Γ _ zq_101 12 [some (.ref 14)] [] (zs_29 L M N) _ _
  refine jb_seg 2 (pc' := 15) (ls' := [some (.ref 14)]) (st' := [(.int 6), (.ref 14)]) (σ' := (zs_29 L M N)) (G := []) rfl trivial ?_
  refine jb_newai (N := 6) (rest := [(.ref 14)]) rfl (by decide) (by decide) (by decide) rfl ?_
  show jb_V Γ _ zq_101 17 [some (.ref 14)] [(.ref 16), (.ref 14)] (zs_30 L M N) _ _
  refine jb_putR (rest := []) rfl rfl rfl rfl rfl rfl (by decide) (Nat.le_of_ble_eq_true rfl) ?_
  show jb_V Γ _ zq_101 20 [some (.ref 14)] [] (zs_31 L M N) _ _
  refine jb_seg 2 (pc' := 23) (ls' := [some (.ref 14)]) (st' := [(.int 6), (.ref 14)]) (σ' := (zs_31 L M N)) (G := []) rfl trivial ?_
  refine jb_newai (N := 6) (rest := [(.ref 14)]) rfl (by decide) (by decide) (by decide) rfl ?_
  show jb_V Γ _ zq_101 25 [some (.ref 14)] [(.ref 17), (.ref 14)] (zs_32 L M N) _ _
  refine jb_putR (rest := []) rfl rfl rfl rfl rfl rfl (by decide) (Nat.le_of_ble_eq_true rfl) ?_
  show jb_V Γ _ zq_101 28 [some (.ref 14)] [] (zs_33 L M N) _ _
  refine jb_seg 2 (pc' := 31) (ls' := [some (.ref 14)]) (st' := [(.int 24), (.ref 14)]) (σ' := (zs_33 L M N)) (G := []) rfl trivial ?_
  refine jb_newai (N := 24) (rest := [(.ref 14)]) rfl (by decide) (by decide) (by decide) rfl ?_
  show jb_V Γ _ zq_101 33 [some (.ref 14)] [(.ref 18), (.ref 14)] (zs_34 L M N) _ _
  refine jb_putR (rest := []) rfl rfl rfl rfl rfl rfl (by decide) (Nat.le_of_ble_eq_true rfl) ?_
  show jb_V Γ _ zq_101 36 [some (.ref 14)] [] (zs_35 L M N) _ _
  refine jb_seg 2 (pc' := 39) (ls' := [some (.ref 14)]) (st' := [(.int 24), (.ref 14)]) (σ' := (zs_35 L M N)) (G := []) rfl trivial ?_
  refine jb_newai (N := 24) (rest := [(.ref 14)]) rfl (by decide) (by decide) (by decide) rfl ?_
  show jb_V Γ _ zq_101 41 [some (.ref 14)] [(.ref 19), (.ref 14)] (zs_36 L M N) _ _
  refine jb_putR (rest := []) rfl rfl rfl rfl rfl rfl (by decide) (Nat.le_of_ble_eq_true rfl) ?_
  show jb_V Γ _ zq_101 44 [some (.ref 14)] [] (zs_37 L M N) _ _
  refine jb_seg 2 (pc' := 47) (ls' := [some (.ref 14)]) (st' := [(.int 24), (.ref 14)]) (σ' := (zs_37 L M N)) (G := []) rfl trivial ?_
  refine jb_newai (N := 24) (rest := [(.ref 14)]) rfl (by decide) (by decide) (by decide) rfl ?_
  show jb_V Γ _ zq_101 49 [some (.ref 14)] [(.ref 20), (.ref 14)] (zs_38 L M N) _ _
  refine jb_putR (rest := []) rfl rfl rfl rfl rfl rfl (by decide) (Nat.le_of_ble_eq_true rfl) ?_
  show jb_V Γ _ zq_101 52 [some (.ref 14)] [] (zs_39 L M N) _ _
  refine jb_seg 2 (pc' := 55) (ls' := [some (.ref 14)]) (st' := [(.int 24), (.ref 14)]) (σ' := (zs_39 L M N)) (G := []) rfl trivial ?_
  refine jb_newai (N := 24) (rest := [(.ref 14)]) rfl (by decide) (by decide) (by decide) rfl ?_
  show jb_V Γ _ zq_101 57 [some (.ref 14)] [(.ref 21), (.ref 14)] (zs_40 L M N) _ _
  refine jb_putR (rest := []) rfl rfl rfl rfl rfl rfl (by decide) (Nat.le_of_ble_eq_true rfl) ?_
  show jb_V Γ _ zq_101 60 [some (.ref 14)] [] (zs_41 L M N) _ _
  refine jb_seg 2 (pc' := 63) (ls' := [some (.ref 14)]) (st' := [(.int 16), (.ref 14)]) (σ' := (zs_41 L M N)) (G := []) rfl trivial ?_
  refine jb_newai (N := 16) (rest := [(.ref 14)]) rfl (by decide) (by decide) (by decide) rfl ?_
  show jb_V Γ _ zq_101 65 [some (.ref 14)] [(.ref 22), (.ref 14)] (zs_42 L M N) _ _
  refine jb_putR (rest := []) rfl rfl rfl rfl rfl rfl (by decide) (Nat.le_of_ble_eq_true rfl) ?_
  show jb_V Γ _ zq_101 68 [some (.ref 14)] [] (zs_43 L M N) _ _
  refine jb_seg 2 (pc' := 71) (ls' := [some (.ref 14)]) (st' := [(.int 16), (.ref 14)]) (σ' := (zs_43 L M N)) (G := []) rfl trivial ?_
  refine jb_newai (N := 16) (rest := [(.ref 14)]) rfl (by decide) (by decide) (by decide) rfl ?_
  show jb_V Γ _ zq_101 73 [some (.ref 14)] [(.ref 23), (.ref 14)] (zs_44 L M N) _ _
  refine jb_putR (rest := []) rfl rfl rfl rfl rfl rfl (by decide) (Nat.le_of_ble_eq_true rfl) ?_
  show jb_V Γ _ zq_101 76 [some (.ref 14)] [] (zs_45 L M N) _ _
  refine jb_seg 3 (pc' := 81) (ls' := [some (.ref 14)]) (st' := []) (σ' := (zs_46 L M N)) (G := []) rfl trivial ?_
  exact jb_retv rfl rfl
def zr_47 : jb_Rf := jb_ur zr_46 1 2 14
def zM_47 (M : jb_Mi) : jb_Mi := zM_46 M
def zN_47 (N : jb_Ml) : jb_Ml := zN_46 N
abbrev zs_47 (L : Nat) (M : jb_Mi) (N : jb_Ml) : jb_S := (((9, L) :: zE_sh.take 23, zr_47), zM_47 M, zN_47 N)
def zr_48 : jb_Rf := fun a => if a = 24 then (fun _ => 0) else zr_47 a
def zM_48 (M : jb_Mi) : jb_Mi := fun a => if a = 24 then (fun _ => 0) else zM_47 M a
def zN_48 (N : jb_Ml) : jb_Ml := fun a => if a = 24 then (fun _ => 0) else zN_47 N a
abbrev zs_48 (L : Nat) (M : jb_Mi) (N : jb_Ml) : jb_S := (((9, L) :: zE_sh.take 24, zr_48), zM_48 M, zN_48 N)
def zr_49 : jb_Rf := fun a => if a = 25 then (fun _ => 0) else zr_48 a
def zM_49 (M : jb_Mi) : jb_Mi := fun a => if a = 25 then (fun _ => 0) else zM_48 M a
def zN_49 (N : jb_Ml) : jb_Ml := fun a => if a = 25 then (fun _ => 0) else zN_48 N a
abbrev zs_49 (L : Nat) (M : jb_Mi) (N : jb_Ml) : jb_S := (((9, L) :: zE_sh.take 25, zr_49), zM_49 M, zN_49 N)
def zr_50 : jb_Rf := jb_ur zr_49 24 0 25
def zM_50 (M : jb_Mi) : jb_Mi := zM_49 M
def zN_50 (N : jb_Ml) : jb_Ml := zN_49 N
abbrev zs_50 (L : Nat) (M : jb_Mi) (N : jb_Ml) : jb_S := (((9, L) :: zE_sh.take 25, zr_50), zM_50 M, zN_50 N)
def zr_51 : jb_Rf := fun a => if a = 26 then (fun _ => 0) else zr_50 a
def zM_51 (M : jb_Mi) : jb_Mi := fun a => if a = 26 then (fun _ => 0) else zM_50 M a
def zN_51 (N : jb_Ml) : jb_Ml := fun a => if a = 26 then (fun _ => 0) else zN_50 N a
abbrev zs_51 (L : Nat) (M : jb_Mi) (N : jb_Ml) : jb_S := (((9, L) :: zE_sh.take 26, zr_51), zM_51 M, zN_51 N)
def zr_52 : jb_Rf := jb_ur zr_51 24 1 26
def zM_52 (M : jb_Mi) : jb_Mi := zM_51 M
def zN_52 (N : jb_Ml) : jb_Ml := zN_51 N
abbrev zs_52 (L : Nat) (M : jb_Mi) (N : jb_Ml) : jb_S := (((9, L) :: zE_sh.take 26, zr_52), zM_52 M, zN_52 N)
def zr_53 : jb_Rf := fun a => if a = 27 then (fun _ => 0) else zr_52 a
def zM_53 (M : jb_Mi) : jb_Mi := fun a => if a = 27 then (fun _ => 0) else zM_52 M a
def zN_53 (N : jb_Ml) : jb_Ml := fun a => if a = 27 then (fun _ => 0) else zN_52 N a
abbrev zs_53 (L : Nat) (M : jb_Mi) (N : jb_Ml) : jb_S := (((9, L) :: zE_sh.take 27, zr_53), zM_53 M, zN_53 N)
def zr_54 : jb_Rf := jb_ur zr_53 24 2 27
def zM_54 (M : jb_Mi) : jb_Mi := zM_53 M
def zN_54 (N : jb_Ml) : jb_Ml := zN_53 N
abbrev zs_54 (L : Nat) (M : jb_Mi) (N : jb_Ml) : jb_S := (((9, L) :: zE_sh.take 27, zr_54), zM_54 M, zN_54 N)
def zr_55 : jb_Rf := fun a => if a = 28 then (fun _ => 0) else zr_54 a
def zM_55 (M : jb_Mi) : jb_Mi := fun a => if a = 28 then (fun _ => 0) else zM_54 M a
def zN_55 (N : jb_Ml) : jb_Ml := fun a => if a = 28 then (fun _ => 0) else zN_54 N a
abbrev zs_55 (L : Nat) (M : jb_Mi) (N : jb_Ml) : jb_S := (((9, L) :: zE_sh.take 28, zr_55), zM_55 M, zN_55 N)
def zr_56 : jb_Rf := jb_ur zr_55 24 3 28
def zM_56 (M : jb_Mi) : jb_Mi := zM_55 M
def zN_56 (N : jb_Ml) : jb_Ml := zN_55 N
abbrev zs_56 (L : Nat) (M : jb_Mi) (N : jb_Ml) : jb_S := (((9, L) :: zE_sh.take 28, zr_56), zM_56 M, zN_56 N)
def zr_57 : jb_Rf := fun a => if a = 29 then (fun _ => 0) else zr_56 a
def zM_57 (M : jb_Mi) : jb_Mi := fun a => if a = 29 then (fun _ => 0) else zM_56 M a
def zN_57 (N : jb_Ml) : jb_Ml := fun a => if a = 29 then (fun _ => 0) else zN_56 N a
abbrev zs_57 (L : Nat) (M : jb_Mi) (N : jb_Ml) : jb_S := (((9, L) :: zE_sh.take 29, zr_57), zM_57 M, zN_57 N)
def zr_58 : jb_Rf := jb_ur zr_57 24 4 29
def zM_58 (M : jb_Mi) : jb_Mi := zM_57 M
def zN_58 (N : jb_Ml) : jb_Ml := zN_57 N
abbrev zs_58 (L : Nat) (M : jb_Mi) (N : jb_Ml) : jb_S := (((9, L) :: zE_sh.take 29, zr_58), zM_58 M, zN_58 N)
def zr_59 : jb_Rf := fun a => if a = 30 then (fun _ => 0) else zr_58 a
def zM_59 (M : jb_Mi) : jb_Mi := fun a => if a = 30 then (fun _ => 0) else zM_58 M a
def zN_59 (N : jb_Ml) : jb_Ml := fun a => if a = 30 then (fun _ => 0) else zN_58 N a
abbrev zs_59 (L : Nat) (M : jb_Mi) (N : jb_Ml) : jb_S := (((9, L) :: zE_sh.take 30, zr_59), zM_59 M, zN_59 N)
def zr_60 : jb_Rf := jb_ur zr_59 24 5 30
def zM_60 (M : jb_Mi) : jb_Mi := zM_59 M
def zN_60 (N : jb_Ml) : jb_Ml := zN_59 N
abbrev zs_60 (L : Nat) (M : jb_Mi) (N : jb_Ml) : jb_S := (((9, L) :: zE_sh.take 30, zr_60), zM_60 M, zN_60 N)
def zr_61 : jb_Rf := fun a => if a = 31 then (fun _ => 0) else zr_60 a
def zM_61 (M : jb_Mi) : jb_Mi := fun a => if a = 31 then (fun _ => 0) else zM_60 M a
def zN_61 (N : jb_Ml) : jb_Ml := fun a => if a = 31 then (fun _ => 0) else zN_60 N a
abbrev zs_61 (L : Nat) (M : jb_Mi) (N : jb_Ml) : jb_S := (((9, L) :: zE_sh.take 31, zr_61), zM_61 M, zN_61 N)
def zr_62 : jb_Rf := jb_ur zr_61 24 6 31
def zM_62 (M : jb_Mi) : jb_Mi := zM_61 M
def zN_62 (N : jb_Ml) : jb_Ml := zN_61 N
abbrev zs_62 (L : Nat) (M : jb_Mi) (N : jb_Ml) : jb_S := (((9, L) :: zE_sh.take 31, zr_62), zM_62 M, zN_62 N)
def zr_63 : jb_Rf := fun a => if a = 32 then (fun _ => 0) else zr_62 a
def zM_63 (M : jb_Mi) : jb_Mi := fun a => if a = 32 then (fun _ => 0) else zM_62 M a
def zN_63 (N : jb_Ml) : jb_Ml := fun a => if a = 32 then (fun _ => 0) else zN_62 N a
abbrev zs_63 (L : Nat) (M : jb_Mi) (N : jb_Ml) : jb_S := (((9, L) :: zE_sh.take 32, zr_63), zM_63 M, zN_63 N)
def zr_64 : jb_Rf := jb_ur zr_63 24 7 32
def zM_64 (M : jb_Mi) : jb_Mi := zM_63 M
def zN_64 (N : jb_Ml) : jb_Ml := zN_63 N
abbrev zs_64 (L : Nat) (M : jb_Mi) (N : jb_Ml) : jb_S := (((9, L) :: zE_sh.take 32, zr_64), zM_64 M, zN_64 N)
def zr_65 : jb_Rf := fun a => if a = 33 then (fun _ => 0) else zr_64 a
def zM_65 (M : jb_Mi) : jb_Mi := fun a => if a = 33 then (fun _ => 0) else zM_64 M a
def zN_65 (N : jb_Ml) : jb_Ml := fun a => if a = 33 then (fun _ => 0) else zN_64 N a
abbrev zs_65 (L : Nat) (M : jb_Mi) (N : jb_Ml) : jb_S := (((9, L) :: zE_sh.take 33, zr_65), zM_65 M, zN_65 N)
def zr_66 : jb_Rf := jb_ur zr_65 24 8 33
def zM_66 (M : jb_Mi) : jb_Mi := zM_65 M
def zN_66 (N : jb_Ml) : jb_Ml := zN_65 N
abbrev zs_66 (L : Nat) (M : jb_Mi) (N : jb_Ml) : jb_S := (((9, L) :: zE_sh.take 33, zr_66), zM_66 M, zN_66 N)
def zr_67 : jb_Rf := zr_66
def zM_67 (M : jb_Mi) : jb_Mi := jb_up (zM_66 M) 24 11 1
def zN_67 (N : jb_Ml) : jb_Ml := zN_66 N
abbrev zs_67 (L : Nat) (M : jb_Mi) (N : jb_Ml) : jb_S := (((9, L) :: zE_sh.take 33, zr_67), zM_67 M, zN_67 N)
set_option maxRecDepth 8000 in
theorem zi_4 {Γ : jb_G} {L : Nat} {M : jb_Mi} {N : jb_Ml} {d : Nat} (hd : 1 ≤ d) : jb_V Γ d zq_101 0 (jb_en 1 [.ref 24]) [] (zs_48 L M N) none (zs_67 L M N) := by
  obtain ⟨d, rfl⟩ : ∃ e, d = e + 1 := ⟨d - 1, by omega⟩
  show jb_V Γ _ zq_101 0 [some (.ref 24)] [] (zs_48 L M N) _ _
  refine jb_seg 1 (pc' := 1) (ls' := [some (.ref 24)]) (st' := [(.ref 24)]) (σ' := (zs_48 L M N)) (G := []) rfl trivial ?_
  refine jb_oinit (rest := []) rfl (Nat.le_of_ble_eq_true rfl) ?_
  refine jb_seg 2 (pc' := 7) (ls' := [some (.ref 24)]) (st' := [(.int 6), (.ref 24)]) (σ' := (zs_48 L M N)) (G := []) rfl trivial ?_
  refine jb_newai (N := 6) (rest := [(.ref 24)]) rfl (by decide) (by decide) (by decide) rfl ?_
  show jb_V Γ _ zq_101 9 [some (.ref 24)] [(.ref 25), (.ref 24)] (zs_49 L M N) _ _
  refine jb_putR (rest := []) rfl rfl rfl rfl rfl rfl (by decide) (Nat.le_of_ble_eq_true rfl) ?_
  show jb_V Γ _ zq_101 12 [some (.ref 24)] [] (zs_50 L M N) _ _
  refine jb_seg 2 (pc' := 15) (ls' := [some (.ref 24)]) (st' := [(.int 6), (.ref 24)]) (σ' := (zs_50 L M N)) (G := []) rfl trivial ?_
  refine jb_newai (N := 6) (rest := [(.ref 24)]) rfl (by decide) (by decide) (by decide) rfl ?_
  show jb_V Γ _ zq_101 17 [some (.ref 24)] [(.ref 26), (.ref 24)] (zs_51 L M N) _ _
  refine jb_putR (rest := []) rfl rfl rfl rfl rfl rfl (by decide) (Nat.le_of_ble_eq_true rfl) ?_
  show jb_V Γ _ zq_101 20 [some (.ref 24)] [] (zs_52 L M N) _ _
  refine jb_seg 2 (pc' := 23) (ls' := [some (.ref 24)]) (st' := [(.int 6), (.ref 24)]) (σ' := (zs_52 L M N)) (G := []) rfl trivial ?_
  refine jb_newai (N := 6) (rest := [(.ref 24)]) rfl (by decide) (by decide) (by decide) rfl ?_
  show jb_V Γ _ zq_101 25 [some (.ref 24)] [(.ref 27), (.ref 24)] (zs_53 L M N) _ _
  refine jb_putR (rest := []) rfl rfl rfl rfl rfl rfl (by decide) (Nat.le_of_ble_eq_true rfl) ?_
  show jb_V Γ _ zq_101 28 [some (.ref 24)] [] (zs_54 L M N) _ _
  refine jb_seg 2 (pc' := 31) (ls' := [some (.ref 24)]) (st' := [(.int 24), (.ref 24)]) (σ' := (zs_54 L M N)) (G := []) rfl trivial ?_
  refine jb_newai (N := 24) (rest := [(.ref 24)]) rfl (by decide) (by decide) (by decide) rfl ?_
  show jb_V Γ _ zq_101 33 [some (.ref 24)] [(.ref 28), (.ref 24)] (zs_55 L M N) _ _
  refine jb_putR (rest := []) rfl rfl rfl rfl rfl rfl (by decide) (Nat.le_of_ble_eq_true rfl) ?_
  show jb_V Γ _ zq_101 36 [some (.ref 24)] [] (zs_56 L M N) _ _
  refine jb_seg 2 (pc' := 39) (ls' := [some (.ref 24)]) (st' := [(.int 24), (.ref 24)]) (σ' := (zs_56 L M N)) (G := []) rfl trivial ?_
  refine jb_newai (N := 24) (rest := [(.ref 24)]) rfl (by decide) (by decide) (by decide) rfl ?_
  show jb_V Γ _ zq_101 41 [some (.ref 24)] [(.ref 29), (.ref 24)] (zs_57 L M N) _ _
  refine jb_putR (rest := []) rfl rfl rfl rfl rfl rfl (by decide) (Nat.le_of_ble_eq_true rfl) ?_
  show jb_V Γ _ zq_101 44 [some (.ref 24)] [] (zs_58 L M N) _ _
  refine jb_seg 2 (pc' := 47) (ls' := [some (.ref 24)]) (st' := [(.int 24), (.ref 24)]) (σ' := (zs_58 L M N)) (G := []) rfl trivial ?_
  refine jb_newai (N := 24) (rest := [(.ref 24)]) rfl (by decide) (by decide) (by decide) rfl ?_
  show jb_V Γ _ zq_101 49 [some (.ref 24)] [(.ref 30), (.ref 24)] (zs_59 L M N) _ _
  refine jb_putR (rest := []) rfl rfl rfl rfl rfl rfl (by decide) (Nat.le_of_ble_eq_true rfl) ?_
  show jb_V Γ _ zq_101 52 [some (.ref 24)] [] (zs_60 L M N) _ _
  refine jb_seg 2 (pc' := 55) (ls' := [some (.ref 24)]) (st' := [(.int 24), (.ref 24)]) (σ' := (zs_60 L M N)) (G := []) rfl trivial ?_
  refine jb_newai (N := 24) (rest := [(.ref 24)]) rfl (by decide) (by decide) (by decide) rfl ?_
  show jb_V Γ _ zq_101 57 [some (.ref 24)] [(.ref 31), (.ref 24)] (zs_61 L M N) _ _
  refine jb_putR (rest := []) rfl rfl rfl rfl rfl rfl (by decide) (Nat.le_of_ble_eq_true rfl) ?_
  show jb_V Γ _ zq_101 60 [some (.ref 24)] [] (zs_62 L M N) _ _
  refine jb_seg 2 (pc' := 63) (ls' := [some (.ref 24)]) (st' := [(.int 16), (.ref 24)]) (σ' := (zs_62 L M N)) (G := []) rfl trivial ?_
  refine jb_newai (N := 16) (rest := [(.ref 24)]) rfl (by decide) (by decide) (by decide) rfl ?_
  show jb_V Γ _ zq_101 65 [some (.ref 24)] [(.ref 32), (.ref 24)] (zs_63 L M N) _ _
  refine jb_putR (rest := []) rfl rfl rfl rfl rfl rfl (by decide) (Nat.le_of_ble_eq_true rfl) ?_
  show jb_V Γ _ zq_101 68 [some (.ref 24)] [] (zs_64 L M N) _ _
  refine jb_seg 2 (pc' := 71) (ls' := [some (.ref 24)]) (st' := [(.int 16), (.ref 24)]) (σ' := (zs_64 L M N)) (G := []) rfl trivial ?_
  refine jb_newai (N := 16) (rest := [(.ref 24)]) rfl (by decide) (by decide) (by decide) rfl ?_
  show jb_V Γ _ zq_101 73 [some (.ref 24)] [(.ref 33), (.ref 24)] (zs_65 L M N) _ _
  refine jb_putR (rest := []) rfl rfl rfl rfl rfl rfl (by decide) (Nat.le_of_ble_eq_true rfl) ?_
  show jb_V Γ _ zq_101 76 [some (.ref 24)] [] (zs_66 L M N) _ _
  refine jb_seg 3 (pc' := 81) (ls' := [some (.ref 24)]) (st' := []) (σ' := (zs_67 L M N)) (G := []) rfl trivial ?_
  exact jb_retv rfl rfl
def zr_68 : jb_Rf := jb_ur zr_67 1 3 24
def zM_68 (M : jb_Mi) : jb_Mi := zM_67 M
def zN_68 (N : jb_Ml) : jb_Ml := zN_67 N
abbrev zs_68 (L : Nat) (M : jb_Mi) (N : jb_Ml) : jb_S := (((9, L) :: zE_sh.take 33, zr_68), zM_68 M, zN_68 N)
def zr_69 : jb_Rf := fun a => if a = 34 then (fun _ => 0) else zr_68 a
def zM_69 (M : jb_Mi) : jb_Mi := fun a => if a = 34 then (fun _ => 0) else zM_68 M a
def zN_69 (N : jb_Ml) : jb_Ml := fun a => if a = 34 then (fun _ => 0) else zN_68 N a
abbrev zs_69 (L : Nat) (M : jb_Mi) (N : jb_Ml) : jb_S := (((9, L) :: zE_sh.take 34, zr_69), zM_69 M, zN_69 N)
def zr_70 : jb_Rf := fun a => if a = 35 then (fun _ => 0) else zr_69 a
def zM_70 (M : jb_Mi) : jb_Mi := fun a => if a = 35 then (fun _ => 0) else zM_69 M a
def zN_70 (N : jb_Ml) : jb_Ml := fun a => if a = 35 then (fun _ => 0) else zN_69 N a
abbrev zs_70 (L : Nat) (M : jb_Mi) (N : jb_Ml) : jb_S := (((9, L) :: zE_sh.take 35, zr_70), zM_70 M, zN_70 N)
def zr_71 : jb_Rf := jb_ur zr_70 34 0 35
def zM_71 (M : jb_Mi) : jb_Mi := zM_70 M
def zN_71 (N : jb_Ml) : jb_Ml := zN_70 N
abbrev zs_71 (L : Nat) (M : jb_Mi) (N : jb_Ml) : jb_S := (((9, L) :: zE_sh.take 35, zr_71), zM_71 M, zN_71 N)
def zr_72 : jb_Rf := fun a => if a = 36 then (fun _ => 0) else zr_71 a
def zM_72 (M : jb_Mi) : jb_Mi := fun a => if a = 36 then (fun _ => 0) else zM_71 M a
def zN_72 (N : jb_Ml) : jb_Ml := fun a => if a = 36 then (fun _ => 0) else zN_71 N a
abbrev zs_72 (L : Nat) (M : jb_Mi) (N : jb_Ml) : jb_S := (((9, L) :: zE_sh.take 36, zr_72), zM_72 M, zN_72 N)
def zr_73 : jb_Rf := jb_ur zr_72 34 1 36
def zM_73 (M : jb_Mi) : jb_Mi := zM_72 M
def zN_73 (N : jb_Ml) : jb_Ml := zN_72 N
abbrev zs_73 (L : Nat) (M : jb_Mi) (N : jb_Ml) : jb_S := (((9, L) :: zE_sh.take 36, zr_73), zM_73 M, zN_73 N)
def zr_74 : jb_Rf := fun a => if a = 37 then (fun _ => 0) else zr_73 a
def zM_74 (M : jb_Mi) : jb_Mi := fun a => if a = 37 then (fun _ => 0) else zM_73 M a
def zN_74 (N : jb_Ml) : jb_Ml := fun a => if a = 37 then (fun _ => 0) else zN_73 N a
abbrev zs_74 (L : Nat) (M : jb_Mi) (N : jb_Ml) : jb_S := (((9, L) :: zE_sh.take 37, zr_74), zM_74 M, zN_74 N)
def zr_75 : jb_Rf := jb_ur zr_74 34 2 37
def zM_75 (M : jb_Mi) : jb_Mi := zM_74 M
def zN_75 (N : jb_Ml) : jb_Ml := zN_74 N
abbrev zs_75 (L : Nat) (M : jb_Mi) (N : jb_Ml) : jb_S := (((9, L) :: zE_sh.take 37, zr_75), zM_75 M, zN_75 N)
def zr_76 : jb_Rf := fun a => if a = 38 then (fun _ => 0) else zr_75 a
def zM_76 (M : jb_Mi) : jb_Mi := fun a => if a = 38 then (fun _ => 0) else zM_75 M a
def zN_76 (N : jb_Ml) : jb_Ml := fun a => if a = 38 then (fun _ => 0) else zN_75 N a
abbrev zs_76 (L : Nat) (M : jb_Mi) (N : jb_Ml) : jb_S := (((9, L) :: zE_sh.take 38, zr_76), zM_76 M, zN_76 N)
def zr_77 : jb_Rf := jb_ur zr_76 34 4 38
def zM_77 (M : jb_Mi) : jb_Mi := zM_76 M
def zN_77 (N : jb_Ml) : jb_Ml := zN_76 N
abbrev zs_77 (L : Nat) (M : jb_Mi) (N : jb_Ml) : jb_S := (((9, L) :: zE_sh.take 38, zr_77), zM_77 M, zN_77 N)
def zr_78 : jb_Rf := fun a => if a = 39 then (fun _ => 0) else zr_77 a
def zM_78 (M : jb_Mi) : jb_Mi := fun a => if a = 39 then (fun _ => 0) else zM_77 M a
def zN_78 (N : jb_Ml) : jb_Ml := fun a => if a = 39 then (fun _ => 0) else zN_77 N a
abbrev zs_78 (L : Nat) (M : jb_Mi) (N : jb_Ml) : jb_S := (((9, L) :: zE_sh.take 39, zr_78), zM_78 M, zN_78 N)
def zr_79 : jb_Rf := jb_ur zr_78 34 5 39
def zM_79 (M : jb_Mi) : jb_Mi := zM_78 M
def zN_79 (N : jb_Ml) : jb_Ml := zN_78 N
abbrev zs_79 (L : Nat) (M : jb_Mi) (N : jb_Ml) : jb_S := (((9, L) :: zE_sh.take 39, zr_79), zM_79 M, zN_79 N)
def zr_80 : jb_Rf := fun a => if a = 40 then (fun _ => 0) else zr_79 a
def zM_80 (M : jb_Mi) : jb_Mi := fun a => if a = 40 then (fun _ => 0) else zM_79 M a
def zN_80 (N : jb_Ml) : jb_Ml := fun a => if a = 40 then (fun _ => 0) else zN_79 N a
abbrev zs_80 (L : Nat) (M : jb_Mi) (N : jb_Ml) : jb_S := (((9, L) :: zE_sh.take 40, zr_80), zM_80 M, zN_80 N)
def zr_81 : jb_Rf := jb_ur zr_80 34 6 40
def zM_81 (M : jb_Mi) : jb_Mi := zM_80 M
def zN_81 (N : jb_Ml) : jb_Ml := zN_80 N
abbrev zs_81 (L : Nat) (M : jb_Mi) (N : jb_Ml) : jb_S := (((9, L) :: zE_sh.take 40, zr_81), zM_81 M, zN_81 N)
set_option maxRecDepth 8000 in
theorem zi_5 {Γ : jb_G} {L : Nat} {M : jb_Mi} {N : jb_Ml} {d : Nat} (hd : 1 ≤ d) : jb_V Γ d zq_94 0 (jb_en 1 [.ref 34]) [] (zs_69 L M N) none (zs_81 L M N) := by
  obtain ⟨d, rfl⟩ : ∃ e, d = e + 1 := ⟨d - 1, by omega⟩
  show jb_V Γ _ zq_94 0 [some (.ref 34)] [] (zs_69 L M N) _ _
  refine jb_seg 1 (pc' := 1) (ls' := [some (.ref 34)]) (st' := [(.ref 34)]) (σ' := (zs_69 L M N)) (G := []) rfl trivial ?_
  refine jb_oinit (rest := []) rfl (Nat.le_of_ble_eq_true rfl) ?_
  refine jb_seg 2 (pc' := 8) (ls' := [some (.ref 34)]) (st' := [(.int 1152), (.ref 34)]) (σ' := (zs_69 L M N)) (G := []) rfl trivial ?_
  refine jb_newai (N := 1152) (rest := [(.ref 34)]) rfl (by decide) (by decide) (by decide) rfl ?_
  show jb_V Γ _ zq_94 10 [some (.ref 34)] [(.ref 35), (.ref 34)] (zs_70 L M N) _ _
  refine jb_putR (rest := []) rfl rfl rfl rfl rfl rfl (by decide) (Nat.le_of_ble_eq_true rfl) ?_
  show jb_V Γ _ zq_94 13 [some (.ref 34)] [] (zs_71 L M N) _ _
  refine jb_seg 2 (pc' := 16) (ls' := [some (.ref 34)]) (st' := [(.int 24), (.ref 34)]) (σ' := (zs_71 L M N)) (G := []) rfl trivial ?_
  refine jb_newai (N := 24) (rest := [(.ref 34)]) rfl (by decide) (by decide) (by decide) rfl ?_
  show jb_V Γ _ zq_94 18 [some (.ref 34)] [(.ref 36), (.ref 34)] (zs_72 L M N) _ _
  refine jb_putR (rest := []) rfl rfl rfl rfl rfl rfl (by decide) (Nat.le_of_ble_eq_true rfl) ?_
  show jb_V Γ _ zq_94 21 [some (.ref 34)] [] (zs_73 L M N) _ _
  refine jb_seg 2 (pc' := 24) (ls' := [some (.ref 34)]) (st' := [(.int 48), (.ref 34)]) (σ' := (zs_73 L M N)) (G := []) rfl trivial ?_
  refine jb_newai (N := 48) (rest := [(.ref 34)]) rfl (by decide) (by decide) (by decide) rfl ?_
  show jb_V Γ _ zq_94 26 [some (.ref 34)] [(.ref 37), (.ref 34)] (zs_74 L M N) _ _
  refine jb_putR (rest := []) rfl rfl rfl rfl rfl rfl (by decide) (Nat.le_of_ble_eq_true rfl) ?_
  show jb_V Γ _ zq_94 29 [some (.ref 34)] [] (zs_75 L M N) _ _
  refine jb_seg 2 (pc' := 31) (ls' := [some (.ref 34)]) (st' := [(.int 2), (.ref 34)]) (σ' := (zs_75 L M N)) (G := []) rfl trivial ?_
  refine jb_newai (N := 2) (rest := [(.ref 34)]) rfl (by decide) (by decide) (by decide) rfl ?_
  show jb_V Γ _ zq_94 33 [some (.ref 34)] [(.ref 38), (.ref 34)] (zs_76 L M N) _ _
  refine jb_putR (rest := []) rfl rfl rfl rfl rfl rfl (by decide) (Nat.le_of_ble_eq_true rfl) ?_
  show jb_V Γ _ zq_94 36 [some (.ref 34)] [] (zs_77 L M N) _ _
  refine jb_seg 2 (pc' := 38) (ls' := [some (.ref 34)]) (st' := [(.int 2), (.ref 34)]) (σ' := (zs_77 L M N)) (G := []) rfl trivial ?_
  refine jb_newai (N := 2) (rest := [(.ref 34)]) rfl (by decide) (by decide) (by decide) rfl ?_
  show jb_V Γ _ zq_94 40 [some (.ref 34)] [(.ref 39), (.ref 34)] (zs_78 L M N) _ _
  refine jb_putR (rest := []) rfl rfl rfl rfl rfl rfl (by decide) (Nat.le_of_ble_eq_true rfl) ?_
  show jb_V Γ _ zq_94 43 [some (.ref 34)] [] (zs_79 L M N) _ _
  refine jb_seg 2 (pc' := 45) (ls' := [some (.ref 34)]) (st' := [(.int 2), (.ref 34)]) (σ' := (zs_79 L M N)) (G := []) rfl trivial ?_
  refine jb_newai (N := 2) (rest := [(.ref 34)]) rfl (by decide) (by decide) (by decide) rfl ?_
  show jb_V Γ _ zq_94 47 [some (.ref 34)] [(.ref 40), (.ref 34)] (zs_80 L M N) _ _
  refine jb_putR (rest := []) rfl rfl rfl rfl rfl rfl (by decide) (Nat.le_of_ble_eq_true rfl) ?_
  show jb_V Γ _ zq_94 50 [some (.ref 34)] [] (zs_81 L M N) _ _
  exact jb_retv rfl rfl
def zr_82 : jb_Rf := jb_ur zr_81 1 4 34
def zM_82 (M : jb_Mi) : jb_Mi := zM_81 M
def zN_82 (N : jb_Ml) : jb_Ml := zN_81 N
abbrev zs_82 (L : Nat) (M : jb_Mi) (N : jb_Ml) : jb_S := (((9, L) :: zE_sh.take 40, zr_82), zM_82 M, zN_82 N)
def zr_83 : jb_Rf := fun a => if a = 41 then (fun _ => 0) else zr_82 a
def zM_83 (M : jb_Mi) : jb_Mi := fun a => if a = 41 then (fun _ => 0) else zM_82 M a
def zN_83 (N : jb_Ml) : jb_Ml := fun a => if a = 41 then (fun _ => 0) else zN_82 N a
abbrev zs_83 (L : Nat) (M : jb_Mi) (N : jb_Ml) : jb_S := (((9, L) :: zE_sh.take 41, zr_83), zM_83 M, zN_83 N)
def zr_84 : jb_Rf := fun a => if a = 42 then (fun _ => 0) else zr_83 a
def zM_84 (M : jb_Mi) : jb_Mi := fun a => if a = 42 then (fun _ => 0) else zM_83 M a
def zN_84 (N : jb_Ml) : jb_Ml := fun a => if a = 42 then (fun _ => 0) else zN_83 N a
abbrev zs_84 (L : Nat) (M : jb_Mi) (N : jb_Ml) : jb_S := (((9, L) :: zE_sh.take 42, zr_84), zM_84 M, zN_84 N)
def zr_85 : jb_Rf := jb_ur zr_84 41 2 42
def zM_85 (M : jb_Mi) : jb_Mi := zM_84 M
def zN_85 (N : jb_Ml) : jb_Ml := zN_84 N
abbrev zs_85 (L : Nat) (M : jb_Mi) (N : jb_Ml) : jb_S := (((9, L) :: zE_sh.take 42, zr_85), zM_85 M, zN_85 N)
def zr_86 : jb_Rf := jb_ur zr_85 41 0 4
def zM_86 (M : jb_Mi) : jb_Mi := zM_85 M
def zN_86 (N : jb_Ml) : jb_Ml := zN_85 N
abbrev zs_86 (L : Nat) (M : jb_Mi) (N : jb_Ml) : jb_S := (((9, L) :: zE_sh.take 42, zr_86), zM_86 M, zN_86 N)
def zr_87 : jb_Rf := jb_ur zr_86 41 1 34
def zM_87 (M : jb_Mi) : jb_Mi := zM_86 M
def zN_87 (N : jb_Ml) : jb_Ml := zN_86 N
abbrev zs_87 (L : Nat) (M : jb_Mi) (N : jb_Ml) : jb_S := (((9, L) :: zE_sh.take 42, zr_87), zM_87 M, zN_87 N)
set_option maxRecDepth 8000 in
theorem zi_6 {Γ : jb_G} {L : Nat} {M : jb_Mi} {N : jb_Ml} {d : Nat} (hd : 1 ≤ d) : jb_V Γ d zq_36 0 (jb_en 3 [.ref 41, .ref 4, .ref 34]) [] (zs_83 L M N) none (zs_87 L M N) := by
  obtain ⟨d, rfl⟩ : ∃ e, d = e + 1 := ⟨d - 1, by omega⟩
  show jb_V Γ _ zq_36 0 [some (.ref 41), some (.ref 4), some (.ref 34)] [] (zs_83 L M N) _ _
  refine jb_seg 1 (pc' := 1) (ls' := [some (.ref 41), some (.ref 4), some (.ref 34)]) (st' := [(.ref 41)]) (σ' := (zs_83 L M N)) (G := []) rfl trivial ?_
  refine jb_oinit (rest := []) rfl (Nat.le_of_ble_eq_true rfl) ?_
  refine jb_seg 2 (pc' := 7) (ls' := [some (.ref 41), some (.ref 4), some (.ref 34)]) (st' := [(.int 16), (.ref 41)]) (σ' := (zs_83 L M N)) (G := []) rfl trivial ?_
  refine jb_newai (N := 16) (rest := [(.ref 41)]) rfl (by decide) (by decide) (by decide) rfl ?_
  show jb_V Γ _ zq_36 9 [some (.ref 41), some (.ref 4), some (.ref 34)] [(.ref 42), (.ref 41)] (zs_84 L M N) _ _
  refine jb_putR (rest := []) rfl rfl rfl rfl rfl rfl (by decide) (Nat.le_of_ble_eq_true rfl) ?_
  show jb_V Γ _ zq_36 12 [some (.ref 41), some (.ref 4), some (.ref 34)] [] (zs_85 L M N) _ _
  refine jb_seg 2 (pc' := 14) (ls' := [some (.ref 41), some (.ref 4), some (.ref 34)]) (st' := [(.ref 4), (.ref 41)]) (σ' := (zs_85 L M N)) (G := []) rfl trivial ?_
  refine jb_putR (rest := []) rfl rfl rfl rfl rfl rfl (by decide) (Nat.le_of_ble_eq_true rfl) ?_
  show jb_V Γ _ zq_36 17 [some (.ref 41), some (.ref 4), some (.ref 34)] [] (zs_86 L M N) _ _
  refine jb_seg 2 (pc' := 19) (ls' := [some (.ref 41), some (.ref 4), some (.ref 34)]) (st' := [(.ref 34), (.ref 41)]) (σ' := (zs_86 L M N)) (G := []) rfl trivial ?_
  refine jb_putR (rest := []) rfl rfl rfl rfl rfl rfl (by decide) (Nat.le_of_ble_eq_true rfl) ?_
  show jb_V Γ _ zq_36 22 [some (.ref 41), some (.ref 4), some (.ref 34)] [] (zs_87 L M N) _ _
  exact jb_retv rfl rfl
def zr_88 : jb_Rf := jb_ur zr_87 1 5 41
def zM_88 (M : jb_Mi) : jb_Mi := zM_87 M
def zN_88 (N : jb_Ml) : jb_Ml := zN_87 N
abbrev zs_88 (L : Nat) (M : jb_Mi) (N : jb_Ml) : jb_S := (((9, L) :: zE_sh.take 42, zr_88), zM_88 M, zN_88 N)
def zr_89 : jb_Rf := fun a => if a = 43 then (fun _ => 0) else zr_88 a
def zM_89 (M : jb_Mi) : jb_Mi := fun a => if a = 43 then (fun _ => 0) else zM_88 M a
def zN_89 (N : jb_Ml) : jb_Ml := fun a => if a = 43 then (fun _ => 0) else zN_88 N a
abbrev zs_89 (L : Nat) (M : jb_Mi) (N : jb_Ml) : jb_S := (((9, L) :: zE_sh.take 43, zr_89), zM_89 M, zN_89 N)
def zr_90 : jb_Rf := jb_ur zr_89 43 0 2
def zM_90 (M : jb_Mi) : jb_Mi := zM_89 M
def zN_90 (N : jb_Ml) : jb_Ml := zN_89 N
abbrev zs_90 (L : Nat) (M : jb_Mi) (N : jb_Ml) : jb_S := (((9, L) :: zE_sh.take 43, zr_90), zM_90 M, zN_90 N)
def zr_91 : jb_Rf := jb_ur zr_90 43 1 24
def zM_91 (M : jb_Mi) : jb_Mi := zM_90 M
def zN_91 (N : jb_Ml) : jb_Ml := zN_90 N
abbrev zs_91 (L : Nat) (M : jb_Mi) (N : jb_Ml) : jb_S := (((9, L) :: zE_sh.take 43, zr_91), zM_91 M, zN_91 N)
set_option maxRecDepth 8000 in
theorem zi_7 {Γ : jb_G} {L : Nat} {M : jb_Mi} {N : jb_Ml} {d : Nat} (hd : 1 ≤ d) : jb_V Γ d zq_85 0 (jb_en 3 [.ref 43, .ref 2, .ref 24]) [] (zs_89 L M N) none (zs_91 L M N) := by
  obtain ⟨d, rfl⟩ : ∃ e, d = e + 1 := ⟨d - 1, by omega⟩
  show jb_V Γ _ zq_85 0 [some (.ref 43), some (.ref 2), some (.ref 24)] [] (zs_89 L M N) _ _
  refine jb_seg 1 (pc' := 1) (ls' := [some (.ref 43), some (.ref 2), some (.ref 24)]) (st' := [(.ref 43)]) (σ' := (zs_89 L M N)) (G := []) rfl trivial ?_
  refine jb_oinit (rest := []) rfl (Nat.le_of_ble_eq_true rfl) ?_
  refine jb_seg 2 (pc' := 6) (ls' := [some (.ref 43), some (.ref 2), some (.ref 24)]) (st' := [(.ref 2), (.ref 43)]) (σ' := (zs_89 L M N)) (G := []) rfl trivial ?_
  refine jb_putR (rest := []) rfl rfl rfl rfl rfl rfl (by decide) (Nat.le_of_ble_eq_true rfl) ?_
  show jb_V Γ _ zq_85 9 [some (.ref 43), some (.ref 2), some (.ref 24)] [] (zs_90 L M N) _ _
  refine jb_seg 2 (pc' := 11) (ls' := [some (.ref 43), some (.ref 2), some (.ref 24)]) (st' := [(.ref 24), (.ref 43)]) (σ' := (zs_90 L M N)) (G := []) rfl trivial ?_
  refine jb_putR (rest := []) rfl rfl rfl rfl rfl rfl (by decide) (Nat.le_of_ble_eq_true rfl) ?_
  show jb_V Γ _ zq_85 14 [some (.ref 43), some (.ref 2), some (.ref 24)] [] (zs_91 L M N) _ _
  exact jb_retv rfl rfl
def zr_92 : jb_Rf := jb_ur zr_91 1 6 43
def zM_92 (M : jb_Mi) : jb_Mi := zM_91 M
def zN_92 (N : jb_Ml) : jb_Ml := zN_91 N
abbrev zs_92 (L : Nat) (M : jb_Mi) (N : jb_Ml) : jb_S := (((9, L) :: zE_sh.take 43, zr_92), zM_92 M, zN_92 N)
def zr_93 : jb_Rf := fun a => if a = 44 then (fun _ => 0) else zr_92 a
def zM_93 (M : jb_Mi) : jb_Mi := fun a => if a = 44 then (fun _ => 0) else zM_92 M a
def zN_93 (N : jb_Ml) : jb_Ml := fun a => if a = 44 then (fun _ => 0) else zN_92 N a
abbrev zs_93 (L : Nat) (M : jb_Mi) (N : jb_Ml) : jb_S := (((9, L) :: zE_sh.take 44, zr_93), zM_93 M, zN_93 N)
def zr_94 : jb_Rf := fun a => if a = 45 then (fun _ => 0) else zr_93 a
def zM_94 (M : jb_Mi) : jb_Mi := fun a => if a = 45 then (fun _ => 0) else zM_93 M a
def zN_94 (N : jb_Ml) : jb_Ml := fun a => if a = 45 then (fun _ => 0) else zN_93 N a
abbrev zs_94 (L : Nat) (M : jb_Mi) (N : jb_Ml) : jb_S := (((9, L) :: zE_sh.take 45, zr_94), zM_94 M, zN_94 N)
def zr_95 : jb_Rf := jb_ur zr_94 44 0 45
def zM_95 (M : jb_Mi) : jb_Mi := zM_94 M
def zN_95 (N : jb_Ml) : jb_Ml := zN_94 N
abbrev zs_95 (L : Nat) (M : jb_Mi) (N : jb_Ml) : jb_S := (((9, L) :: zE_sh.take 45, zr_95), zM_95 M, zN_95 N)
def zr_96 : jb_Rf := fun a => if a = 46 then (fun _ => 0) else zr_95 a
def zM_96 (M : jb_Mi) : jb_Mi := fun a => if a = 46 then (fun _ => 0) else zM_95 M a
def zN_96 (N : jb_Ml) : jb_Ml := fun a => if a = 46 then (fun _ => 0) else zN_95 N a
abbrev zs_96 (L : Nat) (M : jb_Mi) (N : jb_Ml) : jb_S := (((9, L) :: zE_sh.take 46, zr_96), zM_96 M, zN_96 N)
def zr_97 : jb_Rf := jb_ur zr_96 44 1 46
def zM_97 (M : jb_Mi) : jb_Mi := zM_96 M
def zN_97 (N : jb_Ml) : jb_Ml := zN_96 N
abbrev zs_97 (L : Nat) (M : jb_Mi) (N : jb_Ml) : jb_S := (((9, L) :: zE_sh.take 46, zr_97), zM_97 M, zN_97 N)
def zr_98 : jb_Rf := fun a => if a = 47 then (fun _ => 0) else zr_97 a
def zM_98 (M : jb_Mi) : jb_Mi := fun a => if a = 47 then (fun _ => 0) else zM_97 M a
def zN_98 (N : jb_Ml) : jb_Ml := fun a => if a = 47 then (fun _ => 0) else zN_97 N a
abbrev zs_98 (L : Nat) (M : jb_Mi) (N : jb_Ml) : jb_S := (((9, L) :: zE_sh.take 47, zr_98), zM_98 M, zN_98 N)
def zr_99 : jb_Rf := jb_ur zr_98 44 2 47
def zM_99 (M : jb_Mi) : jb_Mi := zM_98 M
def zN_99 (N : jb_Ml) : jb_Ml := zN_98 N
abbrev zs_99 (L : Nat) (M : jb_Mi) (N : jb_Ml) : jb_S := (((9, L) :: zE_sh.take 47, zr_99), zM_99 M, zN_99 N)
def zr_100 : jb_Rf := fun a => if a = 48 then (fun _ => 0) else zr_99 a
def zM_100 (M : jb_Mi) : jb_Mi := fun a => if a = 48 then (fun _ => 0) else zM_99 M a
def zN_100 (N : jb_Ml) : jb_Ml := fun a => if a = 48 then (fun _ => 0) else zN_99 N a
abbrev zs_100 (L : Nat) (M : jb_Mi) (N : jb_Ml) : jb_S := (((9, L) :: zE_sh.take 48, zr_100), zM_100 M, zN_100 N)
def zr_101 : jb_Rf := jb_ur zr_100 44 3 48
def zM_101 (M : jb_Mi) : jb_Mi := zM_100 M
def zN_101 (N : jb_Ml) : jb_Ml := zN_100 N
abbrev zs_101 (L : Nat) (M : jb_Mi) (N : jb_Ml) : jb_S := (((9, L) :: zE_sh.take 48, zr_101), zM_101 M, zN_101 N)
def zr_102 : jb_Rf := fun a => if a = 49 then (fun _ => 0) else zr_101 a
def zM_102 (M : jb_Mi) : jb_Mi := fun a => if a = 49 then (fun _ => 0) else zM_101 M a
def zN_102 (N : jb_Ml) : jb_Ml := fun a => if a = 49 then (fun _ => 0) else zN_101 N a
abbrev zs_102 (L : Nat) (M : jb_Mi) (N : jb_Ml) : jb_S := (((9, L) :: zE_sh.take 49, zr_102), zM_102 M, zN_102 N)
def zr_103 : jb_Rf := jb_ur zr_102 44 4 49
def zM_103 (M : jb_Mi) : jb_Mi := zM_102 M
def zN_103 (N : jb_Ml) : jb_Ml := zN_102 N
abbrev zs_103 (L : Nat) (M : jb_Mi) (N : jb_Ml) : jb_S := (((9, L) :: zE_sh.take 49, zr_103), zM_103 M, zN_103 N)
set_option maxRecDepth 8000 in
theorem zi_8 {Γ : jb_G} {L : Nat} {M : jb_Mi} {N : jb_Ml} {d : Nat} (hd : 1 ≤ d) : jb_V Γ d zq_69 0 (jb_en 1 [.ref 44]) [] (zs_93 L M N) none (zs_103 L M N) := by
  obtain ⟨d, rfl⟩ : ∃ e, d = e + 1 := ⟨d - 1, by omega⟩
  show jb_V Γ _ zq_69 0 [some (.ref 44)] [] (zs_93 L M N) _ _
  refine jb_seg 1 (pc' := 1) (ls' := [some (.ref 44)]) (st' := [(.ref 44)]) (σ' := (zs_93 L M N)) (G := []) rfl trivial ?_
  refine jb_oinit (rest := []) rfl (Nat.le_of_ble_eq_true rfl) ?_
  refine jb_seg 2 (pc' := 8) (ls' := [some (.ref 44)]) (st' := [(.int 240), (.ref 44)]) (σ' := (zs_93 L M N)) (G := []) rfl trivial ?_
  refine jb_newai (N := 240) (rest := [(.ref 44)]) rfl (by decide) (by decide) (by decide) rfl ?_
  show jb_V Γ _ zq_69 10 [some (.ref 44)] [(.ref 45), (.ref 44)] (zs_94 L M N) _ _
  refine jb_putR (rest := []) rfl rfl rfl rfl rfl rfl (by decide) (Nat.le_of_ble_eq_true rfl) ?_
  show jb_V Γ _ zq_69 13 [some (.ref 44)] [] (zs_95 L M N) _ _
  refine jb_seg 2 (pc' := 17) (ls' := [some (.ref 44)]) (st' := [(.int 240), (.ref 44)]) (σ' := (zs_95 L M N)) (G := []) rfl trivial ?_
  refine jb_newai (N := 240) (rest := [(.ref 44)]) rfl (by decide) (by decide) (by decide) rfl ?_
  show jb_V Γ _ zq_69 19 [some (.ref 44)] [(.ref 46), (.ref 44)] (zs_96 L M N) _ _
  refine jb_putR (rest := []) rfl rfl rfl rfl rfl rfl (by decide) (Nat.le_of_ble_eq_true rfl) ?_
  show jb_V Γ _ zq_69 22 [some (.ref 44)] [] (zs_97 L M N) _ _
  refine jb_seg 2 (pc' := 25) (ls' := [some (.ref 44)]) (st' := [(.int 16), (.ref 44)]) (σ' := (zs_97 L M N)) (G := []) rfl trivial ?_
  refine jb_newai (N := 16) (rest := [(.ref 44)]) rfl (by decide) (by decide) (by decide) rfl ?_
  show jb_V Γ _ zq_69 27 [some (.ref 44)] [(.ref 47), (.ref 44)] (zs_98 L M N) _ _
  refine jb_putR (rest := []) rfl rfl rfl rfl rfl rfl (by decide) (Nat.le_of_ble_eq_true rfl) ?_
  show jb_V Γ _ zq_69 30 [some (.ref 44)] [] (zs_99 L M N) _ _
  refine jb_seg 2 (pc' := 33) (ls' := [some (.ref 44)]) (st' := [(.int 16), (.ref 44)]) (σ' := (zs_99 L M N)) (G := []) rfl trivial ?_
  refine jb_newai (N := 16) (rest := [(.ref 44)]) rfl (by decide) (by decide) (by decide) rfl ?_
  show jb_V Γ _ zq_69 35 [some (.ref 44)] [(.ref 48), (.ref 44)] (zs_100 L M N) _ _
  refine jb_putR (rest := []) rfl rfl rfl rfl rfl rfl (by decide) (Nat.le_of_ble_eq_true rfl) ?_
  show jb_V Γ _ zq_69 38 [some (.ref 44)] [] (zs_101 L M N) _ _
  refine jb_seg 2 (pc' := 41) (ls' := [some (.ref 44)]) (st' := [(.int 16), (.ref 44)]) (σ' := (zs_101 L M N)) (G := []) rfl trivial ?_
  refine jb_newai (N := 16) (rest := [(.ref 44)]) rfl (by decide) (by decide) (by decide) rfl ?_
  show jb_V Γ _ zq_69 43 [some (.ref 44)] [(.ref 49), (.ref 44)] (zs_102 L M N) _ _
  refine jb_putR (rest := []) rfl rfl rfl rfl rfl rfl (by decide) (Nat.le_of_ble_eq_true rfl) ?_
  show jb_V Γ _ zq_69 46 [some (.ref 44)] [] (zs_103 L M N) _ _
  exact jb_retv rfl rfl
def zr_104 : jb_Rf := jb_ur zr_103 1 7 44
def zM_104 (M : jb_Mi) : jb_Mi := zM_103 M
def zN_104 (N : jb_Ml) : jb_Ml := zN_103 N
abbrev zs_104 (L : Nat) (M : jb_Mi) (N : jb_Ml) : jb_S := (((9, L) :: zE_sh.take 49, zr_104), zM_104 M, zN_104 N)
def zr_105 : jb_Rf := fun a => if a = 50 then (fun _ => 0) else zr_104 a
def zM_105 (M : jb_Mi) : jb_Mi := fun a => if a = 50 then (fun _ => 0) else zM_104 M a
def zN_105 (N : jb_Ml) : jb_Ml := fun a => if a = 50 then (fun _ => 0) else zN_104 N a
abbrev zs_105 (L : Nat) (M : jb_Mi) (N : jb_Ml) : jb_S := (((9, L) :: zE_sh.take 50, zr_105), zM_105 M, zN_105 N)
def zr_106 : jb_Rf := fun a => if a = 51 then (fun _ => 0) else zr_105 a
def zM_106 (M : jb_Mi) : jb_Mi := fun a => if a = 51 then (fun _ => 0) else zM_105 M a
def zN_106 (N : jb_Ml) : jb_Ml := fun a => if a = 51 then (fun _ => 0) else zN_105 N a
abbrev zs_106 (L : Nat) (M : jb_Mi) (N : jb_Ml) : jb_S := (((9, L) :: zE_sh.take 51, zr_106), zM_106 M, zN_106 N)
def zr_107 : jb_Rf := fun a => if a = 52 then (fun _ => 0) else zr_106 a
def zM_107 (M : jb_Mi) : jb_Mi := fun a => if a = 52 then (fun _ => 0) else zM_106 M a
def zN_107 (N : jb_Ml) : jb_Ml := fun a => if a = 52 then (fun _ => 0) else zN_106 N a
abbrev zs_107 (L : Nat) (M : jb_Mi) (N : jb_Ml) : jb_S := (((9, L) :: zE_sh.take 52, zr_107), zM_107 M, zN_107 N)
def zr_108 : jb_Rf := jb_ur zr_107 51 0 52
def zM_108 (M : jb_Mi) : jb_Mi := zM_107 M
def zN_108 (N : jb_Ml) : jb_Ml := zN_107 N
abbrev zs_108 (L : Nat) (M : jb_Mi) (N : jb_Ml) : jb_S := (((9, L) :: zE_sh.take 52, zr_108), zM_108 M, zN_108 N)
def zr_109 : jb_Rf := fun a => if a = 53 then (fun _ => 0) else zr_108 a
def zM_109 (M : jb_Mi) : jb_Mi := fun a => if a = 53 then (fun _ => 0) else zM_108 M a
def zN_109 (N : jb_Ml) : jb_Ml := fun a => if a = 53 then (fun _ => 0) else zN_108 N a
abbrev zs_109 (L : Nat) (M : jb_Mi) (N : jb_Ml) : jb_S := (((9, L) :: zE_sh.take 53, zr_109), zM_109 M, zN_109 N)
def zr_110 : jb_Rf := jb_ur zr_109 51 1 53
def zM_110 (M : jb_Mi) : jb_Mi := zM_109 M
def zN_110 (N : jb_Ml) : jb_Ml := zN_109 N
abbrev zs_110 (L : Nat) (M : jb_Mi) (N : jb_Ml) : jb_S := (((9, L) :: zE_sh.take 53, zr_110), zM_110 M, zN_110 N)
def zr_111 : jb_Rf := fun a => if a = 54 then (fun _ => 0) else zr_110 a
def zM_111 (M : jb_Mi) : jb_Mi := fun a => if a = 54 then (fun _ => 0) else zM_110 M a
def zN_111 (N : jb_Ml) : jb_Ml := fun a => if a = 54 then (fun _ => 0) else zN_110 N a
abbrev zs_111 (L : Nat) (M : jb_Mi) (N : jb_Ml) : jb_S := (((9, L) :: zE_sh.take 54, zr_111), zM_111 M, zN_111 N)
def zr_112 : jb_Rf := jb_ur zr_111 51 2 54
def zM_112 (M : jb_Mi) : jb_Mi := zM_111 M
def zN_112 (N : jb_Ml) : jb_Ml := zN_111 N
abbrev zs_112 (L : Nat) (M : jb_Mi) (N : jb_Ml) : jb_S := (((9, L) :: zE_sh.take 54, zr_112), zM_112 M, zN_112 N)
def zr_113 : jb_Rf := fun a => if a = 55 then (fun _ => 0) else zr_112 a
def zM_113 (M : jb_Mi) : jb_Mi := fun a => if a = 55 then (fun _ => 0) else zM_112 M a
def zN_113 (N : jb_Ml) : jb_Ml := fun a => if a = 55 then (fun _ => 0) else zN_112 N a
abbrev zs_113 (L : Nat) (M : jb_Mi) (N : jb_Ml) : jb_S := (((9, L) :: zE_sh.take 55, zr_113), zM_113 M, zN_113 N)
def zr_114 : jb_Rf := jb_ur zr_113 51 3 55
def zM_114 (M : jb_Mi) : jb_Mi := zM_113 M
def zN_114 (N : jb_Ml) : jb_Ml := zN_113 N
abbrev zs_114 (L : Nat) (M : jb_Mi) (N : jb_Ml) : jb_S := (((9, L) :: zE_sh.take 55, zr_114), zM_114 M, zN_114 N)
def zr_115 : jb_Rf := fun a => if a = 56 then (fun _ => 0) else zr_114 a
def zM_115 (M : jb_Mi) : jb_Mi := fun a => if a = 56 then (fun _ => 0) else zM_114 M a
def zN_115 (N : jb_Ml) : jb_Ml := fun a => if a = 56 then (fun _ => 0) else zN_114 N a
abbrev zs_115 (L : Nat) (M : jb_Mi) (N : jb_Ml) : jb_S := (((9, L) :: zE_sh.take 56, zr_115), zM_115 M, zN_115 N)
def zr_116 : jb_Rf := jb_ur zr_115 51 4 56
def zM_116 (M : jb_Mi) : jb_Mi := zM_115 M
def zN_116 (N : jb_Ml) : jb_Ml := zN_115 N
abbrev zs_116 (L : Nat) (M : jb_Mi) (N : jb_Ml) : jb_S := (((9, L) :: zE_sh.take 56, zr_116), zM_116 M, zN_116 N)
set_option maxRecDepth 8000 in
theorem zi_9 {Γ : jb_G} {L : Nat} {M : jb_Mi} {N : jb_Ml} {d : Nat} (hd : 1 ≤ d) : jb_V Γ d zq_69 0 (jb_en 1 [.ref 51]) [] (zs_106 L M N) none (zs_116 L M N) := by
  obtain ⟨d, rfl⟩ : ∃ e, d = e + 1 := ⟨d - 1, by omega⟩
  show jb_V Γ _ zq_69 0 [some (.ref 51)] [] (zs_106 L M N) _ _
  refine jb_seg 1 (pc' := 1) (ls' := [some (.ref 51)]) (st' := [(.ref 51)]) (σ' := (zs_106 L M N)) (G := []) rfl trivial ?_
  refine jb_oinit (rest := []) rfl (Nat.le_of_ble_eq_true rfl) ?_
  refine jb_seg 2 (pc' := 8) (ls' := [some (.ref 51)]) (st' := [(.int 240), (.ref 51)]) (σ' := (zs_106 L M N)) (G := []) rfl trivial ?_
  refine jb_newai (N := 240) (rest := [(.ref 51)]) rfl (by decide) (by decide) (by decide) rfl ?_
  show jb_V Γ _ zq_69 10 [some (.ref 51)] [(.ref 52), (.ref 51)] (zs_107 L M N) _ _
  refine jb_putR (rest := []) rfl rfl rfl rfl rfl rfl (by decide) (Nat.le_of_ble_eq_true rfl) ?_
  show jb_V Γ _ zq_69 13 [some (.ref 51)] [] (zs_108 L M N) _ _
  refine jb_seg 2 (pc' := 17) (ls' := [some (.ref 51)]) (st' := [(.int 240), (.ref 51)]) (σ' := (zs_108 L M N)) (G := []) rfl trivial ?_
  refine jb_newai (N := 240) (rest := [(.ref 51)]) rfl (by decide) (by decide) (by decide) rfl ?_
  show jb_V Γ _ zq_69 19 [some (.ref 51)] [(.ref 53), (.ref 51)] (zs_109 L M N) _ _
  refine jb_putR (rest := []) rfl rfl rfl rfl rfl rfl (by decide) (Nat.le_of_ble_eq_true rfl) ?_
  show jb_V Γ _ zq_69 22 [some (.ref 51)] [] (zs_110 L M N) _ _
  refine jb_seg 2 (pc' := 25) (ls' := [some (.ref 51)]) (st' := [(.int 16), (.ref 51)]) (σ' := (zs_110 L M N)) (G := []) rfl trivial ?_
  refine jb_newai (N := 16) (rest := [(.ref 51)]) rfl (by decide) (by decide) (by decide) rfl ?_
  show jb_V Γ _ zq_69 27 [some (.ref 51)] [(.ref 54), (.ref 51)] (zs_111 L M N) _ _
  refine jb_putR (rest := []) rfl rfl rfl rfl rfl rfl (by decide) (Nat.le_of_ble_eq_true rfl) ?_
  show jb_V Γ _ zq_69 30 [some (.ref 51)] [] (zs_112 L M N) _ _
  refine jb_seg 2 (pc' := 33) (ls' := [some (.ref 51)]) (st' := [(.int 16), (.ref 51)]) (σ' := (zs_112 L M N)) (G := []) rfl trivial ?_
  refine jb_newai (N := 16) (rest := [(.ref 51)]) rfl (by decide) (by decide) (by decide) rfl ?_
  show jb_V Γ _ zq_69 35 [some (.ref 51)] [(.ref 55), (.ref 51)] (zs_113 L M N) _ _
  refine jb_putR (rest := []) rfl rfl rfl rfl rfl rfl (by decide) (Nat.le_of_ble_eq_true rfl) ?_
  show jb_V Γ _ zq_69 38 [some (.ref 51)] [] (zs_114 L M N) _ _
  refine jb_seg 2 (pc' := 41) (ls' := [some (.ref 51)]) (st' := [(.int 16), (.ref 51)]) (σ' := (zs_114 L M N)) (G := []) rfl trivial ?_
  refine jb_newai (N := 16) (rest := [(.ref 51)]) rfl (by decide) (by decide) (by decide) rfl ?_
  show jb_V Γ _ zq_69 43 [some (.ref 51)] [(.ref 56), (.ref 51)] (zs_115 L M N) _ _
  refine jb_putR (rest := []) rfl rfl rfl rfl rfl rfl (by decide) (Nat.le_of_ble_eq_true rfl) ?_
  show jb_V Γ _ zq_69 46 [some (.ref 51)] [] (zs_116 L M N) _ _
  exact jb_retv rfl rfl
def zr_117 : jb_Rf := jb_ur zr_116 50 0 2
def zM_117 (M : jb_Mi) : jb_Mi := zM_116 M
def zN_117 (N : jb_Ml) : jb_Ml := zN_116 N
abbrev zs_117 (L : Nat) (M : jb_Mi) (N : jb_Ml) : jb_S := (((9, L) :: zE_sh.take 56, zr_117), zM_117 M, zN_117 N)
def zr_118 : jb_Rf := jb_ur zr_117 50 1 51
def zM_118 (M : jb_Mi) : jb_Mi := zM_117 M
def zN_118 (N : jb_Ml) : jb_Ml := zN_117 N
abbrev zs_118 (L : Nat) (M : jb_Mi) (N : jb_Ml) : jb_S := (((9, L) :: zE_sh.take 56, zr_118), zM_118 M, zN_118 N)
set_option maxRecDepth 8000 in
theorem zi_10 {Γ : jb_G} {L : Nat} {M : jb_Mi} {N : jb_Ml} {d : Nat} (hd : 1 ≤ d) : jb_V Γ d zq_73 0 (jb_en 3 [.ref 50, .ref 2, .ref 51]) [] (zs_116 L M N) none (zs_118 L M N) := by
  obtain ⟨d, rfl⟩ : ∃ e, d = e + 1 := ⟨d - 1, by omega⟩
  show jb_V Γ _ zq_73 0 [some (.ref 50), some (.ref 2), some (.ref 51)] [] (zs_116 L M N) _ _
  refine jb_seg 1 (pc' := 1) (ls' := [some (.ref 50), some (.ref 2), some (.ref 51)]) (st' := [(.ref 50)]) (σ' := (zs_116 L M N)) (G := []) rfl trivial ?_
  refine jb_oinit (rest := []) rfl (Nat.le_of_ble_eq_true rfl) ?_
  refine jb_seg 2 (pc' := 6) (ls' := [some (.ref 50), some (.ref 2), some (.ref 51)]) (st' := [(.ref 2), (.ref 50)]) (σ' := (zs_116 L M N)) (G := []) rfl trivial ?_
  refine jb_putR (rest := []) rfl rfl rfl rfl rfl rfl (by decide) (Nat.le_of_ble_eq_true rfl) ?_
  show jb_V Γ _ zq_73 9 [some (.ref 50), some (.ref 2), some (.ref 51)] [] (zs_117 L M N) _ _
  refine jb_seg 2 (pc' := 11) (ls' := [some (.ref 50), some (.ref 2), some (.ref 51)]) (st' := [(.ref 51), (.ref 50)]) (σ' := (zs_117 L M N)) (G := []) rfl trivial ?_
  refine jb_putR (rest := []) rfl rfl rfl rfl rfl rfl (by decide) (Nat.le_of_ble_eq_true rfl) ?_
  show jb_V Γ _ zq_73 14 [some (.ref 50), some (.ref 2), some (.ref 51)] [] (zs_118 L M N) _ _
  exact jb_retv rfl rfl
def zr_119 : jb_Rf := jb_ur zr_118 1 8 50
def zM_119 (M : jb_Mi) : jb_Mi := zM_118 M
def zN_119 (N : jb_Ml) : jb_Ml := zN_118 N
abbrev zs_119 (L : Nat) (M : jb_Mi) (N : jb_Ml) : jb_S := (((9, L) :: zE_sh.take 56, zr_119), zM_119 M, zN_119 N)
def zr_120 : jb_Rf := fun a => if a = 57 then (fun _ => 0) else zr_119 a
def zM_120 (M : jb_Mi) : jb_Mi := fun a => if a = 57 then (fun _ => 0) else zM_119 M a
def zN_120 (N : jb_Ml) : jb_Ml := fun a => if a = 57 then (fun _ => 0) else zN_119 N a
abbrev zs_120 (L : Nat) (M : jb_Mi) (N : jb_Ml) : jb_S := (((9, L) :: zE_sh.take 57, zr_120), zM_120 M, zN_120 N)
def zr_121 : jb_Rf := fun a => if a = 58 then (fun _ => 0) else zr_120 a
def zM_121 (M : jb_Mi) : jb_Mi := fun a => if a = 58 then (fun _ => 0) else zM_120 M a
def zN_121 (N : jb_Ml) : jb_Ml := fun a => if a = 58 then (fun _ => 0) else zN_120 N a
abbrev zs_121 (L : Nat) (M : jb_Mi) (N : jb_Ml) : jb_S := (((9, L) :: zE_sh.take 58, zr_121), zM_121 M, zN_121 N)
def zr_122 : jb_Rf := jb_ur zr_121 57 1 58
def zM_122 (M : jb_Mi) : jb_Mi := zM_121 M
def zN_122 (N : jb_Ml) : jb_Ml := zN_121 N
abbrev zs_122 (L : Nat) (M : jb_Mi) (N : jb_Ml) : jb_S := (((9, L) :: zE_sh.take 58, zr_122), zM_122 M, zN_122 N)
def zr_123 : jb_Rf := fun a => if a = 59 then (fun _ => 0) else zr_122 a
def zM_123 (M : jb_Mi) : jb_Mi := fun a => if a = 59 then (fun _ => 0) else zM_122 M a
def zN_123 (N : jb_Ml) : jb_Ml := fun a => if a = 59 then (fun _ => 0) else zN_122 N a
abbrev zs_123 (L : Nat) (M : jb_Mi) (N : jb_Ml) : jb_S := (((9, L) :: zE_sh.take 59, zr_123), zM_123 M, zN_123 N)
def zr_124 : jb_Rf := jb_ur zr_123 57 2 59
def zM_124 (M : jb_Mi) : jb_Mi := zM_123 M
def zN_124 (N : jb_Ml) : jb_Ml := zN_123 N
abbrev zs_124 (L : Nat) (M : jb_Mi) (N : jb_Ml) : jb_S := (((9, L) :: zE_sh.take 59, zr_124), zM_124 M, zN_124 N)
def zr_125 : jb_Rf := jb_ur zr_124 57 0 44
def zM_125 (M : jb_Mi) : jb_Mi := zM_124 M
def zN_125 (N : jb_Ml) : jb_Ml := zN_124 N
abbrev zs_125 (L : Nat) (M : jb_Mi) (N : jb_Ml) : jb_S := (((9, L) :: zE_sh.take 59, zr_125), zM_125 M, zN_125 N)
set_option maxRecDepth 8000 in
theorem zi_11 {Γ : jb_G} {L : Nat} {M : jb_Mi} {N : jb_Ml} {d : Nat} (hd : 1 ≤ d) : jb_V Γ d zq_62 0 (jb_en 2 [.ref 57, .ref 44]) [] (zs_120 L M N) none (zs_125 L M N) := by
  obtain ⟨d, rfl⟩ : ∃ e, d = e + 1 := ⟨d - 1, by omega⟩
  show jb_V Γ _ zq_62 0 [some (.ref 57), some (.ref 44)] [] (zs_120 L M N) _ _
  refine jb_seg 1 (pc' := 1) (ls' := [some (.ref 57), some (.ref 44)]) (st' := [(.ref 57)]) (σ' := (zs_120 L M N)) (G := []) rfl trivial ?_
  refine jb_oinit (rest := []) rfl (Nat.le_of_ble_eq_true rfl) ?_
  refine jb_seg 2 (pc' := 7) (ls' := [some (.ref 57), some (.ref 44)]) (st' := [(.int 10), (.ref 57)]) (σ' := (zs_120 L M N)) (G := []) rfl trivial ?_
  refine jb_newai (N := 10) (rest := [(.ref 57)]) rfl (by decide) (by decide) (by decide) rfl ?_
  show jb_V Γ _ zq_62 9 [some (.ref 57), some (.ref 44)] [(.ref 58), (.ref 57)] (zs_121 L M N) _ _
  refine jb_putR (rest := []) rfl rfl rfl rfl rfl rfl (by decide) (Nat.le_of_ble_eq_true rfl) ?_
  show jb_V Γ _ zq_62 12 [some (.ref 57), some (.ref 44)] [] (zs_122 L M N) _ _
  refine jb_seg 2 (pc' := 15) (ls' := [some (.ref 57), some (.ref 44)]) (st' := [(.int 32), (.ref 57)]) (σ' := (zs_122 L M N)) (G := []) rfl trivial ?_
  refine jb_newai (N := 32) (rest := [(.ref 57)]) rfl (by decide) (by decide) (by decide) rfl ?_
  show jb_V Γ _ zq_62 17 [some (.ref 57), some (.ref 44)] [(.ref 59), (.ref 57)] (zs_123 L M N) _ _
  refine jb_putR (rest := []) rfl rfl rfl rfl rfl rfl (by decide) (Nat.le_of_ble_eq_true rfl) ?_
  show jb_V Γ _ zq_62 20 [some (.ref 57), some (.ref 44)] [] (zs_124 L M N) _ _
  refine jb_seg 2 (pc' := 22) (ls' := [some (.ref 57), some (.ref 44)]) (st' := [(.ref 44), (.ref 57)]) (σ' := (zs_124 L M N)) (G := []) rfl trivial ?_
  refine jb_putR (rest := []) rfl rfl rfl rfl rfl rfl (by decide) (Nat.le_of_ble_eq_true rfl) ?_
  show jb_V Γ _ zq_62 25 [some (.ref 57), some (.ref 44)] [] (zs_125 L M N) _ _
  exact jb_retv rfl rfl
def zr_126 : jb_Rf := fun a => if a = 60 then (fun _ => 0) else zr_125 a
def zM_126 (M : jb_Mi) : jb_Mi := fun a => if a = 60 then (fun _ => 0) else zM_125 M a
def zN_126 (N : jb_Ml) : jb_Ml := fun a => if a = 60 then (fun _ => 0) else zN_125 N a
abbrev zs_126 (L : Nat) (M : jb_Mi) (N : jb_Ml) : jb_S := (((9, L) :: zE_sh.take 60, zr_126), zM_126 M, zN_126 N)
def zr_127 : jb_Rf := fun a => if a = 61 then (fun _ => 0) else zr_126 a
def zM_127 (M : jb_Mi) : jb_Mi := fun a => if a = 61 then (fun _ => 0) else zM_126 M a
def zN_127 (N : jb_Ml) : jb_Ml := fun a => if a = 61 then (fun _ => 0) else zN_126 N a
abbrev zs_127 (L : Nat) (M : jb_Mi) (N : jb_Ml) : jb_S := (((9, L) :: zE_sh.take 61, zr_127), zM_127 M, zN_127 N)
def zr_128 : jb_Rf := jb_ur zr_127 60 3 61
def zM_128 (M : jb_Mi) : jb_Mi := zM_127 M
def zN_128 (N : jb_Ml) : jb_Ml := zN_127 N
abbrev zs_128 (L : Nat) (M : jb_Mi) (N : jb_Ml) : jb_S := (((9, L) :: zE_sh.take 61, zr_128), zM_128 M, zN_128 N)
def zr_129 : jb_Rf := jb_ur zr_128 60 0 4
def zM_129 (M : jb_Mi) : jb_Mi := zM_128 M
def zN_129 (N : jb_Ml) : jb_Ml := zN_128 N
abbrev zs_129 (L : Nat) (M : jb_Mi) (N : jb_Ml) : jb_S := (((9, L) :: zE_sh.take 61, zr_129), zM_129 M, zN_129 N)
def zr_130 : jb_Rf := jb_ur zr_129 60 1 34
def zM_130 (M : jb_Mi) : jb_Mi := zM_129 M
def zN_130 (N : jb_Ml) : jb_Ml := zN_129 N
abbrev zs_130 (L : Nat) (M : jb_Mi) (N : jb_Ml) : jb_S := (((9, L) :: zE_sh.take 61, zr_130), zM_130 M, zN_130 N)
def zr_131 : jb_Rf := jb_ur zr_130 60 2 57
def zM_131 (M : jb_Mi) : jb_Mi := zM_130 M
def zN_131 (N : jb_Ml) : jb_Ml := zN_130 N
abbrev zs_131 (L : Nat) (M : jb_Mi) (N : jb_Ml) : jb_S := (((9, L) :: zE_sh.take 61, zr_131), zM_131 M, zN_131 N)
set_option maxRecDepth 8000 in
theorem zi_12 {Γ : jb_G} {L : Nat} {M : jb_Mi} {N : jb_Ml} {d : Nat} (hd : 1 ≤ d) : jb_V Γ d zq_118 0 (jb_en 4 [.ref 60, .ref 4, .ref 34, .ref 57]) [] (zs_126 L M N) none (zs_131 L M N) := by
  obtain ⟨d, rfl⟩ : ∃ e, d = e + 1 := ⟨d - 1, by omega⟩
  show jb_V Γ _ zq_118 0 [some (.ref 60), some (.ref 4), some (.ref 34), some (.ref 57)] [] (zs_126 L M N) _ _
  refine jb_seg 1 (pc' := 1) (ls' := [some (.ref 60), some (.ref 4), some (.ref 34), some (.ref 57)]) (st' := [(.ref 60)]) (σ' := (zs_126 L M N)) (G := []) rfl trivial ?_
  refine jb_oinit (rest := []) rfl (Nat.le_of_ble_eq_true rfl) ?_
  refine jb_seg 2 (pc' := 7) (ls' := [some (.ref 60), some (.ref 4), some (.ref 34), some (.ref 57)]) (st' := [(.int 24), (.ref 60)]) (σ' := (zs_126 L M N)) (G := []) rfl trivial ?_
  refine jb_newai (N := 24) (rest := [(.ref 60)]) rfl (by decide) (by decide) (by decide) rfl ?_
  show jb_V Γ _ zq_118 9 [some (.ref 60), some (.ref 4), some (.ref 34), some (.ref 57)] [(.ref 61), (.ref 60)] (zs_127 L M N) _ _
  refine jb_putR (rest := []) rfl rfl rfl rfl rfl rfl (by decide) (Nat.le_of_ble_eq_true rfl) ?_
  show jb_V Γ _ zq_118 12 [some (.ref 60), some (.ref 4), some (.ref 34), some (.ref 57)] [] (zs_128 L M N) _ _
  refine jb_seg 2 (pc' := 14) (ls' := [some (.ref 60), some (.ref 4), some (.ref 34), some (.ref 57)]) (st' := [(.ref 4), (.ref 60)]) (σ' := (zs_128 L M N)) (G := []) rfl trivial ?_
  refine jb_putR (rest := []) rfl rfl rfl rfl rfl rfl (by decide) (Nat.le_of_ble_eq_true rfl) ?_
  show jb_V Γ _ zq_118 17 [some (.ref 60), some (.ref 4), some (.ref 34), some (.ref 57)] [] (zs_129 L M N) _ _
  refine jb_seg 2 (pc' := 19) (ls' := [some (.ref 60), some (.ref 4), some (.ref 34), some (.ref 57)]) (st' := [(.ref 34), (.ref 60)]) (σ' := (zs_129 L M N)) (G := []) rfl trivial ?_
  refine jb_putR (rest := []) rfl rfl rfl rfl rfl rfl (by decide) (Nat.le_of_ble_eq_true rfl) ?_
  show jb_V Γ _ zq_118 22 [some (.ref 60), some (.ref 4), some (.ref 34), some (.ref 57)] [] (zs_130 L M N) _ _
  refine jb_seg 2 (pc' := 24) (ls' := [some (.ref 60), some (.ref 4), some (.ref 34), some (.ref 57)]) (st' := [(.ref 57), (.ref 60)]) (σ' := (zs_130 L M N)) (G := []) rfl trivial ?_
  refine jb_putR (rest := []) rfl rfl rfl rfl rfl rfl (by decide) (Nat.le_of_ble_eq_true rfl) ?_
  show jb_V Γ _ zq_118 27 [some (.ref 60), some (.ref 4), some (.ref 34), some (.ref 57)] [] (zs_131 L M N) _ _
  exact jb_retv rfl rfl
def zr_132 : jb_Rf := jb_ur zr_131 1 9 60
def zM_132 (M : jb_Mi) : jb_Mi := zM_131 M
def zN_132 (N : jb_Ml) : jb_Ml := zN_131 N
abbrev zs_132 (L : Nat) (M : jb_Mi) (N : jb_Ml) : jb_S := (((9, L) :: zE_sh.take 61, zr_132), zM_132 M, zN_132 N)
def zr_133 : jb_Rf := fun a => if a = 62 then (fun _ => 0) else zr_132 a
def zM_133 (M : jb_Mi) : jb_Mi := fun a => if a = 62 then (fun _ => 0) else zM_132 M a
def zN_133 (N : jb_Ml) : jb_Ml := fun a => if a = 62 then (fun _ => 0) else zN_132 N a
abbrev zs_133 (L : Nat) (M : jb_Mi) (N : jb_Ml) : jb_S := (((9, L) :: zE_sh.take 62, zr_133), zM_133 M, zN_133 N)
def zr_134 : jb_Rf := fun a => if a = 63 then (fun _ => 0) else zr_133 a
def zM_134 (M : jb_Mi) : jb_Mi := fun a => if a = 63 then (fun _ => 0) else zM_133 M a
def zN_134 (N : jb_Ml) : jb_Ml := fun a => if a = 63 then (fun _ => 0) else zN_133 N a
abbrev zs_134 (L : Nat) (M : jb_Mi) (N : jb_Ml) : jb_S := (((9, L) :: zE_sh.take 63, zr_134), zM_134 M, zN_134 N)
def zr_135 : jb_Rf := jb_ur zr_134 62 3 63
def zM_135 (M : jb_Mi) : jb_Mi := zM_134 M
def zN_135 (N : jb_Ml) : jb_Ml := zN_134 N
abbrev zs_135 (L : Nat) (M : jb_Mi) (N : jb_Ml) : jb_S := (((9, L) :: zE_sh.take 63, zr_135), zM_135 M, zN_135 N)
def zr_136 : jb_Rf := jb_ur zr_135 62 0 24
def zM_136 (M : jb_Mi) : jb_Mi := zM_135 M
def zN_136 (N : jb_Ml) : jb_Ml := zN_135 N
abbrev zs_136 (L : Nat) (M : jb_Mi) (N : jb_Ml) : jb_S := (((9, L) :: zE_sh.take 63, zr_136), zM_136 M, zN_136 N)
def zr_137 : jb_Rf := jb_ur zr_136 62 1 34
def zM_137 (M : jb_Mi) : jb_Mi := zM_136 M
def zN_137 (N : jb_Ml) : jb_Ml := zN_136 N
abbrev zs_137 (L : Nat) (M : jb_Mi) (N : jb_Ml) : jb_S := (((9, L) :: zE_sh.take 63, zr_137), zM_137 M, zN_137 N)
def zr_138 : jb_Rf := jb_ur zr_137 62 2 57
def zM_138 (M : jb_Mi) : jb_Mi := zM_137 M
def zN_138 (N : jb_Ml) : jb_Ml := zN_137 N
abbrev zs_138 (L : Nat) (M : jb_Mi) (N : jb_Ml) : jb_S := (((9, L) :: zE_sh.take 63, zr_138), zM_138 M, zN_138 N)
set_option maxRecDepth 8000 in
theorem zi_13 {Γ : jb_G} {L : Nat} {M : jb_Mi} {N : jb_Ml} {d : Nat} (hd : 1 ≤ d) : jb_V Γ d zq_118 0 (jb_en 4 [.ref 62, .ref 24, .ref 34, .ref 57]) [] (zs_133 L M N) none (zs_138 L M N) := by
  obtain ⟨d, rfl⟩ : ∃ e, d = e + 1 := ⟨d - 1, by omega⟩
  show jb_V Γ _ zq_118 0 [some (.ref 62), some (.ref 24), some (.ref 34), some (.ref 57)] [] (zs_133 L M N) _ _
  refine jb_seg 1 (pc' := 1) (ls' := [some (.ref 62), some (.ref 24), some (.ref 34), some (.ref 57)]) (st' := [(.ref 62)]) (σ' := (zs_133 L M N)) (G := []) rfl trivial ?_
  refine jb_oinit (rest := []) rfl (Nat.le_of_ble_eq_true rfl) ?_
  refine jb_seg 2 (pc' := 7) (ls' := [some (.ref 62), some (.ref 24), some (.ref 34), some (.ref 57)]) (st' := [(.int 24), (.ref 62)]) (σ' := (zs_133 L M N)) (G := []) rfl trivial ?_
  refine jb_newai (N := 24) (rest := [(.ref 62)]) rfl (by decide) (by decide) (by decide) rfl ?_
  show jb_V Γ _ zq_118 9 [some (.ref 62), some (.ref 24), some (.ref 34), some (.ref 57)] [(.ref 63), (.ref 62)] (zs_134 L M N) _ _
  refine jb_putR (rest := []) rfl rfl rfl rfl rfl rfl (by decide) (Nat.le_of_ble_eq_true rfl) ?_
  show jb_V Γ _ zq_118 12 [some (.ref 62), some (.ref 24), some (.ref 34), some (.ref 57)] [] (zs_135 L M N) _ _
  refine jb_seg 2 (pc' := 14) (ls' := [some (.ref 62), some (.ref 24), some (.ref 34), some (.ref 57)]) (st' := [(.ref 24), (.ref 62)]) (σ' := (zs_135 L M N)) (G := []) rfl trivial ?_
  refine jb_putR (rest := []) rfl rfl rfl rfl rfl rfl (by decide) (Nat.le_of_ble_eq_true rfl) ?_
  show jb_V Γ _ zq_118 17 [some (.ref 62), some (.ref 24), some (.ref 34), some (.ref 57)] [] (zs_136 L M N) _ _
  refine jb_seg 2 (pc' := 19) (ls' := [some (.ref 62), some (.ref 24), some (.ref 34), some (.ref 57)]) (st' := [(.ref 34), (.ref 62)]) (σ' := (zs_136 L M N)) (G := []) rfl trivial ?_
  refine jb_putR (rest := []) rfl rfl rfl rfl rfl rfl (by decide) (Nat.le_of_ble_eq_true rfl) ?_
  show jb_V Γ _ zq_118 22 [some (.ref 62), some (.ref 24), some (.ref 34), some (.ref 57)] [] (zs_137 L M N) _ _
  refine jb_seg 2 (pc' := 24) (ls' := [some (.ref 62), some (.ref 24), some (.ref 34), some (.ref 57)]) (st' := [(.ref 57), (.ref 62)]) (σ' := (zs_137 L M N)) (G := []) rfl trivial ?_
  refine jb_putR (rest := []) rfl rfl rfl rfl rfl rfl (by decide) (Nat.le_of_ble_eq_true rfl) ?_
  show jb_V Γ _ zq_118 27 [some (.ref 62), some (.ref 24), some (.ref 34), some (.ref 57)] [] (zs_138 L M N) _ _
  exact jb_retv rfl rfl
def zr_139 : jb_Rf := jb_ur zr_138 1 10 62
def zM_139 (M : jb_Mi) : jb_Mi := zM_138 M
def zN_139 (N : jb_Ml) : jb_Ml := zN_138 N
abbrev zs_139 (L : Nat) (M : jb_Mi) (N : jb_Ml) : jb_S := (((9, L) :: zE_sh.take 63, zr_139), zM_139 M, zN_139 N)
def zr_140 : jb_Rf := fun a => if a = 64 then (fun _ => 0) else zr_139 a
def zM_140 (M : jb_Mi) : jb_Mi := fun a => if a = 64 then (fun _ => 0) else zM_139 M a
def zN_140 (N : jb_Ml) : jb_Ml := fun a => if a = 64 then (fun _ => 0) else zN_139 N a
abbrev zs_140 (L : Nat) (M : jb_Mi) (N : jb_Ml) : jb_S := (((9, L) :: zE_sh.take 64, zr_140), zM_140 M, zN_140 N)
def zr_141 : jb_Rf := fun a => if a = 65 then (fun _ => 0) else zr_140 a
def zM_141 (M : jb_Mi) : jb_Mi := fun a => if a = 65 then (fun _ => 0) else zM_140 M a
def zN_141 (N : jb_Ml) : jb_Ml := fun a => if a = 65 then (fun _ => 0) else zN_140 N a
abbrev zs_141 (L : Nat) (M : jb_Mi) (N : jb_Ml) : jb_S := (((9, L) :: zE_sh.take 65, zr_141), zM_141 M, zN_141 N)
def zr_142 : jb_Rf := jb_ur zr_141 64 2 65
def zM_142 (M : jb_Mi) : jb_Mi := zM_141 M
def zN_142 (N : jb_Ml) : jb_Ml := zN_141 N
abbrev zs_142 (L : Nat) (M : jb_Mi) (N : jb_Ml) : jb_S := (((9, L) :: zE_sh.take 65, zr_142), zM_142 M, zN_142 N)
def zr_143 : jb_Rf := fun a => if a = 66 then (fun _ => 0) else zr_142 a
def zM_143 (M : jb_Mi) : jb_Mi := fun a => if a = 66 then (fun _ => 0) else zM_142 M a
def zN_143 (N : jb_Ml) : jb_Ml := fun a => if a = 66 then (fun _ => 0) else zN_142 N a
abbrev zs_143 (L : Nat) (M : jb_Mi) (N : jb_Ml) : jb_S := (((9, L) :: zE_sh.take 66, zr_143), zM_143 M, zN_143 N)
def zr_144 : jb_Rf := jb_ur zr_143 64 3 66
def zM_144 (M : jb_Mi) : jb_Mi := zM_143 M
def zN_144 (N : jb_Ml) : jb_Ml := zN_143 N
abbrev zs_144 (L : Nat) (M : jb_Mi) (N : jb_Ml) : jb_S := (((9, L) :: zE_sh.take 66, zr_144), zM_144 M, zN_144 N)
def zr_145 : jb_Rf := fun a => if a = 67 then (fun _ => 0) else zr_144 a
def zM_145 (M : jb_Mi) : jb_Mi := fun a => if a = 67 then (fun _ => 0) else zM_144 M a
def zN_145 (N : jb_Ml) : jb_Ml := fun a => if a = 67 then (fun _ => 0) else zN_144 N a
abbrev zs_145 (L : Nat) (M : jb_Mi) (N : jb_Ml) : jb_S := (((9, L) :: zE_sh.take 67, zr_145), zM_145 M, zN_145 N)
def zr_146 : jb_Rf := jb_ur zr_145 64 4 67
def zM_146 (M : jb_Mi) : jb_Mi := zM_145 M
def zN_146 (N : jb_Ml) : jb_Ml := zN_145 N
abbrev zs_146 (L : Nat) (M : jb_Mi) (N : jb_Ml) : jb_S := (((9, L) :: zE_sh.take 67, zr_146), zM_146 M, zN_146 N)
def zr_147 : jb_Rf := fun a => if a = 68 then (fun _ => 0) else zr_146 a
def zM_147 (M : jb_Mi) : jb_Mi := fun a => if a = 68 then (fun _ => 0) else zM_146 M a
def zN_147 (N : jb_Ml) : jb_Ml := fun a => if a = 68 then (fun _ => 0) else zN_146 N a
abbrev zs_147 (L : Nat) (M : jb_Mi) (N : jb_Ml) : jb_S := (((9, L) :: zE_sh.take 68, zr_147), zM_147 M, zN_147 N)
def zr_148 : jb_Rf := jb_ur zr_147 64 5 68
def zM_148 (M : jb_Mi) : jb_Mi := zM_147 M
def zN_148 (N : jb_Ml) : jb_Ml := zN_147 N
abbrev zs_148 (L : Nat) (M : jb_Mi) (N : jb_Ml) : jb_S := (((9, L) :: zE_sh.take 68, zr_148), zM_148 M, zN_148 N)
def zr_149 : jb_Rf := fun a => if a = 69 then (fun _ => 0) else zr_148 a
def zM_149 (M : jb_Mi) : jb_Mi := fun a => if a = 69 then (fun _ => 0) else zM_148 M a
def zN_149 (N : jb_Ml) : jb_Ml := fun a => if a = 69 then (fun _ => 0) else zN_148 N a
abbrev zs_149 (L : Nat) (M : jb_Mi) (N : jb_Ml) : jb_S := (((9, L) :: zE_sh.take 69, zr_149), zM_149 M, zN_149 N)
def zr_150 : jb_Rf := jb_ur zr_149 64 9 69
def zM_150 (M : jb_Mi) : jb_Mi := zM_149 M
def zN_150 (N : jb_Ml) : jb_Ml := zN_149 N
abbrev zs_150 (L : Nat) (M : jb_Mi) (N : jb_Ml) : jb_S := (((9, L) :: zE_sh.take 69, zr_150), zM_150 M, zN_150 N)
def zr_151 : jb_Rf := jb_ur zr_150 64 0 4
def zM_151 (M : jb_Mi) : jb_Mi := zM_150 M
def zN_151 (N : jb_Ml) : jb_Ml := zN_150 N
abbrev zs_151 (L : Nat) (M : jb_Mi) (N : jb_Ml) : jb_S := (((9, L) :: zE_sh.take 69, zr_151), zM_151 M, zN_151 N)
def zr_152 : jb_Rf := jb_ur zr_151 64 1 41
def zM_152 (M : jb_Mi) : jb_Mi := zM_151 M
def zN_152 (N : jb_Ml) : jb_Ml := zN_151 N
abbrev zs_152 (L : Nat) (M : jb_Mi) (N : jb_Ml) : jb_S := (((9, L) :: zE_sh.take 69, zr_152), zM_152 M, zN_152 N)
set_option maxRecDepth 8000 in
theorem zi_14 {Γ : jb_G} {L : Nat} {M : jb_Mi} {N : jb_Ml} {d : Nat} (hd : 1 ≤ d) : jb_V Γ d zq_1 0 (jb_en 3 [.ref 64, .ref 4, .ref 41]) [] (zs_140 L M N) none (zs_152 L M N) := by
  obtain ⟨d, rfl⟩ : ∃ e, d = e + 1 := ⟨d - 1, by omega⟩
  show jb_V Γ _ zq_1 0 [some (.ref 64), some (.ref 4), some (.ref 41)] [] (zs_140 L M N) _ _
  refine jb_seg 1 (pc' := 1) (ls' := [some (.ref 64), some (.ref 4), some (.ref 41)]) (st' := [(.ref 64)]) (σ' := (zs_140 L M N)) (G := []) rfl trivial ?_
  refine jb_oinit (rest := []) rfl (Nat.le_of_ble_eq_true rfl) ?_
  refine jb_seg 2 (pc' := 6) (ls' := [some (.ref 64), some (.ref 4), some (.ref 41)]) (st' := [(.int 4), (.ref 64)]) (σ' := (zs_140 L M N)) (G := []) rfl trivial ?_
  refine jb_newai (N := 4) (rest := [(.ref 64)]) rfl (by decide) (by decide) (by decide) rfl ?_
  show jb_V Γ _ zq_1 8 [some (.ref 64), some (.ref 4), some (.ref 41)] [(.ref 65), (.ref 64)] (zs_141 L M N) _ _
  refine jb_putR (rest := []) rfl rfl rfl rfl rfl rfl (by decide) (Nat.le_of_ble_eq_true rfl) ?_
  show jb_V Γ _ zq_1 11 [some (.ref 64), some (.ref 4), some (.ref 41)] [] (zs_142 L M N) _ _
  refine jb_seg 2 (pc' := 13) (ls' := [some (.ref 64), some (.ref 4), some (.ref 41)]) (st' := [(.int 4), (.ref 64)]) (σ' := (zs_142 L M N)) (G := []) rfl trivial ?_
  refine jb_newal (N := 4) (rest := [(.ref 64)]) rfl (by decide) (by decide) (by decide) rfl ?_
  show jb_V Γ _ zq_1 15 [some (.ref 64), some (.ref 4), some (.ref 41)] [(.ref 66), (.ref 64)] (zs_143 L M N) _ _
  refine jb_putR (rest := []) rfl rfl rfl rfl rfl rfl (by decide) (Nat.le_of_ble_eq_true rfl) ?_
  show jb_V Γ _ zq_1 18 [some (.ref 64), some (.ref 4), some (.ref 41)] [] (zs_144 L M N) _ _
  refine jb_seg 2 (pc' := 21) (ls' := [some (.ref 64), some (.ref 4), some (.ref 41)]) (st' := [(.int 48), (.ref 64)]) (σ' := (zs_144 L M N)) (G := []) rfl trivial ?_
  refine jb_newai (N := 48) (rest := [(.ref 64)]) rfl (by decide) (by decide) (by decide) rfl ?_
  show jb_V Γ _ zq_1 23 [some (.ref 64), some (.ref 4), some (.ref 41)] [(.ref 67), (.ref 64)] (zs_145 L M N) _ _
  refine jb_putR (rest := []) rfl rfl rfl rfl rfl rfl (by decide) (Nat.le_of_ble_eq_true rfl) ?_
  show jb_V Γ _ zq_1 26 [some (.ref 64), some (.ref 4), some (.ref 41)] [] (zs_146 L M N) _ _
  refine jb_seg 2 (pc' := 28) (ls' := [some (.ref 64), some (.ref 4), some (.ref 41)]) (st' := [(.int 4), (.ref 64)]) (σ' := (zs_146 L M N)) (G := []) rfl trivial ?_
  refine jb_newai (N := 4) (rest := [(.ref 64)]) rfl (by decide) (by decide) (by decide) rfl ?_
  show jb_V Γ _ zq_1 30 [some (.ref 64), some (.ref 4), some (.ref 41)] [(.ref 68), (.ref 64)] (zs_147 L M N) _ _
  refine jb_putR (rest := []) rfl rfl rfl rfl rfl rfl (by decide) (Nat.le_of_ble_eq_true rfl) ?_
  show jb_V Γ _ zq_1 33 [some (.ref 64), some (.ref 4), some (.ref 41)] [] (zs_148 L M N) _ _
  refine jb_seg 2 (pc' := 35) (ls' := [some (.ref 64), some (.ref 4), some (.ref 41)]) (st' := [(.int 4), (.ref 64)]) (σ' := (zs_148 L M N)) (G := []) rfl trivial ?_
  refine jb_newai (N := 4) (rest := [(.ref 64)]) rfl (by decide) (by decide) (by decide) rfl ?_
  show jb_V Γ _ zq_1 37 [some (.ref 64), some (.ref 4), some (.ref 41)] [(.ref 69), (.ref 64)] (zs_149 L M N) _ _
  refine jb_putR (rest := []) rfl rfl rfl rfl rfl rfl (by decide) (Nat.le_of_ble_eq_true rfl) ?_
  show jb_V Γ _ zq_1 40 [some (.ref 64), some (.ref 4), some (.ref 41)] [] (zs_150 L M N) _ _
  refine jb_seg 2 (pc' := 42) (ls' := [some (.ref 64), some (.ref 4), some (.ref 41)]) (st' := [(.ref 4), (.ref 64)]) (σ' := (zs_150 L M N)) (G := []) rfl trivial ?_
  refine jb_putR (rest := []) rfl rfl rfl rfl rfl rfl (by decide) (Nat.le_of_ble_eq_true rfl) ?_
  show jb_V Γ _ zq_1 45 [some (.ref 64), some (.ref 4), some (.ref 41)] [] (zs_151 L M N) _ _
  refine jb_seg 2 (pc' := 47) (ls' := [some (.ref 64), some (.ref 4), some (.ref 41)]) (st' := [(.ref 41), (.ref 64)]) (σ' := (zs_151 L M N)) (G := []) rfl trivial ?_
  refine jb_putR (rest := []) rfl rfl rfl rfl rfl rfl (by decide) (Nat.le_of_ble_eq_true rfl) ?_
  show jb_V Γ _ zq_1 50 [some (.ref 64), some (.ref 4), some (.ref 41)] [] (zs_152 L M N) _ _
  exact jb_retv rfl rfl
def zr_153 : jb_Rf := jb_ur zr_152 1 11 64
def zM_153 (M : jb_Mi) : jb_Mi := zM_152 M
def zN_153 (N : jb_Ml) : jb_Ml := zN_152 N
abbrev zs_153 (L : Nat) (M : jb_Mi) (N : jb_Ml) : jb_S := (((9, L) :: zE_sh.take 69, zr_153), zM_153 M, zN_153 N)
def zr_154 : jb_Rf := fun a => if a = 70 then (fun _ => 0) else zr_153 a
def zM_154 (M : jb_Mi) : jb_Mi := fun a => if a = 70 then (fun _ => 0) else zM_153 M a
def zN_154 (N : jb_Ml) : jb_Ml := fun a => if a = 70 then (fun _ => 0) else zN_153 N a
abbrev zs_154 (L : Nat) (M : jb_Mi) (N : jb_Ml) : jb_S := (((9, L) :: zE_sh.take 70, zr_154), zM_154 M, zN_154 N)
def zr_155 : jb_Rf := fun a => if a = 71 then (fun _ => 0) else zr_154 a
def zM_155 (M : jb_Mi) : jb_Mi := fun a => if a = 71 then (fun _ => 0) else zM_154 M a
def zN_155 (N : jb_Ml) : jb_Ml := fun a => if a = 71 then (fun _ => 0) else zN_154 N a
abbrev zs_155 (L : Nat) (M : jb_Mi) (N : jb_Ml) : jb_S := (((9, L) :: zE_sh.take 71, zr_155), zM_155 M, zN_155 N)
def zr_156 : jb_Rf := jb_ur zr_155 70 1 71
def zM_156 (M : jb_Mi) : jb_Mi := zM_155 M
def zN_156 (N : jb_Ml) : jb_Ml := zN_155 N
abbrev zs_156 (L : Nat) (M : jb_Mi) (N : jb_Ml) : jb_S := (((9, L) :: zE_sh.take 71, zr_156), zM_156 M, zN_156 N)
def zr_157 : jb_Rf := fun a => if a = 72 then (fun _ => 0) else zr_156 a
def zM_157 (M : jb_Mi) : jb_Mi := fun a => if a = 72 then (fun _ => 0) else zM_156 M a
def zN_157 (N : jb_Ml) : jb_Ml := fun a => if a = 72 then (fun _ => 0) else zN_156 N a
abbrev zs_157 (L : Nat) (M : jb_Mi) (N : jb_Ml) : jb_S := (((9, L) :: zE_sh.take 72, zr_157), zM_157 M, zN_157 N)
def zr_158 : jb_Rf := jb_ur zr_157 70 2 72
def zM_158 (M : jb_Mi) : jb_Mi := zM_157 M
def zN_158 (N : jb_Ml) : jb_Ml := zN_157 N
abbrev zs_158 (L : Nat) (M : jb_Mi) (N : jb_Ml) : jb_S := (((9, L) :: zE_sh.take 72, zr_158), zM_158 M, zN_158 N)
def zr_159 : jb_Rf := jb_ur zr_158 70 0 4
def zM_159 (M : jb_Mi) : jb_Mi := zM_158 M
def zN_159 (N : jb_Ml) : jb_Ml := zN_158 N
abbrev zs_159 (L : Nat) (M : jb_Mi) (N : jb_Ml) : jb_S := (((9, L) :: zE_sh.take 72, zr_159), zM_159 M, zN_159 N)
set_option maxRecDepth 8000 in
theorem zi_15 {Γ : jb_G} {L : Nat} {M : jb_Mi} {N : jb_Ml} {d : Nat} (hd : 1 ≤ d) : jb_V Γ d zq_48 0 (jb_en 2 [.ref 70, .ref 4]) [] (zs_154 L M N) none (zs_159 L M N) := by
  obtain ⟨d, rfl⟩ : ∃ e, d = e + 1 := ⟨d - 1, by omega⟩
  show jb_V Γ _ zq_48 0 [some (.ref 70), some (.ref 4)] [] (zs_154 L M N) _ _
  refine jb_seg 1 (pc' := 1) (ls' := [some (.ref 70), some (.ref 4)]) (st' := [(.ref 70)]) (σ' := (zs_154 L M N)) (G := []) rfl trivial ?_
  refine jb_oinit (rest := []) rfl (Nat.le_of_ble_eq_true rfl) ?_
  refine jb_seg 2 (pc' := 7) (ls' := [some (.ref 70), some (.ref 4)]) (st' := [(.int 6), (.ref 70)]) (σ' := (zs_154 L M N)) (G := []) rfl trivial ?_
  refine jb_newai (N := 6) (rest := [(.ref 70)]) rfl (by decide) (by decide) (by decide) rfl ?_
  show jb_V Γ _ zq_48 9 [some (.ref 70), some (.ref 4)] [(.ref 71), (.ref 70)] (zs_155 L M N) _ _
  refine jb_putR (rest := []) rfl rfl rfl rfl rfl rfl (by decide) (Nat.le_of_ble_eq_true rfl) ?_
  show jb_V Γ _ zq_48 12 [some (.ref 70), some (.ref 4)] [] (zs_156 L M N) _ _
  refine jb_seg 2 (pc' := 15) (ls' := [some (.ref 70), some (.ref 4)]) (st' := [(.int 6), (.ref 70)]) (σ' := (zs_156 L M N)) (G := []) rfl trivial ?_
  refine jb_newai (N := 6) (rest := [(.ref 70)]) rfl (by decide) (by decide) (by decide) rfl ?_
  show jb_V Γ _ zq_48 17 [some (.ref 70), some (.ref 4)] [(.ref 72), (.ref 70)] (zs_157 L M N) _ _
  refine jb_putR (rest := []) rfl rfl rfl rfl rfl rfl (by decide) (Nat.le_of_ble_eq_true rfl) ?_
  show jb_V Γ _ zq_48 20 [some (.ref 70), some (.ref 4)] [] (zs_158 L M N) _ _
  refine jb_seg 2 (pc' := 22) (ls' := [some (.ref 70), some (.ref 4)]) (st' := [(.ref 4), (.ref 70)]) (σ' := (zs_158 L M N)) (G := []) rfl trivial ?_
  refine jb_putR (rest := []) rfl rfl rfl rfl rfl rfl (by decide) (Nat.le_of_ble_eq_true rfl) ?_
  show jb_V Γ _ zq_48 25 [some (.ref 70), some (.ref 4)] [] (zs_159 L M N) _ _
  exact jb_retv rfl rfl
def zr_160 : jb_Rf := jb_ur zr_159 1 12 70
def zM_160 (M : jb_Mi) : jb_Mi := zM_159 M
def zN_160 (N : jb_Ml) : jb_Ml := zN_159 N
abbrev zs_160 (L : Nat) (M : jb_Mi) (N : jb_Ml) : jb_S := (((9, L) :: zE_sh.take 72, zr_160), zM_160 M, zN_160 N)
def zr_161 : jb_Rf := fun a => if a = 73 then (fun _ => 0) else zr_160 a
def zM_161 (M : jb_Mi) : jb_Mi := fun a => if a = 73 then (fun _ => 0) else zM_160 M a
def zN_161 (N : jb_Ml) : jb_Ml := fun a => if a = 73 then (fun _ => 0) else zN_160 N a
abbrev zs_161 (L : Nat) (M : jb_Mi) (N : jb_Ml) : jb_S := (((9, L) :: zE_sh.take 73, zr_161), zM_161 M, zN_161 N)
def zr_162 : jb_Rf := fun a => if a = 74 then (fun _ => 0) else zr_161 a
def zM_162 (M : jb_Mi) : jb_Mi := fun a => if a = 74 then (fun _ => 0) else zM_161 M a
def zN_162 (N : jb_Ml) : jb_Ml := fun a => if a = 74 then (fun _ => 0) else zN_161 N a
abbrev zs_162 (L : Nat) (M : jb_Mi) (N : jb_Ml) : jb_S := (((9, L) :: zE_sh.take 74, zr_162), zM_162 M, zN_162 N)
def zr_163 : jb_Rf := jb_ur zr_162 73 0 74
def zM_163 (M : jb_Mi) : jb_Mi := zM_162 M
def zN_163 (N : jb_Ml) : jb_Ml := zN_162 N
abbrev zs_163 (L : Nat) (M : jb_Mi) (N : jb_Ml) : jb_S := (((9, L) :: zE_sh.take 74, zr_163), zM_163 M, zN_163 N)
def zr_164 : jb_Rf := fun a => if a = 75 then (fun _ => 0) else zr_163 a
def zM_164 (M : jb_Mi) : jb_Mi := fun a => if a = 75 then (fun _ => 0) else zM_163 M a
def zN_164 (N : jb_Ml) : jb_Ml := fun a => if a = 75 then (fun _ => 0) else zN_163 N a
abbrev zs_164 (L : Nat) (M : jb_Mi) (N : jb_Ml) : jb_S := (((9, L) :: zE_sh.take 75, zr_164), zM_164 M, zN_164 N)
def zr_165 : jb_Rf := jb_ur zr_164 73 2 75
def zM_165 (M : jb_Mi) : jb_Mi := zM_164 M
def zN_165 (N : jb_Ml) : jb_Ml := zN_164 N
abbrev zs_165 (L : Nat) (M : jb_Mi) (N : jb_Ml) : jb_S := (((9, L) :: zE_sh.take 75, zr_165), zM_165 M, zN_165 N)
def zr_166 : jb_Rf := fun a => if a = 76 then (fun _ => 0) else zr_165 a
def zM_166 (M : jb_Mi) : jb_Mi := fun a => if a = 76 then (fun _ => 0) else zM_165 M a
def zN_166 (N : jb_Ml) : jb_Ml := fun a => if a = 76 then (fun _ => 0) else zN_165 N a
abbrev zs_166 (L : Nat) (M : jb_Mi) (N : jb_Ml) : jb_S := (((9, L) :: zE_sh.take 76, zr_166), zM_166 M, zN_166 N)
def zr_167 : jb_Rf := jb_ur zr_166 73 3 76
def zM_167 (M : jb_Mi) : jb_Mi := zM_166 M
def zN_167 (N : jb_Ml) : jb_Ml := zN_166 N
abbrev zs_167 (L : Nat) (M : jb_Mi) (N : jb_Ml) : jb_S := (((9, L) :: zE_sh.take 76, zr_167), zM_167 M, zN_167 N)
def zr_168 : jb_Rf := fun a => if a = 77 then (fun _ => 0) else zr_167 a
def zM_168 (M : jb_Mi) : jb_Mi := fun a => if a = 77 then (fun _ => 0) else zM_167 M a
def zN_168 (N : jb_Ml) : jb_Ml := fun a => if a = 77 then (fun _ => 0) else zN_167 N a
abbrev zs_168 (L : Nat) (M : jb_Mi) (N : jb_Ml) : jb_S := (((9, L) :: zE_sh.take 77, zr_168), zM_168 M, zN_168 N)
def zr_169 : jb_Rf := jb_ur zr_168 73 4 77
def zM_169 (M : jb_Mi) : jb_Mi := zM_168 M
def zN_169 (N : jb_Ml) : jb_Ml := zN_168 N
abbrev zs_169 (L : Nat) (M : jb_Mi) (N : jb_Ml) : jb_S := (((9, L) :: zE_sh.take 77, zr_169), zM_169 M, zN_169 N)
def zr_170 : jb_Rf := fun a => if a = 78 then (fun _ => 0) else zr_169 a
def zM_170 (M : jb_Mi) : jb_Mi := fun a => if a = 78 then (fun _ => 0) else zM_169 M a
def zN_170 (N : jb_Ml) : jb_Ml := fun a => if a = 78 then (fun _ => 0) else zN_169 N a
abbrev zs_170 (L : Nat) (M : jb_Mi) (N : jb_Ml) : jb_S := (((9, L) :: zE_sh.take 78, zr_170), zM_170 M, zN_170 N)
def zr_171 : jb_Rf := jb_ur zr_170 73 5 78
def zM_171 (M : jb_Mi) : jb_Mi := zM_170 M
def zN_171 (N : jb_Ml) : jb_Ml := zN_170 N
abbrev zs_171 (L : Nat) (M : jb_Mi) (N : jb_Ml) : jb_S := (((9, L) :: zE_sh.take 78, zr_171), zM_171 M, zN_171 N)
set_option maxRecDepth 8000 in
theorem zi_16 {Γ : jb_G} {L : Nat} {M : jb_Mi} {N : jb_Ml} {d : Nat} (hd : 1 ≤ d) : jb_V Γ d zq_55 0 (jb_en 1 [.ref 73]) [] (zs_161 L M N) none (zs_171 L M N) := by
  obtain ⟨d, rfl⟩ : ∃ e, d = e + 1 := ⟨d - 1, by omega⟩
  show jb_V Γ _ zq_55 0 [some (.ref 73)] [] (zs_161 L M N) _ _
  refine jb_seg 1 (pc' := 1) (ls' := [some (.ref 73)]) (st' := [(.ref 73)]) (σ' := (zs_161 L M N)) (G := []) rfl trivial ?_
  refine jb_oinit (rest := []) rfl (Nat.le_of_ble_eq_true rfl) ?_
  refine jb_seg 2 (pc' := 7) (ls' := [some (.ref 73)]) (st' := [(.int 40), (.ref 73)]) (σ' := (zs_161 L M N)) (G := []) rfl trivial ?_
  refine jb_newai (N := 40) (rest := [(.ref 73)]) rfl (by decide) (by decide) (by decide) rfl ?_
  show jb_V Γ _ zq_55 9 [some (.ref 73)] [(.ref 74), (.ref 73)] (zs_162 L M N) _ _
  refine jb_putR (rest := []) rfl rfl rfl rfl rfl rfl (by decide) (Nat.le_of_ble_eq_true rfl) ?_
  show jb_V Γ _ zq_55 12 [some (.ref 73)] [] (zs_163 L M N) _ _
  refine jb_seg 2 (pc' := 15) (ls' := [some (.ref 73)]) (st' := [(.int 40), (.ref 73)]) (σ' := (zs_163 L M N)) (G := []) rfl trivial ?_
  refine jb_newal (N := 40) (rest := [(.ref 73)]) rfl (by decide) (by decide) (by decide) rfl ?_
  show jb_V Γ _ zq_55 17 [some (.ref 73)] [(.ref 75), (.ref 73)] (zs_164 L M N) _ _
  refine jb_putR (rest := []) rfl rfl rfl rfl rfl rfl (by decide) (Nat.le_of_ble_eq_true rfl) ?_
  show jb_V Γ _ zq_55 20 [some (.ref 73)] [] (zs_165 L M N) _ _
  refine jb_seg 2 (pc' := 23) (ls' := [some (.ref 73)]) (st' := [(.int 40), (.ref 73)]) (σ' := (zs_165 L M N)) (G := []) rfl trivial ?_
  refine jb_newal (N := 40) (rest := [(.ref 73)]) rfl (by decide) (by decide) (by decide) rfl ?_
  show jb_V Γ _ zq_55 25 [some (.ref 73)] [(.ref 76), (.ref 73)] (zs_166 L M N) _ _
  refine jb_putR (rest := []) rfl rfl rfl rfl rfl rfl (by decide) (Nat.le_of_ble_eq_true rfl) ?_
  show jb_V Γ _ zq_55 28 [some (.ref 73)] [] (zs_167 L M N) _ _
  refine jb_seg 2 (pc' := 31) (ls' := [some (.ref 73)]) (st' := [(.int 9), (.ref 73)]) (σ' := (zs_167 L M N)) (G := []) rfl trivial ?_
  refine jb_newai (N := 9) (rest := [(.ref 73)]) rfl (by decide) (by decide) (by decide) rfl ?_
  show jb_V Γ _ zq_55 33 [some (.ref 73)] [(.ref 77), (.ref 73)] (zs_168 L M N) _ _
  refine jb_putR (rest := []) rfl rfl rfl rfl rfl rfl (by decide) (Nat.le_of_ble_eq_true rfl) ?_
  show jb_V Γ _ zq_55 36 [some (.ref 73)] [] (zs_169 L M N) _ _
  refine jb_seg 2 (pc' := 39) (ls' := [some (.ref 73)]) (st' := [(.int 64), (.ref 73)]) (σ' := (zs_169 L M N)) (G := []) rfl trivial ?_
  refine jb_newai (N := 64) (rest := [(.ref 73)]) rfl (by decide) (by decide) (by decide) rfl ?_
  show jb_V Γ _ zq_55 41 [some (.ref 73)] [(.ref 78), (.ref 73)] (zs_170 L M N) _ _
  refine jb_putR (rest := []) rfl rfl rfl rfl rfl rfl (by decide) (Nat.le_of_ble_eq_true rfl) ?_
  show jb_V Γ _ zq_55 44 [some (.ref 73)] [] (zs_171 L M N) _ _
  exact jb_retv rfl rfl
def zr_172 : jb_Rf := jb_ur zr_171 1 13 73
def zM_172 (M : jb_Mi) : jb_Mi := zM_171 M
def zN_172 (N : jb_Ml) : jb_Ml := zN_171 N
abbrev zs_172 (L : Nat) (M : jb_Mi) (N : jb_Ml) : jb_S := (((9, L) :: zE_sh.take 78, zr_172), zM_172 M, zN_172 N)
set_option maxRecDepth 8000 in
theorem zi_17 {Γ : jb_G} {L : Nat} {M : jb_Mi} {N : jb_Ml} {d : Nat} (hd : 2 ≤ d) : jb_V Γ d zq_125 0 (jb_en 2 [.ref 1]) [] (zs_1 L M N) none (zs_172 L M N) := by
  obtain ⟨d, rfl⟩ : ∃ e, d = e + 1 := ⟨d - 1, by omega⟩
  show jb_V Γ _ zq_125 0 [some (.ref 1), none] [] (zs_1 L M N) _ _
  refine jb_seg 1 (pc' := 1) (ls' := [some (.ref 1), none]) (st' := [(.ref 1)]) (σ' := (zs_1 L M N)) (G := []) rfl trivial ?_
  refine jb_oinit (rest := []) rfl (Nat.le_of_ble_eq_true rfl) ?_
  refine jb_seg 1 (pc' := 5) (ls' := [some (.ref 1), none]) (st' := [(.ref 1)]) (σ' := (zs_1 L M N)) (G := []) rfl trivial ?_
  refine jb_new (rest := [(.ref 1)]) rfl rfl ?_
  show jb_V Γ _ zq_125 8 [some (.ref 1), none] [(.ref 2), (.ref 1)] (zs_2 L M N) _ _
  refine jb_seg 1 (pc' := 9) (ls' := [some (.ref 1), none]) (st' := [(.ref 2), (.ref 2), (.ref 1)]) (σ' := (zs_2 L M N)) (G := []) rfl trivial ?_
  refine jb_callI (q' := zq_113) (b := 2) (As := []) (rest := [(.ref 2), (.ref 1)]) (σ := (zs_2 L M N)) (σ1 := (zs_4 L M N)) (v := none) rfl (by decide) rfl rfl rfl zp_113 (jb_cat rfl) (Nat.le_of_ble_eq_true rfl) (Nat.le_of_ble_eq_true rfl) (Or.inr rfl) rfl (zi_1 (by omega)) ?_
  show jb_V Γ _ zq_125 12 [some (.ref 1), none] [(.ref 2), (.ref 1)] (zs_4 L M N) _ _
  refine jb_putR (rest := []) rfl rfl rfl rfl rfl rfl (by decide) (Nat.le_of_ble_eq_true rfl) ?_
  show jb_V Γ _ zq_125 15 [some (.ref 1), none] [] (zs_5 L M N) _ _
  refine jb_seg 1 (pc' := 16) (ls' := [some (.ref 1), none]) (st' := [(.ref 1)]) (σ' := (zs_5 L M N)) (G := []) rfl trivial ?_
  refine jb_new (rest := [(.ref 1)]) rfl rfl ?_
  show jb_V Γ _ zq_125 19 [some (.ref 1), none] [(.ref 4), (.ref 1)] (zs_6 L M N) _ _
  refine jb_seg 1 (pc' := 20) (ls' := [some (.ref 1), none]) (st' := [(.ref 4), (.ref 4), (.ref 1)]) (σ' := (zs_6 L M N)) (G := []) rfl trivial ?_
  refine jb_callI (q' := zq_101) (b := 4) (As := []) (rest := [(.ref 4), (.ref 1)]) (σ := (zs_6 L M N)) (σ1 := (zs_25 L M N)) (v := none) rfl (by decide) rfl rfl rfl zp_101 (jb_cat rfl) (Nat.le_of_ble_eq_true rfl) (Nat.le_of_ble_eq_true rfl) (Or.inr rfl) rfl (zi_2 (by omega)) ?_
  show jb_V Γ _ zq_125 23 [some (.ref 1), none] [(.ref 4), (.ref 1)] (zs_25 L M N) _ _
  refine jb_putR (rest := []) rfl rfl rfl rfl rfl rfl (by decide) (Nat.le_of_ble_eq_true rfl) ?_
  show jb_V Γ _ zq_125 26 [some (.ref 1), none] [] (zs_26 L M N) _ _
  refine jb_seg 1 (pc' := 27) (ls' := [some (.ref 1), none]) (st' := [(.ref 1)]) (σ' := (zs_26 L M N)) (G := []) rfl trivial ?_
  refine jb_new (rest := [(.ref 1)]) rfl rfl ?_
  show jb_V Γ _ zq_125 30 [some (.ref 1), none] [(.ref 14), (.ref 1)] (zs_27 L M N) _ _
  refine jb_seg 1 (pc' := 31) (ls' := [some (.ref 1), none]) (st' := [(.ref 14), (.ref 14), (.ref 1)]) (σ' := (zs_27 L M N)) (G := []) rfl trivial ?_
  refine jb_callI (q' := zq_101) (b := 14) (As := []) (rest := [(.ref 14), (.ref 1)]) (σ := (zs_27 L M N)) (σ1 := (zs_46 L M N)) (v := none) rfl (by decide) rfl rfl rfl zp_101 (jb_cat rfl) (Nat.le_of_ble_eq_true rfl) (Nat.le_of_ble_eq_true rfl) (Or.inr rfl) rfl (zi_3 (by omega)) ?_
  show jb_V Γ _ zq_125 34 [some (.ref 1), none] [(.ref 14), (.ref 1)] (zs_46 L M N) _ _
  refine jb_putR (rest := []) rfl rfl rfl rfl rfl rfl (by decide) (Nat.le_of_ble_eq_true rfl) ?_
  show jb_V Γ _ zq_125 37 [some (.ref 1), none] [] (zs_47 L M N) _ _
  refine jb_seg 1 (pc' := 38) (ls' := [some (.ref 1), none]) (st' := [(.ref 1)]) (σ' := (zs_47 L M N)) (G := []) rfl trivial ?_
  refine jb_new (rest := [(.ref 1)]) rfl rfl ?_
  show jb_V Γ _ zq_125 41 [some (.ref 1), none] [(.ref 24), (.ref 1)] (zs_48 L M N) _ _
  refine jb_seg 1 (pc' := 42) (ls' := [some (.ref 1), none]) (st' := [(.ref 24), (.ref 24), (.ref 1)]) (σ' := (zs_48 L M N)) (G := []) rfl trivial ?_
  refine jb_callI (q' := zq_101) (b := 24) (As := []) (rest := [(.ref 24), (.ref 1)]) (σ := (zs_48 L M N)) (σ1 := (zs_67 L M N)) (v := none) rfl (by decide) rfl rfl rfl zp_101 (jb_cat rfl) (Nat.le_of_ble_eq_true rfl) (Nat.le_of_ble_eq_true rfl) (Or.inr rfl) rfl (zi_4 (by omega)) ?_
  show jb_V Γ _ zq_125 45 [some (.ref 1), none] [(.ref 24), (.ref 1)] (zs_67 L M N) _ _
  refine jb_putR (rest := []) rfl rfl rfl rfl rfl rfl (by decide) (Nat.le_of_ble_eq_true rfl) ?_
  show jb_V Γ _ zq_125 48 [some (.ref 1), none] [] (zs_68 L M N) _ _
  refine jb_seg 1 (pc' := 49) (ls' := [some (.ref 1), none]) (st' := [(.ref 1)]) (σ' := (zs_68 L M N)) (G := []) rfl trivial ?_
  refine jb_new (rest := [(.ref 1)]) rfl rfl ?_
  show jb_V Γ _ zq_125 52 [some (.ref 1), none] [(.ref 34), (.ref 1)] (zs_69 L M N) _ _
  refine jb_seg 1 (pc' := 53) (ls' := [some (.ref 1), none]) (st' := [(.ref 34), (.ref 34), (.ref 1)]) (σ' := (zs_69 L M N)) (G := []) rfl trivial ?_
  refine jb_callI (q' := zq_94) (b := 34) (As := []) (rest := [(.ref 34), (.ref 1)]) (σ := (zs_69 L M N)) (σ1 := (zs_81 L M N)) (v := none) rfl (by decide) rfl rfl rfl zp_94 (jb_cat rfl) (Nat.le_of_ble_eq_true rfl) (Nat.le_of_ble_eq_true rfl) (Or.inr rfl) rfl (zi_5 (by omega)) ?_
  show jb_V Γ _ zq_125 56 [some (.ref 1), none] [(.ref 34), (.ref 1)] (zs_81 L M N) _ _
  refine jb_putR (rest := []) rfl rfl rfl rfl rfl rfl (by decide) (Nat.le_of_ble_eq_true rfl) ?_
  show jb_V Γ _ zq_125 59 [some (.ref 1), none] [] (zs_82 L M N) _ _
  refine jb_seg 1 (pc' := 60) (ls' := [some (.ref 1), none]) (st' := [(.ref 1)]) (σ' := (zs_82 L M N)) (G := []) rfl trivial ?_
  refine jb_new (rest := [(.ref 1)]) rfl rfl ?_
  show jb_V Γ _ zq_125 63 [some (.ref 1), none] [(.ref 41), (.ref 1)] (zs_83 L M N) _ _
  refine jb_seg 5 (pc' := 72) (ls' := [some (.ref 1), none]) (st' := [(.ref 34), (.ref 4), (.ref 41), (.ref 41), (.ref 1)]) (σ' := (zs_83 L M N)) (G := []) rfl trivial ?_
  refine jb_callI (q' := zq_36) (b := 41) (As := [(.ref 4), (.ref 34)]) (rest := [(.ref 41), (.ref 1)]) (σ := (zs_83 L M N)) (σ1 := (zs_87 L M N)) (v := none) rfl (by decide) rfl rfl rfl zp_36 (jb_cat rfl) (Nat.le_of_ble_eq_true rfl) (Nat.le_of_ble_eq_true rfl) (Or.inr rfl) rfl (zi_6 (by omega)) ?_
  show jb_V Γ _ zq_125 75 [some (.ref 1), none] [(.ref 41), (.ref 1)] (zs_87 L M N) _ _
  refine jb_putR (rest := []) rfl rfl rfl rfl rfl rfl (by decide) (Nat.le_of_ble_eq_true rfl) ?_
  show jb_V Γ _ zq_125 78 [some (.ref 1), none] [] (zs_88 L M N) _ _
  refine jb_seg 1 (pc' := 79) (ls' := [some (.ref 1), none]) (st' := [(.ref 1)]) (σ' := (zs_88 L M N)) (G := []) rfl trivial ?_
  refine jb_new (rest := [(.ref 1)]) rfl rfl ?_
  show jb_V Γ _ zq_125 82 [some (.ref 1), none] [(.ref 43), (.ref 1)] (zs_89 L M N) _ _
  refine jb_seg 5 (pc' := 91) (ls' := [some (.ref 1), none]) (st' := [(.ref 24), (.ref 2), (.ref 43), (.ref 43), (.ref 1)]) (σ' := (zs_89 L M N)) (G := []) rfl trivial ?_
  refine jb_callI (q' := zq_85) (b := 43) (As := [(.ref 2), (.ref 24)]) (rest := [(.ref 43), (.ref 1)]) (σ := (zs_89 L M N)) (σ1 := (zs_91 L M N)) (v := none) rfl (by decide) rfl rfl rfl zp_85 (jb_cat rfl) (Nat.le_of_ble_eq_true rfl) (Nat.le_of_ble_eq_true rfl) (Or.inr rfl) rfl (zi_7 (by omega)) ?_
  show jb_V Γ _ zq_125 94 [some (.ref 1), none] [(.ref 43), (.ref 1)] (zs_91 L M N) _ _
  refine jb_putR (rest := []) rfl rfl rfl rfl rfl rfl (by decide) (Nat.le_of_ble_eq_true rfl) ?_
  show jb_V Γ _ zq_125 97 [some (.ref 1), none] [] (zs_92 L M N) _ _
  refine jb_seg 1 (pc' := 98) (ls' := [some (.ref 1), none]) (st' := [(.ref 1)]) (σ' := (zs_92 L M N)) (G := []) rfl trivial ?_
  refine jb_new (rest := [(.ref 1)]) rfl rfl ?_
  show jb_V Γ _ zq_125 101 [some (.ref 1), none] [(.ref 44), (.ref 1)] (zs_93 L M N) _ _
  refine jb_seg 1 (pc' := 102) (ls' := [some (.ref 1), none]) (st' := [(.ref 44), (.ref 44), (.ref 1)]) (σ' := (zs_93 L M N)) (G := []) rfl trivial ?_
  refine jb_callI (q' := zq_69) (b := 44) (As := []) (rest := [(.ref 44), (.ref 1)]) (σ := (zs_93 L M N)) (σ1 := (zs_103 L M N)) (v := none) rfl (by decide) rfl rfl rfl zp_69 (jb_cat rfl) (Nat.le_of_ble_eq_true rfl) (Nat.le_of_ble_eq_true rfl) (Or.inr rfl) rfl (zi_8 (by omega)) ?_
  show jb_V Γ _ zq_125 105 [some (.ref 1), none] [(.ref 44), (.ref 1)] (zs_103 L M N) _ _
  refine jb_putR (rest := []) rfl rfl rfl rfl rfl rfl (by decide) (Nat.le_of_ble_eq_true rfl) ?_
  show jb_V Γ _ zq_125 108 [some (.ref 1), none] [] (zs_104 L M N) _ _
  refine jb_seg 1 (pc' := 109) (ls' := [some (.ref 1), none]) (st' := [(.ref 1)]) (σ' := (zs_104 L M N)) (G := []) rfl trivial ?_
  refine jb_new (rest := [(.ref 1)]) rfl rfl ?_
  show jb_V Γ _ zq_125 112 [some (.ref 1), none] [(.ref 50), (.ref 1)] (zs_105 L M N) _ _
  refine jb_seg 3 (pc' := 117) (ls' := [some (.ref 1), none]) (st' := [(.ref 2), (.ref 50), (.ref 50), (.ref 1)]) (σ' := (zs_105 L M N)) (G := []) rfl trivial ?_
  refine jb_new (rest := [(.ref 2), (.ref 50), (.ref 50), (.ref 1)]) rfl rfl ?_
  show jb_V Γ _ zq_125 120 [some (.ref 1), none] [(.ref 51), (.ref 2), (.ref 50), (.ref 50), (.ref 1)] (zs_106 L M N) _ _
  refine jb_seg 1 (pc' := 121) (ls' := [some (.ref 1), none]) (st' := [(.ref 51), (.ref 51), (.ref 2), (.ref 50), (.ref 50), (.ref 1)]) (σ' := (zs_106 L M N)) (G := []) rfl trivial ?_
  refine jb_callI (q' := zq_69) (b := 51) (As := []) (rest := [(.ref 51), (.ref 2), (.ref 50), (.ref 50), (.ref 1)]) (σ := (zs_106 L M N)) (σ1 := (zs_116 L M N)) (v := none) rfl (by decide) rfl rfl rfl zp_69 (jb_cat rfl) (Nat.le_of_ble_eq_true rfl) (Nat.le_of_ble_eq_true rfl) (Or.inr rfl) rfl (zi_9 (by omega)) ?_
  show jb_V Γ _ zq_125 124 [some (.ref 1), none] [(.ref 51), (.ref 2), (.ref 50), (.ref 50), (.ref 1)] (zs_116 L M N) _ _
  refine jb_callI (q' := zq_73) (b := 50) (As := [(.ref 2), (.ref 51)]) (rest := [(.ref 50), (.ref 1)]) (σ := (zs_116 L M N)) (σ1 := (zs_118 L M N)) (v := none) rfl (by decide) rfl rfl rfl zp_73 (jb_cat rfl) (Nat.le_of_ble_eq_true rfl) (Nat.le_of_ble_eq_true rfl) (Or.inr rfl) rfl (zi_10 (by omega)) ?_
  show jb_V Γ _ zq_125 127 [some (.ref 1), none] [(.ref 50), (.ref 1)] (zs_118 L M N) _ _
  refine jb_putR (rest := []) rfl rfl rfl rfl rfl rfl (by decide) (Nat.le_of_ble_eq_true rfl) ?_
  show jb_V Γ _ zq_125 130 [some (.ref 1), none] [] (zs_119 L M N) _ _
  refine jb_new (rest := []) rfl rfl ?_
  show jb_V Γ _ zq_125 133 [some (.ref 1), none] [(.ref 57)] (zs_120 L M N) _ _
  refine jb_seg 3 (pc' := 138) (ls' := [some (.ref 1), none]) (st' := [(.ref 44), (.ref 57), (.ref 57)]) (σ' := (zs_120 L M N)) (G := []) rfl trivial ?_
  refine jb_callI (q' := zq_62) (b := 57) (As := [(.ref 44)]) (rest := [(.ref 57)]) (σ := (zs_120 L M N)) (σ1 := (zs_125 L M N)) (v := none) rfl (by decide) rfl rfl rfl zp_62 (jb_cat rfl) (Nat.le_of_ble_eq_true rfl) (Nat.le_of_ble_eq_true rfl) (Or.inr rfl) rfl (zi_11 (by omega)) ?_
  show jb_V Γ _ zq_125 141 [some (.ref 1), none] [(.ref 57)] (zs_125 L M N) _ _
  refine jb_seg 2 (pc' := 143) (ls' := [some (.ref 1), some (.ref 57)]) (st' := [(.ref 1)]) (σ' := (zs_125 L M N)) (G := []) rfl trivial ?_
  refine jb_new (rest := [(.ref 1)]) rfl rfl ?_
  show jb_V Γ _ zq_125 146 [some (.ref 1), some (.ref 57)] [(.ref 60), (.ref 1)] (zs_126 L M N) _ _
  refine jb_seg 6 (pc' := 156) (ls' := [some (.ref 1), some (.ref 57)]) (st' := [(.ref 57), (.ref 34), (.ref 4), (.ref 60), (.ref 60), (.ref 1)]) (σ' := (zs_126 L M N)) (G := []) rfl trivial ?_
  refine jb_callI (q' := zq_118) (b := 60) (As := [(.ref 4), (.ref 34), (.ref 57)]) (rest := [(.ref 60), (.ref 1)]) (σ := (zs_126 L M N)) (σ1 := (zs_131 L M N)) (v := none) rfl (by decide) rfl rfl rfl zp_118 (jb_cat rfl) (Nat.le_of_ble_eq_true rfl) (Nat.le_of_ble_eq_true rfl) (Or.inr rfl) rfl (zi_12 (by omega)) ?_
  show jb_V Γ _ zq_125 159 [some (.ref 1), some (.ref 57)] [(.ref 60), (.ref 1)] (zs_131 L M N) _ _
  refine jb_putR (rest := []) rfl rfl rfl rfl rfl rfl (by decide) (Nat.le_of_ble_eq_true rfl) ?_
  show jb_V Γ _ zq_125 162 [some (.ref 1), some (.ref 57)] [] (zs_132 L M N) _ _
  refine jb_seg 1 (pc' := 163) (ls' := [some (.ref 1), some (.ref 57)]) (st' := [(.ref 1)]) (σ' := (zs_132 L M N)) (G := []) rfl trivial ?_
  refine jb_new (rest := [(.ref 1)]) rfl rfl ?_
  show jb_V Γ _ zq_125 166 [some (.ref 1), some (.ref 57)] [(.ref 62), (.ref 1)] (zs_133 L M N) _ _
  refine jb_seg 6 (pc' := 176) (ls' := [some (.ref 1), some (.ref 57)]) (st' := [(.ref 57), (.ref 34), (.ref 24), (.ref 62), (.ref 62), (.ref 1)]) (σ' := (zs_133 L M N)) (G := []) rfl trivial ?_
  refine jb_callI (q' := zq_118) (b := 62) (As := [(.ref 24), (.ref 34), (.ref 57)]) (rest := [(.ref 62), (.ref 1)]) (σ := (zs_133 L M N)) (σ1 := (zs_138 L M N)) (v := none) rfl (by decide) rfl rfl rfl zp_118 (jb_cat rfl) (Nat.le_of_ble_eq_true rfl) (Nat.le_of_ble_eq_true rfl) (Or.inr rfl) rfl (zi_13 (by omega)) ?_
  show jb_V Γ _ zq_125 179 [some (.ref 1), some (.ref 57)] [(.ref 62), (.ref 1)] (zs_138 L M N) _ _
  refine jb_putR (rest := []) rfl rfl rfl rfl rfl rfl (by decide) (Nat.le_of_ble_eq_true rfl) ?_
  show jb_V Γ _ zq_125 182 [some (.ref 1), some (.ref 57)] [] (zs_139 L M N) _ _
  refine jb_seg 1 (pc' := 183) (ls' := [some (.ref 1), some (.ref 57)]) (st' := [(.ref 1)]) (σ' := (zs_139 L M N)) (G := []) rfl trivial ?_
  refine jb_new (rest := [(.ref 1)]) rfl rfl ?_
  show jb_V Γ _ zq_125 186 [some (.ref 1), some (.ref 57)] [(.ref 64), (.ref 1)] (zs_140 L M N) _ _
  refine jb_seg 5 (pc' := 195) (ls' := [some (.ref 1), some (.ref 57)]) (st' := [(.ref 41), (.ref 4), (.ref 64), (.ref 64), (.ref 1)]) (σ' := (zs_140 L M N)) (G := []) rfl trivial ?_
  refine jb_callI (q' := zq_1) (b := 64) (As := [(.ref 4), (.ref 41)]) (rest := [(.ref 64), (.ref 1)]) (σ := (zs_140 L M N)) (σ1 := (zs_152 L M N)) (v := none) rfl (by decide) rfl rfl rfl zp_1 (jb_cat rfl) (Nat.le_of_ble_eq_true rfl) (Nat.le_of_ble_eq_true rfl) (Or.inr rfl) rfl (zi_14 (by omega)) ?_
  show jb_V Γ _ zq_125 198 [some (.ref 1), some (.ref 57)] [(.ref 64), (.ref 1)] (zs_152 L M N) _ _
  refine jb_putR (rest := []) rfl rfl rfl rfl rfl rfl (by decide) (Nat.le_of_ble_eq_true rfl) ?_
  show jb_V Γ _ zq_125 201 [some (.ref 1), some (.ref 57)] [] (zs_153 L M N) _ _
  refine jb_seg 1 (pc' := 202) (ls' := [some (.ref 1), some (.ref 57)]) (st' := [(.ref 1)]) (σ' := (zs_153 L M N)) (G := []) rfl trivial ?_
  refine jb_new (rest := [(.ref 1)]) rfl rfl ?_
  show jb_V Γ _ zq_125 205 [some (.ref 1), some (.ref 57)] [(.ref 70), (.ref 1)] (zs_154 L M N) _ _
  refine jb_seg 3 (pc' := 210) (ls' := [some (.ref 1), some (.ref 57)]) (st' := [(.ref 4), (.ref 70), (.ref 70), (.ref 1)]) (σ' := (zs_154 L M N)) (G := []) rfl trivial ?_
  refine jb_callI (q' := zq_48) (b := 70) (As := [(.ref 4)]) (rest := [(.ref 70), (.ref 1)]) (σ := (zs_154 L M N)) (σ1 := (zs_159 L M N)) (v := none) rfl (by decide) rfl rfl rfl zp_48 (jb_cat rfl) (Nat.le_of_ble_eq_true rfl) (Nat.le_of_ble_eq_true rfl) (Or.inr rfl) rfl (zi_15 (by omega)) ?_
  show jb_V Γ _ zq_125 213 [some (.ref 1), some (.ref 57)] [(.ref 70), (.ref 1)] (zs_159 L M N) _ _
  refine jb_putR (rest := []) rfl rfl rfl rfl rfl rfl (by decide) (Nat.le_of_ble_eq_true rfl) ?_
  show jb_V Γ _ zq_125 216 [some (.ref 1), some (.ref 57)] [] (zs_160 L M N) _ _
  refine jb_seg 1 (pc' := 217) (ls' := [some (.ref 1), some (.ref 57)]) (st' := [(.ref 1)]) (σ' := (zs_160 L M N)) (G := []) rfl trivial ?_
  refine jb_new (rest := [(.ref 1)]) rfl rfl ?_
  show jb_V Γ _ zq_125 220 [some (.ref 1), some (.ref 57)] [(.ref 73), (.ref 1)] (zs_161 L M N) _ _
  refine jb_seg 1 (pc' := 221) (ls' := [some (.ref 1), some (.ref 57)]) (st' := [(.ref 73), (.ref 73), (.ref 1)]) (σ' := (zs_161 L M N)) (G := []) rfl trivial ?_
  refine jb_callI (q' := zq_55) (b := 73) (As := []) (rest := [(.ref 73), (.ref 1)]) (σ := (zs_161 L M N)) (σ1 := (zs_171 L M N)) (v := none) rfl (by decide) rfl rfl rfl zp_55 (jb_cat rfl) (Nat.le_of_ble_eq_true rfl) (Nat.le_of_ble_eq_true rfl) (Or.inr rfl) rfl (zi_16 (by omega)) ?_
  show jb_V Γ _ zq_125 224 [some (.ref 1), some (.ref 57)] [(.ref 73), (.ref 1)] (zs_171 L M N) _ _
  refine jb_putR (rest := []) rfl rfl rfl rfl rfl rfl (by decide) (Nat.le_of_ble_eq_true rfl) ?_
  show jb_V Γ _ zq_125 227 [some (.ref 1), some (.ref 57)] [] (zs_172 L M N) _ _
  exact jb_retv rfl rfl
def zr_173 : jb_Rf := fun a => if a = 79 then (fun _ => 0) else zr_172 a
def zM_173 (M : jb_Mi) : jb_Mi := fun a => if a = 79 then (fun _ => 0) else zM_172 M a
def zN_173 (N : jb_Ml) : jb_Ml := fun a => if a = 79 then (fun _ => 0) else zN_172 N a
abbrev zs_173 (L : Nat) (M : jb_Mi) (N : jb_Ml) : jb_S := (((9, L) :: zE_sh.take 79, zr_173), zM_173 M, zN_173 N)
def zr_174 : jb_Rf := fun a => if a = 80 then (fun _ => 0) else zr_173 a
def zM_174 (M : jb_Mi) : jb_Mi := fun a => if a = 80 then (fun _ => 0) else zM_173 M a
def zN_174 (N : jb_Ml) : jb_Ml := fun a => if a = 80 then (fun _ => 0) else zN_173 N a
abbrev zs_174 (L : Nat) (M : jb_Mi) (N : jb_Ml) : jb_S := (((9, L) :: zE_sh.take 80, zr_174), zM_174 M, zN_174 N)
def zr_175 : jb_Rf := jb_ur zr_174 79 0 80
def zM_175 (M : jb_Mi) : jb_Mi := zM_174 M
def zN_175 (N : jb_Ml) : jb_Ml := zN_174 N
abbrev zs_175 (L : Nat) (M : jb_Mi) (N : jb_Ml) : jb_S := (((9, L) :: zE_sh.take 80, zr_175), zM_175 M, zN_175 N)
def zr_176 : jb_Rf := fun a => if a = 81 then (fun _ => 0) else zr_175 a
def zM_176 (M : jb_Mi) : jb_Mi := fun a => if a = 81 then (fun _ => 0) else zM_175 M a
def zN_176 (N : jb_Ml) : jb_Ml := fun a => if a = 81 then (fun _ => 0) else zN_175 N a
abbrev zs_176 (L : Nat) (M : jb_Mi) (N : jb_Ml) : jb_S := (((9, L) :: zE_sh.take 81, zr_176), zM_176 M, zN_176 N)
def zr_177 : jb_Rf := jb_ur zr_176 79 1 81
def zM_177 (M : jb_Mi) : jb_Mi := zM_176 M
def zN_177 (N : jb_Ml) : jb_Ml := zN_176 N
abbrev zs_177 (L : Nat) (M : jb_Mi) (N : jb_Ml) : jb_S := (((9, L) :: zE_sh.take 81, zr_177), zM_177 M, zN_177 N)
def zr_178 : jb_Rf := fun a => if a = 82 then (fun _ => 0) else zr_177 a
def zM_178 (M : jb_Mi) : jb_Mi := fun a => if a = 82 then (fun _ => 0) else zM_177 M a
def zN_178 (N : jb_Ml) : jb_Ml := fun a => if a = 82 then (fun _ => 0) else zN_177 N a
abbrev zs_178 (L : Nat) (M : jb_Mi) (N : jb_Ml) : jb_S := (((9, L) :: zE_sh.take 82, zr_178), zM_178 M, zN_178 N)
def zr_179 : jb_Rf := jb_ur zr_178 79 2 82
def zM_179 (M : jb_Mi) : jb_Mi := zM_178 M
def zN_179 (N : jb_Ml) : jb_Ml := zN_178 N
abbrev zs_179 (L : Nat) (M : jb_Mi) (N : jb_Ml) : jb_S := (((9, L) :: zE_sh.take 82, zr_179), zM_179 M, zN_179 N)
def zr_180 : jb_Rf := fun a => if a = 83 then (fun _ => 0) else zr_179 a
def zM_180 (M : jb_Mi) : jb_Mi := fun a => if a = 83 then (fun _ => 0) else zM_179 M a
def zN_180 (N : jb_Ml) : jb_Ml := fun a => if a = 83 then (fun _ => 0) else zN_179 N a
abbrev zs_180 (L : Nat) (M : jb_Mi) (N : jb_Ml) : jb_S := (((9, L) :: zE_sh.take 83, zr_180), zM_180 M, zN_180 N)
def zr_181 : jb_Rf := jb_ur zr_180 79 3 83
def zM_181 (M : jb_Mi) : jb_Mi := zM_180 M
def zN_181 (N : jb_Ml) : jb_Ml := zN_180 N
abbrev zs_181 (L : Nat) (M : jb_Mi) (N : jb_Ml) : jb_S := (((9, L) :: zE_sh.take 83, zr_181), zM_181 M, zN_181 N)
def zr_182 : jb_Rf := fun a => if a = 84 then (fun _ => 0) else zr_181 a
def zM_182 (M : jb_Mi) : jb_Mi := fun a => if a = 84 then (fun _ => 0) else zM_181 M a
def zN_182 (N : jb_Ml) : jb_Ml := fun a => if a = 84 then (fun _ => 0) else zN_181 N a
abbrev zs_182 (L : Nat) (M : jb_Mi) (N : jb_Ml) : jb_S := (((9, L) :: zE_sh.take 84, zr_182), zM_182 M, zN_182 N)
def zr_183 : jb_Rf := jb_ur zr_182 79 14 84
def zM_183 (M : jb_Mi) : jb_Mi := zM_182 M
def zN_183 (N : jb_Ml) : jb_Ml := zN_182 N
abbrev zs_183 (L : Nat) (M : jb_Mi) (N : jb_Ml) : jb_S := (((9, L) :: zE_sh.take 84, zr_183), zM_183 M, zN_183 N)
def zr_184 : jb_Rf := fun a => if a = 85 then (fun _ => 0) else zr_183 a
def zM_184 (M : jb_Mi) : jb_Mi := fun a => if a = 85 then (fun _ => 0) else zM_183 M a
def zN_184 (N : jb_Ml) : jb_Ml := fun a => if a = 85 then (fun _ => 0) else zN_183 N a
abbrev zs_184 (L : Nat) (M : jb_Mi) (N : jb_Ml) : jb_S := (((9, L) :: zE_sh.take 85, zr_184), zM_184 M, zN_184 N)
def zr_185 : jb_Rf := jb_ur zr_184 79 15 85
def zM_185 (M : jb_Mi) : jb_Mi := zM_184 M
def zN_185 (N : jb_Ml) : jb_Ml := zN_184 N
abbrev zs_185 (L : Nat) (M : jb_Mi) (N : jb_Ml) : jb_S := (((9, L) :: zE_sh.take 85, zr_185), zM_185 M, zN_185 N)
def zr_186 : jb_Rf := fun a => if a = 86 then (fun _ => 0) else zr_185 a
def zM_186 (M : jb_Mi) : jb_Mi := fun a => if a = 86 then (fun _ => 0) else zM_185 M a
def zN_186 (N : jb_Ml) : jb_Ml := fun a => if a = 86 then (fun _ => 0) else zN_185 N a
abbrev zs_186 (L : Nat) (M : jb_Mi) (N : jb_Ml) : jb_S := (((9, L) :: zE_sh.take 86, zr_186), zM_186 M, zN_186 N)
def zr_187 : jb_Rf := jb_ur zr_186 79 16 86
def zM_187 (M : jb_Mi) : jb_Mi := zM_186 M
def zN_187 (N : jb_Ml) : jb_Ml := zN_186 N
abbrev zs_187 (L : Nat) (M : jb_Mi) (N : jb_Ml) : jb_S := (((9, L) :: zE_sh.take 86, zr_187), zM_187 M, zN_187 N)
def zr_188 : jb_Rf := fun a => if a = 87 then (fun _ => 0) else zr_187 a
def zM_188 (M : jb_Mi) : jb_Mi := fun a => if a = 87 then (fun _ => 0) else zM_187 M a
def zN_188 (N : jb_Ml) : jb_Ml := fun a => if a = 87 then (fun _ => 0) else zN_187 N a
abbrev zs_188 (L : Nat) (M : jb_Mi) (N : jb_Ml) : jb_S := (((9, L) :: zE_sh.take 87, zr_188), zM_188 M, zN_188 N)
def zr_189 : jb_Rf := jb_ur zr_188 79 17 87
def zM_189 (M : jb_Mi) : jb_Mi := zM_188 M
def zN_189 (N : jb_Ml) : jb_Ml := zN_188 N
abbrev zs_189 (L : Nat) (M : jb_Mi) (N : jb_Ml) : jb_S := (((9, L) :: zE_sh.take 87, zr_189), zM_189 M, zN_189 N)
def zr_190 : jb_Rf := fun a => if a = 88 then (fun _ => 0) else zr_189 a
def zM_190 (M : jb_Mi) : jb_Mi := fun a => if a = 88 then (fun _ => 0) else zM_189 M a
def zN_190 (N : jb_Ml) : jb_Ml := fun a => if a = 88 then (fun _ => 0) else zN_189 N a
abbrev zs_190 (L : Nat) (M : jb_Mi) (N : jb_Ml) : jb_S := (((9, L) :: zE_sh.take 88, zr_190), zM_190 M, zN_190 N)
def zr_191 : jb_Rf := jb_ur zr_190 79 18 88
def zM_191 (M : jb_Mi) : jb_Mi := zM_190 M
def zN_191 (N : jb_Ml) : jb_Ml := zN_190 N
abbrev zs_191 (L : Nat) (M : jb_Mi) (N : jb_Ml) : jb_S := (((9, L) :: zE_sh.take 88, zr_191), zM_191 M, zN_191 N)
def zr_192 : jb_Rf := fun a => if a = 89 then (fun _ => 0) else zr_191 a
def zM_192 (M : jb_Mi) : jb_Mi := fun a => if a = 89 then (fun _ => 0) else zM_191 M a
def zN_192 (N : jb_Ml) : jb_Ml := fun a => if a = 89 then (fun _ => 0) else zN_191 N a
abbrev zs_192 (L : Nat) (M : jb_Mi) (N : jb_Ml) : jb_S := (((9, L) :: zE_sh.take 89, zr_192), zM_192 M, zN_192 N)
def zr_193 : jb_Rf := jb_ur zr_192 79 19 89
def zM_193 (M : jb_Mi) : jb_Mi := zM_192 M
def zN_193 (N : jb_Ml) : jb_Ml := zN_192 N
abbrev zs_193 (L : Nat) (M : jb_Mi) (N : jb_Ml) : jb_S := (((9, L) :: zE_sh.take 89, zr_193), zM_193 M, zN_193 N)
def zr_194 : jb_Rf := fun a => if a = 90 then (fun _ => 0) else zr_193 a
def zM_194 (M : jb_Mi) : jb_Mi := fun a => if a = 90 then (fun _ => 0) else zM_193 M a
def zN_194 (N : jb_Ml) : jb_Ml := fun a => if a = 90 then (fun _ => 0) else zN_193 N a
abbrev zs_194 (L : Nat) (M : jb_Mi) (N : jb_Ml) : jb_S := (((9, L) :: zE_sh.take 90, zr_194), zM_194 M, zN_194 N)
def zr_195 : jb_Rf := jb_ur zr_194 79 20 90
def zM_195 (M : jb_Mi) : jb_Mi := zM_194 M
def zN_195 (N : jb_Ml) : jb_Ml := zN_194 N
abbrev zs_195 (L : Nat) (M : jb_Mi) (N : jb_Ml) : jb_S := (((9, L) :: zE_sh.take 90, zr_195), zM_195 M, zN_195 N)
def zr_196 : jb_Rf := fun a => if a = 91 then (fun _ => 0) else zr_195 a
def zM_196 (M : jb_Mi) : jb_Mi := fun a => if a = 91 then (fun _ => 0) else zM_195 M a
def zN_196 (N : jb_Ml) : jb_Ml := fun a => if a = 91 then (fun _ => 0) else zN_195 N a
abbrev zs_196 (L : Nat) (M : jb_Mi) (N : jb_Ml) : jb_S := (((9, L) :: zE_sh.take 91, zr_196), zM_196 M, zN_196 N)
def zr_197 : jb_Rf := jb_ur zr_196 79 21 91
def zM_197 (M : jb_Mi) : jb_Mi := zM_196 M
def zN_197 (N : jb_Ml) : jb_Ml := zN_196 N
abbrev zs_197 (L : Nat) (M : jb_Mi) (N : jb_Ml) : jb_S := (((9, L) :: zE_sh.take 91, zr_197), zM_197 M, zN_197 N)
def zr_198 : jb_Rf := fun a => if a = 92 then (fun _ => 0) else zr_197 a
def zM_198 (M : jb_Mi) : jb_Mi := fun a => if a = 92 then (fun _ => 0) else zM_197 M a
def zN_198 (N : jb_Ml) : jb_Ml := fun a => if a = 92 then (fun _ => 0) else zN_197 N a
abbrev zs_198 (L : Nat) (M : jb_Mi) (N : jb_Ml) : jb_S := (((9, L) :: zE_sh.take 92, zr_198), zM_198 M, zN_198 N)
def zr_199 : jb_Rf := jb_ur zr_198 79 22 92
def zM_199 (M : jb_Mi) : jb_Mi := zM_198 M
def zN_199 (N : jb_Ml) : jb_Ml := zN_198 N
abbrev zs_199 (L : Nat) (M : jb_Mi) (N : jb_Ml) : jb_S := (((9, L) :: zE_sh.take 92, zr_199), zM_199 M, zN_199 N)
def zr_200 : jb_Rf := fun a => if a = 93 then (fun _ => 0) else zr_199 a
def zM_200 (M : jb_Mi) : jb_Mi := fun a => if a = 93 then (fun _ => 0) else zM_199 M a
def zN_200 (N : jb_Ml) : jb_Ml := fun a => if a = 93 then (fun _ => 0) else zN_199 N a
abbrev zs_200 (L : Nat) (M : jb_Mi) (N : jb_Ml) : jb_S := (((9, L) :: zE_sh.take 93, zr_200), zM_200 M, zN_200 N)
def zr_201 : jb_Rf := jb_ur zr_200 79 23 93
def zM_201 (M : jb_Mi) : jb_Mi := zM_200 M
def zN_201 (N : jb_Ml) : jb_Ml := zN_200 N
abbrev zs_201 (L : Nat) (M : jb_Mi) (N : jb_Ml) : jb_S := (((9, L) :: zE_sh.take 93, zr_201), zM_201 M, zN_201 N)
def zr_202 : jb_Rf := fun a => if a = 94 then (fun _ => 0) else zr_201 a
def zM_202 (M : jb_Mi) : jb_Mi := fun a => if a = 94 then (fun _ => 0) else zM_201 M a
def zN_202 (N : jb_Ml) : jb_Ml := fun a => if a = 94 then (fun _ => 0) else zN_201 N a
abbrev zs_202 (L : Nat) (M : jb_Mi) (N : jb_Ml) : jb_S := (((9, L) :: zE_sh.take 94, zr_202), zM_202 M, zN_202 N)
def zr_203 : jb_Rf := jb_ur zr_202 79 24 94
def zM_203 (M : jb_Mi) : jb_Mi := zM_202 M
def zN_203 (N : jb_Ml) : jb_Ml := zN_202 N
abbrev zs_203 (L : Nat) (M : jb_Mi) (N : jb_Ml) : jb_S := (((9, L) :: zE_sh.take 94, zr_203), zM_203 M, zN_203 N)
def zr_204 : jb_Rf := fun a => if a = 95 then (fun _ => 0) else zr_203 a
def zM_204 (M : jb_Mi) : jb_Mi := fun a => if a = 95 then (fun _ => 0) else zM_203 M a
def zN_204 (N : jb_Ml) : jb_Ml := fun a => if a = 95 then (fun _ => 0) else zN_203 N a
abbrev zs_204 (L : Nat) (M : jb_Mi) (N : jb_Ml) : jb_S := (((9, L) :: zE_sh.take 95, zr_204), zM_204 M, zN_204 N)
def zr_205 : jb_Rf := jb_ur zr_204 79 25 95
def zM_205 (M : jb_Mi) : jb_Mi := zM_204 M
def zN_205 (N : jb_Ml) : jb_Ml := zN_204 N
abbrev zs_205 (L : Nat) (M : jb_Mi) (N : jb_Ml) : jb_S := (((9, L) :: zE_sh.take 95, zr_205), zM_205 M, zN_205 N)
def zr_206 : jb_Rf := fun a => if a = 96 then (fun _ => 0) else zr_205 a
def zM_206 (M : jb_Mi) : jb_Mi := fun a => if a = 96 then (fun _ => 0) else zM_205 M a
def zN_206 (N : jb_Ml) : jb_Ml := fun a => if a = 96 then (fun _ => 0) else zN_205 N a
abbrev zs_206 (L : Nat) (M : jb_Mi) (N : jb_Ml) : jb_S := (((9, L) :: zE_sh.take 96, zr_206), zM_206 M, zN_206 N)
def zr_207 : jb_Rf := jb_ur zr_206 79 26 96
def zM_207 (M : jb_Mi) : jb_Mi := zM_206 M
def zN_207 (N : jb_Ml) : jb_Ml := zN_206 N
abbrev zs_207 (L : Nat) (M : jb_Mi) (N : jb_Ml) : jb_S := (((9, L) :: zE_sh.take 96, zr_207), zM_207 M, zN_207 N)
def zr_208 : jb_Rf := fun a => if a = 97 then (fun _ => 0) else zr_207 a
def zM_208 (M : jb_Mi) : jb_Mi := fun a => if a = 97 then (fun _ => 0) else zM_207 M a
def zN_208 (N : jb_Ml) : jb_Ml := fun a => if a = 97 then (fun _ => 0) else zN_207 N a
abbrev zs_208 (L : Nat) (M : jb_Mi) (N : jb_Ml) : jb_S := (((9, L) :: zE_sh.take 97, zr_208), zM_208 M, zN_208 N)
def zr_209 : jb_Rf := jb_ur zr_208 79 27 97
def zM_209 (M : jb_Mi) : jb_Mi := zM_208 M
def zN_209 (N : jb_Ml) : jb_Ml := zN_208 N
abbrev zs_209 (L : Nat) (M : jb_Mi) (N : jb_Ml) : jb_S := (((9, L) :: zE_sh.take 97, zr_209), zM_209 M, zN_209 N)
def zr_210 : jb_Rf := fun a => if a = 98 then (fun _ => 0) else zr_209 a
def zM_210 (M : jb_Mi) : jb_Mi := fun a => if a = 98 then (fun _ => 0) else zM_209 M a
def zN_210 (N : jb_Ml) : jb_Ml := fun a => if a = 98 then (fun _ => 0) else zN_209 N a
abbrev zs_210 (L : Nat) (M : jb_Mi) (N : jb_Ml) : jb_S := (((9, L) :: zE_sh.take 98, zr_210), zM_210 M, zN_210 N)
def zr_211 : jb_Rf := jb_ur zr_210 79 28 98
def zM_211 (M : jb_Mi) : jb_Mi := zM_210 M
def zN_211 (N : jb_Ml) : jb_Ml := zN_210 N
abbrev zs_211 (L : Nat) (M : jb_Mi) (N : jb_Ml) : jb_S := (((9, L) :: zE_sh.take 98, zr_211), zM_211 M, zN_211 N)
def zr_212 : jb_Rf := fun a => if a = 99 then (fun _ => 0) else zr_211 a
def zM_212 (M : jb_Mi) : jb_Mi := fun a => if a = 99 then (fun _ => 0) else zM_211 M a
def zN_212 (N : jb_Ml) : jb_Ml := fun a => if a = 99 then (fun _ => 0) else zN_211 N a
abbrev zs_212 (L : Nat) (M : jb_Mi) (N : jb_Ml) : jb_S := (((9, L) :: zE_sh.take 99, zr_212), zM_212 M, zN_212 N)
def zr_213 : jb_Rf := jb_ur zr_212 79 29 99
def zM_213 (M : jb_Mi) : jb_Mi := zM_212 M
def zN_213 (N : jb_Ml) : jb_Ml := zN_212 N
abbrev zs_213 (L : Nat) (M : jb_Mi) (N : jb_Ml) : jb_S := (((9, L) :: zE_sh.take 99, zr_213), zM_213 M, zN_213 N)
def zr_214 : jb_Rf := fun a => if a = 100 then (fun _ => 0) else zr_213 a
def zM_214 (M : jb_Mi) : jb_Mi := fun a => if a = 100 then (fun _ => 0) else zM_213 M a
def zN_214 (N : jb_Ml) : jb_Ml := fun a => if a = 100 then (fun _ => 0) else zN_213 N a
abbrev zs_214 (L : Nat) (M : jb_Mi) (N : jb_Ml) : jb_S := (((9, L) :: zE_sh.take 100, zr_214), zM_214 M, zN_214 N)
def zr_215 : jb_Rf := jb_ur zr_214 79 30 100
def zM_215 (M : jb_Mi) : jb_Mi := zM_214 M
def zN_215 (N : jb_Ml) : jb_Ml := zN_214 N
abbrev zs_215 (L : Nat) (M : jb_Mi) (N : jb_Ml) : jb_S := (((9, L) :: zE_sh.take 100, zr_215), zM_215 M, zN_215 N)
def zr_216 : jb_Rf := fun a => if a = 101 then (fun _ => 0) else zr_215 a
def zM_216 (M : jb_Mi) : jb_Mi := fun a => if a = 101 then (fun _ => 0) else zM_215 M a
def zN_216 (N : jb_Ml) : jb_Ml := fun a => if a = 101 then (fun _ => 0) else zN_215 N a
abbrev zs_216 (L : Nat) (M : jb_Mi) (N : jb_Ml) : jb_S := (((9, L) :: zE_sh.take 101, zr_216), zM_216 M, zN_216 N)
def zr_217 : jb_Rf := jb_ur zr_216 79 31 101
def zM_217 (M : jb_Mi) : jb_Mi := zM_216 M
def zN_217 (N : jb_Ml) : jb_Ml := zN_216 N
abbrev zs_217 (L : Nat) (M : jb_Mi) (N : jb_Ml) : jb_S := (((9, L) :: zE_sh.take 101, zr_217), zM_217 M, zN_217 N)
def zr_218 : jb_Rf := fun a => if a = 102 then (fun _ => 0) else zr_217 a
def zM_218 (M : jb_Mi) : jb_Mi := fun a => if a = 102 then (fun _ => 0) else zM_217 M a
def zN_218 (N : jb_Ml) : jb_Ml := fun a => if a = 102 then (fun _ => 0) else zN_217 N a
abbrev zs_218 (L : Nat) (M : jb_Mi) (N : jb_Ml) : jb_S := (((9, L) :: zE_sh.take 102, zr_218), zM_218 M, zN_218 N)
def zr_219 : jb_Rf := jb_ur zr_218 79 32 102
def zM_219 (M : jb_Mi) : jb_Mi := zM_218 M
def zN_219 (N : jb_Ml) : jb_Ml := zN_218 N
abbrev zs_219 (L : Nat) (M : jb_Mi) (N : jb_Ml) : jb_S := (((9, L) :: zE_sh.take 102, zr_219), zM_219 M, zN_219 N)
def zr_220 : jb_Rf := fun a => if a = 103 then (fun _ => 0) else zr_219 a
def zM_220 (M : jb_Mi) : jb_Mi := fun a => if a = 103 then (fun _ => 0) else zM_219 M a
def zN_220 (N : jb_Ml) : jb_Ml := fun a => if a = 103 then (fun _ => 0) else zN_219 N a
abbrev zs_220 (L : Nat) (M : jb_Mi) (N : jb_Ml) : jb_S := (((9, L) :: zE_sh.take 103, zr_220), zM_220 M, zN_220 N)
def zr_221 : jb_Rf := jb_ur zr_220 79 45 103
def zM_221 (M : jb_Mi) : jb_Mi := zM_220 M
def zN_221 (N : jb_Ml) : jb_Ml := zN_220 N
abbrev zs_221 (L : Nat) (M : jb_Mi) (N : jb_Ml) : jb_S := (((9, L) :: zE_sh.take 103, zr_221), zM_221 M, zN_221 N)
def zr_222 : jb_Rf := fun a => if a = 104 then (fun _ => 0) else zr_221 a
def zM_222 (M : jb_Mi) : jb_Mi := fun a => if a = 104 then (fun _ => 0) else zM_221 M a
def zN_222 (N : jb_Ml) : jb_Ml := fun a => if a = 104 then (fun _ => 0) else zN_221 N a
abbrev zs_222 (L : Nat) (M : jb_Mi) (N : jb_Ml) : jb_S := (((9, L) :: zE_sh.take 104, zr_222), zM_222 M, zN_222 N)
def zr_223 : jb_Rf := jb_ur zr_222 79 46 104
def zM_223 (M : jb_Mi) : jb_Mi := zM_222 M
def zN_223 (N : jb_Ml) : jb_Ml := zN_222 N
abbrev zs_223 (L : Nat) (M : jb_Mi) (N : jb_Ml) : jb_S := (((9, L) :: zE_sh.take 104, zr_223), zM_223 M, zN_223 N)
def zr_224 : jb_Rf := fun a => if a = 105 then (fun _ => 0) else zr_223 a
def zM_224 (M : jb_Mi) : jb_Mi := fun a => if a = 105 then (fun _ => 0) else zM_223 M a
def zN_224 (N : jb_Ml) : jb_Ml := fun a => if a = 105 then (fun _ => 0) else zN_223 N a
abbrev zs_224 (L : Nat) (M : jb_Mi) (N : jb_Ml) : jb_S := (((9, L) :: zE_sh.take 105, zr_224), zM_224 M, zN_224 N)
def zr_225 : jb_Rf := jb_ur zr_224 79 47 105
def zM_225 (M : jb_Mi) : jb_Mi := zM_224 M
def zN_225 (N : jb_Ml) : jb_Ml := zN_224 N
abbrev zs_225 (L : Nat) (M : jb_Mi) (N : jb_Ml) : jb_S := (((9, L) :: zE_sh.take 105, zr_225), zM_225 M, zN_225 N)
def zr_226 : jb_Rf := fun a => if a = 106 then (fun _ => 0) else zr_225 a
def zM_226 (M : jb_Mi) : jb_Mi := fun a => if a = 106 then (fun _ => 0) else zM_225 M a
def zN_226 (N : jb_Ml) : jb_Ml := fun a => if a = 106 then (fun _ => 0) else zN_225 N a
abbrev zs_226 (L : Nat) (M : jb_Mi) (N : jb_Ml) : jb_S := (((9, L) :: zE_sh.take 106, zr_226), zM_226 M, zN_226 N)
def zr_227 : jb_Rf := jb_ur zr_226 79 48 106
def zM_227 (M : jb_Mi) : jb_Mi := zM_226 M
def zN_227 (N : jb_Ml) : jb_Ml := zN_226 N
abbrev zs_227 (L : Nat) (M : jb_Mi) (N : jb_Ml) : jb_S := (((9, L) :: zE_sh.take 106, zr_227), zM_227 M, zN_227 N)
def zr_228 : jb_Rf := fun a => if a = 107 then (fun _ => 0) else zr_227 a
def zM_228 (M : jb_Mi) : jb_Mi := fun a => if a = 107 then (fun _ => 0) else zM_227 M a
def zN_228 (N : jb_Ml) : jb_Ml := fun a => if a = 107 then (fun _ => 0) else zN_227 N a
abbrev zs_228 (L : Nat) (M : jb_Mi) (N : jb_Ml) : jb_S := (((9, L) :: zE_sh.take 107, zr_228), zM_228 M, zN_228 N)
def zr_229 : jb_Rf := jb_ur zr_228 79 51 107
def zM_229 (M : jb_Mi) : jb_Mi := zM_228 M
def zN_229 (N : jb_Ml) : jb_Ml := zN_228 N
abbrev zs_229 (L : Nat) (M : jb_Mi) (N : jb_Ml) : jb_S := (((9, L) :: zE_sh.take 107, zr_229), zM_229 M, zN_229 N)
def zr_230 : jb_Rf := fun a => if a = 108 then (fun _ => 0) else zr_229 a
def zM_230 (M : jb_Mi) : jb_Mi := fun a => if a = 108 then (fun _ => 0) else zM_229 M a
def zN_230 (N : jb_Ml) : jb_Ml := fun a => if a = 108 then (fun _ => 0) else zN_229 N a
abbrev zs_230 (L : Nat) (M : jb_Mi) (N : jb_Ml) : jb_S := (((9, L) :: zE_sh.take 108, zr_230), zM_230 M, zN_230 N)
def zr_231 : jb_Rf := jb_ur zr_230 79 52 108
def zM_231 (M : jb_Mi) : jb_Mi := zM_230 M
def zN_231 (N : jb_Ml) : jb_Ml := zN_230 N
abbrev zs_231 (L : Nat) (M : jb_Mi) (N : jb_Ml) : jb_S := (((9, L) :: zE_sh.take 108, zr_231), zM_231 M, zN_231 N)
def zr_232 : jb_Rf := fun a => if a = 109 then (fun _ => 0) else zr_231 a
def zM_232 (M : jb_Mi) : jb_Mi := fun a => if a = 109 then (fun _ => 0) else zM_231 M a
def zN_232 (N : jb_Ml) : jb_Ml := fun a => if a = 109 then (fun _ => 0) else zN_231 N a
abbrev zs_232 (L : Nat) (M : jb_Mi) (N : jb_Ml) : jb_S := (((9, L) :: zE_sh.take 109, zr_232), zM_232 M, zN_232 N)
def zr_233 : jb_Rf := jb_ur zr_232 79 53 109
def zM_233 (M : jb_Mi) : jb_Mi := zM_232 M
def zN_233 (N : jb_Ml) : jb_Ml := zN_232 N
abbrev zs_233 (L : Nat) (M : jb_Mi) (N : jb_Ml) : jb_S := (((9, L) :: zE_sh.take 109, zr_233), zM_233 M, zN_233 N)
def zr_234 : jb_Rf := fun a => if a = 110 then (fun _ => 0) else zr_233 a
def zM_234 (M : jb_Mi) : jb_Mi := fun a => if a = 110 then (fun _ => 0) else zM_233 M a
def zN_234 (N : jb_Ml) : jb_Ml := fun a => if a = 110 then (fun _ => 0) else zN_233 N a
abbrev zs_234 (L : Nat) (M : jb_Mi) (N : jb_Ml) : jb_S := (((9, L) :: zE_sh.take 110, zr_234), zM_234 M, zN_234 N)
def zr_235 : jb_Rf := jb_ur zr_234 79 54 110
def zM_235 (M : jb_Mi) : jb_Mi := zM_234 M
def zN_235 (N : jb_Ml) : jb_Ml := zN_234 N
abbrev zs_235 (L : Nat) (M : jb_Mi) (N : jb_Ml) : jb_S := (((9, L) :: zE_sh.take 110, zr_235), zM_235 M, zN_235 N)
def zr_236 : jb_Rf := fun a => if a = 111 then (fun _ => 0) else zr_235 a
def zM_236 (M : jb_Mi) : jb_Mi := fun a => if a = 111 then (fun _ => 0) else zM_235 M a
def zN_236 (N : jb_Ml) : jb_Ml := fun a => if a = 111 then (fun _ => 0) else zN_235 N a
abbrev zs_236 (L : Nat) (M : jb_Mi) (N : jb_Ml) : jb_S := (((9, L) :: zE_sh.take 111, zr_236), zM_236 M, zN_236 N)
def zr_237 : jb_Rf := jb_ur zr_236 79 55 111
def zM_237 (M : jb_Mi) : jb_Mi := zM_236 M
def zN_237 (N : jb_Ml) : jb_Ml := zN_236 N
abbrev zs_237 (L : Nat) (M : jb_Mi) (N : jb_Ml) : jb_S := (((9, L) :: zE_sh.take 111, zr_237), zM_237 M, zN_237 N)
def zr_238 : jb_Rf := fun a => if a = 112 then (fun _ => 0) else zr_237 a
def zM_238 (M : jb_Mi) : jb_Mi := fun a => if a = 112 then (fun _ => 0) else zM_237 M a
def zN_238 (N : jb_Ml) : jb_Ml := fun a => if a = 112 then (fun _ => 0) else zN_237 N a
abbrev zs_238 (L : Nat) (M : jb_Mi) (N : jb_Ml) : jb_S := (((9, L) :: zE_sh.take 112, zr_238), zM_238 M, zN_238 N)
def zr_239 : jb_Rf := jb_ur zr_238 79 56 112
def zM_239 (M : jb_Mi) : jb_Mi := zM_238 M
def zN_239 (N : jb_Ml) : jb_Ml := zN_238 N
abbrev zs_239 (L : Nat) (M : jb_Mi) (N : jb_Ml) : jb_S := (((9, L) :: zE_sh.take 112, zr_239), zM_239 M, zN_239 N)
def zr_240 : jb_Rf := zr_239
def zM_240 (M : jb_Mi) : jb_Mi := jb_up (zM_239 M) 80 148 1
def zN_240 (N : jb_Ml) : jb_Ml := zN_239 N
abbrev zs_240 (L : Nat) (M : jb_Mi) (N : jb_Ml) : jb_S := (((9, L) :: zE_sh.take 112, zr_240), zM_240 M, zN_240 N)
def zr_241 : jb_Rf := zr_240
def zM_241 (M : jb_Mi) : jb_Mi := jb_up (zM_240 M) 80 18 (-1)
def zN_241 (N : jb_Ml) : jb_Ml := zN_240 N
abbrev zs_241 (L : Nat) (M : jb_Mi) (N : jb_Ml) : jb_S := (((9, L) :: zE_sh.take 112, zr_241), zM_241 M, zN_241 N)
def zr_242 : jb_Rf := zr_241
def zM_242 (M : jb_Mi) : jb_Mi := jb_up (zM_241 M) 80 19 (-1)
def zN_242 (N : jb_Ml) : jb_Ml := zN_241 N
abbrev zs_242 (L : Nat) (M : jb_Mi) (N : jb_Ml) : jb_S := (((9, L) :: zE_sh.take 112, zr_242), zM_242 M, zN_242 N)
def zr_243 : jb_Rf := zr_242
def zM_243 (M : jb_Mi) : jb_Mi := jb_up (zM_242 M) 80 20 (-1)
def zN_243 (N : jb_Ml) : jb_Ml := zN_242 N
abbrev zs_243 (L : Nat) (M : jb_Mi) (N : jb_Ml) : jb_S := (((9, L) :: zE_sh.take 112, zr_243), zM_243 M, zN_243 N)
def zr_244 : jb_Rf := zr_243
def zM_244 (M : jb_Mi) : jb_Mi := jb_up (zM_243 M) 80 21 (-1)
def zN_244 (N : jb_Ml) : jb_Ml := zN_243 N
abbrev zs_244 (L : Nat) (M : jb_Mi) (N : jb_Ml) : jb_S := (((9, L) :: zE_sh.take 112, zr_244), zM_244 M, zN_244 N)
def zr_245 : jb_Rf := zr_244
def zM_245 (M : jb_Mi) : jb_Mi := jb_up (zM_244 M) 80 22 (-1)
def zN_245 (N : jb_Ml) : jb_Ml := zN_244 N
abbrev zs_245 (L : Nat) (M : jb_Mi) (N : jb_Ml) : jb_S := (((9, L) :: zE_sh.take 112, zr_245), zM_245 M, zN_245 N)
def zr_246 : jb_Rf := zr_245
def zM_246 (M : jb_Mi) : jb_Mi := jb_up (zM_245 M) 80 23 (-1)
def zN_246 (N : jb_Ml) : jb_Ml := zN_245 N
abbrev zs_246 (L : Nat) (M : jb_Mi) (N : jb_Ml) : jb_S := (((9, L) :: zE_sh.take 112, zr_246), zM_246 M, zN_246 N)
def zr_247 : jb_Rf := zr_246
def zM_247 (M : jb_Mi) : jb_Mi := jb_up (zM_246 M) 80 24 (-1)
def zN_247 (N : jb_Ml) : jb_Ml := zN_246 N
abbrev zs_247 (L : Nat) (M : jb_Mi) (N : jb_Ml) : jb_S := (((9, L) :: zE_sh.take 112, zr_247), zM_247 M, zN_247 N)
def zr_248 : jb_Rf := zr_247
def zM_248 (M : jb_Mi) : jb_Mi := jb_up (zM_247 M) 80 25 (-1)
def zN_248 (N : jb_Ml) : jb_Ml := zN_247 N
abbrev zs_248 (L : Nat) (M : jb_Mi) (N : jb_Ml) : jb_S := (((9, L) :: zE_sh.take 112, zr_248), zM_248 M, zN_248 N)
def zr_249 : jb_Rf := zr_248
def zM_249 (M : jb_Mi) : jb_Mi := jb_up (zM_248 M) 80 26 (-1)
def zN_249 (N : jb_Ml) : jb_Ml := zN_248 N
abbrev zs_249 (L : Nat) (M : jb_Mi) (N : jb_Ml) : jb_S := (((9, L) :: zE_sh.take 112, zr_249), zM_249 M, zN_249 N)
def zr_250 : jb_Rf := zr_249
def zM_250 (M : jb_Mi) : jb_Mi := jb_up (zM_249 M) 80 27 (-1)
def zN_250 (N : jb_Ml) : jb_Ml := zN_249 N
abbrev zs_250 (L : Nat) (M : jb_Mi) (N : jb_Ml) : jb_S := (((9, L) :: zE_sh.take 112, zr_250), zM_250 M, zN_250 N)
def zr_251 : jb_Rf := zr_250
def zM_251 (M : jb_Mi) : jb_Mi := jb_up (zM_250 M) 80 28 (-1)
def zN_251 (N : jb_Ml) : jb_Ml := zN_250 N
abbrev zs_251 (L : Nat) (M : jb_Mi) (N : jb_Ml) : jb_S := (((9, L) :: zE_sh.take 112, zr_251), zM_251 M, zN_251 N)
def zr_252 : jb_Rf := zr_251
def zM_252 (M : jb_Mi) : jb_Mi := jb_up (zM_251 M) 80 29 (-1)
def zN_252 (N : jb_Ml) : jb_Ml := zN_251 N
abbrev zs_252 (L : Nat) (M : jb_Mi) (N : jb_Ml) : jb_S := (((9, L) :: zE_sh.take 112, zr_252), zM_252 M, zN_252 N)
def zr_253 : jb_Rf := zr_252
def zM_253 (M : jb_Mi) : jb_Mi := jb_up (zM_252 M) 80 30 (-1)
def zN_253 (N : jb_Ml) : jb_Ml := zN_252 N
abbrev zs_253 (L : Nat) (M : jb_Mi) (N : jb_Ml) : jb_S := (((9, L) :: zE_sh.take 112, zr_253), zM_253 M, zN_253 N)
def zr_254 : jb_Rf := zr_253
def zM_254 (M : jb_Mi) : jb_Mi := jb_up (zM_253 M) 80 31 (-1)
def zN_254 (N : jb_Ml) : jb_Ml := zN_253 N
abbrev zs_254 (L : Nat) (M : jb_Mi) (N : jb_Ml) : jb_S := (((9, L) :: zE_sh.take 112, zr_254), zM_254 M, zN_254 N)
def zr_255 : jb_Rf := zr_254
def zM_255 (M : jb_Mi) : jb_Mi := jb_up (zM_254 M) 80 32 (-1)
def zN_255 (N : jb_Ml) : jb_Ml := zN_254 N
abbrev zs_255 (L : Nat) (M : jb_Mi) (N : jb_Ml) : jb_S := (((9, L) :: zE_sh.take 112, zr_255), zM_255 M, zN_255 N)
def zr_256 : jb_Rf := zr_255
def zM_256 (M : jb_Mi) : jb_Mi := jb_up (zM_255 M) 80 33 (-1)
def zN_256 (N : jb_Ml) : jb_Ml := zN_255 N
abbrev zs_256 (L : Nat) (M : jb_Mi) (N : jb_Ml) : jb_S := (((9, L) :: zE_sh.take 112, zr_256), zM_256 M, zN_256 N)
def zr_257 : jb_Rf := zr_256
def zM_257 (M : jb_Mi) : jb_Mi := jb_up (zM_256 M) 80 34 (-1)
def zN_257 (N : jb_Ml) : jb_Ml := zN_256 N
abbrev zs_257 (L : Nat) (M : jb_Mi) (N : jb_Ml) : jb_S := (((9, L) :: zE_sh.take 112, zr_257), zM_257 M, zN_257 N)
def zr_258 : jb_Rf := zr_257
def zM_258 (M : jb_Mi) : jb_Mi := jb_up (zM_257 M) 80 35 (-1)
def zN_258 (N : jb_Ml) : jb_Ml := zN_257 N
abbrev zs_258 (L : Nat) (M : jb_Mi) (N : jb_Ml) : jb_S := (((9, L) :: zE_sh.take 112, zr_258), zM_258 M, zN_258 N)
def zr_259 : jb_Rf := zr_258
def zM_259 (M : jb_Mi) : jb_Mi := jb_up (zM_258 M) 80 36 (-1)
def zN_259 (N : jb_Ml) : jb_Ml := zN_258 N
abbrev zs_259 (L : Nat) (M : jb_Mi) (N : jb_Ml) : jb_S := (((9, L) :: zE_sh.take 112, zr_259), zM_259 M, zN_259 N)
def zr_260 : jb_Rf := zr_259
def zM_260 (M : jb_Mi) : jb_Mi := jb_up (zM_259 M) 80 37 (-1)
def zN_260 (N : jb_Ml) : jb_Ml := zN_259 N
abbrev zs_260 (L : Nat) (M : jb_Mi) (N : jb_Ml) : jb_S := (((9, L) :: zE_sh.take 112, zr_260), zM_260 M, zN_260 N)
def zr_261 : jb_Rf := zr_260
def zM_261 (M : jb_Mi) : jb_Mi := jb_up (zM_260 M) 80 38 (-1)
def zN_261 (N : jb_Ml) : jb_Ml := zN_260 N
abbrev zs_261 (L : Nat) (M : jb_Mi) (N : jb_Ml) : jb_S := (((9, L) :: zE_sh.take 112, zr_261), zM_261 M, zN_261 N)
def zr_262 : jb_Rf := zr_261
def zM_262 (M : jb_Mi) : jb_Mi := jb_up (zM_261 M) 80 39 (-1)
def zN_262 (N : jb_Ml) : jb_Ml := zN_261 N
abbrev zs_262 (L : Nat) (M : jb_Mi) (N : jb_Ml) : jb_S := (((9, L) :: zE_sh.take 112, zr_262), zM_262 M, zN_262 N)
def zr_263 : jb_Rf := zr_262
def zM_263 (M : jb_Mi) : jb_Mi := jb_up (zM_262 M) 80 40 (-1)
def zN_263 (N : jb_Ml) : jb_Ml := zN_262 N
abbrev zs_263 (L : Nat) (M : jb_Mi) (N : jb_Ml) : jb_S := (((9, L) :: zE_sh.take 112, zr_263), zM_263 M, zN_263 N)
def zr_264 : jb_Rf := zr_263
def zM_264 (M : jb_Mi) : jb_Mi := jb_up (zM_263 M) 80 41 (-1)
def zN_264 (N : jb_Ml) : jb_Ml := zN_263 N
abbrev zs_264 (L : Nat) (M : jb_Mi) (N : jb_Ml) : jb_S := (((9, L) :: zE_sh.take 112, zr_264), zM_264 M, zN_264 N)
set_option maxRecDepth 8000 in
theorem zi_18 {Γ : jb_G} {L : Nat} {M : jb_Mi} {N : jb_Ml} {d : Nat} (hd : 1 ≤ d) : jb_V Γ d zq_163 0 (jb_en 2 [.ref 79]) [] (zs_173 L M N) none (zs_264 L M N) := by
  obtain ⟨d, rfl⟩ : ∃ e, d = e + 1 := ⟨d - 1, by omega⟩
  show jb_V Γ _ zq_163 0 [some (.ref 79), none] [] (zs_173 L M N) _ _
  refine jb_seg 1 (pc' := 1) (ls' := [some (.ref 79), none]) (st' := [(.ref 79)]) (σ' := (zs_173 L M N)) (G := []) rfl trivial ?_
  refine jb_oinit (rest := []) rfl (Nat.le_of_ble_eq_true rfl) ?_
  refine jb_seg 2 (pc' := 8) (ls' := [some (.ref 79), none]) (st' := [(.int 149), (.ref 79)]) (σ' := (zs_173 L M N)) (G := []) rfl trivial ?_
  refine jb_newai (N := 149) (rest := [(.ref 79)]) rfl (by decide) (by decide) (by decide) rfl ?_
  show jb_V Γ _ zq_163 10 [some (.ref 79), none] [(.ref 80), (.ref 79)] (zs_174 L M N) _ _
  refine jb_putR (rest := []) rfl rfl rfl rfl rfl rfl (by decide) (Nat.le_of_ble_eq_true rfl) ?_
  show jb_V Γ _ zq_163 13 [some (.ref 79), none] [] (zs_175 L M N) _ _
  refine jb_seg 2 (pc' := 17) (ls' := [some (.ref 79), none]) (st' := [(.int 149), (.ref 79)]) (σ' := (zs_175 L M N)) (G := []) rfl trivial ?_
  refine jb_newai (N := 149) (rest := [(.ref 79)]) rfl (by decide) (by decide) (by decide) rfl ?_
  show jb_V Γ _ zq_163 19 [some (.ref 79), none] [(.ref 81), (.ref 79)] (zs_176 L M N) _ _
  refine jb_putR (rest := []) rfl rfl rfl rfl rfl rfl (by decide) (Nat.le_of_ble_eq_true rfl) ?_
  show jb_V Γ _ zq_163 22 [some (.ref 79), none] [] (zs_177 L M N) _ _
  refine jb_seg 2 (pc' := 26) (ls' := [some (.ref 79), none]) (st' := [(.int 149), (.ref 79)]) (σ' := (zs_177 L M N)) (G := []) rfl trivial ?_
  refine jb_newai (N := 149) (rest := [(.ref 79)]) rfl (by decide) (by decide) (by decide) rfl ?_
  show jb_V Γ _ zq_163 28 [some (.ref 79), none] [(.ref 82), (.ref 79)] (zs_178 L M N) _ _
  refine jb_putR (rest := []) rfl rfl rfl rfl rfl rfl (by decide) (Nat.le_of_ble_eq_true rfl) ?_
  show jb_V Γ _ zq_163 31 [some (.ref 79), none] [] (zs_179 L M N) _ _
  refine jb_seg 2 (pc' := 35) (ls' := [some (.ref 79), none]) (st' := [(.int 260), (.ref 79)]) (σ' := (zs_179 L M N)) (G := []) rfl trivial ?_
  refine jb_newab (N := 260) (rest := [(.ref 79)]) rfl (by decide) (by decide) (by decide) rfl ?_
  show jb_V Γ _ zq_163 37 [some (.ref 79), none] [(.ref 83), (.ref 79)] (zs_180 L M N) _ _
  refine jb_putR (rest := []) rfl rfl rfl rfl rfl rfl (by decide) (Nat.le_of_ble_eq_true rfl) ?_
  show jb_V Γ _ zq_163 40 [some (.ref 79), none] [] (zs_181 L M N) _ _
  refine jb_seg 2 (pc' := 44) (ls' := [some (.ref 79), none]) (st' := [(.int 260), (.ref 79)]) (σ' := (zs_181 L M N)) (G := []) rfl trivial ?_
  refine jb_newai (N := 260) (rest := [(.ref 79)]) rfl (by decide) (by decide) (by decide) rfl ?_
  show jb_V Γ _ zq_163 46 [some (.ref 79), none] [(.ref 84), (.ref 79)] (zs_182 L M N) _ _
  refine jb_putR (rest := []) rfl rfl rfl rfl rfl rfl (by decide) (Nat.le_of_ble_eq_true rfl) ?_
  show jb_V Γ _ zq_163 49 [some (.ref 79), none] [] (zs_183 L M N) _ _
  refine jb_seg 2 (pc' := 53) (ls' := [some (.ref 79), none]) (st' := [(.int 260), (.ref 79)]) (σ' := (zs_183 L M N)) (G := []) rfl trivial ?_
  refine jb_newai (N := 260) (rest := [(.ref 79)]) rfl (by decide) (by decide) (by decide) rfl ?_
  show jb_V Γ _ zq_163 55 [some (.ref 79), none] [(.ref 85), (.ref 79)] (zs_184 L M N) _ _
  refine jb_putR (rest := []) rfl rfl rfl rfl rfl rfl (by decide) (Nat.le_of_ble_eq_true rfl) ?_
  show jb_V Γ _ zq_163 58 [some (.ref 79), none] [] (zs_185 L M N) _ _
  refine jb_seg 2 (pc' := 61) (ls' := [some (.ref 79), none]) (st' := [(.int 16), (.ref 79)]) (σ' := (zs_185 L M N)) (G := []) rfl trivial ?_
  refine jb_newai (N := 16) (rest := [(.ref 79)]) rfl (by decide) (by decide) (by decide) rfl ?_
  show jb_V Γ _ zq_163 63 [some (.ref 79), none] [(.ref 86), (.ref 79)] (zs_186 L M N) _ _
  refine jb_putR (rest := []) rfl rfl rfl rfl rfl rfl (by decide) (Nat.le_of_ble_eq_true rfl) ?_
  show jb_V Γ _ zq_163 66 [some (.ref 79), none] [] (zs_187 L M N) _ _
  refine jb_seg 2 (pc' := 69) (ls' := [some (.ref 79), none]) (st' := [(.int 16), (.ref 79)]) (σ' := (zs_187 L M N)) (G := []) rfl trivial ?_
  refine jb_newai (N := 16) (rest := [(.ref 79)]) rfl (by decide) (by decide) (by decide) rfl ?_
  show jb_V Γ _ zq_163 71 [some (.ref 79), none] [(.ref 87), (.ref 79)] (zs_188 L M N) _ _
  refine jb_putR (rest := []) rfl rfl rfl rfl rfl rfl (by decide) (Nat.le_of_ble_eq_true rfl) ?_
  show jb_V Γ _ zq_163 74 [some (.ref 79), none] [] (zs_189 L M N) _ _
  refine jb_seg 2 (pc' := 77) (ls' := [some (.ref 79), none]) (st' := [(.int 16), (.ref 79)]) (σ' := (zs_189 L M N)) (G := []) rfl trivial ?_
  refine jb_newai (N := 16) (rest := [(.ref 79)]) rfl (by decide) (by decide) (by decide) rfl ?_
  show jb_V Γ _ zq_163 79 [some (.ref 79), none] [(.ref 88), (.ref 79)] (zs_190 L M N) _ _
  refine jb_putR (rest := []) rfl rfl rfl rfl rfl rfl (by decide) (Nat.le_of_ble_eq_true rfl) ?_
  show jb_V Γ _ zq_163 82 [some (.ref 79), none] [] (zs_191 L M N) _ _
  refine jb_seg 2 (pc' := 85) (ls' := [some (.ref 79), none]) (st' := [(.int 16), (.ref 79)]) (σ' := (zs_191 L M N)) (G := []) rfl trivial ?_
  refine jb_newai (N := 16) (rest := [(.ref 79)]) rfl (by decide) (by decide) (by decide) rfl ?_
  show jb_V Γ _ zq_163 87 [some (.ref 79), none] [(.ref 89), (.ref 79)] (zs_192 L M N) _ _
  refine jb_putR (rest := []) rfl rfl rfl rfl rfl rfl (by decide) (Nat.le_of_ble_eq_true rfl) ?_
  show jb_V Γ _ zq_163 90 [some (.ref 79), none] [] (zs_193 L M N) _ _
  refine jb_seg 2 (pc' := 94) (ls' := [some (.ref 79), none]) (st' := [(.int 260), (.ref 79)]) (σ' := (zs_193 L M N)) (G := []) rfl trivial ?_
  refine jb_newai (N := 260) (rest := [(.ref 79)]) rfl (by decide) (by decide) (by decide) rfl ?_
  show jb_V Γ _ zq_163 96 [some (.ref 79), none] [(.ref 90), (.ref 79)] (zs_194 L M N) _ _
  refine jb_putR (rest := []) rfl rfl rfl rfl rfl rfl (by decide) (Nat.le_of_ble_eq_true rfl) ?_
  show jb_V Γ _ zq_163 99 [some (.ref 79), none] [] (zs_195 L M N) _ _
  refine jb_seg 2 (pc' := 102) (ls' := [some (.ref 79), none]) (st' := [(.int 16), (.ref 79)]) (σ' := (zs_195 L M N)) (G := []) rfl trivial ?_
  refine jb_newai (N := 16) (rest := [(.ref 79)]) rfl (by decide) (by decide) (by decide) rfl ?_
  show jb_V Γ _ zq_163 104 [some (.ref 79), none] [(.ref 91), (.ref 79)] (zs_196 L M N) _ _
  refine jb_putR (rest := []) rfl rfl rfl rfl rfl rfl (by decide) (Nat.le_of_ble_eq_true rfl) ?_
  show jb_V Γ _ zq_163 107 [some (.ref 79), none] [] (zs_197 L M N) _ _
  refine jb_seg 2 (pc' := 110) (ls' := [some (.ref 79), none]) (st' := [(.int 16), (.ref 79)]) (σ' := (zs_197 L M N)) (G := []) rfl trivial ?_
  refine jb_newai (N := 16) (rest := [(.ref 79)]) rfl (by decide) (by decide) (by decide) rfl ?_
  show jb_V Γ _ zq_163 112 [some (.ref 79), none] [(.ref 92), (.ref 79)] (zs_198 L M N) _ _
  refine jb_putR (rest := []) rfl rfl rfl rfl rfl rfl (by decide) (Nat.le_of_ble_eq_true rfl) ?_
  show jb_V Γ _ zq_163 115 [some (.ref 79), none] [] (zs_199 L M N) _ _
  refine jb_seg 2 (pc' := 118) (ls' := [some (.ref 79), none]) (st' := [(.int 16), (.ref 79)]) (σ' := (zs_199 L M N)) (G := []) rfl trivial ?_
  refine jb_newai (N := 16) (rest := [(.ref 79)]) rfl (by decide) (by decide) (by decide) rfl ?_
  show jb_V Γ _ zq_163 120 [some (.ref 79), none] [(.ref 93), (.ref 79)] (zs_200 L M N) _ _
  refine jb_putR (rest := []) rfl rfl rfl rfl rfl rfl (by decide) (Nat.le_of_ble_eq_true rfl) ?_
  show jb_V Γ _ zq_163 123 [some (.ref 79), none] [] (zs_201 L M N) _ _
  refine jb_seg 2 (pc' := 126) (ls' := [some (.ref 79), none]) (st' := [(.int 16), (.ref 79)]) (σ' := (zs_201 L M N)) (G := []) rfl trivial ?_
  refine jb_newai (N := 16) (rest := [(.ref 79)]) rfl (by decide) (by decide) (by decide) rfl ?_
  show jb_V Γ _ zq_163 128 [some (.ref 79), none] [(.ref 94), (.ref 79)] (zs_202 L M N) _ _
  refine jb_putR (rest := []) rfl rfl rfl rfl rfl rfl (by decide) (Nat.le_of_ble_eq_true rfl) ?_
  show jb_V Γ _ zq_163 131 [some (.ref 79), none] [] (zs_203 L M N) _ _
  refine jb_seg 2 (pc' := 135) (ls' := [some (.ref 79), none]) (st' := [(.int 260), (.ref 79)]) (σ' := (zs_203 L M N)) (G := []) rfl trivial ?_
  refine jb_newai (N := 260) (rest := [(.ref 79)]) rfl (by decide) (by decide) (by decide) rfl ?_
  show jb_V Γ _ zq_163 137 [some (.ref 79), none] [(.ref 95), (.ref 79)] (zs_204 L M N) _ _
  refine jb_putR (rest := []) rfl rfl rfl rfl rfl rfl (by decide) (Nat.le_of_ble_eq_true rfl) ?_
  show jb_V Γ _ zq_163 140 [some (.ref 79), none] [] (zs_205 L M N) _ _
  refine jb_seg 2 (pc' := 143) (ls' := [some (.ref 79), none]) (st' := [(.int 10), (.ref 79)]) (σ' := (zs_205 L M N)) (G := []) rfl trivial ?_
  refine jb_newai (N := 10) (rest := [(.ref 79)]) rfl (by decide) (by decide) (by decide) rfl ?_
  show jb_V Γ _ zq_163 145 [some (.ref 79), none] [(.ref 96), (.ref 79)] (zs_206 L M N) _ _
  refine jb_putR (rest := []) rfl rfl rfl rfl rfl rfl (by decide) (Nat.le_of_ble_eq_true rfl) ?_
  show jb_V Γ _ zq_163 148 [some (.ref 79), none] [] (zs_207 L M N) _ _
  refine jb_seg 2 (pc' := 152) (ls' := [some (.ref 79), none]) (st' := [(.int 1152), (.ref 79)]) (σ' := (zs_207 L M N)) (G := []) rfl trivial ?_
  refine jb_newab (N := 1152) (rest := [(.ref 79)]) rfl (by decide) (by decide) (by decide) rfl ?_
  show jb_V Γ _ zq_163 154 [some (.ref 79), none] [(.ref 97), (.ref 79)] (zs_208 L M N) _ _
  refine jb_putR (rest := []) rfl rfl rfl rfl rfl rfl (by decide) (Nat.le_of_ble_eq_true rfl) ?_
  show jb_V Γ _ zq_163 157 [some (.ref 79), none] [] (zs_209 L M N) _ _
  refine jb_seg 2 (pc' := 160) (ls' := [some (.ref 79), none]) (st' := [(.int 24), (.ref 79)]) (σ' := (zs_209 L M N)) (G := []) rfl trivial ?_
  refine jb_newai (N := 24) (rest := [(.ref 79)]) rfl (by decide) (by decide) (by decide) rfl ?_
  show jb_V Γ _ zq_163 162 [some (.ref 79), none] [(.ref 98), (.ref 79)] (zs_210 L M N) _ _
  refine jb_putR (rest := []) rfl rfl rfl rfl rfl rfl (by decide) (Nat.le_of_ble_eq_true rfl) ?_
  show jb_V Γ _ zq_163 165 [some (.ref 79), none] [] (zs_211 L M N) _ _
  refine jb_seg 2 (pc' := 168) (ls' := [some (.ref 79), none]) (st' := [(.int 48), (.ref 79)]) (σ' := (zs_211 L M N)) (G := []) rfl trivial ?_
  refine jb_newai (N := 48) (rest := [(.ref 79)]) rfl (by decide) (by decide) (by decide) rfl ?_
  show jb_V Γ _ zq_163 170 [some (.ref 79), none] [(.ref 99), (.ref 79)] (zs_212 L M N) _ _
  refine jb_putR (rest := []) rfl rfl rfl rfl rfl rfl (by decide) (Nat.le_of_ble_eq_true rfl) ?_
  show jb_V Γ _ zq_163 173 [some (.ref 79), none] [] (zs_213 L M N) _ _
  refine jb_seg 2 (pc' := 175) (ls' := [some (.ref 79), none]) (st' := [(.int 2), (.ref 79)]) (σ' := (zs_213 L M N)) (G := []) rfl trivial ?_
  refine jb_newai (N := 2) (rest := [(.ref 79)]) rfl (by decide) (by decide) (by decide) rfl ?_
  show jb_V Γ _ zq_163 177 [some (.ref 79), none] [(.ref 100), (.ref 79)] (zs_214 L M N) _ _
  refine jb_putR (rest := []) rfl rfl rfl rfl rfl rfl (by decide) (Nat.le_of_ble_eq_true rfl) ?_
  show jb_V Γ _ zq_163 180 [some (.ref 79), none] [] (zs_215 L M N) _ _
  refine jb_seg 2 (pc' := 182) (ls' := [some (.ref 79), none]) (st' := [(.int 2), (.ref 79)]) (σ' := (zs_215 L M N)) (G := []) rfl trivial ?_
  refine jb_newai (N := 2) (rest := [(.ref 79)]) rfl (by decide) (by decide) (by decide) rfl ?_
  show jb_V Γ _ zq_163 184 [some (.ref 79), none] [(.ref 101), (.ref 79)] (zs_216 L M N) _ _
  refine jb_putR (rest := []) rfl rfl rfl rfl rfl rfl (by decide) (Nat.le_of_ble_eq_true rfl) ?_
  show jb_V Γ _ zq_163 187 [some (.ref 79), none] [] (zs_217 L M N) _ _
  refine jb_seg 2 (pc' := 189) (ls' := [some (.ref 79), none]) (st' := [(.int 2), (.ref 79)]) (σ' := (zs_217 L M N)) (G := []) rfl trivial ?_
  refine jb_newai (N := 2) (rest := [(.ref 79)]) rfl (by decide) (by decide) (by decide) rfl ?_
  show jb_V Γ _ zq_163 191 [some (.ref 79), none] [(.ref 102), (.ref 79)] (zs_218 L M N) _ _
  refine jb_putR (rest := []) rfl rfl rfl rfl rfl rfl (by decide) (Nat.le_of_ble_eq_true rfl) ?_
  show jb_V Γ _ zq_163 194 [some (.ref 79), none] [] (zs_219 L M N) _ _
  refine jb_seg 2 (pc' := 197) (ls' := [some (.ref 79), none]) (st' := [(.int 6), (.ref 79)]) (σ' := (zs_219 L M N)) (G := []) rfl trivial ?_
  refine jb_newai (N := 6) (rest := [(.ref 79)]) rfl (by decide) (by decide) (by decide) rfl ?_
  show jb_V Γ _ zq_163 199 [some (.ref 79), none] [(.ref 103), (.ref 79)] (zs_220 L M N) _ _
  refine jb_putR (rest := []) rfl rfl rfl rfl rfl rfl (by decide) (Nat.le_of_ble_eq_true rfl) ?_
  show jb_V Γ _ zq_163 202 [some (.ref 79), none] [] (zs_221 L M N) _ _
  refine jb_seg 2 (pc' := 204) (ls' := [some (.ref 79), none]) (st' := [(.int 4), (.ref 79)]) (σ' := (zs_221 L M N)) (G := []) rfl trivial ?_
  refine jb_newai (N := 4) (rest := [(.ref 79)]) rfl (by decide) (by decide) (by decide) rfl ?_
  show jb_V Γ _ zq_163 206 [some (.ref 79), none] [(.ref 104), (.ref 79)] (zs_222 L M N) _ _
  refine jb_putR (rest := []) rfl rfl rfl rfl rfl rfl (by decide) (Nat.le_of_ble_eq_true rfl) ?_
  show jb_V Γ _ zq_163 209 [some (.ref 79), none] [] (zs_223 L M N) _ _
  refine jb_seg 2 (pc' := 211) (ls' := [some (.ref 79), none]) (st' := [(.int 4), (.ref 79)]) (σ' := (zs_223 L M N)) (G := []) rfl trivial ?_
  refine jb_newai (N := 4) (rest := [(.ref 79)]) rfl (by decide) (by decide) (by decide) rfl ?_
  show jb_V Γ _ zq_163 213 [some (.ref 79), none] [(.ref 105), (.ref 79)] (zs_224 L M N) _ _
  refine jb_putR (rest := []) rfl rfl rfl rfl rfl rfl (by decide) (Nat.le_of_ble_eq_true rfl) ?_
  show jb_V Γ _ zq_163 216 [some (.ref 79), none] [] (zs_225 L M N) _ _
  refine jb_seg 2 (pc' := 218) (ls' := [some (.ref 79), none]) (st' := [(.int 4), (.ref 79)]) (σ' := (zs_225 L M N)) (G := []) rfl trivial ?_
  refine jb_newai (N := 4) (rest := [(.ref 79)]) rfl (by decide) (by decide) (by decide) rfl ?_
  show jb_V Γ _ zq_163 220 [some (.ref 79), none] [(.ref 106), (.ref 79)] (zs_226 L M N) _ _
  refine jb_putR (rest := []) rfl rfl rfl rfl rfl rfl (by decide) (Nat.le_of_ble_eq_true rfl) ?_
  show jb_V Γ _ zq_163 223 [some (.ref 79), none] [] (zs_227 L M N) _ _
  refine jb_seg 2 (pc' := 226) (ls' := [some (.ref 79), none]) (st' := [(.int 12), (.ref 79)]) (σ' := (zs_227 L M N)) (G := []) rfl trivial ?_
  refine jb_newai (N := 12) (rest := [(.ref 79)]) rfl (by decide) (by decide) (by decide) rfl ?_
  show jb_V Γ _ zq_163 228 [some (.ref 79), none] [(.ref 107), (.ref 79)] (zs_228 L M N) _ _
  refine jb_putR (rest := []) rfl rfl rfl rfl rfl rfl (by decide) (Nat.le_of_ble_eq_true rfl) ?_
  show jb_V Γ _ zq_163 231 [some (.ref 79), none] [] (zs_229 L M N) _ _
  refine jb_seg 2 (pc' := 233) (ls' := [some (.ref 79), none]) (st' := [(.int 4), (.ref 79)]) (σ' := (zs_229 L M N)) (G := []) rfl trivial ?_
  refine jb_newal (N := 4) (rest := [(.ref 79)]) rfl (by decide) (by decide) (by decide) rfl ?_
  show jb_V Γ _ zq_163 235 [some (.ref 79), none] [(.ref 108), (.ref 79)] (zs_230 L M N) _ _
  refine jb_putR (rest := []) rfl rfl rfl rfl rfl rfl (by decide) (Nat.le_of_ble_eq_true rfl) ?_
  show jb_V Γ _ zq_163 238 [some (.ref 79), none] [] (zs_231 L M N) _ _
  refine jb_seg 2 (pc' := 241) (ls' := [some (.ref 79), none]) (st' := [(.int 64), (.ref 79)]) (σ' := (zs_231 L M N)) (G := []) rfl trivial ?_
  refine jb_newai (N := 64) (rest := [(.ref 79)]) rfl (by decide) (by decide) (by decide) rfl ?_
  show jb_V Γ _ zq_163 243 [some (.ref 79), none] [(.ref 109), (.ref 79)] (zs_232 L M N) _ _
  refine jb_putR (rest := []) rfl rfl rfl rfl rfl rfl (by decide) (Nat.le_of_ble_eq_true rfl) ?_
  show jb_V Γ _ zq_163 246 [some (.ref 79), none] [] (zs_233 L M N) _ _
  refine jb_seg 2 (pc' := 249) (ls' := [some (.ref 79), none]) (st' := [(.int 64), (.ref 79)]) (σ' := (zs_233 L M N)) (G := []) rfl trivial ?_
  refine jb_newal (N := 64) (rest := [(.ref 79)]) rfl (by decide) (by decide) (by decide) rfl ?_
  show jb_V Γ _ zq_163 251 [some (.ref 79), none] [(.ref 110), (.ref 79)] (zs_234 L M N) _ _
  refine jb_putR (rest := []) rfl rfl rfl rfl rfl rfl (by decide) (Nat.le_of_ble_eq_true rfl) ?_
  show jb_V Γ _ zq_163 254 [some (.ref 79), none] [] (zs_235 L M N) _ _
  refine jb_seg 2 (pc' := 257) (ls' := [some (.ref 79), none]) (st' := [(.int 64), (.ref 79)]) (σ' := (zs_235 L M N)) (G := []) rfl trivial ?_
  refine jb_newal (N := 64) (rest := [(.ref 79)]) rfl (by decide) (by decide) (by decide) rfl ?_
  show jb_V Γ _ zq_163 259 [some (.ref 79), none] [(.ref 111), (.ref 79)] (zs_236 L M N) _ _
  refine jb_putR (rest := []) rfl rfl rfl rfl rfl rfl (by decide) (Nat.le_of_ble_eq_true rfl) ?_
  show jb_V Γ _ zq_163 262 [some (.ref 79), none] [] (zs_237 L M N) _ _
  refine jb_seg 2 (pc' := 265) (ls' := [some (.ref 79), none]) (st' := [(.int 64), (.ref 79)]) (σ' := (zs_237 L M N)) (G := []) rfl trivial ?_
  refine jb_newai (N := 64) (rest := [(.ref 79)]) rfl (by decide) (by decide) (by decide) rfl ?_
  show jb_V Γ _ zq_163 267 [some (.ref 79), none] [(.ref 112), (.ref 79)] (zs_238 L M N) _ _
  refine jb_putR (rest := []) rfl rfl rfl rfl rfl rfl (by decide) (Nat.le_of_ble_eq_true rfl) ?_
  show jb_V Γ _ zq_163 270 [some (.ref 79), none] [] (zs_239 L M N) _ _
  refine jb_seg 5 (pc' := 279) (ls' := [some (.ref 79), none]) (st' := []) (σ' := (zs_240 L M N)) (G := [vp_in 148 149]) rfl (show vp_in 148 149 from (by unfold vp_in; decide)) ?_
  refine jb_seg 14 (pc' := 281) (ls' := [some (.ref 79), some (.int 1)]) (st' := []) (σ' := (zs_241 L M N)) (G := [vp_in (18 + 0) 149]) rfl (show vp_in (18 + 0) 149 from (by unfold vp_in; decide)) ?_
  refine jb_seg 12 (pc' := 281) (ls' := [some (.ref 79), some (.int 2)]) (st' := []) (σ' := (zs_242 L M N)) (G := [vp_in (18 + 1) 149]) rfl (show vp_in (18 + 1) 149 from (by unfold vp_in; decide)) ?_
  refine jb_seg 12 (pc' := 281) (ls' := [some (.ref 79), some (.int 3)]) (st' := []) (σ' := (zs_243 L M N)) (G := [vp_in (18 + 2) 149]) rfl (show vp_in (18 + 2) 149 from (by unfold vp_in; decide)) ?_
  refine jb_seg 12 (pc' := 281) (ls' := [some (.ref 79), some (.int 4)]) (st' := []) (σ' := (zs_244 L M N)) (G := [vp_in (18 + 3) 149]) rfl (show vp_in (18 + 3) 149 from (by unfold vp_in; decide)) ?_
  refine jb_seg 12 (pc' := 281) (ls' := [some (.ref 79), some (.int 5)]) (st' := []) (σ' := (zs_245 L M N)) (G := [vp_in (18 + 4) 149]) rfl (show vp_in (18 + 4) 149 from (by unfold vp_in; decide)) ?_
  refine jb_seg 12 (pc' := 281) (ls' := [some (.ref 79), some (.int 6)]) (st' := []) (σ' := (zs_246 L M N)) (G := [vp_in (18 + 5) 149]) rfl (show vp_in (18 + 5) 149 from (by unfold vp_in; decide)) ?_
  refine jb_seg 12 (pc' := 281) (ls' := [some (.ref 79), some (.int 7)]) (st' := []) (σ' := (zs_247 L M N)) (G := [vp_in (18 + 6) 149]) rfl (show vp_in (18 + 6) 149 from (by unfold vp_in; decide)) ?_
  refine jb_seg 12 (pc' := 281) (ls' := [some (.ref 79), some (.int 8)]) (st' := []) (σ' := (zs_248 L M N)) (G := [vp_in (18 + 7) 149]) rfl (show vp_in (18 + 7) 149 from (by unfold vp_in; decide)) ?_
  refine jb_seg 12 (pc' := 281) (ls' := [some (.ref 79), some (.int 9)]) (st' := []) (σ' := (zs_249 L M N)) (G := [vp_in (18 + 8) 149]) rfl (show vp_in (18 + 8) 149 from (by unfold vp_in; decide)) ?_
  refine jb_seg 12 (pc' := 281) (ls' := [some (.ref 79), some (.int 10)]) (st' := []) (σ' := (zs_250 L M N)) (G := [vp_in (18 + 9) 149]) rfl (show vp_in (18 + 9) 149 from (by unfold vp_in; decide)) ?_
  refine jb_seg 12 (pc' := 281) (ls' := [some (.ref 79), some (.int 11)]) (st' := []) (σ' := (zs_251 L M N)) (G := [vp_in (18 + 10) 149]) rfl (show vp_in (18 + 10) 149 from (by unfold vp_in; decide)) ?_
  refine jb_seg 12 (pc' := 281) (ls' := [some (.ref 79), some (.int 12)]) (st' := []) (σ' := (zs_252 L M N)) (G := [vp_in (18 + 11) 149]) rfl (show vp_in (18 + 11) 149 from (by unfold vp_in; decide)) ?_
  refine jb_seg 12 (pc' := 281) (ls' := [some (.ref 79), some (.int 13)]) (st' := []) (σ' := (zs_253 L M N)) (G := [vp_in (18 + 12) 149]) rfl (show vp_in (18 + 12) 149 from (by unfold vp_in; decide)) ?_
  refine jb_seg 12 (pc' := 281) (ls' := [some (.ref 79), some (.int 14)]) (st' := []) (σ' := (zs_254 L M N)) (G := [vp_in (18 + 13) 149]) rfl (show vp_in (18 + 13) 149 from (by unfold vp_in; decide)) ?_
  refine jb_seg 12 (pc' := 281) (ls' := [some (.ref 79), some (.int 15)]) (st' := []) (σ' := (zs_255 L M N)) (G := [vp_in (18 + 14) 149]) rfl (show vp_in (18 + 14) 149 from (by unfold vp_in; decide)) ?_
  refine jb_seg 12 (pc' := 281) (ls' := [some (.ref 79), some (.int 16)]) (st' := []) (σ' := (zs_256 L M N)) (G := [vp_in (18 + 15) 149]) rfl (show vp_in (18 + 15) 149 from (by unfold vp_in; decide)) ?_
  refine jb_seg 12 (pc' := 281) (ls' := [some (.ref 79), some (.int 17)]) (st' := []) (σ' := (zs_257 L M N)) (G := [vp_in (18 + 16) 149]) rfl (show vp_in (18 + 16) 149 from (by unfold vp_in; decide)) ?_
  refine jb_seg 12 (pc' := 281) (ls' := [some (.ref 79), some (.int 18)]) (st' := []) (σ' := (zs_258 L M N)) (G := [vp_in (18 + 17) 149]) rfl (show vp_in (18 + 17) 149 from (by unfold vp_in; decide)) ?_
  refine jb_seg 12 (pc' := 281) (ls' := [some (.ref 79), some (.int 19)]) (st' := []) (σ' := (zs_259 L M N)) (G := [vp_in (18 + 18) 149]) rfl (show vp_in (18 + 18) 149 from (by unfold vp_in; decide)) ?_
  refine jb_seg 12 (pc' := 281) (ls' := [some (.ref 79), some (.int 20)]) (st' := []) (σ' := (zs_260 L M N)) (G := [vp_in (18 + 19) 149]) rfl (show vp_in (18 + 19) 149 from (by unfold vp_in; decide)) ?_
  refine jb_seg 12 (pc' := 281) (ls' := [some (.ref 79), some (.int 21)]) (st' := []) (σ' := (zs_261 L M N)) (G := [vp_in (18 + 20) 149]) rfl (show vp_in (18 + 20) 149 from (by unfold vp_in; decide)) ?_
  refine jb_seg 12 (pc' := 281) (ls' := [some (.ref 79), some (.int 22)]) (st' := []) (σ' := (zs_262 L M N)) (G := [vp_in (18 + 21) 149]) rfl (show vp_in (18 + 21) 149 from (by unfold vp_in; decide)) ?_
  refine jb_seg 12 (pc' := 281) (ls' := [some (.ref 79), some (.int 23)]) (st' := []) (σ' := (zs_263 L M N)) (G := [vp_in (18 + 22) 149]) rfl (show vp_in (18 + 22) 149 from (by unfold vp_in; decide)) ?_
  refine jb_seg 12 (pc' := 281) (ls' := [some (.ref 79), some (.int 24)]) (st' := []) (σ' := (zs_264 L M N)) (G := [vp_in (18 + 23) 149]) rfl (show vp_in (18 + 23) 149 from (by unfold vp_in; decide)) ?_
  refine jb_seg 3 (pc' := 303) (ls' := [some (.ref 79), some (.int 24)]) (st' := []) (σ' := (zs_264 L M N)) (G := []) rfl trivial ?_
  exact jb_retv rfl rfl
theorem jb_conv {Γ : jb_G} {d : Nat} {q : jb_Q} {pc : Nat} {ls : jb_Ls} {st : List Value} {h : jb_Sh} {rf rf' : jb_Rf} {m : jb_Mi × jb_Ml} {v : Option Value} {σ2 : jb_S} (hwf : ∀ a j, rf' a j < h.length) (hag : ∀ a x, jb_sk h a = some x → 10 ≤ x.1 → ∀ j, j < jb_nF (x.1 - 10) → jb_isR (x.1 - 10) j = true → rf' a j = rf a j) (hv : jb_V Γ d q pc ls st ((h, rf'), m) v σ2) : jb_V Γ d q pc ls st ((h, rf), m) v σ2 := by
  refine ⟨hv.1, hv.2.1, fun p e R s m' args below meth c H locs cells slots ad lsA hC hd hd2 hw hS hL hc hs => hv.2.2 p e R s m' args below meth c H locs cells slots ad lsA hC hd hd2 ?_ hS hL hc hs⟩
  obtain ⟨h1, h2, h3, h4, h5, h6, h7⟩ := hw
  have e : jb_ws Γ.2.2.2.1 ad ((h, rf'), m) = jb_ws Γ.2.2.2.1 ad ((h, rf), m) := by
    unfold jb_ws
    apply List.map_congr_left
    intro j hj
    have hj := List.mem_range.mp hj
    dsimp only at hj ⊢
    cases hx : jb_sk h (j + 1) with
    | none => 
      rw [jb_sk_eq, List.getElem?_eq_none_iff] at hx
      omega
    | some x =>
      have hk := h6 (j + 1) x hx (by omega)
      simp only [Option.getD_some]
      congr 1
      unfold jb_ce
      by_cases c0 : x.1 = 0
      · rw [if_pos c0, if_pos c0]
      rw [if_neg c0, if_neg c0]
      by_cases c1 : x.1 = 1
      · rw [if_pos c1, if_pos c1]
      rw [if_neg c1, if_neg c1]
      by_cases c2 : x.1 = 2
      · rw [if_pos c2, if_pos c2]
      rw [if_neg c2, if_neg c2]
      congr 2
      apply List.map_congr_left
      intro k hk2
      unfold jb_fv
      by_cases hR : jb_isR (x.1 - 10) k = true
      · rw [if_pos hR, if_pos hR]
        dsimp only
        rw [hag (j + 1) x hx (by omega) k (List.mem_range.mp hk2) hR]
      · rw [if_neg hR, if_neg hR]
  exact ⟨h1, by rw [e]; exact h2, by rw [e]; exact h3, h4, hwf, h6, h7⟩
theorem jb_cond_lt {b : Bool} {x y n : Nat} (h1 : x < n) (h2 : y < n) : (bif b then x else y) < n := by cases b <;> assumption
theorem jb_nth_lt {n : Nat} (h0 : 0 < n) : ∀ (l : List Nat) (j : Nat), l.all (fun x => Nat.blt x n) = true → jb_nth l j < n
  | [], _, _ => h0
  | x :: r, 0, h => by
    simp only [List.all_cons, Bool.and_eq_true, Nat.blt_eq] at h
    exact h.1
  | x :: r, j + 1, h => by
    simp only [List.all_cons, Bool.and_eq_true] at h
    exact jb_nth_lt h0 r j h.2
set_option maxHeartbeats 4000000 in
theorem zE_wf (a j : Nat) : zE_rf a j < 113 := by
  unfold zE_rf
  repeat' (first | exact jb_nth_lt (by decide) _ _ (by decide) | exact Nat.zero_lt_succ _ | refine jb_cond_lt ?_ ?_)
theorem zE_ag : (List.range 112).all (fun k => match jb_sk zE_sh k with
    | some x => Nat.blt x.1 10 || (List.range (jb_nF (x.1 - 10))).all (fun j => !(jb_isR (x.1 - 10) j) || Nat.beq (zE_rf (k + 1) j) (zr_264 (k + 1) j))
    | none => true) = true := by decide +kernel
theorem zE_conv {Γ : jb_G} {d : Nat} {q : jb_Q} {pc : Nat} {ls : jb_Ls} {st : List Value} {L : Nat} {m : jb_Mi × jb_Ml} {v : Option Value} {σ2 : jb_S} (hv : jb_V Γ d q pc ls st (zE L, m) v σ2) : jb_V Γ d q pc ls st (((9, L) :: zE_sh, zr_264), m) v σ2 := by
  refine jb_conv (rf' := zE_rf) (fun a j => Nat.lt_of_lt_of_le (zE_wf a j) (Nat.le_of_ble_eq_true rfl)) ?_ hv
  intro a x hx h10 j hj hR
  cases a with
  | zero => cases hx; exact absurd h10 (by simp)
  | succ k =>
    have hx : jb_sk zE_sh k = some x := hx
    have hk : k < 112 := jb_sk_lt hx
    have h1 := jb_rng zE_ag hk
    rw [hx] at h1
    simp only [Bool.or_eq_true, Nat.blt_eq] at h1
    rcases h1 with h1 | h1
    · omega
    · have h2 := jb_rng h1 hj
      rw [hR] at h2
      simp only [Bool.not_true, Bool.false_or] at h2
      exact Nat.eq_of_beq_eq_true h2
set_option maxRecDepth 20000 in
theorem zl_start {Γ : jb_G} {L : Nat} {M : jb_Mi} {N : jb_Ml} {d : Nat} {v : Option Value} {σ2 : jb_S} (hd : 10 ≤ d) (h : jb_V Γ d zq_0 16 [some (.ref 0), some (.ref 1), some (.ref 79), none] [] (zE L, zM_264 M, zN_264 N) v σ2) : jb_V Γ d zq_0 0 [some (.ref 0), none, none, none] [] (zs_0 L M N) v σ2 := by
  obtain ⟨d, rfl⟩ : ∃ e, d = e + 1 := ⟨d - 1, by omega⟩
  refine jb_new (rest := []) rfl rfl ?_
  show jb_V Γ _ zq_0 3 [some (.ref 0), none, none, none] [.ref 1] (zs_1 L M N) _ _
  refine jb_seg 1 (pc' := 4) (ls' := [some (.ref 0), none, none, none]) (st' := [.ref 1, .ref 1]) (σ' := (zs_1 L M N)) (G := []) rfl trivial ?_
  refine jb_callI (q' := zq_125) (b := 1) (As := []) (rest := [.ref 1]) (σ := (zs_1 L M N)) (σ1 := (zs_172 L M N)) (v := none) rfl (by decide) rfl rfl rfl zp_125 (jb_cat rfl) (Nat.le_of_ble_eq_true rfl) (Nat.le_of_ble_eq_true rfl) (Or.inr rfl) rfl (zi_17 (by omega)) ?_
  refine jb_seg 1 (pc' := 8) (ls' := [some (.ref 0), some (.ref 1), none, none]) (st' := []) (σ' := (zs_172 L M N)) (G := []) rfl trivial ?_
  refine jb_new (rest := []) rfl rfl ?_
  show jb_V Γ _ zq_0 11 [some (.ref 0), some (.ref 1), none, none] [.ref 79] (zs_173 L M N) _ _
  refine jb_seg 1 (pc' := 12) (ls' := [some (.ref 0), some (.ref 1), none, none]) (st' := [.ref 79, .ref 79]) (σ' := (zs_173 L M N)) (G := []) rfl trivial ?_
  refine jb_callI (q' := zq_163) (b := 79) (As := []) (rest := [.ref 79]) (σ := (zs_173 L M N)) (σ1 := (zs_264 L M N)) (v := none) rfl (by decide) rfl rfl rfl zp_163 (jb_cat rfl) (Nat.le_of_ble_eq_true rfl) (Nat.le_of_ble_eq_true rfl) (Or.inr rfl) rfl (zi_18 (by omega)) ?_
  refine jb_seg 1 (pc' := 16) (ls' := [some (.ref 0), some (.ref 1), some (.ref 79), none]) (st' := []) (σ' := (zs_264 L M N)) (G := []) rfl trivial ?_
  exact zE_conv h
