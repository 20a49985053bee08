/-! the law's loop, out of the cases -/
theorem jl_c {i L : Nat} (hi : i + 6 ≤ L) (hL : L ≤ 3072) : ¬ (Int32.ofNat L - 6 < nI i) := by
  have e : Int32.ofNat L - 6 = nI (L - 6) := pk_sub (a := L) (b := 6) (by omega)
  rw [e]
  exact nI_nlt (by omega) (by omega)
theorem ls_0 {n L i : Nat} {M : jb_Mi} {N : jb_Ml} (hn : n < 512) (h : jInv n M N) (hi : i + 6 ≤ L) (hL : L ≤ 3072) (c : M 0 i &&& 63 = 0) : ∃ (M' : jb_Mi) (N' : jb_Ml), zf_0_H18 L (nI i, M, N) = some (.inl (nI (i + 6), M', N')) ∧ M' 0 = M 0 ∧ jInv (n + 1) M' N' := by
  obtain ⟨r, M1, M2, h1, e1, h2, e2, h3⟩ := ca_house hn h (M 0 (i + 1)) (M 0 (i + 2)) (M 0 (i + 3))
  refine ⟨M2, N, ?_, e2, h3⟩
  unfold zf_0_H18
  refine (if_neg (jl_c hi hL)).trans ?_
  refine (jn_gd (by omega) (by omega)).trans ?_
  refine (if_pos (by dsimp only; rw [nI_clamp (by omega), c])).trans ?_
  unfold zf_0_J1313
  try simp (disch := omega) only [jn_gd, nI_clamp, jn_addr]
  try dsimp only
  rw [h1]
  simp only [Option.bind_some]
  simp only [e1]
  rw [h2]
  simp only [Option.bind_some, if_true]
theorem ls_1 {n L i : Nat} {M : jb_Mi} {N : jb_Ml} (hn : n < 512) (h : jInv n M N) (hi : i + 6 ≤ L) (hL : L ≤ 3072) (c : M 0 i &&& 63 = 1) : ∃ (M' : jb_Mi) (N' : jb_Ml), zf_0_H18 L (nI i, M, N) = some (.inl (nI (i + 6), M', N')) ∧ M' 0 = M 0 ∧ jInv (n + 1) M' N' := by
  obtain ⟨r, M1, M2, h1, e1, h2, e2, h3⟩ := ca_thing hn h (M 0 (i + 1)) (M 0 (i + 2)) (M 0 (i + 3)) (M 0 (i + 4)) (M 0 (i + 5))
  refine ⟨M2, N, ?_, e2, h3⟩
  unfold zf_0_H18
  refine (if_neg (jl_c hi hL)).trans ?_
  refine (jn_gd (by omega) (by omega)).trans ?_
  refine (if_neg (by dsimp only; rw [nI_clamp (by omega), c]; decide)).trans ?_
  refine (if_pos (by dsimp only; rw [nI_clamp (by omega), c])).trans ?_
  unfold zf_0_J1313
  try simp (disch := omega) only [jn_gd, nI_clamp, jn_addr]
  try dsimp only
  rw [h1]
  simp only [Option.bind_some]
  simp only [e1]
  rw [h2]
  simp only [Option.bind_some, if_true]
theorem ls_2 {n L i : Nat} {M : jb_Mi} {N : jb_Ml} (hn : n < 512) (h : jInv n M N) (hi : i + 6 ≤ L) (hL : L ≤ 3072) (c : M 0 i &&& 63 = 2) : ∃ (M' : jb_Mi) (N' : jb_Ml), zf_0_H18 L (nI i, M, N) = some (.inl (nI (i + 6), M', N')) ∧ M' 0 = M 0 ∧ jInv (n + 1) M' N' := by
  obtain ⟨r, M1, M2, h1, e1, h2, e2, h3⟩ := ca_man hn h (M 0 (i + 1)) (M 0 (i + 2))
  refine ⟨M2, N, ?_, e2, h3⟩
  unfold zf_0_H18
  refine (if_neg (jl_c hi hL)).trans ?_
  refine (jn_gd (by omega) (by omega)).trans ?_
  refine (if_neg (by dsimp only; rw [nI_clamp (by omega), c]; decide)).trans ?_
  refine (if_neg (by dsimp only; rw [nI_clamp (by omega), c]; decide)).trans ?_
  refine (if_pos (by dsimp only; rw [nI_clamp (by omega), c])).trans ?_
  unfold zf_0_J1313
  try simp (disch := omega) only [jn_gd, nI_clamp, jn_addr]
  try dsimp only
  rw [h1]
  simp only [Option.bind_some]
  simp only [e1]
  rw [h2]
  simp only [Option.bind_some, if_true]
theorem ls_3 {n L i : Nat} {M : jb_Mi} {N : jb_Ml} (hn : n < 512) (h : jInv n M N) (hi : i + 6 ≤ L) (hL : L ≤ 3072) (c : M 0 i &&& 63 = 3) : ∃ (M' : jb_Mi) (N' : jb_Ml), zf_0_H18 L (nI i, M, N) = some (.inl (nI (i + 6), M', N')) ∧ M' 0 = M 0 ∧ jInv (n + 1) M' N' := by
  obtain ⟨r, M1, M2, h1, e1, h2, e2, h3⟩ := ca_feed hn h (M 0 (i + 1)) (M 0 (i + 2)) (M 0 (i + 3)) (M 0 (i + 4)) (M 0 (i + 5))
  refine ⟨M2, N, ?_, e2, h3⟩
  unfold zf_0_H18
  refine (if_neg (jl_c hi hL)).trans ?_
  refine (jn_gd (by omega) (by omega)).trans ?_
  refine (if_neg (by dsimp only; rw [nI_clamp (by omega), c]; decide)).trans ?_
  refine (if_neg (by dsimp only; rw [nI_clamp (by omega), c]; decide)).trans ?_
  refine (if_neg (by dsimp only; rw [nI_clamp (by omega), c]; decide)).trans ?_
  refine (if_pos (by dsimp only; rw [nI_clamp (by omega), c])).trans ?_
  unfold zf_0_J1313
  try simp (disch := omega) only [jn_gd, nI_clamp, jn_addr]
  try dsimp only
  rw [h1]
  simp only [Option.bind_some]
  simp only [e1]
  rw [h2]
  simp only [Option.bind_some, if_true]
theorem ls_4 {n L i : Nat} {M : jb_Mi} {N : jb_Ml} (hn : n < 512) (h : jInv n M N) (hi : i + 6 ≤ L) (hL : L ≤ 3072) (c : M 0 i &&& 63 = 4) : ∃ (M' : jb_Mi) (N' : jb_Ml), zf_0_H18 L (nI i, M, N) = some (.inl (nI (i + 6), M', N')) ∧ M' 0 = M 0 ∧ jInv (n + 1) M' N' := by
  obtain ⟨r, M1, M2, h1, e1, h2, e2, h3⟩ := ca_law hn h (M 0 (i + 1))
  refine ⟨M2, N, ?_, e2, h3⟩
  unfold zf_0_H18
  refine (if_neg (jl_c hi hL)).trans ?_
  refine (jn_gd (by omega) (by omega)).trans ?_
  refine (if_neg (by dsimp only; rw [nI_clamp (by omega), c]; decide)).trans ?_
  refine (if_neg (by dsimp only; rw [nI_clamp (by omega), c]; decide)).trans ?_
  refine (if_neg (by dsimp only; rw [nI_clamp (by omega), c]; decide)).trans ?_
  refine (if_neg (by dsimp only; rw [nI_clamp (by omega), c]; decide)).trans ?_
  refine (if_pos (by dsimp only; rw [nI_clamp (by omega), c])).trans ?_
  unfold zf_0_J1313
  try simp (disch := omega) only [jn_gd, nI_clamp, jn_addr]
  try dsimp only
  rw [h1]
  simp only [Option.bind_some]
  simp only [e1]
  rw [h2]
  simp only [Option.bind_some, if_true]
theorem ls_5 {n L i : Nat} {M : jb_Mi} {N : jb_Ml} (hn : n < 512) (h : jInv n M N) (hi : i + 6 ≤ L) (hL : L ≤ 3072) (c : M 0 i &&& 63 = 5) : ∃ (M' : jb_Mi) (N' : jb_Ml), zf_0_H18 L (nI i, M, N) = some (.inl (nI (i + 6), M', N')) ∧ M' 0 = M 0 ∧ jInv (n + 1) M' N' := by
  obtain ⟨r, M1, M2, h1, e1, h2, e2, h3⟩ := ca_roster hn h (M 0 (i + 1)) (M 0 (i + 2)) (M 0 (i + 3))
  refine ⟨M2, N, ?_, e2, h3⟩
  unfold zf_0_H18
  refine (if_neg (jl_c hi hL)).trans ?_
  refine (jn_gd (by omega) (by omega)).trans ?_
  refine (if_neg (by dsimp only; rw [nI_clamp (by omega), c]; decide)).trans ?_
  refine (if_neg (by dsimp only; rw [nI_clamp (by omega), c]; decide)).trans ?_
  refine (if_neg (by dsimp only; rw [nI_clamp (by omega), c]; decide)).trans ?_
  refine (if_neg (by dsimp only; rw [nI_clamp (by omega), c]; decide)).trans ?_
  refine (if_neg (by dsimp only; rw [nI_clamp (by omega), c]; decide)).trans ?_
  refine (if_pos (by dsimp only; rw [nI_clamp (by omega), c])).trans ?_
  unfold zf_0_J1313
  try simp (disch := omega) only [jn_gd, nI_clamp, jn_addr]
  try dsimp only
  rw [h1]
  simp only [Option.bind_some]
  simp only [e1]
  rw [h2]
  simp only [Option.bind_some, if_true]
theorem ls_6 {n L i : Nat} {M : jb_Mi} {N : jb_Ml} (hn : n < 512) (h : jInv n M N) (hi : i + 6 ≤ L) (hL : L ≤ 3072) (c : M 0 i &&& 63 = 6) : ∃ (M' : jb_Mi) (N' : jb_Ml), zf_0_H18 L (nI i, M, N) = some (.inl (nI (i + 6), M', N')) ∧ M' 0 = M 0 ∧ jInv (n + 1) M' N' := by
  obtain ⟨r, M1, M2, h1, e1, h2, e2, h3⟩ := ca_orders hn h (M 0 (i + 1))
  refine ⟨M2, N, ?_, e2, h3⟩
  unfold zf_0_H18
  refine (if_neg (jl_c hi hL)).trans ?_
  refine (jn_gd (by omega) (by omega)).trans ?_
  refine (if_neg (by dsimp only; rw [nI_clamp (by omega), c]; decide)).trans ?_
  refine (if_neg (by dsimp only; rw [nI_clamp (by omega), c]; decide)).trans ?_
  refine (if_neg (by dsimp only; rw [nI_clamp (by omega), c]; decide)).trans ?_
  refine (if_neg (by dsimp only; rw [nI_clamp (by omega), c]; decide)).trans ?_
  refine (if_neg (by dsimp only; rw [nI_clamp (by omega), c]; decide)).trans ?_
  refine (if_neg (by dsimp only; rw [nI_clamp (by omega), c]; decide)).trans ?_
  refine (if_pos (by dsimp only; rw [nI_clamp (by omega), c])).trans ?_
  unfold zf_0_J1313
  try simp (disch := omega) only [jn_gd, nI_clamp, jn_addr]
  try dsimp only
  rw [h1]
  simp only [Option.bind_some]
  simp only [e1]
  rw [h2]
  simp only [Option.bind_some, if_true]
theorem ls_7 {n L i : Nat} {M : jb_Mi} {N : jb_Ml} (hn : n < 512) (h : jInv n M N) (hi : i + 6 ≤ L) (hL : L ≤ 3072) (c : M 0 i &&& 63 = 7) : ∃ (M' : jb_Mi) (N' : jb_Ml), zf_0_H18 L (nI i, M, N) = some (.inl (nI (i + 6), M', N')) ∧ M' 0 = M 0 ∧ jInv (n + 1) M' N' := by
  obtain ⟨r, M1, M2, h1, e1, h2, e2, h3⟩ := ca_hours hn h (M 0 (i + 1))
  refine ⟨M2, N, ?_, e2, h3⟩
  unfold zf_0_H18
  refine (if_neg (jl_c hi hL)).trans ?_
  refine (jn_gd (by omega) (by omega)).trans ?_
  refine (if_neg (by dsimp only; rw [nI_clamp (by omega), c]; decide)).trans ?_
  refine (if_neg (by dsimp only; rw [nI_clamp (by omega), c]; decide)).trans ?_
  refine (if_neg (by dsimp only; rw [nI_clamp (by omega), c]; decide)).trans ?_
  refine (if_neg (by dsimp only; rw [nI_clamp (by omega), c]; decide)).trans ?_
  refine (if_neg (by dsimp only; rw [nI_clamp (by omega), c]; decide)).trans ?_
  refine (if_neg (by dsimp only; rw [nI_clamp (by omega), c]; decide)).trans ?_
  refine (if_neg (by dsimp only; rw [nI_clamp (by omega), c]; decide)).trans ?_
  refine (if_pos (by dsimp only; rw [nI_clamp (by omega), c])).trans ?_
  unfold zf_0_J1313
  try simp (disch := omega) only [jn_gd, nI_clamp, jn_addr]
  try dsimp only
  rw [h1]
  simp only [Option.bind_some]
  simp only [e1]
  rw [h2]
  simp only [Option.bind_some, if_true]
theorem ls_8 {n L i : Nat} {M : jb_Mi} {N : jb_Ml} (hn : n < 512) (h : jInv n M N) (hi : i + 6 ≤ L) (hL : L ≤ 3072) (c : M 0 i &&& 63 = 8) : ∃ (M' : jb_Mi) (N' : jb_Ml), zf_0_H18 L (nI i, M, N) = some (.inl (nI (i + 6), M', N')) ∧ M' 0 = M 0 ∧ jInv (n + 1) M' N' := by
  obtain ⟨r, M1, M2, h1, e1, h2, e2, h3⟩ := ca_tried hn h (M 0 (i + 1)) (M 0 (i + 2))
  refine ⟨M2, N, ?_, e2, h3⟩
  unfold zf_0_H18
  refine (if_neg (jl_c hi hL)).trans ?_
  refine (jn_gd (by omega) (by omega)).trans ?_
  refine (if_neg (by dsimp only; rw [nI_clamp (by omega), c]; decide)).trans ?_
  refine (if_neg (by dsimp only; rw [nI_clamp (by omega), c]; decide)).trans ?_
  refine (if_neg (by dsimp only; rw [nI_clamp (by omega), c]; decide)).trans ?_
  refine (if_neg (by dsimp only; rw [nI_clamp (by omega), c]; decide)).trans ?_
  refine (if_neg (by dsimp only; rw [nI_clamp (by omega), c]; decide)).trans ?_
  refine (if_neg (by dsimp only; rw [nI_clamp (by omega), c]; decide)).trans ?_
  refine (if_neg (by dsimp only; rw [nI_clamp (by omega), c]; decide)).trans ?_
  refine (if_neg (by dsimp only; rw [nI_clamp (by omega), c]; decide)).trans ?_
  refine (if_pos (by dsimp only; rw [nI_clamp (by omega), c])).trans ?_
  unfold zf_0_J1313
  try simp (disch := omega) only [jn_gd, nI_clamp, jn_addr]
  try dsimp only
  rw [h1]
  simp only [Option.bind_some]
  simp only [e1]
  rw [h2]
  simp only [Option.bind_some, if_true]
theorem ls_9 {n L i : Nat} {M : jb_Mi} {N : jb_Ml} (hn : n < 512) (h : jInv n M N) (hi : i + 6 ≤ L) (hL : L ≤ 3072) (c : M 0 i &&& 63 = 9) : ∃ (M' : jb_Mi) (N' : jb_Ml), zf_0_H18 L (nI i, M, N) = some (.inl (nI (i + 6), M', N')) ∧ M' 0 = M 0 ∧ jInv (n + 1) M' N' := by
  obtain ⟨r, h1, h2, h3⟩ := ca_houseIs hn h (M 0 (i + 1)) (M 0 (i + 2))
  refine ⟨M, N, ?_, rfl, h3⟩
  unfold zf_0_H18
  refine (if_neg (jl_c hi hL)).trans ?_
  refine (jn_gd (by omega) (by omega)).trans ?_
  refine (if_neg (by dsimp only; rw [nI_clamp (by omega), c]; decide)).trans ?_
  refine (if_neg (by dsimp only; rw [nI_clamp (by omega), c]; decide)).trans ?_
  refine (if_neg (by dsimp only; rw [nI_clamp (by omega), c]; decide)).trans ?_
  refine (if_neg (by dsimp only; rw [nI_clamp (by omega), c]; decide)).trans ?_
  refine (if_neg (by dsimp only; rw [nI_clamp (by omega), c]; decide)).trans ?_
  refine (if_neg (by dsimp only; rw [nI_clamp (by omega), c]; decide)).trans ?_
  refine (if_neg (by dsimp only; rw [nI_clamp (by omega), c]; decide)).trans ?_
  refine (if_neg (by dsimp only; rw [nI_clamp (by omega), c]; decide)).trans ?_
  refine (if_neg (by dsimp only; rw [nI_clamp (by omega), c]; decide)).trans ?_
  refine (if_pos (by dsimp only; rw [nI_clamp (by omega), c])).trans ?_
  unfold zf_0_J1313
  try simp (disch := omega) only [jn_gd, nI_clamp, jn_addr]
  try dsimp only
  rw [h1]
  simp only [Option.bind_some]
  rw [h2]
  simp only [Option.bind_some, if_true]
theorem ls_10 {n L i : Nat} {M : jb_Mi} {N : jb_Ml} (hn : n < 512) (h : jInv n M N) (hi : i + 6 ≤ L) (hL : L ≤ 3072) (c : M 0 i &&& 63 = 10) : ∃ (M' : jb_Mi) (N' : jb_Ml), zf_0_H18 L (nI i, M, N) = some (.inl (nI (i + 6), M', N')) ∧ M' 0 = M 0 ∧ jInv (n + 1) M' N' := by
  obtain ⟨r, h1, h2, h3⟩ := ca_thingIs hn h (M 0 (i + 1)) (M 0 (i + 2))
  refine ⟨M, N, ?_, rfl, h3⟩
  unfold zf_0_H18
  refine (if_neg (jl_c hi hL)).trans ?_
  refine (jn_gd (by omega) (by omega)).trans ?_
  refine (if_neg (by dsimp only; rw [nI_clamp (by omega), c]; decide)).trans ?_
  refine (if_neg (by dsimp only; rw [nI_clamp (by omega), c]; decide)).trans ?_
  refine (if_neg (by dsimp only; rw [nI_clamp (by omega), c]; decide)).trans ?_
  refine (if_neg (by dsimp only; rw [nI_clamp (by omega), c]; decide)).trans ?_
  refine (if_neg (by dsimp only; rw [nI_clamp (by omega), c]; decide)).trans ?_
  refine (if_neg (by dsimp only; rw [nI_clamp (by omega), c]; decide)).trans ?_
  refine (if_neg (by dsimp only; rw [nI_clamp (by omega), c]; decide)).trans ?_
  refine (if_neg (by dsimp only; rw [nI_clamp (by omega), c]; decide)).trans ?_
  refine (if_neg (by dsimp only; rw [nI_clamp (by omega), c]; decide)).trans ?_
  refine (if_neg (by dsimp only; rw [nI_clamp (by omega), c]; decide)).trans ?_
  refine (if_pos (by dsimp only; rw [nI_clamp (by omega), c])).trans ?_
  unfold zf_0_J1313
  try simp (disch := omega) only [jn_gd, nI_clamp, jn_addr]
  try dsimp only
  rw [h1]
  simp only [Option.bind_some]
  rw [h2]
  simp only [Option.bind_some, if_true]
theorem ls_11 {n L i : Nat} {M : jb_Mi} {N : jb_Ml} (hn : n < 512) (h : jInv n M N) (hi : i + 6 ≤ L) (hL : L ≤ 3072) (c : M 0 i &&& 63 = 11) : ∃ (M' : jb_Mi) (N' : jb_Ml), zf_0_H18 L (nI i, M, N) = some (.inl (nI (i + 6), M', N')) ∧ M' 0 = M 0 ∧ jInv (n + 1) M' N' := by
  obtain ⟨r, h1, h2, h3⟩ := ca_manIs hn h (M 0 (i + 1)) (M 0 (i + 2))
  refine ⟨M, N, ?_, rfl, h3⟩
  unfold zf_0_H18
  refine (if_neg (jl_c hi hL)).trans ?_
  refine (jn_gd (by omega) (by omega)).trans ?_
  refine (if_neg (by dsimp only; rw [nI_clamp (by omega), c]; decide)).trans ?_
  refine (if_neg (by dsimp only; rw [nI_clamp (by omega), c]; decide)).trans ?_
  refine (if_neg (by dsimp only; rw [nI_clamp (by omega), c]; decide)).trans ?_
  refine (if_neg (by dsimp only; rw [nI_clamp (by omega), c]; decide)).trans ?_
  refine (if_neg (by dsimp only; rw [nI_clamp (by omega), c]; decide)).trans ?_
  refine (if_neg (by dsimp only; rw [nI_clamp (by omega), c]; decide)).trans ?_
  refine (if_neg (by dsimp only; rw [nI_clamp (by omega), c]; decide)).trans ?_
  refine (if_neg (by dsimp only; rw [nI_clamp (by omega), c]; decide)).trans ?_
  refine (if_neg (by dsimp only; rw [nI_clamp (by omega), c]; decide)).trans ?_
  refine (if_neg (by dsimp only; rw [nI_clamp (by omega), c]; decide)).trans ?_
  refine (if_neg (by dsimp only; rw [nI_clamp (by omega), c]; decide)).trans ?_
  refine (if_pos (by dsimp only; rw [nI_clamp (by omega), c])).trans ?_
  unfold zf_0_J1313
  try simp (disch := omega) only [jn_gd, nI_clamp, jn_addr]
  try dsimp only
  rw [h1]
  simp only [Option.bind_some]
  rw [h2]
  simp only [Option.bind_some, if_true]
theorem ls_12 {n L i : Nat} {M : jb_Mi} {N : jb_Ml} (hn : n < 512) (h : jInv n M N) (hi : i + 6 ≤ L) (hL : L ≤ 3072) (c : M 0 i &&& 63 = 12) : ∃ (M' : jb_Mi) (N' : jb_Ml), zf_0_H18 L (nI i, M, N) = some (.inl (nI (i + 6), M', N')) ∧ M' 0 = M 0 ∧ jInv (n + 1) M' N' := by
  obtain ⟨r, h1, h2, h3⟩ := ca_load hn h (M 0 (i + 1)) (M 0 (i + 2))
  refine ⟨M, N, ?_, rfl, h3⟩
  unfold zf_0_H18
  refine (if_neg (jl_c hi hL)).trans ?_
  refine (jn_gd (by omega) (by omega)).trans ?_
  refine (if_neg (by dsimp only; rw [nI_clamp (by omega), c]; decide)).trans ?_
  refine (if_neg (by dsimp only; rw [nI_clamp (by omega), c]; decide)).trans ?_
  refine (if_neg (by dsimp only; rw [nI_clamp (by omega), c]; decide)).trans ?_
  refine (if_neg (by dsimp only; rw [nI_clamp (by omega), c]; decide)).trans ?_
  refine (if_neg (by dsimp only; rw [nI_clamp (by omega), c]; decide)).trans ?_
  refine (if_neg (by dsimp only; rw [nI_clamp (by omega), c]; decide)).trans ?_
  refine (if_neg (by dsimp only; rw [nI_clamp (by omega), c]; decide)).trans ?_
  refine (if_neg (by dsimp only; rw [nI_clamp (by omega), c]; decide)).trans ?_
  refine (if_neg (by dsimp only; rw [nI_clamp (by omega), c]; decide)).trans ?_
  refine (if_neg (by dsimp only; rw [nI_clamp (by omega), c]; decide)).trans ?_
  refine (if_neg (by dsimp only; rw [nI_clamp (by omega), c]; decide)).trans ?_
  refine (if_neg (by dsimp only; rw [nI_clamp (by omega), c]; decide)).trans ?_
  refine (if_pos (by dsimp only; rw [nI_clamp (by omega), c])).trans ?_
  unfold zf_0_J1313
  try simp (disch := omega) only [jn_gd, nI_clamp, jn_addr]
  try dsimp only
  rw [h1]
  simp only [Option.bind_some]
  rw [h2]
  simp only [Option.bind_some, if_true]
theorem ls_13 {n L i : Nat} {M : jb_Mi} {N : jb_Ml} (hn : n < 512) (h : jInv n M N) (hi : i + 6 ≤ L) (hL : L ≤ 3072) (c : M 0 i &&& 63 = 13) : ∃ (M' : jb_Mi) (N' : jb_Ml), zf_0_H18 L (nI i, M, N) = some (.inl (nI (i + 6), M', N')) ∧ M' 0 = M 0 ∧ jInv (n + 1) M' N' := by
  obtain ⟨r, h1, h2, h3⟩ := ca_duty hn h (M 0 (i + 1)) (M 0 (i + 2))
  refine ⟨M, N, ?_, rfl, h3⟩
  unfold zf_0_H18
  refine (if_neg (jl_c hi hL)).trans ?_
  refine (jn_gd (by omega) (by omega)).trans ?_
  refine (if_neg (by dsimp only; rw [nI_clamp (by omega), c]; decide)).trans ?_
  refine (if_neg (by dsimp only; rw [nI_clamp (by omega), c]; decide)).trans ?_
  refine (if_neg (by dsimp only; rw [nI_clamp (by omega), c]; decide)).trans ?_
  refine (if_neg (by dsimp only; rw [nI_clamp (by omega), c]; decide)).trans ?_
  refine (if_neg (by dsimp only; rw [nI_clamp (by omega), c]; decide)).trans ?_
  refine (if_neg (by dsimp only; rw [nI_clamp (by omega), c]; decide)).trans ?_
  refine (if_neg (by dsimp only; rw [nI_clamp (by omega), c]; decide)).trans ?_
  refine (if_neg (by dsimp only; rw [nI_clamp (by omega), c]; decide)).trans ?_
  refine (if_neg (by dsimp only; rw [nI_clamp (by omega), c]; decide)).trans ?_
  refine (if_neg (by dsimp only; rw [nI_clamp (by omega), c]; decide)).trans ?_
  refine (if_neg (by dsimp only; rw [nI_clamp (by omega), c]; decide)).trans ?_
  refine (if_neg (by dsimp only; rw [nI_clamp (by omega), c]; decide)).trans ?_
  refine (if_neg (by dsimp only; rw [nI_clamp (by omega), c]; decide)).trans ?_
  refine (if_pos (by dsimp only; rw [nI_clamp (by omega), c])).trans ?_
  unfold zf_0_J1313
  try simp (disch := omega) only [jn_gd, nI_clamp, jn_addr]
  try dsimp only
  rw [h1]
  simp only [Option.bind_some]
  rw [h2]
  simp only [Option.bind_some, if_true]
theorem ls_14 {n L i : Nat} {M : jb_Mi} {N : jb_Ml} (hn : n < 512) (h : jInv n M N) (hi : i + 6 ≤ L) (hL : L ≤ 3072) (c : M 0 i &&& 63 = 14) : ∃ (M' : jb_Mi) (N' : jb_Ml), zf_0_H18 L (nI i, M, N) = some (.inl (nI (i + 6), M', N')) ∧ M' 0 = M 0 ∧ jInv (n + 1) M' N' := by
  obtain ⟨r, M1, M2, h1, e1, h2, e2, h3⟩ := ca_stands hn h (M 0 (i + 1)) (M 0 (i + 2))
  refine ⟨M2, N, ?_, e2, h3⟩
  unfold zf_0_H18
  refine (if_neg (jl_c hi hL)).trans ?_
  refine (jn_gd (by omega) (by omega)).trans ?_
  refine (if_neg (by dsimp only; rw [nI_clamp (by omega), c]; decide)).trans ?_
  refine (if_neg (by dsimp only; rw [nI_clamp (by omega), c]; decide)).trans ?_
  refine (if_neg (by dsimp only; rw [nI_clamp (by omega), c]; decide)).trans ?_
  refine (if_neg (by dsimp only; rw [nI_clamp (by omega), c]; decide)).trans ?_
  refine (if_neg (by dsimp only; rw [nI_clamp (by omega), c]; decide)).trans ?_
  refine (if_neg (by dsimp only; rw [nI_clamp (by omega), c]; decide)).trans ?_
  refine (if_neg (by dsimp only; rw [nI_clamp (by omega), c]; decide)).trans ?_
  refine (if_neg (by dsimp only; rw [nI_clamp (by omega), c]; decide)).trans ?_
  refine (if_neg (by dsimp only; rw [nI_clamp (by omega), c]; decide)).trans ?_
  refine (if_neg (by dsimp only; rw [nI_clamp (by omega), c]; decide)).trans ?_
  refine (if_neg (by dsimp only; rw [nI_clamp (by omega), c]; decide)).trans ?_
  refine (if_neg (by dsimp only; rw [nI_clamp (by omega), c]; decide)).trans ?_
  refine (if_neg (by dsimp only; rw [nI_clamp (by omega), c]; decide)).trans ?_
  refine (if_neg (by dsimp only; rw [nI_clamp (by omega), c]; decide)).trans ?_
  refine (if_pos (by dsimp only; rw [nI_clamp (by omega), c])).trans ?_
  unfold zf_0_J1313
  try simp (disch := omega) only [jn_gd, nI_clamp, jn_addr]
  try dsimp only
  rw [h1]
  simp only [Option.bind_some]
  simp only [e1]
  rw [h2]
  simp only [Option.bind_some, if_true]
theorem ls_15 {n L i : Nat} {M : jb_Mi} {N : jb_Ml} (hn : n < 512) (h : jInv n M N) (hi : i + 6 ≤ L) (hL : L ≤ 3072) (c : M 0 i &&& 63 = 15) : ∃ (M' : jb_Mi) (N' : jb_Ml), zf_0_H18 L (nI i, M, N) = some (.inl (nI (i + 6), M', N')) ∧ M' 0 = M 0 ∧ jInv (n + 1) M' N' := by
  obtain ⟨r, M1, M2, h1, e1, h2, e2, h3⟩ := ca_fallsFirst hn h (M 0 (i + 1))
  refine ⟨M2, N, ?_, e2, h3⟩
  unfold zf_0_H18
  refine (if_neg (jl_c hi hL)).trans ?_
  refine (jn_gd (by omega) (by omega)).trans ?_
  refine (if_neg (by dsimp only; rw [nI_clamp (by omega), c]; decide)).trans ?_
  refine (if_neg (by dsimp only; rw [nI_clamp (by omega), c]; decide)).trans ?_
  refine (if_neg (by dsimp only; rw [nI_clamp (by omega), c]; decide)).trans ?_
  refine (if_neg (by dsimp only; rw [nI_clamp (by omega), c]; decide)).trans ?_
  refine (if_neg (by dsimp only; rw [nI_clamp (by omega), c]; decide)).trans ?_
  refine (if_neg (by dsimp only; rw [nI_clamp (by omega), c]; decide)).trans ?_
  refine (if_neg (by dsimp only; rw [nI_clamp (by omega), c]; decide)).trans ?_
  refine (if_neg (by dsimp only; rw [nI_clamp (by omega), c]; decide)).trans ?_
  refine (if_neg (by dsimp only; rw [nI_clamp (by omega), c]; decide)).trans ?_
  refine (if_neg (by dsimp only; rw [nI_clamp (by omega), c]; decide)).trans ?_
  refine (if_neg (by dsimp only; rw [nI_clamp (by omega), c]; decide)).trans ?_
  refine (if_neg (by dsimp only; rw [nI_clamp (by omega), c]; decide)).trans ?_
  refine (if_neg (by dsimp only; rw [nI_clamp (by omega), c]; decide)).trans ?_
  refine (if_neg (by dsimp only; rw [nI_clamp (by omega), c]; decide)).trans ?_
  refine (if_neg (by dsimp only; rw [nI_clamp (by omega), c]; decide)).trans ?_
  refine (if_pos (by dsimp only; rw [nI_clamp (by omega), c])).trans ?_
  unfold zf_0_J1313
  try simp (disch := omega) only [jn_gd, nI_clamp, jn_addr]
  try dsimp only
  rw [h1]
  simp only [Option.bind_some]
  simp only [e1]
  rw [h2]
  simp only [Option.bind_some, if_true]
theorem ls_16 {n L i : Nat} {M : jb_Mi} {N : jb_Ml} (hn : n < 512) (h : jInv n M N) (hi : i + 6 ≤ L) (hL : L ≤ 3072) (c : M 0 i &&& 63 = 16) : ∃ (M' : jb_Mi) (N' : jb_Ml), zf_0_H18 L (nI i, M, N) = some (.inl (nI (i + 6), M', N')) ∧ M' 0 = M 0 ∧ jInv (n + 1) M' N' := by
  obtain ⟨r, M1, h1, e1, h2, h3⟩ := ca_bed hn h (M 0 (i + 1)) (M 0 (i + 2)) (M 0 (i + 3))
  refine ⟨M1, N, ?_, e1, h3⟩
  unfold zf_0_H18
  refine (if_neg (jl_c hi hL)).trans ?_
  refine (jn_gd (by omega) (by omega)).trans ?_
  refine (if_neg (by dsimp only; rw [nI_clamp (by omega), c]; decide)).trans ?_
  refine (if_neg (by dsimp only; rw [nI_clamp (by omega), c]; decide)).trans ?_
  refine (if_neg (by dsimp only; rw [nI_clamp (by omega), c]; decide)).trans ?_
  refine (if_neg (by dsimp only; rw [nI_clamp (by omega), c]; decide)).trans ?_
  refine (if_neg (by dsimp only; rw [nI_clamp (by omega), c]; decide)).trans ?_
  refine (if_neg (by dsimp only; rw [nI_clamp (by omega), c]; decide)).trans ?_
  refine (if_neg (by dsimp only; rw [nI_clamp (by omega), c]; decide)).trans ?_
  refine (if_neg (by dsimp only; rw [nI_clamp (by omega), c]; decide)).trans ?_
  refine (if_neg (by dsimp only; rw [nI_clamp (by omega), c]; decide)).trans ?_
  refine (if_neg (by dsimp only; rw [nI_clamp (by omega), c]; decide)).trans ?_
  refine (if_neg (by dsimp only; rw [nI_clamp (by omega), c]; decide)).trans ?_
  refine (if_neg (by dsimp only; rw [nI_clamp (by omega), c]; decide)).trans ?_
  refine (if_neg (by dsimp only; rw [nI_clamp (by omega), c]; decide)).trans ?_
  refine (if_neg (by dsimp only; rw [nI_clamp (by omega), c]; decide)).trans ?_
  refine (if_neg (by dsimp only; rw [nI_clamp (by omega), c]; decide)).trans ?_
  refine (if_neg (by dsimp only; rw [nI_clamp (by omega), c]; decide)).trans ?_
  refine (if_pos (by dsimp only; rw [nI_clamp (by omega), c])).trans ?_
  unfold zf_0_J1313
  try simp (disch := omega) only [jn_gd, nI_clamp, jn_addr]
  try dsimp only
  rw [h1]
  simp only [Option.bind_some]
  simp only [e1]
  rw [h2]
  simp only [Option.bind_some, if_true]
theorem ls_17 {n L i : Nat} {M : jb_Mi} {N : jb_Ml} (hn : n < 512) (h : jInv n M N) (hi : i + 6 ≤ L) (hL : L ≤ 3072) (c : M 0 i &&& 63 = 17) : ∃ (M' : jb_Mi) (N' : jb_Ml), zf_0_H18 L (nI i, M, N) = some (.inl (nI (i + 6), M', N')) ∧ M' 0 = M 0 ∧ jInv (n + 1) M' N' := by
  obtain ⟨r, M1, M2, h1, e1, h2, e2, h3⟩ := ca_stand hn h (M 0 (i + 1)) (M 0 (i + 2)) (M 0 (i + 3))
  refine ⟨M2, N, ?_, e2, h3⟩
  unfold zf_0_H18
  refine (if_neg (jl_c hi hL)).trans ?_
  refine (jn_gd (by omega) (by omega)).trans ?_
  refine (if_neg (by dsimp only; rw [nI_clamp (by omega), c]; decide)).trans ?_
  refine (if_neg (by dsimp only; rw [nI_clamp (by omega), c]; decide)).trans ?_
  refine (if_neg (by dsimp only; rw [nI_clamp (by omega), c]; decide)).trans ?_
  refine (if_neg (by dsimp only; rw [nI_clamp (by omega), c]; decide)).trans ?_
  refine (if_neg (by dsimp only; rw [nI_clamp (by omega), c]; decide)).trans ?_
  refine (if_neg (by dsimp only; rw [nI_clamp (by omega), c]; decide)).trans ?_
  refine (if_neg (by dsimp only; rw [nI_clamp (by omega), c]; decide)).trans ?_
  refine (if_neg (by dsimp only; rw [nI_clamp (by omega), c]; decide)).trans ?_
  refine (if_neg (by dsimp only; rw [nI_clamp (by omega), c]; decide)).trans ?_
  refine (if_neg (by dsimp only; rw [nI_clamp (by omega), c]; decide)).trans ?_
  refine (if_neg (by dsimp only; rw [nI_clamp (by omega), c]; decide)).trans ?_
  refine (if_neg (by dsimp only; rw [nI_clamp (by omega), c]; decide)).trans ?_
  refine (if_neg (by dsimp only; rw [nI_clamp (by omega), c]; decide)).trans ?_
  refine (if_neg (by dsimp only; rw [nI_clamp (by omega), c]; decide)).trans ?_
  refine (if_neg (by dsimp only; rw [nI_clamp (by omega), c]; decide)).trans ?_
  refine (if_neg (by dsimp only; rw [nI_clamp (by omega), c]; decide)).trans ?_
  refine (if_neg (by dsimp only; rw [nI_clamp (by omega), c]; decide)).trans ?_
  refine (if_pos (by dsimp only; rw [nI_clamp (by omega), c])).trans ?_
  unfold zf_0_J1313
  try simp (disch := omega) only [jn_gd, nI_clamp, jn_addr]
  try dsimp only
  rw [h1]
  simp only [Option.bind_some]
  simp only [e1]
  rw [h2]
  simp only [Option.bind_some, if_true]
theorem ls_18 {n L i : Nat} {M : jb_Mi} {N : jb_Ml} (hn : n < 512) (h : jInv n M N) (hi : i + 6 ≤ L) (hL : L ≤ 3072) (c : M 0 i &&& 63 = 18) : ∃ (M' : jb_Mi) (N' : jb_Ml), zf_0_H18 L (nI i, M, N) = some (.inl (nI (i + 6), M', N')) ∧ M' 0 = M 0 ∧ jInv (n + 1) M' N' := by
  obtain ⟨r, M1, M2, h1, e1, h2, e2, h3⟩ := ca_go hn h (M 0 (i + 1)) (M 0 (i + 2))
  refine ⟨M2, N, ?_, e2, h3⟩
  unfold zf_0_H18
  refine (if_neg (jl_c hi hL)).trans ?_
  refine (jn_gd (by omega) (by omega)).trans ?_
  refine (if_neg (by dsimp only; rw [nI_clamp (by omega), c]; decide)).trans ?_
  refine (if_neg (by dsimp only; rw [nI_clamp (by omega), c]; decide)).trans ?_
  refine (if_neg (by dsimp only; rw [nI_clamp (by omega), c]; decide)).trans ?_
  refine (if_neg (by dsimp only; rw [nI_clamp (by omega), c]; decide)).trans ?_
  refine (if_neg (by dsimp only; rw [nI_clamp (by omega), c]; decide)).trans ?_
  refine (if_neg (by dsimp only; rw [nI_clamp (by omega), c]; decide)).trans ?_
  refine (if_neg (by dsimp only; rw [nI_clamp (by omega), c]; decide)).trans ?_
  refine (if_neg (by dsimp only; rw [nI_clamp (by omega), c]; decide)).trans ?_
  refine (if_neg (by dsimp only; rw [nI_clamp (by omega), c]; decide)).trans ?_
  refine (if_neg (by dsimp only; rw [nI_clamp (by omega), c]; decide)).trans ?_
  refine (if_neg (by dsimp only; rw [nI_clamp (by omega), c]; decide)).trans ?_
  refine (if_neg (by dsimp only; rw [nI_clamp (by omega), c]; decide)).trans ?_
  refine (if_neg (by dsimp only; rw [nI_clamp (by omega), c]; decide)).trans ?_
  refine (if_neg (by dsimp only; rw [nI_clamp (by omega), c]; decide)).trans ?_
  refine (if_neg (by dsimp only; rw [nI_clamp (by omega), c]; decide)).trans ?_
  refine (if_neg (by dsimp only; rw [nI_clamp (by omega), c]; decide)).trans ?_
  refine (if_neg (by dsimp only; rw [nI_clamp (by omega), c]; decide)).trans ?_
  refine (if_neg (by dsimp only; rw [nI_clamp (by omega), c]; decide)).trans ?_
  refine (if_pos (by dsimp only; rw [nI_clamp (by omega), c])).trans ?_
  unfold zf_0_J1313
  try simp (disch := omega) only [jn_gd, nI_clamp, jn_addr]
  try dsimp only
  rw [h1]
  simp only [Option.bind_some]
  simp only [e1]
  rw [h2]
  simp only [Option.bind_some, if_true]
theorem ls_19 {n L i : Nat} {M : jb_Mi} {N : jb_Ml} (hn : n < 512) (h : jInv n M N) (hi : i + 6 ≤ L) (hL : L ≤ 3072) (c : M 0 i &&& 63 = 19) : ∃ (M' : jb_Mi) (N' : jb_Ml), zf_0_H18 L (nI i, M, N) = some (.inl (nI (i + 6), M', N')) ∧ M' 0 = M 0 ∧ jInv (n + 1) M' N' := by
  obtain ⟨r, M1, N1, M2, N2, h1, e1, h2, e2, h3⟩ := ca_felt hn h (M 0 (i + 1)) (M 0 (i + 2)) (M 0 (i + 3))
  refine ⟨M2, N2, ?_, e2, h3⟩
  unfold zf_0_H18
  refine (if_neg (jl_c hi hL)).trans ?_
  refine (jn_gd (by omega) (by omega)).trans ?_
  refine (if_neg (by dsimp only; rw [nI_clamp (by omega), c]; decide)).trans ?_
  refine (if_neg (by dsimp only; rw [nI_clamp (by omega), c]; decide)).trans ?_
  refine (if_neg (by dsimp only; rw [nI_clamp (by omega), c]; decide)).trans ?_
  refine (if_neg (by dsimp only; rw [nI_clamp (by omega), c]; decide)).trans ?_
  refine (if_neg (by dsimp only; rw [nI_clamp (by omega), c]; decide)).trans ?_
  refine (if_neg (by dsimp only; rw [nI_clamp (by omega), c]; decide)).trans ?_
  refine (if_neg (by dsimp only; rw [nI_clamp (by omega), c]; decide)).trans ?_
  refine (if_neg (by dsimp only; rw [nI_clamp (by omega), c]; decide)).trans ?_
  refine (if_neg (by dsimp only; rw [nI_clamp (by omega), c]; decide)).trans ?_
  refine (if_neg (by dsimp only; rw [nI_clamp (by omega), c]; decide)).trans ?_
  refine (if_neg (by dsimp only; rw [nI_clamp (by omega), c]; decide)).trans ?_
  refine (if_neg (by dsimp only; rw [nI_clamp (by omega), c]; decide)).trans ?_
  refine (if_neg (by dsimp only; rw [nI_clamp (by omega), c]; decide)).trans ?_
  refine (if_neg (by dsimp only; rw [nI_clamp (by omega), c]; decide)).trans ?_
  refine (if_neg (by dsimp only; rw [nI_clamp (by omega), c]; decide)).trans ?_
  refine (if_neg (by dsimp only; rw [nI_clamp (by omega), c]; decide)).trans ?_
  refine (if_neg (by dsimp only; rw [nI_clamp (by omega), c]; decide)).trans ?_
  refine (if_neg (by dsimp only; rw [nI_clamp (by omega), c]; decide)).trans ?_
  refine (if_neg (by dsimp only; rw [nI_clamp (by omega), c]; decide)).trans ?_
  refine (if_pos (by dsimp only; rw [nI_clamp (by omega), c])).trans ?_
  unfold zf_0_J1313
  try simp (disch := omega) only [jn_gd, nI_clamp, jn_addr]
  try dsimp only
  rw [h1]
  simp only [Option.bind_some]
  simp only [e1]
  rw [h2]
  simp only [Option.bind_some, if_true]
theorem ls_20 {n L i : Nat} {M : jb_Mi} {N : jb_Ml} (hn : n < 512) (h : jInv n M N) (hi : i + 6 ≤ L) (hL : L ≤ 3072) (c : M 0 i &&& 63 = 20) : ∃ (M' : jb_Mi) (N' : jb_Ml), zf_0_H18 L (nI i, M, N) = some (.inl (nI (i + 6), M', N')) ∧ M' 0 = M 0 ∧ jInv (n + 1) M' N' := by
  obtain ⟨r, M1, N1, M2, N2, h1, e1, h2, e2, h3⟩ := ca_twoFelt hn h (M 0 (i + 1)) (M 0 (i + 2)) (M 0 (i + 3)) (M 0 (i + 4))
  refine ⟨M2, N2, ?_, e2, h3⟩
  unfold zf_0_H18
  refine (if_neg (jl_c hi hL)).trans ?_
  refine (jn_gd (by omega) (by omega)).trans ?_
  refine (if_neg (by dsimp only; rw [nI_clamp (by omega), c]; decide)).trans ?_
  refine (if_neg (by dsimp only; rw [nI_clamp (by omega), c]; decide)).trans ?_
  refine (if_neg (by dsimp only; rw [nI_clamp (by omega), c]; decide)).trans ?_
  refine (if_neg (by dsimp only; rw [nI_clamp (by omega), c]; decide)).trans ?_
  refine (if_neg (by dsimp only; rw [nI_clamp (by omega), c]; decide)).trans ?_
  refine (if_neg (by dsimp only; rw [nI_clamp (by omega), c]; decide)).trans ?_
  refine (if_neg (by dsimp only; rw [nI_clamp (by omega), c]; decide)).trans ?_
  refine (if_neg (by dsimp only; rw [nI_clamp (by omega), c]; decide)).trans ?_
  refine (if_neg (by dsimp only; rw [nI_clamp (by omega), c]; decide)).trans ?_
  refine (if_neg (by dsimp only; rw [nI_clamp (by omega), c]; decide)).trans ?_
  refine (if_neg (by dsimp only; rw [nI_clamp (by omega), c]; decide)).trans ?_
  refine (if_neg (by dsimp only; rw [nI_clamp (by omega), c]; decide)).trans ?_
  refine (if_neg (by dsimp only; rw [nI_clamp (by omega), c]; decide)).trans ?_
  refine (if_neg (by dsimp only; rw [nI_clamp (by omega), c]; decide)).trans ?_
  refine (if_neg (by dsimp only; rw [nI_clamp (by omega), c]; decide)).trans ?_
  refine (if_neg (by dsimp only; rw [nI_clamp (by omega), c]; decide)).trans ?_
  refine (if_neg (by dsimp only; rw [nI_clamp (by omega), c]; decide)).trans ?_
  refine (if_neg (by dsimp only; rw [nI_clamp (by omega), c]; decide)).trans ?_
  refine (if_neg (by dsimp only; rw [nI_clamp (by omega), c]; decide)).trans ?_
  refine (if_neg (by dsimp only; rw [nI_clamp (by omega), c]; decide)).trans ?_
  refine (if_pos (by dsimp only; rw [nI_clamp (by omega), c])).trans ?_
  unfold zf_0_J1313
  try simp (disch := omega) only [jn_gd, nI_clamp, jn_addr]
  try dsimp only
  rw [h1]
  simp only [Option.bind_some]
  simp only [e1]
  rw [h2]
  simp only [Option.bind_some, if_true]
theorem ls_21 {n L i : Nat} {M : jb_Mi} {N : jb_Ml} (hn : n < 512) (h : jInv n M N) (hi : i + 6 ≤ L) (hL : L ≤ 3072) (c : M 0 i &&& 63 = 21) : ∃ (M' : jb_Mi) (N' : jb_Ml), zf_0_H18 L (nI i, M, N) = some (.inl (nI (i + 6), M', N')) ∧ M' 0 = M 0 ∧ jInv (n + 1) M' N' := by
  obtain ⟨r, h1, h2, h3⟩ := ca_knocked hn h (M 0 (i + 1)) (if M 0 (i + 2) = 0 then 0 else 1)
  refine ⟨M, N, ?_, rfl, h3⟩
  unfold zf_0_H18
  refine (if_neg (jl_c hi hL)).trans ?_
  refine (jn_gd (by omega) (by omega)).trans ?_
  refine (if_neg (by dsimp only; rw [nI_clamp (by omega), c]; decide)).trans ?_
  refine (if_neg (by dsimp only; rw [nI_clamp (by omega), c]; decide)).trans ?_
  refine (if_neg (by dsimp only; rw [nI_clamp (by omega), c]; decide)).trans ?_
  refine (if_neg (by dsimp only; rw [nI_clamp (by omega), c]; decide)).trans ?_
  refine (if_neg (by dsimp only; rw [nI_clamp (by omega), c]; decide)).trans ?_
  refine (if_neg (by dsimp only; rw [nI_clamp (by omega), c]; decide)).trans ?_
  refine (if_neg (by dsimp only; rw [nI_clamp (by omega), c]; decide)).trans ?_
  refine (if_neg (by dsimp only; rw [nI_clamp (by omega), c]; decide)).trans ?_
  refine (if_neg (by dsimp only; rw [nI_clamp (by omega), c]; decide)).trans ?_
  refine (if_neg (by dsimp only; rw [nI_clamp (by omega), c]; decide)).trans ?_
  refine (if_neg (by dsimp only; rw [nI_clamp (by omega), c]; decide)).trans ?_
  refine (if_neg (by dsimp only; rw [nI_clamp (by omega), c]; decide)).trans ?_
  refine (if_neg (by dsimp only; rw [nI_clamp (by omega), c]; decide)).trans ?_
  refine (if_neg (by dsimp only; rw [nI_clamp (by omega), c]; decide)).trans ?_
  refine (if_neg (by dsimp only; rw [nI_clamp (by omega), c]; decide)).trans ?_
  refine (if_neg (by dsimp only; rw [nI_clamp (by omega), c]; decide)).trans ?_
  refine (if_neg (by dsimp only; rw [nI_clamp (by omega), c]; decide)).trans ?_
  refine (if_neg (by dsimp only; rw [nI_clamp (by omega), c]; decide)).trans ?_
  refine (if_neg (by dsimp only; rw [nI_clamp (by omega), c]; decide)).trans ?_
  refine (if_neg (by dsimp only; rw [nI_clamp (by omega), c]; decide)).trans ?_
  refine (if_neg (by dsimp only; rw [nI_clamp (by omega), c]; decide)).trans ?_
  refine (if_pos (by dsimp only; rw [nI_clamp (by omega), c])).trans ?_
  unfold zf_0_J986 zf_0_J1008 zf_0_J1313
  simp (disch := omega) only [jn_gd, nI_clamp, jn_addr]
  by_cases c2 : M 0 (i + 2) = 0
  · simp only [c2, if_true, if_false] at h1 h2 ⊢
    rw [h1]
    simp only [Option.bind_some]
    rw [h2]
    simp only [Option.bind_some, if_true]
  · simp only [c2, if_true, if_false] at h1 h2 ⊢
    rw [h1]
    simp only [Option.bind_some]
    rw [h2]
    simp only [Option.bind_some, if_true]
theorem ls_22 {n L i : Nat} {M : jb_Mi} {N : jb_Ml} (hn : n < 512) (h : jInv n M N) (hi : i + 6 ≤ L) (hL : L ≤ 3072) (c : M 0 i &&& 63 = 22) : ∃ (M' : jb_Mi) (N' : jb_Ml), zf_0_H18 L (nI i, M, N) = some (.inl (nI (i + 6), M', N')) ∧ M' 0 = M 0 ∧ jInv (n + 1) M' N' := by
  obtain ⟨r, M1, h1, e1, h2, h3⟩ := ca_fewest hn h (M 0 (i + 1))
  refine ⟨M1, N, ?_, e1, h3⟩
  unfold zf_0_H18
  refine (if_neg (jl_c hi hL)).trans ?_
  refine (jn_gd (by omega) (by omega)).trans ?_
  refine (if_neg (by dsimp only; rw [nI_clamp (by omega), c]; decide)).trans ?_
  refine (if_neg (by dsimp only; rw [nI_clamp (by omega), c]; decide)).trans ?_
  refine (if_neg (by dsimp only; rw [nI_clamp (by omega), c]; decide)).trans ?_
  refine (if_neg (by dsimp only; rw [nI_clamp (by omega), c]; decide)).trans ?_
  refine (if_neg (by dsimp only; rw [nI_clamp (by omega), c]; decide)).trans ?_
  refine (if_neg (by dsimp only; rw [nI_clamp (by omega), c]; decide)).trans ?_
  refine (if_neg (by dsimp only; rw [nI_clamp (by omega), c]; decide)).trans ?_
  refine (if_neg (by dsimp only; rw [nI_clamp (by omega), c]; decide)).trans ?_
  refine (if_neg (by dsimp only; rw [nI_clamp (by omega), c]; decide)).trans ?_
  refine (if_neg (by dsimp only; rw [nI_clamp (by omega), c]; decide)).trans ?_
  refine (if_neg (by dsimp only; rw [nI_clamp (by omega), c]; decide)).trans ?_
  refine (if_neg (by dsimp only; rw [nI_clamp (by omega), c]; decide)).trans ?_
  refine (if_neg (by dsimp only; rw [nI_clamp (by omega), c]; decide)).trans ?_
  refine (if_neg (by dsimp only; rw [nI_clamp (by omega), c]; decide)).trans ?_
  refine (if_neg (by dsimp only; rw [nI_clamp (by omega), c]; decide)).trans ?_
  refine (if_neg (by dsimp only; rw [nI_clamp (by omega), c]; decide)).trans ?_
  refine (if_neg (by dsimp only; rw [nI_clamp (by omega), c]; decide)).trans ?_
  refine (if_neg (by dsimp only; rw [nI_clamp (by omega), c]; decide)).trans ?_
  refine (if_neg (by dsimp only; rw [nI_clamp (by omega), c]; decide)).trans ?_
  refine (if_neg (by dsimp only; rw [nI_clamp (by omega), c]; decide)).trans ?_
  refine (if_neg (by dsimp only; rw [nI_clamp (by omega), c]; decide)).trans ?_
  refine (if_neg (by dsimp only; rw [nI_clamp (by omega), c]; decide)).trans ?_
  refine (if_pos (by dsimp only; rw [nI_clamp (by omega), c])).trans ?_
  unfold zf_0_J1313
  try simp (disch := omega) only [jn_gd, nI_clamp, jn_addr]
  try dsimp only
  rw [h1]
  simp only [Option.bind_some]
  simp only [e1]
  rw [h2]
  simp only [Option.bind_some, if_true]
theorem ls_23 {n L i : Nat} {M : jb_Mi} {N : jb_Ml} (hn : n < 512) (h : jInv n M N) (hi : i + 6 ≤ L) (hL : L ≤ 3072) (c : M 0 i &&& 63 = 23) : ∃ (M' : jb_Mi) (N' : jb_Ml), zf_0_H18 L (nI i, M, N) = some (.inl (nI (i + 6), M', N')) ∧ M' 0 = M 0 ∧ jInv (n + 1) M' N' := by
  obtain ⟨r, M1, h1, e1, h2, h3⟩ := ca_strike hn h (M 0 (i + 1)) (M 0 (i + 2))
  refine ⟨M1, N, ?_, e1, h3⟩
  unfold zf_0_H18
  refine (if_neg (jl_c hi hL)).trans ?_
  refine (jn_gd (by omega) (by omega)).trans ?_
  refine (if_neg (by dsimp only; rw [nI_clamp (by omega), c]; decide)).trans ?_
  refine (if_neg (by dsimp only; rw [nI_clamp (by omega), c]; decide)).trans ?_
  refine (if_neg (by dsimp only; rw [nI_clamp (by omega), c]; decide)).trans ?_
  refine (if_neg (by dsimp only; rw [nI_clamp (by omega), c]; decide)).trans ?_
  refine (if_neg (by dsimp only; rw [nI_clamp (by omega), c]; decide)).trans ?_
  refine (if_neg (by dsimp only; rw [nI_clamp (by omega), c]; decide)).trans ?_
  refine (if_neg (by dsimp only; rw [nI_clamp (by omega), c]; decide)).trans ?_
  refine (if_neg (by dsimp only; rw [nI_clamp (by omega), c]; decide)).trans ?_
  refine (if_neg (by dsimp only; rw [nI_clamp (by omega), c]; decide)).trans ?_
  refine (if_neg (by dsimp only; rw [nI_clamp (by omega), c]; decide)).trans ?_
  refine (if_neg (by dsimp only; rw [nI_clamp (by omega), c]; decide)).trans ?_
  refine (if_neg (by dsimp only; rw [nI_clamp (by omega), c]; decide)).trans ?_
  refine (if_neg (by dsimp only; rw [nI_clamp (by omega), c]; decide)).trans ?_
  refine (if_neg (by dsimp only; rw [nI_clamp (by omega), c]; decide)).trans ?_
  refine (if_neg (by dsimp only; rw [nI_clamp (by omega), c]; decide)).trans ?_
  refine (if_neg (by dsimp only; rw [nI_clamp (by omega), c]; decide)).trans ?_
  refine (if_neg (by dsimp only; rw [nI_clamp (by omega), c]; decide)).trans ?_
  refine (if_neg (by dsimp only; rw [nI_clamp (by omega), c]; decide)).trans ?_
  refine (if_neg (by dsimp only; rw [nI_clamp (by omega), c]; decide)).trans ?_
  refine (if_neg (by dsimp only; rw [nI_clamp (by omega), c]; decide)).trans ?_
  refine (if_neg (by dsimp only; rw [nI_clamp (by omega), c]; decide)).trans ?_
  refine (if_neg (by dsimp only; rw [nI_clamp (by omega), c]; decide)).trans ?_
  refine (if_neg (by dsimp only; rw [nI_clamp (by omega), c]; decide)).trans ?_
  refine (if_pos (by dsimp only; rw [nI_clamp (by omega), c])).trans ?_
  unfold zf_0_J1313
  try simp (disch := omega) only [jn_gd, nI_clamp, jn_addr]
  try dsimp only
  rw [h1]
  simp only [Option.bind_some]
  simp only [e1]
  rw [h2]
  simp only [Option.bind_some, if_true]
theorem ls_24 {n L i : Nat} {M : jb_Mi} {N : jb_Ml} (hn : n < 512) (h : jInv n M N) (hi : i + 6 ≤ L) (hL : L ≤ 3072) (c : M 0 i &&& 63 = 24) : ∃ (M' : jb_Mi) (N' : jb_Ml), zf_0_H18 L (nI i, M, N) = some (.inl (nI (i + 6), M', N')) ∧ M' 0 = M 0 ∧ jInv (n + 1) M' N' := by
  obtain ⟨r, M1, N1, M2, N2, h1, e1, h2, e2, h3⟩ := ca_bricks hn h (M 0 (i + 1)) (M 0 (i + 2))
  refine ⟨M2, N2, ?_, e2, h3⟩
  unfold zf_0_H18
  refine (if_neg (jl_c hi hL)).trans ?_
  refine (jn_gd (by omega) (by omega)).trans ?_
  refine (if_neg (by dsimp only; rw [nI_clamp (by omega), c]; decide)).trans ?_
  refine (if_neg (by dsimp only; rw [nI_clamp (by omega), c]; decide)).trans ?_
  refine (if_neg (by dsimp only; rw [nI_clamp (by omega), c]; decide)).trans ?_
  refine (if_neg (by dsimp only; rw [nI_clamp (by omega), c]; decide)).trans ?_
  refine (if_neg (by dsimp only; rw [nI_clamp (by omega), c]; decide)).trans ?_
  refine (if_neg (by dsimp only; rw [nI_clamp (by omega), c]; decide)).trans ?_
  refine (if_neg (by dsimp only; rw [nI_clamp (by omega), c]; decide)).trans ?_
  refine (if_neg (by dsimp only; rw [nI_clamp (by omega), c]; decide)).trans ?_
  refine (if_neg (by dsimp only; rw [nI_clamp (by omega), c]; decide)).trans ?_
  refine (if_neg (by dsimp only; rw [nI_clamp (by omega), c]; decide)).trans ?_
  refine (if_neg (by dsimp only; rw [nI_clamp (by omega), c]; decide)).trans ?_
  refine (if_neg (by dsimp only; rw [nI_clamp (by omega), c]; decide)).trans ?_
  refine (if_neg (by dsimp only; rw [nI_clamp (by omega), c]; decide)).trans ?_
  refine (if_neg (by dsimp only; rw [nI_clamp (by omega), c]; decide)).trans ?_
  refine (if_neg (by dsimp only; rw [nI_clamp (by omega), c]; decide)).trans ?_
  refine (if_neg (by dsimp only; rw [nI_clamp (by omega), c]; decide)).trans ?_
  refine (if_neg (by dsimp only; rw [nI_clamp (by omega), c]; decide)).trans ?_
  refine (if_neg (by dsimp only; rw [nI_clamp (by omega), c]; decide)).trans ?_
  refine (if_neg (by dsimp only; rw [nI_clamp (by omega), c]; decide)).trans ?_
  refine (if_neg (by dsimp only; rw [nI_clamp (by omega), c]; decide)).trans ?_
  refine (if_neg (by dsimp only; rw [nI_clamp (by omega), c]; decide)).trans ?_
  refine (if_neg (by dsimp only; rw [nI_clamp (by omega), c]; decide)).trans ?_
  refine (if_neg (by dsimp only; rw [nI_clamp (by omega), c]; decide)).trans ?_
  refine (if_neg (by dsimp only; rw [nI_clamp (by omega), c]; decide)).trans ?_
  refine (if_pos (by dsimp only; rw [nI_clamp (by omega), c])).trans ?_
  unfold zf_0_J1313
  try simp (disch := omega) only [jn_gd, nI_clamp, jn_addr]
  try dsimp only
  rw [h1]
  simp only [Option.bind_some]
  simp only [e1]
  rw [h2]
  simp only [Option.bind_some, if_true]
  exact if_pos (by simp [lg_cmp])
theorem ls_25 {n L i : Nat} {M : jb_Mi} {N : jb_Ml} (hn : n < 512) (h : jInv n M N) (hi : i + 6 ≤ L) (hL : L ≤ 3072) (c : M 0 i &&& 63 = 25) : ∃ (M' : jb_Mi) (N' : jb_Ml), zf_0_H18 L (nI i, M, N) = some (.inl (nI (i + 6), M', N')) ∧ M' 0 = M 0 ∧ jInv (n + 1) M' N' := by
  obtain ⟨r, M1, M2, h1, e1, h2, e2, h3⟩ := ca_bread hn h (M 0 (i + 1))
  refine ⟨M2, N, ?_, e2, h3⟩
  unfold zf_0_H18
  refine (if_neg (jl_c hi hL)).trans ?_
  refine (jn_gd (by omega) (by omega)).trans ?_
  refine (if_neg (by dsimp only; rw [nI_clamp (by omega), c]; decide)).trans ?_
  refine (if_neg (by dsimp only; rw [nI_clamp (by omega), c]; decide)).trans ?_
  refine (if_neg (by dsimp only; rw [nI_clamp (by omega), c]; decide)).trans ?_
  refine (if_neg (by dsimp only; rw [nI_clamp (by omega), c]; decide)).trans ?_
  refine (if_neg (by dsimp only; rw [nI_clamp (by omega), c]; decide)).trans ?_
  refine (if_neg (by dsimp only; rw [nI_clamp (by omega), c]; decide)).trans ?_
  refine (if_neg (by dsimp only; rw [nI_clamp (by omega), c]; decide)).trans ?_
  refine (if_neg (by dsimp only; rw [nI_clamp (by omega), c]; decide)).trans ?_
  refine (if_neg (by dsimp only; rw [nI_clamp (by omega), c]; decide)).trans ?_
  refine (if_neg (by dsimp only; rw [nI_clamp (by omega), c]; decide)).trans ?_
  refine (if_neg (by dsimp only; rw [nI_clamp (by omega), c]; decide)).trans ?_
  refine (if_neg (by dsimp only; rw [nI_clamp (by omega), c]; decide)).trans ?_
  refine (if_neg (by dsimp only; rw [nI_clamp (by omega), c]; decide)).trans ?_
  refine (if_neg (by dsimp only; rw [nI_clamp (by omega), c]; decide)).trans ?_
  refine (if_neg (by dsimp only; rw [nI_clamp (by omega), c]; decide)).trans ?_
  refine (if_neg (by dsimp only; rw [nI_clamp (by omega), c]; decide)).trans ?_
  refine (if_neg (by dsimp only; rw [nI_clamp (by omega), c]; decide)).trans ?_
  refine (if_neg (by dsimp only; rw [nI_clamp (by omega), c]; decide)).trans ?_
  refine (if_neg (by dsimp only; rw [nI_clamp (by omega), c]; decide)).trans ?_
  refine (if_neg (by dsimp only; rw [nI_clamp (by omega), c]; decide)).trans ?_
  refine (if_neg (by dsimp only; rw [nI_clamp (by omega), c]; decide)).trans ?_
  refine (if_neg (by dsimp only; rw [nI_clamp (by omega), c]; decide)).trans ?_
  refine (if_neg (by dsimp only; rw [nI_clamp (by omega), c]; decide)).trans ?_
  refine (if_neg (by dsimp only; rw [nI_clamp (by omega), c]; decide)).trans ?_
  refine (if_neg (by dsimp only; rw [nI_clamp (by omega), c]; decide)).trans ?_
  refine (if_pos (by dsimp only; rw [nI_clamp (by omega), c])).trans ?_
  unfold zf_0_J1313
  try simp (disch := omega) only [jn_gd, nI_clamp, jn_addr]
  try dsimp only
  rw [h1]
  simp only [Option.bind_some]
  simp only [e1]
  rw [h2]
  simp only [Option.bind_some, if_true]
theorem ls_26 {n L i : Nat} {M : jb_Mi} {N : jb_Ml} (hn : n < 512) (h : jInv n M N) (hi : i + 6 ≤ L) (hL : L ≤ 3072) (c : M 0 i &&& 63 = 26) : ∃ (M' : jb_Mi) (N' : jb_Ml), zf_0_H18 L (nI i, M, N) = some (.inl (nI (i + 6), M', N')) ∧ M' 0 = M 0 ∧ jInv (n + 1) M' N' := by
  obtain ⟨r, M1, M2, h1, e1, h2, e2, h3⟩ := ca_beams hn h (M 0 (i + 1))
  refine ⟨M2, N, ?_, e2, h3⟩
  unfold zf_0_H18
  refine (if_neg (jl_c hi hL)).trans ?_
  refine (jn_gd (by omega) (by omega)).trans ?_
  refine (if_neg (by dsimp only; rw [nI_clamp (by omega), c]; decide)).trans ?_
  refine (if_neg (by dsimp only; rw [nI_clamp (by omega), c]; decide)).trans ?_
  refine (if_neg (by dsimp only; rw [nI_clamp (by omega), c]; decide)).trans ?_
  refine (if_neg (by dsimp only; rw [nI_clamp (by omega), c]; decide)).trans ?_
  refine (if_neg (by dsimp only; rw [nI_clamp (by omega), c]; decide)).trans ?_
  refine (if_neg (by dsimp only; rw [nI_clamp (by omega), c]; decide)).trans ?_
  refine (if_neg (by dsimp only; rw [nI_clamp (by omega), c]; decide)).trans ?_
  refine (if_neg (by dsimp only; rw [nI_clamp (by omega), c]; decide)).trans ?_
  refine (if_neg (by dsimp only; rw [nI_clamp (by omega), c]; decide)).trans ?_
  refine (if_neg (by dsimp only; rw [nI_clamp (by omega), c]; decide)).trans ?_
  refine (if_neg (by dsimp only; rw [nI_clamp (by omega), c]; decide)).trans ?_
  refine (if_neg (by dsimp only; rw [nI_clamp (by omega), c]; decide)).trans ?_
  refine (if_neg (by dsimp only; rw [nI_clamp (by omega), c]; decide)).trans ?_
  refine (if_neg (by dsimp only; rw [nI_clamp (by omega), c]; decide)).trans ?_
  refine (if_neg (by dsimp only; rw [nI_clamp (by omega), c]; decide)).trans ?_
  refine (if_neg (by dsimp only; rw [nI_clamp (by omega), c]; decide)).trans ?_
  refine (if_neg (by dsimp only; rw [nI_clamp (by omega), c]; decide)).trans ?_
  refine (if_neg (by dsimp only; rw [nI_clamp (by omega), c]; decide)).trans ?_
  refine (if_neg (by dsimp only; rw [nI_clamp (by omega), c]; decide)).trans ?_
  refine (if_neg (by dsimp only; rw [nI_clamp (by omega), c]; decide)).trans ?_
  refine (if_neg (by dsimp only; rw [nI_clamp (by omega), c]; decide)).trans ?_
  refine (if_neg (by dsimp only; rw [nI_clamp (by omega), c]; decide)).trans ?_
  refine (if_neg (by dsimp only; rw [nI_clamp (by omega), c]; decide)).trans ?_
  refine (if_neg (by dsimp only; rw [nI_clamp (by omega), c]; decide)).trans ?_
  refine (if_neg (by dsimp only; rw [nI_clamp (by omega), c]; decide)).trans ?_
  refine (if_neg (by dsimp only; rw [nI_clamp (by omega), c]; decide)).trans ?_
  refine (if_pos (by dsimp only; rw [nI_clamp (by omega), c])).trans ?_
  unfold zf_0_J1313
  try simp (disch := omega) only [jn_gd, nI_clamp, jn_addr]
  try dsimp only
  rw [h1]
  simp only [Option.bind_some]
  simp only [e1]
  rw [h2]
  simp only [Option.bind_some, if_true]
theorem ls_27 {n L i : Nat} {M : jb_Mi} {N : jb_Ml} (hn : n < 512) (h : jInv n M N) (hi : i + 6 ≤ L) (hL : L ≤ 3072) (c : M 0 i &&& 63 = 27) : ∃ (M' : jb_Mi) (N' : jb_Ml), zf_0_H18 L (nI i, M, N) = some (.inl (nI (i + 6), M', N')) ∧ M' 0 = M 0 ∧ jInv (n + 1) M' N' := by
  obtain ⟨r, h1, h2, h3⟩ := ca_relieved hn h (M 0 (i + 1)) (M 0 (i + 2)) (M 0 (i + 3))
  refine ⟨M, N, ?_, rfl, h3⟩
  unfold zf_0_H18
  refine (if_neg (jl_c hi hL)).trans ?_
  refine (jn_gd (by omega) (by omega)).trans ?_
  refine (if_neg (by dsimp only; rw [nI_clamp (by omega), c]; decide)).trans ?_
  refine (if_neg (by dsimp only; rw [nI_clamp (by omega), c]; decide)).trans ?_
  refine (if_neg (by dsimp only; rw [nI_clamp (by omega), c]; decide)).trans ?_
  refine (if_neg (by dsimp only; rw [nI_clamp (by omega), c]; decide)).trans ?_
  refine (if_neg (by dsimp only; rw [nI_clamp (by omega), c]; decide)).trans ?_
  refine (if_neg (by dsimp only; rw [nI_clamp (by omega), c]; decide)).trans ?_
  refine (if_neg (by dsimp only; rw [nI_clamp (by omega), c]; decide)).trans ?_
  refine (if_neg (by dsimp only; rw [nI_clamp (by omega), c]; decide)).trans ?_
  refine (if_neg (by dsimp only; rw [nI_clamp (by omega), c]; decide)).trans ?_
  refine (if_neg (by dsimp only; rw [nI_clamp (by omega), c]; decide)).trans ?_
  refine (if_neg (by dsimp only; rw [nI_clamp (by omega), c]; decide)).trans ?_
  refine (if_neg (by dsimp only; rw [nI_clamp (by omega), c]; decide)).trans ?_
  refine (if_neg (by dsimp only; rw [nI_clamp (by omega), c]; decide)).trans ?_
  refine (if_neg (by dsimp only; rw [nI_clamp (by omega), c]; decide)).trans ?_
  refine (if_neg (by dsimp only; rw [nI_clamp (by omega), c]; decide)).trans ?_
  refine (if_neg (by dsimp only; rw [nI_clamp (by omega), c]; decide)).trans ?_
  refine (if_neg (by dsimp only; rw [nI_clamp (by omega), c]; decide)).trans ?_
  refine (if_neg (by dsimp only; rw [nI_clamp (by omega), c]; decide)).trans ?_
  refine (if_neg (by dsimp only; rw [nI_clamp (by omega), c]; decide)).trans ?_
  refine (if_neg (by dsimp only; rw [nI_clamp (by omega), c]; decide)).trans ?_
  refine (if_neg (by dsimp only; rw [nI_clamp (by omega), c]; decide)).trans ?_
  refine (if_neg (by dsimp only; rw [nI_clamp (by omega), c]; decide)).trans ?_
  refine (if_neg (by dsimp only; rw [nI_clamp (by omega), c]; decide)).trans ?_
  refine (if_neg (by dsimp only; rw [nI_clamp (by omega), c]; decide)).trans ?_
  refine (if_neg (by dsimp only; rw [nI_clamp (by omega), c]; decide)).trans ?_
  refine (if_neg (by dsimp only; rw [nI_clamp (by omega), c]; decide)).trans ?_
  refine (if_neg (by dsimp only; rw [nI_clamp (by omega), c]; decide)).trans ?_
  refine (if_pos (by dsimp only; rw [nI_clamp (by omega), c])).trans ?_
  unfold zf_0_J1313
  try simp (disch := omega) only [jn_gd, nI_clamp, jn_addr]
  try dsimp only
  rw [h1]
  simp only [Option.bind_some]
  rw [h2]
  simp only [Option.bind_some, if_true]
theorem ls_28 {n L i : Nat} {M : jb_Mi} {N : jb_Ml} (hn : n < 512) (h : jInv n M N) (hi : i + 6 ≤ L) (hL : L ≤ 3072) (c : M 0 i &&& 63 = 28) : ∃ (M' : jb_Mi) (N' : jb_Ml), zf_0_H18 L (nI i, M, N) = some (.inl (nI (i + 6), M', N')) ∧ M' 0 = M 0 ∧ jInv (n + 1) M' N' := by
  obtain ⟨r, h1, h2, h3⟩ := ca_heaviest hn h (M 0 (i + 1))
  refine ⟨M, N, ?_, rfl, h3⟩
  unfold zf_0_H18
  refine (if_neg (jl_c hi hL)).trans ?_
  refine (jn_gd (by omega) (by omega)).trans ?_
  refine (if_neg (by dsimp only; rw [nI_clamp (by omega), c]; decide)).trans ?_
  refine (if_neg (by dsimp only; rw [nI_clamp (by omega), c]; decide)).trans ?_
  refine (if_neg (by dsimp only; rw [nI_clamp (by omega), c]; decide)).trans ?_
  refine (if_neg (by dsimp only; rw [nI_clamp (by omega), c]; decide)).trans ?_
  refine (if_neg (by dsimp only; rw [nI_clamp (by omega), c]; decide)).trans ?_
  refine (if_neg (by dsimp only; rw [nI_clamp (by omega), c]; decide)).trans ?_
  refine (if_neg (by dsimp only; rw [nI_clamp (by omega), c]; decide)).trans ?_
  refine (if_neg (by dsimp only; rw [nI_clamp (by omega), c]; decide)).trans ?_
  refine (if_neg (by dsimp only; rw [nI_clamp (by omega), c]; decide)).trans ?_
  refine (if_neg (by dsimp only; rw [nI_clamp (by omega), c]; decide)).trans ?_
  refine (if_neg (by dsimp only; rw [nI_clamp (by omega), c]; decide)).trans ?_
  refine (if_neg (by dsimp only; rw [nI_clamp (by omega), c]; decide)).trans ?_
  refine (if_neg (by dsimp only; rw [nI_clamp (by omega), c]; decide)).trans ?_
  refine (if_neg (by dsimp only; rw [nI_clamp (by omega), c]; decide)).trans ?_
  refine (if_neg (by dsimp only; rw [nI_clamp (by omega), c]; decide)).trans ?_
  refine (if_neg (by dsimp only; rw [nI_clamp (by omega), c]; decide)).trans ?_
  refine (if_neg (by dsimp only; rw [nI_clamp (by omega), c]; decide)).trans ?_
  refine (if_neg (by dsimp only; rw [nI_clamp (by omega), c]; decide)).trans ?_
  refine (if_neg (by dsimp only; rw [nI_clamp (by omega), c]; decide)).trans ?_
  refine (if_neg (by dsimp only; rw [nI_clamp (by omega), c]; decide)).trans ?_
  refine (if_neg (by dsimp only; rw [nI_clamp (by omega), c]; decide)).trans ?_
  refine (if_neg (by dsimp only; rw [nI_clamp (by omega), c]; decide)).trans ?_
  refine (if_neg (by dsimp only; rw [nI_clamp (by omega), c]; decide)).trans ?_
  refine (if_neg (by dsimp only; rw [nI_clamp (by omega), c]; decide)).trans ?_
  refine (if_neg (by dsimp only; rw [nI_clamp (by omega), c]; decide)).trans ?_
  refine (if_neg (by dsimp only; rw [nI_clamp (by omega), c]; decide)).trans ?_
  refine (if_neg (by dsimp only; rw [nI_clamp (by omega), c]; decide)).trans ?_
  refine (if_neg (by dsimp only; rw [nI_clamp (by omega), c]; decide)).trans ?_
  refine (if_pos (by dsimp only; rw [nI_clamp (by omega), c])).trans ?_
  unfold zf_0_J1313
  try simp (disch := omega) only [jn_gd, nI_clamp, jn_addr]
  try dsimp only
  rw [h1]
  simp only [Option.bind_some]
  rw [h2]
  simp only [Option.bind_some, if_true]
theorem ls_29 {n L i : Nat} {M : jb_Mi} {N : jb_Ml} (hn : n < 512) (h : jInv n M N) (hi : i + 6 ≤ L) (hL : L ≤ 3072) (c : M 0 i &&& 63 = 29) : ∃ (M' : jb_Mi) (N' : jb_Ml), zf_0_H18 L (nI i, M, N) = some (.inl (nI (i + 6), M', N')) ∧ M' 0 = M 0 ∧ jInv (n + 1) M' N' := by
  obtain ⟨r, M1, M2, h1, e1, h2, e2, h3⟩ := ca_seed hn h (M 0 (i + 1))
  refine ⟨M2, N, ?_, e2, h3⟩
  unfold zf_0_H18
  refine (if_neg (jl_c hi hL)).trans ?_
  refine (jn_gd (by omega) (by omega)).trans ?_
  refine (if_neg (by dsimp only; rw [nI_clamp (by omega), c]; decide)).trans ?_
  refine (if_neg (by dsimp only; rw [nI_clamp (by omega), c]; decide)).trans ?_
  refine (if_neg (by dsimp only; rw [nI_clamp (by omega), c]; decide)).trans ?_
  refine (if_neg (by dsimp only; rw [nI_clamp (by omega), c]; decide)).trans ?_
  refine (if_neg (by dsimp only; rw [nI_clamp (by omega), c]; decide)).trans ?_
  refine (if_neg (by dsimp only; rw [nI_clamp (by omega), c]; decide)).trans ?_
  refine (if_neg (by dsimp only; rw [nI_clamp (by omega), c]; decide)).trans ?_
  refine (if_neg (by dsimp only; rw [nI_clamp (by omega), c]; decide)).trans ?_
  refine (if_neg (by dsimp only; rw [nI_clamp (by omega), c]; decide)).trans ?_
  refine (if_neg (by dsimp only; rw [nI_clamp (by omega), c]; decide)).trans ?_
  refine (if_neg (by dsimp only; rw [nI_clamp (by omega), c]; decide)).trans ?_
  refine (if_neg (by dsimp only; rw [nI_clamp (by omega), c]; decide)).trans ?_
  refine (if_neg (by dsimp only; rw [nI_clamp (by omega), c]; decide)).trans ?_
  refine (if_neg (by dsimp only; rw [nI_clamp (by omega), c]; decide)).trans ?_
  refine (if_neg (by dsimp only; rw [nI_clamp (by omega), c]; decide)).trans ?_
  refine (if_neg (by dsimp only; rw [nI_clamp (by omega), c]; decide)).trans ?_
  refine (if_neg (by dsimp only; rw [nI_clamp (by omega), c]; decide)).trans ?_
  refine (if_neg (by dsimp only; rw [nI_clamp (by omega), c]; decide)).trans ?_
  refine (if_neg (by dsimp only; rw [nI_clamp (by omega), c]; decide)).trans ?_
  refine (if_neg (by dsimp only; rw [nI_clamp (by omega), c]; decide)).trans ?_
  refine (if_neg (by dsimp only; rw [nI_clamp (by omega), c]; decide)).trans ?_
  refine (if_neg (by dsimp only; rw [nI_clamp (by omega), c]; decide)).trans ?_
  refine (if_neg (by dsimp only; rw [nI_clamp (by omega), c]; decide)).trans ?_
  refine (if_neg (by dsimp only; rw [nI_clamp (by omega), c]; decide)).trans ?_
  refine (if_neg (by dsimp only; rw [nI_clamp (by omega), c]; decide)).trans ?_
  refine (if_neg (by dsimp only; rw [nI_clamp (by omega), c]; decide)).trans ?_
  refine (if_neg (by dsimp only; rw [nI_clamp (by omega), c]; decide)).trans ?_
  refine (if_neg (by dsimp only; rw [nI_clamp (by omega), c]; decide)).trans ?_
  refine (if_neg (by dsimp only; rw [nI_clamp (by omega), c]; decide)).trans ?_
  refine (if_pos (by dsimp only; rw [nI_clamp (by omega), c])).trans ?_
  unfold zf_0_J1313
  try simp (disch := omega) only [jn_gd, nI_clamp, jn_addr]
  try dsimp only
  simp only [h1]
  simp only [e1]
  simp only [h2, if_true]
theorem ls_30 {n L i : Nat} {M : jb_Mi} {N : jb_Ml} (hn : n < 512) (h : jInv n M N) (hi : i + 6 ≤ L) (hL : L ≤ 3072) (c : M 0 i &&& 63 = 30) : ∃ (M' : jb_Mi) (N' : jb_Ml), zf_0_H18 L (nI i, M, N) = some (.inl (nI (i + 6), M', N')) ∧ M' 0 = M 0 ∧ jInv (n + 1) M' N' := by
  obtain ⟨r, M1, M2, h1, e1, h2, e2, h3⟩ := ca_keep hn h
  refine ⟨M2, N, ?_, e2, h3⟩
  unfold zf_0_H18
  refine (if_neg (jl_c hi hL)).trans ?_
  refine (jn_gd (by omega) (by omega)).trans ?_
  refine (if_neg (by dsimp only; rw [nI_clamp (by omega), c]; decide)).trans ?_
  refine (if_neg (by dsimp only; rw [nI_clamp (by omega), c]; decide)).trans ?_
  refine (if_neg (by dsimp only; rw [nI_clamp (by omega), c]; decide)).trans ?_
  refine (if_neg (by dsimp only; rw [nI_clamp (by omega), c]; decide)).trans ?_
  refine (if_neg (by dsimp only; rw [nI_clamp (by omega), c]; decide)).trans ?_
  refine (if_neg (by dsimp only; rw [nI_clamp (by omega), c]; decide)).trans ?_
  refine (if_neg (by dsimp only; rw [nI_clamp (by omega), c]; decide)).trans ?_
  refine (if_neg (by dsimp only; rw [nI_clamp (by omega), c]; decide)).trans ?_
  refine (if_neg (by dsimp only; rw [nI_clamp (by omega), c]; decide)).trans ?_
  refine (if_neg (by dsimp only; rw [nI_clamp (by omega), c]; decide)).trans ?_
  refine (if_neg (by dsimp only; rw [nI_clamp (by omega), c]; decide)).trans ?_
  refine (if_neg (by dsimp only; rw [nI_clamp (by omega), c]; decide)).trans ?_
  refine (if_neg (by dsimp only; rw [nI_clamp (by omega), c]; decide)).trans ?_
  refine (if_neg (by dsimp only; rw [nI_clamp (by omega), c]; decide)).trans ?_
  refine (if_neg (by dsimp only; rw [nI_clamp (by omega), c]; decide)).trans ?_
  refine (if_neg (by dsimp only; rw [nI_clamp (by omega), c]; decide)).trans ?_
  refine (if_neg (by dsimp only; rw [nI_clamp (by omega), c]; decide)).trans ?_
  refine (if_neg (by dsimp only; rw [nI_clamp (by omega), c]; decide)).trans ?_
  refine (if_neg (by dsimp only; rw [nI_clamp (by omega), c]; decide)).trans ?_
  refine (if_neg (by dsimp only; rw [nI_clamp (by omega), c]; decide)).trans ?_
  refine (if_neg (by dsimp only; rw [nI_clamp (by omega), c]; decide)).trans ?_
  refine (if_neg (by dsimp only; rw [nI_clamp (by omega), c]; decide)).trans ?_
  refine (if_neg (by dsimp only; rw [nI_clamp (by omega), c]; decide)).trans ?_
  refine (if_neg (by dsimp only; rw [nI_clamp (by omega), c]; decide)).trans ?_
  refine (if_neg (by dsimp only; rw [nI_clamp (by omega), c]; decide)).trans ?_
  refine (if_neg (by dsimp only; rw [nI_clamp (by omega), c]; decide)).trans ?_
  refine (if_neg (by dsimp only; rw [nI_clamp (by omega), c]; decide)).trans ?_
  refine (if_neg (by dsimp only; rw [nI_clamp (by omega), c]; decide)).trans ?_
  refine (if_neg (by dsimp only; rw [nI_clamp (by omega), c]; decide)).trans ?_
  refine (if_neg (by dsimp only; rw [nI_clamp (by omega), c]; decide)).trans ?_
  refine (if_pos (by dsimp only; rw [nI_clamp (by omega), c])).trans ?_
  unfold zf_0_J1313
  try simp (disch := omega) only [jn_gd, nI_clamp, jn_addr]
  try dsimp only
  simp only [h1]
  rw [h2]
  simp only [Option.bind_some, if_true]
theorem ls_31 {n L i : Nat} {M : jb_Mi} {N : jb_Ml} (hn : n < 512) (h : jInv n M N) (hi : i + 6 ≤ L) (hL : L ≤ 3072) (c : M 0 i &&& 63 = 31) : ∃ (M' : jb_Mi) (N' : jb_Ml), zf_0_H18 L (nI i, M, N) = some (.inl (nI (i + 6), M', N')) ∧ M' 0 = M 0 ∧ jInv (n + 1) M' N' := by
  obtain ⟨r, M1, M2, h1, e1, h2, e2, h3⟩ := ca_undo hn h
  refine ⟨M2, N, ?_, e2, h3⟩
  unfold zf_0_H18
  refine (if_neg (jl_c hi hL)).trans ?_
  refine (jn_gd (by omega) (by omega)).trans ?_
  refine (if_neg (by dsimp only; rw [nI_clamp (by omega), c]; decide)).trans ?_
  refine (if_neg (by dsimp only; rw [nI_clamp (by omega), c]; decide)).trans ?_
  refine (if_neg (by dsimp only; rw [nI_clamp (by omega), c]; decide)).trans ?_
  refine (if_neg (by dsimp only; rw [nI_clamp (by omega), c]; decide)).trans ?_
  refine (if_neg (by dsimp only; rw [nI_clamp (by omega), c]; decide)).trans ?_
  refine (if_neg (by dsimp only; rw [nI_clamp (by omega), c]; decide)).trans ?_
  refine (if_neg (by dsimp only; rw [nI_clamp (by omega), c]; decide)).trans ?_
  refine (if_neg (by dsimp only; rw [nI_clamp (by omega), c]; decide)).trans ?_
  refine (if_neg (by dsimp only; rw [nI_clamp (by omega), c]; decide)).trans ?_
  refine (if_neg (by dsimp only; rw [nI_clamp (by omega), c]; decide)).trans ?_
  refine (if_neg (by dsimp only; rw [nI_clamp (by omega), c]; decide)).trans ?_
  refine (if_neg (by dsimp only; rw [nI_clamp (by omega), c]; decide)).trans ?_
  refine (if_neg (by dsimp only; rw [nI_clamp (by omega), c]; decide)).trans ?_
  refine (if_neg (by dsimp only; rw [nI_clamp (by omega), c]; decide)).trans ?_
  refine (if_neg (by dsimp only; rw [nI_clamp (by omega), c]; decide)).trans ?_
  refine (if_neg (by dsimp only; rw [nI_clamp (by omega), c]; decide)).trans ?_
  refine (if_neg (by dsimp only; rw [nI_clamp (by omega), c]; decide)).trans ?_
  refine (if_neg (by dsimp only; rw [nI_clamp (by omega), c]; decide)).trans ?_
  refine (if_neg (by dsimp only; rw [nI_clamp (by omega), c]; decide)).trans ?_
  refine (if_neg (by dsimp only; rw [nI_clamp (by omega), c]; decide)).trans ?_
  refine (if_neg (by dsimp only; rw [nI_clamp (by omega), c]; decide)).trans ?_
  refine (if_neg (by dsimp only; rw [nI_clamp (by omega), c]; decide)).trans ?_
  refine (if_neg (by dsimp only; rw [nI_clamp (by omega), c]; decide)).trans ?_
  refine (if_neg (by dsimp only; rw [nI_clamp (by omega), c]; decide)).trans ?_
  refine (if_neg (by dsimp only; rw [nI_clamp (by omega), c]; decide)).trans ?_
  refine (if_neg (by dsimp only; rw [nI_clamp (by omega), c]; decide)).trans ?_
  refine (if_neg (by dsimp only; rw [nI_clamp (by omega), c]; decide)).trans ?_
  refine (if_neg (by dsimp only; rw [nI_clamp (by omega), c]; decide)).trans ?_
  refine (if_neg (by dsimp only; rw [nI_clamp (by omega), c]; decide)).trans ?_
  refine (if_neg (by dsimp only; rw [nI_clamp (by omega), c]; decide)).trans ?_
  refine (if_neg (by dsimp only; rw [nI_clamp (by omega), c]; decide)).trans ?_
  refine (if_pos (by dsimp only; rw [nI_clamp (by omega), c])).trans ?_
  unfold zf_0_J1313
  try simp (disch := omega) only [jn_gd, nI_clamp, jn_addr]
  try dsimp only
  simp only [h1]
  rw [h2]
  simp only [Option.bind_some, if_true]
theorem ls_32 {n L i : Nat} {M : jb_Mi} {N : jb_Ml} (hn : n < 512) (h : jInv n M N) (hi : i + 6 ≤ L) (hL : L ≤ 3072) (c : M 0 i &&& 63 = 32) : ∃ (M' : jb_Mi) (N' : jb_Ml), zf_0_H18 L (nI i, M, N) = some (.inl (nI (i + 6), M', N')) ∧ M' 0 = M 0 ∧ jInv (n + 1) M' N' := by
  obtain ⟨r, M1, M2, h1, e1, h2, e2, h3⟩ := ca_check hn h (M 0 (i + 1))
  refine ⟨M2, N, ?_, e2, h3⟩
  unfold zf_0_H18
  refine (if_neg (jl_c hi hL)).trans ?_
  refine (jn_gd (by omega) (by omega)).trans ?_
  refine (if_neg (by dsimp only; rw [nI_clamp (by omega), c]; decide)).trans ?_
  refine (if_neg (by dsimp only; rw [nI_clamp (by omega), c]; decide)).trans ?_
  refine (if_neg (by dsimp only; rw [nI_clamp (by omega), c]; decide)).trans ?_
  refine (if_neg (by dsimp only; rw [nI_clamp (by omega), c]; decide)).trans ?_
  refine (if_neg (by dsimp only; rw [nI_clamp (by omega), c]; decide)).trans ?_
  refine (if_neg (by dsimp only; rw [nI_clamp (by omega), c]; decide)).trans ?_
  refine (if_neg (by dsimp only; rw [nI_clamp (by omega), c]; decide)).trans ?_
  refine (if_neg (by dsimp only; rw [nI_clamp (by omega), c]; decide)).trans ?_
  refine (if_neg (by dsimp only; rw [nI_clamp (by omega), c]; decide)).trans ?_
  refine (if_neg (by dsimp only; rw [nI_clamp (by omega), c]; decide)).trans ?_
  refine (if_neg (by dsimp only; rw [nI_clamp (by omega), c]; decide)).trans ?_
  refine (if_neg (by dsimp only; rw [nI_clamp (by omega), c]; decide)).trans ?_
  refine (if_neg (by dsimp only; rw [nI_clamp (by omega), c]; decide)).trans ?_
  refine (if_neg (by dsimp only; rw [nI_clamp (by omega), c]; decide)).trans ?_
  refine (if_neg (by dsimp only; rw [nI_clamp (by omega), c]; decide)).trans ?_
  refine (if_neg (by dsimp only; rw [nI_clamp (by omega), c]; decide)).trans ?_
  refine (if_neg (by dsimp only; rw [nI_clamp (by omega), c]; decide)).trans ?_
  refine (if_neg (by dsimp only; rw [nI_clamp (by omega), c]; decide)).trans ?_
  refine (if_neg (by dsimp only; rw [nI_clamp (by omega), c]; decide)).trans ?_
  refine (if_neg (by dsimp only; rw [nI_clamp (by omega), c]; decide)).trans ?_
  refine (if_neg (by dsimp only; rw [nI_clamp (by omega), c]; decide)).trans ?_
  refine (if_neg (by dsimp only; rw [nI_clamp (by omega), c]; decide)).trans ?_
  refine (if_neg (by dsimp only; rw [nI_clamp (by omega), c]; decide)).trans ?_
  refine (if_neg (by dsimp only; rw [nI_clamp (by omega), c]; decide)).trans ?_
  refine (if_neg (by dsimp only; rw [nI_clamp (by omega), c]; decide)).trans ?_
  refine (if_neg (by dsimp only; rw [nI_clamp (by omega), c]; decide)).trans ?_
  refine (if_neg (by dsimp only; rw [nI_clamp (by omega), c]; decide)).trans ?_
  refine (if_neg (by dsimp only; rw [nI_clamp (by omega), c]; decide)).trans ?_
  refine (if_neg (by dsimp only; rw [nI_clamp (by omega), c]; decide)).trans ?_
  refine (if_neg (by dsimp only; rw [nI_clamp (by omega), c]; decide)).trans ?_
  refine (if_neg (by dsimp only; rw [nI_clamp (by omega), c]; decide)).trans ?_
  refine (if_neg (by dsimp only; rw [nI_clamp (by omega), c]; decide)).trans ?_
  refine (if_pos (by dsimp only; rw [nI_clamp (by omega), c])).trans ?_
  unfold zf_0_J1313
  try simp (disch := omega) only [jn_gd, nI_clamp, jn_addr]
  try dsimp only
  rw [h1]
  simp only [Option.bind_some]
  simp only [e1]
  rw [h2]
  simp only [Option.bind_some, if_true]
theorem ls_33 {n L i : Nat} {M : jb_Mi} {N : jb_Ml} (hn : n < 512) (h : jInv n M N) (hi : i + 6 ≤ L) (hL : L ≤ 3072) (c : M 0 i &&& 63 = 33) : ∃ (M' : jb_Mi) (N' : jb_Ml), zf_0_H18 L (nI i, M, N) = some (.inl (nI (i + 6), M', N')) ∧ M' 0 = M 0 ∧ jInv (n + 1) M' N' := by
  obtain ⟨r, h1, h2, h3⟩ := ca_count hn h (M 0 (i + 1))
  refine ⟨M, N, ?_, rfl, h3⟩
  unfold zf_0_H18
  refine (if_neg (jl_c hi hL)).trans ?_
  refine (jn_gd (by omega) (by omega)).trans ?_
  refine (if_neg (by dsimp only; rw [nI_clamp (by omega), c]; decide)).trans ?_
  refine (if_neg (by dsimp only; rw [nI_clamp (by omega), c]; decide)).trans ?_
  refine (if_neg (by dsimp only; rw [nI_clamp (by omega), c]; decide)).trans ?_
  refine (if_neg (by dsimp only; rw [nI_clamp (by omega), c]; decide)).trans ?_
  refine (if_neg (by dsimp only; rw [nI_clamp (by omega), c]; decide)).trans ?_
  refine (if_neg (by dsimp only; rw [nI_clamp (by omega), c]; decide)).trans ?_
  refine (if_neg (by dsimp only; rw [nI_clamp (by omega), c]; decide)).trans ?_
  refine (if_neg (by dsimp only; rw [nI_clamp (by omega), c]; decide)).trans ?_
  refine (if_neg (by dsimp only; rw [nI_clamp (by omega), c]; decide)).trans ?_
  refine (if_neg (by dsimp only; rw [nI_clamp (by omega), c]; decide)).trans ?_
  refine (if_neg (by dsimp only; rw [nI_clamp (by omega), c]; decide)).trans ?_
  refine (if_neg (by dsimp only; rw [nI_clamp (by omega), c]; decide)).trans ?_
  refine (if_neg (by dsimp only; rw [nI_clamp (by omega), c]; decide)).trans ?_
  refine (if_neg (by dsimp only; rw [nI_clamp (by omega), c]; decide)).trans ?_
  refine (if_neg (by dsimp only; rw [nI_clamp (by omega), c]; decide)).trans ?_
  refine (if_neg (by dsimp only; rw [nI_clamp (by omega), c]; decide)).trans ?_
  refine (if_neg (by dsimp only; rw [nI_clamp (by omega), c]; decide)).trans ?_
  refine (if_neg (by dsimp only; rw [nI_clamp (by omega), c]; decide)).trans ?_
  refine (if_neg (by dsimp only; rw [nI_clamp (by omega), c]; decide)).trans ?_
  refine (if_neg (by dsimp only; rw [nI_clamp (by omega), c]; decide)).trans ?_
  refine (if_neg (by dsimp only; rw [nI_clamp (by omega), c]; decide)).trans ?_
  refine (if_neg (by dsimp only; rw [nI_clamp (by omega), c]; decide)).trans ?_
  refine (if_neg (by dsimp only; rw [nI_clamp (by omega), c]; decide)).trans ?_
  refine (if_neg (by dsimp only; rw [nI_clamp (by omega), c]; decide)).trans ?_
  refine (if_neg (by dsimp only; rw [nI_clamp (by omega), c]; decide)).trans ?_
  refine (if_neg (by dsimp only; rw [nI_clamp (by omega), c]; decide)).trans ?_
  refine (if_neg (by dsimp only; rw [nI_clamp (by omega), c]; decide)).trans ?_
  refine (if_neg (by dsimp only; rw [nI_clamp (by omega), c]; decide)).trans ?_
  refine (if_neg (by dsimp only; rw [nI_clamp (by omega), c]; decide)).trans ?_
  refine (if_neg (by dsimp only; rw [nI_clamp (by omega), c]; decide)).trans ?_
  refine (if_neg (by dsimp only; rw [nI_clamp (by omega), c]; decide)).trans ?_
  refine (if_neg (by dsimp only; rw [nI_clamp (by omega), c]; decide)).trans ?_
  refine (if_neg (by dsimp only; rw [nI_clamp (by omega), c]; decide)).trans ?_
  refine (if_pos (by dsimp only; rw [nI_clamp (by omega), c])).trans ?_
  unfold zf_0_J1313
  try simp (disch := omega) only [jn_gd, nI_clamp, jn_addr]
  try dsimp only
  rw [h1]
  simp only [Option.bind_some]
  rw [h2]
  simp only [Option.bind_some, if_true]
theorem ls_x {n L i : Nat} {M : jb_Mi} {N : jb_Ml} (h : jInv n M N) (hi : i + 6 ≤ L) (hL : L ≤ 3072) (c : ∀ k, k < 34 → M 0 i &&& 63 ≠ nI k) : ∃ (M' : jb_Mi) (N' : jb_Ml), zf_0_H18 L (nI i, M, N) = some (.inl (nI (i + 6), M', N')) ∧ M' 0 = M 0 ∧ jInv (n + 1) M' N' := by
  refine ⟨M, N, ?_, rfl, jInv_mono h⟩
  unfold zf_0_H18
  refine (if_neg (jl_c hi hL)).trans ?_
  refine (jn_gd (by omega) (by omega)).trans ?_
  refine (if_neg (by dsimp only; rw [nI_clamp (by omega)]; exact c 0 (by omega))).trans ?_
  refine (if_neg (by dsimp only; rw [nI_clamp (by omega)]; exact c 1 (by omega))).trans ?_
  refine (if_neg (by dsimp only; rw [nI_clamp (by omega)]; exact c 2 (by omega))).trans ?_
  refine (if_neg (by dsimp only; rw [nI_clamp (by omega)]; exact c 3 (by omega))).trans ?_
  refine (if_neg (by dsimp only; rw [nI_clamp (by omega)]; exact c 4 (by omega))).trans ?_
  refine (if_neg (by dsimp only; rw [nI_clamp (by omega)]; exact c 5 (by omega))).trans ?_
  refine (if_neg (by dsimp only; rw [nI_clamp (by omega)]; exact c 6 (by omega))).trans ?_
  refine (if_neg (by dsimp only; rw [nI_clamp (by omega)]; exact c 7 (by omega))).trans ?_
  refine (if_neg (by dsimp only; rw [nI_clamp (by omega)]; exact c 8 (by omega))).trans ?_
  refine (if_neg (by dsimp only; rw [nI_clamp (by omega)]; exact c 9 (by omega))).trans ?_
  refine (if_neg (by dsimp only; rw [nI_clamp (by omega)]; exact c 10 (by omega))).trans ?_
  refine (if_neg (by dsimp only; rw [nI_clamp (by omega)]; exact c 11 (by omega))).trans ?_
  refine (if_neg (by dsimp only; rw [nI_clamp (by omega)]; exact c 12 (by omega))).trans ?_
  refine (if_neg (by dsimp only; rw [nI_clamp (by omega)]; exact c 13 (by omega))).trans ?_
  refine (if_neg (by dsimp only; rw [nI_clamp (by omega)]; exact c 14 (by omega))).trans ?_
  refine (if_neg (by dsimp only; rw [nI_clamp (by omega)]; exact c 15 (by omega))).trans ?_
  refine (if_neg (by dsimp only; rw [nI_clamp (by omega)]; exact c 16 (by omega))).trans ?_
  refine (if_neg (by dsimp only; rw [nI_clamp (by omega)]; exact c 17 (by omega))).trans ?_
  refine (if_neg (by dsimp only; rw [nI_clamp (by omega)]; exact c 18 (by omega))).trans ?_
  refine (if_neg (by dsimp only; rw [nI_clamp (by omega)]; exact c 19 (by omega))).trans ?_
  refine (if_neg (by dsimp only; rw [nI_clamp (by omega)]; exact c 20 (by omega))).trans ?_
  refine (if_neg (by dsimp only; rw [nI_clamp (by omega)]; exact c 21 (by omega))).trans ?_
  refine (if_neg (by dsimp only; rw [nI_clamp (by omega)]; exact c 22 (by omega))).trans ?_
  refine (if_neg (by dsimp only; rw [nI_clamp (by omega)]; exact c 23 (by omega))).trans ?_
  refine (if_neg (by dsimp only; rw [nI_clamp (by omega)]; exact c 24 (by omega))).trans ?_
  refine (if_neg (by dsimp only; rw [nI_clamp (by omega)]; exact c 25 (by omega))).trans ?_
  refine (if_neg (by dsimp only; rw [nI_clamp (by omega)]; exact c 26 (by omega))).trans ?_
  refine (if_neg (by dsimp only; rw [nI_clamp (by omega)]; exact c 27 (by omega))).trans ?_
  refine (if_neg (by dsimp only; rw [nI_clamp (by omega)]; exact c 28 (by omega))).trans ?_
  refine (if_neg (by dsimp only; rw [nI_clamp (by omega)]; exact c 29 (by omega))).trans ?_
  refine (if_neg (by dsimp only; rw [nI_clamp (by omega)]; exact c 30 (by omega))).trans ?_
  refine (if_neg (by dsimp only; rw [nI_clamp (by omega)]; exact c 31 (by omega))).trans ?_
  refine (if_neg (by dsimp only; rw [nI_clamp (by omega)]; exact c 32 (by omega))).trans ?_
  refine (if_neg (by dsimp only; rw [nI_clamp (by omega)]; exact c 33 (by omega))).trans ?_
  unfold zf_0_J1313
  rw [jn_addr]
theorem ls_all {n L i : Nat} {M : jb_Mi} {N : jb_Ml} (hn : n < 512) (h : jInv n M N) (hi : i + 6 ≤ L) (hL : L ≤ 3072) : ∃ (M' : jb_Mi) (N' : jb_Ml), zf_0_H18 L (nI i, M, N) = some (.inl (nI (i + 6), M', N')) ∧ M' 0 = M 0 ∧ jInv (n + 1) M' N' := by
  by_cases c0 : M 0 i &&& 63 = 0
  · exact ls_0 hn h hi hL c0
  by_cases c1 : M 0 i &&& 63 = 1
  · exact ls_1 hn h hi hL c1
  by_cases c2 : M 0 i &&& 63 = 2
  · exact ls_2 hn h hi hL c2
  by_cases c3 : M 0 i &&& 63 = 3
  · exact ls_3 hn h hi hL c3
  by_cases c4 : M 0 i &&& 63 = 4
  · exact ls_4 hn h hi hL c4
  by_cases c5 : M 0 i &&& 63 = 5
  · exact ls_5 hn h hi hL c5
  by_cases c6 : M 0 i &&& 63 = 6
  · exact ls_6 hn h hi hL c6
  by_cases c7 : M 0 i &&& 63 = 7
  · exact ls_7 hn h hi hL c7
  by_cases c8 : M 0 i &&& 63 = 8
  · exact ls_8 hn h hi hL c8
  by_cases c9 : M 0 i &&& 63 = 9
  · exact ls_9 hn h hi hL c9
  by_cases c10 : M 0 i &&& 63 = 10
  · exact ls_10 hn h hi hL c10
  by_cases c11 : M 0 i &&& 63 = 11
  · exact ls_11 hn h hi hL c11
  by_cases c12 : M 0 i &&& 63 = 12
  · exact ls_12 hn h hi hL c12
  by_cases c13 : M 0 i &&& 63 = 13
  · exact ls_13 hn h hi hL c13
  by_cases c14 : M 0 i &&& 63 = 14
  · exact ls_14 hn h hi hL c14
  by_cases c15 : M 0 i &&& 63 = 15
  · exact ls_15 hn h hi hL c15
  by_cases c16 : M 0 i &&& 63 = 16
  · exact ls_16 hn h hi hL c16
  by_cases c17 : M 0 i &&& 63 = 17
  · exact ls_17 hn h hi hL c17
  by_cases c18 : M 0 i &&& 63 = 18
  · exact ls_18 hn h hi hL c18
  by_cases c19 : M 0 i &&& 63 = 19
  · exact ls_19 hn h hi hL c19
  by_cases c20 : M 0 i &&& 63 = 20
  · exact ls_20 hn h hi hL c20
  by_cases c21 : M 0 i &&& 63 = 21
  · exact ls_21 hn h hi hL c21
  by_cases c22 : M 0 i &&& 63 = 22
  · exact ls_22 hn h hi hL c22
  by_cases c23 : M 0 i &&& 63 = 23
  · exact ls_23 hn h hi hL c23
  by_cases c24 : M 0 i &&& 63 = 24
  · exact ls_24 hn h hi hL c24
  by_cases c25 : M 0 i &&& 63 = 25
  · exact ls_25 hn h hi hL c25
  by_cases c26 : M 0 i &&& 63 = 26
  · exact ls_26 hn h hi hL c26
  by_cases c27 : M 0 i &&& 63 = 27
  · exact ls_27 hn h hi hL c27
  by_cases c28 : M 0 i &&& 63 = 28
  · exact ls_28 hn h hi hL c28
  by_cases c29 : M 0 i &&& 63 = 29
  · exact ls_29 hn h hi hL c29
  by_cases c30 : M 0 i &&& 63 = 30
  · exact ls_30 hn h hi hL c30
  by_cases c31 : M 0 i &&& 63 = 31
  · exact ls_31 hn h hi hL c31
  by_cases c32 : M 0 i &&& 63 = 32
  · exact ls_32 hn h hi hL c32
  by_cases c33 : M 0 i &&& 63 = 33
  · exact ls_33 hn h hi hL c33
  refine ls_x h hi hL (fun k hk => ?_)
  match k, hk with
  | 0, _ => exact c0
  | 1, _ => exact c1
  | 2, _ => exact c2
  | 3, _ => exact c3
  | 4, _ => exact c4
  | 5, _ => exact c5
  | 6, _ => exact c6
  | 7, _ => exact c7
  | 8, _ => exact c8
  | 9, _ => exact c9
  | 10, _ => exact c10
  | 11, _ => exact c11
  | 12, _ => exact c12
  | 13, _ => exact c13
  | 14, _ => exact c14
  | 15, _ => exact c15
  | 16, _ => exact c16
  | 17, _ => exact c17
  | 18, _ => exact c18
  | 19, _ => exact c19
  | 20, _ => exact c20
  | 21, _ => exact c21
  | 22, _ => exact c22
  | 23, _ => exact c23
  | 24, _ => exact c24
  | 25, _ => exact c25
  | 26, _ => exact c26
  | 27, _ => exact c27
  | 28, _ => exact c28
  | 29, _ => exact c29
  | 30, _ => exact c30
  | 31, _ => exact c31
  | 32, _ => exact c32
  | 33, _ => exact c33
  | k + 34, hk => omega
theorem ls_run {L : Nat} (hL : L ≤ 3072) : ∀ (m n i : Nat) (M : jb_Mi) (N : jb_Ml), i = 6 * n → L < i + 6 + 6 * m → i ≤ L → jInv n M N → ∃ (M' : jb_Mi) (N' : jb_Ml), jb_lp (zf_0_H18 L) (nI i, M, N) = some (true, M', N')
  | m, n, i, M, N, hi, hm, hiL, h => by
    by_cases c : i + 6 ≤ L
    · cases m with
      | zero => omega
      | succ m =>
        obtain ⟨M1, N1, h1, h2, h3⟩ := ls_all (by omega) h c hL
        rw [jb_lp_inl h1]
        exact ls_run hL m (n + 1) (i + 6) M1 N1 (by omega) (by omega) (by omega) h3
    · refine ⟨M, N, jb_lp_inr ?_⟩
      unfold zf_0_H18
      refine if_pos ?_
      dsimp only
      rw [fa_ltx, nI_toInt (by omega)]
      by_cases c2 : 6 ≤ L
      · have e : Int32.ofNat L - 6 = nI (L - 6) := pk_sub (a := L) (b := 6) c2
        rw [e, nI_toInt (by omega)]
        omega
      · have e : (Int32.ofNat L - 6).toInt = (L : Int) - 6 := pk_sub_toInt (a := L) (b := 6) (by omega) (by decide)
        rw [e]
        omega
theorem zb_all (L : Nat) (hL : L ≤ 3072) (M : jb_Mi) (N : jb_Ml) (hi : zb_init M) : ∃ (M' : jb_Mi) (N' : jb_Ml), zf_0 L M N = some (true, M', N') := by
  unfold zf_0
  exact ls_run hL (L + 1) 0 0 M N rfl (by omega) (by omega) (jInv_0 hi)
