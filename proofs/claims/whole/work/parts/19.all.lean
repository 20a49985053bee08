theorem zb_all (L : Nat) (hL : L ≤ 3072) (M : jb_Mi) (N : jb_Ml) (hi : zb_init M) : ∃ (M' : jb_Mi) (N' : jb_Ml), zf_0 L M N = some (true, M', N') := by
  sorry
