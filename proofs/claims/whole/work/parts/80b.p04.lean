-- X2_reachedBy
set_option maxRecDepth 20000 in
theorem zg_49_J88 {Γ : jb_G} {L : Nat} {d : Nat} (hd : 1 ≤ d) (x1 : Int32) (x2 : Int32) (x3 : Int32) (x4 : Int32) (M : jb_Mi) (N : jb_Ml) {v : Option Value} {σ2 : jb_S} {r : ((Int32 × Int32) ⊕ (Int32))} (h : zf_49_J88 x1 x2 x3 x4 M = some r) (hK : (jb_K (fun s : Int32 × Int32 => jb_V Γ d zq_49 5 [some (.ref 70), some (.int x1), some (.int x2), some (.int s.1), some (.int s.2), none, none] [] (zE L, M, N) v σ2) (fun r : Int32 => v = some (.int r) ∧ σ2 = (zE L, M, N))) r) : jb_V Γ d zq_49 88 [some (.ref 70), some (.int x1), some (.int x2), some (.int x3), some (.int x4), none, none] [] (zE L, M, N) v σ2 := by
  obtain ⟨d, rfl⟩ : ∃ e, d = e + 1 := ⟨d - 1, by omega⟩
  unfold zf_49_J88 at h
  refine jb_seg 2 (pc' := 5) (ls' := [some (.ref 70), some (.int x1), some (.int x2), some (.int x3), some (.int (x4 + 1)), none, none]) (st' := []) (σ' := (zE L, M, N)) (G := []) rfl trivial ?_
  obtain rfl := Option.some.inj h
  exact jb_mask [true, true, true, true, true, false, false] rfl hK
set_option maxRecDepth 20000 in
theorem zg_49_J46 {Γ : jb_G} {L : Nat} {d : Nat} (hd : 1 ≤ d) (x1 : Int32) (x2 : Int32) (x3 : Int32) (x4 : Int32) (s0 : Int32) (M : jb_Mi) (N : jb_Ml) {v : Option Value} {σ2 : jb_S} {r : ((Int32 × Int32) ⊕ (Int32))} (h : zf_49_J46 x1 x2 x3 x4 s0 M = some r) (hK : (jb_K (fun s : Int32 × Int32 => jb_V Γ d zq_49 5 [some (.ref 70), some (.int x1), some (.int x2), some (.int s.1), some (.int s.2), none, none] [] (zE L, M, N) v σ2) (fun r : Int32 => v = some (.int r) ∧ σ2 = (zE L, M, N))) r) : jb_V Γ d zq_49 46 [some (.ref 70), some (.int x1), some (.int x2), some (.int x3), some (.int x4), none, none] [(.int s0)] (zE L, M, N) v σ2 := by
  obtain ⟨d, rfl⟩ : ∃ e, d = e + 1 := ⟨d - 1, by omega⟩
  unfold zf_49_J46 at h
  refine jb_seg 4 (pc' := 54) (ls' := [some (.ref 70), some (.int x1), some (.int x2), some (.int x3), some (.int x4), none, some (.int s0)]) (st' := [(.int x4), (.ref 4)]) (σ' := (zE L, M, N)) (G := []) rfl trivial ?_
  obtain ⟨q3, h3, h⟩ := jb_bd_of h
  refine jb_callV (q' := zq_37) (As := [(.int x4)]) (rest := []) (σ1 := (zE L, M, N)) (v := some (.int (jb_b2i q3))) rfl rfl zp_37 rfl (Nat.le_of_ble_eq_true rfl) (jb_cat rfl) (Nat.le_of_ble_eq_true rfl) (Nat.le_of_ble_eq_true rfl) (Or.inl rfl) rfl (ze_37 4 x4 M N (by decide) h3) ?_
  refine jb_seg 1 (pc' := (if (jb_b2i q3) = 0 then 88 else 60)) (ls' := [some (.ref 70), some (.int x1), some (.int x2), some (.int x3), some (.int x4), none, some (.int s0)]) (st' := []) (σ' := (zE L, M, N)) (G := []) rfl trivial ?_
  refine jb_ite (fun c => ?_) (fun c => ?_)
  · replace h := (if_pos c).symm.trans h
    exact jb_mask [true, true, true, true, true, false, false] rfl (zg_49_J88 hd x1 x2 x3 x4 M N h hK)
  · replace h := (if_neg c).symm.trans h
    refine jb_seg 2 (pc' := (if 0 < s0 then 65 else 88)) (ls' := [some (.ref 70), some (.int x1), some (.int x2), some (.int x3), some (.int x4), none, some (.int s0)]) (st' := []) (σ' := (zE L, M, N)) (G := []) rfl trivial ?_
    refine jb_ite (fun c => ?_) (fun c => ?_)
    · replace h := (if_pos c).symm.trans h
      obtain ⟨g4, h⟩ := jb_gd_of h
      refine jb_seg 9 (pc' := (if (3 * (M 5 x1.toNatClampNeg)) < s0 then 88 else 81)) (ls' := [some (.ref 70), some (.int x1), some (.int x2), some (.int x3), some (.int x4), none, some (.int s0)]) (st' := []) (σ' := (zE L, M, N)) (G := [vp_in x1 6]) rfl g4 ?_
      refine jb_ite (fun c => ?_) (fun c => ?_)
      · replace h := (if_pos c).symm.trans h
        exact jb_mask [true, true, true, true, true, false, false] rfl (zg_49_J88 hd x1 x2 x3 x4 M N h hK)
      · replace h := (if_neg c).symm.trans h
        refine jb_seg 6 (pc' := 88) (ls' := [some (.ref 70), some (.int x1), some (.int x2), some (.int (x3 ||| ((1 : Int32) <<< (x4 &&& 31)))), some (.int x4), none, some (.int s0)]) (st' := []) (σ' := (zE L, M, N)) (G := []) rfl trivial ?_
        exact jb_mask [true, true, true, true, true, false, false] rfl (zg_49_J88 hd x1 x2 (x3 ||| ((1 : Int32) <<< (x4 &&& 31))) x4 M N h hK)
    · replace h := (if_neg c).symm.trans h
      exact jb_mask [true, true, true, true, true, false, false] rfl (zg_49_J88 hd x1 x2 x3 x4 M N h hK)
set_option maxRecDepth 20000 in
theorem zg_49_H5 {Γ : jb_G} {L : Nat} {d : Nat} (hd : 1 ≤ d) (x1 : Int32) (x2 : Int32) (M : jb_Mi) (N : jb_Ml) (s : Int32 × Int32) {v : Option Value} {σ2 : jb_S} {r : ((Int32 × Int32) ⊕ (Int32))} (h : zf_49_H5 x1 x2 M s = some r) (hK : (jb_K (fun s : Int32 × Int32 => jb_V Γ d zq_49 5 [some (.ref 70), some (.int x1), some (.int x2), some (.int s.1), some (.int s.2), none, none] [] (zE L, M, N) v σ2) (fun r : Int32 => v = some (.int r) ∧ σ2 = (zE L, M, N))) r) : jb_V Γ d zq_49 5 [some (.ref 70), some (.int x1), some (.int x2), some (.int s.1), some (.int s.2), none, none] [] (zE L, M, N) v σ2 := by
  obtain ⟨d, rfl⟩ : ∃ e, d = e + 1 := ⟨d - 1, by omega⟩
  unfold zf_49_H5 at h
  refine jb_seg 3 (pc' := (if s.2 < 6 then 12 else 94)) (ls' := [some (.ref 70), some (.int x1), some (.int x2), some (.int s.1), some (.int s.2), none, none]) (st' := []) (σ' := (zE L, M, N)) (G := []) rfl trivial ?_
  refine jb_ite (fun c => ?_) (fun c => ?_)
  · replace h := (if_pos c).symm.trans h
    obtain ⟨g1, h⟩ := jb_gd_of h
    obtain ⟨g2, h⟩ := jb_gd_of h
    refine jb_seg 14 (pc' := (if x2 = 0 then 43 else 38)) (ls' := [some (.ref 70), some (.int x1), some (.int x2), some (.int s.1), some (.int s.2), some (.int ((M 6 (s.2).toNatClampNeg) - (M 6 x1.toNatClampNeg))), none]) (st' := []) (σ' := (zE L, M, N)) (G := [vp_in s.2 6, vp_in x1 6]) rfl ⟨g1, g2⟩ ?_
    refine jb_ite (fun c => ?_) (fun c => ?_)
    · replace h := (if_pos c).symm.trans h
      refine jb_seg 2 (pc' := 46) (ls' := [some (.ref 70), some (.int x1), some (.int x2), some (.int s.1), some (.int s.2), some (.int ((M 6 (s.2).toNatClampNeg) - (M 6 x1.toNatClampNeg))), none]) (st' := [(.int (-((M 6 (s.2).toNatClampNeg) - (M 6 x1.toNatClampNeg))))]) (σ' := (zE L, M, N)) (G := []) rfl trivial ?_
      exact jb_mask [true, true, true, true, true, false, false] rfl (zg_49_J46 hd x1 x2 s.1 s.2 (-((M 6 (s.2).toNatClampNeg) - (M 6 x1.toNatClampNeg))) M N h hK)
    · replace h := (if_neg c).symm.trans h
      refine jb_seg 2 (pc' := 46) (ls' := [some (.ref 70), some (.int x1), some (.int x2), some (.int s.1), some (.int s.2), some (.int ((M 6 (s.2).toNatClampNeg) - (M 6 x1.toNatClampNeg))), none]) (st' := [(.int ((M 6 (s.2).toNatClampNeg) - (M 6 x1.toNatClampNeg)))]) (σ' := (zE L, M, N)) (G := []) rfl trivial ?_
      exact jb_mask [true, true, true, true, true, false, false] rfl (zg_49_J46 hd x1 x2 s.1 s.2 ((M 6 (s.2).toNatClampNeg) - (M 6 x1.toNatClampNeg)) M N h hK)
  · replace h := (if_neg c).symm.trans h
    refine jb_seg 1 (pc' := 95) (ls' := [some (.ref 70), some (.int x1), some (.int x2), some (.int s.1), some (.int s.2), none, none]) (st' := [(.int s.1)]) (σ' := (zE L, M, N)) (G := []) rfl trivial ?_
    obtain rfl := Option.some.inj h
    obtain ⟨rfl, rfl⟩ := hK
    exact jb_reti rfl rfl
theorem zg_49_H5L {Γ : jb_G} {L : Nat} {d : Nat} (hd : 1 ≤ d) (x1 : Int32) (x2 : Int32) (M : jb_Mi) (N : jb_Ml) {v : Option Value} {σ2 : jb_S} {s : Int32 × Int32} {r : (Int32)} (h : jb_lp (zf_49_H5 x1 x2 M) s = some r) (hK : (fun r : Int32 => v = some (.int r) ∧ σ2 = (zE L, M, N)) r) : jb_V Γ d zq_49 5 [some (.ref 70), some (.int x1), some (.int x2), some (.int s.1), some (.int s.2), none, none] [] (zE L, M, N) v σ2 := by
  exact @jb_lp_ind (Int32 × Int32) ((Int32)) (zf_49_H5 x1 x2 M) (fun s => jb_V Γ d zq_49 5 [some (.ref 70), some (.int x1), some (.int x2), some (.int s.1), some (.int s.2), none, none] [] (zE L, M, N) v σ2) (fun r : Int32 => v = some (.int r) ∧ σ2 = (zE L, M, N)) (fun s r h hk => zg_49_H5 hd x1 x2 M N s h hk) s r h hK
set_option maxRecDepth 20000 in
theorem zg_49 {Γ : jb_G} {L : Nat} {d : Nat} (hd : 1 ≤ d) (x1 : Int32) (x2 : Int32) (M : jb_Mi) (N : jb_Ml) {v : Option Value} {σ2 : jb_S} {r : (Int32)} (h : zf_49 x1 x2 M = some r) (hK : (fun r : Int32 => v = some (.int r) ∧ σ2 = (zE L, M, N)) r) : jb_V Γ d zq_49 0 [some (.ref 70), some (.int x1), some (.int x2), none, none, none, none] [] (zE L, M, N) v σ2 := by
  obtain ⟨d, rfl⟩ : ∃ e, d = e + 1 := ⟨d - 1, by omega⟩
  unfold zf_49 at h
  refine jb_seg 4 (pc' := 5) (ls' := [some (.ref 70), some (.int x1), some (.int x2), some (.int 0), some (.int 0), none, none]) (st' := []) (σ' := (zE L, M, N)) (G := []) rfl trivial ?_
  exact jb_mask [true, true, true, true, true, false, false] rfl (zg_49_H5L hd x1 x2 M N h hK)
theorem ze_49 {Γ : jb_G} {L : Nat} {d : Nat} (hd : 1 ≤ d) (x1 : Int32) (x2 : Int32) (M : jb_Mi) (N : jb_Ml) {r : (Int32)} (h : zf_49 x1 x2 M = some r) : jb_V Γ d zq_49 0 (jb_en 7 [(.ref 70), (.int x1), (.int x2)]) [] (zE L, M, N) (some (.int r)) (zE L, M, N) := zg_49 hd x1 x2 M N h ⟨rfl, rfl⟩
-- X2_knockedBy
set_option maxRecDepth 20000 in
theorem zg_50_J43 {Γ : jb_G} {L : Nat} {d : Nat} (hd : 2 ≤ d) (x2 : Int32) (x3 : Int32) (x4 : Int32) (x5 : Int32) (M : jb_Mi) (N : jb_Ml) {v : Option Value} {σ2 : jb_S} {r : ((Int32 × Int32) ⊕ ((Int32 × Int32) ⊕ (Int32)))} (h : zf_50_J43 x2 x3 x4 x5 M = some r) (hK : (jb_K (fun s : Int32 × Int32 => jb_V Γ d zq_50 17 [some (.ref 70), none, some (.int x2), some (.int s.1), some (.int x4), some (.int s.2)] [] (zE L, M, N) v σ2) (jb_K (fun s : Int32 × Int32 => jb_V Γ d zq_50 7 [some (.ref 70), none, some (.int x2), some (.int s.1), some (.int s.2), none] [] (zE L, M, N) v σ2) (fun r : Int32 => v = some (.int r) ∧ σ2 = (zE L, M, N)))) r) : jb_V Γ d zq_50 43 [some (.ref 70), none, some (.int x2), some (.int x3), some (.int x4), some (.int x5)] [] (zE L, M, N) v σ2 := by
  obtain ⟨d, rfl⟩ : ∃ e, d = e + 1 := ⟨d - 1, by omega⟩
  unfold zf_50_J43 at h
  refine jb_seg 2 (pc' := 17) (ls' := [some (.ref 70), none, some (.int x2), some (.int x3), some (.int x4), some (.int (x5 + 1))]) (st' := []) (σ' := (zE L, M, N)) (G := []) rfl trivial ?_
  obtain rfl := Option.some.inj h
  exact jb_mask [true, false, true, true, true, true] rfl hK
set_option maxRecDepth 20000 in
theorem zg_50_H17 {Γ : jb_G} {L : Nat} {d : Nat} (hd : 2 ≤ d) (x2 : Int32) (x4 : Int32) (M : jb_Mi) (N : jb_Ml) (s : Int32 × Int32) {v : Option Value} {σ2 : jb_S} {r : ((Int32 × Int32) ⊕ ((Int32 × Int32) ⊕ (Int32)))} (h : zf_50_H17 x2 x4 M s = some r) (hK : (jb_K (fun s : Int32 × Int32 => jb_V Γ d zq_50 17 [some (.ref 70), none, some (.int x2), some (.int s.1), some (.int x4), some (.int s.2)] [] (zE L, M, N) v σ2) (jb_K (fun s : Int32 × Int32 => jb_V Γ d zq_50 7 [some (.ref 70), none, some (.int x2), some (.int s.1), some (.int s.2), none] [] (zE L, M, N) v σ2) (fun r : Int32 => v = some (.int r) ∧ σ2 = (zE L, M, N)))) r) : jb_V Γ d zq_50 17 [some (.ref 70), none, some (.int x2), some (.int s.1), some (.int x4), some (.int s.2)] [] (zE L, M, N) v σ2 := by
  obtain ⟨d, rfl⟩ : ∃ e, d = e + 1 := ⟨d - 1, by omega⟩
  unfold zf_50_H17 at h
  refine jb_seg 3 (pc' := (if s.2 < 6 then 24 else 49)) (ls' := [some (.ref 70), none, some (.int x2), some (.int s.1), some (.int x4), some (.int s.2)]) (st' := []) (σ' := (zE L, M, N)) (G := []) rfl trivial ?_
  refine jb_ite (fun c => ?_) (fun c => ?_)
  · replace h := (if_pos c).symm.trans h
    refine jb_seg 6 (pc' := (if ((s.1 >>> (s.2 &&& 31)) &&& 1) = 0 then 43 else 33)) (ls' := [some (.ref 70), none, some (.int x2), some (.int s.1), some (.int x4), some (.int s.2)]) (st' := []) (σ' := (zE L, M, N)) (G := []) rfl trivial ?_
    refine jb_ite (fun c => ?_) (fun c => ?_)
    · replace h := (if_pos c).symm.trans h
      exact jb_mask [true, false, true, true, true, true] rfl (zg_50_J43 hd x2 s.1 x4 s.2 M N h hK)
    · replace h := (if_neg c).symm.trans h
      refine jb_seg 4 (pc' := 38) (ls' := [some (.ref 70), none, some (.int x2), some (.int s.1), some (.int x4), some (.int s.2)]) (st' := [(.int x2), (.int s.2), (.ref 70), (.int s.1)]) (σ' := (zE L, M, N)) (G := []) rfl trivial ?_
      obtain ⟨q1, h1, h⟩ := jb_bd_of h
      refine jb_callV (q' := zq_49) (As := [(.int s.2), (.int x2)]) (rest := [(.int s.1)]) (σ1 := (zE L, M, N)) (v := some (.int q1)) rfl rfl zp_49 rfl (Nat.le_of_ble_eq_true rfl) (jb_cat rfl) (Nat.le_of_ble_eq_true rfl) (Nat.le_of_ble_eq_true rfl) (Or.inl rfl) rfl (ze_49 (by omega) s.2 x2 M N h1) ?_
      refine jb_seg 2 (pc' := 43) (ls' := [some (.ref 70), none, some (.int x2), some (.int (s.1 ||| q1)), some (.int x4), some (.int s.2)]) (st' := []) (σ' := (zE L, M, N)) (G := []) rfl trivial ?_
      exact jb_mask [true, false, true, true, true, true] rfl (zg_50_J43 hd x2 (s.1 ||| q1) x4 s.2 M N h hK)
  · replace h := (if_neg c).symm.trans h
    refine jb_seg 2 (pc' := 7) (ls' := [some (.ref 70), none, some (.int x2), some (.int s.1), some (.int (x4 + 1)), some (.int s.2)]) (st' := []) (σ' := (zE L, M, N)) (G := []) rfl trivial ?_
    obtain rfl := Option.some.inj h
    exact jb_mask [true, false, true, true, true, false] rfl hK
theorem zg_50_H17L {Γ : jb_G} {L : Nat} {d : Nat} (hd : 2 ≤ d) (x2 : Int32) (x4 : Int32) (M : jb_Mi) (N : jb_Ml) {v : Option Value} {σ2 : jb_S} {s : Int32 × Int32} {r : ((Int32 × Int32) ⊕ (Int32))} (h : jb_lp (zf_50_H17 x2 x4 M) s = some r) (hK : (jb_K (fun s : Int32 × Int32 => jb_V Γ d zq_50 7 [some (.ref 70), none, some (.int x2), some (.int s.1), some (.int s.2), none] [] (zE L, M, N) v σ2) (fun r : Int32 => v = some (.int r) ∧ σ2 = (zE L, M, N))) r) : jb_V Γ d zq_50 17 [some (.ref 70), none, some (.int x2), some (.int s.1), some (.int x4), some (.int s.2)] [] (zE L, M, N) v σ2 := by
  exact @jb_lp_ind (Int32 × Int32) (((Int32 × Int32) ⊕ (Int32))) (zf_50_H17 x2 x4 M) (fun s => jb_V Γ d zq_50 17 [some (.ref 70), none, some (.int x2), some (.int s.1), some (.int x4), some (.int s.2)] [] (zE L, M, N) v σ2) (jb_K (fun s : Int32 × Int32 => jb_V Γ d zq_50 7 [some (.ref 70), none, some (.int x2), some (.int s.1), some (.int s.2), none] [] (zE L, M, N) v σ2) (fun r : Int32 => v = some (.int r) ∧ σ2 = (zE L, M, N))) (fun s r h hk => zg_50_H17 hd x2 x4 M N s h hk) s r h hK
set_option maxRecDepth 20000 in
theorem zg_50_H7 {Γ : jb_G} {L : Nat} {d : Nat} (hd : 2 ≤ d) (x2 : Int32) (M : jb_Mi) (N : jb_Ml) (s : Int32 × Int32) {v : Option Value} {σ2 : jb_S} {r : ((Int32 × Int32) ⊕ (Int32))} (h : zf_50_H7 x2 M s = some r) (hK : (jb_K (fun s : Int32 × Int32 => jb_V Γ d zq_50 7 [some (.ref 70), none, some (.int x2), some (.int s.1), some (.int s.2), none] [] (zE L, M, N) v σ2) (fun r : Int32 => v = some (.int r) ∧ σ2 = (zE L, M, N))) r) : jb_V Γ d zq_50 7 [some (.ref 70), none, some (.int x2), some (.int s.1), some (.int s.2), none] [] (zE L, M, N) v σ2 := by
  obtain ⟨d, rfl⟩ : ∃ e, d = e + 1 := ⟨d - 1, by omega⟩
  unfold zf_50_H7 at h
  refine jb_seg 3 (pc' := (if s.2 < 6 then 14 else 55)) (ls' := [some (.ref 70), none, some (.int x2), some (.int s.1), some (.int s.2), none]) (st' := []) (σ' := (zE L, M, N)) (G := []) rfl trivial ?_
  refine jb_ite (fun c => ?_) (fun c => ?_)
  · replace h := (if_pos c).symm.trans h
    refine jb_seg 2 (pc' := 17) (ls' := [some (.ref 70), none, some (.int x2), some (.int s.1), some (.int s.2), some (.int 0)]) (st' := []) (σ' := (zE L, M, N)) (G := []) rfl trivial ?_
    exact jb_mask [true, false, true, true, true, true] rfl (zg_50_H17L hd x2 s.2 M N h hK)
  · replace h := (if_neg c).symm.trans h
    refine jb_seg 1 (pc' := 56) (ls' := [some (.ref 70), none, some (.int x2), some (.int s.1), some (.int s.2), none]) (st' := [(.int s.1)]) (σ' := (zE L, M, N)) (G := []) rfl trivial ?_
    obtain rfl := Option.some.inj h
    obtain ⟨rfl, rfl⟩ := hK
    exact jb_reti rfl rfl
theorem zg_50_H7L {Γ : jb_G} {L : Nat} {d : Nat} (hd : 2 ≤ d) (x2 : Int32) (M : jb_Mi) (N : jb_Ml) {v : Option Value} {σ2 : jb_S} {s : Int32 × Int32} {r : (Int32)} (h : jb_lp (zf_50_H7 x2 M) s = some r) (hK : (fun r : Int32 => v = some (.int r) ∧ σ2 = (zE L, M, N)) r) : jb_V Γ d zq_50 7 [some (.ref 70), none, some (.int x2), some (.int s.1), some (.int s.2), none] [] (zE L, M, N) v σ2 := by
  exact @jb_lp_ind (Int32 × Int32) ((Int32)) (zf_50_H7 x2 M) (fun s => jb_V Γ d zq_50 7 [some (.ref 70), none, some (.int x2), some (.int s.1), some (.int s.2), none] [] (zE L, M, N) v σ2) (fun r : Int32 => v = some (.int r) ∧ σ2 = (zE L, M, N)) (fun s r h hk => zg_50_H7 hd x2 M N s h hk) s r h hK
set_option maxRecDepth 20000 in
theorem zg_50 {Γ : jb_G} {L : Nat} {d : Nat} (hd : 2 ≤ d) (x1 : Int32) (x2 : Int32) (M : jb_Mi) (N : jb_Ml) {v : Option Value} {σ2 : jb_S} {r : (Int32)} (h : zf_50 x1 x2 M = some r) (hK : (fun r : Int32 => v = some (.int r) ∧ σ2 = (zE L, M, N)) r) : jb_V Γ d zq_50 0 [some (.ref 70), some (.int x1), some (.int x2), none, none, none] [] (zE L, M, N) v σ2 := by
  obtain ⟨d, rfl⟩ : ∃ e, d = e + 1 := ⟨d - 1, by omega⟩
  unfold zf_50 at h
  refine jb_seg 6 (pc' := 7) (ls' := [some (.ref 70), some (.int x1), some (.int x2), some (.int ((1 : Int32) <<< (x1 &&& 31))), some (.int 0), none]) (st' := []) (σ' := (zE L, M, N)) (G := []) rfl trivial ?_
  exact jb_mask [true, false, true, true, true, false] rfl (zg_50_H7L hd x2 M N h hK)
theorem ze_50 {Γ : jb_G} {L : Nat} {d : Nat} (hd : 2 ≤ d) (x1 : Int32) (x2 : Int32) (M : jb_Mi) (N : jb_Ml) {r : (Int32)} (h : zf_50 x1 x2 M = some r) : jb_V Γ d zq_50 0 (jb_en 6 [(.ref 70), (.int x1), (.int x2)]) [] (zE L, M, N) (some (.int r)) (zE L, M, N) := zg_50 hd x1 x2 M N h ⟨rfl, rfl⟩
-- X9_upBits
set_option maxRecDepth 20000 in
theorem zg_51_J26 {Γ : jb_G} {L : Nat} {d : Nat} (hd : 1 ≤ d) (o : Nat) (x2 : Int32) (s0 : Int32) (s1 : Int32) (M : jb_Mi) (N : jb_Ml) (hp : o = 4 ∨ o = 24) {v : Option Value} {σ2 : jb_S} {r : ((Int32 × Int32) ⊕ (Int32))} (h : zf_51_J26 o x2 s0 s1 M = some r) (hK : (jb_K (fun s : Int32 × Int32 => jb_V Γ d zq_51 4 [some (.ref o), some (.int s.1), some (.int s.2)] [] (zE L, M, N) v σ2) (fun r : Int32 => v = some (.int r) ∧ σ2 = (zE L, M, N))) r) : jb_V Γ d zq_51 26 [some (.ref o), none, some (.int x2)] [(.int s1), (.int s0)] (zE L, M, N) v σ2 := by
  rcases hp with rfl | rfl
  · obtain ⟨d, rfl⟩ : ∃ e, d = e + 1 := ⟨d - 1, by omega⟩
    unfold zf_51_J26 at h
    refine jb_seg 4 (pc' := 4) (ls' := [some (.ref 4), some (.int (s0 ||| s1)), some (.int (x2 + 1))]) (st' := []) (σ' := (zE L, M, N)) (G := []) rfl trivial ?_
    obtain rfl := Option.some.inj h
    exact jb_mask [true, true, true] rfl hK
  · obtain ⟨d, rfl⟩ : ∃ e, d = e + 1 := ⟨d - 1, by omega⟩
    unfold zf_51_J26 at h
    refine jb_seg 4 (pc' := 4) (ls' := [some (.ref 24), some (.int (s0 ||| s1)), some (.int (x2 + 1))]) (st' := []) (σ' := (zE L, M, N)) (G := []) rfl trivial ?_
    obtain rfl := Option.some.inj h
    exact jb_mask [true, true, true] rfl hK
set_option maxRecDepth 20000 in
theorem zg_51_H4 {Γ : jb_G} {L : Nat} {d : Nat} (hd : 1 ≤ d) (o : Nat) (M : jb_Mi) (N : jb_Ml) (s : Int32 × Int32) (hp : o = 4 ∨ o = 24) {v : Option Value} {σ2 : jb_S} {r : ((Int32 × Int32) ⊕ (Int32))} (h : zf_51_H4 o M s = some r) (hK : (jb_K (fun s : Int32 × Int32 => jb_V Γ d zq_51 4 [some (.ref o), some (.int s.1), some (.int s.2)] [] (zE L, M, N) v σ2) (fun r : Int32 => v = some (.int r) ∧ σ2 = (zE L, M, N))) r) : jb_V Γ d zq_51 4 [some (.ref o), some (.int s.1), some (.int s.2)] [] (zE L, M, N) v σ2 := by
  rcases hp with rfl | rfl
  · obtain ⟨d, rfl⟩ : ∃ e, d = e + 1 := ⟨d - 1, by omega⟩
    unfold zf_51_H4 at h
    refine jb_seg 3 (pc' := (if s.2 < 6 then 10 else 34)) (ls' := [some (.ref 4), some (.int s.1), some (.int s.2)]) (st' := []) (σ' := (zE L, M, N)) (G := []) rfl trivial ?_
    refine jb_ite (fun c => ?_) (fun c => ?_)
    · replace h := (if_pos c).symm.trans h
      refine jb_seg 3 (pc' := 13) (ls' := [some (.ref 4), some (.int s.1), some (.int s.2)]) (st' := [(.int s.2), (.ref 4), (.int s.1)]) (σ' := (zE L, M, N)) (G := []) rfl trivial ?_
      obtain ⟨q1, h1, h⟩ := jb_bd_of h
      refine jb_callV (q' := zq_37) (As := [(.int s.2)]) (rest := [(.int s.1)]) (σ1 := (zE L, M, N)) (v := some (.int (jb_b2i q1))) rfl rfl zp_37 rfl (Nat.le_of_ble_eq_true rfl) (jb_cat rfl) (Nat.le_of_ble_eq_true rfl) (Nat.le_of_ble_eq_true rfl) (Or.inl rfl) rfl (ze_37 4 s.2 M N (by decide) h1) ?_
      refine jb_seg 1 (pc' := (if (jb_b2i q1) = 0 then 25 else 19)) (ls' := [some (.ref 4), some (.int s.1), some (.int s.2)]) (st' := [(.int s.1)]) (σ' := (zE L, M, N)) (G := []) rfl trivial ?_
      refine jb_ite (fun c => ?_) (fun c => ?_)
      · replace h := (if_pos c).symm.trans h
        refine jb_seg 1 (pc' := 26) (ls' := [some (.ref 4), some (.int s.1), some (.int s.2)]) (st' := [(.int 0), (.int s.1)]) (σ' := (zE L, M, N)) (G := []) rfl trivial ?_
        exact jb_mask [true, false, true] rfl (zg_51_J26 hd 4 s.2 s.1 0 M N (by decide) h hK)
      · replace h := (if_neg c).symm.trans h
        refine jb_seg 4 (pc' := 26) (ls' := [some (.ref 4), some (.int s.1), some (.int s.2)]) (st' := [(.int ((1 : Int32) <<< (s.2 &&& 31))), (.int s.1)]) (σ' := (zE L, M, N)) (G := []) rfl trivial ?_
        exact jb_mask [true, false, true] rfl (zg_51_J26 hd 4 s.2 s.1 ((1 : Int32) <<< (s.2 &&& 31)) M N (by decide) h hK)
    · replace h := (if_neg c).symm.trans h
      refine jb_seg 1 (pc' := 35) (ls' := [some (.ref 4), some (.int s.1), some (.int s.2)]) (st' := [(.int s.1)]) (σ' := (zE L, M, N)) (G := []) rfl trivial ?_
      obtain rfl := Option.some.inj h
      obtain ⟨rfl, rfl⟩ := hK
      exact jb_reti rfl rfl
  · obtain ⟨d, rfl⟩ : ∃ e, d = e + 1 := ⟨d - 1, by omega⟩
    unfold zf_51_H4 at h
    refine jb_seg 3 (pc' := (if s.2 < 6 then 10 else 34)) (ls' := [some (.ref 24), some (.int s.1), some (.int s.2)]) (st' := []) (σ' := (zE L, M, N)) (G := []) rfl trivial ?_
    refine jb_ite (fun c => ?_) (fun c => ?_)
    · replace h := (if_pos c).symm.trans h
      refine jb_seg 3 (pc' := 13) (ls' := [some (.ref 24), some (.int s.1), some (.int s.2)]) (st' := [(.int s.2), (.ref 24), (.int s.1)]) (σ' := (zE L, M, N)) (G := []) rfl trivial ?_
      obtain ⟨q1, h1, h⟩ := jb_bd_of h
      refine jb_callV (q' := zq_37) (As := [(.int s.2)]) (rest := [(.int s.1)]) (σ1 := (zE L, M, N)) (v := some (.int (jb_b2i q1))) rfl rfl zp_37 rfl (Nat.le_of_ble_eq_true rfl) (jb_cat rfl) (Nat.le_of_ble_eq_true rfl) (Nat.le_of_ble_eq_true rfl) (Or.inl rfl) rfl (ze_37 24 s.2 M N (by decide) h1) ?_
      refine jb_seg 1 (pc' := (if (jb_b2i q1) = 0 then 25 else 19)) (ls' := [some (.ref 24), some (.int s.1), some (.int s.2)]) (st' := [(.int s.1)]) (σ' := (zE L, M, N)) (G := []) rfl trivial ?_
      refine jb_ite (fun c => ?_) (fun c => ?_)
      · replace h := (if_pos c).symm.trans h
        refine jb_seg 1 (pc' := 26) (ls' := [some (.ref 24), some (.int s.1), some (.int s.2)]) (st' := [(.int 0), (.int s.1)]) (σ' := (zE L, M, N)) (G := []) rfl trivial ?_
        exact jb_mask [true, false, true] rfl (zg_51_J26 hd 24 s.2 s.1 0 M N (by decide) h hK)
      · replace h := (if_neg c).symm.trans h
        refine jb_seg 4 (pc' := 26) (ls' := [some (.ref 24), some (.int s.1), some (.int s.2)]) (st' := [(.int ((1 : Int32) <<< (s.2 &&& 31))), (.int s.1)]) (σ' := (zE L, M, N)) (G := []) rfl trivial ?_
        exact jb_mask [true, false, true] rfl (zg_51_J26 hd 24 s.2 s.1 ((1 : Int32) <<< (s.2 &&& 31)) M N (by decide) h hK)
    · replace h := (if_neg c).symm.trans h
      refine jb_seg 1 (pc' := 35) (ls' := [some (.ref 24), some (.int s.1), some (.int s.2)]) (st' := [(.int s.1)]) (σ' := (zE L, M, N)) (G := []) rfl trivial ?_
      obtain rfl := Option.some.inj h
      obtain ⟨rfl, rfl⟩ := hK
      exact jb_reti rfl rfl
theorem zg_51_H4L {Γ : jb_G} {L : Nat} {d : Nat} (hd : 1 ≤ d) (o : Nat) (M : jb_Mi) (N : jb_Ml) (hp : o = 4 ∨ o = 24) {v : Option Value} {σ2 : jb_S} {s : Int32 × Int32} {r : (Int32)} (h : jb_lp (zf_51_H4 o M) s = some r) (hK : (fun r : Int32 => v = some (.int r) ∧ σ2 = (zE L, M, N)) r) : jb_V Γ d zq_51 4 [some (.ref o), some (.int s.1), some (.int s.2)] [] (zE L, M, N) v σ2 := by
  exact @jb_lp_ind (Int32 × Int32) ((Int32)) (zf_51_H4 o M) (fun s => jb_V Γ d zq_51 4 [some (.ref o), some (.int s.1), some (.int s.2)] [] (zE L, M, N) v σ2) (fun r : Int32 => v = some (.int r) ∧ σ2 = (zE L, M, N)) (fun s r h hk => zg_51_H4 hd o M N s hp h hk) s r h hK
set_option maxRecDepth 20000 in
theorem zg_51 {Γ : jb_G} {L : Nat} {d : Nat} (hd : 1 ≤ d) (o : Nat) (M : jb_Mi) (N : jb_Ml) (hp : o = 4 ∨ o = 24) {v : Option Value} {σ2 : jb_S} {r : (Int32)} (h : zf_51 o M = some r) (hK : (fun r : Int32 => v = some (.int r) ∧ σ2 = (zE L, M, N)) r) : jb_V Γ d zq_51 0 [some (.ref o), none, none] [] (zE L, M, N) v σ2 := by
  rcases hp with rfl | rfl
  · obtain ⟨d, rfl⟩ : ∃ e, d = e + 1 := ⟨d - 1, by omega⟩
    unfold zf_51 at h
    refine jb_seg 4 (pc' := 4) (ls' := [some (.ref 4), some (.int 0), some (.int 0)]) (st' := []) (σ' := (zE L, M, N)) (G := []) rfl trivial ?_
    exact jb_mask [true, true, true] rfl (zg_51_H4L hd 4 M N (by decide) h hK)
  · obtain ⟨d, rfl⟩ : ∃ e, d = e + 1 := ⟨d - 1, by omega⟩
    unfold zf_51 at h
    refine jb_seg 4 (pc' := 4) (ls' := [some (.ref 24), some (.int 0), some (.int 0)]) (st' := []) (σ' := (zE L, M, N)) (G := []) rfl trivial ?_
    exact jb_mask [true, true, true] rfl (zg_51_H4L hd 24 M N (by decide) h hK)
theorem ze_51 {Γ : jb_G} {L : Nat} {d : Nat} (hd : 1 ≤ d) (o : Nat) (M : jb_Mi) (N : jb_Ml) (hp : o = 4 ∨ o = 24) {r : (Int32)} (h : zf_51 o M = some r) : jb_V Γ d zq_51 0 (jb_en 3 [(.ref o)]) [] (zE L, M, N) (some (.int r)) (zE L, M, N) := zg_51 hd o M N hp h ⟨rfl, rfl⟩
-- X2_felledBy
set_option maxRecDepth 20000 in
theorem zg_52_J50 {Γ : jb_G} {L : Nat} {d : Nat} (x1 : Int32) (x2 : Int32) (x3 : Int32) (x4 : Int32) (M : jb_Mi) (N : jb_Ml) {v : Option Value} {σ2 : jb_S} {r : ((Int32 × Int32) ⊕ (Int32))} (h : zf_52_J50 x1 x2 x3 x4 M = some r) (hK : (jb_K (fun s : Int32 × Int32 => jb_V Γ d zq_52 5 [some (.ref 70), some (.int x1), some (.int x2), some (.int s.1), some (.int s.2)] [] (zE L, M, N) v σ2) (fun r : Int32 => v = some (.int r) ∧ σ2 = (zE L, M, N))) r) : jb_V Γ d zq_52 50 [some (.ref 70), some (.int x1), some (.int x2), some (.int x3), some (.int x4)] [] (zE L, M, N) v σ2 := by
  unfold zf_52_J50 at h
  refine jb_seg 2 (pc' := 5) (ls' := [some (.ref 70), some (.int x1), some (.int x2), some (.int x3), some (.int (x4 + 1))]) (st' := []) (σ' := (zE L, M, N)) (G := []) rfl trivial ?_
  obtain rfl := Option.some.inj h
  exact jb_mask [true, true, true, true, true] rfl hK
set_option maxRecDepth 20000 in
theorem zg_52_J48 {Γ : jb_G} {L : Nat} {d : Nat} (x1 : Int32) (x2 : Int32) (x4 : Int32) (s0 : Int32) (s1 : Int32) (M : jb_Mi) (N : jb_Ml) {v : Option Value} {σ2 : jb_S} {r : ((Int32 × Int32) ⊕ (Int32))} (h : zf_52_J48 x1 x2 x4 s0 s1 M = some r) (hK : (jb_K (fun s : Int32 × Int32 => jb_V Γ d zq_52 5 [some (.ref 70), some (.int x1), some (.int x2), some (.int s.1), some (.int s.2)] [] (zE L, M, N) v σ2) (fun r : Int32 => v = some (.int r) ∧ σ2 = (zE L, M, N))) r) : jb_V Γ d zq_52 48 [some (.ref 70), some (.int x1), some (.int x2), none, some (.int x4)] [(.int s1), (.int s0)] (zE L, M, N) v σ2 := by
  unfold zf_52_J48 at h
  refine jb_seg 2 (pc' := 50) (ls' := [some (.ref 70), some (.int x1), some (.int x2), some (.int (s0 ||| s1)), some (.int x4)]) (st' := []) (σ' := (zE L, M, N)) (G := []) rfl trivial ?_
  exact jb_mask [true, true, true, true, true] rfl (zg_52_J50 x1 x2 (s0 ||| s1) x4 M N h hK)
set_option maxRecDepth 20000 in
theorem zg_52_H5 {Γ : jb_G} {L : Nat} {d : Nat} (x1 : Int32) (x2 : Int32) (M : jb_Mi) (N : jb_Ml) (s : Int32 × Int32) {v : Option Value} {σ2 : jb_S} {r : ((Int32 × Int32) ⊕ (Int32))} (h : zf_52_H5 x1 x2 M s = some r) (hK : (jb_K (fun s : Int32 × Int32 => jb_V Γ d zq_52 5 [some (.ref 70), some (.int x1), some (.int x2), some (.int s.1), some (.int s.2)] [] (zE L, M, N) v σ2) (fun r : Int32 => v = some (.int r) ∧ σ2 = (zE L, M, N))) r) : jb_V Γ d zq_52 5 [some (.ref 70), some (.int x1), some (.int x2), some (.int s.1), some (.int s.2)] [] (zE L, M, N) v σ2 := by
  unfold zf_52_H5 at h
  refine jb_seg 3 (pc' := (if s.2 < 6 then 12 else 56)) (ls' := [some (.ref 70), some (.int x1), some (.int x2), some (.int s.1), some (.int s.2)]) (st' := []) (σ' := (zE L, M, N)) (G := []) rfl trivial ?_
  refine jb_ite (fun c => ?_) (fun c => ?_)
  · replace h := (if_pos c).symm.trans h
    refine jb_seg 6 (pc' := (if ((x1 >>> (s.2 &&& 31)) &&& 1) = 0 then 50 else 21)) (ls' := [some (.ref 70), some (.int x1), some (.int x2), some (.int s.1), some (.int s.2)]) (st' := []) (σ' := (zE L, M, N)) (G := []) rfl trivial ?_
    refine jb_ite (fun c => ?_) (fun c => ?_)
    · replace h := (if_pos c).symm.trans h
      exact jb_mask [true, true, true, true, true] rfl (zg_52_J50 x1 x2 s.1 s.2 M N h hK)
    · replace h := (if_neg c).symm.trans h
      refine jb_seg 7 (pc' := (if ((x2 >>> (s.2 &&& 31)) &&& 1) = 0 then 41 else 31)) (ls' := [some (.ref 70), some (.int x1), some (.int x2), some (.int s.1), some (.int s.2)]) (st' := [(.int s.1)]) (σ' := (zE L, M, N)) (G := []) rfl trivial ?_
      refine jb_ite (fun c => ?_) (fun c => ?_)
      · replace h := (if_pos c).symm.trans h
        obtain ⟨g1, h⟩ := jb_gd_of h
        refine jb_seg 4 (pc' := 48) (ls' := [some (.ref 70), some (.int x1), some (.int x2), some (.int s.1), some (.int s.2)]) (st' := [(.int (M 72 (s.2).toNatClampNeg)), (.int s.1)]) (σ' := (zE L, M, N)) (G := [vp_in s.2 6]) rfl g1 ?_
        exact jb_mask [true, true, true, false, true] rfl (zg_52_J48 x1 x2 s.2 s.1 (M 72 (s.2).toNatClampNeg) M N h hK)
      · replace h := (if_neg c).symm.trans h
        obtain ⟨g2, h⟩ := jb_gd_of h
        refine jb_seg 5 (pc' := 48) (ls' := [some (.ref 70), some (.int x1), some (.int x2), some (.int s.1), some (.int s.2)]) (st' := [(.int (M 71 (s.2).toNatClampNeg)), (.int s.1)]) (σ' := (zE L, M, N)) (G := [vp_in s.2 6]) rfl g2 ?_
        exact jb_mask [true, true, true, false, true] rfl (zg_52_J48 x1 x2 s.2 s.1 (M 71 (s.2).toNatClampNeg) M N h hK)
  · replace h := (if_neg c).symm.trans h
    refine jb_seg 1 (pc' := 57) (ls' := [some (.ref 70), some (.int x1), some (.int x2), some (.int s.1), some (.int s.2)]) (st' := [(.int s.1)]) (σ' := (zE L, M, N)) (G := []) rfl trivial ?_
    obtain rfl := Option.some.inj h
    obtain ⟨rfl, rfl⟩ := hK
    exact jb_reti rfl rfl
theorem zg_52_H5L {Γ : jb_G} {L : Nat} {d : Nat} (x1 : Int32) (x2 : Int32) (M : jb_Mi) (N : jb_Ml) {v : Option Value} {σ2 : jb_S} {s : Int32 × Int32} {r : (Int32)} (h : jb_lp (zf_52_H5 x1 x2 M) s = some r) (hK : (fun r : Int32 => v = some (.int r) ∧ σ2 = (zE L, M, N)) r) : jb_V Γ d zq_52 5 [some (.ref 70), some (.int x1), some (.int x2), some (.int s.1), some (.int s.2)] [] (zE L, M, N) v σ2 := by
  exact @jb_lp_ind (Int32 × Int32) ((Int32)) (zf_52_H5 x1 x2 M) (fun s => jb_V Γ d zq_52 5 [some (.ref 70), some (.int x1), some (.int x2), some (.int s.1), some (.int s.2)] [] (zE L, M, N) v σ2) (fun r : Int32 => v = some (.int r) ∧ σ2 = (zE L, M, N)) (fun s r h hk => zg_52_H5 x1 x2 M N s h hk) s r h hK
set_option maxRecDepth 20000 in
theorem zg_52 {Γ : jb_G} {L : Nat} {d : Nat} (x1 : Int32) (x2 : Int32) (M : jb_Mi) (N : jb_Ml) {v : Option Value} {σ2 : jb_S} {r : (Int32)} (h : zf_52 x1 x2 M = some r) (hK : (fun r : Int32 => v = some (.int r) ∧ σ2 = (zE L, M, N)) r) : jb_V Γ d zq_52 0 [some (.ref 70), some (.int x1), some (.int x2), none, none] [] (zE L, M, N) v σ2 := by
  unfold zf_52 at h
  refine jb_seg 4 (pc' := 5) (ls' := [some (.ref 70), some (.int x1), some (.int x2), some (.int 0), some (.int 0)]) (st' := []) (σ' := (zE L, M, N)) (G := []) rfl trivial ?_
  exact jb_mask [true, true, true, true, true] rfl (zg_52_H5L x1 x2 M N h hK)
theorem ze_52 {Γ : jb_G} {L : Nat} {d : Nat} (x1 : Int32) (x2 : Int32) (M : jb_Mi) (N : jb_Ml) {r : (Int32)} (h : zf_52 x1 x2 M = some r) : jb_V Γ d zq_52 0 (jb_en 5 [(.ref 70), (.int x1), (.int x2)]) [] (zE L, M, N) (some (.int r)) (zE L, M, N) := zg_52 x1 x2 M N h ⟨rfl, rfl⟩
-- X2_canFell
set_option maxRecDepth 20000 in
theorem zg_53_J28 {Γ : jb_G} {L : Nat} {d : Nat} (hd : 1 ≤ d) (x1 : Int32) (x2 : Int32) (x3 : Int32) (M : jb_Mi) (N : jb_Ml) {v : Option Value} {σ2 : jb_S} {r : ((Int32) ⊕ (Bool))} (h : zf_53_J28 x1 x2 x3 M = some r) (hK : (jb_K (fun s : Int32 => jb_V Γ d zq_53 2 [some (.ref 70), some (.int x1), some (.int x2), some (.int s)] [] (zE L, M, N) v σ2) (fun r : Bool => v = some (.int (jb_b2i r)) ∧ σ2 = (zE L, M, N))) r) : jb_V Γ d zq_53 28 [some (.ref 70), some (.int x1), some (.int x2), some (.int x3)] [] (zE L, M, N) v σ2 := by
  obtain ⟨d, rfl⟩ : ∃ e, d = e + 1 := ⟨d - 1, by omega⟩
  unfold zf_53_J28 at h
  refine jb_seg 2 (pc' := 2) (ls' := [some (.ref 70), some (.int x1), some (.int x2), some (.int (x3 + 1))]) (st' := []) (σ' := (zE L, M, N)) (G := []) rfl trivial ?_
  obtain rfl := Option.some.inj h
  exact jb_mask [true, true, true, true] rfl hK
set_option maxRecDepth 20000 in
theorem zg_53_H2 {Γ : jb_G} {L : Nat} {d : Nat} (hd : 1 ≤ d) (x1 : Int32) (x2 : Int32) (M : jb_Mi) (N : jb_Ml) (s : Int32) {v : Option Value} {σ2 : jb_S} {r : ((Int32) ⊕ (Bool))} (h : zf_53_H2 x1 x2 M s = some r) (hK : (jb_K (fun s : Int32 => jb_V Γ d zq_53 2 [some (.ref 70), some (.int x1), some (.int x2), some (.int s)] [] (zE L, M, N) v σ2) (fun r : Bool => v = some (.int (jb_b2i r)) ∧ σ2 = (zE L, M, N))) r) : jb_V Γ d zq_53 2 [some (.ref 70), some (.int x1), some (.int x2), some (.int s)] [] (zE L, M, N) v σ2 := by
  obtain ⟨d, rfl⟩ : ∃ e, d = e + 1 := ⟨d - 1, by omega⟩
  unfold zf_53_H2 at h
  refine jb_seg 3 (pc' := (if s < 64 then 8 else 34)) (ls' := [some (.ref 70), some (.int x1), some (.int x2), some (.int s)]) (st' := []) (σ' := (zE L, M, N)) (G := []) rfl trivial ?_
  refine jb_ite (fun c => ?_) (fun c => ?_)
  · replace h := (if_pos c).symm.trans h
    refine jb_seg 6 (pc' := (if (s &&& (x1 ^^^ (-1))) = 0 then 16 else 28)) (ls' := [some (.ref 70), some (.int x1), some (.int x2), some (.int s)]) (st' := []) (σ' := (zE L, M, N)) (G := []) rfl trivial ?_
    refine jb_ite (fun c => ?_) (fun c => ?_)
    · replace h := (if_pos c).symm.trans h
      refine jb_seg 3 (pc' := 19) (ls' := [some (.ref 70), some (.int x1), some (.int x2), some (.int s)]) (st' := [(.int s), (.int x1), (.ref 70)]) (σ' := (zE L, M, N)) (G := []) rfl trivial ?_
      obtain ⟨q1, h1, h⟩ := jb_bd_of h
      refine jb_callV (q' := zq_52) (As := [(.int x1), (.int s)]) (rest := []) (σ1 := (zE L, M, N)) (v := some (.int q1)) rfl rfl zp_52 rfl (Nat.le_of_ble_eq_true rfl) (jb_cat rfl) (Nat.le_of_ble_eq_true rfl) (Nat.le_of_ble_eq_true rfl) (Or.inl rfl) rfl (ze_52 x1 s M N h1) ?_
      refine jb_seg 2 (pc' := (if q1 = x2 then 26 else 28)) (ls' := [some (.ref 70), some (.int x1), some (.int x2), some (.int s)]) (st' := []) (σ' := (zE L, M, N)) (G := []) rfl trivial ?_
      refine jb_ite (fun c => ?_) (fun c => ?_)
      · replace h := (if_pos c).symm.trans h
        refine jb_seg 1 (pc' := 27) (ls' := [some (.ref 70), some (.int x1), some (.int x2), some (.int s)]) (st' := [(.int 1)]) (σ' := (zE L, M, N)) (G := []) rfl trivial ?_
        obtain rfl := Option.some.inj h
        obtain ⟨rfl, rfl⟩ := hK
        exact jb_retz (by decide) rfl rfl
      · replace h := (if_neg c).symm.trans h
        exact jb_mask [true, true, true, true] rfl (zg_53_J28 hd x1 x2 s M N h hK)
    · replace h := (if_neg c).symm.trans h
      exact jb_mask [true, true, true, true] rfl (zg_53_J28 hd x1 x2 s M N h hK)
  · replace h := (if_neg c).symm.trans h
    refine jb_seg 1 (pc' := 35) (ls' := [some (.ref 70), some (.int x1), some (.int x2), some (.int s)]) (st' := [(.int 0)]) (σ' := (zE L, M, N)) (G := []) rfl trivial ?_
    obtain rfl := Option.some.inj h
    obtain ⟨rfl, rfl⟩ := hK
    exact jb_retz (by decide) rfl rfl
theorem zg_53_H2L {Γ : jb_G} {L : Nat} {d : Nat} (hd : 1 ≤ d) (x1 : Int32) (x2 : Int32) (M : jb_Mi) (N : jb_Ml) {v : Option Value} {σ2 : jb_S} {s : Int32} {r : (Bool)} (h : jb_lp (zf_53_H2 x1 x2 M) s = some r) (hK : (fun r : Bool => v = some (.int (jb_b2i r)) ∧ σ2 = (zE L, M, N)) r) : jb_V Γ d zq_53 2 [some (.ref 70), some (.int x1), some (.int x2), some (.int s)] [] (zE L, M, N) v σ2 := by
  exact @jb_lp_ind (Int32) ((Bool)) (zf_53_H2 x1 x2 M) (fun s => jb_V Γ d zq_53 2 [some (.ref 70), some (.int x1), some (.int x2), some (.int s)] [] (zE L, M, N) v σ2) (fun r : Bool => v = some (.int (jb_b2i r)) ∧ σ2 = (zE L, M, N)) (fun s r h hk => zg_53_H2 hd x1 x2 M N s h hk) s r h hK
set_option maxRecDepth 20000 in
theorem zg_53 {Γ : jb_G} {L : Nat} {d : Nat} (hd : 1 ≤ d) (x1 : Int32) (x2 : Int32) (M : jb_Mi) (N : jb_Ml) {v : Option Value} {σ2 : jb_S} {r : (Bool)} (h : zf_53 x1 x2 M = some r) (hK : (fun r : Bool => v = some (.int (jb_b2i r)) ∧ σ2 = (zE L, M, N)) r) : jb_V Γ d zq_53 0 [some (.ref 70), some (.int x1), some (.int x2), none] [] (zE L, M, N) v σ2 := by
  obtain ⟨d, rfl⟩ : ∃ e, d = e + 1 := ⟨d - 1, by omega⟩
  unfold zf_53 at h
  refine jb_seg 2 (pc' := 2) (ls' := [some (.ref 70), some (.int x1), some (.int x2), some (.int 0)]) (st' := []) (σ' := (zE L, M, N)) (G := []) rfl trivial ?_
  exact jb_mask [true, true, true, true] rfl (zg_53_H2L hd x1 x2 M N h hK)
theorem ze_53 {Γ : jb_G} {L : Nat} {d : Nat} (hd : 1 ≤ d) (x1 : Int32) (x2 : Int32) (M : jb_Mi) (N : jb_Ml) {r : (Bool)} (h : zf_53 x1 x2 M = some r) : jb_V Γ d zq_53 0 (jb_en 4 [(.ref 70), (.int x1), (.int x2)]) [] (zE L, M, N) (some (.int (jb_b2i r))) (zE L, M, N) := zg_53 hd x1 x2 M N h ⟨rfl, rfl⟩
-- X2_leastPushed
set_option maxRecDepth 20000 in
theorem zg_54_J69 {Γ : jb_G} {L : Nat} {d : Nat} (hd : 3 ≤ d) (x1 : Int32) (x2 : Int32) (s1 : Int32) (s2 : Int32) (M : jb_Mi) (N : jb_Ml) {v : Option Value} {σ2 : jb_S} {r : ((Int32 × jb_Mi) ⊕ (Int32 × jb_Mi))} (h : zf_54_J69 x1 x2 s1 s2 M = some r) (hK : (jb_K (fun s : Int32 × jb_Mi => jb_V Γ d zq_54 10 [some (.ref 70), some (.int x1), some (.int s.1), none, none] [] (zE L, s.2, N) v σ2) (fun r : Int32 × jb_Mi => v = some (.int r.1) ∧ σ2 = (zE L, r.2, N))) r) : jb_V Γ d zq_54 69 [some (.ref 70), some (.int x1), some (.int x2), none, none] [(.int s2), (.int s1), (.ref 72)] (zE L, M, N) v σ2 := by
  obtain ⟨d, rfl⟩ : ∃ e, d = e + 1 := ⟨d - 1, by omega⟩
  unfold zf_54_J69 at h
  obtain ⟨g5, h⟩ := jb_gd_of h
  refine jb_seg 3 (pc' := 10) (ls' := [some (.ref 70), some (.int x1), some (.int (x2 + 1)), none, none]) (st' := []) (σ' := (zE L, (jb_up M 72 s1.toNatClampNeg s2), N)) (G := [vp_in s1 6]) rfl g5 ?_
  obtain rfl := Option.some.inj h
  exact jb_mask [true, true, true, false, false] rfl hK
set_option maxRecDepth 20000 in
theorem zg_54_J42 {Γ : jb_G} {L : Nat} {d : Nat} (hd : 3 ≤ d) (x1 : Int32) (x2 : Int32) (s1 : Int32) (s2 : Int32) (M : jb_Mi) (N : jb_Ml) {v : Option Value} {σ2 : jb_S} {r : ((Int32 × jb_Mi) ⊕ (Int32 × jb_Mi))} (h : zf_54_J42 x1 x2 s1 s2 M = some r) (hK : (jb_K (fun s : Int32 × jb_Mi => jb_V Γ d zq_54 10 [some (.ref 70), some (.int x1), some (.int s.1), none, none] [] (zE L, s.2, N) v σ2) (fun r : Int32 × jb_Mi => v = some (.int r.1) ∧ σ2 = (zE L, r.2, N))) r) : jb_V Γ d zq_54 42 [some (.ref 70), some (.int x1), some (.int x2), none, none] [(.int s2), (.int s1), (.ref 71)] (zE L, M, N) v σ2 := by
  obtain ⟨d, rfl⟩ : ∃ e, d = e + 1 := ⟨d - 1, by omega⟩
  unfold zf_54_J42 at h
  obtain ⟨g3, h⟩ := jb_gd_of h
  refine jb_seg 7 (pc' := 53) (ls' := [some (.ref 70), some (.int x1), some (.int x2), none, none]) (st' := [(.int x2), (.ref 4), (.int x2), (.ref 72)]) (σ' := (zE L, (jb_up M 71 s1.toNatClampNeg s2), N)) (G := [vp_in s1 6]) rfl g3 ?_
  obtain ⟨q4, h4, h⟩ := jb_bd_of h
  refine jb_callV (q' := zq_37) (As := [(.int x2)]) (rest := [(.int x2), (.ref 72)]) (σ1 := (zE L, (jb_up M 71 s1.toNatClampNeg s2), N)) (v := some (.int (jb_b2i q4))) rfl rfl zp_37 rfl (Nat.le_of_ble_eq_true rfl) (jb_cat rfl) (Nat.le_of_ble_eq_true rfl) (Nat.le_of_ble_eq_true rfl) (Or.inl rfl) rfl (ze_37 4 x2 (jb_up M 71 s1.toNatClampNeg s2) N (by decide) h4) ?_
  refine jb_seg 1 (pc' := (if (jb_b2i q4) = 0 then 68 else 59)) (ls' := [some (.ref 70), some (.int x1), some (.int x2), none, none]) (st' := [(.int x2), (.ref 72)]) (σ' := (zE L, (jb_up M 71 s1.toNatClampNeg s2), N)) (G := []) rfl trivial ?_
  refine jb_ite (fun c => ?_) (fun c => ?_)
  · replace h := (if_pos c).symm.trans h
    refine jb_seg 1 (pc' := 69) (ls' := [some (.ref 70), some (.int x1), some (.int x2), none, none]) (st' := [(.int 0), (.int x2), (.ref 72)]) (σ' := (zE L, (jb_up M 71 s1.toNatClampNeg s2), N)) (G := []) rfl trivial ?_
    exact jb_mask [true, true, true, false, false] rfl (zg_54_J69 hd x1 x2 x2 0 (jb_up M 71 s1.toNatClampNeg s2) N h hK)
  · replace h := (if_neg c).symm.trans h
    refine jb_seg 3 (pc' := 62) (ls' := [some (.ref 70), some (.int x1), some (.int x2), none, none]) (st' := [(.int 0), (.int x2), (.ref 70), (.int x2), (.ref 72)]) (σ' := (zE L, (jb_up M 71 s1.toNatClampNeg s2), N)) (G := []) rfl trivial ?_
    obtain ⟨q6, h6, h⟩ := jb_bd_of h
    refine jb_callV (q' := zq_50) (As := [(.int x2), (.int 0)]) (rest := [(.int x2), (.ref 72)]) (σ1 := (zE L, (jb_up M 71 s1.toNatClampNeg s2), N)) (v := some (.int q6)) rfl rfl zp_50 rfl (Nat.le_of_ble_eq_true rfl) (jb_cat rfl) (Nat.le_of_ble_eq_true rfl) (Nat.le_of_ble_eq_true rfl) (Or.inl rfl) rfl (ze_50 (by omega) x2 0 (jb_up M 71 s1.toNatClampNeg s2) N h6) ?_
    refine jb_seg 1 (pc' := 69) (ls' := [some (.ref 70), some (.int x1), some (.int x2), none, none]) (st' := [(.int q6), (.int x2), (.ref 72)]) (σ' := (zE L, (jb_up M 71 s1.toNatClampNeg s2), N)) (G := []) rfl trivial ?_
    exact jb_mask [true, true, true, false, false] rfl (zg_54_J69 hd x1 x2 x2 q6 (jb_up M 71 s1.toNatClampNeg s2) N h hK)
set_option maxRecDepth 20000 in
theorem zg_54_J128 {Γ : jb_G} {L : Nat} {d : Nat} (hd : 3 ≤ d) (x1 : Int32) (x2 : Int32) (x3 : Int32) (M : jb_Mi) (N : jb_Ml) {v : Option Value} {σ2 : jb_S} {r : ((Int32 × Int32) ⊕ (Int32 × jb_Mi))} (h : zf_54_J128 x1 x2 x3 M = some r) (hK : (jb_K (fun s : Int32 × Int32 => jb_V Γ d zq_54 80 [some (.ref 70), some (.int x1), some (.int s.1), some (.int s.2), none] [] (zE L, M, N) v σ2) (fun r : Int32 × jb_Mi => v = some (.int r.1) ∧ σ2 = (zE L, r.2, N))) r) : jb_V Γ d zq_54 128 [some (.ref 70), some (.int x1), some (.int x2), some (.int x3), none] [] (zE L, M, N) v σ2 := by
  obtain ⟨d, rfl⟩ : ∃ e, d = e + 1 := ⟨d - 1, by omega⟩
  unfold zf_54_J128 at h
  refine jb_seg 2 (pc' := 80) (ls' := [some (.ref 70), some (.int x1), some (.int x2), some (.int (x3 + 1)), none]) (st' := []) (σ' := (zE L, M, N)) (G := []) rfl trivial ?_
  obtain rfl := Option.some.inj h
  exact jb_mask [true, true, true, true, false] rfl hK
set_option maxRecDepth 20000 in
theorem zg_54_J102 {Γ : jb_G} {L : Nat} {d : Nat} (hd : 3 ≤ d) (x1 : Int32) (x2 : Int32) (x3 : Int32) (s0 : Int32) (M : jb_Mi) (N : jb_Ml) {v : Option Value} {σ2 : jb_S} {r : ((Int32 × Int32) ⊕ (Int32 × jb_Mi))} (h : zf_54_J102 x1 x2 x3 s0 M = some r) (hK : (jb_K (fun s : Int32 × Int32 => jb_V Γ d zq_54 80 [some (.ref 70), some (.int x1), some (.int s.1), some (.int s.2), none] [] (zE L, M, N) v σ2) (fun r : Int32 × jb_Mi => v = some (.int r.1) ∧ σ2 = (zE L, r.2, N))) r) : jb_V Γ d zq_54 102 [some (.ref 70), some (.int x1), some (.int x2), some (.int x3), none] [(.int s0)] (zE L, M, N) v σ2 := by
  obtain ⟨d, rfl⟩ : ∃ e, d = e + 1 := ⟨d - 1, by omega⟩
  unfold zf_54_J102 at h
  refine jb_seg 7 (pc' := (if (x3 &&& (x1 ^^^ (-1))) = 0 then 112 else 128)) (ls' := [some (.ref 70), some (.int x1), some (.int x2), some (.int x3), some (.int s0)]) (st' := []) (σ' := (zE L, M, N)) (G := []) rfl trivial ?_
  refine jb_ite (fun c => ?_) (fun c => ?_)
  · replace h := (if_pos c).symm.trans h
    refine jb_seg 2 (pc' := (if s0 = 0 then 128 else 117)) (ls' := [some (.ref 70), some (.int x1), some (.int x2), some (.int x3), some (.int s0)]) (st' := []) (σ' := (zE L, M, N)) (G := []) rfl trivial ?_
    refine jb_ite (fun c => ?_) (fun c => ?_)
    · replace h := (if_pos c).symm.trans h
      exact jb_mask [true, true, true, true, false] rfl (zg_54_J128 hd x1 x2 x3 M N h hK)
    · replace h := (if_neg c).symm.trans h
      refine jb_seg 3 (pc' := 120) (ls' := [some (.ref 70), some (.int x1), some (.int x2), some (.int x3), some (.int s0)]) (st' := [(.int x1), (.int x3), (.ref 70)]) (σ' := (zE L, M, N)) (G := []) rfl trivial ?_
      obtain ⟨q8, h8, h⟩ := jb_bd_of h
      refine jb_callV (q' := zq_53) (As := [(.int x3), (.int x1)]) (rest := []) (σ1 := (zE L, M, N)) (v := some (.int (jb_b2i q8))) rfl rfl zp_53 rfl (Nat.le_of_ble_eq_true rfl) (jb_cat rfl) (Nat.le_of_ble_eq_true rfl) (Nat.le_of_ble_eq_true rfl) (Or.inl rfl) rfl (ze_53 (by omega) x3 x1 M N h8) ?_
      refine jb_seg 1 (pc' := (if (jb_b2i q8) = 0 then 128 else 126)) (ls' := [some (.ref 70), some (.int x1), some (.int x2), some (.int x3), some (.int s0)]) (st' := []) (σ' := (zE L, M, N)) (G := []) rfl trivial ?_
      refine jb_ite (fun c => ?_) (fun c => ?_)
      · replace h := (if_pos c).symm.trans h
        exact jb_mask [true, true, true, true, false] rfl (zg_54_J128 hd x1 x2 x3 M N h hK)
      · replace h := (if_neg c).symm.trans h
        refine jb_seg 2 (pc' := 128) (ls' := [some (.ref 70), some (.int x1), some (.int x3), some (.int x3), some (.int s0)]) (st' := []) (σ' := (zE L, M, N)) (G := []) rfl trivial ?_
        exact jb_mask [true, true, true, true, false] rfl (zg_54_J128 hd x1 x3 x3 M N h hK)
  · replace h := (if_neg c).symm.trans h
    exact jb_mask [true, true, true, true, false] rfl (zg_54_J128 hd x1 x2 x3 M N h hK)
set_option maxRecDepth 20000 in
theorem zg_54_H80 {Γ : jb_G} {L : Nat} {d : Nat} (hd : 3 ≤ d) (x1 : Int32) (M : jb_Mi) (N : jb_Ml) (s : Int32 × Int32) {v : Option Value} {σ2 : jb_S} {r : ((Int32 × Int32) ⊕ (Int32 × jb_Mi))} (h : zf_54_H80 x1 M s = some r) (hK : (jb_K (fun s : Int32 × Int32 => jb_V Γ d zq_54 80 [some (.ref 70), some (.int x1), some (.int s.1), some (.int s.2), none] [] (zE L, M, N) v σ2) (fun r : Int32 × jb_Mi => v = some (.int r.1) ∧ σ2 = (zE L, r.2, N))) r) : jb_V Γ d zq_54 80 [some (.ref 70), some (.int x1), some (.int s.1), some (.int s.2), none] [] (zE L, M, N) v σ2 := by
  obtain ⟨d, rfl⟩ : ∃ e, d = e + 1 := ⟨d - 1, by omega⟩
  unfold zf_54_H80 at h
  refine jb_seg 3 (pc' := (if s.2 < 64 then 86 else 134)) (ls' := [some (.ref 70), some (.int x1), some (.int s.1), some (.int s.2), none]) (st' := []) (σ' := (zE L, M, N)) (G := []) rfl trivial ?_
  refine jb_ite (fun c => ?_) (fun c => ?_)
  · replace h := (if_pos c).symm.trans h
    refine jb_seg 1 (pc' := 87) (ls' := [some (.ref 70), some (.int x1), some (.int s.1), some (.int s.2), none]) (st' := [(.int s.2)]) (σ' := (zE L, M, N)) (G := []) rfl trivial ?_
    refine jb_callS (q' := zq_26) (As := [(.int s.2)]) (rest := []) (σ1 := (zE L, M, N)) (v := some (.int (zf_26 s.2))) rfl (Nat.le_of_ble_eq_true rfl) rfl zp_26 (jb_cat rfl) (Nat.le_of_ble_eq_true rfl) (Nat.le_of_ble_eq_true rfl) (Or.inl rfl) rfl (ze_26 s.2 M N rfl) ?_
    refine jb_seg 1 (pc' := 91) (ls' := [some (.ref 70), some (.int x1), some (.int s.1), some (.int s.2), none]) (st' := [(.int s.1), (.int (zf_26 s.2))]) (σ' := (zE L, M, N)) (G := []) rfl trivial ?_
    refine jb_callS (q' := zq_26) (As := [(.int s.1)]) (rest := [(.int (zf_26 s.2))]) (σ1 := (zE L, M, N)) (v := some (.int (zf_26 s.1))) rfl (Nat.le_of_ble_eq_true rfl) rfl zp_26 (jb_cat rfl) (Nat.le_of_ble_eq_true rfl) (Nat.le_of_ble_eq_true rfl) (Or.inl rfl) rfl (ze_26 s.1 M N rfl) ?_
    refine jb_seg 1 (pc' := (if (zf_26 s.2) < (zf_26 s.1) then 97 else 101)) (ls' := [some (.ref 70), some (.int x1), some (.int s.1), some (.int s.2), none]) (st' := []) (σ' := (zE L, M, N)) (G := []) rfl trivial ?_
    refine jb_ite (fun c => ?_) (fun c => ?_)
    · replace h := (if_pos c).symm.trans h
      refine jb_seg 2 (pc' := 102) (ls' := [some (.ref 70), some (.int x1), some (.int s.1), some (.int s.2), none]) (st' := [(.int 1)]) (σ' := (zE L, M, N)) (G := []) rfl trivial ?_
      exact jb_mask [true, true, true, true, false] rfl (zg_54_J102 hd x1 s.1 s.2 1 M N h hK)
    · replace h := (if_neg c).symm.trans h
      refine jb_seg 1 (pc' := 102) (ls' := [some (.ref 70), some (.int x1), some (.int s.1), some (.int s.2), none]) (st' := [(.int 0)]) (σ' := (zE L, M, N)) (G := []) rfl trivial ?_
      exact jb_mask [true, true, true, true, false] rfl (zg_54_J102 hd x1 s.1 s.2 0 M N h hK)
  · replace h := (if_neg c).symm.trans h
    refine jb_seg 1 (pc' := 135) (ls' := [some (.ref 70), some (.int x1), some (.int s.1), some (.int s.2), none]) (st' := [(.int s.1)]) (σ' := (zE L, M, N)) (G := []) rfl trivial ?_
    obtain rfl := Option.some.inj h
    obtain ⟨rfl, rfl⟩ := hK
    exact jb_reti rfl rfl
theorem zg_54_H80L {Γ : jb_G} {L : Nat} {d : Nat} (hd : 3 ≤ d) (x1 : Int32) (M : jb_Mi) (N : jb_Ml) {v : Option Value} {σ2 : jb_S} {s : Int32 × Int32} {r : (Int32 × jb_Mi)} (h : jb_lp (zf_54_H80 x1 M) s = some r) (hK : (fun r : Int32 × jb_Mi => v = some (.int r.1) ∧ σ2 = (zE L, r.2, N)) r) : jb_V Γ d zq_54 80 [some (.ref 70), some (.int x1), some (.int s.1), some (.int s.2), none] [] (zE L, M, N) v σ2 := by
  exact @jb_lp_ind (Int32 × Int32) ((Int32 × jb_Mi)) (zf_54_H80 x1 M) (fun s => jb_V Γ d zq_54 80 [some (.ref 70), some (.int x1), some (.int s.1), some (.int s.2), none] [] (zE L, M, N) v σ2) (fun r : Int32 × jb_Mi => v = some (.int r.1) ∧ σ2 = (zE L, r.2, N)) (fun s r h hk => zg_54_H80 hd x1 M N s h hk) s r h hK
set_option maxRecDepth 20000 in
theorem zg_54_H10 {Γ : jb_G} {L : Nat} {d : Nat} (hd : 3 ≤ d) (x1 : Int32) (N : jb_Ml) (s : Int32 × jb_Mi) {v : Option Value} {σ2 : jb_S} {r : ((Int32 × jb_Mi) ⊕ (Int32 × jb_Mi))} (h : zf_54_H10 x1 s = some r) (hK : (jb_K (fun s : Int32 × jb_Mi => jb_V Γ d zq_54 10 [some (.ref 70), some (.int x1), some (.int s.1), none, none] [] (zE L, s.2, N) v σ2) (fun r : Int32 × jb_Mi => v = some (.int r.1) ∧ σ2 = (zE L, r.2, N))) r) : jb_V Γ d zq_54 10 [some (.ref 70), some (.int x1), some (.int s.1), none, none] [] (zE L, s.2, N) v σ2 := by
  obtain ⟨d, rfl⟩ : ∃ e, d = e + 1 := ⟨d - 1, by omega⟩
  unfold zf_54_H10 at h
  refine jb_seg 3 (pc' := (if s.1 < 6 then 16 else 76)) (ls' := [some (.ref 70), some (.int x1), some (.int s.1), none, none]) (st' := []) (σ' := (zE L, s.2, N)) (G := []) rfl trivial ?_
  refine jb_ite (fun c => ?_) (fun c => ?_)
  · replace h := (if_pos c).symm.trans h
    refine jb_seg 6 (pc' := 26) (ls' := [some (.ref 70), some (.int x1), some (.int s.1), none, none]) (st' := [(.int s.1), (.ref 4), (.int s.1), (.ref 71)]) (σ' := (zE L, s.2, N)) (G := []) rfl trivial ?_
    obtain ⟨q2, h2, h⟩ := jb_bd_of h
    refine jb_callV (q' := zq_37) (As := [(.int s.1)]) (rest := [(.int s.1), (.ref 71)]) (σ1 := (zE L, s.2, N)) (v := some (.int (jb_b2i q2))) rfl rfl zp_37 rfl (Nat.le_of_ble_eq_true rfl) (jb_cat rfl) (Nat.le_of_ble_eq_true rfl) (Nat.le_of_ble_eq_true rfl) (Or.inl rfl) rfl (ze_37 4 s.1 s.2 N (by decide) h2) ?_
    refine jb_seg 1 (pc' := (if (jb_b2i q2) = 0 then 41 else 32)) (ls' := [some (.ref 70), some (.int x1), some (.int s.1), none, none]) (st' := [(.int s.1), (.ref 71)]) (σ' := (zE L, s.2, N)) (G := []) rfl trivial ?_
    refine jb_ite (fun c => ?_) (fun c => ?_)
    · replace h := (if_pos c).symm.trans h
      refine jb_seg 1 (pc' := 42) (ls' := [some (.ref 70), some (.int x1), some (.int s.1), none, none]) (st' := [(.int 0), (.int s.1), (.ref 71)]) (σ' := (zE L, s.2, N)) (G := []) rfl trivial ?_
      exact jb_mask [true, true, true, false, false] rfl (zg_54_J42 hd x1 s.1 s.1 0 s.2 N h hK)
    · replace h := (if_neg c).symm.trans h
      refine jb_seg 3 (pc' := 35) (ls' := [some (.ref 70), some (.int x1), some (.int s.1), none, none]) (st' := [(.int 1), (.int s.1), (.ref 70), (.int s.1), (.ref 71)]) (σ' := (zE L, s.2, N)) (G := []) rfl trivial ?_
      obtain ⟨q7, h7, h⟩ := jb_bd_of h
      refine jb_callV (q' := zq_50) (As := [(.int s.1), (.int 1)]) (rest := [(.int s.1), (.ref 71)]) (σ1 := (zE L, s.2, N)) (v := some (.int q7)) rfl rfl zp_50 rfl (Nat.le_of_ble_eq_true rfl) (jb_cat rfl) (Nat.le_of_ble_eq_true rfl) (Nat.le_of_ble_eq_true rfl) (Or.inl rfl) rfl (ze_50 (by omega) s.1 1 s.2 N h7) ?_
      refine jb_seg 1 (pc' := 42) (ls' := [some (.ref 70), some (.int x1), some (.int s.1), none, none]) (st' := [(.int q7), (.int s.1), (.ref 71)]) (σ' := (zE L, s.2, N)) (G := []) rfl trivial ?_
      exact jb_mask [true, true, true, false, false] rfl (zg_54_J42 hd x1 s.1 s.1 q7 s.2 N h hK)
  · replace h := (if_neg c).symm.trans h
    refine jb_seg 4 (pc' := 80) (ls' := [some (.ref 70), some (.int x1), some (.int x1), some (.int 0), none]) (st' := []) (σ' := (zE L, s.2, N)) (G := []) rfl trivial ?_
    obtain ⟨y0, hy0, rfl⟩ := jb_mp_of h
    exact jb_mask [true, true, true, true, false] rfl (zg_54_H80L hd x1 s.2 N hy0 hK)
theorem zg_54_H10L {Γ : jb_G} {L : Nat} {d : Nat} (hd : 3 ≤ d) (x1 : Int32) (N : jb_Ml) {v : Option Value} {σ2 : jb_S} {s : Int32 × jb_Mi} {r : (Int32 × jb_Mi)} (h : jb_lp (zf_54_H10 x1) s = some r) (hK : (fun r : Int32 × jb_Mi => v = some (.int r.1) ∧ σ2 = (zE L, r.2, N)) r) : jb_V Γ d zq_54 10 [some (.ref 70), some (.int x1), some (.int s.1), none, none] [] (zE L, s.2, N) v σ2 := by
  exact @jb_lp_ind (Int32 × jb_Mi) ((Int32 × jb_Mi)) (zf_54_H10 x1) (fun s => jb_V Γ d zq_54 10 [some (.ref 70), some (.int x1), some (.int s.1), none, none] [] (zE L, s.2, N) v σ2) (fun r : Int32 × jb_Mi => v = some (.int r.1) ∧ σ2 = (zE L, r.2, N)) (fun s r h hk => zg_54_H10 hd x1 N s h hk) s r h hK
set_option maxRecDepth 20000 in
theorem zg_54 {Γ : jb_G} {L : Nat} {d : Nat} (hd : 3 ≤ d) (M : jb_Mi) (N : jb_Ml) {v : Option Value} {σ2 : jb_S} {r : (Int32 × jb_Mi)} (h : zf_54 M = some r) (hK : (fun r : Int32 × jb_Mi => v = some (.int r.1) ∧ σ2 = (zE L, r.2, N)) r) : jb_V Γ d zq_54 0 [some (.ref 70), none, none, none, none] [] (zE L, M, N) v σ2 := by
  obtain ⟨d, rfl⟩ : ∃ e, d = e + 1 := ⟨d - 1, by omega⟩
  unfold zf_54 at h
  refine jb_seg 2 (pc' := 4) (ls' := [some (.ref 70), none, none, none, none]) (st' := [(.ref 4)]) (σ' := (zE L, M, N)) (G := []) rfl trivial ?_
  obtain ⟨q1, h1, h⟩ := jb_bd_of h
  refine jb_callV (q' := zq_51) (As := []) (rest := []) (σ1 := (zE L, M, N)) (v := some (.int q1)) rfl rfl zp_51 rfl (Nat.le_of_ble_eq_true rfl) (jb_cat rfl) (Nat.le_of_ble_eq_true rfl) (Nat.le_of_ble_eq_true rfl) (Or.inl rfl) rfl (ze_51 (by omega) 4 M N (by decide) h1) ?_
  refine jb_seg 3 (pc' := 10) (ls' := [some (.ref 70), some (.int q1), some (.int 0), none, none]) (st' := []) (σ' := (zE L, M, N)) (G := []) rfl trivial ?_
  exact jb_mask [true, true, true, false, false] rfl (zg_54_H10L hd q1 N h hK)
theorem ze_54 {Γ : jb_G} {L : Nat} {d : Nat} (hd : 3 ≤ d) (M : jb_Mi) (N : jb_Ml) {r : (Int32 × jb_Mi)} (h : zf_54 M = some r) : jb_V Γ d zq_54 0 (jb_en 5 [(.ref 70)]) [] (zE L, M, N) (some (.int r.1)) (zE L, r.2, N) := zg_54 hd M N h ⟨rfl, rfl⟩
-- X3_layRows
set_option maxRecDepth 20000 in
theorem zg_56_J70 {Γ : jb_G} {L : Nat} {d : Nat} (x1 : Int32) (x2 : Int32) (x4 : Int32) (x5 : Int32) (x6 : Int32) (s0 : Int32) (s1 : Int32) (M : jb_Mi) (N : jb_Ml) {v : Option Value} {σ2 : jb_S} {r : ((Int32 × Int32 × Int32 × Int32) ⊕ ((Int32 × jb_Mi) ⊕ (jb_Mi)))} (h : zf_56_J70 x1 x2 x4 x5 x6 s0 s1 M = some r) (hK : (jb_K (fun s : Int32 × Int32 × Int32 × Int32 => jb_V Γ d zq_56 25 [some (.ref 73), some (.int x1), some (.int x2), some (.int s.1), some (.int s.2.1), some (.int s.2.2.1), some (.int s.2.2.2)] [] (zE L, M, N) v σ2) (jb_K (fun s : Int32 × jb_Mi => jb_V Γ d zq_56 7 [some (.ref 73), some (.int x1), some (.int s.1), none, none, none, none] [] (zE L, s.2, N) v σ2) (fun r : jb_Mi => v = none ∧ σ2 = (zE L, r, N)))) r) : jb_V Γ d zq_56 70 [some (.ref 73), some (.int x1), some (.int x2), none, some (.int x4), some (.int x5), some (.int x6)] [(.int s1), (.int s0)] (zE L, M, N) v σ2 := by
  unfold zf_56_J70 at h
  refine jb_seg 4 (pc' := 25) (ls' := [some (.ref 73), some (.int x1), some (.int x2), some (.int (s0 ||| s1)), some (.int x4), some (.int x5), some (.int (x6 + 1))]) (st' := []) (σ' := (zE L, M, N)) (G := []) rfl trivial ?_
  obtain rfl := Option.some.inj h
  exact jb_mask [true, true, true, true, true, true, true] rfl hK
set_option maxRecDepth 20000 in
theorem zg_56_J118 {Γ : jb_G} {L : Nat} {d : Nat} (x1 : Int32) (x2 : Int32) (M : jb_Mi) (N : jb_Ml) {v : Option Value} {σ2 : jb_S} {r : ((Int32 × jb_Mi) ⊕ (jb_Mi))} (h : zf_56_J118 x1 x2 M = some r) (hK : (jb_K (fun s : Int32 × jb_Mi => jb_V Γ d zq_56 7 [some (.ref 73), some (.int x1), some (.int s.1), none, none, none, none] [] (zE L, s.2, N) v σ2) (fun r : jb_Mi => v = none ∧ σ2 = (zE L, r, N))) r) : jb_V Γ d zq_56 118 [some (.ref 73), some (.int x1), some (.int x2), none, none, none, none] [] (zE L, M, N) v σ2 := by
  unfold zf_56_J118 at h
  refine jb_seg 2 (pc' := 7) (ls' := [some (.ref 73), some (.int x1), some (.int (x2 + 1)), none, none, none, none]) (st' := []) (σ' := (zE L, M, N)) (G := []) rfl trivial ?_
  obtain rfl := Option.some.inj h
  exact jb_mask [true, true, true, false, false, false, false] rfl hK
set_option maxRecDepth 20000 in
theorem zg_56_J78 {Γ : jb_G} {L : Nat} {d : Nat} (x1 : Int32) (x2 : Int32) (x3 : Int32) (x4 : Int32) (x5 : Int32) (M : jb_Mi) (N : jb_Ml) {v : Option Value} {σ2 : jb_S} {r : ((Int32 × jb_Mi) ⊕ (jb_Mi))} (h : zf_56_J78 x1 x2 x3 x4 x5 M = some r) (hK : (jb_K (fun s : Int32 × jb_Mi => jb_V Γ d zq_56 7 [some (.ref 73), some (.int x1), some (.int s.1), none, none, none, none] [] (zE L, s.2, N) v σ2) (fun r : jb_Mi => v = none ∧ σ2 = (zE L, r, N))) r) : jb_V Γ d zq_56 78 [some (.ref 73), some (.int x1), some (.int x2), some (.int x3), some (.int x4), some (.int x5), none] [] (zE L, M, N) v σ2 := by
  unfold zf_56_J78 at h
  refine jb_seg 3 (pc' := (if x4 = x1 then 84 else 118)) (ls' := [some (.ref 73), some (.int x1), some (.int x2), some (.int x3), some (.int x4), some (.int x5), none]) (st' := []) (σ' := (zE L, M, N)) (G := []) rfl trivial ?_
  refine jb_ite (fun c => ?_) (fun c => ?_)
  · replace h := (if_pos c).symm.trans h
    refine jb_seg 2 (pc' := (if x5 = 0 then 89 else 118)) (ls' := [some (.ref 73), some (.int x1), some (.int x2), some (.int x3), some (.int x4), some (.int x5), none]) (st' := []) (σ' := (zE L, M, N)) (G := []) rfl trivial ?_
    refine jb_ite (fun c => ?_) (fun c => ?_)
    · replace h := (if_pos c).symm.trans h
      refine jb_seg 4 (pc' := (if (M 73 1) < 40 then 98 else 118)) (ls' := [some (.ref 73), some (.int x1), some (.int x2), some (.int x3), some (.int x4), some (.int x5), none]) (st' := []) (σ' := (zE L, M, N)) (G := []) rfl trivial ?_
      refine jb_ite (fun c => ?_) (fun c => ?_)
      · replace h := (if_pos c).symm.trans h
        obtain ⟨g1, h⟩ := jb_gd_of h
        refine jb_seg 12 (pc' := 118) (ls' := [some (.ref 73), some (.int x1), some (.int x2), some (.int x3), some (.int x4), some (.int x5), none]) (st' := []) (σ' := (zE L, (jb_up (jb_up M 74 ((M 73 1)).toNatClampNeg x3) 73 1 (((jb_up M 74 ((M 73 1)).toNatClampNeg x3) 73 1) + 1)), N)) (G := [vp_in (M 73 1) 40]) rfl g1 ?_
        exact jb_mask [true, true, true, false, false, false, false] rfl (zg_56_J118 x1 x2 (jb_up (jb_up M 74 ((M 73 1)).toNatClampNeg x3) 73 1 (((jb_up M 74 ((M 73 1)).toNatClampNeg x3) 73 1) + 1)) N h hK)
      · replace h := (if_neg c).symm.trans h
        exact jb_mask [true, true, true, false, false, false, false] rfl (zg_56_J118 x1 x2 M N h hK)
    · replace h := (if_neg c).symm.trans h
      exact jb_mask [true, true, true, false, false, false, false] rfl (zg_56_J118 x1 x2 M N h hK)
  · replace h := (if_neg c).symm.trans h
    exact jb_mask [true, true, true, false, false, false, false] rfl (zg_56_J118 x1 x2 M N h hK)
set_option maxRecDepth 20000 in
theorem zg_56_H25 {Γ : jb_G} {L : Nat} {d : Nat} (x1 : Int32) (x2 : Int32) (M : jb_Mi) (N : jb_Ml) (s : Int32 × Int32 × Int32 × Int32) {v : Option Value} {σ2 : jb_S} {r : ((Int32 × Int32 × Int32 × Int32) ⊕ ((Int32 × jb_Mi) ⊕ (jb_Mi)))} (h : zf_56_H25 x1 x2 M s = some r) (hK : (jb_K (fun s : Int32 × Int32 × Int32 × Int32 => jb_V Γ d zq_56 25 [some (.ref 73), some (.int x1), some (.int x2), some (.int s.1), some (.int s.2.1), some (.int s.2.2.1), some (.int s.2.2.2)] [] (zE L, M, N) v σ2) (jb_K (fun s : Int32 × jb_Mi => jb_V Γ d zq_56 7 [some (.ref 73), some (.int x1), some (.int s.1), none, none, none, none] [] (zE L, s.2, N) v σ2) (fun r : jb_Mi => v = none ∧ σ2 = (zE L, r, N)))) r) : jb_V Γ d zq_56 25 [some (.ref 73), some (.int x1), some (.int x2), some (.int s.1), some (.int s.2.1), some (.int s.2.2.1), some (.int s.2.2.2)] [] (zE L, M, N) v σ2 := by
  unfold zf_56_H25 at h
  refine jb_seg 3 (pc' := (if s.2.2.2 < 8 then 32 else 78)) (ls' := [some (.ref 73), some (.int x1), some (.int x2), some (.int s.1), some (.int s.2.1), some (.int s.2.2.1), some (.int s.2.2.2)]) (st' := []) (σ' := (zE L, M, N)) (G := []) rfl trivial ?_
  refine jb_ite (fun c => ?_) (fun c => ?_)
  · replace h := (if_pos c).symm.trans h
    refine jb_seg 3 (pc' := (if s.2.1 < x1 then 38 else 78)) (ls' := [some (.ref 73), some (.int x1), some (.int x2), some (.int s.1), some (.int s.2.1), some (.int s.2.2.1), some (.int s.2.2.2)]) (st' := []) (σ' := (zE L, M, N)) (G := []) rfl trivial ?_
    refine jb_ite (fun c => ?_) (fun c => ?_)
    · replace h := (if_pos c).symm.trans h
      refine jb_seg 16 (pc' := (if (s.2.1 + (2 + (s.2.2.1 &&& 1))) < x1 then 62 else 69)) (ls' := [some (.ref 73), some (.int x1), some (.int x2), some (.int s.1), some (.int (s.2.1 + (2 + (s.2.2.1 &&& 1)))), some (.int (s.2.2.1 >>> ((1 : Int32) &&& 31))), some (.int s.2.2.2)]) (st' := [(.int s.1)]) (σ' := (zE L, M, N)) (G := []) rfl trivial ?_
      refine jb_ite (fun c => ?_) (fun c => ?_)
      · replace h := (if_pos c).symm.trans h
        refine jb_seg 4 (pc' := 70) (ls' := [some (.ref 73), some (.int x1), some (.int x2), some (.int s.1), some (.int (s.2.1 + (2 + (s.2.2.1 &&& 1)))), some (.int (s.2.2.1 >>> ((1 : Int32) &&& 31))), some (.int s.2.2.2)]) (st' := [(.int ((1 : Int32) <<< ((s.2.1 + (2 + (s.2.2.1 &&& 1))) &&& 31))), (.int s.1)]) (σ' := (zE L, M, N)) (G := []) rfl trivial ?_
        exact jb_mask [true, true, true, false, true, true, true] rfl (zg_56_J70 x1 x2 (s.2.1 + (2 + (s.2.2.1 &&& 1))) (s.2.2.1 >>> ((1 : Int32) &&& 31)) s.2.2.2 s.1 ((1 : Int32) <<< ((s.2.1 + (2 + (s.2.2.1 &&& 1))) &&& 31)) M N h hK)
      · replace h := (if_neg c).symm.trans h
        refine jb_seg 1 (pc' := 70) (ls' := [some (.ref 73), some (.int x1), some (.int x2), some (.int s.1), some (.int (s.2.1 + (2 + (s.2.2.1 &&& 1)))), some (.int (s.2.2.1 >>> ((1 : Int32) &&& 31))), some (.int s.2.2.2)]) (st' := [(.int 0), (.int s.1)]) (σ' := (zE L, M, N)) (G := []) rfl trivial ?_
        exact jb_mask [true, true, true, false, true, true, true] rfl (zg_56_J70 x1 x2 (s.2.1 + (2 + (s.2.2.1 &&& 1))) (s.2.2.1 >>> ((1 : Int32) &&& 31)) s.2.2.2 s.1 0 M N h hK)
    · replace h := (if_neg c).symm.trans h
      obtain ⟨y0, hy0, rfl⟩ := jb_mp_of h
      exact jb_mask [true, true, true, true, true, true, false] rfl (zg_56_J78 x1 x2 s.1 s.2.1 s.2.2.1 M N hy0 hK)
  · replace h := (if_neg c).symm.trans h
    obtain ⟨y0, hy0, rfl⟩ := jb_mp_of h
    exact jb_mask [true, true, true, true, true, true, false] rfl (zg_56_J78 x1 x2 s.1 s.2.1 s.2.2.1 M N hy0 hK)
theorem zg_56_H25L {Γ : jb_G} {L : Nat} {d : Nat} (x1 : Int32) (x2 : Int32) (M : jb_Mi) (N : jb_Ml) {v : Option Value} {σ2 : jb_S} {s : Int32 × Int32 × Int32 × Int32} {r : ((Int32 × jb_Mi) ⊕ (jb_Mi))} (h : jb_lp (zf_56_H25 x1 x2 M) s = some r) (hK : (jb_K (fun s : Int32 × jb_Mi => jb_V Γ d zq_56 7 [some (.ref 73), some (.int x1), some (.int s.1), none, none, none, none] [] (zE L, s.2, N) v σ2) (fun r : jb_Mi => v = none ∧ σ2 = (zE L, r, N))) r) : jb_V Γ d zq_56 25 [some (.ref 73), some (.int x1), some (.int x2), some (.int s.1), some (.int s.2.1), some (.int s.2.2.1), some (.int s.2.2.2)] [] (zE L, M, N) v σ2 := by
  exact @jb_lp_ind (Int32 × Int32 × Int32 × Int32) (((Int32 × jb_Mi) ⊕ (jb_Mi))) (zf_56_H25 x1 x2 M) (fun s => jb_V Γ d zq_56 25 [some (.ref 73), some (.int x1), some (.int x2), some (.int s.1), some (.int s.2.1), some (.int s.2.2.1), some (.int s.2.2.2)] [] (zE L, M, N) v σ2) (jb_K (fun s : Int32 × jb_Mi => jb_V Γ d zq_56 7 [some (.ref 73), some (.int x1), some (.int s.1), none, none, none, none] [] (zE L, s.2, N) v σ2) (fun r : jb_Mi => v = none ∧ σ2 = (zE L, r, N))) (fun s r h hk => zg_56_H25 x1 x2 M N s h hk) s r h hK
set_option maxRecDepth 20000 in
theorem zg_56_H7 {Γ : jb_G} {L : Nat} {d : Nat} (x1 : Int32) (N : jb_Ml) (s : Int32 × jb_Mi) {v : Option Value} {σ2 : jb_S} {r : ((Int32 × jb_Mi) ⊕ (jb_Mi))} (h : zf_56_H7 x1 s = some r) (hK : (jb_K (fun s : Int32 × jb_Mi => jb_V Γ d zq_56 7 [some (.ref 73), some (.int x1), some (.int s.1), none, none, none, none] [] (zE L, s.2, N) v σ2) (fun r : jb_Mi => v = none ∧ σ2 = (zE L, r, N))) r) : jb_V Γ d zq_56 7 [some (.ref 73), some (.int x1), some (.int s.1), none, none, none, none] [] (zE L, s.2, N) v σ2 := by
  unfold zf_56_H7 at h
  refine jb_seg 3 (pc' := (if s.1 < 256 then 14 else 124)) (ls' := [some (.ref 73), some (.int x1), some (.int s.1), none, none, none, none]) (st' := []) (σ' := (zE L, s.2, N)) (G := []) rfl trivial ?_
  refine jb_ite (fun c => ?_) (fun c => ?_)
  · replace h := (if_pos c).symm.trans h
    refine jb_seg 8 (pc' := 25) (ls' := [some (.ref 73), some (.int x1), some (.int s.1), some (.int 0), some (.int 0), some (.int s.1), some (.int 0)]) (st' := []) (σ' := (zE L, s.2, N)) (G := []) rfl trivial ?_
    exact jb_mask [true, true, true, true, true, true, true] rfl (zg_56_H25L x1 s.1 s.2 N h hK)
  · replace h := (if_neg c).symm.trans h
    obtain rfl := Option.some.inj h
    obtain ⟨rfl, rfl⟩ := hK
    exact jb_retv rfl rfl
theorem zg_56_H7L {Γ : jb_G} {L : Nat} {d : Nat} (x1 : Int32) (N : jb_Ml) {v : Option Value} {σ2 : jb_S} {s : Int32 × jb_Mi} {r : (jb_Mi)} (h : jb_lp (zf_56_H7 x1) s = some r) (hK : (fun r : jb_Mi => v = none ∧ σ2 = (zE L, r, N)) r) : jb_V Γ d zq_56 7 [some (.ref 73), some (.int x1), some (.int s.1), none, none, none, none] [] (zE L, s.2, N) v σ2 := by
  exact @jb_lp_ind (Int32 × jb_Mi) ((jb_Mi)) (zf_56_H7 x1) (fun s => jb_V Γ d zq_56 7 [some (.ref 73), some (.int x1), some (.int s.1), none, none, none, none] [] (zE L, s.2, N) v σ2) (fun r : jb_Mi => v = none ∧ σ2 = (zE L, r, N)) (fun s r h hk => zg_56_H7 x1 N s h hk) s r h hK
set_option maxRecDepth 20000 in
theorem zg_56 {Γ : jb_G} {L : Nat} {d : Nat} (x1 : Int32) (M : jb_Mi) (N : jb_Ml) {v : Option Value} {σ2 : jb_S} {r : (jb_Mi)} (h : zf_56 x1 M = some r) (hK : (fun r : jb_Mi => v = none ∧ σ2 = (zE L, r, N)) r) : jb_V Γ d zq_56 0 [some (.ref 73), some (.int x1), none, none, none, none, none] [] (zE L, M, N) v σ2 := by
  unfold zf_56 at h
  refine jb_seg 5 (pc' := 7) (ls' := [some (.ref 73), some (.int x1), some (.int 0), none, none, none, none]) (st' := []) (σ' := (zE L, (jb_up M 73 1 0), N)) (G := []) rfl trivial ?_
  exact jb_mask [true, true, true, false, false, false, false] rfl (zg_56_H7L x1 N h hK)
theorem ze_56 {Γ : jb_G} {L : Nat} {d : Nat} (x1 : Int32) (M : jb_Mi) (N : jb_Ml) {r : (jb_Mi)} (h : zf_56 x1 M = some r) : jb_V Γ d zq_56 0 (jb_en 7 [(.ref 73), (.int x1)]) [] (zE L, M, N) (none) (zE L, r, N) := zg_56 x1 M N h ⟨rfl, rfl⟩
-- X3_buildLevel
set_option maxRecDepth 20000 in
theorem zg_57_J53 {Γ : jb_G} {L : Nat} {d : Nat} (hd : 1 ≤ d) (x1 : Int32) (x4 : Int32) (s0 : Int64) (s1 : Int64) (M : jb_Mi) (N : jb_Ml) {v : Option Value} {σ2 : jb_S} {r : ((Int64 × Int32) ⊕ ((Int32 × jb_Ml) ⊕ (jb_Ml)))} (h : zf_57_J53 x1 x4 s0 s1 M N = some r) (hK : (jb_K (fun s : Int64 × Int32 => jb_V Γ d zq_57 15 [some (.ref 73), some (.int x1), some (.long s.1), none, some (.int s.2)] [] (zE L, M, N) v σ2) (jb_K (fun s : Int32 × jb_Ml => jb_V Γ d zq_57 2 [some (.ref 73), some (.int s.1), none, none, none] [] (zE L, M, s.2) v σ2) (fun r : jb_Ml => v = none ∧ σ2 = (zE L, M, r)))) r) : jb_V Γ d zq_57 53 [some (.ref 73), some (.int x1), none, none, some (.int x4)] [(.long s1), (.long s0)] (zE L, M, N) v σ2 := by
  obtain ⟨d, rfl⟩ : ∃ e, d = e + 1 := ⟨d - 1, by omega⟩
  unfold zf_57_J53 at h
  refine jb_seg 4 (pc' := 15) (ls' := [some (.ref 73), some (.int x1), some (.long (s0 + s1)), none, some (.int (x4 + 1))]) (st' := []) (σ' := (zE L, M, N)) (G := []) rfl trivial ?_
  obtain rfl := Option.some.inj h
  exact jb_mask [true, true, true, false, true] rfl hK
set_option maxRecDepth 20000 in
theorem zg_57_H15 {Γ : jb_G} {L : Nat} {d : Nat} (hd : 1 ≤ d) (x1 : Int32) (M : jb_Mi) (N : jb_Ml) (s : Int64 × Int32) {v : Option Value} {σ2 : jb_S} {r : ((Int64 × Int32) ⊕ ((Int32 × jb_Ml) ⊕ (jb_Ml)))} (h : zf_57_H15 x1 M N s = some r) (hK : (jb_K (fun s : Int64 × Int32 => jb_V Γ d zq_57 15 [some (.ref 73), some (.int x1), some (.long s.1), none, some (.int s.2)] [] (zE L, M, N) v σ2) (jb_K (fun s : Int32 × jb_Ml => jb_V Γ d zq_57 2 [some (.ref 73), some (.int s.1), none, none, none] [] (zE L, M, s.2) v σ2) (fun r : jb_Ml => v = none ∧ σ2 = (zE L, M, r)))) r) : jb_V Γ d zq_57 15 [some (.ref 73), some (.int x1), some (.long s.1), none, some (.int s.2)] [] (zE L, M, N) v σ2 := by
  obtain ⟨d, rfl⟩ : ∃ e, d = e + 1 := ⟨d - 1, by omega⟩
  unfold zf_57_H15 at h
  refine jb_seg 4 (pc' := (if s.2 < (M 73 1) then 24 else 61)) (ls' := [some (.ref 73), some (.int x1), some (.long s.1), none, some (.int s.2)]) (st' := []) (σ' := (zE L, M, N)) (G := []) rfl trivial ?_
  refine jb_ite (fun c => ?_) (fun c => ?_)
  · replace h := (if_pos c).symm.trans h
    obtain ⟨g1, h⟩ := jb_gd_of h
    obtain ⟨g2, h⟩ := jb_gd_of h
    refine jb_seg 11 (pc' := (if ((M 74 x1.toNatClampNeg) &&& (M 74 (s.2).toNatClampNeg)) = 0 then 42 else 52)) (ls' := [some (.ref 73), some (.int x1), some (.long s.1), none, some (.int s.2)]) (st' := [(.long s.1)]) (σ' := (zE L, M, N)) (G := [vp_in x1 40, vp_in s.2 40]) rfl ⟨g1, g2⟩ ?_
    refine jb_ite (fun c => ?_) (fun c => ?_)
    · replace h := (if_pos c).symm.trans h
      obtain ⟨g3, h⟩ := jb_gd_of h
      refine jb_seg 5 (pc' := 53) (ls' := [some (.ref 73), some (.int x1), some (.long s.1), none, some (.int s.2)]) (st' := [(.long (N 75 (s.2).toNatClampNeg)), (.long s.1)]) (σ' := (zE L, M, N)) (G := [vp_in s.2 40]) rfl g3 ?_
      exact jb_mask [true, true, false, false, true] rfl (zg_57_J53 hd x1 s.2 s.1 (N 75 (s.2).toNatClampNeg) M N h hK)
    · replace h := (if_neg c).symm.trans h
      refine jb_seg 1 (pc' := 53) (ls' := [some (.ref 73), some (.int x1), some (.long s.1), none, some (.int s.2)]) (st' := [(.long 0), (.long s.1)]) (σ' := (zE L, M, N)) (G := []) rfl trivial ?_
      exact jb_mask [true, true, false, false, true] rfl (zg_57_J53 hd x1 s.2 s.1 0 M N h hK)
  · replace h := (if_neg c).symm.trans h
    obtain ⟨g4, h⟩ := jb_gd_of h
    refine jb_seg 7 (pc' := 2) (ls' := [some (.ref 73), some (.int (x1 + 1)), some (.long s.1), none, some (.int s.2)]) (st' := []) (σ' := (zE L, M, (jb_ul N 76 x1.toNatClampNeg s.1))) (G := [vp_in x1 40]) rfl g4 ?_
    obtain rfl := Option.some.inj h
    exact jb_mask [true, true, false, false, false] rfl hK
theorem zg_57_H15L {Γ : jb_G} {L : Nat} {d : Nat} (hd : 1 ≤ d) (x1 : Int32) (M : jb_Mi) (N : jb_Ml) {v : Option Value} {σ2 : jb_S} {s : Int64 × Int32} {r : ((Int32 × jb_Ml) ⊕ (jb_Ml))} (h : jb_lp (zf_57_H15 x1 M N) s = some r) (hK : (jb_K (fun s : Int32 × jb_Ml => jb_V Γ d zq_57 2 [some (.ref 73), some (.int s.1), none, none, none] [] (zE L, M, s.2) v σ2) (fun r : jb_Ml => v = none ∧ σ2 = (zE L, M, r))) r) : jb_V Γ d zq_57 15 [some (.ref 73), some (.int x1), some (.long s.1), none, some (.int s.2)] [] (zE L, M, N) v σ2 := by
  exact @jb_lp_ind (Int64 × Int32) (((Int32 × jb_Ml) ⊕ (jb_Ml))) (zf_57_H15 x1 M N) (fun s => jb_V Γ d zq_57 15 [some (.ref 73), some (.int x1), some (.long s.1), none, some (.int s.2)] [] (zE L, M, N) v σ2) (jb_K (fun s : Int32 × jb_Ml => jb_V Γ d zq_57 2 [some (.ref 73), some (.int s.1), none, none, none] [] (zE L, M, s.2) v σ2) (fun r : jb_Ml => v = none ∧ σ2 = (zE L, M, r))) (fun s r h hk => zg_57_H15 hd x1 M N s h hk) s r h hK
set_option maxRecDepth 20000 in
theorem zg_57_H2 {Γ : jb_G} {L : Nat} {d : Nat} (hd : 1 ≤ d) (M : jb_Mi) (s : Int32 × jb_Ml) {v : Option Value} {σ2 : jb_S} {r : ((Int32 × jb_Ml) ⊕ (jb_Ml))} (h : zf_57_H2 M s = some r) (hK : (jb_K (fun s : Int32 × jb_Ml => jb_V Γ d zq_57 2 [some (.ref 73), some (.int s.1), none, none, none] [] (zE L, M, s.2) v σ2) (fun r : jb_Ml => v = none ∧ σ2 = (zE L, M, r))) r) : jb_V Γ d zq_57 2 [some (.ref 73), some (.int s.1), none, none, none] [] (zE L, M, s.2) v σ2 := by
  obtain ⟨d, rfl⟩ : ∃ e, d = e + 1 := ⟨d - 1, by omega⟩
  unfold zf_57_H2 at h
  refine jb_seg 4 (pc' := (if s.1 < (M 73 1) then 10 else 74)) (ls' := [some (.ref 73), some (.int s.1), none, none, none]) (st' := []) (σ' := (zE L, M, s.2)) (G := []) rfl trivial ?_
  refine jb_ite (fun c => ?_) (fun c => ?_)
  · replace h := (if_pos c).symm.trans h
    refine jb_seg 4 (pc' := 15) (ls' := [some (.ref 73), some (.int s.1), some (.long 0), none, some (.int 0)]) (st' := []) (σ' := (zE L, M, s.2)) (G := []) rfl trivial ?_
    exact jb_mask [true, true, true, false, true] rfl (zg_57_H15L hd s.1 M s.2 h hK)
  · replace h := (if_neg c).symm.trans h
    refine jb_seg 8 (pc' := 88) (ls' := [some (.ref 73), some (.int s.1), none, none, none]) (st' := [(.int (M 73 1)), (.int 0), (.ref 75), (.int 0), (.ref 76)]) (σ' := (zE L, M, s.2)) (G := []) rfl trivial ?_
    obtain ⟨g5, h⟩ := jb_gc_of h
    refine jb_copyl (rest := []) rfl rfl rfl g5 (Nat.le_of_ble_eq_true rfl) ?_
    obtain rfl := Option.some.inj h
    obtain ⟨rfl, rfl⟩ := hK
    exact jb_retv rfl rfl
theorem zg_57_H2L {Γ : jb_G} {L : Nat} {d : Nat} (hd : 1 ≤ d) (M : jb_Mi) {v : Option Value} {σ2 : jb_S} {s : Int32 × jb_Ml} {r : (jb_Ml)} (h : jb_lp (zf_57_H2 M) s = some r) (hK : (fun r : jb_Ml => v = none ∧ σ2 = (zE L, M, r)) r) : jb_V Γ d zq_57 2 [some (.ref 73), some (.int s.1), none, none, none] [] (zE L, M, s.2) v σ2 := by
  exact @jb_lp_ind (Int32 × jb_Ml) ((jb_Ml)) (zf_57_H2 M) (fun s => jb_V Γ d zq_57 2 [some (.ref 73), some (.int s.1), none, none, none] [] (zE L, M, s.2) v σ2) (fun r : jb_Ml => v = none ∧ σ2 = (zE L, M, r)) (fun s r h hk => zg_57_H2 hd M s h hk) s r h hK
set_option maxRecDepth 20000 in
theorem zg_57 {Γ : jb_G} {L : Nat} {d : Nat} (hd : 1 ≤ d) (M : jb_Mi) (N : jb_Ml) {v : Option Value} {σ2 : jb_S} {r : (jb_Ml)} (h : zf_57 M N = some r) (hK : (fun r : jb_Ml => v = none ∧ σ2 = (zE L, M, r)) r) : jb_V Γ d zq_57 0 [some (.ref 73), none, none, none, none] [] (zE L, M, N) v σ2 := by
  obtain ⟨d, rfl⟩ : ∃ e, d = e + 1 := ⟨d - 1, by omega⟩
  unfold zf_57 at h
  refine jb_seg 2 (pc' := 2) (ls' := [some (.ref 73), some (.int 0), none, none, none]) (st' := []) (σ' := (zE L, M, N)) (G := []) rfl trivial ?_
  exact jb_mask [true, true, false, false, false] rfl (zg_57_H2L hd M h hK)
theorem ze_57 {Γ : jb_G} {L : Nat} {d : Nat} (hd : 1 ≤ d) (M : jb_Mi) (N : jb_Ml) {r : (jb_Ml)} (h : zf_57 M N = some r) : jb_V Γ d zq_57 0 (jb_en 5 [(.ref 73)]) [] (zE L, M, N) (none) (zE L, M, r) := zg_57 hd M N h ⟨rfl, rfl⟩
-- X3_walls
set_option maxRecDepth 20000 in
theorem zg_58_H50 {Γ : jb_G} {L : Nat} {d : Nat} (hd : 2 ≤ d) (M : jb_Mi) (N : jb_Ml) (s : Int64 × Int32) {v : Option Value} {σ2 : jb_S} {r : ((Int64 × Int32) ⊕ (Int64 × jb_Mi × jb_Ml))} (h : zf_58_H50 M N s = some r) (hK : (jb_K (fun s : Int64 × Int32 => jb_V Γ d zq_58 50 [some (.ref 73), none, none, some (.long s.1), none, some (.int s.2)] [] (zE L, M, N) v σ2) (fun r : Int64 × jb_Mi × jb_Ml => v = some (.long r.1) ∧ σ2 = (zE L, r.2.1, r.2.2))) r) : jb_V Γ d zq_58 50 [some (.ref 73), none, none, some (.long s.1), none, some (.int s.2)] [] (zE L, M, N) v σ2 := by
  obtain ⟨d, rfl⟩ : ∃ e, d = e + 1 := ⟨d - 1, by omega⟩
  unfold zf_58_H50 at h
  refine jb_seg 4 (pc' := (if s.2 < (M 73 1) then 59 else 75)) (ls' := [some (.ref 73), none, none, some (.long s.1), none, some (.int s.2)]) (st' := []) (σ' := (zE L, M, N)) (G := []) rfl trivial ?_
  refine jb_ite (fun c => ?_) (fun c => ?_)
  · replace h := (if_pos c).symm.trans h
    obtain ⟨g4, h⟩ := jb_gd_of h
    refine jb_seg 9 (pc' := 50) (ls' := [some (.ref 73), none, none, some (.long (s.1 + (N 75 (s.2).toNatClampNeg))), none, some (.int (s.2 + 1))]) (st' := []) (σ' := (zE L, M, N)) (G := [vp_in s.2 40]) rfl g4 ?_
    obtain rfl := Option.some.inj h
    exact jb_mask [true, false, false, true, false, true] rfl hK
  · replace h := (if_neg c).symm.trans h
    refine jb_seg 1 (pc' := 76) (ls' := [some (.ref 73), none, none, some (.long s.1), none, some (.int s.2)]) (st' := [(.long s.1)]) (σ' := (zE L, M, N)) (G := []) rfl trivial ?_
    obtain rfl := Option.some.inj h
    obtain ⟨rfl, rfl⟩ := hK
    exact jb_retl rfl rfl
theorem zg_58_H50L {Γ : jb_G} {L : Nat} {d : Nat} (hd : 2 ≤ d) (M : jb_Mi) (N : jb_Ml) {v : Option Value} {σ2 : jb_S} {s : Int64 × Int32} {r : (Int64 × jb_Mi × jb_Ml)} (h : jb_lp (zf_58_H50 M N) s = some r) (hK : (fun r : Int64 × jb_Mi × jb_Ml => v = some (.long r.1) ∧ σ2 = (zE L, r.2.1, r.2.2)) r) : jb_V Γ d zq_58 50 [some (.ref 73), none, none, some (.long s.1), none, some (.int s.2)] [] (zE L, M, N) v σ2 := by
  exact @jb_lp_ind (Int64 × Int32) ((Int64 × jb_Mi × jb_Ml)) (zf_58_H50 M N) (fun s => jb_V Γ d zq_58 50 [some (.ref 73), none, none, some (.long s.1), none, some (.int s.2)] [] (zE L, M, N) v σ2) (fun r : Int64 × jb_Mi × jb_Ml => v = some (.long r.1) ∧ σ2 = (zE L, r.2.1, r.2.2)) (fun s r h hk => zg_58_H50 hd M N s h hk) s r h hK
set_option maxRecDepth 20000 in
theorem zg_58_H30 {Γ : jb_G} {L : Nat} {d : Nat} (hd : 2 ≤ d) (x2 : Int32) (M : jb_Mi) (s : Int32 × jb_Ml) {v : Option Value} {σ2 : jb_S} {r : ((Int32 × jb_Ml) ⊕ (Int64 × jb_Mi × jb_Ml))} (h : zf_58_H30 x2 M s = some r) (hK : (jb_K (fun s : Int32 × jb_Ml => jb_V Γ d zq_58 30 [some (.ref 73), none, some (.int x2), some (.int s.1), none, none] [] (zE L, M, s.2) v σ2) (fun r : Int64 × jb_Mi × jb_Ml => v = some (.long r.1) ∧ σ2 = (zE L, r.2.1, r.2.2))) r) : jb_V Γ d zq_58 30 [some (.ref 73), none, some (.int x2), some (.int s.1), none, none] [] (zE L, M, s.2) v σ2 := by
  obtain ⟨d, rfl⟩ : ∃ e, d = e + 1 := ⟨d - 1, by omega⟩
  unfold zf_58_H30 at h
  refine jb_seg 3 (pc' := (if s.1 < x2 then 35 else 45)) (ls' := [some (.ref 73), none, some (.int x2), some (.int s.1), none, none]) (st' := []) (σ' := (zE L, M, s.2)) (G := []) rfl trivial ?_
  refine jb_ite (fun c => ?_) (fun c => ?_)
  · replace h := (if_pos c).symm.trans h
    refine jb_seg 1 (pc' := 36) (ls' := [some (.ref 73), none, some (.int x2), some (.int s.1), none, none]) (st' := [(.ref 73)]) (σ' := (zE L, M, s.2)) (G := []) rfl trivial ?_
    obtain ⟨q3, h3, h⟩ := jb_bd_of h
    refine jb_callV (q' := zq_57) (As := []) (rest := []) (σ1 := (zE L, M, q3)) (v := none) rfl rfl zp_57 rfl (Nat.le_of_ble_eq_true rfl) (jb_cat rfl) (Nat.le_of_ble_eq_true rfl) (Nat.le_of_ble_eq_true rfl) (Or.inl rfl) rfl (ze_57 (by omega) M s.2 h3) ?_
    refine jb_seg 2 (pc' := 30) (ls' := [some (.ref 73), none, some (.int x2), some (.int (s.1 + 1)), none, none]) (st' := []) (σ' := (zE L, M, q3)) (G := []) rfl trivial ?_
    obtain rfl := Option.some.inj h
    exact jb_mask [true, false, true, true, false, false] rfl hK
  · replace h := (if_neg c).symm.trans h
    refine jb_seg 4 (pc' := 50) (ls' := [some (.ref 73), none, some (.int x2), some (.long 0), none, some (.int 0)]) (st' := []) (σ' := (zE L, M, s.2)) (G := []) rfl trivial ?_
    obtain ⟨y0, hy0, rfl⟩ := jb_mp_of h
    exact jb_mask [true, false, false, true, false, true] rfl (zg_58_H50L hd M s.2 hy0 hK)
theorem zg_58_H30L {Γ : jb_G} {L : Nat} {d : Nat} (hd : 2 ≤ d) (x2 : Int32) (M : jb_Mi) {v : Option Value} {σ2 : jb_S} {s : Int32 × jb_Ml} {r : (Int64 × jb_Mi × jb_Ml)} (h : jb_lp (zf_58_H30 x2 M) s = some r) (hK : (fun r : Int64 × jb_Mi × jb_Ml => v = some (.long r.1) ∧ σ2 = (zE L, r.2.1, r.2.2)) r) : jb_V Γ d zq_58 30 [some (.ref 73), none, some (.int x2), some (.int s.1), none, none] [] (zE L, M, s.2) v σ2 := by
  exact @jb_lp_ind (Int32 × jb_Ml) ((Int64 × jb_Mi × jb_Ml)) (zf_58_H30 x2 M) (fun s => jb_V Γ d zq_58 30 [some (.ref 73), none, some (.int x2), some (.int s.1), none, none] [] (zE L, M, s.2) v σ2) (fun r : Int64 × jb_Mi × jb_Ml => v = some (.long r.1) ∧ σ2 = (zE L, r.2.1, r.2.2)) (fun s r h hk => zg_58_H30 hd x2 M s h hk) s r h hK
set_option maxRecDepth 20000 in
theorem zg_58_H7 {Γ : jb_G} {L : Nat} {d : Nat} (hd : 2 ≤ d) (x2 : Int32) (M : jb_Mi) (s : Int32 × jb_Ml) {v : Option Value} {σ2 : jb_S} {r : ((Int32 × jb_Ml) ⊕ (Int64 × jb_Mi × jb_Ml))} (h : zf_58_H7 x2 M s = some r) (hK : (jb_K (fun s : Int32 × jb_Ml => jb_V Γ d zq_58 7 [some (.ref 73), none, some (.int x2), some (.int s.1), none, none] [] (zE L, M, s.2) v σ2) (fun r : Int64 × jb_Mi × jb_Ml => v = some (.long r.1) ∧ σ2 = (zE L, r.2.1, r.2.2))) r) : jb_V Γ d zq_58 7 [some (.ref 73), none, some (.int x2), some (.int s.1), none, none] [] (zE L, M, s.2) v σ2 := by
  obtain ⟨d, rfl⟩ : ∃ e, d = e + 1 := ⟨d - 1, by omega⟩
  unfold zf_58_H7 at h
  refine jb_seg 4 (pc' := (if s.1 < (M 73 1) then 15 else 28)) (ls' := [some (.ref 73), none, some (.int x2), some (.int s.1), none, none]) (st' := []) (σ' := (zE L, M, s.2)) (G := []) rfl trivial ?_
  refine jb_ite (fun c => ?_) (fun c => ?_)
  · replace h := (if_pos c).symm.trans h
    obtain ⟨g2, h⟩ := jb_gd_of h
    refine jb_seg 7 (pc' := 7) (ls' := [some (.ref 73), none, some (.int x2), some (.int (s.1 + 1)), none, none]) (st' := []) (σ' := (zE L, M, (jb_ul s.2 75 (s.1).toNatClampNeg 1))) (G := [vp_in s.1 40]) rfl g2 ?_
    obtain rfl := Option.some.inj h
    exact jb_mask [true, false, true, true, false, false] rfl hK
  · replace h := (if_neg c).symm.trans h
    refine jb_seg 2 (pc' := 30) (ls' := [some (.ref 73), none, some (.int x2), some (.int 1), none, none]) (st' := []) (σ' := (zE L, M, s.2)) (G := []) rfl trivial ?_
    obtain ⟨y0, hy0, rfl⟩ := jb_mp_of h
    exact jb_mask [true, false, true, true, false, false] rfl (zg_58_H30L hd x2 M hy0 hK)
theorem zg_58_H7L {Γ : jb_G} {L : Nat} {d : Nat} (hd : 2 ≤ d) (x2 : Int32) (M : jb_Mi) {v : Option Value} {σ2 : jb_S} {s : Int32 × jb_Ml} {r : (Int64 × jb_Mi × jb_Ml)} (h : jb_lp (zf_58_H7 x2 M) s = some r) (hK : (fun r : Int64 × jb_Mi × jb_Ml => v = some (.long r.1) ∧ σ2 = (zE L, r.2.1, r.2.2)) r) : jb_V Γ d zq_58 7 [some (.ref 73), none, some (.int x2), some (.int s.1), none, none] [] (zE L, M, s.2) v σ2 := by
  exact @jb_lp_ind (Int32 × jb_Ml) ((Int64 × jb_Mi × jb_Ml)) (zf_58_H7 x2 M) (fun s => jb_V Γ d zq_58 7 [some (.ref 73), none, some (.int x2), some (.int s.1), none, none] [] (zE L, M, s.2) v σ2) (fun r : Int64 × jb_Mi × jb_Ml => v = some (.long r.1) ∧ σ2 = (zE L, r.2.1, r.2.2)) (fun s r h hk => zg_58_H7 hd x2 M s h hk) s r h hK
set_option maxRecDepth 20000 in
theorem zg_58 {Γ : jb_G} {L : Nat} {d : Nat} (hd : 2 ≤ d) (x1 : Int32) (x2 : Int32) (M : jb_Mi) (N : jb_Ml) {v : Option Value} {σ2 : jb_S} {r : (Int64 × jb_Mi × jb_Ml)} (h : zf_58 x1 x2 M N = some r) (hK : (fun r : Int64 × jb_Mi × jb_Ml => v = some (.long r.1) ∧ σ2 = (zE L, r.2.1, r.2.2)) r) : jb_V Γ d zq_58 0 [some (.ref 73), some (.int x1), some (.int x2), none, none, none] [] (zE L, M, N) v σ2 := by
  obtain ⟨d, rfl⟩ : ∃ e, d = e + 1 := ⟨d - 1, by omega⟩
  unfold zf_58 at h
  refine jb_seg 2 (pc' := 2) (ls' := [some (.ref 73), some (.int x1), some (.int x2), none, none, none]) (st' := [(.int x1), (.ref 73)]) (σ' := (zE L, M, N)) (G := []) rfl trivial ?_
  obtain ⟨q1, h1, h⟩ := jb_bd_of h
  refine jb_callV (q' := zq_56) (As := [(.int x1)]) (rest := []) (σ1 := (zE L, q1, N)) (v := none) rfl rfl zp_56 rfl (Nat.le_of_ble_eq_true rfl) (jb_cat rfl) (Nat.le_of_ble_eq_true rfl) (Nat.le_of_ble_eq_true rfl) (Or.inl rfl) rfl (ze_56 x1 M N h1) ?_
  refine jb_seg 2 (pc' := 7) (ls' := [some (.ref 73), some (.int x1), some (.int x2), some (.int 0), none, none]) (st' := []) (σ' := (zE L, q1, N)) (G := []) rfl trivial ?_
  exact jb_mask [true, false, true, true, false, false] rfl (zg_58_H7L hd x2 q1 h hK)
theorem ze_58 {Γ : jb_G} {L : Nat} {d : Nat} (hd : 2 ≤ d) (x1 : Int32) (x2 : Int32) (M : jb_Mi) (N : jb_Ml) {r : (Int64 × jb_Mi × jb_Ml)} (h : zf_58 x1 x2 M N = some r) : jb_V Γ d zq_58 0 (jb_en 6 [(.ref 73), (.int x1), (.int x2)]) [] (zE L, M, N) (some (.long r.1)) (zE L, r.2.1, r.2.2) := zg_58 hd x1 x2 M N h ⟨rfl, rfl⟩
-- J9_abs_0f7a4
set_option maxRecDepth 20000 in
theorem zg_270 {Γ : jb_G} {L : Nat} {d : Nat} (x0 : Int32) (M : jb_Mi) (N : jb_Ml) {v : Option Value} {σ2 : jb_S} {r : Int32} (h : zf_270 x0 = r) (hK : (fun r : Int32 => v = some (.int r) ∧ σ2 = (zE L, M, N)) r) : jb_V Γ d zq_270 0 [some (.int x0)] [] (zE L, M, N) v σ2 := by
  unfold zf_270 at h
  refine jb_seg 2 (pc' := (if x0 < 0 then 4 else 9)) (ls' := [some (.int x0)]) (st' := []) (σ' := (zE L, M, N)) (G := []) rfl trivial ?_
  refine jb_ite (fun c => ?_) (fun c => ?_)
  · replace h := (if_pos c).symm.trans h
    refine jb_seg 3 (pc' := 10) (ls' := [some (.int x0)]) (st' := [(.int (-x0))]) (σ' := (zE L, M, N)) (G := []) rfl trivial ?_
    subst h
    obtain ⟨rfl, rfl⟩ := hK
    exact jb_reti rfl rfl
  · replace h := (if_neg c).symm.trans h
    refine jb_seg 1 (pc' := 10) (ls' := [some (.int x0)]) (st' := [(.int x0)]) (σ' := (zE L, M, N)) (G := []) rfl trivial ?_
    subst h
    obtain ⟨rfl, rfl⟩ := hK
    exact jb_reti rfl rfl
theorem ze_270 {Γ : jb_G} {L : Nat} {d : Nat} (x0 : Int32) (M : jb_Mi) (N : jb_Ml) {r : Int32} (h : zf_270 x0 = r) : jb_V Γ d zq_270 0 (jb_en 1 [(.int x0)]) [] (zE L, M, N) (some (.int r)) (zE L, M, N) := zg_270 x0 M N h ⟨rfl, rfl⟩
-- X3_handed
set_option maxRecDepth 20000 in
theorem zg_59_J77 {Γ : jb_G} {L : Nat} {d : Nat} (hd : 1 ≤ d) (x2 : Int32) (x3 : Int32) (x5 : Int32) (x6 : Int32) (s0 : Int32) (s1 : Int32) (s2 : Int32) (M : jb_Mi) (N : jb_Ml) {v : Option Value} {σ2 : jb_S} {r : ((Int32 × Int32 × Int32) ⊕ (Int32))} (h : zf_59_J77 x2 x3 x5 x6 s0 s1 s2 M = some r) (hK : (jb_K (fun s : Int32 × Int32 × Int32 => jb_V Γ d zq_59 46 [none, some (.ref 2), some (.int x2), some (.int x3), some (.int s.1), some (.int s.2.1), some (.int s.2.2)] [] (zE L, M, N) v σ2) (fun r : Int32 => v = some (.int r) ∧ σ2 = (zE L, M, N))) r) : jb_V Γ d zq_59 77 [none, some (.ref 2), some (.int x2), some (.int x3), none, some (.int x5), some (.int x6)] [(.int s2), (.int s1), (.int s0)] (zE L, M, N) v σ2 := by
  obtain ⟨d, rfl⟩ : ∃ e, d = e + 1 := ⟨d - 1, by omega⟩
  unfold zf_59_J77 at h
  refine jb_seg 5 (pc' := 85) (ls' := [none, some (.ref 2), some (.int x2), some (.int x3), some (.int (s0 + (s1 - s2))), some (.int x5), some (.int x6)]) (st' := [(.int (s0 + (s1 - s2))), (.int x5)]) (σ' := (zE L, M, N)) (G := []) rfl trivial ?_
  refine jb_callS (q' := zq_270) (As := [(.int (s0 + (s1 - s2)))]) (rest := [(.int x5)]) (σ1 := (zE L, M, N)) (v := some (.int (zf_270 (s0 + (s1 - s2))))) rfl (Nat.le_of_ble_eq_true rfl) rfl zp_270 (jb_cat rfl) (Nat.le_of_ble_eq_true rfl) (Nat.le_of_ble_eq_true rfl) (Or.inl rfl) rfl (ze_270 (s0 + (s1 - s2)) M N rfl) ?_
  refine jb_seg 4 (pc' := 46) (ls' := [none, some (.ref 2), some (.int x2), some (.int x3), some (.int (s0 + (s1 - s2))), some (.int (x5 + (zf_270 (s0 + (s1 - s2))))), some (.int (x6 + 1))]) (st' := []) (σ' := (zE L, M, N)) (G := []) rfl trivial ?_
  obtain rfl := Option.some.inj h
  exact jb_mask [false, true, true, true, true, true, true] rfl hK
set_option maxRecDepth 20000 in
theorem zg_59_H46 {Γ : jb_G} {L : Nat} {d : Nat} (hd : 1 ≤ d) (x2 : Int32) (x3 : Int32) (M : jb_Mi) (N : jb_Ml) (s : Int32 × Int32 × Int32) {v : Option Value} {σ2 : jb_S} {r : ((Int32 × Int32 × Int32) ⊕ (Int32))} (h : zf_59_H46 x2 x3 M s = some r) (hK : (jb_K (fun s : Int32 × Int32 × Int32 => jb_V Γ d zq_59 46 [none, some (.ref 2), some (.int x2), some (.int x3), some (.int s.1), some (.int s.2.1), some (.int s.2.2)] [] (zE L, M, N) v σ2) (fun r : Int32 => v = some (.int r) ∧ σ2 = (zE L, M, N))) r) : jb_V Γ d zq_59 46 [none, some (.ref 2), some (.int x2), some (.int x3), some (.int s.1), some (.int s.2.1), some (.int s.2.2)] [] (zE L, M, N) v σ2 := by
  obtain ⟨d, rfl⟩ : ∃ e, d = e + 1 := ⟨d - 1, by omega⟩
  unfold zf_59_H46 at h
  refine jb_seg 3 (pc' := (if s.2.2 < x2 then 52 else 97)) (ls' := [none, some (.ref 2), some (.int x2), some (.int x3), some (.int s.1), some (.int s.2.1), some (.int s.2.2)]) (st' := []) (σ' := (zE L, M, N)) (G := []) rfl trivial ?_
  refine jb_ite (fun c => ?_) (fun c => ?_)
  · replace h := (if_pos c).symm.trans h
    refine jb_seg 3 (pc' := 57) (ls' := [none, some (.ref 2), some (.int x2), some (.int x3), some (.int s.1), some (.int s.2.1), some (.int s.2.2)]) (st' := [(.int s.2.2), (.ref 2), (.int s.1)]) (σ' := (zE L, M, N)) (G := []) rfl trivial ?_
    obtain ⟨q2, h2, h⟩ := jb_bd_of h
    refine jb_callV (q' := zq_30) (As := [(.int s.2.2)]) (rest := [(.int s.1)]) (σ1 := (zE L, M, N)) (v := some (.int q2)) rfl rfl zp_30 rfl (Nat.le_of_ble_eq_true rfl) (jb_cat rfl) (Nat.le_of_ble_eq_true rfl) (Nat.le_of_ble_eq_true rfl) (Or.inl rfl) rfl (ze_30 s.2.2 M N h2) ?_
    obtain ⟨g3, h⟩ := jb_g0_of h
    obtain ⟨g4, h⟩ := jb_g0_of h
    refine jb_seg 9 (pc' := (if s.2.2 < (x3 - x3 / x2 * x2) then 72 else 76)) (ls' := [none, some (.ref 2), some (.int x2), some (.int x3), some (.int s.1), some (.int s.2.1), some (.int s.2.2)]) (st' := [(.int (q2 - (x3 / x2))), (.int s.1)]) (σ' := (zE L, M, N)) (G := [¬ (x2 : Int32) = 0, ¬ (x2 : Int32) = 0]) rfl ⟨g3, g4⟩ ?_
    refine jb_ite (fun c => ?_) (fun c => ?_)
    · replace h := (if_pos c).symm.trans h
      refine jb_seg 2 (pc' := 77) (ls' := [none, some (.ref 2), some (.int x2), some (.int x3), some (.int s.1), some (.int s.2.1), some (.int s.2.2)]) (st' := [(.int 1), (.int (q2 - (x3 / x2))), (.int s.1)]) (σ' := (zE L, M, N)) (G := []) rfl trivial ?_
      exact jb_mask [false, true, true, true, false, true, true] rfl (zg_59_J77 hd x2 x3 s.2.1 s.2.2 s.1 (q2 - (x3 / x2)) 1 M N h hK)
    · replace h := (if_neg c).symm.trans h
      refine jb_seg 1 (pc' := 77) (ls' := [none, some (.ref 2), some (.int x2), some (.int x3), some (.int s.1), some (.int s.2.1), some (.int s.2.2)]) (st' := [(.int 0), (.int (q2 - (x3 / x2))), (.int s.1)]) (σ' := (zE L, M, N)) (G := []) rfl trivial ?_
      exact jb_mask [false, true, true, true, false, true, true] rfl (zg_59_J77 hd x2 x3 s.2.1 s.2.2 s.1 (q2 - (x3 / x2)) 0 M N h hK)
  · replace h := (if_neg c).symm.trans h
    refine jb_seg 1 (pc' := 99) (ls' := [none, some (.ref 2), some (.int x2), some (.int x3), some (.int s.1), some (.int s.2.1), some (.int s.2.2)]) (st' := [(.int s.2.1)]) (σ' := (zE L, M, N)) (G := []) rfl trivial ?_
    obtain rfl := Option.some.inj h
    obtain ⟨rfl, rfl⟩ := hK
    exact jb_reti rfl rfl
theorem zg_59_H46L {Γ : jb_G} {L : Nat} {d : Nat} (hd : 1 ≤ d) (x2 : Int32) (x3 : Int32) (M : jb_Mi) (N : jb_Ml) {v : Option Value} {σ2 : jb_S} {s : Int32 × Int32 × Int32} {r : (Int32)} (h : jb_lp (zf_59_H46 x2 x3 M) s = some r) (hK : (fun r : Int32 => v = some (.int r) ∧ σ2 = (zE L, M, N)) r) : jb_V Γ d zq_59 46 [none, some (.ref 2), some (.int x2), some (.int x3), some (.int s.1), some (.int s.2.1), some (.int s.2.2)] [] (zE L, M, N) v σ2 := by
  exact @jb_lp_ind (Int32 × Int32 × Int32) ((Int32)) (zf_59_H46 x2 x3 M) (fun s => jb_V Γ d zq_59 46 [none, some (.ref 2), some (.int x2), some (.int x3), some (.int s.1), some (.int s.2.1), some (.int s.2.2)] [] (zE L, M, N) v σ2) (fun r : Int32 => v = some (.int r) ∧ σ2 = (zE L, M, N)) (fun s r h hk => zg_59_H46 hd x2 x3 M N s h hk) s r h hK
set_option maxRecDepth 20000 in
theorem zg_59_H16 {Γ : jb_G} {L : Nat} {d : Nat} (hd : 1 ≤ d) (x2 : Int32) (M : jb_Mi) (N : jb_Ml) (s : Int32 × Int32) {v : Option Value} {σ2 : jb_S} {r : ((Int32 × Int32) ⊕ (Int32))} (h : zf_59_H16 x2 M s = some r) (hK : (jb_K (fun s : Int32 × Int32 => jb_V Γ d zq_59 16 [none, some (.ref 2), some (.int x2), some (.int s.1), some (.int s.2), none, none] [] (zE L, M, N) v σ2) (fun r : Int32 => v = some (.int r) ∧ σ2 = (zE L, M, N))) r) : jb_V Γ d zq_59 16 [none, some (.ref 2), some (.int x2), some (.int s.1), some (.int s.2), none, none] [] (zE L, M, N) v σ2 := by
  obtain ⟨d, rfl⟩ : ∃ e, d = e + 1 := ⟨d - 1, by omega⟩
  unfold zf_59_H16 at h
  refine jb_seg 3 (pc' := (if s.2 < x2 then 22 else 37)) (ls' := [none, some (.ref 2), some (.int x2), some (.int s.1), some (.int s.2), none, none]) (st' := []) (σ' := (zE L, M, N)) (G := []) rfl trivial ?_
  refine jb_ite (fun c => ?_) (fun c => ?_)
  · replace h := (if_pos c).symm.trans h
    refine jb_seg 3 (pc' := 26) (ls' := [none, some (.ref 2), some (.int x2), some (.int s.1), some (.int s.2), none, none]) (st' := [(.int s.2), (.ref 2), (.int s.1)]) (σ' := (zE L, M, N)) (G := []) rfl trivial ?_
    obtain ⟨q1, h1, h⟩ := jb_bd_of h
    refine jb_callV (q' := zq_30) (As := [(.int s.2)]) (rest := [(.int s.1)]) (σ1 := (zE L, M, N)) (v := some (.int q1)) rfl rfl zp_30 rfl (Nat.le_of_ble_eq_true rfl) (jb_cat rfl) (Nat.le_of_ble_eq_true rfl) (Nat.le_of_ble_eq_true rfl) (Or.inl rfl) rfl (ze_30 s.2 M N h1) ?_
    refine jb_seg 4 (pc' := 16) (ls' := [none, some (.ref 2), some (.int x2), some (.int (s.1 + q1)), some (.int (s.2 + 1)), none, none]) (st' := []) (σ' := (zE L, M, N)) (G := []) rfl trivial ?_
    obtain rfl := Option.some.inj h
    exact jb_mask [false, true, true, true, true, false, false] rfl hK
  · replace h := (if_neg c).symm.trans h
    refine jb_seg 6 (pc' := 46) (ls' := [none, some (.ref 2), some (.int x2), some (.int s.1), some (.int 0), some (.int 0), some (.int 0)]) (st' := []) (σ' := (zE L, M, N)) (G := []) rfl trivial ?_
    obtain ⟨y0, hy0, rfl⟩ := jb_mp_of h
    exact jb_mask [false, true, true, true, true, true, true] rfl (zg_59_H46L hd x2 s.1 M N hy0 hK)
theorem zg_59_H16L {Γ : jb_G} {L : Nat} {d : Nat} (hd : 1 ≤ d) (x2 : Int32) (M : jb_Mi) (N : jb_Ml) {v : Option Value} {σ2 : jb_S} {s : Int32 × Int32} {r : (Int32)} (h : jb_lp (zf_59_H16 x2 M) s = some r) (hK : (fun r : Int32 => v = some (.int r) ∧ σ2 = (zE L, M, N)) r) : jb_V Γ d zq_59 16 [none, some (.ref 2), some (.int x2), some (.int s.1), some (.int s.2), none, none] [] (zE L, M, N) v σ2 := by
  exact @jb_lp_ind (Int32 × Int32) ((Int32)) (zf_59_H16 x2 M) (fun s => jb_V Γ d zq_59 16 [none, some (.ref 2), some (.int x2), some (.int s.1), some (.int s.2), none, none] [] (zE L, M, N) v σ2) (fun r : Int32 => v = some (.int r) ∧ σ2 = (zE L, M, N)) (fun s r h hk => zg_59_H16 hd x2 M N s h hk) s r h hK
set_option maxRecDepth 20000 in
theorem zg_59 {Γ : jb_G} {L : Nat} {d : Nat} (hd : 1 ≤ d) (M : jb_Mi) (N : jb_Ml) {v : Option Value} {σ2 : jb_S} {r : (Int32)} (h : zf_59 M = some r) (hK : (fun r : Int32 => v = some (.int r) ∧ σ2 = (zE L, M, N)) r) : jb_V Γ d zq_59 0 [some (.ref 73), some (.ref 2), none, none, none, none, none] [] (zE L, M, N) v σ2 := by
  obtain ⟨d, rfl⟩ : ∃ e, d = e + 1 := ⟨d - 1, by omega⟩
  unfold zf_59 at h
  refine jb_seg 5 (pc' := (if 0 < (M 2 1) then 11 else 9)) (ls' := [some (.ref 73), some (.ref 2), some (.int (M 2 1)), none, none, none, none]) (st' := []) (σ' := (zE L, M, N)) (G := []) rfl trivial ?_
  refine jb_ite (fun c => ?_) (fun c => ?_)
  · replace h := (if_pos c).symm.trans h
    refine jb_seg 4 (pc' := 16) (ls' := [some (.ref 73), some (.ref 2), some (.int (M 2 1)), some (.int 0), some (.int 0), none, none]) (st' := []) (σ' := (zE L, M, N)) (G := []) rfl trivial ?_
    exact jb_mask [false, true, true, true, true, false, false] rfl (zg_59_H16L hd (M 2 1) M N h hK)
  · replace h := (if_neg c).symm.trans h
    refine jb_seg 1 (pc' := 10) (ls' := [some (.ref 73), some (.ref 2), some (.int (M 2 1)), none, none, none, none]) (st' := [(.int 0)]) (σ' := (zE L, M, N)) (G := []) rfl trivial ?_
    obtain rfl := Option.some.inj h
    obtain ⟨rfl, rfl⟩ := hK
    exact jb_reti rfl rfl
theorem ze_59 {Γ : jb_G} {L : Nat} {d : Nat} (hd : 1 ≤ d) (M : jb_Mi) (N : jb_Ml) {r : (Int32)} (h : zf_59 M = some r) : jb_V Γ d zq_59 0 (jb_en 7 [(.ref 73), (.ref 2)]) [] (zE L, M, N) (some (.int r)) (zE L, M, N) := zg_59 hd M N h ⟨rfl, rfl⟩
