-- X3_leastBelow
set_option maxRecDepth 20000 in
theorem zg_60_J53 {Γ : jb_G} {L : Nat} {d : Nat} (x1 : Int32) (x2 : Int32) (x3 : Int32) (x4 : Int32) (M : jb_Mi) (N : jb_Ml) {v : Option Value} {σ2 : jb_S} {r : ((Int32 × Int32) ⊕ (Int32))} (h : zf_60_J53 x1 x2 x3 x4 M = some r) (hK : (jb_K (fun s : Int32 × Int32 => jb_V Γ d zq_60 5 [some (.ref 73), some (.int x1), some (.int x2), some (.int s.1), some (.int s.2), none] [] (zE L, M, N) v σ2) (fun r : Int32 => v = some (.int r) ∧ σ2 = (zE L, M, N))) r) : jb_V Γ d zq_60 53 [some (.ref 73), some (.int x1), some (.int x2), some (.int x3), some (.int x4), none] [] (zE L, M, N) v σ2 := by
  unfold zf_60_J53 at h
  refine jb_seg 2 (pc' := 5) (ls' := [some (.ref 73), some (.int x1), some (.int x2), some (.int x3), some (.int (x4 + 1)), none]) (st' := []) (σ' := (zE L, M, N)) (G := []) rfl trivial ?_
  obtain rfl := Option.some.inj h
  exact jb_mask [true, true, true, true, true, false] rfl hK
set_option maxRecDepth 20000 in
theorem zg_60_J50 {Γ : jb_G} {L : Nat} {d : Nat} (x1 : Int32) (x2 : Int32) (x4 : Int32) (x5 : Int32) (M : jb_Mi) (N : jb_Ml) {v : Option Value} {σ2 : jb_S} {r : ((Int32 × Int32) ⊕ (Int32))} (h : zf_60_J50 x1 x2 x4 x5 M = some r) (hK : (jb_K (fun s : Int32 × Int32 => jb_V Γ d zq_60 5 [some (.ref 73), some (.int x1), some (.int x2), some (.int s.1), some (.int s.2), none] [] (zE L, M, N) v σ2) (fun r : Int32 => v = some (.int r) ∧ σ2 = (zE L, M, N))) r) : jb_V Γ d zq_60 50 [some (.ref 73), some (.int x1), some (.int x2), none, some (.int x4), some (.int x5)] [] (zE L, M, N) v σ2 := by
  unfold zf_60_J50 at h
  refine jb_seg 2 (pc' := 53) (ls' := [some (.ref 73), some (.int x1), some (.int x2), some (.int x5), some (.int x4), some (.int x5)]) (st' := []) (σ' := (zE L, M, N)) (G := []) rfl trivial ?_
  exact jb_mask [true, true, true, true, true, false] rfl (zg_60_J53 x1 x2 x5 x4 M N h hK)
set_option maxRecDepth 20000 in
theorem zg_60_H5 {Γ : jb_G} {L : Nat} {d : Nat} (x1 : Int32) (x2 : Int32) (M : jb_Mi) (N : jb_Ml) (s : Int32 × Int32) {v : Option Value} {σ2 : jb_S} {r : ((Int32 × Int32) ⊕ (Int32))} (h : zf_60_H5 x1 x2 M s = some r) (hK : (jb_K (fun s : Int32 × Int32 => jb_V Γ d zq_60 5 [some (.ref 73), some (.int x1), some (.int x2), some (.int s.1), some (.int s.2), none] [] (zE L, M, N) v σ2) (fun r : Int32 => v = some (.int r) ∧ σ2 = (zE L, M, N))) r) : jb_V Γ d zq_60 5 [some (.ref 73), some (.int x1), some (.int x2), some (.int s.1), some (.int s.2), none] [] (zE L, M, N) v σ2 := by
  unfold zf_60_H5 at h
  refine jb_seg 3 (pc' := (if s.2 < x2 then 11 else 59)) (ls' := [some (.ref 73), some (.int x1), some (.int x2), some (.int s.1), some (.int s.2), none]) (st' := []) (σ' := (zE L, M, N)) (G := []) rfl trivial ?_
  refine jb_ite (fun c => ?_) (fun c => ?_)
  · replace h := (if_pos c).symm.trans h
    obtain ⟨g1, h⟩ := jb_gd_of h
    obtain ⟨g2, h⟩ := jb_gd_of h
    refine jb_seg 22 (pc' := (if s.1 < 0 then 50 else 44)) (ls' := [some (.ref 73), some (.int x1), some (.int x2), some (.int s.1), some (.int s.2), some (.int ((M 78 (((x1 * 8) + s.2)).toNatClampNeg) + (M 78 ((((s.2 + 1) * 8) + x2)).toNatClampNeg)))]) (st' := []) (σ' := (zE L, M, N)) (G := [vp_in ((x1 * 8) + s.2) 64, vp_in (((s.2 + 1) * 8) + x2) 64]) rfl ⟨g1, g2⟩ ?_
    refine jb_ite (fun c => ?_) (fun c => ?_)
    · replace h := (if_pos c).symm.trans h
      exact jb_mask [true, true, true, false, true, true] rfl (zg_60_J50 x1 x2 s.2 ((M 78 (((x1 * 8) + s.2)).toNatClampNeg) + (M 78 ((((s.2 + 1) * 8) + x2)).toNatClampNeg)) M N h hK)
    · replace h := (if_neg c).symm.trans h
      refine jb_seg 3 (pc' := (if ((M 78 (((x1 * 8) + s.2)).toNatClampNeg) + (M 78 ((((s.2 + 1) * 8) + x2)).toNatClampNeg)) < s.1 then 50 else 53)) (ls' := [some (.ref 73), some (.int x1), some (.int x2), some (.int s.1), some (.int s.2), some (.int ((M 78 (((x1 * 8) + s.2)).toNatClampNeg) + (M 78 ((((s.2 + 1) * 8) + x2)).toNatClampNeg)))]) (st' := []) (σ' := (zE L, M, N)) (G := []) rfl trivial ?_
      refine jb_ite (fun c => ?_) (fun c => ?_)
      · replace h := (if_pos c).symm.trans h
        exact jb_mask [true, true, true, false, true, true] rfl (zg_60_J50 x1 x2 s.2 ((M 78 (((x1 * 8) + s.2)).toNatClampNeg) + (M 78 ((((s.2 + 1) * 8) + x2)).toNatClampNeg)) M N h hK)
      · replace h := (if_neg c).symm.trans h
        exact jb_mask [true, true, true, true, true, false] rfl (zg_60_J53 x1 x2 s.1 s.2 M N h hK)
  · replace h := (if_neg c).symm.trans h
    refine jb_seg 1 (pc' := 60) (ls' := [some (.ref 73), some (.int x1), some (.int x2), some (.int s.1), some (.int s.2), none]) (st' := [(.int s.1)]) (σ' := (zE L, M, N)) (G := []) rfl trivial ?_
    obtain rfl := Option.some.inj h
    obtain ⟨rfl, rfl⟩ := hK
    exact jb_reti rfl rfl
theorem zg_60_H5L {Γ : jb_G} {L : Nat} {d : Nat} (x1 : Int32) (x2 : Int32) (M : jb_Mi) (N : jb_Ml) {v : Option Value} {σ2 : jb_S} {s : Int32 × Int32} {r : (Int32)} (h : jb_lp (zf_60_H5 x1 x2 M) s = some r) (hK : (fun r : Int32 => v = some (.int r) ∧ σ2 = (zE L, M, N)) r) : jb_V Γ d zq_60 5 [some (.ref 73), some (.int x1), some (.int x2), some (.int s.1), some (.int s.2), none] [] (zE L, M, N) v σ2 := by
  exact @jb_lp_ind (Int32 × Int32) ((Int32)) (zf_60_H5 x1 x2 M) (fun s => jb_V Γ d zq_60 5 [some (.ref 73), some (.int x1), some (.int x2), some (.int s.1), some (.int s.2), none] [] (zE L, M, N) v σ2) (fun r : Int32 => v = some (.int r) ∧ σ2 = (zE L, M, N)) (fun s r h hk => zg_60_H5 x1 x2 M N s h hk) s r h hK
set_option maxRecDepth 20000 in
theorem zg_60 {Γ : jb_G} {L : Nat} {d : Nat} (x1 : Int32) (x2 : Int32) (M : jb_Mi) (N : jb_Ml) {v : Option Value} {σ2 : jb_S} {r : (Int32)} (h : zf_60 x1 x2 M = some r) (hK : (fun r : Int32 => v = some (.int r) ∧ σ2 = (zE L, M, N)) r) : jb_V Γ d zq_60 0 [some (.ref 73), some (.int x1), some (.int x2), none, none, none] [] (zE L, M, N) v σ2 := by
  unfold zf_60 at h
  refine jb_seg 4 (pc' := 5) (ls' := [some (.ref 73), some (.int x1), some (.int x2), some (.int (-1)), some (.int x1), none]) (st' := []) (σ' := (zE L, M, N)) (G := []) rfl trivial ?_
  exact jb_mask [true, true, true, true, true, false] rfl (zg_60_H5L x1 x2 M N h hK)
theorem ze_60 {Γ : jb_G} {L : Nat} {d : Nat} (x1 : Int32) (x2 : Int32) (M : jb_Mi) (N : jb_Ml) {r : (Int32)} (h : zf_60 x1 x2 M = some r) : jb_V Γ d zq_60 0 (jb_en 6 [(.ref 73), (.int x1), (.int x2)]) [] (zE L, M, N) (some (.int r)) (zE L, M, N) := zg_60 x1 x2 M N h ⟨rfl, rfl⟩
-- J9_min_7cf53
set_option maxRecDepth 20000 in
theorem zg_272 {Γ : jb_G} {L : Nat} {d : Nat} (x0 : Int32) (x1 : Int32) (M : jb_Mi) (N : jb_Ml) {v : Option Value} {σ2 : jb_S} {r : Int32} (h : zf_272 x0 x1 = r) (hK : (fun r : Int32 => v = some (.int r) ∧ σ2 = (zE L, M, N)) r) : jb_V Γ d zq_272 0 [some (.int x0), some (.int x1)] [] (zE L, M, N) v σ2 := by
  unfold zf_272 at h
  refine jb_seg 3 (pc' := (if x1 < x0 then 9 else 5)) (ls' := [some (.int x0), some (.int x1)]) (st' := []) (σ' := (zE L, M, N)) (G := []) rfl trivial ?_
  refine jb_ite (fun c => ?_) (fun c => ?_)
  · replace h := (if_pos c).symm.trans h
    refine jb_seg 1 (pc' := 10) (ls' := [some (.int x0), some (.int x1)]) (st' := [(.int x1)]) (σ' := (zE L, M, N)) (G := []) rfl trivial ?_
    subst h
    obtain ⟨rfl, rfl⟩ := hK
    exact jb_reti rfl rfl
  · replace h := (if_neg c).symm.trans h
    refine jb_seg 2 (pc' := 10) (ls' := [some (.int x0), some (.int x1)]) (st' := [(.int x0)]) (σ' := (zE L, M, N)) (G := []) rfl trivial ?_
    subst h
    obtain ⟨rfl, rfl⟩ := hK
    exact jb_reti rfl rfl
theorem ze_272 {Γ : jb_G} {L : Nat} {d : Nat} (x0 : Int32) (x1 : Int32) (M : jb_Mi) (N : jb_Ml) {r : Int32} (h : zf_272 x0 x1 = r) : jb_V Γ d zq_272 0 (jb_en 2 [(.int x0), (.int x1)]) [] (zE L, M, N) (some (.int r)) (zE L, M, N) := zg_272 x0 x1 M N h ⟨rfl, rfl⟩
-- X3_cutting
set_option maxRecDepth 20000 in
theorem zg_61_H83 {Γ : jb_G} {L : Nat} {d : Nat} (hd : 1 ≤ d) (x2 : Int32) (x3 : Int32) (N : jb_Ml) (s : Int32 × jb_Mi) {v : Option Value} {σ2 : jb_S} {r : ((Int32 × jb_Mi) ⊕ ((Int32 × jb_Mi) ⊕ (Int32 × jb_Mi)))} (h : zf_61_H83 x2 x3 s = some r) (hK : (jb_K (fun s : Int32 × jb_Mi => jb_V Γ d zq_61 83 [some (.ref 73), none, some (.int x2), some (.int x3), some (.int s.1), none] [] (zE L, s.2, N) v σ2) (jb_K (fun s : Int32 × jb_Mi => jb_V Γ d zq_61 75 [some (.ref 73), none, some (.int x2), some (.int s.1), none, none] [] (zE L, s.2, N) v σ2) (fun r : Int32 × jb_Mi => v = some (.int r.1) ∧ σ2 = (zE L, r.2, N)))) r) : jb_V Γ d zq_61 83 [some (.ref 73), none, some (.int x2), some (.int x3), some (.int s.1), none] [] (zE L, s.2, N) v σ2 := by
  obtain ⟨d, rfl⟩ : ∃ e, d = e + 1 := ⟨d - 1, by omega⟩
  unfold zf_61_H83 at h
  refine jb_seg 5 (pc' := (if (s.1 + x3) < x2 then 91 else 142)) (ls' := [some (.ref 73), none, some (.int x2), some (.int x3), some (.int s.1), none]) (st' := []) (σ' := (zE L, s.2, N)) (G := []) rfl trivial ?_
  refine jb_ite (fun c => ?_) (fun c => ?_)
  · replace h := (if_pos c).symm.trans h
    obtain ⟨g5, h⟩ := jb_gd_of h
    obtain ⟨g6, h⟩ := jb_gd_of h
    refine jb_seg 25 (pc' := 131) (ls' := [some (.ref 73), none, some (.int x2), some (.int x3), some (.int s.1), some (.int (s.1 + x3))]) (st' := [(.int (s.1 + x3)), (.int s.1), (.ref 73), (.int ((s.2 77 (((s.1 + x3) + 1)).toNatClampNeg) - (s.2 77 (s.1).toNatClampNeg))), (.int ((s.1 * 8) + (s.1 + x3))), (.ref 78)]) (σ' := (zE L, s.2, N)) (G := [vp_in ((s.1 + x3) + 1) 9, vp_in s.1 9]) rfl ⟨g5, g6⟩ ?_
    obtain ⟨q7, h7, h⟩ := jb_bd_of h
    refine jb_callV (q' := zq_60) (As := [(.int s.1), (.int (s.1 + x3))]) (rest := [(.int ((s.2 77 (((s.1 + x3) + 1)).toNatClampNeg) - (s.2 77 (s.1).toNatClampNeg))), (.int ((s.1 * 8) + (s.1 + x3))), (.ref 78)]) (σ1 := (zE L, s.2, N)) (v := some (.int q7)) rfl rfl zp_60 rfl (Nat.le_of_ble_eq_true rfl) (jb_cat rfl) (Nat.le_of_ble_eq_true rfl) (Nat.le_of_ble_eq_true rfl) (Or.inl rfl) rfl (ze_60 s.1 (s.1 + x3) s.2 N h7) ?_
    obtain ⟨g8, h⟩ := jb_gd_of h
    refine jb_seg 4 (pc' := 83) (ls' := [some (.ref 73), none, some (.int x2), some (.int x3), some (.int (s.1 + 1)), some (.int (s.1 + x3))]) (st' := []) (σ' := (zE L, (jb_up s.2 78 (((s.1 * 8) + (s.1 + x3))).toNatClampNeg (((s.2 77 (((s.1 + x3) + 1)).toNatClampNeg) - (s.2 77 (s.1).toNatClampNeg)) + q7)), N)) (G := [vp_in ((s.1 * 8) + (s.1 + x3)) 64]) rfl g8 ?_
    obtain rfl := Option.some.inj h
    exact jb_mask [true, false, true, true, true, false] rfl hK
  · replace h := (if_neg c).symm.trans h
    refine jb_seg 2 (pc' := 75) (ls' := [some (.ref 73), none, some (.int x2), some (.int (x3 + 1)), some (.int s.1), none]) (st' := []) (σ' := (zE L, s.2, N)) (G := []) rfl trivial ?_
    obtain rfl := Option.some.inj h
    exact jb_mask [true, false, true, true, false, false] rfl hK
theorem zg_61_H83L {Γ : jb_G} {L : Nat} {d : Nat} (hd : 1 ≤ d) (x2 : Int32) (x3 : Int32) (N : jb_Ml) {v : Option Value} {σ2 : jb_S} {s : Int32 × jb_Mi} {r : ((Int32 × jb_Mi) ⊕ (Int32 × jb_Mi))} (h : jb_lp (zf_61_H83 x2 x3) s = some r) (hK : (jb_K (fun s : Int32 × jb_Mi => jb_V Γ d zq_61 75 [some (.ref 73), none, some (.int x2), some (.int s.1), none, none] [] (zE L, s.2, N) v σ2) (fun r : Int32 × jb_Mi => v = some (.int r.1) ∧ σ2 = (zE L, r.2, N))) r) : jb_V Γ d zq_61 83 [some (.ref 73), none, some (.int x2), some (.int x3), some (.int s.1), none] [] (zE L, s.2, N) v σ2 := by
  exact @jb_lp_ind (Int32 × jb_Mi) (((Int32 × jb_Mi) ⊕ (Int32 × jb_Mi))) (zf_61_H83 x2 x3) (fun s => jb_V Γ d zq_61 83 [some (.ref 73), none, some (.int x2), some (.int x3), some (.int s.1), none] [] (zE L, s.2, N) v σ2) (jb_K (fun s : Int32 × jb_Mi => jb_V Γ d zq_61 75 [some (.ref 73), none, some (.int x2), some (.int s.1), none, none] [] (zE L, s.2, N) v σ2) (fun r : Int32 × jb_Mi => v = some (.int r.1) ∧ σ2 = (zE L, r.2, N))) (fun s r h hk => zg_61_H83 hd x2 x3 N s h hk) s r h hK
set_option maxRecDepth 20000 in
theorem zg_61_H75 {Γ : jb_G} {L : Nat} {d : Nat} (hd : 1 ≤ d) (x2 : Int32) (N : jb_Ml) (s : Int32 × jb_Mi) {v : Option Value} {σ2 : jb_S} {r : ((Int32 × jb_Mi) ⊕ (Int32 × jb_Mi))} (h : zf_61_H75 x2 s = some r) (hK : (jb_K (fun s : Int32 × jb_Mi => jb_V Γ d zq_61 75 [some (.ref 73), none, some (.int x2), some (.int s.1), none, none] [] (zE L, s.2, N) v σ2) (fun r : Int32 × jb_Mi => v = some (.int r.1) ∧ σ2 = (zE L, r.2, N))) r) : jb_V Γ d zq_61 75 [some (.ref 73), none, some (.int x2), some (.int s.1), none, none] [] (zE L, s.2, N) v σ2 := by
  obtain ⟨d, rfl⟩ : ∃ e, d = e + 1 := ⟨d - 1, by omega⟩
  unfold zf_61_H75 at h
  refine jb_seg 3 (pc' := (if s.1 < x2 then 80 else 148)) (ls' := [some (.ref 73), none, some (.int x2), some (.int s.1), none, none]) (st' := []) (σ' := (zE L, s.2, N)) (G := []) rfl trivial ?_
  refine jb_ite (fun c => ?_) (fun c => ?_)
  · replace h := (if_pos c).symm.trans h
    refine jb_seg 2 (pc' := 83) (ls' := [some (.ref 73), none, some (.int x2), some (.int s.1), some (.int 0), none]) (st' := []) (σ' := (zE L, s.2, N)) (G := []) rfl trivial ?_
    exact jb_mask [true, false, true, true, true, false] rfl (zg_61_H83L hd x2 s.1 N h hK)
  · replace h := (if_neg c).symm.trans h
    refine jb_seg 2 (pc' := (if 0 < x2 then 152 else 163)) (ls' := [some (.ref 73), none, some (.int x2), some (.int s.1), none, none]) (st' := []) (σ' := (zE L, s.2, N)) (G := []) rfl trivial ?_
    refine jb_ite (fun c => ?_) (fun c => ?_)
    · replace h := (if_pos c).symm.trans h
      obtain ⟨g9, h⟩ := jb_gd_of h
      refine jb_seg 7 (pc' := 164) (ls' := [some (.ref 73), none, some (.int x2), some (.int s.1), none, none]) (st' := [(.int (s.2 78 ((x2 - 1)).toNatClampNeg))]) (σ' := (zE L, s.2, N)) (G := [vp_in (x2 - 1) 64]) rfl g9 ?_
      obtain rfl := Option.some.inj h
      obtain ⟨rfl, rfl⟩ := hK
      exact jb_reti rfl rfl
    · replace h := (if_neg c).symm.trans h
      refine jb_seg 1 (pc' := 164) (ls' := [some (.ref 73), none, some (.int x2), some (.int s.1), none, none]) (st' := [(.int 0)]) (σ' := (zE L, s.2, N)) (G := []) rfl trivial ?_
      obtain rfl := Option.some.inj h
      obtain ⟨rfl, rfl⟩ := hK
      exact jb_reti rfl rfl
theorem zg_61_H75L {Γ : jb_G} {L : Nat} {d : Nat} (hd : 1 ≤ d) (x2 : Int32) (N : jb_Ml) {v : Option Value} {σ2 : jb_S} {s : Int32 × jb_Mi} {r : (Int32 × jb_Mi)} (h : jb_lp (zf_61_H75 x2) s = some r) (hK : (fun r : Int32 × jb_Mi => v = some (.int r.1) ∧ σ2 = (zE L, r.2, N)) r) : jb_V Γ d zq_61 75 [some (.ref 73), none, some (.int x2), some (.int s.1), none, none] [] (zE L, s.2, N) v σ2 := by
  exact @jb_lp_ind (Int32 × jb_Mi) ((Int32 × jb_Mi)) (zf_61_H75 x2) (fun s => jb_V Γ d zq_61 75 [some (.ref 73), none, some (.int x2), some (.int s.1), none, none] [] (zE L, s.2, N) v σ2) (fun r : Int32 × jb_Mi => v = some (.int r.1) ∧ σ2 = (zE L, r.2, N)) (fun s r h hk => zg_61_H75 hd x2 N s h hk) s r h hK
set_option maxRecDepth 20000 in
theorem zg_61_H12 {Γ : jb_G} {L : Nat} {d : Nat} (hd : 1 ≤ d) (x2 : Int32) (N : jb_Ml) (s : Int32 × jb_Mi) {v : Option Value} {σ2 : jb_S} {r : ((Int32 × jb_Mi) ⊕ (Int32 × jb_Mi))} (h : zf_61_H12 x2 s = some r) (hK : (jb_K (fun s : Int32 × jb_Mi => jb_V Γ d zq_61 12 [some (.ref 73), some (.ref 2), some (.int x2), some (.int s.1), none, none] [] (zE L, s.2, N) v σ2) (fun r : Int32 × jb_Mi => v = some (.int r.1) ∧ σ2 = (zE L, r.2, N))) r) : jb_V Γ d zq_61 12 [some (.ref 73), some (.ref 2), some (.int x2), some (.int s.1), none, none] [] (zE L, s.2, N) v σ2 := by
  obtain ⟨d, rfl⟩ : ∃ e, d = e + 1 := ⟨d - 1, by omega⟩
  unfold zf_61_H12 at h
  refine jb_seg 3 (pc' := (if s.1 < x2 then 17 else 73)) (ls' := [some (.ref 73), some (.ref 2), some (.int x2), some (.int s.1), none, none]) (st' := []) (σ' := (zE L, s.2, N)) (G := []) rfl trivial ?_
  refine jb_ite (fun c => ?_) (fun c => ?_)
  · replace h := (if_pos c).symm.trans h
    refine jb_seg 2 (pc' := 19) (ls' := [some (.ref 73), some (.ref 2), some (.int x2), some (.int s.1), none, none]) (st' := [(.int s.1), (.ref 2)]) (σ' := (zE L, s.2, N)) (G := []) rfl trivial ?_
    obtain ⟨q1, h1, h⟩ := jb_bd_of h
    refine jb_callV (q' := zq_30) (As := [(.int s.1)]) (rest := []) (σ1 := (zE L, s.2, N)) (v := some (.int q1)) rfl rfl zp_30 rfl (Nat.le_of_ble_eq_true rfl) (jb_cat rfl) (Nat.le_of_ble_eq_true rfl) (Nat.le_of_ble_eq_true rfl) (Or.inl rfl) rfl (ze_30 s.1 s.2 N h1) ?_
    refine jb_seg 4 (pc' := 29) (ls' := [some (.ref 73), some (.ref 2), some (.int x2), some (.int s.1), some (.int q1), none]) (st' := [(.int 99), (.int 1), (.int q1)]) (σ' := (zE L, s.2, N)) (G := []) rfl trivial ?_
    refine jb_callS (q' := zq_23) (As := [(.int q1), (.int 1), (.int 99)]) (rest := []) (σ1 := (zE L, s.2, N)) (v := some (.int (jb_b2i (zf_23 q1 1 99)))) rfl (Nat.le_of_ble_eq_true rfl) rfl zp_23 (jb_cat rfl) (Nat.le_of_ble_eq_true rfl) (Nat.le_of_ble_eq_true rfl) (Or.inl rfl) rfl (ze_23 q1 1 99 s.2 N rfl) ?_
    refine jb_seg 1 (pc' := (if (jb_b2i (zf_23 q1 1 99)) = 0 then 35 else 38)) (ls' := [some (.ref 73), some (.ref 2), some (.int x2), some (.int s.1), some (.int q1), none]) (st' := []) (σ' := (zE L, s.2, N)) (G := []) rfl trivial ?_
    refine jb_ite (fun c => ?_) (fun c => ?_)
    · replace h := (if_pos c).symm.trans h
      refine jb_seg 1 (pc' := 37) (ls' := [some (.ref 73), some (.ref 2), some (.int x2), some (.int s.1), some (.int q1), none]) (st' := [(.int (-2))]) (σ' := (zE L, s.2, N)) (G := []) rfl trivial ?_
      obtain rfl := Option.some.inj h
      obtain ⟨rfl, rfl⟩ := hK
      exact jb_reti rfl rfl
    · replace h := (if_neg c).symm.trans h
      obtain ⟨g2, h⟩ := jb_gd_of h
      obtain ⟨g3, h⟩ := jb_gd_of h
      obtain ⟨g4, h⟩ := jb_gd_of h
      refine jb_seg 23 (pc' := 12) (ls' := [some (.ref 73), some (.ref 2), some (.int x2), some (.int (s.1 + 1)), some (.int q1), none]) (st' := []) (σ' := (zE L, (jb_up (jb_up s.2 77 ((s.1 + 1)).toNatClampNeg ((s.2 77 (s.1).toNatClampNeg) + q1)) 78 (((s.1 * 8) + s.1)).toNatClampNeg 0), N)) (G := [vp_in s.1 9, vp_in (s.1 + 1) 9, vp_in ((s.1 * 8) + s.1) 64]) rfl ⟨g2, g3, g4⟩ ?_
      obtain rfl := Option.some.inj h
      exact jb_mask [true, true, true, true, false, false] rfl hK
  · replace h := (if_neg c).symm.trans h
    refine jb_seg 2 (pc' := 75) (ls' := [some (.ref 73), some (.ref 2), some (.int x2), some (.int 1), none, none]) (st' := []) (σ' := (zE L, s.2, N)) (G := []) rfl trivial ?_
    obtain ⟨y0, hy0, rfl⟩ := jb_mp_of h
    exact jb_mask [true, false, true, true, false, false] rfl (zg_61_H75L hd x2 N hy0 hK)
theorem zg_61_H12L {Γ : jb_G} {L : Nat} {d : Nat} (hd : 1 ≤ d) (x2 : Int32) (N : jb_Ml) {v : Option Value} {σ2 : jb_S} {s : Int32 × jb_Mi} {r : (Int32 × jb_Mi)} (h : jb_lp (zf_61_H12 x2) s = some r) (hK : (fun r : Int32 × jb_Mi => v = some (.int r.1) ∧ σ2 = (zE L, r.2, N)) r) : jb_V Γ d zq_61 12 [some (.ref 73), some (.ref 2), some (.int x2), some (.int s.1), none, none] [] (zE L, s.2, N) v σ2 := by
  exact @jb_lp_ind (Int32 × jb_Mi) ((Int32 × jb_Mi)) (zf_61_H12 x2) (fun s => jb_V Γ d zq_61 12 [some (.ref 73), some (.ref 2), some (.int x2), some (.int s.1), none, none] [] (zE L, s.2, N) v σ2) (fun r : Int32 × jb_Mi => v = some (.int r.1) ∧ σ2 = (zE L, r.2, N)) (fun s r h hk => zg_61_H12 hd x2 N s h hk) s r h hK
set_option maxRecDepth 20000 in
theorem zg_61 {Γ : jb_G} {L : Nat} {d : Nat} (hd : 1 ≤ d) (M : jb_Mi) (N : jb_Ml) {v : Option Value} {σ2 : jb_S} {r : (Int32 × jb_Mi)} (h : zf_61 M = some r) (hK : (fun r : Int32 × jb_Mi => v = some (.int r.1) ∧ σ2 = (zE L, r.2, N)) r) : jb_V Γ d zq_61 0 [some (.ref 73), some (.ref 2), none, none, none, none] [] (zE L, M, N) v σ2 := by
  obtain ⟨d, rfl⟩ : ∃ e, d = e + 1 := ⟨d - 1, by omega⟩
  unfold zf_61 at h
  refine jb_seg 3 (pc' := 6) (ls' := [some (.ref 73), some (.ref 2), none, none, none, none]) (st' := [(.int 8), (.int (M 2 1))]) (σ' := (zE L, M, N)) (G := []) rfl trivial ?_
  refine jb_callS (q' := zq_272) (As := [(.int (M 2 1)), (.int 8)]) (rest := []) (σ1 := (zE L, M, N)) (v := some (.int (zf_272 (M 2 1) 8))) rfl (Nat.le_of_ble_eq_true rfl) rfl zp_272 (jb_cat rfl) (Nat.le_of_ble_eq_true rfl) (Nat.le_of_ble_eq_true rfl) (Or.inl rfl) rfl (ze_272 (M 2 1) 8 M N rfl) ?_
  refine jb_seg 3 (pc' := 12) (ls' := [some (.ref 73), some (.ref 2), some (.int (zf_272 (M 2 1) 8)), some (.int 0), none, none]) (st' := []) (σ' := (zE L, M, N)) (G := []) rfl trivial ?_
  exact jb_mask [true, true, true, true, false, false] rfl (zg_61_H12L hd (zf_272 (M 2 1) 8) N h hK)
theorem ze_61 {Γ : jb_G} {L : Nat} {d : Nat} (hd : 1 ≤ d) (M : jb_Mi) (N : jb_Ml) {r : (Int32 × jb_Mi)} (h : zf_61 M = some r) : jb_V Γ d zq_61 0 (jb_en 6 [(.ref 73), (.ref 2)]) [] (zE L, M, N) (some (.int r.1)) (zE L, r.2, N) := zg_61 hd M N h ⟨rfl, rfl⟩
-- X4_factOf
set_option maxRecDepth 20000 in
theorem zg_63 {Γ : jb_G} {L : Nat} {d : Nat} (x0 : Int32) (M : jb_Mi) (N : jb_Ml) {v : Option Value} {σ2 : jb_S} {r : Int32} (h : zf_63 x0 = r) (hK : (fun r : Int32 => v = some (.int r) ∧ σ2 = (zE L, M, N)) r) : jb_V Γ d zq_63 0 [some (.int x0)] [] (zE L, M, N) v σ2 := by
  unfold zf_63 at h
  refine jb_seg 1 (pc' := 1) (ls' := [some (.int x0)]) (st' := [(.int x0)]) (σ' := (zE L, M, N)) (G := []) rfl trivial ?_
  refine jb_tsw [(97, 96), (98, 116), (99, 102), (100, 116), (101, 116), (102, 116), (103, 107), (104, 110), (105, 100), (106, 116), (107, 104), (108, 98), (109, 92), (110, 113), (111, 116), (112, 116), (113, 116), (114, 116), (115, 94)] 116 rfl (by decide +kernel) ?_
  refine jb_swc (fun c => ?_) (fun c => ?_)
  · replace h := (if_pos c).symm.trans h
    refine jb_seg 1 (pc' := 97) (ls' := [some (.int x0)]) (st' := [(.int 2)]) (σ' := (zE L, M, N)) (G := []) rfl trivial ?_
    subst h
    obtain ⟨rfl, rfl⟩ := hK
    exact jb_reti rfl rfl
  · replace h := (if_neg c).symm.trans h
    refine jb_swc (fun c => ?_) (fun c => ?_)
    · replace h := (if_pos c).symm.trans h
      refine jb_seg 1 (pc' := 117) (ls' := [some (.int x0)]) (st' := [(.int (-1))]) (σ' := (zE L, M, N)) (G := []) rfl trivial ?_
      subst h
      obtain ⟨rfl, rfl⟩ := hK
      exact jb_reti rfl rfl
    · replace h := (if_neg c).symm.trans h
      refine jb_swc (fun c => ?_) (fun c => ?_)
      · replace h := (if_pos c).symm.trans h
        refine jb_seg 1 (pc' := 103) (ls' := [some (.int x0)]) (st' := [(.int 5)]) (σ' := (zE L, M, N)) (G := []) rfl trivial ?_
        subst h
        obtain ⟨rfl, rfl⟩ := hK
        exact jb_reti rfl rfl
      · replace h := (if_neg c).symm.trans h
        refine jb_swc (fun c => ?_) (fun c => ?_)
        · replace h := (if_pos c).symm.trans h
          refine jb_seg 1 (pc' := 117) (ls' := [some (.int x0)]) (st' := [(.int (-1))]) (σ' := (zE L, M, N)) (G := []) rfl trivial ?_
          subst h
          obtain ⟨rfl, rfl⟩ := hK
          exact jb_reti rfl rfl
        · replace h := (if_neg c).symm.trans h
          refine jb_swc (fun c => ?_) (fun c => ?_)
          · replace h := (if_pos c).symm.trans h
            refine jb_seg 1 (pc' := 117) (ls' := [some (.int x0)]) (st' := [(.int (-1))]) (σ' := (zE L, M, N)) (G := []) rfl trivial ?_
            subst h
            obtain ⟨rfl, rfl⟩ := hK
            exact jb_reti rfl rfl
          · replace h := (if_neg c).symm.trans h
            refine jb_swc (fun c => ?_) (fun c => ?_)
            · replace h := (if_pos c).symm.trans h
              refine jb_seg 1 (pc' := 117) (ls' := [some (.int x0)]) (st' := [(.int (-1))]) (σ' := (zE L, M, N)) (G := []) rfl trivial ?_
              subst h
              obtain ⟨rfl, rfl⟩ := hK
              exact jb_reti rfl rfl
            · replace h := (if_neg c).symm.trans h
              refine jb_swc (fun c => ?_) (fun c => ?_)
              · replace h := (if_pos c).symm.trans h
                refine jb_seg 1 (pc' := 109) (ls' := [some (.int x0)]) (st' := [(.int 7)]) (σ' := (zE L, M, N)) (G := []) rfl trivial ?_
                subst h
                obtain ⟨rfl, rfl⟩ := hK
                exact jb_reti rfl rfl
              · replace h := (if_neg c).symm.trans h
                refine jb_swc (fun c => ?_) (fun c => ?_)
                · replace h := (if_pos c).symm.trans h
                  refine jb_seg 1 (pc' := 112) (ls' := [some (.int x0)]) (st' := [(.int 8)]) (σ' := (zE L, M, N)) (G := []) rfl trivial ?_
                  subst h
                  obtain ⟨rfl, rfl⟩ := hK
                  exact jb_reti rfl rfl
                · replace h := (if_neg c).symm.trans h
                  refine jb_swc (fun c => ?_) (fun c => ?_)
                  · replace h := (if_pos c).symm.trans h
                    refine jb_seg 1 (pc' := 101) (ls' := [some (.int x0)]) (st' := [(.int 4)]) (σ' := (zE L, M, N)) (G := []) rfl trivial ?_
                    subst h
                    obtain ⟨rfl, rfl⟩ := hK
                    exact jb_reti rfl rfl
                  · replace h := (if_neg c).symm.trans h
                    refine jb_swc (fun c => ?_) (fun c => ?_)
                    · replace h := (if_pos c).symm.trans h
                      refine jb_seg 1 (pc' := 117) (ls' := [some (.int x0)]) (st' := [(.int (-1))]) (σ' := (zE L, M, N)) (G := []) rfl trivial ?_
                      subst h
                      obtain ⟨rfl, rfl⟩ := hK
                      exact jb_reti rfl rfl
                    · replace h := (if_neg c).symm.trans h
                      refine jb_swc (fun c => ?_) (fun c => ?_)
                      · replace h := (if_pos c).symm.trans h
                        refine jb_seg 1 (pc' := 106) (ls' := [some (.int x0)]) (st' := [(.int 6)]) (σ' := (zE L, M, N)) (G := []) rfl trivial ?_
                        subst h
                        obtain ⟨rfl, rfl⟩ := hK
                        exact jb_reti rfl rfl
                      · replace h := (if_neg c).symm.trans h
                        refine jb_swc (fun c => ?_) (fun c => ?_)
                        · replace h := (if_pos c).symm.trans h
                          refine jb_seg 1 (pc' := 99) (ls' := [some (.int x0)]) (st' := [(.int 3)]) (σ' := (zE L, M, N)) (G := []) rfl trivial ?_
                          subst h
                          obtain ⟨rfl, rfl⟩ := hK
                          exact jb_reti rfl rfl
                        · replace h := (if_neg c).symm.trans h
                          refine jb_swc (fun c => ?_) (fun c => ?_)
                          · replace h := (if_pos c).symm.trans h
                            refine jb_seg 1 (pc' := 93) (ls' := [some (.int x0)]) (st' := [(.int 0)]) (σ' := (zE L, M, N)) (G := []) rfl trivial ?_
                            subst h
                            obtain ⟨rfl, rfl⟩ := hK
                            exact jb_reti rfl rfl
                          · replace h := (if_neg c).symm.trans h
                            refine jb_swc (fun c => ?_) (fun c => ?_)
                            · replace h := (if_pos c).symm.trans h
                              refine jb_seg 1 (pc' := 115) (ls' := [some (.int x0)]) (st' := [(.int 9)]) (σ' := (zE L, M, N)) (G := []) rfl trivial ?_
                              subst h
                              obtain ⟨rfl, rfl⟩ := hK
                              exact jb_reti rfl rfl
                            · replace h := (if_neg c).symm.trans h
                              refine jb_swc (fun c => ?_) (fun c => ?_)
                              · replace h := (if_pos c).symm.trans h
                                refine jb_seg 1 (pc' := 117) (ls' := [some (.int x0)]) (st' := [(.int (-1))]) (σ' := (zE L, M, N)) (G := []) rfl trivial ?_
                                subst h
                                obtain ⟨rfl, rfl⟩ := hK
                                exact jb_reti rfl rfl
                              · replace h := (if_neg c).symm.trans h
                                refine jb_swc (fun c => ?_) (fun c => ?_)
                                · replace h := (if_pos c).symm.trans h
                                  refine jb_seg 1 (pc' := 117) (ls' := [some (.int x0)]) (st' := [(.int (-1))]) (σ' := (zE L, M, N)) (G := []) rfl trivial ?_
                                  subst h
                                  obtain ⟨rfl, rfl⟩ := hK
                                  exact jb_reti rfl rfl
                                · replace h := (if_neg c).symm.trans h
                                  refine jb_swc (fun c => ?_) (fun c => ?_)
                                  · replace h := (if_pos c).symm.trans h
                                    refine jb_seg 1 (pc' := 117) (ls' := [some (.int x0)]) (st' := [(.int (-1))]) (σ' := (zE L, M, N)) (G := []) rfl trivial ?_
                                    subst h
                                    obtain ⟨rfl, rfl⟩ := hK
                                    exact jb_reti rfl rfl
                                  · replace h := (if_neg c).symm.trans h
                                    refine jb_swc (fun c => ?_) (fun c => ?_)
                                    · replace h := (if_pos c).symm.trans h
                                      refine jb_seg 1 (pc' := 117) (ls' := [some (.int x0)]) (st' := [(.int (-1))]) (σ' := (zE L, M, N)) (G := []) rfl trivial ?_
                                      subst h
                                      obtain ⟨rfl, rfl⟩ := hK
                                      exact jb_reti rfl rfl
                                    · replace h := (if_neg c).symm.trans h
                                      refine jb_swc (fun c => ?_) (fun c => ?_)
                                      · replace h := (if_pos c).symm.trans h
                                        refine jb_seg 1 (pc' := 95) (ls' := [some (.int x0)]) (st' := [(.int 1)]) (σ' := (zE L, M, N)) (G := []) rfl trivial ?_
                                        subst h
                                        obtain ⟨rfl, rfl⟩ := hK
                                        exact jb_reti rfl rfl
                                      · replace h := (if_neg c).symm.trans h
                                        refine jb_swn ?_
                                        refine jb_seg 1 (pc' := 117) (ls' := [some (.int x0)]) (st' := [(.int (-1))]) (σ' := (zE L, M, N)) (G := []) rfl trivial ?_
                                        subst h
                                        obtain ⟨rfl, rfl⟩ := hK
                                        exact jb_reti rfl rfl
theorem ze_63 {Γ : jb_G} {L : Nat} {d : Nat} (x0 : Int32) (M : jb_Mi) (N : jb_Ml) {r : Int32} (h : zf_63 x0 = r) : jb_V Γ d zq_63 0 (jb_en 1 [(.int x0)]) [] (zE L, M, N) (some (.int r)) (zE L, M, N) := zg_63 x0 M N h ⟨rfl, rfl⟩
-- X4_factAt
set_option maxRecDepth 20000 in
theorem zg_64 {Γ : jb_G} {L : Nat} {d : Nat} (x1 : Int32) (M : jb_Mi) (N : jb_Ml) {v : Option Value} {σ2 : jb_S} {r : (Int32)} (h : zf_64 x1 M = some r) (hK : (fun r : Int32 => v = some (.int r) ∧ σ2 = (zE L, M, N)) r) : jb_V Γ d zq_64 0 [some (.ref 57), some (.int x1)] [] (zE L, M, N) v σ2 := by
  unfold zf_64 at h
  refine jb_seg 2 (pc' := (if x1 < 0 then 19 else 4)) (ls' := [some (.ref 57), some (.int x1)]) (st' := []) (σ' := (zE L, M, N)) (G := []) rfl trivial ?_
  refine jb_ite (fun c => ?_) (fun c => ?_)
  · replace h := (if_pos c).symm.trans h
    refine jb_seg 1 (pc' := 20) (ls' := [some (.ref 57), some (.int x1)]) (st' := [(.int 0)]) (σ' := (zE L, M, N)) (G := []) rfl trivial ?_
    obtain rfl := Option.some.inj h
    obtain ⟨rfl, rfl⟩ := hK
    exact jb_reti rfl rfl
  · replace h := (if_neg c).symm.trans h
    refine jb_seg 3 (pc' := (if x1 < 10 then 10 else 19)) (ls' := [some (.ref 57), some (.int x1)]) (st' := []) (σ' := (zE L, M, N)) (G := []) rfl trivial ?_
    refine jb_ite (fun c => ?_) (fun c => ?_)
    · replace h := (if_pos c).symm.trans h
      obtain ⟨g1, h⟩ := jb_gd_of h
      refine jb_seg 5 (pc' := 20) (ls' := [some (.ref 57), some (.int x1)]) (st' := [(.int (M 58 x1.toNatClampNeg))]) (σ' := (zE L, M, N)) (G := [vp_in x1 10]) rfl g1 ?_
      obtain rfl := Option.some.inj h
      obtain ⟨rfl, rfl⟩ := hK
      exact jb_reti rfl rfl
    · replace h := (if_neg c).symm.trans h
      refine jb_seg 1 (pc' := 20) (ls' := [some (.ref 57), some (.int x1)]) (st' := [(.int 0)]) (σ' := (zE L, M, N)) (G := []) rfl trivial ?_
      obtain rfl := Option.some.inj h
      obtain ⟨rfl, rfl⟩ := hK
      exact jb_reti rfl rfl
theorem ze_64 {Γ : jb_G} {L : Nat} {d : Nat} (x1 : Int32) (M : jb_Mi) (N : jb_Ml) {r : (Int32)} (h : zf_64 x1 M = some r) : jb_V Γ d zq_64 0 (jb_en 2 [(.ref 57), (.int x1)]) [] (zE L, M, N) (some (.int r)) (zE L, M, N) := zg_64 x1 M N h ⟨rfl, rfl⟩
-- X4_reckon
set_option maxRecDepth 20000 in
theorem zg_65 {Γ : jb_G} {L : Nat} {d : Nat} (x1 : Int32) (x2 : Int32) (x3 : Int32) (M : jb_Mi) (N : jb_Ml) {v : Option Value} {σ2 : jb_S} {r : (Int32 × jb_Mi)} (h : zf_65 x1 x2 x3 M = some r) (hK : (fun r : Int32 × jb_Mi => v = some (.int r.1) ∧ σ2 = (zE L, r.2, N)) r) : jb_V Γ d zq_65 0 [some (.ref 57), some (.int x1), some (.int x2), some (.int x3)] [] (zE L, M, N) v σ2 := by
  unfold zf_65 at h
  refine jb_seg 1 (pc' := 1) (ls' := [some (.ref 57), some (.int x1), some (.int x2), some (.int x3)]) (st' := [(.int x1)]) (σ' := (zE L, M, N)) (G := []) rfl trivial ?_
  refine jb_lsw [(42, 68), (43, 60), (45, 64), (60, 72), (61, 94), (62, 83)] 105 rfl (by decide +kernel) (by decide +kernel) ?_
  refine jb_swc (fun c => ?_) (fun c => ?_)
  · replace h := (if_pos c).symm.trans h
    refine jb_seg 3 (pc' := 71) (ls' := [some (.ref 57), some (.int x1), some (.int x2), some (.int x3)]) (st' := [(.int (x2 * x3))]) (σ' := (zE L, M, N)) (G := []) rfl trivial ?_
    obtain rfl := Option.some.inj h
    obtain ⟨rfl, rfl⟩ := hK
    exact jb_reti rfl rfl
  · replace h := (if_neg c).symm.trans h
    refine jb_swc (fun c => ?_) (fun c => ?_)
    · replace h := (if_pos c).symm.trans h
      refine jb_seg 3 (pc' := 63) (ls' := [some (.ref 57), some (.int x1), some (.int x2), some (.int x3)]) (st' := [(.int (x2 + x3))]) (σ' := (zE L, M, N)) (G := []) rfl trivial ?_
      obtain rfl := Option.some.inj h
      obtain ⟨rfl, rfl⟩ := hK
      exact jb_reti rfl rfl
    · replace h := (if_neg c).symm.trans h
      refine jb_swc (fun c => ?_) (fun c => ?_)
      · replace h := (if_pos c).symm.trans h
        refine jb_seg 3 (pc' := 67) (ls' := [some (.ref 57), some (.int x1), some (.int x2), some (.int x3)]) (st' := [(.int (x2 - x3))]) (σ' := (zE L, M, N)) (G := []) rfl trivial ?_
        obtain rfl := Option.some.inj h
        obtain ⟨rfl, rfl⟩ := hK
        exact jb_reti rfl rfl
      · replace h := (if_neg c).symm.trans h
        refine jb_swc (fun c => ?_) (fun c => ?_)
        · replace h := (if_pos c).symm.trans h
          refine jb_seg 3 (pc' := (if x2 < x3 then 77 else 81)) (ls' := [some (.ref 57), some (.int x1), some (.int x2), some (.int x3)]) (st' := []) (σ' := (zE L, M, N)) (G := []) rfl trivial ?_
          refine jb_ite (fun c => ?_) (fun c => ?_)
          · replace h := (if_pos c).symm.trans h
            refine jb_seg 2 (pc' := 82) (ls' := [some (.ref 57), some (.int x1), some (.int x2), some (.int x3)]) (st' := [(.int 1)]) (σ' := (zE L, M, N)) (G := []) rfl trivial ?_
            obtain rfl := Option.some.inj h
            obtain ⟨rfl, rfl⟩ := hK
            exact jb_reti rfl rfl
          · replace h := (if_neg c).symm.trans h
            refine jb_seg 1 (pc' := 82) (ls' := [some (.ref 57), some (.int x1), some (.int x2), some (.int x3)]) (st' := [(.int 0)]) (σ' := (zE L, M, N)) (G := []) rfl trivial ?_
            obtain rfl := Option.some.inj h
            obtain ⟨rfl, rfl⟩ := hK
            exact jb_reti rfl rfl
        · replace h := (if_neg c).symm.trans h
          refine jb_swc (fun c => ?_) (fun c => ?_)
          · replace h := (if_pos c).symm.trans h
            refine jb_seg 3 (pc' := (if x2 = x3 then 99 else 103)) (ls' := [some (.ref 57), some (.int x1), some (.int x2), some (.int x3)]) (st' := []) (σ' := (zE L, M, N)) (G := []) rfl trivial ?_
            refine jb_ite (fun c => ?_) (fun c => ?_)
            · replace h := (if_pos c).symm.trans h
              refine jb_seg 2 (pc' := 104) (ls' := [some (.ref 57), some (.int x1), some (.int x2), some (.int x3)]) (st' := [(.int 1)]) (σ' := (zE L, M, N)) (G := []) rfl trivial ?_
              obtain rfl := Option.some.inj h
              obtain ⟨rfl, rfl⟩ := hK
              exact jb_reti rfl rfl
            · replace h := (if_neg c).symm.trans h
              refine jb_seg 1 (pc' := 104) (ls' := [some (.ref 57), some (.int x1), some (.int x2), some (.int x3)]) (st' := [(.int 0)]) (σ' := (zE L, M, N)) (G := []) rfl trivial ?_
              obtain rfl := Option.some.inj h
              obtain ⟨rfl, rfl⟩ := hK
              exact jb_reti rfl rfl
          · replace h := (if_neg c).symm.trans h
            refine jb_swc (fun c => ?_) (fun c => ?_)
            · replace h := (if_pos c).symm.trans h
              refine jb_seg 3 (pc' := (if x3 < x2 then 88 else 92)) (ls' := [some (.ref 57), some (.int x1), some (.int x2), some (.int x3)]) (st' := []) (σ' := (zE L, M, N)) (G := []) rfl trivial ?_
              refine jb_ite (fun c => ?_) (fun c => ?_)
              · replace h := (if_pos c).symm.trans h
                refine jb_seg 2 (pc' := 93) (ls' := [some (.ref 57), some (.int x1), some (.int x2), some (.int x3)]) (st' := [(.int 1)]) (σ' := (zE L, M, N)) (G := []) rfl trivial ?_
                obtain rfl := Option.some.inj h
                obtain ⟨rfl, rfl⟩ := hK
                exact jb_reti rfl rfl
              · replace h := (if_neg c).symm.trans h
                refine jb_seg 1 (pc' := 93) (ls' := [some (.ref 57), some (.int x1), some (.int x2), some (.int x3)]) (st' := [(.int 0)]) (σ' := (zE L, M, N)) (G := []) rfl trivial ?_
                obtain rfl := Option.some.inj h
                obtain ⟨rfl, rfl⟩ := hK
                exact jb_reti rfl rfl
            · replace h := (if_neg c).symm.trans h
              refine jb_swn ?_
              refine jb_seg 2 (pc' := (if x3 = 0 then 109 else 116)) (ls' := [some (.ref 57), some (.int x1), some (.int x2), some (.int x3)]) (st' := []) (σ' := (zE L, M, N)) (G := []) rfl trivial ?_
              refine jb_ite (fun c => ?_) (fun c => ?_)
              · replace h := (if_pos c).symm.trans h
                refine jb_seg 4 (pc' := 115) (ls' := [some (.ref 57), some (.int x1), some (.int x2), some (.int x3)]) (st' := [(.int 0)]) (σ' := (zE L, (jb_up M 57 3 1), N)) (G := [(1 : Int32) = 0 ∨ (1 : Int32) = 1]) rfl (show (1 : Int32) = 0 ∨ (1 : Int32) = 1 from (by decide)) ?_
                obtain rfl := Option.some.inj h
                obtain ⟨rfl, rfl⟩ := hK
                exact jb_reti rfl rfl
              · replace h := (if_neg c).symm.trans h
                refine jb_seg 3 (pc' := (if x1 = 47 then 122 else 128)) (ls' := [some (.ref 57), some (.int x1), some (.int x2), some (.int x3)]) (st' := []) (σ' := (zE L, M, N)) (G := []) rfl trivial ?_
                refine jb_ite (fun c => ?_) (fun c => ?_)
                · replace h := (if_pos c).symm.trans h
                  obtain ⟨g1, h⟩ := jb_g0_of h
                  refine jb_seg 4 (pc' := 131) (ls' := [some (.ref 57), some (.int x1), some (.int x2), some (.int x3)]) (st' := [(.int (x2 / x3))]) (σ' := (zE L, M, N)) (G := [¬ (x3 : Int32) = 0]) rfl g1 ?_
                  obtain rfl := Option.some.inj h
                  obtain ⟨rfl, rfl⟩ := hK
                  exact jb_reti rfl rfl
                · replace h := (if_neg c).symm.trans h
                  obtain ⟨g2, h⟩ := jb_g0_of h
                  refine jb_seg 3 (pc' := 131) (ls' := [some (.ref 57), some (.int x1), some (.int x2), some (.int x3)]) (st' := [(.int (x2 - x2 / x3 * x3))]) (σ' := (zE L, M, N)) (G := [¬ (x3 : Int32) = 0]) rfl g2 ?_
                  obtain rfl := Option.some.inj h
                  obtain ⟨rfl, rfl⟩ := hK
                  exact jb_reti rfl rfl
theorem ze_65 {Γ : jb_G} {L : Nat} {d : Nat} (x1 : Int32) (x2 : Int32) (x3 : Int32) (M : jb_Mi) (N : jb_Ml) {r : (Int32 × jb_Mi)} (h : zf_65 x1 x2 x3 M = some r) : jb_V Γ d zq_65 0 (jb_en 4 [(.ref 57), (.int x1), (.int x2), (.int x3)]) [] (zE L, M, N) (some (.int r.1)) (zE L, r.2, N) := zg_65 x1 x2 x3 M N h ⟨rfl, rfl⟩
-- X4_run
set_option maxRecDepth 20000 in
theorem zg_66_J278 {Γ : jb_G} {L : Nat} {d : Nat} (hd : 1 ≤ d) (x2 : Int32) (x3 : Int32) (x4 : Int32) (M : jb_Mi) (N : jb_Ml) {v : Option Value} {σ2 : jb_S} {r : ((Int32 × Int32 × Int32 × jb_Mi) ⊕ (Int32 × jb_Mi))} (h : zf_66_J278 x2 x3 x4 M = some r) (hK : (jb_K (fun s : Int32 × Int32 × Int32 × jb_Mi => jb_V Γ d zq_66 12 [some (.ref 57), none, some (.int s.1), some (.int s.2.1), some (.int s.2.2.1), none, none, none] [] (zE L, s.2.2.2, N) v σ2) (fun r : Int32 × jb_Mi => v = some (.int r.1) ∧ σ2 = (zE L, r.2, N))) r) : jb_V Γ d zq_66 278 [some (.ref 57), none, some (.int x2), some (.int x3), some (.int x4), none, none, none] [] (zE L, M, N) v σ2 := by
  obtain ⟨d, rfl⟩ : ∃ e, d = e + 1 := ⟨d - 1, by omega⟩
  unfold zf_66_J278 at h
  refine jb_seg 2 (pc' := 12) (ls' := [some (.ref 57), none, some (.int x2), some (.int x3), some (.int (x4 + 1)), none, none, none]) (st' := []) (σ' := (zE L, M, N)) (G := []) rfl trivial ?_
  obtain rfl := Option.some.inj h
  exact jb_mask [true, false, true, true, true, false, false, false] rfl hK
set_option maxRecDepth 20000 in
theorem zg_66_J116 {Γ : jb_G} {L : Nat} {d : Nat} (hd : 1 ≤ d) (x2 : Int32) (x3 : Int32) (x4 : Int32) (s1 : Int32) (s2 : Int32) (M : jb_Mi) (N : jb_Ml) {v : Option Value} {σ2 : jb_S} {r : ((Int32 × Int32 × Int32 × jb_Mi) ⊕ (Int32 × jb_Mi))} (h : zf_66_J116 x2 x3 x4 s1 s2 M = some r) (hK : (jb_K (fun s : Int32 × Int32 × Int32 × jb_Mi => jb_V Γ d zq_66 12 [some (.ref 57), none, some (.int s.1), some (.int s.2.1), some (.int s.2.2.1), none, none, none] [] (zE L, s.2.2.2, N) v σ2) (fun r : Int32 × jb_Mi => v = some (.int r.1) ∧ σ2 = (zE L, r.2, N))) r) : jb_V Γ d zq_66 116 [some (.ref 57), none, some (.int x2), some (.int x3), some (.int x4), none, none, none] [(.int s2), (.int s1), (.ref 59)] (zE L, M, N) v σ2 := by
  obtain ⟨d, rfl⟩ : ∃ e, d = e + 1 := ⟨d - 1, by omega⟩
  unfold zf_66_J116 at h
  obtain ⟨g3, h⟩ := jb_gd_of h
  refine jb_seg 2 (pc' := 278) (ls' := [some (.ref 57), none, some (.int x2), some (.int x3), some (.int x4), none, none, none]) (st' := []) (σ' := (zE L, (jb_up M 59 s1.toNatClampNeg s2), N)) (G := [vp_in s1 32]) rfl g3 ?_
  exact jb_mask [true, false, true, true, true, false, false, false] rfl (zg_66_J278 hd x2 x3 x4 (jb_up M 59 s1.toNatClampNeg s2) N h hK)
set_option maxRecDepth 20000 in
theorem zg_66_J81 {Γ : jb_G} {L : Nat} {d : Nat} (hd : 1 ≤ d) (x2 : Int32) (x3 : Int32) (x4 : Int32) (x5 : Int32) (x6 : Int32) (M : jb_Mi) (N : jb_Ml) {v : Option Value} {σ2 : jb_S} {r : ((Int32 × Int32 × Int32 × jb_Mi) ⊕ (Int32 × jb_Mi))} (h : zf_66_J81 x2 x3 x4 x5 x6 M = some r) (hK : (jb_K (fun s : Int32 × Int32 × Int32 × jb_Mi => jb_V Γ d zq_66 12 [some (.ref 57), none, some (.int s.1), some (.int s.2.1), some (.int s.2.2.1), none, none, none] [] (zE L, s.2.2.2, N) v σ2) (fun r : Int32 × jb_Mi => v = some (.int r.1) ∧ σ2 = (zE L, r.2, N))) r) : jb_V Γ d zq_66 81 [some (.ref 57), none, some (.int x2), some (.int x3), some (.int x4), some (.int x5), some (.int x6), none] [] (zE L, M, N) v σ2 := by
  obtain ⟨d, rfl⟩ : ∃ e, d = e + 1 := ⟨d - 1, by omega⟩
  unfold zf_66_J81 at h
  refine jb_seg 5 (pc' := (if (x2 + 1) < 32 then 91 else 89)) (ls' := [some (.ref 57), none, some (.int x2), some (.int x3), some (.int x4), some (.int x5), some (.int x6), none]) (st' := []) (σ' := (zE L, M, N)) (G := []) rfl trivial ?_
  refine jb_ite (fun c => ?_) (fun c => ?_)
  · replace h := (if_pos c).symm.trans h
    refine jb_seg 7 (pc' := (if x5 = 1 then 105 else 110)) (ls' := [some (.ref 57), none, some (.int (x2 + 1)), some (.int x3), some (.int x4), some (.int x5), some (.int x6), none]) (st' := [(.int (x2 + 1)), (.ref 59)]) (σ' := (zE L, M, N)) (G := []) rfl trivial ?_
    refine jb_ite (fun c => ?_) (fun c => ?_)
    · replace h := (if_pos c).symm.trans h
      refine jb_seg 2 (pc' := 116) (ls' := [some (.ref 57), none, some (.int (x2 + 1)), some (.int x3), some (.int x4), some (.int x5), some (.int x6), none]) (st' := [(.int x6), (.int (x2 + 1)), (.ref 59)]) (σ' := (zE L, M, N)) (G := []) rfl trivial ?_
      exact jb_mask [true, false, true, true, true, false, false, false] rfl (zg_66_J116 hd (x2 + 1) x3 x4 (x2 + 1) x6 M N h hK)
    · replace h := (if_neg c).symm.trans h
      refine jb_seg 2 (pc' := 113) (ls' := [some (.ref 57), none, some (.int (x2 + 1)), some (.int x3), some (.int x4), some (.int x5), some (.int x6), none]) (st' := [(.int x6), (.ref 57), (.int (x2 + 1)), (.ref 59)]) (σ' := (zE L, M, N)) (G := []) rfl trivial ?_
      obtain ⟨q4, h4, h⟩ := jb_bd_of h
      refine jb_callV (q' := zq_64) (As := [(.int x6)]) (rest := [(.int (x2 + 1)), (.ref 59)]) (σ1 := (zE L, M, N)) (v := some (.int q4)) rfl rfl zp_64 rfl (Nat.le_of_ble_eq_true rfl) (jb_cat rfl) (Nat.le_of_ble_eq_true rfl) (Nat.le_of_ble_eq_true rfl) (Or.inl rfl) rfl (ze_64 x6 M N h4) ?_
      exact jb_mask [true, false, true, true, true, false, false, false] rfl (zg_66_J116 hd (x2 + 1) x3 x4 (x2 + 1) q4 M N h hK)
  · replace h := (if_neg c).symm.trans h
    refine jb_seg 1 (pc' := 90) (ls' := [some (.ref 57), none, some (.int x2), some (.int x3), some (.int x4), some (.int x5), some (.int x6), none]) (st' := [(.int 0)]) (σ' := (zE L, M, N)) (G := []) rfl trivial ?_
    obtain rfl := Option.some.inj h
    obtain ⟨rfl, rfl⟩ := hK
    exact jb_reti rfl rfl
set_option maxRecDepth 20000 in
theorem zg_66_J163 {Γ : jb_G} {L : Nat} {d : Nat} (hd : 1 ≤ d) (x2 : Int32) (x3 : Int32) (x4 : Int32) (s1 : Int32) (s2 : Int32) (M : jb_Mi) (N : jb_Ml) {v : Option Value} {σ2 : jb_S} {r : ((Int32 × Int32 × Int32 × jb_Mi) ⊕ (Int32 × jb_Mi))} (h : zf_66_J163 x2 x3 x4 s1 s2 M = some r) (hK : (jb_K (fun s : Int32 × Int32 × Int32 × jb_Mi => jb_V Γ d zq_66 12 [some (.ref 57), none, some (.int s.1), some (.int s.2.1), some (.int s.2.2.1), none, none, none] [] (zE L, s.2.2.2, N) v σ2) (fun r : Int32 × jb_Mi => v = some (.int r.1) ∧ σ2 = (zE L, r.2, N))) r) : jb_V Γ d zq_66 163 [some (.ref 57), none, some (.int x2), some (.int x3), some (.int x4), none, none, none] [(.int s2), (.int s1), (.ref 59)] (zE L, M, N) v σ2 := by
  obtain ⟨d, rfl⟩ : ∃ e, d = e + 1 := ⟨d - 1, by omega⟩
  unfold zf_66_J163 at h
  obtain ⟨g7, h⟩ := jb_gd_of h
  refine jb_seg 2 (pc' := 278) (ls' := [some (.ref 57), none, some (.int x2), some (.int x3), some (.int x4), none, none, none]) (st' := []) (σ' := (zE L, (jb_up M 59 s1.toNatClampNeg s2), N)) (G := [vp_in s1 32]) rfl g7 ?_
  exact jb_mask [true, false, true, true, true, false, false, false] rfl (zg_66_J278 hd x2 x3 x4 (jb_up M 59 s1.toNatClampNeg s2) N h hK)
set_option maxRecDepth 20000 in
theorem zg_66_J238 {Γ : jb_G} {L : Nat} {d : Nat} (hd : 1 ≤ d) (x3 : Int32) (x4 : Int32) (s0 : Int32) (M : jb_Mi) (N : jb_Ml) {v : Option Value} {σ2 : jb_S} {r : ((Int32 × Int32 × Int32 × jb_Mi) ⊕ (Int32 × jb_Mi))} (h : zf_66_J238 x3 x4 s0 M = some r) (hK : (jb_K (fun s : Int32 × Int32 × Int32 × jb_Mi => jb_V Γ d zq_66 12 [some (.ref 57), none, some (.int s.1), some (.int s.2.1), some (.int s.2.2.1), none, none, none] [] (zE L, s.2.2.2, N) v σ2) (fun r : Int32 × jb_Mi => v = some (.int r.1) ∧ σ2 = (zE L, r.2, N))) r) : jb_V Γ d zq_66 238 [some (.ref 57), none, none, some (.int x3), some (.int x4), none, none, none] [(.int s0)] (zE L, M, N) v σ2 := by
  obtain ⟨d, rfl⟩ : ∃ e, d = e + 1 := ⟨d - 1, by omega⟩
  unfold zf_66_J238 at h
  refine jb_seg 2 (pc' := 278) (ls' := [some (.ref 57), none, some (.int s0), some (.int x3), some (.int x4), none, none, none]) (st' := []) (σ' := (zE L, M, N)) (G := []) rfl trivial ?_
  exact jb_mask [true, false, true, true, true, false, false, false] rfl (zg_66_J278 hd s0 x3 x4 M N h hK)
set_option maxRecDepth 20000 in
theorem zg_66_J225 {Γ : jb_G} {L : Nat} {d : Nat} (hd : 1 ≤ d) (x2 : Int32) (x4 : Int32) (x7 : Int32) (s0 : Int32) (M : jb_Mi) (N : jb_Ml) {v : Option Value} {σ2 : jb_S} {r : ((Int32 × Int32 × Int32 × jb_Mi) ⊕ (Int32 × jb_Mi))} (h : zf_66_J225 x2 x4 x7 s0 M = some r) (hK : (jb_K (fun s : Int32 × Int32 × Int32 × jb_Mi => jb_V Γ d zq_66 12 [some (.ref 57), none, some (.int s.1), some (.int s.2.1), some (.int s.2.2.1), none, none, none] [] (zE L, s.2.2.2, N) v σ2) (fun r : Int32 × jb_Mi => v = some (.int r.1) ∧ σ2 = (zE L, r.2, N))) r) : jb_V Γ d zq_66 225 [some (.ref 57), none, some (.int x2), none, some (.int x4), none, none, some (.int x7)] [(.int s0)] (zE L, M, N) v σ2 := by
  obtain ⟨d, rfl⟩ : ∃ e, d = e + 1 := ⟨d - 1, by omega⟩
  unfold zf_66_J225 at h
  refine jb_seg 3 (pc' := (if x7 = 0 then 235 else 231)) (ls' := [some (.ref 57), none, some (.int x2), some (.int s0), some (.int x4), none, none, some (.int x7)]) (st' := []) (σ' := (zE L, M, N)) (G := []) rfl trivial ?_
  refine jb_ite (fun c => ?_) (fun c => ?_)
  · replace h := (if_pos c).symm.trans h
    refine jb_seg 3 (pc' := 238) (ls' := [some (.ref 57), none, some (.int x2), some (.int s0), some (.int x4), none, none, some (.int x7)]) (st' := [(.int (x2 - 1))]) (σ' := (zE L, M, N)) (G := []) rfl trivial ?_
    exact jb_mask [true, false, false, true, true, false, false, false] rfl (zg_66_J238 hd s0 x4 (x2 - 1) M N h hK)
  · replace h := (if_neg c).symm.trans h
    refine jb_seg 2 (pc' := 238) (ls' := [some (.ref 57), none, some (.int x2), some (.int s0), some (.int x4), none, none, some (.int x7)]) (st' := [(.int x2)]) (σ' := (zE L, M, N)) (G := []) rfl trivial ?_
    exact jb_mask [true, false, false, true, true, false, false, false] rfl (zg_66_J238 hd s0 x4 x2 M N h hK)
set_option maxRecDepth 20000 in
theorem zg_66_J212 {Γ : jb_G} {L : Nat} {d : Nat} (hd : 1 ≤ d) (x2 : Int32) (x3 : Int32) (x4 : Int32) (x6 : Int32) (s0 : Int32) (M : jb_Mi) (N : jb_Ml) {v : Option Value} {σ2 : jb_S} {r : ((Int32 × Int32 × Int32 × jb_Mi) ⊕ (Int32 × jb_Mi))} (h : zf_66_J212 x2 x3 x4 x6 s0 M = some r) (hK : (jb_K (fun s : Int32 × Int32 × Int32 × jb_Mi => jb_V Γ d zq_66 12 [some (.ref 57), none, some (.int s.1), some (.int s.2.1), some (.int s.2.2.1), none, none, none] [] (zE L, s.2.2.2, N) v σ2) (fun r : Int32 × jb_Mi => v = some (.int r.1) ∧ σ2 = (zE L, r.2, N))) r) : jb_V Γ d zq_66 212 [some (.ref 57), none, some (.int x2), some (.int x3), some (.int x4), none, some (.int x6), none] [(.int s0)] (zE L, M, N) v σ2 := by
  obtain ⟨d, rfl⟩ : ∃ e, d = e + 1 := ⟨d - 1, by omega⟩
  unfold zf_66_J212 at h
  refine jb_seg 3 (pc' := (if s0 = 0 then 224 else 219)) (ls' := [some (.ref 57), none, some (.int x2), some (.int x3), some (.int x4), none, some (.int x6), some (.int s0)]) (st' := []) (σ' := (zE L, M, N)) (G := []) rfl trivial ?_
  refine jb_ite (fun c => ?_) (fun c => ?_)
  · replace h := (if_pos c).symm.trans h
    refine jb_seg 1 (pc' := 225) (ls' := [some (.ref 57), none, some (.int x2), some (.int x3), some (.int x4), none, some (.int x6), some (.int s0)]) (st' := [(.int x3)]) (σ' := (zE L, M, N)) (G := []) rfl trivial ?_
    exact jb_mask [true, false, true, false, true, false, false, true] rfl (zg_66_J225 hd x2 x4 s0 x3 M N h hK)
  · replace h := (if_neg c).symm.trans h
    refine jb_seg 2 (pc' := 225) (ls' := [some (.ref 57), none, some (.int x2), some (.int x3), some (.int x4), none, some (.int x6), some (.int s0)]) (st' := [(.int x6)]) (σ' := (zE L, M, N)) (G := []) rfl trivial ?_
    exact jb_mask [true, false, true, false, true, false, false, true] rfl (zg_66_J225 hd x2 x4 s0 x6 M N h hK)
set_option maxRecDepth 20000 in
theorem zg_66_J204 {Γ : jb_G} {L : Nat} {d : Nat} (hd : 1 ≤ d) (x2 : Int32) (x3 : Int32) (x4 : Int32) (x6 : Int32) (s0 : Int32) (s1 : Int32) (M : jb_Mi) (N : jb_Ml) {v : Option Value} {σ2 : jb_S} {r : ((Int32 × Int32 × Int32 × jb_Mi) ⊕ (Int32 × jb_Mi))} (h : zf_66_J204 x2 x3 x4 x6 s0 s1 M = some r) (hK : (jb_K (fun s : Int32 × Int32 × Int32 × jb_Mi => jb_V Γ d zq_66 12 [some (.ref 57), none, some (.int s.1), some (.int s.2.1), some (.int s.2.2.1), none, none, none] [] (zE L, s.2.2.2, N) v σ2) (fun r : Int32 × jb_Mi => v = some (.int r.1) ∧ σ2 = (zE L, r.2, N))) r) : jb_V Γ d zq_66 204 [some (.ref 57), none, some (.int x2), some (.int x3), some (.int x4), none, some (.int x6), none] [(.int s1), (.int s0)] (zE L, M, N) v σ2 := by
  obtain ⟨d, rfl⟩ : ∃ e, d = e + 1 := ⟨d - 1, by omega⟩
  unfold zf_66_J204 at h
  refine jb_seg 1 (pc' := (if s0 = s1 then 207 else 211)) (ls' := [some (.ref 57), none, some (.int x2), some (.int x3), some (.int x4), none, some (.int x6), none]) (st' := []) (σ' := (zE L, M, N)) (G := []) rfl trivial ?_
  refine jb_ite (fun c => ?_) (fun c => ?_)
  · replace h := (if_pos c).symm.trans h
    refine jb_seg 2 (pc' := 212) (ls' := [some (.ref 57), none, some (.int x2), some (.int x3), some (.int x4), none, some (.int x6), none]) (st' := [(.int 1)]) (σ' := (zE L, M, N)) (G := []) rfl trivial ?_
    exact jb_mask [true, false, true, true, true, false, true, false] rfl (zg_66_J212 hd x2 x3 x4 x6 1 M N h hK)
  · replace h := (if_neg c).symm.trans h
    refine jb_seg 1 (pc' := 212) (ls' := [some (.ref 57), none, some (.int x2), some (.int x3), some (.int x4), none, some (.int x6), none]) (st' := [(.int 0)]) (σ' := (zE L, M, N)) (G := []) rfl trivial ?_
    exact jb_mask [true, false, true, true, true, false, true, false] rfl (zg_66_J212 hd x2 x3 x4 x6 0 M N h hK)
set_option maxRecDepth 20000 in
theorem zg_66_J193 {Γ : jb_G} {L : Nat} {d : Nat} (hd : 1 ≤ d) (x2 : Int32) (x3 : Int32) (x4 : Int32) (x5 : Int32) (x6 : Int32) (s0 : Int32) (M : jb_Mi) (N : jb_Ml) {v : Option Value} {σ2 : jb_S} {r : ((Int32 × Int32 × Int32 × jb_Mi) ⊕ (Int32 × jb_Mi))} (h : zf_66_J193 x2 x3 x4 x5 x6 s0 M = some r) (hK : (jb_K (fun s : Int32 × Int32 × Int32 × jb_Mi => jb_V Γ d zq_66 12 [some (.ref 57), none, some (.int s.1), some (.int s.2.1), some (.int s.2.2.1), none, none, none] [] (zE L, s.2.2.2, N) v σ2) (fun r : Int32 × jb_Mi => v = some (.int r.1) ∧ σ2 = (zE L, r.2, N))) r) : jb_V Γ d zq_66 193 [some (.ref 57), none, some (.int x2), some (.int x3), some (.int x4), some (.int x5), some (.int x6), none] [(.int s0)] (zE L, M, N) v σ2 := by
  obtain ⟨d, rfl⟩ : ∃ e, d = e + 1 := ⟨d - 1, by omega⟩
  unfold zf_66_J193 at h
  refine jb_seg 3 (pc' := (if x5 = 5 then 199 else 203)) (ls' := [some (.ref 57), none, some (.int x2), some (.int x3), some (.int x4), some (.int x5), some (.int x6), none]) (st' := [(.int s0)]) (σ' := (zE L, M, N)) (G := []) rfl trivial ?_
  refine jb_ite (fun c => ?_) (fun c => ?_)
  · replace h := (if_pos c).symm.trans h
    refine jb_seg 2 (pc' := 204) (ls' := [some (.ref 57), none, some (.int x2), some (.int x3), some (.int x4), some (.int x5), some (.int x6), none]) (st' := [(.int 1), (.int s0)]) (σ' := (zE L, M, N)) (G := []) rfl trivial ?_
    exact jb_mask [true, false, true, true, true, false, true, false] rfl (zg_66_J204 hd x2 x3 x4 x6 s0 1 M N h hK)
  · replace h := (if_neg c).symm.trans h
    refine jb_seg 1 (pc' := 204) (ls' := [some (.ref 57), none, some (.int x2), some (.int x3), some (.int x4), some (.int x5), some (.int x6), none]) (st' := [(.int 0), (.int s0)]) (σ' := (zE L, M, N)) (G := []) rfl trivial ?_
    exact jb_mask [true, false, true, true, true, false, true, false] rfl (zg_66_J204 hd x2 x3 x4 x6 s0 0 M N h hK)
set_option maxRecDepth 20000 in
theorem zg_66_J179 {Γ : jb_G} {L : Nat} {d : Nat} (hd : 1 ≤ d) (x2 : Int32) (x3 : Int32) (x4 : Int32) (x5 : Int32) (x6 : Int32) (M : jb_Mi) (N : jb_Ml) {v : Option Value} {σ2 : jb_S} {r : ((Int32 × Int32 × Int32 × jb_Mi) ⊕ (Int32 × jb_Mi))} (h : zf_66_J179 x2 x3 x4 x5 x6 M = some r) (hK : (jb_K (fun s : Int32 × Int32 × Int32 × jb_Mi => jb_V Γ d zq_66 12 [some (.ref 57), none, some (.int s.1), some (.int s.2.1), some (.int s.2.2.1), none, none, none] [] (zE L, s.2.2.2, N) v σ2) (fun r : Int32 × jb_Mi => v = some (.int r.1) ∧ σ2 = (zE L, r.2, N))) r) : jb_V Γ d zq_66 179 [some (.ref 57), none, some (.int x2), some (.int x3), some (.int x4), some (.int x5), some (.int x6), none] [] (zE L, M, N) v σ2 := by
  obtain ⟨d, rfl⟩ : ∃ e, d = e + 1 := ⟨d - 1, by omega⟩
  unfold zf_66_J179 at h
  obtain ⟨g8, h⟩ := jb_gd_of h
  refine jb_seg 5 (pc' := (if (M 59 x2.toNatClampNeg) = 0 then 192 else 188)) (ls' := [some (.ref 57), none, some (.int x2), some (.int x3), some (.int x4), some (.int x5), some (.int x6), none]) (st' := []) (σ' := (zE L, M, N)) (G := [vp_in x2 32]) rfl g8 ?_
  refine jb_ite (fun c => ?_) (fun c => ?_)
  · replace h := (if_pos c).symm.trans h
    refine jb_seg 1 (pc' := 193) (ls' := [some (.ref 57), none, some (.int x2), some (.int x3), some (.int x4), some (.int x5), some (.int x6), none]) (st' := [(.int 0)]) (σ' := (zE L, M, N)) (G := []) rfl trivial ?_
    exact jb_mask [true, false, true, true, true, true, true, false] rfl (zg_66_J193 hd x2 x3 x4 x5 x6 0 M N h hK)
  · replace h := (if_neg c).symm.trans h
    refine jb_seg 2 (pc' := 193) (ls' := [some (.ref 57), none, some (.int x2), some (.int x3), some (.int x4), some (.int x5), some (.int x6), none]) (st' := [(.int 1)]) (σ' := (zE L, M, N)) (G := []) rfl trivial ?_
    exact jb_mask [true, false, true, true, true, true, true, false] rfl (zg_66_J193 hd x2 x3 x4 x5 x6 1 M N h hK)
set_option maxRecDepth 20000 in
theorem zg_66_H12 {Γ : jb_G} {L : Nat} {d : Nat} (hd : 1 ≤ d) (N : jb_Ml) (s : Int32 × Int32 × Int32 × jb_Mi) {v : Option Value} {σ2 : jb_S} {r : ((Int32 × Int32 × Int32 × jb_Mi) ⊕ (Int32 × jb_Mi))} (h : zf_66_H12 s = some r) (hK : (jb_K (fun s : Int32 × Int32 × Int32 × jb_Mi => jb_V Γ d zq_66 12 [some (.ref 57), none, some (.int s.1), some (.int s.2.1), some (.int s.2.2.1), none, none, none] [] (zE L, s.2.2.2, N) v σ2) (fun r : Int32 × jb_Mi => v = some (.int r.1) ∧ σ2 = (zE L, r.2, N))) r) : jb_V Γ d zq_66 12 [some (.ref 57), none, some (.int s.1), some (.int s.2.1), some (.int s.2.2.1), none, none, none] [] (zE L, s.2.2.2, N) v σ2 := by
  obtain ⟨d, rfl⟩ : ∃ e, d = e + 1 := ⟨d - 1, by omega⟩
  unfold zf_66_H12 at h
  refine jb_seg 3 (pc' := (if s.2.2.1 < 240 then 20 else 284)) (ls' := [some (.ref 57), none, some (.int s.1), some (.int s.2.1), some (.int s.2.2.1), none, none, none]) (st' := []) (σ' := (zE L, s.2.2.2, N)) (G := []) rfl trivial ?_
  refine jb_ite (fun c => ?_) (fun c => ?_)
  · replace h := (if_pos c).symm.trans h
    refine jb_seg 3 (pc' := (if (s.2.2.2 57 3) = 0 then 27 else 42)) (ls' := [some (.ref 57), none, some (.int s.1), some (.int s.2.1), some (.int s.2.2.1), none, none, none]) (st' := []) (σ' := (zE L, s.2.2.2, N)) (G := []) rfl trivial ?_
    refine jb_ite (fun c => ?_) (fun c => ?_)
    · replace h := (if_pos c).symm.trans h
      refine jb_seg 2 (pc' := (if s.2.1 < 0 then 42 else 31)) (ls' := [some (.ref 57), none, some (.int s.1), some (.int s.2.1), some (.int s.2.2.1), none, none, none]) (st' := []) (σ' := (zE L, s.2.2.2, N)) (G := []) rfl trivial ?_
      refine jb_ite (fun c => ?_) (fun c => ?_)
      · replace h := (if_pos c).symm.trans h
        refine jb_seg 1 (pc' := 43) (ls' := [some (.ref 57), none, some (.int s.1), some (.int s.2.1), some (.int s.2.2.1), none, none, none]) (st' := [(.int 0)]) (σ' := (zE L, s.2.2.2, N)) (G := []) rfl trivial ?_
        obtain rfl := Option.some.inj h
        obtain ⟨rfl, rfl⟩ := hK
        exact jb_reti rfl rfl
      · replace h := (if_neg c).symm.trans h
        refine jb_seg 5 (pc' := (if s.2.1 < (s.2.2.2 44 5) then 44 else 42)) (ls' := [some (.ref 57), none, some (.int s.1), some (.int s.2.1), some (.int s.2.2.1), none, none, none]) (st' := []) (σ' := (zE L, s.2.2.2, N)) (G := []) rfl trivial ?_
        refine jb_ite (fun c => ?_) (fun c => ?_)
        · replace h := (if_pos c).symm.trans h
          obtain ⟨g1, h⟩ := jb_gd_of h
          obtain ⟨g2, h⟩ := jb_gd_of h
          refine jb_seg 16 (pc' := (if (s.2.2.2 45 (s.2.1).toNatClampNeg) = 1 then 81 else 75)) (ls' := [some (.ref 57), none, some (.int s.1), some (.int (s.2.1 + 1)), some (.int s.2.2.1), some (.int (s.2.2.2 45 (s.2.1).toNatClampNeg)), some (.int (s.2.2.2 46 (s.2.1).toNatClampNeg)), none]) (st' := []) (σ' := (zE L, s.2.2.2, N)) (G := [vp_in s.2.1 240, vp_in s.2.1 240]) rfl ⟨g1, g2⟩ ?_
          refine jb_ite (fun c => ?_) (fun c => ?_)
          · replace h := (if_pos c).symm.trans h
            exact jb_mask [true, false, true, true, true, true, true, false] rfl (zg_66_J81 hd s.1 (s.2.1 + 1) s.2.2.1 (s.2.2.2 45 (s.2.1).toNatClampNeg) (s.2.2.2 46 (s.2.1).toNatClampNeg) s.2.2.2 N h hK)
          · replace h := (if_neg c).symm.trans h
            refine jb_seg 3 (pc' := (if (s.2.2.2 45 (s.2.1).toNatClampNeg) = 2 then 81 else 120)) (ls' := [some (.ref 57), none, some (.int s.1), some (.int (s.2.1 + 1)), some (.int s.2.2.1), some (.int (s.2.2.2 45 (s.2.1).toNatClampNeg)), some (.int (s.2.2.2 46 (s.2.1).toNatClampNeg)), none]) (st' := []) (σ' := (zE L, s.2.2.2, N)) (G := []) rfl trivial ?_
            refine jb_ite (fun c => ?_) (fun c => ?_)
            · replace h := (if_pos c).symm.trans h
              exact jb_mask [true, false, true, true, true, true, true, false] rfl (zg_66_J81 hd s.1 (s.2.1 + 1) s.2.2.1 (s.2.2.2 45 (s.2.1).toNatClampNeg) (s.2.2.2 46 (s.2.1).toNatClampNeg) s.2.2.2 N h hK)
            · replace h := (if_neg c).symm.trans h
              refine jb_seg 2 (pc' := (if s.1 < 0 then 124 else 126)) (ls' := [some (.ref 57), none, some (.int s.1), some (.int (s.2.1 + 1)), some (.int s.2.2.1), some (.int (s.2.2.2 45 (s.2.1).toNatClampNeg)), some (.int (s.2.2.2 46 (s.2.1).toNatClampNeg)), none]) (st' := []) (σ' := (zE L, s.2.2.2, N)) (G := []) rfl trivial ?_
              refine jb_ite (fun c => ?_) (fun c => ?_)
              · replace h := (if_pos c).symm.trans h
                refine jb_seg 1 (pc' := 125) (ls' := [some (.ref 57), none, some (.int s.1), some (.int (s.2.1 + 1)), some (.int s.2.2.1), some (.int (s.2.2.2 45 (s.2.1).toNatClampNeg)), some (.int (s.2.2.2 46 (s.2.1).toNatClampNeg)), none]) (st' := [(.int 0)]) (σ' := (zE L, s.2.2.2, N)) (G := []) rfl trivial ?_
                obtain rfl := Option.some.inj h
                obtain ⟨rfl, rfl⟩ := hK
                exact jb_reti rfl rfl
              · replace h := (if_neg c).symm.trans h
                refine jb_seg 2 (pc' := (if (s.2.2.2 45 (s.2.1).toNatClampNeg) = 0 then 131 else 138)) (ls' := [some (.ref 57), none, some (.int s.1), some (.int (s.2.1 + 1)), some (.int s.2.2.1), some (.int (s.2.2.2 45 (s.2.1).toNatClampNeg)), some (.int (s.2.2.2 46 (s.2.1).toNatClampNeg)), none]) (st' := []) (σ' := (zE L, s.2.2.2, N)) (G := []) rfl trivial ?_
                refine jb_ite (fun c => ?_) (fun c => ?_)
                · replace h := (if_pos c).symm.trans h
                  obtain ⟨g5, h⟩ := jb_gd_of h
                  refine jb_seg 4 (pc' := 137) (ls' := [some (.ref 57), none, some (.int s.1), some (.int (s.2.1 + 1)), some (.int s.2.2.1), some (.int (s.2.2.2 45 (s.2.1).toNatClampNeg)), some (.int (s.2.2.2 46 (s.2.1).toNatClampNeg)), none]) (st' := [(.int (s.2.2.2 59 (s.1).toNatClampNeg))]) (σ' := (zE L, s.2.2.2, N)) (G := [vp_in s.1 32]) rfl g5 ?_
                  obtain rfl := Option.some.inj h
                  obtain ⟨rfl, rfl⟩ := hK
                  exact jb_reti rfl rfl
                · replace h := (if_neg c).symm.trans h
                  refine jb_seg 3 (pc' := (if (s.2.2.2 45 (s.2.1).toNatClampNeg) = 3 then 144 else 167)) (ls' := [some (.ref 57), none, some (.int s.1), some (.int (s.2.1 + 1)), some (.int s.2.2.1), some (.int (s.2.2.2 45 (s.2.1).toNatClampNeg)), some (.int (s.2.2.2 46 (s.2.1).toNatClampNeg)), none]) (st' := []) (σ' := (zE L, s.2.2.2, N)) (G := []) rfl trivial ?_
                  refine jb_ite (fun c => ?_) (fun c => ?_)
                  · replace h := (if_pos c).symm.trans h
                    obtain ⟨g6, h⟩ := jb_gd_of h
                    refine jb_seg 8 (pc' := (if (s.2.2.2 59 (s.1).toNatClampNeg) = 0 then 158 else 162)) (ls' := [some (.ref 57), none, some (.int s.1), some (.int (s.2.1 + 1)), some (.int s.2.2.1), some (.int (s.2.2.2 45 (s.2.1).toNatClampNeg)), some (.int (s.2.2.2 46 (s.2.1).toNatClampNeg)), none]) (st' := [(.int s.1), (.ref 59)]) (σ' := (zE L, s.2.2.2, N)) (G := [vp_in s.1 32]) rfl g6 ?_
                    refine jb_ite (fun c => ?_) (fun c => ?_)
                    · replace h := (if_pos c).symm.trans h
                      refine jb_seg 2 (pc' := 163) (ls' := [some (.ref 57), none, some (.int s.1), some (.int (s.2.1 + 1)), some (.int s.2.2.1), some (.int (s.2.2.2 45 (s.2.1).toNatClampNeg)), some (.int (s.2.2.2 46 (s.2.1).toNatClampNeg)), none]) (st' := [(.int 1), (.int s.1), (.ref 59)]) (σ' := (zE L, s.2.2.2, N)) (G := []) rfl trivial ?_
                      exact jb_mask [true, false, true, true, true, false, false, false] rfl (zg_66_J163 hd s.1 (s.2.1 + 1) s.2.2.1 s.1 1 s.2.2.2 N h hK)
                    · replace h := (if_neg c).symm.trans h
                      refine jb_seg 1 (pc' := 163) (ls' := [some (.ref 57), none, some (.int s.1), some (.int (s.2.1 + 1)), some (.int s.2.2.1), some (.int (s.2.2.2 45 (s.2.1).toNatClampNeg)), some (.int (s.2.2.2 46 (s.2.1).toNatClampNeg)), none]) (st' := [(.int 0), (.int s.1), (.ref 59)]) (σ' := (zE L, s.2.2.2, N)) (G := []) rfl trivial ?_
                      exact jb_mask [true, false, true, true, true, false, false, false] rfl (zg_66_J163 hd s.1 (s.2.1 + 1) s.2.2.1 s.1 0 s.2.2.2 N h hK)
                  · replace h := (if_neg c).symm.trans h
                    refine jb_seg 3 (pc' := (if (s.2.2.2 45 (s.2.1).toNatClampNeg) = 4 then 179 else 173)) (ls' := [some (.ref 57), none, some (.int s.1), some (.int (s.2.1 + 1)), some (.int s.2.2.1), some (.int (s.2.2.2 45 (s.2.1).toNatClampNeg)), some (.int (s.2.2.2 46 (s.2.1).toNatClampNeg)), none]) (st' := []) (σ' := (zE L, s.2.2.2, N)) (G := []) rfl trivial ?_
                    refine jb_ite (fun c => ?_) (fun c => ?_)
                    · replace h := (if_pos c).symm.trans h
                      exact jb_mask [true, false, true, true, true, true, true, false] rfl (zg_66_J179 hd s.1 (s.2.1 + 1) s.2.2.1 (s.2.2.2 45 (s.2.1).toNatClampNeg) (s.2.2.2 46 (s.2.1).toNatClampNeg) s.2.2.2 N h hK)
                    · replace h := (if_neg c).symm.trans h
                      refine jb_seg 3 (pc' := (if (s.2.2.2 45 (s.2.1).toNatClampNeg) = 5 then 179 else 242)) (ls' := [some (.ref 57), none, some (.int s.1), some (.int (s.2.1 + 1)), some (.int s.2.2.1), some (.int (s.2.2.2 45 (s.2.1).toNatClampNeg)), some (.int (s.2.2.2 46 (s.2.1).toNatClampNeg)), none]) (st' := []) (σ' := (zE L, s.2.2.2, N)) (G := []) rfl trivial ?_
                      refine jb_ite (fun c => ?_) (fun c => ?_)
                      · replace h := (if_pos c).symm.trans h
                        exact jb_mask [true, false, true, true, true, true, true, false] rfl (zg_66_J179 hd s.1 (s.2.1 + 1) s.2.2.1 (s.2.2.2 45 (s.2.1).toNatClampNeg) (s.2.2.2 46 (s.2.1).toNatClampNeg) s.2.2.2 N h hK)
                      · replace h := (if_neg c).symm.trans h
                        refine jb_seg 3 (pc' := (if s.1 < 1 then 247 else 249)) (ls' := [some (.ref 57), none, some (.int s.1), some (.int (s.2.1 + 1)), some (.int s.2.2.1), some (.int (s.2.2.2 45 (s.2.1).toNatClampNeg)), some (.int (s.2.2.2 46 (s.2.1).toNatClampNeg)), none]) (st' := []) (σ' := (zE L, s.2.2.2, N)) (G := []) rfl trivial ?_
                        refine jb_ite (fun c => ?_) (fun c => ?_)
                        · replace h := (if_pos c).symm.trans h
                          refine jb_seg 1 (pc' := 248) (ls' := [some (.ref 57), none, some (.int s.1), some (.int (s.2.1 + 1)), some (.int s.2.2.1), some (.int (s.2.2.2 45 (s.2.1).toNatClampNeg)), some (.int (s.2.2.2 46 (s.2.1).toNatClampNeg)), none]) (st' := [(.int 0)]) (σ' := (zE L, s.2.2.2, N)) (G := []) rfl trivial ?_
                          obtain rfl := Option.some.inj h
                          obtain ⟨rfl, rfl⟩ := hK
                          exact jb_reti rfl rfl
                        · replace h := (if_neg c).symm.trans h
                          obtain ⟨g9, h⟩ := jb_gd_of h
                          obtain ⟨g10, h⟩ := jb_gd_of h
                          refine jb_seg 16 (pc' := 274) (ls' := [some (.ref 57), none, some (.int (s.1 + (-1))), some (.int (s.2.1 + 1)), some (.int s.2.2.1), some (.int (s.2.2.2 45 (s.2.1).toNatClampNeg)), some (.int (s.2.2.2 46 (s.2.1).toNatClampNeg)), none]) (st' := [(.int (s.2.2.2 59 (((s.1 + (-1)) + 1)).toNatClampNeg)), (.int (s.2.2.2 59 ((s.1 + (-1))).toNatClampNeg)), (.int (s.2.2.2 45 (s.2.1).toNatClampNeg)), (.ref 57), (.int (s.1 + (-1))), (.ref 59)]) (σ' := (zE L, s.2.2.2, N)) (G := [vp_in (s.1 + (-1)) 32, vp_in ((s.1 + (-1)) + 1) 32]) rfl ⟨g9, g10⟩ ?_
                          obtain ⟨q11, h11, h⟩ := jb_bd_of h
                          refine jb_callV (q' := zq_65) (As := [(.int (s.2.2.2 45 (s.2.1).toNatClampNeg)), (.int (s.2.2.2 59 ((s.1 + (-1))).toNatClampNeg)), (.int (s.2.2.2 59 (((s.1 + (-1)) + 1)).toNatClampNeg))]) (rest := [(.int (s.1 + (-1))), (.ref 59)]) (σ1 := (zE L, q11.2, N)) (v := some (.int q11.1)) rfl rfl zp_65 rfl (Nat.le_of_ble_eq_true rfl) (jb_cat rfl) (Nat.le_of_ble_eq_true rfl) (Nat.le_of_ble_eq_true rfl) (Or.inl rfl) rfl (ze_65 (s.2.2.2 45 (s.2.1).toNatClampNeg) (s.2.2.2 59 ((s.1 + (-1))).toNatClampNeg) (s.2.2.2 59 (((s.1 + (-1)) + 1)).toNatClampNeg) s.2.2.2 N h11) ?_
                          obtain ⟨g12, h⟩ := jb_gd_of h
                          refine jb_seg 1 (pc' := 278) (ls' := [some (.ref 57), none, some (.int (s.1 + (-1))), some (.int (s.2.1 + 1)), some (.int s.2.2.1), some (.int (s.2.2.2 45 (s.2.1).toNatClampNeg)), some (.int (s.2.2.2 46 (s.2.1).toNatClampNeg)), none]) (st' := []) (σ' := (zE L, (jb_up q11.2 59 ((s.1 + (-1))).toNatClampNeg q11.1), N)) (G := [vp_in (s.1 + (-1)) 32]) rfl g12 ?_
                          exact jb_mask [true, false, true, true, true, false, false, false] rfl (zg_66_J278 hd (s.1 + (-1)) (s.2.1 + 1) s.2.2.1 (jb_up q11.2 59 ((s.1 + (-1))).toNatClampNeg q11.1) N h hK)
        · replace h := (if_neg c).symm.trans h
          refine jb_seg 1 (pc' := 43) (ls' := [some (.ref 57), none, some (.int s.1), some (.int s.2.1), some (.int s.2.2.1), none, none, none]) (st' := [(.int 0)]) (σ' := (zE L, s.2.2.2, N)) (G := []) rfl trivial ?_
          obtain rfl := Option.some.inj h
          obtain ⟨rfl, rfl⟩ := hK
          exact jb_reti rfl rfl
    · replace h := (if_neg c).symm.trans h
      refine jb_seg 1 (pc' := 43) (ls' := [some (.ref 57), none, some (.int s.1), some (.int s.2.1), some (.int s.2.2.1), none, none, none]) (st' := [(.int 0)]) (σ' := (zE L, s.2.2.2, N)) (G := []) rfl trivial ?_
      obtain rfl := Option.some.inj h
      obtain ⟨rfl, rfl⟩ := hK
      exact jb_reti rfl rfl
  · replace h := (if_neg c).symm.trans h
    refine jb_seg 1 (pc' := 285) (ls' := [some (.ref 57), none, some (.int s.1), some (.int s.2.1), some (.int s.2.2.1), none, none, none]) (st' := [(.int 0)]) (σ' := (zE L, s.2.2.2, N)) (G := []) rfl trivial ?_
    obtain rfl := Option.some.inj h
    obtain ⟨rfl, rfl⟩ := hK
    exact jb_reti rfl rfl
theorem zg_66_H12L {Γ : jb_G} {L : Nat} {d : Nat} (hd : 1 ≤ d) (N : jb_Ml) {v : Option Value} {σ2 : jb_S} {s : Int32 × Int32 × Int32 × jb_Mi} {r : (Int32 × jb_Mi)} (h : jb_lp (zf_66_H12) s = some r) (hK : (fun r : Int32 × jb_Mi => v = some (.int r.1) ∧ σ2 = (zE L, r.2, N)) r) : jb_V Γ d zq_66 12 [some (.ref 57), none, some (.int s.1), some (.int s.2.1), some (.int s.2.2.1), none, none, none] [] (zE L, s.2.2.2, N) v σ2 := by
  exact @jb_lp_ind (Int32 × Int32 × Int32 × jb_Mi) ((Int32 × jb_Mi)) (zf_66_H12) (fun s => jb_V Γ d zq_66 12 [some (.ref 57), none, some (.int s.1), some (.int s.2.1), some (.int s.2.2.1), none, none, none] [] (zE L, s.2.2.2, N) v σ2) (fun r : Int32 × jb_Mi => v = some (.int r.1) ∧ σ2 = (zE L, r.2, N)) (fun s r h hk => zg_66_H12 hd N s h hk) s r h hK
set_option maxRecDepth 20000 in
theorem zg_66 {Γ : jb_G} {L : Nat} {d : Nat} (hd : 1 ≤ d) (x1 : Int32) (M : jb_Mi) (N : jb_Ml) {v : Option Value} {σ2 : jb_S} {r : (Int32 × jb_Mi)} (h : zf_66 x1 M = some r) (hK : (fun r : Int32 × jb_Mi => v = some (.int r.1) ∧ σ2 = (zE L, r.2, N)) r) : jb_V Γ d zq_66 0 [some (.ref 57), some (.int x1), none, none, none, none, none, none] [] (zE L, M, N) v σ2 := by
  obtain ⟨d, rfl⟩ : ∃ e, d = e + 1 := ⟨d - 1, by omega⟩
  unfold zf_66 at h
  refine jb_seg 9 (pc' := 12) (ls' := [some (.ref 57), some (.int x1), some (.int (-1)), some (.int x1), some (.int 0), none, none, none]) (st' := []) (σ' := (zE L, (jb_up M 57 3 0), N)) (G := [(0 : Int32) = 0 ∨ (0 : Int32) = 1]) rfl (show (0 : Int32) = 0 ∨ (0 : Int32) = 1 from (by decide)) ?_
  exact jb_mask [true, false, true, true, true, false, false, false] rfl (zg_66_H12L hd N h hK)
theorem ze_66 {Γ : jb_G} {L : Nat} {d : Nat} (hd : 1 ≤ d) (x1 : Int32) (M : jb_Mi) (N : jb_Ml) {r : (Int32 × jb_Mi)} (h : zf_66 x1 M = some r) : jb_V Γ d zq_66 0 (jb_en 8 [(.ref 57), (.int x1)]) [] (zE L, M, N) (some (.int r.1)) (zE L, r.2, N) := zg_66 hd x1 M N h ⟨rfl, rfl⟩
-- X4_ruleFor
set_option maxRecDepth 20000 in
theorem zg_67_J57 {Γ : jb_G} {L : Nat} {d : Nat} (hd : 2 ≤ d) (x1 : Int32) (x2 : Int32) (M : jb_Mi) (N : jb_Ml) {v : Option Value} {σ2 : jb_S} {r : ((Int32 × jb_Mi) ⊕ (Int32 × jb_Mi))} (h : zf_67_J57 x1 x2 M = some r) (hK : (jb_K (fun s : Int32 × jb_Mi => jb_V Γ d zq_67 2 [some (.ref 57), some (.int x1), some (.int s.1)] [] (zE L, s.2, N) v σ2) (fun r : Int32 × jb_Mi => v = some (.int r.1) ∧ σ2 = (zE L, r.2, N))) r) : jb_V Γ d zq_67 57 [some (.ref 57), some (.int x1), some (.int x2)] [] (zE L, M, N) v σ2 := by
  obtain ⟨d, rfl⟩ : ∃ e, d = e + 1 := ⟨d - 1, by omega⟩
  unfold zf_67_J57 at h
  refine jb_seg 2 (pc' := 2) (ls' := [some (.ref 57), some (.int x1), some (.int (x2 + 1))]) (st' := []) (σ' := (zE L, M, N)) (G := []) rfl trivial ?_
  obtain rfl := Option.some.inj h
  exact jb_mask [true, true, true] rfl hK
set_option maxRecDepth 20000 in
theorem zg_67_H2 {Γ : jb_G} {L : Nat} {d : Nat} (hd : 2 ≤ d) (x1 : Int32) (N : jb_Ml) (s : Int32 × jb_Mi) {v : Option Value} {σ2 : jb_S} {r : ((Int32 × jb_Mi) ⊕ (Int32 × jb_Mi))} (h : zf_67_H2 x1 s = some r) (hK : (jb_K (fun s : Int32 × jb_Mi => jb_V Γ d zq_67 2 [some (.ref 57), some (.int x1), some (.int s.1)] [] (zE L, s.2, N) v σ2) (fun r : Int32 × jb_Mi => v = some (.int r.1) ∧ σ2 = (zE L, r.2, N))) r) : jb_V Γ d zq_67 2 [some (.ref 57), some (.int x1), some (.int s.1)] [] (zE L, s.2, N) v σ2 := by
  obtain ⟨d, rfl⟩ : ∃ e, d = e + 1 := ⟨d - 1, by omega⟩
  unfold zf_67_H2 at h
  refine jb_seg 5 (pc' := (if s.1 < (s.2 44 6) then 13 else 63)) (ls' := [some (.ref 57), some (.int x1), some (.int s.1)]) (st' := []) (σ' := (zE L, s.2, N)) (G := []) rfl trivial ?_
  refine jb_ite (fun c => ?_) (fun c => ?_)
  · replace h := (if_pos c).symm.trans h
    refine jb_seg 3 (pc' := (if s.1 < 16 then 19 else 63)) (ls' := [some (.ref 57), some (.int x1), some (.int s.1)]) (st' := []) (σ' := (zE L, s.2, N)) (G := []) rfl trivial ?_
    refine jb_ite (fun c => ?_) (fun c => ?_)
    · replace h := (if_pos c).symm.trans h
      obtain ⟨g1, h⟩ := jb_gd_of h
      refine jb_seg 7 (pc' := (if (s.2 47 (s.1).toNatClampNeg) = x1 then 32 else 57)) (ls' := [some (.ref 57), some (.int x1), some (.int s.1)]) (st' := []) (σ' := (zE L, s.2, N)) (G := [vp_in s.1 16]) rfl g1 ?_
      refine jb_ite (fun c => ?_) (fun c => ?_)
      · replace h := (if_pos c).symm.trans h
        obtain ⟨g2, h⟩ := jb_gd_of h
        refine jb_seg 6 (pc' := 42) (ls' := [some (.ref 57), some (.int x1), some (.int s.1)]) (st' := [(.int (s.2 49 (s.1).toNatClampNeg)), (.ref 57)]) (σ' := (zE L, s.2, N)) (G := [vp_in s.1 16]) rfl g2 ?_
        obtain ⟨q3, h3, h⟩ := jb_bd_of h
        refine jb_callV (q' := zq_66) (As := [(.int (s.2 49 (s.1).toNatClampNeg))]) (rest := []) (σ1 := (zE L, q3.2, N)) (v := some (.int q3.1)) rfl rfl zp_66 rfl (Nat.le_of_ble_eq_true rfl) (jb_cat rfl) (Nat.le_of_ble_eq_true rfl) (Nat.le_of_ble_eq_true rfl) (Or.inl rfl) rfl (ze_66 (by omega) (s.2 49 (s.1).toNatClampNeg) s.2 N h3) ?_
        refine jb_seg 1 (pc' := (if q3.1 = 0 then 57 else 48)) (ls' := [some (.ref 57), some (.int x1), some (.int s.1)]) (st' := []) (σ' := (zE L, q3.2, N)) (G := []) rfl trivial ?_
        refine jb_ite (fun c => ?_) (fun c => ?_)
        · replace h := (if_pos c).symm.trans h
          exact jb_mask [true, true, true] rfl (zg_67_J57 hd x1 s.1 q3.2 N h hK)
        · replace h := (if_neg c).symm.trans h
          refine jb_seg 3 (pc' := (if (q3.2 57 3) = 0 then 55 else 57)) (ls' := [some (.ref 57), some (.int x1), some (.int s.1)]) (st' := []) (σ' := (zE L, q3.2, N)) (G := []) rfl trivial ?_
          refine jb_ite (fun c => ?_) (fun c => ?_)
          · replace h := (if_pos c).symm.trans h
            refine jb_seg 1 (pc' := 56) (ls' := [some (.ref 57), some (.int x1), some (.int s.1)]) (st' := [(.int s.1)]) (σ' := (zE L, q3.2, N)) (G := []) rfl trivial ?_
            obtain rfl := Option.some.inj h
            obtain ⟨rfl, rfl⟩ := hK
            exact jb_reti rfl rfl
          · replace h := (if_neg c).symm.trans h
            exact jb_mask [true, true, true] rfl (zg_67_J57 hd x1 s.1 q3.2 N h hK)
      · replace h := (if_neg c).symm.trans h
        exact jb_mask [true, true, true] rfl (zg_67_J57 hd x1 s.1 s.2 N h hK)
    · replace h := (if_neg c).symm.trans h
      refine jb_seg 1 (pc' := 64) (ls' := [some (.ref 57), some (.int x1), some (.int s.1)]) (st' := [(.int (-1))]) (σ' := (zE L, s.2, N)) (G := []) rfl trivial ?_
      obtain rfl := Option.some.inj h
      obtain ⟨rfl, rfl⟩ := hK
      exact jb_reti rfl rfl
  · replace h := (if_neg c).symm.trans h
    refine jb_seg 1 (pc' := 64) (ls' := [some (.ref 57), some (.int x1), some (.int s.1)]) (st' := [(.int (-1))]) (σ' := (zE L, s.2, N)) (G := []) rfl trivial ?_
    obtain rfl := Option.some.inj h
    obtain ⟨rfl, rfl⟩ := hK
    exact jb_reti rfl rfl
theorem zg_67_H2L {Γ : jb_G} {L : Nat} {d : Nat} (hd : 2 ≤ d) (x1 : Int32) (N : jb_Ml) {v : Option Value} {σ2 : jb_S} {s : Int32 × jb_Mi} {r : (Int32 × jb_Mi)} (h : jb_lp (zf_67_H2 x1) s = some r) (hK : (fun r : Int32 × jb_Mi => v = some (.int r.1) ∧ σ2 = (zE L, r.2, N)) r) : jb_V Γ d zq_67 2 [some (.ref 57), some (.int x1), some (.int s.1)] [] (zE L, s.2, N) v σ2 := by
  exact @jb_lp_ind (Int32 × jb_Mi) ((Int32 × jb_Mi)) (zf_67_H2 x1) (fun s => jb_V Γ d zq_67 2 [some (.ref 57), some (.int x1), some (.int s.1)] [] (zE L, s.2, N) v σ2) (fun r : Int32 × jb_Mi => v = some (.int r.1) ∧ σ2 = (zE L, r.2, N)) (fun s r h hk => zg_67_H2 hd x1 N s h hk) s r h hK
set_option maxRecDepth 20000 in
theorem zg_67 {Γ : jb_G} {L : Nat} {d : Nat} (hd : 2 ≤ d) (x1 : Int32) (M : jb_Mi) (N : jb_Ml) {v : Option Value} {σ2 : jb_S} {r : (Int32 × jb_Mi)} (h : zf_67 x1 M = some r) (hK : (fun r : Int32 × jb_Mi => v = some (.int r.1) ∧ σ2 = (zE L, r.2, N)) r) : jb_V Γ d zq_67 0 [some (.ref 57), some (.int x1), none] [] (zE L, M, N) v σ2 := by
  obtain ⟨d, rfl⟩ : ∃ e, d = e + 1 := ⟨d - 1, by omega⟩
  unfold zf_67 at h
  refine jb_seg 2 (pc' := 2) (ls' := [some (.ref 57), some (.int x1), some (.int 0)]) (st' := []) (σ' := (zE L, M, N)) (G := []) rfl trivial ?_
  exact jb_mask [true, true, true] rfl (zg_67_H2L hd x1 N h hK)
theorem ze_67 {Γ : jb_G} {L : Nat} {d : Nat} (hd : 2 ≤ d) (x1 : Int32) (M : jb_Mi) (N : jb_Ml) {r : (Int32 × jb_Mi)} (h : zf_67 x1 M = some r) : jb_V Γ d zq_67 0 (jb_en 3 [(.ref 57), (.int x1)]) [] (zE L, M, N) (some (.int r.1)) (zE L, r.2, N) := zg_67 hd x1 M N h ⟨rfl, rfl⟩
-- X4_amount
set_option maxRecDepth 20000 in
theorem zg_68 {Γ : jb_G} {L : Nat} {d : Nat} (hd : 3 ≤ d) (x1 : Int32) (x2 : Int32) (M : jb_Mi) (N : jb_Ml) {v : Option Value} {σ2 : jb_S} {r : (Int32 × jb_Mi)} (h : zf_68 x1 x2 M = some r) (hK : (fun r : Int32 × jb_Mi => v = some (.int r.1) ∧ σ2 = (zE L, r.2, N)) r) : jb_V Γ d zq_68 0 [some (.ref 57), some (.int x1), some (.int x2), none, none] [] (zE L, M, N) v σ2 := by
  obtain ⟨d, rfl⟩ : ∃ e, d = e + 1 := ⟨d - 1, by omega⟩
  unfold zf_68 at h
  refine jb_seg 2 (pc' := 2) (ls' := [some (.ref 57), some (.int x1), some (.int x2), none, none]) (st' := [(.int x1), (.ref 57)]) (σ' := (zE L, M, N)) (G := []) rfl trivial ?_
  obtain ⟨q1, h1, h⟩ := jb_bd_of h
  refine jb_callV (q' := zq_67) (As := [(.int x1)]) (rest := []) (σ1 := (zE L, q1.2, N)) (v := some (.int q1.1)) rfl rfl zp_67 rfl (Nat.le_of_ble_eq_true rfl) (jb_cat rfl) (Nat.le_of_ble_eq_true rfl) (Nat.le_of_ble_eq_true rfl) (Or.inl rfl) rfl (ze_67 (by omega) x1 M N h1) ?_
  refine jb_seg 3 (pc' := (if q1.1 < 0 then 10 else 12)) (ls' := [some (.ref 57), some (.int x1), some (.int x2), some (.int q1.1), none]) (st' := []) (σ' := (zE L, q1.2, N)) (G := []) rfl trivial ?_
  refine jb_ite (fun c => ?_) (fun c => ?_)
  · replace h := (if_pos c).symm.trans h
    refine jb_seg 1 (pc' := 11) (ls' := [some (.ref 57), some (.int x1), some (.int x2), some (.int q1.1), none]) (st' := [(.int 0)]) (σ' := (zE L, q1.2, N)) (G := []) rfl trivial ?_
    obtain rfl := Option.some.inj h
    obtain ⟨rfl, rfl⟩ := hK
    exact jb_reti rfl rfl
  · replace h := (if_neg c).symm.trans h
    obtain ⟨g2, h⟩ := jb_gd_of h
    refine jb_seg 6 (pc' := 22) (ls' := [some (.ref 57), some (.int x1), some (.int x2), some (.int q1.1), none]) (st' := [(.int (q1.2 48 (q1.1).toNatClampNeg)), (.ref 57)]) (σ' := (zE L, q1.2, N)) (G := [vp_in q1.1 16]) rfl g2 ?_
    obtain ⟨q3, h3, h⟩ := jb_bd_of h
    refine jb_callV (q' := zq_66) (As := [(.int (q1.2 48 (q1.1).toNatClampNeg))]) (rest := []) (σ1 := (zE L, q3.2, N)) (v := some (.int q3.1)) rfl rfl zp_66 rfl (Nat.le_of_ble_eq_true rfl) (jb_cat rfl) (Nat.le_of_ble_eq_true rfl) (Nat.le_of_ble_eq_true rfl) (Or.inl rfl) rfl (ze_66 (by omega) (q1.2 48 (q1.1).toNatClampNeg) q1.2 N h3) ?_
    refine jb_seg 4 (pc' := (if (q3.2 57 3) = 0 then 38 else 34)) (ls' := [some (.ref 57), some (.int x1), some (.int x2), some (.int q1.1), some (.int q3.1)]) (st' := []) (σ' := (zE L, q3.2, N)) (G := []) rfl trivial ?_
    refine jb_ite (fun c => ?_) (fun c => ?_)
    · replace h := (if_pos c).symm.trans h
      refine jb_seg 3 (pc' := 42) (ls' := [some (.ref 57), some (.int x1), some (.int x2), some (.int q1.1), some (.int q3.1)]) (st' := [(.int q3.1), (.int x2), (.int 0)]) (σ' := (zE L, q3.2, N)) (G := []) rfl trivial ?_
      refine jb_callS (q' := zq_272) (As := [(.int x2), (.int q3.1)]) (rest := [(.int 0)]) (σ1 := (zE L, q3.2, N)) (v := some (.int (zf_272 x2 q3.1))) rfl (Nat.le_of_ble_eq_true rfl) rfl zp_272 (jb_cat rfl) (Nat.le_of_ble_eq_true rfl) (Nat.le_of_ble_eq_true rfl) (Or.inl rfl) rfl (ze_272 x2 q3.1 q3.2 N rfl) ?_
      refine jb_callS (q' := zq_271) (As := [(.int 0), (.int (zf_272 x2 q3.1))]) (rest := []) (σ1 := (zE L, q3.2, N)) (v := some (.int (zf_271 0 (zf_272 x2 q3.1)))) rfl (Nat.le_of_ble_eq_true rfl) rfl zp_271 (jb_cat rfl) (Nat.le_of_ble_eq_true rfl) (Nat.le_of_ble_eq_true rfl) (Or.inl rfl) rfl (ze_271 0 (zf_272 x2 q3.1) q3.2 N rfl) ?_
      obtain rfl := Option.some.inj h
      obtain ⟨rfl, rfl⟩ := hK
      exact jb_reti rfl rfl
    · replace h := (if_neg c).symm.trans h
      refine jb_seg 2 (pc' := 48) (ls' := [some (.ref 57), some (.int x1), some (.int x2), some (.int q1.1), some (.int q3.1)]) (st' := [(.int 0)]) (σ' := (zE L, q3.2, N)) (G := []) rfl trivial ?_
      obtain rfl := Option.some.inj h
      obtain ⟨rfl, rfl⟩ := hK
      exact jb_reti rfl rfl
theorem ze_68 {Γ : jb_G} {L : Nat} {d : Nat} (hd : 3 ≤ d) (x1 : Int32) (x2 : Int32) (M : jb_Mi) (N : jb_Ml) {r : (Int32 × jb_Mi)} (h : zf_68 x1 x2 M = some r) : jb_V Γ d zq_68 0 (jb_en 5 [(.ref 57), (.int x1), (.int x2)]) [] (zE L, M, N) (some (.int r.1)) (zE L, r.2, N) := zg_68 hd x1 x2 M N h ⟨rfl, rfl⟩
-- X5_emit
set_option maxRecDepth 20000 in
theorem zg_70 {Γ : jb_G} {L : Nat} {d : Nat} (x1 : Int32) (x2 : Int32) (M : jb_Mi) (N : jb_Ml) {v : Option Value} {σ2 : jb_S} {r : (Int32 × jb_Mi)} (h : zf_70 x1 x2 M = some r) (hK : (fun r : Int32 × jb_Mi => v = some (.int r.1) ∧ σ2 = (zE L, r.2, N)) r) : jb_V Γ d zq_70 0 [some (.ref 51), some (.int x1), some (.int x2)] [] (zE L, M, N) v σ2 := by
  unfold zf_70 at h
  refine jb_seg 4 (pc' := (if (M 51 5) < 240 then 12 else 10)) (ls' := [some (.ref 51), some (.int x1), some (.int x2)]) (st' := []) (σ' := (zE L, M, N)) (G := []) rfl trivial ?_
  refine jb_ite (fun c => ?_) (fun c => ?_)
  · replace h := (if_pos c).symm.trans h
    obtain ⟨g1, h⟩ := jb_gd_of h
    obtain ⟨g2, h⟩ := jb_gd_of h
    refine jb_seg 22 (pc' := 48) (ls' := [some (.ref 51), some (.int x1), some (.int x2)]) (st' := [(.int (((jb_up (jb_up (jb_up M 52 ((M 51 5)).toNatClampNeg x1) 53 (((jb_up M 52 ((M 51 5)).toNatClampNeg x1) 51 5)).toNatClampNeg x2) 51 5 (((jb_up (jb_up M 52 ((M 51 5)).toNatClampNeg x1) 53 (((jb_up M 52 ((M 51 5)).toNatClampNeg x1) 51 5)).toNatClampNeg x2) 51 5) + 1)) 51 5) - 1))]) (σ' := (zE L, (jb_up (jb_up (jb_up M 52 ((M 51 5)).toNatClampNeg x1) 53 (((jb_up M 52 ((M 51 5)).toNatClampNeg x1) 51 5)).toNatClampNeg x2) 51 5 (((jb_up (jb_up M 52 ((M 51 5)).toNatClampNeg x1) 53 (((jb_up M 52 ((M 51 5)).toNatClampNeg x1) 51 5)).toNatClampNeg x2) 51 5) + 1)), N)) (G := [vp_in (M 51 5) 240, vp_in ((jb_up M 52 ((M 51 5)).toNatClampNeg x1) 51 5) 240]) rfl ⟨g1, g2⟩ ?_
    obtain rfl := Option.some.inj h
    obtain ⟨rfl, rfl⟩ := hK
    exact jb_reti rfl rfl
  · replace h := (if_neg c).symm.trans h
    refine jb_seg 1 (pc' := 11) (ls' := [some (.ref 51), some (.int x1), some (.int x2)]) (st' := [(.int (-1))]) (σ' := (zE L, M, N)) (G := []) rfl trivial ?_
    obtain rfl := Option.some.inj h
    obtain ⟨rfl, rfl⟩ := hK
    exact jb_reti rfl rfl
theorem ze_70 {Γ : jb_G} {L : Nat} {d : Nat} (x1 : Int32) (x2 : Int32) (M : jb_Mi) (N : jb_Ml) {r : (Int32 × jb_Mi)} (h : zf_70 x1 x2 M = some r) : jb_V Γ d zq_70 0 (jb_en 3 [(.ref 51), (.int x1), (.int x2)]) [] (zE L, M, N) (some (.int r.1)) (zE L, r.2, N) := zg_70 x1 x2 M N h ⟨rfl, rfl⟩
-- X5_aim
set_option maxRecDepth 20000 in
theorem zg_71 {Γ : jb_G} {L : Nat} {d : Nat} (x1 : Int32) (M : jb_Mi) (N : jb_Ml) {v : Option Value} {σ2 : jb_S} {r : (jb_Mi)} (h : zf_71 x1 M = some r) (hK : (fun r : jb_Mi => v = none ∧ σ2 = (zE L, r, N)) r) : jb_V Γ d zq_71 0 [some (.ref 51), some (.int x1)] [] (zE L, M, N) v σ2 := by
  unfold zf_71 at h
  refine jb_seg 2 (pc' := (if x1 < 0 then 22 else 4)) (ls' := [some (.ref 51), some (.int x1)]) (st' := []) (σ' := (zE L, M, N)) (G := []) rfl trivial ?_
  refine jb_ite (fun c => ?_) (fun c => ?_)
  · replace h := (if_pos c).symm.trans h
    obtain rfl := Option.some.inj h
    obtain ⟨rfl, rfl⟩ := hK
    exact jb_retv rfl rfl
  · replace h := (if_neg c).symm.trans h
    refine jb_seg 4 (pc' := (if x1 < (M 51 5) then 12 else 22)) (ls' := [some (.ref 51), some (.int x1)]) (st' := []) (σ' := (zE L, M, N)) (G := []) rfl trivial ?_
    refine jb_ite (fun c => ?_) (fun c => ?_)
    · replace h := (if_pos c).symm.trans h
      obtain ⟨g1, h⟩ := jb_gd_of h
      refine jb_seg 6 (pc' := 22) (ls' := [some (.ref 51), some (.int x1)]) (st' := []) (σ' := (zE L, (jb_up M 53 x1.toNatClampNeg (M 51 5)), N)) (G := [vp_in x1 240]) rfl g1 ?_
      obtain rfl := Option.some.inj h
      obtain ⟨rfl, rfl⟩ := hK
      exact jb_retv rfl rfl
    · replace h := (if_neg c).symm.trans h
      obtain rfl := Option.some.inj h
      obtain ⟨rfl, rfl⟩ := hK
      exact jb_retv rfl rfl
theorem ze_71 {Γ : jb_G} {L : Nat} {d : Nat} (x1 : Int32) (M : jb_Mi) (N : jb_Ml) {r : (jb_Mi)} (h : zf_71 x1 M = some r) : jb_V Γ d zq_71 0 (jb_en 2 [(.ref 51), (.int x1)]) [] (zE L, M, N) (none) (zE L, r, N) := zg_71 x1 M N h ⟨rfl, rfl⟩
-- X5_copy
set_option maxRecDepth 20000 in
theorem zg_72 {Γ : jb_G} {L : Nat} {d : Nat} (hd : 1 ≤ d) (M : jb_Mi) (N : jb_Ml) {v : Option Value} {σ2 : jb_S} {r : (jb_Mi)} (h : zf_72 M = some r) (hK : (fun r : jb_Mi => v = none ∧ σ2 = (zE L, r, N)) r) : jb_V Γ d zq_72 0 [some (.ref 44), some (.ref 51)] [] (zE L, M, N) v σ2 := by
  obtain ⟨d, rfl⟩ : ∃ e, d = e + 1 := ⟨d - 1, by omega⟩
  unfold zf_72 at h
  refine jb_seg 8 (pc' := 14) (ls' := [some (.ref 44), some (.ref 51)]) (st' := [(.int (M 51 5)), (.int 0), (.ref 45), (.int 0), (.ref 52)]) (σ' := (zE L, M, N)) (G := []) rfl trivial ?_
  obtain ⟨g1, h⟩ := jb_gc_of h
  refine jb_copyi (rest := []) rfl rfl rfl g1 (Nat.le_of_ble_eq_true rfl) ?_
  refine jb_seg 8 (pc' := 31) (ls' := [some (.ref 44), some (.ref 51)]) (st' := [(.int ((jb_cp M 52 45 0 0 ((M 51 5)).toNatClampNeg) 51 5)), (.int 0), (.ref 46), (.int 0), (.ref 53)]) (σ' := (zE L, (jb_cp M 52 45 0 0 ((M 51 5)).toNatClampNeg), N)) (G := []) rfl trivial ?_
  obtain ⟨g2, h⟩ := jb_gc_of h
  refine jb_copyi (rest := []) rfl rfl rfl g2 (Nat.le_of_ble_eq_true rfl) ?_
  refine jb_seg 8 (pc' := 48) (ls' := [some (.ref 44), some (.ref 51)]) (st' := [(.int ((jb_cp (jb_cp M 52 45 0 0 ((M 51 5)).toNatClampNeg) 53 46 0 0 (((jb_cp M 52 45 0 0 ((M 51 5)).toNatClampNeg) 51 5)).toNatClampNeg) 51 6)), (.int 0), (.ref 47), (.int 0), (.ref 54)]) (σ' := (zE L, (jb_cp (jb_cp M 52 45 0 0 ((M 51 5)).toNatClampNeg) 53 46 0 0 (((jb_cp M 52 45 0 0 ((M 51 5)).toNatClampNeg) 51 5)).toNatClampNeg), N)) (G := []) rfl trivial ?_
  obtain ⟨g3, h⟩ := jb_gc_of h
  refine jb_copyi (rest := []) rfl rfl rfl g3 (Nat.le_of_ble_eq_true rfl) ?_
  refine jb_seg 8 (pc' := 65) (ls' := [some (.ref 44), some (.ref 51)]) (st' := [(.int ((jb_cp (jb_cp (jb_cp M 52 45 0 0 ((M 51 5)).toNatClampNeg) 53 46 0 0 (((jb_cp M 52 45 0 0 ((M 51 5)).toNatClampNeg) 51 5)).toNatClampNeg) 54 47 0 0 (((jb_cp (jb_cp M 52 45 0 0 ((M 51 5)).toNatClampNeg) 53 46 0 0 (((jb_cp M 52 45 0 0 ((M 51 5)).toNatClampNeg) 51 5)).toNatClampNeg) 51 6)).toNatClampNeg) 51 6)), (.int 0), (.ref 48), (.int 0), (.ref 55)]) (σ' := (zE L, (jb_cp (jb_cp (jb_cp M 52 45 0 0 ((M 51 5)).toNatClampNeg) 53 46 0 0 (((jb_cp M 52 45 0 0 ((M 51 5)).toNatClampNeg) 51 5)).toNatClampNeg) 54 47 0 0 (((jb_cp (jb_cp M 52 45 0 0 ((M 51 5)).toNatClampNeg) 53 46 0 0 (((jb_cp M 52 45 0 0 ((M 51 5)).toNatClampNeg) 51 5)).toNatClampNeg) 51 6)).toNatClampNeg), N)) (G := []) rfl trivial ?_
  obtain ⟨g4, h⟩ := jb_gc_of h
  refine jb_copyi (rest := []) rfl rfl rfl g4 (Nat.le_of_ble_eq_true rfl) ?_
  refine jb_seg 8 (pc' := 82) (ls' := [some (.ref 44), some (.ref 51)]) (st' := [(.int ((jb_cp (jb_cp (jb_cp (jb_cp M 52 45 0 0 ((M 51 5)).toNatClampNeg) 53 46 0 0 (((jb_cp M 52 45 0 0 ((M 51 5)).toNatClampNeg) 51 5)).toNatClampNeg) 54 47 0 0 (((jb_cp (jb_cp M 52 45 0 0 ((M 51 5)).toNatClampNeg) 53 46 0 0 (((jb_cp M 52 45 0 0 ((M 51 5)).toNatClampNeg) 51 5)).toNatClampNeg) 51 6)).toNatClampNeg) 55 48 0 0 (((jb_cp (jb_cp (jb_cp M 52 45 0 0 ((M 51 5)).toNatClampNeg) 53 46 0 0 (((jb_cp M 52 45 0 0 ((M 51 5)).toNatClampNeg) 51 5)).toNatClampNeg) 54 47 0 0 (((jb_cp (jb_cp M 52 45 0 0 ((M 51 5)).toNatClampNeg) 53 46 0 0 (((jb_cp M 52 45 0 0 ((M 51 5)).toNatClampNeg) 51 5)).toNatClampNeg) 51 6)).toNatClampNeg) 51 6)).toNatClampNeg) 51 6)), (.int 0), (.ref 49), (.int 0), (.ref 56)]) (σ' := (zE L, (jb_cp (jb_cp (jb_cp (jb_cp M 52 45 0 0 ((M 51 5)).toNatClampNeg) 53 46 0 0 (((jb_cp M 52 45 0 0 ((M 51 5)).toNatClampNeg) 51 5)).toNatClampNeg) 54 47 0 0 (((jb_cp (jb_cp M 52 45 0 0 ((M 51 5)).toNatClampNeg) 53 46 0 0 (((jb_cp M 52 45 0 0 ((M 51 5)).toNatClampNeg) 51 5)).toNatClampNeg) 51 6)).toNatClampNeg) 55 48 0 0 (((jb_cp (jb_cp (jb_cp M 52 45 0 0 ((M 51 5)).toNatClampNeg) 53 46 0 0 (((jb_cp M 52 45 0 0 ((M 51 5)).toNatClampNeg) 51 5)).toNatClampNeg) 54 47 0 0 (((jb_cp (jb_cp M 52 45 0 0 ((M 51 5)).toNatClampNeg) 53 46 0 0 (((jb_cp M 52 45 0 0 ((M 51 5)).toNatClampNeg) 51 5)).toNatClampNeg) 51 6)).toNatClampNeg) 51 6)).toNatClampNeg), N)) (G := []) rfl trivial ?_
  obtain ⟨g5, h⟩ := jb_gc_of h
  refine jb_copyi (rest := []) rfl rfl rfl g5 (Nat.le_of_ble_eq_true rfl) ?_
  refine jb_seg 8 (pc' := 101) (ls' := [some (.ref 44), some (.ref 51)]) (st' := []) (σ' := (zE L, (jb_up (jb_up (jb_cp (jb_cp (jb_cp (jb_cp (jb_cp M 52 45 0 0 ((M 51 5)).toNatClampNeg) 53 46 0 0 (((jb_cp M 52 45 0 0 ((M 51 5)).toNatClampNeg) 51 5)).toNatClampNeg) 54 47 0 0 (((jb_cp (jb_cp M 52 45 0 0 ((M 51 5)).toNatClampNeg) 53 46 0 0 (((jb_cp M 52 45 0 0 ((M 51 5)).toNatClampNeg) 51 5)).toNatClampNeg) 51 6)).toNatClampNeg) 55 48 0 0 (((jb_cp (jb_cp (jb_cp M 52 45 0 0 ((M 51 5)).toNatClampNeg) 53 46 0 0 (((jb_cp M 52 45 0 0 ((M 51 5)).toNatClampNeg) 51 5)).toNatClampNeg) 54 47 0 0 (((jb_cp (jb_cp M 52 45 0 0 ((M 51 5)).toNatClampNeg) 53 46 0 0 (((jb_cp M 52 45 0 0 ((M 51 5)).toNatClampNeg) 51 5)).toNatClampNeg) 51 6)).toNatClampNeg) 51 6)).toNatClampNeg) 56 49 0 0 (((jb_cp (jb_cp (jb_cp (jb_cp M 52 45 0 0 ((M 51 5)).toNatClampNeg) 53 46 0 0 (((jb_cp M 52 45 0 0 ((M 51 5)).toNatClampNeg) 51 5)).toNatClampNeg) 54 47 0 0 (((jb_cp (jb_cp M 52 45 0 0 ((M 51 5)).toNatClampNeg) 53 46 0 0 (((jb_cp M 52 45 0 0 ((M 51 5)).toNatClampNeg) 51 5)).toNatClampNeg) 51 6)).toNatClampNeg) 55 48 0 0 (((jb_cp (jb_cp (jb_cp M 52 45 0 0 ((M 51 5)).toNatClampNeg) 53 46 0 0 (((jb_cp M 52 45 0 0 ((M 51 5)).toNatClampNeg) 51 5)).toNatClampNeg) 54 47 0 0 (((jb_cp (jb_cp M 52 45 0 0 ((M 51 5)).toNatClampNeg) 53 46 0 0 (((jb_cp M 52 45 0 0 ((M 51 5)).toNatClampNeg) 51 5)).toNatClampNeg) 51 6)).toNatClampNeg) 51 6)).toNatClampNeg) 51 6)).toNatClampNeg) 44 5 ((jb_cp (jb_cp (jb_cp (jb_cp (jb_cp M 52 45 0 0 ((M 51 5)).toNatClampNeg) 53 46 0 0 (((jb_cp M 52 45 0 0 ((M 51 5)).toNatClampNeg) 51 5)).toNatClampNeg) 54 47 0 0 (((jb_cp (jb_cp M 52 45 0 0 ((M 51 5)).toNatClampNeg) 53 46 0 0 (((jb_cp M 52 45 0 0 ((M 51 5)).toNatClampNeg) 51 5)).toNatClampNeg) 51 6)).toNatClampNeg) 55 48 0 0 (((jb_cp (jb_cp (jb_cp M 52 45 0 0 ((M 51 5)).toNatClampNeg) 53 46 0 0 (((jb_cp M 52 45 0 0 ((M 51 5)).toNatClampNeg) 51 5)).toNatClampNeg) 54 47 0 0 (((jb_cp (jb_cp M 52 45 0 0 ((M 51 5)).toNatClampNeg) 53 46 0 0 (((jb_cp M 52 45 0 0 ((M 51 5)).toNatClampNeg) 51 5)).toNatClampNeg) 51 6)).toNatClampNeg) 51 6)).toNatClampNeg) 56 49 0 0 (((jb_cp (jb_cp (jb_cp (jb_cp M 52 45 0 0 ((M 51 5)).toNatClampNeg) 53 46 0 0 (((jb_cp M 52 45 0 0 ((M 51 5)).toNatClampNeg) 51 5)).toNatClampNeg) 54 47 0 0 (((jb_cp (jb_cp M 52 45 0 0 ((M 51 5)).toNatClampNeg) 53 46 0 0 (((jb_cp M 52 45 0 0 ((M 51 5)).toNatClampNeg) 51 5)).toNatClampNeg) 51 6)).toNatClampNeg) 55 48 0 0 (((jb_cp (jb_cp (jb_cp M 52 45 0 0 ((M 51 5)).toNatClampNeg) 53 46 0 0 (((jb_cp M 52 45 0 0 ((M 51 5)).toNatClampNeg) 51 5)).toNatClampNeg) 54 47 0 0 (((jb_cp (jb_cp M 52 45 0 0 ((M 51 5)).toNatClampNeg) 53 46 0 0 (((jb_cp M 52 45 0 0 ((M 51 5)).toNatClampNeg) 51 5)).toNatClampNeg) 51 6)).toNatClampNeg) 51 6)).toNatClampNeg) 51 6)).toNatClampNeg) 51 5)) 44 6 ((jb_up (jb_cp (jb_cp (jb_cp (jb_cp (jb_cp M 52 45 0 0 ((M 51 5)).toNatClampNeg) 53 46 0 0 (((jb_cp M 52 45 0 0 ((M 51 5)).toNatClampNeg) 51 5)).toNatClampNeg) 54 47 0 0 (((jb_cp (jb_cp M 52 45 0 0 ((M 51 5)).toNatClampNeg) 53 46 0 0 (((jb_cp M 52 45 0 0 ((M 51 5)).toNatClampNeg) 51 5)).toNatClampNeg) 51 6)).toNatClampNeg) 55 48 0 0 (((jb_cp (jb_cp (jb_cp M 52 45 0 0 ((M 51 5)).toNatClampNeg) 53 46 0 0 (((jb_cp M 52 45 0 0 ((M 51 5)).toNatClampNeg) 51 5)).toNatClampNeg) 54 47 0 0 (((jb_cp (jb_cp M 52 45 0 0 ((M 51 5)).toNatClampNeg) 53 46 0 0 (((jb_cp M 52 45 0 0 ((M 51 5)).toNatClampNeg) 51 5)).toNatClampNeg) 51 6)).toNatClampNeg) 51 6)).toNatClampNeg) 56 49 0 0 (((jb_cp (jb_cp (jb_cp (jb_cp M 52 45 0 0 ((M 51 5)).toNatClampNeg) 53 46 0 0 (((jb_cp M 52 45 0 0 ((M 51 5)).toNatClampNeg) 51 5)).toNatClampNeg) 54 47 0 0 (((jb_cp (jb_cp M 52 45 0 0 ((M 51 5)).toNatClampNeg) 53 46 0 0 (((jb_cp M 52 45 0 0 ((M 51 5)).toNatClampNeg) 51 5)).toNatClampNeg) 51 6)).toNatClampNeg) 55 48 0 0 (((jb_cp (jb_cp (jb_cp M 52 45 0 0 ((M 51 5)).toNatClampNeg) 53 46 0 0 (((jb_cp M 52 45 0 0 ((M 51 5)).toNatClampNeg) 51 5)).toNatClampNeg) 54 47 0 0 (((jb_cp (jb_cp M 52 45 0 0 ((M 51 5)).toNatClampNeg) 53 46 0 0 (((jb_cp M 52 45 0 0 ((M 51 5)).toNatClampNeg) 51 5)).toNatClampNeg) 51 6)).toNatClampNeg) 51 6)).toNatClampNeg) 51 6)).toNatClampNeg) 44 5 ((jb_cp (jb_cp (jb_cp (jb_cp (jb_cp M 52 45 0 0 ((M 51 5)).toNatClampNeg) 53 46 0 0 (((jb_cp M 52 45 0 0 ((M 51 5)).toNatClampNeg) 51 5)).toNatClampNeg) 54 47 0 0 (((jb_cp (jb_cp M 52 45 0 0 ((M 51 5)).toNatClampNeg) 53 46 0 0 (((jb_cp M 52 45 0 0 ((M 51 5)).toNatClampNeg) 51 5)).toNatClampNeg) 51 6)).toNatClampNeg) 55 48 0 0 (((jb_cp (jb_cp (jb_cp M 52 45 0 0 ((M 51 5)).toNatClampNeg) 53 46 0 0 (((jb_cp M 52 45 0 0 ((M 51 5)).toNatClampNeg) 51 5)).toNatClampNeg) 54 47 0 0 (((jb_cp (jb_cp M 52 45 0 0 ((M 51 5)).toNatClampNeg) 53 46 0 0 (((jb_cp M 52 45 0 0 ((M 51 5)).toNatClampNeg) 51 5)).toNatClampNeg) 51 6)).toNatClampNeg) 51 6)).toNatClampNeg) 56 49 0 0 (((jb_cp (jb_cp (jb_cp (jb_cp M 52 45 0 0 ((M 51 5)).toNatClampNeg) 53 46 0 0 (((jb_cp M 52 45 0 0 ((M 51 5)).toNatClampNeg) 51 5)).toNatClampNeg) 54 47 0 0 (((jb_cp (jb_cp M 52 45 0 0 ((M 51 5)).toNatClampNeg) 53 46 0 0 (((jb_cp M 52 45 0 0 ((M 51 5)).toNatClampNeg) 51 5)).toNatClampNeg) 51 6)).toNatClampNeg) 55 48 0 0 (((jb_cp (jb_cp (jb_cp M 52 45 0 0 ((M 51 5)).toNatClampNeg) 53 46 0 0 (((jb_cp M 52 45 0 0 ((M 51 5)).toNatClampNeg) 51 5)).toNatClampNeg) 54 47 0 0 (((jb_cp (jb_cp M 52 45 0 0 ((M 51 5)).toNatClampNeg) 53 46 0 0 (((jb_cp M 52 45 0 0 ((M 51 5)).toNatClampNeg) 51 5)).toNatClampNeg) 51 6)).toNatClampNeg) 51 6)).toNatClampNeg) 51 6)).toNatClampNeg) 51 5)) 51 6)), N)) (G := []) rfl trivial ?_
  obtain rfl := Option.some.inj h
  obtain ⟨rfl, rfl⟩ := hK
  exact jb_retv rfl rfl
theorem ze_72 {Γ : jb_G} {L : Nat} {d : Nat} (hd : 1 ≤ d) (M : jb_Mi) (N : jb_Ml) {r : (jb_Mi)} (h : zf_72 M = some r) : jb_V Γ d zq_72 0 (jb_en 2 [(.ref 44), (.ref 51)]) [] (zE L, M, N) (none) (zE L, r, N) := zg_72 hd M N h ⟨rfl, rfl⟩
