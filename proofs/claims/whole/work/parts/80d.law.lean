-- the law
set_option maxRecDepth 20000 in
theorem zg_0_J1313 {Γ : jb_G} {d : Nat} (hd : 49 ≤ d) (L : Nat) (x3 : Int32) (M : jb_Mi) (N : jb_Ml) {v : Option Value} {σ2 : jb_S} {r : ((Int32 × jb_Mi × jb_Ml) ⊕ (Bool × jb_Mi × jb_Ml))} (h : zf_0_J1313 L x3 M N = some r) (hK : (jb_K (fun s : Int32 × jb_Mi × jb_Ml => jb_V Γ d zq_0 18 [some (.ref 0), some (.ref 1), some (.ref 79), some (.int s.1)] [] (zE L, s.2.1, s.2.2) v σ2) (fun r : Bool × jb_Mi × jb_Ml => v = some (.int (jb_b2i r.1)) ∧ σ2 = (zE L, r.2.1, r.2.2))) r) : jb_V Γ d zq_0 1313 [some (.ref 0), some (.ref 1), some (.ref 79), some (.int x3)] [] (zE L, M, N) v σ2 := by
  obtain ⟨d, rfl⟩ : ∃ e, d = e + 1 := ⟨d - 1, by omega⟩
  unfold zf_0_J1313 at h
  refine jb_seg 2 (pc' := 18) (ls' := [some (.ref 0), some (.ref 1), some (.ref 79), some (.int (x3 + 6))]) (st' := []) (σ' := (zE L, M, N)) (G := []) rfl trivial ?_
  obtain rfl := Option.some.inj h
  exact jb_mask [true, true, true, true] rfl hK
set_option maxRecDepth 20000 in
theorem zg_0_J1008 {Γ : jb_G} {d : Nat} (hd : 49 ≤ d) (L : Nat) (x3 : Int32) (s0 : Int32) (s2 : Int32) (s3 : Int32) (M : jb_Mi) (N : jb_Ml) {v : Option Value} {σ2 : jb_S} {r : ((Int32 × jb_Mi × jb_Ml) ⊕ (Bool × jb_Mi × jb_Ml))} (h : zf_0_J1008 L x3 s0 s2 s3 M N = some r) (hK : (jb_K (fun s : Int32 × jb_Mi × jb_Ml => jb_V Γ d zq_0 18 [some (.ref 0), some (.ref 1), some (.ref 79), some (.int s.1)] [] (zE L, s.2.1, s.2.2) v σ2) (fun r : Bool × jb_Mi × jb_Ml => v = some (.int (jb_b2i r.1)) ∧ σ2 = (zE L, r.2.1, r.2.2))) r) : jb_V Γ d zq_0 1008 [some (.ref 0), some (.ref 1), some (.ref 79), some (.int x3)] [(.int s3), (.int s2), (.ref 79), (.int s0)] (zE L, M, N) v σ2 := by
  obtain ⟨d, rfl⟩ : ∃ e, d = e + 1 := ⟨d - 1, by omega⟩
  unfold zf_0_J1008 at h
  obtain ⟨q151, h151, h⟩ := jb_bd_of h
  refine jb_callV (q' := zq_252) (As := [(.int s2), (.int s3)]) (rest := [(.int s0)]) (σ1 := (zE L, M, N)) (v := some (.int q151)) rfl rfl zp_252 rfl (Nat.le_of_ble_eq_true rfl) (jb_cat rfl) (Nat.le_of_ble_eq_true rfl) (Nat.le_of_ble_eq_true rfl) (Or.inl rfl) rfl (ze_252 (by omega) s2 s3 M N h151) ?_
  refine jb_seg 1 (pc' := (if s0 = q151 then 1313 else 1014)) (ls' := [some (.ref 0), some (.ref 1), some (.ref 79), some (.int x3)]) (st' := []) (σ' := (zE L, M, N)) (G := []) rfl trivial ?_
  refine jb_ite (fun c => ?_) (fun c => ?_)
  · replace h := (if_pos c).symm.trans h
    exact jb_mask [true, true, true, true] rfl (zg_0_J1313 hd L x3 M N h hK)
  · replace h := (if_neg c).symm.trans h
    refine jb_seg 1 (pc' := 1015) (ls' := [some (.ref 0), some (.ref 1), some (.ref 79), some (.int x3)]) (st' := [(.int 0)]) (σ' := (zE L, M, N)) (G := []) rfl trivial ?_
    obtain rfl := Option.some.inj h
    obtain ⟨rfl, rfl⟩ := hK
    exact jb_retz (by decide) rfl rfl
set_option maxRecDepth 20000 in
theorem zg_0_J986 {Γ : jb_G} {d : Nat} (hd : 49 ≤ d) (L : Nat) (x3 : Int32) (s1 : Int32) (s2 : Int32) (M : jb_Mi) (N : jb_Ml) {v : Option Value} {σ2 : jb_S} {r : ((Int32 × jb_Mi × jb_Ml) ⊕ (Bool × jb_Mi × jb_Ml))} (h : zf_0_J986 L x3 s1 s2 M N = some r) (hK : (jb_K (fun s : Int32 × jb_Mi × jb_Ml => jb_V Γ d zq_0 18 [some (.ref 0), some (.ref 1), some (.ref 79), some (.int s.1)] [] (zE L, s.2.1, s.2.2) v σ2) (fun r : Bool × jb_Mi × jb_Ml => v = some (.int (jb_b2i r.1)) ∧ σ2 = (zE L, r.2.1, r.2.2))) r) : jb_V Γ d zq_0 986 [some (.ref 0), some (.ref 1), some (.ref 79), some (.int x3)] [(.int s2), (.int s1), (.ref 1)] (zE L, M, N) v σ2 := by
  obtain ⟨d, rfl⟩ : ∃ e, d = e + 1 := ⟨d - 1, by omega⟩
  unfold zf_0_J986 at h
  obtain ⟨q148, h148, h⟩ := jb_bd_of h
  refine jb_callV (q' := zq_150) (As := [(.int s1), (.int s2)]) (rest := []) (σ1 := (zE L, M, N)) (v := some (.int q148)) rfl rfl zp_150 rfl (Nat.le_of_ble_eq_true rfl) (jb_cat rfl) (Nat.le_of_ble_eq_true rfl) (Nat.le_of_ble_eq_true rfl) (Or.inl rfl) rfl (ze_150 (by omega) s1 s2 M N h148) ?_
  obtain ⟨g149, h⟩ := jb_gd_of h
  obtain ⟨g150, h⟩ := jb_gd_of h
  refine jb_seg 12 (pc' := (if (M 0 ((x3 + 2)).toNatClampNeg) = 0 then 1007 else 1003)) (ls' := [some (.ref 0), some (.ref 1), some (.ref 79), some (.int x3)]) (st' := [(.int (M 0 ((x3 + 1)).toNatClampNeg)), (.ref 79), (.int q148)]) (σ' := (zE L, M, N)) (G := [vp_in (x3 + 1) L, vp_in (x3 + 2) L]) rfl ⟨g149, g150⟩ ?_
  refine jb_ite (fun c => ?_) (fun c => ?_)
  · replace h := (if_pos c).symm.trans h
    refine jb_seg 1 (pc' := 1008) (ls' := [some (.ref 0), some (.ref 1), some (.ref 79), some (.int x3)]) (st' := [(.int 0), (.int (M 0 ((x3 + 1)).toNatClampNeg)), (.ref 79), (.int q148)]) (σ' := (zE L, M, N)) (G := []) rfl trivial ?_
    exact jb_mask [true, true, true, true] rfl (zg_0_J1008 hd L x3 q148 (M 0 ((x3 + 1)).toNatClampNeg) 0 M N h hK)
  · replace h := (if_neg c).symm.trans h
    refine jb_seg 2 (pc' := 1008) (ls' := [some (.ref 0), some (.ref 1), some (.ref 79), some (.int x3)]) (st' := [(.int 1), (.int (M 0 ((x3 + 1)).toNatClampNeg)), (.ref 79), (.int q148)]) (σ' := (zE L, M, N)) (G := []) rfl trivial ?_
    exact jb_mask [true, true, true, true] rfl (zg_0_J1008 hd L x3 q148 (M 0 ((x3 + 1)).toNatClampNeg) 1 M N h hK)
set_option maxRecDepth 20000 in
theorem zg_0_H18 {Γ : jb_G} {d : Nat} (hd : 49 ≤ d) (L : Nat) (s : Int32 × jb_Mi × jb_Ml) {v : Option Value} {σ2 : jb_S} {r : ((Int32 × jb_Mi × jb_Ml) ⊕ (Bool × jb_Mi × jb_Ml))} (h : zf_0_H18 L s = some r) (hK : (jb_K (fun s : Int32 × jb_Mi × jb_Ml => jb_V Γ d zq_0 18 [some (.ref 0), some (.ref 1), some (.ref 79), some (.int s.1)] [] (zE L, s.2.1, s.2.2) v σ2) (fun r : Bool × jb_Mi × jb_Ml => v = some (.int (jb_b2i r.1)) ∧ σ2 = (zE L, r.2.1, r.2.2))) r) : jb_V Γ d zq_0 18 [some (.ref 0), some (.ref 1), some (.ref 79), some (.int s.1)] [] (zE L, s.2.1, s.2.2) v σ2 := by
  obtain ⟨d, rfl⟩ : ∃ e, d = e + 1 := ⟨d - 1, by omega⟩
  unfold zf_0_H18 at h
  refine jb_seg 6 (pc' := (if ((Int32.ofNat L) - 6) < s.1 then 1319 else 27)) (ls' := [some (.ref 0), some (.ref 1), some (.ref 79), some (.int s.1)]) (st' := []) (σ' := (zE L, s.2.1, s.2.2)) (G := []) rfl trivial ?_
  refine jb_ite (fun c => ?_) (fun c => ?_)
  · replace h := (if_pos c).symm.trans h
    refine jb_seg 1 (pc' := 1320) (ls' := [some (.ref 0), some (.ref 1), some (.ref 79), some (.int s.1)]) (st' := [(.int 1)]) (σ' := (zE L, s.2.1, s.2.2)) (G := []) rfl trivial ?_
    obtain rfl := Option.some.inj h
    obtain ⟨rfl, rfl⟩ := hK
    exact jb_retz (by decide) rfl rfl
  · replace h := (if_neg c).symm.trans h
    obtain ⟨g1, h⟩ := jb_gd_of h
    refine jb_seg 5 (pc' := 33) (ls' := [some (.ref 0), some (.ref 1), some (.ref 79), some (.int s.1)]) (st' := [(.int ((s.2.1 0 (s.1).toNatClampNeg) &&& 63))]) (σ' := (zE L, s.2.1, s.2.2)) (G := [vp_in s.1 L]) rfl g1 ?_
    refine jb_tsw [(0, 184), (1, 227), (2, 290), (3, 323), (4, 386), (5, 409), (6, 452), (7, 475), (8, 498), (9, 531), (10, 564), (11, 597), (12, 630), (13, 663), (14, 696), (15, 729), (16, 752), (17, 795), (18, 838), (19, 871), (20, 914), (21, 967), (22, 1016), (23, 1039), (24, 1072), (25, 1106), (26, 1129), (27, 1152), (28, 1195), (29, 1218), (30, 1241), (31, 1254), (32, 1267), (33, 1290)] 1313 rfl (by decide +kernel) ?_
    refine jb_swc (fun c => ?_) (fun c => ?_)
    · replace h := (if_pos c).symm.trans h
      obtain ⟨g2, h⟩ := jb_gd_of h
      obtain ⟨g3, h⟩ := jb_gd_of h
      obtain ⟨g4, h⟩ := jb_gd_of h
      refine jb_seg 16 (pc' := 200) (ls' := [some (.ref 0), some (.ref 1), some (.ref 79), some (.int s.1)]) (st' := [(.int (s.2.1 0 ((s.1 + 3)).toNatClampNeg)), (.int (s.2.1 0 ((s.1 + 2)).toNatClampNeg)), (.int (s.2.1 0 ((s.1 + 1)).toNatClampNeg)), (.ref 1)]) (σ' := (zE L, s.2.1, s.2.2)) (G := [vp_in (s.1 + 1) L, vp_in (s.1 + 2) L, vp_in (s.1 + 3) L]) rfl ⟨g2, g3, g4⟩ ?_
      obtain ⟨q5, h5, h⟩ := jb_bd_of h
      refine jb_callV (q' := zq_126) (As := [(.int (s.2.1 0 ((s.1 + 1)).toNatClampNeg)), (.int (s.2.1 0 ((s.1 + 2)).toNatClampNeg)), (.int (s.2.1 0 ((s.1 + 3)).toNatClampNeg))]) (rest := []) (σ1 := (zE L, q5.2, s.2.2)) (v := some (.int (jb_b2i q5.1))) rfl rfl zp_126 rfl (Nat.le_of_ble_eq_true rfl) (jb_cat rfl) (Nat.le_of_ble_eq_true rfl) (Nat.le_of_ble_eq_true rfl) (Or.inl rfl) rfl (ze_126 (by omega) (s.2.1 0 ((s.1 + 1)).toNatClampNeg) (s.2.1 0 ((s.1 + 2)).toNatClampNeg) (s.2.1 0 ((s.1 + 3)).toNatClampNeg) s.2.1 s.2.2 h5) ?_
      obtain ⟨g6, h⟩ := jb_gd_of h
      obtain ⟨g7, h⟩ := jb_gd_of h
      obtain ⟨g8, h⟩ := jb_gd_of h
      refine jb_seg 16 (pc' := 219) (ls' := [some (.ref 0), some (.ref 1), some (.ref 79), some (.int s.1)]) (st' := [(.int (q5.2 0 ((s.1 + 3)).toNatClampNeg)), (.int (q5.2 0 ((s.1 + 2)).toNatClampNeg)), (.int (q5.2 0 ((s.1 + 1)).toNatClampNeg)), (.ref 79), (.int (jb_b2i q5.1))]) (σ' := (zE L, q5.2, s.2.2)) (G := [vp_in (s.1 + 1) L, vp_in (s.1 + 2) L, vp_in (s.1 + 3) L]) rfl ⟨g6, g7, g8⟩ ?_
      obtain ⟨q9, h9, h⟩ := jb_bd_of h
      refine jb_callV (q' := zq_175) (As := [(.int (q5.2 0 ((s.1 + 1)).toNatClampNeg)), (.int (q5.2 0 ((s.1 + 2)).toNatClampNeg)), (.int (q5.2 0 ((s.1 + 3)).toNatClampNeg))]) (rest := [(.int (jb_b2i q5.1))]) (σ1 := (zE L, q9.2, s.2.2)) (v := some (.int (jb_b2i q9.1))) rfl rfl zp_175 rfl (Nat.le_of_ble_eq_true rfl) (jb_cat rfl) (Nat.le_of_ble_eq_true rfl) (Nat.le_of_ble_eq_true rfl) (Or.inl rfl) rfl (ze_175 (by omega) (q5.2 0 ((s.1 + 1)).toNatClampNeg) (q5.2 0 ((s.1 + 2)).toNatClampNeg) (q5.2 0 ((s.1 + 3)).toNatClampNeg) q5.2 s.2.2 h9) ?_
      refine jb_seg 1 (pc' := (if (jb_b2i q5.1) = (jb_b2i q9.1) then 1313 else 225)) (ls' := [some (.ref 0), some (.ref 1), some (.ref 79), some (.int s.1)]) (st' := []) (σ' := (zE L, q9.2, s.2.2)) (G := []) rfl trivial ?_
      refine jb_ite (fun c => ?_) (fun c => ?_)
      · replace h := (if_pos c).symm.trans h
        exact jb_mask [true, true, true, true] rfl (zg_0_J1313 hd L s.1 q9.2 s.2.2 h hK)
      · replace h := (if_neg c).symm.trans h
        refine jb_seg 1 (pc' := 226) (ls' := [some (.ref 0), some (.ref 1), some (.ref 79), some (.int s.1)]) (st' := [(.int 0)]) (σ' := (zE L, q9.2, s.2.2)) (G := []) rfl trivial ?_
        obtain rfl := Option.some.inj h
        obtain ⟨rfl, rfl⟩ := hK
        exact jb_retz (by decide) rfl rfl
    · replace h := (if_neg c).symm.trans h
      refine jb_swc (fun c => ?_) (fun c => ?_)
      · replace h := (if_pos c).symm.trans h
        obtain ⟨g10, h⟩ := jb_gd_of h
        obtain ⟨g11, h⟩ := jb_gd_of h
        obtain ⟨g12, h⟩ := jb_gd_of h
        obtain ⟨g13, h⟩ := jb_gd_of h
        obtain ⟨g14, h⟩ := jb_gd_of h
        refine jb_seg 26 (pc' := 253) (ls' := [some (.ref 0), some (.ref 1), some (.ref 79), some (.int s.1)]) (st' := [(.int (s.2.1 0 ((s.1 + 5)).toNatClampNeg)), (.int (s.2.1 0 ((s.1 + 4)).toNatClampNeg)), (.int (s.2.1 0 ((s.1 + 3)).toNatClampNeg)), (.int (s.2.1 0 ((s.1 + 2)).toNatClampNeg)), (.int (s.2.1 0 ((s.1 + 1)).toNatClampNeg)), (.ref 1)]) (σ' := (zE L, s.2.1, s.2.2)) (G := [vp_in (s.1 + 1) L, vp_in (s.1 + 2) L, vp_in (s.1 + 3) L, vp_in (s.1 + 4) L, vp_in (s.1 + 5) L]) rfl ⟨g10, g11, g12, g13, g14⟩ ?_
        obtain ⟨q15, h15, h⟩ := jb_bd_of h
        refine jb_callV (q' := zq_127) (As := [(.int (s.2.1 0 ((s.1 + 1)).toNatClampNeg)), (.int (s.2.1 0 ((s.1 + 2)).toNatClampNeg)), (.int (s.2.1 0 ((s.1 + 3)).toNatClampNeg)), (.int (s.2.1 0 ((s.1 + 4)).toNatClampNeg)), (.int (s.2.1 0 ((s.1 + 5)).toNatClampNeg))]) (rest := []) (σ1 := (zE L, q15.2, s.2.2)) (v := some (.int (jb_b2i q15.1))) rfl rfl zp_127 rfl (Nat.le_of_ble_eq_true rfl) (jb_cat rfl) (Nat.le_of_ble_eq_true rfl) (Nat.le_of_ble_eq_true rfl) (Or.inl rfl) rfl (ze_127 (by omega) (s.2.1 0 ((s.1 + 1)).toNatClampNeg) (s.2.1 0 ((s.1 + 2)).toNatClampNeg) (s.2.1 0 ((s.1 + 3)).toNatClampNeg) (s.2.1 0 ((s.1 + 4)).toNatClampNeg) (s.2.1 0 ((s.1 + 5)).toNatClampNeg) s.2.1 s.2.2 h15) ?_
        obtain ⟨g16, h⟩ := jb_gd_of h
        obtain ⟨g17, h⟩ := jb_gd_of h
        obtain ⟨g18, h⟩ := jb_gd_of h
        obtain ⟨g19, h⟩ := jb_gd_of h
        obtain ⟨g20, h⟩ := jb_gd_of h
        refine jb_seg 26 (pc' := 282) (ls' := [some (.ref 0), some (.ref 1), some (.ref 79), some (.int s.1)]) (st' := [(.int (q15.2 0 ((s.1 + 5)).toNatClampNeg)), (.int (q15.2 0 ((s.1 + 4)).toNatClampNeg)), (.int (q15.2 0 ((s.1 + 3)).toNatClampNeg)), (.int (q15.2 0 ((s.1 + 2)).toNatClampNeg)), (.int (q15.2 0 ((s.1 + 1)).toNatClampNeg)), (.ref 79), (.int (jb_b2i q15.1))]) (σ' := (zE L, q15.2, s.2.2)) (G := [vp_in (s.1 + 1) L, vp_in (s.1 + 2) L, vp_in (s.1 + 3) L, vp_in (s.1 + 4) L, vp_in (s.1 + 5) L]) rfl ⟨g16, g17, g18, g19, g20⟩ ?_
        obtain ⟨q21, h21, h⟩ := jb_bd_of h
        refine jb_callV (q' := zq_176) (As := [(.int (q15.2 0 ((s.1 + 1)).toNatClampNeg)), (.int (q15.2 0 ((s.1 + 2)).toNatClampNeg)), (.int (q15.2 0 ((s.1 + 3)).toNatClampNeg)), (.int (q15.2 0 ((s.1 + 4)).toNatClampNeg)), (.int (q15.2 0 ((s.1 + 5)).toNatClampNeg))]) (rest := [(.int (jb_b2i q15.1))]) (σ1 := (zE L, q21.2, s.2.2)) (v := some (.int (jb_b2i q21.1))) rfl rfl zp_176 rfl (Nat.le_of_ble_eq_true rfl) (jb_cat rfl) (Nat.le_of_ble_eq_true rfl) (Nat.le_of_ble_eq_true rfl) (Or.inl rfl) rfl (ze_176 (by omega) (q15.2 0 ((s.1 + 1)).toNatClampNeg) (q15.2 0 ((s.1 + 2)).toNatClampNeg) (q15.2 0 ((s.1 + 3)).toNatClampNeg) (q15.2 0 ((s.1 + 4)).toNatClampNeg) (q15.2 0 ((s.1 + 5)).toNatClampNeg) q15.2 s.2.2 h21) ?_
        refine jb_seg 1 (pc' := (if (jb_b2i q15.1) = (jb_b2i q21.1) then 1313 else 288)) (ls' := [some (.ref 0), some (.ref 1), some (.ref 79), some (.int s.1)]) (st' := []) (σ' := (zE L, q21.2, s.2.2)) (G := []) rfl trivial ?_
        refine jb_ite (fun c => ?_) (fun c => ?_)
        · replace h := (if_pos c).symm.trans h
          exact jb_mask [true, true, true, true] rfl (zg_0_J1313 hd L s.1 q21.2 s.2.2 h hK)
        · replace h := (if_neg c).symm.trans h
          refine jb_seg 1 (pc' := 289) (ls' := [some (.ref 0), some (.ref 1), some (.ref 79), some (.int s.1)]) (st' := [(.int 0)]) (σ' := (zE L, q21.2, s.2.2)) (G := []) rfl trivial ?_
          obtain rfl := Option.some.inj h
          obtain ⟨rfl, rfl⟩ := hK
          exact jb_retz (by decide) rfl rfl
      · replace h := (if_neg c).symm.trans h
        refine jb_swc (fun c => ?_) (fun c => ?_)
        · replace h := (if_pos c).symm.trans h
          obtain ⟨g22, h⟩ := jb_gd_of h
          obtain ⟨g23, h⟩ := jb_gd_of h
          refine jb_seg 11 (pc' := 301) (ls' := [some (.ref 0), some (.ref 1), some (.ref 79), some (.int s.1)]) (st' := [(.int (s.2.1 0 ((s.1 + 2)).toNatClampNeg)), (.int (s.2.1 0 ((s.1 + 1)).toNatClampNeg)), (.ref 1)]) (σ' := (zE L, s.2.1, s.2.2)) (G := [vp_in (s.1 + 1) L, vp_in (s.1 + 2) L]) rfl ⟨g22, g23⟩ ?_
          obtain ⟨q24, h24, h⟩ := jb_bd_of h
          refine jb_callV (q' := zq_128) (As := [(.int (s.2.1 0 ((s.1 + 1)).toNatClampNeg)), (.int (s.2.1 0 ((s.1 + 2)).toNatClampNeg))]) (rest := []) (σ1 := (zE L, q24.2, s.2.2)) (v := some (.int (jb_b2i q24.1))) rfl rfl zp_128 rfl (Nat.le_of_ble_eq_true rfl) (jb_cat rfl) (Nat.le_of_ble_eq_true rfl) (Nat.le_of_ble_eq_true rfl) (Or.inl rfl) rfl (ze_128 (by omega) (s.2.1 0 ((s.1 + 1)).toNatClampNeg) (s.2.1 0 ((s.1 + 2)).toNatClampNeg) s.2.1 s.2.2 h24) ?_
          obtain ⟨g25, h⟩ := jb_gd_of h
          obtain ⟨g26, h⟩ := jb_gd_of h
          refine jb_seg 11 (pc' := 315) (ls' := [some (.ref 0), some (.ref 1), some (.ref 79), some (.int s.1)]) (st' := [(.int (q24.2 0 ((s.1 + 2)).toNatClampNeg)), (.int (q24.2 0 ((s.1 + 1)).toNatClampNeg)), (.ref 79), (.int (jb_b2i q24.1))]) (σ' := (zE L, q24.2, s.2.2)) (G := [vp_in (s.1 + 1) L, vp_in (s.1 + 2) L]) rfl ⟨g25, g26⟩ ?_
          obtain ⟨q27, h27, h⟩ := jb_bd_of h
          refine jb_callV (q' := zq_177) (As := [(.int (q24.2 0 ((s.1 + 1)).toNatClampNeg)), (.int (q24.2 0 ((s.1 + 2)).toNatClampNeg))]) (rest := [(.int (jb_b2i q24.1))]) (σ1 := (zE L, q27.2, s.2.2)) (v := some (.int (jb_b2i q27.1))) rfl rfl zp_177 rfl (Nat.le_of_ble_eq_true rfl) (jb_cat rfl) (Nat.le_of_ble_eq_true rfl) (Nat.le_of_ble_eq_true rfl) (Or.inl rfl) rfl (ze_177 (by omega) (q24.2 0 ((s.1 + 1)).toNatClampNeg) (q24.2 0 ((s.1 + 2)).toNatClampNeg) q24.2 s.2.2 h27) ?_
          refine jb_seg 1 (pc' := (if (jb_b2i q24.1) = (jb_b2i q27.1) then 1313 else 321)) (ls' := [some (.ref 0), some (.ref 1), some (.ref 79), some (.int s.1)]) (st' := []) (σ' := (zE L, q27.2, s.2.2)) (G := []) rfl trivial ?_
          refine jb_ite (fun c => ?_) (fun c => ?_)
          · replace h := (if_pos c).symm.trans h
            exact jb_mask [true, true, true, true] rfl (zg_0_J1313 hd L s.1 q27.2 s.2.2 h hK)
          · replace h := (if_neg c).symm.trans h
            refine jb_seg 1 (pc' := 322) (ls' := [some (.ref 0), some (.ref 1), some (.ref 79), some (.int s.1)]) (st' := [(.int 0)]) (σ' := (zE L, q27.2, s.2.2)) (G := []) rfl trivial ?_
            obtain rfl := Option.some.inj h
            obtain ⟨rfl, rfl⟩ := hK
            exact jb_retz (by decide) rfl rfl
        · replace h := (if_neg c).symm.trans h
          refine jb_swc (fun c => ?_) (fun c => ?_)
          · replace h := (if_pos c).symm.trans h
            obtain ⟨g28, h⟩ := jb_gd_of h
            obtain ⟨g29, h⟩ := jb_gd_of h
            obtain ⟨g30, h⟩ := jb_gd_of h
            obtain ⟨g31, h⟩ := jb_gd_of h
            obtain ⟨g32, h⟩ := jb_gd_of h
            refine jb_seg 26 (pc' := 349) (ls' := [some (.ref 0), some (.ref 1), some (.ref 79), some (.int s.1)]) (st' := [(.int (s.2.1 0 ((s.1 + 5)).toNatClampNeg)), (.int (s.2.1 0 ((s.1 + 4)).toNatClampNeg)), (.int (s.2.1 0 ((s.1 + 3)).toNatClampNeg)), (.int (s.2.1 0 ((s.1 + 2)).toNatClampNeg)), (.int (s.2.1 0 ((s.1 + 1)).toNatClampNeg)), (.ref 1)]) (σ' := (zE L, s.2.1, s.2.2)) (G := [vp_in (s.1 + 1) L, vp_in (s.1 + 2) L, vp_in (s.1 + 3) L, vp_in (s.1 + 4) L, vp_in (s.1 + 5) L]) rfl ⟨g28, g29, g30, g31, g32⟩ ?_
            obtain ⟨q33, h33, h⟩ := jb_bd_of h
            refine jb_callV (q' := zq_129) (As := [(.int (s.2.1 0 ((s.1 + 1)).toNatClampNeg)), (.int (s.2.1 0 ((s.1 + 2)).toNatClampNeg)), (.int (s.2.1 0 ((s.1 + 3)).toNatClampNeg)), (.int (s.2.1 0 ((s.1 + 4)).toNatClampNeg)), (.int (s.2.1 0 ((s.1 + 5)).toNatClampNeg))]) (rest := []) (σ1 := (zE L, q33.2, s.2.2)) (v := some (.int q33.1)) rfl rfl zp_129 rfl (Nat.le_of_ble_eq_true rfl) (jb_cat rfl) (Nat.le_of_ble_eq_true rfl) (Nat.le_of_ble_eq_true rfl) (Or.inl rfl) rfl (ze_129 (by omega) (s.2.1 0 ((s.1 + 1)).toNatClampNeg) (s.2.1 0 ((s.1 + 2)).toNatClampNeg) (s.2.1 0 ((s.1 + 3)).toNatClampNeg) (s.2.1 0 ((s.1 + 4)).toNatClampNeg) (s.2.1 0 ((s.1 + 5)).toNatClampNeg) s.2.1 s.2.2 h33) ?_
            obtain ⟨g34, h⟩ := jb_gd_of h
            obtain ⟨g35, h⟩ := jb_gd_of h
            obtain ⟨g36, h⟩ := jb_gd_of h
            obtain ⟨g37, h⟩ := jb_gd_of h
            obtain ⟨g38, h⟩ := jb_gd_of h
            refine jb_seg 26 (pc' := 378) (ls' := [some (.ref 0), some (.ref 1), some (.ref 79), some (.int s.1)]) (st' := [(.int (q33.2 0 ((s.1 + 5)).toNatClampNeg)), (.int (q33.2 0 ((s.1 + 4)).toNatClampNeg)), (.int (q33.2 0 ((s.1 + 3)).toNatClampNeg)), (.int (q33.2 0 ((s.1 + 2)).toNatClampNeg)), (.int (q33.2 0 ((s.1 + 1)).toNatClampNeg)), (.ref 79), (.int q33.1)]) (σ' := (zE L, q33.2, s.2.2)) (G := [vp_in (s.1 + 1) L, vp_in (s.1 + 2) L, vp_in (s.1 + 3) L, vp_in (s.1 + 4) L, vp_in (s.1 + 5) L]) rfl ⟨g34, g35, g36, g37, g38⟩ ?_
            obtain ⟨q39, h39, h⟩ := jb_bd_of h
            refine jb_callV (q' := zq_182) (As := [(.int (q33.2 0 ((s.1 + 1)).toNatClampNeg)), (.int (q33.2 0 ((s.1 + 2)).toNatClampNeg)), (.int (q33.2 0 ((s.1 + 3)).toNatClampNeg)), (.int (q33.2 0 ((s.1 + 4)).toNatClampNeg)), (.int (q33.2 0 ((s.1 + 5)).toNatClampNeg))]) (rest := [(.int q33.1)]) (σ1 := (zE L, q39.2, s.2.2)) (v := some (.int q39.1)) rfl rfl zp_182 rfl (Nat.le_of_ble_eq_true rfl) (jb_cat rfl) (Nat.le_of_ble_eq_true rfl) (Nat.le_of_ble_eq_true rfl) (Or.inl rfl) rfl (ze_182 (by omega) (q33.2 0 ((s.1 + 1)).toNatClampNeg) (q33.2 0 ((s.1 + 2)).toNatClampNeg) (q33.2 0 ((s.1 + 3)).toNatClampNeg) (q33.2 0 ((s.1 + 4)).toNatClampNeg) (q33.2 0 ((s.1 + 5)).toNatClampNeg) q33.2 s.2.2 h39) ?_
            refine jb_seg 1 (pc' := (if q33.1 = q39.1 then 1313 else 384)) (ls' := [some (.ref 0), some (.ref 1), some (.ref 79), some (.int s.1)]) (st' := []) (σ' := (zE L, q39.2, s.2.2)) (G := []) rfl trivial ?_
            refine jb_ite (fun c => ?_) (fun c => ?_)
            · replace h := (if_pos c).symm.trans h
              exact jb_mask [true, true, true, true] rfl (zg_0_J1313 hd L s.1 q39.2 s.2.2 h hK)
            · replace h := (if_neg c).symm.trans h
              refine jb_seg 1 (pc' := 385) (ls' := [some (.ref 0), some (.ref 1), some (.ref 79), some (.int s.1)]) (st' := [(.int 0)]) (σ' := (zE L, q39.2, s.2.2)) (G := []) rfl trivial ?_
              obtain rfl := Option.some.inj h
              obtain ⟨rfl, rfl⟩ := hK
              exact jb_retz (by decide) rfl rfl
          · replace h := (if_neg c).symm.trans h
            refine jb_swc (fun c => ?_) (fun c => ?_)
            · replace h := (if_pos c).symm.trans h
              obtain ⟨g40, h⟩ := jb_gd_of h
              refine jb_seg 6 (pc' := 392) (ls' := [some (.ref 0), some (.ref 1), some (.ref 79), some (.int s.1)]) (st' := [(.int (s.2.1 0 ((s.1 + 1)).toNatClampNeg)), (.ref 1)]) (σ' := (zE L, s.2.1, s.2.2)) (G := [vp_in (s.1 + 1) L]) rfl g40 ?_
              obtain ⟨q41, h41, h⟩ := jb_bd_of h
              refine jb_callV (q' := zq_130) (As := [(.int (s.2.1 0 ((s.1 + 1)).toNatClampNeg))]) (rest := []) (σ1 := (zE L, q41.2, s.2.2)) (v := some (.int q41.1)) rfl rfl zp_130 rfl (Nat.le_of_ble_eq_true rfl) (jb_cat rfl) (Nat.le_of_ble_eq_true rfl) (Nat.le_of_ble_eq_true rfl) (Or.inl rfl) rfl (ze_130 (by omega) (s.2.1 0 ((s.1 + 1)).toNatClampNeg) s.2.1 s.2.2 h41) ?_
              obtain ⟨g42, h⟩ := jb_gd_of h
              refine jb_seg 6 (pc' := 401) (ls' := [some (.ref 0), some (.ref 1), some (.ref 79), some (.int s.1)]) (st' := [(.int (q41.2 0 ((s.1 + 1)).toNatClampNeg)), (.ref 79), (.int q41.1)]) (σ' := (zE L, q41.2, s.2.2)) (G := [vp_in (s.1 + 1) L]) rfl g42 ?_
              obtain ⟨q43, h43, h⟩ := jb_bd_of h
              refine jb_callV (q' := zq_205) (As := [(.int (q41.2 0 ((s.1 + 1)).toNatClampNeg))]) (rest := [(.int q41.1)]) (σ1 := (zE L, q43.2, s.2.2)) (v := some (.int q43.1)) rfl rfl zp_205 rfl (Nat.le_of_ble_eq_true rfl) (jb_cat rfl) (Nat.le_of_ble_eq_true rfl) (Nat.le_of_ble_eq_true rfl) (Or.inl rfl) rfl (ze_205 (by omega) (q41.2 0 ((s.1 + 1)).toNatClampNeg) q41.2 s.2.2 h43) ?_
              refine jb_seg 1 (pc' := (if q41.1 = q43.1 then 1313 else 407)) (ls' := [some (.ref 0), some (.ref 1), some (.ref 79), some (.int s.1)]) (st' := []) (σ' := (zE L, q43.2, s.2.2)) (G := []) rfl trivial ?_
              refine jb_ite (fun c => ?_) (fun c => ?_)
              · replace h := (if_pos c).symm.trans h
                exact jb_mask [true, true, true, true] rfl (zg_0_J1313 hd L s.1 q43.2 s.2.2 h hK)
              · replace h := (if_neg c).symm.trans h
                refine jb_seg 1 (pc' := 408) (ls' := [some (.ref 0), some (.ref 1), some (.ref 79), some (.int s.1)]) (st' := [(.int 0)]) (σ' := (zE L, q43.2, s.2.2)) (G := []) rfl trivial ?_
                obtain rfl := Option.some.inj h
                obtain ⟨rfl, rfl⟩ := hK
                exact jb_retz (by decide) rfl rfl
            · replace h := (if_neg c).symm.trans h
              refine jb_swc (fun c => ?_) (fun c => ?_)
              · replace h := (if_pos c).symm.trans h
                obtain ⟨g44, h⟩ := jb_gd_of h
                obtain ⟨g45, h⟩ := jb_gd_of h
                obtain ⟨g46, h⟩ := jb_gd_of h
                refine jb_seg 16 (pc' := 425) (ls' := [some (.ref 0), some (.ref 1), some (.ref 79), some (.int s.1)]) (st' := [(.int (s.2.1 0 ((s.1 + 3)).toNatClampNeg)), (.int (s.2.1 0 ((s.1 + 2)).toNatClampNeg)), (.int (s.2.1 0 ((s.1 + 1)).toNatClampNeg)), (.ref 1)]) (σ' := (zE L, s.2.1, s.2.2)) (G := [vp_in (s.1 + 1) L, vp_in (s.1 + 2) L, vp_in (s.1 + 3) L]) rfl ⟨g44, g45, g46⟩ ?_
                obtain ⟨q47, h47, h⟩ := jb_bd_of h
                refine jb_callV (q' := zq_131) (As := [(.int (s.2.1 0 ((s.1 + 1)).toNatClampNeg)), (.int (s.2.1 0 ((s.1 + 2)).toNatClampNeg)), (.int (s.2.1 0 ((s.1 + 3)).toNatClampNeg))]) (rest := []) (σ1 := (zE L, q47.2, s.2.2)) (v := some (.int q47.1)) rfl rfl zp_131 rfl (Nat.le_of_ble_eq_true rfl) (jb_cat rfl) (Nat.le_of_ble_eq_true rfl) (Nat.le_of_ble_eq_true rfl) (Or.inl rfl) rfl (ze_131 (by omega) (s.2.1 0 ((s.1 + 1)).toNatClampNeg) (s.2.1 0 ((s.1 + 2)).toNatClampNeg) (s.2.1 0 ((s.1 + 3)).toNatClampNeg) s.2.1 s.2.2 h47) ?_
                obtain ⟨g48, h⟩ := jb_gd_of h
                obtain ⟨g49, h⟩ := jb_gd_of h
                obtain ⟨g50, h⟩ := jb_gd_of h
                refine jb_seg 16 (pc' := 444) (ls' := [some (.ref 0), some (.ref 1), some (.ref 79), some (.int s.1)]) (st' := [(.int (q47.2 0 ((s.1 + 3)).toNatClampNeg)), (.int (q47.2 0 ((s.1 + 2)).toNatClampNeg)), (.int (q47.2 0 ((s.1 + 1)).toNatClampNeg)), (.ref 79), (.int q47.1)]) (σ' := (zE L, q47.2, s.2.2)) (G := [vp_in (s.1 + 1) L, vp_in (s.1 + 2) L, vp_in (s.1 + 3) L]) rfl ⟨g48, g49, g50⟩ ?_
                obtain ⟨q51, h51, h⟩ := jb_bd_of h
                refine jb_callV (q' := zq_215) (As := [(.int (q47.2 0 ((s.1 + 1)).toNatClampNeg)), (.int (q47.2 0 ((s.1 + 2)).toNatClampNeg)), (.int (q47.2 0 ((s.1 + 3)).toNatClampNeg))]) (rest := [(.int q47.1)]) (σ1 := (zE L, q51.2, s.2.2)) (v := some (.int q51.1)) rfl rfl zp_215 rfl (Nat.le_of_ble_eq_true rfl) (jb_cat rfl) (Nat.le_of_ble_eq_true rfl) (Nat.le_of_ble_eq_true rfl) (Or.inl rfl) rfl (ze_215 (by omega) (q47.2 0 ((s.1 + 1)).toNatClampNeg) (q47.2 0 ((s.1 + 2)).toNatClampNeg) (q47.2 0 ((s.1 + 3)).toNatClampNeg) q47.2 s.2.2 h51) ?_
                refine jb_seg 1 (pc' := (if q47.1 = q51.1 then 1313 else 450)) (ls' := [some (.ref 0), some (.ref 1), some (.ref 79), some (.int s.1)]) (st' := []) (σ' := (zE L, q51.2, s.2.2)) (G := []) rfl trivial ?_
                refine jb_ite (fun c => ?_) (fun c => ?_)
                · replace h := (if_pos c).symm.trans h
                  exact jb_mask [true, true, true, true] rfl (zg_0_J1313 hd L s.1 q51.2 s.2.2 h hK)
                · replace h := (if_neg c).symm.trans h
                  refine jb_seg 1 (pc' := 451) (ls' := [some (.ref 0), some (.ref 1), some (.ref 79), some (.int s.1)]) (st' := [(.int 0)]) (σ' := (zE L, q51.2, s.2.2)) (G := []) rfl trivial ?_
                  obtain rfl := Option.some.inj h
                  obtain ⟨rfl, rfl⟩ := hK
                  exact jb_retz (by decide) rfl rfl
              · replace h := (if_neg c).symm.trans h
                refine jb_swc (fun c => ?_) (fun c => ?_)
                · replace h := (if_pos c).symm.trans h
                  obtain ⟨g52, h⟩ := jb_gd_of h
                  refine jb_seg 6 (pc' := 458) (ls' := [some (.ref 0), some (.ref 1), some (.ref 79), some (.int s.1)]) (st' := [(.int (s.2.1 0 ((s.1 + 1)).toNatClampNeg)), (.ref 1)]) (σ' := (zE L, s.2.1, s.2.2)) (G := [vp_in (s.1 + 1) L]) rfl g52 ?_
                  obtain ⟨q53, h53, h⟩ := jb_bd_of h
                  refine jb_callV (q' := zq_132) (As := [(.int (s.2.1 0 ((s.1 + 1)).toNatClampNeg))]) (rest := []) (σ1 := (zE L, q53.2, s.2.2)) (v := some (.int q53.1)) rfl rfl zp_132 rfl (Nat.le_of_ble_eq_true rfl) (jb_cat rfl) (Nat.le_of_ble_eq_true rfl) (Nat.le_of_ble_eq_true rfl) (Or.inl rfl) rfl (ze_132 (by omega) (s.2.1 0 ((s.1 + 1)).toNatClampNeg) s.2.1 s.2.2 h53) ?_
                  obtain ⟨g54, h⟩ := jb_gd_of h
                  refine jb_seg 6 (pc' := 467) (ls' := [some (.ref 0), some (.ref 1), some (.ref 79), some (.int s.1)]) (st' := [(.int (q53.2 0 ((s.1 + 1)).toNatClampNeg)), (.ref 79), (.int q53.1)]) (σ' := (zE L, q53.2, s.2.2)) (G := [vp_in (s.1 + 1) L]) rfl g54 ?_
                  obtain ⟨q55, h55, h⟩ := jb_bd_of h
                  refine jb_callV (q' := zq_222) (As := [(.int (q53.2 0 ((s.1 + 1)).toNatClampNeg))]) (rest := [(.int q53.1)]) (σ1 := (zE L, q55.2, s.2.2)) (v := some (.int q55.1)) rfl rfl zp_222 rfl (Nat.le_of_ble_eq_true rfl) (jb_cat rfl) (Nat.le_of_ble_eq_true rfl) (Nat.le_of_ble_eq_true rfl) (Or.inl rfl) rfl (ze_222 (by omega) (q53.2 0 ((s.1 + 1)).toNatClampNeg) q53.2 s.2.2 h55) ?_
                  refine jb_seg 1 (pc' := (if q53.1 = q55.1 then 1313 else 473)) (ls' := [some (.ref 0), some (.ref 1), some (.ref 79), some (.int s.1)]) (st' := []) (σ' := (zE L, q55.2, s.2.2)) (G := []) rfl trivial ?_
                  refine jb_ite (fun c => ?_) (fun c => ?_)
                  · replace h := (if_pos c).symm.trans h
                    exact jb_mask [true, true, true, true] rfl (zg_0_J1313 hd L s.1 q55.2 s.2.2 h hK)
                  · replace h := (if_neg c).symm.trans h
                    refine jb_seg 1 (pc' := 474) (ls' := [some (.ref 0), some (.ref 1), some (.ref 79), some (.int s.1)]) (st' := [(.int 0)]) (σ' := (zE L, q55.2, s.2.2)) (G := []) rfl trivial ?_
                    obtain rfl := Option.some.inj h
                    obtain ⟨rfl, rfl⟩ := hK
                    exact jb_retz (by decide) rfl rfl
                · replace h := (if_neg c).symm.trans h
                  refine jb_swc (fun c => ?_) (fun c => ?_)
                  · replace h := (if_pos c).symm.trans h
                    obtain ⟨g56, h⟩ := jb_gd_of h
                    refine jb_seg 6 (pc' := 481) (ls' := [some (.ref 0), some (.ref 1), some (.ref 79), some (.int s.1)]) (st' := [(.int (s.2.1 0 ((s.1 + 1)).toNatClampNeg)), (.ref 1)]) (σ' := (zE L, s.2.1, s.2.2)) (G := [vp_in (s.1 + 1) L]) rfl g56 ?_
                    obtain ⟨q57, h57, h⟩ := jb_bd_of h
                    refine jb_callV (q' := zq_133) (As := [(.int (s.2.1 0 ((s.1 + 1)).toNatClampNeg))]) (rest := []) (σ1 := (zE L, q57.2, s.2.2)) (v := some (.int q57.1)) rfl rfl zp_133 rfl (Nat.le_of_ble_eq_true rfl) (jb_cat rfl) (Nat.le_of_ble_eq_true rfl) (Nat.le_of_ble_eq_true rfl) (Or.inl rfl) rfl (ze_133 (by omega) (s.2.1 0 ((s.1 + 1)).toNatClampNeg) s.2.1 s.2.2 h57) ?_
                    obtain ⟨g58, h⟩ := jb_gd_of h
                    refine jb_seg 6 (pc' := 490) (ls' := [some (.ref 0), some (.ref 1), some (.ref 79), some (.int s.1)]) (st' := [(.int (q57.2 0 ((s.1 + 1)).toNatClampNeg)), (.ref 79), (.int q57.1)]) (σ' := (zE L, q57.2, s.2.2)) (G := [vp_in (s.1 + 1) L]) rfl g58 ?_
                    obtain ⟨q59, h59, h⟩ := jb_bd_of h
                    refine jb_callV (q' := zq_228) (As := [(.int (q57.2 0 ((s.1 + 1)).toNatClampNeg))]) (rest := [(.int q57.1)]) (σ1 := (zE L, q59.2, s.2.2)) (v := some (.int q59.1)) rfl rfl zp_228 rfl (Nat.le_of_ble_eq_true rfl) (jb_cat rfl) (Nat.le_of_ble_eq_true rfl) (Nat.le_of_ble_eq_true rfl) (Or.inl rfl) rfl (ze_228 (by omega) (q57.2 0 ((s.1 + 1)).toNatClampNeg) q57.2 s.2.2 h59) ?_
                    refine jb_seg 1 (pc' := (if q57.1 = q59.1 then 1313 else 496)) (ls' := [some (.ref 0), some (.ref 1), some (.ref 79), some (.int s.1)]) (st' := []) (σ' := (zE L, q59.2, s.2.2)) (G := []) rfl trivial ?_
                    refine jb_ite (fun c => ?_) (fun c => ?_)
                    · replace h := (if_pos c).symm.trans h
                      exact jb_mask [true, true, true, true] rfl (zg_0_J1313 hd L s.1 q59.2 s.2.2 h hK)
                    · replace h := (if_neg c).symm.trans h
                      refine jb_seg 1 (pc' := 497) (ls' := [some (.ref 0), some (.ref 1), some (.ref 79), some (.int s.1)]) (st' := [(.int 0)]) (σ' := (zE L, q59.2, s.2.2)) (G := []) rfl trivial ?_
                      obtain rfl := Option.some.inj h
                      obtain ⟨rfl, rfl⟩ := hK
                      exact jb_retz (by decide) rfl rfl
                  · replace h := (if_neg c).symm.trans h
                    refine jb_swc (fun c => ?_) (fun c => ?_)
                    · replace h := (if_pos c).symm.trans h
                      obtain ⟨g60, h⟩ := jb_gd_of h
                      obtain ⟨g61, h⟩ := jb_gd_of h
                      refine jb_seg 11 (pc' := 509) (ls' := [some (.ref 0), some (.ref 1), some (.ref 79), some (.int s.1)]) (st' := [(.int (s.2.1 0 ((s.1 + 2)).toNatClampNeg)), (.int (s.2.1 0 ((s.1 + 1)).toNatClampNeg)), (.ref 1)]) (σ' := (zE L, s.2.1, s.2.2)) (G := [vp_in (s.1 + 1) L, vp_in (s.1 + 2) L]) rfl ⟨g60, g61⟩ ?_
                      obtain ⟨q62, h62, h⟩ := jb_bd_of h
                      refine jb_callV (q' := zq_135) (As := [(.int (s.2.1 0 ((s.1 + 1)).toNatClampNeg)), (.int (s.2.1 0 ((s.1 + 2)).toNatClampNeg))]) (rest := []) (σ1 := (zE L, q62.2, s.2.2)) (v := some (.int q62.1)) rfl rfl zp_135 rfl (Nat.le_of_ble_eq_true rfl) (jb_cat rfl) (Nat.le_of_ble_eq_true rfl) (Nat.le_of_ble_eq_true rfl) (Or.inl rfl) rfl (ze_135 (by omega) (s.2.1 0 ((s.1 + 1)).toNatClampNeg) (s.2.1 0 ((s.1 + 2)).toNatClampNeg) s.2.1 s.2.2 h62) ?_
                      obtain ⟨g63, h⟩ := jb_gd_of h
                      obtain ⟨g64, h⟩ := jb_gd_of h
                      refine jb_seg 11 (pc' := 523) (ls' := [some (.ref 0), some (.ref 1), some (.ref 79), some (.int s.1)]) (st' := [(.int (q62.2 0 ((s.1 + 2)).toNatClampNeg)), (.int (q62.2 0 ((s.1 + 1)).toNatClampNeg)), (.ref 79), (.int q62.1)]) (σ' := (zE L, q62.2, s.2.2)) (G := [vp_in (s.1 + 1) L, vp_in (s.1 + 2) L]) rfl ⟨g63, g64⟩ ?_
                      obtain ⟨q65, h65, h⟩ := jb_bd_of h
                      refine jb_callV (q' := zq_229) (As := [(.int (q62.2 0 ((s.1 + 1)).toNatClampNeg)), (.int (q62.2 0 ((s.1 + 2)).toNatClampNeg))]) (rest := [(.int q62.1)]) (σ1 := (zE L, q65.2, s.2.2)) (v := some (.int q65.1)) rfl rfl zp_229 rfl (Nat.le_of_ble_eq_true rfl) (jb_cat rfl) (Nat.le_of_ble_eq_true rfl) (Nat.le_of_ble_eq_true rfl) (Or.inl rfl) rfl (ze_229 (by omega) (q62.2 0 ((s.1 + 1)).toNatClampNeg) (q62.2 0 ((s.1 + 2)).toNatClampNeg) q62.2 s.2.2 h65) ?_
                      refine jb_seg 1 (pc' := (if q62.1 = q65.1 then 1313 else 529)) (ls' := [some (.ref 0), some (.ref 1), some (.ref 79), some (.int s.1)]) (st' := []) (σ' := (zE L, q65.2, s.2.2)) (G := []) rfl trivial ?_
                      refine jb_ite (fun c => ?_) (fun c => ?_)
                      · replace h := (if_pos c).symm.trans h
                        exact jb_mask [true, true, true, true] rfl (zg_0_J1313 hd L s.1 q65.2 s.2.2 h hK)
                      · replace h := (if_neg c).symm.trans h
                        refine jb_seg 1 (pc' := 530) (ls' := [some (.ref 0), some (.ref 1), some (.ref 79), some (.int s.1)]) (st' := [(.int 0)]) (σ' := (zE L, q65.2, s.2.2)) (G := []) rfl trivial ?_
                        obtain rfl := Option.some.inj h
                        obtain ⟨rfl, rfl⟩ := hK
                        exact jb_retz (by decide) rfl rfl
                    · replace h := (if_neg c).symm.trans h
                      refine jb_swc (fun c => ?_) (fun c => ?_)
                      · replace h := (if_pos c).symm.trans h
                        obtain ⟨g66, h⟩ := jb_gd_of h
                        obtain ⟨g67, h⟩ := jb_gd_of h
                        refine jb_seg 11 (pc' := 542) (ls' := [some (.ref 0), some (.ref 1), some (.ref 79), some (.int s.1)]) (st' := [(.int (s.2.1 0 ((s.1 + 2)).toNatClampNeg)), (.int (s.2.1 0 ((s.1 + 1)).toNatClampNeg)), (.ref 1)]) (σ' := (zE L, s.2.1, s.2.2)) (G := [vp_in (s.1 + 1) L, vp_in (s.1 + 2) L]) rfl ⟨g66, g67⟩ ?_
                        obtain ⟨q68, h68, h⟩ := jb_bd_of h
                        refine jb_callV (q' := zq_136) (As := [(.int (s.2.1 0 ((s.1 + 1)).toNatClampNeg)), (.int (s.2.1 0 ((s.1 + 2)).toNatClampNeg))]) (rest := []) (σ1 := (zE L, s.2.1, s.2.2)) (v := some (.int q68)) rfl rfl zp_136 rfl (Nat.le_of_ble_eq_true rfl) (jb_cat rfl) (Nat.le_of_ble_eq_true rfl) (Nat.le_of_ble_eq_true rfl) (Or.inl rfl) rfl (ze_136 (by omega) (s.2.1 0 ((s.1 + 1)).toNatClampNeg) (s.2.1 0 ((s.1 + 2)).toNatClampNeg) s.2.1 s.2.2 h68) ?_
                        obtain ⟨g69, h⟩ := jb_gd_of h
                        obtain ⟨g70, h⟩ := jb_gd_of h
                        refine jb_seg 11 (pc' := 556) (ls' := [some (.ref 0), some (.ref 1), some (.ref 79), some (.int s.1)]) (st' := [(.int (s.2.1 0 ((s.1 + 2)).toNatClampNeg)), (.int (s.2.1 0 ((s.1 + 1)).toNatClampNeg)), (.ref 79), (.int q68)]) (σ' := (zE L, s.2.1, s.2.2)) (G := [vp_in (s.1 + 1) L, vp_in (s.1 + 2) L]) rfl ⟨g69, g70⟩ ?_
                        obtain ⟨q71, h71, h⟩ := jb_bd_of h
                        refine jb_callV (q' := zq_234) (As := [(.int (s.2.1 0 ((s.1 + 1)).toNatClampNeg)), (.int (s.2.1 0 ((s.1 + 2)).toNatClampNeg))]) (rest := [(.int q68)]) (σ1 := (zE L, s.2.1, s.2.2)) (v := some (.int q71)) rfl rfl zp_234 rfl (Nat.le_of_ble_eq_true rfl) (jb_cat rfl) (Nat.le_of_ble_eq_true rfl) (Nat.le_of_ble_eq_true rfl) (Or.inl rfl) rfl (ze_234 (by omega) (s.2.1 0 ((s.1 + 1)).toNatClampNeg) (s.2.1 0 ((s.1 + 2)).toNatClampNeg) s.2.1 s.2.2 h71) ?_
                        refine jb_seg 1 (pc' := (if q68 = q71 then 1313 else 562)) (ls' := [some (.ref 0), some (.ref 1), some (.ref 79), some (.int s.1)]) (st' := []) (σ' := (zE L, s.2.1, s.2.2)) (G := []) rfl trivial ?_
                        refine jb_ite (fun c => ?_) (fun c => ?_)
                        · replace h := (if_pos c).symm.trans h
                          exact jb_mask [true, true, true, true] rfl (zg_0_J1313 hd L s.1 s.2.1 s.2.2 h hK)
                        · replace h := (if_neg c).symm.trans h
                          refine jb_seg 1 (pc' := 563) (ls' := [some (.ref 0), some (.ref 1), some (.ref 79), some (.int s.1)]) (st' := [(.int 0)]) (σ' := (zE L, s.2.1, s.2.2)) (G := []) rfl trivial ?_
                          obtain rfl := Option.some.inj h
                          obtain ⟨rfl, rfl⟩ := hK
                          exact jb_retz (by decide) rfl rfl
                      · replace h := (if_neg c).symm.trans h
                        refine jb_swc (fun c => ?_) (fun c => ?_)
                        · replace h := (if_pos c).symm.trans h
                          obtain ⟨g72, h⟩ := jb_gd_of h
                          obtain ⟨g73, h⟩ := jb_gd_of h
                          refine jb_seg 11 (pc' := 575) (ls' := [some (.ref 0), some (.ref 1), some (.ref 79), some (.int s.1)]) (st' := [(.int (s.2.1 0 ((s.1 + 2)).toNatClampNeg)), (.int (s.2.1 0 ((s.1 + 1)).toNatClampNeg)), (.ref 1)]) (σ' := (zE L, s.2.1, s.2.2)) (G := [vp_in (s.1 + 1) L, vp_in (s.1 + 2) L]) rfl ⟨g72, g73⟩ ?_
                          obtain ⟨q74, h74, h⟩ := jb_bd_of h
                          refine jb_callV (q' := zq_137) (As := [(.int (s.2.1 0 ((s.1 + 1)).toNatClampNeg)), (.int (s.2.1 0 ((s.1 + 2)).toNatClampNeg))]) (rest := []) (σ1 := (zE L, s.2.1, s.2.2)) (v := some (.int q74)) rfl rfl zp_137 rfl (Nat.le_of_ble_eq_true rfl) (jb_cat rfl) (Nat.le_of_ble_eq_true rfl) (Nat.le_of_ble_eq_true rfl) (Or.inl rfl) rfl (ze_137 (by omega) (s.2.1 0 ((s.1 + 1)).toNatClampNeg) (s.2.1 0 ((s.1 + 2)).toNatClampNeg) s.2.1 s.2.2 h74) ?_
                          obtain ⟨g75, h⟩ := jb_gd_of h
                          obtain ⟨g76, h⟩ := jb_gd_of h
                          refine jb_seg 11 (pc' := 589) (ls' := [some (.ref 0), some (.ref 1), some (.ref 79), some (.int s.1)]) (st' := [(.int (s.2.1 0 ((s.1 + 2)).toNatClampNeg)), (.int (s.2.1 0 ((s.1 + 1)).toNatClampNeg)), (.ref 79), (.int q74)]) (σ' := (zE L, s.2.1, s.2.2)) (G := [vp_in (s.1 + 1) L, vp_in (s.1 + 2) L]) rfl ⟨g75, g76⟩ ?_
                          obtain ⟨q77, h77, h⟩ := jb_bd_of h
                          refine jb_callV (q' := zq_235) (As := [(.int (s.2.1 0 ((s.1 + 1)).toNatClampNeg)), (.int (s.2.1 0 ((s.1 + 2)).toNatClampNeg))]) (rest := [(.int q74)]) (σ1 := (zE L, s.2.1, s.2.2)) (v := some (.int q77)) rfl rfl zp_235 rfl (Nat.le_of_ble_eq_true rfl) (jb_cat rfl) (Nat.le_of_ble_eq_true rfl) (Nat.le_of_ble_eq_true rfl) (Or.inl rfl) rfl (ze_235 (by omega) (s.2.1 0 ((s.1 + 1)).toNatClampNeg) (s.2.1 0 ((s.1 + 2)).toNatClampNeg) s.2.1 s.2.2 h77) ?_
                          refine jb_seg 1 (pc' := (if q74 = q77 then 1313 else 595)) (ls' := [some (.ref 0), some (.ref 1), some (.ref 79), some (.int s.1)]) (st' := []) (σ' := (zE L, s.2.1, s.2.2)) (G := []) rfl trivial ?_
                          refine jb_ite (fun c => ?_) (fun c => ?_)
                          · replace h := (if_pos c).symm.trans h
                            exact jb_mask [true, true, true, true] rfl (zg_0_J1313 hd L s.1 s.2.1 s.2.2 h hK)
                          · replace h := (if_neg c).symm.trans h
                            refine jb_seg 1 (pc' := 596) (ls' := [some (.ref 0), some (.ref 1), some (.ref 79), some (.int s.1)]) (st' := [(.int 0)]) (σ' := (zE L, s.2.1, s.2.2)) (G := []) rfl trivial ?_
                            obtain rfl := Option.some.inj h
                            obtain ⟨rfl, rfl⟩ := hK
                            exact jb_retz (by decide) rfl rfl
                        · replace h := (if_neg c).symm.trans h
                          refine jb_swc (fun c => ?_) (fun c => ?_)
                          · replace h := (if_pos c).symm.trans h
                            obtain ⟨g78, h⟩ := jb_gd_of h
                            obtain ⟨g79, h⟩ := jb_gd_of h
                            refine jb_seg 11 (pc' := 608) (ls' := [some (.ref 0), some (.ref 1), some (.ref 79), some (.int s.1)]) (st' := [(.int (s.2.1 0 ((s.1 + 2)).toNatClampNeg)), (.int (s.2.1 0 ((s.1 + 1)).toNatClampNeg)), (.ref 1)]) (σ' := (zE L, s.2.1, s.2.2)) (G := [vp_in (s.1 + 1) L, vp_in (s.1 + 2) L]) rfl ⟨g78, g79⟩ ?_
                            obtain ⟨q80, h80, h⟩ := jb_bd_of h
                            refine jb_callV (q' := zq_138) (As := [(.int (s.2.1 0 ((s.1 + 1)).toNatClampNeg)), (.int (s.2.1 0 ((s.1 + 2)).toNatClampNeg))]) (rest := []) (σ1 := (zE L, s.2.1, s.2.2)) (v := some (.int q80)) rfl rfl zp_138 rfl (Nat.le_of_ble_eq_true rfl) (jb_cat rfl) (Nat.le_of_ble_eq_true rfl) (Nat.le_of_ble_eq_true rfl) (Or.inl rfl) rfl (ze_138 (by omega) (s.2.1 0 ((s.1 + 1)).toNatClampNeg) (s.2.1 0 ((s.1 + 2)).toNatClampNeg) s.2.1 s.2.2 h80) ?_
                            obtain ⟨g81, h⟩ := jb_gd_of h
                            obtain ⟨g82, h⟩ := jb_gd_of h
                            refine jb_seg 11 (pc' := 622) (ls' := [some (.ref 0), some (.ref 1), some (.ref 79), some (.int s.1)]) (st' := [(.int (s.2.1 0 ((s.1 + 2)).toNatClampNeg)), (.int (s.2.1 0 ((s.1 + 1)).toNatClampNeg)), (.ref 79), (.int q80)]) (σ' := (zE L, s.2.1, s.2.2)) (G := [vp_in (s.1 + 1) L, vp_in (s.1 + 2) L]) rfl ⟨g81, g82⟩ ?_
                            obtain ⟨q83, h83, h⟩ := jb_bd_of h
                            refine jb_callV (q' := zq_238) (As := [(.int (s.2.1 0 ((s.1 + 1)).toNatClampNeg)), (.int (s.2.1 0 ((s.1 + 2)).toNatClampNeg))]) (rest := [(.int q80)]) (σ1 := (zE L, s.2.1, s.2.2)) (v := some (.int q83)) rfl rfl zp_238 rfl (Nat.le_of_ble_eq_true rfl) (jb_cat rfl) (Nat.le_of_ble_eq_true rfl) (Nat.le_of_ble_eq_true rfl) (Or.inl rfl) rfl (ze_238 (by omega) (s.2.1 0 ((s.1 + 1)).toNatClampNeg) (s.2.1 0 ((s.1 + 2)).toNatClampNeg) s.2.1 s.2.2 h83) ?_
                            refine jb_seg 1 (pc' := (if q80 = q83 then 1313 else 628)) (ls' := [some (.ref 0), some (.ref 1), some (.ref 79), some (.int s.1)]) (st' := []) (σ' := (zE L, s.2.1, s.2.2)) (G := []) rfl trivial ?_
                            refine jb_ite (fun c => ?_) (fun c => ?_)
                            · replace h := (if_pos c).symm.trans h
                              exact jb_mask [true, true, true, true] rfl (zg_0_J1313 hd L s.1 s.2.1 s.2.2 h hK)
                            · replace h := (if_neg c).symm.trans h
                              refine jb_seg 1 (pc' := 629) (ls' := [some (.ref 0), some (.ref 1), some (.ref 79), some (.int s.1)]) (st' := [(.int 0)]) (σ' := (zE L, s.2.1, s.2.2)) (G := []) rfl trivial ?_
                              obtain rfl := Option.some.inj h
                              obtain ⟨rfl, rfl⟩ := hK
                              exact jb_retz (by decide) rfl rfl
                          · replace h := (if_neg c).symm.trans h
                            refine jb_swc (fun c => ?_) (fun c => ?_)
                            · replace h := (if_pos c).symm.trans h
                              obtain ⟨g84, h⟩ := jb_gd_of h
                              obtain ⟨g85, h⟩ := jb_gd_of h
                              refine jb_seg 11 (pc' := 641) (ls' := [some (.ref 0), some (.ref 1), some (.ref 79), some (.int s.1)]) (st' := [(.int (s.2.1 0 ((s.1 + 2)).toNatClampNeg)), (.int (s.2.1 0 ((s.1 + 1)).toNatClampNeg)), (.ref 1)]) (σ' := (zE L, s.2.1, s.2.2)) (G := [vp_in (s.1 + 1) L, vp_in (s.1 + 2) L]) rfl ⟨g84, g85⟩ ?_
                              obtain ⟨q86, h86, h⟩ := jb_bd_of h
                              refine jb_callV (q' := zq_139) (As := [(.int (s.2.1 0 ((s.1 + 1)).toNatClampNeg)), (.int (s.2.1 0 ((s.1 + 2)).toNatClampNeg))]) (rest := []) (σ1 := (zE L, s.2.1, s.2.2)) (v := some (.int q86)) rfl rfl zp_139 rfl (Nat.le_of_ble_eq_true rfl) (jb_cat rfl) (Nat.le_of_ble_eq_true rfl) (Nat.le_of_ble_eq_true rfl) (Or.inl rfl) rfl (ze_139 (by omega) (s.2.1 0 ((s.1 + 1)).toNatClampNeg) (s.2.1 0 ((s.1 + 2)).toNatClampNeg) s.2.1 s.2.2 h86) ?_
                              obtain ⟨g87, h⟩ := jb_gd_of h
                              obtain ⟨g88, h⟩ := jb_gd_of h
                              refine jb_seg 11 (pc' := 655) (ls' := [some (.ref 0), some (.ref 1), some (.ref 79), some (.int s.1)]) (st' := [(.int (s.2.1 0 ((s.1 + 2)).toNatClampNeg)), (.int (s.2.1 0 ((s.1 + 1)).toNatClampNeg)), (.ref 79), (.int q86)]) (σ' := (zE L, s.2.1, s.2.2)) (G := [vp_in (s.1 + 1) L, vp_in (s.1 + 2) L]) rfl ⟨g87, g88⟩ ?_
                              obtain ⟨q89, h89, h⟩ := jb_bd_of h
                              refine jb_callV (q' := zq_180) (As := [(.int (s.2.1 0 ((s.1 + 1)).toNatClampNeg)), (.int (s.2.1 0 ((s.1 + 2)).toNatClampNeg))]) (rest := [(.int q86)]) (σ1 := (zE L, s.2.1, s.2.2)) (v := some (.int q89)) rfl rfl zp_180 rfl (Nat.le_of_ble_eq_true rfl) (jb_cat rfl) (Nat.le_of_ble_eq_true rfl) (Nat.le_of_ble_eq_true rfl) (Or.inl rfl) rfl (ze_180 (by omega) (s.2.1 0 ((s.1 + 1)).toNatClampNeg) (s.2.1 0 ((s.1 + 2)).toNatClampNeg) s.2.1 s.2.2 h89) ?_
                              refine jb_seg 1 (pc' := (if q86 = q89 then 1313 else 661)) (ls' := [some (.ref 0), some (.ref 1), some (.ref 79), some (.int s.1)]) (st' := []) (σ' := (zE L, s.2.1, s.2.2)) (G := []) rfl trivial ?_
                              refine jb_ite (fun c => ?_) (fun c => ?_)
                              · replace h := (if_pos c).symm.trans h
                                exact jb_mask [true, true, true, true] rfl (zg_0_J1313 hd L s.1 s.2.1 s.2.2 h hK)
                              · replace h := (if_neg c).symm.trans h
                                refine jb_seg 1 (pc' := 662) (ls' := [some (.ref 0), some (.ref 1), some (.ref 79), some (.int s.1)]) (st' := [(.int 0)]) (σ' := (zE L, s.2.1, s.2.2)) (G := []) rfl trivial ?_
                                obtain rfl := Option.some.inj h
                                obtain ⟨rfl, rfl⟩ := hK
                                exact jb_retz (by decide) rfl rfl
                            · replace h := (if_neg c).symm.trans h
                              refine jb_swc (fun c => ?_) (fun c => ?_)
                              · replace h := (if_pos c).symm.trans h
                                obtain ⟨g90, h⟩ := jb_gd_of h
                                obtain ⟨g91, h⟩ := jb_gd_of h
                                refine jb_seg 11 (pc' := 674) (ls' := [some (.ref 0), some (.ref 1), some (.ref 79), some (.int s.1)]) (st' := [(.int (s.2.1 0 ((s.1 + 2)).toNatClampNeg)), (.int (s.2.1 0 ((s.1 + 1)).toNatClampNeg)), (.ref 1)]) (σ' := (zE L, s.2.1, s.2.2)) (G := [vp_in (s.1 + 1) L, vp_in (s.1 + 2) L]) rfl ⟨g90, g91⟩ ?_
                                obtain ⟨q92, h92, h⟩ := jb_bd_of h
                                refine jb_callV (q' := zq_140) (As := [(.int (s.2.1 0 ((s.1 + 1)).toNatClampNeg)), (.int (s.2.1 0 ((s.1 + 2)).toNatClampNeg))]) (rest := []) (σ1 := (zE L, s.2.1, s.2.2)) (v := some (.int q92)) rfl rfl zp_140 rfl (Nat.le_of_ble_eq_true rfl) (jb_cat rfl) (Nat.le_of_ble_eq_true rfl) (Nat.le_of_ble_eq_true rfl) (Or.inl rfl) rfl (ze_140 (by omega) (s.2.1 0 ((s.1 + 1)).toNatClampNeg) (s.2.1 0 ((s.1 + 2)).toNatClampNeg) s.2.1 s.2.2 h92) ?_
                                obtain ⟨g93, h⟩ := jb_gd_of h
                                obtain ⟨g94, h⟩ := jb_gd_of h
                                refine jb_seg 11 (pc' := 688) (ls' := [some (.ref 0), some (.ref 1), some (.ref 79), some (.int s.1)]) (st' := [(.int (s.2.1 0 ((s.1 + 2)).toNatClampNeg)), (.int (s.2.1 0 ((s.1 + 1)).toNatClampNeg)), (.ref 79), (.int q92)]) (σ' := (zE L, s.2.1, s.2.2)) (G := [vp_in (s.1 + 1) L, vp_in (s.1 + 2) L]) rfl ⟨g93, g94⟩ ?_
                                obtain ⟨q95, h95, h⟩ := jb_bd_of h
                                refine jb_callV (q' := zq_217) (As := [(.int (s.2.1 0 ((s.1 + 1)).toNatClampNeg)), (.int (s.2.1 0 ((s.1 + 2)).toNatClampNeg))]) (rest := [(.int q92)]) (σ1 := (zE L, s.2.1, s.2.2)) (v := some (.int q95)) rfl rfl zp_217 rfl (Nat.le_of_ble_eq_true rfl) (jb_cat rfl) (Nat.le_of_ble_eq_true rfl) (Nat.le_of_ble_eq_true rfl) (Or.inl rfl) rfl (ze_217 (by omega) (s.2.1 0 ((s.1 + 1)).toNatClampNeg) (s.2.1 0 ((s.1 + 2)).toNatClampNeg) s.2.1 s.2.2 h95) ?_
                                refine jb_seg 1 (pc' := (if q92 = q95 then 1313 else 694)) (ls' := [some (.ref 0), some (.ref 1), some (.ref 79), some (.int s.1)]) (st' := []) (σ' := (zE L, s.2.1, s.2.2)) (G := []) rfl trivial ?_
                                refine jb_ite (fun c => ?_) (fun c => ?_)
                                · replace h := (if_pos c).symm.trans h
                                  exact jb_mask [true, true, true, true] rfl (zg_0_J1313 hd L s.1 s.2.1 s.2.2 h hK)
                                · replace h := (if_neg c).symm.trans h
                                  refine jb_seg 1 (pc' := 695) (ls' := [some (.ref 0), some (.ref 1), some (.ref 79), some (.int s.1)]) (st' := [(.int 0)]) (σ' := (zE L, s.2.1, s.2.2)) (G := []) rfl trivial ?_
                                  obtain rfl := Option.some.inj h
                                  obtain ⟨rfl, rfl⟩ := hK
                                  exact jb_retz (by decide) rfl rfl
                              · replace h := (if_neg c).symm.trans h
                                refine jb_swc (fun c => ?_) (fun c => ?_)
                                · replace h := (if_pos c).symm.trans h
                                  obtain ⟨g96, h⟩ := jb_gd_of h
                                  obtain ⟨g97, h⟩ := jb_gd_of h
                                  refine jb_seg 11 (pc' := 707) (ls' := [some (.ref 0), some (.ref 1), some (.ref 79), some (.int s.1)]) (st' := [(.int (s.2.1 0 ((s.1 + 2)).toNatClampNeg)), (.int (s.2.1 0 ((s.1 + 1)).toNatClampNeg)), (.ref 1)]) (σ' := (zE L, s.2.1, s.2.2)) (G := [vp_in (s.1 + 1) L, vp_in (s.1 + 2) L]) rfl ⟨g96, g97⟩ ?_
                                  obtain ⟨q98, h98, h⟩ := jb_bd_of h
                                  refine jb_callV (q' := zq_141) (As := [(.int (s.2.1 0 ((s.1 + 1)).toNatClampNeg)), (.int (s.2.1 0 ((s.1 + 2)).toNatClampNeg))]) (rest := []) (σ1 := (zE L, q98.2, s.2.2)) (v := some (.int q98.1)) rfl rfl zp_141 rfl (Nat.le_of_ble_eq_true rfl) (jb_cat rfl) (Nat.le_of_ble_eq_true rfl) (Nat.le_of_ble_eq_true rfl) (Or.inl rfl) rfl (ze_141 (by omega) (s.2.1 0 ((s.1 + 1)).toNatClampNeg) (s.2.1 0 ((s.1 + 2)).toNatClampNeg) s.2.1 s.2.2 h98) ?_
                                  obtain ⟨g99, h⟩ := jb_gd_of h
                                  obtain ⟨g100, h⟩ := jb_gd_of h
                                  refine jb_seg 11 (pc' := 721) (ls' := [some (.ref 0), some (.ref 1), some (.ref 79), some (.int s.1)]) (st' := [(.int (q98.2 0 ((s.1 + 2)).toNatClampNeg)), (.int (q98.2 0 ((s.1 + 1)).toNatClampNeg)), (.ref 79), (.int q98.1)]) (σ' := (zE L, q98.2, s.2.2)) (G := [vp_in (s.1 + 1) L, vp_in (s.1 + 2) L]) rfl ⟨g99, g100⟩ ?_
                                  obtain ⟨q101, h101, h⟩ := jb_bd_of h
                                  refine jb_callV (q' := zq_230) (As := [(.int (q98.2 0 ((s.1 + 1)).toNatClampNeg)), (.int (q98.2 0 ((s.1 + 2)).toNatClampNeg))]) (rest := [(.int q98.1)]) (σ1 := (zE L, q101.2, s.2.2)) (v := some (.int q101.1)) rfl rfl zp_230 rfl (Nat.le_of_ble_eq_true rfl) (jb_cat rfl) (Nat.le_of_ble_eq_true rfl) (Nat.le_of_ble_eq_true rfl) (Or.inl rfl) rfl (ze_230 (by omega) (q98.2 0 ((s.1 + 1)).toNatClampNeg) (q98.2 0 ((s.1 + 2)).toNatClampNeg) q98.2 s.2.2 h101) ?_
                                  refine jb_seg 1 (pc' := (if q98.1 = q101.1 then 1313 else 727)) (ls' := [some (.ref 0), some (.ref 1), some (.ref 79), some (.int s.1)]) (st' := []) (σ' := (zE L, q101.2, s.2.2)) (G := []) rfl trivial ?_
                                  refine jb_ite (fun c => ?_) (fun c => ?_)
                                  · replace h := (if_pos c).symm.trans h
                                    exact jb_mask [true, true, true, true] rfl (zg_0_J1313 hd L s.1 q101.2 s.2.2 h hK)
                                  · replace h := (if_neg c).symm.trans h
                                    refine jb_seg 1 (pc' := 728) (ls' := [some (.ref 0), some (.ref 1), some (.ref 79), some (.int s.1)]) (st' := [(.int 0)]) (σ' := (zE L, q101.2, s.2.2)) (G := []) rfl trivial ?_
                                    obtain rfl := Option.some.inj h
                                    obtain ⟨rfl, rfl⟩ := hK
                                    exact jb_retz (by decide) rfl rfl
                                · replace h := (if_neg c).symm.trans h
                                  refine jb_swc (fun c => ?_) (fun c => ?_)
                                  · replace h := (if_pos c).symm.trans h
                                    obtain ⟨g102, h⟩ := jb_gd_of h
                                    refine jb_seg 6 (pc' := 735) (ls' := [some (.ref 0), some (.ref 1), some (.ref 79), some (.int s.1)]) (st' := [(.int (s.2.1 0 ((s.1 + 1)).toNatClampNeg)), (.ref 1)]) (σ' := (zE L, s.2.1, s.2.2)) (G := [vp_in (s.1 + 1) L]) rfl g102 ?_
                                    obtain ⟨q103, h103, h⟩ := jb_bd_of h
                                    refine jb_callV (q' := zq_142) (As := [(.int (s.2.1 0 ((s.1 + 1)).toNatClampNeg))]) (rest := []) (σ1 := (zE L, q103.2, s.2.2)) (v := some (.int q103.1)) rfl rfl zp_142 rfl (Nat.le_of_ble_eq_true rfl) (jb_cat rfl) (Nat.le_of_ble_eq_true rfl) (Nat.le_of_ble_eq_true rfl) (Or.inl rfl) rfl (ze_142 (by omega) (s.2.1 0 ((s.1 + 1)).toNatClampNeg) s.2.1 s.2.2 h103) ?_
                                    obtain ⟨g104, h⟩ := jb_gd_of h
                                    refine jb_seg 6 (pc' := 744) (ls' := [some (.ref 0), some (.ref 1), some (.ref 79), some (.int s.1)]) (st' := [(.int (q103.2 0 ((s.1 + 1)).toNatClampNeg)), (.ref 79), (.int q103.1)]) (σ' := (zE L, q103.2, s.2.2)) (G := [vp_in (s.1 + 1) L]) rfl g104 ?_
                                    obtain ⟨q105, h105, h⟩ := jb_bd_of h
                                    refine jb_callV (q' := zq_231) (As := [(.int (q103.2 0 ((s.1 + 1)).toNatClampNeg))]) (rest := [(.int q103.1)]) (σ1 := (zE L, q105.2, s.2.2)) (v := some (.int q105.1)) rfl rfl zp_231 rfl (Nat.le_of_ble_eq_true rfl) (jb_cat rfl) (Nat.le_of_ble_eq_true rfl) (Nat.le_of_ble_eq_true rfl) (Or.inl rfl) rfl (ze_231 (by omega) (q103.2 0 ((s.1 + 1)).toNatClampNeg) q103.2 s.2.2 h105) ?_
                                    refine jb_seg 1 (pc' := (if q103.1 = q105.1 then 1313 else 750)) (ls' := [some (.ref 0), some (.ref 1), some (.ref 79), some (.int s.1)]) (st' := []) (σ' := (zE L, q105.2, s.2.2)) (G := []) rfl trivial ?_
                                    refine jb_ite (fun c => ?_) (fun c => ?_)
                                    · replace h := (if_pos c).symm.trans h
                                      exact jb_mask [true, true, true, true] rfl (zg_0_J1313 hd L s.1 q105.2 s.2.2 h hK)
                                    · replace h := (if_neg c).symm.trans h
                                      refine jb_seg 1 (pc' := 751) (ls' := [some (.ref 0), some (.ref 1), some (.ref 79), some (.int s.1)]) (st' := [(.int 0)]) (σ' := (zE L, q105.2, s.2.2)) (G := []) rfl trivial ?_
                                      obtain rfl := Option.some.inj h
                                      obtain ⟨rfl, rfl⟩ := hK
                                      exact jb_retz (by decide) rfl rfl
                                  · replace h := (if_neg c).symm.trans h
                                    refine jb_swc (fun c => ?_) (fun c => ?_)
                                    · replace h := (if_pos c).symm.trans h
                                      obtain ⟨g106, h⟩ := jb_gd_of h
                                      obtain ⟨g107, h⟩ := jb_gd_of h
                                      obtain ⟨g108, h⟩ := jb_gd_of h
                                      refine jb_seg 16 (pc' := 768) (ls' := [some (.ref 0), some (.ref 1), some (.ref 79), some (.int s.1)]) (st' := [(.int (s.2.1 0 ((s.1 + 3)).toNatClampNeg)), (.int (s.2.1 0 ((s.1 + 2)).toNatClampNeg)), (.int (s.2.1 0 ((s.1 + 1)).toNatClampNeg)), (.ref 1)]) (σ' := (zE L, s.2.1, s.2.2)) (G := [vp_in (s.1 + 1) L, vp_in (s.1 + 2) L, vp_in (s.1 + 3) L]) rfl ⟨g106, g107, g108⟩ ?_
                                      obtain ⟨q109, h109, h⟩ := jb_bd_of h
                                      refine jb_callV (q' := zq_143) (As := [(.int (s.2.1 0 ((s.1 + 1)).toNatClampNeg)), (.int (s.2.1 0 ((s.1 + 2)).toNatClampNeg)), (.int (s.2.1 0 ((s.1 + 3)).toNatClampNeg))]) (rest := []) (σ1 := (zE L, q109.2, s.2.2)) (v := some (.int q109.1)) rfl rfl zp_143 rfl (Nat.le_of_ble_eq_true rfl) (jb_cat rfl) (Nat.le_of_ble_eq_true rfl) (Nat.le_of_ble_eq_true rfl) (Or.inl rfl) rfl (ze_143 (by omega) (s.2.1 0 ((s.1 + 1)).toNatClampNeg) (s.2.1 0 ((s.1 + 2)).toNatClampNeg) (s.2.1 0 ((s.1 + 3)).toNatClampNeg) s.2.1 s.2.2 h109) ?_
                                      obtain ⟨g110, h⟩ := jb_gd_of h
                                      obtain ⟨g111, h⟩ := jb_gd_of h
                                      obtain ⟨g112, h⟩ := jb_gd_of h
                                      refine jb_seg 16 (pc' := 787) (ls' := [some (.ref 0), some (.ref 1), some (.ref 79), some (.int s.1)]) (st' := [(.int (q109.2 0 ((s.1 + 3)).toNatClampNeg)), (.int (q109.2 0 ((s.1 + 2)).toNatClampNeg)), (.int (q109.2 0 ((s.1 + 1)).toNatClampNeg)), (.ref 79), (.int q109.1)]) (σ' := (zE L, q109.2, s.2.2)) (G := [vp_in (s.1 + 1) L, vp_in (s.1 + 2) L, vp_in (s.1 + 3) L]) rfl ⟨g110, g111, g112⟩ ?_
                                      obtain ⟨q113, h113, h⟩ := jb_bd_of h
                                      refine jb_callV (q' := zq_239) (As := [(.int (q109.2 0 ((s.1 + 1)).toNatClampNeg)), (.int (q109.2 0 ((s.1 + 2)).toNatClampNeg)), (.int (q109.2 0 ((s.1 + 3)).toNatClampNeg))]) (rest := [(.int q109.1)]) (σ1 := (zE L, q109.2, s.2.2)) (v := some (.int q113)) rfl rfl zp_239 rfl (Nat.le_of_ble_eq_true rfl) (jb_cat rfl) (Nat.le_of_ble_eq_true rfl) (Nat.le_of_ble_eq_true rfl) (Or.inl rfl) rfl (ze_239 (by omega) (q109.2 0 ((s.1 + 1)).toNatClampNeg) (q109.2 0 ((s.1 + 2)).toNatClampNeg) (q109.2 0 ((s.1 + 3)).toNatClampNeg) q109.2 s.2.2 h113) ?_
                                      refine jb_seg 1 (pc' := (if q109.1 = q113 then 1313 else 793)) (ls' := [some (.ref 0), some (.ref 1), some (.ref 79), some (.int s.1)]) (st' := []) (σ' := (zE L, q109.2, s.2.2)) (G := []) rfl trivial ?_
                                      refine jb_ite (fun c => ?_) (fun c => ?_)
                                      · replace h := (if_pos c).symm.trans h
                                        exact jb_mask [true, true, true, true] rfl (zg_0_J1313 hd L s.1 q109.2 s.2.2 h hK)
                                      · replace h := (if_neg c).symm.trans h
                                        refine jb_seg 1 (pc' := 794) (ls' := [some (.ref 0), some (.ref 1), some (.ref 79), some (.int s.1)]) (st' := [(.int 0)]) (σ' := (zE L, q109.2, s.2.2)) (G := []) rfl trivial ?_
                                        obtain rfl := Option.some.inj h
                                        obtain ⟨rfl, rfl⟩ := hK
                                        exact jb_retz (by decide) rfl rfl
                                    · replace h := (if_neg c).symm.trans h
                                      refine jb_swc (fun c => ?_) (fun c => ?_)
                                      · replace h := (if_pos c).symm.trans h
                                        obtain ⟨g114, h⟩ := jb_gd_of h
                                        obtain ⟨g115, h⟩ := jb_gd_of h
                                        obtain ⟨g116, h⟩ := jb_gd_of h
                                        refine jb_seg 16 (pc' := 811) (ls' := [some (.ref 0), some (.ref 1), some (.ref 79), some (.int s.1)]) (st' := [(.int (s.2.1 0 ((s.1 + 3)).toNatClampNeg)), (.int (s.2.1 0 ((s.1 + 2)).toNatClampNeg)), (.int (s.2.1 0 ((s.1 + 1)).toNatClampNeg)), (.ref 1)]) (σ' := (zE L, s.2.1, s.2.2)) (G := [vp_in (s.1 + 1) L, vp_in (s.1 + 2) L, vp_in (s.1 + 3) L]) rfl ⟨g114, g115, g116⟩ ?_
                                        obtain ⟨q117, h117, h⟩ := jb_bd_of h
                                        refine jb_callV (q' := zq_145) (As := [(.int (s.2.1 0 ((s.1 + 1)).toNatClampNeg)), (.int (s.2.1 0 ((s.1 + 2)).toNatClampNeg)), (.int (s.2.1 0 ((s.1 + 3)).toNatClampNeg))]) (rest := []) (σ1 := (zE L, q117.2, s.2.2)) (v := some (.int q117.1)) rfl rfl zp_145 rfl (Nat.le_of_ble_eq_true rfl) (jb_cat rfl) (Nat.le_of_ble_eq_true rfl) (Nat.le_of_ble_eq_true rfl) (Or.inl rfl) rfl (ze_145 (by omega) (s.2.1 0 ((s.1 + 1)).toNatClampNeg) (s.2.1 0 ((s.1 + 2)).toNatClampNeg) (s.2.1 0 ((s.1 + 3)).toNatClampNeg) s.2.1 s.2.2 h117) ?_
                                        obtain ⟨g118, h⟩ := jb_gd_of h
                                        obtain ⟨g119, h⟩ := jb_gd_of h
                                        obtain ⟨g120, h⟩ := jb_gd_of h
                                        refine jb_seg 16 (pc' := 830) (ls' := [some (.ref 0), some (.ref 1), some (.ref 79), some (.int s.1)]) (st' := [(.int (q117.2 0 ((s.1 + 3)).toNatClampNeg)), (.int (q117.2 0 ((s.1 + 2)).toNatClampNeg)), (.int (q117.2 0 ((s.1 + 1)).toNatClampNeg)), (.ref 79), (.int q117.1)]) (σ' := (zE L, q117.2, s.2.2)) (G := [vp_in (s.1 + 1) L, vp_in (s.1 + 2) L, vp_in (s.1 + 3) L]) rfl ⟨g118, g119, g120⟩ ?_
                                        obtain ⟨q121, h121, h⟩ := jb_bd_of h
                                        refine jb_callV (q' := zq_243) (As := [(.int (q117.2 0 ((s.1 + 1)).toNatClampNeg)), (.int (q117.2 0 ((s.1 + 2)).toNatClampNeg)), (.int (q117.2 0 ((s.1 + 3)).toNatClampNeg))]) (rest := [(.int q117.1)]) (σ1 := (zE L, q121.2, s.2.2)) (v := some (.int q121.1)) rfl rfl zp_243 rfl (Nat.le_of_ble_eq_true rfl) (jb_cat rfl) (Nat.le_of_ble_eq_true rfl) (Nat.le_of_ble_eq_true rfl) (Or.inl rfl) rfl (ze_243 (by omega) (q117.2 0 ((s.1 + 1)).toNatClampNeg) (q117.2 0 ((s.1 + 2)).toNatClampNeg) (q117.2 0 ((s.1 + 3)).toNatClampNeg) q117.2 s.2.2 h121) ?_
                                        refine jb_seg 1 (pc' := (if q117.1 = q121.1 then 1313 else 836)) (ls' := [some (.ref 0), some (.ref 1), some (.ref 79), some (.int s.1)]) (st' := []) (σ' := (zE L, q121.2, s.2.2)) (G := []) rfl trivial ?_
                                        refine jb_ite (fun c => ?_) (fun c => ?_)
                                        · replace h := (if_pos c).symm.trans h
                                          exact jb_mask [true, true, true, true] rfl (zg_0_J1313 hd L s.1 q121.2 s.2.2 h hK)
                                        · replace h := (if_neg c).symm.trans h
                                          refine jb_seg 1 (pc' := 837) (ls' := [some (.ref 0), some (.ref 1), some (.ref 79), some (.int s.1)]) (st' := [(.int 0)]) (σ' := (zE L, q121.2, s.2.2)) (G := []) rfl trivial ?_
                                          obtain rfl := Option.some.inj h
                                          obtain ⟨rfl, rfl⟩ := hK
                                          exact jb_retz (by decide) rfl rfl
                                      · replace h := (if_neg c).symm.trans h
                                        refine jb_swc (fun c => ?_) (fun c => ?_)
                                        · replace h := (if_pos c).symm.trans h
                                          obtain ⟨g122, h⟩ := jb_gd_of h
                                          obtain ⟨g123, h⟩ := jb_gd_of h
                                          refine jb_seg 11 (pc' := 849) (ls' := [some (.ref 0), some (.ref 1), some (.ref 79), some (.int s.1)]) (st' := [(.int (s.2.1 0 ((s.1 + 2)).toNatClampNeg)), (.int (s.2.1 0 ((s.1 + 1)).toNatClampNeg)), (.ref 1)]) (σ' := (zE L, s.2.1, s.2.2)) (G := [vp_in (s.1 + 1) L, vp_in (s.1 + 2) L]) rfl ⟨g122, g123⟩ ?_
                                          obtain ⟨q124, h124, h⟩ := jb_bd_of h
                                          refine jb_callV (q' := zq_146) (As := [(.int (s.2.1 0 ((s.1 + 1)).toNatClampNeg)), (.int (s.2.1 0 ((s.1 + 2)).toNatClampNeg))]) (rest := []) (σ1 := (zE L, q124.2, s.2.2)) (v := some (.int q124.1)) rfl rfl zp_146 rfl (Nat.le_of_ble_eq_true rfl) (jb_cat rfl) (Nat.le_of_ble_eq_true rfl) (Nat.le_of_ble_eq_true rfl) (Or.inl rfl) rfl (ze_146 (by omega) (s.2.1 0 ((s.1 + 1)).toNatClampNeg) (s.2.1 0 ((s.1 + 2)).toNatClampNeg) s.2.1 s.2.2 h124) ?_
                                          obtain ⟨g125, h⟩ := jb_gd_of h
                                          obtain ⟨g126, h⟩ := jb_gd_of h
                                          refine jb_seg 11 (pc' := 863) (ls' := [some (.ref 0), some (.ref 1), some (.ref 79), some (.int s.1)]) (st' := [(.int (q124.2 0 ((s.1 + 2)).toNatClampNeg)), (.int (q124.2 0 ((s.1 + 1)).toNatClampNeg)), (.ref 79), (.int q124.1)]) (σ' := (zE L, q124.2, s.2.2)) (G := [vp_in (s.1 + 1) L, vp_in (s.1 + 2) L]) rfl ⟨g125, g126⟩ ?_
                                          obtain ⟨q127, h127, h⟩ := jb_bd_of h
                                          refine jb_callV (q' := zq_245) (As := [(.int (q124.2 0 ((s.1 + 1)).toNatClampNeg)), (.int (q124.2 0 ((s.1 + 2)).toNatClampNeg))]) (rest := [(.int q124.1)]) (σ1 := (zE L, q127.2, s.2.2)) (v := some (.int q127.1)) rfl rfl zp_245 rfl (Nat.le_of_ble_eq_true rfl) (jb_cat rfl) (Nat.le_of_ble_eq_true rfl) (Nat.le_of_ble_eq_true rfl) (Or.inl rfl) rfl (ze_245 (by omega) (q124.2 0 ((s.1 + 1)).toNatClampNeg) (q124.2 0 ((s.1 + 2)).toNatClampNeg) q124.2 s.2.2 h127) ?_
                                          refine jb_seg 1 (pc' := (if q124.1 = q127.1 then 1313 else 869)) (ls' := [some (.ref 0), some (.ref 1), some (.ref 79), some (.int s.1)]) (st' := []) (σ' := (zE L, q127.2, s.2.2)) (G := []) rfl trivial ?_
                                          refine jb_ite (fun c => ?_) (fun c => ?_)
                                          · replace h := (if_pos c).symm.trans h
                                            exact jb_mask [true, true, true, true] rfl (zg_0_J1313 hd L s.1 q127.2 s.2.2 h hK)
                                          · replace h := (if_neg c).symm.trans h
                                            refine jb_seg 1 (pc' := 870) (ls' := [some (.ref 0), some (.ref 1), some (.ref 79), some (.int s.1)]) (st' := [(.int 0)]) (σ' := (zE L, q127.2, s.2.2)) (G := []) rfl trivial ?_
                                            obtain rfl := Option.some.inj h
                                            obtain ⟨rfl, rfl⟩ := hK
                                            exact jb_retz (by decide) rfl rfl
                                        · replace h := (if_neg c).symm.trans h
                                          refine jb_swc (fun c => ?_) (fun c => ?_)
                                          · replace h := (if_pos c).symm.trans h
                                            obtain ⟨g128, h⟩ := jb_gd_of h
                                            obtain ⟨g129, h⟩ := jb_gd_of h
                                            obtain ⟨g130, h⟩ := jb_gd_of h
                                            refine jb_seg 16 (pc' := 887) (ls' := [some (.ref 0), some (.ref 1), some (.ref 79), some (.int s.1)]) (st' := [(.int (s.2.1 0 ((s.1 + 3)).toNatClampNeg)), (.int (s.2.1 0 ((s.1 + 2)).toNatClampNeg)), (.int (s.2.1 0 ((s.1 + 1)).toNatClampNeg)), (.ref 1)]) (σ' := (zE L, s.2.1, s.2.2)) (G := [vp_in (s.1 + 1) L, vp_in (s.1 + 2) L, vp_in (s.1 + 3) L]) rfl ⟨g128, g129, g130⟩ ?_
                                            obtain ⟨q131, h131, h⟩ := jb_bd_of h
                                            refine jb_callV (q' := zq_148) (As := [(.int (s.2.1 0 ((s.1 + 1)).toNatClampNeg)), (.int (s.2.1 0 ((s.1 + 2)).toNatClampNeg)), (.int (s.2.1 0 ((s.1 + 3)).toNatClampNeg))]) (rest := []) (σ1 := (zE L, q131.2.1, q131.2.2)) (v := some (.int q131.1)) rfl rfl zp_148 rfl (Nat.le_of_ble_eq_true rfl) (jb_cat rfl) (Nat.le_of_ble_eq_true rfl) (Nat.le_of_ble_eq_true rfl) (Or.inl rfl) rfl (ze_148 (by omega) (s.2.1 0 ((s.1 + 1)).toNatClampNeg) (s.2.1 0 ((s.1 + 2)).toNatClampNeg) (s.2.1 0 ((s.1 + 3)).toNatClampNeg) s.2.1 s.2.2 h131) ?_
                                            obtain ⟨g132, h⟩ := jb_gd_of h
                                            obtain ⟨g133, h⟩ := jb_gd_of h
                                            obtain ⟨g134, h⟩ := jb_gd_of h
                                            refine jb_seg 16 (pc' := 906) (ls' := [some (.ref 0), some (.ref 1), some (.ref 79), some (.int s.1)]) (st' := [(.int (q131.2.1 0 ((s.1 + 3)).toNatClampNeg)), (.int (q131.2.1 0 ((s.1 + 2)).toNatClampNeg)), (.int (q131.2.1 0 ((s.1 + 1)).toNatClampNeg)), (.ref 79), (.int q131.1)]) (σ' := (zE L, q131.2.1, q131.2.2)) (G := [vp_in (s.1 + 1) L, vp_in (s.1 + 2) L, vp_in (s.1 + 3) L]) rfl ⟨g132, g133, g134⟩ ?_
                                            obtain ⟨q135, h135, h⟩ := jb_bd_of h
                                            refine jb_callV (q' := zq_249) (As := [(.int (q131.2.1 0 ((s.1 + 1)).toNatClampNeg)), (.int (q131.2.1 0 ((s.1 + 2)).toNatClampNeg)), (.int (q131.2.1 0 ((s.1 + 3)).toNatClampNeg))]) (rest := [(.int q131.1)]) (σ1 := (zE L, q135.2.1, q135.2.2)) (v := some (.int q135.1)) rfl rfl zp_249 rfl (Nat.le_of_ble_eq_true rfl) (jb_cat rfl) (Nat.le_of_ble_eq_true rfl) (Nat.le_of_ble_eq_true rfl) (Or.inl rfl) rfl (ze_249 (by omega) (q131.2.1 0 ((s.1 + 1)).toNatClampNeg) (q131.2.1 0 ((s.1 + 2)).toNatClampNeg) (q131.2.1 0 ((s.1 + 3)).toNatClampNeg) q131.2.1 q131.2.2 h135) ?_
                                            refine jb_seg 1 (pc' := (if q131.1 = q135.1 then 1313 else 912)) (ls' := [some (.ref 0), some (.ref 1), some (.ref 79), some (.int s.1)]) (st' := []) (σ' := (zE L, q135.2.1, q135.2.2)) (G := []) rfl trivial ?_
                                            refine jb_ite (fun c => ?_) (fun c => ?_)
                                            · replace h := (if_pos c).symm.trans h
                                              exact jb_mask [true, true, true, true] rfl (zg_0_J1313 hd L s.1 q135.2.1 q135.2.2 h hK)
                                            · replace h := (if_neg c).symm.trans h
                                              refine jb_seg 1 (pc' := 913) (ls' := [some (.ref 0), some (.ref 1), some (.ref 79), some (.int s.1)]) (st' := [(.int 0)]) (σ' := (zE L, q135.2.1, q135.2.2)) (G := []) rfl trivial ?_
                                              obtain rfl := Option.some.inj h
                                              obtain ⟨rfl, rfl⟩ := hK
                                              exact jb_retz (by decide) rfl rfl
                                          · replace h := (if_neg c).symm.trans h
                                            refine jb_swc (fun c => ?_) (fun c => ?_)
                                            · replace h := (if_pos c).symm.trans h
                                              obtain ⟨g136, h⟩ := jb_gd_of h
                                              obtain ⟨g137, h⟩ := jb_gd_of h
                                              obtain ⟨g138, h⟩ := jb_gd_of h
                                              obtain ⟨g139, h⟩ := jb_gd_of h
                                              refine jb_seg 21 (pc' := 935) (ls' := [some (.ref 0), some (.ref 1), some (.ref 79), some (.int s.1)]) (st' := [(.int (s.2.1 0 ((s.1 + 4)).toNatClampNeg)), (.int (s.2.1 0 ((s.1 + 3)).toNatClampNeg)), (.int (s.2.1 0 ((s.1 + 2)).toNatClampNeg)), (.int (s.2.1 0 ((s.1 + 1)).toNatClampNeg)), (.ref 1)]) (σ' := (zE L, s.2.1, s.2.2)) (G := [vp_in (s.1 + 1) L, vp_in (s.1 + 2) L, vp_in (s.1 + 3) L, vp_in (s.1 + 4) L]) rfl ⟨g136, g137, g138, g139⟩ ?_
                                              obtain ⟨q140, h140, h⟩ := jb_bd_of h
                                              refine jb_callV (q' := zq_149) (As := [(.int (s.2.1 0 ((s.1 + 1)).toNatClampNeg)), (.int (s.2.1 0 ((s.1 + 2)).toNatClampNeg)), (.int (s.2.1 0 ((s.1 + 3)).toNatClampNeg)), (.int (s.2.1 0 ((s.1 + 4)).toNatClampNeg))]) (rest := []) (σ1 := (zE L, q140.2.1, q140.2.2)) (v := some (.int q140.1)) rfl rfl zp_149 rfl (Nat.le_of_ble_eq_true rfl) (jb_cat rfl) (Nat.le_of_ble_eq_true rfl) (Nat.le_of_ble_eq_true rfl) (Or.inl rfl) rfl (ze_149 (by omega) (s.2.1 0 ((s.1 + 1)).toNatClampNeg) (s.2.1 0 ((s.1 + 2)).toNatClampNeg) (s.2.1 0 ((s.1 + 3)).toNatClampNeg) (s.2.1 0 ((s.1 + 4)).toNatClampNeg) s.2.1 s.2.2 h140) ?_
                                              obtain ⟨g141, h⟩ := jb_gd_of h
                                              obtain ⟨g142, h⟩ := jb_gd_of h
                                              obtain ⟨g143, h⟩ := jb_gd_of h
                                              obtain ⟨g144, h⟩ := jb_gd_of h
                                              refine jb_seg 21 (pc' := 959) (ls' := [some (.ref 0), some (.ref 1), some (.ref 79), some (.int s.1)]) (st' := [(.int (q140.2.1 0 ((s.1 + 4)).toNatClampNeg)), (.int (q140.2.1 0 ((s.1 + 3)).toNatClampNeg)), (.int (q140.2.1 0 ((s.1 + 2)).toNatClampNeg)), (.int (q140.2.1 0 ((s.1 + 1)).toNatClampNeg)), (.ref 79), (.int q140.1)]) (σ' := (zE L, q140.2.1, q140.2.2)) (G := [vp_in (s.1 + 1) L, vp_in (s.1 + 2) L, vp_in (s.1 + 3) L, vp_in (s.1 + 4) L]) rfl ⟨g141, g142, g143, g144⟩ ?_
                                              obtain ⟨q145, h145, h⟩ := jb_bd_of h
                                              refine jb_callV (q' := zq_250) (As := [(.int (q140.2.1 0 ((s.1 + 1)).toNatClampNeg)), (.int (q140.2.1 0 ((s.1 + 2)).toNatClampNeg)), (.int (q140.2.1 0 ((s.1 + 3)).toNatClampNeg)), (.int (q140.2.1 0 ((s.1 + 4)).toNatClampNeg))]) (rest := [(.int q140.1)]) (σ1 := (zE L, q145.2.1, q145.2.2)) (v := some (.int q145.1)) rfl rfl zp_250 rfl (Nat.le_of_ble_eq_true rfl) (jb_cat rfl) (Nat.le_of_ble_eq_true rfl) (Nat.le_of_ble_eq_true rfl) (Or.inl rfl) rfl (ze_250 (by omega) (q140.2.1 0 ((s.1 + 1)).toNatClampNeg) (q140.2.1 0 ((s.1 + 2)).toNatClampNeg) (q140.2.1 0 ((s.1 + 3)).toNatClampNeg) (q140.2.1 0 ((s.1 + 4)).toNatClampNeg) q140.2.1 q140.2.2 h145) ?_
                                              refine jb_seg 1 (pc' := (if q140.1 = q145.1 then 1313 else 965)) (ls' := [some (.ref 0), some (.ref 1), some (.ref 79), some (.int s.1)]) (st' := []) (σ' := (zE L, q145.2.1, q145.2.2)) (G := []) rfl trivial ?_
                                              refine jb_ite (fun c => ?_) (fun c => ?_)
                                              · replace h := (if_pos c).symm.trans h
                                                exact jb_mask [true, true, true, true] rfl (zg_0_J1313 hd L s.1 q145.2.1 q145.2.2 h hK)
                                              · replace h := (if_neg c).symm.trans h
                                                refine jb_seg 1 (pc' := 966) (ls' := [some (.ref 0), some (.ref 1), some (.ref 79), some (.int s.1)]) (st' := [(.int 0)]) (σ' := (zE L, q145.2.1, q145.2.2)) (G := []) rfl trivial ?_
                                                obtain rfl := Option.some.inj h
                                                obtain ⟨rfl, rfl⟩ := hK
                                                exact jb_retz (by decide) rfl rfl
                                            · replace h := (if_neg c).symm.trans h
                                              refine jb_swc (fun c => ?_) (fun c => ?_)
                                              · replace h := (if_pos c).symm.trans h
                                                obtain ⟨g146, h⟩ := jb_gd_of h
                                                obtain ⟨g147, h⟩ := jb_gd_of h
                                                refine jb_seg 12 (pc' := (if (s.2.1 0 ((s.1 + 2)).toNatClampNeg) = 0 then 985 else 981)) (ls' := [some (.ref 0), some (.ref 1), some (.ref 79), some (.int s.1)]) (st' := [(.int (s.2.1 0 ((s.1 + 1)).toNatClampNeg)), (.ref 1)]) (σ' := (zE L, s.2.1, s.2.2)) (G := [vp_in (s.1 + 1) L, vp_in (s.1 + 2) L]) rfl ⟨g146, g147⟩ ?_
                                                refine jb_ite (fun c => ?_) (fun c => ?_)
                                                · replace h := (if_pos c).symm.trans h
                                                  refine jb_seg 1 (pc' := 986) (ls' := [some (.ref 0), some (.ref 1), some (.ref 79), some (.int s.1)]) (st' := [(.int 0), (.int (s.2.1 0 ((s.1 + 1)).toNatClampNeg)), (.ref 1)]) (σ' := (zE L, s.2.1, s.2.2)) (G := []) rfl trivial ?_
                                                  exact jb_mask [true, true, true, true] rfl (zg_0_J986 hd L s.1 (s.2.1 0 ((s.1 + 1)).toNatClampNeg) 0 s.2.1 s.2.2 h hK)
                                                · replace h := (if_neg c).symm.trans h
                                                  refine jb_seg 2 (pc' := 986) (ls' := [some (.ref 0), some (.ref 1), some (.ref 79), some (.int s.1)]) (st' := [(.int 1), (.int (s.2.1 0 ((s.1 + 1)).toNatClampNeg)), (.ref 1)]) (σ' := (zE L, s.2.1, s.2.2)) (G := []) rfl trivial ?_
                                                  exact jb_mask [true, true, true, true] rfl (zg_0_J986 hd L s.1 (s.2.1 0 ((s.1 + 1)).toNatClampNeg) 1 s.2.1 s.2.2 h hK)
                                              · replace h := (if_neg c).symm.trans h
                                                refine jb_swc (fun c => ?_) (fun c => ?_)
                                                · replace h := (if_pos c).symm.trans h
                                                  obtain ⟨g152, h⟩ := jb_gd_of h
                                                  refine jb_seg 6 (pc' := 1022) (ls' := [some (.ref 0), some (.ref 1), some (.ref 79), some (.int s.1)]) (st' := [(.int (s.2.1 0 ((s.1 + 1)).toNatClampNeg)), (.ref 1)]) (σ' := (zE L, s.2.1, s.2.2)) (G := [vp_in (s.1 + 1) L]) rfl g152 ?_
                                                  obtain ⟨q153, h153, h⟩ := jb_bd_of h
                                                  refine jb_callV (q' := zq_151) (As := [(.int (s.2.1 0 ((s.1 + 1)).toNatClampNeg))]) (rest := []) (σ1 := (zE L, q153.2, s.2.2)) (v := some (.int q153.1)) rfl rfl zp_151 rfl (Nat.le_of_ble_eq_true rfl) (jb_cat rfl) (Nat.le_of_ble_eq_true rfl) (Nat.le_of_ble_eq_true rfl) (Or.inl rfl) rfl (ze_151 (by omega) (s.2.1 0 ((s.1 + 1)).toNatClampNeg) s.2.1 s.2.2 h153) ?_
                                                  obtain ⟨g154, h⟩ := jb_gd_of h
                                                  refine jb_seg 6 (pc' := 1031) (ls' := [some (.ref 0), some (.ref 1), some (.ref 79), some (.int s.1)]) (st' := [(.int (q153.2 0 ((s.1 + 1)).toNatClampNeg)), (.ref 79), (.int q153.1)]) (σ' := (zE L, q153.2, s.2.2)) (G := [vp_in (s.1 + 1) L]) rfl g154 ?_
                                                  obtain ⟨q155, h155, h⟩ := jb_bd_of h
                                                  refine jb_callV (q' := zq_255) (As := [(.int (q153.2 0 ((s.1 + 1)).toNatClampNeg))]) (rest := [(.int q153.1)]) (σ1 := (zE L, q153.2, s.2.2)) (v := some (.int q155)) rfl rfl zp_255 rfl (Nat.le_of_ble_eq_true rfl) (jb_cat rfl) (Nat.le_of_ble_eq_true rfl) (Nat.le_of_ble_eq_true rfl) (Or.inl rfl) rfl (ze_255 (by omega) (q153.2 0 ((s.1 + 1)).toNatClampNeg) q153.2 s.2.2 h155) ?_
                                                  refine jb_seg 1 (pc' := (if q153.1 = q155 then 1313 else 1037)) (ls' := [some (.ref 0), some (.ref 1), some (.ref 79), some (.int s.1)]) (st' := []) (σ' := (zE L, q153.2, s.2.2)) (G := []) rfl trivial ?_
                                                  refine jb_ite (fun c => ?_) (fun c => ?_)
                                                  · replace h := (if_pos c).symm.trans h
                                                    exact jb_mask [true, true, true, true] rfl (zg_0_J1313 hd L s.1 q153.2 s.2.2 h hK)
                                                  · replace h := (if_neg c).symm.trans h
                                                    refine jb_seg 1 (pc' := 1038) (ls' := [some (.ref 0), some (.ref 1), some (.ref 79), some (.int s.1)]) (st' := [(.int 0)]) (σ' := (zE L, q153.2, s.2.2)) (G := []) rfl trivial ?_
                                                    obtain rfl := Option.some.inj h
                                                    obtain ⟨rfl, rfl⟩ := hK
                                                    exact jb_retz (by decide) rfl rfl
                                                · replace h := (if_neg c).symm.trans h
                                                  refine jb_swc (fun c => ?_) (fun c => ?_)
                                                  · replace h := (if_pos c).symm.trans h
                                                    obtain ⟨g156, h⟩ := jb_gd_of h
                                                    obtain ⟨g157, h⟩ := jb_gd_of h
                                                    refine jb_seg 11 (pc' := 1050) (ls' := [some (.ref 0), some (.ref 1), some (.ref 79), some (.int s.1)]) (st' := [(.int (s.2.1 0 ((s.1 + 2)).toNatClampNeg)), (.int (s.2.1 0 ((s.1 + 1)).toNatClampNeg)), (.ref 1)]) (σ' := (zE L, s.2.1, s.2.2)) (G := [vp_in (s.1 + 1) L, vp_in (s.1 + 2) L]) rfl ⟨g156, g157⟩ ?_
                                                    obtain ⟨q158, h158, h⟩ := jb_bd_of h
                                                    refine jb_callV (q' := zq_152) (As := [(.int (s.2.1 0 ((s.1 + 1)).toNatClampNeg)), (.int (s.2.1 0 ((s.1 + 2)).toNatClampNeg))]) (rest := []) (σ1 := (zE L, q158.2, s.2.2)) (v := some (.int q158.1)) rfl rfl zp_152 rfl (Nat.le_of_ble_eq_true rfl) (jb_cat rfl) (Nat.le_of_ble_eq_true rfl) (Nat.le_of_ble_eq_true rfl) (Or.inl rfl) rfl (ze_152 (by omega) (s.2.1 0 ((s.1 + 1)).toNatClampNeg) (s.2.1 0 ((s.1 + 2)).toNatClampNeg) s.2.1 s.2.2 h158) ?_
                                                    obtain ⟨g159, h⟩ := jb_gd_of h
                                                    obtain ⟨g160, h⟩ := jb_gd_of h
                                                    refine jb_seg 11 (pc' := 1064) (ls' := [some (.ref 0), some (.ref 1), some (.ref 79), some (.int s.1)]) (st' := [(.int (q158.2 0 ((s.1 + 2)).toNatClampNeg)), (.int (q158.2 0 ((s.1 + 1)).toNatClampNeg)), (.ref 79), (.int q158.1)]) (σ' := (zE L, q158.2, s.2.2)) (G := [vp_in (s.1 + 1) L, vp_in (s.1 + 2) L]) rfl ⟨g159, g160⟩ ?_
                                                    obtain ⟨q161, h161, h⟩ := jb_bd_of h
                                                    refine jb_callV (q' := zq_258) (As := [(.int (q158.2 0 ((s.1 + 1)).toNatClampNeg)), (.int (q158.2 0 ((s.1 + 2)).toNatClampNeg))]) (rest := [(.int q158.1)]) (σ1 := (zE L, q158.2, s.2.2)) (v := some (.int q161)) rfl rfl zp_258 rfl (Nat.le_of_ble_eq_true rfl) (jb_cat rfl) (Nat.le_of_ble_eq_true rfl) (Nat.le_of_ble_eq_true rfl) (Or.inl rfl) rfl (ze_258 (by omega) (q158.2 0 ((s.1 + 1)).toNatClampNeg) (q158.2 0 ((s.1 + 2)).toNatClampNeg) q158.2 s.2.2 h161) ?_
                                                    refine jb_seg 1 (pc' := (if q158.1 = q161 then 1313 else 1070)) (ls' := [some (.ref 0), some (.ref 1), some (.ref 79), some (.int s.1)]) (st' := []) (σ' := (zE L, q158.2, s.2.2)) (G := []) rfl trivial ?_
                                                    refine jb_ite (fun c => ?_) (fun c => ?_)
                                                    · replace h := (if_pos c).symm.trans h
                                                      exact jb_mask [true, true, true, true] rfl (zg_0_J1313 hd L s.1 q158.2 s.2.2 h hK)
                                                    · replace h := (if_neg c).symm.trans h
                                                      refine jb_seg 1 (pc' := 1071) (ls' := [some (.ref 0), some (.ref 1), some (.ref 79), some (.int s.1)]) (st' := [(.int 0)]) (σ' := (zE L, q158.2, s.2.2)) (G := []) rfl trivial ?_
                                                      obtain rfl := Option.some.inj h
                                                      obtain ⟨rfl, rfl⟩ := hK
                                                      exact jb_retz (by decide) rfl rfl
                                                  · replace h := (if_neg c).symm.trans h
                                                    refine jb_swc (fun c => ?_) (fun c => ?_)
                                                    · replace h := (if_pos c).symm.trans h
                                                      obtain ⟨g162, h⟩ := jb_gd_of h
                                                      obtain ⟨g163, h⟩ := jb_gd_of h
                                                      refine jb_seg 11 (pc' := 1083) (ls' := [some (.ref 0), some (.ref 1), some (.ref 79), some (.int s.1)]) (st' := [(.int (s.2.1 0 ((s.1 + 2)).toNatClampNeg)), (.int (s.2.1 0 ((s.1 + 1)).toNatClampNeg)), (.ref 1)]) (σ' := (zE L, s.2.1, s.2.2)) (G := [vp_in (s.1 + 1) L, vp_in (s.1 + 2) L]) rfl ⟨g162, g163⟩ ?_
                                                      obtain ⟨q164, h164, h⟩ := jb_bd_of h
                                                      refine jb_callV (q' := zq_153) (As := [(.int (s.2.1 0 ((s.1 + 1)).toNatClampNeg)), (.int (s.2.1 0 ((s.1 + 2)).toNatClampNeg))]) (rest := []) (σ1 := (zE L, q164.2.1, q164.2.2)) (v := some (.long q164.1)) rfl rfl zp_153 rfl (Nat.le_of_ble_eq_true rfl) (jb_cat rfl) (Nat.le_of_ble_eq_true rfl) (Nat.le_of_ble_eq_true rfl) (Or.inl rfl) rfl (ze_153 (by omega) (s.2.1 0 ((s.1 + 1)).toNatClampNeg) (s.2.1 0 ((s.1 + 2)).toNatClampNeg) s.2.1 s.2.2 h164) ?_
                                                      obtain ⟨g165, h⟩ := jb_gd_of h
                                                      obtain ⟨g166, h⟩ := jb_gd_of h
                                                      refine jb_seg 11 (pc' := 1097) (ls' := [some (.ref 0), some (.ref 1), some (.ref 79), some (.int s.1)]) (st' := [(.int (q164.2.1 0 ((s.1 + 2)).toNatClampNeg)), (.int (q164.2.1 0 ((s.1 + 1)).toNatClampNeg)), (.ref 79), (.long q164.1)]) (σ' := (zE L, q164.2.1, q164.2.2)) (G := [vp_in (s.1 + 1) L, vp_in (s.1 + 2) L]) rfl ⟨g165, g166⟩ ?_
                                                      obtain ⟨q167, h167, h⟩ := jb_bd_of h
                                                      refine jb_callV (q' := zq_260) (As := [(.int (q164.2.1 0 ((s.1 + 1)).toNatClampNeg)), (.int (q164.2.1 0 ((s.1 + 2)).toNatClampNeg))]) (rest := [(.long q164.1)]) (σ1 := (zE L, q167.2.1, q167.2.2)) (v := some (.long q167.1)) rfl rfl zp_260 rfl (Nat.le_of_ble_eq_true rfl) (jb_cat rfl) (Nat.le_of_ble_eq_true rfl) (Nat.le_of_ble_eq_true rfl) (Or.inl rfl) rfl (ze_260 (by omega) (q164.2.1 0 ((s.1 + 1)).toNatClampNeg) (q164.2.1 0 ((s.1 + 2)).toNatClampNeg) q164.2.1 q164.2.2 h167) ?_
                                                      refine jb_seg 2 (pc' := (if (lg_cmp q164.1 q167.1) = 0 then 1313 else 1104)) (ls' := [some (.ref 0), some (.ref 1), some (.ref 79), some (.int s.1)]) (st' := []) (σ' := (zE L, q167.2.1, q167.2.2)) (G := []) rfl trivial ?_
                                                      refine jb_ite (fun c => ?_) (fun c => ?_)
                                                      · replace h := (if_pos c).symm.trans h
                                                        exact jb_mask [true, true, true, true] rfl (zg_0_J1313 hd L s.1 q167.2.1 q167.2.2 h hK)
                                                      · replace h := (if_neg c).symm.trans h
                                                        refine jb_seg 1 (pc' := 1105) (ls' := [some (.ref 0), some (.ref 1), some (.ref 79), some (.int s.1)]) (st' := [(.int 0)]) (σ' := (zE L, q167.2.1, q167.2.2)) (G := []) rfl trivial ?_
                                                        obtain rfl := Option.some.inj h
                                                        obtain ⟨rfl, rfl⟩ := hK
                                                        exact jb_retz (by decide) rfl rfl
                                                    · replace h := (if_neg c).symm.trans h
                                                      refine jb_swc (fun c => ?_) (fun c => ?_)
                                                      · replace h := (if_pos c).symm.trans h
                                                        obtain ⟨g168, h⟩ := jb_gd_of h
                                                        refine jb_seg 6 (pc' := 1112) (ls' := [some (.ref 0), some (.ref 1), some (.ref 79), some (.int s.1)]) (st' := [(.int (s.2.1 0 ((s.1 + 1)).toNatClampNeg)), (.ref 1)]) (σ' := (zE L, s.2.1, s.2.2)) (G := [vp_in (s.1 + 1) L]) rfl g168 ?_
                                                        obtain ⟨q169, h169, h⟩ := jb_bd_of h
                                                        refine jb_callV (q' := zq_154) (As := [(.int (s.2.1 0 ((s.1 + 1)).toNatClampNeg))]) (rest := []) (σ1 := (zE L, q169.2, s.2.2)) (v := some (.int q169.1)) rfl rfl zp_154 rfl (Nat.le_of_ble_eq_true rfl) (jb_cat rfl) (Nat.le_of_ble_eq_true rfl) (Nat.le_of_ble_eq_true rfl) (Or.inl rfl) rfl (ze_154 (by omega) (s.2.1 0 ((s.1 + 1)).toNatClampNeg) s.2.1 s.2.2 h169) ?_
                                                        obtain ⟨g170, h⟩ := jb_gd_of h
                                                        refine jb_seg 6 (pc' := 1121) (ls' := [some (.ref 0), some (.ref 1), some (.ref 79), some (.int s.1)]) (st' := [(.int (q169.2 0 ((s.1 + 1)).toNatClampNeg)), (.ref 79), (.int q169.1)]) (σ' := (zE L, q169.2, s.2.2)) (G := [vp_in (s.1 + 1) L]) rfl g170 ?_
                                                        obtain ⟨q171, h171, h⟩ := jb_bd_of h
                                                        refine jb_callV (q' := zq_261) (As := [(.int (q169.2 0 ((s.1 + 1)).toNatClampNeg))]) (rest := [(.int q169.1)]) (σ1 := (zE L, q171.2, s.2.2)) (v := some (.int q171.1)) rfl rfl zp_261 rfl (Nat.le_of_ble_eq_true rfl) (jb_cat rfl) (Nat.le_of_ble_eq_true rfl) (Nat.le_of_ble_eq_true rfl) (Or.inl rfl) rfl (ze_261 (by omega) (q169.2 0 ((s.1 + 1)).toNatClampNeg) q169.2 s.2.2 h171) ?_
                                                        refine jb_seg 1 (pc' := (if q169.1 = q171.1 then 1313 else 1127)) (ls' := [some (.ref 0), some (.ref 1), some (.ref 79), some (.int s.1)]) (st' := []) (σ' := (zE L, q171.2, s.2.2)) (G := []) rfl trivial ?_
                                                        refine jb_ite (fun c => ?_) (fun c => ?_)
                                                        · replace h := (if_pos c).symm.trans h
                                                          exact jb_mask [true, true, true, true] rfl (zg_0_J1313 hd L s.1 q171.2 s.2.2 h hK)
                                                        · replace h := (if_neg c).symm.trans h
                                                          refine jb_seg 1 (pc' := 1128) (ls' := [some (.ref 0), some (.ref 1), some (.ref 79), some (.int s.1)]) (st' := [(.int 0)]) (σ' := (zE L, q171.2, s.2.2)) (G := []) rfl trivial ?_
                                                          obtain rfl := Option.some.inj h
                                                          obtain ⟨rfl, rfl⟩ := hK
                                                          exact jb_retz (by decide) rfl rfl
                                                      · replace h := (if_neg c).symm.trans h
                                                        refine jb_swc (fun c => ?_) (fun c => ?_)
                                                        · replace h := (if_pos c).symm.trans h
                                                          obtain ⟨g172, h⟩ := jb_gd_of h
                                                          refine jb_seg 6 (pc' := 1135) (ls' := [some (.ref 0), some (.ref 1), some (.ref 79), some (.int s.1)]) (st' := [(.int (s.2.1 0 ((s.1 + 1)).toNatClampNeg)), (.ref 1)]) (σ' := (zE L, s.2.1, s.2.2)) (G := [vp_in (s.1 + 1) L]) rfl g172 ?_
                                                          obtain ⟨q173, h173, h⟩ := jb_bd_of h
                                                          refine jb_callV (q' := zq_155) (As := [(.int (s.2.1 0 ((s.1 + 1)).toNatClampNeg))]) (rest := []) (σ1 := (zE L, q173.2, s.2.2)) (v := some (.int q173.1)) rfl rfl zp_155 rfl (Nat.le_of_ble_eq_true rfl) (jb_cat rfl) (Nat.le_of_ble_eq_true rfl) (Nat.le_of_ble_eq_true rfl) (Or.inl rfl) rfl (ze_155 (by omega) (s.2.1 0 ((s.1 + 1)).toNatClampNeg) s.2.1 s.2.2 h173) ?_
                                                          obtain ⟨g174, h⟩ := jb_gd_of h
                                                          refine jb_seg 6 (pc' := 1144) (ls' := [some (.ref 0), some (.ref 1), some (.ref 79), some (.int s.1)]) (st' := [(.int (q173.2 0 ((s.1 + 1)).toNatClampNeg)), (.ref 79), (.int q173.1)]) (σ' := (zE L, q173.2, s.2.2)) (G := [vp_in (s.1 + 1) L]) rfl g174 ?_
                                                          obtain ⟨q175, h175, h⟩ := jb_bd_of h
                                                          refine jb_callV (q' := zq_262) (As := [(.int (q173.2 0 ((s.1 + 1)).toNatClampNeg))]) (rest := [(.int q173.1)]) (σ1 := (zE L, q175.2, s.2.2)) (v := some (.int q175.1)) rfl rfl zp_262 rfl (Nat.le_of_ble_eq_true rfl) (jb_cat rfl) (Nat.le_of_ble_eq_true rfl) (Nat.le_of_ble_eq_true rfl) (Or.inl rfl) rfl (ze_262 (by omega) (q173.2 0 ((s.1 + 1)).toNatClampNeg) q173.2 s.2.2 h175) ?_
                                                          refine jb_seg 1 (pc' := (if q173.1 = q175.1 then 1313 else 1150)) (ls' := [some (.ref 0), some (.ref 1), some (.ref 79), some (.int s.1)]) (st' := []) (σ' := (zE L, q175.2, s.2.2)) (G := []) rfl trivial ?_
                                                          refine jb_ite (fun c => ?_) (fun c => ?_)
                                                          · replace h := (if_pos c).symm.trans h
                                                            exact jb_mask [true, true, true, true] rfl (zg_0_J1313 hd L s.1 q175.2 s.2.2 h hK)
                                                          · replace h := (if_neg c).symm.trans h
                                                            refine jb_seg 1 (pc' := 1151) (ls' := [some (.ref 0), some (.ref 1), some (.ref 79), some (.int s.1)]) (st' := [(.int 0)]) (σ' := (zE L, q175.2, s.2.2)) (G := []) rfl trivial ?_
                                                            obtain rfl := Option.some.inj h
                                                            obtain ⟨rfl, rfl⟩ := hK
                                                            exact jb_retz (by decide) rfl rfl
                                                        · replace h := (if_neg c).symm.trans h
                                                          refine jb_swc (fun c => ?_) (fun c => ?_)
                                                          · replace h := (if_pos c).symm.trans h
                                                            obtain ⟨g176, h⟩ := jb_gd_of h
                                                            obtain ⟨g177, h⟩ := jb_gd_of h
                                                            obtain ⟨g178, h⟩ := jb_gd_of h
                                                            refine jb_seg 16 (pc' := 1168) (ls' := [some (.ref 0), some (.ref 1), some (.ref 79), some (.int s.1)]) (st' := [(.int (s.2.1 0 ((s.1 + 3)).toNatClampNeg)), (.int (s.2.1 0 ((s.1 + 2)).toNatClampNeg)), (.int (s.2.1 0 ((s.1 + 1)).toNatClampNeg)), (.ref 1)]) (σ' := (zE L, s.2.1, s.2.2)) (G := [vp_in (s.1 + 1) L, vp_in (s.1 + 2) L, vp_in (s.1 + 3) L]) rfl ⟨g176, g177, g178⟩ ?_
                                                            obtain ⟨q179, h179, h⟩ := jb_bd_of h
                                                            refine jb_callV (q' := zq_156) (As := [(.int (s.2.1 0 ((s.1 + 1)).toNatClampNeg)), (.int (s.2.1 0 ((s.1 + 2)).toNatClampNeg)), (.int (s.2.1 0 ((s.1 + 3)).toNatClampNeg))]) (rest := []) (σ1 := (zE L, s.2.1, s.2.2)) (v := some (.int q179)) rfl rfl zp_156 rfl (Nat.le_of_ble_eq_true rfl) (jb_cat rfl) (Nat.le_of_ble_eq_true rfl) (Nat.le_of_ble_eq_true rfl) (Or.inl rfl) rfl (ze_156 (by omega) (s.2.1 0 ((s.1 + 1)).toNatClampNeg) (s.2.1 0 ((s.1 + 2)).toNatClampNeg) (s.2.1 0 ((s.1 + 3)).toNatClampNeg) s.2.1 s.2.2 h179) ?_
                                                            obtain ⟨g180, h⟩ := jb_gd_of h
                                                            obtain ⟨g181, h⟩ := jb_gd_of h
                                                            obtain ⟨g182, h⟩ := jb_gd_of h
                                                            refine jb_seg 16 (pc' := 1187) (ls' := [some (.ref 0), some (.ref 1), some (.ref 79), some (.int s.1)]) (st' := [(.int (s.2.1 0 ((s.1 + 3)).toNatClampNeg)), (.int (s.2.1 0 ((s.1 + 2)).toNatClampNeg)), (.int (s.2.1 0 ((s.1 + 1)).toNatClampNeg)), (.ref 79), (.int q179)]) (σ' := (zE L, s.2.1, s.2.2)) (G := [vp_in (s.1 + 1) L, vp_in (s.1 + 2) L, vp_in (s.1 + 3) L]) rfl ⟨g180, g181, g182⟩ ?_
                                                            obtain ⟨q183, h183, h⟩ := jb_bd_of h
                                                            refine jb_callV (q' := zq_263) (As := [(.int (s.2.1 0 ((s.1 + 1)).toNatClampNeg)), (.int (s.2.1 0 ((s.1 + 2)).toNatClampNeg)), (.int (s.2.1 0 ((s.1 + 3)).toNatClampNeg))]) (rest := [(.int q179)]) (σ1 := (zE L, s.2.1, s.2.2)) (v := some (.int q183)) rfl rfl zp_263 rfl (Nat.le_of_ble_eq_true rfl) (jb_cat rfl) (Nat.le_of_ble_eq_true rfl) (Nat.le_of_ble_eq_true rfl) (Or.inl rfl) rfl (ze_263 (by omega) (s.2.1 0 ((s.1 + 1)).toNatClampNeg) (s.2.1 0 ((s.1 + 2)).toNatClampNeg) (s.2.1 0 ((s.1 + 3)).toNatClampNeg) s.2.1 s.2.2 h183) ?_
                                                            refine jb_seg 1 (pc' := (if q179 = q183 then 1313 else 1193)) (ls' := [some (.ref 0), some (.ref 1), some (.ref 79), some (.int s.1)]) (st' := []) (σ' := (zE L, s.2.1, s.2.2)) (G := []) rfl trivial ?_
                                                            refine jb_ite (fun c => ?_) (fun c => ?_)
                                                            · replace h := (if_pos c).symm.trans h
                                                              exact jb_mask [true, true, true, true] rfl (zg_0_J1313 hd L s.1 s.2.1 s.2.2 h hK)
                                                            · replace h := (if_neg c).symm.trans h
                                                              refine jb_seg 1 (pc' := 1194) (ls' := [some (.ref 0), some (.ref 1), some (.ref 79), some (.int s.1)]) (st' := [(.int 0)]) (σ' := (zE L, s.2.1, s.2.2)) (G := []) rfl trivial ?_
                                                              obtain rfl := Option.some.inj h
                                                              obtain ⟨rfl, rfl⟩ := hK
                                                              exact jb_retz (by decide) rfl rfl
                                                          · replace h := (if_neg c).symm.trans h
                                                            refine jb_swc (fun c => ?_) (fun c => ?_)
                                                            · replace h := (if_pos c).symm.trans h
                                                              obtain ⟨g184, h⟩ := jb_gd_of h
                                                              refine jb_seg 6 (pc' := 1201) (ls' := [some (.ref 0), some (.ref 1), some (.ref 79), some (.int s.1)]) (st' := [(.int (s.2.1 0 ((s.1 + 1)).toNatClampNeg)), (.ref 1)]) (σ' := (zE L, s.2.1, s.2.2)) (G := [vp_in (s.1 + 1) L]) rfl g184 ?_
                                                              obtain ⟨q185, h185, h⟩ := jb_bd_of h
                                                              refine jb_callV (q' := zq_157) (As := [(.int (s.2.1 0 ((s.1 + 1)).toNatClampNeg))]) (rest := []) (σ1 := (zE L, s.2.1, s.2.2)) (v := some (.int q185)) rfl rfl zp_157 rfl (Nat.le_of_ble_eq_true rfl) (jb_cat rfl) (Nat.le_of_ble_eq_true rfl) (Nat.le_of_ble_eq_true rfl) (Or.inl rfl) rfl (ze_157 (by omega) (s.2.1 0 ((s.1 + 1)).toNatClampNeg) s.2.1 s.2.2 h185) ?_
                                                              obtain ⟨g186, h⟩ := jb_gd_of h
                                                              refine jb_seg 6 (pc' := 1210) (ls' := [some (.ref 0), some (.ref 1), some (.ref 79), some (.int s.1)]) (st' := [(.int (s.2.1 0 ((s.1 + 1)).toNatClampNeg)), (.ref 79), (.int q185)]) (σ' := (zE L, s.2.1, s.2.2)) (G := [vp_in (s.1 + 1) L]) rfl g186 ?_
                                                              obtain ⟨q187, h187, h⟩ := jb_bd_of h
                                                              refine jb_callV (q' := zq_264) (As := [(.int (s.2.1 0 ((s.1 + 1)).toNatClampNeg))]) (rest := [(.int q185)]) (σ1 := (zE L, s.2.1, s.2.2)) (v := some (.int q187)) rfl rfl zp_264 rfl (Nat.le_of_ble_eq_true rfl) (jb_cat rfl) (Nat.le_of_ble_eq_true rfl) (Nat.le_of_ble_eq_true rfl) (Or.inl rfl) rfl (ze_264 (by omega) (s.2.1 0 ((s.1 + 1)).toNatClampNeg) s.2.1 s.2.2 h187) ?_
                                                              refine jb_seg 1 (pc' := (if q185 = q187 then 1313 else 1216)) (ls' := [some (.ref 0), some (.ref 1), some (.ref 79), some (.int s.1)]) (st' := []) (σ' := (zE L, s.2.1, s.2.2)) (G := []) rfl trivial ?_
                                                              refine jb_ite (fun c => ?_) (fun c => ?_)
                                                              · replace h := (if_pos c).symm.trans h
                                                                exact jb_mask [true, true, true, true] rfl (zg_0_J1313 hd L s.1 s.2.1 s.2.2 h hK)
                                                              · replace h := (if_neg c).symm.trans h
                                                                refine jb_seg 1 (pc' := 1217) (ls' := [some (.ref 0), some (.ref 1), some (.ref 79), some (.int s.1)]) (st' := [(.int 0)]) (σ' := (zE L, s.2.1, s.2.2)) (G := []) rfl trivial ?_
                                                                obtain rfl := Option.some.inj h
                                                                obtain ⟨rfl, rfl⟩ := hK
                                                                exact jb_retz (by decide) rfl rfl
                                                            · replace h := (if_neg c).symm.trans h
                                                              refine jb_swc (fun c => ?_) (fun c => ?_)
                                                              · replace h := (if_pos c).symm.trans h
                                                                obtain ⟨g188, h⟩ := jb_gd_of h
                                                                refine jb_seg 6 (pc' := 1224) (ls' := [some (.ref 0), some (.ref 1), some (.ref 79), some (.int s.1)]) (st' := [(.int (s.2.1 0 ((s.1 + 1)).toNatClampNeg)), (.ref 1)]) (σ' := (zE L, s.2.1, s.2.2)) (G := [vp_in (s.1 + 1) L]) rfl g188 ?_
                                                                refine jb_callV (q' := zq_158) (As := [(.int (s.2.1 0 ((s.1 + 1)).toNatClampNeg))]) (rest := []) (σ1 := (zE L, (zf_158 (s.2.1 0 ((s.1 + 1)).toNatClampNeg) s.2.1).2, s.2.2)) (v := some (.int (jb_b2i (zf_158 (s.2.1 0 ((s.1 + 1)).toNatClampNeg) s.2.1).1))) rfl rfl zp_158 rfl (Nat.le_of_ble_eq_true rfl) (jb_cat rfl) (Nat.le_of_ble_eq_true rfl) (Nat.le_of_ble_eq_true rfl) (Or.inl rfl) rfl (ze_158 (by omega) (s.2.1 0 ((s.1 + 1)).toNatClampNeg) s.2.1 s.2.2 rfl) ?_
                                                                obtain ⟨g189, h⟩ := jb_gd_of h
                                                                refine jb_seg 6 (pc' := 1233) (ls' := [some (.ref 0), some (.ref 1), some (.ref 79), some (.int s.1)]) (st' := [(.int (((zf_158 (s.2.1 0 ((s.1 + 1)).toNatClampNeg) s.2.1).2) 0 ((s.1 + 1)).toNatClampNeg)), (.ref 79), (.int (jb_b2i (zf_158 (s.2.1 0 ((s.1 + 1)).toNatClampNeg) s.2.1).1))]) (σ' := (zE L, (zf_158 (s.2.1 0 ((s.1 + 1)).toNatClampNeg) s.2.1).2, s.2.2)) (G := [vp_in (s.1 + 1) L]) rfl g189 ?_
                                                                refine jb_callV (q' := zq_265) (As := [(.int (((zf_158 (s.2.1 0 ((s.1 + 1)).toNatClampNeg) s.2.1).2) 0 ((s.1 + 1)).toNatClampNeg))]) (rest := [(.int (jb_b2i (zf_158 (s.2.1 0 ((s.1 + 1)).toNatClampNeg) s.2.1).1))]) (σ1 := (zE L, (zf_265 (((zf_158 (s.2.1 0 ((s.1 + 1)).toNatClampNeg) s.2.1).2) 0 ((s.1 + 1)).toNatClampNeg) ((zf_158 (s.2.1 0 ((s.1 + 1)).toNatClampNeg) s.2.1).2)).2, s.2.2)) (v := some (.int (jb_b2i (zf_265 (((zf_158 (s.2.1 0 ((s.1 + 1)).toNatClampNeg) s.2.1).2) 0 ((s.1 + 1)).toNatClampNeg) ((zf_158 (s.2.1 0 ((s.1 + 1)).toNatClampNeg) s.2.1).2)).1))) rfl rfl zp_265 rfl (Nat.le_of_ble_eq_true rfl) (jb_cat rfl) (Nat.le_of_ble_eq_true rfl) (Nat.le_of_ble_eq_true rfl) (Or.inl rfl) rfl (ze_265 (by omega) (((zf_158 (s.2.1 0 ((s.1 + 1)).toNatClampNeg) s.2.1).2) 0 ((s.1 + 1)).toNatClampNeg) ((zf_158 (s.2.1 0 ((s.1 + 1)).toNatClampNeg) s.2.1).2) s.2.2 rfl) ?_
                                                                refine jb_seg 1 (pc' := (if (jb_b2i (zf_158 (s.2.1 0 ((s.1 + 1)).toNatClampNeg) s.2.1).1) = (jb_b2i (zf_265 (((zf_158 (s.2.1 0 ((s.1 + 1)).toNatClampNeg) s.2.1).2) 0 ((s.1 + 1)).toNatClampNeg) ((zf_158 (s.2.1 0 ((s.1 + 1)).toNatClampNeg) s.2.1).2)).1) then 1313 else 1239)) (ls' := [some (.ref 0), some (.ref 1), some (.ref 79), some (.int s.1)]) (st' := []) (σ' := (zE L, (zf_265 (((zf_158 (s.2.1 0 ((s.1 + 1)).toNatClampNeg) s.2.1).2) 0 ((s.1 + 1)).toNatClampNeg) ((zf_158 (s.2.1 0 ((s.1 + 1)).toNatClampNeg) s.2.1).2)).2, s.2.2)) (G := []) rfl trivial ?_
                                                                refine jb_ite (fun c => ?_) (fun c => ?_)
                                                                · replace h := (if_pos c).symm.trans h
                                                                  exact jb_mask [true, true, true, true] rfl (zg_0_J1313 hd L s.1 ((zf_265 (((zf_158 (s.2.1 0 ((s.1 + 1)).toNatClampNeg) s.2.1).2) 0 ((s.1 + 1)).toNatClampNeg) ((zf_158 (s.2.1 0 ((s.1 + 1)).toNatClampNeg) s.2.1).2)).2) s.2.2 h hK)
                                                                · replace h := (if_neg c).symm.trans h
                                                                  refine jb_seg 1 (pc' := 1240) (ls' := [some (.ref 0), some (.ref 1), some (.ref 79), some (.int s.1)]) (st' := [(.int 0)]) (σ' := (zE L, (zf_265 (((zf_158 (s.2.1 0 ((s.1 + 1)).toNatClampNeg) s.2.1).2) 0 ((s.1 + 1)).toNatClampNeg) ((zf_158 (s.2.1 0 ((s.1 + 1)).toNatClampNeg) s.2.1).2)).2, s.2.2)) (G := []) rfl trivial ?_
                                                                  obtain rfl := Option.some.inj h
                                                                  obtain ⟨rfl, rfl⟩ := hK
                                                                  exact jb_retz (by decide) rfl rfl
                                                              · replace h := (if_neg c).symm.trans h
                                                                refine jb_swc (fun c => ?_) (fun c => ?_)
                                                                · replace h := (if_pos c).symm.trans h
                                                                  refine jb_seg 1 (pc' := 1242) (ls' := [some (.ref 0), some (.ref 1), some (.ref 79), some (.int s.1)]) (st' := [(.ref 1)]) (σ' := (zE L, s.2.1, s.2.2)) (G := []) rfl trivial ?_
                                                                  refine jb_callV (q' := zq_159) (As := []) (rest := []) (σ1 := (zE L, (zf_159 s.2.1).2, s.2.2)) (v := some (.int (zf_159 s.2.1).1)) rfl rfl zp_159 rfl (Nat.le_of_ble_eq_true rfl) (jb_cat rfl) (Nat.le_of_ble_eq_true rfl) (Nat.le_of_ble_eq_true rfl) (Or.inl rfl) rfl (ze_159 (by omega) s.2.1 s.2.2 rfl) ?_
                                                                  refine jb_seg 1 (pc' := 1246) (ls' := [some (.ref 0), some (.ref 1), some (.ref 79), some (.int s.1)]) (st' := [(.ref 79), (.int (zf_159 s.2.1).1)]) (σ' := (zE L, (zf_159 s.2.1).2, s.2.2)) (G := []) rfl trivial ?_
                                                                  obtain ⟨q190, h190, h⟩ := jb_bd_of h
                                                                  refine jb_callV (q' := zq_266) (As := []) (rest := [(.int (zf_159 s.2.1).1)]) (σ1 := (zE L, q190.2, s.2.2)) (v := some (.int q190.1)) rfl rfl zp_266 rfl (Nat.le_of_ble_eq_true rfl) (jb_cat rfl) (Nat.le_of_ble_eq_true rfl) (Nat.le_of_ble_eq_true rfl) (Or.inl rfl) rfl (ze_266 (by omega) ((zf_159 s.2.1).2) s.2.2 h190) ?_
                                                                  refine jb_seg 1 (pc' := (if (zf_159 s.2.1).1 = q190.1 then 1313 else 1252)) (ls' := [some (.ref 0), some (.ref 1), some (.ref 79), some (.int s.1)]) (st' := []) (σ' := (zE L, q190.2, s.2.2)) (G := []) rfl trivial ?_
                                                                  refine jb_ite (fun c => ?_) (fun c => ?_)
                                                                  · replace h := (if_pos c).symm.trans h
                                                                    exact jb_mask [true, true, true, true] rfl (zg_0_J1313 hd L s.1 q190.2 s.2.2 h hK)
                                                                  · replace h := (if_neg c).symm.trans h
                                                                    refine jb_seg 1 (pc' := 1253) (ls' := [some (.ref 0), some (.ref 1), some (.ref 79), some (.int s.1)]) (st' := [(.int 0)]) (σ' := (zE L, q190.2, s.2.2)) (G := []) rfl trivial ?_
                                                                    obtain rfl := Option.some.inj h
                                                                    obtain ⟨rfl, rfl⟩ := hK
                                                                    exact jb_retz (by decide) rfl rfl
                                                                · replace h := (if_neg c).symm.trans h
                                                                  refine jb_swc (fun c => ?_) (fun c => ?_)
                                                                  · replace h := (if_pos c).symm.trans h
                                                                    refine jb_seg 1 (pc' := 1255) (ls' := [some (.ref 0), some (.ref 1), some (.ref 79), some (.int s.1)]) (st' := [(.ref 1)]) (σ' := (zE L, s.2.1, s.2.2)) (G := []) rfl trivial ?_
                                                                    refine jb_callV (q' := zq_160) (As := []) (rest := []) (σ1 := (zE L, (zf_160 s.2.1).2, s.2.2)) (v := some (.int (jb_b2i (zf_160 s.2.1).1))) rfl rfl zp_160 rfl (Nat.le_of_ble_eq_true rfl) (jb_cat rfl) (Nat.le_of_ble_eq_true rfl) (Nat.le_of_ble_eq_true rfl) (Or.inl rfl) rfl (ze_160 (by omega) s.2.1 s.2.2 rfl) ?_
                                                                    refine jb_seg 1 (pc' := 1259) (ls' := [some (.ref 0), some (.ref 1), some (.ref 79), some (.int s.1)]) (st' := [(.ref 79), (.int (jb_b2i (zf_160 s.2.1).1))]) (σ' := (zE L, (zf_160 s.2.1).2, s.2.2)) (G := []) rfl trivial ?_
                                                                    obtain ⟨q191, h191, h⟩ := jb_bd_of h
                                                                    refine jb_callV (q' := zq_267) (As := []) (rest := [(.int (jb_b2i (zf_160 s.2.1).1))]) (σ1 := (zE L, q191.2, s.2.2)) (v := some (.int (jb_b2i q191.1))) rfl rfl zp_267 rfl (Nat.le_of_ble_eq_true rfl) (jb_cat rfl) (Nat.le_of_ble_eq_true rfl) (Nat.le_of_ble_eq_true rfl) (Or.inl rfl) rfl (ze_267 (by omega) ((zf_160 s.2.1).2) s.2.2 h191) ?_
                                                                    refine jb_seg 1 (pc' := (if (jb_b2i (zf_160 s.2.1).1) = (jb_b2i q191.1) then 1313 else 1265)) (ls' := [some (.ref 0), some (.ref 1), some (.ref 79), some (.int s.1)]) (st' := []) (σ' := (zE L, q191.2, s.2.2)) (G := []) rfl trivial ?_
                                                                    refine jb_ite (fun c => ?_) (fun c => ?_)
                                                                    · replace h := (if_pos c).symm.trans h
                                                                      exact jb_mask [true, true, true, true] rfl (zg_0_J1313 hd L s.1 q191.2 s.2.2 h hK)
                                                                    · replace h := (if_neg c).symm.trans h
                                                                      refine jb_seg 1 (pc' := 1266) (ls' := [some (.ref 0), some (.ref 1), some (.ref 79), some (.int s.1)]) (st' := [(.int 0)]) (σ' := (zE L, q191.2, s.2.2)) (G := []) rfl trivial ?_
                                                                      obtain rfl := Option.some.inj h
                                                                      obtain ⟨rfl, rfl⟩ := hK
                                                                      exact jb_retz (by decide) rfl rfl
                                                                  · replace h := (if_neg c).symm.trans h
                                                                    refine jb_swc (fun c => ?_) (fun c => ?_)
                                                                    · replace h := (if_pos c).symm.trans h
                                                                      obtain ⟨g192, h⟩ := jb_gd_of h
                                                                      refine jb_seg 6 (pc' := 1273) (ls' := [some (.ref 0), some (.ref 1), some (.ref 79), some (.int s.1)]) (st' := [(.int (s.2.1 0 ((s.1 + 1)).toNatClampNeg)), (.ref 1)]) (σ' := (zE L, s.2.1, s.2.2)) (G := [vp_in (s.1 + 1) L]) rfl g192 ?_
                                                                      obtain ⟨q193, h193, h⟩ := jb_bd_of h
                                                                      refine jb_callV (q' := zq_161) (As := [(.int (s.2.1 0 ((s.1 + 1)).toNatClampNeg))]) (rest := []) (σ1 := (zE L, q193.2, s.2.2)) (v := some (.int q193.1)) rfl rfl zp_161 rfl (Nat.le_of_ble_eq_true rfl) (jb_cat rfl) (Nat.le_of_ble_eq_true rfl) (Nat.le_of_ble_eq_true rfl) (Or.inl rfl) rfl (ze_161 (by omega) (s.2.1 0 ((s.1 + 1)).toNatClampNeg) s.2.1 s.2.2 h193) ?_
                                                                      obtain ⟨g194, h⟩ := jb_gd_of h
                                                                      refine jb_seg 6 (pc' := 1282) (ls' := [some (.ref 0), some (.ref 1), some (.ref 79), some (.int s.1)]) (st' := [(.int (q193.2 0 ((s.1 + 1)).toNatClampNeg)), (.ref 79), (.int q193.1)]) (σ' := (zE L, q193.2, s.2.2)) (G := [vp_in (s.1 + 1) L]) rfl g194 ?_
                                                                      obtain ⟨q195, h195, h⟩ := jb_bd_of h
                                                                      refine jb_callV (q' := zq_268) (As := [(.int (q193.2 0 ((s.1 + 1)).toNatClampNeg))]) (rest := [(.int q193.1)]) (σ1 := (zE L, q195.2, s.2.2)) (v := some (.int q195.1)) rfl rfl zp_268 rfl (Nat.le_of_ble_eq_true rfl) (jb_cat rfl) (Nat.le_of_ble_eq_true rfl) (Nat.le_of_ble_eq_true rfl) (Or.inl rfl) rfl (ze_268 (by omega) (q193.2 0 ((s.1 + 1)).toNatClampNeg) q193.2 s.2.2 h195) ?_
                                                                      refine jb_seg 1 (pc' := (if q193.1 = q195.1 then 1313 else 1288)) (ls' := [some (.ref 0), some (.ref 1), some (.ref 79), some (.int s.1)]) (st' := []) (σ' := (zE L, q195.2, s.2.2)) (G := []) rfl trivial ?_
                                                                      refine jb_ite (fun c => ?_) (fun c => ?_)
                                                                      · replace h := (if_pos c).symm.trans h
                                                                        exact jb_mask [true, true, true, true] rfl (zg_0_J1313 hd L s.1 q195.2 s.2.2 h hK)
                                                                      · replace h := (if_neg c).symm.trans h
                                                                        refine jb_seg 1 (pc' := 1289) (ls' := [some (.ref 0), some (.ref 1), some (.ref 79), some (.int s.1)]) (st' := [(.int 0)]) (σ' := (zE L, q195.2, s.2.2)) (G := []) rfl trivial ?_
                                                                        obtain rfl := Option.some.inj h
                                                                        obtain ⟨rfl, rfl⟩ := hK
                                                                        exact jb_retz (by decide) rfl rfl
                                                                    · replace h := (if_neg c).symm.trans h
                                                                      refine jb_swc (fun c => ?_) (fun c => ?_)
                                                                      · replace h := (if_pos c).symm.trans h
                                                                        obtain ⟨g196, h⟩ := jb_gd_of h
                                                                        refine jb_seg 6 (pc' := 1296) (ls' := [some (.ref 0), some (.ref 1), some (.ref 79), some (.int s.1)]) (st' := [(.int (s.2.1 0 ((s.1 + 1)).toNatClampNeg)), (.ref 1)]) (σ' := (zE L, s.2.1, s.2.2)) (G := [vp_in (s.1 + 1) L]) rfl g196 ?_
                                                                        obtain ⟨q197, h197, h⟩ := jb_bd_of h
                                                                        refine jb_callV (q' := zq_162) (As := [(.int (s.2.1 0 ((s.1 + 1)).toNatClampNeg))]) (rest := []) (σ1 := (zE L, s.2.1, s.2.2)) (v := some (.int q197)) rfl rfl zp_162 rfl (Nat.le_of_ble_eq_true rfl) (jb_cat rfl) (Nat.le_of_ble_eq_true rfl) (Nat.le_of_ble_eq_true rfl) (Or.inl rfl) rfl (ze_162 (by omega) (s.2.1 0 ((s.1 + 1)).toNatClampNeg) s.2.1 s.2.2 h197) ?_
                                                                        obtain ⟨g198, h⟩ := jb_gd_of h
                                                                        refine jb_seg 6 (pc' := 1305) (ls' := [some (.ref 0), some (.ref 1), some (.ref 79), some (.int s.1)]) (st' := [(.int (s.2.1 0 ((s.1 + 1)).toNatClampNeg)), (.ref 79), (.int q197)]) (σ' := (zE L, s.2.1, s.2.2)) (G := [vp_in (s.1 + 1) L]) rfl g198 ?_
                                                                        obtain ⟨q199, h199, h⟩ := jb_bd_of h
                                                                        refine jb_callV (q' := zq_269) (As := [(.int (s.2.1 0 ((s.1 + 1)).toNatClampNeg))]) (rest := [(.int q197)]) (σ1 := (zE L, s.2.1, s.2.2)) (v := some (.int q199)) rfl rfl zp_269 rfl (Nat.le_of_ble_eq_true rfl) (jb_cat rfl) (Nat.le_of_ble_eq_true rfl) (Nat.le_of_ble_eq_true rfl) (Or.inl rfl) rfl (ze_269 (by omega) (s.2.1 0 ((s.1 + 1)).toNatClampNeg) s.2.1 s.2.2 h199) ?_
                                                                        refine jb_seg 1 (pc' := (if q197 = q199 then 1313 else 1311)) (ls' := [some (.ref 0), some (.ref 1), some (.ref 79), some (.int s.1)]) (st' := []) (σ' := (zE L, s.2.1, s.2.2)) (G := []) rfl trivial ?_
                                                                        refine jb_ite (fun c => ?_) (fun c => ?_)
                                                                        · replace h := (if_pos c).symm.trans h
                                                                          exact jb_mask [true, true, true, true] rfl (zg_0_J1313 hd L s.1 s.2.1 s.2.2 h hK)
                                                                        · replace h := (if_neg c).symm.trans h
                                                                          refine jb_seg 1 (pc' := 1312) (ls' := [some (.ref 0), some (.ref 1), some (.ref 79), some (.int s.1)]) (st' := [(.int 0)]) (σ' := (zE L, s.2.1, s.2.2)) (G := []) rfl trivial ?_
                                                                          obtain rfl := Option.some.inj h
                                                                          obtain ⟨rfl, rfl⟩ := hK
                                                                          exact jb_retz (by decide) rfl rfl
                                                                      · replace h := (if_neg c).symm.trans h
                                                                        refine jb_swn ?_
                                                                        exact jb_mask [true, true, true, true] rfl (zg_0_J1313 hd L s.1 s.2.1 s.2.2 h hK)
theorem zg_0_H18L {Γ : jb_G} {d : Nat} (hd : 49 ≤ d) (L : Nat) {v : Option Value} {σ2 : jb_S} {s : Int32 × jb_Mi × jb_Ml} {r : (Bool × jb_Mi × jb_Ml)} (h : jb_lp (zf_0_H18 L) s = some r) (hK : (fun r : Bool × jb_Mi × jb_Ml => v = some (.int (jb_b2i r.1)) ∧ σ2 = (zE L, r.2.1, r.2.2)) r) : jb_V Γ d zq_0 18 [some (.ref 0), some (.ref 1), some (.ref 79), some (.int s.1)] [] (zE L, s.2.1, s.2.2) v σ2 := by
  exact @jb_lp_ind (Int32 × jb_Mi × jb_Ml) ((Bool × jb_Mi × jb_Ml)) (zf_0_H18 L) (fun s => jb_V Γ d zq_0 18 [some (.ref 0), some (.ref 1), some (.ref 79), some (.int s.1)] [] (zE L, s.2.1, s.2.2) v σ2) (fun r : Bool × jb_Mi × jb_Ml => v = some (.int (jb_b2i r.1)) ∧ σ2 = (zE L, r.2.1, r.2.2)) (fun s r h hk => zg_0_H18 hd L s h hk) s r h hK
set_option maxRecDepth 20000 in
theorem zg_0 {Γ : jb_G} {d : Nat} (hd : 49 ≤ d) (L : Nat) (M : jb_Mi) (N : jb_Ml) {v : Option Value} {σ2 : jb_S} {r : (Bool × jb_Mi × jb_Ml)} (h : zf_0 L M N = some r) (hK : (fun r : Bool × jb_Mi × jb_Ml => v = some (.int (jb_b2i r.1)) ∧ σ2 = (zE L, r.2.1, r.2.2)) r) : jb_V Γ d zq_0 16 [some (.ref 0), some (.ref 1), some (.ref 79), none] [] (zE L, M, N) v σ2 := by
  obtain ⟨d, rfl⟩ : ∃ e, d = e + 1 := ⟨d - 1, by omega⟩
  unfold zf_0 at h
  refine jb_seg 2 (pc' := 18) (ls' := [some (.ref 0), some (.ref 1), some (.ref 79), some (.int 0)]) (st' := []) (σ' := (zE L, M, N)) (G := []) rfl trivial ?_
  exact jb_mask [true, true, true, true] rfl (zg_0_H18L hd L h hK)
