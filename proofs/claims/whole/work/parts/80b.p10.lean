-- X12_house
set_option maxRecDepth 20000 in
theorem zg_126 {Γ : jb_G} {L : Nat} {d : Nat} (hd : 1 ≤ d) (x1 : Int32) (x2 : Int32) (x3 : Int32) (M : jb_Mi) (N : jb_Ml) {v : Option Value} {σ2 : jb_S} {r : (Bool × jb_Mi)} (h : zf_126 x1 x2 x3 M = some r) (hK : (fun r : Bool × jb_Mi => v = some (.int (jb_b2i r.1)) ∧ σ2 = (zE L, r.2, N)) r) : jb_V Γ d zq_126 0 [some (.ref 1), some (.int x1), some (.int x2), some (.int x3)] [] (zE L, M, N) v σ2 := by
  obtain ⟨d, rfl⟩ : ∃ e, d = e + 1 := ⟨d - 1, by omega⟩
  unfold zf_126 at h
  refine jb_seg 3 (pc' := 3) (ls' := [some (.ref 1), some (.int x1), some (.int x2), some (.int x3)]) (st' := [(.int 5), (.int 0), (.int x1)]) (σ' := (zE L, M, N)) (G := []) rfl trivial ?_
  refine jb_callS (q' := zq_23) (As := [(.int x1), (.int 0), (.int 5)]) (rest := []) (σ1 := (zE L, M, N)) (v := some (.int (jb_b2i (zf_23 x1 0 5)))) rfl (Nat.le_of_ble_eq_true rfl) rfl zp_23 (jb_cat rfl) (Nat.le_of_ble_eq_true rfl) (Nat.le_of_ble_eq_true rfl) (Or.inl rfl) rfl (ze_23 x1 0 5 M N rfl) ?_
  refine jb_seg 1 (pc' := (if (jb_b2i (zf_23 x1 0 5)) = 0 then 29 else 9)) (ls' := [some (.ref 1), some (.int x1), some (.int x2), some (.int x3)]) (st' := []) (σ' := (zE L, M, N)) (G := []) rfl trivial ?_
  refine jb_ite (fun c => ?_) (fun c => ?_)
  · replace h := (if_pos c).symm.trans h
    refine jb_seg 1 (pc' := 30) (ls' := [some (.ref 1), some (.int x1), some (.int x2), some (.int x3)]) (st' := [(.int 0)]) (σ' := (zE L, M, N)) (G := []) rfl trivial ?_
    obtain rfl := Option.some.inj h
    obtain ⟨rfl, rfl⟩ := hK
    exact jb_retz (by decide) rfl rfl
  · replace h := (if_neg c).symm.trans h
    refine jb_seg 3 (pc' := 13) (ls' := [some (.ref 1), some (.int x1), some (.int x2), some (.int x3)]) (st' := [(.int 9), (.int 1), (.int x2)]) (σ' := (zE L, M, N)) (G := []) rfl trivial ?_
    refine jb_callS (q' := zq_23) (As := [(.int x2), (.int 1), (.int 9)]) (rest := []) (σ1 := (zE L, M, N)) (v := some (.int (jb_b2i (zf_23 x2 1 9)))) rfl (Nat.le_of_ble_eq_true rfl) rfl zp_23 (jb_cat rfl) (Nat.le_of_ble_eq_true rfl) (Nat.le_of_ble_eq_true rfl) (Or.inl rfl) rfl (ze_23 x2 1 9 M N rfl) ?_
    refine jb_seg 1 (pc' := (if (jb_b2i (zf_23 x2 1 9)) = 0 then 29 else 19)) (ls' := [some (.ref 1), some (.int x1), some (.int x2), some (.int x3)]) (st' := []) (σ' := (zE L, M, N)) (G := []) rfl trivial ?_
    refine jb_ite (fun c => ?_) (fun c => ?_)
    · replace h := (if_pos c).symm.trans h
      refine jb_seg 1 (pc' := 30) (ls' := [some (.ref 1), some (.int x1), some (.int x2), some (.int x3)]) (st' := [(.int 0)]) (σ' := (zE L, M, N)) (G := []) rfl trivial ?_
      obtain rfl := Option.some.inj h
      obtain ⟨rfl, rfl⟩ := hK
      exact jb_retz (by decide) rfl rfl
    · replace h := (if_neg c).symm.trans h
      refine jb_seg 3 (pc' := 23) (ls' := [some (.ref 1), some (.int x1), some (.int x2), some (.int x3)]) (st' := [(.int 99), (.int 0), (.int x3)]) (σ' := (zE L, M, N)) (G := []) rfl trivial ?_
      refine jb_callS (q' := zq_23) (As := [(.int x3), (.int 0), (.int 99)]) (rest := []) (σ1 := (zE L, M, N)) (v := some (.int (jb_b2i (zf_23 x3 0 99)))) rfl (Nat.le_of_ble_eq_true rfl) rfl zp_23 (jb_cat rfl) (Nat.le_of_ble_eq_true rfl) (Nat.le_of_ble_eq_true rfl) (Or.inl rfl) rfl (ze_23 x3 0 99 M N rfl) ?_
      refine jb_seg 1 (pc' := (if (jb_b2i (zf_23 x3 0 99)) = 0 then 29 else 31)) (ls' := [some (.ref 1), some (.int x1), some (.int x2), some (.int x3)]) (st' := []) (σ' := (zE L, M, N)) (G := []) rfl trivial ?_
      refine jb_ite (fun c => ?_) (fun c => ?_)
      · replace h := (if_pos c).symm.trans h
        refine jb_seg 1 (pc' := 30) (ls' := [some (.ref 1), some (.int x1), some (.int x2), some (.int x3)]) (st' := [(.int 0)]) (σ' := (zE L, M, N)) (G := []) rfl trivial ?_
        obtain rfl := Option.some.inj h
        obtain ⟨rfl, rfl⟩ := hK
        exact jb_retz (by decide) rfl rfl
      · replace h := (if_neg c).symm.trans h
        obtain ⟨g1, h⟩ := jb_gd_of h
        obtain ⟨g2, h⟩ := jb_gd_of h
        obtain ⟨g3, h⟩ := jb_gd_of h
        refine jb_seg 19 (pc' := 62) (ls' := [some (.ref 1), some (.int x1), some (.int x2), some (.int x3)]) (st' := [(.int 1)]) (σ' := (zE L, (jb_up (jb_up (jb_up M 5 x1.toNatClampNeg x2) 6 x1.toNatClampNeg x3) 7 x1.toNatClampNeg 0), N)) (G := [vp_in x1 6, vp_in x1 6, vp_in x1 6]) rfl ⟨g1, g2, g3⟩ ?_
        obtain rfl := Option.some.inj h
        obtain ⟨rfl, rfl⟩ := hK
        exact jb_retz (by decide) rfl rfl
theorem ze_126 {Γ : jb_G} {L : Nat} {d : Nat} (hd : 1 ≤ d) (x1 : Int32) (x2 : Int32) (x3 : Int32) (M : jb_Mi) (N : jb_Ml) {r : (Bool × jb_Mi)} (h : zf_126 x1 x2 x3 M = some r) : jb_V Γ d zq_126 0 (jb_en 4 [(.ref 1), (.int x1), (.int x2), (.int x3)]) [] (zE L, M, N) (some (.int (jb_b2i r.1))) (zE L, r.2, N) := zg_126 hd x1 x2 x3 M N h ⟨rfl, rfl⟩
-- X12_thing
set_option maxRecDepth 20000 in
theorem zg_127 {Γ : jb_G} {L : Nat} {d : Nat} (hd : 1 ≤ d) (x1 : Int32) (x2 : Int32) (x3 : Int32) (x4 : Int32) (x5 : Int32) (M : jb_Mi) (N : jb_Ml) {v : Option Value} {σ2 : jb_S} {r : (Bool × jb_Mi)} (h : zf_127 x1 x2 x3 x4 x5 M = some r) (hK : (fun r : Bool × jb_Mi => v = some (.int (jb_b2i r.1)) ∧ σ2 = (zE L, r.2, N)) r) : jb_V Γ d zq_127 0 [some (.ref 1), some (.int x1), some (.int x2), some (.int x3), some (.int x4), some (.int x5)] [] (zE L, M, N) v σ2 := by
  obtain ⟨d, rfl⟩ : ∃ e, d = e + 1 := ⟨d - 1, by omega⟩
  unfold zf_127 at h
  refine jb_seg 3 (pc' := 4) (ls' := [some (.ref 1), some (.int x1), some (.int x2), some (.int x3), some (.int x4), some (.int x5)]) (st' := [(.int 23), (.int 0), (.int x1)]) (σ' := (zE L, M, N)) (G := []) rfl trivial ?_
  refine jb_callS (q' := zq_23) (As := [(.int x1), (.int 0), (.int 23)]) (rest := []) (σ1 := (zE L, M, N)) (v := some (.int (jb_b2i (zf_23 x1 0 23)))) rfl (Nat.le_of_ble_eq_true rfl) rfl zp_23 (jb_cat rfl) (Nat.le_of_ble_eq_true rfl) (Nat.le_of_ble_eq_true rfl) (Or.inl rfl) rfl (ze_23 x1 0 23 M N rfl) ?_
  refine jb_seg 1 (pc' := (if (jb_b2i (zf_23 x1 0 23)) = 0 then 32 else 10)) (ls' := [some (.ref 1), some (.int x1), some (.int x2), some (.int x3), some (.int x4), some (.int x5)]) (st' := []) (σ' := (zE L, M, N)) (G := []) rfl trivial ?_
  refine jb_ite (fun c => ?_) (fun c => ?_)
  · replace h := (if_pos c).symm.trans h
    refine jb_seg 1 (pc' := 33) (ls' := [some (.ref 1), some (.int x1), some (.int x2), some (.int x3), some (.int x4), some (.int x5)]) (st' := [(.int 0)]) (σ' := (zE L, M, N)) (G := []) rfl trivial ?_
    obtain rfl := Option.some.inj h
    obtain ⟨rfl, rfl⟩ := hK
    exact jb_retz (by decide) rfl rfl
  · replace h := (if_neg c).symm.trans h
    refine jb_seg 3 (pc' := 15) (ls' := [some (.ref 1), some (.int x1), some (.int x2), some (.int x3), some (.int x4), some (.int x5)]) (st' := [(.int x2), (.ref 4)]) (σ' := (zE L, M, N)) (G := []) rfl trivial ?_
    obtain ⟨q1, h1, h⟩ := jb_bd_of h
    refine jb_callV (q' := zq_2) (As := [(.int x2)]) (rest := []) (σ1 := (zE L, M, N)) (v := some (.int (jb_b2i q1))) rfl rfl zp_2 rfl (Nat.le_of_ble_eq_true rfl) (jb_cat rfl) (Nat.le_of_ble_eq_true rfl) (Nat.le_of_ble_eq_true rfl) (Or.inl rfl) rfl (ze_2 4 x2 M N (by decide) h1) ?_
    refine jb_seg 1 (pc' := (if (jb_b2i q1) = 0 then 32 else 21)) (ls' := [some (.ref 1), some (.int x1), some (.int x2), some (.int x3), some (.int x4), some (.int x5)]) (st' := []) (σ' := (zE L, M, N)) (G := []) rfl trivial ?_
    refine jb_ite (fun c => ?_) (fun c => ?_)
    · replace h := (if_pos c).symm.trans h
      refine jb_seg 1 (pc' := 33) (ls' := [some (.ref 1), some (.int x1), some (.int x2), some (.int x3), some (.int x4), some (.int x5)]) (st' := [(.int 0)]) (σ' := (zE L, M, N)) (G := []) rfl trivial ?_
      obtain rfl := Option.some.inj h
      obtain ⟨rfl, rfl⟩ := hK
      exact jb_retz (by decide) rfl rfl
    · replace h := (if_neg c).symm.trans h
      refine jb_seg 3 (pc' := 26) (ls' := [some (.ref 1), some (.int x1), some (.int x2), some (.int x3), some (.int x4), some (.int x5)]) (st' := [(.int 99), (.int 1), (.int x5)]) (σ' := (zE L, M, N)) (G := []) rfl trivial ?_
      refine jb_callS (q' := zq_23) (As := [(.int x5), (.int 1), (.int 99)]) (rest := []) (σ1 := (zE L, M, N)) (v := some (.int (jb_b2i (zf_23 x5 1 99)))) rfl (Nat.le_of_ble_eq_true rfl) rfl zp_23 (jb_cat rfl) (Nat.le_of_ble_eq_true rfl) (Nat.le_of_ble_eq_true rfl) (Or.inl rfl) rfl (ze_23 x5 1 99 M N rfl) ?_
      refine jb_seg 1 (pc' := (if (jb_b2i (zf_23 x5 1 99)) = 0 then 32 else 34)) (ls' := [some (.ref 1), some (.int x1), some (.int x2), some (.int x3), some (.int x4), some (.int x5)]) (st' := []) (σ' := (zE L, M, N)) (G := []) rfl trivial ?_
      refine jb_ite (fun c => ?_) (fun c => ?_)
      · replace h := (if_pos c).symm.trans h
        refine jb_seg 1 (pc' := 33) (ls' := [some (.ref 1), some (.int x1), some (.int x2), some (.int x3), some (.int x4), some (.int x5)]) (st' := [(.int 0)]) (σ' := (zE L, M, N)) (G := []) rfl trivial ?_
        obtain rfl := Option.some.inj h
        obtain ⟨rfl, rfl⟩ := hK
        exact jb_retz (by decide) rfl rfl
      · replace h := (if_neg c).symm.trans h
        refine jb_seg 3 (pc' := 38) (ls' := [some (.ref 1), some (.int x1), some (.int x2), some (.int x3), some (.int x4), some (.int x5)]) (st' := [(.int 8), (.int 0), (.int x3)]) (σ' := (zE L, M, N)) (G := []) rfl trivial ?_
        refine jb_callS (q' := zq_23) (As := [(.int x3), (.int 0), (.int 8)]) (rest := []) (σ1 := (zE L, M, N)) (v := some (.int (jb_b2i (zf_23 x3 0 8)))) rfl (Nat.le_of_ble_eq_true rfl) rfl zp_23 (jb_cat rfl) (Nat.le_of_ble_eq_true rfl) (Nat.le_of_ble_eq_true rfl) (Or.inl rfl) rfl (ze_23 x3 0 8 M N rfl) ?_
        refine jb_seg 1 (pc' := (if (jb_b2i (zf_23 x3 0 8)) = 0 then 55 else 44)) (ls' := [some (.ref 1), some (.int x1), some (.int x2), some (.int x3), some (.int x4), some (.int x5)]) (st' := []) (σ' := (zE L, M, N)) (G := []) rfl trivial ?_
        refine jb_ite (fun c => ?_) (fun c => ?_)
        · replace h := (if_pos c).symm.trans h
          refine jb_seg 1 (pc' := 56) (ls' := [some (.ref 1), some (.int x1), some (.int x2), some (.int x3), some (.int x4), some (.int x5)]) (st' := [(.int 0)]) (σ' := (zE L, M, N)) (G := []) rfl trivial ?_
          obtain rfl := Option.some.inj h
          obtain ⟨rfl, rfl⟩ := hK
          exact jb_retz (by decide) rfl rfl
        · replace h := (if_neg c).symm.trans h
          refine jb_seg 3 (pc' := 49) (ls' := [some (.ref 1), some (.int x1), some (.int x2), some (.int x3), some (.int x4), some (.int x5)]) (st' := [(.int 8), (.int 0), (.int x4)]) (σ' := (zE L, M, N)) (G := []) rfl trivial ?_
          refine jb_callS (q' := zq_23) (As := [(.int x4), (.int 0), (.int 8)]) (rest := []) (σ1 := (zE L, M, N)) (v := some (.int (jb_b2i (zf_23 x4 0 8)))) rfl (Nat.le_of_ble_eq_true rfl) rfl zp_23 (jb_cat rfl) (Nat.le_of_ble_eq_true rfl) (Nat.le_of_ble_eq_true rfl) (Or.inl rfl) rfl (ze_23 x4 0 8 M N rfl) ?_
          refine jb_seg 1 (pc' := (if (jb_b2i (zf_23 x4 0 8)) = 0 then 55 else 57)) (ls' := [some (.ref 1), some (.int x1), some (.int x2), some (.int x3), some (.int x4), some (.int x5)]) (st' := []) (σ' := (zE L, M, N)) (G := []) rfl trivial ?_
          refine jb_ite (fun c => ?_) (fun c => ?_)
          · replace h := (if_pos c).symm.trans h
            refine jb_seg 1 (pc' := 56) (ls' := [some (.ref 1), some (.int x1), some (.int x2), some (.int x3), some (.int x4), some (.int x5)]) (st' := [(.int 0)]) (σ' := (zE L, M, N)) (G := []) rfl trivial ?_
            obtain rfl := Option.some.inj h
            obtain ⟨rfl, rfl⟩ := hK
            exact jb_retz (by decide) rfl rfl
          · replace h := (if_neg c).symm.trans h
            obtain ⟨g2, h⟩ := jb_gd_of h
            obtain ⟨g3, h⟩ := jb_gd_of h
            obtain ⟨g4, h⟩ := jb_gd_of h
            obtain ⟨g5, h⟩ := jb_gd_of h
            refine jb_seg 25 (pc' := 100) (ls' := [some (.ref 1), some (.int x1), some (.int x2), some (.int x3), some (.int x4), some (.int x5)]) (st' := [(.int 1)]) (σ' := (zE L, (jb_up (jb_up (jb_up (jb_up M 8 x1.toNatClampNeg x2) 9 x1.toNatClampNeg x3) 10 x1.toNatClampNeg x4) 11 x1.toNatClampNeg x5), N)) (G := [vp_in x1 24, vp_in x1 24, vp_in x1 24, vp_in x1 24]) rfl ⟨g2, g3, g4, g5⟩ ?_
            obtain rfl := Option.some.inj h
            obtain ⟨rfl, rfl⟩ := hK
            exact jb_retz (by decide) rfl rfl
theorem ze_127 {Γ : jb_G} {L : Nat} {d : Nat} (hd : 1 ≤ d) (x1 : Int32) (x2 : Int32) (x3 : Int32) (x4 : Int32) (x5 : Int32) (M : jb_Mi) (N : jb_Ml) {r : (Bool × jb_Mi)} (h : zf_127 x1 x2 x3 x4 x5 M = some r) : jb_V Γ d zq_127 0 (jb_en 6 [(.ref 1), (.int x1), (.int x2), (.int x3), (.int x4), (.int x5)]) [] (zE L, M, N) (some (.int (jb_b2i r.1))) (zE L, r.2, N) := zg_127 hd x1 x2 x3 x4 x5 M N h ⟨rfl, rfl⟩
-- X12_man
set_option maxRecDepth 20000 in
theorem zg_128 {Γ : jb_G} {L : Nat} {d : Nat} (hd : 1 ≤ d) (x1 : Int32) (x2 : Int32) (M : jb_Mi) (N : jb_Ml) {v : Option Value} {σ2 : jb_S} {r : (Bool × jb_Mi)} (h : zf_128 x1 x2 M = some r) (hK : (fun r : Bool × jb_Mi => v = some (.int (jb_b2i r.1)) ∧ σ2 = (zE L, r.2, N)) r) : jb_V Γ d zq_128 0 [some (.ref 1), some (.int x1), some (.int x2)] [] (zE L, M, N) v σ2 := by
  obtain ⟨d, rfl⟩ : ∃ e, d = e + 1 := ⟨d - 1, by omega⟩
  unfold zf_128 at h
  refine jb_seg 3 (pc' := 4) (ls' := [some (.ref 1), some (.int x1), some (.int x2)]) (st' := [(.int 15), (.int 0), (.int x1)]) (σ' := (zE L, M, N)) (G := []) rfl trivial ?_
  refine jb_callS (q' := zq_23) (As := [(.int x1), (.int 0), (.int 15)]) (rest := []) (σ1 := (zE L, M, N)) (v := some (.int (jb_b2i (zf_23 x1 0 15)))) rfl (Nat.le_of_ble_eq_true rfl) rfl zp_23 (jb_cat rfl) (Nat.le_of_ble_eq_true rfl) (Nat.le_of_ble_eq_true rfl) (Or.inl rfl) rfl (ze_23 x1 0 15 M N rfl) ?_
  refine jb_seg 1 (pc' := (if (jb_b2i (zf_23 x1 0 15)) = 0 then 20 else 10)) (ls' := [some (.ref 1), some (.int x1), some (.int x2)]) (st' := []) (σ' := (zE L, M, N)) (G := []) rfl trivial ?_
  refine jb_ite (fun c => ?_) (fun c => ?_)
  · replace h := (if_pos c).symm.trans h
    refine jb_seg 1 (pc' := 21) (ls' := [some (.ref 1), some (.int x1), some (.int x2)]) (st' := [(.int 0)]) (σ' := (zE L, M, N)) (G := []) rfl trivial ?_
    obtain rfl := Option.some.inj h
    obtain ⟨rfl, rfl⟩ := hK
    exact jb_retz (by decide) rfl rfl
  · replace h := (if_neg c).symm.trans h
    refine jb_seg 3 (pc' := 14) (ls' := [some (.ref 1), some (.int x1), some (.int x2)]) (st' := [(.int 99), (.int 1), (.int x2)]) (σ' := (zE L, M, N)) (G := []) rfl trivial ?_
    refine jb_callS (q' := zq_23) (As := [(.int x2), (.int 1), (.int 99)]) (rest := []) (σ1 := (zE L, M, N)) (v := some (.int (jb_b2i (zf_23 x2 1 99)))) rfl (Nat.le_of_ble_eq_true rfl) rfl zp_23 (jb_cat rfl) (Nat.le_of_ble_eq_true rfl) (Nat.le_of_ble_eq_true rfl) (Or.inl rfl) rfl (ze_23 x2 1 99 M N rfl) ?_
    refine jb_seg 1 (pc' := (if (jb_b2i (zf_23 x2 1 99)) = 0 then 20 else 22)) (ls' := [some (.ref 1), some (.int x1), some (.int x2)]) (st' := []) (σ' := (zE L, M, N)) (G := []) rfl trivial ?_
    refine jb_ite (fun c => ?_) (fun c => ?_)
    · replace h := (if_pos c).symm.trans h
      refine jb_seg 1 (pc' := 21) (ls' := [some (.ref 1), some (.int x1), some (.int x2)]) (st' := [(.int 0)]) (σ' := (zE L, M, N)) (G := []) rfl trivial ?_
      obtain rfl := Option.some.inj h
      obtain ⟨rfl, rfl⟩ := hK
      exact jb_retz (by decide) rfl rfl
    · replace h := (if_neg c).symm.trans h
      obtain ⟨g1, h⟩ := jb_gd_of h
      obtain ⟨g2, h⟩ := jb_gd_of h
      refine jb_seg 13 (pc' := 43) (ls' := [some (.ref 1), some (.int x1), some (.int x2)]) (st' := [(.int 1)]) (σ' := (zE L, (jb_up (jb_up M 12 x1.toNatClampNeg x2) 13 x1.toNatClampNeg 0), N)) (G := [vp_in x1 16, vp_in x1 16]) rfl ⟨g1, g2⟩ ?_
      obtain rfl := Option.some.inj h
      obtain ⟨rfl, rfl⟩ := hK
      exact jb_retz (by decide) rfl rfl
theorem ze_128 {Γ : jb_G} {L : Nat} {d : Nat} (hd : 1 ≤ d) (x1 : Int32) (x2 : Int32) (M : jb_Mi) (N : jb_Ml) {r : (Bool × jb_Mi)} (h : zf_128 x1 x2 M = some r) : jb_V Γ d zq_128 0 (jb_en 3 [(.ref 1), (.int x1), (.int x2)]) [] (zE L, M, N) (some (.int (jb_b2i r.1))) (zE L, r.2, N) := zg_128 hd x1 x2 M N h ⟨rfl, rfl⟩
-- X12_feed
set_option maxRecDepth 20000 in
theorem zg_129 {Γ : jb_G} {L : Nat} {d : Nat} (hd : 1 ≤ d) (x1 : Int32) (x2 : Int32) (x3 : Int32) (x4 : Int32) (x5 : Int32) (M : jb_Mi) (N : jb_Ml) {v : Option Value} {σ2 : jb_S} {r : (Int32 × jb_Mi)} (h : zf_129 x1 x2 x3 x4 x5 M = some r) (hK : (fun r : Int32 × jb_Mi => v = some (.int r.1) ∧ σ2 = (zE L, r.2, N)) r) : jb_V Γ d zq_129 0 [some (.ref 1), some (.int x1), some (.int x2), some (.int x3), some (.int x4), some (.int x5)] [] (zE L, M, N) v σ2 := by
  obtain ⟨d, rfl⟩ : ∃ e, d = e + 1 := ⟨d - 1, by omega⟩
  unfold zf_129 at h
  refine jb_seg 2 (pc' := 4) (ls' := [some (.ref 1), some (.int x1), some (.int x2), some (.int x3), some (.int x4), some (.int x5)]) (st' := [(.ref 2)]) (σ' := (zE L, M, N)) (G := []) rfl trivial ?_
  refine jb_callV (q' := zq_114) (As := []) (rest := []) (σ1 := (zE L, M, N)) (v := some (.int (jb_b2i (zf_114 M)))) rfl rfl zp_114 rfl (Nat.le_of_ble_eq_true rfl) (jb_cat rfl) (Nat.le_of_ble_eq_true rfl) (Nat.le_of_ble_eq_true rfl) (Or.inl rfl) rfl (ze_114 M N rfl) ?_
  refine jb_seg 1 (pc' := (if (jb_b2i (zf_114 M)) = 0 then 10 else 12)) (ls' := [some (.ref 1), some (.int x1), some (.int x2), some (.int x3), some (.int x4), some (.int x5)]) (st' := []) (σ' := (zE L, M, N)) (G := []) rfl trivial ?_
  refine jb_ite (fun c => ?_) (fun c => ?_)
  · replace h := (if_pos c).symm.trans h
    refine jb_seg 1 (pc' := 11) (ls' := [some (.ref 1), some (.int x1), some (.int x2), some (.int x3), some (.int x4), some (.int x5)]) (st' := [(.int (-1))]) (σ' := (zE L, M, N)) (G := []) rfl trivial ?_
    obtain rfl := Option.some.inj h
    obtain ⟨rfl, rfl⟩ := hK
    exact jb_reti rfl rfl
  · replace h := (if_neg c).symm.trans h
    refine jb_seg 3 (pc' := 17) (ls' := [some (.ref 1), some (.int x1), some (.int x2), some (.int x3), some (.int x4), some (.int x5)]) (st' := [(.int x1), (.ref 2)]) (σ' := (zE L, M, N)) (G := []) rfl trivial ?_
    obtain ⟨q1, h1, h⟩ := jb_bd_of h
    refine jb_callV (q' := zq_115) (As := [(.int x1)]) (rest := []) (σ1 := (zE L, q1, N)) (v := none) rfl rfl zp_115 rfl (Nat.le_of_ble_eq_true rfl) (jb_cat rfl) (Nat.le_of_ble_eq_true rfl) (Nat.le_of_ble_eq_true rfl) (Or.inl rfl) rfl (ze_115 x1 M N h1) ?_
    refine jb_seg 3 (pc' := 25) (ls' := [some (.ref 1), some (.int x1), some (.int x2), some (.int x3), some (.int x4), some (.int x5)]) (st' := [(.int x2), (.ref 2)]) (σ' := (zE L, q1, N)) (G := []) rfl trivial ?_
    obtain ⟨q2, h2, h⟩ := jb_bd_of h
    refine jb_callV (q' := zq_115) (As := [(.int x2)]) (rest := []) (σ1 := (zE L, q2, N)) (v := none) rfl rfl zp_115 rfl (Nat.le_of_ble_eq_true rfl) (jb_cat rfl) (Nat.le_of_ble_eq_true rfl) (Nat.le_of_ble_eq_true rfl) (Or.inl rfl) rfl (ze_115 x2 q1 N h2) ?_
    refine jb_seg 3 (pc' := 33) (ls' := [some (.ref 1), some (.int x1), some (.int x2), some (.int x3), some (.int x4), some (.int x5)]) (st' := [(.int x3), (.ref 2)]) (σ' := (zE L, q2, N)) (G := []) rfl trivial ?_
    obtain ⟨q3, h3, h⟩ := jb_bd_of h
    refine jb_callV (q' := zq_115) (As := [(.int x3)]) (rest := []) (σ1 := (zE L, q3, N)) (v := none) rfl rfl zp_115 rfl (Nat.le_of_ble_eq_true rfl) (jb_cat rfl) (Nat.le_of_ble_eq_true rfl) (Nat.le_of_ble_eq_true rfl) (Or.inl rfl) rfl (ze_115 x3 q2 N h3) ?_
    refine jb_seg 3 (pc' := 42) (ls' := [some (.ref 1), some (.int x1), some (.int x2), some (.int x3), some (.int x4), some (.int x5)]) (st' := [(.int x4), (.ref 2)]) (σ' := (zE L, q3, N)) (G := []) rfl trivial ?_
    obtain ⟨q4, h4, h⟩ := jb_bd_of h
    refine jb_callV (q' := zq_115) (As := [(.int x4)]) (rest := []) (σ1 := (zE L, q4, N)) (v := none) rfl rfl zp_115 rfl (Nat.le_of_ble_eq_true rfl) (jb_cat rfl) (Nat.le_of_ble_eq_true rfl) (Nat.le_of_ble_eq_true rfl) (Or.inl rfl) rfl (ze_115 x4 q3 N h4) ?_
    refine jb_seg 3 (pc' := 51) (ls' := [some (.ref 1), some (.int x1), some (.int x2), some (.int x3), some (.int x4), some (.int x5)]) (st' := [(.int x5), (.ref 2)]) (σ' := (zE L, q4, N)) (G := []) rfl trivial ?_
    obtain ⟨q5, h5, h⟩ := jb_bd_of h
    refine jb_callV (q' := zq_115) (As := [(.int x5)]) (rest := []) (σ1 := (zE L, q5, N)) (v := none) rfl rfl zp_115 rfl (Nat.le_of_ble_eq_true rfl) (jb_cat rfl) (Nat.le_of_ble_eq_true rfl) (Nat.le_of_ble_eq_true rfl) (Or.inl rfl) rfl (ze_115 x5 q4 N h5) ?_
    refine jb_seg 3 (pc' := 61) (ls' := [some (.ref 1), some (.int x1), some (.int x2), some (.int x3), some (.int x4), some (.int x5)]) (st' := [(.int (q5 2 1))]) (σ' := (zE L, q5, N)) (G := []) rfl trivial ?_
    obtain rfl := Option.some.inj h
    obtain ⟨rfl, rfl⟩ := hK
    exact jb_reti rfl rfl
theorem ze_129 {Γ : jb_G} {L : Nat} {d : Nat} (hd : 1 ≤ d) (x1 : Int32) (x2 : Int32) (x3 : Int32) (x4 : Int32) (x5 : Int32) (M : jb_Mi) (N : jb_Ml) {r : (Int32 × jb_Mi)} (h : zf_129 x1 x2 x3 x4 x5 M = some r) : jb_V Γ d zq_129 0 (jb_en 6 [(.ref 1), (.int x1), (.int x2), (.int x3), (.int x4), (.int x5)]) [] (zE L, M, N) (some (.int r.1)) (zE L, r.2, N) := zg_129 hd x1 x2 x3 x4 x5 M N h ⟨rfl, rfl⟩
-- X12_law
set_option maxRecDepth 20000 in
theorem zg_130 {Γ : jb_G} {L : Nat} {d : Nat} (hd : 48 ≤ d) (x1 : Int32) (M : jb_Mi) (N : jb_Ml) {v : Option Value} {σ2 : jb_S} {r : (Int32 × jb_Mi)} (h : zf_130 x1 M = some r) (hK : (fun r : Int32 × jb_Mi => v = some (.int r.1) ∧ σ2 = (zE L, r.2, N)) r) : jb_V Γ d zq_130 0 [some (.ref 1), some (.int x1), none] [] (zE L, M, N) v σ2 := by
  obtain ⟨d, rfl⟩ : ∃ e, d = e + 1 := ⟨d - 1, by omega⟩
  unfold zf_130 at h
  refine jb_seg 3 (pc' := 5) (ls' := [some (.ref 1), some (.int x1), none]) (st' := [(.int 240), (.int 1), (.int x1)]) (σ' := (zE L, M, N)) (G := []) rfl trivial ?_
  refine jb_callS (q' := zq_23) (As := [(.int x1), (.int 1), (.int 240)]) (rest := []) (σ1 := (zE L, M, N)) (v := some (.int (jb_b2i (zf_23 x1 1 240)))) rfl (Nat.le_of_ble_eq_true rfl) rfl zp_23 (jb_cat rfl) (Nat.le_of_ble_eq_true rfl) (Nat.le_of_ble_eq_true rfl) (Or.inl rfl) rfl (ze_23 x1 1 240 M N rfl) ?_
  refine jb_seg 1 (pc' := (if (jb_b2i (zf_23 x1 1 240)) = 0 then 22 else 11)) (ls' := [some (.ref 1), some (.int x1), none]) (st' := []) (σ' := (zE L, M, N)) (G := []) rfl trivial ?_
  refine jb_ite (fun c => ?_) (fun c => ?_)
  · replace h := (if_pos c).symm.trans h
    refine jb_seg 1 (pc' := 23) (ls' := [some (.ref 1), some (.int x1), none]) (st' := [(.int (-1))]) (σ' := (zE L, M, N)) (G := []) rfl trivial ?_
    obtain rfl := Option.some.inj h
    obtain ⟨rfl, rfl⟩ := hK
    exact jb_reti rfl rfl
  · replace h := (if_neg c).symm.trans h
    refine jb_seg 3 (pc' := 16) (ls' := [some (.ref 1), some (.int x1), none]) (st' := [(.int x1), (.ref 2)]) (σ' := (zE L, M, N)) (G := []) rfl trivial ?_
    refine jb_callV (q' := zq_116) (As := [(.int x1)]) (rest := []) (σ1 := (zE L, M, N)) (v := some (.int (jb_b2i (zf_116 x1 M)))) rfl rfl zp_116 rfl (Nat.le_of_ble_eq_true rfl) (jb_cat rfl) (Nat.le_of_ble_eq_true rfl) (Nat.le_of_ble_eq_true rfl) (Or.inl rfl) rfl (ze_116 x1 M N rfl) ?_
    refine jb_seg 1 (pc' := (if (jb_b2i (zf_116 x1 M)) = 0 then 22 else 24)) (ls' := [some (.ref 1), some (.int x1), none]) (st' := []) (σ' := (zE L, M, N)) (G := []) rfl trivial ?_
    refine jb_ite (fun c => ?_) (fun c => ?_)
    · replace h := (if_pos c).symm.trans h
      refine jb_seg 1 (pc' := 23) (ls' := [some (.ref 1), some (.int x1), none]) (st' := [(.int (-1))]) (σ' := (zE L, M, N)) (G := []) rfl trivial ?_
      obtain rfl := Option.some.inj h
      obtain ⟨rfl, rfl⟩ := hK
      exact jb_reti rfl rfl
    · replace h := (if_neg c).symm.trans h
      refine jb_seg 3 (pc' := 29) (ls' := [some (.ref 1), some (.int x1), none]) (st' := [(.int x1), (.ref 2)]) (σ' := (zE L, M, N)) (G := []) rfl trivial ?_
      refine jb_callV (q' := zq_117) (As := [(.int x1)]) (rest := []) (σ1 := (zE L, (zf_117 x1 M), N)) (v := none) rfl rfl zp_117 rfl (Nat.le_of_ble_eq_true rfl) (jb_cat rfl) (Nat.le_of_ble_eq_true rfl) (Nat.le_of_ble_eq_true rfl) (Or.inl rfl) rfl (ze_117 (by omega) x1 M N rfl) ?_
      refine jb_seg 2 (pc' := 36) (ls' := [some (.ref 1), some (.int x1), none]) (st' := [(.ref 50)]) (σ' := (zE L, (zf_117 x1 M), N)) (G := []) rfl trivial ?_
      obtain ⟨q1, h1, h⟩ := jb_bd_of h
      refine jb_callV (q' := zq_84) (As := []) (rest := []) (σ1 := (zE L, q1.2, N)) (v := some (.int q1.1)) rfl rfl zp_84 rfl (Nat.le_of_ble_eq_true rfl) (jb_cat rfl) (Nat.le_of_ble_eq_true rfl) (Nat.le_of_ble_eq_true rfl) (Or.inl rfl) rfl (ze_84 (by omega) (zf_117 x1 M) N h1) ?_
      refine jb_seg 4 (pc' := 45) (ls' := [some (.ref 1), some (.int x1), some (.int q1.1)]) (st' := [(.int 0), (.ref 2)]) (σ' := (zE L, q1.2, N)) (G := []) rfl trivial ?_
      refine jb_callV (q' := zq_117) (As := [(.int 0)]) (rest := []) (σ1 := (zE L, (zf_117 0 q1.2), N)) (v := none) rfl rfl zp_117 rfl (Nat.le_of_ble_eq_true rfl) (jb_cat rfl) (Nat.le_of_ble_eq_true rfl) (Nat.le_of_ble_eq_true rfl) (Or.inl rfl) rfl (ze_117 (by omega) 0 q1.2 N rfl) ?_
      refine jb_seg 2 (pc' := (if 0 < q1.1 then 52 else 66)) (ls' := [some (.ref 1), some (.int x1), some (.int q1.1)]) (st' := []) (σ' := (zE L, (zf_117 0 q1.2), N)) (G := []) rfl trivial ?_
      refine jb_ite (fun c => ?_) (fun c => ?_)
      · replace h := (if_pos c).symm.trans h
        refine jb_seg 5 (pc' := 63) (ls' := [some (.ref 1), some (.int x1), some (.int q1.1)]) (st' := [(.ref 51), (.ref 44)]) (σ' := (zE L, (zf_117 0 q1.2), N)) (G := []) rfl trivial ?_
        obtain ⟨q2, h2, h⟩ := jb_bd_of h
        refine jb_callV (q' := zq_72) (As := [(.ref 51)]) (rest := []) (σ1 := (zE L, q2, N)) (v := none) rfl rfl zp_72 rfl (Nat.le_of_ble_eq_true rfl) (jb_cat rfl) (Nat.le_of_ble_eq_true rfl) (Nat.le_of_ble_eq_true rfl) (Or.inl rfl) rfl (ze_72 (by omega) (zf_117 0 q1.2) N h2) ?_
        refine jb_seg 1 (pc' := 67) (ls' := [some (.ref 1), some (.int x1), some (.int q1.1)]) (st' := [(.int q1.1)]) (σ' := (zE L, q2, N)) (G := []) rfl trivial ?_
        obtain rfl := Option.some.inj h
        obtain ⟨rfl, rfl⟩ := hK
        exact jb_reti rfl rfl
      · replace h := (if_neg c).symm.trans h
        refine jb_seg 1 (pc' := 67) (ls' := [some (.ref 1), some (.int x1), some (.int q1.1)]) (st' := [(.int q1.1)]) (σ' := (zE L, (zf_117 0 q1.2), N)) (G := []) rfl trivial ?_
        obtain rfl := Option.some.inj h
        obtain ⟨rfl, rfl⟩ := hK
        exact jb_reti rfl rfl
theorem ze_130 {Γ : jb_G} {L : Nat} {d : Nat} (hd : 48 ≤ d) (x1 : Int32) (M : jb_Mi) (N : jb_Ml) {r : (Int32 × jb_Mi)} (h : zf_130 x1 M = some r) : jb_V Γ d zq_130 0 (jb_en 3 [(.ref 1), (.int x1)]) [] (zE L, M, N) (some (.int r.1)) (zE L, r.2, N) := zg_130 hd x1 M N h ⟨rfl, rfl⟩
-- X12_roster
set_option maxRecDepth 20000 in
theorem zg_131 {Γ : jb_G} {L : Nat} {d : Nat} (hd : 2 ≤ d) (x1 : Int32) (x2 : Int32) (x3 : Int32) (M : jb_Mi) (N : jb_Ml) {v : Option Value} {σ2 : jb_S} {r : (Int32 × jb_Mi)} (h : zf_131 x1 x2 x3 M = some r) (hK : (fun r : Int32 × jb_Mi => v = some (.int r.1) ∧ σ2 = (zE L, r.2, N)) r) : jb_V Γ d zq_131 0 [some (.ref 1), some (.int x1), some (.int x2), some (.int x3), none] [] (zE L, M, N) v σ2 := by
  obtain ⟨d, rfl⟩ : ∃ e, d = e + 1 := ⟨d - 1, by omega⟩
  unfold zf_131 at h
  refine jb_seg 3 (pc' := 3) (ls' := [some (.ref 1), some (.int x1), some (.int x2), some (.int x3), none]) (st' := [(.int 5), (.int 0), (.int x1)]) (σ' := (zE L, M, N)) (G := []) rfl trivial ?_
  refine jb_callS (q' := zq_23) (As := [(.int x1), (.int 0), (.int 5)]) (rest := []) (σ1 := (zE L, M, N)) (v := some (.int (jb_b2i (zf_23 x1 0 5)))) rfl (Nat.le_of_ble_eq_true rfl) rfl zp_23 (jb_cat rfl) (Nat.le_of_ble_eq_true rfl) (Nat.le_of_ble_eq_true rfl) (Or.inl rfl) rfl (ze_23 x1 0 5 M N rfl) ?_
  refine jb_seg 1 (pc' := (if (jb_b2i (zf_23 x1 0 5)) = 0 then 18 else 9)) (ls' := [some (.ref 1), some (.int x1), some (.int x2), some (.int x3), none]) (st' := []) (σ' := (zE L, M, N)) (G := []) rfl trivial ?_
  refine jb_ite (fun c => ?_) (fun c => ?_)
  · replace h := (if_pos c).symm.trans h
    refine jb_seg 1 (pc' := 19) (ls' := [some (.ref 1), some (.int x1), some (.int x2), some (.int x3), none]) (st' := [(.int (-1))]) (σ' := (zE L, M, N)) (G := []) rfl trivial ?_
    obtain rfl := Option.some.inj h
    obtain ⟨rfl, rfl⟩ := hK
    exact jb_reti rfl rfl
  · replace h := (if_neg c).symm.trans h
    refine jb_seg 3 (pc' := 12) (ls' := [some (.ref 1), some (.int x1), some (.int x2), some (.int x3), none]) (st' := [(.int 3), (.int 0), (.int x2)]) (σ' := (zE L, M, N)) (G := []) rfl trivial ?_
    refine jb_callS (q' := zq_23) (As := [(.int x2), (.int 0), (.int 3)]) (rest := []) (σ1 := (zE L, M, N)) (v := some (.int (jb_b2i (zf_23 x2 0 3)))) rfl (Nat.le_of_ble_eq_true rfl) rfl zp_23 (jb_cat rfl) (Nat.le_of_ble_eq_true rfl) (Nat.le_of_ble_eq_true rfl) (Or.inl rfl) rfl (ze_23 x2 0 3 M N rfl) ?_
    refine jb_seg 1 (pc' := (if (jb_b2i (zf_23 x2 0 3)) = 0 then 18 else 20)) (ls' := [some (.ref 1), some (.int x1), some (.int x2), some (.int x3), none]) (st' := []) (σ' := (zE L, M, N)) (G := []) rfl trivial ?_
    refine jb_ite (fun c => ?_) (fun c => ?_)
    · replace h := (if_pos c).symm.trans h
      refine jb_seg 1 (pc' := 19) (ls' := [some (.ref 1), some (.int x1), some (.int x2), some (.int x3), none]) (st' := [(.int (-1))]) (σ' := (zE L, M, N)) (G := []) rfl trivial ?_
      obtain rfl := Option.some.inj h
      obtain ⟨rfl, rfl⟩ := hK
      exact jb_reti rfl rfl
    · replace h := (if_neg c).symm.trans h
      refine jb_seg 3 (pc' := 24) (ls' := [some (.ref 1), some (.int x1), some (.int x2), some (.int x3), none]) (st' := [(.int 40), (.int 1), (.int x3)]) (σ' := (zE L, M, N)) (G := []) rfl trivial ?_
      refine jb_callS (q' := zq_23) (As := [(.int x3), (.int 1), (.int 40)]) (rest := []) (σ1 := (zE L, M, N)) (v := some (.int (jb_b2i (zf_23 x3 1 40)))) rfl (Nat.le_of_ble_eq_true rfl) rfl zp_23 (jb_cat rfl) (Nat.le_of_ble_eq_true rfl) (Nat.le_of_ble_eq_true rfl) (Or.inl rfl) rfl (ze_23 x3 1 40 M N rfl) ?_
      refine jb_seg 1 (pc' := (if (jb_b2i (zf_23 x3 1 40)) = 0 then 41 else 30)) (ls' := [some (.ref 1), some (.int x1), some (.int x2), some (.int x3), none]) (st' := []) (σ' := (zE L, M, N)) (G := []) rfl trivial ?_
      refine jb_ite (fun c => ?_) (fun c => ?_)
      · replace h := (if_pos c).symm.trans h
        refine jb_seg 1 (pc' := 42) (ls' := [some (.ref 1), some (.int x1), some (.int x2), some (.int x3), none]) (st' := [(.int (-1))]) (σ' := (zE L, M, N)) (G := []) rfl trivial ?_
        obtain rfl := Option.some.inj h
        obtain ⟨rfl, rfl⟩ := hK
        exact jb_reti rfl rfl
      · replace h := (if_neg c).symm.trans h
        refine jb_seg 3 (pc' := 35) (ls' := [some (.ref 1), some (.int x1), some (.int x2), some (.int x3), none]) (st' := [(.int x3), (.ref 2)]) (σ' := (zE L, M, N)) (G := []) rfl trivial ?_
        refine jb_callV (q' := zq_116) (As := [(.int x3)]) (rest := []) (σ1 := (zE L, M, N)) (v := some (.int (jb_b2i (zf_116 x3 M)))) rfl rfl zp_116 rfl (Nat.le_of_ble_eq_true rfl) (jb_cat rfl) (Nat.le_of_ble_eq_true rfl) (Nat.le_of_ble_eq_true rfl) (Or.inl rfl) rfl (ze_116 x3 M N rfl) ?_
        refine jb_seg 1 (pc' := (if (jb_b2i (zf_116 x3 M)) = 0 then 41 else 43)) (ls' := [some (.ref 1), some (.int x1), some (.int x2), some (.int x3), none]) (st' := []) (σ' := (zE L, M, N)) (G := []) rfl trivial ?_
        refine jb_ite (fun c => ?_) (fun c => ?_)
        · replace h := (if_pos c).symm.trans h
          refine jb_seg 1 (pc' := 42) (ls' := [some (.ref 1), some (.int x1), some (.int x2), some (.int x3), none]) (st' := [(.int (-1))]) (σ' := (zE L, M, N)) (G := []) rfl trivial ?_
          obtain rfl := Option.some.inj h
          obtain ⟨rfl, rfl⟩ := hK
          exact jb_reti rfl rfl
        · replace h := (if_neg c).symm.trans h
          refine jb_seg 3 (pc' := 48) (ls' := [some (.ref 1), some (.int x1), some (.int x2), some (.int x3), none]) (st' := [(.int x3), (.ref 2)]) (σ' := (zE L, M, N)) (G := []) rfl trivial ?_
          refine jb_callV (q' := zq_117) (As := [(.int x3)]) (rest := []) (σ1 := (zE L, (zf_117 x3 M), N)) (v := none) rfl rfl zp_117 rfl (Nat.le_of_ble_eq_true rfl) (jb_cat rfl) (Nat.le_of_ble_eq_true rfl) (Nat.le_of_ble_eq_true rfl) (Or.inl rfl) rfl (ze_117 (by omega) x3 M N rfl) ?_
          refine jb_seg 4 (pc' := 59) (ls' := [some (.ref 1), some (.int x1), some (.int x2), some (.int x3), none]) (st' := [(.ref 2), (.ref 34)]) (σ' := (zE L, (zf_117 x3 M), N)) (G := []) rfl trivial ?_
          obtain ⟨q1, h1, h⟩ := jb_bd_of h
          refine jb_callV (q' := zq_99) (As := [(.ref 2)]) (rest := []) (σ1 := (zE L, q1.2, N)) (v := some (.int q1.1)) rfl rfl zp_99 rfl (Nat.le_of_ble_eq_true rfl) (jb_cat rfl) (Nat.le_of_ble_eq_true rfl) (Nat.le_of_ble_eq_true rfl) (Or.inl rfl) rfl (ze_99 (by omega) (zf_117 x3 M) N h1) ?_
          refine jb_seg 4 (pc' := 69) (ls' := [some (.ref 1), some (.int x1), some (.int x2), some (.int x3), some (.int q1.1)]) (st' := [(.int 0), (.ref 2)]) (σ' := (zE L, q1.2, N)) (G := []) rfl trivial ?_
          refine jb_callV (q' := zq_117) (As := [(.int 0)]) (rest := []) (σ1 := (zE L, (zf_117 0 q1.2), N)) (v := none) rfl rfl zp_117 rfl (Nat.le_of_ble_eq_true rfl) (jb_cat rfl) (Nat.le_of_ble_eq_true rfl) (Nat.le_of_ble_eq_true rfl) (Or.inl rfl) rfl (ze_117 (by omega) 0 q1.2 N rfl) ?_
          refine jb_seg 2 (pc' := (if 0 < q1.1 then 77 else 89)) (ls' := [some (.ref 1), some (.int x1), some (.int x2), some (.int x3), some (.int q1.1)]) (st' := []) (σ' := (zE L, (zf_117 0 q1.2), N)) (G := []) rfl trivial ?_
          refine jb_ite (fun c => ?_) (fun c => ?_)
          · replace h := (if_pos c).symm.trans h
            refine jb_seg 7 (pc' := 86) (ls' := [some (.ref 1), some (.int x1), some (.int x2), some (.int x3), some (.int q1.1)]) (st' := [(.int ((x1 * 4) + x2)), (.ref 34)]) (σ' := (zE L, (zf_117 0 q1.2), N)) (G := []) rfl trivial ?_
            obtain ⟨q2, h2, h⟩ := jb_bd_of h
            refine jb_callV (q' := zq_100) (As := [(.int ((x1 * 4) + x2))]) (rest := []) (σ1 := (zE L, q2, N)) (v := none) rfl rfl zp_100 rfl (Nat.le_of_ble_eq_true rfl) (jb_cat rfl) (Nat.le_of_ble_eq_true rfl) (Nat.le_of_ble_eq_true rfl) (Or.inl rfl) rfl (ze_100 (by omega) ((x1 * 4) + x2) (zf_117 0 q1.2) N h2) ?_
            refine jb_seg 1 (pc' := 91) (ls' := [some (.ref 1), some (.int x1), some (.int x2), some (.int x3), some (.int q1.1)]) (st' := [(.int q1.1)]) (σ' := (zE L, q2, N)) (G := []) rfl trivial ?_
            obtain rfl := Option.some.inj h
            obtain ⟨rfl, rfl⟩ := hK
            exact jb_reti rfl rfl
          · replace h := (if_neg c).symm.trans h
            refine jb_seg 1 (pc' := 91) (ls' := [some (.ref 1), some (.int x1), some (.int x2), some (.int x3), some (.int q1.1)]) (st' := [(.int q1.1)]) (σ' := (zE L, (zf_117 0 q1.2), N)) (G := []) rfl trivial ?_
            obtain rfl := Option.some.inj h
            obtain ⟨rfl, rfl⟩ := hK
            exact jb_reti rfl rfl
theorem ze_131 {Γ : jb_G} {L : Nat} {d : Nat} (hd : 2 ≤ d) (x1 : Int32) (x2 : Int32) (x3 : Int32) (M : jb_Mi) (N : jb_Ml) {r : (Int32 × jb_Mi)} (h : zf_131 x1 x2 x3 M = some r) : jb_V Γ d zq_131 0 (jb_en 5 [(.ref 1), (.int x1), (.int x2), (.int x3)]) [] (zE L, M, N) (some (.int r.1)) (zE L, r.2, N) := zg_131 hd x1 x2 x3 M N h ⟨rfl, rfl⟩
-- X12_orders
set_option maxRecDepth 20000 in
theorem zg_132 {Γ : jb_G} {L : Nat} {d : Nat} (hd : 5 ≤ d) (x1 : Int32) (M : jb_Mi) (N : jb_Ml) {v : Option Value} {σ2 : jb_S} {r : (Int32 × jb_Mi)} (h : zf_132 x1 M = some r) (hK : (fun r : Int32 × jb_Mi => v = some (.int r.1) ∧ σ2 = (zE L, r.2, N)) r) : jb_V Γ d zq_132 0 [some (.ref 1), some (.int x1), none] [] (zE L, M, N) v σ2 := by
  obtain ⟨d, rfl⟩ : ∃ e, d = e + 1 := ⟨d - 1, by omega⟩
  unfold zf_132 at h
  refine jb_seg 3 (pc' := 4) (ls' := [some (.ref 1), some (.int x1), none]) (st' := [(.int 120), (.int 1), (.int x1)]) (σ' := (zE L, M, N)) (G := []) rfl trivial ?_
  refine jb_callS (q' := zq_23) (As := [(.int x1), (.int 1), (.int 120)]) (rest := []) (σ1 := (zE L, M, N)) (v := some (.int (jb_b2i (zf_23 x1 1 120)))) rfl (Nat.le_of_ble_eq_true rfl) rfl zp_23 (jb_cat rfl) (Nat.le_of_ble_eq_true rfl) (Nat.le_of_ble_eq_true rfl) (Or.inl rfl) rfl (ze_23 x1 1 120 M N rfl) ?_
  refine jb_seg 1 (pc' := (if (jb_b2i (zf_23 x1 1 120)) = 0 then 21 else 10)) (ls' := [some (.ref 1), some (.int x1), none]) (st' := []) (σ' := (zE L, M, N)) (G := []) rfl trivial ?_
  refine jb_ite (fun c => ?_) (fun c => ?_)
  · replace h := (if_pos c).symm.trans h
    refine jb_seg 1 (pc' := 22) (ls' := [some (.ref 1), some (.int x1), none]) (st' := [(.int (-1))]) (σ' := (zE L, M, N)) (G := []) rfl trivial ?_
    obtain rfl := Option.some.inj h
    obtain ⟨rfl, rfl⟩ := hK
    exact jb_reti rfl rfl
  · replace h := (if_neg c).symm.trans h
    refine jb_seg 3 (pc' := 15) (ls' := [some (.ref 1), some (.int x1), none]) (st' := [(.int x1), (.ref 2)]) (σ' := (zE L, M, N)) (G := []) rfl trivial ?_
    refine jb_callV (q' := zq_116) (As := [(.int x1)]) (rest := []) (σ1 := (zE L, M, N)) (v := some (.int (jb_b2i (zf_116 x1 M)))) rfl rfl zp_116 rfl (Nat.le_of_ble_eq_true rfl) (jb_cat rfl) (Nat.le_of_ble_eq_true rfl) (Nat.le_of_ble_eq_true rfl) (Or.inl rfl) rfl (ze_116 x1 M N rfl) ?_
    refine jb_seg 1 (pc' := (if (jb_b2i (zf_116 x1 M)) = 0 then 21 else 23)) (ls' := [some (.ref 1), some (.int x1), none]) (st' := []) (σ' := (zE L, M, N)) (G := []) rfl trivial ?_
    refine jb_ite (fun c => ?_) (fun c => ?_)
    · replace h := (if_pos c).symm.trans h
      refine jb_seg 1 (pc' := 22) (ls' := [some (.ref 1), some (.int x1), none]) (st' := [(.int (-1))]) (σ' := (zE L, M, N)) (G := []) rfl trivial ?_
      obtain rfl := Option.some.inj h
      obtain ⟨rfl, rfl⟩ := hK
      exact jb_reti rfl rfl
    · replace h := (if_neg c).symm.trans h
      refine jb_seg 3 (pc' := 28) (ls' := [some (.ref 1), some (.int x1), none]) (st' := [(.int x1), (.ref 2)]) (σ' := (zE L, M, N)) (G := []) rfl trivial ?_
      refine jb_callV (q' := zq_117) (As := [(.int x1)]) (rest := []) (σ1 := (zE L, (zf_117 x1 M), N)) (v := none) rfl rfl zp_117 rfl (Nat.le_of_ble_eq_true rfl) (jb_cat rfl) (Nat.le_of_ble_eq_true rfl) (Nat.le_of_ble_eq_true rfl) (Or.inl rfl) rfl (ze_117 (by omega) x1 M N rfl) ?_
      refine jb_seg 4 (pc' := 39) (ls' := [some (.ref 1), some (.int x1), none]) (st' := [(.ref 4), (.ref 24)]) (σ' := (zE L, (zf_117 x1 M), N)) (G := []) rfl trivial ?_
      refine jb_callV (q' := zq_102) (As := [(.ref 4)]) (rest := []) (σ1 := (zE L, (zf_102 24 4 (zf_117 x1 M)), N)) (v := none) rfl rfl zp_102 rfl (Nat.le_of_ble_eq_true rfl) (jb_cat rfl) (Nat.le_of_ble_eq_true rfl) (Nat.le_of_ble_eq_true rfl) (Or.inl rfl) rfl (ze_102 (by omega) 24 4 (zf_117 x1 M) N (by decide) rfl) ?_
      refine jb_seg 2 (pc' := 46) (ls' := [some (.ref 1), some (.int x1), none]) (st' := [(.ref 43)]) (σ' := (zE L, (zf_102 24 4 (zf_117 x1 M)), N)) (G := []) rfl trivial ?_
      obtain ⟨q1, h1, h⟩ := jb_bd_of h
      refine jb_callV (q' := zq_93) (As := []) (rest := []) (σ1 := (zE L, q1.2, N)) (v := some (.int q1.1)) rfl rfl zp_93 rfl (Nat.le_of_ble_eq_true rfl) (jb_cat rfl) (Nat.le_of_ble_eq_true rfl) (Nat.le_of_ble_eq_true rfl) (Or.inl rfl) rfl (ze_93 (by omega) (zf_102 24 4 (zf_117 x1 M)) N h1) ?_
      refine jb_seg 4 (pc' := 55) (ls' := [some (.ref 1), some (.int x1), some (.int q1.1)]) (st' := [(.int 0), (.ref 2)]) (σ' := (zE L, q1.2, N)) (G := []) rfl trivial ?_
      refine jb_callV (q' := zq_117) (As := [(.int 0)]) (rest := []) (σ1 := (zE L, (zf_117 0 q1.2), N)) (v := none) rfl rfl zp_117 rfl (Nat.le_of_ble_eq_true rfl) (jb_cat rfl) (Nat.le_of_ble_eq_true rfl) (Nat.le_of_ble_eq_true rfl) (Or.inl rfl) rfl (ze_117 (by omega) 0 q1.2 N rfl) ?_
      refine jb_seg 2 (pc' := (if 0 < q1.1 then 62 else 73)) (ls' := [some (.ref 1), some (.int x1), some (.int q1.1)]) (st' := []) (σ' := (zE L, (zf_117 0 q1.2), N)) (G := []) rfl trivial ?_
      refine jb_ite (fun c => ?_) (fun c => ?_)
      · replace h := (if_pos c).symm.trans h
        refine jb_seg 4 (pc' := 70) (ls' := [some (.ref 1), some (.int x1), some (.int q1.1)]) (st' := [(.ref 24), (.ref 4)]) (σ' := (zE L, (zf_117 0 q1.2), N)) (G := []) rfl trivial ?_
        refine jb_callV (q' := zq_102) (As := [(.ref 24)]) (rest := []) (σ1 := (zE L, (zf_102 4 24 (zf_117 0 q1.2)), N)) (v := none) rfl rfl zp_102 rfl (Nat.le_of_ble_eq_true rfl) (jb_cat rfl) (Nat.le_of_ble_eq_true rfl) (Nat.le_of_ble_eq_true rfl) (Or.inl rfl) rfl (ze_102 (by omega) 4 24 (zf_117 0 q1.2) N (by decide) rfl) ?_
        refine jb_seg 1 (pc' := 74) (ls' := [some (.ref 1), some (.int x1), some (.int q1.1)]) (st' := [(.int q1.1)]) (σ' := (zE L, (zf_102 4 24 (zf_117 0 q1.2)), N)) (G := []) rfl trivial ?_
        obtain rfl := Option.some.inj h
        obtain ⟨rfl, rfl⟩ := hK
        exact jb_reti rfl rfl
      · replace h := (if_neg c).symm.trans h
        refine jb_seg 1 (pc' := 74) (ls' := [some (.ref 1), some (.int x1), some (.int q1.1)]) (st' := [(.int q1.1)]) (σ' := (zE L, (zf_117 0 q1.2), N)) (G := []) rfl trivial ?_
        obtain rfl := Option.some.inj h
        obtain ⟨rfl, rfl⟩ := hK
        exact jb_reti rfl rfl
theorem ze_132 {Γ : jb_G} {L : Nat} {d : Nat} (hd : 5 ≤ d) (x1 : Int32) (M : jb_Mi) (N : jb_Ml) {r : (Int32 × jb_Mi)} (h : zf_132 x1 M = some r) : jb_V Γ d zq_132 0 (jb_en 3 [(.ref 1), (.int x1)]) [] (zE L, M, N) (some (.int r.1)) (zE L, r.2, N) := zg_132 hd x1 M N h ⟨rfl, rfl⟩
-- X12_hours
set_option maxRecDepth 20000 in
theorem zg_133_H22 {Γ : jb_G} {L : Nat} {d : Nat} (hd : 6 ≤ d) (x1 : Int32) (N : jb_Ml) (s : Int32 × jb_Mi) {v : Option Value} {σ2 : jb_S} {r : ((Int32 × jb_Mi) ⊕ (Int32 × jb_Mi))} (h : zf_133_H22 x1 s = some r) (hK : (jb_K (fun s : Int32 × jb_Mi => jb_V Γ d zq_133 22 [some (.ref 1), some (.int x1), some (.int s.1)] [] (zE L, s.2, N) v σ2) (fun r : Int32 × jb_Mi => v = some (.int r.1) ∧ σ2 = (zE L, r.2, N))) r) : jb_V Γ d zq_133 22 [some (.ref 1), some (.int x1), some (.int s.1)] [] (zE L, s.2, N) v σ2 := by
  obtain ⟨d, rfl⟩ : ∃ e, d = e + 1 := ⟨d - 1, by omega⟩
  unfold zf_133_H22 at h
  refine jb_seg 3 (pc' := (if s.1 < x1 then 27 else 40)) (ls' := [some (.ref 1), some (.int x1), some (.int s.1)]) (st' := []) (σ' := (zE L, s.2, N)) (G := []) rfl trivial ?_
  refine jb_ite (fun c => ?_) (fun c => ?_)
  · replace h := (if_pos c).symm.trans h
    refine jb_seg 2 (pc' := 31) (ls' := [some (.ref 1), some (.int x1), some (.int s.1)]) (st' := [(.ref 60)]) (σ' := (zE L, s.2, N)) (G := []) rfl trivial ?_
    obtain ⟨q2, h2, h⟩ := jb_bd_of h
    refine jb_callV (q' := zq_124) (As := []) (rest := []) (σ1 := (zE L, q2, N)) (v := none) rfl rfl zp_124 rfl (Nat.le_of_ble_eq_true rfl) (jb_cat rfl) (Nat.le_of_ble_eq_true rfl) (Nat.le_of_ble_eq_true rfl) (Or.inl rfl) rfl (ze_124 (by omega) 60 4 s.2 N (by decide) h2) ?_
    refine jb_seg 2 (pc' := 22) (ls' := [some (.ref 1), some (.int x1), some (.int (s.1 + 1))]) (st' := []) (σ' := (zE L, q2, N)) (G := []) rfl trivial ?_
    obtain rfl := Option.some.inj h
    exact jb_mask [true, true, true] rfl hK
  · replace h := (if_neg c).symm.trans h
    refine jb_seg 3 (pc' := 47) (ls' := [some (.ref 1), some (.int x1), some (.int s.1)]) (st' := [(.int (s.2 60 5))]) (σ' := (zE L, s.2, N)) (G := []) rfl trivial ?_
    obtain rfl := Option.some.inj h
    obtain ⟨rfl, rfl⟩ := hK
    exact jb_reti rfl rfl
theorem zg_133_H22L {Γ : jb_G} {L : Nat} {d : Nat} (hd : 6 ≤ d) (x1 : Int32) (N : jb_Ml) {v : Option Value} {σ2 : jb_S} {s : Int32 × jb_Mi} {r : (Int32 × jb_Mi)} (h : jb_lp (zf_133_H22 x1) s = some r) (hK : (fun r : Int32 × jb_Mi => v = some (.int r.1) ∧ σ2 = (zE L, r.2, N)) r) : jb_V Γ d zq_133 22 [some (.ref 1), some (.int x1), some (.int s.1)] [] (zE L, s.2, N) v σ2 := by
  exact @jb_lp_ind (Int32 × jb_Mi) ((Int32 × jb_Mi)) (zf_133_H22 x1) (fun s => jb_V Γ d zq_133 22 [some (.ref 1), some (.int x1), some (.int s.1)] [] (zE L, s.2, N) v σ2) (fun r : Int32 × jb_Mi => v = some (.int r.1) ∧ σ2 = (zE L, r.2, N)) (fun s r h hk => zg_133_H22 hd x1 N s h hk) s r h hK
set_option maxRecDepth 20000 in
theorem zg_133 {Γ : jb_G} {L : Nat} {d : Nat} (hd : 6 ≤ d) (x1 : Int32) (M : jb_Mi) (N : jb_Ml) {v : Option Value} {σ2 : jb_S} {r : (Int32 × jb_Mi)} (h : zf_133 x1 M = some r) (hK : (fun r : Int32 × jb_Mi => v = some (.int r.1) ∧ σ2 = (zE L, r.2, N)) r) : jb_V Γ d zq_133 0 [some (.ref 1), some (.int x1), none] [] (zE L, M, N) v σ2 := by
  obtain ⟨d, rfl⟩ : ∃ e, d = e + 1 := ⟨d - 1, by omega⟩
  unfold zf_133 at h
  refine jb_seg 3 (pc' := 5) (ls' := [some (.ref 1), some (.int x1), none]) (st' := [(.int 240), (.int 1), (.int x1)]) (σ' := (zE L, M, N)) (G := []) rfl trivial ?_
  refine jb_callS (q' := zq_23) (As := [(.int x1), (.int 1), (.int 240)]) (rest := []) (σ1 := (zE L, M, N)) (v := some (.int (jb_b2i (zf_23 x1 1 240)))) rfl (Nat.le_of_ble_eq_true rfl) rfl zp_23 (jb_cat rfl) (Nat.le_of_ble_eq_true rfl) (Nat.le_of_ble_eq_true rfl) (Or.inl rfl) rfl (ze_23 x1 1 240 M N rfl) ?_
  refine jb_seg 1 (pc' := (if (jb_b2i (zf_23 x1 1 240)) = 0 then 11 else 13)) (ls' := [some (.ref 1), some (.int x1), none]) (st' := []) (σ' := (zE L, M, N)) (G := []) rfl trivial ?_
  refine jb_ite (fun c => ?_) (fun c => ?_)
  · replace h := (if_pos c).symm.trans h
    refine jb_seg 1 (pc' := 12) (ls' := [some (.ref 1), some (.int x1), none]) (st' := [(.int (-1))]) (σ' := (zE L, M, N)) (G := []) rfl trivial ?_
    obtain rfl := Option.some.inj h
    obtain ⟨rfl, rfl⟩ := hK
    exact jb_reti rfl rfl
  · replace h := (if_neg c).symm.trans h
    refine jb_seg 2 (pc' := 17) (ls' := [some (.ref 1), some (.int x1), none]) (st' := [(.ref 60)]) (σ' := (zE L, M, N)) (G := []) rfl trivial ?_
    obtain ⟨q1, h1, h⟩ := jb_bd_of h
    refine jb_callV (q' := zq_119) (As := []) (rest := []) (σ1 := (zE L, q1, N)) (v := none) rfl rfl zp_119 rfl (Nat.le_of_ble_eq_true rfl) (jb_cat rfl) (Nat.le_of_ble_eq_true rfl) (Nat.le_of_ble_eq_true rfl) (Or.inl rfl) rfl (ze_119 (by omega) 60 4 M N (by decide) h1) ?_
    refine jb_seg 2 (pc' := 22) (ls' := [some (.ref 1), some (.int x1), some (.int 0)]) (st' := []) (σ' := (zE L, q1, N)) (G := []) rfl trivial ?_
    exact jb_mask [true, true, true] rfl (zg_133_H22L hd x1 N h hK)
theorem ze_133 {Γ : jb_G} {L : Nat} {d : Nat} (hd : 6 ≤ d) (x1 : Int32) (M : jb_Mi) (N : jb_Ml) {r : (Int32 × jb_Mi)} (h : zf_133 x1 M = some r) : jb_V Γ d zq_133 0 (jb_en 3 [(.ref 1), (.int x1)]) [] (zE L, M, N) (some (.int r.1)) (zE L, r.2, N) := zg_133 hd x1 M N h ⟨rfl, rfl⟩
-- X12_beginTrial
set_option maxRecDepth 20000 in
theorem zg_134 {Γ : jb_G} {L : Nat} {d : Nat} (hd : 4 ≤ d) (M : jb_Mi) (N : jb_Ml) {v : Option Value} {σ2 : jb_S} {r : (jb_Mi)} (h : zf_134 M = some r) (hK : (fun r : jb_Mi => v = none ∧ σ2 = (zE L, r, N)) r) : jb_V Γ d zq_134 0 [some (.ref 1)] [] (zE L, M, N) v σ2 := by
  obtain ⟨d, rfl⟩ : ∃ e, d = e + 1 := ⟨d - 1, by omega⟩
  unfold zf_134 at h
  refine jb_seg 4 (pc' := 8) (ls' := [some (.ref 1)]) (st' := [(.ref 4), (.ref 24)]) (σ' := (zE L, M, N)) (G := []) rfl trivial ?_
  refine jb_callV (q' := zq_102) (As := [(.ref 4)]) (rest := []) (σ1 := (zE L, (zf_102 24 4 M), N)) (v := none) rfl rfl zp_102 rfl (Nat.le_of_ble_eq_true rfl) (jb_cat rfl) (Nat.le_of_ble_eq_true rfl) (Nat.le_of_ble_eq_true rfl) (Or.inl rfl) rfl (ze_102 (by omega) 24 4 M N (by decide) rfl) ?_
  refine jb_seg 2 (pc' := 15) (ls' := [some (.ref 1)]) (st' := [(.ref 62)]) (σ' := (zE L, (zf_102 24 4 M), N)) (G := []) rfl trivial ?_
  obtain ⟨q1, h1, h⟩ := jb_bd_of h
  refine jb_callV (q' := zq_119) (As := []) (rest := []) (σ1 := (zE L, q1, N)) (v := none) rfl rfl zp_119 rfl (Nat.le_of_ble_eq_true rfl) (jb_cat rfl) (Nat.le_of_ble_eq_true rfl) (Nat.le_of_ble_eq_true rfl) (Or.inl rfl) rfl (ze_119 (by omega) 62 24 (zf_102 24 4 M) N (by decide) h1) ?_
  obtain rfl := Option.some.inj h
  obtain ⟨rfl, rfl⟩ := hK
  exact jb_retv rfl rfl
theorem ze_134 {Γ : jb_G} {L : Nat} {d : Nat} (hd : 4 ≤ d) (M : jb_Mi) (N : jb_Ml) {r : (jb_Mi)} (h : zf_134 M = some r) : jb_V Γ d zq_134 0 (jb_en 1 [(.ref 1)]) [] (zE L, M, N) (none) (zE L, r, N) := zg_134 hd M N h ⟨rfl, rfl⟩
-- X12_tried
set_option maxRecDepth 20000 in
theorem zg_135_H63 {Γ : jb_G} {L : Nat} {d : Nat} (hd : 6 ≤ d) (x1 : Int32) (x2 : Int32) (x3 : Int32) (x4 : Int32) (N : jb_Ml) (s : Int32 × jb_Mi) {v : Option Value} {σ2 : jb_S} {r : ((Int32 × jb_Mi) ⊕ (Int32 × jb_Mi))} (h : zf_135_H63 x1 x2 x3 x4 s = some r) (hK : (jb_K (fun s : Int32 × jb_Mi => jb_V Γ d zq_135 63 [some (.ref 1), some (.int x1), some (.int x2), some (.int x3), some (.int x4), some (.int s.1)] [] (zE L, s.2, N) v σ2) (fun r : Int32 × jb_Mi => v = some (.int r.1) ∧ σ2 = (zE L, r.2, N))) r) : jb_V Γ d zq_135 63 [some (.ref 1), some (.int x1), some (.int x2), some (.int x3), some (.int x4), some (.int s.1)] [] (zE L, s.2, N) v σ2 := by
  obtain ⟨d, rfl⟩ : ∃ e, d = e + 1 := ⟨d - 1, by omega⟩
  unfold zf_135_H63 at h
  refine jb_seg 3 (pc' := (if s.1 < x1 then 69 else 82)) (ls' := [some (.ref 1), some (.int x1), some (.int x2), some (.int x3), some (.int x4), some (.int s.1)]) (st' := []) (σ' := (zE L, s.2, N)) (G := []) rfl trivial ?_
  refine jb_ite (fun c => ?_) (fun c => ?_)
  · replace h := (if_pos c).symm.trans h
    refine jb_seg 2 (pc' := 73) (ls' := [some (.ref 1), some (.int x1), some (.int x2), some (.int x3), some (.int x4), some (.int s.1)]) (st' := [(.ref 62)]) (σ' := (zE L, s.2, N)) (G := []) rfl trivial ?_
    obtain ⟨q4, h4, h⟩ := jb_bd_of h
    refine jb_callV (q' := zq_124) (As := []) (rest := []) (σ1 := (zE L, q4, N)) (v := none) rfl rfl zp_124 rfl (Nat.le_of_ble_eq_true rfl) (jb_cat rfl) (Nat.le_of_ble_eq_true rfl) (Nat.le_of_ble_eq_true rfl) (Or.inl rfl) rfl (ze_124 (by omega) 62 24 s.2 N (by decide) h4) ?_
    refine jb_seg 2 (pc' := 63) (ls' := [some (.ref 1), some (.int x1), some (.int x2), some (.int x3), some (.int x4), some (.int (s.1 + 1))]) (st' := []) (σ' := (zE L, q4, N)) (G := []) rfl trivial ?_
    obtain rfl := Option.some.inj h
    exact jb_mask [true, true, true, true, true, true] rfl hK
  · replace h := (if_neg c).symm.trans h
    refine jb_seg 2 (pc' := (if x3 = 0 then 99 else 86)) (ls' := [some (.ref 1), some (.int x1), some (.int x2), some (.int x3), some (.int x4), some (.int s.1)]) (st' := []) (σ' := (zE L, s.2, N)) (G := []) rfl trivial ?_
    refine jb_ite (fun c => ?_) (fun c => ?_)
    · replace h := (if_pos c).symm.trans h
      refine jb_seg 2 (pc' := (if x4 = 0 then 117 else 104)) (ls' := [some (.ref 1), some (.int x1), some (.int x2), some (.int x3), some (.int x4), some (.int s.1)]) (st' := []) (σ' := (zE L, s.2, N)) (G := []) rfl trivial ?_
      refine jb_ite (fun c => ?_) (fun c => ?_)
      · replace h := (if_pos c).symm.trans h
        refine jb_seg 1 (pc' := 118) (ls' := [some (.ref 1), some (.int x1), some (.int x2), some (.int x3), some (.int x4), some (.int s.1)]) (st' := [(.int x2)]) (σ' := (zE L, s.2, N)) (G := []) rfl trivial ?_
        refine jb_tsw [(0, 144), (1, 152), (2, 160)] 168 rfl (by decide +kernel) ?_
        refine jb_swc (fun c => ?_) (fun c => ?_)
        · replace h := (if_pos c).symm.trans h
          refine jb_seg 3 (pc' := 151) (ls' := [some (.ref 1), some (.int x1), some (.int x2), some (.int x3), some (.int x4), some (.int s.1)]) (st' := [(.int (s.2 62 5))]) (σ' := (zE L, s.2, N)) (G := []) rfl trivial ?_
          obtain rfl := Option.some.inj h
          obtain ⟨rfl, rfl⟩ := hK
          exact jb_reti rfl rfl
        · replace h := (if_neg c).symm.trans h
          refine jb_swc (fun c => ?_) (fun c => ?_)
          · replace h := (if_pos c).symm.trans h
            refine jb_seg 3 (pc' := 159) (ls' := [some (.ref 1), some (.int x1), some (.int x2), some (.int x3), some (.int x4), some (.int s.1)]) (st' := [(.int (s.2 62 6))]) (σ' := (zE L, s.2, N)) (G := []) rfl trivial ?_
            obtain rfl := Option.some.inj h
            obtain ⟨rfl, rfl⟩ := hK
            exact jb_reti rfl rfl
          · replace h := (if_neg c).symm.trans h
            refine jb_swc (fun c => ?_) (fun c => ?_)
            · replace h := (if_pos c).symm.trans h
              refine jb_seg 3 (pc' := 167) (ls' := [some (.ref 1), some (.int x1), some (.int x2), some (.int x3), some (.int x4), some (.int s.1)]) (st' := [(.int (s.2 62 7))]) (σ' := (zE L, s.2, N)) (G := []) rfl trivial ?_
              obtain rfl := Option.some.inj h
              obtain ⟨rfl, rfl⟩ := hK
              exact jb_reti rfl rfl
            · replace h := (if_neg c).symm.trans h
              refine jb_swn ?_
              refine jb_seg 3 (pc' := 175) (ls' := [some (.ref 1), some (.int x1), some (.int x2), some (.int x3), some (.int x4), some (.int s.1)]) (st' := [(.int (s.2 62 8))]) (σ' := (zE L, s.2, N)) (G := []) rfl trivial ?_
              obtain rfl := Option.some.inj h
              obtain ⟨rfl, rfl⟩ := hK
              exact jb_reti rfl rfl
      · replace h := (if_neg c).symm.trans h
        obtain ⟨g5, h⟩ := jb_gd_of h
        refine jb_seg 7 (pc' := 116) (ls' := [some (.ref 1), some (.int x1), some (.int x2), some (.int x3), some (.int x4), some (.int s.1)]) (st' := [(.int (s.2 27 ((x2 - 30)).toNatClampNeg))]) (σ' := (zE L, s.2, N)) (G := [vp_in (x2 - 30) 6]) rfl g5 ?_
        obtain rfl := Option.some.inj h
        obtain ⟨rfl, rfl⟩ := hK
        exact jb_reti rfl rfl
    · replace h := (if_neg c).symm.trans h
      obtain ⟨g6, h⟩ := jb_gd_of h
      refine jb_seg 7 (pc' := 98) (ls' := [some (.ref 1), some (.int x1), some (.int x2), some (.int x3), some (.int x4), some (.int s.1)]) (st' := [(.int (s.2 33 ((x2 - 10)).toNatClampNeg))]) (σ' := (zE L, s.2, N)) (G := [vp_in (x2 - 10) 16]) rfl g6 ?_
      obtain rfl := Option.some.inj h
      obtain ⟨rfl, rfl⟩ := hK
      exact jb_reti rfl rfl
theorem zg_135_H63L {Γ : jb_G} {L : Nat} {d : Nat} (hd : 6 ≤ d) (x1 : Int32) (x2 : Int32) (x3 : Int32) (x4 : Int32) (N : jb_Ml) {v : Option Value} {σ2 : jb_S} {s : Int32 × jb_Mi} {r : (Int32 × jb_Mi)} (h : jb_lp (zf_135_H63 x1 x2 x3 x4) s = some r) (hK : (fun r : Int32 × jb_Mi => v = some (.int r.1) ∧ σ2 = (zE L, r.2, N)) r) : jb_V Γ d zq_135 63 [some (.ref 1), some (.int x1), some (.int x2), some (.int x3), some (.int x4), some (.int s.1)] [] (zE L, s.2, N) v σ2 := by
  exact @jb_lp_ind (Int32 × jb_Mi) ((Int32 × jb_Mi)) (zf_135_H63 x1 x2 x3 x4) (fun s => jb_V Γ d zq_135 63 [some (.ref 1), some (.int x1), some (.int x2), some (.int x3), some (.int x4), some (.int s.1)] [] (zE L, s.2, N) v σ2) (fun r : Int32 × jb_Mi => v = some (.int r.1) ∧ σ2 = (zE L, r.2, N)) (fun s r h hk => zg_135_H63 hd x1 x2 x3 x4 N s h hk) s r h hK
set_option maxRecDepth 20000 in
theorem zg_135_J56 {Γ : jb_G} {L : Nat} {d : Nat} (hd : 6 ≤ d) (x1 : Int32) (x2 : Int32) (x3 : Int32) (x4 : Int32) (M : jb_Mi) (N : jb_Ml) {v : Option Value} {σ2 : jb_S} {r : (Int32 × jb_Mi)} (h : zf_135_J56 x1 x2 x3 x4 M = some r) (hK : (fun r : Int32 × jb_Mi => v = some (.int r.1) ∧ σ2 = (zE L, r.2, N)) r) : jb_V Γ d zq_135 56 [some (.ref 1), some (.int x1), some (.int x2), some (.int x3), some (.int x4), none] [] (zE L, M, N) v σ2 := by
  obtain ⟨d, rfl⟩ : ∃ e, d = e + 1 := ⟨d - 1, by omega⟩
  unfold zf_135_J56 at h
  refine jb_seg 1 (pc' := 57) (ls' := [some (.ref 1), some (.int x1), some (.int x2), some (.int x3), some (.int x4), none]) (st' := [(.ref 1)]) (σ' := (zE L, M, N)) (G := []) rfl trivial ?_
  obtain ⟨q3, h3, h⟩ := jb_bd_of h
  refine jb_callV (q' := zq_134) (As := []) (rest := []) (σ1 := (zE L, q3, N)) (v := none) rfl rfl zp_134 rfl (Nat.le_of_ble_eq_true rfl) (jb_cat rfl) (Nat.le_of_ble_eq_true rfl) (Nat.le_of_ble_eq_true rfl) (Or.inl rfl) rfl (ze_134 (by omega) M N h3) ?_
  refine jb_seg 2 (pc' := 63) (ls' := [some (.ref 1), some (.int x1), some (.int x2), some (.int x3), some (.int x4), some (.int 0)]) (st' := []) (σ' := (zE L, q3, N)) (G := []) rfl trivial ?_
  exact jb_mask [true, true, true, true, true, true] rfl (zg_135_H63L hd x1 x2 x3 x4 N h hK)
set_option maxRecDepth 20000 in
theorem zg_135 {Γ : jb_G} {L : Nat} {d : Nat} (hd : 6 ≤ d) (x1 : Int32) (x2 : Int32) (M : jb_Mi) (N : jb_Ml) {v : Option Value} {σ2 : jb_S} {r : (Int32 × jb_Mi)} (h : zf_135 x1 x2 M = some r) (hK : (fun r : Int32 × jb_Mi => v = some (.int r.1) ∧ σ2 = (zE L, r.2, N)) r) : jb_V Γ d zq_135 0 [some (.ref 1), some (.int x1), some (.int x2), none, none, none] [] (zE L, M, N) v σ2 := by
  obtain ⟨d, rfl⟩ : ∃ e, d = e + 1 := ⟨d - 1, by omega⟩
  unfold zf_135 at h
  refine jb_seg 5 (pc' := 8) (ls' := [some (.ref 1), some (.int x1), some (.int x2), none, none, none]) (st' := [(.int (x2 - 10)), (.ref 4)]) (σ' := (zE L, M, N)) (G := []) rfl trivial ?_
  obtain ⟨q1, h1, h⟩ := jb_bd_of h
  refine jb_callV (q' := zq_18) (As := [(.int (x2 - 10))]) (rest := []) (σ1 := (zE L, M, N)) (v := some (.int (jb_b2i q1))) rfl rfl zp_18 rfl (Nat.le_of_ble_eq_true rfl) (jb_cat rfl) (Nat.le_of_ble_eq_true rfl) (Nat.le_of_ble_eq_true rfl) (Or.inl rfl) rfl (ze_18 4 (x2 - 10) M N (by decide) h1) ?_
  refine jb_seg 6 (pc' := 20) (ls' := [some (.ref 1), some (.int x1), some (.int x2), some (.int (jb_b2i q1)), none, none]) (st' := [(.int (x2 - 30)), (.ref 4)]) (σ' := (zE L, M, N)) (G := []) rfl trivial ?_
  obtain ⟨q2, h2, h⟩ := jb_bd_of h
  refine jb_callV (q' := zq_2) (As := [(.int (x2 - 30))]) (rest := []) (σ1 := (zE L, M, N)) (v := some (.int (jb_b2i q2))) rfl rfl zp_2 rfl (Nat.le_of_ble_eq_true rfl) (jb_cat rfl) (Nat.le_of_ble_eq_true rfl) (Nat.le_of_ble_eq_true rfl) (Or.inl rfl) rfl (ze_2 4 (x2 - 30) M N (by decide) h2) ?_
  refine jb_seg 4 (pc' := 30) (ls' := [some (.ref 1), some (.int x1), some (.int x2), some (.int (jb_b2i q1)), some (.int (jb_b2i q2)), none]) (st' := [(.int 240), (.int 1), (.int x1)]) (σ' := (zE L, M, N)) (G := []) rfl trivial ?_
  refine jb_callS (q' := zq_23) (As := [(.int x1), (.int 1), (.int 240)]) (rest := []) (σ1 := (zE L, M, N)) (v := some (.int (jb_b2i (zf_23 x1 1 240)))) rfl (Nat.le_of_ble_eq_true rfl) rfl zp_23 (jb_cat rfl) (Nat.le_of_ble_eq_true rfl) (Nat.le_of_ble_eq_true rfl) (Or.inl rfl) rfl (ze_23 x1 1 240 M N rfl) ?_
  refine jb_seg 1 (pc' := (if (jb_b2i (zf_23 x1 1 240)) = 0 then 54 else 36)) (ls' := [some (.ref 1), some (.int x1), some (.int x2), some (.int (jb_b2i q1)), some (.int (jb_b2i q2)), none]) (st' := []) (σ' := (zE L, M, N)) (G := []) rfl trivial ?_
  refine jb_ite (fun c => ?_) (fun c => ?_)
  · replace h := (if_pos c).symm.trans h
    refine jb_seg 1 (pc' := 55) (ls' := [some (.ref 1), some (.int x1), some (.int x2), some (.int (jb_b2i q1)), some (.int (jb_b2i q2)), none]) (st' := [(.int (-1))]) (σ' := (zE L, M, N)) (G := []) rfl trivial ?_
    obtain rfl := Option.some.inj h
    obtain ⟨rfl, rfl⟩ := hK
    exact jb_reti rfl rfl
  · replace h := (if_neg c).symm.trans h
    refine jb_seg 3 (pc' := 39) (ls' := [some (.ref 1), some (.int x1), some (.int x2), some (.int (jb_b2i q1)), some (.int (jb_b2i q2)), none]) (st' := [(.int 3), (.int 0), (.int x2)]) (σ' := (zE L, M, N)) (G := []) rfl trivial ?_
    refine jb_callS (q' := zq_23) (As := [(.int x2), (.int 0), (.int 3)]) (rest := []) (σ1 := (zE L, M, N)) (v := some (.int (jb_b2i (zf_23 x2 0 3)))) rfl (Nat.le_of_ble_eq_true rfl) rfl zp_23 (jb_cat rfl) (Nat.le_of_ble_eq_true rfl) (Nat.le_of_ble_eq_true rfl) (Or.inl rfl) rfl (ze_23 x2 0 3 M N rfl) ?_
    refine jb_seg 1 (pc' := (if (jb_b2i (zf_23 x2 0 3)) = 0 then 45 else 56)) (ls' := [some (.ref 1), some (.int x1), some (.int x2), some (.int (jb_b2i q1)), some (.int (jb_b2i q2)), none]) (st' := []) (σ' := (zE L, M, N)) (G := []) rfl trivial ?_
    refine jb_ite (fun c => ?_) (fun c => ?_)
    · replace h := (if_pos c).symm.trans h
      refine jb_seg 2 (pc' := (if (jb_b2i q1) = 0 then 49 else 56)) (ls' := [some (.ref 1), some (.int x1), some (.int x2), some (.int (jb_b2i q1)), some (.int (jb_b2i q2)), none]) (st' := []) (σ' := (zE L, M, N)) (G := []) rfl trivial ?_
      refine jb_ite (fun c => ?_) (fun c => ?_)
      · replace h := (if_pos c).symm.trans h
        refine jb_seg 2 (pc' := (if (jb_b2i q2) = 0 then 54 else 56)) (ls' := [some (.ref 1), some (.int x1), some (.int x2), some (.int (jb_b2i q1)), some (.int (jb_b2i q2)), none]) (st' := []) (σ' := (zE L, M, N)) (G := []) rfl trivial ?_
        refine jb_ite (fun c => ?_) (fun c => ?_)
        · replace h := (if_pos c).symm.trans h
          refine jb_seg 1 (pc' := 55) (ls' := [some (.ref 1), some (.int x1), some (.int x2), some (.int (jb_b2i q1)), some (.int (jb_b2i q2)), none]) (st' := [(.int (-1))]) (σ' := (zE L, M, N)) (G := []) rfl trivial ?_
          obtain rfl := Option.some.inj h
          obtain ⟨rfl, rfl⟩ := hK
          exact jb_reti rfl rfl
        · replace h := (if_neg c).symm.trans h
          exact jb_mask [true, true, true, true, true, false] rfl (zg_135_J56 hd x1 x2 (jb_b2i q1) (jb_b2i q2) M N h hK)
      · replace h := (if_neg c).symm.trans h
        exact jb_mask [true, true, true, true, true, false] rfl (zg_135_J56 hd x1 x2 (jb_b2i q1) (jb_b2i q2) M N h hK)
    · replace h := (if_neg c).symm.trans h
      exact jb_mask [true, true, true, true, true, false] rfl (zg_135_J56 hd x1 x2 (jb_b2i q1) (jb_b2i q2) M N h hK)
theorem ze_135 {Γ : jb_G} {L : Nat} {d : Nat} (hd : 6 ≤ d) (x1 : Int32) (x2 : Int32) (M : jb_Mi) (N : jb_Ml) {r : (Int32 × jb_Mi)} (h : zf_135 x1 x2 M = some r) : jb_V Γ d zq_135 0 (jb_en 6 [(.ref 1), (.int x1), (.int x2)]) [] (zE L, M, N) (some (.int r.1)) (zE L, r.2, N) := zg_135 hd x1 x2 M N h ⟨rfl, rfl⟩
-- X12_houseIs
set_option maxRecDepth 20000 in
theorem zg_136 {Γ : jb_G} {L : Nat} {d : Nat} (hd : 4 ≤ d) (x1 : Int32) (x2 : Int32) (M : jb_Mi) (N : jb_Ml) {v : Option Value} {σ2 : jb_S} {r : (Int32)} (h : zf_136 x1 x2 M = some r) (hK : (fun r : Int32 => v = some (.int r) ∧ σ2 = (zE L, M, N)) r) : jb_V Γ d zq_136 0 [some (.ref 1), some (.int x1), some (.int x2)] [] (zE L, M, N) v σ2 := by
  obtain ⟨d, rfl⟩ : ∃ e, d = e + 1 := ⟨d - 1, by omega⟩
  unfold zf_136 at h
  refine jb_seg 3 (pc' := 5) (ls' := [some (.ref 1), some (.int x1), some (.int x2)]) (st' := [(.int x1), (.ref 4)]) (σ' := (zE L, M, N)) (G := []) rfl trivial ?_
  obtain ⟨q1, h1, h⟩ := jb_bd_of h
  refine jb_callV (q' := zq_2) (As := [(.int x1)]) (rest := []) (σ1 := (zE L, M, N)) (v := some (.int (jb_b2i q1))) rfl rfl zp_2 rfl (Nat.le_of_ble_eq_true rfl) (jb_cat rfl) (Nat.le_of_ble_eq_true rfl) (Nat.le_of_ble_eq_true rfl) (Or.inl rfl) rfl (ze_2 4 x1 M N (by decide) h1) ?_
  refine jb_seg 1 (pc' := (if (jb_b2i q1) = 0 then 11 else 13)) (ls' := [some (.ref 1), some (.int x1), some (.int x2)]) (st' := []) (σ' := (zE L, M, N)) (G := []) rfl trivial ?_
  refine jb_ite (fun c => ?_) (fun c => ?_)
  · replace h := (if_pos c).symm.trans h
    refine jb_seg 1 (pc' := 12) (ls' := [some (.ref 1), some (.int x1), some (.int x2)]) (st' := [(.int (-1))]) (σ' := (zE L, M, N)) (G := []) rfl trivial ?_
    obtain rfl := Option.some.inj h
    obtain ⟨rfl, rfl⟩ := hK
    exact jb_reti rfl rfl
  · replace h := (if_neg c).symm.trans h
    refine jb_seg 1 (pc' := 14) (ls' := [some (.ref 1), some (.int x1), some (.int x2)]) (st' := [(.int x2)]) (σ' := (zE L, M, N)) (G := []) rfl trivial ?_
    refine jb_tsw [(0, 52), (1, 62), (2, 72), (3, 82), (4, 91), (5, 100)] 109 rfl (by decide +kernel) ?_
    refine jb_swc (fun c => ?_) (fun c => ?_)
    · replace h := (if_pos c).symm.trans h
      obtain ⟨g2, h⟩ := jb_gd_of h
      refine jb_seg 5 (pc' := 61) (ls' := [some (.ref 1), some (.int x1), some (.int x2)]) (st' := [(.int (M 5 x1.toNatClampNeg))]) (σ' := (zE L, M, N)) (G := [vp_in x1 6]) rfl g2 ?_
      obtain rfl := Option.some.inj h
      obtain ⟨rfl, rfl⟩ := hK
      exact jb_reti rfl rfl
    · replace h := (if_neg c).symm.trans h
      refine jb_swc (fun c => ?_) (fun c => ?_)
      · replace h := (if_pos c).symm.trans h
        obtain ⟨g3, h⟩ := jb_gd_of h
        refine jb_seg 5 (pc' := 71) (ls' := [some (.ref 1), some (.int x1), some (.int x2)]) (st' := [(.int (M 6 x1.toNatClampNeg))]) (σ' := (zE L, M, N)) (G := [vp_in x1 6]) rfl g3 ?_
        obtain rfl := Option.some.inj h
        obtain ⟨rfl, rfl⟩ := hK
        exact jb_reti rfl rfl
      · replace h := (if_neg c).symm.trans h
        refine jb_swc (fun c => ?_) (fun c => ?_)
        · replace h := (if_pos c).symm.trans h
          obtain ⟨g4, h⟩ := jb_gd_of h
          refine jb_seg 5 (pc' := 81) (ls' := [some (.ref 1), some (.int x1), some (.int x2)]) (st' := [(.int (M 7 x1.toNatClampNeg))]) (σ' := (zE L, M, N)) (G := [vp_in x1 6]) rfl g4 ?_
          obtain rfl := Option.some.inj h
          obtain ⟨rfl, rfl⟩ := hK
          exact jb_reti rfl rfl
        · replace h := (if_neg c).symm.trans h
          refine jb_swc (fun c => ?_) (fun c => ?_)
          · replace h := (if_pos c).symm.trans h
            refine jb_seg 3 (pc' := 87) (ls' := [some (.ref 1), some (.int x1), some (.int x2)]) (st' := [(.int x1), (.ref 4)]) (σ' := (zE L, M, N)) (G := []) rfl trivial ?_
            obtain ⟨q5, h5, h⟩ := jb_bd_of h
            refine jb_callV (q' := zq_13) (As := [(.int x1)]) (rest := []) (σ1 := (zE L, M, N)) (v := some (.int q5)) rfl rfl zp_13 rfl (Nat.le_of_ble_eq_true rfl) (jb_cat rfl) (Nat.le_of_ble_eq_true rfl) (Nat.le_of_ble_eq_true rfl) (Or.inl rfl) rfl (ze_13 (by omega) 4 x1 M N (by decide) h5) ?_
            obtain rfl := Option.some.inj h
            obtain ⟨rfl, rfl⟩ := hK
            exact jb_reti rfl rfl
          · replace h := (if_neg c).symm.trans h
            refine jb_swc (fun c => ?_) (fun c => ?_)
            · replace h := (if_pos c).symm.trans h
              refine jb_seg 3 (pc' := 96) (ls' := [some (.ref 1), some (.int x1), some (.int x2)]) (st' := [(.int x1), (.ref 4)]) (σ' := (zE L, M, N)) (G := []) rfl trivial ?_
              obtain ⟨q6, h6, h⟩ := jb_bd_of h
              refine jb_callV (q' := zq_108) (As := [(.int x1)]) (rest := []) (σ1 := (zE L, M, N)) (v := some (.int q6)) rfl rfl zp_108 rfl (Nat.le_of_ble_eq_true rfl) (jb_cat rfl) (Nat.le_of_ble_eq_true rfl) (Nat.le_of_ble_eq_true rfl) (Or.inl rfl) rfl (ze_108 (by omega) 4 x1 M N (by decide) h6) ?_
              obtain rfl := Option.some.inj h
              obtain ⟨rfl, rfl⟩ := hK
              exact jb_reti rfl rfl
            · replace h := (if_neg c).symm.trans h
              refine jb_swc (fun c => ?_) (fun c => ?_)
              · replace h := (if_pos c).symm.trans h
                refine jb_seg 3 (pc' := 105) (ls' := [some (.ref 1), some (.int x1), some (.int x2)]) (st' := [(.int x1), (.ref 4)]) (σ' := (zE L, M, N)) (G := []) rfl trivial ?_
                obtain ⟨q7, h7, h⟩ := jb_bd_of h
                refine jb_callV (q' := zq_107) (As := [(.int x1)]) (rest := []) (σ1 := (zE L, M, N)) (v := some (.int q7)) rfl rfl zp_107 rfl (Nat.le_of_ble_eq_true rfl) (jb_cat rfl) (Nat.le_of_ble_eq_true rfl) (Nat.le_of_ble_eq_true rfl) (Or.inl rfl) rfl (ze_107 (by omega) 4 x1 M N (by decide) h7) ?_
                obtain rfl := Option.some.inj h
                obtain ⟨rfl, rfl⟩ := hK
                exact jb_reti rfl rfl
              · replace h := (if_neg c).symm.trans h
                refine jb_swn ?_
                refine jb_seg 1 (pc' := 110) (ls' := [some (.ref 1), some (.int x1), some (.int x2)]) (st' := [(.int (-1))]) (σ' := (zE L, M, N)) (G := []) rfl trivial ?_
                obtain rfl := Option.some.inj h
                obtain ⟨rfl, rfl⟩ := hK
                exact jb_reti rfl rfl
theorem ze_136 {Γ : jb_G} {L : Nat} {d : Nat} (hd : 4 ≤ d) (x1 : Int32) (x2 : Int32) (M : jb_Mi) (N : jb_Ml) {r : (Int32)} (h : zf_136 x1 x2 M = some r) : jb_V Γ d zq_136 0 (jb_en 3 [(.ref 1), (.int x1), (.int x2)]) [] (zE L, M, N) (some (.int r)) (zE L, M, N) := zg_136 hd x1 x2 M N h ⟨rfl, rfl⟩
-- X12_thingIs
set_option maxRecDepth 20000 in
theorem zg_137 {Γ : jb_G} {L : Nat} {d : Nat} (hd : 1 ≤ d) (x1 : Int32) (x2 : Int32) (M : jb_Mi) (N : jb_Ml) {v : Option Value} {σ2 : jb_S} {r : (Int32)} (h : zf_137 x1 x2 M = some r) (hK : (fun r : Int32 => v = some (.int r) ∧ σ2 = (zE L, M, N)) r) : jb_V Γ d zq_137 0 [some (.ref 1), some (.int x1), some (.int x2)] [] (zE L, M, N) v σ2 := by
  obtain ⟨d, rfl⟩ : ∃ e, d = e + 1 := ⟨d - 1, by omega⟩
  unfold zf_137 at h
  refine jb_seg 3 (pc' := 5) (ls' := [some (.ref 1), some (.int x1), some (.int x2)]) (st' := [(.int x1), (.ref 4)]) (σ' := (zE L, M, N)) (G := []) rfl trivial ?_
  obtain ⟨q1, h1, h⟩ := jb_bd_of h
  refine jb_callV (q' := zq_3) (As := [(.int x1)]) (rest := []) (σ1 := (zE L, M, N)) (v := some (.int (jb_b2i q1))) rfl rfl zp_3 rfl (Nat.le_of_ble_eq_true rfl) (jb_cat rfl) (Nat.le_of_ble_eq_true rfl) (Nat.le_of_ble_eq_true rfl) (Or.inl rfl) rfl (ze_3 4 x1 M N (by decide) h1) ?_
  refine jb_seg 1 (pc' := (if (jb_b2i q1) = 0 then 11 else 13)) (ls' := [some (.ref 1), some (.int x1), some (.int x2)]) (st' := []) (σ' := (zE L, M, N)) (G := []) rfl trivial ?_
  refine jb_ite (fun c => ?_) (fun c => ?_)
  · replace h := (if_pos c).symm.trans h
    refine jb_seg 1 (pc' := 12) (ls' := [some (.ref 1), some (.int x1), some (.int x2)]) (st' := [(.int (-1))]) (σ' := (zE L, M, N)) (G := []) rfl trivial ?_
    obtain rfl := Option.some.inj h
    obtain ⟨rfl, rfl⟩ := hK
    exact jb_reti rfl rfl
  · replace h := (if_neg c).symm.trans h
    refine jb_seg 1 (pc' := 14) (ls' := [some (.ref 1), some (.int x1), some (.int x2)]) (st' := [(.int x2)]) (σ' := (zE L, M, N)) (G := []) rfl trivial ?_
    refine jb_tsw [(0, 44), (1, 54), (2, 64), (3, 74)] 84 rfl (by decide +kernel) ?_
    refine jb_swc (fun c => ?_) (fun c => ?_)
    · replace h := (if_pos c).symm.trans h
      obtain ⟨g2, h⟩ := jb_gd_of h
      refine jb_seg 5 (pc' := 53) (ls' := [some (.ref 1), some (.int x1), some (.int x2)]) (st' := [(.int (M 8 x1.toNatClampNeg))]) (σ' := (zE L, M, N)) (G := [vp_in x1 24]) rfl g2 ?_
      obtain rfl := Option.some.inj h
      obtain ⟨rfl, rfl⟩ := hK
      exact jb_reti rfl rfl
    · replace h := (if_neg c).symm.trans h
      refine jb_swc (fun c => ?_) (fun c => ?_)
      · replace h := (if_pos c).symm.trans h
        obtain ⟨g3, h⟩ := jb_gd_of h
        refine jb_seg 5 (pc' := 63) (ls' := [some (.ref 1), some (.int x1), some (.int x2)]) (st' := [(.int (M 9 x1.toNatClampNeg))]) (σ' := (zE L, M, N)) (G := [vp_in x1 24]) rfl g3 ?_
        obtain rfl := Option.some.inj h
        obtain ⟨rfl, rfl⟩ := hK
        exact jb_reti rfl rfl
      · replace h := (if_neg c).symm.trans h
        refine jb_swc (fun c => ?_) (fun c => ?_)
        · replace h := (if_pos c).symm.trans h
          obtain ⟨g4, h⟩ := jb_gd_of h
          refine jb_seg 5 (pc' := 73) (ls' := [some (.ref 1), some (.int x1), some (.int x2)]) (st' := [(.int (M 10 x1.toNatClampNeg))]) (σ' := (zE L, M, N)) (G := [vp_in x1 24]) rfl g4 ?_
          obtain rfl := Option.some.inj h
          obtain ⟨rfl, rfl⟩ := hK
          exact jb_reti rfl rfl
        · replace h := (if_neg c).symm.trans h
          refine jb_swc (fun c => ?_) (fun c => ?_)
          · replace h := (if_pos c).symm.trans h
            obtain ⟨g5, h⟩ := jb_gd_of h
            refine jb_seg 5 (pc' := 83) (ls' := [some (.ref 1), some (.int x1), some (.int x2)]) (st' := [(.int (M 11 x1.toNatClampNeg))]) (σ' := (zE L, M, N)) (G := [vp_in x1 24]) rfl g5 ?_
            obtain rfl := Option.some.inj h
            obtain ⟨rfl, rfl⟩ := hK
            exact jb_reti rfl rfl
          · replace h := (if_neg c).symm.trans h
            refine jb_swn ?_
            refine jb_seg 1 (pc' := 85) (ls' := [some (.ref 1), some (.int x1), some (.int x2)]) (st' := [(.int (-1))]) (σ' := (zE L, M, N)) (G := []) rfl trivial ?_
            obtain rfl := Option.some.inj h
            obtain ⟨rfl, rfl⟩ := hK
            exact jb_reti rfl rfl
theorem ze_137 {Γ : jb_G} {L : Nat} {d : Nat} (hd : 1 ≤ d) (x1 : Int32) (x2 : Int32) (M : jb_Mi) (N : jb_Ml) {r : (Int32)} (h : zf_137 x1 x2 M = some r) : jb_V Γ d zq_137 0 (jb_en 3 [(.ref 1), (.int x1), (.int x2)]) [] (zE L, M, N) (some (.int r)) (zE L, M, N) := zg_137 hd x1 x2 M N h ⟨rfl, rfl⟩
-- X12_manIs
set_option maxRecDepth 20000 in
theorem zg_138 {Γ : jb_G} {L : Nat} {d : Nat} (hd : 6 ≤ d) (x1 : Int32) (x2 : Int32) (M : jb_Mi) (N : jb_Ml) {v : Option Value} {σ2 : jb_S} {r : (Int32)} (h : zf_138 x1 x2 M = some r) (hK : (fun r : Int32 => v = some (.int r) ∧ σ2 = (zE L, M, N)) r) : jb_V Γ d zq_138 0 [some (.ref 1), some (.int x1), some (.int x2)] [] (zE L, M, N) v σ2 := by
  obtain ⟨d, rfl⟩ : ∃ e, d = e + 1 := ⟨d - 1, by omega⟩
  unfold zf_138 at h
  refine jb_seg 3 (pc' := 5) (ls' := [some (.ref 1), some (.int x1), some (.int x2)]) (st' := [(.int x1), (.ref 4)]) (σ' := (zE L, M, N)) (G := []) rfl trivial ?_
  obtain ⟨q1, h1, h⟩ := jb_bd_of h
  refine jb_callV (q' := zq_18) (As := [(.int x1)]) (rest := []) (σ1 := (zE L, M, N)) (v := some (.int (jb_b2i q1))) rfl rfl zp_18 rfl (Nat.le_of_ble_eq_true rfl) (jb_cat rfl) (Nat.le_of_ble_eq_true rfl) (Nat.le_of_ble_eq_true rfl) (Or.inl rfl) rfl (ze_18 4 x1 M N (by decide) h1) ?_
  refine jb_seg 1 (pc' := (if (jb_b2i q1) = 0 then 11 else 13)) (ls' := [some (.ref 1), some (.int x1), some (.int x2)]) (st' := []) (σ' := (zE L, M, N)) (G := []) rfl trivial ?_
  refine jb_ite (fun c => ?_) (fun c => ?_)
  · replace h := (if_pos c).symm.trans h
    refine jb_seg 1 (pc' := 12) (ls' := [some (.ref 1), some (.int x1), some (.int x2)]) (st' := [(.int (-1))]) (σ' := (zE L, M, N)) (G := []) rfl trivial ?_
    obtain rfl := Option.some.inj h
    obtain ⟨rfl, rfl⟩ := hK
    exact jb_reti rfl rfl
  · replace h := (if_neg c).symm.trans h
    refine jb_seg 1 (pc' := 14) (ls' := [some (.ref 1), some (.int x1), some (.int x2)]) (st' := [(.int x2)]) (σ' := (zE L, M, N)) (G := []) rfl trivial ?_
    refine jb_tsw [(0, 48), (1, 58), (2, 68), (3, 84), (4, 93)] 102 rfl (by decide +kernel) ?_
    refine jb_swc (fun c => ?_) (fun c => ?_)
    · replace h := (if_pos c).symm.trans h
      obtain ⟨g2, h⟩ := jb_gd_of h
      refine jb_seg 5 (pc' := 57) (ls' := [some (.ref 1), some (.int x1), some (.int x2)]) (st' := [(.int (M 12 x1.toNatClampNeg))]) (σ' := (zE L, M, N)) (G := [vp_in x1 16]) rfl g2 ?_
      obtain rfl := Option.some.inj h
      obtain ⟨rfl, rfl⟩ := hK
      exact jb_reti rfl rfl
    · replace h := (if_neg c).symm.trans h
      refine jb_swc (fun c => ?_) (fun c => ?_)
      · replace h := (if_pos c).symm.trans h
        obtain ⟨g3, h⟩ := jb_gd_of h
        refine jb_seg 5 (pc' := 67) (ls' := [some (.ref 1), some (.int x1), some (.int x2)]) (st' := [(.int (M 13 x1.toNatClampNeg))]) (σ' := (zE L, M, N)) (G := [vp_in x1 16]) rfl g3 ?_
        obtain rfl := Option.some.inj h
        obtain ⟨rfl, rfl⟩ := hK
        exact jb_reti rfl rfl
      · replace h := (if_neg c).symm.trans h
        refine jb_swc (fun c => ?_) (fun c => ?_)
        · replace h := (if_pos c).symm.trans h
          refine jb_seg 5 (pc' := 77) (ls' := [some (.ref 1), some (.int x1), some (.int x2)]) (st' := [(.ref 4), (.int x1), (.ref 41)]) (σ' := (zE L, M, N)) (G := []) rfl trivial ?_
          refine jb_callV (q' := zq_14) (As := []) (rest := [(.int x1), (.ref 41)]) (σ1 := (zE L, M, N)) (v := some (.int (zf_14 4 M))) rfl rfl zp_14 rfl (Nat.le_of_ble_eq_true rfl) (jb_cat rfl) (Nat.le_of_ble_eq_true rfl) (Nat.le_of_ble_eq_true rfl) (Or.inl rfl) rfl (ze_14 4 M N (by decide) rfl) ?_
          obtain ⟨q4, h4, h⟩ := jb_bd_of h
          refine jb_callV (q' := zq_39) (As := [(.int x1), (.int (zf_14 4 M))]) (rest := []) (σ1 := (zE L, M, N)) (v := some (.int q4)) rfl rfl zp_39 rfl (Nat.le_of_ble_eq_true rfl) (jb_cat rfl) (Nat.le_of_ble_eq_true rfl) (Nat.le_of_ble_eq_true rfl) (Or.inl rfl) rfl (ze_39 (by omega) x1 (zf_14 4 M) M N h4) ?_
          obtain rfl := Option.some.inj h
          obtain ⟨rfl, rfl⟩ := hK
          exact jb_reti rfl rfl
        · replace h := (if_neg c).symm.trans h
          refine jb_swc (fun c => ?_) (fun c => ?_)
          · replace h := (if_pos c).symm.trans h
            refine jb_seg 3 (pc' := 89) (ls' := [some (.ref 1), some (.int x1), some (.int x2)]) (st' := [(.int x1), (.ref 41)]) (σ' := (zE L, M, N)) (G := []) rfl trivial ?_
            obtain ⟨q5, h5, h⟩ := jb_bd_of h
            refine jb_callV (q' := zq_40) (As := [(.int x1)]) (rest := []) (σ1 := (zE L, M, N)) (v := some (.int q5)) rfl rfl zp_40 rfl (Nat.le_of_ble_eq_true rfl) (jb_cat rfl) (Nat.le_of_ble_eq_true rfl) (Nat.le_of_ble_eq_true rfl) (Or.inl rfl) rfl (ze_40 (by omega) x1 M N h5) ?_
            obtain rfl := Option.some.inj h
            obtain ⟨rfl, rfl⟩ := hK
            exact jb_reti rfl rfl
          · replace h := (if_neg c).symm.trans h
            refine jb_swc (fun c => ?_) (fun c => ?_)
            · replace h := (if_pos c).symm.trans h
              refine jb_seg 3 (pc' := 98) (ls' := [some (.ref 1), some (.int x1), some (.int x2)]) (st' := [(.int x1), (.ref 41)]) (σ' := (zE L, M, N)) (G := []) rfl trivial ?_
              obtain ⟨q6, h6, h⟩ := jb_bd_of h
              refine jb_callV (q' := zq_41) (As := [(.int x1)]) (rest := []) (σ1 := (zE L, M, N)) (v := some (.int q6)) rfl rfl zp_41 rfl (Nat.le_of_ble_eq_true rfl) (jb_cat rfl) (Nat.le_of_ble_eq_true rfl) (Nat.le_of_ble_eq_true rfl) (Or.inl rfl) rfl (ze_41 (by omega) x1 M N h6) ?_
              obtain rfl := Option.some.inj h
              obtain ⟨rfl, rfl⟩ := hK
              exact jb_reti rfl rfl
            · replace h := (if_neg c).symm.trans h
              refine jb_swn ?_
              refine jb_seg 1 (pc' := 103) (ls' := [some (.ref 1), some (.int x1), some (.int x2)]) (st' := [(.int (-1))]) (σ' := (zE L, M, N)) (G := []) rfl trivial ?_
              obtain rfl := Option.some.inj h
              obtain ⟨rfl, rfl⟩ := hK
              exact jb_reti rfl rfl
theorem ze_138 {Γ : jb_G} {L : Nat} {d : Nat} (hd : 6 ≤ d) (x1 : Int32) (x2 : Int32) (M : jb_Mi) (N : jb_Ml) {r : (Int32)} (h : zf_138 x1 x2 M = some r) : jb_V Γ d zq_138 0 (jb_en 3 [(.ref 1), (.int x1), (.int x2)]) [] (zE L, M, N) (some (.int r)) (zE L, M, N) := zg_138 hd x1 x2 M N h ⟨rfl, rfl⟩
-- X12_load
set_option maxRecDepth 20000 in
theorem zg_139 {Γ : jb_G} {L : Nat} {d : Nat} (hd : 3 ≤ d) (x1 : Int32) (x2 : Int32) (M : jb_Mi) (N : jb_Ml) {v : Option Value} {σ2 : jb_S} {r : (Int32)} (h : zf_139 x1 x2 M = some r) (hK : (fun r : Int32 => v = some (.int r) ∧ σ2 = (zE L, M, N)) r) : jb_V Γ d zq_139 0 [some (.ref 1), some (.int x1), some (.int x2)] [] (zE L, M, N) v σ2 := by
  obtain ⟨d, rfl⟩ : ∃ e, d = e + 1 := ⟨d - 1, by omega⟩
  unfold zf_139 at h
  refine jb_seg 3 (pc' := 5) (ls' := [some (.ref 1), some (.int x1), some (.int x2)]) (st' := [(.int x1), (.ref 4)]) (σ' := (zE L, M, N)) (G := []) rfl trivial ?_
  obtain ⟨q1, h1, h⟩ := jb_bd_of h
  refine jb_callV (q' := zq_2) (As := [(.int x1)]) (rest := []) (σ1 := (zE L, M, N)) (v := some (.int (jb_b2i q1))) rfl rfl zp_2 rfl (Nat.le_of_ble_eq_true rfl) (jb_cat rfl) (Nat.le_of_ble_eq_true rfl) (Nat.le_of_ble_eq_true rfl) (Or.inl rfl) rfl (ze_2 4 x1 M N (by decide) h1) ?_
  refine jb_seg 1 (pc' := (if (jb_b2i q1) = 0 then 20 else 11)) (ls' := [some (.ref 1), some (.int x1), some (.int x2)]) (st' := []) (σ' := (zE L, M, N)) (G := []) rfl trivial ?_
  refine jb_ite (fun c => ?_) (fun c => ?_)
  · replace h := (if_pos c).symm.trans h
    refine jb_seg 1 (pc' := 21) (ls' := [some (.ref 1), some (.int x1), some (.int x2)]) (st' := [(.int (-1))]) (σ' := (zE L, M, N)) (G := []) rfl trivial ?_
    obtain rfl := Option.some.inj h
    obtain ⟨rfl, rfl⟩ := hK
    exact jb_reti rfl rfl
  · replace h := (if_neg c).symm.trans h
    refine jb_seg 3 (pc' := 14) (ls' := [some (.ref 1), some (.int x1), some (.int x2)]) (st' := [(.int 3), (.int 0), (.int x2)]) (σ' := (zE L, M, N)) (G := []) rfl trivial ?_
    refine jb_callS (q' := zq_23) (As := [(.int x2), (.int 0), (.int 3)]) (rest := []) (σ1 := (zE L, M, N)) (v := some (.int (jb_b2i (zf_23 x2 0 3)))) rfl (Nat.le_of_ble_eq_true rfl) rfl zp_23 (jb_cat rfl) (Nat.le_of_ble_eq_true rfl) (Nat.le_of_ble_eq_true rfl) (Or.inl rfl) rfl (ze_23 x2 0 3 M N rfl) ?_
    refine jb_seg 1 (pc' := (if (jb_b2i (zf_23 x2 0 3)) = 0 then 20 else 22)) (ls' := [some (.ref 1), some (.int x1), some (.int x2)]) (st' := []) (σ' := (zE L, M, N)) (G := []) rfl trivial ?_
    refine jb_ite (fun c => ?_) (fun c => ?_)
    · replace h := (if_pos c).symm.trans h
      refine jb_seg 1 (pc' := 21) (ls' := [some (.ref 1), some (.int x1), some (.int x2)]) (st' := [(.int (-1))]) (σ' := (zE L, M, N)) (G := []) rfl trivial ?_
      obtain rfl := Option.some.inj h
      obtain ⟨rfl, rfl⟩ := hK
      exact jb_reti rfl rfl
    · replace h := (if_neg c).symm.trans h
      refine jb_seg 4 (pc' := 28) (ls' := [some (.ref 1), some (.int x1), some (.int x2)]) (st' := [(.int x2), (.int x1), (.ref 4)]) (σ' := (zE L, M, N)) (G := []) rfl trivial ?_
      obtain ⟨q2, h2, h⟩ := jb_bd_of h
      refine jb_callV (q' := zq_7) (As := [(.int x1), (.int x2)]) (rest := []) (σ1 := (zE L, M, N)) (v := some (.int q2)) rfl rfl zp_7 rfl (Nat.le_of_ble_eq_true rfl) (jb_cat rfl) (Nat.le_of_ble_eq_true rfl) (Nat.le_of_ble_eq_true rfl) (Or.inl rfl) rfl (ze_7 (by omega) 4 x1 x2 M N (by decide) h2) ?_
      obtain rfl := Option.some.inj h
      obtain ⟨rfl, rfl⟩ := hK
      exact jb_reti rfl rfl
theorem ze_139 {Γ : jb_G} {L : Nat} {d : Nat} (hd : 3 ≤ d) (x1 : Int32) (x2 : Int32) (M : jb_Mi) (N : jb_Ml) {r : (Int32)} (h : zf_139 x1 x2 M = some r) : jb_V Γ d zq_139 0 (jb_en 3 [(.ref 1), (.int x1), (.int x2)]) [] (zE L, M, N) (some (.int r)) (zE L, M, N) := zg_139 hd x1 x2 M N h ⟨rfl, rfl⟩
-- X12_duty
set_option maxRecDepth 20000 in
theorem zg_140 {Γ : jb_G} {L : Nat} {d : Nat} (hd : 3 ≤ d) (x1 : Int32) (x2 : Int32) (M : jb_Mi) (N : jb_Ml) {v : Option Value} {σ2 : jb_S} {r : (Int32)} (h : zf_140 x1 x2 M = some r) (hK : (fun r : Int32 => v = some (.int r) ∧ σ2 = (zE L, M, N)) r) : jb_V Γ d zq_140 0 [some (.ref 1), some (.int x1), some (.int x2)] [] (zE L, M, N) v σ2 := by
  obtain ⟨d, rfl⟩ : ∃ e, d = e + 1 := ⟨d - 1, by omega⟩
  unfold zf_140 at h
  refine jb_seg 3 (pc' := 5) (ls' := [some (.ref 1), some (.int x1), some (.int x2)]) (st' := [(.int x1), (.ref 4)]) (σ' := (zE L, M, N)) (G := []) rfl trivial ?_
  obtain ⟨q1, h1, h⟩ := jb_bd_of h
  refine jb_callV (q' := zq_2) (As := [(.int x1)]) (rest := []) (σ1 := (zE L, M, N)) (v := some (.int (jb_b2i q1))) rfl rfl zp_2 rfl (Nat.le_of_ble_eq_true rfl) (jb_cat rfl) (Nat.le_of_ble_eq_true rfl) (Nat.le_of_ble_eq_true rfl) (Or.inl rfl) rfl (ze_2 4 x1 M N (by decide) h1) ?_
  refine jb_seg 1 (pc' := (if (jb_b2i q1) = 0 then 20 else 11)) (ls' := [some (.ref 1), some (.int x1), some (.int x2)]) (st' := []) (σ' := (zE L, M, N)) (G := []) rfl trivial ?_
  refine jb_ite (fun c => ?_) (fun c => ?_)
  · replace h := (if_pos c).symm.trans h
    refine jb_seg 1 (pc' := 21) (ls' := [some (.ref 1), some (.int x1), some (.int x2)]) (st' := [(.int (-1))]) (σ' := (zE L, M, N)) (G := []) rfl trivial ?_
    obtain rfl := Option.some.inj h
    obtain ⟨rfl, rfl⟩ := hK
    exact jb_reti rfl rfl
  · replace h := (if_neg c).symm.trans h
    refine jb_seg 3 (pc' := 14) (ls' := [some (.ref 1), some (.int x1), some (.int x2)]) (st' := [(.int 3), (.int 0), (.int x2)]) (σ' := (zE L, M, N)) (G := []) rfl trivial ?_
    refine jb_callS (q' := zq_23) (As := [(.int x2), (.int 0), (.int 3)]) (rest := []) (σ1 := (zE L, M, N)) (v := some (.int (jb_b2i (zf_23 x2 0 3)))) rfl (Nat.le_of_ble_eq_true rfl) rfl zp_23 (jb_cat rfl) (Nat.le_of_ble_eq_true rfl) (Nat.le_of_ble_eq_true rfl) (Or.inl rfl) rfl (ze_23 x2 0 3 M N rfl) ?_
    refine jb_seg 1 (pc' := (if (jb_b2i (zf_23 x2 0 3)) = 0 then 20 else 22)) (ls' := [some (.ref 1), some (.int x1), some (.int x2)]) (st' := []) (σ' := (zE L, M, N)) (G := []) rfl trivial ?_
    refine jb_ite (fun c => ?_) (fun c => ?_)
    · replace h := (if_pos c).symm.trans h
      refine jb_seg 1 (pc' := 21) (ls' := [some (.ref 1), some (.int x1), some (.int x2)]) (st' := [(.int (-1))]) (σ' := (zE L, M, N)) (G := []) rfl trivial ?_
      obtain rfl := Option.some.inj h
      obtain ⟨rfl, rfl⟩ := hK
      exact jb_reti rfl rfl
    · replace h := (if_neg c).symm.trans h
      refine jb_seg 9 (pc' := 35) (ls' := [some (.ref 1), some (.int x1), some (.int x2)]) (st' := [(.ref 4), (.int ((x1 * 4) + x2)), (.ref 41)]) (σ' := (zE L, M, N)) (G := []) rfl trivial ?_
      refine jb_callV (q' := zq_14) (As := []) (rest := [(.int ((x1 * 4) + x2)), (.ref 41)]) (σ1 := (zE L, M, N)) (v := some (.int (zf_14 4 M))) rfl rfl zp_14 rfl (Nat.le_of_ble_eq_true rfl) (jb_cat rfl) (Nat.le_of_ble_eq_true rfl) (Nat.le_of_ble_eq_true rfl) (Or.inl rfl) rfl (ze_14 4 M N (by decide) rfl) ?_
      obtain ⟨q2, h2, h⟩ := jb_bd_of h
      refine jb_callV (q' := zq_19) (As := [(.int ((x1 * 4) + x2)), (.int (zf_14 4 M))]) (rest := []) (σ1 := (zE L, M, N)) (v := some (.int q2)) rfl rfl zp_19 rfl (Nat.le_of_ble_eq_true rfl) (jb_cat rfl) (Nat.le_of_ble_eq_true rfl) (Nat.le_of_ble_eq_true rfl) (Or.inl rfl) rfl (ze_19 (by omega) ((x1 * 4) + x2) (zf_14 4 M) M N h2) ?_
      obtain rfl := Option.some.inj h
      obtain ⟨rfl, rfl⟩ := hK
      exact jb_reti rfl rfl
theorem ze_140 {Γ : jb_G} {L : Nat} {d : Nat} (hd : 3 ≤ d) (x1 : Int32) (x2 : Int32) (M : jb_Mi) (N : jb_Ml) {r : (Int32)} (h : zf_140 x1 x2 M = some r) : jb_V Γ d zq_140 0 (jb_en 3 [(.ref 1), (.int x1), (.int x2)]) [] (zE L, M, N) (some (.int r)) (zE L, M, N) := zg_140 hd x1 x2 M N h ⟨rfl, rfl⟩
-- X12_stands
set_option maxRecDepth 20000 in
theorem zg_141_H43 {Γ : jb_G} {L : Nat} {d : Nat} (hd : 6 ≤ d) (x1 : Int32) (x2 : Int32) (N : jb_Ml) (s : Int32 × jb_Mi) {v : Option Value} {σ2 : jb_S} {r : ((Int32 × jb_Mi) ⊕ (Int32 × jb_Mi))} (h : zf_141_H43 x1 x2 s = some r) (hK : (jb_K (fun s : Int32 × jb_Mi => jb_V Γ d zq_141 43 [some (.ref 1), some (.int x1), some (.int x2), some (.int s.1)] [] (zE L, s.2, N) v σ2) (fun r : Int32 × jb_Mi => v = some (.int r.1) ∧ σ2 = (zE L, r.2, N))) r) : jb_V Γ d zq_141 43 [some (.ref 1), some (.int x1), some (.int x2), some (.int s.1)] [] (zE L, s.2, N) v σ2 := by
  obtain ⟨d, rfl⟩ : ∃ e, d = e + 1 := ⟨d - 1, by omega⟩
  unfold zf_141_H43 at h
  refine jb_seg 3 (pc' := (if x2 < s.1 then 74 else 48)) (ls' := [some (.ref 1), some (.int x1), some (.int x2), some (.int s.1)]) (st' := []) (σ' := (zE L, s.2, N)) (G := []) rfl trivial ?_
  refine jb_ite (fun c => ?_) (fun c => ?_)
  · replace h := (if_pos c).symm.trans h
    refine jb_seg 1 (pc' := 76) (ls' := [some (.ref 1), some (.int x1), some (.int x2), some (.int s.1)]) (st' := [(.int (-2))]) (σ' := (zE L, s.2, N)) (G := []) rfl trivial ?_
    obtain rfl := Option.some.inj h
    obtain ⟨rfl, rfl⟩ := hK
    exact jb_reti rfl rfl
  · replace h := (if_neg c).symm.trans h
    refine jb_seg 2 (pc' := 52) (ls' := [some (.ref 1), some (.int x1), some (.int x2), some (.int s.1)]) (st' := [(.ref 62)]) (σ' := (zE L, s.2, N)) (G := []) rfl trivial ?_
    obtain ⟨q4, h4, h⟩ := jb_bd_of h
    refine jb_callV (q' := zq_124) (As := []) (rest := []) (σ1 := (zE L, q4, N)) (v := none) rfl rfl zp_124 rfl (Nat.le_of_ble_eq_true rfl) (jb_cat rfl) (Nat.le_of_ble_eq_true rfl) (Nat.le_of_ble_eq_true rfl) (Or.inl rfl) rfl (ze_124 (by omega) 62 24 s.2 N (by decide) h4) ?_
    refine jb_seg 3 (pc' := 60) (ls' := [some (.ref 1), some (.int x1), some (.int x2), some (.int s.1)]) (st' := [(.int x1), (.ref 24)]) (σ' := (zE L, q4, N)) (G := []) rfl trivial ?_
    obtain ⟨q5, h5, h⟩ := jb_bd_of h
    refine jb_callV (q' := zq_37) (As := [(.int x1)]) (rest := []) (σ1 := (zE L, q4, N)) (v := some (.int (jb_b2i q5))) rfl rfl zp_37 rfl (Nat.le_of_ble_eq_true rfl) (jb_cat rfl) (Nat.le_of_ble_eq_true rfl) (Nat.le_of_ble_eq_true rfl) (Or.inl rfl) rfl (ze_37 24 x1 q4 N (by decide) h5) ?_
    refine jb_seg 1 (pc' := (if (jb_b2i q5) = 0 then 66 else 68)) (ls' := [some (.ref 1), some (.int x1), some (.int x2), some (.int s.1)]) (st' := []) (σ' := (zE L, q4, N)) (G := []) rfl trivial ?_
    refine jb_ite (fun c => ?_) (fun c => ?_)
    · replace h := (if_pos c).symm.trans h
      refine jb_seg 1 (pc' := 67) (ls' := [some (.ref 1), some (.int x1), some (.int x2), some (.int s.1)]) (st' := [(.int s.1)]) (σ' := (zE L, q4, N)) (G := []) rfl trivial ?_
      obtain rfl := Option.some.inj h
      obtain ⟨rfl, rfl⟩ := hK
      exact jb_reti rfl rfl
    · replace h := (if_neg c).symm.trans h
      refine jb_seg 2 (pc' := 43) (ls' := [some (.ref 1), some (.int x1), some (.int x2), some (.int (s.1 + 1))]) (st' := []) (σ' := (zE L, q4, N)) (G := []) rfl trivial ?_
      obtain rfl := Option.some.inj h
      exact jb_mask [true, true, true, true] rfl hK
theorem zg_141_H43L {Γ : jb_G} {L : Nat} {d : Nat} (hd : 6 ≤ d) (x1 : Int32) (x2 : Int32) (N : jb_Ml) {v : Option Value} {σ2 : jb_S} {s : Int32 × jb_Mi} {r : (Int32 × jb_Mi)} (h : jb_lp (zf_141_H43 x1 x2) s = some r) (hK : (fun r : Int32 × jb_Mi => v = some (.int r.1) ∧ σ2 = (zE L, r.2, N)) r) : jb_V Γ d zq_141 43 [some (.ref 1), some (.int x1), some (.int x2), some (.int s.1)] [] (zE L, s.2, N) v σ2 := by
  exact @jb_lp_ind (Int32 × jb_Mi) ((Int32 × jb_Mi)) (zf_141_H43 x1 x2) (fun s => jb_V Γ d zq_141 43 [some (.ref 1), some (.int x1), some (.int x2), some (.int s.1)] [] (zE L, s.2, N) v σ2) (fun r : Int32 × jb_Mi => v = some (.int r.1) ∧ σ2 = (zE L, r.2, N)) (fun s r h hk => zg_141_H43 hd x1 x2 N s h hk) s r h hK
set_option maxRecDepth 20000 in
theorem zg_141 {Γ : jb_G} {L : Nat} {d : Nat} (hd : 6 ≤ d) (x1 : Int32) (x2 : Int32) (M : jb_Mi) (N : jb_Ml) {v : Option Value} {σ2 : jb_S} {r : (Int32 × jb_Mi)} (h : zf_141 x1 x2 M = some r) (hK : (fun r : Int32 × jb_Mi => v = some (.int r.1) ∧ σ2 = (zE L, r.2, N)) r) : jb_V Γ d zq_141 0 [some (.ref 1), some (.int x1), some (.int x2), none] [] (zE L, M, N) v σ2 := by
  obtain ⟨d, rfl⟩ : ∃ e, d = e + 1 := ⟨d - 1, by omega⟩
  unfold zf_141 at h
  refine jb_seg 3 (pc' := 5) (ls' := [some (.ref 1), some (.int x1), some (.int x2), none]) (st' := [(.int x1), (.ref 4)]) (σ' := (zE L, M, N)) (G := []) rfl trivial ?_
  obtain ⟨q1, h1, h⟩ := jb_bd_of h
  refine jb_callV (q' := zq_2) (As := [(.int x1)]) (rest := []) (σ1 := (zE L, M, N)) (v := some (.int (jb_b2i q1))) rfl rfl zp_2 rfl (Nat.le_of_ble_eq_true rfl) (jb_cat rfl) (Nat.le_of_ble_eq_true rfl) (Nat.le_of_ble_eq_true rfl) (Or.inl rfl) rfl (ze_2 4 x1 M N (by decide) h1) ?_
  refine jb_seg 1 (pc' := (if (jb_b2i q1) = 0 then 22 else 11)) (ls' := [some (.ref 1), some (.int x1), some (.int x2), none]) (st' := []) (σ' := (zE L, M, N)) (G := []) rfl trivial ?_
  refine jb_ite (fun c => ?_) (fun c => ?_)
  · replace h := (if_pos c).symm.trans h
    refine jb_seg 1 (pc' := 23) (ls' := [some (.ref 1), some (.int x1), some (.int x2), none]) (st' := [(.int (-1))]) (σ' := (zE L, M, N)) (G := []) rfl trivial ?_
    obtain rfl := Option.some.inj h
    obtain ⟨rfl, rfl⟩ := hK
    exact jb_reti rfl rfl
  · replace h := (if_neg c).symm.trans h
    refine jb_seg 3 (pc' := 16) (ls' := [some (.ref 1), some (.int x1), some (.int x2), none]) (st' := [(.int 240), (.int 1), (.int x2)]) (σ' := (zE L, M, N)) (G := []) rfl trivial ?_
    refine jb_callS (q' := zq_23) (As := [(.int x2), (.int 1), (.int 240)]) (rest := []) (σ1 := (zE L, M, N)) (v := some (.int (jb_b2i (zf_23 x2 1 240)))) rfl (Nat.le_of_ble_eq_true rfl) rfl zp_23 (jb_cat rfl) (Nat.le_of_ble_eq_true rfl) (Nat.le_of_ble_eq_true rfl) (Or.inl rfl) rfl (ze_23 x2 1 240 M N rfl) ?_
    refine jb_seg 1 (pc' := (if (jb_b2i (zf_23 x2 1 240)) = 0 then 22 else 24)) (ls' := [some (.ref 1), some (.int x1), some (.int x2), none]) (st' := []) (σ' := (zE L, M, N)) (G := []) rfl trivial ?_
    refine jb_ite (fun c => ?_) (fun c => ?_)
    · replace h := (if_pos c).symm.trans h
      refine jb_seg 1 (pc' := 23) (ls' := [some (.ref 1), some (.int x1), some (.int x2), none]) (st' := [(.int (-1))]) (σ' := (zE L, M, N)) (G := []) rfl trivial ?_
      obtain rfl := Option.some.inj h
      obtain ⟨rfl, rfl⟩ := hK
      exact jb_reti rfl rfl
    · replace h := (if_neg c).symm.trans h
      refine jb_seg 3 (pc' := 29) (ls' := [some (.ref 1), some (.int x1), some (.int x2), none]) (st' := [(.int x1), (.ref 4)]) (σ' := (zE L, M, N)) (G := []) rfl trivial ?_
      obtain ⟨q2, h2, h⟩ := jb_bd_of h
      refine jb_callV (q' := zq_37) (As := [(.int x1)]) (rest := []) (σ1 := (zE L, M, N)) (v := some (.int (jb_b2i q2))) rfl rfl zp_37 rfl (Nat.le_of_ble_eq_true rfl) (jb_cat rfl) (Nat.le_of_ble_eq_true rfl) (Nat.le_of_ble_eq_true rfl) (Or.inl rfl) rfl (ze_37 4 x1 M N (by decide) h2) ?_
      refine jb_seg 1 (pc' := (if (jb_b2i q2) = 0 then 35 else 37)) (ls' := [some (.ref 1), some (.int x1), some (.int x2), none]) (st' := []) (σ' := (zE L, M, N)) (G := []) rfl trivial ?_
      refine jb_ite (fun c => ?_) (fun c => ?_)
      · replace h := (if_pos c).symm.trans h
        refine jb_seg 1 (pc' := 36) (ls' := [some (.ref 1), some (.int x1), some (.int x2), none]) (st' := [(.int 0)]) (σ' := (zE L, M, N)) (G := []) rfl trivial ?_
        obtain rfl := Option.some.inj h
        obtain ⟨rfl, rfl⟩ := hK
        exact jb_reti rfl rfl
      · replace h := (if_neg c).symm.trans h
        refine jb_seg 1 (pc' := 38) (ls' := [some (.ref 1), some (.int x1), some (.int x2), none]) (st' := [(.ref 1)]) (σ' := (zE L, M, N)) (G := []) rfl trivial ?_
        obtain ⟨q3, h3, h⟩ := jb_bd_of h
        refine jb_callV (q' := zq_134) (As := []) (rest := []) (σ1 := (zE L, q3, N)) (v := none) rfl rfl zp_134 rfl (Nat.le_of_ble_eq_true rfl) (jb_cat rfl) (Nat.le_of_ble_eq_true rfl) (Nat.le_of_ble_eq_true rfl) (Or.inl rfl) rfl (ze_134 (by omega) M N h3) ?_
        refine jb_seg 2 (pc' := 43) (ls' := [some (.ref 1), some (.int x1), some (.int x2), some (.int 1)]) (st' := []) (σ' := (zE L, q3, N)) (G := []) rfl trivial ?_
        exact jb_mask [true, true, true, true] rfl (zg_141_H43L hd x1 x2 N h hK)
theorem ze_141 {Γ : jb_G} {L : Nat} {d : Nat} (hd : 6 ≤ d) (x1 : Int32) (x2 : Int32) (M : jb_Mi) (N : jb_Ml) {r : (Int32 × jb_Mi)} (h : zf_141 x1 x2 M = some r) : jb_V Γ d zq_141 0 (jb_en 4 [(.ref 1), (.int x1), (.int x2)]) [] (zE L, M, N) (some (.int r.1)) (zE L, r.2, N) := zg_141 hd x1 x2 M N h ⟨rfl, rfl⟩
