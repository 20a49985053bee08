-- J9_floorMod_7cf53
set_option maxRecDepth 20000 in
theorem zg_16 {Γ : jb_G} {L : Nat} {d : Nat} (x0 : Int32) (x1 : Int32) (M : jb_Mi) (N : jb_Ml) {v : Option Value} {σ2 : jb_S} {r : (Int32)} (h : zf_16 x0 x1 = some r) (hK : (fun r : Int32 => v = some (.int r) ∧ σ2 = (zE L, M, N)) r) : jb_V Γ d zq_16 0 [some (.int x0), some (.int x1), none] [] (zE L, M, N) v σ2 := by
  unfold zf_16 at h
  obtain ⟨g1, h⟩ := jb_g0_of h
  refine jb_seg 8 (pc' := (if (x0 ^^^ x1) < 0 then 10 else 18)) (ls' := [some (.int x0), some (.int x1), some (.int (x0 - x0 / x1 * x1))]) (st' := []) (σ' := (zE L, M, N)) (G := [¬ (x1 : Int32) = 0]) rfl g1 ?_
  refine jb_ite (fun c => ?_) (fun c => ?_)
  · replace h := (if_pos c).symm.trans h
    refine jb_seg 2 (pc' := (if (x0 - x0 / x1 * x1) = 0 then 18 else 14)) (ls' := [some (.int x0), some (.int x1), some (.int (x0 - x0 / x1 * x1))]) (st' := []) (σ' := (zE L, M, N)) (G := []) rfl trivial ?_
    refine jb_ite (fun c => ?_) (fun c => ?_)
    · replace h := (if_pos c).symm.trans h
      refine jb_seg 1 (pc' := 19) (ls' := [some (.int x0), some (.int x1), some (.int (x0 - x0 / x1 * x1))]) (st' := [(.int (x0 - x0 / x1 * x1))]) (σ' := (zE L, M, N)) (G := []) rfl trivial ?_
      obtain rfl := Option.some.inj h
      obtain ⟨rfl, rfl⟩ := hK
      exact jb_reti rfl rfl
    · replace h := (if_neg c).symm.trans h
      refine jb_seg 3 (pc' := 17) (ls' := [some (.int x0), some (.int x1), some (.int (x0 - x0 / x1 * x1))]) (st' := [(.int ((x0 - x0 / x1 * x1) + x1))]) (σ' := (zE L, M, N)) (G := []) rfl trivial ?_
      obtain rfl := Option.some.inj h
      obtain ⟨rfl, rfl⟩ := hK
      exact jb_reti rfl rfl
  · replace h := (if_neg c).symm.trans h
    refine jb_seg 1 (pc' := 19) (ls' := [some (.int x0), some (.int x1), some (.int (x0 - x0 / x1 * x1))]) (st' := [(.int (x0 - x0 / x1 * x1))]) (σ' := (zE L, M, N)) (G := []) rfl trivial ?_
    obtain rfl := Option.some.inj h
    obtain ⟨rfl, rfl⟩ := hK
    exact jb_reti rfl rfl
theorem ze_16 {Γ : jb_G} {L : Nat} {d : Nat} (x0 : Int32) (x1 : Int32) (M : jb_Mi) (N : jb_Ml) {r : (Int32)} (h : zf_16 x0 x1 = some r) : jb_V Γ d zq_16 0 (jb_en 3 [(.int x0), (.int x1)]) [] (zE L, M, N) (some (.int r)) (zE L, M, N) := zg_16 x0 x1 M N h ⟨rfl, rfl⟩
-- X8_named
set_option maxRecDepth 20000 in
theorem zg_17 {Γ : jb_G} {L : Nat} {d : Nat} (hd : 1 ≤ d) (x1 : Int32) (x2 : Int32) (M : jb_Mi) (N : jb_Ml) {v : Option Value} {σ2 : jb_S} {r : (Int32)} (h : zf_17 x1 x2 M = some r) (hK : (fun r : Int32 => v = some (.int r) ∧ σ2 = (zE L, M, N)) r) : jb_V Γ d zq_17 0 [some (.ref 34), some (.int x1), some (.int x2), none] [] (zE L, M, N) v σ2 := by
  obtain ⟨d, rfl⟩ : ∃ e, d = e + 1 := ⟨d - 1, by omega⟩
  unfold zf_17 at h
  refine jb_seg 2 (pc' := 2) (ls' := [some (.ref 34), some (.int x1), some (.int x2), none]) (st' := [(.int x1), (.ref 34)]) (σ' := (zE L, M, N)) (G := []) rfl trivial ?_
  obtain ⟨q1, h1, h⟩ := jb_bd_of h
  refine jb_callV (q' := zq_15) (As := [(.int x1)]) (rest := []) (σ1 := (zE L, M, N)) (v := some (.int q1)) rfl rfl zp_15 rfl (Nat.le_of_ble_eq_true rfl) (jb_cat rfl) (Nat.le_of_ble_eq_true rfl) (Nat.le_of_ble_eq_true rfl) (Or.inl rfl) rfl (ze_15 x1 M N h1) ?_
  refine jb_seg 3 (pc' := (if 0 < q1 then 10 else 28)) (ls' := [some (.ref 34), some (.int x1), some (.int x2), some (.int q1)]) (st' := []) (σ' := (zE L, M, N)) (G := []) rfl trivial ?_
  refine jb_ite (fun c => ?_) (fun c => ?_)
  · replace h := (if_pos c).symm.trans h
    refine jb_seg 7 (pc' := 20) (ls' := [some (.ref 34), some (.int x1), some (.int x2), some (.int q1)]) (st' := [(.int q1), (.int x2), (.int (x1 * 48)), (.ref 35)]) (σ' := (zE L, M, N)) (G := []) rfl trivial ?_
    obtain ⟨q2, h2, h⟩ := jb_bd_of h
    refine jb_callS (q' := zq_16) (As := [(.int x2), (.int q1)]) (rest := [(.int (x1 * 48)), (.ref 35)]) (σ1 := (zE L, M, N)) (v := some (.int q2)) rfl (Nat.le_of_ble_eq_true rfl) rfl zp_16 (jb_cat rfl) (Nat.le_of_ble_eq_true rfl) (Nat.le_of_ble_eq_true rfl) (Or.inl rfl) rfl (ze_16 x2 q1 M N h2) ?_
    obtain ⟨g3, h⟩ := jb_gd_of h
    refine jb_seg 3 (pc' := 30) (ls' := [some (.ref 34), some (.int x1), some (.int x2), some (.int q1)]) (st' := [(.int (M 35 (((x1 * 48) + q2)).toNatClampNeg))]) (σ' := (zE L, M, N)) (G := [vp_in ((x1 * 48) + q2) 1152]) rfl g3 ?_
    obtain rfl := Option.some.inj h
    obtain ⟨rfl, rfl⟩ := hK
    exact jb_reti rfl rfl
  · replace h := (if_neg c).symm.trans h
    refine jb_seg 1 (pc' := 30) (ls' := [some (.ref 34), some (.int x1), some (.int x2), some (.int q1)]) (st' := [(.int (-2))]) (σ' := (zE L, M, N)) (G := []) rfl trivial ?_
    obtain rfl := Option.some.inj h
    obtain ⟨rfl, rfl⟩ := hK
    exact jb_reti rfl rfl
theorem ze_17 {Γ : jb_G} {L : Nat} {d : Nat} (hd : 1 ≤ d) (x1 : Int32) (x2 : Int32) (M : jb_Mi) (N : jb_Ml) {r : (Int32)} (h : zf_17 x1 x2 M = some r) : jb_V Γ d zq_17 0 (jb_en 4 [(.ref 34), (.int x1), (.int x2)]) [] (zE L, M, N) (some (.int r)) (zE L, M, N) := zg_17 hd x1 x2 M N h ⟨rfl, rfl⟩
-- X9_manTold
set_option maxRecDepth 20000 in
theorem zg_18 {Γ : jb_G} {L : Nat} {d : Nat} (o : Nat) (x1 : Int32) (M : jb_Mi) (N : jb_Ml) (hp : o = 4 ∨ o = 24) {v : Option Value} {σ2 : jb_S} {r : (Bool)} (h : zf_18 o x1 M = some r) (hK : (fun r : Bool => v = some (.int (jb_b2i r)) ∧ σ2 = (zE L, M, N)) r) : jb_V Γ d zq_18 0 [some (.ref o), some (.int x1)] [] (zE L, M, N) v σ2 := by
  rcases hp with rfl | rfl
  · unfold zf_18 at h
    refine jb_seg 2 (pc' := (if x1 < 0 then 23 else 4)) (ls' := [some (.ref 4), some (.int x1)]) (st' := []) (σ' := (zE L, M, N)) (G := []) rfl trivial ?_
    refine jb_ite (fun c => ?_) (fun c => ?_)
    · replace h := (if_pos c).symm.trans h
      refine jb_seg 1 (pc' := 24) (ls' := [some (.ref 4), some (.int x1)]) (st' := [(.int 0)]) (σ' := (zE L, M, N)) (G := []) rfl trivial ?_
      obtain rfl := Option.some.inj h
      obtain ⟨rfl, rfl⟩ := hK
      exact jb_retz (by decide) rfl rfl
    · replace h := (if_neg c).symm.trans h
      refine jb_seg 3 (pc' := (if x1 < 16 then 10 else 23)) (ls' := [some (.ref 4), some (.int x1)]) (st' := []) (σ' := (zE L, M, N)) (G := []) rfl trivial ?_
      refine jb_ite (fun c => ?_) (fun c => ?_)
      · replace h := (if_pos c).symm.trans h
        obtain ⟨g1, h⟩ := jb_gd_of h
        refine jb_seg 5 (pc' := (if 0 < (M (4 + 8) x1.toNatClampNeg) then 19 else 23)) (ls' := [some (.ref 4), some (.int x1)]) (st' := []) (σ' := (zE L, M, N)) (G := [vp_in x1 16]) rfl g1 ?_
        refine jb_ite (fun c => ?_) (fun c => ?_)
        · replace h := (if_pos c).symm.trans h
          refine jb_seg 2 (pc' := 24) (ls' := [some (.ref 4), some (.int x1)]) (st' := [(.int 1)]) (σ' := (zE L, M, N)) (G := []) rfl trivial ?_
          obtain rfl := Option.some.inj h
          obtain ⟨rfl, rfl⟩ := hK
          exact jb_retz (by decide) rfl rfl
        · replace h := (if_neg c).symm.trans h
          refine jb_seg 1 (pc' := 24) (ls' := [some (.ref 4), some (.int x1)]) (st' := [(.int 0)]) (σ' := (zE L, M, N)) (G := []) rfl trivial ?_
          obtain rfl := Option.some.inj h
          obtain ⟨rfl, rfl⟩ := hK
          exact jb_retz (by decide) rfl rfl
      · replace h := (if_neg c).symm.trans h
        refine jb_seg 1 (pc' := 24) (ls' := [some (.ref 4), some (.int x1)]) (st' := [(.int 0)]) (σ' := (zE L, M, N)) (G := []) rfl trivial ?_
        obtain rfl := Option.some.inj h
        obtain ⟨rfl, rfl⟩ := hK
        exact jb_retz (by decide) rfl rfl
  · unfold zf_18 at h
    refine jb_seg 2 (pc' := (if x1 < 0 then 23 else 4)) (ls' := [some (.ref 24), some (.int x1)]) (st' := []) (σ' := (zE L, M, N)) (G := []) rfl trivial ?_
    refine jb_ite (fun c => ?_) (fun c => ?_)
    · replace h := (if_pos c).symm.trans h
      refine jb_seg 1 (pc' := 24) (ls' := [some (.ref 24), some (.int x1)]) (st' := [(.int 0)]) (σ' := (zE L, M, N)) (G := []) rfl trivial ?_
      obtain rfl := Option.some.inj h
      obtain ⟨rfl, rfl⟩ := hK
      exact jb_retz (by decide) rfl rfl
    · replace h := (if_neg c).symm.trans h
      refine jb_seg 3 (pc' := (if x1 < 16 then 10 else 23)) (ls' := [some (.ref 24), some (.int x1)]) (st' := []) (σ' := (zE L, M, N)) (G := []) rfl trivial ?_
      refine jb_ite (fun c => ?_) (fun c => ?_)
      · replace h := (if_pos c).symm.trans h
        obtain ⟨g1, h⟩ := jb_gd_of h
        refine jb_seg 5 (pc' := (if 0 < (M (24 + 8) x1.toNatClampNeg) then 19 else 23)) (ls' := [some (.ref 24), some (.int x1)]) (st' := []) (σ' := (zE L, M, N)) (G := [vp_in x1 16]) rfl g1 ?_
        refine jb_ite (fun c => ?_) (fun c => ?_)
        · replace h := (if_pos c).symm.trans h
          refine jb_seg 2 (pc' := 24) (ls' := [some (.ref 24), some (.int x1)]) (st' := [(.int 1)]) (σ' := (zE L, M, N)) (G := []) rfl trivial ?_
          obtain rfl := Option.some.inj h
          obtain ⟨rfl, rfl⟩ := hK
          exact jb_retz (by decide) rfl rfl
        · replace h := (if_neg c).symm.trans h
          refine jb_seg 1 (pc' := 24) (ls' := [some (.ref 24), some (.int x1)]) (st' := [(.int 0)]) (σ' := (zE L, M, N)) (G := []) rfl trivial ?_
          obtain rfl := Option.some.inj h
          obtain ⟨rfl, rfl⟩ := hK
          exact jb_retz (by decide) rfl rfl
      · replace h := (if_neg c).symm.trans h
        refine jb_seg 1 (pc' := 24) (ls' := [some (.ref 24), some (.int x1)]) (st' := [(.int 0)]) (σ' := (zE L, M, N)) (G := []) rfl trivial ?_
        obtain rfl := Option.some.inj h
        obtain ⟨rfl, rfl⟩ := hK
        exact jb_retz (by decide) rfl rfl
theorem ze_18 {Γ : jb_G} {L : Nat} {d : Nat} (o : Nat) (x1 : Int32) (M : jb_Mi) (N : jb_Ml) (hp : o = 4 ∨ o = 24) {r : (Bool)} (h : zf_18 o x1 M = some r) : jb_V Γ d zq_18 0 (jb_en 2 [(.ref o), (.int x1)]) [] (zE L, M, N) (some (.int (jb_b2i r))) (zE L, M, N) := zg_18 o x1 M N hp h ⟨rfl, rfl⟩
-- X1_whoHas
set_option maxRecDepth 20000 in
theorem zg_19 {Γ : jb_G} {L : Nat} {d : Nat} (hd : 2 ≤ d) (x1 : Int32) (x2 : Int32) (M : jb_Mi) (N : jb_Ml) {v : Option Value} {σ2 : jb_S} {r : (Int32)} (h : zf_19 x1 x2 M = some r) (hK : (fun r : Int32 => v = some (.int r) ∧ σ2 = (zE L, M, N)) r) : jb_V Γ d zq_19 0 [some (.ref 41), some (.int x1), some (.int x2), none] [] (zE L, M, N) v σ2 := by
  obtain ⟨d, rfl⟩ : ∃ e, d = e + 1 := ⟨d - 1, by omega⟩
  unfold zf_19 at h
  refine jb_seg 4 (pc' := 6) (ls' := [some (.ref 41), some (.int x1), some (.int x2), none]) (st' := [(.int x2), (.int x1), (.ref 34)]) (σ' := (zE L, M, N)) (G := []) rfl trivial ?_
  obtain ⟨q1, h1, h⟩ := jb_bd_of h
  refine jb_callV (q' := zq_17) (As := [(.int x1), (.int x2)]) (rest := []) (σ1 := (zE L, M, N)) (v := some (.int q1)) rfl rfl zp_17 rfl (Nat.le_of_ble_eq_true rfl) (jb_cat rfl) (Nat.le_of_ble_eq_true rfl) (Nat.le_of_ble_eq_true rfl) (Or.inl rfl) rfl (ze_17 (by omega) x1 x2 M N h1) ?_
  refine jb_seg 4 (pc' := 15) (ls' := [some (.ref 41), some (.int x1), some (.int x2), some (.int q1)]) (st' := [(.int q1), (.ref 4)]) (σ' := (zE L, M, N)) (G := []) rfl trivial ?_
  obtain ⟨q2, h2, h⟩ := jb_bd_of h
  refine jb_callV (q' := zq_18) (As := [(.int q1)]) (rest := []) (σ1 := (zE L, M, N)) (v := some (.int (jb_b2i q2))) rfl rfl zp_18 rfl (Nat.le_of_ble_eq_true rfl) (jb_cat rfl) (Nat.le_of_ble_eq_true rfl) (Nat.le_of_ble_eq_true rfl) (Or.inl rfl) rfl (ze_18 4 q1 M N (by decide) h2) ?_
  refine jb_seg 1 (pc' := (if (jb_b2i q2) = 0 then 25 else 21)) (ls' := [some (.ref 41), some (.int x1), some (.int x2), some (.int q1)]) (st' := []) (σ' := (zE L, M, N)) (G := []) rfl trivial ?_
  refine jb_ite (fun c => ?_) (fun c => ?_)
  · replace h := (if_pos c).symm.trans h
    refine jb_seg 1 (pc' := 27) (ls' := [some (.ref 41), some (.int x1), some (.int x2), some (.int q1)]) (st' := [(.int (-2))]) (σ' := (zE L, M, N)) (G := []) rfl trivial ?_
    obtain rfl := Option.some.inj h
    obtain ⟨rfl, rfl⟩ := hK
    exact jb_reti rfl rfl
  · replace h := (if_neg c).symm.trans h
    refine jb_seg 2 (pc' := 27) (ls' := [some (.ref 41), some (.int x1), some (.int x2), some (.int q1)]) (st' := [(.int q1)]) (σ' := (zE L, M, N)) (G := []) rfl trivial ?_
    obtain rfl := Option.some.inj h
    obtain ⟨rfl, rfl⟩ := hK
    exact jb_reti rfl rfl
theorem ze_19 {Γ : jb_G} {L : Nat} {d : Nat} (hd : 2 ≤ d) (x1 : Int32) (x2 : Int32) (M : jb_Mi) (N : jb_Ml) {r : (Int32)} (h : zf_19 x1 x2 M = some r) : jb_V Γ d zq_19 0 (jb_en 4 [(.ref 41), (.int x1), (.int x2)]) [] (zE L, M, N) (some (.int r)) (zE L, M, N) := zg_19 hd x1 x2 M N h ⟨rfl, rfl⟩
-- X0_findExcess
set_option maxRecDepth 20000 in
theorem zg_20_J66 {Γ : jb_G} {L : Nat} {d : Nat} (hd : 4 ≤ d) (x1 : Int32) (x2 : Int32) (s1 : Int32) (s2 : Int32) (s3 : Int32) (M : jb_Mi) (N : jb_Ml) {v : Option Value} {σ2 : jb_S} {r : ((Int32 × jb_Mi) ⊕ (jb_Mi))} (h : zf_20_J66 x1 x2 s1 s2 s3 M = some r) (hK : (jb_K (fun s : Int32 × jb_Mi => jb_V Γ d zq_20 7 [some (.ref 64), some (.int x1), some (.int s.1), none] [] (zE L, s.2, N) v σ2) (fun r : jb_Mi => v = none ∧ σ2 = (zE L, r, N))) r) : jb_V Γ d zq_20 66 [some (.ref 64), some (.int x1), some (.int x2), none] [(.int s3), (.int s2), (.int s1), (.ref 65)] (zE L, M, N) v σ2 := by
  obtain ⟨d, rfl⟩ : ∃ e, d = e + 1 := ⟨d - 1, by omega⟩
  unfold zf_20_J66 at h
  obtain ⟨g5, h⟩ := jb_gd_of h
  refine jb_seg 4 (pc' := 7) (ls' := [some (.ref 64), some (.int x1), some (.int (x2 + 1)), none]) (st' := []) (σ' := (zE L, (jb_up M 65 s1.toNatClampNeg (s2 - s3)), N)) (G := [vp_in s1 4]) rfl g5 ?_
  obtain rfl := Option.some.inj h
  exact jb_mask [true, true, true, false] rfl hK
set_option maxRecDepth 20000 in
theorem zg_20_H7 {Γ : jb_G} {L : Nat} {d : Nat} (hd : 4 ≤ d) (x1 : Int32) (N : jb_Ml) (s : Int32 × jb_Mi) {v : Option Value} {σ2 : jb_S} {r : ((Int32 × jb_Mi) ⊕ (jb_Mi))} (h : zf_20_H7 x1 s = some r) (hK : (jb_K (fun s : Int32 × jb_Mi => jb_V Γ d zq_20 7 [some (.ref 64), some (.int x1), some (.int s.1), none] [] (zE L, s.2, N) v σ2) (fun r : jb_Mi => v = none ∧ σ2 = (zE L, r, N))) r) : jb_V Γ d zq_20 7 [some (.ref 64), some (.int x1), some (.int s.1), none] [] (zE L, s.2, N) v σ2 := by
  obtain ⟨d, rfl⟩ : ∃ e, d = e + 1 := ⟨d - 1, by omega⟩
  unfold zf_20_H7 at h
  refine jb_seg 3 (pc' := (if s.1 < 4 then 12 else 74)) (ls' := [some (.ref 64), some (.int x1), some (.int s.1), none]) (st' := []) (σ' := (zE L, s.2, N)) (G := []) rfl trivial ?_
  refine jb_ite (fun c => ?_) (fun c => ?_)
  · replace h := (if_pos c).symm.trans h
    refine jb_seg 9 (pc' := 25) (ls' := [some (.ref 64), some (.int x1), some (.int s.1), none]) (st' := [(.ref 4), (.int ((x1 * 4) + s.1)), (.ref 41)]) (σ' := (zE L, s.2, N)) (G := []) rfl trivial ?_
    refine jb_callV (q' := zq_14) (As := []) (rest := [(.int ((x1 * 4) + s.1)), (.ref 41)]) (σ1 := (zE L, s.2, N)) (v := some (.int (zf_14 4 s.2))) rfl rfl zp_14 rfl (Nat.le_of_ble_eq_true rfl) (jb_cat rfl) (Nat.le_of_ble_eq_true rfl) (Nat.le_of_ble_eq_true rfl) (Or.inl rfl) rfl (ze_14 4 s.2 N (by decide) rfl) ?_
    obtain ⟨q2, h2, h⟩ := jb_bd_of h
    refine jb_callV (q' := zq_19) (As := [(.int ((x1 * 4) + s.1)), (.int (zf_14 4 s.2))]) (rest := []) (σ1 := (zE L, s.2, N)) (v := some (.int q2)) rfl rfl zp_19 rfl (Nat.le_of_ble_eq_true rfl) (jb_cat rfl) (Nat.le_of_ble_eq_true rfl) (Nat.le_of_ble_eq_true rfl) (Or.inl rfl) rfl (ze_19 (by omega) ((x1 * 4) + s.1) (zf_14 4 s.2) s.2 N h2) ?_
    obtain ⟨g3, h⟩ := jb_gd_of h
    refine jb_seg 9 (pc' := 44) (ls' := [some (.ref 64), some (.int x1), some (.int s.1), some (.int q2)]) (st' := [(.int q2), (.ref 4), (.int (s.2 65 (s.1).toNatClampNeg)), (.int s.1), (.ref 65)]) (σ' := (zE L, s.2, N)) (G := [vp_in s.1 4]) rfl g3 ?_
    obtain ⟨q4, h4, h⟩ := jb_bd_of h
    refine jb_callV (q' := zq_18) (As := [(.int q2)]) (rest := [(.int (s.2 65 (s.1).toNatClampNeg)), (.int s.1), (.ref 65)]) (σ1 := (zE L, s.2, N)) (v := some (.int (jb_b2i q4))) rfl rfl zp_18 rfl (Nat.le_of_ble_eq_true rfl) (jb_cat rfl) (Nat.le_of_ble_eq_true rfl) (Nat.le_of_ble_eq_true rfl) (Or.inl rfl) rfl (ze_18 4 q2 s.2 N (by decide) h4) ?_
    refine jb_seg 1 (pc' := (if (jb_b2i q4) = 0 then 65 else 50)) (ls' := [some (.ref 64), some (.int x1), some (.int s.1), some (.int q2)]) (st' := [(.int (s.2 65 (s.1).toNatClampNeg)), (.int s.1), (.ref 65)]) (σ' := (zE L, s.2, N)) (G := []) rfl trivial ?_
    refine jb_ite (fun c => ?_) (fun c => ?_)
    · replace h := (if_pos c).symm.trans h
      refine jb_seg 1 (pc' := 66) (ls' := [some (.ref 64), some (.int x1), some (.int s.1), some (.int q2)]) (st' := [(.int 0), (.int (s.2 65 (s.1).toNatClampNeg)), (.int s.1), (.ref 65)]) (σ' := (zE L, s.2, N)) (G := []) rfl trivial ?_
      exact jb_mask [true, true, true, false] rfl (zg_20_J66 hd x1 s.1 s.1 (s.2 65 (s.1).toNatClampNeg) 0 s.2 N h hK)
    · replace h := (if_neg c).symm.trans h
      obtain ⟨g6, h⟩ := jb_gd_of h
      refine jb_seg 8 (pc' := 66) (ls' := [some (.ref 64), some (.int x1), some (.int s.1), some (.int q2)]) (st' := [(.int (64 * (s.2 12 q2.toNatClampNeg))), (.int (s.2 65 (s.1).toNatClampNeg)), (.int s.1), (.ref 65)]) (σ' := (zE L, s.2, N)) (G := [vp_in q2 16]) rfl g6 ?_
      exact jb_mask [true, true, true, false] rfl (zg_20_J66 hd x1 s.1 s.1 (s.2 65 (s.1).toNatClampNeg) (64 * (s.2 12 q2.toNatClampNeg)) s.2 N h hK)
  · replace h := (if_neg c).symm.trans h
    obtain rfl := Option.some.inj h
    obtain ⟨rfl, rfl⟩ := hK
    exact jb_retv rfl rfl
theorem zg_20_H7L {Γ : jb_G} {L : Nat} {d : Nat} (hd : 4 ≤ d) (x1 : Int32) (N : jb_Ml) {v : Option Value} {σ2 : jb_S} {s : Int32 × jb_Mi} {r : (jb_Mi)} (h : jb_lp (zf_20_H7 x1) s = some r) (hK : (fun r : jb_Mi => v = none ∧ σ2 = (zE L, r, N)) r) : jb_V Γ d zq_20 7 [some (.ref 64), some (.int x1), some (.int s.1), none] [] (zE L, s.2, N) v σ2 := by
  exact @jb_lp_ind (Int32 × jb_Mi) ((jb_Mi)) (zf_20_H7 x1) (fun s => jb_V Γ d zq_20 7 [some (.ref 64), some (.int x1), some (.int s.1), none] [] (zE L, s.2, N) v σ2) (fun r : jb_Mi => v = none ∧ σ2 = (zE L, r, N)) (fun s r h hk => zg_20_H7 hd x1 N s h hk) s r h hK
set_option maxRecDepth 20000 in
theorem zg_20 {Γ : jb_G} {L : Nat} {d : Nat} (hd : 4 ≤ d) (x1 : Int32) (M : jb_Mi) (N : jb_Ml) {v : Option Value} {σ2 : jb_S} {r : (jb_Mi)} (h : zf_20 x1 M = some r) (hK : (fun r : jb_Mi => v = none ∧ σ2 = (zE L, r, N)) r) : jb_V Γ d zq_20 0 [some (.ref 64), some (.int x1), none, none] [] (zE L, M, N) v σ2 := by
  obtain ⟨d, rfl⟩ : ∃ e, d = e + 1 := ⟨d - 1, by omega⟩
  unfold zf_20 at h
  refine jb_seg 2 (pc' := 2) (ls' := [some (.ref 64), some (.int x1), none, none]) (st' := [(.int x1), (.ref 64)]) (σ' := (zE L, M, N)) (G := []) rfl trivial ?_
  obtain ⟨q1, h1, h⟩ := jb_bd_of h
  refine jb_callV (q' := zq_8) (As := [(.int x1)]) (rest := []) (σ1 := (zE L, q1, N)) (v := none) rfl rfl zp_8 rfl (Nat.le_of_ble_eq_true rfl) (jb_cat rfl) (Nat.le_of_ble_eq_true rfl) (Nat.le_of_ble_eq_true rfl) (Or.inl rfl) rfl (ze_8 (by omega) x1 M N h1) ?_
  refine jb_seg 2 (pc' := 7) (ls' := [some (.ref 64), some (.int x1), some (.int 0), none]) (st' := []) (σ' := (zE L, q1, N)) (G := []) rfl trivial ?_
  exact jb_mask [true, true, true, false] rfl (zg_20_H7L hd x1 N h hK)
theorem ze_20 {Γ : jb_G} {L : Nat} {d : Nat} (hd : 4 ≤ d) (x1 : Int32) (M : jb_Mi) (N : jb_Ml) {r : (jb_Mi)} (h : zf_20 x1 M = some r) : jb_V Γ d zq_20 0 (jb_en 4 [(.ref 64), (.int x1)]) [] (zE L, M, N) (none) (zE L, r, N) := zg_20 hd x1 M N h ⟨rfl, rfl⟩
-- X0_splitThings
set_option maxRecDepth 20000 in
theorem zg_21_J67 {Γ : jb_G} {L : Nat} {d : Nat} (hd : 2 ≤ d) (x1 : Int32) (x2 : Int32) (x3 : Int32) (M : jb_Mi) (N : jb_Ml) {v : Option Value} {σ2 : jb_S} {r : ((Int32 × Int32 × jb_Mi) ⊕ (jb_Mi))} (h : zf_21_J67 x1 x2 x3 M = some r) (hK : (jb_K (fun s : Int32 × Int32 × jb_Mi => jb_V Γ d zq_21 4 [some (.ref 64), some (.int x1), some (.int s.1), some (.int s.2.1), none] [] (zE L, s.2.2, N) v σ2) (fun r : jb_Mi => v = none ∧ σ2 = (zE L, r, N))) r) : jb_V Γ d zq_21 67 [some (.ref 64), some (.int x1), some (.int x2), some (.int x3), none] [] (zE L, M, N) v σ2 := by
  obtain ⟨d, rfl⟩ : ∃ e, d = e + 1 := ⟨d - 1, by omega⟩
  unfold zf_21_J67 at h
  refine jb_seg 2 (pc' := 4) (ls' := [some (.ref 64), some (.int x1), some (.int x2), some (.int (x3 + 1)), none]) (st' := []) (σ' := (zE L, M, N)) (G := []) rfl trivial ?_
  obtain rfl := Option.some.inj h
  exact jb_mask [true, true, true, true, false] rfl hK
set_option maxRecDepth 20000 in
theorem zg_21_H31 {Γ : jb_G} {L : Nat} {d : Nat} (hd : 2 ≤ d) (x1 : Int32) (x2 : Int32) (x3 : Int32) (N : jb_Ml) (s : Int32 × jb_Mi) {v : Option Value} {σ2 : jb_S} {r : ((Int32 × jb_Mi) ⊕ ((Int32 × Int32 × jb_Mi) ⊕ (jb_Mi)))} (h : zf_21_H31 x1 x2 x3 s = some r) (hK : (jb_K (fun s : Int32 × jb_Mi => jb_V Γ d zq_21 31 [some (.ref 64), some (.int x1), some (.int x2), some (.int x3), some (.int s.1)] [] (zE L, s.2, N) v σ2) (jb_K (fun s : Int32 × Int32 × jb_Mi => jb_V Γ d zq_21 4 [some (.ref 64), some (.int x1), some (.int s.1), some (.int s.2.1), none] [] (zE L, s.2.2, N) v σ2) (fun r : jb_Mi => v = none ∧ σ2 = (zE L, r, N)))) r) : jb_V Γ d zq_21 31 [some (.ref 64), some (.int x1), some (.int x2), some (.int x3), some (.int s.1)] [] (zE L, s.2, N) v σ2 := by
  obtain ⟨d, rfl⟩ : ∃ e, d = e + 1 := ⟨d - 1, by omega⟩
  unfold zf_21_H31 at h
  refine jb_seg 3 (pc' := (if s.1 < 4 then 37 else 64)) (ls' := [some (.ref 64), some (.int x1), some (.int x2), some (.int x3), some (.int s.1)]) (st' := []) (σ' := (zE L, s.2, N)) (G := []) rfl trivial ?_
  refine jb_ite (fun c => ?_) (fun c => ?_)
  · replace h := (if_pos c).symm.trans h
    refine jb_seg 11 (pc' := 54) (ls' := [some (.ref 64), some (.int x1), some (.int x2), some (.int x3), some (.int s.1)]) (st' := [(.int s.1), (.int x3), (.ref 4), (.int ((x2 * 4) + s.1)), (.ref 67)]) (σ' := (zE L, s.2, N)) (G := []) rfl trivial ?_
    obtain ⟨q2, h2, h⟩ := jb_bd_of h
    refine jb_callV (q' := zq_6) (As := [(.int x3), (.int s.1)]) (rest := [(.int ((x2 * 4) + s.1)), (.ref 67)]) (σ1 := (zE L, s.2, N)) (v := some (.int q2)) rfl rfl zp_6 rfl (Nat.le_of_ble_eq_true rfl) (jb_cat rfl) (Nat.le_of_ble_eq_true rfl) (Nat.le_of_ble_eq_true rfl) (Or.inl rfl) rfl (ze_6 (by omega) 4 x3 s.1 s.2 N (by decide) h2) ?_
    obtain ⟨g3, h⟩ := jb_gd_of h
    refine jb_seg 3 (pc' := 31) (ls' := [some (.ref 64), some (.int x1), some (.int x2), some (.int x3), some (.int (s.1 + 1))]) (st' := []) (σ' := (zE L, (jb_up s.2 67 (((x2 * 4) + s.1)).toNatClampNeg q2), N)) (G := [vp_in ((x2 * 4) + s.1) 48]) rfl g3 ?_
    obtain rfl := Option.some.inj h
    exact jb_mask [true, true, true, true, true] rfl hK
  · replace h := (if_neg c).symm.trans h
    refine jb_seg 1 (pc' := 67) (ls' := [some (.ref 64), some (.int x1), some (.int (x2 + 1)), some (.int x3), some (.int s.1)]) (st' := []) (σ' := (zE L, s.2, N)) (G := []) rfl trivial ?_
    obtain ⟨y0, hy0, rfl⟩ := jb_mp_of h
    exact jb_mask [true, true, true, true, false] rfl (zg_21_J67 hd x1 (x2 + 1) x3 s.2 N hy0 hK)
theorem zg_21_H31L {Γ : jb_G} {L : Nat} {d : Nat} (hd : 2 ≤ d) (x1 : Int32) (x2 : Int32) (x3 : Int32) (N : jb_Ml) {v : Option Value} {σ2 : jb_S} {s : Int32 × jb_Mi} {r : ((Int32 × Int32 × jb_Mi) ⊕ (jb_Mi))} (h : jb_lp (zf_21_H31 x1 x2 x3) s = some r) (hK : (jb_K (fun s : Int32 × Int32 × jb_Mi => jb_V Γ d zq_21 4 [some (.ref 64), some (.int x1), some (.int s.1), some (.int s.2.1), none] [] (zE L, s.2.2, N) v σ2) (fun r : jb_Mi => v = none ∧ σ2 = (zE L, r, N))) r) : jb_V Γ d zq_21 31 [some (.ref 64), some (.int x1), some (.int x2), some (.int x3), some (.int s.1)] [] (zE L, s.2, N) v σ2 := by
  exact @jb_lp_ind (Int32 × jb_Mi) (((Int32 × Int32 × jb_Mi) ⊕ (jb_Mi))) (zf_21_H31 x1 x2 x3) (fun s => jb_V Γ d zq_21 31 [some (.ref 64), some (.int x1), some (.int x2), some (.int x3), some (.int s.1)] [] (zE L, s.2, N) v σ2) (jb_K (fun s : Int32 × Int32 × jb_Mi => jb_V Γ d zq_21 4 [some (.ref 64), some (.int x1), some (.int s.1), some (.int s.2.1), none] [] (zE L, s.2.2, N) v σ2) (fun r : jb_Mi => v = none ∧ σ2 = (zE L, r, N))) (fun s r h hk => zg_21_H31 hd x1 x2 x3 N s h hk) s r h hK
set_option maxRecDepth 20000 in
theorem zg_21_H4 {Γ : jb_G} {L : Nat} {d : Nat} (hd : 2 ≤ d) (x1 : Int32) (N : jb_Ml) (s : Int32 × Int32 × jb_Mi) {v : Option Value} {σ2 : jb_S} {r : ((Int32 × Int32 × jb_Mi) ⊕ (jb_Mi))} (h : zf_21_H4 x1 s = some r) (hK : (jb_K (fun s : Int32 × Int32 × jb_Mi => jb_V Γ d zq_21 4 [some (.ref 64), some (.int x1), some (.int s.1), some (.int s.2.1), none] [] (zE L, s.2.2, N) v σ2) (fun r : jb_Mi => v = none ∧ σ2 = (zE L, r, N))) r) : jb_V Γ d zq_21 4 [some (.ref 64), some (.int x1), some (.int s.1), some (.int s.2.1), none] [] (zE L, s.2.2, N) v σ2 := by
  obtain ⟨d, rfl⟩ : ∃ e, d = e + 1 := ⟨d - 1, by omega⟩
  unfold zf_21_H4 at h
  refine jb_seg 3 (pc' := (if s.2.1 < 24 then 10 else 73)) (ls' := [some (.ref 64), some (.int x1), some (.int s.1), some (.int s.2.1), none]) (st' := []) (σ' := (zE L, s.2.2, N)) (G := []) rfl trivial ?_
  refine jb_ite (fun c => ?_) (fun c => ?_)
  · replace h := (if_pos c).symm.trans h
    refine jb_seg 4 (pc' := 16) (ls' := [some (.ref 64), some (.int x1), some (.int s.1), some (.int s.2.1), none]) (st' := [(.int x1), (.int s.2.1), (.ref 4)]) (σ' := (zE L, s.2.2, N)) (G := []) rfl trivial ?_
    obtain ⟨q1, h1, h⟩ := jb_bd_of h
    refine jb_callV (q' := zq_4) (As := [(.int s.2.1), (.int x1)]) (rest := []) (σ1 := (zE L, s.2.2, N)) (v := some (.int (jb_b2i q1))) rfl rfl zp_4 rfl (Nat.le_of_ble_eq_true rfl) (jb_cat rfl) (Nat.le_of_ble_eq_true rfl) (Nat.le_of_ble_eq_true rfl) (Or.inl rfl) rfl (ze_4 (by omega) 4 s.2.1 x1 s.2.2 N (by decide) h1) ?_
    refine jb_seg 1 (pc' := (if (jb_b2i q1) = 0 then 67 else 22)) (ls' := [some (.ref 64), some (.int x1), some (.int s.1), some (.int s.2.1), none]) (st' := []) (σ' := (zE L, s.2.2, N)) (G := []) rfl trivial ?_
    refine jb_ite (fun c => ?_) (fun c => ?_)
    · replace h := (if_pos c).symm.trans h
      exact jb_mask [true, true, true, true, false] rfl (zg_21_J67 hd x1 s.1 s.2.1 s.2.2 N h hK)
    · replace h := (if_neg c).symm.trans h
      refine jb_seg 3 (pc' := (if s.1 < 12 then 28 else 67)) (ls' := [some (.ref 64), some (.int x1), some (.int s.1), some (.int s.2.1), none]) (st' := []) (σ' := (zE L, s.2.2, N)) (G := []) rfl trivial ?_
      refine jb_ite (fun c => ?_) (fun c => ?_)
      · replace h := (if_pos c).symm.trans h
        refine jb_seg 2 (pc' := 31) (ls' := [some (.ref 64), some (.int x1), some (.int s.1), some (.int s.2.1), some (.int 0)]) (st' := []) (σ' := (zE L, s.2.2, N)) (G := []) rfl trivial ?_
        exact jb_mask [true, true, true, true, true] rfl (zg_21_H31L hd x1 s.1 s.2.1 N h hK)
      · replace h := (if_neg c).symm.trans h
        exact jb_mask [true, true, true, true, false] rfl (zg_21_J67 hd x1 s.1 s.2.1 s.2.2 N h hK)
  · replace h := (if_neg c).symm.trans h
    obtain rfl := Option.some.inj h
    obtain ⟨rfl, rfl⟩ := hK
    exact jb_retv rfl rfl
theorem zg_21_H4L {Γ : jb_G} {L : Nat} {d : Nat} (hd : 2 ≤ d) (x1 : Int32) (N : jb_Ml) {v : Option Value} {σ2 : jb_S} {s : Int32 × Int32 × jb_Mi} {r : (jb_Mi)} (h : jb_lp (zf_21_H4 x1) s = some r) (hK : (fun r : jb_Mi => v = none ∧ σ2 = (zE L, r, N)) r) : jb_V Γ d zq_21 4 [some (.ref 64), some (.int x1), some (.int s.1), some (.int s.2.1), none] [] (zE L, s.2.2, N) v σ2 := by
  exact @jb_lp_ind (Int32 × Int32 × jb_Mi) ((jb_Mi)) (zf_21_H4 x1) (fun s => jb_V Γ d zq_21 4 [some (.ref 64), some (.int x1), some (.int s.1), some (.int s.2.1), none] [] (zE L, s.2.2, N) v σ2) (fun r : jb_Mi => v = none ∧ σ2 = (zE L, r, N)) (fun s r h hk => zg_21_H4 hd x1 N s h hk) s r h hK
set_option maxRecDepth 20000 in
theorem zg_21 {Γ : jb_G} {L : Nat} {d : Nat} (hd : 2 ≤ d) (x1 : Int32) (M : jb_Mi) (N : jb_Ml) {v : Option Value} {σ2 : jb_S} {r : (jb_Mi)} (h : zf_21 x1 M = some r) (hK : (fun r : jb_Mi => v = none ∧ σ2 = (zE L, r, N)) r) : jb_V Γ d zq_21 0 [some (.ref 64), some (.int x1), none, none, none] [] (zE L, M, N) v σ2 := by
  obtain ⟨d, rfl⟩ : ∃ e, d = e + 1 := ⟨d - 1, by omega⟩
  unfold zf_21 at h
  refine jb_seg 4 (pc' := 4) (ls' := [some (.ref 64), some (.int x1), some (.int 0), some (.int 0), none]) (st' := []) (σ' := (zE L, M, N)) (G := []) rfl trivial ?_
  exact jb_mask [true, true, true, true, false] rfl (zg_21_H4L hd x1 N h hK)
theorem ze_21 {Γ : jb_G} {L : Nat} {d : Nat} (hd : 2 ≤ d) (x1 : Int32) (M : jb_Mi) (N : jb_Ml) {r : (jb_Mi)} (h : zf_21 x1 M = some r) : jb_V Γ d zq_21 0 (jb_en 5 [(.ref 64), (.int x1)]) [] (zE L, M, N) (none) (zE L, r, N) := zg_21 hd x1 M N h ⟨rfl, rfl⟩
-- J6_numberOfTrailingZeros_0f7a4
set_option maxRecDepth 20000 in
theorem zg_22_J74 {Γ : jb_G} {L : Nat} {d : Nat} (x0 : Int32) (x1 : Int32) (M : jb_Mi) (N : jb_Ml) {v : Option Value} {σ2 : jb_S} {r : Int32} (h : zf_22_J74 x0 x1 = r) (hK : (fun r : Int32 => v = some (.int r) ∧ σ2 = (zE L, M, N)) r) : jb_V Γ d zq_22 74 [some (.int x0), some (.int x1)] [] (zE L, M, N) v σ2 := by
  unfold zf_22_J74 at h
  refine jb_seg 5 (pc' := 79) (ls' := [some (.int x0), some (.int x1)]) (st' := [(.int (x1 + ((x0 : Int32).toUInt32 >>> ((1 : Int32).toUInt32 &&& Int32.toUInt32 31)).toInt32))]) (σ' := (zE L, M, N)) (G := []) rfl trivial ?_
  subst h
  obtain ⟨rfl, rfl⟩ := hK
  exact jb_reti rfl rfl
set_option maxRecDepth 20000 in
theorem zg_22_J62 {Γ : jb_G} {L : Nat} {d : Nat} (x0 : Int32) (x1 : Int32) (M : jb_Mi) (N : jb_Ml) {v : Option Value} {σ2 : jb_S} {r : Int32} (h : zf_22_J62 x0 x1 = r) (hK : (fun r : Int32 => v = some (.int r) ∧ σ2 = (zE L, M, N)) r) : jb_V Γ d zq_22 62 [some (.int x0), some (.int x1)] [] (zE L, M, N) v σ2 := by
  unfold zf_22_J62 at h
  refine jb_seg 3 (pc' := (if 4 < x0 then 67 else 74)) (ls' := [some (.int x0), some (.int x1)]) (st' := []) (σ' := (zE L, M, N)) (G := []) rfl trivial ?_
  refine jb_ite (fun c => ?_) (fun c => ?_)
  · replace h := (if_pos c).symm.trans h
    refine jb_seg 5 (pc' := 74) (ls' := [some (.int ((x0 : Int32).toUInt32 >>> ((2 : Int32).toUInt32 &&& Int32.toUInt32 31)).toInt32), some (.int (x1 + 2))]) (st' := []) (σ' := (zE L, M, N)) (G := []) rfl trivial ?_
    exact jb_mask [true, true] rfl (zg_22_J74 (((x0 : Int32).toUInt32 >>> ((2 : Int32).toUInt32 &&& Int32.toUInt32 31)).toInt32) (x1 + 2) M N h hK)
  · replace h := (if_neg c).symm.trans h
    exact jb_mask [true, true] rfl (zg_22_J74 x0 x1 M N h hK)
set_option maxRecDepth 20000 in
theorem zg_22_J49 {Γ : jb_G} {L : Nat} {d : Nat} (x0 : Int32) (x1 : Int32) (M : jb_Mi) (N : jb_Ml) {v : Option Value} {σ2 : jb_S} {r : Int32} (h : zf_22_J49 x0 x1 = r) (hK : (fun r : Int32 => v = some (.int r) ∧ σ2 = (zE L, M, N)) r) : jb_V Γ d zq_22 49 [some (.int x0), some (.int x1)] [] (zE L, M, N) v σ2 := by
  unfold zf_22_J49 at h
  refine jb_seg 3 (pc' := (if 16 < x0 then 55 else 62)) (ls' := [some (.int x0), some (.int x1)]) (st' := []) (σ' := (zE L, M, N)) (G := []) rfl trivial ?_
  refine jb_ite (fun c => ?_) (fun c => ?_)
  · replace h := (if_pos c).symm.trans h
    refine jb_seg 5 (pc' := 62) (ls' := [some (.int ((x0 : Int32).toUInt32 >>> ((4 : Int32).toUInt32 &&& Int32.toUInt32 31)).toInt32), some (.int (x1 + 4))]) (st' := []) (σ' := (zE L, M, N)) (G := []) rfl trivial ?_
    exact jb_mask [true, true] rfl (zg_22_J62 (((x0 : Int32).toUInt32 >>> ((4 : Int32).toUInt32 &&& Int32.toUInt32 31)).toInt32) (x1 + 4) M N h hK)
  · replace h := (if_neg c).symm.trans h
    exact jb_mask [true, true] rfl (zg_22_J62 x0 x1 M N h hK)
set_option maxRecDepth 20000 in
theorem zg_22_J34 {Γ : jb_G} {L : Nat} {d : Nat} (x0 : Int32) (x1 : Int32) (M : jb_Mi) (N : jb_Ml) {v : Option Value} {σ2 : jb_S} {r : Int32} (h : zf_22_J34 x0 x1 = r) (hK : (fun r : Int32 => v = some (.int r) ∧ σ2 = (zE L, M, N)) r) : jb_V Γ d zq_22 34 [some (.int x0), some (.int x1)] [] (zE L, M, N) v σ2 := by
  unfold zf_22_J34 at h
  refine jb_seg 3 (pc' := (if 256 < x0 then 41 else 49)) (ls' := [some (.int x0), some (.int x1)]) (st' := []) (σ' := (zE L, M, N)) (G := []) rfl trivial ?_
  refine jb_ite (fun c => ?_) (fun c => ?_)
  · replace h := (if_pos c).symm.trans h
    refine jb_seg 5 (pc' := 49) (ls' := [some (.int ((x0 : Int32).toUInt32 >>> ((8 : Int32).toUInt32 &&& Int32.toUInt32 31)).toInt32), some (.int (x1 + 8))]) (st' := []) (σ' := (zE L, M, N)) (G := []) rfl trivial ?_
    exact jb_mask [true, true] rfl (zg_22_J49 (((x0 : Int32).toUInt32 >>> ((8 : Int32).toUInt32 &&& Int32.toUInt32 31)).toInt32) (x1 + 8) M N h hK)
  · replace h := (if_neg c).symm.trans h
    exact jb_mask [true, true] rfl (zg_22_J49 x0 x1 M N h hK)
set_option maxRecDepth 20000 in
theorem zg_22 {Γ : jb_G} {L : Nat} {d : Nat} (x0 : Int32) (M : jb_Mi) (N : jb_Ml) {v : Option Value} {σ2 : jb_S} {r : Int32} (h : zf_22 x0 = r) (hK : (fun r : Int32 => v = some (.int r) ∧ σ2 = (zE L, M, N)) r) : jb_V Γ d zq_22 0 [some (.int x0), none] [] (zE L, M, N) v σ2 := by
  unfold zf_22 at h
  refine jb_seg 10 (pc' := (if 0 < ((x0 ^^^ (-1)) &&& (x0 - 1)) then 17 else 12)) (ls' := [some (.int ((x0 ^^^ (-1)) &&& (x0 - 1))), none]) (st' := []) (σ' := (zE L, M, N)) (G := []) rfl trivial ?_
  refine jb_ite (fun c => ?_) (fun c => ?_)
  · replace h := (if_pos c).symm.trans h
    refine jb_seg 5 (pc' := (if 65536 < ((x0 ^^^ (-1)) &&& (x0 - 1)) then 26 else 34)) (ls' := [some (.int ((x0 ^^^ (-1)) &&& (x0 - 1))), some (.int 1)]) (st' := []) (σ' := (zE L, M, N)) (G := []) rfl trivial ?_
    refine jb_ite (fun c => ?_) (fun c => ?_)
    · replace h := (if_pos c).symm.trans h
      refine jb_seg 5 (pc' := 34) (ls' := [some (.int ((((x0 ^^^ (-1)) &&& (x0 - 1)) : Int32).toUInt32 >>> ((16 : Int32).toUInt32 &&& Int32.toUInt32 31)).toInt32), some (.int (1 + 16))]) (st' := []) (σ' := (zE L, M, N)) (G := []) rfl trivial ?_
      exact jb_mask [true, true] rfl (zg_22_J34 (((((x0 ^^^ (-1)) &&& (x0 - 1)) : Int32).toUInt32 >>> ((16 : Int32).toUInt32 &&& Int32.toUInt32 31)).toInt32) (1 + 16) M N h hK)
    · replace h := (if_neg c).symm.trans h
      exact jb_mask [true, true] rfl (zg_22_J34 ((x0 ^^^ (-1)) &&& (x0 - 1)) 1 M N h hK)
  · replace h := (if_neg c).symm.trans h
    refine jb_seg 3 (pc' := 16) (ls' := [some (.int ((x0 ^^^ (-1)) &&& (x0 - 1))), none]) (st' := [(.int (((x0 ^^^ (-1)) &&& (x0 - 1)) &&& 32))]) (σ' := (zE L, M, N)) (G := []) rfl trivial ?_
    subst h
    obtain ⟨rfl, rfl⟩ := hK
    exact jb_reti rfl rfl
theorem ze_22 {Γ : jb_G} {L : Nat} {d : Nat} (x0 : Int32) (M : jb_Mi) (N : jb_Ml) {r : Int32} (h : zf_22 x0 = r) : jb_V Γ d zq_22 0 (jb_en 2 [(.int x0)]) [] (zE L, M, N) (some (.int r)) (zE L, M, N) := zg_22 x0 M N h ⟨rfl, rfl⟩
-- X12_within
set_option maxRecDepth 20000 in
theorem zg_23 {Γ : jb_G} {L : Nat} {d : Nat} (x0 : Int32) (x1 : Int32) (x2 : Int32) (M : jb_Mi) (N : jb_Ml) {v : Option Value} {σ2 : jb_S} {r : Bool} (h : zf_23 x0 x1 x2 = r) (hK : (fun r : Bool => v = some (.int (jb_b2i r)) ∧ σ2 = (zE L, M, N)) r) : jb_V Γ d zq_23 0 [some (.int x0), some (.int x1), some (.int x2)] [] (zE L, M, N) v σ2 := by
  unfold zf_23 at h
  refine jb_seg 3 (pc' := (if x0 < x1 then 14 else 5)) (ls' := [some (.int x0), some (.int x1), some (.int x2)]) (st' := []) (σ' := (zE L, M, N)) (G := []) rfl trivial ?_
  refine jb_ite (fun c => ?_) (fun c => ?_)
  · replace h := (if_pos c).symm.trans h
    refine jb_seg 1 (pc' := 15) (ls' := [some (.int x0), some (.int x1), some (.int x2)]) (st' := [(.int 0)]) (σ' := (zE L, M, N)) (G := []) rfl trivial ?_
    subst h
    obtain ⟨rfl, rfl⟩ := hK
    exact jb_retz (by decide) rfl rfl
  · replace h := (if_neg c).symm.trans h
    refine jb_seg 3 (pc' := (if x2 < x0 then 14 else 10)) (ls' := [some (.int x0), some (.int x1), some (.int x2)]) (st' := []) (σ' := (zE L, M, N)) (G := []) rfl trivial ?_
    refine jb_ite (fun c => ?_) (fun c => ?_)
    · replace h := (if_pos c).symm.trans h
      refine jb_seg 1 (pc' := 15) (ls' := [some (.int x0), some (.int x1), some (.int x2)]) (st' := [(.int 0)]) (σ' := (zE L, M, N)) (G := []) rfl trivial ?_
      subst h
      obtain ⟨rfl, rfl⟩ := hK
      exact jb_retz (by decide) rfl rfl
    · replace h := (if_neg c).symm.trans h
      refine jb_seg 2 (pc' := 15) (ls' := [some (.int x0), some (.int x1), some (.int x2)]) (st' := [(.int 1)]) (σ' := (zE L, M, N)) (G := []) rfl trivial ?_
      subst h
      obtain ⟨rfl, rfl⟩ := hK
      exact jb_retz (by decide) rfl rfl
theorem ze_23 {Γ : jb_G} {L : Nat} {d : Nat} (x0 : Int32) (x1 : Int32) (x2 : Int32) (M : jb_Mi) (N : jb_Ml) {r : Bool} (h : zf_23 x0 x1 x2 = r) : jb_V Γ d zq_23 0 (jb_en 3 [(.int x0), (.int x1), (.int x2)]) [] (zE L, M, N) (some (.int (jb_b2i r))) (zE L, M, N) := zg_23 x0 x1 x2 M N h ⟨rfl, rfl⟩
-- X0_shift
set_option maxRecDepth 20000 in
theorem zg_24_H13 {Γ : jb_G} {L : Nat} {d : Nat} (hd : 1 ≤ d) (x1 : Int32) (x2 : Int32) (N : jb_Ml) (s : Int32 × jb_Mi) {v : Option Value} {σ2 : jb_S} {r : ((Int32 × jb_Mi) ⊕ (jb_Mi))} (h : zf_24_H13 x1 x2 s = some r) (hK : (jb_K (fun s : Int32 × jb_Mi => jb_V Γ d zq_24 13 [some (.ref 64), some (.int x1), some (.int x2), some (.int s.1)] [] (zE L, s.2, N) v σ2) (fun r : jb_Mi => v = none ∧ σ2 = (zE L, r, N))) r) : jb_V Γ d zq_24 13 [some (.ref 64), some (.int x1), some (.int x2), some (.int s.1)] [] (zE L, s.2, N) v σ2 := by
  obtain ⟨d, rfl⟩ : ∃ e, d = e + 1 := ⟨d - 1, by omega⟩
  unfold zf_24_H13 at h
  refine jb_seg 3 (pc' := (if s.1 < 4 then 18 else 45)) (ls' := [some (.ref 64), some (.int x1), some (.int x2), some (.int s.1)]) (st' := []) (σ' := (zE L, s.2, N)) (G := []) rfl trivial ?_
  refine jb_ite (fun c => ?_) (fun c => ?_)
  · replace h := (if_pos c).symm.trans h
    obtain ⟨g1, h⟩ := jb_gd_of h
    obtain ⟨g2, h⟩ := jb_gd_of h
    obtain ⟨g3, h⟩ := jb_gd_of h
    refine jb_seg 19 (pc' := 13) (ls' := [some (.ref 64), some (.int x1), some (.int x2), some (.int (s.1 + 1))]) (st' := []) (σ' := (zE L, (jb_up s.2 65 (s.1).toNatClampNeg ((s.2 65 (s.1).toNatClampNeg) + (x2 * (s.2 67 (((x1 * 4) + s.1)).toNatClampNeg)))), N)) (G := [vp_in s.1 4, vp_in ((x1 * 4) + s.1) 48, vp_in s.1 4]) rfl ⟨g1, g2, g3⟩ ?_
    obtain rfl := Option.some.inj h
    exact jb_mask [true, true, true, true] rfl hK
  · replace h := (if_neg c).symm.trans h
    obtain rfl := Option.some.inj h
    obtain ⟨rfl, rfl⟩ := hK
    exact jb_retv rfl rfl
theorem zg_24_H13L {Γ : jb_G} {L : Nat} {d : Nat} (hd : 1 ≤ d) (x1 : Int32) (x2 : Int32) (N : jb_Ml) {v : Option Value} {σ2 : jb_S} {s : Int32 × jb_Mi} {r : (jb_Mi)} (h : jb_lp (zf_24_H13 x1 x2) s = some r) (hK : (fun r : jb_Mi => v = none ∧ σ2 = (zE L, r, N)) r) : jb_V Γ d zq_24 13 [some (.ref 64), some (.int x1), some (.int x2), some (.int s.1)] [] (zE L, s.2, N) v σ2 := by
  exact @jb_lp_ind (Int32 × jb_Mi) ((jb_Mi)) (zf_24_H13 x1 x2) (fun s => jb_V Γ d zq_24 13 [some (.ref 64), some (.int x1), some (.int x2), some (.int s.1)] [] (zE L, s.2, N) v σ2) (fun r : jb_Mi => v = none ∧ σ2 = (zE L, r, N)) (fun s r h hk => zg_24_H13 hd x1 x2 N s h hk) s r h hK
set_option maxRecDepth 20000 in
theorem zg_24 {Γ : jb_G} {L : Nat} {d : Nat} (hd : 1 ≤ d) (x1 : Int32) (x2 : Int32) (M : jb_Mi) (N : jb_Ml) {v : Option Value} {σ2 : jb_S} {r : (jb_Mi)} (h : zf_24 x1 x2 M = some r) (hK : (fun r : jb_Mi => v = none ∧ σ2 = (zE L, r, N)) r) : jb_V Γ d zq_24 0 [some (.ref 64), some (.int x1), some (.int x2), none] [] (zE L, M, N) v σ2 := by
  obtain ⟨d, rfl⟩ : ∃ e, d = e + 1 := ⟨d - 1, by omega⟩
  unfold zf_24 at h
  refine jb_seg 3 (pc' := 4) (ls' := [some (.ref 64), some (.int x1), some (.int x2), none]) (st' := [(.int 11), (.int 0), (.int x1)]) (σ' := (zE L, M, N)) (G := []) rfl trivial ?_
  refine jb_callS (q' := zq_23) (As := [(.int x1), (.int 0), (.int 11)]) (rest := []) (σ1 := (zE L, M, N)) (v := some (.int (jb_b2i (zf_23 x1 0 11)))) rfl (Nat.le_of_ble_eq_true rfl) rfl zp_23 (jb_cat rfl) (Nat.le_of_ble_eq_true rfl) (Nat.le_of_ble_eq_true rfl) (Or.inl rfl) rfl (ze_23 x1 0 11 M N rfl) ?_
  refine jb_seg 1 (pc' := (if (jb_b2i (zf_23 x1 0 11)) = 0 then 10 else 11)) (ls' := [some (.ref 64), some (.int x1), some (.int x2), none]) (st' := []) (σ' := (zE L, M, N)) (G := []) rfl trivial ?_
  refine jb_ite (fun c => ?_) (fun c => ?_)
  · replace h := (if_pos c).symm.trans h
    obtain rfl := Option.some.inj h
    obtain ⟨rfl, rfl⟩ := hK
    exact jb_retv rfl rfl
  · replace h := (if_neg c).symm.trans h
    refine jb_seg 2 (pc' := 13) (ls' := [some (.ref 64), some (.int x1), some (.int x2), some (.int 0)]) (st' := []) (σ' := (zE L, M, N)) (G := []) rfl trivial ?_
    exact jb_mask [true, true, true, true] rfl (zg_24_H13L hd x1 x2 N h hK)
theorem ze_24 {Γ : jb_G} {L : Nat} {d : Nat} (hd : 1 ≤ d) (x1 : Int32) (x2 : Int32) (M : jb_Mi) (N : jb_Ml) {r : (jb_Mi)} (h : zf_24 x1 x2 M = some r) : jb_V Γ d zq_24 0 (jb_en 4 [(.ref 64), (.int x1), (.int x2)]) [] (zE L, M, N) (none) (zE L, r, N) := zg_24 hd x1 x2 M N h ⟨rfl, rfl⟩
-- X0_isCarried
set_option maxRecDepth 20000 in
theorem zg_25 {Γ : jb_G} {L : Nat} {d : Nat} (M : jb_Mi) (N : jb_Ml) {v : Option Value} {σ2 : jb_S} {r : Bool} (h : zf_25 M = r) (hK : (fun r : Bool => v = some (.int (jb_b2i r)) ∧ σ2 = (zE L, M, N)) r) : jb_V Γ d zq_25 0 [some (.ref 64)] [] (zE L, M, N) v σ2 := by
  unfold zf_25 at h
  refine jb_seg 5 (pc' := (if 0 < (M 65 0) then 40 else 9)) (ls' := [some (.ref 64)]) (st' := []) (σ' := (zE L, M, N)) (G := [vp_in 0 4]) rfl (show vp_in 0 4 from (by unfold vp_in; decide)) ?_
  refine jb_ite (fun c => ?_) (fun c => ?_)
  · replace h := (if_pos c).symm.trans h
    refine jb_seg 1 (pc' := 41) (ls' := [some (.ref 64)]) (st' := [(.int 0)]) (σ' := (zE L, M, N)) (G := []) rfl trivial ?_
    subst h
    obtain ⟨rfl, rfl⟩ := hK
    exact jb_retz (by decide) rfl rfl
  · replace h := (if_neg c).symm.trans h
    refine jb_seg 5 (pc' := (if 0 < (M 65 1) then 40 else 18)) (ls' := [some (.ref 64)]) (st' := []) (σ' := (zE L, M, N)) (G := [vp_in 1 4]) rfl (show vp_in 1 4 from (by unfold vp_in; decide)) ?_
    refine jb_ite (fun c => ?_) (fun c => ?_)
    · replace h := (if_pos c).symm.trans h
      refine jb_seg 1 (pc' := 41) (ls' := [some (.ref 64)]) (st' := [(.int 0)]) (σ' := (zE L, M, N)) (G := []) rfl trivial ?_
      subst h
      obtain ⟨rfl, rfl⟩ := hK
      exact jb_retz (by decide) rfl rfl
    · replace h := (if_neg c).symm.trans h
      refine jb_seg 5 (pc' := (if 0 < (M 65 2) then 40 else 27)) (ls' := [some (.ref 64)]) (st' := []) (σ' := (zE L, M, N)) (G := [vp_in 2 4]) rfl (show vp_in 2 4 from (by unfold vp_in; decide)) ?_
      refine jb_ite (fun c => ?_) (fun c => ?_)
      · replace h := (if_pos c).symm.trans h
        refine jb_seg 1 (pc' := 41) (ls' := [some (.ref 64)]) (st' := [(.int 0)]) (σ' := (zE L, M, N)) (G := []) rfl trivial ?_
        subst h
        obtain ⟨rfl, rfl⟩ := hK
        exact jb_retz (by decide) rfl rfl
      · replace h := (if_neg c).symm.trans h
        refine jb_seg 5 (pc' := (if 0 < (M 65 3) then 40 else 36)) (ls' := [some (.ref 64)]) (st' := []) (σ' := (zE L, M, N)) (G := [vp_in 3 4]) rfl (show vp_in 3 4 from (by unfold vp_in; decide)) ?_
        refine jb_ite (fun c => ?_) (fun c => ?_)
        · replace h := (if_pos c).symm.trans h
          refine jb_seg 1 (pc' := 41) (ls' := [some (.ref 64)]) (st' := [(.int 0)]) (σ' := (zE L, M, N)) (G := []) rfl trivial ?_
          subst h
          obtain ⟨rfl, rfl⟩ := hK
          exact jb_retz (by decide) rfl rfl
        · replace h := (if_neg c).symm.trans h
          refine jb_seg 2 (pc' := 41) (ls' := [some (.ref 64)]) (st' := [(.int 1)]) (σ' := (zE L, M, N)) (G := []) rfl trivial ?_
          subst h
          obtain ⟨rfl, rfl⟩ := hK
          exact jb_retz (by decide) rfl rfl
theorem ze_25 {Γ : jb_G} {L : Nat} {d : Nat} (M : jb_Mi) (N : jb_Ml) {r : Bool} (h : zf_25 M = r) : jb_V Γ d zq_25 0 (jb_en 1 [(.ref 64)]) [] (zE L, M, N) (some (.int (jb_b2i r))) (zE L, M, N) := zg_25 M N h ⟨rfl, rfl⟩
-- J6_bitCount_0f7a4
set_option maxRecDepth 20000 in
theorem zg_26 {Γ : jb_G} {L : Nat} {d : Nat} (x0 : Int32) (M : jb_Mi) (N : jb_Ml) {v : Option Value} {σ2 : jb_S} {r : Int32} (h : zf_26 x0 = r) (hK : (fun r : Int32 => v = some (.int r) ∧ σ2 = (zE L, M, N)) r) : jb_V Γ d zq_26 0 [some (.int x0)] [] (zE L, M, N) v σ2 := by
  unfold zf_26 at h
  refine jb_seg 41 (pc' := 52) (ls' := [some (.int (((((((x0 - (((x0 : Int32).toUInt32 >>> ((1 : Int32).toUInt32 &&& Int32.toUInt32 31)).toInt32 &&& 1431655765)) &&& 858993459) + ((((x0 - (((x0 : Int32).toUInt32 >>> ((1 : Int32).toUInt32 &&& Int32.toUInt32 31)).toInt32 &&& 1431655765)) : Int32).toUInt32 >>> ((2 : Int32).toUInt32 &&& Int32.toUInt32 31)).toInt32 &&& 858993459)) + (((((x0 - (((x0 : Int32).toUInt32 >>> ((1 : Int32).toUInt32 &&& Int32.toUInt32 31)).toInt32 &&& 1431655765)) &&& 858993459) + ((((x0 - (((x0 : Int32).toUInt32 >>> ((1 : Int32).toUInt32 &&& Int32.toUInt32 31)).toInt32 &&& 1431655765)) : Int32).toUInt32 >>> ((2 : Int32).toUInt32 &&& Int32.toUInt32 31)).toInt32 &&& 858993459)) : Int32).toUInt32 >>> ((4 : Int32).toUInt32 &&& Int32.toUInt32 31)).toInt32) &&& 252645135) + (((((((x0 - (((x0 : Int32).toUInt32 >>> ((1 : Int32).toUInt32 &&& Int32.toUInt32 31)).toInt32 &&& 1431655765)) &&& 858993459) + ((((x0 - (((x0 : Int32).toUInt32 >>> ((1 : Int32).toUInt32 &&& Int32.toUInt32 31)).toInt32 &&& 1431655765)) : Int32).toUInt32 >>> ((2 : Int32).toUInt32 &&& Int32.toUInt32 31)).toInt32 &&& 858993459)) + (((((x0 - (((x0 : Int32).toUInt32 >>> ((1 : Int32).toUInt32 &&& Int32.toUInt32 31)).toInt32 &&& 1431655765)) &&& 858993459) + ((((x0 - (((x0 : Int32).toUInt32 >>> ((1 : Int32).toUInt32 &&& Int32.toUInt32 31)).toInt32 &&& 1431655765)) : Int32).toUInt32 >>> ((2 : Int32).toUInt32 &&& Int32.toUInt32 31)).toInt32 &&& 858993459)) : Int32).toUInt32 >>> ((4 : Int32).toUInt32 &&& Int32.toUInt32 31)).toInt32) &&& 252645135) : Int32).toUInt32 >>> ((8 : Int32).toUInt32 &&& Int32.toUInt32 31)).toInt32) + ((((((((x0 - (((x0 : Int32).toUInt32 >>> ((1 : Int32).toUInt32 &&& Int32.toUInt32 31)).toInt32 &&& 1431655765)) &&& 858993459) + ((((x0 - (((x0 : Int32).toUInt32 >>> ((1 : Int32).toUInt32 &&& Int32.toUInt32 31)).toInt32 &&& 1431655765)) : Int32).toUInt32 >>> ((2 : Int32).toUInt32 &&& Int32.toUInt32 31)).toInt32 &&& 858993459)) + (((((x0 - (((x0 : Int32).toUInt32 >>> ((1 : Int32).toUInt32 &&& Int32.toUInt32 31)).toInt32 &&& 1431655765)) &&& 858993459) + ((((x0 - (((x0 : Int32).toUInt32 >>> ((1 : Int32).toUInt32 &&& Int32.toUInt32 31)).toInt32 &&& 1431655765)) : Int32).toUInt32 >>> ((2 : Int32).toUInt32 &&& Int32.toUInt32 31)).toInt32 &&& 858993459)) : Int32).toUInt32 >>> ((4 : Int32).toUInt32 &&& Int32.toUInt32 31)).toInt32) &&& 252645135) + (((((((x0 - (((x0 : Int32).toUInt32 >>> ((1 : Int32).toUInt32 &&& Int32.toUInt32 31)).toInt32 &&& 1431655765)) &&& 858993459) + ((((x0 - (((x0 : Int32).toUInt32 >>> ((1 : Int32).toUInt32 &&& Int32.toUInt32 31)).toInt32 &&& 1431655765)) : Int32).toUInt32 >>> ((2 : Int32).toUInt32 &&& Int32.toUInt32 31)).toInt32 &&& 858993459)) + (((((x0 - (((x0 : Int32).toUInt32 >>> ((1 : Int32).toUInt32 &&& Int32.toUInt32 31)).toInt32 &&& 1431655765)) &&& 858993459) + ((((x0 - (((x0 : Int32).toUInt32 >>> ((1 : Int32).toUInt32 &&& Int32.toUInt32 31)).toInt32 &&& 1431655765)) : Int32).toUInt32 >>> ((2 : Int32).toUInt32 &&& Int32.toUInt32 31)).toInt32 &&& 858993459)) : Int32).toUInt32 >>> ((4 : Int32).toUInt32 &&& Int32.toUInt32 31)).toInt32) &&& 252645135) : Int32).toUInt32 >>> ((8 : Int32).toUInt32 &&& Int32.toUInt32 31)).toInt32) : Int32).toUInt32 >>> ((16 : Int32).toUInt32 &&& Int32.toUInt32 31)).toInt32))]) (st' := [(.int ((((((((x0 - (((x0 : Int32).toUInt32 >>> ((1 : Int32).toUInt32 &&& Int32.toUInt32 31)).toInt32 &&& 1431655765)) &&& 858993459) + ((((x0 - (((x0 : Int32).toUInt32 >>> ((1 : Int32).toUInt32 &&& Int32.toUInt32 31)).toInt32 &&& 1431655765)) : Int32).toUInt32 >>> ((2 : Int32).toUInt32 &&& Int32.toUInt32 31)).toInt32 &&& 858993459)) + (((((x0 - (((x0 : Int32).toUInt32 >>> ((1 : Int32).toUInt32 &&& Int32.toUInt32 31)).toInt32 &&& 1431655765)) &&& 858993459) + ((((x0 - (((x0 : Int32).toUInt32 >>> ((1 : Int32).toUInt32 &&& Int32.toUInt32 31)).toInt32 &&& 1431655765)) : Int32).toUInt32 >>> ((2 : Int32).toUInt32 &&& Int32.toUInt32 31)).toInt32 &&& 858993459)) : Int32).toUInt32 >>> ((4 : Int32).toUInt32 &&& Int32.toUInt32 31)).toInt32) &&& 252645135) + (((((((x0 - (((x0 : Int32).toUInt32 >>> ((1 : Int32).toUInt32 &&& Int32.toUInt32 31)).toInt32 &&& 1431655765)) &&& 858993459) + ((((x0 - (((x0 : Int32).toUInt32 >>> ((1 : Int32).toUInt32 &&& Int32.toUInt32 31)).toInt32 &&& 1431655765)) : Int32).toUInt32 >>> ((2 : Int32).toUInt32 &&& Int32.toUInt32 31)).toInt32 &&& 858993459)) + (((((x0 - (((x0 : Int32).toUInt32 >>> ((1 : Int32).toUInt32 &&& Int32.toUInt32 31)).toInt32 &&& 1431655765)) &&& 858993459) + ((((x0 - (((x0 : Int32).toUInt32 >>> ((1 : Int32).toUInt32 &&& Int32.toUInt32 31)).toInt32 &&& 1431655765)) : Int32).toUInt32 >>> ((2 : Int32).toUInt32 &&& Int32.toUInt32 31)).toInt32 &&& 858993459)) : Int32).toUInt32 >>> ((4 : Int32).toUInt32 &&& Int32.toUInt32 31)).toInt32) &&& 252645135) : Int32).toUInt32 >>> ((8 : Int32).toUInt32 &&& Int32.toUInt32 31)).toInt32) + ((((((((x0 - (((x0 : Int32).toUInt32 >>> ((1 : Int32).toUInt32 &&& Int32.toUInt32 31)).toInt32 &&& 1431655765)) &&& 858993459) + ((((x0 - (((x0 : Int32).toUInt32 >>> ((1 : Int32).toUInt32 &&& Int32.toUInt32 31)).toInt32 &&& 1431655765)) : Int32).toUInt32 >>> ((2 : Int32).toUInt32 &&& Int32.toUInt32 31)).toInt32 &&& 858993459)) + (((((x0 - (((x0 : Int32).toUInt32 >>> ((1 : Int32).toUInt32 &&& Int32.toUInt32 31)).toInt32 &&& 1431655765)) &&& 858993459) + ((((x0 - (((x0 : Int32).toUInt32 >>> ((1 : Int32).toUInt32 &&& Int32.toUInt32 31)).toInt32 &&& 1431655765)) : Int32).toUInt32 >>> ((2 : Int32).toUInt32 &&& Int32.toUInt32 31)).toInt32 &&& 858993459)) : Int32).toUInt32 >>> ((4 : Int32).toUInt32 &&& Int32.toUInt32 31)).toInt32) &&& 252645135) + (((((((x0 - (((x0 : Int32).toUInt32 >>> ((1 : Int32).toUInt32 &&& Int32.toUInt32 31)).toInt32 &&& 1431655765)) &&& 858993459) + ((((x0 - (((x0 : Int32).toUInt32 >>> ((1 : Int32).toUInt32 &&& Int32.toUInt32 31)).toInt32 &&& 1431655765)) : Int32).toUInt32 >>> ((2 : Int32).toUInt32 &&& Int32.toUInt32 31)).toInt32 &&& 858993459)) + (((((x0 - (((x0 : Int32).toUInt32 >>> ((1 : Int32).toUInt32 &&& Int32.toUInt32 31)).toInt32 &&& 1431655765)) &&& 858993459) + ((((x0 - (((x0 : Int32).toUInt32 >>> ((1 : Int32).toUInt32 &&& Int32.toUInt32 31)).toInt32 &&& 1431655765)) : Int32).toUInt32 >>> ((2 : Int32).toUInt32 &&& Int32.toUInt32 31)).toInt32 &&& 858993459)) : Int32).toUInt32 >>> ((4 : Int32).toUInt32 &&& Int32.toUInt32 31)).toInt32) &&& 252645135) : Int32).toUInt32 >>> ((8 : Int32).toUInt32 &&& Int32.toUInt32 31)).toInt32) : Int32).toUInt32 >>> ((16 : Int32).toUInt32 &&& Int32.toUInt32 31)).toInt32) &&& 63))]) (σ' := (zE L, M, N)) (G := []) rfl trivial ?_
  subst h
  obtain ⟨rfl, rfl⟩ := hK
  exact jb_reti rfl rfl
theorem ze_26 {Γ : jb_G} {L : Nat} {d : Nat} (x0 : Int32) (M : jb_Mi) (N : jb_Ml) {r : Int32} (h : zf_26 x0 = r) : jb_V Γ d zq_26 0 (jb_en 1 [(.int x0)]) [] (zE L, M, N) (some (.int r)) (zE L, M, N) := zg_26 x0 M N h ⟨rfl, rfl⟩
-- J6_compare_7cf53
set_option maxRecDepth 20000 in
theorem zg_27 {Γ : jb_G} {L : Nat} {d : Nat} (x0 : Int32) (x1 : Int32) (M : jb_Mi) (N : jb_Ml) {v : Option Value} {σ2 : jb_S} {r : Int32} (h : zf_27 x0 x1 = r) (hK : (fun r : Int32 => v = some (.int r) ∧ σ2 = (zE L, M, N)) r) : jb_V Γ d zq_27 0 [some (.int x0), some (.int x1)] [] (zE L, M, N) v σ2 := by
  unfold zf_27 at h
  refine jb_seg 3 (pc' := (if x0 < x1 then 5 else 9)) (ls' := [some (.int x0), some (.int x1)]) (st' := []) (σ' := (zE L, M, N)) (G := []) rfl trivial ?_
  refine jb_ite (fun c => ?_) (fun c => ?_)
  · replace h := (if_pos c).symm.trans h
    refine jb_seg 2 (pc' := 19) (ls' := [some (.int x0), some (.int x1)]) (st' := [(.int (-1))]) (σ' := (zE L, M, N)) (G := []) rfl trivial ?_
    subst h
    obtain ⟨rfl, rfl⟩ := hK
    exact jb_reti rfl rfl
  · replace h := (if_neg c).symm.trans h
    refine jb_seg 3 (pc' := (if x0 = x1 then 14 else 18)) (ls' := [some (.int x0), some (.int x1)]) (st' := []) (σ' := (zE L, M, N)) (G := []) rfl trivial ?_
    refine jb_ite (fun c => ?_) (fun c => ?_)
    · replace h := (if_pos c).symm.trans h
      refine jb_seg 2 (pc' := 19) (ls' := [some (.int x0), some (.int x1)]) (st' := [(.int 0)]) (σ' := (zE L, M, N)) (G := []) rfl trivial ?_
      subst h
      obtain ⟨rfl, rfl⟩ := hK
      exact jb_reti rfl rfl
    · replace h := (if_neg c).symm.trans h
      refine jb_seg 1 (pc' := 19) (ls' := [some (.int x0), some (.int x1)]) (st' := [(.int 1)]) (σ' := (zE L, M, N)) (G := []) rfl trivial ?_
      subst h
      obtain ⟨rfl, rfl⟩ := hK
      exact jb_reti rfl rfl
theorem ze_27 {Γ : jb_G} {L : Nat} {d : Nat} (x0 : Int32) (x1 : Int32) (M : jb_Mi) (N : jb_Ml) {r : Int32} (h : zf_27 x0 x1 = r) : jb_V Γ d zq_27 0 (jb_en 2 [(.int x0), (.int x1)]) [] (zE L, M, N) (some (.int r)) (zE L, M, N) := zg_27 x0 x1 M N h ⟨rfl, rfl⟩
-- X0_isLess
set_option maxRecDepth 20000 in
theorem zg_28_J25 {Γ : jb_G} {L : Nat} {d : Nat} (hd : 1 ≤ d) (M : jb_Mi) (N : jb_Ml) {v : Option Value} {σ2 : jb_S} {r : Bool} (h : zf_28_J25 = r) (hK : (fun r : Bool => v = some (.int (jb_b2i r)) ∧ σ2 = (zE L, M, N)) r) : jb_V Γ d zq_28 25 [none, none, none] [] (zE L, M, N) v σ2 := by
  obtain ⟨d, rfl⟩ : ∃ e, d = e + 1 := ⟨d - 1, by omega⟩
  unfold zf_28_J25 at h
  refine jb_seg 2 (pc' := 30) (ls' := [none, none, none]) (st' := [(.int 1)]) (σ' := (zE L, M, N)) (G := []) rfl trivial ?_
  subst h
  obtain ⟨rfl, rfl⟩ := hK
  exact jb_retz (by decide) rfl rfl
set_option maxRecDepth 20000 in
theorem zg_28 {Γ : jb_G} {L : Nat} {d : Nat} (hd : 1 ≤ d) (x0 : Int32) (x1 : Int32) (M : jb_Mi) (N : jb_Ml) {v : Option Value} {σ2 : jb_S} {r : Bool} (h : zf_28 x0 x1 = r) (hK : (fun r : Bool => v = some (.int (jb_b2i r)) ∧ σ2 = (zE L, M, N)) r) : jb_V Γ d zq_28 0 [some (.int x0), some (.int x1), none] [] (zE L, M, N) v σ2 := by
  obtain ⟨d, rfl⟩ : ∃ e, d = e + 1 := ⟨d - 1, by omega⟩
  unfold zf_28 at h
  refine jb_seg 1 (pc' := 1) (ls' := [some (.int x0), some (.int x1), none]) (st' := [(.int x0)]) (σ' := (zE L, M, N)) (G := []) rfl trivial ?_
  refine jb_callS (q' := zq_26) (As := [(.int x0)]) (rest := []) (σ1 := (zE L, M, N)) (v := some (.int (zf_26 x0))) rfl (Nat.le_of_ble_eq_true rfl) rfl zp_26 (jb_cat rfl) (Nat.le_of_ble_eq_true rfl) (Nat.le_of_ble_eq_true rfl) (Or.inl rfl) rfl (ze_26 x0 M N rfl) ?_
  refine jb_seg 1 (pc' := 5) (ls' := [some (.int x0), some (.int x1), none]) (st' := [(.int x1), (.int (zf_26 x0))]) (σ' := (zE L, M, N)) (G := []) rfl trivial ?_
  refine jb_callS (q' := zq_26) (As := [(.int x1)]) (rest := [(.int (zf_26 x0))]) (σ1 := (zE L, M, N)) (v := some (.int (zf_26 x1))) rfl (Nat.le_of_ble_eq_true rfl) rfl zp_26 (jb_cat rfl) (Nat.le_of_ble_eq_true rfl) (Nat.le_of_ble_eq_true rfl) (Or.inl rfl) rfl (ze_26 x1 M N rfl) ?_
  refine jb_callS (q' := zq_27) (As := [(.int (zf_26 x0)), (.int (zf_26 x1))]) (rest := []) (σ1 := (zE L, M, N)) (v := some (.int (zf_27 (zf_26 x0) (zf_26 x1)))) rfl (Nat.le_of_ble_eq_true rfl) rfl zp_27 (jb_cat rfl) (Nat.le_of_ble_eq_true rfl) (Nat.le_of_ble_eq_true rfl) (Or.inl rfl) rfl (ze_27 (zf_26 x0) (zf_26 x1) M N rfl) ?_
  refine jb_seg 3 (pc' := (if (zf_27 (zf_26 x0) (zf_26 x1)) < 0 then 25 else 16)) (ls' := [some (.int x0), some (.int x1), some (.int (zf_27 (zf_26 x0) (zf_26 x1)))]) (st' := []) (σ' := (zE L, M, N)) (G := []) rfl trivial ?_
  refine jb_ite (fun c => ?_) (fun c => ?_)
  · replace h := (if_pos c).symm.trans h
    exact jb_mask [false, false, false] rfl (zg_28_J25 hd M N h hK)
  · replace h := (if_neg c).symm.trans h
    refine jb_seg 2 (pc' := (if (zf_27 (zf_26 x0) (zf_26 x1)) = 0 then 20 else 29)) (ls' := [some (.int x0), some (.int x1), some (.int (zf_27 (zf_26 x0) (zf_26 x1)))]) (st' := []) (σ' := (zE L, M, N)) (G := []) rfl trivial ?_
    refine jb_ite (fun c => ?_) (fun c => ?_)
    · replace h := (if_pos c).symm.trans h
      refine jb_seg 3 (pc' := (if x0 < x1 then 25 else 29)) (ls' := [some (.int x0), some (.int x1), some (.int (zf_27 (zf_26 x0) (zf_26 x1)))]) (st' := []) (σ' := (zE L, M, N)) (G := []) rfl trivial ?_
      refine jb_ite (fun c => ?_) (fun c => ?_)
      · replace h := (if_pos c).symm.trans h
        exact jb_mask [false, false, false] rfl (zg_28_J25 hd M N h hK)
      · replace h := (if_neg c).symm.trans h
        refine jb_seg 1 (pc' := 30) (ls' := [some (.int x0), some (.int x1), some (.int (zf_27 (zf_26 x0) (zf_26 x1)))]) (st' := [(.int 0)]) (σ' := (zE L, M, N)) (G := []) rfl trivial ?_
        subst h
        obtain ⟨rfl, rfl⟩ := hK
        exact jb_retz (by decide) rfl rfl
    · replace h := (if_neg c).symm.trans h
      refine jb_seg 1 (pc' := 30) (ls' := [some (.int x0), some (.int x1), some (.int (zf_27 (zf_26 x0) (zf_26 x1)))]) (st' := [(.int 0)]) (σ' := (zE L, M, N)) (G := []) rfl trivial ?_
      subst h
      obtain ⟨rfl, rfl⟩ := hK
      exact jb_retz (by decide) rfl rfl
theorem ze_28 {Γ : jb_G} {L : Nat} {d : Nat} (hd : 1 ≤ d) (x0 : Int32) (x1 : Int32) (M : jb_Mi) (N : jb_Ml) {r : Bool} (h : zf_28 x0 x1 = r) : jb_V Γ d zq_28 0 (jb_en 3 [(.int x0), (.int x1)]) [] (zE L, M, N) (some (.int (jb_b2i r))) (zE L, M, N) := zg_28 hd x0 x1 M N h ⟨rfl, rfl⟩
-- X0_leastToGo
set_option maxRecDepth 20000 in
theorem zg_29_J110 {Γ : jb_G} {L : Nat} {d : Nat} (hd : 5 ≤ d) (x2 : Int32) (x3 : Int32) (x4 : Int32) (x5 : Int32) (M : jb_Mi) (N : jb_Ml) {v : Option Value} {σ2 : jb_S} {r : ((Int32 × Int32 × Int32 × jb_Mi) ⊕ (Int32 × jb_Mi))} (h : zf_29_J110 x2 x3 x4 x5 M = some r) (hK : (jb_K (fun s : Int32 × Int32 × Int32 × jb_Mi => jb_V Γ d zq_29 37 [some (.ref 64), none, some (.int x2), some (.int s.1), some (.int s.2.1), some (.int s.2.2.1), none] [] (zE L, s.2.2.2, N) v σ2) (fun r : Int32 × jb_Mi => v = some (.int r.1) ∧ σ2 = (zE L, r.2, N))) r) : jb_V Γ d zq_29 110 [some (.ref 64), none, some (.int x2), some (.int x3), some (.int x4), some (.int x5), none] [] (zE L, M, N) v σ2 := by
  obtain ⟨d, rfl⟩ : ∃ e, d = e + 1 := ⟨d - 1, by omega⟩
  unfold zf_29_J110 at h
  refine jb_seg 2 (pc' := 37) (ls' := [some (.ref 64), none, some (.int x2), some (.int x3), some (.int x4), some (.int (x5 + 1)), none]) (st' := []) (σ' := (zE L, M, N)) (G := []) rfl trivial ?_
  obtain rfl := Option.some.inj h
  exact jb_mask [true, false, true, true, true, true, false] rfl hK
set_option maxRecDepth 20000 in
theorem zg_29_J107 {Γ : jb_G} {L : Nat} {d : Nat} (hd : 5 ≤ d) (x2 : Int32) (x4 : Int32) (x5 : Int32) (M : jb_Mi) (N : jb_Ml) {v : Option Value} {σ2 : jb_S} {r : ((Int32 × Int32 × Int32 × jb_Mi) ⊕ (Int32 × jb_Mi))} (h : zf_29_J107 x2 x4 x5 M = some r) (hK : (jb_K (fun s : Int32 × Int32 × Int32 × jb_Mi => jb_V Γ d zq_29 37 [some (.ref 64), none, some (.int x2), some (.int s.1), some (.int s.2.1), some (.int s.2.2.1), none] [] (zE L, s.2.2.2, N) v σ2) (fun r : Int32 × jb_Mi => v = some (.int r.1) ∧ σ2 = (zE L, r.2, N))) r) : jb_V Γ d zq_29 107 [some (.ref 64), none, some (.int x2), none, some (.int x4), some (.int x5), none] [] (zE L, M, N) v σ2 := by
  obtain ⟨d, rfl⟩ : ∃ e, d = e + 1 := ⟨d - 1, by omega⟩
  unfold zf_29_J107 at h
  refine jb_seg 2 (pc' := 110) (ls' := [some (.ref 64), none, some (.int x2), some (.int x4), some (.int x4), some (.int x5), none]) (st' := []) (σ' := (zE L, M, N)) (G := []) rfl trivial ?_
  exact jb_mask [true, false, true, true, true, true, false] rfl (zg_29_J110 hd x2 x4 x4 x5 M N h hK)
set_option maxRecDepth 20000 in
theorem zg_29_J87 {Γ : jb_G} {L : Nat} {d : Nat} (hd : 5 ≤ d) (x2 : Int32) (x3 : Int32) (x4 : Int32) (x5 : Int32) (M : jb_Mi) (N : jb_Ml) {v : Option Value} {σ2 : jb_S} {r : ((Int32 × Int32 × Int32 × jb_Mi) ⊕ (Int32 × jb_Mi))} (h : zf_29_J87 x2 x3 x4 x5 M = some r) (hK : (jb_K (fun s : Int32 × Int32 × Int32 × jb_Mi => jb_V Γ d zq_29 37 [some (.ref 64), none, some (.int x2), some (.int s.1), some (.int s.2.1), some (.int s.2.2.1), none] [] (zE L, s.2.2.2, N) v σ2) (fun r : Int32 × jb_Mi => v = some (.int r.1) ∧ σ2 = (zE L, r.2, N))) r) : jb_V Γ d zq_29 87 [some (.ref 64), none, some (.int x2), some (.int x3), some (.int x4), some (.int x5), none] [] (zE L, M, N) v σ2 := by
  obtain ⟨d, rfl⟩ : ∃ e, d = e + 1 := ⟨d - 1, by omega⟩
  unfold zf_29_J87 at h
  refine jb_seg 1 (pc' := 88) (ls' := [some (.ref 64), none, some (.int x2), some (.int x3), some (.int x4), some (.int x5), none]) (st' := [(.ref 64)]) (σ' := (zE L, M, N)) (G := []) rfl trivial ?_
  refine jb_callV (q' := zq_25) (As := []) (rest := []) (σ1 := (zE L, M, N)) (v := some (.int (jb_b2i (zf_25 M)))) rfl rfl zp_25 rfl (Nat.le_of_ble_eq_true rfl) (jb_cat rfl) (Nat.le_of_ble_eq_true rfl) (Nat.le_of_ble_eq_true rfl) (Or.inl rfl) rfl (ze_25 M N rfl) ?_
  refine jb_seg 1 (pc' := (if (jb_b2i (zf_25 M)) = 0 then 110 else 94)) (ls' := [some (.ref 64), none, some (.int x2), some (.int x3), some (.int x4), some (.int x5), none]) (st' := []) (σ' := (zE L, M, N)) (G := []) rfl trivial ?_
  refine jb_ite (fun c => ?_) (fun c => ?_)
  · replace h := (if_pos c).symm.trans h
    exact jb_mask [true, false, true, true, true, true, false] rfl (zg_29_J110 hd x2 x3 x4 x5 M N h hK)
  · replace h := (if_neg c).symm.trans h
    refine jb_seg 2 (pc' := (if x3 < 0 then 107 else 98)) (ls' := [some (.ref 64), none, some (.int x2), some (.int x3), some (.int x4), some (.int x5), none]) (st' := []) (σ' := (zE L, M, N)) (G := []) rfl trivial ?_
    refine jb_ite (fun c => ?_) (fun c => ?_)
    · replace h := (if_pos c).symm.trans h
      exact jb_mask [true, false, true, false, true, true, false] rfl (zg_29_J107 hd x2 x4 x5 M N h hK)
    · replace h := (if_neg c).symm.trans h
      refine jb_seg 2 (pc' := 101) (ls' := [some (.ref 64), none, some (.int x2), some (.int x3), some (.int x4), some (.int x5), none]) (st' := [(.int x3), (.int x4)]) (σ' := (zE L, M, N)) (G := []) rfl trivial ?_
      refine jb_callS (q' := zq_28) (As := [(.int x4), (.int x3)]) (rest := []) (σ1 := (zE L, M, N)) (v := some (.int (jb_b2i (zf_28 x4 x3)))) rfl (Nat.le_of_ble_eq_true rfl) rfl zp_28 (jb_cat rfl) (Nat.le_of_ble_eq_true rfl) (Nat.le_of_ble_eq_true rfl) (Or.inl rfl) rfl (ze_28 (by omega) x4 x3 M N rfl) ?_
      refine jb_seg 1 (pc' := (if (jb_b2i (zf_28 x4 x3)) = 0 then 110 else 107)) (ls' := [some (.ref 64), none, some (.int x2), some (.int x3), some (.int x4), some (.int x5), none]) (st' := []) (σ' := (zE L, M, N)) (G := []) rfl trivial ?_
      refine jb_ite (fun c => ?_) (fun c => ?_)
      · replace h := (if_pos c).symm.trans h
        exact jb_mask [true, false, true, true, true, true, false] rfl (zg_29_J110 hd x2 x3 x4 x5 M N h hK)
      · replace h := (if_neg c).symm.trans h
        exact jb_mask [true, false, true, false, true, true, false] rfl (zg_29_J107 hd x2 x4 x5 M N h hK)
set_option maxRecDepth 20000 in
theorem zg_29_J84 {Γ : jb_G} {L : Nat} {d : Nat} (hd : 5 ≤ d) (x2 : Int32) (x3 : Int32) (x4 : Int32) (x5 : Int32) (s1 : Int32) (s2 : Int32) (M : jb_Mi) (N : jb_Ml) {v : Option Value} {σ2 : jb_S} {r : ((Int32 × Int32 × Int32 × jb_Mi) ⊕ (Int32 × jb_Mi))} (h : zf_29_J84 x2 x3 x4 x5 s1 s2 M = some r) (hK : (jb_K (fun s : Int32 × Int32 × Int32 × jb_Mi => jb_V Γ d zq_29 37 [some (.ref 64), none, some (.int x2), some (.int s.1), some (.int s.2.1), some (.int s.2.2.1), none] [] (zE L, s.2.2.2, N) v σ2) (fun r : Int32 × jb_Mi => v = some (.int r.1) ∧ σ2 = (zE L, r.2, N))) r) : jb_V Γ d zq_29 84 [some (.ref 64), none, some (.int x2), some (.int x3), some (.int x4), some (.int x5), none] [(.int s2), (.int s1), (.ref 64)] (zE L, M, N) v σ2 := by
  obtain ⟨d, rfl⟩ : ∃ e, d = e + 1 := ⟨d - 1, by omega⟩
  unfold zf_29_J84 at h
  obtain ⟨q4, h4, h⟩ := jb_bd_of h
  refine jb_callV (q' := zq_24) (As := [(.int s1), (.int s2)]) (rest := []) (σ1 := (zE L, q4, N)) (v := none) rfl rfl zp_24 rfl (Nat.le_of_ble_eq_true rfl) (jb_cat rfl) (Nat.le_of_ble_eq_true rfl) (Nat.le_of_ble_eq_true rfl) (Or.inl rfl) rfl (ze_24 (by omega) s1 s2 M N h4) ?_
  exact jb_mask [true, false, true, true, true, true, false] rfl (zg_29_J87 hd x2 x3 x4 x5 q4 N h hK)
set_option maxRecDepth 20000 in
theorem zg_29_H37 {Γ : jb_G} {L : Nat} {d : Nat} (hd : 5 ≤ d) (x2 : Int32) (N : jb_Ml) (s : Int32 × Int32 × Int32 × jb_Mi) {v : Option Value} {σ2 : jb_S} {r : ((Int32 × Int32 × Int32 × jb_Mi) ⊕ (Int32 × jb_Mi))} (h : zf_29_H37 x2 s = some r) (hK : (jb_K (fun s : Int32 × Int32 × Int32 × jb_Mi => jb_V Γ d zq_29 37 [some (.ref 64), none, some (.int x2), some (.int s.1), some (.int s.2.1), some (.int s.2.2.1), none] [] (zE L, s.2.2.2, N) v σ2) (fun r : Int32 × jb_Mi => v = some (.int r.1) ∧ σ2 = (zE L, r.2, N))) r) : jb_V Γ d zq_29 37 [some (.ref 64), none, some (.int x2), some (.int s.1), some (.int s.2.1), some (.int s.2.2.1), none] [] (zE L, s.2.2.2, N) v σ2 := by
  obtain ⟨d, rfl⟩ : ∃ e, d = e + 1 := ⟨d - 1, by omega⟩
  unfold zf_29_H37 at h
  refine jb_seg 5 (pc' := (if s.2.2.1 < ((1 : Int32) <<< (x2 &&& 31)) then 45 else 116)) (ls' := [some (.ref 64), none, some (.int x2), some (.int s.1), some (.int s.2.1), some (.int s.2.2.1), none]) (st' := []) (σ' := (zE L, s.2.2.2, N)) (G := []) rfl trivial ?_
  refine jb_ite (fun c => ?_) (fun c => ?_)
  · replace h := (if_pos c).symm.trans h
    refine jb_seg 2 (pc' := (if 0 < s.2.2.1 then 50 else 87)) (ls' := [some (.ref 64), none, some (.int x2), some (.int s.1), some (.int s.2.1), some (.int s.2.2.1), none]) (st' := []) (σ' := (zE L, s.2.2.2, N)) (G := []) rfl trivial ?_
    refine jb_ite (fun c => ?_) (fun c => ?_)
    · replace h := (if_pos c).symm.trans h
      refine jb_seg 1 (pc' := 52) (ls' := [some (.ref 64), none, some (.int x2), some (.int s.1), some (.int s.2.1), some (.int s.2.2.1), none]) (st' := [(.int s.2.2.1)]) (σ' := (zE L, s.2.2.2, N)) (G := []) rfl trivial ?_
      refine jb_callS (q' := zq_22) (As := [(.int s.2.2.1)]) (rest := []) (σ1 := (zE L, s.2.2.2, N)) (v := some (.int (zf_22 s.2.2.1))) rfl (Nat.le_of_ble_eq_true rfl) rfl zp_22 (jb_cat rfl) (Nat.le_of_ble_eq_true rfl) (Nat.le_of_ble_eq_true rfl) (Or.inl rfl) rfl (ze_22 s.2.2.1 s.2.2.2 N rfl) ?_
      refine jb_seg 15 (pc' := (if (((s.2.1 ^^^ ((1 : Int32) <<< ((zf_22 s.2.2.1) &&& 31))) >>> ((zf_22 s.2.2.1) &&& 31)) &&& 1) = 0 then 83 else 79)) (ls' := [some (.ref 64), none, some (.int x2), some (.int s.1), some (.int (s.2.1 ^^^ ((1 : Int32) <<< ((zf_22 s.2.2.1) &&& 31)))), some (.int s.2.2.1), some (.int (zf_22 s.2.2.1))]) (st' := [(.int (zf_22 s.2.2.1)), (.ref 64)]) (σ' := (zE L, s.2.2.2, N)) (G := []) rfl trivial ?_
      refine jb_ite (fun c => ?_) (fun c => ?_)
      · replace h := (if_pos c).symm.trans h
        refine jb_seg 1 (pc' := 84) (ls' := [some (.ref 64), none, some (.int x2), some (.int s.1), some (.int (s.2.1 ^^^ ((1 : Int32) <<< ((zf_22 s.2.2.1) &&& 31)))), some (.int s.2.2.1), some (.int (zf_22 s.2.2.1))]) (st' := [(.int 1), (.int (zf_22 s.2.2.1)), (.ref 64)]) (σ' := (zE L, s.2.2.2, N)) (G := []) rfl trivial ?_
        exact jb_mask [true, false, true, true, true, true, false] rfl (zg_29_J84 hd x2 s.1 (s.2.1 ^^^ ((1 : Int32) <<< ((zf_22 s.2.2.1) &&& 31))) s.2.2.1 (zf_22 s.2.2.1) 1 s.2.2.2 N h hK)
      · replace h := (if_neg c).symm.trans h
        refine jb_seg 2 (pc' := 84) (ls' := [some (.ref 64), none, some (.int x2), some (.int s.1), some (.int (s.2.1 ^^^ ((1 : Int32) <<< ((zf_22 s.2.2.1) &&& 31)))), some (.int s.2.2.1), some (.int (zf_22 s.2.2.1))]) (st' := [(.int (-1)), (.int (zf_22 s.2.2.1)), (.ref 64)]) (σ' := (zE L, s.2.2.2, N)) (G := []) rfl trivial ?_
        exact jb_mask [true, false, true, true, true, true, false] rfl (zg_29_J84 hd x2 s.1 (s.2.1 ^^^ ((1 : Int32) <<< ((zf_22 s.2.2.1) &&& 31))) s.2.2.1 (zf_22 s.2.2.1) (-1) s.2.2.2 N h hK)
    · replace h := (if_neg c).symm.trans h
      exact jb_mask [true, false, true, true, true, true, false] rfl (zg_29_J87 hd x2 s.1 s.2.1 s.2.2.1 s.2.2.2 N h hK)
  · replace h := (if_neg c).symm.trans h
    refine jb_seg 1 (pc' := 117) (ls' := [some (.ref 64), none, some (.int x2), some (.int s.1), some (.int s.2.1), some (.int s.2.2.1), none]) (st' := [(.int s.1)]) (σ' := (zE L, s.2.2.2, N)) (G := []) rfl trivial ?_
    obtain rfl := Option.some.inj h
    obtain ⟨rfl, rfl⟩ := hK
    exact jb_reti rfl rfl
theorem zg_29_H37L {Γ : jb_G} {L : Nat} {d : Nat} (hd : 5 ≤ d) (x2 : Int32) (N : jb_Ml) {v : Option Value} {σ2 : jb_S} {s : Int32 × Int32 × Int32 × jb_Mi} {r : (Int32 × jb_Mi)} (h : jb_lp (zf_29_H37 x2) s = some r) (hK : (fun r : Int32 × jb_Mi => v = some (.int r.1) ∧ σ2 = (zE L, r.2, N)) r) : jb_V Γ d zq_29 37 [some (.ref 64), none, some (.int x2), some (.int s.1), some (.int s.2.1), some (.int s.2.2.1), none] [] (zE L, s.2.2.2, N) v σ2 := by
  exact @jb_lp_ind (Int32 × Int32 × Int32 × jb_Mi) ((Int32 × jb_Mi)) (zf_29_H37 x2) (fun s => jb_V Γ d zq_29 37 [some (.ref 64), none, some (.int x2), some (.int s.1), some (.int s.2.1), some (.int s.2.2.1), none] [] (zE L, s.2.2.2, N) v σ2) (fun r : Int32 × jb_Mi => v = some (.int r.1) ∧ σ2 = (zE L, r.2, N)) (fun s r h hk => zg_29_H37 hd x2 N s h hk) s r h hK
set_option maxRecDepth 20000 in
theorem zg_29 {Γ : jb_G} {L : Nat} {d : Nat} (hd : 5 ≤ d) (x1 : Int32) (M : jb_Mi) (N : jb_Ml) {v : Option Value} {σ2 : jb_S} {r : (Int32 × jb_Mi)} (h : zf_29 x1 M = some r) (hK : (fun r : Int32 × jb_Mi => v = some (.int r.1) ∧ σ2 = (zE L, r.2, N)) r) : jb_V Γ d zq_29 0 [some (.ref 64), some (.int x1), none, none, none, none, none] [] (zE L, M, N) v σ2 := by
  obtain ⟨d, rfl⟩ : ∃ e, d = e + 1 := ⟨d - 1, by omega⟩
  unfold zf_29 at h
  refine jb_seg 3 (pc' := 5) (ls' := [some (.ref 64), some (.int x1), none, none, none, none, none]) (st' := [(.int x1), (.ref 4)]) (σ' := (zE L, M, N)) (G := []) rfl trivial ?_
  obtain ⟨q1, h1, h⟩ := jb_bd_of h
  refine jb_callV (q' := zq_13) (As := [(.int x1)]) (rest := []) (σ1 := (zE L, M, N)) (v := some (.int q1)) rfl rfl zp_13 rfl (Nat.le_of_ble_eq_true rfl) (jb_cat rfl) (Nat.le_of_ble_eq_true rfl) (Nat.le_of_ble_eq_true rfl) (Or.inl rfl) rfl (ze_13 (by omega) 4 x1 M N (by decide) h1) ?_
  refine jb_seg 4 (pc' := (if 12 < q1 then 15 else 18)) (ls' := [some (.ref 64), some (.int x1), some (.int q1), none, none, none, none]) (st' := []) (σ' := (zE L, M, N)) (G := []) rfl trivial ?_
  refine jb_ite (fun c => ?_) (fun c => ?_)
  · replace h := (if_pos c).symm.trans h
    refine jb_seg 1 (pc' := 17) (ls' := [some (.ref 64), some (.int x1), some (.int q1), none, none, none, none]) (st' := [(.int (-3))]) (σ' := (zE L, M, N)) (G := []) rfl trivial ?_
    obtain rfl := Option.some.inj h
    obtain ⟨rfl, rfl⟩ := hK
    exact jb_reti rfl rfl
  · replace h := (if_neg c).symm.trans h
    refine jb_seg 2 (pc' := 20) (ls' := [some (.ref 64), some (.int x1), some (.int q1), none, none, none, none]) (st' := [(.int x1), (.ref 64)]) (σ' := (zE L, M, N)) (G := []) rfl trivial ?_
    obtain ⟨q2, h2, h⟩ := jb_bd_of h
    refine jb_callV (q' := zq_20) (As := [(.int x1)]) (rest := []) (σ1 := (zE L, q2, N)) (v := none) rfl rfl zp_20 rfl (Nat.le_of_ble_eq_true rfl) (jb_cat rfl) (Nat.le_of_ble_eq_true rfl) (Nat.le_of_ble_eq_true rfl) (Or.inl rfl) rfl (ze_20 (by omega) x1 M N h2) ?_
    refine jb_seg 2 (pc' := 25) (ls' := [some (.ref 64), some (.int x1), some (.int q1), none, none, none, none]) (st' := [(.int x1), (.ref 64)]) (σ' := (zE L, q2, N)) (G := []) rfl trivial ?_
    obtain ⟨q3, h3, h⟩ := jb_bd_of h
    refine jb_callV (q' := zq_21) (As := [(.int x1)]) (rest := []) (σ1 := (zE L, q3, N)) (v := none) rfl rfl zp_21 rfl (Nat.le_of_ble_eq_true rfl) (jb_cat rfl) (Nat.le_of_ble_eq_true rfl) (Nat.le_of_ble_eq_true rfl) (Or.inl rfl) rfl (ze_21 (by omega) x1 q2 N h3) ?_
    refine jb_seg 6 (pc' := 37) (ls' := [some (.ref 64), some (.int x1), some (.int q1), some (.int (-2)), some (.int 0), some (.int 0), none]) (st' := []) (σ' := (zE L, q3, N)) (G := []) rfl trivial ?_
    exact jb_mask [true, false, true, true, true, true, false] rfl (zg_29_H37L hd q1 N h hK)
theorem ze_29 {Γ : jb_G} {L : Nat} {d : Nat} (hd : 5 ≤ d) (x1 : Int32) (M : jb_Mi) (N : jb_Ml) {r : (Int32 × jb_Mi)} (h : zf_29 x1 M = some r) : jb_V Γ d zq_29 0 (jb_en 7 [(.ref 64), (.int x1)]) [] (zE L, M, N) (some (.int r.1)) (zE L, r.2, N) := zg_29 hd x1 M N h ⟨rfl, rfl⟩
-- X10_byteAt
set_option maxRecDepth 20000 in
theorem zg_30 {Γ : jb_G} {L : Nat} {d : Nat} (x1 : Int32) (M : jb_Mi) (N : jb_Ml) {v : Option Value} {σ2 : jb_S} {r : (Int32)} (h : zf_30 x1 M = some r) (hK : (fun r : Int32 => v = some (.int r) ∧ σ2 = (zE L, M, N)) r) : jb_V Γ d zq_30 0 [some (.ref 2), some (.int x1)] [] (zE L, M, N) v σ2 := by
  unfold zf_30 at h
  refine jb_seg 2 (pc' := (if x1 < 0 then 21 else 4)) (ls' := [some (.ref 2), some (.int x1)]) (st' := []) (σ' := (zE L, M, N)) (G := []) rfl trivial ?_
  refine jb_ite (fun c => ?_) (fun c => ?_)
  · replace h := (if_pos c).symm.trans h
    refine jb_seg 1 (pc' := 22) (ls' := [some (.ref 2), some (.int x1)]) (st' := [(.int (-1))]) (σ' := (zE L, M, N)) (G := []) rfl trivial ?_
    obtain rfl := Option.some.inj h
    obtain ⟨rfl, rfl⟩ := hK
    exact jb_reti rfl rfl
  · replace h := (if_neg c).symm.trans h
    refine jb_seg 4 (pc' := (if x1 < (M 2 1) then 12 else 21)) (ls' := [some (.ref 2), some (.int x1)]) (st' := []) (σ' := (zE L, M, N)) (G := []) rfl trivial ?_
    refine jb_ite (fun c => ?_) (fun c => ?_)
    · replace h := (if_pos c).symm.trans h
      obtain ⟨g1, h⟩ := jb_gd_of h
      refine jb_seg 5 (pc' := 22) (ls' := [some (.ref 2), some (.int x1)]) (st' := [(.int (M 3 x1.toNatClampNeg))]) (σ' := (zE L, M, N)) (G := [vp_in x1 260]) rfl g1 ?_
      obtain rfl := Option.some.inj h
      obtain ⟨rfl, rfl⟩ := hK
      exact jb_reti rfl rfl
    · replace h := (if_neg c).symm.trans h
      refine jb_seg 1 (pc' := 22) (ls' := [some (.ref 2), some (.int x1)]) (st' := [(.int (-1))]) (σ' := (zE L, M, N)) (G := []) rfl trivial ?_
      obtain rfl := Option.some.inj h
      obtain ⟨rfl, rfl⟩ := hK
      exact jb_reti rfl rfl
theorem ze_30 {Γ : jb_G} {L : Nat} {d : Nat} (x1 : Int32) (M : jb_Mi) (N : jb_Ml) {r : (Int32)} (h : zf_30 x1 M = some r) : jb_V Γ d zq_30 0 (jb_en 2 [(.ref 2), (.int x1)]) [] (zE L, M, N) (some (.int r)) (zE L, M, N) := zg_30 x1 M N h ⟨rfl, rfl⟩
-- X10_wordAt
set_option maxRecDepth 20000 in
theorem zg_31 {Γ : jb_G} {L : Nat} {d : Nat} (hd : 1 ≤ d) (x1 : Int32) (M : jb_Mi) (N : jb_Ml) {v : Option Value} {σ2 : jb_S} {r : (Int32)} (h : zf_31 x1 M = some r) (hK : (fun r : Int32 => v = some (.int r) ∧ σ2 = (zE L, M, N)) r) : jb_V Γ d zq_31 0 [some (.ref 2), some (.int x1), none] [] (zE L, M, N) v σ2 := by
  obtain ⟨d, rfl⟩ : ∃ e, d = e + 1 := ⟨d - 1, by omega⟩
  unfold zf_31 at h
  refine jb_seg 2 (pc' := 2) (ls' := [some (.ref 2), some (.int x1), none]) (st' := [(.int x1), (.ref 2)]) (σ' := (zE L, M, N)) (G := []) rfl trivial ?_
  obtain ⟨q1, h1, h⟩ := jb_bd_of h
  refine jb_callV (q' := zq_30) (As := [(.int x1)]) (rest := []) (σ1 := (zE L, M, N)) (v := some (.int q1)) rfl rfl zp_30 rfl (Nat.le_of_ble_eq_true rfl) (jb_cat rfl) (Nat.le_of_ble_eq_true rfl) (Nat.le_of_ble_eq_true rfl) (Or.inl rfl) rfl (ze_30 x1 M N h1) ?_
  refine jb_seg 6 (pc' := 12) (ls' := [some (.ref 2), some (.int x1), none]) (st' := [(.int (x1 + 1)), (.ref 2), (.int (q1 <<< ((24 : Int32) &&& 31)))]) (σ' := (zE L, M, N)) (G := []) rfl trivial ?_
  obtain ⟨q2, h2, h⟩ := jb_bd_of h
  refine jb_callV (q' := zq_30) (As := [(.int (x1 + 1))]) (rest := [(.int (q1 <<< ((24 : Int32) &&& 31)))]) (σ1 := (zE L, M, N)) (v := some (.int q2)) rfl rfl zp_30 rfl (Nat.le_of_ble_eq_true rfl) (jb_cat rfl) (Nat.le_of_ble_eq_true rfl) (Nat.le_of_ble_eq_true rfl) (Or.inl rfl) rfl (ze_30 (x1 + 1) M N h2) ?_
  refine jb_seg 9 (pc' := 25) (ls' := [some (.ref 2), some (.int x1), some (.int ((q1 <<< ((24 : Int32) &&& 31)) ||| (q2 <<< ((16 : Int32) &&& 31))))]) (st' := [(.int (x1 + 2)), (.ref 2), (.int ((q1 <<< ((24 : Int32) &&& 31)) ||| (q2 <<< ((16 : Int32) &&& 31))))]) (σ' := (zE L, M, N)) (G := []) rfl trivial ?_
  obtain ⟨q3, h3, h⟩ := jb_bd_of h
  refine jb_callV (q' := zq_30) (As := [(.int (x1 + 2))]) (rest := [(.int ((q1 <<< ((24 : Int32) &&& 31)) ||| (q2 <<< ((16 : Int32) &&& 31))))]) (σ1 := (zE L, M, N)) (v := some (.int q3)) rfl rfl zp_30 rfl (Nat.le_of_ble_eq_true rfl) (jb_cat rfl) (Nat.le_of_ble_eq_true rfl) (Nat.le_of_ble_eq_true rfl) (Or.inl rfl) rfl (ze_30 (x1 + 2) M N h3) ?_
  refine jb_seg 7 (pc' := 36) (ls' := [some (.ref 2), some (.int x1), some (.int ((q1 <<< ((24 : Int32) &&& 31)) ||| (q2 <<< ((16 : Int32) &&& 31))))]) (st' := [(.int (x1 + 3)), (.ref 2), (.int (((q1 <<< ((24 : Int32) &&& 31)) ||| (q2 <<< ((16 : Int32) &&& 31))) ||| (q3 <<< ((8 : Int32) &&& 31))))]) (σ' := (zE L, M, N)) (G := []) rfl trivial ?_
  obtain ⟨q4, h4, h⟩ := jb_bd_of h
  refine jb_callV (q' := zq_30) (As := [(.int (x1 + 3))]) (rest := [(.int (((q1 <<< ((24 : Int32) &&& 31)) ||| (q2 <<< ((16 : Int32) &&& 31))) ||| (q3 <<< ((8 : Int32) &&& 31))))]) (σ1 := (zE L, M, N)) (v := some (.int q4)) rfl rfl zp_30 rfl (Nat.le_of_ble_eq_true rfl) (jb_cat rfl) (Nat.le_of_ble_eq_true rfl) (Nat.le_of_ble_eq_true rfl) (Or.inl rfl) rfl (ze_30 (x1 + 3) M N h4) ?_
  refine jb_seg 1 (pc' := 40) (ls' := [some (.ref 2), some (.int x1), some (.int ((q1 <<< ((24 : Int32) &&& 31)) ||| (q2 <<< ((16 : Int32) &&& 31))))]) (st' := [(.int ((((q1 <<< ((24 : Int32) &&& 31)) ||| (q2 <<< ((16 : Int32) &&& 31))) ||| (q3 <<< ((8 : Int32) &&& 31))) ||| q4))]) (σ' := (zE L, M, N)) (G := []) rfl trivial ?_
  obtain rfl := Option.some.inj h
  obtain ⟨rfl, rfl⟩ := hK
  exact jb_reti rfl rfl
theorem ze_31 {Γ : jb_G} {L : Nat} {d : Nat} (hd : 1 ≤ d) (x1 : Int32) (M : jb_Mi) (N : jb_Ml) {r : (Int32)} (h : zf_31 x1 M = some r) : jb_V Γ d zq_31 0 (jb_en 3 [(.ref 2), (.int x1)]) [] (zE L, M, N) (some (.int r)) (zE L, M, N) := zg_31 hd x1 M N h ⟨rfl, rfl⟩
-- X0_feel
set_option maxRecDepth 20000 in
theorem zg_32_H7 {Γ : jb_G} {L : Nat} {d : Nat} (hd : 4 ≤ d) (M : jb_Mi) (s : Int32 × jb_Ml) {v : Option Value} {σ2 : jb_S} {r : ((Int32 × jb_Ml) ⊕ (jb_Mi × jb_Ml))} (h : zf_32_H7 M s = some r) (hK : (jb_K (fun s : Int32 × jb_Ml => jb_V Γ d zq_32 7 [some (.ref 64), none, some (.ref 2), some (.int s.1)] [] (zE L, M, s.2) v σ2) (fun r : jb_Mi × jb_Ml => v = none ∧ σ2 = (zE L, r.1, r.2))) r) : jb_V Γ d zq_32 7 [some (.ref 64), none, some (.ref 2), some (.int s.1)] [] (zE L, M, s.2) v σ2 := by
  obtain ⟨d, rfl⟩ : ∃ e, d = e + 1 := ⟨d - 1, by omega⟩
  unfold zf_32_H7 at h
  refine jb_seg 3 (pc' := (if s.1 < 4 then 12 else 40)) (ls' := [some (.ref 64), none, some (.ref 2), some (.int s.1)]) (st' := []) (σ' := (zE L, M, s.2)) (G := []) rfl trivial ?_
  refine jb_ite (fun c => ?_) (fun c => ?_)
  · replace h := (if_pos c).symm.trans h
    refine jb_seg 7 (pc' := 21) (ls' := [some (.ref 64), none, some (.ref 2), some (.int s.1)]) (st' := [(.int (4 * s.1)), (.ref 2), (.int s.1), (.ref 66)]) (σ' := (zE L, M, s.2)) (G := []) rfl trivial ?_
    obtain ⟨q2, h2, h⟩ := jb_bd_of h
    refine jb_callV (q' := zq_31) (As := [(.int (4 * s.1))]) (rest := [(.int s.1), (.ref 66)]) (σ1 := (zE L, M, s.2)) (v := some (.int q2)) rfl rfl zp_31 rfl (Nat.le_of_ble_eq_true rfl) (jb_cat rfl) (Nat.le_of_ble_eq_true rfl) (Nat.le_of_ble_eq_true rfl) (Or.inl rfl) rfl (ze_31 (by omega) (4 * s.1) M s.2 h2) ?_
    obtain ⟨g3, h⟩ := jb_gd_of h
    obtain ⟨g4, h⟩ := jb_gd_of h
    refine jb_seg 10 (pc' := 7) (ls' := [some (.ref 64), none, some (.ref 2), some (.int (s.1 + 1))]) (st' := []) (σ' := (zE L, M, (jb_ul s.2 66 (s.1).toNatClampNeg ((q2 : Int32).toInt64 - ((M 65 (s.1).toNatClampNeg) : Int32).toInt64)))) (G := [vp_in s.1 4, vp_in s.1 4]) rfl ⟨g3, g4⟩ ?_
    obtain rfl := Option.some.inj h
    exact jb_mask [true, false, true, true] rfl hK
  · replace h := (if_neg c).symm.trans h
    obtain rfl := Option.some.inj h
    obtain ⟨rfl, rfl⟩ := hK
    exact jb_retv rfl rfl
theorem zg_32_H7L {Γ : jb_G} {L : Nat} {d : Nat} (hd : 4 ≤ d) (M : jb_Mi) {v : Option Value} {σ2 : jb_S} {s : Int32 × jb_Ml} {r : (jb_Mi × jb_Ml)} (h : jb_lp (zf_32_H7 M) s = some r) (hK : (fun r : jb_Mi × jb_Ml => v = none ∧ σ2 = (zE L, r.1, r.2)) r) : jb_V Γ d zq_32 7 [some (.ref 64), none, some (.ref 2), some (.int s.1)] [] (zE L, M, s.2) v σ2 := by
  exact @jb_lp_ind (Int32 × jb_Ml) ((jb_Mi × jb_Ml)) (zf_32_H7 M) (fun s => jb_V Γ d zq_32 7 [some (.ref 64), none, some (.ref 2), some (.int s.1)] [] (zE L, M, s.2) v σ2) (fun r : jb_Mi × jb_Ml => v = none ∧ σ2 = (zE L, r.1, r.2)) (fun s r h hk => zg_32_H7 hd M s h hk) s r h hK
set_option maxRecDepth 20000 in
theorem zg_32 {Γ : jb_G} {L : Nat} {d : Nat} (hd : 4 ≤ d) (x1 : Int32) (M : jb_Mi) (N : jb_Ml) {v : Option Value} {σ2 : jb_S} {r : (jb_Mi × jb_Ml)} (h : zf_32 x1 M N = some r) (hK : (fun r : jb_Mi × jb_Ml => v = none ∧ σ2 = (zE L, r.1, r.2)) r) : jb_V Γ d zq_32 0 [some (.ref 64), some (.int x1), some (.ref 2), none] [] (zE L, M, N) v σ2 := by
  obtain ⟨d, rfl⟩ : ∃ e, d = e + 1 := ⟨d - 1, by omega⟩
  unfold zf_32 at h
  refine jb_seg 2 (pc' := 2) (ls' := [some (.ref 64), some (.int x1), some (.ref 2), none]) (st' := [(.int x1), (.ref 64)]) (σ' := (zE L, M, N)) (G := []) rfl trivial ?_
  obtain ⟨q1, h1, h⟩ := jb_bd_of h
  refine jb_callV (q' := zq_8) (As := [(.int x1)]) (rest := []) (σ1 := (zE L, q1, N)) (v := none) rfl rfl zp_8 rfl (Nat.le_of_ble_eq_true rfl) (jb_cat rfl) (Nat.le_of_ble_eq_true rfl) (Nat.le_of_ble_eq_true rfl) (Or.inl rfl) rfl (ze_8 (by omega) x1 M N h1) ?_
  refine jb_seg 2 (pc' := 7) (ls' := [some (.ref 64), some (.int x1), some (.ref 2), some (.int 0)]) (st' := []) (σ' := (zE L, q1, N)) (G := []) rfl trivial ?_
  exact jb_mask [true, false, true, true] rfl (zg_32_H7L hd q1 h hK)
theorem ze_32 {Γ : jb_G} {L : Nat} {d : Nat} (hd : 4 ≤ d) (x1 : Int32) (M : jb_Mi) (N : jb_Ml) {r : (jb_Mi × jb_Ml)} (h : zf_32 x1 M N = some r) : jb_V Γ d zq_32 0 (jb_en 4 [(.ref 64), (.int x1), (.ref 2)]) [] (zE L, M, N) (none) (zE L, r.1, r.2) := zg_32 hd x1 M N h ⟨rfl, rfl⟩
-- X0_spotOf
set_option maxRecDepth 20000 in
theorem zg_33_H86 {Γ : jb_G} {L : Nat} {d : Nat} (hd : 1 ≤ d) (x1 : Int32) (y4 : Int64) (y6 : Int64) (M : jb_Mi) (N : jb_Ml) (s : Int32) {v : Option Value} {σ2 : jb_S} {r : ((Int32) ⊕ (Int32))} (h : zf_33_H86 x1 y4 y6 N s = some r) (hK : (jb_K (fun s : Int32 => jb_V Γ d zq_33 86 [some (.ref 64), some (.int x1), none, none, some (.long y4), none, some (.long y6), none, some (.int s)] [] (zE L, M, N) v σ2) (fun r : Int32 => v = some (.int r) ∧ σ2 = (zE L, M, N))) r) : jb_V Γ d zq_33 86 [some (.ref 64), some (.int x1), none, none, some (.long y4), none, some (.long y6), none, some (.int s)] [] (zE L, M, N) v σ2 := by
  obtain ⟨d, rfl⟩ : ∃ e, d = e + 1 := ⟨d - 1, by omega⟩
  unfold zf_33_H86 at h
  refine jb_seg 3 (pc' := (if s < 4 then 92 else 126)) (ls' := [some (.ref 64), some (.int x1), none, none, some (.long y4), none, some (.long y6), none, some (.int s)]) (st' := []) (σ' := (zE L, M, N)) (G := []) rfl trivial ?_
  refine jb_ite (fun c => ?_) (fun c => ?_)
  · replace h := (if_pos c).symm.trans h
    obtain ⟨g3, h⟩ := jb_gd_of h
    refine jb_seg 11 (pc' := 109) (ls' := [some (.ref 64), some (.int x1), none, none, some (.long y4), none, some (.long y6), none, some (.int s)]) (st' := [(.int s), (.int (y6 : Int64).toInt32), (.int (y4 : Int64).toInt32), (.long (x1 : Int32).toInt64), (.long (N 66 s.toNatClampNeg))]) (σ' := (zE L, M, N)) (G := [vp_in s 4]) rfl g3 ?_
    refine jb_callS (q' := zq_5) (As := [(.int (y4 : Int64).toInt32), (.int (y6 : Int64).toInt32), (.int s)]) (rest := [(.long (x1 : Int32).toInt64), (.long (N 66 s.toNatClampNeg))]) (σ1 := (zE L, M, N)) (v := some (.int (zf_5 (y4 : Int64).toInt32 (y6 : Int64).toInt32 s))) rfl (Nat.le_of_ble_eq_true rfl) rfl zp_5 (jb_cat rfl) (Nat.le_of_ble_eq_true rfl) (Nat.le_of_ble_eq_true rfl) (Or.inl rfl) rfl (ze_5 ((y4 : Int64).toInt32) ((y6 : Int64).toInt32) s M N rfl) ?_
    refine jb_seg 4 (pc' := (if (lg_cmp (N 66 s.toNatClampNeg) ((x1 : Int32).toInt64 * ((zf_5 (y4 : Int64).toInt32 (y6 : Int64).toInt32 s) : Int32).toInt64)) = 0 then 120 else 118)) (ls' := [some (.ref 64), some (.int x1), none, none, some (.long y4), none, some (.long y6), none, some (.int s)]) (st' := []) (σ' := (zE L, M, N)) (G := []) rfl trivial ?_
    refine jb_ite (fun c => ?_) (fun c => ?_)
    · replace h := (if_pos c).symm.trans h
      refine jb_seg 2 (pc' := 86) (ls' := [some (.ref 64), some (.int x1), none, none, some (.long y4), none, some (.long y6), none, some (.int (s + 1))]) (st' := []) (σ' := (zE L, M, N)) (G := []) rfl trivial ?_
      obtain rfl := Option.some.inj h
      exact jb_mask [true, true, false, false, true, false, true, false, true] rfl hK
    · replace h := (if_neg c).symm.trans h
      refine jb_seg 1 (pc' := 119) (ls' := [some (.ref 64), some (.int x1), none, none, some (.long y4), none, some (.long y6), none, some (.int s)]) (st' := [(.int (-1))]) (σ' := (zE L, M, N)) (G := []) rfl trivial ?_
      obtain rfl := Option.some.inj h
      obtain ⟨rfl, rfl⟩ := hK
      exact jb_reti rfl rfl
  · replace h := (if_neg c).symm.trans h
    refine jb_seg 7 (pc' := 136) (ls' := [some (.ref 64), some (.int x1), none, none, some (.long y4), none, some (.long y6), none, some (.int s)]) (st' := [(.int (((y6 : Int64).toInt32 * 9) + (y4 : Int64).toInt32))]) (σ' := (zE L, M, N)) (G := []) rfl trivial ?_
    obtain rfl := Option.some.inj h
    obtain ⟨rfl, rfl⟩ := hK
    exact jb_reti rfl rfl
theorem zg_33_H86L {Γ : jb_G} {L : Nat} {d : Nat} (hd : 1 ≤ d) (x1 : Int32) (y4 : Int64) (y6 : Int64) (M : jb_Mi) (N : jb_Ml) {v : Option Value} {σ2 : jb_S} {s : Int32} {r : (Int32)} (h : jb_lp (zf_33_H86 x1 y4 y6 N) s = some r) (hK : (fun r : Int32 => v = some (.int r) ∧ σ2 = (zE L, M, N)) r) : jb_V Γ d zq_33 86 [some (.ref 64), some (.int x1), none, none, some (.long y4), none, some (.long y6), none, some (.int s)] [] (zE L, M, N) v σ2 := by
  exact @jb_lp_ind (Int32) ((Int32)) (zf_33_H86 x1 y4 y6 N) (fun s => jb_V Γ d zq_33 86 [some (.ref 64), some (.int x1), none, none, some (.long y4), none, some (.long y6), none, some (.int s)] [] (zE L, M, N) v σ2) (fun r : Int32 => v = some (.int r) ∧ σ2 = (zE L, M, N)) (fun s r h hk => zg_33_H86 hd x1 y4 y6 M N s h hk) s r h hK
set_option maxRecDepth 20000 in
theorem zg_33 {Γ : jb_G} {L : Nat} {d : Nat} (hd : 1 ≤ d) (x1 : Int32) (M : jb_Mi) (N : jb_Ml) {v : Option Value} {σ2 : jb_S} {r : (Int32)} (h : zf_33 x1 N = some r) (hK : (fun r : Int32 => v = some (.int r) ∧ σ2 = (zE L, M, N)) r) : jb_V Γ d zq_33 0 [some (.ref 64), some (.int x1), none, none, none, none, none, none, none] [] (zE L, M, N) v σ2 := by
  obtain ⟨d, rfl⟩ : ∃ e, d = e + 1 := ⟨d - 1, by omega⟩
  unfold zf_33 at h
  refine jb_seg 9 (pc' := (if 0 < (lg_cmp (8 * (x1 : Int32).toInt64) 0) then 15 else 13)) (ls' := [some (.ref 64), some (.int x1), some (.long (8 * (x1 : Int32).toInt64)), none, none, none, none, none, none]) (st' := []) (σ' := (zE L, M, N)) (G := []) rfl trivial ?_
  refine jb_ite (fun c => ?_) (fun c => ?_)
  · replace h := (if_pos c).symm.trans h
    obtain ⟨g1, h⟩ := jb_g0l_of h
    obtain ⟨g2, h⟩ := jb_g0l_of h
    refine jb_seg 28 (pc' := (if (lg_cmp (((N 66 1) + (N 66 3)) / (8 * (x1 : Int32).toInt64)) 0) < 0 then 81 else 56)) (ls' := [some (.ref 64), some (.int x1), some (.long (8 * (x1 : Int32).toInt64)), none, some (.long (((N 66 1) + (N 66 3)) / (8 * (x1 : Int32).toInt64))), none, some (.long (((N 66 2) + (N 66 3)) / (8 * (x1 : Int32).toInt64))), none, none]) (st' := []) (σ' := (zE L, M, N)) (G := [vp_in 1 4, vp_in 3 4, ¬ ((8 * (x1 : Int32).toInt64) : Int64) = 0, vp_in 2 4, vp_in 3 4, ¬ ((8 * (x1 : Int32).toInt64) : Int64) = 0]) rfl ⟨(show vp_in 1 4 from (by unfold vp_in; decide)), (show vp_in 3 4 from (by unfold vp_in; decide)), g1, (show vp_in 2 4 from (by unfold vp_in; decide)), (show vp_in 3 4 from (by unfold vp_in; decide)), g2⟩ ?_
    refine jb_ite (fun c => ?_) (fun c => ?_)
    · replace h := (if_pos c).symm.trans h
      refine jb_seg 1 (pc' := 82) (ls' := [some (.ref 64), some (.int x1), some (.long (8 * (x1 : Int32).toInt64)), none, some (.long (((N 66 1) + (N 66 3)) / (8 * (x1 : Int32).toInt64))), none, some (.long (((N 66 2) + (N 66 3)) / (8 * (x1 : Int32).toInt64))), none, none]) (st' := [(.int (-1))]) (σ' := (zE L, M, N)) (G := []) rfl trivial ?_
      obtain rfl := Option.some.inj h
      obtain ⟨rfl, rfl⟩ := hK
      exact jb_reti rfl rfl
    · replace h := (if_neg c).symm.trans h
      refine jb_seg 4 (pc' := (if 0 < (lg_cmp (((N 66 1) + (N 66 3)) / (8 * (x1 : Int32).toInt64)) 8) then 81 else 65)) (ls' := [some (.ref 64), some (.int x1), some (.long (8 * (x1 : Int32).toInt64)), none, some (.long (((N 66 1) + (N 66 3)) / (8 * (x1 : Int32).toInt64))), none, some (.long (((N 66 2) + (N 66 3)) / (8 * (x1 : Int32).toInt64))), none, none]) (st' := []) (σ' := (zE L, M, N)) (G := []) rfl trivial ?_
      refine jb_ite (fun c => ?_) (fun c => ?_)
      · replace h := (if_pos c).symm.trans h
        refine jb_seg 1 (pc' := 82) (ls' := [some (.ref 64), some (.int x1), some (.long (8 * (x1 : Int32).toInt64)), none, some (.long (((N 66 1) + (N 66 3)) / (8 * (x1 : Int32).toInt64))), none, some (.long (((N 66 2) + (N 66 3)) / (8 * (x1 : Int32).toInt64))), none, none]) (st' := [(.int (-1))]) (σ' := (zE L, M, N)) (G := []) rfl trivial ?_
        obtain rfl := Option.some.inj h
        obtain ⟨rfl, rfl⟩ := hK
        exact jb_reti rfl rfl
      · replace h := (if_neg c).symm.trans h
        refine jb_seg 4 (pc' := (if (lg_cmp (((N 66 2) + (N 66 3)) / (8 * (x1 : Int32).toInt64)) 0) < 0 then 81 else 72)) (ls' := [some (.ref 64), some (.int x1), some (.long (8 * (x1 : Int32).toInt64)), none, some (.long (((N 66 1) + (N 66 3)) / (8 * (x1 : Int32).toInt64))), none, some (.long (((N 66 2) + (N 66 3)) / (8 * (x1 : Int32).toInt64))), none, none]) (st' := []) (σ' := (zE L, M, N)) (G := []) rfl trivial ?_
        refine jb_ite (fun c => ?_) (fun c => ?_)
        · replace h := (if_pos c).symm.trans h
          refine jb_seg 1 (pc' := 82) (ls' := [some (.ref 64), some (.int x1), some (.long (8 * (x1 : Int32).toInt64)), none, some (.long (((N 66 1) + (N 66 3)) / (8 * (x1 : Int32).toInt64))), none, some (.long (((N 66 2) + (N 66 3)) / (8 * (x1 : Int32).toInt64))), none, none]) (st' := [(.int (-1))]) (σ' := (zE L, M, N)) (G := []) rfl trivial ?_
          obtain rfl := Option.some.inj h
          obtain ⟨rfl, rfl⟩ := hK
          exact jb_reti rfl rfl
        · replace h := (if_neg c).symm.trans h
          refine jb_seg 4 (pc' := (if 0 < (lg_cmp (((N 66 2) + (N 66 3)) / (8 * (x1 : Int32).toInt64)) 8) then 81 else 83)) (ls' := [some (.ref 64), some (.int x1), some (.long (8 * (x1 : Int32).toInt64)), none, some (.long (((N 66 1) + (N 66 3)) / (8 * (x1 : Int32).toInt64))), none, some (.long (((N 66 2) + (N 66 3)) / (8 * (x1 : Int32).toInt64))), none, none]) (st' := []) (σ' := (zE L, M, N)) (G := []) rfl trivial ?_
          refine jb_ite (fun c => ?_) (fun c => ?_)
          · replace h := (if_pos c).symm.trans h
            refine jb_seg 1 (pc' := 82) (ls' := [some (.ref 64), some (.int x1), some (.long (8 * (x1 : Int32).toInt64)), none, some (.long (((N 66 1) + (N 66 3)) / (8 * (x1 : Int32).toInt64))), none, some (.long (((N 66 2) + (N 66 3)) / (8 * (x1 : Int32).toInt64))), none, none]) (st' := [(.int (-1))]) (σ' := (zE L, M, N)) (G := []) rfl trivial ?_
            obtain rfl := Option.some.inj h
            obtain ⟨rfl, rfl⟩ := hK
            exact jb_reti rfl rfl
          · replace h := (if_neg c).symm.trans h
            refine jb_seg 2 (pc' := 86) (ls' := [some (.ref 64), some (.int x1), some (.long (8 * (x1 : Int32).toInt64)), none, some (.long (((N 66 1) + (N 66 3)) / (8 * (x1 : Int32).toInt64))), none, some (.long (((N 66 2) + (N 66 3)) / (8 * (x1 : Int32).toInt64))), none, some (.int 0)]) (st' := []) (σ' := (zE L, M, N)) (G := []) rfl trivial ?_
            exact jb_mask [true, true, false, false, true, false, true, false, true] rfl (zg_33_H86L hd x1 (((N 66 1) + (N 66 3)) / (8 * (x1 : Int32).toInt64)) (((N 66 2) + (N 66 3)) / (8 * (x1 : Int32).toInt64)) M N h hK)
  · replace h := (if_neg c).symm.trans h
    refine jb_seg 1 (pc' := 14) (ls' := [some (.ref 64), some (.int x1), some (.long (8 * (x1 : Int32).toInt64)), none, none, none, none, none, none]) (st' := [(.int (-1))]) (σ' := (zE L, M, N)) (G := []) rfl trivial ?_
    obtain rfl := Option.some.inj h
    obtain ⟨rfl, rfl⟩ := hK
    exact jb_reti rfl rfl
theorem ze_33 {Γ : jb_G} {L : Nat} {d : Nat} (hd : 1 ≤ d) (x1 : Int32) (M : jb_Mi) (N : jb_Ml) {r : (Int32)} (h : zf_33 x1 N = some r) : jb_V Γ d zq_33 0 (jb_en 9 [(.ref 64), (.int x1)]) [] (zE L, M, N) (some (.int r)) (zE L, M, N) := zg_33 hd x1 M N h ⟨rfl, rfl⟩
