-- X0_explain
set_option maxRecDepth 20000 in
theorem zg_34_H2 {Γ : jb_G} {L : Nat} {d : Nat} (hd : 1 ≤ d) (x1 : Int32) (x2 : Int32) (M : jb_Mi) (s : Int32 × jb_Ml) {v : Option Value} {σ2 : jb_S} {r : ((Int32 × jb_Ml) ⊕ (jb_Ml))} (h : zf_34_H2 x1 x2 s = some r) (hK : (jb_K (fun s : Int32 × jb_Ml => jb_V Γ d zq_34 2 [some (.ref 64), some (.int x1), some (.int x2), some (.int s.1)] [] (zE L, M, s.2) v σ2) (fun r : jb_Ml => v = none ∧ σ2 = (zE L, M, r))) r) : jb_V Γ d zq_34 2 [some (.ref 64), some (.int x1), some (.int x2), some (.int s.1)] [] (zE L, M, s.2) v σ2 := by
  obtain ⟨d, rfl⟩ : ∃ e, d = e + 1 := ⟨d - 1, by omega⟩
  unfold zf_34_H2 at h
  refine jb_seg 3 (pc' := (if s.1 < 4 then 7 else 38)) (ls' := [some (.ref 64), some (.int x1), some (.int x2), some (.int s.1)]) (st' := []) (σ' := (zE L, M, s.2)) (G := []) rfl trivial ?_
  refine jb_ite (fun c => ?_) (fun c => ?_)
  · replace h := (if_pos c).symm.trans h
    obtain ⟨g1, h⟩ := jb_gd_of h
    refine jb_seg 14 (pc' := 25) (ls' := [some (.ref 64), some (.int x1), some (.int x2), some (.int s.1)]) (st' := [(.int s.1), (.int (x1 / 9)), (.int (x1 - x1 / 9 * 9)), (.long (x2 : Int32).toInt64), (.long (s.2 66 (s.1).toNatClampNeg)), (.int s.1), (.ref 66)]) (σ' := (zE L, M, s.2)) (G := [vp_in s.1 4, ¬ (9 : Int32) = 0, ¬ (9 : Int32) = 0]) rfl ⟨g1, (show ¬ (9 : Int32) = 0 from (by decide)), (show ¬ (9 : Int32) = 0 from (by decide))⟩ ?_
    refine jb_callS (q' := zq_5) (As := [(.int (x1 - x1 / 9 * 9)), (.int (x1 / 9)), (.int s.1)]) (rest := [(.long (x2 : Int32).toInt64), (.long (s.2 66 (s.1).toNatClampNeg)), (.int s.1), (.ref 66)]) (σ1 := (zE L, M, s.2)) (v := some (.int (zf_5 (x1 - x1 / 9 * 9) (x1 / 9) s.1))) rfl (Nat.le_of_ble_eq_true rfl) rfl zp_5 (jb_cat rfl) (Nat.le_of_ble_eq_true rfl) (Nat.le_of_ble_eq_true rfl) (Or.inl rfl) rfl (ze_5 (x1 - x1 / 9 * 9) (x1 / 9) s.1 M s.2 rfl) ?_
    obtain ⟨g2, h⟩ := jb_gd_of h
    refine jb_seg 6 (pc' := 2) (ls' := [some (.ref 64), some (.int x1), some (.int x2), some (.int (s.1 + 1))]) (st' := []) (σ' := (zE L, M, (jb_ul s.2 66 (s.1).toNatClampNeg ((s.2 66 (s.1).toNatClampNeg) + ((x2 : Int32).toInt64 * ((zf_5 (x1 - x1 / 9 * 9) (x1 / 9) s.1) : Int32).toInt64))))) (G := [vp_in s.1 4]) rfl g2 ?_
    obtain rfl := Option.some.inj h
    exact jb_mask [true, true, true, true] rfl hK
  · replace h := (if_neg c).symm.trans h
    obtain rfl := Option.some.inj h
    obtain ⟨rfl, rfl⟩ := hK
    exact jb_retv rfl rfl
theorem zg_34_H2L {Γ : jb_G} {L : Nat} {d : Nat} (hd : 1 ≤ d) (x1 : Int32) (x2 : Int32) (M : jb_Mi) {v : Option Value} {σ2 : jb_S} {s : Int32 × jb_Ml} {r : (jb_Ml)} (h : jb_lp (zf_34_H2 x1 x2) s = some r) (hK : (fun r : jb_Ml => v = none ∧ σ2 = (zE L, M, r)) r) : jb_V Γ d zq_34 2 [some (.ref 64), some (.int x1), some (.int x2), some (.int s.1)] [] (zE L, M, s.2) v σ2 := by
  exact @jb_lp_ind (Int32 × jb_Ml) ((jb_Ml)) (zf_34_H2 x1 x2) (fun s => jb_V Γ d zq_34 2 [some (.ref 64), some (.int x1), some (.int x2), some (.int s.1)] [] (zE L, M, s.2) v σ2) (fun r : jb_Ml => v = none ∧ σ2 = (zE L, M, r)) (fun s r h hk => zg_34_H2 hd x1 x2 M s h hk) s r h hK
set_option maxRecDepth 20000 in
theorem zg_34 {Γ : jb_G} {L : Nat} {d : Nat} (hd : 1 ≤ d) (x1 : Int32) (x2 : Int32) (M : jb_Mi) (N : jb_Ml) {v : Option Value} {σ2 : jb_S} {r : (jb_Ml)} (h : zf_34 x1 x2 N = some r) (hK : (fun r : jb_Ml => v = none ∧ σ2 = (zE L, M, r)) r) : jb_V Γ d zq_34 0 [some (.ref 64), some (.int x1), some (.int x2), none] [] (zE L, M, N) v σ2 := by
  obtain ⟨d, rfl⟩ : ∃ e, d = e + 1 := ⟨d - 1, by omega⟩
  unfold zf_34 at h
  refine jb_seg 2 (pc' := 2) (ls' := [some (.ref 64), some (.int x1), some (.int x2), some (.int 0)]) (st' := []) (σ' := (zE L, M, N)) (G := []) rfl trivial ?_
  exact jb_mask [true, true, true, true] rfl (zg_34_H2L hd x1 x2 M h hK)
theorem ze_34 {Γ : jb_G} {L : Nat} {d : Nat} (hd : 1 ≤ d) (x1 : Int32) (x2 : Int32) (M : jb_Mi) (N : jb_Ml) {r : (jb_Ml)} (h : zf_34 x1 x2 N = some r) : jb_V Γ d zq_34 0 (jb_en 4 [(.ref 64), (.int x1), (.int x2)]) [] (zE L, M, N) (none) (zE L, M, r) := zg_34 hd x1 x2 M N h ⟨rfl, rfl⟩
-- X0_waysOfTwo
set_option maxRecDepth 20000 in
theorem zg_35_J56 {Γ : jb_G} {L : Nat} {d : Nat} (hd : 2 ≤ d) (x1 : Int32) (x2 : Int32) (x3 : Int32) (x4 : Int32) (M : jb_Mi) (N : jb_Ml) {v : Option Value} {σ2 : jb_S} {r : ((Int32 × Int32 × jb_Mi × jb_Ml) ⊕ (Int32 × jb_Mi × jb_Ml))} (h : zf_35_J56 x1 x2 x3 x4 M N = some r) (hK : (jb_K (fun s : Int32 × Int32 × jb_Mi × jb_Ml => jb_V Γ d zq_35 10 [some (.ref 64), some (.int x1), some (.int x2), some (.int s.1), some (.int s.2.1)] [] (zE L, s.2.2.1, s.2.2.2) v σ2) (fun r : Int32 × jb_Mi × jb_Ml => v = some (.int r.1) ∧ σ2 = (zE L, r.2.1, r.2.2))) r) : jb_V Γ d zq_35 56 [some (.ref 64), some (.int x1), some (.int x2), some (.int x3), some (.int x4)] [] (zE L, M, N) v σ2 := by
  obtain ⟨d, rfl⟩ : ∃ e, d = e + 1 := ⟨d - 1, by omega⟩
  unfold zf_35_J56 at h
  refine jb_seg 3 (pc' := 60) (ls' := [some (.ref 64), some (.int x1), some (.int x2), some (.int x3), some (.int x4)]) (st' := [(.int x1), (.int x4), (.ref 64)]) (σ' := (zE L, M, N)) (G := []) rfl trivial ?_
  obtain ⟨q3, h3, h⟩ := jb_bd_of h
  refine jb_callV (q' := zq_34) (As := [(.int x4), (.int x1)]) (rest := []) (σ1 := (zE L, M, q3)) (v := none) rfl rfl zp_34 rfl (Nat.le_of_ble_eq_true rfl) (jb_cat rfl) (Nat.le_of_ble_eq_true rfl) (Nat.le_of_ble_eq_true rfl) (Or.inl rfl) rfl (ze_34 (by omega) x4 x1 M N h3) ?_
  refine jb_seg 2 (pc' := 10) (ls' := [some (.ref 64), some (.int x1), some (.int x2), some (.int x3), some (.int (x4 + 1))]) (st' := []) (σ' := (zE L, M, q3)) (G := []) rfl trivial ?_
  obtain rfl := Option.some.inj h
  exact jb_mask [true, true, true, true, true] rfl hK
set_option maxRecDepth 20000 in
theorem zg_35_J53 {Γ : jb_G} {L : Nat} {d : Nat} (hd : 2 ≤ d) (x1 : Int32) (x2 : Int32) (x3 : Int32) (x4 : Int32) (s1 : Int32) (M : jb_Mi) (N : jb_Ml) {v : Option Value} {σ2 : jb_S} {r : ((Int32 × Int32 × jb_Mi × jb_Ml) ⊕ (Int32 × jb_Mi × jb_Ml))} (h : zf_35_J53 x1 x2 x3 x4 s1 M N = some r) (hK : (jb_K (fun s : Int32 × Int32 × jb_Mi × jb_Ml => jb_V Γ d zq_35 10 [some (.ref 64), some (.int x1), some (.int x2), some (.int s.1), some (.int s.2.1)] [] (zE L, s.2.2.1, s.2.2.2) v σ2) (fun r : Int32 × jb_Mi × jb_Ml => v = some (.int r.1) ∧ σ2 = (zE L, r.2.1, r.2.2))) r) : jb_V Γ d zq_35 53 [some (.ref 64), some (.int x1), some (.int x2), some (.int x3), some (.int x4)] [(.int s1), (.ref 64)] (zE L, M, N) v σ2 := by
  obtain ⟨d, rfl⟩ : ∃ e, d = e + 1 := ⟨d - 1, by omega⟩
  unfold zf_35_J53 at h
  refine jb_seg 1 (pc' := 56) (ls' := [some (.ref 64), some (.int x1), some (.int x2), some (.int x3), some (.int x4)]) (st' := []) (σ' := (zE L, (jb_up M 64 12 s1), N)) (G := []) rfl trivial ?_
  exact jb_mask [true, true, true, true, true] rfl (zg_35_J56 hd x1 x2 x3 x4 (jb_up M 64 12 s1) N h hK)
set_option maxRecDepth 20000 in
theorem zg_35_H10 {Γ : jb_G} {L : Nat} {d : Nat} (hd : 2 ≤ d) (x1 : Int32) (x2 : Int32) (s : Int32 × Int32 × jb_Mi × jb_Ml) {v : Option Value} {σ2 : jb_S} {r : ((Int32 × Int32 × jb_Mi × jb_Ml) ⊕ (Int32 × jb_Mi × jb_Ml))} (h : zf_35_H10 x1 x2 s = some r) (hK : (jb_K (fun s : Int32 × Int32 × jb_Mi × jb_Ml => jb_V Γ d zq_35 10 [some (.ref 64), some (.int x1), some (.int x2), some (.int s.1), some (.int s.2.1)] [] (zE L, s.2.2.1, s.2.2.2) v σ2) (fun r : Int32 × jb_Mi × jb_Ml => v = some (.int r.1) ∧ σ2 = (zE L, r.2.1, r.2.2))) r) : jb_V Γ d zq_35 10 [some (.ref 64), some (.int x1), some (.int x2), some (.int s.1), some (.int s.2.1)] [] (zE L, s.2.2.1, s.2.2.2) v σ2 := by
  obtain ⟨d, rfl⟩ : ∃ e, d = e + 1 := ⟨d - 1, by omega⟩
  unfold zf_35_H10 at h
  refine jb_seg 3 (pc' := (if s.2.1 < 81 then 17 else 69)) (ls' := [some (.ref 64), some (.int x1), some (.int x2), some (.int s.1), some (.int s.2.1)]) (st' := []) (σ' := (zE L, s.2.2.1, s.2.2.2)) (G := []) rfl trivial ?_
  refine jb_ite (fun c => ?_) (fun c => ?_)
  · replace h := (if_pos c).symm.trans h
    refine jb_seg 4 (pc' := 22) (ls' := [some (.ref 64), some (.int x1), some (.int x2), some (.int s.1), some (.int s.2.1)]) (st' := [(.int (-x1)), (.int s.2.1), (.ref 64)]) (σ' := (zE L, s.2.2.1, s.2.2.2)) (G := []) rfl trivial ?_
    obtain ⟨q1, h1, h⟩ := jb_bd_of h
    refine jb_callV (q' := zq_34) (As := [(.int s.2.1), (.int (-x1))]) (rest := []) (σ1 := (zE L, s.2.2.1, q1)) (v := none) rfl rfl zp_34 rfl (Nat.le_of_ble_eq_true rfl) (jb_cat rfl) (Nat.le_of_ble_eq_true rfl) (Nat.le_of_ble_eq_true rfl) (Or.inl rfl) rfl (ze_34 (by omega) s.2.1 (-x1) s.2.2.1 s.2.2.2 h1) ?_
    refine jb_seg 2 (pc' := 27) (ls' := [some (.ref 64), some (.int x1), some (.int x2), some (.int s.1), some (.int s.2.1)]) (st' := [(.int x2), (.ref 64)]) (σ' := (zE L, s.2.2.1, q1)) (G := []) rfl trivial ?_
    obtain ⟨q2, h2, h⟩ := jb_bd_of h
    refine jb_callV (q' := zq_33) (As := [(.int x2)]) (rest := []) (σ1 := (zE L, s.2.2.1, q1)) (v := some (.int q2)) rfl rfl zp_33 rfl (Nat.le_of_ble_eq_true rfl) (jb_cat rfl) (Nat.le_of_ble_eq_true rfl) (Nat.le_of_ble_eq_true rfl) (Or.inl rfl) rfl (ze_33 (by omega) x2 s.2.2.1 q1 h2) ?_
    refine jb_seg 1 (pc' := (if q2 < 0 then 56 else 33)) (ls' := [some (.ref 64), some (.int x1), some (.int x2), some (.int s.1), some (.int s.2.1)]) (st' := []) (σ' := (zE L, s.2.2.1, q1)) (G := []) rfl trivial ?_
    refine jb_ite (fun c => ?_) (fun c => ?_)
    · replace h := (if_pos c).symm.trans h
      exact jb_mask [true, true, true, true, true] rfl (zg_35_J56 hd x1 x2 s.1 s.2.1 s.2.2.1 q1 h hK)
    · replace h := (if_neg c).symm.trans h
      refine jb_seg 5 (pc' := (if (s.2.2.1 64 12) < 0 then 44 else 49)) (ls' := [some (.ref 64), some (.int x1), some (.int x2), some (.int (s.1 + 1)), some (.int s.2.1)]) (st' := [(.ref 64)]) (σ' := (zE L, s.2.2.1, q1)) (G := []) rfl trivial ?_
      refine jb_ite (fun c => ?_) (fun c => ?_)
      · replace h := (if_pos c).symm.trans h
        refine jb_seg 2 (pc' := 53) (ls' := [some (.ref 64), some (.int x1), some (.int x2), some (.int (s.1 + 1)), some (.int s.2.1)]) (st' := [(.int s.2.1), (.ref 64)]) (σ' := (zE L, s.2.2.1, q1)) (G := []) rfl trivial ?_
        exact jb_mask [true, true, true, true, true] rfl (zg_35_J53 hd x1 x2 (s.1 + 1) s.2.1 s.2.1 s.2.2.1 q1 h hK)
      · replace h := (if_neg c).symm.trans h
        refine jb_seg 2 (pc' := 53) (ls' := [some (.ref 64), some (.int x1), some (.int x2), some (.int (s.1 + 1)), some (.int s.2.1)]) (st' := [(.int (s.2.2.1 64 12)), (.ref 64)]) (σ' := (zE L, s.2.2.1, q1)) (G := []) rfl trivial ?_
        exact jb_mask [true, true, true, true, true] rfl (zg_35_J53 hd x1 x2 (s.1 + 1) s.2.1 (s.2.2.1 64 12) s.2.2.1 q1 h hK)
  · replace h := (if_neg c).symm.trans h
    refine jb_seg 1 (pc' := 70) (ls' := [some (.ref 64), some (.int x1), some (.int x2), some (.int s.1), some (.int s.2.1)]) (st' := [(.int s.1)]) (σ' := (zE L, s.2.2.1, s.2.2.2)) (G := []) rfl trivial ?_
    obtain rfl := Option.some.inj h
    obtain ⟨rfl, rfl⟩ := hK
    exact jb_reti rfl rfl
theorem zg_35_H10L {Γ : jb_G} {L : Nat} {d : Nat} (hd : 2 ≤ d) (x1 : Int32) (x2 : Int32) {v : Option Value} {σ2 : jb_S} {s : Int32 × Int32 × jb_Mi × jb_Ml} {r : (Int32 × jb_Mi × jb_Ml)} (h : jb_lp (zf_35_H10 x1 x2) s = some r) (hK : (fun r : Int32 × jb_Mi × jb_Ml => v = some (.int r.1) ∧ σ2 = (zE L, r.2.1, r.2.2)) r) : jb_V Γ d zq_35 10 [some (.ref 64), some (.int x1), some (.int x2), some (.int s.1), some (.int s.2.1)] [] (zE L, s.2.2.1, s.2.2.2) v σ2 := by
  exact @jb_lp_ind (Int32 × Int32 × jb_Mi × jb_Ml) ((Int32 × jb_Mi × jb_Ml)) (zf_35_H10 x1 x2) (fun s => jb_V Γ d zq_35 10 [some (.ref 64), some (.int x1), some (.int x2), some (.int s.1), some (.int s.2.1)] [] (zE L, s.2.2.1, s.2.2.2) v σ2) (fun r : Int32 × jb_Mi × jb_Ml => v = some (.int r.1) ∧ σ2 = (zE L, r.2.1, r.2.2)) (fun s r h hk => zg_35_H10 hd x1 x2 s h hk) s r h hK
set_option maxRecDepth 20000 in
theorem zg_35 {Γ : jb_G} {L : Nat} {d : Nat} (hd : 2 ≤ d) (x1 : Int32) (x2 : Int32) (M : jb_Mi) (N : jb_Ml) {v : Option Value} {σ2 : jb_S} {r : (Int32 × jb_Mi × jb_Ml)} (h : zf_35 x1 x2 M N = some r) (hK : (fun r : Int32 × jb_Mi × jb_Ml => v = some (.int r.1) ∧ σ2 = (zE L, r.2.1, r.2.2)) r) : jb_V Γ d zq_35 0 [some (.ref 64), some (.int x1), some (.int x2), none, none] [] (zE L, M, N) v σ2 := by
  obtain ⟨d, rfl⟩ : ∃ e, d = e + 1 := ⟨d - 1, by omega⟩
  unfold zf_35 at h
  refine jb_seg 7 (pc' := 10) (ls' := [some (.ref 64), some (.int x1), some (.int x2), some (.int 0), some (.int 0)]) (st' := []) (σ' := (zE L, (jb_up M 64 12 (-1)), N)) (G := []) rfl trivial ?_
  exact jb_mask [true, true, true, true, true] rfl (zg_35_H10L hd x1 x2 h hK)
theorem ze_35 {Γ : jb_G} {L : Nat} {d : Nat} (hd : 2 ≤ d) (x1 : Int32) (x2 : Int32) (M : jb_Mi) (N : jb_Ml) {r : (Int32 × jb_Mi × jb_Ml)} (h : zf_35 x1 x2 M N = some r) : jb_V Γ d zq_35 0 (jb_en 5 [(.ref 64), (.int x1), (.int x2)]) [] (zE L, M, N) (some (.int r.1)) (zE L, r.2.1, r.2.2) := zg_35 hd x1 x2 M N h ⟨rfl, rfl⟩
-- X9_isUp
set_option maxRecDepth 20000 in
theorem zg_37 {Γ : jb_G} {L : Nat} {d : Nat} (o : Nat) (x1 : Int32) (M : jb_Mi) (N : jb_Ml) (hp : o = 4 ∨ o = 24) {v : Option Value} {σ2 : jb_S} {r : (Bool)} (h : zf_37 o x1 M = some r) (hK : (fun r : Bool => v = some (.int (jb_b2i r)) ∧ σ2 = (zE L, M, N)) r) : jb_V Γ d zq_37 0 [some (.ref o), some (.int x1)] [] (zE L, M, N) v σ2 := by
  rcases hp with rfl | rfl
  · unfold zf_37 at h
    refine jb_seg 2 (pc' := (if x1 < 0 then 34 else 4)) (ls' := [some (.ref 4), some (.int x1)]) (st' := []) (σ' := (zE L, M, N)) (G := []) rfl trivial ?_
    refine jb_ite (fun c => ?_) (fun c => ?_)
    · replace h := (if_pos c).symm.trans h
      refine jb_seg 1 (pc' := 35) (ls' := [some (.ref 4), some (.int x1)]) (st' := [(.int 0)]) (σ' := (zE L, M, N)) (G := []) rfl trivial ?_
      obtain rfl := Option.some.inj h
      obtain ⟨rfl, rfl⟩ := hK
      exact jb_retz (by decide) rfl rfl
    · replace h := (if_neg c).symm.trans h
      refine jb_seg 3 (pc' := (if x1 < 6 then 10 else 34)) (ls' := [some (.ref 4), some (.int x1)]) (st' := []) (σ' := (zE L, M, N)) (G := []) rfl trivial ?_
      refine jb_ite (fun c => ?_) (fun c => ?_)
      · replace h := (if_pos c).symm.trans h
        obtain ⟨g1, h⟩ := jb_gd_of h
        refine jb_seg 5 (pc' := (if 0 < (M (4 + 1) x1.toNatClampNeg) then 19 else 34)) (ls' := [some (.ref 4), some (.int x1)]) (st' := []) (σ' := (zE L, M, N)) (G := [vp_in x1 6]) rfl g1 ?_
        refine jb_ite (fun c => ?_) (fun c => ?_)
        · replace h := (if_pos c).symm.trans h
          obtain ⟨g2, h⟩ := jb_gd_of h
          refine jb_seg 6 (pc' := (if (M (4 + 3) x1.toNatClampNeg) < 9 then 30 else 34)) (ls' := [some (.ref 4), some (.int x1)]) (st' := []) (σ' := (zE L, M, N)) (G := [vp_in x1 6]) rfl g2 ?_
          refine jb_ite (fun c => ?_) (fun c => ?_)
          · replace h := (if_pos c).symm.trans h
            refine jb_seg 2 (pc' := 35) (ls' := [some (.ref 4), some (.int x1)]) (st' := [(.int 1)]) (σ' := (zE L, M, N)) (G := []) rfl trivial ?_
            obtain rfl := Option.some.inj h
            obtain ⟨rfl, rfl⟩ := hK
            exact jb_retz (by decide) rfl rfl
          · replace h := (if_neg c).symm.trans h
            refine jb_seg 1 (pc' := 35) (ls' := [some (.ref 4), some (.int x1)]) (st' := [(.int 0)]) (σ' := (zE L, M, N)) (G := []) rfl trivial ?_
            obtain rfl := Option.some.inj h
            obtain ⟨rfl, rfl⟩ := hK
            exact jb_retz (by decide) rfl rfl
        · replace h := (if_neg c).symm.trans h
          refine jb_seg 1 (pc' := 35) (ls' := [some (.ref 4), some (.int x1)]) (st' := [(.int 0)]) (σ' := (zE L, M, N)) (G := []) rfl trivial ?_
          obtain rfl := Option.some.inj h
          obtain ⟨rfl, rfl⟩ := hK
          exact jb_retz (by decide) rfl rfl
      · replace h := (if_neg c).symm.trans h
        refine jb_seg 1 (pc' := 35) (ls' := [some (.ref 4), some (.int x1)]) (st' := [(.int 0)]) (σ' := (zE L, M, N)) (G := []) rfl trivial ?_
        obtain rfl := Option.some.inj h
        obtain ⟨rfl, rfl⟩ := hK
        exact jb_retz (by decide) rfl rfl
  · unfold zf_37 at h
    refine jb_seg 2 (pc' := (if x1 < 0 then 34 else 4)) (ls' := [some (.ref 24), some (.int x1)]) (st' := []) (σ' := (zE L, M, N)) (G := []) rfl trivial ?_
    refine jb_ite (fun c => ?_) (fun c => ?_)
    · replace h := (if_pos c).symm.trans h
      refine jb_seg 1 (pc' := 35) (ls' := [some (.ref 24), some (.int x1)]) (st' := [(.int 0)]) (σ' := (zE L, M, N)) (G := []) rfl trivial ?_
      obtain rfl := Option.some.inj h
      obtain ⟨rfl, rfl⟩ := hK
      exact jb_retz (by decide) rfl rfl
    · replace h := (if_neg c).symm.trans h
      refine jb_seg 3 (pc' := (if x1 < 6 then 10 else 34)) (ls' := [some (.ref 24), some (.int x1)]) (st' := []) (σ' := (zE L, M, N)) (G := []) rfl trivial ?_
      refine jb_ite (fun c => ?_) (fun c => ?_)
      · replace h := (if_pos c).symm.trans h
        obtain ⟨g1, h⟩ := jb_gd_of h
        refine jb_seg 5 (pc' := (if 0 < (M (24 + 1) x1.toNatClampNeg) then 19 else 34)) (ls' := [some (.ref 24), some (.int x1)]) (st' := []) (σ' := (zE L, M, N)) (G := [vp_in x1 6]) rfl g1 ?_
        refine jb_ite (fun c => ?_) (fun c => ?_)
        · replace h := (if_pos c).symm.trans h
          obtain ⟨g2, h⟩ := jb_gd_of h
          refine jb_seg 6 (pc' := (if (M (24 + 3) x1.toNatClampNeg) < 9 then 30 else 34)) (ls' := [some (.ref 24), some (.int x1)]) (st' := []) (σ' := (zE L, M, N)) (G := [vp_in x1 6]) rfl g2 ?_
          refine jb_ite (fun c => ?_) (fun c => ?_)
          · replace h := (if_pos c).symm.trans h
            refine jb_seg 2 (pc' := 35) (ls' := [some (.ref 24), some (.int x1)]) (st' := [(.int 1)]) (σ' := (zE L, M, N)) (G := []) rfl trivial ?_
            obtain rfl := Option.some.inj h
            obtain ⟨rfl, rfl⟩ := hK
            exact jb_retz (by decide) rfl rfl
          · replace h := (if_neg c).symm.trans h
            refine jb_seg 1 (pc' := 35) (ls' := [some (.ref 24), some (.int x1)]) (st' := [(.int 0)]) (σ' := (zE L, M, N)) (G := []) rfl trivial ?_
            obtain rfl := Option.some.inj h
            obtain ⟨rfl, rfl⟩ := hK
            exact jb_retz (by decide) rfl rfl
        · replace h := (if_neg c).symm.trans h
          refine jb_seg 1 (pc' := 35) (ls' := [some (.ref 24), some (.int x1)]) (st' := [(.int 0)]) (σ' := (zE L, M, N)) (G := []) rfl trivial ?_
          obtain rfl := Option.some.inj h
          obtain ⟨rfl, rfl⟩ := hK
          exact jb_retz (by decide) rfl rfl
      · replace h := (if_neg c).symm.trans h
        refine jb_seg 1 (pc' := 35) (ls' := [some (.ref 24), some (.int x1)]) (st' := [(.int 0)]) (σ' := (zE L, M, N)) (G := []) rfl trivial ?_
        obtain rfl := Option.some.inj h
        obtain ⟨rfl, rfl⟩ := hK
        exact jb_retz (by decide) rfl rfl
theorem ze_37 {Γ : jb_G} {L : Nat} {d : Nat} (o : Nat) (x1 : Int32) (M : jb_Mi) (N : jb_Ml) (hp : o = 4 ∨ o = 24) {r : (Bool)} (h : zf_37 o x1 M = some r) : jb_V Γ d zq_37 0 (jb_en 2 [(.ref o), (.int x1)]) [] (zE L, M, N) (some (.int (jb_b2i r))) (zE L, M, N) := zg_37 o x1 M N hp h ⟨rfl, rfl⟩
-- X1_nextCorner
set_option maxRecDepth 20000 in
theorem zg_38_J38 {Γ : jb_G} {L : Nat} {d : Nat} (hd : 3 ≤ d) (x1 : Int32) (x2 : Int32) (x4 : Int32) (M : jb_Mi) (N : jb_Ml) {v : Option Value} {σ2 : jb_S} {r : ((Int32) ⊕ (Int32))} (h : zf_38_J38 x1 x2 x4 M = some r) (hK : (jb_K (fun s : Int32 => jb_V Γ d zq_38 3 [some (.ref 41), some (.int x1), some (.int x2), none, some (.int s)] [] (zE L, M, N) v σ2) (fun r : Int32 => v = some (.int r) ∧ σ2 = (zE L, M, N))) r) : jb_V Γ d zq_38 38 [some (.ref 41), some (.int x1), some (.int x2), none, some (.int x4)] [] (zE L, M, N) v σ2 := by
  obtain ⟨d, rfl⟩ : ∃ e, d = e + 1 := ⟨d - 1, by omega⟩
  unfold zf_38_J38 at h
  refine jb_seg 2 (pc' := 3) (ls' := [some (.ref 41), some (.int x1), some (.int x2), none, some (.int (x4 + 1))]) (st' := []) (σ' := (zE L, M, N)) (G := []) rfl trivial ?_
  obtain rfl := Option.some.inj h
  exact jb_mask [true, true, true, false, true] rfl hK
set_option maxRecDepth 20000 in
theorem zg_38_H3 {Γ : jb_G} {L : Nat} {d : Nat} (hd : 3 ≤ d) (x1 : Int32) (x2 : Int32) (M : jb_Mi) (N : jb_Ml) (s : Int32) {v : Option Value} {σ2 : jb_S} {r : ((Int32) ⊕ (Int32))} (h : zf_38_H3 x1 x2 M s = some r) (hK : (jb_K (fun s : Int32 => jb_V Γ d zq_38 3 [some (.ref 41), some (.int x1), some (.int x2), none, some (.int s)] [] (zE L, M, N) v σ2) (fun r : Int32 => v = some (.int r) ∧ σ2 = (zE L, M, N))) r) : jb_V Γ d zq_38 3 [some (.ref 41), some (.int x1), some (.int x2), none, some (.int s)] [] (zE L, M, N) v σ2 := by
  obtain ⟨d, rfl⟩ : ∃ e, d = e + 1 := ⟨d - 1, by omega⟩
  unfold zf_38_H3 at h
  refine jb_seg 3 (pc' := (if s < 24 then 10 else 44)) (ls' := [some (.ref 41), some (.int x1), some (.int x2), none, some (.int s)]) (st' := []) (σ' := (zE L, M, N)) (G := []) rfl trivial ?_
  refine jb_ite (fun c => ?_) (fun c => ?_)
  · replace h := (if_pos c).symm.trans h
    refine jb_seg 5 (pc' := 18) (ls' := [some (.ref 41), some (.int x1), some (.int x2), none, some (.int s)]) (st' := [(.int (s / 4)), (.ref 4)]) (σ' := (zE L, M, N)) (G := [¬ (4 : Int32) = 0]) rfl (show ¬ (4 : Int32) = 0 from (by decide)) ?_
    obtain ⟨q1, h1, h⟩ := jb_bd_of h
    refine jb_callV (q' := zq_37) (As := [(.int (s / 4))]) (rest := []) (σ1 := (zE L, M, N)) (v := some (.int (jb_b2i q1))) rfl rfl zp_37 rfl (Nat.le_of_ble_eq_true rfl) (jb_cat rfl) (Nat.le_of_ble_eq_true rfl) (Nat.le_of_ble_eq_true rfl) (Or.inl rfl) rfl (ze_37 4 (s / 4) M N (by decide) h1) ?_
    refine jb_seg 1 (pc' := (if (jb_b2i q1) = 0 then 38 else 24)) (ls' := [some (.ref 41), some (.int x1), some (.int x2), none, some (.int s)]) (st' := []) (σ' := (zE L, M, N)) (G := []) rfl trivial ?_
    refine jb_ite (fun c => ?_) (fun c => ?_)
    · replace h := (if_pos c).symm.trans h
      exact jb_mask [true, true, true, false, true] rfl (zg_38_J38 hd x1 x2 s M N h hK)
    · replace h := (if_neg c).symm.trans h
      refine jb_seg 3 (pc' := 28) (ls' := [some (.ref 41), some (.int x1), some (.int x2), none, some (.int s)]) (st' := [(.int x2), (.int s), (.ref 41)]) (σ' := (zE L, M, N)) (G := []) rfl trivial ?_
      obtain ⟨q2, h2, h⟩ := jb_bd_of h
      refine jb_callV (q' := zq_19) (As := [(.int s), (.int x2)]) (rest := []) (σ1 := (zE L, M, N)) (v := some (.int q2)) rfl rfl zp_19 rfl (Nat.le_of_ble_eq_true rfl) (jb_cat rfl) (Nat.le_of_ble_eq_true rfl) (Nat.le_of_ble_eq_true rfl) (Or.inl rfl) rfl (ze_19 (by omega) s x2 M N h2) ?_
      refine jb_seg 2 (pc' := (if q2 = x1 then 35 else 38)) (ls' := [some (.ref 41), some (.int x1), some (.int x2), none, some (.int s)]) (st' := []) (σ' := (zE L, M, N)) (G := []) rfl trivial ?_
      refine jb_ite (fun c => ?_) (fun c => ?_)
      · replace h := (if_pos c).symm.trans h
        refine jb_seg 1 (pc' := 37) (ls' := [some (.ref 41), some (.int x1), some (.int x2), none, some (.int s)]) (st' := [(.int s)]) (σ' := (zE L, M, N)) (G := []) rfl trivial ?_
        obtain rfl := Option.some.inj h
        obtain ⟨rfl, rfl⟩ := hK
        exact jb_reti rfl rfl
      · replace h := (if_neg c).symm.trans h
        exact jb_mask [true, true, true, false, true] rfl (zg_38_J38 hd x1 x2 s M N h hK)
  · replace h := (if_neg c).symm.trans h
    refine jb_seg 1 (pc' := 46) (ls' := [some (.ref 41), some (.int x1), some (.int x2), none, some (.int s)]) (st' := [(.int (-2))]) (σ' := (zE L, M, N)) (G := []) rfl trivial ?_
    obtain rfl := Option.some.inj h
    obtain ⟨rfl, rfl⟩ := hK
    exact jb_reti rfl rfl
theorem zg_38_H3L {Γ : jb_G} {L : Nat} {d : Nat} (hd : 3 ≤ d) (x1 : Int32) (x2 : Int32) (M : jb_Mi) (N : jb_Ml) {v : Option Value} {σ2 : jb_S} {s : Int32} {r : (Int32)} (h : jb_lp (zf_38_H3 x1 x2 M) s = some r) (hK : (fun r : Int32 => v = some (.int r) ∧ σ2 = (zE L, M, N)) r) : jb_V Γ d zq_38 3 [some (.ref 41), some (.int x1), some (.int x2), none, some (.int s)] [] (zE L, M, N) v σ2 := by
  exact @jb_lp_ind (Int32) ((Int32)) (zf_38_H3 x1 x2 M) (fun s => jb_V Γ d zq_38 3 [some (.ref 41), some (.int x1), some (.int x2), none, some (.int s)] [] (zE L, M, N) v σ2) (fun r : Int32 => v = some (.int r) ∧ σ2 = (zE L, M, N)) (fun s r h hk => zg_38_H3 hd x1 x2 M N s h hk) s r h hK
set_option maxRecDepth 20000 in
theorem zg_38 {Γ : jb_G} {L : Nat} {d : Nat} (hd : 3 ≤ d) (x1 : Int32) (x2 : Int32) (x3 : Int32) (M : jb_Mi) (N : jb_Ml) {v : Option Value} {σ2 : jb_S} {r : (Int32)} (h : zf_38 x1 x2 x3 M = some r) (hK : (fun r : Int32 => v = some (.int r) ∧ σ2 = (zE L, M, N)) r) : jb_V Γ d zq_38 0 [some (.ref 41), some (.int x1), some (.int x2), some (.int x3), none] [] (zE L, M, N) v σ2 := by
  obtain ⟨d, rfl⟩ : ∃ e, d = e + 1 := ⟨d - 1, by omega⟩
  unfold zf_38 at h
  refine jb_seg 2 (pc' := 3) (ls' := [some (.ref 41), some (.int x1), some (.int x2), some (.int x3), some (.int x3)]) (st' := []) (σ' := (zE L, M, N)) (G := []) rfl trivial ?_
  exact jb_mask [true, true, true, false, true] rfl (zg_38_H3L hd x1 x2 M N h hK)
theorem ze_38 {Γ : jb_G} {L : Nat} {d : Nat} (hd : 3 ≤ d) (x1 : Int32) (x2 : Int32) (x3 : Int32) (M : jb_Mi) (N : jb_Ml) {r : (Int32)} (h : zf_38 x1 x2 x3 M = some r) : jb_V Γ d zq_38 0 (jb_en 5 [(.ref 41), (.int x1), (.int x2), (.int x3)]) [] (zE L, M, N) (some (.int r)) (zE L, M, N) := zg_38 hd x1 x2 x3 M N h ⟨rfl, rfl⟩
-- X1_whereIs
set_option maxRecDepth 20000 in
theorem zg_39 {Γ : jb_G} {L : Nat} {d : Nat} (hd : 4 ≤ d) (x1 : Int32) (x2 : Int32) (M : jb_Mi) (N : jb_Ml) {v : Option Value} {σ2 : jb_S} {r : (Int32)} (h : zf_39 x1 x2 M = some r) (hK : (fun r : Int32 => v = some (.int r) ∧ σ2 = (zE L, M, N)) r) : jb_V Γ d zq_39 0 [some (.ref 41), some (.int x1), some (.int x2)] [] (zE L, M, N) v σ2 := by
  obtain ⟨d, rfl⟩ : ∃ e, d = e + 1 := ⟨d - 1, by omega⟩
  unfold zf_39 at h
  refine jb_seg 4 (pc' := 4) (ls' := [some (.ref 41), some (.int x1), some (.int x2)]) (st' := [(.int 0), (.int x2), (.int x1), (.ref 41)]) (σ' := (zE L, M, N)) (G := []) rfl trivial ?_
  obtain ⟨q1, h1, h⟩ := jb_bd_of h
  refine jb_callV (q' := zq_38) (As := [(.int x1), (.int x2), (.int 0)]) (rest := []) (σ1 := (zE L, M, N)) (v := some (.int q1)) rfl rfl zp_38 rfl (Nat.le_of_ble_eq_true rfl) (jb_cat rfl) (Nat.le_of_ble_eq_true rfl) (Nat.le_of_ble_eq_true rfl) (Or.inl rfl) rfl (ze_38 (by omega) x1 x2 0 M N h1) ?_
  obtain rfl := Option.some.inj h
  obtain ⟨rfl, rfl⟩ := hK
  exact jb_reti rfl rfl
theorem ze_39 {Γ : jb_G} {L : Nat} {d : Nat} (hd : 4 ≤ d) (x1 : Int32) (x2 : Int32) (M : jb_Mi) (N : jb_Ml) {r : (Int32)} (h : zf_39 x1 x2 M = some r) : jb_V Γ d zq_39 0 (jb_en 3 [(.ref 41), (.int x1), (.int x2)]) [] (zE L, M, N) (some (.int r)) (zE L, M, N) := zg_39 hd x1 x2 M N h ⟨rfl, rfl⟩
-- X1_hoursTwice
set_option maxRecDepth 20000 in
theorem zg_40_J55 {Γ : jb_G} {L : Nat} {d : Nat} (hd : 5 ≤ d) (x1 : Int32) (x3 : Int32) (s0 : Int32) (s1 : Int32) (M : jb_Mi) (N : jb_Ml) {v : Option Value} {σ2 : jb_S} {r : ((Int32 × Int32) ⊕ (Int32))} (h : zf_40_J55 x1 x3 s0 s1 M = some r) (hK : (jb_K (fun s : Int32 × Int32 => jb_V Γ d zq_40 4 [some (.ref 41), some (.int x1), some (.int s.1), some (.int s.2), none, none] [] (zE L, M, N) v σ2) (fun r : Int32 => v = some (.int r) ∧ σ2 = (zE L, M, N))) r) : jb_V Γ d zq_40 55 [some (.ref 41), some (.int x1), none, some (.int x3), none, none] [(.int s1), (.int s0)] (zE L, M, N) v σ2 := by
  obtain ⟨d, rfl⟩ : ∃ e, d = e + 1 := ⟨d - 1, by omega⟩
  unfold zf_40_J55 at h
  refine jb_seg 4 (pc' := 4) (ls' := [some (.ref 41), some (.int x1), some (.int (s0 + s1)), some (.int (x3 + 1)), none, none]) (st' := []) (σ' := (zE L, M, N)) (G := []) rfl trivial ?_
  obtain rfl := Option.some.inj h
  exact jb_mask [true, true, true, true, false, false] rfl hK
set_option maxRecDepth 20000 in
theorem zg_40_J54 {Γ : jb_G} {L : Nat} {d : Nat} (hd : 5 ≤ d) (x1 : Int32) (x3 : Int32) (s0 : Int32) (M : jb_Mi) (N : jb_Ml) {v : Option Value} {σ2 : jb_S} {r : ((Int32 × Int32) ⊕ (Int32))} (h : zf_40_J54 x1 x3 s0 M = some r) (hK : (jb_K (fun s : Int32 × Int32 => jb_V Γ d zq_40 4 [some (.ref 41), some (.int x1), some (.int s.1), some (.int s.2), none, none] [] (zE L, M, N) v σ2) (fun r : Int32 => v = some (.int r) ∧ σ2 = (zE L, M, N))) r) : jb_V Γ d zq_40 54 [some (.ref 41), some (.int x1), none, some (.int x3), none, none] [(.int s0)] (zE L, M, N) v σ2 := by
  obtain ⟨d, rfl⟩ : ∃ e, d = e + 1 := ⟨d - 1, by omega⟩
  unfold zf_40_J54 at h
  refine jb_seg 1 (pc' := 55) (ls' := [some (.ref 41), some (.int x1), none, some (.int x3), none, none]) (st' := [(.int 0), (.int s0)]) (σ' := (zE L, M, N)) (G := []) rfl trivial ?_
  exact jb_mask [true, true, false, true, false, false] rfl (zg_40_J55 hd x1 x3 s0 0 M N h hK)
set_option maxRecDepth 20000 in
theorem zg_40_H4 {Γ : jb_G} {L : Nat} {d : Nat} (hd : 5 ≤ d) (x1 : Int32) (M : jb_Mi) (N : jb_Ml) (s : Int32 × Int32) {v : Option Value} {σ2 : jb_S} {r : ((Int32 × Int32) ⊕ (Int32))} (h : zf_40_H4 x1 M s = some r) (hK : (jb_K (fun s : Int32 × Int32 => jb_V Γ d zq_40 4 [some (.ref 41), some (.int x1), some (.int s.1), some (.int s.2), none, none] [] (zE L, M, N) v σ2) (fun r : Int32 => v = some (.int r) ∧ σ2 = (zE L, M, N))) r) : jb_V Γ d zq_40 4 [some (.ref 41), some (.int x1), some (.int s.1), some (.int s.2), none, none] [] (zE L, M, N) v σ2 := by
  obtain ⟨d, rfl⟩ : ∃ e, d = e + 1 := ⟨d - 1, by omega⟩
  unfold zf_40_H4 at h
  refine jb_seg 3 (pc' := (if s.2 < 24 then 10 else 63)) (ls' := [some (.ref 41), some (.int x1), some (.int s.1), some (.int s.2), none, none]) (st' := []) (σ' := (zE L, M, N)) (G := []) rfl trivial ?_
  refine jb_ite (fun c => ?_) (fun c => ?_)
  · replace h := (if_pos c).symm.trans h
    refine jb_seg 2 (pc' := 14) (ls' := [some (.ref 41), some (.int x1), some (.int s.1), some (.int s.2), none, none]) (st' := [(.ref 4)]) (σ' := (zE L, M, N)) (G := []) rfl trivial ?_
    refine jb_callV (q' := zq_14) (As := []) (rest := []) (σ1 := (zE L, M, N)) (v := some (.int (zf_14 4 M))) rfl rfl zp_14 rfl (Nat.le_of_ble_eq_true rfl) (jb_cat rfl) (Nat.le_of_ble_eq_true rfl) (Nat.le_of_ble_eq_true rfl) (Or.inl rfl) rfl (ze_14 4 M N (by decide) rfl) ?_
    refine jb_seg 6 (pc' := 25) (ls' := [some (.ref 41), some (.int x1), some (.int s.1), some (.int s.2), some (.int ((zf_14 4 M) + s.2)), none]) (st' := [(.int ((zf_14 4 M) + s.2)), (.int x1), (.ref 41)]) (σ' := (zE L, M, N)) (G := []) rfl trivial ?_
    obtain ⟨q1, h1, h⟩ := jb_bd_of h
    refine jb_callV (q' := zq_39) (As := [(.int x1), (.int ((zf_14 4 M) + s.2))]) (rest := []) (σ1 := (zE L, M, N)) (v := some (.int q1)) rfl rfl zp_39 rfl (Nat.le_of_ble_eq_true rfl) (jb_cat rfl) (Nat.le_of_ble_eq_true rfl) (Nat.le_of_ble_eq_true rfl) (Or.inl rfl) rfl (ze_39 (by omega) x1 ((zf_14 4 M) + s.2) M N h1) ?_
    refine jb_seg 4 (pc' := (if q1 < 0 then 54 else 36)) (ls' := [some (.ref 41), some (.int x1), some (.int s.1), some (.int s.2), some (.int ((zf_14 4 M) + s.2)), some (.int q1)]) (st' := [(.int s.1)]) (σ' := (zE L, M, N)) (G := []) rfl trivial ?_
    refine jb_ite (fun c => ?_) (fun c => ?_)
    · replace h := (if_pos c).symm.trans h
      exact jb_mask [true, true, false, true, false, false] rfl (zg_40_J54 hd x1 s.2 s.1 M N h hK)
    · replace h := (if_neg c).symm.trans h
      refine jb_seg 6 (pc' := 44) (ls' := [some (.ref 41), some (.int x1), some (.int s.1), some (.int s.2), some (.int ((zf_14 4 M) + s.2)), some (.int q1)]) (st' := [(.int (q1 + 1)), (.int ((zf_14 4 M) + s.2)), (.int x1), (.ref 41), (.int s.1)]) (σ' := (zE L, M, N)) (G := []) rfl trivial ?_
      obtain ⟨q2, h2, h⟩ := jb_bd_of h
      refine jb_callV (q' := zq_38) (As := [(.int x1), (.int ((zf_14 4 M) + s.2)), (.int (q1 + 1))]) (rest := [(.int s.1)]) (σ1 := (zE L, M, N)) (v := some (.int q2)) rfl rfl zp_38 rfl (Nat.le_of_ble_eq_true rfl) (jb_cat rfl) (Nat.le_of_ble_eq_true rfl) (Nat.le_of_ble_eq_true rfl) (Or.inl rfl) rfl (ze_38 (by omega) x1 ((zf_14 4 M) + s.2) (q1 + 1) M N h2) ?_
      refine jb_seg 1 (pc' := (if q2 < 0 then 54 else 50)) (ls' := [some (.ref 41), some (.int x1), some (.int s.1), some (.int s.2), some (.int ((zf_14 4 M) + s.2)), some (.int q1)]) (st' := [(.int s.1)]) (σ' := (zE L, M, N)) (G := []) rfl trivial ?_
      refine jb_ite (fun c => ?_) (fun c => ?_)
      · replace h := (if_pos c).symm.trans h
        exact jb_mask [true, true, false, true, false, false] rfl (zg_40_J54 hd x1 s.2 s.1 M N h hK)
      · replace h := (if_neg c).symm.trans h
        refine jb_seg 2 (pc' := 55) (ls' := [some (.ref 41), some (.int x1), some (.int s.1), some (.int s.2), some (.int ((zf_14 4 M) + s.2)), some (.int q1)]) (st' := [(.int 1), (.int s.1)]) (σ' := (zE L, M, N)) (G := []) rfl trivial ?_
        exact jb_mask [true, true, false, true, false, false] rfl (zg_40_J55 hd x1 s.2 s.1 1 M N h hK)
  · replace h := (if_neg c).symm.trans h
    refine jb_seg 1 (pc' := 64) (ls' := [some (.ref 41), some (.int x1), some (.int s.1), some (.int s.2), none, none]) (st' := [(.int s.1)]) (σ' := (zE L, M, N)) (G := []) rfl trivial ?_
    obtain rfl := Option.some.inj h
    obtain ⟨rfl, rfl⟩ := hK
    exact jb_reti rfl rfl
theorem zg_40_H4L {Γ : jb_G} {L : Nat} {d : Nat} (hd : 5 ≤ d) (x1 : Int32) (M : jb_Mi) (N : jb_Ml) {v : Option Value} {σ2 : jb_S} {s : Int32 × Int32} {r : (Int32)} (h : jb_lp (zf_40_H4 x1 M) s = some r) (hK : (fun r : Int32 => v = some (.int r) ∧ σ2 = (zE L, M, N)) r) : jb_V Γ d zq_40 4 [some (.ref 41), some (.int x1), some (.int s.1), some (.int s.2), none, none] [] (zE L, M, N) v σ2 := by
  exact @jb_lp_ind (Int32 × Int32) ((Int32)) (zf_40_H4 x1 M) (fun s => jb_V Γ d zq_40 4 [some (.ref 41), some (.int x1), some (.int s.1), some (.int s.2), none, none] [] (zE L, M, N) v σ2) (fun r : Int32 => v = some (.int r) ∧ σ2 = (zE L, M, N)) (fun s r h hk => zg_40_H4 hd x1 M N s h hk) s r h hK
set_option maxRecDepth 20000 in
theorem zg_40 {Γ : jb_G} {L : Nat} {d : Nat} (hd : 5 ≤ d) (x1 : Int32) (M : jb_Mi) (N : jb_Ml) {v : Option Value} {σ2 : jb_S} {r : (Int32)} (h : zf_40 x1 M = some r) (hK : (fun r : Int32 => v = some (.int r) ∧ σ2 = (zE L, M, N)) r) : jb_V Γ d zq_40 0 [some (.ref 41), some (.int x1), none, none, none, none] [] (zE L, M, N) v σ2 := by
  obtain ⟨d, rfl⟩ : ∃ e, d = e + 1 := ⟨d - 1, by omega⟩
  unfold zf_40 at h
  refine jb_seg 4 (pc' := 4) (ls' := [some (.ref 41), some (.int x1), some (.int 0), some (.int 0), none, none]) (st' := []) (σ' := (zE L, M, N)) (G := []) rfl trivial ?_
  exact jb_mask [true, true, true, true, false, false] rfl (zg_40_H4L hd x1 M N h hK)
theorem ze_40 {Γ : jb_G} {L : Nat} {d : Nat} (hd : 5 ≤ d) (x1 : Int32) (M : jb_Mi) (N : jb_Ml) {r : (Int32)} (h : zf_40 x1 M = some r) : jb_V Γ d zq_40 0 (jb_en 6 [(.ref 41), (.int x1)]) [] (zE L, M, N) (some (.int r)) (zE L, M, N) := zg_40 hd x1 M N h ⟨rfl, rfl⟩
-- X1_pence
set_option maxRecDepth 20000 in
theorem zg_41_J48 {Γ : jb_G} {L : Nat} {d : Nat} (hd : 5 ≤ d) (x1 : Int32) (x3 : Int32) (s0 : Int32) (s1 : Int32) (M : jb_Mi) (N : jb_Ml) {v : Option Value} {σ2 : jb_S} {r : ((Int32 × Int32) ⊕ (Int32))} (h : zf_41_J48 x1 x3 s0 s1 M = some r) (hK : (jb_K (fun s : Int32 × Int32 => jb_V Γ d zq_41 4 [some (.ref 41), some (.int x1), some (.int s.1), some (.int s.2), none] [] (zE L, M, N) v σ2) (fun r : Int32 => v = some (.int r) ∧ σ2 = (zE L, M, N))) r) : jb_V Γ d zq_41 48 [some (.ref 41), some (.int x1), none, some (.int x3), none] [(.int s1), (.int s0)] (zE L, M, N) v σ2 := by
  obtain ⟨d, rfl⟩ : ∃ e, d = e + 1 := ⟨d - 1, by omega⟩
  unfold zf_41_J48 at h
  refine jb_seg 4 (pc' := 4) (ls' := [some (.ref 41), some (.int x1), some (.int (s0 + s1)), some (.int (x3 + 1)), none]) (st' := []) (σ' := (zE L, M, N)) (G := []) rfl trivial ?_
  obtain rfl := Option.some.inj h
  exact jb_mask [true, true, true, true, false] rfl hK
set_option maxRecDepth 20000 in
theorem zg_41_H4 {Γ : jb_G} {L : Nat} {d : Nat} (hd : 5 ≤ d) (x1 : Int32) (M : jb_Mi) (N : jb_Ml) (s : Int32 × Int32) {v : Option Value} {σ2 : jb_S} {r : ((Int32 × Int32) ⊕ (Int32))} (h : zf_41_H4 x1 M s = some r) (hK : (jb_K (fun s : Int32 × Int32 => jb_V Γ d zq_41 4 [some (.ref 41), some (.int x1), some (.int s.1), some (.int s.2), none] [] (zE L, M, N) v σ2) (fun r : Int32 => v = some (.int r) ∧ σ2 = (zE L, M, N))) r) : jb_V Γ d zq_41 4 [some (.ref 41), some (.int x1), some (.int s.1), some (.int s.2), none] [] (zE L, M, N) v σ2 := by
  obtain ⟨d, rfl⟩ : ∃ e, d = e + 1 := ⟨d - 1, by omega⟩
  unfold zf_41_H4 at h
  refine jb_seg 3 (pc' := (if s.2 < 24 then 10 else 56)) (ls' := [some (.ref 41), some (.int x1), some (.int s.1), some (.int s.2), none]) (st' := []) (σ' := (zE L, M, N)) (G := []) rfl trivial ?_
  refine jb_ite (fun c => ?_) (fun c => ?_)
  · replace h := (if_pos c).symm.trans h
    refine jb_seg 4 (pc' := 16) (ls' := [some (.ref 41), some (.int x1), some (.int s.1), some (.int s.2), none]) (st' := [(.ref 4), (.int x1), (.ref 41)]) (σ' := (zE L, M, N)) (G := []) rfl trivial ?_
    refine jb_callV (q' := zq_14) (As := []) (rest := [(.int x1), (.ref 41)]) (σ1 := (zE L, M, N)) (v := some (.int (zf_14 4 M))) rfl rfl zp_14 rfl (Nat.le_of_ble_eq_true rfl) (jb_cat rfl) (Nat.le_of_ble_eq_true rfl) (Nat.le_of_ble_eq_true rfl) (Or.inl rfl) rfl (ze_14 4 M N (by decide) rfl) ?_
    refine jb_seg 2 (pc' := 21) (ls' := [some (.ref 41), some (.int x1), some (.int s.1), some (.int s.2), none]) (st' := [(.int ((zf_14 4 M) + s.2)), (.int x1), (.ref 41)]) (σ' := (zE L, M, N)) (G := []) rfl trivial ?_
    obtain ⟨q1, h1, h⟩ := jb_bd_of h
    refine jb_callV (q' := zq_39) (As := [(.int x1), (.int ((zf_14 4 M) + s.2))]) (rest := []) (σ1 := (zE L, M, N)) (v := some (.int q1)) rfl rfl zp_39 rfl (Nat.le_of_ble_eq_true rfl) (jb_cat rfl) (Nat.le_of_ble_eq_true rfl) (Nat.le_of_ble_eq_true rfl) (Or.inl rfl) rfl (ze_39 (by omega) x1 ((zf_14 4 M) + s.2) M N h1) ?_
    refine jb_seg 4 (pc' := (if q1 < 0 then 47 else 32)) (ls' := [some (.ref 41), some (.int x1), some (.int s.1), some (.int s.2), some (.int q1)]) (st' := [(.int s.1)]) (σ' := (zE L, M, N)) (G := []) rfl trivial ?_
    refine jb_ite (fun c => ?_) (fun c => ?_)
    · replace h := (if_pos c).symm.trans h
      refine jb_seg 1 (pc' := 48) (ls' := [some (.ref 41), some (.int x1), some (.int s.1), some (.int s.2), some (.int q1)]) (st' := [(.int 0), (.int s.1)]) (σ' := (zE L, M, N)) (G := []) rfl trivial ?_
      exact jb_mask [true, true, false, true, false] rfl (zg_41_J48 hd x1 s.2 s.1 0 M N h hK)
    · replace h := (if_neg c).symm.trans h
      obtain ⟨g2, h⟩ := jb_gd_of h
      refine jb_seg 8 (pc' := 48) (ls' := [some (.ref 41), some (.int x1), some (.int s.1), some (.int s.2), some (.int q1)]) (st' := [(.int (M 5 ((q1 / 4)).toNatClampNeg)), (.int s.1)]) (σ' := (zE L, M, N)) (G := [¬ (4 : Int32) = 0, vp_in (q1 / 4) 6]) rfl ⟨(show ¬ (4 : Int32) = 0 from (by decide)), g2⟩ ?_
      exact jb_mask [true, true, false, true, false] rfl (zg_41_J48 hd x1 s.2 s.1 (M 5 ((q1 / 4)).toNatClampNeg) M N h hK)
  · replace h := (if_neg c).symm.trans h
    refine jb_seg 1 (pc' := 57) (ls' := [some (.ref 41), some (.int x1), some (.int s.1), some (.int s.2), none]) (st' := [(.int s.1)]) (σ' := (zE L, M, N)) (G := []) rfl trivial ?_
    obtain rfl := Option.some.inj h
    obtain ⟨rfl, rfl⟩ := hK
    exact jb_reti rfl rfl
theorem zg_41_H4L {Γ : jb_G} {L : Nat} {d : Nat} (hd : 5 ≤ d) (x1 : Int32) (M : jb_Mi) (N : jb_Ml) {v : Option Value} {σ2 : jb_S} {s : Int32 × Int32} {r : (Int32)} (h : jb_lp (zf_41_H4 x1 M) s = some r) (hK : (fun r : Int32 => v = some (.int r) ∧ σ2 = (zE L, M, N)) r) : jb_V Γ d zq_41 4 [some (.ref 41), some (.int x1), some (.int s.1), some (.int s.2), none] [] (zE L, M, N) v σ2 := by
  exact @jb_lp_ind (Int32 × Int32) ((Int32)) (zf_41_H4 x1 M) (fun s => jb_V Γ d zq_41 4 [some (.ref 41), some (.int x1), some (.int s.1), some (.int s.2), none] [] (zE L, M, N) v σ2) (fun r : Int32 => v = some (.int r) ∧ σ2 = (zE L, M, N)) (fun s r h hk => zg_41_H4 hd x1 M N s h hk) s r h hK
set_option maxRecDepth 20000 in
theorem zg_41 {Γ : jb_G} {L : Nat} {d : Nat} (hd : 5 ≤ d) (x1 : Int32) (M : jb_Mi) (N : jb_Ml) {v : Option Value} {σ2 : jb_S} {r : (Int32)} (h : zf_41 x1 M = some r) (hK : (fun r : Int32 => v = some (.int r) ∧ σ2 = (zE L, M, N)) r) : jb_V Γ d zq_41 0 [some (.ref 41), some (.int x1), none, none, none] [] (zE L, M, N) v σ2 := by
  obtain ⟨d, rfl⟩ : ∃ e, d = e + 1 := ⟨d - 1, by omega⟩
  unfold zf_41 at h
  refine jb_seg 4 (pc' := 4) (ls' := [some (.ref 41), some (.int x1), some (.int 0), some (.int 0), none]) (st' := []) (σ' := (zE L, M, N)) (G := []) rfl trivial ?_
  exact jb_mask [true, true, true, true, false] rfl (zg_41_H4L hd x1 M N h hK)
theorem ze_41 {Γ : jb_G} {L : Nat} {d : Nat} (hd : 5 ≤ d) (x1 : Int32) (M : jb_Mi) (N : jb_Ml) {r : (Int32)} (h : zf_41 x1 M = some r) : jb_V Γ d zq_41 0 (jb_en 5 [(.ref 41), (.int x1)]) [] (zE L, M, N) (some (.int r)) (zE L, M, N) := zg_41 hd x1 M N h ⟨rfl, rfl⟩
-- X1_changes
set_option maxRecDepth 20000 in
theorem zg_42_J46 {Γ : jb_G} {L : Nat} {d : Nat} (hd : 3 ≤ d) (x1 : Int32) (x3 : Int32) (s0 : Int32) (s1 : Int32) (M : jb_Mi) (N : jb_Ml) {v : Option Value} {σ2 : jb_S} {r : ((Int32 × Int32) ⊕ (Int32))} (h : zf_42_J46 x1 x3 s0 s1 M = some r) (hK : (jb_K (fun s : Int32 × Int32 => jb_V Γ d zq_42 4 [some (.ref 41), some (.int x1), some (.int s.1), some (.int s.2), none] [] (zE L, M, N) v σ2) (fun r : Int32 => v = some (.int r) ∧ σ2 = (zE L, M, N))) r) : jb_V Γ d zq_42 46 [some (.ref 41), some (.int x1), none, some (.int x3), none] [(.int s1), (.int s0)] (zE L, M, N) v σ2 := by
  obtain ⟨d, rfl⟩ : ∃ e, d = e + 1 := ⟨d - 1, by omega⟩
  unfold zf_42_J46 at h
  refine jb_seg 4 (pc' := 4) (ls' := [some (.ref 41), some (.int x1), some (.int (s0 + s1)), some (.int (x3 + 1)), none]) (st' := []) (σ' := (zE L, M, N)) (G := []) rfl trivial ?_
  obtain rfl := Option.some.inj h
  exact jb_mask [true, true, true, true, false] rfl hK
set_option maxRecDepth 20000 in
theorem zg_42_H4 {Γ : jb_G} {L : Nat} {d : Nat} (hd : 3 ≤ d) (x1 : Int32) (M : jb_Mi) (N : jb_Ml) (s : Int32 × Int32) {v : Option Value} {σ2 : jb_S} {r : ((Int32 × Int32) ⊕ (Int32))} (h : zf_42_H4 x1 M s = some r) (hK : (jb_K (fun s : Int32 × Int32 => jb_V Γ d zq_42 4 [some (.ref 41), some (.int x1), some (.int s.1), some (.int s.2), none] [] (zE L, M, N) v σ2) (fun r : Int32 => v = some (.int r) ∧ σ2 = (zE L, M, N))) r) : jb_V Γ d zq_42 4 [some (.ref 41), some (.int x1), some (.int s.1), some (.int s.2), none] [] (zE L, M, N) v σ2 := by
  obtain ⟨d, rfl⟩ : ∃ e, d = e + 1 := ⟨d - 1, by omega⟩
  unfold zf_42_H4 at h
  refine jb_seg 3 (pc' := (if s.2 < 24 then 10 else 54)) (ls' := [some (.ref 41), some (.int x1), some (.int s.1), some (.int s.2), none]) (st' := []) (σ' := (zE L, M, N)) (G := []) rfl trivial ?_
  refine jb_ite (fun c => ?_) (fun c => ?_)
  · replace h := (if_pos c).symm.trans h
    refine jb_seg 2 (pc' := 14) (ls' := [some (.ref 41), some (.int x1), some (.int s.1), some (.int s.2), none]) (st' := [(.ref 4)]) (σ' := (zE L, M, N)) (G := []) rfl trivial ?_
    refine jb_callV (q' := zq_14) (As := []) (rest := []) (σ1 := (zE L, M, N)) (v := some (.int (zf_14 4 M))) rfl rfl zp_14 rfl (Nat.le_of_ble_eq_true rfl) (jb_cat rfl) (Nat.le_of_ble_eq_true rfl) (Nat.le_of_ble_eq_true rfl) (Or.inl rfl) rfl (ze_14 4 M N (by decide) rfl) ?_
    refine jb_seg 7 (pc' := 26) (ls' := [some (.ref 41), some (.int x1), some (.int s.1), some (.int s.2), some (.int ((zf_14 4 M) + s.2))]) (st' := [(.int ((zf_14 4 M) + s.2)), (.int x1), (.ref 41), (.int s.1)]) (σ' := (zE L, M, N)) (G := []) rfl trivial ?_
    obtain ⟨q1, h1, h⟩ := jb_bd_of h
    refine jb_callV (q' := zq_19) (As := [(.int x1), (.int ((zf_14 4 M) + s.2))]) (rest := [(.int s.1)]) (σ1 := (zE L, M, N)) (v := some (.int q1)) rfl rfl zp_19 rfl (Nat.le_of_ble_eq_true rfl) (jb_cat rfl) (Nat.le_of_ble_eq_true rfl) (Nat.le_of_ble_eq_true rfl) (Or.inl rfl) rfl (ze_19 (by omega) x1 ((zf_14 4 M) + s.2) M N h1) ?_
    refine jb_seg 5 (pc' := 35) (ls' := [some (.ref 41), some (.int x1), some (.int s.1), some (.int s.2), some (.int ((zf_14 4 M) + s.2))]) (st' := [(.int (((zf_14 4 M) + s.2) - 1)), (.int x1), (.ref 41), (.int q1), (.int s.1)]) (σ' := (zE L, M, N)) (G := []) rfl trivial ?_
    obtain ⟨q2, h2, h⟩ := jb_bd_of h
    refine jb_callV (q' := zq_19) (As := [(.int x1), (.int (((zf_14 4 M) + s.2) - 1))]) (rest := [(.int q1), (.int s.1)]) (σ1 := (zE L, M, N)) (v := some (.int q2)) rfl rfl zp_19 rfl (Nat.le_of_ble_eq_true rfl) (jb_cat rfl) (Nat.le_of_ble_eq_true rfl) (Nat.le_of_ble_eq_true rfl) (Or.inl rfl) rfl (ze_19 (by omega) x1 (((zf_14 4 M) + s.2) - 1) M N h2) ?_
    refine jb_seg 1 (pc' := (if q1 = q2 then 45 else 41)) (ls' := [some (.ref 41), some (.int x1), some (.int s.1), some (.int s.2), some (.int ((zf_14 4 M) + s.2))]) (st' := [(.int s.1)]) (σ' := (zE L, M, N)) (G := []) rfl trivial ?_
    refine jb_ite (fun c => ?_) (fun c => ?_)
    · replace h := (if_pos c).symm.trans h
      refine jb_seg 1 (pc' := 46) (ls' := [some (.ref 41), some (.int x1), some (.int s.1), some (.int s.2), some (.int ((zf_14 4 M) + s.2))]) (st' := [(.int 0), (.int s.1)]) (σ' := (zE L, M, N)) (G := []) rfl trivial ?_
      exact jb_mask [true, true, false, true, false] rfl (zg_42_J46 hd x1 s.2 s.1 0 M N h hK)
    · replace h := (if_neg c).symm.trans h
      refine jb_seg 2 (pc' := 46) (ls' := [some (.ref 41), some (.int x1), some (.int s.1), some (.int s.2), some (.int ((zf_14 4 M) + s.2))]) (st' := [(.int 1), (.int s.1)]) (σ' := (zE L, M, N)) (G := []) rfl trivial ?_
      exact jb_mask [true, true, false, true, false] rfl (zg_42_J46 hd x1 s.2 s.1 1 M N h hK)
  · replace h := (if_neg c).symm.trans h
    refine jb_seg 1 (pc' := 55) (ls' := [some (.ref 41), some (.int x1), some (.int s.1), some (.int s.2), none]) (st' := [(.int s.1)]) (σ' := (zE L, M, N)) (G := []) rfl trivial ?_
    obtain rfl := Option.some.inj h
    obtain ⟨rfl, rfl⟩ := hK
    exact jb_reti rfl rfl
theorem zg_42_H4L {Γ : jb_G} {L : Nat} {d : Nat} (hd : 3 ≤ d) (x1 : Int32) (M : jb_Mi) (N : jb_Ml) {v : Option Value} {σ2 : jb_S} {s : Int32 × Int32} {r : (Int32)} (h : jb_lp (zf_42_H4 x1 M) s = some r) (hK : (fun r : Int32 => v = some (.int r) ∧ σ2 = (zE L, M, N)) r) : jb_V Γ d zq_42 4 [some (.ref 41), some (.int x1), some (.int s.1), some (.int s.2), none] [] (zE L, M, N) v σ2 := by
  exact @jb_lp_ind (Int32 × Int32) ((Int32)) (zf_42_H4 x1 M) (fun s => jb_V Γ d zq_42 4 [some (.ref 41), some (.int x1), some (.int s.1), some (.int s.2), none] [] (zE L, M, N) v σ2) (fun r : Int32 => v = some (.int r) ∧ σ2 = (zE L, M, N)) (fun s r h hk => zg_42_H4 hd x1 M N s h hk) s r h hK
set_option maxRecDepth 20000 in
theorem zg_42 {Γ : jb_G} {L : Nat} {d : Nat} (hd : 3 ≤ d) (x1 : Int32) (M : jb_Mi) (N : jb_Ml) {v : Option Value} {σ2 : jb_S} {r : (Int32)} (h : zf_42 x1 M = some r) (hK : (fun r : Int32 => v = some (.int r) ∧ σ2 = (zE L, M, N)) r) : jb_V Γ d zq_42 0 [some (.ref 41), some (.int x1), none, none, none] [] (zE L, M, N) v σ2 := by
  obtain ⟨d, rfl⟩ : ∃ e, d = e + 1 := ⟨d - 1, by omega⟩
  unfold zf_42 at h
  refine jb_seg 4 (pc' := 4) (ls' := [some (.ref 41), some (.int x1), some (.int 0), some (.int 1), none]) (st' := []) (σ' := (zE L, M, N)) (G := []) rfl trivial ?_
  exact jb_mask [true, true, true, true, false] rfl (zg_42_H4L hd x1 M N h hK)
theorem ze_42 {Γ : jb_G} {L : Nat} {d : Nat} (hd : 3 ≤ d) (x1 : Int32) (M : jb_Mi) (N : jb_Ml) {r : (Int32)} (h : zf_42 x1 M = some r) : jb_V Γ d zq_42 0 (jb_en 5 [(.ref 41), (.int x1)]) [] (zE L, M, N) (some (.int r)) (zE L, M, N) := zg_42 hd x1 M N h ⟨rfl, rfl⟩
-- X1_emptyHours
set_option maxRecDepth 20000 in
theorem zg_43_J33 {Γ : jb_G} {L : Nat} {d : Nat} (hd : 3 ≤ d) (x1 : Int32) (x3 : Int32) (s0 : Int32) (s1 : Int32) (M : jb_Mi) (N : jb_Ml) {v : Option Value} {σ2 : jb_S} {r : ((Int32 × Int32) ⊕ (Int32))} (h : zf_43_J33 x1 x3 s0 s1 M = some r) (hK : (jb_K (fun s : Int32 × Int32 => jb_V Γ d zq_43 4 [some (.ref 41), some (.int x1), some (.int s.1), some (.int s.2)] [] (zE L, M, N) v σ2) (fun r : Int32 => v = some (.int r) ∧ σ2 = (zE L, M, N))) r) : jb_V Γ d zq_43 33 [some (.ref 41), some (.int x1), none, some (.int x3)] [(.int s1), (.int s0)] (zE L, M, N) v σ2 := by
  obtain ⟨d, rfl⟩ : ∃ e, d = e + 1 := ⟨d - 1, by omega⟩
  unfold zf_43_J33 at h
  refine jb_seg 4 (pc' := 4) (ls' := [some (.ref 41), some (.int x1), some (.int (s0 + s1)), some (.int (x3 + 1))]) (st' := []) (σ' := (zE L, M, N)) (G := []) rfl trivial ?_
  obtain rfl := Option.some.inj h
  exact jb_mask [true, true, true, true] rfl hK
set_option maxRecDepth 20000 in
theorem zg_43_H4 {Γ : jb_G} {L : Nat} {d : Nat} (hd : 3 ≤ d) (x1 : Int32) (M : jb_Mi) (N : jb_Ml) (s : Int32 × Int32) {v : Option Value} {σ2 : jb_S} {r : ((Int32 × Int32) ⊕ (Int32))} (h : zf_43_H4 x1 M s = some r) (hK : (jb_K (fun s : Int32 × Int32 => jb_V Γ d zq_43 4 [some (.ref 41), some (.int x1), some (.int s.1), some (.int s.2)] [] (zE L, M, N) v σ2) (fun r : Int32 => v = some (.int r) ∧ σ2 = (zE L, M, N))) r) : jb_V Γ d zq_43 4 [some (.ref 41), some (.int x1), some (.int s.1), some (.int s.2)] [] (zE L, M, N) v σ2 := by
  obtain ⟨d, rfl⟩ : ∃ e, d = e + 1 := ⟨d - 1, by omega⟩
  unfold zf_43_H4 at h
  refine jb_seg 3 (pc' := (if s.2 < 24 then 10 else 41)) (ls' := [some (.ref 41), some (.int x1), some (.int s.1), some (.int s.2)]) (st' := []) (σ' := (zE L, M, N)) (G := []) rfl trivial ?_
  refine jb_ite (fun c => ?_) (fun c => ?_)
  · replace h := (if_pos c).symm.trans h
    refine jb_seg 5 (pc' := 17) (ls' := [some (.ref 41), some (.int x1), some (.int s.1), some (.int s.2)]) (st' := [(.ref 4), (.int x1), (.ref 41), (.int s.1)]) (σ' := (zE L, M, N)) (G := []) rfl trivial ?_
    refine jb_callV (q' := zq_14) (As := []) (rest := [(.int x1), (.ref 41), (.int s.1)]) (σ1 := (zE L, M, N)) (v := some (.int (zf_14 4 M))) rfl rfl zp_14 rfl (Nat.le_of_ble_eq_true rfl) (jb_cat rfl) (Nat.le_of_ble_eq_true rfl) (Nat.le_of_ble_eq_true rfl) (Or.inl rfl) rfl (ze_14 4 M N (by decide) rfl) ?_
    refine jb_seg 2 (pc' := 22) (ls' := [some (.ref 41), some (.int x1), some (.int s.1), some (.int s.2)]) (st' := [(.int ((zf_14 4 M) + s.2)), (.int x1), (.ref 41), (.int s.1)]) (σ' := (zE L, M, N)) (G := []) rfl trivial ?_
    obtain ⟨q1, h1, h⟩ := jb_bd_of h
    refine jb_callV (q' := zq_19) (As := [(.int x1), (.int ((zf_14 4 M) + s.2))]) (rest := [(.int s.1)]) (σ1 := (zE L, M, N)) (v := some (.int q1)) rfl rfl zp_19 rfl (Nat.le_of_ble_eq_true rfl) (jb_cat rfl) (Nat.le_of_ble_eq_true rfl) (Nat.le_of_ble_eq_true rfl) (Or.inl rfl) rfl (ze_19 (by omega) x1 ((zf_14 4 M) + s.2) M N h1) ?_
    refine jb_seg 1 (pc' := (if q1 < 0 then 28 else 32)) (ls' := [some (.ref 41), some (.int x1), some (.int s.1), some (.int s.2)]) (st' := [(.int s.1)]) (σ' := (zE L, M, N)) (G := []) rfl trivial ?_
    refine jb_ite (fun c => ?_) (fun c => ?_)
    · replace h := (if_pos c).symm.trans h
      refine jb_seg 2 (pc' := 33) (ls' := [some (.ref 41), some (.int x1), some (.int s.1), some (.int s.2)]) (st' := [(.int 1), (.int s.1)]) (σ' := (zE L, M, N)) (G := []) rfl trivial ?_
      exact jb_mask [true, true, false, true] rfl (zg_43_J33 hd x1 s.2 s.1 1 M N h hK)
    · replace h := (if_neg c).symm.trans h
      refine jb_seg 1 (pc' := 33) (ls' := [some (.ref 41), some (.int x1), some (.int s.1), some (.int s.2)]) (st' := [(.int 0), (.int s.1)]) (σ' := (zE L, M, N)) (G := []) rfl trivial ?_
      exact jb_mask [true, true, false, true] rfl (zg_43_J33 hd x1 s.2 s.1 0 M N h hK)
  · replace h := (if_neg c).symm.trans h
    refine jb_seg 1 (pc' := 42) (ls' := [some (.ref 41), some (.int x1), some (.int s.1), some (.int s.2)]) (st' := [(.int s.1)]) (σ' := (zE L, M, N)) (G := []) rfl trivial ?_
    obtain rfl := Option.some.inj h
    obtain ⟨rfl, rfl⟩ := hK
    exact jb_reti rfl rfl
theorem zg_43_H4L {Γ : jb_G} {L : Nat} {d : Nat} (hd : 3 ≤ d) (x1 : Int32) (M : jb_Mi) (N : jb_Ml) {v : Option Value} {σ2 : jb_S} {s : Int32 × Int32} {r : (Int32)} (h : jb_lp (zf_43_H4 x1 M) s = some r) (hK : (fun r : Int32 => v = some (.int r) ∧ σ2 = (zE L, M, N)) r) : jb_V Γ d zq_43 4 [some (.ref 41), some (.int x1), some (.int s.1), some (.int s.2)] [] (zE L, M, N) v σ2 := by
  exact @jb_lp_ind (Int32 × Int32) ((Int32)) (zf_43_H4 x1 M) (fun s => jb_V Γ d zq_43 4 [some (.ref 41), some (.int x1), some (.int s.1), some (.int s.2)] [] (zE L, M, N) v σ2) (fun r : Int32 => v = some (.int r) ∧ σ2 = (zE L, M, N)) (fun s r h hk => zg_43_H4 hd x1 M N s h hk) s r h hK
set_option maxRecDepth 20000 in
theorem zg_43 {Γ : jb_G} {L : Nat} {d : Nat} (hd : 3 ≤ d) (x1 : Int32) (M : jb_Mi) (N : jb_Ml) {v : Option Value} {σ2 : jb_S} {r : (Int32)} (h : zf_43 x1 M = some r) (hK : (fun r : Int32 => v = some (.int r) ∧ σ2 = (zE L, M, N)) r) : jb_V Γ d zq_43 0 [some (.ref 41), some (.int x1), none, none] [] (zE L, M, N) v σ2 := by
  obtain ⟨d, rfl⟩ : ∃ e, d = e + 1 := ⟨d - 1, by omega⟩
  unfold zf_43 at h
  refine jb_seg 4 (pc' := 4) (ls' := [some (.ref 41), some (.int x1), some (.int 0), some (.int 0)]) (st' := []) (σ' := (zE L, M, N)) (G := []) rfl trivial ?_
  exact jb_mask [true, true, true, true] rfl (zg_43_H4L hd x1 M N h hK)
theorem ze_43 {Γ : jb_G} {L : Nat} {d : Nat} (hd : 3 ≤ d) (x1 : Int32) (M : jb_Mi) (N : jb_Ml) {r : (Int32)} (h : zf_43 x1 M = some r) : jb_V Γ d zq_43 0 (jb_en 4 [(.ref 41), (.int x1)]) [] (zE L, M, N) (some (.int r)) (zE L, M, N) := zg_43 hd x1 M N h ⟨rfl, rfl⟩
-- X1_longestOnEnd
set_option maxRecDepth 20000 in
theorem zg_44_J58 {Γ : jb_G} {L : Nat} {d : Nat} (hd : 3 ≤ d) (x1 : Int32) (x2 : Int32) (x5 : Int32) (x6 : Int32) (s0 : Int32) (M : jb_Mi) (N : jb_Ml) {v : Option Value} {σ2 : jb_S} {r : ((Int32 × Int32 × Int32 × Int32) ⊕ (Int32))} (h : zf_44_J58 x1 x2 x5 x6 s0 M = some r) (hK : (jb_K (fun s : Int32 × Int32 × Int32 × Int32 => jb_V Γ d zq_44 11 [some (.ref 41), some (.int x1), some (.int s.1), some (.int s.2.1), some (.int s.2.2.1), some (.int s.2.2.2), none] [] (zE L, M, N) v σ2) (fun r : Int32 => v = some (.int r) ∧ σ2 = (zE L, M, N))) r) : jb_V Γ d zq_44 58 [some (.ref 41), some (.int x1), some (.int x2), none, none, some (.int x5), some (.int x6)] [(.int s0)] (zE L, M, N) v σ2 := by
  obtain ⟨d, rfl⟩ : ∃ e, d = e + 1 := ⟨d - 1, by omega⟩
  unfold zf_44_J58 at h
  refine jb_seg 5 (pc' := 65) (ls' := [some (.ref 41), some (.int x1), some (.int x2), some (.int s0), some (.int x6), some (.int x5), some (.int x6)]) (st' := [(.int s0), (.int x2)]) (σ' := (zE L, M, N)) (G := []) rfl trivial ?_
  refine jb_callS (q' := zq_271) (As := [(.int x2), (.int s0)]) (rest := []) (σ1 := (zE L, M, N)) (v := some (.int (zf_271 x2 s0))) rfl (Nat.le_of_ble_eq_true rfl) rfl zp_271 (jb_cat rfl) (Nat.le_of_ble_eq_true rfl) (Nat.le_of_ble_eq_true rfl) (Or.inl rfl) rfl (ze_271 x2 s0 M N rfl) ?_
  refine jb_seg 3 (pc' := 11) (ls' := [some (.ref 41), some (.int x1), some (.int (zf_271 x2 s0)), some (.int s0), some (.int x6), some (.int (x5 + 1)), some (.int x6)]) (st' := []) (σ' := (zE L, M, N)) (G := []) rfl trivial ?_
  obtain rfl := Option.some.inj h
  exact jb_mask [true, true, true, true, true, true, false] rfl hK
set_option maxRecDepth 20000 in
theorem zg_44_H11 {Γ : jb_G} {L : Nat} {d : Nat} (hd : 3 ≤ d) (x1 : Int32) (M : jb_Mi) (N : jb_Ml) (s : Int32 × Int32 × Int32 × Int32) {v : Option Value} {σ2 : jb_S} {r : ((Int32 × Int32 × Int32 × Int32) ⊕ (Int32))} (h : zf_44_H11 x1 M s = some r) (hK : (jb_K (fun s : Int32 × Int32 × Int32 × Int32 => jb_V Γ d zq_44 11 [some (.ref 41), some (.int x1), some (.int s.1), some (.int s.2.1), some (.int s.2.2.1), some (.int s.2.2.2), none] [] (zE L, M, N) v σ2) (fun r : Int32 => v = some (.int r) ∧ σ2 = (zE L, M, N))) r) : jb_V Γ d zq_44 11 [some (.ref 41), some (.int x1), some (.int s.1), some (.int s.2.1), some (.int s.2.2.1), some (.int s.2.2.2), none] [] (zE L, M, N) v σ2 := by
  obtain ⟨d, rfl⟩ : ∃ e, d = e + 1 := ⟨d - 1, by omega⟩
  unfold zf_44_H11 at h
  refine jb_seg 3 (pc' := (if s.2.2.2 < 24 then 18 else 75)) (ls' := [some (.ref 41), some (.int x1), some (.int s.1), some (.int s.2.1), some (.int s.2.2.1), some (.int s.2.2.2), none]) (st' := []) (σ' := (zE L, M, N)) (G := []) rfl trivial ?_
  refine jb_ite (fun c => ?_) (fun c => ?_)
  · replace h := (if_pos c).symm.trans h
    refine jb_seg 4 (pc' := 24) (ls' := [some (.ref 41), some (.int x1), some (.int s.1), some (.int s.2.1), some (.int s.2.2.1), some (.int s.2.2.2), none]) (st' := [(.ref 4), (.int x1), (.ref 41)]) (σ' := (zE L, M, N)) (G := []) rfl trivial ?_
    refine jb_callV (q' := zq_14) (As := []) (rest := [(.int x1), (.ref 41)]) (σ1 := (zE L, M, N)) (v := some (.int (zf_14 4 M))) rfl rfl zp_14 rfl (Nat.le_of_ble_eq_true rfl) (jb_cat rfl) (Nat.le_of_ble_eq_true rfl) (Nat.le_of_ble_eq_true rfl) (Or.inl rfl) rfl (ze_14 4 M N (by decide) rfl) ?_
    refine jb_seg 2 (pc' := 30) (ls' := [some (.ref 41), some (.int x1), some (.int s.1), some (.int s.2.1), some (.int s.2.2.1), some (.int s.2.2.2), none]) (st' := [(.int ((zf_14 4 M) + s.2.2.2)), (.int x1), (.ref 41)]) (σ' := (zE L, M, N)) (G := []) rfl trivial ?_
    obtain ⟨q1, h1, h⟩ := jb_bd_of h
    refine jb_callV (q' := zq_19) (As := [(.int x1), (.int ((zf_14 4 M) + s.2.2.2))]) (rest := []) (σ1 := (zE L, M, N)) (v := some (.int q1)) rfl rfl zp_19 rfl (Nat.le_of_ble_eq_true rfl) (jb_cat rfl) (Nat.le_of_ble_eq_true rfl) (Nat.le_of_ble_eq_true rfl) (Or.inl rfl) rfl (ze_19 (by omega) x1 ((zf_14 4 M) + s.2.2.2) M N h1) ?_
    refine jb_seg 3 (pc' := (if q1 < 0 then 40 else 44)) (ls' := [some (.ref 41), some (.int x1), some (.int s.1), some (.int s.2.1), some (.int s.2.2.1), some (.int s.2.2.2), some (.int q1)]) (st' := []) (σ' := (zE L, M, N)) (G := []) rfl trivial ?_
    refine jb_ite (fun c => ?_) (fun c => ?_)
    · replace h := (if_pos c).symm.trans h
      refine jb_seg 2 (pc' := 58) (ls' := [some (.ref 41), some (.int x1), some (.int s.1), some (.int s.2.1), some (.int s.2.2.1), some (.int s.2.2.2), some (.int q1)]) (st' := [(.int 0)]) (σ' := (zE L, M, N)) (G := []) rfl trivial ?_
      exact jb_mask [true, true, true, false, false, true, true] rfl (zg_44_J58 hd x1 s.1 s.2.2.2 q1 0 M N h hK)
    · replace h := (if_neg c).symm.trans h
      refine jb_seg 3 (pc' := (if q1 = s.2.2.1 then 51 else 57)) (ls' := [some (.ref 41), some (.int x1), some (.int s.1), some (.int s.2.1), some (.int s.2.2.1), some (.int s.2.2.2), some (.int q1)]) (st' := []) (σ' := (zE L, M, N)) (G := []) rfl trivial ?_
      refine jb_ite (fun c => ?_) (fun c => ?_)
      · replace h := (if_pos c).symm.trans h
        refine jb_seg 4 (pc' := 58) (ls' := [some (.ref 41), some (.int x1), some (.int s.1), some (.int s.2.1), some (.int s.2.2.1), some (.int s.2.2.2), some (.int q1)]) (st' := [(.int (s.2.1 + 1))]) (σ' := (zE L, M, N)) (G := []) rfl trivial ?_
        exact jb_mask [true, true, true, false, false, true, true] rfl (zg_44_J58 hd x1 s.1 s.2.2.2 q1 (s.2.1 + 1) M N h hK)
      · replace h := (if_neg c).symm.trans h
        refine jb_seg 1 (pc' := 58) (ls' := [some (.ref 41), some (.int x1), some (.int s.1), some (.int s.2.1), some (.int s.2.2.1), some (.int s.2.2.2), some (.int q1)]) (st' := [(.int 1)]) (σ' := (zE L, M, N)) (G := []) rfl trivial ?_
        exact jb_mask [true, true, true, false, false, true, true] rfl (zg_44_J58 hd x1 s.1 s.2.2.2 q1 1 M N h hK)
  · replace h := (if_neg c).symm.trans h
    refine jb_seg 1 (pc' := 76) (ls' := [some (.ref 41), some (.int x1), some (.int s.1), some (.int s.2.1), some (.int s.2.2.1), some (.int s.2.2.2), none]) (st' := [(.int s.1)]) (σ' := (zE L, M, N)) (G := []) rfl trivial ?_
    obtain rfl := Option.some.inj h
    obtain ⟨rfl, rfl⟩ := hK
    exact jb_reti rfl rfl
theorem zg_44_H11L {Γ : jb_G} {L : Nat} {d : Nat} (hd : 3 ≤ d) (x1 : Int32) (M : jb_Mi) (N : jb_Ml) {v : Option Value} {σ2 : jb_S} {s : Int32 × Int32 × Int32 × Int32} {r : (Int32)} (h : jb_lp (zf_44_H11 x1 M) s = some r) (hK : (fun r : Int32 => v = some (.int r) ∧ σ2 = (zE L, M, N)) r) : jb_V Γ d zq_44 11 [some (.ref 41), some (.int x1), some (.int s.1), some (.int s.2.1), some (.int s.2.2.1), some (.int s.2.2.2), none] [] (zE L, M, N) v σ2 := by
  exact @jb_lp_ind (Int32 × Int32 × Int32 × Int32) ((Int32)) (zf_44_H11 x1 M) (fun s => jb_V Γ d zq_44 11 [some (.ref 41), some (.int x1), some (.int s.1), some (.int s.2.1), some (.int s.2.2.1), some (.int s.2.2.2), none] [] (zE L, M, N) v σ2) (fun r : Int32 => v = some (.int r) ∧ σ2 = (zE L, M, N)) (fun s r h hk => zg_44_H11 hd x1 M N s h hk) s r h hK
set_option maxRecDepth 20000 in
theorem zg_44 {Γ : jb_G} {L : Nat} {d : Nat} (hd : 3 ≤ d) (x1 : Int32) (M : jb_Mi) (N : jb_Ml) {v : Option Value} {σ2 : jb_S} {r : (Int32)} (h : zf_44 x1 M = some r) (hK : (fun r : Int32 => v = some (.int r) ∧ σ2 = (zE L, M, N)) r) : jb_V Γ d zq_44 0 [some (.ref 41), some (.int x1), none, none, none, none, none] [] (zE L, M, N) v σ2 := by
  obtain ⟨d, rfl⟩ : ∃ e, d = e + 1 := ⟨d - 1, by omega⟩
  unfold zf_44 at h
  refine jb_seg 8 (pc' := 11) (ls' := [some (.ref 41), some (.int x1), some (.int 0), some (.int 0), some (.int (-2)), some (.int 0), none]) (st' := []) (σ' := (zE L, M, N)) (G := []) rfl trivial ?_
  exact jb_mask [true, true, true, true, true, true, false] rfl (zg_44_H11L hd x1 M N h hK)
theorem ze_44 {Γ : jb_G} {L : Nat} {d : Nat} (hd : 3 ≤ d) (x1 : Int32) (M : jb_Mi) (N : jb_Ml) {r : (Int32)} (h : zf_44 x1 M = some r) : jb_V Γ d zq_44 0 (jb_en 7 [(.ref 41), (.int x1)]) [] (zE L, M, N) (some (.int r)) (zE L, M, N) := zg_44 hd x1 M N h ⟨rfl, rfl⟩
-- J7_fill_53178
set_option maxRecDepth 20000 in
theorem zg_45_H5 {Γ : jb_G} {L : Nat} {d : Nat} (x1 : Int32) (x3 : Int32) (N : jb_Ml) (s : Int32 × jb_Mi) {v : Option Value} {σ2 : jb_S} {r : ((Int32 × jb_Mi) ⊕ (jb_Mi))} (h : zf_45_H5 x1 x3 s = some r) (hK : (jb_K (fun s : Int32 × jb_Mi => jb_V Γ d zq_45 5 [some (.ref 42), some (.int x1), some (.int s.1), some (.int x3)] [] (zE L, s.2, N) v σ2) (fun r : jb_Mi => v = none ∧ σ2 = (zE L, r, N))) r) : jb_V Γ d zq_45 5 [some (.ref 42), some (.int x1), some (.int s.1), some (.int x3)] [] (zE L, s.2, N) v σ2 := by
  unfold zf_45_H5 at h
  refine jb_seg 3 (pc' := (if s.1 < x3 then 10 else 20)) (ls' := [some (.ref 42), some (.int x1), some (.int s.1), some (.int x3)]) (st' := []) (σ' := (zE L, s.2, N)) (G := []) rfl trivial ?_
  refine jb_ite (fun c => ?_) (fun c => ?_)
  · replace h := (if_pos c).symm.trans h
    obtain ⟨g1, h⟩ := jb_gd_of h
    refine jb_seg 6 (pc' := 5) (ls' := [some (.ref 42), some (.int x1), some (.int (s.1 + 1)), some (.int x3)]) (st' := []) (σ' := (zE L, (jb_up s.2 42 (s.1).toNatClampNeg x1), N)) (G := [vp_in s.1 16]) rfl g1 ?_
    obtain rfl := Option.some.inj h
    exact jb_mask [true, true, true, true] rfl hK
  · replace h := (if_neg c).symm.trans h
    obtain rfl := Option.some.inj h
    obtain ⟨rfl, rfl⟩ := hK
    exact jb_retv rfl rfl
theorem zg_45_H5L {Γ : jb_G} {L : Nat} {d : Nat} (x1 : Int32) (x3 : Int32) (N : jb_Ml) {v : Option Value} {σ2 : jb_S} {s : Int32 × jb_Mi} {r : (jb_Mi)} (h : jb_lp (zf_45_H5 x1 x3) s = some r) (hK : (fun r : jb_Mi => v = none ∧ σ2 = (zE L, r, N)) r) : jb_V Γ d zq_45 5 [some (.ref 42), some (.int x1), some (.int s.1), some (.int x3)] [] (zE L, s.2, N) v σ2 := by
  exact @jb_lp_ind (Int32 × jb_Mi) ((jb_Mi)) (zf_45_H5 x1 x3) (fun s => jb_V Γ d zq_45 5 [some (.ref 42), some (.int x1), some (.int s.1), some (.int x3)] [] (zE L, s.2, N) v σ2) (fun r : jb_Mi => v = none ∧ σ2 = (zE L, r, N)) (fun s r h hk => zg_45_H5 x1 x3 N s h hk) s r h hK
set_option maxRecDepth 20000 in
theorem zg_45 {Γ : jb_G} {L : Nat} {d : Nat} (x1 : Int32) (M : jb_Mi) (N : jb_Ml) {v : Option Value} {σ2 : jb_S} {r : (jb_Mi)} (h : zf_45 x1 M = some r) (hK : (fun r : jb_Mi => v = none ∧ σ2 = (zE L, r, N)) r) : jb_V Γ d zq_45 0 [some (.ref 42), some (.int x1), none, none] [] (zE L, M, N) v σ2 := by
  unfold zf_45 at h
  refine jb_seg 5 (pc' := 5) (ls' := [some (.ref 42), some (.int x1), some (.int 0), some (.int (Int32.ofNat 16))]) (st' := []) (σ' := (zE L, M, N)) (G := []) rfl trivial ?_
  exact jb_mask [true, true, true, true] rfl (zg_45_H5L x1 (Int32.ofNat 16) N h hK)
theorem ze_45 {Γ : jb_G} {L : Nat} {d : Nat} (x1 : Int32) (M : jb_Mi) (N : jb_Ml) {r : (jb_Mi)} (h : zf_45 x1 M = some r) : jb_V Γ d zq_45 0 (jb_en 4 [(.ref 42), (.int x1)]) [] (zE L, M, N) (none) (zE L, r, N) := zg_45 x1 M N h ⟨rfl, rfl⟩
-- X1_countHeld
set_option maxRecDepth 20000 in
theorem zg_46_J92 {Γ : jb_G} {L : Nat} {d : Nat} (hd : 3 ≤ d) (x1 : Int32) (x2 : Int32) (x3 : Int32) (M : jb_Mi) (N : jb_Ml) {v : Option Value} {σ2 : jb_S} {r : ((Int32 × Int32 × jb_Mi) ⊕ ((Int32 × jb_Mi) ⊕ (jb_Mi)))} (h : zf_46_J92 x1 x2 x3 M = some r) (hK : (jb_K (fun s : Int32 × Int32 × jb_Mi => jb_V Γ d zq_46 20 [some (.ref 41), some (.int x1), some (.int s.1), some (.int s.2.1), none] [] (zE L, s.2.2, N) v σ2) (jb_K (fun s : Int32 × jb_Mi => jb_V Γ d zq_46 10 [some (.ref 41), some (.int s.1), none, none, none] [] (zE L, s.2, N) v σ2) (fun r : jb_Mi => v = none ∧ σ2 = (zE L, r, N)))) r) : jb_V Γ d zq_46 92 [some (.ref 41), some (.int x1), some (.int x2), some (.int x3), none] [] (zE L, M, N) v σ2 := by
  obtain ⟨d, rfl⟩ : ∃ e, d = e + 1 := ⟨d - 1, by omega⟩
  unfold zf_46_J92 at h
  refine jb_seg 2 (pc' := 20) (ls' := [some (.ref 41), some (.int x1), some (.int x2), some (.int (x3 + 1)), none]) (st' := []) (σ' := (zE L, M, N)) (G := []) rfl trivial ?_
  obtain rfl := Option.some.inj h
  exact jb_mask [true, true, true, true, false] rfl hK
set_option maxRecDepth 20000 in
theorem zg_46_J58 {Γ : jb_G} {L : Nat} {d : Nat} (hd : 3 ≤ d) (x1 : Int32) (x2 : Int32) (x3 : Int32) (s0 : Int32) (M : jb_Mi) (N : jb_Ml) {v : Option Value} {σ2 : jb_S} {r : ((Int32 × Int32 × jb_Mi) ⊕ ((Int32 × jb_Mi) ⊕ (jb_Mi)))} (h : zf_46_J58 x1 x2 x3 s0 M = some r) (hK : (jb_K (fun s : Int32 × Int32 × jb_Mi => jb_V Γ d zq_46 20 [some (.ref 41), some (.int x1), some (.int s.1), some (.int s.2.1), none] [] (zE L, s.2.2, N) v σ2) (jb_K (fun s : Int32 × jb_Mi => jb_V Γ d zq_46 10 [some (.ref 41), some (.int s.1), none, none, none] [] (zE L, s.2, N) v σ2) (fun r : jb_Mi => v = none ∧ σ2 = (zE L, r, N)))) r) : jb_V Γ d zq_46 58 [some (.ref 41), some (.int x1), some (.int x2), some (.int x3), none] [(.int s0)] (zE L, M, N) v σ2 := by
  obtain ⟨d, rfl⟩ : ∃ e, d = e + 1 := ⟨d - 1, by omega⟩
  unfold zf_46_J58 at h
  refine jb_seg 3 (pc' := (if s0 < 0 then 92 else 65)) (ls' := [some (.ref 41), some (.int x1), some (.int x2), some (.int x3), some (.int s0)]) (st' := []) (σ' := (zE L, M, N)) (G := []) rfl trivial ?_
  refine jb_ite (fun c => ?_) (fun c => ?_)
  · replace h := (if_pos c).symm.trans h
    exact jb_mask [true, true, true, true, false] rfl (zg_46_J92 hd x1 x2 x3 M N h hK)
  · replace h := (if_neg c).symm.trans h
    refine jb_seg 6 (pc' := (if ((x2 >>> (s0 &&& 31)) &&& 1) = 0 then 74 else 92)) (ls' := [some (.ref 41), some (.int x1), some (.int x2), some (.int x3), some (.int s0)]) (st' := []) (σ' := (zE L, M, N)) (G := []) rfl trivial ?_
    refine jb_ite (fun c => ?_) (fun c => ?_)
    · replace h := (if_pos c).symm.trans h
      obtain ⟨g3, h⟩ := jb_gd_of h
      obtain ⟨g4, h⟩ := jb_gd_of h
      refine jb_seg 14 (pc' := 92) (ls' := [some (.ref 41), some (.int x1), some (.int (x2 ||| ((1 : Int32) <<< (s0 &&& 31)))), some (.int x3), some (.int s0)]) (st' := []) (σ' := (zE L, (jb_up M 42 s0.toNatClampNeg ((M 42 s0.toNatClampNeg) + 1)), N)) (G := [vp_in s0 16, vp_in s0 16]) rfl ⟨g3, g4⟩ ?_
      exact jb_mask [true, true, true, true, false] rfl (zg_46_J92 hd x1 (x2 ||| ((1 : Int32) <<< (s0 &&& 31))) x3 (jb_up M 42 s0.toNatClampNeg ((M 42 s0.toNatClampNeg) + 1)) N h hK)
    · replace h := (if_neg c).symm.trans h
      exact jb_mask [true, true, true, true, false] rfl (zg_46_J92 hd x1 x2 x3 M N h hK)
set_option maxRecDepth 20000 in
theorem zg_46_H20 {Γ : jb_G} {L : Nat} {d : Nat} (hd : 3 ≤ d) (x1 : Int32) (N : jb_Ml) (s : Int32 × Int32 × jb_Mi) {v : Option Value} {σ2 : jb_S} {r : ((Int32 × Int32 × jb_Mi) ⊕ ((Int32 × jb_Mi) ⊕ (jb_Mi)))} (h : zf_46_H20 x1 s = some r) (hK : (jb_K (fun s : Int32 × Int32 × jb_Mi => jb_V Γ d zq_46 20 [some (.ref 41), some (.int x1), some (.int s.1), some (.int s.2.1), none] [] (zE L, s.2.2, N) v σ2) (jb_K (fun s : Int32 × jb_Mi => jb_V Γ d zq_46 10 [some (.ref 41), some (.int s.1), none, none, none] [] (zE L, s.2, N) v σ2) (fun r : jb_Mi => v = none ∧ σ2 = (zE L, r, N)))) r) : jb_V Γ d zq_46 20 [some (.ref 41), some (.int x1), some (.int s.1), some (.int s.2.1), none] [] (zE L, s.2.2, N) v σ2 := by
  obtain ⟨d, rfl⟩ : ∃ e, d = e + 1 := ⟨d - 1, by omega⟩
  unfold zf_46_H20 at h
  refine jb_seg 3 (pc' := (if s.2.1 < 24 then 26 else 98)) (ls' := [some (.ref 41), some (.int x1), some (.int s.1), some (.int s.2.1), none]) (st' := []) (σ' := (zE L, s.2.2, N)) (G := []) rfl trivial ?_
  refine jb_ite (fun c => ?_) (fun c => ?_)
  · replace h := (if_pos c).symm.trans h
    refine jb_seg 5 (pc' := 33) (ls' := [some (.ref 41), some (.int x1), some (.int s.1), some (.int s.2.1), none]) (st' := [(.int (s.2.1 / 4)), (.ref 4)]) (σ' := (zE L, s.2.2, N)) (G := [¬ (4 : Int32) = 0]) rfl (show ¬ (4 : Int32) = 0 from (by decide)) ?_
    obtain ⟨q2, h2, h⟩ := jb_bd_of h
    refine jb_callV (q' := zq_37) (As := [(.int (s.2.1 / 4))]) (rest := []) (σ1 := (zE L, s.2.2, N)) (v := some (.int (jb_b2i q2))) rfl rfl zp_37 rfl (Nat.le_of_ble_eq_true rfl) (jb_cat rfl) (Nat.le_of_ble_eq_true rfl) (Nat.le_of_ble_eq_true rfl) (Or.inl rfl) rfl (ze_37 4 (s.2.1 / 4) s.2.2 N (by decide) h2) ?_
    refine jb_seg 1 (pc' := (if (jb_b2i q2) = 0 then 56 else 39)) (ls' := [some (.ref 41), some (.int x1), some (.int s.1), some (.int s.2.1), none]) (st' := []) (σ' := (zE L, s.2.2, N)) (G := []) rfl trivial ?_
    refine jb_ite (fun c => ?_) (fun c => ?_)
    · replace h := (if_pos c).symm.trans h
      refine jb_seg 1 (pc' := 58) (ls' := [some (.ref 41), some (.int x1), some (.int s.1), some (.int s.2.1), none]) (st' := [(.int (-2))]) (σ' := (zE L, s.2.2, N)) (G := []) rfl trivial ?_
      exact jb_mask [true, true, true, true, false] rfl (zg_46_J58 hd x1 s.1 s.2.1 (-2) s.2.2 N h hK)
    · replace h := (if_neg c).symm.trans h
      refine jb_seg 4 (pc' := 45) (ls' := [some (.ref 41), some (.int x1), some (.int s.1), some (.int s.2.1), none]) (st' := [(.ref 4), (.int s.2.1), (.ref 41)]) (σ' := (zE L, s.2.2, N)) (G := []) rfl trivial ?_
      refine jb_callV (q' := zq_14) (As := []) (rest := [(.int s.2.1), (.ref 41)]) (σ1 := (zE L, s.2.2, N)) (v := some (.int (zf_14 4 s.2.2))) rfl rfl zp_14 rfl (Nat.le_of_ble_eq_true rfl) (jb_cat rfl) (Nat.le_of_ble_eq_true rfl) (Nat.le_of_ble_eq_true rfl) (Or.inl rfl) rfl (ze_14 4 s.2.2 N (by decide) rfl) ?_
      refine jb_seg 2 (pc' := 50) (ls' := [some (.ref 41), some (.int x1), some (.int s.1), some (.int s.2.1), none]) (st' := [(.int ((zf_14 4 s.2.2) + x1)), (.int s.2.1), (.ref 41)]) (σ' := (zE L, s.2.2, N)) (G := []) rfl trivial ?_
      obtain ⟨q5, h5, h⟩ := jb_bd_of h
      refine jb_callV (q' := zq_19) (As := [(.int s.2.1), (.int ((zf_14 4 s.2.2) + x1))]) (rest := []) (σ1 := (zE L, s.2.2, N)) (v := some (.int q5)) rfl rfl zp_19 rfl (Nat.le_of_ble_eq_true rfl) (jb_cat rfl) (Nat.le_of_ble_eq_true rfl) (Nat.le_of_ble_eq_true rfl) (Or.inl rfl) rfl (ze_19 (by omega) s.2.1 ((zf_14 4 s.2.2) + x1) s.2.2 N h5) ?_
      refine jb_seg 1 (pc' := 58) (ls' := [some (.ref 41), some (.int x1), some (.int s.1), some (.int s.2.1), none]) (st' := [(.int q5)]) (σ' := (zE L, s.2.2, N)) (G := []) rfl trivial ?_
      exact jb_mask [true, true, true, true, false] rfl (zg_46_J58 hd x1 s.1 s.2.1 q5 s.2.2 N h hK)
  · replace h := (if_neg c).symm.trans h
    refine jb_seg 2 (pc' := 10) (ls' := [some (.ref 41), some (.int (x1 + 1)), some (.int s.1), some (.int s.2.1), none]) (st' := []) (σ' := (zE L, s.2.2, N)) (G := []) rfl trivial ?_
    obtain rfl := Option.some.inj h
    exact jb_mask [true, true, false, false, false] rfl hK
theorem zg_46_H20L {Γ : jb_G} {L : Nat} {d : Nat} (hd : 3 ≤ d) (x1 : Int32) (N : jb_Ml) {v : Option Value} {σ2 : jb_S} {s : Int32 × Int32 × jb_Mi} {r : ((Int32 × jb_Mi) ⊕ (jb_Mi))} (h : jb_lp (zf_46_H20 x1) s = some r) (hK : (jb_K (fun s : Int32 × jb_Mi => jb_V Γ d zq_46 10 [some (.ref 41), some (.int s.1), none, none, none] [] (zE L, s.2, N) v σ2) (fun r : jb_Mi => v = none ∧ σ2 = (zE L, r, N))) r) : jb_V Γ d zq_46 20 [some (.ref 41), some (.int x1), some (.int s.1), some (.int s.2.1), none] [] (zE L, s.2.2, N) v σ2 := by
  exact @jb_lp_ind (Int32 × Int32 × jb_Mi) (((Int32 × jb_Mi) ⊕ (jb_Mi))) (zf_46_H20 x1) (fun s => jb_V Γ d zq_46 20 [some (.ref 41), some (.int x1), some (.int s.1), some (.int s.2.1), none] [] (zE L, s.2.2, N) v σ2) (jb_K (fun s : Int32 × jb_Mi => jb_V Γ d zq_46 10 [some (.ref 41), some (.int s.1), none, none, none] [] (zE L, s.2, N) v σ2) (fun r : jb_Mi => v = none ∧ σ2 = (zE L, r, N))) (fun s r h hk => zg_46_H20 hd x1 N s h hk) s r h hK
set_option maxRecDepth 20000 in
theorem zg_46_H10 {Γ : jb_G} {L : Nat} {d : Nat} (hd : 3 ≤ d) (N : jb_Ml) (s : Int32 × jb_Mi) {v : Option Value} {σ2 : jb_S} {r : ((Int32 × jb_Mi) ⊕ (jb_Mi))} (h : zf_46_H10 s = some r) (hK : (jb_K (fun s : Int32 × jb_Mi => jb_V Γ d zq_46 10 [some (.ref 41), some (.int s.1), none, none, none] [] (zE L, s.2, N) v σ2) (fun r : jb_Mi => v = none ∧ σ2 = (zE L, r, N))) r) : jb_V Γ d zq_46 10 [some (.ref 41), some (.int s.1), none, none, none] [] (zE L, s.2, N) v σ2 := by
  obtain ⟨d, rfl⟩ : ∃ e, d = e + 1 := ⟨d - 1, by omega⟩
  unfold zf_46_H10 at h
  refine jb_seg 3 (pc' := (if s.1 < 24 then 16 else 104)) (ls' := [some (.ref 41), some (.int s.1), none, none, none]) (st' := []) (σ' := (zE L, s.2, N)) (G := []) rfl trivial ?_
  refine jb_ite (fun c => ?_) (fun c => ?_)
  · replace h := (if_pos c).symm.trans h
    refine jb_seg 4 (pc' := 20) (ls' := [some (.ref 41), some (.int s.1), some (.int 0), some (.int 0), none]) (st' := []) (σ' := (zE L, s.2, N)) (G := []) rfl trivial ?_
    exact jb_mask [true, true, true, true, false] rfl (zg_46_H20L hd s.1 N h hK)
  · replace h := (if_neg c).symm.trans h
    obtain rfl := Option.some.inj h
    obtain ⟨rfl, rfl⟩ := hK
    exact jb_retv rfl rfl
theorem zg_46_H10L {Γ : jb_G} {L : Nat} {d : Nat} (hd : 3 ≤ d) (N : jb_Ml) {v : Option Value} {σ2 : jb_S} {s : Int32 × jb_Mi} {r : (jb_Mi)} (h : jb_lp (zf_46_H10) s = some r) (hK : (fun r : jb_Mi => v = none ∧ σ2 = (zE L, r, N)) r) : jb_V Γ d zq_46 10 [some (.ref 41), some (.int s.1), none, none, none] [] (zE L, s.2, N) v σ2 := by
  exact @jb_lp_ind (Int32 × jb_Mi) ((jb_Mi)) (zf_46_H10) (fun s => jb_V Γ d zq_46 10 [some (.ref 41), some (.int s.1), none, none, none] [] (zE L, s.2, N) v σ2) (fun r : jb_Mi => v = none ∧ σ2 = (zE L, r, N)) (fun s r h hk => zg_46_H10 hd N s h hk) s r h hK
set_option maxRecDepth 20000 in
theorem zg_46 {Γ : jb_G} {L : Nat} {d : Nat} (hd : 3 ≤ d) (M : jb_Mi) (N : jb_Ml) {v : Option Value} {σ2 : jb_S} {r : (jb_Mi)} (h : zf_46 M = some r) (hK : (fun r : jb_Mi => v = none ∧ σ2 = (zE L, r, N)) r) : jb_V Γ d zq_46 0 [some (.ref 41), none, none, none, none] [] (zE L, M, N) v σ2 := by
  obtain ⟨d, rfl⟩ : ∃ e, d = e + 1 := ⟨d - 1, by omega⟩
  unfold zf_46 at h
  refine jb_seg 3 (pc' := 5) (ls' := [some (.ref 41), none, none, none, none]) (st' := [(.int 0), (.ref 42)]) (σ' := (zE L, M, N)) (G := []) rfl trivial ?_
  obtain ⟨q1, h1, h⟩ := jb_bd_of h
  refine jb_callS (q' := zq_45) (As := [(.ref 42), (.int 0)]) (rest := []) (σ1 := (zE L, q1, N)) (v := none) rfl (Nat.le_of_ble_eq_true rfl) rfl zp_45 (jb_cat rfl) (Nat.le_of_ble_eq_true rfl) (Nat.le_of_ble_eq_true rfl) (Or.inl rfl) rfl (ze_45 0 M N h1) ?_
  refine jb_seg 2 (pc' := 10) (ls' := [some (.ref 41), some (.int 0), none, none, none]) (st' := []) (σ' := (zE L, q1, N)) (G := []) rfl trivial ?_
  exact jb_mask [true, true, false, false, false] rfl (zg_46_H10L hd N h hK)
theorem ze_46 {Γ : jb_G} {L : Nat} {d : Nat} (hd : 3 ≤ d) (M : jb_Mi) (N : jb_Ml) {r : (jb_Mi)} (h : zf_46 M = some r) : jb_V Γ d zq_46 0 (jb_en 5 [(.ref 41)]) [] (zE L, M, N) (none) (zE L, r, N) := zg_46 hd M N h ⟨rfl, rfl⟩
-- X1_findStrikers
set_option maxRecDepth 20000 in
theorem zg_47_J92 {Γ : jb_G} {L : Nat} {d : Nat} (hd : 4 ≤ d) (x1 : Int32) (x2 : Int32) (x3 : Int32) (x4 : Int32) (M : jb_Mi) (N : jb_Ml) {v : Option Value} {σ2 : jb_S} {r : ((Int32 × Int32) ⊕ ((Int32 × jb_Mi) ⊕ (jb_Mi)))} (h : zf_47_J92 x1 x2 x3 x4 M = some r) (hK : (jb_K (fun s : Int32 × Int32 => jb_V Γ d zq_47 26 [some (.ref 41), some (.int x1), some (.int x2), some (.int s.1), some (.int s.2), none] [] (zE L, M, N) v σ2) (jb_K (fun s : Int32 × jb_Mi => jb_V Γ d zq_47 16 [some (.ref 41), some (.int x1), some (.int s.1), none, none, none] [] (zE L, s.2, N) v σ2) (fun r : jb_Mi => v = none ∧ σ2 = (zE L, r, N)))) r) : jb_V Γ d zq_47 92 [some (.ref 41), some (.int x1), some (.int x2), some (.int x3), some (.int x4), none] [] (zE L, M, N) v σ2 := by
  obtain ⟨d, rfl⟩ : ∃ e, d = e + 1 := ⟨d - 1, by omega⟩
  unfold zf_47_J92 at h
  refine jb_seg 2 (pc' := 26) (ls' := [some (.ref 41), some (.int x1), some (.int x2), some (.int x3), some (.int (x4 + 1)), none]) (st' := []) (σ' := (zE L, M, N)) (G := []) rfl trivial ?_
  obtain rfl := Option.some.inj h
  exact jb_mask [true, true, true, true, true, false] rfl hK
set_option maxRecDepth 20000 in
theorem zg_47_J89 {Γ : jb_G} {L : Nat} {d : Nat} (hd : 4 ≤ d) (x1 : Int32) (x2 : Int32) (x4 : Int32) (M : jb_Mi) (N : jb_Ml) {v : Option Value} {σ2 : jb_S} {r : ((Int32 × Int32) ⊕ ((Int32 × jb_Mi) ⊕ (jb_Mi)))} (h : zf_47_J89 x1 x2 x4 M = some r) (hK : (jb_K (fun s : Int32 × Int32 => jb_V Γ d zq_47 26 [some (.ref 41), some (.int x1), some (.int x2), some (.int s.1), some (.int s.2), none] [] (zE L, M, N) v σ2) (jb_K (fun s : Int32 × jb_Mi => jb_V Γ d zq_47 16 [some (.ref 41), some (.int x1), some (.int s.1), none, none, none] [] (zE L, s.2, N) v σ2) (fun r : jb_Mi => v = none ∧ σ2 = (zE L, r, N)))) r) : jb_V Γ d zq_47 89 [some (.ref 41), some (.int x1), some (.int x2), none, some (.int x4), none] [] (zE L, M, N) v σ2 := by
  obtain ⟨d, rfl⟩ : ∃ e, d = e + 1 := ⟨d - 1, by omega⟩
  unfold zf_47_J89 at h
  refine jb_seg 2 (pc' := 92) (ls' := [some (.ref 41), some (.int x1), some (.int x2), some (.int x4), some (.int x4), none]) (st' := []) (σ' := (zE L, M, N)) (G := []) rfl trivial ?_
  exact jb_mask [true, true, true, true, true, false] rfl (zg_47_J92 hd x1 x2 x4 x4 M N h hK)
set_option maxRecDepth 20000 in
theorem zg_47_J62 {Γ : jb_G} {L : Nat} {d : Nat} (hd : 4 ≤ d) (x1 : Int32) (x2 : Int32) (x3 : Int32) (x4 : Int32) (s0 : Int32) (M : jb_Mi) (N : jb_Ml) {v : Option Value} {σ2 : jb_S} {r : ((Int32 × Int32) ⊕ ((Int32 × jb_Mi) ⊕ (jb_Mi)))} (h : zf_47_J62 x1 x2 x3 x4 s0 M = some r) (hK : (jb_K (fun s : Int32 × Int32 => jb_V Γ d zq_47 26 [some (.ref 41), some (.int x1), some (.int x2), some (.int s.1), some (.int s.2), none] [] (zE L, M, N) v σ2) (jb_K (fun s : Int32 × jb_Mi => jb_V Γ d zq_47 16 [some (.ref 41), some (.int x1), some (.int s.1), none, none, none] [] (zE L, s.2, N) v σ2) (fun r : jb_Mi => v = none ∧ σ2 = (zE L, r, N)))) r) : jb_V Γ d zq_47 62 [some (.ref 41), some (.int x1), some (.int x2), some (.int x3), some (.int x4), none] [(.int s0)] (zE L, M, N) v σ2 := by
  obtain ⟨d, rfl⟩ : ∃ e, d = e + 1 := ⟨d - 1, by omega⟩
  unfold zf_47_J62 at h
  refine jb_seg 3 (pc' := (if s0 = 0 then 92 else 69)) (ls' := [some (.ref 41), some (.int x1), some (.int x2), some (.int x3), some (.int x4), some (.int s0)]) (st' := []) (σ' := (zE L, M, N)) (G := []) rfl trivial ?_
  refine jb_ite (fun c => ?_) (fun c => ?_)
  · replace h := (if_pos c).symm.trans h
    exact jb_mask [true, true, true, true, true, false] rfl (zg_47_J92 hd x1 x2 x3 x4 M N h hK)
  · replace h := (if_neg c).symm.trans h
    refine jb_seg 2 (pc' := (if x3 < 0 then 89 else 73)) (ls' := [some (.ref 41), some (.int x1), some (.int x2), some (.int x3), some (.int x4), some (.int s0)]) (st' := []) (σ' := (zE L, M, N)) (G := []) rfl trivial ?_
    refine jb_ite (fun c => ?_) (fun c => ?_)
    · replace h := (if_pos c).symm.trans h
      exact jb_mask [true, true, true, false, true, false] rfl (zg_47_J89 hd x1 x2 x4 M N h hK)
    · replace h := (if_neg c).symm.trans h
      obtain ⟨g3, h⟩ := jb_gd_of h
      obtain ⟨g4, h⟩ := jb_gd_of h
      refine jb_seg 9 (pc' := (if (M 42 x3.toNatClampNeg) < (M 42 x4.toNatClampNeg) then 89 else 92)) (ls' := [some (.ref 41), some (.int x1), some (.int x2), some (.int x3), some (.int x4), some (.int s0)]) (st' := []) (σ' := (zE L, M, N)) (G := [vp_in x4 16, vp_in x3 16]) rfl ⟨g3, g4⟩ ?_
      refine jb_ite (fun c => ?_) (fun c => ?_)
      · replace h := (if_pos c).symm.trans h
        exact jb_mask [true, true, true, false, true, false] rfl (zg_47_J89 hd x1 x2 x4 M N h hK)
      · replace h := (if_neg c).symm.trans h
        exact jb_mask [true, true, true, true, true, false] rfl (zg_47_J92 hd x1 x2 x3 x4 M N h hK)
set_option maxRecDepth 20000 in
theorem zg_47_J61 {Γ : jb_G} {L : Nat} {d : Nat} (hd : 4 ≤ d) (x1 : Int32) (x2 : Int32) (x3 : Int32) (x4 : Int32) (M : jb_Mi) (N : jb_Ml) {v : Option Value} {σ2 : jb_S} {r : ((Int32 × Int32) ⊕ ((Int32 × jb_Mi) ⊕ (jb_Mi)))} (h : zf_47_J61 x1 x2 x3 x4 M = some r) (hK : (jb_K (fun s : Int32 × Int32 => jb_V Γ d zq_47 26 [some (.ref 41), some (.int x1), some (.int x2), some (.int s.1), some (.int s.2), none] [] (zE L, M, N) v σ2) (jb_K (fun s : Int32 × jb_Mi => jb_V Γ d zq_47 16 [some (.ref 41), some (.int x1), some (.int s.1), none, none, none] [] (zE L, s.2, N) v σ2) (fun r : jb_Mi => v = none ∧ σ2 = (zE L, r, N)))) r) : jb_V Γ d zq_47 61 [some (.ref 41), some (.int x1), some (.int x2), some (.int x3), some (.int x4), none] [] (zE L, M, N) v σ2 := by
  obtain ⟨d, rfl⟩ : ∃ e, d = e + 1 := ⟨d - 1, by omega⟩
  unfold zf_47_J61 at h
  refine jb_seg 1 (pc' := 62) (ls' := [some (.ref 41), some (.int x1), some (.int x2), some (.int x3), some (.int x4), none]) (st' := [(.int 0)]) (σ' := (zE L, M, N)) (G := []) rfl trivial ?_
  exact jb_mask [true, true, true, true, true, false] rfl (zg_47_J62 hd x1 x2 x3 x4 0 M N h hK)
set_option maxRecDepth 20000 in
theorem zg_47_J129 {Γ : jb_G} {L : Nat} {d : Nat} (hd : 4 ≤ d) (x1 : Int32) (x2 : Int32) (M : jb_Mi) (N : jb_Ml) {v : Option Value} {σ2 : jb_S} {r : ((Int32 × jb_Mi) ⊕ (jb_Mi))} (h : zf_47_J129 x1 x2 M = some r) (hK : (jb_K (fun s : Int32 × jb_Mi => jb_V Γ d zq_47 16 [some (.ref 41), some (.int x1), some (.int s.1), none, none, none] [] (zE L, s.2, N) v σ2) (fun r : jb_Mi => v = none ∧ σ2 = (zE L, r, N))) r) : jb_V Γ d zq_47 129 [some (.ref 41), some (.int x1), some (.int x2), none, none, none] [] (zE L, M, N) v σ2 := by
  obtain ⟨d, rfl⟩ : ∃ e, d = e + 1 := ⟨d - 1, by omega⟩
  unfold zf_47_J129 at h
  refine jb_seg 2 (pc' := 16) (ls' := [some (.ref 41), some (.int x1), some (.int (x2 + 1)), none, none, none]) (st' := []) (σ' := (zE L, M, N)) (G := []) rfl trivial ?_
  obtain rfl := Option.some.inj h
  exact jb_mask [true, true, true, false, false, false] rfl hK
set_option maxRecDepth 20000 in
theorem zg_47_H26 {Γ : jb_G} {L : Nat} {d : Nat} (hd : 4 ≤ d) (x1 : Int32) (x2 : Int32) (M : jb_Mi) (N : jb_Ml) (s : Int32 × Int32) {v : Option Value} {σ2 : jb_S} {r : ((Int32 × Int32) ⊕ ((Int32 × jb_Mi) ⊕ (jb_Mi)))} (h : zf_47_H26 x1 x2 M s = some r) (hK : (jb_K (fun s : Int32 × Int32 => jb_V Γ d zq_47 26 [some (.ref 41), some (.int x1), some (.int x2), some (.int s.1), some (.int s.2), none] [] (zE L, M, N) v σ2) (jb_K (fun s : Int32 × jb_Mi => jb_V Γ d zq_47 16 [some (.ref 41), some (.int x1), some (.int s.1), none, none, none] [] (zE L, s.2, N) v σ2) (fun r : jb_Mi => v = none ∧ σ2 = (zE L, r, N)))) r) : jb_V Γ d zq_47 26 [some (.ref 41), some (.int x1), some (.int x2), some (.int s.1), some (.int s.2), none] [] (zE L, M, N) v σ2 := by
  obtain ⟨d, rfl⟩ : ∃ e, d = e + 1 := ⟨d - 1, by omega⟩
  unfold zf_47_H26 at h
  refine jb_seg 3 (pc' := (if s.2 < 16 then 33 else 98)) (ls' := [some (.ref 41), some (.int x1), some (.int x2), some (.int s.1), some (.int s.2), none]) (st' := []) (σ' := (zE L, M, N)) (G := []) rfl trivial ?_
  refine jb_ite (fun c => ?_) (fun c => ?_)
  · replace h := (if_pos c).symm.trans h
    refine jb_seg 3 (pc' := 39) (ls' := [some (.ref 41), some (.int x1), some (.int x2), some (.int s.1), some (.int s.2), none]) (st' := [(.int s.2), (.ref 4)]) (σ' := (zE L, M, N)) (G := []) rfl trivial ?_
    obtain ⟨q2, h2, h⟩ := jb_bd_of h
    refine jb_callV (q' := zq_18) (As := [(.int s.2)]) (rest := []) (σ1 := (zE L, M, N)) (v := some (.int (jb_b2i q2))) rfl rfl zp_18 rfl (Nat.le_of_ble_eq_true rfl) (jb_cat rfl) (Nat.le_of_ble_eq_true rfl) (Nat.le_of_ble_eq_true rfl) (Or.inl rfl) rfl (ze_18 4 s.2 M N (by decide) h2) ?_
    refine jb_seg 1 (pc' := (if (jb_b2i q2) = 0 then 61 else 45)) (ls' := [some (.ref 41), some (.int x1), some (.int x2), some (.int s.1), some (.int s.2), none]) (st' := []) (σ' := (zE L, M, N)) (G := []) rfl trivial ?_
    refine jb_ite (fun c => ?_) (fun c => ?_)
    · replace h := (if_pos c).symm.trans h
      exact jb_mask [true, true, true, true, true, false] rfl (zg_47_J61 hd x1 x2 s.1 s.2 M N h hK)
    · replace h := (if_neg c).symm.trans h
      refine jb_seg 7 (pc' := (if (((M 41 4) >>> (s.2 &&& 31)) &&& 1) = 0 then 57 else 61)) (ls' := [some (.ref 41), some (.int x1), some (.int x2), some (.int s.1), some (.int s.2), none]) (st' := []) (σ' := (zE L, M, N)) (G := []) rfl trivial ?_
      refine jb_ite (fun c => ?_) (fun c => ?_)
      · replace h := (if_pos c).symm.trans h
        refine jb_seg 2 (pc' := 62) (ls' := [some (.ref 41), some (.int x1), some (.int x2), some (.int s.1), some (.int s.2), none]) (st' := [(.int 1)]) (σ' := (zE L, M, N)) (G := []) rfl trivial ?_
        exact jb_mask [true, true, true, true, true, false] rfl (zg_47_J62 hd x1 x2 s.1 s.2 1 M N h hK)
      · replace h := (if_neg c).symm.trans h
        exact jb_mask [true, true, true, true, true, false] rfl (zg_47_J61 hd x1 x2 s.1 s.2 M N h hK)
  · replace h := (if_neg c).symm.trans h
    refine jb_seg 2 (pc' := (if s.1 < 0 then 129 else 102)) (ls' := [some (.ref 41), some (.int x1), some (.int x2), some (.int s.1), some (.int s.2), none]) (st' := []) (σ' := (zE L, M, N)) (G := []) rfl trivial ?_
    refine jb_ite (fun c => ?_) (fun c => ?_)
    · replace h := (if_pos c).symm.trans h
      obtain ⟨y0, hy0, rfl⟩ := jb_mp_of h
      exact jb_mask [true, true, true, false, false, false] rfl (zg_47_J129 hd x1 x2 M N hy0 hK)
    · replace h := (if_neg c).symm.trans h
      obtain ⟨g5, h⟩ := jb_gd_of h
      refine jb_seg 17 (pc' := 129) (ls' := [some (.ref 41), some (.int x1), some (.int x2), some (.int s.1), some (.int s.2), none]) (st' := []) (σ' := (zE L, (jb_up (jb_up M 41 4 ((M 41 4) ||| ((1 : Int32) <<< (s.1 &&& 31)))) 41 3 (((jb_up M 41 4 ((M 41 4) ||| ((1 : Int32) <<< (s.1 &&& 31)))) 41 3) + ((jb_up M 41 4 ((M 41 4) ||| ((1 : Int32) <<< (s.1 &&& 31)))) 42 (s.1).toNatClampNeg))), N)) (G := [vp_in s.1 16]) rfl g5 ?_
      obtain ⟨y0, hy0, rfl⟩ := jb_mp_of h
      exact jb_mask [true, true, true, false, false, false] rfl (zg_47_J129 hd x1 x2 (jb_up (jb_up M 41 4 ((M 41 4) ||| ((1 : Int32) <<< (s.1 &&& 31)))) 41 3 (((jb_up M 41 4 ((M 41 4) ||| ((1 : Int32) <<< (s.1 &&& 31)))) 41 3) + ((jb_up M 41 4 ((M 41 4) ||| ((1 : Int32) <<< (s.1 &&& 31)))) 42 (s.1).toNatClampNeg))) N hy0 hK)
theorem zg_47_H26L {Γ : jb_G} {L : Nat} {d : Nat} (hd : 4 ≤ d) (x1 : Int32) (x2 : Int32) (M : jb_Mi) (N : jb_Ml) {v : Option Value} {σ2 : jb_S} {s : Int32 × Int32} {r : ((Int32 × jb_Mi) ⊕ (jb_Mi))} (h : jb_lp (zf_47_H26 x1 x2 M) s = some r) (hK : (jb_K (fun s : Int32 × jb_Mi => jb_V Γ d zq_47 16 [some (.ref 41), some (.int x1), some (.int s.1), none, none, none] [] (zE L, s.2, N) v σ2) (fun r : jb_Mi => v = none ∧ σ2 = (zE L, r, N))) r) : jb_V Γ d zq_47 26 [some (.ref 41), some (.int x1), some (.int x2), some (.int s.1), some (.int s.2), none] [] (zE L, M, N) v σ2 := by
  exact @jb_lp_ind (Int32 × Int32) (((Int32 × jb_Mi) ⊕ (jb_Mi))) (zf_47_H26 x1 x2 M) (fun s => jb_V Γ d zq_47 26 [some (.ref 41), some (.int x1), some (.int x2), some (.int s.1), some (.int s.2), none] [] (zE L, M, N) v σ2) (jb_K (fun s : Int32 × jb_Mi => jb_V Γ d zq_47 16 [some (.ref 41), some (.int x1), some (.int s.1), none, none, none] [] (zE L, s.2, N) v σ2) (fun r : jb_Mi => v = none ∧ σ2 = (zE L, r, N))) (fun s r h hk => zg_47_H26 hd x1 x2 M N s h hk) s r h hK
set_option maxRecDepth 20000 in
theorem zg_47_H16 {Γ : jb_G} {L : Nat} {d : Nat} (hd : 4 ≤ d) (x1 : Int32) (N : jb_Ml) (s : Int32 × jb_Mi) {v : Option Value} {σ2 : jb_S} {r : ((Int32 × jb_Mi) ⊕ (jb_Mi))} (h : zf_47_H16 x1 s = some r) (hK : (jb_K (fun s : Int32 × jb_Mi => jb_V Γ d zq_47 16 [some (.ref 41), some (.int x1), some (.int s.1), none, none, none] [] (zE L, s.2, N) v σ2) (fun r : jb_Mi => v = none ∧ σ2 = (zE L, r, N))) r) : jb_V Γ d zq_47 16 [some (.ref 41), some (.int x1), some (.int s.1), none, none, none] [] (zE L, s.2, N) v σ2 := by
  obtain ⟨d, rfl⟩ : ∃ e, d = e + 1 := ⟨d - 1, by omega⟩
  unfold zf_47_H16 at h
  refine jb_seg 3 (pc' := (if s.1 < x1 then 21 else 135)) (ls' := [some (.ref 41), some (.int x1), some (.int s.1), none, none, none]) (st' := []) (σ' := (zE L, s.2, N)) (G := []) rfl trivial ?_
  refine jb_ite (fun c => ?_) (fun c => ?_)
  · replace h := (if_pos c).symm.trans h
    refine jb_seg 4 (pc' := 26) (ls' := [some (.ref 41), some (.int x1), some (.int s.1), some (.int (-1)), some (.int 0), none]) (st' := []) (σ' := (zE L, s.2, N)) (G := []) rfl trivial ?_
    exact jb_mask [true, true, true, true, true, false] rfl (zg_47_H26L hd x1 s.1 s.2 N h hK)
  · replace h := (if_neg c).symm.trans h
    obtain rfl := Option.some.inj h
    obtain ⟨rfl, rfl⟩ := hK
    exact jb_retv rfl rfl
theorem zg_47_H16L {Γ : jb_G} {L : Nat} {d : Nat} (hd : 4 ≤ d) (x1 : Int32) (N : jb_Ml) {v : Option Value} {σ2 : jb_S} {s : Int32 × jb_Mi} {r : (jb_Mi)} (h : jb_lp (zf_47_H16 x1) s = some r) (hK : (fun r : jb_Mi => v = none ∧ σ2 = (zE L, r, N)) r) : jb_V Γ d zq_47 16 [some (.ref 41), some (.int x1), some (.int s.1), none, none, none] [] (zE L, s.2, N) v σ2 := by
  exact @jb_lp_ind (Int32 × jb_Mi) ((jb_Mi)) (zf_47_H16 x1) (fun s => jb_V Γ d zq_47 16 [some (.ref 41), some (.int x1), some (.int s.1), none, none, none] [] (zE L, s.2, N) v σ2) (fun r : jb_Mi => v = none ∧ σ2 = (zE L, r, N)) (fun s r h hk => zg_47_H16 hd x1 N s h hk) s r h hK
set_option maxRecDepth 20000 in
theorem zg_47 {Γ : jb_G} {L : Nat} {d : Nat} (hd : 4 ≤ d) (x1 : Int32) (M : jb_Mi) (N : jb_Ml) {v : Option Value} {σ2 : jb_S} {r : (jb_Mi)} (h : zf_47 x1 M = some r) (hK : (fun r : jb_Mi => v = none ∧ σ2 = (zE L, r, N)) r) : jb_V Γ d zq_47 0 [some (.ref 41), some (.int x1), none, none, none, none] [] (zE L, M, N) v σ2 := by
  obtain ⟨d, rfl⟩ : ∃ e, d = e + 1 := ⟨d - 1, by omega⟩
  unfold zf_47 at h
  refine jb_seg 1 (pc' := 1) (ls' := [some (.ref 41), some (.int x1), none, none, none, none]) (st' := [(.ref 41)]) (σ' := (zE L, M, N)) (G := []) rfl trivial ?_
  obtain ⟨q1, h1, h⟩ := jb_bd_of h
  refine jb_callV (q' := zq_46) (As := []) (rest := []) (σ1 := (zE L, q1, N)) (v := none) rfl rfl zp_46 rfl (Nat.le_of_ble_eq_true rfl) (jb_cat rfl) (Nat.le_of_ble_eq_true rfl) (Nat.le_of_ble_eq_true rfl) (Or.inl rfl) rfl (ze_46 (by omega) M N h1) ?_
  refine jb_seg 8 (pc' := 16) (ls' := [some (.ref 41), some (.int x1), some (.int 0), none, none, none]) (st' := []) (σ' := (zE L, (jb_up (jb_up q1 41 3 0) 41 4 0), N)) (G := []) rfl trivial ?_
  exact jb_mask [true, true, true, false, false, false] rfl (zg_47_H16L hd x1 N h hK)
theorem ze_47 {Γ : jb_G} {L : Nat} {d : Nat} (hd : 4 ≤ d) (x1 : Int32) (M : jb_Mi) (N : jb_Ml) {r : (jb_Mi)} (h : zf_47 x1 M = some r) : jb_V Γ d zq_47 0 (jb_en 6 [(.ref 41), (.int x1)]) [] (zE L, M, N) (none) (zE L, r, N) := zg_47 hd x1 M N h ⟨rfl, rfl⟩
