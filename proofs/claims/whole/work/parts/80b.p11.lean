-- X12_fallsFirst
set_option maxRecDepth 20000 in
theorem zg_142_J79 {Γ : jb_G} {L : Nat} {d : Nat} (hd : 6 ≤ d) (x2 : Int32) (M : jb_Mi) (N : jb_Ml) {v : Option Value} {σ2 : jb_S} {r : ((Int32) ⊕ (Int32 × jb_Mi))} (h : zf_142_J79 x2 M = some r) (hK : (jb_K (fun s : Int32 => jb_V Γ d zq_142 49 [some (.ref 1), none, some (.int s)] [] (zE L, M, N) v σ2) (fun r : Int32 × jb_Mi => v = some (.int r.1) ∧ σ2 = (zE L, r.2, N))) r) : jb_V Γ d zq_142 79 [some (.ref 1), none, some (.int x2)] [] (zE L, M, N) v σ2 := by
  obtain ⟨d, rfl⟩ : ∃ e, d = e + 1 := ⟨d - 1, by omega⟩
  unfold zf_142_J79 at h
  refine jb_seg 2 (pc' := 49) (ls' := [some (.ref 1), none, some (.int (x2 + 1))]) (st' := []) (σ' := (zE L, M, N)) (G := []) rfl trivial ?_
  obtain rfl := Option.some.inj h
  exact jb_mask [true, false, true] rfl hK
set_option maxRecDepth 20000 in
theorem zg_142_H49 {Γ : jb_G} {L : Nat} {d : Nat} (hd : 6 ≤ d) (M : jb_Mi) (N : jb_Ml) (s : Int32) {v : Option Value} {σ2 : jb_S} {r : ((Int32) ⊕ (Int32 × jb_Mi))} (h : zf_142_H49 M s = some r) (hK : (jb_K (fun s : Int32 => jb_V Γ d zq_142 49 [some (.ref 1), none, some (.int s)] [] (zE L, M, N) v σ2) (fun r : Int32 × jb_Mi => v = some (.int r.1) ∧ σ2 = (zE L, r.2, N))) r) : jb_V Γ d zq_142 49 [some (.ref 1), none, some (.int s)] [] (zE L, M, N) v σ2 := by
  obtain ⟨d, rfl⟩ : ∃ e, d = e + 1 := ⟨d - 1, by omega⟩
  unfold zf_142_H49 at h
  refine jb_seg 3 (pc' := (if s < 6 then 55 else 85)) (ls' := [some (.ref 1), none, some (.int s)]) (st' := []) (σ' := (zE L, M, N)) (G := []) rfl trivial ?_
  refine jb_ite (fun c => ?_) (fun c => ?_)
  · replace h := (if_pos c).symm.trans h
    refine jb_seg 3 (pc' := 60) (ls' := [some (.ref 1), none, some (.int s)]) (st' := [(.int s), (.ref 4)]) (σ' := (zE L, M, N)) (G := []) rfl trivial ?_
    obtain ⟨q3, h3, h⟩ := jb_bd_of h
    refine jb_callV (q' := zq_37) (As := [(.int s)]) (rest := []) (σ1 := (zE L, M, N)) (v := some (.int (jb_b2i q3))) rfl rfl zp_37 rfl (Nat.le_of_ble_eq_true rfl) (jb_cat rfl) (Nat.le_of_ble_eq_true rfl) (Nat.le_of_ble_eq_true rfl) (Or.inl rfl) rfl (ze_37 4 s M N (by decide) h3) ?_
    refine jb_seg 1 (pc' := (if (jb_b2i q3) = 0 then 79 else 66)) (ls' := [some (.ref 1), none, some (.int s)]) (st' := []) (σ' := (zE L, M, N)) (G := []) rfl trivial ?_
    refine jb_ite (fun c => ?_) (fun c => ?_)
    · replace h := (if_pos c).symm.trans h
      exact jb_mask [true, false, true] rfl (zg_142_J79 hd s M N h hK)
    · replace h := (if_neg c).symm.trans h
      refine jb_seg 3 (pc' := 71) (ls' := [some (.ref 1), none, some (.int s)]) (st' := [(.int s), (.ref 24)]) (σ' := (zE L, M, N)) (G := []) rfl trivial ?_
      obtain ⟨q4, h4, h⟩ := jb_bd_of h
      refine jb_callV (q' := zq_37) (As := [(.int s)]) (rest := []) (σ1 := (zE L, M, N)) (v := some (.int (jb_b2i q4))) rfl rfl zp_37 rfl (Nat.le_of_ble_eq_true rfl) (jb_cat rfl) (Nat.le_of_ble_eq_true rfl) (Nat.le_of_ble_eq_true rfl) (Or.inl rfl) rfl (ze_37 24 s M N (by decide) h4) ?_
      refine jb_seg 1 (pc' := (if (jb_b2i q4) = 0 then 77 else 79)) (ls' := [some (.ref 1), none, some (.int s)]) (st' := []) (σ' := (zE L, M, N)) (G := []) rfl trivial ?_
      refine jb_ite (fun c => ?_) (fun c => ?_)
      · replace h := (if_pos c).symm.trans h
        refine jb_seg 1 (pc' := 78) (ls' := [some (.ref 1), none, some (.int s)]) (st' := [(.int s)]) (σ' := (zE L, M, N)) (G := []) rfl trivial ?_
        obtain rfl := Option.some.inj h
        obtain ⟨rfl, rfl⟩ := hK
        exact jb_reti rfl rfl
      · replace h := (if_neg c).symm.trans h
        exact jb_mask [true, false, true] rfl (zg_142_J79 hd s M N h hK)
  · replace h := (if_neg c).symm.trans h
    refine jb_seg 1 (pc' := 87) (ls' := [some (.ref 1), none, some (.int s)]) (st' := [(.int (-2))]) (σ' := (zE L, M, N)) (G := []) rfl trivial ?_
    obtain rfl := Option.some.inj h
    obtain ⟨rfl, rfl⟩ := hK
    exact jb_reti rfl rfl
theorem zg_142_H49L {Γ : jb_G} {L : Nat} {d : Nat} (hd : 6 ≤ d) (M : jb_Mi) (N : jb_Ml) {v : Option Value} {σ2 : jb_S} {s : Int32} {r : (Int32 × jb_Mi)} (h : jb_lp (zf_142_H49 M) s = some r) (hK : (fun r : Int32 × jb_Mi => v = some (.int r.1) ∧ σ2 = (zE L, r.2, N)) r) : jb_V Γ d zq_142 49 [some (.ref 1), none, some (.int s)] [] (zE L, M, N) v σ2 := by
  exact @jb_lp_ind (Int32) ((Int32 × jb_Mi)) (zf_142_H49 M) (fun s => jb_V Γ d zq_142 49 [some (.ref 1), none, some (.int s)] [] (zE L, M, N) v σ2) (fun r : Int32 × jb_Mi => v = some (.int r.1) ∧ σ2 = (zE L, r.2, N)) (fun s r h hk => zg_142_H49 hd M N s h hk) s r h hK
set_option maxRecDepth 20000 in
theorem zg_142_J47 {Γ : jb_G} {L : Nat} {d : Nat} (hd : 6 ≤ d) (M : jb_Mi) (N : jb_Ml) {v : Option Value} {σ2 : jb_S} {r : (Int32 × jb_Mi)} (h : zf_142_J47 M = some r) (hK : (fun r : Int32 × jb_Mi => v = some (.int r.1) ∧ σ2 = (zE L, r.2, N)) r) : jb_V Γ d zq_142 47 [some (.ref 1), none, none] [] (zE L, M, N) v σ2 := by
  obtain ⟨d, rfl⟩ : ∃ e, d = e + 1 := ⟨d - 1, by omega⟩
  unfold zf_142_J47 at h
  refine jb_seg 2 (pc' := 49) (ls' := [some (.ref 1), none, some (.int 0)]) (st' := []) (σ' := (zE L, M, N)) (G := []) rfl trivial ?_
  exact jb_mask [true, false, true] rfl (zg_142_H49L hd M N h hK)
set_option maxRecDepth 20000 in
theorem zg_142_H19 {Γ : jb_G} {L : Nat} {d : Nat} (hd : 6 ≤ d) (x1 : Int32) (N : jb_Ml) (s : Int32 × jb_Mi) {v : Option Value} {σ2 : jb_S} {r : ((Int32 × jb_Mi) ⊕ (Int32 × jb_Mi))} (h : zf_142_H19 x1 s = some r) (hK : (jb_K (fun s : Int32 × jb_Mi => jb_V Γ d zq_142 19 [some (.ref 1), some (.int x1), some (.int s.1)] [] (zE L, s.2, N) v σ2) (fun r : Int32 × jb_Mi => v = some (.int r.1) ∧ σ2 = (zE L, r.2, N))) r) : jb_V Γ d zq_142 19 [some (.ref 1), some (.int x1), some (.int s.1)] [] (zE L, s.2, N) v σ2 := by
  obtain ⟨d, rfl⟩ : ∃ e, d = e + 1 := ⟨d - 1, by omega⟩
  unfold zf_142_H19 at h
  refine jb_seg 3 (pc' := (if s.1 < x1 then 24 else 47)) (ls' := [some (.ref 1), some (.int x1), some (.int s.1)]) (st' := []) (σ' := (zE L, s.2, N)) (G := []) rfl trivial ?_
  refine jb_ite (fun c => ?_) (fun c => ?_)
  · replace h := (if_pos c).symm.trans h
    refine jb_seg 4 (pc' := (if (s.2 62 8) = 0 then 34 else 47)) (ls' := [some (.ref 1), some (.int x1), some (.int s.1)]) (st' := []) (σ' := (zE L, s.2, N)) (G := []) rfl trivial ?_
    refine jb_ite (fun c => ?_) (fun c => ?_)
    · replace h := (if_pos c).symm.trans h
      refine jb_seg 2 (pc' := 38) (ls' := [some (.ref 1), some (.int x1), some (.int s.1)]) (st' := [(.ref 62)]) (σ' := (zE L, s.2, N)) (G := []) rfl trivial ?_
      obtain ⟨q2, h2, h⟩ := jb_bd_of h
      refine jb_callV (q' := zq_124) (As := []) (rest := []) (σ1 := (zE L, q2, N)) (v := none) rfl rfl zp_124 rfl (Nat.le_of_ble_eq_true rfl) (jb_cat rfl) (Nat.le_of_ble_eq_true rfl) (Nat.le_of_ble_eq_true rfl) (Or.inl rfl) rfl (ze_124 (by omega) 62 24 s.2 N (by decide) h2) ?_
      refine jb_seg 2 (pc' := 19) (ls' := [some (.ref 1), some (.int x1), some (.int (s.1 + 1))]) (st' := []) (σ' := (zE L, q2, N)) (G := []) rfl trivial ?_
      obtain rfl := Option.some.inj h
      exact jb_mask [true, true, true] rfl hK
    · replace h := (if_neg c).symm.trans h
      obtain ⟨y0, hy0, rfl⟩ := jb_mp_of h
      exact jb_mask [true, false, false] rfl (zg_142_J47 hd s.2 N hy0 hK)
  · replace h := (if_neg c).symm.trans h
    obtain ⟨y0, hy0, rfl⟩ := jb_mp_of h
    exact jb_mask [true, false, false] rfl (zg_142_J47 hd s.2 N hy0 hK)
theorem zg_142_H19L {Γ : jb_G} {L : Nat} {d : Nat} (hd : 6 ≤ d) (x1 : Int32) (N : jb_Ml) {v : Option Value} {σ2 : jb_S} {s : Int32 × jb_Mi} {r : (Int32 × jb_Mi)} (h : jb_lp (zf_142_H19 x1) s = some r) (hK : (fun r : Int32 × jb_Mi => v = some (.int r.1) ∧ σ2 = (zE L, r.2, N)) r) : jb_V Γ d zq_142 19 [some (.ref 1), some (.int x1), some (.int s.1)] [] (zE L, s.2, N) v σ2 := by
  exact @jb_lp_ind (Int32 × jb_Mi) ((Int32 × jb_Mi)) (zf_142_H19 x1) (fun s => jb_V Γ d zq_142 19 [some (.ref 1), some (.int x1), some (.int s.1)] [] (zE L, s.2, N) v σ2) (fun r : Int32 × jb_Mi => v = some (.int r.1) ∧ σ2 = (zE L, r.2, N)) (fun s r h hk => zg_142_H19 hd x1 N s h hk) s r h hK
set_option maxRecDepth 20000 in
theorem zg_142 {Γ : jb_G} {L : Nat} {d : Nat} (hd : 6 ≤ d) (x1 : Int32) (M : jb_Mi) (N : jb_Ml) {v : Option Value} {σ2 : jb_S} {r : (Int32 × jb_Mi)} (h : zf_142 x1 M = some r) (hK : (fun r : Int32 × jb_Mi => v = some (.int r.1) ∧ σ2 = (zE L, r.2, N)) r) : jb_V Γ d zq_142 0 [some (.ref 1), some (.int x1), none] [] (zE L, M, N) v σ2 := by
  obtain ⟨d, rfl⟩ : ∃ e, d = e + 1 := ⟨d - 1, by omega⟩
  unfold zf_142 at h
  refine jb_seg 3 (pc' := 5) (ls' := [some (.ref 1), some (.int x1), none]) (st' := [(.int 240), (.int 1), (.int x1)]) (σ' := (zE L, M, N)) (G := []) rfl trivial ?_
  refine jb_callS (q' := zq_23) (As := [(.int x1), (.int 1), (.int 240)]) (rest := []) (σ1 := (zE L, M, N)) (v := some (.int (jb_b2i (zf_23 x1 1 240)))) rfl (Nat.le_of_ble_eq_true rfl) rfl zp_23 (jb_cat rfl) (Nat.le_of_ble_eq_true rfl) (Nat.le_of_ble_eq_true rfl) (Or.inl rfl) rfl (ze_23 x1 1 240 M N rfl) ?_
  refine jb_seg 1 (pc' := (if (jb_b2i (zf_23 x1 1 240)) = 0 then 11 else 13)) (ls' := [some (.ref 1), some (.int x1), none]) (st' := []) (σ' := (zE L, M, N)) (G := []) rfl trivial ?_
  refine jb_ite (fun c => ?_) (fun c => ?_)
  · replace h := (if_pos c).symm.trans h
    refine jb_seg 1 (pc' := 12) (ls' := [some (.ref 1), some (.int x1), none]) (st' := [(.int (-1))]) (σ' := (zE L, M, N)) (G := []) rfl trivial ?_
    obtain rfl := Option.some.inj h
    obtain ⟨rfl, rfl⟩ := hK
    exact jb_reti rfl rfl
  · replace h := (if_neg c).symm.trans h
    refine jb_seg 1 (pc' := 14) (ls' := [some (.ref 1), some (.int x1), none]) (st' := [(.ref 1)]) (σ' := (zE L, M, N)) (G := []) rfl trivial ?_
    obtain ⟨q1, h1, h⟩ := jb_bd_of h
    refine jb_callV (q' := zq_134) (As := []) (rest := []) (σ1 := (zE L, q1, N)) (v := none) rfl rfl zp_134 rfl (Nat.le_of_ble_eq_true rfl) (jb_cat rfl) (Nat.le_of_ble_eq_true rfl) (Nat.le_of_ble_eq_true rfl) (Or.inl rfl) rfl (ze_134 (by omega) M N h1) ?_
    refine jb_seg 2 (pc' := 19) (ls' := [some (.ref 1), some (.int x1), some (.int 0)]) (st' := []) (σ' := (zE L, q1, N)) (G := []) rfl trivial ?_
    exact jb_mask [true, true, true] rfl (zg_142_H19L hd x1 N h hK)
theorem ze_142 {Γ : jb_G} {L : Nat} {d : Nat} (hd : 6 ≤ d) (x1 : Int32) (M : jb_Mi) (N : jb_Ml) {r : (Int32 × jb_Mi)} (h : zf_142 x1 M = some r) : jb_V Γ d zq_142 0 (jb_en 3 [(.ref 1), (.int x1)]) [] (zE L, M, N) (some (.int r.1)) (zE L, r.2, N) := zg_142 hd x1 M N h ⟨rfl, rfl⟩
-- X12_bed
set_option maxRecDepth 20000 in
theorem zg_143 {Γ : jb_G} {L : Nat} {d : Nat} (hd : 5 ≤ d) (x1 : Int32) (x2 : Int32) (x3 : Int32) (M : jb_Mi) (N : jb_Ml) {v : Option Value} {σ2 : jb_S} {r : (Int32 × jb_Mi)} (h : zf_143 x1 x2 x3 M = some r) (hK : (fun r : Int32 × jb_Mi => v = some (.int r.1) ∧ σ2 = (zE L, r.2, N)) r) : jb_V Γ d zq_143 0 [some (.ref 1), some (.int x1), some (.int x2), some (.int x3)] [] (zE L, M, N) v σ2 := by
  obtain ⟨d, rfl⟩ : ∃ e, d = e + 1 := ⟨d - 1, by omega⟩
  unfold zf_143 at h
  refine jb_seg 3 (pc' := 5) (ls' := [some (.ref 1), some (.int x1), some (.int x2), some (.int x3)]) (st' := [(.int x1), (.ref 4)]) (σ' := (zE L, M, N)) (G := []) rfl trivial ?_
  obtain ⟨q1, h1, h⟩ := jb_bd_of h
  refine jb_callV (q' := zq_2) (As := [(.int x1)]) (rest := []) (σ1 := (zE L, M, N)) (v := some (.int (jb_b2i q1))) rfl rfl zp_2 rfl (Nat.le_of_ble_eq_true rfl) (jb_cat rfl) (Nat.le_of_ble_eq_true rfl) (Nat.le_of_ble_eq_true rfl) (Or.inl rfl) rfl (ze_2 4 x1 M N (by decide) h1) ?_
  refine jb_seg 1 (pc' := (if (jb_b2i q1) = 0 then 30 else 11)) (ls' := [some (.ref 1), some (.int x1), some (.int x2), some (.int x3)]) (st' := []) (σ' := (zE L, M, N)) (G := []) rfl trivial ?_
  refine jb_ite (fun c => ?_) (fun c => ?_)
  · replace h := (if_pos c).symm.trans h
    refine jb_seg 1 (pc' := 31) (ls' := [some (.ref 1), some (.int x1), some (.int x2), some (.int x3)]) (st' := [(.int (-1))]) (σ' := (zE L, M, N)) (G := []) rfl trivial ?_
    obtain rfl := Option.some.inj h
    obtain ⟨rfl, rfl⟩ := hK
    exact jb_reti rfl rfl
  · replace h := (if_neg c).symm.trans h
    refine jb_seg 3 (pc' := 15) (ls' := [some (.ref 1), some (.int x1), some (.int x2), some (.int x3)]) (st' := [(.int 99), (.int 1), (.int x2)]) (σ' := (zE L, M, N)) (G := []) rfl trivial ?_
    refine jb_callS (q' := zq_23) (As := [(.int x2), (.int 1), (.int 99)]) (rest := []) (σ1 := (zE L, M, N)) (v := some (.int (jb_b2i (zf_23 x2 1 99)))) rfl (Nat.le_of_ble_eq_true rfl) rfl zp_23 (jb_cat rfl) (Nat.le_of_ble_eq_true rfl) (Nat.le_of_ble_eq_true rfl) (Or.inl rfl) rfl (ze_23 x2 1 99 M N rfl) ?_
    refine jb_seg 1 (pc' := (if (jb_b2i (zf_23 x2 1 99)) = 0 then 30 else 21)) (ls' := [some (.ref 1), some (.int x1), some (.int x2), some (.int x3)]) (st' := []) (σ' := (zE L, M, N)) (G := []) rfl trivial ?_
    refine jb_ite (fun c => ?_) (fun c => ?_)
    · replace h := (if_pos c).symm.trans h
      refine jb_seg 1 (pc' := 31) (ls' := [some (.ref 1), some (.int x1), some (.int x2), some (.int x3)]) (st' := [(.int (-1))]) (σ' := (zE L, M, N)) (G := []) rfl trivial ?_
      obtain rfl := Option.some.inj h
      obtain ⟨rfl, rfl⟩ := hK
      exact jb_reti rfl rfl
    · replace h := (if_neg c).symm.trans h
      refine jb_seg 3 (pc' := 24) (ls' := [some (.ref 1), some (.int x1), some (.int x2), some (.int x3)]) (st' := [(.int 2), (.int 0), (.int x3)]) (σ' := (zE L, M, N)) (G := []) rfl trivial ?_
      refine jb_callS (q' := zq_23) (As := [(.int x3), (.int 0), (.int 2)]) (rest := []) (σ1 := (zE L, M, N)) (v := some (.int (jb_b2i (zf_23 x3 0 2)))) rfl (Nat.le_of_ble_eq_true rfl) rfl zp_23 (jb_cat rfl) (Nat.le_of_ble_eq_true rfl) (Nat.le_of_ble_eq_true rfl) (Or.inl rfl) rfl (ze_23 x3 0 2 M N rfl) ?_
      refine jb_seg 1 (pc' := (if (jb_b2i (zf_23 x3 0 2)) = 0 then 30 else 32)) (ls' := [some (.ref 1), some (.int x1), some (.int x2), some (.int x3)]) (st' := []) (σ' := (zE L, M, N)) (G := []) rfl trivial ?_
      refine jb_ite (fun c => ?_) (fun c => ?_)
      · replace h := (if_pos c).symm.trans h
        refine jb_seg 1 (pc' := 31) (ls' := [some (.ref 1), some (.int x1), some (.int x2), some (.int x3)]) (st' := [(.int (-1))]) (σ' := (zE L, M, N)) (G := []) rfl trivial ?_
        obtain rfl := Option.some.inj h
        obtain ⟨rfl, rfl⟩ := hK
        exact jb_reti rfl rfl
      · replace h := (if_neg c).symm.trans h
        refine jb_seg 4 (pc' := 38) (ls' := [some (.ref 1), some (.int x1), some (.int x2), some (.int x3)]) (st' := [(.int x2), (.int x1), (.ref 64)]) (σ' := (zE L, M, N)) (G := []) rfl trivial ?_
        obtain ⟨q2, h2, h⟩ := jb_bd_of h
        refine jb_callV (q' := zq_9) (As := [(.int x1), (.int x2)]) (rest := []) (σ1 := (zE L, q2, N)) (v := none) rfl rfl zp_9 rfl (Nat.le_of_ble_eq_true rfl) (jb_cat rfl) (Nat.le_of_ble_eq_true rfl) (Nat.le_of_ble_eq_true rfl) (Or.inl rfl) rfl (ze_9 (by omega) x1 x2 M N h2) ?_
        refine jb_seg 1 (pc' := 42) (ls' := [some (.ref 1), some (.int x1), some (.int x2), some (.int x3)]) (st' := [(.int x3)]) (σ' := (zE L, q2, N)) (G := []) rfl trivial ?_
        refine jb_lsw [(0, 68), (1, 76)] 84 rfl (by decide +kernel) (by decide +kernel) ?_
        refine jb_swc (fun c => ?_) (fun c => ?_)
        · replace h := (if_pos c).symm.trans h
          refine jb_seg 3 (pc' := 75) (ls' := [some (.ref 1), some (.int x1), some (.int x2), some (.int x3)]) (st' := [(.int (q2 64 6))]) (σ' := (zE L, q2, N)) (G := []) rfl trivial ?_
          obtain rfl := Option.some.inj h
          obtain ⟨rfl, rfl⟩ := hK
          exact jb_reti rfl rfl
        · replace h := (if_neg c).symm.trans h
          refine jb_swc (fun c => ?_) (fun c => ?_)
          · replace h := (if_pos c).symm.trans h
            refine jb_seg 3 (pc' := 83) (ls' := [some (.ref 1), some (.int x1), some (.int x2), some (.int x3)]) (st' := [(.int (q2 64 7))]) (σ' := (zE L, q2, N)) (G := []) rfl trivial ?_
            obtain rfl := Option.some.inj h
            obtain ⟨rfl, rfl⟩ := hK
            exact jb_reti rfl rfl
          · replace h := (if_neg c).symm.trans h
            refine jb_swn ?_
            refine jb_seg 3 (pc' := 91) (ls' := [some (.ref 1), some (.int x1), some (.int x2), some (.int x3)]) (st' := [(.int (q2 64 8))]) (σ' := (zE L, q2, N)) (G := []) rfl trivial ?_
            obtain rfl := Option.some.inj h
            obtain ⟨rfl, rfl⟩ := hK
            exact jb_reti rfl rfl
theorem ze_143 {Γ : jb_G} {L : Nat} {d : Nat} (hd : 5 ≤ d) (x1 : Int32) (x2 : Int32) (x3 : Int32) (M : jb_Mi) (N : jb_Ml) {r : (Int32 × jb_Mi)} (h : zf_143 x1 x2 x3 M = some r) : jb_V Γ d zq_143 0 (jb_en 4 [(.ref 1), (.int x1), (.int x2), (.int x3)]) [] (zE L, M, N) (some (.int r.1)) (zE L, r.2, N) := zg_143 hd x1 x2 x3 M N h ⟨rfl, rfl⟩
-- X12_greatestDivisor
set_option maxRecDepth 20000 in
theorem zg_144_H7 {Γ : jb_G} {L : Nat} {d : Nat} (M : jb_Mi) (N : jb_Ml) (s : Int32 × Int32 × Int32) {v : Option Value} {σ2 : jb_S} {r : ((Int32 × Int32 × Int32) ⊕ (Int32))} (h : zf_144_H7 s = some r) (hK : (jb_K (fun s : Int32 × Int32 × Int32 => jb_V Γ d zq_144 7 [none, none, some (.int s.1), some (.int s.2.1), some (.int s.2.2), none] [] (zE L, M, N) v σ2) (fun r : Int32 => v = some (.int r) ∧ σ2 = (zE L, M, N))) r) : jb_V Γ d zq_144 7 [none, none, some (.int s.1), some (.int s.2.1), some (.int s.2.2), none] [] (zE L, M, N) v σ2 := by
  unfold zf_144_H7 at h
  refine jb_seg 3 (pc' := (if s.2.2 < 64 then 14 else 34)) (ls' := [none, none, some (.int s.1), some (.int s.2.1), some (.int s.2.2), none]) (st' := []) (σ' := (zE L, M, N)) (G := []) rfl trivial ?_
  refine jb_ite (fun c => ?_) (fun c => ?_)
  · replace h := (if_pos c).symm.trans h
    refine jb_seg 2 (pc' := (if s.2.1 = 0 then 34 else 18)) (ls' := [none, none, some (.int s.1), some (.int s.2.1), some (.int s.2.2), none]) (st' := []) (σ' := (zE L, M, N)) (G := []) rfl trivial ?_
    refine jb_ite (fun c => ?_) (fun c => ?_)
    · replace h := (if_pos c).symm.trans h
      refine jb_seg 1 (pc' := 35) (ls' := [none, none, some (.int s.1), some (.int s.2.1), some (.int s.2.2), none]) (st' := [(.int s.1)]) (σ' := (zE L, M, N)) (G := []) rfl trivial ?_
      obtain rfl := Option.some.inj h
      obtain ⟨rfl, rfl⟩ := hK
      exact jb_reti rfl rfl
    · replace h := (if_neg c).symm.trans h
      obtain ⟨g1, h⟩ := jb_g0_of h
      refine jb_seg 10 (pc' := 7) (ls' := [none, none, some (.int s.2.1), some (.int (s.1 - s.1 / s.2.1 * s.2.1)), some (.int (s.2.2 + 1)), some (.int (s.1 - s.1 / s.2.1 * s.2.1))]) (st' := []) (σ' := (zE L, M, N)) (G := [¬ (s.2.1 : Int32) = 0]) rfl g1 ?_
      obtain rfl := Option.some.inj h
      exact jb_mask [false, false, true, true, true, false] rfl hK
  · replace h := (if_neg c).symm.trans h
    refine jb_seg 1 (pc' := 35) (ls' := [none, none, some (.int s.1), some (.int s.2.1), some (.int s.2.2), none]) (st' := [(.int s.1)]) (σ' := (zE L, M, N)) (G := []) rfl trivial ?_
    obtain rfl := Option.some.inj h
    obtain ⟨rfl, rfl⟩ := hK
    exact jb_reti rfl rfl
theorem zg_144_H7L {Γ : jb_G} {L : Nat} {d : Nat} (M : jb_Mi) (N : jb_Ml) {v : Option Value} {σ2 : jb_S} {s : Int32 × Int32 × Int32} {r : (Int32)} (h : jb_lp (zf_144_H7) s = some r) (hK : (fun r : Int32 => v = some (.int r) ∧ σ2 = (zE L, M, N)) r) : jb_V Γ d zq_144 7 [none, none, some (.int s.1), some (.int s.2.1), some (.int s.2.2), none] [] (zE L, M, N) v σ2 := by
  exact @jb_lp_ind (Int32 × Int32 × Int32) ((Int32)) (zf_144_H7) (fun s => jb_V Γ d zq_144 7 [none, none, some (.int s.1), some (.int s.2.1), some (.int s.2.2), none] [] (zE L, M, N) v σ2) (fun r : Int32 => v = some (.int r) ∧ σ2 = (zE L, M, N)) (fun s r h hk => zg_144_H7 M N s h hk) s r h hK
set_option maxRecDepth 20000 in
theorem zg_144 {Γ : jb_G} {L : Nat} {d : Nat} (x0 : Int32) (x1 : Int32) (M : jb_Mi) (N : jb_Ml) {v : Option Value} {σ2 : jb_S} {r : (Int32)} (h : zf_144 x0 x1 = some r) (hK : (fun r : Int32 => v = some (.int r) ∧ σ2 = (zE L, M, N)) r) : jb_V Γ d zq_144 0 [some (.int x0), some (.int x1), none, none, none, none] [] (zE L, M, N) v σ2 := by
  unfold zf_144 at h
  refine jb_seg 6 (pc' := 7) (ls' := [some (.int x0), some (.int x1), some (.int x0), some (.int x1), some (.int 0), none]) (st' := []) (σ' := (zE L, M, N)) (G := []) rfl trivial ?_
  exact jb_mask [false, false, true, true, true, false] rfl (zg_144_H7L M N h hK)
theorem ze_144 {Γ : jb_G} {L : Nat} {d : Nat} (x0 : Int32) (x1 : Int32) (M : jb_Mi) (N : jb_Ml) {r : (Int32)} (h : zf_144 x0 x1 = some r) : jb_V Γ d zq_144 0 (jb_en 6 [(.int x0), (.int x1)]) [] (zE L, M, N) (some (.int r)) (zE L, M, N) := zg_144 x0 x1 M N h ⟨rfl, rfl⟩
-- X12_stand
set_option maxRecDepth 20000 in
theorem zg_145_J105 {Γ : jb_G} {L : Nat} {d : Nat} (hd : 5 ≤ d) (x4 : Int32) (s0 : Int32) (M : jb_Mi) (N : jb_Ml) {v : Option Value} {σ2 : jb_S} {r : (Int32 × jb_Mi)} (h : zf_145_J105 x4 s0 M = some r) (hK : (fun r : Int32 × jb_Mi => v = some (.int r.1) ∧ σ2 = (zE L, r.2, N)) r) : jb_V Γ d zq_145 105 [none, none, none, none, some (.int x4)] [(.int s0)] (zE L, M, N) v σ2 := by
  obtain ⟨d, rfl⟩ : ∃ e, d = e + 1 := ⟨d - 1, by omega⟩
  unfold zf_145_J105 at h
  obtain ⟨g6, h⟩ := jb_g0_of h
  refine jb_seg 2 (pc' := 108) (ls' := [none, none, none, none, some (.int x4)]) (st' := [(.int (s0 / x4))]) (σ' := (zE L, M, N)) (G := [¬ (x4 : Int32) = 0]) rfl g6 ?_
  obtain rfl := Option.some.inj h
  obtain ⟨rfl, rfl⟩ := hK
  exact jb_reti rfl rfl
set_option maxRecDepth 20000 in
theorem zg_145 {Γ : jb_G} {L : Nat} {d : Nat} (hd : 5 ≤ d) (x1 : Int32) (x2 : Int32) (x3 : Int32) (M : jb_Mi) (N : jb_Ml) {v : Option Value} {σ2 : jb_S} {r : (Int32 × jb_Mi)} (h : zf_145 x1 x2 x3 M = some r) (hK : (fun r : Int32 × jb_Mi => v = some (.int r.1) ∧ σ2 = (zE L, r.2, N)) r) : jb_V Γ d zq_145 0 [some (.ref 1), some (.int x1), some (.int x2), some (.int x3), none] [] (zE L, M, N) v σ2 := by
  obtain ⟨d, rfl⟩ : ∃ e, d = e + 1 := ⟨d - 1, by omega⟩
  unfold zf_145 at h
  refine jb_seg 3 (pc' := 5) (ls' := [some (.ref 1), some (.int x1), some (.int x2), some (.int x3), none]) (st' := [(.int x1), (.ref 4)]) (σ' := (zE L, M, N)) (G := []) rfl trivial ?_
  obtain ⟨q1, h1, h⟩ := jb_bd_of h
  refine jb_callV (q' := zq_2) (As := [(.int x1)]) (rest := []) (σ1 := (zE L, M, N)) (v := some (.int (jb_b2i q1))) rfl rfl zp_2 rfl (Nat.le_of_ble_eq_true rfl) (jb_cat rfl) (Nat.le_of_ble_eq_true rfl) (Nat.le_of_ble_eq_true rfl) (Or.inl rfl) rfl (ze_2 4 x1 M N (by decide) h1) ?_
  refine jb_seg 1 (pc' := (if (jb_b2i q1) = 0 then 31 else 11)) (ls' := [some (.ref 1), some (.int x1), some (.int x2), some (.int x3), none]) (st' := []) (σ' := (zE L, M, N)) (G := []) rfl trivial ?_
  refine jb_ite (fun c => ?_) (fun c => ?_)
  · replace h := (if_pos c).symm.trans h
    refine jb_seg 1 (pc' := 32) (ls' := [some (.ref 1), some (.int x1), some (.int x2), some (.int x3), none]) (st' := [(.int (-1))]) (σ' := (zE L, M, N)) (G := []) rfl trivial ?_
    obtain rfl := Option.some.inj h
    obtain ⟨rfl, rfl⟩ := hK
    exact jb_reti rfl rfl
  · replace h := (if_neg c).symm.trans h
    refine jb_seg 3 (pc' := 14) (ls' := [some (.ref 1), some (.int x1), some (.int x2), some (.int x3), none]) (st' := [(.int 5), (.int 0), (.int x3)]) (σ' := (zE L, M, N)) (G := []) rfl trivial ?_
    refine jb_callS (q' := zq_23) (As := [(.int x3), (.int 0), (.int 5)]) (rest := []) (σ1 := (zE L, M, N)) (v := some (.int (jb_b2i (zf_23 x3 0 5)))) rfl (Nat.le_of_ble_eq_true rfl) rfl zp_23 (jb_cat rfl) (Nat.le_of_ble_eq_true rfl) (Nat.le_of_ble_eq_true rfl) (Or.inl rfl) rfl (ze_23 x3 0 5 M N rfl) ?_
    refine jb_seg 1 (pc' := (if (jb_b2i (zf_23 x3 0 5)) = 0 then 31 else 20)) (ls' := [some (.ref 1), some (.int x1), some (.int x2), some (.int x3), none]) (st' := []) (σ' := (zE L, M, N)) (G := []) rfl trivial ?_
    refine jb_ite (fun c => ?_) (fun c => ?_)
    · replace h := (if_pos c).symm.trans h
      refine jb_seg 1 (pc' := 32) (ls' := [some (.ref 1), some (.int x1), some (.int x2), some (.int x3), none]) (st' := [(.int (-1))]) (σ' := (zE L, M, N)) (G := []) rfl trivial ?_
      obtain rfl := Option.some.inj h
      obtain ⟨rfl, rfl⟩ := hK
      exact jb_reti rfl rfl
    · replace h := (if_neg c).symm.trans h
      refine jb_seg 3 (pc' := 25) (ls' := [some (.ref 1), some (.int x1), some (.int x2), some (.int x3), none]) (st' := [(.int x2), (.ref 4)]) (σ' := (zE L, M, N)) (G := []) rfl trivial ?_
      obtain ⟨q2, h2, h⟩ := jb_bd_of h
      refine jb_callV (q' := zq_104) (As := [(.int x2)]) (rest := []) (σ1 := (zE L, M, N)) (v := some (.int (jb_b2i q2))) rfl rfl zp_104 rfl (Nat.le_of_ble_eq_true rfl) (jb_cat rfl) (Nat.le_of_ble_eq_true rfl) (Nat.le_of_ble_eq_true rfl) (Or.inl rfl) rfl (ze_104 (by omega) 4 x2 M N (by decide) h2) ?_
      refine jb_seg 1 (pc' := (if (jb_b2i q2) = 0 then 31 else 33)) (ls' := [some (.ref 1), some (.int x1), some (.int x2), some (.int x3), none]) (st' := []) (σ' := (zE L, M, N)) (G := []) rfl trivial ?_
      refine jb_ite (fun c => ?_) (fun c => ?_)
      · replace h := (if_pos c).symm.trans h
        refine jb_seg 1 (pc' := 32) (ls' := [some (.ref 1), some (.int x1), some (.int x2), some (.int x3), none]) (st' := [(.int (-1))]) (σ' := (zE L, M, N)) (G := []) rfl trivial ?_
        obtain rfl := Option.some.inj h
        obtain ⟨rfl, rfl⟩ := hK
        exact jb_reti rfl rfl
      · replace h := (if_neg c).symm.trans h
        refine jb_seg 4 (pc' := 39) (ls' := [some (.ref 1), some (.int x1), some (.int x2), some (.int x3), none]) (st' := [(.int x2), (.int x1), (.ref 64)]) (σ' := (zE L, M, N)) (G := []) rfl trivial ?_
        obtain ⟨q3, h3, h⟩ := jb_bd_of h
        refine jb_callV (q' := zq_12) (As := [(.int x1), (.int x2)]) (rest := []) (σ1 := (zE L, q3, N)) (v := none) rfl rfl zp_12 rfl (Nat.le_of_ble_eq_true rfl) (jb_cat rfl) (Nat.le_of_ble_eq_true rfl) (Nat.le_of_ble_eq_true rfl) (Or.inl rfl) rfl (ze_12 (by omega) x1 x2 M N h3) ?_
        refine jb_seg 3 (pc' := (if x3 < 4 then 47 else 57)) (ls' := [some (.ref 1), some (.int x1), some (.int x2), some (.int x3), none]) (st' := []) (σ' := (zE L, q3, N)) (G := []) rfl trivial ?_
        refine jb_ite (fun c => ?_) (fun c => ?_)
        · replace h := (if_pos c).symm.trans h
          obtain ⟨g4, h⟩ := jb_gd_of h
          refine jb_seg 5 (pc' := 56) (ls' := [some (.ref 1), some (.int x1), some (.int x2), some (.int x3), none]) (st' := [(.int (q3 69 x3.toNatClampNeg))]) (σ' := (zE L, q3, N)) (G := [vp_in x3 4]) rfl g4 ?_
          obtain rfl := Option.some.inj h
          obtain ⟨rfl, rfl⟩ := hK
          exact jb_reti rfl rfl
        · replace h := (if_neg c).symm.trans h
          refine jb_seg 6 (pc' := 71) (ls' := [some (.ref 1), some (.int x1), some (.int x2), some (.int x3), none]) (st' := [(.int (q3 64 11)), (.int (q3 64 10))]) (σ' := (zE L, q3, N)) (G := []) rfl trivial ?_
          obtain ⟨q5, h5, h⟩ := jb_bd_of h
          refine jb_callS (q' := zq_144) (As := [(.int (q3 64 10)), (.int (q3 64 11))]) (rest := []) (σ1 := (zE L, q3, N)) (v := some (.int q5)) rfl (Nat.le_of_ble_eq_true rfl) rfl zp_144 (jb_cat rfl) (Nat.le_of_ble_eq_true rfl) (Nat.le_of_ble_eq_true rfl) (Or.inl rfl) rfl (ze_144 (q3 64 10) (q3 64 11) q3 N h5) ?_
          refine jb_seg 3 (pc' := (if 0 < q5 then 83 else 81)) (ls' := [some (.ref 1), some (.int x1), some (.int x2), some (.int x3), some (.int q5)]) (st' := []) (σ' := (zE L, q3, N)) (G := []) rfl trivial ?_
          refine jb_ite (fun c => ?_) (fun c => ?_)
          · replace h := (if_pos c).symm.trans h
            refine jb_seg 3 (pc' := (if x3 = 4 then 88 else 98)) (ls' := [some (.ref 1), some (.int x1), some (.int x2), some (.int x3), some (.int q5)]) (st' := []) (σ' := (zE L, q3, N)) (G := []) rfl trivial ?_
            refine jb_ite (fun c => ?_) (fun c => ?_)
            · replace h := (if_pos c).symm.trans h
              refine jb_seg 4 (pc' := 105) (ls' := [some (.ref 1), some (.int x1), some (.int x2), some (.int x3), some (.int q5)]) (st' := [(.int (q3 64 10))]) (σ' := (zE L, q3, N)) (G := []) rfl trivial ?_
              exact jb_mask [false, false, false, false, true] rfl (zg_145_J105 hd q5 (q3 64 10) q3 N h hK)
            · replace h := (if_neg c).symm.trans h
              refine jb_seg 3 (pc' := 105) (ls' := [some (.ref 1), some (.int x1), some (.int x2), some (.int x3), some (.int q5)]) (st' := [(.int (q3 64 11))]) (σ' := (zE L, q3, N)) (G := []) rfl trivial ?_
              exact jb_mask [false, false, false, false, true] rfl (zg_145_J105 hd q5 (q3 64 11) q3 N h hK)
          · replace h := (if_neg c).symm.trans h
            refine jb_seg 1 (pc' := 82) (ls' := [some (.ref 1), some (.int x1), some (.int x2), some (.int x3), some (.int q5)]) (st' := [(.int (-1))]) (σ' := (zE L, q3, N)) (G := []) rfl trivial ?_
            obtain rfl := Option.some.inj h
            obtain ⟨rfl, rfl⟩ := hK
            exact jb_reti rfl rfl
theorem ze_145 {Γ : jb_G} {L : Nat} {d : Nat} (hd : 5 ≤ d) (x1 : Int32) (x2 : Int32) (x3 : Int32) (M : jb_Mi) (N : jb_Ml) {r : (Int32 × jb_Mi)} (h : zf_145 x1 x2 x3 M = some r) : jb_V Γ d zq_145 0 (jb_en 5 [(.ref 1), (.int x1), (.int x2), (.int x3)]) [] (zE L, M, N) (some (.int r.1)) (zE L, r.2, N) := zg_145 hd x1 x2 x3 M N h ⟨rfl, rfl⟩
-- X12_go
set_option maxRecDepth 20000 in
theorem zg_146_J40 {Γ : jb_G} {L : Nat} {d : Nat} (hd : 6 ≤ d) (x3 : Int32) (M : jb_Mi) (N : jb_Ml) {v : Option Value} {σ2 : jb_S} {r : (Int32 × jb_Mi)} (h : zf_146_J40 x3 M = some r) (hK : (fun r : Int32 × jb_Mi => v = some (.int r.1) ∧ σ2 = (zE L, r.2, N)) r) : jb_V Γ d zq_146 40 [none, none, none, some (.int x3)] [] (zE L, M, N) v σ2 := by
  obtain ⟨d, rfl⟩ : ∃ e, d = e + 1 := ⟨d - 1, by omega⟩
  unfold zf_146_J40 at h
  refine jb_seg 2 (pc' := 48) (ls' := [none, none, none, some (.int x3)]) (st' := [(.int x3)]) (σ' := (zE L, M, N)) (G := []) rfl trivial ?_
  obtain rfl := Option.some.inj h
  obtain ⟨rfl, rfl⟩ := hK
  exact jb_reti rfl rfl
set_option maxRecDepth 20000 in
theorem zg_146 {Γ : jb_G} {L : Nat} {d : Nat} (hd : 6 ≤ d) (x1 : Int32) (x2 : Int32) (M : jb_Mi) (N : jb_Ml) {v : Option Value} {σ2 : jb_S} {r : (Int32 × jb_Mi)} (h : zf_146 x1 x2 M = some r) (hK : (fun r : Int32 × jb_Mi => v = some (.int r.1) ∧ σ2 = (zE L, r.2, N)) r) : jb_V Γ d zq_146 0 [some (.ref 1), some (.int x1), some (.int x2), none] [] (zE L, M, N) v σ2 := by
  obtain ⟨d, rfl⟩ : ∃ e, d = e + 1 := ⟨d - 1, by omega⟩
  unfold zf_146 at h
  refine jb_seg 3 (pc' := 5) (ls' := [some (.ref 1), some (.int x1), some (.int x2), none]) (st' := [(.int x1), (.ref 4)]) (σ' := (zE L, M, N)) (G := []) rfl trivial ?_
  obtain ⟨q1, h1, h⟩ := jb_bd_of h
  refine jb_callV (q' := zq_2) (As := [(.int x1)]) (rest := []) (σ1 := (zE L, M, N)) (v := some (.int (jb_b2i q1))) rfl rfl zp_2 rfl (Nat.le_of_ble_eq_true rfl) (jb_cat rfl) (Nat.le_of_ble_eq_true rfl) (Nat.le_of_ble_eq_true rfl) (Or.inl rfl) rfl (ze_2 4 x1 M N (by decide) h1) ?_
  refine jb_seg 1 (pc' := (if (jb_b2i q1) = 0 then 20 else 11)) (ls' := [some (.ref 1), some (.int x1), some (.int x2), none]) (st' := []) (σ' := (zE L, M, N)) (G := []) rfl trivial ?_
  refine jb_ite (fun c => ?_) (fun c => ?_)
  · replace h := (if_pos c).symm.trans h
    refine jb_seg 1 (pc' := 21) (ls' := [some (.ref 1), some (.int x1), some (.int x2), none]) (st' := [(.int (-1))]) (σ' := (zE L, M, N)) (G := []) rfl trivial ?_
    obtain rfl := Option.some.inj h
    obtain ⟨rfl, rfl⟩ := hK
    exact jb_reti rfl rfl
  · replace h := (if_neg c).symm.trans h
    refine jb_seg 3 (pc' := 14) (ls' := [some (.ref 1), some (.int x1), some (.int x2), none]) (st' := [(.int 1), (.int 0), (.int x2)]) (σ' := (zE L, M, N)) (G := []) rfl trivial ?_
    refine jb_callS (q' := zq_23) (As := [(.int x2), (.int 0), (.int 1)]) (rest := []) (σ1 := (zE L, M, N)) (v := some (.int (jb_b2i (zf_23 x2 0 1)))) rfl (Nat.le_of_ble_eq_true rfl) rfl zp_23 (jb_cat rfl) (Nat.le_of_ble_eq_true rfl) (Nat.le_of_ble_eq_true rfl) (Or.inl rfl) rfl (ze_23 x2 0 1 M N rfl) ?_
    refine jb_seg 1 (pc' := (if (jb_b2i (zf_23 x2 0 1)) = 0 then 20 else 22)) (ls' := [some (.ref 1), some (.int x1), some (.int x2), none]) (st' := []) (σ' := (zE L, M, N)) (G := []) rfl trivial ?_
    refine jb_ite (fun c => ?_) (fun c => ?_)
    · replace h := (if_pos c).symm.trans h
      refine jb_seg 1 (pc' := 21) (ls' := [some (.ref 1), some (.int x1), some (.int x2), none]) (st' := [(.int (-1))]) (σ' := (zE L, M, N)) (G := []) rfl trivial ?_
      obtain rfl := Option.some.inj h
      obtain ⟨rfl, rfl⟩ := hK
      exact jb_reti rfl rfl
    · replace h := (if_neg c).symm.trans h
      refine jb_seg 3 (pc' := 27) (ls' := [some (.ref 1), some (.int x1), some (.int x2), none]) (st' := [(.int x1), (.ref 64)]) (σ' := (zE L, M, N)) (G := []) rfl trivial ?_
      obtain ⟨q2, h2, h⟩ := jb_bd_of h
      refine jb_callV (q' := zq_29) (As := [(.int x1)]) (rest := []) (σ1 := (zE L, q2.2, N)) (v := some (.int q2.1)) rfl rfl zp_29 rfl (Nat.le_of_ble_eq_true rfl) (jb_cat rfl) (Nat.le_of_ble_eq_true rfl) (Nat.le_of_ble_eq_true rfl) (Or.inl rfl) rfl (ze_29 (by omega) x1 M N h2) ?_
      refine jb_seg 3 (pc' := (if q2.1 < 0 then 40 else 35)) (ls' := [some (.ref 1), some (.int x1), some (.int x2), some (.int q2.1)]) (st' := []) (σ' := (zE L, q2.2, N)) (G := []) rfl trivial ?_
      refine jb_ite (fun c => ?_) (fun c => ?_)
      · replace h := (if_pos c).symm.trans h
        exact jb_mask [false, false, false, true] rfl (zg_146_J40 hd q2.1 q2.2 N h hK)
      · replace h := (if_neg c).symm.trans h
        refine jb_seg 3 (pc' := (if x2 = 1 then 40 else 44)) (ls' := [some (.ref 1), some (.int x1), some (.int x2), some (.int q2.1)]) (st' := []) (σ' := (zE L, q2.2, N)) (G := []) rfl trivial ?_
        refine jb_ite (fun c => ?_) (fun c => ?_)
        · replace h := (if_pos c).symm.trans h
          exact jb_mask [false, false, false, true] rfl (zg_146_J40 hd q2.1 q2.2 N h hK)
        · replace h := (if_neg c).symm.trans h
          refine jb_seg 1 (pc' := 45) (ls' := [some (.ref 1), some (.int x1), some (.int x2), some (.int q2.1)]) (st' := [(.int q2.1)]) (σ' := (zE L, q2.2, N)) (G := []) rfl trivial ?_
          refine jb_callS (q' := zq_26) (As := [(.int q2.1)]) (rest := []) (σ1 := (zE L, q2.2, N)) (v := some (.int (zf_26 q2.1))) rfl (Nat.le_of_ble_eq_true rfl) rfl zp_26 (jb_cat rfl) (Nat.le_of_ble_eq_true rfl) (Nat.le_of_ble_eq_true rfl) (Or.inl rfl) rfl (ze_26 q2.1 q2.2 N rfl) ?_
          obtain rfl := Option.some.inj h
          obtain ⟨rfl, rfl⟩ := hK
          exact jb_reti rfl rfl
theorem ze_146 {Γ : jb_G} {L : Nat} {d : Nat} (hd : 6 ≤ d) (x1 : Int32) (x2 : Int32) (M : jb_Mi) (N : jb_Ml) {r : (Int32 × jb_Mi)} (h : zf_146 x1 x2 M = some r) : jb_V Γ d zq_146 0 (jb_en 4 [(.ref 1), (.int x1), (.int x2)]) [] (zE L, M, N) (some (.int r.1)) (zE L, r.2, N) := zg_146 hd x1 x2 M N h ⟨rfl, rfl⟩
-- X12_feltAnswer
set_option maxRecDepth 20000 in
theorem zg_147 {Γ : jb_G} {L : Nat} {d : Nat} (x0 : Int32) (x1 : Int32) (x2 : Int32) (M : jb_Mi) (N : jb_Ml) {v : Option Value} {σ2 : jb_S} {r : Int32} (h : zf_147 x0 x1 x2 = r) (hK : (fun r : Int32 => v = some (.int r) ∧ σ2 = (zE L, M, N)) r) : jb_V Γ d zq_147 0 [some (.int x0), some (.int x1), some (.int x2)] [] (zE L, M, N) v σ2 := by
  unfold zf_147 at h
  refine jb_seg 2 (pc' := (if x2 = 0 then 4 else 6)) (ls' := [some (.int x0), some (.int x1), some (.int x2)]) (st' := []) (σ' := (zE L, M, N)) (G := []) rfl trivial ?_
  refine jb_ite (fun c => ?_) (fun c => ?_)
  · replace h := (if_pos c).symm.trans h
    refine jb_seg 1 (pc' := 5) (ls' := [some (.int x0), some (.int x1), some (.int x2)]) (st' := [(.int x0)]) (σ' := (zE L, M, N)) (G := []) rfl trivial ?_
    subst h
    obtain ⟨rfl, rfl⟩ := hK
    exact jb_reti rfl rfl
  · replace h := (if_neg c).symm.trans h
    refine jb_seg 2 (pc' := (if x1 < 0 then 10 else 13)) (ls' := [some (.int x0), some (.int x1), some (.int x2)]) (st' := []) (σ' := (zE L, M, N)) (G := []) rfl trivial ?_
    refine jb_ite (fun c => ?_) (fun c => ?_)
    · replace h := (if_pos c).symm.trans h
      refine jb_seg 1 (pc' := 12) (ls' := [some (.int x0), some (.int x1), some (.int x2)]) (st' := [(.int (-2))]) (σ' := (zE L, M, N)) (G := []) rfl trivial ?_
      subst h
      obtain ⟨rfl, rfl⟩ := hK
      exact jb_reti rfl rfl
    · replace h := (if_neg c).symm.trans h
      refine jb_seg 3 (pc' := (if x2 = 1 then 18 else 25)) (ls' := [some (.int x0), some (.int x1), some (.int x2)]) (st' := []) (σ' := (zE L, M, N)) (G := []) rfl trivial ?_
      refine jb_ite (fun c => ?_) (fun c => ?_)
      · replace h := (if_pos c).symm.trans h
        refine jb_seg 4 (pc' := 29) (ls' := [some (.int x0), some (.int x1), some (.int x2)]) (st' := [(.int (x1 - x1 / 9 * 9))]) (σ' := (zE L, M, N)) (G := [¬ (9 : Int32) = 0]) rfl (show ¬ (9 : Int32) = 0 from (by decide)) ?_
        subst h
        obtain ⟨rfl, rfl⟩ := hK
        exact jb_reti rfl rfl
      · replace h := (if_neg c).symm.trans h
        refine jb_seg 3 (pc' := 29) (ls' := [some (.int x0), some (.int x1), some (.int x2)]) (st' := [(.int (x1 / 9))]) (σ' := (zE L, M, N)) (G := [¬ (9 : Int32) = 0]) rfl (show ¬ (9 : Int32) = 0 from (by decide)) ?_
        subst h
        obtain ⟨rfl, rfl⟩ := hK
        exact jb_reti rfl rfl
theorem ze_147 {Γ : jb_G} {L : Nat} {d : Nat} (x0 : Int32) (x1 : Int32) (x2 : Int32) (M : jb_Mi) (N : jb_Ml) {r : Int32} (h : zf_147 x0 x1 x2 = r) : jb_V Γ d zq_147 0 (jb_en 3 [(.int x0), (.int x1), (.int x2)]) [] (zE L, M, N) (some (.int r)) (zE L, M, N) := zg_147 x0 x1 x2 M N h ⟨rfl, rfl⟩
-- X12_felt
set_option maxRecDepth 20000 in
theorem zg_148_J86 {Γ : jb_G} {L : Nat} {d : Nat} (hd : 5 ≤ d) (x3 : Int32) (x4 : Int32) (s0 : Int32) (M : jb_Mi) (N : jb_Ml) {v : Option Value} {σ2 : jb_S} {r : (Int32 × jb_Mi × jb_Ml)} (h : zf_148_J86 x3 x4 s0 M N = some r) (hK : (fun r : Int32 × jb_Mi × jb_Ml => v = some (.int r.1) ∧ σ2 = (zE L, r.2.1, r.2.2)) r) : jb_V Γ d zq_148 86 [none, none, none, some (.int x3), some (.int x4)] [(.int s0)] (zE L, M, N) v σ2 := by
  obtain ⟨d, rfl⟩ : ∃ e, d = e + 1 := ⟨d - 1, by omega⟩
  unfold zf_148_J86 at h
  refine jb_seg 2 (pc' := 89) (ls' := [none, none, none, some (.int x3), some (.int x4)]) (st' := [(.int x3), (.int x4), (.int s0)]) (σ' := (zE L, M, N)) (G := []) rfl trivial ?_
  refine jb_callS (q' := zq_147) (As := [(.int s0), (.int x4), (.int x3)]) (rest := []) (σ1 := (zE L, M, N)) (v := some (.int (zf_147 s0 x4 x3))) rfl (Nat.le_of_ble_eq_true rfl) rfl zp_147 (jb_cat rfl) (Nat.le_of_ble_eq_true rfl) (Nat.le_of_ble_eq_true rfl) (Or.inl rfl) rfl (ze_147 s0 x4 x3 M N rfl) ?_
  obtain rfl := Option.some.inj h
  obtain ⟨rfl, rfl⟩ := hK
  exact jb_reti rfl rfl
set_option maxRecDepth 20000 in
theorem zg_148 {Γ : jb_G} {L : Nat} {d : Nat} (hd : 5 ≤ d) (x1 : Int32) (x2 : Int32) (x3 : Int32) (M : jb_Mi) (N : jb_Ml) {v : Option Value} {σ2 : jb_S} {r : (Int32 × jb_Mi × jb_Ml)} (h : zf_148 x1 x2 x3 M N = some r) (hK : (fun r : Int32 × jb_Mi × jb_Ml => v = some (.int r.1) ∧ σ2 = (zE L, r.2.1, r.2.2)) r) : jb_V Γ d zq_148 0 [some (.ref 1), some (.int x1), some (.int x2), some (.int x3), none] [] (zE L, M, N) v σ2 := by
  obtain ⟨d, rfl⟩ : ∃ e, d = e + 1 := ⟨d - 1, by omega⟩
  unfold zf_148 at h
  refine jb_seg 3 (pc' := 5) (ls' := [some (.ref 1), some (.int x1), some (.int x2), some (.int x3), none]) (st' := [(.int x1), (.ref 4)]) (σ' := (zE L, M, N)) (G := []) rfl trivial ?_
  obtain ⟨q1, h1, h⟩ := jb_bd_of h
  refine jb_callV (q' := zq_2) (As := [(.int x1)]) (rest := []) (σ1 := (zE L, M, N)) (v := some (.int (jb_b2i q1))) rfl rfl zp_2 rfl (Nat.le_of_ble_eq_true rfl) (jb_cat rfl) (Nat.le_of_ble_eq_true rfl) (Nat.le_of_ble_eq_true rfl) (Or.inl rfl) rfl (ze_2 4 x1 M N (by decide) h1) ?_
  refine jb_seg 1 (pc' := (if (jb_b2i q1) = 0 then 21 else 11)) (ls' := [some (.ref 1), some (.int x1), some (.int x2), some (.int x3), none]) (st' := []) (σ' := (zE L, M, N)) (G := []) rfl trivial ?_
  refine jb_ite (fun c => ?_) (fun c => ?_)
  · replace h := (if_pos c).symm.trans h
    refine jb_seg 1 (pc' := 22) (ls' := [some (.ref 1), some (.int x1), some (.int x2), some (.int x3), none]) (st' := [(.int (-1))]) (σ' := (zE L, M, N)) (G := []) rfl trivial ?_
    obtain rfl := Option.some.inj h
    obtain ⟨rfl, rfl⟩ := hK
    exact jb_reti rfl rfl
  · replace h := (if_neg c).symm.trans h
    refine jb_seg 3 (pc' := 15) (ls' := [some (.ref 1), some (.int x1), some (.int x2), some (.int x3), none]) (st' := [(.int 99), (.int 1), (.int x2)]) (σ' := (zE L, M, N)) (G := []) rfl trivial ?_
    refine jb_callS (q' := zq_23) (As := [(.int x2), (.int 1), (.int 99)]) (rest := []) (σ1 := (zE L, M, N)) (v := some (.int (jb_b2i (zf_23 x2 1 99)))) rfl (Nat.le_of_ble_eq_true rfl) rfl zp_23 (jb_cat rfl) (Nat.le_of_ble_eq_true rfl) (Nat.le_of_ble_eq_true rfl) (Or.inl rfl) rfl (ze_23 x2 1 99 M N rfl) ?_
    refine jb_seg 1 (pc' := (if (jb_b2i (zf_23 x2 1 99)) = 0 then 21 else 23)) (ls' := [some (.ref 1), some (.int x1), some (.int x2), some (.int x3), none]) (st' := []) (σ' := (zE L, M, N)) (G := []) rfl trivial ?_
    refine jb_ite (fun c => ?_) (fun c => ?_)
    · replace h := (if_pos c).symm.trans h
      refine jb_seg 1 (pc' := 22) (ls' := [some (.ref 1), some (.int x1), some (.int x2), some (.int x3), none]) (st' := [(.int (-1))]) (σ' := (zE L, M, N)) (G := []) rfl trivial ?_
      obtain rfl := Option.some.inj h
      obtain ⟨rfl, rfl⟩ := hK
      exact jb_reti rfl rfl
    · replace h := (if_neg c).symm.trans h
      refine jb_seg 3 (pc' := 26) (ls' := [some (.ref 1), some (.int x1), some (.int x2), some (.int x3), none]) (st' := [(.int 2), (.int 0), (.int x3)]) (σ' := (zE L, M, N)) (G := []) rfl trivial ?_
      refine jb_callS (q' := zq_23) (As := [(.int x3), (.int 0), (.int 2)]) (rest := []) (σ1 := (zE L, M, N)) (v := some (.int (jb_b2i (zf_23 x3 0 2)))) rfl (Nat.le_of_ble_eq_true rfl) rfl zp_23 (jb_cat rfl) (Nat.le_of_ble_eq_true rfl) (Nat.le_of_ble_eq_true rfl) (Or.inl rfl) rfl (ze_23 x3 0 2 M N rfl) ?_
      refine jb_seg 1 (pc' := (if (jb_b2i (zf_23 x3 0 2)) = 0 then 44 else 32)) (ls' := [some (.ref 1), some (.int x1), some (.int x2), some (.int x3), none]) (st' := []) (σ' := (zE L, M, N)) (G := []) rfl trivial ?_
      refine jb_ite (fun c => ?_) (fun c => ?_)
      · replace h := (if_pos c).symm.trans h
        refine jb_seg 1 (pc' := 45) (ls' := [some (.ref 1), some (.int x1), some (.int x2), some (.int x3), none]) (st' := [(.int (-1))]) (σ' := (zE L, M, N)) (G := []) rfl trivial ?_
        obtain rfl := Option.some.inj h
        obtain ⟨rfl, rfl⟩ := hK
        exact jb_reti rfl rfl
      · replace h := (if_neg c).symm.trans h
        refine jb_seg 3 (pc' := 38) (ls' := [some (.ref 1), some (.int x1), some (.int x2), some (.int x3), none]) (st' := [(.int 16), (.ref 2)]) (σ' := (zE L, M, N)) (G := []) rfl trivial ?_
        refine jb_callV (q' := zq_116) (As := [(.int 16)]) (rest := []) (σ1 := (zE L, M, N)) (v := some (.int (jb_b2i (zf_116 16 M)))) rfl rfl zp_116 rfl (Nat.le_of_ble_eq_true rfl) (jb_cat rfl) (Nat.le_of_ble_eq_true rfl) (Nat.le_of_ble_eq_true rfl) (Or.inl rfl) rfl (ze_116 16 M N rfl) ?_
        refine jb_seg 1 (pc' := (if (jb_b2i (zf_116 16 M)) = 0 then 44 else 46)) (ls' := [some (.ref 1), some (.int x1), some (.int x2), some (.int x3), none]) (st' := []) (σ' := (zE L, M, N)) (G := []) rfl trivial ?_
        refine jb_ite (fun c => ?_) (fun c => ?_)
        · replace h := (if_pos c).symm.trans h
          refine jb_seg 1 (pc' := 45) (ls' := [some (.ref 1), some (.int x1), some (.int x2), some (.int x3), none]) (st' := [(.int (-1))]) (σ' := (zE L, M, N)) (G := []) rfl trivial ?_
          obtain rfl := Option.some.inj h
          obtain ⟨rfl, rfl⟩ := hK
          exact jb_reti rfl rfl
        · replace h := (if_neg c).symm.trans h
          refine jb_seg 5 (pc' := 55) (ls' := [some (.ref 1), some (.int x1), some (.int x2), some (.int x3), none]) (st' := [(.ref 2), (.int x1), (.ref 64)]) (σ' := (zE L, M, N)) (G := []) rfl trivial ?_
          obtain ⟨q2, h2, h⟩ := jb_bd_of h
          refine jb_callV (q' := zq_32) (As := [(.int x1), (.ref 2)]) (rest := []) (σ1 := (zE L, q2.1, q2.2)) (v := none) rfl rfl zp_32 rfl (Nat.le_of_ble_eq_true rfl) (jb_cat rfl) (Nat.le_of_ble_eq_true rfl) (Nat.le_of_ble_eq_true rfl) (Or.inl rfl) rfl (ze_32 (by omega) x1 M N h2) ?_
          refine jb_seg 3 (pc' := 63) (ls' := [some (.ref 1), some (.int x1), some (.int x2), some (.int x3), none]) (st' := [(.int 0), (.ref 2)]) (σ' := (zE L, q2.1, q2.2)) (G := []) rfl trivial ?_
          refine jb_callV (q' := zq_117) (As := [(.int 0)]) (rest := []) (σ1 := (zE L, (zf_117 0 q2.1), q2.2)) (v := none) rfl rfl zp_117 rfl (Nat.le_of_ble_eq_true rfl) (jb_cat rfl) (Nat.le_of_ble_eq_true rfl) (Nat.le_of_ble_eq_true rfl) (Or.inl rfl) rfl (ze_117 (by omega) 0 q2.1 q2.2 rfl) ?_
          refine jb_seg 3 (pc' := 71) (ls' := [some (.ref 1), some (.int x1), some (.int x2), some (.int x3), none]) (st' := [(.int x2), (.ref 64)]) (σ' := (zE L, (zf_117 0 q2.1), q2.2)) (G := []) rfl trivial ?_
          obtain ⟨q3, h3, h⟩ := jb_bd_of h
          refine jb_callV (q' := zq_33) (As := [(.int x2)]) (rest := []) (σ1 := (zE L, (zf_117 0 q2.1), q2.2)) (v := some (.int q3)) rfl rfl zp_33 rfl (Nat.le_of_ble_eq_true rfl) (jb_cat rfl) (Nat.le_of_ble_eq_true rfl) (Nat.le_of_ble_eq_true rfl) (Or.inl rfl) rfl (ze_33 (by omega) x2 (zf_117 0 q2.1) q2.2 h3) ?_
          refine jb_seg 3 (pc' := (if q3 < 0 then 81 else 85)) (ls' := [some (.ref 1), some (.int x1), some (.int x2), some (.int x3), some (.int q3)]) (st' := []) (σ' := (zE L, (zf_117 0 q2.1), q2.2)) (G := []) rfl trivial ?_
          refine jb_ite (fun c => ?_) (fun c => ?_)
          · replace h := (if_pos c).symm.trans h
            refine jb_seg 2 (pc' := 86) (ls' := [some (.ref 1), some (.int x1), some (.int x2), some (.int x3), some (.int q3)]) (st' := [(.int 0)]) (σ' := (zE L, (zf_117 0 q2.1), q2.2)) (G := []) rfl trivial ?_
            exact jb_mask [false, false, false, true, true] rfl (zg_148_J86 hd x3 q3 0 (zf_117 0 q2.1) q2.2 h hK)
          · replace h := (if_neg c).symm.trans h
            refine jb_seg 1 (pc' := 86) (ls' := [some (.ref 1), some (.int x1), some (.int x2), some (.int x3), some (.int q3)]) (st' := [(.int 1)]) (σ' := (zE L, (zf_117 0 q2.1), q2.2)) (G := []) rfl trivial ?_
            exact jb_mask [false, false, false, true, true] rfl (zg_148_J86 hd x3 q3 1 (zf_117 0 q2.1) q2.2 h hK)
theorem ze_148 {Γ : jb_G} {L : Nat} {d : Nat} (hd : 5 ≤ d) (x1 : Int32) (x2 : Int32) (x3 : Int32) (M : jb_Mi) (N : jb_Ml) {r : (Int32 × jb_Mi × jb_Ml)} (h : zf_148 x1 x2 x3 M N = some r) : jb_V Γ d zq_148 0 (jb_en 5 [(.ref 1), (.int x1), (.int x2), (.int x3)]) [] (zE L, M, N) (some (.int r.1)) (zE L, r.2.1, r.2.2) := zg_148 hd x1 x2 x3 M N h ⟨rfl, rfl⟩
-- X12_twoFelt
set_option maxRecDepth 20000 in
theorem zg_149 {Γ : jb_G} {L : Nat} {d : Nat} (hd : 5 ≤ d) (x1 : Int32) (x2 : Int32) (x3 : Int32) (x4 : Int32) (M : jb_Mi) (N : jb_Ml) {v : Option Value} {σ2 : jb_S} {r : (Int32 × jb_Mi × jb_Ml)} (h : zf_149 x1 x2 x3 x4 M N = some r) (hK : (fun r : Int32 × jb_Mi × jb_Ml => v = some (.int r.1) ∧ σ2 = (zE L, r.2.1, r.2.2)) r) : jb_V Γ d zq_149 0 [some (.ref 1), some (.int x1), some (.int x2), some (.int x3), some (.int x4), none] [] (zE L, M, N) v σ2 := by
  obtain ⟨d, rfl⟩ : ∃ e, d = e + 1 := ⟨d - 1, by omega⟩
  unfold zf_149 at h
  refine jb_seg 3 (pc' := 5) (ls' := [some (.ref 1), some (.int x1), some (.int x2), some (.int x3), some (.int x4), none]) (st' := [(.int x1), (.ref 4)]) (σ' := (zE L, M, N)) (G := []) rfl trivial ?_
  obtain ⟨q1, h1, h⟩ := jb_bd_of h
  refine jb_callV (q' := zq_2) (As := [(.int x1)]) (rest := []) (σ1 := (zE L, M, N)) (v := some (.int (jb_b2i q1))) rfl rfl zp_2 rfl (Nat.le_of_ble_eq_true rfl) (jb_cat rfl) (Nat.le_of_ble_eq_true rfl) (Nat.le_of_ble_eq_true rfl) (Or.inl rfl) rfl (ze_2 4 x1 M N (by decide) h1) ?_
  refine jb_seg 1 (pc' := (if (jb_b2i q1) = 0 then 31 else 11)) (ls' := [some (.ref 1), some (.int x1), some (.int x2), some (.int x3), some (.int x4), none]) (st' := []) (σ' := (zE L, M, N)) (G := []) rfl trivial ?_
  refine jb_ite (fun c => ?_) (fun c => ?_)
  · replace h := (if_pos c).symm.trans h
    refine jb_seg 1 (pc' := 32) (ls' := [some (.ref 1), some (.int x1), some (.int x2), some (.int x3), some (.int x4), none]) (st' := [(.int (-1))]) (σ' := (zE L, M, N)) (G := []) rfl trivial ?_
    obtain rfl := Option.some.inj h
    obtain ⟨rfl, rfl⟩ := hK
    exact jb_reti rfl rfl
  · replace h := (if_neg c).symm.trans h
    refine jb_seg 3 (pc' := 15) (ls' := [some (.ref 1), some (.int x1), some (.int x2), some (.int x3), some (.int x4), none]) (st' := [(.int 99), (.int 1), (.int x2)]) (σ' := (zE L, M, N)) (G := []) rfl trivial ?_
    refine jb_callS (q' := zq_23) (As := [(.int x2), (.int 1), (.int 99)]) (rest := []) (σ1 := (zE L, M, N)) (v := some (.int (jb_b2i (zf_23 x2 1 99)))) rfl (Nat.le_of_ble_eq_true rfl) rfl zp_23 (jb_cat rfl) (Nat.le_of_ble_eq_true rfl) (Nat.le_of_ble_eq_true rfl) (Or.inl rfl) rfl (ze_23 x2 1 99 M N rfl) ?_
    refine jb_seg 1 (pc' := (if (jb_b2i (zf_23 x2 1 99)) = 0 then 31 else 21)) (ls' := [some (.ref 1), some (.int x1), some (.int x2), some (.int x3), some (.int x4), none]) (st' := []) (σ' := (zE L, M, N)) (G := []) rfl trivial ?_
    refine jb_ite (fun c => ?_) (fun c => ?_)
    · replace h := (if_pos c).symm.trans h
      refine jb_seg 1 (pc' := 32) (ls' := [some (.ref 1), some (.int x1), some (.int x2), some (.int x3), some (.int x4), none]) (st' := [(.int (-1))]) (σ' := (zE L, M, N)) (G := []) rfl trivial ?_
      obtain rfl := Option.some.inj h
      obtain ⟨rfl, rfl⟩ := hK
      exact jb_reti rfl rfl
    · replace h := (if_neg c).symm.trans h
      refine jb_seg 3 (pc' := 25) (ls' := [some (.ref 1), some (.int x1), some (.int x2), some (.int x3), some (.int x4), none]) (st' := [(.int 99), (.int 1), (.int x3)]) (σ' := (zE L, M, N)) (G := []) rfl trivial ?_
      refine jb_callS (q' := zq_23) (As := [(.int x3), (.int 1), (.int 99)]) (rest := []) (σ1 := (zE L, M, N)) (v := some (.int (jb_b2i (zf_23 x3 1 99)))) rfl (Nat.le_of_ble_eq_true rfl) rfl zp_23 (jb_cat rfl) (Nat.le_of_ble_eq_true rfl) (Nat.le_of_ble_eq_true rfl) (Or.inl rfl) rfl (ze_23 x3 1 99 M N rfl) ?_
      refine jb_seg 1 (pc' := (if (jb_b2i (zf_23 x3 1 99)) = 0 then 31 else 33)) (ls' := [some (.ref 1), some (.int x1), some (.int x2), some (.int x3), some (.int x4), none]) (st' := []) (σ' := (zE L, M, N)) (G := []) rfl trivial ?_
      refine jb_ite (fun c => ?_) (fun c => ?_)
      · replace h := (if_pos c).symm.trans h
        refine jb_seg 1 (pc' := 32) (ls' := [some (.ref 1), some (.int x1), some (.int x2), some (.int x3), some (.int x4), none]) (st' := [(.int (-1))]) (σ' := (zE L, M, N)) (G := []) rfl trivial ?_
        obtain rfl := Option.some.inj h
        obtain ⟨rfl, rfl⟩ := hK
        exact jb_reti rfl rfl
      · replace h := (if_neg c).symm.trans h
        refine jb_seg 3 (pc' := 37) (ls' := [some (.ref 1), some (.int x1), some (.int x2), some (.int x3), some (.int x4), none]) (st' := [(.int 2), (.int 0), (.int x4)]) (σ' := (zE L, M, N)) (G := []) rfl trivial ?_
        refine jb_callS (q' := zq_23) (As := [(.int x4), (.int 0), (.int 2)]) (rest := []) (σ1 := (zE L, M, N)) (v := some (.int (jb_b2i (zf_23 x4 0 2)))) rfl (Nat.le_of_ble_eq_true rfl) rfl zp_23 (jb_cat rfl) (Nat.le_of_ble_eq_true rfl) (Nat.le_of_ble_eq_true rfl) (Or.inl rfl) rfl (ze_23 x4 0 2 M N rfl) ?_
        refine jb_seg 1 (pc' := (if (jb_b2i (zf_23 x4 0 2)) = 0 then 55 else 43)) (ls' := [some (.ref 1), some (.int x1), some (.int x2), some (.int x3), some (.int x4), none]) (st' := []) (σ' := (zE L, M, N)) (G := []) rfl trivial ?_
        refine jb_ite (fun c => ?_) (fun c => ?_)
        · replace h := (if_pos c).symm.trans h
          refine jb_seg 1 (pc' := 56) (ls' := [some (.ref 1), some (.int x1), some (.int x2), some (.int x3), some (.int x4), none]) (st' := [(.int (-1))]) (σ' := (zE L, M, N)) (G := []) rfl trivial ?_
          obtain rfl := Option.some.inj h
          obtain ⟨rfl, rfl⟩ := hK
          exact jb_reti rfl rfl
        · replace h := (if_neg c).symm.trans h
          refine jb_seg 3 (pc' := 49) (ls' := [some (.ref 1), some (.int x1), some (.int x2), some (.int x3), some (.int x4), none]) (st' := [(.int 16), (.ref 2)]) (σ' := (zE L, M, N)) (G := []) rfl trivial ?_
          refine jb_callV (q' := zq_116) (As := [(.int 16)]) (rest := []) (σ1 := (zE L, M, N)) (v := some (.int (jb_b2i (zf_116 16 M)))) rfl rfl zp_116 rfl (Nat.le_of_ble_eq_true rfl) (jb_cat rfl) (Nat.le_of_ble_eq_true rfl) (Nat.le_of_ble_eq_true rfl) (Or.inl rfl) rfl (ze_116 16 M N rfl) ?_
          refine jb_seg 1 (pc' := (if (jb_b2i (zf_116 16 M)) = 0 then 55 else 57)) (ls' := [some (.ref 1), some (.int x1), some (.int x2), some (.int x3), some (.int x4), none]) (st' := []) (σ' := (zE L, M, N)) (G := []) rfl trivial ?_
          refine jb_ite (fun c => ?_) (fun c => ?_)
          · replace h := (if_pos c).symm.trans h
            refine jb_seg 1 (pc' := 56) (ls' := [some (.ref 1), some (.int x1), some (.int x2), some (.int x3), some (.int x4), none]) (st' := [(.int (-1))]) (σ' := (zE L, M, N)) (G := []) rfl trivial ?_
            obtain rfl := Option.some.inj h
            obtain ⟨rfl, rfl⟩ := hK
            exact jb_reti rfl rfl
          · replace h := (if_neg c).symm.trans h
            refine jb_seg 5 (pc' := 66) (ls' := [some (.ref 1), some (.int x1), some (.int x2), some (.int x3), some (.int x4), none]) (st' := [(.ref 2), (.int x1), (.ref 64)]) (σ' := (zE L, M, N)) (G := []) rfl trivial ?_
            obtain ⟨q2, h2, h⟩ := jb_bd_of h
            refine jb_callV (q' := zq_32) (As := [(.int x1), (.ref 2)]) (rest := []) (σ1 := (zE L, q2.1, q2.2)) (v := none) rfl rfl zp_32 rfl (Nat.le_of_ble_eq_true rfl) (jb_cat rfl) (Nat.le_of_ble_eq_true rfl) (Nat.le_of_ble_eq_true rfl) (Or.inl rfl) rfl (ze_32 (by omega) x1 M N h2) ?_
            refine jb_seg 3 (pc' := 74) (ls' := [some (.ref 1), some (.int x1), some (.int x2), some (.int x3), some (.int x4), none]) (st' := [(.int 0), (.ref 2)]) (σ' := (zE L, q2.1, q2.2)) (G := []) rfl trivial ?_
            refine jb_callV (q' := zq_117) (As := [(.int 0)]) (rest := []) (σ1 := (zE L, (zf_117 0 q2.1), q2.2)) (v := none) rfl rfl zp_117 rfl (Nat.le_of_ble_eq_true rfl) (jb_cat rfl) (Nat.le_of_ble_eq_true rfl) (Nat.le_of_ble_eq_true rfl) (Or.inl rfl) rfl (ze_117 (by omega) 0 q2.1 q2.2 rfl) ?_
            refine jb_seg 4 (pc' := 83) (ls' := [some (.ref 1), some (.int x1), some (.int x2), some (.int x3), some (.int x4), none]) (st' := [(.int x3), (.int x2), (.ref 64)]) (σ' := (zE L, (zf_117 0 q2.1), q2.2)) (G := []) rfl trivial ?_
            obtain ⟨q3, h3, h⟩ := jb_bd_of h
            refine jb_callV (q' := zq_35) (As := [(.int x2), (.int x3)]) (rest := []) (σ1 := (zE L, q3.2.1, q3.2.2)) (v := some (.int q3.1)) rfl rfl zp_35 rfl (Nat.le_of_ble_eq_true rfl) (jb_cat rfl) (Nat.le_of_ble_eq_true rfl) (Nat.le_of_ble_eq_true rfl) (Or.inl rfl) rfl (ze_35 (by omega) x2 x3 (zf_117 0 q2.1) q2.2 h3) ?_
            refine jb_seg 6 (pc' := 99) (ls' := [some (.ref 1), some (.int x1), some (.int x2), some (.int x3), some (.int x4), some (.int q3.1)]) (st' := [(.int x4), (.int (q3.2.1 64 12)), (.int q3.1)]) (σ' := (zE L, q3.2.1, q3.2.2)) (G := []) rfl trivial ?_
            refine jb_callS (q' := zq_147) (As := [(.int q3.1), (.int (q3.2.1 64 12)), (.int x4)]) (rest := []) (σ1 := (zE L, q3.2.1, q3.2.2)) (v := some (.int (zf_147 q3.1 (q3.2.1 64 12) x4))) rfl (Nat.le_of_ble_eq_true rfl) rfl zp_147 (jb_cat rfl) (Nat.le_of_ble_eq_true rfl) (Nat.le_of_ble_eq_true rfl) (Or.inl rfl) rfl (ze_147 q3.1 (q3.2.1 64 12) x4 q3.2.1 q3.2.2 rfl) ?_
            obtain rfl := Option.some.inj h
            obtain ⟨rfl, rfl⟩ := hK
            exact jb_reti rfl rfl
theorem ze_149 {Γ : jb_G} {L : Nat} {d : Nat} (hd : 5 ≤ d) (x1 : Int32) (x2 : Int32) (x3 : Int32) (x4 : Int32) (M : jb_Mi) (N : jb_Ml) {r : (Int32 × jb_Mi × jb_Ml)} (h : zf_149 x1 x2 x3 x4 M N = some r) : jb_V Γ d zq_149 0 (jb_en 6 [(.ref 1), (.int x1), (.int x2), (.int x3), (.int x4)]) [] (zE L, M, N) (some (.int r.1)) (zE L, r.2.1, r.2.2) := zg_149 hd x1 x2 x3 x4 M N h ⟨rfl, rfl⟩
-- X12_knocked
set_option maxRecDepth 20000 in
theorem zg_150 {Γ : jb_G} {L : Nat} {d : Nat} (hd : 3 ≤ d) (x1 : Int32) (x2 : Int32) (M : jb_Mi) (N : jb_Ml) {v : Option Value} {σ2 : jb_S} {r : (Int32)} (h : zf_150 x1 x2 M = some r) (hK : (fun r : Int32 => v = some (.int r) ∧ σ2 = (zE L, M, N)) r) : jb_V Γ d zq_150 0 [some (.ref 1), some (.int x1), some (.int x2)] [] (zE L, M, N) v σ2 := by
  obtain ⟨d, rfl⟩ : ∃ e, d = e + 1 := ⟨d - 1, by omega⟩
  unfold zf_150 at h
  refine jb_seg 3 (pc' := 5) (ls' := [some (.ref 1), some (.int x1), some (.int x2)]) (st' := [(.int x1), (.ref 4)]) (σ' := (zE L, M, N)) (G := []) rfl trivial ?_
  obtain ⟨q1, h1, h⟩ := jb_bd_of h
  refine jb_callV (q' := zq_37) (As := [(.int x1)]) (rest := []) (σ1 := (zE L, M, N)) (v := some (.int (jb_b2i q1))) rfl rfl zp_37 rfl (Nat.le_of_ble_eq_true rfl) (jb_cat rfl) (Nat.le_of_ble_eq_true rfl) (Nat.le_of_ble_eq_true rfl) (Or.inl rfl) rfl (ze_37 4 x1 M N (by decide) h1) ?_
  refine jb_seg 1 (pc' := (if (jb_b2i q1) = 0 then 23 else 11)) (ls' := [some (.ref 1), some (.int x1), some (.int x2)]) (st' := []) (σ' := (zE L, M, N)) (G := []) rfl trivial ?_
  refine jb_ite (fun c => ?_) (fun c => ?_)
  · replace h := (if_pos c).symm.trans h
    refine jb_seg 1 (pc' := 24) (ls' := [some (.ref 1), some (.int x1), some (.int x2)]) (st' := [(.int (-1))]) (σ' := (zE L, M, N)) (G := []) rfl trivial ?_
    obtain rfl := Option.some.inj h
    obtain ⟨rfl, rfl⟩ := hK
    exact jb_reti rfl rfl
  · replace h := (if_neg c).symm.trans h
    refine jb_seg 4 (pc' := 17) (ls' := [some (.ref 1), some (.int x1), some (.int x2)]) (st' := [(.int x2), (.int x1), (.ref 70)]) (σ' := (zE L, M, N)) (G := []) rfl trivial ?_
    obtain ⟨q2, h2, h⟩ := jb_bd_of h
    refine jb_callV (q' := zq_50) (As := [(.int x1), (.int x2)]) (rest := []) (σ1 := (zE L, M, N)) (v := some (.int q2)) rfl rfl zp_50 rfl (Nat.le_of_ble_eq_true rfl) (jb_cat rfl) (Nat.le_of_ble_eq_true rfl) (Nat.le_of_ble_eq_true rfl) (Or.inl rfl) rfl (ze_50 (by omega) x1 x2 M N h2) ?_
    refine jb_seg 1 (pc' := 24) (ls' := [some (.ref 1), some (.int x1), some (.int x2)]) (st' := [(.int q2)]) (σ' := (zE L, M, N)) (G := []) rfl trivial ?_
    obtain rfl := Option.some.inj h
    obtain ⟨rfl, rfl⟩ := hK
    exact jb_reti rfl rfl
theorem ze_150 {Γ : jb_G} {L : Nat} {d : Nat} (hd : 3 ≤ d) (x1 : Int32) (x2 : Int32) (M : jb_Mi) (N : jb_Ml) {r : (Int32)} (h : zf_150 x1 x2 M = some r) : jb_V Γ d zq_150 0 (jb_en 3 [(.ref 1), (.int x1), (.int x2)]) [] (zE L, M, N) (some (.int r)) (zE L, M, N) := zg_150 hd x1 x2 M N h ⟨rfl, rfl⟩
-- X12_fewest
set_option maxRecDepth 20000 in
theorem zg_151 {Γ : jb_G} {L : Nat} {d : Nat} (hd : 4 ≤ d) (x1 : Int32) (M : jb_Mi) (N : jb_Ml) {v : Option Value} {σ2 : jb_S} {r : (Int32 × jb_Mi)} (h : zf_151 x1 M = some r) (hK : (fun r : Int32 × jb_Mi => v = some (.int r.1) ∧ σ2 = (zE L, r.2, N)) r) : jb_V Γ d zq_151 0 [some (.ref 1), some (.int x1), none] [] (zE L, M, N) v σ2 := by
  obtain ⟨d, rfl⟩ : ∃ e, d = e + 1 := ⟨d - 1, by omega⟩
  unfold zf_151 at h
  refine jb_seg 3 (pc' := 3) (ls' := [some (.ref 1), some (.int x1), none]) (st' := [(.int 1), (.int 0), (.int x1)]) (σ' := (zE L, M, N)) (G := []) rfl trivial ?_
  refine jb_callS (q' := zq_23) (As := [(.int x1), (.int 0), (.int 1)]) (rest := []) (σ1 := (zE L, M, N)) (v := some (.int (jb_b2i (zf_23 x1 0 1)))) rfl (Nat.le_of_ble_eq_true rfl) rfl zp_23 (jb_cat rfl) (Nat.le_of_ble_eq_true rfl) (Nat.le_of_ble_eq_true rfl) (Or.inl rfl) rfl (ze_23 x1 0 1 M N rfl) ?_
  refine jb_seg 1 (pc' := (if (jb_b2i (zf_23 x1 0 1)) = 0 then 9 else 11)) (ls' := [some (.ref 1), some (.int x1), none]) (st' := []) (σ' := (zE L, M, N)) (G := []) rfl trivial ?_
  refine jb_ite (fun c => ?_) (fun c => ?_)
  · replace h := (if_pos c).symm.trans h
    refine jb_seg 1 (pc' := 10) (ls' := [some (.ref 1), some (.int x1), none]) (st' := [(.int (-1))]) (σ' := (zE L, M, N)) (G := []) rfl trivial ?_
    obtain rfl := Option.some.inj h
    obtain ⟨rfl, rfl⟩ := hK
    exact jb_reti rfl rfl
  · replace h := (if_neg c).symm.trans h
    refine jb_seg 2 (pc' := 15) (ls' := [some (.ref 1), some (.int x1), none]) (st' := [(.ref 70)]) (σ' := (zE L, M, N)) (G := []) rfl trivial ?_
    obtain ⟨q1, h1, h⟩ := jb_bd_of h
    refine jb_callV (q' := zq_54) (As := []) (rest := []) (σ1 := (zE L, q1.2, N)) (v := some (.int q1.1)) rfl rfl zp_54 rfl (Nat.le_of_ble_eq_true rfl) (jb_cat rfl) (Nat.le_of_ble_eq_true rfl) (Nat.le_of_ble_eq_true rfl) (Or.inl rfl) rfl (ze_54 (by omega) M N h1) ?_
    refine jb_seg 4 (pc' := (if x1 = 1 then 24 else 28)) (ls' := [some (.ref 1), some (.int x1), some (.int q1.1)]) (st' := []) (σ' := (zE L, q1.2, N)) (G := []) rfl trivial ?_
    refine jb_ite (fun c => ?_) (fun c => ?_)
    · replace h := (if_pos c).symm.trans h
      refine jb_seg 2 (pc' := 32) (ls' := [some (.ref 1), some (.int x1), some (.int q1.1)]) (st' := [(.int q1.1)]) (σ' := (zE L, q1.2, N)) (G := []) rfl trivial ?_
      obtain rfl := Option.some.inj h
      obtain ⟨rfl, rfl⟩ := hK
      exact jb_reti rfl rfl
    · replace h := (if_neg c).symm.trans h
      refine jb_seg 1 (pc' := 29) (ls' := [some (.ref 1), some (.int x1), some (.int q1.1)]) (st' := [(.int q1.1)]) (σ' := (zE L, q1.2, N)) (G := []) rfl trivial ?_
      refine jb_callS (q' := zq_26) (As := [(.int q1.1)]) (rest := []) (σ1 := (zE L, q1.2, N)) (v := some (.int (zf_26 q1.1))) rfl (Nat.le_of_ble_eq_true rfl) rfl zp_26 (jb_cat rfl) (Nat.le_of_ble_eq_true rfl) (Nat.le_of_ble_eq_true rfl) (Or.inl rfl) rfl (ze_26 q1.1 q1.2 N rfl) ?_
      obtain rfl := Option.some.inj h
      obtain ⟨rfl, rfl⟩ := hK
      exact jb_reti rfl rfl
theorem ze_151 {Γ : jb_G} {L : Nat} {d : Nat} (hd : 4 ≤ d) (x1 : Int32) (M : jb_Mi) (N : jb_Ml) {r : (Int32 × jb_Mi)} (h : zf_151 x1 M = some r) : jb_V Γ d zq_151 0 (jb_en 3 [(.ref 1), (.int x1)]) [] (zE L, M, N) (some (.int r.1)) (zE L, r.2, N) := zg_151 hd x1 M N h ⟨rfl, rfl⟩
-- X12_strike
set_option maxRecDepth 20000 in
theorem zg_152 {Γ : jb_G} {L : Nat} {d : Nat} (hd : 5 ≤ d) (x1 : Int32) (x2 : Int32) (M : jb_Mi) (N : jb_Ml) {v : Option Value} {σ2 : jb_S} {r : (Int32 × jb_Mi)} (h : zf_152 x1 x2 M = some r) (hK : (fun r : Int32 × jb_Mi => v = some (.int r.1) ∧ σ2 = (zE L, r.2, N)) r) : jb_V Γ d zq_152 0 [some (.ref 1), some (.int x1), some (.int x2)] [] (zE L, M, N) v σ2 := by
  obtain ⟨d, rfl⟩ : ∃ e, d = e + 1 := ⟨d - 1, by omega⟩
  unfold zf_152 at h
  refine jb_seg 3 (pc' := 3) (ls' := [some (.ref 1), some (.int x1), some (.int x2)]) (st' := [(.int 3), (.int 1), (.int x1)]) (σ' := (zE L, M, N)) (G := []) rfl trivial ?_
  refine jb_callS (q' := zq_23) (As := [(.int x1), (.int 1), (.int 3)]) (rest := []) (σ1 := (zE L, M, N)) (v := some (.int (jb_b2i (zf_23 x1 1 3)))) rfl (Nat.le_of_ble_eq_true rfl) rfl zp_23 (jb_cat rfl) (Nat.le_of_ble_eq_true rfl) (Nat.le_of_ble_eq_true rfl) (Or.inl rfl) rfl (ze_23 x1 1 3 M N rfl) ?_
  refine jb_seg 1 (pc' := (if (jb_b2i (zf_23 x1 1 3)) = 0 then 18 else 9)) (ls' := [some (.ref 1), some (.int x1), some (.int x2)]) (st' := []) (σ' := (zE L, M, N)) (G := []) rfl trivial ?_
  refine jb_ite (fun c => ?_) (fun c => ?_)
  · replace h := (if_pos c).symm.trans h
    refine jb_seg 1 (pc' := 19) (ls' := [some (.ref 1), some (.int x1), some (.int x2)]) (st' := [(.int (-1))]) (σ' := (zE L, M, N)) (G := []) rfl trivial ?_
    obtain rfl := Option.some.inj h
    obtain ⟨rfl, rfl⟩ := hK
    exact jb_reti rfl rfl
  · replace h := (if_neg c).symm.trans h
    refine jb_seg 3 (pc' := 12) (ls' := [some (.ref 1), some (.int x1), some (.int x2)]) (st' := [(.int 1), (.int 0), (.int x2)]) (σ' := (zE L, M, N)) (G := []) rfl trivial ?_
    refine jb_callS (q' := zq_23) (As := [(.int x2), (.int 0), (.int 1)]) (rest := []) (σ1 := (zE L, M, N)) (v := some (.int (jb_b2i (zf_23 x2 0 1)))) rfl (Nat.le_of_ble_eq_true rfl) rfl zp_23 (jb_cat rfl) (Nat.le_of_ble_eq_true rfl) (Nat.le_of_ble_eq_true rfl) (Or.inl rfl) rfl (ze_23 x2 0 1 M N rfl) ?_
    refine jb_seg 1 (pc' := (if (jb_b2i (zf_23 x2 0 1)) = 0 then 18 else 20)) (ls' := [some (.ref 1), some (.int x1), some (.int x2)]) (st' := []) (σ' := (zE L, M, N)) (G := []) rfl trivial ?_
    refine jb_ite (fun c => ?_) (fun c => ?_)
    · replace h := (if_pos c).symm.trans h
      refine jb_seg 1 (pc' := 19) (ls' := [some (.ref 1), some (.int x1), some (.int x2)]) (st' := [(.int (-1))]) (σ' := (zE L, M, N)) (G := []) rfl trivial ?_
      obtain rfl := Option.some.inj h
      obtain ⟨rfl, rfl⟩ := hK
      exact jb_reti rfl rfl
    · replace h := (if_neg c).symm.trans h
      refine jb_seg 2 (pc' := 24) (ls' := [some (.ref 1), some (.int x1), some (.int x2)]) (st' := [(.ref 4)]) (σ' := (zE L, M, N)) (G := []) rfl trivial ?_
      obtain ⟨q1, h1, h⟩ := jb_bd_of h
      refine jb_callV (q' := zq_103) (As := []) (rest := []) (σ1 := (zE L, M, N)) (v := some (.int q1)) rfl rfl zp_103 rfl (Nat.le_of_ble_eq_true rfl) (jb_cat rfl) (Nat.le_of_ble_eq_true rfl) (Nat.le_of_ble_eq_true rfl) (Or.inl rfl) rfl (ze_103 (by omega) 4 M N (by decide) h1) ?_
      refine jb_callS (q' := zq_26) (As := [(.int q1)]) (rest := []) (σ1 := (zE L, M, N)) (v := some (.int (zf_26 q1))) rfl (Nat.le_of_ble_eq_true rfl) rfl zp_26 (jb_cat rfl) (Nat.le_of_ble_eq_true rfl) (Nat.le_of_ble_eq_true rfl) (Or.inl rfl) rfl (ze_26 q1 M N rfl) ?_
      refine jb_seg 2 (pc' := (if (zf_26 q1) < x1 then 34 else 37)) (ls' := [some (.ref 1), some (.int x1), some (.int x2)]) (st' := []) (σ' := (zE L, M, N)) (G := []) rfl trivial ?_
      refine jb_ite (fun c => ?_) (fun c => ?_)
      · replace h := (if_pos c).symm.trans h
        refine jb_seg 1 (pc' := 36) (ls' := [some (.ref 1), some (.int x1), some (.int x2)]) (st' := [(.int (-2))]) (σ' := (zE L, M, N)) (G := []) rfl trivial ?_
        obtain rfl := Option.some.inj h
        obtain ⟨rfl, rfl⟩ := hK
        exact jb_reti rfl rfl
      · replace h := (if_neg c).symm.trans h
        refine jb_seg 3 (pc' := 42) (ls' := [some (.ref 1), some (.int x1), some (.int x2)]) (st' := [(.int x1), (.ref 41)]) (σ' := (zE L, M, N)) (G := []) rfl trivial ?_
        obtain ⟨q2, h2, h⟩ := jb_bd_of h
        refine jb_callV (q' := zq_47) (As := [(.int x1)]) (rest := []) (σ1 := (zE L, q2, N)) (v := none) rfl rfl zp_47 rfl (Nat.le_of_ble_eq_true rfl) (jb_cat rfl) (Nat.le_of_ble_eq_true rfl) (Nat.le_of_ble_eq_true rfl) (Or.inl rfl) rfl (ze_47 (by omega) x1 M N h2) ?_
        refine jb_seg 2 (pc' := (if x2 = 0 then 49 else 59)) (ls' := [some (.ref 1), some (.int x1), some (.int x2)]) (st' := []) (σ' := (zE L, q2, N)) (G := []) rfl trivial ?_
        refine jb_ite (fun c => ?_) (fun c => ?_)
        · replace h := (if_pos c).symm.trans h
          refine jb_seg 4 (pc' := 66) (ls' := [some (.ref 1), some (.int x1), some (.int x2)]) (st' := [(.int (q2 41 3))]) (σ' := (zE L, q2, N)) (G := []) rfl trivial ?_
          obtain rfl := Option.some.inj h
          obtain ⟨rfl, rfl⟩ := hK
          exact jb_reti rfl rfl
        · replace h := (if_neg c).symm.trans h
          refine jb_seg 3 (pc' := 66) (ls' := [some (.ref 1), some (.int x1), some (.int x2)]) (st' := [(.int (q2 41 4))]) (σ' := (zE L, q2, N)) (G := []) rfl trivial ?_
          obtain rfl := Option.some.inj h
          obtain ⟨rfl, rfl⟩ := hK
          exact jb_reti rfl rfl
theorem ze_152 {Γ : jb_G} {L : Nat} {d : Nat} (hd : 5 ≤ d) (x1 : Int32) (x2 : Int32) (M : jb_Mi) (N : jb_Ml) {r : (Int32 × jb_Mi)} (h : zf_152 x1 x2 M = some r) : jb_V Γ d zq_152 0 (jb_en 3 [(.ref 1), (.int x1), (.int x2)]) [] (zE L, M, N) (some (.int r.1)) (zE L, r.2, N) := zg_152 hd x1 x2 M N h ⟨rfl, rfl⟩
-- X12_bricks
set_option maxRecDepth 20000 in
theorem zg_153 {Γ : jb_G} {L : Nat} {d : Nat} (hd : 3 ≤ d) (x1 : Int32) (x2 : Int32) (M : jb_Mi) (N : jb_Ml) {v : Option Value} {σ2 : jb_S} {r : (Int64 × jb_Mi × jb_Ml)} (h : zf_153 x1 x2 M N = some r) (hK : (fun r : Int64 × jb_Mi × jb_Ml => v = some (.long r.1) ∧ σ2 = (zE L, r.2.1, r.2.2)) r) : jb_V Γ d zq_153 0 [some (.ref 1), some (.int x1), some (.int x2)] [] (zE L, M, N) v σ2 := by
  obtain ⟨d, rfl⟩ : ∃ e, d = e + 1 := ⟨d - 1, by omega⟩
  unfold zf_153 at h
  refine jb_seg 3 (pc' := 4) (ls' := [some (.ref 1), some (.int x1), some (.int x2)]) (st' := [(.int 16), (.int 1), (.int x1)]) (σ' := (zE L, M, N)) (G := []) rfl trivial ?_
  refine jb_callS (q' := zq_23) (As := [(.int x1), (.int 1), (.int 16)]) (rest := []) (σ1 := (zE L, M, N)) (v := some (.int (jb_b2i (zf_23 x1 1 16)))) rfl (Nat.le_of_ble_eq_true rfl) rfl zp_23 (jb_cat rfl) (Nat.le_of_ble_eq_true rfl) (Nat.le_of_ble_eq_true rfl) (Or.inl rfl) rfl (ze_23 x1 1 16 M N rfl) ?_
  refine jb_seg 1 (pc' := (if (jb_b2i (zf_23 x1 1 16)) = 0 then 20 else 10)) (ls' := [some (.ref 1), some (.int x1), some (.int x2)]) (st' := []) (σ' := (zE L, M, N)) (G := []) rfl trivial ?_
  refine jb_ite (fun c => ?_) (fun c => ?_)
  · replace h := (if_pos c).symm.trans h
    refine jb_seg 1 (pc' := 23) (ls' := [some (.ref 1), some (.int x1), some (.int x2)]) (st' := [(.long (-1))]) (σ' := (zE L, M, N)) (G := []) rfl trivial ?_
    obtain rfl := Option.some.inj h
    obtain ⟨rfl, rfl⟩ := hK
    exact jb_retl rfl rfl
  · replace h := (if_neg c).symm.trans h
    refine jb_seg 3 (pc' := 14) (ls' := [some (.ref 1), some (.int x1), some (.int x2)]) (st' := [(.int 6), (.int 1), (.int x2)]) (σ' := (zE L, M, N)) (G := []) rfl trivial ?_
    refine jb_callS (q' := zq_23) (As := [(.int x2), (.int 1), (.int 6)]) (rest := []) (σ1 := (zE L, M, N)) (v := some (.int (jb_b2i (zf_23 x2 1 6)))) rfl (Nat.le_of_ble_eq_true rfl) rfl zp_23 (jb_cat rfl) (Nat.le_of_ble_eq_true rfl) (Nat.le_of_ble_eq_true rfl) (Or.inl rfl) rfl (ze_23 x2 1 6 M N rfl) ?_
    refine jb_seg 1 (pc' := (if (jb_b2i (zf_23 x2 1 6)) = 0 then 20 else 24)) (ls' := [some (.ref 1), some (.int x1), some (.int x2)]) (st' := []) (σ' := (zE L, M, N)) (G := []) rfl trivial ?_
    refine jb_ite (fun c => ?_) (fun c => ?_)
    · replace h := (if_pos c).symm.trans h
      refine jb_seg 1 (pc' := 23) (ls' := [some (.ref 1), some (.int x1), some (.int x2)]) (st' := [(.long (-1))]) (σ' := (zE L, M, N)) (G := []) rfl trivial ?_
      obtain rfl := Option.some.inj h
      obtain ⟨rfl, rfl⟩ := hK
      exact jb_retl rfl rfl
    · replace h := (if_neg c).symm.trans h
      refine jb_seg 4 (pc' := 30) (ls' := [some (.ref 1), some (.int x1), some (.int x2)]) (st' := [(.int x2), (.int x1), (.ref 73)]) (σ' := (zE L, M, N)) (G := []) rfl trivial ?_
      obtain ⟨q1, h1, h⟩ := jb_bd_of h
      refine jb_callV (q' := zq_58) (As := [(.int x1), (.int x2)]) (rest := []) (σ1 := (zE L, q1.2.1, q1.2.2)) (v := some (.long q1.1)) rfl rfl zp_58 rfl (Nat.le_of_ble_eq_true rfl) (jb_cat rfl) (Nat.le_of_ble_eq_true rfl) (Nat.le_of_ble_eq_true rfl) (Or.inl rfl) rfl (ze_58 (by omega) x1 x2 M N h1) ?_
      obtain rfl := Option.some.inj h
      obtain ⟨rfl, rfl⟩ := hK
      exact jb_retl rfl rfl
theorem ze_153 {Γ : jb_G} {L : Nat} {d : Nat} (hd : 3 ≤ d) (x1 : Int32) (x2 : Int32) (M : jb_Mi) (N : jb_Ml) {r : (Int64 × jb_Mi × jb_Ml)} (h : zf_153 x1 x2 M N = some r) : jb_V Γ d zq_153 0 (jb_en 3 [(.ref 1), (.int x1), (.int x2)]) [] (zE L, M, N) (some (.long r.1)) (zE L, r.2.1, r.2.2) := zg_153 hd x1 x2 M N h ⟨rfl, rfl⟩
-- X12_bread
set_option maxRecDepth 20000 in
theorem zg_154 {Γ : jb_G} {L : Nat} {d : Nat} (hd : 2 ≤ d) (x1 : Int32) (M : jb_Mi) (N : jb_Ml) {v : Option Value} {σ2 : jb_S} {r : (Int32 × jb_Mi)} (h : zf_154 x1 M = some r) (hK : (fun r : Int32 × jb_Mi => v = some (.int r.1) ∧ σ2 = (zE L, r.2, N)) r) : jb_V Γ d zq_154 0 [some (.ref 1), some (.int x1), none] [] (zE L, M, N) v σ2 := by
  obtain ⟨d, rfl⟩ : ∃ e, d = e + 1 := ⟨d - 1, by omega⟩
  unfold zf_154 at h
  refine jb_seg 3 (pc' := 4) (ls' := [some (.ref 1), some (.int x1), none]) (st' := [(.int 12), (.int 1), (.int x1)]) (σ' := (zE L, M, N)) (G := []) rfl trivial ?_
  refine jb_callS (q' := zq_23) (As := [(.int x1), (.int 1), (.int 12)]) (rest := []) (σ1 := (zE L, M, N)) (v := some (.int (jb_b2i (zf_23 x1 1 12)))) rfl (Nat.le_of_ble_eq_true rfl) rfl zp_23 (jb_cat rfl) (Nat.le_of_ble_eq_true rfl) (Nat.le_of_ble_eq_true rfl) (Or.inl rfl) rfl (ze_23 x1 1 12 M N rfl) ?_
  refine jb_seg 1 (pc' := (if (jb_b2i (zf_23 x1 1 12)) = 0 then 21 else 10)) (ls' := [some (.ref 1), some (.int x1), none]) (st' := []) (σ' := (zE L, M, N)) (G := []) rfl trivial ?_
  refine jb_ite (fun c => ?_) (fun c => ?_)
  · replace h := (if_pos c).symm.trans h
    refine jb_seg 1 (pc' := 22) (ls' := [some (.ref 1), some (.int x1), none]) (st' := [(.int (-1))]) (σ' := (zE L, M, N)) (G := []) rfl trivial ?_
    obtain rfl := Option.some.inj h
    obtain ⟨rfl, rfl⟩ := hK
    exact jb_reti rfl rfl
  · replace h := (if_neg c).symm.trans h
    refine jb_seg 3 (pc' := 15) (ls' := [some (.ref 1), some (.int x1), none]) (st' := [(.int x1), (.ref 2)]) (σ' := (zE L, M, N)) (G := []) rfl trivial ?_
    refine jb_callV (q' := zq_116) (As := [(.int x1)]) (rest := []) (σ1 := (zE L, M, N)) (v := some (.int (jb_b2i (zf_116 x1 M)))) rfl rfl zp_116 rfl (Nat.le_of_ble_eq_true rfl) (jb_cat rfl) (Nat.le_of_ble_eq_true rfl) (Nat.le_of_ble_eq_true rfl) (Or.inl rfl) rfl (ze_116 x1 M N rfl) ?_
    refine jb_seg 1 (pc' := (if (jb_b2i (zf_116 x1 M)) = 0 then 21 else 23)) (ls' := [some (.ref 1), some (.int x1), none]) (st' := []) (σ' := (zE L, M, N)) (G := []) rfl trivial ?_
    refine jb_ite (fun c => ?_) (fun c => ?_)
    · replace h := (if_pos c).symm.trans h
      refine jb_seg 1 (pc' := 22) (ls' := [some (.ref 1), some (.int x1), none]) (st' := [(.int (-1))]) (σ' := (zE L, M, N)) (G := []) rfl trivial ?_
      obtain rfl := Option.some.inj h
      obtain ⟨rfl, rfl⟩ := hK
      exact jb_reti rfl rfl
    · replace h := (if_neg c).symm.trans h
      refine jb_seg 3 (pc' := 28) (ls' := [some (.ref 1), some (.int x1), none]) (st' := [(.int x1), (.ref 2)]) (σ' := (zE L, M, N)) (G := []) rfl trivial ?_
      refine jb_callV (q' := zq_117) (As := [(.int x1)]) (rest := []) (σ1 := (zE L, (zf_117 x1 M), N)) (v := none) rfl rfl zp_117 rfl (Nat.le_of_ble_eq_true rfl) (jb_cat rfl) (Nat.le_of_ble_eq_true rfl) (Nat.le_of_ble_eq_true rfl) (Or.inl rfl) rfl (ze_117 (by omega) x1 M N rfl) ?_
      refine jb_seg 4 (pc' := 39) (ls' := [some (.ref 1), some (.int x1), none]) (st' := [(.ref 2), (.ref 73)]) (σ' := (zE L, (zf_117 x1 M), N)) (G := []) rfl trivial ?_
      obtain ⟨q1, h1, h⟩ := jb_bd_of h
      refine jb_callV (q' := zq_59) (As := [(.ref 2)]) (rest := []) (σ1 := (zE L, (zf_117 x1 M), N)) (v := some (.int q1)) rfl rfl zp_59 rfl (Nat.le_of_ble_eq_true rfl) (jb_cat rfl) (Nat.le_of_ble_eq_true rfl) (Nat.le_of_ble_eq_true rfl) (Or.inl rfl) rfl (ze_59 (by omega) (zf_117 x1 M) N h1) ?_
      refine jb_seg 4 (pc' := 48) (ls' := [some (.ref 1), some (.int x1), some (.int q1)]) (st' := [(.int 0), (.ref 2)]) (σ' := (zE L, (zf_117 x1 M), N)) (G := []) rfl trivial ?_
      refine jb_callV (q' := zq_117) (As := [(.int 0)]) (rest := []) (σ1 := (zE L, (zf_117 0 (zf_117 x1 M)), N)) (v := none) rfl rfl zp_117 rfl (Nat.le_of_ble_eq_true rfl) (jb_cat rfl) (Nat.le_of_ble_eq_true rfl) (Nat.le_of_ble_eq_true rfl) (Or.inl rfl) rfl (ze_117 (by omega) 0 (zf_117 x1 M) N rfl) ?_
      refine jb_seg 1 (pc' := 52) (ls' := [some (.ref 1), some (.int x1), some (.int q1)]) (st' := [(.int q1)]) (σ' := (zE L, (zf_117 0 (zf_117 x1 M)), N)) (G := []) rfl trivial ?_
      obtain rfl := Option.some.inj h
      obtain ⟨rfl, rfl⟩ := hK
      exact jb_reti rfl rfl
theorem ze_154 {Γ : jb_G} {L : Nat} {d : Nat} (hd : 2 ≤ d) (x1 : Int32) (M : jb_Mi) (N : jb_Ml) {r : (Int32 × jb_Mi)} (h : zf_154 x1 M = some r) : jb_V Γ d zq_154 0 (jb_en 3 [(.ref 1), (.int x1)]) [] (zE L, M, N) (some (.int r.1)) (zE L, r.2, N) := zg_154 hd x1 M N h ⟨rfl, rfl⟩
-- X12_beams
set_option maxRecDepth 20000 in
theorem zg_155 {Γ : jb_G} {L : Nat} {d : Nat} (hd : 2 ≤ d) (x1 : Int32) (M : jb_Mi) (N : jb_Ml) {v : Option Value} {σ2 : jb_S} {r : (Int32 × jb_Mi)} (h : zf_155 x1 M = some r) (hK : (fun r : Int32 × jb_Mi => v = some (.int r.1) ∧ σ2 = (zE L, r.2, N)) r) : jb_V Γ d zq_155 0 [some (.ref 1), some (.int x1), none] [] (zE L, M, N) v σ2 := by
  obtain ⟨d, rfl⟩ : ∃ e, d = e + 1 := ⟨d - 1, by omega⟩
  unfold zf_155 at h
  refine jb_seg 3 (pc' := 4) (ls' := [some (.ref 1), some (.int x1), none]) (st' := [(.int 8), (.int 1), (.int x1)]) (σ' := (zE L, M, N)) (G := []) rfl trivial ?_
  refine jb_callS (q' := zq_23) (As := [(.int x1), (.int 1), (.int 8)]) (rest := []) (σ1 := (zE L, M, N)) (v := some (.int (jb_b2i (zf_23 x1 1 8)))) rfl (Nat.le_of_ble_eq_true rfl) rfl zp_23 (jb_cat rfl) (Nat.le_of_ble_eq_true rfl) (Nat.le_of_ble_eq_true rfl) (Or.inl rfl) rfl (ze_23 x1 1 8 M N rfl) ?_
  refine jb_seg 1 (pc' := (if (jb_b2i (zf_23 x1 1 8)) = 0 then 21 else 10)) (ls' := [some (.ref 1), some (.int x1), none]) (st' := []) (σ' := (zE L, M, N)) (G := []) rfl trivial ?_
  refine jb_ite (fun c => ?_) (fun c => ?_)
  · replace h := (if_pos c).symm.trans h
    refine jb_seg 1 (pc' := 22) (ls' := [some (.ref 1), some (.int x1), none]) (st' := [(.int (-1))]) (σ' := (zE L, M, N)) (G := []) rfl trivial ?_
    obtain rfl := Option.some.inj h
    obtain ⟨rfl, rfl⟩ := hK
    exact jb_reti rfl rfl
  · replace h := (if_neg c).symm.trans h
    refine jb_seg 3 (pc' := 15) (ls' := [some (.ref 1), some (.int x1), none]) (st' := [(.int x1), (.ref 2)]) (σ' := (zE L, M, N)) (G := []) rfl trivial ?_
    refine jb_callV (q' := zq_116) (As := [(.int x1)]) (rest := []) (σ1 := (zE L, M, N)) (v := some (.int (jb_b2i (zf_116 x1 M)))) rfl rfl zp_116 rfl (Nat.le_of_ble_eq_true rfl) (jb_cat rfl) (Nat.le_of_ble_eq_true rfl) (Nat.le_of_ble_eq_true rfl) (Or.inl rfl) rfl (ze_116 x1 M N rfl) ?_
    refine jb_seg 1 (pc' := (if (jb_b2i (zf_116 x1 M)) = 0 then 21 else 23)) (ls' := [some (.ref 1), some (.int x1), none]) (st' := []) (σ' := (zE L, M, N)) (G := []) rfl trivial ?_
    refine jb_ite (fun c => ?_) (fun c => ?_)
    · replace h := (if_pos c).symm.trans h
      refine jb_seg 1 (pc' := 22) (ls' := [some (.ref 1), some (.int x1), none]) (st' := [(.int (-1))]) (σ' := (zE L, M, N)) (G := []) rfl trivial ?_
      obtain rfl := Option.some.inj h
      obtain ⟨rfl, rfl⟩ := hK
      exact jb_reti rfl rfl
    · replace h := (if_neg c).symm.trans h
      refine jb_seg 3 (pc' := 28) (ls' := [some (.ref 1), some (.int x1), none]) (st' := [(.int x1), (.ref 2)]) (σ' := (zE L, M, N)) (G := []) rfl trivial ?_
      refine jb_callV (q' := zq_117) (As := [(.int x1)]) (rest := []) (σ1 := (zE L, (zf_117 x1 M), N)) (v := none) rfl rfl zp_117 rfl (Nat.le_of_ble_eq_true rfl) (jb_cat rfl) (Nat.le_of_ble_eq_true rfl) (Nat.le_of_ble_eq_true rfl) (Or.inl rfl) rfl (ze_117 (by omega) x1 M N rfl) ?_
      refine jb_seg 4 (pc' := 39) (ls' := [some (.ref 1), some (.int x1), none]) (st' := [(.ref 2), (.ref 73)]) (σ' := (zE L, (zf_117 x1 M), N)) (G := []) rfl trivial ?_
      obtain ⟨q1, h1, h⟩ := jb_bd_of h
      refine jb_callV (q' := zq_61) (As := [(.ref 2)]) (rest := []) (σ1 := (zE L, q1.2, N)) (v := some (.int q1.1)) rfl rfl zp_61 rfl (Nat.le_of_ble_eq_true rfl) (jb_cat rfl) (Nat.le_of_ble_eq_true rfl) (Nat.le_of_ble_eq_true rfl) (Or.inl rfl) rfl (ze_61 (by omega) (zf_117 x1 M) N h1) ?_
      refine jb_seg 4 (pc' := 48) (ls' := [some (.ref 1), some (.int x1), some (.int q1.1)]) (st' := [(.int 0), (.ref 2)]) (σ' := (zE L, q1.2, N)) (G := []) rfl trivial ?_
      refine jb_callV (q' := zq_117) (As := [(.int 0)]) (rest := []) (σ1 := (zE L, (zf_117 0 q1.2), N)) (v := none) rfl rfl zp_117 rfl (Nat.le_of_ble_eq_true rfl) (jb_cat rfl) (Nat.le_of_ble_eq_true rfl) (Nat.le_of_ble_eq_true rfl) (Or.inl rfl) rfl (ze_117 (by omega) 0 q1.2 N rfl) ?_
      refine jb_seg 1 (pc' := 52) (ls' := [some (.ref 1), some (.int x1), some (.int q1.1)]) (st' := [(.int q1.1)]) (σ' := (zE L, (zf_117 0 q1.2), N)) (G := []) rfl trivial ?_
      obtain rfl := Option.some.inj h
      obtain ⟨rfl, rfl⟩ := hK
      exact jb_reti rfl rfl
theorem ze_155 {Γ : jb_G} {L : Nat} {d : Nat} (hd : 2 ≤ d) (x1 : Int32) (M : jb_Mi) (N : jb_Ml) {r : (Int32 × jb_Mi)} (h : zf_155 x1 M = some r) : jb_V Γ d zq_155 0 (jb_en 3 [(.ref 1), (.int x1)]) [] (zE L, M, N) (some (.int r.1)) (zE L, r.2, N) := zg_155 hd x1 M N h ⟨rfl, rfl⟩
-- X12_relieved
set_option maxRecDepth 20000 in
theorem zg_156 {Γ : jb_G} {L : Nat} {d : Nat} (hd : 4 ≤ d) (x1 : Int32) (x2 : Int32) (x3 : Int32) (M : jb_Mi) (N : jb_Ml) {v : Option Value} {σ2 : jb_S} {r : (Int32)} (h : zf_156 x1 x2 x3 M = some r) (hK : (fun r : Int32 => v = some (.int r) ∧ σ2 = (zE L, M, N)) r) : jb_V Γ d zq_156 0 [some (.ref 1), some (.int x1), some (.int x2), some (.int x3), none] [] (zE L, M, N) v σ2 := by
  obtain ⟨d, rfl⟩ : ∃ e, d = e + 1 := ⟨d - 1, by omega⟩
  unfold zf_156 at h
  refine jb_seg 3 (pc' := 5) (ls' := [some (.ref 1), some (.int x1), some (.int x2), some (.int x3), none]) (st' := [(.int x1), (.ref 4)]) (σ' := (zE L, M, N)) (G := []) rfl trivial ?_
  obtain ⟨q1, h1, h⟩ := jb_bd_of h
  refine jb_callV (q' := zq_2) (As := [(.int x1)]) (rest := []) (σ1 := (zE L, M, N)) (v := some (.int (jb_b2i q1))) rfl rfl zp_2 rfl (Nat.le_of_ble_eq_true rfl) (jb_cat rfl) (Nat.le_of_ble_eq_true rfl) (Nat.le_of_ble_eq_true rfl) (Or.inl rfl) rfl (ze_2 4 x1 M N (by decide) h1) ?_
  refine jb_seg 1 (pc' := (if (jb_b2i q1) = 0 then 20 else 11)) (ls' := [some (.ref 1), some (.int x1), some (.int x2), some (.int x3), none]) (st' := []) (σ' := (zE L, M, N)) (G := []) rfl trivial ?_
  refine jb_ite (fun c => ?_) (fun c => ?_)
  · replace h := (if_pos c).symm.trans h
    refine jb_seg 1 (pc' := 21) (ls' := [some (.ref 1), some (.int x1), some (.int x2), some (.int x3), none]) (st' := [(.int (-1))]) (σ' := (zE L, M, N)) (G := []) rfl trivial ?_
    obtain rfl := Option.some.inj h
    obtain ⟨rfl, rfl⟩ := hK
    exact jb_reti rfl rfl
  · replace h := (if_neg c).symm.trans h
    refine jb_seg 3 (pc' := 14) (ls' := [some (.ref 1), some (.int x1), some (.int x2), some (.int x3), none]) (st' := [(.int 3), (.int 0), (.int x2)]) (σ' := (zE L, M, N)) (G := []) rfl trivial ?_
    refine jb_callS (q' := zq_23) (As := [(.int x2), (.int 0), (.int 3)]) (rest := []) (σ1 := (zE L, M, N)) (v := some (.int (jb_b2i (zf_23 x2 0 3)))) rfl (Nat.le_of_ble_eq_true rfl) rfl zp_23 (jb_cat rfl) (Nat.le_of_ble_eq_true rfl) (Nat.le_of_ble_eq_true rfl) (Or.inl rfl) rfl (ze_23 x2 0 3 M N rfl) ?_
    refine jb_seg 1 (pc' := (if (jb_b2i (zf_23 x2 0 3)) = 0 then 20 else 22)) (ls' := [some (.ref 1), some (.int x1), some (.int x2), some (.int x3), none]) (st' := []) (σ' := (zE L, M, N)) (G := []) rfl trivial ?_
    refine jb_ite (fun c => ?_) (fun c => ?_)
    · replace h := (if_pos c).symm.trans h
      refine jb_seg 1 (pc' := 21) (ls' := [some (.ref 1), some (.int x1), some (.int x2), some (.int x3), none]) (st' := [(.int (-1))]) (σ' := (zE L, M, N)) (G := []) rfl trivial ?_
      obtain rfl := Option.some.inj h
      obtain ⟨rfl, rfl⟩ := hK
      exact jb_reti rfl rfl
    · replace h := (if_neg c).symm.trans h
      refine jb_seg 7 (pc' := 30) (ls' := [some (.ref 1), some (.int x1), some (.int x2), some (.int x3), some (.int ((x1 * 4) + x2))]) (st' := [(.int x3)]) (σ' := (zE L, M, N)) (G := []) rfl trivial ?_
      refine jb_tsw [(0, 60), (1, 70), (2, 80), (3, 90)] 100 rfl (by decide +kernel) ?_
      refine jb_swc (fun c => ?_) (fun c => ?_)
      · replace h := (if_pos c).symm.trans h
        refine jb_seg 3 (pc' := 66) (ls' := [some (.ref 1), some (.int x1), some (.int x2), some (.int x3), some (.int ((x1 * 4) + x2))]) (st' := [(.int ((x1 * 4) + x2)), (.ref 41)]) (σ' := (zE L, M, N)) (G := []) rfl trivial ?_
        obtain ⟨q2, h2, h⟩ := jb_bd_of h
        refine jb_callV (q' := zq_42) (As := [(.int ((x1 * 4) + x2))]) (rest := []) (σ1 := (zE L, M, N)) (v := some (.int q2)) rfl rfl zp_42 rfl (Nat.le_of_ble_eq_true rfl) (jb_cat rfl) (Nat.le_of_ble_eq_true rfl) (Nat.le_of_ble_eq_true rfl) (Or.inl rfl) rfl (ze_42 (by omega) ((x1 * 4) + x2) M N h2) ?_
        obtain rfl := Option.some.inj h
        obtain ⟨rfl, rfl⟩ := hK
        exact jb_reti rfl rfl
      · replace h := (if_neg c).symm.trans h
        refine jb_swc (fun c => ?_) (fun c => ?_)
        · replace h := (if_pos c).symm.trans h
          refine jb_seg 3 (pc' := 76) (ls' := [some (.ref 1), some (.int x1), some (.int x2), some (.int x3), some (.int ((x1 * 4) + x2))]) (st' := [(.int ((x1 * 4) + x2)), (.ref 41)]) (σ' := (zE L, M, N)) (G := []) rfl trivial ?_
          obtain ⟨q3, h3, h⟩ := jb_bd_of h
          refine jb_callV (q' := zq_43) (As := [(.int ((x1 * 4) + x2))]) (rest := []) (σ1 := (zE L, M, N)) (v := some (.int q3)) rfl rfl zp_43 rfl (Nat.le_of_ble_eq_true rfl) (jb_cat rfl) (Nat.le_of_ble_eq_true rfl) (Nat.le_of_ble_eq_true rfl) (Or.inl rfl) rfl (ze_43 (by omega) ((x1 * 4) + x2) M N h3) ?_
          obtain rfl := Option.some.inj h
          obtain ⟨rfl, rfl⟩ := hK
          exact jb_reti rfl rfl
        · replace h := (if_neg c).symm.trans h
          refine jb_swc (fun c => ?_) (fun c => ?_)
          · replace h := (if_pos c).symm.trans h
            refine jb_seg 3 (pc' := 86) (ls' := [some (.ref 1), some (.int x1), some (.int x2), some (.int x3), some (.int ((x1 * 4) + x2))]) (st' := [(.int ((x1 * 4) + x2)), (.ref 41)]) (σ' := (zE L, M, N)) (G := []) rfl trivial ?_
            obtain ⟨q4, h4, h⟩ := jb_bd_of h
            refine jb_callV (q' := zq_44) (As := [(.int ((x1 * 4) + x2))]) (rest := []) (σ1 := (zE L, M, N)) (v := some (.int q4)) rfl rfl zp_44 rfl (Nat.le_of_ble_eq_true rfl) (jb_cat rfl) (Nat.le_of_ble_eq_true rfl) (Nat.le_of_ble_eq_true rfl) (Or.inl rfl) rfl (ze_44 (by omega) ((x1 * 4) + x2) M N h4) ?_
            obtain rfl := Option.some.inj h
            obtain ⟨rfl, rfl⟩ := hK
            exact jb_reti rfl rfl
          · replace h := (if_neg c).symm.trans h
            refine jb_swc (fun c => ?_) (fun c => ?_)
            · replace h := (if_pos c).symm.trans h
              refine jb_seg 3 (pc' := 96) (ls' := [some (.ref 1), some (.int x1), some (.int x2), some (.int x3), some (.int ((x1 * 4) + x2))]) (st' := [(.int ((x1 * 4) + x2)), (.ref 34)]) (σ' := (zE L, M, N)) (G := []) rfl trivial ?_
              obtain ⟨q5, h5, h⟩ := jb_bd_of h
              refine jb_callV (q' := zq_15) (As := [(.int ((x1 * 4) + x2))]) (rest := []) (σ1 := (zE L, M, N)) (v := some (.int q5)) rfl rfl zp_15 rfl (Nat.le_of_ble_eq_true rfl) (jb_cat rfl) (Nat.le_of_ble_eq_true rfl) (Nat.le_of_ble_eq_true rfl) (Or.inl rfl) rfl (ze_15 ((x1 * 4) + x2) M N h5) ?_
              obtain rfl := Option.some.inj h
              obtain ⟨rfl, rfl⟩ := hK
              exact jb_reti rfl rfl
            · replace h := (if_neg c).symm.trans h
              refine jb_swn ?_
              refine jb_seg 1 (pc' := 101) (ls' := [some (.ref 1), some (.int x1), some (.int x2), some (.int x3), some (.int ((x1 * 4) + x2))]) (st' := [(.int (-1))]) (σ' := (zE L, M, N)) (G := []) rfl trivial ?_
              obtain rfl := Option.some.inj h
              obtain ⟨rfl, rfl⟩ := hK
              exact jb_reti rfl rfl
theorem ze_156 {Γ : jb_G} {L : Nat} {d : Nat} (hd : 4 ≤ d) (x1 : Int32) (x2 : Int32) (x3 : Int32) (M : jb_Mi) (N : jb_Ml) {r : (Int32)} (h : zf_156 x1 x2 x3 M = some r) : jb_V Γ d zq_156 0 (jb_en 5 [(.ref 1), (.int x1), (.int x2), (.int x3)]) [] (zE L, M, N) (some (.int r)) (zE L, M, N) := zg_156 hd x1 x2 x3 M N h ⟨rfl, rfl⟩
-- X12_heaviest
set_option maxRecDepth 20000 in
theorem zg_157 {Γ : jb_G} {L : Nat} {d : Nat} (hd : 4 ≤ d) (x1 : Int32) (M : jb_Mi) (N : jb_Ml) {v : Option Value} {σ2 : jb_S} {r : (Int32)} (h : zf_157 x1 M = some r) (hK : (fun r : Int32 => v = some (.int r) ∧ σ2 = (zE L, M, N)) r) : jb_V Γ d zq_157 0 [some (.ref 1), some (.int x1), none] [] (zE L, M, N) v σ2 := by
  obtain ⟨d, rfl⟩ : ∃ e, d = e + 1 := ⟨d - 1, by omega⟩
  unfold zf_157 at h
  refine jb_seg 3 (pc' := 3) (ls' := [some (.ref 1), some (.int x1), none]) (st' := [(.int 2), (.int 0), (.int x1)]) (σ' := (zE L, M, N)) (G := []) rfl trivial ?_
  refine jb_callS (q' := zq_23) (As := [(.int x1), (.int 0), (.int 2)]) (rest := []) (σ1 := (zE L, M, N)) (v := some (.int (jb_b2i (zf_23 x1 0 2)))) rfl (Nat.le_of_ble_eq_true rfl) rfl zp_23 (jb_cat rfl) (Nat.le_of_ble_eq_true rfl) (Nat.le_of_ble_eq_true rfl) (Or.inl rfl) rfl (ze_23 x1 0 2 M N rfl) ?_
  refine jb_seg 1 (pc' := (if (jb_b2i (zf_23 x1 0 2)) = 0 then 9 else 11)) (ls' := [some (.ref 1), some (.int x1), none]) (st' := []) (σ' := (zE L, M, N)) (G := []) rfl trivial ?_
  refine jb_ite (fun c => ?_) (fun c => ?_)
  · replace h := (if_pos c).symm.trans h
    refine jb_seg 1 (pc' := 10) (ls' := [some (.ref 1), some (.int x1), none]) (st' := [(.int (-1))]) (σ' := (zE L, M, N)) (G := []) rfl trivial ?_
    obtain rfl := Option.some.inj h
    obtain ⟨rfl, rfl⟩ := hK
    exact jb_reti rfl rfl
  · replace h := (if_neg c).symm.trans h
    refine jb_seg 2 (pc' := 15) (ls' := [some (.ref 1), some (.int x1), none]) (st' := [(.ref 4)]) (σ' := (zE L, M, N)) (G := []) rfl trivial ?_
    obtain ⟨q1, h1, h⟩ := jb_bd_of h
    refine jb_callV (q' := zq_109) (As := []) (rest := []) (σ1 := (zE L, M, N)) (v := some (.int q1)) rfl rfl zp_109 rfl (Nat.le_of_ble_eq_true rfl) (jb_cat rfl) (Nat.le_of_ble_eq_true rfl) (Nat.le_of_ble_eq_true rfl) (Or.inl rfl) rfl (ze_109 (by omega) 4 M N (by decide) h1) ?_
    refine jb_seg 3 (pc' := (if q1 < 0 then 23 else 26)) (ls' := [some (.ref 1), some (.int x1), some (.int q1)]) (st' := []) (σ' := (zE L, M, N)) (G := []) rfl trivial ?_
    refine jb_ite (fun c => ?_) (fun c => ?_)
    · replace h := (if_pos c).symm.trans h
      refine jb_seg 1 (pc' := 25) (ls' := [some (.ref 1), some (.int x1), some (.int q1)]) (st' := [(.int (-2))]) (σ' := (zE L, M, N)) (G := []) rfl trivial ?_
      obtain rfl := Option.some.inj h
      obtain ⟨rfl, rfl⟩ := hK
      exact jb_reti rfl rfl
    · replace h := (if_neg c).symm.trans h
      refine jb_seg 1 (pc' := 27) (ls' := [some (.ref 1), some (.int x1), some (.int q1)]) (st' := [(.int x1)]) (σ' := (zE L, M, N)) (G := []) rfl trivial ?_
      refine jb_lsw [(0, 52), (1, 56)] 60 rfl (by decide +kernel) (by decide +kernel) ?_
      refine jb_swc (fun c => ?_) (fun c => ?_)
      · replace h := (if_pos c).symm.trans h
        refine jb_seg 3 (pc' := 55) (ls' := [some (.ref 1), some (.int x1), some (.int q1)]) (st' := [(.int (q1 / 4))]) (σ' := (zE L, M, N)) (G := [¬ (4 : Int32) = 0]) rfl (show ¬ (4 : Int32) = 0 from (by decide)) ?_
        obtain rfl := Option.some.inj h
        obtain ⟨rfl, rfl⟩ := hK
        exact jb_reti rfl rfl
      · replace h := (if_neg c).symm.trans h
        refine jb_swc (fun c => ?_) (fun c => ?_)
        · replace h := (if_pos c).symm.trans h
          refine jb_seg 3 (pc' := 59) (ls' := [some (.ref 1), some (.int x1), some (.int q1)]) (st' := [(.int (q1 - q1 / 4 * 4))]) (σ' := (zE L, M, N)) (G := [¬ (4 : Int32) = 0]) rfl (show ¬ (4 : Int32) = 0 from (by decide)) ?_
          obtain rfl := Option.some.inj h
          obtain ⟨rfl, rfl⟩ := hK
          exact jb_reti rfl rfl
        · replace h := (if_neg c).symm.trans h
          refine jb_swn ?_
          refine jb_seg 8 (pc' := 70) (ls' := [some (.ref 1), some (.int x1), some (.int q1)]) (st' := [(.int (q1 - q1 / 4 * 4)), (.int (q1 / 4)), (.ref 4)]) (σ' := (zE L, M, N)) (G := [¬ (4 : Int32) = 0, ¬ (4 : Int32) = 0]) rfl ⟨(show ¬ (4 : Int32) = 0 from (by decide)), (show ¬ (4 : Int32) = 0 from (by decide))⟩ ?_
          obtain ⟨q2, h2, h⟩ := jb_bd_of h
          refine jb_callV (q' := zq_7) (As := [(.int (q1 / 4)), (.int (q1 - q1 / 4 * 4))]) (rest := []) (σ1 := (zE L, M, N)) (v := some (.int q2)) rfl rfl zp_7 rfl (Nat.le_of_ble_eq_true rfl) (jb_cat rfl) (Nat.le_of_ble_eq_true rfl) (Nat.le_of_ble_eq_true rfl) (Or.inl rfl) rfl (ze_7 (by omega) 4 (q1 / 4) (q1 - q1 / 4 * 4) M N (by decide) h2) ?_
          obtain rfl := Option.some.inj h
          obtain ⟨rfl, rfl⟩ := hK
          exact jb_reti rfl rfl
theorem ze_157 {Γ : jb_G} {L : Nat} {d : Nat} (hd : 4 ≤ d) (x1 : Int32) (M : jb_Mi) (N : jb_Ml) {r : (Int32)} (h : zf_157 x1 M = some r) : jb_V Γ d zq_157 0 (jb_en 3 [(.ref 1), (.int x1)]) [] (zE L, M, N) (some (.int r)) (zE L, M, N) := zg_157 hd x1 M N h ⟨rfl, rfl⟩
