-- X13_roster
set_option maxRecDepth 20000 in
theorem zg_215_H127 {Γ : jb_G} {L : Nat} {d : Nat} (hd : 3 ≤ d) (x5 : Int32) (N : jb_Ml) (s : Int32 × jb_Mi) {v : Option Value} {σ2 : jb_S} {r : ((Int32 × jb_Mi) ⊕ (Int32 × jb_Mi))} (h : zf_215_H127 x5 s = some r) (hK : (jb_K (fun s : Int32 × jb_Mi => jb_V Γ d zq_215 127 [some (.ref 79), none, none, none, none, some (.int x5), some (.int s.1)] [] (zE L, s.2, N) v σ2) (fun r : Int32 × jb_Mi => v = some (.int r.1) ∧ σ2 = (zE L, r.2, N))) r) : jb_V Γ d zq_215 127 [some (.ref 79), none, none, none, none, some (.int x5), some (.int s.1)] [] (zE L, s.2, N) v σ2 := by
  obtain ⟨d, rfl⟩ : ∃ e, d = e + 1 := ⟨d - 1, by omega⟩
  unfold zf_215_H127 at h
  refine jb_seg 4 (pc' := (if s.1 < (s.2 79 33) then 136 else 163)) (ls' := [some (.ref 79), none, none, none, none, some (.int x5), some (.int s.1)]) (st' := []) (σ' := (zE L, s.2, N)) (G := []) rfl trivial ?_
  refine jb_ite (fun c => ?_) (fun c => ?_)
  · replace h := (if_pos c).symm.trans h
    obtain ⟨g3, h⟩ := jb_gd_of h
    obtain ⟨g4, h⟩ := jb_gd_of h
    refine jb_seg 15 (pc' := 127) (ls' := [some (.ref 79), none, none, none, none, some (.int x5), some (.int (s.1 + 1))]) (st' := []) (σ' := (zE L, (jb_up s.2 97 (((48 * x5) + s.1)).toNatClampNeg (((s.2 99 (s.1).toNatClampNeg) : Int32).toInt8.toInt32 : Int32).toInt8.toInt32), N)) (G := [vp_in s.1 48, vp_in ((48 * x5) + s.1) 1152]) rfl ⟨g3, g4⟩ ?_
    obtain rfl := Option.some.inj h
    exact jb_mask [true, false, false, false, false, true, true] rfl hK
  · replace h := (if_neg c).symm.trans h
    refine jb_seg 2 (pc' := 167) (ls' := [some (.ref 79), none, none, none, none, some (.int x5), some (.int s.1)]) (st' := [(.int (s.2 79 33))]) (σ' := (zE L, s.2, N)) (G := []) rfl trivial ?_
    obtain rfl := Option.some.inj h
    obtain ⟨rfl, rfl⟩ := hK
    exact jb_reti rfl rfl
theorem zg_215_H127L {Γ : jb_G} {L : Nat} {d : Nat} (hd : 3 ≤ d) (x5 : Int32) (N : jb_Ml) {v : Option Value} {σ2 : jb_S} {s : Int32 × jb_Mi} {r : (Int32 × jb_Mi)} (h : jb_lp (zf_215_H127 x5) s = some r) (hK : (fun r : Int32 × jb_Mi => v = some (.int r.1) ∧ σ2 = (zE L, r.2, N)) r) : jb_V Γ d zq_215 127 [some (.ref 79), none, none, none, none, some (.int x5), some (.int s.1)] [] (zE L, s.2, N) v σ2 := by
  exact @jb_lp_ind (Int32 × jb_Mi) ((Int32 × jb_Mi)) (zf_215_H127 x5) (fun s => jb_V Γ d zq_215 127 [some (.ref 79), none, none, none, none, some (.int x5), some (.int s.1)] [] (zE L, s.2, N) v σ2) (fun r : Int32 × jb_Mi => v = some (.int r.1) ∧ σ2 = (zE L, r.2, N)) (fun s r h hk => zg_215_H127 hd x5 N s h hk) s r h hK
set_option maxRecDepth 20000 in
theorem zg_215_J91 {Γ : jb_G} {L : Nat} {d : Nat} (hd : 3 ≤ d) (x1 : Int32) (x2 : Int32) (x4 : Int32) (M : jb_Mi) (N : jb_Ml) {v : Option Value} {σ2 : jb_S} {r : (Int32 × jb_Mi)} (h : zf_215_J91 x1 x2 x4 M = some r) (hK : (fun r : Int32 × jb_Mi => v = some (.int r.1) ∧ σ2 = (zE L, r.2, N)) r) : jb_V Γ d zq_215 91 [some (.ref 79), some (.int x1), some (.int x2), none, some (.int x4), none, none] [] (zE L, M, N) v σ2 := by
  obtain ⟨d, rfl⟩ : ∃ e, d = e + 1 := ⟨d - 1, by omega⟩
  unfold zf_215_J91 at h
  refine jb_seg 5 (pc' := (if x4 = 0 then 101 else 106)) (ls' := [some (.ref 79), some (.int x1), some (.int x2), none, some (.int x4), none, none]) (st' := []) (σ' := (zE L, (jb_up M 79 4 0), N)) (G := []) rfl trivial ?_
  refine jb_ite (fun c => ?_) (fun c => ?_)
  · replace h := (if_pos c).symm.trans h
    refine jb_seg 2 (pc' := 105) (ls' := [some (.ref 79), some (.int x1), some (.int x2), none, some (.int x4), none, none]) (st' := [(.int ((jb_up M 79 4 0) 79 7))]) (σ' := (zE L, (jb_up M 79 4 0), N)) (G := []) rfl trivial ?_
    obtain rfl := Option.some.inj h
    obtain ⟨rfl, rfl⟩ := hK
    exact jb_reti rfl rfl
  · replace h := (if_neg c).symm.trans h
    obtain ⟨g2, h⟩ := jb_gd_of h
    refine jb_seg 14 (pc' := 127) (ls' := [some (.ref 79), some (.int x1), some (.int x2), none, some (.int x4), some (.int ((4 * x1) + x2)), some (.int 0)]) (st' := []) (σ' := (zE L, (jb_up (jb_up M 79 4 0) 98 (((4 * x1) + x2)).toNatClampNeg ((jb_up M 79 4 0) 79 33)), N)) (G := [vp_in ((4 * x1) + x2) 24]) rfl g2 ?_
    exact jb_mask [true, false, false, false, false, true, true] rfl (zg_215_H127L hd ((4 * x1) + x2) N h hK)
set_option maxRecDepth 20000 in
theorem zg_215_J82 {Γ : jb_G} {L : Nat} {d : Nat} (hd : 3 ≤ d) (x1 : Int32) (x2 : Int32) (M : jb_Mi) (N : jb_Ml) {v : Option Value} {σ2 : jb_S} {r : ((Int32 × jb_Mi) ⊕ (Int32 × jb_Mi))} (h : zf_215_J82 x1 x2 M = some r) (hK : (jb_K (fun s : Int32 × jb_Mi => jb_V Γ d zq_215 59 [some (.ref 79), some (.int x1), some (.int x2), none, some (.int s.1), none, none] [] (zE L, s.2, N) v σ2) (fun r : Int32 × jb_Mi => v = some (.int r.1) ∧ σ2 = (zE L, r.2, N))) r) : jb_V Γ d zq_215 82 [some (.ref 79), some (.int x1), some (.int x2), none, none, none, none] [] (zE L, M, N) v σ2 := by
  obtain ⟨d, rfl⟩ : ∃ e, d = e + 1 := ⟨d - 1, by omega⟩
  unfold zf_215_J82 at h
  refine jb_seg 1 (pc' := 83) (ls' := [some (.ref 79), some (.int x1), some (.int x2), none, none, none, none]) (st' := [(.ref 79)]) (σ' := (zE L, M, N)) (G := []) rfl trivial ?_
  obtain ⟨q5, h5, h⟩ := jb_bd_of h
  refine jb_callV (q' := zq_214) (As := []) (rest := []) (σ1 := (zE L, q5.2, N)) (v := some (.int (jb_b2i q5.1))) rfl rfl zp_214 rfl (Nat.le_of_ble_eq_true rfl) (jb_cat rfl) (Nat.le_of_ble_eq_true rfl) (Nat.le_of_ble_eq_true rfl) (Or.inl rfl) rfl (ze_214 (by omega) M N h5) ?_
  refine jb_seg 2 (pc' := 59) (ls' := [some (.ref 79), some (.int x1), some (.int x2), none, some (.int (jb_b2i q5.1)), none, none]) (st' := []) (σ' := (zE L, q5.2, N)) (G := []) rfl trivial ?_
  obtain rfl := Option.some.inj h
  exact jb_mask [true, true, true, false, true, false, false] rfl hK
set_option maxRecDepth 20000 in
theorem zg_215_H59 {Γ : jb_G} {L : Nat} {d : Nat} (hd : 3 ≤ d) (x1 : Int32) (x2 : Int32) (N : jb_Ml) (s : Int32 × jb_Mi) {v : Option Value} {σ2 : jb_S} {r : ((Int32 × jb_Mi) ⊕ (Int32 × jb_Mi))} (h : zf_215_H59 x1 x2 s = some r) (hK : (jb_K (fun s : Int32 × jb_Mi => jb_V Γ d zq_215 59 [some (.ref 79), some (.int x1), some (.int x2), none, some (.int s.1), none, none] [] (zE L, s.2, N) v σ2) (fun r : Int32 × jb_Mi => v = some (.int r.1) ∧ σ2 = (zE L, r.2, N))) r) : jb_V Γ d zq_215 59 [some (.ref 79), some (.int x1), some (.int x2), none, some (.int s.1), none, none] [] (zE L, s.2, N) v σ2 := by
  obtain ⟨d, rfl⟩ : ∃ e, d = e + 1 := ⟨d - 1, by omega⟩
  unfold zf_215_H59 at h
  refine jb_seg 2 (pc' := (if s.1 = 0 then 91 else 64)) (ls' := [some (.ref 79), some (.int x1), some (.int x2), none, some (.int s.1), none, none]) (st' := []) (σ' := (zE L, s.2, N)) (G := []) rfl trivial ?_
  refine jb_ite (fun c => ?_) (fun c => ?_)
  · replace h := (if_pos c).symm.trans h
    obtain ⟨y0, hy0, rfl⟩ := jb_mp_of h
    exact jb_mask [true, true, true, false, true, false, false] rfl (zg_215_J91 hd x1 x2 s.1 s.2 N hy0 hK)
  · replace h := (if_neg c).symm.trans h
    refine jb_seg 5 (pc' := (if (s.2 79 5) < (s.2 79 6) then 82 else 75)) (ls' := [some (.ref 79), some (.int x1), some (.int x2), none, some (.int s.1), none, none]) (st' := []) (σ' := (zE L, s.2, N)) (G := []) rfl trivial ?_
    refine jb_ite (fun c => ?_) (fun c => ?_)
    · replace h := (if_pos c).symm.trans h
      exact jb_mask [true, true, true, false, false, false, false] rfl (zg_215_J82 hd x1 x2 s.2 N h hK)
    · replace h := (if_neg c).symm.trans h
      refine jb_seg 3 (pc' := (if 0 < (s.2 79 34) then 82 else 91)) (ls' := [some (.ref 79), some (.int x1), some (.int x2), none, some (.int s.1), none, none]) (st' := []) (σ' := (zE L, s.2, N)) (G := []) rfl trivial ?_
      refine jb_ite (fun c => ?_) (fun c => ?_)
      · replace h := (if_pos c).symm.trans h
        exact jb_mask [true, true, true, false, false, false, false] rfl (zg_215_J82 hd x1 x2 s.2 N h hK)
      · replace h := (if_neg c).symm.trans h
        obtain ⟨y0, hy0, rfl⟩ := jb_mp_of h
        exact jb_mask [true, true, true, false, true, false, false] rfl (zg_215_J91 hd x1 x2 s.1 s.2 N hy0 hK)
theorem zg_215_H59L {Γ : jb_G} {L : Nat} {d : Nat} (hd : 3 ≤ d) (x1 : Int32) (x2 : Int32) (N : jb_Ml) {v : Option Value} {σ2 : jb_S} {s : Int32 × jb_Mi} {r : (Int32 × jb_Mi)} (h : jb_lp (zf_215_H59 x1 x2) s = some r) (hK : (fun r : Int32 × jb_Mi => v = some (.int r.1) ∧ σ2 = (zE L, r.2, N)) r) : jb_V Γ d zq_215 59 [some (.ref 79), some (.int x1), some (.int x2), none, some (.int s.1), none, none] [] (zE L, s.2, N) v σ2 := by
  exact @jb_lp_ind (Int32 × jb_Mi) ((Int32 × jb_Mi)) (zf_215_H59 x1 x2) (fun s => jb_V Γ d zq_215 59 [some (.ref 79), some (.int x1), some (.int x2), none, some (.int s.1), none, none] [] (zE L, s.2, N) v σ2) (fun r : Int32 × jb_Mi => v = some (.int r.1) ∧ σ2 = (zE L, r.2, N)) (fun s r h hk => zg_215_H59 hd x1 x2 N s h hk) s r h hK
set_option maxRecDepth 20000 in
theorem zg_215 {Γ : jb_G} {L : Nat} {d : Nat} (hd : 3 ≤ d) (x1 : Int32) (x2 : Int32) (x3 : Int32) (M : jb_Mi) (N : jb_Ml) {v : Option Value} {σ2 : jb_S} {r : (Int32 × jb_Mi)} (h : zf_215 x1 x2 x3 M = some r) (hK : (fun r : Int32 × jb_Mi => v = some (.int r.1) ∧ σ2 = (zE L, r.2, N)) r) : jb_V Γ d zq_215 0 [some (.ref 79), some (.int x1), some (.int x2), some (.int x3), none, none, none] [] (zE L, M, N) v σ2 := by
  obtain ⟨d, rfl⟩ : ∃ e, d = e + 1 := ⟨d - 1, by omega⟩
  unfold zf_215 at h
  refine jb_seg 3 (pc' := 3) (ls' := [some (.ref 79), some (.int x1), some (.int x2), some (.int x3), none, none, none]) (st' := [(.int 5), (.int 0), (.int x1)]) (σ' := (zE L, M, N)) (G := []) rfl trivial ?_
  refine jb_callS (q' := zq_164) (As := [(.int x1), (.int 0), (.int 5)]) (rest := []) (σ1 := (zE L, M, N)) (v := some (.int (jb_b2i (zf_164 x1 0 5)))) rfl (Nat.le_of_ble_eq_true rfl) rfl zp_164 (jb_cat rfl) (Nat.le_of_ble_eq_true rfl) (Nat.le_of_ble_eq_true rfl) (Or.inl rfl) rfl (ze_164 x1 0 5 M N rfl) ?_
  refine jb_seg 1 (pc' := (if (jb_b2i (zf_164 x1 0 5)) = 0 then 36 else 9)) (ls' := [some (.ref 79), some (.int x1), some (.int x2), some (.int x3), none, none, none]) (st' := []) (σ' := (zE L, M, N)) (G := []) rfl trivial ?_
  refine jb_ite (fun c => ?_) (fun c => ?_)
  · replace h := (if_pos c).symm.trans h
    refine jb_seg 1 (pc' := 37) (ls' := [some (.ref 79), some (.int x1), some (.int x2), some (.int x3), none, none, none]) (st' := [(.int (-1))]) (σ' := (zE L, M, N)) (G := []) rfl trivial ?_
    obtain rfl := Option.some.inj h
    obtain ⟨rfl, rfl⟩ := hK
    exact jb_reti rfl rfl
  · replace h := (if_neg c).symm.trans h
    refine jb_seg 3 (pc' := 12) (ls' := [some (.ref 79), some (.int x1), some (.int x2), some (.int x3), none, none, none]) (st' := [(.int 3), (.int 0), (.int x2)]) (σ' := (zE L, M, N)) (G := []) rfl trivial ?_
    refine jb_callS (q' := zq_164) (As := [(.int x2), (.int 0), (.int 3)]) (rest := []) (σ1 := (zE L, M, N)) (v := some (.int (jb_b2i (zf_164 x2 0 3)))) rfl (Nat.le_of_ble_eq_true rfl) rfl zp_164 (jb_cat rfl) (Nat.le_of_ble_eq_true rfl) (Nat.le_of_ble_eq_true rfl) (Or.inl rfl) rfl (ze_164 x2 0 3 M N rfl) ?_
    refine jb_seg 1 (pc' := (if (jb_b2i (zf_164 x2 0 3)) = 0 then 36 else 18)) (ls' := [some (.ref 79), some (.int x1), some (.int x2), some (.int x3), none, none, none]) (st' := []) (σ' := (zE L, M, N)) (G := []) rfl trivial ?_
    refine jb_ite (fun c => ?_) (fun c => ?_)
    · replace h := (if_pos c).symm.trans h
      refine jb_seg 1 (pc' := 37) (ls' := [some (.ref 79), some (.int x1), some (.int x2), some (.int x3), none, none, none]) (st' := [(.int (-1))]) (σ' := (zE L, M, N)) (G := []) rfl trivial ?_
      obtain rfl := Option.some.inj h
      obtain ⟨rfl, rfl⟩ := hK
      exact jb_reti rfl rfl
    · replace h := (if_neg c).symm.trans h
      refine jb_seg 3 (pc' := 22) (ls' := [some (.ref 79), some (.int x1), some (.int x2), some (.int x3), none, none, none]) (st' := [(.int 40), (.int 1), (.int x3)]) (σ' := (zE L, M, N)) (G := []) rfl trivial ?_
      refine jb_callS (q' := zq_164) (As := [(.int x3), (.int 1), (.int 40)]) (rest := []) (σ1 := (zE L, M, N)) (v := some (.int (jb_b2i (zf_164 x3 1 40)))) rfl (Nat.le_of_ble_eq_true rfl) rfl zp_164 (jb_cat rfl) (Nat.le_of_ble_eq_true rfl) (Nat.le_of_ble_eq_true rfl) (Or.inl rfl) rfl (ze_164 x3 1 40 M N rfl) ?_
      refine jb_seg 1 (pc' := (if (jb_b2i (zf_164 x3 1 40)) = 0 then 36 else 28)) (ls' := [some (.ref 79), some (.int x1), some (.int x2), some (.int x3), none, none, none]) (st' := []) (σ' := (zE L, M, N)) (G := []) rfl trivial ?_
      refine jb_ite (fun c => ?_) (fun c => ?_)
      · replace h := (if_pos c).symm.trans h
        refine jb_seg 1 (pc' := 37) (ls' := [some (.ref 79), some (.int x1), some (.int x2), some (.int x3), none, none, none]) (st' := [(.int (-1))]) (σ' := (zE L, M, N)) (G := []) rfl trivial ?_
        obtain rfl := Option.some.inj h
        obtain ⟨rfl, rfl⟩ := hK
        exact jb_reti rfl rfl
      · replace h := (if_neg c).symm.trans h
        refine jb_seg 4 (pc' := (if (M 79 4) < x3 then 36 else 38)) (ls' := [some (.ref 79), some (.int x1), some (.int x2), some (.int x3), none, none, none]) (st' := []) (σ' := (zE L, M, N)) (G := []) rfl trivial ?_
        refine jb_ite (fun c => ?_) (fun c => ?_)
        · replace h := (if_pos c).symm.trans h
          refine jb_seg 1 (pc' := 37) (ls' := [some (.ref 79), some (.int x1), some (.int x2), some (.int x3), none, none, none]) (st' := [(.int (-1))]) (σ' := (zE L, M, N)) (G := []) rfl trivial ?_
          obtain rfl := Option.some.inj h
          obtain ⟨rfl, rfl⟩ := hK
          exact jb_reti rfl rfl
        · replace h := (if_neg c).symm.trans h
          refine jb_seg 2 (pc' := 40) (ls' := [some (.ref 79), some (.int x1), some (.int x2), some (.int x3), none, none, none]) (st' := [(.int x3), (.ref 79)]) (σ' := (zE L, M, N)) (G := []) rfl trivial ?_
          refine jb_callV (q' := zq_204) (As := [(.int x3)]) (rest := []) (σ1 := (zE L, (zf_204 x3 M), N)) (v := none) rfl rfl zp_204 rfl (Nat.le_of_ble_eq_true rfl) (jb_cat rfl) (Nat.le_of_ble_eq_true rfl) (Nat.le_of_ble_eq_true rfl) (Or.inl rfl) rfl (ze_204 x3 M N rfl) ?_
          refine jb_seg 7 (pc' := 54) (ls' := [some (.ref 79), some (.int x1), some (.int x2), some (.int x3), none, none, none]) (st' := [(.ref 79)]) (σ' := (zE L, (jb_up (jb_up (zf_204 x3 M) 79 33 0) 79 34 0), N)) (G := []) rfl trivial ?_
          obtain ⟨q1, h1, h⟩ := jb_bd_of h
          refine jb_callV (q' := zq_214) (As := []) (rest := []) (σ1 := (zE L, q1.2, N)) (v := some (.int (jb_b2i q1.1))) rfl rfl zp_214 rfl (Nat.le_of_ble_eq_true rfl) (jb_cat rfl) (Nat.le_of_ble_eq_true rfl) (Nat.le_of_ble_eq_true rfl) (Or.inl rfl) rfl (ze_214 (by omega) (jb_up (jb_up (zf_204 x3 M) 79 33 0) 79 34 0) N h1) ?_
          refine jb_seg 1 (pc' := 59) (ls' := [some (.ref 79), some (.int x1), some (.int x2), some (.int x3), some (.int (jb_b2i q1.1)), none, none]) (st' := []) (σ' := (zE L, q1.2, N)) (G := []) rfl trivial ?_
          exact jb_mask [true, true, true, false, true, false, false] rfl (zg_215_H59L hd x1 x2 N h hK)
theorem ze_215 {Γ : jb_G} {L : Nat} {d : Nat} (hd : 3 ≤ d) (x1 : Int32) (x2 : Int32) (x3 : Int32) (M : jb_Mi) (N : jb_Ml) {r : (Int32 × jb_Mi)} (h : zf_215 x1 x2 x3 M = some r) : jb_V Γ d zq_215 0 (jb_en 7 [(.ref 79), (.int x1), (.int x2), (.int x3)]) [] (zE L, M, N) (some (.int r.1)) (zE L, r.2, N) := zg_215 hd x1 x2 x3 M N h ⟨rfl, rfl⟩
-- X13_dutyAt
set_option maxRecDepth 20000 in
theorem zg_216 {Γ : jb_G} {L : Nat} {d : Nat} (hd : 2 ≤ d) (x1 : Int32) (x2 : Int32) (M : jb_Mi) (N : jb_Ml) {v : Option Value} {σ2 : jb_S} {r : (Int32)} (h : zf_216 x1 x2 M = some r) (hK : (fun r : Int32 => v = some (.int r) ∧ σ2 = (zE L, M, N)) r) : jb_V Γ d zq_216 0 [some (.ref 79), some (.int x1), some (.int x2), none] [] (zE L, M, N) v σ2 := by
  obtain ⟨d, rfl⟩ : ∃ e, d = e + 1 := ⟨d - 1, by omega⟩
  unfold zf_216 at h
  obtain ⟨g1, h⟩ := jb_gd_of h
  refine jb_seg 5 (pc' := (if (M 98 x1.toNatClampNeg) = 0 then 9 else 11)) (ls' := [some (.ref 79), some (.int x1), some (.int x2), none]) (st' := []) (σ' := (zE L, M, N)) (G := [vp_in x1 24]) rfl g1 ?_
  refine jb_ite (fun c => ?_) (fun c => ?_)
  · replace h := (if_pos c).symm.trans h
    refine jb_seg 1 (pc' := 10) (ls' := [some (.ref 79), some (.int x1), some (.int x2), none]) (st' := [(.int (-1))]) (σ' := (zE L, M, N)) (G := []) rfl trivial ?_
    obtain rfl := Option.some.inj h
    obtain ⟨rfl, rfl⟩ := hK
    exact jb_reti rfl rfl
  · replace h := (if_neg c).symm.trans h
    obtain ⟨g2, h⟩ := jb_gd_of h
    obtain ⟨g3, h⟩ := jb_g0_of h
    obtain ⟨g4, h⟩ := jb_gd_of h
    refine jb_seg 28 (pc' := 53) (ls' := [some (.ref 79), some (.int x1), some (.int x2), some (.int (M 97 (((48 * x1) + ((((24 * (M 80 147)) + (M 80 146)) + x2) - (((24 * (M 80 147)) + (M 80 146)) + x2) / (M 98 x1.toNatClampNeg) * (M 98 x1.toNatClampNeg)))).toNatClampNeg))]) (st' := [(.int (M 97 (((48 * x1) + ((((24 * (M 80 147)) + (M 80 146)) + x2) - (((24 * (M 80 147)) + (M 80 146)) + x2) / (M 98 x1.toNatClampNeg) * (M 98 x1.toNatClampNeg)))).toNatClampNeg)), (.ref 79)]) (σ' := (zE L, M, N)) (G := [vp_in 147 149, vp_in 146 149, vp_in x1 24, ¬ ((M 98 x1.toNatClampNeg) : Int32) = 0, vp_in ((48 * x1) + ((((24 * (M 80 147)) + (M 80 146)) + x2) - (((24 * (M 80 147)) + (M 80 146)) + x2) / (M 98 x1.toNatClampNeg) * (M 98 x1.toNatClampNeg))) 1152]) rfl ⟨(show vp_in 147 149 from (by unfold vp_in; decide)), (show vp_in 146 149 from (by unfold vp_in; decide)), g2, g3, g4⟩ ?_
    obtain ⟨q5, h5, h⟩ := jb_bd_of h
    refine jb_callV (q' := zq_174) (As := [(.int (M 97 (((48 * x1) + ((((24 * (M 80 147)) + (M 80 146)) + x2) - (((24 * (M 80 147)) + (M 80 146)) + x2) / (M 98 x1.toNatClampNeg) * (M 98 x1.toNatClampNeg)))).toNatClampNeg))]) (rest := []) (σ1 := (zE L, M, N)) (v := some (.int (jb_b2i q5))) rfl rfl zp_174 rfl (Nat.le_of_ble_eq_true rfl) (jb_cat rfl) (Nat.le_of_ble_eq_true rfl) (Nat.le_of_ble_eq_true rfl) (Or.inl rfl) rfl (ze_174 (by omega) (M 97 (((48 * x1) + ((((24 * (M 80 147)) + (M 80 146)) + x2) - (((24 * (M 80 147)) + (M 80 146)) + x2) / (M 98 x1.toNatClampNeg) * (M 98 x1.toNatClampNeg)))).toNatClampNeg) M N h5) ?_
    refine jb_seg 1 (pc' := (if (jb_b2i q5) = 0 then 63 else 59)) (ls' := [some (.ref 79), some (.int x1), some (.int x2), some (.int (M 97 (((48 * x1) + ((((24 * (M 80 147)) + (M 80 146)) + x2) - (((24 * (M 80 147)) + (M 80 146)) + x2) / (M 98 x1.toNatClampNeg) * (M 98 x1.toNatClampNeg)))).toNatClampNeg))]) (st' := []) (σ' := (zE L, M, N)) (G := []) rfl trivial ?_
    refine jb_ite (fun c => ?_) (fun c => ?_)
    · replace h := (if_pos c).symm.trans h
      refine jb_seg 1 (pc' := 64) (ls' := [some (.ref 79), some (.int x1), some (.int x2), some (.int (M 97 (((48 * x1) + ((((24 * (M 80 147)) + (M 80 146)) + x2) - (((24 * (M 80 147)) + (M 80 146)) + x2) / (M 98 x1.toNatClampNeg) * (M 98 x1.toNatClampNeg)))).toNatClampNeg))]) (st' := [(.int (-1))]) (σ' := (zE L, M, N)) (G := []) rfl trivial ?_
      obtain rfl := Option.some.inj h
      obtain ⟨rfl, rfl⟩ := hK
      exact jb_reti rfl rfl
    · replace h := (if_neg c).symm.trans h
      refine jb_seg 2 (pc' := 64) (ls' := [some (.ref 79), some (.int x1), some (.int x2), some (.int (M 97 (((48 * x1) + ((((24 * (M 80 147)) + (M 80 146)) + x2) - (((24 * (M 80 147)) + (M 80 146)) + x2) / (M 98 x1.toNatClampNeg) * (M 98 x1.toNatClampNeg)))).toNatClampNeg))]) (st' := [(.int (M 97 (((48 * x1) + ((((24 * (M 80 147)) + (M 80 146)) + x2) - (((24 * (M 80 147)) + (M 80 146)) + x2) / (M 98 x1.toNatClampNeg) * (M 98 x1.toNatClampNeg)))).toNatClampNeg))]) (σ' := (zE L, M, N)) (G := []) rfl trivial ?_
      obtain rfl := Option.some.inj h
      obtain ⟨rfl, rfl⟩ := hK
      exact jb_reti rfl rfl
theorem ze_216 {Γ : jb_G} {L : Nat} {d : Nat} (hd : 2 ≤ d) (x1 : Int32) (x2 : Int32) (M : jb_Mi) (N : jb_Ml) {r : (Int32)} (h : zf_216 x1 x2 M = some r) : jb_V Γ d zq_216 0 (jb_en 4 [(.ref 79), (.int x1), (.int x2)]) [] (zE L, M, N) (some (.int r)) (zE L, M, N) := zg_216 hd x1 x2 M N h ⟨rfl, rfl⟩
-- X13_duty
set_option maxRecDepth 20000 in
theorem zg_217 {Γ : jb_G} {L : Nat} {d : Nat} (hd : 3 ≤ d) (x1 : Int32) (x2 : Int32) (M : jb_Mi) (N : jb_Ml) {v : Option Value} {σ2 : jb_S} {r : (Int32)} (h : zf_217 x1 x2 M = some r) (hK : (fun r : Int32 => v = some (.int r) ∧ σ2 = (zE L, M, N)) r) : jb_V Γ d zq_217 0 [some (.ref 79), some (.int x1), some (.int x2), none] [] (zE L, M, N) v σ2 := by
  obtain ⟨d, rfl⟩ : ∃ e, d = e + 1 := ⟨d - 1, by omega⟩
  unfold zf_217 at h
  refine jb_seg 2 (pc' := 2) (ls' := [some (.ref 79), some (.int x1), some (.int x2), none]) (st' := [(.int x1), (.ref 79)]) (σ' := (zE L, M, N)) (G := []) rfl trivial ?_
  obtain ⟨q1, h1, h⟩ := jb_bd_of h
  refine jb_callV (q' := zq_171) (As := [(.int x1)]) (rest := []) (σ1 := (zE L, M, N)) (v := some (.int (jb_b2i q1))) rfl rfl zp_171 rfl (Nat.le_of_ble_eq_true rfl) (jb_cat rfl) (Nat.le_of_ble_eq_true rfl) (Nat.le_of_ble_eq_true rfl) (Or.inl rfl) rfl (ze_171 (by omega) x1 M N h1) ?_
  refine jb_seg 1 (pc' := (if (jb_b2i q1) = 0 then 17 else 8)) (ls' := [some (.ref 79), some (.int x1), some (.int x2), none]) (st' := []) (σ' := (zE L, M, N)) (G := []) rfl trivial ?_
  refine jb_ite (fun c => ?_) (fun c => ?_)
  · replace h := (if_pos c).symm.trans h
    refine jb_seg 1 (pc' := 18) (ls' := [some (.ref 79), some (.int x1), some (.int x2), none]) (st' := [(.int (-1))]) (σ' := (zE L, M, N)) (G := []) rfl trivial ?_
    obtain rfl := Option.some.inj h
    obtain ⟨rfl, rfl⟩ := hK
    exact jb_reti rfl rfl
  · replace h := (if_neg c).symm.trans h
    refine jb_seg 3 (pc' := 11) (ls' := [some (.ref 79), some (.int x1), some (.int x2), none]) (st' := [(.int 3), (.int 0), (.int x2)]) (σ' := (zE L, M, N)) (G := []) rfl trivial ?_
    refine jb_callS (q' := zq_164) (As := [(.int x2), (.int 0), (.int 3)]) (rest := []) (σ1 := (zE L, M, N)) (v := some (.int (jb_b2i (zf_164 x2 0 3)))) rfl (Nat.le_of_ble_eq_true rfl) rfl zp_164 (jb_cat rfl) (Nat.le_of_ble_eq_true rfl) (Nat.le_of_ble_eq_true rfl) (Or.inl rfl) rfl (ze_164 x2 0 3 M N rfl) ?_
    refine jb_seg 1 (pc' := (if (jb_b2i (zf_164 x2 0 3)) = 0 then 17 else 19)) (ls' := [some (.ref 79), some (.int x1), some (.int x2), none]) (st' := []) (σ' := (zE L, M, N)) (G := []) rfl trivial ?_
    refine jb_ite (fun c => ?_) (fun c => ?_)
    · replace h := (if_pos c).symm.trans h
      refine jb_seg 1 (pc' := 18) (ls' := [some (.ref 79), some (.int x1), some (.int x2), none]) (st' := [(.int (-1))]) (σ' := (zE L, M, N)) (G := []) rfl trivial ?_
      obtain rfl := Option.some.inj h
      obtain ⟨rfl, rfl⟩ := hK
      exact jb_reti rfl rfl
    · replace h := (if_neg c).symm.trans h
      refine jb_seg 7 (pc' := 26) (ls' := [some (.ref 79), some (.int x1), some (.int x2), none]) (st' := [(.int 0), (.int ((4 * x1) + x2)), (.ref 79)]) (σ' := (zE L, M, N)) (G := []) rfl trivial ?_
      obtain ⟨q2, h2, h⟩ := jb_bd_of h
      refine jb_callV (q' := zq_216) (As := [(.int ((4 * x1) + x2)), (.int 0)]) (rest := []) (σ1 := (zE L, M, N)) (v := some (.int q2)) rfl rfl zp_216 rfl (Nat.le_of_ble_eq_true rfl) (jb_cat rfl) (Nat.le_of_ble_eq_true rfl) (Nat.le_of_ble_eq_true rfl) (Or.inl rfl) rfl (ze_216 (by omega) ((4 * x1) + x2) 0 M N h2) ?_
      refine jb_seg 4 (pc' := (if q2 = (-1) then 35 else 40)) (ls' := [some (.ref 79), some (.int x1), some (.int x2), some (.int q2)]) (st' := []) (σ' := (zE L, M, N)) (G := []) rfl trivial ?_
      refine jb_ite (fun c => ?_) (fun c => ?_)
      · replace h := (if_pos c).symm.trans h
        refine jb_seg 2 (pc' := 41) (ls' := [some (.ref 79), some (.int x1), some (.int x2), some (.int q2)]) (st' := [(.int (-2))]) (σ' := (zE L, M, N)) (G := []) rfl trivial ?_
        obtain rfl := Option.some.inj h
        obtain ⟨rfl, rfl⟩ := hK
        exact jb_reti rfl rfl
      · replace h := (if_neg c).symm.trans h
        refine jb_seg 1 (pc' := 41) (ls' := [some (.ref 79), some (.int x1), some (.int x2), some (.int q2)]) (st' := [(.int q2)]) (σ' := (zE L, M, N)) (G := []) rfl trivial ?_
        obtain rfl := Option.some.inj h
        obtain ⟨rfl, rfl⟩ := hK
        exact jb_reti rfl rfl
theorem ze_217 {Γ : jb_G} {L : Nat} {d : Nat} (hd : 3 ≤ d) (x1 : Int32) (x2 : Int32) (M : jb_Mi) (N : jb_Ml) {r : (Int32)} (h : zf_217 x1 x2 M = some r) : jb_V Γ d zq_217 0 (jb_en 4 [(.ref 79), (.int x1), (.int x2)]) [] (zE L, M, N) (some (.int r)) (zE L, M, N) := zg_217 hd x1 x2 M N h ⟨rfl, rfl⟩
-- X13_readsAmount
set_option maxRecDepth 20000 in
theorem zg_218_H27 {Γ : jb_G} {L : Nat} {d : Nat} (hd : 2 ≤ d) (x1 : Int32) (N : jb_Ml) (s : jb_Mi) {v : Option Value} {σ2 : jb_S} {r : ((jb_Mi) ⊕ (Bool × jb_Mi))} (h : zf_218_H27 x1 s = some r) (hK : (jb_K (fun s : jb_Mi => jb_V Γ d zq_218 27 [some (.ref 79), some (.int x1)] [] (zE L, s, N) v σ2) (fun r : Bool × jb_Mi => v = some (.int (jb_b2i r.1)) ∧ σ2 = (zE L, r.2, N))) r) : jb_V Γ d zq_218 27 [some (.ref 79), some (.int x1)] [] (zE L, s, N) v σ2 := by
  obtain ⟨d, rfl⟩ : ∃ e, d = e + 1 := ⟨d - 1, by omega⟩
  unfold zf_218_H27 at h
  refine jb_seg 1 (pc' := 28) (ls' := [some (.ref 79), some (.int x1)]) (st' := [(.ref 79)]) (σ' := (zE L, s, N)) (G := []) rfl trivial ?_
  obtain ⟨q2, h2, h⟩ := jb_bd_of h
  refine jb_callV (q' := zq_185) (As := []) (rest := []) (σ1 := (zE L, s, N)) (v := some (.int (jb_b2i q2))) rfl rfl zp_185 rfl (Nat.le_of_ble_eq_true rfl) (jb_cat rfl) (Nat.le_of_ble_eq_true rfl) (Nat.le_of_ble_eq_true rfl) (Or.inl rfl) rfl (ze_185 (by omega) s N h2) ?_
  refine jb_seg 1 (pc' := (if (jb_b2i q2) = 0 then 86 else 34)) (ls' := [some (.ref 79), some (.int x1)]) (st' := []) (σ' := (zE L, s, N)) (G := []) rfl trivial ?_
  refine jb_ite (fun c => ?_) (fun c => ?_)
  · replace h := (if_pos c).symm.trans h
    refine jb_seg 1 (pc' := 87) (ls' := [some (.ref 79), some (.int x1)]) (st' := [(.int 1)]) (σ' := (zE L, s, N)) (G := []) rfl trivial ?_
    obtain rfl := Option.some.inj h
    obtain ⟨rfl, rfl⟩ := hK
    exact jb_retz (by decide) rfl rfl
  · replace h := (if_neg c).symm.trans h
    refine jb_seg 6 (pc' := (if (s 79 5) = (x1 + 2) then 44 else 54)) (ls' := [some (.ref 79), some (.int x1)]) (st' := []) (σ' := (zE L, s, N)) (G := []) rfl trivial ?_
    refine jb_ite (fun c => ?_) (fun c => ?_)
    · replace h := (if_pos c).symm.trans h
      refine jb_seg 4 (pc' := 50) (ls' := [some (.ref 79), some (.int x1)]) (st' := [(.int (s 79 5)), (.int 2), (.ref 79)]) (σ' := (zE L, s, N)) (G := []) rfl trivial ?_
      refine jb_callV (q' := zq_186) (As := [(.int 2), (.int (s 79 5))]) (rest := []) (σ1 := (zE L, (zf_186 2 (s 79 5) s).2, N)) (v := some (.int (jb_b2i (zf_186 2 (s 79 5) s).1))) rfl rfl zp_186 rfl (Nat.le_of_ble_eq_true rfl) (jb_cat rfl) (Nat.le_of_ble_eq_true rfl) (Nat.le_of_ble_eq_true rfl) (Or.inl rfl) rfl (ze_186 2 (s 79 5) s N rfl) ?_
      obtain rfl := Option.some.inj h
      obtain ⟨rfl, rfl⟩ := hK
      exact jb_retz (jb_b2i_or _) rfl rfl
    · replace h := (if_neg c).symm.trans h
      refine jb_seg 6 (pc' := 63) (ls' := [some (.ref 79), some (.int x1)]) (st' := [(.ref 79), (.int (10 * (s 79 8))), (.ref 79)]) (σ' := (zE L, s, N)) (G := []) rfl trivial ?_
      obtain ⟨q3, h3, h⟩ := jb_bd_of h
      refine jb_callV (q' := zq_184) (As := []) (rest := [(.int (10 * (s 79 8))), (.ref 79)]) (σ1 := (zE L, s, N)) (v := some (.int q3)) rfl rfl zp_184 rfl (Nat.le_of_ble_eq_true rfl) (jb_cat rfl) (Nat.le_of_ble_eq_true rfl) (Nat.le_of_ble_eq_true rfl) (Or.inl rfl) rfl (ze_184 s N h3) ?_
      refine jb_seg 11 (pc' := 27) (ls' := [some (.ref 79), some (.int x1)]) (st' := []) (σ' := (zE L, (jb_up (jb_up s 79 8 (((10 * (s 79 8)) + q3) - 48)) 79 5 (((jb_up s 79 8 (((10 * (s 79 8)) + q3) - 48)) 79 5) + 1)), N)) (G := []) rfl trivial ?_
      obtain rfl := Option.some.inj h
      exact jb_mask [true, true] rfl hK
theorem zg_218_H27L {Γ : jb_G} {L : Nat} {d : Nat} (hd : 2 ≤ d) (x1 : Int32) (N : jb_Ml) {v : Option Value} {σ2 : jb_S} {s : jb_Mi} {r : (Bool × jb_Mi)} (h : jb_lp (zf_218_H27 x1) s = some r) (hK : (fun r : Bool × jb_Mi => v = some (.int (jb_b2i r.1)) ∧ σ2 = (zE L, r.2, N)) r) : jb_V Γ d zq_218 27 [some (.ref 79), some (.int x1)] [] (zE L, s, N) v σ2 := by
  exact @jb_lp_ind (jb_Mi) ((Bool × jb_Mi)) (zf_218_H27 x1) (fun s => jb_V Γ d zq_218 27 [some (.ref 79), some (.int x1)] [] (zE L, s, N) v σ2) (fun r : Bool × jb_Mi => v = some (.int (jb_b2i r.1)) ∧ σ2 = (zE L, r.2, N)) (fun s r h hk => zg_218_H27 hd x1 N s h hk) s r h hK
set_option maxRecDepth 20000 in
theorem zg_218 {Γ : jb_G} {L : Nat} {d : Nat} (hd : 2 ≤ d) (M : jb_Mi) (N : jb_Ml) {v : Option Value} {σ2 : jb_S} {r : (Bool × jb_Mi)} (h : zf_218 M = some r) (hK : (fun r : Bool × jb_Mi => v = some (.int (jb_b2i r.1)) ∧ σ2 = (zE L, r.2, N)) r) : jb_V Γ d zq_218 0 [some (.ref 79), none] [] (zE L, M, N) v σ2 := by
  obtain ⟨d, rfl⟩ : ∃ e, d = e + 1 := ⟨d - 1, by omega⟩
  unfold zf_218 at h
  refine jb_seg 4 (pc' := 6) (ls' := [some (.ref 79), some (.int (M 79 5))]) (st' := [(.ref 79)]) (σ' := (zE L, M, N)) (G := []) rfl trivial ?_
  obtain ⟨q1, h1, h⟩ := jb_bd_of h
  refine jb_callV (q' := zq_185) (As := []) (rest := []) (σ1 := (zE L, M, N)) (v := some (.int (jb_b2i q1))) rfl rfl zp_185 rfl (Nat.le_of_ble_eq_true rfl) (jb_cat rfl) (Nat.le_of_ble_eq_true rfl) (Nat.le_of_ble_eq_true rfl) (Or.inl rfl) rfl (ze_185 (by omega) M N h1) ?_
  refine jb_seg 1 (pc' := (if (jb_b2i q1) = 0 then 12 else 22)) (ls' := [some (.ref 79), some (.int (M 79 5))]) (st' := []) (σ' := (zE L, M, N)) (G := []) rfl trivial ?_
  refine jb_ite (fun c => ?_) (fun c => ?_)
  · replace h := (if_pos c).symm.trans h
    refine jb_seg 4 (pc' := 18) (ls' := [some (.ref 79), some (.int (M 79 5))]) (st' := [(.int (M 79 5)), (.int 1), (.ref 79)]) (σ' := (zE L, M, N)) (G := []) rfl trivial ?_
    refine jb_callV (q' := zq_186) (As := [(.int 1), (.int (M 79 5))]) (rest := []) (σ1 := (zE L, (zf_186 1 (M 79 5) M).2, N)) (v := some (.int (jb_b2i (zf_186 1 (M 79 5) M).1))) rfl rfl zp_186 rfl (Nat.le_of_ble_eq_true rfl) (jb_cat rfl) (Nat.le_of_ble_eq_true rfl) (Nat.le_of_ble_eq_true rfl) (Or.inl rfl) rfl (ze_186 1 (M 79 5) M N rfl) ?_
    obtain rfl := Option.some.inj h
    obtain ⟨rfl, rfl⟩ := hK
    exact jb_retz (jb_b2i_or _) rfl rfl
  · replace h := (if_neg c).symm.trans h
    refine jb_seg 3 (pc' := 27) (ls' := [some (.ref 79), some (.int (M 79 5))]) (st' := []) (σ' := (zE L, (jb_up M 79 8 0), N)) (G := []) rfl trivial ?_
    exact jb_mask [true, true] rfl (zg_218_H27L hd (M 79 5) N h hK)
theorem ze_218 {Γ : jb_G} {L : Nat} {d : Nat} (hd : 2 ≤ d) (M : jb_Mi) (N : jb_Ml) {r : (Bool × jb_Mi)} (h : zf_218 M = some r) : jb_V Γ d zq_218 0 (jb_en 2 [(.ref 79)]) [] (zE L, M, N) (some (.int (jb_b2i r.1))) (zE L, r.2, N) := zg_218 hd M N h ⟨rfl, rfl⟩
-- X13_readsSpot
set_option maxRecDepth 20000 in
theorem zg_219 {Γ : jb_G} {L : Nat} {d : Nat} (hd : 1 ≤ d) (M : jb_Mi) (N : jb_Ml) {v : Option Value} {σ2 : jb_S} {r : (Bool × jb_Mi)} (h : zf_219 M = some r) (hK : (fun r : Bool × jb_Mi => v = some (.int (jb_b2i r.1)) ∧ σ2 = (zE L, r.2, N)) r) : jb_V Γ d zq_219 0 [some (.ref 79)] [] (zE L, M, N) v σ2 := by
  obtain ⟨d, rfl⟩ : ∃ e, d = e + 1 := ⟨d - 1, by omega⟩
  unfold zf_219 at h
  refine jb_seg 1 (pc' := 1) (ls' := [some (.ref 79)]) (st' := [(.ref 79)]) (σ' := (zE L, M, N)) (G := []) rfl trivial ?_
  obtain ⟨q1, h1, h⟩ := jb_bd_of h
  refine jb_callV (q' := zq_184) (As := []) (rest := []) (σ1 := (zE L, M, N)) (v := some (.int q1)) rfl rfl zp_184 rfl (Nat.le_of_ble_eq_true rfl) (jb_cat rfl) (Nat.le_of_ble_eq_true rfl) (Nat.le_of_ble_eq_true rfl) (Or.inl rfl) rfl (ze_184 M N h1) ?_
  refine jb_seg 2 (pc' := 8) (ls' := [some (.ref 79)]) (st' := [(.int 56), (.int 48), (.int q1)]) (σ' := (zE L, M, N)) (G := []) rfl trivial ?_
  refine jb_callS (q' := zq_164) (As := [(.int q1), (.int 48), (.int 56)]) (rest := []) (σ1 := (zE L, M, N)) (v := some (.int (jb_b2i (zf_164 q1 48 56)))) rfl (Nat.le_of_ble_eq_true rfl) rfl zp_164 (jb_cat rfl) (Nat.le_of_ble_eq_true rfl) (Nat.le_of_ble_eq_true rfl) (Or.inl rfl) rfl (ze_164 q1 48 56 M N rfl) ?_
  refine jb_seg 1 (pc' := (if (jb_b2i (zf_164 q1 48 56)) = 0 then 14 else 24)) (ls' := [some (.ref 79)]) (st' := []) (σ' := (zE L, M, N)) (G := []) rfl trivial ?_
  refine jb_ite (fun c => ?_) (fun c => ?_)
  · replace h := (if_pos c).symm.trans h
    refine jb_seg 4 (pc' := 20) (ls' := [some (.ref 79)]) (st' := [(.int (M 79 5)), (.int 1), (.ref 79)]) (σ' := (zE L, M, N)) (G := []) rfl trivial ?_
    refine jb_callV (q' := zq_186) (As := [(.int 1), (.int (M 79 5))]) (rest := []) (σ1 := (zE L, (zf_186 1 (M 79 5) M).2, N)) (v := some (.int (jb_b2i (zf_186 1 (M 79 5) M).1))) rfl rfl zp_186 rfl (Nat.le_of_ble_eq_true rfl) (jb_cat rfl) (Nat.le_of_ble_eq_true rfl) (Nat.le_of_ble_eq_true rfl) (Or.inl rfl) rfl (ze_186 1 (M 79 5) M N rfl) ?_
    obtain rfl := Option.some.inj h
    obtain ⟨rfl, rfl⟩ := hK
    exact jb_retz (jb_b2i_or _) rfl rfl
  · replace h := (if_neg c).symm.trans h
    refine jb_seg 2 (pc' := 26) (ls' := [some (.ref 79)]) (st' := [(.ref 79), (.ref 79)]) (σ' := (zE L, M, N)) (G := []) rfl trivial ?_
    obtain ⟨q2, h2, h⟩ := jb_bd_of h
    refine jb_callV (q' := zq_184) (As := []) (rest := [(.ref 79)]) (σ1 := (zE L, M, N)) (v := some (.int q2)) rfl rfl zp_184 rfl (Nat.le_of_ble_eq_true rfl) (jb_cat rfl) (Nat.le_of_ble_eq_true rfl) (Nat.le_of_ble_eq_true rfl) (Or.inl rfl) rfl (ze_184 M N h2) ?_
    refine jb_seg 10 (pc' := 46) (ls' := [some (.ref 79)]) (st' := [(.int 1)]) (σ' := (zE L, (jb_up (jb_up M 79 8 (q2 - 48)) 79 5 (((jb_up M 79 8 (q2 - 48)) 79 5) + 1)), N)) (G := []) rfl trivial ?_
    obtain rfl := Option.some.inj h
    obtain ⟨rfl, rfl⟩ := hK
    exact jb_retz (by decide) rfl rfl
theorem ze_219 {Γ : jb_G} {L : Nat} {d : Nat} (hd : 1 ≤ d) (M : jb_Mi) (N : jb_Ml) {r : (Bool × jb_Mi)} (h : zf_219 M = some r) : jb_V Γ d zq_219 0 (jb_en 1 [(.ref 79)]) [] (zE L, M, N) (some (.int (jb_b2i r.1))) (zE L, r.2, N) := zg_219 hd M N h ⟨rfl, rfl⟩
-- X13_movesThing
set_option maxRecDepth 20000 in
theorem zg_220_J33 {Γ : jb_G} {L : Nat} {d : Nat} (hd : 2 ≤ d) (x1 : Int32) (x2 : Int32) (M : jb_Mi) (N : jb_Ml) {v : Option Value} {σ2 : jb_S} {r : (Bool × jb_Mi)} (h : zf_220_J33 x1 x2 M = some r) (hK : (fun r : Bool × jb_Mi => v = some (.int (jb_b2i r.1)) ∧ σ2 = (zE L, r.2, N)) r) : jb_V Γ d zq_220 33 [some (.ref 79), some (.int x1), some (.int x2), none] [] (zE L, M, N) v σ2 := by
  obtain ⟨d, rfl⟩ : ∃ e, d = e + 1 := ⟨d - 1, by omega⟩
  unfold zf_220_J33 at h
  refine jb_seg 9 (pc' := (if x2 = 33 then 49 else 61)) (ls' := [some (.ref 79), some (.int x1), some (.int x2), none]) (st' := []) (σ' := (zE L, (jb_up M 79 5 ((M 79 5) + 1)), N)) (G := []) rfl trivial ?_
  refine jb_ite (fun c => ?_) (fun c => ?_)
  · replace h := (if_pos c).symm.trans h
    obtain ⟨g2, h⟩ := jb_gd_of h
    refine jb_seg 8 (pc' := 60) (ls' := [some (.ref 79), some (.int x1), some (.int x2), none]) (st' := [(.int 1)]) (σ' := (zE L, (jb_up (jb_up M 79 5 ((M 79 5) + 1)) 80 ((18 + x1)).toNatClampNeg (-1)), N)) (G := [vp_in (18 + x1) 149]) rfl g2 ?_
    obtain rfl := Option.some.inj h
    obtain ⟨rfl, rfl⟩ := hK
    exact jb_retz (by decide) rfl rfl
  · replace h := (if_neg c).symm.trans h
    refine jb_seg 3 (pc' := (if x2 = 64 then 67 else 135)) (ls' := [some (.ref 79), some (.int x1), some (.int x2), none]) (st' := []) (σ' := (zE L, (jb_up M 79 5 ((M 79 5) + 1)), N)) (G := []) rfl trivial ?_
    refine jb_ite (fun c => ?_) (fun c => ?_)
    · replace h := (if_pos c).symm.trans h
      refine jb_seg 1 (pc' := 68) (ls' := [some (.ref 79), some (.int x1), some (.int x2), none]) (st' := [(.ref 79)]) (σ' := (zE L, (jb_up M 79 5 ((M 79 5) + 1)), N)) (G := []) rfl trivial ?_
      obtain ⟨q3, h3, h⟩ := jb_bd_of h
      refine jb_callV (q' := zq_184) (As := []) (rest := []) (σ1 := (zE L, (jb_up M 79 5 ((M 79 5) + 1)), N)) (v := some (.int q3)) rfl rfl zp_184 rfl (Nat.le_of_ble_eq_true rfl) (jb_cat rfl) (Nat.le_of_ble_eq_true rfl) (Nat.le_of_ble_eq_true rfl) (Or.inl rfl) rfl (ze_184 (jb_up M 79 5 ((M 79 5) + 1)) N h3) ?_
      refine jb_seg 6 (pc' := 78) (ls' := [some (.ref 79), some (.int x1), some (.int x2), some (.int (q3 - 48))]) (st' := [(.int 5), (.int 0), (.int (q3 - 48))]) (σ' := (zE L, (jb_up M 79 5 ((M 79 5) + 1)), N)) (G := []) rfl trivial ?_
      refine jb_callS (q' := zq_164) (As := [(.int (q3 - 48)), (.int 0), (.int 5)]) (rest := []) (σ1 := (zE L, (jb_up M 79 5 ((M 79 5) + 1)), N)) (v := some (.int (jb_b2i (zf_164 (q3 - 48) 0 5)))) rfl (Nat.le_of_ble_eq_true rfl) rfl zp_164 (jb_cat rfl) (Nat.le_of_ble_eq_true rfl) (Nat.le_of_ble_eq_true rfl) (Or.inl rfl) rfl (ze_164 (q3 - 48) 0 5 (jb_up M 79 5 ((M 79 5) + 1)) N rfl) ?_
      refine jb_seg 1 (pc' := (if (jb_b2i (zf_164 (q3 - 48) 0 5)) = 0 then 84 else 94)) (ls' := [some (.ref 79), some (.int x1), some (.int x2), some (.int (q3 - 48))]) (st' := []) (σ' := (zE L, (jb_up M 79 5 ((M 79 5) + 1)), N)) (G := []) rfl trivial ?_
      refine jb_ite (fun c => ?_) (fun c => ?_)
      · replace h := (if_pos c).symm.trans h
        refine jb_seg 4 (pc' := 90) (ls' := [some (.ref 79), some (.int x1), some (.int x2), some (.int (q3 - 48))]) (st' := [(.int ((jb_up M 79 5 ((M 79 5) + 1)) 79 5)), (.int 1), (.ref 79)]) (σ' := (zE L, (jb_up M 79 5 ((M 79 5) + 1)), N)) (G := []) rfl trivial ?_
        refine jb_callV (q' := zq_186) (As := [(.int 1), (.int ((jb_up M 79 5 ((M 79 5) + 1)) 79 5))]) (rest := []) (σ1 := (zE L, (zf_186 1 ((jb_up M 79 5 ((M 79 5) + 1)) 79 5) (jb_up M 79 5 ((M 79 5) + 1))).2, N)) (v := some (.int (jb_b2i (zf_186 1 ((jb_up M 79 5 ((M 79 5) + 1)) 79 5) (jb_up M 79 5 ((M 79 5) + 1))).1))) rfl rfl zp_186 rfl (Nat.le_of_ble_eq_true rfl) (jb_cat rfl) (Nat.le_of_ble_eq_true rfl) (Nat.le_of_ble_eq_true rfl) (Or.inl rfl) rfl (ze_186 1 ((jb_up M 79 5 ((M 79 5) + 1)) 79 5) (jb_up M 79 5 ((M 79 5) + 1)) N rfl) ?_
        obtain rfl := Option.some.inj h
        obtain ⟨rfl, rfl⟩ := hK
        exact jb_retz (jb_b2i_or _) rfl rfl
      · replace h := (if_neg c).symm.trans h
        refine jb_seg 2 (pc' := 96) (ls' := [some (.ref 79), some (.int x1), some (.int x2), some (.int (q3 - 48))]) (st' := [(.int (q3 - 48)), (.ref 79)]) (σ' := (zE L, (jb_up M 79 5 ((M 79 5) + 1)), N)) (G := []) rfl trivial ?_
        obtain ⟨q4, h4, h⟩ := jb_bd_of h
        refine jb_callV (q' := zq_171) (As := [(.int (q3 - 48))]) (rest := []) (σ1 := (zE L, (jb_up M 79 5 ((M 79 5) + 1)), N)) (v := some (.int (jb_b2i q4))) rfl rfl zp_171 rfl (Nat.le_of_ble_eq_true rfl) (jb_cat rfl) (Nat.le_of_ble_eq_true rfl) (Nat.le_of_ble_eq_true rfl) (Or.inl rfl) rfl (ze_171 (by omega) (q3 - 48) (jb_up M 79 5 ((M 79 5) + 1)) N h4) ?_
        refine jb_seg 1 (pc' := (if (jb_b2i q4) = 0 then 102 else 113)) (ls' := [some (.ref 79), some (.int x1), some (.int x2), some (.int (q3 - 48))]) (st' := []) (σ' := (zE L, (jb_up M 79 5 ((M 79 5) + 1)), N)) (G := []) rfl trivial ?_
        refine jb_ite (fun c => ?_) (fun c => ?_)
        · replace h := (if_pos c).symm.trans h
          refine jb_seg 4 (pc' := 109) (ls' := [some (.ref 79), some (.int x1), some (.int x2), some (.int (q3 - 48))]) (st' := [(.int ((jb_up M 79 5 ((M 79 5) + 1)) 79 5)), (.int 7), (.ref 79)]) (σ' := (zE L, (jb_up M 79 5 ((M 79 5) + 1)), N)) (G := []) rfl trivial ?_
          refine jb_callV (q' := zq_186) (As := [(.int 7), (.int ((jb_up M 79 5 ((M 79 5) + 1)) 79 5))]) (rest := []) (σ1 := (zE L, (zf_186 7 ((jb_up M 79 5 ((M 79 5) + 1)) 79 5) (jb_up M 79 5 ((M 79 5) + 1))).2, N)) (v := some (.int (jb_b2i (zf_186 7 ((jb_up M 79 5 ((M 79 5) + 1)) 79 5) (jb_up M 79 5 ((M 79 5) + 1))).1))) rfl rfl zp_186 rfl (Nat.le_of_ble_eq_true rfl) (jb_cat rfl) (Nat.le_of_ble_eq_true rfl) (Nat.le_of_ble_eq_true rfl) (Or.inl rfl) rfl (ze_186 7 ((jb_up M 79 5 ((M 79 5) + 1)) 79 5) (jb_up M 79 5 ((M 79 5) + 1)) N rfl) ?_
          obtain rfl := Option.some.inj h
          obtain ⟨rfl, rfl⟩ := hK
          exact jb_retz (jb_b2i_or _) rfl rfl
        · replace h := (if_neg c).symm.trans h
          obtain ⟨g5, h⟩ := jb_gd_of h
          refine jb_seg 14 (pc' := 134) (ls' := [some (.ref 79), some (.int x1), some (.int x2), some (.int (q3 - 48))]) (st' := [(.int 1)]) (σ' := (zE L, (jb_up (jb_up (jb_up M 79 5 ((M 79 5) + 1)) 79 5 (((jb_up M 79 5 ((M 79 5) + 1)) 79 5) + 1)) 80 ((18 + x1)).toNatClampNeg (q3 - 48)), N)) (G := [vp_in (18 + x1) 149]) rfl g5 ?_
          obtain rfl := Option.some.inj h
          obtain ⟨rfl, rfl⟩ := hK
          exact jb_retz (by decide) rfl rfl
    · replace h := (if_neg c).symm.trans h
      refine jb_seg 1 (pc' := 136) (ls' := [some (.ref 79), some (.int x1), some (.int x2), none]) (st' := [(.ref 79)]) (σ' := (zE L, (jb_up M 79 5 ((M 79 5) + 1)), N)) (G := []) rfl trivial ?_
      obtain ⟨q6, h6, h⟩ := jb_bd_of h
      refine jb_callV (q' := zq_219) (As := []) (rest := []) (σ1 := (zE L, q6.2, N)) (v := some (.int (jb_b2i q6.1))) rfl rfl zp_219 rfl (Nat.le_of_ble_eq_true rfl) (jb_cat rfl) (Nat.le_of_ble_eq_true rfl) (Nat.le_of_ble_eq_true rfl) (Or.inl rfl) rfl (ze_219 (by omega) (jb_up M 79 5 ((M 79 5) + 1)) N h6) ?_
      refine jb_seg 1 (pc' := (if (jb_b2i q6.1) = 0 then 142 else 144)) (ls' := [some (.ref 79), some (.int x1), some (.int x2), none]) (st' := []) (σ' := (zE L, q6.2, N)) (G := []) rfl trivial ?_
      refine jb_ite (fun c => ?_) (fun c => ?_)
      · replace h := (if_pos c).symm.trans h
        refine jb_seg 1 (pc' := 143) (ls' := [some (.ref 79), some (.int x1), some (.int x2), none]) (st' := [(.int 0)]) (σ' := (zE L, q6.2, N)) (G := []) rfl trivial ?_
        obtain rfl := Option.some.inj h
        obtain ⟨rfl, rfl⟩ := hK
        exact jb_retz (by decide) rfl rfl
      · replace h := (if_neg c).symm.trans h
        refine jb_seg 4 (pc' := 150) (ls' := [some (.ref 79), some (.int x1), some (.int x2), some (.int (q6.2 79 8))]) (st' := [(.ref 79)]) (σ' := (zE L, q6.2, N)) (G := []) rfl trivial ?_
        obtain ⟨q7, h7, h⟩ := jb_bd_of h
        refine jb_callV (q' := zq_219) (As := []) (rest := []) (σ1 := (zE L, q7.2, N)) (v := some (.int (jb_b2i q7.1))) rfl rfl zp_219 rfl (Nat.le_of_ble_eq_true rfl) (jb_cat rfl) (Nat.le_of_ble_eq_true rfl) (Nat.le_of_ble_eq_true rfl) (Or.inl rfl) rfl (ze_219 (by omega) q6.2 N h7) ?_
        refine jb_seg 1 (pc' := (if (jb_b2i q7.1) = 0 then 156 else 158)) (ls' := [some (.ref 79), some (.int x1), some (.int x2), some (.int (q6.2 79 8))]) (st' := []) (σ' := (zE L, q7.2, N)) (G := []) rfl trivial ?_
        refine jb_ite (fun c => ?_) (fun c => ?_)
        · replace h := (if_pos c).symm.trans h
          refine jb_seg 1 (pc' := 157) (ls' := [some (.ref 79), some (.int x1), some (.int x2), some (.int (q6.2 79 8))]) (st' := [(.int 0)]) (σ' := (zE L, q7.2, N)) (G := []) rfl trivial ?_
          obtain rfl := Option.some.inj h
          obtain ⟨rfl, rfl⟩ := hK
          exact jb_retz (by decide) rfl rfl
        · replace h := (if_neg c).symm.trans h
          obtain ⟨g8, h⟩ := jb_gd_of h
          obtain ⟨g9, h⟩ := jb_gd_of h
          refine jb_seg 16 (pc' := 182) (ls' := [some (.ref 79), some (.int x1), some (.int x2), some (.int (q6.2 79 8))]) (st' := [(.int 1)]) (σ' := (zE L, (jb_up (jb_up q7.2 80 ((42 + x1)).toNatClampNeg (q6.2 79 8)) 80 ((66 + x1)).toNatClampNeg ((jb_up q7.2 80 ((42 + x1)).toNatClampNeg (q6.2 79 8)) 79 8)), N)) (G := [vp_in (42 + x1) 149, vp_in (66 + x1) 149]) rfl ⟨g8, g9⟩ ?_
          obtain rfl := Option.some.inj h
          obtain ⟨rfl, rfl⟩ := hK
          exact jb_retz (by decide) rfl rfl
set_option maxRecDepth 20000 in
theorem zg_220 {Γ : jb_G} {L : Nat} {d : Nat} (hd : 2 ≤ d) (x1 : Int32) (M : jb_Mi) (N : jb_Ml) {v : Option Value} {σ2 : jb_S} {r : (Bool × jb_Mi)} (h : zf_220 x1 M = some r) (hK : (fun r : Bool × jb_Mi => v = some (.int (jb_b2i r.1)) ∧ σ2 = (zE L, r.2, N)) r) : jb_V Γ d zq_220 0 [some (.ref 79), some (.int x1), none, none] [] (zE L, M, N) v σ2 := by
  obtain ⟨d, rfl⟩ : ∃ e, d = e + 1 := ⟨d - 1, by omega⟩
  unfold zf_220 at h
  refine jb_seg 1 (pc' := 1) (ls' := [some (.ref 79), some (.int x1), none, none]) (st' := [(.ref 79)]) (σ' := (zE L, M, N)) (G := []) rfl trivial ?_
  obtain ⟨q1, h1, h⟩ := jb_bd_of h
  refine jb_callV (q' := zq_184) (As := []) (rest := []) (σ1 := (zE L, M, N)) (v := some (.int q1)) rfl rfl zp_184 rfl (Nat.le_of_ble_eq_true rfl) (jb_cat rfl) (Nat.le_of_ble_eq_true rfl) (Nat.le_of_ble_eq_true rfl) (Or.inl rfl) rfl (ze_184 M N h1) ?_
  refine jb_seg 4 (pc' := (if q1 = 62 then 33 else 11)) (ls' := [some (.ref 79), some (.int x1), some (.int q1), none]) (st' := []) (σ' := (zE L, M, N)) (G := []) rfl trivial ?_
  refine jb_ite (fun c => ?_) (fun c => ?_)
  · replace h := (if_pos c).symm.trans h
    exact jb_mask [true, true, true, false] rfl (zg_220_J33 hd x1 q1 M N h hK)
  · replace h := (if_neg c).symm.trans h
    refine jb_seg 3 (pc' := (if q1 = 64 then 33 else 17)) (ls' := [some (.ref 79), some (.int x1), some (.int q1), none]) (st' := []) (σ' := (zE L, M, N)) (G := []) rfl trivial ?_
    refine jb_ite (fun c => ?_) (fun c => ?_)
    · replace h := (if_pos c).symm.trans h
      exact jb_mask [true, true, true, false] rfl (zg_220_J33 hd x1 q1 M N h hK)
    · replace h := (if_neg c).symm.trans h
      refine jb_seg 3 (pc' := (if q1 = 33 then 33 else 23)) (ls' := [some (.ref 79), some (.int x1), some (.int q1), none]) (st' := []) (σ' := (zE L, M, N)) (G := []) rfl trivial ?_
      refine jb_ite (fun c => ?_) (fun c => ?_)
      · replace h := (if_pos c).symm.trans h
        exact jb_mask [true, true, true, false] rfl (zg_220_J33 hd x1 q1 M N h hK)
      · replace h := (if_neg c).symm.trans h
        refine jb_seg 4 (pc' := 29) (ls' := [some (.ref 79), some (.int x1), some (.int q1), none]) (st' := [(.int (M 79 5)), (.int 1), (.ref 79)]) (σ' := (zE L, M, N)) (G := []) rfl trivial ?_
        refine jb_callV (q' := zq_186) (As := [(.int 1), (.int (M 79 5))]) (rest := []) (σ1 := (zE L, (zf_186 1 (M 79 5) M).2, N)) (v := some (.int (jb_b2i (zf_186 1 (M 79 5) M).1))) rfl rfl zp_186 rfl (Nat.le_of_ble_eq_true rfl) (jb_cat rfl) (Nat.le_of_ble_eq_true rfl) (Nat.le_of_ble_eq_true rfl) (Or.inl rfl) rfl (ze_186 1 (M 79 5) M N rfl) ?_
        obtain rfl := Option.some.inj h
        obtain ⟨rfl, rfl⟩ := hK
        exact jb_retz (jb_b2i_or _) rfl rfl
theorem ze_220 {Γ : jb_G} {L : Nat} {d : Nat} (hd : 2 ≤ d) (x1 : Int32) (M : jb_Mi) (N : jb_Ml) {r : (Bool × jb_Mi)} (h : zf_220 x1 M = some r) : jb_V Γ d zq_220 0 (jb_en 4 [(.ref 79), (.int x1)]) [] (zE L, M, N) (some (.int (jb_b2i r.1))) (zE L, r.2, N) := zg_220 hd x1 M N h ⟨rfl, rfl⟩
-- X13_readsLine
set_option maxRecDepth 20000 in
theorem zg_221_J40 {Γ : jb_G} {L : Nat} {d : Nat} (hd : 3 ≤ d) (x1 : Int32) (x2 : Int32) (M : jb_Mi) (N : jb_Ml) {v : Option Value} {σ2 : jb_S} {r : (Bool × jb_Mi)} (h : zf_221_J40 x1 x2 M = some r) (hK : (fun r : Bool × jb_Mi => v = some (.int (jb_b2i r.1)) ∧ σ2 = (zE L, r.2, N)) r) : jb_V Γ d zq_221 40 [some (.ref 79), some (.int x1), some (.int x2)] [] (zE L, M, N) v σ2 := by
  obtain ⟨d, rfl⟩ : ∃ e, d = e + 1 := ⟨d - 1, by omega⟩
  unfold zf_221_J40 at h
  refine jb_seg 4 (pc' := (if (M 79 37) = 20 then 49 else 59)) (ls' := [some (.ref 79), some (.int x1), some (.int x2)]) (st' := []) (σ' := (zE L, M, N)) (G := []) rfl trivial ?_
  refine jb_ite (fun c => ?_) (fun c => ?_)
  · replace h := (if_pos c).symm.trans h
    refine jb_seg 4 (pc' := 55) (ls' := [some (.ref 79), some (.int x1), some (.int x2)]) (st' := [(.int (M 79 5)), (.int 4), (.ref 79)]) (σ' := (zE L, M, N)) (G := []) rfl trivial ?_
    refine jb_callV (q' := zq_186) (As := [(.int 4), (.int (M 79 5))]) (rest := []) (σ1 := (zE L, (zf_186 4 (M 79 5) M).2, N)) (v := some (.int (jb_b2i (zf_186 4 (M 79 5) M).1))) rfl rfl zp_186 rfl (Nat.le_of_ble_eq_true rfl) (jb_cat rfl) (Nat.le_of_ble_eq_true rfl) (Nat.le_of_ble_eq_true rfl) (Or.inl rfl) rfl (ze_186 4 (M 79 5) M N rfl) ?_
    obtain rfl := Option.some.inj h
    obtain ⟨rfl, rfl⟩ := hK
    exact jb_retz (jb_b2i_or _) rfl rfl
  · replace h := (if_neg c).symm.trans h
    refine jb_seg 7 (pc' := 70) (ls' := [some (.ref 79), some (.int x1), some (.int x2)]) (st' := [(.ref 79)]) (σ' := (zE L, (jb_up M 79 37 ((M 79 37) + 1)), N)) (G := []) rfl trivial ?_
    obtain ⟨q3, h3, h⟩ := jb_bd_of h
    refine jb_callV (q' := zq_185) (As := []) (rest := []) (σ1 := (zE L, (jb_up M 79 37 ((M 79 37) + 1)), N)) (v := some (.int (jb_b2i q3))) rfl rfl zp_185 rfl (Nat.le_of_ble_eq_true rfl) (jb_cat rfl) (Nat.le_of_ble_eq_true rfl) (Nat.le_of_ble_eq_true rfl) (Or.inl rfl) rfl (ze_185 (by omega) (jb_up M 79 37 ((M 79 37) + 1)) N h3) ?_
    refine jb_seg 1 (pc' := (if (jb_b2i q3) = 0 then 115 else 76)) (ls' := [some (.ref 79), some (.int x1), some (.int x2)]) (st' := []) (σ' := (zE L, (jb_up M 79 37 ((M 79 37) + 1)), N)) (G := []) rfl trivial ?_
    refine jb_ite (fun c => ?_) (fun c => ?_)
    · replace h := (if_pos c).symm.trans h
      refine jb_seg 2 (pc' := 117) (ls' := [some (.ref 79), some (.int x1), some (.int x2)]) (st' := [(.int x2), (.ref 79)]) (σ' := (zE L, (jb_up M 79 37 ((M 79 37) + 1)), N)) (G := []) rfl trivial ?_
      obtain ⟨q4, h4, h⟩ := jb_bd_of h
      refine jb_callV (q' := zq_174) (As := [(.int x2)]) (rest := []) (σ1 := (zE L, (jb_up M 79 37 ((M 79 37) + 1)), N)) (v := some (.int (jb_b2i q4))) rfl rfl zp_174 rfl (Nat.le_of_ble_eq_true rfl) (jb_cat rfl) (Nat.le_of_ble_eq_true rfl) (Nat.le_of_ble_eq_true rfl) (Or.inl rfl) rfl (ze_174 (by omega) x2 (jb_up M 79 37 ((M 79 37) + 1)) N h4) ?_
      refine jb_seg 1 (pc' := (if (jb_b2i q4) = 0 then 123 else 134)) (ls' := [some (.ref 79), some (.int x1), some (.int x2)]) (st' := []) (σ' := (zE L, (jb_up M 79 37 ((M 79 37) + 1)), N)) (G := []) rfl trivial ?_
      refine jb_ite (fun c => ?_) (fun c => ?_)
      · replace h := (if_pos c).symm.trans h
        refine jb_seg 4 (pc' := 130) (ls' := [some (.ref 79), some (.int x1), some (.int x2)]) (st' := [(.int ((jb_up M 79 37 ((M 79 37) + 1)) 79 5)), (.int 7), (.ref 79)]) (σ' := (zE L, (jb_up M 79 37 ((M 79 37) + 1)), N)) (G := []) rfl trivial ?_
        refine jb_callV (q' := zq_186) (As := [(.int 7), (.int ((jb_up M 79 37 ((M 79 37) + 1)) 79 5))]) (rest := []) (σ1 := (zE L, (zf_186 7 ((jb_up M 79 37 ((M 79 37) + 1)) 79 5) (jb_up M 79 37 ((M 79 37) + 1))).2, N)) (v := some (.int (jb_b2i (zf_186 7 ((jb_up M 79 37 ((M 79 37) + 1)) 79 5) (jb_up M 79 37 ((M 79 37) + 1))).1))) rfl rfl zp_186 rfl (Nat.le_of_ble_eq_true rfl) (jb_cat rfl) (Nat.le_of_ble_eq_true rfl) (Nat.le_of_ble_eq_true rfl) (Or.inl rfl) rfl (ze_186 7 ((jb_up M 79 37 ((M 79 37) + 1)) 79 5) (jb_up M 79 37 ((M 79 37) + 1)) N rfl) ?_
        obtain rfl := Option.some.inj h
        obtain ⟨rfl, rfl⟩ := hK
        exact jb_retz (jb_b2i_or _) rfl rfl
      · replace h := (if_neg c).symm.trans h
        refine jb_seg 7 (pc' := 145) (ls' := [some (.ref 79), some (.int x1), some (.int x2)]) (st' := [(.ref 79)]) (σ' := (zE L, (jb_up (jb_up M 79 37 ((M 79 37) + 1)) 79 5 (((jb_up M 79 37 ((M 79 37) + 1)) 79 5) + 1)), N)) (G := []) rfl trivial ?_
        obtain ⟨q5, h5, h⟩ := jb_bd_of h
        refine jb_callV (q' := zq_218) (As := []) (rest := []) (σ1 := (zE L, q5.2, N)) (v := some (.int (jb_b2i q5.1))) rfl rfl zp_218 rfl (Nat.le_of_ble_eq_true rfl) (jb_cat rfl) (Nat.le_of_ble_eq_true rfl) (Nat.le_of_ble_eq_true rfl) (Or.inl rfl) rfl (ze_218 (by omega) (jb_up (jb_up M 79 37 ((M 79 37) + 1)) 79 5 (((jb_up M 79 37 ((M 79 37) + 1)) 79 5) + 1)) N h5) ?_
        refine jb_seg 1 (pc' := (if (jb_b2i q5.1) = 0 then 151 else 153)) (ls' := [some (.ref 79), some (.int x1), some (.int x2)]) (st' := []) (σ' := (zE L, q5.2, N)) (G := []) rfl trivial ?_
        refine jb_ite (fun c => ?_) (fun c => ?_)
        · replace h := (if_pos c).symm.trans h
          refine jb_seg 1 (pc' := 152) (ls' := [some (.ref 79), some (.int x1), some (.int x2)]) (st' := [(.int 0)]) (σ' := (zE L, q5.2, N)) (G := []) rfl trivial ?_
          obtain rfl := Option.some.inj h
          obtain ⟨rfl, rfl⟩ := hK
          exact jb_retz (by decide) rfl rfl
        · replace h := (if_neg c).symm.trans h
          obtain ⟨g6, h⟩ := jb_gd_of h
          refine jb_seg 15 (pc' := 178) (ls' := [some (.ref 79), some (.int x1), some (.int x2)]) (st' := [(.int ((q5.2 80 ((130 + x2)).toNatClampNeg) - (q5.2 79 8))), (.int 0), (.int (130 + x2)), (.ref 80)]) (σ' := (zE L, q5.2, N)) (G := [vp_in (130 + x2) 149]) rfl g6 ?_
          refine jb_callS (q' := zq_166) (As := [(.int 0), (.int ((q5.2 80 ((130 + x2)).toNatClampNeg) - (q5.2 79 8)))]) (rest := [(.int (130 + x2)), (.ref 80)]) (σ1 := (zE L, q5.2, N)) (v := some (.int (zf_166 0 ((q5.2 80 ((130 + x2)).toNatClampNeg) - (q5.2 79 8))))) rfl (Nat.le_of_ble_eq_true rfl) rfl zp_166 (jb_cat rfl) (Nat.le_of_ble_eq_true rfl) (Nat.le_of_ble_eq_true rfl) (Or.inl rfl) rfl (ze_166 0 ((q5.2 80 ((130 + x2)).toNatClampNeg) - (q5.2 79 8)) q5.2 N rfl) ?_
          obtain ⟨g7, h⟩ := jb_gd_of h
          refine jb_seg 2 (pc' := 183) (ls' := [some (.ref 79), some (.int x1), some (.int x2)]) (st' := [(.int 1)]) (σ' := (zE L, (jb_up q5.2 80 ((130 + x2)).toNatClampNeg (zf_166 0 ((q5.2 80 ((130 + x2)).toNatClampNeg) - (q5.2 79 8)))), N)) (G := [vp_in (130 + x2) 149]) rfl g7 ?_
          obtain rfl := Option.some.inj h
          obtain ⟨rfl, rfl⟩ := hK
          exact jb_retz (by decide) rfl rfl
    · replace h := (if_neg c).symm.trans h
      refine jb_seg 1 (pc' := 77) (ls' := [some (.ref 79), some (.int x1), some (.int x2)]) (st' := [(.ref 79)]) (σ' := (zE L, (jb_up M 79 37 ((M 79 37) + 1)), N)) (G := []) rfl trivial ?_
      obtain ⟨q8, h8, h⟩ := jb_bd_of h
      refine jb_callV (q' := zq_218) (As := []) (rest := []) (σ1 := (zE L, q8.2, N)) (v := some (.int (jb_b2i q8.1))) rfl rfl zp_218 rfl (Nat.le_of_ble_eq_true rfl) (jb_cat rfl) (Nat.le_of_ble_eq_true rfl) (Nat.le_of_ble_eq_true rfl) (Or.inl rfl) rfl (ze_218 (by omega) (jb_up M 79 37 ((M 79 37) + 1)) N h8) ?_
      refine jb_seg 1 (pc' := (if (jb_b2i q8.1) = 0 then 83 else 85)) (ls' := [some (.ref 79), some (.int x1), some (.int x2)]) (st' := []) (σ' := (zE L, q8.2, N)) (G := []) rfl trivial ?_
      refine jb_ite (fun c => ?_) (fun c => ?_)
      · replace h := (if_pos c).symm.trans h
        refine jb_seg 1 (pc' := 84) (ls' := [some (.ref 79), some (.int x1), some (.int x2)]) (st' := [(.int 0)]) (σ' := (zE L, q8.2, N)) (G := []) rfl trivial ?_
        obtain rfl := Option.some.inj h
        obtain ⟨rfl, rfl⟩ := hK
        exact jb_retz (by decide) rfl rfl
      · replace h := (if_neg c).symm.trans h
        refine jb_seg 3 (pc' := 90) (ls' := [some (.ref 79), some (.int x1), some (.int x2)]) (st' := [(.int (q8.2 79 8)), (.ref 79)]) (σ' := (zE L, q8.2, N)) (G := []) rfl trivial ?_
        obtain ⟨q9, h9, h⟩ := jb_bd_of h
        refine jb_callV (q' := zq_173) (As := [(.int (q8.2 79 8))]) (rest := []) (σ1 := (zE L, q8.2, N)) (v := some (.int (jb_b2i q9))) rfl rfl zp_173 rfl (Nat.le_of_ble_eq_true rfl) (jb_cat rfl) (Nat.le_of_ble_eq_true rfl) (Nat.le_of_ble_eq_true rfl) (Or.inl rfl) rfl (ze_173 (by omega) (q8.2 79 8) q8.2 N h9) ?_
        refine jb_seg 1 (pc' := (if (jb_b2i q9) = 0 then 107 else 96)) (ls' := [some (.ref 79), some (.int x1), some (.int x2)]) (st' := []) (σ' := (zE L, q8.2, N)) (G := []) rfl trivial ?_
        refine jb_ite (fun c => ?_) (fun c => ?_)
        · replace h := (if_pos c).symm.trans h
          refine jb_seg 3 (pc' := 111) (ls' := [some (.ref 79), some (.int x1), some (.int x2)]) (st' := [(.int x1), (.int 7), (.ref 79)]) (σ' := (zE L, q8.2, N)) (G := []) rfl trivial ?_
          refine jb_callV (q' := zq_186) (As := [(.int 7), (.int x1)]) (rest := []) (σ1 := (zE L, (zf_186 7 x1 q8.2).2, N)) (v := some (.int (jb_b2i (zf_186 7 x1 q8.2).1))) rfl rfl zp_186 rfl (Nat.le_of_ble_eq_true rfl) (jb_cat rfl) (Nat.le_of_ble_eq_true rfl) (Nat.le_of_ble_eq_true rfl) (Or.inl rfl) rfl (ze_186 7 x1 q8.2 N rfl) ?_
          obtain rfl := Option.some.inj h
          obtain ⟨rfl, rfl⟩ := hK
          exact jb_retz (jb_b2i_or _) rfl rfl
        · replace h := (if_neg c).symm.trans h
          refine jb_seg 3 (pc' := 101) (ls' := [some (.ref 79), some (.int x1), some (.int x2)]) (st' := [(.int (q8.2 79 8)), (.ref 79)]) (σ' := (zE L, q8.2, N)) (G := []) rfl trivial ?_
          obtain ⟨q10, h10, h⟩ := jb_bd_of h
          refine jb_callV (q' := zq_220) (As := [(.int (q8.2 79 8))]) (rest := []) (σ1 := (zE L, q10.2, N)) (v := some (.int (jb_b2i q10.1))) rfl rfl zp_220 rfl (Nat.le_of_ble_eq_true rfl) (jb_cat rfl) (Nat.le_of_ble_eq_true rfl) (Nat.le_of_ble_eq_true rfl) (Or.inl rfl) rfl (ze_220 (by omega) (q8.2 79 8) q8.2 N h10) ?_
          refine jb_seg 1 (pc' := 114) (ls' := [some (.ref 79), some (.int x1), some (.int x2)]) (st' := [(.int (jb_b2i q10.1))]) (σ' := (zE L, q10.2, N)) (G := []) rfl trivial ?_
          obtain rfl := Option.some.inj h
          obtain ⟨rfl, rfl⟩ := hK
          exact jb_retz (jb_b2i_or _) rfl rfl
set_option maxRecDepth 20000 in
theorem zg_221 {Γ : jb_G} {L : Nat} {d : Nat} (hd : 3 ≤ d) (M : jb_Mi) (N : jb_Ml) {v : Option Value} {σ2 : jb_S} {r : (Bool × jb_Mi)} (h : zf_221 M = some r) (hK : (fun r : Bool × jb_Mi => v = some (.int (jb_b2i r.1)) ∧ σ2 = (zE L, r.2, N)) r) : jb_V Γ d zq_221 0 [some (.ref 79), none, none] [] (zE L, M, N) v σ2 := by
  obtain ⟨d, rfl⟩ : ∃ e, d = e + 1 := ⟨d - 1, by omega⟩
  unfold zf_221 at h
  refine jb_seg 4 (pc' := 6) (ls' := [some (.ref 79), some (.int (M 79 5)), none]) (st' := [(.ref 79)]) (σ' := (zE L, M, N)) (G := []) rfl trivial ?_
  obtain ⟨q1, h1, h⟩ := jb_bd_of h
  refine jb_callV (q' := zq_184) (As := []) (rest := []) (σ1 := (zE L, M, N)) (v := some (.int q1)) rfl rfl zp_184 rfl (Nat.le_of_ble_eq_true rfl) (jb_cat rfl) (Nat.le_of_ble_eq_true rfl) (Nat.le_of_ble_eq_true rfl) (Or.inl rfl) rfl (ze_184 M N h1) ?_
  refine jb_seg 4 (pc' := 14) (ls' := [some (.ref 79), some (.int (M 79 5)), some (.int (q1 - 97))]) (st' := [(.ref 79)]) (σ' := (zE L, M, N)) (G := []) rfl trivial ?_
  obtain ⟨q2, h2, h⟩ := jb_bd_of h
  refine jb_callV (q' := zq_185) (As := []) (rest := []) (σ1 := (zE L, M, N)) (v := some (.int (jb_b2i q2))) rfl rfl zp_185 rfl (Nat.le_of_ble_eq_true rfl) (jb_cat rfl) (Nat.le_of_ble_eq_true rfl) (Nat.le_of_ble_eq_true rfl) (Or.inl rfl) rfl (ze_185 (by omega) M N h2) ?_
  refine jb_seg 1 (pc' := (if (jb_b2i q2) = 0 then 20 else 40)) (ls' := [some (.ref 79), some (.int (M 79 5)), some (.int (q1 - 97))]) (st' := []) (σ' := (zE L, M, N)) (G := []) rfl trivial ?_
  refine jb_ite (fun c => ?_) (fun c => ?_)
  · replace h := (if_pos c).symm.trans h
    refine jb_seg 3 (pc' := 24) (ls' := [some (.ref 79), some (.int (M 79 5)), some (.int (q1 - 97))]) (st' := [(.int 15), (.int 0), (.int (q1 - 97))]) (σ' := (zE L, M, N)) (G := []) rfl trivial ?_
    refine jb_callS (q' := zq_164) (As := [(.int (q1 - 97)), (.int 0), (.int 15)]) (rest := []) (σ1 := (zE L, M, N)) (v := some (.int (jb_b2i (zf_164 (q1 - 97) 0 15)))) rfl (Nat.le_of_ble_eq_true rfl) rfl zp_164 (jb_cat rfl) (Nat.le_of_ble_eq_true rfl) (Nat.le_of_ble_eq_true rfl) (Or.inl rfl) rfl (ze_164 (q1 - 97) 0 15 M N rfl) ?_
    refine jb_seg 1 (pc' := (if (jb_b2i (zf_164 (q1 - 97) 0 15)) = 0 then 30 else 40)) (ls' := [some (.ref 79), some (.int (M 79 5)), some (.int (q1 - 97))]) (st' := []) (σ' := (zE L, M, N)) (G := []) rfl trivial ?_
    refine jb_ite (fun c => ?_) (fun c => ?_)
    · replace h := (if_pos c).symm.trans h
      refine jb_seg 4 (pc' := 36) (ls' := [some (.ref 79), some (.int (M 79 5)), some (.int (q1 - 97))]) (st' := [(.int (M 79 5)), (.int 1), (.ref 79)]) (σ' := (zE L, M, N)) (G := []) rfl trivial ?_
      refine jb_callV (q' := zq_186) (As := [(.int 1), (.int (M 79 5))]) (rest := []) (σ1 := (zE L, (zf_186 1 (M 79 5) M).2, N)) (v := some (.int (jb_b2i (zf_186 1 (M 79 5) M).1))) rfl rfl zp_186 rfl (Nat.le_of_ble_eq_true rfl) (jb_cat rfl) (Nat.le_of_ble_eq_true rfl) (Nat.le_of_ble_eq_true rfl) (Or.inl rfl) rfl (ze_186 1 (M 79 5) M N rfl) ?_
      obtain rfl := Option.some.inj h
      obtain ⟨rfl, rfl⟩ := hK
      exact jb_retz (jb_b2i_or _) rfl rfl
    · replace h := (if_neg c).symm.trans h
      exact jb_mask [true, true, true] rfl (zg_221_J40 hd (M 79 5) (q1 - 97) M N h hK)
  · replace h := (if_neg c).symm.trans h
    exact jb_mask [true, true, true] rfl (zg_221_J40 hd (M 79 5) (q1 - 97) M N h hK)
theorem ze_221 {Γ : jb_G} {L : Nat} {d : Nat} (hd : 3 ≤ d) (M : jb_Mi) (N : jb_Ml) {r : (Bool × jb_Mi)} (h : zf_221 M = some r) : jb_V Γ d zq_221 0 (jb_en 3 [(.ref 79)]) [] (zE L, M, N) (some (.int (jb_b2i r.1))) (zE L, r.2, N) := zg_221 hd M N h ⟨rfl, rfl⟩
-- X13_orders
set_option maxRecDepth 20000 in
theorem zg_222_J86 {Γ : jb_G} {L : Nat} {d : Nat} (hd : 4 ≤ d) (x2 : Int32) (M : jb_Mi) (N : jb_Ml) {v : Option Value} {σ2 : jb_S} {r : (Int32 × jb_Mi)} (h : zf_222_J86 x2 M = some r) (hK : (fun r : Int32 × jb_Mi => v = some (.int r.1) ∧ σ2 = (zE L, r.2, N)) r) : jb_V Γ d zq_222 86 [some (.ref 79), none, some (.int x2)] [] (zE L, M, N) v σ2 := by
  obtain ⟨d, rfl⟩ : ∃ e, d = e + 1 := ⟨d - 1, by omega⟩
  unfold zf_222_J86 at h
  refine jb_seg 5 (pc' := (if x2 = 0 then 100 else 95)) (ls' := [some (.ref 79), none, some (.int x2)]) (st' := []) (σ' := (zE L, (jb_up M 79 4 0), N)) (G := []) rfl trivial ?_
  refine jb_ite (fun c => ?_) (fun c => ?_)
  · replace h := (if_pos c).symm.trans h
    refine jb_seg 4 (pc' := 108) (ls' := [some (.ref 79), none, some (.int x2)]) (st' := [(.ref 80), (.ref 81)]) (σ' := (zE L, (jb_up M 79 4 0), N)) (G := []) rfl trivial ?_
    obtain ⟨q3, h3, h⟩ := jb_bd_of h
    refine jb_callS (q' := zq_170) (As := [(.ref 81), (.ref 80)]) (rest := []) (σ1 := (zE L, q3, N)) (v := none) rfl (Nat.le_of_ble_eq_true rfl) rfl zp_170 (jb_cat rfl) (Nat.le_of_ble_eq_true rfl) (Nat.le_of_ble_eq_true rfl) (Or.inl rfl) rfl (ze_170 81 80 (jb_up M 79 4 0) N (by decide) h3) ?_
    refine jb_seg 2 (pc' := 115) (ls' := [some (.ref 79), none, some (.int x2)]) (st' := [(.int (q3 79 7))]) (σ' := (zE L, q3, N)) (G := []) rfl trivial ?_
    obtain rfl := Option.some.inj h
    obtain ⟨rfl, rfl⟩ := hK
    exact jb_reti rfl rfl
  · replace h := (if_neg c).symm.trans h
    refine jb_seg 2 (pc' := 99) (ls' := [some (.ref 79), none, some (.int x2)]) (st' := [(.int ((jb_up M 79 4 0) 79 37))]) (σ' := (zE L, (jb_up M 79 4 0), N)) (G := []) rfl trivial ?_
    obtain rfl := Option.some.inj h
    obtain ⟨rfl, rfl⟩ := hK
    exact jb_reti rfl rfl
set_option maxRecDepth 20000 in
theorem zg_222_J82 {Γ : jb_G} {L : Nat} {d : Nat} (hd : 4 ≤ d) (s0 : Int32) (M : jb_Mi) (N : jb_Ml) {v : Option Value} {σ2 : jb_S} {r : ((Int32 × jb_Mi) ⊕ (Int32 × jb_Mi))} (h : zf_222_J82 s0 M = some r) (hK : (jb_K (fun s : Int32 × jb_Mi => jb_V Γ d zq_222 46 [some (.ref 79), none, some (.int s.1)] [] (zE L, s.2, N) v σ2) (fun r : Int32 × jb_Mi => v = some (.int r.1) ∧ σ2 = (zE L, r.2, N))) r) : jb_V Γ d zq_222 82 [some (.ref 79), none, none] [(.int s0)] (zE L, M, N) v σ2 := by
  obtain ⟨d, rfl⟩ : ∃ e, d = e + 1 := ⟨d - 1, by omega⟩
  unfold zf_222_J82 at h
  refine jb_seg 2 (pc' := 46) (ls' := [some (.ref 79), none, some (.int s0)]) (st' := []) (σ' := (zE L, M, N)) (G := []) rfl trivial ?_
  obtain rfl := Option.some.inj h
  exact jb_mask [true, false, true] rfl hK
set_option maxRecDepth 20000 in
theorem zg_222_J81 {Γ : jb_G} {L : Nat} {d : Nat} (hd : 4 ≤ d) (M : jb_Mi) (N : jb_Ml) {v : Option Value} {σ2 : jb_S} {r : ((Int32 × jb_Mi) ⊕ (Int32 × jb_Mi))} (h : zf_222_J81 M = some r) (hK : (jb_K (fun s : Int32 × jb_Mi => jb_V Γ d zq_222 46 [some (.ref 79), none, some (.int s.1)] [] (zE L, s.2, N) v σ2) (fun r : Int32 × jb_Mi => v = some (.int r.1) ∧ σ2 = (zE L, r.2, N))) r) : jb_V Γ d zq_222 81 [some (.ref 79), none, none] [] (zE L, M, N) v σ2 := by
  obtain ⟨d, rfl⟩ : ∃ e, d = e + 1 := ⟨d - 1, by omega⟩
  unfold zf_222_J81 at h
  refine jb_seg 1 (pc' := 82) (ls' := [some (.ref 79), none, none]) (st' := [(.int 0)]) (σ' := (zE L, M, N)) (G := []) rfl trivial ?_
  exact jb_mask [true, false, false] rfl (zg_222_J82 hd 0 M N h hK)
set_option maxRecDepth 20000 in
theorem zg_222_H46 {Γ : jb_G} {L : Nat} {d : Nat} (hd : 4 ≤ d) (N : jb_Ml) (s : Int32 × jb_Mi) {v : Option Value} {σ2 : jb_S} {r : ((Int32 × jb_Mi) ⊕ (Int32 × jb_Mi))} (h : zf_222_H46 s = some r) (hK : (jb_K (fun s : Int32 × jb_Mi => jb_V Γ d zq_222 46 [some (.ref 79), none, some (.int s.1)] [] (zE L, s.2, N) v σ2) (fun r : Int32 × jb_Mi => v = some (.int r.1) ∧ σ2 = (zE L, r.2, N))) r) : jb_V Γ d zq_222 46 [some (.ref 79), none, some (.int s.1)] [] (zE L, s.2, N) v σ2 := by
  obtain ⟨d, rfl⟩ : ∃ e, d = e + 1 := ⟨d - 1, by omega⟩
  unfold zf_222_H46 at h
  refine jb_seg 2 (pc' := (if s.1 = 0 then 86 else 50)) (ls' := [some (.ref 79), none, some (.int s.1)]) (st' := []) (σ' := (zE L, s.2, N)) (G := []) rfl trivial ?_
  refine jb_ite (fun c => ?_) (fun c => ?_)
  · replace h := (if_pos c).symm.trans h
    obtain ⟨y0, hy0, rfl⟩ := jb_mp_of h
    exact jb_mask [true, false, true] rfl (zg_222_J86 hd s.1 s.2 N hy0 hK)
  · replace h := (if_neg c).symm.trans h
    refine jb_seg 5 (pc' := (if (s.2 79 5) < (s.2 79 6) then 61 else 86)) (ls' := [some (.ref 79), none, some (.int s.1)]) (st' := []) (σ' := (zE L, s.2, N)) (G := []) rfl trivial ?_
    refine jb_ite (fun c => ?_) (fun c => ?_)
    · replace h := (if_pos c).symm.trans h
      refine jb_seg 2 (pc' := 64) (ls' := [some (.ref 79), none, some (.int s.1)]) (st' := [(.int 59), (.ref 79)]) (σ' := (zE L, s.2, N)) (G := []) rfl trivial ?_
      obtain ⟨q4, h4, h⟩ := jb_bd_of h
      refine jb_callV (q' := zq_187) (As := [(.int 59)]) (rest := []) (σ1 := (zE L, q4.2, N)) (v := some (.int (jb_b2i q4.1))) rfl rfl zp_187 rfl (Nat.le_of_ble_eq_true rfl) (jb_cat rfl) (Nat.le_of_ble_eq_true rfl) (Nat.le_of_ble_eq_true rfl) (Or.inl rfl) rfl (ze_187 (by omega) 59 s.2 N h4) ?_
      refine jb_seg 1 (pc' := (if (jb_b2i q4.1) = 0 then 81 else 70)) (ls' := [some (.ref 79), none, some (.int s.1)]) (st' := []) (σ' := (zE L, q4.2, N)) (G := []) rfl trivial ?_
      refine jb_ite (fun c => ?_) (fun c => ?_)
      · replace h := (if_pos c).symm.trans h
        exact jb_mask [true, false, false] rfl (zg_222_J81 hd q4.2 N h hK)
      · replace h := (if_neg c).symm.trans h
        refine jb_seg 1 (pc' := 71) (ls' := [some (.ref 79), none, some (.int s.1)]) (st' := [(.ref 79)]) (σ' := (zE L, q4.2, N)) (G := []) rfl trivial ?_
        obtain ⟨q5, h5, h⟩ := jb_bd_of h
        refine jb_callV (q' := zq_221) (As := []) (rest := []) (σ1 := (zE L, q5.2, N)) (v := some (.int (jb_b2i q5.1))) rfl rfl zp_221 rfl (Nat.le_of_ble_eq_true rfl) (jb_cat rfl) (Nat.le_of_ble_eq_true rfl) (Nat.le_of_ble_eq_true rfl) (Or.inl rfl) rfl (ze_221 (by omega) q4.2 N h5) ?_
        refine jb_seg 1 (pc' := (if (jb_b2i q5.1) = 0 then 81 else 77)) (ls' := [some (.ref 79), none, some (.int s.1)]) (st' := []) (σ' := (zE L, q5.2, N)) (G := []) rfl trivial ?_
        refine jb_ite (fun c => ?_) (fun c => ?_)
        · replace h := (if_pos c).symm.trans h
          exact jb_mask [true, false, false] rfl (zg_222_J81 hd q5.2 N h hK)
        · replace h := (if_neg c).symm.trans h
          refine jb_seg 2 (pc' := 82) (ls' := [some (.ref 79), none, some (.int s.1)]) (st' := [(.int 1)]) (σ' := (zE L, q5.2, N)) (G := []) rfl trivial ?_
          exact jb_mask [true, false, false] rfl (zg_222_J82 hd 1 q5.2 N h hK)
    · replace h := (if_neg c).symm.trans h
      obtain ⟨y0, hy0, rfl⟩ := jb_mp_of h
      exact jb_mask [true, false, true] rfl (zg_222_J86 hd s.1 s.2 N hy0 hK)
theorem zg_222_H46L {Γ : jb_G} {L : Nat} {d : Nat} (hd : 4 ≤ d) (N : jb_Ml) {v : Option Value} {σ2 : jb_S} {s : Int32 × jb_Mi} {r : (Int32 × jb_Mi)} (h : jb_lp (zf_222_H46) s = some r) (hK : (fun r : Int32 × jb_Mi => v = some (.int r.1) ∧ σ2 = (zE L, r.2, N)) r) : jb_V Γ d zq_222 46 [some (.ref 79), none, some (.int s.1)] [] (zE L, s.2, N) v σ2 := by
  exact @jb_lp_ind (Int32 × jb_Mi) ((Int32 × jb_Mi)) (zf_222_H46) (fun s => jb_V Γ d zq_222 46 [some (.ref 79), none, some (.int s.1)] [] (zE L, s.2, N) v σ2) (fun r : Int32 × jb_Mi => v = some (.int r.1) ∧ σ2 = (zE L, r.2, N)) (fun s r h hk => zg_222_H46 hd N s h hk) s r h hK
set_option maxRecDepth 20000 in
theorem zg_222 {Γ : jb_G} {L : Nat} {d : Nat} (hd : 4 ≤ d) (x1 : Int32) (M : jb_Mi) (N : jb_Ml) {v : Option Value} {σ2 : jb_S} {r : (Int32 × jb_Mi)} (h : zf_222 x1 M = some r) (hK : (fun r : Int32 × jb_Mi => v = some (.int r.1) ∧ σ2 = (zE L, r.2, N)) r) : jb_V Γ d zq_222 0 [some (.ref 79), some (.int x1), none] [] (zE L, M, N) v σ2 := by
  obtain ⟨d, rfl⟩ : ∃ e, d = e + 1 := ⟨d - 1, by omega⟩
  unfold zf_222 at h
  refine jb_seg 3 (pc' := 4) (ls' := [some (.ref 79), some (.int x1), none]) (st' := [(.int 120), (.int 1), (.int x1)]) (σ' := (zE L, M, N)) (G := []) rfl trivial ?_
  refine jb_callS (q' := zq_164) (As := [(.int x1), (.int 1), (.int 120)]) (rest := []) (σ1 := (zE L, M, N)) (v := some (.int (jb_b2i (zf_164 x1 1 120)))) rfl (Nat.le_of_ble_eq_true rfl) rfl zp_164 (jb_cat rfl) (Nat.le_of_ble_eq_true rfl) (Nat.le_of_ble_eq_true rfl) (Or.inl rfl) rfl (ze_164 x1 1 120 M N rfl) ?_
  refine jb_seg 1 (pc' := (if (jb_b2i (zf_164 x1 1 120)) = 0 then 18 else 10)) (ls' := [some (.ref 79), some (.int x1), none]) (st' := []) (σ' := (zE L, M, N)) (G := []) rfl trivial ?_
  refine jb_ite (fun c => ?_) (fun c => ?_)
  · replace h := (if_pos c).symm.trans h
    refine jb_seg 1 (pc' := 19) (ls' := [some (.ref 79), some (.int x1), none]) (st' := [(.int (-1))]) (σ' := (zE L, M, N)) (G := []) rfl trivial ?_
    obtain rfl := Option.some.inj h
    obtain ⟨rfl, rfl⟩ := hK
    exact jb_reti rfl rfl
  · replace h := (if_neg c).symm.trans h
    refine jb_seg 4 (pc' := (if (M 79 4) < x1 then 18 else 20)) (ls' := [some (.ref 79), some (.int x1), none]) (st' := []) (σ' := (zE L, M, N)) (G := []) rfl trivial ?_
    refine jb_ite (fun c => ?_) (fun c => ?_)
    · replace h := (if_pos c).symm.trans h
      refine jb_seg 1 (pc' := 19) (ls' := [some (.ref 79), some (.int x1), none]) (st' := [(.int (-1))]) (σ' := (zE L, M, N)) (G := []) rfl trivial ?_
      obtain rfl := Option.some.inj h
      obtain ⟨rfl, rfl⟩ := hK
      exact jb_reti rfl rfl
    · replace h := (if_neg c).symm.trans h
      refine jb_seg 2 (pc' := 22) (ls' := [some (.ref 79), some (.int x1), none]) (st' := [(.int x1), (.ref 79)]) (σ' := (zE L, M, N)) (G := []) rfl trivial ?_
      refine jb_callV (q' := zq_204) (As := [(.int x1)]) (rest := []) (σ1 := (zE L, (zf_204 x1 M), N)) (v := none) rfl rfl zp_204 rfl (Nat.le_of_ble_eq_true rfl) (jb_cat rfl) (Nat.le_of_ble_eq_true rfl) (Nat.le_of_ble_eq_true rfl) (Or.inl rfl) rfl (ze_204 x1 M N rfl) ?_
      refine jb_seg 7 (pc' := 38) (ls' := [some (.ref 79), some (.int x1), none]) (st' := [(.ref 81), (.ref 80)]) (σ' := (zE L, (jb_up (zf_204 x1 M) 79 37 0), N)) (G := []) rfl trivial ?_
      obtain ⟨q1, h1, h⟩ := jb_bd_of h
      refine jb_callS (q' := zq_170) (As := [(.ref 80), (.ref 81)]) (rest := []) (σ1 := (zE L, q1, N)) (v := none) rfl (Nat.le_of_ble_eq_true rfl) rfl zp_170 (jb_cat rfl) (Nat.le_of_ble_eq_true rfl) (Nat.le_of_ble_eq_true rfl) (Or.inl rfl) rfl (ze_170 80 81 (jb_up (zf_204 x1 M) 79 37 0) N (by decide) h1) ?_
      refine jb_seg 1 (pc' := 42) (ls' := [some (.ref 79), some (.int x1), none]) (st' := [(.ref 79)]) (σ' := (zE L, q1, N)) (G := []) rfl trivial ?_
      obtain ⟨q2, h2, h⟩ := jb_bd_of h
      refine jb_callV (q' := zq_221) (As := []) (rest := []) (σ1 := (zE L, q2.2, N)) (v := some (.int (jb_b2i q2.1))) rfl rfl zp_221 rfl (Nat.le_of_ble_eq_true rfl) (jb_cat rfl) (Nat.le_of_ble_eq_true rfl) (Nat.le_of_ble_eq_true rfl) (Or.inl rfl) rfl (ze_221 (by omega) q1 N h2) ?_
      refine jb_seg 1 (pc' := 46) (ls' := [some (.ref 79), some (.int x1), some (.int (jb_b2i q2.1))]) (st' := []) (σ' := (zE L, q2.2, N)) (G := []) rfl trivial ?_
      exact jb_mask [true, false, true] rfl (zg_222_H46L hd N h hK)
theorem ze_222 {Γ : jb_G} {L : Nat} {d : Nat} (hd : 4 ≤ d) (x1 : Int32) (M : jb_Mi) (N : jb_Ml) {r : (Int32 × jb_Mi)} (h : zf_222 x1 M = some r) : jb_V Γ d zq_222 0 (jb_en 3 [(.ref 79), (.int x1)]) [] (zE L, M, N) (some (.int r.1)) (zE L, r.2, N) := zg_222 hd x1 M N h ⟨rfl, rfl⟩
-- X13_sags
set_option maxRecDepth 20000 in
theorem zg_223 {Γ : jb_G} {L : Nat} {d : Nat} (x1 : Int32) (M : jb_Mi) (N : jb_Ml) {v : Option Value} {σ2 : jb_S} {r : (jb_Mi)} (h : zf_223 x1 M = some r) (hK : (fun r : jb_Mi => v = none ∧ σ2 = (zE L, r, N)) r) : jb_V Γ d zq_223 0 [some (.ref 79), some (.int x1)] [] (zE L, M, N) v σ2 := by
  unfold zf_223 at h
  obtain ⟨g1, h⟩ := jb_gd_of h
  obtain ⟨g2, h⟩ := jb_gd_of h
  obtain ⟨g3, h⟩ := jb_gd_of h
  refine jb_seg 28 (pc' := (if ((jb_up (jb_up M 80 ((12 + x1)).toNatClampNeg ((M 80 ((12 + x1)).toNatClampNeg) + 1)) 79 38 (((jb_up M 80 ((12 + x1)).toNatClampNeg ((M 80 ((12 + x1)).toNatClampNeg) + 1)) 79 38) + 1)) 80 ((12 + x1)).toNatClampNeg) < 9 then 44 else 45)) (ls' := [some (.ref 79), some (.int x1)]) (st' := []) (σ' := (zE L, (jb_up (jb_up M 80 ((12 + x1)).toNatClampNeg ((M 80 ((12 + x1)).toNatClampNeg) + 1)) 79 38 (((jb_up M 80 ((12 + x1)).toNatClampNeg ((M 80 ((12 + x1)).toNatClampNeg) + 1)) 79 38) + 1)), N)) (G := [vp_in (12 + x1) 149, vp_in (12 + x1) 149, vp_in (12 + x1) 149]) rfl ⟨g1, g2, g3⟩ ?_
  refine jb_ite (fun c => ?_) (fun c => ?_)
  · replace h := (if_pos c).symm.trans h
    obtain rfl := Option.some.inj h
    obtain ⟨rfl, rfl⟩ := hK
    exact jb_retv rfl rfl
  · replace h := (if_neg c).symm.trans h
    obtain ⟨g4, h⟩ := jb_gd_of h
    refine jb_seg 16 (pc' := (if ((jb_up (jb_up (jb_up (jb_up M 80 ((12 + x1)).toNatClampNeg ((M 80 ((12 + x1)).toNatClampNeg) + 1)) 79 38 (((jb_up M 80 ((12 + x1)).toNatClampNeg ((M 80 ((12 + x1)).toNatClampNeg) + 1)) 79 38) + 1)) 79 41 (((jb_up (jb_up M 80 ((12 + x1)).toNatClampNeg ((M 80 ((12 + x1)).toNatClampNeg) + 1)) 79 38 (((jb_up M 80 ((12 + x1)).toNatClampNeg ((M 80 ((12 + x1)).toNatClampNeg) + 1)) 79 38) + 1)) 79 41) + 1)) 103 x1.toNatClampNeg ((jb_up (jb_up (jb_up M 80 ((12 + x1)).toNatClampNeg ((M 80 ((12 + x1)).toNatClampNeg) + 1)) 79 38 (((jb_up M 80 ((12 + x1)).toNatClampNeg ((M 80 ((12 + x1)).toNatClampNeg) + 1)) 79 38) + 1)) 79 41 (((jb_up (jb_up M 80 ((12 + x1)).toNatClampNeg ((M 80 ((12 + x1)).toNatClampNeg) + 1)) 79 38 (((jb_up M 80 ((12 + x1)).toNatClampNeg ((M 80 ((12 + x1)).toNatClampNeg) + 1)) 79 38) + 1)) 79 41) + 1)) 79 43)) 79 42) = (-1) then 73 else 78)) (ls' := [some (.ref 79), some (.int x1)]) (st' := []) (σ' := (zE L, (jb_up (jb_up (jb_up (jb_up M 80 ((12 + x1)).toNatClampNeg ((M 80 ((12 + x1)).toNatClampNeg) + 1)) 79 38 (((jb_up M 80 ((12 + x1)).toNatClampNeg ((M 80 ((12 + x1)).toNatClampNeg) + 1)) 79 38) + 1)) 79 41 (((jb_up (jb_up M 80 ((12 + x1)).toNatClampNeg ((M 80 ((12 + x1)).toNatClampNeg) + 1)) 79 38 (((jb_up M 80 ((12 + x1)).toNatClampNeg ((M 80 ((12 + x1)).toNatClampNeg) + 1)) 79 38) + 1)) 79 41) + 1)) 103 x1.toNatClampNeg ((jb_up (jb_up (jb_up M 80 ((12 + x1)).toNatClampNeg ((M 80 ((12 + x1)).toNatClampNeg) + 1)) 79 38 (((jb_up M 80 ((12 + x1)).toNatClampNeg ((M 80 ((12 + x1)).toNatClampNeg) + 1)) 79 38) + 1)) 79 41 (((jb_up (jb_up M 80 ((12 + x1)).toNatClampNeg ((M 80 ((12 + x1)).toNatClampNeg) + 1)) 79 38 (((jb_up M 80 ((12 + x1)).toNatClampNeg ((M 80 ((12 + x1)).toNatClampNeg) + 1)) 79 38) + 1)) 79 41) + 1)) 79 43)), N)) (G := [vp_in x1 6]) rfl g4 ?_
    refine jb_ite (fun c => ?_) (fun c => ?_)
    · replace h := (if_pos c).symm.trans h
      refine jb_seg 3 (pc' := 78) (ls' := [some (.ref 79), some (.int x1)]) (st' := []) (σ' := (zE L, (jb_up (jb_up (jb_up (jb_up (jb_up M 80 ((12 + x1)).toNatClampNeg ((M 80 ((12 + x1)).toNatClampNeg) + 1)) 79 38 (((jb_up M 80 ((12 + x1)).toNatClampNeg ((M 80 ((12 + x1)).toNatClampNeg) + 1)) 79 38) + 1)) 79 41 (((jb_up (jb_up M 80 ((12 + x1)).toNatClampNeg ((M 80 ((12 + x1)).toNatClampNeg) + 1)) 79 38 (((jb_up M 80 ((12 + x1)).toNatClampNeg ((M 80 ((12 + x1)).toNatClampNeg) + 1)) 79 38) + 1)) 79 41) + 1)) 103 x1.toNatClampNeg ((jb_up (jb_up (jb_up M 80 ((12 + x1)).toNatClampNeg ((M 80 ((12 + x1)).toNatClampNeg) + 1)) 79 38 (((jb_up M 80 ((12 + x1)).toNatClampNeg ((M 80 ((12 + x1)).toNatClampNeg) + 1)) 79 38) + 1)) 79 41 (((jb_up (jb_up M 80 ((12 + x1)).toNatClampNeg ((M 80 ((12 + x1)).toNatClampNeg) + 1)) 79 38 (((jb_up M 80 ((12 + x1)).toNatClampNeg ((M 80 ((12 + x1)).toNatClampNeg) + 1)) 79 38) + 1)) 79 41) + 1)) 79 43)) 79 42 x1), N)) (G := []) rfl trivial ?_
      obtain rfl := Option.some.inj h
      obtain ⟨rfl, rfl⟩ := hK
      exact jb_retv rfl rfl
    · replace h := (if_neg c).symm.trans h
      obtain rfl := Option.some.inj h
      obtain ⟨rfl, rfl⟩ := hK
      exact jb_retv rfl rfl
theorem ze_223 {Γ : jb_G} {L : Nat} {d : Nat} (x1 : Int32) (M : jb_Mi) (N : jb_Ml) {r : (jb_Mi)} (h : zf_223 x1 M = some r) : jb_V Γ d zq_223 0 (jb_en 2 [(.ref 79), (.int x1)]) [] (zE L, M, N) (none) (zE L, r, N) := zg_223 x1 M N h ⟨rfl, rfl⟩
-- X13_letsSag
set_option maxRecDepth 20000 in
theorem zg_224_J133 {Γ : jb_G} {L : Nat} {d : Nat} (hd : 3 ≤ d) (s0 : Int32) (M : jb_Mi) (N : jb_Ml) {v : Option Value} {σ2 : jb_S} {r : (Bool × jb_Mi)} (h : zf_224_J133 s0 M = some r) (hK : (fun r : Bool × jb_Mi => v = some (.int (jb_b2i r.1)) ∧ σ2 = (zE L, r.2, N)) r) : jb_V Γ d zq_224 133 [some (.ref 79), none, none, none, none, none] [(.int s0)] (zE L, M, N) v σ2 := by
  obtain ⟨d, rfl⟩ : ∃ e, d = e + 1 := ⟨d - 1, by omega⟩
  unfold zf_224_J133 at h
  refine jb_seg 3 (pc' := (if s0 = 0 then 150 else 140)) (ls' := [some (.ref 79), none, none, none, none, some (.int s0)]) (st' := []) (σ' := (zE L, M, N)) (G := []) rfl trivial ?_
  refine jb_ite (fun c => ?_) (fun c => ?_)
  · replace h := (if_pos c).symm.trans h
    refine jb_seg 1 (pc' := 152) (ls' := [some (.ref 79), none, none, none, none, some (.int s0)]) (st' := [(.int s0)]) (σ' := (zE L, M, N)) (G := []) rfl trivial ?_
    rcases jb_gz_of h with ⟨c, h⟩ | ⟨c, h⟩
    · rw [c]
      obtain rfl := Option.some.inj h
      obtain ⟨rfl, rfl⟩ := hK
      exact jb_retz (by decide) rfl rfl
    · rw [c]
      obtain rfl := Option.some.inj h
      obtain ⟨rfl, rfl⟩ := hK
      exact jb_retz (by decide) rfl rfl
  · replace h := (if_neg c).symm.trans h
    refine jb_seg 7 (pc' := 152) (ls' := [some (.ref 79), none, none, none, none, some (.int s0)]) (st' := [(.int s0)]) (σ' := (zE L, (jb_up M 79 39 ((M 79 39) + 1)), N)) (G := []) rfl trivial ?_
    rcases jb_gz_of h with ⟨c, h⟩ | ⟨c, h⟩
    · rw [c]
      obtain rfl := Option.some.inj h
      obtain ⟨rfl, rfl⟩ := hK
      exact jb_retz (by decide) rfl rfl
    · rw [c]
      obtain rfl := Option.some.inj h
      obtain ⟨rfl, rfl⟩ := hK
      exact jb_retz (by decide) rfl rfl
set_option maxRecDepth 20000 in
theorem zg_224 {Γ : jb_G} {L : Nat} {d : Nat} (hd : 3 ≤ d) (x1 : Int32) (x2 : Int32) (x3 : Int32) (M : jb_Mi) (N : jb_Ml) {v : Option Value} {σ2 : jb_S} {r : (Bool × jb_Mi)} (h : zf_224 x1 x2 x3 M = some r) (hK : (fun r : Bool × jb_Mi => v = some (.int (jb_b2i r.1)) ∧ σ2 = (zE L, r.2, N)) r) : jb_V Γ d zq_224 0 [some (.ref 79), some (.int x1), some (.int x2), some (.int x3), none, none] [] (zE L, M, N) v σ2 := by
  obtain ⟨d, rfl⟩ : ∃ e, d = e + 1 := ⟨d - 1, by omega⟩
  unfold zf_224 at h
  refine jb_seg 4 (pc' := 4) (ls' := [some (.ref 79), some (.int x1), some (.int x2), some (.int x3), none, none]) (st' := [(.int x3), (.int x2), (.int x1), (.ref 79)]) (σ' := (zE L, M, N)) (G := []) rfl trivial ?_
  obtain ⟨q1, h1, h⟩ := jb_bd_of h
  refine jb_callV (q' := zq_211) (As := [(.int x1), (.int x2), (.int x3)]) (rest := []) (σ1 := (zE L, q1, N)) (v := none) rfl rfl zp_211 rfl (Nat.le_of_ble_eq_true rfl) (jb_cat rfl) (Nat.le_of_ble_eq_true rfl) (Nat.le_of_ble_eq_true rfl) (Or.inl rfl) rfl (ze_211 (by omega) x1 x2 x3 M N h1) ?_
  obtain ⟨g2, h⟩ := jb_gd_of h
  refine jb_seg 15 (pc' := 33) (ls' := [some (.ref 79), some (.int x1), some (.int x2), some (.int x3), none, none]) (st' := [(.int 99), (.int 116), (.ref 79), (.int (q1 80 ((130 + x1)).toNatClampNeg)), (.int 99), (.int (130 + x1)), (.ref 80)]) (σ' := (zE L, q1, N)) (G := [vp_in (130 + x1) 149]) rfl g2 ?_
  obtain ⟨q3, h3, h⟩ := jb_bd_of h
  refine jb_callV (q' := zq_208) (As := [(.int 116), (.int 99)]) (rest := [(.int (q1 80 ((130 + x1)).toNatClampNeg)), (.int 99), (.int (130 + x1)), (.ref 80)]) (σ1 := (zE L, q3.2, N)) (v := some (.int q3.1)) rfl rfl zp_208 rfl (Nat.le_of_ble_eq_true rfl) (jb_cat rfl) (Nat.le_of_ble_eq_true rfl) (Nat.le_of_ble_eq_true rfl) (Or.inl rfl) rfl (ze_208 (by omega) 116 99 q1 N h3) ?_
  refine jb_seg 1 (pc' := 37) (ls' := [some (.ref 79), some (.int x1), some (.int x2), some (.int x3), none, none]) (st' := [(.int ((q1 80 ((130 + x1)).toNatClampNeg) + q3.1)), (.int 99), (.int (130 + x1)), (.ref 80)]) (σ' := (zE L, q3.2, N)) (G := []) rfl trivial ?_
  refine jb_callS (q' := zq_165) (As := [(.int 99), (.int ((q1 80 ((130 + x1)).toNatClampNeg) + q3.1))]) (rest := [(.int (130 + x1)), (.ref 80)]) (σ1 := (zE L, q3.2, N)) (v := some (.int (zf_165 99 ((q1 80 ((130 + x1)).toNatClampNeg) + q3.1)))) rfl (Nat.le_of_ble_eq_true rfl) rfl zp_165 (jb_cat rfl) (Nat.le_of_ble_eq_true rfl) (Nat.le_of_ble_eq_true rfl) (Or.inl rfl) rfl (ze_165 99 ((q1 80 ((130 + x1)).toNatClampNeg) + q3.1) q3.2 N rfl) ?_
  obtain ⟨g4, h⟩ := jb_gd_of h
  refine jb_seg 5 (pc' := 45) (ls' := [some (.ref 79), some (.int x1), some (.int x2), some (.int x3), none, none]) (st' := [(.int x3), (.int x2), (.int x1), (.ref 79)]) (σ' := (zE L, (jb_up q3.2 80 ((130 + x1)).toNatClampNeg (zf_165 99 ((q1 80 ((130 + x1)).toNatClampNeg) + q3.1))), N)) (G := [vp_in (130 + x1) 149]) rfl g4 ?_
  obtain ⟨q5, h5, h⟩ := jb_bd_of h
  refine jb_callV (q' := zq_211) (As := [(.int x1), (.int x2), (.int x3)]) (rest := []) (σ1 := (zE L, q5, N)) (v := none) rfl rfl zp_211 rfl (Nat.le_of_ble_eq_true rfl) (jb_cat rfl) (Nat.le_of_ble_eq_true rfl) (Nat.le_of_ble_eq_true rfl) (Or.inl rfl) rfl (ze_211 (by omega) x1 x2 x3 (jb_up q3.2 80 ((130 + x1)).toNatClampNeg (zf_165 99 ((q1 80 ((130 + x1)).toNatClampNeg) + q3.1))) N h5) ?_
  obtain ⟨g6, h⟩ := jb_gd_of h
  refine jb_seg 8 (pc' := (if (q5 80 ((130 + x1)).toNatClampNeg) = 99 then 72 else 63)) (ls' := [some (.ref 79), some (.int x1), some (.int x2), some (.int x3), none, none]) (st' := []) (σ' := (zE L, q5, N)) (G := [vp_in (130 + x1) 149]) rfl g6 ?_
  refine jb_ite (fun c => ?_) (fun c => ?_)
  · replace h := (if_pos c).symm.trans h
    refine jb_seg 1 (pc' := 73) (ls' := [some (.ref 79), some (.int x1), some (.int x2), some (.int x3), none, none]) (st' := [(.int 1)]) (σ' := (zE L, q5, N)) (G := []) rfl trivial ?_
    obtain rfl := Option.some.inj h
    obtain ⟨rfl, rfl⟩ := hK
    exact jb_retz (by decide) rfl rfl
  · replace h := (if_neg c).symm.trans h
    refine jb_seg 2 (pc' := 66) (ls' := [some (.ref 79), some (.int x1), some (.int x2), some (.int x3), none, none]) (st' := [(.int 120), (.ref 79)]) (σ' := (zE L, q5, N)) (G := []) rfl trivial ?_
    obtain ⟨q7, h7, h⟩ := jb_bd_of h
    refine jb_callV (q' := zq_209) (As := [(.int 120)]) (rest := []) (σ1 := (zE L, q7.2, N)) (v := some (.int (jb_b2i q7.1))) rfl rfl zp_209 rfl (Nat.le_of_ble_eq_true rfl) (jb_cat rfl) (Nat.le_of_ble_eq_true rfl) (Nat.le_of_ble_eq_true rfl) (Or.inl rfl) rfl (ze_209 (by omega) 120 q5 N h7) ?_
    refine jb_seg 1 (pc' := (if (jb_b2i q7.1) = 0 then 74 else 72)) (ls' := [some (.ref 79), some (.int x1), some (.int x2), some (.int x3), none, none]) (st' := []) (σ' := (zE L, q7.2, N)) (G := []) rfl trivial ?_
    refine jb_ite (fun c => ?_) (fun c => ?_)
    · replace h := (if_pos c).symm.trans h
      refine jb_seg 3 (pc' := 79) (ls' := [some (.ref 79), some (.int x1), some (.int x2), some (.int x3), none, none]) (st' := [(.int 10), (.int 100), (.ref 79)]) (σ' := (zE L, q7.2, N)) (G := []) rfl trivial ?_
      obtain ⟨q8, h8, h⟩ := jb_bd_of h
      refine jb_callV (q' := zq_208) (As := [(.int 100), (.int 10)]) (rest := []) (σ1 := (zE L, q8.2, N)) (v := some (.int q8.1)) rfl rfl zp_208 rfl (Nat.le_of_ble_eq_true rfl) (jb_cat rfl) (Nat.le_of_ble_eq_true rfl) (Nat.le_of_ble_eq_true rfl) (Or.inl rfl) rfl (ze_208 (by omega) 100 10 q7.2 N h8) ?_
      refine jb_seg 23 (pc' := (if (((jb_up q8.2 80 148 (((25173 * (q8.2 80 148)) + 13849) - ((25173 * (q8.2 80 148)) + 13849) / 65536 * 65536)) 80 148) - ((jb_up q8.2 80 148 (((25173 * (q8.2 80 148)) + 13849) - ((25173 * (q8.2 80 148)) + 13849) / 65536 * 65536)) 80 148) / 10 * 10) < q8.1 then 128 else 132)) (ls' := [some (.ref 79), some (.int x1), some (.int x2), some (.int x3), some (.int q8.1), none]) (st' := []) (σ' := (zE L, (jb_up q8.2 80 148 (((25173 * (q8.2 80 148)) + 13849) - ((25173 * (q8.2 80 148)) + 13849) / 65536 * 65536)), N)) (G := [vp_in 148 149, ¬ (65536 : Int32) = 0, vp_in 148 149, vp_in 148 149, ¬ (10 : Int32) = 0]) rfl ⟨(show vp_in 148 149 from (by unfold vp_in; decide)), (show ¬ (65536 : Int32) = 0 from (by decide)), (show vp_in 148 149 from (by unfold vp_in; decide)), (show vp_in 148 149 from (by unfold vp_in; decide)), (show ¬ (10 : Int32) = 0 from (by decide))⟩ ?_
      refine jb_ite (fun c => ?_) (fun c => ?_)
      · replace h := (if_pos c).symm.trans h
        refine jb_seg 2 (pc' := 133) (ls' := [some (.ref 79), some (.int x1), some (.int x2), some (.int x3), some (.int q8.1), none]) (st' := [(.int 1)]) (σ' := (zE L, (jb_up q8.2 80 148 (((25173 * (q8.2 80 148)) + 13849) - ((25173 * (q8.2 80 148)) + 13849) / 65536 * 65536)), N)) (G := []) rfl trivial ?_
        exact jb_mask [true, false, false, false, false, false] rfl (zg_224_J133 hd 1 (jb_up q8.2 80 148 (((25173 * (q8.2 80 148)) + 13849) - ((25173 * (q8.2 80 148)) + 13849) / 65536 * 65536)) N h hK)
      · replace h := (if_neg c).symm.trans h
        refine jb_seg 1 (pc' := 133) (ls' := [some (.ref 79), some (.int x1), some (.int x2), some (.int x3), some (.int q8.1), none]) (st' := [(.int 0)]) (σ' := (zE L, (jb_up q8.2 80 148 (((25173 * (q8.2 80 148)) + 13849) - ((25173 * (q8.2 80 148)) + 13849) / 65536 * 65536)), N)) (G := []) rfl trivial ?_
        exact jb_mask [true, false, false, false, false, false] rfl (zg_224_J133 hd 0 (jb_up q8.2 80 148 (((25173 * (q8.2 80 148)) + 13849) - ((25173 * (q8.2 80 148)) + 13849) / 65536 * 65536)) N h hK)
    · replace h := (if_neg c).symm.trans h
      refine jb_seg 1 (pc' := 73) (ls' := [some (.ref 79), some (.int x1), some (.int x2), some (.int x3), none, none]) (st' := [(.int 1)]) (σ' := (zE L, q7.2, N)) (G := []) rfl trivial ?_
      obtain rfl := Option.some.inj h
      obtain ⟨rfl, rfl⟩ := hK
      exact jb_retz (by decide) rfl rfl
theorem ze_224 {Γ : jb_G} {L : Nat} {d : Nat} (hd : 3 ≤ d) (x1 : Int32) (x2 : Int32) (x3 : Int32) (M : jb_Mi) (N : jb_Ml) {r : (Bool × jb_Mi)} (h : zf_224 x1 x2 x3 M = some r) : jb_V Γ d zq_224 0 (jb_en 6 [(.ref 79), (.int x1), (.int x2), (.int x3)]) [] (zE L, M, N) (some (.int (jb_b2i r.1))) (zE L, r.2, N) := zg_224 hd x1 x2 x3 M N h ⟨rfl, rfl⟩
-- X13_holds
set_option maxRecDepth 20000 in
theorem zg_225_J27 {Γ : jb_G} {L : Nat} {d : Nat} (hd : 4 ≤ d) (x1 : Int32) (M : jb_Mi) (N : jb_Ml) {v : Option Value} {σ2 : jb_S} {r : (jb_Mi)} (h : zf_225_J27 x1 M = some r) (hK : (fun r : jb_Mi => v = none ∧ σ2 = (zE L, r, N)) r) : jb_V Γ d zq_225 27 [some (.ref 79), some (.int x1), none, none] [] (zE L, M, N) v σ2 := by
  obtain ⟨d, rfl⟩ : ∃ e, d = e + 1 := ⟨d - 1, by omega⟩
  unfold zf_225_J27 at h
  refine jb_seg 8 (pc' := 39) (ls' := [some (.ref 79), some (.int x1), none, none]) (st' := [(.int x1), (.ref 79)]) (σ' := (zE L, (jb_up M 79 40 ((M 79 40) + 1)), N)) (G := []) rfl trivial ?_
  obtain ⟨q2, h2, h⟩ := jb_bd_of h
  refine jb_callV (q' := zq_223) (As := [(.int x1)]) (rest := []) (σ1 := (zE L, q2, N)) (v := none) rfl rfl zp_223 rfl (Nat.le_of_ble_eq_true rfl) (jb_cat rfl) (Nat.le_of_ble_eq_true rfl) (Nat.le_of_ble_eq_true rfl) (Or.inl rfl) rfl (ze_223 x1 (jb_up M 79 40 ((M 79 40) + 1)) N h2) ?_
  obtain rfl := Option.some.inj h
  obtain ⟨rfl, rfl⟩ := hK
  exact jb_retv rfl rfl
set_option maxRecDepth 20000 in
theorem zg_225 {Γ : jb_G} {L : Nat} {d : Nat} (hd : 4 ≤ d) (x1 : Int32) (x2 : Int32) (M : jb_Mi) (N : jb_Ml) {v : Option Value} {σ2 : jb_S} {r : (jb_Mi)} (h : zf_225 x1 x2 M = some r) (hK : (fun r : jb_Mi => v = none ∧ σ2 = (zE L, r, N)) r) : jb_V Γ d zq_225 0 [some (.ref 79), some (.int x1), some (.int x2), none] [] (zE L, M, N) v σ2 := by
  obtain ⟨d, rfl⟩ : ∃ e, d = e + 1 := ⟨d - 1, by omega⟩
  unfold zf_225 at h
  refine jb_seg 7 (pc' := 7) (ls' := [some (.ref 79), some (.int x1), some (.int x2), none]) (st' := [(.int 0), (.int ((4 * x1) + x2)), (.ref 79)]) (σ' := (zE L, M, N)) (G := []) rfl trivial ?_
  obtain ⟨q1, h1, h⟩ := jb_bd_of h
  refine jb_callV (q' := zq_216) (As := [(.int ((4 * x1) + x2)), (.int 0)]) (rest := []) (σ1 := (zE L, M, N)) (v := some (.int q1)) rfl rfl zp_216 rfl (Nat.le_of_ble_eq_true rfl) (jb_cat rfl) (Nat.le_of_ble_eq_true rfl) (Nat.le_of_ble_eq_true rfl) (Or.inl rfl) rfl (ze_216 (by omega) ((4 * x1) + x2) 0 M N h1) ?_
  refine jb_seg 4 (pc' := (if q1 = (-1) then 27 else 16)) (ls' := [some (.ref 79), some (.int x1), some (.int x2), some (.int q1)]) (st' := []) (σ' := (zE L, M, N)) (G := []) rfl trivial ?_
  refine jb_ite (fun c => ?_) (fun c => ?_)
  · replace h := (if_pos c).symm.trans h
    exact jb_mask [true, true, false, false] rfl (zg_225_J27 hd x1 M N h hK)
  · replace h := (if_neg c).symm.trans h
    refine jb_seg 3 (pc' := 21) (ls' := [some (.ref 79), some (.int x1), some (.int x2), some (.int q1)]) (st' := [(.int q1), (.int (M 79 44))]) (σ' := (zE L, M, N)) (G := []) rfl trivial ?_
    refine jb_callS (q' := zq_168) (As := [(.int (M 79 44)), (.int q1)]) (rest := []) (σ1 := (zE L, M, N)) (v := some (.int (jb_b2i (zf_168 (M 79 44) q1)))) rfl (Nat.le_of_ble_eq_true rfl) rfl zp_168 (jb_cat rfl) (Nat.le_of_ble_eq_true rfl) (Nat.le_of_ble_eq_true rfl) (Or.inl rfl) rfl (ze_168 (M 79 44) q1 M N rfl) ?_
    refine jb_seg 1 (pc' := (if (jb_b2i (zf_168 (M 79 44) q1)) = 0 then 43 else 27)) (ls' := [some (.ref 79), some (.int x1), some (.int x2), some (.int q1)]) (st' := []) (σ' := (zE L, M, N)) (G := []) rfl trivial ?_
    refine jb_ite (fun c => ?_) (fun c => ?_)
    · replace h := (if_pos c).symm.trans h
      refine jb_seg 12 (pc' := 59) (ls' := [some (.ref 79), some (.int x1), some (.int x2), some (.int q1)]) (st' := [(.int x2), (.int x1), (.int q1), (.ref 79)]) (σ' := (zE L, (jb_up M 79 44 ((M 79 44) ||| ((1 : Int32) <<< (q1 &&& 31)))), N)) (G := []) rfl trivial ?_
      obtain ⟨q3, h3, h⟩ := jb_bd_of h
      refine jb_callV (q' := zq_224) (As := [(.int q1), (.int x1), (.int x2)]) (rest := []) (σ1 := (zE L, q3.2, N)) (v := some (.int (jb_b2i q3.1))) rfl rfl zp_224 rfl (Nat.le_of_ble_eq_true rfl) (jb_cat rfl) (Nat.le_of_ble_eq_true rfl) (Nat.le_of_ble_eq_true rfl) (Or.inl rfl) rfl (ze_224 (by omega) q1 x1 x2 (jb_up M 79 44 ((M 79 44) ||| ((1 : Int32) <<< (q1 &&& 31)))) N h3) ?_
      refine jb_seg 1 (pc' := (if (jb_b2i q3.1) = 0 then 70 else 65)) (ls' := [some (.ref 79), some (.int x1), some (.int x2), some (.int q1)]) (st' := []) (σ' := (zE L, q3.2, N)) (G := []) rfl trivial ?_
      refine jb_ite (fun c => ?_) (fun c => ?_)
      · replace h := (if_pos c).symm.trans h
        obtain rfl := Option.some.inj h
        obtain ⟨rfl, rfl⟩ := hK
        exact jb_retv rfl rfl
      · replace h := (if_neg c).symm.trans h
        refine jb_seg 2 (pc' := 67) (ls' := [some (.ref 79), some (.int x1), some (.int x2), some (.int q1)]) (st' := [(.int x1), (.ref 79)]) (σ' := (zE L, q3.2, N)) (G := []) rfl trivial ?_
        obtain ⟨q4, h4, h⟩ := jb_bd_of h
        refine jb_callV (q' := zq_223) (As := [(.int x1)]) (rest := []) (σ1 := (zE L, q4, N)) (v := none) rfl rfl zp_223 rfl (Nat.le_of_ble_eq_true rfl) (jb_cat rfl) (Nat.le_of_ble_eq_true rfl) (Nat.le_of_ble_eq_true rfl) (Or.inl rfl) rfl (ze_223 x1 q3.2 N h4) ?_
        obtain rfl := Option.some.inj h
        obtain ⟨rfl, rfl⟩ := hK
        exact jb_retv rfl rfl
    · replace h := (if_neg c).symm.trans h
      exact jb_mask [true, true, false, false] rfl (zg_225_J27 hd x1 M N h hK)
theorem ze_225 {Γ : jb_G} {L : Nat} {d : Nat} (hd : 4 ≤ d) (x1 : Int32) (x2 : Int32) (M : jb_Mi) (N : jb_Ml) {r : (jb_Mi)} (h : zf_225 x1 x2 M = some r) : jb_V Γ d zq_225 0 (jb_en 4 [(.ref 79), (.int x1), (.int x2)]) [] (zE L, M, N) (none) (zE L, r, N) := zg_225 hd x1 x2 M N h ⟨rfl, rfl⟩
