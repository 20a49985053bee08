-- X13_toldMen
set_option maxRecDepth 20000 in
theorem zg_257_J24 {Γ : jb_G} {L : Nat} {d : Nat} (hd : 2 ≤ d) (x1 : Int32) (x2 : Int32) (M : jb_Mi) (N : jb_Ml) {v : Option Value} {σ2 : jb_S} {r : ((Int32 × Int32) ⊕ (Int32))} (h : zf_257_J24 x1 x2 M = some r) (hK : (jb_K (fun s : Int32 × Int32 => jb_V Γ d zq_257 4 [some (.ref 79), some (.int s.1), some (.int s.2)] [] (zE L, M, N) v σ2) (fun r : Int32 => v = some (.int r) ∧ σ2 = (zE L, M, N))) r) : jb_V Γ d zq_257 24 [some (.ref 79), some (.int x1), some (.int x2)] [] (zE L, M, N) v σ2 := by
  obtain ⟨d, rfl⟩ : ∃ e, d = e + 1 := ⟨d - 1, by omega⟩
  unfold zf_257_J24 at h
  refine jb_seg 2 (pc' := 4) (ls' := [some (.ref 79), some (.int x1), some (.int (x2 + 1))]) (st' := []) (σ' := (zE L, M, N)) (G := []) rfl trivial ?_
  obtain rfl := Option.some.inj h
  exact jb_mask [true, true, true] rfl hK
set_option maxRecDepth 20000 in
theorem zg_257_H4 {Γ : jb_G} {L : Nat} {d : Nat} (hd : 2 ≤ d) (M : jb_Mi) (N : jb_Ml) (s : Int32 × Int32) {v : Option Value} {σ2 : jb_S} {r : ((Int32 × Int32) ⊕ (Int32))} (h : zf_257_H4 M s = some r) (hK : (jb_K (fun s : Int32 × Int32 => jb_V Γ d zq_257 4 [some (.ref 79), some (.int s.1), some (.int s.2)] [] (zE L, M, N) v σ2) (fun r : Int32 => v = some (.int r) ∧ σ2 = (zE L, M, N))) r) : jb_V Γ d zq_257 4 [some (.ref 79), some (.int s.1), some (.int s.2)] [] (zE L, M, N) v σ2 := by
  obtain ⟨d, rfl⟩ : ∃ e, d = e + 1 := ⟨d - 1, by omega⟩
  unfold zf_257_H4 at h
  refine jb_seg 3 (pc' := (if s.2 < 16 then 10 else 30)) (ls' := [some (.ref 79), some (.int s.1), some (.int s.2)]) (st' := []) (σ' := (zE L, M, N)) (G := []) rfl trivial ?_
  refine jb_ite (fun c => ?_) (fun c => ?_)
  · replace h := (if_pos c).symm.trans h
    refine jb_seg 2 (pc' := 12) (ls' := [some (.ref 79), some (.int s.1), some (.int s.2)]) (st' := [(.int s.2), (.ref 79)]) (σ' := (zE L, M, N)) (G := []) rfl trivial ?_
    obtain ⟨q1, h1, h⟩ := jb_bd_of h
    refine jb_callV (q' := zq_174) (As := [(.int s.2)]) (rest := []) (σ1 := (zE L, M, N)) (v := some (.int (jb_b2i q1))) rfl rfl zp_174 rfl (Nat.le_of_ble_eq_true rfl) (jb_cat rfl) (Nat.le_of_ble_eq_true rfl) (Nat.le_of_ble_eq_true rfl) (Or.inl rfl) rfl (ze_174 (by omega) s.2 M N h1) ?_
    refine jb_seg 1 (pc' := (if (jb_b2i q1) = 0 then 24 else 18)) (ls' := [some (.ref 79), some (.int s.1), some (.int s.2)]) (st' := []) (σ' := (zE L, M, N)) (G := []) rfl trivial ?_
    refine jb_ite (fun c => ?_) (fun c => ?_)
    · replace h := (if_pos c).symm.trans h
      exact jb_mask [true, true, true] rfl (zg_257_J24 hd s.1 s.2 M N h hK)
    · replace h := (if_neg c).symm.trans h
      refine jb_seg 6 (pc' := 24) (ls' := [some (.ref 79), some (.int (s.1 ||| ((1 : Int32) <<< (s.2 &&& 31)))), some (.int s.2)]) (st' := []) (σ' := (zE L, M, N)) (G := []) rfl trivial ?_
      exact jb_mask [true, true, true] rfl (zg_257_J24 hd (s.1 ||| ((1 : Int32) <<< (s.2 &&& 31))) s.2 M N h hK)
  · replace h := (if_neg c).symm.trans h
    refine jb_seg 1 (pc' := 31) (ls' := [some (.ref 79), some (.int s.1), some (.int s.2)]) (st' := [(.int s.1)]) (σ' := (zE L, M, N)) (G := []) rfl trivial ?_
    obtain rfl := Option.some.inj h
    obtain ⟨rfl, rfl⟩ := hK
    exact jb_reti rfl rfl
theorem zg_257_H4L {Γ : jb_G} {L : Nat} {d : Nat} (hd : 2 ≤ d) (M : jb_Mi) (N : jb_Ml) {v : Option Value} {σ2 : jb_S} {s : Int32 × Int32} {r : (Int32)} (h : jb_lp (zf_257_H4 M) s = some r) (hK : (fun r : Int32 => v = some (.int r) ∧ σ2 = (zE L, M, N)) r) : jb_V Γ d zq_257 4 [some (.ref 79), some (.int s.1), some (.int s.2)] [] (zE L, M, N) v σ2 := by
  exact @jb_lp_ind (Int32 × Int32) ((Int32)) (zf_257_H4 M) (fun s => jb_V Γ d zq_257 4 [some (.ref 79), some (.int s.1), some (.int s.2)] [] (zE L, M, N) v σ2) (fun r : Int32 => v = some (.int r) ∧ σ2 = (zE L, M, N)) (fun s r h hk => zg_257_H4 hd M N s h hk) s r h hK
set_option maxRecDepth 20000 in
theorem zg_257 {Γ : jb_G} {L : Nat} {d : Nat} (hd : 2 ≤ d) (M : jb_Mi) (N : jb_Ml) {v : Option Value} {σ2 : jb_S} {r : (Int32)} (h : zf_257 M = some r) (hK : (fun r : Int32 => v = some (.int r) ∧ σ2 = (zE L, M, N)) r) : jb_V Γ d zq_257 0 [some (.ref 79), none, none] [] (zE L, M, N) v σ2 := by
  obtain ⟨d, rfl⟩ : ∃ e, d = e + 1 := ⟨d - 1, by omega⟩
  unfold zf_257 at h
  refine jb_seg 4 (pc' := 4) (ls' := [some (.ref 79), some (.int 0), some (.int 0)]) (st' := []) (σ' := (zE L, M, N)) (G := []) rfl trivial ?_
  exact jb_mask [true, true, true] rfl (zg_257_H4L hd M N h hK)
theorem ze_257 {Γ : jb_G} {L : Nat} {d : Nat} (hd : 2 ≤ d) (M : jb_Mi) (N : jb_Ml) {r : (Int32)} (h : zf_257 M = some r) : jb_V Γ d zq_257 0 (jb_en 3 [(.ref 79)]) [] (zE L, M, N) (some (.int r)) (zE L, M, N) := zg_257 hd M N h ⟨rfl, rfl⟩
-- X13_strike
set_option maxRecDepth 20000 in
theorem zg_258_J100 {Γ : jb_G} {L : Nat} {d : Nat} (hd : 4 ≤ d) (x1 : Int32) (x2 : Int32) (x3 : Int32) (x4 : Int32) (x5 : Int32) (x6 : Int32) (M : jb_Mi) (N : jb_Ml) {v : Option Value} {σ2 : jb_S} {r : ((Int32 × Int32 × Int32) ⊕ (Int32))} (h : zf_258_J100 x1 x2 x3 x4 x5 x6 M = some r) (hK : (jb_K (fun s : Int32 × Int32 × Int32 => jb_V Γ d zq_258 45 [some (.ref 79), some (.int x1), some (.int x2), some (.int x3), some (.int s.1), some (.int s.2.1), some (.int s.2.2), none] [] (zE L, M, N) v σ2) (fun r : Int32 => v = some (.int r) ∧ σ2 = (zE L, M, N))) r) : jb_V Γ d zq_258 100 [some (.ref 79), some (.int x1), some (.int x2), some (.int x3), some (.int x4), some (.int x5), some (.int x6), none] [] (zE L, M, N) v σ2 := by
  obtain ⟨d, rfl⟩ : ∃ e, d = e + 1 := ⟨d - 1, by omega⟩
  unfold zf_258_J100 at h
  refine jb_seg 2 (pc' := 45) (ls' := [some (.ref 79), some (.int x1), some (.int x2), some (.int x3), some (.int x4), some (.int x5), some (.int (x6 + 1)), none]) (st' := []) (σ' := (zE L, M, N)) (G := []) rfl trivial ?_
  obtain rfl := Option.some.inj h
  exact jb_mask [true, true, true, true, true, true, true, false] rfl hK
set_option maxRecDepth 20000 in
theorem zg_258_H45 {Γ : jb_G} {L : Nat} {d : Nat} (hd : 4 ≤ d) (x1 : Int32) (x2 : Int32) (x3 : Int32) (M : jb_Mi) (N : jb_Ml) (s : Int32 × Int32 × Int32) {v : Option Value} {σ2 : jb_S} {r : ((Int32 × Int32 × Int32) ⊕ (Int32))} (h : zf_258_H45 x1 x2 x3 M s = some r) (hK : (jb_K (fun s : Int32 × Int32 × Int32 => jb_V Γ d zq_258 45 [some (.ref 79), some (.int x1), some (.int x2), some (.int x3), some (.int s.1), some (.int s.2.1), some (.int s.2.2), none] [] (zE L, M, N) v σ2) (fun r : Int32 => v = some (.int r) ∧ σ2 = (zE L, M, N))) r) : jb_V Γ d zq_258 45 [some (.ref 79), some (.int x1), some (.int x2), some (.int x3), some (.int s.1), some (.int s.2.1), some (.int s.2.2), none] [] (zE L, M, N) v σ2 := by
  obtain ⟨d, rfl⟩ : ∃ e, d = e + 1 := ⟨d - 1, by omega⟩
  unfold zf_258_H45 at h
  refine jb_seg 3 (pc' := (if s.2.2 < 65536 then 53 else 106)) (ls' := [some (.ref 79), some (.int x1), some (.int x2), some (.int x3), some (.int s.1), some (.int s.2.1), some (.int s.2.2), none]) (st' := []) (σ' := (zE L, M, N)) (G := []) rfl trivial ?_
  refine jb_ite (fun c => ?_) (fun c => ?_)
  · replace h := (if_pos c).symm.trans h
    refine jb_seg 6 (pc' := (if (s.2.2 &&& (x3 ^^^ (-1))) = 0 then 62 else 100)) (ls' := [some (.ref 79), some (.int x1), some (.int x2), some (.int x3), some (.int s.1), some (.int s.2.1), some (.int s.2.2), none]) (st' := []) (σ' := (zE L, M, N)) (G := []) rfl trivial ?_
    refine jb_ite (fun c => ?_) (fun c => ?_)
    · replace h := (if_pos c).symm.trans h
      refine jb_seg 1 (pc' := 64) (ls' := [some (.ref 79), some (.int x1), some (.int x2), some (.int x3), some (.int s.1), some (.int s.2.1), some (.int s.2.2), none]) (st' := [(.int s.2.2)]) (σ' := (zE L, M, N)) (G := []) rfl trivial ?_
      obtain ⟨q3, h3, h⟩ := jb_bd_of h
      refine jb_callS (q' := zq_169) (As := [(.int s.2.2)]) (rest := []) (σ1 := (zE L, M, N)) (v := some (.int q3)) rfl (Nat.le_of_ble_eq_true rfl) rfl zp_169 (jb_cat rfl) (Nat.le_of_ble_eq_true rfl) (Nat.le_of_ble_eq_true rfl) (Or.inl rfl) rfl (ze_169 s.2.2 M N h3) ?_
      refine jb_seg 2 (pc' := (if q3 = x1 then 74 else 71)) (ls' := [some (.ref 79), some (.int x1), some (.int x2), some (.int x3), some (.int s.1), some (.int s.2.1), some (.int s.2.2), none]) (st' := []) (σ' := (zE L, M, N)) (G := []) rfl trivial ?_
      refine jb_ite (fun c => ?_) (fun c => ?_)
      · replace h := (if_pos c).symm.trans h
        refine jb_seg 2 (pc' := 77) (ls' := [some (.ref 79), some (.int x1), some (.int x2), some (.int x3), some (.int s.1), some (.int s.2.1), some (.int s.2.2), none]) (st' := [(.int s.2.2), (.ref 79)]) (σ' := (zE L, M, N)) (G := []) rfl trivial ?_
        obtain ⟨q4, h4, h⟩ := jb_bd_of h
        refine jb_callV (q' := zq_256) (As := [(.int s.2.2)]) (rest := []) (σ1 := (zE L, M, N)) (v := some (.int q4)) rfl rfl zp_256 rfl (Nat.le_of_ble_eq_true rfl) (jb_cat rfl) (Nat.le_of_ble_eq_true rfl) (Nat.le_of_ble_eq_true rfl) (Or.inl rfl) rfl (ze_256 (by omega) s.2.2 M N h4) ?_
        refine jb_seg 4 (pc' := (if s.2.1 < q4 then 92 else 89)) (ls' := [some (.ref 79), some (.int x1), some (.int x2), some (.int x3), some (.int s.1), some (.int s.2.1), some (.int s.2.2), some (.int q4)]) (st' := []) (σ' := (zE L, M, N)) (G := []) rfl trivial ?_
        refine jb_ite (fun c => ?_) (fun c => ?_)
        · replace h := (if_pos c).symm.trans h
          refine jb_seg 4 (pc' := 100) (ls' := [some (.ref 79), some (.int x1), some (.int x2), some (.int x3), some (.int s.2.2), some (.int q4), some (.int s.2.2), some (.int q4)]) (st' := []) (σ' := (zE L, M, N)) (G := []) rfl trivial ?_
          exact jb_mask [true, true, true, true, true, true, true, false] rfl (zg_258_J100 hd x1 x2 x3 s.2.2 q4 s.2.2 M N h hK)
        · replace h := (if_neg c).symm.trans h
          refine jb_seg 1 (pc' := 100) (ls' := [some (.ref 79), some (.int x1), some (.int x2), some (.int x3), some (.int s.1), some (.int s.2.1), some (.int s.2.2), some (.int q4)]) (st' := []) (σ' := (zE L, M, N)) (G := []) rfl trivial ?_
          exact jb_mask [true, true, true, true, true, true, true, false] rfl (zg_258_J100 hd x1 x2 x3 s.1 s.2.1 s.2.2 M N h hK)
      · replace h := (if_neg c).symm.trans h
        refine jb_seg 1 (pc' := 100) (ls' := [some (.ref 79), some (.int x1), some (.int x2), some (.int x3), some (.int s.1), some (.int s.2.1), some (.int s.2.2), none]) (st' := []) (σ' := (zE L, M, N)) (G := []) rfl trivial ?_
        exact jb_mask [true, true, true, true, true, true, true, false] rfl (zg_258_J100 hd x1 x2 x3 s.1 s.2.1 s.2.2 M N h hK)
    · replace h := (if_neg c).symm.trans h
      exact jb_mask [true, true, true, true, true, true, true, false] rfl (zg_258_J100 hd x1 x2 x3 s.1 s.2.1 s.2.2 M N h hK)
  · replace h := (if_neg c).symm.trans h
    refine jb_seg 2 (pc' := (if x2 = 0 then 110 else 121)) (ls' := [some (.ref 79), some (.int x1), some (.int x2), some (.int x3), some (.int s.1), some (.int s.2.1), some (.int s.2.2), none]) (st' := []) (σ' := (zE L, M, N)) (G := []) rfl trivial ?_
    refine jb_ite (fun c => ?_) (fun c => ?_)
    · replace h := (if_pos c).symm.trans h
      refine jb_seg 3 (pc' := 114) (ls' := [some (.ref 79), some (.int x1), some (.int x2), some (.int x3), some (.int s.1), some (.int s.2.1), some (.int s.2.2), none]) (st' := [(.int 0), (.ref 79), (.int s.2.1)]) (σ' := (zE L, M, N)) (G := []) rfl trivial ?_
      obtain ⟨q5, h5, h⟩ := jb_bd_of h
      refine jb_callV (q' := zq_256) (As := [(.int 0)]) (rest := [(.int s.2.1)]) (σ1 := (zE L, M, N)) (v := some (.int q5)) rfl rfl zp_256 rfl (Nat.le_of_ble_eq_true rfl) (jb_cat rfl) (Nat.le_of_ble_eq_true rfl) (Nat.le_of_ble_eq_true rfl) (Or.inl rfl) rfl (ze_256 (by omega) 0 M N h5) ?_
      refine jb_seg 2 (pc' := 123) (ls' := [some (.ref 79), some (.int x1), some (.int x2), some (.int x3), some (.int s.1), some (.int s.2.1), some (.int s.2.2), none]) (st' := [(.int (s.2.1 - q5))]) (σ' := (zE L, M, N)) (G := []) rfl trivial ?_
      obtain rfl := Option.some.inj h
      obtain ⟨rfl, rfl⟩ := hK
      exact jb_reti rfl rfl
    · replace h := (if_neg c).symm.trans h
      refine jb_seg 1 (pc' := 123) (ls' := [some (.ref 79), some (.int x1), some (.int x2), some (.int x3), some (.int s.1), some (.int s.2.1), some (.int s.2.2), none]) (st' := [(.int s.1)]) (σ' := (zE L, M, N)) (G := []) rfl trivial ?_
      obtain rfl := Option.some.inj h
      obtain ⟨rfl, rfl⟩ := hK
      exact jb_reti rfl rfl
theorem zg_258_H45L {Γ : jb_G} {L : Nat} {d : Nat} (hd : 4 ≤ d) (x1 : Int32) (x2 : Int32) (x3 : Int32) (M : jb_Mi) (N : jb_Ml) {v : Option Value} {σ2 : jb_S} {s : Int32 × Int32 × Int32} {r : (Int32)} (h : jb_lp (zf_258_H45 x1 x2 x3 M) s = some r) (hK : (fun r : Int32 => v = some (.int r) ∧ σ2 = (zE L, M, N)) r) : jb_V Γ d zq_258 45 [some (.ref 79), some (.int x1), some (.int x2), some (.int x3), some (.int s.1), some (.int s.2.1), some (.int s.2.2), none] [] (zE L, M, N) v σ2 := by
  exact @jb_lp_ind (Int32 × Int32 × Int32) ((Int32)) (zf_258_H45 x1 x2 x3 M) (fun s => jb_V Γ d zq_258 45 [some (.ref 79), some (.int x1), some (.int x2), some (.int x3), some (.int s.1), some (.int s.2.1), some (.int s.2.2), none] [] (zE L, M, N) v σ2) (fun r : Int32 => v = some (.int r) ∧ σ2 = (zE L, M, N)) (fun s r h hk => zg_258_H45 hd x1 x2 x3 M N s h hk) s r h hK
set_option maxRecDepth 20000 in
theorem zg_258 {Γ : jb_G} {L : Nat} {d : Nat} (hd : 4 ≤ d) (x1 : Int32) (x2 : Int32) (M : jb_Mi) (N : jb_Ml) {v : Option Value} {σ2 : jb_S} {r : (Int32)} (h : zf_258 x1 x2 M = some r) (hK : (fun r : Int32 => v = some (.int r) ∧ σ2 = (zE L, M, N)) r) : jb_V Γ d zq_258 0 [some (.ref 79), some (.int x1), some (.int x2), none, none, none, none, none] [] (zE L, M, N) v σ2 := by
  obtain ⟨d, rfl⟩ : ∃ e, d = e + 1 := ⟨d - 1, by omega⟩
  unfold zf_258 at h
  refine jb_seg 3 (pc' := 3) (ls' := [some (.ref 79), some (.int x1), some (.int x2), none, none, none, none, none]) (st' := [(.int 3), (.int 1), (.int x1)]) (σ' := (zE L, M, N)) (G := []) rfl trivial ?_
  refine jb_callS (q' := zq_164) (As := [(.int x1), (.int 1), (.int 3)]) (rest := []) (σ1 := (zE L, M, N)) (v := some (.int (jb_b2i (zf_164 x1 1 3)))) rfl (Nat.le_of_ble_eq_true rfl) rfl zp_164 (jb_cat rfl) (Nat.le_of_ble_eq_true rfl) (Nat.le_of_ble_eq_true rfl) (Or.inl rfl) rfl (ze_164 x1 1 3 M N rfl) ?_
  refine jb_seg 1 (pc' := (if (jb_b2i (zf_164 x1 1 3)) = 0 then 18 else 9)) (ls' := [some (.ref 79), some (.int x1), some (.int x2), none, none, none, none, none]) (st' := []) (σ' := (zE L, M, N)) (G := []) rfl trivial ?_
  refine jb_ite (fun c => ?_) (fun c => ?_)
  · replace h := (if_pos c).symm.trans h
    refine jb_seg 1 (pc' := 19) (ls' := [some (.ref 79), some (.int x1), some (.int x2), none, none, none, none, none]) (st' := [(.int (-1))]) (σ' := (zE L, M, N)) (G := []) rfl trivial ?_
    obtain rfl := Option.some.inj h
    obtain ⟨rfl, rfl⟩ := hK
    exact jb_reti rfl rfl
  · replace h := (if_neg c).symm.trans h
    refine jb_seg 3 (pc' := 12) (ls' := [some (.ref 79), some (.int x1), some (.int x2), none, none, none, none, none]) (st' := [(.int 1), (.int 0), (.int x2)]) (σ' := (zE L, M, N)) (G := []) rfl trivial ?_
    refine jb_callS (q' := zq_164) (As := [(.int x2), (.int 0), (.int 1)]) (rest := []) (σ1 := (zE L, M, N)) (v := some (.int (jb_b2i (zf_164 x2 0 1)))) rfl (Nat.le_of_ble_eq_true rfl) rfl zp_164 (jb_cat rfl) (Nat.le_of_ble_eq_true rfl) (Nat.le_of_ble_eq_true rfl) (Or.inl rfl) rfl (ze_164 x2 0 1 M N rfl) ?_
    refine jb_seg 1 (pc' := (if (jb_b2i (zf_164 x2 0 1)) = 0 then 18 else 20)) (ls' := [some (.ref 79), some (.int x1), some (.int x2), none, none, none, none, none]) (st' := []) (σ' := (zE L, M, N)) (G := []) rfl trivial ?_
    refine jb_ite (fun c => ?_) (fun c => ?_)
    · replace h := (if_pos c).symm.trans h
      refine jb_seg 1 (pc' := 19) (ls' := [some (.ref 79), some (.int x1), some (.int x2), none, none, none, none, none]) (st' := [(.int (-1))]) (σ' := (zE L, M, N)) (G := []) rfl trivial ?_
      obtain rfl := Option.some.inj h
      obtain ⟨rfl, rfl⟩ := hK
      exact jb_reti rfl rfl
    · replace h := (if_neg c).symm.trans h
      refine jb_seg 1 (pc' := 21) (ls' := [some (.ref 79), some (.int x1), some (.int x2), none, none, none, none, none]) (st' := [(.ref 79)]) (σ' := (zE L, M, N)) (G := []) rfl trivial ?_
      obtain ⟨q1, h1, h⟩ := jb_bd_of h
      refine jb_callV (q' := zq_257) (As := []) (rest := []) (σ1 := (zE L, M, N)) (v := some (.int q1)) rfl rfl zp_257 rfl (Nat.le_of_ble_eq_true rfl) (jb_cat rfl) (Nat.le_of_ble_eq_true rfl) (Nat.le_of_ble_eq_true rfl) (Or.inl rfl) rfl (ze_257 (by omega) M N h1) ?_
      refine jb_seg 2 (pc' := 26) (ls' := [some (.ref 79), some (.int x1), some (.int x2), some (.int q1), none, none, none, none]) (st' := [(.int q1)]) (σ' := (zE L, M, N)) (G := []) rfl trivial ?_
      obtain ⟨q2, h2, h⟩ := jb_bd_of h
      refine jb_callS (q' := zq_169) (As := [(.int q1)]) (rest := []) (σ1 := (zE L, M, N)) (v := some (.int q2)) rfl (Nat.le_of_ble_eq_true rfl) rfl zp_169 (jb_cat rfl) (Nat.le_of_ble_eq_true rfl) (Nat.le_of_ble_eq_true rfl) (Or.inl rfl) rfl (ze_169 q1 M N h2) ?_
      refine jb_seg 2 (pc' := (if q2 < x1 then 33 else 36)) (ls' := [some (.ref 79), some (.int x1), some (.int x2), some (.int q1), none, none, none, none]) (st' := []) (σ' := (zE L, M, N)) (G := []) rfl trivial ?_
      refine jb_ite (fun c => ?_) (fun c => ?_)
      · replace h := (if_pos c).symm.trans h
        refine jb_seg 1 (pc' := 35) (ls' := [some (.ref 79), some (.int x1), some (.int x2), some (.int q1), none, none, none, none]) (st' := [(.int (-2))]) (σ' := (zE L, M, N)) (G := []) rfl trivial ?_
        obtain rfl := Option.some.inj h
        obtain ⟨rfl, rfl⟩ := hK
        exact jb_reti rfl rfl
      · replace h := (if_neg c).symm.trans h
        refine jb_seg 6 (pc' := 45) (ls' := [some (.ref 79), some (.int x1), some (.int x2), some (.int q1), some (.int 0), some (.int (-1)), some (.int 1), none]) (st' := []) (σ' := (zE L, M, N)) (G := []) rfl trivial ?_
        exact jb_mask [true, true, true, true, true, true, true, false] rfl (zg_258_H45L hd x1 x2 q1 M N h hK)
theorem ze_258 {Γ : jb_G} {L : Nat} {d : Nat} (hd : 4 ≤ d) (x1 : Int32) (x2 : Int32) (M : jb_Mi) (N : jb_Ml) {r : (Int32)} (h : zf_258 x1 x2 M = some r) : jb_V Γ d zq_258 0 (jb_en 8 [(.ref 79), (.int x1), (.int x2)]) [] (zE L, M, N) (some (.int r)) (zE L, M, N) := zg_258 hd x1 x2 M N h ⟨rfl, rfl⟩
-- X13_isRow
set_option maxRecDepth 20000 in
theorem zg_259_J43 {Γ : jb_G} {L : Nat} {d : Nat} (hd : 1 ≤ d) (x0 : Int32) (x1 : Int32) (x2 : Int32) (x3 : Int32) (M : jb_Mi) (N : jb_Ml) {v : Option Value} {σ2 : jb_S} {r : ((Int32 × Int32) ⊕ (Bool))} (h : zf_259_J43 x0 x1 x2 x3 = some r) (hK : (jb_K (fun s : Int32 × Int32 => jb_V Γ d zq_259 4 [some (.int x0), some (.int x1), some (.int s.1), some (.int s.2)] [] (zE L, M, N) v σ2) (fun r : Bool => v = some (.int (jb_b2i r)) ∧ σ2 = (zE L, M, N))) r) : jb_V Γ d zq_259 43 [some (.int x0), some (.int x1), some (.int x2), some (.int x3)] [] (zE L, M, N) v σ2 := by
  obtain ⟨d, rfl⟩ : ∃ e, d = e + 1 := ⟨d - 1, by omega⟩
  unfold zf_259_J43 at h
  refine jb_seg 2 (pc' := 4) (ls' := [some (.int x0), some (.int x1), some (.int x2), some (.int (x3 + 1))]) (st' := []) (σ' := (zE L, M, N)) (G := []) rfl trivial ?_
  obtain rfl := Option.some.inj h
  exact jb_mask [true, true, true, true] rfl hK
set_option maxRecDepth 20000 in
theorem zg_259_J41 {Γ : jb_G} {L : Nat} {d : Nat} (hd : 1 ≤ d) (x0 : Int32) (x1 : Int32) (x3 : Int32) (M : jb_Mi) (N : jb_Ml) {v : Option Value} {σ2 : jb_S} {r : ((Int32 × Int32) ⊕ (Bool))} (h : zf_259_J41 x0 x1 x3 = some r) (hK : (jb_K (fun s : Int32 × Int32 => jb_V Γ d zq_259 4 [some (.int x0), some (.int x1), some (.int s.1), some (.int s.2)] [] (zE L, M, N) v σ2) (fun r : Bool => v = some (.int (jb_b2i r)) ∧ σ2 = (zE L, M, N))) r) : jb_V Γ d zq_259 41 [some (.int x0), some (.int x1), none, some (.int x3)] [] (zE L, M, N) v σ2 := by
  obtain ⟨d, rfl⟩ : ∃ e, d = e + 1 := ⟨d - 1, by omega⟩
  unfold zf_259_J41 at h
  refine jb_seg 2 (pc' := 43) (ls' := [some (.int x0), some (.int x1), some (.int x3), some (.int x3)]) (st' := []) (σ' := (zE L, M, N)) (G := []) rfl trivial ?_
  exact jb_mask [true, true, true, true] rfl (zg_259_J43 hd x0 x1 x3 x3 M N h hK)
set_option maxRecDepth 20000 in
theorem zg_259_J25 {Γ : jb_G} {L : Nat} {d : Nat} (hd : 1 ≤ d) (x0 : Int32) (x1 : Int32) (x2 : Int32) (x3 : Int32) (M : jb_Mi) (N : jb_Ml) {v : Option Value} {σ2 : jb_S} {r : ((Int32 × Int32) ⊕ (Bool))} (h : zf_259_J25 x0 x1 x2 x3 = some r) (hK : (jb_K (fun s : Int32 × Int32 => jb_V Γ d zq_259 4 [some (.int x0), some (.int x1), some (.int s.1), some (.int s.2)] [] (zE L, M, N) v σ2) (fun r : Bool => v = some (.int (jb_b2i r)) ∧ σ2 = (zE L, M, N))) r) : jb_V Γ d zq_259 25 [some (.int x0), some (.int x1), some (.int x2), some (.int x3)] [] (zE L, M, N) v σ2 := by
  obtain ⟨d, rfl⟩ : ∃ e, d = e + 1 := ⟨d - 1, by omega⟩
  unfold zf_259_J25 at h
  refine jb_seg 5 (pc' := (if (x3 - x2) = 2 then 41 else 32)) (ls' := [some (.int x0), some (.int x1), some (.int x2), some (.int x3)]) (st' := []) (σ' := (zE L, M, N)) (G := []) rfl trivial ?_
  refine jb_ite (fun c => ?_) (fun c => ?_)
  · replace h := (if_pos c).symm.trans h
    exact jb_mask [true, true, false, true] rfl (zg_259_J41 hd x0 x1 x3 M N h hK)
  · replace h := (if_neg c).symm.trans h
    refine jb_seg 5 (pc' := (if (x3 - x2) = 3 then 41 else 39)) (ls' := [some (.int x0), some (.int x1), some (.int x2), some (.int x3)]) (st' := []) (σ' := (zE L, M, N)) (G := []) rfl trivial ?_
    refine jb_ite (fun c => ?_) (fun c => ?_)
    · replace h := (if_pos c).symm.trans h
      exact jb_mask [true, true, false, true] rfl (zg_259_J41 hd x0 x1 x3 M N h hK)
    · replace h := (if_neg c).symm.trans h
      refine jb_seg 1 (pc' := 40) (ls' := [some (.int x0), some (.int x1), some (.int x2), some (.int x3)]) (st' := [(.int 0)]) (σ' := (zE L, M, N)) (G := []) rfl trivial ?_
      obtain rfl := Option.some.inj h
      obtain ⟨rfl, rfl⟩ := hK
      exact jb_retz (by decide) rfl rfl
set_option maxRecDepth 20000 in
theorem zg_259_H4 {Γ : jb_G} {L : Nat} {d : Nat} (hd : 1 ≤ d) (x0 : Int32) (x1 : Int32) (M : jb_Mi) (N : jb_Ml) (s : Int32 × Int32) {v : Option Value} {σ2 : jb_S} {r : ((Int32 × Int32) ⊕ (Bool))} (h : zf_259_H4 x0 x1 s = some r) (hK : (jb_K (fun s : Int32 × Int32 => jb_V Γ d zq_259 4 [some (.int x0), some (.int x1), some (.int s.1), some (.int s.2)] [] (zE L, M, N) v σ2) (fun r : Bool => v = some (.int (jb_b2i r)) ∧ σ2 = (zE L, M, N))) r) : jb_V Γ d zq_259 4 [some (.int x0), some (.int x1), some (.int s.1), some (.int s.2)] [] (zE L, M, N) v σ2 := by
  obtain ⟨d, rfl⟩ : ∃ e, d = e + 1 := ⟨d - 1, by omega⟩
  unfold zf_259_H4 at h
  refine jb_seg 3 (pc' := (if x1 < s.2 then 49 else 9)) (ls' := [some (.int x0), some (.int x1), some (.int s.1), some (.int s.2)]) (st' := []) (σ' := (zE L, M, N)) (G := []) rfl trivial ?_
  refine jb_ite (fun c => ?_) (fun c => ?_)
  · replace h := (if_pos c).symm.trans h
    refine jb_seg 1 (pc' := 50) (ls' := [some (.int x0), some (.int x1), some (.int s.1), some (.int s.2)]) (st' := [(.int 1)]) (σ' := (zE L, M, N)) (G := []) rfl trivial ?_
    obtain rfl := Option.some.inj h
    obtain ⟨rfl, rfl⟩ := hK
    exact jb_retz (by decide) rfl rfl
  · replace h := (if_neg c).symm.trans h
    refine jb_seg 3 (pc' := (if s.2 < x1 then 14 else 25)) (ls' := [some (.int x0), some (.int x1), some (.int s.1), some (.int s.2)]) (st' := []) (σ' := (zE L, M, N)) (G := []) rfl trivial ?_
    refine jb_ite (fun c => ?_) (fun c => ?_)
    · replace h := (if_pos c).symm.trans h
      refine jb_seg 2 (pc' := 16) (ls' := [some (.int x0), some (.int x1), some (.int s.1), some (.int s.2)]) (st' := [(.int s.2), (.int x0)]) (σ' := (zE L, M, N)) (G := []) rfl trivial ?_
      refine jb_callS (q' := zq_168) (As := [(.int x0), (.int s.2)]) (rest := []) (σ1 := (zE L, M, N)) (v := some (.int (jb_b2i (zf_168 x0 s.2)))) rfl (Nat.le_of_ble_eq_true rfl) rfl zp_168 (jb_cat rfl) (Nat.le_of_ble_eq_true rfl) (Nat.le_of_ble_eq_true rfl) (Or.inl rfl) rfl (ze_168 x0 s.2 M N rfl) ?_
      refine jb_seg 1 (pc' := (if (jb_b2i (zf_168 x0 s.2)) = 0 then 22 else 25)) (ls' := [some (.int x0), some (.int x1), some (.int s.1), some (.int s.2)]) (st' := []) (σ' := (zE L, M, N)) (G := []) rfl trivial ?_
      refine jb_ite (fun c => ?_) (fun c => ?_)
      · replace h := (if_pos c).symm.trans h
        refine jb_seg 1 (pc' := 43) (ls' := [some (.int x0), some (.int x1), some (.int s.1), some (.int s.2)]) (st' := []) (σ' := (zE L, M, N)) (G := []) rfl trivial ?_
        exact jb_mask [true, true, true, true] rfl (zg_259_J43 hd x0 x1 s.1 s.2 M N h hK)
      · replace h := (if_neg c).symm.trans h
        exact jb_mask [true, true, true, true] rfl (zg_259_J25 hd x0 x1 s.1 s.2 M N h hK)
    · replace h := (if_neg c).symm.trans h
      exact jb_mask [true, true, true, true] rfl (zg_259_J25 hd x0 x1 s.1 s.2 M N h hK)
theorem zg_259_H4L {Γ : jb_G} {L : Nat} {d : Nat} (hd : 1 ≤ d) (x0 : Int32) (x1 : Int32) (M : jb_Mi) (N : jb_Ml) {v : Option Value} {σ2 : jb_S} {s : Int32 × Int32} {r : (Bool)} (h : jb_lp (zf_259_H4 x0 x1) s = some r) (hK : (fun r : Bool => v = some (.int (jb_b2i r)) ∧ σ2 = (zE L, M, N)) r) : jb_V Γ d zq_259 4 [some (.int x0), some (.int x1), some (.int s.1), some (.int s.2)] [] (zE L, M, N) v σ2 := by
  exact @jb_lp_ind (Int32 × Int32) ((Bool)) (zf_259_H4 x0 x1) (fun s => jb_V Γ d zq_259 4 [some (.int x0), some (.int x1), some (.int s.1), some (.int s.2)] [] (zE L, M, N) v σ2) (fun r : Bool => v = some (.int (jb_b2i r)) ∧ σ2 = (zE L, M, N)) (fun s r h hk => zg_259_H4 hd x0 x1 M N s h hk) s r h hK
set_option maxRecDepth 20000 in
theorem zg_259 {Γ : jb_G} {L : Nat} {d : Nat} (hd : 1 ≤ d) (x0 : Int32) (x1 : Int32) (M : jb_Mi) (N : jb_Ml) {v : Option Value} {σ2 : jb_S} {r : (Bool)} (h : zf_259 x0 x1 = some r) (hK : (fun r : Bool => v = some (.int (jb_b2i r)) ∧ σ2 = (zE L, M, N)) r) : jb_V Γ d zq_259 0 [some (.int x0), some (.int x1), none, none] [] (zE L, M, N) v σ2 := by
  obtain ⟨d, rfl⟩ : ∃ e, d = e + 1 := ⟨d - 1, by omega⟩
  unfold zf_259 at h
  refine jb_seg 4 (pc' := 4) (ls' := [some (.int x0), some (.int x1), some (.int 0), some (.int 1)]) (st' := []) (σ' := (zE L, M, N)) (G := []) rfl trivial ?_
  exact jb_mask [true, true, true, true] rfl (zg_259_H4L hd x0 x1 M N h hK)
theorem ze_259 {Γ : jb_G} {L : Nat} {d : Nat} (hd : 1 ≤ d) (x0 : Int32) (x1 : Int32) (M : jb_Mi) (N : jb_Ml) {r : (Bool)} (h : zf_259 x0 x1 = some r) : jb_V Γ d zq_259 0 (jb_en 4 [(.int x0), (.int x1)]) [] (zE L, M, N) (some (.int (jb_b2i r))) (zE L, M, N) := zg_259 hd x0 x1 M N h ⟨rfl, rfl⟩
-- X13_bricks
set_option maxRecDepth 20000 in
theorem zg_260_J68 {Γ : jb_G} {L : Nat} {d : Nat} (hd : 2 ≤ d) (x1 : Int32) (x2 : Int32) (x3 : Int32) (x4 : Int32) (M : jb_Mi) (N : jb_Ml) {v : Option Value} {σ2 : jb_S} {r : ((Int32 × Int32 × jb_Mi × jb_Ml) ⊕ (Int64 × jb_Mi × jb_Ml))} (h : zf_260_J68 x1 x2 x3 x4 M N = some r) (hK : (jb_K (fun s : Int32 × Int32 × jb_Mi × jb_Ml => jb_V Γ d zq_260 29 [some (.ref 79), some (.int x1), some (.int x2), some (.int s.1), some (.int s.2.1), none, none] [] (zE L, s.2.2.1, s.2.2.2) v σ2) (fun r : Int64 × jb_Mi × jb_Ml => v = some (.long r.1) ∧ σ2 = (zE L, r.2.1, r.2.2))) r) : jb_V Γ d zq_260 68 [some (.ref 79), some (.int x1), some (.int x2), some (.int x3), some (.int x4), none, none] [] (zE L, M, N) v σ2 := by
  obtain ⟨d, rfl⟩ : ∃ e, d = e + 1 := ⟨d - 1, by omega⟩
  unfold zf_260_J68 at h
  refine jb_seg 5 (pc' := 29) (ls' := [some (.ref 79), some (.int x1), some (.int x2), some (.int x3), some (.int (x4 + 2)), none, none]) (st' := []) (σ' := (zE L, M, N)) (G := []) rfl trivial ?_
  obtain rfl := Option.some.inj h
  exact jb_mask [true, true, true, true, true, false, false] rfl hK
set_option maxRecDepth 20000 in
theorem zg_260_J152 {Γ : jb_G} {L : Nat} {d : Nat} (hd : 2 ≤ d) (x2 : Int32) (x3 : Int32) (x4 : Int32) (x5 : Int32) (x6 : Int32) (M : jb_Mi) (N : jb_Ml) {v : Option Value} {σ2 : jb_S} {r : ((Int32 × jb_Ml) ⊕ ((Int32 × jb_Ml) ⊕ ((Int32 × jb_Ml) ⊕ (Int64 × jb_Mi × jb_Ml))))} (h : zf_260_J152 x2 x3 x4 x5 x6 M N = some r) (hK : (jb_K (fun s : Int32 × jb_Ml => jb_V Γ d zq_260 106 [some (.ref 79), none, some (.int x2), some (.int x3), some (.int x4), some (.int x5), some (.int s.1)] [] (zE L, M, s.2) v σ2) (jb_K (fun s : Int32 × jb_Ml => jb_V Γ d zq_260 89 [some (.ref 79), none, some (.int x2), some (.int x3), some (.int x4), some (.int s.1), none] [] (zE L, M, s.2) v σ2) (jb_K (fun s : Int32 × jb_Ml => jb_V Γ d zq_260 80 [some (.ref 79), none, some (.int x2), some (.int x3), some (.int s.1), none, none] [] (zE L, M, s.2) v σ2) (fun r : Int64 × jb_Mi × jb_Ml => v = some (.long r.1) ∧ σ2 = (zE L, r.2.1, r.2.2))))) r) : jb_V Γ d zq_260 152 [some (.ref 79), none, some (.int x2), some (.int x3), some (.int x4), some (.int x5), some (.int x6)] [] (zE L, M, N) v σ2 := by
  obtain ⟨d, rfl⟩ : ∃ e, d = e + 1 := ⟨d - 1, by omega⟩
  unfold zf_260_J152 at h
  refine jb_seg 2 (pc' := 106) (ls' := [some (.ref 79), none, some (.int x2), some (.int x3), some (.int x4), some (.int x5), some (.int (x6 + 1))]) (st' := []) (σ' := (zE L, M, N)) (G := []) rfl trivial ?_
  obtain rfl := Option.some.inj h
  exact jb_mask [true, false, true, true, true, true, true] rfl hK
set_option maxRecDepth 20000 in
theorem zg_260_H106 {Γ : jb_G} {L : Nat} {d : Nat} (hd : 2 ≤ d) (x2 : Int32) (x3 : Int32) (x4 : Int32) (x5 : Int32) (M : jb_Mi) (s : Int32 × jb_Ml) {v : Option Value} {σ2 : jb_S} {r : ((Int32 × jb_Ml) ⊕ ((Int32 × jb_Ml) ⊕ ((Int32 × jb_Ml) ⊕ (Int64 × jb_Mi × jb_Ml))))} (h : zf_260_H106 x2 x3 x4 x5 M s = some r) (hK : (jb_K (fun s : Int32 × jb_Ml => jb_V Γ d zq_260 106 [some (.ref 79), none, some (.int x2), some (.int x3), some (.int x4), some (.int x5), some (.int s.1)] [] (zE L, M, s.2) v σ2) (jb_K (fun s : Int32 × jb_Ml => jb_V Γ d zq_260 89 [some (.ref 79), none, some (.int x2), some (.int x3), some (.int x4), some (.int s.1), none] [] (zE L, M, s.2) v σ2) (jb_K (fun s : Int32 × jb_Ml => jb_V Γ d zq_260 80 [some (.ref 79), none, some (.int x2), some (.int x3), some (.int s.1), none, none] [] (zE L, M, s.2) v σ2) (fun r : Int64 × jb_Mi × jb_Ml => v = some (.long r.1) ∧ σ2 = (zE L, r.2.1, r.2.2))))) r) : jb_V Γ d zq_260 106 [some (.ref 79), none, some (.int x2), some (.int x3), some (.int x4), some (.int x5), some (.int s.1)] [] (zE L, M, s.2) v σ2 := by
  obtain ⟨d, rfl⟩ : ∃ e, d = e + 1 := ⟨d - 1, by omega⟩
  unfold zf_260_H106 at h
  refine jb_seg 3 (pc' := (if s.1 < x3 then 112 else 158)) (ls' := [some (.ref 79), none, some (.int x2), some (.int x3), some (.int x4), some (.int x5), some (.int s.1)]) (st' := []) (σ' := (zE L, M, s.2)) (G := []) rfl trivial ?_
  refine jb_ite (fun c => ?_) (fun c => ?_)
  · replace h := (if_pos c).symm.trans h
    obtain ⟨g5, h⟩ := jb_gd_of h
    obtain ⟨g6, h⟩ := jb_gd_of h
    refine jb_seg 10 (pc' := (if ((M 109 x5.toNatClampNeg) &&& (M 109 (s.1).toNatClampNeg)) = 0 then 130 else 152)) (ls' := [some (.ref 79), none, some (.int x2), some (.int x3), some (.int x4), some (.int x5), some (.int s.1)]) (st' := []) (σ' := (zE L, M, s.2)) (G := [vp_in x5 64, vp_in s.1 64]) rfl ⟨g5, g6⟩ ?_
    refine jb_ite (fun c => ?_) (fun c => ?_)
    · replace h := (if_pos c).symm.trans h
      obtain ⟨g7, h⟩ := jb_gd_of h
      obtain ⟨g8, h⟩ := jb_gd_of h
      obtain ⟨g9, h⟩ := jb_gd_of h
      refine jb_seg 13 (pc' := 152) (ls' := [some (.ref 79), none, some (.int x2), some (.int x3), some (.int x4), some (.int x5), some (.int s.1)]) (st' := []) (σ' := (zE L, M, (jb_ul s.2 111 x5.toNatClampNeg ((s.2 111 x5.toNatClampNeg) + (s.2 110 (s.1).toNatClampNeg))))) (G := [vp_in x5 64, vp_in s.1 64, vp_in x5 64]) rfl ⟨g7, g8, g9⟩ ?_
      exact jb_mask [true, false, true, true, true, true, true] rfl (zg_260_J152 hd x2 x3 x4 x5 s.1 M (jb_ul s.2 111 x5.toNatClampNeg ((s.2 111 x5.toNatClampNeg) + (s.2 110 (s.1).toNatClampNeg))) h hK)
    · replace h := (if_neg c).symm.trans h
      exact jb_mask [true, false, true, true, true, true, true] rfl (zg_260_J152 hd x2 x3 x4 x5 s.1 M s.2 h hK)
  · replace h := (if_neg c).symm.trans h
    refine jb_seg 2 (pc' := 89) (ls' := [some (.ref 79), none, some (.int x2), some (.int x3), some (.int x4), some (.int (x5 + 1)), some (.int s.1)]) (st' := []) (σ' := (zE L, M, s.2)) (G := []) rfl trivial ?_
    obtain rfl := Option.some.inj h
    exact jb_mask [true, false, true, true, true, true, false] rfl hK
theorem zg_260_H106L {Γ : jb_G} {L : Nat} {d : Nat} (hd : 2 ≤ d) (x2 : Int32) (x3 : Int32) (x4 : Int32) (x5 : Int32) (M : jb_Mi) {v : Option Value} {σ2 : jb_S} {s : Int32 × jb_Ml} {r : ((Int32 × jb_Ml) ⊕ ((Int32 × jb_Ml) ⊕ (Int64 × jb_Mi × jb_Ml)))} (h : jb_lp (zf_260_H106 x2 x3 x4 x5 M) s = some r) (hK : (jb_K (fun s : Int32 × jb_Ml => jb_V Γ d zq_260 89 [some (.ref 79), none, some (.int x2), some (.int x3), some (.int x4), some (.int s.1), none] [] (zE L, M, s.2) v σ2) (jb_K (fun s : Int32 × jb_Ml => jb_V Γ d zq_260 80 [some (.ref 79), none, some (.int x2), some (.int x3), some (.int s.1), none, none] [] (zE L, M, s.2) v σ2) (fun r : Int64 × jb_Mi × jb_Ml => v = some (.long r.1) ∧ σ2 = (zE L, r.2.1, r.2.2)))) r) : jb_V Γ d zq_260 106 [some (.ref 79), none, some (.int x2), some (.int x3), some (.int x4), some (.int x5), some (.int s.1)] [] (zE L, M, s.2) v σ2 := by
  exact @jb_lp_ind (Int32 × jb_Ml) (((Int32 × jb_Ml) ⊕ ((Int32 × jb_Ml) ⊕ (Int64 × jb_Mi × jb_Ml)))) (zf_260_H106 x2 x3 x4 x5 M) (fun s => jb_V Γ d zq_260 106 [some (.ref 79), none, some (.int x2), some (.int x3), some (.int x4), some (.int x5), some (.int s.1)] [] (zE L, M, s.2) v σ2) (jb_K (fun s : Int32 × jb_Ml => jb_V Γ d zq_260 89 [some (.ref 79), none, some (.int x2), some (.int x3), some (.int x4), some (.int s.1), none] [] (zE L, M, s.2) v σ2) (jb_K (fun s : Int32 × jb_Ml => jb_V Γ d zq_260 80 [some (.ref 79), none, some (.int x2), some (.int x3), some (.int s.1), none, none] [] (zE L, M, s.2) v σ2) (fun r : Int64 × jb_Mi × jb_Ml => v = some (.long r.1) ∧ σ2 = (zE L, r.2.1, r.2.2)))) (fun s r h hk => zg_260_H106 hd x2 x3 x4 x5 M s h hk) s r h hK
set_option maxRecDepth 20000 in
theorem zg_260_H167 {Γ : jb_G} {L : Nat} {d : Nat} (hd : 2 ≤ d) (x2 : Int32) (x3 : Int32) (x4 : Int32) (M : jb_Mi) (s : Int32 × jb_Ml) {v : Option Value} {σ2 : jb_S} {r : ((Int32 × jb_Ml) ⊕ ((Int32 × jb_Ml) ⊕ (Int64 × jb_Mi × jb_Ml)))} (h : zf_260_H167 x2 x3 x4 M s = some r) (hK : (jb_K (fun s : Int32 × jb_Ml => jb_V Γ d zq_260 167 [some (.ref 79), none, some (.int x2), some (.int x3), some (.int x4), some (.int s.1), none] [] (zE L, M, s.2) v σ2) (jb_K (fun s : Int32 × jb_Ml => jb_V Γ d zq_260 80 [some (.ref 79), none, some (.int x2), some (.int x3), some (.int s.1), none, none] [] (zE L, M, s.2) v σ2) (fun r : Int64 × jb_Mi × jb_Ml => v = some (.long r.1) ∧ σ2 = (zE L, r.2.1, r.2.2)))) r) : jb_V Γ d zq_260 167 [some (.ref 79), none, some (.int x2), some (.int x3), some (.int x4), some (.int s.1), none] [] (zE L, M, s.2) v σ2 := by
  obtain ⟨d, rfl⟩ : ∃ e, d = e + 1 := ⟨d - 1, by omega⟩
  unfold zf_260_H167 at h
  refine jb_seg 3 (pc' := (if s.1 < x3 then 173 else 193)) (ls' := [some (.ref 79), none, some (.int x2), some (.int x3), some (.int x4), some (.int s.1), none]) (st' := []) (σ' := (zE L, M, s.2)) (G := []) rfl trivial ?_
  refine jb_ite (fun c => ?_) (fun c => ?_)
  · replace h := (if_pos c).symm.trans h
    obtain ⟨g10, h⟩ := jb_gd_of h
    obtain ⟨g11, h⟩ := jb_gd_of h
    refine jb_seg 10 (pc' := 167) (ls' := [some (.ref 79), none, some (.int x2), some (.int x3), some (.int x4), some (.int (s.1 + 1)), none]) (st' := []) (σ' := (zE L, M, (jb_ul s.2 110 (s.1).toNatClampNeg (s.2 111 (s.1).toNatClampNeg)))) (G := [vp_in s.1 64, vp_in s.1 64]) rfl ⟨g10, g11⟩ ?_
    obtain rfl := Option.some.inj h
    exact jb_mask [true, false, true, true, true, true, false] rfl hK
  · replace h := (if_neg c).symm.trans h
    refine jb_seg 2 (pc' := 80) (ls' := [some (.ref 79), none, some (.int x2), some (.int x3), some (.int (x4 + 1)), some (.int s.1), none]) (st' := []) (σ' := (zE L, M, s.2)) (G := []) rfl trivial ?_
    obtain rfl := Option.some.inj h
    exact jb_mask [true, false, true, true, true, false, false] rfl hK
theorem zg_260_H167L {Γ : jb_G} {L : Nat} {d : Nat} (hd : 2 ≤ d) (x2 : Int32) (x3 : Int32) (x4 : Int32) (M : jb_Mi) {v : Option Value} {σ2 : jb_S} {s : Int32 × jb_Ml} {r : ((Int32 × jb_Ml) ⊕ (Int64 × jb_Mi × jb_Ml))} (h : jb_lp (zf_260_H167 x2 x3 x4 M) s = some r) (hK : (jb_K (fun s : Int32 × jb_Ml => jb_V Γ d zq_260 80 [some (.ref 79), none, some (.int x2), some (.int x3), some (.int s.1), none, none] [] (zE L, M, s.2) v σ2) (fun r : Int64 × jb_Mi × jb_Ml => v = some (.long r.1) ∧ σ2 = (zE L, r.2.1, r.2.2))) r) : jb_V Γ d zq_260 167 [some (.ref 79), none, some (.int x2), some (.int x3), some (.int x4), some (.int s.1), none] [] (zE L, M, s.2) v σ2 := by
  exact @jb_lp_ind (Int32 × jb_Ml) (((Int32 × jb_Ml) ⊕ (Int64 × jb_Mi × jb_Ml))) (zf_260_H167 x2 x3 x4 M) (fun s => jb_V Γ d zq_260 167 [some (.ref 79), none, some (.int x2), some (.int x3), some (.int x4), some (.int s.1), none] [] (zE L, M, s.2) v σ2) (jb_K (fun s : Int32 × jb_Ml => jb_V Γ d zq_260 80 [some (.ref 79), none, some (.int x2), some (.int x3), some (.int s.1), none, none] [] (zE L, M, s.2) v σ2) (fun r : Int64 × jb_Mi × jb_Ml => v = some (.long r.1) ∧ σ2 = (zE L, r.2.1, r.2.2))) (fun s r h hk => zg_260_H167 hd x2 x3 x4 M s h hk) s r h hK
set_option maxRecDepth 20000 in
theorem zg_260_H89 {Γ : jb_G} {L : Nat} {d : Nat} (hd : 2 ≤ d) (x2 : Int32) (x3 : Int32) (x4 : Int32) (M : jb_Mi) (s : Int32 × jb_Ml) {v : Option Value} {σ2 : jb_S} {r : ((Int32 × jb_Ml) ⊕ ((Int32 × jb_Ml) ⊕ (Int64 × jb_Mi × jb_Ml)))} (h : zf_260_H89 x2 x3 x4 M s = some r) (hK : (jb_K (fun s : Int32 × jb_Ml => jb_V Γ d zq_260 89 [some (.ref 79), none, some (.int x2), some (.int x3), some (.int x4), some (.int s.1), none] [] (zE L, M, s.2) v σ2) (jb_K (fun s : Int32 × jb_Ml => jb_V Γ d zq_260 80 [some (.ref 79), none, some (.int x2), some (.int x3), some (.int s.1), none, none] [] (zE L, M, s.2) v σ2) (fun r : Int64 × jb_Mi × jb_Ml => v = some (.long r.1) ∧ σ2 = (zE L, r.2.1, r.2.2)))) r) : jb_V Γ d zq_260 89 [some (.ref 79), none, some (.int x2), some (.int x3), some (.int x4), some (.int s.1), none] [] (zE L, M, s.2) v σ2 := by
  obtain ⟨d, rfl⟩ : ∃ e, d = e + 1 := ⟨d - 1, by omega⟩
  unfold zf_260_H89 at h
  refine jb_seg 3 (pc' := (if s.1 < x3 then 95 else 164)) (ls' := [some (.ref 79), none, some (.int x2), some (.int x3), some (.int x4), some (.int s.1), none]) (st' := []) (σ' := (zE L, M, s.2)) (G := []) rfl trivial ?_
  refine jb_ite (fun c => ?_) (fun c => ?_)
  · replace h := (if_pos c).symm.trans h
    obtain ⟨g4, h⟩ := jb_gd_of h
    refine jb_seg 7 (pc' := 106) (ls' := [some (.ref 79), none, some (.int x2), some (.int x3), some (.int x4), some (.int s.1), some (.int 0)]) (st' := []) (σ' := (zE L, M, (jb_ul s.2 111 (s.1).toNatClampNeg 0))) (G := [vp_in s.1 64]) rfl g4 ?_
    exact jb_mask [true, false, true, true, true, true, true] rfl (zg_260_H106L hd x2 x3 x4 s.1 M h hK)
  · replace h := (if_neg c).symm.trans h
    refine jb_seg 2 (pc' := 167) (ls' := [some (.ref 79), none, some (.int x2), some (.int x3), some (.int x4), some (.int 0), none]) (st' := []) (σ' := (zE L, M, s.2)) (G := []) rfl trivial ?_
    obtain ⟨y0, hy0, rfl⟩ := jb_mp_of h
    exact jb_mask [true, false, true, true, true, true, false] rfl (zg_260_H167L hd x2 x3 x4 M hy0 hK)
theorem zg_260_H89L {Γ : jb_G} {L : Nat} {d : Nat} (hd : 2 ≤ d) (x2 : Int32) (x3 : Int32) (x4 : Int32) (M : jb_Mi) {v : Option Value} {σ2 : jb_S} {s : Int32 × jb_Ml} {r : ((Int32 × jb_Ml) ⊕ (Int64 × jb_Mi × jb_Ml))} (h : jb_lp (zf_260_H89 x2 x3 x4 M) s = some r) (hK : (jb_K (fun s : Int32 × jb_Ml => jb_V Γ d zq_260 80 [some (.ref 79), none, some (.int x2), some (.int x3), some (.int s.1), none, none] [] (zE L, M, s.2) v σ2) (fun r : Int64 × jb_Mi × jb_Ml => v = some (.long r.1) ∧ σ2 = (zE L, r.2.1, r.2.2))) r) : jb_V Γ d zq_260 89 [some (.ref 79), none, some (.int x2), some (.int x3), some (.int x4), some (.int s.1), none] [] (zE L, M, s.2) v σ2 := by
  exact @jb_lp_ind (Int32 × jb_Ml) (((Int32 × jb_Ml) ⊕ (Int64 × jb_Mi × jb_Ml))) (zf_260_H89 x2 x3 x4 M) (fun s => jb_V Γ d zq_260 89 [some (.ref 79), none, some (.int x2), some (.int x3), some (.int x4), some (.int s.1), none] [] (zE L, M, s.2) v σ2) (jb_K (fun s : Int32 × jb_Ml => jb_V Γ d zq_260 80 [some (.ref 79), none, some (.int x2), some (.int x3), some (.int s.1), none, none] [] (zE L, M, s.2) v σ2) (fun r : Int64 × jb_Mi × jb_Ml => v = some (.long r.1) ∧ σ2 = (zE L, r.2.1, r.2.2))) (fun s r h hk => zg_260_H89 hd x2 x3 x4 M s h hk) s r h hK
set_option maxRecDepth 20000 in
theorem zg_260_H205 {Γ : jb_G} {L : Nat} {d : Nat} (hd : 2 ≤ d) (x3 : Int32) (M : jb_Mi) (N : jb_Ml) (s : Int64 × Int32) {v : Option Value} {σ2 : jb_S} {r : ((Int64 × Int32) ⊕ (Int64 × jb_Mi × jb_Ml))} (h : zf_260_H205 x3 M N s = some r) (hK : (jb_K (fun s : Int64 × Int32 => jb_V Γ d zq_260 205 [some (.ref 79), none, none, some (.int x3), some (.long s.1), none, some (.int s.2)] [] (zE L, M, N) v σ2) (fun r : Int64 × jb_Mi × jb_Ml => v = some (.long r.1) ∧ σ2 = (zE L, r.2.1, r.2.2))) r) : jb_V Γ d zq_260 205 [some (.ref 79), none, none, some (.int x3), some (.long s.1), none, some (.int s.2)] [] (zE L, M, N) v σ2 := by
  obtain ⟨d, rfl⟩ : ∃ e, d = e + 1 := ⟨d - 1, by omega⟩
  unfold zf_260_H205 at h
  refine jb_seg 3 (pc' := (if s.2 < x3 then 211 else 229)) (ls' := [some (.ref 79), none, none, some (.int x3), some (.long s.1), none, some (.int s.2)]) (st' := []) (σ' := (zE L, M, N)) (G := []) rfl trivial ?_
  refine jb_ite (fun c => ?_) (fun c => ?_)
  · replace h := (if_pos c).symm.trans h
    obtain ⟨g12, h⟩ := jb_gd_of h
    refine jb_seg 9 (pc' := 205) (ls' := [some (.ref 79), none, none, some (.int x3), some (.long (s.1 + (N 110 (s.2).toNatClampNeg))), none, some (.int (s.2 + 1))]) (st' := []) (σ' := (zE L, M, N)) (G := [vp_in s.2 64]) rfl g12 ?_
    obtain rfl := Option.some.inj h
    exact jb_mask [true, false, false, true, true, false, true] rfl hK
  · replace h := (if_neg c).symm.trans h
    refine jb_seg 1 (pc' := 231) (ls' := [some (.ref 79), none, none, some (.int x3), some (.long s.1), none, some (.int s.2)]) (st' := [(.long s.1)]) (σ' := (zE L, M, N)) (G := []) rfl trivial ?_
    obtain rfl := Option.some.inj h
    obtain ⟨rfl, rfl⟩ := hK
    exact jb_retl rfl rfl
theorem zg_260_H205L {Γ : jb_G} {L : Nat} {d : Nat} (hd : 2 ≤ d) (x3 : Int32) (M : jb_Mi) (N : jb_Ml) {v : Option Value} {σ2 : jb_S} {s : Int64 × Int32} {r : (Int64 × jb_Mi × jb_Ml)} (h : jb_lp (zf_260_H205 x3 M N) s = some r) (hK : (fun r : Int64 × jb_Mi × jb_Ml => v = some (.long r.1) ∧ σ2 = (zE L, r.2.1, r.2.2)) r) : jb_V Γ d zq_260 205 [some (.ref 79), none, none, some (.int x3), some (.long s.1), none, some (.int s.2)] [] (zE L, M, N) v σ2 := by
  exact @jb_lp_ind (Int64 × Int32) ((Int64 × jb_Mi × jb_Ml)) (zf_260_H205 x3 M N) (fun s => jb_V Γ d zq_260 205 [some (.ref 79), none, none, some (.int x3), some (.long s.1), none, some (.int s.2)] [] (zE L, M, N) v σ2) (fun r : Int64 × jb_Mi × jb_Ml => v = some (.long r.1) ∧ σ2 = (zE L, r.2.1, r.2.2)) (fun s r h hk => zg_260_H205 hd x3 M N s h hk) s r h hK
set_option maxRecDepth 20000 in
theorem zg_260_H80 {Γ : jb_G} {L : Nat} {d : Nat} (hd : 2 ≤ d) (x2 : Int32) (x3 : Int32) (M : jb_Mi) (s : Int32 × jb_Ml) {v : Option Value} {σ2 : jb_S} {r : ((Int32 × jb_Ml) ⊕ (Int64 × jb_Mi × jb_Ml))} (h : zf_260_H80 x2 x3 M s = some r) (hK : (jb_K (fun s : Int32 × jb_Ml => jb_V Γ d zq_260 80 [some (.ref 79), none, some (.int x2), some (.int x3), some (.int s.1), none, none] [] (zE L, M, s.2) v σ2) (fun r : Int64 × jb_Mi × jb_Ml => v = some (.long r.1) ∧ σ2 = (zE L, r.2.1, r.2.2))) r) : jb_V Γ d zq_260 80 [some (.ref 79), none, some (.int x2), some (.int x3), some (.int s.1), none, none] [] (zE L, M, s.2) v σ2 := by
  obtain ⟨d, rfl⟩ : ∃ e, d = e + 1 := ⟨d - 1, by omega⟩
  unfold zf_260_H80 at h
  refine jb_seg 3 (pc' := (if s.1 < x2 then 86 else 199)) (ls' := [some (.ref 79), none, some (.int x2), some (.int x3), some (.int s.1), none, none]) (st' := []) (σ' := (zE L, M, s.2)) (G := []) rfl trivial ?_
  refine jb_ite (fun c => ?_) (fun c => ?_)
  · replace h := (if_pos c).symm.trans h
    refine jb_seg 2 (pc' := 89) (ls' := [some (.ref 79), none, some (.int x2), some (.int x3), some (.int s.1), some (.int 0), none]) (st' := []) (σ' := (zE L, M, s.2)) (G := []) rfl trivial ?_
    exact jb_mask [true, false, true, true, true, true, false] rfl (zg_260_H89L hd x2 x3 s.1 M h hK)
  · replace h := (if_neg c).symm.trans h
    refine jb_seg 4 (pc' := 205) (ls' := [some (.ref 79), none, some (.int x2), some (.int x3), some (.long 0), none, some (.int 0)]) (st' := []) (σ' := (zE L, M, s.2)) (G := []) rfl trivial ?_
    obtain ⟨y0, hy0, rfl⟩ := jb_mp_of h
    exact jb_mask [true, false, false, true, true, false, true] rfl (zg_260_H205L hd x3 M s.2 hy0 hK)
theorem zg_260_H80L {Γ : jb_G} {L : Nat} {d : Nat} (hd : 2 ≤ d) (x2 : Int32) (x3 : Int32) (M : jb_Mi) {v : Option Value} {σ2 : jb_S} {s : Int32 × jb_Ml} {r : (Int64 × jb_Mi × jb_Ml)} (h : jb_lp (zf_260_H80 x2 x3 M) s = some r) (hK : (fun r : Int64 × jb_Mi × jb_Ml => v = some (.long r.1) ∧ σ2 = (zE L, r.2.1, r.2.2)) r) : jb_V Γ d zq_260 80 [some (.ref 79), none, some (.int x2), some (.int x3), some (.int s.1), none, none] [] (zE L, M, s.2) v σ2 := by
  exact @jb_lp_ind (Int32 × jb_Ml) ((Int64 × jb_Mi × jb_Ml)) (zf_260_H80 x2 x3 M) (fun s => jb_V Γ d zq_260 80 [some (.ref 79), none, some (.int x2), some (.int x3), some (.int s.1), none, none] [] (zE L, M, s.2) v σ2) (fun r : Int64 × jb_Mi × jb_Ml => v = some (.long r.1) ∧ σ2 = (zE L, r.2.1, r.2.2)) (fun s r h hk => zg_260_H80 hd x2 x3 M s h hk) s r h hK
set_option maxRecDepth 20000 in
theorem zg_260_H29 {Γ : jb_G} {L : Nat} {d : Nat} (hd : 2 ≤ d) (x1 : Int32) (x2 : Int32) (s : Int32 × Int32 × jb_Mi × jb_Ml) {v : Option Value} {σ2 : jb_S} {r : ((Int32 × Int32 × jb_Mi × jb_Ml) ⊕ (Int64 × jb_Mi × jb_Ml))} (h : zf_260_H29 x1 x2 s = some r) (hK : (jb_K (fun s : Int32 × Int32 × jb_Mi × jb_Ml => jb_V Γ d zq_260 29 [some (.ref 79), some (.int x1), some (.int x2), some (.int s.1), some (.int s.2.1), none, none] [] (zE L, s.2.2.1, s.2.2.2) v σ2) (fun r : Int64 × jb_Mi × jb_Ml => v = some (.long r.1) ∧ σ2 = (zE L, r.2.1, r.2.2))) r) : jb_V Γ d zq_260 29 [some (.ref 79), some (.int x1), some (.int x2), some (.int s.1), some (.int s.2.1), none, none] [] (zE L, s.2.2.1, s.2.2.2) v σ2 := by
  obtain ⟨d, rfl⟩ : ∃ e, d = e + 1 := ⟨d - 1, by omega⟩
  unfold zf_260_H29 at h
  refine jb_seg 5 (pc' := (if s.2.1 < ((1 : Int32) <<< (x1 &&& 31)) then 37 else 77)) (ls' := [some (.ref 79), some (.int x1), some (.int x2), some (.int s.1), some (.int s.2.1), none, none]) (st' := []) (σ' := (zE L, s.2.2.1, s.2.2.2)) (G := []) rfl trivial ?_
  refine jb_ite (fun c => ?_) (fun c => ?_)
  · replace h := (if_pos c).symm.trans h
    refine jb_seg 2 (pc' := 40) (ls' := [some (.ref 79), some (.int x1), some (.int x2), some (.int s.1), some (.int s.2.1), none, none]) (st' := [(.int x1), (.int s.2.1)]) (σ' := (zE L, s.2.2.1, s.2.2.2)) (G := []) rfl trivial ?_
    obtain ⟨q1, h1, h⟩ := jb_bd_of h
    refine jb_callS (q' := zq_259) (As := [(.int s.2.1), (.int x1)]) (rest := []) (σ1 := (zE L, s.2.2.1, s.2.2.2)) (v := some (.int (jb_b2i q1))) rfl (Nat.le_of_ble_eq_true rfl) rfl zp_259 (jb_cat rfl) (Nat.le_of_ble_eq_true rfl) (Nat.le_of_ble_eq_true rfl) (Or.inl rfl) rfl (ze_259 (by omega) s.2.1 x1 s.2.2.1 s.2.2.2 h1) ?_
    refine jb_seg 1 (pc' := (if (jb_b2i q1) = 0 then 46 else 49)) (ls' := [some (.ref 79), some (.int x1), some (.int x2), some (.int s.1), some (.int s.2.1), none, none]) (st' := []) (σ' := (zE L, s.2.2.1, s.2.2.2)) (G := []) rfl trivial ?_
    refine jb_ite (fun c => ?_) (fun c => ?_)
    · replace h := (if_pos c).symm.trans h
      refine jb_seg 1 (pc' := 68) (ls' := [some (.ref 79), some (.int x1), some (.int x2), some (.int s.1), some (.int s.2.1), none, none]) (st' := []) (σ' := (zE L, s.2.2.1, s.2.2.2)) (G := []) rfl trivial ?_
      exact jb_mask [true, true, true, true, true, false, false] rfl (zg_260_J68 hd x1 x2 s.1 s.2.1 s.2.2.1 s.2.2.2 h hK)
    · replace h := (if_neg c).symm.trans h
      obtain ⟨g2, h⟩ := jb_gd_of h
      obtain ⟨g3, h⟩ := jb_gd_of h
      refine jb_seg 14 (pc' := 68) (ls' := [some (.ref 79), some (.int x1), some (.int x2), some (.int (s.1 + 1)), some (.int s.2.1), none, none]) (st' := []) (σ' := (zE L, (jb_up s.2.2.1 109 (s.1).toNatClampNeg s.2.1), (jb_ul s.2.2.2 110 (s.1).toNatClampNeg 1))) (G := [vp_in s.1 64, vp_in s.1 64]) rfl ⟨g2, g3⟩ ?_
      exact jb_mask [true, true, true, true, true, false, false] rfl (zg_260_J68 hd x1 x2 (s.1 + 1) s.2.1 (jb_up s.2.2.1 109 (s.1).toNatClampNeg s.2.1) (jb_ul s.2.2.2 110 (s.1).toNatClampNeg 1) h hK)
  · replace h := (if_neg c).symm.trans h
    refine jb_seg 2 (pc' := 80) (ls' := [some (.ref 79), some (.int x1), some (.int x2), some (.int s.1), some (.int 1), none, none]) (st' := []) (σ' := (zE L, s.2.2.1, s.2.2.2)) (G := []) rfl trivial ?_
    obtain ⟨y0, hy0, rfl⟩ := jb_mp_of h
    exact jb_mask [true, false, true, true, true, false, false] rfl (zg_260_H80L hd x2 s.1 s.2.2.1 hy0 hK)
theorem zg_260_H29L {Γ : jb_G} {L : Nat} {d : Nat} (hd : 2 ≤ d) (x1 : Int32) (x2 : Int32) {v : Option Value} {σ2 : jb_S} {s : Int32 × Int32 × jb_Mi × jb_Ml} {r : (Int64 × jb_Mi × jb_Ml)} (h : jb_lp (zf_260_H29 x1 x2) s = some r) (hK : (fun r : Int64 × jb_Mi × jb_Ml => v = some (.long r.1) ∧ σ2 = (zE L, r.2.1, r.2.2)) r) : jb_V Γ d zq_260 29 [some (.ref 79), some (.int x1), some (.int x2), some (.int s.1), some (.int s.2.1), none, none] [] (zE L, s.2.2.1, s.2.2.2) v σ2 := by
  exact @jb_lp_ind (Int32 × Int32 × jb_Mi × jb_Ml) ((Int64 × jb_Mi × jb_Ml)) (zf_260_H29 x1 x2) (fun s => jb_V Γ d zq_260 29 [some (.ref 79), some (.int x1), some (.int x2), some (.int s.1), some (.int s.2.1), none, none] [] (zE L, s.2.2.1, s.2.2.2) v σ2) (fun r : Int64 × jb_Mi × jb_Ml => v = some (.long r.1) ∧ σ2 = (zE L, r.2.1, r.2.2)) (fun s r h hk => zg_260_H29 hd x1 x2 s h hk) s r h hK
set_option maxRecDepth 20000 in
theorem zg_260 {Γ : jb_G} {L : Nat} {d : Nat} (hd : 2 ≤ d) (x1 : Int32) (x2 : Int32) (M : jb_Mi) (N : jb_Ml) {v : Option Value} {σ2 : jb_S} {r : (Int64 × jb_Mi × jb_Ml)} (h : zf_260 x1 x2 M N = some r) (hK : (fun r : Int64 × jb_Mi × jb_Ml => v = some (.long r.1) ∧ σ2 = (zE L, r.2.1, r.2.2)) r) : jb_V Γ d zq_260 0 [some (.ref 79), some (.int x1), some (.int x2), none, none, none, none] [] (zE L, M, N) v σ2 := by
  obtain ⟨d, rfl⟩ : ∃ e, d = e + 1 := ⟨d - 1, by omega⟩
  unfold zf_260 at h
  refine jb_seg 3 (pc' := 4) (ls' := [some (.ref 79), some (.int x1), some (.int x2), none, none, none, none]) (st' := [(.int 16), (.int 1), (.int x1)]) (σ' := (zE L, M, N)) (G := []) rfl trivial ?_
  refine jb_callS (q' := zq_164) (As := [(.int x1), (.int 1), (.int 16)]) (rest := []) (σ1 := (zE L, M, N)) (v := some (.int (jb_b2i (zf_164 x1 1 16)))) rfl (Nat.le_of_ble_eq_true rfl) rfl zp_164 (jb_cat rfl) (Nat.le_of_ble_eq_true rfl) (Nat.le_of_ble_eq_true rfl) (Or.inl rfl) rfl (ze_164 x1 1 16 M N rfl) ?_
  refine jb_seg 1 (pc' := (if (jb_b2i (zf_164 x1 1 16)) = 0 then 20 else 10)) (ls' := [some (.ref 79), some (.int x1), some (.int x2), none, none, none, none]) (st' := []) (σ' := (zE L, M, N)) (G := []) rfl trivial ?_
  refine jb_ite (fun c => ?_) (fun c => ?_)
  · replace h := (if_pos c).symm.trans h
    refine jb_seg 1 (pc' := 23) (ls' := [some (.ref 79), some (.int x1), some (.int x2), none, none, none, none]) (st' := [(.long (-1))]) (σ' := (zE L, M, N)) (G := []) rfl trivial ?_
    obtain rfl := Option.some.inj h
    obtain ⟨rfl, rfl⟩ := hK
    exact jb_retl rfl rfl
  · replace h := (if_neg c).symm.trans h
    refine jb_seg 3 (pc' := 14) (ls' := [some (.ref 79), some (.int x1), some (.int x2), none, none, none, none]) (st' := [(.int 6), (.int 1), (.int x2)]) (σ' := (zE L, M, N)) (G := []) rfl trivial ?_
    refine jb_callS (q' := zq_164) (As := [(.int x2), (.int 1), (.int 6)]) (rest := []) (σ1 := (zE L, M, N)) (v := some (.int (jb_b2i (zf_164 x2 1 6)))) rfl (Nat.le_of_ble_eq_true rfl) rfl zp_164 (jb_cat rfl) (Nat.le_of_ble_eq_true rfl) (Nat.le_of_ble_eq_true rfl) (Or.inl rfl) rfl (ze_164 x2 1 6 M N rfl) ?_
    refine jb_seg 1 (pc' := (if (jb_b2i (zf_164 x2 1 6)) = 0 then 20 else 24)) (ls' := [some (.ref 79), some (.int x1), some (.int x2), none, none, none, none]) (st' := []) (σ' := (zE L, M, N)) (G := []) rfl trivial ?_
    refine jb_ite (fun c => ?_) (fun c => ?_)
    · replace h := (if_pos c).symm.trans h
      refine jb_seg 1 (pc' := 23) (ls' := [some (.ref 79), some (.int x1), some (.int x2), none, none, none, none]) (st' := [(.long (-1))]) (σ' := (zE L, M, N)) (G := []) rfl trivial ?_
      obtain rfl := Option.some.inj h
      obtain ⟨rfl, rfl⟩ := hK
      exact jb_retl rfl rfl
    · replace h := (if_neg c).symm.trans h
      refine jb_seg 4 (pc' := 29) (ls' := [some (.ref 79), some (.int x1), some (.int x2), some (.int 0), some (.int 0), none, none]) (st' := []) (σ' := (zE L, M, N)) (G := []) rfl trivial ?_
      exact jb_mask [true, true, true, true, true, false, false] rfl (zg_260_H29L hd x1 x2 h hK)
theorem ze_260 {Γ : jb_G} {L : Nat} {d : Nat} (hd : 2 ≤ d) (x1 : Int32) (x2 : Int32) (M : jb_Mi) (N : jb_Ml) {r : (Int64 × jb_Mi × jb_Ml)} (h : zf_260 x1 x2 M N = some r) : jb_V Γ d zq_260 0 (jb_en 7 [(.ref 79), (.int x1), (.int x2)]) [] (zE L, M, N) (some (.long r.1)) (zE L, r.2.1, r.2.2) := zg_260 hd x1 x2 M N h ⟨rfl, rfl⟩
-- X13_bread
set_option maxRecDepth 20000 in
theorem zg_261_J78 {Γ : jb_G} {L : Nat} {d : Nat} (hd : 1 ≤ d) (x1 : Int32) (x2 : Int32) (x3 : Int32) (x4 : Int32) (x5 : Int32) (s0 : Int32) (s1 : Int32) (M : jb_Mi) (N : jb_Ml) {v : Option Value} {σ2 : jb_S} {r : ((Int32 × Int32 × Int32) ⊕ (Int32 × jb_Mi))} (h : zf_261_J78 x1 x2 x3 x4 x5 s0 s1 M = some r) (hK : (jb_K (fun s : Int32 × Int32 × Int32 => jb_V Γ d zq_261 56 [some (.ref 79), some (.int x1), some (.int x2), some (.int s.1), some (.int s.2.1), some (.int s.2.2), none] [] (zE L, M, N) v σ2) (fun r : Int32 × jb_Mi => v = some (.int r.1) ∧ σ2 = (zE L, r.2, N))) r) : jb_V Γ d zq_261 78 [some (.ref 79), some (.int x1), some (.int x2), some (.int x3), some (.int x4), some (.int x5), none] [(.int s1), (.int s0)] (zE L, M, N) v σ2 := by
  obtain ⟨d, rfl⟩ : ∃ e, d = e + 1 := ⟨d - 1, by omega⟩
  unfold zf_261_J78 at h
  refine jb_seg 5 (pc' := 86) (ls' := [some (.ref 79), some (.int x1), some (.int x2), some (.int x3), some (.int x4), some (.int x5), some (.int (s0 + s1))]) (st' := [(.int x5), (.ref 79), (.int x4)]) (σ' := (zE L, M, N)) (G := []) rfl trivial ?_
  obtain ⟨q4, h4, h⟩ := jb_bd_of h
  refine jb_callV (q' := zq_183) (As := [(.int x5)]) (rest := [(.int x4)]) (σ1 := (zE L, M, N)) (v := some (.int q4)) rfl rfl zp_183 rfl (Nat.le_of_ble_eq_true rfl) (jb_cat rfl) (Nat.le_of_ble_eq_true rfl) (Nat.le_of_ble_eq_true rfl) (Or.inl rfl) rfl (ze_183 x5 M N h4) ?_
  refine jb_seg 6 (pc' := 98) (ls' := [some (.ref 79), some (.int x1), some (.int x2), some (.int x3), some (.int ((x4 + q4) - (s0 + s1))), some (.int x5), some (.int (s0 + s1))]) (st' := [(.int ((x4 + q4) - (s0 + s1))), (.int x3)]) (σ' := (zE L, M, N)) (G := []) rfl trivial ?_
  refine jb_callS (q' := zq_167) (As := [(.int ((x4 + q4) - (s0 + s1)))]) (rest := [(.int x3)]) (σ1 := (zE L, M, N)) (v := some (.int (zf_167 ((x4 + q4) - (s0 + s1))))) rfl (Nat.le_of_ble_eq_true rfl) rfl zp_167 (jb_cat rfl) (Nat.le_of_ble_eq_true rfl) (Nat.le_of_ble_eq_true rfl) (Or.inl rfl) rfl (ze_167 ((x4 + q4) - (s0 + s1)) M N rfl) ?_
  refine jb_seg 4 (pc' := 56) (ls' := [some (.ref 79), some (.int x1), some (.int x2), some (.int (x3 + (zf_167 ((x4 + q4) - (s0 + s1))))), some (.int ((x4 + q4) - (s0 + s1))), some (.int (x5 + 1)), some (.int (s0 + s1))]) (st' := []) (σ' := (zE L, M, N)) (G := []) rfl trivial ?_
  obtain rfl := Option.some.inj h
  exact jb_mask [true, true, true, true, true, true, false] rfl hK
set_option maxRecDepth 20000 in
theorem zg_261_H56 {Γ : jb_G} {L : Nat} {d : Nat} (hd : 1 ≤ d) (x1 : Int32) (x2 : Int32) (M : jb_Mi) (N : jb_Ml) (s : Int32 × Int32 × Int32) {v : Option Value} {σ2 : jb_S} {r : ((Int32 × Int32 × Int32) ⊕ (Int32 × jb_Mi))} (h : zf_261_H56 x1 x2 M s = some r) (hK : (jb_K (fun s : Int32 × Int32 × Int32 => jb_V Γ d zq_261 56 [some (.ref 79), some (.int x1), some (.int x2), some (.int s.1), some (.int s.2.1), some (.int s.2.2), none] [] (zE L, M, N) v σ2) (fun r : Int32 × jb_Mi => v = some (.int r.1) ∧ σ2 = (zE L, r.2, N))) r) : jb_V Γ d zq_261 56 [some (.ref 79), some (.int x1), some (.int x2), some (.int s.1), some (.int s.2.1), some (.int s.2.2), none] [] (zE L, M, N) v σ2 := by
  obtain ⟨d, rfl⟩ : ∃ e, d = e + 1 := ⟨d - 1, by omega⟩
  unfold zf_261_H56 at h
  refine jb_seg 3 (pc' := (if s.2.2 < x1 then 62 else 109)) (ls' := [some (.ref 79), some (.int x1), some (.int x2), some (.int s.1), some (.int s.2.1), some (.int s.2.2), none]) (st' := []) (σ' := (zE L, M, N)) (G := []) rfl trivial ?_
  refine jb_ite (fun c => ?_) (fun c => ?_)
  · replace h := (if_pos c).symm.trans h
    obtain ⟨g2, h⟩ := jb_g0_of h
    obtain ⟨g3, h⟩ := jb_g0_of h
    refine jb_seg 8 (pc' := (if s.2.2 < (x2 - x2 / x1 * x1) then 73 else 77)) (ls' := [some (.ref 79), some (.int x1), some (.int x2), some (.int s.1), some (.int s.2.1), some (.int s.2.2), none]) (st' := [(.int (x2 / x1))]) (σ' := (zE L, M, N)) (G := [¬ (x1 : Int32) = 0, ¬ (x1 : Int32) = 0]) rfl ⟨g2, g3⟩ ?_
    refine jb_ite (fun c => ?_) (fun c => ?_)
    · replace h := (if_pos c).symm.trans h
      refine jb_seg 2 (pc' := 78) (ls' := [some (.ref 79), some (.int x1), some (.int x2), some (.int s.1), some (.int s.2.1), some (.int s.2.2), none]) (st' := [(.int 1), (.int (x2 / x1))]) (σ' := (zE L, M, N)) (G := []) rfl trivial ?_
      exact jb_mask [true, true, true, true, true, true, false] rfl (zg_261_J78 hd x1 x2 s.1 s.2.1 s.2.2 (x2 / x1) 1 M N h hK)
    · replace h := (if_neg c).symm.trans h
      refine jb_seg 1 (pc' := 78) (ls' := [some (.ref 79), some (.int x1), some (.int x2), some (.int s.1), some (.int s.2.1), some (.int s.2.2), none]) (st' := [(.int 0), (.int (x2 / x1))]) (σ' := (zE L, M, N)) (G := []) rfl trivial ?_
      exact jb_mask [true, true, true, true, true, true, false] rfl (zg_261_J78 hd x1 x2 s.1 s.2.1 s.2.2 (x2 / x1) 0 M N h hK)
  · replace h := (if_neg c).symm.trans h
    refine jb_seg 1 (pc' := 110) (ls' := [some (.ref 79), some (.int x1), some (.int x2), some (.int s.1), some (.int s.2.1), some (.int s.2.2), none]) (st' := [(.int s.1)]) (σ' := (zE L, M, N)) (G := []) rfl trivial ?_
    obtain rfl := Option.some.inj h
    obtain ⟨rfl, rfl⟩ := hK
    exact jb_reti rfl rfl
theorem zg_261_H56L {Γ : jb_G} {L : Nat} {d : Nat} (hd : 1 ≤ d) (x1 : Int32) (x2 : Int32) (M : jb_Mi) (N : jb_Ml) {v : Option Value} {σ2 : jb_S} {s : Int32 × Int32 × Int32} {r : (Int32 × jb_Mi)} (h : jb_lp (zf_261_H56 x1 x2 M) s = some r) (hK : (fun r : Int32 × jb_Mi => v = some (.int r.1) ∧ σ2 = (zE L, r.2, N)) r) : jb_V Γ d zq_261 56 [some (.ref 79), some (.int x1), some (.int x2), some (.int s.1), some (.int s.2.1), some (.int s.2.2), none] [] (zE L, M, N) v σ2 := by
  exact @jb_lp_ind (Int32 × Int32 × Int32) ((Int32 × jb_Mi)) (zf_261_H56 x1 x2 M) (fun s => jb_V Γ d zq_261 56 [some (.ref 79), some (.int x1), some (.int x2), some (.int s.1), some (.int s.2.1), some (.int s.2.2), none] [] (zE L, M, N) v σ2) (fun r : Int32 × jb_Mi => v = some (.int r.1) ∧ σ2 = (zE L, r.2, N)) (fun s r h hk => zg_261_H56 hd x1 x2 M N s h hk) s r h hK
set_option maxRecDepth 20000 in
theorem zg_261_H29 {Γ : jb_G} {L : Nat} {d : Nat} (hd : 1 ≤ d) (x1 : Int32) (M : jb_Mi) (N : jb_Ml) (s : Int32 × Int32) {v : Option Value} {σ2 : jb_S} {r : ((Int32 × Int32) ⊕ (Int32 × jb_Mi))} (h : zf_261_H29 x1 M s = some r) (hK : (jb_K (fun s : Int32 × Int32 => jb_V Γ d zq_261 29 [some (.ref 79), some (.int x1), some (.int s.1), some (.int s.2), none, none, none] [] (zE L, M, N) v σ2) (fun r : Int32 × jb_Mi => v = some (.int r.1) ∧ σ2 = (zE L, r.2, N))) r) : jb_V Γ d zq_261 29 [some (.ref 79), some (.int x1), some (.int s.1), some (.int s.2), none, none, none] [] (zE L, M, N) v σ2 := by
  obtain ⟨d, rfl⟩ : ∃ e, d = e + 1 := ⟨d - 1, by omega⟩
  unfold zf_261_H29 at h
  refine jb_seg 3 (pc' := (if s.2 < x1 then 34 else 48)) (ls' := [some (.ref 79), some (.int x1), some (.int s.1), some (.int s.2), none, none, none]) (st' := []) (σ' := (zE L, M, N)) (G := []) rfl trivial ?_
  refine jb_ite (fun c => ?_) (fun c => ?_)
  · replace h := (if_pos c).symm.trans h
    refine jb_seg 3 (pc' := 37) (ls' := [some (.ref 79), some (.int x1), some (.int s.1), some (.int s.2), none, none, none]) (st' := [(.int s.2), (.ref 79), (.int s.1)]) (σ' := (zE L, M, N)) (G := []) rfl trivial ?_
    obtain ⟨q1, h1, h⟩ := jb_bd_of h
    refine jb_callV (q' := zq_183) (As := [(.int s.2)]) (rest := [(.int s.1)]) (σ1 := (zE L, M, N)) (v := some (.int q1)) rfl rfl zp_183 rfl (Nat.le_of_ble_eq_true rfl) (jb_cat rfl) (Nat.le_of_ble_eq_true rfl) (Nat.le_of_ble_eq_true rfl) (Or.inl rfl) rfl (ze_183 s.2 M N h1) ?_
    refine jb_seg 4 (pc' := 29) (ls' := [some (.ref 79), some (.int x1), some (.int (s.1 + q1)), some (.int (s.2 + 1)), none, none, none]) (st' := []) (σ' := (zE L, M, N)) (G := []) rfl trivial ?_
    obtain rfl := Option.some.inj h
    exact jb_mask [true, true, true, true, false, false, false] rfl hK
  · replace h := (if_neg c).symm.trans h
    refine jb_seg 6 (pc' := 56) (ls' := [some (.ref 79), some (.int x1), some (.int s.1), some (.int 0), some (.int 0), some (.int 0), none]) (st' := []) (σ' := (zE L, M, N)) (G := []) rfl trivial ?_
    obtain ⟨y0, hy0, rfl⟩ := jb_mp_of h
    exact jb_mask [true, true, true, true, true, true, false] rfl (zg_261_H56L hd x1 s.1 M N hy0 hK)
theorem zg_261_H29L {Γ : jb_G} {L : Nat} {d : Nat} (hd : 1 ≤ d) (x1 : Int32) (M : jb_Mi) (N : jb_Ml) {v : Option Value} {σ2 : jb_S} {s : Int32 × Int32} {r : (Int32 × jb_Mi)} (h : jb_lp (zf_261_H29 x1 M) s = some r) (hK : (fun r : Int32 × jb_Mi => v = some (.int r.1) ∧ σ2 = (zE L, r.2, N)) r) : jb_V Γ d zq_261 29 [some (.ref 79), some (.int x1), some (.int s.1), some (.int s.2), none, none, none] [] (zE L, M, N) v σ2 := by
  exact @jb_lp_ind (Int32 × Int32) ((Int32 × jb_Mi)) (zf_261_H29 x1 M) (fun s => jb_V Γ d zq_261 29 [some (.ref 79), some (.int x1), some (.int s.1), some (.int s.2), none, none, none] [] (zE L, M, N) v σ2) (fun r : Int32 × jb_Mi => v = some (.int r.1) ∧ σ2 = (zE L, r.2, N)) (fun s r h hk => zg_261_H29 hd x1 M N s h hk) s r h hK
set_option maxRecDepth 20000 in
theorem zg_261 {Γ : jb_G} {L : Nat} {d : Nat} (hd : 1 ≤ d) (x1 : Int32) (M : jb_Mi) (N : jb_Ml) {v : Option Value} {σ2 : jb_S} {r : (Int32 × jb_Mi)} (h : zf_261 x1 M = some r) (hK : (fun r : Int32 × jb_Mi => v = some (.int r.1) ∧ σ2 = (zE L, r.2, N)) r) : jb_V Γ d zq_261 0 [some (.ref 79), some (.int x1), none, none, none, none, none] [] (zE L, M, N) v σ2 := by
  obtain ⟨d, rfl⟩ : ∃ e, d = e + 1 := ⟨d - 1, by omega⟩
  unfold zf_261 at h
  refine jb_seg 3 (pc' := 4) (ls' := [some (.ref 79), some (.int x1), none, none, none, none, none]) (st' := [(.int 12), (.int 1), (.int x1)]) (σ' := (zE L, M, N)) (G := []) rfl trivial ?_
  refine jb_callS (q' := zq_164) (As := [(.int x1), (.int 1), (.int 12)]) (rest := []) (σ1 := (zE L, M, N)) (v := some (.int (jb_b2i (zf_164 x1 1 12)))) rfl (Nat.le_of_ble_eq_true rfl) rfl zp_164 (jb_cat rfl) (Nat.le_of_ble_eq_true rfl) (Nat.le_of_ble_eq_true rfl) (Or.inl rfl) rfl (ze_164 x1 1 12 M N rfl) ?_
  refine jb_seg 1 (pc' := (if (jb_b2i (zf_164 x1 1 12)) = 0 then 18 else 10)) (ls' := [some (.ref 79), some (.int x1), none, none, none, none, none]) (st' := []) (σ' := (zE L, M, N)) (G := []) rfl trivial ?_
  refine jb_ite (fun c => ?_) (fun c => ?_)
  · replace h := (if_pos c).symm.trans h
    refine jb_seg 1 (pc' := 19) (ls' := [some (.ref 79), some (.int x1), none, none, none, none, none]) (st' := [(.int (-1))]) (σ' := (zE L, M, N)) (G := []) rfl trivial ?_
    obtain rfl := Option.some.inj h
    obtain ⟨rfl, rfl⟩ := hK
    exact jb_reti rfl rfl
  · replace h := (if_neg c).symm.trans h
    refine jb_seg 4 (pc' := (if (M 79 4) < x1 then 18 else 20)) (ls' := [some (.ref 79), some (.int x1), none, none, none, none, none]) (st' := []) (σ' := (zE L, M, N)) (G := []) rfl trivial ?_
    refine jb_ite (fun c => ?_) (fun c => ?_)
    · replace h := (if_pos c).symm.trans h
      refine jb_seg 1 (pc' := 19) (ls' := [some (.ref 79), some (.int x1), none, none, none, none, none]) (st' := [(.int (-1))]) (σ' := (zE L, M, N)) (G := []) rfl trivial ?_
      obtain rfl := Option.some.inj h
      obtain ⟨rfl, rfl⟩ := hK
      exact jb_reti rfl rfl
    · replace h := (if_neg c).symm.trans h
      refine jb_seg 7 (pc' := 29) (ls' := [some (.ref 79), some (.int x1), some (.int 0), some (.int 0), none, none, none]) (st' := []) (σ' := (zE L, (jb_up M 79 4 0), N)) (G := []) rfl trivial ?_
      exact jb_mask [true, true, true, true, false, false, false] rfl (zg_261_H29L hd x1 (jb_up M 79 4 0) N h hK)
theorem ze_261 {Γ : jb_G} {L : Nat} {d : Nat} (hd : 1 ≤ d) (x1 : Int32) (M : jb_Mi) (N : jb_Ml) {r : (Int32 × jb_Mi)} (h : zf_261 x1 M = some r) : jb_V Γ d zq_261 0 (jb_en 7 [(.ref 79), (.int x1)]) [] (zE L, M, N) (some (.int r.1)) (zE L, r.2, N) := zg_261 hd x1 M N h ⟨rfl, rfl⟩
-- X13_beams
set_option maxRecDepth 20000 in
theorem zg_262_J197 {Γ : jb_G} {L : Nat} {d : Nat} (hd : 1 ≤ d) (x1 : Int32) (x2 : Int32) (x3 : Int32) (s1 : Int32) (s2 : Int32) (s3 : Int32) (M : jb_Mi) (N : jb_Ml) {v : Option Value} {σ2 : jb_S} {r : ((Int32 × jb_Mi) ⊕ ((Int32 × jb_Mi) ⊕ (Int32 × jb_Mi)))} (h : zf_262_J197 x1 x2 x3 s1 s2 s3 M = some r) (hK : (jb_K (fun s : Int32 × jb_Mi => jb_V Γ d zq_262 64 [some (.ref 79), some (.int x1), some (.int x2), some (.int s.1), none, none, none, none] [] (zE L, s.2, N) v σ2) (jb_K (fun s : Int32 × jb_Mi => jb_V Γ d zq_262 57 [some (.ref 79), some (.int x1), some (.int s.1), none, none, none, none, none] [] (zE L, s.2, N) v σ2) (fun r : Int32 × jb_Mi => v = some (.int r.1) ∧ σ2 = (zE L, r.2, N)))) r) : jb_V Γ d zq_262 197 [some (.ref 79), some (.int x1), some (.int x2), some (.int x3), none, none, none, none] [(.int s3), (.int s2), (.int s1), (.ref 112)] (zE L, M, N) v σ2 := by
  obtain ⟨d, rfl⟩ : ∃ e, d = e + 1 := ⟨d - 1, by omega⟩
  unfold zf_262_J197 at h
  obtain ⟨g5, h⟩ := jb_gd_of h
  refine jb_seg 4 (pc' := 64) (ls' := [some (.ref 79), some (.int x1), some (.int x2), some (.int (x3 + 1)), none, none, none, none]) (st' := []) (σ' := (zE L, (jb_up M 112 s1.toNatClampNeg (s2 + s3)), N)) (G := [vp_in s1 64]) rfl g5 ?_
  obtain rfl := Option.some.inj h
  exact jb_mask [true, true, true, true, false, false, false, false] rfl hK
set_option maxRecDepth 20000 in
theorem zg_262_H125 {Γ : jb_G} {L : Nat} {d : Nat} (hd : 1 ≤ d) (x1 : Int32) (x2 : Int32) (x3 : Int32) (x4 : Int32) (x5 : Int32) (M : jb_Mi) (N : jb_Ml) (s : Int32 × Int32) {v : Option Value} {σ2 : jb_S} {r : ((Int32 × Int32) ⊕ ((Int32 × jb_Mi) ⊕ ((Int32 × jb_Mi) ⊕ (Int32 × jb_Mi))))} (h : zf_262_H125 x1 x2 x3 x4 x5 M s = some r) (hK : (jb_K (fun s : Int32 × Int32 => jb_V Γ d zq_262 125 [some (.ref 79), some (.int x1), some (.int x2), some (.int x3), some (.int x4), some (.int x5), some (.int s.1), some (.int s.2)] [] (zE L, M, N) v σ2) (jb_K (fun s : Int32 × jb_Mi => jb_V Γ d zq_262 64 [some (.ref 79), some (.int x1), some (.int x2), some (.int s.1), none, none, none, none] [] (zE L, s.2, N) v σ2) (jb_K (fun s : Int32 × jb_Mi => jb_V Γ d zq_262 57 [some (.ref 79), some (.int x1), some (.int s.1), none, none, none, none, none] [] (zE L, s.2, N) v σ2) (fun r : Int32 × jb_Mi => v = some (.int r.1) ∧ σ2 = (zE L, r.2, N))))) r) : jb_V Γ d zq_262 125 [some (.ref 79), some (.int x1), some (.int x2), some (.int x3), some (.int x4), some (.int x5), some (.int s.1), some (.int s.2)] [] (zE L, M, N) v σ2 := by
  obtain ⟨d, rfl⟩ : ∃ e, d = e + 1 := ⟨d - 1, by omega⟩
  unfold zf_262_H125 at h
  refine jb_seg 3 (pc' := (if s.2 < x4 then 132 else 173)) (ls' := [some (.ref 79), some (.int x1), some (.int x2), some (.int x3), some (.int x4), some (.int x5), some (.int s.1), some (.int s.2)]) (st' := []) (σ' := (zE L, M, N)) (G := []) rfl trivial ?_
  refine jb_ite (fun c => ?_) (fun c => ?_)
  · replace h := (if_pos c).symm.trans h
    obtain ⟨g3, h⟩ := jb_gd_of h
    obtain ⟨g4, h⟩ := jb_gd_of h
    refine jb_seg 20 (pc' := 162) (ls' := [some (.ref 79), some (.int x1), some (.int x2), some (.int x3), some (.int x4), some (.int x5), some (.int s.1), some (.int s.2)]) (st' := [(.int ((M 112 (((8 * x3) + s.2)).toNatClampNeg) + (M 112 (((8 * (s.2 + 1)) + x4)).toNatClampNeg))), (.int s.1)]) (σ' := (zE L, M, N)) (G := [vp_in ((8 * x3) + s.2) 64, vp_in ((8 * (s.2 + 1)) + x4) 64]) rfl ⟨g3, g4⟩ ?_
    refine jb_callS (q' := zq_165) (As := [(.int s.1), (.int ((M 112 (((8 * x3) + s.2)).toNatClampNeg) + (M 112 (((8 * (s.2 + 1)) + x4)).toNatClampNeg)))]) (rest := []) (σ1 := (zE L, M, N)) (v := some (.int (zf_165 s.1 ((M 112 (((8 * x3) + s.2)).toNatClampNeg) + (M 112 (((8 * (s.2 + 1)) + x4)).toNatClampNeg))))) rfl (Nat.le_of_ble_eq_true rfl) rfl zp_165 (jb_cat rfl) (Nat.le_of_ble_eq_true rfl) (Nat.le_of_ble_eq_true rfl) (Or.inl rfl) rfl (ze_165 s.1 ((M 112 (((8 * x3) + s.2)).toNatClampNeg) + (M 112 (((8 * (s.2 + 1)) + x4)).toNatClampNeg)) M N rfl) ?_
    refine jb_seg 3 (pc' := 125) (ls' := [some (.ref 79), some (.int x1), some (.int x2), some (.int x3), some (.int x4), some (.int x5), some (.int (zf_165 s.1 ((M 112 (((8 * x3) + s.2)).toNatClampNeg) + (M 112 (((8 * (s.2 + 1)) + x4)).toNatClampNeg)))), some (.int (s.2 + 1))]) (st' := []) (σ' := (zE L, M, N)) (G := []) rfl trivial ?_
    obtain rfl := Option.some.inj h
    exact jb_mask [true, true, true, true, true, true, true, true] rfl hK
  · replace h := (if_neg c).symm.trans h
    refine jb_seg 11 (pc' := (if x2 = 1 then 191 else 195)) (ls' := [some (.ref 79), some (.int x1), some (.int x2), some (.int x3), some (.int x4), some (.int x5), some (.int s.1), some (.int s.2)]) (st' := [(.int s.1), (.int ((8 * x3) + x4)), (.ref 112)]) (σ' := (zE L, M, N)) (G := []) rfl trivial ?_
    refine jb_ite (fun c => ?_) (fun c => ?_)
    · replace h := (if_pos c).symm.trans h
      refine jb_seg 2 (pc' := 197) (ls' := [some (.ref 79), some (.int x1), some (.int x2), some (.int x3), some (.int x4), some (.int x5), some (.int s.1), some (.int s.2)]) (st' := [(.int 0), (.int s.1), (.int ((8 * x3) + x4)), (.ref 112)]) (σ' := (zE L, M, N)) (G := []) rfl trivial ?_
      obtain ⟨y0, hy0, rfl⟩ := jb_mp_of h
      exact jb_mask [true, true, true, true, false, false, false, false] rfl (zg_262_J197 hd x1 x2 x3 ((8 * x3) + x4) s.1 0 M N hy0 hK)
    · replace h := (if_neg c).symm.trans h
      refine jb_seg 1 (pc' := 197) (ls' := [some (.ref 79), some (.int x1), some (.int x2), some (.int x3), some (.int x4), some (.int x5), some (.int s.1), some (.int s.2)]) (st' := [(.int x5), (.int s.1), (.int ((8 * x3) + x4)), (.ref 112)]) (σ' := (zE L, M, N)) (G := []) rfl trivial ?_
      obtain ⟨y0, hy0, rfl⟩ := jb_mp_of h
      exact jb_mask [true, true, true, true, false, false, false, false] rfl (zg_262_J197 hd x1 x2 x3 ((8 * x3) + x4) s.1 x5 M N hy0 hK)
theorem zg_262_H125L {Γ : jb_G} {L : Nat} {d : Nat} (hd : 1 ≤ d) (x1 : Int32) (x2 : Int32) (x3 : Int32) (x4 : Int32) (x5 : Int32) (M : jb_Mi) (N : jb_Ml) {v : Option Value} {σ2 : jb_S} {s : Int32 × Int32} {r : ((Int32 × jb_Mi) ⊕ ((Int32 × jb_Mi) ⊕ (Int32 × jb_Mi)))} (h : jb_lp (zf_262_H125 x1 x2 x3 x4 x5 M) s = some r) (hK : (jb_K (fun s : Int32 × jb_Mi => jb_V Γ d zq_262 64 [some (.ref 79), some (.int x1), some (.int x2), some (.int s.1), none, none, none, none] [] (zE L, s.2, N) v σ2) (jb_K (fun s : Int32 × jb_Mi => jb_V Γ d zq_262 57 [some (.ref 79), some (.int x1), some (.int s.1), none, none, none, none, none] [] (zE L, s.2, N) v σ2) (fun r : Int32 × jb_Mi => v = some (.int r.1) ∧ σ2 = (zE L, r.2, N)))) r) : jb_V Γ d zq_262 125 [some (.ref 79), some (.int x1), some (.int x2), some (.int x3), some (.int x4), some (.int x5), some (.int s.1), some (.int s.2)] [] (zE L, M, N) v σ2 := by
  exact @jb_lp_ind (Int32 × Int32) (((Int32 × jb_Mi) ⊕ ((Int32 × jb_Mi) ⊕ (Int32 × jb_Mi)))) (zf_262_H125 x1 x2 x3 x4 x5 M) (fun s => jb_V Γ d zq_262 125 [some (.ref 79), some (.int x1), some (.int x2), some (.int x3), some (.int x4), some (.int x5), some (.int s.1), some (.int s.2)] [] (zE L, M, N) v σ2) (jb_K (fun s : Int32 × jb_Mi => jb_V Γ d zq_262 64 [some (.ref 79), some (.int x1), some (.int x2), some (.int s.1), none, none, none, none] [] (zE L, s.2, N) v σ2) (jb_K (fun s : Int32 × jb_Mi => jb_V Γ d zq_262 57 [some (.ref 79), some (.int x1), some (.int s.1), none, none, none, none, none] [] (zE L, s.2, N) v σ2) (fun r : Int32 × jb_Mi => v = some (.int r.1) ∧ σ2 = (zE L, r.2, N)))) (fun s r h hk => zg_262_H125 hd x1 x2 x3 x4 x5 M N s h hk) s r h hK
set_option maxRecDepth 20000 in
theorem zg_262_H98 {Γ : jb_G} {L : Nat} {d : Nat} (hd : 1 ≤ d) (x1 : Int32) (x2 : Int32) (x3 : Int32) (x4 : Int32) (x6 : Int32) (M : jb_Mi) (N : jb_Ml) (s : Int32 × Int32) {v : Option Value} {σ2 : jb_S} {r : ((Int32 × Int32) ⊕ ((Int32 × jb_Mi) ⊕ ((Int32 × jb_Mi) ⊕ (Int32 × jb_Mi))))} (h : zf_262_H98 x1 x2 x3 x4 x6 M s = some r) (hK : (jb_K (fun s : Int32 × Int32 => jb_V Γ d zq_262 98 [some (.ref 79), some (.int x1), some (.int x2), some (.int x3), some (.int x4), some (.int s.1), some (.int x6), some (.int s.2)] [] (zE L, M, N) v σ2) (jb_K (fun s : Int32 × jb_Mi => jb_V Γ d zq_262 64 [some (.ref 79), some (.int x1), some (.int x2), some (.int s.1), none, none, none, none] [] (zE L, s.2, N) v σ2) (jb_K (fun s : Int32 × jb_Mi => jb_V Γ d zq_262 57 [some (.ref 79), some (.int x1), some (.int s.1), none, none, none, none, none] [] (zE L, s.2, N) v σ2) (fun r : Int32 × jb_Mi => v = some (.int r.1) ∧ σ2 = (zE L, r.2, N))))) r) : jb_V Γ d zq_262 98 [some (.ref 79), some (.int x1), some (.int x2), some (.int x3), some (.int x4), some (.int s.1), some (.int x6), some (.int s.2)] [] (zE L, M, N) v σ2 := by
  obtain ⟨d, rfl⟩ : ∃ e, d = e + 1 := ⟨d - 1, by omega⟩
  unfold zf_262_H98 at h
  refine jb_seg 3 (pc' := (if x4 < s.2 then 122 else 105)) (ls' := [some (.ref 79), some (.int x1), some (.int x2), some (.int x3), some (.int x4), some (.int s.1), some (.int x6), some (.int s.2)]) (st' := []) (σ' := (zE L, M, N)) (G := []) rfl trivial ?_
  refine jb_ite (fun c => ?_) (fun c => ?_)
  · replace h := (if_pos c).symm.trans h
    refine jb_seg 2 (pc' := 125) (ls' := [some (.ref 79), some (.int x1), some (.int x2), some (.int x3), some (.int x4), some (.int s.1), some (.int x6), some (.int x3)]) (st' := []) (σ' := (zE L, M, N)) (G := []) rfl trivial ?_
    obtain ⟨y0, hy0, rfl⟩ := jb_mp_of h
    exact jb_mask [true, true, true, true, true, true, true, true] rfl (zg_262_H125L hd x1 x2 x3 x4 s.1 M N hy0 hK)
  · replace h := (if_neg c).symm.trans h
    refine jb_seg 3 (pc' := 110) (ls' := [some (.ref 79), some (.int x1), some (.int x2), some (.int x3), some (.int x4), some (.int s.1), some (.int x6), some (.int s.2)]) (st' := [(.int s.2), (.ref 79), (.int s.1)]) (σ' := (zE L, M, N)) (G := []) rfl trivial ?_
    obtain ⟨q6, h6, h⟩ := jb_bd_of h
    refine jb_callV (q' := zq_183) (As := [(.int s.2)]) (rest := [(.int s.1)]) (σ1 := (zE L, M, N)) (v := some (.int q6)) rfl rfl zp_183 rfl (Nat.le_of_ble_eq_true rfl) (jb_cat rfl) (Nat.le_of_ble_eq_true rfl) (Nat.le_of_ble_eq_true rfl) (Or.inl rfl) rfl (ze_183 s.2 M N h6) ?_
    refine jb_seg 4 (pc' := 98) (ls' := [some (.ref 79), some (.int x1), some (.int x2), some (.int x3), some (.int x4), some (.int (s.1 + q6)), some (.int x6), some (.int (s.2 + 1))]) (st' := []) (σ' := (zE L, M, N)) (G := []) rfl trivial ?_
    obtain rfl := Option.some.inj h
    exact jb_mask [true, true, true, true, true, true, true, true] rfl hK
theorem zg_262_H98L {Γ : jb_G} {L : Nat} {d : Nat} (hd : 1 ≤ d) (x1 : Int32) (x2 : Int32) (x3 : Int32) (x4 : Int32) (x6 : Int32) (M : jb_Mi) (N : jb_Ml) {v : Option Value} {σ2 : jb_S} {s : Int32 × Int32} {r : ((Int32 × jb_Mi) ⊕ ((Int32 × jb_Mi) ⊕ (Int32 × jb_Mi)))} (h : jb_lp (zf_262_H98 x1 x2 x3 x4 x6 M) s = some r) (hK : (jb_K (fun s : Int32 × jb_Mi => jb_V Γ d zq_262 64 [some (.ref 79), some (.int x1), some (.int x2), some (.int s.1), none, none, none, none] [] (zE L, s.2, N) v σ2) (jb_K (fun s : Int32 × jb_Mi => jb_V Γ d zq_262 57 [some (.ref 79), some (.int x1), some (.int s.1), none, none, none, none, none] [] (zE L, s.2, N) v σ2) (fun r : Int32 × jb_Mi => v = some (.int r.1) ∧ σ2 = (zE L, r.2, N)))) r) : jb_V Γ d zq_262 98 [some (.ref 79), some (.int x1), some (.int x2), some (.int x3), some (.int x4), some (.int s.1), some (.int x6), some (.int s.2)] [] (zE L, M, N) v σ2 := by
  exact @jb_lp_ind (Int32 × Int32) (((Int32 × jb_Mi) ⊕ ((Int32 × jb_Mi) ⊕ (Int32 × jb_Mi)))) (zf_262_H98 x1 x2 x3 x4 x6 M) (fun s => jb_V Γ d zq_262 98 [some (.ref 79), some (.int x1), some (.int x2), some (.int x3), some (.int x4), some (.int s.1), some (.int x6), some (.int s.2)] [] (zE L, M, N) v σ2) (jb_K (fun s : Int32 × jb_Mi => jb_V Γ d zq_262 64 [some (.ref 79), some (.int x1), some (.int x2), some (.int s.1), none, none, none, none] [] (zE L, s.2, N) v σ2) (jb_K (fun s : Int32 × jb_Mi => jb_V Γ d zq_262 57 [some (.ref 79), some (.int x1), some (.int s.1), none, none, none, none, none] [] (zE L, s.2, N) v σ2) (fun r : Int32 × jb_Mi => v = some (.int r.1) ∧ σ2 = (zE L, r.2, N)))) (fun s r h hk => zg_262_H98 hd x1 x2 x3 x4 x6 M N s h hk) s r h hK
set_option maxRecDepth 20000 in
theorem zg_262_J93 {Γ : jb_G} {L : Nat} {d : Nat} (hd : 1 ≤ d) (x1 : Int32) (x2 : Int32) (x3 : Int32) (x4 : Int32) (x5 : Int32) (s0 : Int32) (M : jb_Mi) (N : jb_Ml) {v : Option Value} {σ2 : jb_S} {r : ((Int32 × jb_Mi) ⊕ ((Int32 × jb_Mi) ⊕ (Int32 × jb_Mi)))} (h : zf_262_J93 x1 x2 x3 x4 x5 s0 M = some r) (hK : (jb_K (fun s : Int32 × jb_Mi => jb_V Γ d zq_262 64 [some (.ref 79), some (.int x1), some (.int x2), some (.int s.1), none, none, none, none] [] (zE L, s.2, N) v σ2) (jb_K (fun s : Int32 × jb_Mi => jb_V Γ d zq_262 57 [some (.ref 79), some (.int x1), some (.int s.1), none, none, none, none, none] [] (zE L, s.2, N) v σ2) (fun r : Int32 × jb_Mi => v = some (.int r.1) ∧ σ2 = (zE L, r.2, N)))) r) : jb_V Γ d zq_262 93 [some (.ref 79), some (.int x1), some (.int x2), some (.int x3), some (.int x4), some (.int x5), none, none] [(.int s0)] (zE L, M, N) v σ2 := by
  obtain ⟨d, rfl⟩ : ∃ e, d = e + 1 := ⟨d - 1, by omega⟩
  unfold zf_262_J93 at h
  refine jb_seg 3 (pc' := 98) (ls' := [some (.ref 79), some (.int x1), some (.int x2), some (.int x3), some (.int x4), some (.int x5), some (.int s0), some (.int x3)]) (st' := []) (σ' := (zE L, M, N)) (G := []) rfl trivial ?_
  exact jb_mask [true, true, true, true, true, true, true, true] rfl (zg_262_H98L hd x1 x2 x3 x4 s0 M N h hK)
set_option maxRecDepth 20000 in
theorem zg_262_H64 {Γ : jb_G} {L : Nat} {d : Nat} (hd : 1 ≤ d) (x1 : Int32) (x2 : Int32) (N : jb_Ml) (s : Int32 × jb_Mi) {v : Option Value} {σ2 : jb_S} {r : ((Int32 × jb_Mi) ⊕ ((Int32 × jb_Mi) ⊕ (Int32 × jb_Mi)))} (h : zf_262_H64 x1 x2 s = some r) (hK : (jb_K (fun s : Int32 × jb_Mi => jb_V Γ d zq_262 64 [some (.ref 79), some (.int x1), some (.int x2), some (.int s.1), none, none, none, none] [] (zE L, s.2, N) v σ2) (jb_K (fun s : Int32 × jb_Mi => jb_V Γ d zq_262 57 [some (.ref 79), some (.int x1), some (.int s.1), none, none, none, none, none] [] (zE L, s.2, N) v σ2) (fun r : Int32 × jb_Mi => v = some (.int r.1) ∧ σ2 = (zE L, r.2, N)))) r) : jb_V Γ d zq_262 64 [some (.ref 79), some (.int x1), some (.int x2), some (.int s.1), none, none, none, none] [] (zE L, s.2, N) v σ2 := by
  obtain ⟨d, rfl⟩ : ∃ e, d = e + 1 := ⟨d - 1, by omega⟩
  unfold zf_262_H64 at h
  refine jb_seg 5 (pc' := (if x1 < (s.1 + x2) then 205 else 71)) (ls' := [some (.ref 79), some (.int x1), some (.int x2), some (.int s.1), none, none, none, none]) (st' := []) (σ' := (zE L, s.2, N)) (G := []) rfl trivial ?_
  refine jb_ite (fun c => ?_) (fun c => ?_)
  · replace h := (if_pos c).symm.trans h
    refine jb_seg 2 (pc' := 57) (ls' := [some (.ref 79), some (.int x1), some (.int (x2 + 1)), some (.int s.1), none, none, none, none]) (st' := []) (σ' := (zE L, s.2, N)) (G := []) rfl trivial ?_
    obtain rfl := Option.some.inj h
    exact jb_mask [true, true, true, false, false, false, false, false] rfl hK
  · replace h := (if_neg c).symm.trans h
    refine jb_seg 11 (pc' := (if x2 = 1 then 86 else 90)) (ls' := [some (.ref 79), some (.int x1), some (.int x2), some (.int s.1), some (.int ((s.1 + x2) - 1)), some (.int 0), none, none]) (st' := []) (σ' := (zE L, s.2, N)) (G := []) rfl trivial ?_
    refine jb_ite (fun c => ?_) (fun c => ?_)
    · replace h := (if_pos c).symm.trans h
      refine jb_seg 2 (pc' := 93) (ls' := [some (.ref 79), some (.int x1), some (.int x2), some (.int s.1), some (.int ((s.1 + x2) - 1)), some (.int 0), none, none]) (st' := [(.int 0)]) (σ' := (zE L, s.2, N)) (G := []) rfl trivial ?_
      exact jb_mask [true, true, true, true, true, true, false, false] rfl (zg_262_J93 hd x1 x2 s.1 ((s.1 + x2) - 1) 0 0 s.2 N h hK)
    · replace h := (if_neg c).symm.trans h
      refine jb_seg 1 (pc' := 93) (ls' := [some (.ref 79), some (.int x1), some (.int x2), some (.int s.1), some (.int ((s.1 + x2) - 1)), some (.int 0), none, none]) (st' := [(.int 100000000)]) (σ' := (zE L, s.2, N)) (G := []) rfl trivial ?_
      exact jb_mask [true, true, true, true, true, true, false, false] rfl (zg_262_J93 hd x1 x2 s.1 ((s.1 + x2) - 1) 0 100000000 s.2 N h hK)
theorem zg_262_H64L {Γ : jb_G} {L : Nat} {d : Nat} (hd : 1 ≤ d) (x1 : Int32) (x2 : Int32) (N : jb_Ml) {v : Option Value} {σ2 : jb_S} {s : Int32 × jb_Mi} {r : ((Int32 × jb_Mi) ⊕ (Int32 × jb_Mi))} (h : jb_lp (zf_262_H64 x1 x2) s = some r) (hK : (jb_K (fun s : Int32 × jb_Mi => jb_V Γ d zq_262 57 [some (.ref 79), some (.int x1), some (.int s.1), none, none, none, none, none] [] (zE L, s.2, N) v σ2) (fun r : Int32 × jb_Mi => v = some (.int r.1) ∧ σ2 = (zE L, r.2, N))) r) : jb_V Γ d zq_262 64 [some (.ref 79), some (.int x1), some (.int x2), some (.int s.1), none, none, none, none] [] (zE L, s.2, N) v σ2 := by
  exact @jb_lp_ind (Int32 × jb_Mi) (((Int32 × jb_Mi) ⊕ (Int32 × jb_Mi))) (zf_262_H64 x1 x2) (fun s => jb_V Γ d zq_262 64 [some (.ref 79), some (.int x1), some (.int x2), some (.int s.1), none, none, none, none] [] (zE L, s.2, N) v σ2) (jb_K (fun s : Int32 × jb_Mi => jb_V Γ d zq_262 57 [some (.ref 79), some (.int x1), some (.int s.1), none, none, none, none, none] [] (zE L, s.2, N) v σ2) (fun r : Int32 × jb_Mi => v = some (.int r.1) ∧ σ2 = (zE L, r.2, N))) (fun s r h hk => zg_262_H64 hd x1 x2 N s h hk) s r h hK
set_option maxRecDepth 20000 in
theorem zg_262_H57 {Γ : jb_G} {L : Nat} {d : Nat} (hd : 1 ≤ d) (x1 : Int32) (N : jb_Ml) (s : Int32 × jb_Mi) {v : Option Value} {σ2 : jb_S} {r : ((Int32 × jb_Mi) ⊕ (Int32 × jb_Mi))} (h : zf_262_H57 x1 s = some r) (hK : (jb_K (fun s : Int32 × jb_Mi => jb_V Γ d zq_262 57 [some (.ref 79), some (.int x1), some (.int s.1), none, none, none, none, none] [] (zE L, s.2, N) v σ2) (fun r : Int32 × jb_Mi => v = some (.int r.1) ∧ σ2 = (zE L, r.2, N))) r) : jb_V Γ d zq_262 57 [some (.ref 79), some (.int x1), some (.int s.1), none, none, none, none, none] [] (zE L, s.2, N) v σ2 := by
  obtain ⟨d, rfl⟩ : ∃ e, d = e + 1 := ⟨d - 1, by omega⟩
  unfold zf_262_H57 at h
  refine jb_seg 3 (pc' := (if x1 < s.1 then 211 else 62)) (ls' := [some (.ref 79), some (.int x1), some (.int s.1), none, none, none, none, none]) (st' := []) (σ' := (zE L, s.2, N)) (G := []) rfl trivial ?_
  refine jb_ite (fun c => ?_) (fun c => ?_)
  · replace h := (if_pos c).symm.trans h
    obtain ⟨g2, h⟩ := jb_gd_of h
    refine jb_seg 6 (pc' := 219) (ls' := [some (.ref 79), some (.int x1), some (.int s.1), none, none, none, none, none]) (st' := [(.int (s.2 112 ((x1 - 1)).toNatClampNeg))]) (σ' := (zE L, s.2, N)) (G := [vp_in (x1 - 1) 64]) rfl g2 ?_
    obtain rfl := Option.some.inj h
    obtain ⟨rfl, rfl⟩ := hK
    exact jb_reti rfl rfl
  · replace h := (if_neg c).symm.trans h
    refine jb_seg 2 (pc' := 64) (ls' := [some (.ref 79), some (.int x1), some (.int s.1), some (.int 0), none, none, none, none]) (st' := []) (σ' := (zE L, s.2, N)) (G := []) rfl trivial ?_
    exact jb_mask [true, true, true, true, false, false, false, false] rfl (zg_262_H64L hd x1 s.1 N h hK)
theorem zg_262_H57L {Γ : jb_G} {L : Nat} {d : Nat} (hd : 1 ≤ d) (x1 : Int32) (N : jb_Ml) {v : Option Value} {σ2 : jb_S} {s : Int32 × jb_Mi} {r : (Int32 × jb_Mi)} (h : jb_lp (zf_262_H57 x1) s = some r) (hK : (fun r : Int32 × jb_Mi => v = some (.int r.1) ∧ σ2 = (zE L, r.2, N)) r) : jb_V Γ d zq_262 57 [some (.ref 79), some (.int x1), some (.int s.1), none, none, none, none, none] [] (zE L, s.2, N) v σ2 := by
  exact @jb_lp_ind (Int32 × jb_Mi) ((Int32 × jb_Mi)) (zf_262_H57 x1) (fun s => jb_V Γ d zq_262 57 [some (.ref 79), some (.int x1), some (.int s.1), none, none, none, none, none] [] (zE L, s.2, N) v σ2) (fun r : Int32 × jb_Mi => v = some (.int r.1) ∧ σ2 = (zE L, r.2, N)) (fun s r h hk => zg_262_H57 hd x1 N s h hk) s r h hK
set_option maxRecDepth 20000 in
theorem zg_262_H27 {Γ : jb_G} {L : Nat} {d : Nat} (hd : 1 ≤ d) (x1 : Int32) (M : jb_Mi) (N : jb_Ml) (s : Int32) {v : Option Value} {σ2 : jb_S} {r : ((Int32) ⊕ (Int32 × jb_Mi))} (h : zf_262_H27 x1 M s = some r) (hK : (jb_K (fun s : Int32 => jb_V Γ d zq_262 27 [some (.ref 79), some (.int x1), some (.int s), none, none, none, none, none] [] (zE L, M, N) v σ2) (fun r : Int32 × jb_Mi => v = some (.int r.1) ∧ σ2 = (zE L, r.2, N))) r) : jb_V Γ d zq_262 27 [some (.ref 79), some (.int x1), some (.int s), none, none, none, none, none] [] (zE L, M, N) v σ2 := by
  obtain ⟨d, rfl⟩ : ∃ e, d = e + 1 := ⟨d - 1, by omega⟩
  unfold zf_262_H27 at h
  refine jb_seg 3 (pc' := (if s < x1 then 32 else 55)) (ls' := [some (.ref 79), some (.int x1), some (.int s), none, none, none, none, none]) (st' := []) (σ' := (zE L, M, N)) (G := []) rfl trivial ?_
  refine jb_ite (fun c => ?_) (fun c => ?_)
  · replace h := (if_pos c).symm.trans h
    refine jb_seg 2 (pc' := 34) (ls' := [some (.ref 79), some (.int x1), some (.int s), none, none, none, none, none]) (st' := [(.int s), (.ref 79)]) (σ' := (zE L, M, N)) (G := []) rfl trivial ?_
    obtain ⟨q1, h1, h⟩ := jb_bd_of h
    refine jb_callV (q' := zq_183) (As := [(.int s)]) (rest := []) (σ1 := (zE L, M, N)) (v := some (.int q1)) rfl rfl zp_183 rfl (Nat.le_of_ble_eq_true rfl) (jb_cat rfl) (Nat.le_of_ble_eq_true rfl) (Nat.le_of_ble_eq_true rfl) (Or.inl rfl) rfl (ze_183 s M N h1) ?_
    refine jb_seg 2 (pc' := 40) (ls' := [some (.ref 79), some (.int x1), some (.int s), none, none, none, none, none]) (st' := [(.int 99), (.int 1), (.int q1)]) (σ' := (zE L, M, N)) (G := []) rfl trivial ?_
    refine jb_callS (q' := zq_164) (As := [(.int q1), (.int 1), (.int 99)]) (rest := []) (σ1 := (zE L, M, N)) (v := some (.int (jb_b2i (zf_164 q1 1 99)))) rfl (Nat.le_of_ble_eq_true rfl) rfl zp_164 (jb_cat rfl) (Nat.le_of_ble_eq_true rfl) (Nat.le_of_ble_eq_true rfl) (Or.inl rfl) rfl (ze_164 q1 1 99 M N rfl) ?_
    refine jb_seg 1 (pc' := (if (jb_b2i (zf_164 q1 1 99)) = 0 then 46 else 49)) (ls' := [some (.ref 79), some (.int x1), some (.int s), none, none, none, none, none]) (st' := []) (σ' := (zE L, M, N)) (G := []) rfl trivial ?_
    refine jb_ite (fun c => ?_) (fun c => ?_)
    · replace h := (if_pos c).symm.trans h
      refine jb_seg 1 (pc' := 48) (ls' := [some (.ref 79), some (.int x1), some (.int s), none, none, none, none, none]) (st' := [(.int (-2))]) (σ' := (zE L, M, N)) (G := []) rfl trivial ?_
      obtain rfl := Option.some.inj h
      obtain ⟨rfl, rfl⟩ := hK
      exact jb_reti rfl rfl
    · replace h := (if_neg c).symm.trans h
      refine jb_seg 2 (pc' := 27) (ls' := [some (.ref 79), some (.int x1), some (.int (s + 1)), none, none, none, none, none]) (st' := []) (σ' := (zE L, M, N)) (G := []) rfl trivial ?_
      obtain rfl := Option.some.inj h
      exact jb_mask [true, true, true, false, false, false, false, false] rfl hK
  · replace h := (if_neg c).symm.trans h
    refine jb_seg 2 (pc' := 57) (ls' := [some (.ref 79), some (.int x1), some (.int 1), none, none, none, none, none]) (st' := []) (σ' := (zE L, M, N)) (G := []) rfl trivial ?_
    obtain ⟨y0, hy0, rfl⟩ := jb_mp_of h
    exact jb_mask [true, true, true, false, false, false, false, false] rfl (zg_262_H57L hd x1 N hy0 hK)
theorem zg_262_H27L {Γ : jb_G} {L : Nat} {d : Nat} (hd : 1 ≤ d) (x1 : Int32) (M : jb_Mi) (N : jb_Ml) {v : Option Value} {σ2 : jb_S} {s : Int32} {r : (Int32 × jb_Mi)} (h : jb_lp (zf_262_H27 x1 M) s = some r) (hK : (fun r : Int32 × jb_Mi => v = some (.int r.1) ∧ σ2 = (zE L, r.2, N)) r) : jb_V Γ d zq_262 27 [some (.ref 79), some (.int x1), some (.int s), none, none, none, none, none] [] (zE L, M, N) v σ2 := by
  exact @jb_lp_ind (Int32) ((Int32 × jb_Mi)) (zf_262_H27 x1 M) (fun s => jb_V Γ d zq_262 27 [some (.ref 79), some (.int x1), some (.int s), none, none, none, none, none] [] (zE L, M, N) v σ2) (fun r : Int32 × jb_Mi => v = some (.int r.1) ∧ σ2 = (zE L, r.2, N)) (fun s r h hk => zg_262_H27 hd x1 M N s h hk) s r h hK
set_option maxRecDepth 20000 in
theorem zg_262 {Γ : jb_G} {L : Nat} {d : Nat} (hd : 1 ≤ d) (x1 : Int32) (M : jb_Mi) (N : jb_Ml) {v : Option Value} {σ2 : jb_S} {r : (Int32 × jb_Mi)} (h : zf_262 x1 M = some r) (hK : (fun r : Int32 × jb_Mi => v = some (.int r.1) ∧ σ2 = (zE L, r.2, N)) r) : jb_V Γ d zq_262 0 [some (.ref 79), some (.int x1), none, none, none, none, none, none] [] (zE L, M, N) v σ2 := by
  obtain ⟨d, rfl⟩ : ∃ e, d = e + 1 := ⟨d - 1, by omega⟩
  unfold zf_262 at h
  refine jb_seg 3 (pc' := 4) (ls' := [some (.ref 79), some (.int x1), none, none, none, none, none, none]) (st' := [(.int 8), (.int 1), (.int x1)]) (σ' := (zE L, M, N)) (G := []) rfl trivial ?_
  refine jb_callS (q' := zq_164) (As := [(.int x1), (.int 1), (.int 8)]) (rest := []) (σ1 := (zE L, M, N)) (v := some (.int (jb_b2i (zf_164 x1 1 8)))) rfl (Nat.le_of_ble_eq_true rfl) rfl zp_164 (jb_cat rfl) (Nat.le_of_ble_eq_true rfl) (Nat.le_of_ble_eq_true rfl) (Or.inl rfl) rfl (ze_164 x1 1 8 M N rfl) ?_
  refine jb_seg 1 (pc' := (if (jb_b2i (zf_164 x1 1 8)) = 0 then 18 else 10)) (ls' := [some (.ref 79), some (.int x1), none, none, none, none, none, none]) (st' := []) (σ' := (zE L, M, N)) (G := []) rfl trivial ?_
  refine jb_ite (fun c => ?_) (fun c => ?_)
  · replace h := (if_pos c).symm.trans h
    refine jb_seg 1 (pc' := 19) (ls' := [some (.ref 79), some (.int x1), none, none, none, none, none, none]) (st' := [(.int (-1))]) (σ' := (zE L, M, N)) (G := []) rfl trivial ?_
    obtain rfl := Option.some.inj h
    obtain ⟨rfl, rfl⟩ := hK
    exact jb_reti rfl rfl
  · replace h := (if_neg c).symm.trans h
    refine jb_seg 4 (pc' := (if (M 79 4) < x1 then 18 else 20)) (ls' := [some (.ref 79), some (.int x1), none, none, none, none, none, none]) (st' := []) (σ' := (zE L, M, N)) (G := []) rfl trivial ?_
    refine jb_ite (fun c => ?_) (fun c => ?_)
    · replace h := (if_pos c).symm.trans h
      refine jb_seg 1 (pc' := 19) (ls' := [some (.ref 79), some (.int x1), none, none, none, none, none, none]) (st' := [(.int (-1))]) (σ' := (zE L, M, N)) (G := []) rfl trivial ?_
      obtain rfl := Option.some.inj h
      obtain ⟨rfl, rfl⟩ := hK
      exact jb_reti rfl rfl
    · replace h := (if_neg c).symm.trans h
      refine jb_seg 5 (pc' := 27) (ls' := [some (.ref 79), some (.int x1), some (.int 0), none, none, none, none, none]) (st' := []) (σ' := (zE L, (jb_up M 79 4 0), N)) (G := []) rfl trivial ?_
      exact jb_mask [true, true, true, false, false, false, false, false] rfl (zg_262_H27L hd x1 (jb_up M 79 4 0) N h hK)
theorem ze_262 {Γ : jb_G} {L : Nat} {d : Nat} (hd : 1 ≤ d) (x1 : Int32) (M : jb_Mi) (N : jb_Ml) {r : (Int32 × jb_Mi)} (h : zf_262 x1 M = some r) : jb_V Γ d zq_262 0 (jb_en 8 [(.ref 79), (.int x1)]) [] (zE L, M, N) (some (.int r.1)) (zE L, r.2, N) := zg_262 hd x1 M N h ⟨rfl, rfl⟩
