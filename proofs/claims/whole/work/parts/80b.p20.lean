-- X13_relieved
set_option maxRecDepth 20000 in
theorem zg_263_J138 {Γ : jb_G} {L : Nat} {d : Nat} (hd : 3 ≤ d) (x3 : Int32) (x4 : Int32) (x5 : Int32) (x6 : Int32) (x7 : Int32) (x10 : Int32) (x11 : Int32) (s0 : Int32) (M : jb_Mi) (N : jb_Ml) {v : Option Value} {σ2 : jb_S} {r : ((Int32 × Int32 × Int32 × Int32 × Int32 × Int32) ⊕ (Int32))} (h : zf_263_J138 x3 x4 x5 x6 x7 x10 x11 s0 M = some r) (hK : (jb_K (fun s : Int32 × Int32 × Int32 × Int32 × Int32 × Int32 => jb_V Γ d zq_263 66 [some (.ref 79), none, none, some (.int x3), some (.int x4), some (.int s.1), some (.int s.2.1), some (.int s.2.2.1), some (.int s.2.2.2.1), some (.int s.2.2.2.2.1), some (.int s.2.2.2.2.2), none] [] (zE L, M, N) v σ2) (fun r : Int32 => v = some (.int r) ∧ σ2 = (zE L, M, N))) r) : jb_V Γ d zq_263 138 [some (.ref 79), none, none, some (.int x3), some (.int x4), some (.int x5), some (.int x6), some (.int x7), none, none, some (.int x10), some (.int x11)] [(.int s0)] (zE L, M, N) v σ2 := by
  obtain ⟨d, rfl⟩ : ∃ e, d = e + 1 := ⟨d - 1, by omega⟩
  unfold zf_263_J138 at h
  refine jb_seg 3 (pc' := 144) (ls' := [some (.ref 79), none, none, some (.int x3), some (.int x4), some (.int x5), some (.int x6), some (.int x7), some (.int s0), none, some (.int x10), some (.int x11)]) (st' := [(.int s0), (.int x7)]) (σ' := (zE L, M, N)) (G := []) rfl trivial ?_
  refine jb_callS (q' := zq_166) (As := [(.int x7), (.int s0)]) (rest := []) (σ1 := (zE L, M, N)) (v := some (.int (zf_166 x7 s0))) rfl (Nat.le_of_ble_eq_true rfl) rfl zp_166 (jb_cat rfl) (Nat.le_of_ble_eq_true rfl) (Nat.le_of_ble_eq_true rfl) (Or.inl rfl) rfl (ze_166 x7 s0 M N rfl) ?_
  refine jb_seg 5 (pc' := 66) (ls' := [some (.ref 79), none, none, some (.int x3), some (.int x4), some (.int x5), some (.int x6), some (.int (zf_166 x7 s0)), some (.int s0), some (.int x11), some (.int (x10 + 1)), some (.int x11)]) (st' := []) (σ' := (zE L, M, N)) (G := []) rfl trivial ?_
  obtain rfl := Option.some.inj h
  exact jb_mask [true, false, false, true, true, true, true, true, true, true, true, false] rfl hK
set_option maxRecDepth 20000 in
theorem zg_263_J113 {Γ : jb_G} {L : Nat} {d : Nat} (hd : 3 ≤ d) (x3 : Int32) (x4 : Int32) (x5 : Int32) (x6 : Int32) (x7 : Int32) (x8 : Int32) (x9 : Int32) (x10 : Int32) (x11 : Int32) (M : jb_Mi) (N : jb_Ml) {v : Option Value} {σ2 : jb_S} {r : ((Int32 × Int32 × Int32 × Int32 × Int32 × Int32) ⊕ (Int32))} (h : zf_263_J113 x3 x4 x5 x6 x7 x8 x9 x10 x11 M = some r) (hK : (jb_K (fun s : Int32 × Int32 × Int32 × Int32 × Int32 × Int32 => jb_V Γ d zq_263 66 [some (.ref 79), none, none, some (.int x3), some (.int x4), some (.int s.1), some (.int s.2.1), some (.int s.2.2.1), some (.int s.2.2.2.1), some (.int s.2.2.2.2.1), some (.int s.2.2.2.2.2), none] [] (zE L, M, N) v σ2) (fun r : Int32 => v = some (.int r) ∧ σ2 = (zE L, M, N))) r) : jb_V Γ d zq_263 113 [some (.ref 79), none, none, some (.int x3), some (.int x4), some (.int x5), some (.int x6), some (.int x7), some (.int x8), some (.int x9), some (.int x10), some (.int x11)] [] (zE L, M, N) v σ2 := by
  obtain ⟨d, rfl⟩ : ∃ e, d = e + 1 := ⟨d - 1, by omega⟩
  unfold zf_263_J113 at h
  refine jb_seg 3 (pc' := (if x11 = (-1) then 119 else 123)) (ls' := [some (.ref 79), none, none, some (.int x3), some (.int x4), some (.int x5), some (.int x6), some (.int x7), some (.int x8), some (.int x9), some (.int x10), some (.int x11)]) (st' := []) (σ' := (zE L, M, N)) (G := []) rfl trivial ?_
  refine jb_ite (fun c => ?_) (fun c => ?_)
  · replace h := (if_pos c).symm.trans h
    refine jb_seg 2 (pc' := 138) (ls' := [some (.ref 79), none, none, some (.int x3), some (.int x4), some (.int x5), some (.int x6), some (.int x7), some (.int x8), some (.int x9), some (.int x10), some (.int x11)]) (st' := [(.int 0)]) (σ' := (zE L, M, N)) (G := []) rfl trivial ?_
    exact jb_mask [true, false, false, true, true, true, true, true, false, false, true, true] rfl (zg_263_J138 hd x3 x4 x5 x6 x7 x10 x11 0 M N h hK)
  · replace h := (if_neg c).symm.trans h
    refine jb_seg 3 (pc' := (if x11 = x9 then 130 else 137)) (ls' := [some (.ref 79), none, none, some (.int x3), some (.int x4), some (.int x5), some (.int x6), some (.int x7), some (.int x8), some (.int x9), some (.int x10), some (.int x11)]) (st' := []) (σ' := (zE L, M, N)) (G := []) rfl trivial ?_
    refine jb_ite (fun c => ?_) (fun c => ?_)
    · replace h := (if_pos c).symm.trans h
      refine jb_seg 4 (pc' := 138) (ls' := [some (.ref 79), none, none, some (.int x3), some (.int x4), some (.int x5), some (.int x6), some (.int x7), some (.int x8), some (.int x9), some (.int x10), some (.int x11)]) (st' := [(.int (x8 + 1))]) (σ' := (zE L, M, N)) (G := []) rfl trivial ?_
      exact jb_mask [true, false, false, true, true, true, true, true, false, false, true, true] rfl (zg_263_J138 hd x3 x4 x5 x6 x7 x10 x11 (x8 + 1) M N h hK)
    · replace h := (if_neg c).symm.trans h
      refine jb_seg 1 (pc' := 138) (ls' := [some (.ref 79), none, none, some (.int x3), some (.int x4), some (.int x5), some (.int x6), some (.int x7), some (.int x8), some (.int x9), some (.int x10), some (.int x11)]) (st' := [(.int 1)]) (σ' := (zE L, M, N)) (G := []) rfl trivial ?_
      exact jb_mask [true, false, false, true, true, true, true, true, false, false, true, true] rfl (zg_263_J138 hd x3 x4 x5 x6 x7 x10 x11 1 M N h hK)
set_option maxRecDepth 20000 in
theorem zg_263_J101 {Γ : jb_G} {L : Nat} {d : Nat} (hd : 3 ≤ d) (x3 : Int32) (x4 : Int32) (x5 : Int32) (x6 : Int32) (x7 : Int32) (x8 : Int32) (x9 : Int32) (x10 : Int32) (x11 : Int32) (M : jb_Mi) (N : jb_Ml) {v : Option Value} {σ2 : jb_S} {r : ((Int32 × Int32 × Int32 × Int32 × Int32 × Int32) ⊕ (Int32))} (h : zf_263_J101 x3 x4 x5 x6 x7 x8 x9 x10 x11 M = some r) (hK : (jb_K (fun s : Int32 × Int32 × Int32 × Int32 × Int32 × Int32 => jb_V Γ d zq_263 66 [some (.ref 79), none, none, some (.int x3), some (.int x4), some (.int s.1), some (.int s.2.1), some (.int s.2.2.1), some (.int s.2.2.2.1), some (.int s.2.2.2.2.1), some (.int s.2.2.2.2.2), none] [] (zE L, M, N) v σ2) (fun r : Int32 => v = some (.int r) ∧ σ2 = (zE L, M, N))) r) : jb_V Γ d zq_263 101 [some (.ref 79), none, none, some (.int x3), some (.int x4), some (.int x5), some (.int x6), some (.int x7), some (.int x8), some (.int x9), some (.int x10), some (.int x11)] [] (zE L, M, N) v σ2 := by
  obtain ⟨d, rfl⟩ : ∃ e, d = e + 1 := ⟨d - 1, by omega⟩
  unfold zf_263_J101 at h
  refine jb_seg 3 (pc' := (if x11 = (-1) then 107 else 113)) (ls' := [some (.ref 79), none, none, some (.int x3), some (.int x4), some (.int x5), some (.int x6), some (.int x7), some (.int x8), some (.int x9), some (.int x10), some (.int x11)]) (st' := []) (σ' := (zE L, M, N)) (G := []) rfl trivial ?_
  refine jb_ite (fun c => ?_) (fun c => ?_)
  · replace h := (if_pos c).symm.trans h
    refine jb_seg 4 (pc' := 113) (ls' := [some (.ref 79), none, none, some (.int x3), some (.int x4), some (.int x5), some (.int (x6 + 1)), some (.int x7), some (.int x8), some (.int x9), some (.int x10), some (.int x11)]) (st' := []) (σ' := (zE L, M, N)) (G := []) rfl trivial ?_
    exact jb_mask [true, false, false, true, true, true, true, true, true, true, true, true] rfl (zg_263_J113 hd x3 x4 x5 (x6 + 1) x7 x8 x9 x10 x11 M N h hK)
  · replace h := (if_neg c).symm.trans h
    exact jb_mask [true, false, false, true, true, true, true, true, true, true, true, true] rfl (zg_263_J113 hd x3 x4 x5 x6 x7 x8 x9 x10 x11 M N h hK)
set_option maxRecDepth 20000 in
theorem zg_263_H66 {Γ : jb_G} {L : Nat} {d : Nat} (hd : 3 ≤ d) (x3 : Int32) (x4 : Int32) (M : jb_Mi) (N : jb_Ml) (s : Int32 × Int32 × Int32 × Int32 × Int32 × Int32) {v : Option Value} {σ2 : jb_S} {r : ((Int32 × Int32 × Int32 × Int32 × Int32 × Int32) ⊕ (Int32))} (h : zf_263_H66 x3 x4 M s = some r) (hK : (jb_K (fun s : Int32 × Int32 × Int32 × Int32 × Int32 × Int32 => jb_V Γ d zq_263 66 [some (.ref 79), none, none, some (.int x3), some (.int x4), some (.int s.1), some (.int s.2.1), some (.int s.2.2.1), some (.int s.2.2.2.1), some (.int s.2.2.2.2.1), some (.int s.2.2.2.2.2), none] [] (zE L, M, N) v σ2) (fun r : Int32 => v = some (.int r) ∧ σ2 = (zE L, M, N))) r) : jb_V Γ d zq_263 66 [some (.ref 79), none, none, some (.int x3), some (.int x4), some (.int s.1), some (.int s.2.1), some (.int s.2.2.1), some (.int s.2.2.2.1), some (.int s.2.2.2.2.1), some (.int s.2.2.2.2.2), none] [] (zE L, M, N) v σ2 := by
  obtain ⟨d, rfl⟩ : ∃ e, d = e + 1 := ⟨d - 1, by omega⟩
  unfold zf_263_H66 at h
  refine jb_seg 3 (pc' := (if s.2.2.2.2.2 < 24 then 73 else 159)) (ls' := [some (.ref 79), none, none, some (.int x3), some (.int x4), some (.int s.1), some (.int s.2.1), some (.int s.2.2.1), some (.int s.2.2.2.1), some (.int s.2.2.2.2.1), some (.int s.2.2.2.2.2), none]) (st' := []) (σ' := (zE L, M, N)) (G := []) rfl trivial ?_
  refine jb_ite (fun c => ?_) (fun c => ?_)
  · replace h := (if_pos c).symm.trans h
    refine jb_seg 3 (pc' := 78) (ls' := [some (.ref 79), none, none, some (.int x3), some (.int x4), some (.int s.1), some (.int s.2.1), some (.int s.2.2.1), some (.int s.2.2.2.1), some (.int s.2.2.2.2.1), some (.int s.2.2.2.2.2), none]) (st' := [(.int s.2.2.2.2.2), (.int x4), (.ref 79)]) (σ' := (zE L, M, N)) (G := []) rfl trivial ?_
    obtain ⟨q3, h3, h⟩ := jb_bd_of h
    refine jb_callV (q' := zq_216) (As := [(.int x4), (.int s.2.2.2.2.2)]) (rest := []) (σ1 := (zE L, M, N)) (v := some (.int q3)) rfl rfl zp_216 rfl (Nat.le_of_ble_eq_true rfl) (jb_cat rfl) (Nat.le_of_ble_eq_true rfl) (Nat.le_of_ble_eq_true rfl) (Or.inl rfl) rfl (ze_216 (by omega) x4 s.2.2.2.2.2 M N h3) ?_
    refine jb_seg 3 (pc' := (if 0 < s.2.2.2.2.2 then 88 else 101)) (ls' := [some (.ref 79), none, none, some (.int x3), some (.int x4), some (.int s.1), some (.int s.2.1), some (.int s.2.2.1), some (.int s.2.2.2.1), some (.int s.2.2.2.2.1), some (.int s.2.2.2.2.2), some (.int q3)]) (st' := []) (σ' := (zE L, M, N)) (G := []) rfl trivial ?_
    refine jb_ite (fun c => ?_) (fun c => ?_)
    · replace h := (if_pos c).symm.trans h
      refine jb_seg 3 (pc' := (if q3 = s.2.2.2.2.1 then 101 else 95)) (ls' := [some (.ref 79), none, none, some (.int x3), some (.int x4), some (.int s.1), some (.int s.2.1), some (.int s.2.2.1), some (.int s.2.2.2.1), some (.int s.2.2.2.2.1), some (.int s.2.2.2.2.2), some (.int q3)]) (st' := []) (σ' := (zE L, M, N)) (G := []) rfl trivial ?_
      refine jb_ite (fun c => ?_) (fun c => ?_)
      · replace h := (if_pos c).symm.trans h
        exact jb_mask [true, false, false, true, true, true, true, true, true, true, true, true] rfl (zg_263_J101 hd x3 x4 s.1 s.2.1 s.2.2.1 s.2.2.2.1 s.2.2.2.2.1 s.2.2.2.2.2 q3 M N h hK)
      · replace h := (if_neg c).symm.trans h
        refine jb_seg 4 (pc' := 101) (ls' := [some (.ref 79), none, none, some (.int x3), some (.int x4), some (.int (s.1 + 1)), some (.int s.2.1), some (.int s.2.2.1), some (.int s.2.2.2.1), some (.int s.2.2.2.2.1), some (.int s.2.2.2.2.2), some (.int q3)]) (st' := []) (σ' := (zE L, M, N)) (G := []) rfl trivial ?_
        exact jb_mask [true, false, false, true, true, true, true, true, true, true, true, true] rfl (zg_263_J101 hd x3 x4 (s.1 + 1) s.2.1 s.2.2.1 s.2.2.2.1 s.2.2.2.2.1 s.2.2.2.2.2 q3 M N h hK)
    · replace h := (if_neg c).symm.trans h
      exact jb_mask [true, false, false, true, true, true, true, true, true, true, true, true] rfl (zg_263_J101 hd x3 x4 s.1 s.2.1 s.2.2.1 s.2.2.2.1 s.2.2.2.2.1 s.2.2.2.2.2 q3 M N h hK)
  · replace h := (if_neg c).symm.trans h
    refine jb_seg 2 (pc' := (if x3 = 0 then 163 else 168)) (ls' := [some (.ref 79), none, none, some (.int x3), some (.int x4), some (.int s.1), some (.int s.2.1), some (.int s.2.2.1), some (.int s.2.2.2.1), some (.int s.2.2.2.2.1), some (.int s.2.2.2.2.2), none]) (st' := []) (σ' := (zE L, M, N)) (G := []) rfl trivial ?_
    refine jb_ite (fun c => ?_) (fun c => ?_)
    · replace h := (if_pos c).symm.trans h
      refine jb_seg 2 (pc' := 180) (ls' := [some (.ref 79), none, none, some (.int x3), some (.int x4), some (.int s.1), some (.int s.2.1), some (.int s.2.2.1), some (.int s.2.2.2.1), some (.int s.2.2.2.2.1), some (.int s.2.2.2.2.2), none]) (st' := [(.int s.1)]) (σ' := (zE L, M, N)) (G := []) rfl trivial ?_
      obtain rfl := Option.some.inj h
      obtain ⟨rfl, rfl⟩ := hK
      exact jb_reti rfl rfl
    · replace h := (if_neg c).symm.trans h
      refine jb_seg 3 (pc' := (if x3 = 1 then 173 else 178)) (ls' := [some (.ref 79), none, none, some (.int x3), some (.int x4), some (.int s.1), some (.int s.2.1), some (.int s.2.2.1), some (.int s.2.2.2.1), some (.int s.2.2.2.2.1), some (.int s.2.2.2.2.2), none]) (st' := []) (σ' := (zE L, M, N)) (G := []) rfl trivial ?_
      refine jb_ite (fun c => ?_) (fun c => ?_)
      · replace h := (if_pos c).symm.trans h
        refine jb_seg 2 (pc' := 180) (ls' := [some (.ref 79), none, none, some (.int x3), some (.int x4), some (.int s.1), some (.int s.2.1), some (.int s.2.2.1), some (.int s.2.2.2.1), some (.int s.2.2.2.2.1), some (.int s.2.2.2.2.2), none]) (st' := [(.int s.2.1)]) (σ' := (zE L, M, N)) (G := []) rfl trivial ?_
        obtain rfl := Option.some.inj h
        obtain ⟨rfl, rfl⟩ := hK
        exact jb_reti rfl rfl
      · replace h := (if_neg c).symm.trans h
        refine jb_seg 1 (pc' := 180) (ls' := [some (.ref 79), none, none, some (.int x3), some (.int x4), some (.int s.1), some (.int s.2.1), some (.int s.2.2.1), some (.int s.2.2.2.1), some (.int s.2.2.2.2.1), some (.int s.2.2.2.2.2), none]) (st' := [(.int s.2.2.1)]) (σ' := (zE L, M, N)) (G := []) rfl trivial ?_
        obtain rfl := Option.some.inj h
        obtain ⟨rfl, rfl⟩ := hK
        exact jb_reti rfl rfl
theorem zg_263_H66L {Γ : jb_G} {L : Nat} {d : Nat} (hd : 3 ≤ d) (x3 : Int32) (x4 : Int32) (M : jb_Mi) (N : jb_Ml) {v : Option Value} {σ2 : jb_S} {s : Int32 × Int32 × Int32 × Int32 × Int32 × Int32} {r : (Int32)} (h : jb_lp (zf_263_H66 x3 x4 M) s = some r) (hK : (fun r : Int32 => v = some (.int r) ∧ σ2 = (zE L, M, N)) r) : jb_V Γ d zq_263 66 [some (.ref 79), none, none, some (.int x3), some (.int x4), some (.int s.1), some (.int s.2.1), some (.int s.2.2.1), some (.int s.2.2.2.1), some (.int s.2.2.2.2.1), some (.int s.2.2.2.2.2), none] [] (zE L, M, N) v σ2 := by
  exact @jb_lp_ind (Int32 × Int32 × Int32 × Int32 × Int32 × Int32) ((Int32)) (zf_263_H66 x3 x4 M) (fun s => jb_V Γ d zq_263 66 [some (.ref 79), none, none, some (.int x3), some (.int x4), some (.int s.1), some (.int s.2.1), some (.int s.2.2.1), some (.int s.2.2.2.1), some (.int s.2.2.2.2.1), some (.int s.2.2.2.2.2), none] [] (zE L, M, N) v σ2) (fun r : Int32 => v = some (.int r) ∧ σ2 = (zE L, M, N)) (fun s r h hk => zg_263_H66 hd x3 x4 M N s h hk) s r h hK
set_option maxRecDepth 20000 in
theorem zg_263 {Γ : jb_G} {L : Nat} {d : Nat} (hd : 3 ≤ d) (x1 : Int32) (x2 : Int32) (x3 : Int32) (M : jb_Mi) (N : jb_Ml) {v : Option Value} {σ2 : jb_S} {r : (Int32)} (h : zf_263 x1 x2 x3 M = some r) (hK : (fun r : Int32 => v = some (.int r) ∧ σ2 = (zE L, M, N)) r) : jb_V Γ d zq_263 0 [some (.ref 79), some (.int x1), some (.int x2), some (.int x3), none, none, none, none, none, none, none, none] [] (zE L, M, N) v σ2 := by
  obtain ⟨d, rfl⟩ : ∃ e, d = e + 1 := ⟨d - 1, by omega⟩
  unfold zf_263 at h
  refine jb_seg 2 (pc' := 2) (ls' := [some (.ref 79), some (.int x1), some (.int x2), some (.int x3), none, none, none, none, none, none, none, none]) (st' := [(.int x1), (.ref 79)]) (σ' := (zE L, M, N)) (G := []) rfl trivial ?_
  obtain ⟨q1, h1, h⟩ := jb_bd_of h
  refine jb_callV (q' := zq_171) (As := [(.int x1)]) (rest := []) (σ1 := (zE L, M, N)) (v := some (.int (jb_b2i q1))) rfl rfl zp_171 rfl (Nat.le_of_ble_eq_true rfl) (jb_cat rfl) (Nat.le_of_ble_eq_true rfl) (Nat.le_of_ble_eq_true rfl) (Or.inl rfl) rfl (ze_171 (by omega) x1 M N h1) ?_
  refine jb_seg 1 (pc' := (if (jb_b2i q1) = 0 then 26 else 8)) (ls' := [some (.ref 79), some (.int x1), some (.int x2), some (.int x3), none, none, none, none, none, none, none, none]) (st' := []) (σ' := (zE L, M, N)) (G := []) rfl trivial ?_
  refine jb_ite (fun c => ?_) (fun c => ?_)
  · replace h := (if_pos c).symm.trans h
    refine jb_seg 1 (pc' := 27) (ls' := [some (.ref 79), some (.int x1), some (.int x2), some (.int x3), none, none, none, none, none, none, none, none]) (st' := [(.int (-1))]) (σ' := (zE L, M, N)) (G := []) rfl trivial ?_
    obtain rfl := Option.some.inj h
    obtain ⟨rfl, rfl⟩ := hK
    exact jb_reti rfl rfl
  · replace h := (if_neg c).symm.trans h
    refine jb_seg 3 (pc' := 11) (ls' := [some (.ref 79), some (.int x1), some (.int x2), some (.int x3), none, none, none, none, none, none, none, none]) (st' := [(.int 3), (.int 0), (.int x2)]) (σ' := (zE L, M, N)) (G := []) rfl trivial ?_
    refine jb_callS (q' := zq_164) (As := [(.int x2), (.int 0), (.int 3)]) (rest := []) (σ1 := (zE L, M, N)) (v := some (.int (jb_b2i (zf_164 x2 0 3)))) rfl (Nat.le_of_ble_eq_true rfl) rfl zp_164 (jb_cat rfl) (Nat.le_of_ble_eq_true rfl) (Nat.le_of_ble_eq_true rfl) (Or.inl rfl) rfl (ze_164 x2 0 3 M N rfl) ?_
    refine jb_seg 1 (pc' := (if (jb_b2i (zf_164 x2 0 3)) = 0 then 26 else 17)) (ls' := [some (.ref 79), some (.int x1), some (.int x2), some (.int x3), none, none, none, none, none, none, none, none]) (st' := []) (σ' := (zE L, M, N)) (G := []) rfl trivial ?_
    refine jb_ite (fun c => ?_) (fun c => ?_)
    · replace h := (if_pos c).symm.trans h
      refine jb_seg 1 (pc' := 27) (ls' := [some (.ref 79), some (.int x1), some (.int x2), some (.int x3), none, none, none, none, none, none, none, none]) (st' := [(.int (-1))]) (σ' := (zE L, M, N)) (G := []) rfl trivial ?_
      obtain rfl := Option.some.inj h
      obtain ⟨rfl, rfl⟩ := hK
      exact jb_reti rfl rfl
    · replace h := (if_neg c).symm.trans h
      refine jb_seg 3 (pc' := 20) (ls' := [some (.ref 79), some (.int x1), some (.int x2), some (.int x3), none, none, none, none, none, none, none, none]) (st' := [(.int 3), (.int 0), (.int x3)]) (σ' := (zE L, M, N)) (G := []) rfl trivial ?_
      refine jb_callS (q' := zq_164) (As := [(.int x3), (.int 0), (.int 3)]) (rest := []) (σ1 := (zE L, M, N)) (v := some (.int (jb_b2i (zf_164 x3 0 3)))) rfl (Nat.le_of_ble_eq_true rfl) rfl zp_164 (jb_cat rfl) (Nat.le_of_ble_eq_true rfl) (Nat.le_of_ble_eq_true rfl) (Or.inl rfl) rfl (ze_164 x3 0 3 M N rfl) ?_
      refine jb_seg 1 (pc' := (if (jb_b2i (zf_164 x3 0 3)) = 0 then 26 else 28)) (ls' := [some (.ref 79), some (.int x1), some (.int x2), some (.int x3), none, none, none, none, none, none, none, none]) (st' := []) (σ' := (zE L, M, N)) (G := []) rfl trivial ?_
      refine jb_ite (fun c => ?_) (fun c => ?_)
      · replace h := (if_pos c).symm.trans h
        refine jb_seg 1 (pc' := 27) (ls' := [some (.ref 79), some (.int x1), some (.int x2), some (.int x3), none, none, none, none, none, none, none, none]) (st' := [(.int (-1))]) (σ' := (zE L, M, N)) (G := []) rfl trivial ?_
        obtain rfl := Option.some.inj h
        obtain ⟨rfl, rfl⟩ := hK
        exact jb_reti rfl rfl
      · replace h := (if_neg c).symm.trans h
        refine jb_seg 9 (pc' := (if x3 = 3 then 40 else 48)) (ls' := [some (.ref 79), some (.int x1), some (.int x2), some (.int x3), some (.int ((4 * x1) + x2)), none, none, none, none, none, none, none]) (st' := []) (σ' := (zE L, M, N)) (G := []) rfl trivial ?_
        refine jb_ite (fun c => ?_) (fun c => ?_)
        · replace h := (if_pos c).symm.trans h
          obtain ⟨g2, h⟩ := jb_gd_of h
          refine jb_seg 4 (pc' := 47) (ls' := [some (.ref 79), some (.int x1), some (.int x2), some (.int x3), some (.int ((4 * x1) + x2)), none, none, none, none, none, none, none]) (st' := [(.int (M 98 (((4 * x1) + x2)).toNatClampNeg))]) (σ' := (zE L, M, N)) (G := [vp_in ((4 * x1) + x2) 24]) rfl g2 ?_
          obtain rfl := Option.some.inj h
          obtain ⟨rfl, rfl⟩ := hK
          exact jb_reti rfl rfl
        · replace h := (if_neg c).symm.trans h
          refine jb_seg 12 (pc' := 66) (ls' := [some (.ref 79), some (.int x1), some (.int x2), some (.int x3), some (.int ((4 * x1) + x2)), some (.int 0), some (.int 0), some (.int 0), some (.int 0), some (.int (-1)), some (.int 0), none]) (st' := []) (σ' := (zE L, M, N)) (G := []) rfl trivial ?_
          exact jb_mask [true, false, false, true, true, true, true, true, true, true, true, false] rfl (zg_263_H66L hd x3 ((4 * x1) + x2) M N h hK)
theorem ze_263 {Γ : jb_G} {L : Nat} {d : Nat} (hd : 3 ≤ d) (x1 : Int32) (x2 : Int32) (x3 : Int32) (M : jb_Mi) (N : jb_Ml) {r : (Int32)} (h : zf_263 x1 x2 x3 M = some r) : jb_V Γ d zq_263 0 (jb_en 12 [(.ref 79), (.int x1), (.int x2), (.int x3)]) [] (zE L, M, N) (some (.int r)) (zE L, M, N) := zg_263 hd x1 x2 x3 M N h ⟨rfl, rfl⟩
-- X13_heaviest
set_option maxRecDepth 20000 in
theorem zg_264_J70 {Γ : jb_G} {L : Nat} {d : Nat} (hd : 2 ≤ d) (x1 : Int32) (x2 : Int32) (x3 : Int32) (x4 : Int32) (M : jb_Mi) (N : jb_Ml) {v : Option Value} {σ2 : jb_S} {r : ((Int32 × Int32 × Int32) ⊕ (Int32))} (h : zf_264_J70 x1 x2 x3 x4 M = some r) (hK : (jb_K (fun s : Int32 × Int32 × Int32 => jb_V Γ d zq_264 20 [some (.ref 79), some (.int x1), some (.int s.1), some (.int s.2.1), some (.int s.2.2), none] [] (zE L, M, N) v σ2) (fun r : Int32 => v = some (.int r) ∧ σ2 = (zE L, M, N))) r) : jb_V Γ d zq_264 70 [some (.ref 79), some (.int x1), some (.int x2), some (.int x3), some (.int x4), none] [] (zE L, M, N) v σ2 := by
  obtain ⟨d, rfl⟩ : ∃ e, d = e + 1 := ⟨d - 1, by omega⟩
  unfold zf_264_J70 at h
  refine jb_seg 2 (pc' := 20) (ls' := [some (.ref 79), some (.int x1), some (.int x2), some (.int x3), some (.int (x4 + 1)), none]) (st' := []) (σ' := (zE L, M, N)) (G := []) rfl trivial ?_
  obtain rfl := Option.some.inj h
  exact jb_mask [true, true, true, true, true, false] rfl hK
set_option maxRecDepth 20000 in
theorem zg_264_H20 {Γ : jb_G} {L : Nat} {d : Nat} (hd : 2 ≤ d) (x1 : Int32) (M : jb_Mi) (N : jb_Ml) (s : Int32 × Int32 × Int32) {v : Option Value} {σ2 : jb_S} {r : ((Int32 × Int32 × Int32) ⊕ (Int32))} (h : zf_264_H20 x1 M s = some r) (hK : (jb_K (fun s : Int32 × Int32 × Int32 => jb_V Γ d zq_264 20 [some (.ref 79), some (.int x1), some (.int s.1), some (.int s.2.1), some (.int s.2.2), none] [] (zE L, M, N) v σ2) (fun r : Int32 => v = some (.int r) ∧ σ2 = (zE L, M, N))) r) : jb_V Γ d zq_264 20 [some (.ref 79), some (.int x1), some (.int s.1), some (.int s.2.1), some (.int s.2.2), none] [] (zE L, M, N) v σ2 := by
  obtain ⟨d, rfl⟩ : ∃ e, d = e + 1 := ⟨d - 1, by omega⟩
  unfold zf_264_H20 at h
  refine jb_seg 3 (pc' := (if s.2.2 < 24 then 27 else 76)) (ls' := [some (.ref 79), some (.int x1), some (.int s.1), some (.int s.2.1), some (.int s.2.2), none]) (st' := []) (σ' := (zE L, M, N)) (G := []) rfl trivial ?_
  refine jb_ite (fun c => ?_) (fun c => ?_)
  · replace h := (if_pos c).symm.trans h
    refine jb_seg 4 (pc' := 32) (ls' := [some (.ref 79), some (.int x1), some (.int s.1), some (.int s.2.1), some (.int s.2.2), none]) (st' := [(.int (s.2.2 / 4)), (.ref 79)]) (σ' := (zE L, M, N)) (G := [¬ (4 : Int32) = 0]) rfl (show ¬ (4 : Int32) = 0 from (by decide)) ?_
    obtain ⟨q1, h1, h⟩ := jb_bd_of h
    refine jb_callV (q' := zq_171) (As := [(.int (s.2.2 / 4))]) (rest := []) (σ1 := (zE L, M, N)) (v := some (.int (jb_b2i q1))) rfl rfl zp_171 rfl (Nat.le_of_ble_eq_true rfl) (jb_cat rfl) (Nat.le_of_ble_eq_true rfl) (Nat.le_of_ble_eq_true rfl) (Or.inl rfl) rfl (ze_171 (by omega) (s.2.2 / 4) M N h1) ?_
    refine jb_seg 1 (pc' := (if (jb_b2i q1) = 0 then 38 else 41)) (ls' := [some (.ref 79), some (.int x1), some (.int s.1), some (.int s.2.1), some (.int s.2.2), none]) (st' := []) (σ' := (zE L, M, N)) (G := []) rfl trivial ?_
    refine jb_ite (fun c => ?_) (fun c => ?_)
    · replace h := (if_pos c).symm.trans h
      refine jb_seg 1 (pc' := 70) (ls' := [some (.ref 79), some (.int x1), some (.int s.1), some (.int s.2.1), some (.int s.2.2), none]) (st' := []) (σ' := (zE L, M, N)) (G := []) rfl trivial ?_
      exact jb_mask [true, true, true, true, true, false] rfl (zg_264_J70 hd x1 s.1 s.2.1 s.2.2 M N h hK)
    · replace h := (if_neg c).symm.trans h
      refine jb_seg 7 (pc' := 50) (ls' := [some (.ref 79), some (.int x1), some (.int s.1), some (.int s.2.1), some (.int s.2.2), none]) (st' := [(.int (s.2.2 - s.2.2 / 4 * 4)), (.int (s.2.2 / 4)), (.ref 79)]) (σ' := (zE L, M, N)) (G := [¬ (4 : Int32) = 0, ¬ (4 : Int32) = 0]) rfl ⟨(show ¬ (4 : Int32) = 0 from (by decide)), (show ¬ (4 : Int32) = 0 from (by decide))⟩ ?_
      obtain ⟨q2, h2, h⟩ := jb_bd_of h
      refine jb_callV (q' := zq_179) (As := [(.int (s.2.2 / 4)), (.int (s.2.2 - s.2.2 / 4 * 4))]) (rest := []) (σ1 := (zE L, M, N)) (v := some (.int q2)) rfl rfl zp_179 rfl (Nat.le_of_ble_eq_true rfl) (jb_cat rfl) (Nat.le_of_ble_eq_true rfl) (Nat.le_of_ble_eq_true rfl) (Or.inl rfl) rfl (ze_179 (by omega) (s.2.2 / 4) (s.2.2 - s.2.2 / 4 * 4) M N h2) ?_
      refine jb_seg 4 (pc' := (if s.2.1 < q2 then 64 else 61)) (ls' := [some (.ref 79), some (.int x1), some (.int s.1), some (.int s.2.1), some (.int s.2.2), some (.int q2)]) (st' := []) (σ' := (zE L, M, N)) (G := []) rfl trivial ?_
      refine jb_ite (fun c => ?_) (fun c => ?_)
      · replace h := (if_pos c).symm.trans h
        refine jb_seg 4 (pc' := 70) (ls' := [some (.ref 79), some (.int x1), some (.int s.2.2), some (.int q2), some (.int s.2.2), some (.int q2)]) (st' := []) (σ' := (zE L, M, N)) (G := []) rfl trivial ?_
        exact jb_mask [true, true, true, true, true, false] rfl (zg_264_J70 hd x1 s.2.2 q2 s.2.2 M N h hK)
      · replace h := (if_neg c).symm.trans h
        refine jb_seg 1 (pc' := 70) (ls' := [some (.ref 79), some (.int x1), some (.int s.1), some (.int s.2.1), some (.int s.2.2), some (.int q2)]) (st' := []) (σ' := (zE L, M, N)) (G := []) rfl trivial ?_
        exact jb_mask [true, true, true, true, true, false] rfl (zg_264_J70 hd x1 s.1 s.2.1 s.2.2 M N h hK)
  · replace h := (if_neg c).symm.trans h
    refine jb_seg 3 (pc' := (if s.1 = (-2) then 82 else 85)) (ls' := [some (.ref 79), some (.int x1), some (.int s.1), some (.int s.2.1), some (.int s.2.2), none]) (st' := []) (σ' := (zE L, M, N)) (G := []) rfl trivial ?_
    refine jb_ite (fun c => ?_) (fun c => ?_)
    · replace h := (if_pos c).symm.trans h
      refine jb_seg 1 (pc' := 84) (ls' := [some (.ref 79), some (.int x1), some (.int s.1), some (.int s.2.1), some (.int s.2.2), none]) (st' := [(.int (-2))]) (σ' := (zE L, M, N)) (G := []) rfl trivial ?_
      obtain rfl := Option.some.inj h
      obtain ⟨rfl, rfl⟩ := hK
      exact jb_reti rfl rfl
    · replace h := (if_neg c).symm.trans h
      refine jb_seg 2 (pc' := (if x1 = 0 then 89 else 95)) (ls' := [some (.ref 79), some (.int x1), some (.int s.1), some (.int s.2.1), some (.int s.2.2), none]) (st' := []) (σ' := (zE L, M, N)) (G := []) rfl trivial ?_
      refine jb_ite (fun c => ?_) (fun c => ?_)
      · replace h := (if_pos c).symm.trans h
        refine jb_seg 4 (pc' := 107) (ls' := [some (.ref 79), some (.int x1), some (.int s.1), some (.int s.2.1), some (.int s.2.2), none]) (st' := [(.int (s.1 / 4))]) (σ' := (zE L, M, N)) (G := [¬ (4 : Int32) = 0]) rfl (show ¬ (4 : Int32) = 0 from (by decide)) ?_
        obtain rfl := Option.some.inj h
        obtain ⟨rfl, rfl⟩ := hK
        exact jb_reti rfl rfl
      · replace h := (if_neg c).symm.trans h
        refine jb_seg 3 (pc' := (if x1 = 1 then 100 else 106)) (ls' := [some (.ref 79), some (.int x1), some (.int s.1), some (.int s.2.1), some (.int s.2.2), none]) (st' := []) (σ' := (zE L, M, N)) (G := []) rfl trivial ?_
        refine jb_ite (fun c => ?_) (fun c => ?_)
        · replace h := (if_pos c).symm.trans h
          refine jb_seg 4 (pc' := 107) (ls' := [some (.ref 79), some (.int x1), some (.int s.1), some (.int s.2.1), some (.int s.2.2), none]) (st' := [(.int (s.1 - s.1 / 4 * 4))]) (σ' := (zE L, M, N)) (G := [¬ (4 : Int32) = 0]) rfl (show ¬ (4 : Int32) = 0 from (by decide)) ?_
          obtain rfl := Option.some.inj h
          obtain ⟨rfl, rfl⟩ := hK
          exact jb_reti rfl rfl
        · replace h := (if_neg c).symm.trans h
          refine jb_seg 1 (pc' := 107) (ls' := [some (.ref 79), some (.int x1), some (.int s.1), some (.int s.2.1), some (.int s.2.2), none]) (st' := [(.int s.2.1)]) (σ' := (zE L, M, N)) (G := []) rfl trivial ?_
          obtain rfl := Option.some.inj h
          obtain ⟨rfl, rfl⟩ := hK
          exact jb_reti rfl rfl
theorem zg_264_H20L {Γ : jb_G} {L : Nat} {d : Nat} (hd : 2 ≤ d) (x1 : Int32) (M : jb_Mi) (N : jb_Ml) {v : Option Value} {σ2 : jb_S} {s : Int32 × Int32 × Int32} {r : (Int32)} (h : jb_lp (zf_264_H20 x1 M) s = some r) (hK : (fun r : Int32 => v = some (.int r) ∧ σ2 = (zE L, M, N)) r) : jb_V Γ d zq_264 20 [some (.ref 79), some (.int x1), some (.int s.1), some (.int s.2.1), some (.int s.2.2), none] [] (zE L, M, N) v σ2 := by
  exact @jb_lp_ind (Int32 × Int32 × Int32) ((Int32)) (zf_264_H20 x1 M) (fun s => jb_V Γ d zq_264 20 [some (.ref 79), some (.int x1), some (.int s.1), some (.int s.2.1), some (.int s.2.2), none] [] (zE L, M, N) v σ2) (fun r : Int32 => v = some (.int r) ∧ σ2 = (zE L, M, N)) (fun s r h hk => zg_264_H20 hd x1 M N s h hk) s r h hK
set_option maxRecDepth 20000 in
theorem zg_264 {Γ : jb_G} {L : Nat} {d : Nat} (hd : 2 ≤ d) (x1 : Int32) (M : jb_Mi) (N : jb_Ml) {v : Option Value} {σ2 : jb_S} {r : (Int32)} (h : zf_264 x1 M = some r) (hK : (fun r : Int32 => v = some (.int r) ∧ σ2 = (zE L, M, N)) r) : jb_V Γ d zq_264 0 [some (.ref 79), some (.int x1), none, none, none, none] [] (zE L, M, N) v σ2 := by
  obtain ⟨d, rfl⟩ : ∃ e, d = e + 1 := ⟨d - 1, by omega⟩
  unfold zf_264 at h
  refine jb_seg 3 (pc' := 3) (ls' := [some (.ref 79), some (.int x1), none, none, none, none]) (st' := [(.int 2), (.int 0), (.int x1)]) (σ' := (zE L, M, N)) (G := []) rfl trivial ?_
  refine jb_callS (q' := zq_164) (As := [(.int x1), (.int 0), (.int 2)]) (rest := []) (σ1 := (zE L, M, N)) (v := some (.int (jb_b2i (zf_164 x1 0 2)))) rfl (Nat.le_of_ble_eq_true rfl) rfl zp_164 (jb_cat rfl) (Nat.le_of_ble_eq_true rfl) (Nat.le_of_ble_eq_true rfl) (Or.inl rfl) rfl (ze_164 x1 0 2 M N rfl) ?_
  refine jb_seg 1 (pc' := (if (jb_b2i (zf_164 x1 0 2)) = 0 then 9 else 11)) (ls' := [some (.ref 79), some (.int x1), none, none, none, none]) (st' := []) (σ' := (zE L, M, N)) (G := []) rfl trivial ?_
  refine jb_ite (fun c => ?_) (fun c => ?_)
  · replace h := (if_pos c).symm.trans h
    refine jb_seg 1 (pc' := 10) (ls' := [some (.ref 79), some (.int x1), none, none, none, none]) (st' := [(.int (-1))]) (σ' := (zE L, M, N)) (G := []) rfl trivial ?_
    obtain rfl := Option.some.inj h
    obtain ⟨rfl, rfl⟩ := hK
    exact jb_reti rfl rfl
  · replace h := (if_neg c).symm.trans h
    refine jb_seg 6 (pc' := 20) (ls' := [some (.ref 79), some (.int x1), some (.int (-2)), some (.int (-2)), some (.int 0), none]) (st' := []) (σ' := (zE L, M, N)) (G := []) rfl trivial ?_
    exact jb_mask [true, true, true, true, true, false] rfl (zg_264_H20L hd x1 M N h hK)
theorem ze_264 {Γ : jb_G} {L : Nat} {d : Nat} (hd : 2 ≤ d) (x1 : Int32) (M : jb_Mi) (N : jb_Ml) {r : (Int32)} (h : zf_264 x1 M = some r) : jb_V Γ d zq_264 0 (jb_en 6 [(.ref 79), (.int x1)]) [] (zE L, M, N) (some (.int r)) (zE L, M, N) := zg_264 hd x1 M N h ⟨rfl, rfl⟩
-- X13_seed
set_option maxRecDepth 20000 in
theorem zg_265 {Γ : jb_G} {L : Nat} {d : Nat} (hd : 1 ≤ d) (x1 : Int32) (M : jb_Mi) (N : jb_Ml) {v : Option Value} {σ2 : jb_S} {r : Bool × jb_Mi} (h : zf_265 x1 M = r) (hK : (fun r : Bool × jb_Mi => v = some (.int (jb_b2i r.1)) ∧ σ2 = (zE L, r.2, N)) r) : jb_V Γ d zq_265 0 [some (.ref 79), some (.int x1)] [] (zE L, M, N) v σ2 := by
  obtain ⟨d, rfl⟩ : ∃ e, d = e + 1 := ⟨d - 1, by omega⟩
  unfold zf_265 at h
  refine jb_seg 3 (pc' := 5) (ls' := [some (.ref 79), some (.int x1)]) (st' := [(.int 65535), (.int 0), (.int x1)]) (σ' := (zE L, M, N)) (G := []) rfl trivial ?_
  refine jb_callS (q' := zq_164) (As := [(.int x1), (.int 0), (.int 65535)]) (rest := []) (σ1 := (zE L, M, N)) (v := some (.int (jb_b2i (zf_164 x1 0 65535)))) rfl (Nat.le_of_ble_eq_true rfl) rfl zp_164 (jb_cat rfl) (Nat.le_of_ble_eq_true rfl) (Nat.le_of_ble_eq_true rfl) (Or.inl rfl) rfl (ze_164 x1 0 65535 M N rfl) ?_
  refine jb_seg 1 (pc' := (if (jb_b2i (zf_164 x1 0 65535)) = 0 then 11 else 13)) (ls' := [some (.ref 79), some (.int x1)]) (st' := []) (σ' := (zE L, M, N)) (G := []) rfl trivial ?_
  refine jb_ite (fun c => ?_) (fun c => ?_)
  · replace h := (if_pos c).symm.trans h
    refine jb_seg 1 (pc' := 12) (ls' := [some (.ref 79), some (.int x1)]) (st' := [(.int 0)]) (σ' := (zE L, M, N)) (G := []) rfl trivial ?_
    subst h
    obtain ⟨rfl, rfl⟩ := hK
    exact jb_retz (by decide) rfl rfl
  · replace h := (if_neg c).symm.trans h
    refine jb_seg 6 (pc' := 23) (ls' := [some (.ref 79), some (.int x1)]) (st' := [(.int 1)]) (σ' := (zE L, (jb_up M 80 148 x1), N)) (G := [vp_in 148 149]) rfl (show vp_in 148 149 from (by unfold vp_in; decide)) ?_
    subst h
    obtain ⟨rfl, rfl⟩ := hK
    exact jb_retz (by decide) rfl rfl
theorem ze_265 {Γ : jb_G} {L : Nat} {d : Nat} (hd : 1 ≤ d) (x1 : Int32) (M : jb_Mi) (N : jb_Ml) {r : Bool × jb_Mi} (h : zf_265 x1 M = r) : jb_V Γ d zq_265 0 (jb_en 2 [(.ref 79), (.int x1)]) [] (zE L, M, N) (some (.int (jb_b2i r.1))) (zE L, r.2, N) := zg_265 hd x1 M N h ⟨rfl, rfl⟩
-- X13_keep
set_option maxRecDepth 20000 in
theorem zg_266 {Γ : jb_G} {L : Nat} {d : Nat} (hd : 1 ≤ d) (M : jb_Mi) (N : jb_Ml) {v : Option Value} {σ2 : jb_S} {r : (Int32 × jb_Mi)} (h : zf_266 M = some r) (hK : (fun r : Int32 × jb_Mi => v = some (.int r.1) ∧ σ2 = (zE L, r.2, N)) r) : jb_V Γ d zq_266 0 [some (.ref 79)] [] (zE L, M, N) v σ2 := by
  obtain ⟨d, rfl⟩ : ∃ e, d = e + 1 := ⟨d - 1, by omega⟩
  unfold zf_266 at h
  refine jb_seg 7 (pc' := 13) (ls' := [some (.ref 79)]) (st' := [(.ref 82), (.ref 80)]) (σ' := (zE L, (jb_up M 79 57 1), N)) (G := [(1 : Int32) = 0 ∨ (1 : Int32) = 1]) rfl (show (1 : Int32) = 0 ∨ (1 : Int32) = 1 from (by decide)) ?_
  obtain ⟨q1, h1, h⟩ := jb_bd_of h
  refine jb_callS (q' := zq_170) (As := [(.ref 80), (.ref 82)]) (rest := []) (σ1 := (zE L, q1, N)) (v := none) rfl (Nat.le_of_ble_eq_true rfl) rfl zp_170 (jb_cat rfl) (Nat.le_of_ble_eq_true rfl) (Nat.le_of_ble_eq_true rfl) (Or.inl rfl) rfl (ze_170 80 82 (jb_up M 79 57 1) N (by decide) h1) ?_
  refine jb_seg 4 (pc' := 24) (ls' := [some (.ref 79)]) (st' := [(.int (q1 80 147))]) (σ' := (zE L, q1, N)) (G := [vp_in 147 149]) rfl (show vp_in 147 149 from (by unfold vp_in; decide)) ?_
  obtain rfl := Option.some.inj h
  obtain ⟨rfl, rfl⟩ := hK
  exact jb_reti rfl rfl
theorem ze_266 {Γ : jb_G} {L : Nat} {d : Nat} (hd : 1 ≤ d) (M : jb_Mi) (N : jb_Ml) {r : (Int32 × jb_Mi)} (h : zf_266 M = some r) : jb_V Γ d zq_266 0 (jb_en 1 [(.ref 79)]) [] (zE L, M, N) (some (.int r.1)) (zE L, r.2, N) := zg_266 hd M N h ⟨rfl, rfl⟩
-- X13_undo
set_option maxRecDepth 20000 in
theorem zg_267 {Γ : jb_G} {L : Nat} {d : Nat} (hd : 1 ≤ d) (M : jb_Mi) (N : jb_Ml) {v : Option Value} {σ2 : jb_S} {r : (Bool × jb_Mi)} (h : zf_267 M = some r) (hK : (fun r : Bool × jb_Mi => v = some (.int (jb_b2i r.1)) ∧ σ2 = (zE L, r.2, N)) r) : jb_V Γ d zq_267 0 [some (.ref 79)] [] (zE L, M, N) v σ2 := by
  obtain ⟨d, rfl⟩ : ∃ e, d = e + 1 := ⟨d - 1, by omega⟩
  unfold zf_267 at h
  refine jb_seg 3 (pc' := (if (M 79 57) = 0 then 7 else 9)) (ls' := [some (.ref 79)]) (st' := []) (σ' := (zE L, M, N)) (G := []) rfl trivial ?_
  refine jb_ite (fun c => ?_) (fun c => ?_)
  · replace h := (if_pos c).symm.trans h
    refine jb_seg 1 (pc' := 8) (ls' := [some (.ref 79)]) (st' := [(.int 0)]) (σ' := (zE L, M, N)) (G := []) rfl trivial ?_
    obtain rfl := Option.some.inj h
    obtain ⟨rfl, rfl⟩ := hK
    exact jb_retz (by decide) rfl rfl
  · replace h := (if_neg c).symm.trans h
    refine jb_seg 4 (pc' := 17) (ls' := [some (.ref 79)]) (st' := [(.ref 80), (.ref 82)]) (σ' := (zE L, M, N)) (G := []) rfl trivial ?_
    obtain ⟨q1, h1, h⟩ := jb_bd_of h
    refine jb_callS (q' := zq_170) (As := [(.ref 82), (.ref 80)]) (rest := []) (σ1 := (zE L, q1, N)) (v := none) rfl (Nat.le_of_ble_eq_true rfl) rfl zp_170 (jb_cat rfl) (Nat.le_of_ble_eq_true rfl) (Nat.le_of_ble_eq_true rfl) (Or.inl rfl) rfl (ze_170 82 80 M N (by decide) h1) ?_
    refine jb_seg 1 (pc' := 21) (ls' := [some (.ref 79)]) (st' := [(.int 1)]) (σ' := (zE L, q1, N)) (G := []) rfl trivial ?_
    obtain rfl := Option.some.inj h
    obtain ⟨rfl, rfl⟩ := hK
    exact jb_retz (by decide) rfl rfl
theorem ze_267 {Γ : jb_G} {L : Nat} {d : Nat} (hd : 1 ≤ d) (M : jb_Mi) (N : jb_Ml) {r : (Bool × jb_Mi)} (h : zf_267 M = some r) : jb_V Γ d zq_267 0 (jb_en 1 [(.ref 79)]) [] (zE L, M, N) (some (.int (jb_b2i r.1))) (zE L, r.2, N) := zg_267 hd M N h ⟨rfl, rfl⟩
-- X13_check
set_option maxRecDepth 20000 in
theorem zg_268_J60 {Γ : jb_G} {L : Nat} {d : Nat} (hd : 2 ≤ d) (x1 : Int32) (x2 : Int32) (s0 : Int32) (s1 : Int32) (M : jb_Mi) (N : jb_Ml) {v : Option Value} {σ2 : jb_S} {r : ((Int32) ⊕ (Int32 × jb_Mi))} (h : zf_268_J60 x1 x2 s0 s1 M = some r) (hK : (jb_K (fun s : Int32 => jb_V Γ d zq_268 28 [some (.ref 79), some (.int x1), some (.int s)] [] (zE L, M, N) v σ2) (fun r : Int32 × jb_Mi => v = some (.int r.1) ∧ σ2 = (zE L, r.2, N))) r) : jb_V Γ d zq_268 60 [some (.ref 79), some (.int x1), some (.int x2)] [(.int s1), (.int s0)] (zE L, M, N) v σ2 := by
  obtain ⟨d, rfl⟩ : ∃ e, d = e + 1 := ⟨d - 1, by omega⟩
  unfold zf_268_J60 at h
  refine jb_seg 1 (pc' := (if s0 = s1 then 65 else 63)) (ls' := [some (.ref 79), some (.int x1), some (.int x2)]) (st' := []) (σ' := (zE L, M, N)) (G := []) rfl trivial ?_
  refine jb_ite (fun c => ?_) (fun c => ?_)
  · replace h := (if_pos c).symm.trans h
    refine jb_seg 2 (pc' := 28) (ls' := [some (.ref 79), some (.int x1), some (.int (x2 + 1))]) (st' := []) (σ' := (zE L, M, N)) (G := []) rfl trivial ?_
    obtain rfl := Option.some.inj h
    exact jb_mask [true, true, true] rfl hK
  · replace h := (if_neg c).symm.trans h
    refine jb_seg 1 (pc' := 64) (ls' := [some (.ref 79), some (.int x1), some (.int x2)]) (st' := [(.int x2)]) (σ' := (zE L, M, N)) (G := []) rfl trivial ?_
    obtain rfl := Option.some.inj h
    obtain ⟨rfl, rfl⟩ := hK
    exact jb_reti rfl rfl
set_option maxRecDepth 20000 in
theorem zg_268_H28 {Γ : jb_G} {L : Nat} {d : Nat} (hd : 2 ≤ d) (x1 : Int32) (M : jb_Mi) (N : jb_Ml) (s : Int32) {v : Option Value} {σ2 : jb_S} {r : ((Int32) ⊕ (Int32 × jb_Mi))} (h : zf_268_H28 x1 M s = some r) (hK : (jb_K (fun s : Int32 => jb_V Γ d zq_268 28 [some (.ref 79), some (.int x1), some (.int s)] [] (zE L, M, N) v σ2) (fun r : Int32 × jb_Mi => v = some (.int r.1) ∧ σ2 = (zE L, r.2, N))) r) : jb_V Γ d zq_268 28 [some (.ref 79), some (.int x1), some (.int s)] [] (zE L, M, N) v σ2 := by
  obtain ⟨d, rfl⟩ : ∃ e, d = e + 1 := ⟨d - 1, by omega⟩
  unfold zf_268_H28 at h
  refine jb_seg 3 (pc' := (if s < x1 then 33 else 71)) (ls' := [some (.ref 79), some (.int x1), some (.int s)]) (st' := []) (σ' := (zE L, M, N)) (G := []) rfl trivial ?_
  refine jb_ite (fun c => ?_) (fun c => ?_)
  · replace h := (if_pos c).symm.trans h
    refine jb_seg 2 (pc' := 35) (ls' := [some (.ref 79), some (.int x1), some (.int s)]) (st' := [(.int s), (.ref 79)]) (σ' := (zE L, M, N)) (G := []) rfl trivial ?_
    obtain ⟨q1, h1, h⟩ := jb_bd_of h
    refine jb_callV (q' := zq_183) (As := [(.int s)]) (rest := []) (σ1 := (zE L, M, N)) (v := some (.int q1)) rfl rfl zp_183 rfl (Nat.le_of_ble_eq_true rfl) (jb_cat rfl) (Nat.le_of_ble_eq_true rfl) (Nat.le_of_ble_eq_true rfl) (Or.inl rfl) rfl (ze_183 s M N h1) ?_
    refine jb_seg 2 (pc' := 40) (ls' := [some (.ref 79), some (.int x1), some (.int s)]) (st' := [(.int s), (.ref 79), (.int q1)]) (σ' := (zE L, M, N)) (G := []) rfl trivial ?_
    obtain ⟨q2, h2, h⟩ := jb_bd_of h
    refine jb_callV (q' := zq_174) (As := [(.int s)]) (rest := [(.int q1)]) (σ1 := (zE L, M, N)) (v := some (.int (jb_b2i q2))) rfl rfl zp_174 rfl (Nat.le_of_ble_eq_true rfl) (jb_cat rfl) (Nat.le_of_ble_eq_true rfl) (Nat.le_of_ble_eq_true rfl) (Or.inl rfl) rfl (ze_174 (by omega) s M N h2) ?_
    refine jb_seg 1 (pc' := (if (jb_b2i q2) = 0 then 59 else 46)) (ls' := [some (.ref 79), some (.int x1), some (.int s)]) (st' := [(.int q1)]) (σ' := (zE L, M, N)) (G := []) rfl trivial ?_
    refine jb_ite (fun c => ?_) (fun c => ?_)
    · replace h := (if_pos c).symm.trans h
      refine jb_seg 1 (pc' := 60) (ls' := [some (.ref 79), some (.int x1), some (.int s)]) (st' := [(.int 0), (.int q1)]) (σ' := (zE L, M, N)) (G := []) rfl trivial ?_
      exact jb_mask [true, true, true] rfl (zg_268_J60 hd x1 s q1 0 M N h hK)
    · replace h := (if_neg c).symm.trans h
      obtain ⟨g3, h⟩ := jb_gd_of h
      refine jb_seg 7 (pc' := 60) (ls' := [some (.ref 79), some (.int x1), some (.int s)]) (st' := [(.int (M 80 ((130 + s)).toNatClampNeg)), (.int q1)]) (σ' := (zE L, M, N)) (G := [vp_in (130 + s) 149]) rfl g3 ?_
      exact jb_mask [true, true, true] rfl (zg_268_J60 hd x1 s q1 (M 80 ((130 + s)).toNatClampNeg) M N h hK)
  · replace h := (if_neg c).symm.trans h
    refine jb_seg 1 (pc' := 72) (ls' := [some (.ref 79), some (.int x1), some (.int s)]) (st' := [(.int (-1))]) (σ' := (zE L, M, N)) (G := []) rfl trivial ?_
    obtain rfl := Option.some.inj h
    obtain ⟨rfl, rfl⟩ := hK
    exact jb_reti rfl rfl
theorem zg_268_H28L {Γ : jb_G} {L : Nat} {d : Nat} (hd : 2 ≤ d) (x1 : Int32) (M : jb_Mi) (N : jb_Ml) {v : Option Value} {σ2 : jb_S} {s : Int32} {r : (Int32 × jb_Mi)} (h : jb_lp (zf_268_H28 x1 M) s = some r) (hK : (fun r : Int32 × jb_Mi => v = some (.int r.1) ∧ σ2 = (zE L, r.2, N)) r) : jb_V Γ d zq_268 28 [some (.ref 79), some (.int x1), some (.int s)] [] (zE L, M, N) v σ2 := by
  exact @jb_lp_ind (Int32) ((Int32 × jb_Mi)) (zf_268_H28 x1 M) (fun s => jb_V Γ d zq_268 28 [some (.ref 79), some (.int x1), some (.int s)] [] (zE L, M, N) v σ2) (fun r : Int32 × jb_Mi => v = some (.int r.1) ∧ σ2 = (zE L, r.2, N)) (fun s r h hk => zg_268_H28 hd x1 M N s h hk) s r h hK
set_option maxRecDepth 20000 in
theorem zg_268 {Γ : jb_G} {L : Nat} {d : Nat} (hd : 2 ≤ d) (x1 : Int32) (M : jb_Mi) (N : jb_Ml) {v : Option Value} {σ2 : jb_S} {r : (Int32 × jb_Mi)} (h : zf_268 x1 M = some r) (hK : (fun r : Int32 × jb_Mi => v = some (.int r.1) ∧ σ2 = (zE L, r.2, N)) r) : jb_V Γ d zq_268 0 [some (.ref 79), some (.int x1), none] [] (zE L, M, N) v σ2 := by
  obtain ⟨d, rfl⟩ : ∃ e, d = e + 1 := ⟨d - 1, by omega⟩
  unfold zf_268 at h
  refine jb_seg 3 (pc' := 4) (ls' := [some (.ref 79), some (.int x1), none]) (st' := [(.int 16), (.int 0), (.int x1)]) (σ' := (zE L, M, N)) (G := []) rfl trivial ?_
  refine jb_callS (q' := zq_164) (As := [(.int x1), (.int 0), (.int 16)]) (rest := []) (σ1 := (zE L, M, N)) (v := some (.int (jb_b2i (zf_164 x1 0 16)))) rfl (Nat.le_of_ble_eq_true rfl) rfl zp_164 (jb_cat rfl) (Nat.le_of_ble_eq_true rfl) (Nat.le_of_ble_eq_true rfl) (Or.inl rfl) rfl (ze_164 x1 0 16 M N rfl) ?_
  refine jb_seg 1 (pc' := (if (jb_b2i (zf_164 x1 0 16)) = 0 then 18 else 10)) (ls' := [some (.ref 79), some (.int x1), none]) (st' := []) (σ' := (zE L, M, N)) (G := []) rfl trivial ?_
  refine jb_ite (fun c => ?_) (fun c => ?_)
  · replace h := (if_pos c).symm.trans h
    refine jb_seg 1 (pc' := 20) (ls' := [some (.ref 79), some (.int x1), none]) (st' := [(.int (-2))]) (σ' := (zE L, M, N)) (G := []) rfl trivial ?_
    obtain rfl := Option.some.inj h
    obtain ⟨rfl, rfl⟩ := hK
    exact jb_reti rfl rfl
  · replace h := (if_neg c).symm.trans h
    refine jb_seg 4 (pc' := (if (M 79 4) < x1 then 18 else 21)) (ls' := [some (.ref 79), some (.int x1), none]) (st' := []) (σ' := (zE L, M, N)) (G := []) rfl trivial ?_
    refine jb_ite (fun c => ?_) (fun c => ?_)
    · replace h := (if_pos c).symm.trans h
      refine jb_seg 1 (pc' := 20) (ls' := [some (.ref 79), some (.int x1), none]) (st' := [(.int (-2))]) (σ' := (zE L, M, N)) (G := []) rfl trivial ?_
      obtain rfl := Option.some.inj h
      obtain ⟨rfl, rfl⟩ := hK
      exact jb_reti rfl rfl
    · replace h := (if_neg c).symm.trans h
      refine jb_seg 5 (pc' := 28) (ls' := [some (.ref 79), some (.int x1), some (.int 0)]) (st' := []) (σ' := (zE L, (jb_up M 79 4 0), N)) (G := []) rfl trivial ?_
      exact jb_mask [true, true, true] rfl (zg_268_H28L hd x1 (jb_up M 79 4 0) N h hK)
theorem ze_268 {Γ : jb_G} {L : Nat} {d : Nat} (hd : 2 ≤ d) (x1 : Int32) (M : jb_Mi) (N : jb_Ml) {r : (Int32 × jb_Mi)} (h : zf_268 x1 M = some r) : jb_V Γ d zq_268 0 (jb_en 3 [(.ref 79), (.int x1)]) [] (zE L, M, N) (some (.int r.1)) (zE L, r.2, N) := zg_268 hd x1 M N h ⟨rfl, rfl⟩
-- X13_count
set_option maxRecDepth 20000 in
theorem zg_269_J30 {Γ : jb_G} {L : Nat} {d : Nat} (hd : 4 ≤ d) (x1 : Int32) (x2 : Int32) (x3 : Int32) (x4 : Int32) (M : jb_Mi) (N : jb_Ml) {v : Option Value} {σ2 : jb_S} {r : ((Int32 × Int32) ⊕ (Int32))} (h : zf_269_J30 x1 x2 x3 x4 M = some r) (hK : (jb_K (fun s : Int32 × Int32 => jb_V Γ d zq_269 7 [some (.ref 79), some (.int x1), some (.int s.1), some (.int x3), some (.int s.2)] [] (zE L, M, N) v σ2) (fun r : Int32 => v = some (.int r) ∧ σ2 = (zE L, M, N))) r) : jb_V Γ d zq_269 30 [some (.ref 79), some (.int x1), some (.int x2), some (.int x3), some (.int x4)] [] (zE L, M, N) v σ2 := by
  obtain ⟨d, rfl⟩ : ∃ e, d = e + 1 := ⟨d - 1, by omega⟩
  unfold zf_269_J30 at h
  refine jb_seg 2 (pc' := 7) (ls' := [some (.ref 79), some (.int x1), some (.int x2), some (.int x3), some (.int (x4 + 1))]) (st' := []) (σ' := (zE L, M, N)) (G := []) rfl trivial ?_
  obtain rfl := Option.some.inj h
  exact jb_mask [true, true, true, true, true] rfl hK
set_option maxRecDepth 20000 in
theorem zg_269_J59 {Γ : jb_G} {L : Nat} {d : Nat} (hd : 4 ≤ d) (x1 : Int32) (x2 : Int32) (x3 : Int32) (x4 : Int32) (M : jb_Mi) (N : jb_Ml) {v : Option Value} {σ2 : jb_S} {r : ((Int32 × Int32) ⊕ (Int32))} (h : zf_269_J59 x1 x2 x3 x4 M = some r) (hK : (jb_K (fun s : Int32 × Int32 => jb_V Γ d zq_269 39 [some (.ref 79), some (.int x1), some (.int x2), some (.int s.1), some (.int s.2)] [] (zE L, M, N) v σ2) (fun r : Int32 => v = some (.int r) ∧ σ2 = (zE L, M, N))) r) : jb_V Γ d zq_269 59 [some (.ref 79), some (.int x1), some (.int x2), some (.int x3), some (.int x4)] [] (zE L, M, N) v σ2 := by
  obtain ⟨d, rfl⟩ : ∃ e, d = e + 1 := ⟨d - 1, by omega⟩
  unfold zf_269_J59 at h
  refine jb_seg 2 (pc' := 39) (ls' := [some (.ref 79), some (.int x1), some (.int x2), some (.int x3), some (.int (x4 + 1))]) (st' := []) (σ' := (zE L, M, N)) (G := []) rfl trivial ?_
  obtain rfl := Option.some.inj h
  exact jb_mask [true, true, true, true, true] rfl hK
set_option maxRecDepth 20000 in
theorem zg_269_H39 {Γ : jb_G} {L : Nat} {d : Nat} (hd : 4 ≤ d) (x1 : Int32) (x2 : Int32) (M : jb_Mi) (N : jb_Ml) (s : Int32 × Int32) {v : Option Value} {σ2 : jb_S} {r : ((Int32 × Int32) ⊕ (Int32))} (h : zf_269_H39 x1 x2 M s = some r) (hK : (jb_K (fun s : Int32 × Int32 => jb_V Γ d zq_269 39 [some (.ref 79), some (.int x1), some (.int x2), some (.int s.1), some (.int s.2)] [] (zE L, M, N) v σ2) (fun r : Int32 => v = some (.int r) ∧ σ2 = (zE L, M, N))) r) : jb_V Γ d zq_269 39 [some (.ref 79), some (.int x1), some (.int x2), some (.int s.1), some (.int s.2)] [] (zE L, M, N) v σ2 := by
  obtain ⟨d, rfl⟩ : ∃ e, d = e + 1 := ⟨d - 1, by omega⟩
  unfold zf_269_H39 at h
  refine jb_seg 3 (pc' := (if s.2 < 24 then 46 else 65)) (ls' := [some (.ref 79), some (.int x1), some (.int x2), some (.int s.1), some (.int s.2)]) (st' := []) (σ' := (zE L, M, N)) (G := []) rfl trivial ?_
  refine jb_ite (fun c => ?_) (fun c => ?_)
  · replace h := (if_pos c).symm.trans h
    refine jb_seg 2 (pc' := 49) (ls' := [some (.ref 79), some (.int x1), some (.int x2), some (.int s.1), some (.int s.2)]) (st' := [(.int s.2), (.ref 79)]) (σ' := (zE L, M, N)) (G := []) rfl trivial ?_
    obtain ⟨q2, h2, h⟩ := jb_bd_of h
    refine jb_callV (q' := zq_173) (As := [(.int s.2)]) (rest := []) (σ1 := (zE L, M, N)) (v := some (.int (jb_b2i q2))) rfl rfl zp_173 rfl (Nat.le_of_ble_eq_true rfl) (jb_cat rfl) (Nat.le_of_ble_eq_true rfl) (Nat.le_of_ble_eq_true rfl) (Or.inl rfl) rfl (ze_173 (by omega) s.2 M N h2) ?_
    refine jb_seg 1 (pc' := (if (jb_b2i q2) = 0 then 59 else 55)) (ls' := [some (.ref 79), some (.int x1), some (.int x2), some (.int s.1), some (.int s.2)]) (st' := []) (σ' := (zE L, M, N)) (G := []) rfl trivial ?_
    refine jb_ite (fun c => ?_) (fun c => ?_)
    · replace h := (if_pos c).symm.trans h
      exact jb_mask [true, true, true, true, true] rfl (zg_269_J59 hd x1 x2 s.1 s.2 M N h hK)
    · replace h := (if_neg c).symm.trans h
      refine jb_seg 4 (pc' := 59) (ls' := [some (.ref 79), some (.int x1), some (.int x2), some (.int (s.1 + 1)), some (.int s.2)]) (st' := []) (σ' := (zE L, M, N)) (G := []) rfl trivial ?_
      exact jb_mask [true, true, true, true, true] rfl (zg_269_J59 hd x1 x2 (s.1 + 1) s.2 M N h hK)
  · replace h := (if_neg c).symm.trans h
    refine jb_seg 1 (pc' := 66) (ls' := [some (.ref 79), some (.int x1), some (.int x2), some (.int s.1), some (.int s.2)]) (st' := [(.int x1)]) (σ' := (zE L, M, N)) (G := []) rfl trivial ?_
    refine jb_tsw [(0, 116), (1, 125), (2, 134), (3, 136), (4, 145), (5, 150), (6, 152), (7, 157), (8, 162)] 171 rfl (by decide +kernel) ?_
    refine jb_swc (fun c => ?_) (fun c => ?_)
    · replace h := (if_pos c).symm.trans h
      refine jb_seg 4 (pc' := 124) (ls' := [some (.ref 79), some (.int x1), some (.int x2), some (.int s.1), some (.int s.2)]) (st' := [(.int (M 80 146))]) (σ' := (zE L, M, N)) (G := [vp_in 146 149]) rfl (show vp_in 146 149 from (by unfold vp_in; decide)) ?_
      obtain rfl := Option.some.inj h
      obtain ⟨rfl, rfl⟩ := hK
      exact jb_reti rfl rfl
    · replace h := (if_neg c).symm.trans h
      refine jb_swc (fun c => ?_) (fun c => ?_)
      · replace h := (if_pos c).symm.trans h
        refine jb_seg 4 (pc' := 133) (ls' := [some (.ref 79), some (.int x1), some (.int x2), some (.int s.1), some (.int s.2)]) (st' := [(.int (M 80 147))]) (σ' := (zE L, M, N)) (G := [vp_in 147 149]) rfl (show vp_in 147 149 from (by unfold vp_in; decide)) ?_
        obtain rfl := Option.some.inj h
        obtain ⟨rfl, rfl⟩ := hK
        exact jb_reti rfl rfl
      · replace h := (if_neg c).symm.trans h
        refine jb_swc (fun c => ?_) (fun c => ?_)
        · replace h := (if_pos c).symm.trans h
          refine jb_seg 1 (pc' := 135) (ls' := [some (.ref 79), some (.int x1), some (.int x2), some (.int s.1), some (.int s.2)]) (st' := [(.int x2)]) (σ' := (zE L, M, N)) (G := []) rfl trivial ?_
          obtain rfl := Option.some.inj h
          obtain ⟨rfl, rfl⟩ := hK
          exact jb_reti rfl rfl
        · replace h := (if_neg c).symm.trans h
          refine jb_swc (fun c => ?_) (fun c => ?_)
          · replace h := (if_pos c).symm.trans h
            refine jb_seg 2 (pc' := 138) (ls' := [some (.ref 79), some (.int x1), some (.int x2), some (.int s.1), some (.int s.2)]) (st' := [(.ref 79), (.int x2)]) (σ' := (zE L, M, N)) (G := []) rfl trivial ?_
            obtain ⟨q3, h3, h⟩ := jb_bd_of h
            refine jb_callV (q' := zq_253) (As := []) (rest := [(.int x2)]) (σ1 := (zE L, M, N)) (v := some (.int q3)) rfl rfl zp_253 rfl (Nat.le_of_ble_eq_true rfl) (jb_cat rfl) (Nat.le_of_ble_eq_true rfl) (Nat.le_of_ble_eq_true rfl) (Or.inl rfl) rfl (ze_253 (by omega) M N h3) ?_
            refine jb_seg 3 (pc' := 144) (ls' := [some (.ref 79), some (.int x1), some (.int x2), some (.int s.1), some (.int s.2)]) (st' := [(.int (x2 &&& (q3 ^^^ (-1))))]) (σ' := (zE L, M, N)) (G := []) rfl trivial ?_
            obtain rfl := Option.some.inj h
            obtain ⟨rfl, rfl⟩ := hK
            exact jb_reti rfl rfl
          · replace h := (if_neg c).symm.trans h
            refine jb_swc (fun c => ?_) (fun c => ?_)
            · replace h := (if_pos c).symm.trans h
              refine jb_seg 1 (pc' := 146) (ls' := [some (.ref 79), some (.int x1), some (.int x2), some (.int s.1), some (.int s.2)]) (st' := [(.ref 79)]) (σ' := (zE L, M, N)) (G := []) rfl trivial ?_
              obtain ⟨q4, h4, h⟩ := jb_bd_of h
              refine jb_callV (q' := zq_257) (As := []) (rest := []) (σ1 := (zE L, M, N)) (v := some (.int q4)) rfl rfl zp_257 rfl (Nat.le_of_ble_eq_true rfl) (jb_cat rfl) (Nat.le_of_ble_eq_true rfl) (Nat.le_of_ble_eq_true rfl) (Or.inl rfl) rfl (ze_257 (by omega) M N h4) ?_
              obtain rfl := Option.some.inj h
              obtain ⟨rfl, rfl⟩ := hK
              exact jb_reti rfl rfl
            · replace h := (if_neg c).symm.trans h
              refine jb_swc (fun c => ?_) (fun c => ?_)
              · replace h := (if_pos c).symm.trans h
                refine jb_seg 1 (pc' := 151) (ls' := [some (.ref 79), some (.int x1), some (.int x2), some (.int s.1), some (.int s.2)]) (st' := [(.int s.1)]) (σ' := (zE L, M, N)) (G := []) rfl trivial ?_
                obtain rfl := Option.some.inj h
                obtain ⟨rfl, rfl⟩ := hK
                exact jb_reti rfl rfl
              · replace h := (if_neg c).symm.trans h
                refine jb_swc (fun c => ?_) (fun c => ?_)
                · replace h := (if_pos c).symm.trans h
                  refine jb_seg 2 (pc' := 156) (ls' := [some (.ref 79), some (.int x1), some (.int x2), some (.int s.1), some (.int s.2)]) (st' := [(.int (M 79 13))]) (σ' := (zE L, M, N)) (G := []) rfl trivial ?_
                  obtain rfl := Option.some.inj h
                  obtain ⟨rfl, rfl⟩ := hK
                  exact jb_reti rfl rfl
                · replace h := (if_neg c).symm.trans h
                  refine jb_swc (fun c => ?_) (fun c => ?_)
                  · replace h := (if_pos c).symm.trans h
                    refine jb_seg 2 (pc' := 161) (ls' := [some (.ref 79), some (.int x1), some (.int x2), some (.int s.1), some (.int s.2)]) (st' := [(.int (M 79 4))]) (σ' := (zE L, M, N)) (G := []) rfl trivial ?_
                    obtain rfl := Option.some.inj h
                    obtain ⟨rfl, rfl⟩ := hK
                    exact jb_reti rfl rfl
                  · replace h := (if_neg c).symm.trans h
                    refine jb_swc (fun c => ?_) (fun c => ?_)
                    · replace h := (if_pos c).symm.trans h
                      refine jb_seg 4 (pc' := 170) (ls' := [some (.ref 79), some (.int x1), some (.int x2), some (.int s.1), some (.int s.2)]) (st' := [(.int (M 80 148))]) (σ' := (zE L, M, N)) (G := [vp_in 148 149]) rfl (show vp_in 148 149 from (by unfold vp_in; decide)) ?_
                      obtain rfl := Option.some.inj h
                      obtain ⟨rfl, rfl⟩ := hK
                      exact jb_reti rfl rfl
                    · replace h := (if_neg c).symm.trans h
                      refine jb_swn ?_
                      refine jb_seg 1 (pc' := 172) (ls' := [some (.ref 79), some (.int x1), some (.int x2), some (.int s.1), some (.int s.2)]) (st' := [(.int (-1))]) (σ' := (zE L, M, N)) (G := []) rfl trivial ?_
                      obtain rfl := Option.some.inj h
                      obtain ⟨rfl, rfl⟩ := hK
                      exact jb_reti rfl rfl
theorem zg_269_H39L {Γ : jb_G} {L : Nat} {d : Nat} (hd : 4 ≤ d) (x1 : Int32) (x2 : Int32) (M : jb_Mi) (N : jb_Ml) {v : Option Value} {σ2 : jb_S} {s : Int32 × Int32} {r : (Int32)} (h : jb_lp (zf_269_H39 x1 x2 M) s = some r) (hK : (fun r : Int32 => v = some (.int r) ∧ σ2 = (zE L, M, N)) r) : jb_V Γ d zq_269 39 [some (.ref 79), some (.int x1), some (.int x2), some (.int s.1), some (.int s.2)] [] (zE L, M, N) v σ2 := by
  exact @jb_lp_ind (Int32 × Int32) ((Int32)) (zf_269_H39 x1 x2 M) (fun s => jb_V Γ d zq_269 39 [some (.ref 79), some (.int x1), some (.int x2), some (.int s.1), some (.int s.2)] [] (zE L, M, N) v σ2) (fun r : Int32 => v = some (.int r) ∧ σ2 = (zE L, M, N)) (fun s r h hk => zg_269_H39 hd x1 x2 M N s h hk) s r h hK
set_option maxRecDepth 20000 in
theorem zg_269_H7 {Γ : jb_G} {L : Nat} {d : Nat} (hd : 4 ≤ d) (x1 : Int32) (x3 : Int32) (M : jb_Mi) (N : jb_Ml) (s : Int32 × Int32) {v : Option Value} {σ2 : jb_S} {r : ((Int32 × Int32) ⊕ (Int32))} (h : zf_269_H7 x1 x3 M s = some r) (hK : (jb_K (fun s : Int32 × Int32 => jb_V Γ d zq_269 7 [some (.ref 79), some (.int x1), some (.int s.1), some (.int x3), some (.int s.2)] [] (zE L, M, N) v σ2) (fun r : Int32 => v = some (.int r) ∧ σ2 = (zE L, M, N))) r) : jb_V Γ d zq_269 7 [some (.ref 79), some (.int x1), some (.int s.1), some (.int x3), some (.int s.2)] [] (zE L, M, N) v σ2 := by
  obtain ⟨d, rfl⟩ : ∃ e, d = e + 1 := ⟨d - 1, by omega⟩
  unfold zf_269_H7 at h
  refine jb_seg 3 (pc' := (if s.2 < 6 then 14 else 36)) (ls' := [some (.ref 79), some (.int x1), some (.int s.1), some (.int x3), some (.int s.2)]) (st' := []) (σ' := (zE L, M, N)) (G := []) rfl trivial ?_
  refine jb_ite (fun c => ?_) (fun c => ?_)
  · replace h := (if_pos c).symm.trans h
    refine jb_seg 2 (pc' := 17) (ls' := [some (.ref 79), some (.int x1), some (.int s.1), some (.int x3), some (.int s.2)]) (st' := [(.int s.2), (.ref 79)]) (σ' := (zE L, M, N)) (G := []) rfl trivial ?_
    obtain ⟨q1, h1, h⟩ := jb_bd_of h
    refine jb_callV (q' := zq_171) (As := [(.int s.2)]) (rest := []) (σ1 := (zE L, M, N)) (v := some (.int (jb_b2i q1))) rfl rfl zp_171 rfl (Nat.le_of_ble_eq_true rfl) (jb_cat rfl) (Nat.le_of_ble_eq_true rfl) (Nat.le_of_ble_eq_true rfl) (Or.inl rfl) rfl (ze_171 (by omega) s.2 M N h1) ?_
    refine jb_seg 1 (pc' := (if (jb_b2i q1) = 0 then 30 else 23)) (ls' := [some (.ref 79), some (.int x1), some (.int s.1), some (.int x3), some (.int s.2)]) (st' := []) (σ' := (zE L, M, N)) (G := []) rfl trivial ?_
    refine jb_ite (fun c => ?_) (fun c => ?_)
    · replace h := (if_pos c).symm.trans h
      exact jb_mask [true, true, true, true, true] rfl (zg_269_J30 hd x1 s.1 x3 s.2 M N h hK)
    · replace h := (if_neg c).symm.trans h
      refine jb_seg 6 (pc' := 30) (ls' := [some (.ref 79), some (.int x1), some (.int (s.1 ||| ((1 : Int32) <<< (s.2 &&& 31)))), some (.int x3), some (.int s.2)]) (st' := []) (σ' := (zE L, M, N)) (G := []) rfl trivial ?_
      exact jb_mask [true, true, true, true, true] rfl (zg_269_J30 hd x1 (s.1 ||| ((1 : Int32) <<< (s.2 &&& 31))) x3 s.2 M N h hK)
  · replace h := (if_neg c).symm.trans h
    refine jb_seg 2 (pc' := 39) (ls' := [some (.ref 79), some (.int x1), some (.int s.1), some (.int x3), some (.int 0)]) (st' := []) (σ' := (zE L, M, N)) (G := []) rfl trivial ?_
    obtain ⟨y0, hy0, rfl⟩ := jb_mp_of h
    exact jb_mask [true, true, true, true, true] rfl (zg_269_H39L hd x1 s.1 M N hy0 hK)
theorem zg_269_H7L {Γ : jb_G} {L : Nat} {d : Nat} (hd : 4 ≤ d) (x1 : Int32) (x3 : Int32) (M : jb_Mi) (N : jb_Ml) {v : Option Value} {σ2 : jb_S} {s : Int32 × Int32} {r : (Int32)} (h : jb_lp (zf_269_H7 x1 x3 M) s = some r) (hK : (fun r : Int32 => v = some (.int r) ∧ σ2 = (zE L, M, N)) r) : jb_V Γ d zq_269 7 [some (.ref 79), some (.int x1), some (.int s.1), some (.int x3), some (.int s.2)] [] (zE L, M, N) v σ2 := by
  exact @jb_lp_ind (Int32 × Int32) ((Int32)) (zf_269_H7 x1 x3 M) (fun s => jb_V Γ d zq_269 7 [some (.ref 79), some (.int x1), some (.int s.1), some (.int x3), some (.int s.2)] [] (zE L, M, N) v σ2) (fun r : Int32 => v = some (.int r) ∧ σ2 = (zE L, M, N)) (fun s r h hk => zg_269_H7 hd x1 x3 M N s h hk) s r h hK
set_option maxRecDepth 20000 in
theorem zg_269 {Γ : jb_G} {L : Nat} {d : Nat} (hd : 4 ≤ d) (x1 : Int32) (M : jb_Mi) (N : jb_Ml) {v : Option Value} {σ2 : jb_S} {r : (Int32)} (h : zf_269 x1 M = some r) (hK : (fun r : Int32 => v = some (.int r) ∧ σ2 = (zE L, M, N)) r) : jb_V Γ d zq_269 0 [some (.ref 79), some (.int x1), none, none, none] [] (zE L, M, N) v σ2 := by
  obtain ⟨d, rfl⟩ : ∃ e, d = e + 1 := ⟨d - 1, by omega⟩
  unfold zf_269 at h
  refine jb_seg 6 (pc' := 7) (ls' := [some (.ref 79), some (.int x1), some (.int 0), some (.int 0), some (.int 0)]) (st' := []) (σ' := (zE L, M, N)) (G := []) rfl trivial ?_
  exact jb_mask [true, true, true, true, true] rfl (zg_269_H7L hd x1 0 M N h hK)
theorem ze_269 {Γ : jb_G} {L : Nat} {d : Nat} (hd : 4 ≤ d) (x1 : Int32) (M : jb_Mi) (N : jb_Ml) {r : (Int32)} (h : zf_269 x1 M = some r) : jb_V Γ d zq_269 0 (jb_en 5 [(.ref 79), (.int x1)]) [] (zE L, M, N) (some (.int r)) (zE L, M, N) := zg_269 hd x1 M N h ⟨rfl, rfl⟩
