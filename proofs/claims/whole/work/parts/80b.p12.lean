-- X12_seed
set_option maxRecDepth 20000 in
theorem zg_158 {Γ : jb_G} {L : Nat} {d : Nat} (hd : 1 ≤ d) (x1 : Int32) (M : jb_Mi) (N : jb_Ml) {v : Option Value} {σ2 : jb_S} {r : Bool × jb_Mi} (h : zf_158 x1 M = r) (hK : (fun r : Bool × jb_Mi => v = some (.int (jb_b2i r.1)) ∧ σ2 = (zE L, r.2, N)) r) : jb_V Γ d zq_158 0 [some (.ref 1), some (.int x1)] [] (zE L, M, N) v σ2 := by
  obtain ⟨d, rfl⟩ : ∃ e, d = e + 1 := ⟨d - 1, by omega⟩
  unfold zf_158 at h
  refine jb_seg 3 (pc' := 5) (ls' := [some (.ref 1), some (.int x1)]) (st' := [(.int 65535), (.int 0), (.int x1)]) (σ' := (zE L, M, N)) (G := []) rfl trivial ?_
  refine jb_callS (q' := zq_23) (As := [(.int x1), (.int 0), (.int 65535)]) (rest := []) (σ1 := (zE L, M, N)) (v := some (.int (jb_b2i (zf_23 x1 0 65535)))) rfl (Nat.le_of_ble_eq_true rfl) rfl zp_23 (jb_cat rfl) (Nat.le_of_ble_eq_true rfl) (Nat.le_of_ble_eq_true rfl) (Or.inl rfl) rfl (ze_23 x1 0 65535 M N rfl) ?_
  refine jb_seg 1 (pc' := (if (jb_b2i (zf_23 x1 0 65535)) = 0 then 11 else 13)) (ls' := [some (.ref 1), some (.int x1)]) (st' := []) (σ' := (zE L, M, N)) (G := []) rfl trivial ?_
  refine jb_ite (fun c => ?_) (fun c => ?_)
  · replace h := (if_pos c).symm.trans h
    refine jb_seg 1 (pc' := 12) (ls' := [some (.ref 1), some (.int x1)]) (st' := [(.int 0)]) (σ' := (zE L, M, N)) (G := []) rfl trivial ?_
    subst h
    obtain ⟨rfl, rfl⟩ := hK
    exact jb_retz (by decide) rfl rfl
  · replace h := (if_neg c).symm.trans h
    refine jb_seg 5 (pc' := 22) (ls' := [some (.ref 1), some (.int x1)]) (st' := [(.int 1)]) (σ' := (zE L, (jb_up M 4 11 x1), N)) (G := []) rfl trivial ?_
    subst h
    obtain ⟨rfl, rfl⟩ := hK
    exact jb_retz (by decide) rfl rfl
theorem ze_158 {Γ : jb_G} {L : Nat} {d : Nat} (hd : 1 ≤ d) (x1 : Int32) (M : jb_Mi) (N : jb_Ml) {r : Bool × jb_Mi} (h : zf_158 x1 M = r) : jb_V Γ d zq_158 0 (jb_en 2 [(.ref 1), (.int x1)]) [] (zE L, M, N) (some (.int (jb_b2i r.1))) (zE L, r.2, N) := zg_158 hd x1 M N h ⟨rfl, rfl⟩
-- X12_keep
set_option maxRecDepth 20000 in
theorem zg_159 {Γ : jb_G} {L : Nat} {d : Nat} (hd : 2 ≤ d) (M : jb_Mi) (N : jb_Ml) {v : Option Value} {σ2 : jb_S} {r : Int32 × jb_Mi} (h : zf_159 M = r) (hK : (fun r : Int32 × jb_Mi => v = some (.int r.1) ∧ σ2 = (zE L, r.2, N)) r) : jb_V Γ d zq_159 0 [some (.ref 1)] [] (zE L, M, N) v σ2 := by
  obtain ⟨d, rfl⟩ : ∃ e, d = e + 1 := ⟨d - 1, by omega⟩
  unfold zf_159 at h
  refine jb_seg 4 (pc' := 8) (ls' := [some (.ref 1)]) (st' := [(.ref 4), (.ref 14)]) (σ' := (zE L, M, N)) (G := []) rfl trivial ?_
  refine jb_callV (q' := zq_102) (As := [(.ref 4)]) (rest := []) (σ1 := (zE L, (zf_102 14 4 M), N)) (v := none) rfl rfl zp_102 rfl (Nat.le_of_ble_eq_true rfl) (jb_cat rfl) (Nat.le_of_ble_eq_true rfl) (Nat.le_of_ble_eq_true rfl) (Or.inl rfl) rfl (ze_102 (by omega) 14 4 M N (by decide) rfl) ?_
  refine jb_seg 6 (pc' := 23) (ls' := [some (.ref 1)]) (st' := [(.int ((jb_up (zf_102 14 4 M) 1 14 1) 4 10))]) (σ' := (zE L, (jb_up (zf_102 14 4 M) 1 14 1), N)) (G := [(1 : Int32) = 0 ∨ (1 : Int32) = 1]) rfl (show (1 : Int32) = 0 ∨ (1 : Int32) = 1 from (by decide)) ?_
  subst h
  obtain ⟨rfl, rfl⟩ := hK
  exact jb_reti rfl rfl
theorem ze_159 {Γ : jb_G} {L : Nat} {d : Nat} (hd : 2 ≤ d) (M : jb_Mi) (N : jb_Ml) {r : Int32 × jb_Mi} (h : zf_159 M = r) : jb_V Γ d zq_159 0 (jb_en 1 [(.ref 1)]) [] (zE L, M, N) (some (.int r.1)) (zE L, r.2, N) := zg_159 hd M N h ⟨rfl, rfl⟩
-- X12_undo
set_option maxRecDepth 20000 in
theorem zg_160 {Γ : jb_G} {L : Nat} {d : Nat} (hd : 2 ≤ d) (M : jb_Mi) (N : jb_Ml) {v : Option Value} {σ2 : jb_S} {r : Bool × jb_Mi} (h : zf_160 M = r) (hK : (fun r : Bool × jb_Mi => v = some (.int (jb_b2i r.1)) ∧ σ2 = (zE L, r.2, N)) r) : jb_V Γ d zq_160 0 [some (.ref 1)] [] (zE L, M, N) v σ2 := by
  obtain ⟨d, rfl⟩ : ∃ e, d = e + 1 := ⟨d - 1, by omega⟩
  unfold zf_160 at h
  refine jb_seg 3 (pc' := (if (M 1 14) = 0 then 7 else 9)) (ls' := [some (.ref 1)]) (st' := []) (σ' := (zE L, M, N)) (G := []) rfl trivial ?_
  refine jb_ite (fun c => ?_) (fun c => ?_)
  · replace h := (if_pos c).symm.trans h
    refine jb_seg 1 (pc' := 8) (ls' := [some (.ref 1)]) (st' := [(.int 0)]) (σ' := (zE L, M, N)) (G := []) rfl trivial ?_
    subst h
    obtain ⟨rfl, rfl⟩ := hK
    exact jb_retz (by decide) rfl rfl
  · replace h := (if_neg c).symm.trans h
    refine jb_seg 4 (pc' := 17) (ls' := [some (.ref 1)]) (st' := [(.ref 14), (.ref 4)]) (σ' := (zE L, M, N)) (G := []) rfl trivial ?_
    refine jb_callV (q' := zq_102) (As := [(.ref 14)]) (rest := []) (σ1 := (zE L, (zf_102 4 14 M), N)) (v := none) rfl rfl zp_102 rfl (Nat.le_of_ble_eq_true rfl) (jb_cat rfl) (Nat.le_of_ble_eq_true rfl) (Nat.le_of_ble_eq_true rfl) (Or.inl rfl) rfl (ze_102 (by omega) 4 14 M N (by decide) rfl) ?_
    refine jb_seg 1 (pc' := 21) (ls' := [some (.ref 1)]) (st' := [(.int 1)]) (σ' := (zE L, (zf_102 4 14 M), N)) (G := []) rfl trivial ?_
    subst h
    obtain ⟨rfl, rfl⟩ := hK
    exact jb_retz (by decide) rfl rfl
theorem ze_160 {Γ : jb_G} {L : Nat} {d : Nat} (hd : 2 ≤ d) (M : jb_Mi) (N : jb_Ml) {r : Bool × jb_Mi} (h : zf_160 M = r) : jb_V Γ d zq_160 0 (jb_en 1 [(.ref 1)]) [] (zE L, M, N) (some (.int (jb_b2i r.1))) (zE L, r.2, N) := zg_160 hd M N h ⟨rfl, rfl⟩
-- X12_check
set_option maxRecDepth 20000 in
theorem zg_161_J75 {Γ : jb_G} {L : Nat} {d : Nat} (hd : 2 ≤ d) (x2 : Int32) (x3 : Int32) (M : jb_Mi) (N : jb_Ml) {v : Option Value} {σ2 : jb_S} {r : ((Int32 × Int32) ⊕ (Int32 × jb_Mi))} (h : zf_161_J75 x2 x3 M = some r) (hK : (jb_K (fun s : Int32 × Int32 => jb_V Γ d zq_161 30 [some (.ref 1), none, some (.int s.1), some (.int s.2), none] [] (zE L, M, N) v σ2) (fun r : Int32 × jb_Mi => v = some (.int r.1) ∧ σ2 = (zE L, r.2, N))) r) : jb_V Γ d zq_161 75 [some (.ref 1), none, some (.int x2), some (.int x3), none] [] (zE L, M, N) v σ2 := by
  obtain ⟨d, rfl⟩ : ∃ e, d = e + 1 := ⟨d - 1, by omega⟩
  unfold zf_161_J75 at h
  refine jb_seg 2 (pc' := 30) (ls' := [some (.ref 1), none, some (.int x2), some (.int (x3 + (-1))), none]) (st' := []) (σ' := (zE L, M, N)) (G := []) rfl trivial ?_
  obtain rfl := Option.some.inj h
  exact jb_mask [true, false, true, true, false] rfl hK
set_option maxRecDepth 20000 in
theorem zg_161_J58 {Γ : jb_G} {L : Nat} {d : Nat} (hd : 2 ≤ d) (x2 : Int32) (x3 : Int32) (s0 : Int32) (M : jb_Mi) (N : jb_Ml) {v : Option Value} {σ2 : jb_S} {r : ((Int32 × Int32) ⊕ (Int32 × jb_Mi))} (h : zf_161_J58 x2 x3 s0 M = some r) (hK : (jb_K (fun s : Int32 × Int32 => jb_V Γ d zq_161 30 [some (.ref 1), none, some (.int s.1), some (.int s.2), none] [] (zE L, M, N) v σ2) (fun r : Int32 × jb_Mi => v = some (.int r.1) ∧ σ2 = (zE L, r.2, N))) r) : jb_V Γ d zq_161 58 [some (.ref 1), none, some (.int x2), some (.int x3), none] [(.int s0)] (zE L, M, N) v σ2 := by
  obtain ⟨d, rfl⟩ : ∃ e, d = e + 1 := ⟨d - 1, by omega⟩
  unfold zf_161_J58 at h
  refine jb_seg 4 (pc' := 65) (ls' := [some (.ref 1), none, some (.int x2), some (.int x3), some (.int s0)]) (st' := [(.int x3), (.ref 2)]) (σ' := (zE L, M, N)) (G := []) rfl trivial ?_
  obtain ⟨q2, h2, h⟩ := jb_bd_of h
  refine jb_callV (q' := zq_30) (As := [(.int x3)]) (rest := []) (σ1 := (zE L, M, N)) (v := some (.int q2)) rfl rfl zp_30 rfl (Nat.le_of_ble_eq_true rfl) (jb_cat rfl) (Nat.le_of_ble_eq_true rfl) (Nat.le_of_ble_eq_true rfl) (Or.inl rfl) rfl (ze_30 x3 M N h2) ?_
  refine jb_seg 2 (pc' := (if q2 = s0 then 75 else 73)) (ls' := [some (.ref 1), none, some (.int x2), some (.int x3), some (.int s0)]) (st' := []) (σ' := (zE L, M, N)) (G := []) rfl trivial ?_
  refine jb_ite (fun c => ?_) (fun c => ?_)
  · replace h := (if_pos c).symm.trans h
    exact jb_mask [true, false, true, true, false] rfl (zg_161_J75 hd x2 x3 M N h hK)
  · replace h := (if_neg c).symm.trans h
    refine jb_seg 2 (pc' := 75) (ls' := [some (.ref 1), none, some (.int x3), some (.int x3), some (.int s0)]) (st' := []) (σ' := (zE L, M, N)) (G := []) rfl trivial ?_
    exact jb_mask [true, false, true, true, false] rfl (zg_161_J75 hd x3 x3 M N h hK)
set_option maxRecDepth 20000 in
theorem zg_161_H30 {Γ : jb_G} {L : Nat} {d : Nat} (hd : 2 ≤ d) (M : jb_Mi) (N : jb_Ml) (s : Int32 × Int32) {v : Option Value} {σ2 : jb_S} {r : ((Int32 × Int32) ⊕ (Int32 × jb_Mi))} (h : zf_161_H30 M s = some r) (hK : (jb_K (fun s : Int32 × Int32 => jb_V Γ d zq_161 30 [some (.ref 1), none, some (.int s.1), some (.int s.2), none] [] (zE L, M, N) v σ2) (fun r : Int32 × jb_Mi => v = some (.int r.1) ∧ σ2 = (zE L, r.2, N))) r) : jb_V Γ d zq_161 30 [some (.ref 1), none, some (.int s.1), some (.int s.2), none] [] (zE L, M, N) v σ2 := by
  obtain ⟨d, rfl⟩ : ∃ e, d = e + 1 := ⟨d - 1, by omega⟩
  unfold zf_161_H30 at h
  refine jb_seg 2 (pc' := (if s.2 < 0 then 81 else 34)) (ls' := [some (.ref 1), none, some (.int s.1), some (.int s.2), none]) (st' := []) (σ' := (zE L, M, N)) (G := []) rfl trivial ?_
  refine jb_ite (fun c => ?_) (fun c => ?_)
  · replace h := (if_pos c).symm.trans h
    refine jb_seg 3 (pc' := 86) (ls' := [some (.ref 1), none, some (.int s.1), some (.int s.2), none]) (st' := [(.int 0), (.ref 2)]) (σ' := (zE L, M, N)) (G := []) rfl trivial ?_
    refine jb_callV (q' := zq_117) (As := [(.int 0)]) (rest := []) (σ1 := (zE L, (zf_117 0 M), N)) (v := none) rfl rfl zp_117 rfl (Nat.le_of_ble_eq_true rfl) (jb_cat rfl) (Nat.le_of_ble_eq_true rfl) (Nat.le_of_ble_eq_true rfl) (Or.inl rfl) rfl (ze_117 (by omega) 0 M N rfl) ?_
    refine jb_seg 1 (pc' := 90) (ls' := [some (.ref 1), none, some (.int s.1), some (.int s.2), none]) (st' := [(.int s.1)]) (σ' := (zE L, (zf_117 0 M), N)) (G := []) rfl trivial ?_
    obtain rfl := Option.some.inj h
    obtain ⟨rfl, rfl⟩ := hK
    exact jb_reti rfl rfl
  · replace h := (if_neg c).symm.trans h
    refine jb_seg 3 (pc' := 39) (ls' := [some (.ref 1), none, some (.int s.1), some (.int s.2), none]) (st' := [(.int s.2), (.ref 4)]) (σ' := (zE L, M, N)) (G := []) rfl trivial ?_
    obtain ⟨q1, h1, h⟩ := jb_bd_of h
    refine jb_callV (q' := zq_18) (As := [(.int s.2)]) (rest := []) (σ1 := (zE L, M, N)) (v := some (.int (jb_b2i q1))) rfl rfl zp_18 rfl (Nat.le_of_ble_eq_true rfl) (jb_cat rfl) (Nat.le_of_ble_eq_true rfl) (Nat.le_of_ble_eq_true rfl) (Or.inl rfl) rfl (ze_18 4 s.2 M N (by decide) h1) ?_
    refine jb_seg 1 (pc' := (if (jb_b2i q1) = 0 then 57 else 45)) (ls' := [some (.ref 1), none, some (.int s.1), some (.int s.2), none]) (st' := []) (σ' := (zE L, M, N)) (G := []) rfl trivial ?_
    refine jb_ite (fun c => ?_) (fun c => ?_)
    · replace h := (if_pos c).symm.trans h
      refine jb_seg 1 (pc' := 58) (ls' := [some (.ref 1), none, some (.int s.1), some (.int s.2), none]) (st' := [(.int 0)]) (σ' := (zE L, M, N)) (G := []) rfl trivial ?_
      exact jb_mask [true, false, true, true, false] rfl (zg_161_J58 hd s.1 s.2 0 M N h hK)
    · replace h := (if_neg c).symm.trans h
      obtain ⟨g3, h⟩ := jb_gd_of h
      refine jb_seg 6 (pc' := 58) (ls' := [some (.ref 1), none, some (.int s.1), some (.int s.2), none]) (st' := [(.int (M 13 (s.2).toNatClampNeg))]) (σ' := (zE L, M, N)) (G := [vp_in s.2 16]) rfl g3 ?_
      exact jb_mask [true, false, true, true, false] rfl (zg_161_J58 hd s.1 s.2 (M 13 (s.2).toNatClampNeg) M N h hK)
theorem zg_161_H30L {Γ : jb_G} {L : Nat} {d : Nat} (hd : 2 ≤ d) (M : jb_Mi) (N : jb_Ml) {v : Option Value} {σ2 : jb_S} {s : Int32 × Int32} {r : (Int32 × jb_Mi)} (h : jb_lp (zf_161_H30 M) s = some r) (hK : (fun r : Int32 × jb_Mi => v = some (.int r.1) ∧ σ2 = (zE L, r.2, N)) r) : jb_V Γ d zq_161 30 [some (.ref 1), none, some (.int s.1), some (.int s.2), none] [] (zE L, M, N) v σ2 := by
  exact @jb_lp_ind (Int32 × Int32) ((Int32 × jb_Mi)) (zf_161_H30 M) (fun s => jb_V Γ d zq_161 30 [some (.ref 1), none, some (.int s.1), some (.int s.2), none] [] (zE L, M, N) v σ2) (fun r : Int32 × jb_Mi => v = some (.int r.1) ∧ σ2 = (zE L, r.2, N)) (fun s r h hk => zg_161_H30 hd M N s h hk) s r h hK
set_option maxRecDepth 20000 in
theorem zg_161 {Γ : jb_G} {L : Nat} {d : Nat} (hd : 2 ≤ d) (x1 : Int32) (M : jb_Mi) (N : jb_Ml) {v : Option Value} {σ2 : jb_S} {r : (Int32 × jb_Mi)} (h : zf_161 x1 M = some r) (hK : (fun r : Int32 × jb_Mi => v = some (.int r.1) ∧ σ2 = (zE L, r.2, N)) r) : jb_V Γ d zq_161 0 [some (.ref 1), some (.int x1), none, none, none] [] (zE L, M, N) v σ2 := by
  obtain ⟨d, rfl⟩ : ∃ e, d = e + 1 := ⟨d - 1, by omega⟩
  unfold zf_161 at h
  refine jb_seg 3 (pc' := 4) (ls' := [some (.ref 1), some (.int x1), none, none, none]) (st' := [(.int 16), (.int 0), (.int x1)]) (σ' := (zE L, M, N)) (G := []) rfl trivial ?_
  refine jb_callS (q' := zq_23) (As := [(.int x1), (.int 0), (.int 16)]) (rest := []) (σ1 := (zE L, M, N)) (v := some (.int (jb_b2i (zf_23 x1 0 16)))) rfl (Nat.le_of_ble_eq_true rfl) rfl zp_23 (jb_cat rfl) (Nat.le_of_ble_eq_true rfl) (Nat.le_of_ble_eq_true rfl) (Or.inl rfl) rfl (ze_23 x1 0 16 M N rfl) ?_
  refine jb_seg 1 (pc' := (if (jb_b2i (zf_23 x1 0 16)) = 0 then 21 else 10)) (ls' := [some (.ref 1), some (.int x1), none, none, none]) (st' := []) (σ' := (zE L, M, N)) (G := []) rfl trivial ?_
  refine jb_ite (fun c => ?_) (fun c => ?_)
  · replace h := (if_pos c).symm.trans h
    refine jb_seg 1 (pc' := 23) (ls' := [some (.ref 1), some (.int x1), none, none, none]) (st' := [(.int (-2))]) (σ' := (zE L, M, N)) (G := []) rfl trivial ?_
    obtain rfl := Option.some.inj h
    obtain ⟨rfl, rfl⟩ := hK
    exact jb_reti rfl rfl
  · replace h := (if_neg c).symm.trans h
    refine jb_seg 3 (pc' := 15) (ls' := [some (.ref 1), some (.int x1), none, none, none]) (st' := [(.int x1), (.ref 2)]) (σ' := (zE L, M, N)) (G := []) rfl trivial ?_
    refine jb_callV (q' := zq_116) (As := [(.int x1)]) (rest := []) (σ1 := (zE L, M, N)) (v := some (.int (jb_b2i (zf_116 x1 M)))) rfl rfl zp_116 rfl (Nat.le_of_ble_eq_true rfl) (jb_cat rfl) (Nat.le_of_ble_eq_true rfl) (Nat.le_of_ble_eq_true rfl) (Or.inl rfl) rfl (ze_116 x1 M N rfl) ?_
    refine jb_seg 1 (pc' := (if (jb_b2i (zf_116 x1 M)) = 0 then 21 else 24)) (ls' := [some (.ref 1), some (.int x1), none, none, none]) (st' := []) (σ' := (zE L, M, N)) (G := []) rfl trivial ?_
    refine jb_ite (fun c => ?_) (fun c => ?_)
    · replace h := (if_pos c).symm.trans h
      refine jb_seg 1 (pc' := 23) (ls' := [some (.ref 1), some (.int x1), none, none, none]) (st' := [(.int (-2))]) (σ' := (zE L, M, N)) (G := []) rfl trivial ?_
      obtain rfl := Option.some.inj h
      obtain ⟨rfl, rfl⟩ := hK
      exact jb_reti rfl rfl
    · replace h := (if_neg c).symm.trans h
      refine jb_seg 6 (pc' := 30) (ls' := [some (.ref 1), some (.int x1), some (.int (-1)), some (.int (x1 - 1)), none]) (st' := []) (σ' := (zE L, M, N)) (G := []) rfl trivial ?_
      exact jb_mask [true, false, true, true, false] rfl (zg_161_H30L hd M N h hK)
theorem ze_161 {Γ : jb_G} {L : Nat} {d : Nat} (hd : 2 ≤ d) (x1 : Int32) (M : jb_Mi) (N : jb_Ml) {r : (Int32 × jb_Mi)} (h : zf_161 x1 M = some r) : jb_V Γ d zq_161 0 (jb_en 5 [(.ref 1), (.int x1)]) [] (zE L, M, N) (some (.int r.1)) (zE L, r.2, N) := zg_161 hd x1 M N h ⟨rfl, rfl⟩
-- X12_count
set_option maxRecDepth 20000 in
theorem zg_162 {Γ : jb_G} {L : Nat} {d : Nat} (hd : 2 ≤ d) (x1 : Int32) (M : jb_Mi) (N : jb_Ml) {v : Option Value} {σ2 : jb_S} {r : (Int32)} (h : zf_162 x1 M = some r) (hK : (fun r : Int32 => v = some (.int r) ∧ σ2 = (zE L, M, N)) r) : jb_V Γ d zq_162 0 [some (.ref 1), some (.int x1)] [] (zE L, M, N) v σ2 := by
  obtain ⟨d, rfl⟩ : ∃ e, d = e + 1 := ⟨d - 1, by omega⟩
  unfold zf_162 at h
  refine jb_seg 1 (pc' := 1) (ls' := [some (.ref 1), some (.int x1)]) (st' := [(.int x1)]) (σ' := (zE L, M, N)) (G := []) rfl trivial ?_
  refine jb_tsw [(0, 52), (1, 60), (2, 68), (3, 76), (4, 94), (5, 102), (6, 110), (7, 118), (8, 126)] 134 rfl (by decide +kernel) ?_
  refine jb_swc (fun c => ?_) (fun c => ?_)
  · replace h := (if_pos c).symm.trans h
    refine jb_seg 3 (pc' := 59) (ls' := [some (.ref 1), some (.int x1)]) (st' := [(.int (M 4 9))]) (σ' := (zE L, M, N)) (G := []) rfl trivial ?_
    obtain rfl := Option.some.inj h
    obtain ⟨rfl, rfl⟩ := hK
    exact jb_reti rfl rfl
  · replace h := (if_neg c).symm.trans h
    refine jb_swc (fun c => ?_) (fun c => ?_)
    · replace h := (if_pos c).symm.trans h
      refine jb_seg 3 (pc' := 67) (ls' := [some (.ref 1), some (.int x1)]) (st' := [(.int (M 4 10))]) (σ' := (zE L, M, N)) (G := []) rfl trivial ?_
      obtain rfl := Option.some.inj h
      obtain ⟨rfl, rfl⟩ := hK
      exact jb_reti rfl rfl
    · replace h := (if_neg c).symm.trans h
      refine jb_swc (fun c => ?_) (fun c => ?_)
      · replace h := (if_pos c).symm.trans h
        refine jb_seg 2 (pc' := 72) (ls' := [some (.ref 1), some (.int x1)]) (st' := [(.ref 4)]) (σ' := (zE L, M, N)) (G := []) rfl trivial ?_
        obtain ⟨q1, h1, h⟩ := jb_bd_of h
        refine jb_callV (q' := zq_105) (As := []) (rest := []) (σ1 := (zE L, M, N)) (v := some (.int q1)) rfl rfl zp_105 rfl (Nat.le_of_ble_eq_true rfl) (jb_cat rfl) (Nat.le_of_ble_eq_true rfl) (Nat.le_of_ble_eq_true rfl) (Or.inl rfl) rfl (ze_105 (by omega) 4 M N (by decide) h1) ?_
        obtain rfl := Option.some.inj h
        obtain ⟨rfl, rfl⟩ := hK
        exact jb_reti rfl rfl
      · replace h := (if_neg c).symm.trans h
        refine jb_swc (fun c => ?_) (fun c => ?_)
        · replace h := (if_pos c).symm.trans h
          refine jb_seg 2 (pc' := 80) (ls' := [some (.ref 1), some (.int x1)]) (st' := [(.ref 4)]) (σ' := (zE L, M, N)) (G := []) rfl trivial ?_
          obtain ⟨q2, h2, h⟩ := jb_bd_of h
          refine jb_callV (q' := zq_105) (As := []) (rest := []) (σ1 := (zE L, M, N)) (v := some (.int q2)) rfl rfl zp_105 rfl (Nat.le_of_ble_eq_true rfl) (jb_cat rfl) (Nat.le_of_ble_eq_true rfl) (Nat.le_of_ble_eq_true rfl) (Or.inl rfl) rfl (ze_105 (by omega) 4 M N (by decide) h2) ?_
          refine jb_seg 2 (pc' := 87) (ls' := [some (.ref 1), some (.int x1)]) (st' := [(.ref 4), (.int q2)]) (σ' := (zE L, M, N)) (G := []) rfl trivial ?_
          obtain ⟨q3, h3, h⟩ := jb_bd_of h
          refine jb_callV (q' := zq_51) (As := []) (rest := [(.int q2)]) (σ1 := (zE L, M, N)) (v := some (.int q3)) rfl rfl zp_51 rfl (Nat.le_of_ble_eq_true rfl) (jb_cat rfl) (Nat.le_of_ble_eq_true rfl) (Nat.le_of_ble_eq_true rfl) (Or.inl rfl) rfl (ze_51 (by omega) 4 M N (by decide) h3) ?_
          refine jb_seg 3 (pc' := 93) (ls' := [some (.ref 1), some (.int x1)]) (st' := [(.int (q2 &&& (q3 ^^^ (-1))))]) (σ' := (zE L, M, N)) (G := []) rfl trivial ?_
          obtain rfl := Option.some.inj h
          obtain ⟨rfl, rfl⟩ := hK
          exact jb_reti rfl rfl
        · replace h := (if_neg c).symm.trans h
          refine jb_swc (fun c => ?_) (fun c => ?_)
          · replace h := (if_pos c).symm.trans h
            refine jb_seg 2 (pc' := 98) (ls' := [some (.ref 1), some (.int x1)]) (st' := [(.ref 4)]) (σ' := (zE L, M, N)) (G := []) rfl trivial ?_
            obtain ⟨q4, h4, h⟩ := jb_bd_of h
            refine jb_callV (q' := zq_103) (As := []) (rest := []) (σ1 := (zE L, M, N)) (v := some (.int q4)) rfl rfl zp_103 rfl (Nat.le_of_ble_eq_true rfl) (jb_cat rfl) (Nat.le_of_ble_eq_true rfl) (Nat.le_of_ble_eq_true rfl) (Or.inl rfl) rfl (ze_103 (by omega) 4 M N (by decide) h4) ?_
            obtain rfl := Option.some.inj h
            obtain ⟨rfl, rfl⟩ := hK
            exact jb_reti rfl rfl
          · replace h := (if_neg c).symm.trans h
            refine jb_swc (fun c => ?_) (fun c => ?_)
            · replace h := (if_pos c).symm.trans h
              refine jb_seg 2 (pc' := 106) (ls' := [some (.ref 1), some (.int x1)]) (st' := [(.ref 4)]) (σ' := (zE L, M, N)) (G := []) rfl trivial ?_
              obtain ⟨q5, h5, h⟩ := jb_bd_of h
              refine jb_callV (q' := zq_106) (As := []) (rest := []) (σ1 := (zE L, M, N)) (v := some (.int q5)) rfl rfl zp_106 rfl (Nat.le_of_ble_eq_true rfl) (jb_cat rfl) (Nat.le_of_ble_eq_true rfl) (Nat.le_of_ble_eq_true rfl) (Or.inl rfl) rfl (ze_106 (by omega) 4 M N (by decide) h5) ?_
              obtain rfl := Option.some.inj h
              obtain ⟨rfl, rfl⟩ := hK
              exact jb_reti rfl rfl
            · replace h := (if_neg c).symm.trans h
              refine jb_swc (fun c => ?_) (fun c => ?_)
              · replace h := (if_pos c).symm.trans h
                refine jb_seg 3 (pc' := 117) (ls' := [some (.ref 1), some (.int x1)]) (st' := [(.int (M 44 6))]) (σ' := (zE L, M, N)) (G := []) rfl trivial ?_
                obtain rfl := Option.some.inj h
                obtain ⟨rfl, rfl⟩ := hK
                exact jb_reti rfl rfl
              · replace h := (if_neg c).symm.trans h
                refine jb_swc (fun c => ?_) (fun c => ?_)
                · replace h := (if_pos c).symm.trans h
                  refine jb_seg 3 (pc' := 125) (ls' := [some (.ref 1), some (.int x1)]) (st' := [(.int (M 2 1))]) (σ' := (zE L, M, N)) (G := []) rfl trivial ?_
                  obtain rfl := Option.some.inj h
                  obtain ⟨rfl, rfl⟩ := hK
                  exact jb_reti rfl rfl
                · replace h := (if_neg c).symm.trans h
                  refine jb_swc (fun c => ?_) (fun c => ?_)
                  · replace h := (if_pos c).symm.trans h
                    refine jb_seg 3 (pc' := 133) (ls' := [some (.ref 1), some (.int x1)]) (st' := [(.int (M 4 11))]) (σ' := (zE L, M, N)) (G := []) rfl trivial ?_
                    obtain rfl := Option.some.inj h
                    obtain ⟨rfl, rfl⟩ := hK
                    exact jb_reti rfl rfl
                  · replace h := (if_neg c).symm.trans h
                    refine jb_swn ?_
                    refine jb_seg 1 (pc' := 135) (ls' := [some (.ref 1), some (.int x1)]) (st' := [(.int (-1))]) (σ' := (zE L, M, N)) (G := []) rfl trivial ?_
                    obtain rfl := Option.some.inj h
                    obtain ⟨rfl, rfl⟩ := hK
                    exact jb_reti rfl rfl
theorem ze_162 {Γ : jb_G} {L : Nat} {d : Nat} (hd : 2 ≤ d) (x1 : Int32) (M : jb_Mi) (N : jb_Ml) {r : (Int32)} (h : zf_162 x1 M = some r) : jb_V Γ d zq_162 0 (jb_en 2 [(.ref 1), (.int x1)]) [] (zE L, M, N) (some (.int r)) (zE L, M, N) := zg_162 hd x1 M N h ⟨rfl, rfl⟩
-- X13_in
set_option maxRecDepth 20000 in
theorem zg_164 {Γ : jb_G} {L : Nat} {d : Nat} (x0 : Int32) (x1 : Int32) (x2 : Int32) (M : jb_Mi) (N : jb_Ml) {v : Option Value} {σ2 : jb_S} {r : Bool} (h : zf_164 x0 x1 x2 = r) (hK : (fun r : Bool => v = some (.int (jb_b2i r)) ∧ σ2 = (zE L, M, N)) r) : jb_V Γ d zq_164 0 [some (.int x0), some (.int x1), some (.int x2)] [] (zE L, M, N) v σ2 := by
  unfold zf_164 at h
  refine jb_seg 3 (pc' := (if x0 < x1 then 14 else 5)) (ls' := [some (.int x0), some (.int x1), some (.int x2)]) (st' := []) (σ' := (zE L, M, N)) (G := []) rfl trivial ?_
  refine jb_ite (fun c => ?_) (fun c => ?_)
  · replace h := (if_pos c).symm.trans h
    refine jb_seg 1 (pc' := 15) (ls' := [some (.int x0), some (.int x1), some (.int x2)]) (st' := [(.int 0)]) (σ' := (zE L, M, N)) (G := []) rfl trivial ?_
    subst h
    obtain ⟨rfl, rfl⟩ := hK
    exact jb_retz (by decide) rfl rfl
  · replace h := (if_neg c).symm.trans h
    refine jb_seg 3 (pc' := (if x2 < x0 then 14 else 10)) (ls' := [some (.int x0), some (.int x1), some (.int x2)]) (st' := []) (σ' := (zE L, M, N)) (G := []) rfl trivial ?_
    refine jb_ite (fun c => ?_) (fun c => ?_)
    · replace h := (if_pos c).symm.trans h
      refine jb_seg 1 (pc' := 15) (ls' := [some (.int x0), some (.int x1), some (.int x2)]) (st' := [(.int 0)]) (σ' := (zE L, M, N)) (G := []) rfl trivial ?_
      subst h
      obtain ⟨rfl, rfl⟩ := hK
      exact jb_retz (by decide) rfl rfl
    · replace h := (if_neg c).symm.trans h
      refine jb_seg 2 (pc' := 15) (ls' := [some (.int x0), some (.int x1), some (.int x2)]) (st' := [(.int 1)]) (σ' := (zE L, M, N)) (G := []) rfl trivial ?_
      subst h
      obtain ⟨rfl, rfl⟩ := hK
      exact jb_retz (by decide) rfl rfl
theorem ze_164 {Γ : jb_G} {L : Nat} {d : Nat} (x0 : Int32) (x1 : Int32) (x2 : Int32) (M : jb_Mi) (N : jb_Ml) {r : Bool} (h : zf_164 x0 x1 x2 = r) : jb_V Γ d zq_164 0 (jb_en 3 [(.int x0), (.int x1), (.int x2)]) [] (zE L, M, N) (some (.int (jb_b2i r))) (zE L, M, N) := zg_164 x0 x1 x2 M N h ⟨rfl, rfl⟩
-- X13_min
set_option maxRecDepth 20000 in
theorem zg_165 {Γ : jb_G} {L : Nat} {d : Nat} (x0 : Int32) (x1 : Int32) (M : jb_Mi) (N : jb_Ml) {v : Option Value} {σ2 : jb_S} {r : Int32} (h : zf_165 x0 x1 = r) (hK : (fun r : Int32 => v = some (.int r) ∧ σ2 = (zE L, M, N)) r) : jb_V Γ d zq_165 0 [some (.int x0), some (.int x1)] [] (zE L, M, N) v σ2 := by
  unfold zf_165 at h
  refine jb_seg 3 (pc' := (if x0 < x1 then 5 else 9)) (ls' := [some (.int x0), some (.int x1)]) (st' := []) (σ' := (zE L, M, N)) (G := []) rfl trivial ?_
  refine jb_ite (fun c => ?_) (fun c => ?_)
  · replace h := (if_pos c).symm.trans h
    refine jb_seg 2 (pc' := 10) (ls' := [some (.int x0), some (.int x1)]) (st' := [(.int x0)]) (σ' := (zE L, M, N)) (G := []) rfl trivial ?_
    subst h
    obtain ⟨rfl, rfl⟩ := hK
    exact jb_reti rfl rfl
  · replace h := (if_neg c).symm.trans h
    refine jb_seg 1 (pc' := 10) (ls' := [some (.int x0), some (.int x1)]) (st' := [(.int x1)]) (σ' := (zE L, M, N)) (G := []) rfl trivial ?_
    subst h
    obtain ⟨rfl, rfl⟩ := hK
    exact jb_reti rfl rfl
theorem ze_165 {Γ : jb_G} {L : Nat} {d : Nat} (x0 : Int32) (x1 : Int32) (M : jb_Mi) (N : jb_Ml) {r : Int32} (h : zf_165 x0 x1 = r) : jb_V Γ d zq_165 0 (jb_en 2 [(.int x0), (.int x1)]) [] (zE L, M, N) (some (.int r)) (zE L, M, N) := zg_165 x0 x1 M N h ⟨rfl, rfl⟩
-- X13_max
set_option maxRecDepth 20000 in
theorem zg_166 {Γ : jb_G} {L : Nat} {d : Nat} (x0 : Int32) (x1 : Int32) (M : jb_Mi) (N : jb_Ml) {v : Option Value} {σ2 : jb_S} {r : Int32} (h : zf_166 x0 x1 = r) (hK : (fun r : Int32 => v = some (.int r) ∧ σ2 = (zE L, M, N)) r) : jb_V Γ d zq_166 0 [some (.int x0), some (.int x1)] [] (zE L, M, N) v σ2 := by
  unfold zf_166 at h
  refine jb_seg 3 (pc' := (if x1 < x0 then 5 else 9)) (ls' := [some (.int x0), some (.int x1)]) (st' := []) (σ' := (zE L, M, N)) (G := []) rfl trivial ?_
  refine jb_ite (fun c => ?_) (fun c => ?_)
  · replace h := (if_pos c).symm.trans h
    refine jb_seg 2 (pc' := 10) (ls' := [some (.int x0), some (.int x1)]) (st' := [(.int x0)]) (σ' := (zE L, M, N)) (G := []) rfl trivial ?_
    subst h
    obtain ⟨rfl, rfl⟩ := hK
    exact jb_reti rfl rfl
  · replace h := (if_neg c).symm.trans h
    refine jb_seg 1 (pc' := 10) (ls' := [some (.int x0), some (.int x1)]) (st' := [(.int x1)]) (σ' := (zE L, M, N)) (G := []) rfl trivial ?_
    subst h
    obtain ⟨rfl, rfl⟩ := hK
    exact jb_reti rfl rfl
theorem ze_166 {Γ : jb_G} {L : Nat} {d : Nat} (x0 : Int32) (x1 : Int32) (M : jb_Mi) (N : jb_Ml) {r : Int32} (h : zf_166 x0 x1 = r) : jb_V Γ d zq_166 0 (jb_en 2 [(.int x0), (.int x1)]) [] (zE L, M, N) (some (.int r)) (zE L, M, N) := zg_166 x0 x1 M N h ⟨rfl, rfl⟩
-- X13_size
set_option maxRecDepth 20000 in
theorem zg_167 {Γ : jb_G} {L : Nat} {d : Nat} (x0 : Int32) (M : jb_Mi) (N : jb_Ml) {v : Option Value} {σ2 : jb_S} {r : Int32} (h : zf_167 x0 = r) (hK : (fun r : Int32 => v = some (.int r) ∧ σ2 = (zE L, M, N)) r) : jb_V Γ d zq_167 0 [some (.int x0)] [] (zE L, M, N) v σ2 := by
  unfold zf_167 at h
  refine jb_seg 2 (pc' := (if x0 < 0 then 4 else 9)) (ls' := [some (.int x0)]) (st' := []) (σ' := (zE L, M, N)) (G := []) rfl trivial ?_
  refine jb_ite (fun c => ?_) (fun c => ?_)
  · replace h := (if_pos c).symm.trans h
    refine jb_seg 3 (pc' := 10) (ls' := [some (.int x0)]) (st' := [(.int (-x0))]) (σ' := (zE L, M, N)) (G := []) rfl trivial ?_
    subst h
    obtain ⟨rfl, rfl⟩ := hK
    exact jb_reti rfl rfl
  · replace h := (if_neg c).symm.trans h
    refine jb_seg 1 (pc' := 10) (ls' := [some (.int x0)]) (st' := [(.int x0)]) (σ' := (zE L, M, N)) (G := []) rfl trivial ?_
    subst h
    obtain ⟨rfl, rfl⟩ := hK
    exact jb_reti rfl rfl
theorem ze_167 {Γ : jb_G} {L : Nat} {d : Nat} (x0 : Int32) (M : jb_Mi) (N : jb_Ml) {r : Int32} (h : zf_167 x0 = r) : jb_V Γ d zq_167 0 (jb_en 1 [(.int x0)]) [] (zE L, M, N) (some (.int r)) (zE L, M, N) := zg_167 x0 M N h ⟨rfl, rfl⟩
-- X13_has
set_option maxRecDepth 20000 in
theorem zg_168 {Γ : jb_G} {L : Nat} {d : Nat} (x0 : Int32) (x1 : Int32) (M : jb_Mi) (N : jb_Ml) {v : Option Value} {σ2 : jb_S} {r : Bool} (h : zf_168 x0 x1 = r) (hK : (fun r : Bool => v = some (.int (jb_b2i r)) ∧ σ2 = (zE L, M, N)) r) : jb_V Γ d zq_168 0 [some (.int x0), some (.int x1)] [] (zE L, M, N) v σ2 := by
  unfold zf_168 at h
  refine jb_seg 7 (pc' := (if ((x0 >>> (x1 &&& 31)) &&& 1) = 1 then 9 else 13)) (ls' := [some (.int x0), some (.int x1)]) (st' := []) (σ' := (zE L, M, N)) (G := []) rfl trivial ?_
  refine jb_ite (fun c => ?_) (fun c => ?_)
  · replace h := (if_pos c).symm.trans h
    refine jb_seg 2 (pc' := 14) (ls' := [some (.int x0), some (.int x1)]) (st' := [(.int 1)]) (σ' := (zE L, M, N)) (G := []) rfl trivial ?_
    subst h
    obtain ⟨rfl, rfl⟩ := hK
    exact jb_retz (by decide) rfl rfl
  · replace h := (if_neg c).symm.trans h
    refine jb_seg 1 (pc' := 14) (ls' := [some (.int x0), some (.int x1)]) (st' := [(.int 0)]) (σ' := (zE L, M, N)) (G := []) rfl trivial ?_
    subst h
    obtain ⟨rfl, rfl⟩ := hK
    exact jb_retz (by decide) rfl rfl
theorem ze_168 {Γ : jb_G} {L : Nat} {d : Nat} (x0 : Int32) (x1 : Int32) (M : jb_Mi) (N : jb_Ml) {r : Bool} (h : zf_168 x0 x1 = r) : jb_V Γ d zq_168 0 (jb_en 2 [(.int x0), (.int x1)]) [] (zE L, M, N) (some (.int (jb_b2i r))) (zE L, M, N) := zg_168 x0 x1 M N h ⟨rfl, rfl⟩
-- X13_bits
set_option maxRecDepth 20000 in
theorem zg_169_H4 {Γ : jb_G} {L : Nat} {d : Nat} (x0 : Int32) (M : jb_Mi) (N : jb_Ml) (s : Int32 × Int32) {v : Option Value} {σ2 : jb_S} {r : ((Int32 × Int32) ⊕ (Int32))} (h : zf_169_H4 x0 s = some r) (hK : (jb_K (fun s : Int32 × Int32 => jb_V Γ d zq_169 4 [some (.int x0), some (.int s.1), some (.int s.2)] [] (zE L, M, N) v σ2) (fun r : Int32 => v = some (.int r) ∧ σ2 = (zE L, M, N))) r) : jb_V Γ d zq_169 4 [some (.int x0), some (.int s.1), some (.int s.2)] [] (zE L, M, N) v σ2 := by
  unfold zf_169_H4 at h
  refine jb_seg 3 (pc' := (if s.2 < 16 then 10 else 24)) (ls' := [some (.int x0), some (.int s.1), some (.int s.2)]) (st' := []) (σ' := (zE L, M, N)) (G := []) rfl trivial ?_
  refine jb_ite (fun c => ?_) (fun c => ?_)
  · replace h := (if_pos c).symm.trans h
    refine jb_seg 10 (pc' := 4) (ls' := [some (.int x0), some (.int (s.1 + ((x0 >>> (s.2 &&& 31)) &&& 1))), some (.int (s.2 + 1))]) (st' := []) (σ' := (zE L, M, N)) (G := []) rfl trivial ?_
    obtain rfl := Option.some.inj h
    exact jb_mask [true, true, true] rfl hK
  · replace h := (if_neg c).symm.trans h
    refine jb_seg 1 (pc' := 25) (ls' := [some (.int x0), some (.int s.1), some (.int s.2)]) (st' := [(.int s.1)]) (σ' := (zE L, M, N)) (G := []) rfl trivial ?_
    obtain rfl := Option.some.inj h
    obtain ⟨rfl, rfl⟩ := hK
    exact jb_reti rfl rfl
theorem zg_169_H4L {Γ : jb_G} {L : Nat} {d : Nat} (x0 : Int32) (M : jb_Mi) (N : jb_Ml) {v : Option Value} {σ2 : jb_S} {s : Int32 × Int32} {r : (Int32)} (h : jb_lp (zf_169_H4 x0) s = some r) (hK : (fun r : Int32 => v = some (.int r) ∧ σ2 = (zE L, M, N)) r) : jb_V Γ d zq_169 4 [some (.int x0), some (.int s.1), some (.int s.2)] [] (zE L, M, N) v σ2 := by
  exact @jb_lp_ind (Int32 × Int32) ((Int32)) (zf_169_H4 x0) (fun s => jb_V Γ d zq_169 4 [some (.int x0), some (.int s.1), some (.int s.2)] [] (zE L, M, N) v σ2) (fun r : Int32 => v = some (.int r) ∧ σ2 = (zE L, M, N)) (fun s r h hk => zg_169_H4 x0 M N s h hk) s r h hK
set_option maxRecDepth 20000 in
theorem zg_169 {Γ : jb_G} {L : Nat} {d : Nat} (x0 : Int32) (M : jb_Mi) (N : jb_Ml) {v : Option Value} {σ2 : jb_S} {r : (Int32)} (h : zf_169 x0 = some r) (hK : (fun r : Int32 => v = some (.int r) ∧ σ2 = (zE L, M, N)) r) : jb_V Γ d zq_169 0 [some (.int x0), none, none] [] (zE L, M, N) v σ2 := by
  unfold zf_169 at h
  refine jb_seg 4 (pc' := 4) (ls' := [some (.int x0), some (.int 0), some (.int 0)]) (st' := []) (σ' := (zE L, M, N)) (G := []) rfl trivial ?_
  exact jb_mask [true, true, true] rfl (zg_169_H4L x0 M N h hK)
theorem ze_169 {Γ : jb_G} {L : Nat} {d : Nat} (x0 : Int32) (M : jb_Mi) (N : jb_Ml) {r : (Int32)} (h : zf_169 x0 = some r) : jb_V Γ d zq_169 0 (jb_en 3 [(.int x0)]) [] (zE L, M, N) (some (.int r)) (zE L, M, N) := zg_169 x0 M N h ⟨rfl, rfl⟩
-- X13_copies
set_option maxRecDepth 20000 in
theorem zg_170_H2 {Γ : jb_G} {L : Nat} {d : Nat} (a1 : Nat) (a2 : Nat) (N : jb_Ml) (s : Int32 × jb_Mi) (hp : (a1 = 80 ∧ a2 = 81) ∨ (a1 = 81 ∧ a2 = 80) ∨ (a1 = 80 ∧ a2 = 82) ∨ (a1 = 82 ∧ a2 = 80)) {v : Option Value} {σ2 : jb_S} {r : ((Int32 × jb_Mi) ⊕ (jb_Mi))} (h : zf_170_H2 a1 a2 s = some r) (hK : (jb_K (fun s : Int32 × jb_Mi => jb_V Γ d zq_170 2 [some (.ref a1), some (.ref a2), some (.int s.1)] [] (zE L, s.2, N) v σ2) (fun r : jb_Mi => v = none ∧ σ2 = (zE L, r, N))) r) : jb_V Γ d zq_170 2 [some (.ref a1), some (.ref a2), some (.int s.1)] [] (zE L, s.2, N) v σ2 := by
  rcases hp with ⟨rfl, rfl⟩ | ⟨rfl, rfl⟩ | ⟨rfl, rfl⟩ | ⟨rfl, rfl⟩
  · unfold zf_170_H2 at h
    refine jb_seg 3 (pc' := (if s.1 < 149 then 9 else 21)) (ls' := [some (.ref 80), some (.ref 81), some (.int s.1)]) (st' := []) (σ' := (zE L, s.2, N)) (G := []) rfl trivial ?_
    refine jb_ite (fun c => ?_) (fun c => ?_)
    · replace h := (if_pos c).symm.trans h
      obtain ⟨g1, h⟩ := jb_gd_of h
      obtain ⟨g2, h⟩ := jb_gd_of h
      refine jb_seg 8 (pc' := 2) (ls' := [some (.ref 80), some (.ref 81), some (.int (s.1 + 1))]) (st' := []) (σ' := (zE L, (jb_up s.2 81 (s.1).toNatClampNeg (s.2 80 (s.1).toNatClampNeg)), N)) (G := [vp_in s.1 149, vp_in s.1 149]) rfl ⟨g1, g2⟩ ?_
      obtain rfl := Option.some.inj h
      exact jb_mask [true, true, true] rfl hK
    · replace h := (if_neg c).symm.trans h
      obtain rfl := Option.some.inj h
      obtain ⟨rfl, rfl⟩ := hK
      exact jb_retv rfl rfl
  · unfold zf_170_H2 at h
    refine jb_seg 3 (pc' := (if s.1 < 149 then 9 else 21)) (ls' := [some (.ref 81), some (.ref 80), some (.int s.1)]) (st' := []) (σ' := (zE L, s.2, N)) (G := []) rfl trivial ?_
    refine jb_ite (fun c => ?_) (fun c => ?_)
    · replace h := (if_pos c).symm.trans h
      obtain ⟨g1, h⟩ := jb_gd_of h
      obtain ⟨g2, h⟩ := jb_gd_of h
      refine jb_seg 8 (pc' := 2) (ls' := [some (.ref 81), some (.ref 80), some (.int (s.1 + 1))]) (st' := []) (σ' := (zE L, (jb_up s.2 80 (s.1).toNatClampNeg (s.2 81 (s.1).toNatClampNeg)), N)) (G := [vp_in s.1 149, vp_in s.1 149]) rfl ⟨g1, g2⟩ ?_
      obtain rfl := Option.some.inj h
      exact jb_mask [true, true, true] rfl hK
    · replace h := (if_neg c).symm.trans h
      obtain rfl := Option.some.inj h
      obtain ⟨rfl, rfl⟩ := hK
      exact jb_retv rfl rfl
  · unfold zf_170_H2 at h
    refine jb_seg 3 (pc' := (if s.1 < 149 then 9 else 21)) (ls' := [some (.ref 80), some (.ref 82), some (.int s.1)]) (st' := []) (σ' := (zE L, s.2, N)) (G := []) rfl trivial ?_
    refine jb_ite (fun c => ?_) (fun c => ?_)
    · replace h := (if_pos c).symm.trans h
      obtain ⟨g1, h⟩ := jb_gd_of h
      obtain ⟨g2, h⟩ := jb_gd_of h
      refine jb_seg 8 (pc' := 2) (ls' := [some (.ref 80), some (.ref 82), some (.int (s.1 + 1))]) (st' := []) (σ' := (zE L, (jb_up s.2 82 (s.1).toNatClampNeg (s.2 80 (s.1).toNatClampNeg)), N)) (G := [vp_in s.1 149, vp_in s.1 149]) rfl ⟨g1, g2⟩ ?_
      obtain rfl := Option.some.inj h
      exact jb_mask [true, true, true] rfl hK
    · replace h := (if_neg c).symm.trans h
      obtain rfl := Option.some.inj h
      obtain ⟨rfl, rfl⟩ := hK
      exact jb_retv rfl rfl
  · unfold zf_170_H2 at h
    refine jb_seg 3 (pc' := (if s.1 < 149 then 9 else 21)) (ls' := [some (.ref 82), some (.ref 80), some (.int s.1)]) (st' := []) (σ' := (zE L, s.2, N)) (G := []) rfl trivial ?_
    refine jb_ite (fun c => ?_) (fun c => ?_)
    · replace h := (if_pos c).symm.trans h
      obtain ⟨g1, h⟩ := jb_gd_of h
      obtain ⟨g2, h⟩ := jb_gd_of h
      refine jb_seg 8 (pc' := 2) (ls' := [some (.ref 82), some (.ref 80), some (.int (s.1 + 1))]) (st' := []) (σ' := (zE L, (jb_up s.2 80 (s.1).toNatClampNeg (s.2 82 (s.1).toNatClampNeg)), N)) (G := [vp_in s.1 149, vp_in s.1 149]) rfl ⟨g1, g2⟩ ?_
      obtain rfl := Option.some.inj h
      exact jb_mask [true, true, true] rfl hK
    · replace h := (if_neg c).symm.trans h
      obtain rfl := Option.some.inj h
      obtain ⟨rfl, rfl⟩ := hK
      exact jb_retv rfl rfl
theorem zg_170_H2L {Γ : jb_G} {L : Nat} {d : Nat} (a1 : Nat) (a2 : Nat) (N : jb_Ml) (hp : (a1 = 80 ∧ a2 = 81) ∨ (a1 = 81 ∧ a2 = 80) ∨ (a1 = 80 ∧ a2 = 82) ∨ (a1 = 82 ∧ a2 = 80)) {v : Option Value} {σ2 : jb_S} {s : Int32 × jb_Mi} {r : (jb_Mi)} (h : jb_lp (zf_170_H2 a1 a2) s = some r) (hK : (fun r : jb_Mi => v = none ∧ σ2 = (zE L, r, N)) r) : jb_V Γ d zq_170 2 [some (.ref a1), some (.ref a2), some (.int s.1)] [] (zE L, s.2, N) v σ2 := by
  exact @jb_lp_ind (Int32 × jb_Mi) ((jb_Mi)) (zf_170_H2 a1 a2) (fun s => jb_V Γ d zq_170 2 [some (.ref a1), some (.ref a2), some (.int s.1)] [] (zE L, s.2, N) v σ2) (fun r : jb_Mi => v = none ∧ σ2 = (zE L, r, N)) (fun s r h hk => zg_170_H2 a1 a2 N s hp h hk) s r h hK
set_option maxRecDepth 20000 in
theorem zg_170 {Γ : jb_G} {L : Nat} {d : Nat} (a1 : Nat) (a2 : Nat) (M : jb_Mi) (N : jb_Ml) (hp : (a1 = 80 ∧ a2 = 81) ∨ (a1 = 81 ∧ a2 = 80) ∨ (a1 = 80 ∧ a2 = 82) ∨ (a1 = 82 ∧ a2 = 80)) {v : Option Value} {σ2 : jb_S} {r : (jb_Mi)} (h : zf_170 a1 a2 M = some r) (hK : (fun r : jb_Mi => v = none ∧ σ2 = (zE L, r, N)) r) : jb_V Γ d zq_170 0 [some (.ref a1), some (.ref a2), none] [] (zE L, M, N) v σ2 := by
  rcases hp with ⟨rfl, rfl⟩ | ⟨rfl, rfl⟩ | ⟨rfl, rfl⟩ | ⟨rfl, rfl⟩
  · unfold zf_170 at h
    refine jb_seg 2 (pc' := 2) (ls' := [some (.ref 80), some (.ref 81), some (.int 0)]) (st' := []) (σ' := (zE L, M, N)) (G := []) rfl trivial ?_
    exact jb_mask [true, true, true] rfl (zg_170_H2L 80 81 N (by decide) h hK)
  · unfold zf_170 at h
    refine jb_seg 2 (pc' := 2) (ls' := [some (.ref 81), some (.ref 80), some (.int 0)]) (st' := []) (σ' := (zE L, M, N)) (G := []) rfl trivial ?_
    exact jb_mask [true, true, true] rfl (zg_170_H2L 81 80 N (by decide) h hK)
  · unfold zf_170 at h
    refine jb_seg 2 (pc' := 2) (ls' := [some (.ref 80), some (.ref 82), some (.int 0)]) (st' := []) (σ' := (zE L, M, N)) (G := []) rfl trivial ?_
    exact jb_mask [true, true, true] rfl (zg_170_H2L 80 82 N (by decide) h hK)
  · unfold zf_170 at h
    refine jb_seg 2 (pc' := 2) (ls' := [some (.ref 82), some (.ref 80), some (.int 0)]) (st' := []) (σ' := (zE L, M, N)) (G := []) rfl trivial ?_
    exact jb_mask [true, true, true] rfl (zg_170_H2L 82 80 N (by decide) h hK)
theorem ze_170 {Γ : jb_G} {L : Nat} {d : Nat} (a1 : Nat) (a2 : Nat) (M : jb_Mi) (N : jb_Ml) (hp : (a1 = 80 ∧ a2 = 81) ∨ (a1 = 81 ∧ a2 = 80) ∨ (a1 = 80 ∧ a2 = 82) ∨ (a1 = 82 ∧ a2 = 80)) {r : (jb_Mi)} (h : zf_170 a1 a2 M = some r) : jb_V Γ d zq_170 0 (jb_en 3 [(.ref a1), (.ref a2)]) [] (zE L, M, N) (none) (zE L, r, N) := zg_170 a1 a2 M N hp h ⟨rfl, rfl⟩
-- X13_isHouse
set_option maxRecDepth 20000 in
theorem zg_171 {Γ : jb_G} {L : Nat} {d : Nat} (hd : 1 ≤ d) (x1 : Int32) (M : jb_Mi) (N : jb_Ml) {v : Option Value} {σ2 : jb_S} {r : (Bool)} (h : zf_171 x1 M = some r) (hK : (fun r : Bool => v = some (.int (jb_b2i r)) ∧ σ2 = (zE L, M, N)) r) : jb_V Γ d zq_171 0 [some (.ref 79), some (.int x1)] [] (zE L, M, N) v σ2 := by
  obtain ⟨d, rfl⟩ : ∃ e, d = e + 1 := ⟨d - 1, by omega⟩
  unfold zf_171 at h
  refine jb_seg 3 (pc' := 3) (ls' := [some (.ref 79), some (.int x1)]) (st' := [(.int 5), (.int 0), (.int x1)]) (σ' := (zE L, M, N)) (G := []) rfl trivial ?_
  refine jb_callS (q' := zq_164) (As := [(.int x1), (.int 0), (.int 5)]) (rest := []) (σ1 := (zE L, M, N)) (v := some (.int (jb_b2i (zf_164 x1 0 5)))) rfl (Nat.le_of_ble_eq_true rfl) rfl zp_164 (jb_cat rfl) (Nat.le_of_ble_eq_true rfl) (Nat.le_of_ble_eq_true rfl) (Or.inl rfl) rfl (ze_164 x1 0 5 M N rfl) ?_
  refine jb_seg 1 (pc' := (if (jb_b2i (zf_164 x1 0 5)) = 0 then 24 else 9)) (ls' := [some (.ref 79), some (.int x1)]) (st' := []) (σ' := (zE L, M, N)) (G := []) rfl trivial ?_
  refine jb_ite (fun c => ?_) (fun c => ?_)
  · replace h := (if_pos c).symm.trans h
    refine jb_seg 1 (pc' := 25) (ls' := [some (.ref 79), some (.int x1)]) (st' := [(.int 0)]) (σ' := (zE L, M, N)) (G := []) rfl trivial ?_
    obtain rfl := Option.some.inj h
    obtain ⟨rfl, rfl⟩ := hK
    exact jb_retz (by decide) rfl rfl
  · replace h := (if_neg c).symm.trans h
    obtain ⟨g1, h⟩ := jb_gd_of h
    refine jb_seg 7 (pc' := (if 0 < (M 80 ((0 + x1)).toNatClampNeg) then 20 else 24)) (ls' := [some (.ref 79), some (.int x1)]) (st' := []) (σ' := (zE L, M, N)) (G := [vp_in (0 + x1) 149]) rfl g1 ?_
    refine jb_ite (fun c => ?_) (fun c => ?_)
    · replace h := (if_pos c).symm.trans h
      refine jb_seg 2 (pc' := 25) (ls' := [some (.ref 79), some (.int x1)]) (st' := [(.int 1)]) (σ' := (zE L, M, N)) (G := []) rfl trivial ?_
      obtain rfl := Option.some.inj h
      obtain ⟨rfl, rfl⟩ := hK
      exact jb_retz (by decide) rfl rfl
    · replace h := (if_neg c).symm.trans h
      refine jb_seg 1 (pc' := 25) (ls' := [some (.ref 79), some (.int x1)]) (st' := [(.int 0)]) (σ' := (zE L, M, N)) (G := []) rfl trivial ?_
      obtain rfl := Option.some.inj h
      obtain ⟨rfl, rfl⟩ := hK
      exact jb_retz (by decide) rfl rfl
theorem ze_171 {Γ : jb_G} {L : Nat} {d : Nat} (hd : 1 ≤ d) (x1 : Int32) (M : jb_Mi) (N : jb_Ml) {r : (Bool)} (h : zf_171 x1 M = some r) : jb_V Γ d zq_171 0 (jb_en 2 [(.ref 79), (.int x1)]) [] (zE L, M, N) (some (.int (jb_b2i r))) (zE L, M, N) := zg_171 hd x1 M N h ⟨rfl, rfl⟩
-- X13_isUp
set_option maxRecDepth 20000 in
theorem zg_172 {Γ : jb_G} {L : Nat} {d : Nat} (hd : 2 ≤ d) (x1 : Int32) (M : jb_Mi) (N : jb_Ml) {v : Option Value} {σ2 : jb_S} {r : (Bool)} (h : zf_172 x1 M = some r) (hK : (fun r : Bool => v = some (.int (jb_b2i r)) ∧ σ2 = (zE L, M, N)) r) : jb_V Γ d zq_172 0 [some (.ref 79), some (.int x1)] [] (zE L, M, N) v σ2 := by
  obtain ⟨d, rfl⟩ : ∃ e, d = e + 1 := ⟨d - 1, by omega⟩
  unfold zf_172 at h
  refine jb_seg 2 (pc' := 2) (ls' := [some (.ref 79), some (.int x1)]) (st' := [(.int x1), (.ref 79)]) (σ' := (zE L, M, N)) (G := []) rfl trivial ?_
  obtain ⟨q1, h1, h⟩ := jb_bd_of h
  refine jb_callV (q' := zq_171) (As := [(.int x1)]) (rest := []) (σ1 := (zE L, M, N)) (v := some (.int (jb_b2i q1))) rfl rfl zp_171 rfl (Nat.le_of_ble_eq_true rfl) (jb_cat rfl) (Nat.le_of_ble_eq_true rfl) (Nat.le_of_ble_eq_true rfl) (Or.inl rfl) rfl (ze_171 (by omega) x1 M N h1) ?_
  refine jb_seg 1 (pc' := (if (jb_b2i q1) = 0 then 26 else 8)) (ls' := [some (.ref 79), some (.int x1)]) (st' := []) (σ' := (zE L, M, N)) (G := []) rfl trivial ?_
  refine jb_ite (fun c => ?_) (fun c => ?_)
  · replace h := (if_pos c).symm.trans h
    refine jb_seg 1 (pc' := 27) (ls' := [some (.ref 79), some (.int x1)]) (st' := [(.int 0)]) (σ' := (zE L, M, N)) (G := []) rfl trivial ?_
    obtain rfl := Option.some.inj h
    obtain ⟨rfl, rfl⟩ := hK
    exact jb_retz (by decide) rfl rfl
  · replace h := (if_neg c).symm.trans h
    obtain ⟨g2, h⟩ := jb_gd_of h
    refine jb_seg 8 (pc' := (if (M 80 ((12 + x1)).toNatClampNeg) < 9 then 22 else 26)) (ls' := [some (.ref 79), some (.int x1)]) (st' := []) (σ' := (zE L, M, N)) (G := [vp_in (12 + x1) 149]) rfl g2 ?_
    refine jb_ite (fun c => ?_) (fun c => ?_)
    · replace h := (if_pos c).symm.trans h
      refine jb_seg 2 (pc' := 27) (ls' := [some (.ref 79), some (.int x1)]) (st' := [(.int 1)]) (σ' := (zE L, M, N)) (G := []) rfl trivial ?_
      obtain rfl := Option.some.inj h
      obtain ⟨rfl, rfl⟩ := hK
      exact jb_retz (by decide) rfl rfl
    · replace h := (if_neg c).symm.trans h
      refine jb_seg 1 (pc' := 27) (ls' := [some (.ref 79), some (.int x1)]) (st' := [(.int 0)]) (σ' := (zE L, M, N)) (G := []) rfl trivial ?_
      obtain rfl := Option.some.inj h
      obtain ⟨rfl, rfl⟩ := hK
      exact jb_retz (by decide) rfl rfl
theorem ze_172 {Γ : jb_G} {L : Nat} {d : Nat} (hd : 2 ≤ d) (x1 : Int32) (M : jb_Mi) (N : jb_Ml) {r : (Bool)} (h : zf_172 x1 M = some r) : jb_V Γ d zq_172 0 (jb_en 2 [(.ref 79), (.int x1)]) [] (zE L, M, N) (some (.int (jb_b2i r))) (zE L, M, N) := zg_172 hd x1 M N h ⟨rfl, rfl⟩
-- X13_isThing
set_option maxRecDepth 20000 in
theorem zg_173 {Γ : jb_G} {L : Nat} {d : Nat} (hd : 1 ≤ d) (x1 : Int32) (M : jb_Mi) (N : jb_Ml) {v : Option Value} {σ2 : jb_S} {r : (Bool)} (h : zf_173 x1 M = some r) (hK : (fun r : Bool => v = some (.int (jb_b2i r)) ∧ σ2 = (zE L, M, N)) r) : jb_V Γ d zq_173 0 [some (.ref 79), some (.int x1)] [] (zE L, M, N) v σ2 := by
  obtain ⟨d, rfl⟩ : ∃ e, d = e + 1 := ⟨d - 1, by omega⟩
  unfold zf_173 at h
  refine jb_seg 3 (pc' := 4) (ls' := [some (.ref 79), some (.int x1)]) (st' := [(.int 23), (.int 0), (.int x1)]) (σ' := (zE L, M, N)) (G := []) rfl trivial ?_
  refine jb_callS (q' := zq_164) (As := [(.int x1), (.int 0), (.int 23)]) (rest := []) (σ1 := (zE L, M, N)) (v := some (.int (jb_b2i (zf_164 x1 0 23)))) rfl (Nat.le_of_ble_eq_true rfl) rfl zp_164 (jb_cat rfl) (Nat.le_of_ble_eq_true rfl) (Nat.le_of_ble_eq_true rfl) (Or.inl rfl) rfl (ze_164 x1 0 23 M N rfl) ?_
  refine jb_seg 1 (pc' := (if (jb_b2i (zf_164 x1 0 23)) = 0 then 27 else 10)) (ls' := [some (.ref 79), some (.int x1)]) (st' := []) (σ' := (zE L, M, N)) (G := []) rfl trivial ?_
  refine jb_ite (fun c => ?_) (fun c => ?_)
  · replace h := (if_pos c).symm.trans h
    refine jb_seg 1 (pc' := 28) (ls' := [some (.ref 79), some (.int x1)]) (st' := [(.int 0)]) (σ' := (zE L, M, N)) (G := []) rfl trivial ?_
    obtain rfl := Option.some.inj h
    obtain ⟨rfl, rfl⟩ := hK
    exact jb_retz (by decide) rfl rfl
  · replace h := (if_neg c).symm.trans h
    obtain ⟨g1, h⟩ := jb_gd_of h
    refine jb_seg 8 (pc' := (if (M 80 ((18 + x1)).toNatClampNeg) = (-1) then 27 else 23)) (ls' := [some (.ref 79), some (.int x1)]) (st' := []) (σ' := (zE L, M, N)) (G := [vp_in (18 + x1) 149]) rfl g1 ?_
    refine jb_ite (fun c => ?_) (fun c => ?_)
    · replace h := (if_pos c).symm.trans h
      refine jb_seg 1 (pc' := 28) (ls' := [some (.ref 79), some (.int x1)]) (st' := [(.int 0)]) (σ' := (zE L, M, N)) (G := []) rfl trivial ?_
      obtain rfl := Option.some.inj h
      obtain ⟨rfl, rfl⟩ := hK
      exact jb_retz (by decide) rfl rfl
    · replace h := (if_neg c).symm.trans h
      refine jb_seg 2 (pc' := 28) (ls' := [some (.ref 79), some (.int x1)]) (st' := [(.int 1)]) (σ' := (zE L, M, N)) (G := []) rfl trivial ?_
      obtain rfl := Option.some.inj h
      obtain ⟨rfl, rfl⟩ := hK
      exact jb_retz (by decide) rfl rfl
theorem ze_173 {Γ : jb_G} {L : Nat} {d : Nat} (hd : 1 ≤ d) (x1 : Int32) (M : jb_Mi) (N : jb_Ml) {r : (Bool)} (h : zf_173 x1 M = some r) : jb_V Γ d zq_173 0 (jb_en 2 [(.ref 79), (.int x1)]) [] (zE L, M, N) (some (.int (jb_b2i r))) (zE L, M, N) := zg_173 hd x1 M N h ⟨rfl, rfl⟩
-- X13_isMan
set_option maxRecDepth 20000 in
theorem zg_174 {Γ : jb_G} {L : Nat} {d : Nat} (hd : 1 ≤ d) (x1 : Int32) (M : jb_Mi) (N : jb_Ml) {v : Option Value} {σ2 : jb_S} {r : (Bool)} (h : zf_174 x1 M = some r) (hK : (fun r : Bool => v = some (.int (jb_b2i r)) ∧ σ2 = (zE L, M, N)) r) : jb_V Γ d zq_174 0 [some (.ref 79), some (.int x1)] [] (zE L, M, N) v σ2 := by
  obtain ⟨d, rfl⟩ : ∃ e, d = e + 1 := ⟨d - 1, by omega⟩
  unfold zf_174 at h
  refine jb_seg 3 (pc' := 4) (ls' := [some (.ref 79), some (.int x1)]) (st' := [(.int 15), (.int 0), (.int x1)]) (σ' := (zE L, M, N)) (G := []) rfl trivial ?_
  refine jb_callS (q' := zq_164) (As := [(.int x1), (.int 0), (.int 15)]) (rest := []) (σ1 := (zE L, M, N)) (v := some (.int (jb_b2i (zf_164 x1 0 15)))) rfl (Nat.le_of_ble_eq_true rfl) rfl zp_164 (jb_cat rfl) (Nat.le_of_ble_eq_true rfl) (Nat.le_of_ble_eq_true rfl) (Or.inl rfl) rfl (ze_164 x1 0 15 M N rfl) ?_
  refine jb_seg 1 (pc' := (if (jb_b2i (zf_164 x1 0 15)) = 0 then 26 else 10)) (ls' := [some (.ref 79), some (.int x1)]) (st' := []) (σ' := (zE L, M, N)) (G := []) rfl trivial ?_
  refine jb_ite (fun c => ?_) (fun c => ?_)
  · replace h := (if_pos c).symm.trans h
    refine jb_seg 1 (pc' := 27) (ls' := [some (.ref 79), some (.int x1)]) (st' := [(.int 0)]) (σ' := (zE L, M, N)) (G := []) rfl trivial ?_
    obtain rfl := Option.some.inj h
    obtain ⟨rfl, rfl⟩ := hK
    exact jb_retz (by decide) rfl rfl
  · replace h := (if_neg c).symm.trans h
    obtain ⟨g1, h⟩ := jb_gd_of h
    refine jb_seg 7 (pc' := (if 0 < (M 80 ((114 + x1)).toNatClampNeg) then 22 else 26)) (ls' := [some (.ref 79), some (.int x1)]) (st' := []) (σ' := (zE L, M, N)) (G := [vp_in (114 + x1) 149]) rfl g1 ?_
    refine jb_ite (fun c => ?_) (fun c => ?_)
    · replace h := (if_pos c).symm.trans h
      refine jb_seg 2 (pc' := 27) (ls' := [some (.ref 79), some (.int x1)]) (st' := [(.int 1)]) (σ' := (zE L, M, N)) (G := []) rfl trivial ?_
      obtain rfl := Option.some.inj h
      obtain ⟨rfl, rfl⟩ := hK
      exact jb_retz (by decide) rfl rfl
    · replace h := (if_neg c).symm.trans h
      refine jb_seg 1 (pc' := 27) (ls' := [some (.ref 79), some (.int x1)]) (st' := [(.int 0)]) (σ' := (zE L, M, N)) (G := []) rfl trivial ?_
      obtain rfl := Option.some.inj h
      obtain ⟨rfl, rfl⟩ := hK
      exact jb_retz (by decide) rfl rfl
theorem ze_174 {Γ : jb_G} {L : Nat} {d : Nat} (hd : 1 ≤ d) (x1 : Int32) (M : jb_Mi) (N : jb_Ml) {r : (Bool)} (h : zf_174 x1 M = some r) : jb_V Γ d zq_174 0 (jb_en 2 [(.ref 79), (.int x1)]) [] (zE L, M, N) (some (.int (jb_b2i r))) (zE L, M, N) := zg_174 hd x1 M N h ⟨rfl, rfl⟩
-- X13_house
set_option maxRecDepth 20000 in
theorem zg_175 {Γ : jb_G} {L : Nat} {d : Nat} (hd : 1 ≤ d) (x1 : Int32) (x2 : Int32) (x3 : Int32) (M : jb_Mi) (N : jb_Ml) {v : Option Value} {σ2 : jb_S} {r : (Bool × jb_Mi)} (h : zf_175 x1 x2 x3 M = some r) (hK : (fun r : Bool × jb_Mi => v = some (.int (jb_b2i r.1)) ∧ σ2 = (zE L, r.2, N)) r) : jb_V Γ d zq_175 0 [some (.ref 79), some (.int x1), some (.int x2), some (.int x3)] [] (zE L, M, N) v σ2 := by
  obtain ⟨d, rfl⟩ : ∃ e, d = e + 1 := ⟨d - 1, by omega⟩
  unfold zf_175 at h
  refine jb_seg 3 (pc' := 3) (ls' := [some (.ref 79), some (.int x1), some (.int x2), some (.int x3)]) (st' := [(.int 5), (.int 0), (.int x1)]) (σ' := (zE L, M, N)) (G := []) rfl trivial ?_
  refine jb_callS (q' := zq_164) (As := [(.int x1), (.int 0), (.int 5)]) (rest := []) (σ1 := (zE L, M, N)) (v := some (.int (jb_b2i (zf_164 x1 0 5)))) rfl (Nat.le_of_ble_eq_true rfl) rfl zp_164 (jb_cat rfl) (Nat.le_of_ble_eq_true rfl) (Nat.le_of_ble_eq_true rfl) (Or.inl rfl) rfl (ze_164 x1 0 5 M N rfl) ?_
  refine jb_seg 1 (pc' := (if (jb_b2i (zf_164 x1 0 5)) = 0 then 29 else 9)) (ls' := [some (.ref 79), some (.int x1), some (.int x2), some (.int x3)]) (st' := []) (σ' := (zE L, M, N)) (G := []) rfl trivial ?_
  refine jb_ite (fun c => ?_) (fun c => ?_)
  · replace h := (if_pos c).symm.trans h
    refine jb_seg 1 (pc' := 30) (ls' := [some (.ref 79), some (.int x1), some (.int x2), some (.int x3)]) (st' := [(.int 0)]) (σ' := (zE L, M, N)) (G := []) rfl trivial ?_
    obtain rfl := Option.some.inj h
    obtain ⟨rfl, rfl⟩ := hK
    exact jb_retz (by decide) rfl rfl
  · replace h := (if_neg c).symm.trans h
    refine jb_seg 3 (pc' := 13) (ls' := [some (.ref 79), some (.int x1), some (.int x2), some (.int x3)]) (st' := [(.int 9), (.int 1), (.int x2)]) (σ' := (zE L, M, N)) (G := []) rfl trivial ?_
    refine jb_callS (q' := zq_164) (As := [(.int x2), (.int 1), (.int 9)]) (rest := []) (σ1 := (zE L, M, N)) (v := some (.int (jb_b2i (zf_164 x2 1 9)))) rfl (Nat.le_of_ble_eq_true rfl) rfl zp_164 (jb_cat rfl) (Nat.le_of_ble_eq_true rfl) (Nat.le_of_ble_eq_true rfl) (Or.inl rfl) rfl (ze_164 x2 1 9 M N rfl) ?_
    refine jb_seg 1 (pc' := (if (jb_b2i (zf_164 x2 1 9)) = 0 then 29 else 19)) (ls' := [some (.ref 79), some (.int x1), some (.int x2), some (.int x3)]) (st' := []) (σ' := (zE L, M, N)) (G := []) rfl trivial ?_
    refine jb_ite (fun c => ?_) (fun c => ?_)
    · replace h := (if_pos c).symm.trans h
      refine jb_seg 1 (pc' := 30) (ls' := [some (.ref 79), some (.int x1), some (.int x2), some (.int x3)]) (st' := [(.int 0)]) (σ' := (zE L, M, N)) (G := []) rfl trivial ?_
      obtain rfl := Option.some.inj h
      obtain ⟨rfl, rfl⟩ := hK
      exact jb_retz (by decide) rfl rfl
    · replace h := (if_neg c).symm.trans h
      refine jb_seg 3 (pc' := 23) (ls' := [some (.ref 79), some (.int x1), some (.int x2), some (.int x3)]) (st' := [(.int 99), (.int 0), (.int x3)]) (σ' := (zE L, M, N)) (G := []) rfl trivial ?_
      refine jb_callS (q' := zq_164) (As := [(.int x3), (.int 0), (.int 99)]) (rest := []) (σ1 := (zE L, M, N)) (v := some (.int (jb_b2i (zf_164 x3 0 99)))) rfl (Nat.le_of_ble_eq_true rfl) rfl zp_164 (jb_cat rfl) (Nat.le_of_ble_eq_true rfl) (Nat.le_of_ble_eq_true rfl) (Or.inl rfl) rfl (ze_164 x3 0 99 M N rfl) ?_
      refine jb_seg 1 (pc' := (if (jb_b2i (zf_164 x3 0 99)) = 0 then 29 else 31)) (ls' := [some (.ref 79), some (.int x1), some (.int x2), some (.int x3)]) (st' := []) (σ' := (zE L, M, N)) (G := []) rfl trivial ?_
      refine jb_ite (fun c => ?_) (fun c => ?_)
      · replace h := (if_pos c).symm.trans h
        refine jb_seg 1 (pc' := 30) (ls' := [some (.ref 79), some (.int x1), some (.int x2), some (.int x3)]) (st' := [(.int 0)]) (σ' := (zE L, M, N)) (G := []) rfl trivial ?_
        obtain rfl := Option.some.inj h
        obtain ⟨rfl, rfl⟩ := hK
        exact jb_retz (by decide) rfl rfl
      · replace h := (if_neg c).symm.trans h
        obtain ⟨g1, h⟩ := jb_gd_of h
        obtain ⟨g2, h⟩ := jb_gd_of h
        obtain ⟨g3, h⟩ := jb_gd_of h
        refine jb_seg 22 (pc' := 61) (ls' := [some (.ref 79), some (.int x1), some (.int x2), some (.int x3)]) (st' := [(.int 1)]) (σ' := (zE L, (jb_up (jb_up (jb_up M 80 ((0 + x1)).toNatClampNeg x2) 80 ((6 + x1)).toNatClampNeg x3) 80 ((12 + x1)).toNatClampNeg 0), N)) (G := [vp_in (0 + x1) 149, vp_in (6 + x1) 149, vp_in (12 + x1) 149]) rfl ⟨g1, g2, g3⟩ ?_
        obtain rfl := Option.some.inj h
        obtain ⟨rfl, rfl⟩ := hK
        exact jb_retz (by decide) rfl rfl
theorem ze_175 {Γ : jb_G} {L : Nat} {d : Nat} (hd : 1 ≤ d) (x1 : Int32) (x2 : Int32) (x3 : Int32) (M : jb_Mi) (N : jb_Ml) {r : (Bool × jb_Mi)} (h : zf_175 x1 x2 x3 M = some r) : jb_V Γ d zq_175 0 (jb_en 4 [(.ref 79), (.int x1), (.int x2), (.int x3)]) [] (zE L, M, N) (some (.int (jb_b2i r.1))) (zE L, r.2, N) := zg_175 hd x1 x2 x3 M N h ⟨rfl, rfl⟩
-- X13_thing
set_option maxRecDepth 20000 in
theorem zg_176 {Γ : jb_G} {L : Nat} {d : Nat} (hd : 2 ≤ d) (x1 : Int32) (x2 : Int32) (x3 : Int32) (x4 : Int32) (x5 : Int32) (M : jb_Mi) (N : jb_Ml) {v : Option Value} {σ2 : jb_S} {r : (Bool × jb_Mi)} (h : zf_176 x1 x2 x3 x4 x5 M = some r) (hK : (fun r : Bool × jb_Mi => v = some (.int (jb_b2i r.1)) ∧ σ2 = (zE L, r.2, N)) r) : jb_V Γ d zq_176 0 [some (.ref 79), some (.int x1), some (.int x2), some (.int x3), some (.int x4), some (.int x5)] [] (zE L, M, N) v σ2 := by
  obtain ⟨d, rfl⟩ : ∃ e, d = e + 1 := ⟨d - 1, by omega⟩
  unfold zf_176 at h
  refine jb_seg 3 (pc' := 4) (ls' := [some (.ref 79), some (.int x1), some (.int x2), some (.int x3), some (.int x4), some (.int x5)]) (st' := [(.int 23), (.int 0), (.int x1)]) (σ' := (zE L, M, N)) (G := []) rfl trivial ?_
  refine jb_callS (q' := zq_164) (As := [(.int x1), (.int 0), (.int 23)]) (rest := []) (σ1 := (zE L, M, N)) (v := some (.int (jb_b2i (zf_164 x1 0 23)))) rfl (Nat.le_of_ble_eq_true rfl) rfl zp_164 (jb_cat rfl) (Nat.le_of_ble_eq_true rfl) (Nat.le_of_ble_eq_true rfl) (Or.inl rfl) rfl (ze_164 x1 0 23 M N rfl) ?_
  refine jb_seg 1 (pc' := (if (jb_b2i (zf_164 x1 0 23)) = 0 then 50 else 10)) (ls' := [some (.ref 79), some (.int x1), some (.int x2), some (.int x3), some (.int x4), some (.int x5)]) (st' := []) (σ' := (zE L, M, N)) (G := []) rfl trivial ?_
  refine jb_ite (fun c => ?_) (fun c => ?_)
  · replace h := (if_pos c).symm.trans h
    refine jb_seg 1 (pc' := 51) (ls' := [some (.ref 79), some (.int x1), some (.int x2), some (.int x3), some (.int x4), some (.int x5)]) (st' := [(.int 0)]) (σ' := (zE L, M, N)) (G := []) rfl trivial ?_
    obtain rfl := Option.some.inj h
    obtain ⟨rfl, rfl⟩ := hK
    exact jb_retz (by decide) rfl rfl
  · replace h := (if_neg c).symm.trans h
    refine jb_seg 2 (pc' := 12) (ls' := [some (.ref 79), some (.int x1), some (.int x2), some (.int x3), some (.int x4), some (.int x5)]) (st' := [(.int x2), (.ref 79)]) (σ' := (zE L, M, N)) (G := []) rfl trivial ?_
    obtain ⟨q1, h1, h⟩ := jb_bd_of h
    refine jb_callV (q' := zq_171) (As := [(.int x2)]) (rest := []) (σ1 := (zE L, M, N)) (v := some (.int (jb_b2i q1))) rfl rfl zp_171 rfl (Nat.le_of_ble_eq_true rfl) (jb_cat rfl) (Nat.le_of_ble_eq_true rfl) (Nat.le_of_ble_eq_true rfl) (Or.inl rfl) rfl (ze_171 (by omega) x2 M N h1) ?_
    refine jb_seg 1 (pc' := (if (jb_b2i q1) = 0 then 50 else 18)) (ls' := [some (.ref 79), some (.int x1), some (.int x2), some (.int x3), some (.int x4), some (.int x5)]) (st' := []) (σ' := (zE L, M, N)) (G := []) rfl trivial ?_
    refine jb_ite (fun c => ?_) (fun c => ?_)
    · replace h := (if_pos c).symm.trans h
      refine jb_seg 1 (pc' := 51) (ls' := [some (.ref 79), some (.int x1), some (.int x2), some (.int x3), some (.int x4), some (.int x5)]) (st' := [(.int 0)]) (σ' := (zE L, M, N)) (G := []) rfl trivial ?_
      obtain rfl := Option.some.inj h
      obtain ⟨rfl, rfl⟩ := hK
      exact jb_retz (by decide) rfl rfl
    · replace h := (if_neg c).symm.trans h
      refine jb_seg 3 (pc' := 22) (ls' := [some (.ref 79), some (.int x1), some (.int x2), some (.int x3), some (.int x4), some (.int x5)]) (st' := [(.int 8), (.int 0), (.int x3)]) (σ' := (zE L, M, N)) (G := []) rfl trivial ?_
      refine jb_callS (q' := zq_164) (As := [(.int x3), (.int 0), (.int 8)]) (rest := []) (σ1 := (zE L, M, N)) (v := some (.int (jb_b2i (zf_164 x3 0 8)))) rfl (Nat.le_of_ble_eq_true rfl) rfl zp_164 (jb_cat rfl) (Nat.le_of_ble_eq_true rfl) (Nat.le_of_ble_eq_true rfl) (Or.inl rfl) rfl (ze_164 x3 0 8 M N rfl) ?_
      refine jb_seg 1 (pc' := (if (jb_b2i (zf_164 x3 0 8)) = 0 then 50 else 28)) (ls' := [some (.ref 79), some (.int x1), some (.int x2), some (.int x3), some (.int x4), some (.int x5)]) (st' := []) (σ' := (zE L, M, N)) (G := []) rfl trivial ?_
      refine jb_ite (fun c => ?_) (fun c => ?_)
      · replace h := (if_pos c).symm.trans h
        refine jb_seg 1 (pc' := 51) (ls' := [some (.ref 79), some (.int x1), some (.int x2), some (.int x3), some (.int x4), some (.int x5)]) (st' := [(.int 0)]) (σ' := (zE L, M, N)) (G := []) rfl trivial ?_
        obtain rfl := Option.some.inj h
        obtain ⟨rfl, rfl⟩ := hK
        exact jb_retz (by decide) rfl rfl
      · replace h := (if_neg c).symm.trans h
        refine jb_seg 3 (pc' := 33) (ls' := [some (.ref 79), some (.int x1), some (.int x2), some (.int x3), some (.int x4), some (.int x5)]) (st' := [(.int 8), (.int 0), (.int x4)]) (σ' := (zE L, M, N)) (G := []) rfl trivial ?_
        refine jb_callS (q' := zq_164) (As := [(.int x4), (.int 0), (.int 8)]) (rest := []) (σ1 := (zE L, M, N)) (v := some (.int (jb_b2i (zf_164 x4 0 8)))) rfl (Nat.le_of_ble_eq_true rfl) rfl zp_164 (jb_cat rfl) (Nat.le_of_ble_eq_true rfl) (Nat.le_of_ble_eq_true rfl) (Or.inl rfl) rfl (ze_164 x4 0 8 M N rfl) ?_
        refine jb_seg 1 (pc' := (if (jb_b2i (zf_164 x4 0 8)) = 0 then 50 else 39)) (ls' := [some (.ref 79), some (.int x1), some (.int x2), some (.int x3), some (.int x4), some (.int x5)]) (st' := []) (σ' := (zE L, M, N)) (G := []) rfl trivial ?_
        refine jb_ite (fun c => ?_) (fun c => ?_)
        · replace h := (if_pos c).symm.trans h
          refine jb_seg 1 (pc' := 51) (ls' := [some (.ref 79), some (.int x1), some (.int x2), some (.int x3), some (.int x4), some (.int x5)]) (st' := [(.int 0)]) (σ' := (zE L, M, N)) (G := []) rfl trivial ?_
          obtain rfl := Option.some.inj h
          obtain ⟨rfl, rfl⟩ := hK
          exact jb_retz (by decide) rfl rfl
        · replace h := (if_neg c).symm.trans h
          refine jb_seg 3 (pc' := 44) (ls' := [some (.ref 79), some (.int x1), some (.int x2), some (.int x3), some (.int x4), some (.int x5)]) (st' := [(.int 99), (.int 1), (.int x5)]) (σ' := (zE L, M, N)) (G := []) rfl trivial ?_
          refine jb_callS (q' := zq_164) (As := [(.int x5), (.int 1), (.int 99)]) (rest := []) (σ1 := (zE L, M, N)) (v := some (.int (jb_b2i (zf_164 x5 1 99)))) rfl (Nat.le_of_ble_eq_true rfl) rfl zp_164 (jb_cat rfl) (Nat.le_of_ble_eq_true rfl) (Nat.le_of_ble_eq_true rfl) (Or.inl rfl) rfl (ze_164 x5 1 99 M N rfl) ?_
          refine jb_seg 1 (pc' := (if (jb_b2i (zf_164 x5 1 99)) = 0 then 50 else 52)) (ls' := [some (.ref 79), some (.int x1), some (.int x2), some (.int x3), some (.int x4), some (.int x5)]) (st' := []) (σ' := (zE L, M, N)) (G := []) rfl trivial ?_
          refine jb_ite (fun c => ?_) (fun c => ?_)
          · replace h := (if_pos c).symm.trans h
            refine jb_seg 1 (pc' := 51) (ls' := [some (.ref 79), some (.int x1), some (.int x2), some (.int x3), some (.int x4), some (.int x5)]) (st' := [(.int 0)]) (σ' := (zE L, M, N)) (G := []) rfl trivial ?_
            obtain rfl := Option.some.inj h
            obtain ⟨rfl, rfl⟩ := hK
            exact jb_retz (by decide) rfl rfl
          · replace h := (if_neg c).symm.trans h
            obtain ⟨g2, h⟩ := jb_gd_of h
            obtain ⟨g3, h⟩ := jb_gd_of h
            obtain ⟨g4, h⟩ := jb_gd_of h
            obtain ⟨g5, h⟩ := jb_gd_of h
            refine jb_seg 29 (pc' := 95) (ls' := [some (.ref 79), some (.int x1), some (.int x2), some (.int x3), some (.int x4), some (.int x5)]) (st' := [(.int 1)]) (σ' := (zE L, (jb_up (jb_up (jb_up (jb_up M 80 ((18 + x1)).toNatClampNeg x2) 80 ((42 + x1)).toNatClampNeg x3) 80 ((66 + x1)).toNatClampNeg x4) 80 ((90 + x1)).toNatClampNeg x5), N)) (G := [vp_in (18 + x1) 149, vp_in (42 + x1) 149, vp_in (66 + x1) 149, vp_in (90 + x1) 149]) rfl ⟨g2, g3, g4, g5⟩ ?_
            obtain rfl := Option.some.inj h
            obtain ⟨rfl, rfl⟩ := hK
            exact jb_retz (by decide) rfl rfl
theorem ze_176 {Γ : jb_G} {L : Nat} {d : Nat} (hd : 2 ≤ d) (x1 : Int32) (x2 : Int32) (x3 : Int32) (x4 : Int32) (x5 : Int32) (M : jb_Mi) (N : jb_Ml) {r : (Bool × jb_Mi)} (h : zf_176 x1 x2 x3 x4 x5 M = some r) : jb_V Γ d zq_176 0 (jb_en 6 [(.ref 79), (.int x1), (.int x2), (.int x3), (.int x4), (.int x5)]) [] (zE L, M, N) (some (.int (jb_b2i r.1))) (zE L, r.2, N) := zg_176 hd x1 x2 x3 x4 x5 M N h ⟨rfl, rfl⟩
-- X13_man
set_option maxRecDepth 20000 in
theorem zg_177 {Γ : jb_G} {L : Nat} {d : Nat} (hd : 1 ≤ d) (x1 : Int32) (x2 : Int32) (M : jb_Mi) (N : jb_Ml) {v : Option Value} {σ2 : jb_S} {r : (Bool × jb_Mi)} (h : zf_177 x1 x2 M = some r) (hK : (fun r : Bool × jb_Mi => v = some (.int (jb_b2i r.1)) ∧ σ2 = (zE L, r.2, N)) r) : jb_V Γ d zq_177 0 [some (.ref 79), some (.int x1), some (.int x2)] [] (zE L, M, N) v σ2 := by
  obtain ⟨d, rfl⟩ : ∃ e, d = e + 1 := ⟨d - 1, by omega⟩
  unfold zf_177 at h
  refine jb_seg 3 (pc' := 4) (ls' := [some (.ref 79), some (.int x1), some (.int x2)]) (st' := [(.int 15), (.int 0), (.int x1)]) (σ' := (zE L, M, N)) (G := []) rfl trivial ?_
  refine jb_callS (q' := zq_164) (As := [(.int x1), (.int 0), (.int 15)]) (rest := []) (σ1 := (zE L, M, N)) (v := some (.int (jb_b2i (zf_164 x1 0 15)))) rfl (Nat.le_of_ble_eq_true rfl) rfl zp_164 (jb_cat rfl) (Nat.le_of_ble_eq_true rfl) (Nat.le_of_ble_eq_true rfl) (Or.inl rfl) rfl (ze_164 x1 0 15 M N rfl) ?_
  refine jb_seg 1 (pc' := (if (jb_b2i (zf_164 x1 0 15)) = 0 then 20 else 10)) (ls' := [some (.ref 79), some (.int x1), some (.int x2)]) (st' := []) (σ' := (zE L, M, N)) (G := []) rfl trivial ?_
  refine jb_ite (fun c => ?_) (fun c => ?_)
  · replace h := (if_pos c).symm.trans h
    refine jb_seg 1 (pc' := 21) (ls' := [some (.ref 79), some (.int x1), some (.int x2)]) (st' := [(.int 0)]) (σ' := (zE L, M, N)) (G := []) rfl trivial ?_
    obtain rfl := Option.some.inj h
    obtain ⟨rfl, rfl⟩ := hK
    exact jb_retz (by decide) rfl rfl
  · replace h := (if_neg c).symm.trans h
    refine jb_seg 3 (pc' := 14) (ls' := [some (.ref 79), some (.int x1), some (.int x2)]) (st' := [(.int 99), (.int 1), (.int x2)]) (σ' := (zE L, M, N)) (G := []) rfl trivial ?_
    refine jb_callS (q' := zq_164) (As := [(.int x2), (.int 1), (.int 99)]) (rest := []) (σ1 := (zE L, M, N)) (v := some (.int (jb_b2i (zf_164 x2 1 99)))) rfl (Nat.le_of_ble_eq_true rfl) rfl zp_164 (jb_cat rfl) (Nat.le_of_ble_eq_true rfl) (Nat.le_of_ble_eq_true rfl) (Or.inl rfl) rfl (ze_164 x2 1 99 M N rfl) ?_
    refine jb_seg 1 (pc' := (if (jb_b2i (zf_164 x2 1 99)) = 0 then 20 else 22)) (ls' := [some (.ref 79), some (.int x1), some (.int x2)]) (st' := []) (σ' := (zE L, M, N)) (G := []) rfl trivial ?_
    refine jb_ite (fun c => ?_) (fun c => ?_)
    · replace h := (if_pos c).symm.trans h
      refine jb_seg 1 (pc' := 21) (ls' := [some (.ref 79), some (.int x1), some (.int x2)]) (st' := [(.int 0)]) (σ' := (zE L, M, N)) (G := []) rfl trivial ?_
      obtain rfl := Option.some.inj h
      obtain ⟨rfl, rfl⟩ := hK
      exact jb_retz (by decide) rfl rfl
    · replace h := (if_neg c).symm.trans h
      obtain ⟨g1, h⟩ := jb_gd_of h
      obtain ⟨g2, h⟩ := jb_gd_of h
      refine jb_seg 15 (pc' := 44) (ls' := [some (.ref 79), some (.int x1), some (.int x2)]) (st' := [(.int 1)]) (σ' := (zE L, (jb_up (jb_up M 80 ((114 + x1)).toNatClampNeg x2) 80 ((130 + x1)).toNatClampNeg 0), N)) (G := [vp_in (114 + x1) 149, vp_in (130 + x1) 149]) rfl ⟨g1, g2⟩ ?_
      obtain rfl := Option.some.inj h
      obtain ⟨rfl, rfl⟩ := hK
      exact jb_retz (by decide) rfl rfl
theorem ze_177 {Γ : jb_G} {L : Nat} {d : Nat} (hd : 1 ≤ d) (x1 : Int32) (x2 : Int32) (M : jb_Mi) (N : jb_Ml) {r : (Bool × jb_Mi)} (h : zf_177 x1 x2 M = some r) : jb_V Γ d zq_177 0 (jb_en 3 [(.ref 79), (.int x1), (.int x2)]) [] (zE L, M, N) (some (.int (jb_b2i r.1))) (zE L, r.2, N) := zg_177 hd x1 x2 M N h ⟨rfl, rfl⟩
-- X13_partOf
set_option maxRecDepth 20000 in
theorem zg_178_J29 {Γ : jb_G} {L : Nat} {d : Nat} (x0 : Int32) (x4 : Int32) (s0 : Int32) (M : jb_Mi) (N : jb_Ml) {v : Option Value} {σ2 : jb_S} {r : Int32} (h : zf_178_J29 x0 x4 s0 = r) (hK : (fun r : Int32 => v = some (.int r) ∧ σ2 = (zE L, M, N)) r) : jb_V Γ d zq_178 29 [some (.int x0), none, none, none, some (.int x4), none] [(.int s0)] (zE L, M, N) v σ2 := by
  unfold zf_178_J29 at h
  refine jb_seg 6 (pc' := 38) (ls' := [some (.int x0), none, none, none, some (.int x4), some (.int s0)]) (st' := [(.int ((x0 * x4) * s0))]) (σ' := (zE L, M, N)) (G := []) rfl trivial ?_
  subst h
  obtain ⟨rfl, rfl⟩ := hK
  exact jb_reti rfl rfl
set_option maxRecDepth 20000 in
theorem zg_178_J14 {Γ : jb_G} {L : Nat} {d : Nat} (x0 : Int32) (x2 : Int32) (x3 : Int32) (s0 : Int32) (M : jb_Mi) (N : jb_Ml) {v : Option Value} {σ2 : jb_S} {r : Int32} (h : zf_178_J14 x0 x2 x3 s0 = r) (hK : (fun r : Int32 => v = some (.int r) ∧ σ2 = (zE L, M, N)) r) : jb_V Γ d zq_178 14 [some (.int x0), none, some (.int x2), some (.int x3), none, none] [(.int s0)] (zE L, M, N) v σ2 := by
  unfold zf_178_J14 at h
  refine jb_seg 4 (pc' := (if x3 < 2 then 21 else 28)) (ls' := [some (.int x0), none, some (.int x2), some (.int x3), some (.int s0), none]) (st' := []) (σ' := (zE L, M, N)) (G := []) rfl trivial ?_
  refine jb_ite (fun c => ?_) (fun c => ?_)
  · replace h := (if_pos c).symm.trans h
    refine jb_seg 4 (pc' := 29) (ls' := [some (.int x0), none, some (.int x2), some (.int x3), some (.int s0), none]) (st' := [(.int (8 - x2))]) (σ' := (zE L, M, N)) (G := []) rfl trivial ?_
    exact jb_mask [true, false, false, false, true, false] rfl (zg_178_J29 x0 s0 (8 - x2) M N h hK)
  · replace h := (if_neg c).symm.trans h
    refine jb_seg 1 (pc' := 29) (ls' := [some (.int x0), none, some (.int x2), some (.int x3), some (.int s0), none]) (st' := [(.int x2)]) (σ' := (zE L, M, N)) (G := []) rfl trivial ?_
    exact jb_mask [true, false, false, false, true, false] rfl (zg_178_J29 x0 s0 x2 M N h hK)
set_option maxRecDepth 20000 in
theorem zg_178 {Γ : jb_G} {L : Nat} {d : Nat} (x0 : Int32) (x1 : Int32) (x2 : Int32) (x3 : Int32) (M : jb_Mi) (N : jb_Ml) {v : Option Value} {σ2 : jb_S} {r : Int32} (h : zf_178 x0 x1 x2 x3 = r) (hK : (fun r : Int32 => v = some (.int r) ∧ σ2 = (zE L, M, N)) r) : jb_V Γ d zq_178 0 [some (.int x0), some (.int x1), some (.int x2), some (.int x3), none, none] [] (zE L, M, N) v σ2 := by
  unfold zf_178 at h
  refine jb_seg 4 (pc' := (if (x3 - x3 / 2 * 2) = 0 then 6 else 13)) (ls' := [some (.int x0), some (.int x1), some (.int x2), some (.int x3), none, none]) (st' := []) (σ' := (zE L, M, N)) (G := [¬ (2 : Int32) = 0]) rfl (show ¬ (2 : Int32) = 0 from (by decide)) ?_
  refine jb_ite (fun c => ?_) (fun c => ?_)
  · replace h := (if_pos c).symm.trans h
    refine jb_seg 4 (pc' := 14) (ls' := [some (.int x0), some (.int x1), some (.int x2), some (.int x3), none, none]) (st' := [(.int (8 - x1))]) (σ' := (zE L, M, N)) (G := []) rfl trivial ?_
    exact jb_mask [true, false, true, true, false, false] rfl (zg_178_J14 x0 x2 x3 (8 - x1) M N h hK)
  · replace h := (if_neg c).symm.trans h
    refine jb_seg 1 (pc' := 14) (ls' := [some (.int x0), some (.int x1), some (.int x2), some (.int x3), none, none]) (st' := [(.int x1)]) (σ' := (zE L, M, N)) (G := []) rfl trivial ?_
    exact jb_mask [true, false, true, true, false, false] rfl (zg_178_J14 x0 x2 x3 x1 M N h hK)
theorem ze_178 {Γ : jb_G} {L : Nat} {d : Nat} (x0 : Int32) (x1 : Int32) (x2 : Int32) (x3 : Int32) (M : jb_Mi) (N : jb_Ml) {r : Int32} (h : zf_178 x0 x1 x2 x3 = r) : jb_V Γ d zq_178 0 (jb_en 6 [(.int x0), (.int x1), (.int x2), (.int x3)]) [] (zE L, M, N) (some (.int r)) (zE L, M, N) := zg_178 x0 x1 x2 x3 M N h ⟨rfl, rfl⟩
-- X13_loadOf
set_option maxRecDepth 20000 in
theorem zg_179_J74 {Γ : jb_G} {L : Nat} {d : Nat} (hd : 1 ≤ d) (x1 : Int32) (x2 : Int32) (x3 : Int32) (x4 : Int32) (M : jb_Mi) (N : jb_Ml) {v : Option Value} {σ2 : jb_S} {r : ((Int32 × Int32) ⊕ (Int32))} (h : zf_179_J74 x1 x2 x3 x4 M = some r) (hK : (jb_K (fun s : Int32 × Int32 => jb_V Γ d zq_179 16 [some (.ref 79), some (.int x1), some (.int x2), some (.int s.1), some (.int s.2)] [] (zE L, M, N) v σ2) (fun r : Int32 => v = some (.int r) ∧ σ2 = (zE L, M, N))) r) : jb_V Γ d zq_179 74 [some (.ref 79), some (.int x1), some (.int x2), some (.int x3), some (.int x4)] [] (zE L, M, N) v σ2 := by
  obtain ⟨d, rfl⟩ : ∃ e, d = e + 1 := ⟨d - 1, by omega⟩
  unfold zf_179_J74 at h
  refine jb_seg 2 (pc' := 16) (ls' := [some (.ref 79), some (.int x1), some (.int x2), some (.int x3), some (.int (x4 + 1))]) (st' := []) (σ' := (zE L, M, N)) (G := []) rfl trivial ?_
  obtain rfl := Option.some.inj h
  exact jb_mask [true, true, true, true, true] rfl hK
set_option maxRecDepth 20000 in
theorem zg_179_H16 {Γ : jb_G} {L : Nat} {d : Nat} (hd : 1 ≤ d) (x1 : Int32) (x2 : Int32) (M : jb_Mi) (N : jb_Ml) (s : Int32 × Int32) {v : Option Value} {σ2 : jb_S} {r : ((Int32 × Int32) ⊕ (Int32))} (h : zf_179_H16 x1 x2 M s = some r) (hK : (jb_K (fun s : Int32 × Int32 => jb_V Γ d zq_179 16 [some (.ref 79), some (.int x1), some (.int x2), some (.int s.1), some (.int s.2)] [] (zE L, M, N) v σ2) (fun r : Int32 => v = some (.int r) ∧ σ2 = (zE L, M, N))) r) : jb_V Γ d zq_179 16 [some (.ref 79), some (.int x1), some (.int x2), some (.int s.1), some (.int s.2)] [] (zE L, M, N) v σ2 := by
  obtain ⟨d, rfl⟩ : ∃ e, d = e + 1 := ⟨d - 1, by omega⟩
  unfold zf_179_H16 at h
  refine jb_seg 3 (pc' := (if s.2 < 24 then 23 else 80)) (ls' := [some (.ref 79), some (.int x1), some (.int x2), some (.int s.1), some (.int s.2)]) (st' := []) (σ' := (zE L, M, N)) (G := []) rfl trivial ?_
  refine jb_ite (fun c => ?_) (fun c => ?_)
  · replace h := (if_pos c).symm.trans h
    obtain ⟨g2, h⟩ := jb_gd_of h
    refine jb_seg 8 (pc' := (if (M 80 ((18 + s.2)).toNatClampNeg) = x1 then 37 else 74)) (ls' := [some (.ref 79), some (.int x1), some (.int x2), some (.int s.1), some (.int s.2)]) (st' := []) (σ' := (zE L, M, N)) (G := [vp_in (18 + s.2) 149]) rfl g2 ?_
    refine jb_ite (fun c => ?_) (fun c => ?_)
    · replace h := (if_pos c).symm.trans h
      obtain ⟨g3, h⟩ := jb_gd_of h
      obtain ⟨g4, h⟩ := jb_gd_of h
      obtain ⟨g5, h⟩ := jb_gd_of h
      refine jb_seg 20 (pc' := 69) (ls' := [some (.ref 79), some (.int x1), some (.int x2), some (.int s.1), some (.int s.2)]) (st' := [(.int x2), (.int (M 80 ((66 + s.2)).toNatClampNeg)), (.int (M 80 ((42 + s.2)).toNatClampNeg)), (.int (M 80 ((90 + s.2)).toNatClampNeg)), (.int s.1)]) (σ' := (zE L, M, N)) (G := [vp_in (90 + s.2) 149, vp_in (42 + s.2) 149, vp_in (66 + s.2) 149]) rfl ⟨g3, g4, g5⟩ ?_
      refine jb_callS (q' := zq_178) (As := [(.int (M 80 ((90 + s.2)).toNatClampNeg)), (.int (M 80 ((42 + s.2)).toNatClampNeg)), (.int (M 80 ((66 + s.2)).toNatClampNeg)), (.int x2)]) (rest := [(.int s.1)]) (σ1 := (zE L, M, N)) (v := some (.int (zf_178 (M 80 ((90 + s.2)).toNatClampNeg) (M 80 ((42 + s.2)).toNatClampNeg) (M 80 ((66 + s.2)).toNatClampNeg) x2))) rfl (Nat.le_of_ble_eq_true rfl) rfl zp_178 (jb_cat rfl) (Nat.le_of_ble_eq_true rfl) (Nat.le_of_ble_eq_true rfl) (Or.inl rfl) rfl (ze_178 (M 80 ((90 + s.2)).toNatClampNeg) (M 80 ((42 + s.2)).toNatClampNeg) (M 80 ((66 + s.2)).toNatClampNeg) x2 M N rfl) ?_
      refine jb_seg 2 (pc' := 74) (ls' := [some (.ref 79), some (.int x1), some (.int x2), some (.int (s.1 + (zf_178 (M 80 ((90 + s.2)).toNatClampNeg) (M 80 ((42 + s.2)).toNatClampNeg) (M 80 ((66 + s.2)).toNatClampNeg) x2))), some (.int s.2)]) (st' := []) (σ' := (zE L, M, N)) (G := []) rfl trivial ?_
      exact jb_mask [true, true, true, true, true] rfl (zg_179_J74 hd x1 x2 (s.1 + (zf_178 (M 80 ((90 + s.2)).toNatClampNeg) (M 80 ((42 + s.2)).toNatClampNeg) (M 80 ((66 + s.2)).toNatClampNeg) x2)) s.2 M N h hK)
    · replace h := (if_neg c).symm.trans h
      exact jb_mask [true, true, true, true, true] rfl (zg_179_J74 hd x1 x2 s.1 s.2 M N h hK)
  · replace h := (if_neg c).symm.trans h
    refine jb_seg 1 (pc' := 81) (ls' := [some (.ref 79), some (.int x1), some (.int x2), some (.int s.1), some (.int s.2)]) (st' := [(.int s.1)]) (σ' := (zE L, M, N)) (G := []) rfl trivial ?_
    obtain rfl := Option.some.inj h
    obtain ⟨rfl, rfl⟩ := hK
    exact jb_reti rfl rfl
theorem zg_179_H16L {Γ : jb_G} {L : Nat} {d : Nat} (hd : 1 ≤ d) (x1 : Int32) (x2 : Int32) (M : jb_Mi) (N : jb_Ml) {v : Option Value} {σ2 : jb_S} {s : Int32 × Int32} {r : (Int32)} (h : jb_lp (zf_179_H16 x1 x2 M) s = some r) (hK : (fun r : Int32 => v = some (.int r) ∧ σ2 = (zE L, M, N)) r) : jb_V Γ d zq_179 16 [some (.ref 79), some (.int x1), some (.int x2), some (.int s.1), some (.int s.2)] [] (zE L, M, N) v σ2 := by
  exact @jb_lp_ind (Int32 × Int32) ((Int32)) (zf_179_H16 x1 x2 M) (fun s => jb_V Γ d zq_179 16 [some (.ref 79), some (.int x1), some (.int x2), some (.int s.1), some (.int s.2)] [] (zE L, M, N) v σ2) (fun r : Int32 => v = some (.int r) ∧ σ2 = (zE L, M, N)) (fun s r h hk => zg_179_H16 hd x1 x2 M N s h hk) s r h hK
set_option maxRecDepth 20000 in
theorem zg_179 {Γ : jb_G} {L : Nat} {d : Nat} (hd : 1 ≤ d) (x1 : Int32) (x2 : Int32) (M : jb_Mi) (N : jb_Ml) {v : Option Value} {σ2 : jb_S} {r : (Int32)} (h : zf_179 x1 x2 M = some r) (hK : (fun r : Int32 => v = some (.int r) ∧ σ2 = (zE L, M, N)) r) : jb_V Γ d zq_179 0 [some (.ref 79), some (.int x1), some (.int x2), none, none] [] (zE L, M, N) v σ2 := by
  obtain ⟨d, rfl⟩ : ∃ e, d = e + 1 := ⟨d - 1, by omega⟩
  unfold zf_179 at h
  obtain ⟨g1, h⟩ := jb_gd_of h
  refine jb_seg 11 (pc' := 16) (ls' := [some (.ref 79), some (.int x1), some (.int x2), some (.int (640 * (M 80 ((0 + x1)).toNatClampNeg))), some (.int 0)]) (st' := []) (σ' := (zE L, M, N)) (G := [vp_in (0 + x1) 149]) rfl g1 ?_
  exact jb_mask [true, true, true, true, true] rfl (zg_179_H16L hd x1 x2 M N h hK)
theorem ze_179 {Γ : jb_G} {L : Nat} {d : Nat} (hd : 1 ≤ d) (x1 : Int32) (x2 : Int32) (M : jb_Mi) (N : jb_Ml) {r : (Int32)} (h : zf_179 x1 x2 M = some r) : jb_V Γ d zq_179 0 (jb_en 5 [(.ref 79), (.int x1), (.int x2)]) [] (zE L, M, N) (some (.int r)) (zE L, M, N) := zg_179 hd x1 x2 M N h ⟨rfl, rfl⟩
-- X13_load
set_option maxRecDepth 20000 in
theorem zg_180 {Γ : jb_G} {L : Nat} {d : Nat} (hd : 2 ≤ d) (x1 : Int32) (x2 : Int32) (M : jb_Mi) (N : jb_Ml) {v : Option Value} {σ2 : jb_S} {r : (Int32)} (h : zf_180 x1 x2 M = some r) (hK : (fun r : Int32 => v = some (.int r) ∧ σ2 = (zE L, M, N)) r) : jb_V Γ d zq_180 0 [some (.ref 79), some (.int x1), some (.int x2)] [] (zE L, M, N) v σ2 := by
  obtain ⟨d, rfl⟩ : ∃ e, d = e + 1 := ⟨d - 1, by omega⟩
  unfold zf_180 at h
  refine jb_seg 2 (pc' := 2) (ls' := [some (.ref 79), some (.int x1), some (.int x2)]) (st' := [(.int x1), (.ref 79)]) (σ' := (zE L, M, N)) (G := []) rfl trivial ?_
  obtain ⟨q1, h1, h⟩ := jb_bd_of h
  refine jb_callV (q' := zq_171) (As := [(.int x1)]) (rest := []) (σ1 := (zE L, M, N)) (v := some (.int (jb_b2i q1))) rfl rfl zp_171 rfl (Nat.le_of_ble_eq_true rfl) (jb_cat rfl) (Nat.le_of_ble_eq_true rfl) (Nat.le_of_ble_eq_true rfl) (Or.inl rfl) rfl (ze_171 (by omega) x1 M N h1) ?_
  refine jb_seg 1 (pc' := (if (jb_b2i q1) = 0 then 26 else 8)) (ls' := [some (.ref 79), some (.int x1), some (.int x2)]) (st' := []) (σ' := (zE L, M, N)) (G := []) rfl trivial ?_
  refine jb_ite (fun c => ?_) (fun c => ?_)
  · replace h := (if_pos c).symm.trans h
    refine jb_seg 1 (pc' := 27) (ls' := [some (.ref 79), some (.int x1), some (.int x2)]) (st' := [(.int (-1))]) (σ' := (zE L, M, N)) (G := []) rfl trivial ?_
    obtain rfl := Option.some.inj h
    obtain ⟨rfl, rfl⟩ := hK
    exact jb_reti rfl rfl
  · replace h := (if_neg c).symm.trans h
    refine jb_seg 3 (pc' := 11) (ls' := [some (.ref 79), some (.int x1), some (.int x2)]) (st' := [(.int 3), (.int 0), (.int x2)]) (σ' := (zE L, M, N)) (G := []) rfl trivial ?_
    refine jb_callS (q' := zq_164) (As := [(.int x2), (.int 0), (.int 3)]) (rest := []) (σ1 := (zE L, M, N)) (v := some (.int (jb_b2i (zf_164 x2 0 3)))) rfl (Nat.le_of_ble_eq_true rfl) rfl zp_164 (jb_cat rfl) (Nat.le_of_ble_eq_true rfl) (Nat.le_of_ble_eq_true rfl) (Or.inl rfl) rfl (ze_164 x2 0 3 M N rfl) ?_
    refine jb_seg 1 (pc' := (if (jb_b2i (zf_164 x2 0 3)) = 0 then 26 else 17)) (ls' := [some (.ref 79), some (.int x1), some (.int x2)]) (st' := []) (σ' := (zE L, M, N)) (G := []) rfl trivial ?_
    refine jb_ite (fun c => ?_) (fun c => ?_)
    · replace h := (if_pos c).symm.trans h
      refine jb_seg 1 (pc' := 27) (ls' := [some (.ref 79), some (.int x1), some (.int x2)]) (st' := [(.int (-1))]) (σ' := (zE L, M, N)) (G := []) rfl trivial ?_
      obtain rfl := Option.some.inj h
      obtain ⟨rfl, rfl⟩ := hK
      exact jb_reti rfl rfl
    · replace h := (if_neg c).symm.trans h
      refine jb_seg 3 (pc' := 20) (ls' := [some (.ref 79), some (.int x1), some (.int x2)]) (st' := [(.int x2), (.int x1), (.ref 79)]) (σ' := (zE L, M, N)) (G := []) rfl trivial ?_
      obtain ⟨q2, h2, h⟩ := jb_bd_of h
      refine jb_callV (q' := zq_179) (As := [(.int x1), (.int x2)]) (rest := []) (σ1 := (zE L, M, N)) (v := some (.int q2)) rfl rfl zp_179 rfl (Nat.le_of_ble_eq_true rfl) (jb_cat rfl) (Nat.le_of_ble_eq_true rfl) (Nat.le_of_ble_eq_true rfl) (Or.inl rfl) rfl (ze_179 (by omega) x1 x2 M N h2) ?_
      refine jb_seg 1 (pc' := 27) (ls' := [some (.ref 79), some (.int x1), some (.int x2)]) (st' := [(.int q2)]) (σ' := (zE L, M, N)) (G := []) rfl trivial ?_
      obtain rfl := Option.some.inj h
      obtain ⟨rfl, rfl⟩ := hK
      exact jb_reti rfl rfl
theorem ze_180 {Γ : jb_G} {L : Nat} {d : Nat} (hd : 2 ≤ d) (x1 : Int32) (x2 : Int32) (M : jb_Mi) (N : jb_Ml) {r : (Int32)} (h : zf_180 x1 x2 M = some r) : jb_V Γ d zq_180 0 (jb_en 3 [(.ref 79), (.int x1), (.int x2)]) [] (zE L, M, N) (some (.int r)) (zE L, M, N) := zg_180 hd x1 x2 M N h ⟨rfl, rfl⟩
-- X13_types
set_option maxRecDepth 20000 in
theorem zg_181_H2 {Γ : jb_G} {L : Nat} {d : Nat} (x1 : Int32) (N : jb_Ml) (s : Int32 × jb_Mi) {v : Option Value} {σ2 : jb_S} {r : ((Int32 × jb_Mi) ⊕ (jb_Mi))} (h : zf_181_H2 x1 s = some r) (hK : (jb_K (fun s : Int32 × jb_Mi => jb_V Γ d zq_181 2 [some (.ref 79), some (.int x1), some (.int s.1)] [] (zE L, s.2, N) v σ2) (fun r : jb_Mi => v = none ∧ σ2 = (zE L, r, N))) r) : jb_V Γ d zq_181 2 [some (.ref 79), some (.int x1), some (.int s.1)] [] (zE L, s.2, N) v σ2 := by
  unfold zf_181_H2 at h
  refine jb_seg 2 (pc' := (if s.1 < 0 then 38 else 6)) (ls' := [some (.ref 79), some (.int x1), some (.int s.1)]) (st' := []) (σ' := (zE L, s.2, N)) (G := []) rfl trivial ?_
  refine jb_ite (fun c => ?_) (fun c => ?_)
  · replace h := (if_pos c).symm.trans h
    obtain rfl := Option.some.inj h
    obtain ⟨rfl, rfl⟩ := hK
    exact jb_retv rfl rfl
  · replace h := (if_neg c).symm.trans h
    obtain ⟨g1, h⟩ := jb_gd_of h
    refine jb_seg 19 (pc' := 2) (ls' := [some (.ref 79), some (.int x1), some (.int (s.1 + (-1)))]) (st' := []) (σ' := (zE L, (jb_up (jb_up s.2 83 ((s.2 79 4)).toNatClampNeg (((x1 >>> ((8 * s.1) &&& 31)) : Int32).toInt8.toInt32 : Int32).toInt8.toInt32) 79 4 (((jb_up s.2 83 ((s.2 79 4)).toNatClampNeg (((x1 >>> ((8 * s.1) &&& 31)) : Int32).toInt8.toInt32 : Int32).toInt8.toInt32) 79 4) + 1)), N)) (G := [vp_in (s.2 79 4) 260]) rfl g1 ?_
    obtain rfl := Option.some.inj h
    exact jb_mask [true, true, true] rfl hK
theorem zg_181_H2L {Γ : jb_G} {L : Nat} {d : Nat} (x1 : Int32) (N : jb_Ml) {v : Option Value} {σ2 : jb_S} {s : Int32 × jb_Mi} {r : (jb_Mi)} (h : jb_lp (zf_181_H2 x1) s = some r) (hK : (fun r : jb_Mi => v = none ∧ σ2 = (zE L, r, N)) r) : jb_V Γ d zq_181 2 [some (.ref 79), some (.int x1), some (.int s.1)] [] (zE L, s.2, N) v σ2 := by
  exact @jb_lp_ind (Int32 × jb_Mi) ((jb_Mi)) (zf_181_H2 x1) (fun s => jb_V Γ d zq_181 2 [some (.ref 79), some (.int x1), some (.int s.1)] [] (zE L, s.2, N) v σ2) (fun r : jb_Mi => v = none ∧ σ2 = (zE L, r, N)) (fun s r h hk => zg_181_H2 x1 N s h hk) s r h hK
set_option maxRecDepth 20000 in
theorem zg_181 {Γ : jb_G} {L : Nat} {d : Nat} (x1 : Int32) (M : jb_Mi) (N : jb_Ml) {v : Option Value} {σ2 : jb_S} {r : (jb_Mi)} (h : zf_181 x1 M = some r) (hK : (fun r : jb_Mi => v = none ∧ σ2 = (zE L, r, N)) r) : jb_V Γ d zq_181 0 [some (.ref 79), some (.int x1), none] [] (zE L, M, N) v σ2 := by
  unfold zf_181 at h
  refine jb_seg 2 (pc' := 2) (ls' := [some (.ref 79), some (.int x1), some (.int 3)]) (st' := []) (σ' := (zE L, M, N)) (G := []) rfl trivial ?_
  exact jb_mask [true, true, true] rfl (zg_181_H2L x1 N h hK)
theorem ze_181 {Γ : jb_G} {L : Nat} {d : Nat} (x1 : Int32) (M : jb_Mi) (N : jb_Ml) {r : (jb_Mi)} (h : zf_181 x1 M = some r) : jb_V Γ d zq_181 0 (jb_en 3 [(.ref 79), (.int x1)]) [] (zE L, M, N) (none) (zE L, r, N) := zg_181 x1 M N h ⟨rfl, rfl⟩
-- X13_feed
set_option maxRecDepth 20000 in
theorem zg_182 {Γ : jb_G} {L : Nat} {d : Nat} (hd : 1 ≤ d) (x1 : Int32) (x2 : Int32) (x3 : Int32) (x4 : Int32) (x5 : Int32) (M : jb_Mi) (N : jb_Ml) {v : Option Value} {σ2 : jb_S} {r : (Int32 × jb_Mi)} (h : zf_182 x1 x2 x3 x4 x5 M = some r) (hK : (fun r : Int32 × jb_Mi => v = some (.int r.1) ∧ σ2 = (zE L, r.2, N)) r) : jb_V Γ d zq_182 0 [some (.ref 79), some (.int x1), some (.int x2), some (.int x3), some (.int x4), some (.int x5)] [] (zE L, M, N) v σ2 := by
  obtain ⟨d, rfl⟩ : ∃ e, d = e + 1 := ⟨d - 1, by omega⟩
  unfold zf_182 at h
  refine jb_seg 6 (pc' := (if 260 < ((M 79 4) + 20) then 13 else 15)) (ls' := [some (.ref 79), some (.int x1), some (.int x2), some (.int x3), some (.int x4), some (.int x5)]) (st' := []) (σ' := (zE L, M, N)) (G := []) rfl trivial ?_
  refine jb_ite (fun c => ?_) (fun c => ?_)
  · replace h := (if_pos c).symm.trans h
    refine jb_seg 1 (pc' := 14) (ls' := [some (.ref 79), some (.int x1), some (.int x2), some (.int x3), some (.int x4), some (.int x5)]) (st' := [(.int (-1))]) (σ' := (zE L, M, N)) (G := []) rfl trivial ?_
    obtain rfl := Option.some.inj h
    obtain ⟨rfl, rfl⟩ := hK
    exact jb_reti rfl rfl
  · replace h := (if_neg c).symm.trans h
    refine jb_seg 2 (pc' := 17) (ls' := [some (.ref 79), some (.int x1), some (.int x2), some (.int x3), some (.int x4), some (.int x5)]) (st' := [(.int x1), (.ref 79)]) (σ' := (zE L, M, N)) (G := []) rfl trivial ?_
    obtain ⟨q1, h1, h⟩ := jb_bd_of h
    refine jb_callV (q' := zq_181) (As := [(.int x1)]) (rest := []) (σ1 := (zE L, q1, N)) (v := none) rfl rfl zp_181 rfl (Nat.le_of_ble_eq_true rfl) (jb_cat rfl) (Nat.le_of_ble_eq_true rfl) (Nat.le_of_ble_eq_true rfl) (Or.inl rfl) rfl (ze_181 x1 M N h1) ?_
    refine jb_seg 2 (pc' := 22) (ls' := [some (.ref 79), some (.int x1), some (.int x2), some (.int x3), some (.int x4), some (.int x5)]) (st' := [(.int x2), (.ref 79)]) (σ' := (zE L, q1, N)) (G := []) rfl trivial ?_
    obtain ⟨q2, h2, h⟩ := jb_bd_of h
    refine jb_callV (q' := zq_181) (As := [(.int x2)]) (rest := []) (σ1 := (zE L, q2, N)) (v := none) rfl rfl zp_181 rfl (Nat.le_of_ble_eq_true rfl) (jb_cat rfl) (Nat.le_of_ble_eq_true rfl) (Nat.le_of_ble_eq_true rfl) (Or.inl rfl) rfl (ze_181 x2 q1 N h2) ?_
    refine jb_seg 2 (pc' := 27) (ls' := [some (.ref 79), some (.int x1), some (.int x2), some (.int x3), some (.int x4), some (.int x5)]) (st' := [(.int x3), (.ref 79)]) (σ' := (zE L, q2, N)) (G := []) rfl trivial ?_
    obtain ⟨q3, h3, h⟩ := jb_bd_of h
    refine jb_callV (q' := zq_181) (As := [(.int x3)]) (rest := []) (σ1 := (zE L, q3, N)) (v := none) rfl rfl zp_181 rfl (Nat.le_of_ble_eq_true rfl) (jb_cat rfl) (Nat.le_of_ble_eq_true rfl) (Nat.le_of_ble_eq_true rfl) (Or.inl rfl) rfl (ze_181 x3 q2 N h3) ?_
    refine jb_seg 2 (pc' := 33) (ls' := [some (.ref 79), some (.int x1), some (.int x2), some (.int x3), some (.int x4), some (.int x5)]) (st' := [(.int x4), (.ref 79)]) (σ' := (zE L, q3, N)) (G := []) rfl trivial ?_
    obtain ⟨q4, h4, h⟩ := jb_bd_of h
    refine jb_callV (q' := zq_181) (As := [(.int x4)]) (rest := []) (σ1 := (zE L, q4, N)) (v := none) rfl rfl zp_181 rfl (Nat.le_of_ble_eq_true rfl) (jb_cat rfl) (Nat.le_of_ble_eq_true rfl) (Nat.le_of_ble_eq_true rfl) (Or.inl rfl) rfl (ze_181 x4 q3 N h4) ?_
    refine jb_seg 2 (pc' := 39) (ls' := [some (.ref 79), some (.int x1), some (.int x2), some (.int x3), some (.int x4), some (.int x5)]) (st' := [(.int x5), (.ref 79)]) (σ' := (zE L, q4, N)) (G := []) rfl trivial ?_
    obtain ⟨q5, h5, h⟩ := jb_bd_of h
    refine jb_callV (q' := zq_181) (As := [(.int x5)]) (rest := []) (σ1 := (zE L, q5, N)) (v := none) rfl rfl zp_181 rfl (Nat.le_of_ble_eq_true rfl) (jb_cat rfl) (Nat.le_of_ble_eq_true rfl) (Nat.le_of_ble_eq_true rfl) (Or.inl rfl) rfl (ze_181 x5 q4 N h5) ?_
    refine jb_seg 2 (pc' := 46) (ls' := [some (.ref 79), some (.int x1), some (.int x2), some (.int x3), some (.int x4), some (.int x5)]) (st' := [(.int (q5 79 4))]) (σ' := (zE L, q5, N)) (G := []) rfl trivial ?_
    obtain rfl := Option.some.inj h
    obtain ⟨rfl, rfl⟩ := hK
    exact jb_reti rfl rfl
theorem ze_182 {Γ : jb_G} {L : Nat} {d : Nat} (hd : 1 ≤ d) (x1 : Int32) (x2 : Int32) (x3 : Int32) (x4 : Int32) (x5 : Int32) (M : jb_Mi) (N : jb_Ml) {r : (Int32 × jb_Mi)} (h : zf_182 x1 x2 x3 x4 x5 M = some r) : jb_V Γ d zq_182 0 (jb_en 6 [(.ref 79), (.int x1), (.int x2), (.int x3), (.int x4), (.int x5)]) [] (zE L, M, N) (some (.int r.1)) (zE L, r.2, N) := zg_182 hd x1 x2 x3 x4 x5 M N h ⟨rfl, rfl⟩
-- X13_octet
set_option maxRecDepth 20000 in
theorem zg_183 {Γ : jb_G} {L : Nat} {d : Nat} (x1 : Int32) (M : jb_Mi) (N : jb_Ml) {v : Option Value} {σ2 : jb_S} {r : (Int32)} (h : zf_183 x1 M = some r) (hK : (fun r : Int32 => v = some (.int r) ∧ σ2 = (zE L, M, N)) r) : jb_V Γ d zq_183 0 [some (.ref 79), some (.int x1)] [] (zE L, M, N) v σ2 := by
  unfold zf_183 at h
  obtain ⟨g1, h⟩ := jb_gd_of h
  refine jb_seg 6 (pc' := 10) (ls' := [some (.ref 79), some (.int x1)]) (st' := [(.int ((M 83 x1.toNatClampNeg) &&& 255))]) (σ' := (zE L, M, N)) (G := [vp_in x1 260]) rfl g1 ?_
  obtain rfl := Option.some.inj h
  obtain ⟨rfl, rfl⟩ := hK
  exact jb_reti rfl rfl
theorem ze_183 {Γ : jb_G} {L : Nat} {d : Nat} (x1 : Int32) (M : jb_Mi) (N : jb_Ml) {r : (Int32)} (h : zf_183 x1 M = some r) : jb_V Γ d zq_183 0 (jb_en 2 [(.ref 79), (.int x1)]) [] (zE L, M, N) (some (.int r)) (zE L, M, N) := zg_183 x1 M N h ⟨rfl, rfl⟩
-- X13_here
set_option maxRecDepth 20000 in
theorem zg_184 {Γ : jb_G} {L : Nat} {d : Nat} (M : jb_Mi) (N : jb_Ml) {v : Option Value} {σ2 : jb_S} {r : (Int32)} (h : zf_184 M = some r) (hK : (fun r : Int32 => v = some (.int r) ∧ σ2 = (zE L, M, N)) r) : jb_V Γ d zq_184 0 [some (.ref 79)] [] (zE L, M, N) v σ2 := by
  unfold zf_184 at h
  refine jb_seg 5 (pc' := (if (M 79 5) < (M 79 6) then 11 else 27)) (ls' := [some (.ref 79)]) (st' := []) (σ' := (zE L, M, N)) (G := []) rfl trivial ?_
  refine jb_ite (fun c => ?_) (fun c => ?_)
  · replace h := (if_pos c).symm.trans h
    obtain ⟨g1, h⟩ := jb_gd_of h
    refine jb_seg 8 (pc' := 28) (ls' := [some (.ref 79)]) (st' := [(.int ((M 83 ((M 79 5)).toNatClampNeg) &&& 255))]) (σ' := (zE L, M, N)) (G := [vp_in (M 79 5) 260]) rfl g1 ?_
    obtain rfl := Option.some.inj h
    obtain ⟨rfl, rfl⟩ := hK
    exact jb_reti rfl rfl
  · replace h := (if_neg c).symm.trans h
    refine jb_seg 1 (pc' := 28) (ls' := [some (.ref 79)]) (st' := [(.int (-1))]) (σ' := (zE L, M, N)) (G := []) rfl trivial ?_
    obtain rfl := Option.some.inj h
    obtain ⟨rfl, rfl⟩ := hK
    exact jb_reti rfl rfl
theorem ze_184 {Γ : jb_G} {L : Nat} {d : Nat} (M : jb_Mi) (N : jb_Ml) {r : (Int32)} (h : zf_184 M = some r) : jb_V Γ d zq_184 0 (jb_en 1 [(.ref 79)]) [] (zE L, M, N) (some (.int r)) (zE L, M, N) := zg_184 M N h ⟨rfl, rfl⟩
-- X13_isDigit
set_option maxRecDepth 20000 in
theorem zg_185 {Γ : jb_G} {L : Nat} {d : Nat} (hd : 1 ≤ d) (M : jb_Mi) (N : jb_Ml) {v : Option Value} {σ2 : jb_S} {r : (Bool)} (h : zf_185 M = some r) (hK : (fun r : Bool => v = some (.int (jb_b2i r)) ∧ σ2 = (zE L, M, N)) r) : jb_V Γ d zq_185 0 [some (.ref 79)] [] (zE L, M, N) v σ2 := by
  obtain ⟨d, rfl⟩ : ∃ e, d = e + 1 := ⟨d - 1, by omega⟩
  unfold zf_185 at h
  refine jb_seg 1 (pc' := 1) (ls' := [some (.ref 79)]) (st' := [(.ref 79)]) (σ' := (zE L, M, N)) (G := []) rfl trivial ?_
  obtain ⟨q1, h1, h⟩ := jb_bd_of h
  refine jb_callV (q' := zq_184) (As := []) (rest := []) (σ1 := (zE L, M, N)) (v := some (.int q1)) rfl rfl zp_184 rfl (Nat.le_of_ble_eq_true rfl) (jb_cat rfl) (Nat.le_of_ble_eq_true rfl) (Nat.le_of_ble_eq_true rfl) (Or.inl rfl) rfl (ze_184 M N h1) ?_
  refine jb_seg 2 (pc' := (if q1 < 48 then 22 else 9)) (ls' := [some (.ref 79)]) (st' := []) (σ' := (zE L, M, N)) (G := []) rfl trivial ?_
  refine jb_ite (fun c => ?_) (fun c => ?_)
  · replace h := (if_pos c).symm.trans h
    refine jb_seg 1 (pc' := 23) (ls' := [some (.ref 79)]) (st' := [(.int 0)]) (σ' := (zE L, M, N)) (G := []) rfl trivial ?_
    obtain rfl := Option.some.inj h
    obtain ⟨rfl, rfl⟩ := hK
    exact jb_retz (by decide) rfl rfl
  · replace h := (if_neg c).symm.trans h
    refine jb_seg 1 (pc' := 10) (ls' := [some (.ref 79)]) (st' := [(.ref 79)]) (σ' := (zE L, M, N)) (G := []) rfl trivial ?_
    obtain ⟨q2, h2, h⟩ := jb_bd_of h
    refine jb_callV (q' := zq_184) (As := []) (rest := []) (σ1 := (zE L, M, N)) (v := some (.int q2)) rfl rfl zp_184 rfl (Nat.le_of_ble_eq_true rfl) (jb_cat rfl) (Nat.le_of_ble_eq_true rfl) (Nat.le_of_ble_eq_true rfl) (Or.inl rfl) rfl (ze_184 M N h2) ?_
    refine jb_seg 2 (pc' := (if 57 < q2 then 22 else 18)) (ls' := [some (.ref 79)]) (st' := []) (σ' := (zE L, M, N)) (G := []) rfl trivial ?_
    refine jb_ite (fun c => ?_) (fun c => ?_)
    · replace h := (if_pos c).symm.trans h
      refine jb_seg 1 (pc' := 23) (ls' := [some (.ref 79)]) (st' := [(.int 0)]) (σ' := (zE L, M, N)) (G := []) rfl trivial ?_
      obtain rfl := Option.some.inj h
      obtain ⟨rfl, rfl⟩ := hK
      exact jb_retz (by decide) rfl rfl
    · replace h := (if_neg c).symm.trans h
      refine jb_seg 2 (pc' := 23) (ls' := [some (.ref 79)]) (st' := [(.int 1)]) (σ' := (zE L, M, N)) (G := []) rfl trivial ?_
      obtain rfl := Option.some.inj h
      obtain ⟨rfl, rfl⟩ := hK
      exact jb_retz (by decide) rfl rfl
theorem ze_185 {Γ : jb_G} {L : Nat} {d : Nat} (hd : 1 ≤ d) (M : jb_Mi) (N : jb_Ml) {r : (Bool)} (h : zf_185 M = some r) : jb_V Γ d zq_185 0 (jb_en 1 [(.ref 79)]) [] (zE L, M, N) (some (.int (jb_b2i r))) (zE L, M, N) := zg_185 hd M N h ⟨rfl, rfl⟩
