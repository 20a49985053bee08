-- X13_isFelt
set_option maxRecDepth 20000 in
theorem zg_247_H3 {Γ : jb_G} {L : Nat} {d : Nat} (hd : 1 ≤ d) (x1 : Int32) (x2 : Int32) (x3 : Int32) (x4 : Int32) (M : jb_Mi) (N : jb_Ml) (s : Int32) {v : Option Value} {σ2 : jb_S} {r : ((Int32) ⊕ (Bool))} (h : zf_247_H3 x1 x2 x3 x4 N s = some r) (hK : (jb_K (fun s : Int32 => jb_V Γ d zq_247 3 [some (.ref 79), some (.int x1), some (.int x2), some (.int x3), some (.int x4), some (.int s), none] [] (zE L, M, N) v σ2) (fun r : Bool => v = some (.int (jb_b2i r)) ∧ σ2 = (zE L, M, N))) r) : jb_V Γ d zq_247 3 [some (.ref 79), some (.int x1), some (.int x2), some (.int x3), some (.int x4), some (.int s), none] [] (zE L, M, N) v σ2 := by
  obtain ⟨d, rfl⟩ : ∃ e, d = e + 1 := ⟨d - 1, by omega⟩
  unfold zf_247_H3 at h
  refine jb_seg 3 (pc' := (if s < 4 then 9 else 64)) (ls' := [some (.ref 79), some (.int x1), some (.int x2), some (.int x3), some (.int x4), some (.int s), none]) (st' := []) (σ' := (zE L, M, N)) (G := []) rfl trivial ?_
  refine jb_ite (fun c => ?_) (fun c => ?_)
  · replace h := (if_pos c).symm.trans h
    refine jb_seg 8 (pc' := 20) (ls' := [some (.ref 79), some (.int x1), some (.int x2), some (.int x3), some (.int x4), some (.int s), none]) (st' := [(.int s), (.int (x2 / 9)), (.int (x2 - x2 / 9 * 9)), (.int x1)]) (σ' := (zE L, M, N)) (G := [¬ (9 : Int32) = 0, ¬ (9 : Int32) = 0]) rfl ⟨(show ¬ (9 : Int32) = 0 from (by decide)), (show ¬ (9 : Int32) = 0 from (by decide))⟩ ?_
    refine jb_callS (q' := zq_178) (As := [(.int x1), (.int (x2 - x2 / 9 * 9)), (.int (x2 / 9)), (.int s)]) (rest := []) (σ1 := (zE L, M, N)) (v := some (.int (zf_178 x1 (x2 - x2 / 9 * 9) (x2 / 9) s))) rfl (Nat.le_of_ble_eq_true rfl) rfl zp_178 (jb_cat rfl) (Nat.le_of_ble_eq_true rfl) (Nat.le_of_ble_eq_true rfl) (Or.inl rfl) rfl (ze_178 x1 (x2 - x2 / 9 * 9) (x2 / 9) s M N rfl) ?_
    refine jb_seg 8 (pc' := 36) (ls' := [some (.ref 79), some (.int x1), some (.int x2), some (.int x3), some (.int x4), some (.int s), none]) (st' := [(.int s), (.int (x4 / 9)), (.int (x4 - x4 / 9 * 9)), (.int x3), (.int (zf_178 x1 (x2 - x2 / 9 * 9) (x2 / 9) s))]) (σ' := (zE L, M, N)) (G := [¬ (9 : Int32) = 0, ¬ (9 : Int32) = 0]) rfl ⟨(show ¬ (9 : Int32) = 0 from (by decide)), (show ¬ (9 : Int32) = 0 from (by decide))⟩ ?_
    refine jb_callS (q' := zq_178) (As := [(.int x3), (.int (x4 - x4 / 9 * 9)), (.int (x4 / 9)), (.int s)]) (rest := [(.int (zf_178 x1 (x2 - x2 / 9 * 9) (x2 / 9) s))]) (σ1 := (zE L, M, N)) (v := some (.int (zf_178 x3 (x4 - x4 / 9 * 9) (x4 / 9) s))) rfl (Nat.le_of_ble_eq_true rfl) rfl zp_178 (jb_cat rfl) (Nat.le_of_ble_eq_true rfl) (Nat.le_of_ble_eq_true rfl) (Or.inl rfl) rfl (ze_178 x3 (x4 - x4 / 9 * 9) (x4 / 9) s M N rfl) ?_
    obtain ⟨g1, h⟩ := jb_gd_of h
    refine jb_seg 10 (pc' := (if (lg_cmp (((zf_178 x1 (x2 - x2 / 9 * 9) (x2 / 9) s) + (zf_178 x3 (x4 - x4 / 9 * 9) (x4 / 9) s)) : Int32).toInt64 (N 108 s.toNatClampNeg)) = 0 then 58 else 56)) (ls' := [some (.ref 79), some (.int x1), some (.int x2), some (.int x3), some (.int x4), some (.int s), some (.int ((zf_178 x1 (x2 - x2 / 9 * 9) (x2 / 9) s) + (zf_178 x3 (x4 - x4 / 9 * 9) (x4 / 9) s)))]) (st' := []) (σ' := (zE L, M, N)) (G := [vp_in s 4]) rfl g1 ?_
    refine jb_ite (fun c => ?_) (fun c => ?_)
    · replace h := (if_pos c).symm.trans h
      refine jb_seg 2 (pc' := 3) (ls' := [some (.ref 79), some (.int x1), some (.int x2), some (.int x3), some (.int x4), some (.int (s + 1)), some (.int ((zf_178 x1 (x2 - x2 / 9 * 9) (x2 / 9) s) + (zf_178 x3 (x4 - x4 / 9 * 9) (x4 / 9) s)))]) (st' := []) (σ' := (zE L, M, N)) (G := []) rfl trivial ?_
      obtain rfl := Option.some.inj h
      exact jb_mask [true, true, true, true, true, true, false] rfl hK
    · replace h := (if_neg c).symm.trans h
      refine jb_seg 1 (pc' := 57) (ls' := [some (.ref 79), some (.int x1), some (.int x2), some (.int x3), some (.int x4), some (.int s), some (.int ((zf_178 x1 (x2 - x2 / 9 * 9) (x2 / 9) s) + (zf_178 x3 (x4 - x4 / 9 * 9) (x4 / 9) s)))]) (st' := [(.int 0)]) (σ' := (zE L, M, N)) (G := []) rfl trivial ?_
      obtain rfl := Option.some.inj h
      obtain ⟨rfl, rfl⟩ := hK
      exact jb_retz (by decide) rfl rfl
  · replace h := (if_neg c).symm.trans h
    refine jb_seg 1 (pc' := 65) (ls' := [some (.ref 79), some (.int x1), some (.int x2), some (.int x3), some (.int x4), some (.int s), none]) (st' := [(.int 1)]) (σ' := (zE L, M, N)) (G := []) rfl trivial ?_
    obtain rfl := Option.some.inj h
    obtain ⟨rfl, rfl⟩ := hK
    exact jb_retz (by decide) rfl rfl
theorem zg_247_H3L {Γ : jb_G} {L : Nat} {d : Nat} (hd : 1 ≤ d) (x1 : Int32) (x2 : Int32) (x3 : Int32) (x4 : Int32) (M : jb_Mi) (N : jb_Ml) {v : Option Value} {σ2 : jb_S} {s : Int32} {r : (Bool)} (h : jb_lp (zf_247_H3 x1 x2 x3 x4 N) s = some r) (hK : (fun r : Bool => v = some (.int (jb_b2i r)) ∧ σ2 = (zE L, M, N)) r) : jb_V Γ d zq_247 3 [some (.ref 79), some (.int x1), some (.int x2), some (.int x3), some (.int x4), some (.int s), none] [] (zE L, M, N) v σ2 := by
  exact @jb_lp_ind (Int32) ((Bool)) (zf_247_H3 x1 x2 x3 x4 N) (fun s => jb_V Γ d zq_247 3 [some (.ref 79), some (.int x1), some (.int x2), some (.int x3), some (.int x4), some (.int s), none] [] (zE L, M, N) v σ2) (fun r : Bool => v = some (.int (jb_b2i r)) ∧ σ2 = (zE L, M, N)) (fun s r h hk => zg_247_H3 hd x1 x2 x3 x4 M N s h hk) s r h hK
set_option maxRecDepth 20000 in
theorem zg_247 {Γ : jb_G} {L : Nat} {d : Nat} (hd : 1 ≤ d) (x1 : Int32) (x2 : Int32) (x3 : Int32) (x4 : Int32) (M : jb_Mi) (N : jb_Ml) {v : Option Value} {σ2 : jb_S} {r : (Bool)} (h : zf_247 x1 x2 x3 x4 N = some r) (hK : (fun r : Bool => v = some (.int (jb_b2i r)) ∧ σ2 = (zE L, M, N)) r) : jb_V Γ d zq_247 0 [some (.ref 79), some (.int x1), some (.int x2), some (.int x3), some (.int x4), none, none] [] (zE L, M, N) v σ2 := by
  obtain ⟨d, rfl⟩ : ∃ e, d = e + 1 := ⟨d - 1, by omega⟩
  unfold zf_247 at h
  refine jb_seg 2 (pc' := 3) (ls' := [some (.ref 79), some (.int x1), some (.int x2), some (.int x3), some (.int x4), some (.int 0), none]) (st' := []) (σ' := (zE L, M, N)) (G := []) rfl trivial ?_
  exact jb_mask [true, true, true, true, true, true, false] rfl (zg_247_H3L hd x1 x2 x3 x4 M N h hK)
theorem ze_247 {Γ : jb_G} {L : Nat} {d : Nat} (hd : 1 ≤ d) (x1 : Int32) (x2 : Int32) (x3 : Int32) (x4 : Int32) (M : jb_Mi) (N : jb_Ml) {r : (Bool)} (h : zf_247 x1 x2 x3 x4 N = some r) : jb_V Γ d zq_247 0 (jb_en 7 [(.ref 79), (.int x1), (.int x2), (.int x3), (.int x4)]) [] (zE L, M, N) (some (.int (jb_b2i r))) (zE L, M, N) := zg_247 hd x1 x2 x3 x4 M N h ⟨rfl, rfl⟩
-- X13_feltIn
set_option maxRecDepth 20000 in
theorem zg_248_J65 {Γ : jb_G} {L : Nat} {d : Nat} (hd : 3 ≤ d) (x2 : Int32) (x3 : Int32) (x4 : Int32) (x5 : Int32) (x6 : Int32) (x7 : Int32) (x8 : Int32) (x9 : Int32) (M : jb_Mi) (N : jb_Ml) {v : Option Value} {σ2 : jb_S} {r : ((Int32 × Int32 × Int32) ⊕ ((Int32 × Int32 × Int32) ⊕ (Int32 × jb_Ml)))} (h : zf_248_J65 x2 x3 x4 x5 x6 x7 x8 x9 M N = some r) (hK : (jb_K (fun s : Int32 × Int32 × Int32 => jb_V Γ d zq_248 25 [some (.ref 79), none, some (.int x2), some (.int x3), some (.int x4), some (.int x5), some (.int s.1), some (.int s.2.1), some (.int x8), some (.int s.2.2)] [] (zE L, M, N) v σ2) (jb_K (fun s : Int32 × Int32 × Int32 => jb_V Γ d zq_248 15 [some (.ref 79), none, some (.int x2), some (.int x3), some (.int x4), some (.int x5), some (.int s.1), some (.int s.2.1), some (.int s.2.2), none] [] (zE L, M, N) v σ2) (fun r : Int32 × jb_Ml => v = some (.int r.1) ∧ σ2 = (zE L, M, r.2)))) r) : jb_V Γ d zq_248 65 [some (.ref 79), none, some (.int x2), some (.int x3), some (.int x4), some (.int x5), some (.int x6), some (.int x7), some (.int x8), some (.int x9)] [] (zE L, M, N) v σ2 := by
  obtain ⟨d, rfl⟩ : ∃ e, d = e + 1 := ⟨d - 1, by omega⟩
  unfold zf_248_J65 at h
  refine jb_seg 2 (pc' := 25) (ls' := [some (.ref 79), none, some (.int x2), some (.int x3), some (.int x4), some (.int x5), some (.int x6), some (.int x7), some (.int x8), some (.int (x9 + 1))]) (st' := []) (σ' := (zE L, M, N)) (G := []) rfl trivial ?_
  obtain rfl := Option.some.inj h
  exact jb_mask [true, false, true, true, true, true, true, true, true, true] rfl hK
set_option maxRecDepth 20000 in
theorem zg_248_H25 {Γ : jb_G} {L : Nat} {d : Nat} (hd : 3 ≤ d) (x2 : Int32) (x3 : Int32) (x4 : Int32) (x5 : Int32) (x8 : Int32) (M : jb_Mi) (N : jb_Ml) (s : Int32 × Int32 × Int32) {v : Option Value} {σ2 : jb_S} {r : ((Int32 × Int32 × Int32) ⊕ ((Int32 × Int32 × Int32) ⊕ (Int32 × jb_Ml)))} (h : zf_248_H25 x2 x3 x4 x5 x8 M N s = some r) (hK : (jb_K (fun s : Int32 × Int32 × Int32 => jb_V Γ d zq_248 25 [some (.ref 79), none, some (.int x2), some (.int x3), some (.int x4), some (.int x5), some (.int s.1), some (.int s.2.1), some (.int x8), some (.int s.2.2)] [] (zE L, M, N) v σ2) (jb_K (fun s : Int32 × Int32 × Int32 => jb_V Γ d zq_248 15 [some (.ref 79), none, some (.int x2), some (.int x3), some (.int x4), some (.int x5), some (.int s.1), some (.int s.2.1), some (.int s.2.2), none] [] (zE L, M, N) v σ2) (fun r : Int32 × jb_Ml => v = some (.int r.1) ∧ σ2 = (zE L, M, r.2)))) r) : jb_V Γ d zq_248 25 [some (.ref 79), none, some (.int x2), some (.int x3), some (.int x4), some (.int x5), some (.int s.1), some (.int s.2.1), some (.int x8), some (.int s.2.2)] [] (zE L, M, N) v σ2 := by
  obtain ⟨d, rfl⟩ : ∃ e, d = e + 1 := ⟨d - 1, by omega⟩
  unfold zf_248_H25 at h
  refine jb_seg 3 (pc' := (if s.2.2 < x5 then 32 else 71)) (ls' := [some (.ref 79), none, some (.int x2), some (.int x3), some (.int x4), some (.int x5), some (.int s.1), some (.int s.2.1), some (.int x8), some (.int s.2.2)]) (st' := []) (σ' := (zE L, M, N)) (G := []) rfl trivial ?_
  refine jb_ite (fun c => ?_) (fun c => ?_)
  · replace h := (if_pos c).symm.trans h
    refine jb_seg 5 (pc' := 39) (ls' := [some (.ref 79), none, some (.int x2), some (.int x3), some (.int x4), some (.int x5), some (.int s.1), some (.int s.2.1), some (.int x8), some (.int s.2.2)]) (st' := [(.int s.2.2), (.int x3), (.int x8), (.int x2), (.ref 79)]) (σ' := (zE L, M, N)) (G := []) rfl trivial ?_
    obtain ⟨q2, h2, h⟩ := jb_bd_of h
    refine jb_callV (q' := zq_247) (As := [(.int x2), (.int x8), (.int x3), (.int s.2.2)]) (rest := []) (σ1 := (zE L, M, N)) (v := some (.int (jb_b2i q2))) rfl rfl zp_247 rfl (Nat.le_of_ble_eq_true rfl) (jb_cat rfl) (Nat.le_of_ble_eq_true rfl) (Nat.le_of_ble_eq_true rfl) (Or.inl rfl) rfl (ze_247 (by omega) x2 x8 x3 s.2.2 M N h2) ?_
    refine jb_seg 1 (pc' := (if (jb_b2i q2) = 0 then 45 else 48)) (ls' := [some (.ref 79), none, some (.int x2), some (.int x3), some (.int x4), some (.int x5), some (.int s.1), some (.int s.2.1), some (.int x8), some (.int s.2.2)]) (st' := []) (σ' := (zE L, M, N)) (G := []) rfl trivial ?_
    refine jb_ite (fun c => ?_) (fun c => ?_)
    · replace h := (if_pos c).symm.trans h
      refine jb_seg 1 (pc' := 65) (ls' := [some (.ref 79), none, some (.int x2), some (.int x3), some (.int x4), some (.int x5), some (.int s.1), some (.int s.2.1), some (.int x8), some (.int s.2.2)]) (st' := []) (σ' := (zE L, M, N)) (G := []) rfl trivial ?_
      exact jb_mask [true, false, true, true, true, true, true, true, true, true] rfl (zg_248_J65 hd x2 x3 x4 x5 s.1 s.2.1 x8 s.2.2 M N h hK)
    · replace h := (if_neg c).symm.trans h
      refine jb_seg 7 (pc' := (if s.2.1 = (-2) then 61 else 65)) (ls' := [some (.ref 79), none, some (.int x2), some (.int x3), some (.int x4), some (.int x5), some (.int (s.1 + 1)), some (.int s.2.1), some (.int x8), some (.int s.2.2)]) (st' := []) (σ' := (zE L, M, N)) (G := []) rfl trivial ?_
      refine jb_ite (fun c => ?_) (fun c => ?_)
      · replace h := (if_pos c).symm.trans h
        refine jb_seg 2 (pc' := 65) (ls' := [some (.ref 79), none, some (.int x2), some (.int x3), some (.int x4), some (.int x5), some (.int (s.1 + 1)), some (.int x8), some (.int x8), some (.int s.2.2)]) (st' := []) (σ' := (zE L, M, N)) (G := []) rfl trivial ?_
        exact jb_mask [true, false, true, true, true, true, true, true, true, true] rfl (zg_248_J65 hd x2 x3 x4 x5 (s.1 + 1) x8 x8 s.2.2 M N h hK)
      · replace h := (if_neg c).symm.trans h
        exact jb_mask [true, false, true, true, true, true, true, true, true, true] rfl (zg_248_J65 hd x2 x3 x4 x5 (s.1 + 1) s.2.1 x8 s.2.2 M N h hK)
  · replace h := (if_neg c).symm.trans h
    refine jb_seg 2 (pc' := 15) (ls' := [some (.ref 79), none, some (.int x2), some (.int x3), some (.int x4), some (.int x5), some (.int s.1), some (.int s.2.1), some (.int (x8 + 1)), some (.int s.2.2)]) (st' := []) (σ' := (zE L, M, N)) (G := []) rfl trivial ?_
    obtain rfl := Option.some.inj h
    exact jb_mask [true, false, true, true, true, true, true, true, true, false] rfl hK
theorem zg_248_H25L {Γ : jb_G} {L : Nat} {d : Nat} (hd : 3 ≤ d) (x2 : Int32) (x3 : Int32) (x4 : Int32) (x5 : Int32) (x8 : Int32) (M : jb_Mi) (N : jb_Ml) {v : Option Value} {σ2 : jb_S} {s : Int32 × Int32 × Int32} {r : ((Int32 × Int32 × Int32) ⊕ (Int32 × jb_Ml))} (h : jb_lp (zf_248_H25 x2 x3 x4 x5 x8 M N) s = some r) (hK : (jb_K (fun s : Int32 × Int32 × Int32 => jb_V Γ d zq_248 15 [some (.ref 79), none, some (.int x2), some (.int x3), some (.int x4), some (.int x5), some (.int s.1), some (.int s.2.1), some (.int s.2.2), none] [] (zE L, M, N) v σ2) (fun r : Int32 × jb_Ml => v = some (.int r.1) ∧ σ2 = (zE L, M, r.2))) r) : jb_V Γ d zq_248 25 [some (.ref 79), none, some (.int x2), some (.int x3), some (.int x4), some (.int x5), some (.int s.1), some (.int s.2.1), some (.int x8), some (.int s.2.2)] [] (zE L, M, N) v σ2 := by
  exact @jb_lp_ind (Int32 × Int32 × Int32) (((Int32 × Int32 × Int32) ⊕ (Int32 × jb_Ml))) (zf_248_H25 x2 x3 x4 x5 x8 M N) (fun s => jb_V Γ d zq_248 25 [some (.ref 79), none, some (.int x2), some (.int x3), some (.int x4), some (.int x5), some (.int s.1), some (.int s.2.1), some (.int x8), some (.int s.2.2)] [] (zE L, M, N) v σ2) (jb_K (fun s : Int32 × Int32 × Int32 => jb_V Γ d zq_248 15 [some (.ref 79), none, some (.int x2), some (.int x3), some (.int x4), some (.int x5), some (.int s.1), some (.int s.2.1), some (.int s.2.2), none] [] (zE L, M, N) v σ2) (fun r : Int32 × jb_Ml => v = some (.int r.1) ∧ σ2 = (zE L, M, r.2))) (fun s r h hk => zg_248_H25 hd x2 x3 x4 x5 x8 M N s h hk) s r h hK
set_option maxRecDepth 20000 in
theorem zg_248_H15 {Γ : jb_G} {L : Nat} {d : Nat} (hd : 3 ≤ d) (x2 : Int32) (x3 : Int32) (x4 : Int32) (x5 : Int32) (M : jb_Mi) (N : jb_Ml) (s : Int32 × Int32 × Int32) {v : Option Value} {σ2 : jb_S} {r : ((Int32 × Int32 × Int32) ⊕ (Int32 × jb_Ml))} (h : zf_248_H15 x2 x3 x4 x5 M N s = some r) (hK : (jb_K (fun s : Int32 × Int32 × Int32 => jb_V Γ d zq_248 15 [some (.ref 79), none, some (.int x2), some (.int x3), some (.int x4), some (.int x5), some (.int s.1), some (.int s.2.1), some (.int s.2.2), none] [] (zE L, M, N) v σ2) (fun r : Int32 × jb_Ml => v = some (.int r.1) ∧ σ2 = (zE L, M, r.2))) r) : jb_V Γ d zq_248 15 [some (.ref 79), none, some (.int x2), some (.int x3), some (.int x4), some (.int x5), some (.int s.1), some (.int s.2.1), some (.int s.2.2), none] [] (zE L, M, N) v σ2 := by
  obtain ⟨d, rfl⟩ : ∃ e, d = e + 1 := ⟨d - 1, by omega⟩
  unfold zf_248_H15 at h
  refine jb_seg 3 (pc' := (if s.2.2 < 81 then 22 else 77)) (ls' := [some (.ref 79), none, some (.int x2), some (.int x3), some (.int x4), some (.int x5), some (.int s.1), some (.int s.2.1), some (.int s.2.2), none]) (st' := []) (σ' := (zE L, M, N)) (G := []) rfl trivial ?_
  refine jb_ite (fun c => ?_) (fun c => ?_)
  · replace h := (if_pos c).symm.trans h
    refine jb_seg 2 (pc' := 25) (ls' := [some (.ref 79), none, some (.int x2), some (.int x3), some (.int x4), some (.int x5), some (.int s.1), some (.int s.2.1), some (.int s.2.2), some (.int 0)]) (st' := []) (σ' := (zE L, M, N)) (G := []) rfl trivial ?_
    exact jb_mask [true, false, true, true, true, true, true, true, true, true] rfl (zg_248_H25L hd x2 x3 x4 x5 s.2.2 M N h hK)
  · replace h := (if_neg c).symm.trans h
    refine jb_seg 2 (pc' := (if x4 = 0 then 82 else 85)) (ls' := [some (.ref 79), none, some (.int x2), some (.int x3), some (.int x4), some (.int x5), some (.int s.1), some (.int s.2.1), some (.int s.2.2), none]) (st' := []) (σ' := (zE L, M, N)) (G := []) rfl trivial ?_
    refine jb_ite (fun c => ?_) (fun c => ?_)
    · replace h := (if_pos c).symm.trans h
      refine jb_seg 1 (pc' := 84) (ls' := [some (.ref 79), none, some (.int x2), some (.int x3), some (.int x4), some (.int x5), some (.int s.1), some (.int s.2.1), some (.int s.2.2), none]) (st' := [(.int s.1)]) (σ' := (zE L, M, N)) (G := []) rfl trivial ?_
      obtain rfl := Option.some.inj h
      obtain ⟨rfl, rfl⟩ := hK
      exact jb_reti rfl rfl
    · replace h := (if_neg c).symm.trans h
      refine jb_seg 3 (pc' := (if s.2.1 = (-2) then 92 else 97)) (ls' := [some (.ref 79), none, some (.int x2), some (.int x3), some (.int x4), some (.int x5), some (.int s.1), some (.int s.2.1), some (.int s.2.2), none]) (st' := []) (σ' := (zE L, M, N)) (G := []) rfl trivial ?_
      refine jb_ite (fun c => ?_) (fun c => ?_)
      · replace h := (if_pos c).symm.trans h
        refine jb_seg 2 (pc' := 116) (ls' := [some (.ref 79), none, some (.int x2), some (.int x3), some (.int x4), some (.int x5), some (.int s.1), some (.int s.2.1), some (.int s.2.2), none]) (st' := [(.int (-2))]) (σ' := (zE L, M, N)) (G := []) rfl trivial ?_
        obtain rfl := Option.some.inj h
        obtain ⟨rfl, rfl⟩ := hK
        exact jb_reti rfl rfl
      · replace h := (if_neg c).symm.trans h
        refine jb_seg 3 (pc' := (if x4 = 1 then 103 else 111)) (ls' := [some (.ref 79), none, some (.int x2), some (.int x3), some (.int x4), some (.int x5), some (.int s.1), some (.int s.2.1), some (.int s.2.2), none]) (st' := []) (σ' := (zE L, M, N)) (G := []) rfl trivial ?_
        refine jb_ite (fun c => ?_) (fun c => ?_)
        · replace h := (if_pos c).symm.trans h
          refine jb_seg 4 (pc' := 116) (ls' := [some (.ref 79), none, some (.int x2), some (.int x3), some (.int x4), some (.int x5), some (.int s.1), some (.int s.2.1), some (.int s.2.2), none]) (st' := [(.int (s.2.1 - s.2.1 / 9 * 9))]) (σ' := (zE L, M, N)) (G := [¬ (9 : Int32) = 0]) rfl (show ¬ (9 : Int32) = 0 from (by decide)) ?_
          obtain rfl := Option.some.inj h
          obtain ⟨rfl, rfl⟩ := hK
          exact jb_reti rfl rfl
        · replace h := (if_neg c).symm.trans h
          refine jb_seg 3 (pc' := 116) (ls' := [some (.ref 79), none, some (.int x2), some (.int x3), some (.int x4), some (.int x5), some (.int s.1), some (.int s.2.1), some (.int s.2.2), none]) (st' := [(.int (s.2.1 / 9))]) (σ' := (zE L, M, N)) (G := [¬ (9 : Int32) = 0]) rfl (show ¬ (9 : Int32) = 0 from (by decide)) ?_
          obtain rfl := Option.some.inj h
          obtain ⟨rfl, rfl⟩ := hK
          exact jb_reti rfl rfl
theorem zg_248_H15L {Γ : jb_G} {L : Nat} {d : Nat} (hd : 3 ≤ d) (x2 : Int32) (x3 : Int32) (x4 : Int32) (x5 : Int32) (M : jb_Mi) (N : jb_Ml) {v : Option Value} {σ2 : jb_S} {s : Int32 × Int32 × Int32} {r : (Int32 × jb_Ml)} (h : jb_lp (zf_248_H15 x2 x3 x4 x5 M N) s = some r) (hK : (fun r : Int32 × jb_Ml => v = some (.int r.1) ∧ σ2 = (zE L, M, r.2)) r) : jb_V Γ d zq_248 15 [some (.ref 79), none, some (.int x2), some (.int x3), some (.int x4), some (.int x5), some (.int s.1), some (.int s.2.1), some (.int s.2.2), none] [] (zE L, M, N) v σ2 := by
  exact @jb_lp_ind (Int32 × Int32 × Int32) ((Int32 × jb_Ml)) (zf_248_H15 x2 x3 x4 x5 M N) (fun s => jb_V Γ d zq_248 15 [some (.ref 79), none, some (.int x2), some (.int x3), some (.int x4), some (.int x5), some (.int s.1), some (.int s.2.1), some (.int s.2.2), none] [] (zE L, M, N) v σ2) (fun r : Int32 × jb_Ml => v = some (.int r.1) ∧ σ2 = (zE L, M, r.2)) (fun s r h hk => zg_248_H15 hd x2 x3 x4 x5 M N s h hk) s r h hK
set_option maxRecDepth 20000 in
theorem zg_248 {Γ : jb_G} {L : Nat} {d : Nat} (hd : 3 ≤ d) (x1 : Int32) (x2 : Int32) (x3 : Int32) (x4 : Int32) (x5 : Int32) (M : jb_Mi) (N : jb_Ml) {v : Option Value} {σ2 : jb_S} {r : (Int32 × jb_Ml)} (h : zf_248 x1 x2 x3 x4 x5 M N = some r) (hK : (fun r : Int32 × jb_Ml => v = some (.int r.1) ∧ σ2 = (zE L, M, r.2)) r) : jb_V Γ d zq_248 0 [some (.ref 79), some (.int x1), some (.int x2), some (.int x3), some (.int x4), some (.int x5), none, none, none, none] [] (zE L, M, N) v σ2 := by
  obtain ⟨d, rfl⟩ : ∃ e, d = e + 1 := ⟨d - 1, by omega⟩
  unfold zf_248 at h
  refine jb_seg 2 (pc' := 2) (ls' := [some (.ref 79), some (.int x1), some (.int x2), some (.int x3), some (.int x4), some (.int x5), none, none, none, none]) (st' := [(.int x1), (.ref 79)]) (σ' := (zE L, M, N)) (G := []) rfl trivial ?_
  obtain ⟨q1, h1, h⟩ := jb_bd_of h
  refine jb_callV (q' := zq_246) (As := [(.int x1)]) (rest := []) (σ1 := (zE L, M, q1)) (v := none) rfl rfl zp_246 rfl (Nat.le_of_ble_eq_true rfl) (jb_cat rfl) (Nat.le_of_ble_eq_true rfl) (Nat.le_of_ble_eq_true rfl) (Or.inl rfl) rfl (ze_246 (by omega) x1 M N h1) ?_
  refine jb_seg 6 (pc' := 15) (ls' := [some (.ref 79), some (.int x1), some (.int x2), some (.int x3), some (.int x4), some (.int x5), some (.int 0), some (.int (-2)), some (.int 0), none]) (st' := []) (σ' := (zE L, M, q1)) (G := []) rfl trivial ?_
  exact jb_mask [true, false, true, true, true, true, true, true, true, false] rfl (zg_248_H15L hd x2 x3 x4 x5 M q1 h hK)
theorem ze_248 {Γ : jb_G} {L : Nat} {d : Nat} (hd : 3 ≤ d) (x1 : Int32) (x2 : Int32) (x3 : Int32) (x4 : Int32) (x5 : Int32) (M : jb_Mi) (N : jb_Ml) {r : (Int32 × jb_Ml)} (h : zf_248 x1 x2 x3 x4 x5 M N = some r) : jb_V Γ d zq_248 0 (jb_en 10 [(.ref 79), (.int x1), (.int x2), (.int x3), (.int x4), (.int x5)]) [] (zE L, M, N) (some (.int r.1)) (zE L, M, r.2) := zg_248 hd x1 x2 x3 x4 x5 M N h ⟨rfl, rfl⟩
-- X13_felt
set_option maxRecDepth 20000 in
theorem zg_249 {Γ : jb_G} {L : Nat} {d : Nat} (hd : 4 ≤ d) (x1 : Int32) (x2 : Int32) (x3 : Int32) (M : jb_Mi) (N : jb_Ml) {v : Option Value} {σ2 : jb_S} {r : (Int32 × jb_Mi × jb_Ml)} (h : zf_249 x1 x2 x3 M N = some r) (hK : (fun r : Int32 × jb_Mi × jb_Ml => v = some (.int r.1) ∧ σ2 = (zE L, r.2.1, r.2.2)) r) : jb_V Γ d zq_249 0 [some (.ref 79), some (.int x1), some (.int x2), some (.int x3)] [] (zE L, M, N) v σ2 := by
  obtain ⟨d, rfl⟩ : ∃ e, d = e + 1 := ⟨d - 1, by omega⟩
  unfold zf_249 at h
  refine jb_seg 2 (pc' := 2) (ls' := [some (.ref 79), some (.int x1), some (.int x2), some (.int x3)]) (st' := [(.int x1), (.ref 79)]) (σ' := (zE L, M, N)) (G := []) rfl trivial ?_
  obtain ⟨q1, h1, h⟩ := jb_bd_of h
  refine jb_callV (q' := zq_171) (As := [(.int x1)]) (rest := []) (σ1 := (zE L, M, N)) (v := some (.int (jb_b2i q1))) rfl rfl zp_171 rfl (Nat.le_of_ble_eq_true rfl) (jb_cat rfl) (Nat.le_of_ble_eq_true rfl) (Nat.le_of_ble_eq_true rfl) (Or.inl rfl) rfl (ze_171 (by omega) x1 M N h1) ?_
  refine jb_seg 1 (pc' := (if (jb_b2i q1) = 0 then 36 else 8)) (ls' := [some (.ref 79), some (.int x1), some (.int x2), some (.int x3)]) (st' := []) (σ' := (zE L, M, N)) (G := []) rfl trivial ?_
  refine jb_ite (fun c => ?_) (fun c => ?_)
  · replace h := (if_pos c).symm.trans h
    refine jb_seg 1 (pc' := 37) (ls' := [some (.ref 79), some (.int x1), some (.int x2), some (.int x3)]) (st' := [(.int (-1))]) (σ' := (zE L, M, N)) (G := []) rfl trivial ?_
    obtain rfl := Option.some.inj h
    obtain ⟨rfl, rfl⟩ := hK
    exact jb_reti rfl rfl
  · replace h := (if_neg c).symm.trans h
    refine jb_seg 3 (pc' := 12) (ls' := [some (.ref 79), some (.int x1), some (.int x2), some (.int x3)]) (st' := [(.int 99), (.int 1), (.int x2)]) (σ' := (zE L, M, N)) (G := []) rfl trivial ?_
    refine jb_callS (q' := zq_164) (As := [(.int x2), (.int 1), (.int 99)]) (rest := []) (σ1 := (zE L, M, N)) (v := some (.int (jb_b2i (zf_164 x2 1 99)))) rfl (Nat.le_of_ble_eq_true rfl) rfl zp_164 (jb_cat rfl) (Nat.le_of_ble_eq_true rfl) (Nat.le_of_ble_eq_true rfl) (Or.inl rfl) rfl (ze_164 x2 1 99 M N rfl) ?_
    refine jb_seg 1 (pc' := (if (jb_b2i (zf_164 x2 1 99)) = 0 then 36 else 18)) (ls' := [some (.ref 79), some (.int x1), some (.int x2), some (.int x3)]) (st' := []) (σ' := (zE L, M, N)) (G := []) rfl trivial ?_
    refine jb_ite (fun c => ?_) (fun c => ?_)
    · replace h := (if_pos c).symm.trans h
      refine jb_seg 1 (pc' := 37) (ls' := [some (.ref 79), some (.int x1), some (.int x2), some (.int x3)]) (st' := [(.int (-1))]) (σ' := (zE L, M, N)) (G := []) rfl trivial ?_
      obtain rfl := Option.some.inj h
      obtain ⟨rfl, rfl⟩ := hK
      exact jb_reti rfl rfl
    · replace h := (if_neg c).symm.trans h
      refine jb_seg 3 (pc' := 21) (ls' := [some (.ref 79), some (.int x1), some (.int x2), some (.int x3)]) (st' := [(.int 2), (.int 0), (.int x3)]) (σ' := (zE L, M, N)) (G := []) rfl trivial ?_
      refine jb_callS (q' := zq_164) (As := [(.int x3), (.int 0), (.int 2)]) (rest := []) (σ1 := (zE L, M, N)) (v := some (.int (jb_b2i (zf_164 x3 0 2)))) rfl (Nat.le_of_ble_eq_true rfl) rfl zp_164 (jb_cat rfl) (Nat.le_of_ble_eq_true rfl) (Nat.le_of_ble_eq_true rfl) (Or.inl rfl) rfl (ze_164 x3 0 2 M N rfl) ?_
      refine jb_seg 1 (pc' := (if (jb_b2i (zf_164 x3 0 2)) = 0 then 36 else 27)) (ls' := [some (.ref 79), some (.int x1), some (.int x2), some (.int x3)]) (st' := []) (σ' := (zE L, M, N)) (G := []) rfl trivial ?_
      refine jb_ite (fun c => ?_) (fun c => ?_)
      · replace h := (if_pos c).symm.trans h
        refine jb_seg 1 (pc' := 37) (ls' := [some (.ref 79), some (.int x1), some (.int x2), some (.int x3)]) (st' := [(.int (-1))]) (σ' := (zE L, M, N)) (G := []) rfl trivial ?_
        obtain rfl := Option.some.inj h
        obtain ⟨rfl, rfl⟩ := hK
        exact jb_reti rfl rfl
      · replace h := (if_neg c).symm.trans h
        refine jb_seg 4 (pc' := (if (M 79 4) < 16 then 36 else 38)) (ls' := [some (.ref 79), some (.int x1), some (.int x2), some (.int x3)]) (st' := []) (σ' := (zE L, M, N)) (G := []) rfl trivial ?_
        refine jb_ite (fun c => ?_) (fun c => ?_)
        · replace h := (if_pos c).symm.trans h
          refine jb_seg 1 (pc' := 37) (ls' := [some (.ref 79), some (.int x1), some (.int x2), some (.int x3)]) (st' := [(.int (-1))]) (σ' := (zE L, M, N)) (G := []) rfl trivial ?_
          obtain rfl := Option.some.inj h
          obtain ⟨rfl, rfl⟩ := hK
          exact jb_reti rfl rfl
        · replace h := (if_neg c).symm.trans h
          refine jb_seg 9 (pc' := 49) (ls' := [some (.ref 79), some (.int x1), some (.int x2), some (.int x3)]) (st' := [(.int 1), (.int x3), (.int 0), (.int x2), (.int x1), (.ref 79)]) (σ' := (zE L, (jb_up M 79 4 0), N)) (G := []) rfl trivial ?_
          obtain ⟨q2, h2, h⟩ := jb_bd_of h
          refine jb_callV (q' := zq_248) (As := [(.int x1), (.int x2), (.int 0), (.int x3), (.int 1)]) (rest := []) (σ1 := (zE L, (jb_up M 79 4 0), q2.2)) (v := some (.int q2.1)) rfl rfl zp_248 rfl (Nat.le_of_ble_eq_true rfl) (jb_cat rfl) (Nat.le_of_ble_eq_true rfl) (Nat.le_of_ble_eq_true rfl) (Or.inl rfl) rfl (ze_248 (by omega) x1 x2 0 x3 1 (jb_up M 79 4 0) N h2) ?_
          obtain rfl := Option.some.inj h
          obtain ⟨rfl, rfl⟩ := hK
          exact jb_reti rfl rfl
theorem ze_249 {Γ : jb_G} {L : Nat} {d : Nat} (hd : 4 ≤ d) (x1 : Int32) (x2 : Int32) (x3 : Int32) (M : jb_Mi) (N : jb_Ml) {r : (Int32 × jb_Mi × jb_Ml)} (h : zf_249 x1 x2 x3 M N = some r) : jb_V Γ d zq_249 0 (jb_en 4 [(.ref 79), (.int x1), (.int x2), (.int x3)]) [] (zE L, M, N) (some (.int r.1)) (zE L, r.2.1, r.2.2) := zg_249 hd x1 x2 x3 M N h ⟨rfl, rfl⟩
-- X13_twoFelt
set_option maxRecDepth 20000 in
theorem zg_250 {Γ : jb_G} {L : Nat} {d : Nat} (hd : 4 ≤ d) (x1 : Int32) (x2 : Int32) (x3 : Int32) (x4 : Int32) (M : jb_Mi) (N : jb_Ml) {v : Option Value} {σ2 : jb_S} {r : (Int32 × jb_Mi × jb_Ml)} (h : zf_250 x1 x2 x3 x4 M N = some r) (hK : (fun r : Int32 × jb_Mi × jb_Ml => v = some (.int r.1) ∧ σ2 = (zE L, r.2.1, r.2.2)) r) : jb_V Γ d zq_250 0 [some (.ref 79), some (.int x1), some (.int x2), some (.int x3), some (.int x4)] [] (zE L, M, N) v σ2 := by
  obtain ⟨d, rfl⟩ : ∃ e, d = e + 1 := ⟨d - 1, by omega⟩
  unfold zf_250 at h
  refine jb_seg 2 (pc' := 2) (ls' := [some (.ref 79), some (.int x1), some (.int x2), some (.int x3), some (.int x4)]) (st' := [(.int x1), (.ref 79)]) (σ' := (zE L, M, N)) (G := []) rfl trivial ?_
  obtain ⟨q1, h1, h⟩ := jb_bd_of h
  refine jb_callV (q' := zq_171) (As := [(.int x1)]) (rest := []) (σ1 := (zE L, M, N)) (v := some (.int (jb_b2i q1))) rfl rfl zp_171 rfl (Nat.le_of_ble_eq_true rfl) (jb_cat rfl) (Nat.le_of_ble_eq_true rfl) (Nat.le_of_ble_eq_true rfl) (Or.inl rfl) rfl (ze_171 (by omega) x1 M N h1) ?_
  refine jb_seg 1 (pc' := (if (jb_b2i q1) = 0 then 47 else 8)) (ls' := [some (.ref 79), some (.int x1), some (.int x2), some (.int x3), some (.int x4)]) (st' := []) (σ' := (zE L, M, N)) (G := []) rfl trivial ?_
  refine jb_ite (fun c => ?_) (fun c => ?_)
  · replace h := (if_pos c).symm.trans h
    refine jb_seg 1 (pc' := 48) (ls' := [some (.ref 79), some (.int x1), some (.int x2), some (.int x3), some (.int x4)]) (st' := [(.int (-1))]) (σ' := (zE L, M, N)) (G := []) rfl trivial ?_
    obtain rfl := Option.some.inj h
    obtain ⟨rfl, rfl⟩ := hK
    exact jb_reti rfl rfl
  · replace h := (if_neg c).symm.trans h
    refine jb_seg 3 (pc' := 12) (ls' := [some (.ref 79), some (.int x1), some (.int x2), some (.int x3), some (.int x4)]) (st' := [(.int 99), (.int 1), (.int x2)]) (σ' := (zE L, M, N)) (G := []) rfl trivial ?_
    refine jb_callS (q' := zq_164) (As := [(.int x2), (.int 1), (.int 99)]) (rest := []) (σ1 := (zE L, M, N)) (v := some (.int (jb_b2i (zf_164 x2 1 99)))) rfl (Nat.le_of_ble_eq_true rfl) rfl zp_164 (jb_cat rfl) (Nat.le_of_ble_eq_true rfl) (Nat.le_of_ble_eq_true rfl) (Or.inl rfl) rfl (ze_164 x2 1 99 M N rfl) ?_
    refine jb_seg 1 (pc' := (if (jb_b2i (zf_164 x2 1 99)) = 0 then 47 else 18)) (ls' := [some (.ref 79), some (.int x1), some (.int x2), some (.int x3), some (.int x4)]) (st' := []) (σ' := (zE L, M, N)) (G := []) rfl trivial ?_
    refine jb_ite (fun c => ?_) (fun c => ?_)
    · replace h := (if_pos c).symm.trans h
      refine jb_seg 1 (pc' := 48) (ls' := [some (.ref 79), some (.int x1), some (.int x2), some (.int x3), some (.int x4)]) (st' := [(.int (-1))]) (σ' := (zE L, M, N)) (G := []) rfl trivial ?_
      obtain rfl := Option.some.inj h
      obtain ⟨rfl, rfl⟩ := hK
      exact jb_reti rfl rfl
    · replace h := (if_neg c).symm.trans h
      refine jb_seg 3 (pc' := 22) (ls' := [some (.ref 79), some (.int x1), some (.int x2), some (.int x3), some (.int x4)]) (st' := [(.int 99), (.int 1), (.int x3)]) (σ' := (zE L, M, N)) (G := []) rfl trivial ?_
      refine jb_callS (q' := zq_164) (As := [(.int x3), (.int 1), (.int 99)]) (rest := []) (σ1 := (zE L, M, N)) (v := some (.int (jb_b2i (zf_164 x3 1 99)))) rfl (Nat.le_of_ble_eq_true rfl) rfl zp_164 (jb_cat rfl) (Nat.le_of_ble_eq_true rfl) (Nat.le_of_ble_eq_true rfl) (Or.inl rfl) rfl (ze_164 x3 1 99 M N rfl) ?_
      refine jb_seg 1 (pc' := (if (jb_b2i (zf_164 x3 1 99)) = 0 then 47 else 28)) (ls' := [some (.ref 79), some (.int x1), some (.int x2), some (.int x3), some (.int x4)]) (st' := []) (σ' := (zE L, M, N)) (G := []) rfl trivial ?_
      refine jb_ite (fun c => ?_) (fun c => ?_)
      · replace h := (if_pos c).symm.trans h
        refine jb_seg 1 (pc' := 48) (ls' := [some (.ref 79), some (.int x1), some (.int x2), some (.int x3), some (.int x4)]) (st' := [(.int (-1))]) (σ' := (zE L, M, N)) (G := []) rfl trivial ?_
        obtain rfl := Option.some.inj h
        obtain ⟨rfl, rfl⟩ := hK
        exact jb_reti rfl rfl
      · replace h := (if_neg c).symm.trans h
        refine jb_seg 3 (pc' := 32) (ls' := [some (.ref 79), some (.int x1), some (.int x2), some (.int x3), some (.int x4)]) (st' := [(.int 2), (.int 0), (.int x4)]) (σ' := (zE L, M, N)) (G := []) rfl trivial ?_
        refine jb_callS (q' := zq_164) (As := [(.int x4), (.int 0), (.int 2)]) (rest := []) (σ1 := (zE L, M, N)) (v := some (.int (jb_b2i (zf_164 x4 0 2)))) rfl (Nat.le_of_ble_eq_true rfl) rfl zp_164 (jb_cat rfl) (Nat.le_of_ble_eq_true rfl) (Nat.le_of_ble_eq_true rfl) (Or.inl rfl) rfl (ze_164 x4 0 2 M N rfl) ?_
        refine jb_seg 1 (pc' := (if (jb_b2i (zf_164 x4 0 2)) = 0 then 47 else 38)) (ls' := [some (.ref 79), some (.int x1), some (.int x2), some (.int x3), some (.int x4)]) (st' := []) (σ' := (zE L, M, N)) (G := []) rfl trivial ?_
        refine jb_ite (fun c => ?_) (fun c => ?_)
        · replace h := (if_pos c).symm.trans h
          refine jb_seg 1 (pc' := 48) (ls' := [some (.ref 79), some (.int x1), some (.int x2), some (.int x3), some (.int x4)]) (st' := [(.int (-1))]) (σ' := (zE L, M, N)) (G := []) rfl trivial ?_
          obtain rfl := Option.some.inj h
          obtain ⟨rfl, rfl⟩ := hK
          exact jb_reti rfl rfl
        · replace h := (if_neg c).symm.trans h
          refine jb_seg 4 (pc' := (if (M 79 4) < 16 then 47 else 49)) (ls' := [some (.ref 79), some (.int x1), some (.int x2), some (.int x3), some (.int x4)]) (st' := []) (σ' := (zE L, M, N)) (G := []) rfl trivial ?_
          refine jb_ite (fun c => ?_) (fun c => ?_)
          · replace h := (if_pos c).symm.trans h
            refine jb_seg 1 (pc' := 48) (ls' := [some (.ref 79), some (.int x1), some (.int x2), some (.int x3), some (.int x4)]) (st' := [(.int (-1))]) (σ' := (zE L, M, N)) (G := []) rfl trivial ?_
            obtain rfl := Option.some.inj h
            obtain ⟨rfl, rfl⟩ := hK
            exact jb_reti rfl rfl
          · replace h := (if_neg c).symm.trans h
            refine jb_seg 9 (pc' := 62) (ls' := [some (.ref 79), some (.int x1), some (.int x2), some (.int x3), some (.int x4)]) (st' := [(.int 81), (.int x4), (.int x3), (.int x2), (.int x1), (.ref 79)]) (σ' := (zE L, (jb_up M 79 4 0), N)) (G := []) rfl trivial ?_
            obtain ⟨q2, h2, h⟩ := jb_bd_of h
            refine jb_callV (q' := zq_248) (As := [(.int x1), (.int x2), (.int x3), (.int x4), (.int 81)]) (rest := []) (σ1 := (zE L, (jb_up M 79 4 0), q2.2)) (v := some (.int q2.1)) rfl rfl zp_248 rfl (Nat.le_of_ble_eq_true rfl) (jb_cat rfl) (Nat.le_of_ble_eq_true rfl) (Nat.le_of_ble_eq_true rfl) (Or.inl rfl) rfl (ze_248 (by omega) x1 x2 x3 x4 81 (jb_up M 79 4 0) N h2) ?_
            obtain rfl := Option.some.inj h
            obtain ⟨rfl, rfl⟩ := hK
            exact jb_reti rfl rfl
theorem ze_250 {Γ : jb_G} {L : Nat} {d : Nat} (hd : 4 ≤ d) (x1 : Int32) (x2 : Int32) (x3 : Int32) (x4 : Int32) (M : jb_Mi) (N : jb_Ml) {r : (Int32 × jb_Mi × jb_Ml)} (h : zf_250 x1 x2 x3 x4 M N = some r) : jb_V Γ d zq_250 0 (jb_en 5 [(.ref 79), (.int x1), (.int x2), (.int x3), (.int x4)]) [] (zE L, M, N) (some (.int r.1)) (zE L, r.2.1, r.2.2) := zg_250 hd x1 x2 x3 x4 M N h ⟨rfl, rfl⟩
-- X13_knocks
set_option maxRecDepth 20000 in
theorem zg_251_J142 {Γ : jb_G} {L : Nat} {d : Nat} (hd : 3 ≤ d) (x2 : Int32) (x3 : Int32) (x4 : Int32) (x5 : Int32) (M : jb_Mi) (N : jb_Ml) {v : Option Value} {σ2 : jb_S} {r : ((Int32 × Int32) ⊕ ((Int32 × Int32) ⊕ (Int32)))} (h : zf_251_J142 x2 x3 x4 x5 M = some r) (hK : (jb_K (fun s : Int32 × Int32 => jb_V Γ d zq_251 19 [some (.ref 79), none, some (.int x2), some (.int s.1), some (.int x4), some (.int s.2), none, none] [] (zE L, M, N) v σ2) (jb_K (fun s : Int32 × Int32 => jb_V Γ d zq_251 7 [some (.ref 79), none, some (.int x2), some (.int s.1), some (.int s.2), none, none, none] [] (zE L, M, N) v σ2) (fun r : Int32 => v = some (.int r) ∧ σ2 = (zE L, M, N)))) r) : jb_V Γ d zq_251 142 [some (.ref 79), none, some (.int x2), some (.int x3), some (.int x4), some (.int x5), none, none] [] (zE L, M, N) v σ2 := by
  obtain ⟨d, rfl⟩ : ∃ e, d = e + 1 := ⟨d - 1, by omega⟩
  unfold zf_251_J142 at h
  refine jb_seg 2 (pc' := 19) (ls' := [some (.ref 79), none, some (.int x2), some (.int x3), some (.int x4), some (.int (x5 + 1)), none, none]) (st' := []) (σ' := (zE L, M, N)) (G := []) rfl trivial ?_
  obtain rfl := Option.some.inj h
  exact jb_mask [true, false, true, true, true, true, false, false] rfl hK
set_option maxRecDepth 20000 in
theorem zg_251_J136 {Γ : jb_G} {L : Nat} {d : Nat} (hd : 3 ≤ d) (x2 : Int32) (x3 : Int32) (x4 : Int32) (x5 : Int32) (x6 : Int32) (M : jb_Mi) (N : jb_Ml) {v : Option Value} {σ2 : jb_S} {r : ((Int32 × Int32) ⊕ ((Int32 × Int32) ⊕ ((Int32 × Int32) ⊕ (Int32))))} (h : zf_251_J136 x2 x3 x4 x5 x6 M = some r) (hK : (jb_K (fun s : Int32 × Int32 => jb_V Γ d zq_251 42 [some (.ref 79), none, some (.int x2), some (.int s.1), some (.int x4), some (.int x5), some (.int s.2), none] [] (zE L, M, N) v σ2) (jb_K (fun s : Int32 × Int32 => jb_V Γ d zq_251 19 [some (.ref 79), none, some (.int x2), some (.int s.1), some (.int x4), some (.int s.2), none, none] [] (zE L, M, N) v σ2) (jb_K (fun s : Int32 × Int32 => jb_V Γ d zq_251 7 [some (.ref 79), none, some (.int x2), some (.int s.1), some (.int s.2), none, none, none] [] (zE L, M, N) v σ2) (fun r : Int32 => v = some (.int r) ∧ σ2 = (zE L, M, N))))) r) : jb_V Γ d zq_251 136 [some (.ref 79), none, some (.int x2), some (.int x3), some (.int x4), some (.int x5), some (.int x6), none] [] (zE L, M, N) v σ2 := by
  obtain ⟨d, rfl⟩ : ∃ e, d = e + 1 := ⟨d - 1, by omega⟩
  unfold zf_251_J136 at h
  refine jb_seg 2 (pc' := 42) (ls' := [some (.ref 79), none, some (.int x2), some (.int x3), some (.int x4), some (.int x5), some (.int (x6 + 1)), none]) (st' := []) (σ' := (zE L, M, N)) (G := []) rfl trivial ?_
  obtain rfl := Option.some.inj h
  exact jb_mask [true, false, true, true, true, true, true, false] rfl hK
set_option maxRecDepth 20000 in
theorem zg_251_J98 {Γ : jb_G} {L : Nat} {d : Nat} (hd : 3 ≤ d) (x2 : Int32) (x3 : Int32) (x4 : Int32) (x5 : Int32) (x6 : Int32) (s0 : Int32) (M : jb_Mi) (N : jb_Ml) {v : Option Value} {σ2 : jb_S} {r : ((Int32 × Int32) ⊕ ((Int32 × Int32) ⊕ ((Int32 × Int32) ⊕ (Int32))))} (h : zf_251_J98 x2 x3 x4 x5 x6 s0 M = some r) (hK : (jb_K (fun s : Int32 × Int32 => jb_V Γ d zq_251 42 [some (.ref 79), none, some (.int x2), some (.int s.1), some (.int x4), some (.int x5), some (.int s.2), none] [] (zE L, M, N) v σ2) (jb_K (fun s : Int32 × Int32 => jb_V Γ d zq_251 19 [some (.ref 79), none, some (.int x2), some (.int s.1), some (.int x4), some (.int s.2), none, none] [] (zE L, M, N) v σ2) (jb_K (fun s : Int32 × Int32 => jb_V Γ d zq_251 7 [some (.ref 79), none, some (.int x2), some (.int s.1), some (.int s.2), none, none, none] [] (zE L, M, N) v σ2) (fun r : Int32 => v = some (.int r) ∧ σ2 = (zE L, M, N))))) r) : jb_V Γ d zq_251 98 [some (.ref 79), none, some (.int x2), some (.int x3), some (.int x4), some (.int x5), some (.int x6), none] [(.int s0)] (zE L, M, N) v σ2 := by
  obtain ⟨d, rfl⟩ : ∃ e, d = e + 1 := ⟨d - 1, by omega⟩
  unfold zf_251_J98 at h
  refine jb_seg 3 (pc' := 103) (ls' := [some (.ref 79), none, some (.int x2), some (.int x3), some (.int x4), some (.int x5), some (.int x6), some (.int s0)]) (st' := [(.int x6), (.ref 79)]) (σ' := (zE L, M, N)) (G := []) rfl trivial ?_
  obtain ⟨q3, h3, h⟩ := jb_bd_of h
  refine jb_callV (q' := zq_172) (As := [(.int x6)]) (rest := []) (σ1 := (zE L, M, N)) (v := some (.int (jb_b2i q3))) rfl rfl zp_172 rfl (Nat.le_of_ble_eq_true rfl) (jb_cat rfl) (Nat.le_of_ble_eq_true rfl) (Nat.le_of_ble_eq_true rfl) (Or.inl rfl) rfl (ze_172 (by omega) x6 M N h3) ?_
  refine jb_seg 1 (pc' := (if (jb_b2i q3) = 0 then 136 else 109)) (ls' := [some (.ref 79), none, some (.int x2), some (.int x3), some (.int x4), some (.int x5), some (.int x6), some (.int s0)]) (st' := []) (σ' := (zE L, M, N)) (G := []) rfl trivial ?_
  refine jb_ite (fun c => ?_) (fun c => ?_)
  · replace h := (if_pos c).symm.trans h
    exact jb_mask [true, false, true, true, true, true, true, false] rfl (zg_251_J136 hd x2 x3 x4 x5 x6 M N h hK)
  · replace h := (if_neg c).symm.trans h
    obtain ⟨g4, h⟩ := jb_gd_of h
    refine jb_seg 10 (pc' := 123) (ls' := [some (.ref 79), none, some (.int x2), some (.int x3), some (.int x4), some (.int x5), some (.int x6), some (.int s0)]) (st' := [(.int (3 * (M 80 ((0 + x5)).toNatClampNeg))), (.int 1), (.int s0)]) (σ' := (zE L, M, N)) (G := [vp_in (0 + x5) 149]) rfl g4 ?_
    refine jb_callS (q' := zq_164) (As := [(.int s0), (.int 1), (.int (3 * (M 80 ((0 + x5)).toNatClampNeg)))]) (rest := []) (σ1 := (zE L, M, N)) (v := some (.int (jb_b2i (zf_164 s0 1 (3 * (M 80 ((0 + x5)).toNatClampNeg)))))) rfl (Nat.le_of_ble_eq_true rfl) rfl zp_164 (jb_cat rfl) (Nat.le_of_ble_eq_true rfl) (Nat.le_of_ble_eq_true rfl) (Or.inl rfl) rfl (ze_164 s0 1 (3 * (M 80 ((0 + x5)).toNatClampNeg)) M N rfl) ?_
    refine jb_seg 1 (pc' := (if (jb_b2i (zf_164 s0 1 (3 * (M 80 ((0 + x5)).toNatClampNeg)))) = 0 then 136 else 129)) (ls' := [some (.ref 79), none, some (.int x2), some (.int x3), some (.int x4), some (.int x5), some (.int x6), some (.int s0)]) (st' := []) (σ' := (zE L, M, N)) (G := []) rfl trivial ?_
    refine jb_ite (fun c => ?_) (fun c => ?_)
    · replace h := (if_pos c).symm.trans h
      exact jb_mask [true, false, true, true, true, true, true, false] rfl (zg_251_J136 hd x2 x3 x4 x5 x6 M N h hK)
    · replace h := (if_neg c).symm.trans h
      refine jb_seg 6 (pc' := 136) (ls' := [some (.ref 79), none, some (.int x2), some (.int (x3 ||| ((1 : Int32) <<< (x6 &&& 31)))), some (.int x4), some (.int x5), some (.int x6), some (.int s0)]) (st' := []) (σ' := (zE L, M, N)) (G := []) rfl trivial ?_
      exact jb_mask [true, false, true, true, true, true, true, false] rfl (zg_251_J136 hd x2 (x3 ||| ((1 : Int32) <<< (x6 &&& 31))) x4 x5 x6 M N h hK)
set_option maxRecDepth 20000 in
theorem zg_251_H42 {Γ : jb_G} {L : Nat} {d : Nat} (hd : 3 ≤ d) (x2 : Int32) (x4 : Int32) (x5 : Int32) (M : jb_Mi) (N : jb_Ml) (s : Int32 × Int32) {v : Option Value} {σ2 : jb_S} {r : ((Int32 × Int32) ⊕ ((Int32 × Int32) ⊕ ((Int32 × Int32) ⊕ (Int32))))} (h : zf_251_H42 x2 x4 x5 M s = some r) (hK : (jb_K (fun s : Int32 × Int32 => jb_V Γ d zq_251 42 [some (.ref 79), none, some (.int x2), some (.int s.1), some (.int x4), some (.int x5), some (.int s.2), none] [] (zE L, M, N) v σ2) (jb_K (fun s : Int32 × Int32 => jb_V Γ d zq_251 19 [some (.ref 79), none, some (.int x2), some (.int s.1), some (.int x4), some (.int s.2), none, none] [] (zE L, M, N) v σ2) (jb_K (fun s : Int32 × Int32 => jb_V Γ d zq_251 7 [some (.ref 79), none, some (.int x2), some (.int s.1), some (.int s.2), none, none, none] [] (zE L, M, N) v σ2) (fun r : Int32 => v = some (.int r) ∧ σ2 = (zE L, M, N))))) r) : jb_V Γ d zq_251 42 [some (.ref 79), none, some (.int x2), some (.int s.1), some (.int x4), some (.int x5), some (.int s.2), none] [] (zE L, M, N) v σ2 := by
  obtain ⟨d, rfl⟩ : ∃ e, d = e + 1 := ⟨d - 1, by omega⟩
  unfold zf_251_H42 at h
  refine jb_seg 3 (pc' := (if s.2 < 6 then 49 else 142)) (ls' := [some (.ref 79), none, some (.int x2), some (.int s.1), some (.int x4), some (.int x5), some (.int s.2), none]) (st' := []) (σ' := (zE L, M, N)) (G := []) rfl trivial ?_
  refine jb_ite (fun c => ?_) (fun c => ?_)
  · replace h := (if_pos c).symm.trans h
    refine jb_seg 2 (pc' := (if x2 = 0 then 77 else 53)) (ls' := [some (.ref 79), none, some (.int x2), some (.int s.1), some (.int x4), some (.int x5), some (.int s.2), none]) (st' := []) (σ' := (zE L, M, N)) (G := []) rfl trivial ?_
    refine jb_ite (fun c => ?_) (fun c => ?_)
    · replace h := (if_pos c).symm.trans h
      obtain ⟨g1, h⟩ := jb_gd_of h
      obtain ⟨g2, h⟩ := jb_gd_of h
      refine jb_seg 13 (pc' := 98) (ls' := [some (.ref 79), none, some (.int x2), some (.int s.1), some (.int x4), some (.int x5), some (.int s.2), none]) (st' := [(.int ((M 80 ((6 + x5)).toNatClampNeg) - (M 80 ((6 + s.2)).toNatClampNeg)))]) (σ' := (zE L, M, N)) (G := [vp_in (6 + x5) 149, vp_in (6 + s.2) 149]) rfl ⟨g1, g2⟩ ?_
      exact jb_mask [true, false, true, true, true, true, true, false] rfl (zg_251_J98 hd x2 s.1 x4 x5 s.2 ((M 80 ((6 + x5)).toNatClampNeg) - (M 80 ((6 + s.2)).toNatClampNeg)) M N h hK)
    · replace h := (if_neg c).symm.trans h
      obtain ⟨g5, h⟩ := jb_gd_of h
      obtain ⟨g6, h⟩ := jb_gd_of h
      refine jb_seg 14 (pc' := 98) (ls' := [some (.ref 79), none, some (.int x2), some (.int s.1), some (.int x4), some (.int x5), some (.int s.2), none]) (st' := [(.int ((M 80 ((6 + s.2)).toNatClampNeg) - (M 80 ((6 + x5)).toNatClampNeg)))]) (σ' := (zE L, M, N)) (G := [vp_in (6 + s.2) 149, vp_in (6 + x5) 149]) rfl ⟨g5, g6⟩ ?_
      exact jb_mask [true, false, true, true, true, true, true, false] rfl (zg_251_J98 hd x2 s.1 x4 x5 s.2 ((M 80 ((6 + s.2)).toNatClampNeg) - (M 80 ((6 + x5)).toNatClampNeg)) M N h hK)
  · replace h := (if_neg c).symm.trans h
    obtain ⟨y0, hy0, rfl⟩ := jb_mp_of h
    exact jb_mask [true, false, true, true, true, true, false, false] rfl (zg_251_J142 hd x2 s.1 x4 x5 M N hy0 hK)
theorem zg_251_H42L {Γ : jb_G} {L : Nat} {d : Nat} (hd : 3 ≤ d) (x2 : Int32) (x4 : Int32) (x5 : Int32) (M : jb_Mi) (N : jb_Ml) {v : Option Value} {σ2 : jb_S} {s : Int32 × Int32} {r : ((Int32 × Int32) ⊕ ((Int32 × Int32) ⊕ (Int32)))} (h : jb_lp (zf_251_H42 x2 x4 x5 M) s = some r) (hK : (jb_K (fun s : Int32 × Int32 => jb_V Γ d zq_251 19 [some (.ref 79), none, some (.int x2), some (.int s.1), some (.int x4), some (.int s.2), none, none] [] (zE L, M, N) v σ2) (jb_K (fun s : Int32 × Int32 => jb_V Γ d zq_251 7 [some (.ref 79), none, some (.int x2), some (.int s.1), some (.int s.2), none, none, none] [] (zE L, M, N) v σ2) (fun r : Int32 => v = some (.int r) ∧ σ2 = (zE L, M, N)))) r) : jb_V Γ d zq_251 42 [some (.ref 79), none, some (.int x2), some (.int s.1), some (.int x4), some (.int x5), some (.int s.2), none] [] (zE L, M, N) v σ2 := by
  exact @jb_lp_ind (Int32 × Int32) (((Int32 × Int32) ⊕ ((Int32 × Int32) ⊕ (Int32)))) (zf_251_H42 x2 x4 x5 M) (fun s => jb_V Γ d zq_251 42 [some (.ref 79), none, some (.int x2), some (.int s.1), some (.int x4), some (.int x5), some (.int s.2), none] [] (zE L, M, N) v σ2) (jb_K (fun s : Int32 × Int32 => jb_V Γ d zq_251 19 [some (.ref 79), none, some (.int x2), some (.int s.1), some (.int x4), some (.int s.2), none, none] [] (zE L, M, N) v σ2) (jb_K (fun s : Int32 × Int32 => jb_V Γ d zq_251 7 [some (.ref 79), none, some (.int x2), some (.int s.1), some (.int s.2), none, none, none] [] (zE L, M, N) v σ2) (fun r : Int32 => v = some (.int r) ∧ σ2 = (zE L, M, N)))) (fun s r h hk => zg_251_H42 hd x2 x4 x5 M N s h hk) s r h hK
set_option maxRecDepth 20000 in
theorem zg_251_H19 {Γ : jb_G} {L : Nat} {d : Nat} (hd : 3 ≤ d) (x2 : Int32) (x4 : Int32) (M : jb_Mi) (N : jb_Ml) (s : Int32 × Int32) {v : Option Value} {σ2 : jb_S} {r : ((Int32 × Int32) ⊕ ((Int32 × Int32) ⊕ (Int32)))} (h : zf_251_H19 x2 x4 M s = some r) (hK : (jb_K (fun s : Int32 × Int32 => jb_V Γ d zq_251 19 [some (.ref 79), none, some (.int x2), some (.int s.1), some (.int x4), some (.int s.2), none, none] [] (zE L, M, N) v σ2) (jb_K (fun s : Int32 × Int32 => jb_V Γ d zq_251 7 [some (.ref 79), none, some (.int x2), some (.int s.1), some (.int s.2), none, none, none] [] (zE L, M, N) v σ2) (fun r : Int32 => v = some (.int r) ∧ σ2 = (zE L, M, N)))) r) : jb_V Γ d zq_251 19 [some (.ref 79), none, some (.int x2), some (.int s.1), some (.int x4), some (.int s.2), none, none] [] (zE L, M, N) v σ2 := by
  obtain ⟨d, rfl⟩ : ∃ e, d = e + 1 := ⟨d - 1, by omega⟩
  unfold zf_251_H19 at h
  refine jb_seg 3 (pc' := (if s.2 < 6 then 26 else 148)) (ls' := [some (.ref 79), none, some (.int x2), some (.int s.1), some (.int x4), some (.int s.2), none, none]) (st' := []) (σ' := (zE L, M, N)) (G := []) rfl trivial ?_
  refine jb_ite (fun c => ?_) (fun c => ?_)
  · replace h := (if_pos c).symm.trans h
    refine jb_seg 2 (pc' := 30) (ls' := [some (.ref 79), none, some (.int x2), some (.int s.1), some (.int x4), some (.int s.2), none, none]) (st' := [(.int s.2), (.int x4)]) (σ' := (zE L, M, N)) (G := []) rfl trivial ?_
    refine jb_callS (q' := zq_168) (As := [(.int x4), (.int s.2)]) (rest := []) (σ1 := (zE L, M, N)) (v := some (.int (jb_b2i (zf_168 x4 s.2)))) rfl (Nat.le_of_ble_eq_true rfl) rfl zp_168 (jb_cat rfl) (Nat.le_of_ble_eq_true rfl) (Nat.le_of_ble_eq_true rfl) (Or.inl rfl) rfl (ze_168 x4 s.2 M N rfl) ?_
    refine jb_seg 1 (pc' := (if (jb_b2i (zf_168 x4 s.2)) = 0 then 36 else 39)) (ls' := [some (.ref 79), none, some (.int x2), some (.int s.1), some (.int x4), some (.int s.2), none, none]) (st' := []) (σ' := (zE L, M, N)) (G := []) rfl trivial ?_
    refine jb_ite (fun c => ?_) (fun c => ?_)
    · replace h := (if_pos c).symm.trans h
      refine jb_seg 1 (pc' := 142) (ls' := [some (.ref 79), none, some (.int x2), some (.int s.1), some (.int x4), some (.int s.2), none, none]) (st' := []) (σ' := (zE L, M, N)) (G := []) rfl trivial ?_
      exact jb_mask [true, false, true, true, true, true, false, false] rfl (zg_251_J142 hd x2 s.1 x4 s.2 M N h hK)
    · replace h := (if_neg c).symm.trans h
      refine jb_seg 2 (pc' := 42) (ls' := [some (.ref 79), none, some (.int x2), some (.int s.1), some (.int x4), some (.int s.2), some (.int 0), none]) (st' := []) (σ' := (zE L, M, N)) (G := []) rfl trivial ?_
      exact jb_mask [true, false, true, true, true, true, true, false] rfl (zg_251_H42L hd x2 x4 s.2 M N h hK)
  · replace h := (if_neg c).symm.trans h
    refine jb_seg 1 (pc' := 7) (ls' := [some (.ref 79), none, some (.int x2), some (.int s.1), some (.int x4), some (.int s.2), none, none]) (st' := []) (σ' := (zE L, M, N)) (G := []) rfl trivial ?_
    obtain rfl := Option.some.inj h
    exact jb_mask [true, false, true, true, true, false, false, false] rfl hK
theorem zg_251_H19L {Γ : jb_G} {L : Nat} {d : Nat} (hd : 3 ≤ d) (x2 : Int32) (x4 : Int32) (M : jb_Mi) (N : jb_Ml) {v : Option Value} {σ2 : jb_S} {s : Int32 × Int32} {r : ((Int32 × Int32) ⊕ (Int32))} (h : jb_lp (zf_251_H19 x2 x4 M) s = some r) (hK : (jb_K (fun s : Int32 × Int32 => jb_V Γ d zq_251 7 [some (.ref 79), none, some (.int x2), some (.int s.1), some (.int s.2), none, none, none] [] (zE L, M, N) v σ2) (fun r : Int32 => v = some (.int r) ∧ σ2 = (zE L, M, N))) r) : jb_V Γ d zq_251 19 [some (.ref 79), none, some (.int x2), some (.int s.1), some (.int x4), some (.int s.2), none, none] [] (zE L, M, N) v σ2 := by
  exact @jb_lp_ind (Int32 × Int32) (((Int32 × Int32) ⊕ (Int32))) (zf_251_H19 x2 x4 M) (fun s => jb_V Γ d zq_251 19 [some (.ref 79), none, some (.int x2), some (.int s.1), some (.int x4), some (.int s.2), none, none] [] (zE L, M, N) v σ2) (jb_K (fun s : Int32 × Int32 => jb_V Γ d zq_251 7 [some (.ref 79), none, some (.int x2), some (.int s.1), some (.int s.2), none, none, none] [] (zE L, M, N) v σ2) (fun r : Int32 => v = some (.int r) ∧ σ2 = (zE L, M, N))) (fun s r h hk => zg_251_H19 hd x2 x4 M N s h hk) s r h hK
set_option maxRecDepth 20000 in
theorem zg_251_H7 {Γ : jb_G} {L : Nat} {d : Nat} (hd : 3 ≤ d) (x2 : Int32) (M : jb_Mi) (N : jb_Ml) (s : Int32 × Int32) {v : Option Value} {σ2 : jb_S} {r : ((Int32 × Int32) ⊕ (Int32))} (h : zf_251_H7 x2 M s = some r) (hK : (jb_K (fun s : Int32 × Int32 => jb_V Γ d zq_251 7 [some (.ref 79), none, some (.int x2), some (.int s.1), some (.int s.2), none, none, none] [] (zE L, M, N) v σ2) (fun r : Int32 => v = some (.int r) ∧ σ2 = (zE L, M, N))) r) : jb_V Γ d zq_251 7 [some (.ref 79), none, some (.int x2), some (.int s.1), some (.int s.2), none, none, none] [] (zE L, M, N) v σ2 := by
  obtain ⟨d, rfl⟩ : ∃ e, d = e + 1 := ⟨d - 1, by omega⟩
  unfold zf_251_H7 at h
  refine jb_seg 3 (pc' := (if s.1 = s.2 then 151 else 13)) (ls' := [some (.ref 79), none, some (.int x2), some (.int s.1), some (.int s.2), none, none, none]) (st' := []) (σ' := (zE L, M, N)) (G := []) rfl trivial ?_
  refine jb_ite (fun c => ?_) (fun c => ?_)
  · replace h := (if_pos c).symm.trans h
    refine jb_seg 1 (pc' := 152) (ls' := [some (.ref 79), none, some (.int x2), some (.int s.1), some (.int s.2), none, none, none]) (st' := [(.int s.1)]) (σ' := (zE L, M, N)) (G := []) rfl trivial ?_
    obtain rfl := Option.some.inj h
    obtain ⟨rfl, rfl⟩ := hK
    exact jb_reti rfl rfl
  · replace h := (if_neg c).symm.trans h
    refine jb_seg 4 (pc' := 19) (ls' := [some (.ref 79), none, some (.int x2), some (.int s.1), some (.int s.1), some (.int 0), none, none]) (st' := []) (σ' := (zE L, M, N)) (G := []) rfl trivial ?_
    exact jb_mask [true, false, true, true, true, true, false, false] rfl (zg_251_H19L hd x2 s.1 M N h hK)
theorem zg_251_H7L {Γ : jb_G} {L : Nat} {d : Nat} (hd : 3 ≤ d) (x2 : Int32) (M : jb_Mi) (N : jb_Ml) {v : Option Value} {σ2 : jb_S} {s : Int32 × Int32} {r : (Int32)} (h : jb_lp (zf_251_H7 x2 M) s = some r) (hK : (fun r : Int32 => v = some (.int r) ∧ σ2 = (zE L, M, N)) r) : jb_V Γ d zq_251 7 [some (.ref 79), none, some (.int x2), some (.int s.1), some (.int s.2), none, none, none] [] (zE L, M, N) v σ2 := by
  exact @jb_lp_ind (Int32 × Int32) ((Int32)) (zf_251_H7 x2 M) (fun s => jb_V Γ d zq_251 7 [some (.ref 79), none, some (.int x2), some (.int s.1), some (.int s.2), none, none, none] [] (zE L, M, N) v σ2) (fun r : Int32 => v = some (.int r) ∧ σ2 = (zE L, M, N)) (fun s r h hk => zg_251_H7 hd x2 M N s h hk) s r h hK
set_option maxRecDepth 20000 in
theorem zg_251 {Γ : jb_G} {L : Nat} {d : Nat} (hd : 3 ≤ d) (x1 : Int32) (x2 : Int32) (M : jb_Mi) (N : jb_Ml) {v : Option Value} {σ2 : jb_S} {r : (Int32)} (h : zf_251 x1 x2 M = some r) (hK : (fun r : Int32 => v = some (.int r) ∧ σ2 = (zE L, M, N)) r) : jb_V Γ d zq_251 0 [some (.ref 79), some (.int x1), some (.int x2), none, none, none, none, none] [] (zE L, M, N) v σ2 := by
  obtain ⟨d, rfl⟩ : ∃ e, d = e + 1 := ⟨d - 1, by omega⟩
  unfold zf_251 at h
  refine jb_seg 6 (pc' := 7) (ls' := [some (.ref 79), some (.int x1), some (.int x2), some (.int ((1 : Int32) <<< (x1 &&& 31))), some (.int 0), none, none, none]) (st' := []) (σ' := (zE L, M, N)) (G := []) rfl trivial ?_
  exact jb_mask [true, false, true, true, true, false, false, false] rfl (zg_251_H7L hd x2 M N h hK)
theorem ze_251 {Γ : jb_G} {L : Nat} {d : Nat} (hd : 3 ≤ d) (x1 : Int32) (x2 : Int32) (M : jb_Mi) (N : jb_Ml) {r : (Int32)} (h : zf_251 x1 x2 M = some r) : jb_V Γ d zq_251 0 (jb_en 8 [(.ref 79), (.int x1), (.int x2)]) [] (zE L, M, N) (some (.int r)) (zE L, M, N) := zg_251 hd x1 x2 M N h ⟨rfl, rfl⟩
-- X13_knocked
set_option maxRecDepth 20000 in
theorem zg_252 {Γ : jb_G} {L : Nat} {d : Nat} (hd : 4 ≤ d) (x1 : Int32) (x2 : Int32) (M : jb_Mi) (N : jb_Ml) {v : Option Value} {σ2 : jb_S} {r : (Int32)} (h : zf_252 x1 x2 M = some r) (hK : (fun r : Int32 => v = some (.int r) ∧ σ2 = (zE L, M, N)) r) : jb_V Γ d zq_252 0 [some (.ref 79), some (.int x1), some (.int x2)] [] (zE L, M, N) v σ2 := by
  obtain ⟨d, rfl⟩ : ∃ e, d = e + 1 := ⟨d - 1, by omega⟩
  unfold zf_252 at h
  refine jb_seg 2 (pc' := 2) (ls' := [some (.ref 79), some (.int x1), some (.int x2)]) (st' := [(.int x1), (.ref 79)]) (σ' := (zE L, M, N)) (G := []) rfl trivial ?_
  obtain ⟨q1, h1, h⟩ := jb_bd_of h
  refine jb_callV (q' := zq_172) (As := [(.int x1)]) (rest := []) (σ1 := (zE L, M, N)) (v := some (.int (jb_b2i q1))) rfl rfl zp_172 rfl (Nat.le_of_ble_eq_true rfl) (jb_cat rfl) (Nat.le_of_ble_eq_true rfl) (Nat.le_of_ble_eq_true rfl) (Or.inl rfl) rfl (ze_172 (by omega) x1 M N h1) ?_
  refine jb_seg 1 (pc' := (if (jb_b2i q1) = 0 then 17 else 8)) (ls' := [some (.ref 79), some (.int x1), some (.int x2)]) (st' := []) (σ' := (zE L, M, N)) (G := []) rfl trivial ?_
  refine jb_ite (fun c => ?_) (fun c => ?_)
  · replace h := (if_pos c).symm.trans h
    refine jb_seg 1 (pc' := 18) (ls' := [some (.ref 79), some (.int x1), some (.int x2)]) (st' := [(.int (-1))]) (σ' := (zE L, M, N)) (G := []) rfl trivial ?_
    obtain rfl := Option.some.inj h
    obtain ⟨rfl, rfl⟩ := hK
    exact jb_reti rfl rfl
  · replace h := (if_neg c).symm.trans h
    refine jb_seg 3 (pc' := 11) (ls' := [some (.ref 79), some (.int x1), some (.int x2)]) (st' := [(.int x2), (.int x1), (.ref 79)]) (σ' := (zE L, M, N)) (G := []) rfl trivial ?_
    obtain ⟨q2, h2, h⟩ := jb_bd_of h
    refine jb_callV (q' := zq_251) (As := [(.int x1), (.int x2)]) (rest := []) (σ1 := (zE L, M, N)) (v := some (.int q2)) rfl rfl zp_251 rfl (Nat.le_of_ble_eq_true rfl) (jb_cat rfl) (Nat.le_of_ble_eq_true rfl) (Nat.le_of_ble_eq_true rfl) (Or.inl rfl) rfl (ze_251 (by omega) x1 x2 M N h2) ?_
    refine jb_seg 1 (pc' := 18) (ls' := [some (.ref 79), some (.int x1), some (.int x2)]) (st' := [(.int q2)]) (σ' := (zE L, M, N)) (G := []) rfl trivial ?_
    obtain rfl := Option.some.inj h
    obtain ⟨rfl, rfl⟩ := hK
    exact jb_reti rfl rfl
theorem ze_252 {Γ : jb_G} {L : Nat} {d : Nat} (hd : 4 ≤ d) (x1 : Int32) (x2 : Int32) (M : jb_Mi) (N : jb_Ml) {r : (Int32)} (h : zf_252 x1 x2 M = some r) : jb_V Γ d zq_252 0 (jb_en 3 [(.ref 79), (.int x1), (.int x2)]) [] (zE L, M, N) (some (.int r)) (zE L, M, N) := zg_252 hd x1 x2 M N h ⟨rfl, rfl⟩
-- X13_standing
set_option maxRecDepth 20000 in
theorem zg_253_J24 {Γ : jb_G} {L : Nat} {d : Nat} (hd : 3 ≤ d) (x1 : Int32) (x2 : Int32) (M : jb_Mi) (N : jb_Ml) {v : Option Value} {σ2 : jb_S} {r : ((Int32 × Int32) ⊕ (Int32))} (h : zf_253_J24 x1 x2 M = some r) (hK : (jb_K (fun s : Int32 × Int32 => jb_V Γ d zq_253 4 [some (.ref 79), some (.int s.1), some (.int s.2)] [] (zE L, M, N) v σ2) (fun r : Int32 => v = some (.int r) ∧ σ2 = (zE L, M, N))) r) : jb_V Γ d zq_253 24 [some (.ref 79), some (.int x1), some (.int x2)] [] (zE L, M, N) v σ2 := by
  obtain ⟨d, rfl⟩ : ∃ e, d = e + 1 := ⟨d - 1, by omega⟩
  unfold zf_253_J24 at h
  refine jb_seg 2 (pc' := 4) (ls' := [some (.ref 79), some (.int x1), some (.int (x2 + 1))]) (st' := []) (σ' := (zE L, M, N)) (G := []) rfl trivial ?_
  obtain rfl := Option.some.inj h
  exact jb_mask [true, true, true] rfl hK
set_option maxRecDepth 20000 in
theorem zg_253_H4 {Γ : jb_G} {L : Nat} {d : Nat} (hd : 3 ≤ d) (M : jb_Mi) (N : jb_Ml) (s : Int32 × Int32) {v : Option Value} {σ2 : jb_S} {r : ((Int32 × Int32) ⊕ (Int32))} (h : zf_253_H4 M s = some r) (hK : (jb_K (fun s : Int32 × Int32 => jb_V Γ d zq_253 4 [some (.ref 79), some (.int s.1), some (.int s.2)] [] (zE L, M, N) v σ2) (fun r : Int32 => v = some (.int r) ∧ σ2 = (zE L, M, N))) r) : jb_V Γ d zq_253 4 [some (.ref 79), some (.int s.1), some (.int s.2)] [] (zE L, M, N) v σ2 := by
  obtain ⟨d, rfl⟩ : ∃ e, d = e + 1 := ⟨d - 1, by omega⟩
  unfold zf_253_H4 at h
  refine jb_seg 3 (pc' := (if s.2 < 6 then 10 else 30)) (ls' := [some (.ref 79), some (.int s.1), some (.int s.2)]) (st' := []) (σ' := (zE L, M, N)) (G := []) rfl trivial ?_
  refine jb_ite (fun c => ?_) (fun c => ?_)
  · replace h := (if_pos c).symm.trans h
    refine jb_seg 2 (pc' := 12) (ls' := [some (.ref 79), some (.int s.1), some (.int s.2)]) (st' := [(.int s.2), (.ref 79)]) (σ' := (zE L, M, N)) (G := []) rfl trivial ?_
    obtain ⟨q1, h1, h⟩ := jb_bd_of h
    refine jb_callV (q' := zq_172) (As := [(.int s.2)]) (rest := []) (σ1 := (zE L, M, N)) (v := some (.int (jb_b2i q1))) rfl rfl zp_172 rfl (Nat.le_of_ble_eq_true rfl) (jb_cat rfl) (Nat.le_of_ble_eq_true rfl) (Nat.le_of_ble_eq_true rfl) (Or.inl rfl) rfl (ze_172 (by omega) s.2 M N h1) ?_
    refine jb_seg 1 (pc' := (if (jb_b2i q1) = 0 then 24 else 18)) (ls' := [some (.ref 79), some (.int s.1), some (.int s.2)]) (st' := []) (σ' := (zE L, M, N)) (G := []) rfl trivial ?_
    refine jb_ite (fun c => ?_) (fun c => ?_)
    · replace h := (if_pos c).symm.trans h
      exact jb_mask [true, true, true] rfl (zg_253_J24 hd s.1 s.2 M N h hK)
    · replace h := (if_neg c).symm.trans h
      refine jb_seg 6 (pc' := 24) (ls' := [some (.ref 79), some (.int (s.1 ||| ((1 : Int32) <<< (s.2 &&& 31)))), some (.int s.2)]) (st' := []) (σ' := (zE L, M, N)) (G := []) rfl trivial ?_
      exact jb_mask [true, true, true] rfl (zg_253_J24 hd (s.1 ||| ((1 : Int32) <<< (s.2 &&& 31))) s.2 M N h hK)
  · replace h := (if_neg c).symm.trans h
    refine jb_seg 1 (pc' := 31) (ls' := [some (.ref 79), some (.int s.1), some (.int s.2)]) (st' := [(.int s.1)]) (σ' := (zE L, M, N)) (G := []) rfl trivial ?_
    obtain rfl := Option.some.inj h
    obtain ⟨rfl, rfl⟩ := hK
    exact jb_reti rfl rfl
theorem zg_253_H4L {Γ : jb_G} {L : Nat} {d : Nat} (hd : 3 ≤ d) (M : jb_Mi) (N : jb_Ml) {v : Option Value} {σ2 : jb_S} {s : Int32 × Int32} {r : (Int32)} (h : jb_lp (zf_253_H4 M) s = some r) (hK : (fun r : Int32 => v = some (.int r) ∧ σ2 = (zE L, M, N)) r) : jb_V Γ d zq_253 4 [some (.ref 79), some (.int s.1), some (.int s.2)] [] (zE L, M, N) v σ2 := by
  exact @jb_lp_ind (Int32 × Int32) ((Int32)) (zf_253_H4 M) (fun s => jb_V Γ d zq_253 4 [some (.ref 79), some (.int s.1), some (.int s.2)] [] (zE L, M, N) v σ2) (fun r : Int32 => v = some (.int r) ∧ σ2 = (zE L, M, N)) (fun s r h hk => zg_253_H4 hd M N s h hk) s r h hK
set_option maxRecDepth 20000 in
theorem zg_253 {Γ : jb_G} {L : Nat} {d : Nat} (hd : 3 ≤ d) (M : jb_Mi) (N : jb_Ml) {v : Option Value} {σ2 : jb_S} {r : (Int32)} (h : zf_253 M = some r) (hK : (fun r : Int32 => v = some (.int r) ∧ σ2 = (zE L, M, N)) r) : jb_V Γ d zq_253 0 [some (.ref 79), none, none] [] (zE L, M, N) v σ2 := by
  obtain ⟨d, rfl⟩ : ∃ e, d = e + 1 := ⟨d - 1, by omega⟩
  unfold zf_253 at h
  refine jb_seg 4 (pc' := 4) (ls' := [some (.ref 79), some (.int 0), some (.int 0)]) (st' := []) (σ' := (zE L, M, N)) (G := []) rfl trivial ?_
  exact jb_mask [true, true, true] rfl (zg_253_H4L hd M N h hK)
theorem ze_253 {Γ : jb_G} {L : Nat} {d : Nat} (hd : 3 ≤ d) (M : jb_Mi) (N : jb_Ml) {r : (Int32)} (h : zf_253 M = some r) : jb_V Γ d zq_253 0 (jb_en 3 [(.ref 79)]) [] (zE L, M, N) (some (.int r)) (zE L, M, N) := zg_253 hd M N h ⟨rfl, rfl⟩
-- X13_allFall
set_option maxRecDepth 20000 in
theorem zg_254_J36 {Γ : jb_G} {L : Nat} {d : Nat} (hd : 4 ≤ d) (x1 : Int32) (x2 : Int32) (x3 : Int32) (x4 : Int32) (M : jb_Mi) (N : jb_Ml) {v : Option Value} {σ2 : jb_S} {r : ((Int32 × Int32) ⊕ (Bool))} (h : zf_254_J36 x1 x2 x3 x4 M = some r) (hK : (jb_K (fun s : Int32 × Int32 => jb_V Γ d zq_254 5 [some (.ref 79), some (.int x1), some (.int x2), some (.int s.1), some (.int s.2)] [] (zE L, M, N) v σ2) (fun r : Bool => v = some (.int (jb_b2i r)) ∧ σ2 = (zE L, M, N))) r) : jb_V Γ d zq_254 36 [some (.ref 79), some (.int x1), some (.int x2), some (.int x3), some (.int x4)] [] (zE L, M, N) v σ2 := by
  obtain ⟨d, rfl⟩ : ∃ e, d = e + 1 := ⟨d - 1, by omega⟩
  unfold zf_254_J36 at h
  refine jb_seg 2 (pc' := 5) (ls' := [some (.ref 79), some (.int x1), some (.int x2), some (.int x3), some (.int (x4 + 1))]) (st' := []) (σ' := (zE L, M, N)) (G := []) rfl trivial ?_
  obtain rfl := Option.some.inj h
  exact jb_mask [true, true, true, true, true] rfl hK
set_option maxRecDepth 20000 in
theorem zg_254_H5 {Γ : jb_G} {L : Nat} {d : Nat} (hd : 4 ≤ d) (x1 : Int32) (x2 : Int32) (M : jb_Mi) (N : jb_Ml) (s : Int32 × Int32) {v : Option Value} {σ2 : jb_S} {r : ((Int32 × Int32) ⊕ (Bool))} (h : zf_254_H5 x1 x2 M s = some r) (hK : (jb_K (fun s : Int32 × Int32 => jb_V Γ d zq_254 5 [some (.ref 79), some (.int x1), some (.int x2), some (.int s.1), some (.int s.2)] [] (zE L, M, N) v σ2) (fun r : Bool => v = some (.int (jb_b2i r)) ∧ σ2 = (zE L, M, N))) r) : jb_V Γ d zq_254 5 [some (.ref 79), some (.int x1), some (.int x2), some (.int s.1), some (.int s.2)] [] (zE L, M, N) v σ2 := by
  obtain ⟨d, rfl⟩ : ∃ e, d = e + 1 := ⟨d - 1, by omega⟩
  unfold zf_254_H5 at h
  refine jb_seg 3 (pc' := (if s.2 < 6 then 12 else 42)) (ls' := [some (.ref 79), some (.int x1), some (.int x2), some (.int s.1), some (.int s.2)]) (st' := []) (σ' := (zE L, M, N)) (G := []) rfl trivial ?_
  refine jb_ite (fun c => ?_) (fun c => ?_)
  · replace h := (if_pos c).symm.trans h
    refine jb_seg 2 (pc' := 15) (ls' := [some (.ref 79), some (.int x1), some (.int x2), some (.int s.1), some (.int s.2)]) (st' := [(.int s.2), (.int x1)]) (σ' := (zE L, M, N)) (G := []) rfl trivial ?_
    refine jb_callS (q' := zq_168) (As := [(.int x1), (.int s.2)]) (rest := []) (σ1 := (zE L, M, N)) (v := some (.int (jb_b2i (zf_168 x1 s.2)))) rfl (Nat.le_of_ble_eq_true rfl) rfl zp_168 (jb_cat rfl) (Nat.le_of_ble_eq_true rfl) (Nat.le_of_ble_eq_true rfl) (Or.inl rfl) rfl (ze_168 x1 s.2 M N rfl) ?_
    refine jb_seg 1 (pc' := (if (jb_b2i (zf_168 x1 s.2)) = 0 then 36 else 21)) (ls' := [some (.ref 79), some (.int x1), some (.int x2), some (.int s.1), some (.int s.2)]) (st' := []) (σ' := (zE L, M, N)) (G := []) rfl trivial ?_
    refine jb_ite (fun c => ?_) (fun c => ?_)
    · replace h := (if_pos c).symm.trans h
      exact jb_mask [true, true, true, true, true] rfl (zg_254_J36 hd x1 x2 s.1 s.2 M N h hK)
    · replace h := (if_neg c).symm.trans h
      refine jb_seg 5 (pc' := 28) (ls' := [some (.ref 79), some (.int x1), some (.int x2), some (.int s.1), some (.int s.2)]) (st' := [(.int s.2), (.int x2), (.int s.2), (.ref 79), (.int s.1)]) (σ' := (zE L, M, N)) (G := []) rfl trivial ?_
      refine jb_callS (q' := zq_168) (As := [(.int x2), (.int s.2)]) (rest := [(.int s.2), (.ref 79), (.int s.1)]) (σ1 := (zE L, M, N)) (v := some (.int (jb_b2i (zf_168 x2 s.2)))) rfl (Nat.le_of_ble_eq_true rfl) rfl zp_168 (jb_cat rfl) (Nat.le_of_ble_eq_true rfl) (Nat.le_of_ble_eq_true rfl) (Or.inl rfl) rfl (ze_168 x2 s.2 M N rfl) ?_
      obtain ⟨q1, h1, h⟩ := jb_bd_of h
      refine jb_callV (q' := zq_251) (As := [(.int s.2), (.int (jb_b2i (zf_168 x2 s.2)))]) (rest := [(.int s.1)]) (σ1 := (zE L, M, N)) (v := some (.int q1)) rfl rfl zp_251 rfl (Nat.le_of_ble_eq_true rfl) (jb_cat rfl) (Nat.le_of_ble_eq_true rfl) (Nat.le_of_ble_eq_true rfl) (Or.inl rfl) rfl (ze_251 (by omega) s.2 (jb_b2i (zf_168 x2 s.2)) M N h1) ?_
      refine jb_seg 2 (pc' := 36) (ls' := [some (.ref 79), some (.int x1), some (.int x2), some (.int (s.1 ||| q1)), some (.int s.2)]) (st' := []) (σ' := (zE L, M, N)) (G := []) rfl trivial ?_
      exact jb_mask [true, true, true, true, true] rfl (zg_254_J36 hd x1 x2 (s.1 ||| q1) s.2 M N h hK)
  · replace h := (if_neg c).symm.trans h
    refine jb_seg 2 (pc' := 44) (ls' := [some (.ref 79), some (.int x1), some (.int x2), some (.int s.1), some (.int s.2)]) (st' := [(.ref 79), (.int s.1)]) (σ' := (zE L, M, N)) (G := []) rfl trivial ?_
    obtain ⟨q2, h2, h⟩ := jb_bd_of h
    refine jb_callV (q' := zq_253) (As := []) (rest := [(.int s.1)]) (σ1 := (zE L, M, N)) (v := some (.int q2)) rfl rfl zp_253 rfl (Nat.le_of_ble_eq_true rfl) (jb_cat rfl) (Nat.le_of_ble_eq_true rfl) (Nat.le_of_ble_eq_true rfl) (Or.inl rfl) rfl (ze_253 (by omega) M N h2) ?_
    refine jb_seg 1 (pc' := (if s.1 = q2 then 50 else 54)) (ls' := [some (.ref 79), some (.int x1), some (.int x2), some (.int s.1), some (.int s.2)]) (st' := []) (σ' := (zE L, M, N)) (G := []) rfl trivial ?_
    refine jb_ite (fun c => ?_) (fun c => ?_)
    · replace h := (if_pos c).symm.trans h
      refine jb_seg 2 (pc' := 55) (ls' := [some (.ref 79), some (.int x1), some (.int x2), some (.int s.1), some (.int s.2)]) (st' := [(.int 1)]) (σ' := (zE L, M, N)) (G := []) rfl trivial ?_
      obtain rfl := Option.some.inj h
      obtain ⟨rfl, rfl⟩ := hK
      exact jb_retz (by decide) rfl rfl
    · replace h := (if_neg c).symm.trans h
      refine jb_seg 1 (pc' := 55) (ls' := [some (.ref 79), some (.int x1), some (.int x2), some (.int s.1), some (.int s.2)]) (st' := [(.int 0)]) (σ' := (zE L, M, N)) (G := []) rfl trivial ?_
      obtain rfl := Option.some.inj h
      obtain ⟨rfl, rfl⟩ := hK
      exact jb_retz (by decide) rfl rfl
theorem zg_254_H5L {Γ : jb_G} {L : Nat} {d : Nat} (hd : 4 ≤ d) (x1 : Int32) (x2 : Int32) (M : jb_Mi) (N : jb_Ml) {v : Option Value} {σ2 : jb_S} {s : Int32 × Int32} {r : (Bool)} (h : jb_lp (zf_254_H5 x1 x2 M) s = some r) (hK : (fun r : Bool => v = some (.int (jb_b2i r)) ∧ σ2 = (zE L, M, N)) r) : jb_V Γ d zq_254 5 [some (.ref 79), some (.int x1), some (.int x2), some (.int s.1), some (.int s.2)] [] (zE L, M, N) v σ2 := by
  exact @jb_lp_ind (Int32 × Int32) ((Bool)) (zf_254_H5 x1 x2 M) (fun s => jb_V Γ d zq_254 5 [some (.ref 79), some (.int x1), some (.int x2), some (.int s.1), some (.int s.2)] [] (zE L, M, N) v σ2) (fun r : Bool => v = some (.int (jb_b2i r)) ∧ σ2 = (zE L, M, N)) (fun s r h hk => zg_254_H5 hd x1 x2 M N s h hk) s r h hK
set_option maxRecDepth 20000 in
theorem zg_254 {Γ : jb_G} {L : Nat} {d : Nat} (hd : 4 ≤ d) (x1 : Int32) (x2 : Int32) (M : jb_Mi) (N : jb_Ml) {v : Option Value} {σ2 : jb_S} {r : (Bool)} (h : zf_254 x1 x2 M = some r) (hK : (fun r : Bool => v = some (.int (jb_b2i r)) ∧ σ2 = (zE L, M, N)) r) : jb_V Γ d zq_254 0 [some (.ref 79), some (.int x1), some (.int x2), none, none] [] (zE L, M, N) v σ2 := by
  obtain ⟨d, rfl⟩ : ∃ e, d = e + 1 := ⟨d - 1, by omega⟩
  unfold zf_254 at h
  refine jb_seg 4 (pc' := 5) (ls' := [some (.ref 79), some (.int x1), some (.int x2), some (.int 0), some (.int 0)]) (st' := []) (σ' := (zE L, M, N)) (G := []) rfl trivial ?_
  exact jb_mask [true, true, true, true, true] rfl (zg_254_H5L hd x1 x2 M N h hK)
theorem ze_254 {Γ : jb_G} {L : Nat} {d : Nat} (hd : 4 ≤ d) (x1 : Int32) (x2 : Int32) (M : jb_Mi) (N : jb_Ml) {r : (Bool)} (h : zf_254 x1 x2 M = some r) : jb_V Γ d zq_254 0 (jb_en 5 [(.ref 79), (.int x1), (.int x2)]) [] (zE L, M, N) (some (.int (jb_b2i r))) (zE L, M, N) := zg_254 hd x1 x2 M N h ⟨rfl, rfl⟩
-- X13_fewest
set_option maxRecDepth 20000 in
theorem zg_255_J130 {Γ : jb_G} {L : Nat} {d : Nat} (hd : 5 ≤ d) (x1 : Int32) (x2 : Int32) (x3 : Int32) (x4 : Int32) (M : jb_Mi) (N : jb_Ml) {v : Option Value} {σ2 : jb_S} {r : ((Int32 × Int32) ⊕ (Int32))} (h : zf_255_J130 x1 x2 x3 x4 M = some r) (hK : (jb_K (fun s : Int32 × Int32 => jb_V Γ d zq_255 21 [some (.ref 79), some (.int x1), some (.int x2), some (.int s.1), some (.int s.2), none, none] [] (zE L, M, N) v σ2) (fun r : Int32 => v = some (.int r) ∧ σ2 = (zE L, M, N))) r) : jb_V Γ d zq_255 130 [some (.ref 79), some (.int x1), some (.int x2), some (.int x3), some (.int x4), none, none] [] (zE L, M, N) v σ2 := by
  obtain ⟨d, rfl⟩ : ∃ e, d = e + 1 := ⟨d - 1, by omega⟩
  unfold zf_255_J130 at h
  refine jb_seg 2 (pc' := 21) (ls' := [some (.ref 79), some (.int x1), some (.int x2), some (.int x3), some (.int (x4 + 1)), none, none]) (st' := []) (σ' := (zE L, M, N)) (G := []) rfl trivial ?_
  obtain rfl := Option.some.inj h
  exact jb_mask [true, true, true, true, true, false, false] rfl hK
set_option maxRecDepth 20000 in
theorem zg_255_J114 {Γ : jb_G} {L : Nat} {d : Nat} (hd : 5 ≤ d) (x1 : Int32) (x2 : Int32) (x3 : Int32) (x4 : Int32) (x6 : Int32) (s0 : Int32) (M : jb_Mi) (N : jb_Ml) {v : Option Value} {σ2 : jb_S} {r : ((Int32 × Int32) ⊕ ((Int32 × Int32) ⊕ (Int32)))} (h : zf_255_J114 x1 x2 x3 x4 x6 s0 M = some r) (hK : (jb_K (fun s : Int32 × Int32 => jb_V Γ d zq_255 76 [some (.ref 79), some (.int x1), some (.int x2), some (.int x3), some (.int x4), some (.int s.1), some (.int s.2)] [] (zE L, M, N) v σ2) (jb_K (fun s : Int32 × Int32 => jb_V Γ d zq_255 21 [some (.ref 79), some (.int x1), some (.int x2), some (.int s.1), some (.int s.2), none, none] [] (zE L, M, N) v σ2) (fun r : Int32 => v = some (.int r) ∧ σ2 = (zE L, M, N)))) r) : jb_V Γ d zq_255 114 [some (.ref 79), some (.int x1), some (.int x2), some (.int x3), some (.int x4), none, some (.int x6)] [(.int s0)] (zE L, M, N) v σ2 := by
  obtain ⟨d, rfl⟩ : ∃ e, d = e + 1 := ⟨d - 1, by omega⟩
  unfold zf_255_J114 at h
  refine jb_seg 3 (pc' := 76) (ls' := [some (.ref 79), some (.int x1), some (.int x2), some (.int x3), some (.int x4), some (.int s0), some (.int (x6 + 1))]) (st' := []) (σ' := (zE L, M, N)) (G := []) rfl trivial ?_
  obtain rfl := Option.some.inj h
  exact jb_mask [true, true, true, true, true, true, true] rfl hK
set_option maxRecDepth 20000 in
theorem zg_255_J113 {Γ : jb_G} {L : Nat} {d : Nat} (hd : 5 ≤ d) (x1 : Int32) (x2 : Int32) (x3 : Int32) (x4 : Int32) (x6 : Int32) (M : jb_Mi) (N : jb_Ml) {v : Option Value} {σ2 : jb_S} {r : ((Int32 × Int32) ⊕ ((Int32 × Int32) ⊕ (Int32)))} (h : zf_255_J113 x1 x2 x3 x4 x6 M = some r) (hK : (jb_K (fun s : Int32 × Int32 => jb_V Γ d zq_255 76 [some (.ref 79), some (.int x1), some (.int x2), some (.int x3), some (.int x4), some (.int s.1), some (.int s.2)] [] (zE L, M, N) v σ2) (jb_K (fun s : Int32 × Int32 => jb_V Γ d zq_255 21 [some (.ref 79), some (.int x1), some (.int x2), some (.int s.1), some (.int s.2), none, none] [] (zE L, M, N) v σ2) (fun r : Int32 => v = some (.int r) ∧ σ2 = (zE L, M, N)))) r) : jb_V Γ d zq_255 113 [some (.ref 79), some (.int x1), some (.int x2), some (.int x3), some (.int x4), none, some (.int x6)] [] (zE L, M, N) v σ2 := by
  obtain ⟨d, rfl⟩ : ∃ e, d = e + 1 := ⟨d - 1, by omega⟩
  unfold zf_255_J113 at h
  refine jb_seg 1 (pc' := 114) (ls' := [some (.ref 79), some (.int x1), some (.int x2), some (.int x3), some (.int x4), none, some (.int x6)]) (st' := [(.int 0)]) (σ' := (zE L, M, N)) (G := []) rfl trivial ?_
  exact jb_mask [true, true, true, true, true, false, true] rfl (zg_255_J114 hd x1 x2 x3 x4 x6 0 M N h hK)
set_option maxRecDepth 20000 in
theorem zg_255_J122 {Γ : jb_G} {L : Nat} {d : Nat} (hd : 5 ≤ d) (x1 : Int32) (x2 : Int32) (x3 : Int32) (x4 : Int32) (x5 : Int32) (M : jb_Mi) (N : jb_Ml) {v : Option Value} {σ2 : jb_S} {r : ((Int32 × Int32) ⊕ (Int32))} (h : zf_255_J122 x1 x2 x3 x4 x5 M = some r) (hK : (jb_K (fun s : Int32 × Int32 => jb_V Γ d zq_255 21 [some (.ref 79), some (.int x1), some (.int x2), some (.int s.1), some (.int s.2), none, none] [] (zE L, M, N) v σ2) (fun r : Int32 => v = some (.int r) ∧ σ2 = (zE L, M, N))) r) : jb_V Γ d zq_255 122 [some (.ref 79), some (.int x1), some (.int x2), some (.int x3), some (.int x4), some (.int x5), none] [] (zE L, M, N) v σ2 := by
  obtain ⟨d, rfl⟩ : ∃ e, d = e + 1 := ⟨d - 1, by omega⟩
  unfold zf_255_J122 at h
  refine jb_seg 2 (pc' := (if x5 = 0 then 130 else 127)) (ls' := [some (.ref 79), some (.int x1), some (.int x2), some (.int x3), some (.int x4), some (.int x5), none]) (st' := []) (σ' := (zE L, M, N)) (G := []) rfl trivial ?_
  refine jb_ite (fun c => ?_) (fun c => ?_)
  · replace h := (if_pos c).symm.trans h
    exact jb_mask [true, true, true, true, true, false, false] rfl (zg_255_J130 hd x1 x2 x3 x4 M N h hK)
  · replace h := (if_neg c).symm.trans h
    refine jb_seg 2 (pc' := 130) (ls' := [some (.ref 79), some (.int x1), some (.int x2), some (.int x4), some (.int x4), some (.int x5), none]) (st' := []) (σ' := (zE L, M, N)) (G := []) rfl trivial ?_
    exact jb_mask [true, true, true, true, true, false, false] rfl (zg_255_J130 hd x1 x2 x4 x4 M N h hK)
set_option maxRecDepth 20000 in
theorem zg_255_H76 {Γ : jb_G} {L : Nat} {d : Nat} (hd : 5 ≤ d) (x1 : Int32) (x2 : Int32) (x3 : Int32) (x4 : Int32) (M : jb_Mi) (N : jb_Ml) (s : Int32 × Int32) {v : Option Value} {σ2 : jb_S} {r : ((Int32 × Int32) ⊕ ((Int32 × Int32) ⊕ (Int32)))} (h : zf_255_H76 x1 x2 x3 x4 M s = some r) (hK : (jb_K (fun s : Int32 × Int32 => jb_V Γ d zq_255 76 [some (.ref 79), some (.int x1), some (.int x2), some (.int x3), some (.int x4), some (.int s.1), some (.int s.2)] [] (zE L, M, N) v σ2) (jb_K (fun s : Int32 × Int32 => jb_V Γ d zq_255 21 [some (.ref 79), some (.int x1), some (.int x2), some (.int s.1), some (.int s.2), none, none] [] (zE L, M, N) v σ2) (fun r : Int32 => v = some (.int r) ∧ σ2 = (zE L, M, N)))) r) : jb_V Γ d zq_255 76 [some (.ref 79), some (.int x1), some (.int x2), some (.int x3), some (.int x4), some (.int s.1), some (.int s.2)] [] (zE L, M, N) v σ2 := by
  obtain ⟨d, rfl⟩ : ∃ e, d = e + 1 := ⟨d - 1, by omega⟩
  unfold zf_255_H76 at h
  refine jb_seg 3 (pc' := (if s.2 < 64 then 83 else 122)) (ls' := [some (.ref 79), some (.int x1), some (.int x2), some (.int x3), some (.int x4), some (.int s.1), some (.int s.2)]) (st' := []) (σ' := (zE L, M, N)) (G := []) rfl trivial ?_
  refine jb_ite (fun c => ?_) (fun c => ?_)
  · replace h := (if_pos c).symm.trans h
    refine jb_seg 2 (pc' := (if s.1 = 0 then 88 else 122)) (ls' := [some (.ref 79), some (.int x1), some (.int x2), some (.int x3), some (.int x4), some (.int s.1), some (.int s.2)]) (st' := []) (σ' := (zE L, M, N)) (G := []) rfl trivial ?_
    refine jb_ite (fun c => ?_) (fun c => ?_)
    · replace h := (if_pos c).symm.trans h
      refine jb_seg 6 (pc' := (if (s.2 &&& (x4 ^^^ (-1))) = 0 then 98 else 113)) (ls' := [some (.ref 79), some (.int x1), some (.int x2), some (.int x3), some (.int x4), some (.int s.1), some (.int s.2)]) (st' := []) (σ' := (zE L, M, N)) (G := []) rfl trivial ?_
      refine jb_ite (fun c => ?_) (fun c => ?_)
      · replace h := (if_pos c).symm.trans h
        refine jb_seg 3 (pc' := 103) (ls' := [some (.ref 79), some (.int x1), some (.int x2), some (.int x3), some (.int x4), some (.int s.1), some (.int s.2)]) (st' := [(.int s.2), (.int x4), (.ref 79)]) (σ' := (zE L, M, N)) (G := []) rfl trivial ?_
        obtain ⟨q6, h6, h⟩ := jb_bd_of h
        refine jb_callV (q' := zq_254) (As := [(.int x4), (.int s.2)]) (rest := []) (σ1 := (zE L, M, N)) (v := some (.int (jb_b2i q6))) rfl rfl zp_254 rfl (Nat.le_of_ble_eq_true rfl) (jb_cat rfl) (Nat.le_of_ble_eq_true rfl) (Nat.le_of_ble_eq_true rfl) (Or.inl rfl) rfl (ze_254 (by omega) x4 s.2 M N h6) ?_
        refine jb_seg 1 (pc' := (if (jb_b2i q6) = 0 then 113 else 109)) (ls' := [some (.ref 79), some (.int x1), some (.int x2), some (.int x3), some (.int x4), some (.int s.1), some (.int s.2)]) (st' := []) (σ' := (zE L, M, N)) (G := []) rfl trivial ?_
        refine jb_ite (fun c => ?_) (fun c => ?_)
        · replace h := (if_pos c).symm.trans h
          exact jb_mask [true, true, true, true, true, false, true] rfl (zg_255_J113 hd x1 x2 x3 x4 s.2 M N h hK)
        · replace h := (if_neg c).symm.trans h
          refine jb_seg 2 (pc' := 114) (ls' := [some (.ref 79), some (.int x1), some (.int x2), some (.int x3), some (.int x4), some (.int s.1), some (.int s.2)]) (st' := [(.int 1)]) (σ' := (zE L, M, N)) (G := []) rfl trivial ?_
          exact jb_mask [true, true, true, true, true, false, true] rfl (zg_255_J114 hd x1 x2 x3 x4 s.2 1 M N h hK)
      · replace h := (if_neg c).symm.trans h
        exact jb_mask [true, true, true, true, true, false, true] rfl (zg_255_J113 hd x1 x2 x3 x4 s.2 M N h hK)
    · replace h := (if_neg c).symm.trans h
      obtain ⟨y0, hy0, rfl⟩ := jb_mp_of h
      exact jb_mask [true, true, true, true, true, true, false] rfl (zg_255_J122 hd x1 x2 x3 x4 s.1 M N hy0 hK)
  · replace h := (if_neg c).symm.trans h
    obtain ⟨y0, hy0, rfl⟩ := jb_mp_of h
    exact jb_mask [true, true, true, true, true, true, false] rfl (zg_255_J122 hd x1 x2 x3 x4 s.1 M N hy0 hK)
theorem zg_255_H76L {Γ : jb_G} {L : Nat} {d : Nat} (hd : 5 ≤ d) (x1 : Int32) (x2 : Int32) (x3 : Int32) (x4 : Int32) (M : jb_Mi) (N : jb_Ml) {v : Option Value} {σ2 : jb_S} {s : Int32 × Int32} {r : ((Int32 × Int32) ⊕ (Int32))} (h : jb_lp (zf_255_H76 x1 x2 x3 x4 M) s = some r) (hK : (jb_K (fun s : Int32 × Int32 => jb_V Γ d zq_255 21 [some (.ref 79), some (.int x1), some (.int x2), some (.int s.1), some (.int s.2), none, none] [] (zE L, M, N) v σ2) (fun r : Int32 => v = some (.int r) ∧ σ2 = (zE L, M, N))) r) : jb_V Γ d zq_255 76 [some (.ref 79), some (.int x1), some (.int x2), some (.int x3), some (.int x4), some (.int s.1), some (.int s.2)] [] (zE L, M, N) v σ2 := by
  exact @jb_lp_ind (Int32 × Int32) (((Int32 × Int32) ⊕ (Int32))) (zf_255_H76 x1 x2 x3 x4 M) (fun s => jb_V Γ d zq_255 76 [some (.ref 79), some (.int x1), some (.int x2), some (.int x3), some (.int x4), some (.int s.1), some (.int s.2)] [] (zE L, M, N) v σ2) (jb_K (fun s : Int32 × Int32 => jb_V Γ d zq_255 21 [some (.ref 79), some (.int x1), some (.int x2), some (.int s.1), some (.int s.2), none, none] [] (zE L, M, N) v σ2) (fun r : Int32 => v = some (.int r) ∧ σ2 = (zE L, M, N))) (fun s r h hk => zg_255_H76 hd x1 x2 x3 x4 M N s h hk) s r h hK
set_option maxRecDepth 20000 in
theorem zg_255_J70 {Γ : jb_G} {L : Nat} {d : Nat} (hd : 5 ≤ d) (x1 : Int32) (x2 : Int32) (x3 : Int32) (x4 : Int32) (M : jb_Mi) (N : jb_Ml) {v : Option Value} {σ2 : jb_S} {r : ((Int32 × Int32) ⊕ (Int32))} (h : zf_255_J70 x1 x2 x3 x4 M = some r) (hK : (jb_K (fun s : Int32 × Int32 => jb_V Γ d zq_255 21 [some (.ref 79), some (.int x1), some (.int x2), some (.int s.1), some (.int s.2), none, none] [] (zE L, M, N) v σ2) (fun r : Int32 => v = some (.int r) ∧ σ2 = (zE L, M, N))) r) : jb_V Γ d zq_255 70 [some (.ref 79), some (.int x1), some (.int x2), some (.int x3), some (.int x4), none, none] [] (zE L, M, N) v σ2 := by
  obtain ⟨d, rfl⟩ : ∃ e, d = e + 1 := ⟨d - 1, by omega⟩
  unfold zf_255_J70 at h
  refine jb_seg 4 (pc' := 76) (ls' := [some (.ref 79), some (.int x1), some (.int x2), some (.int x3), some (.int x4), some (.int 0), some (.int 0)]) (st' := []) (σ' := (zE L, M, N)) (G := []) rfl trivial ?_
  exact jb_mask [true, true, true, true, true, true, true] rfl (zg_255_H76L hd x1 x2 x3 x4 M N h hK)
set_option maxRecDepth 20000 in
theorem zg_255_H21 {Γ : jb_G} {L : Nat} {d : Nat} (hd : 5 ≤ d) (x1 : Int32) (x2 : Int32) (M : jb_Mi) (N : jb_Ml) (s : Int32 × Int32) {v : Option Value} {σ2 : jb_S} {r : ((Int32 × Int32) ⊕ (Int32))} (h : zf_255_H21 x1 x2 M s = some r) (hK : (jb_K (fun s : Int32 × Int32 => jb_V Γ d zq_255 21 [some (.ref 79), some (.int x1), some (.int x2), some (.int s.1), some (.int s.2), none, none] [] (zE L, M, N) v σ2) (fun r : Int32 => v = some (.int r) ∧ σ2 = (zE L, M, N))) r) : jb_V Γ d zq_255 21 [some (.ref 79), some (.int x1), some (.int x2), some (.int s.1), some (.int s.2), none, none] [] (zE L, M, N) v σ2 := by
  obtain ⟨d, rfl⟩ : ∃ e, d = e + 1 := ⟨d - 1, by omega⟩
  unfold zf_255_H21 at h
  refine jb_seg 3 (pc' := (if s.2 < 64 then 28 else 136)) (ls' := [some (.ref 79), some (.int x1), some (.int x2), some (.int s.1), some (.int s.2), none, none]) (st' := []) (σ' := (zE L, M, N)) (G := []) rfl trivial ?_
  refine jb_ite (fun c => ?_) (fun c => ?_)
  · replace h := (if_pos c).symm.trans h
    refine jb_seg 6 (pc' := (if (s.2 &&& (x2 ^^^ (-1))) = 0 then 37 else 130)) (ls' := [some (.ref 79), some (.int x1), some (.int x2), some (.int s.1), some (.int s.2), none, none]) (st' := []) (σ' := (zE L, M, N)) (G := []) rfl trivial ?_
    refine jb_ite (fun c => ?_) (fun c => ?_)
    · replace h := (if_pos c).symm.trans h
      refine jb_seg 1 (pc' := 39) (ls' := [some (.ref 79), some (.int x1), some (.int x2), some (.int s.1), some (.int s.2), none, none]) (st' := [(.int s.2)]) (σ' := (zE L, M, N)) (G := []) rfl trivial ?_
      obtain ⟨q2, h2, h⟩ := jb_bd_of h
      refine jb_callS (q' := zq_169) (As := [(.int s.2)]) (rest := []) (σ1 := (zE L, M, N)) (v := some (.int q2)) rfl (Nat.le_of_ble_eq_true rfl) rfl zp_169 (jb_cat rfl) (Nat.le_of_ble_eq_true rfl) (Nat.le_of_ble_eq_true rfl) (Or.inl rfl) rfl (ze_169 s.2 M N h2) ?_
      refine jb_seg 1 (pc' := 43) (ls' := [some (.ref 79), some (.int x1), some (.int x2), some (.int s.1), some (.int s.2), none, none]) (st' := [(.int s.1), (.int q2)]) (σ' := (zE L, M, N)) (G := []) rfl trivial ?_
      obtain ⟨q3, h3, h⟩ := jb_bd_of h
      refine jb_callS (q' := zq_169) (As := [(.int s.1)]) (rest := [(.int q2)]) (σ1 := (zE L, M, N)) (v := some (.int q3)) rfl (Nat.le_of_ble_eq_true rfl) rfl zp_169 (jb_cat rfl) (Nat.le_of_ble_eq_true rfl) (Nat.le_of_ble_eq_true rfl) (Or.inl rfl) rfl (ze_169 s.1 M N h3) ?_
      refine jb_seg 1 (pc' := (if q3 < q2 then 130 else 49)) (ls' := [some (.ref 79), some (.int x1), some (.int x2), some (.int s.1), some (.int s.2), none, none]) (st' := []) (σ' := (zE L, M, N)) (G := []) rfl trivial ?_
      refine jb_ite (fun c => ?_) (fun c => ?_)
      · replace h := (if_pos c).symm.trans h
        exact jb_mask [true, true, true, true, true, false, false] rfl (zg_255_J130 hd x1 x2 s.1 s.2 M N h hK)
      · replace h := (if_neg c).symm.trans h
        refine jb_seg 1 (pc' := 51) (ls' := [some (.ref 79), some (.int x1), some (.int x2), some (.int s.1), some (.int s.2), none, none]) (st' := [(.int s.2)]) (σ' := (zE L, M, N)) (G := []) rfl trivial ?_
        obtain ⟨q4, h4, h⟩ := jb_bd_of h
        refine jb_callS (q' := zq_169) (As := [(.int s.2)]) (rest := []) (σ1 := (zE L, M, N)) (v := some (.int q4)) rfl (Nat.le_of_ble_eq_true rfl) rfl zp_169 (jb_cat rfl) (Nat.le_of_ble_eq_true rfl) (Nat.le_of_ble_eq_true rfl) (Or.inl rfl) rfl (ze_169 s.2 M N h4) ?_
        refine jb_seg 1 (pc' := 55) (ls' := [some (.ref 79), some (.int x1), some (.int x2), some (.int s.1), some (.int s.2), none, none]) (st' := [(.int s.1), (.int q4)]) (σ' := (zE L, M, N)) (G := []) rfl trivial ?_
        obtain ⟨q5, h5, h⟩ := jb_bd_of h
        refine jb_callS (q' := zq_169) (As := [(.int s.1)]) (rest := [(.int q4)]) (σ1 := (zE L, M, N)) (v := some (.int q5)) rfl (Nat.le_of_ble_eq_true rfl) rfl zp_169 (jb_cat rfl) (Nat.le_of_ble_eq_true rfl) (Nat.le_of_ble_eq_true rfl) (Or.inl rfl) rfl (ze_169 s.1 M N h5) ?_
        refine jb_seg 1 (pc' := (if q4 = q5 then 61 else 70)) (ls' := [some (.ref 79), some (.int x1), some (.int x2), some (.int s.1), some (.int s.2), none, none]) (st' := []) (σ' := (zE L, M, N)) (G := []) rfl trivial ?_
        refine jb_ite (fun c => ?_) (fun c => ?_)
        · replace h := (if_pos c).symm.trans h
          refine jb_seg 3 (pc' := (if s.2 < s.1 then 70 else 67)) (ls' := [some (.ref 79), some (.int x1), some (.int x2), some (.int s.1), some (.int s.2), none, none]) (st' := []) (σ' := (zE L, M, N)) (G := []) rfl trivial ?_
          refine jb_ite (fun c => ?_) (fun c => ?_)
          · replace h := (if_pos c).symm.trans h
            exact jb_mask [true, true, true, true, true, false, false] rfl (zg_255_J70 hd x1 x2 s.1 s.2 M N h hK)
          · replace h := (if_neg c).symm.trans h
            refine jb_seg 1 (pc' := 130) (ls' := [some (.ref 79), some (.int x1), some (.int x2), some (.int s.1), some (.int s.2), none, none]) (st' := []) (σ' := (zE L, M, N)) (G := []) rfl trivial ?_
            exact jb_mask [true, true, true, true, true, false, false] rfl (zg_255_J130 hd x1 x2 s.1 s.2 M N h hK)
        · replace h := (if_neg c).symm.trans h
          exact jb_mask [true, true, true, true, true, false, false] rfl (zg_255_J70 hd x1 x2 s.1 s.2 M N h hK)
    · replace h := (if_neg c).symm.trans h
      exact jb_mask [true, true, true, true, true, false, false] rfl (zg_255_J130 hd x1 x2 s.1 s.2 M N h hK)
  · replace h := (if_neg c).symm.trans h
    refine jb_seg 2 (pc' := (if x1 = 0 then 140 else 147)) (ls' := [some (.ref 79), some (.int x1), some (.int x2), some (.int s.1), some (.int s.2), none, none]) (st' := []) (σ' := (zE L, M, N)) (G := []) rfl trivial ?_
    refine jb_ite (fun c => ?_) (fun c => ?_)
    · replace h := (if_pos c).symm.trans h
      refine jb_seg 1 (pc' := 141) (ls' := [some (.ref 79), some (.int x1), some (.int x2), some (.int s.1), some (.int s.2), none, none]) (st' := [(.int s.1)]) (σ' := (zE L, M, N)) (G := []) rfl trivial ?_
      obtain ⟨q7, h7, h⟩ := jb_bd_of h
      refine jb_callS (q' := zq_169) (As := [(.int s.1)]) (rest := []) (σ1 := (zE L, M, N)) (v := some (.int q7)) rfl (Nat.le_of_ble_eq_true rfl) rfl zp_169 (jb_cat rfl) (Nat.le_of_ble_eq_true rfl) (Nat.le_of_ble_eq_true rfl) (Or.inl rfl) rfl (ze_169 s.1 M N h7) ?_
      refine jb_seg 1 (pc' := 148) (ls' := [some (.ref 79), some (.int x1), some (.int x2), some (.int s.1), some (.int s.2), none, none]) (st' := [(.int q7)]) (σ' := (zE L, M, N)) (G := []) rfl trivial ?_
      obtain rfl := Option.some.inj h
      obtain ⟨rfl, rfl⟩ := hK
      exact jb_reti rfl rfl
    · replace h := (if_neg c).symm.trans h
      refine jb_seg 1 (pc' := 148) (ls' := [some (.ref 79), some (.int x1), some (.int x2), some (.int s.1), some (.int s.2), none, none]) (st' := [(.int s.1)]) (σ' := (zE L, M, N)) (G := []) rfl trivial ?_
      obtain rfl := Option.some.inj h
      obtain ⟨rfl, rfl⟩ := hK
      exact jb_reti rfl rfl
theorem zg_255_H21L {Γ : jb_G} {L : Nat} {d : Nat} (hd : 5 ≤ d) (x1 : Int32) (x2 : Int32) (M : jb_Mi) (N : jb_Ml) {v : Option Value} {σ2 : jb_S} {s : Int32 × Int32} {r : (Int32)} (h : jb_lp (zf_255_H21 x1 x2 M) s = some r) (hK : (fun r : Int32 => v = some (.int r) ∧ σ2 = (zE L, M, N)) r) : jb_V Γ d zq_255 21 [some (.ref 79), some (.int x1), some (.int x2), some (.int s.1), some (.int s.2), none, none] [] (zE L, M, N) v σ2 := by
  exact @jb_lp_ind (Int32 × Int32) ((Int32)) (zf_255_H21 x1 x2 M) (fun s => jb_V Γ d zq_255 21 [some (.ref 79), some (.int x1), some (.int x2), some (.int s.1), some (.int s.2), none, none] [] (zE L, M, N) v σ2) (fun r : Int32 => v = some (.int r) ∧ σ2 = (zE L, M, N)) (fun s r h hk => zg_255_H21 hd x1 x2 M N s h hk) s r h hK
set_option maxRecDepth 20000 in
theorem zg_255 {Γ : jb_G} {L : Nat} {d : Nat} (hd : 5 ≤ d) (x1 : Int32) (M : jb_Mi) (N : jb_Ml) {v : Option Value} {σ2 : jb_S} {r : (Int32)} (h : zf_255 x1 M = some r) (hK : (fun r : Int32 => v = some (.int r) ∧ σ2 = (zE L, M, N)) r) : jb_V Γ d zq_255 0 [some (.ref 79), some (.int x1), none, none, none, none, none] [] (zE L, M, N) v σ2 := by
  obtain ⟨d, rfl⟩ : ∃ e, d = e + 1 := ⟨d - 1, by omega⟩
  unfold zf_255 at h
  refine jb_seg 3 (pc' := 3) (ls' := [some (.ref 79), some (.int x1), none, none, none, none, none]) (st' := [(.int 1), (.int 0), (.int x1)]) (σ' := (zE L, M, N)) (G := []) rfl trivial ?_
  refine jb_callS (q' := zq_164) (As := [(.int x1), (.int 0), (.int 1)]) (rest := []) (σ1 := (zE L, M, N)) (v := some (.int (jb_b2i (zf_164 x1 0 1)))) rfl (Nat.le_of_ble_eq_true rfl) rfl zp_164 (jb_cat rfl) (Nat.le_of_ble_eq_true rfl) (Nat.le_of_ble_eq_true rfl) (Or.inl rfl) rfl (ze_164 x1 0 1 M N rfl) ?_
  refine jb_seg 1 (pc' := (if (jb_b2i (zf_164 x1 0 1)) = 0 then 9 else 11)) (ls' := [some (.ref 79), some (.int x1), none, none, none, none, none]) (st' := []) (σ' := (zE L, M, N)) (G := []) rfl trivial ?_
  refine jb_ite (fun c => ?_) (fun c => ?_)
  · replace h := (if_pos c).symm.trans h
    refine jb_seg 1 (pc' := 10) (ls' := [some (.ref 79), some (.int x1), none, none, none, none, none]) (st' := [(.int (-1))]) (σ' := (zE L, M, N)) (G := []) rfl trivial ?_
    obtain rfl := Option.some.inj h
    obtain ⟨rfl, rfl⟩ := hK
    exact jb_reti rfl rfl
  · replace h := (if_neg c).symm.trans h
    refine jb_seg 1 (pc' := 12) (ls' := [some (.ref 79), some (.int x1), none, none, none, none, none]) (st' := [(.ref 79)]) (σ' := (zE L, M, N)) (G := []) rfl trivial ?_
    obtain ⟨q1, h1, h⟩ := jb_bd_of h
    refine jb_callV (q' := zq_253) (As := []) (rest := []) (σ1 := (zE L, M, N)) (v := some (.int q1)) rfl rfl zp_253 rfl (Nat.le_of_ble_eq_true rfl) (jb_cat rfl) (Nat.le_of_ble_eq_true rfl) (Nat.le_of_ble_eq_true rfl) (Or.inl rfl) rfl (ze_253 (by omega) M N h1) ?_
    refine jb_seg 5 (pc' := 21) (ls' := [some (.ref 79), some (.int x1), some (.int q1), some (.int q1), some (.int 0), none, none]) (st' := []) (σ' := (zE L, M, N)) (G := []) rfl trivial ?_
    exact jb_mask [true, true, true, true, true, false, false] rfl (zg_255_H21L hd x1 q1 M N h hK)
theorem ze_255 {Γ : jb_G} {L : Nat} {d : Nat} (hd : 5 ≤ d) (x1 : Int32) (M : jb_Mi) (N : jb_Ml) {r : (Int32)} (h : zf_255 x1 M = some r) : jb_V Γ d zq_255 0 (jb_en 7 [(.ref 79), (.int x1)]) [] (zE L, M, N) (some (.int r)) (zE L, M, N) := zg_255 hd x1 M N h ⟨rfl, rfl⟩
-- X13_emptyWithout
set_option maxRecDepth 20000 in
theorem zg_256_J78 {Γ : jb_G} {L : Nat} {d : Nat} (hd : 3 ≤ d) (x1 : Int32) (x2 : Int32) (x3 : Int32) (x4 : Int32) (x5 : Int32) (M : jb_Mi) (N : jb_Ml) {v : Option Value} {σ2 : jb_S} {r : ((Int32 × Int32 × Int32) ⊕ ((Int32 × Int32) ⊕ (Int32)))} (h : zf_256_J78 x1 x2 x3 x4 x5 M = some r) (hK : (jb_K (fun s : Int32 × Int32 × Int32 => jb_V Γ d zq_256 16 [some (.ref 79), some (.int x1), some (.int s.1), some (.int x3), some (.int s.2.1), some (.int s.2.2), none] [] (zE L, M, N) v σ2) (jb_K (fun s : Int32 × Int32 => jb_V Γ d zq_256 4 [some (.ref 79), some (.int x1), some (.int s.1), some (.int s.2), none, none, none] [] (zE L, M, N) v σ2) (fun r : Int32 => v = some (.int r) ∧ σ2 = (zE L, M, N)))) r) : jb_V Γ d zq_256 78 [some (.ref 79), some (.int x1), some (.int x2), some (.int x3), some (.int x4), some (.int x5), none] [] (zE L, M, N) v σ2 := by
  obtain ⟨d, rfl⟩ : ∃ e, d = e + 1 := ⟨d - 1, by omega⟩
  unfold zf_256_J78 at h
  refine jb_seg 2 (pc' := 16) (ls' := [some (.ref 79), some (.int x1), some (.int x2), some (.int x3), some (.int x4), some (.int (x5 + 1)), none]) (st' := []) (σ' := (zE L, M, N)) (G := []) rfl trivial ?_
  obtain rfl := Option.some.inj h
  exact jb_mask [true, true, true, true, true, true, false] rfl hK
set_option maxRecDepth 20000 in
theorem zg_256_J62 {Γ : jb_G} {L : Nat} {d : Nat} (hd : 3 ≤ d) (x1 : Int32) (x2 : Int32) (x3 : Int32) (x4 : Int32) (x5 : Int32) (M : jb_Mi) (N : jb_Ml) {v : Option Value} {σ2 : jb_S} {r : ((Int32 × Int32 × Int32) ⊕ ((Int32 × Int32) ⊕ (Int32)))} (h : zf_256_J62 x1 x2 x3 x4 x5 M = some r) (hK : (jb_K (fun s : Int32 × Int32 × Int32 => jb_V Γ d zq_256 16 [some (.ref 79), some (.int x1), some (.int s.1), some (.int x3), some (.int s.2.1), some (.int s.2.2), none] [] (zE L, M, N) v σ2) (jb_K (fun s : Int32 × Int32 => jb_V Γ d zq_256 4 [some (.ref 79), some (.int x1), some (.int s.1), some (.int s.2), none, none, none] [] (zE L, M, N) v σ2) (fun r : Int32 => v = some (.int r) ∧ σ2 = (zE L, M, N)))) r) : jb_V Γ d zq_256 62 [some (.ref 79), some (.int x1), some (.int x2), some (.int x3), some (.int x4), some (.int x5), none] [] (zE L, M, N) v σ2 := by
  obtain ⟨d, rfl⟩ : ∃ e, d = e + 1 := ⟨d - 1, by omega⟩
  unfold zf_256_J62 at h
  refine jb_seg 5 (pc' := 78) (ls' := [some (.ref 79), some (.int x1), some (.int (x2 + 1)), some (.int x3), some (.int x4), some (.int x5), none]) (st' := []) (σ' := (zE L, M, N)) (G := []) rfl trivial ?_
  exact jb_mask [true, true, true, true, true, true, false] rfl (zg_256_J78 hd x1 (x2 + 1) x3 x4 x5 M N h hK)
set_option maxRecDepth 20000 in
theorem zg_256_H16 {Γ : jb_G} {L : Nat} {d : Nat} (hd : 3 ≤ d) (x1 : Int32) (x3 : Int32) (M : jb_Mi) (N : jb_Ml) (s : Int32 × Int32 × Int32) {v : Option Value} {σ2 : jb_S} {r : ((Int32 × Int32 × Int32) ⊕ ((Int32 × Int32) ⊕ (Int32)))} (h : zf_256_H16 x1 x3 M s = some r) (hK : (jb_K (fun s : Int32 × Int32 × Int32 => jb_V Γ d zq_256 16 [some (.ref 79), some (.int x1), some (.int s.1), some (.int x3), some (.int s.2.1), some (.int s.2.2), none] [] (zE L, M, N) v σ2) (jb_K (fun s : Int32 × Int32 => jb_V Γ d zq_256 4 [some (.ref 79), some (.int x1), some (.int s.1), some (.int s.2), none, none, none] [] (zE L, M, N) v σ2) (fun r : Int32 => v = some (.int r) ∧ σ2 = (zE L, M, N)))) r) : jb_V Γ d zq_256 16 [some (.ref 79), some (.int x1), some (.int s.1), some (.int x3), some (.int s.2.1), some (.int s.2.2), none] [] (zE L, M, N) v σ2 := by
  obtain ⟨d, rfl⟩ : ∃ e, d = e + 1 := ⟨d - 1, by omega⟩
  unfold zf_256_H16 at h
  refine jb_seg 3 (pc' := (if s.2.2 < 24 then 23 else 84)) (ls' := [some (.ref 79), some (.int x1), some (.int s.1), some (.int x3), some (.int s.2.1), some (.int s.2.2), none]) (st' := []) (σ' := (zE L, M, N)) (G := []) rfl trivial ?_
  refine jb_ite (fun c => ?_) (fun c => ?_)
  · replace h := (if_pos c).symm.trans h
    refine jb_seg 4 (pc' := 28) (ls' := [some (.ref 79), some (.int x1), some (.int s.1), some (.int x3), some (.int s.2.1), some (.int s.2.2), none]) (st' := [(.int (s.2.2 / 4)), (.ref 79)]) (σ' := (zE L, M, N)) (G := [¬ (4 : Int32) = 0]) rfl (show ¬ (4 : Int32) = 0 from (by decide)) ?_
    obtain ⟨q1, h1, h⟩ := jb_bd_of h
    refine jb_callV (q' := zq_172) (As := [(.int (s.2.2 / 4))]) (rest := []) (σ1 := (zE L, M, N)) (v := some (.int (jb_b2i q1))) rfl rfl zp_172 rfl (Nat.le_of_ble_eq_true rfl) (jb_cat rfl) (Nat.le_of_ble_eq_true rfl) (Nat.le_of_ble_eq_true rfl) (Or.inl rfl) rfl (ze_172 (by omega) (s.2.2 / 4) M N h1) ?_
    refine jb_seg 1 (pc' := (if (jb_b2i q1) = 0 then 34 else 37)) (ls' := [some (.ref 79), some (.int x1), some (.int s.1), some (.int x3), some (.int s.2.1), some (.int s.2.2), none]) (st' := []) (σ' := (zE L, M, N)) (G := []) rfl trivial ?_
    refine jb_ite (fun c => ?_) (fun c => ?_)
    · replace h := (if_pos c).symm.trans h
      refine jb_seg 1 (pc' := 78) (ls' := [some (.ref 79), some (.int x1), some (.int s.1), some (.int x3), some (.int s.2.1), some (.int s.2.2), none]) (st' := []) (σ' := (zE L, M, N)) (G := []) rfl trivial ?_
      exact jb_mask [true, true, true, true, true, true, false] rfl (zg_256_J78 hd x1 s.1 x3 s.2.1 s.2.2 M N h hK)
    · replace h := (if_neg c).symm.trans h
      refine jb_seg 3 (pc' := 41) (ls' := [some (.ref 79), some (.int x1), some (.int s.1), some (.int x3), some (.int s.2.1), some (.int s.2.2), none]) (st' := [(.int x3), (.int s.2.2), (.ref 79)]) (σ' := (zE L, M, N)) (G := []) rfl trivial ?_
      obtain ⟨q2, h2, h⟩ := jb_bd_of h
      refine jb_callV (q' := zq_216) (As := [(.int s.2.2), (.int x3)]) (rest := []) (σ1 := (zE L, M, N)) (v := some (.int q2)) rfl rfl zp_216 rfl (Nat.le_of_ble_eq_true rfl) (jb_cat rfl) (Nat.le_of_ble_eq_true rfl) (Nat.le_of_ble_eq_true rfl) (Or.inl rfl) rfl (ze_216 (by omega) s.2.2 x3 M N h2) ?_
      refine jb_seg 4 (pc' := (if q2 = (-1) then 62 else 52)) (ls' := [some (.ref 79), some (.int x1), some (.int s.1), some (.int x3), some (.int s.2.1), some (.int s.2.2), some (.int q2)]) (st' := []) (σ' := (zE L, M, N)) (G := []) rfl trivial ?_
      refine jb_ite (fun c => ?_) (fun c => ?_)
      · replace h := (if_pos c).symm.trans h
        exact jb_mask [true, true, true, true, true, true, false] rfl (zg_256_J62 hd x1 s.1 x3 s.2.1 s.2.2 M N h hK)
      · replace h := (if_neg c).symm.trans h
        refine jb_seg 2 (pc' := 56) (ls' := [some (.ref 79), some (.int x1), some (.int s.1), some (.int x3), some (.int s.2.1), some (.int s.2.2), some (.int q2)]) (st' := [(.int q2), (.int s.2.1)]) (σ' := (zE L, M, N)) (G := []) rfl trivial ?_
        refine jb_callS (q' := zq_168) (As := [(.int s.2.1), (.int q2)]) (rest := []) (σ1 := (zE L, M, N)) (v := some (.int (jb_b2i (zf_168 s.2.1 q2)))) rfl (Nat.le_of_ble_eq_true rfl) rfl zp_168 (jb_cat rfl) (Nat.le_of_ble_eq_true rfl) (Nat.le_of_ble_eq_true rfl) (Or.inl rfl) rfl (ze_168 s.2.1 q2 M N rfl) ?_
        refine jb_seg 1 (pc' := (if (jb_b2i (zf_168 s.2.1 q2)) = 0 then 69 else 62)) (ls' := [some (.ref 79), some (.int x1), some (.int s.1), some (.int x3), some (.int s.2.1), some (.int s.2.2), some (.int q2)]) (st' := []) (σ' := (zE L, M, N)) (G := []) rfl trivial ?_
        refine jb_ite (fun c => ?_) (fun c => ?_)
        · replace h := (if_pos c).symm.trans h
          refine jb_seg 6 (pc' := 78) (ls' := [some (.ref 79), some (.int x1), some (.int s.1), some (.int x3), some (.int (s.2.1 ||| ((1 : Int32) <<< (q2 &&& 31)))), some (.int s.2.2), some (.int q2)]) (st' := []) (σ' := (zE L, M, N)) (G := []) rfl trivial ?_
          exact jb_mask [true, true, true, true, true, true, false] rfl (zg_256_J78 hd x1 s.1 x3 (s.2.1 ||| ((1 : Int32) <<< (q2 &&& 31))) s.2.2 M N h hK)
        · replace h := (if_neg c).symm.trans h
          exact jb_mask [true, true, true, true, true, true, false] rfl (zg_256_J62 hd x1 s.1 x3 s.2.1 s.2.2 M N h hK)
  · replace h := (if_neg c).symm.trans h
    refine jb_seg 2 (pc' := 4) (ls' := [some (.ref 79), some (.int x1), some (.int s.1), some (.int (x3 + 1)), some (.int s.2.1), some (.int s.2.2), none]) (st' := []) (σ' := (zE L, M, N)) (G := []) rfl trivial ?_
    obtain rfl := Option.some.inj h
    exact jb_mask [true, true, true, true, false, false, false] rfl hK
theorem zg_256_H16L {Γ : jb_G} {L : Nat} {d : Nat} (hd : 3 ≤ d) (x1 : Int32) (x3 : Int32) (M : jb_Mi) (N : jb_Ml) {v : Option Value} {σ2 : jb_S} {s : Int32 × Int32 × Int32} {r : ((Int32 × Int32) ⊕ (Int32))} (h : jb_lp (zf_256_H16 x1 x3 M) s = some r) (hK : (jb_K (fun s : Int32 × Int32 => jb_V Γ d zq_256 4 [some (.ref 79), some (.int x1), some (.int s.1), some (.int s.2), none, none, none] [] (zE L, M, N) v σ2) (fun r : Int32 => v = some (.int r) ∧ σ2 = (zE L, M, N))) r) : jb_V Γ d zq_256 16 [some (.ref 79), some (.int x1), some (.int s.1), some (.int x3), some (.int s.2.1), some (.int s.2.2), none] [] (zE L, M, N) v σ2 := by
  exact @jb_lp_ind (Int32 × Int32 × Int32) (((Int32 × Int32) ⊕ (Int32))) (zf_256_H16 x1 x3 M) (fun s => jb_V Γ d zq_256 16 [some (.ref 79), some (.int x1), some (.int s.1), some (.int x3), some (.int s.2.1), some (.int s.2.2), none] [] (zE L, M, N) v σ2) (jb_K (fun s : Int32 × Int32 => jb_V Γ d zq_256 4 [some (.ref 79), some (.int x1), some (.int s.1), some (.int s.2), none, none, none] [] (zE L, M, N) v σ2) (fun r : Int32 => v = some (.int r) ∧ σ2 = (zE L, M, N))) (fun s r h hk => zg_256_H16 hd x1 x3 M N s h hk) s r h hK
set_option maxRecDepth 20000 in
theorem zg_256_H4 {Γ : jb_G} {L : Nat} {d : Nat} (hd : 3 ≤ d) (x1 : Int32) (M : jb_Mi) (N : jb_Ml) (s : Int32 × Int32) {v : Option Value} {σ2 : jb_S} {r : ((Int32 × Int32) ⊕ (Int32))} (h : zf_256_H4 x1 M s = some r) (hK : (jb_K (fun s : Int32 × Int32 => jb_V Γ d zq_256 4 [some (.ref 79), some (.int x1), some (.int s.1), some (.int s.2), none, none, none] [] (zE L, M, N) v σ2) (fun r : Int32 => v = some (.int r) ∧ σ2 = (zE L, M, N))) r) : jb_V Γ d zq_256 4 [some (.ref 79), some (.int x1), some (.int s.1), some (.int s.2), none, none, none] [] (zE L, M, N) v σ2 := by
  obtain ⟨d, rfl⟩ : ∃ e, d = e + 1 := ⟨d - 1, by omega⟩
  unfold zf_256_H4 at h
  refine jb_seg 3 (pc' := (if s.2 < 24 then 10 else 90)) (ls' := [some (.ref 79), some (.int x1), some (.int s.1), some (.int s.2), none, none, none]) (st' := []) (σ' := (zE L, M, N)) (G := []) rfl trivial ?_
  refine jb_ite (fun c => ?_) (fun c => ?_)
  · replace h := (if_pos c).symm.trans h
    refine jb_seg 4 (pc' := 16) (ls' := [some (.ref 79), some (.int x1), some (.int s.1), some (.int s.2), some (.int x1), some (.int 0), none]) (st' := []) (σ' := (zE L, M, N)) (G := []) rfl trivial ?_
    exact jb_mask [true, true, true, true, true, true, false] rfl (zg_256_H16L hd x1 s.2 M N h hK)
  · replace h := (if_neg c).symm.trans h
    refine jb_seg 1 (pc' := 91) (ls' := [some (.ref 79), some (.int x1), some (.int s.1), some (.int s.2), none, none, none]) (st' := [(.int s.1)]) (σ' := (zE L, M, N)) (G := []) rfl trivial ?_
    obtain rfl := Option.some.inj h
    obtain ⟨rfl, rfl⟩ := hK
    exact jb_reti rfl rfl
theorem zg_256_H4L {Γ : jb_G} {L : Nat} {d : Nat} (hd : 3 ≤ d) (x1 : Int32) (M : jb_Mi) (N : jb_Ml) {v : Option Value} {σ2 : jb_S} {s : Int32 × Int32} {r : (Int32)} (h : jb_lp (zf_256_H4 x1 M) s = some r) (hK : (fun r : Int32 => v = some (.int r) ∧ σ2 = (zE L, M, N)) r) : jb_V Γ d zq_256 4 [some (.ref 79), some (.int x1), some (.int s.1), some (.int s.2), none, none, none] [] (zE L, M, N) v σ2 := by
  exact @jb_lp_ind (Int32 × Int32) ((Int32)) (zf_256_H4 x1 M) (fun s => jb_V Γ d zq_256 4 [some (.ref 79), some (.int x1), some (.int s.1), some (.int s.2), none, none, none] [] (zE L, M, N) v σ2) (fun r : Int32 => v = some (.int r) ∧ σ2 = (zE L, M, N)) (fun s r h hk => zg_256_H4 hd x1 M N s h hk) s r h hK
set_option maxRecDepth 20000 in
theorem zg_256 {Γ : jb_G} {L : Nat} {d : Nat} (hd : 3 ≤ d) (x1 : Int32) (M : jb_Mi) (N : jb_Ml) {v : Option Value} {σ2 : jb_S} {r : (Int32)} (h : zf_256 x1 M = some r) (hK : (fun r : Int32 => v = some (.int r) ∧ σ2 = (zE L, M, N)) r) : jb_V Γ d zq_256 0 [some (.ref 79), some (.int x1), none, none, none, none, none] [] (zE L, M, N) v σ2 := by
  obtain ⟨d, rfl⟩ : ∃ e, d = e + 1 := ⟨d - 1, by omega⟩
  unfold zf_256 at h
  refine jb_seg 4 (pc' := 4) (ls' := [some (.ref 79), some (.int x1), some (.int 0), some (.int 0), none, none, none]) (st' := []) (σ' := (zE L, M, N)) (G := []) rfl trivial ?_
  exact jb_mask [true, true, true, true, false, false, false] rfl (zg_256_H4L hd x1 M N h hK)
theorem ze_256 {Γ : jb_G} {L : Nat} {d : Nat} (hd : 3 ≤ d) (x1 : Int32) (M : jb_Mi) (N : jb_Ml) {r : (Int32)} (h : zf_256 x1 M = some r) : jb_V Γ d zq_256 0 (jb_en 7 [(.ref 79), (.int x1)]) [] (zE L, M, N) (some (.int r)) (zE L, M, N) := zg_256 hd x1 M N h ⟨rfl, rfl⟩
