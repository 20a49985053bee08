-- X13_bed
set_option maxRecDepth 20000 in
theorem zg_239_J114 {Γ : jb_G} {L : Nat} {d : Nat} (hd : 2 ≤ d) (x1 : Int32) (x2 : Int32) (x3 : Int32) (x4 : Int32) (x5 : Int32) (x6 : Int32) (M : jb_Mi) (N : jb_Ml) {v : Option Value} {σ2 : jb_S} {r : ((Int32 × Int32 × Int32) ⊕ (Int32))} (h : zf_239_J114 x1 x2 x3 x4 x5 x6 M = some r) (hK : (jb_K (fun s : Int32 × Int32 × Int32 => jb_V Γ d zq_239 40 [some (.ref 79), some (.int x1), some (.int x2), some (.int x3), some (.int s.1), some (.int s.2.1), some (.int s.2.2), none, none] [] (zE L, M, N) v σ2) (fun r : Int32 => v = some (.int r) ∧ σ2 = (zE L, M, N))) r) : jb_V Γ d zq_239 114 [some (.ref 79), some (.int x1), some (.int x2), some (.int x3), some (.int x4), some (.int x5), some (.int x6), none, none] [] (zE L, M, N) v σ2 := by
  obtain ⟨d, rfl⟩ : ∃ e, d = e + 1 := ⟨d - 1, by omega⟩
  unfold zf_239_J114 at h
  refine jb_seg 2 (pc' := 40) (ls' := [some (.ref 79), some (.int x1), some (.int x2), some (.int x3), some (.int x4), some (.int x5), some (.int (x6 + 1)), none, none]) (st' := []) (σ' := (zE L, M, N)) (G := []) rfl trivial ?_
  obtain rfl := Option.some.inj h
  exact jb_mask [true, true, true, true, true, true, true, false, false] rfl hK
set_option maxRecDepth 20000 in
theorem zg_239_H53 {Γ : jb_G} {L : Nat} {d : Nat} (hd : 2 ≤ d) (x1 : Int32) (x2 : Int32) (x3 : Int32) (x4 : Int32) (x5 : Int32) (x6 : Int32) (M : jb_Mi) (N : jb_Ml) (s : Int32 × Int32) {v : Option Value} {σ2 : jb_S} {r : ((Int32 × Int32) ⊕ ((Int32 × Int32 × Int32) ⊕ (Int32)))} (h : zf_239_H53 x1 x2 x3 x4 x5 x6 M s = some r) (hK : (jb_K (fun s : Int32 × Int32 => jb_V Γ d zq_239 53 [some (.ref 79), some (.int x1), some (.int x2), some (.int x3), some (.int x4), some (.int x5), some (.int x6), some (.int s.1), some (.int s.2)] [] (zE L, M, N) v σ2) (jb_K (fun s : Int32 × Int32 × Int32 => jb_V Γ d zq_239 40 [some (.ref 79), some (.int x1), some (.int x2), some (.int x3), some (.int s.1), some (.int s.2.1), some (.int s.2.2), none, none] [] (zE L, M, N) v σ2) (fun r : Int32 => v = some (.int r) ∧ σ2 = (zE L, M, N)))) r) : jb_V Γ d zq_239 53 [some (.ref 79), some (.int x1), some (.int x2), some (.int x3), some (.int x4), some (.int x5), some (.int x6), some (.int s.1), some (.int s.2)] [] (zE L, M, N) v σ2 := by
  obtain ⟨d, rfl⟩ : ∃ e, d = e + 1 := ⟨d - 1, by omega⟩
  unfold zf_239_H53 at h
  refine jb_seg 3 (pc' := (if s.2 < 4 then 59 else 96)) (ls' := [some (.ref 79), some (.int x1), some (.int x2), some (.int x3), some (.int x4), some (.int x5), some (.int x6), some (.int s.1), some (.int s.2)]) (st' := []) (σ' := (zE L, M, N)) (G := []) rfl trivial ?_
  refine jb_ite (fun c => ?_) (fun c => ?_)
  · replace h := (if_pos c).symm.trans h
    refine jb_seg 4 (pc' := 65) (ls' := [some (.ref 79), some (.int x1), some (.int x2), some (.int x3), some (.int x4), some (.int x5), some (.int x6), some (.int s.1), some (.int s.2)]) (st' := [(.int s.2), (.int x1), (.ref 79), (.int s.1)]) (σ' := (zE L, M, N)) (G := []) rfl trivial ?_
    obtain ⟨q2, h2, h⟩ := jb_bd_of h
    refine jb_callV (q' := zq_179) (As := [(.int x1), (.int s.2)]) (rest := [(.int s.1)]) (σ1 := (zE L, M, N)) (v := some (.int q2)) rfl rfl zp_179 rfl (Nat.le_of_ble_eq_true rfl) (jb_cat rfl) (Nat.le_of_ble_eq_true rfl) (Nat.le_of_ble_eq_true rfl) (Or.inl rfl) rfl (ze_179 (by omega) x1 s.2 M N h2) ?_
    refine jb_seg 8 (pc' := 81) (ls' := [some (.ref 79), some (.int x1), some (.int x2), some (.int x3), some (.int x4), some (.int x5), some (.int x6), some (.int s.1), some (.int s.2)]) (st' := [(.int s.2), (.int (x6 / 9)), (.int (x6 - x6 / 9 * 9)), (.int x2), (.int q2), (.int s.1)]) (σ' := (zE L, M, N)) (G := [¬ (9 : Int32) = 0, ¬ (9 : Int32) = 0]) rfl ⟨(show ¬ (9 : Int32) = 0 from (by decide)), (show ¬ (9 : Int32) = 0 from (by decide))⟩ ?_
    refine jb_callS (q' := zq_178) (As := [(.int x2), (.int (x6 - x6 / 9 * 9)), (.int (x6 / 9)), (.int s.2)]) (rest := [(.int q2), (.int s.1)]) (σ1 := (zE L, M, N)) (v := some (.int (zf_178 x2 (x6 - x6 / 9 * 9) (x6 / 9) s.2))) rfl (Nat.le_of_ble_eq_true rfl) rfl zp_178 (jb_cat rfl) (Nat.le_of_ble_eq_true rfl) (Nat.le_of_ble_eq_true rfl) (Or.inl rfl) rfl (ze_178 x2 (x6 - x6 / 9 * 9) (x6 / 9) s.2 M N rfl) ?_
    refine jb_seg 1 (pc' := 85) (ls' := [some (.ref 79), some (.int x1), some (.int x2), some (.int x3), some (.int x4), some (.int x5), some (.int x6), some (.int s.1), some (.int s.2)]) (st' := [(.int (q2 + (zf_178 x2 (x6 - x6 / 9 * 9) (x6 / 9) s.2))), (.int s.1)]) (σ' := (zE L, M, N)) (G := []) rfl trivial ?_
    refine jb_callS (q' := zq_166) (As := [(.int s.1), (.int (q2 + (zf_178 x2 (x6 - x6 / 9 * 9) (x6 / 9) s.2)))]) (rest := []) (σ1 := (zE L, M, N)) (v := some (.int (zf_166 s.1 (q2 + (zf_178 x2 (x6 - x6 / 9 * 9) (x6 / 9) s.2))))) rfl (Nat.le_of_ble_eq_true rfl) rfl zp_166 (jb_cat rfl) (Nat.le_of_ble_eq_true rfl) (Nat.le_of_ble_eq_true rfl) (Or.inl rfl) rfl (ze_166 s.1 (q2 + (zf_178 x2 (x6 - x6 / 9 * 9) (x6 / 9) s.2)) M N rfl) ?_
    refine jb_seg 3 (pc' := 53) (ls' := [some (.ref 79), some (.int x1), some (.int x2), some (.int x3), some (.int x4), some (.int x5), some (.int x6), some (.int (zf_166 s.1 (q2 + (zf_178 x2 (x6 - x6 / 9 * 9) (x6 / 9) s.2)))), some (.int (s.2 + 1))]) (st' := []) (σ' := (zE L, M, N)) (G := []) rfl trivial ?_
    obtain rfl := Option.some.inj h
    exact jb_mask [true, true, true, true, true, true, true, true, true] rfl hK
  · replace h := (if_neg c).symm.trans h
    refine jb_seg 3 (pc' := (if s.1 < x5 then 106 else 103)) (ls' := [some (.ref 79), some (.int x1), some (.int x2), some (.int x3), some (.int x4), some (.int x5), some (.int x6), some (.int s.1), some (.int s.2)]) (st' := []) (σ' := (zE L, M, N)) (G := []) rfl trivial ?_
    refine jb_ite (fun c => ?_) (fun c => ?_)
    · replace h := (if_pos c).symm.trans h
      refine jb_seg 4 (pc' := 114) (ls' := [some (.ref 79), some (.int x1), some (.int x2), some (.int x3), some (.int x6), some (.int s.1), some (.int x6), some (.int s.1), some (.int s.2)]) (st' := []) (σ' := (zE L, M, N)) (G := []) rfl trivial ?_
      obtain ⟨y0, hy0, rfl⟩ := jb_mp_of h
      exact jb_mask [true, true, true, true, true, true, true, false, false] rfl (zg_239_J114 hd x1 x2 x3 x6 s.1 x6 M N hy0 hK)
    · replace h := (if_neg c).symm.trans h
      refine jb_seg 1 (pc' := 114) (ls' := [some (.ref 79), some (.int x1), some (.int x2), some (.int x3), some (.int x4), some (.int x5), some (.int x6), some (.int s.1), some (.int s.2)]) (st' := []) (σ' := (zE L, M, N)) (G := []) rfl trivial ?_
      obtain ⟨y0, hy0, rfl⟩ := jb_mp_of h
      exact jb_mask [true, true, true, true, true, true, true, false, false] rfl (zg_239_J114 hd x1 x2 x3 x4 x5 x6 M N hy0 hK)
theorem zg_239_H53L {Γ : jb_G} {L : Nat} {d : Nat} (hd : 2 ≤ d) (x1 : Int32) (x2 : Int32) (x3 : Int32) (x4 : Int32) (x5 : Int32) (x6 : Int32) (M : jb_Mi) (N : jb_Ml) {v : Option Value} {σ2 : jb_S} {s : Int32 × Int32} {r : ((Int32 × Int32 × Int32) ⊕ (Int32))} (h : jb_lp (zf_239_H53 x1 x2 x3 x4 x5 x6 M) s = some r) (hK : (jb_K (fun s : Int32 × Int32 × Int32 => jb_V Γ d zq_239 40 [some (.ref 79), some (.int x1), some (.int x2), some (.int x3), some (.int s.1), some (.int s.2.1), some (.int s.2.2), none, none] [] (zE L, M, N) v σ2) (fun r : Int32 => v = some (.int r) ∧ σ2 = (zE L, M, N))) r) : jb_V Γ d zq_239 53 [some (.ref 79), some (.int x1), some (.int x2), some (.int x3), some (.int x4), some (.int x5), some (.int x6), some (.int s.1), some (.int s.2)] [] (zE L, M, N) v σ2 := by
  exact @jb_lp_ind (Int32 × Int32) (((Int32 × Int32 × Int32) ⊕ (Int32))) (zf_239_H53 x1 x2 x3 x4 x5 x6 M) (fun s => jb_V Γ d zq_239 53 [some (.ref 79), some (.int x1), some (.int x2), some (.int x3), some (.int x4), some (.int x5), some (.int x6), some (.int s.1), some (.int s.2)] [] (zE L, M, N) v σ2) (jb_K (fun s : Int32 × Int32 × Int32 => jb_V Γ d zq_239 40 [some (.ref 79), some (.int x1), some (.int x2), some (.int x3), some (.int s.1), some (.int s.2.1), some (.int s.2.2), none, none] [] (zE L, M, N) v σ2) (fun r : Int32 => v = some (.int r) ∧ σ2 = (zE L, M, N))) (fun s r h hk => zg_239_H53 hd x1 x2 x3 x4 x5 x6 M N s h hk) s r h hK
set_option maxRecDepth 20000 in
theorem zg_239_H40 {Γ : jb_G} {L : Nat} {d : Nat} (hd : 2 ≤ d) (x1 : Int32) (x2 : Int32) (x3 : Int32) (M : jb_Mi) (N : jb_Ml) (s : Int32 × Int32 × Int32) {v : Option Value} {σ2 : jb_S} {r : ((Int32 × Int32 × Int32) ⊕ (Int32))} (h : zf_239_H40 x1 x2 x3 M s = some r) (hK : (jb_K (fun s : Int32 × Int32 × Int32 => jb_V Γ d zq_239 40 [some (.ref 79), some (.int x1), some (.int x2), some (.int x3), some (.int s.1), some (.int s.2.1), some (.int s.2.2), none, none] [] (zE L, M, N) v σ2) (fun r : Int32 => v = some (.int r) ∧ σ2 = (zE L, M, N))) r) : jb_V Γ d zq_239 40 [some (.ref 79), some (.int x1), some (.int x2), some (.int x3), some (.int s.1), some (.int s.2.1), some (.int s.2.2), none, none] [] (zE L, M, N) v σ2 := by
  obtain ⟨d, rfl⟩ : ∃ e, d = e + 1 := ⟨d - 1, by omega⟩
  unfold zf_239_H40 at h
  refine jb_seg 3 (pc' := (if s.2.2 < 81 then 47 else 120)) (ls' := [some (.ref 79), some (.int x1), some (.int x2), some (.int x3), some (.int s.1), some (.int s.2.1), some (.int s.2.2), none, none]) (st' := []) (σ' := (zE L, M, N)) (G := []) rfl trivial ?_
  refine jb_ite (fun c => ?_) (fun c => ?_)
  · replace h := (if_pos c).symm.trans h
    refine jb_seg 4 (pc' := 53) (ls' := [some (.ref 79), some (.int x1), some (.int x2), some (.int x3), some (.int s.1), some (.int s.2.1), some (.int s.2.2), some (.int 0), some (.int 0)]) (st' := []) (σ' := (zE L, M, N)) (G := []) rfl trivial ?_
    exact jb_mask [true, true, true, true, true, true, true, true, true] rfl (zg_239_H53L hd x1 x2 x3 s.1 s.2.1 s.2.2 M N h hK)
  · replace h := (if_neg c).symm.trans h
    refine jb_seg 2 (pc' := (if x3 = 0 then 124 else 132)) (ls' := [some (.ref 79), some (.int x1), some (.int x2), some (.int x3), some (.int s.1), some (.int s.2.1), some (.int s.2.2), none, none]) (st' := []) (σ' := (zE L, M, N)) (G := []) rfl trivial ?_
    refine jb_ite (fun c => ?_) (fun c => ?_)
    · replace h := (if_pos c).symm.trans h
      refine jb_seg 4 (pc' := 147) (ls' := [some (.ref 79), some (.int x1), some (.int x2), some (.int x3), some (.int s.1), some (.int s.2.1), some (.int s.2.2), none, none]) (st' := [(.int (s.1 - s.1 / 9 * 9))]) (σ' := (zE L, M, N)) (G := [¬ (9 : Int32) = 0]) rfl (show ¬ (9 : Int32) = 0 from (by decide)) ?_
      obtain rfl := Option.some.inj h
      obtain ⟨rfl, rfl⟩ := hK
      exact jb_reti rfl rfl
    · replace h := (if_neg c).symm.trans h
      refine jb_seg 3 (pc' := (if x3 = 1 then 137 else 145)) (ls' := [some (.ref 79), some (.int x1), some (.int x2), some (.int x3), some (.int s.1), some (.int s.2.1), some (.int s.2.2), none, none]) (st' := []) (σ' := (zE L, M, N)) (G := []) rfl trivial ?_
      refine jb_ite (fun c => ?_) (fun c => ?_)
      · replace h := (if_pos c).symm.trans h
        refine jb_seg 4 (pc' := 147) (ls' := [some (.ref 79), some (.int x1), some (.int x2), some (.int x3), some (.int s.1), some (.int s.2.1), some (.int s.2.2), none, none]) (st' := [(.int (s.1 / 9))]) (σ' := (zE L, M, N)) (G := [¬ (9 : Int32) = 0]) rfl (show ¬ (9 : Int32) = 0 from (by decide)) ?_
        obtain rfl := Option.some.inj h
        obtain ⟨rfl, rfl⟩ := hK
        exact jb_reti rfl rfl
      · replace h := (if_neg c).symm.trans h
        refine jb_seg 1 (pc' := 147) (ls' := [some (.ref 79), some (.int x1), some (.int x2), some (.int x3), some (.int s.1), some (.int s.2.1), some (.int s.2.2), none, none]) (st' := [(.int s.2.1)]) (σ' := (zE L, M, N)) (G := []) rfl trivial ?_
        obtain rfl := Option.some.inj h
        obtain ⟨rfl, rfl⟩ := hK
        exact jb_reti rfl rfl
theorem zg_239_H40L {Γ : jb_G} {L : Nat} {d : Nat} (hd : 2 ≤ d) (x1 : Int32) (x2 : Int32) (x3 : Int32) (M : jb_Mi) (N : jb_Ml) {v : Option Value} {σ2 : jb_S} {s : Int32 × Int32 × Int32} {r : (Int32)} (h : jb_lp (zf_239_H40 x1 x2 x3 M) s = some r) (hK : (fun r : Int32 => v = some (.int r) ∧ σ2 = (zE L, M, N)) r) : jb_V Γ d zq_239 40 [some (.ref 79), some (.int x1), some (.int x2), some (.int x3), some (.int s.1), some (.int s.2.1), some (.int s.2.2), none, none] [] (zE L, M, N) v σ2 := by
  exact @jb_lp_ind (Int32 × Int32 × Int32) ((Int32)) (zf_239_H40 x1 x2 x3 M) (fun s => jb_V Γ d zq_239 40 [some (.ref 79), some (.int x1), some (.int x2), some (.int x3), some (.int s.1), some (.int s.2.1), some (.int s.2.2), none, none] [] (zE L, M, N) v σ2) (fun r : Int32 => v = some (.int r) ∧ σ2 = (zE L, M, N)) (fun s r h hk => zg_239_H40 hd x1 x2 x3 M N s h hk) s r h hK
set_option maxRecDepth 20000 in
theorem zg_239 {Γ : jb_G} {L : Nat} {d : Nat} (hd : 2 ≤ d) (x1 : Int32) (x2 : Int32) (x3 : Int32) (M : jb_Mi) (N : jb_Ml) {v : Option Value} {σ2 : jb_S} {r : (Int32)} (h : zf_239 x1 x2 x3 M = some r) (hK : (fun r : Int32 => v = some (.int r) ∧ σ2 = (zE L, M, N)) r) : jb_V Γ d zq_239 0 [some (.ref 79), some (.int x1), some (.int x2), some (.int x3), none, none, none, none, none] [] (zE L, M, N) v σ2 := by
  obtain ⟨d, rfl⟩ : ∃ e, d = e + 1 := ⟨d - 1, by omega⟩
  unfold zf_239 at h
  refine jb_seg 2 (pc' := 2) (ls' := [some (.ref 79), some (.int x1), some (.int x2), some (.int x3), none, none, none, none, none]) (st' := [(.int x1), (.ref 79)]) (σ' := (zE L, M, N)) (G := []) rfl trivial ?_
  obtain ⟨q1, h1, h⟩ := jb_bd_of h
  refine jb_callV (q' := zq_171) (As := [(.int x1)]) (rest := []) (σ1 := (zE L, M, N)) (v := some (.int (jb_b2i q1))) rfl rfl zp_171 rfl (Nat.le_of_ble_eq_true rfl) (jb_cat rfl) (Nat.le_of_ble_eq_true rfl) (Nat.le_of_ble_eq_true rfl) (Or.inl rfl) rfl (ze_171 (by omega) x1 M N h1) ?_
  refine jb_seg 1 (pc' := (if (jb_b2i q1) = 0 then 27 else 8)) (ls' := [some (.ref 79), some (.int x1), some (.int x2), some (.int x3), none, none, none, none, none]) (st' := []) (σ' := (zE L, M, N)) (G := []) rfl trivial ?_
  refine jb_ite (fun c => ?_) (fun c => ?_)
  · replace h := (if_pos c).symm.trans h
    refine jb_seg 1 (pc' := 28) (ls' := [some (.ref 79), some (.int x1), some (.int x2), some (.int x3), none, none, none, none, none]) (st' := [(.int (-1))]) (σ' := (zE L, M, N)) (G := []) rfl trivial ?_
    obtain rfl := Option.some.inj h
    obtain ⟨rfl, rfl⟩ := hK
    exact jb_reti rfl rfl
  · replace h := (if_neg c).symm.trans h
    refine jb_seg 3 (pc' := 12) (ls' := [some (.ref 79), some (.int x1), some (.int x2), some (.int x3), none, none, none, none, none]) (st' := [(.int 99), (.int 1), (.int x2)]) (σ' := (zE L, M, N)) (G := []) rfl trivial ?_
    refine jb_callS (q' := zq_164) (As := [(.int x2), (.int 1), (.int 99)]) (rest := []) (σ1 := (zE L, M, N)) (v := some (.int (jb_b2i (zf_164 x2 1 99)))) rfl (Nat.le_of_ble_eq_true rfl) rfl zp_164 (jb_cat rfl) (Nat.le_of_ble_eq_true rfl) (Nat.le_of_ble_eq_true rfl) (Or.inl rfl) rfl (ze_164 x2 1 99 M N rfl) ?_
    refine jb_seg 1 (pc' := (if (jb_b2i (zf_164 x2 1 99)) = 0 then 27 else 18)) (ls' := [some (.ref 79), some (.int x1), some (.int x2), some (.int x3), none, none, none, none, none]) (st' := []) (σ' := (zE L, M, N)) (G := []) rfl trivial ?_
    refine jb_ite (fun c => ?_) (fun c => ?_)
    · replace h := (if_pos c).symm.trans h
      refine jb_seg 1 (pc' := 28) (ls' := [some (.ref 79), some (.int x1), some (.int x2), some (.int x3), none, none, none, none, none]) (st' := [(.int (-1))]) (σ' := (zE L, M, N)) (G := []) rfl trivial ?_
      obtain rfl := Option.some.inj h
      obtain ⟨rfl, rfl⟩ := hK
      exact jb_reti rfl rfl
    · replace h := (if_neg c).symm.trans h
      refine jb_seg 3 (pc' := 21) (ls' := [some (.ref 79), some (.int x1), some (.int x2), some (.int x3), none, none, none, none, none]) (st' := [(.int 2), (.int 0), (.int x3)]) (σ' := (zE L, M, N)) (G := []) rfl trivial ?_
      refine jb_callS (q' := zq_164) (As := [(.int x3), (.int 0), (.int 2)]) (rest := []) (σ1 := (zE L, M, N)) (v := some (.int (jb_b2i (zf_164 x3 0 2)))) rfl (Nat.le_of_ble_eq_true rfl) rfl zp_164 (jb_cat rfl) (Nat.le_of_ble_eq_true rfl) (Nat.le_of_ble_eq_true rfl) (Or.inl rfl) rfl (ze_164 x3 0 2 M N rfl) ?_
      refine jb_seg 1 (pc' := (if (jb_b2i (zf_164 x3 0 2)) = 0 then 27 else 29)) (ls' := [some (.ref 79), some (.int x1), some (.int x2), some (.int x3), none, none, none, none, none]) (st' := []) (σ' := (zE L, M, N)) (G := []) rfl trivial ?_
      refine jb_ite (fun c => ?_) (fun c => ?_)
      · replace h := (if_pos c).symm.trans h
        refine jb_seg 1 (pc' := 28) (ls' := [some (.ref 79), some (.int x1), some (.int x2), some (.int x3), none, none, none, none, none]) (st' := [(.int (-1))]) (σ' := (zE L, M, N)) (G := []) rfl trivial ?_
        obtain rfl := Option.some.inj h
        obtain ⟨rfl, rfl⟩ := hK
        exact jb_reti rfl rfl
      · replace h := (if_neg c).symm.trans h
        refine jb_seg 6 (pc' := 40) (ls' := [some (.ref 79), some (.int x1), some (.int x2), some (.int x3), some (.int 0), some (.int 100000000), some (.int 0), none, none]) (st' := []) (σ' := (zE L, M, N)) (G := []) rfl trivial ?_
        exact jb_mask [true, true, true, true, true, true, true, false, false] rfl (zg_239_H40L hd x1 x2 x3 M N h hK)
theorem ze_239 {Γ : jb_G} {L : Nat} {d : Nat} (hd : 2 ≤ d) (x1 : Int32) (x2 : Int32) (x3 : Int32) (M : jb_Mi) (N : jb_Ml) {r : (Int32)} (h : zf_239 x1 x2 x3 M = some r) : jb_V Γ d zq_239 0 (jb_en 9 [(.ref 79), (.int x1), (.int x2), (.int x3)]) [] (zE L, M, N) (some (.int r)) (zE L, M, N) := zg_239 hd x1 x2 x3 M N h ⟨rfl, rfl⟩
-- X13_gcd
set_option maxRecDepth 20000 in
theorem zg_240_H4 {Γ : jb_G} {L : Nat} {d : Nat} (M : jb_Mi) (N : jb_Ml) (s : Int32 × Int32) {v : Option Value} {σ2 : jb_S} {r : ((Int32 × Int32) ⊕ (Int32))} (h : zf_240_H4 s = some r) (hK : (jb_K (fun s : Int32 × Int32 => jb_V Γ d zq_240 4 [none, none, some (.int s.1), some (.int s.2), none] [] (zE L, M, N) v σ2) (fun r : Int32 => v = some (.int r) ∧ σ2 = (zE L, M, N))) r) : jb_V Γ d zq_240 4 [none, none, some (.int s.1), some (.int s.2), none] [] (zE L, M, N) v σ2 := by
  unfold zf_240_H4 at h
  refine jb_seg 2 (pc' := (if s.2 = 0 then 21 else 8)) (ls' := [none, none, some (.int s.1), some (.int s.2), none]) (st' := []) (σ' := (zE L, M, N)) (G := []) rfl trivial ?_
  refine jb_ite (fun c => ?_) (fun c => ?_)
  · replace h := (if_pos c).symm.trans h
    refine jb_seg 1 (pc' := 22) (ls' := [none, none, some (.int s.1), some (.int s.2), none]) (st' := [(.int s.1)]) (σ' := (zE L, M, N)) (G := []) rfl trivial ?_
    obtain rfl := Option.some.inj h
    obtain ⟨rfl, rfl⟩ := hK
    exact jb_reti rfl rfl
  · replace h := (if_neg c).symm.trans h
    obtain ⟨g1, h⟩ := jb_g0_of h
    refine jb_seg 9 (pc' := 4) (ls' := [none, none, some (.int s.2), some (.int (s.1 - s.1 / s.2 * s.2)), some (.int (s.1 - s.1 / s.2 * s.2))]) (st' := []) (σ' := (zE L, M, N)) (G := [¬ (s.2 : Int32) = 0]) rfl g1 ?_
    obtain rfl := Option.some.inj h
    exact jb_mask [false, false, true, true, false] rfl hK
theorem zg_240_H4L {Γ : jb_G} {L : Nat} {d : Nat} (M : jb_Mi) (N : jb_Ml) {v : Option Value} {σ2 : jb_S} {s : Int32 × Int32} {r : (Int32)} (h : jb_lp (zf_240_H4) s = some r) (hK : (fun r : Int32 => v = some (.int r) ∧ σ2 = (zE L, M, N)) r) : jb_V Γ d zq_240 4 [none, none, some (.int s.1), some (.int s.2), none] [] (zE L, M, N) v σ2 := by
  exact @jb_lp_ind (Int32 × Int32) ((Int32)) (zf_240_H4) (fun s => jb_V Γ d zq_240 4 [none, none, some (.int s.1), some (.int s.2), none] [] (zE L, M, N) v σ2) (fun r : Int32 => v = some (.int r) ∧ σ2 = (zE L, M, N)) (fun s r h hk => zg_240_H4 M N s h hk) s r h hK
set_option maxRecDepth 20000 in
theorem zg_240 {Γ : jb_G} {L : Nat} {d : Nat} (x0 : Int32) (x1 : Int32) (M : jb_Mi) (N : jb_Ml) {v : Option Value} {σ2 : jb_S} {r : (Int32)} (h : zf_240 x0 x1 = some r) (hK : (fun r : Int32 => v = some (.int r) ∧ σ2 = (zE L, M, N)) r) : jb_V Γ d zq_240 0 [some (.int x0), some (.int x1), none, none, none] [] (zE L, M, N) v σ2 := by
  unfold zf_240 at h
  refine jb_seg 4 (pc' := 4) (ls' := [some (.int x0), some (.int x1), some (.int x0), some (.int x1), none]) (st' := []) (σ' := (zE L, M, N)) (G := []) rfl trivial ?_
  exact jb_mask [false, false, true, true, false] rfl (zg_240_H4L M N h hK)
theorem ze_240 {Γ : jb_G} {L : Nat} {d : Nat} (x0 : Int32) (x1 : Int32) (M : jb_Mi) (N : jb_Ml) {r : (Int32)} (h : zf_240 x0 x1 = some r) : jb_V Γ d zq_240 0 (jb_en 5 [(.int x0), (.int x1)]) [] (zE L, M, N) (some (.int r)) (zE L, M, N) := zg_240 x0 x1 M N h ⟨rfl, rfl⟩
-- X13_readsRow
set_option maxRecDepth 20000 in
theorem zg_241_H7 {Γ : jb_G} {L : Nat} {d : Nat} (N : jb_Ml) (s : Int32 × Int32 × Int32 × jb_Mi) {v : Option Value} {σ2 : jb_S} {r : ((Int32 × Int32 × Int32 × jb_Mi) ⊕ (Bool × jb_Mi))} (h : zf_241_H7 s = some r) (hK : (jb_K (fun s : Int32 × Int32 × Int32 × jb_Mi => jb_V Γ d zq_241 7 [some (.ref 79), none, some (.int s.1), some (.int s.2.1), some (.int s.2.2.1)] [] (zE L, s.2.2.2, N) v σ2) (fun r : Bool × jb_Mi => v = some (.int (jb_b2i r.1)) ∧ σ2 = (zE L, r.2, N))) r) : jb_V Γ d zq_241 7 [some (.ref 79), none, some (.int s.1), some (.int s.2.1), some (.int s.2.2.1)] [] (zE L, s.2.2.2, N) v σ2 := by
  unfold zf_241_H7 at h
  refine jb_seg 2 (pc' := (if s.2.2.1 < 0 then 44 else 12)) (ls' := [some (.ref 79), none, some (.int s.1), some (.int s.2.1), some (.int s.2.2.1)]) (st' := []) (σ' := (zE L, s.2.2.2, N)) (G := []) rfl trivial ?_
  refine jb_ite (fun c => ?_) (fun c => ?_)
  · replace h := (if_pos c).symm.trans h
    refine jb_seg 3 (pc' := (if s.2.1 = 15 then 50 else 54)) (ls' := [some (.ref 79), none, some (.int s.1), some (.int s.2.1), some (.int s.2.2.1)]) (st' := []) (σ' := (zE L, s.2.2.2, N)) (G := []) rfl trivial ?_
    refine jb_ite (fun c => ?_) (fun c => ?_)
    · replace h := (if_pos c).symm.trans h
      refine jb_seg 2 (pc' := 55) (ls' := [some (.ref 79), none, some (.int s.1), some (.int s.2.1), some (.int s.2.2.1)]) (st' := [(.int 1)]) (σ' := (zE L, s.2.2.2, N)) (G := []) rfl trivial ?_
      obtain rfl := Option.some.inj h
      obtain ⟨rfl, rfl⟩ := hK
      exact jb_retz (by decide) rfl rfl
    · replace h := (if_neg c).symm.trans h
      refine jb_seg 1 (pc' := 55) (ls' := [some (.ref 79), none, some (.int s.1), some (.int s.2.1), some (.int s.2.2.1)]) (st' := [(.int 0)]) (σ' := (zE L, s.2.2.2, N)) (G := []) rfl trivial ?_
      obtain rfl := Option.some.inj h
      obtain ⟨rfl, rfl⟩ := hK
      exact jb_retz (by decide) rfl rfl
  · replace h := (if_neg c).symm.trans h
    obtain ⟨g1, h⟩ := jb_gd_of h
    obtain ⟨g2, h⟩ := jb_gd_of h
    refine jb_seg 22 (pc' := 7) (ls' := [some (.ref 79), none, some (.int (s.1 / 4)), some (.int (s.2.1 ||| ((1 : Int32) <<< (((jb_up s.2.2.2 105 (s.2.2.1).toNatClampNeg (s.1 - s.1 / 4 * 4)) 105 (s.2.2.1).toNatClampNeg) &&& 31)))), some (.int (s.2.2.1 + (-1)))]) (st' := []) (σ' := (zE L, (jb_up s.2.2.2 105 (s.2.2.1).toNatClampNeg (s.1 - s.1 / 4 * 4)), N)) (G := [¬ (4 : Int32) = 0, vp_in s.2.2.1 4, ¬ (4 : Int32) = 0, vp_in s.2.2.1 4]) rfl ⟨(show ¬ (4 : Int32) = 0 from (by decide)), g1, (show ¬ (4 : Int32) = 0 from (by decide)), g2⟩ ?_
    obtain rfl := Option.some.inj h
    exact jb_mask [true, false, true, true, true] rfl hK
theorem zg_241_H7L {Γ : jb_G} {L : Nat} {d : Nat} (N : jb_Ml) {v : Option Value} {σ2 : jb_S} {s : Int32 × Int32 × Int32 × jb_Mi} {r : (Bool × jb_Mi)} (h : jb_lp (zf_241_H7) s = some r) (hK : (fun r : Bool × jb_Mi => v = some (.int (jb_b2i r.1)) ∧ σ2 = (zE L, r.2, N)) r) : jb_V Γ d zq_241 7 [some (.ref 79), none, some (.int s.1), some (.int s.2.1), some (.int s.2.2.1)] [] (zE L, s.2.2.2, N) v σ2 := by
  exact @jb_lp_ind (Int32 × Int32 × Int32 × jb_Mi) ((Bool × jb_Mi)) (zf_241_H7) (fun s => jb_V Γ d zq_241 7 [some (.ref 79), none, some (.int s.1), some (.int s.2.1), some (.int s.2.2.1)] [] (zE L, s.2.2.2, N) v σ2) (fun r : Bool × jb_Mi => v = some (.int (jb_b2i r.1)) ∧ σ2 = (zE L, r.2, N)) (fun s r h hk => zg_241_H7 N s h hk) s r h hK
set_option maxRecDepth 20000 in
theorem zg_241 {Γ : jb_G} {L : Nat} {d : Nat} (x1 : Int32) (M : jb_Mi) (N : jb_Ml) {v : Option Value} {σ2 : jb_S} {r : (Bool × jb_Mi)} (h : zf_241 x1 M = some r) (hK : (fun r : Bool × jb_Mi => v = some (.int (jb_b2i r.1)) ∧ σ2 = (zE L, r.2, N)) r) : jb_V Γ d zq_241 0 [some (.ref 79), some (.int x1), none, none, none] [] (zE L, M, N) v σ2 := by
  unfold zf_241 at h
  refine jb_seg 6 (pc' := 7) (ls' := [some (.ref 79), some (.int x1), some (.int x1), some (.int 0), some (.int 3)]) (st' := []) (σ' := (zE L, M, N)) (G := []) rfl trivial ?_
  exact jb_mask [true, false, true, true, true] rfl (zg_241_H7L N h hK)
theorem ze_241 {Γ : jb_G} {L : Nat} {d : Nat} (x1 : Int32) (M : jb_Mi) (N : jb_Ml) {r : (Bool × jb_Mi)} (h : zf_241 x1 M = some r) : jb_V Γ d zq_241 0 (jb_en 5 [(.ref 79), (.int x1)]) [] (zE L, M, N) (some (.int (jb_b2i r.1))) (zE L, r.2, N) := zg_241 x1 M N h ⟨rfl, rfl⟩
-- X13_isBetter
set_option maxRecDepth 20000 in
theorem zg_242_J69 {Γ : jb_G} {L : Nat} {d : Nat} (hd : 2 ≤ d) (x1 : Int32) (x2 : Int32) (x3 : Int32) (x4 : Int32) (M : jb_Mi) (N : jb_Ml) {v : Option Value} {σ2 : jb_S} {r : ((Int32 × Int32 × Int32) ⊕ (Bool × jb_Mi))} (h : zf_242_J69 x1 x2 x3 x4 M = some r) (hK : (jb_K (fun s : Int32 × Int32 × Int32 => jb_V Γ d zq_242 7 [some (.ref 79), some (.int x1), some (.int s.1), some (.int s.2.1), some (.int s.2.2), none, none] [] (zE L, M, N) v σ2) (fun r : Bool × jb_Mi => v = some (.int (jb_b2i r.1)) ∧ σ2 = (zE L, r.2, N))) r) : jb_V Γ d zq_242 69 [some (.ref 79), some (.int x1), some (.int x2), some (.int x3), some (.int x4), none, none] [] (zE L, M, N) v σ2 := by
  obtain ⟨d, rfl⟩ : ∃ e, d = e + 1 := ⟨d - 1, by omega⟩
  unfold zf_242_J69 at h
  refine jb_seg 2 (pc' := 7) (ls' := [some (.ref 79), some (.int x1), some (.int x2), some (.int x3), some (.int (x4 + 1)), none, none]) (st' := []) (σ' := (zE L, M, N)) (G := []) rfl trivial ?_
  obtain rfl := Option.some.inj h
  exact jb_mask [true, true, true, true, true, false, false] rfl hK
set_option maxRecDepth 20000 in
theorem zg_242_J104 {Γ : jb_G} {L : Nat} {d : Nat} (hd : 2 ≤ d) (x2 : Int32) (x3 : Int32) (M : jb_Mi) (N : jb_Ml) {v : Option Value} {σ2 : jb_S} {r : (Bool × jb_Mi)} (h : zf_242_J104 x2 x3 M = some r) (hK : (fun r : Bool × jb_Mi => v = some (.int (jb_b2i r.1)) ∧ σ2 = (zE L, r.2, N)) r) : jb_V Γ d zq_242 104 [some (.ref 79), none, some (.int x2), some (.int x3), none, none, none] [] (zE L, M, N) v σ2 := by
  obtain ⟨d, rfl⟩ : ∃ e, d = e + 1 := ⟨d - 1, by omega⟩
  unfold zf_242_J104 at h
  refine jb_seg 7 (pc' := 115) (ls' := [some (.ref 79), none, some (.int x2), some (.int x3), none, none, none]) (st' := [(.int 1)]) (σ' := (zE L, (jb_up (jb_up M 79 49 x2) 79 50 x3), N)) (G := []) rfl trivial ?_
  obtain rfl := Option.some.inj h
  obtain ⟨rfl, rfl⟩ := hK
  exact jb_retz (by decide) rfl rfl
set_option maxRecDepth 20000 in
theorem zg_242_H7 {Γ : jb_G} {L : Nat} {d : Nat} (hd : 2 ≤ d) (x1 : Int32) (M : jb_Mi) (N : jb_Ml) (s : Int32 × Int32 × Int32) {v : Option Value} {σ2 : jb_S} {r : ((Int32 × Int32 × Int32) ⊕ (Bool × jb_Mi))} (h : zf_242_H7 x1 M s = some r) (hK : (jb_K (fun s : Int32 × Int32 × Int32 => jb_V Γ d zq_242 7 [some (.ref 79), some (.int x1), some (.int s.1), some (.int s.2.1), some (.int s.2.2), none, none] [] (zE L, M, N) v σ2) (fun r : Bool × jb_Mi => v = some (.int (jb_b2i r.1)) ∧ σ2 = (zE L, r.2, N))) r) : jb_V Γ d zq_242 7 [some (.ref 79), some (.int x1), some (.int s.1), some (.int s.2.1), some (.int s.2.2), none, none] [] (zE L, M, N) v σ2 := by
  obtain ⟨d, rfl⟩ : ∃ e, d = e + 1 := ⟨d - 1, by omega⟩
  unfold zf_242_H7 at h
  refine jb_seg 3 (pc' := (if s.2.2 < 4 then 13 else 75)) (ls' := [some (.ref 79), some (.int x1), some (.int s.1), some (.int s.2.1), some (.int s.2.2), none, none]) (st' := []) (σ' := (zE L, M, N)) (G := []) rfl trivial ?_
  refine jb_ite (fun c => ?_) (fun c => ?_)
  · replace h := (if_pos c).symm.trans h
    refine jb_seg 3 (pc' := 17) (ls' := [some (.ref 79), some (.int x1), some (.int s.1), some (.int s.2.1), some (.int s.2.2), none, none]) (st' := [(.int s.2.2), (.int x1), (.ref 79)]) (σ' := (zE L, M, N)) (G := []) rfl trivial ?_
    obtain ⟨q1, h1, h⟩ := jb_bd_of h
    refine jb_callV (q' := zq_179) (As := [(.int x1), (.int s.2.2)]) (rest := []) (σ1 := (zE L, M, N)) (v := some (.int q1)) rfl rfl zp_179 rfl (Nat.le_of_ble_eq_true rfl) (jb_cat rfl) (Nat.le_of_ble_eq_true rfl) (Nat.le_of_ble_eq_true rfl) (Or.inl rfl) rfl (ze_179 (by omega) x1 s.2.2 M N h1) ?_
    obtain ⟨g2, h⟩ := jb_gd_of h
    obtain ⟨g3, h⟩ := jb_gd_of h
    obtain ⟨g4, h⟩ := jb_gd_of h
    refine jb_seg 26 (pc' := (if 0 < (lg_cmp ((q1 : Int32).toInt64 * (s.2.1 : Int32).toInt64) ((s.1 : Int32).toInt64 * ((M 80 ((114 + (M 104 ((M 105 (s.2.2).toNatClampNeg)).toNatClampNeg))).toNatClampNeg) : Int32).toInt64)) then 63 else 60)) (ls' := [some (.ref 79), some (.int x1), some (.int s.1), some (.int s.2.1), some (.int s.2.2), some (.int q1), some (.int (M 80 ((114 + (M 104 ((M 105 (s.2.2).toNatClampNeg)).toNatClampNeg))).toNatClampNeg))]) (st' := []) (σ' := (zE L, M, N)) (G := [vp_in s.2.2 4, vp_in (M 105 (s.2.2).toNatClampNeg) 4, vp_in (114 + (M 104 ((M 105 (s.2.2).toNatClampNeg)).toNatClampNeg)) 149]) rfl ⟨g2, g3, g4⟩ ?_
    refine jb_ite (fun c => ?_) (fun c => ?_)
    · replace h := (if_pos c).symm.trans h
      refine jb_seg 4 (pc' := 69) (ls' := [some (.ref 79), some (.int x1), some (.int q1), some (.int (M 80 ((114 + (M 104 ((M 105 (s.2.2).toNatClampNeg)).toNatClampNeg))).toNatClampNeg)), some (.int s.2.2), some (.int q1), some (.int (M 80 ((114 + (M 104 ((M 105 (s.2.2).toNatClampNeg)).toNatClampNeg))).toNatClampNeg))]) (st' := []) (σ' := (zE L, M, N)) (G := []) rfl trivial ?_
      exact jb_mask [true, true, true, true, true, false, false] rfl (zg_242_J69 hd x1 q1 (M 80 ((114 + (M 104 ((M 105 (s.2.2).toNatClampNeg)).toNatClampNeg))).toNatClampNeg) s.2.2 M N h hK)
    · replace h := (if_neg c).symm.trans h
      refine jb_seg 1 (pc' := 69) (ls' := [some (.ref 79), some (.int x1), some (.int s.1), some (.int s.2.1), some (.int s.2.2), some (.int q1), some (.int (M 80 ((114 + (M 104 ((M 105 (s.2.2).toNatClampNeg)).toNatClampNeg))).toNatClampNeg))]) (st' := []) (σ' := (zE L, M, N)) (G := []) rfl trivial ?_
      exact jb_mask [true, true, true, true, true, false, false] rfl (zg_242_J69 hd x1 s.1 s.2.1 s.2.2 M N h hK)
  · replace h := (if_neg c).symm.trans h
    refine jb_seg 3 (pc' := (if 0 < (M 79 50) then 82 else 104)) (ls' := [some (.ref 79), some (.int x1), some (.int s.1), some (.int s.2.1), some (.int s.2.2), none, none]) (st' := []) (σ' := (zE L, M, N)) (G := []) rfl trivial ?_
    refine jb_ite (fun c => ?_) (fun c => ?_)
    · replace h := (if_pos c).symm.trans h
      refine jb_seg 14 (pc' := (if (lg_cmp ((s.1 : Int32).toInt64 * ((M 79 50) : Int32).toInt64) (((M 79 49) : Int32).toInt64 * (s.2.1 : Int32).toInt64)) < 0 then 104 else 102)) (ls' := [some (.ref 79), some (.int x1), some (.int s.1), some (.int s.2.1), some (.int s.2.2), none, none]) (st' := []) (σ' := (zE L, M, N)) (G := []) rfl trivial ?_
      refine jb_ite (fun c => ?_) (fun c => ?_)
      · replace h := (if_pos c).symm.trans h
        obtain ⟨y0, hy0, rfl⟩ := jb_mp_of h
        exact jb_mask [true, false, true, true, false, false, false] rfl (zg_242_J104 hd s.1 s.2.1 M N hy0 hK)
      · replace h := (if_neg c).symm.trans h
        refine jb_seg 1 (pc' := 103) (ls' := [some (.ref 79), some (.int x1), some (.int s.1), some (.int s.2.1), some (.int s.2.2), none, none]) (st' := [(.int 0)]) (σ' := (zE L, M, N)) (G := []) rfl trivial ?_
        obtain rfl := Option.some.inj h
        obtain ⟨rfl, rfl⟩ := hK
        exact jb_retz (by decide) rfl rfl
    · replace h := (if_neg c).symm.trans h
      obtain ⟨y0, hy0, rfl⟩ := jb_mp_of h
      exact jb_mask [true, false, true, true, false, false, false] rfl (zg_242_J104 hd s.1 s.2.1 M N hy0 hK)
theorem zg_242_H7L {Γ : jb_G} {L : Nat} {d : Nat} (hd : 2 ≤ d) (x1 : Int32) (M : jb_Mi) (N : jb_Ml) {v : Option Value} {σ2 : jb_S} {s : Int32 × Int32 × Int32} {r : (Bool × jb_Mi)} (h : jb_lp (zf_242_H7 x1 M) s = some r) (hK : (fun r : Bool × jb_Mi => v = some (.int (jb_b2i r.1)) ∧ σ2 = (zE L, r.2, N)) r) : jb_V Γ d zq_242 7 [some (.ref 79), some (.int x1), some (.int s.1), some (.int s.2.1), some (.int s.2.2), none, none] [] (zE L, M, N) v σ2 := by
  exact @jb_lp_ind (Int32 × Int32 × Int32) ((Bool × jb_Mi)) (zf_242_H7 x1 M) (fun s => jb_V Γ d zq_242 7 [some (.ref 79), some (.int x1), some (.int s.1), some (.int s.2.1), some (.int s.2.2), none, none] [] (zE L, M, N) v σ2) (fun r : Bool × jb_Mi => v = some (.int (jb_b2i r.1)) ∧ σ2 = (zE L, r.2, N)) (fun s r h hk => zg_242_H7 hd x1 M N s h hk) s r h hK
set_option maxRecDepth 20000 in
theorem zg_242 {Γ : jb_G} {L : Nat} {d : Nat} (hd : 2 ≤ d) (x1 : Int32) (M : jb_Mi) (N : jb_Ml) {v : Option Value} {σ2 : jb_S} {r : (Bool × jb_Mi)} (h : zf_242 x1 M = some r) (hK : (fun r : Bool × jb_Mi => v = some (.int (jb_b2i r.1)) ∧ σ2 = (zE L, r.2, N)) r) : jb_V Γ d zq_242 0 [some (.ref 79), some (.int x1), none, none, none, none, none] [] (zE L, M, N) v σ2 := by
  obtain ⟨d, rfl⟩ : ∃ e, d = e + 1 := ⟨d - 1, by omega⟩
  unfold zf_242 at h
  refine jb_seg 6 (pc' := 7) (ls' := [some (.ref 79), some (.int x1), some (.int 0), some (.int 1), some (.int 0), none, none]) (st' := []) (σ' := (zE L, M, N)) (G := []) rfl trivial ?_
  exact jb_mask [true, true, true, true, true, false, false] rfl (zg_242_H7L hd x1 M N h hK)
theorem ze_242 {Γ : jb_G} {L : Nat} {d : Nat} (hd : 2 ≤ d) (x1 : Int32) (M : jb_Mi) (N : jb_Ml) {r : (Bool × jb_Mi)} (h : zf_242 x1 M = some r) : jb_V Γ d zq_242 0 (jb_en 7 [(.ref 79), (.int x1)]) [] (zE L, M, N) (some (.int (jb_b2i r.1))) (zE L, r.2, N) := zg_242 hd x1 M N h ⟨rfl, rfl⟩
-- X13_stand
set_option maxRecDepth 20000 in
theorem zg_243_J89 {Γ : jb_G} {L : Nat} {d : Nat} (hd : 3 ≤ d) (x1 : Int32) (x2 : Int32) (x3 : Int32) (x4 : Int32) (x5 : Int32) (M : jb_Mi) (N : jb_Ml) {v : Option Value} {σ2 : jb_S} {r : ((Int32 × Int32 × jb_Mi) ⊕ (Int32 × jb_Mi))} (h : zf_243_J89 x1 x2 x3 x4 x5 M = some r) (hK : (jb_K (fun s : Int32 × Int32 × jb_Mi => jb_V Γ d zq_243 44 [some (.ref 79), some (.int x1), some (.int x2), some (.int x3), some (.int s.1), some (.int s.2.1), none] [] (zE L, s.2.2, N) v σ2) (fun r : Int32 × jb_Mi => v = some (.int r.1) ∧ σ2 = (zE L, r.2, N))) r) : jb_V Γ d zq_243 89 [some (.ref 79), some (.int x1), some (.int x2), some (.int x3), some (.int x4), some (.int x5), none] [] (zE L, M, N) v σ2 := by
  obtain ⟨d, rfl⟩ : ∃ e, d = e + 1 := ⟨d - 1, by omega⟩
  unfold zf_243_J89 at h
  refine jb_seg 2 (pc' := 44) (ls' := [some (.ref 79), some (.int x1), some (.int x2), some (.int x3), some (.int x4), some (.int (x5 + 1)), none]) (st' := []) (σ' := (zE L, M, N)) (G := []) rfl trivial ?_
  obtain rfl := Option.some.inj h
  exact jb_mask [true, true, true, true, true, true, false] rfl hK
set_option maxRecDepth 20000 in
theorem zg_243_J165 {Γ : jb_G} {L : Nat} {d : Nat} (hd : 3 ≤ d) (x1 : Int32) (x3 : Int32) (x5 : Int32) (M : jb_Mi) (N : jb_Ml) {v : Option Value} {σ2 : jb_S} {r : ((Int32 × jb_Mi) ⊕ (Int32 × jb_Mi))} (h : zf_243_J165 x1 x3 x5 M = some r) (hK : (jb_K (fun s : Int32 × jb_Mi => jb_V Γ d zq_243 103 [some (.ref 79), some (.int x1), none, some (.int x3), none, some (.int s.1), none] [] (zE L, s.2, N) v σ2) (fun r : Int32 × jb_Mi => v = some (.int r.1) ∧ σ2 = (zE L, r.2, N))) r) : jb_V Γ d zq_243 165 [some (.ref 79), some (.int x1), none, some (.int x3), none, some (.int x5), none] [] (zE L, M, N) v σ2 := by
  obtain ⟨d, rfl⟩ : ∃ e, d = e + 1 := ⟨d - 1, by omega⟩
  unfold zf_243_J165 at h
  refine jb_seg 2 (pc' := 103) (ls' := [some (.ref 79), some (.int x1), none, some (.int x3), none, some (.int (x5 + 1)), none]) (st' := []) (σ' := (zE L, M, N)) (G := []) rfl trivial ?_
  obtain rfl := Option.some.inj h
  exact jb_mask [true, true, false, true, false, true, false] rfl hK
set_option maxRecDepth 20000 in
theorem zg_243_H134 {Γ : jb_G} {L : Nat} {d : Nat} (hd : 3 ≤ d) (x1 : Int32) (x3 : Int32) (x5 : Int32) (N : jb_Ml) (s : Int32 × jb_Mi) {v : Option Value} {σ2 : jb_S} {r : ((Int32 × jb_Mi) ⊕ ((Int32 × jb_Mi) ⊕ (Int32 × jb_Mi)))} (h : zf_243_H134 x1 x3 x5 s = some r) (hK : (jb_K (fun s : Int32 × jb_Mi => jb_V Γ d zq_243 134 [some (.ref 79), some (.int x1), none, some (.int x3), none, some (.int x5), some (.int s.1)] [] (zE L, s.2, N) v σ2) (jb_K (fun s : Int32 × jb_Mi => jb_V Γ d zq_243 103 [some (.ref 79), some (.int x1), none, some (.int x3), none, some (.int s.1), none] [] (zE L, s.2, N) v σ2) (fun r : Int32 × jb_Mi => v = some (.int r.1) ∧ σ2 = (zE L, r.2, N)))) r) : jb_V Γ d zq_243 134 [some (.ref 79), some (.int x1), none, some (.int x3), none, some (.int x5), some (.int s.1)] [] (zE L, s.2, N) v σ2 := by
  obtain ⟨d, rfl⟩ : ∃ e, d = e + 1 := ⟨d - 1, by omega⟩
  unfold zf_243_H134 at h
  refine jb_seg 3 (pc' := (if s.1 < 4 then 140 else 165)) (ls' := [some (.ref 79), some (.int x1), none, some (.int x3), none, some (.int x5), some (.int s.1)]) (st' := []) (σ' := (zE L, s.2, N)) (G := []) rfl trivial ?_
  refine jb_ite (fun c => ?_) (fun c => ?_)
  · replace h := (if_pos c).symm.trans h
    obtain ⟨g7, h⟩ := jb_gd_of h
    obtain ⟨g8, h⟩ := jb_gd_of h
    obtain ⟨g9, h⟩ := jb_gd_of h
    refine jb_seg 13 (pc' := 134) (ls' := [some (.ref 79), some (.int x1), none, some (.int x3), none, some (.int x5), some (.int (s.1 + 1))]) (st' := []) (σ' := (zE L, (jb_up s.2 106 (s.1).toNatClampNeg (s.2 104 ((s.2 105 (s.1).toNatClampNeg)).toNatClampNeg)), N)) (G := [vp_in s.1 4, vp_in (s.2 105 (s.1).toNatClampNeg) 4, vp_in s.1 4]) rfl ⟨g7, g8, g9⟩ ?_
    obtain rfl := Option.some.inj h
    exact jb_mask [true, true, false, true, false, true, true] rfl hK
  · replace h := (if_neg c).symm.trans h
    obtain ⟨y0, hy0, rfl⟩ := jb_mp_of h
    exact jb_mask [true, true, false, true, false, true, false] rfl (zg_243_J165 hd x1 x3 x5 s.2 N hy0 hK)
theorem zg_243_H134L {Γ : jb_G} {L : Nat} {d : Nat} (hd : 3 ≤ d) (x1 : Int32) (x3 : Int32) (x5 : Int32) (N : jb_Ml) {v : Option Value} {σ2 : jb_S} {s : Int32 × jb_Mi} {r : ((Int32 × jb_Mi) ⊕ (Int32 × jb_Mi))} (h : jb_lp (zf_243_H134 x1 x3 x5) s = some r) (hK : (jb_K (fun s : Int32 × jb_Mi => jb_V Γ d zq_243 103 [some (.ref 79), some (.int x1), none, some (.int x3), none, some (.int s.1), none] [] (zE L, s.2, N) v σ2) (fun r : Int32 × jb_Mi => v = some (.int r.1) ∧ σ2 = (zE L, r.2, N))) r) : jb_V Γ d zq_243 134 [some (.ref 79), some (.int x1), none, some (.int x3), none, some (.int x5), some (.int s.1)] [] (zE L, s.2, N) v σ2 := by
  exact @jb_lp_ind (Int32 × jb_Mi) (((Int32 × jb_Mi) ⊕ (Int32 × jb_Mi))) (zf_243_H134 x1 x3 x5) (fun s => jb_V Γ d zq_243 134 [some (.ref 79), some (.int x1), none, some (.int x3), none, some (.int x5), some (.int s.1)] [] (zE L, s.2, N) v σ2) (jb_K (fun s : Int32 × jb_Mi => jb_V Γ d zq_243 103 [some (.ref 79), some (.int x1), none, some (.int x3), none, some (.int s.1), none] [] (zE L, s.2, N) v σ2) (fun r : Int32 × jb_Mi => v = some (.int r.1) ∧ σ2 = (zE L, r.2, N))) (fun s r h hk => zg_243_H134 hd x1 x3 x5 N s h hk) s r h hK
set_option maxRecDepth 20000 in
theorem zg_243_H103 {Γ : jb_G} {L : Nat} {d : Nat} (hd : 3 ≤ d) (x1 : Int32) (x3 : Int32) (N : jb_Ml) (s : Int32 × jb_Mi) {v : Option Value} {σ2 : jb_S} {r : ((Int32 × jb_Mi) ⊕ (Int32 × jb_Mi))} (h : zf_243_H103 x1 x3 s = some r) (hK : (jb_K (fun s : Int32 × jb_Mi => jb_V Γ d zq_243 103 [some (.ref 79), some (.int x1), none, some (.int x3), none, some (.int s.1), none] [] (zE L, s.2, N) v σ2) (fun r : Int32 × jb_Mi => v = some (.int r.1) ∧ σ2 = (zE L, r.2, N))) r) : jb_V Γ d zq_243 103 [some (.ref 79), some (.int x1), none, some (.int x3), none, some (.int s.1), none] [] (zE L, s.2, N) v σ2 := by
  obtain ⟨d, rfl⟩ : ∃ e, d = e + 1 := ⟨d - 1, by omega⟩
  unfold zf_243_H103 at h
  refine jb_seg 3 (pc' := (if s.1 < 256 then 111 else 171)) (ls' := [some (.ref 79), some (.int x1), none, some (.int x3), none, some (.int s.1), none]) (st' := []) (σ' := (zE L, s.2, N)) (G := []) rfl trivial ?_
  refine jb_ite (fun c => ?_) (fun c => ?_)
  · replace h := (if_pos c).symm.trans h
    refine jb_seg 2 (pc' := 114) (ls' := [some (.ref 79), some (.int x1), none, some (.int x3), none, some (.int s.1), none]) (st' := [(.int s.1), (.ref 79)]) (σ' := (zE L, s.2, N)) (G := []) rfl trivial ?_
    obtain ⟨q5, h5, h⟩ := jb_bd_of h
    refine jb_callV (q' := zq_241) (As := [(.int s.1)]) (rest := []) (σ1 := (zE L, q5.2, N)) (v := some (.int (jb_b2i q5.1))) rfl rfl zp_241 rfl (Nat.le_of_ble_eq_true rfl) (jb_cat rfl) (Nat.le_of_ble_eq_true rfl) (Nat.le_of_ble_eq_true rfl) (Or.inl rfl) rfl (ze_241 s.1 s.2 N h5) ?_
    refine jb_seg 1 (pc' := (if (jb_b2i q5.1) = 0 then 165 else 120)) (ls' := [some (.ref 79), some (.int x1), none, some (.int x3), none, some (.int s.1), none]) (st' := []) (σ' := (zE L, q5.2, N)) (G := []) rfl trivial ?_
    refine jb_ite (fun c => ?_) (fun c => ?_)
    · replace h := (if_pos c).symm.trans h
      exact jb_mask [true, true, false, true, false, true, false] rfl (zg_243_J165 hd x1 x3 s.1 q5.2 N h hK)
    · replace h := (if_neg c).symm.trans h
      refine jb_seg 2 (pc' := 122) (ls' := [some (.ref 79), some (.int x1), none, some (.int x3), none, some (.int s.1), none]) (st' := [(.int x1), (.ref 79)]) (σ' := (zE L, q5.2, N)) (G := []) rfl trivial ?_
      obtain ⟨q6, h6, h⟩ := jb_bd_of h
      refine jb_callV (q' := zq_242) (As := [(.int x1)]) (rest := []) (σ1 := (zE L, q6.2, N)) (v := some (.int (jb_b2i q6.1))) rfl rfl zp_242 rfl (Nat.le_of_ble_eq_true rfl) (jb_cat rfl) (Nat.le_of_ble_eq_true rfl) (Nat.le_of_ble_eq_true rfl) (Or.inl rfl) rfl (ze_242 (by omega) x1 q5.2 N h6) ?_
      refine jb_seg 1 (pc' := (if (jb_b2i q6.1) = 0 then 128 else 131)) (ls' := [some (.ref 79), some (.int x1), none, some (.int x3), none, some (.int s.1), none]) (st' := []) (σ' := (zE L, q6.2, N)) (G := []) rfl trivial ?_
      refine jb_ite (fun c => ?_) (fun c => ?_)
      · replace h := (if_pos c).symm.trans h
        refine jb_seg 1 (pc' := 165) (ls' := [some (.ref 79), some (.int x1), none, some (.int x3), none, some (.int s.1), none]) (st' := []) (σ' := (zE L, q6.2, N)) (G := []) rfl trivial ?_
        exact jb_mask [true, true, false, true, false, true, false] rfl (zg_243_J165 hd x1 x3 s.1 q6.2 N h hK)
      · replace h := (if_neg c).symm.trans h
        refine jb_seg 2 (pc' := 134) (ls' := [some (.ref 79), some (.int x1), none, some (.int x3), none, some (.int s.1), some (.int 0)]) (st' := []) (σ' := (zE L, q6.2, N)) (G := []) rfl trivial ?_
        exact jb_mask [true, true, false, true, false, true, true] rfl (zg_243_H134L hd x1 x3 s.1 N h hK)
  · replace h := (if_neg c).symm.trans h
    refine jb_seg 4 (pc' := 179) (ls' := [some (.ref 79), some (.int x1), none, some (.int x3), none, some (.int s.1), none]) (st' := [(.int (s.2 79 50)), (.int (s.2 79 49))]) (σ' := (zE L, s.2, N)) (G := []) rfl trivial ?_
    obtain ⟨q10, h10, h⟩ := jb_bd_of h
    refine jb_callS (q' := zq_240) (As := [(.int (s.2 79 49)), (.int (s.2 79 50))]) (rest := []) (σ1 := (zE L, s.2, N)) (v := some (.int q10)) rfl (Nat.le_of_ble_eq_true rfl) rfl zp_240 (jb_cat rfl) (Nat.le_of_ble_eq_true rfl) (Nat.le_of_ble_eq_true rfl) (Or.inl rfl) rfl (ze_240 (s.2 79 49) (s.2 79 50) s.2 N h10) ?_
    refine jb_seg 4 (pc' := (if x3 < 4 then 189 else 198)) (ls' := [some (.ref 79), some (.int x1), none, some (.int x3), none, some (.int q10), none]) (st' := []) (σ' := (zE L, s.2, N)) (G := []) rfl trivial ?_
    refine jb_ite (fun c => ?_) (fun c => ?_)
    · replace h := (if_pos c).symm.trans h
      obtain ⟨g11, h⟩ := jb_gd_of h
      refine jb_seg 5 (pc' := 220) (ls' := [some (.ref 79), some (.int x1), none, some (.int x3), none, some (.int q10), none]) (st' := [(.int (s.2 106 x3.toNatClampNeg))]) (σ' := (zE L, s.2, N)) (G := [vp_in x3 4]) rfl g11 ?_
      obtain rfl := Option.some.inj h
      obtain ⟨rfl, rfl⟩ := hK
      exact jb_reti rfl rfl
    · replace h := (if_neg c).symm.trans h
      refine jb_seg 3 (pc' := (if x3 = 4 then 203 else 213)) (ls' := [some (.ref 79), some (.int x1), none, some (.int x3), none, some (.int q10), none]) (st' := []) (σ' := (zE L, s.2, N)) (G := []) rfl trivial ?_
      refine jb_ite (fun c => ?_) (fun c => ?_)
      · replace h := (if_pos c).symm.trans h
        obtain ⟨g12, h⟩ := jb_g0_of h
        refine jb_seg 5 (pc' := 220) (ls' := [some (.ref 79), some (.int x1), none, some (.int x3), none, some (.int q10), none]) (st' := [(.int ((s.2 79 49) / q10))]) (σ' := (zE L, s.2, N)) (G := [¬ (q10 : Int32) = 0]) rfl g12 ?_
        obtain rfl := Option.some.inj h
        obtain ⟨rfl, rfl⟩ := hK
        exact jb_reti rfl rfl
      · replace h := (if_neg c).symm.trans h
        obtain ⟨g13, h⟩ := jb_g0_of h
        refine jb_seg 4 (pc' := 220) (ls' := [some (.ref 79), some (.int x1), none, some (.int x3), none, some (.int q10), none]) (st' := [(.int ((s.2 79 50) / q10))]) (σ' := (zE L, s.2, N)) (G := [¬ (q10 : Int32) = 0]) rfl g13 ?_
        obtain rfl := Option.some.inj h
        obtain ⟨rfl, rfl⟩ := hK
        exact jb_reti rfl rfl
theorem zg_243_H103L {Γ : jb_G} {L : Nat} {d : Nat} (hd : 3 ≤ d) (x1 : Int32) (x3 : Int32) (N : jb_Ml) {v : Option Value} {σ2 : jb_S} {s : Int32 × jb_Mi} {r : (Int32 × jb_Mi)} (h : jb_lp (zf_243_H103 x1 x3) s = some r) (hK : (fun r : Int32 × jb_Mi => v = some (.int r.1) ∧ σ2 = (zE L, r.2, N)) r) : jb_V Γ d zq_243 103 [some (.ref 79), some (.int x1), none, some (.int x3), none, some (.int s.1), none] [] (zE L, s.2, N) v σ2 := by
  exact @jb_lp_ind (Int32 × jb_Mi) ((Int32 × jb_Mi)) (zf_243_H103 x1 x3) (fun s => jb_V Γ d zq_243 103 [some (.ref 79), some (.int x1), none, some (.int x3), none, some (.int s.1), none] [] (zE L, s.2, N) v σ2) (fun r : Int32 × jb_Mi => v = some (.int r.1) ∧ σ2 = (zE L, r.2, N)) (fun s r h hk => zg_243_H103 hd x1 x3 N s h hk) s r h hK
set_option maxRecDepth 20000 in
theorem zg_243_H44 {Γ : jb_G} {L : Nat} {d : Nat} (hd : 3 ≤ d) (x1 : Int32) (x2 : Int32) (x3 : Int32) (N : jb_Ml) (s : Int32 × Int32 × jb_Mi) {v : Option Value} {σ2 : jb_S} {r : ((Int32 × Int32 × jb_Mi) ⊕ (Int32 × jb_Mi))} (h : zf_243_H44 x1 x2 x3 s = some r) (hK : (jb_K (fun s : Int32 × Int32 × jb_Mi => jb_V Γ d zq_243 44 [some (.ref 79), some (.int x1), some (.int x2), some (.int x3), some (.int s.1), some (.int s.2.1), none] [] (zE L, s.2.2, N) v σ2) (fun r : Int32 × jb_Mi => v = some (.int r.1) ∧ σ2 = (zE L, r.2, N))) r) : jb_V Γ d zq_243 44 [some (.ref 79), some (.int x1), some (.int x2), some (.int x3), some (.int s.1), some (.int s.2.1), none] [] (zE L, s.2.2, N) v σ2 := by
  obtain ⟨d, rfl⟩ : ∃ e, d = e + 1 := ⟨d - 1, by omega⟩
  unfold zf_243_H44 at h
  refine jb_seg 3 (pc' := (if s.2.1 < 16 then 51 else 95)) (ls' := [some (.ref 79), some (.int x1), some (.int x2), some (.int x3), some (.int s.1), some (.int s.2.1), none]) (st' := []) (σ' := (zE L, s.2.2, N)) (G := []) rfl trivial ?_
  refine jb_ite (fun c => ?_) (fun c => ?_)
  · replace h := (if_pos c).symm.trans h
    refine jb_seg 2 (pc' := 54) (ls' := [some (.ref 79), some (.int x1), some (.int x2), some (.int x3), some (.int s.1), some (.int s.2.1), none]) (st' := [(.int s.2.1), (.int x2)]) (σ' := (zE L, s.2.2, N)) (G := []) rfl trivial ?_
    refine jb_callS (q' := zq_168) (As := [(.int x2), (.int s.2.1)]) (rest := []) (σ1 := (zE L, s.2.2, N)) (v := some (.int (jb_b2i (zf_168 x2 s.2.1)))) rfl (Nat.le_of_ble_eq_true rfl) rfl zp_168 (jb_cat rfl) (Nat.le_of_ble_eq_true rfl) (Nat.le_of_ble_eq_true rfl) (Or.inl rfl) rfl (ze_168 x2 s.2.1 s.2.2 N rfl) ?_
    refine jb_seg 1 (pc' := (if (jb_b2i (zf_168 x2 s.2.1)) = 0 then 60 else 63)) (ls' := [some (.ref 79), some (.int x1), some (.int x2), some (.int x3), some (.int s.1), some (.int s.2.1), none]) (st' := []) (σ' := (zE L, s.2.2, N)) (G := []) rfl trivial ?_
    refine jb_ite (fun c => ?_) (fun c => ?_)
    · replace h := (if_pos c).symm.trans h
      refine jb_seg 1 (pc' := 89) (ls' := [some (.ref 79), some (.int x1), some (.int x2), some (.int x3), some (.int s.1), some (.int s.2.1), none]) (st' := []) (σ' := (zE L, s.2.2, N)) (G := []) rfl trivial ?_
      exact jb_mask [true, true, true, true, true, true, false] rfl (zg_243_J89 hd x1 x2 x3 s.1 s.2.1 s.2.2 N h hK)
    · replace h := (if_neg c).symm.trans h
      refine jb_seg 2 (pc' := 66) (ls' := [some (.ref 79), some (.int x1), some (.int x2), some (.int x3), some (.int s.1), some (.int s.2.1), none]) (st' := [(.int s.2.1), (.ref 79)]) (σ' := (zE L, s.2.2, N)) (G := []) rfl trivial ?_
      obtain ⟨q3, h3, h⟩ := jb_bd_of h
      refine jb_callV (q' := zq_174) (As := [(.int s.2.1)]) (rest := []) (σ1 := (zE L, s.2.2, N)) (v := some (.int (jb_b2i q3))) rfl rfl zp_174 rfl (Nat.le_of_ble_eq_true rfl) (jb_cat rfl) (Nat.le_of_ble_eq_true rfl) (Nat.le_of_ble_eq_true rfl) (Or.inl rfl) rfl (ze_174 (by omega) s.2.1 s.2.2 N h3) ?_
      refine jb_seg 1 (pc' := (if (jb_b2i q3) = 0 then 72 else 74)) (ls' := [some (.ref 79), some (.int x1), some (.int x2), some (.int x3), some (.int s.1), some (.int s.2.1), none]) (st' := []) (σ' := (zE L, s.2.2, N)) (G := []) rfl trivial ?_
      refine jb_ite (fun c => ?_) (fun c => ?_)
      · replace h := (if_pos c).symm.trans h
        refine jb_seg 1 (pc' := 73) (ls' := [some (.ref 79), some (.int x1), some (.int x2), some (.int x3), some (.int s.1), some (.int s.2.1), none]) (st' := [(.int (-1))]) (σ' := (zE L, s.2.2, N)) (G := []) rfl trivial ?_
        obtain rfl := Option.some.inj h
        obtain ⟨rfl, rfl⟩ := hK
        exact jb_reti rfl rfl
      · replace h := (if_neg c).symm.trans h
        obtain ⟨g4, h⟩ := jb_gd_of h
        refine jb_seg 9 (pc' := 89) (ls' := [some (.ref 79), some (.int x1), some (.int x2), some (.int x3), some (.int (s.1 + 1)), some (.int s.2.1), none]) (st' := []) (σ' := (zE L, (jb_up s.2.2 104 (s.1).toNatClampNeg s.2.1), N)) (G := [vp_in s.1 4]) rfl g4 ?_
        exact jb_mask [true, true, true, true, true, true, false] rfl (zg_243_J89 hd x1 x2 x3 (s.1 + 1) s.2.1 (jb_up s.2.2 104 (s.1).toNatClampNeg s.2.1) N h hK)
  · replace h := (if_neg c).symm.trans h
    refine jb_seg 5 (pc' := 103) (ls' := [some (.ref 79), some (.int x1), some (.int x2), some (.int x3), some (.int s.1), some (.int 0), none]) (st' := []) (σ' := (zE L, (jb_up s.2.2 79 50 0), N)) (G := []) rfl trivial ?_
    obtain ⟨y0, hy0, rfl⟩ := jb_mp_of h
    exact jb_mask [true, true, false, true, false, true, false] rfl (zg_243_H103L hd x1 x3 N hy0 hK)
theorem zg_243_H44L {Γ : jb_G} {L : Nat} {d : Nat} (hd : 3 ≤ d) (x1 : Int32) (x2 : Int32) (x3 : Int32) (N : jb_Ml) {v : Option Value} {σ2 : jb_S} {s : Int32 × Int32 × jb_Mi} {r : (Int32 × jb_Mi)} (h : jb_lp (zf_243_H44 x1 x2 x3) s = some r) (hK : (fun r : Int32 × jb_Mi => v = some (.int r.1) ∧ σ2 = (zE L, r.2, N)) r) : jb_V Γ d zq_243 44 [some (.ref 79), some (.int x1), some (.int x2), some (.int x3), some (.int s.1), some (.int s.2.1), none] [] (zE L, s.2.2, N) v σ2 := by
  exact @jb_lp_ind (Int32 × Int32 × jb_Mi) ((Int32 × jb_Mi)) (zf_243_H44 x1 x2 x3) (fun s => jb_V Γ d zq_243 44 [some (.ref 79), some (.int x1), some (.int x2), some (.int x3), some (.int s.1), some (.int s.2.1), none] [] (zE L, s.2.2, N) v σ2) (fun r : Int32 × jb_Mi => v = some (.int r.1) ∧ σ2 = (zE L, r.2, N)) (fun s r h hk => zg_243_H44 hd x1 x2 x3 N s h hk) s r h hK
set_option maxRecDepth 20000 in
theorem zg_243 {Γ : jb_G} {L : Nat} {d : Nat} (hd : 3 ≤ d) (x1 : Int32) (x2 : Int32) (x3 : Int32) (M : jb_Mi) (N : jb_Ml) {v : Option Value} {σ2 : jb_S} {r : (Int32 × jb_Mi)} (h : zf_243 x1 x2 x3 M = some r) (hK : (fun r : Int32 × jb_Mi => v = some (.int r.1) ∧ σ2 = (zE L, r.2, N)) r) : jb_V Γ d zq_243 0 [some (.ref 79), some (.int x1), some (.int x2), some (.int x3), none, none, none] [] (zE L, M, N) v σ2 := by
  obtain ⟨d, rfl⟩ : ∃ e, d = e + 1 := ⟨d - 1, by omega⟩
  unfold zf_243 at h
  refine jb_seg 2 (pc' := 2) (ls' := [some (.ref 79), some (.int x1), some (.int x2), some (.int x3), none, none, none]) (st' := [(.int x1), (.ref 79)]) (σ' := (zE L, M, N)) (G := []) rfl trivial ?_
  obtain ⟨q1, h1, h⟩ := jb_bd_of h
  refine jb_callV (q' := zq_171) (As := [(.int x1)]) (rest := []) (σ1 := (zE L, M, N)) (v := some (.int (jb_b2i q1))) rfl rfl zp_171 rfl (Nat.le_of_ble_eq_true rfl) (jb_cat rfl) (Nat.le_of_ble_eq_true rfl) (Nat.le_of_ble_eq_true rfl) (Or.inl rfl) rfl (ze_171 (by omega) x1 M N h1) ?_
  refine jb_seg 1 (pc' := (if (jb_b2i q1) = 0 then 36 else 8)) (ls' := [some (.ref 79), some (.int x1), some (.int x2), some (.int x3), none, none, none]) (st' := []) (σ' := (zE L, M, N)) (G := []) rfl trivial ?_
  refine jb_ite (fun c => ?_) (fun c => ?_)
  · replace h := (if_pos c).symm.trans h
    refine jb_seg 1 (pc' := 37) (ls' := [some (.ref 79), some (.int x1), some (.int x2), some (.int x3), none, none, none]) (st' := [(.int (-1))]) (σ' := (zE L, M, N)) (G := []) rfl trivial ?_
    obtain rfl := Option.some.inj h
    obtain ⟨rfl, rfl⟩ := hK
    exact jb_reti rfl rfl
  · replace h := (if_neg c).symm.trans h
    refine jb_seg 3 (pc' := 13) (ls' := [some (.ref 79), some (.int x1), some (.int x2), some (.int x3), none, none, none]) (st' := [(.int 65535), (.int 1), (.int x2)]) (σ' := (zE L, M, N)) (G := []) rfl trivial ?_
    refine jb_callS (q' := zq_164) (As := [(.int x2), (.int 1), (.int 65535)]) (rest := []) (σ1 := (zE L, M, N)) (v := some (.int (jb_b2i (zf_164 x2 1 65535)))) rfl (Nat.le_of_ble_eq_true rfl) rfl zp_164 (jb_cat rfl) (Nat.le_of_ble_eq_true rfl) (Nat.le_of_ble_eq_true rfl) (Or.inl rfl) rfl (ze_164 x2 1 65535 M N rfl) ?_
    refine jb_seg 1 (pc' := (if (jb_b2i (zf_164 x2 1 65535)) = 0 then 36 else 19)) (ls' := [some (.ref 79), some (.int x1), some (.int x2), some (.int x3), none, none, none]) (st' := []) (σ' := (zE L, M, N)) (G := []) rfl trivial ?_
    refine jb_ite (fun c => ?_) (fun c => ?_)
    · replace h := (if_pos c).symm.trans h
      refine jb_seg 1 (pc' := 37) (ls' := [some (.ref 79), some (.int x1), some (.int x2), some (.int x3), none, none, none]) (st' := [(.int (-1))]) (σ' := (zE L, M, N)) (G := []) rfl trivial ?_
      obtain rfl := Option.some.inj h
      obtain ⟨rfl, rfl⟩ := hK
      exact jb_reti rfl rfl
    · replace h := (if_neg c).symm.trans h
      refine jb_seg 1 (pc' := 20) (ls' := [some (.ref 79), some (.int x1), some (.int x2), some (.int x3), none, none, none]) (st' := [(.int x2)]) (σ' := (zE L, M, N)) (G := []) rfl trivial ?_
      obtain ⟨q2, h2, h⟩ := jb_bd_of h
      refine jb_callS (q' := zq_169) (As := [(.int x2)]) (rest := []) (σ1 := (zE L, M, N)) (v := some (.int q2)) rfl (Nat.le_of_ble_eq_true rfl) rfl zp_169 (jb_cat rfl) (Nat.le_of_ble_eq_true rfl) (Nat.le_of_ble_eq_true rfl) (Or.inl rfl) rfl (ze_169 x2 M N h2) ?_
      refine jb_seg 2 (pc' := (if q2 = 4 then 27 else 36)) (ls' := [some (.ref 79), some (.int x1), some (.int x2), some (.int x3), none, none, none]) (st' := []) (σ' := (zE L, M, N)) (G := []) rfl trivial ?_
      refine jb_ite (fun c => ?_) (fun c => ?_)
      · replace h := (if_pos c).symm.trans h
        refine jb_seg 3 (pc' := 30) (ls' := [some (.ref 79), some (.int x1), some (.int x2), some (.int x3), none, none, none]) (st' := [(.int 5), (.int 0), (.int x3)]) (σ' := (zE L, M, N)) (G := []) rfl trivial ?_
        refine jb_callS (q' := zq_164) (As := [(.int x3), (.int 0), (.int 5)]) (rest := []) (σ1 := (zE L, M, N)) (v := some (.int (jb_b2i (zf_164 x3 0 5)))) rfl (Nat.le_of_ble_eq_true rfl) rfl zp_164 (jb_cat rfl) (Nat.le_of_ble_eq_true rfl) (Nat.le_of_ble_eq_true rfl) (Or.inl rfl) rfl (ze_164 x3 0 5 M N rfl) ?_
        refine jb_seg 1 (pc' := (if (jb_b2i (zf_164 x3 0 5)) = 0 then 36 else 38)) (ls' := [some (.ref 79), some (.int x1), some (.int x2), some (.int x3), none, none, none]) (st' := []) (σ' := (zE L, M, N)) (G := []) rfl trivial ?_
        refine jb_ite (fun c => ?_) (fun c => ?_)
        · replace h := (if_pos c).symm.trans h
          refine jb_seg 1 (pc' := 37) (ls' := [some (.ref 79), some (.int x1), some (.int x2), some (.int x3), none, none, none]) (st' := [(.int (-1))]) (σ' := (zE L, M, N)) (G := []) rfl trivial ?_
          obtain rfl := Option.some.inj h
          obtain ⟨rfl, rfl⟩ := hK
          exact jb_reti rfl rfl
        · replace h := (if_neg c).symm.trans h
          refine jb_seg 4 (pc' := 44) (ls' := [some (.ref 79), some (.int x1), some (.int x2), some (.int x3), some (.int 0), some (.int 0), none]) (st' := []) (σ' := (zE L, M, N)) (G := []) rfl trivial ?_
          exact jb_mask [true, true, true, true, true, true, false] rfl (zg_243_H44L hd x1 x2 x3 N h hK)
      · replace h := (if_neg c).symm.trans h
        refine jb_seg 1 (pc' := 37) (ls' := [some (.ref 79), some (.int x1), some (.int x2), some (.int x3), none, none, none]) (st' := [(.int (-1))]) (σ' := (zE L, M, N)) (G := []) rfl trivial ?_
        obtain rfl := Option.some.inj h
        obtain ⟨rfl, rfl⟩ := hK
        exact jb_reti rfl rfl
theorem ze_243 {Γ : jb_G} {L : Nat} {d : Nat} (hd : 3 ≤ d) (x1 : Int32) (x2 : Int32) (x3 : Int32) (M : jb_Mi) (N : jb_Ml) {r : (Int32 × jb_Mi)} (h : zf_243 x1 x2 x3 M = some r) : jb_V Γ d zq_243 0 (jb_en 7 [(.ref 79), (.int x1), (.int x2), (.int x3)]) [] (zE L, M, N) (some (.int r.1)) (zE L, r.2, N) := zg_243 hd x1 x2 x3 M N h ⟨rfl, rfl⟩
-- X13_isBorne
set_option maxRecDepth 20000 in
theorem zg_244_J85 {Γ : jb_G} {L : Nat} {d : Nat} (hd : 3 ≤ d) (x1 : Int32) (x2 : Int32) (x3 : Int32) (x4 : Int32) (x5 : Int32) (M : jb_Mi) (N : jb_Ml) {v : Option Value} {σ2 : jb_S} {r : ((Int32 × Int32) ⊕ ((Int32) ⊕ (Bool)))} (h : zf_244_J85 x1 x2 x3 x4 x5 M = some r) (hK : (jb_K (fun s : Int32 × Int32 => jb_V Γ d zq_244 18 [some (.ref 79), some (.int x1), some (.int x2), some (.int x3), some (.int s.1), some (.int s.2), none] [] (zE L, M, N) v σ2) (jb_K (fun s : Int32 => jb_V Γ d zq_244 2 [some (.ref 79), some (.int x1), some (.int x2), some (.int s), none, none, none] [] (zE L, M, N) v σ2) (fun r : Bool => v = some (.int (jb_b2i r)) ∧ σ2 = (zE L, M, N)))) r) : jb_V Γ d zq_244 85 [some (.ref 79), some (.int x1), some (.int x2), some (.int x3), some (.int x4), some (.int x5), none] [] (zE L, M, N) v σ2 := by
  obtain ⟨d, rfl⟩ : ∃ e, d = e + 1 := ⟨d - 1, by omega⟩
  unfold zf_244_J85 at h
  refine jb_seg 2 (pc' := 18) (ls' := [some (.ref 79), some (.int x1), some (.int x2), some (.int x3), some (.int x4), some (.int (x5 + 1)), none]) (st' := []) (σ' := (zE L, M, N)) (G := []) rfl trivial ?_
  obtain rfl := Option.some.inj h
  exact jb_mask [true, true, true, true, true, true, false] rfl hK
set_option maxRecDepth 20000 in
theorem zg_244_J127 {Γ : jb_G} {L : Nat} {d : Nat} (hd : 3 ≤ d) (x1 : Int32) (x2 : Int32) (x3 : Int32) (s0 : Int32) (s1 : Int32) (s2 : Int32) (M : jb_Mi) (N : jb_Ml) {v : Option Value} {σ2 : jb_S} {r : ((Int32) ⊕ (Bool))} (h : zf_244_J127 x1 x2 x3 s0 s1 s2 M = some r) (hK : (jb_K (fun s : Int32 => jb_V Γ d zq_244 2 [some (.ref 79), some (.int x1), some (.int x2), some (.int s), none, none, none] [] (zE L, M, N) v σ2) (fun r : Bool => v = some (.int (jb_b2i r)) ∧ σ2 = (zE L, M, N))) r) : jb_V Γ d zq_244 127 [some (.ref 79), some (.int x1), some (.int x2), some (.int x3), none, none, none] [(.int s2), (.int s1), (.int s0)] (zE L, M, N) v σ2 := by
  obtain ⟨d, rfl⟩ : ∃ e, d = e + 1 := ⟨d - 1, by omega⟩
  unfold zf_244_J127 at h
  refine jb_seg 2 (pc' := (if (s1 * s2) < s0 then 131 else 133)) (ls' := [some (.ref 79), some (.int x1), some (.int x2), some (.int x3), none, none, none]) (st' := []) (σ' := (zE L, M, N)) (G := []) rfl trivial ?_
  refine jb_ite (fun c => ?_) (fun c => ?_)
  · replace h := (if_pos c).symm.trans h
    refine jb_seg 1 (pc' := 132) (ls' := [some (.ref 79), some (.int x1), some (.int x2), some (.int x3), none, none, none]) (st' := [(.int 0)]) (σ' := (zE L, M, N)) (G := []) rfl trivial ?_
    obtain rfl := Option.some.inj h
    obtain ⟨rfl, rfl⟩ := hK
    exact jb_retz (by decide) rfl rfl
  · replace h := (if_neg c).symm.trans h
    refine jb_seg 2 (pc' := 2) (ls' := [some (.ref 79), some (.int x1), some (.int x2), some (.int (x3 + 1)), none, none, none]) (st' := []) (σ' := (zE L, M, N)) (G := []) rfl trivial ?_
    obtain rfl := Option.some.inj h
    exact jb_mask [true, true, true, true, false, false, false] rfl hK
set_option maxRecDepth 20000 in
theorem zg_244_H18 {Γ : jb_G} {L : Nat} {d : Nat} (hd : 3 ≤ d) (x1 : Int32) (x2 : Int32) (x3 : Int32) (M : jb_Mi) (N : jb_Ml) (s : Int32 × Int32) {v : Option Value} {σ2 : jb_S} {r : ((Int32 × Int32) ⊕ ((Int32) ⊕ (Bool)))} (h : zf_244_H18 x1 x2 x3 M s = some r) (hK : (jb_K (fun s : Int32 × Int32 => jb_V Γ d zq_244 18 [some (.ref 79), some (.int x1), some (.int x2), some (.int x3), some (.int s.1), some (.int s.2), none] [] (zE L, M, N) v σ2) (jb_K (fun s : Int32 => jb_V Γ d zq_244 2 [some (.ref 79), some (.int x1), some (.int x2), some (.int s), none, none, none] [] (zE L, M, N) v σ2) (fun r : Bool => v = some (.int (jb_b2i r)) ∧ σ2 = (zE L, M, N)))) r) : jb_V Γ d zq_244 18 [some (.ref 79), some (.int x1), some (.int x2), some (.int x3), some (.int s.1), some (.int s.2), none] [] (zE L, M, N) v σ2 := by
  obtain ⟨d, rfl⟩ : ∃ e, d = e + 1 := ⟨d - 1, by omega⟩
  unfold zf_244_H18 at h
  refine jb_seg 3 (pc' := (if s.2 < 12 then 25 else 91)) (ls' := [some (.ref 79), some (.int x1), some (.int x2), some (.int x3), some (.int s.1), some (.int s.2), none]) (st' := []) (σ' := (zE L, M, N)) (G := []) rfl trivial ?_
  refine jb_ite (fun c => ?_) (fun c => ?_)
  · replace h := (if_pos c).symm.trans h
    refine jb_seg 2 (pc' := 28) (ls' := [some (.ref 79), some (.int x1), some (.int x2), some (.int x3), some (.int s.1), some (.int s.2), none]) (st' := [(.int s.2), (.int x2)]) (σ' := (zE L, M, N)) (G := []) rfl trivial ?_
    refine jb_callS (q' := zq_168) (As := [(.int x2), (.int s.2)]) (rest := []) (σ1 := (zE L, M, N)) (v := some (.int (jb_b2i (zf_168 x2 s.2)))) rfl (Nat.le_of_ble_eq_true rfl) rfl zp_168 (jb_cat rfl) (Nat.le_of_ble_eq_true rfl) (Nat.le_of_ble_eq_true rfl) (Or.inl rfl) rfl (ze_168 x2 s.2 M N rfl) ?_
    refine jb_seg 1 (pc' := (if (jb_b2i (zf_168 x2 s.2)) = 0 then 34 else 37)) (ls' := [some (.ref 79), some (.int x1), some (.int x2), some (.int x3), some (.int s.1), some (.int s.2), none]) (st' := []) (σ' := (zE L, M, N)) (G := []) rfl trivial ?_
    refine jb_ite (fun c => ?_) (fun c => ?_)
    · replace h := (if_pos c).symm.trans h
      refine jb_seg 1 (pc' := 85) (ls' := [some (.ref 79), some (.int x1), some (.int x2), some (.int x3), some (.int s.1), some (.int s.2), none]) (st' := []) (σ' := (zE L, M, N)) (G := []) rfl trivial ?_
      exact jb_mask [true, true, true, true, true, true, false] rfl (zg_244_J85 hd x1 x2 x3 s.1 s.2 M N h hK)
    · replace h := (if_neg c).symm.trans h
      obtain ⟨g2, h⟩ := jb_gd_of h
      obtain ⟨g3, h⟩ := jb_gd_of h
      obtain ⟨g4, h⟩ := jb_gd_of h
      obtain ⟨g5, h⟩ := jb_gd_of h
      refine jb_seg 25 (pc' := 79) (ls' := [some (.ref 79), some (.int x1), some (.int x2), some (.int x3), some (.int s.1), some (.int s.2), some (.int (M 107 (s.2).toNatClampNeg))]) (st' := [(.int x3), (.int (M 80 ((66 + (M 107 (s.2).toNatClampNeg))).toNatClampNeg)), (.int (M 80 ((42 + (M 107 (s.2).toNatClampNeg))).toNatClampNeg)), (.int (M 80 ((90 + (M 107 (s.2).toNatClampNeg))).toNatClampNeg)), (.int s.1)]) (σ' := (zE L, M, N)) (G := [vp_in s.2 12, vp_in (90 + (M 107 (s.2).toNatClampNeg)) 149, vp_in (42 + (M 107 (s.2).toNatClampNeg)) 149, vp_in (66 + (M 107 (s.2).toNatClampNeg)) 149]) rfl ⟨g2, g3, g4, g5⟩ ?_
      refine jb_callS (q' := zq_178) (As := [(.int (M 80 ((90 + (M 107 (s.2).toNatClampNeg))).toNatClampNeg)), (.int (M 80 ((42 + (M 107 (s.2).toNatClampNeg))).toNatClampNeg)), (.int (M 80 ((66 + (M 107 (s.2).toNatClampNeg))).toNatClampNeg)), (.int x3)]) (rest := [(.int s.1)]) (σ1 := (zE L, M, N)) (v := some (.int (zf_178 (M 80 ((90 + (M 107 (s.2).toNatClampNeg))).toNatClampNeg) (M 80 ((42 + (M 107 (s.2).toNatClampNeg))).toNatClampNeg) (M 80 ((66 + (M 107 (s.2).toNatClampNeg))).toNatClampNeg) x3))) rfl (Nat.le_of_ble_eq_true rfl) rfl zp_178 (jb_cat rfl) (Nat.le_of_ble_eq_true rfl) (Nat.le_of_ble_eq_true rfl) (Or.inl rfl) rfl (ze_178 (M 80 ((90 + (M 107 (s.2).toNatClampNeg))).toNatClampNeg) (M 80 ((42 + (M 107 (s.2).toNatClampNeg))).toNatClampNeg) (M 80 ((66 + (M 107 (s.2).toNatClampNeg))).toNatClampNeg) x3 M N rfl) ?_
      refine jb_seg 2 (pc' := 85) (ls' := [some (.ref 79), some (.int x1), some (.int x2), some (.int x3), some (.int (s.1 - (zf_178 (M 80 ((90 + (M 107 (s.2).toNatClampNeg))).toNatClampNeg) (M 80 ((42 + (M 107 (s.2).toNatClampNeg))).toNatClampNeg) (M 80 ((66 + (M 107 (s.2).toNatClampNeg))).toNatClampNeg) x3))), some (.int s.2), some (.int (M 107 (s.2).toNatClampNeg))]) (st' := []) (σ' := (zE L, M, N)) (G := []) rfl trivial ?_
      exact jb_mask [true, true, true, true, true, true, false] rfl (zg_244_J85 hd x1 x2 x3 (s.1 - (zf_178 (M 80 ((90 + (M 107 (s.2).toNatClampNeg))).toNatClampNeg) (M 80 ((42 + (M 107 (s.2).toNatClampNeg))).toNatClampNeg) (M 80 ((66 + (M 107 (s.2).toNatClampNeg))).toNatClampNeg) x3)) s.2 M N h hK)
  · replace h := (if_neg c).symm.trans h
    refine jb_seg 7 (pc' := 98) (ls' := [some (.ref 79), some (.int x1), some (.int x2), some (.int x3), some (.int s.1), some (.int s.2), none]) (st' := [(.int 0), (.int ((4 * x1) + x3)), (.ref 79)]) (σ' := (zE L, M, N)) (G := []) rfl trivial ?_
    obtain ⟨q6, h6, h⟩ := jb_bd_of h
    refine jb_callV (q' := zq_216) (As := [(.int ((4 * x1) + x3)), (.int 0)]) (rest := []) (σ1 := (zE L, M, N)) (v := some (.int q6)) rfl rfl zp_216 rfl (Nat.le_of_ble_eq_true rfl) (jb_cat rfl) (Nat.le_of_ble_eq_true rfl) (Nat.le_of_ble_eq_true rfl) (Or.inl rfl) rfl (ze_216 (by omega) ((4 * x1) + x3) 0 M N h6) ?_
    refine jb_seg 6 (pc' := (if q6 = (-1) then 113 else 117)) (ls' := [some (.ref 79), some (.int x1), some (.int x2), some (.int x3), some (.int s.1), some (.int q6), none]) (st' := [(.int 64), (.int s.1)]) (σ' := (zE L, M, N)) (G := []) rfl trivial ?_
    refine jb_ite (fun c => ?_) (fun c => ?_)
    · replace h := (if_pos c).symm.trans h
      refine jb_seg 2 (pc' := 127) (ls' := [some (.ref 79), some (.int x1), some (.int x2), some (.int x3), some (.int s.1), some (.int q6), none]) (st' := [(.int 0), (.int 64), (.int s.1)]) (σ' := (zE L, M, N)) (G := []) rfl trivial ?_
      obtain ⟨y0, hy0, rfl⟩ := jb_mp_of h
      exact jb_mask [true, true, true, true, false, false, false] rfl (zg_244_J127 hd x1 x2 x3 s.1 64 0 M N hy0 hK)
    · replace h := (if_neg c).symm.trans h
      obtain ⟨g7, h⟩ := jb_gd_of h
      refine jb_seg 6 (pc' := 127) (ls' := [some (.ref 79), some (.int x1), some (.int x2), some (.int x3), some (.int s.1), some (.int q6), none]) (st' := [(.int (M 80 ((114 + q6)).toNatClampNeg)), (.int 64), (.int s.1)]) (σ' := (zE L, M, N)) (G := [vp_in (114 + q6) 149]) rfl g7 ?_
      obtain ⟨y0, hy0, rfl⟩ := jb_mp_of h
      exact jb_mask [true, true, true, true, false, false, false] rfl (zg_244_J127 hd x1 x2 x3 s.1 64 (M 80 ((114 + q6)).toNatClampNeg) M N hy0 hK)
theorem zg_244_H18L {Γ : jb_G} {L : Nat} {d : Nat} (hd : 3 ≤ d) (x1 : Int32) (x2 : Int32) (x3 : Int32) (M : jb_Mi) (N : jb_Ml) {v : Option Value} {σ2 : jb_S} {s : Int32 × Int32} {r : ((Int32) ⊕ (Bool))} (h : jb_lp (zf_244_H18 x1 x2 x3 M) s = some r) (hK : (jb_K (fun s : Int32 => jb_V Γ d zq_244 2 [some (.ref 79), some (.int x1), some (.int x2), some (.int s), none, none, none] [] (zE L, M, N) v σ2) (fun r : Bool => v = some (.int (jb_b2i r)) ∧ σ2 = (zE L, M, N))) r) : jb_V Γ d zq_244 18 [some (.ref 79), some (.int x1), some (.int x2), some (.int x3), some (.int s.1), some (.int s.2), none] [] (zE L, M, N) v σ2 := by
  exact @jb_lp_ind (Int32 × Int32) (((Int32) ⊕ (Bool))) (zf_244_H18 x1 x2 x3 M) (fun s => jb_V Γ d zq_244 18 [some (.ref 79), some (.int x1), some (.int x2), some (.int x3), some (.int s.1), some (.int s.2), none] [] (zE L, M, N) v σ2) (jb_K (fun s : Int32 => jb_V Γ d zq_244 2 [some (.ref 79), some (.int x1), some (.int x2), some (.int s), none, none, none] [] (zE L, M, N) v σ2) (fun r : Bool => v = some (.int (jb_b2i r)) ∧ σ2 = (zE L, M, N))) (fun s r h hk => zg_244_H18 hd x1 x2 x3 M N s h hk) s r h hK
set_option maxRecDepth 20000 in
theorem zg_244_H2 {Γ : jb_G} {L : Nat} {d : Nat} (hd : 3 ≤ d) (x1 : Int32) (x2 : Int32) (M : jb_Mi) (N : jb_Ml) (s : Int32) {v : Option Value} {σ2 : jb_S} {r : ((Int32) ⊕ (Bool))} (h : zf_244_H2 x1 x2 M s = some r) (hK : (jb_K (fun s : Int32 => jb_V Γ d zq_244 2 [some (.ref 79), some (.int x1), some (.int x2), some (.int s), none, none, none] [] (zE L, M, N) v σ2) (fun r : Bool => v = some (.int (jb_b2i r)) ∧ σ2 = (zE L, M, N))) r) : jb_V Γ d zq_244 2 [some (.ref 79), some (.int x1), some (.int x2), some (.int s), none, none, none] [] (zE L, M, N) v σ2 := by
  obtain ⟨d, rfl⟩ : ∃ e, d = e + 1 := ⟨d - 1, by omega⟩
  unfold zf_244_H2 at h
  refine jb_seg 3 (pc' := (if s < 4 then 7 else 139)) (ls' := [some (.ref 79), some (.int x1), some (.int x2), some (.int s), none, none, none]) (st' := []) (σ' := (zE L, M, N)) (G := []) rfl trivial ?_
  refine jb_ite (fun c => ?_) (fun c => ?_)
  · replace h := (if_pos c).symm.trans h
    refine jb_seg 3 (pc' := 10) (ls' := [some (.ref 79), some (.int x1), some (.int x2), some (.int s), none, none, none]) (st' := [(.int s), (.int x1), (.ref 79)]) (σ' := (zE L, M, N)) (G := []) rfl trivial ?_
    obtain ⟨q1, h1, h⟩ := jb_bd_of h
    refine jb_callV (q' := zq_179) (As := [(.int x1), (.int s)]) (rest := []) (σ1 := (zE L, M, N)) (v := some (.int q1)) rfl rfl zp_179 rfl (Nat.le_of_ble_eq_true rfl) (jb_cat rfl) (Nat.le_of_ble_eq_true rfl) (Nat.le_of_ble_eq_true rfl) (Or.inl rfl) rfl (ze_179 (by omega) x1 s M N h1) ?_
    refine jb_seg 3 (pc' := 18) (ls' := [some (.ref 79), some (.int x1), some (.int x2), some (.int s), some (.int q1), some (.int 0), none]) (st' := []) (σ' := (zE L, M, N)) (G := []) rfl trivial ?_
    exact jb_mask [true, true, true, true, true, true, false] rfl (zg_244_H18L hd x1 x2 s M N h hK)
  · replace h := (if_neg c).symm.trans h
    refine jb_seg 1 (pc' := 140) (ls' := [some (.ref 79), some (.int x1), some (.int x2), some (.int s), none, none, none]) (st' := [(.int 1)]) (σ' := (zE L, M, N)) (G := []) rfl trivial ?_
    obtain rfl := Option.some.inj h
    obtain ⟨rfl, rfl⟩ := hK
    exact jb_retz (by decide) rfl rfl
theorem zg_244_H2L {Γ : jb_G} {L : Nat} {d : Nat} (hd : 3 ≤ d) (x1 : Int32) (x2 : Int32) (M : jb_Mi) (N : jb_Ml) {v : Option Value} {σ2 : jb_S} {s : Int32} {r : (Bool)} (h : jb_lp (zf_244_H2 x1 x2 M) s = some r) (hK : (fun r : Bool => v = some (.int (jb_b2i r)) ∧ σ2 = (zE L, M, N)) r) : jb_V Γ d zq_244 2 [some (.ref 79), some (.int x1), some (.int x2), some (.int s), none, none, none] [] (zE L, M, N) v σ2 := by
  exact @jb_lp_ind (Int32) ((Bool)) (zf_244_H2 x1 x2 M) (fun s => jb_V Γ d zq_244 2 [some (.ref 79), some (.int x1), some (.int x2), some (.int s), none, none, none] [] (zE L, M, N) v σ2) (fun r : Bool => v = some (.int (jb_b2i r)) ∧ σ2 = (zE L, M, N)) (fun s r h hk => zg_244_H2 hd x1 x2 M N s h hk) s r h hK
set_option maxRecDepth 20000 in
theorem zg_244 {Γ : jb_G} {L : Nat} {d : Nat} (hd : 3 ≤ d) (x1 : Int32) (x2 : Int32) (M : jb_Mi) (N : jb_Ml) {v : Option Value} {σ2 : jb_S} {r : (Bool)} (h : zf_244 x1 x2 M = some r) (hK : (fun r : Bool => v = some (.int (jb_b2i r)) ∧ σ2 = (zE L, M, N)) r) : jb_V Γ d zq_244 0 [some (.ref 79), some (.int x1), some (.int x2), none, none, none, none] [] (zE L, M, N) v σ2 := by
  obtain ⟨d, rfl⟩ : ∃ e, d = e + 1 := ⟨d - 1, by omega⟩
  unfold zf_244 at h
  refine jb_seg 2 (pc' := 2) (ls' := [some (.ref 79), some (.int x1), some (.int x2), some (.int 0), none, none, none]) (st' := []) (σ' := (zE L, M, N)) (G := []) rfl trivial ?_
  exact jb_mask [true, true, true, true, false, false, false] rfl (zg_244_H2L hd x1 x2 M N h hK)
theorem ze_244 {Γ : jb_G} {L : Nat} {d : Nat} (hd : 3 ≤ d) (x1 : Int32) (x2 : Int32) (M : jb_Mi) (N : jb_Ml) {r : (Bool)} (h : zf_244 x1 x2 M = some r) : jb_V Γ d zq_244 0 (jb_en 7 [(.ref 79), (.int x1), (.int x2)]) [] (zE L, M, N) (some (.int (jb_b2i r))) (zE L, M, N) := zg_244 hd x1 x2 M N h ⟨rfl, rfl⟩
-- X13_go
set_option maxRecDepth 20000 in
theorem zg_245_J69 {Γ : jb_G} {L : Nat} {d : Nat} (hd : 4 ≤ d) (x1 : Int32) (x2 : Int32) (x3 : Int32) (x4 : Int32) (M : jb_Mi) (N : jb_Ml) {v : Option Value} {σ2 : jb_S} {r : ((Int32 × Int32 × jb_Mi) ⊕ (Int32 × jb_Mi))} (h : zf_245_J69 x1 x2 x3 x4 M = some r) (hK : (jb_K (fun s : Int32 × Int32 × jb_Mi => jb_V Γ d zq_245 24 [some (.ref 79), some (.int x1), some (.int x2), some (.int s.1), some (.int s.2.1), none] [] (zE L, s.2.2, N) v σ2) (fun r : Int32 × jb_Mi => v = some (.int r.1) ∧ σ2 = (zE L, r.2, N))) r) : jb_V Γ d zq_245 69 [some (.ref 79), some (.int x1), some (.int x2), some (.int x3), some (.int x4), none] [] (zE L, M, N) v σ2 := by
  obtain ⟨d, rfl⟩ : ∃ e, d = e + 1 := ⟨d - 1, by omega⟩
  unfold zf_245_J69 at h
  refine jb_seg 2 (pc' := 24) (ls' := [some (.ref 79), some (.int x1), some (.int x2), some (.int x3), some (.int (x4 + 1)), none]) (st' := []) (σ' := (zE L, M, N)) (G := []) rfl trivial ?_
  obtain rfl := Option.some.inj h
  exact jb_mask [true, true, true, true, true, false] rfl hK
set_option maxRecDepth 20000 in
theorem zg_245_J127 {Γ : jb_G} {L : Nat} {d : Nat} (hd : 4 ≤ d) (x1 : Int32) (x2 : Int32) (x3 : Int32) (x4 : Int32) (x5 : Int32) (M : jb_Mi) (N : jb_Ml) {v : Option Value} {σ2 : jb_S} {r : ((Int32 × Int32) ⊕ (Int32 × jb_Mi))} (h : zf_245_J127 x1 x2 x3 x4 x5 M = some r) (hK : (jb_K (fun s : Int32 × Int32 => jb_V Γ d zq_245 82 [some (.ref 79), some (.int x1), some (.int x2), some (.int x3), some (.int s.1), some (.int s.2)] [] (zE L, M, N) v σ2) (fun r : Int32 × jb_Mi => v = some (.int r.1) ∧ σ2 = (zE L, r.2, N))) r) : jb_V Γ d zq_245 127 [some (.ref 79), some (.int x1), some (.int x2), some (.int x3), some (.int x4), some (.int x5)] [] (zE L, M, N) v σ2 := by
  obtain ⟨d, rfl⟩ : ∃ e, d = e + 1 := ⟨d - 1, by omega⟩
  unfold zf_245_J127 at h
  refine jb_seg 2 (pc' := 82) (ls' := [some (.ref 79), some (.int x1), some (.int x2), some (.int x3), some (.int x4), some (.int (x5 + 1))]) (st' := []) (σ' := (zE L, M, N)) (G := []) rfl trivial ?_
  obtain rfl := Option.some.inj h
  exact jb_mask [true, true, true, true, true, true] rfl hK
set_option maxRecDepth 20000 in
theorem zg_245_J113 {Γ : jb_G} {L : Nat} {d : Nat} (hd : 4 ≤ d) (x1 : Int32) (x2 : Int32) (x3 : Int32) (x4 : Int32) (x5 : Int32) (M : jb_Mi) (N : jb_Ml) {v : Option Value} {σ2 : jb_S} {r : ((Int32 × Int32) ⊕ (Int32 × jb_Mi))} (h : zf_245_J113 x1 x2 x3 x4 x5 M = some r) (hK : (jb_K (fun s : Int32 × Int32 => jb_V Γ d zq_245 82 [some (.ref 79), some (.int x1), some (.int x2), some (.int x3), some (.int s.1), some (.int s.2)] [] (zE L, M, N) v σ2) (fun r : Int32 × jb_Mi => v = some (.int r.1) ∧ σ2 = (zE L, r.2, N))) r) : jb_V Γ d zq_245 113 [some (.ref 79), some (.int x1), some (.int x2), some (.int x3), some (.int x4), some (.int x5)] [] (zE L, M, N) v σ2 := by
  obtain ⟨d, rfl⟩ : ∃ e, d = e + 1 := ⟨d - 1, by omega⟩
  unfold zf_245_J113 at h
  refine jb_seg 3 (pc' := 117) (ls' := [some (.ref 79), some (.int x1), some (.int x2), some (.int x3), some (.int x4), some (.int x5)]) (st' := [(.int x5), (.int x1), (.ref 79)]) (σ' := (zE L, M, N)) (G := []) rfl trivial ?_
  obtain ⟨q4, h4, h⟩ := jb_bd_of h
  refine jb_callV (q' := zq_244) (As := [(.int x1), (.int x5)]) (rest := []) (σ1 := (zE L, M, N)) (v := some (.int (jb_b2i q4))) rfl rfl zp_244 rfl (Nat.le_of_ble_eq_true rfl) (jb_cat rfl) (Nat.le_of_ble_eq_true rfl) (Nat.le_of_ble_eq_true rfl) (Or.inl rfl) rfl (ze_244 (by omega) x1 x5 M N h4) ?_
  refine jb_seg 1 (pc' := (if (jb_b2i q4) = 0 then 127 else 123)) (ls' := [some (.ref 79), some (.int x1), some (.int x2), some (.int x3), some (.int x4), some (.int x5)]) (st' := []) (σ' := (zE L, M, N)) (G := []) rfl trivial ?_
  refine jb_ite (fun c => ?_) (fun c => ?_)
  · replace h := (if_pos c).symm.trans h
    exact jb_mask [true, true, true, true, true, true] rfl (zg_245_J127 hd x1 x2 x3 x4 x5 M N h hK)
  · replace h := (if_neg c).symm.trans h
    refine jb_seg 2 (pc' := 127) (ls' := [some (.ref 79), some (.int x1), some (.int x2), some (.int x3), some (.int x5), some (.int x5)]) (st' := []) (σ' := (zE L, M, N)) (G := []) rfl trivial ?_
    exact jb_mask [true, true, true, true, true, true] rfl (zg_245_J127 hd x1 x2 x3 x5 x5 M N h hK)
set_option maxRecDepth 20000 in
theorem zg_245_J145 {Γ : jb_G} {L : Nat} {d : Nat} (hd : 4 ≤ d) (x4 : Int32) (M : jb_Mi) (N : jb_Ml) {v : Option Value} {σ2 : jb_S} {r : (Int32 × jb_Mi)} (h : zf_245_J145 x4 M = some r) (hK : (fun r : Int32 × jb_Mi => v = some (.int r.1) ∧ σ2 = (zE L, r.2, N)) r) : jb_V Γ d zq_245 145 [none, none, none, none, some (.int x4), none] [] (zE L, M, N) v σ2 := by
  obtain ⟨d, rfl⟩ : ∃ e, d = e + 1 := ⟨d - 1, by omega⟩
  unfold zf_245_J145 at h
  refine jb_seg 2 (pc' := 155) (ls' := [none, none, none, none, some (.int x4), none]) (st' := [(.int x4)]) (σ' := (zE L, M, N)) (G := []) rfl trivial ?_
  obtain rfl := Option.some.inj h
  obtain ⟨rfl, rfl⟩ := hK
  exact jb_reti rfl rfl
set_option maxRecDepth 20000 in
theorem zg_245_H82 {Γ : jb_G} {L : Nat} {d : Nat} (hd : 4 ≤ d) (x1 : Int32) (x2 : Int32) (x3 : Int32) (M : jb_Mi) (N : jb_Ml) (s : Int32 × Int32) {v : Option Value} {σ2 : jb_S} {r : ((Int32 × Int32) ⊕ (Int32 × jb_Mi))} (h : zf_245_H82 x1 x2 x3 M s = some r) (hK : (jb_K (fun s : Int32 × Int32 => jb_V Γ d zq_245 82 [some (.ref 79), some (.int x1), some (.int x2), some (.int x3), some (.int s.1), some (.int s.2)] [] (zE L, M, N) v σ2) (fun r : Int32 × jb_Mi => v = some (.int r.1) ∧ σ2 = (zE L, r.2, N))) r) : jb_V Γ d zq_245 82 [some (.ref 79), some (.int x1), some (.int x2), some (.int x3), some (.int s.1), some (.int s.2)] [] (zE L, M, N) v σ2 := by
  obtain ⟨d, rfl⟩ : ∃ e, d = e + 1 := ⟨d - 1, by omega⟩
  unfold zf_245_H82 at h
  refine jb_seg 5 (pc' := (if s.2 < ((1 : Int32) <<< (x3 &&& 31)) then 90 else 133)) (ls' := [some (.ref 79), some (.int x1), some (.int x2), some (.int x3), some (.int s.1), some (.int s.2)]) (st' := []) (σ' := (zE L, M, N)) (G := []) rfl trivial ?_
  refine jb_ite (fun c => ?_) (fun c => ?_)
  · replace h := (if_pos c).symm.trans h
    refine jb_seg 3 (pc' := (if s.1 = (-2) then 113 else 97)) (ls' := [some (.ref 79), some (.int x1), some (.int x2), some (.int x3), some (.int s.1), some (.int s.2)]) (st' := []) (σ' := (zE L, M, N)) (G := []) rfl trivial ?_
    refine jb_ite (fun c => ?_) (fun c => ?_)
    · replace h := (if_pos c).symm.trans h
      exact jb_mask [true, true, true, true, true, true] rfl (zg_245_J113 hd x1 x2 x3 s.1 s.2 M N h hK)
    · replace h := (if_neg c).symm.trans h
      refine jb_seg 1 (pc' := 99) (ls' := [some (.ref 79), some (.int x1), some (.int x2), some (.int x3), some (.int s.1), some (.int s.2)]) (st' := [(.int s.2)]) (σ' := (zE L, M, N)) (G := []) rfl trivial ?_
      obtain ⟨q5, h5, h⟩ := jb_bd_of h
      refine jb_callS (q' := zq_169) (As := [(.int s.2)]) (rest := []) (σ1 := (zE L, M, N)) (v := some (.int q5)) rfl (Nat.le_of_ble_eq_true rfl) rfl zp_169 (jb_cat rfl) (Nat.le_of_ble_eq_true rfl) (Nat.le_of_ble_eq_true rfl) (Or.inl rfl) rfl (ze_169 s.2 M N h5) ?_
      refine jb_seg 1 (pc' := 104) (ls' := [some (.ref 79), some (.int x1), some (.int x2), some (.int x3), some (.int s.1), some (.int s.2)]) (st' := [(.int s.1), (.int q5)]) (σ' := (zE L, M, N)) (G := []) rfl trivial ?_
      obtain ⟨q6, h6, h⟩ := jb_bd_of h
      refine jb_callS (q' := zq_169) (As := [(.int s.1)]) (rest := [(.int q5)]) (σ1 := (zE L, M, N)) (v := some (.int q6)) rfl (Nat.le_of_ble_eq_true rfl) rfl zp_169 (jb_cat rfl) (Nat.le_of_ble_eq_true rfl) (Nat.le_of_ble_eq_true rfl) (Or.inl rfl) rfl (ze_169 s.1 M N h6) ?_
      refine jb_seg 1 (pc' := (if q5 < q6 then 113 else 110)) (ls' := [some (.ref 79), some (.int x1), some (.int x2), some (.int x3), some (.int s.1), some (.int s.2)]) (st' := []) (σ' := (zE L, M, N)) (G := []) rfl trivial ?_
      refine jb_ite (fun c => ?_) (fun c => ?_)
      · replace h := (if_pos c).symm.trans h
        exact jb_mask [true, true, true, true, true, true] rfl (zg_245_J113 hd x1 x2 x3 s.1 s.2 M N h hK)
      · replace h := (if_neg c).symm.trans h
        refine jb_seg 1 (pc' := 127) (ls' := [some (.ref 79), some (.int x1), some (.int x2), some (.int x3), some (.int s.1), some (.int s.2)]) (st' := []) (σ' := (zE L, M, N)) (G := []) rfl trivial ?_
        exact jb_mask [true, true, true, true, true, true] rfl (zg_245_J127 hd x1 x2 x3 s.1 s.2 M N h hK)
  · replace h := (if_neg c).symm.trans h
    refine jb_seg 3 (pc' := (if x2 = 1 then 145 else 138)) (ls' := [some (.ref 79), some (.int x1), some (.int x2), some (.int x3), some (.int s.1), some (.int s.2)]) (st' := []) (σ' := (zE L, M, N)) (G := []) rfl trivial ?_
    refine jb_ite (fun c => ?_) (fun c => ?_)
    · replace h := (if_pos c).symm.trans h
      obtain ⟨y0, hy0, rfl⟩ := jb_mp_of h
      exact jb_mask [false, false, false, false, true, false] rfl (zg_245_J145 hd s.1 M N hy0 hK)
    · replace h := (if_neg c).symm.trans h
      refine jb_seg 3 (pc' := (if s.1 = (-2) then 145 else 150)) (ls' := [some (.ref 79), some (.int x1), some (.int x2), some (.int x3), some (.int s.1), some (.int s.2)]) (st' := []) (σ' := (zE L, M, N)) (G := []) rfl trivial ?_
      refine jb_ite (fun c => ?_) (fun c => ?_)
      · replace h := (if_pos c).symm.trans h
        obtain ⟨y0, hy0, rfl⟩ := jb_mp_of h
        exact jb_mask [false, false, false, false, true, false] rfl (zg_245_J145 hd s.1 M N hy0 hK)
      · replace h := (if_neg c).symm.trans h
        refine jb_seg 1 (pc' := 152) (ls' := [some (.ref 79), some (.int x1), some (.int x2), some (.int x3), some (.int s.1), some (.int s.2)]) (st' := [(.int s.1)]) (σ' := (zE L, M, N)) (G := []) rfl trivial ?_
        obtain ⟨q7, h7, h⟩ := jb_bd_of h
        refine jb_callS (q' := zq_169) (As := [(.int s.1)]) (rest := []) (σ1 := (zE L, M, N)) (v := some (.int q7)) rfl (Nat.le_of_ble_eq_true rfl) rfl zp_169 (jb_cat rfl) (Nat.le_of_ble_eq_true rfl) (Nat.le_of_ble_eq_true rfl) (Or.inl rfl) rfl (ze_169 s.1 M N h7) ?_
        obtain rfl := Option.some.inj h
        obtain ⟨rfl, rfl⟩ := hK
        exact jb_reti rfl rfl
theorem zg_245_H82L {Γ : jb_G} {L : Nat} {d : Nat} (hd : 4 ≤ d) (x1 : Int32) (x2 : Int32) (x3 : Int32) (M : jb_Mi) (N : jb_Ml) {v : Option Value} {σ2 : jb_S} {s : Int32 × Int32} {r : (Int32 × jb_Mi)} (h : jb_lp (zf_245_H82 x1 x2 x3 M) s = some r) (hK : (fun r : Int32 × jb_Mi => v = some (.int r.1) ∧ σ2 = (zE L, r.2, N)) r) : jb_V Γ d zq_245 82 [some (.ref 79), some (.int x1), some (.int x2), some (.int x3), some (.int s.1), some (.int s.2)] [] (zE L, M, N) v σ2 := by
  exact @jb_lp_ind (Int32 × Int32) ((Int32 × jb_Mi)) (zf_245_H82 x1 x2 x3 M) (fun s => jb_V Γ d zq_245 82 [some (.ref 79), some (.int x1), some (.int x2), some (.int x3), some (.int s.1), some (.int s.2)] [] (zE L, M, N) v σ2) (fun r : Int32 × jb_Mi => v = some (.int r.1) ∧ σ2 = (zE L, r.2, N)) (fun s r h hk => zg_245_H82 hd x1 x2 x3 M N s h hk) s r h hK
set_option maxRecDepth 20000 in
theorem zg_245_H24 {Γ : jb_G} {L : Nat} {d : Nat} (hd : 4 ≤ d) (x1 : Int32) (x2 : Int32) (N : jb_Ml) (s : Int32 × Int32 × jb_Mi) {v : Option Value} {σ2 : jb_S} {r : ((Int32 × Int32 × jb_Mi) ⊕ (Int32 × jb_Mi))} (h : zf_245_H24 x1 x2 s = some r) (hK : (jb_K (fun s : Int32 × Int32 × jb_Mi => jb_V Γ d zq_245 24 [some (.ref 79), some (.int x1), some (.int x2), some (.int s.1), some (.int s.2.1), none] [] (zE L, s.2.2, N) v σ2) (fun r : Int32 × jb_Mi => v = some (.int r.1) ∧ σ2 = (zE L, r.2, N))) r) : jb_V Γ d zq_245 24 [some (.ref 79), some (.int x1), some (.int x2), some (.int s.1), some (.int s.2.1), none] [] (zE L, s.2.2, N) v σ2 := by
  obtain ⟨d, rfl⟩ : ∃ e, d = e + 1 := ⟨d - 1, by omega⟩
  unfold zf_245_H24 at h
  refine jb_seg 3 (pc' := (if s.2.1 < 24 then 31 else 75)) (ls' := [some (.ref 79), some (.int x1), some (.int x2), some (.int s.1), some (.int s.2.1), none]) (st' := []) (σ' := (zE L, s.2.2, N)) (G := []) rfl trivial ?_
  refine jb_ite (fun c => ?_) (fun c => ?_)
  · replace h := (if_pos c).symm.trans h
    obtain ⟨g2, h⟩ := jb_gd_of h
    refine jb_seg 8 (pc' := (if (s.2.2 80 ((18 + s.2.1)).toNatClampNeg) = x1 then 48 else 45)) (ls' := [some (.ref 79), some (.int x1), some (.int x2), some (.int s.1), some (.int s.2.1), none]) (st' := []) (σ' := (zE L, s.2.2, N)) (G := [vp_in (18 + s.2.1) 149]) rfl g2 ?_
    refine jb_ite (fun c => ?_) (fun c => ?_)
    · replace h := (if_pos c).symm.trans h
      refine jb_seg 3 (pc' := (if s.1 = 12 then 54 else 57)) (ls' := [some (.ref 79), some (.int x1), some (.int x2), some (.int s.1), some (.int s.2.1), none]) (st' := []) (σ' := (zE L, s.2.2, N)) (G := []) rfl trivial ?_
      refine jb_ite (fun c => ?_) (fun c => ?_)
      · replace h := (if_pos c).symm.trans h
        refine jb_seg 1 (pc' := 56) (ls' := [some (.ref 79), some (.int x1), some (.int x2), some (.int s.1), some (.int s.2.1), none]) (st' := [(.int (-3))]) (σ' := (zE L, s.2.2, N)) (G := []) rfl trivial ?_
        obtain rfl := Option.some.inj h
        obtain ⟨rfl, rfl⟩ := hK
        exact jb_reti rfl rfl
      · replace h := (if_neg c).symm.trans h
        obtain ⟨g3, h⟩ := jb_gd_of h
        refine jb_seg 9 (pc' := 69) (ls' := [some (.ref 79), some (.int x1), some (.int x2), some (.int (s.1 + 1)), some (.int s.2.1), none]) (st' := []) (σ' := (zE L, (jb_up s.2.2 107 (s.1).toNatClampNeg s.2.1), N)) (G := [vp_in s.1 12]) rfl g3 ?_
        exact jb_mask [true, true, true, true, true, false] rfl (zg_245_J69 hd x1 x2 (s.1 + 1) s.2.1 (jb_up s.2.2 107 (s.1).toNatClampNeg s.2.1) N h hK)
    · replace h := (if_neg c).symm.trans h
      refine jb_seg 1 (pc' := 69) (ls' := [some (.ref 79), some (.int x1), some (.int x2), some (.int s.1), some (.int s.2.1), none]) (st' := []) (σ' := (zE L, s.2.2, N)) (G := []) rfl trivial ?_
      exact jb_mask [true, true, true, true, true, false] rfl (zg_245_J69 hd x1 x2 s.1 s.2.1 s.2.2 N h hK)
  · replace h := (if_neg c).symm.trans h
    refine jb_seg 4 (pc' := 82) (ls' := [some (.ref 79), some (.int x1), some (.int x2), some (.int s.1), some (.int (-2)), some (.int 0)]) (st' := []) (σ' := (zE L, s.2.2, N)) (G := []) rfl trivial ?_
    obtain ⟨y0, hy0, rfl⟩ := jb_mp_of h
    exact jb_mask [true, true, true, true, true, true] rfl (zg_245_H82L hd x1 x2 s.1 s.2.2 N hy0 hK)
theorem zg_245_H24L {Γ : jb_G} {L : Nat} {d : Nat} (hd : 4 ≤ d) (x1 : Int32) (x2 : Int32) (N : jb_Ml) {v : Option Value} {σ2 : jb_S} {s : Int32 × Int32 × jb_Mi} {r : (Int32 × jb_Mi)} (h : jb_lp (zf_245_H24 x1 x2) s = some r) (hK : (fun r : Int32 × jb_Mi => v = some (.int r.1) ∧ σ2 = (zE L, r.2, N)) r) : jb_V Γ d zq_245 24 [some (.ref 79), some (.int x1), some (.int x2), some (.int s.1), some (.int s.2.1), none] [] (zE L, s.2.2, N) v σ2 := by
  exact @jb_lp_ind (Int32 × Int32 × jb_Mi) ((Int32 × jb_Mi)) (zf_245_H24 x1 x2) (fun s => jb_V Γ d zq_245 24 [some (.ref 79), some (.int x1), some (.int x2), some (.int s.1), some (.int s.2.1), none] [] (zE L, s.2.2, N) v σ2) (fun r : Int32 × jb_Mi => v = some (.int r.1) ∧ σ2 = (zE L, r.2, N)) (fun s r h hk => zg_245_H24 hd x1 x2 N s h hk) s r h hK
set_option maxRecDepth 20000 in
theorem zg_245 {Γ : jb_G} {L : Nat} {d : Nat} (hd : 4 ≤ d) (x1 : Int32) (x2 : Int32) (M : jb_Mi) (N : jb_Ml) {v : Option Value} {σ2 : jb_S} {r : (Int32 × jb_Mi)} (h : zf_245 x1 x2 M = some r) (hK : (fun r : Int32 × jb_Mi => v = some (.int r.1) ∧ σ2 = (zE L, r.2, N)) r) : jb_V Γ d zq_245 0 [some (.ref 79), some (.int x1), some (.int x2), none, none, none] [] (zE L, M, N) v σ2 := by
  obtain ⟨d, rfl⟩ : ∃ e, d = e + 1 := ⟨d - 1, by omega⟩
  unfold zf_245 at h
  refine jb_seg 2 (pc' := 2) (ls' := [some (.ref 79), some (.int x1), some (.int x2), none, none, none]) (st' := [(.int x1), (.ref 79)]) (σ' := (zE L, M, N)) (G := []) rfl trivial ?_
  obtain ⟨q1, h1, h⟩ := jb_bd_of h
  refine jb_callV (q' := zq_171) (As := [(.int x1)]) (rest := []) (σ1 := (zE L, M, N)) (v := some (.int (jb_b2i q1))) rfl rfl zp_171 rfl (Nat.le_of_ble_eq_true rfl) (jb_cat rfl) (Nat.le_of_ble_eq_true rfl) (Nat.le_of_ble_eq_true rfl) (Or.inl rfl) rfl (ze_171 (by omega) x1 M N h1) ?_
  refine jb_seg 1 (pc' := (if (jb_b2i q1) = 0 then 17 else 8)) (ls' := [some (.ref 79), some (.int x1), some (.int x2), none, none, none]) (st' := []) (σ' := (zE L, M, N)) (G := []) rfl trivial ?_
  refine jb_ite (fun c => ?_) (fun c => ?_)
  · replace h := (if_pos c).symm.trans h
    refine jb_seg 1 (pc' := 18) (ls' := [some (.ref 79), some (.int x1), some (.int x2), none, none, none]) (st' := [(.int (-1))]) (σ' := (zE L, M, N)) (G := []) rfl trivial ?_
    obtain rfl := Option.some.inj h
    obtain ⟨rfl, rfl⟩ := hK
    exact jb_reti rfl rfl
  · replace h := (if_neg c).symm.trans h
    refine jb_seg 3 (pc' := 11) (ls' := [some (.ref 79), some (.int x1), some (.int x2), none, none, none]) (st' := [(.int 1), (.int 0), (.int x2)]) (σ' := (zE L, M, N)) (G := []) rfl trivial ?_
    refine jb_callS (q' := zq_164) (As := [(.int x2), (.int 0), (.int 1)]) (rest := []) (σ1 := (zE L, M, N)) (v := some (.int (jb_b2i (zf_164 x2 0 1)))) rfl (Nat.le_of_ble_eq_true rfl) rfl zp_164 (jb_cat rfl) (Nat.le_of_ble_eq_true rfl) (Nat.le_of_ble_eq_true rfl) (Or.inl rfl) rfl (ze_164 x2 0 1 M N rfl) ?_
    refine jb_seg 1 (pc' := (if (jb_b2i (zf_164 x2 0 1)) = 0 then 17 else 19)) (ls' := [some (.ref 79), some (.int x1), some (.int x2), none, none, none]) (st' := []) (σ' := (zE L, M, N)) (G := []) rfl trivial ?_
    refine jb_ite (fun c => ?_) (fun c => ?_)
    · replace h := (if_pos c).symm.trans h
      refine jb_seg 1 (pc' := 18) (ls' := [some (.ref 79), some (.int x1), some (.int x2), none, none, none]) (st' := [(.int (-1))]) (σ' := (zE L, M, N)) (G := []) rfl trivial ?_
      obtain rfl := Option.some.inj h
      obtain ⟨rfl, rfl⟩ := hK
      exact jb_reti rfl rfl
    · replace h := (if_neg c).symm.trans h
      refine jb_seg 4 (pc' := 24) (ls' := [some (.ref 79), some (.int x1), some (.int x2), some (.int 0), some (.int 0), none]) (st' := []) (σ' := (zE L, M, N)) (G := []) rfl trivial ?_
      exact jb_mask [true, true, true, true, true, false] rfl (zg_245_H24L hd x1 x2 N h hK)
theorem ze_245 {Γ : jb_G} {L : Nat} {d : Nat} (hd : 4 ≤ d) (x1 : Int32) (x2 : Int32) (M : jb_Mi) (N : jb_Ml) {r : (Int32 × jb_Mi)} (h : zf_245 x1 x2 M = some r) : jb_V Γ d zq_245 0 (jb_en 6 [(.ref 79), (.int x1), (.int x2)]) [] (zE L, M, N) (some (.int r.1)) (zE L, r.2, N) := zg_245 hd x1 x2 M N h ⟨rfl, rfl⟩
-- X13_laysFelt
set_option maxRecDepth 20000 in
theorem zg_246_H12 {Γ : jb_G} {L : Nat} {d : Nat} (hd : 2 ≤ d) (x1 : Int32) (x2 : Int32) (M : jb_Mi) (N : jb_Ml) (s : Int64 × Int32) {v : Option Value} {σ2 : jb_S} {r : ((Int64 × Int32) ⊕ ((Int32 × jb_Ml) ⊕ (jb_Ml)))} (h : zf_246_H12 x1 x2 M N s = some r) (hK : (jb_K (fun s : Int64 × Int32 => jb_V Γ d zq_246 12 [some (.ref 79), some (.int x1), some (.int x2), some (.long s.1), none, some (.int s.2)] [] (zE L, M, N) v σ2) (jb_K (fun s : Int32 × jb_Ml => jb_V Γ d zq_246 2 [some (.ref 79), some (.int x1), some (.int s.1), none, none, none] [] (zE L, M, s.2) v σ2) (fun r : jb_Ml => v = none ∧ σ2 = (zE L, M, r)))) r) : jb_V Γ d zq_246 12 [some (.ref 79), some (.int x1), some (.int x2), some (.long s.1), none, some (.int s.2)] [] (zE L, M, N) v σ2 := by
  obtain ⟨d, rfl⟩ : ∃ e, d = e + 1 := ⟨d - 1, by omega⟩
  unfold zf_246_H12 at h
  refine jb_seg 3 (pc' := (if s.2 < 4 then 18 else 42)) (ls' := [some (.ref 79), some (.int x1), some (.int x2), some (.long s.1), none, some (.int s.2)]) (st' := []) (σ' := (zE L, M, N)) (G := []) rfl trivial ?_
  refine jb_ite (fun c => ?_) (fun c => ?_)
  · replace h := (if_pos c).symm.trans h
    refine jb_seg 9 (pc' := 30) (ls' := [some (.ref 79), some (.int x1), some (.int x2), some (.long s.1), none, some (.int s.2)]) (st' := [(.int ((4 * x2) + s.2)), (.ref 79), (.long (256 * s.1))]) (σ' := (zE L, M, N)) (G := []) rfl trivial ?_
    obtain ⟨q1, h1, h⟩ := jb_bd_of h
    refine jb_callV (q' := zq_183) (As := [(.int ((4 * x2) + s.2))]) (rest := [(.long (256 * s.1))]) (σ1 := (zE L, M, N)) (v := some (.int q1)) rfl rfl zp_183 rfl (Nat.le_of_ble_eq_true rfl) (jb_cat rfl) (Nat.le_of_ble_eq_true rfl) (Nat.le_of_ble_eq_true rfl) (Or.inl rfl) rfl (ze_183 ((4 * x2) + s.2) M N h1) ?_
    refine jb_seg 5 (pc' := 12) (ls' := [some (.ref 79), some (.int x1), some (.int x2), some (.long ((256 * s.1) + (q1 : Int32).toInt64)), none, some (.int (s.2 + 1))]) (st' := []) (σ' := (zE L, M, N)) (G := []) rfl trivial ?_
    obtain rfl := Option.some.inj h
    exact jb_mask [true, true, true, true, false, true] rfl hK
  · replace h := (if_neg c).symm.trans h
    refine jb_seg 9 (pc' := 53) (ls' := [some (.ref 79), some (.int x1), some (.int x2), some (.long s.1), none, some (.int s.2)]) (st' := [(.int x2), (.int x1), (.ref 79), (.long ((s.1 : Int64).toInt32 : Int32).toInt64), (.int x2), (.ref 108)]) (σ' := (zE L, M, N)) (G := []) rfl trivial ?_
    obtain ⟨q2, h2, h⟩ := jb_bd_of h
    refine jb_callV (q' := zq_179) (As := [(.int x1), (.int x2)]) (rest := [(.long ((s.1 : Int64).toInt32 : Int32).toInt64), (.int x2), (.ref 108)]) (σ1 := (zE L, M, N)) (v := some (.int q2)) rfl rfl zp_179 rfl (Nat.le_of_ble_eq_true rfl) (jb_cat rfl) (Nat.le_of_ble_eq_true rfl) (Nat.le_of_ble_eq_true rfl) (Or.inl rfl) rfl (ze_179 (by omega) x1 x2 M N h2) ?_
    obtain ⟨g3, h⟩ := jb_gd_of h
    refine jb_seg 5 (pc' := 2) (ls' := [some (.ref 79), some (.int x1), some (.int (x2 + 1)), some (.long s.1), none, some (.int s.2)]) (st' := []) (σ' := (zE L, M, (jb_ul N 108 x2.toNatClampNeg (((s.1 : Int64).toInt32 : Int32).toInt64 - (q2 : Int32).toInt64)))) (G := [vp_in x2 4]) rfl g3 ?_
    obtain rfl := Option.some.inj h
    exact jb_mask [true, true, true, false, false, false] rfl hK
theorem zg_246_H12L {Γ : jb_G} {L : Nat} {d : Nat} (hd : 2 ≤ d) (x1 : Int32) (x2 : Int32) (M : jb_Mi) (N : jb_Ml) {v : Option Value} {σ2 : jb_S} {s : Int64 × Int32} {r : ((Int32 × jb_Ml) ⊕ (jb_Ml))} (h : jb_lp (zf_246_H12 x1 x2 M N) s = some r) (hK : (jb_K (fun s : Int32 × jb_Ml => jb_V Γ d zq_246 2 [some (.ref 79), some (.int x1), some (.int s.1), none, none, none] [] (zE L, M, s.2) v σ2) (fun r : jb_Ml => v = none ∧ σ2 = (zE L, M, r))) r) : jb_V Γ d zq_246 12 [some (.ref 79), some (.int x1), some (.int x2), some (.long s.1), none, some (.int s.2)] [] (zE L, M, N) v σ2 := by
  exact @jb_lp_ind (Int64 × Int32) (((Int32 × jb_Ml) ⊕ (jb_Ml))) (zf_246_H12 x1 x2 M N) (fun s => jb_V Γ d zq_246 12 [some (.ref 79), some (.int x1), some (.int x2), some (.long s.1), none, some (.int s.2)] [] (zE L, M, N) v σ2) (jb_K (fun s : Int32 × jb_Ml => jb_V Γ d zq_246 2 [some (.ref 79), some (.int x1), some (.int s.1), none, none, none] [] (zE L, M, s.2) v σ2) (fun r : jb_Ml => v = none ∧ σ2 = (zE L, M, r))) (fun s r h hk => zg_246_H12 hd x1 x2 M N s h hk) s r h hK
set_option maxRecDepth 20000 in
theorem zg_246_H2 {Γ : jb_G} {L : Nat} {d : Nat} (hd : 2 ≤ d) (x1 : Int32) (M : jb_Mi) (s : Int32 × jb_Ml) {v : Option Value} {σ2 : jb_S} {r : ((Int32 × jb_Ml) ⊕ (jb_Ml))} (h : zf_246_H2 x1 M s = some r) (hK : (jb_K (fun s : Int32 × jb_Ml => jb_V Γ d zq_246 2 [some (.ref 79), some (.int x1), some (.int s.1), none, none, none] [] (zE L, M, s.2) v σ2) (fun r : jb_Ml => v = none ∧ σ2 = (zE L, M, r))) r) : jb_V Γ d zq_246 2 [some (.ref 79), some (.int x1), some (.int s.1), none, none, none] [] (zE L, M, s.2) v σ2 := by
  obtain ⟨d, rfl⟩ : ∃ e, d = e + 1 := ⟨d - 1, by omega⟩
  unfold zf_246_H2 at h
  refine jb_seg 3 (pc' := (if s.1 < 4 then 7 else 65)) (ls' := [some (.ref 79), some (.int x1), some (.int s.1), none, none, none]) (st' := []) (σ' := (zE L, M, s.2)) (G := []) rfl trivial ?_
  refine jb_ite (fun c => ?_) (fun c => ?_)
  · replace h := (if_pos c).symm.trans h
    refine jb_seg 4 (pc' := 12) (ls' := [some (.ref 79), some (.int x1), some (.int s.1), some (.long 0), none, some (.int 0)]) (st' := []) (σ' := (zE L, M, s.2)) (G := []) rfl trivial ?_
    exact jb_mask [true, true, true, true, false, true] rfl (zg_246_H12L hd x1 s.1 M s.2 h hK)
  · replace h := (if_neg c).symm.trans h
    obtain rfl := Option.some.inj h
    obtain ⟨rfl, rfl⟩ := hK
    exact jb_retv rfl rfl
theorem zg_246_H2L {Γ : jb_G} {L : Nat} {d : Nat} (hd : 2 ≤ d) (x1 : Int32) (M : jb_Mi) {v : Option Value} {σ2 : jb_S} {s : Int32 × jb_Ml} {r : (jb_Ml)} (h : jb_lp (zf_246_H2 x1 M) s = some r) (hK : (fun r : jb_Ml => v = none ∧ σ2 = (zE L, M, r)) r) : jb_V Γ d zq_246 2 [some (.ref 79), some (.int x1), some (.int s.1), none, none, none] [] (zE L, M, s.2) v σ2 := by
  exact @jb_lp_ind (Int32 × jb_Ml) ((jb_Ml)) (zf_246_H2 x1 M) (fun s => jb_V Γ d zq_246 2 [some (.ref 79), some (.int x1), some (.int s.1), none, none, none] [] (zE L, M, s.2) v σ2) (fun r : jb_Ml => v = none ∧ σ2 = (zE L, M, r)) (fun s r h hk => zg_246_H2 hd x1 M s h hk) s r h hK
set_option maxRecDepth 20000 in
theorem zg_246 {Γ : jb_G} {L : Nat} {d : Nat} (hd : 2 ≤ d) (x1 : Int32) (M : jb_Mi) (N : jb_Ml) {v : Option Value} {σ2 : jb_S} {r : (jb_Ml)} (h : zf_246 x1 M N = some r) (hK : (fun r : jb_Ml => v = none ∧ σ2 = (zE L, M, r)) r) : jb_V Γ d zq_246 0 [some (.ref 79), some (.int x1), none, none, none, none] [] (zE L, M, N) v σ2 := by
  obtain ⟨d, rfl⟩ : ∃ e, d = e + 1 := ⟨d - 1, by omega⟩
  unfold zf_246 at h
  refine jb_seg 2 (pc' := 2) (ls' := [some (.ref 79), some (.int x1), some (.int 0), none, none, none]) (st' := []) (σ' := (zE L, M, N)) (G := []) rfl trivial ?_
  exact jb_mask [true, true, true, false, false, false] rfl (zg_246_H2L hd x1 M h hK)
theorem ze_246 {Γ : jb_G} {L : Nat} {d : Nat} (hd : 2 ≤ d) (x1 : Int32) (M : jb_Mi) (N : jb_Ml) {r : (jb_Ml)} (h : zf_246 x1 M N = some r) : jb_V Γ d zq_246 0 (jb_en 6 [(.ref 79), (.int x1)]) [] (zE L, M, N) (none) (zE L, M, r) := zg_246 hd x1 M N h ⟨rfl, rfl⟩
