-- X12_faultAt
set_option maxRecDepth 20000 in
theorem zg_74 {Γ : jb_G} {L : Nat} {d : Nat} (x0 : Int32) (x1 : Int32) (M : jb_Mi) (N : jb_Ml) {v : Option Value} {σ2 : jb_S} {r : Int32} (h : zf_74 x0 x1 = r) (hK : (fun r : Int32 => v = some (.int r) ∧ σ2 = (zE L, M, N)) r) : jb_V Γ d zq_74 0 [some (.int x0), some (.int x1)] [] (zE L, M, N) v σ2 := by
  unfold zf_74 at h
  refine jb_seg 5 (pc' := 7) (ls' := [some (.int x0), some (.int x1)]) (st' := [(.int (((-1000) * x0) - x1))]) (σ' := (zE L, M, N)) (G := []) rfl trivial ?_
  subst h
  obtain ⟨rfl, rfl⟩ := hK
  exact jb_reti rfl rfl
theorem ze_74 {Γ : jb_G} {L : Nat} {d : Nat} (x0 : Int32) (x1 : Int32) (M : jb_Mi) (N : jb_Ml) {r : Int32} (h : zf_74 x0 x1 = r) : jb_V Γ d zq_74 0 (jb_en 2 [(.int x0), (.int x1)]) [] (zE L, M, N) (some (.int r)) (zE L, M, N) := zg_74 x0 x1 M N h ⟨rfl, rfl⟩
-- X6_fail
set_option maxRecDepth 20000 in
theorem zg_75 {Γ : jb_G} {L : Nat} {d : Nat} (x1 : Int32) (M : jb_Mi) (N : jb_Ml) {v : Option Value} {σ2 : jb_S} {r : Bool × jb_Mi} (h : zf_75 x1 M = r) (hK : (fun r : Bool × jb_Mi => v = some (.int (jb_b2i r.1)) ∧ σ2 = (zE L, r.2, N)) r) : jb_V Γ d zq_75 0 [some (.ref 50), some (.int x1)] [] (zE L, M, N) v σ2 := by
  unfold zf_75 at h
  refine jb_seg 4 (pc' := 6) (ls' := [some (.ref 50), some (.int x1)]) (st' := [(.int 0)]) (σ' := (zE L, (jb_up M 50 3 x1), N)) (G := []) rfl trivial ?_
  subst h
  obtain ⟨rfl, rfl⟩ := hK
  exact jb_retz (by decide) rfl rfl
theorem ze_75 {Γ : jb_G} {L : Nat} {d : Nat} (x1 : Int32) (M : jb_Mi) (N : jb_Ml) {r : Bool × jb_Mi} (h : zf_75 x1 M = r) : jb_V Γ d zq_75 0 (jb_en 2 [(.ref 50), (.int x1)]) [] (zE L, M, N) (some (.int (jb_b2i r.1))) (zE L, r.2, N) := zg_75 x1 M N h ⟨rfl, rfl⟩
-- X12_isDigit
set_option maxRecDepth 20000 in
theorem zg_76 {Γ : jb_G} {L : Nat} {d : Nat} (x0 : Int32) (M : jb_Mi) (N : jb_Ml) {v : Option Value} {σ2 : jb_S} {r : Bool} (h : zf_76 x0 = r) (hK : (fun r : Bool => v = some (.int (jb_b2i r)) ∧ σ2 = (zE L, M, N)) r) : jb_V Γ d zq_76 0 [some (.int x0)] [] (zE L, M, N) v σ2 := by
  unfold zf_76 at h
  refine jb_seg 3 (pc' := (if x0 < 48 then 16 else 6)) (ls' := [some (.int x0)]) (st' := []) (σ' := (zE L, M, N)) (G := []) rfl trivial ?_
  refine jb_ite (fun c => ?_) (fun c => ?_)
  · replace h := (if_pos c).symm.trans h
    refine jb_seg 1 (pc' := 17) (ls' := [some (.int x0)]) (st' := [(.int 0)]) (σ' := (zE L, M, N)) (G := []) rfl trivial ?_
    subst h
    obtain ⟨rfl, rfl⟩ := hK
    exact jb_retz (by decide) rfl rfl
  · replace h := (if_neg c).symm.trans h
    refine jb_seg 3 (pc' := (if 57 < x0 then 16 else 12)) (ls' := [some (.int x0)]) (st' := []) (σ' := (zE L, M, N)) (G := []) rfl trivial ?_
    refine jb_ite (fun c => ?_) (fun c => ?_)
    · replace h := (if_pos c).symm.trans h
      refine jb_seg 1 (pc' := 17) (ls' := [some (.int x0)]) (st' := [(.int 0)]) (σ' := (zE L, M, N)) (G := []) rfl trivial ?_
      subst h
      obtain ⟨rfl, rfl⟩ := hK
      exact jb_retz (by decide) rfl rfl
    · replace h := (if_neg c).symm.trans h
      refine jb_seg 2 (pc' := 17) (ls' := [some (.int x0)]) (st' := [(.int 1)]) (σ' := (zE L, M, N)) (G := []) rfl trivial ?_
      subst h
      obtain ⟨rfl, rfl⟩ := hK
      exact jb_retz (by decide) rfl rfl
theorem ze_76 {Γ : jb_G} {L : Nat} {d : Nat} (x0 : Int32) (M : jb_Mi) (N : jb_Ml) {r : Bool} (h : zf_76 x0 = r) : jb_V Γ d zq_76 0 (jb_en 1 [(.int x0)]) [] (zE L, M, N) (some (.int (jb_b2i r))) (zE L, M, N) := zg_76 x0 M N h ⟨rfl, rfl⟩
-- X6_readNumber
set_option maxRecDepth 20000 in
theorem zg_77_J65 {Γ : jb_G} {L : Nat} {d : Nat} (hd : 1 ≤ d) (x1 : Int32) (x2 : Int32) (M : jb_Mi) (N : jb_Ml) {v : Option Value} {σ2 : jb_S} {r : ((Int32 × Int32 × jb_Mi) ⊕ (Bool × jb_Mi))} (h : zf_77_J65 x1 x2 M = some r) (hK : (jb_K (fun s : Int32 × Int32 × jb_Mi => jb_V Γ d zq_77 4 [some (.ref 50), some (.int s.1), some (.int s.2.1), none] [] (zE L, s.2.2, N) v σ2) (fun r : Bool × jb_Mi => v = some (.int (jb_b2i r.1)) ∧ σ2 = (zE L, r.2, N))) r) : jb_V Γ d zq_77 65 [some (.ref 50), some (.int x1), some (.int x2), none] [] (zE L, M, N) v σ2 := by
  obtain ⟨d, rfl⟩ : ∃ e, d = e + 1 := ⟨d - 1, by omega⟩
  unfold zf_77_J65 at h
  refine jb_seg 2 (pc' := 4) (ls' := [some (.ref 50), some (.int x1), some (.int (x2 + 1)), none]) (st' := []) (σ' := (zE L, M, N)) (G := []) rfl trivial ?_
  obtain rfl := Option.some.inj h
  exact jb_mask [true, true, true, false] rfl hK
set_option maxRecDepth 20000 in
theorem zg_77_H4 {Γ : jb_G} {L : Nat} {d : Nat} (hd : 1 ≤ d) (N : jb_Ml) (s : Int32 × Int32 × jb_Mi) {v : Option Value} {σ2 : jb_S} {r : ((Int32 × Int32 × jb_Mi) ⊕ (Bool × jb_Mi))} (h : zf_77_H4 s = some r) (hK : (jb_K (fun s : Int32 × Int32 × jb_Mi => jb_V Γ d zq_77 4 [some (.ref 50), some (.int s.1), some (.int s.2.1), none] [] (zE L, s.2.2, N) v σ2) (fun r : Bool × jb_Mi => v = some (.int (jb_b2i r.1)) ∧ σ2 = (zE L, r.2, N))) r) : jb_V Γ d zq_77 4 [some (.ref 50), some (.int s.1), some (.int s.2.1), none] [] (zE L, s.2.2, N) v σ2 := by
  obtain ⟨d, rfl⟩ : ∃ e, d = e + 1 := ⟨d - 1, by omega⟩
  unfold zf_77_H4 at h
  refine jb_seg 3 (pc' := (if 5 < s.2.1 then 71 else 9)) (ls' := [some (.ref 50), some (.int s.1), some (.int s.2.1), none]) (st' := []) (σ' := (zE L, s.2.2, N)) (G := []) rfl trivial ?_
  refine jb_ite (fun c => ?_) (fun c => ?_)
  · replace h := (if_pos c).symm.trans h
    refine jb_seg 2 (pc' := 73) (ls' := [some (.ref 50), some (.int s.1), some (.int s.2.1), none]) (st' := [(.int 2), (.ref 50)]) (σ' := (zE L, s.2.2, N)) (G := []) rfl trivial ?_
    refine jb_callV (q' := zq_75) (As := [(.int 2)]) (rest := []) (σ1 := (zE L, (zf_75 2 s.2.2).2, N)) (v := some (.int (jb_b2i (zf_75 2 s.2.2).1))) rfl rfl zp_75 rfl (Nat.le_of_ble_eq_true rfl) (jb_cat rfl) (Nat.le_of_ble_eq_true rfl) (Nat.le_of_ble_eq_true rfl) (Or.inl rfl) rfl (ze_75 2 s.2.2 N rfl) ?_
    obtain rfl := Option.some.inj h
    obtain ⟨rfl, rfl⟩ := hK
    exact jb_retz (jb_b2i_or _) rfl rfl
  · replace h := (if_neg c).symm.trans h
    refine jb_seg 4 (pc' := 17) (ls' := [some (.ref 50), some (.int s.1), some (.int s.2.1), none]) (st' := [(.int (s.2.2 50 2)), (.ref 2)]) (σ' := (zE L, s.2.2, N)) (G := []) rfl trivial ?_
    obtain ⟨q1, h1, h⟩ := jb_bd_of h
    refine jb_callV (q' := zq_30) (As := [(.int (s.2.2 50 2))]) (rest := []) (σ1 := (zE L, s.2.2, N)) (v := some (.int q1)) rfl rfl zp_30 rfl (Nat.le_of_ble_eq_true rfl) (jb_cat rfl) (Nat.le_of_ble_eq_true rfl) (Nat.le_of_ble_eq_true rfl) (Or.inl rfl) rfl (ze_30 (s.2.2 50 2) s.2.2 N h1) ?_
    refine jb_seg 2 (pc' := 22) (ls' := [some (.ref 50), some (.int s.1), some (.int s.2.1), some (.int q1)]) (st' := [(.int q1)]) (σ' := (zE L, s.2.2, N)) (G := []) rfl trivial ?_
    refine jb_callS (q' := zq_76) (As := [(.int q1)]) (rest := []) (σ1 := (zE L, s.2.2, N)) (v := some (.int (jb_b2i (zf_76 q1)))) rfl (Nat.le_of_ble_eq_true rfl) rfl zp_76 (jb_cat rfl) (Nat.le_of_ble_eq_true rfl) (Nat.le_of_ble_eq_true rfl) (Or.inl rfl) rfl (ze_76 q1 s.2.2 N rfl) ?_
    refine jb_seg 1 (pc' := (if (jb_b2i (zf_76 q1)) = 0 then 28 else 40)) (ls' := [some (.ref 50), some (.int s.1), some (.int s.2.1), some (.int q1)]) (st' := []) (σ' := (zE L, s.2.2, N)) (G := []) rfl trivial ?_
    refine jb_ite (fun c => ?_) (fun c => ?_)
    · replace h := (if_pos c).symm.trans h
      refine jb_seg 4 (pc' := 34) (ls' := [some (.ref 50), some (.int s.1), some (.int s.2.1), some (.int q1)]) (st' := [(.int s.1), (.int 1), (.ref 51)]) (σ' := (zE L, s.2.2, N)) (G := []) rfl trivial ?_
      obtain ⟨q2, h2, h⟩ := jb_bd_of h
      refine jb_callV (q' := zq_70) (As := [(.int 1), (.int s.1)]) (rest := []) (σ1 := (zE L, q2.2, N)) (v := some (.int q2.1)) rfl rfl zp_70 rfl (Nat.le_of_ble_eq_true rfl) (jb_cat rfl) (Nat.le_of_ble_eq_true rfl) (Nat.le_of_ble_eq_true rfl) (Or.inl rfl) rfl (ze_70 1 s.1 s.2.2 N h2) ?_
      refine jb_seg 2 (pc' := 39) (ls' := [some (.ref 50), some (.int s.1), some (.int s.2.1), some (.int q1)]) (st' := [(.int 1)]) (σ' := (zE L, q2.2, N)) (G := []) rfl trivial ?_
      obtain rfl := Option.some.inj h
      obtain ⟨rfl, rfl⟩ := hK
      exact jb_retz (by decide) rfl rfl
    · replace h := (if_neg c).symm.trans h
      refine jb_seg 3 (pc' := (if s.2.1 < 5 then 45 else 65)) (ls' := [some (.ref 50), some (.int s.1), some (.int s.2.1), some (.int q1)]) (st' := []) (σ' := (zE L, s.2.2, N)) (G := []) rfl trivial ?_
      refine jb_ite (fun c => ?_) (fun c => ?_)
      · replace h := (if_pos c).symm.trans h
        refine jb_seg 14 (pc' := 65) (ls' := [some (.ref 50), some (.int (((10 * s.1) + q1) - 48)), some (.int s.2.1), some (.int q1)]) (st' := []) (σ' := (zE L, (jb_up s.2.2 50 2 ((s.2.2 50 2) + 1)), N)) (G := []) rfl trivial ?_
        exact jb_mask [true, true, true, false] rfl (zg_77_J65 hd (((10 * s.1) + q1) - 48) s.2.1 (jb_up s.2.2 50 2 ((s.2.2 50 2) + 1)) N h hK)
      · replace h := (if_neg c).symm.trans h
        exact jb_mask [true, true, true, false] rfl (zg_77_J65 hd s.1 s.2.1 s.2.2 N h hK)
theorem zg_77_H4L {Γ : jb_G} {L : Nat} {d : Nat} (hd : 1 ≤ d) (N : jb_Ml) {v : Option Value} {σ2 : jb_S} {s : Int32 × Int32 × jb_Mi} {r : (Bool × jb_Mi)} (h : jb_lp (zf_77_H4) s = some r) (hK : (fun r : Bool × jb_Mi => v = some (.int (jb_b2i r.1)) ∧ σ2 = (zE L, r.2, N)) r) : jb_V Γ d zq_77 4 [some (.ref 50), some (.int s.1), some (.int s.2.1), none] [] (zE L, s.2.2, N) v σ2 := by
  exact @jb_lp_ind (Int32 × Int32 × jb_Mi) ((Bool × jb_Mi)) (zf_77_H4) (fun s => jb_V Γ d zq_77 4 [some (.ref 50), some (.int s.1), some (.int s.2.1), none] [] (zE L, s.2.2, N) v σ2) (fun r : Bool × jb_Mi => v = some (.int (jb_b2i r.1)) ∧ σ2 = (zE L, r.2, N)) (fun s r h hk => zg_77_H4 hd N s h hk) s r h hK
set_option maxRecDepth 20000 in
theorem zg_77 {Γ : jb_G} {L : Nat} {d : Nat} (hd : 1 ≤ d) (M : jb_Mi) (N : jb_Ml) {v : Option Value} {σ2 : jb_S} {r : (Bool × jb_Mi)} (h : zf_77 M = some r) (hK : (fun r : Bool × jb_Mi => v = some (.int (jb_b2i r.1)) ∧ σ2 = (zE L, r.2, N)) r) : jb_V Γ d zq_77 0 [some (.ref 50), none, none, none] [] (zE L, M, N) v σ2 := by
  obtain ⟨d, rfl⟩ : ∃ e, d = e + 1 := ⟨d - 1, by omega⟩
  unfold zf_77 at h
  refine jb_seg 4 (pc' := 4) (ls' := [some (.ref 50), some (.int 0), some (.int 0), none]) (st' := []) (σ' := (zE L, M, N)) (G := []) rfl trivial ?_
  exact jb_mask [true, true, true, false] rfl (zg_77_H4L hd N h hK)
theorem ze_77 {Γ : jb_G} {L : Nat} {d : Nat} (hd : 1 ≤ d) (M : jb_Mi) (N : jb_Ml) {r : (Bool × jb_Mi)} (h : zf_77 M = some r) : jb_V Γ d zq_77 0 (jb_en 4 [(.ref 50)]) [] (zE L, M, N) (some (.int (jb_b2i r.1))) (zE L, r.2, N) := zg_77 hd M N h ⟨rfl, rfl⟩
-- X6_enter
set_option maxRecDepth 20000 in
theorem zg_78 {Γ : jb_G} {L : Nat} {d : Nat} (hd : 1 ≤ d) (x1 : Int32) (M : jb_Mi) (N : jb_Ml) {v : Option Value} {σ2 : jb_S} {r : Bool × jb_Mi} (h : zf_78 x1 M = r) (hK : (fun r : Bool × jb_Mi => v = some (.int (jb_b2i r.1)) ∧ σ2 = (zE L, r.2, N)) r) : jb_V Γ d zq_78 0 [some (.ref 50), some (.int x1)] [] (zE L, M, N) v σ2 := by
  obtain ⟨d, rfl⟩ : ∃ e, d = e + 1 := ⟨d - 1, by omega⟩
  unfold zf_78 at h
  refine jb_seg 3 (pc' := (if x1 < 6 then 12 else 6)) (ls' := [some (.ref 50), some (.int x1)]) (st' := []) (σ' := (zE L, M, N)) (G := []) rfl trivial ?_
  refine jb_ite (fun c => ?_) (fun c => ?_)
  · replace h := (if_pos c).symm.trans h
    refine jb_seg 7 (pc' := 23) (ls' := [some (.ref 50), some (.int x1)]) (st' := [(.int 1)]) (σ' := (zE L, (jb_up M 50 2 ((M 50 2) + 1)), N)) (G := []) rfl trivial ?_
    subst h
    obtain ⟨rfl, rfl⟩ := hK
    exact jb_retz (by decide) rfl rfl
  · replace h := (if_neg c).symm.trans h
    refine jb_seg 2 (pc' := 8) (ls' := [some (.ref 50), some (.int x1)]) (st' := [(.int 5), (.ref 50)]) (σ' := (zE L, M, N)) (G := []) rfl trivial ?_
    refine jb_callV (q' := zq_75) (As := [(.int 5)]) (rest := []) (σ1 := (zE L, (zf_75 5 M).2, N)) (v := some (.int (jb_b2i (zf_75 5 M).1))) rfl rfl zp_75 rfl (Nat.le_of_ble_eq_true rfl) (jb_cat rfl) (Nat.le_of_ble_eq_true rfl) (Nat.le_of_ble_eq_true rfl) (Or.inl rfl) rfl (ze_75 5 M N rfl) ?_
    subst h
    obtain ⟨rfl, rfl⟩ := hK
    exact jb_retz (jb_b2i_or _) rfl rfl
theorem ze_78 {Γ : jb_G} {L : Nat} {d : Nat} (hd : 1 ≤ d) (x1 : Int32) (M : jb_Mi) (N : jb_Ml) {r : Bool × jb_Mi} (h : zf_78 x1 M = r) : jb_V Γ d zq_78 0 (jb_en 2 [(.ref 50), (.int x1)]) [] (zE L, M, N) (some (.int (jb_b2i r.1))) (zE L, r.2, N) := zg_78 hd x1 M N h ⟨rfl, rfl⟩
-- X6_readSign
set_option maxRecDepth 20000 in
theorem zg_79 {Γ : jb_G} {L : Nat} {d : Nat} (hd : 1 ≤ d) (x1 : Int32) (M : jb_Mi) (N : jb_Ml) {v : Option Value} {σ2 : jb_S} {r : (Bool × jb_Mi)} (h : zf_79 x1 M = some r) (hK : (fun r : Bool × jb_Mi => v = some (.int (jb_b2i r.1)) ∧ σ2 = (zE L, r.2, N)) r) : jb_V Γ d zq_79 0 [some (.ref 50), some (.int x1)] [] (zE L, M, N) v σ2 := by
  obtain ⟨d, rfl⟩ : ∃ e, d = e + 1 := ⟨d - 1, by omega⟩
  unfold zf_79 at h
  refine jb_seg 4 (pc' := 8) (ls' := [some (.ref 50), some (.int x1)]) (st' := [(.int (M 50 2)), (.ref 2)]) (σ' := (zE L, M, N)) (G := []) rfl trivial ?_
  obtain ⟨q1, h1, h⟩ := jb_bd_of h
  refine jb_callV (q' := zq_30) (As := [(.int (M 50 2))]) (rest := []) (σ1 := (zE L, M, N)) (v := some (.int q1)) rfl rfl zp_30 rfl (Nat.le_of_ble_eq_true rfl) (jb_cat rfl) (Nat.le_of_ble_eq_true rfl) (Nat.le_of_ble_eq_true rfl) (Or.inl rfl) rfl (ze_30 (M 50 2) M N h1) ?_
  refine jb_seg 2 (pc' := (if q1 = x1 then 21 else 15)) (ls' := [some (.ref 50), some (.int x1)]) (st' := []) (σ' := (zE L, M, N)) (G := []) rfl trivial ?_
  refine jb_ite (fun c => ?_) (fun c => ?_)
  · replace h := (if_pos c).symm.trans h
    refine jb_seg 7 (pc' := 32) (ls' := [some (.ref 50), some (.int x1)]) (st' := [(.int 1)]) (σ' := (zE L, (jb_up M 50 2 ((M 50 2) + 1)), N)) (G := []) rfl trivial ?_
    obtain rfl := Option.some.inj h
    obtain ⟨rfl, rfl⟩ := hK
    exact jb_retz (by decide) rfl rfl
  · replace h := (if_neg c).symm.trans h
    refine jb_seg 2 (pc' := 17) (ls' := [some (.ref 50), some (.int x1)]) (st' := [(.int 1), (.ref 50)]) (σ' := (zE L, M, N)) (G := []) rfl trivial ?_
    refine jb_callV (q' := zq_75) (As := [(.int 1)]) (rest := []) (σ1 := (zE L, (zf_75 1 M).2, N)) (v := some (.int (jb_b2i (zf_75 1 M).1))) rfl rfl zp_75 rfl (Nat.le_of_ble_eq_true rfl) (jb_cat rfl) (Nat.le_of_ble_eq_true rfl) (Nat.le_of_ble_eq_true rfl) (Or.inl rfl) rfl (ze_75 1 M N rfl) ?_
    obtain rfl := Option.some.inj h
    obtain ⟨rfl, rfl⟩ := hK
    exact jb_retz (jb_b2i_or _) rfl rfl
theorem ze_79 {Γ : jb_G} {L : Nat} {d : Nat} (hd : 1 ≤ d) (x1 : Int32) (M : jb_Mi) (N : jb_Ml) {r : (Bool × jb_Mi)} (h : zf_79 x1 M = some r) : jb_V Γ d zq_79 0 (jb_en 2 [(.ref 50), (.int x1)]) [] (zE L, M, N) (some (.int (jb_b2i r.1))) (zE L, r.2, N) := zg_79 hd x1 M N h ⟨rfl, rfl⟩
-- X6_readFactor
set_option maxRecDepth 20000 in
theorem zg_81 {Γ : jb_G} {L : Nat} {d : Nat} (hd : 2 ≤ (d + 1)) (f : Nat → Int32 → jb_Mi → Option (Bool × jb_Mi)) (hf0 : ∀ (x1 : Int32) (M : jb_Mi) (N : jb_Ml) (r : Bool × jb_Mi), f 0 x1 M = some r → jb_V Γ d zq_80 0 (jb_en 6 [.ref 50, .int x1]) [] (zE L, M, N) (some (.int (jb_b2i r.1))) (zE L, r.2, N)) (hf1 : ∀ (x1 : Int32) (M : jb_Mi) (N : jb_Ml) (r : Bool × jb_Mi), f 1 x1 M = some r → jb_V Γ d zq_81 0 (jb_en 4 [.ref 50, .int x1]) [] (zE L, M, N) (some (.int (jb_b2i r.1))) (zE L, r.2, N)) (hf2 : ∀ (x1 : Int32) (M : jb_Mi) (N : jb_Ml) (r : Bool × jb_Mi), f 2 x1 M = some r → jb_V Γ d zq_82 0 (jb_en 6 [.ref 50, .int x1]) [] (zE L, M, N) (some (.int (jb_b2i r.1))) (zE L, r.2, N)) (hf3 : ∀ (x1 : Int32) (M : jb_Mi) (N : jb_Ml) (r : Bool × jb_Mi), f 3 x1 M = some r → jb_V Γ d zq_83 0 (jb_en 4 [.ref 50, .int x1]) [] (zE L, M, N) (some (.int (jb_b2i r.1))) (zE L, r.2, N)) (x1 : Int32) (M : jb_Mi) (N : jb_Ml) {v : Option Value} {σ2 : jb_S} {r : (Bool × jb_Mi)} (h : zf_81 f x1 M = some r) (hK : (fun r : Bool × jb_Mi => v = some (.int (jb_b2i r.1)) ∧ σ2 = (zE L, r.2, N)) r) : jb_V Γ (d + 1) zq_81 0 [some (.ref 50), some (.int x1), none, none] [] (zE L, M, N) v σ2 := by
  unfold zf_81 at h
  refine jb_seg 4 (pc' := 8) (ls' := [some (.ref 50), some (.int x1), none, none]) (st' := [(.int (M 50 2)), (.ref 2)]) (σ' := (zE L, M, N)) (G := []) rfl trivial ?_
  obtain ⟨q1, h1, h⟩ := jb_bd_of h
  refine jb_callV (q' := zq_30) (As := [(.int (M 50 2))]) (rest := []) (σ1 := (zE L, M, N)) (v := some (.int q1)) rfl rfl zp_30 rfl (Nat.le_of_ble_eq_true rfl) (jb_cat rfl) (Nat.le_of_ble_eq_true rfl) (Nat.le_of_ble_eq_true rfl) (Or.inl rfl) rfl (ze_30 (M 50 2) M N h1) ?_
  refine jb_seg 2 (pc' := 13) (ls' := [some (.ref 50), some (.int x1), some (.int q1), none]) (st' := [(.int q1)]) (σ' := (zE L, M, N)) (G := []) rfl trivial ?_
  refine jb_callS (q' := zq_76) (As := [(.int q1)]) (rest := []) (σ1 := (zE L, M, N)) (v := some (.int (jb_b2i (zf_76 q1)))) rfl (Nat.le_of_ble_eq_true rfl) rfl zp_76 (jb_cat rfl) (Nat.le_of_ble_eq_true rfl) (Nat.le_of_ble_eq_true rfl) (Or.inl rfl) rfl (ze_76 q1 M N rfl) ?_
  refine jb_seg 1 (pc' := (if (jb_b2i (zf_76 q1)) = 0 then 24 else 19)) (ls' := [some (.ref 50), some (.int x1), some (.int q1), none]) (st' := []) (σ' := (zE L, M, N)) (G := []) rfl trivial ?_
  refine jb_ite (fun c => ?_) (fun c => ?_)
  · replace h := (if_pos c).symm.trans h
    refine jb_seg 3 (pc' := (if q1 = 91 then 30 else 63)) (ls' := [some (.ref 50), some (.int x1), some (.int q1), none]) (st' := []) (σ' := (zE L, M, N)) (G := []) rfl trivial ?_
    refine jb_ite (fun c => ?_) (fun c => ?_)
    · replace h := (if_pos c).symm.trans h
      refine jb_seg 2 (pc' := 32) (ls' := [some (.ref 50), some (.int x1), some (.int q1), none]) (st' := [(.int x1), (.ref 50)]) (σ' := (zE L, M, N)) (G := []) rfl trivial ?_
      refine jb_callV (q' := zq_78) (As := [(.int x1)]) (rest := []) (σ1 := (zE L, (zf_78 x1 M).2, N)) (v := some (.int (jb_b2i (zf_78 x1 M).1))) rfl rfl zp_78 rfl (Nat.le_of_ble_eq_true rfl) (jb_cat rfl) (Nat.le_of_ble_eq_true rfl) (Nat.le_of_ble_eq_true rfl) (Or.inl rfl) rfl (ze_78 (by omega) x1 M N rfl) ?_
      refine jb_seg 1 (pc' := (if (jb_b2i (zf_78 x1 M).1) = 0 then 61 else 38)) (ls' := [some (.ref 50), some (.int x1), some (.int q1), none]) (st' := []) (σ' := (zE L, (zf_78 x1 M).2, N)) (G := []) rfl trivial ?_
      refine jb_ite (fun c => ?_) (fun c => ?_)
      · replace h := (if_pos c).symm.trans h
        refine jb_seg 1 (pc' := 62) (ls' := [some (.ref 50), some (.int x1), some (.int q1), none]) (st' := [(.int 0)]) (σ' := (zE L, (zf_78 x1 M).2, N)) (G := []) rfl trivial ?_
        obtain rfl := Option.some.inj h
        obtain ⟨rfl, rfl⟩ := hK
        exact jb_retz (by decide) rfl rfl
      · replace h := (if_neg c).symm.trans h
        refine jb_seg 4 (pc' := 42) (ls' := [some (.ref 50), some (.int x1), some (.int q1), none]) (st' := [(.int (x1 + 1)), (.ref 50)]) (σ' := (zE L, (zf_78 x1 M).2, N)) (G := []) rfl trivial ?_
        obtain ⟨q2, h2, h⟩ := jb_bd_of h
        refine jb_callV (q' := zq_80) (As := [(.int (x1 + 1))]) (rest := []) (σ1 := (zE L, q2.2, N)) (v := some (.int (jb_b2i q2.1))) rfl rfl zp_80 rfl (Nat.le_of_ble_eq_true rfl) (jb_cat rfl) (Nat.le_of_ble_eq_true rfl) (Nat.le_of_ble_eq_true rfl) (Or.inl rfl) rfl (hf0 (x1 + 1) ((zf_78 x1 M).2) N _ h2) ?_
        refine jb_seg 1 (pc' := (if (jb_b2i q2.1) = 0 then 61 else 48)) (ls' := [some (.ref 50), some (.int x1), some (.int q1), none]) (st' := []) (σ' := (zE L, q2.2, N)) (G := []) rfl trivial ?_
        refine jb_ite (fun c => ?_) (fun c => ?_)
        · replace h := (if_pos c).symm.trans h
          refine jb_seg 1 (pc' := 62) (ls' := [some (.ref 50), some (.int x1), some (.int q1), none]) (st' := [(.int 0)]) (σ' := (zE L, q2.2, N)) (G := []) rfl trivial ?_
          obtain rfl := Option.some.inj h
          obtain ⟨rfl, rfl⟩ := hK
          exact jb_retz (by decide) rfl rfl
        · replace h := (if_neg c).symm.trans h
          refine jb_seg 2 (pc' := 51) (ls' := [some (.ref 50), some (.int x1), some (.int q1), none]) (st' := [(.int 93), (.ref 50)]) (σ' := (zE L, q2.2, N)) (G := []) rfl trivial ?_
          obtain ⟨q3, h3, h⟩ := jb_bd_of h
          refine jb_callV (q' := zq_79) (As := [(.int 93)]) (rest := []) (σ1 := (zE L, q3.2, N)) (v := some (.int (jb_b2i q3.1))) rfl rfl zp_79 rfl (Nat.le_of_ble_eq_true rfl) (jb_cat rfl) (Nat.le_of_ble_eq_true rfl) (Nat.le_of_ble_eq_true rfl) (Or.inl rfl) rfl (ze_79 (by omega) 93 q2.2 N h3) ?_
          refine jb_seg 1 (pc' := (if (jb_b2i q3.1) = 0 then 61 else 57)) (ls' := [some (.ref 50), some (.int x1), some (.int q1), none]) (st' := []) (σ' := (zE L, q3.2, N)) (G := []) rfl trivial ?_
          refine jb_ite (fun c => ?_) (fun c => ?_)
          · replace h := (if_pos c).symm.trans h
            refine jb_seg 1 (pc' := 62) (ls' := [some (.ref 50), some (.int x1), some (.int q1), none]) (st' := [(.int 0)]) (σ' := (zE L, q3.2, N)) (G := []) rfl trivial ?_
            obtain rfl := Option.some.inj h
            obtain ⟨rfl, rfl⟩ := hK
            exact jb_retz (by decide) rfl rfl
          · replace h := (if_neg c).symm.trans h
            refine jb_seg 2 (pc' := 62) (ls' := [some (.ref 50), some (.int x1), some (.int q1), none]) (st' := [(.int 1)]) (σ' := (zE L, q3.2, N)) (G := []) rfl trivial ?_
            obtain rfl := Option.some.inj h
            obtain ⟨rfl, rfl⟩ := hK
            exact jb_retz (by decide) rfl rfl
    · replace h := (if_neg c).symm.trans h
      refine jb_seg 1 (pc' := 64) (ls' := [some (.ref 50), some (.int x1), some (.int q1), none]) (st' := [(.int q1)]) (σ' := (zE L, M, N)) (G := []) rfl trivial ?_
      refine jb_callS (q' := zq_63) (As := [(.int q1)]) (rest := []) (σ1 := (zE L, M, N)) (v := some (.int (zf_63 q1))) rfl (Nat.le_of_ble_eq_true rfl) rfl zp_63 (jb_cat rfl) (Nat.le_of_ble_eq_true rfl) (Nat.le_of_ble_eq_true rfl) (Or.inl rfl) rfl (ze_63 q1 M N rfl) ?_
      refine jb_seg 3 (pc' := (if (zf_63 q1) < 0 then 72 else 78)) (ls' := [some (.ref 50), some (.int x1), some (.int q1), some (.int (zf_63 q1))]) (st' := []) (σ' := (zE L, M, N)) (G := []) rfl trivial ?_
      refine jb_ite (fun c => ?_) (fun c => ?_)
      · replace h := (if_pos c).symm.trans h
        refine jb_seg 2 (pc' := 74) (ls' := [some (.ref 50), some (.int x1), some (.int q1), some (.int (zf_63 q1))]) (st' := [(.int 1), (.ref 50)]) (σ' := (zE L, M, N)) (G := []) rfl trivial ?_
        refine jb_callV (q' := zq_75) (As := [(.int 1)]) (rest := []) (σ1 := (zE L, (zf_75 1 M).2, N)) (v := some (.int (jb_b2i (zf_75 1 M).1))) rfl rfl zp_75 rfl (Nat.le_of_ble_eq_true rfl) (jb_cat rfl) (Nat.le_of_ble_eq_true rfl) (Nat.le_of_ble_eq_true rfl) (Or.inl rfl) rfl (ze_75 1 M N rfl) ?_
        obtain rfl := Option.some.inj h
        obtain ⟨rfl, rfl⟩ := hK
        exact jb_retz (jb_b2i_or _) rfl rfl
      · replace h := (if_neg c).symm.trans h
        refine jb_seg 4 (pc' := 84) (ls' := [some (.ref 50), some (.int x1), some (.int q1), some (.int (zf_63 q1))]) (st' := [(.int (zf_63 q1)), (.int 2), (.ref 51)]) (σ' := (zE L, M, N)) (G := []) rfl trivial ?_
        obtain ⟨q4, h4, h⟩ := jb_bd_of h
        refine jb_callV (q' := zq_70) (As := [(.int 2), (.int (zf_63 q1))]) (rest := []) (σ1 := (zE L, q4.2, N)) (v := some (.int q4.1)) rfl rfl zp_70 rfl (Nat.le_of_ble_eq_true rfl) (jb_cat rfl) (Nat.le_of_ble_eq_true rfl) (Nat.le_of_ble_eq_true rfl) (Or.inl rfl) rfl (ze_70 2 (zf_63 q1) M N h4) ?_
        refine jb_seg 8 (pc' := 99) (ls' := [some (.ref 50), some (.int x1), some (.int q1), some (.int (zf_63 q1))]) (st' := [(.int 1)]) (σ' := (zE L, (jb_up q4.2 50 2 ((q4.2 50 2) + 1)), N)) (G := []) rfl trivial ?_
        obtain rfl := Option.some.inj h
        obtain ⟨rfl, rfl⟩ := hK
        exact jb_retz (by decide) rfl rfl
  · replace h := (if_neg c).symm.trans h
    refine jb_seg 1 (pc' := 20) (ls' := [some (.ref 50), some (.int x1), some (.int q1), none]) (st' := [(.ref 50)]) (σ' := (zE L, M, N)) (G := []) rfl trivial ?_
    obtain ⟨q5, h5, h⟩ := jb_bd_of h
    refine jb_callV (q' := zq_77) (As := []) (rest := []) (σ1 := (zE L, q5.2, N)) (v := some (.int (jb_b2i q5.1))) rfl rfl zp_77 rfl (Nat.le_of_ble_eq_true rfl) (jb_cat rfl) (Nat.le_of_ble_eq_true rfl) (Nat.le_of_ble_eq_true rfl) (Or.inl rfl) rfl (ze_77 (by omega) M N h5) ?_
    obtain rfl := Option.some.inj h
    obtain ⟨rfl, rfl⟩ := hK
    exact jb_retz (jb_b2i_or _) rfl rfl
theorem ze_81 {Γ : jb_G} {L : Nat} {d : Nat} (hd : 2 ≤ (d + 1)) (f : Nat → Int32 → jb_Mi → Option (Bool × jb_Mi)) (hf0 : ∀ (x1 : Int32) (M : jb_Mi) (N : jb_Ml) (r : Bool × jb_Mi), f 0 x1 M = some r → jb_V Γ d zq_80 0 (jb_en 6 [.ref 50, .int x1]) [] (zE L, M, N) (some (.int (jb_b2i r.1))) (zE L, r.2, N)) (hf1 : ∀ (x1 : Int32) (M : jb_Mi) (N : jb_Ml) (r : Bool × jb_Mi), f 1 x1 M = some r → jb_V Γ d zq_81 0 (jb_en 4 [.ref 50, .int x1]) [] (zE L, M, N) (some (.int (jb_b2i r.1))) (zE L, r.2, N)) (hf2 : ∀ (x1 : Int32) (M : jb_Mi) (N : jb_Ml) (r : Bool × jb_Mi), f 2 x1 M = some r → jb_V Γ d zq_82 0 (jb_en 6 [.ref 50, .int x1]) [] (zE L, M, N) (some (.int (jb_b2i r.1))) (zE L, r.2, N)) (hf3 : ∀ (x1 : Int32) (M : jb_Mi) (N : jb_Ml) (r : Bool × jb_Mi), f 3 x1 M = some r → jb_V Γ d zq_83 0 (jb_en 4 [.ref 50, .int x1]) [] (zE L, M, N) (some (.int (jb_b2i r.1))) (zE L, r.2, N)) (x1 : Int32) (M : jb_Mi) (N : jb_Ml) {r : (Bool × jb_Mi)} (h : zf_81 f x1 M = some r) : jb_V Γ (d + 1) zq_81 0 (jb_en 4 [(.ref 50), (.int x1)]) [] (zE L, M, N) (some (.int (jb_b2i r.1))) (zE L, r.2, N) := zg_81 hd f hf0 hf1 hf2 hf3 x1 M N h ⟨rfl, rfl⟩
-- X6_readExpression
set_option maxRecDepth 20000 in
theorem zg_80_J116 {Γ : jb_G} {L : Nat} {d : Nat} (hd : 1 ≤ (d + 1)) (f : Nat → Int32 → jb_Mi → Option (Bool × jb_Mi)) (hf0 : ∀ (x1 : Int32) (M : jb_Mi) (N : jb_Ml) (r : Bool × jb_Mi), f 0 x1 M = some r → jb_V Γ d zq_80 0 (jb_en 6 [.ref 50, .int x1]) [] (zE L, M, N) (some (.int (jb_b2i r.1))) (zE L, r.2, N)) (hf1 : ∀ (x1 : Int32) (M : jb_Mi) (N : jb_Ml) (r : Bool × jb_Mi), f 1 x1 M = some r → jb_V Γ d zq_81 0 (jb_en 4 [.ref 50, .int x1]) [] (zE L, M, N) (some (.int (jb_b2i r.1))) (zE L, r.2, N)) (hf2 : ∀ (x1 : Int32) (M : jb_Mi) (N : jb_Ml) (r : Bool × jb_Mi), f 2 x1 M = some r → jb_V Γ d zq_82 0 (jb_en 6 [.ref 50, .int x1]) [] (zE L, M, N) (some (.int (jb_b2i r.1))) (zE L, r.2, N)) (hf3 : ∀ (x1 : Int32) (M : jb_Mi) (N : jb_Ml) (r : Bool × jb_Mi), f 3 x1 M = some r → jb_V Γ d zq_83 0 (jb_en 4 [.ref 50, .int x1]) [] (zE L, M, N) (some (.int (jb_b2i r.1))) (zE L, r.2, N)) (x1 : Int32) (x2 : Int32) (x3 : Int32) (x4 : Int32) (M : jb_Mi) (N : jb_Ml) {v : Option Value} {σ2 : jb_S} {r : ((Int32 × Int32 × Int32 × jb_Mi) ⊕ (Bool × jb_Mi))} (h : zf_80_J116 f x1 x2 x3 x4 M = some r) (hK : (jb_K (fun s : Int32 × Int32 × Int32 × jb_Mi => jb_V Γ (d + 1) zq_80 7 [some (.ref 50), some (.int x1), some (.int s.1), some (.int s.2.1), some (.int s.2.2.1), none] [] (zE L, s.2.2.2, N) v σ2) (fun r : Bool × jb_Mi => v = some (.int (jb_b2i r.1)) ∧ σ2 = (zE L, r.2, N))) r) : jb_V Γ (d + 1) zq_80 116 [some (.ref 50), some (.int x1), some (.int x2), some (.int x3), some (.int x4), none] [] (zE L, M, N) v σ2 := by
  unfold zf_80_J116 at h
  refine jb_seg 8 (pc' := 7) (ls' := [some (.ref 50), some (.int x1), some (.int x2), some (.int x3), some (.int (x4 + 1)), none]) (st' := []) (σ' := (zE L, (jb_up M 50 2 ((M 50 2) + 1)), N)) (G := []) rfl trivial ?_
  obtain rfl := Option.some.inj h
  exact jb_mask [true, true, true, true, true, false] rfl hK
set_option maxRecDepth 20000 in
theorem zg_80_J76 {Γ : jb_G} {L : Nat} {d : Nat} (hd : 1 ≤ (d + 1)) (f : Nat → Int32 → jb_Mi → Option (Bool × jb_Mi)) (hf0 : ∀ (x1 : Int32) (M : jb_Mi) (N : jb_Ml) (r : Bool × jb_Mi), f 0 x1 M = some r → jb_V Γ d zq_80 0 (jb_en 6 [.ref 50, .int x1]) [] (zE L, M, N) (some (.int (jb_b2i r.1))) (zE L, r.2, N)) (hf1 : ∀ (x1 : Int32) (M : jb_Mi) (N : jb_Ml) (r : Bool × jb_Mi), f 1 x1 M = some r → jb_V Γ d zq_81 0 (jb_en 4 [.ref 50, .int x1]) [] (zE L, M, N) (some (.int (jb_b2i r.1))) (zE L, r.2, N)) (hf2 : ∀ (x1 : Int32) (M : jb_Mi) (N : jb_Ml) (r : Bool × jb_Mi), f 2 x1 M = some r → jb_V Γ d zq_82 0 (jb_en 6 [.ref 50, .int x1]) [] (zE L, M, N) (some (.int (jb_b2i r.1))) (zE L, r.2, N)) (hf3 : ∀ (x1 : Int32) (M : jb_Mi) (N : jb_Ml) (r : Bool × jb_Mi), f 3 x1 M = some r → jb_V Γ d zq_83 0 (jb_en 4 [.ref 50, .int x1]) [] (zE L, M, N) (some (.int (jb_b2i r.1))) (zE L, r.2, N)) (x1 : Int32) (x2 : Int32) (x4 : Int32) (x5 : Int32) (M : jb_Mi) (N : jb_Ml) {v : Option Value} {σ2 : jb_S} {r : ((Int32 × Int32 × Int32 × jb_Mi) ⊕ (Bool × jb_Mi))} (h : zf_80_J76 f x1 x2 x4 x5 M = some r) (hK : (jb_K (fun s : Int32 × Int32 × Int32 × jb_Mi => jb_V Γ (d + 1) zq_80 7 [some (.ref 50), some (.int x1), some (.int s.1), some (.int s.2.1), some (.int s.2.2.1), none] [] (zE L, s.2.2.2, N) v σ2) (fun r : Bool × jb_Mi => v = some (.int (jb_b2i r.1)) ∧ σ2 = (zE L, r.2, N))) r) : jb_V Γ (d + 1) zq_80 76 [some (.ref 50), some (.int x1), some (.int x2), none, some (.int x4), some (.int x5)] [] (zE L, M, N) v σ2 := by
  unfold zf_80_J76 at h
  refine jb_seg 3 (pc' := 116) (ls' := [some (.ref 50), some (.int x1), some (.int x2), some (.int x5), some (.int x4), some (.int x5)]) (st' := []) (σ' := (zE L, M, N)) (G := []) rfl trivial ?_
  exact jb_mask [true, true, true, true, true, false] rfl (zg_80_J116 hd f hf0 hf1 hf2 hf3 x1 x2 x5 x4 M N h hK)
set_option maxRecDepth 20000 in
theorem zg_80_J113 {Γ : jb_G} {L : Nat} {d : Nat} (hd : 1 ≤ (d + 1)) (f : Nat → Int32 → jb_Mi → Option (Bool × jb_Mi)) (hf0 : ∀ (x1 : Int32) (M : jb_Mi) (N : jb_Ml) (r : Bool × jb_Mi), f 0 x1 M = some r → jb_V Γ d zq_80 0 (jb_en 6 [.ref 50, .int x1]) [] (zE L, M, N) (some (.int (jb_b2i r.1))) (zE L, r.2, N)) (hf1 : ∀ (x1 : Int32) (M : jb_Mi) (N : jb_Ml) (r : Bool × jb_Mi), f 1 x1 M = some r → jb_V Γ d zq_81 0 (jb_en 4 [.ref 50, .int x1]) [] (zE L, M, N) (some (.int (jb_b2i r.1))) (zE L, r.2, N)) (hf2 : ∀ (x1 : Int32) (M : jb_Mi) (N : jb_Ml) (r : Bool × jb_Mi), f 2 x1 M = some r → jb_V Γ d zq_82 0 (jb_en 6 [.ref 50, .int x1]) [] (zE L, M, N) (some (.int (jb_b2i r.1))) (zE L, r.2, N)) (hf3 : ∀ (x1 : Int32) (M : jb_Mi) (N : jb_Ml) (r : Bool × jb_Mi), f 3 x1 M = some r → jb_V Γ d zq_83 0 (jb_en 4 [.ref 50, .int x1]) [] (zE L, M, N) (some (.int (jb_b2i r.1))) (zE L, r.2, N)) (x1 : Int32) (x3 : Int32) (x4 : Int32) (x5 : Int32) (M : jb_Mi) (N : jb_Ml) {v : Option Value} {σ2 : jb_S} {r : ((Int32 × Int32 × Int32 × jb_Mi) ⊕ (Bool × jb_Mi))} (h : zf_80_J113 f x1 x3 x4 x5 M = some r) (hK : (jb_K (fun s : Int32 × Int32 × Int32 × jb_Mi => jb_V Γ (d + 1) zq_80 7 [some (.ref 50), some (.int x1), some (.int s.1), some (.int s.2.1), some (.int s.2.2.1), none] [] (zE L, s.2.2.2, N) v σ2) (fun r : Bool × jb_Mi => v = some (.int (jb_b2i r.1)) ∧ σ2 = (zE L, r.2, N))) r) : jb_V Γ (d + 1) zq_80 113 [some (.ref 50), some (.int x1), none, some (.int x3), some (.int x4), some (.int x5)] [] (zE L, M, N) v σ2 := by
  unfold zf_80_J113 at h
  refine jb_seg 2 (pc' := 116) (ls' := [some (.ref 50), some (.int x1), some (.int x5), some (.int x3), some (.int x4), some (.int x5)]) (st' := []) (σ' := (zE L, M, N)) (G := []) rfl trivial ?_
  exact jb_mask [true, true, true, true, true, false] rfl (zg_80_J116 hd f hf0 hf1 hf2 hf3 x1 x5 x3 x4 M N h hK)
set_option maxRecDepth 20000 in
theorem zg_80_J97 {Γ : jb_G} {L : Nat} {d : Nat} (hd : 1 ≤ (d + 1)) (f : Nat → Int32 → jb_Mi → Option (Bool × jb_Mi)) (hf0 : ∀ (x1 : Int32) (M : jb_Mi) (N : jb_Ml) (r : Bool × jb_Mi), f 0 x1 M = some r → jb_V Γ d zq_80 0 (jb_en 6 [.ref 50, .int x1]) [] (zE L, M, N) (some (.int (jb_b2i r.1))) (zE L, r.2, N)) (hf1 : ∀ (x1 : Int32) (M : jb_Mi) (N : jb_Ml) (r : Bool × jb_Mi), f 1 x1 M = some r → jb_V Γ d zq_81 0 (jb_en 4 [.ref 50, .int x1]) [] (zE L, M, N) (some (.int (jb_b2i r.1))) (zE L, r.2, N)) (hf2 : ∀ (x1 : Int32) (M : jb_Mi) (N : jb_Ml) (r : Bool × jb_Mi), f 2 x1 M = some r → jb_V Γ d zq_82 0 (jb_en 6 [.ref 50, .int x1]) [] (zE L, M, N) (some (.int (jb_b2i r.1))) (zE L, r.2, N)) (hf3 : ∀ (x1 : Int32) (M : jb_Mi) (N : jb_Ml) (r : Bool × jb_Mi), f 3 x1 M = some r → jb_V Γ d zq_83 0 (jb_en 4 [.ref 50, .int x1]) [] (zE L, M, N) (some (.int (jb_b2i r.1))) (zE L, r.2, N)) (x1 : Int32) (x3 : Int32) (x4 : Int32) (x5 : Int32) (M : jb_Mi) (N : jb_Ml) {v : Option Value} {σ2 : jb_S} {r : ((Int32 × Int32 × Int32 × jb_Mi) ⊕ (Bool × jb_Mi))} (h : zf_80_J97 f x1 x3 x4 x5 M = some r) (hK : (jb_K (fun s : Int32 × Int32 × Int32 × jb_Mi => jb_V Γ (d + 1) zq_80 7 [some (.ref 50), some (.int x1), some (.int s.1), some (.int s.2.1), some (.int s.2.2.1), none] [] (zE L, s.2.2.2, N) v σ2) (fun r : Bool × jb_Mi => v = some (.int (jb_b2i r.1)) ∧ σ2 = (zE L, r.2, N))) r) : jb_V Γ (d + 1) zq_80 97 [some (.ref 50), some (.int x1), none, some (.int x3), some (.int x4), some (.int x5)] [] (zE L, M, N) v σ2 := by
  unfold zf_80_J97 at h
  refine jb_seg 3 (pc' := (if x5 = 43 then 113 else 104)) (ls' := [some (.ref 50), some (.int x1), none, some (.int x3), some (.int x4), some (.int x5)]) (st' := []) (σ' := (zE L, M, N)) (G := []) rfl trivial ?_
  refine jb_ite (fun c => ?_) (fun c => ?_)
  · replace h := (if_pos c).symm.trans h
    exact jb_mask [true, true, false, true, true, true] rfl (zg_80_J113 hd f hf0 hf1 hf2 hf3 x1 x3 x4 x5 M N h hK)
  · replace h := (if_neg c).symm.trans h
    refine jb_seg 3 (pc' := (if x5 = 45 then 113 else 111)) (ls' := [some (.ref 50), some (.int x1), none, some (.int x3), some (.int x4), some (.int x5)]) (st' := []) (σ' := (zE L, M, N)) (G := []) rfl trivial ?_
    refine jb_ite (fun c => ?_) (fun c => ?_)
    · replace h := (if_pos c).symm.trans h
      exact jb_mask [true, true, false, true, true, true] rfl (zg_80_J113 hd f hf0 hf1 hf2 hf3 x1 x3 x4 x5 M N h hK)
    · replace h := (if_neg c).symm.trans h
      refine jb_seg 1 (pc' := 112) (ls' := [some (.ref 50), some (.int x1), none, some (.int x3), some (.int x4), some (.int x5)]) (st' := [(.int 1)]) (σ' := (zE L, M, N)) (G := []) rfl trivial ?_
      obtain rfl := Option.some.inj h
      obtain ⟨rfl, rfl⟩ := hK
      exact jb_retz (by decide) rfl rfl
set_option maxRecDepth 20000 in
theorem zg_80_J42 {Γ : jb_G} {L : Nat} {d : Nat} (hd : 1 ≤ (d + 1)) (f : Nat → Int32 → jb_Mi → Option (Bool × jb_Mi)) (hf0 : ∀ (x1 : Int32) (M : jb_Mi) (N : jb_Ml) (r : Bool × jb_Mi), f 0 x1 M = some r → jb_V Γ d zq_80 0 (jb_en 6 [.ref 50, .int x1]) [] (zE L, M, N) (some (.int (jb_b2i r.1))) (zE L, r.2, N)) (hf1 : ∀ (x1 : Int32) (M : jb_Mi) (N : jb_Ml) (r : Bool × jb_Mi), f 1 x1 M = some r → jb_V Γ d zq_81 0 (jb_en 4 [.ref 50, .int x1]) [] (zE L, M, N) (some (.int (jb_b2i r.1))) (zE L, r.2, N)) (hf2 : ∀ (x1 : Int32) (M : jb_Mi) (N : jb_Ml) (r : Bool × jb_Mi), f 2 x1 M = some r → jb_V Γ d zq_82 0 (jb_en 6 [.ref 50, .int x1]) [] (zE L, M, N) (some (.int (jb_b2i r.1))) (zE L, r.2, N)) (hf3 : ∀ (x1 : Int32) (M : jb_Mi) (N : jb_Ml) (r : Bool × jb_Mi), f 3 x1 M = some r → jb_V Γ d zq_83 0 (jb_en 4 [.ref 50, .int x1]) [] (zE L, M, N) (some (.int (jb_b2i r.1))) (zE L, r.2, N)) (x1 : Int32) (x2 : Int32) (x3 : Int32) (x4 : Int32) (M : jb_Mi) (N : jb_Ml) {v : Option Value} {σ2 : jb_S} {r : ((Int32 × Int32 × Int32 × jb_Mi) ⊕ (Bool × jb_Mi))} (h : zf_80_J42 f x1 x2 x3 x4 M = some r) (hK : (jb_K (fun s : Int32 × Int32 × Int32 × jb_Mi => jb_V Γ (d + 1) zq_80 7 [some (.ref 50), some (.int x1), some (.int s.1), some (.int s.2.1), some (.int s.2.2.1), none] [] (zE L, s.2.2.2, N) v σ2) (fun r : Bool × jb_Mi => v = some (.int (jb_b2i r.1)) ∧ σ2 = (zE L, r.2, N))) r) : jb_V Γ (d + 1) zq_80 42 [some (.ref 50), some (.int x1), some (.int x2), some (.int x3), some (.int x4), none] [] (zE L, M, N) v σ2 := by
  unfold zf_80_J42 at h
  refine jb_seg 4 (pc' := 50) (ls' := [some (.ref 50), some (.int x1), some (.int x2), some (.int x3), some (.int x4), none]) (st' := [(.int (M 50 2)), (.ref 2)]) (σ' := (zE L, M, N)) (G := []) rfl trivial ?_
  obtain ⟨q2, h2, h⟩ := jb_bd_of h
  refine jb_callV (q' := zq_30) (As := [(.int (M 50 2))]) (rest := []) (σ1 := (zE L, M, N)) (v := some (.int q2)) rfl rfl zp_30 rfl (Nat.le_of_ble_eq_true rfl) (jb_cat rfl) (Nat.le_of_ble_eq_true rfl) (Nat.le_of_ble_eq_true rfl) (Or.inl rfl) rfl (ze_30 (M 50 2) M N h2) ?_
  refine jb_seg 4 (pc' := (if q2 = 42 then 76 else 62)) (ls' := [some (.ref 50), some (.int x1), some (.int x2), some (.int x3), some (.int x4), some (.int q2)]) (st' := []) (σ' := (zE L, M, N)) (G := []) rfl trivial ?_
  refine jb_ite (fun c => ?_) (fun c => ?_)
  · replace h := (if_pos c).symm.trans h
    exact jb_mask [true, true, true, false, true, true] rfl (zg_80_J76 hd f hf0 hf1 hf2 hf3 x1 x2 x4 q2 M N h hK)
  · replace h := (if_neg c).symm.trans h
    refine jb_seg 3 (pc' := (if q2 = 47 then 76 else 69)) (ls' := [some (.ref 50), some (.int x1), some (.int x2), some (.int x3), some (.int x4), some (.int q2)]) (st' := []) (σ' := (zE L, M, N)) (G := []) rfl trivial ?_
    refine jb_ite (fun c => ?_) (fun c => ?_)
    · replace h := (if_pos c).symm.trans h
      exact jb_mask [true, true, true, false, true, true] rfl (zg_80_J76 hd f hf0 hf1 hf2 hf3 x1 x2 x4 q2 M N h hK)
    · replace h := (if_neg c).symm.trans h
      refine jb_seg 3 (pc' := (if q2 = 37 then 76 else 82)) (ls' := [some (.ref 50), some (.int x1), some (.int x2), some (.int x3), some (.int x4), some (.int q2)]) (st' := []) (σ' := (zE L, M, N)) (G := []) rfl trivial ?_
      refine jb_ite (fun c => ?_) (fun c => ?_)
      · replace h := (if_pos c).symm.trans h
        exact jb_mask [true, true, true, false, true, true] rfl (zg_80_J76 hd f hf0 hf1 hf2 hf3 x1 x2 x4 q2 M N h hK)
      · replace h := (if_neg c).symm.trans h
        refine jb_seg 3 (pc' := (if x2 = (-1) then 97 else 87)) (ls' := [some (.ref 50), some (.int x1), some (.int x2), some (.int x3), some (.int x4), some (.int q2)]) (st' := []) (σ' := (zE L, M, N)) (G := []) rfl trivial ?_
        refine jb_ite (fun c => ?_) (fun c => ?_)
        · replace h := (if_pos c).symm.trans h
          exact jb_mask [true, true, false, true, true, true] rfl (zg_80_J97 hd f hf0 hf1 hf2 hf3 x1 x3 x4 q2 M N h hK)
        · replace h := (if_neg c).symm.trans h
          refine jb_seg 4 (pc' := 93) (ls' := [some (.ref 50), some (.int x1), some (.int x2), some (.int x3), some (.int x4), some (.int q2)]) (st' := [(.int 0), (.int x2), (.ref 51)]) (σ' := (zE L, M, N)) (G := []) rfl trivial ?_
          obtain ⟨q3, h3, h⟩ := jb_bd_of h
          refine jb_callV (q' := zq_70) (As := [(.int x2), (.int 0)]) (rest := []) (σ1 := (zE L, q3.2, N)) (v := some (.int q3.1)) rfl rfl zp_70 rfl (Nat.le_of_ble_eq_true rfl) (jb_cat rfl) (Nat.le_of_ble_eq_true rfl) (Nat.le_of_ble_eq_true rfl) (Or.inl rfl) rfl (ze_70 x2 0 M N h3) ?_
          refine jb_seg 1 (pc' := 97) (ls' := [some (.ref 50), some (.int x1), some (.int x2), some (.int x3), some (.int x4), some (.int q2)]) (st' := []) (σ' := (zE L, q3.2, N)) (G := []) rfl trivial ?_
          exact jb_mask [true, true, false, true, true, true] rfl (zg_80_J97 hd f hf0 hf1 hf2 hf3 x1 x3 x4 q2 q3.2 N h hK)
set_option maxRecDepth 20000 in
theorem zg_80_H7 {Γ : jb_G} {L : Nat} {d : Nat} (hd : 1 ≤ (d + 1)) (f : Nat → Int32 → jb_Mi → Option (Bool × jb_Mi)) (hf0 : ∀ (x1 : Int32) (M : jb_Mi) (N : jb_Ml) (r : Bool × jb_Mi), f 0 x1 M = some r → jb_V Γ d zq_80 0 (jb_en 6 [.ref 50, .int x1]) [] (zE L, M, N) (some (.int (jb_b2i r.1))) (zE L, r.2, N)) (hf1 : ∀ (x1 : Int32) (M : jb_Mi) (N : jb_Ml) (r : Bool × jb_Mi), f 1 x1 M = some r → jb_V Γ d zq_81 0 (jb_en 4 [.ref 50, .int x1]) [] (zE L, M, N) (some (.int (jb_b2i r.1))) (zE L, r.2, N)) (hf2 : ∀ (x1 : Int32) (M : jb_Mi) (N : jb_Ml) (r : Bool × jb_Mi), f 2 x1 M = some r → jb_V Γ d zq_82 0 (jb_en 6 [.ref 50, .int x1]) [] (zE L, M, N) (some (.int (jb_b2i r.1))) (zE L, r.2, N)) (hf3 : ∀ (x1 : Int32) (M : jb_Mi) (N : jb_Ml) (r : Bool × jb_Mi), f 3 x1 M = some r → jb_V Γ d zq_83 0 (jb_en 4 [.ref 50, .int x1]) [] (zE L, M, N) (some (.int (jb_b2i r.1))) (zE L, r.2, N)) (x1 : Int32) (N : jb_Ml) (s : Int32 × Int32 × Int32 × jb_Mi) {v : Option Value} {σ2 : jb_S} {r : ((Int32 × Int32 × Int32 × jb_Mi) ⊕ (Bool × jb_Mi))} (h : zf_80_H7 f x1 s = some r) (hK : (jb_K (fun s : Int32 × Int32 × Int32 × jb_Mi => jb_V Γ (d + 1) zq_80 7 [some (.ref 50), some (.int x1), some (.int s.1), some (.int s.2.1), some (.int s.2.2.1), none] [] (zE L, s.2.2.2, N) v σ2) (fun r : Bool × jb_Mi => v = some (.int (jb_b2i r.1)) ∧ σ2 = (zE L, r.2, N))) r) : jb_V Γ (d + 1) zq_80 7 [some (.ref 50), some (.int x1), some (.int s.1), some (.int s.2.1), some (.int s.2.2.1), none] [] (zE L, s.2.2.2, N) v σ2 := by
  unfold zf_80_H7 at h
  refine jb_seg 3 (pc' := (if s.2.2.1 < 240 then 15 else 132)) (ls' := [some (.ref 50), some (.int x1), some (.int s.1), some (.int s.2.1), some (.int s.2.2.1), none]) (st' := []) (σ' := (zE L, s.2.2.2, N)) (G := []) rfl trivial ?_
  refine jb_ite (fun c => ?_) (fun c => ?_)
  · replace h := (if_pos c).symm.trans h
    refine jb_seg 2 (pc' := 17) (ls' := [some (.ref 50), some (.int x1), some (.int s.1), some (.int s.2.1), some (.int s.2.2.1), none]) (st' := [(.int x1), (.ref 50)]) (σ' := (zE L, s.2.2.2, N)) (G := []) rfl trivial ?_
    obtain ⟨q1, h1, h⟩ := jb_bd_of h
    refine jb_callV (q' := zq_81) (As := [(.int x1)]) (rest := []) (σ1 := (zE L, q1.2, N)) (v := some (.int (jb_b2i q1.1))) rfl rfl zp_81 rfl (Nat.le_of_ble_eq_true rfl) (jb_cat rfl) (Nat.le_of_ble_eq_true rfl) (Nat.le_of_ble_eq_true rfl) (Or.inl rfl) rfl (hf1 x1 s.2.2.2 N _ h1) ?_
    refine jb_seg 1 (pc' := (if (jb_b2i q1.1) = 0 then 23 else 25)) (ls' := [some (.ref 50), some (.int x1), some (.int s.1), some (.int s.2.1), some (.int s.2.2.1), none]) (st' := []) (σ' := (zE L, q1.2, N)) (G := []) rfl trivial ?_
    refine jb_ite (fun c => ?_) (fun c => ?_)
    · replace h := (if_pos c).symm.trans h
      refine jb_seg 1 (pc' := 24) (ls' := [some (.ref 50), some (.int x1), some (.int s.1), some (.int s.2.1), some (.int s.2.2.1), none]) (st' := [(.int 0)]) (σ' := (zE L, q1.2, N)) (G := []) rfl trivial ?_
      obtain rfl := Option.some.inj h
      obtain ⟨rfl, rfl⟩ := hK
      exact jb_retz (by decide) rfl rfl
    · replace h := (if_neg c).symm.trans h
      refine jb_seg 3 (pc' := (if s.2.1 = (-1) then 42 else 30)) (ls' := [some (.ref 50), some (.int x1), some (.int s.1), some (.int s.2.1), some (.int s.2.2.1), none]) (st' := []) (σ' := (zE L, q1.2, N)) (G := []) rfl trivial ?_
      refine jb_ite (fun c => ?_) (fun c => ?_)
      · replace h := (if_pos c).symm.trans h
        exact jb_mask [true, true, true, true, true, false] rfl (zg_80_J42 hd f hf0 hf1 hf2 hf3 x1 s.1 s.2.1 s.2.2.1 q1.2 N h hK)
      · replace h := (if_neg c).symm.trans h
        refine jb_seg 4 (pc' := 36) (ls' := [some (.ref 50), some (.int x1), some (.int s.1), some (.int s.2.1), some (.int s.2.2.1), none]) (st' := [(.int 0), (.int s.2.1), (.ref 51)]) (σ' := (zE L, q1.2, N)) (G := []) rfl trivial ?_
        obtain ⟨q4, h4, h⟩ := jb_bd_of h
        refine jb_callV (q' := zq_70) (As := [(.int s.2.1), (.int 0)]) (rest := []) (σ1 := (zE L, q4.2, N)) (v := some (.int q4.1)) rfl rfl zp_70 rfl (Nat.le_of_ble_eq_true rfl) (jb_cat rfl) (Nat.le_of_ble_eq_true rfl) (Nat.le_of_ble_eq_true rfl) (Or.inl rfl) rfl (ze_70 s.2.1 0 q1.2 N h4) ?_
        refine jb_seg 3 (pc' := 42) (ls' := [some (.ref 50), some (.int x1), some (.int s.1), some (.int (-1)), some (.int s.2.2.1), none]) (st' := []) (σ' := (zE L, q4.2, N)) (G := []) rfl trivial ?_
        exact jb_mask [true, true, true, true, true, false] rfl (zg_80_J42 hd f hf0 hf1 hf2 hf3 x1 s.1 (-1) s.2.2.1 q4.2 N h hK)
  · replace h := (if_neg c).symm.trans h
    refine jb_seg 2 (pc' := 134) (ls' := [some (.ref 50), some (.int x1), some (.int s.1), some (.int s.2.1), some (.int s.2.2.1), none]) (st' := [(.int 1), (.ref 50)]) (σ' := (zE L, s.2.2.2, N)) (G := []) rfl trivial ?_
    refine jb_callV (q' := zq_75) (As := [(.int 1)]) (rest := []) (σ1 := (zE L, (zf_75 1 s.2.2.2).2, N)) (v := some (.int (jb_b2i (zf_75 1 s.2.2.2).1))) rfl rfl zp_75 rfl (Nat.le_of_ble_eq_true rfl) (jb_cat rfl) (Nat.le_of_ble_eq_true rfl) (Nat.le_of_ble_eq_true rfl) (Or.inl rfl) rfl (ze_75 1 s.2.2.2 N rfl) ?_
    obtain rfl := Option.some.inj h
    obtain ⟨rfl, rfl⟩ := hK
    exact jb_retz (jb_b2i_or _) rfl rfl
theorem zg_80_H7L {Γ : jb_G} {L : Nat} {d : Nat} (hd : 1 ≤ (d + 1)) (f : Nat → Int32 → jb_Mi → Option (Bool × jb_Mi)) (hf0 : ∀ (x1 : Int32) (M : jb_Mi) (N : jb_Ml) (r : Bool × jb_Mi), f 0 x1 M = some r → jb_V Γ d zq_80 0 (jb_en 6 [.ref 50, .int x1]) [] (zE L, M, N) (some (.int (jb_b2i r.1))) (zE L, r.2, N)) (hf1 : ∀ (x1 : Int32) (M : jb_Mi) (N : jb_Ml) (r : Bool × jb_Mi), f 1 x1 M = some r → jb_V Γ d zq_81 0 (jb_en 4 [.ref 50, .int x1]) [] (zE L, M, N) (some (.int (jb_b2i r.1))) (zE L, r.2, N)) (hf2 : ∀ (x1 : Int32) (M : jb_Mi) (N : jb_Ml) (r : Bool × jb_Mi), f 2 x1 M = some r → jb_V Γ d zq_82 0 (jb_en 6 [.ref 50, .int x1]) [] (zE L, M, N) (some (.int (jb_b2i r.1))) (zE L, r.2, N)) (hf3 : ∀ (x1 : Int32) (M : jb_Mi) (N : jb_Ml) (r : Bool × jb_Mi), f 3 x1 M = some r → jb_V Γ d zq_83 0 (jb_en 4 [.ref 50, .int x1]) [] (zE L, M, N) (some (.int (jb_b2i r.1))) (zE L, r.2, N)) (x1 : Int32) (N : jb_Ml) {v : Option Value} {σ2 : jb_S} {s : Int32 × Int32 × Int32 × jb_Mi} {r : (Bool × jb_Mi)} (h : jb_lp (zf_80_H7 f x1) s = some r) (hK : (fun r : Bool × jb_Mi => v = some (.int (jb_b2i r.1)) ∧ σ2 = (zE L, r.2, N)) r) : jb_V Γ (d + 1) zq_80 7 [some (.ref 50), some (.int x1), some (.int s.1), some (.int s.2.1), some (.int s.2.2.1), none] [] (zE L, s.2.2.2, N) v σ2 := by
  exact @jb_lp_ind (Int32 × Int32 × Int32 × jb_Mi) ((Bool × jb_Mi)) (zf_80_H7 f x1) (fun s => jb_V Γ (d + 1) zq_80 7 [some (.ref 50), some (.int x1), some (.int s.1), some (.int s.2.1), some (.int s.2.2.1), none] [] (zE L, s.2.2.2, N) v σ2) (fun r : Bool × jb_Mi => v = some (.int (jb_b2i r.1)) ∧ σ2 = (zE L, r.2, N)) (fun s r h hk => zg_80_H7 hd f hf0 hf1 hf2 hf3 x1 N s h hk) s r h hK
set_option maxRecDepth 20000 in
theorem zg_80 {Γ : jb_G} {L : Nat} {d : Nat} (hd : 1 ≤ (d + 1)) (f : Nat → Int32 → jb_Mi → Option (Bool × jb_Mi)) (hf0 : ∀ (x1 : Int32) (M : jb_Mi) (N : jb_Ml) (r : Bool × jb_Mi), f 0 x1 M = some r → jb_V Γ d zq_80 0 (jb_en 6 [.ref 50, .int x1]) [] (zE L, M, N) (some (.int (jb_b2i r.1))) (zE L, r.2, N)) (hf1 : ∀ (x1 : Int32) (M : jb_Mi) (N : jb_Ml) (r : Bool × jb_Mi), f 1 x1 M = some r → jb_V Γ d zq_81 0 (jb_en 4 [.ref 50, .int x1]) [] (zE L, M, N) (some (.int (jb_b2i r.1))) (zE L, r.2, N)) (hf2 : ∀ (x1 : Int32) (M : jb_Mi) (N : jb_Ml) (r : Bool × jb_Mi), f 2 x1 M = some r → jb_V Γ d zq_82 0 (jb_en 6 [.ref 50, .int x1]) [] (zE L, M, N) (some (.int (jb_b2i r.1))) (zE L, r.2, N)) (hf3 : ∀ (x1 : Int32) (M : jb_Mi) (N : jb_Ml) (r : Bool × jb_Mi), f 3 x1 M = some r → jb_V Γ d zq_83 0 (jb_en 4 [.ref 50, .int x1]) [] (zE L, M, N) (some (.int (jb_b2i r.1))) (zE L, r.2, N)) (x1 : Int32) (M : jb_Mi) (N : jb_Ml) {v : Option Value} {σ2 : jb_S} {r : (Bool × jb_Mi)} (h : zf_80 f x1 M = some r) (hK : (fun r : Bool × jb_Mi => v = some (.int (jb_b2i r.1)) ∧ σ2 = (zE L, r.2, N)) r) : jb_V Γ (d + 1) zq_80 0 [some (.ref 50), some (.int x1), none, none, none, none] [] (zE L, M, N) v σ2 := by
  unfold zf_80 at h
  refine jb_seg 6 (pc' := 7) (ls' := [some (.ref 50), some (.int x1), some (.int (-1)), some (.int (-1)), some (.int 0), none]) (st' := []) (σ' := (zE L, M, N)) (G := []) rfl trivial ?_
  exact jb_mask [true, true, true, true, true, false] rfl (zg_80_H7L hd f hf0 hf1 hf2 hf3 x1 N h hK)
theorem ze_80 {Γ : jb_G} {L : Nat} {d : Nat} (hd : 1 ≤ (d + 1)) (f : Nat → Int32 → jb_Mi → Option (Bool × jb_Mi)) (hf0 : ∀ (x1 : Int32) (M : jb_Mi) (N : jb_Ml) (r : Bool × jb_Mi), f 0 x1 M = some r → jb_V Γ d zq_80 0 (jb_en 6 [.ref 50, .int x1]) [] (zE L, M, N) (some (.int (jb_b2i r.1))) (zE L, r.2, N)) (hf1 : ∀ (x1 : Int32) (M : jb_Mi) (N : jb_Ml) (r : Bool × jb_Mi), f 1 x1 M = some r → jb_V Γ d zq_81 0 (jb_en 4 [.ref 50, .int x1]) [] (zE L, M, N) (some (.int (jb_b2i r.1))) (zE L, r.2, N)) (hf2 : ∀ (x1 : Int32) (M : jb_Mi) (N : jb_Ml) (r : Bool × jb_Mi), f 2 x1 M = some r → jb_V Γ d zq_82 0 (jb_en 6 [.ref 50, .int x1]) [] (zE L, M, N) (some (.int (jb_b2i r.1))) (zE L, r.2, N)) (hf3 : ∀ (x1 : Int32) (M : jb_Mi) (N : jb_Ml) (r : Bool × jb_Mi), f 3 x1 M = some r → jb_V Γ d zq_83 0 (jb_en 4 [.ref 50, .int x1]) [] (zE L, M, N) (some (.int (jb_b2i r.1))) (zE L, r.2, N)) (x1 : Int32) (M : jb_Mi) (N : jb_Ml) {r : (Bool × jb_Mi)} (h : zf_80 f x1 M = some r) : jb_V Γ (d + 1) zq_80 0 (jb_en 6 [(.ref 50), (.int x1)]) [] (zE L, M, N) (some (.int (jb_b2i r.1))) (zE L, r.2, N) := zg_80 hd f hf0 hf1 hf2 hf3 x1 M N h ⟨rfl, rfl⟩
-- X6_readTest
set_option maxRecDepth 20000 in
theorem zg_83_J135 {Γ : jb_G} {L : Nat} {d : Nat} (hd : 2 ≤ (d + 1)) (f : Nat → Int32 → jb_Mi → Option (Bool × jb_Mi)) (hf0 : ∀ (x1 : Int32) (M : jb_Mi) (N : jb_Ml) (r : Bool × jb_Mi), f 0 x1 M = some r → jb_V Γ d zq_80 0 (jb_en 6 [.ref 50, .int x1]) [] (zE L, M, N) (some (.int (jb_b2i r.1))) (zE L, r.2, N)) (hf1 : ∀ (x1 : Int32) (M : jb_Mi) (N : jb_Ml) (r : Bool × jb_Mi), f 1 x1 M = some r → jb_V Γ d zq_81 0 (jb_en 4 [.ref 50, .int x1]) [] (zE L, M, N) (some (.int (jb_b2i r.1))) (zE L, r.2, N)) (hf2 : ∀ (x1 : Int32) (M : jb_Mi) (N : jb_Ml) (r : Bool × jb_Mi), f 2 x1 M = some r → jb_V Γ d zq_82 0 (jb_en 6 [.ref 50, .int x1]) [] (zE L, M, N) (some (.int (jb_b2i r.1))) (zE L, r.2, N)) (hf3 : ∀ (x1 : Int32) (M : jb_Mi) (N : jb_Ml) (r : Bool × jb_Mi), f 3 x1 M = some r → jb_V Γ d zq_83 0 (jb_en 4 [.ref 50, .int x1]) [] (zE L, M, N) (some (.int (jb_b2i r.1))) (zE L, r.2, N)) (x1 : Int32) (x3 : Int32) (M : jb_Mi) (N : jb_Ml) {v : Option Value} {σ2 : jb_S} {r : (Bool × jb_Mi)} (h : zf_83_J135 f x1 x3 M = some r) (hK : (fun r : Bool × jb_Mi => v = some (.int (jb_b2i r.1)) ∧ σ2 = (zE L, r.2, N)) r) : jb_V Γ (d + 1) zq_83 135 [some (.ref 50), some (.int x1), none, some (.int x3)] [] (zE L, M, N) v σ2 := by
  unfold zf_83_J135 at h
  refine jb_seg 8 (pc' := 147) (ls' := [some (.ref 50), some (.int x1), none, some (.int x3)]) (st' := [(.int x1), (.ref 50)]) (σ' := (zE L, (jb_up M 50 2 ((M 50 2) + 1)), N)) (G := []) rfl trivial ?_
  obtain ⟨q8, h8, h⟩ := jb_bd_of h
  refine jb_callV (q' := zq_80) (As := [(.int x1)]) (rest := []) (σ1 := (zE L, q8.2, N)) (v := some (.int (jb_b2i q8.1))) rfl rfl zp_80 rfl (Nat.le_of_ble_eq_true rfl) (jb_cat rfl) (Nat.le_of_ble_eq_true rfl) (Nat.le_of_ble_eq_true rfl) (Or.inl rfl) rfl (hf0 x1 (jb_up M 50 2 ((M 50 2) + 1)) N _ h8) ?_
  refine jb_seg 1 (pc' := (if (jb_b2i q8.1) = 0 then 153 else 155)) (ls' := [some (.ref 50), some (.int x1), none, some (.int x3)]) (st' := []) (σ' := (zE L, q8.2, N)) (G := []) rfl trivial ?_
  refine jb_ite (fun c => ?_) (fun c => ?_)
  · replace h := (if_pos c).symm.trans h
    refine jb_seg 1 (pc' := 154) (ls' := [some (.ref 50), some (.int x1), none, some (.int x3)]) (st' := [(.int 0)]) (σ' := (zE L, q8.2, N)) (G := []) rfl trivial ?_
    obtain rfl := Option.some.inj h
    obtain ⟨rfl, rfl⟩ := hK
    exact jb_retz (by decide) rfl rfl
  · replace h := (if_neg c).symm.trans h
    refine jb_seg 4 (pc' := 161) (ls' := [some (.ref 50), some (.int x1), none, some (.int x3)]) (st' := [(.int 0), (.int x3), (.ref 51)]) (σ' := (zE L, q8.2, N)) (G := []) rfl trivial ?_
    obtain ⟨q9, h9, h⟩ := jb_bd_of h
    refine jb_callV (q' := zq_70) (As := [(.int x3), (.int 0)]) (rest := []) (σ1 := (zE L, q9.2, N)) (v := some (.int q9.1)) rfl rfl zp_70 rfl (Nat.le_of_ble_eq_true rfl) (jb_cat rfl) (Nat.le_of_ble_eq_true rfl) (Nat.le_of_ble_eq_true rfl) (Or.inl rfl) rfl (ze_70 x3 0 q8.2 N h9) ?_
    refine jb_seg 2 (pc' := 166) (ls' := [some (.ref 50), some (.int x1), none, some (.int x3)]) (st' := [(.int 1)]) (σ' := (zE L, q9.2, N)) (G := []) rfl trivial ?_
    obtain rfl := Option.some.inj h
    obtain ⟨rfl, rfl⟩ := hK
    exact jb_retz (by decide) rfl rfl
set_option maxRecDepth 20000 in
theorem zg_83 {Γ : jb_G} {L : Nat} {d : Nat} (hd : 2 ≤ (d + 1)) (f : Nat → Int32 → jb_Mi → Option (Bool × jb_Mi)) (hf0 : ∀ (x1 : Int32) (M : jb_Mi) (N : jb_Ml) (r : Bool × jb_Mi), f 0 x1 M = some r → jb_V Γ d zq_80 0 (jb_en 6 [.ref 50, .int x1]) [] (zE L, M, N) (some (.int (jb_b2i r.1))) (zE L, r.2, N)) (hf1 : ∀ (x1 : Int32) (M : jb_Mi) (N : jb_Ml) (r : Bool × jb_Mi), f 1 x1 M = some r → jb_V Γ d zq_81 0 (jb_en 4 [.ref 50, .int x1]) [] (zE L, M, N) (some (.int (jb_b2i r.1))) (zE L, r.2, N)) (hf2 : ∀ (x1 : Int32) (M : jb_Mi) (N : jb_Ml) (r : Bool × jb_Mi), f 2 x1 M = some r → jb_V Γ d zq_82 0 (jb_en 6 [.ref 50, .int x1]) [] (zE L, M, N) (some (.int (jb_b2i r.1))) (zE L, r.2, N)) (hf3 : ∀ (x1 : Int32) (M : jb_Mi) (N : jb_Ml) (r : Bool × jb_Mi), f 3 x1 M = some r → jb_V Γ d zq_83 0 (jb_en 4 [.ref 50, .int x1]) [] (zE L, M, N) (some (.int (jb_b2i r.1))) (zE L, r.2, N)) (x1 : Int32) (M : jb_Mi) (N : jb_Ml) {v : Option Value} {σ2 : jb_S} {r : (Bool × jb_Mi)} (h : zf_83 f x1 M = some r) (hK : (fun r : Bool × jb_Mi => v = some (.int (jb_b2i r.1)) ∧ σ2 = (zE L, r.2, N)) r) : jb_V Γ (d + 1) zq_83 0 [some (.ref 50), some (.int x1), none, none] [] (zE L, M, N) v σ2 := by
  unfold zf_83 at h
  refine jb_seg 4 (pc' := 8) (ls' := [some (.ref 50), some (.int x1), none, none]) (st' := [(.int (M 50 2)), (.ref 2)]) (σ' := (zE L, M, N)) (G := []) rfl trivial ?_
  obtain ⟨q1, h1, h⟩ := jb_bd_of h
  refine jb_callV (q' := zq_30) (As := [(.int (M 50 2))]) (rest := []) (σ1 := (zE L, M, N)) (v := some (.int q1)) rfl rfl zp_30 rfl (Nat.le_of_ble_eq_true rfl) (jb_cat rfl) (Nat.le_of_ble_eq_true rfl) (Nat.le_of_ble_eq_true rfl) (Or.inl rfl) rfl (ze_30 (M 50 2) M N h1) ?_
  refine jb_seg 4 (pc' := (if q1 = 33 then 18 else 50)) (ls' := [some (.ref 50), some (.int x1), some (.int q1), none]) (st' := []) (σ' := (zE L, M, N)) (G := []) rfl trivial ?_
  refine jb_ite (fun c => ?_) (fun c => ?_)
  · replace h := (if_pos c).symm.trans h
    refine jb_seg 2 (pc' := 20) (ls' := [some (.ref 50), some (.int x1), some (.int q1), none]) (st' := [(.int x1), (.ref 50)]) (σ' := (zE L, M, N)) (G := []) rfl trivial ?_
    refine jb_callV (q' := zq_78) (As := [(.int x1)]) (rest := []) (σ1 := (zE L, (zf_78 x1 M).2, N)) (v := some (.int (jb_b2i (zf_78 x1 M).1))) rfl rfl zp_78 rfl (Nat.le_of_ble_eq_true rfl) (jb_cat rfl) (Nat.le_of_ble_eq_true rfl) (Nat.le_of_ble_eq_true rfl) (Or.inl rfl) rfl (ze_78 (by omega) x1 M N rfl) ?_
    refine jb_seg 1 (pc' := (if (jb_b2i (zf_78 x1 M).1) = 0 then 36 else 26)) (ls' := [some (.ref 50), some (.int x1), some (.int q1), none]) (st' := []) (σ' := (zE L, (zf_78 x1 M).2, N)) (G := []) rfl trivial ?_
    refine jb_ite (fun c => ?_) (fun c => ?_)
    · replace h := (if_pos c).symm.trans h
      refine jb_seg 1 (pc' := 37) (ls' := [some (.ref 50), some (.int x1), some (.int q1), none]) (st' := [(.int 0)]) (σ' := (zE L, (zf_78 x1 M).2, N)) (G := []) rfl trivial ?_
      obtain rfl := Option.some.inj h
      obtain ⟨rfl, rfl⟩ := hK
      exact jb_retz (by decide) rfl rfl
    · replace h := (if_neg c).symm.trans h
      refine jb_seg 4 (pc' := 30) (ls' := [some (.ref 50), some (.int x1), some (.int q1), none]) (st' := [(.int (x1 + 1)), (.ref 50)]) (σ' := (zE L, (zf_78 x1 M).2, N)) (G := []) rfl trivial ?_
      obtain ⟨q2, h2, h⟩ := jb_bd_of h
      refine jb_callV (q' := zq_83) (As := [(.int (x1 + 1))]) (rest := []) (σ1 := (zE L, q2.2, N)) (v := some (.int (jb_b2i q2.1))) rfl rfl zp_83 rfl (Nat.le_of_ble_eq_true rfl) (jb_cat rfl) (Nat.le_of_ble_eq_true rfl) (Nat.le_of_ble_eq_true rfl) (Or.inl rfl) rfl (hf3 (x1 + 1) ((zf_78 x1 M).2) N _ h2) ?_
      refine jb_seg 1 (pc' := (if (jb_b2i q2.1) = 0 then 36 else 38)) (ls' := [some (.ref 50), some (.int x1), some (.int q1), none]) (st' := []) (σ' := (zE L, q2.2, N)) (G := []) rfl trivial ?_
      refine jb_ite (fun c => ?_) (fun c => ?_)
      · replace h := (if_pos c).symm.trans h
        refine jb_seg 1 (pc' := 37) (ls' := [some (.ref 50), some (.int x1), some (.int q1), none]) (st' := [(.int 0)]) (σ' := (zE L, q2.2, N)) (G := []) rfl trivial ?_
        obtain rfl := Option.some.inj h
        obtain ⟨rfl, rfl⟩ := hK
        exact jb_retz (by decide) rfl rfl
      · replace h := (if_neg c).symm.trans h
        refine jb_seg 4 (pc' := 44) (ls' := [some (.ref 50), some (.int x1), some (.int q1), none]) (st' := [(.int 0), (.int 3), (.ref 51)]) (σ' := (zE L, q2.2, N)) (G := []) rfl trivial ?_
        obtain ⟨q3, h3, h⟩ := jb_bd_of h
        refine jb_callV (q' := zq_70) (As := [(.int 3), (.int 0)]) (rest := []) (σ1 := (zE L, q3.2, N)) (v := some (.int q3.1)) rfl rfl zp_70 rfl (Nat.le_of_ble_eq_true rfl) (jb_cat rfl) (Nat.le_of_ble_eq_true rfl) (Nat.le_of_ble_eq_true rfl) (Or.inl rfl) rfl (ze_70 3 0 q2.2 N h3) ?_
        refine jb_seg 2 (pc' := 49) (ls' := [some (.ref 50), some (.int x1), some (.int q1), none]) (st' := [(.int 1)]) (σ' := (zE L, q3.2, N)) (G := []) rfl trivial ?_
        obtain rfl := Option.some.inj h
        obtain ⟨rfl, rfl⟩ := hK
        exact jb_retz (by decide) rfl rfl
  · replace h := (if_neg c).symm.trans h
    refine jb_seg 3 (pc' := (if q1 = 40 then 56 else 89)) (ls' := [some (.ref 50), some (.int x1), some (.int q1), none]) (st' := []) (σ' := (zE L, M, N)) (G := []) rfl trivial ?_
    refine jb_ite (fun c => ?_) (fun c => ?_)
    · replace h := (if_pos c).symm.trans h
      refine jb_seg 2 (pc' := 58) (ls' := [some (.ref 50), some (.int x1), some (.int q1), none]) (st' := [(.int x1), (.ref 50)]) (σ' := (zE L, M, N)) (G := []) rfl trivial ?_
      refine jb_callV (q' := zq_78) (As := [(.int x1)]) (rest := []) (σ1 := (zE L, (zf_78 x1 M).2, N)) (v := some (.int (jb_b2i (zf_78 x1 M).1))) rfl rfl zp_78 rfl (Nat.le_of_ble_eq_true rfl) (jb_cat rfl) (Nat.le_of_ble_eq_true rfl) (Nat.le_of_ble_eq_true rfl) (Or.inl rfl) rfl (ze_78 (by omega) x1 M N rfl) ?_
      refine jb_seg 1 (pc' := (if (jb_b2i (zf_78 x1 M).1) = 0 then 87 else 64)) (ls' := [some (.ref 50), some (.int x1), some (.int q1), none]) (st' := []) (σ' := (zE L, (zf_78 x1 M).2, N)) (G := []) rfl trivial ?_
      refine jb_ite (fun c => ?_) (fun c => ?_)
      · replace h := (if_pos c).symm.trans h
        refine jb_seg 1 (pc' := 88) (ls' := [some (.ref 50), some (.int x1), some (.int q1), none]) (st' := [(.int 0)]) (σ' := (zE L, (zf_78 x1 M).2, N)) (G := []) rfl trivial ?_
        obtain rfl := Option.some.inj h
        obtain ⟨rfl, rfl⟩ := hK
        exact jb_retz (by decide) rfl rfl
      · replace h := (if_neg c).symm.trans h
        refine jb_seg 4 (pc' := 68) (ls' := [some (.ref 50), some (.int x1), some (.int q1), none]) (st' := [(.int (x1 + 1)), (.ref 50)]) (σ' := (zE L, (zf_78 x1 M).2, N)) (G := []) rfl trivial ?_
        obtain ⟨q4, h4, h⟩ := jb_bd_of h
        refine jb_callV (q' := zq_82) (As := [(.int (x1 + 1))]) (rest := []) (σ1 := (zE L, q4.2, N)) (v := some (.int (jb_b2i q4.1))) rfl rfl zp_82 rfl (Nat.le_of_ble_eq_true rfl) (jb_cat rfl) (Nat.le_of_ble_eq_true rfl) (Nat.le_of_ble_eq_true rfl) (Or.inl rfl) rfl (hf2 (x1 + 1) ((zf_78 x1 M).2) N _ h4) ?_
        refine jb_seg 1 (pc' := (if (jb_b2i q4.1) = 0 then 87 else 74)) (ls' := [some (.ref 50), some (.int x1), some (.int q1), none]) (st' := []) (σ' := (zE L, q4.2, N)) (G := []) rfl trivial ?_
        refine jb_ite (fun c => ?_) (fun c => ?_)
        · replace h := (if_pos c).symm.trans h
          refine jb_seg 1 (pc' := 88) (ls' := [some (.ref 50), some (.int x1), some (.int q1), none]) (st' := [(.int 0)]) (σ' := (zE L, q4.2, N)) (G := []) rfl trivial ?_
          obtain rfl := Option.some.inj h
          obtain ⟨rfl, rfl⟩ := hK
          exact jb_retz (by decide) rfl rfl
        · replace h := (if_neg c).symm.trans h
          refine jb_seg 2 (pc' := 77) (ls' := [some (.ref 50), some (.int x1), some (.int q1), none]) (st' := [(.int 41), (.ref 50)]) (σ' := (zE L, q4.2, N)) (G := []) rfl trivial ?_
          obtain ⟨q5, h5, h⟩ := jb_bd_of h
          refine jb_callV (q' := zq_79) (As := [(.int 41)]) (rest := []) (σ1 := (zE L, q5.2, N)) (v := some (.int (jb_b2i q5.1))) rfl rfl zp_79 rfl (Nat.le_of_ble_eq_true rfl) (jb_cat rfl) (Nat.le_of_ble_eq_true rfl) (Nat.le_of_ble_eq_true rfl) (Or.inl rfl) rfl (ze_79 (by omega) 41 q4.2 N h5) ?_
          refine jb_seg 1 (pc' := (if (jb_b2i q5.1) = 0 then 87 else 83)) (ls' := [some (.ref 50), some (.int x1), some (.int q1), none]) (st' := []) (σ' := (zE L, q5.2, N)) (G := []) rfl trivial ?_
          refine jb_ite (fun c => ?_) (fun c => ?_)
          · replace h := (if_pos c).symm.trans h
            refine jb_seg 1 (pc' := 88) (ls' := [some (.ref 50), some (.int x1), some (.int q1), none]) (st' := [(.int 0)]) (σ' := (zE L, q5.2, N)) (G := []) rfl trivial ?_
            obtain rfl := Option.some.inj h
            obtain ⟨rfl, rfl⟩ := hK
            exact jb_retz (by decide) rfl rfl
          · replace h := (if_neg c).symm.trans h
            refine jb_seg 2 (pc' := 88) (ls' := [some (.ref 50), some (.int x1), some (.int q1), none]) (st' := [(.int 1)]) (σ' := (zE L, q5.2, N)) (G := []) rfl trivial ?_
            obtain rfl := Option.some.inj h
            obtain ⟨rfl, rfl⟩ := hK
            exact jb_retz (by decide) rfl rfl
    · replace h := (if_neg c).symm.trans h
      refine jb_seg 2 (pc' := 91) (ls' := [some (.ref 50), some (.int x1), some (.int q1), none]) (st' := [(.int x1), (.ref 50)]) (σ' := (zE L, M, N)) (G := []) rfl trivial ?_
      obtain ⟨q6, h6, h⟩ := jb_bd_of h
      refine jb_callV (q' := zq_80) (As := [(.int x1)]) (rest := []) (σ1 := (zE L, q6.2, N)) (v := some (.int (jb_b2i q6.1))) rfl rfl zp_80 rfl (Nat.le_of_ble_eq_true rfl) (jb_cat rfl) (Nat.le_of_ble_eq_true rfl) (Nat.le_of_ble_eq_true rfl) (Or.inl rfl) rfl (hf0 x1 M N _ h6) ?_
      refine jb_seg 1 (pc' := (if (jb_b2i q6.1) = 0 then 97 else 99)) (ls' := [some (.ref 50), some (.int x1), some (.int q1), none]) (st' := []) (σ' := (zE L, q6.2, N)) (G := []) rfl trivial ?_
      refine jb_ite (fun c => ?_) (fun c => ?_)
      · replace h := (if_pos c).symm.trans h
        refine jb_seg 1 (pc' := 98) (ls' := [some (.ref 50), some (.int x1), some (.int q1), none]) (st' := [(.int 0)]) (σ' := (zE L, q6.2, N)) (G := []) rfl trivial ?_
        obtain rfl := Option.some.inj h
        obtain ⟨rfl, rfl⟩ := hK
        exact jb_retz (by decide) rfl rfl
      · replace h := (if_neg c).symm.trans h
        refine jb_seg 4 (pc' := 107) (ls' := [some (.ref 50), some (.int x1), some (.int q1), none]) (st' := [(.int (q6.2 50 2)), (.ref 2)]) (σ' := (zE L, q6.2, N)) (G := []) rfl trivial ?_
        obtain ⟨q7, h7, h⟩ := jb_bd_of h
        refine jb_callV (q' := zq_30) (As := [(.int (q6.2 50 2))]) (rest := []) (σ1 := (zE L, q6.2, N)) (v := some (.int q7)) rfl rfl zp_30 rfl (Nat.le_of_ble_eq_true rfl) (jb_cat rfl) (Nat.le_of_ble_eq_true rfl) (Nat.le_of_ble_eq_true rfl) (Or.inl rfl) rfl (ze_30 (q6.2 50 2) q6.2 N h7) ?_
        refine jb_seg 4 (pc' := (if q7 = 60 then 135 else 117)) (ls' := [some (.ref 50), some (.int x1), some (.int q1), some (.int q7)]) (st' := []) (σ' := (zE L, q6.2, N)) (G := []) rfl trivial ?_
        refine jb_ite (fun c => ?_) (fun c => ?_)
        · replace h := (if_pos c).symm.trans h
          exact jb_mask [true, true, false, true] rfl (zg_83_J135 hd f hf0 hf1 hf2 hf3 x1 q7 q6.2 N h hK)
        · replace h := (if_neg c).symm.trans h
          refine jb_seg 3 (pc' := (if q7 = 62 then 135 else 123)) (ls' := [some (.ref 50), some (.int x1), some (.int q1), some (.int q7)]) (st' := []) (σ' := (zE L, q6.2, N)) (G := []) rfl trivial ?_
          refine jb_ite (fun c => ?_) (fun c => ?_)
          · replace h := (if_pos c).symm.trans h
            exact jb_mask [true, true, false, true] rfl (zg_83_J135 hd f hf0 hf1 hf2 hf3 x1 q7 q6.2 N h hK)
          · replace h := (if_neg c).symm.trans h
            refine jb_seg 3 (pc' := (if q7 = 61 then 135 else 129)) (ls' := [some (.ref 50), some (.int x1), some (.int q1), some (.int q7)]) (st' := []) (σ' := (zE L, q6.2, N)) (G := []) rfl trivial ?_
            refine jb_ite (fun c => ?_) (fun c => ?_)
            · replace h := (if_pos c).symm.trans h
              exact jb_mask [true, true, false, true] rfl (zg_83_J135 hd f hf0 hf1 hf2 hf3 x1 q7 q6.2 N h hK)
            · replace h := (if_neg c).symm.trans h
              refine jb_seg 2 (pc' := 131) (ls' := [some (.ref 50), some (.int x1), some (.int q1), some (.int q7)]) (st' := [(.int 1), (.ref 50)]) (σ' := (zE L, q6.2, N)) (G := []) rfl trivial ?_
              refine jb_callV (q' := zq_75) (As := [(.int 1)]) (rest := []) (σ1 := (zE L, (zf_75 1 q6.2).2, N)) (v := some (.int (jb_b2i (zf_75 1 q6.2).1))) rfl rfl zp_75 rfl (Nat.le_of_ble_eq_true rfl) (jb_cat rfl) (Nat.le_of_ble_eq_true rfl) (Nat.le_of_ble_eq_true rfl) (Or.inl rfl) rfl (ze_75 1 q6.2 N rfl) ?_
              obtain rfl := Option.some.inj h
              obtain ⟨rfl, rfl⟩ := hK
              exact jb_retz (jb_b2i_or _) rfl rfl
theorem ze_83 {Γ : jb_G} {L : Nat} {d : Nat} (hd : 2 ≤ (d + 1)) (f : Nat → Int32 → jb_Mi → Option (Bool × jb_Mi)) (hf0 : ∀ (x1 : Int32) (M : jb_Mi) (N : jb_Ml) (r : Bool × jb_Mi), f 0 x1 M = some r → jb_V Γ d zq_80 0 (jb_en 6 [.ref 50, .int x1]) [] (zE L, M, N) (some (.int (jb_b2i r.1))) (zE L, r.2, N)) (hf1 : ∀ (x1 : Int32) (M : jb_Mi) (N : jb_Ml) (r : Bool × jb_Mi), f 1 x1 M = some r → jb_V Γ d zq_81 0 (jb_en 4 [.ref 50, .int x1]) [] (zE L, M, N) (some (.int (jb_b2i r.1))) (zE L, r.2, N)) (hf2 : ∀ (x1 : Int32) (M : jb_Mi) (N : jb_Ml) (r : Bool × jb_Mi), f 2 x1 M = some r → jb_V Γ d zq_82 0 (jb_en 6 [.ref 50, .int x1]) [] (zE L, M, N) (some (.int (jb_b2i r.1))) (zE L, r.2, N)) (hf3 : ∀ (x1 : Int32) (M : jb_Mi) (N : jb_Ml) (r : Bool × jb_Mi), f 3 x1 M = some r → jb_V Γ d zq_83 0 (jb_en 4 [.ref 50, .int x1]) [] (zE L, M, N) (some (.int (jb_b2i r.1))) (zE L, r.2, N)) (x1 : Int32) (M : jb_Mi) (N : jb_Ml) {r : (Bool × jb_Mi)} (h : zf_83 f x1 M = some r) : jb_V Γ (d + 1) zq_83 0 (jb_en 4 [(.ref 50), (.int x1)]) [] (zE L, M, N) (some (.int (jb_b2i r.1))) (zE L, r.2, N) := zg_83 hd f hf0 hf1 hf2 hf3 x1 M N h ⟨rfl, rfl⟩
-- X6_readCondition
set_option maxRecDepth 20000 in
theorem zg_82_J95 {Γ : jb_G} {L : Nat} {d : Nat} (hd : 1 ≤ (d + 1)) (f : Nat → Int32 → jb_Mi → Option (Bool × jb_Mi)) (hf0 : ∀ (x1 : Int32) (M : jb_Mi) (N : jb_Ml) (r : Bool × jb_Mi), f 0 x1 M = some r → jb_V Γ d zq_80 0 (jb_en 6 [.ref 50, .int x1]) [] (zE L, M, N) (some (.int (jb_b2i r.1))) (zE L, r.2, N)) (hf1 : ∀ (x1 : Int32) (M : jb_Mi) (N : jb_Ml) (r : Bool × jb_Mi), f 1 x1 M = some r → jb_V Γ d zq_81 0 (jb_en 4 [.ref 50, .int x1]) [] (zE L, M, N) (some (.int (jb_b2i r.1))) (zE L, r.2, N)) (hf2 : ∀ (x1 : Int32) (M : jb_Mi) (N : jb_Ml) (r : Bool × jb_Mi), f 2 x1 M = some r → jb_V Γ d zq_82 0 (jb_en 6 [.ref 50, .int x1]) [] (zE L, M, N) (some (.int (jb_b2i r.1))) (zE L, r.2, N)) (hf3 : ∀ (x1 : Int32) (M : jb_Mi) (N : jb_Ml) (r : Bool × jb_Mi), f 3 x1 M = some r → jb_V Γ d zq_83 0 (jb_en 4 [.ref 50, .int x1]) [] (zE L, M, N) (some (.int (jb_b2i r.1))) (zE L, r.2, N)) (x1 : Int32) (x2 : Int32) (x3 : Int32) (x4 : Int32) (M : jb_Mi) (N : jb_Ml) {v : Option Value} {σ2 : jb_S} {r : ((Int32 × Int32 × Int32 × jb_Mi) ⊕ (Bool × jb_Mi))} (h : zf_82_J95 f x1 x2 x3 x4 M = some r) (hK : (jb_K (fun s : Int32 × Int32 × Int32 × jb_Mi => jb_V Γ (d + 1) zq_82 7 [some (.ref 50), some (.int x1), some (.int s.1), some (.int s.2.1), some (.int s.2.2.1), none] [] (zE L, s.2.2.2, N) v σ2) (fun r : Bool × jb_Mi => v = some (.int (jb_b2i r.1)) ∧ σ2 = (zE L, r.2, N))) r) : jb_V Γ (d + 1) zq_82 95 [some (.ref 50), some (.int x1), some (.int x2), some (.int x3), some (.int x4), none] [] (zE L, M, N) v σ2 := by
  unfold zf_82_J95 at h
  refine jb_seg 8 (pc' := 7) (ls' := [some (.ref 50), some (.int x1), some (.int x2), some (.int x3), some (.int (x4 + 1)), none]) (st' := []) (σ' := (zE L, (jb_up M 50 2 ((M 50 2) + 1)), N)) (G := []) rfl trivial ?_
  obtain rfl := Option.some.inj h
  exact jb_mask [true, true, true, true, true, false] rfl hK
set_option maxRecDepth 20000 in
theorem zg_82_H7 {Γ : jb_G} {L : Nat} {d : Nat} (hd : 1 ≤ (d + 1)) (f : Nat → Int32 → jb_Mi → Option (Bool × jb_Mi)) (hf0 : ∀ (x1 : Int32) (M : jb_Mi) (N : jb_Ml) (r : Bool × jb_Mi), f 0 x1 M = some r → jb_V Γ d zq_80 0 (jb_en 6 [.ref 50, .int x1]) [] (zE L, M, N) (some (.int (jb_b2i r.1))) (zE L, r.2, N)) (hf1 : ∀ (x1 : Int32) (M : jb_Mi) (N : jb_Ml) (r : Bool × jb_Mi), f 1 x1 M = some r → jb_V Γ d zq_81 0 (jb_en 4 [.ref 50, .int x1]) [] (zE L, M, N) (some (.int (jb_b2i r.1))) (zE L, r.2, N)) (hf2 : ∀ (x1 : Int32) (M : jb_Mi) (N : jb_Ml) (r : Bool × jb_Mi), f 2 x1 M = some r → jb_V Γ d zq_82 0 (jb_en 6 [.ref 50, .int x1]) [] (zE L, M, N) (some (.int (jb_b2i r.1))) (zE L, r.2, N)) (hf3 : ∀ (x1 : Int32) (M : jb_Mi) (N : jb_Ml) (r : Bool × jb_Mi), f 3 x1 M = some r → jb_V Γ d zq_83 0 (jb_en 4 [.ref 50, .int x1]) [] (zE L, M, N) (some (.int (jb_b2i r.1))) (zE L, r.2, N)) (x1 : Int32) (N : jb_Ml) (s : Int32 × Int32 × Int32 × jb_Mi) {v : Option Value} {σ2 : jb_S} {r : ((Int32 × Int32 × Int32 × jb_Mi) ⊕ (Bool × jb_Mi))} (h : zf_82_H7 f x1 s = some r) (hK : (jb_K (fun s : Int32 × Int32 × Int32 × jb_Mi => jb_V Γ (d + 1) zq_82 7 [some (.ref 50), some (.int x1), some (.int s.1), some (.int s.2.1), some (.int s.2.2.1), none] [] (zE L, s.2.2.2, N) v σ2) (fun r : Bool × jb_Mi => v = some (.int (jb_b2i r.1)) ∧ σ2 = (zE L, r.2, N))) r) : jb_V Γ (d + 1) zq_82 7 [some (.ref 50), some (.int x1), some (.int s.1), some (.int s.2.1), some (.int s.2.2.1), none] [] (zE L, s.2.2.2, N) v σ2 := by
  unfold zf_82_H7 at h
  refine jb_seg 3 (pc' := (if s.2.2.1 < 240 then 15 else 111)) (ls' := [some (.ref 50), some (.int x1), some (.int s.1), some (.int s.2.1), some (.int s.2.2.1), none]) (st' := []) (σ' := (zE L, s.2.2.2, N)) (G := []) rfl trivial ?_
  refine jb_ite (fun c => ?_) (fun c => ?_)
  · replace h := (if_pos c).symm.trans h
    refine jb_seg 2 (pc' := 17) (ls' := [some (.ref 50), some (.int x1), some (.int s.1), some (.int s.2.1), some (.int s.2.2.1), none]) (st' := [(.int x1), (.ref 50)]) (σ' := (zE L, s.2.2.2, N)) (G := []) rfl trivial ?_
    obtain ⟨q1, h1, h⟩ := jb_bd_of h
    refine jb_callV (q' := zq_83) (As := [(.int x1)]) (rest := []) (σ1 := (zE L, q1.2, N)) (v := some (.int (jb_b2i q1.1))) rfl rfl zp_83 rfl (Nat.le_of_ble_eq_true rfl) (jb_cat rfl) (Nat.le_of_ble_eq_true rfl) (Nat.le_of_ble_eq_true rfl) (Or.inl rfl) rfl (hf3 x1 s.2.2.2 N _ h1) ?_
    refine jb_seg 1 (pc' := (if (jb_b2i q1.1) = 0 then 23 else 25)) (ls' := [some (.ref 50), some (.int x1), some (.int s.1), some (.int s.2.1), some (.int s.2.2.1), none]) (st' := []) (σ' := (zE L, q1.2, N)) (G := []) rfl trivial ?_
    refine jb_ite (fun c => ?_) (fun c => ?_)
    · replace h := (if_pos c).symm.trans h
      refine jb_seg 1 (pc' := 24) (ls' := [some (.ref 50), some (.int x1), some (.int s.1), some (.int s.2.1), some (.int s.2.2.1), none]) (st' := [(.int 0)]) (σ' := (zE L, q1.2, N)) (G := []) rfl trivial ?_
      obtain rfl := Option.some.inj h
      obtain ⟨rfl, rfl⟩ := hK
      exact jb_retz (by decide) rfl rfl
    · replace h := (if_neg c).symm.trans h
      refine jb_seg 3 (pc' := 30) (ls' := [some (.ref 50), some (.int x1), some (.int s.1), some (.int s.2.1), some (.int s.2.2.1), none]) (st' := [(.int s.1), (.ref 51)]) (σ' := (zE L, q1.2, N)) (G := []) rfl trivial ?_
      obtain ⟨q2, h2, h⟩ := jb_bd_of h
      refine jb_callV (q' := zq_71) (As := [(.int s.1)]) (rest := []) (σ1 := (zE L, q2, N)) (v := none) rfl rfl zp_71 rfl (Nat.le_of_ble_eq_true rfl) (jb_cat rfl) (Nat.le_of_ble_eq_true rfl) (Nat.le_of_ble_eq_true rfl) (Or.inl rfl) rfl (ze_71 s.1 q1.2 N h2) ?_
      refine jb_seg 6 (pc' := 43) (ls' := [some (.ref 50), some (.int x1), some (.int (-1)), some (.int s.2.1), some (.int s.2.2.1), none]) (st' := [(.int (q2 50 2)), (.ref 2)]) (σ' := (zE L, q2, N)) (G := []) rfl trivial ?_
      obtain ⟨q3, h3, h⟩ := jb_bd_of h
      refine jb_callV (q' := zq_30) (As := [(.int (q2 50 2))]) (rest := []) (σ1 := (zE L, q2, N)) (v := some (.int q3)) rfl rfl zp_30 rfl (Nat.le_of_ble_eq_true rfl) (jb_cat rfl) (Nat.le_of_ble_eq_true rfl) (Nat.le_of_ble_eq_true rfl) (Or.inl rfl) rfl (ze_30 (q2 50 2) q2 N h3) ?_
      refine jb_seg 4 (pc' := (if q3 = 38 then 55 else 68)) (ls' := [some (.ref 50), some (.int x1), some (.int (-1)), some (.int s.2.1), some (.int s.2.2.1), some (.int q3)]) (st' := []) (σ' := (zE L, q2, N)) (G := []) rfl trivial ?_
      refine jb_ite (fun c => ?_) (fun c => ?_)
      · replace h := (if_pos c).symm.trans h
        refine jb_seg 4 (pc' := 61) (ls' := [some (.ref 50), some (.int x1), some (.int (-1)), some (.int s.2.1), some (.int s.2.2.1), some (.int q3)]) (st' := [(.int 0), (.int 4), (.ref 51)]) (σ' := (zE L, q2, N)) (G := []) rfl trivial ?_
        obtain ⟨q4, h4, h⟩ := jb_bd_of h
        refine jb_callV (q' := zq_70) (As := [(.int 4), (.int 0)]) (rest := []) (σ1 := (zE L, q4.2, N)) (v := some (.int q4.1)) rfl rfl zp_70 rfl (Nat.le_of_ble_eq_true rfl) (jb_cat rfl) (Nat.le_of_ble_eq_true rfl) (Nat.le_of_ble_eq_true rfl) (Or.inl rfl) rfl (ze_70 4 0 q2 N h4) ?_
        refine jb_seg 2 (pc' := 95) (ls' := [some (.ref 50), some (.int x1), some (.int q4.1), some (.int s.2.1), some (.int s.2.2.1), some (.int q3)]) (st' := []) (σ' := (zE L, q4.2, N)) (G := []) rfl trivial ?_
        exact jb_mask [true, true, true, true, true, false] rfl (zg_82_J95 hd f hf0 hf1 hf2 hf3 x1 q4.1 s.2.1 s.2.2.1 q4.2 N h hK)
      · replace h := (if_neg c).symm.trans h
        refine jb_seg 3 (pc' := 73) (ls' := [some (.ref 50), some (.int x1), some (.int (-1)), some (.int s.2.1), some (.int s.2.2.1), some (.int q3)]) (st' := [(.int s.2.1), (.ref 51)]) (σ' := (zE L, q2, N)) (G := []) rfl trivial ?_
        obtain ⟨q5, h5, h⟩ := jb_bd_of h
        refine jb_callV (q' := zq_71) (As := [(.int s.2.1)]) (rest := []) (σ1 := (zE L, q5, N)) (v := none) rfl rfl zp_71 rfl (Nat.le_of_ble_eq_true rfl) (jb_cat rfl) (Nat.le_of_ble_eq_true rfl) (Nat.le_of_ble_eq_true rfl) (Or.inl rfl) rfl (ze_71 s.2.1 q2 N h5) ?_
        refine jb_seg 3 (pc' := (if q3 = 124 then 85 else 83)) (ls' := [some (.ref 50), some (.int x1), some (.int (-1)), some (.int s.2.1), some (.int s.2.2.1), some (.int q3)]) (st' := []) (σ' := (zE L, q5, N)) (G := []) rfl trivial ?_
        refine jb_ite (fun c => ?_) (fun c => ?_)
        · replace h := (if_pos c).symm.trans h
          refine jb_seg 4 (pc' := 91) (ls' := [some (.ref 50), some (.int x1), some (.int (-1)), some (.int s.2.1), some (.int s.2.2.1), some (.int q3)]) (st' := [(.int 0), (.int 5), (.ref 51)]) (σ' := (zE L, q5, N)) (G := []) rfl trivial ?_
          obtain ⟨q6, h6, h⟩ := jb_bd_of h
          refine jb_callV (q' := zq_70) (As := [(.int 5), (.int 0)]) (rest := []) (σ1 := (zE L, q6.2, N)) (v := some (.int q6.1)) rfl rfl zp_70 rfl (Nat.le_of_ble_eq_true rfl) (jb_cat rfl) (Nat.le_of_ble_eq_true rfl) (Nat.le_of_ble_eq_true rfl) (Or.inl rfl) rfl (ze_70 5 0 q5 N h6) ?_
          refine jb_seg 1 (pc' := 95) (ls' := [some (.ref 50), some (.int x1), some (.int (-1)), some (.int q6.1), some (.int s.2.2.1), some (.int q3)]) (st' := []) (σ' := (zE L, q6.2, N)) (G := []) rfl trivial ?_
          exact jb_mask [true, true, true, true, true, false] rfl (zg_82_J95 hd f hf0 hf1 hf2 hf3 x1 (-1) q6.1 s.2.2.1 q6.2 N h hK)
        · replace h := (if_neg c).symm.trans h
          refine jb_seg 1 (pc' := 84) (ls' := [some (.ref 50), some (.int x1), some (.int (-1)), some (.int s.2.1), some (.int s.2.2.1), some (.int q3)]) (st' := [(.int 1)]) (σ' := (zE L, q5, N)) (G := []) rfl trivial ?_
          obtain rfl := Option.some.inj h
          obtain ⟨rfl, rfl⟩ := hK
          exact jb_retz (by decide) rfl rfl
  · replace h := (if_neg c).symm.trans h
    refine jb_seg 2 (pc' := 113) (ls' := [some (.ref 50), some (.int x1), some (.int s.1), some (.int s.2.1), some (.int s.2.2.1), none]) (st' := [(.int 1), (.ref 50)]) (σ' := (zE L, s.2.2.2, N)) (G := []) rfl trivial ?_
    refine jb_callV (q' := zq_75) (As := [(.int 1)]) (rest := []) (σ1 := (zE L, (zf_75 1 s.2.2.2).2, N)) (v := some (.int (jb_b2i (zf_75 1 s.2.2.2).1))) rfl rfl zp_75 rfl (Nat.le_of_ble_eq_true rfl) (jb_cat rfl) (Nat.le_of_ble_eq_true rfl) (Nat.le_of_ble_eq_true rfl) (Or.inl rfl) rfl (ze_75 1 s.2.2.2 N rfl) ?_
    obtain rfl := Option.some.inj h
    obtain ⟨rfl, rfl⟩ := hK
    exact jb_retz (jb_b2i_or _) rfl rfl
theorem zg_82_H7L {Γ : jb_G} {L : Nat} {d : Nat} (hd : 1 ≤ (d + 1)) (f : Nat → Int32 → jb_Mi → Option (Bool × jb_Mi)) (hf0 : ∀ (x1 : Int32) (M : jb_Mi) (N : jb_Ml) (r : Bool × jb_Mi), f 0 x1 M = some r → jb_V Γ d zq_80 0 (jb_en 6 [.ref 50, .int x1]) [] (zE L, M, N) (some (.int (jb_b2i r.1))) (zE L, r.2, N)) (hf1 : ∀ (x1 : Int32) (M : jb_Mi) (N : jb_Ml) (r : Bool × jb_Mi), f 1 x1 M = some r → jb_V Γ d zq_81 0 (jb_en 4 [.ref 50, .int x1]) [] (zE L, M, N) (some (.int (jb_b2i r.1))) (zE L, r.2, N)) (hf2 : ∀ (x1 : Int32) (M : jb_Mi) (N : jb_Ml) (r : Bool × jb_Mi), f 2 x1 M = some r → jb_V Γ d zq_82 0 (jb_en 6 [.ref 50, .int x1]) [] (zE L, M, N) (some (.int (jb_b2i r.1))) (zE L, r.2, N)) (hf3 : ∀ (x1 : Int32) (M : jb_Mi) (N : jb_Ml) (r : Bool × jb_Mi), f 3 x1 M = some r → jb_V Γ d zq_83 0 (jb_en 4 [.ref 50, .int x1]) [] (zE L, M, N) (some (.int (jb_b2i r.1))) (zE L, r.2, N)) (x1 : Int32) (N : jb_Ml) {v : Option Value} {σ2 : jb_S} {s : Int32 × Int32 × Int32 × jb_Mi} {r : (Bool × jb_Mi)} (h : jb_lp (zf_82_H7 f x1) s = some r) (hK : (fun r : Bool × jb_Mi => v = some (.int (jb_b2i r.1)) ∧ σ2 = (zE L, r.2, N)) r) : jb_V Γ (d + 1) zq_82 7 [some (.ref 50), some (.int x1), some (.int s.1), some (.int s.2.1), some (.int s.2.2.1), none] [] (zE L, s.2.2.2, N) v σ2 := by
  exact @jb_lp_ind (Int32 × Int32 × Int32 × jb_Mi) ((Bool × jb_Mi)) (zf_82_H7 f x1) (fun s => jb_V Γ (d + 1) zq_82 7 [some (.ref 50), some (.int x1), some (.int s.1), some (.int s.2.1), some (.int s.2.2.1), none] [] (zE L, s.2.2.2, N) v σ2) (fun r : Bool × jb_Mi => v = some (.int (jb_b2i r.1)) ∧ σ2 = (zE L, r.2, N)) (fun s r h hk => zg_82_H7 hd f hf0 hf1 hf2 hf3 x1 N s h hk) s r h hK
set_option maxRecDepth 20000 in
theorem zg_82 {Γ : jb_G} {L : Nat} {d : Nat} (hd : 1 ≤ (d + 1)) (f : Nat → Int32 → jb_Mi → Option (Bool × jb_Mi)) (hf0 : ∀ (x1 : Int32) (M : jb_Mi) (N : jb_Ml) (r : Bool × jb_Mi), f 0 x1 M = some r → jb_V Γ d zq_80 0 (jb_en 6 [.ref 50, .int x1]) [] (zE L, M, N) (some (.int (jb_b2i r.1))) (zE L, r.2, N)) (hf1 : ∀ (x1 : Int32) (M : jb_Mi) (N : jb_Ml) (r : Bool × jb_Mi), f 1 x1 M = some r → jb_V Γ d zq_81 0 (jb_en 4 [.ref 50, .int x1]) [] (zE L, M, N) (some (.int (jb_b2i r.1))) (zE L, r.2, N)) (hf2 : ∀ (x1 : Int32) (M : jb_Mi) (N : jb_Ml) (r : Bool × jb_Mi), f 2 x1 M = some r → jb_V Γ d zq_82 0 (jb_en 6 [.ref 50, .int x1]) [] (zE L, M, N) (some (.int (jb_b2i r.1))) (zE L, r.2, N)) (hf3 : ∀ (x1 : Int32) (M : jb_Mi) (N : jb_Ml) (r : Bool × jb_Mi), f 3 x1 M = some r → jb_V Γ d zq_83 0 (jb_en 4 [.ref 50, .int x1]) [] (zE L, M, N) (some (.int (jb_b2i r.1))) (zE L, r.2, N)) (x1 : Int32) (M : jb_Mi) (N : jb_Ml) {v : Option Value} {σ2 : jb_S} {r : (Bool × jb_Mi)} (h : zf_82 f x1 M = some r) (hK : (fun r : Bool × jb_Mi => v = some (.int (jb_b2i r.1)) ∧ σ2 = (zE L, r.2, N)) r) : jb_V Γ (d + 1) zq_82 0 [some (.ref 50), some (.int x1), none, none, none, none] [] (zE L, M, N) v σ2 := by
  unfold zf_82 at h
  refine jb_seg 6 (pc' := 7) (ls' := [some (.ref 50), some (.int x1), some (.int (-1)), some (.int (-1)), some (.int 0), none]) (st' := []) (σ' := (zE L, M, N)) (G := []) rfl trivial ?_
  exact jb_mask [true, true, true, true, true, false] rfl (zg_82_H7L hd f hf0 hf1 hf2 hf3 x1 N h hK)
theorem ze_82 {Γ : jb_G} {L : Nat} {d : Nat} (hd : 1 ≤ (d + 1)) (f : Nat → Int32 → jb_Mi → Option (Bool × jb_Mi)) (hf0 : ∀ (x1 : Int32) (M : jb_Mi) (N : jb_Ml) (r : Bool × jb_Mi), f 0 x1 M = some r → jb_V Γ d zq_80 0 (jb_en 6 [.ref 50, .int x1]) [] (zE L, M, N) (some (.int (jb_b2i r.1))) (zE L, r.2, N)) (hf1 : ∀ (x1 : Int32) (M : jb_Mi) (N : jb_Ml) (r : Bool × jb_Mi), f 1 x1 M = some r → jb_V Γ d zq_81 0 (jb_en 4 [.ref 50, .int x1]) [] (zE L, M, N) (some (.int (jb_b2i r.1))) (zE L, r.2, N)) (hf2 : ∀ (x1 : Int32) (M : jb_Mi) (N : jb_Ml) (r : Bool × jb_Mi), f 2 x1 M = some r → jb_V Γ d zq_82 0 (jb_en 6 [.ref 50, .int x1]) [] (zE L, M, N) (some (.int (jb_b2i r.1))) (zE L, r.2, N)) (hf3 : ∀ (x1 : Int32) (M : jb_Mi) (N : jb_Ml) (r : Bool × jb_Mi), f 3 x1 M = some r → jb_V Γ d zq_83 0 (jb_en 4 [.ref 50, .int x1]) [] (zE L, M, N) (some (.int (jb_b2i r.1))) (zE L, r.2, N)) (x1 : Int32) (M : jb_Mi) (N : jb_Ml) {r : (Bool × jb_Mi)} (h : zf_82 f x1 M = some r) : jb_V Γ (d + 1) zq_82 0 (jb_en 6 [(.ref 50), (.int x1)]) [] (zE L, M, N) (some (.int (jb_b2i r.1))) (zE L, r.2, N) := zg_82 hd f hf0 hf1 hf2 hf3 x1 M N h ⟨rfl, rfl⟩
theorem zes_LT {Γ : jb_G} {L : Nat} : ∀ (n d : Nat), n + 2 ≤ d → (∀ (x1 : Int32) (M : jb_Mi) (N : jb_Ml) (r : Bool × jb_Mi), zfr_LT n 0 x1 M = some r → jb_V Γ d zq_80 0 (jb_en 6 [.ref 50, .int x1]) [] (zE L, M, N) (some (.int (jb_b2i r.1))) (zE L, r.2, N)) ∧ (∀ (x1 : Int32) (M : jb_Mi) (N : jb_Ml) (r : Bool × jb_Mi), zfr_LT n 1 x1 M = some r → jb_V Γ d zq_81 0 (jb_en 4 [.ref 50, .int x1]) [] (zE L, M, N) (some (.int (jb_b2i r.1))) (zE L, r.2, N)) ∧ (∀ (x1 : Int32) (M : jb_Mi) (N : jb_Ml) (r : Bool × jb_Mi), zfr_LT n 2 x1 M = some r → jb_V Γ d zq_82 0 (jb_en 6 [.ref 50, .int x1]) [] (zE L, M, N) (some (.int (jb_b2i r.1))) (zE L, r.2, N)) ∧ (∀ (x1 : Int32) (M : jb_Mi) (N : jb_Ml) (r : Bool × jb_Mi), zfr_LT n 3 x1 M = some r → jb_V Γ d zq_83 0 (jb_en 4 [.ref 50, .int x1]) [] (zE L, M, N) (some (.int (jb_b2i r.1))) (zE L, r.2, N))
  | 0, d, hd => ⟨fun _ _ _ _ h => (by cases h), fun _ _ _ _ h => (by cases h), fun _ _ _ _ h => (by cases h), fun _ _ _ _ h => (by cases h)⟩
  | n + 1, 0, hd => by omega
  | n + 1, d + 1, hd => by
    obtain ⟨i0, i1, i2, i3⟩ := zes_LT (Γ := Γ) (L := L) n d (by omega)
    exact ⟨fun x1 M N r h => ze_80 (by omega) (zfr_LT n) i0 i1 i2 i3 x1 M N (by simpa [zfr_LT] using h), fun x1 M N r h => ze_81 (by omega) (zfr_LT n) i0 i1 i2 i3 x1 M N (by simpa [zfr_LT] using h), fun x1 M N r h => ze_82 (by omega) (zfr_LT n) i0 i1 i2 i3 x1 M N (by simpa [zfr_LT] using h), fun x1 M N r h => ze_83 (by omega) (zfr_LT n) i0 i1 i2 i3 x1 M N (by simpa [zfr_LT] using h)⟩
theorem zer_LT0 {Γ : jb_G} {L : Nat} {d : Nat} (hd : 46 ≤ d) (x1 : Int32) (M : jb_Mi) (N : jb_Ml) {r : Bool × jb_Mi} (h : zfr_LT 40 0 x1 M = some r) : jb_V Γ d zq_80 0 (jb_en 6 [.ref 50, .int x1]) [] (zE L, M, N) (some (.int (jb_b2i r.1))) (zE L, r.2, N) := (zes_LT 40 d (by omega)).1 x1 M N r h
theorem zer_LT1 {Γ : jb_G} {L : Nat} {d : Nat} (hd : 46 ≤ d) (x1 : Int32) (M : jb_Mi) (N : jb_Ml) {r : Bool × jb_Mi} (h : zfr_LT 40 1 x1 M = some r) : jb_V Γ d zq_81 0 (jb_en 4 [.ref 50, .int x1]) [] (zE L, M, N) (some (.int (jb_b2i r.1))) (zE L, r.2, N) := (zes_LT 40 d (by omega)).2.1 x1 M N r h
theorem zer_LT2 {Γ : jb_G} {L : Nat} {d : Nat} (hd : 46 ≤ d) (x1 : Int32) (M : jb_Mi) (N : jb_Ml) {r : Bool × jb_Mi} (h : zfr_LT 40 2 x1 M = some r) : jb_V Γ d zq_82 0 (jb_en 6 [.ref 50, .int x1]) [] (zE L, M, N) (some (.int (jb_b2i r.1))) (zE L, r.2, N) := (zes_LT 40 d (by omega)).2.2.1 x1 M N r h
theorem zer_LT3 {Γ : jb_G} {L : Nat} {d : Nat} (hd : 46 ≤ d) (x1 : Int32) (M : jb_Mi) (N : jb_Ml) {r : Bool × jb_Mi} (h : zfr_LT 40 3 x1 M = some r) : jb_V Γ d zq_83 0 (jb_en 4 [.ref 50, .int x1]) [] (zE L, M, N) (some (.int (jb_b2i r.1))) (zE L, r.2, N) := (zes_LT 40 d (by omega)).2.2.2 x1 M N r h
-- X6_read
set_option maxRecDepth 20000 in
theorem zg_84_J208 {Γ : jb_G} {L : Nat} {d : Nat} (hd : 47 ≤ d) (M : jb_Mi) (N : jb_Ml) {v : Option Value} {σ2 : jb_S} {r : (Int32 × jb_Mi)} (h : zf_84_J208 M = some r) (hK : (fun r : Int32 × jb_Mi => v = some (.int r.1) ∧ σ2 = (zE L, r.2, N)) r) : jb_V Γ d zq_84 208 [some (.ref 50), none, none] [] (zE L, M, N) v σ2 := by
  obtain ⟨d, rfl⟩ : ∃ e, d = e + 1 := ⟨d - 1, by omega⟩
  unfold zf_84_J208 at h
  refine jb_seg 4 (pc' := 216) (ls' := [some (.ref 50), none, none]) (st' := [(.int (M 50 2)), (.int (M 50 3))]) (σ' := (zE L, M, N)) (G := []) rfl trivial ?_
  refine jb_callS (q' := zq_74) (As := [(.int (M 50 3)), (.int (M 50 2))]) (rest := []) (σ1 := (zE L, M, N)) (v := some (.int (zf_74 (M 50 3) (M 50 2)))) rfl (Nat.le_of_ble_eq_true rfl) rfl zp_74 (jb_cat rfl) (Nat.le_of_ble_eq_true rfl) (Nat.le_of_ble_eq_true rfl) (Or.inl rfl) rfl (ze_74 (M 50 3) (M 50 2) M N rfl) ?_
  obtain rfl := Option.some.inj h
  obtain ⟨rfl, rfl⟩ := hK
  exact jb_reti rfl rfl
set_option maxRecDepth 20000 in
theorem zg_84_J166 {Γ : jb_G} {L : Nat} {d : Nat} (hd : 47 ≤ d) (x1 : Int32) (M : jb_Mi) (N : jb_Ml) {v : Option Value} {σ2 : jb_S} {r : ((Int32 × jb_Mi) ⊕ (Int32 × jb_Mi))} (h : zf_84_J166 x1 M = some r) (hK : (jb_K (fun s : Int32 × jb_Mi => jb_V Γ d zq_84 28 [some (.ref 50), some (.int s.1), none] [] (zE L, s.2, N) v σ2) (fun r : Int32 × jb_Mi => v = some (.int r.1) ∧ σ2 = (zE L, r.2, N))) r) : jb_V Γ d zq_84 166 [some (.ref 50), some (.int x1), none] [] (zE L, M, N) v σ2 := by
  obtain ⟨d, rfl⟩ : ∃ e, d = e + 1 := ⟨d - 1, by omega⟩
  unfold zf_84_J166 at h
  obtain ⟨g4, h⟩ := jb_gd_of h
  refine jb_seg 10 (pc' := 185) (ls' := [some (.ref 50), some (.int x1), none]) (st' := [(.int 40), (.ref 50)]) (σ' := (zE L, (jb_up M 56 x1.toNatClampNeg (M 51 5)), N)) (G := [vp_in x1 16]) rfl g4 ?_
  obtain ⟨q5, h5, h⟩ := jb_bd_of h
  refine jb_callV (q' := zq_79) (As := [(.int 40)]) (rest := []) (σ1 := (zE L, q5.2, N)) (v := some (.int (jb_b2i q5.1))) rfl rfl zp_79 rfl (Nat.le_of_ble_eq_true rfl) (jb_cat rfl) (Nat.le_of_ble_eq_true rfl) (Nat.le_of_ble_eq_true rfl) (Or.inl rfl) rfl (ze_79 (by omega) 40 (jb_up M 56 x1.toNatClampNeg (M 51 5)) N h5) ?_
  refine jb_seg 1 (pc' := (if (jb_b2i q5.1) = 0 then 208 else 191)) (ls' := [some (.ref 50), some (.int x1), none]) (st' := []) (σ' := (zE L, q5.2, N)) (G := []) rfl trivial ?_
  refine jb_ite (fun c => ?_) (fun c => ?_)
  · replace h := (if_pos c).symm.trans h
    obtain ⟨y0, hy0, rfl⟩ := jb_mp_of h
    exact jb_mask [true, false, false] rfl (zg_84_J208 hd q5.2 N hy0 hK)
  · replace h := (if_neg c).symm.trans h
    refine jb_seg 2 (pc' := 193) (ls' := [some (.ref 50), some (.int x1), none]) (st' := [(.int 1), (.ref 50)]) (σ' := (zE L, q5.2, N)) (G := []) rfl trivial ?_
    obtain ⟨q6, h6, h⟩ := jb_bd_of h
    refine jb_callV (q' := zq_82) (As := [(.int 1)]) (rest := []) (σ1 := (zE L, q6.2, N)) (v := some (.int (jb_b2i q6.1))) rfl rfl zp_82 rfl (Nat.le_of_ble_eq_true rfl) (jb_cat rfl) (Nat.le_of_ble_eq_true rfl) (Nat.le_of_ble_eq_true rfl) (Or.inl rfl) rfl (zer_LT2 (by omega) 1 q5.2 N h6) ?_
    refine jb_seg 1 (pc' := (if (jb_b2i q6.1) = 0 then 208 else 199)) (ls' := [some (.ref 50), some (.int x1), none]) (st' := []) (σ' := (zE L, q6.2, N)) (G := []) rfl trivial ?_
    refine jb_ite (fun c => ?_) (fun c => ?_)
    · replace h := (if_pos c).symm.trans h
      obtain ⟨y0, hy0, rfl⟩ := jb_mp_of h
      exact jb_mask [true, false, false] rfl (zg_84_J208 hd q6.2 N hy0 hK)
    · replace h := (if_neg c).symm.trans h
      refine jb_seg 2 (pc' := 202) (ls' := [some (.ref 50), some (.int x1), none]) (st' := [(.int 41), (.ref 50)]) (σ' := (zE L, q6.2, N)) (G := []) rfl trivial ?_
      obtain ⟨q7, h7, h⟩ := jb_bd_of h
      refine jb_callV (q' := zq_79) (As := [(.int 41)]) (rest := []) (σ1 := (zE L, q7.2, N)) (v := some (.int (jb_b2i q7.1))) rfl rfl zp_79 rfl (Nat.le_of_ble_eq_true rfl) (jb_cat rfl) (Nat.le_of_ble_eq_true rfl) (Nat.le_of_ble_eq_true rfl) (Or.inl rfl) rfl (ze_79 (by omega) 41 q6.2 N h7) ?_
      refine jb_seg 1 (pc' := (if (jb_b2i q7.1) = 0 then 208 else 220)) (ls' := [some (.ref 50), some (.int x1), none]) (st' := []) (σ' := (zE L, q7.2, N)) (G := []) rfl trivial ?_
      refine jb_ite (fun c => ?_) (fun c => ?_)
      · replace h := (if_pos c).symm.trans h
        obtain ⟨y0, hy0, rfl⟩ := jb_mp_of h
        exact jb_mask [true, false, false] rfl (zg_84_J208 hd q7.2 N hy0 hK)
      · replace h := (if_neg c).symm.trans h
        refine jb_seg 4 (pc' := 226) (ls' := [some (.ref 50), some (.int x1), none]) (st' := [(.int 0), (.int 0), (.ref 51)]) (σ' := (zE L, q7.2, N)) (G := []) rfl trivial ?_
        obtain ⟨q8, h8, h⟩ := jb_bd_of h
        refine jb_callV (q' := zq_70) (As := [(.int 0), (.int 0)]) (rest := []) (σ1 := (zE L, q8.2, N)) (v := some (.int q8.1)) rfl rfl zp_70 rfl (Nat.le_of_ble_eq_true rfl) (jb_cat rfl) (Nat.le_of_ble_eq_true rfl) (Nat.le_of_ble_eq_true rfl) (Or.inl rfl) rfl (ze_70 0 0 q7.2 N h8) ?_
        refine jb_seg 11 (pc' := 248) (ls' := [some (.ref 50), some (.int x1), none]) (st' := [(.int ((jb_up q8.2 51 6 (x1 + 1)) 50 2)), (.ref 2)]) (σ' := (zE L, (jb_up q8.2 51 6 (x1 + 1)), N)) (G := []) rfl trivial ?_
        obtain ⟨q9, h9, h⟩ := jb_bd_of h
        refine jb_callV (q' := zq_30) (As := [(.int ((jb_up q8.2 51 6 (x1 + 1)) 50 2))]) (rest := []) (σ1 := (zE L, (jb_up q8.2 51 6 (x1 + 1)), N)) (v := some (.int q9)) rfl rfl zp_30 rfl (Nat.le_of_ble_eq_true rfl) (jb_cat rfl) (Nat.le_of_ble_eq_true rfl) (Nat.le_of_ble_eq_true rfl) (Or.inl rfl) rfl (ze_30 ((jb_up q8.2 51 6 (x1 + 1)) 50 2) (jb_up q8.2 51 6 (x1 + 1)) N h9) ?_
        refine jb_seg 2 (pc' := (if q9 = (-1) then 255 else 263)) (ls' := [some (.ref 50), some (.int x1), none]) (st' := []) (σ' := (zE L, (jb_up q8.2 51 6 (x1 + 1)), N)) (G := []) rfl trivial ?_
        refine jb_ite (fun c => ?_) (fun c => ?_)
        · replace h := (if_pos c).symm.trans h
          refine jb_seg 3 (pc' := 262) (ls' := [some (.ref 50), some (.int x1), none]) (st' := [(.int ((jb_up q8.2 51 6 (x1 + 1)) 51 6))]) (σ' := (zE L, (jb_up q8.2 51 6 (x1 + 1)), N)) (G := []) rfl trivial ?_
          obtain rfl := Option.some.inj h
          obtain ⟨rfl, rfl⟩ := hK
          exact jb_reti rfl rfl
        · replace h := (if_neg c).symm.trans h
          refine jb_seg 2 (pc' := 266) (ls' := [some (.ref 50), some (.int x1), none]) (st' := [(.int 59), (.ref 50)]) (σ' := (zE L, (jb_up q8.2 51 6 (x1 + 1)), N)) (G := []) rfl trivial ?_
          obtain ⟨q10, h10, h⟩ := jb_bd_of h
          refine jb_callV (q' := zq_79) (As := [(.int 59)]) (rest := []) (σ1 := (zE L, q10.2, N)) (v := some (.int (jb_b2i q10.1))) rfl rfl zp_79 rfl (Nat.le_of_ble_eq_true rfl) (jb_cat rfl) (Nat.le_of_ble_eq_true rfl) (Nat.le_of_ble_eq_true rfl) (Or.inl rfl) rfl (ze_79 (by omega) 59 (jb_up q8.2 51 6 (x1 + 1)) N h10) ?_
          refine jb_seg 1 (pc' := (if (jb_b2i q10.1) = 0 then 272 else 284)) (ls' := [some (.ref 50), some (.int x1), none]) (st' := []) (σ' := (zE L, q10.2, N)) (G := []) rfl trivial ?_
          refine jb_ite (fun c => ?_) (fun c => ?_)
          · replace h := (if_pos c).symm.trans h
            refine jb_seg 4 (pc' := 280) (ls' := [some (.ref 50), some (.int x1), none]) (st' := [(.int (q10.2 50 2)), (.int (q10.2 50 3))]) (σ' := (zE L, q10.2, N)) (G := []) rfl trivial ?_
            refine jb_callS (q' := zq_74) (As := [(.int (q10.2 50 3)), (.int (q10.2 50 2))]) (rest := []) (σ1 := (zE L, q10.2, N)) (v := some (.int (zf_74 (q10.2 50 3) (q10.2 50 2)))) rfl (Nat.le_of_ble_eq_true rfl) rfl zp_74 (jb_cat rfl) (Nat.le_of_ble_eq_true rfl) (Nat.le_of_ble_eq_true rfl) (Or.inl rfl) rfl (ze_74 (q10.2 50 3) (q10.2 50 2) q10.2 N rfl) ?_
            obtain rfl := Option.some.inj h
            obtain ⟨rfl, rfl⟩ := hK
            exact jb_reti rfl rfl
          · replace h := (if_neg c).symm.trans h
            refine jb_seg 2 (pc' := 28) (ls' := [some (.ref 50), some (.int (x1 + 1)), none]) (st' := []) (σ' := (zE L, q10.2, N)) (G := []) rfl trivial ?_
            obtain rfl := Option.some.inj h
            exact jb_mask [true, true, false] rfl hK
set_option maxRecDepth 20000 in
theorem zg_84_J79 {Γ : jb_G} {L : Nat} {d : Nat} (hd : 47 ≤ d) (x1 : Int32) (x2 : Int32) (M : jb_Mi) (N : jb_Ml) {v : Option Value} {σ2 : jb_S} {r : ((Int32 × jb_Mi) ⊕ (Int32 × jb_Mi))} (h : zf_84_J79 x1 x2 M = some r) (hK : (jb_K (fun s : Int32 × jb_Mi => jb_V Γ d zq_84 28 [some (.ref 50), some (.int s.1), none] [] (zE L, s.2, N) v σ2) (fun r : Int32 × jb_Mi => v = some (.int r.1) ∧ σ2 = (zE L, r.2, N))) r) : jb_V Γ d zq_84 79 [some (.ref 50), some (.int x1), some (.int x2)] [] (zE L, M, N) v σ2 := by
  obtain ⟨d, rfl⟩ : ∃ e, d = e + 1 := ⟨d - 1, by omega⟩
  unfold zf_84_J79 at h
  refine jb_seg 3 (pc' := (if x1 = 16 then 85 else 94)) (ls' := [some (.ref 50), some (.int x1), some (.int x2)]) (st' := []) (σ' := (zE L, M, N)) (G := []) rfl trivial ?_
  refine jb_ite (fun c => ?_) (fun c => ?_)
  · replace h := (if_pos c).symm.trans h
    refine jb_seg 3 (pc' := 90) (ls' := [some (.ref 50), some (.int x1), some (.int x2)]) (st' := [(.int (M 50 2)), (.int 4)]) (σ' := (zE L, M, N)) (G := []) rfl trivial ?_
    refine jb_callS (q' := zq_74) (As := [(.int 4), (.int (M 50 2))]) (rest := []) (σ1 := (zE L, M, N)) (v := some (.int (zf_74 4 (M 50 2)))) rfl (Nat.le_of_ble_eq_true rfl) rfl zp_74 (jb_cat rfl) (Nat.le_of_ble_eq_true rfl) (Nat.le_of_ble_eq_true rfl) (Or.inl rfl) rfl (ze_74 4 (M 50 2) M N rfl) ?_
    obtain rfl := Option.some.inj h
    obtain ⟨rfl, rfl⟩ := hK
    exact jb_reti rfl rfl
  · replace h := (if_neg c).symm.trans h
    obtain ⟨g2, h⟩ := jb_gd_of h
    obtain ⟨g3, h⟩ := jb_gd_of h
    refine jb_seg 23 (pc' := (if x2 = 120 then 166 else 136)) (ls' := [some (.ref 50), some (.int x1), some (.int x2)]) (st' := []) (σ' := (zE L, (jb_up (jb_up (jb_up M 50 2 ((M 50 2) + 1)) 54 x1.toNatClampNeg x2) 55 x1.toNatClampNeg ((jb_up (jb_up M 50 2 ((M 50 2) + 1)) 54 x1.toNatClampNeg x2) 51 5)), N)) (G := [vp_in x1 16, vp_in x1 16]) rfl ⟨g2, g3⟩ ?_
    refine jb_ite (fun c => ?_) (fun c => ?_)
    · replace h := (if_pos c).symm.trans h
      exact jb_mask [true, true, false] rfl (zg_84_J166 hd x1 (jb_up (jb_up (jb_up M 50 2 ((M 50 2) + 1)) 54 x1.toNatClampNeg x2) 55 x1.toNatClampNeg ((jb_up (jb_up M 50 2 ((M 50 2) + 1)) 54 x1.toNatClampNeg x2) 51 5)) N h hK)
    · replace h := (if_neg c).symm.trans h
      refine jb_seg 2 (pc' := 138) (ls' := [some (.ref 50), some (.int x1), some (.int x2)]) (st' := [(.int 0), (.ref 50)]) (σ' := (zE L, (jb_up (jb_up (jb_up M 50 2 ((M 50 2) + 1)) 54 x1.toNatClampNeg x2) 55 x1.toNatClampNeg ((jb_up (jb_up M 50 2 ((M 50 2) + 1)) 54 x1.toNatClampNeg x2) 51 5)), N)) (G := []) rfl trivial ?_
      obtain ⟨q11, h11, h⟩ := jb_bd_of h
      refine jb_callV (q' := zq_80) (As := [(.int 0)]) (rest := []) (σ1 := (zE L, q11.2, N)) (v := some (.int (jb_b2i q11.1))) rfl rfl zp_80 rfl (Nat.le_of_ble_eq_true rfl) (jb_cat rfl) (Nat.le_of_ble_eq_true rfl) (Nat.le_of_ble_eq_true rfl) (Or.inl rfl) rfl (zer_LT0 (by omega) 0 (jb_up (jb_up (jb_up M 50 2 ((M 50 2) + 1)) 54 x1.toNatClampNeg x2) 55 x1.toNatClampNeg ((jb_up (jb_up M 50 2 ((M 50 2) + 1)) 54 x1.toNatClampNeg x2) 51 5)) N h11) ?_
      refine jb_seg 1 (pc' := (if (jb_b2i q11.1) = 0 then 144 else 156)) (ls' := [some (.ref 50), some (.int x1), some (.int x2)]) (st' := []) (σ' := (zE L, q11.2, N)) (G := []) rfl trivial ?_
      refine jb_ite (fun c => ?_) (fun c => ?_)
      · replace h := (if_pos c).symm.trans h
        refine jb_seg 4 (pc' := 152) (ls' := [some (.ref 50), some (.int x1), some (.int x2)]) (st' := [(.int (q11.2 50 2)), (.int (q11.2 50 3))]) (σ' := (zE L, q11.2, N)) (G := []) rfl trivial ?_
        refine jb_callS (q' := zq_74) (As := [(.int (q11.2 50 3)), (.int (q11.2 50 2))]) (rest := []) (σ1 := (zE L, q11.2, N)) (v := some (.int (zf_74 (q11.2 50 3) (q11.2 50 2)))) rfl (Nat.le_of_ble_eq_true rfl) rfl zp_74 (jb_cat rfl) (Nat.le_of_ble_eq_true rfl) (Nat.le_of_ble_eq_true rfl) (Or.inl rfl) rfl (ze_74 (q11.2 50 3) (q11.2 50 2) q11.2 N rfl) ?_
        obtain rfl := Option.some.inj h
        obtain ⟨rfl, rfl⟩ := hK
        exact jb_reti rfl rfl
      · replace h := (if_neg c).symm.trans h
        refine jb_seg 4 (pc' := 162) (ls' := [some (.ref 50), some (.int x1), some (.int x2)]) (st' := [(.int 0), (.int 0), (.ref 51)]) (σ' := (zE L, q11.2, N)) (G := []) rfl trivial ?_
        obtain ⟨q12, h12, h⟩ := jb_bd_of h
        refine jb_callV (q' := zq_70) (As := [(.int 0), (.int 0)]) (rest := []) (σ1 := (zE L, q12.2, N)) (v := some (.int q12.1)) rfl rfl zp_70 rfl (Nat.le_of_ble_eq_true rfl) (jb_cat rfl) (Nat.le_of_ble_eq_true rfl) (Nat.le_of_ble_eq_true rfl) (Or.inl rfl) rfl (ze_70 0 0 q11.2 N h12) ?_
        refine jb_seg 1 (pc' := 166) (ls' := [some (.ref 50), some (.int x1), some (.int x2)]) (st' := []) (σ' := (zE L, q12.2, N)) (G := []) rfl trivial ?_
        exact jb_mask [true, true, false] rfl (zg_84_J166 hd x1 q12.2 N h hK)
set_option maxRecDepth 20000 in
theorem zg_84_H28 {Γ : jb_G} {L : Nat} {d : Nat} (hd : 47 ≤ d) (N : jb_Ml) (s : Int32 × jb_Mi) {v : Option Value} {σ2 : jb_S} {r : ((Int32 × jb_Mi) ⊕ (Int32 × jb_Mi))} (h : zf_84_H28 s = some r) (hK : (jb_K (fun s : Int32 × jb_Mi => jb_V Γ d zq_84 28 [some (.ref 50), some (.int s.1), none] [] (zE L, s.2, N) v σ2) (fun r : Int32 × jb_Mi => v = some (.int r.1) ∧ σ2 = (zE L, r.2, N))) r) : jb_V Γ d zq_84 28 [some (.ref 50), some (.int s.1), none] [] (zE L, s.2, N) v σ2 := by
  obtain ⟨d, rfl⟩ : ∃ e, d = e + 1 := ⟨d - 1, by omega⟩
  unfold zf_84_H28 at h
  refine jb_seg 3 (pc' := (if 16 < s.1 then 290 else 34)) (ls' := [some (.ref 50), some (.int s.1), none]) (st' := []) (σ' := (zE L, s.2, N)) (G := []) rfl trivial ?_
  refine jb_ite (fun c => ?_) (fun c => ?_)
  · replace h := (if_pos c).symm.trans h
    refine jb_seg 4 (pc' := 298) (ls' := [some (.ref 50), some (.int s.1), none]) (st' := [(.int (s.2 50 2)), (.int (s.2 50 3))]) (σ' := (zE L, s.2, N)) (G := []) rfl trivial ?_
    refine jb_callS (q' := zq_74) (As := [(.int (s.2 50 3)), (.int (s.2 50 2))]) (rest := []) (σ1 := (zE L, s.2, N)) (v := some (.int (zf_74 (s.2 50 3) (s.2 50 2)))) rfl (Nat.le_of_ble_eq_true rfl) rfl zp_74 (jb_cat rfl) (Nat.le_of_ble_eq_true rfl) (Nat.le_of_ble_eq_true rfl) (Or.inl rfl) rfl (ze_74 (s.2 50 3) (s.2 50 2) s.2 N rfl) ?_
    obtain rfl := Option.some.inj h
    obtain ⟨rfl, rfl⟩ := hK
    exact jb_reti rfl rfl
  · replace h := (if_neg c).symm.trans h
    refine jb_seg 4 (pc' := 42) (ls' := [some (.ref 50), some (.int s.1), none]) (st' := [(.int (s.2 50 2)), (.ref 2)]) (σ' := (zE L, s.2, N)) (G := []) rfl trivial ?_
    obtain ⟨q1, h1, h⟩ := jb_bd_of h
    refine jb_callV (q' := zq_30) (As := [(.int (s.2 50 2))]) (rest := []) (σ1 := (zE L, s.2, N)) (v := some (.int q1)) rfl rfl zp_30 rfl (Nat.le_of_ble_eq_true rfl) (jb_cat rfl) (Nat.le_of_ble_eq_true rfl) (Nat.le_of_ble_eq_true rfl) (Or.inl rfl) rfl (ze_30 (s.2 50 2) s.2 N h1) ?_
    refine jb_seg 4 (pc' := (if q1 = 116 then 79 else 52)) (ls' := [some (.ref 50), some (.int s.1), some (.int q1)]) (st' := []) (σ' := (zE L, s.2, N)) (G := []) rfl trivial ?_
    refine jb_ite (fun c => ?_) (fun c => ?_)
    · replace h := (if_pos c).symm.trans h
      exact jb_mask [true, true, true] rfl (zg_84_J79 hd s.1 q1 s.2 N h hK)
    · replace h := (if_neg c).symm.trans h
      refine jb_seg 3 (pc' := (if q1 = 121 then 79 else 58)) (ls' := [some (.ref 50), some (.int s.1), some (.int q1)]) (st' := []) (σ' := (zE L, s.2, N)) (G := []) rfl trivial ?_
      refine jb_ite (fun c => ?_) (fun c => ?_)
      · replace h := (if_pos c).symm.trans h
        exact jb_mask [true, true, true] rfl (zg_84_J79 hd s.1 q1 s.2 N h hK)
      · replace h := (if_neg c).symm.trans h
        refine jb_seg 3 (pc' := (if q1 = 100 then 79 else 64)) (ls' := [some (.ref 50), some (.int s.1), some (.int q1)]) (st' := []) (σ' := (zE L, s.2, N)) (G := []) rfl trivial ?_
        refine jb_ite (fun c => ?_) (fun c => ?_)
        · replace h := (if_pos c).symm.trans h
          exact jb_mask [true, true, true] rfl (zg_84_J79 hd s.1 q1 s.2 N h hK)
        · replace h := (if_neg c).symm.trans h
          refine jb_seg 3 (pc' := (if q1 = 120 then 79 else 70)) (ls' := [some (.ref 50), some (.int s.1), some (.int q1)]) (st' := []) (σ' := (zE L, s.2, N)) (G := []) rfl trivial ?_
          refine jb_ite (fun c => ?_) (fun c => ?_)
          · replace h := (if_pos c).symm.trans h
            exact jb_mask [true, true, true] rfl (zg_84_J79 hd s.1 q1 s.2 N h hK)
          · replace h := (if_neg c).symm.trans h
            refine jb_seg 3 (pc' := 75) (ls' := [some (.ref 50), some (.int s.1), some (.int q1)]) (st' := [(.int (s.2 50 2)), (.int 1)]) (σ' := (zE L, s.2, N)) (G := []) rfl trivial ?_
            refine jb_callS (q' := zq_74) (As := [(.int 1), (.int (s.2 50 2))]) (rest := []) (σ1 := (zE L, s.2, N)) (v := some (.int (zf_74 1 (s.2 50 2)))) rfl (Nat.le_of_ble_eq_true rfl) rfl zp_74 (jb_cat rfl) (Nat.le_of_ble_eq_true rfl) (Nat.le_of_ble_eq_true rfl) (Or.inl rfl) rfl (ze_74 1 (s.2 50 2) s.2 N rfl) ?_
            obtain rfl := Option.some.inj h
            obtain ⟨rfl, rfl⟩ := hK
            exact jb_reti rfl rfl
theorem zg_84_H28L {Γ : jb_G} {L : Nat} {d : Nat} (hd : 47 ≤ d) (N : jb_Ml) {v : Option Value} {σ2 : jb_S} {s : Int32 × jb_Mi} {r : (Int32 × jb_Mi)} (h : jb_lp (zf_84_H28) s = some r) (hK : (fun r : Int32 × jb_Mi => v = some (.int r.1) ∧ σ2 = (zE L, r.2, N)) r) : jb_V Γ d zq_84 28 [some (.ref 50), some (.int s.1), none] [] (zE L, s.2, N) v σ2 := by
  exact @jb_lp_ind (Int32 × jb_Mi) ((Int32 × jb_Mi)) (zf_84_H28) (fun s => jb_V Γ d zq_84 28 [some (.ref 50), some (.int s.1), none] [] (zE L, s.2, N) v σ2) (fun r : Int32 × jb_Mi => v = some (.int r.1) ∧ σ2 = (zE L, r.2, N)) (fun s r h hk => zg_84_H28 hd N s h hk) s r h hK
set_option maxRecDepth 20000 in
theorem zg_84 {Γ : jb_G} {L : Nat} {d : Nat} (hd : 47 ≤ d) (M : jb_Mi) (N : jb_Ml) {v : Option Value} {σ2 : jb_S} {r : (Int32 × jb_Mi)} (h : zf_84 M = some r) (hK : (fun r : Int32 × jb_Mi => v = some (.int r.1) ∧ σ2 = (zE L, r.2, N)) r) : jb_V Γ d zq_84 0 [some (.ref 50), none, none] [] (zE L, M, N) v σ2 := by
  obtain ⟨d, rfl⟩ : ∃ e, d = e + 1 := ⟨d - 1, by omega⟩
  unfold zf_84 at h
  refine jb_seg 16 (pc' := 28) (ls' := [some (.ref 50), some (.int 0), none]) (st' := []) (σ' := (zE L, (jb_up (jb_up (jb_up (jb_up M 50 2 0) 50 3 0) 51 5 0) 51 6 0), N)) (G := []) rfl trivial ?_
  exact jb_mask [true, true, false] rfl (zg_84_H28L hd N h hK)
theorem ze_84 {Γ : jb_G} {L : Nat} {d : Nat} (hd : 47 ≤ d) (M : jb_Mi) (N : jb_Ml) {r : (Int32 × jb_Mi)} (h : zf_84 M = some r) : jb_V Γ d zq_84 0 (jb_en 3 [(.ref 50)]) [] (zE L, M, N) (some (.int r.1)) (zE L, r.2, N) := zg_84 hd M N h ⟨rfl, rfl⟩
