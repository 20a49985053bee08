-- X9_houseTold
set_option maxRecDepth 20000 in
theorem zg_2 {Γ : jb_G} {L : Nat} {d : Nat} (o : Nat) (x1 : Int32) (M : jb_Mi) (N : jb_Ml) (hp : o = 4 ∨ o = 24) {v : Option Value} {σ2 : jb_S} {r : (Bool)} (h : zf_2 o x1 M = some r) (hK : (fun r : Bool => v = some (.int (jb_b2i r)) ∧ σ2 = (zE L, M, N)) r) : jb_V Γ d zq_2 0 [some (.ref o), some (.int x1)] [] (zE L, M, N) v σ2 := by
  rcases hp with rfl | rfl
  · unfold zf_2 at h
    refine jb_seg 2 (pc' := (if x1 < 0 then 23 else 4)) (ls' := [some (.ref 4), some (.int x1)]) (st' := []) (σ' := (zE L, M, N)) (G := []) rfl trivial ?_
    refine jb_ite (fun c => ?_) (fun c => ?_)
    · replace h := (if_pos c).symm.trans h
      refine jb_seg 1 (pc' := 24) (ls' := [some (.ref 4), some (.int x1)]) (st' := [(.int 0)]) (σ' := (zE L, M, N)) (G := []) rfl trivial ?_
      obtain rfl := Option.some.inj h
      obtain ⟨rfl, rfl⟩ := hK
      exact jb_retz (by decide) rfl rfl
    · replace h := (if_neg c).symm.trans h
      refine jb_seg 3 (pc' := (if x1 < 6 then 10 else 23)) (ls' := [some (.ref 4), some (.int x1)]) (st' := []) (σ' := (zE L, M, N)) (G := []) rfl trivial ?_
      refine jb_ite (fun c => ?_) (fun c => ?_)
      · replace h := (if_pos c).symm.trans h
        obtain ⟨g1, h⟩ := jb_gd_of h
        refine jb_seg 5 (pc' := (if 0 < (M (4 + 1) x1.toNatClampNeg) then 19 else 23)) (ls' := [some (.ref 4), some (.int x1)]) (st' := []) (σ' := (zE L, M, N)) (G := [vp_in x1 6]) rfl g1 ?_
        refine jb_ite (fun c => ?_) (fun c => ?_)
        · replace h := (if_pos c).symm.trans h
          refine jb_seg 2 (pc' := 24) (ls' := [some (.ref 4), some (.int x1)]) (st' := [(.int 1)]) (σ' := (zE L, M, N)) (G := []) rfl trivial ?_
          obtain rfl := Option.some.inj h
          obtain ⟨rfl, rfl⟩ := hK
          exact jb_retz (by decide) rfl rfl
        · replace h := (if_neg c).symm.trans h
          refine jb_seg 1 (pc' := 24) (ls' := [some (.ref 4), some (.int x1)]) (st' := [(.int 0)]) (σ' := (zE L, M, N)) (G := []) rfl trivial ?_
          obtain rfl := Option.some.inj h
          obtain ⟨rfl, rfl⟩ := hK
          exact jb_retz (by decide) rfl rfl
      · replace h := (if_neg c).symm.trans h
        refine jb_seg 1 (pc' := 24) (ls' := [some (.ref 4), some (.int x1)]) (st' := [(.int 0)]) (σ' := (zE L, M, N)) (G := []) rfl trivial ?_
        obtain rfl := Option.some.inj h
        obtain ⟨rfl, rfl⟩ := hK
        exact jb_retz (by decide) rfl rfl
  · unfold zf_2 at h
    refine jb_seg 2 (pc' := (if x1 < 0 then 23 else 4)) (ls' := [some (.ref 24), some (.int x1)]) (st' := []) (σ' := (zE L, M, N)) (G := []) rfl trivial ?_
    refine jb_ite (fun c => ?_) (fun c => ?_)
    · replace h := (if_pos c).symm.trans h
      refine jb_seg 1 (pc' := 24) (ls' := [some (.ref 24), some (.int x1)]) (st' := [(.int 0)]) (σ' := (zE L, M, N)) (G := []) rfl trivial ?_
      obtain rfl := Option.some.inj h
      obtain ⟨rfl, rfl⟩ := hK
      exact jb_retz (by decide) rfl rfl
    · replace h := (if_neg c).symm.trans h
      refine jb_seg 3 (pc' := (if x1 < 6 then 10 else 23)) (ls' := [some (.ref 24), some (.int x1)]) (st' := []) (σ' := (zE L, M, N)) (G := []) rfl trivial ?_
      refine jb_ite (fun c => ?_) (fun c => ?_)
      · replace h := (if_pos c).symm.trans h
        obtain ⟨g1, h⟩ := jb_gd_of h
        refine jb_seg 5 (pc' := (if 0 < (M (24 + 1) x1.toNatClampNeg) then 19 else 23)) (ls' := [some (.ref 24), some (.int x1)]) (st' := []) (σ' := (zE L, M, N)) (G := [vp_in x1 6]) rfl g1 ?_
        refine jb_ite (fun c => ?_) (fun c => ?_)
        · replace h := (if_pos c).symm.trans h
          refine jb_seg 2 (pc' := 24) (ls' := [some (.ref 24), some (.int x1)]) (st' := [(.int 1)]) (σ' := (zE L, M, N)) (G := []) rfl trivial ?_
          obtain rfl := Option.some.inj h
          obtain ⟨rfl, rfl⟩ := hK
          exact jb_retz (by decide) rfl rfl
        · replace h := (if_neg c).symm.trans h
          refine jb_seg 1 (pc' := 24) (ls' := [some (.ref 24), some (.int x1)]) (st' := [(.int 0)]) (σ' := (zE L, M, N)) (G := []) rfl trivial ?_
          obtain rfl := Option.some.inj h
          obtain ⟨rfl, rfl⟩ := hK
          exact jb_retz (by decide) rfl rfl
      · replace h := (if_neg c).symm.trans h
        refine jb_seg 1 (pc' := 24) (ls' := [some (.ref 24), some (.int x1)]) (st' := [(.int 0)]) (σ' := (zE L, M, N)) (G := []) rfl trivial ?_
        obtain rfl := Option.some.inj h
        obtain ⟨rfl, rfl⟩ := hK
        exact jb_retz (by decide) rfl rfl
theorem ze_2 {Γ : jb_G} {L : Nat} {d : Nat} (o : Nat) (x1 : Int32) (M : jb_Mi) (N : jb_Ml) (hp : o = 4 ∨ o = 24) {r : (Bool)} (h : zf_2 o x1 M = some r) : jb_V Γ d zq_2 0 (jb_en 2 [(.ref o), (.int x1)]) [] (zE L, M, N) (some (.int (jb_b2i r))) (zE L, M, N) := zg_2 o x1 M N hp h ⟨rfl, rfl⟩
-- X9_thingTold
set_option maxRecDepth 20000 in
theorem zg_3 {Γ : jb_G} {L : Nat} {d : Nat} (o : Nat) (x1 : Int32) (M : jb_Mi) (N : jb_Ml) (hp : o = 4 ∨ o = 24) {v : Option Value} {σ2 : jb_S} {r : (Bool)} (h : zf_3 o x1 M = some r) (hK : (fun r : Bool => v = some (.int (jb_b2i r)) ∧ σ2 = (zE L, M, N)) r) : jb_V Γ d zq_3 0 [some (.ref o), some (.int x1)] [] (zE L, M, N) v σ2 := by
  rcases hp with rfl | rfl
  · unfold zf_3 at h
    refine jb_seg 2 (pc' := (if x1 < 0 then 23 else 4)) (ls' := [some (.ref 4), some (.int x1)]) (st' := []) (σ' := (zE L, M, N)) (G := []) rfl trivial ?_
    refine jb_ite (fun c => ?_) (fun c => ?_)
    · replace h := (if_pos c).symm.trans h
      refine jb_seg 1 (pc' := 24) (ls' := [some (.ref 4), some (.int x1)]) (st' := [(.int 0)]) (σ' := (zE L, M, N)) (G := []) rfl trivial ?_
      obtain rfl := Option.some.inj h
      obtain ⟨rfl, rfl⟩ := hK
      exact jb_retz (by decide) rfl rfl
    · replace h := (if_neg c).symm.trans h
      refine jb_seg 3 (pc' := (if x1 < 24 then 10 else 23)) (ls' := [some (.ref 4), some (.int x1)]) (st' := []) (σ' := (zE L, M, N)) (G := []) rfl trivial ?_
      refine jb_ite (fun c => ?_) (fun c => ?_)
      · replace h := (if_pos c).symm.trans h
        obtain ⟨g1, h⟩ := jb_gd_of h
        refine jb_seg 5 (pc' := (if 0 < (M (4 + 7) x1.toNatClampNeg) then 19 else 23)) (ls' := [some (.ref 4), some (.int x1)]) (st' := []) (σ' := (zE L, M, N)) (G := [vp_in x1 24]) rfl g1 ?_
        refine jb_ite (fun c => ?_) (fun c => ?_)
        · replace h := (if_pos c).symm.trans h
          refine jb_seg 2 (pc' := 24) (ls' := [some (.ref 4), some (.int x1)]) (st' := [(.int 1)]) (σ' := (zE L, M, N)) (G := []) rfl trivial ?_
          obtain rfl := Option.some.inj h
          obtain ⟨rfl, rfl⟩ := hK
          exact jb_retz (by decide) rfl rfl
        · replace h := (if_neg c).symm.trans h
          refine jb_seg 1 (pc' := 24) (ls' := [some (.ref 4), some (.int x1)]) (st' := [(.int 0)]) (σ' := (zE L, M, N)) (G := []) rfl trivial ?_
          obtain rfl := Option.some.inj h
          obtain ⟨rfl, rfl⟩ := hK
          exact jb_retz (by decide) rfl rfl
      · replace h := (if_neg c).symm.trans h
        refine jb_seg 1 (pc' := 24) (ls' := [some (.ref 4), some (.int x1)]) (st' := [(.int 0)]) (σ' := (zE L, M, N)) (G := []) rfl trivial ?_
        obtain rfl := Option.some.inj h
        obtain ⟨rfl, rfl⟩ := hK
        exact jb_retz (by decide) rfl rfl
  · unfold zf_3 at h
    refine jb_seg 2 (pc' := (if x1 < 0 then 23 else 4)) (ls' := [some (.ref 24), some (.int x1)]) (st' := []) (σ' := (zE L, M, N)) (G := []) rfl trivial ?_
    refine jb_ite (fun c => ?_) (fun c => ?_)
    · replace h := (if_pos c).symm.trans h
      refine jb_seg 1 (pc' := 24) (ls' := [some (.ref 24), some (.int x1)]) (st' := [(.int 0)]) (σ' := (zE L, M, N)) (G := []) rfl trivial ?_
      obtain rfl := Option.some.inj h
      obtain ⟨rfl, rfl⟩ := hK
      exact jb_retz (by decide) rfl rfl
    · replace h := (if_neg c).symm.trans h
      refine jb_seg 3 (pc' := (if x1 < 24 then 10 else 23)) (ls' := [some (.ref 24), some (.int x1)]) (st' := []) (σ' := (zE L, M, N)) (G := []) rfl trivial ?_
      refine jb_ite (fun c => ?_) (fun c => ?_)
      · replace h := (if_pos c).symm.trans h
        obtain ⟨g1, h⟩ := jb_gd_of h
        refine jb_seg 5 (pc' := (if 0 < (M (24 + 7) x1.toNatClampNeg) then 19 else 23)) (ls' := [some (.ref 24), some (.int x1)]) (st' := []) (σ' := (zE L, M, N)) (G := [vp_in x1 24]) rfl g1 ?_
        refine jb_ite (fun c => ?_) (fun c => ?_)
        · replace h := (if_pos c).symm.trans h
          refine jb_seg 2 (pc' := 24) (ls' := [some (.ref 24), some (.int x1)]) (st' := [(.int 1)]) (σ' := (zE L, M, N)) (G := []) rfl trivial ?_
          obtain rfl := Option.some.inj h
          obtain ⟨rfl, rfl⟩ := hK
          exact jb_retz (by decide) rfl rfl
        · replace h := (if_neg c).symm.trans h
          refine jb_seg 1 (pc' := 24) (ls' := [some (.ref 24), some (.int x1)]) (st' := [(.int 0)]) (σ' := (zE L, M, N)) (G := []) rfl trivial ?_
          obtain rfl := Option.some.inj h
          obtain ⟨rfl, rfl⟩ := hK
          exact jb_retz (by decide) rfl rfl
      · replace h := (if_neg c).symm.trans h
        refine jb_seg 1 (pc' := 24) (ls' := [some (.ref 24), some (.int x1)]) (st' := [(.int 0)]) (σ' := (zE L, M, N)) (G := []) rfl trivial ?_
        obtain rfl := Option.some.inj h
        obtain ⟨rfl, rfl⟩ := hK
        exact jb_retz (by decide) rfl rfl
theorem ze_3 {Γ : jb_G} {L : Nat} {d : Nat} (o : Nat) (x1 : Int32) (M : jb_Mi) (N : jb_Ml) (hp : o = 4 ∨ o = 24) {r : (Bool)} (h : zf_3 o x1 M = some r) : jb_V Γ d zq_3 0 (jb_en 2 [(.ref o), (.int x1)]) [] (zE L, M, N) (some (.int (jb_b2i r))) (zE L, M, N) := zg_3 o x1 M N hp h ⟨rfl, rfl⟩
-- X9_isIn
set_option maxRecDepth 20000 in
theorem zg_4 {Γ : jb_G} {L : Nat} {d : Nat} (hd : 1 ≤ d) (o : Nat) (x1 : Int32) (x2 : Int32) (M : jb_Mi) (N : jb_Ml) (hp : o = 4 ∨ o = 24) {v : Option Value} {σ2 : jb_S} {r : (Bool)} (h : zf_4 o x1 x2 M = some r) (hK : (fun r : Bool => v = some (.int (jb_b2i r)) ∧ σ2 = (zE L, M, N)) r) : jb_V Γ d zq_4 0 [some (.ref o), some (.int x1), some (.int x2)] [] (zE L, M, N) v σ2 := by
  rcases hp with rfl | rfl
  · obtain ⟨d, rfl⟩ : ∃ e, d = e + 1 := ⟨d - 1, by omega⟩
    unfold zf_4 at h
    refine jb_seg 2 (pc' := 2) (ls' := [some (.ref 4), some (.int x1), some (.int x2)]) (st' := [(.int x1), (.ref 4)]) (σ' := (zE L, M, N)) (G := []) rfl trivial ?_
    obtain ⟨q1, h1, h⟩ := jb_bd_of h
    refine jb_callV (q' := zq_3) (As := [(.int x1)]) (rest := []) (σ1 := (zE L, M, N)) (v := some (.int (jb_b2i q1))) rfl rfl zp_3 rfl (Nat.le_of_ble_eq_true rfl) (jb_cat rfl) (Nat.le_of_ble_eq_true rfl) (Nat.le_of_ble_eq_true rfl) (Or.inl rfl) rfl (ze_3 4 x1 M N (by decide) h1) ?_
    refine jb_seg 1 (pc' := (if (jb_b2i q1) = 0 then 22 else 8)) (ls' := [some (.ref 4), some (.int x1), some (.int x2)]) (st' := []) (σ' := (zE L, M, N)) (G := []) rfl trivial ?_
    refine jb_ite (fun c => ?_) (fun c => ?_)
    · replace h := (if_pos c).symm.trans h
      refine jb_seg 1 (pc' := 23) (ls' := [some (.ref 4), some (.int x1), some (.int x2)]) (st' := [(.int 0)]) (σ' := (zE L, M, N)) (G := []) rfl trivial ?_
      obtain rfl := Option.some.inj h
      obtain ⟨rfl, rfl⟩ := hK
      exact jb_retz (by decide) rfl rfl
    · replace h := (if_neg c).symm.trans h
      obtain ⟨g2, h⟩ := jb_gd_of h
      refine jb_seg 6 (pc' := (if (M (4 + 4) x1.toNatClampNeg) = x2 then 18 else 22)) (ls' := [some (.ref 4), some (.int x1), some (.int x2)]) (st' := []) (σ' := (zE L, M, N)) (G := [vp_in x1 24]) rfl g2 ?_
      refine jb_ite (fun c => ?_) (fun c => ?_)
      · replace h := (if_pos c).symm.trans h
        refine jb_seg 2 (pc' := 23) (ls' := [some (.ref 4), some (.int x1), some (.int x2)]) (st' := [(.int 1)]) (σ' := (zE L, M, N)) (G := []) rfl trivial ?_
        obtain rfl := Option.some.inj h
        obtain ⟨rfl, rfl⟩ := hK
        exact jb_retz (by decide) rfl rfl
      · replace h := (if_neg c).symm.trans h
        refine jb_seg 1 (pc' := 23) (ls' := [some (.ref 4), some (.int x1), some (.int x2)]) (st' := [(.int 0)]) (σ' := (zE L, M, N)) (G := []) rfl trivial ?_
        obtain rfl := Option.some.inj h
        obtain ⟨rfl, rfl⟩ := hK
        exact jb_retz (by decide) rfl rfl
  · obtain ⟨d, rfl⟩ : ∃ e, d = e + 1 := ⟨d - 1, by omega⟩
    unfold zf_4 at h
    refine jb_seg 2 (pc' := 2) (ls' := [some (.ref 24), some (.int x1), some (.int x2)]) (st' := [(.int x1), (.ref 24)]) (σ' := (zE L, M, N)) (G := []) rfl trivial ?_
    obtain ⟨q1, h1, h⟩ := jb_bd_of h
    refine jb_callV (q' := zq_3) (As := [(.int x1)]) (rest := []) (σ1 := (zE L, M, N)) (v := some (.int (jb_b2i q1))) rfl rfl zp_3 rfl (Nat.le_of_ble_eq_true rfl) (jb_cat rfl) (Nat.le_of_ble_eq_true rfl) (Nat.le_of_ble_eq_true rfl) (Or.inl rfl) rfl (ze_3 24 x1 M N (by decide) h1) ?_
    refine jb_seg 1 (pc' := (if (jb_b2i q1) = 0 then 22 else 8)) (ls' := [some (.ref 24), some (.int x1), some (.int x2)]) (st' := []) (σ' := (zE L, M, N)) (G := []) rfl trivial ?_
    refine jb_ite (fun c => ?_) (fun c => ?_)
    · replace h := (if_pos c).symm.trans h
      refine jb_seg 1 (pc' := 23) (ls' := [some (.ref 24), some (.int x1), some (.int x2)]) (st' := [(.int 0)]) (σ' := (zE L, M, N)) (G := []) rfl trivial ?_
      obtain rfl := Option.some.inj h
      obtain ⟨rfl, rfl⟩ := hK
      exact jb_retz (by decide) rfl rfl
    · replace h := (if_neg c).symm.trans h
      obtain ⟨g2, h⟩ := jb_gd_of h
      refine jb_seg 6 (pc' := (if (M (24 + 4) x1.toNatClampNeg) = x2 then 18 else 22)) (ls' := [some (.ref 24), some (.int x1), some (.int x2)]) (st' := []) (σ' := (zE L, M, N)) (G := [vp_in x1 24]) rfl g2 ?_
      refine jb_ite (fun c => ?_) (fun c => ?_)
      · replace h := (if_pos c).symm.trans h
        refine jb_seg 2 (pc' := 23) (ls' := [some (.ref 24), some (.int x1), some (.int x2)]) (st' := [(.int 1)]) (σ' := (zE L, M, N)) (G := []) rfl trivial ?_
        obtain rfl := Option.some.inj h
        obtain ⟨rfl, rfl⟩ := hK
        exact jb_retz (by decide) rfl rfl
      · replace h := (if_neg c).symm.trans h
        refine jb_seg 1 (pc' := 23) (ls' := [some (.ref 24), some (.int x1), some (.int x2)]) (st' := [(.int 0)]) (σ' := (zE L, M, N)) (G := []) rfl trivial ?_
        obtain rfl := Option.some.inj h
        obtain ⟨rfl, rfl⟩ := hK
        exact jb_retz (by decide) rfl rfl
theorem ze_4 {Γ : jb_G} {L : Nat} {d : Nat} (hd : 1 ≤ d) (o : Nat) (x1 : Int32) (x2 : Int32) (M : jb_Mi) (N : jb_Ml) (hp : o = 4 ∨ o = 24) {r : (Bool)} (h : zf_4 o x1 x2 M = some r) : jb_V Γ d zq_4 0 (jb_en 3 [(.ref o), (.int x1), (.int x2)]) [] (zE L, M, N) (some (.int (jb_b2i r))) (zE L, M, N) := zg_4 hd o x1 x2 M N hp h ⟨rfl, rfl⟩
-- X9_portion
set_option maxRecDepth 20000 in
theorem zg_5_J14 {Γ : jb_G} {L : Nat} {d : Nat} (x1 : Int32) (x2 : Int32) (s0 : Int32) (M : jb_Mi) (N : jb_Ml) {v : Option Value} {σ2 : jb_S} {r : Int32} (h : zf_5_J14 x1 x2 s0 = r) (hK : (fun r : Int32 => v = some (.int r) ∧ σ2 = (zE L, M, N)) r) : jb_V Γ d zq_5 14 [none, some (.int x1), some (.int x2), none, none] [(.int s0)] (zE L, M, N) v σ2 := by
  unfold zf_5_J14 at h
  refine jb_seg 4 (pc' := (if x2 < 2 then 20 else 27)) (ls' := [none, some (.int x1), some (.int x2), some (.int s0), none]) (st' := []) (σ' := (zE L, M, N)) (G := []) rfl trivial ?_
  refine jb_ite (fun c => ?_) (fun c => ?_)
  · replace h := (if_pos c).symm.trans h
    refine jb_seg 8 (pc' := 34) (ls' := [none, some (.int x1), some (.int x2), some (.int s0), some (.int (8 - x1))]) (st' := [(.int (s0 * (8 - x1)))]) (σ' := (zE L, M, N)) (G := []) rfl trivial ?_
    subst h
    obtain ⟨rfl, rfl⟩ := hK
    exact jb_reti rfl rfl
  · replace h := (if_neg c).symm.trans h
    refine jb_seg 5 (pc' := 34) (ls' := [none, some (.int x1), some (.int x2), some (.int s0), some (.int x1)]) (st' := [(.int (s0 * x1))]) (σ' := (zE L, M, N)) (G := []) rfl trivial ?_
    subst h
    obtain ⟨rfl, rfl⟩ := hK
    exact jb_reti rfl rfl
set_option maxRecDepth 20000 in
theorem zg_5 {Γ : jb_G} {L : Nat} {d : Nat} (x0 : Int32) (x1 : Int32) (x2 : Int32) (M : jb_Mi) (N : jb_Ml) {v : Option Value} {σ2 : jb_S} {r : Int32} (h : zf_5 x0 x1 x2 = r) (hK : (fun r : Int32 => v = some (.int r) ∧ σ2 = (zE L, M, N)) r) : jb_V Γ d zq_5 0 [some (.int x0), some (.int x1), some (.int x2), none, none] [] (zE L, M, N) v σ2 := by
  unfold zf_5 at h
  refine jb_seg 4 (pc' := (if (x2 - x2 / 2 * 2) = 0 then 6 else 13)) (ls' := [some (.int x0), some (.int x1), some (.int x2), none, none]) (st' := []) (σ' := (zE L, M, N)) (G := [¬ (2 : Int32) = 0]) rfl (show ¬ (2 : Int32) = 0 from (by decide)) ?_
  refine jb_ite (fun c => ?_) (fun c => ?_)
  · replace h := (if_pos c).symm.trans h
    refine jb_seg 4 (pc' := 14) (ls' := [some (.int x0), some (.int x1), some (.int x2), none, none]) (st' := [(.int (8 - x0))]) (σ' := (zE L, M, N)) (G := []) rfl trivial ?_
    exact jb_mask [false, true, true, false, false] rfl (zg_5_J14 x1 x2 (8 - x0) M N h hK)
  · replace h := (if_neg c).symm.trans h
    refine jb_seg 1 (pc' := 14) (ls' := [some (.int x0), some (.int x1), some (.int x2), none, none]) (st' := [(.int x0)]) (σ' := (zE L, M, N)) (G := []) rfl trivial ?_
    exact jb_mask [false, true, true, false, false] rfl (zg_5_J14 x1 x2 x0 M N h hK)
theorem ze_5 {Γ : jb_G} {L : Nat} {d : Nat} (x0 : Int32) (x1 : Int32) (x2 : Int32) (M : jb_Mi) (N : jb_Ml) {r : Int32} (h : zf_5 x0 x1 x2 = r) : jb_V Γ d zq_5 0 (jb_en 5 [(.int x0), (.int x1), (.int x2)]) [] (zE L, M, N) (some (.int r)) (zE L, M, N) := zg_5 x0 x1 x2 M N h ⟨rfl, rfl⟩
-- X9_loadBy
set_option maxRecDepth 20000 in
theorem zg_6 {Γ : jb_G} {L : Nat} {d : Nat} (hd : 1 ≤ d) (o : Nat) (x1 : Int32) (x2 : Int32) (M : jb_Mi) (N : jb_Ml) (hp : o = 4 ∨ o = 24) {v : Option Value} {σ2 : jb_S} {r : (Int32)} (h : zf_6 o x1 x2 M = some r) (hK : (fun r : Int32 => v = some (.int r) ∧ σ2 = (zE L, M, N)) r) : jb_V Γ d zq_6 0 [some (.ref o), some (.int x1), some (.int x2)] [] (zE L, M, N) v σ2 := by
  rcases hp with rfl | rfl
  · obtain ⟨d, rfl⟩ : ∃ e, d = e + 1 := ⟨d - 1, by omega⟩
    unfold zf_6 at h
    refine jb_seg 2 (pc' := 2) (ls' := [some (.ref 4), some (.int x1), some (.int x2)]) (st' := [(.int x1), (.ref 4)]) (σ' := (zE L, M, N)) (G := []) rfl trivial ?_
    obtain ⟨q1, h1, h⟩ := jb_bd_of h
    refine jb_callV (q' := zq_3) (As := [(.int x1)]) (rest := []) (σ1 := (zE L, M, N)) (v := some (.int (jb_b2i q1))) rfl rfl zp_3 rfl (Nat.le_of_ble_eq_true rfl) (jb_cat rfl) (Nat.le_of_ble_eq_true rfl) (Nat.le_of_ble_eq_true rfl) (Or.inl rfl) rfl (ze_3 4 x1 M N (by decide) h1) ?_
    refine jb_seg 1 (pc' := (if (jb_b2i q1) = 0 then 34 else 8)) (ls' := [some (.ref 4), some (.int x1), some (.int x2)]) (st' := []) (σ' := (zE L, M, N)) (G := []) rfl trivial ?_
    refine jb_ite (fun c => ?_) (fun c => ?_)
    · replace h := (if_pos c).symm.trans h
      refine jb_seg 1 (pc' := 35) (ls' := [some (.ref 4), some (.int x1), some (.int x2)]) (st' := [(.int 0)]) (σ' := (zE L, M, N)) (G := []) rfl trivial ?_
      obtain rfl := Option.some.inj h
      obtain ⟨rfl, rfl⟩ := hK
      exact jb_reti rfl rfl
    · replace h := (if_neg c).symm.trans h
      obtain ⟨g2, h⟩ := jb_gd_of h
      obtain ⟨g3, h⟩ := jb_gd_of h
      obtain ⟨g4, h⟩ := jb_gd_of h
      refine jb_seg 13 (pc' := 27) (ls' := [some (.ref 4), some (.int x1), some (.int x2)]) (st' := [(.int x2), (.int (M (4 + 6) x1.toNatClampNeg)), (.int (M (4 + 5) x1.toNatClampNeg)), (.int (M (4 + 7) x1.toNatClampNeg))]) (σ' := (zE L, M, N)) (G := [vp_in x1 24, vp_in x1 24, vp_in x1 24]) rfl ⟨g2, g3, g4⟩ ?_
      refine jb_callS (q' := zq_5) (As := [(.int (M (4 + 5) x1.toNatClampNeg)), (.int (M (4 + 6) x1.toNatClampNeg)), (.int x2)]) (rest := [(.int (M (4 + 7) x1.toNatClampNeg))]) (σ1 := (zE L, M, N)) (v := some (.int (zf_5 (M (4 + 5) x1.toNatClampNeg) (M (4 + 6) x1.toNatClampNeg) x2))) rfl (Nat.le_of_ble_eq_true rfl) rfl zp_5 (jb_cat rfl) (Nat.le_of_ble_eq_true rfl) (Nat.le_of_ble_eq_true rfl) (Or.inl rfl) rfl (ze_5 (M (4 + 5) x1.toNatClampNeg) (M (4 + 6) x1.toNatClampNeg) x2 M N rfl) ?_
      refine jb_seg 2 (pc' := 35) (ls' := [some (.ref 4), some (.int x1), some (.int x2)]) (st' := [(.int ((M (4 + 7) x1.toNatClampNeg) * (zf_5 (M (4 + 5) x1.toNatClampNeg) (M (4 + 6) x1.toNatClampNeg) x2)))]) (σ' := (zE L, M, N)) (G := []) rfl trivial ?_
      obtain rfl := Option.some.inj h
      obtain ⟨rfl, rfl⟩ := hK
      exact jb_reti rfl rfl
  · obtain ⟨d, rfl⟩ : ∃ e, d = e + 1 := ⟨d - 1, by omega⟩
    unfold zf_6 at h
    refine jb_seg 2 (pc' := 2) (ls' := [some (.ref 24), some (.int x1), some (.int x2)]) (st' := [(.int x1), (.ref 24)]) (σ' := (zE L, M, N)) (G := []) rfl trivial ?_
    obtain ⟨q1, h1, h⟩ := jb_bd_of h
    refine jb_callV (q' := zq_3) (As := [(.int x1)]) (rest := []) (σ1 := (zE L, M, N)) (v := some (.int (jb_b2i q1))) rfl rfl zp_3 rfl (Nat.le_of_ble_eq_true rfl) (jb_cat rfl) (Nat.le_of_ble_eq_true rfl) (Nat.le_of_ble_eq_true rfl) (Or.inl rfl) rfl (ze_3 24 x1 M N (by decide) h1) ?_
    refine jb_seg 1 (pc' := (if (jb_b2i q1) = 0 then 34 else 8)) (ls' := [some (.ref 24), some (.int x1), some (.int x2)]) (st' := []) (σ' := (zE L, M, N)) (G := []) rfl trivial ?_
    refine jb_ite (fun c => ?_) (fun c => ?_)
    · replace h := (if_pos c).symm.trans h
      refine jb_seg 1 (pc' := 35) (ls' := [some (.ref 24), some (.int x1), some (.int x2)]) (st' := [(.int 0)]) (σ' := (zE L, M, N)) (G := []) rfl trivial ?_
      obtain rfl := Option.some.inj h
      obtain ⟨rfl, rfl⟩ := hK
      exact jb_reti rfl rfl
    · replace h := (if_neg c).symm.trans h
      obtain ⟨g2, h⟩ := jb_gd_of h
      obtain ⟨g3, h⟩ := jb_gd_of h
      obtain ⟨g4, h⟩ := jb_gd_of h
      refine jb_seg 13 (pc' := 27) (ls' := [some (.ref 24), some (.int x1), some (.int x2)]) (st' := [(.int x2), (.int (M (24 + 6) x1.toNatClampNeg)), (.int (M (24 + 5) x1.toNatClampNeg)), (.int (M (24 + 7) x1.toNatClampNeg))]) (σ' := (zE L, M, N)) (G := [vp_in x1 24, vp_in x1 24, vp_in x1 24]) rfl ⟨g2, g3, g4⟩ ?_
      refine jb_callS (q' := zq_5) (As := [(.int (M (24 + 5) x1.toNatClampNeg)), (.int (M (24 + 6) x1.toNatClampNeg)), (.int x2)]) (rest := [(.int (M (24 + 7) x1.toNatClampNeg))]) (σ1 := (zE L, M, N)) (v := some (.int (zf_5 (M (24 + 5) x1.toNatClampNeg) (M (24 + 6) x1.toNatClampNeg) x2))) rfl (Nat.le_of_ble_eq_true rfl) rfl zp_5 (jb_cat rfl) (Nat.le_of_ble_eq_true rfl) (Nat.le_of_ble_eq_true rfl) (Or.inl rfl) rfl (ze_5 (M (24 + 5) x1.toNatClampNeg) (M (24 + 6) x1.toNatClampNeg) x2 M N rfl) ?_
      refine jb_seg 2 (pc' := 35) (ls' := [some (.ref 24), some (.int x1), some (.int x2)]) (st' := [(.int ((M (24 + 7) x1.toNatClampNeg) * (zf_5 (M (24 + 5) x1.toNatClampNeg) (M (24 + 6) x1.toNatClampNeg) x2)))]) (σ' := (zE L, M, N)) (G := []) rfl trivial ?_
      obtain rfl := Option.some.inj h
      obtain ⟨rfl, rfl⟩ := hK
      exact jb_reti rfl rfl
theorem ze_6 {Γ : jb_G} {L : Nat} {d : Nat} (hd : 1 ≤ d) (o : Nat) (x1 : Int32) (x2 : Int32) (M : jb_Mi) (N : jb_Ml) (hp : o = 4 ∨ o = 24) {r : (Int32)} (h : zf_6 o x1 x2 M = some r) : jb_V Γ d zq_6 0 (jb_en 3 [(.ref o), (.int x1), (.int x2)]) [] (zE L, M, N) (some (.int r)) (zE L, M, N) := zg_6 hd o x1 x2 M N hp h ⟨rfl, rfl⟩
-- X9_loadOf
set_option maxRecDepth 20000 in
theorem zg_7_J53 {Γ : jb_G} {L : Nat} {d : Nat} (hd : 2 ≤ d) (o : Nat) (x1 : Int32) (x2 : Int32) (x4 : Int32) (s0 : Int32) (s1 : Int32) (M : jb_Mi) (N : jb_Ml) (hp : o = 4 ∨ o = 24) {v : Option Value} {σ2 : jb_S} {r : ((Int32 × Int32) ⊕ (Int32))} (h : zf_7_J53 o x1 x2 x4 s0 s1 M = some r) (hK : (jb_K (fun s : Int32 × Int32 => jb_V Γ d zq_7 24 [some (.ref o), some (.int x1), some (.int x2), some (.int s.1), some (.int s.2)] [] (zE L, M, N) v σ2) (fun r : Int32 => v = some (.int r) ∧ σ2 = (zE L, M, N))) r) : jb_V Γ d zq_7 53 [some (.ref o), some (.int x1), some (.int x2), none, some (.int x4)] [(.int s1), (.int s0)] (zE L, M, N) v σ2 := by
  rcases hp with rfl | rfl
  · obtain ⟨d, rfl⟩ : ∃ e, d = e + 1 := ⟨d - 1, by omega⟩
    unfold zf_7_J53 at h
    refine jb_seg 4 (pc' := 24) (ls' := [some (.ref 4), some (.int x1), some (.int x2), some (.int (s0 + s1)), some (.int (x4 + 1))]) (st' := []) (σ' := (zE L, M, N)) (G := []) rfl trivial ?_
    obtain rfl := Option.some.inj h
    exact jb_mask [true, true, true, true, true] rfl hK
  · obtain ⟨d, rfl⟩ : ∃ e, d = e + 1 := ⟨d - 1, by omega⟩
    unfold zf_7_J53 at h
    refine jb_seg 4 (pc' := 24) (ls' := [some (.ref 24), some (.int x1), some (.int x2), some (.int (s0 + s1)), some (.int (x4 + 1))]) (st' := []) (σ' := (zE L, M, N)) (G := []) rfl trivial ?_
    obtain rfl := Option.some.inj h
    exact jb_mask [true, true, true, true, true] rfl hK
set_option maxRecDepth 20000 in
theorem zg_7_H24 {Γ : jb_G} {L : Nat} {d : Nat} (hd : 2 ≤ d) (o : Nat) (x1 : Int32) (x2 : Int32) (M : jb_Mi) (N : jb_Ml) (s : Int32 × Int32) (hp : o = 4 ∨ o = 24) {v : Option Value} {σ2 : jb_S} {r : ((Int32 × Int32) ⊕ (Int32))} (h : zf_7_H24 o x1 x2 M s = some r) (hK : (jb_K (fun s : Int32 × Int32 => jb_V Γ d zq_7 24 [some (.ref o), some (.int x1), some (.int x2), some (.int s.1), some (.int s.2)] [] (zE L, M, N) v σ2) (fun r : Int32 => v = some (.int r) ∧ σ2 = (zE L, M, N))) r) : jb_V Γ d zq_7 24 [some (.ref o), some (.int x1), some (.int x2), some (.int s.1), some (.int s.2)] [] (zE L, M, N) v σ2 := by
  rcases hp with rfl | rfl
  · obtain ⟨d, rfl⟩ : ∃ e, d = e + 1 := ⟨d - 1, by omega⟩
    unfold zf_7_H24 at h
    refine jb_seg 3 (pc' := (if s.2 < 24 then 31 else 61)) (ls' := [some (.ref 4), some (.int x1), some (.int x2), some (.int s.1), some (.int s.2)]) (st' := []) (σ' := (zE L, M, N)) (G := []) rfl trivial ?_
    refine jb_ite (fun c => ?_) (fun c => ?_)
    · replace h := (if_pos c).symm.trans h
      refine jb_seg 4 (pc' := 36) (ls' := [some (.ref 4), some (.int x1), some (.int x2), some (.int s.1), some (.int s.2)]) (st' := [(.int x1), (.int s.2), (.ref 4), (.int s.1)]) (σ' := (zE L, M, N)) (G := []) rfl trivial ?_
      obtain ⟨q3, h3, h⟩ := jb_bd_of h
      refine jb_callV (q' := zq_4) (As := [(.int s.2), (.int x1)]) (rest := [(.int s.1)]) (σ1 := (zE L, M, N)) (v := some (.int (jb_b2i q3))) rfl rfl zp_4 rfl (Nat.le_of_ble_eq_true rfl) (jb_cat rfl) (Nat.le_of_ble_eq_true rfl) (Nat.le_of_ble_eq_true rfl) (Or.inl rfl) rfl (ze_4 (by omega) 4 s.2 x1 M N (by decide) h3) ?_
      refine jb_seg 1 (pc' := (if (jb_b2i q3) = 0 then 52 else 42)) (ls' := [some (.ref 4), some (.int x1), some (.int x2), some (.int s.1), some (.int s.2)]) (st' := [(.int s.1)]) (σ' := (zE L, M, N)) (G := []) rfl trivial ?_
      refine jb_ite (fun c => ?_) (fun c => ?_)
      · replace h := (if_pos c).symm.trans h
        refine jb_seg 1 (pc' := 53) (ls' := [some (.ref 4), some (.int x1), some (.int x2), some (.int s.1), some (.int s.2)]) (st' := [(.int 0), (.int s.1)]) (σ' := (zE L, M, N)) (G := []) rfl trivial ?_
        exact jb_mask [true, true, true, false, true] rfl (zg_7_J53 hd 4 x1 x2 s.2 s.1 0 M N (by decide) h hK)
      · replace h := (if_neg c).symm.trans h
        refine jb_seg 3 (pc' := 46) (ls' := [some (.ref 4), some (.int x1), some (.int x2), some (.int s.1), some (.int s.2)]) (st' := [(.int x2), (.int s.2), (.ref 4), (.int s.1)]) (σ' := (zE L, M, N)) (G := []) rfl trivial ?_
        obtain ⟨q4, h4, h⟩ := jb_bd_of h
        refine jb_callV (q' := zq_6) (As := [(.int s.2), (.int x2)]) (rest := [(.int s.1)]) (σ1 := (zE L, M, N)) (v := some (.int q4)) rfl rfl zp_6 rfl (Nat.le_of_ble_eq_true rfl) (jb_cat rfl) (Nat.le_of_ble_eq_true rfl) (Nat.le_of_ble_eq_true rfl) (Or.inl rfl) rfl (ze_6 (by omega) 4 s.2 x2 M N (by decide) h4) ?_
        refine jb_seg 1 (pc' := 53) (ls' := [some (.ref 4), some (.int x1), some (.int x2), some (.int s.1), some (.int s.2)]) (st' := [(.int q4), (.int s.1)]) (σ' := (zE L, M, N)) (G := []) rfl trivial ?_
        exact jb_mask [true, true, true, false, true] rfl (zg_7_J53 hd 4 x1 x2 s.2 s.1 q4 M N (by decide) h hK)
    · replace h := (if_neg c).symm.trans h
      refine jb_seg 1 (pc' := 62) (ls' := [some (.ref 4), some (.int x1), some (.int x2), some (.int s.1), some (.int s.2)]) (st' := [(.int s.1)]) (σ' := (zE L, M, N)) (G := []) rfl trivial ?_
      obtain rfl := Option.some.inj h
      obtain ⟨rfl, rfl⟩ := hK
      exact jb_reti rfl rfl
  · obtain ⟨d, rfl⟩ : ∃ e, d = e + 1 := ⟨d - 1, by omega⟩
    unfold zf_7_H24 at h
    refine jb_seg 3 (pc' := (if s.2 < 24 then 31 else 61)) (ls' := [some (.ref 24), some (.int x1), some (.int x2), some (.int s.1), some (.int s.2)]) (st' := []) (σ' := (zE L, M, N)) (G := []) rfl trivial ?_
    refine jb_ite (fun c => ?_) (fun c => ?_)
    · replace h := (if_pos c).symm.trans h
      refine jb_seg 4 (pc' := 36) (ls' := [some (.ref 24), some (.int x1), some (.int x2), some (.int s.1), some (.int s.2)]) (st' := [(.int x1), (.int s.2), (.ref 24), (.int s.1)]) (σ' := (zE L, M, N)) (G := []) rfl trivial ?_
      obtain ⟨q3, h3, h⟩ := jb_bd_of h
      refine jb_callV (q' := zq_4) (As := [(.int s.2), (.int x1)]) (rest := [(.int s.1)]) (σ1 := (zE L, M, N)) (v := some (.int (jb_b2i q3))) rfl rfl zp_4 rfl (Nat.le_of_ble_eq_true rfl) (jb_cat rfl) (Nat.le_of_ble_eq_true rfl) (Nat.le_of_ble_eq_true rfl) (Or.inl rfl) rfl (ze_4 (by omega) 24 s.2 x1 M N (by decide) h3) ?_
      refine jb_seg 1 (pc' := (if (jb_b2i q3) = 0 then 52 else 42)) (ls' := [some (.ref 24), some (.int x1), some (.int x2), some (.int s.1), some (.int s.2)]) (st' := [(.int s.1)]) (σ' := (zE L, M, N)) (G := []) rfl trivial ?_
      refine jb_ite (fun c => ?_) (fun c => ?_)
      · replace h := (if_pos c).symm.trans h
        refine jb_seg 1 (pc' := 53) (ls' := [some (.ref 24), some (.int x1), some (.int x2), some (.int s.1), some (.int s.2)]) (st' := [(.int 0), (.int s.1)]) (σ' := (zE L, M, N)) (G := []) rfl trivial ?_
        exact jb_mask [true, true, true, false, true] rfl (zg_7_J53 hd 24 x1 x2 s.2 s.1 0 M N (by decide) h hK)
      · replace h := (if_neg c).symm.trans h
        refine jb_seg 3 (pc' := 46) (ls' := [some (.ref 24), some (.int x1), some (.int x2), some (.int s.1), some (.int s.2)]) (st' := [(.int x2), (.int s.2), (.ref 24), (.int s.1)]) (σ' := (zE L, M, N)) (G := []) rfl trivial ?_
        obtain ⟨q4, h4, h⟩ := jb_bd_of h
        refine jb_callV (q' := zq_6) (As := [(.int s.2), (.int x2)]) (rest := [(.int s.1)]) (σ1 := (zE L, M, N)) (v := some (.int q4)) rfl rfl zp_6 rfl (Nat.le_of_ble_eq_true rfl) (jb_cat rfl) (Nat.le_of_ble_eq_true rfl) (Nat.le_of_ble_eq_true rfl) (Or.inl rfl) rfl (ze_6 (by omega) 24 s.2 x2 M N (by decide) h4) ?_
        refine jb_seg 1 (pc' := 53) (ls' := [some (.ref 24), some (.int x1), some (.int x2), some (.int s.1), some (.int s.2)]) (st' := [(.int q4), (.int s.1)]) (σ' := (zE L, M, N)) (G := []) rfl trivial ?_
        exact jb_mask [true, true, true, false, true] rfl (zg_7_J53 hd 24 x1 x2 s.2 s.1 q4 M N (by decide) h hK)
    · replace h := (if_neg c).symm.trans h
      refine jb_seg 1 (pc' := 62) (ls' := [some (.ref 24), some (.int x1), some (.int x2), some (.int s.1), some (.int s.2)]) (st' := [(.int s.1)]) (σ' := (zE L, M, N)) (G := []) rfl trivial ?_
      obtain rfl := Option.some.inj h
      obtain ⟨rfl, rfl⟩ := hK
      exact jb_reti rfl rfl
theorem zg_7_H24L {Γ : jb_G} {L : Nat} {d : Nat} (hd : 2 ≤ d) (o : Nat) (x1 : Int32) (x2 : Int32) (M : jb_Mi) (N : jb_Ml) (hp : o = 4 ∨ o = 24) {v : Option Value} {σ2 : jb_S} {s : Int32 × Int32} {r : (Int32)} (h : jb_lp (zf_7_H24 o x1 x2 M) s = some r) (hK : (fun r : Int32 => v = some (.int r) ∧ σ2 = (zE L, M, N)) r) : jb_V Γ d zq_7 24 [some (.ref o), some (.int x1), some (.int x2), some (.int s.1), some (.int s.2)] [] (zE L, M, N) v σ2 := by
  exact @jb_lp_ind (Int32 × Int32) ((Int32)) (zf_7_H24 o x1 x2 M) (fun s => jb_V Γ d zq_7 24 [some (.ref o), some (.int x1), some (.int x2), some (.int s.1), some (.int s.2)] [] (zE L, M, N) v σ2) (fun r : Int32 => v = some (.int r) ∧ σ2 = (zE L, M, N)) (fun s r h hk => zg_7_H24 hd o x1 x2 M N s hp h hk) s r h hK
set_option maxRecDepth 20000 in
theorem zg_7 {Γ : jb_G} {L : Nat} {d : Nat} (hd : 2 ≤ d) (o : Nat) (x1 : Int32) (x2 : Int32) (M : jb_Mi) (N : jb_Ml) (hp : o = 4 ∨ o = 24) {v : Option Value} {σ2 : jb_S} {r : (Int32)} (h : zf_7 o x1 x2 M = some r) (hK : (fun r : Int32 => v = some (.int r) ∧ σ2 = (zE L, M, N)) r) : jb_V Γ d zq_7 0 [some (.ref o), some (.int x1), some (.int x2), none, none] [] (zE L, M, N) v σ2 := by
  rcases hp with rfl | rfl
  · obtain ⟨d, rfl⟩ : ∃ e, d = e + 1 := ⟨d - 1, by omega⟩
    unfold zf_7 at h
    refine jb_seg 2 (pc' := 2) (ls' := [some (.ref 4), some (.int x1), some (.int x2), none, none]) (st' := [(.int x1), (.ref 4)]) (σ' := (zE L, M, N)) (G := []) rfl trivial ?_
    obtain ⟨q1, h1, h⟩ := jb_bd_of h
    refine jb_callV (q' := zq_2) (As := [(.int x1)]) (rest := []) (σ1 := (zE L, M, N)) (v := some (.int (jb_b2i q1))) rfl rfl zp_2 rfl (Nat.le_of_ble_eq_true rfl) (jb_cat rfl) (Nat.le_of_ble_eq_true rfl) (Nat.le_of_ble_eq_true rfl) (Or.inl rfl) rfl (ze_2 4 x1 M N (by decide) h1) ?_
    refine jb_seg 1 (pc' := (if (jb_b2i q1) = 0 then 8 else 10)) (ls' := [some (.ref 4), some (.int x1), some (.int x2), none, none]) (st' := []) (σ' := (zE L, M, N)) (G := []) rfl trivial ?_
    refine jb_ite (fun c => ?_) (fun c => ?_)
    · replace h := (if_pos c).symm.trans h
      refine jb_seg 1 (pc' := 9) (ls' := [some (.ref 4), some (.int x1), some (.int x2), none, none]) (st' := [(.int 0)]) (σ' := (zE L, M, N)) (G := []) rfl trivial ?_
      obtain rfl := Option.some.inj h
      obtain ⟨rfl, rfl⟩ := hK
      exact jb_reti rfl rfl
    · replace h := (if_neg c).symm.trans h
      obtain ⟨g2, h⟩ := jb_gd_of h
      refine jb_seg 9 (pc' := 24) (ls' := [some (.ref 4), some (.int x1), some (.int x2), some (.int (640 * (M (4 + 1) x1.toNatClampNeg))), some (.int 0)]) (st' := []) (σ' := (zE L, M, N)) (G := [vp_in x1 6]) rfl g2 ?_
      exact jb_mask [true, true, true, true, true] rfl (zg_7_H24L hd 4 x1 x2 M N (by decide) h hK)
  · obtain ⟨d, rfl⟩ : ∃ e, d = e + 1 := ⟨d - 1, by omega⟩
    unfold zf_7 at h
    refine jb_seg 2 (pc' := 2) (ls' := [some (.ref 24), some (.int x1), some (.int x2), none, none]) (st' := [(.int x1), (.ref 24)]) (σ' := (zE L, M, N)) (G := []) rfl trivial ?_
    obtain ⟨q1, h1, h⟩ := jb_bd_of h
    refine jb_callV (q' := zq_2) (As := [(.int x1)]) (rest := []) (σ1 := (zE L, M, N)) (v := some (.int (jb_b2i q1))) rfl rfl zp_2 rfl (Nat.le_of_ble_eq_true rfl) (jb_cat rfl) (Nat.le_of_ble_eq_true rfl) (Nat.le_of_ble_eq_true rfl) (Or.inl rfl) rfl (ze_2 24 x1 M N (by decide) h1) ?_
    refine jb_seg 1 (pc' := (if (jb_b2i q1) = 0 then 8 else 10)) (ls' := [some (.ref 24), some (.int x1), some (.int x2), none, none]) (st' := []) (σ' := (zE L, M, N)) (G := []) rfl trivial ?_
    refine jb_ite (fun c => ?_) (fun c => ?_)
    · replace h := (if_pos c).symm.trans h
      refine jb_seg 1 (pc' := 9) (ls' := [some (.ref 24), some (.int x1), some (.int x2), none, none]) (st' := [(.int 0)]) (σ' := (zE L, M, N)) (G := []) rfl trivial ?_
      obtain rfl := Option.some.inj h
      obtain ⟨rfl, rfl⟩ := hK
      exact jb_reti rfl rfl
    · replace h := (if_neg c).symm.trans h
      obtain ⟨g2, h⟩ := jb_gd_of h
      refine jb_seg 9 (pc' := 24) (ls' := [some (.ref 24), some (.int x1), some (.int x2), some (.int (640 * (M (24 + 1) x1.toNatClampNeg))), some (.int 0)]) (st' := []) (σ' := (zE L, M, N)) (G := [vp_in x1 6]) rfl g2 ?_
      exact jb_mask [true, true, true, true, true] rfl (zg_7_H24L hd 24 x1 x2 M N (by decide) h hK)
theorem ze_7 {Γ : jb_G} {L : Nat} {d : Nat} (hd : 2 ≤ d) (o : Nat) (x1 : Int32) (x2 : Int32) (M : jb_Mi) (N : jb_Ml) (hp : o = 4 ∨ o = 24) {r : (Int32)} (h : zf_7 o x1 x2 M = some r) : jb_V Γ d zq_7 0 (jb_en 5 [(.ref o), (.int x1), (.int x2)]) [] (zE L, M, N) (some (.int r)) (zE L, M, N) := zg_7 hd o x1 x2 M N hp h ⟨rfl, rfl⟩
-- X0_weigh
set_option maxRecDepth 20000 in
theorem zg_8_H2 {Γ : jb_G} {L : Nat} {d : Nat} (hd : 3 ≤ d) (x1 : Int32) (N : jb_Ml) (s : Int32 × jb_Mi) {v : Option Value} {σ2 : jb_S} {r : ((Int32 × jb_Mi) ⊕ (jb_Mi))} (h : zf_8_H2 x1 s = some r) (hK : (jb_K (fun s : Int32 × jb_Mi => jb_V Γ d zq_8 2 [some (.ref 64), some (.int x1), some (.int s.1)] [] (zE L, s.2, N) v σ2) (fun r : jb_Mi => v = none ∧ σ2 = (zE L, r, N))) r) : jb_V Γ d zq_8 2 [some (.ref 64), some (.int x1), some (.int s.1)] [] (zE L, s.2, N) v σ2 := by
  obtain ⟨d, rfl⟩ : ∃ e, d = e + 1 := ⟨d - 1, by omega⟩
  unfold zf_8_H2 at h
  refine jb_seg 3 (pc' := (if s.1 < 4 then 7 else 28)) (ls' := [some (.ref 64), some (.int x1), some (.int s.1)]) (st' := []) (σ' := (zE L, s.2, N)) (G := []) rfl trivial ?_
  refine jb_ite (fun c => ?_) (fun c => ?_)
  · replace h := (if_pos c).symm.trans h
    refine jb_seg 7 (pc' := 18) (ls' := [some (.ref 64), some (.int x1), some (.int s.1)]) (st' := [(.int s.1), (.int x1), (.ref 4), (.int s.1), (.ref 65)]) (σ' := (zE L, s.2, N)) (G := []) rfl trivial ?_
    obtain ⟨q1, h1, h⟩ := jb_bd_of h
    refine jb_callV (q' := zq_7) (As := [(.int x1), (.int s.1)]) (rest := [(.int s.1), (.ref 65)]) (σ1 := (zE L, s.2, N)) (v := some (.int q1)) rfl rfl zp_7 rfl (Nat.le_of_ble_eq_true rfl) (jb_cat rfl) (Nat.le_of_ble_eq_true rfl) (Nat.le_of_ble_eq_true rfl) (Or.inl rfl) rfl (ze_7 (by omega) 4 x1 s.1 s.2 N (by decide) h1) ?_
    obtain ⟨g2, h⟩ := jb_gd_of h
    refine jb_seg 3 (pc' := 2) (ls' := [some (.ref 64), some (.int x1), some (.int (s.1 + 1))]) (st' := []) (σ' := (zE L, (jb_up s.2 65 (s.1).toNatClampNeg q1), N)) (G := [vp_in s.1 4]) rfl g2 ?_
    obtain rfl := Option.some.inj h
    exact jb_mask [true, true, true] rfl hK
  · replace h := (if_neg c).symm.trans h
    obtain rfl := Option.some.inj h
    obtain ⟨rfl, rfl⟩ := hK
    exact jb_retv rfl rfl
theorem zg_8_H2L {Γ : jb_G} {L : Nat} {d : Nat} (hd : 3 ≤ d) (x1 : Int32) (N : jb_Ml) {v : Option Value} {σ2 : jb_S} {s : Int32 × jb_Mi} {r : (jb_Mi)} (h : jb_lp (zf_8_H2 x1) s = some r) (hK : (fun r : jb_Mi => v = none ∧ σ2 = (zE L, r, N)) r) : jb_V Γ d zq_8 2 [some (.ref 64), some (.int x1), some (.int s.1)] [] (zE L, s.2, N) v σ2 := by
  exact @jb_lp_ind (Int32 × jb_Mi) ((jb_Mi)) (zf_8_H2 x1) (fun s => jb_V Γ d zq_8 2 [some (.ref 64), some (.int x1), some (.int s.1)] [] (zE L, s.2, N) v σ2) (fun r : jb_Mi => v = none ∧ σ2 = (zE L, r, N)) (fun s r h hk => zg_8_H2 hd x1 N s h hk) s r h hK
set_option maxRecDepth 20000 in
theorem zg_8 {Γ : jb_G} {L : Nat} {d : Nat} (hd : 3 ≤ d) (x1 : Int32) (M : jb_Mi) (N : jb_Ml) {v : Option Value} {σ2 : jb_S} {r : (jb_Mi)} (h : zf_8 x1 M = some r) (hK : (fun r : jb_Mi => v = none ∧ σ2 = (zE L, r, N)) r) : jb_V Γ d zq_8 0 [some (.ref 64), some (.int x1), none] [] (zE L, M, N) v σ2 := by
  obtain ⟨d, rfl⟩ : ∃ e, d = e + 1 := ⟨d - 1, by omega⟩
  unfold zf_8 at h
  refine jb_seg 2 (pc' := 2) (ls' := [some (.ref 64), some (.int x1), some (.int 0)]) (st' := []) (σ' := (zE L, M, N)) (G := []) rfl trivial ?_
  exact jb_mask [true, true, true] rfl (zg_8_H2L hd x1 N h hK)
theorem ze_8 {Γ : jb_G} {L : Nat} {d : Nat} (hd : 3 ≤ d) (x1 : Int32) (M : jb_Mi) (N : jb_Ml) {r : (jb_Mi)} (h : zf_8 x1 M = some r) : jb_V Γ d zq_8 0 (jb_en 3 [(.ref 64), (.int x1)]) [] (zE L, M, N) (none) (zE L, r, N) := zg_8 hd x1 M N h ⟨rfl, rfl⟩
-- J9_max_7cf53
set_option maxRecDepth 20000 in
theorem zg_271 {Γ : jb_G} {L : Nat} {d : Nat} (x0 : Int32) (x1 : Int32) (M : jb_Mi) (N : jb_Ml) {v : Option Value} {σ2 : jb_S} {r : Int32} (h : zf_271 x0 x1 = r) (hK : (fun r : Int32 => v = some (.int r) ∧ σ2 = (zE L, M, N)) r) : jb_V Γ d zq_271 0 [some (.int x0), some (.int x1)] [] (zE L, M, N) v σ2 := by
  unfold zf_271 at h
  refine jb_seg 3 (pc' := (if x0 < x1 then 9 else 5)) (ls' := [some (.int x0), some (.int x1)]) (st' := []) (σ' := (zE L, M, N)) (G := []) rfl trivial ?_
  refine jb_ite (fun c => ?_) (fun c => ?_)
  · replace h := (if_pos c).symm.trans h
    refine jb_seg 1 (pc' := 10) (ls' := [some (.int x0), some (.int x1)]) (st' := [(.int x1)]) (σ' := (zE L, M, N)) (G := []) rfl trivial ?_
    subst h
    obtain ⟨rfl, rfl⟩ := hK
    exact jb_reti rfl rfl
  · replace h := (if_neg c).symm.trans h
    refine jb_seg 2 (pc' := 10) (ls' := [some (.int x0), some (.int x1)]) (st' := [(.int x0)]) (σ' := (zE L, M, N)) (G := []) rfl trivial ?_
    subst h
    obtain ⟨rfl, rfl⟩ := hK
    exact jb_reti rfl rfl
theorem ze_271 {Γ : jb_G} {L : Nat} {d : Nat} (x0 : Int32) (x1 : Int32) (M : jb_Mi) (N : jb_Ml) {r : Int32} (h : zf_271 x0 x1 = r) : jb_V Γ d zq_271 0 (jb_en 2 [(.int x0), (.int x1)]) [] (zE L, M, N) (some (.int r)) (zE L, M, N) := zg_271 x0 x1 M N h ⟨rfl, rfl⟩
-- X0_findBed
set_option maxRecDepth 20000 in
theorem zg_9_J104 {Γ : jb_G} {L : Nat} {d : Nat} (hd : 4 ≤ d) (x2 : Int32) (x3 : Int32) (x4 : Int32) (M : jb_Mi) (N : jb_Ml) {v : Option Value} {σ2 : jb_S} {r : ((Int32 × jb_Mi) ⊕ ((Int32 × jb_Mi) ⊕ (jb_Mi)))} (h : zf_9_J104 x2 x3 x4 M = some r) (hK : (jb_K (fun s : Int32 × jb_Mi => jb_V Γ d zq_9 21 [some (.ref 64), none, some (.int x2), some (.int x3), some (.int s.1), none, none] [] (zE L, s.2, N) v σ2) (jb_K (fun s : Int32 × jb_Mi => jb_V Γ d zq_9 12 [some (.ref 64), none, some (.int x2), some (.int s.1), none, none, none] [] (zE L, s.2, N) v σ2) (fun r : jb_Mi => v = none ∧ σ2 = (zE L, r, N)))) r) : jb_V Γ d zq_9 104 [some (.ref 64), none, some (.int x2), some (.int x3), some (.int x4), none, none] [] (zE L, M, N) v σ2 := by
  obtain ⟨d, rfl⟩ : ∃ e, d = e + 1 := ⟨d - 1, by omega⟩
  unfold zf_9_J104 at h
  refine jb_seg 2 (pc' := 21) (ls' := [some (.ref 64), none, some (.int x2), some (.int x3), some (.int (x4 + 1)), none, none]) (st' := []) (σ' := (zE L, M, N)) (G := []) rfl trivial ?_
  obtain rfl := Option.some.inj h
  exact jb_mask [true, false, true, true, true, false, false] rfl hK
set_option maxRecDepth 20000 in
theorem zg_9_J87 {Γ : jb_G} {L : Nat} {d : Nat} (hd : 4 ≤ d) (x2 : Int32) (x3 : Int32) (x4 : Int32) (x5 : Int32) (M : jb_Mi) (N : jb_Ml) {v : Option Value} {σ2 : jb_S} {r : ((Int32 × jb_Mi) ⊕ ((Int32 × jb_Mi) ⊕ (jb_Mi)))} (h : zf_9_J87 x2 x3 x4 x5 M = some r) (hK : (jb_K (fun s : Int32 × jb_Mi => jb_V Γ d zq_9 21 [some (.ref 64), none, some (.int x2), some (.int x3), some (.int s.1), none, none] [] (zE L, s.2, N) v σ2) (jb_K (fun s : Int32 × jb_Mi => jb_V Γ d zq_9 12 [some (.ref 64), none, some (.int x2), some (.int s.1), none, none, none] [] (zE L, s.2, N) v σ2) (fun r : jb_Mi => v = none ∧ σ2 = (zE L, r, N)))) r) : jb_V Γ d zq_9 87 [some (.ref 64), none, some (.int x2), some (.int x3), some (.int x4), some (.int x5), none] [] (zE L, M, N) v σ2 := by
  obtain ⟨d, rfl⟩ : ∃ e, d = e + 1 := ⟨d - 1, by omega⟩
  unfold zf_9_J87 at h
  refine jb_seg 9 (pc' := 104) (ls' := [some (.ref 64), none, some (.int x2), some (.int x3), some (.int x4), some (.int x5), none]) (st' := []) (σ' := (zE L, (jb_up (jb_up (jb_up M 64 8 x5) 64 6 x4) 64 7 x3), N)) (G := []) rfl trivial ?_
  exact jb_mask [true, false, true, true, true, false, false] rfl (zg_9_J104 hd x2 x3 x4 (jb_up (jb_up (jb_up M 64 8 x5) 64 6 x4) 64 7 x3) N h hK)
set_option maxRecDepth 20000 in
theorem zg_9_H34 {Γ : jb_G} {L : Nat} {d : Nat} (hd : 4 ≤ d) (x2 : Int32) (x3 : Int32) (x4 : Int32) (M : jb_Mi) (N : jb_Ml) (s : Int32 × Int32) {v : Option Value} {σ2 : jb_S} {r : ((Int32 × Int32) ⊕ ((Int32 × jb_Mi) ⊕ ((Int32 × jb_Mi) ⊕ (jb_Mi))))} (h : zf_9_H34 x2 x3 x4 M s = some r) (hK : (jb_K (fun s : Int32 × Int32 => jb_V Γ d zq_9 34 [some (.ref 64), none, some (.int x2), some (.int x3), some (.int x4), some (.int s.1), some (.int s.2)] [] (zE L, M, N) v σ2) (jb_K (fun s : Int32 × jb_Mi => jb_V Γ d zq_9 21 [some (.ref 64), none, some (.int x2), some (.int x3), some (.int s.1), none, none] [] (zE L, s.2, N) v σ2) (jb_K (fun s : Int32 × jb_Mi => jb_V Γ d zq_9 12 [some (.ref 64), none, some (.int x2), some (.int s.1), none, none, none] [] (zE L, s.2, N) v σ2) (fun r : jb_Mi => v = none ∧ σ2 = (zE L, r, N))))) r) : jb_V Γ d zq_9 34 [some (.ref 64), none, some (.int x2), some (.int x3), some (.int x4), some (.int s.1), some (.int s.2)] [] (zE L, M, N) v σ2 := by
  obtain ⟨d, rfl⟩ : ∃ e, d = e + 1 := ⟨d - 1, by omega⟩
  unfold zf_9_H34 at h
  refine jb_seg 3 (pc' := (if s.2 < 4 then 40 else 71)) (ls' := [some (.ref 64), none, some (.int x2), some (.int x3), some (.int x4), some (.int s.1), some (.int s.2)]) (st' := []) (σ' := (zE L, M, N)) (G := []) rfl trivial ?_
  refine jb_ite (fun c => ?_) (fun c => ?_)
  · replace h := (if_pos c).symm.trans h
    obtain ⟨g2, h⟩ := jb_gd_of h
    refine jb_seg 9 (pc' := 55) (ls' := [some (.ref 64), none, some (.int x2), some (.int x3), some (.int x4), some (.int s.1), some (.int s.2)]) (st' := [(.int s.2), (.int x3), (.int x4), (.int x2), (.int (M 65 (s.2).toNatClampNeg)), (.int s.1)]) (σ' := (zE L, M, N)) (G := [vp_in s.2 4]) rfl g2 ?_
    refine jb_callS (q' := zq_5) (As := [(.int x4), (.int x3), (.int s.2)]) (rest := [(.int x2), (.int (M 65 (s.2).toNatClampNeg)), (.int s.1)]) (σ1 := (zE L, M, N)) (v := some (.int (zf_5 x4 x3 s.2))) rfl (Nat.le_of_ble_eq_true rfl) rfl zp_5 (jb_cat rfl) (Nat.le_of_ble_eq_true rfl) (Nat.le_of_ble_eq_true rfl) (Or.inl rfl) rfl (ze_5 x4 x3 s.2 M N rfl) ?_
    refine jb_seg 2 (pc' := 60) (ls' := [some (.ref 64), none, some (.int x2), some (.int x3), some (.int x4), some (.int s.1), some (.int s.2)]) (st' := [(.int ((M 65 (s.2).toNatClampNeg) + (x2 * (zf_5 x4 x3 s.2)))), (.int s.1)]) (σ' := (zE L, M, N)) (G := []) rfl trivial ?_
    refine jb_callS (q' := zq_271) (As := [(.int s.1), (.int ((M 65 (s.2).toNatClampNeg) + (x2 * (zf_5 x4 x3 s.2))))]) (rest := []) (σ1 := (zE L, M, N)) (v := some (.int (zf_271 s.1 ((M 65 (s.2).toNatClampNeg) + (x2 * (zf_5 x4 x3 s.2)))))) rfl (Nat.le_of_ble_eq_true rfl) rfl zp_271 (jb_cat rfl) (Nat.le_of_ble_eq_true rfl) (Nat.le_of_ble_eq_true rfl) (Or.inl rfl) rfl (ze_271 s.1 ((M 65 (s.2).toNatClampNeg) + (x2 * (zf_5 x4 x3 s.2))) M N rfl) ?_
    refine jb_seg 3 (pc' := 34) (ls' := [some (.ref 64), none, some (.int x2), some (.int x3), some (.int x4), some (.int (zf_271 s.1 ((M 65 (s.2).toNatClampNeg) + (x2 * (zf_5 x4 x3 s.2))))), some (.int (s.2 + 1))]) (st' := []) (σ' := (zE L, M, N)) (G := []) rfl trivial ?_
    obtain rfl := Option.some.inj h
    exact jb_mask [true, false, true, true, true, true, true] rfl hK
  · replace h := (if_neg c).symm.trans h
    refine jb_seg 3 (pc' := (if (M 64 8) < 0 then 87 else 78)) (ls' := [some (.ref 64), none, some (.int x2), some (.int x3), some (.int x4), some (.int s.1), some (.int s.2)]) (st' := []) (σ' := (zE L, M, N)) (G := []) rfl trivial ?_
    refine jb_ite (fun c => ?_) (fun c => ?_)
    · replace h := (if_pos c).symm.trans h
      obtain ⟨y0, hy0, rfl⟩ := jb_mp_of h
      exact jb_mask [true, false, true, true, true, true, false] rfl (zg_9_J87 hd x2 x3 x4 s.1 M N hy0 hK)
    · replace h := (if_neg c).symm.trans h
      refine jb_seg 4 (pc' := (if s.1 < (M 64 8) then 87 else 104)) (ls' := [some (.ref 64), none, some (.int x2), some (.int x3), some (.int x4), some (.int s.1), some (.int s.2)]) (st' := []) (σ' := (zE L, M, N)) (G := []) rfl trivial ?_
      refine jb_ite (fun c => ?_) (fun c => ?_)
      · replace h := (if_pos c).symm.trans h
        obtain ⟨y0, hy0, rfl⟩ := jb_mp_of h
        exact jb_mask [true, false, true, true, true, true, false] rfl (zg_9_J87 hd x2 x3 x4 s.1 M N hy0 hK)
      · replace h := (if_neg c).symm.trans h
        obtain ⟨y0, hy0, rfl⟩ := jb_mp_of h
        exact jb_mask [true, false, true, true, true, false, false] rfl (zg_9_J104 hd x2 x3 x4 M N hy0 hK)
theorem zg_9_H34L {Γ : jb_G} {L : Nat} {d : Nat} (hd : 4 ≤ d) (x2 : Int32) (x3 : Int32) (x4 : Int32) (M : jb_Mi) (N : jb_Ml) {v : Option Value} {σ2 : jb_S} {s : Int32 × Int32} {r : ((Int32 × jb_Mi) ⊕ ((Int32 × jb_Mi) ⊕ (jb_Mi)))} (h : jb_lp (zf_9_H34 x2 x3 x4 M) s = some r) (hK : (jb_K (fun s : Int32 × jb_Mi => jb_V Γ d zq_9 21 [some (.ref 64), none, some (.int x2), some (.int x3), some (.int s.1), none, none] [] (zE L, s.2, N) v σ2) (jb_K (fun s : Int32 × jb_Mi => jb_V Γ d zq_9 12 [some (.ref 64), none, some (.int x2), some (.int s.1), none, none, none] [] (zE L, s.2, N) v σ2) (fun r : jb_Mi => v = none ∧ σ2 = (zE L, r, N)))) r) : jb_V Γ d zq_9 34 [some (.ref 64), none, some (.int x2), some (.int x3), some (.int x4), some (.int s.1), some (.int s.2)] [] (zE L, M, N) v σ2 := by
  exact @jb_lp_ind (Int32 × Int32) (((Int32 × jb_Mi) ⊕ ((Int32 × jb_Mi) ⊕ (jb_Mi)))) (zf_9_H34 x2 x3 x4 M) (fun s => jb_V Γ d zq_9 34 [some (.ref 64), none, some (.int x2), some (.int x3), some (.int x4), some (.int s.1), some (.int s.2)] [] (zE L, M, N) v σ2) (jb_K (fun s : Int32 × jb_Mi => jb_V Γ d zq_9 21 [some (.ref 64), none, some (.int x2), some (.int x3), some (.int s.1), none, none] [] (zE L, s.2, N) v σ2) (jb_K (fun s : Int32 × jb_Mi => jb_V Γ d zq_9 12 [some (.ref 64), none, some (.int x2), some (.int s.1), none, none, none] [] (zE L, s.2, N) v σ2) (fun r : jb_Mi => v = none ∧ σ2 = (zE L, r, N)))) (fun s r h hk => zg_9_H34 hd x2 x3 x4 M N s h hk) s r h hK
set_option maxRecDepth 20000 in
theorem zg_9_H21 {Γ : jb_G} {L : Nat} {d : Nat} (hd : 4 ≤ d) (x2 : Int32) (x3 : Int32) (N : jb_Ml) (s : Int32 × jb_Mi) {v : Option Value} {σ2 : jb_S} {r : ((Int32 × jb_Mi) ⊕ ((Int32 × jb_Mi) ⊕ (jb_Mi)))} (h : zf_9_H21 x2 x3 s = some r) (hK : (jb_K (fun s : Int32 × jb_Mi => jb_V Γ d zq_9 21 [some (.ref 64), none, some (.int x2), some (.int x3), some (.int s.1), none, none] [] (zE L, s.2, N) v σ2) (jb_K (fun s : Int32 × jb_Mi => jb_V Γ d zq_9 12 [some (.ref 64), none, some (.int x2), some (.int s.1), none, none, none] [] (zE L, s.2, N) v σ2) (fun r : jb_Mi => v = none ∧ σ2 = (zE L, r, N)))) r) : jb_V Γ d zq_9 21 [some (.ref 64), none, some (.int x2), some (.int x3), some (.int s.1), none, none] [] (zE L, s.2, N) v σ2 := by
  obtain ⟨d, rfl⟩ : ∃ e, d = e + 1 := ⟨d - 1, by omega⟩
  unfold zf_9_H21 at h
  refine jb_seg 3 (pc' := (if s.1 < 9 then 28 else 110)) (ls' := [some (.ref 64), none, some (.int x2), some (.int x3), some (.int s.1), none, none]) (st' := []) (σ' := (zE L, s.2, N)) (G := []) rfl trivial ?_
  refine jb_ite (fun c => ?_) (fun c => ?_)
  · replace h := (if_pos c).symm.trans h
    refine jb_seg 4 (pc' := 34) (ls' := [some (.ref 64), none, some (.int x2), some (.int x3), some (.int s.1), some (.int 0), some (.int 0)]) (st' := []) (σ' := (zE L, s.2, N)) (G := []) rfl trivial ?_
    exact jb_mask [true, false, true, true, true, true, true] rfl (zg_9_H34L hd x2 x3 s.1 s.2 N h hK)
  · replace h := (if_neg c).symm.trans h
    refine jb_seg 2 (pc' := 12) (ls' := [some (.ref 64), none, some (.int x2), some (.int (x3 + 1)), some (.int s.1), none, none]) (st' := []) (σ' := (zE L, s.2, N)) (G := []) rfl trivial ?_
    obtain rfl := Option.some.inj h
    exact jb_mask [true, false, true, true, false, false, false] rfl hK
theorem zg_9_H21L {Γ : jb_G} {L : Nat} {d : Nat} (hd : 4 ≤ d) (x2 : Int32) (x3 : Int32) (N : jb_Ml) {v : Option Value} {σ2 : jb_S} {s : Int32 × jb_Mi} {r : ((Int32 × jb_Mi) ⊕ (jb_Mi))} (h : jb_lp (zf_9_H21 x2 x3) s = some r) (hK : (jb_K (fun s : Int32 × jb_Mi => jb_V Γ d zq_9 12 [some (.ref 64), none, some (.int x2), some (.int s.1), none, none, none] [] (zE L, s.2, N) v σ2) (fun r : jb_Mi => v = none ∧ σ2 = (zE L, r, N))) r) : jb_V Γ d zq_9 21 [some (.ref 64), none, some (.int x2), some (.int x3), some (.int s.1), none, none] [] (zE L, s.2, N) v σ2 := by
  exact @jb_lp_ind (Int32 × jb_Mi) (((Int32 × jb_Mi) ⊕ (jb_Mi))) (zf_9_H21 x2 x3) (fun s => jb_V Γ d zq_9 21 [some (.ref 64), none, some (.int x2), some (.int x3), some (.int s.1), none, none] [] (zE L, s.2, N) v σ2) (jb_K (fun s : Int32 × jb_Mi => jb_V Γ d zq_9 12 [some (.ref 64), none, some (.int x2), some (.int s.1), none, none, none] [] (zE L, s.2, N) v σ2) (fun r : jb_Mi => v = none ∧ σ2 = (zE L, r, N))) (fun s r h hk => zg_9_H21 hd x2 x3 N s h hk) s r h hK
set_option maxRecDepth 20000 in
theorem zg_9_H12 {Γ : jb_G} {L : Nat} {d : Nat} (hd : 4 ≤ d) (x2 : Int32) (N : jb_Ml) (s : Int32 × jb_Mi) {v : Option Value} {σ2 : jb_S} {r : ((Int32 × jb_Mi) ⊕ (jb_Mi))} (h : zf_9_H12 x2 s = some r) (hK : (jb_K (fun s : Int32 × jb_Mi => jb_V Γ d zq_9 12 [some (.ref 64), none, some (.int x2), some (.int s.1), none, none, none] [] (zE L, s.2, N) v σ2) (fun r : jb_Mi => v = none ∧ σ2 = (zE L, r, N))) r) : jb_V Γ d zq_9 12 [some (.ref 64), none, some (.int x2), some (.int s.1), none, none, none] [] (zE L, s.2, N) v σ2 := by
  obtain ⟨d, rfl⟩ : ∃ e, d = e + 1 := ⟨d - 1, by omega⟩
  unfold zf_9_H12 at h
  refine jb_seg 3 (pc' := (if s.1 < 9 then 18 else 116)) (ls' := [some (.ref 64), none, some (.int x2), some (.int s.1), none, none, none]) (st' := []) (σ' := (zE L, s.2, N)) (G := []) rfl trivial ?_
  refine jb_ite (fun c => ?_) (fun c => ?_)
  · replace h := (if_pos c).symm.trans h
    refine jb_seg 2 (pc' := 21) (ls' := [some (.ref 64), none, some (.int x2), some (.int s.1), some (.int 0), none, none]) (st' := []) (σ' := (zE L, s.2, N)) (G := []) rfl trivial ?_
    exact jb_mask [true, false, true, true, true, false, false] rfl (zg_9_H21L hd x2 s.1 N h hK)
  · replace h := (if_neg c).symm.trans h
    obtain rfl := Option.some.inj h
    obtain ⟨rfl, rfl⟩ := hK
    exact jb_retv rfl rfl
theorem zg_9_H12L {Γ : jb_G} {L : Nat} {d : Nat} (hd : 4 ≤ d) (x2 : Int32) (N : jb_Ml) {v : Option Value} {σ2 : jb_S} {s : Int32 × jb_Mi} {r : (jb_Mi)} (h : jb_lp (zf_9_H12 x2) s = some r) (hK : (fun r : jb_Mi => v = none ∧ σ2 = (zE L, r, N)) r) : jb_V Γ d zq_9 12 [some (.ref 64), none, some (.int x2), some (.int s.1), none, none, none] [] (zE L, s.2, N) v σ2 := by
  exact @jb_lp_ind (Int32 × jb_Mi) ((jb_Mi)) (zf_9_H12 x2) (fun s => jb_V Γ d zq_9 12 [some (.ref 64), none, some (.int x2), some (.int s.1), none, none, none] [] (zE L, s.2, N) v σ2) (fun r : jb_Mi => v = none ∧ σ2 = (zE L, r, N)) (fun s r h hk => zg_9_H12 hd x2 N s h hk) s r h hK
set_option maxRecDepth 20000 in
theorem zg_9 {Γ : jb_G} {L : Nat} {d : Nat} (hd : 4 ≤ d) (x1 : Int32) (x2 : Int32) (M : jb_Mi) (N : jb_Ml) {v : Option Value} {σ2 : jb_S} {r : (jb_Mi)} (h : zf_9 x1 x2 M = some r) (hK : (fun r : jb_Mi => v = none ∧ σ2 = (zE L, r, N)) r) : jb_V Γ d zq_9 0 [some (.ref 64), some (.int x1), some (.int x2), none, none, none, none] [] (zE L, M, N) v σ2 := by
  obtain ⟨d, rfl⟩ : ∃ e, d = e + 1 := ⟨d - 1, by omega⟩
  unfold zf_9 at h
  refine jb_seg 2 (pc' := 2) (ls' := [some (.ref 64), some (.int x1), some (.int x2), none, none, none, none]) (st' := [(.int x1), (.ref 64)]) (σ' := (zE L, M, N)) (G := []) rfl trivial ?_
  obtain ⟨q1, h1, h⟩ := jb_bd_of h
  refine jb_callV (q' := zq_8) (As := [(.int x1)]) (rest := []) (σ1 := (zE L, q1, N)) (v := none) rfl rfl zp_8 rfl (Nat.le_of_ble_eq_true rfl) (jb_cat rfl) (Nat.le_of_ble_eq_true rfl) (Nat.le_of_ble_eq_true rfl) (Or.inl rfl) rfl (ze_8 (by omega) x1 M N h1) ?_
  refine jb_seg 5 (pc' := 12) (ls' := [some (.ref 64), some (.int x1), some (.int x2), some (.int 0), none, none, none]) (st' := []) (σ' := (zE L, (jb_up q1 64 8 (-1)), N)) (G := []) rfl trivial ?_
  exact jb_mask [true, false, true, true, false, false, false] rfl (zg_9_H12L hd x2 N h hK)
theorem ze_9 {Γ : jb_G} {L : Nat} {d : Nat} (hd : 4 ≤ d) (x1 : Int32) (x2 : Int32) (M : jb_Mi) (N : jb_Ml) {r : (jb_Mi)} (h : zf_9 x1 x2 M = some r) : jb_V Γ d zq_9 0 (jb_en 7 [(.ref 64), (.int x1), (.int x2)]) [] (zE L, M, N) (none) (zE L, r, N) := zg_9 hd x1 x2 M N h ⟨rfl, rfl⟩
-- X0_choose
set_option maxRecDepth 20000 in
theorem zg_10_J33 {Γ : jb_G} {L : Nat} {d : Nat} (x1 : Int32) (x2 : Int32) (x3 : Int32) (M : jb_Mi) (N : jb_Ml) {v : Option Value} {σ2 : jb_S} {r : ((Int32 × Int32 × jb_Mi) ⊕ (jb_Mi))} (h : zf_10_J33 x1 x2 x3 M = some r) (hK : (jb_K (fun s : Int32 × Int32 × jb_Mi => jb_V Γ d zq_10 4 [some (.ref 64), some (.int x1), some (.int s.1), some (.int s.2.1)] [] (zE L, s.2.2, N) v σ2) (fun r : jb_Mi => v = none ∧ σ2 = (zE L, r, N))) r) : jb_V Γ d zq_10 33 [some (.ref 64), some (.int x1), some (.int x2), some (.int x3)] [] (zE L, M, N) v σ2 := by
  unfold zf_10_J33 at h
  refine jb_seg 2 (pc' := 4) (ls' := [some (.ref 64), some (.int x1), some (.int x2), some (.int (x3 + 1))]) (st' := []) (σ' := (zE L, M, N)) (G := []) rfl trivial ?_
  obtain rfl := Option.some.inj h
  exact jb_mask [true, true, true, true] rfl hK
set_option maxRecDepth 20000 in
theorem zg_10_H4 {Γ : jb_G} {L : Nat} {d : Nat} (x1 : Int32) (N : jb_Ml) (s : Int32 × Int32 × jb_Mi) {v : Option Value} {σ2 : jb_S} {r : ((Int32 × Int32 × jb_Mi) ⊕ (jb_Mi))} (h : zf_10_H4 x1 s = some r) (hK : (jb_K (fun s : Int32 × Int32 × jb_Mi => jb_V Γ d zq_10 4 [some (.ref 64), some (.int x1), some (.int s.1), some (.int s.2.1)] [] (zE L, s.2.2, N) v σ2) (fun r : jb_Mi => v = none ∧ σ2 = (zE L, r, N))) r) : jb_V Γ d zq_10 4 [some (.ref 64), some (.int x1), some (.int s.1), some (.int s.2.1)] [] (zE L, s.2.2, N) v σ2 := by
  unfold zf_10_H4 at h
  refine jb_seg 3 (pc' := (if s.2.1 < 16 then 10 else 39)) (ls' := [some (.ref 64), some (.int x1), some (.int s.1), some (.int s.2.1)]) (st' := []) (σ' := (zE L, s.2.2, N)) (G := []) rfl trivial ?_
  refine jb_ite (fun c => ?_) (fun c => ?_)
  · replace h := (if_pos c).symm.trans h
    refine jb_seg 6 (pc' := (if ((x1 >>> (s.2.1 &&& 31)) &&& 1) = 0 then 33 else 18)) (ls' := [some (.ref 64), some (.int x1), some (.int s.1), some (.int s.2.1)]) (st' := []) (σ' := (zE L, s.2.2, N)) (G := []) rfl trivial ?_
    refine jb_ite (fun c => ?_) (fun c => ?_)
    · replace h := (if_pos c).symm.trans h
      exact jb_mask [true, true, true, true] rfl (zg_10_J33 x1 s.1 s.2.1 s.2.2 N h hK)
    · replace h := (if_neg c).symm.trans h
      refine jb_seg 3 (pc' := (if s.1 < 4 then 23 else 33)) (ls' := [some (.ref 64), some (.int x1), some (.int s.1), some (.int s.2.1)]) (st' := []) (σ' := (zE L, s.2.2, N)) (G := []) rfl trivial ?_
      refine jb_ite (fun c => ?_) (fun c => ?_)
      · replace h := (if_pos c).symm.trans h
        obtain ⟨g1, h⟩ := jb_gd_of h
        refine jb_seg 6 (pc' := 33) (ls' := [some (.ref 64), some (.int x1), some (.int (s.1 + 1)), some (.int s.2.1)]) (st' := []) (σ' := (zE L, (jb_up s.2.2 68 (s.1).toNatClampNeg s.2.1), N)) (G := [vp_in s.1 4]) rfl g1 ?_
        exact jb_mask [true, true, true, true] rfl (zg_10_J33 x1 (s.1 + 1) s.2.1 (jb_up s.2.2 68 (s.1).toNatClampNeg s.2.1) N h hK)
      · replace h := (if_neg c).symm.trans h
        exact jb_mask [true, true, true, true] rfl (zg_10_J33 x1 s.1 s.2.1 s.2.2 N h hK)
  · replace h := (if_neg c).symm.trans h
    obtain rfl := Option.some.inj h
    obtain ⟨rfl, rfl⟩ := hK
    exact jb_retv rfl rfl
theorem zg_10_H4L {Γ : jb_G} {L : Nat} {d : Nat} (x1 : Int32) (N : jb_Ml) {v : Option Value} {σ2 : jb_S} {s : Int32 × Int32 × jb_Mi} {r : (jb_Mi)} (h : jb_lp (zf_10_H4 x1) s = some r) (hK : (fun r : jb_Mi => v = none ∧ σ2 = (zE L, r, N)) r) : jb_V Γ d zq_10 4 [some (.ref 64), some (.int x1), some (.int s.1), some (.int s.2.1)] [] (zE L, s.2.2, N) v σ2 := by
  exact @jb_lp_ind (Int32 × Int32 × jb_Mi) ((jb_Mi)) (zf_10_H4 x1) (fun s => jb_V Γ d zq_10 4 [some (.ref 64), some (.int x1), some (.int s.1), some (.int s.2.1)] [] (zE L, s.2.2, N) v σ2) (fun r : jb_Mi => v = none ∧ σ2 = (zE L, r, N)) (fun s r h hk => zg_10_H4 x1 N s h hk) s r h hK
set_option maxRecDepth 20000 in
theorem zg_10 {Γ : jb_G} {L : Nat} {d : Nat} (x1 : Int32) (M : jb_Mi) (N : jb_Ml) {v : Option Value} {σ2 : jb_S} {r : (jb_Mi)} (h : zf_10 x1 M = some r) (hK : (fun r : jb_Mi => v = none ∧ σ2 = (zE L, r, N)) r) : jb_V Γ d zq_10 0 [some (.ref 64), some (.int x1), none, none] [] (zE L, M, N) v σ2 := by
  unfold zf_10 at h
  refine jb_seg 4 (pc' := 4) (ls' := [some (.ref 64), some (.int x1), some (.int 0), some (.int 0)]) (st' := []) (σ' := (zE L, M, N)) (G := []) rfl trivial ?_
  exact jb_mask [true, true, true, true] rfl (zg_10_H4L x1 N h hK)
theorem ze_10 {Γ : jb_G} {L : Nat} {d : Nat} (x1 : Int32) (M : jb_Mi) (N : jb_Ml) {r : (jb_Mi)} (h : zf_10 x1 M = some r) : jb_V Γ d zq_10 0 (jb_en 4 [(.ref 64), (.int x1)]) [] (zE L, M, N) (none) (zE L, r, N) := zg_10 x1 M N h ⟨rfl, rfl⟩
-- X0_tryRow
set_option maxRecDepth 20000 in
theorem zg_11_J92 {Γ : jb_G} {L : Nat} {d : Nat} (x1 : Int32) (x2 : Int32) (x3 : Int32) (x4 : Int32) (x5 : Int32) (x6 : Int32) (x7 : Int32) (M : jb_Mi) (N : jb_Ml) {v : Option Value} {σ2 : jb_S} {r : ((Int32 × Int32 × Int32) ⊕ (jb_Mi))} (h : zf_11_J92 x1 x2 x3 x4 x5 x6 x7 M = some r) (hK : (jb_K (fun s : Int32 × Int32 × Int32 => jb_V Γ d zq_11 9 [some (.ref 64), some (.int x1), some (.int x2), some (.int x3), some (.int x4), some (.int s.1), some (.int s.2.1), some (.int s.2.2), none] [] (zE L, M, N) v σ2) (fun r : jb_Mi => v = none ∧ σ2 = (zE L, r, N))) r) : jb_V Γ d zq_11 92 [some (.ref 64), some (.int x1), some (.int x2), some (.int x3), some (.int x4), some (.int x5), some (.int x6), some (.int x7), none] [] (zE L, M, N) v σ2 := by
  unfold zf_11_J92 at h
  refine jb_seg 2 (pc' := 9) (ls' := [some (.ref 64), some (.int x1), some (.int x2), some (.int x3), some (.int x4), some (.int x5), some (.int x6), some (.int (x7 + 1)), none]) (st' := []) (σ' := (zE L, M, N)) (G := []) rfl trivial ?_
  obtain rfl := Option.some.inj h
  exact jb_mask [true, true, true, true, true, true, true, true, false] rfl hK
set_option maxRecDepth 20000 in
theorem zg_11_J57 {Γ : jb_G} {L : Nat} {d : Nat} (x1 : Int32) (x2 : Int32) (x3 : Int32) (x4 : Int32) (x5 : Int32) (x6 : Int32) (x7 : Int32) (s2 : Int32) (M : jb_Mi) (N : jb_Ml) {v : Option Value} {σ2 : jb_S} {r : ((Int32 × Int32 × Int32) ⊕ (jb_Mi))} (h : zf_11_J57 x1 x2 x3 x4 x5 x6 x7 s2 M = some r) (hK : (jb_K (fun s : Int32 × Int32 × Int32 => jb_V Γ d zq_11 9 [some (.ref 64), some (.int x1), some (.int x2), some (.int x3), some (.int x4), some (.int s.1), some (.int s.2.1), some (.int s.2.2), none] [] (zE L, M, N) v σ2) (fun r : jb_Mi => v = none ∧ σ2 = (zE L, r, N))) r) : jb_V Γ d zq_11 57 [some (.ref 64), some (.int x1), some (.int x2), some (.int x3), some (.int x4), some (.int x5), some (.int x6), some (.int x7), none] [(.int s2), (.ref 68), (.ref 12)] (zE L, M, N) v σ2 := by
  unfold zf_11_J57 at h
  obtain ⟨g1, h⟩ := jb_gd_of h
  obtain ⟨g2, h⟩ := jb_gd_of h
  obtain ⟨g3, h⟩ := jb_gd_of h
  refine jb_seg 13 (pc' := (if (x5 * (M 12 ((M 68 s2.toNatClampNeg)).toNatClampNeg)) < ((M 65 x7.toNatClampNeg) * x6) then 79 else 92)) (ls' := [some (.ref 64), some (.int x1), some (.int x2), some (.int x3), some (.int x4), some (.int x5), some (.int x6), some (.int x7), some (.int (M 12 ((M 68 s2.toNatClampNeg)).toNatClampNeg))]) (st' := []) (σ' := (zE L, M, N)) (G := [vp_in s2 4, vp_in (M 68 s2.toNatClampNeg) 16, vp_in x7 4]) rfl ⟨g1, g2, g3⟩ ?_
  refine jb_ite (fun c => ?_) (fun c => ?_)
  · replace h := (if_pos c).symm.trans h
    obtain ⟨g4, h⟩ := jb_gd_of h
    refine jb_seg 7 (pc' := 92) (ls' := [some (.ref 64), some (.int x1), some (.int x2), some (.int x3), some (.int x4), some (.int (M 65 x7.toNatClampNeg)), some (.int (M 12 ((M 68 s2.toNatClampNeg)).toNatClampNeg)), some (.int x7), some (.int (M 12 ((M 68 s2.toNatClampNeg)).toNatClampNeg))]) (st' := []) (σ' := (zE L, M, N)) (G := [vp_in x7 4]) rfl g4 ?_
    exact jb_mask [true, true, true, true, true, true, true, true, false] rfl (zg_11_J92 x1 x2 x3 x4 (M 65 x7.toNatClampNeg) (M 12 ((M 68 s2.toNatClampNeg)).toNatClampNeg) x7 M N h hK)
  · replace h := (if_neg c).symm.trans h
    exact jb_mask [true, true, true, true, true, true, true, true, false] rfl (zg_11_J92 x1 x2 x3 x4 x5 x6 x7 M N h hK)
set_option maxRecDepth 20000 in
theorem zg_11_J122 {Γ : jb_G} {L : Nat} {d : Nat} (x1 : Int32) (x2 : Int32) (x3 : Int32) (x4 : Int32) (x5 : Int32) (x6 : Int32) (M : jb_Mi) (N : jb_Ml) {v : Option Value} {σ2 : jb_S} {r : (jb_Mi)} (h : zf_11_J122 x1 x2 x3 x4 x5 x6 M = some r) (hK : (fun r : jb_Mi => v = none ∧ σ2 = (zE L, r, N)) r) : jb_V Γ d zq_11 122 [some (.ref 64), some (.int x1), some (.int x2), some (.int x3), some (.int x4), some (.int x5), some (.int x6), none, none] [] (zE L, M, N) v σ2 := by
  unfold zf_11_J122 at h
  obtain ⟨g5, h⟩ := jb_gd_of h
  obtain ⟨g6, h⟩ := jb_gd_of h
  obtain ⟨g7, h⟩ := jb_gd_of h
  obtain ⟨g8, h⟩ := jb_gd_of h
  refine jb_seg 38 (pc' := 183) (ls' := [some (.ref 64), some (.int x1), some (.int x2), some (.int x3), some (.int x4), some (.int x5), some (.int x6), none, none]) (st' := []) (σ' := (zE L, (jb_up (jb_up (jb_up (jb_up (jb_up (jb_up M 64 10 x5) 64 11 x6) 69 0 ((jb_up (jb_up M 64 10 x5) 64 11 x6) 68 x1.toNatClampNeg)) 69 1 ((jb_up (jb_up (jb_up M 64 10 x5) 64 11 x6) 69 0 ((jb_up (jb_up M 64 10 x5) 64 11 x6) 68 x1.toNatClampNeg)) 68 x2.toNatClampNeg)) 69 2 ((jb_up (jb_up (jb_up (jb_up M 64 10 x5) 64 11 x6) 69 0 ((jb_up (jb_up M 64 10 x5) 64 11 x6) 68 x1.toNatClampNeg)) 69 1 ((jb_up (jb_up (jb_up M 64 10 x5) 64 11 x6) 69 0 ((jb_up (jb_up M 64 10 x5) 64 11 x6) 68 x1.toNatClampNeg)) 68 x2.toNatClampNeg)) 68 x3.toNatClampNeg)) 69 3 ((jb_up (jb_up (jb_up (jb_up (jb_up M 64 10 x5) 64 11 x6) 69 0 ((jb_up (jb_up M 64 10 x5) 64 11 x6) 68 x1.toNatClampNeg)) 69 1 ((jb_up (jb_up (jb_up M 64 10 x5) 64 11 x6) 69 0 ((jb_up (jb_up M 64 10 x5) 64 11 x6) 68 x1.toNatClampNeg)) 68 x2.toNatClampNeg)) 69 2 ((jb_up (jb_up (jb_up (jb_up M 64 10 x5) 64 11 x6) 69 0 ((jb_up (jb_up M 64 10 x5) 64 11 x6) 68 x1.toNatClampNeg)) 69 1 ((jb_up (jb_up (jb_up M 64 10 x5) 64 11 x6) 69 0 ((jb_up (jb_up M 64 10 x5) 64 11 x6) 68 x1.toNatClampNeg)) 68 x2.toNatClampNeg)) 68 x3.toNatClampNeg)) 68 x4.toNatClampNeg)), N)) (G := [vp_in x1 4, vp_in 0 4, vp_in x2 4, vp_in 1 4, vp_in x3 4, vp_in 2 4, vp_in x4 4, vp_in 3 4]) rfl ⟨g5, (show vp_in 0 4 from (by unfold vp_in; decide)), g6, (show vp_in 1 4 from (by unfold vp_in; decide)), g7, (show vp_in 2 4 from (by unfold vp_in; decide)), g8, (show vp_in 3 4 from (by unfold vp_in; decide))⟩ ?_
  obtain rfl := Option.some.inj h
  obtain ⟨rfl, rfl⟩ := hK
  exact jb_retv rfl rfl
set_option maxRecDepth 20000 in
theorem zg_11_H9 {Γ : jb_G} {L : Nat} {d : Nat} (x1 : Int32) (x2 : Int32) (x3 : Int32) (x4 : Int32) (M : jb_Mi) (N : jb_Ml) (s : Int32 × Int32 × Int32) {v : Option Value} {σ2 : jb_S} {r : ((Int32 × Int32 × Int32) ⊕ (jb_Mi))} (h : zf_11_H9 x1 x2 x3 x4 M s = some r) (hK : (jb_K (fun s : Int32 × Int32 × Int32 => jb_V Γ d zq_11 9 [some (.ref 64), some (.int x1), some (.int x2), some (.int x3), some (.int x4), some (.int s.1), some (.int s.2.1), some (.int s.2.2), none] [] (zE L, M, N) v σ2) (fun r : jb_Mi => v = none ∧ σ2 = (zE L, r, N))) r) : jb_V Γ d zq_11 9 [some (.ref 64), some (.int x1), some (.int x2), some (.int x3), some (.int x4), some (.int s.1), some (.int s.2.1), some (.int s.2.2), none] [] (zE L, M, N) v σ2 := by
  unfold zf_11_H9 at h
  refine jb_seg 3 (pc' := (if s.2.2 < 4 then 15 else 98)) (ls' := [some (.ref 64), some (.int x1), some (.int x2), some (.int x3), some (.int x4), some (.int s.1), some (.int s.2.1), some (.int s.2.2), none]) (st' := []) (σ' := (zE L, M, N)) (G := []) rfl trivial ?_
  refine jb_ite (fun c => ?_) (fun c => ?_)
  · replace h := (if_pos c).symm.trans h
    refine jb_seg 7 (pc' := (if s.2.2 = 0 then 31 else 35)) (ls' := [some (.ref 64), some (.int x1), some (.int x2), some (.int x3), some (.int x4), some (.int s.1), some (.int s.2.1), some (.int s.2.2), none]) (st' := [(.ref 68), (.ref 12)]) (σ' := (zE L, M, N)) (G := []) rfl trivial ?_
    refine jb_ite (fun c => ?_) (fun c => ?_)
    · replace h := (if_pos c).symm.trans h
      refine jb_seg 2 (pc' := 57) (ls' := [some (.ref 64), some (.int x1), some (.int x2), some (.int x3), some (.int x4), some (.int s.1), some (.int s.2.1), some (.int s.2.2), none]) (st' := [(.int x1), (.ref 68), (.ref 12)]) (σ' := (zE L, M, N)) (G := []) rfl trivial ?_
      exact jb_mask [true, true, true, true, true, true, true, true, false] rfl (zg_11_J57 x1 x2 x3 x4 s.1 s.2.1 s.2.2 x1 M N h hK)
    · replace h := (if_neg c).symm.trans h
      refine jb_seg 3 (pc' := (if s.2.2 = 1 then 41 else 45)) (ls' := [some (.ref 64), some (.int x1), some (.int x2), some (.int x3), some (.int x4), some (.int s.1), some (.int s.2.1), some (.int s.2.2), none]) (st' := [(.ref 68), (.ref 12)]) (σ' := (zE L, M, N)) (G := []) rfl trivial ?_
      refine jb_ite (fun c => ?_) (fun c => ?_)
      · replace h := (if_pos c).symm.trans h
        refine jb_seg 2 (pc' := 57) (ls' := [some (.ref 64), some (.int x1), some (.int x2), some (.int x3), some (.int x4), some (.int s.1), some (.int s.2.1), some (.int s.2.2), none]) (st' := [(.int x2), (.ref 68), (.ref 12)]) (σ' := (zE L, M, N)) (G := []) rfl trivial ?_
        exact jb_mask [true, true, true, true, true, true, true, true, false] rfl (zg_11_J57 x1 x2 x3 x4 s.1 s.2.1 s.2.2 x2 M N h hK)
      · replace h := (if_neg c).symm.trans h
        refine jb_seg 3 (pc' := (if s.2.2 = 2 then 51 else 55)) (ls' := [some (.ref 64), some (.int x1), some (.int x2), some (.int x3), some (.int x4), some (.int s.1), some (.int s.2.1), some (.int s.2.2), none]) (st' := [(.ref 68), (.ref 12)]) (σ' := (zE L, M, N)) (G := []) rfl trivial ?_
        refine jb_ite (fun c => ?_) (fun c => ?_)
        · replace h := (if_pos c).symm.trans h
          refine jb_seg 2 (pc' := 57) (ls' := [some (.ref 64), some (.int x1), some (.int x2), some (.int x3), some (.int x4), some (.int s.1), some (.int s.2.1), some (.int s.2.2), none]) (st' := [(.int x3), (.ref 68), (.ref 12)]) (σ' := (zE L, M, N)) (G := []) rfl trivial ?_
          exact jb_mask [true, true, true, true, true, true, true, true, false] rfl (zg_11_J57 x1 x2 x3 x4 s.1 s.2.1 s.2.2 x3 M N h hK)
        · replace h := (if_neg c).symm.trans h
          refine jb_seg 1 (pc' := 57) (ls' := [some (.ref 64), some (.int x1), some (.int x2), some (.int x3), some (.int x4), some (.int s.1), some (.int s.2.1), some (.int s.2.2), none]) (st' := [(.int x4), (.ref 68), (.ref 12)]) (σ' := (zE L, M, N)) (G := []) rfl trivial ?_
          exact jb_mask [true, true, true, true, true, true, true, true, false] rfl (zg_11_J57 x1 x2 x3 x4 s.1 s.2.1 s.2.2 x4 M N h hK)
  · replace h := (if_neg c).symm.trans h
    refine jb_seg 3 (pc' := (if (M 64 10) < 0 then 122 else 105)) (ls' := [some (.ref 64), some (.int x1), some (.int x2), some (.int x3), some (.int x4), some (.int s.1), some (.int s.2.1), some (.int s.2.2), none]) (st' := []) (σ' := (zE L, M, N)) (G := []) rfl trivial ?_
    refine jb_ite (fun c => ?_) (fun c => ?_)
    · replace h := (if_pos c).symm.trans h
      obtain ⟨y0, hy0, rfl⟩ := jb_mp_of h
      exact jb_mask [true, true, true, true, true, true, true, false, false] rfl (zg_11_J122 x1 x2 x3 x4 s.1 s.2.1 M N hy0 hK)
    · replace h := (if_neg c).symm.trans h
      refine jb_seg 9 (pc' := (if (s.1 * (M 64 11)) < ((M 64 10) * s.2.1) then 122 else 183)) (ls' := [some (.ref 64), some (.int x1), some (.int x2), some (.int x3), some (.int x4), some (.int s.1), some (.int s.2.1), some (.int s.2.2), none]) (st' := []) (σ' := (zE L, M, N)) (G := []) rfl trivial ?_
      refine jb_ite (fun c => ?_) (fun c => ?_)
      · replace h := (if_pos c).symm.trans h
        obtain ⟨y0, hy0, rfl⟩ := jb_mp_of h
        exact jb_mask [true, true, true, true, true, true, true, false, false] rfl (zg_11_J122 x1 x2 x3 x4 s.1 s.2.1 M N hy0 hK)
      · replace h := (if_neg c).symm.trans h
        obtain rfl := Option.some.inj h
        obtain ⟨rfl, rfl⟩ := hK
        exact jb_retv rfl rfl
theorem zg_11_H9L {Γ : jb_G} {L : Nat} {d : Nat} (x1 : Int32) (x2 : Int32) (x3 : Int32) (x4 : Int32) (M : jb_Mi) (N : jb_Ml) {v : Option Value} {σ2 : jb_S} {s : Int32 × Int32 × Int32} {r : (jb_Mi)} (h : jb_lp (zf_11_H9 x1 x2 x3 x4 M) s = some r) (hK : (fun r : jb_Mi => v = none ∧ σ2 = (zE L, r, N)) r) : jb_V Γ d zq_11 9 [some (.ref 64), some (.int x1), some (.int x2), some (.int x3), some (.int x4), some (.int s.1), some (.int s.2.1), some (.int s.2.2), none] [] (zE L, M, N) v σ2 := by
  exact @jb_lp_ind (Int32 × Int32 × Int32) ((jb_Mi)) (zf_11_H9 x1 x2 x3 x4 M) (fun s => jb_V Γ d zq_11 9 [some (.ref 64), some (.int x1), some (.int x2), some (.int x3), some (.int x4), some (.int s.1), some (.int s.2.1), some (.int s.2.2), none] [] (zE L, M, N) v σ2) (fun r : jb_Mi => v = none ∧ σ2 = (zE L, r, N)) (fun s r h hk => zg_11_H9 x1 x2 x3 x4 M N s h hk) s r h hK
set_option maxRecDepth 20000 in
theorem zg_11 {Γ : jb_G} {L : Nat} {d : Nat} (x1 : Int32) (x2 : Int32) (x3 : Int32) (x4 : Int32) (M : jb_Mi) (N : jb_Ml) {v : Option Value} {σ2 : jb_S} {r : (jb_Mi)} (h : zf_11 x1 x2 x3 x4 M = some r) (hK : (fun r : jb_Mi => v = none ∧ σ2 = (zE L, r, N)) r) : jb_V Γ d zq_11 0 [some (.ref 64), some (.int x1), some (.int x2), some (.int x3), some (.int x4), none, none, none, none] [] (zE L, M, N) v σ2 := by
  unfold zf_11 at h
  refine jb_seg 6 (pc' := 9) (ls' := [some (.ref 64), some (.int x1), some (.int x2), some (.int x3), some (.int x4), some (.int 0), some (.int 1), some (.int 0), none]) (st' := []) (σ' := (zE L, M, N)) (G := []) rfl trivial ?_
  exact jb_mask [true, true, true, true, true, true, true, true, false] rfl (zg_11_H9L x1 x2 x3 x4 M N h hK)
theorem ze_11 {Γ : jb_G} {L : Nat} {d : Nat} (x1 : Int32) (x2 : Int32) (x3 : Int32) (x4 : Int32) (M : jb_Mi) (N : jb_Ml) {r : (jb_Mi)} (h : zf_11 x1 x2 x3 x4 M = some r) : jb_V Γ d zq_11 0 (jb_en 9 [(.ref 64), (.int x1), (.int x2), (.int x3), (.int x4)]) [] (zE L, M, N) (none) (zE L, r, N) := zg_11 x1 x2 x3 x4 M N h ⟨rfl, rfl⟩
-- X0_findRow
set_option maxRecDepth 20000 in
theorem zg_12_J90 {Γ : jb_G} {L : Nat} {d : Nat} (hd : 4 ≤ d) (x3 : Int32) (M : jb_Mi) (N : jb_Ml) {v : Option Value} {σ2 : jb_S} {r : ((Int32 × jb_Mi) ⊕ (jb_Mi))} (h : zf_12_J90 x3 M = some r) (hK : (jb_K (fun s : Int32 × jb_Mi => jb_V Γ d zq_12 22 [some (.ref 64), none, none, some (.int s.1), none, none, none, none] [] (zE L, s.2, N) v σ2) (fun r : jb_Mi => v = none ∧ σ2 = (zE L, r, N))) r) : jb_V Γ d zq_12 90 [some (.ref 64), none, none, some (.int x3), none, none, none, none] [] (zE L, M, N) v σ2 := by
  obtain ⟨d, rfl⟩ : ∃ e, d = e + 1 := ⟨d - 1, by omega⟩
  unfold zf_12_J90 at h
  refine jb_seg 2 (pc' := 22) (ls' := [some (.ref 64), none, none, some (.int (x3 + 1)), none, none, none, none]) (st' := []) (σ' := (zE L, M, N)) (G := []) rfl trivial ?_
  obtain rfl := Option.some.inj h
  exact jb_mask [true, false, false, true, false, false, false, false] rfl hK
set_option maxRecDepth 20000 in
theorem zg_12_H22 {Γ : jb_G} {L : Nat} {d : Nat} (hd : 4 ≤ d) (N : jb_Ml) (s : Int32 × jb_Mi) {v : Option Value} {σ2 : jb_S} {r : ((Int32 × jb_Mi) ⊕ (jb_Mi))} (h : zf_12_H22 s = some r) (hK : (jb_K (fun s : Int32 × jb_Mi => jb_V Γ d zq_12 22 [some (.ref 64), none, none, some (.int s.1), none, none, none, none] [] (zE L, s.2, N) v σ2) (fun r : jb_Mi => v = none ∧ σ2 = (zE L, r, N))) r) : jb_V Γ d zq_12 22 [some (.ref 64), none, none, some (.int s.1), none, none, none, none] [] (zE L, s.2, N) v σ2 := by
  obtain ⟨d, rfl⟩ : ∃ e, d = e + 1 := ⟨d - 1, by omega⟩
  unfold zf_12_H22 at h
  refine jb_seg 3 (pc' := (if s.1 < 256 then 29 else 96)) (ls' := [some (.ref 64), none, none, some (.int s.1), none, none, none, none]) (st' := []) (σ' := (zE L, s.2, N)) (G := []) rfl trivial ?_
  refine jb_ite (fun c => ?_) (fun c => ?_)
  · replace h := (if_pos c).symm.trans h
    refine jb_seg 37 (pc' := (if (((((1 : Int32) <<< ((s.1 >>> ((6 : Int32) &&& 31)) &&& 31)) ||| ((1 : Int32) <<< (((s.1 >>> ((4 : Int32) &&& 31)) &&& 3) &&& 31))) ||| ((1 : Int32) <<< (((s.1 >>> ((2 : Int32) &&& 31)) &&& 3) &&& 31))) ||| ((1 : Int32) <<< ((s.1 &&& 3) &&& 31))) = 15 then 78 else 90)) (ls' := [some (.ref 64), none, none, some (.int s.1), some (.int (s.1 >>> ((6 : Int32) &&& 31))), some (.int ((s.1 >>> ((4 : Int32) &&& 31)) &&& 3)), some (.int ((s.1 >>> ((2 : Int32) &&& 31)) &&& 3)), some (.int (s.1 &&& 3))]) (st' := []) (σ' := (zE L, s.2, N)) (G := []) rfl trivial ?_
    refine jb_ite (fun c => ?_) (fun c => ?_)
    · replace h := (if_pos c).symm.trans h
      refine jb_seg 5 (pc' := 87) (ls' := [some (.ref 64), none, none, some (.int s.1), some (.int (s.1 >>> ((6 : Int32) &&& 31))), some (.int ((s.1 >>> ((4 : Int32) &&& 31)) &&& 3)), some (.int ((s.1 >>> ((2 : Int32) &&& 31)) &&& 3)), some (.int (s.1 &&& 3))]) (st' := [(.int (s.1 &&& 3)), (.int ((s.1 >>> ((2 : Int32) &&& 31)) &&& 3)), (.int ((s.1 >>> ((4 : Int32) &&& 31)) &&& 3)), (.int (s.1 >>> ((6 : Int32) &&& 31))), (.ref 64)]) (σ' := (zE L, s.2, N)) (G := []) rfl trivial ?_
      obtain ⟨q3, h3, h⟩ := jb_bd_of h
      refine jb_callV (q' := zq_11) (As := [(.int (s.1 >>> ((6 : Int32) &&& 31))), (.int ((s.1 >>> ((4 : Int32) &&& 31)) &&& 3)), (.int ((s.1 >>> ((2 : Int32) &&& 31)) &&& 3)), (.int (s.1 &&& 3))]) (rest := []) (σ1 := (zE L, q3, N)) (v := none) rfl rfl zp_11 rfl (Nat.le_of_ble_eq_true rfl) (jb_cat rfl) (Nat.le_of_ble_eq_true rfl) (Nat.le_of_ble_eq_true rfl) (Or.inl rfl) rfl (ze_11 (s.1 >>> ((6 : Int32) &&& 31)) ((s.1 >>> ((4 : Int32) &&& 31)) &&& 3) ((s.1 >>> ((2 : Int32) &&& 31)) &&& 3) (s.1 &&& 3) s.2 N h3) ?_
      exact jb_mask [true, false, false, true, false, false, false, false] rfl (zg_12_J90 hd s.1 q3 N h hK)
    · replace h := (if_neg c).symm.trans h
      exact jb_mask [true, false, false, true, false, false, false, false] rfl (zg_12_J90 hd s.1 s.2 N h hK)
  · replace h := (if_neg c).symm.trans h
    obtain rfl := Option.some.inj h
    obtain ⟨rfl, rfl⟩ := hK
    exact jb_retv rfl rfl
theorem zg_12_H22L {Γ : jb_G} {L : Nat} {d : Nat} (hd : 4 ≤ d) (N : jb_Ml) {v : Option Value} {σ2 : jb_S} {s : Int32 × jb_Mi} {r : (jb_Mi)} (h : jb_lp (zf_12_H22) s = some r) (hK : (fun r : jb_Mi => v = none ∧ σ2 = (zE L, r, N)) r) : jb_V Γ d zq_12 22 [some (.ref 64), none, none, some (.int s.1), none, none, none, none] [] (zE L, s.2, N) v σ2 := by
  exact @jb_lp_ind (Int32 × jb_Mi) ((jb_Mi)) (zf_12_H22) (fun s => jb_V Γ d zq_12 22 [some (.ref 64), none, none, some (.int s.1), none, none, none, none] [] (zE L, s.2, N) v σ2) (fun r : jb_Mi => v = none ∧ σ2 = (zE L, r, N)) (fun s r h hk => zg_12_H22 hd N s h hk) s r h hK
set_option maxRecDepth 20000 in
theorem zg_12 {Γ : jb_G} {L : Nat} {d : Nat} (hd : 4 ≤ d) (x1 : Int32) (x2 : Int32) (M : jb_Mi) (N : jb_Ml) {v : Option Value} {σ2 : jb_S} {r : (jb_Mi)} (h : zf_12 x1 x2 M = some r) (hK : (fun r : jb_Mi => v = none ∧ σ2 = (zE L, r, N)) r) : jb_V Γ d zq_12 0 [some (.ref 64), some (.int x1), some (.int x2), none, none, none, none, none] [] (zE L, M, N) v σ2 := by
  obtain ⟨d, rfl⟩ : ∃ e, d = e + 1 := ⟨d - 1, by omega⟩
  unfold zf_12 at h
  refine jb_seg 2 (pc' := 2) (ls' := [some (.ref 64), some (.int x1), some (.int x2), none, none, none, none, none]) (st' := [(.int x1), (.ref 64)]) (σ' := (zE L, M, N)) (G := []) rfl trivial ?_
  obtain ⟨q1, h1, h⟩ := jb_bd_of h
  refine jb_callV (q' := zq_8) (As := [(.int x1)]) (rest := []) (σ1 := (zE L, q1, N)) (v := none) rfl rfl zp_8 rfl (Nat.le_of_ble_eq_true rfl) (jb_cat rfl) (Nat.le_of_ble_eq_true rfl) (Nat.le_of_ble_eq_true rfl) (Or.inl rfl) rfl (ze_8 (by omega) x1 M N h1) ?_
  refine jb_seg 2 (pc' := 7) (ls' := [some (.ref 64), some (.int x1), some (.int x2), none, none, none, none, none]) (st' := [(.int x2), (.ref 64)]) (σ' := (zE L, q1, N)) (G := []) rfl trivial ?_
  obtain ⟨q2, h2, h⟩ := jb_bd_of h
  refine jb_callV (q' := zq_10) (As := [(.int x2)]) (rest := []) (σ1 := (zE L, q2, N)) (v := none) rfl rfl zp_10 rfl (Nat.le_of_ble_eq_true rfl) (jb_cat rfl) (Nat.le_of_ble_eq_true rfl) (Nat.le_of_ble_eq_true rfl) (Or.inl rfl) rfl (ze_10 x2 q1 N h2) ?_
  refine jb_seg 8 (pc' := 22) (ls' := [some (.ref 64), some (.int x1), some (.int x2), some (.int 0), none, none, none, none]) (st' := []) (σ' := (zE L, (jb_up (jb_up q2 64 10 (-1)) 64 11 1), N)) (G := []) rfl trivial ?_
  exact jb_mask [true, false, false, true, false, false, false, false] rfl (zg_12_H22L hd N h hK)
theorem ze_12 {Γ : jb_G} {L : Nat} {d : Nat} (hd : 4 ≤ d) (x1 : Int32) (x2 : Int32) (M : jb_Mi) (N : jb_Ml) {r : (jb_Mi)} (h : zf_12 x1 x2 M = some r) : jb_V Γ d zq_12 0 (jb_en 8 [(.ref 64), (.int x1), (.int x2)]) [] (zE L, M, N) (none) (zE L, r, N) := zg_12 hd x1 x2 M N h ⟨rfl, rfl⟩
-- X9_thingsIn
set_option maxRecDepth 20000 in
theorem zg_13_J25 {Γ : jb_G} {L : Nat} {d : Nat} (hd : 2 ≤ d) (o : Nat) (x1 : Int32) (x3 : Int32) (s0 : Int32) (s1 : Int32) (M : jb_Mi) (N : jb_Ml) (hp : o = 4 ∨ o = 24) {v : Option Value} {σ2 : jb_S} {r : ((Int32 × Int32) ⊕ (Int32))} (h : zf_13_J25 o x1 x3 s0 s1 M = some r) (hK : (jb_K (fun s : Int32 × Int32 => jb_V Γ d zq_13 4 [some (.ref o), some (.int x1), some (.int s.1), some (.int s.2)] [] (zE L, M, N) v σ2) (fun r : Int32 => v = some (.int r) ∧ σ2 = (zE L, M, N))) r) : jb_V Γ d zq_13 25 [some (.ref o), some (.int x1), none, some (.int x3)] [(.int s1), (.int s0)] (zE L, M, N) v σ2 := by
  rcases hp with rfl | rfl
  · obtain ⟨d, rfl⟩ : ∃ e, d = e + 1 := ⟨d - 1, by omega⟩
    unfold zf_13_J25 at h
    refine jb_seg 4 (pc' := 4) (ls' := [some (.ref 4), some (.int x1), some (.int (s0 + s1)), some (.int (x3 + 1))]) (st' := []) (σ' := (zE L, M, N)) (G := []) rfl trivial ?_
    obtain rfl := Option.some.inj h
    exact jb_mask [true, true, true, true] rfl hK
  · obtain ⟨d, rfl⟩ : ∃ e, d = e + 1 := ⟨d - 1, by omega⟩
    unfold zf_13_J25 at h
    refine jb_seg 4 (pc' := 4) (ls' := [some (.ref 24), some (.int x1), some (.int (s0 + s1)), some (.int (x3 + 1))]) (st' := []) (σ' := (zE L, M, N)) (G := []) rfl trivial ?_
    obtain rfl := Option.some.inj h
    exact jb_mask [true, true, true, true] rfl hK
set_option maxRecDepth 20000 in
theorem zg_13_H4 {Γ : jb_G} {L : Nat} {d : Nat} (hd : 2 ≤ d) (o : Nat) (x1 : Int32) (M : jb_Mi) (N : jb_Ml) (s : Int32 × Int32) (hp : o = 4 ∨ o = 24) {v : Option Value} {σ2 : jb_S} {r : ((Int32 × Int32) ⊕ (Int32))} (h : zf_13_H4 o x1 M s = some r) (hK : (jb_K (fun s : Int32 × Int32 => jb_V Γ d zq_13 4 [some (.ref o), some (.int x1), some (.int s.1), some (.int s.2)] [] (zE L, M, N) v σ2) (fun r : Int32 => v = some (.int r) ∧ σ2 = (zE L, M, N))) r) : jb_V Γ d zq_13 4 [some (.ref o), some (.int x1), some (.int s.1), some (.int s.2)] [] (zE L, M, N) v σ2 := by
  rcases hp with rfl | rfl
  · obtain ⟨d, rfl⟩ : ∃ e, d = e + 1 := ⟨d - 1, by omega⟩
    unfold zf_13_H4 at h
    refine jb_seg 3 (pc' := (if s.2 < 24 then 10 else 33)) (ls' := [some (.ref 4), some (.int x1), some (.int s.1), some (.int s.2)]) (st' := []) (σ' := (zE L, M, N)) (G := []) rfl trivial ?_
    refine jb_ite (fun c => ?_) (fun c => ?_)
    · replace h := (if_pos c).symm.trans h
      refine jb_seg 4 (pc' := 14) (ls' := [some (.ref 4), some (.int x1), some (.int s.1), some (.int s.2)]) (st' := [(.int x1), (.int s.2), (.ref 4), (.int s.1)]) (σ' := (zE L, M, N)) (G := []) rfl trivial ?_
      obtain ⟨q1, h1, h⟩ := jb_bd_of h
      refine jb_callV (q' := zq_4) (As := [(.int s.2), (.int x1)]) (rest := [(.int s.1)]) (σ1 := (zE L, M, N)) (v := some (.int (jb_b2i q1))) rfl rfl zp_4 rfl (Nat.le_of_ble_eq_true rfl) (jb_cat rfl) (Nat.le_of_ble_eq_true rfl) (Nat.le_of_ble_eq_true rfl) (Or.inl rfl) rfl (ze_4 (by omega) 4 s.2 x1 M N (by decide) h1) ?_
      refine jb_seg 1 (pc' := (if (jb_b2i q1) = 0 then 24 else 20)) (ls' := [some (.ref 4), some (.int x1), some (.int s.1), some (.int s.2)]) (st' := [(.int s.1)]) (σ' := (zE L, M, N)) (G := []) rfl trivial ?_
      refine jb_ite (fun c => ?_) (fun c => ?_)
      · replace h := (if_pos c).symm.trans h
        refine jb_seg 1 (pc' := 25) (ls' := [some (.ref 4), some (.int x1), some (.int s.1), some (.int s.2)]) (st' := [(.int 0), (.int s.1)]) (σ' := (zE L, M, N)) (G := []) rfl trivial ?_
        exact jb_mask [true, true, false, true] rfl (zg_13_J25 hd 4 x1 s.2 s.1 0 M N (by decide) h hK)
      · replace h := (if_neg c).symm.trans h
        refine jb_seg 2 (pc' := 25) (ls' := [some (.ref 4), some (.int x1), some (.int s.1), some (.int s.2)]) (st' := [(.int 1), (.int s.1)]) (σ' := (zE L, M, N)) (G := []) rfl trivial ?_
        exact jb_mask [true, true, false, true] rfl (zg_13_J25 hd 4 x1 s.2 s.1 1 M N (by decide) h hK)
    · replace h := (if_neg c).symm.trans h
      refine jb_seg 1 (pc' := 34) (ls' := [some (.ref 4), some (.int x1), some (.int s.1), some (.int s.2)]) (st' := [(.int s.1)]) (σ' := (zE L, M, N)) (G := []) rfl trivial ?_
      obtain rfl := Option.some.inj h
      obtain ⟨rfl, rfl⟩ := hK
      exact jb_reti rfl rfl
  · obtain ⟨d, rfl⟩ : ∃ e, d = e + 1 := ⟨d - 1, by omega⟩
    unfold zf_13_H4 at h
    refine jb_seg 3 (pc' := (if s.2 < 24 then 10 else 33)) (ls' := [some (.ref 24), some (.int x1), some (.int s.1), some (.int s.2)]) (st' := []) (σ' := (zE L, M, N)) (G := []) rfl trivial ?_
    refine jb_ite (fun c => ?_) (fun c => ?_)
    · replace h := (if_pos c).symm.trans h
      refine jb_seg 4 (pc' := 14) (ls' := [some (.ref 24), some (.int x1), some (.int s.1), some (.int s.2)]) (st' := [(.int x1), (.int s.2), (.ref 24), (.int s.1)]) (σ' := (zE L, M, N)) (G := []) rfl trivial ?_
      obtain ⟨q1, h1, h⟩ := jb_bd_of h
      refine jb_callV (q' := zq_4) (As := [(.int s.2), (.int x1)]) (rest := [(.int s.1)]) (σ1 := (zE L, M, N)) (v := some (.int (jb_b2i q1))) rfl rfl zp_4 rfl (Nat.le_of_ble_eq_true rfl) (jb_cat rfl) (Nat.le_of_ble_eq_true rfl) (Nat.le_of_ble_eq_true rfl) (Or.inl rfl) rfl (ze_4 (by omega) 24 s.2 x1 M N (by decide) h1) ?_
      refine jb_seg 1 (pc' := (if (jb_b2i q1) = 0 then 24 else 20)) (ls' := [some (.ref 24), some (.int x1), some (.int s.1), some (.int s.2)]) (st' := [(.int s.1)]) (σ' := (zE L, M, N)) (G := []) rfl trivial ?_
      refine jb_ite (fun c => ?_) (fun c => ?_)
      · replace h := (if_pos c).symm.trans h
        refine jb_seg 1 (pc' := 25) (ls' := [some (.ref 24), some (.int x1), some (.int s.1), some (.int s.2)]) (st' := [(.int 0), (.int s.1)]) (σ' := (zE L, M, N)) (G := []) rfl trivial ?_
        exact jb_mask [true, true, false, true] rfl (zg_13_J25 hd 24 x1 s.2 s.1 0 M N (by decide) h hK)
      · replace h := (if_neg c).symm.trans h
        refine jb_seg 2 (pc' := 25) (ls' := [some (.ref 24), some (.int x1), some (.int s.1), some (.int s.2)]) (st' := [(.int 1), (.int s.1)]) (σ' := (zE L, M, N)) (G := []) rfl trivial ?_
        exact jb_mask [true, true, false, true] rfl (zg_13_J25 hd 24 x1 s.2 s.1 1 M N (by decide) h hK)
    · replace h := (if_neg c).symm.trans h
      refine jb_seg 1 (pc' := 34) (ls' := [some (.ref 24), some (.int x1), some (.int s.1), some (.int s.2)]) (st' := [(.int s.1)]) (σ' := (zE L, M, N)) (G := []) rfl trivial ?_
      obtain rfl := Option.some.inj h
      obtain ⟨rfl, rfl⟩ := hK
      exact jb_reti rfl rfl
theorem zg_13_H4L {Γ : jb_G} {L : Nat} {d : Nat} (hd : 2 ≤ d) (o : Nat) (x1 : Int32) (M : jb_Mi) (N : jb_Ml) (hp : o = 4 ∨ o = 24) {v : Option Value} {σ2 : jb_S} {s : Int32 × Int32} {r : (Int32)} (h : jb_lp (zf_13_H4 o x1 M) s = some r) (hK : (fun r : Int32 => v = some (.int r) ∧ σ2 = (zE L, M, N)) r) : jb_V Γ d zq_13 4 [some (.ref o), some (.int x1), some (.int s.1), some (.int s.2)] [] (zE L, M, N) v σ2 := by
  exact @jb_lp_ind (Int32 × Int32) ((Int32)) (zf_13_H4 o x1 M) (fun s => jb_V Γ d zq_13 4 [some (.ref o), some (.int x1), some (.int s.1), some (.int s.2)] [] (zE L, M, N) v σ2) (fun r : Int32 => v = some (.int r) ∧ σ2 = (zE L, M, N)) (fun s r h hk => zg_13_H4 hd o x1 M N s hp h hk) s r h hK
set_option maxRecDepth 20000 in
theorem zg_13 {Γ : jb_G} {L : Nat} {d : Nat} (hd : 2 ≤ d) (o : Nat) (x1 : Int32) (M : jb_Mi) (N : jb_Ml) (hp : o = 4 ∨ o = 24) {v : Option Value} {σ2 : jb_S} {r : (Int32)} (h : zf_13 o x1 M = some r) (hK : (fun r : Int32 => v = some (.int r) ∧ σ2 = (zE L, M, N)) r) : jb_V Γ d zq_13 0 [some (.ref o), some (.int x1), none, none] [] (zE L, M, N) v σ2 := by
  rcases hp with rfl | rfl
  · obtain ⟨d, rfl⟩ : ∃ e, d = e + 1 := ⟨d - 1, by omega⟩
    unfold zf_13 at h
    refine jb_seg 4 (pc' := 4) (ls' := [some (.ref 4), some (.int x1), some (.int 0), some (.int 0)]) (st' := []) (σ' := (zE L, M, N)) (G := []) rfl trivial ?_
    exact jb_mask [true, true, true, true] rfl (zg_13_H4L hd 4 x1 M N (by decide) h hK)
  · obtain ⟨d, rfl⟩ : ∃ e, d = e + 1 := ⟨d - 1, by omega⟩
    unfold zf_13 at h
    refine jb_seg 4 (pc' := 4) (ls' := [some (.ref 24), some (.int x1), some (.int 0), some (.int 0)]) (st' := []) (σ' := (zE L, M, N)) (G := []) rfl trivial ?_
    exact jb_mask [true, true, true, true] rfl (zg_13_H4L hd 24 x1 M N (by decide) h hK)
theorem ze_13 {Γ : jb_G} {L : Nat} {d : Nat} (hd : 2 ≤ d) (o : Nat) (x1 : Int32) (M : jb_Mi) (N : jb_Ml) (hp : o = 4 ∨ o = 24) {r : (Int32)} (h : zf_13 o x1 M = some r) : jb_V Γ d zq_13 0 (jb_en 4 [(.ref o), (.int x1)]) [] (zE L, M, N) (some (.int r)) (zE L, M, N) := zg_13 hd o x1 M N hp h ⟨rfl, rfl⟩
-- X9_time
set_option maxRecDepth 20000 in
theorem zg_14 {Γ : jb_G} {L : Nat} {d : Nat} (o : Nat) (M : jb_Mi) (N : jb_Ml) (hp : o = 4 ∨ o = 24) {v : Option Value} {σ2 : jb_S} {r : Int32} (h : zf_14 o M = r) (hK : (fun r : Int32 => v = some (.int r) ∧ σ2 = (zE L, M, N)) r) : jb_V Γ d zq_14 0 [some (.ref o)] [] (zE L, M, N) v σ2 := by
  rcases hp with rfl | rfl
  · unfold zf_14 at h
    refine jb_seg 7 (pc' := 12) (ls' := [some (.ref 4)]) (st' := [(.int (((M 4 10) * 24) + (M 4 9)))]) (σ' := (zE L, M, N)) (G := []) rfl trivial ?_
    subst h
    obtain ⟨rfl, rfl⟩ := hK
    exact jb_reti rfl rfl
  · unfold zf_14 at h
    refine jb_seg 7 (pc' := 12) (ls' := [some (.ref 24)]) (st' := [(.int (((M 24 10) * 24) + (M 24 9)))]) (σ' := (zE L, M, N)) (G := []) rfl trivial ?_
    subst h
    obtain ⟨rfl, rfl⟩ := hK
    exact jb_reti rfl rfl
theorem ze_14 {Γ : jb_G} {L : Nat} {d : Nat} (o : Nat) (M : jb_Mi) (N : jb_Ml) (hp : o = 4 ∨ o = 24) {r : Int32} (h : zf_14 o M = r) : jb_V Γ d zq_14 0 (jb_en 1 [(.ref o)]) [] (zE L, M, N) (some (.int r)) (zE L, M, N) := zg_14 o M N hp h ⟨rfl, rfl⟩
-- X8_hoursOf
set_option maxRecDepth 20000 in
theorem zg_15 {Γ : jb_G} {L : Nat} {d : Nat} (x1 : Int32) (M : jb_Mi) (N : jb_Ml) {v : Option Value} {σ2 : jb_S} {r : (Int32)} (h : zf_15 x1 M = some r) (hK : (fun r : Int32 => v = some (.int r) ∧ σ2 = (zE L, M, N)) r) : jb_V Γ d zq_15 0 [some (.ref 34), some (.int x1)] [] (zE L, M, N) v σ2 := by
  unfold zf_15 at h
  refine jb_seg 2 (pc' := (if x1 < 0 then 19 else 4)) (ls' := [some (.ref 34), some (.int x1)]) (st' := []) (σ' := (zE L, M, N)) (G := []) rfl trivial ?_
  refine jb_ite (fun c => ?_) (fun c => ?_)
  · replace h := (if_pos c).symm.trans h
    refine jb_seg 1 (pc' := 20) (ls' := [some (.ref 34), some (.int x1)]) (st' := [(.int 0)]) (σ' := (zE L, M, N)) (G := []) rfl trivial ?_
    obtain rfl := Option.some.inj h
    obtain ⟨rfl, rfl⟩ := hK
    exact jb_reti rfl rfl
  · replace h := (if_neg c).symm.trans h
    refine jb_seg 3 (pc' := (if x1 < 24 then 10 else 19)) (ls' := [some (.ref 34), some (.int x1)]) (st' := []) (σ' := (zE L, M, N)) (G := []) rfl trivial ?_
    refine jb_ite (fun c => ?_) (fun c => ?_)
    · replace h := (if_pos c).symm.trans h
      obtain ⟨g1, h⟩ := jb_gd_of h
      refine jb_seg 5 (pc' := 20) (ls' := [some (.ref 34), some (.int x1)]) (st' := [(.int (M 36 x1.toNatClampNeg))]) (σ' := (zE L, M, N)) (G := [vp_in x1 24]) rfl g1 ?_
      obtain rfl := Option.some.inj h
      obtain ⟨rfl, rfl⟩ := hK
      exact jb_reti rfl rfl
    · replace h := (if_neg c).symm.trans h
      refine jb_seg 1 (pc' := 20) (ls' := [some (.ref 34), some (.int x1)]) (st' := [(.int 0)]) (σ' := (zE L, M, N)) (G := []) rfl trivial ?_
      obtain rfl := Option.some.inj h
      obtain ⟨rfl, rfl⟩ := hK
      exact jb_reti rfl rfl
theorem ze_15 {Γ : jb_G} {L : Nat} {d : Nat} (x1 : Int32) (M : jb_Mi) (N : jb_Ml) {r : (Int32)} (h : zf_15 x1 M = some r) : jb_V Γ d zq_15 0 (jb_en 2 [(.ref 34), (.int x1)]) [] (zE L, M, N) (some (.int r)) (zE L, M, N) := zg_15 x1 M N h ⟨rfl, rfl⟩
