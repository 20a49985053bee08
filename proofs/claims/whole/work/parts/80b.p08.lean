-- X8_post
set_option maxRecDepth 20000 in
theorem zg_100 {Γ : jb_G} {L : Nat} {d : Nat} (hd : 1 ≤ d) (x1 : Int32) (M : jb_Mi) (N : jb_Ml) {v : Option Value} {σ2 : jb_S} {r : (jb_Mi)} (h : zf_100 x1 M = some r) (hK : (fun r : jb_Mi => v = none ∧ σ2 = (zE L, r, N)) r) : jb_V Γ d zq_100 0 [some (.ref 34), some (.int x1)] [] (zE L, M, N) v σ2 := by
  obtain ⟨d, rfl⟩ : ∃ e, d = e + 1 := ⟨d - 1, by omega⟩
  unfold zf_100 at h
  refine jb_seg 3 (pc' := 4) (ls' := [some (.ref 34), some (.int x1)]) (st' := [(.int 23), (.int 0), (.int x1)]) (σ' := (zE L, M, N)) (G := []) rfl trivial ?_
  refine jb_callS (q' := zq_23) (As := [(.int x1), (.int 0), (.int 23)]) (rest := []) (σ1 := (zE L, M, N)) (v := some (.int (jb_b2i (zf_23 x1 0 23)))) rfl (Nat.le_of_ble_eq_true rfl) rfl zp_23 (jb_cat rfl) (Nat.le_of_ble_eq_true rfl) (Nat.le_of_ble_eq_true rfl) (Or.inl rfl) rfl (ze_23 x1 0 23 M N rfl) ?_
  refine jb_seg 1 (pc' := (if (jb_b2i (zf_23 x1 0 23)) = 0 then 10 else 11)) (ls' := [some (.ref 34), some (.int x1)]) (st' := []) (σ' := (zE L, M, N)) (G := []) rfl trivial ?_
  refine jb_ite (fun c => ?_) (fun c => ?_)
  · replace h := (if_pos c).symm.trans h
    obtain rfl := Option.some.inj h
    obtain ⟨rfl, rfl⟩ := hK
    exact jb_retv rfl rfl
  · replace h := (if_neg c).symm.trans h
    refine jb_seg 10 (pc' := 28) (ls' := [some (.ref 34), some (.int x1)]) (st' := [(.int (M 34 3)), (.int (x1 * 48)), (.ref 35), (.int 0), (.ref 37)]) (σ' := (zE L, M, N)) (G := []) rfl trivial ?_
    obtain ⟨g1, h⟩ := jb_gc_of h
    refine jb_copyi (rest := []) rfl rfl rfl g1 (Nat.le_of_ble_eq_true rfl) ?_
    obtain ⟨g2, h⟩ := jb_gd_of h
    refine jb_seg 6 (pc' := 41) (ls' := [some (.ref 34), some (.int x1)]) (st' := []) (σ' := (zE L, (jb_up (jb_cp M 37 35 0 ((x1 * 48)).toNatClampNeg ((M 34 3)).toNatClampNeg) 36 x1.toNatClampNeg ((jb_cp M 37 35 0 ((x1 * 48)).toNatClampNeg ((M 34 3)).toNatClampNeg) 34 3)), N)) (G := [vp_in x1 24]) rfl g2 ?_
    obtain rfl := Option.some.inj h
    obtain ⟨rfl, rfl⟩ := hK
    exact jb_retv rfl rfl
theorem ze_100 {Γ : jb_G} {L : Nat} {d : Nat} (hd : 1 ≤ d) (x1 : Int32) (M : jb_Mi) (N : jb_Ml) {r : (jb_Mi)} (h : zf_100 x1 M = some r) : jb_V Γ d zq_100 0 (jb_en 2 [(.ref 34), (.int x1)]) [] (zE L, M, N) (none) (zE L, r, N) := zg_100 hd x1 M N h ⟨rfl, rfl⟩
-- X9_copy
set_option maxRecDepth 20000 in
theorem zg_102 {Γ : jb_G} {L : Nat} {d : Nat} (hd : 1 ≤ d) (o : Nat) (o2 : Nat) (M : jb_Mi) (N : jb_Ml) (hp : (o = 14 ∧ o2 = 4) ∨ (o = 4 ∧ o2 = 14) ∨ (o = 24 ∧ o2 = 4) ∨ (o = 4 ∧ o2 = 24)) {v : Option Value} {σ2 : jb_S} {r : jb_Mi} (h : zf_102 o o2 M = r) (hK : (fun r : jb_Mi => v = none ∧ σ2 = (zE L, r, N)) r) : jb_V Γ d zq_102 0 [some (.ref o), some (.ref o2)] [] (zE L, M, N) v σ2 := by
  rcases hp with ⟨rfl, rfl⟩ | ⟨rfl, rfl⟩ | ⟨rfl, rfl⟩ | ⟨rfl, rfl⟩
  · obtain ⟨d, rfl⟩ : ∃ e, d = e + 1 := ⟨d - 1, by omega⟩
    unfold zf_102 at h
    refine jb_seg 7 (pc' := 12) (ls' := [some (.ref 14), some (.ref 4)]) (st' := [(.int 6), (.int 0), (.ref (14 + 1)), (.int 0), (.ref (4 + 1))]) (σ' := (zE L, M, N)) (G := []) rfl trivial ?_
    refine jb_copyi (rest := []) rfl rfl rfl (by decide) (Nat.le_of_ble_eq_true rfl) ?_
    refine jb_seg 7 (pc' := 27) (ls' := [some (.ref 14), some (.ref 4)]) (st' := [(.int 6), (.int 0), (.ref (14 + 2)), (.int 0), (.ref (4 + 2))]) (σ' := (zE L, (jb_cp M (4 + 1) (14 + 1) 0 0 6), N)) (G := []) rfl trivial ?_
    refine jb_copyi (rest := []) rfl rfl rfl (by decide) (Nat.le_of_ble_eq_true rfl) ?_
    refine jb_seg 7 (pc' := 42) (ls' := [some (.ref 14), some (.ref 4)]) (st' := [(.int 6), (.int 0), (.ref (14 + 3)), (.int 0), (.ref (4 + 3))]) (σ' := (zE L, (jb_cp (jb_cp M (4 + 1) (14 + 1) 0 0 6) (4 + 2) (14 + 2) 0 0 6), N)) (G := []) rfl trivial ?_
    refine jb_copyi (rest := []) rfl rfl rfl (by decide) (Nat.le_of_ble_eq_true rfl) ?_
    refine jb_seg 7 (pc' := 57) (ls' := [some (.ref 14), some (.ref 4)]) (st' := [(.int 24), (.int 0), (.ref (14 + 4)), (.int 0), (.ref (4 + 4))]) (σ' := (zE L, (jb_cp (jb_cp (jb_cp M (4 + 1) (14 + 1) 0 0 6) (4 + 2) (14 + 2) 0 0 6) (4 + 3) (14 + 3) 0 0 6), N)) (G := []) rfl trivial ?_
    refine jb_copyi (rest := []) rfl rfl rfl (by decide) (Nat.le_of_ble_eq_true rfl) ?_
    refine jb_seg 7 (pc' := 72) (ls' := [some (.ref 14), some (.ref 4)]) (st' := [(.int 24), (.int 0), (.ref (14 + 5)), (.int 0), (.ref (4 + 5))]) (σ' := (zE L, (jb_cp (jb_cp (jb_cp (jb_cp M (4 + 1) (14 + 1) 0 0 6) (4 + 2) (14 + 2) 0 0 6) (4 + 3) (14 + 3) 0 0 6) (4 + 4) (14 + 4) 0 0 24), N)) (G := []) rfl trivial ?_
    refine jb_copyi (rest := []) rfl rfl rfl (by decide) (Nat.le_of_ble_eq_true rfl) ?_
    refine jb_seg 7 (pc' := 87) (ls' := [some (.ref 14), some (.ref 4)]) (st' := [(.int 24), (.int 0), (.ref (14 + 6)), (.int 0), (.ref (4 + 6))]) (σ' := (zE L, (jb_cp (jb_cp (jb_cp (jb_cp (jb_cp M (4 + 1) (14 + 1) 0 0 6) (4 + 2) (14 + 2) 0 0 6) (4 + 3) (14 + 3) 0 0 6) (4 + 4) (14 + 4) 0 0 24) (4 + 5) (14 + 5) 0 0 24), N)) (G := []) rfl trivial ?_
    refine jb_copyi (rest := []) rfl rfl rfl (by decide) (Nat.le_of_ble_eq_true rfl) ?_
    refine jb_seg 7 (pc' := 102) (ls' := [some (.ref 14), some (.ref 4)]) (st' := [(.int 24), (.int 0), (.ref (14 + 7)), (.int 0), (.ref (4 + 7))]) (σ' := (zE L, (jb_cp (jb_cp (jb_cp (jb_cp (jb_cp (jb_cp M (4 + 1) (14 + 1) 0 0 6) (4 + 2) (14 + 2) 0 0 6) (4 + 3) (14 + 3) 0 0 6) (4 + 4) (14 + 4) 0 0 24) (4 + 5) (14 + 5) 0 0 24) (4 + 6) (14 + 6) 0 0 24), N)) (G := []) rfl trivial ?_
    refine jb_copyi (rest := []) rfl rfl rfl (by decide) (Nat.le_of_ble_eq_true rfl) ?_
    refine jb_seg 7 (pc' := 117) (ls' := [some (.ref 14), some (.ref 4)]) (st' := [(.int 16), (.int 0), (.ref (14 + 8)), (.int 0), (.ref (4 + 8))]) (σ' := (zE L, (jb_cp (jb_cp (jb_cp (jb_cp (jb_cp (jb_cp (jb_cp M (4 + 1) (14 + 1) 0 0 6) (4 + 2) (14 + 2) 0 0 6) (4 + 3) (14 + 3) 0 0 6) (4 + 4) (14 + 4) 0 0 24) (4 + 5) (14 + 5) 0 0 24) (4 + 6) (14 + 6) 0 0 24) (4 + 7) (14 + 7) 0 0 24), N)) (G := []) rfl trivial ?_
    refine jb_copyi (rest := []) rfl rfl rfl (by decide) (Nat.le_of_ble_eq_true rfl) ?_
    refine jb_seg 7 (pc' := 132) (ls' := [some (.ref 14), some (.ref 4)]) (st' := [(.int 16), (.int 0), (.ref (14 + 9)), (.int 0), (.ref (4 + 9))]) (σ' := (zE L, (jb_cp (jb_cp (jb_cp (jb_cp (jb_cp (jb_cp (jb_cp (jb_cp M (4 + 1) (14 + 1) 0 0 6) (4 + 2) (14 + 2) 0 0 6) (4 + 3) (14 + 3) 0 0 6) (4 + 4) (14 + 4) 0 0 24) (4 + 5) (14 + 5) 0 0 24) (4 + 6) (14 + 6) 0 0 24) (4 + 7) (14 + 7) 0 0 24) (4 + 8) (14 + 8) 0 0 16), N)) (G := []) rfl trivial ?_
    refine jb_copyi (rest := []) rfl rfl rfl (by decide) (Nat.le_of_ble_eq_true rfl) ?_
    refine jb_seg 12 (pc' := 159) (ls' := [some (.ref 14), some (.ref 4)]) (st' := []) (σ' := (zE L, (jb_up (jb_up (jb_up (jb_cp (jb_cp (jb_cp (jb_cp (jb_cp (jb_cp (jb_cp (jb_cp (jb_cp M (4 + 1) (14 + 1) 0 0 6) (4 + 2) (14 + 2) 0 0 6) (4 + 3) (14 + 3) 0 0 6) (4 + 4) (14 + 4) 0 0 24) (4 + 5) (14 + 5) 0 0 24) (4 + 6) (14 + 6) 0 0 24) (4 + 7) (14 + 7) 0 0 24) (4 + 8) (14 + 8) 0 0 16) (4 + 9) (14 + 9) 0 0 16) 14 9 ((jb_cp (jb_cp (jb_cp (jb_cp (jb_cp (jb_cp (jb_cp (jb_cp (jb_cp M (4 + 1) (14 + 1) 0 0 6) (4 + 2) (14 + 2) 0 0 6) (4 + 3) (14 + 3) 0 0 6) (4 + 4) (14 + 4) 0 0 24) (4 + 5) (14 + 5) 0 0 24) (4 + 6) (14 + 6) 0 0 24) (4 + 7) (14 + 7) 0 0 24) (4 + 8) (14 + 8) 0 0 16) (4 + 9) (14 + 9) 0 0 16) 4 9)) 14 10 ((jb_up (jb_cp (jb_cp (jb_cp (jb_cp (jb_cp (jb_cp (jb_cp (jb_cp (jb_cp M (4 + 1) (14 + 1) 0 0 6) (4 + 2) (14 + 2) 0 0 6) (4 + 3) (14 + 3) 0 0 6) (4 + 4) (14 + 4) 0 0 24) (4 + 5) (14 + 5) 0 0 24) (4 + 6) (14 + 6) 0 0 24) (4 + 7) (14 + 7) 0 0 24) (4 + 8) (14 + 8) 0 0 16) (4 + 9) (14 + 9) 0 0 16) 14 9 ((jb_cp (jb_cp (jb_cp (jb_cp (jb_cp (jb_cp (jb_cp (jb_cp (jb_cp M (4 + 1) (14 + 1) 0 0 6) (4 + 2) (14 + 2) 0 0 6) (4 + 3) (14 + 3) 0 0 6) (4 + 4) (14 + 4) 0 0 24) (4 + 5) (14 + 5) 0 0 24) (4 + 6) (14 + 6) 0 0 24) (4 + 7) (14 + 7) 0 0 24) (4 + 8) (14 + 8) 0 0 16) (4 + 9) (14 + 9) 0 0 16) 4 9)) 4 10)) 14 11 ((jb_up (jb_up (jb_cp (jb_cp (jb_cp (jb_cp (jb_cp (jb_cp (jb_cp (jb_cp (jb_cp M (4 + 1) (14 + 1) 0 0 6) (4 + 2) (14 + 2) 0 0 6) (4 + 3) (14 + 3) 0 0 6) (4 + 4) (14 + 4) 0 0 24) (4 + 5) (14 + 5) 0 0 24) (4 + 6) (14 + 6) 0 0 24) (4 + 7) (14 + 7) 0 0 24) (4 + 8) (14 + 8) 0 0 16) (4 + 9) (14 + 9) 0 0 16) 14 9 ((jb_cp (jb_cp (jb_cp (jb_cp (jb_cp (jb_cp (jb_cp (jb_cp (jb_cp M (4 + 1) (14 + 1) 0 0 6) (4 + 2) (14 + 2) 0 0 6) (4 + 3) (14 + 3) 0 0 6) (4 + 4) (14 + 4) 0 0 24) (4 + 5) (14 + 5) 0 0 24) (4 + 6) (14 + 6) 0 0 24) (4 + 7) (14 + 7) 0 0 24) (4 + 8) (14 + 8) 0 0 16) (4 + 9) (14 + 9) 0 0 16) 4 9)) 14 10 ((jb_up (jb_cp (jb_cp (jb_cp (jb_cp (jb_cp (jb_cp (jb_cp (jb_cp (jb_cp M (4 + 1) (14 + 1) 0 0 6) (4 + 2) (14 + 2) 0 0 6) (4 + 3) (14 + 3) 0 0 6) (4 + 4) (14 + 4) 0 0 24) (4 + 5) (14 + 5) 0 0 24) (4 + 6) (14 + 6) 0 0 24) (4 + 7) (14 + 7) 0 0 24) (4 + 8) (14 + 8) 0 0 16) (4 + 9) (14 + 9) 0 0 16) 14 9 ((jb_cp (jb_cp (jb_cp (jb_cp (jb_cp (jb_cp (jb_cp (jb_cp (jb_cp M (4 + 1) (14 + 1) 0 0 6) (4 + 2) (14 + 2) 0 0 6) (4 + 3) (14 + 3) 0 0 6) (4 + 4) (14 + 4) 0 0 24) (4 + 5) (14 + 5) 0 0 24) (4 + 6) (14 + 6) 0 0 24) (4 + 7) (14 + 7) 0 0 24) (4 + 8) (14 + 8) 0 0 16) (4 + 9) (14 + 9) 0 0 16) 4 9)) 4 10)) 4 11)), N)) (G := []) rfl trivial ?_
    subst h
    obtain ⟨rfl, rfl⟩ := hK
    exact jb_retv rfl rfl
  · obtain ⟨d, rfl⟩ : ∃ e, d = e + 1 := ⟨d - 1, by omega⟩
    unfold zf_102 at h
    refine jb_seg 7 (pc' := 12) (ls' := [some (.ref 4), some (.ref 14)]) (st' := [(.int 6), (.int 0), (.ref (4 + 1)), (.int 0), (.ref (14 + 1))]) (σ' := (zE L, M, N)) (G := []) rfl trivial ?_
    refine jb_copyi (rest := []) rfl rfl rfl (by decide) (Nat.le_of_ble_eq_true rfl) ?_
    refine jb_seg 7 (pc' := 27) (ls' := [some (.ref 4), some (.ref 14)]) (st' := [(.int 6), (.int 0), (.ref (4 + 2)), (.int 0), (.ref (14 + 2))]) (σ' := (zE L, (jb_cp M (14 + 1) (4 + 1) 0 0 6), N)) (G := []) rfl trivial ?_
    refine jb_copyi (rest := []) rfl rfl rfl (by decide) (Nat.le_of_ble_eq_true rfl) ?_
    refine jb_seg 7 (pc' := 42) (ls' := [some (.ref 4), some (.ref 14)]) (st' := [(.int 6), (.int 0), (.ref (4 + 3)), (.int 0), (.ref (14 + 3))]) (σ' := (zE L, (jb_cp (jb_cp M (14 + 1) (4 + 1) 0 0 6) (14 + 2) (4 + 2) 0 0 6), N)) (G := []) rfl trivial ?_
    refine jb_copyi (rest := []) rfl rfl rfl (by decide) (Nat.le_of_ble_eq_true rfl) ?_
    refine jb_seg 7 (pc' := 57) (ls' := [some (.ref 4), some (.ref 14)]) (st' := [(.int 24), (.int 0), (.ref (4 + 4)), (.int 0), (.ref (14 + 4))]) (σ' := (zE L, (jb_cp (jb_cp (jb_cp M (14 + 1) (4 + 1) 0 0 6) (14 + 2) (4 + 2) 0 0 6) (14 + 3) (4 + 3) 0 0 6), N)) (G := []) rfl trivial ?_
    refine jb_copyi (rest := []) rfl rfl rfl (by decide) (Nat.le_of_ble_eq_true rfl) ?_
    refine jb_seg 7 (pc' := 72) (ls' := [some (.ref 4), some (.ref 14)]) (st' := [(.int 24), (.int 0), (.ref (4 + 5)), (.int 0), (.ref (14 + 5))]) (σ' := (zE L, (jb_cp (jb_cp (jb_cp (jb_cp M (14 + 1) (4 + 1) 0 0 6) (14 + 2) (4 + 2) 0 0 6) (14 + 3) (4 + 3) 0 0 6) (14 + 4) (4 + 4) 0 0 24), N)) (G := []) rfl trivial ?_
    refine jb_copyi (rest := []) rfl rfl rfl (by decide) (Nat.le_of_ble_eq_true rfl) ?_
    refine jb_seg 7 (pc' := 87) (ls' := [some (.ref 4), some (.ref 14)]) (st' := [(.int 24), (.int 0), (.ref (4 + 6)), (.int 0), (.ref (14 + 6))]) (σ' := (zE L, (jb_cp (jb_cp (jb_cp (jb_cp (jb_cp M (14 + 1) (4 + 1) 0 0 6) (14 + 2) (4 + 2) 0 0 6) (14 + 3) (4 + 3) 0 0 6) (14 + 4) (4 + 4) 0 0 24) (14 + 5) (4 + 5) 0 0 24), N)) (G := []) rfl trivial ?_
    refine jb_copyi (rest := []) rfl rfl rfl (by decide) (Nat.le_of_ble_eq_true rfl) ?_
    refine jb_seg 7 (pc' := 102) (ls' := [some (.ref 4), some (.ref 14)]) (st' := [(.int 24), (.int 0), (.ref (4 + 7)), (.int 0), (.ref (14 + 7))]) (σ' := (zE L, (jb_cp (jb_cp (jb_cp (jb_cp (jb_cp (jb_cp M (14 + 1) (4 + 1) 0 0 6) (14 + 2) (4 + 2) 0 0 6) (14 + 3) (4 + 3) 0 0 6) (14 + 4) (4 + 4) 0 0 24) (14 + 5) (4 + 5) 0 0 24) (14 + 6) (4 + 6) 0 0 24), N)) (G := []) rfl trivial ?_
    refine jb_copyi (rest := []) rfl rfl rfl (by decide) (Nat.le_of_ble_eq_true rfl) ?_
    refine jb_seg 7 (pc' := 117) (ls' := [some (.ref 4), some (.ref 14)]) (st' := [(.int 16), (.int 0), (.ref (4 + 8)), (.int 0), (.ref (14 + 8))]) (σ' := (zE L, (jb_cp (jb_cp (jb_cp (jb_cp (jb_cp (jb_cp (jb_cp M (14 + 1) (4 + 1) 0 0 6) (14 + 2) (4 + 2) 0 0 6) (14 + 3) (4 + 3) 0 0 6) (14 + 4) (4 + 4) 0 0 24) (14 + 5) (4 + 5) 0 0 24) (14 + 6) (4 + 6) 0 0 24) (14 + 7) (4 + 7) 0 0 24), N)) (G := []) rfl trivial ?_
    refine jb_copyi (rest := []) rfl rfl rfl (by decide) (Nat.le_of_ble_eq_true rfl) ?_
    refine jb_seg 7 (pc' := 132) (ls' := [some (.ref 4), some (.ref 14)]) (st' := [(.int 16), (.int 0), (.ref (4 + 9)), (.int 0), (.ref (14 + 9))]) (σ' := (zE L, (jb_cp (jb_cp (jb_cp (jb_cp (jb_cp (jb_cp (jb_cp (jb_cp M (14 + 1) (4 + 1) 0 0 6) (14 + 2) (4 + 2) 0 0 6) (14 + 3) (4 + 3) 0 0 6) (14 + 4) (4 + 4) 0 0 24) (14 + 5) (4 + 5) 0 0 24) (14 + 6) (4 + 6) 0 0 24) (14 + 7) (4 + 7) 0 0 24) (14 + 8) (4 + 8) 0 0 16), N)) (G := []) rfl trivial ?_
    refine jb_copyi (rest := []) rfl rfl rfl (by decide) (Nat.le_of_ble_eq_true rfl) ?_
    refine jb_seg 12 (pc' := 159) (ls' := [some (.ref 4), some (.ref 14)]) (st' := []) (σ' := (zE L, (jb_up (jb_up (jb_up (jb_cp (jb_cp (jb_cp (jb_cp (jb_cp (jb_cp (jb_cp (jb_cp (jb_cp M (14 + 1) (4 + 1) 0 0 6) (14 + 2) (4 + 2) 0 0 6) (14 + 3) (4 + 3) 0 0 6) (14 + 4) (4 + 4) 0 0 24) (14 + 5) (4 + 5) 0 0 24) (14 + 6) (4 + 6) 0 0 24) (14 + 7) (4 + 7) 0 0 24) (14 + 8) (4 + 8) 0 0 16) (14 + 9) (4 + 9) 0 0 16) 4 9 ((jb_cp (jb_cp (jb_cp (jb_cp (jb_cp (jb_cp (jb_cp (jb_cp (jb_cp M (14 + 1) (4 + 1) 0 0 6) (14 + 2) (4 + 2) 0 0 6) (14 + 3) (4 + 3) 0 0 6) (14 + 4) (4 + 4) 0 0 24) (14 + 5) (4 + 5) 0 0 24) (14 + 6) (4 + 6) 0 0 24) (14 + 7) (4 + 7) 0 0 24) (14 + 8) (4 + 8) 0 0 16) (14 + 9) (4 + 9) 0 0 16) 14 9)) 4 10 ((jb_up (jb_cp (jb_cp (jb_cp (jb_cp (jb_cp (jb_cp (jb_cp (jb_cp (jb_cp M (14 + 1) (4 + 1) 0 0 6) (14 + 2) (4 + 2) 0 0 6) (14 + 3) (4 + 3) 0 0 6) (14 + 4) (4 + 4) 0 0 24) (14 + 5) (4 + 5) 0 0 24) (14 + 6) (4 + 6) 0 0 24) (14 + 7) (4 + 7) 0 0 24) (14 + 8) (4 + 8) 0 0 16) (14 + 9) (4 + 9) 0 0 16) 4 9 ((jb_cp (jb_cp (jb_cp (jb_cp (jb_cp (jb_cp (jb_cp (jb_cp (jb_cp M (14 + 1) (4 + 1) 0 0 6) (14 + 2) (4 + 2) 0 0 6) (14 + 3) (4 + 3) 0 0 6) (14 + 4) (4 + 4) 0 0 24) (14 + 5) (4 + 5) 0 0 24) (14 + 6) (4 + 6) 0 0 24) (14 + 7) (4 + 7) 0 0 24) (14 + 8) (4 + 8) 0 0 16) (14 + 9) (4 + 9) 0 0 16) 14 9)) 14 10)) 4 11 ((jb_up (jb_up (jb_cp (jb_cp (jb_cp (jb_cp (jb_cp (jb_cp (jb_cp (jb_cp (jb_cp M (14 + 1) (4 + 1) 0 0 6) (14 + 2) (4 + 2) 0 0 6) (14 + 3) (4 + 3) 0 0 6) (14 + 4) (4 + 4) 0 0 24) (14 + 5) (4 + 5) 0 0 24) (14 + 6) (4 + 6) 0 0 24) (14 + 7) (4 + 7) 0 0 24) (14 + 8) (4 + 8) 0 0 16) (14 + 9) (4 + 9) 0 0 16) 4 9 ((jb_cp (jb_cp (jb_cp (jb_cp (jb_cp (jb_cp (jb_cp (jb_cp (jb_cp M (14 + 1) (4 + 1) 0 0 6) (14 + 2) (4 + 2) 0 0 6) (14 + 3) (4 + 3) 0 0 6) (14 + 4) (4 + 4) 0 0 24) (14 + 5) (4 + 5) 0 0 24) (14 + 6) (4 + 6) 0 0 24) (14 + 7) (4 + 7) 0 0 24) (14 + 8) (4 + 8) 0 0 16) (14 + 9) (4 + 9) 0 0 16) 14 9)) 4 10 ((jb_up (jb_cp (jb_cp (jb_cp (jb_cp (jb_cp (jb_cp (jb_cp (jb_cp (jb_cp M (14 + 1) (4 + 1) 0 0 6) (14 + 2) (4 + 2) 0 0 6) (14 + 3) (4 + 3) 0 0 6) (14 + 4) (4 + 4) 0 0 24) (14 + 5) (4 + 5) 0 0 24) (14 + 6) (4 + 6) 0 0 24) (14 + 7) (4 + 7) 0 0 24) (14 + 8) (4 + 8) 0 0 16) (14 + 9) (4 + 9) 0 0 16) 4 9 ((jb_cp (jb_cp (jb_cp (jb_cp (jb_cp (jb_cp (jb_cp (jb_cp (jb_cp M (14 + 1) (4 + 1) 0 0 6) (14 + 2) (4 + 2) 0 0 6) (14 + 3) (4 + 3) 0 0 6) (14 + 4) (4 + 4) 0 0 24) (14 + 5) (4 + 5) 0 0 24) (14 + 6) (4 + 6) 0 0 24) (14 + 7) (4 + 7) 0 0 24) (14 + 8) (4 + 8) 0 0 16) (14 + 9) (4 + 9) 0 0 16) 14 9)) 14 10)) 14 11)), N)) (G := []) rfl trivial ?_
    subst h
    obtain ⟨rfl, rfl⟩ := hK
    exact jb_retv rfl rfl
  · obtain ⟨d, rfl⟩ : ∃ e, d = e + 1 := ⟨d - 1, by omega⟩
    unfold zf_102 at h
    refine jb_seg 7 (pc' := 12) (ls' := [some (.ref 24), some (.ref 4)]) (st' := [(.int 6), (.int 0), (.ref (24 + 1)), (.int 0), (.ref (4 + 1))]) (σ' := (zE L, M, N)) (G := []) rfl trivial ?_
    refine jb_copyi (rest := []) rfl rfl rfl (by decide) (Nat.le_of_ble_eq_true rfl) ?_
    refine jb_seg 7 (pc' := 27) (ls' := [some (.ref 24), some (.ref 4)]) (st' := [(.int 6), (.int 0), (.ref (24 + 2)), (.int 0), (.ref (4 + 2))]) (σ' := (zE L, (jb_cp M (4 + 1) (24 + 1) 0 0 6), N)) (G := []) rfl trivial ?_
    refine jb_copyi (rest := []) rfl rfl rfl (by decide) (Nat.le_of_ble_eq_true rfl) ?_
    refine jb_seg 7 (pc' := 42) (ls' := [some (.ref 24), some (.ref 4)]) (st' := [(.int 6), (.int 0), (.ref (24 + 3)), (.int 0), (.ref (4 + 3))]) (σ' := (zE L, (jb_cp (jb_cp M (4 + 1) (24 + 1) 0 0 6) (4 + 2) (24 + 2) 0 0 6), N)) (G := []) rfl trivial ?_
    refine jb_copyi (rest := []) rfl rfl rfl (by decide) (Nat.le_of_ble_eq_true rfl) ?_
    refine jb_seg 7 (pc' := 57) (ls' := [some (.ref 24), some (.ref 4)]) (st' := [(.int 24), (.int 0), (.ref (24 + 4)), (.int 0), (.ref (4 + 4))]) (σ' := (zE L, (jb_cp (jb_cp (jb_cp M (4 + 1) (24 + 1) 0 0 6) (4 + 2) (24 + 2) 0 0 6) (4 + 3) (24 + 3) 0 0 6), N)) (G := []) rfl trivial ?_
    refine jb_copyi (rest := []) rfl rfl rfl (by decide) (Nat.le_of_ble_eq_true rfl) ?_
    refine jb_seg 7 (pc' := 72) (ls' := [some (.ref 24), some (.ref 4)]) (st' := [(.int 24), (.int 0), (.ref (24 + 5)), (.int 0), (.ref (4 + 5))]) (σ' := (zE L, (jb_cp (jb_cp (jb_cp (jb_cp M (4 + 1) (24 + 1) 0 0 6) (4 + 2) (24 + 2) 0 0 6) (4 + 3) (24 + 3) 0 0 6) (4 + 4) (24 + 4) 0 0 24), N)) (G := []) rfl trivial ?_
    refine jb_copyi (rest := []) rfl rfl rfl (by decide) (Nat.le_of_ble_eq_true rfl) ?_
    refine jb_seg 7 (pc' := 87) (ls' := [some (.ref 24), some (.ref 4)]) (st' := [(.int 24), (.int 0), (.ref (24 + 6)), (.int 0), (.ref (4 + 6))]) (σ' := (zE L, (jb_cp (jb_cp (jb_cp (jb_cp (jb_cp M (4 + 1) (24 + 1) 0 0 6) (4 + 2) (24 + 2) 0 0 6) (4 + 3) (24 + 3) 0 0 6) (4 + 4) (24 + 4) 0 0 24) (4 + 5) (24 + 5) 0 0 24), N)) (G := []) rfl trivial ?_
    refine jb_copyi (rest := []) rfl rfl rfl (by decide) (Nat.le_of_ble_eq_true rfl) ?_
    refine jb_seg 7 (pc' := 102) (ls' := [some (.ref 24), some (.ref 4)]) (st' := [(.int 24), (.int 0), (.ref (24 + 7)), (.int 0), (.ref (4 + 7))]) (σ' := (zE L, (jb_cp (jb_cp (jb_cp (jb_cp (jb_cp (jb_cp M (4 + 1) (24 + 1) 0 0 6) (4 + 2) (24 + 2) 0 0 6) (4 + 3) (24 + 3) 0 0 6) (4 + 4) (24 + 4) 0 0 24) (4 + 5) (24 + 5) 0 0 24) (4 + 6) (24 + 6) 0 0 24), N)) (G := []) rfl trivial ?_
    refine jb_copyi (rest := []) rfl rfl rfl (by decide) (Nat.le_of_ble_eq_true rfl) ?_
    refine jb_seg 7 (pc' := 117) (ls' := [some (.ref 24), some (.ref 4)]) (st' := [(.int 16), (.int 0), (.ref (24 + 8)), (.int 0), (.ref (4 + 8))]) (σ' := (zE L, (jb_cp (jb_cp (jb_cp (jb_cp (jb_cp (jb_cp (jb_cp M (4 + 1) (24 + 1) 0 0 6) (4 + 2) (24 + 2) 0 0 6) (4 + 3) (24 + 3) 0 0 6) (4 + 4) (24 + 4) 0 0 24) (4 + 5) (24 + 5) 0 0 24) (4 + 6) (24 + 6) 0 0 24) (4 + 7) (24 + 7) 0 0 24), N)) (G := []) rfl trivial ?_
    refine jb_copyi (rest := []) rfl rfl rfl (by decide) (Nat.le_of_ble_eq_true rfl) ?_
    refine jb_seg 7 (pc' := 132) (ls' := [some (.ref 24), some (.ref 4)]) (st' := [(.int 16), (.int 0), (.ref (24 + 9)), (.int 0), (.ref (4 + 9))]) (σ' := (zE L, (jb_cp (jb_cp (jb_cp (jb_cp (jb_cp (jb_cp (jb_cp (jb_cp M (4 + 1) (24 + 1) 0 0 6) (4 + 2) (24 + 2) 0 0 6) (4 + 3) (24 + 3) 0 0 6) (4 + 4) (24 + 4) 0 0 24) (4 + 5) (24 + 5) 0 0 24) (4 + 6) (24 + 6) 0 0 24) (4 + 7) (24 + 7) 0 0 24) (4 + 8) (24 + 8) 0 0 16), N)) (G := []) rfl trivial ?_
    refine jb_copyi (rest := []) rfl rfl rfl (by decide) (Nat.le_of_ble_eq_true rfl) ?_
    refine jb_seg 12 (pc' := 159) (ls' := [some (.ref 24), some (.ref 4)]) (st' := []) (σ' := (zE L, (jb_up (jb_up (jb_up (jb_cp (jb_cp (jb_cp (jb_cp (jb_cp (jb_cp (jb_cp (jb_cp (jb_cp M (4 + 1) (24 + 1) 0 0 6) (4 + 2) (24 + 2) 0 0 6) (4 + 3) (24 + 3) 0 0 6) (4 + 4) (24 + 4) 0 0 24) (4 + 5) (24 + 5) 0 0 24) (4 + 6) (24 + 6) 0 0 24) (4 + 7) (24 + 7) 0 0 24) (4 + 8) (24 + 8) 0 0 16) (4 + 9) (24 + 9) 0 0 16) 24 9 ((jb_cp (jb_cp (jb_cp (jb_cp (jb_cp (jb_cp (jb_cp (jb_cp (jb_cp M (4 + 1) (24 + 1) 0 0 6) (4 + 2) (24 + 2) 0 0 6) (4 + 3) (24 + 3) 0 0 6) (4 + 4) (24 + 4) 0 0 24) (4 + 5) (24 + 5) 0 0 24) (4 + 6) (24 + 6) 0 0 24) (4 + 7) (24 + 7) 0 0 24) (4 + 8) (24 + 8) 0 0 16) (4 + 9) (24 + 9) 0 0 16) 4 9)) 24 10 ((jb_up (jb_cp (jb_cp (jb_cp (jb_cp (jb_cp (jb_cp (jb_cp (jb_cp (jb_cp M (4 + 1) (24 + 1) 0 0 6) (4 + 2) (24 + 2) 0 0 6) (4 + 3) (24 + 3) 0 0 6) (4 + 4) (24 + 4) 0 0 24) (4 + 5) (24 + 5) 0 0 24) (4 + 6) (24 + 6) 0 0 24) (4 + 7) (24 + 7) 0 0 24) (4 + 8) (24 + 8) 0 0 16) (4 + 9) (24 + 9) 0 0 16) 24 9 ((jb_cp (jb_cp (jb_cp (jb_cp (jb_cp (jb_cp (jb_cp (jb_cp (jb_cp M (4 + 1) (24 + 1) 0 0 6) (4 + 2) (24 + 2) 0 0 6) (4 + 3) (24 + 3) 0 0 6) (4 + 4) (24 + 4) 0 0 24) (4 + 5) (24 + 5) 0 0 24) (4 + 6) (24 + 6) 0 0 24) (4 + 7) (24 + 7) 0 0 24) (4 + 8) (24 + 8) 0 0 16) (4 + 9) (24 + 9) 0 0 16) 4 9)) 4 10)) 24 11 ((jb_up (jb_up (jb_cp (jb_cp (jb_cp (jb_cp (jb_cp (jb_cp (jb_cp (jb_cp (jb_cp M (4 + 1) (24 + 1) 0 0 6) (4 + 2) (24 + 2) 0 0 6) (4 + 3) (24 + 3) 0 0 6) (4 + 4) (24 + 4) 0 0 24) (4 + 5) (24 + 5) 0 0 24) (4 + 6) (24 + 6) 0 0 24) (4 + 7) (24 + 7) 0 0 24) (4 + 8) (24 + 8) 0 0 16) (4 + 9) (24 + 9) 0 0 16) 24 9 ((jb_cp (jb_cp (jb_cp (jb_cp (jb_cp (jb_cp (jb_cp (jb_cp (jb_cp M (4 + 1) (24 + 1) 0 0 6) (4 + 2) (24 + 2) 0 0 6) (4 + 3) (24 + 3) 0 0 6) (4 + 4) (24 + 4) 0 0 24) (4 + 5) (24 + 5) 0 0 24) (4 + 6) (24 + 6) 0 0 24) (4 + 7) (24 + 7) 0 0 24) (4 + 8) (24 + 8) 0 0 16) (4 + 9) (24 + 9) 0 0 16) 4 9)) 24 10 ((jb_up (jb_cp (jb_cp (jb_cp (jb_cp (jb_cp (jb_cp (jb_cp (jb_cp (jb_cp M (4 + 1) (24 + 1) 0 0 6) (4 + 2) (24 + 2) 0 0 6) (4 + 3) (24 + 3) 0 0 6) (4 + 4) (24 + 4) 0 0 24) (4 + 5) (24 + 5) 0 0 24) (4 + 6) (24 + 6) 0 0 24) (4 + 7) (24 + 7) 0 0 24) (4 + 8) (24 + 8) 0 0 16) (4 + 9) (24 + 9) 0 0 16) 24 9 ((jb_cp (jb_cp (jb_cp (jb_cp (jb_cp (jb_cp (jb_cp (jb_cp (jb_cp M (4 + 1) (24 + 1) 0 0 6) (4 + 2) (24 + 2) 0 0 6) (4 + 3) (24 + 3) 0 0 6) (4 + 4) (24 + 4) 0 0 24) (4 + 5) (24 + 5) 0 0 24) (4 + 6) (24 + 6) 0 0 24) (4 + 7) (24 + 7) 0 0 24) (4 + 8) (24 + 8) 0 0 16) (4 + 9) (24 + 9) 0 0 16) 4 9)) 4 10)) 4 11)), N)) (G := []) rfl trivial ?_
    subst h
    obtain ⟨rfl, rfl⟩ := hK
    exact jb_retv rfl rfl
  · obtain ⟨d, rfl⟩ : ∃ e, d = e + 1 := ⟨d - 1, by omega⟩
    unfold zf_102 at h
    refine jb_seg 7 (pc' := 12) (ls' := [some (.ref 4), some (.ref 24)]) (st' := [(.int 6), (.int 0), (.ref (4 + 1)), (.int 0), (.ref (24 + 1))]) (σ' := (zE L, M, N)) (G := []) rfl trivial ?_
    refine jb_copyi (rest := []) rfl rfl rfl (by decide) (Nat.le_of_ble_eq_true rfl) ?_
    refine jb_seg 7 (pc' := 27) (ls' := [some (.ref 4), some (.ref 24)]) (st' := [(.int 6), (.int 0), (.ref (4 + 2)), (.int 0), (.ref (24 + 2))]) (σ' := (zE L, (jb_cp M (24 + 1) (4 + 1) 0 0 6), N)) (G := []) rfl trivial ?_
    refine jb_copyi (rest := []) rfl rfl rfl (by decide) (Nat.le_of_ble_eq_true rfl) ?_
    refine jb_seg 7 (pc' := 42) (ls' := [some (.ref 4), some (.ref 24)]) (st' := [(.int 6), (.int 0), (.ref (4 + 3)), (.int 0), (.ref (24 + 3))]) (σ' := (zE L, (jb_cp (jb_cp M (24 + 1) (4 + 1) 0 0 6) (24 + 2) (4 + 2) 0 0 6), N)) (G := []) rfl trivial ?_
    refine jb_copyi (rest := []) rfl rfl rfl (by decide) (Nat.le_of_ble_eq_true rfl) ?_
    refine jb_seg 7 (pc' := 57) (ls' := [some (.ref 4), some (.ref 24)]) (st' := [(.int 24), (.int 0), (.ref (4 + 4)), (.int 0), (.ref (24 + 4))]) (σ' := (zE L, (jb_cp (jb_cp (jb_cp M (24 + 1) (4 + 1) 0 0 6) (24 + 2) (4 + 2) 0 0 6) (24 + 3) (4 + 3) 0 0 6), N)) (G := []) rfl trivial ?_
    refine jb_copyi (rest := []) rfl rfl rfl (by decide) (Nat.le_of_ble_eq_true rfl) ?_
    refine jb_seg 7 (pc' := 72) (ls' := [some (.ref 4), some (.ref 24)]) (st' := [(.int 24), (.int 0), (.ref (4 + 5)), (.int 0), (.ref (24 + 5))]) (σ' := (zE L, (jb_cp (jb_cp (jb_cp (jb_cp M (24 + 1) (4 + 1) 0 0 6) (24 + 2) (4 + 2) 0 0 6) (24 + 3) (4 + 3) 0 0 6) (24 + 4) (4 + 4) 0 0 24), N)) (G := []) rfl trivial ?_
    refine jb_copyi (rest := []) rfl rfl rfl (by decide) (Nat.le_of_ble_eq_true rfl) ?_
    refine jb_seg 7 (pc' := 87) (ls' := [some (.ref 4), some (.ref 24)]) (st' := [(.int 24), (.int 0), (.ref (4 + 6)), (.int 0), (.ref (24 + 6))]) (σ' := (zE L, (jb_cp (jb_cp (jb_cp (jb_cp (jb_cp M (24 + 1) (4 + 1) 0 0 6) (24 + 2) (4 + 2) 0 0 6) (24 + 3) (4 + 3) 0 0 6) (24 + 4) (4 + 4) 0 0 24) (24 + 5) (4 + 5) 0 0 24), N)) (G := []) rfl trivial ?_
    refine jb_copyi (rest := []) rfl rfl rfl (by decide) (Nat.le_of_ble_eq_true rfl) ?_
    refine jb_seg 7 (pc' := 102) (ls' := [some (.ref 4), some (.ref 24)]) (st' := [(.int 24), (.int 0), (.ref (4 + 7)), (.int 0), (.ref (24 + 7))]) (σ' := (zE L, (jb_cp (jb_cp (jb_cp (jb_cp (jb_cp (jb_cp M (24 + 1) (4 + 1) 0 0 6) (24 + 2) (4 + 2) 0 0 6) (24 + 3) (4 + 3) 0 0 6) (24 + 4) (4 + 4) 0 0 24) (24 + 5) (4 + 5) 0 0 24) (24 + 6) (4 + 6) 0 0 24), N)) (G := []) rfl trivial ?_
    refine jb_copyi (rest := []) rfl rfl rfl (by decide) (Nat.le_of_ble_eq_true rfl) ?_
    refine jb_seg 7 (pc' := 117) (ls' := [some (.ref 4), some (.ref 24)]) (st' := [(.int 16), (.int 0), (.ref (4 + 8)), (.int 0), (.ref (24 + 8))]) (σ' := (zE L, (jb_cp (jb_cp (jb_cp (jb_cp (jb_cp (jb_cp (jb_cp M (24 + 1) (4 + 1) 0 0 6) (24 + 2) (4 + 2) 0 0 6) (24 + 3) (4 + 3) 0 0 6) (24 + 4) (4 + 4) 0 0 24) (24 + 5) (4 + 5) 0 0 24) (24 + 6) (4 + 6) 0 0 24) (24 + 7) (4 + 7) 0 0 24), N)) (G := []) rfl trivial ?_
    refine jb_copyi (rest := []) rfl rfl rfl (by decide) (Nat.le_of_ble_eq_true rfl) ?_
    refine jb_seg 7 (pc' := 132) (ls' := [some (.ref 4), some (.ref 24)]) (st' := [(.int 16), (.int 0), (.ref (4 + 9)), (.int 0), (.ref (24 + 9))]) (σ' := (zE L, (jb_cp (jb_cp (jb_cp (jb_cp (jb_cp (jb_cp (jb_cp (jb_cp M (24 + 1) (4 + 1) 0 0 6) (24 + 2) (4 + 2) 0 0 6) (24 + 3) (4 + 3) 0 0 6) (24 + 4) (4 + 4) 0 0 24) (24 + 5) (4 + 5) 0 0 24) (24 + 6) (4 + 6) 0 0 24) (24 + 7) (4 + 7) 0 0 24) (24 + 8) (4 + 8) 0 0 16), N)) (G := []) rfl trivial ?_
    refine jb_copyi (rest := []) rfl rfl rfl (by decide) (Nat.le_of_ble_eq_true rfl) ?_
    refine jb_seg 12 (pc' := 159) (ls' := [some (.ref 4), some (.ref 24)]) (st' := []) (σ' := (zE L, (jb_up (jb_up (jb_up (jb_cp (jb_cp (jb_cp (jb_cp (jb_cp (jb_cp (jb_cp (jb_cp (jb_cp M (24 + 1) (4 + 1) 0 0 6) (24 + 2) (4 + 2) 0 0 6) (24 + 3) (4 + 3) 0 0 6) (24 + 4) (4 + 4) 0 0 24) (24 + 5) (4 + 5) 0 0 24) (24 + 6) (4 + 6) 0 0 24) (24 + 7) (4 + 7) 0 0 24) (24 + 8) (4 + 8) 0 0 16) (24 + 9) (4 + 9) 0 0 16) 4 9 ((jb_cp (jb_cp (jb_cp (jb_cp (jb_cp (jb_cp (jb_cp (jb_cp (jb_cp M (24 + 1) (4 + 1) 0 0 6) (24 + 2) (4 + 2) 0 0 6) (24 + 3) (4 + 3) 0 0 6) (24 + 4) (4 + 4) 0 0 24) (24 + 5) (4 + 5) 0 0 24) (24 + 6) (4 + 6) 0 0 24) (24 + 7) (4 + 7) 0 0 24) (24 + 8) (4 + 8) 0 0 16) (24 + 9) (4 + 9) 0 0 16) 24 9)) 4 10 ((jb_up (jb_cp (jb_cp (jb_cp (jb_cp (jb_cp (jb_cp (jb_cp (jb_cp (jb_cp M (24 + 1) (4 + 1) 0 0 6) (24 + 2) (4 + 2) 0 0 6) (24 + 3) (4 + 3) 0 0 6) (24 + 4) (4 + 4) 0 0 24) (24 + 5) (4 + 5) 0 0 24) (24 + 6) (4 + 6) 0 0 24) (24 + 7) (4 + 7) 0 0 24) (24 + 8) (4 + 8) 0 0 16) (24 + 9) (4 + 9) 0 0 16) 4 9 ((jb_cp (jb_cp (jb_cp (jb_cp (jb_cp (jb_cp (jb_cp (jb_cp (jb_cp M (24 + 1) (4 + 1) 0 0 6) (24 + 2) (4 + 2) 0 0 6) (24 + 3) (4 + 3) 0 0 6) (24 + 4) (4 + 4) 0 0 24) (24 + 5) (4 + 5) 0 0 24) (24 + 6) (4 + 6) 0 0 24) (24 + 7) (4 + 7) 0 0 24) (24 + 8) (4 + 8) 0 0 16) (24 + 9) (4 + 9) 0 0 16) 24 9)) 24 10)) 4 11 ((jb_up (jb_up (jb_cp (jb_cp (jb_cp (jb_cp (jb_cp (jb_cp (jb_cp (jb_cp (jb_cp M (24 + 1) (4 + 1) 0 0 6) (24 + 2) (4 + 2) 0 0 6) (24 + 3) (4 + 3) 0 0 6) (24 + 4) (4 + 4) 0 0 24) (24 + 5) (4 + 5) 0 0 24) (24 + 6) (4 + 6) 0 0 24) (24 + 7) (4 + 7) 0 0 24) (24 + 8) (4 + 8) 0 0 16) (24 + 9) (4 + 9) 0 0 16) 4 9 ((jb_cp (jb_cp (jb_cp (jb_cp (jb_cp (jb_cp (jb_cp (jb_cp (jb_cp M (24 + 1) (4 + 1) 0 0 6) (24 + 2) (4 + 2) 0 0 6) (24 + 3) (4 + 3) 0 0 6) (24 + 4) (4 + 4) 0 0 24) (24 + 5) (4 + 5) 0 0 24) (24 + 6) (4 + 6) 0 0 24) (24 + 7) (4 + 7) 0 0 24) (24 + 8) (4 + 8) 0 0 16) (24 + 9) (4 + 9) 0 0 16) 24 9)) 4 10 ((jb_up (jb_cp (jb_cp (jb_cp (jb_cp (jb_cp (jb_cp (jb_cp (jb_cp (jb_cp M (24 + 1) (4 + 1) 0 0 6) (24 + 2) (4 + 2) 0 0 6) (24 + 3) (4 + 3) 0 0 6) (24 + 4) (4 + 4) 0 0 24) (24 + 5) (4 + 5) 0 0 24) (24 + 6) (4 + 6) 0 0 24) (24 + 7) (4 + 7) 0 0 24) (24 + 8) (4 + 8) 0 0 16) (24 + 9) (4 + 9) 0 0 16) 4 9 ((jb_cp (jb_cp (jb_cp (jb_cp (jb_cp (jb_cp (jb_cp (jb_cp (jb_cp M (24 + 1) (4 + 1) 0 0 6) (24 + 2) (4 + 2) 0 0 6) (24 + 3) (4 + 3) 0 0 6) (24 + 4) (4 + 4) 0 0 24) (24 + 5) (4 + 5) 0 0 24) (24 + 6) (4 + 6) 0 0 24) (24 + 7) (4 + 7) 0 0 24) (24 + 8) (4 + 8) 0 0 16) (24 + 9) (4 + 9) 0 0 16) 24 9)) 24 10)) 24 11)), N)) (G := []) rfl trivial ?_
    subst h
    obtain ⟨rfl, rfl⟩ := hK
    exact jb_retv rfl rfl
theorem ze_102 {Γ : jb_G} {L : Nat} {d : Nat} (hd : 1 ≤ d) (o : Nat) (o2 : Nat) (M : jb_Mi) (N : jb_Ml) (hp : (o = 14 ∧ o2 = 4) ∨ (o = 4 ∧ o2 = 14) ∨ (o = 24 ∧ o2 = 4) ∨ (o = 4 ∧ o2 = 24)) {r : jb_Mi} (h : zf_102 o o2 M = r) : jb_V Γ d zq_102 0 (jb_en 2 [(.ref o), (.ref o2)]) [] (zE L, M, N) (none) (zE L, r, N) := zg_102 hd o o2 M N hp h ⟨rfl, rfl⟩
-- X9_menBits
set_option maxRecDepth 20000 in
theorem zg_103_J26 {Γ : jb_G} {L : Nat} {d : Nat} (hd : 1 ≤ d) (o : Nat) (x2 : Int32) (s0 : Int32) (s1 : Int32) (M : jb_Mi) (N : jb_Ml) (hp : o = 4 ∨ o = 24) {v : Option Value} {σ2 : jb_S} {r : ((Int32 × Int32) ⊕ (Int32))} (h : zf_103_J26 o x2 s0 s1 M = some r) (hK : (jb_K (fun s : Int32 × Int32 => jb_V Γ d zq_103 4 [some (.ref o), some (.int s.1), some (.int s.2)] [] (zE L, M, N) v σ2) (fun r : Int32 => v = some (.int r) ∧ σ2 = (zE L, M, N))) r) : jb_V Γ d zq_103 26 [some (.ref o), none, some (.int x2)] [(.int s1), (.int s0)] (zE L, M, N) v σ2 := by
  rcases hp with rfl | rfl
  · obtain ⟨d, rfl⟩ : ∃ e, d = e + 1 := ⟨d - 1, by omega⟩
    unfold zf_103_J26 at h
    refine jb_seg 4 (pc' := 4) (ls' := [some (.ref 4), some (.int (s0 ||| s1)), some (.int (x2 + 1))]) (st' := []) (σ' := (zE L, M, N)) (G := []) rfl trivial ?_
    obtain rfl := Option.some.inj h
    exact jb_mask [true, true, true] rfl hK
  · obtain ⟨d, rfl⟩ : ∃ e, d = e + 1 := ⟨d - 1, by omega⟩
    unfold zf_103_J26 at h
    refine jb_seg 4 (pc' := 4) (ls' := [some (.ref 24), some (.int (s0 ||| s1)), some (.int (x2 + 1))]) (st' := []) (σ' := (zE L, M, N)) (G := []) rfl trivial ?_
    obtain rfl := Option.some.inj h
    exact jb_mask [true, true, true] rfl hK
set_option maxRecDepth 20000 in
theorem zg_103_H4 {Γ : jb_G} {L : Nat} {d : Nat} (hd : 1 ≤ d) (o : Nat) (M : jb_Mi) (N : jb_Ml) (s : Int32 × Int32) (hp : o = 4 ∨ o = 24) {v : Option Value} {σ2 : jb_S} {r : ((Int32 × Int32) ⊕ (Int32))} (h : zf_103_H4 o M s = some r) (hK : (jb_K (fun s : Int32 × Int32 => jb_V Γ d zq_103 4 [some (.ref o), some (.int s.1), some (.int s.2)] [] (zE L, M, N) v σ2) (fun r : Int32 => v = some (.int r) ∧ σ2 = (zE L, M, N))) r) : jb_V Γ d zq_103 4 [some (.ref o), some (.int s.1), some (.int s.2)] [] (zE L, M, N) v σ2 := by
  rcases hp with rfl | rfl
  · obtain ⟨d, rfl⟩ : ∃ e, d = e + 1 := ⟨d - 1, by omega⟩
    unfold zf_103_H4 at h
    refine jb_seg 3 (pc' := (if s.2 < 16 then 10 else 34)) (ls' := [some (.ref 4), some (.int s.1), some (.int s.2)]) (st' := []) (σ' := (zE L, M, N)) (G := []) rfl trivial ?_
    refine jb_ite (fun c => ?_) (fun c => ?_)
    · replace h := (if_pos c).symm.trans h
      refine jb_seg 3 (pc' := 13) (ls' := [some (.ref 4), some (.int s.1), some (.int s.2)]) (st' := [(.int s.2), (.ref 4), (.int s.1)]) (σ' := (zE L, M, N)) (G := []) rfl trivial ?_
      obtain ⟨q1, h1, h⟩ := jb_bd_of h
      refine jb_callV (q' := zq_18) (As := [(.int s.2)]) (rest := [(.int s.1)]) (σ1 := (zE L, M, N)) (v := some (.int (jb_b2i q1))) rfl rfl zp_18 rfl (Nat.le_of_ble_eq_true rfl) (jb_cat rfl) (Nat.le_of_ble_eq_true rfl) (Nat.le_of_ble_eq_true rfl) (Or.inl rfl) rfl (ze_18 4 s.2 M N (by decide) h1) ?_
      refine jb_seg 1 (pc' := (if (jb_b2i q1) = 0 then 25 else 19)) (ls' := [some (.ref 4), some (.int s.1), some (.int s.2)]) (st' := [(.int s.1)]) (σ' := (zE L, M, N)) (G := []) rfl trivial ?_
      refine jb_ite (fun c => ?_) (fun c => ?_)
      · replace h := (if_pos c).symm.trans h
        refine jb_seg 1 (pc' := 26) (ls' := [some (.ref 4), some (.int s.1), some (.int s.2)]) (st' := [(.int 0), (.int s.1)]) (σ' := (zE L, M, N)) (G := []) rfl trivial ?_
        exact jb_mask [true, false, true] rfl (zg_103_J26 hd 4 s.2 s.1 0 M N (by decide) h hK)
      · replace h := (if_neg c).symm.trans h
        refine jb_seg 4 (pc' := 26) (ls' := [some (.ref 4), some (.int s.1), some (.int s.2)]) (st' := [(.int ((1 : Int32) <<< (s.2 &&& 31))), (.int s.1)]) (σ' := (zE L, M, N)) (G := []) rfl trivial ?_
        exact jb_mask [true, false, true] rfl (zg_103_J26 hd 4 s.2 s.1 ((1 : Int32) <<< (s.2 &&& 31)) M N (by decide) h hK)
    · replace h := (if_neg c).symm.trans h
      refine jb_seg 1 (pc' := 35) (ls' := [some (.ref 4), some (.int s.1), some (.int s.2)]) (st' := [(.int s.1)]) (σ' := (zE L, M, N)) (G := []) rfl trivial ?_
      obtain rfl := Option.some.inj h
      obtain ⟨rfl, rfl⟩ := hK
      exact jb_reti rfl rfl
  · obtain ⟨d, rfl⟩ : ∃ e, d = e + 1 := ⟨d - 1, by omega⟩
    unfold zf_103_H4 at h
    refine jb_seg 3 (pc' := (if s.2 < 16 then 10 else 34)) (ls' := [some (.ref 24), some (.int s.1), some (.int s.2)]) (st' := []) (σ' := (zE L, M, N)) (G := []) rfl trivial ?_
    refine jb_ite (fun c => ?_) (fun c => ?_)
    · replace h := (if_pos c).symm.trans h
      refine jb_seg 3 (pc' := 13) (ls' := [some (.ref 24), some (.int s.1), some (.int s.2)]) (st' := [(.int s.2), (.ref 24), (.int s.1)]) (σ' := (zE L, M, N)) (G := []) rfl trivial ?_
      obtain ⟨q1, h1, h⟩ := jb_bd_of h
      refine jb_callV (q' := zq_18) (As := [(.int s.2)]) (rest := [(.int s.1)]) (σ1 := (zE L, M, N)) (v := some (.int (jb_b2i q1))) rfl rfl zp_18 rfl (Nat.le_of_ble_eq_true rfl) (jb_cat rfl) (Nat.le_of_ble_eq_true rfl) (Nat.le_of_ble_eq_true rfl) (Or.inl rfl) rfl (ze_18 24 s.2 M N (by decide) h1) ?_
      refine jb_seg 1 (pc' := (if (jb_b2i q1) = 0 then 25 else 19)) (ls' := [some (.ref 24), some (.int s.1), some (.int s.2)]) (st' := [(.int s.1)]) (σ' := (zE L, M, N)) (G := []) rfl trivial ?_
      refine jb_ite (fun c => ?_) (fun c => ?_)
      · replace h := (if_pos c).symm.trans h
        refine jb_seg 1 (pc' := 26) (ls' := [some (.ref 24), some (.int s.1), some (.int s.2)]) (st' := [(.int 0), (.int s.1)]) (σ' := (zE L, M, N)) (G := []) rfl trivial ?_
        exact jb_mask [true, false, true] rfl (zg_103_J26 hd 24 s.2 s.1 0 M N (by decide) h hK)
      · replace h := (if_neg c).symm.trans h
        refine jb_seg 4 (pc' := 26) (ls' := [some (.ref 24), some (.int s.1), some (.int s.2)]) (st' := [(.int ((1 : Int32) <<< (s.2 &&& 31))), (.int s.1)]) (σ' := (zE L, M, N)) (G := []) rfl trivial ?_
        exact jb_mask [true, false, true] rfl (zg_103_J26 hd 24 s.2 s.1 ((1 : Int32) <<< (s.2 &&& 31)) M N (by decide) h hK)
    · replace h := (if_neg c).symm.trans h
      refine jb_seg 1 (pc' := 35) (ls' := [some (.ref 24), some (.int s.1), some (.int s.2)]) (st' := [(.int s.1)]) (σ' := (zE L, M, N)) (G := []) rfl trivial ?_
      obtain rfl := Option.some.inj h
      obtain ⟨rfl, rfl⟩ := hK
      exact jb_reti rfl rfl
theorem zg_103_H4L {Γ : jb_G} {L : Nat} {d : Nat} (hd : 1 ≤ d) (o : Nat) (M : jb_Mi) (N : jb_Ml) (hp : o = 4 ∨ o = 24) {v : Option Value} {σ2 : jb_S} {s : Int32 × Int32} {r : (Int32)} (h : jb_lp (zf_103_H4 o M) s = some r) (hK : (fun r : Int32 => v = some (.int r) ∧ σ2 = (zE L, M, N)) r) : jb_V Γ d zq_103 4 [some (.ref o), some (.int s.1), some (.int s.2)] [] (zE L, M, N) v σ2 := by
  exact @jb_lp_ind (Int32 × Int32) ((Int32)) (zf_103_H4 o M) (fun s => jb_V Γ d zq_103 4 [some (.ref o), some (.int s.1), some (.int s.2)] [] (zE L, M, N) v σ2) (fun r : Int32 => v = some (.int r) ∧ σ2 = (zE L, M, N)) (fun s r h hk => zg_103_H4 hd o M N s hp h hk) s r h hK
set_option maxRecDepth 20000 in
theorem zg_103 {Γ : jb_G} {L : Nat} {d : Nat} (hd : 1 ≤ d) (o : Nat) (M : jb_Mi) (N : jb_Ml) (hp : o = 4 ∨ o = 24) {v : Option Value} {σ2 : jb_S} {r : (Int32)} (h : zf_103 o M = some r) (hK : (fun r : Int32 => v = some (.int r) ∧ σ2 = (zE L, M, N)) r) : jb_V Γ d zq_103 0 [some (.ref o), none, none] [] (zE L, M, N) v σ2 := by
  rcases hp with rfl | rfl
  · obtain ⟨d, rfl⟩ : ∃ e, d = e + 1 := ⟨d - 1, by omega⟩
    unfold zf_103 at h
    refine jb_seg 4 (pc' := 4) (ls' := [some (.ref 4), some (.int 0), some (.int 0)]) (st' := []) (σ' := (zE L, M, N)) (G := []) rfl trivial ?_
    exact jb_mask [true, true, true] rfl (zg_103_H4L hd 4 M N (by decide) h hK)
  · obtain ⟨d, rfl⟩ : ∃ e, d = e + 1 := ⟨d - 1, by omega⟩
    unfold zf_103 at h
    refine jb_seg 4 (pc' := 4) (ls' := [some (.ref 24), some (.int 0), some (.int 0)]) (st' := []) (σ' := (zE L, M, N)) (G := []) rfl trivial ?_
    exact jb_mask [true, true, true] rfl (zg_103_H4L hd 24 M N (by decide) h hK)
theorem ze_103 {Γ : jb_G} {L : Nat} {d : Nat} (hd : 1 ≤ d) (o : Nat) (M : jb_Mi) (N : jb_Ml) (hp : o = 4 ∨ o = 24) {r : (Int32)} (h : zf_103 o M = some r) : jb_V Γ d zq_103 0 (jb_en 3 [(.ref o)]) [] (zE L, M, N) (some (.int r)) (zE L, M, N) := zg_103 hd o M N hp h ⟨rfl, rfl⟩
-- X9_fourTold
set_option maxRecDepth 20000 in
theorem zg_104 {Γ : jb_G} {L : Nat} {d : Nat} (hd : 2 ≤ d) (o : Nat) (x1 : Int32) (M : jb_Mi) (N : jb_Ml) (hp : o = 4 ∨ o = 24) {v : Option Value} {σ2 : jb_S} {r : (Bool)} (h : zf_104 o x1 M = some r) (hK : (fun r : Bool => v = some (.int (jb_b2i r)) ∧ σ2 = (zE L, M, N)) r) : jb_V Γ d zq_104 0 [some (.ref o), some (.int x1)] [] (zE L, M, N) v σ2 := by
  rcases hp with rfl | rfl
  · obtain ⟨d, rfl⟩ : ∃ e, d = e + 1 := ⟨d - 1, by omega⟩
    unfold zf_104 at h
    refine jb_seg 1 (pc' := 1) (ls' := [some (.ref 4), some (.int x1)]) (st' := [(.int x1)]) (σ' := (zE L, M, N)) (G := []) rfl trivial ?_
    refine jb_callS (q' := zq_26) (As := [(.int x1)]) (rest := []) (σ1 := (zE L, M, N)) (v := some (.int (zf_26 x1))) rfl (Nat.le_of_ble_eq_true rfl) rfl zp_26 (jb_cat rfl) (Nat.le_of_ble_eq_true rfl) (Nat.le_of_ble_eq_true rfl) (Or.inl rfl) rfl (ze_26 x1 M N rfl) ?_
    refine jb_seg 2 (pc' := (if (zf_26 x1) = 4 then 8 else 23)) (ls' := [some (.ref 4), some (.int x1)]) (st' := []) (σ' := (zE L, M, N)) (G := []) rfl trivial ?_
    refine jb_ite (fun c => ?_) (fun c => ?_)
    · replace h := (if_pos c).symm.trans h
      refine jb_seg 2 (pc' := 10) (ls' := [some (.ref 4), some (.int x1)]) (st' := [(.ref 4), (.int x1)]) (σ' := (zE L, M, N)) (G := []) rfl trivial ?_
      obtain ⟨q1, h1, h⟩ := jb_bd_of h
      refine jb_callV (q' := zq_103) (As := []) (rest := [(.int x1)]) (σ1 := (zE L, M, N)) (v := some (.int q1)) rfl rfl zp_103 rfl (Nat.le_of_ble_eq_true rfl) (jb_cat rfl) (Nat.le_of_ble_eq_true rfl) (Nat.le_of_ble_eq_true rfl) (Or.inl rfl) rfl (ze_103 (by omega) 4 M N (by decide) h1) ?_
      refine jb_seg 4 (pc' := (if (x1 &&& (q1 ^^^ (-1))) = 0 then 19 else 23)) (ls' := [some (.ref 4), some (.int x1)]) (st' := []) (σ' := (zE L, M, N)) (G := []) rfl trivial ?_
      refine jb_ite (fun c => ?_) (fun c => ?_)
      · replace h := (if_pos c).symm.trans h
        refine jb_seg 2 (pc' := 24) (ls' := [some (.ref 4), some (.int x1)]) (st' := [(.int 1)]) (σ' := (zE L, M, N)) (G := []) rfl trivial ?_
        obtain rfl := Option.some.inj h
        obtain ⟨rfl, rfl⟩ := hK
        exact jb_retz (by decide) rfl rfl
      · replace h := (if_neg c).symm.trans h
        refine jb_seg 1 (pc' := 24) (ls' := [some (.ref 4), some (.int x1)]) (st' := [(.int 0)]) (σ' := (zE L, M, N)) (G := []) rfl trivial ?_
        obtain rfl := Option.some.inj h
        obtain ⟨rfl, rfl⟩ := hK
        exact jb_retz (by decide) rfl rfl
    · replace h := (if_neg c).symm.trans h
      refine jb_seg 1 (pc' := 24) (ls' := [some (.ref 4), some (.int x1)]) (st' := [(.int 0)]) (σ' := (zE L, M, N)) (G := []) rfl trivial ?_
      obtain rfl := Option.some.inj h
      obtain ⟨rfl, rfl⟩ := hK
      exact jb_retz (by decide) rfl rfl
  · obtain ⟨d, rfl⟩ : ∃ e, d = e + 1 := ⟨d - 1, by omega⟩
    unfold zf_104 at h
    refine jb_seg 1 (pc' := 1) (ls' := [some (.ref 24), some (.int x1)]) (st' := [(.int x1)]) (σ' := (zE L, M, N)) (G := []) rfl trivial ?_
    refine jb_callS (q' := zq_26) (As := [(.int x1)]) (rest := []) (σ1 := (zE L, M, N)) (v := some (.int (zf_26 x1))) rfl (Nat.le_of_ble_eq_true rfl) rfl zp_26 (jb_cat rfl) (Nat.le_of_ble_eq_true rfl) (Nat.le_of_ble_eq_true rfl) (Or.inl rfl) rfl (ze_26 x1 M N rfl) ?_
    refine jb_seg 2 (pc' := (if (zf_26 x1) = 4 then 8 else 23)) (ls' := [some (.ref 24), some (.int x1)]) (st' := []) (σ' := (zE L, M, N)) (G := []) rfl trivial ?_
    refine jb_ite (fun c => ?_) (fun c => ?_)
    · replace h := (if_pos c).symm.trans h
      refine jb_seg 2 (pc' := 10) (ls' := [some (.ref 24), some (.int x1)]) (st' := [(.ref 24), (.int x1)]) (σ' := (zE L, M, N)) (G := []) rfl trivial ?_
      obtain ⟨q1, h1, h⟩ := jb_bd_of h
      refine jb_callV (q' := zq_103) (As := []) (rest := [(.int x1)]) (σ1 := (zE L, M, N)) (v := some (.int q1)) rfl rfl zp_103 rfl (Nat.le_of_ble_eq_true rfl) (jb_cat rfl) (Nat.le_of_ble_eq_true rfl) (Nat.le_of_ble_eq_true rfl) (Or.inl rfl) rfl (ze_103 (by omega) 24 M N (by decide) h1) ?_
      refine jb_seg 4 (pc' := (if (x1 &&& (q1 ^^^ (-1))) = 0 then 19 else 23)) (ls' := [some (.ref 24), some (.int x1)]) (st' := []) (σ' := (zE L, M, N)) (G := []) rfl trivial ?_
      refine jb_ite (fun c => ?_) (fun c => ?_)
      · replace h := (if_pos c).symm.trans h
        refine jb_seg 2 (pc' := 24) (ls' := [some (.ref 24), some (.int x1)]) (st' := [(.int 1)]) (σ' := (zE L, M, N)) (G := []) rfl trivial ?_
        obtain rfl := Option.some.inj h
        obtain ⟨rfl, rfl⟩ := hK
        exact jb_retz (by decide) rfl rfl
      · replace h := (if_neg c).symm.trans h
        refine jb_seg 1 (pc' := 24) (ls' := [some (.ref 24), some (.int x1)]) (st' := [(.int 0)]) (σ' := (zE L, M, N)) (G := []) rfl trivial ?_
        obtain rfl := Option.some.inj h
        obtain ⟨rfl, rfl⟩ := hK
        exact jb_retz (by decide) rfl rfl
    · replace h := (if_neg c).symm.trans h
      refine jb_seg 1 (pc' := 24) (ls' := [some (.ref 24), some (.int x1)]) (st' := [(.int 0)]) (σ' := (zE L, M, N)) (G := []) rfl trivial ?_
      obtain rfl := Option.some.inj h
      obtain ⟨rfl, rfl⟩ := hK
      exact jb_retz (by decide) rfl rfl
theorem ze_104 {Γ : jb_G} {L : Nat} {d : Nat} (hd : 2 ≤ d) (o : Nat) (x1 : Int32) (M : jb_Mi) (N : jb_Ml) (hp : o = 4 ∨ o = 24) {r : (Bool)} (h : zf_104 o x1 M = some r) : jb_V Γ d zq_104 0 (jb_en 2 [(.ref o), (.int x1)]) [] (zE L, M, N) (some (.int (jb_b2i r))) (zE L, M, N) := zg_104 hd o x1 M N hp h ⟨rfl, rfl⟩
-- X9_houseBits
set_option maxRecDepth 20000 in
theorem zg_105_J26 {Γ : jb_G} {L : Nat} {d : Nat} (hd : 1 ≤ d) (o : Nat) (x2 : Int32) (s0 : Int32) (s1 : Int32) (M : jb_Mi) (N : jb_Ml) (hp : o = 4 ∨ o = 24) {v : Option Value} {σ2 : jb_S} {r : ((Int32 × Int32) ⊕ (Int32))} (h : zf_105_J26 o x2 s0 s1 M = some r) (hK : (jb_K (fun s : Int32 × Int32 => jb_V Γ d zq_105 4 [some (.ref o), some (.int s.1), some (.int s.2)] [] (zE L, M, N) v σ2) (fun r : Int32 => v = some (.int r) ∧ σ2 = (zE L, M, N))) r) : jb_V Γ d zq_105 26 [some (.ref o), none, some (.int x2)] [(.int s1), (.int s0)] (zE L, M, N) v σ2 := by
  rcases hp with rfl | rfl
  · obtain ⟨d, rfl⟩ : ∃ e, d = e + 1 := ⟨d - 1, by omega⟩
    unfold zf_105_J26 at h
    refine jb_seg 4 (pc' := 4) (ls' := [some (.ref 4), some (.int (s0 ||| s1)), some (.int (x2 + 1))]) (st' := []) (σ' := (zE L, M, N)) (G := []) rfl trivial ?_
    obtain rfl := Option.some.inj h
    exact jb_mask [true, true, true] rfl hK
  · obtain ⟨d, rfl⟩ : ∃ e, d = e + 1 := ⟨d - 1, by omega⟩
    unfold zf_105_J26 at h
    refine jb_seg 4 (pc' := 4) (ls' := [some (.ref 24), some (.int (s0 ||| s1)), some (.int (x2 + 1))]) (st' := []) (σ' := (zE L, M, N)) (G := []) rfl trivial ?_
    obtain rfl := Option.some.inj h
    exact jb_mask [true, true, true] rfl hK
set_option maxRecDepth 20000 in
theorem zg_105_H4 {Γ : jb_G} {L : Nat} {d : Nat} (hd : 1 ≤ d) (o : Nat) (M : jb_Mi) (N : jb_Ml) (s : Int32 × Int32) (hp : o = 4 ∨ o = 24) {v : Option Value} {σ2 : jb_S} {r : ((Int32 × Int32) ⊕ (Int32))} (h : zf_105_H4 o M s = some r) (hK : (jb_K (fun s : Int32 × Int32 => jb_V Γ d zq_105 4 [some (.ref o), some (.int s.1), some (.int s.2)] [] (zE L, M, N) v σ2) (fun r : Int32 => v = some (.int r) ∧ σ2 = (zE L, M, N))) r) : jb_V Γ d zq_105 4 [some (.ref o), some (.int s.1), some (.int s.2)] [] (zE L, M, N) v σ2 := by
  rcases hp with rfl | rfl
  · obtain ⟨d, rfl⟩ : ∃ e, d = e + 1 := ⟨d - 1, by omega⟩
    unfold zf_105_H4 at h
    refine jb_seg 3 (pc' := (if s.2 < 6 then 10 else 34)) (ls' := [some (.ref 4), some (.int s.1), some (.int s.2)]) (st' := []) (σ' := (zE L, M, N)) (G := []) rfl trivial ?_
    refine jb_ite (fun c => ?_) (fun c => ?_)
    · replace h := (if_pos c).symm.trans h
      refine jb_seg 3 (pc' := 13) (ls' := [some (.ref 4), some (.int s.1), some (.int s.2)]) (st' := [(.int s.2), (.ref 4), (.int s.1)]) (σ' := (zE L, M, N)) (G := []) rfl trivial ?_
      obtain ⟨q1, h1, h⟩ := jb_bd_of h
      refine jb_callV (q' := zq_2) (As := [(.int s.2)]) (rest := [(.int s.1)]) (σ1 := (zE L, M, N)) (v := some (.int (jb_b2i q1))) rfl rfl zp_2 rfl (Nat.le_of_ble_eq_true rfl) (jb_cat rfl) (Nat.le_of_ble_eq_true rfl) (Nat.le_of_ble_eq_true rfl) (Or.inl rfl) rfl (ze_2 4 s.2 M N (by decide) h1) ?_
      refine jb_seg 1 (pc' := (if (jb_b2i q1) = 0 then 25 else 19)) (ls' := [some (.ref 4), some (.int s.1), some (.int s.2)]) (st' := [(.int s.1)]) (σ' := (zE L, M, N)) (G := []) rfl trivial ?_
      refine jb_ite (fun c => ?_) (fun c => ?_)
      · replace h := (if_pos c).symm.trans h
        refine jb_seg 1 (pc' := 26) (ls' := [some (.ref 4), some (.int s.1), some (.int s.2)]) (st' := [(.int 0), (.int s.1)]) (σ' := (zE L, M, N)) (G := []) rfl trivial ?_
        exact jb_mask [true, false, true] rfl (zg_105_J26 hd 4 s.2 s.1 0 M N (by decide) h hK)
      · replace h := (if_neg c).symm.trans h
        refine jb_seg 4 (pc' := 26) (ls' := [some (.ref 4), some (.int s.1), some (.int s.2)]) (st' := [(.int ((1 : Int32) <<< (s.2 &&& 31))), (.int s.1)]) (σ' := (zE L, M, N)) (G := []) rfl trivial ?_
        exact jb_mask [true, false, true] rfl (zg_105_J26 hd 4 s.2 s.1 ((1 : Int32) <<< (s.2 &&& 31)) M N (by decide) h hK)
    · replace h := (if_neg c).symm.trans h
      refine jb_seg 1 (pc' := 35) (ls' := [some (.ref 4), some (.int s.1), some (.int s.2)]) (st' := [(.int s.1)]) (σ' := (zE L, M, N)) (G := []) rfl trivial ?_
      obtain rfl := Option.some.inj h
      obtain ⟨rfl, rfl⟩ := hK
      exact jb_reti rfl rfl
  · obtain ⟨d, rfl⟩ : ∃ e, d = e + 1 := ⟨d - 1, by omega⟩
    unfold zf_105_H4 at h
    refine jb_seg 3 (pc' := (if s.2 < 6 then 10 else 34)) (ls' := [some (.ref 24), some (.int s.1), some (.int s.2)]) (st' := []) (σ' := (zE L, M, N)) (G := []) rfl trivial ?_
    refine jb_ite (fun c => ?_) (fun c => ?_)
    · replace h := (if_pos c).symm.trans h
      refine jb_seg 3 (pc' := 13) (ls' := [some (.ref 24), some (.int s.1), some (.int s.2)]) (st' := [(.int s.2), (.ref 24), (.int s.1)]) (σ' := (zE L, M, N)) (G := []) rfl trivial ?_
      obtain ⟨q1, h1, h⟩ := jb_bd_of h
      refine jb_callV (q' := zq_2) (As := [(.int s.2)]) (rest := [(.int s.1)]) (σ1 := (zE L, M, N)) (v := some (.int (jb_b2i q1))) rfl rfl zp_2 rfl (Nat.le_of_ble_eq_true rfl) (jb_cat rfl) (Nat.le_of_ble_eq_true rfl) (Nat.le_of_ble_eq_true rfl) (Or.inl rfl) rfl (ze_2 24 s.2 M N (by decide) h1) ?_
      refine jb_seg 1 (pc' := (if (jb_b2i q1) = 0 then 25 else 19)) (ls' := [some (.ref 24), some (.int s.1), some (.int s.2)]) (st' := [(.int s.1)]) (σ' := (zE L, M, N)) (G := []) rfl trivial ?_
      refine jb_ite (fun c => ?_) (fun c => ?_)
      · replace h := (if_pos c).symm.trans h
        refine jb_seg 1 (pc' := 26) (ls' := [some (.ref 24), some (.int s.1), some (.int s.2)]) (st' := [(.int 0), (.int s.1)]) (σ' := (zE L, M, N)) (G := []) rfl trivial ?_
        exact jb_mask [true, false, true] rfl (zg_105_J26 hd 24 s.2 s.1 0 M N (by decide) h hK)
      · replace h := (if_neg c).symm.trans h
        refine jb_seg 4 (pc' := 26) (ls' := [some (.ref 24), some (.int s.1), some (.int s.2)]) (st' := [(.int ((1 : Int32) <<< (s.2 &&& 31))), (.int s.1)]) (σ' := (zE L, M, N)) (G := []) rfl trivial ?_
        exact jb_mask [true, false, true] rfl (zg_105_J26 hd 24 s.2 s.1 ((1 : Int32) <<< (s.2 &&& 31)) M N (by decide) h hK)
    · replace h := (if_neg c).symm.trans h
      refine jb_seg 1 (pc' := 35) (ls' := [some (.ref 24), some (.int s.1), some (.int s.2)]) (st' := [(.int s.1)]) (σ' := (zE L, M, N)) (G := []) rfl trivial ?_
      obtain rfl := Option.some.inj h
      obtain ⟨rfl, rfl⟩ := hK
      exact jb_reti rfl rfl
theorem zg_105_H4L {Γ : jb_G} {L : Nat} {d : Nat} (hd : 1 ≤ d) (o : Nat) (M : jb_Mi) (N : jb_Ml) (hp : o = 4 ∨ o = 24) {v : Option Value} {σ2 : jb_S} {s : Int32 × Int32} {r : (Int32)} (h : jb_lp (zf_105_H4 o M) s = some r) (hK : (fun r : Int32 => v = some (.int r) ∧ σ2 = (zE L, M, N)) r) : jb_V Γ d zq_105 4 [some (.ref o), some (.int s.1), some (.int s.2)] [] (zE L, M, N) v σ2 := by
  exact @jb_lp_ind (Int32 × Int32) ((Int32)) (zf_105_H4 o M) (fun s => jb_V Γ d zq_105 4 [some (.ref o), some (.int s.1), some (.int s.2)] [] (zE L, M, N) v σ2) (fun r : Int32 => v = some (.int r) ∧ σ2 = (zE L, M, N)) (fun s r h hk => zg_105_H4 hd o M N s hp h hk) s r h hK
set_option maxRecDepth 20000 in
theorem zg_105 {Γ : jb_G} {L : Nat} {d : Nat} (hd : 1 ≤ d) (o : Nat) (M : jb_Mi) (N : jb_Ml) (hp : o = 4 ∨ o = 24) {v : Option Value} {σ2 : jb_S} {r : (Int32)} (h : zf_105 o M = some r) (hK : (fun r : Int32 => v = some (.int r) ∧ σ2 = (zE L, M, N)) r) : jb_V Γ d zq_105 0 [some (.ref o), none, none] [] (zE L, M, N) v σ2 := by
  rcases hp with rfl | rfl
  · obtain ⟨d, rfl⟩ : ∃ e, d = e + 1 := ⟨d - 1, by omega⟩
    unfold zf_105 at h
    refine jb_seg 4 (pc' := 4) (ls' := [some (.ref 4), some (.int 0), some (.int 0)]) (st' := []) (σ' := (zE L, M, N)) (G := []) rfl trivial ?_
    exact jb_mask [true, true, true] rfl (zg_105_H4L hd 4 M N (by decide) h hK)
  · obtain ⟨d, rfl⟩ : ∃ e, d = e + 1 := ⟨d - 1, by omega⟩
    unfold zf_105 at h
    refine jb_seg 4 (pc' := 4) (ls' := [some (.ref 24), some (.int 0), some (.int 0)]) (st' := []) (σ' := (zE L, M, N)) (G := []) rfl trivial ?_
    exact jb_mask [true, true, true] rfl (zg_105_H4L hd 24 M N (by decide) h hK)
theorem ze_105 {Γ : jb_G} {L : Nat} {d : Nat} (hd : 1 ≤ d) (o : Nat) (M : jb_Mi) (N : jb_Ml) (hp : o = 4 ∨ o = 24) {r : (Int32)} (h : zf_105 o M = some r) : jb_V Γ d zq_105 0 (jb_en 3 [(.ref o)]) [] (zE L, M, N) (some (.int r)) (zE L, M, N) := zg_105 hd o M N hp h ⟨rfl, rfl⟩
-- X9_thingsTold
set_option maxRecDepth 20000 in
theorem zg_106_J24 {Γ : jb_G} {L : Nat} {d : Nat} (hd : 1 ≤ d) (o : Nat) (x2 : Int32) (s0 : Int32) (s1 : Int32) (M : jb_Mi) (N : jb_Ml) (hp : o = 4 ∨ o = 24) {v : Option Value} {σ2 : jb_S} {r : ((Int32 × Int32) ⊕ (Int32))} (h : zf_106_J24 o x2 s0 s1 M = some r) (hK : (jb_K (fun s : Int32 × Int32 => jb_V Γ d zq_106 4 [some (.ref o), some (.int s.1), some (.int s.2)] [] (zE L, M, N) v σ2) (fun r : Int32 => v = some (.int r) ∧ σ2 = (zE L, M, N))) r) : jb_V Γ d zq_106 24 [some (.ref o), none, some (.int x2)] [(.int s1), (.int s0)] (zE L, M, N) v σ2 := by
  rcases hp with rfl | rfl
  · obtain ⟨d, rfl⟩ : ∃ e, d = e + 1 := ⟨d - 1, by omega⟩
    unfold zf_106_J24 at h
    refine jb_seg 4 (pc' := 4) (ls' := [some (.ref 4), some (.int (s0 + s1)), some (.int (x2 + 1))]) (st' := []) (σ' := (zE L, M, N)) (G := []) rfl trivial ?_
    obtain rfl := Option.some.inj h
    exact jb_mask [true, true, true] rfl hK
  · obtain ⟨d, rfl⟩ : ∃ e, d = e + 1 := ⟨d - 1, by omega⟩
    unfold zf_106_J24 at h
    refine jb_seg 4 (pc' := 4) (ls' := [some (.ref 24), some (.int (s0 + s1)), some (.int (x2 + 1))]) (st' := []) (σ' := (zE L, M, N)) (G := []) rfl trivial ?_
    obtain rfl := Option.some.inj h
    exact jb_mask [true, true, true] rfl hK
set_option maxRecDepth 20000 in
theorem zg_106_H4 {Γ : jb_G} {L : Nat} {d : Nat} (hd : 1 ≤ d) (o : Nat) (M : jb_Mi) (N : jb_Ml) (s : Int32 × Int32) (hp : o = 4 ∨ o = 24) {v : Option Value} {σ2 : jb_S} {r : ((Int32 × Int32) ⊕ (Int32))} (h : zf_106_H4 o M s = some r) (hK : (jb_K (fun s : Int32 × Int32 => jb_V Γ d zq_106 4 [some (.ref o), some (.int s.1), some (.int s.2)] [] (zE L, M, N) v σ2) (fun r : Int32 => v = some (.int r) ∧ σ2 = (zE L, M, N))) r) : jb_V Γ d zq_106 4 [some (.ref o), some (.int s.1), some (.int s.2)] [] (zE L, M, N) v σ2 := by
  rcases hp with rfl | rfl
  · obtain ⟨d, rfl⟩ : ∃ e, d = e + 1 := ⟨d - 1, by omega⟩
    unfold zf_106_H4 at h
    refine jb_seg 3 (pc' := (if s.2 < 24 then 10 else 32)) (ls' := [some (.ref 4), some (.int s.1), some (.int s.2)]) (st' := []) (σ' := (zE L, M, N)) (G := []) rfl trivial ?_
    refine jb_ite (fun c => ?_) (fun c => ?_)
    · replace h := (if_pos c).symm.trans h
      refine jb_seg 3 (pc' := 13) (ls' := [some (.ref 4), some (.int s.1), some (.int s.2)]) (st' := [(.int s.2), (.ref 4), (.int s.1)]) (σ' := (zE L, M, N)) (G := []) rfl trivial ?_
      obtain ⟨q1, h1, h⟩ := jb_bd_of h
      refine jb_callV (q' := zq_3) (As := [(.int s.2)]) (rest := [(.int s.1)]) (σ1 := (zE L, M, N)) (v := some (.int (jb_b2i q1))) rfl rfl zp_3 rfl (Nat.le_of_ble_eq_true rfl) (jb_cat rfl) (Nat.le_of_ble_eq_true rfl) (Nat.le_of_ble_eq_true rfl) (Or.inl rfl) rfl (ze_3 4 s.2 M N (by decide) h1) ?_
      refine jb_seg 1 (pc' := (if (jb_b2i q1) = 0 then 23 else 19)) (ls' := [some (.ref 4), some (.int s.1), some (.int s.2)]) (st' := [(.int s.1)]) (σ' := (zE L, M, N)) (G := []) rfl trivial ?_
      refine jb_ite (fun c => ?_) (fun c => ?_)
      · replace h := (if_pos c).symm.trans h
        refine jb_seg 1 (pc' := 24) (ls' := [some (.ref 4), some (.int s.1), some (.int s.2)]) (st' := [(.int 0), (.int s.1)]) (σ' := (zE L, M, N)) (G := []) rfl trivial ?_
        exact jb_mask [true, false, true] rfl (zg_106_J24 hd 4 s.2 s.1 0 M N (by decide) h hK)
      · replace h := (if_neg c).symm.trans h
        refine jb_seg 2 (pc' := 24) (ls' := [some (.ref 4), some (.int s.1), some (.int s.2)]) (st' := [(.int 1), (.int s.1)]) (σ' := (zE L, M, N)) (G := []) rfl trivial ?_
        exact jb_mask [true, false, true] rfl (zg_106_J24 hd 4 s.2 s.1 1 M N (by decide) h hK)
    · replace h := (if_neg c).symm.trans h
      refine jb_seg 1 (pc' := 33) (ls' := [some (.ref 4), some (.int s.1), some (.int s.2)]) (st' := [(.int s.1)]) (σ' := (zE L, M, N)) (G := []) rfl trivial ?_
      obtain rfl := Option.some.inj h
      obtain ⟨rfl, rfl⟩ := hK
      exact jb_reti rfl rfl
  · obtain ⟨d, rfl⟩ : ∃ e, d = e + 1 := ⟨d - 1, by omega⟩
    unfold zf_106_H4 at h
    refine jb_seg 3 (pc' := (if s.2 < 24 then 10 else 32)) (ls' := [some (.ref 24), some (.int s.1), some (.int s.2)]) (st' := []) (σ' := (zE L, M, N)) (G := []) rfl trivial ?_
    refine jb_ite (fun c => ?_) (fun c => ?_)
    · replace h := (if_pos c).symm.trans h
      refine jb_seg 3 (pc' := 13) (ls' := [some (.ref 24), some (.int s.1), some (.int s.2)]) (st' := [(.int s.2), (.ref 24), (.int s.1)]) (σ' := (zE L, M, N)) (G := []) rfl trivial ?_
      obtain ⟨q1, h1, h⟩ := jb_bd_of h
      refine jb_callV (q' := zq_3) (As := [(.int s.2)]) (rest := [(.int s.1)]) (σ1 := (zE L, M, N)) (v := some (.int (jb_b2i q1))) rfl rfl zp_3 rfl (Nat.le_of_ble_eq_true rfl) (jb_cat rfl) (Nat.le_of_ble_eq_true rfl) (Nat.le_of_ble_eq_true rfl) (Or.inl rfl) rfl (ze_3 24 s.2 M N (by decide) h1) ?_
      refine jb_seg 1 (pc' := (if (jb_b2i q1) = 0 then 23 else 19)) (ls' := [some (.ref 24), some (.int s.1), some (.int s.2)]) (st' := [(.int s.1)]) (σ' := (zE L, M, N)) (G := []) rfl trivial ?_
      refine jb_ite (fun c => ?_) (fun c => ?_)
      · replace h := (if_pos c).symm.trans h
        refine jb_seg 1 (pc' := 24) (ls' := [some (.ref 24), some (.int s.1), some (.int s.2)]) (st' := [(.int 0), (.int s.1)]) (σ' := (zE L, M, N)) (G := []) rfl trivial ?_
        exact jb_mask [true, false, true] rfl (zg_106_J24 hd 24 s.2 s.1 0 M N (by decide) h hK)
      · replace h := (if_neg c).symm.trans h
        refine jb_seg 2 (pc' := 24) (ls' := [some (.ref 24), some (.int s.1), some (.int s.2)]) (st' := [(.int 1), (.int s.1)]) (σ' := (zE L, M, N)) (G := []) rfl trivial ?_
        exact jb_mask [true, false, true] rfl (zg_106_J24 hd 24 s.2 s.1 1 M N (by decide) h hK)
    · replace h := (if_neg c).symm.trans h
      refine jb_seg 1 (pc' := 33) (ls' := [some (.ref 24), some (.int s.1), some (.int s.2)]) (st' := [(.int s.1)]) (σ' := (zE L, M, N)) (G := []) rfl trivial ?_
      obtain rfl := Option.some.inj h
      obtain ⟨rfl, rfl⟩ := hK
      exact jb_reti rfl rfl
theorem zg_106_H4L {Γ : jb_G} {L : Nat} {d : Nat} (hd : 1 ≤ d) (o : Nat) (M : jb_Mi) (N : jb_Ml) (hp : o = 4 ∨ o = 24) {v : Option Value} {σ2 : jb_S} {s : Int32 × Int32} {r : (Int32)} (h : jb_lp (zf_106_H4 o M) s = some r) (hK : (fun r : Int32 => v = some (.int r) ∧ σ2 = (zE L, M, N)) r) : jb_V Γ d zq_106 4 [some (.ref o), some (.int s.1), some (.int s.2)] [] (zE L, M, N) v σ2 := by
  exact @jb_lp_ind (Int32 × Int32) ((Int32)) (zf_106_H4 o M) (fun s => jb_V Γ d zq_106 4 [some (.ref o), some (.int s.1), some (.int s.2)] [] (zE L, M, N) v σ2) (fun r : Int32 => v = some (.int r) ∧ σ2 = (zE L, M, N)) (fun s r h hk => zg_106_H4 hd o M N s hp h hk) s r h hK
set_option maxRecDepth 20000 in
theorem zg_106 {Γ : jb_G} {L : Nat} {d : Nat} (hd : 1 ≤ d) (o : Nat) (M : jb_Mi) (N : jb_Ml) (hp : o = 4 ∨ o = 24) {v : Option Value} {σ2 : jb_S} {r : (Int32)} (h : zf_106 o M = some r) (hK : (fun r : Int32 => v = some (.int r) ∧ σ2 = (zE L, M, N)) r) : jb_V Γ d zq_106 0 [some (.ref o), none, none] [] (zE L, M, N) v σ2 := by
  rcases hp with rfl | rfl
  · obtain ⟨d, rfl⟩ : ∃ e, d = e + 1 := ⟨d - 1, by omega⟩
    unfold zf_106 at h
    refine jb_seg 4 (pc' := 4) (ls' := [some (.ref 4), some (.int 0), some (.int 0)]) (st' := []) (σ' := (zE L, M, N)) (G := []) rfl trivial ?_
    exact jb_mask [true, true, true] rfl (zg_106_H4L hd 4 M N (by decide) h hK)
  · obtain ⟨d, rfl⟩ : ∃ e, d = e + 1 := ⟨d - 1, by omega⟩
    unfold zf_106 at h
    refine jb_seg 4 (pc' := 4) (ls' := [some (.ref 24), some (.int 0), some (.int 0)]) (st' := []) (σ' := (zE L, M, N)) (G := []) rfl trivial ?_
    exact jb_mask [true, true, true] rfl (zg_106_H4L hd 24 M N (by decide) h hK)
theorem ze_106 {Γ : jb_G} {L : Nat} {d : Nat} (hd : 1 ≤ d) (o : Nat) (M : jb_Mi) (N : jb_Ml) (hp : o = 4 ∨ o = 24) {r : (Int32)} (h : zf_106 o M = some r) : jb_V Γ d zq_106 0 (jb_en 3 [(.ref o)]) [] (zE L, M, N) (some (.int r)) (zE L, M, N) := zg_106 hd o M N hp h ⟨rfl, rfl⟩
-- X9_weightIn
set_option maxRecDepth 20000 in
theorem zg_107_J30 {Γ : jb_G} {L : Nat} {d : Nat} (hd : 2 ≤ d) (o : Nat) (x1 : Int32) (x3 : Int32) (s0 : Int32) (s1 : Int32) (M : jb_Mi) (N : jb_Ml) (hp : o = 4 ∨ o = 24) {v : Option Value} {σ2 : jb_S} {r : ((Int32 × Int32) ⊕ (Int32))} (h : zf_107_J30 o x1 x3 s0 s1 M = some r) (hK : (jb_K (fun s : Int32 × Int32 => jb_V Γ d zq_107 4 [some (.ref o), some (.int x1), some (.int s.1), some (.int s.2)] [] (zE L, M, N) v σ2) (fun r : Int32 => v = some (.int r) ∧ σ2 = (zE L, M, N))) r) : jb_V Γ d zq_107 30 [some (.ref o), some (.int x1), none, some (.int x3)] [(.int s1), (.int s0)] (zE L, M, N) v σ2 := by
  rcases hp with rfl | rfl
  · obtain ⟨d, rfl⟩ : ∃ e, d = e + 1 := ⟨d - 1, by omega⟩
    unfold zf_107_J30 at h
    refine jb_seg 4 (pc' := 4) (ls' := [some (.ref 4), some (.int x1), some (.int (s0 + s1)), some (.int (x3 + 1))]) (st' := []) (σ' := (zE L, M, N)) (G := []) rfl trivial ?_
    obtain rfl := Option.some.inj h
    exact jb_mask [true, true, true, true] rfl hK
  · obtain ⟨d, rfl⟩ : ∃ e, d = e + 1 := ⟨d - 1, by omega⟩
    unfold zf_107_J30 at h
    refine jb_seg 4 (pc' := 4) (ls' := [some (.ref 24), some (.int x1), some (.int (s0 + s1)), some (.int (x3 + 1))]) (st' := []) (σ' := (zE L, M, N)) (G := []) rfl trivial ?_
    obtain rfl := Option.some.inj h
    exact jb_mask [true, true, true, true] rfl hK
set_option maxRecDepth 20000 in
theorem zg_107_H4 {Γ : jb_G} {L : Nat} {d : Nat} (hd : 2 ≤ d) (o : Nat) (x1 : Int32) (M : jb_Mi) (N : jb_Ml) (s : Int32 × Int32) (hp : o = 4 ∨ o = 24) {v : Option Value} {σ2 : jb_S} {r : ((Int32 × Int32) ⊕ (Int32))} (h : zf_107_H4 o x1 M s = some r) (hK : (jb_K (fun s : Int32 × Int32 => jb_V Γ d zq_107 4 [some (.ref o), some (.int x1), some (.int s.1), some (.int s.2)] [] (zE L, M, N) v σ2) (fun r : Int32 => v = some (.int r) ∧ σ2 = (zE L, M, N))) r) : jb_V Γ d zq_107 4 [some (.ref o), some (.int x1), some (.int s.1), some (.int s.2)] [] (zE L, M, N) v σ2 := by
  rcases hp with rfl | rfl
  · obtain ⟨d, rfl⟩ : ∃ e, d = e + 1 := ⟨d - 1, by omega⟩
    unfold zf_107_H4 at h
    refine jb_seg 3 (pc' := (if s.2 < 24 then 10 else 38)) (ls' := [some (.ref 4), some (.int x1), some (.int s.1), some (.int s.2)]) (st' := []) (σ' := (zE L, M, N)) (G := []) rfl trivial ?_
    refine jb_ite (fun c => ?_) (fun c => ?_)
    · replace h := (if_pos c).symm.trans h
      refine jb_seg 4 (pc' := 14) (ls' := [some (.ref 4), some (.int x1), some (.int s.1), some (.int s.2)]) (st' := [(.int x1), (.int s.2), (.ref 4), (.int s.1)]) (σ' := (zE L, M, N)) (G := []) rfl trivial ?_
      obtain ⟨q1, h1, h⟩ := jb_bd_of h
      refine jb_callV (q' := zq_4) (As := [(.int s.2), (.int x1)]) (rest := [(.int s.1)]) (σ1 := (zE L, M, N)) (v := some (.int (jb_b2i q1))) rfl rfl zp_4 rfl (Nat.le_of_ble_eq_true rfl) (jb_cat rfl) (Nat.le_of_ble_eq_true rfl) (Nat.le_of_ble_eq_true rfl) (Or.inl rfl) rfl (ze_4 (by omega) 4 s.2 x1 M N (by decide) h1) ?_
      refine jb_seg 1 (pc' := (if (jb_b2i q1) = 0 then 29 else 20)) (ls' := [some (.ref 4), some (.int x1), some (.int s.1), some (.int s.2)]) (st' := [(.int s.1)]) (σ' := (zE L, M, N)) (G := []) rfl trivial ?_
      refine jb_ite (fun c => ?_) (fun c => ?_)
      · replace h := (if_pos c).symm.trans h
        refine jb_seg 1 (pc' := 30) (ls' := [some (.ref 4), some (.int x1), some (.int s.1), some (.int s.2)]) (st' := [(.int 0), (.int s.1)]) (σ' := (zE L, M, N)) (G := []) rfl trivial ?_
        exact jb_mask [true, true, false, true] rfl (zg_107_J30 hd 4 x1 s.2 s.1 0 M N (by decide) h hK)
      · replace h := (if_neg c).symm.trans h
        obtain ⟨g2, h⟩ := jb_gd_of h
        refine jb_seg 5 (pc' := 30) (ls' := [some (.ref 4), some (.int x1), some (.int s.1), some (.int s.2)]) (st' := [(.int (M (4 + 7) (s.2).toNatClampNeg)), (.int s.1)]) (σ' := (zE L, M, N)) (G := [vp_in s.2 24]) rfl g2 ?_
        exact jb_mask [true, true, false, true] rfl (zg_107_J30 hd 4 x1 s.2 s.1 (M (4 + 7) (s.2).toNatClampNeg) M N (by decide) h hK)
    · replace h := (if_neg c).symm.trans h
      refine jb_seg 1 (pc' := 39) (ls' := [some (.ref 4), some (.int x1), some (.int s.1), some (.int s.2)]) (st' := [(.int s.1)]) (σ' := (zE L, M, N)) (G := []) rfl trivial ?_
      obtain rfl := Option.some.inj h
      obtain ⟨rfl, rfl⟩ := hK
      exact jb_reti rfl rfl
  · obtain ⟨d, rfl⟩ : ∃ e, d = e + 1 := ⟨d - 1, by omega⟩
    unfold zf_107_H4 at h
    refine jb_seg 3 (pc' := (if s.2 < 24 then 10 else 38)) (ls' := [some (.ref 24), some (.int x1), some (.int s.1), some (.int s.2)]) (st' := []) (σ' := (zE L, M, N)) (G := []) rfl trivial ?_
    refine jb_ite (fun c => ?_) (fun c => ?_)
    · replace h := (if_pos c).symm.trans h
      refine jb_seg 4 (pc' := 14) (ls' := [some (.ref 24), some (.int x1), some (.int s.1), some (.int s.2)]) (st' := [(.int x1), (.int s.2), (.ref 24), (.int s.1)]) (σ' := (zE L, M, N)) (G := []) rfl trivial ?_
      obtain ⟨q1, h1, h⟩ := jb_bd_of h
      refine jb_callV (q' := zq_4) (As := [(.int s.2), (.int x1)]) (rest := [(.int s.1)]) (σ1 := (zE L, M, N)) (v := some (.int (jb_b2i q1))) rfl rfl zp_4 rfl (Nat.le_of_ble_eq_true rfl) (jb_cat rfl) (Nat.le_of_ble_eq_true rfl) (Nat.le_of_ble_eq_true rfl) (Or.inl rfl) rfl (ze_4 (by omega) 24 s.2 x1 M N (by decide) h1) ?_
      refine jb_seg 1 (pc' := (if (jb_b2i q1) = 0 then 29 else 20)) (ls' := [some (.ref 24), some (.int x1), some (.int s.1), some (.int s.2)]) (st' := [(.int s.1)]) (σ' := (zE L, M, N)) (G := []) rfl trivial ?_
      refine jb_ite (fun c => ?_) (fun c => ?_)
      · replace h := (if_pos c).symm.trans h
        refine jb_seg 1 (pc' := 30) (ls' := [some (.ref 24), some (.int x1), some (.int s.1), some (.int s.2)]) (st' := [(.int 0), (.int s.1)]) (σ' := (zE L, M, N)) (G := []) rfl trivial ?_
        exact jb_mask [true, true, false, true] rfl (zg_107_J30 hd 24 x1 s.2 s.1 0 M N (by decide) h hK)
      · replace h := (if_neg c).symm.trans h
        obtain ⟨g2, h⟩ := jb_gd_of h
        refine jb_seg 5 (pc' := 30) (ls' := [some (.ref 24), some (.int x1), some (.int s.1), some (.int s.2)]) (st' := [(.int (M (24 + 7) (s.2).toNatClampNeg)), (.int s.1)]) (σ' := (zE L, M, N)) (G := [vp_in s.2 24]) rfl g2 ?_
        exact jb_mask [true, true, false, true] rfl (zg_107_J30 hd 24 x1 s.2 s.1 (M (24 + 7) (s.2).toNatClampNeg) M N (by decide) h hK)
    · replace h := (if_neg c).symm.trans h
      refine jb_seg 1 (pc' := 39) (ls' := [some (.ref 24), some (.int x1), some (.int s.1), some (.int s.2)]) (st' := [(.int s.1)]) (σ' := (zE L, M, N)) (G := []) rfl trivial ?_
      obtain rfl := Option.some.inj h
      obtain ⟨rfl, rfl⟩ := hK
      exact jb_reti rfl rfl
theorem zg_107_H4L {Γ : jb_G} {L : Nat} {d : Nat} (hd : 2 ≤ d) (o : Nat) (x1 : Int32) (M : jb_Mi) (N : jb_Ml) (hp : o = 4 ∨ o = 24) {v : Option Value} {σ2 : jb_S} {s : Int32 × Int32} {r : (Int32)} (h : jb_lp (zf_107_H4 o x1 M) s = some r) (hK : (fun r : Int32 => v = some (.int r) ∧ σ2 = (zE L, M, N)) r) : jb_V Γ d zq_107 4 [some (.ref o), some (.int x1), some (.int s.1), some (.int s.2)] [] (zE L, M, N) v σ2 := by
  exact @jb_lp_ind (Int32 × Int32) ((Int32)) (zf_107_H4 o x1 M) (fun s => jb_V Γ d zq_107 4 [some (.ref o), some (.int x1), some (.int s.1), some (.int s.2)] [] (zE L, M, N) v σ2) (fun r : Int32 => v = some (.int r) ∧ σ2 = (zE L, M, N)) (fun s r h hk => zg_107_H4 hd o x1 M N s hp h hk) s r h hK
set_option maxRecDepth 20000 in
theorem zg_107 {Γ : jb_G} {L : Nat} {d : Nat} (hd : 2 ≤ d) (o : Nat) (x1 : Int32) (M : jb_Mi) (N : jb_Ml) (hp : o = 4 ∨ o = 24) {v : Option Value} {σ2 : jb_S} {r : (Int32)} (h : zf_107 o x1 M = some r) (hK : (fun r : Int32 => v = some (.int r) ∧ σ2 = (zE L, M, N)) r) : jb_V Γ d zq_107 0 [some (.ref o), some (.int x1), none, none] [] (zE L, M, N) v σ2 := by
  rcases hp with rfl | rfl
  · obtain ⟨d, rfl⟩ : ∃ e, d = e + 1 := ⟨d - 1, by omega⟩
    unfold zf_107 at h
    refine jb_seg 4 (pc' := 4) (ls' := [some (.ref 4), some (.int x1), some (.int 0), some (.int 0)]) (st' := []) (σ' := (zE L, M, N)) (G := []) rfl trivial ?_
    exact jb_mask [true, true, true, true] rfl (zg_107_H4L hd 4 x1 M N (by decide) h hK)
  · obtain ⟨d, rfl⟩ : ∃ e, d = e + 1 := ⟨d - 1, by omega⟩
    unfold zf_107 at h
    refine jb_seg 4 (pc' := 4) (ls' := [some (.ref 24), some (.int x1), some (.int 0), some (.int 0)]) (st' := []) (σ' := (zE L, M, N)) (G := []) rfl trivial ?_
    exact jb_mask [true, true, true, true] rfl (zg_107_H4L hd 24 x1 M N (by decide) h hK)
theorem ze_107 {Γ : jb_G} {L : Nat} {d : Nat} (hd : 2 ≤ d) (o : Nat) (x1 : Int32) (M : jb_Mi) (N : jb_Ml) (hp : o = 4 ∨ o = 24) {r : (Int32)} (h : zf_107 o x1 M = some r) : jb_V Γ d zq_107 0 (jb_en 4 [(.ref o), (.int x1)]) [] (zE L, M, N) (some (.int r)) (zE L, M, N) := zg_107 hd o x1 M N hp h ⟨rfl, rfl⟩
-- X9_unevenness
set_option maxRecDepth 20000 in
theorem zg_108_H12 {Γ : jb_G} {L : Nat} {d : Nat} (hd : 3 ≤ d) (o : Nat) (x1 : Int32) (M : jb_Mi) (N : jb_Ml) (s : Int32 × Int32 × Int32) (hp : o = 4 ∨ o = 24) {v : Option Value} {σ2 : jb_S} {r : ((Int32 × Int32 × Int32) ⊕ (Int32))} (h : zf_108_H12 o x1 M s = some r) (hK : (jb_K (fun s : Int32 × Int32 × Int32 => jb_V Γ d zq_108 12 [some (.ref o), some (.int x1), some (.int s.1), some (.int s.2.1), some (.int s.2.2), none] [] (zE L, M, N) v σ2) (fun r : Int32 => v = some (.int r) ∧ σ2 = (zE L, M, N))) r) : jb_V Γ d zq_108 12 [some (.ref o), some (.int x1), some (.int s.1), some (.int s.2.1), some (.int s.2.2), none] [] (zE L, M, N) v σ2 := by
  rcases hp with rfl | rfl
  · obtain ⟨d, rfl⟩ : ∃ e, d = e + 1 := ⟨d - 1, by omega⟩
    unfold zf_108_H12 at h
    refine jb_seg 3 (pc' := (if s.2.2 < 4 then 18 else 47)) (ls' := [some (.ref 4), some (.int x1), some (.int s.1), some (.int s.2.1), some (.int s.2.2), none]) (st' := []) (σ' := (zE L, M, N)) (G := []) rfl trivial ?_
    refine jb_ite (fun c => ?_) (fun c => ?_)
    · replace h := (if_pos c).symm.trans h
      refine jb_seg 3 (pc' := 22) (ls' := [some (.ref 4), some (.int x1), some (.int s.1), some (.int s.2.1), some (.int s.2.2), none]) (st' := [(.int s.2.2), (.int x1), (.ref 4)]) (σ' := (zE L, M, N)) (G := []) rfl trivial ?_
      obtain ⟨q2, h2, h⟩ := jb_bd_of h
      refine jb_callV (q' := zq_7) (As := [(.int x1), (.int s.2.2)]) (rest := []) (σ1 := (zE L, M, N)) (v := some (.int q2)) rfl rfl zp_7 rfl (Nat.le_of_ble_eq_true rfl) (jb_cat rfl) (Nat.le_of_ble_eq_true rfl) (Nat.le_of_ble_eq_true rfl) (Or.inl rfl) rfl (ze_7 (by omega) 4 x1 s.2.2 M N (by decide) h2) ?_
      refine jb_seg 3 (pc' := 30) (ls' := [some (.ref 4), some (.int x1), some (.int s.1), some (.int s.2.1), some (.int s.2.2), some (.int q2)]) (st' := [(.int q2), (.int s.1)]) (σ' := (zE L, M, N)) (G := []) rfl trivial ?_
      refine jb_callS (q' := zq_272) (As := [(.int s.1), (.int q2)]) (rest := []) (σ1 := (zE L, M, N)) (v := some (.int (zf_272 s.1 q2))) rfl (Nat.le_of_ble_eq_true rfl) rfl zp_272 (jb_cat rfl) (Nat.le_of_ble_eq_true rfl) (Nat.le_of_ble_eq_true rfl) (Or.inl rfl) rfl (ze_272 s.1 q2 M N rfl) ?_
      refine jb_seg 3 (pc' := 37) (ls' := [some (.ref 4), some (.int x1), some (.int (zf_272 s.1 q2)), some (.int s.2.1), some (.int s.2.2), some (.int q2)]) (st' := [(.int q2), (.int s.2.1)]) (σ' := (zE L, M, N)) (G := []) rfl trivial ?_
      refine jb_callS (q' := zq_271) (As := [(.int s.2.1), (.int q2)]) (rest := []) (σ1 := (zE L, M, N)) (v := some (.int (zf_271 s.2.1 q2))) rfl (Nat.le_of_ble_eq_true rfl) rfl zp_271 (jb_cat rfl) (Nat.le_of_ble_eq_true rfl) (Nat.le_of_ble_eq_true rfl) (Or.inl rfl) rfl (ze_271 s.2.1 q2 M N rfl) ?_
      refine jb_seg 3 (pc' := 12) (ls' := [some (.ref 4), some (.int x1), some (.int (zf_272 s.1 q2)), some (.int (zf_271 s.2.1 q2)), some (.int (s.2.2 + 1)), some (.int q2)]) (st' := []) (σ' := (zE L, M, N)) (G := []) rfl trivial ?_
      obtain rfl := Option.some.inj h
      exact jb_mask [true, true, true, true, true, false] rfl hK
    · replace h := (if_neg c).symm.trans h
      refine jb_seg 3 (pc' := 50) (ls' := [some (.ref 4), some (.int x1), some (.int s.1), some (.int s.2.1), some (.int s.2.2), none]) (st' := [(.int (s.2.1 - s.1))]) (σ' := (zE L, M, N)) (G := []) rfl trivial ?_
      obtain rfl := Option.some.inj h
      obtain ⟨rfl, rfl⟩ := hK
      exact jb_reti rfl rfl
  · obtain ⟨d, rfl⟩ : ∃ e, d = e + 1 := ⟨d - 1, by omega⟩
    unfold zf_108_H12 at h
    refine jb_seg 3 (pc' := (if s.2.2 < 4 then 18 else 47)) (ls' := [some (.ref 24), some (.int x1), some (.int s.1), some (.int s.2.1), some (.int s.2.2), none]) (st' := []) (σ' := (zE L, M, N)) (G := []) rfl trivial ?_
    refine jb_ite (fun c => ?_) (fun c => ?_)
    · replace h := (if_pos c).symm.trans h
      refine jb_seg 3 (pc' := 22) (ls' := [some (.ref 24), some (.int x1), some (.int s.1), some (.int s.2.1), some (.int s.2.2), none]) (st' := [(.int s.2.2), (.int x1), (.ref 24)]) (σ' := (zE L, M, N)) (G := []) rfl trivial ?_
      obtain ⟨q2, h2, h⟩ := jb_bd_of h
      refine jb_callV (q' := zq_7) (As := [(.int x1), (.int s.2.2)]) (rest := []) (σ1 := (zE L, M, N)) (v := some (.int q2)) rfl rfl zp_7 rfl (Nat.le_of_ble_eq_true rfl) (jb_cat rfl) (Nat.le_of_ble_eq_true rfl) (Nat.le_of_ble_eq_true rfl) (Or.inl rfl) rfl (ze_7 (by omega) 24 x1 s.2.2 M N (by decide) h2) ?_
      refine jb_seg 3 (pc' := 30) (ls' := [some (.ref 24), some (.int x1), some (.int s.1), some (.int s.2.1), some (.int s.2.2), some (.int q2)]) (st' := [(.int q2), (.int s.1)]) (σ' := (zE L, M, N)) (G := []) rfl trivial ?_
      refine jb_callS (q' := zq_272) (As := [(.int s.1), (.int q2)]) (rest := []) (σ1 := (zE L, M, N)) (v := some (.int (zf_272 s.1 q2))) rfl (Nat.le_of_ble_eq_true rfl) rfl zp_272 (jb_cat rfl) (Nat.le_of_ble_eq_true rfl) (Nat.le_of_ble_eq_true rfl) (Or.inl rfl) rfl (ze_272 s.1 q2 M N rfl) ?_
      refine jb_seg 3 (pc' := 37) (ls' := [some (.ref 24), some (.int x1), some (.int (zf_272 s.1 q2)), some (.int s.2.1), some (.int s.2.2), some (.int q2)]) (st' := [(.int q2), (.int s.2.1)]) (σ' := (zE L, M, N)) (G := []) rfl trivial ?_
      refine jb_callS (q' := zq_271) (As := [(.int s.2.1), (.int q2)]) (rest := []) (σ1 := (zE L, M, N)) (v := some (.int (zf_271 s.2.1 q2))) rfl (Nat.le_of_ble_eq_true rfl) rfl zp_271 (jb_cat rfl) (Nat.le_of_ble_eq_true rfl) (Nat.le_of_ble_eq_true rfl) (Or.inl rfl) rfl (ze_271 s.2.1 q2 M N rfl) ?_
      refine jb_seg 3 (pc' := 12) (ls' := [some (.ref 24), some (.int x1), some (.int (zf_272 s.1 q2)), some (.int (zf_271 s.2.1 q2)), some (.int (s.2.2 + 1)), some (.int q2)]) (st' := []) (σ' := (zE L, M, N)) (G := []) rfl trivial ?_
      obtain rfl := Option.some.inj h
      exact jb_mask [true, true, true, true, true, false] rfl hK
    · replace h := (if_neg c).symm.trans h
      refine jb_seg 3 (pc' := 50) (ls' := [some (.ref 24), some (.int x1), some (.int s.1), some (.int s.2.1), some (.int s.2.2), none]) (st' := [(.int (s.2.1 - s.1))]) (σ' := (zE L, M, N)) (G := []) rfl trivial ?_
      obtain rfl := Option.some.inj h
      obtain ⟨rfl, rfl⟩ := hK
      exact jb_reti rfl rfl
theorem zg_108_H12L {Γ : jb_G} {L : Nat} {d : Nat} (hd : 3 ≤ d) (o : Nat) (x1 : Int32) (M : jb_Mi) (N : jb_Ml) (hp : o = 4 ∨ o = 24) {v : Option Value} {σ2 : jb_S} {s : Int32 × Int32 × Int32} {r : (Int32)} (h : jb_lp (zf_108_H12 o x1 M) s = some r) (hK : (fun r : Int32 => v = some (.int r) ∧ σ2 = (zE L, M, N)) r) : jb_V Γ d zq_108 12 [some (.ref o), some (.int x1), some (.int s.1), some (.int s.2.1), some (.int s.2.2), none] [] (zE L, M, N) v σ2 := by
  exact @jb_lp_ind (Int32 × Int32 × Int32) ((Int32)) (zf_108_H12 o x1 M) (fun s => jb_V Γ d zq_108 12 [some (.ref o), some (.int x1), some (.int s.1), some (.int s.2.1), some (.int s.2.2), none] [] (zE L, M, N) v σ2) (fun r : Int32 => v = some (.int r) ∧ σ2 = (zE L, M, N)) (fun s r h hk => zg_108_H12 hd o x1 M N s hp h hk) s r h hK
set_option maxRecDepth 20000 in
theorem zg_108 {Γ : jb_G} {L : Nat} {d : Nat} (hd : 3 ≤ d) (o : Nat) (x1 : Int32) (M : jb_Mi) (N : jb_Ml) (hp : o = 4 ∨ o = 24) {v : Option Value} {σ2 : jb_S} {r : (Int32)} (h : zf_108 o x1 M = some r) (hK : (fun r : Int32 => v = some (.int r) ∧ σ2 = (zE L, M, N)) r) : jb_V Γ d zq_108 0 [some (.ref o), some (.int x1), none, none, none, none] [] (zE L, M, N) v σ2 := by
  rcases hp with rfl | rfl
  · obtain ⟨d, rfl⟩ : ∃ e, d = e + 1 := ⟨d - 1, by omega⟩
    unfold zf_108 at h
    refine jb_seg 3 (pc' := 3) (ls' := [some (.ref 4), some (.int x1), none, none, none, none]) (st' := [(.int 0), (.int x1), (.ref 4)]) (σ' := (zE L, M, N)) (G := []) rfl trivial ?_
    obtain ⟨q1, h1, h⟩ := jb_bd_of h
    refine jb_callV (q' := zq_7) (As := [(.int x1), (.int 0)]) (rest := []) (σ1 := (zE L, M, N)) (v := some (.int q1)) rfl rfl zp_7 rfl (Nat.le_of_ble_eq_true rfl) (jb_cat rfl) (Nat.le_of_ble_eq_true rfl) (Nat.le_of_ble_eq_true rfl) (Or.inl rfl) rfl (ze_7 (by omega) 4 x1 0 M N (by decide) h1) ?_
    refine jb_seg 5 (pc' := 12) (ls' := [some (.ref 4), some (.int x1), some (.int q1), some (.int q1), some (.int 1), none]) (st' := []) (σ' := (zE L, M, N)) (G := []) rfl trivial ?_
    exact jb_mask [true, true, true, true, true, false] rfl (zg_108_H12L hd 4 x1 M N (by decide) h hK)
  · obtain ⟨d, rfl⟩ : ∃ e, d = e + 1 := ⟨d - 1, by omega⟩
    unfold zf_108 at h
    refine jb_seg 3 (pc' := 3) (ls' := [some (.ref 24), some (.int x1), none, none, none, none]) (st' := [(.int 0), (.int x1), (.ref 24)]) (σ' := (zE L, M, N)) (G := []) rfl trivial ?_
    obtain ⟨q1, h1, h⟩ := jb_bd_of h
    refine jb_callV (q' := zq_7) (As := [(.int x1), (.int 0)]) (rest := []) (σ1 := (zE L, M, N)) (v := some (.int q1)) rfl rfl zp_7 rfl (Nat.le_of_ble_eq_true rfl) (jb_cat rfl) (Nat.le_of_ble_eq_true rfl) (Nat.le_of_ble_eq_true rfl) (Or.inl rfl) rfl (ze_7 (by omega) 24 x1 0 M N (by decide) h1) ?_
    refine jb_seg 5 (pc' := 12) (ls' := [some (.ref 24), some (.int x1), some (.int q1), some (.int q1), some (.int 1), none]) (st' := []) (σ' := (zE L, M, N)) (G := []) rfl trivial ?_
    exact jb_mask [true, true, true, true, true, false] rfl (zg_108_H12L hd 24 x1 M N (by decide) h hK)
theorem ze_108 {Γ : jb_G} {L : Nat} {d : Nat} (hd : 3 ≤ d) (o : Nat) (x1 : Int32) (M : jb_Mi) (N : jb_Ml) (hp : o = 4 ∨ o = 24) {r : (Int32)} (h : zf_108 o x1 M = some r) : jb_V Γ d zq_108 0 (jb_en 6 [(.ref o), (.int x1)]) [] (zE L, M, N) (some (.int r)) (zE L, M, N) := zg_108 hd o x1 M N hp h ⟨rfl, rfl⟩
-- X9_heaviestCorner
set_option maxRecDepth 20000 in
theorem zg_109_J35 {Γ : jb_G} {L : Nat} {d : Nat} (hd : 3 ≤ d) (o : Nat) (x1 : Int32) (x2 : Int32) (x3 : Int32) (M : jb_Mi) (N : jb_Ml) (hp : o = 4 ∨ o = 24) {v : Option Value} {σ2 : jb_S} {r : ((Int32 × Int32 × Int32) ⊕ (Int32))} (h : zf_109_J35 o x1 x2 x3 M = some r) (hK : (jb_K (fun s : Int32 × Int32 × Int32 => jb_V Γ d zq_109 6 [some (.ref o), some (.int s.1), some (.int s.2.1), some (.int s.2.2), none] [] (zE L, M, N) v σ2) (fun r : Int32 => v = some (.int r) ∧ σ2 = (zE L, M, N))) r) : jb_V Γ d zq_109 35 [some (.ref o), some (.int x1), some (.int x2), some (.int x3), none] [] (zE L, M, N) v σ2 := by
  rcases hp with rfl | rfl
  · obtain ⟨d, rfl⟩ : ∃ e, d = e + 1 := ⟨d - 1, by omega⟩
    unfold zf_109_J35 at h
    refine jb_seg 2 (pc' := 6) (ls' := [some (.ref 4), some (.int x1), some (.int x2), some (.int (x3 + 1)), none]) (st' := []) (σ' := (zE L, M, N)) (G := []) rfl trivial ?_
    obtain rfl := Option.some.inj h
    exact jb_mask [true, true, true, true, false] rfl hK
  · obtain ⟨d, rfl⟩ : ∃ e, d = e + 1 := ⟨d - 1, by omega⟩
    unfold zf_109_J35 at h
    refine jb_seg 2 (pc' := 6) (ls' := [some (.ref 24), some (.int x1), some (.int x2), some (.int (x3 + 1)), none]) (st' := []) (σ' := (zE L, M, N)) (G := []) rfl trivial ?_
    obtain rfl := Option.some.inj h
    exact jb_mask [true, true, true, true, false] rfl hK
set_option maxRecDepth 20000 in
theorem zg_109_H6 {Γ : jb_G} {L : Nat} {d : Nat} (hd : 3 ≤ d) (o : Nat) (M : jb_Mi) (N : jb_Ml) (s : Int32 × Int32 × Int32) (hp : o = 4 ∨ o = 24) {v : Option Value} {σ2 : jb_S} {r : ((Int32 × Int32 × Int32) ⊕ (Int32))} (h : zf_109_H6 o M s = some r) (hK : (jb_K (fun s : Int32 × Int32 × Int32 => jb_V Γ d zq_109 6 [some (.ref o), some (.int s.1), some (.int s.2.1), some (.int s.2.2), none] [] (zE L, M, N) v σ2) (fun r : Int32 => v = some (.int r) ∧ σ2 = (zE L, M, N))) r) : jb_V Γ d zq_109 6 [some (.ref o), some (.int s.1), some (.int s.2.1), some (.int s.2.2), none] [] (zE L, M, N) v σ2 := by
  rcases hp with rfl | rfl
  · obtain ⟨d, rfl⟩ : ∃ e, d = e + 1 := ⟨d - 1, by omega⟩
    unfold zf_109_H6 at h
    refine jb_seg 3 (pc' := (if s.2.2 < 24 then 12 else 41)) (ls' := [some (.ref 4), some (.int s.1), some (.int s.2.1), some (.int s.2.2), none]) (st' := []) (σ' := (zE L, M, N)) (G := []) rfl trivial ?_
    refine jb_ite (fun c => ?_) (fun c => ?_)
    · replace h := (if_pos c).symm.trans h
      refine jb_seg 7 (pc' := 19) (ls' := [some (.ref 4), some (.int s.1), some (.int s.2.1), some (.int s.2.2), none]) (st' := [(.int (s.2.2 - s.2.2 / 4 * 4)), (.int (s.2.2 / 4)), (.ref 4)]) (σ' := (zE L, M, N)) (G := [¬ (4 : Int32) = 0, ¬ (4 : Int32) = 0]) rfl ⟨(show ¬ (4 : Int32) = 0 from (by decide)), (show ¬ (4 : Int32) = 0 from (by decide))⟩ ?_
      obtain ⟨q1, h1, h⟩ := jb_bd_of h
      refine jb_callV (q' := zq_7) (As := [(.int (s.2.2 / 4)), (.int (s.2.2 - s.2.2 / 4 * 4))]) (rest := []) (σ1 := (zE L, M, N)) (v := some (.int q1)) rfl rfl zp_7 rfl (Nat.le_of_ble_eq_true rfl) (jb_cat rfl) (Nat.le_of_ble_eq_true rfl) (Nat.le_of_ble_eq_true rfl) (Or.inl rfl) rfl (ze_7 (by omega) 4 (s.2.2 / 4) (s.2.2 - s.2.2 / 4 * 4) M N (by decide) h1) ?_
      refine jb_seg 4 (pc' := (if s.2.1 < q1 then 30 else 35)) (ls' := [some (.ref 4), some (.int s.1), some (.int s.2.1), some (.int s.2.2), some (.int q1)]) (st' := []) (σ' := (zE L, M, N)) (G := []) rfl trivial ?_
      refine jb_ite (fun c => ?_) (fun c => ?_)
      · replace h := (if_pos c).symm.trans h
        refine jb_seg 4 (pc' := 35) (ls' := [some (.ref 4), some (.int s.2.2), some (.int q1), some (.int s.2.2), some (.int q1)]) (st' := []) (σ' := (zE L, M, N)) (G := []) rfl trivial ?_
        exact jb_mask [true, true, true, true, false] rfl (zg_109_J35 hd 4 s.2.2 q1 s.2.2 M N (by decide) h hK)
      · replace h := (if_neg c).symm.trans h
        exact jb_mask [true, true, true, true, false] rfl (zg_109_J35 hd 4 s.1 s.2.1 s.2.2 M N (by decide) h hK)
    · replace h := (if_neg c).symm.trans h
      refine jb_seg 1 (pc' := 42) (ls' := [some (.ref 4), some (.int s.1), some (.int s.2.1), some (.int s.2.2), none]) (st' := [(.int s.1)]) (σ' := (zE L, M, N)) (G := []) rfl trivial ?_
      obtain rfl := Option.some.inj h
      obtain ⟨rfl, rfl⟩ := hK
      exact jb_reti rfl rfl
  · obtain ⟨d, rfl⟩ : ∃ e, d = e + 1 := ⟨d - 1, by omega⟩
    unfold zf_109_H6 at h
    refine jb_seg 3 (pc' := (if s.2.2 < 24 then 12 else 41)) (ls' := [some (.ref 24), some (.int s.1), some (.int s.2.1), some (.int s.2.2), none]) (st' := []) (σ' := (zE L, M, N)) (G := []) rfl trivial ?_
    refine jb_ite (fun c => ?_) (fun c => ?_)
    · replace h := (if_pos c).symm.trans h
      refine jb_seg 7 (pc' := 19) (ls' := [some (.ref 24), some (.int s.1), some (.int s.2.1), some (.int s.2.2), none]) (st' := [(.int (s.2.2 - s.2.2 / 4 * 4)), (.int (s.2.2 / 4)), (.ref 24)]) (σ' := (zE L, M, N)) (G := [¬ (4 : Int32) = 0, ¬ (4 : Int32) = 0]) rfl ⟨(show ¬ (4 : Int32) = 0 from (by decide)), (show ¬ (4 : Int32) = 0 from (by decide))⟩ ?_
      obtain ⟨q1, h1, h⟩ := jb_bd_of h
      refine jb_callV (q' := zq_7) (As := [(.int (s.2.2 / 4)), (.int (s.2.2 - s.2.2 / 4 * 4))]) (rest := []) (σ1 := (zE L, M, N)) (v := some (.int q1)) rfl rfl zp_7 rfl (Nat.le_of_ble_eq_true rfl) (jb_cat rfl) (Nat.le_of_ble_eq_true rfl) (Nat.le_of_ble_eq_true rfl) (Or.inl rfl) rfl (ze_7 (by omega) 24 (s.2.2 / 4) (s.2.2 - s.2.2 / 4 * 4) M N (by decide) h1) ?_
      refine jb_seg 4 (pc' := (if s.2.1 < q1 then 30 else 35)) (ls' := [some (.ref 24), some (.int s.1), some (.int s.2.1), some (.int s.2.2), some (.int q1)]) (st' := []) (σ' := (zE L, M, N)) (G := []) rfl trivial ?_
      refine jb_ite (fun c => ?_) (fun c => ?_)
      · replace h := (if_pos c).symm.trans h
        refine jb_seg 4 (pc' := 35) (ls' := [some (.ref 24), some (.int s.2.2), some (.int q1), some (.int s.2.2), some (.int q1)]) (st' := []) (σ' := (zE L, M, N)) (G := []) rfl trivial ?_
        exact jb_mask [true, true, true, true, false] rfl (zg_109_J35 hd 24 s.2.2 q1 s.2.2 M N (by decide) h hK)
      · replace h := (if_neg c).symm.trans h
        exact jb_mask [true, true, true, true, false] rfl (zg_109_J35 hd 24 s.1 s.2.1 s.2.2 M N (by decide) h hK)
    · replace h := (if_neg c).symm.trans h
      refine jb_seg 1 (pc' := 42) (ls' := [some (.ref 24), some (.int s.1), some (.int s.2.1), some (.int s.2.2), none]) (st' := [(.int s.1)]) (σ' := (zE L, M, N)) (G := []) rfl trivial ?_
      obtain rfl := Option.some.inj h
      obtain ⟨rfl, rfl⟩ := hK
      exact jb_reti rfl rfl
theorem zg_109_H6L {Γ : jb_G} {L : Nat} {d : Nat} (hd : 3 ≤ d) (o : Nat) (M : jb_Mi) (N : jb_Ml) (hp : o = 4 ∨ o = 24) {v : Option Value} {σ2 : jb_S} {s : Int32 × Int32 × Int32} {r : (Int32)} (h : jb_lp (zf_109_H6 o M) s = some r) (hK : (fun r : Int32 => v = some (.int r) ∧ σ2 = (zE L, M, N)) r) : jb_V Γ d zq_109 6 [some (.ref o), some (.int s.1), some (.int s.2.1), some (.int s.2.2), none] [] (zE L, M, N) v σ2 := by
  exact @jb_lp_ind (Int32 × Int32 × Int32) ((Int32)) (zf_109_H6 o M) (fun s => jb_V Γ d zq_109 6 [some (.ref o), some (.int s.1), some (.int s.2.1), some (.int s.2.2), none] [] (zE L, M, N) v σ2) (fun r : Int32 => v = some (.int r) ∧ σ2 = (zE L, M, N)) (fun s r h hk => zg_109_H6 hd o M N s hp h hk) s r h hK
set_option maxRecDepth 20000 in
theorem zg_109 {Γ : jb_G} {L : Nat} {d : Nat} (hd : 3 ≤ d) (o : Nat) (M : jb_Mi) (N : jb_Ml) (hp : o = 4 ∨ o = 24) {v : Option Value} {σ2 : jb_S} {r : (Int32)} (h : zf_109 o M = some r) (hK : (fun r : Int32 => v = some (.int r) ∧ σ2 = (zE L, M, N)) r) : jb_V Γ d zq_109 0 [some (.ref o), none, none, none, none] [] (zE L, M, N) v σ2 := by
  rcases hp with rfl | rfl
  · obtain ⟨d, rfl⟩ : ∃ e, d = e + 1 := ⟨d - 1, by omega⟩
    unfold zf_109 at h
    refine jb_seg 6 (pc' := 6) (ls' := [some (.ref 4), some (.int (-1)), some (.int 0), some (.int 0), none]) (st' := []) (σ' := (zE L, M, N)) (G := []) rfl trivial ?_
    exact jb_mask [true, true, true, true, false] rfl (zg_109_H6L hd 4 M N (by decide) h hK)
  · obtain ⟨d, rfl⟩ : ∃ e, d = e + 1 := ⟨d - 1, by omega⟩
    unfold zf_109 at h
    refine jb_seg 6 (pc' := 6) (ls' := [some (.ref 24), some (.int (-1)), some (.int 0), some (.int 0), none]) (st' := []) (σ' := (zE L, M, N)) (G := []) rfl trivial ?_
    exact jb_mask [true, true, true, true, false] rfl (zg_109_H6L hd 24 M N (by decide) h hK)
theorem ze_109 {Γ : jb_G} {L : Nat} {d : Nat} (hd : 3 ≤ d) (o : Nat) (M : jb_Mi) (N : jb_Ml) (hp : o = 4 ∨ o = 24) {r : (Int32)} (h : zf_109 o M = some r) : jb_V Γ d zq_109 0 (jb_en 5 [(.ref o)]) [] (zE L, M, N) (some (.int r)) (zE L, M, N) := zg_109 hd o M N hp h ⟨rfl, rfl⟩
-- X9_isOver
set_option maxRecDepth 20000 in
theorem zg_110 {Γ : jb_G} {L : Nat} {d : Nat} (o : Nat) (M : jb_Mi) (N : jb_Ml) (hp : o = 4 ∨ o = 24) {v : Option Value} {σ2 : jb_S} {r : Bool} (h : zf_110 o M = r) (hK : (fun r : Bool => v = some (.int (jb_b2i r)) ∧ σ2 = (zE L, M, N)) r) : jb_V Γ d zq_110 0 [some (.ref o)] [] (zE L, M, N) v σ2 := by
  rcases hp with rfl | rfl
  · unfold zf_110 at h
    refine jb_seg 4 (pc' := (if (M 4 10) < 9999 then 23 else 10)) (ls' := [some (.ref 4)]) (st' := []) (σ' := (zE L, M, N)) (G := []) rfl trivial ?_
    refine jb_ite (fun c => ?_) (fun c => ?_)
    · replace h := (if_pos c).symm.trans h
      refine jb_seg 1 (pc' := 24) (ls' := [some (.ref 4)]) (st' := [(.int 0)]) (σ' := (zE L, M, N)) (G := []) rfl trivial ?_
      subst h
      obtain ⟨rfl, rfl⟩ := hK
      exact jb_retz (by decide) rfl rfl
    · replace h := (if_neg c).symm.trans h
      refine jb_seg 4 (pc' := (if (M 4 9) < 23 then 23 else 19)) (ls' := [some (.ref 4)]) (st' := []) (σ' := (zE L, M, N)) (G := []) rfl trivial ?_
      refine jb_ite (fun c => ?_) (fun c => ?_)
      · replace h := (if_pos c).symm.trans h
        refine jb_seg 1 (pc' := 24) (ls' := [some (.ref 4)]) (st' := [(.int 0)]) (σ' := (zE L, M, N)) (G := []) rfl trivial ?_
        subst h
        obtain ⟨rfl, rfl⟩ := hK
        exact jb_retz (by decide) rfl rfl
      · replace h := (if_neg c).symm.trans h
        refine jb_seg 2 (pc' := 24) (ls' := [some (.ref 4)]) (st' := [(.int 1)]) (σ' := (zE L, M, N)) (G := []) rfl trivial ?_
        subst h
        obtain ⟨rfl, rfl⟩ := hK
        exact jb_retz (by decide) rfl rfl
  · unfold zf_110 at h
    refine jb_seg 4 (pc' := (if (M 24 10) < 9999 then 23 else 10)) (ls' := [some (.ref 24)]) (st' := []) (σ' := (zE L, M, N)) (G := []) rfl trivial ?_
    refine jb_ite (fun c => ?_) (fun c => ?_)
    · replace h := (if_pos c).symm.trans h
      refine jb_seg 1 (pc' := 24) (ls' := [some (.ref 24)]) (st' := [(.int 0)]) (σ' := (zE L, M, N)) (G := []) rfl trivial ?_
      subst h
      obtain ⟨rfl, rfl⟩ := hK
      exact jb_retz (by decide) rfl rfl
    · replace h := (if_neg c).symm.trans h
      refine jb_seg 4 (pc' := (if (M 24 9) < 23 then 23 else 19)) (ls' := [some (.ref 24)]) (st' := []) (σ' := (zE L, M, N)) (G := []) rfl trivial ?_
      refine jb_ite (fun c => ?_) (fun c => ?_)
      · replace h := (if_pos c).symm.trans h
        refine jb_seg 1 (pc' := 24) (ls' := [some (.ref 24)]) (st' := [(.int 0)]) (σ' := (zE L, M, N)) (G := []) rfl trivial ?_
        subst h
        obtain ⟨rfl, rfl⟩ := hK
        exact jb_retz (by decide) rfl rfl
      · replace h := (if_neg c).symm.trans h
        refine jb_seg 2 (pc' := 24) (ls' := [some (.ref 24)]) (st' := [(.int 1)]) (σ' := (zE L, M, N)) (G := []) rfl trivial ?_
        subst h
        obtain ⟨rfl, rfl⟩ := hK
        exact jb_retz (by decide) rfl rfl
theorem ze_110 {Γ : jb_G} {L : Nat} {d : Nat} (o : Nat) (M : jb_Mi) (N : jb_Ml) (hp : o = 4 ∨ o = 24) {r : Bool} (h : zf_110 o M = r) : jb_V Γ d zq_110 0 (jb_en 1 [(.ref o)]) [] (zE L, M, N) (some (.int (jb_b2i r))) (zE L, M, N) := zg_110 o M N hp h ⟨rfl, rfl⟩
-- X9_tick
set_option maxRecDepth 20000 in
theorem zg_111 {Γ : jb_G} {L : Nat} {d : Nat} (o : Nat) (M : jb_Mi) (N : jb_Ml) (hp : o = 4 ∨ o = 24) {v : Option Value} {σ2 : jb_S} {r : jb_Mi} (h : zf_111 o M = r) (hK : (fun r : jb_Mi => v = none ∧ σ2 = (zE L, r, N)) r) : jb_V Γ d zq_111 0 [some (.ref o)] [] (zE L, M, N) v σ2 := by
  rcases hp with rfl | rfl
  · unfold zf_111 at h
    refine jb_seg 10 (pc' := (if ((jb_up M 4 9 ((M 4 9) + 1)) 4 9) < 24 then 34 else 19)) (ls' := [some (.ref 4)]) (st' := []) (σ' := (zE L, (jb_up M 4 9 ((M 4 9) + 1)), N)) (G := []) rfl trivial ?_
    refine jb_ite (fun c => ?_) (fun c => ?_)
    · replace h := (if_pos c).symm.trans h
      subst h
      obtain ⟨rfl, rfl⟩ := hK
      exact jb_retv rfl rfl
    · replace h := (if_neg c).symm.trans h
      refine jb_seg 9 (pc' := 34) (ls' := [some (.ref 4)]) (st' := []) (σ' := (zE L, (jb_up (jb_up (jb_up M 4 9 ((M 4 9) + 1)) 4 9 0) 4 10 (((jb_up (jb_up M 4 9 ((M 4 9) + 1)) 4 9 0) 4 10) + 1)), N)) (G := []) rfl trivial ?_
      subst h
      obtain ⟨rfl, rfl⟩ := hK
      exact jb_retv rfl rfl
  · unfold zf_111 at h
    refine jb_seg 10 (pc' := (if ((jb_up M 24 9 ((M 24 9) + 1)) 24 9) < 24 then 34 else 19)) (ls' := [some (.ref 24)]) (st' := []) (σ' := (zE L, (jb_up M 24 9 ((M 24 9) + 1)), N)) (G := []) rfl trivial ?_
    refine jb_ite (fun c => ?_) (fun c => ?_)
    · replace h := (if_pos c).symm.trans h
      subst h
      obtain ⟨rfl, rfl⟩ := hK
      exact jb_retv rfl rfl
    · replace h := (if_neg c).symm.trans h
      refine jb_seg 9 (pc' := 34) (ls' := [some (.ref 24)]) (st' := []) (σ' := (zE L, (jb_up (jb_up (jb_up M 24 9 ((M 24 9) + 1)) 24 9 0) 24 10 (((jb_up (jb_up M 24 9 ((M 24 9) + 1)) 24 9 0) 24 10) + 1)), N)) (G := []) rfl trivial ?_
      subst h
      obtain ⟨rfl, rfl⟩ := hK
      exact jb_retv rfl rfl
theorem ze_111 {Γ : jb_G} {L : Nat} {d : Nat} (o : Nat) (M : jb_Mi) (N : jb_Ml) (hp : o = 4 ∨ o = 24) {r : jb_Mi} (h : zf_111 o M = r) : jb_V Γ d zq_111 0 (jb_en 1 [(.ref o)]) [] (zE L, M, N) (none) (zE L, r, N) := zg_111 o M N hp h ⟨rfl, rfl⟩
-- X9_draw
set_option maxRecDepth 20000 in
theorem zg_112 {Γ : jb_G} {L : Nat} {d : Nat} (o : Nat) (M : jb_Mi) (N : jb_Ml) (hp : o = 4 ∨ o = 24) {v : Option Value} {σ2 : jb_S} {r : Int32 × jb_Mi} (h : zf_112 o M = r) (hK : (fun r : Int32 × jb_Mi => v = some (.int r.1) ∧ σ2 = (zE L, r.2, N)) r) : jb_V Γ d zq_112 0 [some (.ref o)] [] (zE L, M, N) v σ2 := by
  rcases hp with rfl | rfl
  · unfold zf_112 at h
    refine jb_seg 14 (pc' := 26) (ls' := [some (.ref 4)]) (st' := [(.int (((jb_up M 4 11 (((25173 * (M 4 11)) + 13849) - ((25173 * (M 4 11)) + 13849) / 65536 * 65536)) 4 11) - ((jb_up M 4 11 (((25173 * (M 4 11)) + 13849) - ((25173 * (M 4 11)) + 13849) / 65536 * 65536)) 4 11) / 10 * 10))]) (σ' := (zE L, (jb_up M 4 11 (((25173 * (M 4 11)) + 13849) - ((25173 * (M 4 11)) + 13849) / 65536 * 65536)), N)) (G := [¬ (65536 : Int32) = 0, ¬ (10 : Int32) = 0]) rfl ⟨(show ¬ (65536 : Int32) = 0 from (by decide)), (show ¬ (10 : Int32) = 0 from (by decide))⟩ ?_
    subst h
    obtain ⟨rfl, rfl⟩ := hK
    exact jb_reti rfl rfl
  · unfold zf_112 at h
    refine jb_seg 14 (pc' := 26) (ls' := [some (.ref 24)]) (st' := [(.int (((jb_up M 24 11 (((25173 * (M 24 11)) + 13849) - ((25173 * (M 24 11)) + 13849) / 65536 * 65536)) 24 11) - ((jb_up M 24 11 (((25173 * (M 24 11)) + 13849) - ((25173 * (M 24 11)) + 13849) / 65536 * 65536)) 24 11) / 10 * 10))]) (σ' := (zE L, (jb_up M 24 11 (((25173 * (M 24 11)) + 13849) - ((25173 * (M 24 11)) + 13849) / 65536 * 65536)), N)) (G := [¬ (65536 : Int32) = 0, ¬ (10 : Int32) = 0]) rfl ⟨(show ¬ (65536 : Int32) = 0 from (by decide)), (show ¬ (10 : Int32) = 0 from (by decide))⟩ ?_
    subst h
    obtain ⟨rfl, rfl⟩ := hK
    exact jb_reti rfl rfl
theorem ze_112 {Γ : jb_G} {L : Nat} {d : Nat} (o : Nat) (M : jb_Mi) (N : jb_Ml) (hp : o = 4 ∨ o = 24) {r : Int32 × jb_Mi} (h : zf_112 o M = r) : jb_V Γ d zq_112 0 (jb_en 1 [(.ref o)]) [] (zE L, M, N) (some (.int r.1)) (zE L, r.2, N) := zg_112 o M N hp h ⟨rfl, rfl⟩
