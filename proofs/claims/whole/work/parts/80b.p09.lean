-- X10_hasRoom
set_option maxRecDepth 20000 in
theorem zg_114 {Γ : jb_G} {L : Nat} {d : Nat} (M : jb_Mi) (N : jb_Ml) {v : Option Value} {σ2 : jb_S} {r : Bool} (h : zf_114 M = r) (hK : (fun r : Bool => v = some (.int (jb_b2i r)) ∧ σ2 = (zE L, M, N)) r) : jb_V Γ d zq_114 0 [some (.ref 2)] [] (zE L, M, N) v σ2 := by
  unfold zf_114 at h
  refine jb_seg 6 (pc' := (if 260 < ((M 2 1) + 20) then 17 else 13)) (ls' := [some (.ref 2)]) (st' := []) (σ' := (zE L, M, N)) (G := []) rfl trivial ?_
  refine jb_ite (fun c => ?_) (fun c => ?_)
  · replace h := (if_pos c).symm.trans h
    refine jb_seg 1 (pc' := 18) (ls' := [some (.ref 2)]) (st' := [(.int 0)]) (σ' := (zE L, M, N)) (G := []) rfl trivial ?_
    subst h
    obtain ⟨rfl, rfl⟩ := hK
    exact jb_retz (by decide) rfl rfl
  · replace h := (if_neg c).symm.trans h
    refine jb_seg 2 (pc' := 18) (ls' := [some (.ref 2)]) (st' := [(.int 1)]) (σ' := (zE L, M, N)) (G := []) rfl trivial ?_
    subst h
    obtain ⟨rfl, rfl⟩ := hK
    exact jb_retz (by decide) rfl rfl
theorem ze_114 {Γ : jb_G} {L : Nat} {d : Nat} (M : jb_Mi) (N : jb_Ml) {r : Bool} (h : zf_114 M = r) : jb_V Γ d zq_114 0 (jb_en 1 [(.ref 2)]) [] (zE L, M, N) (some (.int (jb_b2i r))) (zE L, M, N) := zg_114 M N h ⟨rfl, rfl⟩
-- X10_put
set_option maxRecDepth 20000 in
theorem zg_115_J43 {Γ : jb_G} {L : Nat} {d : Nat} (x1 : Int32) (x2 : Int32) (M : jb_Mi) (N : jb_Ml) {v : Option Value} {σ2 : jb_S} {r : ((Int32 × jb_Mi) ⊕ (jb_Mi))} (h : zf_115_J43 x1 x2 M = some r) (hK : (jb_K (fun s : Int32 × jb_Mi => jb_V Γ d zq_115 3 [some (.ref 2), some (.int x1), some (.int s.1)] [] (zE L, s.2, N) v σ2) (fun r : jb_Mi => v = none ∧ σ2 = (zE L, r, N))) r) : jb_V Γ d zq_115 43 [some (.ref 2), some (.int x1), some (.int x2)] [] (zE L, M, N) v σ2 := by
  unfold zf_115_J43 at h
  refine jb_seg 2 (pc' := 3) (ls' := [some (.ref 2), some (.int x1), some (.int (x2 + (-8)))]) (st' := []) (σ' := (zE L, M, N)) (G := []) rfl trivial ?_
  obtain rfl := Option.some.inj h
  exact jb_mask [true, true, true] rfl hK
set_option maxRecDepth 20000 in
theorem zg_115_H3 {Γ : jb_G} {L : Nat} {d : Nat} (x1 : Int32) (N : jb_Ml) (s : Int32 × jb_Mi) {v : Option Value} {σ2 : jb_S} {r : ((Int32 × jb_Mi) ⊕ (jb_Mi))} (h : zf_115_H3 x1 s = some r) (hK : (jb_K (fun s : Int32 × jb_Mi => jb_V Γ d zq_115 3 [some (.ref 2), some (.int x1), some (.int s.1)] [] (zE L, s.2, N) v σ2) (fun r : jb_Mi => v = none ∧ σ2 = (zE L, r, N))) r) : jb_V Γ d zq_115 3 [some (.ref 2), some (.int x1), some (.int s.1)] [] (zE L, s.2, N) v σ2 := by
  unfold zf_115_H3 at h
  refine jb_seg 2 (pc' := (if s.1 < 0 then 49 else 7)) (ls' := [some (.ref 2), some (.int x1), some (.int s.1)]) (st' := []) (σ' := (zE L, s.2, N)) (G := []) rfl trivial ?_
  refine jb_ite (fun c => ?_) (fun c => ?_)
  · replace h := (if_pos c).symm.trans h
    obtain rfl := Option.some.inj h
    obtain ⟨rfl, rfl⟩ := hK
    exact jb_retv rfl rfl
  · replace h := (if_neg c).symm.trans h
    refine jb_seg 4 (pc' := (if (s.2 2 1) < 260 then 17 else 43)) (ls' := [some (.ref 2), some (.int x1), some (.int s.1)]) (st' := []) (σ' := (zE L, s.2, N)) (G := []) rfl trivial ?_
    refine jb_ite (fun c => ?_) (fun c => ?_)
    · replace h := (if_pos c).symm.trans h
      obtain ⟨g1, h⟩ := jb_gd_of h
      refine jb_seg 16 (pc' := 43) (ls' := [some (.ref 2), some (.int x1), some (.int s.1)]) (st' := []) (σ' := (zE L, (jb_up (jb_up s.2 3 ((s.2 2 1)).toNatClampNeg (((x1 : Int32).toUInt32 >>> ((s.1 : Int32).toUInt32 &&& Int32.toUInt32 31)).toInt32 &&& 255)) 2 1 (((jb_up s.2 3 ((s.2 2 1)).toNatClampNeg (((x1 : Int32).toUInt32 >>> ((s.1 : Int32).toUInt32 &&& Int32.toUInt32 31)).toInt32 &&& 255)) 2 1) + 1)), N)) (G := [vp_in (s.2 2 1) 260]) rfl g1 ?_
      exact jb_mask [true, true, true] rfl (zg_115_J43 x1 s.1 (jb_up (jb_up s.2 3 ((s.2 2 1)).toNatClampNeg (((x1 : Int32).toUInt32 >>> ((s.1 : Int32).toUInt32 &&& Int32.toUInt32 31)).toInt32 &&& 255)) 2 1 (((jb_up s.2 3 ((s.2 2 1)).toNatClampNeg (((x1 : Int32).toUInt32 >>> ((s.1 : Int32).toUInt32 &&& Int32.toUInt32 31)).toInt32 &&& 255)) 2 1) + 1)) N h hK)
    · replace h := (if_neg c).symm.trans h
      exact jb_mask [true, true, true] rfl (zg_115_J43 x1 s.1 s.2 N h hK)
theorem zg_115_H3L {Γ : jb_G} {L : Nat} {d : Nat} (x1 : Int32) (N : jb_Ml) {v : Option Value} {σ2 : jb_S} {s : Int32 × jb_Mi} {r : (jb_Mi)} (h : jb_lp (zf_115_H3 x1) s = some r) (hK : (fun r : jb_Mi => v = none ∧ σ2 = (zE L, r, N)) r) : jb_V Γ d zq_115 3 [some (.ref 2), some (.int x1), some (.int s.1)] [] (zE L, s.2, N) v σ2 := by
  exact @jb_lp_ind (Int32 × jb_Mi) ((jb_Mi)) (zf_115_H3 x1) (fun s => jb_V Γ d zq_115 3 [some (.ref 2), some (.int x1), some (.int s.1)] [] (zE L, s.2, N) v σ2) (fun r : jb_Mi => v = none ∧ σ2 = (zE L, r, N)) (fun s r h hk => zg_115_H3 x1 N s h hk) s r h hK
set_option maxRecDepth 20000 in
theorem zg_115 {Γ : jb_G} {L : Nat} {d : Nat} (x1 : Int32) (M : jb_Mi) (N : jb_Ml) {v : Option Value} {σ2 : jb_S} {r : (jb_Mi)} (h : zf_115 x1 M = some r) (hK : (fun r : jb_Mi => v = none ∧ σ2 = (zE L, r, N)) r) : jb_V Γ d zq_115 0 [some (.ref 2), some (.int x1), none] [] (zE L, M, N) v σ2 := by
  unfold zf_115 at h
  refine jb_seg 2 (pc' := 3) (ls' := [some (.ref 2), some (.int x1), some (.int 24)]) (st' := []) (σ' := (zE L, M, N)) (G := []) rfl trivial ?_
  exact jb_mask [true, true, true] rfl (zg_115_H3L x1 N h hK)
theorem ze_115 {Γ : jb_G} {L : Nat} {d : Nat} (x1 : Int32) (M : jb_Mi) (N : jb_Ml) {r : (jb_Mi)} (h : zf_115 x1 M = some r) : jb_V Γ d zq_115 0 (jb_en 3 [(.ref 2), (.int x1)]) [] (zE L, M, N) (none) (zE L, r, N) := zg_115 x1 M N h ⟨rfl, rfl⟩
-- X10_offers
set_option maxRecDepth 20000 in
theorem zg_116 {Γ : jb_G} {L : Nat} {d : Nat} (x1 : Int32) (M : jb_Mi) (N : jb_Ml) {v : Option Value} {σ2 : jb_S} {r : Bool} (h : zf_116 x1 M = r) (hK : (fun r : Bool => v = some (.int (jb_b2i r)) ∧ σ2 = (zE L, M, N)) r) : jb_V Γ d zq_116 0 [some (.ref 2), some (.int x1)] [] (zE L, M, N) v σ2 := by
  unfold zf_116 at h
  refine jb_seg 4 (pc' := (if (M 2 1) < x1 then 12 else 8)) (ls' := [some (.ref 2), some (.int x1)]) (st' := []) (σ' := (zE L, M, N)) (G := []) rfl trivial ?_
  refine jb_ite (fun c => ?_) (fun c => ?_)
  · replace h := (if_pos c).symm.trans h
    refine jb_seg 1 (pc' := 13) (ls' := [some (.ref 2), some (.int x1)]) (st' := [(.int 0)]) (σ' := (zE L, M, N)) (G := []) rfl trivial ?_
    subst h
    obtain ⟨rfl, rfl⟩ := hK
    exact jb_retz (by decide) rfl rfl
  · replace h := (if_neg c).symm.trans h
    refine jb_seg 2 (pc' := 13) (ls' := [some (.ref 2), some (.int x1)]) (st' := [(.int 1)]) (σ' := (zE L, M, N)) (G := []) rfl trivial ?_
    subst h
    obtain ⟨rfl, rfl⟩ := hK
    exact jb_retz (by decide) rfl rfl
theorem ze_116 {Γ : jb_G} {L : Nat} {d : Nat} (x1 : Int32) (M : jb_Mi) (N : jb_Ml) {r : Bool} (h : zf_116 x1 M = r) : jb_V Γ d zq_116 0 (jb_en 2 [(.ref 2), (.int x1)]) [] (zE L, M, N) (some (.int (jb_b2i r))) (zE L, M, N) := zg_116 x1 M N h ⟨rfl, rfl⟩
-- X10_cut
set_option maxRecDepth 20000 in
theorem zg_117 {Γ : jb_G} {L : Nat} {d : Nat} (hd : 1 ≤ d) (x1 : Int32) (M : jb_Mi) (N : jb_Ml) {v : Option Value} {σ2 : jb_S} {r : jb_Mi} (h : zf_117 x1 M = r) (hK : (fun r : jb_Mi => v = none ∧ σ2 = (zE L, r, N)) r) : jb_V Γ d zq_117 0 [some (.ref 2), some (.int x1)] [] (zE L, M, N) v σ2 := by
  obtain ⟨d, rfl⟩ : ∃ e, d = e + 1 := ⟨d - 1, by omega⟩
  unfold zf_117 at h
  refine jb_seg 5 (pc' := 7) (ls' := [some (.ref 2), some (.int x1)]) (st' := [(.int x1), (.int (M 2 1)), (.int 0), (.ref 2)]) (σ' := (zE L, M, N)) (G := []) rfl trivial ?_
  refine jb_callS (q' := zq_272) (As := [(.int (M 2 1)), (.int x1)]) (rest := [(.int 0), (.ref 2)]) (σ1 := (zE L, M, N)) (v := some (.int (zf_272 (M 2 1) x1))) rfl (Nat.le_of_ble_eq_true rfl) rfl zp_272 (jb_cat rfl) (Nat.le_of_ble_eq_true rfl) (Nat.le_of_ble_eq_true rfl) (Or.inl rfl) rfl (ze_272 (M 2 1) x1 M N rfl) ?_
  refine jb_callS (q' := zq_271) (As := [(.int 0), (.int (zf_272 (M 2 1) x1))]) (rest := [(.ref 2)]) (σ1 := (zE L, M, N)) (v := some (.int (zf_271 0 (zf_272 (M 2 1) x1)))) rfl (Nat.le_of_ble_eq_true rfl) rfl zp_271 (jb_cat rfl) (Nat.le_of_ble_eq_true rfl) (Nat.le_of_ble_eq_true rfl) (Or.inl rfl) rfl (ze_271 0 (zf_272 (M 2 1) x1) M N rfl) ?_
  refine jb_seg 1 (pc' := 16) (ls' := [some (.ref 2), some (.int x1)]) (st' := []) (σ' := (zE L, (jb_up M 2 1 (zf_271 0 (zf_272 (M 2 1) x1))), N)) (G := []) rfl trivial ?_
  subst h
  obtain ⟨rfl, rfl⟩ := hK
  exact jb_retv rfl rfl
theorem ze_117 {Γ : jb_G} {L : Nat} {d : Nat} (hd : 1 ≤ d) (x1 : Int32) (M : jb_Mi) (N : jb_Ml) {r : jb_Mi} (h : zf_117 x1 M = r) : jb_V Γ d zq_117 0 (jb_en 2 [(.ref 2), (.int x1)]) [] (zE L, M, N) (none) (zE L, r, N) := zg_117 hd x1 M N h ⟨rfl, rfl⟩
-- X11_begin
set_option maxRecDepth 20000 in
theorem zg_119_H22 {Γ : jb_G} {L : Nat} {d : Nat} (hd : 3 ≤ d) (w : Nat) (o : Nat) (N : jb_Ml) (s : Int32 × jb_Mi) (hp : (w = 60 ∧ o = 4) ∨ (w = 62 ∧ o = 24)) {v : Option Value} {σ2 : jb_S} {r : ((Int32 × jb_Mi) ⊕ (jb_Mi))} (h : zf_119_H22 w o s = some r) (hK : (jb_K (fun s : Int32 × jb_Mi => jb_V Γ d zq_119 22 [some (.ref w), some (.int s.1)] [] (zE L, s.2, N) v σ2) (fun r : jb_Mi => v = none ∧ σ2 = (zE L, r, N))) r) : jb_V Γ d zq_119 22 [some (.ref w), some (.int s.1)] [] (zE L, s.2, N) v σ2 := by
  rcases hp with ⟨rfl, rfl⟩ | ⟨rfl, rfl⟩
  · obtain ⟨d, rfl⟩ : ∃ e, d = e + 1 := ⟨d - 1, by omega⟩
    unfold zf_119_H22 at h
    refine jb_seg 3 (pc' := (if s.1 < 24 then 28 else 53)) (ls' := [some (.ref 60), some (.int s.1)]) (st' := []) (σ' := (zE L, s.2, N)) (G := []) rfl trivial ?_
    refine jb_ite (fun c => ?_) (fun c => ?_)
    · replace h := (if_pos c).symm.trans h
      refine jb_seg 11 (pc' := 43) (ls' := [some (.ref 60), some (.int s.1)]) (st' := [(.int (s.1 - s.1 / 4 * 4)), (.int (s.1 / 4)), (.ref 4), (.int s.1), (.ref (60 + 1))]) (σ' := (zE L, s.2, N)) (G := [¬ (4 : Int32) = 0, ¬ (4 : Int32) = 0]) rfl ⟨(show ¬ (4 : Int32) = 0 from (by decide)), (show ¬ (4 : Int32) = 0 from (by decide))⟩ ?_
      obtain ⟨q1, h1, h⟩ := jb_bd_of h
      refine jb_callV (q' := zq_7) (As := [(.int (s.1 / 4)), (.int (s.1 - s.1 / 4 * 4))]) (rest := [(.int s.1), (.ref (60 + 1))]) (σ1 := (zE L, s.2, N)) (v := some (.int q1)) rfl rfl zp_7 rfl (Nat.le_of_ble_eq_true rfl) (jb_cat rfl) (Nat.le_of_ble_eq_true rfl) (Nat.le_of_ble_eq_true rfl) (Or.inl rfl) rfl (ze_7 (by omega) 4 (s.1 / 4) (s.1 - s.1 / 4 * 4) s.2 N (by decide) h1) ?_
      obtain ⟨g2, h⟩ := jb_gd_of h
      refine jb_seg 3 (pc' := 22) (ls' := [some (.ref 60), some (.int (s.1 + 1))]) (st' := []) (σ' := (zE L, (jb_up s.2 (60 + 1) (s.1).toNatClampNeg q1), N)) (G := [vp_in s.1 24]) rfl g2 ?_
      obtain rfl := Option.some.inj h
      exact jb_mask [true, true] rfl hK
    · replace h := (if_neg c).symm.trans h
      obtain rfl := Option.some.inj h
      obtain ⟨rfl, rfl⟩ := hK
      exact jb_retv rfl rfl
  · obtain ⟨d, rfl⟩ : ∃ e, d = e + 1 := ⟨d - 1, by omega⟩
    unfold zf_119_H22 at h
    refine jb_seg 3 (pc' := (if s.1 < 24 then 28 else 53)) (ls' := [some (.ref 62), some (.int s.1)]) (st' := []) (σ' := (zE L, s.2, N)) (G := []) rfl trivial ?_
    refine jb_ite (fun c => ?_) (fun c => ?_)
    · replace h := (if_pos c).symm.trans h
      refine jb_seg 11 (pc' := 43) (ls' := [some (.ref 62), some (.int s.1)]) (st' := [(.int (s.1 - s.1 / 4 * 4)), (.int (s.1 / 4)), (.ref 24), (.int s.1), (.ref (62 + 1))]) (σ' := (zE L, s.2, N)) (G := [¬ (4 : Int32) = 0, ¬ (4 : Int32) = 0]) rfl ⟨(show ¬ (4 : Int32) = 0 from (by decide)), (show ¬ (4 : Int32) = 0 from (by decide))⟩ ?_
      obtain ⟨q1, h1, h⟩ := jb_bd_of h
      refine jb_callV (q' := zq_7) (As := [(.int (s.1 / 4)), (.int (s.1 - s.1 / 4 * 4))]) (rest := [(.int s.1), (.ref (62 + 1))]) (σ1 := (zE L, s.2, N)) (v := some (.int q1)) rfl rfl zp_7 rfl (Nat.le_of_ble_eq_true rfl) (jb_cat rfl) (Nat.le_of_ble_eq_true rfl) (Nat.le_of_ble_eq_true rfl) (Or.inl rfl) rfl (ze_7 (by omega) 24 (s.1 / 4) (s.1 - s.1 / 4 * 4) s.2 N (by decide) h1) ?_
      obtain ⟨g2, h⟩ := jb_gd_of h
      refine jb_seg 3 (pc' := 22) (ls' := [some (.ref 62), some (.int (s.1 + 1))]) (st' := []) (σ' := (zE L, (jb_up s.2 (62 + 1) (s.1).toNatClampNeg q1), N)) (G := [vp_in s.1 24]) rfl g2 ?_
      obtain rfl := Option.some.inj h
      exact jb_mask [true, true] rfl hK
    · replace h := (if_neg c).symm.trans h
      obtain rfl := Option.some.inj h
      obtain ⟨rfl, rfl⟩ := hK
      exact jb_retv rfl rfl
theorem zg_119_H22L {Γ : jb_G} {L : Nat} {d : Nat} (hd : 3 ≤ d) (w : Nat) (o : Nat) (N : jb_Ml) (hp : (w = 60 ∧ o = 4) ∨ (w = 62 ∧ o = 24)) {v : Option Value} {σ2 : jb_S} {s : Int32 × jb_Mi} {r : (jb_Mi)} (h : jb_lp (zf_119_H22 w o) s = some r) (hK : (fun r : jb_Mi => v = none ∧ σ2 = (zE L, r, N)) r) : jb_V Γ d zq_119 22 [some (.ref w), some (.int s.1)] [] (zE L, s.2, N) v σ2 := by
  exact @jb_lp_ind (Int32 × jb_Mi) ((jb_Mi)) (zf_119_H22 w o) (fun s => jb_V Γ d zq_119 22 [some (.ref w), some (.int s.1)] [] (zE L, s.2, N) v σ2) (fun r : jb_Mi => v = none ∧ σ2 = (zE L, r, N)) (fun s r h hk => zg_119_H22 hd w o N s hp h hk) s r h hK
set_option maxRecDepth 20000 in
theorem zg_119 {Γ : jb_G} {L : Nat} {d : Nat} (hd : 3 ≤ d) (w : Nat) (o : Nat) (M : jb_Mi) (N : jb_Ml) (hp : (w = 60 ∧ o = 4) ∨ (w = 62 ∧ o = 24)) {v : Option Value} {σ2 : jb_S} {r : (jb_Mi)} (h : zf_119 w o M = some r) (hK : (fun r : jb_Mi => v = none ∧ σ2 = (zE L, r, N)) r) : jb_V Γ d zq_119 0 [some (.ref w), none] [] (zE L, M, N) v σ2 := by
  rcases hp with ⟨rfl, rfl⟩ | ⟨rfl, rfl⟩
  · obtain ⟨d, rfl⟩ : ∃ e, d = e + 1 := ⟨d - 1, by omega⟩
    unfold zf_119 at h
    refine jb_seg 14 (pc' := 22) (ls' := [some (.ref 60), some (.int 0)]) (st' := []) (σ' := (zE L, (jb_up (jb_up (jb_up (jb_up M 60 5 0) 60 6 0) 60 7 0) 60 8 0), N)) (G := []) rfl trivial ?_
    exact jb_mask [true, true] rfl (zg_119_H22L hd 60 4 N (by decide) h hK)
  · obtain ⟨d, rfl⟩ : ∃ e, d = e + 1 := ⟨d - 1, by omega⟩
    unfold zf_119 at h
    refine jb_seg 14 (pc' := 22) (ls' := [some (.ref 62), some (.int 0)]) (st' := []) (σ' := (zE L, (jb_up (jb_up (jb_up (jb_up M 62 5 0) 62 6 0) 62 7 0) 62 8 0), N)) (G := []) rfl trivial ?_
    exact jb_mask [true, true] rfl (zg_119_H22L hd 62 24 N (by decide) h hK)
theorem ze_119 {Γ : jb_G} {L : Nat} {d : Nat} (hd : 3 ≤ d) (w : Nat) (o : Nat) (M : jb_Mi) (N : jb_Ml) (hp : (w = 60 ∧ o = 4) ∨ (w = 62 ∧ o = 24)) {r : (jb_Mi)} (h : zf_119 w o M = some r) : jb_V Γ d zq_119 0 (jb_en 2 [(.ref w)]) [] (zE L, M, N) (none) (zE L, r, N) := zg_119 hd w o M N hp h ⟨rfl, rfl⟩
-- X11_sag
set_option maxRecDepth 20000 in
theorem zg_120_J56 {Γ : jb_G} {L : Nat} {d : Nat} (hd : 1 ≤ d) (w : Nat) (o : Nat) (s1 : Int32) (s2 : Int32) (M : jb_Mi) (N : jb_Ml) (hp : (w = 60 ∧ o = 4) ∨ (w = 62 ∧ o = 24)) {v : Option Value} {σ2 : jb_S} {r : (jb_Mi)} (h : zf_120_J56 w o s1 s2 M = some r) (hK : (fun r : jb_Mi => v = none ∧ σ2 = (zE L, r, N)) r) : jb_V Γ d zq_120 56 [none, none] [(.int s2), (.int s1), (.ref w)] (zE L, M, N) v σ2 := by
  rcases hp with ⟨rfl, rfl⟩ | ⟨rfl, rfl⟩
  · obtain ⟨d, rfl⟩ : ∃ e, d = e + 1 := ⟨d - 1, by omega⟩
    unfold zf_120_J56 at h
    refine jb_seg 2 (pc' := 60) (ls' := [none, none]) (st' := []) (σ' := (zE L, (jb_up M 60 8 (s1 + s2)), N)) (G := []) rfl trivial ?_
    obtain rfl := Option.some.inj h
    obtain ⟨rfl, rfl⟩ := hK
    exact jb_retv rfl rfl
  · obtain ⟨d, rfl⟩ : ∃ e, d = e + 1 := ⟨d - 1, by omega⟩
    unfold zf_120_J56 at h
    refine jb_seg 2 (pc' := 60) (ls' := [none, none]) (st' := []) (σ' := (zE L, (jb_up M 62 8 (s1 + s2)), N)) (G := []) rfl trivial ?_
    obtain rfl := Option.some.inj h
    obtain ⟨rfl, rfl⟩ := hK
    exact jb_retv rfl rfl
set_option maxRecDepth 20000 in
theorem zg_120 {Γ : jb_G} {L : Nat} {d : Nat} (hd : 1 ≤ d) (w : Nat) (o : Nat) (x1 : Int32) (M : jb_Mi) (N : jb_Ml) (hp : (w = 60 ∧ o = 4) ∨ (w = 62 ∧ o = 24)) {v : Option Value} {σ2 : jb_S} {r : (jb_Mi)} (h : zf_120 w o x1 M = some r) (hK : (fun r : jb_Mi => v = none ∧ σ2 = (zE L, r, N)) r) : jb_V Γ d zq_120 0 [some (.ref w), some (.int x1)] [] (zE L, M, N) v σ2 := by
  rcases hp with ⟨rfl, rfl⟩ | ⟨rfl, rfl⟩
  · obtain ⟨d, rfl⟩ : ∃ e, d = e + 1 := ⟨d - 1, by omega⟩
    unfold zf_120 at h
    refine jb_seg 3 (pc' := 5) (ls' := [some (.ref 60), some (.int x1)]) (st' := [(.int x1), (.ref 4)]) (σ' := (zE L, M, N)) (G := []) rfl trivial ?_
    obtain ⟨q1, h1, h⟩ := jb_bd_of h
    refine jb_callV (q' := zq_37) (As := [(.int x1)]) (rest := []) (σ1 := (zE L, M, N)) (v := some (.int (jb_b2i q1))) rfl rfl zp_37 rfl (Nat.le_of_ble_eq_true rfl) (jb_cat rfl) (Nat.le_of_ble_eq_true rfl) (Nat.le_of_ble_eq_true rfl) (Or.inl rfl) rfl (ze_37 4 x1 M N (by decide) h1) ?_
    refine jb_seg 1 (pc' := (if (jb_b2i q1) = 0 then 11 else 12)) (ls' := [some (.ref 60), some (.int x1)]) (st' := []) (σ' := (zE L, M, N)) (G := []) rfl trivial ?_
    refine jb_ite (fun c => ?_) (fun c => ?_)
    · replace h := (if_pos c).symm.trans h
      obtain rfl := Option.some.inj h
      obtain ⟨rfl, rfl⟩ := hK
      exact jb_retv rfl rfl
    · replace h := (if_neg c).symm.trans h
      obtain ⟨g2, h⟩ := jb_gd_of h
      obtain ⟨g3, h⟩ := jb_gd_of h
      refine jb_seg 21 (pc' := 45) (ls' := [some (.ref 60), some (.int x1)]) (st' := [(.int x1), (.ref 4), (.int ((jb_up (jb_up M (4 + 3) x1.toNatClampNeg ((M (4 + 3) x1.toNatClampNeg) + 1)) 60 5 (((jb_up M (4 + 3) x1.toNatClampNeg ((M (4 + 3) x1.toNatClampNeg) + 1)) 60 5) + 1)) 60 8)), (.ref 60)]) (σ' := (zE L, (jb_up (jb_up M (4 + 3) x1.toNatClampNeg ((M (4 + 3) x1.toNatClampNeg) + 1)) 60 5 (((jb_up M (4 + 3) x1.toNatClampNeg ((M (4 + 3) x1.toNatClampNeg) + 1)) 60 5) + 1)), N)) (G := [vp_in x1 6, vp_in x1 6]) rfl ⟨g2, g3⟩ ?_
      obtain ⟨q4, h4, h⟩ := jb_bd_of h
      refine jb_callV (q' := zq_37) (As := [(.int x1)]) (rest := [(.int ((jb_up (jb_up M (4 + 3) x1.toNatClampNeg ((M (4 + 3) x1.toNatClampNeg) + 1)) 60 5 (((jb_up M (4 + 3) x1.toNatClampNeg ((M (4 + 3) x1.toNatClampNeg) + 1)) 60 5) + 1)) 60 8)), (.ref 60)]) (σ1 := (zE L, (jb_up (jb_up M (4 + 3) x1.toNatClampNeg ((M (4 + 3) x1.toNatClampNeg) + 1)) 60 5 (((jb_up M (4 + 3) x1.toNatClampNeg ((M (4 + 3) x1.toNatClampNeg) + 1)) 60 5) + 1)), N)) (v := some (.int (jb_b2i q4))) rfl rfl zp_37 rfl (Nat.le_of_ble_eq_true rfl) (jb_cat rfl) (Nat.le_of_ble_eq_true rfl) (Nat.le_of_ble_eq_true rfl) (Or.inl rfl) rfl (ze_37 4 x1 (jb_up (jb_up M (4 + 3) x1.toNatClampNeg ((M (4 + 3) x1.toNatClampNeg) + 1)) 60 5 (((jb_up M (4 + 3) x1.toNatClampNeg ((M (4 + 3) x1.toNatClampNeg) + 1)) 60 5) + 1)) N (by decide) h4) ?_
      refine jb_seg 1 (pc' := (if (jb_b2i q4) = 0 then 55 else 51)) (ls' := [some (.ref 60), some (.int x1)]) (st' := [(.int ((jb_up (jb_up M (4 + 3) x1.toNatClampNeg ((M (4 + 3) x1.toNatClampNeg) + 1)) 60 5 (((jb_up M (4 + 3) x1.toNatClampNeg ((M (4 + 3) x1.toNatClampNeg) + 1)) 60 5) + 1)) 60 8)), (.ref 60)]) (σ' := (zE L, (jb_up (jb_up M (4 + 3) x1.toNatClampNeg ((M (4 + 3) x1.toNatClampNeg) + 1)) 60 5 (((jb_up M (4 + 3) x1.toNatClampNeg ((M (4 + 3) x1.toNatClampNeg) + 1)) 60 5) + 1)), N)) (G := []) rfl trivial ?_
      refine jb_ite (fun c => ?_) (fun c => ?_)
      · replace h := (if_pos c).symm.trans h
        refine jb_seg 1 (pc' := 56) (ls' := [some (.ref 60), some (.int x1)]) (st' := [(.int 1), (.int ((jb_up (jb_up M (4 + 3) x1.toNatClampNeg ((M (4 + 3) x1.toNatClampNeg) + 1)) 60 5 (((jb_up M (4 + 3) x1.toNatClampNeg ((M (4 + 3) x1.toNatClampNeg) + 1)) 60 5) + 1)) 60 8)), (.ref 60)]) (σ' := (zE L, (jb_up (jb_up M (4 + 3) x1.toNatClampNeg ((M (4 + 3) x1.toNatClampNeg) + 1)) 60 5 (((jb_up M (4 + 3) x1.toNatClampNeg ((M (4 + 3) x1.toNatClampNeg) + 1)) 60 5) + 1)), N)) (G := []) rfl trivial ?_
        exact jb_mask [false, false] rfl (zg_120_J56 hd 60 4 ((jb_up (jb_up M (4 + 3) x1.toNatClampNeg ((M (4 + 3) x1.toNatClampNeg) + 1)) 60 5 (((jb_up M (4 + 3) x1.toNatClampNeg ((M (4 + 3) x1.toNatClampNeg) + 1)) 60 5) + 1)) 60 8) 1 (jb_up (jb_up M (4 + 3) x1.toNatClampNeg ((M (4 + 3) x1.toNatClampNeg) + 1)) 60 5 (((jb_up M (4 + 3) x1.toNatClampNeg ((M (4 + 3) x1.toNatClampNeg) + 1)) 60 5) + 1)) N (by decide) h hK)
      · replace h := (if_neg c).symm.trans h
        refine jb_seg 2 (pc' := 56) (ls' := [some (.ref 60), some (.int x1)]) (st' := [(.int 0), (.int ((jb_up (jb_up M (4 + 3) x1.toNatClampNeg ((M (4 + 3) x1.toNatClampNeg) + 1)) 60 5 (((jb_up M (4 + 3) x1.toNatClampNeg ((M (4 + 3) x1.toNatClampNeg) + 1)) 60 5) + 1)) 60 8)), (.ref 60)]) (σ' := (zE L, (jb_up (jb_up M (4 + 3) x1.toNatClampNeg ((M (4 + 3) x1.toNatClampNeg) + 1)) 60 5 (((jb_up M (4 + 3) x1.toNatClampNeg ((M (4 + 3) x1.toNatClampNeg) + 1)) 60 5) + 1)), N)) (G := []) rfl trivial ?_
        exact jb_mask [false, false] rfl (zg_120_J56 hd 60 4 ((jb_up (jb_up M (4 + 3) x1.toNatClampNeg ((M (4 + 3) x1.toNatClampNeg) + 1)) 60 5 (((jb_up M (4 + 3) x1.toNatClampNeg ((M (4 + 3) x1.toNatClampNeg) + 1)) 60 5) + 1)) 60 8) 0 (jb_up (jb_up M (4 + 3) x1.toNatClampNeg ((M (4 + 3) x1.toNatClampNeg) + 1)) 60 5 (((jb_up M (4 + 3) x1.toNatClampNeg ((M (4 + 3) x1.toNatClampNeg) + 1)) 60 5) + 1)) N (by decide) h hK)
  · obtain ⟨d, rfl⟩ : ∃ e, d = e + 1 := ⟨d - 1, by omega⟩
    unfold zf_120 at h
    refine jb_seg 3 (pc' := 5) (ls' := [some (.ref 62), some (.int x1)]) (st' := [(.int x1), (.ref 24)]) (σ' := (zE L, M, N)) (G := []) rfl trivial ?_
    obtain ⟨q1, h1, h⟩ := jb_bd_of h
    refine jb_callV (q' := zq_37) (As := [(.int x1)]) (rest := []) (σ1 := (zE L, M, N)) (v := some (.int (jb_b2i q1))) rfl rfl zp_37 rfl (Nat.le_of_ble_eq_true rfl) (jb_cat rfl) (Nat.le_of_ble_eq_true rfl) (Nat.le_of_ble_eq_true rfl) (Or.inl rfl) rfl (ze_37 24 x1 M N (by decide) h1) ?_
    refine jb_seg 1 (pc' := (if (jb_b2i q1) = 0 then 11 else 12)) (ls' := [some (.ref 62), some (.int x1)]) (st' := []) (σ' := (zE L, M, N)) (G := []) rfl trivial ?_
    refine jb_ite (fun c => ?_) (fun c => ?_)
    · replace h := (if_pos c).symm.trans h
      obtain rfl := Option.some.inj h
      obtain ⟨rfl, rfl⟩ := hK
      exact jb_retv rfl rfl
    · replace h := (if_neg c).symm.trans h
      obtain ⟨g2, h⟩ := jb_gd_of h
      obtain ⟨g3, h⟩ := jb_gd_of h
      refine jb_seg 21 (pc' := 45) (ls' := [some (.ref 62), some (.int x1)]) (st' := [(.int x1), (.ref 24), (.int ((jb_up (jb_up M (24 + 3) x1.toNatClampNeg ((M (24 + 3) x1.toNatClampNeg) + 1)) 62 5 (((jb_up M (24 + 3) x1.toNatClampNeg ((M (24 + 3) x1.toNatClampNeg) + 1)) 62 5) + 1)) 62 8)), (.ref 62)]) (σ' := (zE L, (jb_up (jb_up M (24 + 3) x1.toNatClampNeg ((M (24 + 3) x1.toNatClampNeg) + 1)) 62 5 (((jb_up M (24 + 3) x1.toNatClampNeg ((M (24 + 3) x1.toNatClampNeg) + 1)) 62 5) + 1)), N)) (G := [vp_in x1 6, vp_in x1 6]) rfl ⟨g2, g3⟩ ?_
      obtain ⟨q4, h4, h⟩ := jb_bd_of h
      refine jb_callV (q' := zq_37) (As := [(.int x1)]) (rest := [(.int ((jb_up (jb_up M (24 + 3) x1.toNatClampNeg ((M (24 + 3) x1.toNatClampNeg) + 1)) 62 5 (((jb_up M (24 + 3) x1.toNatClampNeg ((M (24 + 3) x1.toNatClampNeg) + 1)) 62 5) + 1)) 62 8)), (.ref 62)]) (σ1 := (zE L, (jb_up (jb_up M (24 + 3) x1.toNatClampNeg ((M (24 + 3) x1.toNatClampNeg) + 1)) 62 5 (((jb_up M (24 + 3) x1.toNatClampNeg ((M (24 + 3) x1.toNatClampNeg) + 1)) 62 5) + 1)), N)) (v := some (.int (jb_b2i q4))) rfl rfl zp_37 rfl (Nat.le_of_ble_eq_true rfl) (jb_cat rfl) (Nat.le_of_ble_eq_true rfl) (Nat.le_of_ble_eq_true rfl) (Or.inl rfl) rfl (ze_37 24 x1 (jb_up (jb_up M (24 + 3) x1.toNatClampNeg ((M (24 + 3) x1.toNatClampNeg) + 1)) 62 5 (((jb_up M (24 + 3) x1.toNatClampNeg ((M (24 + 3) x1.toNatClampNeg) + 1)) 62 5) + 1)) N (by decide) h4) ?_
      refine jb_seg 1 (pc' := (if (jb_b2i q4) = 0 then 55 else 51)) (ls' := [some (.ref 62), some (.int x1)]) (st' := [(.int ((jb_up (jb_up M (24 + 3) x1.toNatClampNeg ((M (24 + 3) x1.toNatClampNeg) + 1)) 62 5 (((jb_up M (24 + 3) x1.toNatClampNeg ((M (24 + 3) x1.toNatClampNeg) + 1)) 62 5) + 1)) 62 8)), (.ref 62)]) (σ' := (zE L, (jb_up (jb_up M (24 + 3) x1.toNatClampNeg ((M (24 + 3) x1.toNatClampNeg) + 1)) 62 5 (((jb_up M (24 + 3) x1.toNatClampNeg ((M (24 + 3) x1.toNatClampNeg) + 1)) 62 5) + 1)), N)) (G := []) rfl trivial ?_
      refine jb_ite (fun c => ?_) (fun c => ?_)
      · replace h := (if_pos c).symm.trans h
        refine jb_seg 1 (pc' := 56) (ls' := [some (.ref 62), some (.int x1)]) (st' := [(.int 1), (.int ((jb_up (jb_up M (24 + 3) x1.toNatClampNeg ((M (24 + 3) x1.toNatClampNeg) + 1)) 62 5 (((jb_up M (24 + 3) x1.toNatClampNeg ((M (24 + 3) x1.toNatClampNeg) + 1)) 62 5) + 1)) 62 8)), (.ref 62)]) (σ' := (zE L, (jb_up (jb_up M (24 + 3) x1.toNatClampNeg ((M (24 + 3) x1.toNatClampNeg) + 1)) 62 5 (((jb_up M (24 + 3) x1.toNatClampNeg ((M (24 + 3) x1.toNatClampNeg) + 1)) 62 5) + 1)), N)) (G := []) rfl trivial ?_
        exact jb_mask [false, false] rfl (zg_120_J56 hd 62 24 ((jb_up (jb_up M (24 + 3) x1.toNatClampNeg ((M (24 + 3) x1.toNatClampNeg) + 1)) 62 5 (((jb_up M (24 + 3) x1.toNatClampNeg ((M (24 + 3) x1.toNatClampNeg) + 1)) 62 5) + 1)) 62 8) 1 (jb_up (jb_up M (24 + 3) x1.toNatClampNeg ((M (24 + 3) x1.toNatClampNeg) + 1)) 62 5 (((jb_up M (24 + 3) x1.toNatClampNeg ((M (24 + 3) x1.toNatClampNeg) + 1)) 62 5) + 1)) N (by decide) h hK)
      · replace h := (if_neg c).symm.trans h
        refine jb_seg 2 (pc' := 56) (ls' := [some (.ref 62), some (.int x1)]) (st' := [(.int 0), (.int ((jb_up (jb_up M (24 + 3) x1.toNatClampNeg ((M (24 + 3) x1.toNatClampNeg) + 1)) 62 5 (((jb_up M (24 + 3) x1.toNatClampNeg ((M (24 + 3) x1.toNatClampNeg) + 1)) 62 5) + 1)) 62 8)), (.ref 62)]) (σ' := (zE L, (jb_up (jb_up M (24 + 3) x1.toNatClampNeg ((M (24 + 3) x1.toNatClampNeg) + 1)) 62 5 (((jb_up M (24 + 3) x1.toNatClampNeg ((M (24 + 3) x1.toNatClampNeg) + 1)) 62 5) + 1)), N)) (G := []) rfl trivial ?_
        exact jb_mask [false, false] rfl (zg_120_J56 hd 62 24 ((jb_up (jb_up M (24 + 3) x1.toNatClampNeg ((M (24 + 3) x1.toNatClampNeg) + 1)) 62 5 (((jb_up M (24 + 3) x1.toNatClampNeg ((M (24 + 3) x1.toNatClampNeg) + 1)) 62 5) + 1)) 62 8) 0 (jb_up (jb_up M (24 + 3) x1.toNatClampNeg ((M (24 + 3) x1.toNatClampNeg) + 1)) 62 5 (((jb_up M (24 + 3) x1.toNatClampNeg ((M (24 + 3) x1.toNatClampNeg) + 1)) 62 5) + 1)) N (by decide) h hK)
theorem ze_120 {Γ : jb_G} {L : Nat} {d : Nat} (hd : 1 ≤ d) (w : Nat) (o : Nat) (x1 : Int32) (M : jb_Mi) (N : jb_Ml) (hp : (w = 60 ∧ o = 4) ∨ (w = 62 ∧ o = 24)) {r : (jb_Mi)} (h : zf_120 w o x1 M = some r) : jb_V Γ d zq_120 0 (jb_en 2 [(.ref w), (.int x1)]) [] (zE L, M, N) (none) (zE L, r, N) := zg_120 hd w o x1 M N hp h ⟨rfl, rfl⟩
-- X11_tell
set_option maxRecDepth 20000 in
theorem zg_121_J148 {Γ : jb_G} {L : Nat} {d : Nat} (hd : 1 ≤ d) (w : Nat) (o : Nat) (s1 : Int32) (s2 : Int32) (M : jb_Mi) (N : jb_Ml) (hp : (w = 60 ∧ o = 4) ∨ (w = 62 ∧ o = 24)) {v : Option Value} {σ2 : jb_S} {r : (jb_Mi)} (h : zf_121_J148 w o s1 s2 M = some r) (hK : (fun r : jb_Mi => v = none ∧ σ2 = (zE L, r, N)) r) : jb_V Γ d zq_121 148 [some (.ref w), none, none, none, none, some (.ref 58)] [(.int s2), (.int s1), (.ref 58)] (zE L, M, N) v σ2 := by
  rcases hp with ⟨rfl, rfl⟩ | ⟨rfl, rfl⟩
  · obtain ⟨d, rfl⟩ : ∃ e, d = e + 1 := ⟨d - 1, by omega⟩
    unfold zf_121_J148 at h
    obtain ⟨g6, h⟩ := jb_gd_of h
    refine jb_seg 15 (pc' := 176) (ls' := [some (.ref 60), none, none, none, none, some (.ref 58)]) (st' := []) (σ' := (zE L, (jb_up (jb_up (jb_up M 58 s1.toNatClampNeg s2) 58 8 ((jb_up M 58 s1.toNatClampNeg s2) 4 9)) 58 9 (((jb_up (jb_up M 58 s1.toNatClampNeg s2) 58 8 ((jb_up M 58 s1.toNatClampNeg s2) 4 9)) 4 10) - ((jb_up (jb_up M 58 s1.toNatClampNeg s2) 58 8 ((jb_up M 58 s1.toNatClampNeg s2) 4 9)) 4 10) / 100 * 100)), N)) (G := [vp_in s1 10, vp_in 8 10, ¬ (100 : Int32) = 0, vp_in 9 10]) rfl ⟨g6, (show vp_in 8 10 from (by unfold vp_in; decide)), (show ¬ (100 : Int32) = 0 from (by decide)), (show vp_in 9 10 from (by unfold vp_in; decide))⟩ ?_
    obtain rfl := Option.some.inj h
    obtain ⟨rfl, rfl⟩ := hK
    exact jb_retv rfl rfl
  · obtain ⟨d, rfl⟩ : ∃ e, d = e + 1 := ⟨d - 1, by omega⟩
    unfold zf_121_J148 at h
    obtain ⟨g6, h⟩ := jb_gd_of h
    refine jb_seg 15 (pc' := 176) (ls' := [some (.ref 62), none, none, none, none, some (.ref 58)]) (st' := []) (σ' := (zE L, (jb_up (jb_up (jb_up M 58 s1.toNatClampNeg s2) 58 8 ((jb_up M 58 s1.toNatClampNeg s2) 24 9)) 58 9 (((jb_up (jb_up M 58 s1.toNatClampNeg s2) 58 8 ((jb_up M 58 s1.toNatClampNeg s2) 24 9)) 24 10) - ((jb_up (jb_up M 58 s1.toNatClampNeg s2) 58 8 ((jb_up M 58 s1.toNatClampNeg s2) 24 9)) 24 10) / 100 * 100)), N)) (G := [vp_in s1 10, vp_in 8 10, ¬ (100 : Int32) = 0, vp_in 9 10]) rfl ⟨g6, (show vp_in 8 10 from (by unfold vp_in; decide)), (show ¬ (100 : Int32) = 0 from (by decide)), (show vp_in 9 10 from (by unfold vp_in; decide))⟩ ?_
    obtain rfl := Option.some.inj h
    obtain ⟨rfl, rfl⟩ := hK
    exact jb_retv rfl rfl
set_option maxRecDepth 20000 in
theorem zg_121_J125 {Γ : jb_G} {L : Nat} {d : Nat} (hd : 1 ≤ d) (w : Nat) (o : Nat) (x3 : Int32) (x4 : Int32) (s1 : Int32) (s2 : Int32) (M : jb_Mi) (N : jb_Ml) (hp : (w = 60 ∧ o = 4) ∨ (w = 62 ∧ o = 24)) {v : Option Value} {σ2 : jb_S} {r : (jb_Mi)} (h : zf_121_J125 w o x3 x4 s1 s2 M = some r) (hK : (fun r : jb_Mi => v = none ∧ σ2 = (zE L, r, N)) r) : jb_V Γ d zq_121 125 [some (.ref w), none, none, some (.int x3), some (.int x4), some (.ref 58)] [(.int s2), (.int s1), (.ref 58)] (zE L, M, N) v σ2 := by
  rcases hp with ⟨rfl, rfl⟩ | ⟨rfl, rfl⟩
  · obtain ⟨d, rfl⟩ : ∃ e, d = e + 1 := ⟨d - 1, by omega⟩
    unfold zf_121_J125 at h
    obtain ⟨g5, h⟩ := jb_gd_of h
    refine jb_seg 5 (pc' := (if x3 = 0 then 147 else 134)) (ls' := [some (.ref 60), none, none, some (.int x3), some (.int x4), some (.ref 58)]) (st' := [(.int 7), (.ref 58)]) (σ' := (zE L, (jb_up M 58 s1.toNatClampNeg s2), N)) (G := [vp_in s1 10]) rfl g5 ?_
    refine jb_ite (fun c => ?_) (fun c => ?_)
    · replace h := (if_pos c).symm.trans h
      refine jb_seg 1 (pc' := 148) (ls' := [some (.ref 60), none, none, some (.int x3), some (.int x4), some (.ref 58)]) (st' := [(.int 0), (.int 7), (.ref 58)]) (σ' := (zE L, (jb_up M 58 s1.toNatClampNeg s2), N)) (G := []) rfl trivial ?_
      exact jb_mask [true, false, false, false, false, true] rfl (zg_121_J148 hd 60 4 7 0 (jb_up M 58 s1.toNatClampNeg s2) N (by decide) h hK)
    · replace h := (if_neg c).symm.trans h
      obtain ⟨g7, h⟩ := jb_gd_of h
      refine jb_seg 6 (pc' := 148) (ls' := [some (.ref 60), none, none, some (.int x3), some (.int x4), some (.ref 58)]) (st' := [(.int ((jb_up M 58 s1.toNatClampNeg s2) (4 + 3) x4.toNatClampNeg)), (.int 7), (.ref 58)]) (σ' := (zE L, (jb_up M 58 s1.toNatClampNeg s2), N)) (G := [vp_in x4 6]) rfl g7 ?_
      exact jb_mask [true, false, false, false, false, true] rfl (zg_121_J148 hd 60 4 7 ((jb_up M 58 s1.toNatClampNeg s2) (4 + 3) x4.toNatClampNeg) (jb_up M 58 s1.toNatClampNeg s2) N (by decide) h hK)
  · obtain ⟨d, rfl⟩ : ∃ e, d = e + 1 := ⟨d - 1, by omega⟩
    unfold zf_121_J125 at h
    obtain ⟨g5, h⟩ := jb_gd_of h
    refine jb_seg 5 (pc' := (if x3 = 0 then 147 else 134)) (ls' := [some (.ref 62), none, none, some (.int x3), some (.int x4), some (.ref 58)]) (st' := [(.int 7), (.ref 58)]) (σ' := (zE L, (jb_up M 58 s1.toNatClampNeg s2), N)) (G := [vp_in s1 10]) rfl g5 ?_
    refine jb_ite (fun c => ?_) (fun c => ?_)
    · replace h := (if_pos c).symm.trans h
      refine jb_seg 1 (pc' := 148) (ls' := [some (.ref 62), none, none, some (.int x3), some (.int x4), some (.ref 58)]) (st' := [(.int 0), (.int 7), (.ref 58)]) (σ' := (zE L, (jb_up M 58 s1.toNatClampNeg s2), N)) (G := []) rfl trivial ?_
      exact jb_mask [true, false, false, false, false, true] rfl (zg_121_J148 hd 62 24 7 0 (jb_up M 58 s1.toNatClampNeg s2) N (by decide) h hK)
    · replace h := (if_neg c).symm.trans h
      obtain ⟨g7, h⟩ := jb_gd_of h
      refine jb_seg 6 (pc' := 148) (ls' := [some (.ref 62), none, none, some (.int x3), some (.int x4), some (.ref 58)]) (st' := [(.int ((jb_up M 58 s1.toNatClampNeg s2) (24 + 3) x4.toNatClampNeg)), (.int 7), (.ref 58)]) (σ' := (zE L, (jb_up M 58 s1.toNatClampNeg s2), N)) (G := [vp_in x4 6]) rfl g7 ?_
      exact jb_mask [true, false, false, false, false, true] rfl (zg_121_J148 hd 62 24 7 ((jb_up M 58 s1.toNatClampNeg s2) (24 + 3) x4.toNatClampNeg) (jb_up M 58 s1.toNatClampNeg s2) N (by decide) h hK)
set_option maxRecDepth 20000 in
theorem zg_121_J102 {Γ : jb_G} {L : Nat} {d : Nat} (hd : 1 ≤ d) (w : Nat) (o : Nat) (x3 : Int32) (x4 : Int32) (s1 : Int32) (s2 : Int32) (M : jb_Mi) (N : jb_Ml) (hp : (w = 60 ∧ o = 4) ∨ (w = 62 ∧ o = 24)) {v : Option Value} {σ2 : jb_S} {r : (jb_Mi)} (h : zf_121_J102 w o x3 x4 s1 s2 M = some r) (hK : (fun r : jb_Mi => v = none ∧ σ2 = (zE L, r, N)) r) : jb_V Γ d zq_121 102 [some (.ref w), none, none, some (.int x3), some (.int x4), some (.ref 58)] [(.int s2), (.int s1), (.ref 58)] (zE L, M, N) v σ2 := by
  rcases hp with ⟨rfl, rfl⟩ | ⟨rfl, rfl⟩
  · obtain ⟨d, rfl⟩ : ∃ e, d = e + 1 := ⟨d - 1, by omega⟩
    unfold zf_121_J102 at h
    obtain ⟨g4, h⟩ := jb_gd_of h
    refine jb_seg 5 (pc' := (if x3 = 0 then 124 else 111)) (ls' := [some (.ref 60), none, none, some (.int x3), some (.int x4), some (.ref 58)]) (st' := [(.int 6), (.ref 58)]) (σ' := (zE L, (jb_up M 58 s1.toNatClampNeg s2), N)) (G := [vp_in s1 10]) rfl g4 ?_
    refine jb_ite (fun c => ?_) (fun c => ?_)
    · replace h := (if_pos c).symm.trans h
      refine jb_seg 1 (pc' := 125) (ls' := [some (.ref 60), none, none, some (.int x3), some (.int x4), some (.ref 58)]) (st' := [(.int 0), (.int 6), (.ref 58)]) (σ' := (zE L, (jb_up M 58 s1.toNatClampNeg s2), N)) (G := []) rfl trivial ?_
      exact jb_mask [true, false, false, true, true, true] rfl (zg_121_J125 hd 60 4 x3 x4 6 0 (jb_up M 58 s1.toNatClampNeg s2) N (by decide) h hK)
    · replace h := (if_neg c).symm.trans h
      obtain ⟨g8, h⟩ := jb_gd_of h
      refine jb_seg 6 (pc' := 125) (ls' := [some (.ref 60), none, none, some (.int x3), some (.int x4), some (.ref 58)]) (st' := [(.int ((jb_up M 58 s1.toNatClampNeg s2) (4 + 1) x4.toNatClampNeg)), (.int 6), (.ref 58)]) (σ' := (zE L, (jb_up M 58 s1.toNatClampNeg s2), N)) (G := [vp_in x4 6]) rfl g8 ?_
      exact jb_mask [true, false, false, true, true, true] rfl (zg_121_J125 hd 60 4 x3 x4 6 ((jb_up M 58 s1.toNatClampNeg s2) (4 + 1) x4.toNatClampNeg) (jb_up M 58 s1.toNatClampNeg s2) N (by decide) h hK)
  · obtain ⟨d, rfl⟩ : ∃ e, d = e + 1 := ⟨d - 1, by omega⟩
    unfold zf_121_J102 at h
    obtain ⟨g4, h⟩ := jb_gd_of h
    refine jb_seg 5 (pc' := (if x3 = 0 then 124 else 111)) (ls' := [some (.ref 62), none, none, some (.int x3), some (.int x4), some (.ref 58)]) (st' := [(.int 6), (.ref 58)]) (σ' := (zE L, (jb_up M 58 s1.toNatClampNeg s2), N)) (G := [vp_in s1 10]) rfl g4 ?_
    refine jb_ite (fun c => ?_) (fun c => ?_)
    · replace h := (if_pos c).symm.trans h
      refine jb_seg 1 (pc' := 125) (ls' := [some (.ref 62), none, none, some (.int x3), some (.int x4), some (.ref 58)]) (st' := [(.int 0), (.int 6), (.ref 58)]) (σ' := (zE L, (jb_up M 58 s1.toNatClampNeg s2), N)) (G := []) rfl trivial ?_
      exact jb_mask [true, false, false, true, true, true] rfl (zg_121_J125 hd 62 24 x3 x4 6 0 (jb_up M 58 s1.toNatClampNeg s2) N (by decide) h hK)
    · replace h := (if_neg c).symm.trans h
      obtain ⟨g8, h⟩ := jb_gd_of h
      refine jb_seg 6 (pc' := 125) (ls' := [some (.ref 62), none, none, some (.int x3), some (.int x4), some (.ref 58)]) (st' := [(.int ((jb_up M 58 s1.toNatClampNeg s2) (24 + 1) x4.toNatClampNeg)), (.int 6), (.ref 58)]) (σ' := (zE L, (jb_up M 58 s1.toNatClampNeg s2), N)) (G := [vp_in x4 6]) rfl g8 ?_
      exact jb_mask [true, false, false, true, true, true] rfl (zg_121_J125 hd 62 24 x3 x4 6 ((jb_up M 58 s1.toNatClampNeg s2) (24 + 1) x4.toNatClampNeg) (jb_up M 58 s1.toNatClampNeg s2) N (by decide) h hK)
set_option maxRecDepth 20000 in
theorem zg_121_J81 {Γ : jb_G} {L : Nat} {d : Nat} (hd : 1 ≤ d) (w : Nat) (o : Nat) (x2 : Int32) (x3 : Int32) (x4 : Int32) (s1 : Int32) (s2 : Int32) (M : jb_Mi) (N : jb_Ml) (hp : (w = 60 ∧ o = 4) ∨ (w = 62 ∧ o = 24)) {v : Option Value} {σ2 : jb_S} {r : (jb_Mi)} (h : zf_121_J81 w o x2 x3 x4 s1 s2 M = some r) (hK : (fun r : jb_Mi => v = none ∧ σ2 = (zE L, r, N)) r) : jb_V Γ d zq_121 81 [some (.ref w), none, some (.int x2), some (.int x3), some (.int x4), some (.ref 58)] [(.int s2), (.int s1), (.ref 58)] (zE L, M, N) v σ2 := by
  rcases hp with ⟨rfl, rfl⟩ | ⟨rfl, rfl⟩
  · obtain ⟨d, rfl⟩ : ∃ e, d = e + 1 := ⟨d - 1, by omega⟩
    unfold zf_121_J81 at h
    obtain ⟨g3, h⟩ := jb_gd_of h
    refine jb_seg 9 (pc' := (if x3 = 0 then 101 else 95)) (ls' := [some (.ref 60), none, some (.int x2), some (.int x3), some (.int x4), some (.ref 58)]) (st' := [(.int 5), (.ref 58)]) (σ' := (zE L, (jb_up (jb_up M 58 s1.toNatClampNeg s2) 58 4 x4), N)) (G := [vp_in s1 10, vp_in 4 10]) rfl ⟨g3, (show vp_in 4 10 from (by unfold vp_in; decide))⟩ ?_
    refine jb_ite (fun c => ?_) (fun c => ?_)
    · replace h := (if_pos c).symm.trans h
      refine jb_seg 1 (pc' := 102) (ls' := [some (.ref 60), none, some (.int x2), some (.int x3), some (.int x4), some (.ref 58)]) (st' := [(.int 0), (.int 5), (.ref 58)]) (σ' := (zE L, (jb_up (jb_up M 58 s1.toNatClampNeg s2) 58 4 x4), N)) (G := []) rfl trivial ?_
      exact jb_mask [true, false, false, true, true, true] rfl (zg_121_J102 hd 60 4 x3 x4 5 0 (jb_up (jb_up M 58 s1.toNatClampNeg s2) 58 4 x4) N (by decide) h hK)
    · replace h := (if_neg c).symm.trans h
      refine jb_seg 4 (pc' := 102) (ls' := [some (.ref 60), none, some (.int x2), some (.int x3), some (.int x4), some (.ref 58)]) (st' := [(.int (x2 - x2 / 4 * 4)), (.int 5), (.ref 58)]) (σ' := (zE L, (jb_up (jb_up M 58 s1.toNatClampNeg s2) 58 4 x4), N)) (G := [¬ (4 : Int32) = 0]) rfl (show ¬ (4 : Int32) = 0 from (by decide)) ?_
      exact jb_mask [true, false, false, true, true, true] rfl (zg_121_J102 hd 60 4 x3 x4 5 (x2 - x2 / 4 * 4) (jb_up (jb_up M 58 s1.toNatClampNeg s2) 58 4 x4) N (by decide) h hK)
  · obtain ⟨d, rfl⟩ : ∃ e, d = e + 1 := ⟨d - 1, by omega⟩
    unfold zf_121_J81 at h
    obtain ⟨g3, h⟩ := jb_gd_of h
    refine jb_seg 9 (pc' := (if x3 = 0 then 101 else 95)) (ls' := [some (.ref 62), none, some (.int x2), some (.int x3), some (.int x4), some (.ref 58)]) (st' := [(.int 5), (.ref 58)]) (σ' := (zE L, (jb_up (jb_up M 58 s1.toNatClampNeg s2) 58 4 x4), N)) (G := [vp_in s1 10, vp_in 4 10]) rfl ⟨g3, (show vp_in 4 10 from (by unfold vp_in; decide))⟩ ?_
    refine jb_ite (fun c => ?_) (fun c => ?_)
    · replace h := (if_pos c).symm.trans h
      refine jb_seg 1 (pc' := 102) (ls' := [some (.ref 62), none, some (.int x2), some (.int x3), some (.int x4), some (.ref 58)]) (st' := [(.int 0), (.int 5), (.ref 58)]) (σ' := (zE L, (jb_up (jb_up M 58 s1.toNatClampNeg s2) 58 4 x4), N)) (G := []) rfl trivial ?_
      exact jb_mask [true, false, false, true, true, true] rfl (zg_121_J102 hd 62 24 x3 x4 5 0 (jb_up (jb_up M 58 s1.toNatClampNeg s2) 58 4 x4) N (by decide) h hK)
    · replace h := (if_neg c).symm.trans h
      refine jb_seg 4 (pc' := 102) (ls' := [some (.ref 62), none, some (.int x2), some (.int x3), some (.int x4), some (.ref 58)]) (st' := [(.int (x2 - x2 / 4 * 4)), (.int 5), (.ref 58)]) (σ' := (zE L, (jb_up (jb_up M 58 s1.toNatClampNeg s2) 58 4 x4), N)) (G := [¬ (4 : Int32) = 0]) rfl (show ¬ (4 : Int32) = 0 from (by decide)) ?_
      exact jb_mask [true, false, false, true, true, true] rfl (zg_121_J102 hd 62 24 x3 x4 5 (x2 - x2 / 4 * 4) (jb_up (jb_up M 58 s1.toNatClampNeg s2) 58 4 x4) N (by decide) h hK)
set_option maxRecDepth 20000 in
theorem zg_121_J19 {Γ : jb_G} {L : Nat} {d : Nat} (hd : 1 ≤ d) (w : Nat) (o : Nat) (x1 : Int32) (x2 : Int32) (x3 : Int32) (s0 : Int32) (M : jb_Mi) (N : jb_Ml) (hp : (w = 60 ∧ o = 4) ∨ (w = 62 ∧ o = 24)) {v : Option Value} {σ2 : jb_S} {r : (jb_Mi)} (h : zf_121_J19 w o x1 x2 x3 s0 M = some r) (hK : (fun r : jb_Mi => v = none ∧ σ2 = (zE L, r, N)) r) : jb_V Γ d zq_121 19 [some (.ref w), some (.int x1), some (.int x2), some (.int x3), none, none] [(.int s0)] (zE L, M, N) v σ2 := by
  rcases hp with ⟨rfl, rfl⟩ | ⟨rfl, rfl⟩
  · obtain ⟨d, rfl⟩ : ∃ e, d = e + 1 := ⟨d - 1, by omega⟩
    unfold zf_121_J19 at h
    obtain ⟨g1, h⟩ := jb_gd_of h
    obtain ⟨g2, h⟩ := jb_gd_of h
    refine jb_seg 29 (pc' := (if x3 = 0 then 80 else 68)) (ls' := [some (.ref 60), some (.int x1), some (.int x2), some (.int x3), some (.int s0), some (.ref 58)]) (st' := [(.int 3), (.ref 58)]) (σ' := (zE L, (jb_up (jb_up (jb_up M 58 0 x1) 58 1 ((jb_up M 58 0 x1) (4 + 8) x1.toNatClampNeg)) 58 2 ((jb_up (jb_up M 58 0 x1) 58 1 ((jb_up M 58 0 x1) (4 + 8) x1.toNatClampNeg)) (4 + 9) x1.toNatClampNeg)), N)) (G := [vp_in 0 10, vp_in x1 16, vp_in 1 10, vp_in x1 16, vp_in 2 10]) rfl ⟨(show vp_in 0 10 from (by unfold vp_in; decide)), g1, (show vp_in 1 10 from (by unfold vp_in; decide)), g2, (show vp_in 2 10 from (by unfold vp_in; decide))⟩ ?_
    refine jb_ite (fun c => ?_) (fun c => ?_)
    · replace h := (if_pos c).symm.trans h
      refine jb_seg 1 (pc' := 81) (ls' := [some (.ref 60), some (.int x1), some (.int x2), some (.int x3), some (.int s0), some (.ref 58)]) (st' := [(.int 0), (.int 3), (.ref 58)]) (σ' := (zE L, (jb_up (jb_up (jb_up M 58 0 x1) 58 1 ((jb_up M 58 0 x1) (4 + 8) x1.toNatClampNeg)) 58 2 ((jb_up (jb_up M 58 0 x1) 58 1 ((jb_up M 58 0 x1) (4 + 8) x1.toNatClampNeg)) (4 + 9) x1.toNatClampNeg)), N)) (G := []) rfl trivial ?_
      exact jb_mask [true, false, true, true, true, true] rfl (zg_121_J81 hd 60 4 x2 x3 s0 3 0 (jb_up (jb_up (jb_up M 58 0 x1) 58 1 ((jb_up M 58 0 x1) (4 + 8) x1.toNatClampNeg)) 58 2 ((jb_up (jb_up M 58 0 x1) 58 1 ((jb_up M 58 0 x1) (4 + 8) x1.toNatClampNeg)) (4 + 9) x1.toNatClampNeg)) N (by decide) h hK)
    · replace h := (if_neg c).symm.trans h
      obtain ⟨g9, h⟩ := jb_gd_of h
      refine jb_seg 7 (pc' := 81) (ls' := [some (.ref 60), some (.int x1), some (.int x2), some (.int x3), some (.int s0), some (.ref 58)]) (st' := [(.int (((jb_up (jb_up (jb_up M 58 0 x1) 58 1 ((jb_up M 58 0 x1) (4 + 8) x1.toNatClampNeg)) 58 2 ((jb_up (jb_up M 58 0 x1) 58 1 ((jb_up M 58 0 x1) (4 + 8) x1.toNatClampNeg)) (4 + 9) x1.toNatClampNeg)) (60 + 1) x2.toNatClampNeg) / 64)), (.int 3), (.ref 58)]) (σ' := (zE L, (jb_up (jb_up (jb_up M 58 0 x1) 58 1 ((jb_up M 58 0 x1) (4 + 8) x1.toNatClampNeg)) 58 2 ((jb_up (jb_up M 58 0 x1) 58 1 ((jb_up M 58 0 x1) (4 + 8) x1.toNatClampNeg)) (4 + 9) x1.toNatClampNeg)), N)) (G := [vp_in x2 24, ¬ (64 : Int32) = 0]) rfl ⟨g9, (show ¬ (64 : Int32) = 0 from (by decide))⟩ ?_
      exact jb_mask [true, false, true, true, true, true] rfl (zg_121_J81 hd 60 4 x2 x3 s0 3 (((jb_up (jb_up (jb_up M 58 0 x1) 58 1 ((jb_up M 58 0 x1) (4 + 8) x1.toNatClampNeg)) 58 2 ((jb_up (jb_up M 58 0 x1) 58 1 ((jb_up M 58 0 x1) (4 + 8) x1.toNatClampNeg)) (4 + 9) x1.toNatClampNeg)) (60 + 1) x2.toNatClampNeg) / 64) (jb_up (jb_up (jb_up M 58 0 x1) 58 1 ((jb_up M 58 0 x1) (4 + 8) x1.toNatClampNeg)) 58 2 ((jb_up (jb_up M 58 0 x1) 58 1 ((jb_up M 58 0 x1) (4 + 8) x1.toNatClampNeg)) (4 + 9) x1.toNatClampNeg)) N (by decide) h hK)
  · obtain ⟨d, rfl⟩ : ∃ e, d = e + 1 := ⟨d - 1, by omega⟩
    unfold zf_121_J19 at h
    obtain ⟨g1, h⟩ := jb_gd_of h
    obtain ⟨g2, h⟩ := jb_gd_of h
    refine jb_seg 29 (pc' := (if x3 = 0 then 80 else 68)) (ls' := [some (.ref 62), some (.int x1), some (.int x2), some (.int x3), some (.int s0), some (.ref 58)]) (st' := [(.int 3), (.ref 58)]) (σ' := (zE L, (jb_up (jb_up (jb_up M 58 0 x1) 58 1 ((jb_up M 58 0 x1) (24 + 8) x1.toNatClampNeg)) 58 2 ((jb_up (jb_up M 58 0 x1) 58 1 ((jb_up M 58 0 x1) (24 + 8) x1.toNatClampNeg)) (24 + 9) x1.toNatClampNeg)), N)) (G := [vp_in 0 10, vp_in x1 16, vp_in 1 10, vp_in x1 16, vp_in 2 10]) rfl ⟨(show vp_in 0 10 from (by unfold vp_in; decide)), g1, (show vp_in 1 10 from (by unfold vp_in; decide)), g2, (show vp_in 2 10 from (by unfold vp_in; decide))⟩ ?_
    refine jb_ite (fun c => ?_) (fun c => ?_)
    · replace h := (if_pos c).symm.trans h
      refine jb_seg 1 (pc' := 81) (ls' := [some (.ref 62), some (.int x1), some (.int x2), some (.int x3), some (.int s0), some (.ref 58)]) (st' := [(.int 0), (.int 3), (.ref 58)]) (σ' := (zE L, (jb_up (jb_up (jb_up M 58 0 x1) 58 1 ((jb_up M 58 0 x1) (24 + 8) x1.toNatClampNeg)) 58 2 ((jb_up (jb_up M 58 0 x1) 58 1 ((jb_up M 58 0 x1) (24 + 8) x1.toNatClampNeg)) (24 + 9) x1.toNatClampNeg)), N)) (G := []) rfl trivial ?_
      exact jb_mask [true, false, true, true, true, true] rfl (zg_121_J81 hd 62 24 x2 x3 s0 3 0 (jb_up (jb_up (jb_up M 58 0 x1) 58 1 ((jb_up M 58 0 x1) (24 + 8) x1.toNatClampNeg)) 58 2 ((jb_up (jb_up M 58 0 x1) 58 1 ((jb_up M 58 0 x1) (24 + 8) x1.toNatClampNeg)) (24 + 9) x1.toNatClampNeg)) N (by decide) h hK)
    · replace h := (if_neg c).symm.trans h
      obtain ⟨g9, h⟩ := jb_gd_of h
      refine jb_seg 7 (pc' := 81) (ls' := [some (.ref 62), some (.int x1), some (.int x2), some (.int x3), some (.int s0), some (.ref 58)]) (st' := [(.int (((jb_up (jb_up (jb_up M 58 0 x1) 58 1 ((jb_up M 58 0 x1) (24 + 8) x1.toNatClampNeg)) 58 2 ((jb_up (jb_up M 58 0 x1) 58 1 ((jb_up M 58 0 x1) (24 + 8) x1.toNatClampNeg)) (24 + 9) x1.toNatClampNeg)) (62 + 1) x2.toNatClampNeg) / 64)), (.int 3), (.ref 58)]) (σ' := (zE L, (jb_up (jb_up (jb_up M 58 0 x1) 58 1 ((jb_up M 58 0 x1) (24 + 8) x1.toNatClampNeg)) 58 2 ((jb_up (jb_up M 58 0 x1) 58 1 ((jb_up M 58 0 x1) (24 + 8) x1.toNatClampNeg)) (24 + 9) x1.toNatClampNeg)), N)) (G := [vp_in x2 24, ¬ (64 : Int32) = 0]) rfl ⟨g9, (show ¬ (64 : Int32) = 0 from (by decide))⟩ ?_
      exact jb_mask [true, false, true, true, true, true] rfl (zg_121_J81 hd 62 24 x2 x3 s0 3 (((jb_up (jb_up (jb_up M 58 0 x1) 58 1 ((jb_up M 58 0 x1) (24 + 8) x1.toNatClampNeg)) 58 2 ((jb_up (jb_up M 58 0 x1) 58 1 ((jb_up M 58 0 x1) (24 + 8) x1.toNatClampNeg)) (24 + 9) x1.toNatClampNeg)) (62 + 1) x2.toNatClampNeg) / 64) (jb_up (jb_up (jb_up M 58 0 x1) 58 1 ((jb_up M 58 0 x1) (24 + 8) x1.toNatClampNeg)) 58 2 ((jb_up (jb_up M 58 0 x1) 58 1 ((jb_up M 58 0 x1) (24 + 8) x1.toNatClampNeg)) (24 + 9) x1.toNatClampNeg)) N (by decide) h hK)
set_option maxRecDepth 20000 in
theorem zg_121 {Γ : jb_G} {L : Nat} {d : Nat} (hd : 1 ≤ d) (w : Nat) (o : Nat) (x1 : Int32) (x2 : Int32) (M : jb_Mi) (N : jb_Ml) (hp : (w = 60 ∧ o = 4) ∨ (w = 62 ∧ o = 24)) {v : Option Value} {σ2 : jb_S} {r : (jb_Mi)} (h : zf_121 w o x1 x2 M = some r) (hK : (fun r : jb_Mi => v = none ∧ σ2 = (zE L, r, N)) r) : jb_V Γ d zq_121 0 [some (.ref w), some (.int x1), some (.int x2), none, none, none] [] (zE L, M, N) v σ2 := by
  rcases hp with ⟨rfl, rfl⟩ | ⟨rfl, rfl⟩
  · obtain ⟨d, rfl⟩ : ∃ e, d = e + 1 := ⟨d - 1, by omega⟩
    unfold zf_121 at h
    refine jb_seg 3 (pc' := 4) (ls' := [some (.ref 60), some (.int x1), some (.int x2), none, none, none]) (st' := [(.int 23), (.int 0), (.int x2)]) (σ' := (zE L, M, N)) (G := []) rfl trivial ?_
    refine jb_callS (q' := zq_23) (As := [(.int x2), (.int 0), (.int 23)]) (rest := []) (σ1 := (zE L, M, N)) (v := some (.int (jb_b2i (zf_23 x2 0 23)))) rfl (Nat.le_of_ble_eq_true rfl) rfl zp_23 (jb_cat rfl) (Nat.le_of_ble_eq_true rfl) (Nat.le_of_ble_eq_true rfl) (Or.inl rfl) rfl (ze_23 x2 0 23 M N rfl) ?_
    refine jb_seg 3 (pc' := (if (jb_b2i (zf_23 x2 0 23)) = 0 then 18 else 12)) (ls' := [some (.ref 60), some (.int x1), some (.int x2), some (.int (jb_b2i (zf_23 x2 0 23))), none, none]) (st' := []) (σ' := (zE L, M, N)) (G := []) rfl trivial ?_
    refine jb_ite (fun c => ?_) (fun c => ?_)
    · replace h := (if_pos c).symm.trans h
      refine jb_seg 1 (pc' := 19) (ls' := [some (.ref 60), some (.int x1), some (.int x2), some (.int (jb_b2i (zf_23 x2 0 23))), none, none]) (st' := [(.int 0)]) (σ' := (zE L, M, N)) (G := []) rfl trivial ?_
      exact jb_mask [true, true, true, true, false, false] rfl (zg_121_J19 hd 60 4 x1 x2 (jb_b2i (zf_23 x2 0 23)) 0 M N (by decide) h hK)
    · replace h := (if_neg c).symm.trans h
      refine jb_seg 4 (pc' := 19) (ls' := [some (.ref 60), some (.int x1), some (.int x2), some (.int (jb_b2i (zf_23 x2 0 23))), none, none]) (st' := [(.int (x2 / 4))]) (σ' := (zE L, M, N)) (G := [¬ (4 : Int32) = 0]) rfl (show ¬ (4 : Int32) = 0 from (by decide)) ?_
      exact jb_mask [true, true, true, true, false, false] rfl (zg_121_J19 hd 60 4 x1 x2 (jb_b2i (zf_23 x2 0 23)) (x2 / 4) M N (by decide) h hK)
  · obtain ⟨d, rfl⟩ : ∃ e, d = e + 1 := ⟨d - 1, by omega⟩
    unfold zf_121 at h
    refine jb_seg 3 (pc' := 4) (ls' := [some (.ref 62), some (.int x1), some (.int x2), none, none, none]) (st' := [(.int 23), (.int 0), (.int x2)]) (σ' := (zE L, M, N)) (G := []) rfl trivial ?_
    refine jb_callS (q' := zq_23) (As := [(.int x2), (.int 0), (.int 23)]) (rest := []) (σ1 := (zE L, M, N)) (v := some (.int (jb_b2i (zf_23 x2 0 23)))) rfl (Nat.le_of_ble_eq_true rfl) rfl zp_23 (jb_cat rfl) (Nat.le_of_ble_eq_true rfl) (Nat.le_of_ble_eq_true rfl) (Or.inl rfl) rfl (ze_23 x2 0 23 M N rfl) ?_
    refine jb_seg 3 (pc' := (if (jb_b2i (zf_23 x2 0 23)) = 0 then 18 else 12)) (ls' := [some (.ref 62), some (.int x1), some (.int x2), some (.int (jb_b2i (zf_23 x2 0 23))), none, none]) (st' := []) (σ' := (zE L, M, N)) (G := []) rfl trivial ?_
    refine jb_ite (fun c => ?_) (fun c => ?_)
    · replace h := (if_pos c).symm.trans h
      refine jb_seg 1 (pc' := 19) (ls' := [some (.ref 62), some (.int x1), some (.int x2), some (.int (jb_b2i (zf_23 x2 0 23))), none, none]) (st' := [(.int 0)]) (σ' := (zE L, M, N)) (G := []) rfl trivial ?_
      exact jb_mask [true, true, true, true, false, false] rfl (zg_121_J19 hd 62 24 x1 x2 (jb_b2i (zf_23 x2 0 23)) 0 M N (by decide) h hK)
    · replace h := (if_neg c).symm.trans h
      refine jb_seg 4 (pc' := 19) (ls' := [some (.ref 62), some (.int x1), some (.int x2), some (.int (jb_b2i (zf_23 x2 0 23))), none, none]) (st' := [(.int (x2 / 4))]) (σ' := (zE L, M, N)) (G := [¬ (4 : Int32) = 0]) rfl (show ¬ (4 : Int32) = 0 from (by decide)) ?_
      exact jb_mask [true, true, true, true, false, false] rfl (zg_121_J19 hd 62 24 x1 x2 (jb_b2i (zf_23 x2 0 23)) (x2 / 4) M N (by decide) h hK)
theorem ze_121 {Γ : jb_G} {L : Nat} {d : Nat} (hd : 1 ≤ d) (w : Nat) (o : Nat) (x1 : Int32) (x2 : Int32) (M : jb_Mi) (N : jb_Ml) (hp : (w = 60 ∧ o = 4) ∨ (w = 62 ∧ o = 24)) {r : (jb_Mi)} (h : zf_121 w o x1 x2 M = some r) : jb_V Γ d zq_121 0 (jb_en 6 [(.ref w), (.int x1), (.int x2)]) [] (zE L, M, N) (none) (zE L, r, N) := zg_121 hd w o x1 x2 M N hp h ⟨rfl, rfl⟩
-- X11_hold
set_option maxRecDepth 20000 in
theorem zg_122_J38 {Γ : jb_G} {L : Nat} {d : Nat} (hd : 4 ≤ d) (w : Nat) (o : Nat) (x1 : Int32) (M : jb_Mi) (N : jb_Ml) (hp : (w = 60 ∧ o = 4) ∨ (w = 62 ∧ o = 24)) {v : Option Value} {σ2 : jb_S} {r : (jb_Mi)} (h : zf_122_J38 w o x1 M = some r) (hK : (fun r : jb_Mi => v = none ∧ σ2 = (zE L, r, N)) r) : jb_V Γ d zq_122 38 [some (.ref w), some (.int x1), none, none, none, none] [] (zE L, M, N) v σ2 := by
  rcases hp with ⟨rfl, rfl⟩ | ⟨rfl, rfl⟩
  · obtain ⟨d, rfl⟩ : ∃ e, d = e + 1 := ⟨d - 1, by omega⟩
    unfold zf_122_J38 at h
    refine jb_seg 10 (pc' := 52) (ls' := [some (.ref 60), some (.int x1), none, none, none, none]) (st' := [(.int (x1 / 4)), (.ref 60)]) (σ' := (zE L, (jb_up M 60 7 ((M 60 7) + 1)), N)) (G := [¬ (4 : Int32) = 0]) rfl (show ¬ (4 : Int32) = 0 from (by decide)) ?_
    obtain ⟨q3, h3, h⟩ := jb_bd_of h
    refine jb_callV (q' := zq_120) (As := [(.int (x1 / 4))]) (rest := []) (σ1 := (zE L, q3, N)) (v := none) rfl rfl zp_120 rfl (Nat.le_of_ble_eq_true rfl) (jb_cat rfl) (Nat.le_of_ble_eq_true rfl) (Nat.le_of_ble_eq_true rfl) (Or.inl rfl) rfl (ze_120 (by omega) 60 4 (x1 / 4) (jb_up M 60 7 ((M 60 7) + 1)) N (by decide) h3) ?_
    obtain rfl := Option.some.inj h
    obtain ⟨rfl, rfl⟩ := hK
    exact jb_retv rfl rfl
  · obtain ⟨d, rfl⟩ : ∃ e, d = e + 1 := ⟨d - 1, by omega⟩
    unfold zf_122_J38 at h
    refine jb_seg 10 (pc' := 52) (ls' := [some (.ref 62), some (.int x1), none, none, none, none]) (st' := [(.int (x1 / 4)), (.ref 62)]) (σ' := (zE L, (jb_up M 62 7 ((M 62 7) + 1)), N)) (G := [¬ (4 : Int32) = 0]) rfl (show ¬ (4 : Int32) = 0 from (by decide)) ?_
    obtain ⟨q3, h3, h⟩ := jb_bd_of h
    refine jb_callV (q' := zq_120) (As := [(.int (x1 / 4))]) (rest := []) (σ1 := (zE L, q3, N)) (v := none) rfl rfl zp_120 rfl (Nat.le_of_ble_eq_true rfl) (jb_cat rfl) (Nat.le_of_ble_eq_true rfl) (Nat.le_of_ble_eq_true rfl) (Or.inl rfl) rfl (ze_120 (by omega) 62 24 (x1 / 4) (jb_up M 62 7 ((M 62 7) + 1)) N (by decide) h3) ?_
    obtain rfl := Option.some.inj h
    obtain ⟨rfl, rfl⟩ := hK
    exact jb_retv rfl rfl
set_option maxRecDepth 20000 in
theorem zg_122_J224 {Γ : jb_G} {L : Nat} {d : Nat} (hd : 4 ≤ d) (w : Nat) (o : Nat) (x1 : Int32) (M : jb_Mi) (N : jb_Ml) (hp : (w = 60 ∧ o = 4) ∨ (w = 62 ∧ o = 24)) {v : Option Value} {σ2 : jb_S} {r : (jb_Mi)} (h : zf_122_J224 w o x1 M = some r) (hK : (fun r : jb_Mi => v = none ∧ σ2 = (zE L, r, N)) r) : jb_V Γ d zq_122 224 [some (.ref w), some (.int x1), none, none, none, none] [] (zE L, M, N) v σ2 := by
  rcases hp with ⟨rfl, rfl⟩ | ⟨rfl, rfl⟩
  · obtain ⟨d, rfl⟩ : ∃ e, d = e + 1 := ⟨d - 1, by omega⟩
    unfold zf_122_J224 at h
    refine jb_seg 4 (pc' := 228) (ls' := [some (.ref 60), some (.int x1), none, none, none, none]) (st' := [(.int (x1 / 4)), (.ref 60)]) (σ' := (zE L, M, N)) (G := [¬ (4 : Int32) = 0]) rfl (show ¬ (4 : Int32) = 0 from (by decide)) ?_
    obtain ⟨q12, h12, h⟩ := jb_bd_of h
    refine jb_callV (q' := zq_120) (As := [(.int (x1 / 4))]) (rest := []) (σ1 := (zE L, q12, N)) (v := none) rfl rfl zp_120 rfl (Nat.le_of_ble_eq_true rfl) (jb_cat rfl) (Nat.le_of_ble_eq_true rfl) (Nat.le_of_ble_eq_true rfl) (Or.inl rfl) rfl (ze_120 (by omega) 60 4 (x1 / 4) M N (by decide) h12) ?_
    obtain rfl := Option.some.inj h
    obtain ⟨rfl, rfl⟩ := hK
    exact jb_retv rfl rfl
  · obtain ⟨d, rfl⟩ : ∃ e, d = e + 1 := ⟨d - 1, by omega⟩
    unfold zf_122_J224 at h
    refine jb_seg 4 (pc' := 228) (ls' := [some (.ref 62), some (.int x1), none, none, none, none]) (st' := [(.int (x1 / 4)), (.ref 62)]) (σ' := (zE L, M, N)) (G := [¬ (4 : Int32) = 0]) rfl (show ¬ (4 : Int32) = 0 from (by decide)) ?_
    obtain ⟨q12, h12, h⟩ := jb_bd_of h
    refine jb_callV (q' := zq_120) (As := [(.int (x1 / 4))]) (rest := []) (σ1 := (zE L, q12, N)) (v := none) rfl rfl zp_120 rfl (Nat.le_of_ble_eq_true rfl) (jb_cat rfl) (Nat.le_of_ble_eq_true rfl) (Nat.le_of_ble_eq_true rfl) (Or.inl rfl) rfl (ze_120 (by omega) 62 24 (x1 / 4) M N (by decide) h12) ?_
    obtain rfl := Option.some.inj h
    obtain ⟨rfl, rfl⟩ := hK
    exact jb_retv rfl rfl
set_option maxRecDepth 20000 in
theorem zg_122_J210 {Γ : jb_G} {L : Nat} {d : Nat} (hd : 4 ≤ d) (w : Nat) (o : Nat) (x1 : Int32) (x4 : Int32) (x5 : Int32) (s1 : Int32) (s2 : Int32) (M : jb_Mi) (N : jb_Ml) (hp : (w = 60 ∧ o = 4) ∨ (w = 62 ∧ o = 24)) {v : Option Value} {σ2 : jb_S} {r : (jb_Mi)} (h : zf_122_J210 w o x1 x4 x5 s1 s2 M = some r) (hK : (fun r : jb_Mi => v = none ∧ σ2 = (zE L, r, N)) r) : jb_V Γ d zq_122 210 [some (.ref w), some (.int x1), none, none, some (.int x4), some (.int x5)] [(.int s2), (.int s1), (.ref w)] (zE L, M, N) v σ2 := by
  rcases hp with ⟨rfl, rfl⟩ | ⟨rfl, rfl⟩
  · obtain ⟨d, rfl⟩ : ∃ e, d = e + 1 := ⟨d - 1, by omega⟩
    unfold zf_122_J210 at h
    refine jb_seg 4 (pc' := (if x4 = 0 then 219 else 224)) (ls' := [some (.ref 60), some (.int x1), none, none, some (.int x4), some (.int x5)]) (st' := []) (σ' := (zE L, (jb_up M 60 6 (s1 + s2)), N)) (G := []) rfl trivial ?_
    refine jb_ite (fun c => ?_) (fun c => ?_)
    · replace h := (if_pos c).symm.trans h
      refine jb_seg 2 (pc' := (if x5 = 0 then 231 else 224)) (ls' := [some (.ref 60), some (.int x1), none, none, some (.int x4), some (.int x5)]) (st' := []) (σ' := (zE L, (jb_up M 60 6 (s1 + s2)), N)) (G := []) rfl trivial ?_
      refine jb_ite (fun c => ?_) (fun c => ?_)
      · replace h := (if_pos c).symm.trans h
        obtain rfl := Option.some.inj h
        obtain ⟨rfl, rfl⟩ := hK
        exact jb_retv rfl rfl
      · replace h := (if_neg c).symm.trans h
        exact jb_mask [true, true, false, false, false, false] rfl (zg_122_J224 hd 60 4 x1 (jb_up M 60 6 (s1 + s2)) N (by decide) h hK)
    · replace h := (if_neg c).symm.trans h
      exact jb_mask [true, true, false, false, false, false] rfl (zg_122_J224 hd 60 4 x1 (jb_up M 60 6 (s1 + s2)) N (by decide) h hK)
  · obtain ⟨d, rfl⟩ : ∃ e, d = e + 1 := ⟨d - 1, by omega⟩
    unfold zf_122_J210 at h
    refine jb_seg 4 (pc' := (if x4 = 0 then 219 else 224)) (ls' := [some (.ref 62), some (.int x1), none, none, some (.int x4), some (.int x5)]) (st' := []) (σ' := (zE L, (jb_up M 62 6 (s1 + s2)), N)) (G := []) rfl trivial ?_
    refine jb_ite (fun c => ?_) (fun c => ?_)
    · replace h := (if_pos c).symm.trans h
      refine jb_seg 2 (pc' := (if x5 = 0 then 231 else 224)) (ls' := [some (.ref 62), some (.int x1), none, none, some (.int x4), some (.int x5)]) (st' := []) (σ' := (zE L, (jb_up M 62 6 (s1 + s2)), N)) (G := []) rfl trivial ?_
      refine jb_ite (fun c => ?_) (fun c => ?_)
      · replace h := (if_pos c).symm.trans h
        obtain rfl := Option.some.inj h
        obtain ⟨rfl, rfl⟩ := hK
        exact jb_retv rfl rfl
      · replace h := (if_neg c).symm.trans h
        exact jb_mask [true, true, false, false, false, false] rfl (zg_122_J224 hd 62 24 x1 (jb_up M 62 6 (s1 + s2)) N (by decide) h hK)
    · replace h := (if_neg c).symm.trans h
      exact jb_mask [true, true, false, false, false, false] rfl (zg_122_J224 hd 62 24 x1 (jb_up M 62 6 (s1 + s2)) N (by decide) h hK)
set_option maxRecDepth 20000 in
theorem zg_122_J193 {Γ : jb_G} {L : Nat} {d : Nat} (hd : 4 ≤ d) (w : Nat) (o : Nat) (x1 : Int32) (x4 : Int32) (s0 : Int32) (M : jb_Mi) (N : jb_Ml) (hp : (w = 60 ∧ o = 4) ∨ (w = 62 ∧ o = 24)) {v : Option Value} {σ2 : jb_S} {r : (jb_Mi)} (h : zf_122_J193 w o x1 x4 s0 M = some r) (hK : (fun r : jb_Mi => v = none ∧ σ2 = (zE L, r, N)) r) : jb_V Γ d zq_122 193 [some (.ref w), some (.int x1), none, none, some (.int x4), none] [(.int s0)] (zE L, M, N) v σ2 := by
  rcases hp with ⟨rfl, rfl⟩ | ⟨rfl, rfl⟩
  · obtain ⟨d, rfl⟩ : ∃ e, d = e + 1 := ⟨d - 1, by omega⟩
    unfold zf_122_J193 at h
    refine jb_seg 6 (pc' := (if s0 = 0 then 209 else 205)) (ls' := [some (.ref 60), some (.int x1), none, none, some (.int x4), some (.int s0)]) (st' := [(.int (M 60 6)), (.ref 60)]) (σ' := (zE L, M, N)) (G := []) rfl trivial ?_
    refine jb_ite (fun c => ?_) (fun c => ?_)
    · replace h := (if_pos c).symm.trans h
      refine jb_seg 1 (pc' := 210) (ls' := [some (.ref 60), some (.int x1), none, none, some (.int x4), some (.int s0)]) (st' := [(.int 0), (.int (M 60 6)), (.ref 60)]) (σ' := (zE L, M, N)) (G := []) rfl trivial ?_
      exact jb_mask [true, true, false, false, true, true] rfl (zg_122_J210 hd 60 4 x1 x4 s0 (M 60 6) 0 M N (by decide) h hK)
    · replace h := (if_neg c).symm.trans h
      refine jb_seg 2 (pc' := 210) (ls' := [some (.ref 60), some (.int x1), none, none, some (.int x4), some (.int s0)]) (st' := [(.int 1), (.int (M 60 6)), (.ref 60)]) (σ' := (zE L, M, N)) (G := []) rfl trivial ?_
      exact jb_mask [true, true, false, false, true, true] rfl (zg_122_J210 hd 60 4 x1 x4 s0 (M 60 6) 1 M N (by decide) h hK)
  · obtain ⟨d, rfl⟩ : ∃ e, d = e + 1 := ⟨d - 1, by omega⟩
    unfold zf_122_J193 at h
    refine jb_seg 6 (pc' := (if s0 = 0 then 209 else 205)) (ls' := [some (.ref 62), some (.int x1), none, none, some (.int x4), some (.int s0)]) (st' := [(.int (M 62 6)), (.ref 62)]) (σ' := (zE L, M, N)) (G := []) rfl trivial ?_
    refine jb_ite (fun c => ?_) (fun c => ?_)
    · replace h := (if_pos c).symm.trans h
      refine jb_seg 1 (pc' := 210) (ls' := [some (.ref 62), some (.int x1), none, none, some (.int x4), some (.int s0)]) (st' := [(.int 0), (.int (M 62 6)), (.ref 62)]) (σ' := (zE L, M, N)) (G := []) rfl trivial ?_
      exact jb_mask [true, true, false, false, true, true] rfl (zg_122_J210 hd 62 24 x1 x4 s0 (M 62 6) 0 M N (by decide) h hK)
    · replace h := (if_neg c).symm.trans h
      refine jb_seg 2 (pc' := 210) (ls' := [some (.ref 62), some (.int x1), none, none, some (.int x4), some (.int s0)]) (st' := [(.int 1), (.int (M 62 6)), (.ref 62)]) (σ' := (zE L, M, N)) (G := []) rfl trivial ?_
      exact jb_mask [true, true, false, false, true, true] rfl (zg_122_J210 hd 62 24 x1 x4 s0 (M 62 6) 1 M N (by decide) h hK)
set_option maxRecDepth 20000 in
theorem zg_122_J192 {Γ : jb_G} {L : Nat} {d : Nat} (hd : 4 ≤ d) (w : Nat) (o : Nat) (x1 : Int32) (x4 : Int32) (M : jb_Mi) (N : jb_Ml) (hp : (w = 60 ∧ o = 4) ∨ (w = 62 ∧ o = 24)) {v : Option Value} {σ2 : jb_S} {r : (jb_Mi)} (h : zf_122_J192 w o x1 x4 M = some r) (hK : (fun r : jb_Mi => v = none ∧ σ2 = (zE L, r, N)) r) : jb_V Γ d zq_122 192 [some (.ref w), some (.int x1), none, none, some (.int x4), none] [] (zE L, M, N) v σ2 := by
  rcases hp with ⟨rfl, rfl⟩ | ⟨rfl, rfl⟩
  · obtain ⟨d, rfl⟩ : ∃ e, d = e + 1 := ⟨d - 1, by omega⟩
    unfold zf_122_J192 at h
    refine jb_seg 1 (pc' := 193) (ls' := [some (.ref 60), some (.int x1), none, none, some (.int x4), none]) (st' := [(.int 0)]) (σ' := (zE L, M, N)) (G := []) rfl trivial ?_
    exact jb_mask [true, true, false, false, true, false] rfl (zg_122_J193 hd 60 4 x1 x4 0 M N (by decide) h hK)
  · obtain ⟨d, rfl⟩ : ∃ e, d = e + 1 := ⟨d - 1, by omega⟩
    unfold zf_122_J192 at h
    refine jb_seg 1 (pc' := 193) (ls' := [some (.ref 62), some (.int x1), none, none, some (.int x4), none]) (st' := [(.int 0)]) (σ' := (zE L, M, N)) (G := []) rfl trivial ?_
    exact jb_mask [true, true, false, false, true, false] rfl (zg_122_J193 hd 62 24 x1 x4 0 M N (by decide) h hK)
set_option maxRecDepth 20000 in
theorem zg_122_J160 {Γ : jb_G} {L : Nat} {d : Nat} (hd : 4 ≤ d) (w : Nat) (o : Nat) (x1 : Int32) (s0 : Int32) (M : jb_Mi) (N : jb_Ml) (hp : (w = 60 ∧ o = 4) ∨ (w = 62 ∧ o = 24)) {v : Option Value} {σ2 : jb_S} {r : (jb_Mi)} (h : zf_122_J160 w o x1 s0 M = some r) (hK : (fun r : jb_Mi => v = none ∧ σ2 = (zE L, r, N)) r) : jb_V Γ d zq_122 160 [some (.ref w), some (.int x1), none, none, none, none] [(.int s0)] (zE L, M, N) v σ2 := by
  rcases hp with ⟨rfl, rfl⟩ | ⟨rfl, rfl⟩
  · obtain ⟨d, rfl⟩ : ∃ e, d = e + 1 := ⟨d - 1, by omega⟩
    unfold zf_122_J160 at h
    refine jb_seg 3 (pc' := (if s0 = 0 then 167 else 192)) (ls' := [some (.ref 60), some (.int x1), none, none, some (.int s0), none]) (st' := []) (σ' := (zE L, M, N)) (G := []) rfl trivial ?_
    refine jb_ite (fun c => ?_) (fun c => ?_)
    · replace h := (if_pos c).symm.trans h
      refine jb_seg 2 (pc' := 171) (ls' := [some (.ref 60), some (.int x1), none, none, some (.int s0), none]) (st' := [(.ref 4)]) (σ' := (zE L, M, N)) (G := []) rfl trivial ?_
      refine jb_callV (q' := zq_112) (As := []) (rest := []) (σ1 := (zE L, (zf_112 4 M).2, N)) (v := some (.int (zf_112 4 M).1)) rfl rfl zp_112 rfl (Nat.le_of_ble_eq_true rfl) (jb_cat rfl) (Nat.le_of_ble_eq_true rfl) (Nat.le_of_ble_eq_true rfl) (Or.inl rfl) rfl (ze_112 4 M N (by decide) rfl) ?_
      refine jb_seg 4 (pc' := 182) (ls' := [some (.ref 60), some (.int x1), none, none, some (.int s0), none]) (st' := [(.int 10), (.int 100), (.ref 57), (.int (zf_112 4 M).1)]) (σ' := (zE L, (zf_112 4 M).2, N)) (G := []) rfl trivial ?_
      obtain ⟨q11, h11, h⟩ := jb_bd_of h
      refine jb_callV (q' := zq_68) (As := [(.int 100), (.int 10)]) (rest := [(.int (zf_112 4 M).1)]) (σ1 := (zE L, q11.2, N)) (v := some (.int q11.1)) rfl rfl zp_68 rfl (Nat.le_of_ble_eq_true rfl) (jb_cat rfl) (Nat.le_of_ble_eq_true rfl) (Nat.le_of_ble_eq_true rfl) (Or.inl rfl) rfl (ze_68 (by omega) 100 10 ((zf_112 4 M).2) N h11) ?_
      refine jb_seg 1 (pc' := (if (zf_112 4 M).1 < q11.1 then 188 else 192)) (ls' := [some (.ref 60), some (.int x1), none, none, some (.int s0), none]) (st' := []) (σ' := (zE L, q11.2, N)) (G := []) rfl trivial ?_
      refine jb_ite (fun c => ?_) (fun c => ?_)
      · replace h := (if_pos c).symm.trans h
        refine jb_seg 2 (pc' := 193) (ls' := [some (.ref 60), some (.int x1), none, none, some (.int s0), none]) (st' := [(.int 1)]) (σ' := (zE L, q11.2, N)) (G := []) rfl trivial ?_
        exact jb_mask [true, true, false, false, true, false] rfl (zg_122_J193 hd 60 4 x1 s0 1 q11.2 N (by decide) h hK)
      · replace h := (if_neg c).symm.trans h
        exact jb_mask [true, true, false, false, true, false] rfl (zg_122_J192 hd 60 4 x1 s0 q11.2 N (by decide) h hK)
    · replace h := (if_neg c).symm.trans h
      exact jb_mask [true, true, false, false, true, false] rfl (zg_122_J192 hd 60 4 x1 s0 M N (by decide) h hK)
  · obtain ⟨d, rfl⟩ : ∃ e, d = e + 1 := ⟨d - 1, by omega⟩
    unfold zf_122_J160 at h
    refine jb_seg 3 (pc' := (if s0 = 0 then 167 else 192)) (ls' := [some (.ref 62), some (.int x1), none, none, some (.int s0), none]) (st' := []) (σ' := (zE L, M, N)) (G := []) rfl trivial ?_
    refine jb_ite (fun c => ?_) (fun c => ?_)
    · replace h := (if_pos c).symm.trans h
      refine jb_seg 2 (pc' := 171) (ls' := [some (.ref 62), some (.int x1), none, none, some (.int s0), none]) (st' := [(.ref 24)]) (σ' := (zE L, M, N)) (G := []) rfl trivial ?_
      refine jb_callV (q' := zq_112) (As := []) (rest := []) (σ1 := (zE L, (zf_112 24 M).2, N)) (v := some (.int (zf_112 24 M).1)) rfl rfl zp_112 rfl (Nat.le_of_ble_eq_true rfl) (jb_cat rfl) (Nat.le_of_ble_eq_true rfl) (Nat.le_of_ble_eq_true rfl) (Or.inl rfl) rfl (ze_112 24 M N (by decide) rfl) ?_
      refine jb_seg 4 (pc' := 182) (ls' := [some (.ref 62), some (.int x1), none, none, some (.int s0), none]) (st' := [(.int 10), (.int 100), (.ref 57), (.int (zf_112 24 M).1)]) (σ' := (zE L, (zf_112 24 M).2, N)) (G := []) rfl trivial ?_
      obtain ⟨q11, h11, h⟩ := jb_bd_of h
      refine jb_callV (q' := zq_68) (As := [(.int 100), (.int 10)]) (rest := [(.int (zf_112 24 M).1)]) (σ1 := (zE L, q11.2, N)) (v := some (.int q11.1)) rfl rfl zp_68 rfl (Nat.le_of_ble_eq_true rfl) (jb_cat rfl) (Nat.le_of_ble_eq_true rfl) (Nat.le_of_ble_eq_true rfl) (Or.inl rfl) rfl (ze_68 (by omega) 100 10 ((zf_112 24 M).2) N h11) ?_
      refine jb_seg 1 (pc' := (if (zf_112 24 M).1 < q11.1 then 188 else 192)) (ls' := [some (.ref 62), some (.int x1), none, none, some (.int s0), none]) (st' := []) (σ' := (zE L, q11.2, N)) (G := []) rfl trivial ?_
      refine jb_ite (fun c => ?_) (fun c => ?_)
      · replace h := (if_pos c).symm.trans h
        refine jb_seg 2 (pc' := 193) (ls' := [some (.ref 62), some (.int x1), none, none, some (.int s0), none]) (st' := [(.int 1)]) (σ' := (zE L, q11.2, N)) (G := []) rfl trivial ?_
        exact jb_mask [true, true, false, false, true, false] rfl (zg_122_J193 hd 62 24 x1 s0 1 q11.2 N (by decide) h hK)
      · replace h := (if_neg c).symm.trans h
        exact jb_mask [true, true, false, false, true, false] rfl (zg_122_J192 hd 62 24 x1 s0 q11.2 N (by decide) h hK)
    · replace h := (if_neg c).symm.trans h
      exact jb_mask [true, true, false, false, true, false] rfl (zg_122_J192 hd 62 24 x1 s0 M N (by decide) h hK)
set_option maxRecDepth 20000 in
theorem zg_122_J155 {Γ : jb_G} {L : Nat} {d : Nat} (hd : 4 ≤ d) (w : Nat) (o : Nat) (x1 : Int32) (M : jb_Mi) (N : jb_Ml) (hp : (w = 60 ∧ o = 4) ∨ (w = 62 ∧ o = 24)) {v : Option Value} {σ2 : jb_S} {r : (jb_Mi)} (h : zf_122_J155 w o x1 M = some r) (hK : (fun r : jb_Mi => v = none ∧ σ2 = (zE L, r, N)) r) : jb_V Γ d zq_122 155 [some (.ref w), some (.int x1), none, none, none, none] [] (zE L, M, N) v σ2 := by
  rcases hp with ⟨rfl, rfl⟩ | ⟨rfl, rfl⟩
  · obtain ⟨d, rfl⟩ : ∃ e, d = e + 1 := ⟨d - 1, by omega⟩
    unfold zf_122_J155 at h
    refine jb_seg 2 (pc' := 160) (ls' := [some (.ref 60), some (.int x1), none, none, none, none]) (st' := [(.int 1)]) (σ' := (zE L, M, N)) (G := []) rfl trivial ?_
    exact jb_mask [true, true, false, false, false, false] rfl (zg_122_J160 hd 60 4 x1 1 M N (by decide) h hK)
  · obtain ⟨d, rfl⟩ : ∃ e, d = e + 1 := ⟨d - 1, by omega⟩
    unfold zf_122_J155 at h
    refine jb_seg 2 (pc' := 160) (ls' := [some (.ref 62), some (.int x1), none, none, none, none]) (st' := [(.int 1)]) (σ' := (zE L, M, N)) (G := []) rfl trivial ?_
    exact jb_mask [true, true, false, false, false, false] rfl (zg_122_J160 hd 62 24 x1 1 M N (by decide) h hK)
set_option maxRecDepth 20000 in
theorem zg_122 {Γ : jb_G} {L : Nat} {d : Nat} (hd : 4 ≤ d) (w : Nat) (o : Nat) (x1 : Int32) (M : jb_Mi) (N : jb_Ml) (hp : (w = 60 ∧ o = 4) ∨ (w = 62 ∧ o = 24)) {v : Option Value} {σ2 : jb_S} {r : (jb_Mi)} (h : zf_122 w o x1 M = some r) (hK : (fun r : jb_Mi => v = none ∧ σ2 = (zE L, r, N)) r) : jb_V Γ d zq_122 0 [some (.ref w), some (.int x1), none, none, none, none] [] (zE L, M, N) v σ2 := by
  rcases hp with ⟨rfl, rfl⟩ | ⟨rfl, rfl⟩
  · obtain ⟨d, rfl⟩ : ∃ e, d = e + 1 := ⟨d - 1, by omega⟩
    unfold zf_122 at h
    refine jb_seg 5 (pc' := 9) (ls' := [some (.ref 60), some (.int x1), none, none, none, none]) (st' := [(.ref 4), (.int x1), (.ref 34)]) (σ' := (zE L, M, N)) (G := []) rfl trivial ?_
    refine jb_callV (q' := zq_14) (As := []) (rest := [(.int x1), (.ref 34)]) (σ1 := (zE L, M, N)) (v := some (.int (zf_14 4 M))) rfl rfl zp_14 rfl (Nat.le_of_ble_eq_true rfl) (jb_cat rfl) (Nat.le_of_ble_eq_true rfl) (Nat.le_of_ble_eq_true rfl) (Or.inl rfl) rfl (ze_14 4 M N (by decide) rfl) ?_
    obtain ⟨q1, h1, h⟩ := jb_bd_of h
    refine jb_callV (q' := zq_17) (As := [(.int x1), (.int (zf_14 4 M))]) (rest := []) (σ1 := (zE L, M, N)) (v := some (.int q1)) rfl rfl zp_17 rfl (Nat.le_of_ble_eq_true rfl) (jb_cat rfl) (Nat.le_of_ble_eq_true rfl) (Nat.le_of_ble_eq_true rfl) (Or.inl rfl) rfl (ze_17 (by omega) x1 (zf_14 4 M) M N h1) ?_
    refine jb_seg 4 (pc' := 21) (ls' := [some (.ref 60), some (.int x1), some (.int q1), none, none, none]) (st' := [(.int q1), (.ref 4)]) (σ' := (zE L, M, N)) (G := []) rfl trivial ?_
    obtain ⟨q2, h2, h⟩ := jb_bd_of h
    refine jb_callV (q' := zq_18) (As := [(.int q1)]) (rest := []) (σ1 := (zE L, M, N)) (v := some (.int (jb_b2i q2))) rfl rfl zp_18 rfl (Nat.le_of_ble_eq_true rfl) (jb_cat rfl) (Nat.le_of_ble_eq_true rfl) (Nat.le_of_ble_eq_true rfl) (Or.inl rfl) rfl (ze_18 4 q1 M N (by decide) h2) ?_
    refine jb_seg 1 (pc' := (if (jb_b2i q2) = 0 then 38 else 27)) (ls' := [some (.ref 60), some (.int x1), some (.int q1), none, none, none]) (st' := []) (σ' := (zE L, M, N)) (G := []) rfl trivial ?_
    refine jb_ite (fun c => ?_) (fun c => ?_)
    · replace h := (if_pos c).symm.trans h
      exact jb_mask [true, true, false, false, false, false] rfl (zg_122_J38 hd 60 4 x1 M N (by decide) h hK)
    · replace h := (if_neg c).symm.trans h
      refine jb_seg 7 (pc' := (if (((M 60 4) >>> (q1 &&& 31)) &&& 1) = 0 then 56 else 38)) (ls' := [some (.ref 60), some (.int x1), some (.int q1), none, none, none]) (st' := []) (σ' := (zE L, M, N)) (G := []) rfl trivial ?_
      refine jb_ite (fun c => ?_) (fun c => ?_)
      · replace h := (if_pos c).symm.trans h
        refine jb_seg 11 (pc' := 71) (ls' := [some (.ref 60), some (.int x1), some (.int q1), none, none, none]) (st' := [(.int x1), (.int q1), (.ref 60)]) (σ' := (zE L, (jb_up M 60 4 ((M 60 4) ||| ((1 : Int32) <<< (q1 &&& 31)))), N)) (G := []) rfl trivial ?_
        obtain ⟨q4, h4, h⟩ := jb_bd_of h
        refine jb_callV (q' := zq_121) (As := [(.int q1), (.int x1)]) (rest := []) (σ1 := (zE L, q4, N)) (v := none) rfl rfl zp_121 rfl (Nat.le_of_ble_eq_true rfl) (jb_cat rfl) (Nat.le_of_ble_eq_true rfl) (Nat.le_of_ble_eq_true rfl) (Or.inl rfl) rfl (ze_121 (by omega) 60 4 q1 x1 (jb_up M 60 4 ((M 60 4) ||| ((1 : Int32) <<< (q1 &&& 31)))) N (by decide) h4) ?_
        refine jb_seg 4 (pc' := 82) (ls' := [some (.ref 60), some (.int x1), some (.int q1), none, none, none]) (st' := [(.int 99), (.int 116), (.ref 57)]) (σ' := (zE L, q4, N)) (G := []) rfl trivial ?_
        obtain ⟨q5, h5, h⟩ := jb_bd_of h
        refine jb_callV (q' := zq_68) (As := [(.int 116), (.int 99)]) (rest := []) (σ1 := (zE L, q5.2, N)) (v := some (.int q5.1)) rfl rfl zp_68 rfl (Nat.le_of_ble_eq_true rfl) (jb_cat rfl) (Nat.le_of_ble_eq_true rfl) (Nat.le_of_ble_eq_true rfl) (Or.inl rfl) rfl (ze_68 (by omega) 116 99 q4 N h5) ?_
        obtain ⟨g6, h⟩ := jb_gd_of h
        refine jb_seg 13 (pc' := 107) (ls' := [some (.ref 60), some (.int x1), some (.int q1), some (.int q5.1), none, none]) (st' := [(.int ((q5.2 (4 + 9) q1.toNatClampNeg) + q5.1)), (.int 99), (.int q1), (.ref (4 + 9))]) (σ' := (zE L, q5.2, N)) (G := [vp_in q1 16]) rfl g6 ?_
        refine jb_callS (q' := zq_272) (As := [(.int 99), (.int ((q5.2 (4 + 9) q1.toNatClampNeg) + q5.1))]) (rest := [(.int q1), (.ref (4 + 9))]) (σ1 := (zE L, q5.2, N)) (v := some (.int (zf_272 99 ((q5.2 (4 + 9) q1.toNatClampNeg) + q5.1)))) rfl (Nat.le_of_ble_eq_true rfl) rfl zp_272 (jb_cat rfl) (Nat.le_of_ble_eq_true rfl) (Nat.le_of_ble_eq_true rfl) (Or.inl rfl) rfl (ze_272 99 ((q5.2 (4 + 9) q1.toNatClampNeg) + q5.1) q5.2 N rfl) ?_
        obtain ⟨g7, h⟩ := jb_gd_of h
        obtain ⟨g8, h⟩ := jb_gd_of h
        obtain ⟨g9, h⟩ := jb_gd_of h
        refine jb_seg 18 (pc' := (if ((jb_up (jb_up q5.2 (4 + 9) q1.toNatClampNeg (zf_272 99 ((q5.2 (4 + 9) q1.toNatClampNeg) + q5.1))) 58 2 ((jb_up q5.2 (4 + 9) q1.toNatClampNeg (zf_272 99 ((q5.2 (4 + 9) q1.toNatClampNeg) + q5.1))) (4 + 9) q1.toNatClampNeg)) (4 + 9) q1.toNatClampNeg) < 99 then 143 else 155)) (ls' := [some (.ref 60), some (.int x1), some (.int q1), some (.int q5.1), none, none]) (st' := []) (σ' := (zE L, (jb_up (jb_up q5.2 (4 + 9) q1.toNatClampNeg (zf_272 99 ((q5.2 (4 + 9) q1.toNatClampNeg) + q5.1))) 58 2 ((jb_up q5.2 (4 + 9) q1.toNatClampNeg (zf_272 99 ((q5.2 (4 + 9) q1.toNatClampNeg) + q5.1))) (4 + 9) q1.toNatClampNeg)), N)) (G := [vp_in q1 16, vp_in q1 16, vp_in 2 10, vp_in q1 16]) rfl ⟨g7, g8, (show vp_in 2 10 from (by unfold vp_in; decide)), g9⟩ ?_
        refine jb_ite (fun c => ?_) (fun c => ?_)
        · replace h := (if_pos c).symm.trans h
          refine jb_seg 3 (pc' := 149) (ls' := [some (.ref 60), some (.int x1), some (.int q1), some (.int q5.1), none, none]) (st' := [(.int 120), (.ref 57)]) (σ' := (zE L, (jb_up (jb_up q5.2 (4 + 9) q1.toNatClampNeg (zf_272 99 ((q5.2 (4 + 9) q1.toNatClampNeg) + q5.1))) 58 2 ((jb_up q5.2 (4 + 9) q1.toNatClampNeg (zf_272 99 ((q5.2 (4 + 9) q1.toNatClampNeg) + q5.1))) (4 + 9) q1.toNatClampNeg)), N)) (G := []) rfl trivial ?_
          obtain ⟨q10, h10, h⟩ := jb_bd_of h
          refine jb_callV (q' := zq_67) (As := [(.int 120)]) (rest := []) (σ1 := (zE L, q10.2, N)) (v := some (.int q10.1)) rfl rfl zp_67 rfl (Nat.le_of_ble_eq_true rfl) (jb_cat rfl) (Nat.le_of_ble_eq_true rfl) (Nat.le_of_ble_eq_true rfl) (Or.inl rfl) rfl (ze_67 (by omega) 120 (jb_up (jb_up q5.2 (4 + 9) q1.toNatClampNeg (zf_272 99 ((q5.2 (4 + 9) q1.toNatClampNeg) + q5.1))) 58 2 ((jb_up q5.2 (4 + 9) q1.toNatClampNeg (zf_272 99 ((q5.2 (4 + 9) q1.toNatClampNeg) + q5.1))) (4 + 9) q1.toNatClampNeg)) N h10) ?_
          refine jb_seg 1 (pc' := (if q10.1 < 0 then 159 else 155)) (ls' := [some (.ref 60), some (.int x1), some (.int q1), some (.int q5.1), none, none]) (st' := []) (σ' := (zE L, q10.2, N)) (G := []) rfl trivial ?_
          refine jb_ite (fun c => ?_) (fun c => ?_)
          · replace h := (if_pos c).symm.trans h
            refine jb_seg 1 (pc' := 160) (ls' := [some (.ref 60), some (.int x1), some (.int q1), some (.int q5.1), none, none]) (st' := [(.int 0)]) (σ' := (zE L, q10.2, N)) (G := []) rfl trivial ?_
            exact jb_mask [true, true, false, false, false, false] rfl (zg_122_J160 hd 60 4 x1 0 q10.2 N (by decide) h hK)
          · replace h := (if_neg c).symm.trans h
            exact jb_mask [true, true, false, false, false, false] rfl (zg_122_J155 hd 60 4 x1 q10.2 N (by decide) h hK)
        · replace h := (if_neg c).symm.trans h
          exact jb_mask [true, true, false, false, false, false] rfl (zg_122_J155 hd 60 4 x1 (jb_up (jb_up q5.2 (4 + 9) q1.toNatClampNeg (zf_272 99 ((q5.2 (4 + 9) q1.toNatClampNeg) + q5.1))) 58 2 ((jb_up q5.2 (4 + 9) q1.toNatClampNeg (zf_272 99 ((q5.2 (4 + 9) q1.toNatClampNeg) + q5.1))) (4 + 9) q1.toNatClampNeg)) N (by decide) h hK)
      · replace h := (if_neg c).symm.trans h
        exact jb_mask [true, true, false, false, false, false] rfl (zg_122_J38 hd 60 4 x1 M N (by decide) h hK)
  · obtain ⟨d, rfl⟩ : ∃ e, d = e + 1 := ⟨d - 1, by omega⟩
    unfold zf_122 at h
    refine jb_seg 5 (pc' := 9) (ls' := [some (.ref 62), some (.int x1), none, none, none, none]) (st' := [(.ref 24), (.int x1), (.ref 34)]) (σ' := (zE L, M, N)) (G := []) rfl trivial ?_
    refine jb_callV (q' := zq_14) (As := []) (rest := [(.int x1), (.ref 34)]) (σ1 := (zE L, M, N)) (v := some (.int (zf_14 24 M))) rfl rfl zp_14 rfl (Nat.le_of_ble_eq_true rfl) (jb_cat rfl) (Nat.le_of_ble_eq_true rfl) (Nat.le_of_ble_eq_true rfl) (Or.inl rfl) rfl (ze_14 24 M N (by decide) rfl) ?_
    obtain ⟨q1, h1, h⟩ := jb_bd_of h
    refine jb_callV (q' := zq_17) (As := [(.int x1), (.int (zf_14 24 M))]) (rest := []) (σ1 := (zE L, M, N)) (v := some (.int q1)) rfl rfl zp_17 rfl (Nat.le_of_ble_eq_true rfl) (jb_cat rfl) (Nat.le_of_ble_eq_true rfl) (Nat.le_of_ble_eq_true rfl) (Or.inl rfl) rfl (ze_17 (by omega) x1 (zf_14 24 M) M N h1) ?_
    refine jb_seg 4 (pc' := 21) (ls' := [some (.ref 62), some (.int x1), some (.int q1), none, none, none]) (st' := [(.int q1), (.ref 24)]) (σ' := (zE L, M, N)) (G := []) rfl trivial ?_
    obtain ⟨q2, h2, h⟩ := jb_bd_of h
    refine jb_callV (q' := zq_18) (As := [(.int q1)]) (rest := []) (σ1 := (zE L, M, N)) (v := some (.int (jb_b2i q2))) rfl rfl zp_18 rfl (Nat.le_of_ble_eq_true rfl) (jb_cat rfl) (Nat.le_of_ble_eq_true rfl) (Nat.le_of_ble_eq_true rfl) (Or.inl rfl) rfl (ze_18 24 q1 M N (by decide) h2) ?_
    refine jb_seg 1 (pc' := (if (jb_b2i q2) = 0 then 38 else 27)) (ls' := [some (.ref 62), some (.int x1), some (.int q1), none, none, none]) (st' := []) (σ' := (zE L, M, N)) (G := []) rfl trivial ?_
    refine jb_ite (fun c => ?_) (fun c => ?_)
    · replace h := (if_pos c).symm.trans h
      exact jb_mask [true, true, false, false, false, false] rfl (zg_122_J38 hd 62 24 x1 M N (by decide) h hK)
    · replace h := (if_neg c).symm.trans h
      refine jb_seg 7 (pc' := (if (((M 62 4) >>> (q1 &&& 31)) &&& 1) = 0 then 56 else 38)) (ls' := [some (.ref 62), some (.int x1), some (.int q1), none, none, none]) (st' := []) (σ' := (zE L, M, N)) (G := []) rfl trivial ?_
      refine jb_ite (fun c => ?_) (fun c => ?_)
      · replace h := (if_pos c).symm.trans h
        refine jb_seg 11 (pc' := 71) (ls' := [some (.ref 62), some (.int x1), some (.int q1), none, none, none]) (st' := [(.int x1), (.int q1), (.ref 62)]) (σ' := (zE L, (jb_up M 62 4 ((M 62 4) ||| ((1 : Int32) <<< (q1 &&& 31)))), N)) (G := []) rfl trivial ?_
        obtain ⟨q4, h4, h⟩ := jb_bd_of h
        refine jb_callV (q' := zq_121) (As := [(.int q1), (.int x1)]) (rest := []) (σ1 := (zE L, q4, N)) (v := none) rfl rfl zp_121 rfl (Nat.le_of_ble_eq_true rfl) (jb_cat rfl) (Nat.le_of_ble_eq_true rfl) (Nat.le_of_ble_eq_true rfl) (Or.inl rfl) rfl (ze_121 (by omega) 62 24 q1 x1 (jb_up M 62 4 ((M 62 4) ||| ((1 : Int32) <<< (q1 &&& 31)))) N (by decide) h4) ?_
        refine jb_seg 4 (pc' := 82) (ls' := [some (.ref 62), some (.int x1), some (.int q1), none, none, none]) (st' := [(.int 99), (.int 116), (.ref 57)]) (σ' := (zE L, q4, N)) (G := []) rfl trivial ?_
        obtain ⟨q5, h5, h⟩ := jb_bd_of h
        refine jb_callV (q' := zq_68) (As := [(.int 116), (.int 99)]) (rest := []) (σ1 := (zE L, q5.2, N)) (v := some (.int q5.1)) rfl rfl zp_68 rfl (Nat.le_of_ble_eq_true rfl) (jb_cat rfl) (Nat.le_of_ble_eq_true rfl) (Nat.le_of_ble_eq_true rfl) (Or.inl rfl) rfl (ze_68 (by omega) 116 99 q4 N h5) ?_
        obtain ⟨g6, h⟩ := jb_gd_of h
        refine jb_seg 13 (pc' := 107) (ls' := [some (.ref 62), some (.int x1), some (.int q1), some (.int q5.1), none, none]) (st' := [(.int ((q5.2 (24 + 9) q1.toNatClampNeg) + q5.1)), (.int 99), (.int q1), (.ref (24 + 9))]) (σ' := (zE L, q5.2, N)) (G := [vp_in q1 16]) rfl g6 ?_
        refine jb_callS (q' := zq_272) (As := [(.int 99), (.int ((q5.2 (24 + 9) q1.toNatClampNeg) + q5.1))]) (rest := [(.int q1), (.ref (24 + 9))]) (σ1 := (zE L, q5.2, N)) (v := some (.int (zf_272 99 ((q5.2 (24 + 9) q1.toNatClampNeg) + q5.1)))) rfl (Nat.le_of_ble_eq_true rfl) rfl zp_272 (jb_cat rfl) (Nat.le_of_ble_eq_true rfl) (Nat.le_of_ble_eq_true rfl) (Or.inl rfl) rfl (ze_272 99 ((q5.2 (24 + 9) q1.toNatClampNeg) + q5.1) q5.2 N rfl) ?_
        obtain ⟨g7, h⟩ := jb_gd_of h
        obtain ⟨g8, h⟩ := jb_gd_of h
        obtain ⟨g9, h⟩ := jb_gd_of h
        refine jb_seg 18 (pc' := (if ((jb_up (jb_up q5.2 (24 + 9) q1.toNatClampNeg (zf_272 99 ((q5.2 (24 + 9) q1.toNatClampNeg) + q5.1))) 58 2 ((jb_up q5.2 (24 + 9) q1.toNatClampNeg (zf_272 99 ((q5.2 (24 + 9) q1.toNatClampNeg) + q5.1))) (24 + 9) q1.toNatClampNeg)) (24 + 9) q1.toNatClampNeg) < 99 then 143 else 155)) (ls' := [some (.ref 62), some (.int x1), some (.int q1), some (.int q5.1), none, none]) (st' := []) (σ' := (zE L, (jb_up (jb_up q5.2 (24 + 9) q1.toNatClampNeg (zf_272 99 ((q5.2 (24 + 9) q1.toNatClampNeg) + q5.1))) 58 2 ((jb_up q5.2 (24 + 9) q1.toNatClampNeg (zf_272 99 ((q5.2 (24 + 9) q1.toNatClampNeg) + q5.1))) (24 + 9) q1.toNatClampNeg)), N)) (G := [vp_in q1 16, vp_in q1 16, vp_in 2 10, vp_in q1 16]) rfl ⟨g7, g8, (show vp_in 2 10 from (by unfold vp_in; decide)), g9⟩ ?_
        refine jb_ite (fun c => ?_) (fun c => ?_)
        · replace h := (if_pos c).symm.trans h
          refine jb_seg 3 (pc' := 149) (ls' := [some (.ref 62), some (.int x1), some (.int q1), some (.int q5.1), none, none]) (st' := [(.int 120), (.ref 57)]) (σ' := (zE L, (jb_up (jb_up q5.2 (24 + 9) q1.toNatClampNeg (zf_272 99 ((q5.2 (24 + 9) q1.toNatClampNeg) + q5.1))) 58 2 ((jb_up q5.2 (24 + 9) q1.toNatClampNeg (zf_272 99 ((q5.2 (24 + 9) q1.toNatClampNeg) + q5.1))) (24 + 9) q1.toNatClampNeg)), N)) (G := []) rfl trivial ?_
          obtain ⟨q10, h10, h⟩ := jb_bd_of h
          refine jb_callV (q' := zq_67) (As := [(.int 120)]) (rest := []) (σ1 := (zE L, q10.2, N)) (v := some (.int q10.1)) rfl rfl zp_67 rfl (Nat.le_of_ble_eq_true rfl) (jb_cat rfl) (Nat.le_of_ble_eq_true rfl) (Nat.le_of_ble_eq_true rfl) (Or.inl rfl) rfl (ze_67 (by omega) 120 (jb_up (jb_up q5.2 (24 + 9) q1.toNatClampNeg (zf_272 99 ((q5.2 (24 + 9) q1.toNatClampNeg) + q5.1))) 58 2 ((jb_up q5.2 (24 + 9) q1.toNatClampNeg (zf_272 99 ((q5.2 (24 + 9) q1.toNatClampNeg) + q5.1))) (24 + 9) q1.toNatClampNeg)) N h10) ?_
          refine jb_seg 1 (pc' := (if q10.1 < 0 then 159 else 155)) (ls' := [some (.ref 62), some (.int x1), some (.int q1), some (.int q5.1), none, none]) (st' := []) (σ' := (zE L, q10.2, N)) (G := []) rfl trivial ?_
          refine jb_ite (fun c => ?_) (fun c => ?_)
          · replace h := (if_pos c).symm.trans h
            refine jb_seg 1 (pc' := 160) (ls' := [some (.ref 62), some (.int x1), some (.int q1), some (.int q5.1), none, none]) (st' := [(.int 0)]) (σ' := (zE L, q10.2, N)) (G := []) rfl trivial ?_
            exact jb_mask [true, true, false, false, false, false] rfl (zg_122_J160 hd 62 24 x1 0 q10.2 N (by decide) h hK)
          · replace h := (if_neg c).symm.trans h
            exact jb_mask [true, true, false, false, false, false] rfl (zg_122_J155 hd 62 24 x1 q10.2 N (by decide) h hK)
        · replace h := (if_neg c).symm.trans h
          exact jb_mask [true, true, false, false, false, false] rfl (zg_122_J155 hd 62 24 x1 (jb_up (jb_up q5.2 (24 + 9) q1.toNatClampNeg (zf_272 99 ((q5.2 (24 + 9) q1.toNatClampNeg) + q5.1))) 58 2 ((jb_up q5.2 (24 + 9) q1.toNatClampNeg (zf_272 99 ((q5.2 (24 + 9) q1.toNatClampNeg) + q5.1))) (24 + 9) q1.toNatClampNeg)) N (by decide) h hK)
      · replace h := (if_neg c).symm.trans h
        exact jb_mask [true, true, false, false, false, false] rfl (zg_122_J38 hd 62 24 x1 M N (by decide) h hK)
theorem ze_122 {Γ : jb_G} {L : Nat} {d : Nat} (hd : 4 ≤ d) (w : Nat) (o : Nat) (x1 : Int32) (M : jb_Mi) (N : jb_Ml) (hp : (w = 60 ∧ o = 4) ∨ (w = 62 ∧ o = 24)) {r : (jb_Mi)} (h : zf_122 w o x1 M = some r) : jb_V Γ d zq_122 0 (jb_en 6 [(.ref w), (.int x1)]) [] (zE L, M, N) (none) (zE L, r, N) := zg_122 hd w o x1 M N hp h ⟨rfl, rfl⟩
-- X11_rest
set_option maxRecDepth 20000 in
theorem zg_123 {Γ : jb_G} {L : Nat} {d : Nat} (hd : 4 ≤ d) (w : Nat) (o : Nat) (x1 : Int32) (M : jb_Mi) (N : jb_Ml) (hp : (w = 60 ∧ o = 4) ∨ (w = 62 ∧ o = 24)) {v : Option Value} {σ2 : jb_S} {r : (jb_Mi)} (h : zf_123 w o x1 M = some r) (hK : (fun r : jb_Mi => v = none ∧ σ2 = (zE L, r, N)) r) : jb_V Γ d zq_123 0 [some (.ref w), some (.int x1), none] [] (zE L, M, N) v σ2 := by
  rcases hp with ⟨rfl, rfl⟩ | ⟨rfl, rfl⟩
  · obtain ⟨d, rfl⟩ : ∃ e, d = e + 1 := ⟨d - 1, by omega⟩
    unfold zf_123 at h
    refine jb_seg 3 (pc' := 3) (ls' := [some (.ref 60), some (.int x1), none]) (st' := [(.int (-1)), (.int x1), (.ref 60)]) (σ' := (zE L, M, N)) (G := []) rfl trivial ?_
    obtain ⟨q1, h1, h⟩ := jb_bd_of h
    refine jb_callV (q' := zq_121) (As := [(.int x1), (.int (-1))]) (rest := []) (σ1 := (zE L, q1, N)) (v := none) rfl rfl zp_121 rfl (Nat.le_of_ble_eq_true rfl) (jb_cat rfl) (Nat.le_of_ble_eq_true rfl) (Nat.le_of_ble_eq_true rfl) (Or.inl rfl) rfl (ze_121 (by omega) 60 4 x1 (-1) M N (by decide) h1) ?_
    refine jb_seg 4 (pc' := 14) (ls' := [some (.ref 60), some (.int x1), none]) (st' := [(.int 99), (.int 121), (.ref 57)]) (σ' := (zE L, q1, N)) (G := []) rfl trivial ?_
    obtain ⟨q2, h2, h⟩ := jb_bd_of h
    refine jb_callV (q' := zq_68) (As := [(.int 121), (.int 99)]) (rest := []) (σ1 := (zE L, q2.2, N)) (v := some (.int q2.1)) rfl rfl zp_68 rfl (Nat.le_of_ble_eq_true rfl) (jb_cat rfl) (Nat.le_of_ble_eq_true rfl) (Nat.le_of_ble_eq_true rfl) (Or.inl rfl) rfl (ze_68 (by omega) 121 99 q1 N h2) ?_
    obtain ⟨g3, h⟩ := jb_gd_of h
    refine jb_seg 13 (pc' := 38) (ls' := [some (.ref 60), some (.int x1), some (.int q2.1)]) (st' := [(.int ((q2.2 (4 + 9) x1.toNatClampNeg) - q2.1)), (.int 0), (.int x1), (.ref (4 + 9))]) (σ' := (zE L, q2.2, N)) (G := [vp_in x1 16]) rfl g3 ?_
    refine jb_callS (q' := zq_271) (As := [(.int 0), (.int ((q2.2 (4 + 9) x1.toNatClampNeg) - q2.1))]) (rest := [(.int x1), (.ref (4 + 9))]) (σ1 := (zE L, q2.2, N)) (v := some (.int (zf_271 0 ((q2.2 (4 + 9) x1.toNatClampNeg) - q2.1)))) rfl (Nat.le_of_ble_eq_true rfl) rfl zp_271 (jb_cat rfl) (Nat.le_of_ble_eq_true rfl) (Nat.le_of_ble_eq_true rfl) (Or.inl rfl) rfl (ze_271 0 ((q2.2 (4 + 9) x1.toNatClampNeg) - q2.1) q2.2 N rfl) ?_
    obtain ⟨g4, h⟩ := jb_gd_of h
    refine jb_seg 1 (pc' := 42) (ls' := [some (.ref 60), some (.int x1), some (.int q2.1)]) (st' := []) (σ' := (zE L, (jb_up q2.2 (4 + 9) x1.toNatClampNeg (zf_271 0 ((q2.2 (4 + 9) x1.toNatClampNeg) - q2.1))), N)) (G := [vp_in x1 16]) rfl g4 ?_
    obtain rfl := Option.some.inj h
    obtain ⟨rfl, rfl⟩ := hK
    exact jb_retv rfl rfl
  · obtain ⟨d, rfl⟩ : ∃ e, d = e + 1 := ⟨d - 1, by omega⟩
    unfold zf_123 at h
    refine jb_seg 3 (pc' := 3) (ls' := [some (.ref 62), some (.int x1), none]) (st' := [(.int (-1)), (.int x1), (.ref 62)]) (σ' := (zE L, M, N)) (G := []) rfl trivial ?_
    obtain ⟨q1, h1, h⟩ := jb_bd_of h
    refine jb_callV (q' := zq_121) (As := [(.int x1), (.int (-1))]) (rest := []) (σ1 := (zE L, q1, N)) (v := none) rfl rfl zp_121 rfl (Nat.le_of_ble_eq_true rfl) (jb_cat rfl) (Nat.le_of_ble_eq_true rfl) (Nat.le_of_ble_eq_true rfl) (Or.inl rfl) rfl (ze_121 (by omega) 62 24 x1 (-1) M N (by decide) h1) ?_
    refine jb_seg 4 (pc' := 14) (ls' := [some (.ref 62), some (.int x1), none]) (st' := [(.int 99), (.int 121), (.ref 57)]) (σ' := (zE L, q1, N)) (G := []) rfl trivial ?_
    obtain ⟨q2, h2, h⟩ := jb_bd_of h
    refine jb_callV (q' := zq_68) (As := [(.int 121), (.int 99)]) (rest := []) (σ1 := (zE L, q2.2, N)) (v := some (.int q2.1)) rfl rfl zp_68 rfl (Nat.le_of_ble_eq_true rfl) (jb_cat rfl) (Nat.le_of_ble_eq_true rfl) (Nat.le_of_ble_eq_true rfl) (Or.inl rfl) rfl (ze_68 (by omega) 121 99 q1 N h2) ?_
    obtain ⟨g3, h⟩ := jb_gd_of h
    refine jb_seg 13 (pc' := 38) (ls' := [some (.ref 62), some (.int x1), some (.int q2.1)]) (st' := [(.int ((q2.2 (24 + 9) x1.toNatClampNeg) - q2.1)), (.int 0), (.int x1), (.ref (24 + 9))]) (σ' := (zE L, q2.2, N)) (G := [vp_in x1 16]) rfl g3 ?_
    refine jb_callS (q' := zq_271) (As := [(.int 0), (.int ((q2.2 (24 + 9) x1.toNatClampNeg) - q2.1))]) (rest := [(.int x1), (.ref (24 + 9))]) (σ1 := (zE L, q2.2, N)) (v := some (.int (zf_271 0 ((q2.2 (24 + 9) x1.toNatClampNeg) - q2.1)))) rfl (Nat.le_of_ble_eq_true rfl) rfl zp_271 (jb_cat rfl) (Nat.le_of_ble_eq_true rfl) (Nat.le_of_ble_eq_true rfl) (Or.inl rfl) rfl (ze_271 0 ((q2.2 (24 + 9) x1.toNatClampNeg) - q2.1) q2.2 N rfl) ?_
    obtain ⟨g4, h⟩ := jb_gd_of h
    refine jb_seg 1 (pc' := 42) (ls' := [some (.ref 62), some (.int x1), some (.int q2.1)]) (st' := []) (σ' := (zE L, (jb_up q2.2 (24 + 9) x1.toNatClampNeg (zf_271 0 ((q2.2 (24 + 9) x1.toNatClampNeg) - q2.1))), N)) (G := [vp_in x1 16]) rfl g4 ?_
    obtain rfl := Option.some.inj h
    obtain ⟨rfl, rfl⟩ := hK
    exact jb_retv rfl rfl
theorem ze_123 {Γ : jb_G} {L : Nat} {d : Nat} (hd : 4 ≤ d) (w : Nat) (o : Nat) (x1 : Int32) (M : jb_Mi) (N : jb_Ml) (hp : (w = 60 ∧ o = 4) ∨ (w = 62 ∧ o = 24)) {r : (jb_Mi)} (h : zf_123 w o x1 M = some r) : jb_V Γ d zq_123 0 (jb_en 3 [(.ref w), (.int x1)]) [] (zE L, M, N) (none) (zE L, r, N) := zg_123 hd w o x1 M N hp h ⟨rfl, rfl⟩
-- X11_pass
set_option maxRecDepth 20000 in
theorem zg_124_J42 {Γ : jb_G} {L : Nat} {d : Nat} (hd : 5 ≤ d) (w : Nat) (o : Nat) (x1 : Int32) (M : jb_Mi) (N : jb_Ml) (hp : (w = 60 ∧ o = 4) ∨ (w = 62 ∧ o = 24)) {v : Option Value} {σ2 : jb_S} {r : ((Int32 × jb_Mi) ⊕ (jb_Mi))} (h : zf_124_J42 w o x1 M = some r) (hK : (jb_K (fun s : Int32 × jb_Mi => jb_V Γ d zq_124 18 [some (.ref w), some (.int s.1)] [] (zE L, s.2, N) v σ2) (fun r : jb_Mi => v = none ∧ σ2 = (zE L, r, N))) r) : jb_V Γ d zq_124 42 [some (.ref w), some (.int x1)] [] (zE L, M, N) v σ2 := by
  rcases hp with ⟨rfl, rfl⟩ | ⟨rfl, rfl⟩
  · obtain ⟨d, rfl⟩ : ∃ e, d = e + 1 := ⟨d - 1, by omega⟩
    unfold zf_124_J42 at h
    refine jb_seg 2 (pc' := 18) (ls' := [some (.ref 60), some (.int (x1 + 1))]) (st' := []) (σ' := (zE L, M, N)) (G := []) rfl trivial ?_
    obtain rfl := Option.some.inj h
    exact jb_mask [true, true] rfl hK
  · obtain ⟨d, rfl⟩ : ∃ e, d = e + 1 := ⟨d - 1, by omega⟩
    unfold zf_124_J42 at h
    refine jb_seg 2 (pc' := 18) (ls' := [some (.ref 62), some (.int (x1 + 1))]) (st' := []) (σ' := (zE L, M, N)) (G := []) rfl trivial ?_
    obtain rfl := Option.some.inj h
    exact jb_mask [true, true] rfl hK
set_option maxRecDepth 20000 in
theorem zg_124_J83 {Γ : jb_G} {L : Nat} {d : Nat} (hd : 5 ≤ d) (w : Nat) (o : Nat) (x1 : Int32) (M : jb_Mi) (N : jb_Ml) (hp : (w = 60 ∧ o = 4) ∨ (w = 62 ∧ o = 24)) {v : Option Value} {σ2 : jb_S} {r : ((Int32 × jb_Mi) ⊕ (jb_Mi))} (h : zf_124_J83 w o x1 M = some r) (hK : (jb_K (fun s : Int32 × jb_Mi => jb_V Γ d zq_124 50 [some (.ref w), some (.int s.1)] [] (zE L, s.2, N) v σ2) (fun r : jb_Mi => v = none ∧ σ2 = (zE L, r, N))) r) : jb_V Γ d zq_124 83 [some (.ref w), some (.int x1)] [] (zE L, M, N) v σ2 := by
  rcases hp with ⟨rfl, rfl⟩ | ⟨rfl, rfl⟩
  · obtain ⟨d, rfl⟩ : ∃ e, d = e + 1 := ⟨d - 1, by omega⟩
    unfold zf_124_J83 at h
    refine jb_seg 2 (pc' := 50) (ls' := [some (.ref 60), some (.int (x1 + 1))]) (st' := []) (σ' := (zE L, M, N)) (G := []) rfl trivial ?_
    obtain rfl := Option.some.inj h
    exact jb_mask [true, true] rfl hK
  · obtain ⟨d, rfl⟩ : ∃ e, d = e + 1 := ⟨d - 1, by omega⟩
    unfold zf_124_J83 at h
    refine jb_seg 2 (pc' := 50) (ls' := [some (.ref 62), some (.int (x1 + 1))]) (st' := []) (σ' := (zE L, M, N)) (G := []) rfl trivial ?_
    obtain rfl := Option.some.inj h
    exact jb_mask [true, true] rfl hK
set_option maxRecDepth 20000 in
theorem zg_124_H50 {Γ : jb_G} {L : Nat} {d : Nat} (hd : 5 ≤ d) (w : Nat) (o : Nat) (N : jb_Ml) (s : Int32 × jb_Mi) (hp : (w = 60 ∧ o = 4) ∨ (w = 62 ∧ o = 24)) {v : Option Value} {σ2 : jb_S} {r : ((Int32 × jb_Mi) ⊕ (jb_Mi))} (h : zf_124_H50 w o s = some r) (hK : (jb_K (fun s : Int32 × jb_Mi => jb_V Γ d zq_124 50 [some (.ref w), some (.int s.1)] [] (zE L, s.2, N) v σ2) (fun r : jb_Mi => v = none ∧ σ2 = (zE L, r, N))) r) : jb_V Γ d zq_124 50 [some (.ref w), some (.int s.1)] [] (zE L, s.2, N) v σ2 := by
  rcases hp with ⟨rfl, rfl⟩ | ⟨rfl, rfl⟩
  · obtain ⟨d, rfl⟩ : ∃ e, d = e + 1 := ⟨d - 1, by omega⟩
    unfold zf_124_H50 at h
    refine jb_seg 3 (pc' := (if s.1 < 16 then 56 else 89)) (ls' := [some (.ref 60), some (.int s.1)]) (st' := []) (σ' := (zE L, s.2, N)) (G := []) rfl trivial ?_
    refine jb_ite (fun c => ?_) (fun c => ?_)
    · replace h := (if_pos c).symm.trans h
      refine jb_seg 3 (pc' := 61) (ls' := [some (.ref 60), some (.int s.1)]) (st' := [(.int s.1), (.ref 4)]) (σ' := (zE L, s.2, N)) (G := []) rfl trivial ?_
      obtain ⟨q3, h3, h⟩ := jb_bd_of h
      refine jb_callV (q' := zq_18) (As := [(.int s.1)]) (rest := []) (σ1 := (zE L, s.2, N)) (v := some (.int (jb_b2i q3))) rfl rfl zp_18 rfl (Nat.le_of_ble_eq_true rfl) (jb_cat rfl) (Nat.le_of_ble_eq_true rfl) (Nat.le_of_ble_eq_true rfl) (Or.inl rfl) rfl (ze_18 4 s.1 s.2 N (by decide) h3) ?_
      refine jb_seg 1 (pc' := (if (jb_b2i q3) = 0 then 83 else 67)) (ls' := [some (.ref 60), some (.int s.1)]) (st' := []) (σ' := (zE L, s.2, N)) (G := []) rfl trivial ?_
      refine jb_ite (fun c => ?_) (fun c => ?_)
      · replace h := (if_pos c).symm.trans h
        exact jb_mask [true, true] rfl (zg_124_J83 hd 60 4 s.1 s.2 N (by decide) h hK)
      · replace h := (if_neg c).symm.trans h
        refine jb_seg 7 (pc' := (if (((s.2 60 4) >>> (s.1 &&& 31)) &&& 1) = 0 then 78 else 83)) (ls' := [some (.ref 60), some (.int s.1)]) (st' := []) (σ' := (zE L, s.2, N)) (G := []) rfl trivial ?_
        refine jb_ite (fun c => ?_) (fun c => ?_)
        · replace h := (if_pos c).symm.trans h
          refine jb_seg 2 (pc' := 80) (ls' := [some (.ref 60), some (.int s.1)]) (st' := [(.int s.1), (.ref 60)]) (σ' := (zE L, s.2, N)) (G := []) rfl trivial ?_
          obtain ⟨q4, h4, h⟩ := jb_bd_of h
          refine jb_callV (q' := zq_123) (As := [(.int s.1)]) (rest := []) (σ1 := (zE L, q4, N)) (v := none) rfl rfl zp_123 rfl (Nat.le_of_ble_eq_true rfl) (jb_cat rfl) (Nat.le_of_ble_eq_true rfl) (Nat.le_of_ble_eq_true rfl) (Or.inl rfl) rfl (ze_123 (by omega) 60 4 s.1 s.2 N (by decide) h4) ?_
          exact jb_mask [true, true] rfl (zg_124_J83 hd 60 4 s.1 q4 N (by decide) h hK)
        · replace h := (if_neg c).symm.trans h
          exact jb_mask [true, true] rfl (zg_124_J83 hd 60 4 s.1 s.2 N (by decide) h hK)
    · replace h := (if_neg c).symm.trans h
      refine jb_seg 2 (pc' := 93) (ls' := [some (.ref 60), some (.int s.1)]) (st' := [(.ref 4)]) (σ' := (zE L, s.2, N)) (G := []) rfl trivial ?_
      refine jb_callV (q' := zq_111) (As := []) (rest := []) (σ1 := (zE L, (zf_111 4 s.2), N)) (v := none) rfl rfl zp_111 rfl (Nat.le_of_ble_eq_true rfl) (jb_cat rfl) (Nat.le_of_ble_eq_true rfl) (Nat.le_of_ble_eq_true rfl) (Or.inl rfl) rfl (ze_111 4 s.2 N (by decide) rfl) ?_
      obtain rfl := Option.some.inj h
      obtain ⟨rfl, rfl⟩ := hK
      exact jb_retv rfl rfl
  · obtain ⟨d, rfl⟩ : ∃ e, d = e + 1 := ⟨d - 1, by omega⟩
    unfold zf_124_H50 at h
    refine jb_seg 3 (pc' := (if s.1 < 16 then 56 else 89)) (ls' := [some (.ref 62), some (.int s.1)]) (st' := []) (σ' := (zE L, s.2, N)) (G := []) rfl trivial ?_
    refine jb_ite (fun c => ?_) (fun c => ?_)
    · replace h := (if_pos c).symm.trans h
      refine jb_seg 3 (pc' := 61) (ls' := [some (.ref 62), some (.int s.1)]) (st' := [(.int s.1), (.ref 24)]) (σ' := (zE L, s.2, N)) (G := []) rfl trivial ?_
      obtain ⟨q3, h3, h⟩ := jb_bd_of h
      refine jb_callV (q' := zq_18) (As := [(.int s.1)]) (rest := []) (σ1 := (zE L, s.2, N)) (v := some (.int (jb_b2i q3))) rfl rfl zp_18 rfl (Nat.le_of_ble_eq_true rfl) (jb_cat rfl) (Nat.le_of_ble_eq_true rfl) (Nat.le_of_ble_eq_true rfl) (Or.inl rfl) rfl (ze_18 24 s.1 s.2 N (by decide) h3) ?_
      refine jb_seg 1 (pc' := (if (jb_b2i q3) = 0 then 83 else 67)) (ls' := [some (.ref 62), some (.int s.1)]) (st' := []) (σ' := (zE L, s.2, N)) (G := []) rfl trivial ?_
      refine jb_ite (fun c => ?_) (fun c => ?_)
      · replace h := (if_pos c).symm.trans h
        exact jb_mask [true, true] rfl (zg_124_J83 hd 62 24 s.1 s.2 N (by decide) h hK)
      · replace h := (if_neg c).symm.trans h
        refine jb_seg 7 (pc' := (if (((s.2 62 4) >>> (s.1 &&& 31)) &&& 1) = 0 then 78 else 83)) (ls' := [some (.ref 62), some (.int s.1)]) (st' := []) (σ' := (zE L, s.2, N)) (G := []) rfl trivial ?_
        refine jb_ite (fun c => ?_) (fun c => ?_)
        · replace h := (if_pos c).symm.trans h
          refine jb_seg 2 (pc' := 80) (ls' := [some (.ref 62), some (.int s.1)]) (st' := [(.int s.1), (.ref 62)]) (σ' := (zE L, s.2, N)) (G := []) rfl trivial ?_
          obtain ⟨q4, h4, h⟩ := jb_bd_of h
          refine jb_callV (q' := zq_123) (As := [(.int s.1)]) (rest := []) (σ1 := (zE L, q4, N)) (v := none) rfl rfl zp_123 rfl (Nat.le_of_ble_eq_true rfl) (jb_cat rfl) (Nat.le_of_ble_eq_true rfl) (Nat.le_of_ble_eq_true rfl) (Or.inl rfl) rfl (ze_123 (by omega) 62 24 s.1 s.2 N (by decide) h4) ?_
          exact jb_mask [true, true] rfl (zg_124_J83 hd 62 24 s.1 q4 N (by decide) h hK)
        · replace h := (if_neg c).symm.trans h
          exact jb_mask [true, true] rfl (zg_124_J83 hd 62 24 s.1 s.2 N (by decide) h hK)
    · replace h := (if_neg c).symm.trans h
      refine jb_seg 2 (pc' := 93) (ls' := [some (.ref 62), some (.int s.1)]) (st' := [(.ref 24)]) (σ' := (zE L, s.2, N)) (G := []) rfl trivial ?_
      refine jb_callV (q' := zq_111) (As := []) (rest := []) (σ1 := (zE L, (zf_111 24 s.2), N)) (v := none) rfl rfl zp_111 rfl (Nat.le_of_ble_eq_true rfl) (jb_cat rfl) (Nat.le_of_ble_eq_true rfl) (Nat.le_of_ble_eq_true rfl) (Or.inl rfl) rfl (ze_111 24 s.2 N (by decide) rfl) ?_
      obtain rfl := Option.some.inj h
      obtain ⟨rfl, rfl⟩ := hK
      exact jb_retv rfl rfl
theorem zg_124_H50L {Γ : jb_G} {L : Nat} {d : Nat} (hd : 5 ≤ d) (w : Nat) (o : Nat) (N : jb_Ml) (hp : (w = 60 ∧ o = 4) ∨ (w = 62 ∧ o = 24)) {v : Option Value} {σ2 : jb_S} {s : Int32 × jb_Mi} {r : (jb_Mi)} (h : jb_lp (zf_124_H50 w o) s = some r) (hK : (fun r : jb_Mi => v = none ∧ σ2 = (zE L, r, N)) r) : jb_V Γ d zq_124 50 [some (.ref w), some (.int s.1)] [] (zE L, s.2, N) v σ2 := by
  exact @jb_lp_ind (Int32 × jb_Mi) ((jb_Mi)) (zf_124_H50 w o) (fun s => jb_V Γ d zq_124 50 [some (.ref w), some (.int s.1)] [] (zE L, s.2, N) v σ2) (fun r : jb_Mi => v = none ∧ σ2 = (zE L, r, N)) (fun s r h hk => zg_124_H50 hd w o N s hp h hk) s r h hK
set_option maxRecDepth 20000 in
theorem zg_124_H18 {Γ : jb_G} {L : Nat} {d : Nat} (hd : 5 ≤ d) (w : Nat) (o : Nat) (N : jb_Ml) (s : Int32 × jb_Mi) (hp : (w = 60 ∧ o = 4) ∨ (w = 62 ∧ o = 24)) {v : Option Value} {σ2 : jb_S} {r : ((Int32 × jb_Mi) ⊕ (jb_Mi))} (h : zf_124_H18 w o s = some r) (hK : (jb_K (fun s : Int32 × jb_Mi => jb_V Γ d zq_124 18 [some (.ref w), some (.int s.1)] [] (zE L, s.2, N) v σ2) (fun r : jb_Mi => v = none ∧ σ2 = (zE L, r, N))) r) : jb_V Γ d zq_124 18 [some (.ref w), some (.int s.1)] [] (zE L, s.2, N) v σ2 := by
  rcases hp with ⟨rfl, rfl⟩ | ⟨rfl, rfl⟩
  · obtain ⟨d, rfl⟩ : ∃ e, d = e + 1 := ⟨d - 1, by omega⟩
    unfold zf_124_H18 at h
    refine jb_seg 3 (pc' := (if s.1 < 24 then 24 else 48)) (ls' := [some (.ref 60), some (.int s.1)]) (st' := []) (σ' := (zE L, s.2, N)) (G := []) rfl trivial ?_
    refine jb_ite (fun c => ?_) (fun c => ?_)
    · replace h := (if_pos c).symm.trans h
      refine jb_seg 5 (pc' := 31) (ls' := [some (.ref 60), some (.int s.1)]) (st' := [(.int (s.1 / 4)), (.ref 4)]) (σ' := (zE L, s.2, N)) (G := [¬ (4 : Int32) = 0]) rfl (show ¬ (4 : Int32) = 0 from (by decide)) ?_
      obtain ⟨q1, h1, h⟩ := jb_bd_of h
      refine jb_callV (q' := zq_37) (As := [(.int (s.1 / 4))]) (rest := []) (σ1 := (zE L, s.2, N)) (v := some (.int (jb_b2i q1))) rfl rfl zp_37 rfl (Nat.le_of_ble_eq_true rfl) (jb_cat rfl) (Nat.le_of_ble_eq_true rfl) (Nat.le_of_ble_eq_true rfl) (Or.inl rfl) rfl (ze_37 4 (s.1 / 4) s.2 N (by decide) h1) ?_
      refine jb_seg 1 (pc' := (if (jb_b2i q1) = 0 then 42 else 37)) (ls' := [some (.ref 60), some (.int s.1)]) (st' := []) (σ' := (zE L, s.2, N)) (G := []) rfl trivial ?_
      refine jb_ite (fun c => ?_) (fun c => ?_)
      · replace h := (if_pos c).symm.trans h
        exact jb_mask [true, true] rfl (zg_124_J42 hd 60 4 s.1 s.2 N (by decide) h hK)
      · replace h := (if_neg c).symm.trans h
        refine jb_seg 2 (pc' := 39) (ls' := [some (.ref 60), some (.int s.1)]) (st' := [(.int s.1), (.ref 60)]) (σ' := (zE L, s.2, N)) (G := []) rfl trivial ?_
        obtain ⟨q2, h2, h⟩ := jb_bd_of h
        refine jb_callV (q' := zq_122) (As := [(.int s.1)]) (rest := []) (σ1 := (zE L, q2, N)) (v := none) rfl rfl zp_122 rfl (Nat.le_of_ble_eq_true rfl) (jb_cat rfl) (Nat.le_of_ble_eq_true rfl) (Nat.le_of_ble_eq_true rfl) (Or.inl rfl) rfl (ze_122 (by omega) 60 4 s.1 s.2 N (by decide) h2) ?_
        exact jb_mask [true, true] rfl (zg_124_J42 hd 60 4 s.1 q2 N (by decide) h hK)
    · replace h := (if_neg c).symm.trans h
      refine jb_seg 2 (pc' := 50) (ls' := [some (.ref 60), some (.int 0)]) (st' := []) (σ' := (zE L, s.2, N)) (G := []) rfl trivial ?_
      obtain ⟨y0, hy0, rfl⟩ := jb_mp_of h
      exact jb_mask [true, true] rfl (zg_124_H50L hd 60 4 N (by decide) hy0 hK)
  · obtain ⟨d, rfl⟩ : ∃ e, d = e + 1 := ⟨d - 1, by omega⟩
    unfold zf_124_H18 at h
    refine jb_seg 3 (pc' := (if s.1 < 24 then 24 else 48)) (ls' := [some (.ref 62), some (.int s.1)]) (st' := []) (σ' := (zE L, s.2, N)) (G := []) rfl trivial ?_
    refine jb_ite (fun c => ?_) (fun c => ?_)
    · replace h := (if_pos c).symm.trans h
      refine jb_seg 5 (pc' := 31) (ls' := [some (.ref 62), some (.int s.1)]) (st' := [(.int (s.1 / 4)), (.ref 24)]) (σ' := (zE L, s.2, N)) (G := [¬ (4 : Int32) = 0]) rfl (show ¬ (4 : Int32) = 0 from (by decide)) ?_
      obtain ⟨q1, h1, h⟩ := jb_bd_of h
      refine jb_callV (q' := zq_37) (As := [(.int (s.1 / 4))]) (rest := []) (σ1 := (zE L, s.2, N)) (v := some (.int (jb_b2i q1))) rfl rfl zp_37 rfl (Nat.le_of_ble_eq_true rfl) (jb_cat rfl) (Nat.le_of_ble_eq_true rfl) (Nat.le_of_ble_eq_true rfl) (Or.inl rfl) rfl (ze_37 24 (s.1 / 4) s.2 N (by decide) h1) ?_
      refine jb_seg 1 (pc' := (if (jb_b2i q1) = 0 then 42 else 37)) (ls' := [some (.ref 62), some (.int s.1)]) (st' := []) (σ' := (zE L, s.2, N)) (G := []) rfl trivial ?_
      refine jb_ite (fun c => ?_) (fun c => ?_)
      · replace h := (if_pos c).symm.trans h
        exact jb_mask [true, true] rfl (zg_124_J42 hd 62 24 s.1 s.2 N (by decide) h hK)
      · replace h := (if_neg c).symm.trans h
        refine jb_seg 2 (pc' := 39) (ls' := [some (.ref 62), some (.int s.1)]) (st' := [(.int s.1), (.ref 62)]) (σ' := (zE L, s.2, N)) (G := []) rfl trivial ?_
        obtain ⟨q2, h2, h⟩ := jb_bd_of h
        refine jb_callV (q' := zq_122) (As := [(.int s.1)]) (rest := []) (σ1 := (zE L, q2, N)) (v := none) rfl rfl zp_122 rfl (Nat.le_of_ble_eq_true rfl) (jb_cat rfl) (Nat.le_of_ble_eq_true rfl) (Nat.le_of_ble_eq_true rfl) (Or.inl rfl) rfl (ze_122 (by omega) 62 24 s.1 s.2 N (by decide) h2) ?_
        exact jb_mask [true, true] rfl (zg_124_J42 hd 62 24 s.1 q2 N (by decide) h hK)
    · replace h := (if_neg c).symm.trans h
      refine jb_seg 2 (pc' := 50) (ls' := [some (.ref 62), some (.int 0)]) (st' := []) (σ' := (zE L, s.2, N)) (G := []) rfl trivial ?_
      obtain ⟨y0, hy0, rfl⟩ := jb_mp_of h
      exact jb_mask [true, true] rfl (zg_124_H50L hd 62 24 N (by decide) hy0 hK)
theorem zg_124_H18L {Γ : jb_G} {L : Nat} {d : Nat} (hd : 5 ≤ d) (w : Nat) (o : Nat) (N : jb_Ml) (hp : (w = 60 ∧ o = 4) ∨ (w = 62 ∧ o = 24)) {v : Option Value} {σ2 : jb_S} {s : Int32 × jb_Mi} {r : (jb_Mi)} (h : jb_lp (zf_124_H18 w o) s = some r) (hK : (fun r : jb_Mi => v = none ∧ σ2 = (zE L, r, N)) r) : jb_V Γ d zq_124 18 [some (.ref w), some (.int s.1)] [] (zE L, s.2, N) v σ2 := by
  exact @jb_lp_ind (Int32 × jb_Mi) ((jb_Mi)) (zf_124_H18 w o) (fun s => jb_V Γ d zq_124 18 [some (.ref w), some (.int s.1)] [] (zE L, s.2, N) v σ2) (fun r : jb_Mi => v = none ∧ σ2 = (zE L, r, N)) (fun s r h hk => zg_124_H18 hd w o N s hp h hk) s r h hK
set_option maxRecDepth 20000 in
theorem zg_124 {Γ : jb_G} {L : Nat} {d : Nat} (hd : 5 ≤ d) (w : Nat) (o : Nat) (M : jb_Mi) (N : jb_Ml) (hp : (w = 60 ∧ o = 4) ∨ (w = 62 ∧ o = 24)) {v : Option Value} {σ2 : jb_S} {r : (jb_Mi)} (h : zf_124 w o M = some r) (hK : (fun r : jb_Mi => v = none ∧ σ2 = (zE L, r, N)) r) : jb_V Γ d zq_124 0 [some (.ref w), none] [] (zE L, M, N) v σ2 := by
  rcases hp with ⟨rfl, rfl⟩ | ⟨rfl, rfl⟩
  · obtain ⟨d, rfl⟩ : ∃ e, d = e + 1 := ⟨d - 1, by omega⟩
    unfold zf_124 at h
    refine jb_seg 2 (pc' := 4) (ls' := [some (.ref 60), none]) (st' := [(.ref 4)]) (σ' := (zE L, M, N)) (G := []) rfl trivial ?_
    refine jb_callV (q' := zq_110) (As := []) (rest := []) (σ1 := (zE L, M, N)) (v := some (.int (jb_b2i (zf_110 4 M)))) rfl rfl zp_110 rfl (Nat.le_of_ble_eq_true rfl) (jb_cat rfl) (Nat.le_of_ble_eq_true rfl) (Nat.le_of_ble_eq_true rfl) (Or.inl rfl) rfl (ze_110 4 M N (by decide) rfl) ?_
    refine jb_seg 1 (pc' := (if (jb_b2i (zf_110 4 M)) = 0 then 11 else 10)) (ls' := [some (.ref 60), none]) (st' := []) (σ' := (zE L, M, N)) (G := []) rfl trivial ?_
    refine jb_ite (fun c => ?_) (fun c => ?_)
    · replace h := (if_pos c).symm.trans h
      refine jb_seg 5 (pc' := 18) (ls' := [some (.ref 60), some (.int 0)]) (st' := []) (σ' := (zE L, (jb_up M 60 4 0), N)) (G := []) rfl trivial ?_
      exact jb_mask [true, true] rfl (zg_124_H18L hd 60 4 N (by decide) h hK)
    · replace h := (if_neg c).symm.trans h
      obtain rfl := Option.some.inj h
      obtain ⟨rfl, rfl⟩ := hK
      exact jb_retv rfl rfl
  · obtain ⟨d, rfl⟩ : ∃ e, d = e + 1 := ⟨d - 1, by omega⟩
    unfold zf_124 at h
    refine jb_seg 2 (pc' := 4) (ls' := [some (.ref 62), none]) (st' := [(.ref 24)]) (σ' := (zE L, M, N)) (G := []) rfl trivial ?_
    refine jb_callV (q' := zq_110) (As := []) (rest := []) (σ1 := (zE L, M, N)) (v := some (.int (jb_b2i (zf_110 24 M)))) rfl rfl zp_110 rfl (Nat.le_of_ble_eq_true rfl) (jb_cat rfl) (Nat.le_of_ble_eq_true rfl) (Nat.le_of_ble_eq_true rfl) (Or.inl rfl) rfl (ze_110 24 M N (by decide) rfl) ?_
    refine jb_seg 1 (pc' := (if (jb_b2i (zf_110 24 M)) = 0 then 11 else 10)) (ls' := [some (.ref 62), none]) (st' := []) (σ' := (zE L, M, N)) (G := []) rfl trivial ?_
    refine jb_ite (fun c => ?_) (fun c => ?_)
    · replace h := (if_pos c).symm.trans h
      refine jb_seg 5 (pc' := 18) (ls' := [some (.ref 62), some (.int 0)]) (st' := []) (σ' := (zE L, (jb_up M 62 4 0), N)) (G := []) rfl trivial ?_
      exact jb_mask [true, true] rfl (zg_124_H18L hd 62 24 N (by decide) h hK)
    · replace h := (if_neg c).symm.trans h
      obtain rfl := Option.some.inj h
      obtain ⟨rfl, rfl⟩ := hK
      exact jb_retv rfl rfl
theorem ze_124 {Γ : jb_G} {L : Nat} {d : Nat} (hd : 5 ≤ d) (w : Nat) (o : Nat) (M : jb_Mi) (N : jb_Ml) (hp : (w = 60 ∧ o = 4) ∨ (w = 62 ∧ o = 24)) {r : (jb_Mi)} (h : zf_124 w o M = some r) : jb_V Γ d zq_124 0 (jb_en 2 [(.ref w)]) [] (zE L, M, N) (none) (zE L, r, N) := zg_124 hd w o M N hp h ⟨rfl, rfl⟩
