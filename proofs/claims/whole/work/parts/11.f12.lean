-- X12_feltAnswer
noncomputable def zf_147 (x0 : Int32) (x1 : Int32) (x2 : Int32) : Int32 :=
  if x2 = 0 then x0 else if x1 < 0 then (-2) else if x2 = 1 then (x1 - x1 / 9 * 9) else (x1 / 9)
set_option maxRecDepth 4000 in
theorem zg_147 {Γ : jb_G} {L : Nat} {d : Nat} (x0 : Int32) (x1 : Int32) (x2 : Int32) (M : jb_Mi) (N : jb_Ml) {v : Option Value} {σ2 : jb_S} {r : Int32} (h : zf_147 x0 x1 x2 = r) (hK : (fun r : Int32 => v = some (.int r) ∧ σ2 = (zE L, M, N)) r) : jb_V Γ d zq_147 0 [some (.int x0), some (.int x1), some (.int x2)] [] (zE L, M, N) v σ2 := by
  unfold zf_147 at h
  refine jb_seg 2 (pc' := (if x2 = 0 then 4 else 6)) (ls' := [some (.int x0), some (.int x1), some (.int x2)]) (st' := []) (σ' := (zE L, M, N)) (G := []) rfl trivial ?_
  refine jb_ite (fun c => ?_) (fun c => ?_)
  · rw [if_pos c] at h
    refine jb_seg 1 (pc' := 5) (ls' := [some (.int x0), some (.int x1), some (.int x2)]) (st' := [(.int x0)]) (σ' := (zE L, M, N)) (G := []) rfl trivial ?_
    subst h
    obtain ⟨rfl, rfl⟩ := hK
    exact jb_reti rfl rfl
  · rw [if_neg c] at h
    refine jb_seg 2 (pc' := (if x1 < 0 then 10 else 13)) (ls' := [some (.int x0), some (.int x1), some (.int x2)]) (st' := []) (σ' := (zE L, M, N)) (G := []) rfl trivial ?_
    refine jb_ite (fun c => ?_) (fun c => ?_)
    · rw [if_pos c] at h
      refine jb_seg 1 (pc' := 12) (ls' := [some (.int x0), some (.int x1), some (.int x2)]) (st' := [(.int (-2))]) (σ' := (zE L, M, N)) (G := []) rfl trivial ?_
      subst h
      obtain ⟨rfl, rfl⟩ := hK
      exact jb_reti rfl rfl
    · rw [if_neg c] at h
      refine jb_seg 3 (pc' := (if x2 = 1 then 18 else 25)) (ls' := [some (.int x0), some (.int x1), some (.int x2)]) (st' := []) (σ' := (zE L, M, N)) (G := []) rfl trivial ?_
      refine jb_ite (fun c => ?_) (fun c => ?_)
      · rw [if_pos c] at h
        refine jb_seg 4 (pc' := 29) (ls' := [some (.int x0), some (.int x1), some (.int x2)]) (st' := [(.int (x1 - x1 / 9 * 9))]) (σ' := (zE L, M, N)) (G := [¬ (9 : Int32) = 0]) rfl (show ¬ (9 : Int32) = 0 from (by decide)) ?_
        subst h
        obtain ⟨rfl, rfl⟩ := hK
        exact jb_reti rfl rfl
      · rw [if_neg c] at h
        refine jb_seg 3 (pc' := 29) (ls' := [some (.int x0), some (.int x1), some (.int x2)]) (st' := [(.int (x1 / 9))]) (σ' := (zE L, M, N)) (G := [¬ (9 : Int32) = 0]) rfl (show ¬ (9 : Int32) = 0 from (by decide)) ?_
        subst h
        obtain ⟨rfl, rfl⟩ := hK
        exact jb_reti rfl rfl
theorem ze_147 {Γ : jb_G} {L : Nat} {d : Nat} (x0 : Int32) (x1 : Int32) (x2 : Int32) (M : jb_Mi) (N : jb_Ml) {r : Int32} (h : zf_147 x0 x1 x2 = r) : jb_V Γ d zq_147 0 (jb_en 3 [(.int x0), (.int x1), (.int x2)]) [] (zE L, M, N) (some (.int r)) (zE L, M, N) := zg_147 x0 x1 x2 M N h ⟨rfl, rfl⟩
-- X12_felt
noncomputable def zf_148_J86 (x3 : Int32) (x4 : Int32) (s0 : Int32) (M : jb_Mi) (N : jb_Ml) : Option (Int32 × jb_Mi × jb_Ml) :=
  some ((zf_147 s0 x4 x3), M, N)
noncomputable def zf_148 (x1 : Int32) (x2 : Int32) (x3 : Int32) (M : jb_Mi) (N : jb_Ml) : Option (Int32 × jb_Mi × jb_Ml) :=
  (zf_2 4 x1 M).bind fun q1 => if (jb_b2i q1) = 0 then some ((-1), M, N) else if (jb_b2i (zf_23 x2 1 99)) = 0 then some ((-1), M, N) else if (jb_b2i (zf_23 x3 0 2)) = 0 then some ((-1), M, N) else if (jb_b2i (zf_116 16 M)) = 0 then some ((-1), M, N) else (zf_32 x1 M N).bind fun q2 => (zf_33 x2 q2.2).bind fun q3 => if q3 < 0 then zf_148_J86 x3 q3 0 (zf_117 0 q2.1) q2.2 else zf_148_J86 x3 q3 1 (zf_117 0 q2.1) q2.2
set_option maxRecDepth 4000 in
theorem zg_148_J86 {Γ : jb_G} {L : Nat} {d : Nat} (hd : 5 ≤ d) (x3 : Int32) (x4 : Int32) (s0 : Int32) (M : jb_Mi) (N : jb_Ml) {v : Option Value} {σ2 : jb_S} {r : (Int32 × jb_Mi × jb_Ml)} (h : zf_148_J86 x3 x4 s0 M N = some r) (hK : (fun r : Int32 × jb_Mi × jb_Ml => v = some (.int r.1) ∧ σ2 = (zE L, r.2.1, r.2.2)) r) : jb_V Γ d zq_148 86 [none, none, none, some (.int x3), some (.int x4)] [(.int s0)] (zE L, M, N) v σ2 := by
  obtain ⟨d, rfl⟩ : ∃ e, d = e + 1 := ⟨d - 1, by omega⟩
  unfold zf_148_J86 at h
  refine jb_seg 2 (pc' := 89) (ls' := [none, none, none, some (.int x3), some (.int x4)]) (st' := [(.int x3), (.int x4), (.int s0)]) (σ' := (zE L, M, N)) (G := []) rfl trivial ?_
  refine jb_callS (q' := zq_147) (As := [(.int s0), (.int x4), (.int x3)]) (rest := []) (σ1 := (zE L, M, N)) (v := some (.int (zf_147 s0 x4 x3))) rfl (by decide) rfl zp_147 (jb_cat rfl) (Nat.le_of_ble_eq_true rfl) (Nat.le_of_ble_eq_true rfl) (Or.inl rfl) rfl (ze_147 s0 x4 x3 M N rfl) ?_
  cases h
  obtain ⟨rfl, rfl⟩ := hK
  exact jb_reti rfl rfl
set_option maxRecDepth 4000 in
theorem zg_148 {Γ : jb_G} {L : Nat} {d : Nat} (hd : 5 ≤ d) (x1 : Int32) (x2 : Int32) (x3 : Int32) (M : jb_Mi) (N : jb_Ml) {v : Option Value} {σ2 : jb_S} {r : (Int32 × jb_Mi × jb_Ml)} (h : zf_148 x1 x2 x3 M N = some r) (hK : (fun r : Int32 × jb_Mi × jb_Ml => v = some (.int r.1) ∧ σ2 = (zE L, r.2.1, r.2.2)) r) : jb_V Γ d zq_148 0 [some (.ref 1), some (.int x1), some (.int x2), some (.int x3), none] [] (zE L, M, N) v σ2 := by
  obtain ⟨d, rfl⟩ : ∃ e, d = e + 1 := ⟨d - 1, by omega⟩
  unfold zf_148 at h
  refine jb_seg 3 (pc' := 5) (ls' := [some (.ref 1), some (.int x1), some (.int x2), some (.int x3), none]) (st' := [(.int x1), (.ref 4)]) (σ' := (zE L, M, N)) (G := []) rfl trivial ?_
  obtain ⟨q1, h1, h⟩ := jb_bd_of h
  refine jb_callV (q' := zq_2) (As := [(.int x1)]) (rest := []) (σ1 := (zE L, M, N)) (v := some (.int (jb_b2i q1))) rfl rfl zp_2 rfl (by decide) (jb_cat rfl) (Nat.le_of_ble_eq_true rfl) (Nat.le_of_ble_eq_true rfl) (Or.inl rfl) rfl (ze_2 4 x1 M N (by decide) h1) ?_
  refine jb_seg 1 (pc' := (if (jb_b2i q1) = 0 then 21 else 11)) (ls' := [some (.ref 1), some (.int x1), some (.int x2), some (.int x3), none]) (st' := []) (σ' := (zE L, M, N)) (G := []) rfl trivial ?_
  refine jb_ite (fun c => ?_) (fun c => ?_)
  · rw [if_pos c] at h
    refine jb_seg 1 (pc' := 22) (ls' := [some (.ref 1), some (.int x1), some (.int x2), some (.int x3), none]) (st' := [(.int (-1))]) (σ' := (zE L, M, N)) (G := []) rfl trivial ?_
    cases h
    obtain ⟨rfl, rfl⟩ := hK
    exact jb_reti rfl rfl
  · rw [if_neg c] at h
    refine jb_seg 3 (pc' := 15) (ls' := [some (.ref 1), some (.int x1), some (.int x2), some (.int x3), none]) (st' := [(.int 99), (.int 1), (.int x2)]) (σ' := (zE L, M, N)) (G := []) rfl trivial ?_
    refine jb_callS (q' := zq_23) (As := [(.int x2), (.int 1), (.int 99)]) (rest := []) (σ1 := (zE L, M, N)) (v := some (.int (jb_b2i (zf_23 x2 1 99)))) rfl (by decide) rfl zp_23 (jb_cat rfl) (Nat.le_of_ble_eq_true rfl) (Nat.le_of_ble_eq_true rfl) (Or.inl rfl) rfl (ze_23 x2 1 99 M N rfl) ?_
    refine jb_seg 1 (pc' := (if (jb_b2i (zf_23 x2 1 99)) = 0 then 21 else 23)) (ls' := [some (.ref 1), some (.int x1), some (.int x2), some (.int x3), none]) (st' := []) (σ' := (zE L, M, N)) (G := []) rfl trivial ?_
    refine jb_ite (fun c => ?_) (fun c => ?_)
    · rw [if_pos c] at h
      refine jb_seg 1 (pc' := 22) (ls' := [some (.ref 1), some (.int x1), some (.int x2), some (.int x3), none]) (st' := [(.int (-1))]) (σ' := (zE L, M, N)) (G := []) rfl trivial ?_
      cases h
      obtain ⟨rfl, rfl⟩ := hK
      exact jb_reti rfl rfl
    · rw [if_neg c] at h
      refine jb_seg 3 (pc' := 26) (ls' := [some (.ref 1), some (.int x1), some (.int x2), some (.int x3), none]) (st' := [(.int 2), (.int 0), (.int x3)]) (σ' := (zE L, M, N)) (G := []) rfl trivial ?_
      refine jb_callS (q' := zq_23) (As := [(.int x3), (.int 0), (.int 2)]) (rest := []) (σ1 := (zE L, M, N)) (v := some (.int (jb_b2i (zf_23 x3 0 2)))) rfl (by decide) rfl zp_23 (jb_cat rfl) (Nat.le_of_ble_eq_true rfl) (Nat.le_of_ble_eq_true rfl) (Or.inl rfl) rfl (ze_23 x3 0 2 M N rfl) ?_
      refine jb_seg 1 (pc' := (if (jb_b2i (zf_23 x3 0 2)) = 0 then 44 else 32)) (ls' := [some (.ref 1), some (.int x1), some (.int x2), some (.int x3), none]) (st' := []) (σ' := (zE L, M, N)) (G := []) rfl trivial ?_
      refine jb_ite (fun c => ?_) (fun c => ?_)
      · rw [if_pos c] at h
        refine jb_seg 1 (pc' := 45) (ls' := [some (.ref 1), some (.int x1), some (.int x2), some (.int x3), none]) (st' := [(.int (-1))]) (σ' := (zE L, M, N)) (G := []) rfl trivial ?_
        cases h
        obtain ⟨rfl, rfl⟩ := hK
        exact jb_reti rfl rfl
      · rw [if_neg c] at h
        refine jb_seg 3 (pc' := 38) (ls' := [some (.ref 1), some (.int x1), some (.int x2), some (.int x3), none]) (st' := [(.int 16), (.ref 2)]) (σ' := (zE L, M, N)) (G := []) rfl trivial ?_
        refine jb_callV (q' := zq_116) (As := [(.int 16)]) (rest := []) (σ1 := (zE L, M, N)) (v := some (.int (jb_b2i (zf_116 16 M)))) rfl rfl zp_116 rfl (by decide) (jb_cat rfl) (Nat.le_of_ble_eq_true rfl) (Nat.le_of_ble_eq_true rfl) (Or.inl rfl) rfl (ze_116 16 M N rfl) ?_
        refine jb_seg 1 (pc' := (if (jb_b2i (zf_116 16 M)) = 0 then 44 else 46)) (ls' := [some (.ref 1), some (.int x1), some (.int x2), some (.int x3), none]) (st' := []) (σ' := (zE L, M, N)) (G := []) rfl trivial ?_
        refine jb_ite (fun c => ?_) (fun c => ?_)
        · rw [if_pos c] at h
          refine jb_seg 1 (pc' := 45) (ls' := [some (.ref 1), some (.int x1), some (.int x2), some (.int x3), none]) (st' := [(.int (-1))]) (σ' := (zE L, M, N)) (G := []) rfl trivial ?_
          cases h
          obtain ⟨rfl, rfl⟩ := hK
          exact jb_reti rfl rfl
        · rw [if_neg c] at h
          refine jb_seg 5 (pc' := 55) (ls' := [some (.ref 1), some (.int x1), some (.int x2), some (.int x3), none]) (st' := [(.ref 2), (.int x1), (.ref 64)]) (σ' := (zE L, M, N)) (G := []) rfl trivial ?_
          obtain ⟨q2, h2, h⟩ := jb_bd_of h
          refine jb_callV (q' := zq_32) (As := [(.int x1), (.ref 2)]) (rest := []) (σ1 := (zE L, q2.1, q2.2)) (v := none) rfl rfl zp_32 rfl (by decide) (jb_cat rfl) (Nat.le_of_ble_eq_true rfl) (Nat.le_of_ble_eq_true rfl) (Or.inl rfl) rfl (ze_32 (by omega) x1 M N h2) ?_
          refine jb_seg 3 (pc' := 63) (ls' := [some (.ref 1), some (.int x1), some (.int x2), some (.int x3), none]) (st' := [(.int 0), (.ref 2)]) (σ' := (zE L, q2.1, q2.2)) (G := []) rfl trivial ?_
          refine jb_callV (q' := zq_117) (As := [(.int 0)]) (rest := []) (σ1 := (zE L, (zf_117 0 q2.1), q2.2)) (v := none) rfl rfl zp_117 rfl (by decide) (jb_cat rfl) (Nat.le_of_ble_eq_true rfl) (Nat.le_of_ble_eq_true rfl) (Or.inl rfl) rfl (ze_117 (by omega) 0 q2.1 q2.2 rfl) ?_
          refine jb_seg 3 (pc' := 71) (ls' := [some (.ref 1), some (.int x1), some (.int x2), some (.int x3), none]) (st' := [(.int x2), (.ref 64)]) (σ' := (zE L, (zf_117 0 q2.1), q2.2)) (G := []) rfl trivial ?_
          obtain ⟨q3, h3, h⟩ := jb_bd_of h
          refine jb_callV (q' := zq_33) (As := [(.int x2)]) (rest := []) (σ1 := (zE L, (zf_117 0 q2.1), q2.2)) (v := some (.int q3)) rfl rfl zp_33 rfl (by decide) (jb_cat rfl) (Nat.le_of_ble_eq_true rfl) (Nat.le_of_ble_eq_true rfl) (Or.inl rfl) rfl (ze_33 (by omega) x2 (zf_117 0 q2.1) q2.2 h3) ?_
          refine jb_seg 3 (pc' := (if q3 < 0 then 81 else 85)) (ls' := [some (.ref 1), some (.int x1), some (.int x2), some (.int x3), some (.int q3)]) (st' := []) (σ' := (zE L, (zf_117 0 q2.1), q2.2)) (G := []) rfl trivial ?_
          refine jb_ite (fun c => ?_) (fun c => ?_)
          · rw [if_pos c] at h
            refine jb_seg 2 (pc' := 86) (ls' := [some (.ref 1), some (.int x1), some (.int x2), some (.int x3), some (.int q3)]) (st' := [(.int 0)]) (σ' := (zE L, (zf_117 0 q2.1), q2.2)) (G := []) rfl trivial ?_
            exact jb_mask [false, false, false, true, true] rfl (zg_148_J86 hd x3 q3 0 (zf_117 0 q2.1) q2.2 h hK)
          · rw [if_neg c] at h
            refine jb_seg 1 (pc' := 86) (ls' := [some (.ref 1), some (.int x1), some (.int x2), some (.int x3), some (.int q3)]) (st' := [(.int 1)]) (σ' := (zE L, (zf_117 0 q2.1), q2.2)) (G := []) rfl trivial ?_
            exact jb_mask [false, false, false, true, true] rfl (zg_148_J86 hd x3 q3 1 (zf_117 0 q2.1) q2.2 h hK)
theorem ze_148 {Γ : jb_G} {L : Nat} {d : Nat} (hd : 5 ≤ d) (x1 : Int32) (x2 : Int32) (x3 : Int32) (M : jb_Mi) (N : jb_Ml) {r : (Int32 × jb_Mi × jb_Ml)} (h : zf_148 x1 x2 x3 M N = some r) : jb_V Γ d zq_148 0 (jb_en 5 [(.ref 1), (.int x1), (.int x2), (.int x3)]) [] (zE L, M, N) (some (.int r.1)) (zE L, r.2.1, r.2.2) := zg_148 hd x1 x2 x3 M N h ⟨rfl, rfl⟩
-- X12_twoFelt
noncomputable def zf_149 (x1 : Int32) (x2 : Int32) (x3 : Int32) (x4 : Int32) (M : jb_Mi) (N : jb_Ml) : Option (Int32 × jb_Mi × jb_Ml) :=
  (zf_2 4 x1 M).bind fun q1 => if (jb_b2i q1) = 0 then some ((-1), M, N) else if (jb_b2i (zf_23 x2 1 99)) = 0 then some ((-1), M, N) else if (jb_b2i (zf_23 x3 1 99)) = 0 then some ((-1), M, N) else if (jb_b2i (zf_23 x4 0 2)) = 0 then some ((-1), M, N) else if (jb_b2i (zf_116 16 M)) = 0 then some ((-1), M, N) else (zf_32 x1 M N).bind fun q2 => (zf_35 x2 x3 (zf_117 0 q2.1) q2.2).bind fun q3 => some ((zf_147 q3.1 (q3.2.1 64 12) x4), q3.2.1, q3.2.2)
set_option maxRecDepth 4000 in
theorem zg_149 {Γ : jb_G} {L : Nat} {d : Nat} (hd : 5 ≤ d) (x1 : Int32) (x2 : Int32) (x3 : Int32) (x4 : Int32) (M : jb_Mi) (N : jb_Ml) {v : Option Value} {σ2 : jb_S} {r : (Int32 × jb_Mi × jb_Ml)} (h : zf_149 x1 x2 x3 x4 M N = some r) (hK : (fun r : Int32 × jb_Mi × jb_Ml => v = some (.int r.1) ∧ σ2 = (zE L, r.2.1, r.2.2)) r) : jb_V Γ d zq_149 0 [some (.ref 1), some (.int x1), some (.int x2), some (.int x3), some (.int x4), none] [] (zE L, M, N) v σ2 := by
  obtain ⟨d, rfl⟩ : ∃ e, d = e + 1 := ⟨d - 1, by omega⟩
  unfold zf_149 at h
  refine jb_seg 3 (pc' := 5) (ls' := [some (.ref 1), some (.int x1), some (.int x2), some (.int x3), some (.int x4), none]) (st' := [(.int x1), (.ref 4)]) (σ' := (zE L, M, N)) (G := []) rfl trivial ?_
  obtain ⟨q1, h1, h⟩ := jb_bd_of h
  refine jb_callV (q' := zq_2) (As := [(.int x1)]) (rest := []) (σ1 := (zE L, M, N)) (v := some (.int (jb_b2i q1))) rfl rfl zp_2 rfl (by decide) (jb_cat rfl) (Nat.le_of_ble_eq_true rfl) (Nat.le_of_ble_eq_true rfl) (Or.inl rfl) rfl (ze_2 4 x1 M N (by decide) h1) ?_
  refine jb_seg 1 (pc' := (if (jb_b2i q1) = 0 then 31 else 11)) (ls' := [some (.ref 1), some (.int x1), some (.int x2), some (.int x3), some (.int x4), none]) (st' := []) (σ' := (zE L, M, N)) (G := []) rfl trivial ?_
  refine jb_ite (fun c => ?_) (fun c => ?_)
  · rw [if_pos c] at h
    refine jb_seg 1 (pc' := 32) (ls' := [some (.ref 1), some (.int x1), some (.int x2), some (.int x3), some (.int x4), none]) (st' := [(.int (-1))]) (σ' := (zE L, M, N)) (G := []) rfl trivial ?_
    cases h
    obtain ⟨rfl, rfl⟩ := hK
    exact jb_reti rfl rfl
  · rw [if_neg c] at h
    refine jb_seg 3 (pc' := 15) (ls' := [some (.ref 1), some (.int x1), some (.int x2), some (.int x3), some (.int x4), none]) (st' := [(.int 99), (.int 1), (.int x2)]) (σ' := (zE L, M, N)) (G := []) rfl trivial ?_
    refine jb_callS (q' := zq_23) (As := [(.int x2), (.int 1), (.int 99)]) (rest := []) (σ1 := (zE L, M, N)) (v := some (.int (jb_b2i (zf_23 x2 1 99)))) rfl (by decide) rfl zp_23 (jb_cat rfl) (Nat.le_of_ble_eq_true rfl) (Nat.le_of_ble_eq_true rfl) (Or.inl rfl) rfl (ze_23 x2 1 99 M N rfl) ?_
    refine jb_seg 1 (pc' := (if (jb_b2i (zf_23 x2 1 99)) = 0 then 31 else 21)) (ls' := [some (.ref 1), some (.int x1), some (.int x2), some (.int x3), some (.int x4), none]) (st' := []) (σ' := (zE L, M, N)) (G := []) rfl trivial ?_
    refine jb_ite (fun c => ?_) (fun c => ?_)
    · rw [if_pos c] at h
      refine jb_seg 1 (pc' := 32) (ls' := [some (.ref 1), some (.int x1), some (.int x2), some (.int x3), some (.int x4), none]) (st' := [(.int (-1))]) (σ' := (zE L, M, N)) (G := []) rfl trivial ?_
      cases h
      obtain ⟨rfl, rfl⟩ := hK
      exact jb_reti rfl rfl
    · rw [if_neg c] at h
      refine jb_seg 3 (pc' := 25) (ls' := [some (.ref 1), some (.int x1), some (.int x2), some (.int x3), some (.int x4), none]) (st' := [(.int 99), (.int 1), (.int x3)]) (σ' := (zE L, M, N)) (G := []) rfl trivial ?_
      refine jb_callS (q' := zq_23) (As := [(.int x3), (.int 1), (.int 99)]) (rest := []) (σ1 := (zE L, M, N)) (v := some (.int (jb_b2i (zf_23 x3 1 99)))) rfl (by decide) rfl zp_23 (jb_cat rfl) (Nat.le_of_ble_eq_true rfl) (Nat.le_of_ble_eq_true rfl) (Or.inl rfl) rfl (ze_23 x3 1 99 M N rfl) ?_
      refine jb_seg 1 (pc' := (if (jb_b2i (zf_23 x3 1 99)) = 0 then 31 else 33)) (ls' := [some (.ref 1), some (.int x1), some (.int x2), some (.int x3), some (.int x4), none]) (st' := []) (σ' := (zE L, M, N)) (G := []) rfl trivial ?_
      refine jb_ite (fun c => ?_) (fun c => ?_)
      · rw [if_pos c] at h
        refine jb_seg 1 (pc' := 32) (ls' := [some (.ref 1), some (.int x1), some (.int x2), some (.int x3), some (.int x4), none]) (st' := [(.int (-1))]) (σ' := (zE L, M, N)) (G := []) rfl trivial ?_
        cases h
        obtain ⟨rfl, rfl⟩ := hK
        exact jb_reti rfl rfl
      · rw [if_neg c] at h
        refine jb_seg 3 (pc' := 37) (ls' := [some (.ref 1), some (.int x1), some (.int x2), some (.int x3), some (.int x4), none]) (st' := [(.int 2), (.int 0), (.int x4)]) (σ' := (zE L, M, N)) (G := []) rfl trivial ?_
        refine jb_callS (q' := zq_23) (As := [(.int x4), (.int 0), (.int 2)]) (rest := []) (σ1 := (zE L, M, N)) (v := some (.int (jb_b2i (zf_23 x4 0 2)))) rfl (by decide) rfl zp_23 (jb_cat rfl) (Nat.le_of_ble_eq_true rfl) (Nat.le_of_ble_eq_true rfl) (Or.inl rfl) rfl (ze_23 x4 0 2 M N rfl) ?_
        refine jb_seg 1 (pc' := (if (jb_b2i (zf_23 x4 0 2)) = 0 then 55 else 43)) (ls' := [some (.ref 1), some (.int x1), some (.int x2), some (.int x3), some (.int x4), none]) (st' := []) (σ' := (zE L, M, N)) (G := []) rfl trivial ?_
        refine jb_ite (fun c => ?_) (fun c => ?_)
        · rw [if_pos c] at h
          refine jb_seg 1 (pc' := 56) (ls' := [some (.ref 1), some (.int x1), some (.int x2), some (.int x3), some (.int x4), none]) (st' := [(.int (-1))]) (σ' := (zE L, M, N)) (G := []) rfl trivial ?_
          cases h
          obtain ⟨rfl, rfl⟩ := hK
          exact jb_reti rfl rfl
        · rw [if_neg c] at h
          refine jb_seg 3 (pc' := 49) (ls' := [some (.ref 1), some (.int x1), some (.int x2), some (.int x3), some (.int x4), none]) (st' := [(.int 16), (.ref 2)]) (σ' := (zE L, M, N)) (G := []) rfl trivial ?_
          refine jb_callV (q' := zq_116) (As := [(.int 16)]) (rest := []) (σ1 := (zE L, M, N)) (v := some (.int (jb_b2i (zf_116 16 M)))) rfl rfl zp_116 rfl (by decide) (jb_cat rfl) (Nat.le_of_ble_eq_true rfl) (Nat.le_of_ble_eq_true rfl) (Or.inl rfl) rfl (ze_116 16 M N rfl) ?_
          refine jb_seg 1 (pc' := (if (jb_b2i (zf_116 16 M)) = 0 then 55 else 57)) (ls' := [some (.ref 1), some (.int x1), some (.int x2), some (.int x3), some (.int x4), none]) (st' := []) (σ' := (zE L, M, N)) (G := []) rfl trivial ?_
          refine jb_ite (fun c => ?_) (fun c => ?_)
          · rw [if_pos c] at h
            refine jb_seg 1 (pc' := 56) (ls' := [some (.ref 1), some (.int x1), some (.int x2), some (.int x3), some (.int x4), none]) (st' := [(.int (-1))]) (σ' := (zE L, M, N)) (G := []) rfl trivial ?_
            cases h
            obtain ⟨rfl, rfl⟩ := hK
            exact jb_reti rfl rfl
          · rw [if_neg c] at h
            refine jb_seg 5 (pc' := 66) (ls' := [some (.ref 1), some (.int x1), some (.int x2), some (.int x3), some (.int x4), none]) (st' := [(.ref 2), (.int x1), (.ref 64)]) (σ' := (zE L, M, N)) (G := []) rfl trivial ?_
            obtain ⟨q2, h2, h⟩ := jb_bd_of h
            refine jb_callV (q' := zq_32) (As := [(.int x1), (.ref 2)]) (rest := []) (σ1 := (zE L, q2.1, q2.2)) (v := none) rfl rfl zp_32 rfl (by decide) (jb_cat rfl) (Nat.le_of_ble_eq_true rfl) (Nat.le_of_ble_eq_true rfl) (Or.inl rfl) rfl (ze_32 (by omega) x1 M N h2) ?_
            refine jb_seg 3 (pc' := 74) (ls' := [some (.ref 1), some (.int x1), some (.int x2), some (.int x3), some (.int x4), none]) (st' := [(.int 0), (.ref 2)]) (σ' := (zE L, q2.1, q2.2)) (G := []) rfl trivial ?_
            refine jb_callV (q' := zq_117) (As := [(.int 0)]) (rest := []) (σ1 := (zE L, (zf_117 0 q2.1), q2.2)) (v := none) rfl rfl zp_117 rfl (by decide) (jb_cat rfl) (Nat.le_of_ble_eq_true rfl) (Nat.le_of_ble_eq_true rfl) (Or.inl rfl) rfl (ze_117 (by omega) 0 q2.1 q2.2 rfl) ?_
            refine jb_seg 4 (pc' := 83) (ls' := [some (.ref 1), some (.int x1), some (.int x2), some (.int x3), some (.int x4), none]) (st' := [(.int x3), (.int x2), (.ref 64)]) (σ' := (zE L, (zf_117 0 q2.1), q2.2)) (G := []) rfl trivial ?_
            obtain ⟨q3, h3, h⟩ := jb_bd_of h
            refine jb_callV (q' := zq_35) (As := [(.int x2), (.int x3)]) (rest := []) (σ1 := (zE L, q3.2.1, q3.2.2)) (v := some (.int q3.1)) rfl rfl zp_35 rfl (by decide) (jb_cat rfl) (Nat.le_of_ble_eq_true rfl) (Nat.le_of_ble_eq_true rfl) (Or.inl rfl) rfl (ze_35 (by omega) x2 x3 (zf_117 0 q2.1) q2.2 h3) ?_
            refine jb_seg 6 (pc' := 99) (ls' := [some (.ref 1), some (.int x1), some (.int x2), some (.int x3), some (.int x4), some (.int q3.1)]) (st' := [(.int x4), (.int (q3.2.1 64 12)), (.int q3.1)]) (σ' := (zE L, q3.2.1, q3.2.2)) (G := []) rfl trivial ?_
            refine jb_callS (q' := zq_147) (As := [(.int q3.1), (.int (q3.2.1 64 12)), (.int x4)]) (rest := []) (σ1 := (zE L, q3.2.1, q3.2.2)) (v := some (.int (zf_147 q3.1 (q3.2.1 64 12) x4))) rfl (by decide) rfl zp_147 (jb_cat rfl) (Nat.le_of_ble_eq_true rfl) (Nat.le_of_ble_eq_true rfl) (Or.inl rfl) rfl (ze_147 q3.1 (q3.2.1 64 12) x4 q3.2.1 q3.2.2 rfl) ?_
            cases h
            obtain ⟨rfl, rfl⟩ := hK
            exact jb_reti rfl rfl
theorem ze_149 {Γ : jb_G} {L : Nat} {d : Nat} (hd : 5 ≤ d) (x1 : Int32) (x2 : Int32) (x3 : Int32) (x4 : Int32) (M : jb_Mi) (N : jb_Ml) {r : (Int32 × jb_Mi × jb_Ml)} (h : zf_149 x1 x2 x3 x4 M N = some r) : jb_V Γ d zq_149 0 (jb_en 6 [(.ref 1), (.int x1), (.int x2), (.int x3), (.int x4)]) [] (zE L, M, N) (some (.int r.1)) (zE L, r.2.1, r.2.2) := zg_149 hd x1 x2 x3 x4 M N h ⟨rfl, rfl⟩
-- X12_knocked
noncomputable def zf_150 (x1 : Int32) (x2 : Int32) (M : jb_Mi) : Option (Int32) :=
  (zf_37 4 x1 M).bind fun q1 => if (jb_b2i q1) = 0 then some (-1) else (zf_50 x1 x2 M).bind fun q2 => some q2
set_option maxRecDepth 4000 in
theorem zg_150 {Γ : jb_G} {L : Nat} {d : Nat} (hd : 3 ≤ d) (x1 : Int32) (x2 : Int32) (M : jb_Mi) (N : jb_Ml) {v : Option Value} {σ2 : jb_S} {r : (Int32)} (h : zf_150 x1 x2 M = some r) (hK : (fun r : Int32 => v = some (.int r) ∧ σ2 = (zE L, M, N)) r) : jb_V Γ d zq_150 0 [some (.ref 1), some (.int x1), some (.int x2)] [] (zE L, M, N) v σ2 := by
  obtain ⟨d, rfl⟩ : ∃ e, d = e + 1 := ⟨d - 1, by omega⟩
  unfold zf_150 at h
  refine jb_seg 3 (pc' := 5) (ls' := [some (.ref 1), some (.int x1), some (.int x2)]) (st' := [(.int x1), (.ref 4)]) (σ' := (zE L, M, N)) (G := []) rfl trivial ?_
  obtain ⟨q1, h1, h⟩ := jb_bd_of h
  refine jb_callV (q' := zq_37) (As := [(.int x1)]) (rest := []) (σ1 := (zE L, M, N)) (v := some (.int (jb_b2i q1))) rfl rfl zp_37 rfl (by decide) (jb_cat rfl) (Nat.le_of_ble_eq_true rfl) (Nat.le_of_ble_eq_true rfl) (Or.inl rfl) rfl (ze_37 4 x1 M N (by decide) h1) ?_
  refine jb_seg 1 (pc' := (if (jb_b2i q1) = 0 then 23 else 11)) (ls' := [some (.ref 1), some (.int x1), some (.int x2)]) (st' := []) (σ' := (zE L, M, N)) (G := []) rfl trivial ?_
  refine jb_ite (fun c => ?_) (fun c => ?_)
  · rw [if_pos c] at h
    refine jb_seg 1 (pc' := 24) (ls' := [some (.ref 1), some (.int x1), some (.int x2)]) (st' := [(.int (-1))]) (σ' := (zE L, M, N)) (G := []) rfl trivial ?_
    cases h
    obtain ⟨rfl, rfl⟩ := hK
    exact jb_reti rfl rfl
  · rw [if_neg c] at h
    refine jb_seg 4 (pc' := 17) (ls' := [some (.ref 1), some (.int x1), some (.int x2)]) (st' := [(.int x2), (.int x1), (.ref 70)]) (σ' := (zE L, M, N)) (G := []) rfl trivial ?_
    obtain ⟨q2, h2, h⟩ := jb_bd_of h
    refine jb_callV (q' := zq_50) (As := [(.int x1), (.int x2)]) (rest := []) (σ1 := (zE L, M, N)) (v := some (.int q2)) rfl rfl zp_50 rfl (by decide) (jb_cat rfl) (Nat.le_of_ble_eq_true rfl) (Nat.le_of_ble_eq_true rfl) (Or.inl rfl) rfl (ze_50 (by omega) x1 x2 M N h2) ?_
    refine jb_seg 1 (pc' := 24) (ls' := [some (.ref 1), some (.int x1), some (.int x2)]) (st' := [(.int q2)]) (σ' := (zE L, M, N)) (G := []) rfl trivial ?_
    cases h
    obtain ⟨rfl, rfl⟩ := hK
    exact jb_reti rfl rfl
theorem ze_150 {Γ : jb_G} {L : Nat} {d : Nat} (hd : 3 ≤ d) (x1 : Int32) (x2 : Int32) (M : jb_Mi) (N : jb_Ml) {r : (Int32)} (h : zf_150 x1 x2 M = some r) : jb_V Γ d zq_150 0 (jb_en 3 [(.ref 1), (.int x1), (.int x2)]) [] (zE L, M, N) (some (.int r)) (zE L, M, N) := zg_150 hd x1 x2 M N h ⟨rfl, rfl⟩
-- X12_fewest
noncomputable def zf_151 (x1 : Int32) (M : jb_Mi) : Option (Int32 × jb_Mi) :=
  if (jb_b2i (zf_23 x1 0 1)) = 0 then some ((-1), M) else (zf_54 M).bind fun q1 => if x1 = 1 then some (q1.1, q1.2) else some ((zf_26 q1.1), q1.2)
set_option maxRecDepth 4000 in
theorem zg_151 {Γ : jb_G} {L : Nat} {d : Nat} (hd : 4 ≤ d) (x1 : Int32) (M : jb_Mi) (N : jb_Ml) {v : Option Value} {σ2 : jb_S} {r : (Int32 × jb_Mi)} (h : zf_151 x1 M = some r) (hK : (fun r : Int32 × jb_Mi => v = some (.int r.1) ∧ σ2 = (zE L, r.2, N)) r) : jb_V Γ d zq_151 0 [some (.ref 1), some (.int x1), none] [] (zE L, M, N) v σ2 := by
  obtain ⟨d, rfl⟩ : ∃ e, d = e + 1 := ⟨d - 1, by omega⟩
  unfold zf_151 at h
  refine jb_seg 3 (pc' := 3) (ls' := [some (.ref 1), some (.int x1), none]) (st' := [(.int 1), (.int 0), (.int x1)]) (σ' := (zE L, M, N)) (G := []) rfl trivial ?_
  refine jb_callS (q' := zq_23) (As := [(.int x1), (.int 0), (.int 1)]) (rest := []) (σ1 := (zE L, M, N)) (v := some (.int (jb_b2i (zf_23 x1 0 1)))) rfl (by decide) rfl zp_23 (jb_cat rfl) (Nat.le_of_ble_eq_true rfl) (Nat.le_of_ble_eq_true rfl) (Or.inl rfl) rfl (ze_23 x1 0 1 M N rfl) ?_
  refine jb_seg 1 (pc' := (if (jb_b2i (zf_23 x1 0 1)) = 0 then 9 else 11)) (ls' := [some (.ref 1), some (.int x1), none]) (st' := []) (σ' := (zE L, M, N)) (G := []) rfl trivial ?_
  refine jb_ite (fun c => ?_) (fun c => ?_)
  · rw [if_pos c] at h
    refine jb_seg 1 (pc' := 10) (ls' := [some (.ref 1), some (.int x1), none]) (st' := [(.int (-1))]) (σ' := (zE L, M, N)) (G := []) rfl trivial ?_
    cases h
    obtain ⟨rfl, rfl⟩ := hK
    exact jb_reti rfl rfl
  · rw [if_neg c] at h
    refine jb_seg 2 (pc' := 15) (ls' := [some (.ref 1), some (.int x1), none]) (st' := [(.ref 70)]) (σ' := (zE L, M, N)) (G := []) rfl trivial ?_
    obtain ⟨q1, h1, h⟩ := jb_bd_of h
    refine jb_callV (q' := zq_54) (As := []) (rest := []) (σ1 := (zE L, q1.2, N)) (v := some (.int q1.1)) rfl rfl zp_54 rfl (by decide) (jb_cat rfl) (Nat.le_of_ble_eq_true rfl) (Nat.le_of_ble_eq_true rfl) (Or.inl rfl) rfl (ze_54 (by omega) M N h1) ?_
    refine jb_seg 4 (pc' := (if x1 = 1 then 24 else 28)) (ls' := [some (.ref 1), some (.int x1), some (.int q1.1)]) (st' := []) (σ' := (zE L, q1.2, N)) (G := []) rfl trivial ?_
    refine jb_ite (fun c => ?_) (fun c => ?_)
    · rw [if_pos c] at h
      refine jb_seg 2 (pc' := 32) (ls' := [some (.ref 1), some (.int x1), some (.int q1.1)]) (st' := [(.int q1.1)]) (σ' := (zE L, q1.2, N)) (G := []) rfl trivial ?_
      cases h
      obtain ⟨rfl, rfl⟩ := hK
      exact jb_reti rfl rfl
    · rw [if_neg c] at h
      refine jb_seg 1 (pc' := 29) (ls' := [some (.ref 1), some (.int x1), some (.int q1.1)]) (st' := [(.int q1.1)]) (σ' := (zE L, q1.2, N)) (G := []) rfl trivial ?_
      refine jb_callS (q' := zq_26) (As := [(.int q1.1)]) (rest := []) (σ1 := (zE L, q1.2, N)) (v := some (.int (zf_26 q1.1))) rfl (by decide) rfl zp_26 (jb_cat rfl) (Nat.le_of_ble_eq_true rfl) (Nat.le_of_ble_eq_true rfl) (Or.inl rfl) rfl (ze_26 q1.1 q1.2 N rfl) ?_
      cases h
      obtain ⟨rfl, rfl⟩ := hK
      exact jb_reti rfl rfl
theorem ze_151 {Γ : jb_G} {L : Nat} {d : Nat} (hd : 4 ≤ d) (x1 : Int32) (M : jb_Mi) (N : jb_Ml) {r : (Int32 × jb_Mi)} (h : zf_151 x1 M = some r) : jb_V Γ d zq_151 0 (jb_en 3 [(.ref 1), (.int x1)]) [] (zE L, M, N) (some (.int r.1)) (zE L, r.2, N) := zg_151 hd x1 M N h ⟨rfl, rfl⟩
-- X12_strike
noncomputable def zf_152 (x1 : Int32) (x2 : Int32) (M : jb_Mi) : Option (Int32 × jb_Mi) :=
  if (jb_b2i (zf_23 x1 1 3)) = 0 then some ((-1), M) else if (jb_b2i (zf_23 x2 0 1)) = 0 then some ((-1), M) else (zf_103 4 M).bind fun q1 => if (zf_26 q1) < x1 then some ((-2), M) else (zf_47 x1 M).bind fun q2 => if x2 = 0 then some ((q2 41 3), q2) else some ((q2 41 4), q2)
set_option maxRecDepth 4000 in
theorem zg_152 {Γ : jb_G} {L : Nat} {d : Nat} (hd : 5 ≤ d) (x1 : Int32) (x2 : Int32) (M : jb_Mi) (N : jb_Ml) {v : Option Value} {σ2 : jb_S} {r : (Int32 × jb_Mi)} (h : zf_152 x1 x2 M = some r) (hK : (fun r : Int32 × jb_Mi => v = some (.int r.1) ∧ σ2 = (zE L, r.2, N)) r) : jb_V Γ d zq_152 0 [some (.ref 1), some (.int x1), some (.int x2)] [] (zE L, M, N) v σ2 := by
  obtain ⟨d, rfl⟩ : ∃ e, d = e + 1 := ⟨d - 1, by omega⟩
  unfold zf_152 at h
  refine jb_seg 3 (pc' := 3) (ls' := [some (.ref 1), some (.int x1), some (.int x2)]) (st' := [(.int 3), (.int 1), (.int x1)]) (σ' := (zE L, M, N)) (G := []) rfl trivial ?_
  refine jb_callS (q' := zq_23) (As := [(.int x1), (.int 1), (.int 3)]) (rest := []) (σ1 := (zE L, M, N)) (v := some (.int (jb_b2i (zf_23 x1 1 3)))) rfl (by decide) rfl zp_23 (jb_cat rfl) (Nat.le_of_ble_eq_true rfl) (Nat.le_of_ble_eq_true rfl) (Or.inl rfl) rfl (ze_23 x1 1 3 M N rfl) ?_
  refine jb_seg 1 (pc' := (if (jb_b2i (zf_23 x1 1 3)) = 0 then 18 else 9)) (ls' := [some (.ref 1), some (.int x1), some (.int x2)]) (st' := []) (σ' := (zE L, M, N)) (G := []) rfl trivial ?_
  refine jb_ite (fun c => ?_) (fun c => ?_)
  · rw [if_pos c] at h
    refine jb_seg 1 (pc' := 19) (ls' := [some (.ref 1), some (.int x1), some (.int x2)]) (st' := [(.int (-1))]) (σ' := (zE L, M, N)) (G := []) rfl trivial ?_
    cases h
    obtain ⟨rfl, rfl⟩ := hK
    exact jb_reti rfl rfl
  · rw [if_neg c] at h
    refine jb_seg 3 (pc' := 12) (ls' := [some (.ref 1), some (.int x1), some (.int x2)]) (st' := [(.int 1), (.int 0), (.int x2)]) (σ' := (zE L, M, N)) (G := []) rfl trivial ?_
    refine jb_callS (q' := zq_23) (As := [(.int x2), (.int 0), (.int 1)]) (rest := []) (σ1 := (zE L, M, N)) (v := some (.int (jb_b2i (zf_23 x2 0 1)))) rfl (by decide) rfl zp_23 (jb_cat rfl) (Nat.le_of_ble_eq_true rfl) (Nat.le_of_ble_eq_true rfl) (Or.inl rfl) rfl (ze_23 x2 0 1 M N rfl) ?_
    refine jb_seg 1 (pc' := (if (jb_b2i (zf_23 x2 0 1)) = 0 then 18 else 20)) (ls' := [some (.ref 1), some (.int x1), some (.int x2)]) (st' := []) (σ' := (zE L, M, N)) (G := []) rfl trivial ?_
    refine jb_ite (fun c => ?_) (fun c => ?_)
    · rw [if_pos c] at h
      refine jb_seg 1 (pc' := 19) (ls' := [some (.ref 1), some (.int x1), some (.int x2)]) (st' := [(.int (-1))]) (σ' := (zE L, M, N)) (G := []) rfl trivial ?_
      cases h
      obtain ⟨rfl, rfl⟩ := hK
      exact jb_reti rfl rfl
    · rw [if_neg c] at h
      refine jb_seg 2 (pc' := 24) (ls' := [some (.ref 1), some (.int x1), some (.int x2)]) (st' := [(.ref 4)]) (σ' := (zE L, M, N)) (G := []) rfl trivial ?_
      obtain ⟨q1, h1, h⟩ := jb_bd_of h
      refine jb_callV (q' := zq_103) (As := []) (rest := []) (σ1 := (zE L, M, N)) (v := some (.int q1)) rfl rfl zp_103 rfl (by decide) (jb_cat rfl) (Nat.le_of_ble_eq_true rfl) (Nat.le_of_ble_eq_true rfl) (Or.inl rfl) rfl (ze_103 (by omega) 4 M N (by decide) h1) ?_
      refine jb_callS (q' := zq_26) (As := [(.int q1)]) (rest := []) (σ1 := (zE L, M, N)) (v := some (.int (zf_26 q1))) rfl (by decide) rfl zp_26 (jb_cat rfl) (Nat.le_of_ble_eq_true rfl) (Nat.le_of_ble_eq_true rfl) (Or.inl rfl) rfl (ze_26 q1 M N rfl) ?_
      refine jb_seg 2 (pc' := (if (zf_26 q1) < x1 then 34 else 37)) (ls' := [some (.ref 1), some (.int x1), some (.int x2)]) (st' := []) (σ' := (zE L, M, N)) (G := []) rfl trivial ?_
      refine jb_ite (fun c => ?_) (fun c => ?_)
      · rw [if_pos c] at h
        refine jb_seg 1 (pc' := 36) (ls' := [some (.ref 1), some (.int x1), some (.int x2)]) (st' := [(.int (-2))]) (σ' := (zE L, M, N)) (G := []) rfl trivial ?_
        cases h
        obtain ⟨rfl, rfl⟩ := hK
        exact jb_reti rfl rfl
      · rw [if_neg c] at h
        refine jb_seg 3 (pc' := 42) (ls' := [some (.ref 1), some (.int x1), some (.int x2)]) (st' := [(.int x1), (.ref 41)]) (σ' := (zE L, M, N)) (G := []) rfl trivial ?_
        obtain ⟨q2, h2, h⟩ := jb_bd_of h
        refine jb_callV (q' := zq_47) (As := [(.int x1)]) (rest := []) (σ1 := (zE L, q2, N)) (v := none) rfl rfl zp_47 rfl (by decide) (jb_cat rfl) (Nat.le_of_ble_eq_true rfl) (Nat.le_of_ble_eq_true rfl) (Or.inl rfl) rfl (ze_47 (by omega) x1 M N h2) ?_
        refine jb_seg 2 (pc' := (if x2 = 0 then 49 else 59)) (ls' := [some (.ref 1), some (.int x1), some (.int x2)]) (st' := []) (σ' := (zE L, q2, N)) (G := []) rfl trivial ?_
        refine jb_ite (fun c => ?_) (fun c => ?_)
        · rw [if_pos c] at h
          refine jb_seg 4 (pc' := 66) (ls' := [some (.ref 1), some (.int x1), some (.int x2)]) (st' := [(.int (q2 41 3))]) (σ' := (zE L, q2, N)) (G := []) rfl trivial ?_
          cases h
          obtain ⟨rfl, rfl⟩ := hK
          exact jb_reti rfl rfl
        · rw [if_neg c] at h
          refine jb_seg 3 (pc' := 66) (ls' := [some (.ref 1), some (.int x1), some (.int x2)]) (st' := [(.int (q2 41 4))]) (σ' := (zE L, q2, N)) (G := []) rfl trivial ?_
          cases h
          obtain ⟨rfl, rfl⟩ := hK
          exact jb_reti rfl rfl
theorem ze_152 {Γ : jb_G} {L : Nat} {d : Nat} (hd : 5 ≤ d) (x1 : Int32) (x2 : Int32) (M : jb_Mi) (N : jb_Ml) {r : (Int32 × jb_Mi)} (h : zf_152 x1 x2 M = some r) : jb_V Γ d zq_152 0 (jb_en 3 [(.ref 1), (.int x1), (.int x2)]) [] (zE L, M, N) (some (.int r.1)) (zE L, r.2, N) := zg_152 hd x1 x2 M N h ⟨rfl, rfl⟩
-- X12_bricks
noncomputable def zf_153 (x1 : Int32) (x2 : Int32) (M : jb_Mi) (N : jb_Ml) : Option (Int64 × jb_Mi × jb_Ml) :=
  if (jb_b2i (zf_23 x1 1 16)) = 0 then some ((-1), M, N) else if (jb_b2i (zf_23 x2 1 6)) = 0 then some ((-1), M, N) else (zf_58 x1 x2 M N).bind fun q1 => some (q1.1, q1.2.1, q1.2.2)
set_option maxRecDepth 4000 in
theorem zg_153 {Γ : jb_G} {L : Nat} {d : Nat} (hd : 23 ≤ d) (x1 : Int32) (x2 : Int32) (M : jb_Mi) (N : jb_Ml) {v : Option Value} {σ2 : jb_S} {r : (Int64 × jb_Mi × jb_Ml)} (h : zf_153 x1 x2 M N = some r) (hK : (fun r : Int64 × jb_Mi × jb_Ml => v = some (.long r.1) ∧ σ2 = (zE L, r.2.1, r.2.2)) r) : jb_V Γ d zq_153 0 [some (.ref 1), some (.int x1), some (.int x2)] [] (zE L, M, N) v σ2 := by
  obtain ⟨d, rfl⟩ : ∃ e, d = e + 1 := ⟨d - 1, by omega⟩
  unfold zf_153 at h
  refine jb_seg 3 (pc' := 4) (ls' := [some (.ref 1), some (.int x1), some (.int x2)]) (st' := [(.int 16), (.int 1), (.int x1)]) (σ' := (zE L, M, N)) (G := []) rfl trivial ?_
  refine jb_callS (q' := zq_23) (As := [(.int x1), (.int 1), (.int 16)]) (rest := []) (σ1 := (zE L, M, N)) (v := some (.int (jb_b2i (zf_23 x1 1 16)))) rfl (by decide) rfl zp_23 (jb_cat rfl) (Nat.le_of_ble_eq_true rfl) (Nat.le_of_ble_eq_true rfl) (Or.inl rfl) rfl (ze_23 x1 1 16 M N rfl) ?_
  refine jb_seg 1 (pc' := (if (jb_b2i (zf_23 x1 1 16)) = 0 then 20 else 10)) (ls' := [some (.ref 1), some (.int x1), some (.int x2)]) (st' := []) (σ' := (zE L, M, N)) (G := []) rfl trivial ?_
  refine jb_ite (fun c => ?_) (fun c => ?_)
  · rw [if_pos c] at h
    refine jb_seg 1 (pc' := 23) (ls' := [some (.ref 1), some (.int x1), some (.int x2)]) (st' := [(.long (-1))]) (σ' := (zE L, M, N)) (G := []) rfl trivial ?_
    cases h
    obtain ⟨rfl, rfl⟩ := hK
    exact jb_retl rfl rfl
  · rw [if_neg c] at h
    refine jb_seg 3 (pc' := 14) (ls' := [some (.ref 1), some (.int x1), some (.int x2)]) (st' := [(.int 6), (.int 1), (.int x2)]) (σ' := (zE L, M, N)) (G := []) rfl trivial ?_
    refine jb_callS (q' := zq_23) (As := [(.int x2), (.int 1), (.int 6)]) (rest := []) (σ1 := (zE L, M, N)) (v := some (.int (jb_b2i (zf_23 x2 1 6)))) rfl (by decide) rfl zp_23 (jb_cat rfl) (Nat.le_of_ble_eq_true rfl) (Nat.le_of_ble_eq_true rfl) (Or.inl rfl) rfl (ze_23 x2 1 6 M N rfl) ?_
    refine jb_seg 1 (pc' := (if (jb_b2i (zf_23 x2 1 6)) = 0 then 20 else 24)) (ls' := [some (.ref 1), some (.int x1), some (.int x2)]) (st' := []) (σ' := (zE L, M, N)) (G := []) rfl trivial ?_
    refine jb_ite (fun c => ?_) (fun c => ?_)
    · rw [if_pos c] at h
      refine jb_seg 1 (pc' := 23) (ls' := [some (.ref 1), some (.int x1), some (.int x2)]) (st' := [(.long (-1))]) (σ' := (zE L, M, N)) (G := []) rfl trivial ?_
      cases h
      obtain ⟨rfl, rfl⟩ := hK
      exact jb_retl rfl rfl
    · rw [if_neg c] at h
      refine jb_seg 4 (pc' := 30) (ls' := [some (.ref 1), some (.int x1), some (.int x2)]) (st' := [(.int x2), (.int x1), (.ref 73)]) (σ' := (zE L, M, N)) (G := []) rfl trivial ?_
      obtain ⟨q1, h1, h⟩ := jb_bd_of h
      refine jb_callV (q' := zq_58) (As := [(.int x1), (.int x2)]) (rest := []) (σ1 := (zE L, q1.2.1, q1.2.2)) (v := some (.long q1.1)) rfl rfl zp_58 rfl (by decide) (jb_cat rfl) (Nat.le_of_ble_eq_true rfl) (Nat.le_of_ble_eq_true rfl) (Or.inl rfl) rfl (ze_58 (by omega) x1 x2 M N h1) ?_
      cases h
      obtain ⟨rfl, rfl⟩ := hK
      exact jb_retl rfl rfl
theorem ze_153 {Γ : jb_G} {L : Nat} {d : Nat} (hd : 23 ≤ d) (x1 : Int32) (x2 : Int32) (M : jb_Mi) (N : jb_Ml) {r : (Int64 × jb_Mi × jb_Ml)} (h : zf_153 x1 x2 M N = some r) : jb_V Γ d zq_153 0 (jb_en 3 [(.ref 1), (.int x1), (.int x2)]) [] (zE L, M, N) (some (.long r.1)) (zE L, r.2.1, r.2.2) := zg_153 hd x1 x2 M N h ⟨rfl, rfl⟩
-- X12_bread
noncomputable def zf_154 (x1 : Int32) (M : jb_Mi) : Option (Int32 × jb_Mi) :=
  if (jb_b2i (zf_23 x1 1 12)) = 0 then some ((-1), M) else if (jb_b2i (zf_116 x1 M)) = 0 then some ((-1), M) else (zf_59 (zf_117 x1 M)).bind fun q1 => some (q1, (zf_117 0 (zf_117 x1 M)))
set_option maxRecDepth 4000 in
theorem zg_154 {Γ : jb_G} {L : Nat} {d : Nat} (hd : 2 ≤ d) (x1 : Int32) (M : jb_Mi) (N : jb_Ml) {v : Option Value} {σ2 : jb_S} {r : (Int32 × jb_Mi)} (h : zf_154 x1 M = some r) (hK : (fun r : Int32 × jb_Mi => v = some (.int r.1) ∧ σ2 = (zE L, r.2, N)) r) : jb_V Γ d zq_154 0 [some (.ref 1), some (.int x1), none] [] (zE L, M, N) v σ2 := by
  obtain ⟨d, rfl⟩ : ∃ e, d = e + 1 := ⟨d - 1, by omega⟩
  unfold zf_154 at h
  refine jb_seg 3 (pc' := 4) (ls' := [some (.ref 1), some (.int x1), none]) (st' := [(.int 12), (.int 1), (.int x1)]) (σ' := (zE L, M, N)) (G := []) rfl trivial ?_
  refine jb_callS (q' := zq_23) (As := [(.int x1), (.int 1), (.int 12)]) (rest := []) (σ1 := (zE L, M, N)) (v := some (.int (jb_b2i (zf_23 x1 1 12)))) rfl (by decide) rfl zp_23 (jb_cat rfl) (Nat.le_of_ble_eq_true rfl) (Nat.le_of_ble_eq_true rfl) (Or.inl rfl) rfl (ze_23 x1 1 12 M N rfl) ?_
  refine jb_seg 1 (pc' := (if (jb_b2i (zf_23 x1 1 12)) = 0 then 21 else 10)) (ls' := [some (.ref 1), some (.int x1), none]) (st' := []) (σ' := (zE L, M, N)) (G := []) rfl trivial ?_
  refine jb_ite (fun c => ?_) (fun c => ?_)
  · rw [if_pos c] at h
    refine jb_seg 1 (pc' := 22) (ls' := [some (.ref 1), some (.int x1), none]) (st' := [(.int (-1))]) (σ' := (zE L, M, N)) (G := []) rfl trivial ?_
    cases h
    obtain ⟨rfl, rfl⟩ := hK
    exact jb_reti rfl rfl
  · rw [if_neg c] at h
    refine jb_seg 3 (pc' := 15) (ls' := [some (.ref 1), some (.int x1), none]) (st' := [(.int x1), (.ref 2)]) (σ' := (zE L, M, N)) (G := []) rfl trivial ?_
    refine jb_callV (q' := zq_116) (As := [(.int x1)]) (rest := []) (σ1 := (zE L, M, N)) (v := some (.int (jb_b2i (zf_116 x1 M)))) rfl rfl zp_116 rfl (by decide) (jb_cat rfl) (Nat.le_of_ble_eq_true rfl) (Nat.le_of_ble_eq_true rfl) (Or.inl rfl) rfl (ze_116 x1 M N rfl) ?_
    refine jb_seg 1 (pc' := (if (jb_b2i (zf_116 x1 M)) = 0 then 21 else 23)) (ls' := [some (.ref 1), some (.int x1), none]) (st' := []) (σ' := (zE L, M, N)) (G := []) rfl trivial ?_
    refine jb_ite (fun c => ?_) (fun c => ?_)
    · rw [if_pos c] at h
      refine jb_seg 1 (pc' := 22) (ls' := [some (.ref 1), some (.int x1), none]) (st' := [(.int (-1))]) (σ' := (zE L, M, N)) (G := []) rfl trivial ?_
      cases h
      obtain ⟨rfl, rfl⟩ := hK
      exact jb_reti rfl rfl
    · rw [if_neg c] at h
      refine jb_seg 3 (pc' := 28) (ls' := [some (.ref 1), some (.int x1), none]) (st' := [(.int x1), (.ref 2)]) (σ' := (zE L, M, N)) (G := []) rfl trivial ?_
      refine jb_callV (q' := zq_117) (As := [(.int x1)]) (rest := []) (σ1 := (zE L, (zf_117 x1 M), N)) (v := none) rfl rfl zp_117 rfl (by decide) (jb_cat rfl) (Nat.le_of_ble_eq_true rfl) (Nat.le_of_ble_eq_true rfl) (Or.inl rfl) rfl (ze_117 (by omega) x1 M N rfl) ?_
      refine jb_seg 4 (pc' := 39) (ls' := [some (.ref 1), some (.int x1), none]) (st' := [(.ref 2), (.ref 73)]) (σ' := (zE L, (zf_117 x1 M), N)) (G := []) rfl trivial ?_
      obtain ⟨q1, h1, h⟩ := jb_bd_of h
      refine jb_callV (q' := zq_59) (As := [(.ref 2)]) (rest := []) (σ1 := (zE L, (zf_117 x1 M), N)) (v := some (.int q1)) rfl rfl zp_59 rfl (by decide) (jb_cat rfl) (Nat.le_of_ble_eq_true rfl) (Nat.le_of_ble_eq_true rfl) (Or.inl rfl) rfl (ze_59 (by omega) (zf_117 x1 M) N h1) ?_
      refine jb_seg 4 (pc' := 48) (ls' := [some (.ref 1), some (.int x1), some (.int q1)]) (st' := [(.int 0), (.ref 2)]) (σ' := (zE L, (zf_117 x1 M), N)) (G := []) rfl trivial ?_
      refine jb_callV (q' := zq_117) (As := [(.int 0)]) (rest := []) (σ1 := (zE L, (zf_117 0 (zf_117 x1 M)), N)) (v := none) rfl rfl zp_117 rfl (by decide) (jb_cat rfl) (Nat.le_of_ble_eq_true rfl) (Nat.le_of_ble_eq_true rfl) (Or.inl rfl) rfl (ze_117 (by omega) 0 (zf_117 x1 M) N rfl) ?_
      refine jb_seg 1 (pc' := 52) (ls' := [some (.ref 1), some (.int x1), some (.int q1)]) (st' := [(.int q1)]) (σ' := (zE L, (zf_117 0 (zf_117 x1 M)), N)) (G := []) rfl trivial ?_
      cases h
      obtain ⟨rfl, rfl⟩ := hK
      exact jb_reti rfl rfl
theorem ze_154 {Γ : jb_G} {L : Nat} {d : Nat} (hd : 2 ≤ d) (x1 : Int32) (M : jb_Mi) (N : jb_Ml) {r : (Int32 × jb_Mi)} (h : zf_154 x1 M = some r) : jb_V Γ d zq_154 0 (jb_en 3 [(.ref 1), (.int x1)]) [] (zE L, M, N) (some (.int r.1)) (zE L, r.2, N) := zg_154 hd x1 M N h ⟨rfl, rfl⟩
-- X12_beams
noncomputable def zf_155 (x1 : Int32) (M : jb_Mi) : Option (Int32 × jb_Mi) :=
  if (jb_b2i (zf_23 x1 1 8)) = 0 then some ((-1), M) else if (jb_b2i (zf_116 x1 M)) = 0 then some ((-1), M) else (zf_61 (zf_117 x1 M)).bind fun q1 => some (q1.1, (zf_117 0 q1.2))
set_option maxRecDepth 4000 in
theorem zg_155 {Γ : jb_G} {L : Nat} {d : Nat} (hd : 2 ≤ d) (x1 : Int32) (M : jb_Mi) (N : jb_Ml) {v : Option Value} {σ2 : jb_S} {r : (Int32 × jb_Mi)} (h : zf_155 x1 M = some r) (hK : (fun r : Int32 × jb_Mi => v = some (.int r.1) ∧ σ2 = (zE L, r.2, N)) r) : jb_V Γ d zq_155 0 [some (.ref 1), some (.int x1), none] [] (zE L, M, N) v σ2 := by
  obtain ⟨d, rfl⟩ : ∃ e, d = e + 1 := ⟨d - 1, by omega⟩
  unfold zf_155 at h
  refine jb_seg 3 (pc' := 4) (ls' := [some (.ref 1), some (.int x1), none]) (st' := [(.int 8), (.int 1), (.int x1)]) (σ' := (zE L, M, N)) (G := []) rfl trivial ?_
  refine jb_callS (q' := zq_23) (As := [(.int x1), (.int 1), (.int 8)]) (rest := []) (σ1 := (zE L, M, N)) (v := some (.int (jb_b2i (zf_23 x1 1 8)))) rfl (by decide) rfl zp_23 (jb_cat rfl) (Nat.le_of_ble_eq_true rfl) (Nat.le_of_ble_eq_true rfl) (Or.inl rfl) rfl (ze_23 x1 1 8 M N rfl) ?_
  refine jb_seg 1 (pc' := (if (jb_b2i (zf_23 x1 1 8)) = 0 then 21 else 10)) (ls' := [some (.ref 1), some (.int x1), none]) (st' := []) (σ' := (zE L, M, N)) (G := []) rfl trivial ?_
  refine jb_ite (fun c => ?_) (fun c => ?_)
  · rw [if_pos c] at h
    refine jb_seg 1 (pc' := 22) (ls' := [some (.ref 1), some (.int x1), none]) (st' := [(.int (-1))]) (σ' := (zE L, M, N)) (G := []) rfl trivial ?_
    cases h
    obtain ⟨rfl, rfl⟩ := hK
    exact jb_reti rfl rfl
  · rw [if_neg c] at h
    refine jb_seg 3 (pc' := 15) (ls' := [some (.ref 1), some (.int x1), none]) (st' := [(.int x1), (.ref 2)]) (σ' := (zE L, M, N)) (G := []) rfl trivial ?_
    refine jb_callV (q' := zq_116) (As := [(.int x1)]) (rest := []) (σ1 := (zE L, M, N)) (v := some (.int (jb_b2i (zf_116 x1 M)))) rfl rfl zp_116 rfl (by decide) (jb_cat rfl) (Nat.le_of_ble_eq_true rfl) (Nat.le_of_ble_eq_true rfl) (Or.inl rfl) rfl (ze_116 x1 M N rfl) ?_
    refine jb_seg 1 (pc' := (if (jb_b2i (zf_116 x1 M)) = 0 then 21 else 23)) (ls' := [some (.ref 1), some (.int x1), none]) (st' := []) (σ' := (zE L, M, N)) (G := []) rfl trivial ?_
    refine jb_ite (fun c => ?_) (fun c => ?_)
    · rw [if_pos c] at h
      refine jb_seg 1 (pc' := 22) (ls' := [some (.ref 1), some (.int x1), none]) (st' := [(.int (-1))]) (σ' := (zE L, M, N)) (G := []) rfl trivial ?_
      cases h
      obtain ⟨rfl, rfl⟩ := hK
      exact jb_reti rfl rfl
    · rw [if_neg c] at h
      refine jb_seg 3 (pc' := 28) (ls' := [some (.ref 1), some (.int x1), none]) (st' := [(.int x1), (.ref 2)]) (σ' := (zE L, M, N)) (G := []) rfl trivial ?_
      refine jb_callV (q' := zq_117) (As := [(.int x1)]) (rest := []) (σ1 := (zE L, (zf_117 x1 M), N)) (v := none) rfl rfl zp_117 rfl (by decide) (jb_cat rfl) (Nat.le_of_ble_eq_true rfl) (Nat.le_of_ble_eq_true rfl) (Or.inl rfl) rfl (ze_117 (by omega) x1 M N rfl) ?_
      refine jb_seg 4 (pc' := 39) (ls' := [some (.ref 1), some (.int x1), none]) (st' := [(.ref 2), (.ref 73)]) (σ' := (zE L, (zf_117 x1 M), N)) (G := []) rfl trivial ?_
      obtain ⟨q1, h1, h⟩ := jb_bd_of h
      refine jb_callV (q' := zq_61) (As := [(.ref 2)]) (rest := []) (σ1 := (zE L, q1.2, N)) (v := some (.int q1.1)) rfl rfl zp_61 rfl (by decide) (jb_cat rfl) (Nat.le_of_ble_eq_true rfl) (Nat.le_of_ble_eq_true rfl) (Or.inl rfl) rfl (ze_61 (by omega) (zf_117 x1 M) N h1) ?_
      refine jb_seg 4 (pc' := 48) (ls' := [some (.ref 1), some (.int x1), some (.int q1.1)]) (st' := [(.int 0), (.ref 2)]) (σ' := (zE L, q1.2, N)) (G := []) rfl trivial ?_
      refine jb_callV (q' := zq_117) (As := [(.int 0)]) (rest := []) (σ1 := (zE L, (zf_117 0 q1.2), N)) (v := none) rfl rfl zp_117 rfl (by decide) (jb_cat rfl) (Nat.le_of_ble_eq_true rfl) (Nat.le_of_ble_eq_true rfl) (Or.inl rfl) rfl (ze_117 (by omega) 0 q1.2 N rfl) ?_
      refine jb_seg 1 (pc' := 52) (ls' := [some (.ref 1), some (.int x1), some (.int q1.1)]) (st' := [(.int q1.1)]) (σ' := (zE L, (zf_117 0 q1.2), N)) (G := []) rfl trivial ?_
      cases h
      obtain ⟨rfl, rfl⟩ := hK
      exact jb_reti rfl rfl
theorem ze_155 {Γ : jb_G} {L : Nat} {d : Nat} (hd : 2 ≤ d) (x1 : Int32) (M : jb_Mi) (N : jb_Ml) {r : (Int32 × jb_Mi)} (h : zf_155 x1 M = some r) : jb_V Γ d zq_155 0 (jb_en 3 [(.ref 1), (.int x1)]) [] (zE L, M, N) (some (.int r.1)) (zE L, r.2, N) := zg_155 hd x1 M N h ⟨rfl, rfl⟩
-- X12_relieved
noncomputable def zf_156 (x1 : Int32) (x2 : Int32) (x3 : Int32) (M : jb_Mi) : Option (Int32) :=
  (zf_2 4 x1 M).bind fun q1 => if (jb_b2i q1) = 0 then some (-1) else if (jb_b2i (zf_23 x2 0 3)) = 0 then some (-1) else if x3 = 0 then (zf_42 ((x1 * 4) + x2) M).bind fun q2 => some q2 else if x3 = 1 then (zf_43 ((x1 * 4) + x2) M).bind fun q3 => some q3 else if x3 = 2 then (zf_44 ((x1 * 4) + x2) M).bind fun q4 => some q4 else if x3 = 3 then (zf_15 ((x1 * 4) + x2) M).bind fun q5 => some q5 else some (-1)
set_option maxRecDepth 4000 in
theorem zg_156 {Γ : jb_G} {L : Nat} {d : Nat} (hd : 4 ≤ d) (x1 : Int32) (x2 : Int32) (x3 : Int32) (M : jb_Mi) (N : jb_Ml) {v : Option Value} {σ2 : jb_S} {r : (Int32)} (h : zf_156 x1 x2 x3 M = some r) (hK : (fun r : Int32 => v = some (.int r) ∧ σ2 = (zE L, M, N)) r) : jb_V Γ d zq_156 0 [some (.ref 1), some (.int x1), some (.int x2), some (.int x3), none] [] (zE L, M, N) v σ2 := by
  obtain ⟨d, rfl⟩ : ∃ e, d = e + 1 := ⟨d - 1, by omega⟩
  unfold zf_156 at h
  refine jb_seg 3 (pc' := 5) (ls' := [some (.ref 1), some (.int x1), some (.int x2), some (.int x3), none]) (st' := [(.int x1), (.ref 4)]) (σ' := (zE L, M, N)) (G := []) rfl trivial ?_
  obtain ⟨q1, h1, h⟩ := jb_bd_of h
  refine jb_callV (q' := zq_2) (As := [(.int x1)]) (rest := []) (σ1 := (zE L, M, N)) (v := some (.int (jb_b2i q1))) rfl rfl zp_2 rfl (by decide) (jb_cat rfl) (Nat.le_of_ble_eq_true rfl) (Nat.le_of_ble_eq_true rfl) (Or.inl rfl) rfl (ze_2 4 x1 M N (by decide) h1) ?_
  refine jb_seg 1 (pc' := (if (jb_b2i q1) = 0 then 20 else 11)) (ls' := [some (.ref 1), some (.int x1), some (.int x2), some (.int x3), none]) (st' := []) (σ' := (zE L, M, N)) (G := []) rfl trivial ?_
  refine jb_ite (fun c => ?_) (fun c => ?_)
  · rw [if_pos c] at h
    refine jb_seg 1 (pc' := 21) (ls' := [some (.ref 1), some (.int x1), some (.int x2), some (.int x3), none]) (st' := [(.int (-1))]) (σ' := (zE L, M, N)) (G := []) rfl trivial ?_
    cases h
    obtain ⟨rfl, rfl⟩ := hK
    exact jb_reti rfl rfl
  · rw [if_neg c] at h
    refine jb_seg 3 (pc' := 14) (ls' := [some (.ref 1), some (.int x1), some (.int x2), some (.int x3), none]) (st' := [(.int 3), (.int 0), (.int x2)]) (σ' := (zE L, M, N)) (G := []) rfl trivial ?_
    refine jb_callS (q' := zq_23) (As := [(.int x2), (.int 0), (.int 3)]) (rest := []) (σ1 := (zE L, M, N)) (v := some (.int (jb_b2i (zf_23 x2 0 3)))) rfl (by decide) rfl zp_23 (jb_cat rfl) (Nat.le_of_ble_eq_true rfl) (Nat.le_of_ble_eq_true rfl) (Or.inl rfl) rfl (ze_23 x2 0 3 M N rfl) ?_
    refine jb_seg 1 (pc' := (if (jb_b2i (zf_23 x2 0 3)) = 0 then 20 else 22)) (ls' := [some (.ref 1), some (.int x1), some (.int x2), some (.int x3), none]) (st' := []) (σ' := (zE L, M, N)) (G := []) rfl trivial ?_
    refine jb_ite (fun c => ?_) (fun c => ?_)
    · rw [if_pos c] at h
      refine jb_seg 1 (pc' := 21) (ls' := [some (.ref 1), some (.int x1), some (.int x2), some (.int x3), none]) (st' := [(.int (-1))]) (σ' := (zE L, M, N)) (G := []) rfl trivial ?_
      cases h
      obtain ⟨rfl, rfl⟩ := hK
      exact jb_reti rfl rfl
    · rw [if_neg c] at h
      refine jb_seg 7 (pc' := 30) (ls' := [some (.ref 1), some (.int x1), some (.int x2), some (.int x3), some (.int ((x1 * 4) + x2))]) (st' := [(.int x3)]) (σ' := (zE L, M, N)) (G := []) rfl trivial ?_
      refine jb_tsw [(0, 60), (1, 70), (2, 80), (3, 90)] 100 rfl (by decide +kernel) ?_
      refine jb_swc (fun c => ?_) (fun c => ?_)
      · rw [if_pos c] at h
        refine jb_seg 3 (pc' := 66) (ls' := [some (.ref 1), some (.int x1), some (.int x2), some (.int x3), some (.int ((x1 * 4) + x2))]) (st' := [(.int ((x1 * 4) + x2)), (.ref 41)]) (σ' := (zE L, M, N)) (G := []) rfl trivial ?_
        obtain ⟨q2, h2, h⟩ := jb_bd_of h
        refine jb_callV (q' := zq_42) (As := [(.int ((x1 * 4) + x2))]) (rest := []) (σ1 := (zE L, M, N)) (v := some (.int q2)) rfl rfl zp_42 rfl (by decide) (jb_cat rfl) (Nat.le_of_ble_eq_true rfl) (Nat.le_of_ble_eq_true rfl) (Or.inl rfl) rfl (ze_42 (by omega) ((x1 * 4) + x2) M N h2) ?_
        cases h
        obtain ⟨rfl, rfl⟩ := hK
        exact jb_reti rfl rfl
      · rw [if_neg c] at h
        refine jb_swc (fun c => ?_) (fun c => ?_)
        · rw [if_pos c] at h
          refine jb_seg 3 (pc' := 76) (ls' := [some (.ref 1), some (.int x1), some (.int x2), some (.int x3), some (.int ((x1 * 4) + x2))]) (st' := [(.int ((x1 * 4) + x2)), (.ref 41)]) (σ' := (zE L, M, N)) (G := []) rfl trivial ?_
          obtain ⟨q3, h3, h⟩ := jb_bd_of h
          refine jb_callV (q' := zq_43) (As := [(.int ((x1 * 4) + x2))]) (rest := []) (σ1 := (zE L, M, N)) (v := some (.int q3)) rfl rfl zp_43 rfl (by decide) (jb_cat rfl) (Nat.le_of_ble_eq_true rfl) (Nat.le_of_ble_eq_true rfl) (Or.inl rfl) rfl (ze_43 (by omega) ((x1 * 4) + x2) M N h3) ?_
          cases h
          obtain ⟨rfl, rfl⟩ := hK
          exact jb_reti rfl rfl
        · rw [if_neg c] at h
          refine jb_swc (fun c => ?_) (fun c => ?_)
          · rw [if_pos c] at h
            refine jb_seg 3 (pc' := 86) (ls' := [some (.ref 1), some (.int x1), some (.int x2), some (.int x3), some (.int ((x1 * 4) + x2))]) (st' := [(.int ((x1 * 4) + x2)), (.ref 41)]) (σ' := (zE L, M, N)) (G := []) rfl trivial ?_
            obtain ⟨q4, h4, h⟩ := jb_bd_of h
            refine jb_callV (q' := zq_44) (As := [(.int ((x1 * 4) + x2))]) (rest := []) (σ1 := (zE L, M, N)) (v := some (.int q4)) rfl rfl zp_44 rfl (by decide) (jb_cat rfl) (Nat.le_of_ble_eq_true rfl) (Nat.le_of_ble_eq_true rfl) (Or.inl rfl) rfl (ze_44 (by omega) ((x1 * 4) + x2) M N h4) ?_
            cases h
            obtain ⟨rfl, rfl⟩ := hK
            exact jb_reti rfl rfl
          · rw [if_neg c] at h
            refine jb_swc (fun c => ?_) (fun c => ?_)
            · rw [if_pos c] at h
              refine jb_seg 3 (pc' := 96) (ls' := [some (.ref 1), some (.int x1), some (.int x2), some (.int x3), some (.int ((x1 * 4) + x2))]) (st' := [(.int ((x1 * 4) + x2)), (.ref 34)]) (σ' := (zE L, M, N)) (G := []) rfl trivial ?_
              obtain ⟨q5, h5, h⟩ := jb_bd_of h
              refine jb_callV (q' := zq_15) (As := [(.int ((x1 * 4) + x2))]) (rest := []) (σ1 := (zE L, M, N)) (v := some (.int q5)) rfl rfl zp_15 rfl (by decide) (jb_cat rfl) (Nat.le_of_ble_eq_true rfl) (Nat.le_of_ble_eq_true rfl) (Or.inl rfl) rfl (ze_15 ((x1 * 4) + x2) M N h5) ?_
              cases h
              obtain ⟨rfl, rfl⟩ := hK
              exact jb_reti rfl rfl
            · rw [if_neg c] at h
              refine jb_swn ?_
              refine jb_seg 1 (pc' := 101) (ls' := [some (.ref 1), some (.int x1), some (.int x2), some (.int x3), some (.int ((x1 * 4) + x2))]) (st' := [(.int (-1))]) (σ' := (zE L, M, N)) (G := []) rfl trivial ?_
              cases h
              obtain ⟨rfl, rfl⟩ := hK
              exact jb_reti rfl rfl
theorem ze_156 {Γ : jb_G} {L : Nat} {d : Nat} (hd : 4 ≤ d) (x1 : Int32) (x2 : Int32) (x3 : Int32) (M : jb_Mi) (N : jb_Ml) {r : (Int32)} (h : zf_156 x1 x2 x3 M = some r) : jb_V Γ d zq_156 0 (jb_en 5 [(.ref 1), (.int x1), (.int x2), (.int x3)]) [] (zE L, M, N) (some (.int r)) (zE L, M, N) := zg_156 hd x1 x2 x3 M N h ⟨rfl, rfl⟩
-- X12_heaviest
noncomputable def zf_157 (x1 : Int32) (M : jb_Mi) : Option (Int32) :=
  if (jb_b2i (zf_23 x1 0 2)) = 0 then some (-1) else (zf_109 4 M).bind fun q1 => if q1 < 0 then some (-2) else if x1 = 0 then some (q1 / 4) else if x1 = 1 then some (q1 - q1 / 4 * 4) else (zf_7 4 (q1 / 4) (q1 - q1 / 4 * 4) M).bind fun q2 => some q2
set_option maxRecDepth 4000 in
theorem zg_157 {Γ : jb_G} {L : Nat} {d : Nat} (hd : 4 ≤ d) (x1 : Int32) (M : jb_Mi) (N : jb_Ml) {v : Option Value} {σ2 : jb_S} {r : (Int32)} (h : zf_157 x1 M = some r) (hK : (fun r : Int32 => v = some (.int r) ∧ σ2 = (zE L, M, N)) r) : jb_V Γ d zq_157 0 [some (.ref 1), some (.int x1), none] [] (zE L, M, N) v σ2 := by
  obtain ⟨d, rfl⟩ : ∃ e, d = e + 1 := ⟨d - 1, by omega⟩
  unfold zf_157 at h
  refine jb_seg 3 (pc' := 3) (ls' := [some (.ref 1), some (.int x1), none]) (st' := [(.int 2), (.int 0), (.int x1)]) (σ' := (zE L, M, N)) (G := []) rfl trivial ?_
  refine jb_callS (q' := zq_23) (As := [(.int x1), (.int 0), (.int 2)]) (rest := []) (σ1 := (zE L, M, N)) (v := some (.int (jb_b2i (zf_23 x1 0 2)))) rfl (by decide) rfl zp_23 (jb_cat rfl) (Nat.le_of_ble_eq_true rfl) (Nat.le_of_ble_eq_true rfl) (Or.inl rfl) rfl (ze_23 x1 0 2 M N rfl) ?_
  refine jb_seg 1 (pc' := (if (jb_b2i (zf_23 x1 0 2)) = 0 then 9 else 11)) (ls' := [some (.ref 1), some (.int x1), none]) (st' := []) (σ' := (zE L, M, N)) (G := []) rfl trivial ?_
  refine jb_ite (fun c => ?_) (fun c => ?_)
  · rw [if_pos c] at h
    refine jb_seg 1 (pc' := 10) (ls' := [some (.ref 1), some (.int x1), none]) (st' := [(.int (-1))]) (σ' := (zE L, M, N)) (G := []) rfl trivial ?_
    cases h
    obtain ⟨rfl, rfl⟩ := hK
    exact jb_reti rfl rfl
  · rw [if_neg c] at h
    refine jb_seg 2 (pc' := 15) (ls' := [some (.ref 1), some (.int x1), none]) (st' := [(.ref 4)]) (σ' := (zE L, M, N)) (G := []) rfl trivial ?_
    obtain ⟨q1, h1, h⟩ := jb_bd_of h
    refine jb_callV (q' := zq_109) (As := []) (rest := []) (σ1 := (zE L, M, N)) (v := some (.int q1)) rfl rfl zp_109 rfl (by decide) (jb_cat rfl) (Nat.le_of_ble_eq_true rfl) (Nat.le_of_ble_eq_true rfl) (Or.inl rfl) rfl (ze_109 (by omega) 4 M N (by decide) h1) ?_
    refine jb_seg 3 (pc' := (if q1 < 0 then 23 else 26)) (ls' := [some (.ref 1), some (.int x1), some (.int q1)]) (st' := []) (σ' := (zE L, M, N)) (G := []) rfl trivial ?_
    refine jb_ite (fun c => ?_) (fun c => ?_)
    · rw [if_pos c] at h
      refine jb_seg 1 (pc' := 25) (ls' := [some (.ref 1), some (.int x1), some (.int q1)]) (st' := [(.int (-2))]) (σ' := (zE L, M, N)) (G := []) rfl trivial ?_
      cases h
      obtain ⟨rfl, rfl⟩ := hK
      exact jb_reti rfl rfl
    · rw [if_neg c] at h
      refine jb_seg 1 (pc' := 27) (ls' := [some (.ref 1), some (.int x1), some (.int q1)]) (st' := [(.int x1)]) (σ' := (zE L, M, N)) (G := []) rfl trivial ?_
      refine jb_lsw [(0, 52), (1, 56)] 60 rfl (by decide +kernel) (by decide +kernel) ?_
      refine jb_swc (fun c => ?_) (fun c => ?_)
      · rw [if_pos c] at h
        refine jb_seg 3 (pc' := 55) (ls' := [some (.ref 1), some (.int x1), some (.int q1)]) (st' := [(.int (q1 / 4))]) (σ' := (zE L, M, N)) (G := [¬ (4 : Int32) = 0]) rfl (show ¬ (4 : Int32) = 0 from (by decide)) ?_
        cases h
        obtain ⟨rfl, rfl⟩ := hK
        exact jb_reti rfl rfl
      · rw [if_neg c] at h
        refine jb_swc (fun c => ?_) (fun c => ?_)
        · rw [if_pos c] at h
          refine jb_seg 3 (pc' := 59) (ls' := [some (.ref 1), some (.int x1), some (.int q1)]) (st' := [(.int (q1 - q1 / 4 * 4))]) (σ' := (zE L, M, N)) (G := [¬ (4 : Int32) = 0]) rfl (show ¬ (4 : Int32) = 0 from (by decide)) ?_
          cases h
          obtain ⟨rfl, rfl⟩ := hK
          exact jb_reti rfl rfl
        · rw [if_neg c] at h
          refine jb_swn ?_
          refine jb_seg 8 (pc' := 70) (ls' := [some (.ref 1), some (.int x1), some (.int q1)]) (st' := [(.int (q1 - q1 / 4 * 4)), (.int (q1 / 4)), (.ref 4)]) (σ' := (zE L, M, N)) (G := [¬ (4 : Int32) = 0, ¬ (4 : Int32) = 0]) rfl ⟨(show ¬ (4 : Int32) = 0 from (by decide)), (show ¬ (4 : Int32) = 0 from (by decide))⟩ ?_
          obtain ⟨q2, h2, h⟩ := jb_bd_of h
          refine jb_callV (q' := zq_7) (As := [(.int (q1 / 4)), (.int (q1 - q1 / 4 * 4))]) (rest := []) (σ1 := (zE L, M, N)) (v := some (.int q2)) rfl rfl zp_7 rfl (by decide) (jb_cat rfl) (Nat.le_of_ble_eq_true rfl) (Nat.le_of_ble_eq_true rfl) (Or.inl rfl) rfl (ze_7 (by omega) 4 (q1 / 4) (q1 - q1 / 4 * 4) M N (by decide) h2) ?_
          cases h
          obtain ⟨rfl, rfl⟩ := hK
          exact jb_reti rfl rfl
theorem ze_157 {Γ : jb_G} {L : Nat} {d : Nat} (hd : 4 ≤ d) (x1 : Int32) (M : jb_Mi) (N : jb_Ml) {r : (Int32)} (h : zf_157 x1 M = some r) : jb_V Γ d zq_157 0 (jb_en 3 [(.ref 1), (.int x1)]) [] (zE L, M, N) (some (.int r)) (zE L, M, N) := zg_157 hd x1 M N h ⟨rfl, rfl⟩
-- X12_seed
noncomputable def zf_158 (x1 : Int32) (M : jb_Mi) : Bool × jb_Mi :=
  if (jb_b2i (zf_23 x1 0 65535)) = 0 then (false, M) else (true, (jb_up M 4 11 x1))
set_option maxRecDepth 4000 in
theorem zg_158 {Γ : jb_G} {L : Nat} {d : Nat} (hd : 1 ≤ d) (x1 : Int32) (M : jb_Mi) (N : jb_Ml) {v : Option Value} {σ2 : jb_S} {r : Bool × jb_Mi} (h : zf_158 x1 M = r) (hK : (fun r : Bool × jb_Mi => v = some (.int (jb_b2i r.1)) ∧ σ2 = (zE L, r.2, N)) r) : jb_V Γ d zq_158 0 [some (.ref 1), some (.int x1)] [] (zE L, M, N) v σ2 := by
  obtain ⟨d, rfl⟩ : ∃ e, d = e + 1 := ⟨d - 1, by omega⟩
  unfold zf_158 at h
  refine jb_seg 3 (pc' := 5) (ls' := [some (.ref 1), some (.int x1)]) (st' := [(.int 65535), (.int 0), (.int x1)]) (σ' := (zE L, M, N)) (G := []) rfl trivial ?_
  refine jb_callS (q' := zq_23) (As := [(.int x1), (.int 0), (.int 65535)]) (rest := []) (σ1 := (zE L, M, N)) (v := some (.int (jb_b2i (zf_23 x1 0 65535)))) rfl (by decide) rfl zp_23 (jb_cat rfl) (Nat.le_of_ble_eq_true rfl) (Nat.le_of_ble_eq_true rfl) (Or.inl rfl) rfl (ze_23 x1 0 65535 M N rfl) ?_
  refine jb_seg 1 (pc' := (if (jb_b2i (zf_23 x1 0 65535)) = 0 then 11 else 13)) (ls' := [some (.ref 1), some (.int x1)]) (st' := []) (σ' := (zE L, M, N)) (G := []) rfl trivial ?_
  refine jb_ite (fun c => ?_) (fun c => ?_)
  · rw [if_pos c] at h
    refine jb_seg 1 (pc' := 12) (ls' := [some (.ref 1), some (.int x1)]) (st' := [(.int 0)]) (σ' := (zE L, M, N)) (G := []) rfl trivial ?_
    subst h
    obtain ⟨rfl, rfl⟩ := hK
    exact jb_retz (by decide) rfl rfl
  · rw [if_neg c] at h
    refine jb_seg 5 (pc' := 22) (ls' := [some (.ref 1), some (.int x1)]) (st' := [(.int 1)]) (σ' := (zE L, (jb_up M 4 11 x1), N)) (G := []) rfl trivial ?_
    subst h
    obtain ⟨rfl, rfl⟩ := hK
    exact jb_retz (by decide) rfl rfl
theorem ze_158 {Γ : jb_G} {L : Nat} {d : Nat} (hd : 1 ≤ d) (x1 : Int32) (M : jb_Mi) (N : jb_Ml) {r : Bool × jb_Mi} (h : zf_158 x1 M = r) : jb_V Γ d zq_158 0 (jb_en 2 [(.ref 1), (.int x1)]) [] (zE L, M, N) (some (.int (jb_b2i r.1))) (zE L, r.2, N) := zg_158 hd x1 M N h ⟨rfl, rfl⟩
-- X12_keep
noncomputable def zf_159 (M : jb_Mi) : Int32 × jb_Mi :=
  (((jb_up (zf_102 14 4 M) 1 14 1) 4 10), (jb_up (zf_102 14 4 M) 1 14 1))
set_option maxRecDepth 4000 in
theorem zg_159 {Γ : jb_G} {L : Nat} {d : Nat} (hd : 2 ≤ d) (M : jb_Mi) (N : jb_Ml) {v : Option Value} {σ2 : jb_S} {r : Int32 × jb_Mi} (h : zf_159 M = r) (hK : (fun r : Int32 × jb_Mi => v = some (.int r.1) ∧ σ2 = (zE L, r.2, N)) r) : jb_V Γ d zq_159 0 [some (.ref 1)] [] (zE L, M, N) v σ2 := by
  obtain ⟨d, rfl⟩ : ∃ e, d = e + 1 := ⟨d - 1, by omega⟩
  unfold zf_159 at h
  refine jb_seg 4 (pc' := 8) (ls' := [some (.ref 1)]) (st' := [(.ref 4), (.ref 14)]) (σ' := (zE L, M, N)) (G := []) rfl trivial ?_
  refine jb_callV (q' := zq_102) (As := [(.ref 4)]) (rest := []) (σ1 := (zE L, (zf_102 14 4 M), N)) (v := none) rfl rfl zp_102 rfl (by decide) (jb_cat rfl) (Nat.le_of_ble_eq_true rfl) (Nat.le_of_ble_eq_true rfl) (Or.inl rfl) rfl (ze_102 (by omega) 14 4 M N (by decide) rfl) ?_
  refine jb_seg 6 (pc' := 23) (ls' := [some (.ref 1)]) (st' := [(.int ((jb_up (zf_102 14 4 M) 1 14 1) 4 10))]) (σ' := (zE L, (jb_up (zf_102 14 4 M) 1 14 1), N)) (G := [(1 : Int32) = 0 ∨ (1 : Int32) = 1]) rfl (show (1 : Int32) = 0 ∨ (1 : Int32) = 1 from (by decide)) ?_
  subst h
  obtain ⟨rfl, rfl⟩ := hK
  exact jb_reti rfl rfl
theorem ze_159 {Γ : jb_G} {L : Nat} {d : Nat} (hd : 2 ≤ d) (M : jb_Mi) (N : jb_Ml) {r : Int32 × jb_Mi} (h : zf_159 M = r) : jb_V Γ d zq_159 0 (jb_en 1 [(.ref 1)]) [] (zE L, M, N) (some (.int r.1)) (zE L, r.2, N) := zg_159 hd M N h ⟨rfl, rfl⟩
-- X12_undo
noncomputable def zf_160 (M : jb_Mi) : Bool × jb_Mi :=
  if (M 1 14) = 0 then (false, M) else (true, (zf_102 4 14 M))
set_option maxRecDepth 4000 in
theorem zg_160 {Γ : jb_G} {L : Nat} {d : Nat} (hd : 2 ≤ d) (M : jb_Mi) (N : jb_Ml) {v : Option Value} {σ2 : jb_S} {r : Bool × jb_Mi} (h : zf_160 M = r) (hK : (fun r : Bool × jb_Mi => v = some (.int (jb_b2i r.1)) ∧ σ2 = (zE L, r.2, N)) r) : jb_V Γ d zq_160 0 [some (.ref 1)] [] (zE L, M, N) v σ2 := by
  obtain ⟨d, rfl⟩ : ∃ e, d = e + 1 := ⟨d - 1, by omega⟩
  unfold zf_160 at h
  refine jb_seg 3 (pc' := (if (M 1 14) = 0 then 7 else 9)) (ls' := [some (.ref 1)]) (st' := []) (σ' := (zE L, M, N)) (G := []) rfl trivial ?_
  refine jb_ite (fun c => ?_) (fun c => ?_)
  · rw [if_pos c] at h
    refine jb_seg 1 (pc' := 8) (ls' := [some (.ref 1)]) (st' := [(.int 0)]) (σ' := (zE L, M, N)) (G := []) rfl trivial ?_
    subst h
    obtain ⟨rfl, rfl⟩ := hK
    exact jb_retz (by decide) rfl rfl
  · rw [if_neg c] at h
    refine jb_seg 4 (pc' := 17) (ls' := [some (.ref 1)]) (st' := [(.ref 14), (.ref 4)]) (σ' := (zE L, M, N)) (G := []) rfl trivial ?_
    refine jb_callV (q' := zq_102) (As := [(.ref 14)]) (rest := []) (σ1 := (zE L, (zf_102 4 14 M), N)) (v := none) rfl rfl zp_102 rfl (by decide) (jb_cat rfl) (Nat.le_of_ble_eq_true rfl) (Nat.le_of_ble_eq_true rfl) (Or.inl rfl) rfl (ze_102 (by omega) 4 14 M N (by decide) rfl) ?_
    refine jb_seg 1 (pc' := 21) (ls' := [some (.ref 1)]) (st' := [(.int 1)]) (σ' := (zE L, (zf_102 4 14 M), N)) (G := []) rfl trivial ?_
    subst h
    obtain ⟨rfl, rfl⟩ := hK
    exact jb_retz (by decide) rfl rfl
theorem ze_160 {Γ : jb_G} {L : Nat} {d : Nat} (hd : 2 ≤ d) (M : jb_Mi) (N : jb_Ml) {r : Bool × jb_Mi} (h : zf_160 M = r) : jb_V Γ d zq_160 0 (jb_en 1 [(.ref 1)]) [] (zE L, M, N) (some (.int (jb_b2i r.1))) (zE L, r.2, N) := zg_160 hd M N h ⟨rfl, rfl⟩
-- X12_check
noncomputable def zf_161_J75 (x2 : Int32) (x3 : Int32) (M : jb_Mi) : Option ((Int32 × Int32) ⊕ (Int32 × jb_Mi)) :=
  some (.inl (x2, (x3 + (-1))))
noncomputable def zf_161_J58 (x2 : Int32) (x3 : Int32) (s0 : Int32) (M : jb_Mi) : Option ((Int32 × Int32) ⊕ (Int32 × jb_Mi)) :=
  (zf_30 x3 M).bind fun q2 => if q2 = s0 then zf_161_J75 x2 x3 M else zf_161_J75 x3 x3 M
noncomputable def zf_161_H30 (M : jb_Mi) (s : Int32 × Int32) : Option ((Int32 × Int32) ⊕ (Int32 × jb_Mi)) :=
  if s.2 < 0 then some (.inr (s.1, (zf_117 0 M))) else (zf_18 4 s.2 M).bind fun q1 => if (jb_b2i q1) = 0 then zf_161_J58 s.1 s.2 0 M else jb_gd s.2 16 (zf_161_J58 s.1 s.2 (M 13 (s.2).toNatClampNeg) M)
noncomputable def zf_161 (x1 : Int32) (M : jb_Mi) : Option (Int32 × jb_Mi) :=
  if (jb_b2i (zf_23 x1 0 16)) = 0 then some ((-2), M) else if (jb_b2i (zf_116 x1 M)) = 0 then some ((-2), M) else jb_lp (zf_161_H30 M) ((-1), (x1 - 1))
set_option maxRecDepth 4000 in
theorem zg_161_J75 {Γ : jb_G} {L : Nat} {d : Nat} (hd : 2 ≤ d) (x2 : Int32) (x3 : Int32) (M : jb_Mi) (N : jb_Ml) {v : Option Value} {σ2 : jb_S} {r : ((Int32 × Int32) ⊕ (Int32 × jb_Mi))} (h : zf_161_J75 x2 x3 M = some r) (hK : (jb_K (fun s : Int32 × Int32 => jb_V Γ d zq_161 30 [some (.ref 1), none, some (.int s.1), some (.int s.2), none] [] (zE L, M, N) v σ2) (fun r : Int32 × jb_Mi => v = some (.int r.1) ∧ σ2 = (zE L, r.2, N))) r) : jb_V Γ d zq_161 75 [some (.ref 1), none, some (.int x2), some (.int x3), none] [] (zE L, M, N) v σ2 := by
  obtain ⟨d, rfl⟩ : ∃ e, d = e + 1 := ⟨d - 1, by omega⟩
  unfold zf_161_J75 at h
  refine jb_seg 2 (pc' := 30) (ls' := [some (.ref 1), none, some (.int x2), some (.int (x3 + (-1))), none]) (st' := []) (σ' := (zE L, M, N)) (G := []) rfl trivial ?_
  cases h
  exact jb_mask [true, false, true, true, false] rfl hK
set_option maxRecDepth 4000 in
theorem zg_161_J58 {Γ : jb_G} {L : Nat} {d : Nat} (hd : 2 ≤ d) (x2 : Int32) (x3 : Int32) (s0 : Int32) (M : jb_Mi) (N : jb_Ml) {v : Option Value} {σ2 : jb_S} {r : ((Int32 × Int32) ⊕ (Int32 × jb_Mi))} (h : zf_161_J58 x2 x3 s0 M = some r) (hK : (jb_K (fun s : Int32 × Int32 => jb_V Γ d zq_161 30 [some (.ref 1), none, some (.int s.1), some (.int s.2), none] [] (zE L, M, N) v σ2) (fun r : Int32 × jb_Mi => v = some (.int r.1) ∧ σ2 = (zE L, r.2, N))) r) : jb_V Γ d zq_161 58 [some (.ref 1), none, some (.int x2), some (.int x3), none] [(.int s0)] (zE L, M, N) v σ2 := by
  obtain ⟨d, rfl⟩ : ∃ e, d = e + 1 := ⟨d - 1, by omega⟩
  unfold zf_161_J58 at h
  refine jb_seg 4 (pc' := 65) (ls' := [some (.ref 1), none, some (.int x2), some (.int x3), some (.int s0)]) (st' := [(.int x3), (.ref 2)]) (σ' := (zE L, M, N)) (G := []) rfl trivial ?_
  obtain ⟨q2, h2, h⟩ := jb_bd_of h
  refine jb_callV (q' := zq_30) (As := [(.int x3)]) (rest := []) (σ1 := (zE L, M, N)) (v := some (.int q2)) rfl rfl zp_30 rfl (by decide) (jb_cat rfl) (Nat.le_of_ble_eq_true rfl) (Nat.le_of_ble_eq_true rfl) (Or.inl rfl) rfl (ze_30 x3 M N h2) ?_
  refine jb_seg 2 (pc' := (if q2 = s0 then 75 else 73)) (ls' := [some (.ref 1), none, some (.int x2), some (.int x3), some (.int s0)]) (st' := []) (σ' := (zE L, M, N)) (G := []) rfl trivial ?_
  refine jb_ite (fun c => ?_) (fun c => ?_)
  · rw [if_pos c] at h
    exact jb_mask [true, false, true, true, false] rfl (zg_161_J75 hd x2 x3 M N h hK)
  · rw [if_neg c] at h
    refine jb_seg 2 (pc' := 75) (ls' := [some (.ref 1), none, some (.int x3), some (.int x3), some (.int s0)]) (st' := []) (σ' := (zE L, M, N)) (G := []) rfl trivial ?_
    exact jb_mask [true, false, true, true, false] rfl (zg_161_J75 hd x3 x3 M N h hK)
set_option maxRecDepth 4000 in
theorem zg_161_H30 {Γ : jb_G} {L : Nat} {d : Nat} (hd : 2 ≤ d) (M : jb_Mi) (N : jb_Ml) (s : Int32 × Int32) {v : Option Value} {σ2 : jb_S} {r : ((Int32 × Int32) ⊕ (Int32 × jb_Mi))} (h : zf_161_H30 M s = some r) (hK : (jb_K (fun s : Int32 × Int32 => jb_V Γ d zq_161 30 [some (.ref 1), none, some (.int s.1), some (.int s.2), none] [] (zE L, M, N) v σ2) (fun r : Int32 × jb_Mi => v = some (.int r.1) ∧ σ2 = (zE L, r.2, N))) r) : jb_V Γ d zq_161 30 [some (.ref 1), none, some (.int s.1), some (.int s.2), none] [] (zE L, M, N) v σ2 := by
  obtain ⟨d, rfl⟩ : ∃ e, d = e + 1 := ⟨d - 1, by omega⟩
  unfold zf_161_H30 at h
  refine jb_seg 2 (pc' := (if s.2 < 0 then 81 else 34)) (ls' := [some (.ref 1), none, some (.int s.1), some (.int s.2), none]) (st' := []) (σ' := (zE L, M, N)) (G := []) rfl trivial ?_
  refine jb_ite (fun c => ?_) (fun c => ?_)
  · rw [if_pos c] at h
    refine jb_seg 3 (pc' := 86) (ls' := [some (.ref 1), none, some (.int s.1), some (.int s.2), none]) (st' := [(.int 0), (.ref 2)]) (σ' := (zE L, M, N)) (G := []) rfl trivial ?_
    refine jb_callV (q' := zq_117) (As := [(.int 0)]) (rest := []) (σ1 := (zE L, (zf_117 0 M), N)) (v := none) rfl rfl zp_117 rfl (by decide) (jb_cat rfl) (Nat.le_of_ble_eq_true rfl) (Nat.le_of_ble_eq_true rfl) (Or.inl rfl) rfl (ze_117 (by omega) 0 M N rfl) ?_
    refine jb_seg 1 (pc' := 90) (ls' := [some (.ref 1), none, some (.int s.1), some (.int s.2), none]) (st' := [(.int s.1)]) (σ' := (zE L, (zf_117 0 M), N)) (G := []) rfl trivial ?_
    cases h
    obtain ⟨rfl, rfl⟩ := hK
    exact jb_reti rfl rfl
  · rw [if_neg c] at h
    refine jb_seg 3 (pc' := 39) (ls' := [some (.ref 1), none, some (.int s.1), some (.int s.2), none]) (st' := [(.int s.2), (.ref 4)]) (σ' := (zE L, M, N)) (G := []) rfl trivial ?_
    obtain ⟨q1, h1, h⟩ := jb_bd_of h
    refine jb_callV (q' := zq_18) (As := [(.int s.2)]) (rest := []) (σ1 := (zE L, M, N)) (v := some (.int (jb_b2i q1))) rfl rfl zp_18 rfl (by decide) (jb_cat rfl) (Nat.le_of_ble_eq_true rfl) (Nat.le_of_ble_eq_true rfl) (Or.inl rfl) rfl (ze_18 4 s.2 M N (by decide) h1) ?_
    refine jb_seg 1 (pc' := (if (jb_b2i q1) = 0 then 57 else 45)) (ls' := [some (.ref 1), none, some (.int s.1), some (.int s.2), none]) (st' := []) (σ' := (zE L, M, N)) (G := []) rfl trivial ?_
    refine jb_ite (fun c => ?_) (fun c => ?_)
    · rw [if_pos c] at h
      refine jb_seg 1 (pc' := 58) (ls' := [some (.ref 1), none, some (.int s.1), some (.int s.2), none]) (st' := [(.int 0)]) (σ' := (zE L, M, N)) (G := []) rfl trivial ?_
      exact jb_mask [true, false, true, true, false] rfl (zg_161_J58 hd s.1 s.2 0 M N h hK)
    · rw [if_neg c] at h
      obtain ⟨g3, h⟩ := jb_gd_of h
      refine jb_seg 6 (pc' := 58) (ls' := [some (.ref 1), none, some (.int s.1), some (.int s.2), none]) (st' := [(.int (M 13 (s.2).toNatClampNeg))]) (σ' := (zE L, M, N)) (G := [vp_in s.2 16]) rfl g3 ?_
      exact jb_mask [true, false, true, true, false] rfl (zg_161_J58 hd s.1 s.2 (M 13 (s.2).toNatClampNeg) M N h hK)
theorem zg_161_H30L {Γ : jb_G} {L : Nat} {d : Nat} (hd : 2 ≤ d) (M : jb_Mi) (N : jb_Ml) {v : Option Value} {σ2 : jb_S} {s : Int32 × Int32} {r : (Int32 × jb_Mi)} (h : jb_lp (zf_161_H30 M) s = some r) (hK : (fun r : Int32 × jb_Mi => v = some (.int r.1) ∧ σ2 = (zE L, r.2, N)) r) : jb_V Γ d zq_161 30 [some (.ref 1), none, some (.int s.1), some (.int s.2), none] [] (zE L, M, N) v σ2 := by
  exact jb_lp_ind (P := fun s => jb_V Γ d zq_161 30 [some (.ref 1), none, some (.int s.1), some (.int s.2), none] [] (zE L, M, N) v σ2) (K := (fun r : Int32 × jb_Mi => v = some (.int r.1) ∧ σ2 = (zE L, r.2, N))) (fun s r h hk => zg_161_H30 hd M N s h (by cases r <;> exact hk)) h hK
set_option maxRecDepth 4000 in
theorem zg_161 {Γ : jb_G} {L : Nat} {d : Nat} (hd : 2 ≤ d) (x1 : Int32) (M : jb_Mi) (N : jb_Ml) {v : Option Value} {σ2 : jb_S} {r : (Int32 × jb_Mi)} (h : zf_161 x1 M = some r) (hK : (fun r : Int32 × jb_Mi => v = some (.int r.1) ∧ σ2 = (zE L, r.2, N)) r) : jb_V Γ d zq_161 0 [some (.ref 1), some (.int x1), none, none, none] [] (zE L, M, N) v σ2 := by
  obtain ⟨d, rfl⟩ : ∃ e, d = e + 1 := ⟨d - 1, by omega⟩
  unfold zf_161 at h
  refine jb_seg 3 (pc' := 4) (ls' := [some (.ref 1), some (.int x1), none, none, none]) (st' := [(.int 16), (.int 0), (.int x1)]) (σ' := (zE L, M, N)) (G := []) rfl trivial ?_
  refine jb_callS (q' := zq_23) (As := [(.int x1), (.int 0), (.int 16)]) (rest := []) (σ1 := (zE L, M, N)) (v := some (.int (jb_b2i (zf_23 x1 0 16)))) rfl (by decide) rfl zp_23 (jb_cat rfl) (Nat.le_of_ble_eq_true rfl) (Nat.le_of_ble_eq_true rfl) (Or.inl rfl) rfl (ze_23 x1 0 16 M N rfl) ?_
  refine jb_seg 1 (pc' := (if (jb_b2i (zf_23 x1 0 16)) = 0 then 21 else 10)) (ls' := [some (.ref 1), some (.int x1), none, none, none]) (st' := []) (σ' := (zE L, M, N)) (G := []) rfl trivial ?_
  refine jb_ite (fun c => ?_) (fun c => ?_)
  · rw [if_pos c] at h
    refine jb_seg 1 (pc' := 23) (ls' := [some (.ref 1), some (.int x1), none, none, none]) (st' := [(.int (-2))]) (σ' := (zE L, M, N)) (G := []) rfl trivial ?_
    cases h
    obtain ⟨rfl, rfl⟩ := hK
    exact jb_reti rfl rfl
  · rw [if_neg c] at h
    refine jb_seg 3 (pc' := 15) (ls' := [some (.ref 1), some (.int x1), none, none, none]) (st' := [(.int x1), (.ref 2)]) (σ' := (zE L, M, N)) (G := []) rfl trivial ?_
    refine jb_callV (q' := zq_116) (As := [(.int x1)]) (rest := []) (σ1 := (zE L, M, N)) (v := some (.int (jb_b2i (zf_116 x1 M)))) rfl rfl zp_116 rfl (by decide) (jb_cat rfl) (Nat.le_of_ble_eq_true rfl) (Nat.le_of_ble_eq_true rfl) (Or.inl rfl) rfl (ze_116 x1 M N rfl) ?_
    refine jb_seg 1 (pc' := (if (jb_b2i (zf_116 x1 M)) = 0 then 21 else 24)) (ls' := [some (.ref 1), some (.int x1), none, none, none]) (st' := []) (σ' := (zE L, M, N)) (G := []) rfl trivial ?_
    refine jb_ite (fun c => ?_) (fun c => ?_)
    · rw [if_pos c] at h
      refine jb_seg 1 (pc' := 23) (ls' := [some (.ref 1), some (.int x1), none, none, none]) (st' := [(.int (-2))]) (σ' := (zE L, M, N)) (G := []) rfl trivial ?_
      cases h
      obtain ⟨rfl, rfl⟩ := hK
      exact jb_reti rfl rfl
    · rw [if_neg c] at h
      refine jb_seg 6 (pc' := 30) (ls' := [some (.ref 1), some (.int x1), some (.int (-1)), some (.int (x1 - 1)), none]) (st' := []) (σ' := (zE L, M, N)) (G := []) rfl trivial ?_
      exact jb_mask [true, false, true, true, false] rfl (zg_161_H30L hd M N h hK)
theorem ze_161 {Γ : jb_G} {L : Nat} {d : Nat} (hd : 2 ≤ d) (x1 : Int32) (M : jb_Mi) (N : jb_Ml) {r : (Int32 × jb_Mi)} (h : zf_161 x1 M = some r) : jb_V Γ d zq_161 0 (jb_en 5 [(.ref 1), (.int x1)]) [] (zE L, M, N) (some (.int r.1)) (zE L, r.2, N) := zg_161 hd x1 M N h ⟨rfl, rfl⟩
-- X12_count
noncomputable def zf_162 (x1 : Int32) (M : jb_Mi) : Option (Int32) :=
  if x1 = 0 then some (M 4 9) else if x1 = 1 then some (M 4 10) else if x1 = 2 then (zf_105 4 M).bind fun q1 => some q1 else if x1 = 3 then (zf_105 4 M).bind fun q2 => (zf_51 4 M).bind fun q3 => some (q2 &&& (q3 ^^^ (-1))) else if x1 = 4 then (zf_103 4 M).bind fun q4 => some q4 else if x1 = 5 then (zf_106 4 M).bind fun q5 => some q5 else if x1 = 6 then some (M 44 6) else if x1 = 7 then some (M 2 1) else if x1 = 8 then some (M 4 11) else some (-1)
set_option maxRecDepth 4000 in
theorem zg_162 {Γ : jb_G} {L : Nat} {d : Nat} (hd : 2 ≤ d) (x1 : Int32) (M : jb_Mi) (N : jb_Ml) {v : Option Value} {σ2 : jb_S} {r : (Int32)} (h : zf_162 x1 M = some r) (hK : (fun r : Int32 => v = some (.int r) ∧ σ2 = (zE L, M, N)) r) : jb_V Γ d zq_162 0 [some (.ref 1), some (.int x1)] [] (zE L, M, N) v σ2 := by
  obtain ⟨d, rfl⟩ : ∃ e, d = e + 1 := ⟨d - 1, by omega⟩
  unfold zf_162 at h
  refine jb_seg 1 (pc' := 1) (ls' := [some (.ref 1), some (.int x1)]) (st' := [(.int x1)]) (σ' := (zE L, M, N)) (G := []) rfl trivial ?_
  refine jb_tsw [(0, 52), (1, 60), (2, 68), (3, 76), (4, 94), (5, 102), (6, 110), (7, 118), (8, 126)] 134 rfl (by decide +kernel) ?_
  refine jb_swc (fun c => ?_) (fun c => ?_)
  · rw [if_pos c] at h
    refine jb_seg 3 (pc' := 59) (ls' := [some (.ref 1), some (.int x1)]) (st' := [(.int (M 4 9))]) (σ' := (zE L, M, N)) (G := []) rfl trivial ?_
    cases h
    obtain ⟨rfl, rfl⟩ := hK
    exact jb_reti rfl rfl
  · rw [if_neg c] at h
    refine jb_swc (fun c => ?_) (fun c => ?_)
    · rw [if_pos c] at h
      refine jb_seg 3 (pc' := 67) (ls' := [some (.ref 1), some (.int x1)]) (st' := [(.int (M 4 10))]) (σ' := (zE L, M, N)) (G := []) rfl trivial ?_
      cases h
      obtain ⟨rfl, rfl⟩ := hK
      exact jb_reti rfl rfl
    · rw [if_neg c] at h
      refine jb_swc (fun c => ?_) (fun c => ?_)
      · rw [if_pos c] at h
        refine jb_seg 2 (pc' := 72) (ls' := [some (.ref 1), some (.int x1)]) (st' := [(.ref 4)]) (σ' := (zE L, M, N)) (G := []) rfl trivial ?_
        obtain ⟨q1, h1, h⟩ := jb_bd_of h
        refine jb_callV (q' := zq_105) (As := []) (rest := []) (σ1 := (zE L, M, N)) (v := some (.int q1)) rfl rfl zp_105 rfl (by decide) (jb_cat rfl) (Nat.le_of_ble_eq_true rfl) (Nat.le_of_ble_eq_true rfl) (Or.inl rfl) rfl (ze_105 (by omega) 4 M N (by decide) h1) ?_
        cases h
        obtain ⟨rfl, rfl⟩ := hK
        exact jb_reti rfl rfl
      · rw [if_neg c] at h
        refine jb_swc (fun c => ?_) (fun c => ?_)
        · rw [if_pos c] at h
          refine jb_seg 2 (pc' := 80) (ls' := [some (.ref 1), some (.int x1)]) (st' := [(.ref 4)]) (σ' := (zE L, M, N)) (G := []) rfl trivial ?_
          obtain ⟨q2, h2, h⟩ := jb_bd_of h
          refine jb_callV (q' := zq_105) (As := []) (rest := []) (σ1 := (zE L, M, N)) (v := some (.int q2)) rfl rfl zp_105 rfl (by decide) (jb_cat rfl) (Nat.le_of_ble_eq_true rfl) (Nat.le_of_ble_eq_true rfl) (Or.inl rfl) rfl (ze_105 (by omega) 4 M N (by decide) h2) ?_
          refine jb_seg 2 (pc' := 87) (ls' := [some (.ref 1), some (.int x1)]) (st' := [(.ref 4), (.int q2)]) (σ' := (zE L, M, N)) (G := []) rfl trivial ?_
          obtain ⟨q3, h3, h⟩ := jb_bd_of h
          refine jb_callV (q' := zq_51) (As := []) (rest := [(.int q2)]) (σ1 := (zE L, M, N)) (v := some (.int q3)) rfl rfl zp_51 rfl (by decide) (jb_cat rfl) (Nat.le_of_ble_eq_true rfl) (Nat.le_of_ble_eq_true rfl) (Or.inl rfl) rfl (ze_51 (by omega) 4 M N (by decide) h3) ?_
          refine jb_seg 3 (pc' := 93) (ls' := [some (.ref 1), some (.int x1)]) (st' := [(.int (q2 &&& (q3 ^^^ (-1))))]) (σ' := (zE L, M, N)) (G := []) rfl trivial ?_
          cases h
          obtain ⟨rfl, rfl⟩ := hK
          exact jb_reti rfl rfl
        · rw [if_neg c] at h
          refine jb_swc (fun c => ?_) (fun c => ?_)
          · rw [if_pos c] at h
            refine jb_seg 2 (pc' := 98) (ls' := [some (.ref 1), some (.int x1)]) (st' := [(.ref 4)]) (σ' := (zE L, M, N)) (G := []) rfl trivial ?_
            obtain ⟨q4, h4, h⟩ := jb_bd_of h
            refine jb_callV (q' := zq_103) (As := []) (rest := []) (σ1 := (zE L, M, N)) (v := some (.int q4)) rfl rfl zp_103 rfl (by decide) (jb_cat rfl) (Nat.le_of_ble_eq_true rfl) (Nat.le_of_ble_eq_true rfl) (Or.inl rfl) rfl (ze_103 (by omega) 4 M N (by decide) h4) ?_
            cases h
            obtain ⟨rfl, rfl⟩ := hK
            exact jb_reti rfl rfl
          · rw [if_neg c] at h
            refine jb_swc (fun c => ?_) (fun c => ?_)
            · rw [if_pos c] at h
              refine jb_seg 2 (pc' := 106) (ls' := [some (.ref 1), some (.int x1)]) (st' := [(.ref 4)]) (σ' := (zE L, M, N)) (G := []) rfl trivial ?_
              obtain ⟨q5, h5, h⟩ := jb_bd_of h
              refine jb_callV (q' := zq_106) (As := []) (rest := []) (σ1 := (zE L, M, N)) (v := some (.int q5)) rfl rfl zp_106 rfl (by decide) (jb_cat rfl) (Nat.le_of_ble_eq_true rfl) (Nat.le_of_ble_eq_true rfl) (Or.inl rfl) rfl (ze_106 (by omega) 4 M N (by decide) h5) ?_
              cases h
              obtain ⟨rfl, rfl⟩ := hK
              exact jb_reti rfl rfl
            · rw [if_neg c] at h
              refine jb_swc (fun c => ?_) (fun c => ?_)
              · rw [if_pos c] at h
                refine jb_seg 3 (pc' := 117) (ls' := [some (.ref 1), some (.int x1)]) (st' := [(.int (M 44 6))]) (σ' := (zE L, M, N)) (G := []) rfl trivial ?_
                cases h
                obtain ⟨rfl, rfl⟩ := hK
                exact jb_reti rfl rfl
              · rw [if_neg c] at h
                refine jb_swc (fun c => ?_) (fun c => ?_)
                · rw [if_pos c] at h
                  refine jb_seg 3 (pc' := 125) (ls' := [some (.ref 1), some (.int x1)]) (st' := [(.int (M 2 1))]) (σ' := (zE L, M, N)) (G := []) rfl trivial ?_
                  cases h
                  obtain ⟨rfl, rfl⟩ := hK
                  exact jb_reti rfl rfl
                · rw [if_neg c] at h
                  refine jb_swc (fun c => ?_) (fun c => ?_)
                  · rw [if_pos c] at h
                    refine jb_seg 3 (pc' := 133) (ls' := [some (.ref 1), some (.int x1)]) (st' := [(.int (M 4 11))]) (σ' := (zE L, M, N)) (G := []) rfl trivial ?_
                    cases h
                    obtain ⟨rfl, rfl⟩ := hK
                    exact jb_reti rfl rfl
                  · rw [if_neg c] at h
                    refine jb_swn ?_
                    refine jb_seg 1 (pc' := 135) (ls' := [some (.ref 1), some (.int x1)]) (st' := [(.int (-1))]) (σ' := (zE L, M, N)) (G := []) rfl trivial ?_
                    cases h
                    obtain ⟨rfl, rfl⟩ := hK
                    exact jb_reti rfl rfl
theorem ze_162 {Γ : jb_G} {L : Nat} {d : Nat} (hd : 2 ≤ d) (x1 : Int32) (M : jb_Mi) (N : jb_Ml) {r : (Int32)} (h : zf_162 x1 M = some r) : jb_V Γ d zq_162 0 (jb_en 2 [(.ref 1), (.int x1)]) [] (zE L, M, N) (some (.int r)) (zE L, M, N) := zg_162 hd x1 M N h ⟨rfl, rfl⟩
-- X13_in
noncomputable def zf_164 (x0 : Int32) (x1 : Int32) (x2 : Int32) : Bool :=
  if x0 < x1 then false else if x2 < x0 then false else true
set_option maxRecDepth 4000 in
theorem zg_164 {Γ : jb_G} {L : Nat} {d : Nat} (x0 : Int32) (x1 : Int32) (x2 : Int32) (M : jb_Mi) (N : jb_Ml) {v : Option Value} {σ2 : jb_S} {r : Bool} (h : zf_164 x0 x1 x2 = r) (hK : (fun r : Bool => v = some (.int (jb_b2i r)) ∧ σ2 = (zE L, M, N)) r) : jb_V Γ d zq_164 0 [some (.int x0), some (.int x1), some (.int x2)] [] (zE L, M, N) v σ2 := by
  unfold zf_164 at h
  refine jb_seg 3 (pc' := (if x0 < x1 then 14 else 5)) (ls' := [some (.int x0), some (.int x1), some (.int x2)]) (st' := []) (σ' := (zE L, M, N)) (G := []) rfl trivial ?_
  refine jb_ite (fun c => ?_) (fun c => ?_)
  · rw [if_pos c] at h
    refine jb_seg 1 (pc' := 15) (ls' := [some (.int x0), some (.int x1), some (.int x2)]) (st' := [(.int 0)]) (σ' := (zE L, M, N)) (G := []) rfl trivial ?_
    subst h
    obtain ⟨rfl, rfl⟩ := hK
    exact jb_retz (by decide) rfl rfl
  · rw [if_neg c] at h
    refine jb_seg 3 (pc' := (if x2 < x0 then 14 else 10)) (ls' := [some (.int x0), some (.int x1), some (.int x2)]) (st' := []) (σ' := (zE L, M, N)) (G := []) rfl trivial ?_
    refine jb_ite (fun c => ?_) (fun c => ?_)
    · rw [if_pos c] at h
      refine jb_seg 1 (pc' := 15) (ls' := [some (.int x0), some (.int x1), some (.int x2)]) (st' := [(.int 0)]) (σ' := (zE L, M, N)) (G := []) rfl trivial ?_
      subst h
      obtain ⟨rfl, rfl⟩ := hK
      exact jb_retz (by decide) rfl rfl
    · rw [if_neg c] at h
      refine jb_seg 2 (pc' := 15) (ls' := [some (.int x0), some (.int x1), some (.int x2)]) (st' := [(.int 1)]) (σ' := (zE L, M, N)) (G := []) rfl trivial ?_
      subst h
      obtain ⟨rfl, rfl⟩ := hK
      exact jb_retz (by decide) rfl rfl
theorem ze_164 {Γ : jb_G} {L : Nat} {d : Nat} (x0 : Int32) (x1 : Int32) (x2 : Int32) (M : jb_Mi) (N : jb_Ml) {r : Bool} (h : zf_164 x0 x1 x2 = r) : jb_V Γ d zq_164 0 (jb_en 3 [(.int x0), (.int x1), (.int x2)]) [] (zE L, M, N) (some (.int (jb_b2i r))) (zE L, M, N) := zg_164 x0 x1 x2 M N h ⟨rfl, rfl⟩
-- X13_min
noncomputable def zf_165 (x0 : Int32) (x1 : Int32) : Int32 :=
  if x0 < x1 then x0 else x1
set_option maxRecDepth 4000 in
theorem zg_165 {Γ : jb_G} {L : Nat} {d : Nat} (x0 : Int32) (x1 : Int32) (M : jb_Mi) (N : jb_Ml) {v : Option Value} {σ2 : jb_S} {r : Int32} (h : zf_165 x0 x1 = r) (hK : (fun r : Int32 => v = some (.int r) ∧ σ2 = (zE L, M, N)) r) : jb_V Γ d zq_165 0 [some (.int x0), some (.int x1)] [] (zE L, M, N) v σ2 := by
  unfold zf_165 at h
  refine jb_seg 3 (pc' := (if x0 < x1 then 5 else 9)) (ls' := [some (.int x0), some (.int x1)]) (st' := []) (σ' := (zE L, M, N)) (G := []) rfl trivial ?_
  refine jb_ite (fun c => ?_) (fun c => ?_)
  · rw [if_pos c] at h
    refine jb_seg 2 (pc' := 10) (ls' := [some (.int x0), some (.int x1)]) (st' := [(.int x0)]) (σ' := (zE L, M, N)) (G := []) rfl trivial ?_
    subst h
    obtain ⟨rfl, rfl⟩ := hK
    exact jb_reti rfl rfl
  · rw [if_neg c] at h
    refine jb_seg 1 (pc' := 10) (ls' := [some (.int x0), some (.int x1)]) (st' := [(.int x1)]) (σ' := (zE L, M, N)) (G := []) rfl trivial ?_
    subst h
    obtain ⟨rfl, rfl⟩ := hK
    exact jb_reti rfl rfl
theorem ze_165 {Γ : jb_G} {L : Nat} {d : Nat} (x0 : Int32) (x1 : Int32) (M : jb_Mi) (N : jb_Ml) {r : Int32} (h : zf_165 x0 x1 = r) : jb_V Γ d zq_165 0 (jb_en 2 [(.int x0), (.int x1)]) [] (zE L, M, N) (some (.int r)) (zE L, M, N) := zg_165 x0 x1 M N h ⟨rfl, rfl⟩
-- X13_max
noncomputable def zf_166 (x0 : Int32) (x1 : Int32) : Int32 :=
  if x1 < x0 then x0 else x1
set_option maxRecDepth 4000 in
theorem zg_166 {Γ : jb_G} {L : Nat} {d : Nat} (x0 : Int32) (x1 : Int32) (M : jb_Mi) (N : jb_Ml) {v : Option Value} {σ2 : jb_S} {r : Int32} (h : zf_166 x0 x1 = r) (hK : (fun r : Int32 => v = some (.int r) ∧ σ2 = (zE L, M, N)) r) : jb_V Γ d zq_166 0 [some (.int x0), some (.int x1)] [] (zE L, M, N) v σ2 := by
  unfold zf_166 at h
  refine jb_seg 3 (pc' := (if x1 < x0 then 5 else 9)) (ls' := [some (.int x0), some (.int x1)]) (st' := []) (σ' := (zE L, M, N)) (G := []) rfl trivial ?_
  refine jb_ite (fun c => ?_) (fun c => ?_)
  · rw [if_pos c] at h
    refine jb_seg 2 (pc' := 10) (ls' := [some (.int x0), some (.int x1)]) (st' := [(.int x0)]) (σ' := (zE L, M, N)) (G := []) rfl trivial ?_
    subst h
    obtain ⟨rfl, rfl⟩ := hK
    exact jb_reti rfl rfl
  · rw [if_neg c] at h
    refine jb_seg 1 (pc' := 10) (ls' := [some (.int x0), some (.int x1)]) (st' := [(.int x1)]) (σ' := (zE L, M, N)) (G := []) rfl trivial ?_
    subst h
    obtain ⟨rfl, rfl⟩ := hK
    exact jb_reti rfl rfl
theorem ze_166 {Γ : jb_G} {L : Nat} {d : Nat} (x0 : Int32) (x1 : Int32) (M : jb_Mi) (N : jb_Ml) {r : Int32} (h : zf_166 x0 x1 = r) : jb_V Γ d zq_166 0 (jb_en 2 [(.int x0), (.int x1)]) [] (zE L, M, N) (some (.int r)) (zE L, M, N) := zg_166 x0 x1 M N h ⟨rfl, rfl⟩
-- X13_size
noncomputable def zf_167 (x0 : Int32) : Int32 :=
  if x0 < 0 then (-x0) else x0
set_option maxRecDepth 4000 in
theorem zg_167 {Γ : jb_G} {L : Nat} {d : Nat} (x0 : Int32) (M : jb_Mi) (N : jb_Ml) {v : Option Value} {σ2 : jb_S} {r : Int32} (h : zf_167 x0 = r) (hK : (fun r : Int32 => v = some (.int r) ∧ σ2 = (zE L, M, N)) r) : jb_V Γ d zq_167 0 [some (.int x0)] [] (zE L, M, N) v σ2 := by
  unfold zf_167 at h
  refine jb_seg 2 (pc' := (if x0 < 0 then 4 else 9)) (ls' := [some (.int x0)]) (st' := []) (σ' := (zE L, M, N)) (G := []) rfl trivial ?_
  refine jb_ite (fun c => ?_) (fun c => ?_)
  · rw [if_pos c] at h
    refine jb_seg 3 (pc' := 10) (ls' := [some (.int x0)]) (st' := [(.int (-x0))]) (σ' := (zE L, M, N)) (G := []) rfl trivial ?_
    subst h
    obtain ⟨rfl, rfl⟩ := hK
    exact jb_reti rfl rfl
  · rw [if_neg c] at h
    refine jb_seg 1 (pc' := 10) (ls' := [some (.int x0)]) (st' := [(.int x0)]) (σ' := (zE L, M, N)) (G := []) rfl trivial ?_
    subst h
    obtain ⟨rfl, rfl⟩ := hK
    exact jb_reti rfl rfl
theorem ze_167 {Γ : jb_G} {L : Nat} {d : Nat} (x0 : Int32) (M : jb_Mi) (N : jb_Ml) {r : Int32} (h : zf_167 x0 = r) : jb_V Γ d zq_167 0 (jb_en 1 [(.int x0)]) [] (zE L, M, N) (some (.int r)) (zE L, M, N) := zg_167 x0 M N h ⟨rfl, rfl⟩
-- X13_has
noncomputable def zf_168 (x0 : Int32) (x1 : Int32) : Bool :=
  if ((x0 >>> (x1 &&& 31)) &&& 1) = 1 then true else false
set_option maxRecDepth 4000 in
theorem zg_168 {Γ : jb_G} {L : Nat} {d : Nat} (x0 : Int32) (x1 : Int32) (M : jb_Mi) (N : jb_Ml) {v : Option Value} {σ2 : jb_S} {r : Bool} (h : zf_168 x0 x1 = r) (hK : (fun r : Bool => v = some (.int (jb_b2i r)) ∧ σ2 = (zE L, M, N)) r) : jb_V Γ d zq_168 0 [some (.int x0), some (.int x1)] [] (zE L, M, N) v σ2 := by
  unfold zf_168 at h
  refine jb_seg 7 (pc' := (if ((x0 >>> (x1 &&& 31)) &&& 1) = 1 then 9 else 13)) (ls' := [some (.int x0), some (.int x1)]) (st' := []) (σ' := (zE L, M, N)) (G := []) rfl trivial ?_
  refine jb_ite (fun c => ?_) (fun c => ?_)
  · rw [if_pos c] at h
    refine jb_seg 2 (pc' := 14) (ls' := [some (.int x0), some (.int x1)]) (st' := [(.int 1)]) (σ' := (zE L, M, N)) (G := []) rfl trivial ?_
    subst h
    obtain ⟨rfl, rfl⟩ := hK
    exact jb_retz (by decide) rfl rfl
  · rw [if_neg c] at h
    refine jb_seg 1 (pc' := 14) (ls' := [some (.int x0), some (.int x1)]) (st' := [(.int 0)]) (σ' := (zE L, M, N)) (G := []) rfl trivial ?_
    subst h
    obtain ⟨rfl, rfl⟩ := hK
    exact jb_retz (by decide) rfl rfl
theorem ze_168 {Γ : jb_G} {L : Nat} {d : Nat} (x0 : Int32) (x1 : Int32) (M : jb_Mi) (N : jb_Ml) {r : Bool} (h : zf_168 x0 x1 = r) : jb_V Γ d zq_168 0 (jb_en 2 [(.int x0), (.int x1)]) [] (zE L, M, N) (some (.int (jb_b2i r))) (zE L, M, N) := zg_168 x0 x1 M N h ⟨rfl, rfl⟩
-- X13_bits
noncomputable def zf_169_H4 (x0 : Int32) (s : Int32 × Int32) : Option ((Int32 × Int32) ⊕ (Int32)) :=
  if s.2 < 16 then some (.inl ((s.1 + ((x0 >>> (s.2 &&& 31)) &&& 1)), (s.2 + 1))) else some (.inr s.1)
noncomputable def zf_169 (x0 : Int32) : Option (Int32) :=
  jb_lp (zf_169_H4 x0) (0, 0)
set_option maxRecDepth 4000 in
theorem zg_169_H4 {Γ : jb_G} {L : Nat} {d : Nat} (x0 : Int32) (M : jb_Mi) (N : jb_Ml) (s : Int32 × Int32) {v : Option Value} {σ2 : jb_S} {r : ((Int32 × Int32) ⊕ (Int32))} (h : zf_169_H4 x0 s = some r) (hK : (jb_K (fun s : Int32 × Int32 => jb_V Γ d zq_169 4 [some (.int x0), some (.int s.1), some (.int s.2)] [] (zE L, M, N) v σ2) (fun r : Int32 => v = some (.int r) ∧ σ2 = (zE L, M, N))) r) : jb_V Γ d zq_169 4 [some (.int x0), some (.int s.1), some (.int s.2)] [] (zE L, M, N) v σ2 := by
  unfold zf_169_H4 at h
  refine jb_seg 3 (pc' := (if s.2 < 16 then 10 else 24)) (ls' := [some (.int x0), some (.int s.1), some (.int s.2)]) (st' := []) (σ' := (zE L, M, N)) (G := []) rfl trivial ?_
  refine jb_ite (fun c => ?_) (fun c => ?_)
  · rw [if_pos c] at h
    refine jb_seg 10 (pc' := 4) (ls' := [some (.int x0), some (.int (s.1 + ((x0 >>> (s.2 &&& 31)) &&& 1))), some (.int (s.2 + 1))]) (st' := []) (σ' := (zE L, M, N)) (G := []) rfl trivial ?_
    cases h
    exact jb_mask [true, true, true] rfl hK
  · rw [if_neg c] at h
    refine jb_seg 1 (pc' := 25) (ls' := [some (.int x0), some (.int s.1), some (.int s.2)]) (st' := [(.int s.1)]) (σ' := (zE L, M, N)) (G := []) rfl trivial ?_
    cases h
    obtain ⟨rfl, rfl⟩ := hK
    exact jb_reti rfl rfl
theorem zg_169_H4L {Γ : jb_G} {L : Nat} {d : Nat} (x0 : Int32) (M : jb_Mi) (N : jb_Ml) {v : Option Value} {σ2 : jb_S} {s : Int32 × Int32} {r : (Int32)} (h : jb_lp (zf_169_H4 x0) s = some r) (hK : (fun r : Int32 => v = some (.int r) ∧ σ2 = (zE L, M, N)) r) : jb_V Γ d zq_169 4 [some (.int x0), some (.int s.1), some (.int s.2)] [] (zE L, M, N) v σ2 := by
  exact jb_lp_ind (P := fun s => jb_V Γ d zq_169 4 [some (.int x0), some (.int s.1), some (.int s.2)] [] (zE L, M, N) v σ2) (K := (fun r : Int32 => v = some (.int r) ∧ σ2 = (zE L, M, N))) (fun s r h hk => zg_169_H4 x0 M N s h (by cases r <;> exact hk)) h hK
set_option maxRecDepth 4000 in
theorem zg_169 {Γ : jb_G} {L : Nat} {d : Nat} (x0 : Int32) (M : jb_Mi) (N : jb_Ml) {v : Option Value} {σ2 : jb_S} {r : (Int32)} (h : zf_169 x0 = some r) (hK : (fun r : Int32 => v = some (.int r) ∧ σ2 = (zE L, M, N)) r) : jb_V Γ d zq_169 0 [some (.int x0), none, none] [] (zE L, M, N) v σ2 := by
  unfold zf_169 at h
  refine jb_seg 4 (pc' := 4) (ls' := [some (.int x0), some (.int 0), some (.int 0)]) (st' := []) (σ' := (zE L, M, N)) (G := []) rfl trivial ?_
  exact jb_mask [true, true, true] rfl (zg_169_H4L x0 M N h hK)
theorem ze_169 {Γ : jb_G} {L : Nat} {d : Nat} (x0 : Int32) (M : jb_Mi) (N : jb_Ml) {r : (Int32)} (h : zf_169 x0 = some r) : jb_V Γ d zq_169 0 (jb_en 3 [(.int x0)]) [] (zE L, M, N) (some (.int r)) (zE L, M, N) := zg_169 x0 M N h ⟨rfl, rfl⟩
