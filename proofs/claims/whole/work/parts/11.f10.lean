-- X11_hold
noncomputable def zf_122_J38 (w : Nat) (o : Nat) (x1 : Int32) (M : jb_Mi) : Option (jb_Mi) :=
  (zf_120 w o (x1 / 4) (jb_up M w 7 ((M w 7) + 1))).bind fun q3 => some q3
noncomputable def zf_122_J224 (w : Nat) (o : Nat) (x1 : Int32) (M : jb_Mi) : Option (jb_Mi) :=
  (zf_120 w o (x1 / 4) M).bind fun q12 => some q12
noncomputable def zf_122_J210 (w : Nat) (o : Nat) (x1 : Int32) (x4 : Int32) (x5 : Int32) (s1 : Int32) (s2 : Int32) (M : jb_Mi) : Option (jb_Mi) :=
  if x4 = 0 then if x5 = 0 then some (jb_up M w 6 (s1 + s2)) else zf_122_J224 w o x1 (jb_up M w 6 (s1 + s2)) else zf_122_J224 w o x1 (jb_up M w 6 (s1 + s2))
noncomputable def zf_122_J193 (w : Nat) (o : Nat) (x1 : Int32) (x4 : Int32) (s0 : Int32) (M : jb_Mi) : Option (jb_Mi) :=
  if s0 = 0 then zf_122_J210 w o x1 x4 s0 (M w 6) 0 M else zf_122_J210 w o x1 x4 s0 (M w 6) 1 M
noncomputable def zf_122_J192 (w : Nat) (o : Nat) (x1 : Int32) (x4 : Int32) (M : jb_Mi) : Option (jb_Mi) :=
  zf_122_J193 w o x1 x4 0 M
noncomputable def zf_122_J160 (w : Nat) (o : Nat) (x1 : Int32) (s0 : Int32) (M : jb_Mi) : Option (jb_Mi) :=
  if s0 = 0 then (zf_68 100 10 ((zf_112 o M).2)).bind fun q11 => if (zf_112 o M).1 < q11.1 then zf_122_J193 w o x1 s0 1 q11.2 else zf_122_J192 w o x1 s0 q11.2 else zf_122_J192 w o x1 s0 M
noncomputable def zf_122_J155 (w : Nat) (o : Nat) (x1 : Int32) (M : jb_Mi) : Option (jb_Mi) :=
  zf_122_J160 w o x1 1 M
noncomputable def zf_122 (w : Nat) (o : Nat) (x1 : Int32) (M : jb_Mi) : Option (jb_Mi) :=
  (zf_17 x1 (zf_14 o M) M).bind fun q1 => (zf_18 o q1 M).bind fun q2 => if (jb_b2i q2) = 0 then zf_122_J38 w o x1 M else if (((M w 4) >>> (q1 &&& 31)) &&& 1) = 0 then (zf_121 w o q1 x1 (jb_up M w 4 ((M w 4) ||| ((1 : Int32) <<< (q1 &&& 31))))).bind fun q4 => (zf_68 116 99 q4).bind fun q5 => jb_gd q1 16 (jb_gd q1 16 (jb_gd q1 16 (jb_gd q1 16 (if ((jb_up (jb_up q5.2 (o + 9) q1.toNatClampNeg (zf_272 99 ((q5.2 (o + 9) q1.toNatClampNeg) + q5.1))) 58 2 ((jb_up q5.2 (o + 9) q1.toNatClampNeg (zf_272 99 ((q5.2 (o + 9) q1.toNatClampNeg) + q5.1))) (o + 9) q1.toNatClampNeg)) (o + 9) q1.toNatClampNeg) < 99 then (zf_67 120 (jb_up (jb_up q5.2 (o + 9) q1.toNatClampNeg (zf_272 99 ((q5.2 (o + 9) q1.toNatClampNeg) + q5.1))) 58 2 ((jb_up q5.2 (o + 9) q1.toNatClampNeg (zf_272 99 ((q5.2 (o + 9) q1.toNatClampNeg) + q5.1))) (o + 9) q1.toNatClampNeg))).bind fun q10 => if q10.1 < 0 then zf_122_J160 w o x1 0 q10.2 else zf_122_J155 w o x1 q10.2 else zf_122_J155 w o x1 (jb_up (jb_up q5.2 (o + 9) q1.toNatClampNeg (zf_272 99 ((q5.2 (o + 9) q1.toNatClampNeg) + q5.1))) 58 2 ((jb_up q5.2 (o + 9) q1.toNatClampNeg (zf_272 99 ((q5.2 (o + 9) q1.toNatClampNeg) + q5.1))) (o + 9) q1.toNatClampNeg)))))) else zf_122_J38 w o x1 M
set_option maxRecDepth 4000 in
theorem zg_122_J38 {Γ : jb_G} {L : Nat} {d : Nat} (hd : 4 ≤ d) (w : Nat) (o : Nat) (x1 : Int32) (M : jb_Mi) (N : jb_Ml) (hp : (w = 60 ∧ o = 4) ∨ (w = 62 ∧ o = 24)) {v : Option Value} {σ2 : jb_S} {r : (jb_Mi)} (h : zf_122_J38 w o x1 M = some r) (hK : (fun r : jb_Mi => v = none ∧ σ2 = (zE L, r, N)) r) : jb_V Γ d zq_122 38 [some (.ref w), some (.int x1), none, none, none, none] [] (zE L, M, N) v σ2 := by
  rcases hp with ⟨rfl, rfl⟩ | ⟨rfl, rfl⟩
  · obtain ⟨d, rfl⟩ : ∃ e, d = e + 1 := ⟨d - 1, by omega⟩
    unfold zf_122_J38 at h
    refine jb_seg 10 (pc' := 52) (ls' := [some (.ref 60), some (.int x1), none, none, none, none]) (st' := [(.int (x1 / 4)), (.ref 60)]) (σ' := (zE L, (jb_up M 60 7 ((M 60 7) + 1)), N)) (G := [¬ (4 : Int32) = 0]) rfl (show ¬ (4 : Int32) = 0 from (by decide)) ?_
    obtain ⟨q3, h3, h⟩ := jb_bd_of h
    refine jb_callV (q' := zq_120) (As := [(.int (x1 / 4))]) (rest := []) (σ1 := (zE L, q3, N)) (v := none) rfl rfl zp_120 rfl (by decide) (jb_cat rfl) (Nat.le_of_ble_eq_true rfl) (Nat.le_of_ble_eq_true rfl) (Or.inl rfl) rfl (ze_120 (by omega) 60 4 (x1 / 4) (jb_up M 60 7 ((M 60 7) + 1)) N (by decide) h3) ?_
    cases h
    obtain ⟨rfl, rfl⟩ := hK
    exact jb_retv rfl rfl
  · obtain ⟨d, rfl⟩ : ∃ e, d = e + 1 := ⟨d - 1, by omega⟩
    unfold zf_122_J38 at h
    refine jb_seg 10 (pc' := 52) (ls' := [some (.ref 62), some (.int x1), none, none, none, none]) (st' := [(.int (x1 / 4)), (.ref 62)]) (σ' := (zE L, (jb_up M 62 7 ((M 62 7) + 1)), N)) (G := [¬ (4 : Int32) = 0]) rfl (show ¬ (4 : Int32) = 0 from (by decide)) ?_
    obtain ⟨q3, h3, h⟩ := jb_bd_of h
    refine jb_callV (q' := zq_120) (As := [(.int (x1 / 4))]) (rest := []) (σ1 := (zE L, q3, N)) (v := none) rfl rfl zp_120 rfl (by decide) (jb_cat rfl) (Nat.le_of_ble_eq_true rfl) (Nat.le_of_ble_eq_true rfl) (Or.inl rfl) rfl (ze_120 (by omega) 62 24 (x1 / 4) (jb_up M 62 7 ((M 62 7) + 1)) N (by decide) h3) ?_
    cases h
    obtain ⟨rfl, rfl⟩ := hK
    exact jb_retv rfl rfl
set_option maxRecDepth 4000 in
theorem zg_122_J224 {Γ : jb_G} {L : Nat} {d : Nat} (hd : 4 ≤ d) (w : Nat) (o : Nat) (x1 : Int32) (M : jb_Mi) (N : jb_Ml) (hp : (w = 60 ∧ o = 4) ∨ (w = 62 ∧ o = 24)) {v : Option Value} {σ2 : jb_S} {r : (jb_Mi)} (h : zf_122_J224 w o x1 M = some r) (hK : (fun r : jb_Mi => v = none ∧ σ2 = (zE L, r, N)) r) : jb_V Γ d zq_122 224 [some (.ref w), some (.int x1), none, none, none, none] [] (zE L, M, N) v σ2 := by
  rcases hp with ⟨rfl, rfl⟩ | ⟨rfl, rfl⟩
  · obtain ⟨d, rfl⟩ : ∃ e, d = e + 1 := ⟨d - 1, by omega⟩
    unfold zf_122_J224 at h
    refine jb_seg 4 (pc' := 228) (ls' := [some (.ref 60), some (.int x1), none, none, none, none]) (st' := [(.int (x1 / 4)), (.ref 60)]) (σ' := (zE L, M, N)) (G := [¬ (4 : Int32) = 0]) rfl (show ¬ (4 : Int32) = 0 from (by decide)) ?_
    obtain ⟨q12, h12, h⟩ := jb_bd_of h
    refine jb_callV (q' := zq_120) (As := [(.int (x1 / 4))]) (rest := []) (σ1 := (zE L, q12, N)) (v := none) rfl rfl zp_120 rfl (by decide) (jb_cat rfl) (Nat.le_of_ble_eq_true rfl) (Nat.le_of_ble_eq_true rfl) (Or.inl rfl) rfl (ze_120 (by omega) 60 4 (x1 / 4) M N (by decide) h12) ?_
    cases h
    obtain ⟨rfl, rfl⟩ := hK
    exact jb_retv rfl rfl
  · obtain ⟨d, rfl⟩ : ∃ e, d = e + 1 := ⟨d - 1, by omega⟩
    unfold zf_122_J224 at h
    refine jb_seg 4 (pc' := 228) (ls' := [some (.ref 62), some (.int x1), none, none, none, none]) (st' := [(.int (x1 / 4)), (.ref 62)]) (σ' := (zE L, M, N)) (G := [¬ (4 : Int32) = 0]) rfl (show ¬ (4 : Int32) = 0 from (by decide)) ?_
    obtain ⟨q12, h12, h⟩ := jb_bd_of h
    refine jb_callV (q' := zq_120) (As := [(.int (x1 / 4))]) (rest := []) (σ1 := (zE L, q12, N)) (v := none) rfl rfl zp_120 rfl (by decide) (jb_cat rfl) (Nat.le_of_ble_eq_true rfl) (Nat.le_of_ble_eq_true rfl) (Or.inl rfl) rfl (ze_120 (by omega) 62 24 (x1 / 4) M N (by decide) h12) ?_
    cases h
    obtain ⟨rfl, rfl⟩ := hK
    exact jb_retv rfl rfl
set_option maxRecDepth 4000 in
theorem zg_122_J210 {Γ : jb_G} {L : Nat} {d : Nat} (hd : 4 ≤ d) (w : Nat) (o : Nat) (x1 : Int32) (x4 : Int32) (x5 : Int32) (s1 : Int32) (s2 : Int32) (M : jb_Mi) (N : jb_Ml) (hp : (w = 60 ∧ o = 4) ∨ (w = 62 ∧ o = 24)) {v : Option Value} {σ2 : jb_S} {r : (jb_Mi)} (h : zf_122_J210 w o x1 x4 x5 s1 s2 M = some r) (hK : (fun r : jb_Mi => v = none ∧ σ2 = (zE L, r, N)) r) : jb_V Γ d zq_122 210 [some (.ref w), some (.int x1), none, none, some (.int x4), some (.int x5)] [(.int s2), (.int s1), (.ref w)] (zE L, M, N) v σ2 := by
  rcases hp with ⟨rfl, rfl⟩ | ⟨rfl, rfl⟩
  · obtain ⟨d, rfl⟩ : ∃ e, d = e + 1 := ⟨d - 1, by omega⟩
    unfold zf_122_J210 at h
    refine jb_seg 4 (pc' := (if x4 = 0 then 219 else 224)) (ls' := [some (.ref 60), some (.int x1), none, none, some (.int x4), some (.int x5)]) (st' := []) (σ' := (zE L, (jb_up M 60 6 (s1 + s2)), N)) (G := []) rfl trivial ?_
    refine jb_ite (fun c => ?_) (fun c => ?_)
    · rw [if_pos c] at h
      refine jb_seg 2 (pc' := (if x5 = 0 then 231 else 224)) (ls' := [some (.ref 60), some (.int x1), none, none, some (.int x4), some (.int x5)]) (st' := []) (σ' := (zE L, (jb_up M 60 6 (s1 + s2)), N)) (G := []) rfl trivial ?_
      refine jb_ite (fun c => ?_) (fun c => ?_)
      · rw [if_pos c] at h
        cases h
        obtain ⟨rfl, rfl⟩ := hK
        exact jb_retv rfl rfl
      · rw [if_neg c] at h
        exact jb_mask [true, true, false, false, false, false] rfl (zg_122_J224 hd 60 4 x1 (jb_up M 60 6 (s1 + s2)) N (by decide) h hK)
    · rw [if_neg c] at h
      exact jb_mask [true, true, false, false, false, false] rfl (zg_122_J224 hd 60 4 x1 (jb_up M 60 6 (s1 + s2)) N (by decide) h hK)
  · obtain ⟨d, rfl⟩ : ∃ e, d = e + 1 := ⟨d - 1, by omega⟩
    unfold zf_122_J210 at h
    refine jb_seg 4 (pc' := (if x4 = 0 then 219 else 224)) (ls' := [some (.ref 62), some (.int x1), none, none, some (.int x4), some (.int x5)]) (st' := []) (σ' := (zE L, (jb_up M 62 6 (s1 + s2)), N)) (G := []) rfl trivial ?_
    refine jb_ite (fun c => ?_) (fun c => ?_)
    · rw [if_pos c] at h
      refine jb_seg 2 (pc' := (if x5 = 0 then 231 else 224)) (ls' := [some (.ref 62), some (.int x1), none, none, some (.int x4), some (.int x5)]) (st' := []) (σ' := (zE L, (jb_up M 62 6 (s1 + s2)), N)) (G := []) rfl trivial ?_
      refine jb_ite (fun c => ?_) (fun c => ?_)
      · rw [if_pos c] at h
        cases h
        obtain ⟨rfl, rfl⟩ := hK
        exact jb_retv rfl rfl
      · rw [if_neg c] at h
        exact jb_mask [true, true, false, false, false, false] rfl (zg_122_J224 hd 62 24 x1 (jb_up M 62 6 (s1 + s2)) N (by decide) h hK)
    · rw [if_neg c] at h
      exact jb_mask [true, true, false, false, false, false] rfl (zg_122_J224 hd 62 24 x1 (jb_up M 62 6 (s1 + s2)) N (by decide) h hK)
set_option maxRecDepth 4000 in
theorem zg_122_J193 {Γ : jb_G} {L : Nat} {d : Nat} (hd : 4 ≤ d) (w : Nat) (o : Nat) (x1 : Int32) (x4 : Int32) (s0 : Int32) (M : jb_Mi) (N : jb_Ml) (hp : (w = 60 ∧ o = 4) ∨ (w = 62 ∧ o = 24)) {v : Option Value} {σ2 : jb_S} {r : (jb_Mi)} (h : zf_122_J193 w o x1 x4 s0 M = some r) (hK : (fun r : jb_Mi => v = none ∧ σ2 = (zE L, r, N)) r) : jb_V Γ d zq_122 193 [some (.ref w), some (.int x1), none, none, some (.int x4), none] [(.int s0)] (zE L, M, N) v σ2 := by
  rcases hp with ⟨rfl, rfl⟩ | ⟨rfl, rfl⟩
  · obtain ⟨d, rfl⟩ : ∃ e, d = e + 1 := ⟨d - 1, by omega⟩
    unfold zf_122_J193 at h
    refine jb_seg 6 (pc' := (if s0 = 0 then 209 else 205)) (ls' := [some (.ref 60), some (.int x1), none, none, some (.int x4), some (.int s0)]) (st' := [(.int (M 60 6)), (.ref 60)]) (σ' := (zE L, M, N)) (G := []) rfl trivial ?_
    refine jb_ite (fun c => ?_) (fun c => ?_)
    · rw [if_pos c] at h
      refine jb_seg 1 (pc' := 210) (ls' := [some (.ref 60), some (.int x1), none, none, some (.int x4), some (.int s0)]) (st' := [(.int 0), (.int (M 60 6)), (.ref 60)]) (σ' := (zE L, M, N)) (G := []) rfl trivial ?_
      exact jb_mask [true, true, false, false, true, true] rfl (zg_122_J210 hd 60 4 x1 x4 s0 (M 60 6) 0 M N (by decide) h hK)
    · rw [if_neg c] at h
      refine jb_seg 2 (pc' := 210) (ls' := [some (.ref 60), some (.int x1), none, none, some (.int x4), some (.int s0)]) (st' := [(.int 1), (.int (M 60 6)), (.ref 60)]) (σ' := (zE L, M, N)) (G := []) rfl trivial ?_
      exact jb_mask [true, true, false, false, true, true] rfl (zg_122_J210 hd 60 4 x1 x4 s0 (M 60 6) 1 M N (by decide) h hK)
  · obtain ⟨d, rfl⟩ : ∃ e, d = e + 1 := ⟨d - 1, by omega⟩
    unfold zf_122_J193 at h
    refine jb_seg 6 (pc' := (if s0 = 0 then 209 else 205)) (ls' := [some (.ref 62), some (.int x1), none, none, some (.int x4), some (.int s0)]) (st' := [(.int (M 62 6)), (.ref 62)]) (σ' := (zE L, M, N)) (G := []) rfl trivial ?_
    refine jb_ite (fun c => ?_) (fun c => ?_)
    · rw [if_pos c] at h
      refine jb_seg 1 (pc' := 210) (ls' := [some (.ref 62), some (.int x1), none, none, some (.int x4), some (.int s0)]) (st' := [(.int 0), (.int (M 62 6)), (.ref 62)]) (σ' := (zE L, M, N)) (G := []) rfl trivial ?_
      exact jb_mask [true, true, false, false, true, true] rfl (zg_122_J210 hd 62 24 x1 x4 s0 (M 62 6) 0 M N (by decide) h hK)
    · rw [if_neg c] at h
      refine jb_seg 2 (pc' := 210) (ls' := [some (.ref 62), some (.int x1), none, none, some (.int x4), some (.int s0)]) (st' := [(.int 1), (.int (M 62 6)), (.ref 62)]) (σ' := (zE L, M, N)) (G := []) rfl trivial ?_
      exact jb_mask [true, true, false, false, true, true] rfl (zg_122_J210 hd 62 24 x1 x4 s0 (M 62 6) 1 M N (by decide) h hK)
set_option maxRecDepth 4000 in
theorem zg_122_J192 {Γ : jb_G} {L : Nat} {d : Nat} (hd : 4 ≤ d) (w : Nat) (o : Nat) (x1 : Int32) (x4 : Int32) (M : jb_Mi) (N : jb_Ml) (hp : (w = 60 ∧ o = 4) ∨ (w = 62 ∧ o = 24)) {v : Option Value} {σ2 : jb_S} {r : (jb_Mi)} (h : zf_122_J192 w o x1 x4 M = some r) (hK : (fun r : jb_Mi => v = none ∧ σ2 = (zE L, r, N)) r) : jb_V Γ d zq_122 192 [some (.ref w), some (.int x1), none, none, some (.int x4), none] [] (zE L, M, N) v σ2 := by
  rcases hp with ⟨rfl, rfl⟩ | ⟨rfl, rfl⟩
  · obtain ⟨d, rfl⟩ : ∃ e, d = e + 1 := ⟨d - 1, by omega⟩
    unfold zf_122_J192 at h
    refine jb_seg 1 (pc' := 193) (ls' := [some (.ref 60), some (.int x1), none, none, some (.int x4), none]) (st' := [(.int 0)]) (σ' := (zE L, M, N)) (G := []) rfl trivial ?_
    exact jb_mask [true, true, false, false, true, false] rfl (zg_122_J193 hd 60 4 x1 x4 0 M N (by decide) h hK)
  · obtain ⟨d, rfl⟩ : ∃ e, d = e + 1 := ⟨d - 1, by omega⟩
    unfold zf_122_J192 at h
    refine jb_seg 1 (pc' := 193) (ls' := [some (.ref 62), some (.int x1), none, none, some (.int x4), none]) (st' := [(.int 0)]) (σ' := (zE L, M, N)) (G := []) rfl trivial ?_
    exact jb_mask [true, true, false, false, true, false] rfl (zg_122_J193 hd 62 24 x1 x4 0 M N (by decide) h hK)
set_option maxRecDepth 4000 in
theorem zg_122_J160 {Γ : jb_G} {L : Nat} {d : Nat} (hd : 4 ≤ d) (w : Nat) (o : Nat) (x1 : Int32) (s0 : Int32) (M : jb_Mi) (N : jb_Ml) (hp : (w = 60 ∧ o = 4) ∨ (w = 62 ∧ o = 24)) {v : Option Value} {σ2 : jb_S} {r : (jb_Mi)} (h : zf_122_J160 w o x1 s0 M = some r) (hK : (fun r : jb_Mi => v = none ∧ σ2 = (zE L, r, N)) r) : jb_V Γ d zq_122 160 [some (.ref w), some (.int x1), none, none, none, none] [(.int s0)] (zE L, M, N) v σ2 := by
  rcases hp with ⟨rfl, rfl⟩ | ⟨rfl, rfl⟩
  · obtain ⟨d, rfl⟩ : ∃ e, d = e + 1 := ⟨d - 1, by omega⟩
    unfold zf_122_J160 at h
    refine jb_seg 3 (pc' := (if s0 = 0 then 167 else 192)) (ls' := [some (.ref 60), some (.int x1), none, none, some (.int s0), none]) (st' := []) (σ' := (zE L, M, N)) (G := []) rfl trivial ?_
    refine jb_ite (fun c => ?_) (fun c => ?_)
    · rw [if_pos c] at h
      refine jb_seg 2 (pc' := 171) (ls' := [some (.ref 60), some (.int x1), none, none, some (.int s0), none]) (st' := [(.ref 4)]) (σ' := (zE L, M, N)) (G := []) rfl trivial ?_
      refine jb_callV (q' := zq_112) (As := []) (rest := []) (σ1 := (zE L, (zf_112 4 M).2, N)) (v := some (.int (zf_112 4 M).1)) rfl rfl zp_112 rfl (by decide) (jb_cat rfl) (Nat.le_of_ble_eq_true rfl) (Nat.le_of_ble_eq_true rfl) (Or.inl rfl) rfl (ze_112 4 M N (by decide) rfl) ?_
      refine jb_seg 4 (pc' := 182) (ls' := [some (.ref 60), some (.int x1), none, none, some (.int s0), none]) (st' := [(.int 10), (.int 100), (.ref 57), (.int (zf_112 4 M).1)]) (σ' := (zE L, (zf_112 4 M).2, N)) (G := []) rfl trivial ?_
      obtain ⟨q11, h11, h⟩ := jb_bd_of h
      refine jb_callV (q' := zq_68) (As := [(.int 100), (.int 10)]) (rest := [(.int (zf_112 4 M).1)]) (σ1 := (zE L, q11.2, N)) (v := some (.int q11.1)) rfl rfl zp_68 rfl (by decide) (jb_cat rfl) (Nat.le_of_ble_eq_true rfl) (Nat.le_of_ble_eq_true rfl) (Or.inl rfl) rfl (ze_68 (by omega) 100 10 ((zf_112 4 M).2) N h11) ?_
      refine jb_seg 1 (pc' := (if (zf_112 4 M).1 < q11.1 then 188 else 192)) (ls' := [some (.ref 60), some (.int x1), none, none, some (.int s0), none]) (st' := []) (σ' := (zE L, q11.2, N)) (G := []) rfl trivial ?_
      refine jb_ite (fun c => ?_) (fun c => ?_)
      · rw [if_pos c] at h
        refine jb_seg 2 (pc' := 193) (ls' := [some (.ref 60), some (.int x1), none, none, some (.int s0), none]) (st' := [(.int 1)]) (σ' := (zE L, q11.2, N)) (G := []) rfl trivial ?_
        exact jb_mask [true, true, false, false, true, false] rfl (zg_122_J193 hd 60 4 x1 s0 1 q11.2 N (by decide) h hK)
      · rw [if_neg c] at h
        exact jb_mask [true, true, false, false, true, false] rfl (zg_122_J192 hd 60 4 x1 s0 q11.2 N (by decide) h hK)
    · rw [if_neg c] at h
      exact jb_mask [true, true, false, false, true, false] rfl (zg_122_J192 hd 60 4 x1 s0 M N (by decide) h hK)
  · obtain ⟨d, rfl⟩ : ∃ e, d = e + 1 := ⟨d - 1, by omega⟩
    unfold zf_122_J160 at h
    refine jb_seg 3 (pc' := (if s0 = 0 then 167 else 192)) (ls' := [some (.ref 62), some (.int x1), none, none, some (.int s0), none]) (st' := []) (σ' := (zE L, M, N)) (G := []) rfl trivial ?_
    refine jb_ite (fun c => ?_) (fun c => ?_)
    · rw [if_pos c] at h
      refine jb_seg 2 (pc' := 171) (ls' := [some (.ref 62), some (.int x1), none, none, some (.int s0), none]) (st' := [(.ref 24)]) (σ' := (zE L, M, N)) (G := []) rfl trivial ?_
      refine jb_callV (q' := zq_112) (As := []) (rest := []) (σ1 := (zE L, (zf_112 24 M).2, N)) (v := some (.int (zf_112 24 M).1)) rfl rfl zp_112 rfl (by decide) (jb_cat rfl) (Nat.le_of_ble_eq_true rfl) (Nat.le_of_ble_eq_true rfl) (Or.inl rfl) rfl (ze_112 24 M N (by decide) rfl) ?_
      refine jb_seg 4 (pc' := 182) (ls' := [some (.ref 62), some (.int x1), none, none, some (.int s0), none]) (st' := [(.int 10), (.int 100), (.ref 57), (.int (zf_112 24 M).1)]) (σ' := (zE L, (zf_112 24 M).2, N)) (G := []) rfl trivial ?_
      obtain ⟨q11, h11, h⟩ := jb_bd_of h
      refine jb_callV (q' := zq_68) (As := [(.int 100), (.int 10)]) (rest := [(.int (zf_112 24 M).1)]) (σ1 := (zE L, q11.2, N)) (v := some (.int q11.1)) rfl rfl zp_68 rfl (by decide) (jb_cat rfl) (Nat.le_of_ble_eq_true rfl) (Nat.le_of_ble_eq_true rfl) (Or.inl rfl) rfl (ze_68 (by omega) 100 10 ((zf_112 24 M).2) N h11) ?_
      refine jb_seg 1 (pc' := (if (zf_112 24 M).1 < q11.1 then 188 else 192)) (ls' := [some (.ref 62), some (.int x1), none, none, some (.int s0), none]) (st' := []) (σ' := (zE L, q11.2, N)) (G := []) rfl trivial ?_
      refine jb_ite (fun c => ?_) (fun c => ?_)
      · rw [if_pos c] at h
        refine jb_seg 2 (pc' := 193) (ls' := [some (.ref 62), some (.int x1), none, none, some (.int s0), none]) (st' := [(.int 1)]) (σ' := (zE L, q11.2, N)) (G := []) rfl trivial ?_
        exact jb_mask [true, true, false, false, true, false] rfl (zg_122_J193 hd 62 24 x1 s0 1 q11.2 N (by decide) h hK)
      · rw [if_neg c] at h
        exact jb_mask [true, true, false, false, true, false] rfl (zg_122_J192 hd 62 24 x1 s0 q11.2 N (by decide) h hK)
    · rw [if_neg c] at h
      exact jb_mask [true, true, false, false, true, false] rfl (zg_122_J192 hd 62 24 x1 s0 M N (by decide) h hK)
set_option maxRecDepth 4000 in
theorem zg_122_J155 {Γ : jb_G} {L : Nat} {d : Nat} (hd : 4 ≤ d) (w : Nat) (o : Nat) (x1 : Int32) (M : jb_Mi) (N : jb_Ml) (hp : (w = 60 ∧ o = 4) ∨ (w = 62 ∧ o = 24)) {v : Option Value} {σ2 : jb_S} {r : (jb_Mi)} (h : zf_122_J155 w o x1 M = some r) (hK : (fun r : jb_Mi => v = none ∧ σ2 = (zE L, r, N)) r) : jb_V Γ d zq_122 155 [some (.ref w), some (.int x1), none, none, none, none] [] (zE L, M, N) v σ2 := by
  rcases hp with ⟨rfl, rfl⟩ | ⟨rfl, rfl⟩
  · obtain ⟨d, rfl⟩ : ∃ e, d = e + 1 := ⟨d - 1, by omega⟩
    unfold zf_122_J155 at h
    refine jb_seg 2 (pc' := 160) (ls' := [some (.ref 60), some (.int x1), none, none, none, none]) (st' := [(.int 1)]) (σ' := (zE L, M, N)) (G := []) rfl trivial ?_
    exact jb_mask [true, true, false, false, false, false] rfl (zg_122_J160 hd 60 4 x1 1 M N (by decide) h hK)
  · obtain ⟨d, rfl⟩ : ∃ e, d = e + 1 := ⟨d - 1, by omega⟩
    unfold zf_122_J155 at h
    refine jb_seg 2 (pc' := 160) (ls' := [some (.ref 62), some (.int x1), none, none, none, none]) (st' := [(.int 1)]) (σ' := (zE L, M, N)) (G := []) rfl trivial ?_
    exact jb_mask [true, true, false, false, false, false] rfl (zg_122_J160 hd 62 24 x1 1 M N (by decide) h hK)
set_option maxRecDepth 4000 in
theorem zg_122 {Γ : jb_G} {L : Nat} {d : Nat} (hd : 4 ≤ d) (w : Nat) (o : Nat) (x1 : Int32) (M : jb_Mi) (N : jb_Ml) (hp : (w = 60 ∧ o = 4) ∨ (w = 62 ∧ o = 24)) {v : Option Value} {σ2 : jb_S} {r : (jb_Mi)} (h : zf_122 w o x1 M = some r) (hK : (fun r : jb_Mi => v = none ∧ σ2 = (zE L, r, N)) r) : jb_V Γ d zq_122 0 [some (.ref w), some (.int x1), none, none, none, none] [] (zE L, M, N) v σ2 := by
  rcases hp with ⟨rfl, rfl⟩ | ⟨rfl, rfl⟩
  · obtain ⟨d, rfl⟩ : ∃ e, d = e + 1 := ⟨d - 1, by omega⟩
    unfold zf_122 at h
    refine jb_seg 5 (pc' := 9) (ls' := [some (.ref 60), some (.int x1), none, none, none, none]) (st' := [(.ref 4), (.int x1), (.ref 34)]) (σ' := (zE L, M, N)) (G := []) rfl trivial ?_
    refine jb_callV (q' := zq_14) (As := []) (rest := [(.int x1), (.ref 34)]) (σ1 := (zE L, M, N)) (v := some (.int (zf_14 4 M))) rfl rfl zp_14 rfl (by decide) (jb_cat rfl) (Nat.le_of_ble_eq_true rfl) (Nat.le_of_ble_eq_true rfl) (Or.inl rfl) rfl (ze_14 4 M N (by decide) rfl) ?_
    obtain ⟨q1, h1, h⟩ := jb_bd_of h
    refine jb_callV (q' := zq_17) (As := [(.int x1), (.int (zf_14 4 M))]) (rest := []) (σ1 := (zE L, M, N)) (v := some (.int q1)) rfl rfl zp_17 rfl (by decide) (jb_cat rfl) (Nat.le_of_ble_eq_true rfl) (Nat.le_of_ble_eq_true rfl) (Or.inl rfl) rfl (ze_17 (by omega) x1 (zf_14 4 M) M N h1) ?_
    refine jb_seg 4 (pc' := 21) (ls' := [some (.ref 60), some (.int x1), some (.int q1), none, none, none]) (st' := [(.int q1), (.ref 4)]) (σ' := (zE L, M, N)) (G := []) rfl trivial ?_
    obtain ⟨q2, h2, h⟩ := jb_bd_of h
    refine jb_callV (q' := zq_18) (As := [(.int q1)]) (rest := []) (σ1 := (zE L, M, N)) (v := some (.int (jb_b2i q2))) rfl rfl zp_18 rfl (by decide) (jb_cat rfl) (Nat.le_of_ble_eq_true rfl) (Nat.le_of_ble_eq_true rfl) (Or.inl rfl) rfl (ze_18 4 q1 M N (by decide) h2) ?_
    refine jb_seg 1 (pc' := (if (jb_b2i q2) = 0 then 38 else 27)) (ls' := [some (.ref 60), some (.int x1), some (.int q1), none, none, none]) (st' := []) (σ' := (zE L, M, N)) (G := []) rfl trivial ?_
    refine jb_ite (fun c => ?_) (fun c => ?_)
    · rw [if_pos c] at h
      exact jb_mask [true, true, false, false, false, false] rfl (zg_122_J38 hd 60 4 x1 M N (by decide) h hK)
    · rw [if_neg c] at h
      refine jb_seg 7 (pc' := (if (((M 60 4) >>> (q1 &&& 31)) &&& 1) = 0 then 56 else 38)) (ls' := [some (.ref 60), some (.int x1), some (.int q1), none, none, none]) (st' := []) (σ' := (zE L, M, N)) (G := []) rfl trivial ?_
      refine jb_ite (fun c => ?_) (fun c => ?_)
      · rw [if_pos c] at h
        refine jb_seg 11 (pc' := 71) (ls' := [some (.ref 60), some (.int x1), some (.int q1), none, none, none]) (st' := [(.int x1), (.int q1), (.ref 60)]) (σ' := (zE L, (jb_up M 60 4 ((M 60 4) ||| ((1 : Int32) <<< (q1 &&& 31)))), N)) (G := []) rfl trivial ?_
        obtain ⟨q4, h4, h⟩ := jb_bd_of h
        refine jb_callV (q' := zq_121) (As := [(.int q1), (.int x1)]) (rest := []) (σ1 := (zE L, q4, N)) (v := none) rfl rfl zp_121 rfl (by decide) (jb_cat rfl) (Nat.le_of_ble_eq_true rfl) (Nat.le_of_ble_eq_true rfl) (Or.inl rfl) rfl (ze_121 (by omega) 60 4 q1 x1 (jb_up M 60 4 ((M 60 4) ||| ((1 : Int32) <<< (q1 &&& 31)))) N (by decide) h4) ?_
        refine jb_seg 4 (pc' := 82) (ls' := [some (.ref 60), some (.int x1), some (.int q1), none, none, none]) (st' := [(.int 99), (.int 116), (.ref 57)]) (σ' := (zE L, q4, N)) (G := []) rfl trivial ?_
        obtain ⟨q5, h5, h⟩ := jb_bd_of h
        refine jb_callV (q' := zq_68) (As := [(.int 116), (.int 99)]) (rest := []) (σ1 := (zE L, q5.2, N)) (v := some (.int q5.1)) rfl rfl zp_68 rfl (by decide) (jb_cat rfl) (Nat.le_of_ble_eq_true rfl) (Nat.le_of_ble_eq_true rfl) (Or.inl rfl) rfl (ze_68 (by omega) 116 99 q4 N h5) ?_
        obtain ⟨g6, h⟩ := jb_gd_of h
        refine jb_seg 13 (pc' := 107) (ls' := [some (.ref 60), some (.int x1), some (.int q1), some (.int q5.1), none, none]) (st' := [(.int ((q5.2 (4 + 9) q1.toNatClampNeg) + q5.1)), (.int 99), (.int q1), (.ref (4 + 9))]) (σ' := (zE L, q5.2, N)) (G := [vp_in q1 16]) rfl g6 ?_
        refine jb_callS (q' := zq_272) (As := [(.int 99), (.int ((q5.2 (4 + 9) q1.toNatClampNeg) + q5.1))]) (rest := [(.int q1), (.ref (4 + 9))]) (σ1 := (zE L, q5.2, N)) (v := some (.int (zf_272 99 ((q5.2 (4 + 9) q1.toNatClampNeg) + q5.1)))) rfl (by decide) rfl zp_272 (jb_cat rfl) (Nat.le_of_ble_eq_true rfl) (Nat.le_of_ble_eq_true rfl) (Or.inl rfl) rfl (ze_272 99 ((q5.2 (4 + 9) q1.toNatClampNeg) + q5.1) q5.2 N rfl) ?_
        obtain ⟨g7, h⟩ := jb_gd_of h
        obtain ⟨g8, h⟩ := jb_gd_of h
        obtain ⟨g9, h⟩ := jb_gd_of h
        refine jb_seg 18 (pc' := (if ((jb_up (jb_up q5.2 (4 + 9) q1.toNatClampNeg (zf_272 99 ((q5.2 (4 + 9) q1.toNatClampNeg) + q5.1))) 58 2 ((jb_up q5.2 (4 + 9) q1.toNatClampNeg (zf_272 99 ((q5.2 (4 + 9) q1.toNatClampNeg) + q5.1))) (4 + 9) q1.toNatClampNeg)) (4 + 9) q1.toNatClampNeg) < 99 then 143 else 155)) (ls' := [some (.ref 60), some (.int x1), some (.int q1), some (.int q5.1), none, none]) (st' := []) (σ' := (zE L, (jb_up (jb_up q5.2 (4 + 9) q1.toNatClampNeg (zf_272 99 ((q5.2 (4 + 9) q1.toNatClampNeg) + q5.1))) 58 2 ((jb_up q5.2 (4 + 9) q1.toNatClampNeg (zf_272 99 ((q5.2 (4 + 9) q1.toNatClampNeg) + q5.1))) (4 + 9) q1.toNatClampNeg)), N)) (G := [vp_in q1 16, vp_in q1 16, vp_in 2 10, vp_in q1 16]) rfl ⟨g7, g8, (show vp_in 2 10 from (by unfold vp_in; decide)), g9⟩ ?_
        refine jb_ite (fun c => ?_) (fun c => ?_)
        · rw [if_pos c] at h
          refine jb_seg 3 (pc' := 149) (ls' := [some (.ref 60), some (.int x1), some (.int q1), some (.int q5.1), none, none]) (st' := [(.int 120), (.ref 57)]) (σ' := (zE L, (jb_up (jb_up q5.2 (4 + 9) q1.toNatClampNeg (zf_272 99 ((q5.2 (4 + 9) q1.toNatClampNeg) + q5.1))) 58 2 ((jb_up q5.2 (4 + 9) q1.toNatClampNeg (zf_272 99 ((q5.2 (4 + 9) q1.toNatClampNeg) + q5.1))) (4 + 9) q1.toNatClampNeg)), N)) (G := []) rfl trivial ?_
          obtain ⟨q10, h10, h⟩ := jb_bd_of h
          refine jb_callV (q' := zq_67) (As := [(.int 120)]) (rest := []) (σ1 := (zE L, q10.2, N)) (v := some (.int q10.1)) rfl rfl zp_67 rfl (by decide) (jb_cat rfl) (Nat.le_of_ble_eq_true rfl) (Nat.le_of_ble_eq_true rfl) (Or.inl rfl) rfl (ze_67 (by omega) 120 (jb_up (jb_up q5.2 (4 + 9) q1.toNatClampNeg (zf_272 99 ((q5.2 (4 + 9) q1.toNatClampNeg) + q5.1))) 58 2 ((jb_up q5.2 (4 + 9) q1.toNatClampNeg (zf_272 99 ((q5.2 (4 + 9) q1.toNatClampNeg) + q5.1))) (4 + 9) q1.toNatClampNeg)) N h10) ?_
          refine jb_seg 1 (pc' := (if q10.1 < 0 then 159 else 155)) (ls' := [some (.ref 60), some (.int x1), some (.int q1), some (.int q5.1), none, none]) (st' := []) (σ' := (zE L, q10.2, N)) (G := []) rfl trivial ?_
          refine jb_ite (fun c => ?_) (fun c => ?_)
          · rw [if_pos c] at h
            refine jb_seg 1 (pc' := 160) (ls' := [some (.ref 60), some (.int x1), some (.int q1), some (.int q5.1), none, none]) (st' := [(.int 0)]) (σ' := (zE L, q10.2, N)) (G := []) rfl trivial ?_
            exact jb_mask [true, true, false, false, false, false] rfl (zg_122_J160 hd 60 4 x1 0 q10.2 N (by decide) h hK)
          · rw [if_neg c] at h
            exact jb_mask [true, true, false, false, false, false] rfl (zg_122_J155 hd 60 4 x1 q10.2 N (by decide) h hK)
        · rw [if_neg c] at h
          exact jb_mask [true, true, false, false, false, false] rfl (zg_122_J155 hd 60 4 x1 (jb_up (jb_up q5.2 (4 + 9) q1.toNatClampNeg (zf_272 99 ((q5.2 (4 + 9) q1.toNatClampNeg) + q5.1))) 58 2 ((jb_up q5.2 (4 + 9) q1.toNatClampNeg (zf_272 99 ((q5.2 (4 + 9) q1.toNatClampNeg) + q5.1))) (4 + 9) q1.toNatClampNeg)) N (by decide) h hK)
      · rw [if_neg c] at h
        exact jb_mask [true, true, false, false, false, false] rfl (zg_122_J38 hd 60 4 x1 M N (by decide) h hK)
  · obtain ⟨d, rfl⟩ : ∃ e, d = e + 1 := ⟨d - 1, by omega⟩
    unfold zf_122 at h
    refine jb_seg 5 (pc' := 9) (ls' := [some (.ref 62), some (.int x1), none, none, none, none]) (st' := [(.ref 24), (.int x1), (.ref 34)]) (σ' := (zE L, M, N)) (G := []) rfl trivial ?_
    refine jb_callV (q' := zq_14) (As := []) (rest := [(.int x1), (.ref 34)]) (σ1 := (zE L, M, N)) (v := some (.int (zf_14 24 M))) rfl rfl zp_14 rfl (by decide) (jb_cat rfl) (Nat.le_of_ble_eq_true rfl) (Nat.le_of_ble_eq_true rfl) (Or.inl rfl) rfl (ze_14 24 M N (by decide) rfl) ?_
    obtain ⟨q1, h1, h⟩ := jb_bd_of h
    refine jb_callV (q' := zq_17) (As := [(.int x1), (.int (zf_14 24 M))]) (rest := []) (σ1 := (zE L, M, N)) (v := some (.int q1)) rfl rfl zp_17 rfl (by decide) (jb_cat rfl) (Nat.le_of_ble_eq_true rfl) (Nat.le_of_ble_eq_true rfl) (Or.inl rfl) rfl (ze_17 (by omega) x1 (zf_14 24 M) M N h1) ?_
    refine jb_seg 4 (pc' := 21) (ls' := [some (.ref 62), some (.int x1), some (.int q1), none, none, none]) (st' := [(.int q1), (.ref 24)]) (σ' := (zE L, M, N)) (G := []) rfl trivial ?_
    obtain ⟨q2, h2, h⟩ := jb_bd_of h
    refine jb_callV (q' := zq_18) (As := [(.int q1)]) (rest := []) (σ1 := (zE L, M, N)) (v := some (.int (jb_b2i q2))) rfl rfl zp_18 rfl (by decide) (jb_cat rfl) (Nat.le_of_ble_eq_true rfl) (Nat.le_of_ble_eq_true rfl) (Or.inl rfl) rfl (ze_18 24 q1 M N (by decide) h2) ?_
    refine jb_seg 1 (pc' := (if (jb_b2i q2) = 0 then 38 else 27)) (ls' := [some (.ref 62), some (.int x1), some (.int q1), none, none, none]) (st' := []) (σ' := (zE L, M, N)) (G := []) rfl trivial ?_
    refine jb_ite (fun c => ?_) (fun c => ?_)
    · rw [if_pos c] at h
      exact jb_mask [true, true, false, false, false, false] rfl (zg_122_J38 hd 62 24 x1 M N (by decide) h hK)
    · rw [if_neg c] at h
      refine jb_seg 7 (pc' := (if (((M 62 4) >>> (q1 &&& 31)) &&& 1) = 0 then 56 else 38)) (ls' := [some (.ref 62), some (.int x1), some (.int q1), none, none, none]) (st' := []) (σ' := (zE L, M, N)) (G := []) rfl trivial ?_
      refine jb_ite (fun c => ?_) (fun c => ?_)
      · rw [if_pos c] at h
        refine jb_seg 11 (pc' := 71) (ls' := [some (.ref 62), some (.int x1), some (.int q1), none, none, none]) (st' := [(.int x1), (.int q1), (.ref 62)]) (σ' := (zE L, (jb_up M 62 4 ((M 62 4) ||| ((1 : Int32) <<< (q1 &&& 31)))), N)) (G := []) rfl trivial ?_
        obtain ⟨q4, h4, h⟩ := jb_bd_of h
        refine jb_callV (q' := zq_121) (As := [(.int q1), (.int x1)]) (rest := []) (σ1 := (zE L, q4, N)) (v := none) rfl rfl zp_121 rfl (by decide) (jb_cat rfl) (Nat.le_of_ble_eq_true rfl) (Nat.le_of_ble_eq_true rfl) (Or.inl rfl) rfl (ze_121 (by omega) 62 24 q1 x1 (jb_up M 62 4 ((M 62 4) ||| ((1 : Int32) <<< (q1 &&& 31)))) N (by decide) h4) ?_
        refine jb_seg 4 (pc' := 82) (ls' := [some (.ref 62), some (.int x1), some (.int q1), none, none, none]) (st' := [(.int 99), (.int 116), (.ref 57)]) (σ' := (zE L, q4, N)) (G := []) rfl trivial ?_
        obtain ⟨q5, h5, h⟩ := jb_bd_of h
        refine jb_callV (q' := zq_68) (As := [(.int 116), (.int 99)]) (rest := []) (σ1 := (zE L, q5.2, N)) (v := some (.int q5.1)) rfl rfl zp_68 rfl (by decide) (jb_cat rfl) (Nat.le_of_ble_eq_true rfl) (Nat.le_of_ble_eq_true rfl) (Or.inl rfl) rfl (ze_68 (by omega) 116 99 q4 N h5) ?_
        obtain ⟨g6, h⟩ := jb_gd_of h
        refine jb_seg 13 (pc' := 107) (ls' := [some (.ref 62), some (.int x1), some (.int q1), some (.int q5.1), none, none]) (st' := [(.int ((q5.2 (24 + 9) q1.toNatClampNeg) + q5.1)), (.int 99), (.int q1), (.ref (24 + 9))]) (σ' := (zE L, q5.2, N)) (G := [vp_in q1 16]) rfl g6 ?_
        refine jb_callS (q' := zq_272) (As := [(.int 99), (.int ((q5.2 (24 + 9) q1.toNatClampNeg) + q5.1))]) (rest := [(.int q1), (.ref (24 + 9))]) (σ1 := (zE L, q5.2, N)) (v := some (.int (zf_272 99 ((q5.2 (24 + 9) q1.toNatClampNeg) + q5.1)))) rfl (by decide) rfl zp_272 (jb_cat rfl) (Nat.le_of_ble_eq_true rfl) (Nat.le_of_ble_eq_true rfl) (Or.inl rfl) rfl (ze_272 99 ((q5.2 (24 + 9) q1.toNatClampNeg) + q5.1) q5.2 N rfl) ?_
        obtain ⟨g7, h⟩ := jb_gd_of h
        obtain ⟨g8, h⟩ := jb_gd_of h
        obtain ⟨g9, h⟩ := jb_gd_of h
        refine jb_seg 18 (pc' := (if ((jb_up (jb_up q5.2 (24 + 9) q1.toNatClampNeg (zf_272 99 ((q5.2 (24 + 9) q1.toNatClampNeg) + q5.1))) 58 2 ((jb_up q5.2 (24 + 9) q1.toNatClampNeg (zf_272 99 ((q5.2 (24 + 9) q1.toNatClampNeg) + q5.1))) (24 + 9) q1.toNatClampNeg)) (24 + 9) q1.toNatClampNeg) < 99 then 143 else 155)) (ls' := [some (.ref 62), some (.int x1), some (.int q1), some (.int q5.1), none, none]) (st' := []) (σ' := (zE L, (jb_up (jb_up q5.2 (24 + 9) q1.toNatClampNeg (zf_272 99 ((q5.2 (24 + 9) q1.toNatClampNeg) + q5.1))) 58 2 ((jb_up q5.2 (24 + 9) q1.toNatClampNeg (zf_272 99 ((q5.2 (24 + 9) q1.toNatClampNeg) + q5.1))) (24 + 9) q1.toNatClampNeg)), N)) (G := [vp_in q1 16, vp_in q1 16, vp_in 2 10, vp_in q1 16]) rfl ⟨g7, g8, (show vp_in 2 10 from (by unfold vp_in; decide)), g9⟩ ?_
        refine jb_ite (fun c => ?_) (fun c => ?_)
        · rw [if_pos c] at h
          refine jb_seg 3 (pc' := 149) (ls' := [some (.ref 62), some (.int x1), some (.int q1), some (.int q5.1), none, none]) (st' := [(.int 120), (.ref 57)]) (σ' := (zE L, (jb_up (jb_up q5.2 (24 + 9) q1.toNatClampNeg (zf_272 99 ((q5.2 (24 + 9) q1.toNatClampNeg) + q5.1))) 58 2 ((jb_up q5.2 (24 + 9) q1.toNatClampNeg (zf_272 99 ((q5.2 (24 + 9) q1.toNatClampNeg) + q5.1))) (24 + 9) q1.toNatClampNeg)), N)) (G := []) rfl trivial ?_
          obtain ⟨q10, h10, h⟩ := jb_bd_of h
          refine jb_callV (q' := zq_67) (As := [(.int 120)]) (rest := []) (σ1 := (zE L, q10.2, N)) (v := some (.int q10.1)) rfl rfl zp_67 rfl (by decide) (jb_cat rfl) (Nat.le_of_ble_eq_true rfl) (Nat.le_of_ble_eq_true rfl) (Or.inl rfl) rfl (ze_67 (by omega) 120 (jb_up (jb_up q5.2 (24 + 9) q1.toNatClampNeg (zf_272 99 ((q5.2 (24 + 9) q1.toNatClampNeg) + q5.1))) 58 2 ((jb_up q5.2 (24 + 9) q1.toNatClampNeg (zf_272 99 ((q5.2 (24 + 9) q1.toNatClampNeg) + q5.1))) (24 + 9) q1.toNatClampNeg)) N h10) ?_
          refine jb_seg 1 (pc' := (if q10.1 < 0 then 159 else 155)) (ls' := [some (.ref 62), some (.int x1), some (.int q1), some (.int q5.1), none, none]) (st' := []) (σ' := (zE L, q10.2, N)) (G := []) rfl trivial ?_
          refine jb_ite (fun c => ?_) (fun c => ?_)
          · rw [if_pos c] at h
            refine jb_seg 1 (pc' := 160) (ls' := [some (.ref 62), some (.int x1), some (.int q1), some (.int q5.1), none, none]) (st' := [(.int 0)]) (σ' := (zE L, q10.2, N)) (G := []) rfl trivial ?_
            exact jb_mask [true, true, false, false, false, false] rfl (zg_122_J160 hd 62 24 x1 0 q10.2 N (by decide) h hK)
          · rw [if_neg c] at h
            exact jb_mask [true, true, false, false, false, false] rfl (zg_122_J155 hd 62 24 x1 q10.2 N (by decide) h hK)
        · rw [if_neg c] at h
          exact jb_mask [true, true, false, false, false, false] rfl (zg_122_J155 hd 62 24 x1 (jb_up (jb_up q5.2 (24 + 9) q1.toNatClampNeg (zf_272 99 ((q5.2 (24 + 9) q1.toNatClampNeg) + q5.1))) 58 2 ((jb_up q5.2 (24 + 9) q1.toNatClampNeg (zf_272 99 ((q5.2 (24 + 9) q1.toNatClampNeg) + q5.1))) (24 + 9) q1.toNatClampNeg)) N (by decide) h hK)
      · rw [if_neg c] at h
        exact jb_mask [true, true, false, false, false, false] rfl (zg_122_J38 hd 62 24 x1 M N (by decide) h hK)
theorem ze_122 {Γ : jb_G} {L : Nat} {d : Nat} (hd : 4 ≤ d) (w : Nat) (o : Nat) (x1 : Int32) (M : jb_Mi) (N : jb_Ml) (hp : (w = 60 ∧ o = 4) ∨ (w = 62 ∧ o = 24)) {r : (jb_Mi)} (h : zf_122 w o x1 M = some r) : jb_V Γ d zq_122 0 (jb_en 6 [(.ref w), (.int x1)]) [] (zE L, M, N) (none) (zE L, r, N) := zg_122 hd w o x1 M N hp h ⟨rfl, rfl⟩
-- X11_rest
noncomputable def zf_123 (w : Nat) (o : Nat) (x1 : Int32) (M : jb_Mi) : Option (jb_Mi) :=
  (zf_121 w o x1 (-1) M).bind fun q1 => (zf_68 121 99 q1).bind fun q2 => jb_gd x1 16 (jb_gd x1 16 (some (jb_up q2.2 (o + 9) x1.toNatClampNeg (zf_271 0 ((q2.2 (o + 9) x1.toNatClampNeg) - q2.1)))))
set_option maxRecDepth 4000 in
theorem zg_123 {Γ : jb_G} {L : Nat} {d : Nat} (hd : 4 ≤ d) (w : Nat) (o : Nat) (x1 : Int32) (M : jb_Mi) (N : jb_Ml) (hp : (w = 60 ∧ o = 4) ∨ (w = 62 ∧ o = 24)) {v : Option Value} {σ2 : jb_S} {r : (jb_Mi)} (h : zf_123 w o x1 M = some r) (hK : (fun r : jb_Mi => v = none ∧ σ2 = (zE L, r, N)) r) : jb_V Γ d zq_123 0 [some (.ref w), some (.int x1), none] [] (zE L, M, N) v σ2 := by
  rcases hp with ⟨rfl, rfl⟩ | ⟨rfl, rfl⟩
  · obtain ⟨d, rfl⟩ : ∃ e, d = e + 1 := ⟨d - 1, by omega⟩
    unfold zf_123 at h
    refine jb_seg 3 (pc' := 3) (ls' := [some (.ref 60), some (.int x1), none]) (st' := [(.int (-1)), (.int x1), (.ref 60)]) (σ' := (zE L, M, N)) (G := []) rfl trivial ?_
    obtain ⟨q1, h1, h⟩ := jb_bd_of h
    refine jb_callV (q' := zq_121) (As := [(.int x1), (.int (-1))]) (rest := []) (σ1 := (zE L, q1, N)) (v := none) rfl rfl zp_121 rfl (by decide) (jb_cat rfl) (Nat.le_of_ble_eq_true rfl) (Nat.le_of_ble_eq_true rfl) (Or.inl rfl) rfl (ze_121 (by omega) 60 4 x1 (-1) M N (by decide) h1) ?_
    refine jb_seg 4 (pc' := 14) (ls' := [some (.ref 60), some (.int x1), none]) (st' := [(.int 99), (.int 121), (.ref 57)]) (σ' := (zE L, q1, N)) (G := []) rfl trivial ?_
    obtain ⟨q2, h2, h⟩ := jb_bd_of h
    refine jb_callV (q' := zq_68) (As := [(.int 121), (.int 99)]) (rest := []) (σ1 := (zE L, q2.2, N)) (v := some (.int q2.1)) rfl rfl zp_68 rfl (by decide) (jb_cat rfl) (Nat.le_of_ble_eq_true rfl) (Nat.le_of_ble_eq_true rfl) (Or.inl rfl) rfl (ze_68 (by omega) 121 99 q1 N h2) ?_
    obtain ⟨g3, h⟩ := jb_gd_of h
    refine jb_seg 13 (pc' := 38) (ls' := [some (.ref 60), some (.int x1), some (.int q2.1)]) (st' := [(.int ((q2.2 (4 + 9) x1.toNatClampNeg) - q2.1)), (.int 0), (.int x1), (.ref (4 + 9))]) (σ' := (zE L, q2.2, N)) (G := [vp_in x1 16]) rfl g3 ?_
    refine jb_callS (q' := zq_271) (As := [(.int 0), (.int ((q2.2 (4 + 9) x1.toNatClampNeg) - q2.1))]) (rest := [(.int x1), (.ref (4 + 9))]) (σ1 := (zE L, q2.2, N)) (v := some (.int (zf_271 0 ((q2.2 (4 + 9) x1.toNatClampNeg) - q2.1)))) rfl (by decide) rfl zp_271 (jb_cat rfl) (Nat.le_of_ble_eq_true rfl) (Nat.le_of_ble_eq_true rfl) (Or.inl rfl) rfl (ze_271 0 ((q2.2 (4 + 9) x1.toNatClampNeg) - q2.1) q2.2 N rfl) ?_
    obtain ⟨g4, h⟩ := jb_gd_of h
    refine jb_seg 1 (pc' := 42) (ls' := [some (.ref 60), some (.int x1), some (.int q2.1)]) (st' := []) (σ' := (zE L, (jb_up q2.2 (4 + 9) x1.toNatClampNeg (zf_271 0 ((q2.2 (4 + 9) x1.toNatClampNeg) - q2.1))), N)) (G := [vp_in x1 16]) rfl g4 ?_
    cases h
    obtain ⟨rfl, rfl⟩ := hK
    exact jb_retv rfl rfl
  · obtain ⟨d, rfl⟩ : ∃ e, d = e + 1 := ⟨d - 1, by omega⟩
    unfold zf_123 at h
    refine jb_seg 3 (pc' := 3) (ls' := [some (.ref 62), some (.int x1), none]) (st' := [(.int (-1)), (.int x1), (.ref 62)]) (σ' := (zE L, M, N)) (G := []) rfl trivial ?_
    obtain ⟨q1, h1, h⟩ := jb_bd_of h
    refine jb_callV (q' := zq_121) (As := [(.int x1), (.int (-1))]) (rest := []) (σ1 := (zE L, q1, N)) (v := none) rfl rfl zp_121 rfl (by decide) (jb_cat rfl) (Nat.le_of_ble_eq_true rfl) (Nat.le_of_ble_eq_true rfl) (Or.inl rfl) rfl (ze_121 (by omega) 62 24 x1 (-1) M N (by decide) h1) ?_
    refine jb_seg 4 (pc' := 14) (ls' := [some (.ref 62), some (.int x1), none]) (st' := [(.int 99), (.int 121), (.ref 57)]) (σ' := (zE L, q1, N)) (G := []) rfl trivial ?_
    obtain ⟨q2, h2, h⟩ := jb_bd_of h
    refine jb_callV (q' := zq_68) (As := [(.int 121), (.int 99)]) (rest := []) (σ1 := (zE L, q2.2, N)) (v := some (.int q2.1)) rfl rfl zp_68 rfl (by decide) (jb_cat rfl) (Nat.le_of_ble_eq_true rfl) (Nat.le_of_ble_eq_true rfl) (Or.inl rfl) rfl (ze_68 (by omega) 121 99 q1 N h2) ?_
    obtain ⟨g3, h⟩ := jb_gd_of h
    refine jb_seg 13 (pc' := 38) (ls' := [some (.ref 62), some (.int x1), some (.int q2.1)]) (st' := [(.int ((q2.2 (24 + 9) x1.toNatClampNeg) - q2.1)), (.int 0), (.int x1), (.ref (24 + 9))]) (σ' := (zE L, q2.2, N)) (G := [vp_in x1 16]) rfl g3 ?_
    refine jb_callS (q' := zq_271) (As := [(.int 0), (.int ((q2.2 (24 + 9) x1.toNatClampNeg) - q2.1))]) (rest := [(.int x1), (.ref (24 + 9))]) (σ1 := (zE L, q2.2, N)) (v := some (.int (zf_271 0 ((q2.2 (24 + 9) x1.toNatClampNeg) - q2.1)))) rfl (by decide) rfl zp_271 (jb_cat rfl) (Nat.le_of_ble_eq_true rfl) (Nat.le_of_ble_eq_true rfl) (Or.inl rfl) rfl (ze_271 0 ((q2.2 (24 + 9) x1.toNatClampNeg) - q2.1) q2.2 N rfl) ?_
    obtain ⟨g4, h⟩ := jb_gd_of h
    refine jb_seg 1 (pc' := 42) (ls' := [some (.ref 62), some (.int x1), some (.int q2.1)]) (st' := []) (σ' := (zE L, (jb_up q2.2 (24 + 9) x1.toNatClampNeg (zf_271 0 ((q2.2 (24 + 9) x1.toNatClampNeg) - q2.1))), N)) (G := [vp_in x1 16]) rfl g4 ?_
    cases h
    obtain ⟨rfl, rfl⟩ := hK
    exact jb_retv rfl rfl
theorem ze_123 {Γ : jb_G} {L : Nat} {d : Nat} (hd : 4 ≤ d) (w : Nat) (o : Nat) (x1 : Int32) (M : jb_Mi) (N : jb_Ml) (hp : (w = 60 ∧ o = 4) ∨ (w = 62 ∧ o = 24)) {r : (jb_Mi)} (h : zf_123 w o x1 M = some r) : jb_V Γ d zq_123 0 (jb_en 3 [(.ref w), (.int x1)]) [] (zE L, M, N) (none) (zE L, r, N) := zg_123 hd w o x1 M N hp h ⟨rfl, rfl⟩
-- X11_pass
noncomputable def zf_124_J42 (w : Nat) (o : Nat) (x1 : Int32) (M : jb_Mi) : Option ((Int32 × jb_Mi) ⊕ (jb_Mi)) :=
  some (.inl ((x1 + 1), M))
noncomputable def zf_124_J83 (w : Nat) (o : Nat) (x1 : Int32) (M : jb_Mi) : Option ((Int32 × jb_Mi) ⊕ (jb_Mi)) :=
  some (.inl ((x1 + 1), M))
noncomputable def zf_124_H50 (w : Nat) (o : Nat) (s : Int32 × jb_Mi) : Option ((Int32 × jb_Mi) ⊕ (jb_Mi)) :=
  if s.1 < 16 then (zf_18 o s.1 s.2).bind fun q3 => if (jb_b2i q3) = 0 then zf_124_J83 w o s.1 s.2 else if (((s.2 w 4) >>> (s.1 &&& 31)) &&& 1) = 0 then (zf_123 w o s.1 s.2).bind fun q4 => zf_124_J83 w o s.1 q4 else zf_124_J83 w o s.1 s.2 else some (.inr (zf_111 o s.2))
noncomputable def zf_124_H18 (w : Nat) (o : Nat) (s : Int32 × jb_Mi) : Option ((Int32 × jb_Mi) ⊕ (jb_Mi)) :=
  if s.1 < 24 then (zf_37 o (s.1 / 4) s.2).bind fun q1 => if (jb_b2i q1) = 0 then zf_124_J42 w o s.1 s.2 else (zf_122 w o s.1 s.2).bind fun q2 => zf_124_J42 w o s.1 q2 else ((jb_lp (zf_124_H50 w o) (0, s.2)).map .inr)
noncomputable def zf_124 (w : Nat) (o : Nat) (M : jb_Mi) : Option (jb_Mi) :=
  if (jb_b2i (zf_110 o M)) = 0 then jb_lp (zf_124_H18 w o) (0, (jb_up M w 4 0)) else some M
set_option maxRecDepth 4000 in
theorem zg_124_J42 {Γ : jb_G} {L : Nat} {d : Nat} (hd : 5 ≤ d) (w : Nat) (o : Nat) (x1 : Int32) (M : jb_Mi) (N : jb_Ml) (hp : (w = 60 ∧ o = 4) ∨ (w = 62 ∧ o = 24)) {v : Option Value} {σ2 : jb_S} {r : ((Int32 × jb_Mi) ⊕ (jb_Mi))} (h : zf_124_J42 w o x1 M = some r) (hK : (jb_K (fun s : Int32 × jb_Mi => jb_V Γ d zq_124 18 [some (.ref w), some (.int s.1)] [] (zE L, s.2, N) v σ2) (fun r : jb_Mi => v = none ∧ σ2 = (zE L, r, N))) r) : jb_V Γ d zq_124 42 [some (.ref w), some (.int x1)] [] (zE L, M, N) v σ2 := by
  rcases hp with ⟨rfl, rfl⟩ | ⟨rfl, rfl⟩
  · obtain ⟨d, rfl⟩ : ∃ e, d = e + 1 := ⟨d - 1, by omega⟩
    unfold zf_124_J42 at h
    refine jb_seg 2 (pc' := 18) (ls' := [some (.ref 60), some (.int (x1 + 1))]) (st' := []) (σ' := (zE L, M, N)) (G := []) rfl trivial ?_
    cases h
    exact jb_mask [true, true] rfl hK
  · obtain ⟨d, rfl⟩ : ∃ e, d = e + 1 := ⟨d - 1, by omega⟩
    unfold zf_124_J42 at h
    refine jb_seg 2 (pc' := 18) (ls' := [some (.ref 62), some (.int (x1 + 1))]) (st' := []) (σ' := (zE L, M, N)) (G := []) rfl trivial ?_
    cases h
    exact jb_mask [true, true] rfl hK
set_option maxRecDepth 4000 in
theorem zg_124_J83 {Γ : jb_G} {L : Nat} {d : Nat} (hd : 5 ≤ d) (w : Nat) (o : Nat) (x1 : Int32) (M : jb_Mi) (N : jb_Ml) (hp : (w = 60 ∧ o = 4) ∨ (w = 62 ∧ o = 24)) {v : Option Value} {σ2 : jb_S} {r : ((Int32 × jb_Mi) ⊕ (jb_Mi))} (h : zf_124_J83 w o x1 M = some r) (hK : (jb_K (fun s : Int32 × jb_Mi => jb_V Γ d zq_124 50 [some (.ref w), some (.int s.1)] [] (zE L, s.2, N) v σ2) (fun r : jb_Mi => v = none ∧ σ2 = (zE L, r, N))) r) : jb_V Γ d zq_124 83 [some (.ref w), some (.int x1)] [] (zE L, M, N) v σ2 := by
  rcases hp with ⟨rfl, rfl⟩ | ⟨rfl, rfl⟩
  · obtain ⟨d, rfl⟩ : ∃ e, d = e + 1 := ⟨d - 1, by omega⟩
    unfold zf_124_J83 at h
    refine jb_seg 2 (pc' := 50) (ls' := [some (.ref 60), some (.int (x1 + 1))]) (st' := []) (σ' := (zE L, M, N)) (G := []) rfl trivial ?_
    cases h
    exact jb_mask [true, true] rfl hK
  · obtain ⟨d, rfl⟩ : ∃ e, d = e + 1 := ⟨d - 1, by omega⟩
    unfold zf_124_J83 at h
    refine jb_seg 2 (pc' := 50) (ls' := [some (.ref 62), some (.int (x1 + 1))]) (st' := []) (σ' := (zE L, M, N)) (G := []) rfl trivial ?_
    cases h
    exact jb_mask [true, true] rfl hK
set_option maxRecDepth 4000 in
theorem zg_124_H50 {Γ : jb_G} {L : Nat} {d : Nat} (hd : 5 ≤ d) (w : Nat) (o : Nat) (N : jb_Ml) (s : Int32 × jb_Mi) (hp : (w = 60 ∧ o = 4) ∨ (w = 62 ∧ o = 24)) {v : Option Value} {σ2 : jb_S} {r : ((Int32 × jb_Mi) ⊕ (jb_Mi))} (h : zf_124_H50 w o s = some r) (hK : (jb_K (fun s : Int32 × jb_Mi => jb_V Γ d zq_124 50 [some (.ref w), some (.int s.1)] [] (zE L, s.2, N) v σ2) (fun r : jb_Mi => v = none ∧ σ2 = (zE L, r, N))) r) : jb_V Γ d zq_124 50 [some (.ref w), some (.int s.1)] [] (zE L, s.2, N) v σ2 := by
  rcases hp with ⟨rfl, rfl⟩ | ⟨rfl, rfl⟩
  · obtain ⟨d, rfl⟩ : ∃ e, d = e + 1 := ⟨d - 1, by omega⟩
    unfold zf_124_H50 at h
    refine jb_seg 3 (pc' := (if s.1 < 16 then 56 else 89)) (ls' := [some (.ref 60), some (.int s.1)]) (st' := []) (σ' := (zE L, s.2, N)) (G := []) rfl trivial ?_
    refine jb_ite (fun c => ?_) (fun c => ?_)
    · rw [if_pos c] at h
      refine jb_seg 3 (pc' := 61) (ls' := [some (.ref 60), some (.int s.1)]) (st' := [(.int s.1), (.ref 4)]) (σ' := (zE L, s.2, N)) (G := []) rfl trivial ?_
      obtain ⟨q3, h3, h⟩ := jb_bd_of h
      refine jb_callV (q' := zq_18) (As := [(.int s.1)]) (rest := []) (σ1 := (zE L, s.2, N)) (v := some (.int (jb_b2i q3))) rfl rfl zp_18 rfl (by decide) (jb_cat rfl) (Nat.le_of_ble_eq_true rfl) (Nat.le_of_ble_eq_true rfl) (Or.inl rfl) rfl (ze_18 4 s.1 s.2 N (by decide) h3) ?_
      refine jb_seg 1 (pc' := (if (jb_b2i q3) = 0 then 83 else 67)) (ls' := [some (.ref 60), some (.int s.1)]) (st' := []) (σ' := (zE L, s.2, N)) (G := []) rfl trivial ?_
      refine jb_ite (fun c => ?_) (fun c => ?_)
      · rw [if_pos c] at h
        exact jb_mask [true, true] rfl (zg_124_J83 hd 60 4 s.1 s.2 N (by decide) h hK)
      · rw [if_neg c] at h
        refine jb_seg 7 (pc' := (if (((s.2 60 4) >>> (s.1 &&& 31)) &&& 1) = 0 then 78 else 83)) (ls' := [some (.ref 60), some (.int s.1)]) (st' := []) (σ' := (zE L, s.2, N)) (G := []) rfl trivial ?_
        refine jb_ite (fun c => ?_) (fun c => ?_)
        · rw [if_pos c] at h
          refine jb_seg 2 (pc' := 80) (ls' := [some (.ref 60), some (.int s.1)]) (st' := [(.int s.1), (.ref 60)]) (σ' := (zE L, s.2, N)) (G := []) rfl trivial ?_
          obtain ⟨q4, h4, h⟩ := jb_bd_of h
          refine jb_callV (q' := zq_123) (As := [(.int s.1)]) (rest := []) (σ1 := (zE L, q4, N)) (v := none) rfl rfl zp_123 rfl (by decide) (jb_cat rfl) (Nat.le_of_ble_eq_true rfl) (Nat.le_of_ble_eq_true rfl) (Or.inl rfl) rfl (ze_123 (by omega) 60 4 s.1 s.2 N (by decide) h4) ?_
          exact jb_mask [true, true] rfl (zg_124_J83 hd 60 4 s.1 q4 N (by decide) h hK)
        · rw [if_neg c] at h
          exact jb_mask [true, true] rfl (zg_124_J83 hd 60 4 s.1 s.2 N (by decide) h hK)
    · rw [if_neg c] at h
      refine jb_seg 2 (pc' := 93) (ls' := [some (.ref 60), some (.int s.1)]) (st' := [(.ref 4)]) (σ' := (zE L, s.2, N)) (G := []) rfl trivial ?_
      refine jb_callV (q' := zq_111) (As := []) (rest := []) (σ1 := (zE L, (zf_111 4 s.2), N)) (v := none) rfl rfl zp_111 rfl (by decide) (jb_cat rfl) (Nat.le_of_ble_eq_true rfl) (Nat.le_of_ble_eq_true rfl) (Or.inl rfl) rfl (ze_111 4 s.2 N (by decide) rfl) ?_
      cases h
      obtain ⟨rfl, rfl⟩ := hK
      exact jb_retv rfl rfl
  · obtain ⟨d, rfl⟩ : ∃ e, d = e + 1 := ⟨d - 1, by omega⟩
    unfold zf_124_H50 at h
    refine jb_seg 3 (pc' := (if s.1 < 16 then 56 else 89)) (ls' := [some (.ref 62), some (.int s.1)]) (st' := []) (σ' := (zE L, s.2, N)) (G := []) rfl trivial ?_
    refine jb_ite (fun c => ?_) (fun c => ?_)
    · rw [if_pos c] at h
      refine jb_seg 3 (pc' := 61) (ls' := [some (.ref 62), some (.int s.1)]) (st' := [(.int s.1), (.ref 24)]) (σ' := (zE L, s.2, N)) (G := []) rfl trivial ?_
      obtain ⟨q3, h3, h⟩ := jb_bd_of h
      refine jb_callV (q' := zq_18) (As := [(.int s.1)]) (rest := []) (σ1 := (zE L, s.2, N)) (v := some (.int (jb_b2i q3))) rfl rfl zp_18 rfl (by decide) (jb_cat rfl) (Nat.le_of_ble_eq_true rfl) (Nat.le_of_ble_eq_true rfl) (Or.inl rfl) rfl (ze_18 24 s.1 s.2 N (by decide) h3) ?_
      refine jb_seg 1 (pc' := (if (jb_b2i q3) = 0 then 83 else 67)) (ls' := [some (.ref 62), some (.int s.1)]) (st' := []) (σ' := (zE L, s.2, N)) (G := []) rfl trivial ?_
      refine jb_ite (fun c => ?_) (fun c => ?_)
      · rw [if_pos c] at h
        exact jb_mask [true, true] rfl (zg_124_J83 hd 62 24 s.1 s.2 N (by decide) h hK)
      · rw [if_neg c] at h
        refine jb_seg 7 (pc' := (if (((s.2 62 4) >>> (s.1 &&& 31)) &&& 1) = 0 then 78 else 83)) (ls' := [some (.ref 62), some (.int s.1)]) (st' := []) (σ' := (zE L, s.2, N)) (G := []) rfl trivial ?_
        refine jb_ite (fun c => ?_) (fun c => ?_)
        · rw [if_pos c] at h
          refine jb_seg 2 (pc' := 80) (ls' := [some (.ref 62), some (.int s.1)]) (st' := [(.int s.1), (.ref 62)]) (σ' := (zE L, s.2, N)) (G := []) rfl trivial ?_
          obtain ⟨q4, h4, h⟩ := jb_bd_of h
          refine jb_callV (q' := zq_123) (As := [(.int s.1)]) (rest := []) (σ1 := (zE L, q4, N)) (v := none) rfl rfl zp_123 rfl (by decide) (jb_cat rfl) (Nat.le_of_ble_eq_true rfl) (Nat.le_of_ble_eq_true rfl) (Or.inl rfl) rfl (ze_123 (by omega) 62 24 s.1 s.2 N (by decide) h4) ?_
          exact jb_mask [true, true] rfl (zg_124_J83 hd 62 24 s.1 q4 N (by decide) h hK)
        · rw [if_neg c] at h
          exact jb_mask [true, true] rfl (zg_124_J83 hd 62 24 s.1 s.2 N (by decide) h hK)
    · rw [if_neg c] at h
      refine jb_seg 2 (pc' := 93) (ls' := [some (.ref 62), some (.int s.1)]) (st' := [(.ref 24)]) (σ' := (zE L, s.2, N)) (G := []) rfl trivial ?_
      refine jb_callV (q' := zq_111) (As := []) (rest := []) (σ1 := (zE L, (zf_111 24 s.2), N)) (v := none) rfl rfl zp_111 rfl (by decide) (jb_cat rfl) (Nat.le_of_ble_eq_true rfl) (Nat.le_of_ble_eq_true rfl) (Or.inl rfl) rfl (ze_111 24 s.2 N (by decide) rfl) ?_
      cases h
      obtain ⟨rfl, rfl⟩ := hK
      exact jb_retv rfl rfl
theorem zg_124_H50L {Γ : jb_G} {L : Nat} {d : Nat} (hd : 5 ≤ d) (w : Nat) (o : Nat) (N : jb_Ml) (hp : (w = 60 ∧ o = 4) ∨ (w = 62 ∧ o = 24)) {v : Option Value} {σ2 : jb_S} {s : Int32 × jb_Mi} {r : (jb_Mi)} (h : jb_lp (zf_124_H50 w o) s = some r) (hK : (fun r : jb_Mi => v = none ∧ σ2 = (zE L, r, N)) r) : jb_V Γ d zq_124 50 [some (.ref w), some (.int s.1)] [] (zE L, s.2, N) v σ2 := by
  exact jb_lp_ind (P := fun s => jb_V Γ d zq_124 50 [some (.ref w), some (.int s.1)] [] (zE L, s.2, N) v σ2) (K := (fun r : jb_Mi => v = none ∧ σ2 = (zE L, r, N))) (fun s r h hk => zg_124_H50 hd w o N s hp h (by cases r <;> exact hk)) h hK
set_option maxRecDepth 4000 in
theorem zg_124_H18 {Γ : jb_G} {L : Nat} {d : Nat} (hd : 5 ≤ d) (w : Nat) (o : Nat) (N : jb_Ml) (s : Int32 × jb_Mi) (hp : (w = 60 ∧ o = 4) ∨ (w = 62 ∧ o = 24)) {v : Option Value} {σ2 : jb_S} {r : ((Int32 × jb_Mi) ⊕ (jb_Mi))} (h : zf_124_H18 w o s = some r) (hK : (jb_K (fun s : Int32 × jb_Mi => jb_V Γ d zq_124 18 [some (.ref w), some (.int s.1)] [] (zE L, s.2, N) v σ2) (fun r : jb_Mi => v = none ∧ σ2 = (zE L, r, N))) r) : jb_V Γ d zq_124 18 [some (.ref w), some (.int s.1)] [] (zE L, s.2, N) v σ2 := by
  rcases hp with ⟨rfl, rfl⟩ | ⟨rfl, rfl⟩
  · obtain ⟨d, rfl⟩ : ∃ e, d = e + 1 := ⟨d - 1, by omega⟩
    unfold zf_124_H18 at h
    refine jb_seg 3 (pc' := (if s.1 < 24 then 24 else 48)) (ls' := [some (.ref 60), some (.int s.1)]) (st' := []) (σ' := (zE L, s.2, N)) (G := []) rfl trivial ?_
    refine jb_ite (fun c => ?_) (fun c => ?_)
    · rw [if_pos c] at h
      refine jb_seg 5 (pc' := 31) (ls' := [some (.ref 60), some (.int s.1)]) (st' := [(.int (s.1 / 4)), (.ref 4)]) (σ' := (zE L, s.2, N)) (G := [¬ (4 : Int32) = 0]) rfl (show ¬ (4 : Int32) = 0 from (by decide)) ?_
      obtain ⟨q1, h1, h⟩ := jb_bd_of h
      refine jb_callV (q' := zq_37) (As := [(.int (s.1 / 4))]) (rest := []) (σ1 := (zE L, s.2, N)) (v := some (.int (jb_b2i q1))) rfl rfl zp_37 rfl (by decide) (jb_cat rfl) (Nat.le_of_ble_eq_true rfl) (Nat.le_of_ble_eq_true rfl) (Or.inl rfl) rfl (ze_37 4 (s.1 / 4) s.2 N (by decide) h1) ?_
      refine jb_seg 1 (pc' := (if (jb_b2i q1) = 0 then 42 else 37)) (ls' := [some (.ref 60), some (.int s.1)]) (st' := []) (σ' := (zE L, s.2, N)) (G := []) rfl trivial ?_
      refine jb_ite (fun c => ?_) (fun c => ?_)
      · rw [if_pos c] at h
        exact jb_mask [true, true] rfl (zg_124_J42 hd 60 4 s.1 s.2 N (by decide) h hK)
      · rw [if_neg c] at h
        refine jb_seg 2 (pc' := 39) (ls' := [some (.ref 60), some (.int s.1)]) (st' := [(.int s.1), (.ref 60)]) (σ' := (zE L, s.2, N)) (G := []) rfl trivial ?_
        obtain ⟨q2, h2, h⟩ := jb_bd_of h
        refine jb_callV (q' := zq_122) (As := [(.int s.1)]) (rest := []) (σ1 := (zE L, q2, N)) (v := none) rfl rfl zp_122 rfl (by decide) (jb_cat rfl) (Nat.le_of_ble_eq_true rfl) (Nat.le_of_ble_eq_true rfl) (Or.inl rfl) rfl (ze_122 (by omega) 60 4 s.1 s.2 N (by decide) h2) ?_
        exact jb_mask [true, true] rfl (zg_124_J42 hd 60 4 s.1 q2 N (by decide) h hK)
    · rw [if_neg c] at h
      refine jb_seg 2 (pc' := 50) (ls' := [some (.ref 60), some (.int 0)]) (st' := []) (σ' := (zE L, s.2, N)) (G := []) rfl trivial ?_
      obtain ⟨y0, hy0, rfl⟩ := jb_mp_of h
      exact jb_mask [true, true] rfl (zg_124_H50L hd 60 4 N (by decide) hy0 hK)
  · obtain ⟨d, rfl⟩ : ∃ e, d = e + 1 := ⟨d - 1, by omega⟩
    unfold zf_124_H18 at h
    refine jb_seg 3 (pc' := (if s.1 < 24 then 24 else 48)) (ls' := [some (.ref 62), some (.int s.1)]) (st' := []) (σ' := (zE L, s.2, N)) (G := []) rfl trivial ?_
    refine jb_ite (fun c => ?_) (fun c => ?_)
    · rw [if_pos c] at h
      refine jb_seg 5 (pc' := 31) (ls' := [some (.ref 62), some (.int s.1)]) (st' := [(.int (s.1 / 4)), (.ref 24)]) (σ' := (zE L, s.2, N)) (G := [¬ (4 : Int32) = 0]) rfl (show ¬ (4 : Int32) = 0 from (by decide)) ?_
      obtain ⟨q1, h1, h⟩ := jb_bd_of h
      refine jb_callV (q' := zq_37) (As := [(.int (s.1 / 4))]) (rest := []) (σ1 := (zE L, s.2, N)) (v := some (.int (jb_b2i q1))) rfl rfl zp_37 rfl (by decide) (jb_cat rfl) (Nat.le_of_ble_eq_true rfl) (Nat.le_of_ble_eq_true rfl) (Or.inl rfl) rfl (ze_37 24 (s.1 / 4) s.2 N (by decide) h1) ?_
      refine jb_seg 1 (pc' := (if (jb_b2i q1) = 0 then 42 else 37)) (ls' := [some (.ref 62), some (.int s.1)]) (st' := []) (σ' := (zE L, s.2, N)) (G := []) rfl trivial ?_
      refine jb_ite (fun c => ?_) (fun c => ?_)
      · rw [if_pos c] at h
        exact jb_mask [true, true] rfl (zg_124_J42 hd 62 24 s.1 s.2 N (by decide) h hK)
      · rw [if_neg c] at h
        refine jb_seg 2 (pc' := 39) (ls' := [some (.ref 62), some (.int s.1)]) (st' := [(.int s.1), (.ref 62)]) (σ' := (zE L, s.2, N)) (G := []) rfl trivial ?_
        obtain ⟨q2, h2, h⟩ := jb_bd_of h
        refine jb_callV (q' := zq_122) (As := [(.int s.1)]) (rest := []) (σ1 := (zE L, q2, N)) (v := none) rfl rfl zp_122 rfl (by decide) (jb_cat rfl) (Nat.le_of_ble_eq_true rfl) (Nat.le_of_ble_eq_true rfl) (Or.inl rfl) rfl (ze_122 (by omega) 62 24 s.1 s.2 N (by decide) h2) ?_
        exact jb_mask [true, true] rfl (zg_124_J42 hd 62 24 s.1 q2 N (by decide) h hK)
    · rw [if_neg c] at h
      refine jb_seg 2 (pc' := 50) (ls' := [some (.ref 62), some (.int 0)]) (st' := []) (σ' := (zE L, s.2, N)) (G := []) rfl trivial ?_
      obtain ⟨y0, hy0, rfl⟩ := jb_mp_of h
      exact jb_mask [true, true] rfl (zg_124_H50L hd 62 24 N (by decide) hy0 hK)
theorem zg_124_H18L {Γ : jb_G} {L : Nat} {d : Nat} (hd : 5 ≤ d) (w : Nat) (o : Nat) (N : jb_Ml) (hp : (w = 60 ∧ o = 4) ∨ (w = 62 ∧ o = 24)) {v : Option Value} {σ2 : jb_S} {s : Int32 × jb_Mi} {r : (jb_Mi)} (h : jb_lp (zf_124_H18 w o) s = some r) (hK : (fun r : jb_Mi => v = none ∧ σ2 = (zE L, r, N)) r) : jb_V Γ d zq_124 18 [some (.ref w), some (.int s.1)] [] (zE L, s.2, N) v σ2 := by
  exact jb_lp_ind (P := fun s => jb_V Γ d zq_124 18 [some (.ref w), some (.int s.1)] [] (zE L, s.2, N) v σ2) (K := (fun r : jb_Mi => v = none ∧ σ2 = (zE L, r, N))) (fun s r h hk => zg_124_H18 hd w o N s hp h (by cases r <;> exact hk)) h hK
set_option maxRecDepth 4000 in
theorem zg_124 {Γ : jb_G} {L : Nat} {d : Nat} (hd : 5 ≤ d) (w : Nat) (o : Nat) (M : jb_Mi) (N : jb_Ml) (hp : (w = 60 ∧ o = 4) ∨ (w = 62 ∧ o = 24)) {v : Option Value} {σ2 : jb_S} {r : (jb_Mi)} (h : zf_124 w o M = some r) (hK : (fun r : jb_Mi => v = none ∧ σ2 = (zE L, r, N)) r) : jb_V Γ d zq_124 0 [some (.ref w), none] [] (zE L, M, N) v σ2 := by
  rcases hp with ⟨rfl, rfl⟩ | ⟨rfl, rfl⟩
  · obtain ⟨d, rfl⟩ : ∃ e, d = e + 1 := ⟨d - 1, by omega⟩
    unfold zf_124 at h
    refine jb_seg 2 (pc' := 4) (ls' := [some (.ref 60), none]) (st' := [(.ref 4)]) (σ' := (zE L, M, N)) (G := []) rfl trivial ?_
    refine jb_callV (q' := zq_110) (As := []) (rest := []) (σ1 := (zE L, M, N)) (v := some (.int (jb_b2i (zf_110 4 M)))) rfl rfl zp_110 rfl (by decide) (jb_cat rfl) (Nat.le_of_ble_eq_true rfl) (Nat.le_of_ble_eq_true rfl) (Or.inl rfl) rfl (ze_110 4 M N (by decide) rfl) ?_
    refine jb_seg 1 (pc' := (if (jb_b2i (zf_110 4 M)) = 0 then 11 else 10)) (ls' := [some (.ref 60), none]) (st' := []) (σ' := (zE L, M, N)) (G := []) rfl trivial ?_
    refine jb_ite (fun c => ?_) (fun c => ?_)
    · rw [if_pos c] at h
      refine jb_seg 5 (pc' := 18) (ls' := [some (.ref 60), some (.int 0)]) (st' := []) (σ' := (zE L, (jb_up M 60 4 0), N)) (G := []) rfl trivial ?_
      exact jb_mask [true, true] rfl (zg_124_H18L hd 60 4 N (by decide) h hK)
    · rw [if_neg c] at h
      cases h
      obtain ⟨rfl, rfl⟩ := hK
      exact jb_retv rfl rfl
  · obtain ⟨d, rfl⟩ : ∃ e, d = e + 1 := ⟨d - 1, by omega⟩
    unfold zf_124 at h
    refine jb_seg 2 (pc' := 4) (ls' := [some (.ref 62), none]) (st' := [(.ref 24)]) (σ' := (zE L, M, N)) (G := []) rfl trivial ?_
    refine jb_callV (q' := zq_110) (As := []) (rest := []) (σ1 := (zE L, M, N)) (v := some (.int (jb_b2i (zf_110 24 M)))) rfl rfl zp_110 rfl (by decide) (jb_cat rfl) (Nat.le_of_ble_eq_true rfl) (Nat.le_of_ble_eq_true rfl) (Or.inl rfl) rfl (ze_110 24 M N (by decide) rfl) ?_
    refine jb_seg 1 (pc' := (if (jb_b2i (zf_110 24 M)) = 0 then 11 else 10)) (ls' := [some (.ref 62), none]) (st' := []) (σ' := (zE L, M, N)) (G := []) rfl trivial ?_
    refine jb_ite (fun c => ?_) (fun c => ?_)
    · rw [if_pos c] at h
      refine jb_seg 5 (pc' := 18) (ls' := [some (.ref 62), some (.int 0)]) (st' := []) (σ' := (zE L, (jb_up M 62 4 0), N)) (G := []) rfl trivial ?_
      exact jb_mask [true, true] rfl (zg_124_H18L hd 62 24 N (by decide) h hK)
    · rw [if_neg c] at h
      cases h
      obtain ⟨rfl, rfl⟩ := hK
      exact jb_retv rfl rfl
theorem ze_124 {Γ : jb_G} {L : Nat} {d : Nat} (hd : 5 ≤ d) (w : Nat) (o : Nat) (M : jb_Mi) (N : jb_Ml) (hp : (w = 60 ∧ o = 4) ∨ (w = 62 ∧ o = 24)) {r : (jb_Mi)} (h : zf_124 w o M = some r) : jb_V Γ d zq_124 0 (jb_en 2 [(.ref w)]) [] (zE L, M, N) (none) (zE L, r, N) := zg_124 hd w o M N hp h ⟨rfl, rfl⟩
-- X12_house
noncomputable def zf_126 (x1 : Int32) (x2 : Int32) (x3 : Int32) (M : jb_Mi) : Option (Bool × jb_Mi) :=
  if (jb_b2i (zf_23 x1 0 5)) = 0 then some (false, M) else if (jb_b2i (zf_23 x2 1 9)) = 0 then some (false, M) else if (jb_b2i (zf_23 x3 0 99)) = 0 then some (false, M) else jb_gd x1 6 (jb_gd x1 6 (jb_gd x1 6 (some (true, (jb_up (jb_up (jb_up M 5 x1.toNatClampNeg x2) 6 x1.toNatClampNeg x3) 7 x1.toNatClampNeg 0)))))
set_option maxRecDepth 4000 in
theorem zg_126 {Γ : jb_G} {L : Nat} {d : Nat} (hd : 1 ≤ d) (x1 : Int32) (x2 : Int32) (x3 : Int32) (M : jb_Mi) (N : jb_Ml) {v : Option Value} {σ2 : jb_S} {r : (Bool × jb_Mi)} (h : zf_126 x1 x2 x3 M = some r) (hK : (fun r : Bool × jb_Mi => v = some (.int (jb_b2i r.1)) ∧ σ2 = (zE L, r.2, N)) r) : jb_V Γ d zq_126 0 [some (.ref 1), some (.int x1), some (.int x2), some (.int x3)] [] (zE L, M, N) v σ2 := by
  obtain ⟨d, rfl⟩ : ∃ e, d = e + 1 := ⟨d - 1, by omega⟩
  unfold zf_126 at h
  refine jb_seg 3 (pc' := 3) (ls' := [some (.ref 1), some (.int x1), some (.int x2), some (.int x3)]) (st' := [(.int 5), (.int 0), (.int x1)]) (σ' := (zE L, M, N)) (G := []) rfl trivial ?_
  refine jb_callS (q' := zq_23) (As := [(.int x1), (.int 0), (.int 5)]) (rest := []) (σ1 := (zE L, M, N)) (v := some (.int (jb_b2i (zf_23 x1 0 5)))) rfl (by decide) rfl zp_23 (jb_cat rfl) (Nat.le_of_ble_eq_true rfl) (Nat.le_of_ble_eq_true rfl) (Or.inl rfl) rfl (ze_23 x1 0 5 M N rfl) ?_
  refine jb_seg 1 (pc' := (if (jb_b2i (zf_23 x1 0 5)) = 0 then 29 else 9)) (ls' := [some (.ref 1), some (.int x1), some (.int x2), some (.int x3)]) (st' := []) (σ' := (zE L, M, N)) (G := []) rfl trivial ?_
  refine jb_ite (fun c => ?_) (fun c => ?_)
  · rw [if_pos c] at h
    refine jb_seg 1 (pc' := 30) (ls' := [some (.ref 1), some (.int x1), some (.int x2), some (.int x3)]) (st' := [(.int 0)]) (σ' := (zE L, M, N)) (G := []) rfl trivial ?_
    cases h
    obtain ⟨rfl, rfl⟩ := hK
    exact jb_retz (by decide) rfl rfl
  · rw [if_neg c] at h
    refine jb_seg 3 (pc' := 13) (ls' := [some (.ref 1), some (.int x1), some (.int x2), some (.int x3)]) (st' := [(.int 9), (.int 1), (.int x2)]) (σ' := (zE L, M, N)) (G := []) rfl trivial ?_
    refine jb_callS (q' := zq_23) (As := [(.int x2), (.int 1), (.int 9)]) (rest := []) (σ1 := (zE L, M, N)) (v := some (.int (jb_b2i (zf_23 x2 1 9)))) rfl (by decide) rfl zp_23 (jb_cat rfl) (Nat.le_of_ble_eq_true rfl) (Nat.le_of_ble_eq_true rfl) (Or.inl rfl) rfl (ze_23 x2 1 9 M N rfl) ?_
    refine jb_seg 1 (pc' := (if (jb_b2i (zf_23 x2 1 9)) = 0 then 29 else 19)) (ls' := [some (.ref 1), some (.int x1), some (.int x2), some (.int x3)]) (st' := []) (σ' := (zE L, M, N)) (G := []) rfl trivial ?_
    refine jb_ite (fun c => ?_) (fun c => ?_)
    · rw [if_pos c] at h
      refine jb_seg 1 (pc' := 30) (ls' := [some (.ref 1), some (.int x1), some (.int x2), some (.int x3)]) (st' := [(.int 0)]) (σ' := (zE L, M, N)) (G := []) rfl trivial ?_
      cases h
      obtain ⟨rfl, rfl⟩ := hK
      exact jb_retz (by decide) rfl rfl
    · rw [if_neg c] at h
      refine jb_seg 3 (pc' := 23) (ls' := [some (.ref 1), some (.int x1), some (.int x2), some (.int x3)]) (st' := [(.int 99), (.int 0), (.int x3)]) (σ' := (zE L, M, N)) (G := []) rfl trivial ?_
      refine jb_callS (q' := zq_23) (As := [(.int x3), (.int 0), (.int 99)]) (rest := []) (σ1 := (zE L, M, N)) (v := some (.int (jb_b2i (zf_23 x3 0 99)))) rfl (by decide) rfl zp_23 (jb_cat rfl) (Nat.le_of_ble_eq_true rfl) (Nat.le_of_ble_eq_true rfl) (Or.inl rfl) rfl (ze_23 x3 0 99 M N rfl) ?_
      refine jb_seg 1 (pc' := (if (jb_b2i (zf_23 x3 0 99)) = 0 then 29 else 31)) (ls' := [some (.ref 1), some (.int x1), some (.int x2), some (.int x3)]) (st' := []) (σ' := (zE L, M, N)) (G := []) rfl trivial ?_
      refine jb_ite (fun c => ?_) (fun c => ?_)
      · rw [if_pos c] at h
        refine jb_seg 1 (pc' := 30) (ls' := [some (.ref 1), some (.int x1), some (.int x2), some (.int x3)]) (st' := [(.int 0)]) (σ' := (zE L, M, N)) (G := []) rfl trivial ?_
        cases h
        obtain ⟨rfl, rfl⟩ := hK
        exact jb_retz (by decide) rfl rfl
      · rw [if_neg c] at h
        obtain ⟨g1, h⟩ := jb_gd_of h
        obtain ⟨g2, h⟩ := jb_gd_of h
        obtain ⟨g3, h⟩ := jb_gd_of h
        refine jb_seg 19 (pc' := 62) (ls' := [some (.ref 1), some (.int x1), some (.int x2), some (.int x3)]) (st' := [(.int 1)]) (σ' := (zE L, (jb_up (jb_up (jb_up M 5 x1.toNatClampNeg x2) 6 x1.toNatClampNeg x3) 7 x1.toNatClampNeg 0), N)) (G := [vp_in x1 6, vp_in x1 6, vp_in x1 6]) rfl ⟨g1, g2, g3⟩ ?_
        cases h
        obtain ⟨rfl, rfl⟩ := hK
        exact jb_retz (by decide) rfl rfl
theorem ze_126 {Γ : jb_G} {L : Nat} {d : Nat} (hd : 1 ≤ d) (x1 : Int32) (x2 : Int32) (x3 : Int32) (M : jb_Mi) (N : jb_Ml) {r : (Bool × jb_Mi)} (h : zf_126 x1 x2 x3 M = some r) : jb_V Γ d zq_126 0 (jb_en 4 [(.ref 1), (.int x1), (.int x2), (.int x3)]) [] (zE L, M, N) (some (.int (jb_b2i r.1))) (zE L, r.2, N) := zg_126 hd x1 x2 x3 M N h ⟨rfl, rfl⟩
-- X12_thing
noncomputable def zf_127 (x1 : Int32) (x2 : Int32) (x3 : Int32) (x4 : Int32) (x5 : Int32) (M : jb_Mi) : Option (Bool × jb_Mi) :=
  if (jb_b2i (zf_23 x1 0 23)) = 0 then some (false, M) else (zf_2 4 x2 M).bind fun q1 => if (jb_b2i q1) = 0 then some (false, M) else if (jb_b2i (zf_23 x5 1 99)) = 0 then some (false, M) else if (jb_b2i (zf_23 x3 0 8)) = 0 then some (false, M) else if (jb_b2i (zf_23 x4 0 8)) = 0 then some (false, M) else jb_gd x1 24 (jb_gd x1 24 (jb_gd x1 24 (jb_gd x1 24 (some (true, (jb_up (jb_up (jb_up (jb_up M 8 x1.toNatClampNeg x2) 9 x1.toNatClampNeg x3) 10 x1.toNatClampNeg x4) 11 x1.toNatClampNeg x5))))))
set_option maxRecDepth 4000 in
theorem zg_127 {Γ : jb_G} {L : Nat} {d : Nat} (hd : 1 ≤ d) (x1 : Int32) (x2 : Int32) (x3 : Int32) (x4 : Int32) (x5 : Int32) (M : jb_Mi) (N : jb_Ml) {v : Option Value} {σ2 : jb_S} {r : (Bool × jb_Mi)} (h : zf_127 x1 x2 x3 x4 x5 M = some r) (hK : (fun r : Bool × jb_Mi => v = some (.int (jb_b2i r.1)) ∧ σ2 = (zE L, r.2, N)) r) : jb_V Γ d zq_127 0 [some (.ref 1), some (.int x1), some (.int x2), some (.int x3), some (.int x4), some (.int x5)] [] (zE L, M, N) v σ2 := by
  obtain ⟨d, rfl⟩ : ∃ e, d = e + 1 := ⟨d - 1, by omega⟩
  unfold zf_127 at h
  refine jb_seg 3 (pc' := 4) (ls' := [some (.ref 1), some (.int x1), some (.int x2), some (.int x3), some (.int x4), some (.int x5)]) (st' := [(.int 23), (.int 0), (.int x1)]) (σ' := (zE L, M, N)) (G := []) rfl trivial ?_
  refine jb_callS (q' := zq_23) (As := [(.int x1), (.int 0), (.int 23)]) (rest := []) (σ1 := (zE L, M, N)) (v := some (.int (jb_b2i (zf_23 x1 0 23)))) rfl (by decide) rfl zp_23 (jb_cat rfl) (Nat.le_of_ble_eq_true rfl) (Nat.le_of_ble_eq_true rfl) (Or.inl rfl) rfl (ze_23 x1 0 23 M N rfl) ?_
  refine jb_seg 1 (pc' := (if (jb_b2i (zf_23 x1 0 23)) = 0 then 32 else 10)) (ls' := [some (.ref 1), some (.int x1), some (.int x2), some (.int x3), some (.int x4), some (.int x5)]) (st' := []) (σ' := (zE L, M, N)) (G := []) rfl trivial ?_
  refine jb_ite (fun c => ?_) (fun c => ?_)
  · rw [if_pos c] at h
    refine jb_seg 1 (pc' := 33) (ls' := [some (.ref 1), some (.int x1), some (.int x2), some (.int x3), some (.int x4), some (.int x5)]) (st' := [(.int 0)]) (σ' := (zE L, M, N)) (G := []) rfl trivial ?_
    cases h
    obtain ⟨rfl, rfl⟩ := hK
    exact jb_retz (by decide) rfl rfl
  · rw [if_neg c] at h
    refine jb_seg 3 (pc' := 15) (ls' := [some (.ref 1), some (.int x1), some (.int x2), some (.int x3), some (.int x4), some (.int x5)]) (st' := [(.int x2), (.ref 4)]) (σ' := (zE L, M, N)) (G := []) rfl trivial ?_
    obtain ⟨q1, h1, h⟩ := jb_bd_of h
    refine jb_callV (q' := zq_2) (As := [(.int x2)]) (rest := []) (σ1 := (zE L, M, N)) (v := some (.int (jb_b2i q1))) rfl rfl zp_2 rfl (by decide) (jb_cat rfl) (Nat.le_of_ble_eq_true rfl) (Nat.le_of_ble_eq_true rfl) (Or.inl rfl) rfl (ze_2 4 x2 M N (by decide) h1) ?_
    refine jb_seg 1 (pc' := (if (jb_b2i q1) = 0 then 32 else 21)) (ls' := [some (.ref 1), some (.int x1), some (.int x2), some (.int x3), some (.int x4), some (.int x5)]) (st' := []) (σ' := (zE L, M, N)) (G := []) rfl trivial ?_
    refine jb_ite (fun c => ?_) (fun c => ?_)
    · rw [if_pos c] at h
      refine jb_seg 1 (pc' := 33) (ls' := [some (.ref 1), some (.int x1), some (.int x2), some (.int x3), some (.int x4), some (.int x5)]) (st' := [(.int 0)]) (σ' := (zE L, M, N)) (G := []) rfl trivial ?_
      cases h
      obtain ⟨rfl, rfl⟩ := hK
      exact jb_retz (by decide) rfl rfl
    · rw [if_neg c] at h
      refine jb_seg 3 (pc' := 26) (ls' := [some (.ref 1), some (.int x1), some (.int x2), some (.int x3), some (.int x4), some (.int x5)]) (st' := [(.int 99), (.int 1), (.int x5)]) (σ' := (zE L, M, N)) (G := []) rfl trivial ?_
      refine jb_callS (q' := zq_23) (As := [(.int x5), (.int 1), (.int 99)]) (rest := []) (σ1 := (zE L, M, N)) (v := some (.int (jb_b2i (zf_23 x5 1 99)))) rfl (by decide) rfl zp_23 (jb_cat rfl) (Nat.le_of_ble_eq_true rfl) (Nat.le_of_ble_eq_true rfl) (Or.inl rfl) rfl (ze_23 x5 1 99 M N rfl) ?_
      refine jb_seg 1 (pc' := (if (jb_b2i (zf_23 x5 1 99)) = 0 then 32 else 34)) (ls' := [some (.ref 1), some (.int x1), some (.int x2), some (.int x3), some (.int x4), some (.int x5)]) (st' := []) (σ' := (zE L, M, N)) (G := []) rfl trivial ?_
      refine jb_ite (fun c => ?_) (fun c => ?_)
      · rw [if_pos c] at h
        refine jb_seg 1 (pc' := 33) (ls' := [some (.ref 1), some (.int x1), some (.int x2), some (.int x3), some (.int x4), some (.int x5)]) (st' := [(.int 0)]) (σ' := (zE L, M, N)) (G := []) rfl trivial ?_
        cases h
        obtain ⟨rfl, rfl⟩ := hK
        exact jb_retz (by decide) rfl rfl
      · rw [if_neg c] at h
        refine jb_seg 3 (pc' := 38) (ls' := [some (.ref 1), some (.int x1), some (.int x2), some (.int x3), some (.int x4), some (.int x5)]) (st' := [(.int 8), (.int 0), (.int x3)]) (σ' := (zE L, M, N)) (G := []) rfl trivial ?_
        refine jb_callS (q' := zq_23) (As := [(.int x3), (.int 0), (.int 8)]) (rest := []) (σ1 := (zE L, M, N)) (v := some (.int (jb_b2i (zf_23 x3 0 8)))) rfl (by decide) rfl zp_23 (jb_cat rfl) (Nat.le_of_ble_eq_true rfl) (Nat.le_of_ble_eq_true rfl) (Or.inl rfl) rfl (ze_23 x3 0 8 M N rfl) ?_
        refine jb_seg 1 (pc' := (if (jb_b2i (zf_23 x3 0 8)) = 0 then 55 else 44)) (ls' := [some (.ref 1), some (.int x1), some (.int x2), some (.int x3), some (.int x4), some (.int x5)]) (st' := []) (σ' := (zE L, M, N)) (G := []) rfl trivial ?_
        refine jb_ite (fun c => ?_) (fun c => ?_)
        · rw [if_pos c] at h
          refine jb_seg 1 (pc' := 56) (ls' := [some (.ref 1), some (.int x1), some (.int x2), some (.int x3), some (.int x4), some (.int x5)]) (st' := [(.int 0)]) (σ' := (zE L, M, N)) (G := []) rfl trivial ?_
          cases h
          obtain ⟨rfl, rfl⟩ := hK
          exact jb_retz (by decide) rfl rfl
        · rw [if_neg c] at h
          refine jb_seg 3 (pc' := 49) (ls' := [some (.ref 1), some (.int x1), some (.int x2), some (.int x3), some (.int x4), some (.int x5)]) (st' := [(.int 8), (.int 0), (.int x4)]) (σ' := (zE L, M, N)) (G := []) rfl trivial ?_
          refine jb_callS (q' := zq_23) (As := [(.int x4), (.int 0), (.int 8)]) (rest := []) (σ1 := (zE L, M, N)) (v := some (.int (jb_b2i (zf_23 x4 0 8)))) rfl (by decide) rfl zp_23 (jb_cat rfl) (Nat.le_of_ble_eq_true rfl) (Nat.le_of_ble_eq_true rfl) (Or.inl rfl) rfl (ze_23 x4 0 8 M N rfl) ?_
          refine jb_seg 1 (pc' := (if (jb_b2i (zf_23 x4 0 8)) = 0 then 55 else 57)) (ls' := [some (.ref 1), some (.int x1), some (.int x2), some (.int x3), some (.int x4), some (.int x5)]) (st' := []) (σ' := (zE L, M, N)) (G := []) rfl trivial ?_
          refine jb_ite (fun c => ?_) (fun c => ?_)
          · rw [if_pos c] at h
            refine jb_seg 1 (pc' := 56) (ls' := [some (.ref 1), some (.int x1), some (.int x2), some (.int x3), some (.int x4), some (.int x5)]) (st' := [(.int 0)]) (σ' := (zE L, M, N)) (G := []) rfl trivial ?_
            cases h
            obtain ⟨rfl, rfl⟩ := hK
            exact jb_retz (by decide) rfl rfl
          · rw [if_neg c] at h
            obtain ⟨g2, h⟩ := jb_gd_of h
            obtain ⟨g3, h⟩ := jb_gd_of h
            obtain ⟨g4, h⟩ := jb_gd_of h
            obtain ⟨g5, h⟩ := jb_gd_of h
            refine jb_seg 25 (pc' := 100) (ls' := [some (.ref 1), some (.int x1), some (.int x2), some (.int x3), some (.int x4), some (.int x5)]) (st' := [(.int 1)]) (σ' := (zE L, (jb_up (jb_up (jb_up (jb_up M 8 x1.toNatClampNeg x2) 9 x1.toNatClampNeg x3) 10 x1.toNatClampNeg x4) 11 x1.toNatClampNeg x5), N)) (G := [vp_in x1 24, vp_in x1 24, vp_in x1 24, vp_in x1 24]) rfl ⟨g2, g3, g4, g5⟩ ?_
            cases h
            obtain ⟨rfl, rfl⟩ := hK
            exact jb_retz (by decide) rfl rfl
theorem ze_127 {Γ : jb_G} {L : Nat} {d : Nat} (hd : 1 ≤ d) (x1 : Int32) (x2 : Int32) (x3 : Int32) (x4 : Int32) (x5 : Int32) (M : jb_Mi) (N : jb_Ml) {r : (Bool × jb_Mi)} (h : zf_127 x1 x2 x3 x4 x5 M = some r) : jb_V Γ d zq_127 0 (jb_en 6 [(.ref 1), (.int x1), (.int x2), (.int x3), (.int x4), (.int x5)]) [] (zE L, M, N) (some (.int (jb_b2i r.1))) (zE L, r.2, N) := zg_127 hd x1 x2 x3 x4 x5 M N h ⟨rfl, rfl⟩
-- X12_man
noncomputable def zf_128 (x1 : Int32) (x2 : Int32) (M : jb_Mi) : Option (Bool × jb_Mi) :=
  if (jb_b2i (zf_23 x1 0 15)) = 0 then some (false, M) else if (jb_b2i (zf_23 x2 1 99)) = 0 then some (false, M) else jb_gd x1 16 (jb_gd x1 16 (some (true, (jb_up (jb_up M 12 x1.toNatClampNeg x2) 13 x1.toNatClampNeg 0))))
set_option maxRecDepth 4000 in
theorem zg_128 {Γ : jb_G} {L : Nat} {d : Nat} (hd : 1 ≤ d) (x1 : Int32) (x2 : Int32) (M : jb_Mi) (N : jb_Ml) {v : Option Value} {σ2 : jb_S} {r : (Bool × jb_Mi)} (h : zf_128 x1 x2 M = some r) (hK : (fun r : Bool × jb_Mi => v = some (.int (jb_b2i r.1)) ∧ σ2 = (zE L, r.2, N)) r) : jb_V Γ d zq_128 0 [some (.ref 1), some (.int x1), some (.int x2)] [] (zE L, M, N) v σ2 := by
  obtain ⟨d, rfl⟩ : ∃ e, d = e + 1 := ⟨d - 1, by omega⟩
  unfold zf_128 at h
  refine jb_seg 3 (pc' := 4) (ls' := [some (.ref 1), some (.int x1), some (.int x2)]) (st' := [(.int 15), (.int 0), (.int x1)]) (σ' := (zE L, M, N)) (G := []) rfl trivial ?_
  refine jb_callS (q' := zq_23) (As := [(.int x1), (.int 0), (.int 15)]) (rest := []) (σ1 := (zE L, M, N)) (v := some (.int (jb_b2i (zf_23 x1 0 15)))) rfl (by decide) rfl zp_23 (jb_cat rfl) (Nat.le_of_ble_eq_true rfl) (Nat.le_of_ble_eq_true rfl) (Or.inl rfl) rfl (ze_23 x1 0 15 M N rfl) ?_
  refine jb_seg 1 (pc' := (if (jb_b2i (zf_23 x1 0 15)) = 0 then 20 else 10)) (ls' := [some (.ref 1), some (.int x1), some (.int x2)]) (st' := []) (σ' := (zE L, M, N)) (G := []) rfl trivial ?_
  refine jb_ite (fun c => ?_) (fun c => ?_)
  · rw [if_pos c] at h
    refine jb_seg 1 (pc' := 21) (ls' := [some (.ref 1), some (.int x1), some (.int x2)]) (st' := [(.int 0)]) (σ' := (zE L, M, N)) (G := []) rfl trivial ?_
    cases h
    obtain ⟨rfl, rfl⟩ := hK
    exact jb_retz (by decide) rfl rfl
  · rw [if_neg c] at h
    refine jb_seg 3 (pc' := 14) (ls' := [some (.ref 1), some (.int x1), some (.int x2)]) (st' := [(.int 99), (.int 1), (.int x2)]) (σ' := (zE L, M, N)) (G := []) rfl trivial ?_
    refine jb_callS (q' := zq_23) (As := [(.int x2), (.int 1), (.int 99)]) (rest := []) (σ1 := (zE L, M, N)) (v := some (.int (jb_b2i (zf_23 x2 1 99)))) rfl (by decide) rfl zp_23 (jb_cat rfl) (Nat.le_of_ble_eq_true rfl) (Nat.le_of_ble_eq_true rfl) (Or.inl rfl) rfl (ze_23 x2 1 99 M N rfl) ?_
    refine jb_seg 1 (pc' := (if (jb_b2i (zf_23 x2 1 99)) = 0 then 20 else 22)) (ls' := [some (.ref 1), some (.int x1), some (.int x2)]) (st' := []) (σ' := (zE L, M, N)) (G := []) rfl trivial ?_
    refine jb_ite (fun c => ?_) (fun c => ?_)
    · rw [if_pos c] at h
      refine jb_seg 1 (pc' := 21) (ls' := [some (.ref 1), some (.int x1), some (.int x2)]) (st' := [(.int 0)]) (σ' := (zE L, M, N)) (G := []) rfl trivial ?_
      cases h
      obtain ⟨rfl, rfl⟩ := hK
      exact jb_retz (by decide) rfl rfl
    · rw [if_neg c] at h
      obtain ⟨g1, h⟩ := jb_gd_of h
      obtain ⟨g2, h⟩ := jb_gd_of h
      refine jb_seg 13 (pc' := 43) (ls' := [some (.ref 1), some (.int x1), some (.int x2)]) (st' := [(.int 1)]) (σ' := (zE L, (jb_up (jb_up M 12 x1.toNatClampNeg x2) 13 x1.toNatClampNeg 0), N)) (G := [vp_in x1 16, vp_in x1 16]) rfl ⟨g1, g2⟩ ?_
      cases h
      obtain ⟨rfl, rfl⟩ := hK
      exact jb_retz (by decide) rfl rfl
theorem ze_128 {Γ : jb_G} {L : Nat} {d : Nat} (hd : 1 ≤ d) (x1 : Int32) (x2 : Int32) (M : jb_Mi) (N : jb_Ml) {r : (Bool × jb_Mi)} (h : zf_128 x1 x2 M = some r) : jb_V Γ d zq_128 0 (jb_en 3 [(.ref 1), (.int x1), (.int x2)]) [] (zE L, M, N) (some (.int (jb_b2i r.1))) (zE L, r.2, N) := zg_128 hd x1 x2 M N h ⟨rfl, rfl⟩
-- X12_feed
noncomputable def zf_129 (x1 : Int32) (x2 : Int32) (x3 : Int32) (x4 : Int32) (x5 : Int32) (M : jb_Mi) : Option (Int32 × jb_Mi) :=
  if (jb_b2i (zf_114 M)) = 0 then some ((-1), M) else (zf_115 x1 M).bind fun q1 => (zf_115 x2 q1).bind fun q2 => (zf_115 x3 q2).bind fun q3 => (zf_115 x4 q3).bind fun q4 => (zf_115 x5 q4).bind fun q5 => some ((q5 2 1), q5)
set_option maxRecDepth 4000 in
theorem zg_129 {Γ : jb_G} {L : Nat} {d : Nat} (hd : 1 ≤ d) (x1 : Int32) (x2 : Int32) (x3 : Int32) (x4 : Int32) (x5 : Int32) (M : jb_Mi) (N : jb_Ml) {v : Option Value} {σ2 : jb_S} {r : (Int32 × jb_Mi)} (h : zf_129 x1 x2 x3 x4 x5 M = some r) (hK : (fun r : Int32 × jb_Mi => v = some (.int r.1) ∧ σ2 = (zE L, r.2, N)) r) : jb_V Γ d zq_129 0 [some (.ref 1), some (.int x1), some (.int x2), some (.int x3), some (.int x4), some (.int x5)] [] (zE L, M, N) v σ2 := by
  obtain ⟨d, rfl⟩ : ∃ e, d = e + 1 := ⟨d - 1, by omega⟩
  unfold zf_129 at h
  refine jb_seg 2 (pc' := 4) (ls' := [some (.ref 1), some (.int x1), some (.int x2), some (.int x3), some (.int x4), some (.int x5)]) (st' := [(.ref 2)]) (σ' := (zE L, M, N)) (G := []) rfl trivial ?_
  refine jb_callV (q' := zq_114) (As := []) (rest := []) (σ1 := (zE L, M, N)) (v := some (.int (jb_b2i (zf_114 M)))) rfl rfl zp_114 rfl (by decide) (jb_cat rfl) (Nat.le_of_ble_eq_true rfl) (Nat.le_of_ble_eq_true rfl) (Or.inl rfl) rfl (ze_114 M N rfl) ?_
  refine jb_seg 1 (pc' := (if (jb_b2i (zf_114 M)) = 0 then 10 else 12)) (ls' := [some (.ref 1), some (.int x1), some (.int x2), some (.int x3), some (.int x4), some (.int x5)]) (st' := []) (σ' := (zE L, M, N)) (G := []) rfl trivial ?_
  refine jb_ite (fun c => ?_) (fun c => ?_)
  · rw [if_pos c] at h
    refine jb_seg 1 (pc' := 11) (ls' := [some (.ref 1), some (.int x1), some (.int x2), some (.int x3), some (.int x4), some (.int x5)]) (st' := [(.int (-1))]) (σ' := (zE L, M, N)) (G := []) rfl trivial ?_
    cases h
    obtain ⟨rfl, rfl⟩ := hK
    exact jb_reti rfl rfl
  · rw [if_neg c] at h
    refine jb_seg 3 (pc' := 17) (ls' := [some (.ref 1), some (.int x1), some (.int x2), some (.int x3), some (.int x4), some (.int x5)]) (st' := [(.int x1), (.ref 2)]) (σ' := (zE L, M, N)) (G := []) rfl trivial ?_
    obtain ⟨q1, h1, h⟩ := jb_bd_of h
    refine jb_callV (q' := zq_115) (As := [(.int x1)]) (rest := []) (σ1 := (zE L, q1, N)) (v := none) rfl rfl zp_115 rfl (by decide) (jb_cat rfl) (Nat.le_of_ble_eq_true rfl) (Nat.le_of_ble_eq_true rfl) (Or.inl rfl) rfl (ze_115 x1 M N h1) ?_
    refine jb_seg 3 (pc' := 25) (ls' := [some (.ref 1), some (.int x1), some (.int x2), some (.int x3), some (.int x4), some (.int x5)]) (st' := [(.int x2), (.ref 2)]) (σ' := (zE L, q1, N)) (G := []) rfl trivial ?_
    obtain ⟨q2, h2, h⟩ := jb_bd_of h
    refine jb_callV (q' := zq_115) (As := [(.int x2)]) (rest := []) (σ1 := (zE L, q2, N)) (v := none) rfl rfl zp_115 rfl (by decide) (jb_cat rfl) (Nat.le_of_ble_eq_true rfl) (Nat.le_of_ble_eq_true rfl) (Or.inl rfl) rfl (ze_115 x2 q1 N h2) ?_
    refine jb_seg 3 (pc' := 33) (ls' := [some (.ref 1), some (.int x1), some (.int x2), some (.int x3), some (.int x4), some (.int x5)]) (st' := [(.int x3), (.ref 2)]) (σ' := (zE L, q2, N)) (G := []) rfl trivial ?_
    obtain ⟨q3, h3, h⟩ := jb_bd_of h
    refine jb_callV (q' := zq_115) (As := [(.int x3)]) (rest := []) (σ1 := (zE L, q3, N)) (v := none) rfl rfl zp_115 rfl (by decide) (jb_cat rfl) (Nat.le_of_ble_eq_true rfl) (Nat.le_of_ble_eq_true rfl) (Or.inl rfl) rfl (ze_115 x3 q2 N h3) ?_
    refine jb_seg 3 (pc' := 42) (ls' := [some (.ref 1), some (.int x1), some (.int x2), some (.int x3), some (.int x4), some (.int x5)]) (st' := [(.int x4), (.ref 2)]) (σ' := (zE L, q3, N)) (G := []) rfl trivial ?_
    obtain ⟨q4, h4, h⟩ := jb_bd_of h
    refine jb_callV (q' := zq_115) (As := [(.int x4)]) (rest := []) (σ1 := (zE L, q4, N)) (v := none) rfl rfl zp_115 rfl (by decide) (jb_cat rfl) (Nat.le_of_ble_eq_true rfl) (Nat.le_of_ble_eq_true rfl) (Or.inl rfl) rfl (ze_115 x4 q3 N h4) ?_
    refine jb_seg 3 (pc' := 51) (ls' := [some (.ref 1), some (.int x1), some (.int x2), some (.int x3), some (.int x4), some (.int x5)]) (st' := [(.int x5), (.ref 2)]) (σ' := (zE L, q4, N)) (G := []) rfl trivial ?_
    obtain ⟨q5, h5, h⟩ := jb_bd_of h
    refine jb_callV (q' := zq_115) (As := [(.int x5)]) (rest := []) (σ1 := (zE L, q5, N)) (v := none) rfl rfl zp_115 rfl (by decide) (jb_cat rfl) (Nat.le_of_ble_eq_true rfl) (Nat.le_of_ble_eq_true rfl) (Or.inl rfl) rfl (ze_115 x5 q4 N h5) ?_
    refine jb_seg 3 (pc' := 61) (ls' := [some (.ref 1), some (.int x1), some (.int x2), some (.int x3), some (.int x4), some (.int x5)]) (st' := [(.int (q5 2 1))]) (σ' := (zE L, q5, N)) (G := []) rfl trivial ?_
    cases h
    obtain ⟨rfl, rfl⟩ := hK
    exact jb_reti rfl rfl
theorem ze_129 {Γ : jb_G} {L : Nat} {d : Nat} (hd : 1 ≤ d) (x1 : Int32) (x2 : Int32) (x3 : Int32) (x4 : Int32) (x5 : Int32) (M : jb_Mi) (N : jb_Ml) {r : (Int32 × jb_Mi)} (h : zf_129 x1 x2 x3 x4 x5 M = some r) : jb_V Γ d zq_129 0 (jb_en 6 [(.ref 1), (.int x1), (.int x2), (.int x3), (.int x4), (.int x5)]) [] (zE L, M, N) (some (.int r.1)) (zE L, r.2, N) := zg_129 hd x1 x2 x3 x4 x5 M N h ⟨rfl, rfl⟩
-- X12_law
noncomputable def zf_130 (x1 : Int32) (M : jb_Mi) : Option (Int32 × jb_Mi) :=
  if (jb_b2i (zf_23 x1 1 240)) = 0 then some ((-1), M) else if (jb_b2i (zf_116 x1 M)) = 0 then some ((-1), M) else (zf_84 (zf_117 x1 M)).bind fun q1 => if 0 < q1.1 then (zf_72 (zf_117 0 q1.2)).bind fun q2 => some (q1.1, q2) else some (q1.1, (zf_117 0 q1.2))
set_option maxRecDepth 4000 in
theorem zg_130 {Γ : jb_G} {L : Nat} {d : Nat} (hd : 48 ≤ d) (x1 : Int32) (M : jb_Mi) (N : jb_Ml) {v : Option Value} {σ2 : jb_S} {r : (Int32 × jb_Mi)} (h : zf_130 x1 M = some r) (hK : (fun r : Int32 × jb_Mi => v = some (.int r.1) ∧ σ2 = (zE L, r.2, N)) r) : jb_V Γ d zq_130 0 [some (.ref 1), some (.int x1), none] [] (zE L, M, N) v σ2 := by
  obtain ⟨d, rfl⟩ : ∃ e, d = e + 1 := ⟨d - 1, by omega⟩
  unfold zf_130 at h
  refine jb_seg 3 (pc' := 5) (ls' := [some (.ref 1), some (.int x1), none]) (st' := [(.int 240), (.int 1), (.int x1)]) (σ' := (zE L, M, N)) (G := []) rfl trivial ?_
  refine jb_callS (q' := zq_23) (As := [(.int x1), (.int 1), (.int 240)]) (rest := []) (σ1 := (zE L, M, N)) (v := some (.int (jb_b2i (zf_23 x1 1 240)))) rfl (by decide) rfl zp_23 (jb_cat rfl) (Nat.le_of_ble_eq_true rfl) (Nat.le_of_ble_eq_true rfl) (Or.inl rfl) rfl (ze_23 x1 1 240 M N rfl) ?_
  refine jb_seg 1 (pc' := (if (jb_b2i (zf_23 x1 1 240)) = 0 then 22 else 11)) (ls' := [some (.ref 1), some (.int x1), none]) (st' := []) (σ' := (zE L, M, N)) (G := []) rfl trivial ?_
  refine jb_ite (fun c => ?_) (fun c => ?_)
  · rw [if_pos c] at h
    refine jb_seg 1 (pc' := 23) (ls' := [some (.ref 1), some (.int x1), none]) (st' := [(.int (-1))]) (σ' := (zE L, M, N)) (G := []) rfl trivial ?_
    cases h
    obtain ⟨rfl, rfl⟩ := hK
    exact jb_reti rfl rfl
  · rw [if_neg c] at h
    refine jb_seg 3 (pc' := 16) (ls' := [some (.ref 1), some (.int x1), none]) (st' := [(.int x1), (.ref 2)]) (σ' := (zE L, M, N)) (G := []) rfl trivial ?_
    refine jb_callV (q' := zq_116) (As := [(.int x1)]) (rest := []) (σ1 := (zE L, M, N)) (v := some (.int (jb_b2i (zf_116 x1 M)))) rfl rfl zp_116 rfl (by decide) (jb_cat rfl) (Nat.le_of_ble_eq_true rfl) (Nat.le_of_ble_eq_true rfl) (Or.inl rfl) rfl (ze_116 x1 M N rfl) ?_
    refine jb_seg 1 (pc' := (if (jb_b2i (zf_116 x1 M)) = 0 then 22 else 24)) (ls' := [some (.ref 1), some (.int x1), none]) (st' := []) (σ' := (zE L, M, N)) (G := []) rfl trivial ?_
    refine jb_ite (fun c => ?_) (fun c => ?_)
    · rw [if_pos c] at h
      refine jb_seg 1 (pc' := 23) (ls' := [some (.ref 1), some (.int x1), none]) (st' := [(.int (-1))]) (σ' := (zE L, M, N)) (G := []) rfl trivial ?_
      cases h
      obtain ⟨rfl, rfl⟩ := hK
      exact jb_reti rfl rfl
    · rw [if_neg c] at h
      refine jb_seg 3 (pc' := 29) (ls' := [some (.ref 1), some (.int x1), none]) (st' := [(.int x1), (.ref 2)]) (σ' := (zE L, M, N)) (G := []) rfl trivial ?_
      refine jb_callV (q' := zq_117) (As := [(.int x1)]) (rest := []) (σ1 := (zE L, (zf_117 x1 M), N)) (v := none) rfl rfl zp_117 rfl (by decide) (jb_cat rfl) (Nat.le_of_ble_eq_true rfl) (Nat.le_of_ble_eq_true rfl) (Or.inl rfl) rfl (ze_117 (by omega) x1 M N rfl) ?_
      refine jb_seg 2 (pc' := 36) (ls' := [some (.ref 1), some (.int x1), none]) (st' := [(.ref 50)]) (σ' := (zE L, (zf_117 x1 M), N)) (G := []) rfl trivial ?_
      obtain ⟨q1, h1, h⟩ := jb_bd_of h
      refine jb_callV (q' := zq_84) (As := []) (rest := []) (σ1 := (zE L, q1.2, N)) (v := some (.int q1.1)) rfl rfl zp_84 rfl (by decide) (jb_cat rfl) (Nat.le_of_ble_eq_true rfl) (Nat.le_of_ble_eq_true rfl) (Or.inl rfl) rfl (ze_84 (by omega) (zf_117 x1 M) N h1) ?_
      refine jb_seg 4 (pc' := 45) (ls' := [some (.ref 1), some (.int x1), some (.int q1.1)]) (st' := [(.int 0), (.ref 2)]) (σ' := (zE L, q1.2, N)) (G := []) rfl trivial ?_
      refine jb_callV (q' := zq_117) (As := [(.int 0)]) (rest := []) (σ1 := (zE L, (zf_117 0 q1.2), N)) (v := none) rfl rfl zp_117 rfl (by decide) (jb_cat rfl) (Nat.le_of_ble_eq_true rfl) (Nat.le_of_ble_eq_true rfl) (Or.inl rfl) rfl (ze_117 (by omega) 0 q1.2 N rfl) ?_
      refine jb_seg 2 (pc' := (if 0 < q1.1 then 52 else 66)) (ls' := [some (.ref 1), some (.int x1), some (.int q1.1)]) (st' := []) (σ' := (zE L, (zf_117 0 q1.2), N)) (G := []) rfl trivial ?_
      refine jb_ite (fun c => ?_) (fun c => ?_)
      · rw [if_pos c] at h
        refine jb_seg 5 (pc' := 63) (ls' := [some (.ref 1), some (.int x1), some (.int q1.1)]) (st' := [(.ref 51), (.ref 44)]) (σ' := (zE L, (zf_117 0 q1.2), N)) (G := []) rfl trivial ?_
        obtain ⟨q2, h2, h⟩ := jb_bd_of h
        refine jb_callV (q' := zq_72) (As := [(.ref 51)]) (rest := []) (σ1 := (zE L, q2, N)) (v := none) rfl rfl zp_72 rfl (by decide) (jb_cat rfl) (Nat.le_of_ble_eq_true rfl) (Nat.le_of_ble_eq_true rfl) (Or.inl rfl) rfl (ze_72 (by omega) (zf_117 0 q1.2) N h2) ?_
        refine jb_seg 1 (pc' := 67) (ls' := [some (.ref 1), some (.int x1), some (.int q1.1)]) (st' := [(.int q1.1)]) (σ' := (zE L, q2, N)) (G := []) rfl trivial ?_
        cases h
        obtain ⟨rfl, rfl⟩ := hK
        exact jb_reti rfl rfl
      · rw [if_neg c] at h
        refine jb_seg 1 (pc' := 67) (ls' := [some (.ref 1), some (.int x1), some (.int q1.1)]) (st' := [(.int q1.1)]) (σ' := (zE L, (zf_117 0 q1.2), N)) (G := []) rfl trivial ?_
        cases h
        obtain ⟨rfl, rfl⟩ := hK
        exact jb_reti rfl rfl
theorem ze_130 {Γ : jb_G} {L : Nat} {d : Nat} (hd : 48 ≤ d) (x1 : Int32) (M : jb_Mi) (N : jb_Ml) {r : (Int32 × jb_Mi)} (h : zf_130 x1 M = some r) : jb_V Γ d zq_130 0 (jb_en 3 [(.ref 1), (.int x1)]) [] (zE L, M, N) (some (.int r.1)) (zE L, r.2, N) := zg_130 hd x1 M N h ⟨rfl, rfl⟩
-- X12_roster
noncomputable def zf_131 (x1 : Int32) (x2 : Int32) (x3 : Int32) (M : jb_Mi) : Option (Int32 × jb_Mi) :=
  if (jb_b2i (zf_23 x1 0 5)) = 0 then some ((-1), M) else if (jb_b2i (zf_23 x2 0 3)) = 0 then some ((-1), M) else if (jb_b2i (zf_23 x3 1 40)) = 0 then some ((-1), M) else if (jb_b2i (zf_116 x3 M)) = 0 then some ((-1), M) else (zf_99 (zf_117 x3 M)).bind fun q1 => if 0 < q1.1 then (zf_100 ((x1 * 4) + x2) (zf_117 0 q1.2)).bind fun q2 => some (q1.1, q2) else some (q1.1, (zf_117 0 q1.2))
set_option maxRecDepth 4000 in
theorem zg_131 {Γ : jb_G} {L : Nat} {d : Nat} (hd : 2 ≤ d) (x1 : Int32) (x2 : Int32) (x3 : Int32) (M : jb_Mi) (N : jb_Ml) {v : Option Value} {σ2 : jb_S} {r : (Int32 × jb_Mi)} (h : zf_131 x1 x2 x3 M = some r) (hK : (fun r : Int32 × jb_Mi => v = some (.int r.1) ∧ σ2 = (zE L, r.2, N)) r) : jb_V Γ d zq_131 0 [some (.ref 1), some (.int x1), some (.int x2), some (.int x3), none] [] (zE L, M, N) v σ2 := by
  obtain ⟨d, rfl⟩ : ∃ e, d = e + 1 := ⟨d - 1, by omega⟩
  unfold zf_131 at h
  refine jb_seg 3 (pc' := 3) (ls' := [some (.ref 1), some (.int x1), some (.int x2), some (.int x3), none]) (st' := [(.int 5), (.int 0), (.int x1)]) (σ' := (zE L, M, N)) (G := []) rfl trivial ?_
  refine jb_callS (q' := zq_23) (As := [(.int x1), (.int 0), (.int 5)]) (rest := []) (σ1 := (zE L, M, N)) (v := some (.int (jb_b2i (zf_23 x1 0 5)))) rfl (by decide) rfl zp_23 (jb_cat rfl) (Nat.le_of_ble_eq_true rfl) (Nat.le_of_ble_eq_true rfl) (Or.inl rfl) rfl (ze_23 x1 0 5 M N rfl) ?_
  refine jb_seg 1 (pc' := (if (jb_b2i (zf_23 x1 0 5)) = 0 then 18 else 9)) (ls' := [some (.ref 1), some (.int x1), some (.int x2), some (.int x3), none]) (st' := []) (σ' := (zE L, M, N)) (G := []) rfl trivial ?_
  refine jb_ite (fun c => ?_) (fun c => ?_)
  · rw [if_pos c] at h
    refine jb_seg 1 (pc' := 19) (ls' := [some (.ref 1), some (.int x1), some (.int x2), some (.int x3), none]) (st' := [(.int (-1))]) (σ' := (zE L, M, N)) (G := []) rfl trivial ?_
    cases h
    obtain ⟨rfl, rfl⟩ := hK
    exact jb_reti rfl rfl
  · rw [if_neg c] at h
    refine jb_seg 3 (pc' := 12) (ls' := [some (.ref 1), some (.int x1), some (.int x2), some (.int x3), none]) (st' := [(.int 3), (.int 0), (.int x2)]) (σ' := (zE L, M, N)) (G := []) rfl trivial ?_
    refine jb_callS (q' := zq_23) (As := [(.int x2), (.int 0), (.int 3)]) (rest := []) (σ1 := (zE L, M, N)) (v := some (.int (jb_b2i (zf_23 x2 0 3)))) rfl (by decide) rfl zp_23 (jb_cat rfl) (Nat.le_of_ble_eq_true rfl) (Nat.le_of_ble_eq_true rfl) (Or.inl rfl) rfl (ze_23 x2 0 3 M N rfl) ?_
    refine jb_seg 1 (pc' := (if (jb_b2i (zf_23 x2 0 3)) = 0 then 18 else 20)) (ls' := [some (.ref 1), some (.int x1), some (.int x2), some (.int x3), none]) (st' := []) (σ' := (zE L, M, N)) (G := []) rfl trivial ?_
    refine jb_ite (fun c => ?_) (fun c => ?_)
    · rw [if_pos c] at h
      refine jb_seg 1 (pc' := 19) (ls' := [some (.ref 1), some (.int x1), some (.int x2), some (.int x3), none]) (st' := [(.int (-1))]) (σ' := (zE L, M, N)) (G := []) rfl trivial ?_
      cases h
      obtain ⟨rfl, rfl⟩ := hK
      exact jb_reti rfl rfl
    · rw [if_neg c] at h
      refine jb_seg 3 (pc' := 24) (ls' := [some (.ref 1), some (.int x1), some (.int x2), some (.int x3), none]) (st' := [(.int 40), (.int 1), (.int x3)]) (σ' := (zE L, M, N)) (G := []) rfl trivial ?_
      refine jb_callS (q' := zq_23) (As := [(.int x3), (.int 1), (.int 40)]) (rest := []) (σ1 := (zE L, M, N)) (v := some (.int (jb_b2i (zf_23 x3 1 40)))) rfl (by decide) rfl zp_23 (jb_cat rfl) (Nat.le_of_ble_eq_true rfl) (Nat.le_of_ble_eq_true rfl) (Or.inl rfl) rfl (ze_23 x3 1 40 M N rfl) ?_
      refine jb_seg 1 (pc' := (if (jb_b2i (zf_23 x3 1 40)) = 0 then 41 else 30)) (ls' := [some (.ref 1), some (.int x1), some (.int x2), some (.int x3), none]) (st' := []) (σ' := (zE L, M, N)) (G := []) rfl trivial ?_
      refine jb_ite (fun c => ?_) (fun c => ?_)
      · rw [if_pos c] at h
        refine jb_seg 1 (pc' := 42) (ls' := [some (.ref 1), some (.int x1), some (.int x2), some (.int x3), none]) (st' := [(.int (-1))]) (σ' := (zE L, M, N)) (G := []) rfl trivial ?_
        cases h
        obtain ⟨rfl, rfl⟩ := hK
        exact jb_reti rfl rfl
      · rw [if_neg c] at h
        refine jb_seg 3 (pc' := 35) (ls' := [some (.ref 1), some (.int x1), some (.int x2), some (.int x3), none]) (st' := [(.int x3), (.ref 2)]) (σ' := (zE L, M, N)) (G := []) rfl trivial ?_
        refine jb_callV (q' := zq_116) (As := [(.int x3)]) (rest := []) (σ1 := (zE L, M, N)) (v := some (.int (jb_b2i (zf_116 x3 M)))) rfl rfl zp_116 rfl (by decide) (jb_cat rfl) (Nat.le_of_ble_eq_true rfl) (Nat.le_of_ble_eq_true rfl) (Or.inl rfl) rfl (ze_116 x3 M N rfl) ?_
        refine jb_seg 1 (pc' := (if (jb_b2i (zf_116 x3 M)) = 0 then 41 else 43)) (ls' := [some (.ref 1), some (.int x1), some (.int x2), some (.int x3), none]) (st' := []) (σ' := (zE L, M, N)) (G := []) rfl trivial ?_
        refine jb_ite (fun c => ?_) (fun c => ?_)
        · rw [if_pos c] at h
          refine jb_seg 1 (pc' := 42) (ls' := [some (.ref 1), some (.int x1), some (.int x2), some (.int x3), none]) (st' := [(.int (-1))]) (σ' := (zE L, M, N)) (G := []) rfl trivial ?_
          cases h
          obtain ⟨rfl, rfl⟩ := hK
          exact jb_reti rfl rfl
        · rw [if_neg c] at h
          refine jb_seg 3 (pc' := 48) (ls' := [some (.ref 1), some (.int x1), some (.int x2), some (.int x3), none]) (st' := [(.int x3), (.ref 2)]) (σ' := (zE L, M, N)) (G := []) rfl trivial ?_
          refine jb_callV (q' := zq_117) (As := [(.int x3)]) (rest := []) (σ1 := (zE L, (zf_117 x3 M), N)) (v := none) rfl rfl zp_117 rfl (by decide) (jb_cat rfl) (Nat.le_of_ble_eq_true rfl) (Nat.le_of_ble_eq_true rfl) (Or.inl rfl) rfl (ze_117 (by omega) x3 M N rfl) ?_
          refine jb_seg 4 (pc' := 59) (ls' := [some (.ref 1), some (.int x1), some (.int x2), some (.int x3), none]) (st' := [(.ref 2), (.ref 34)]) (σ' := (zE L, (zf_117 x3 M), N)) (G := []) rfl trivial ?_
          obtain ⟨q1, h1, h⟩ := jb_bd_of h
          refine jb_callV (q' := zq_99) (As := [(.ref 2)]) (rest := []) (σ1 := (zE L, q1.2, N)) (v := some (.int q1.1)) rfl rfl zp_99 rfl (by decide) (jb_cat rfl) (Nat.le_of_ble_eq_true rfl) (Nat.le_of_ble_eq_true rfl) (Or.inl rfl) rfl (ze_99 (by omega) (zf_117 x3 M) N h1) ?_
          refine jb_seg 4 (pc' := 69) (ls' := [some (.ref 1), some (.int x1), some (.int x2), some (.int x3), some (.int q1.1)]) (st' := [(.int 0), (.ref 2)]) (σ' := (zE L, q1.2, N)) (G := []) rfl trivial ?_
          refine jb_callV (q' := zq_117) (As := [(.int 0)]) (rest := []) (σ1 := (zE L, (zf_117 0 q1.2), N)) (v := none) rfl rfl zp_117 rfl (by decide) (jb_cat rfl) (Nat.le_of_ble_eq_true rfl) (Nat.le_of_ble_eq_true rfl) (Or.inl rfl) rfl (ze_117 (by omega) 0 q1.2 N rfl) ?_
          refine jb_seg 2 (pc' := (if 0 < q1.1 then 77 else 89)) (ls' := [some (.ref 1), some (.int x1), some (.int x2), some (.int x3), some (.int q1.1)]) (st' := []) (σ' := (zE L, (zf_117 0 q1.2), N)) (G := []) rfl trivial ?_
          refine jb_ite (fun c => ?_) (fun c => ?_)
          · rw [if_pos c] at h
            refine jb_seg 7 (pc' := 86) (ls' := [some (.ref 1), some (.int x1), some (.int x2), some (.int x3), some (.int q1.1)]) (st' := [(.int ((x1 * 4) + x2)), (.ref 34)]) (σ' := (zE L, (zf_117 0 q1.2), N)) (G := []) rfl trivial ?_
            obtain ⟨q2, h2, h⟩ := jb_bd_of h
            refine jb_callV (q' := zq_100) (As := [(.int ((x1 * 4) + x2))]) (rest := []) (σ1 := (zE L, q2, N)) (v := none) rfl rfl zp_100 rfl (by decide) (jb_cat rfl) (Nat.le_of_ble_eq_true rfl) (Nat.le_of_ble_eq_true rfl) (Or.inl rfl) rfl (ze_100 (by omega) ((x1 * 4) + x2) (zf_117 0 q1.2) N h2) ?_
            refine jb_seg 1 (pc' := 91) (ls' := [some (.ref 1), some (.int x1), some (.int x2), some (.int x3), some (.int q1.1)]) (st' := [(.int q1.1)]) (σ' := (zE L, q2, N)) (G := []) rfl trivial ?_
            cases h
            obtain ⟨rfl, rfl⟩ := hK
            exact jb_reti rfl rfl
          · rw [if_neg c] at h
            refine jb_seg 1 (pc' := 91) (ls' := [some (.ref 1), some (.int x1), some (.int x2), some (.int x3), some (.int q1.1)]) (st' := [(.int q1.1)]) (σ' := (zE L, (zf_117 0 q1.2), N)) (G := []) rfl trivial ?_
            cases h
            obtain ⟨rfl, rfl⟩ := hK
            exact jb_reti rfl rfl
theorem ze_131 {Γ : jb_G} {L : Nat} {d : Nat} (hd : 2 ≤ d) (x1 : Int32) (x2 : Int32) (x3 : Int32) (M : jb_Mi) (N : jb_Ml) {r : (Int32 × jb_Mi)} (h : zf_131 x1 x2 x3 M = some r) : jb_V Γ d zq_131 0 (jb_en 5 [(.ref 1), (.int x1), (.int x2), (.int x3)]) [] (zE L, M, N) (some (.int r.1)) (zE L, r.2, N) := zg_131 hd x1 x2 x3 M N h ⟨rfl, rfl⟩
