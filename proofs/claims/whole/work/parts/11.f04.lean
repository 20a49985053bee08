-- X1_findStrikers
noncomputable def zf_47_J92 (x1 : Int32) (x2 : Int32) (x3 : Int32) (x4 : Int32) (M : jb_Mi) : Option ((Int32 × Int32) ⊕ ((Int32 × jb_Mi) ⊕ (jb_Mi))) :=
  some (.inl (x3, (x4 + 1)))
noncomputable def zf_47_J89 (x1 : Int32) (x2 : Int32) (x4 : Int32) (M : jb_Mi) : Option ((Int32 × Int32) ⊕ ((Int32 × jb_Mi) ⊕ (jb_Mi))) :=
  zf_47_J92 x1 x2 x4 x4 M
noncomputable def zf_47_J62 (x1 : Int32) (x2 : Int32) (x3 : Int32) (x4 : Int32) (s0 : Int32) (M : jb_Mi) : Option ((Int32 × Int32) ⊕ ((Int32 × jb_Mi) ⊕ (jb_Mi))) :=
  if s0 = 0 then zf_47_J92 x1 x2 x3 x4 M else if x3 < 0 then zf_47_J89 x1 x2 x4 M else jb_gd x4 16 (jb_gd x3 16 (if (M 42 x3.toNatClampNeg) < (M 42 x4.toNatClampNeg) then zf_47_J89 x1 x2 x4 M else zf_47_J92 x1 x2 x3 x4 M))
noncomputable def zf_47_J61 (x1 : Int32) (x2 : Int32) (x3 : Int32) (x4 : Int32) (M : jb_Mi) : Option ((Int32 × Int32) ⊕ ((Int32 × jb_Mi) ⊕ (jb_Mi))) :=
  zf_47_J62 x1 x2 x3 x4 0 M
noncomputable def zf_47_J129 (x1 : Int32) (x2 : Int32) (M : jb_Mi) : Option ((Int32 × jb_Mi) ⊕ (jb_Mi)) :=
  some (.inl ((x2 + 1), M))
noncomputable def zf_47_H26 (x1 : Int32) (x2 : Int32) (M : jb_Mi) (s : Int32 × Int32) : Option ((Int32 × Int32) ⊕ ((Int32 × jb_Mi) ⊕ (jb_Mi))) :=
  if s.2 < 16 then (zf_18 4 s.2 M).bind fun q2 => if (jb_b2i q2) = 0 then zf_47_J61 x1 x2 s.1 s.2 M else if (((M 41 4) >>> (s.2 &&& 31)) &&& 1) = 0 then zf_47_J62 x1 x2 s.1 s.2 1 M else zf_47_J61 x1 x2 s.1 s.2 M else if s.1 < 0 then ((zf_47_J129 x1 x2 M).map .inr) else jb_gd s.1 16 (((zf_47_J129 x1 x2 (jb_up (jb_up M 41 4 ((M 41 4) ||| ((1 : Int32) <<< (s.1 &&& 31)))) 41 3 (((jb_up M 41 4 ((M 41 4) ||| ((1 : Int32) <<< (s.1 &&& 31)))) 41 3) + ((jb_up M 41 4 ((M 41 4) ||| ((1 : Int32) <<< (s.1 &&& 31)))) 42 (s.1).toNatClampNeg)))).map .inr))
noncomputable def zf_47_H16 (x1 : Int32) (s : Int32 × jb_Mi) : Option ((Int32 × jb_Mi) ⊕ (jb_Mi)) :=
  if s.1 < x1 then jb_lp (zf_47_H26 x1 s.1 s.2) ((-1), 0) else some (.inr s.2)
noncomputable def zf_47 (x1 : Int32) (M : jb_Mi) : Option (jb_Mi) :=
  (zf_46 M).bind fun q1 => jb_lp (zf_47_H16 x1) (0, (jb_up (jb_up q1 41 3 0) 41 4 0))
set_option maxRecDepth 4000 in
theorem zg_47_J92 {Γ : jb_G} {L : Nat} {d : Nat} (hd : 4 ≤ d) (x1 : Int32) (x2 : Int32) (x3 : Int32) (x4 : Int32) (M : jb_Mi) (N : jb_Ml) {v : Option Value} {σ2 : jb_S} {r : ((Int32 × Int32) ⊕ ((Int32 × jb_Mi) ⊕ (jb_Mi)))} (h : zf_47_J92 x1 x2 x3 x4 M = some r) (hK : (jb_K (fun s : Int32 × Int32 => jb_V Γ d zq_47 26 [some (.ref 41), some (.int x1), some (.int x2), some (.int s.1), some (.int s.2), none] [] (zE L, M, N) v σ2) (jb_K (fun s : Int32 × jb_Mi => jb_V Γ d zq_47 16 [some (.ref 41), some (.int x1), some (.int s.1), none, none, none] [] (zE L, s.2, N) v σ2) (fun r : jb_Mi => v = none ∧ σ2 = (zE L, r, N)))) r) : jb_V Γ d zq_47 92 [some (.ref 41), some (.int x1), some (.int x2), some (.int x3), some (.int x4), none] [] (zE L, M, N) v σ2 := by
  obtain ⟨d, rfl⟩ : ∃ e, d = e + 1 := ⟨d - 1, by omega⟩
  unfold zf_47_J92 at h
  refine jb_seg 2 (pc' := 26) (ls' := [some (.ref 41), some (.int x1), some (.int x2), some (.int x3), some (.int (x4 + 1)), none]) (st' := []) (σ' := (zE L, M, N)) (G := []) rfl trivial ?_
  cases h
  exact jb_mask [true, true, true, true, true, false] rfl hK
set_option maxRecDepth 4000 in
theorem zg_47_J89 {Γ : jb_G} {L : Nat} {d : Nat} (hd : 4 ≤ d) (x1 : Int32) (x2 : Int32) (x4 : Int32) (M : jb_Mi) (N : jb_Ml) {v : Option Value} {σ2 : jb_S} {r : ((Int32 × Int32) ⊕ ((Int32 × jb_Mi) ⊕ (jb_Mi)))} (h : zf_47_J89 x1 x2 x4 M = some r) (hK : (jb_K (fun s : Int32 × Int32 => jb_V Γ d zq_47 26 [some (.ref 41), some (.int x1), some (.int x2), some (.int s.1), some (.int s.2), none] [] (zE L, M, N) v σ2) (jb_K (fun s : Int32 × jb_Mi => jb_V Γ d zq_47 16 [some (.ref 41), some (.int x1), some (.int s.1), none, none, none] [] (zE L, s.2, N) v σ2) (fun r : jb_Mi => v = none ∧ σ2 = (zE L, r, N)))) r) : jb_V Γ d zq_47 89 [some (.ref 41), some (.int x1), some (.int x2), none, some (.int x4), none] [] (zE L, M, N) v σ2 := by
  obtain ⟨d, rfl⟩ : ∃ e, d = e + 1 := ⟨d - 1, by omega⟩
  unfold zf_47_J89 at h
  refine jb_seg 2 (pc' := 92) (ls' := [some (.ref 41), some (.int x1), some (.int x2), some (.int x4), some (.int x4), none]) (st' := []) (σ' := (zE L, M, N)) (G := []) rfl trivial ?_
  exact jb_mask [true, true, true, true, true, false] rfl (zg_47_J92 hd x1 x2 x4 x4 M N h hK)
set_option maxRecDepth 4000 in
theorem zg_47_J62 {Γ : jb_G} {L : Nat} {d : Nat} (hd : 4 ≤ d) (x1 : Int32) (x2 : Int32) (x3 : Int32) (x4 : Int32) (s0 : Int32) (M : jb_Mi) (N : jb_Ml) {v : Option Value} {σ2 : jb_S} {r : ((Int32 × Int32) ⊕ ((Int32 × jb_Mi) ⊕ (jb_Mi)))} (h : zf_47_J62 x1 x2 x3 x4 s0 M = some r) (hK : (jb_K (fun s : Int32 × Int32 => jb_V Γ d zq_47 26 [some (.ref 41), some (.int x1), some (.int x2), some (.int s.1), some (.int s.2), none] [] (zE L, M, N) v σ2) (jb_K (fun s : Int32 × jb_Mi => jb_V Γ d zq_47 16 [some (.ref 41), some (.int x1), some (.int s.1), none, none, none] [] (zE L, s.2, N) v σ2) (fun r : jb_Mi => v = none ∧ σ2 = (zE L, r, N)))) r) : jb_V Γ d zq_47 62 [some (.ref 41), some (.int x1), some (.int x2), some (.int x3), some (.int x4), none] [(.int s0)] (zE L, M, N) v σ2 := by
  obtain ⟨d, rfl⟩ : ∃ e, d = e + 1 := ⟨d - 1, by omega⟩
  unfold zf_47_J62 at h
  refine jb_seg 3 (pc' := (if s0 = 0 then 92 else 69)) (ls' := [some (.ref 41), some (.int x1), some (.int x2), some (.int x3), some (.int x4), some (.int s0)]) (st' := []) (σ' := (zE L, M, N)) (G := []) rfl trivial ?_
  refine jb_ite (fun c => ?_) (fun c => ?_)
  · rw [if_pos c] at h
    exact jb_mask [true, true, true, true, true, false] rfl (zg_47_J92 hd x1 x2 x3 x4 M N h hK)
  · rw [if_neg c] at h
    refine jb_seg 2 (pc' := (if x3 < 0 then 89 else 73)) (ls' := [some (.ref 41), some (.int x1), some (.int x2), some (.int x3), some (.int x4), some (.int s0)]) (st' := []) (σ' := (zE L, M, N)) (G := []) rfl trivial ?_
    refine jb_ite (fun c => ?_) (fun c => ?_)
    · rw [if_pos c] at h
      exact jb_mask [true, true, true, false, true, false] rfl (zg_47_J89 hd x1 x2 x4 M N h hK)
    · rw [if_neg c] at h
      obtain ⟨g3, h⟩ := jb_gd_of h
      obtain ⟨g4, h⟩ := jb_gd_of h
      refine jb_seg 9 (pc' := (if (M 42 x3.toNatClampNeg) < (M 42 x4.toNatClampNeg) then 89 else 92)) (ls' := [some (.ref 41), some (.int x1), some (.int x2), some (.int x3), some (.int x4), some (.int s0)]) (st' := []) (σ' := (zE L, M, N)) (G := [vp_in x4 16, vp_in x3 16]) rfl ⟨g3, g4⟩ ?_
      refine jb_ite (fun c => ?_) (fun c => ?_)
      · rw [if_pos c] at h
        exact jb_mask [true, true, true, false, true, false] rfl (zg_47_J89 hd x1 x2 x4 M N h hK)
      · rw [if_neg c] at h
        exact jb_mask [true, true, true, true, true, false] rfl (zg_47_J92 hd x1 x2 x3 x4 M N h hK)
set_option maxRecDepth 4000 in
theorem zg_47_J61 {Γ : jb_G} {L : Nat} {d : Nat} (hd : 4 ≤ d) (x1 : Int32) (x2 : Int32) (x3 : Int32) (x4 : Int32) (M : jb_Mi) (N : jb_Ml) {v : Option Value} {σ2 : jb_S} {r : ((Int32 × Int32) ⊕ ((Int32 × jb_Mi) ⊕ (jb_Mi)))} (h : zf_47_J61 x1 x2 x3 x4 M = some r) (hK : (jb_K (fun s : Int32 × Int32 => jb_V Γ d zq_47 26 [some (.ref 41), some (.int x1), some (.int x2), some (.int s.1), some (.int s.2), none] [] (zE L, M, N) v σ2) (jb_K (fun s : Int32 × jb_Mi => jb_V Γ d zq_47 16 [some (.ref 41), some (.int x1), some (.int s.1), none, none, none] [] (zE L, s.2, N) v σ2) (fun r : jb_Mi => v = none ∧ σ2 = (zE L, r, N)))) r) : jb_V Γ d zq_47 61 [some (.ref 41), some (.int x1), some (.int x2), some (.int x3), some (.int x4), none] [] (zE L, M, N) v σ2 := by
  obtain ⟨d, rfl⟩ : ∃ e, d = e + 1 := ⟨d - 1, by omega⟩
  unfold zf_47_J61 at h
  refine jb_seg 1 (pc' := 62) (ls' := [some (.ref 41), some (.int x1), some (.int x2), some (.int x3), some (.int x4), none]) (st' := [(.int 0)]) (σ' := (zE L, M, N)) (G := []) rfl trivial ?_
  exact jb_mask [true, true, true, true, true, false] rfl (zg_47_J62 hd x1 x2 x3 x4 0 M N h hK)
set_option maxRecDepth 4000 in
theorem zg_47_J129 {Γ : jb_G} {L : Nat} {d : Nat} (hd : 4 ≤ d) (x1 : Int32) (x2 : Int32) (M : jb_Mi) (N : jb_Ml) {v : Option Value} {σ2 : jb_S} {r : ((Int32 × jb_Mi) ⊕ (jb_Mi))} (h : zf_47_J129 x1 x2 M = some r) (hK : (jb_K (fun s : Int32 × jb_Mi => jb_V Γ d zq_47 16 [some (.ref 41), some (.int x1), some (.int s.1), none, none, none] [] (zE L, s.2, N) v σ2) (fun r : jb_Mi => v = none ∧ σ2 = (zE L, r, N))) r) : jb_V Γ d zq_47 129 [some (.ref 41), some (.int x1), some (.int x2), none, none, none] [] (zE L, M, N) v σ2 := by
  obtain ⟨d, rfl⟩ : ∃ e, d = e + 1 := ⟨d - 1, by omega⟩
  unfold zf_47_J129 at h
  refine jb_seg 2 (pc' := 16) (ls' := [some (.ref 41), some (.int x1), some (.int (x2 + 1)), none, none, none]) (st' := []) (σ' := (zE L, M, N)) (G := []) rfl trivial ?_
  cases h
  exact jb_mask [true, true, true, false, false, false] rfl hK
set_option maxRecDepth 4000 in
theorem zg_47_H26 {Γ : jb_G} {L : Nat} {d : Nat} (hd : 4 ≤ d) (x1 : Int32) (x2 : Int32) (M : jb_Mi) (N : jb_Ml) (s : Int32 × Int32) {v : Option Value} {σ2 : jb_S} {r : ((Int32 × Int32) ⊕ ((Int32 × jb_Mi) ⊕ (jb_Mi)))} (h : zf_47_H26 x1 x2 M s = some r) (hK : (jb_K (fun s : Int32 × Int32 => jb_V Γ d zq_47 26 [some (.ref 41), some (.int x1), some (.int x2), some (.int s.1), some (.int s.2), none] [] (zE L, M, N) v σ2) (jb_K (fun s : Int32 × jb_Mi => jb_V Γ d zq_47 16 [some (.ref 41), some (.int x1), some (.int s.1), none, none, none] [] (zE L, s.2, N) v σ2) (fun r : jb_Mi => v = none ∧ σ2 = (zE L, r, N)))) r) : jb_V Γ d zq_47 26 [some (.ref 41), some (.int x1), some (.int x2), some (.int s.1), some (.int s.2), none] [] (zE L, M, N) v σ2 := by
  obtain ⟨d, rfl⟩ : ∃ e, d = e + 1 := ⟨d - 1, by omega⟩
  unfold zf_47_H26 at h
  refine jb_seg 3 (pc' := (if s.2 < 16 then 33 else 98)) (ls' := [some (.ref 41), some (.int x1), some (.int x2), some (.int s.1), some (.int s.2), none]) (st' := []) (σ' := (zE L, M, N)) (G := []) rfl trivial ?_
  refine jb_ite (fun c => ?_) (fun c => ?_)
  · rw [if_pos c] at h
    refine jb_seg 3 (pc' := 39) (ls' := [some (.ref 41), some (.int x1), some (.int x2), some (.int s.1), some (.int s.2), none]) (st' := [(.int s.2), (.ref 4)]) (σ' := (zE L, M, N)) (G := []) rfl trivial ?_
    obtain ⟨q2, h2, h⟩ := jb_bd_of h
    refine jb_callV (q' := zq_18) (As := [(.int s.2)]) (rest := []) (σ1 := (zE L, M, N)) (v := some (.int (jb_b2i q2))) rfl rfl zp_18 rfl (by decide) (jb_cat rfl) (Nat.le_of_ble_eq_true rfl) (Nat.le_of_ble_eq_true rfl) (Or.inl rfl) rfl (ze_18 4 s.2 M N (by decide) h2) ?_
    refine jb_seg 1 (pc' := (if (jb_b2i q2) = 0 then 61 else 45)) (ls' := [some (.ref 41), some (.int x1), some (.int x2), some (.int s.1), some (.int s.2), none]) (st' := []) (σ' := (zE L, M, N)) (G := []) rfl trivial ?_
    refine jb_ite (fun c => ?_) (fun c => ?_)
    · rw [if_pos c] at h
      exact jb_mask [true, true, true, true, true, false] rfl (zg_47_J61 hd x1 x2 s.1 s.2 M N h hK)
    · rw [if_neg c] at h
      refine jb_seg 7 (pc' := (if (((M 41 4) >>> (s.2 &&& 31)) &&& 1) = 0 then 57 else 61)) (ls' := [some (.ref 41), some (.int x1), some (.int x2), some (.int s.1), some (.int s.2), none]) (st' := []) (σ' := (zE L, M, N)) (G := []) rfl trivial ?_
      refine jb_ite (fun c => ?_) (fun c => ?_)
      · rw [if_pos c] at h
        refine jb_seg 2 (pc' := 62) (ls' := [some (.ref 41), some (.int x1), some (.int x2), some (.int s.1), some (.int s.2), none]) (st' := [(.int 1)]) (σ' := (zE L, M, N)) (G := []) rfl trivial ?_
        exact jb_mask [true, true, true, true, true, false] rfl (zg_47_J62 hd x1 x2 s.1 s.2 1 M N h hK)
      · rw [if_neg c] at h
        exact jb_mask [true, true, true, true, true, false] rfl (zg_47_J61 hd x1 x2 s.1 s.2 M N h hK)
  · rw [if_neg c] at h
    refine jb_seg 2 (pc' := (if s.1 < 0 then 129 else 102)) (ls' := [some (.ref 41), some (.int x1), some (.int x2), some (.int s.1), some (.int s.2), none]) (st' := []) (σ' := (zE L, M, N)) (G := []) rfl trivial ?_
    refine jb_ite (fun c => ?_) (fun c => ?_)
    · rw [if_pos c] at h
      obtain ⟨y0, hy0, rfl⟩ := jb_mp_of h
      exact jb_mask [true, true, true, false, false, false] rfl (zg_47_J129 hd x1 x2 M N hy0 hK)
    · rw [if_neg c] at h
      obtain ⟨g5, h⟩ := jb_gd_of h
      refine jb_seg 17 (pc' := 129) (ls' := [some (.ref 41), some (.int x1), some (.int x2), some (.int s.1), some (.int s.2), none]) (st' := []) (σ' := (zE L, (jb_up (jb_up M 41 4 ((M 41 4) ||| ((1 : Int32) <<< (s.1 &&& 31)))) 41 3 (((jb_up M 41 4 ((M 41 4) ||| ((1 : Int32) <<< (s.1 &&& 31)))) 41 3) + ((jb_up M 41 4 ((M 41 4) ||| ((1 : Int32) <<< (s.1 &&& 31)))) 42 (s.1).toNatClampNeg))), N)) (G := [vp_in s.1 16]) rfl g5 ?_
      obtain ⟨y0, hy0, rfl⟩ := jb_mp_of h
      exact jb_mask [true, true, true, false, false, false] rfl (zg_47_J129 hd x1 x2 (jb_up (jb_up M 41 4 ((M 41 4) ||| ((1 : Int32) <<< (s.1 &&& 31)))) 41 3 (((jb_up M 41 4 ((M 41 4) ||| ((1 : Int32) <<< (s.1 &&& 31)))) 41 3) + ((jb_up M 41 4 ((M 41 4) ||| ((1 : Int32) <<< (s.1 &&& 31)))) 42 (s.1).toNatClampNeg))) N hy0 hK)
theorem zg_47_H26L {Γ : jb_G} {L : Nat} {d : Nat} (hd : 4 ≤ d) (x1 : Int32) (x2 : Int32) (M : jb_Mi) (N : jb_Ml) {v : Option Value} {σ2 : jb_S} {s : Int32 × Int32} {r : ((Int32 × jb_Mi) ⊕ (jb_Mi))} (h : jb_lp (zf_47_H26 x1 x2 M) s = some r) (hK : (jb_K (fun s : Int32 × jb_Mi => jb_V Γ d zq_47 16 [some (.ref 41), some (.int x1), some (.int s.1), none, none, none] [] (zE L, s.2, N) v σ2) (fun r : jb_Mi => v = none ∧ σ2 = (zE L, r, N))) r) : jb_V Γ d zq_47 26 [some (.ref 41), some (.int x1), some (.int x2), some (.int s.1), some (.int s.2), none] [] (zE L, M, N) v σ2 := by
  exact jb_lp_ind (P := fun s => jb_V Γ d zq_47 26 [some (.ref 41), some (.int x1), some (.int x2), some (.int s.1), some (.int s.2), none] [] (zE L, M, N) v σ2) (K := (jb_K (fun s : Int32 × jb_Mi => jb_V Γ d zq_47 16 [some (.ref 41), some (.int x1), some (.int s.1), none, none, none] [] (zE L, s.2, N) v σ2) (fun r : jb_Mi => v = none ∧ σ2 = (zE L, r, N)))) (fun s r h hk => zg_47_H26 hd x1 x2 M N s h (by cases r <;> exact hk)) h hK
set_option maxRecDepth 4000 in
theorem zg_47_H16 {Γ : jb_G} {L : Nat} {d : Nat} (hd : 4 ≤ d) (x1 : Int32) (N : jb_Ml) (s : Int32 × jb_Mi) {v : Option Value} {σ2 : jb_S} {r : ((Int32 × jb_Mi) ⊕ (jb_Mi))} (h : zf_47_H16 x1 s = some r) (hK : (jb_K (fun s : Int32 × jb_Mi => jb_V Γ d zq_47 16 [some (.ref 41), some (.int x1), some (.int s.1), none, none, none] [] (zE L, s.2, N) v σ2) (fun r : jb_Mi => v = none ∧ σ2 = (zE L, r, N))) r) : jb_V Γ d zq_47 16 [some (.ref 41), some (.int x1), some (.int s.1), none, none, none] [] (zE L, s.2, N) v σ2 := by
  obtain ⟨d, rfl⟩ : ∃ e, d = e + 1 := ⟨d - 1, by omega⟩
  unfold zf_47_H16 at h
  refine jb_seg 3 (pc' := (if s.1 < x1 then 21 else 135)) (ls' := [some (.ref 41), some (.int x1), some (.int s.1), none, none, none]) (st' := []) (σ' := (zE L, s.2, N)) (G := []) rfl trivial ?_
  refine jb_ite (fun c => ?_) (fun c => ?_)
  · rw [if_pos c] at h
    refine jb_seg 4 (pc' := 26) (ls' := [some (.ref 41), some (.int x1), some (.int s.1), some (.int (-1)), some (.int 0), none]) (st' := []) (σ' := (zE L, s.2, N)) (G := []) rfl trivial ?_
    exact jb_mask [true, true, true, true, true, false] rfl (zg_47_H26L hd x1 s.1 s.2 N h hK)
  · rw [if_neg c] at h
    cases h
    obtain ⟨rfl, rfl⟩ := hK
    exact jb_retv rfl rfl
theorem zg_47_H16L {Γ : jb_G} {L : Nat} {d : Nat} (hd : 4 ≤ d) (x1 : Int32) (N : jb_Ml) {v : Option Value} {σ2 : jb_S} {s : Int32 × jb_Mi} {r : (jb_Mi)} (h : jb_lp (zf_47_H16 x1) s = some r) (hK : (fun r : jb_Mi => v = none ∧ σ2 = (zE L, r, N)) r) : jb_V Γ d zq_47 16 [some (.ref 41), some (.int x1), some (.int s.1), none, none, none] [] (zE L, s.2, N) v σ2 := by
  exact jb_lp_ind (P := fun s => jb_V Γ d zq_47 16 [some (.ref 41), some (.int x1), some (.int s.1), none, none, none] [] (zE L, s.2, N) v σ2) (K := (fun r : jb_Mi => v = none ∧ σ2 = (zE L, r, N))) (fun s r h hk => zg_47_H16 hd x1 N s h (by cases r <;> exact hk)) h hK
set_option maxRecDepth 4000 in
theorem zg_47 {Γ : jb_G} {L : Nat} {d : Nat} (hd : 4 ≤ d) (x1 : Int32) (M : jb_Mi) (N : jb_Ml) {v : Option Value} {σ2 : jb_S} {r : (jb_Mi)} (h : zf_47 x1 M = some r) (hK : (fun r : jb_Mi => v = none ∧ σ2 = (zE L, r, N)) r) : jb_V Γ d zq_47 0 [some (.ref 41), some (.int x1), none, none, none, none] [] (zE L, M, N) v σ2 := by
  obtain ⟨d, rfl⟩ : ∃ e, d = e + 1 := ⟨d - 1, by omega⟩
  unfold zf_47 at h
  refine jb_seg 1 (pc' := 1) (ls' := [some (.ref 41), some (.int x1), none, none, none, none]) (st' := [(.ref 41)]) (σ' := (zE L, M, N)) (G := []) rfl trivial ?_
  obtain ⟨q1, h1, h⟩ := jb_bd_of h
  refine jb_callV (q' := zq_46) (As := []) (rest := []) (σ1 := (zE L, q1, N)) (v := none) rfl rfl zp_46 rfl (by decide) (jb_cat rfl) (Nat.le_of_ble_eq_true rfl) (Nat.le_of_ble_eq_true rfl) (Or.inl rfl) rfl (ze_46 (by omega) M N h1) ?_
  refine jb_seg 8 (pc' := 16) (ls' := [some (.ref 41), some (.int x1), some (.int 0), none, none, none]) (st' := []) (σ' := (zE L, (jb_up (jb_up q1 41 3 0) 41 4 0), N)) (G := []) rfl trivial ?_
  exact jb_mask [true, true, true, false, false, false] rfl (zg_47_H16L hd x1 N h hK)
theorem ze_47 {Γ : jb_G} {L : Nat} {d : Nat} (hd : 4 ≤ d) (x1 : Int32) (M : jb_Mi) (N : jb_Ml) {r : (jb_Mi)} (h : zf_47 x1 M = some r) : jb_V Γ d zq_47 0 (jb_en 6 [(.ref 41), (.int x1)]) [] (zE L, M, N) (none) (zE L, r, N) := zg_47 hd x1 M N h ⟨rfl, rfl⟩
-- X2_reachedBy
noncomputable def zf_49_J88 (x1 : Int32) (x2 : Int32) (x3 : Int32) (x4 : Int32) (M : jb_Mi) : Option ((Int32 × Int32) ⊕ (Int32)) :=
  some (.inl (x3, (x4 + 1)))
noncomputable def zf_49_J46 (x1 : Int32) (x2 : Int32) (x3 : Int32) (x4 : Int32) (s0 : Int32) (M : jb_Mi) : Option ((Int32 × Int32) ⊕ (Int32)) :=
  (zf_37 4 x4 M).bind fun q3 => if (jb_b2i q3) = 0 then zf_49_J88 x1 x2 x3 x4 M else if 0 < s0 then jb_gd x1 6 (if (3 * (M 5 x1.toNatClampNeg)) < s0 then zf_49_J88 x1 x2 x3 x4 M else zf_49_J88 x1 x2 (x3 ||| ((1 : Int32) <<< (x4 &&& 31))) x4 M) else zf_49_J88 x1 x2 x3 x4 M
noncomputable def zf_49_H5 (x1 : Int32) (x2 : Int32) (M : jb_Mi) (s : Int32 × Int32) : Option ((Int32 × Int32) ⊕ (Int32)) :=
  if s.2 < 6 then jb_gd s.2 6 (jb_gd x1 6 (if x2 = 0 then zf_49_J46 x1 x2 s.1 s.2 (-((M 6 (s.2).toNatClampNeg) - (M 6 x1.toNatClampNeg))) M else zf_49_J46 x1 x2 s.1 s.2 ((M 6 (s.2).toNatClampNeg) - (M 6 x1.toNatClampNeg)) M)) else some (.inr s.1)
noncomputable def zf_49 (x1 : Int32) (x2 : Int32) (M : jb_Mi) : Option (Int32) :=
  jb_lp (zf_49_H5 x1 x2 M) (0, 0)
set_option maxRecDepth 4000 in
theorem zg_49_J88 {Γ : jb_G} {L : Nat} {d : Nat} (hd : 1 ≤ d) (x1 : Int32) (x2 : Int32) (x3 : Int32) (x4 : Int32) (M : jb_Mi) (N : jb_Ml) {v : Option Value} {σ2 : jb_S} {r : ((Int32 × Int32) ⊕ (Int32))} (h : zf_49_J88 x1 x2 x3 x4 M = some r) (hK : (jb_K (fun s : Int32 × Int32 => jb_V Γ d zq_49 5 [some (.ref 70), some (.int x1), some (.int x2), some (.int s.1), some (.int s.2), none, none] [] (zE L, M, N) v σ2) (fun r : Int32 => v = some (.int r) ∧ σ2 = (zE L, M, N))) r) : jb_V Γ d zq_49 88 [some (.ref 70), some (.int x1), some (.int x2), some (.int x3), some (.int x4), none, none] [] (zE L, M, N) v σ2 := by
  obtain ⟨d, rfl⟩ : ∃ e, d = e + 1 := ⟨d - 1, by omega⟩
  unfold zf_49_J88 at h
  refine jb_seg 2 (pc' := 5) (ls' := [some (.ref 70), some (.int x1), some (.int x2), some (.int x3), some (.int (x4 + 1)), none, none]) (st' := []) (σ' := (zE L, M, N)) (G := []) rfl trivial ?_
  cases h
  exact jb_mask [true, true, true, true, true, false, false] rfl hK
set_option maxRecDepth 4000 in
theorem zg_49_J46 {Γ : jb_G} {L : Nat} {d : Nat} (hd : 1 ≤ d) (x1 : Int32) (x2 : Int32) (x3 : Int32) (x4 : Int32) (s0 : Int32) (M : jb_Mi) (N : jb_Ml) {v : Option Value} {σ2 : jb_S} {r : ((Int32 × Int32) ⊕ (Int32))} (h : zf_49_J46 x1 x2 x3 x4 s0 M = some r) (hK : (jb_K (fun s : Int32 × Int32 => jb_V Γ d zq_49 5 [some (.ref 70), some (.int x1), some (.int x2), some (.int s.1), some (.int s.2), none, none] [] (zE L, M, N) v σ2) (fun r : Int32 => v = some (.int r) ∧ σ2 = (zE L, M, N))) r) : jb_V Γ d zq_49 46 [some (.ref 70), some (.int x1), some (.int x2), some (.int x3), some (.int x4), none, none] [(.int s0)] (zE L, M, N) v σ2 := by
  obtain ⟨d, rfl⟩ : ∃ e, d = e + 1 := ⟨d - 1, by omega⟩
  unfold zf_49_J46 at h
  refine jb_seg 4 (pc' := 54) (ls' := [some (.ref 70), some (.int x1), some (.int x2), some (.int x3), some (.int x4), none, some (.int s0)]) (st' := [(.int x4), (.ref 4)]) (σ' := (zE L, M, N)) (G := []) rfl trivial ?_
  obtain ⟨q3, h3, h⟩ := jb_bd_of h
  refine jb_callV (q' := zq_37) (As := [(.int x4)]) (rest := []) (σ1 := (zE L, M, N)) (v := some (.int (jb_b2i q3))) rfl rfl zp_37 rfl (by decide) (jb_cat rfl) (Nat.le_of_ble_eq_true rfl) (Nat.le_of_ble_eq_true rfl) (Or.inl rfl) rfl (ze_37 4 x4 M N (by decide) h3) ?_
  refine jb_seg 1 (pc' := (if (jb_b2i q3) = 0 then 88 else 60)) (ls' := [some (.ref 70), some (.int x1), some (.int x2), some (.int x3), some (.int x4), none, some (.int s0)]) (st' := []) (σ' := (zE L, M, N)) (G := []) rfl trivial ?_
  refine jb_ite (fun c => ?_) (fun c => ?_)
  · rw [if_pos c] at h
    exact jb_mask [true, true, true, true, true, false, false] rfl (zg_49_J88 hd x1 x2 x3 x4 M N h hK)
  · rw [if_neg c] at h
    refine jb_seg 2 (pc' := (if 0 < s0 then 65 else 88)) (ls' := [some (.ref 70), some (.int x1), some (.int x2), some (.int x3), some (.int x4), none, some (.int s0)]) (st' := []) (σ' := (zE L, M, N)) (G := []) rfl trivial ?_
    refine jb_ite (fun c => ?_) (fun c => ?_)
    · rw [if_pos c] at h
      obtain ⟨g4, h⟩ := jb_gd_of h
      refine jb_seg 9 (pc' := (if (3 * (M 5 x1.toNatClampNeg)) < s0 then 88 else 81)) (ls' := [some (.ref 70), some (.int x1), some (.int x2), some (.int x3), some (.int x4), none, some (.int s0)]) (st' := []) (σ' := (zE L, M, N)) (G := [vp_in x1 6]) rfl g4 ?_
      refine jb_ite (fun c => ?_) (fun c => ?_)
      · rw [if_pos c] at h
        exact jb_mask [true, true, true, true, true, false, false] rfl (zg_49_J88 hd x1 x2 x3 x4 M N h hK)
      · rw [if_neg c] at h
        refine jb_seg 6 (pc' := 88) (ls' := [some (.ref 70), some (.int x1), some (.int x2), some (.int (x3 ||| ((1 : Int32) <<< (x4 &&& 31)))), some (.int x4), none, some (.int s0)]) (st' := []) (σ' := (zE L, M, N)) (G := []) rfl trivial ?_
        exact jb_mask [true, true, true, true, true, false, false] rfl (zg_49_J88 hd x1 x2 (x3 ||| ((1 : Int32) <<< (x4 &&& 31))) x4 M N h hK)
    · rw [if_neg c] at h
      exact jb_mask [true, true, true, true, true, false, false] rfl (zg_49_J88 hd x1 x2 x3 x4 M N h hK)
set_option maxRecDepth 4000 in
theorem zg_49_H5 {Γ : jb_G} {L : Nat} {d : Nat} (hd : 1 ≤ d) (x1 : Int32) (x2 : Int32) (M : jb_Mi) (N : jb_Ml) (s : Int32 × Int32) {v : Option Value} {σ2 : jb_S} {r : ((Int32 × Int32) ⊕ (Int32))} (h : zf_49_H5 x1 x2 M s = some r) (hK : (jb_K (fun s : Int32 × Int32 => jb_V Γ d zq_49 5 [some (.ref 70), some (.int x1), some (.int x2), some (.int s.1), some (.int s.2), none, none] [] (zE L, M, N) v σ2) (fun r : Int32 => v = some (.int r) ∧ σ2 = (zE L, M, N))) r) : jb_V Γ d zq_49 5 [some (.ref 70), some (.int x1), some (.int x2), some (.int s.1), some (.int s.2), none, none] [] (zE L, M, N) v σ2 := by
  obtain ⟨d, rfl⟩ : ∃ e, d = e + 1 := ⟨d - 1, by omega⟩
  unfold zf_49_H5 at h
  refine jb_seg 3 (pc' := (if s.2 < 6 then 12 else 94)) (ls' := [some (.ref 70), some (.int x1), some (.int x2), some (.int s.1), some (.int s.2), none, none]) (st' := []) (σ' := (zE L, M, N)) (G := []) rfl trivial ?_
  refine jb_ite (fun c => ?_) (fun c => ?_)
  · rw [if_pos c] at h
    obtain ⟨g1, h⟩ := jb_gd_of h
    obtain ⟨g2, h⟩ := jb_gd_of h
    refine jb_seg 14 (pc' := (if x2 = 0 then 43 else 38)) (ls' := [some (.ref 70), some (.int x1), some (.int x2), some (.int s.1), some (.int s.2), some (.int ((M 6 (s.2).toNatClampNeg) - (M 6 x1.toNatClampNeg))), none]) (st' := []) (σ' := (zE L, M, N)) (G := [vp_in s.2 6, vp_in x1 6]) rfl ⟨g1, g2⟩ ?_
    refine jb_ite (fun c => ?_) (fun c => ?_)
    · rw [if_pos c] at h
      refine jb_seg 2 (pc' := 46) (ls' := [some (.ref 70), some (.int x1), some (.int x2), some (.int s.1), some (.int s.2), some (.int ((M 6 (s.2).toNatClampNeg) - (M 6 x1.toNatClampNeg))), none]) (st' := [(.int (-((M 6 (s.2).toNatClampNeg) - (M 6 x1.toNatClampNeg))))]) (σ' := (zE L, M, N)) (G := []) rfl trivial ?_
      exact jb_mask [true, true, true, true, true, false, false] rfl (zg_49_J46 hd x1 x2 s.1 s.2 (-((M 6 (s.2).toNatClampNeg) - (M 6 x1.toNatClampNeg))) M N h hK)
    · rw [if_neg c] at h
      refine jb_seg 2 (pc' := 46) (ls' := [some (.ref 70), some (.int x1), some (.int x2), some (.int s.1), some (.int s.2), some (.int ((M 6 (s.2).toNatClampNeg) - (M 6 x1.toNatClampNeg))), none]) (st' := [(.int ((M 6 (s.2).toNatClampNeg) - (M 6 x1.toNatClampNeg)))]) (σ' := (zE L, M, N)) (G := []) rfl trivial ?_
      exact jb_mask [true, true, true, true, true, false, false] rfl (zg_49_J46 hd x1 x2 s.1 s.2 ((M 6 (s.2).toNatClampNeg) - (M 6 x1.toNatClampNeg)) M N h hK)
  · rw [if_neg c] at h
    refine jb_seg 1 (pc' := 95) (ls' := [some (.ref 70), some (.int x1), some (.int x2), some (.int s.1), some (.int s.2), none, none]) (st' := [(.int s.1)]) (σ' := (zE L, M, N)) (G := []) rfl trivial ?_
    cases h
    obtain ⟨rfl, rfl⟩ := hK
    exact jb_reti rfl rfl
theorem zg_49_H5L {Γ : jb_G} {L : Nat} {d : Nat} (hd : 1 ≤ d) (x1 : Int32) (x2 : Int32) (M : jb_Mi) (N : jb_Ml) {v : Option Value} {σ2 : jb_S} {s : Int32 × Int32} {r : (Int32)} (h : jb_lp (zf_49_H5 x1 x2 M) s = some r) (hK : (fun r : Int32 => v = some (.int r) ∧ σ2 = (zE L, M, N)) r) : jb_V Γ d zq_49 5 [some (.ref 70), some (.int x1), some (.int x2), some (.int s.1), some (.int s.2), none, none] [] (zE L, M, N) v σ2 := by
  exact jb_lp_ind (P := fun s => jb_V Γ d zq_49 5 [some (.ref 70), some (.int x1), some (.int x2), some (.int s.1), some (.int s.2), none, none] [] (zE L, M, N) v σ2) (K := (fun r : Int32 => v = some (.int r) ∧ σ2 = (zE L, M, N))) (fun s r h hk => zg_49_H5 hd x1 x2 M N s h (by cases r <;> exact hk)) h hK
set_option maxRecDepth 4000 in
theorem zg_49 {Γ : jb_G} {L : Nat} {d : Nat} (hd : 1 ≤ d) (x1 : Int32) (x2 : Int32) (M : jb_Mi) (N : jb_Ml) {v : Option Value} {σ2 : jb_S} {r : (Int32)} (h : zf_49 x1 x2 M = some r) (hK : (fun r : Int32 => v = some (.int r) ∧ σ2 = (zE L, M, N)) r) : jb_V Γ d zq_49 0 [some (.ref 70), some (.int x1), some (.int x2), none, none, none, none] [] (zE L, M, N) v σ2 := by
  obtain ⟨d, rfl⟩ : ∃ e, d = e + 1 := ⟨d - 1, by omega⟩
  unfold zf_49 at h
  refine jb_seg 4 (pc' := 5) (ls' := [some (.ref 70), some (.int x1), some (.int x2), some (.int 0), some (.int 0), none, none]) (st' := []) (σ' := (zE L, M, N)) (G := []) rfl trivial ?_
  exact jb_mask [true, true, true, true, true, false, false] rfl (zg_49_H5L hd x1 x2 M N h hK)
theorem ze_49 {Γ : jb_G} {L : Nat} {d : Nat} (hd : 1 ≤ d) (x1 : Int32) (x2 : Int32) (M : jb_Mi) (N : jb_Ml) {r : (Int32)} (h : zf_49 x1 x2 M = some r) : jb_V Γ d zq_49 0 (jb_en 7 [(.ref 70), (.int x1), (.int x2)]) [] (zE L, M, N) (some (.int r)) (zE L, M, N) := zg_49 hd x1 x2 M N h ⟨rfl, rfl⟩
-- X2_knockedBy
noncomputable def zf_50_J43 (x2 : Int32) (x3 : Int32) (x4 : Int32) (x5 : Int32) (M : jb_Mi) : Option ((Int32 × Int32) ⊕ ((Int32 × Int32) ⊕ (Int32))) :=
  some (.inl (x3, (x5 + 1)))
noncomputable def zf_50_H17 (x2 : Int32) (x4 : Int32) (M : jb_Mi) (s : Int32 × Int32) : Option ((Int32 × Int32) ⊕ ((Int32 × Int32) ⊕ (Int32))) :=
  if s.2 < 6 then if ((s.1 >>> (s.2 &&& 31)) &&& 1) = 0 then zf_50_J43 x2 s.1 x4 s.2 M else (zf_49 s.2 x2 M).bind fun q1 => zf_50_J43 x2 (s.1 ||| q1) x4 s.2 M else some (.inr (.inl (s.1, (x4 + 1))))
noncomputable def zf_50_H7 (x2 : Int32) (M : jb_Mi) (s : Int32 × Int32) : Option ((Int32 × Int32) ⊕ (Int32)) :=
  if s.2 < 6 then jb_lp (zf_50_H17 x2 s.2 M) (s.1, 0) else some (.inr s.1)
noncomputable def zf_50 (x1 : Int32) (x2 : Int32) (M : jb_Mi) : Option (Int32) :=
  jb_lp (zf_50_H7 x2 M) (((1 : Int32) <<< (x1 &&& 31)), 0)
set_option maxRecDepth 4000 in
theorem zg_50_J43 {Γ : jb_G} {L : Nat} {d : Nat} (hd : 2 ≤ d) (x2 : Int32) (x3 : Int32) (x4 : Int32) (x5 : Int32) (M : jb_Mi) (N : jb_Ml) {v : Option Value} {σ2 : jb_S} {r : ((Int32 × Int32) ⊕ ((Int32 × Int32) ⊕ (Int32)))} (h : zf_50_J43 x2 x3 x4 x5 M = some r) (hK : (jb_K (fun s : Int32 × Int32 => jb_V Γ d zq_50 17 [some (.ref 70), none, some (.int x2), some (.int s.1), some (.int x4), some (.int s.2)] [] (zE L, M, N) v σ2) (jb_K (fun s : Int32 × Int32 => jb_V Γ d zq_50 7 [some (.ref 70), none, some (.int x2), some (.int s.1), some (.int s.2), none] [] (zE L, M, N) v σ2) (fun r : Int32 => v = some (.int r) ∧ σ2 = (zE L, M, N)))) r) : jb_V Γ d zq_50 43 [some (.ref 70), none, some (.int x2), some (.int x3), some (.int x4), some (.int x5)] [] (zE L, M, N) v σ2 := by
  obtain ⟨d, rfl⟩ : ∃ e, d = e + 1 := ⟨d - 1, by omega⟩
  unfold zf_50_J43 at h
  refine jb_seg 2 (pc' := 17) (ls' := [some (.ref 70), none, some (.int x2), some (.int x3), some (.int x4), some (.int (x5 + 1))]) (st' := []) (σ' := (zE L, M, N)) (G := []) rfl trivial ?_
  cases h
  exact jb_mask [true, false, true, true, true, true] rfl hK
set_option maxRecDepth 4000 in
theorem zg_50_H17 {Γ : jb_G} {L : Nat} {d : Nat} (hd : 2 ≤ d) (x2 : Int32) (x4 : Int32) (M : jb_Mi) (N : jb_Ml) (s : Int32 × Int32) {v : Option Value} {σ2 : jb_S} {r : ((Int32 × Int32) ⊕ ((Int32 × Int32) ⊕ (Int32)))} (h : zf_50_H17 x2 x4 M s = some r) (hK : (jb_K (fun s : Int32 × Int32 => jb_V Γ d zq_50 17 [some (.ref 70), none, some (.int x2), some (.int s.1), some (.int x4), some (.int s.2)] [] (zE L, M, N) v σ2) (jb_K (fun s : Int32 × Int32 => jb_V Γ d zq_50 7 [some (.ref 70), none, some (.int x2), some (.int s.1), some (.int s.2), none] [] (zE L, M, N) v σ2) (fun r : Int32 => v = some (.int r) ∧ σ2 = (zE L, M, N)))) r) : jb_V Γ d zq_50 17 [some (.ref 70), none, some (.int x2), some (.int s.1), some (.int x4), some (.int s.2)] [] (zE L, M, N) v σ2 := by
  obtain ⟨d, rfl⟩ : ∃ e, d = e + 1 := ⟨d - 1, by omega⟩
  unfold zf_50_H17 at h
  refine jb_seg 3 (pc' := (if s.2 < 6 then 24 else 49)) (ls' := [some (.ref 70), none, some (.int x2), some (.int s.1), some (.int x4), some (.int s.2)]) (st' := []) (σ' := (zE L, M, N)) (G := []) rfl trivial ?_
  refine jb_ite (fun c => ?_) (fun c => ?_)
  · rw [if_pos c] at h
    refine jb_seg 6 (pc' := (if ((s.1 >>> (s.2 &&& 31)) &&& 1) = 0 then 43 else 33)) (ls' := [some (.ref 70), none, some (.int x2), some (.int s.1), some (.int x4), some (.int s.2)]) (st' := []) (σ' := (zE L, M, N)) (G := []) rfl trivial ?_
    refine jb_ite (fun c => ?_) (fun c => ?_)
    · rw [if_pos c] at h
      exact jb_mask [true, false, true, true, true, true] rfl (zg_50_J43 hd x2 s.1 x4 s.2 M N h hK)
    · rw [if_neg c] at h
      refine jb_seg 4 (pc' := 38) (ls' := [some (.ref 70), none, some (.int x2), some (.int s.1), some (.int x4), some (.int s.2)]) (st' := [(.int x2), (.int s.2), (.ref 70), (.int s.1)]) (σ' := (zE L, M, N)) (G := []) rfl trivial ?_
      obtain ⟨q1, h1, h⟩ := jb_bd_of h
      refine jb_callV (q' := zq_49) (As := [(.int s.2), (.int x2)]) (rest := [(.int s.1)]) (σ1 := (zE L, M, N)) (v := some (.int q1)) rfl rfl zp_49 rfl (by decide) (jb_cat rfl) (Nat.le_of_ble_eq_true rfl) (Nat.le_of_ble_eq_true rfl) (Or.inl rfl) rfl (ze_49 (by omega) s.2 x2 M N h1) ?_
      refine jb_seg 2 (pc' := 43) (ls' := [some (.ref 70), none, some (.int x2), some (.int (s.1 ||| q1)), some (.int x4), some (.int s.2)]) (st' := []) (σ' := (zE L, M, N)) (G := []) rfl trivial ?_
      exact jb_mask [true, false, true, true, true, true] rfl (zg_50_J43 hd x2 (s.1 ||| q1) x4 s.2 M N h hK)
  · rw [if_neg c] at h
    refine jb_seg 2 (pc' := 7) (ls' := [some (.ref 70), none, some (.int x2), some (.int s.1), some (.int (x4 + 1)), some (.int s.2)]) (st' := []) (σ' := (zE L, M, N)) (G := []) rfl trivial ?_
    cases h
    exact jb_mask [true, false, true, true, true, false] rfl hK
theorem zg_50_H17L {Γ : jb_G} {L : Nat} {d : Nat} (hd : 2 ≤ d) (x2 : Int32) (x4 : Int32) (M : jb_Mi) (N : jb_Ml) {v : Option Value} {σ2 : jb_S} {s : Int32 × Int32} {r : ((Int32 × Int32) ⊕ (Int32))} (h : jb_lp (zf_50_H17 x2 x4 M) s = some r) (hK : (jb_K (fun s : Int32 × Int32 => jb_V Γ d zq_50 7 [some (.ref 70), none, some (.int x2), some (.int s.1), some (.int s.2), none] [] (zE L, M, N) v σ2) (fun r : Int32 => v = some (.int r) ∧ σ2 = (zE L, M, N))) r) : jb_V Γ d zq_50 17 [some (.ref 70), none, some (.int x2), some (.int s.1), some (.int x4), some (.int s.2)] [] (zE L, M, N) v σ2 := by
  exact jb_lp_ind (P := fun s => jb_V Γ d zq_50 17 [some (.ref 70), none, some (.int x2), some (.int s.1), some (.int x4), some (.int s.2)] [] (zE L, M, N) v σ2) (K := (jb_K (fun s : Int32 × Int32 => jb_V Γ d zq_50 7 [some (.ref 70), none, some (.int x2), some (.int s.1), some (.int s.2), none] [] (zE L, M, N) v σ2) (fun r : Int32 => v = some (.int r) ∧ σ2 = (zE L, M, N)))) (fun s r h hk => zg_50_H17 hd x2 x4 M N s h (by cases r <;> exact hk)) h hK
set_option maxRecDepth 4000 in
theorem zg_50_H7 {Γ : jb_G} {L : Nat} {d : Nat} (hd : 2 ≤ d) (x2 : Int32) (M : jb_Mi) (N : jb_Ml) (s : Int32 × Int32) {v : Option Value} {σ2 : jb_S} {r : ((Int32 × Int32) ⊕ (Int32))} (h : zf_50_H7 x2 M s = some r) (hK : (jb_K (fun s : Int32 × Int32 => jb_V Γ d zq_50 7 [some (.ref 70), none, some (.int x2), some (.int s.1), some (.int s.2), none] [] (zE L, M, N) v σ2) (fun r : Int32 => v = some (.int r) ∧ σ2 = (zE L, M, N))) r) : jb_V Γ d zq_50 7 [some (.ref 70), none, some (.int x2), some (.int s.1), some (.int s.2), none] [] (zE L, M, N) v σ2 := by
  obtain ⟨d, rfl⟩ : ∃ e, d = e + 1 := ⟨d - 1, by omega⟩
  unfold zf_50_H7 at h
  refine jb_seg 3 (pc' := (if s.2 < 6 then 14 else 55)) (ls' := [some (.ref 70), none, some (.int x2), some (.int s.1), some (.int s.2), none]) (st' := []) (σ' := (zE L, M, N)) (G := []) rfl trivial ?_
  refine jb_ite (fun c => ?_) (fun c => ?_)
  · rw [if_pos c] at h
    refine jb_seg 2 (pc' := 17) (ls' := [some (.ref 70), none, some (.int x2), some (.int s.1), some (.int s.2), some (.int 0)]) (st' := []) (σ' := (zE L, M, N)) (G := []) rfl trivial ?_
    exact jb_mask [true, false, true, true, true, true] rfl (zg_50_H17L hd x2 s.2 M N h hK)
  · rw [if_neg c] at h
    refine jb_seg 1 (pc' := 56) (ls' := [some (.ref 70), none, some (.int x2), some (.int s.1), some (.int s.2), none]) (st' := [(.int s.1)]) (σ' := (zE L, M, N)) (G := []) rfl trivial ?_
    cases h
    obtain ⟨rfl, rfl⟩ := hK
    exact jb_reti rfl rfl
theorem zg_50_H7L {Γ : jb_G} {L : Nat} {d : Nat} (hd : 2 ≤ d) (x2 : Int32) (M : jb_Mi) (N : jb_Ml) {v : Option Value} {σ2 : jb_S} {s : Int32 × Int32} {r : (Int32)} (h : jb_lp (zf_50_H7 x2 M) s = some r) (hK : (fun r : Int32 => v = some (.int r) ∧ σ2 = (zE L, M, N)) r) : jb_V Γ d zq_50 7 [some (.ref 70), none, some (.int x2), some (.int s.1), some (.int s.2), none] [] (zE L, M, N) v σ2 := by
  exact jb_lp_ind (P := fun s => jb_V Γ d zq_50 7 [some (.ref 70), none, some (.int x2), some (.int s.1), some (.int s.2), none] [] (zE L, M, N) v σ2) (K := (fun r : Int32 => v = some (.int r) ∧ σ2 = (zE L, M, N))) (fun s r h hk => zg_50_H7 hd x2 M N s h (by cases r <;> exact hk)) h hK
set_option maxRecDepth 4000 in
theorem zg_50 {Γ : jb_G} {L : Nat} {d : Nat} (hd : 2 ≤ d) (x1 : Int32) (x2 : Int32) (M : jb_Mi) (N : jb_Ml) {v : Option Value} {σ2 : jb_S} {r : (Int32)} (h : zf_50 x1 x2 M = some r) (hK : (fun r : Int32 => v = some (.int r) ∧ σ2 = (zE L, M, N)) r) : jb_V Γ d zq_50 0 [some (.ref 70), some (.int x1), some (.int x2), none, none, none] [] (zE L, M, N) v σ2 := by
  obtain ⟨d, rfl⟩ : ∃ e, d = e + 1 := ⟨d - 1, by omega⟩
  unfold zf_50 at h
  refine jb_seg 6 (pc' := 7) (ls' := [some (.ref 70), some (.int x1), some (.int x2), some (.int ((1 : Int32) <<< (x1 &&& 31))), some (.int 0), none]) (st' := []) (σ' := (zE L, M, N)) (G := []) rfl trivial ?_
  exact jb_mask [true, false, true, true, true, false] rfl (zg_50_H7L hd x2 M N h hK)
theorem ze_50 {Γ : jb_G} {L : Nat} {d : Nat} (hd : 2 ≤ d) (x1 : Int32) (x2 : Int32) (M : jb_Mi) (N : jb_Ml) {r : (Int32)} (h : zf_50 x1 x2 M = some r) : jb_V Γ d zq_50 0 (jb_en 6 [(.ref 70), (.int x1), (.int x2)]) [] (zE L, M, N) (some (.int r)) (zE L, M, N) := zg_50 hd x1 x2 M N h ⟨rfl, rfl⟩
-- X9_upBits
noncomputable def zf_51_J26 (o : Nat) (x2 : Int32) (s0 : Int32) (s1 : Int32) (M : jb_Mi) : Option ((Int32 × Int32) ⊕ (Int32)) :=
  some (.inl ((s0 ||| s1), (x2 + 1)))
noncomputable def zf_51_H4 (o : Nat) (M : jb_Mi) (s : Int32 × Int32) : Option ((Int32 × Int32) ⊕ (Int32)) :=
  if s.2 < 6 then (zf_37 o s.2 M).bind fun q1 => if (jb_b2i q1) = 0 then zf_51_J26 o s.2 s.1 0 M else zf_51_J26 o s.2 s.1 ((1 : Int32) <<< (s.2 &&& 31)) M else some (.inr s.1)
noncomputable def zf_51 (o : Nat) (M : jb_Mi) : Option (Int32) :=
  jb_lp (zf_51_H4 o M) (0, 0)
set_option maxRecDepth 4000 in
theorem zg_51_J26 {Γ : jb_G} {L : Nat} {d : Nat} (hd : 1 ≤ d) (o : Nat) (x2 : Int32) (s0 : Int32) (s1 : Int32) (M : jb_Mi) (N : jb_Ml) (hp : o = 4 ∨ o = 24) {v : Option Value} {σ2 : jb_S} {r : ((Int32 × Int32) ⊕ (Int32))} (h : zf_51_J26 o x2 s0 s1 M = some r) (hK : (jb_K (fun s : Int32 × Int32 => jb_V Γ d zq_51 4 [some (.ref o), some (.int s.1), some (.int s.2)] [] (zE L, M, N) v σ2) (fun r : Int32 => v = some (.int r) ∧ σ2 = (zE L, M, N))) r) : jb_V Γ d zq_51 26 [some (.ref o), none, some (.int x2)] [(.int s1), (.int s0)] (zE L, M, N) v σ2 := by
  rcases hp with rfl | rfl
  · obtain ⟨d, rfl⟩ : ∃ e, d = e + 1 := ⟨d - 1, by omega⟩
    unfold zf_51_J26 at h
    refine jb_seg 4 (pc' := 4) (ls' := [some (.ref 4), some (.int (s0 ||| s1)), some (.int (x2 + 1))]) (st' := []) (σ' := (zE L, M, N)) (G := []) rfl trivial ?_
    cases h
    exact jb_mask [true, true, true] rfl hK
  · obtain ⟨d, rfl⟩ : ∃ e, d = e + 1 := ⟨d - 1, by omega⟩
    unfold zf_51_J26 at h
    refine jb_seg 4 (pc' := 4) (ls' := [some (.ref 24), some (.int (s0 ||| s1)), some (.int (x2 + 1))]) (st' := []) (σ' := (zE L, M, N)) (G := []) rfl trivial ?_
    cases h
    exact jb_mask [true, true, true] rfl hK
set_option maxRecDepth 4000 in
theorem zg_51_H4 {Γ : jb_G} {L : Nat} {d : Nat} (hd : 1 ≤ d) (o : Nat) (M : jb_Mi) (N : jb_Ml) (s : Int32 × Int32) (hp : o = 4 ∨ o = 24) {v : Option Value} {σ2 : jb_S} {r : ((Int32 × Int32) ⊕ (Int32))} (h : zf_51_H4 o M s = some r) (hK : (jb_K (fun s : Int32 × Int32 => jb_V Γ d zq_51 4 [some (.ref o), some (.int s.1), some (.int s.2)] [] (zE L, M, N) v σ2) (fun r : Int32 => v = some (.int r) ∧ σ2 = (zE L, M, N))) r) : jb_V Γ d zq_51 4 [some (.ref o), some (.int s.1), some (.int s.2)] [] (zE L, M, N) v σ2 := by
  rcases hp with rfl | rfl
  · obtain ⟨d, rfl⟩ : ∃ e, d = e + 1 := ⟨d - 1, by omega⟩
    unfold zf_51_H4 at h
    refine jb_seg 3 (pc' := (if s.2 < 6 then 10 else 34)) (ls' := [some (.ref 4), some (.int s.1), some (.int s.2)]) (st' := []) (σ' := (zE L, M, N)) (G := []) rfl trivial ?_
    refine jb_ite (fun c => ?_) (fun c => ?_)
    · rw [if_pos c] at h
      refine jb_seg 3 (pc' := 13) (ls' := [some (.ref 4), some (.int s.1), some (.int s.2)]) (st' := [(.int s.2), (.ref 4), (.int s.1)]) (σ' := (zE L, M, N)) (G := []) rfl trivial ?_
      obtain ⟨q1, h1, h⟩ := jb_bd_of h
      refine jb_callV (q' := zq_37) (As := [(.int s.2)]) (rest := [(.int s.1)]) (σ1 := (zE L, M, N)) (v := some (.int (jb_b2i q1))) rfl rfl zp_37 rfl (by decide) (jb_cat rfl) (Nat.le_of_ble_eq_true rfl) (Nat.le_of_ble_eq_true rfl) (Or.inl rfl) rfl (ze_37 4 s.2 M N (by decide) h1) ?_
      refine jb_seg 1 (pc' := (if (jb_b2i q1) = 0 then 25 else 19)) (ls' := [some (.ref 4), some (.int s.1), some (.int s.2)]) (st' := [(.int s.1)]) (σ' := (zE L, M, N)) (G := []) rfl trivial ?_
      refine jb_ite (fun c => ?_) (fun c => ?_)
      · rw [if_pos c] at h
        refine jb_seg 1 (pc' := 26) (ls' := [some (.ref 4), some (.int s.1), some (.int s.2)]) (st' := [(.int 0), (.int s.1)]) (σ' := (zE L, M, N)) (G := []) rfl trivial ?_
        exact jb_mask [true, false, true] rfl (zg_51_J26 hd 4 s.2 s.1 0 M N (by decide) h hK)
      · rw [if_neg c] at h
        refine jb_seg 4 (pc' := 26) (ls' := [some (.ref 4), some (.int s.1), some (.int s.2)]) (st' := [(.int ((1 : Int32) <<< (s.2 &&& 31))), (.int s.1)]) (σ' := (zE L, M, N)) (G := []) rfl trivial ?_
        exact jb_mask [true, false, true] rfl (zg_51_J26 hd 4 s.2 s.1 ((1 : Int32) <<< (s.2 &&& 31)) M N (by decide) h hK)
    · rw [if_neg c] at h
      refine jb_seg 1 (pc' := 35) (ls' := [some (.ref 4), some (.int s.1), some (.int s.2)]) (st' := [(.int s.1)]) (σ' := (zE L, M, N)) (G := []) rfl trivial ?_
      cases h
      obtain ⟨rfl, rfl⟩ := hK
      exact jb_reti rfl rfl
  · obtain ⟨d, rfl⟩ : ∃ e, d = e + 1 := ⟨d - 1, by omega⟩
    unfold zf_51_H4 at h
    refine jb_seg 3 (pc' := (if s.2 < 6 then 10 else 34)) (ls' := [some (.ref 24), some (.int s.1), some (.int s.2)]) (st' := []) (σ' := (zE L, M, N)) (G := []) rfl trivial ?_
    refine jb_ite (fun c => ?_) (fun c => ?_)
    · rw [if_pos c] at h
      refine jb_seg 3 (pc' := 13) (ls' := [some (.ref 24), some (.int s.1), some (.int s.2)]) (st' := [(.int s.2), (.ref 24), (.int s.1)]) (σ' := (zE L, M, N)) (G := []) rfl trivial ?_
      obtain ⟨q1, h1, h⟩ := jb_bd_of h
      refine jb_callV (q' := zq_37) (As := [(.int s.2)]) (rest := [(.int s.1)]) (σ1 := (zE L, M, N)) (v := some (.int (jb_b2i q1))) rfl rfl zp_37 rfl (by decide) (jb_cat rfl) (Nat.le_of_ble_eq_true rfl) (Nat.le_of_ble_eq_true rfl) (Or.inl rfl) rfl (ze_37 24 s.2 M N (by decide) h1) ?_
      refine jb_seg 1 (pc' := (if (jb_b2i q1) = 0 then 25 else 19)) (ls' := [some (.ref 24), some (.int s.1), some (.int s.2)]) (st' := [(.int s.1)]) (σ' := (zE L, M, N)) (G := []) rfl trivial ?_
      refine jb_ite (fun c => ?_) (fun c => ?_)
      · rw [if_pos c] at h
        refine jb_seg 1 (pc' := 26) (ls' := [some (.ref 24), some (.int s.1), some (.int s.2)]) (st' := [(.int 0), (.int s.1)]) (σ' := (zE L, M, N)) (G := []) rfl trivial ?_
        exact jb_mask [true, false, true] rfl (zg_51_J26 hd 24 s.2 s.1 0 M N (by decide) h hK)
      · rw [if_neg c] at h
        refine jb_seg 4 (pc' := 26) (ls' := [some (.ref 24), some (.int s.1), some (.int s.2)]) (st' := [(.int ((1 : Int32) <<< (s.2 &&& 31))), (.int s.1)]) (σ' := (zE L, M, N)) (G := []) rfl trivial ?_
        exact jb_mask [true, false, true] rfl (zg_51_J26 hd 24 s.2 s.1 ((1 : Int32) <<< (s.2 &&& 31)) M N (by decide) h hK)
    · rw [if_neg c] at h
      refine jb_seg 1 (pc' := 35) (ls' := [some (.ref 24), some (.int s.1), some (.int s.2)]) (st' := [(.int s.1)]) (σ' := (zE L, M, N)) (G := []) rfl trivial ?_
      cases h
      obtain ⟨rfl, rfl⟩ := hK
      exact jb_reti rfl rfl
theorem zg_51_H4L {Γ : jb_G} {L : Nat} {d : Nat} (hd : 1 ≤ d) (o : Nat) (M : jb_Mi) (N : jb_Ml) (hp : o = 4 ∨ o = 24) {v : Option Value} {σ2 : jb_S} {s : Int32 × Int32} {r : (Int32)} (h : jb_lp (zf_51_H4 o M) s = some r) (hK : (fun r : Int32 => v = some (.int r) ∧ σ2 = (zE L, M, N)) r) : jb_V Γ d zq_51 4 [some (.ref o), some (.int s.1), some (.int s.2)] [] (zE L, M, N) v σ2 := by
  exact jb_lp_ind (P := fun s => jb_V Γ d zq_51 4 [some (.ref o), some (.int s.1), some (.int s.2)] [] (zE L, M, N) v σ2) (K := (fun r : Int32 => v = some (.int r) ∧ σ2 = (zE L, M, N))) (fun s r h hk => zg_51_H4 hd o M N s hp h (by cases r <;> exact hk)) h hK
set_option maxRecDepth 4000 in
theorem zg_51 {Γ : jb_G} {L : Nat} {d : Nat} (hd : 1 ≤ d) (o : Nat) (M : jb_Mi) (N : jb_Ml) (hp : o = 4 ∨ o = 24) {v : Option Value} {σ2 : jb_S} {r : (Int32)} (h : zf_51 o M = some r) (hK : (fun r : Int32 => v = some (.int r) ∧ σ2 = (zE L, M, N)) r) : jb_V Γ d zq_51 0 [some (.ref o), none, none] [] (zE L, M, N) v σ2 := by
  rcases hp with rfl | rfl
  · obtain ⟨d, rfl⟩ : ∃ e, d = e + 1 := ⟨d - 1, by omega⟩
    unfold zf_51 at h
    refine jb_seg 4 (pc' := 4) (ls' := [some (.ref 4), some (.int 0), some (.int 0)]) (st' := []) (σ' := (zE L, M, N)) (G := []) rfl trivial ?_
    exact jb_mask [true, true, true] rfl (zg_51_H4L hd 4 M N (by decide) h hK)
  · obtain ⟨d, rfl⟩ : ∃ e, d = e + 1 := ⟨d - 1, by omega⟩
    unfold zf_51 at h
    refine jb_seg 4 (pc' := 4) (ls' := [some (.ref 24), some (.int 0), some (.int 0)]) (st' := []) (σ' := (zE L, M, N)) (G := []) rfl trivial ?_
    exact jb_mask [true, true, true] rfl (zg_51_H4L hd 24 M N (by decide) h hK)
theorem ze_51 {Γ : jb_G} {L : Nat} {d : Nat} (hd : 1 ≤ d) (o : Nat) (M : jb_Mi) (N : jb_Ml) (hp : o = 4 ∨ o = 24) {r : (Int32)} (h : zf_51 o M = some r) : jb_V Γ d zq_51 0 (jb_en 3 [(.ref o)]) [] (zE L, M, N) (some (.int r)) (zE L, M, N) := zg_51 hd o M N hp h ⟨rfl, rfl⟩
-- X2_felledBy
noncomputable def zf_52_J50 (x1 : Int32) (x2 : Int32) (x3 : Int32) (x4 : Int32) (M : jb_Mi) : Option ((Int32 × Int32) ⊕ (Int32)) :=
  some (.inl (x3, (x4 + 1)))
noncomputable def zf_52_J48 (x1 : Int32) (x2 : Int32) (x4 : Int32) (s0 : Int32) (s1 : Int32) (M : jb_Mi) : Option ((Int32 × Int32) ⊕ (Int32)) :=
  zf_52_J50 x1 x2 (s0 ||| s1) x4 M
noncomputable def zf_52_H5 (x1 : Int32) (x2 : Int32) (M : jb_Mi) (s : Int32 × Int32) : Option ((Int32 × Int32) ⊕ (Int32)) :=
  if s.2 < 6 then if ((x1 >>> (s.2 &&& 31)) &&& 1) = 0 then zf_52_J50 x1 x2 s.1 s.2 M else if ((x2 >>> (s.2 &&& 31)) &&& 1) = 0 then jb_gd s.2 6 (zf_52_J48 x1 x2 s.2 s.1 (M 72 (s.2).toNatClampNeg) M) else jb_gd s.2 6 (zf_52_J48 x1 x2 s.2 s.1 (M 71 (s.2).toNatClampNeg) M) else some (.inr s.1)
noncomputable def zf_52 (x1 : Int32) (x2 : Int32) (M : jb_Mi) : Option (Int32) :=
  jb_lp (zf_52_H5 x1 x2 M) (0, 0)
set_option maxRecDepth 4000 in
theorem zg_52_J50 {Γ : jb_G} {L : Nat} {d : Nat} (x1 : Int32) (x2 : Int32) (x3 : Int32) (x4 : Int32) (M : jb_Mi) (N : jb_Ml) {v : Option Value} {σ2 : jb_S} {r : ((Int32 × Int32) ⊕ (Int32))} (h : zf_52_J50 x1 x2 x3 x4 M = some r) (hK : (jb_K (fun s : Int32 × Int32 => jb_V Γ d zq_52 5 [some (.ref 70), some (.int x1), some (.int x2), some (.int s.1), some (.int s.2)] [] (zE L, M, N) v σ2) (fun r : Int32 => v = some (.int r) ∧ σ2 = (zE L, M, N))) r) : jb_V Γ d zq_52 50 [some (.ref 70), some (.int x1), some (.int x2), some (.int x3), some (.int x4)] [] (zE L, M, N) v σ2 := by
  unfold zf_52_J50 at h
  refine jb_seg 2 (pc' := 5) (ls' := [some (.ref 70), some (.int x1), some (.int x2), some (.int x3), some (.int (x4 + 1))]) (st' := []) (σ' := (zE L, M, N)) (G := []) rfl trivial ?_
  cases h
  exact jb_mask [true, true, true, true, true] rfl hK
set_option maxRecDepth 4000 in
theorem zg_52_J48 {Γ : jb_G} {L : Nat} {d : Nat} (x1 : Int32) (x2 : Int32) (x4 : Int32) (s0 : Int32) (s1 : Int32) (M : jb_Mi) (N : jb_Ml) {v : Option Value} {σ2 : jb_S} {r : ((Int32 × Int32) ⊕ (Int32))} (h : zf_52_J48 x1 x2 x4 s0 s1 M = some r) (hK : (jb_K (fun s : Int32 × Int32 => jb_V Γ d zq_52 5 [some (.ref 70), some (.int x1), some (.int x2), some (.int s.1), some (.int s.2)] [] (zE L, M, N) v σ2) (fun r : Int32 => v = some (.int r) ∧ σ2 = (zE L, M, N))) r) : jb_V Γ d zq_52 48 [some (.ref 70), some (.int x1), some (.int x2), none, some (.int x4)] [(.int s1), (.int s0)] (zE L, M, N) v σ2 := by
  unfold zf_52_J48 at h
  refine jb_seg 2 (pc' := 50) (ls' := [some (.ref 70), some (.int x1), some (.int x2), some (.int (s0 ||| s1)), some (.int x4)]) (st' := []) (σ' := (zE L, M, N)) (G := []) rfl trivial ?_
  exact jb_mask [true, true, true, true, true] rfl (zg_52_J50 x1 x2 (s0 ||| s1) x4 M N h hK)
set_option maxRecDepth 4000 in
theorem zg_52_H5 {Γ : jb_G} {L : Nat} {d : Nat} (x1 : Int32) (x2 : Int32) (M : jb_Mi) (N : jb_Ml) (s : Int32 × Int32) {v : Option Value} {σ2 : jb_S} {r : ((Int32 × Int32) ⊕ (Int32))} (h : zf_52_H5 x1 x2 M s = some r) (hK : (jb_K (fun s : Int32 × Int32 => jb_V Γ d zq_52 5 [some (.ref 70), some (.int x1), some (.int x2), some (.int s.1), some (.int s.2)] [] (zE L, M, N) v σ2) (fun r : Int32 => v = some (.int r) ∧ σ2 = (zE L, M, N))) r) : jb_V Γ d zq_52 5 [some (.ref 70), some (.int x1), some (.int x2), some (.int s.1), some (.int s.2)] [] (zE L, M, N) v σ2 := by
  unfold zf_52_H5 at h
  refine jb_seg 3 (pc' := (if s.2 < 6 then 12 else 56)) (ls' := [some (.ref 70), some (.int x1), some (.int x2), some (.int s.1), some (.int s.2)]) (st' := []) (σ' := (zE L, M, N)) (G := []) rfl trivial ?_
  refine jb_ite (fun c => ?_) (fun c => ?_)
  · rw [if_pos c] at h
    refine jb_seg 6 (pc' := (if ((x1 >>> (s.2 &&& 31)) &&& 1) = 0 then 50 else 21)) (ls' := [some (.ref 70), some (.int x1), some (.int x2), some (.int s.1), some (.int s.2)]) (st' := []) (σ' := (zE L, M, N)) (G := []) rfl trivial ?_
    refine jb_ite (fun c => ?_) (fun c => ?_)
    · rw [if_pos c] at h
      exact jb_mask [true, true, true, true, true] rfl (zg_52_J50 x1 x2 s.1 s.2 M N h hK)
    · rw [if_neg c] at h
      refine jb_seg 7 (pc' := (if ((x2 >>> (s.2 &&& 31)) &&& 1) = 0 then 41 else 31)) (ls' := [some (.ref 70), some (.int x1), some (.int x2), some (.int s.1), some (.int s.2)]) (st' := [(.int s.1)]) (σ' := (zE L, M, N)) (G := []) rfl trivial ?_
      refine jb_ite (fun c => ?_) (fun c => ?_)
      · rw [if_pos c] at h
        obtain ⟨g1, h⟩ := jb_gd_of h
        refine jb_seg 4 (pc' := 48) (ls' := [some (.ref 70), some (.int x1), some (.int x2), some (.int s.1), some (.int s.2)]) (st' := [(.int (M 72 (s.2).toNatClampNeg)), (.int s.1)]) (σ' := (zE L, M, N)) (G := [vp_in s.2 6]) rfl g1 ?_
        exact jb_mask [true, true, true, false, true] rfl (zg_52_J48 x1 x2 s.2 s.1 (M 72 (s.2).toNatClampNeg) M N h hK)
      · rw [if_neg c] at h
        obtain ⟨g2, h⟩ := jb_gd_of h
        refine jb_seg 5 (pc' := 48) (ls' := [some (.ref 70), some (.int x1), some (.int x2), some (.int s.1), some (.int s.2)]) (st' := [(.int (M 71 (s.2).toNatClampNeg)), (.int s.1)]) (σ' := (zE L, M, N)) (G := [vp_in s.2 6]) rfl g2 ?_
        exact jb_mask [true, true, true, false, true] rfl (zg_52_J48 x1 x2 s.2 s.1 (M 71 (s.2).toNatClampNeg) M N h hK)
  · rw [if_neg c] at h
    refine jb_seg 1 (pc' := 57) (ls' := [some (.ref 70), some (.int x1), some (.int x2), some (.int s.1), some (.int s.2)]) (st' := [(.int s.1)]) (σ' := (zE L, M, N)) (G := []) rfl trivial ?_
    cases h
    obtain ⟨rfl, rfl⟩ := hK
    exact jb_reti rfl rfl
theorem zg_52_H5L {Γ : jb_G} {L : Nat} {d : Nat} (x1 : Int32) (x2 : Int32) (M : jb_Mi) (N : jb_Ml) {v : Option Value} {σ2 : jb_S} {s : Int32 × Int32} {r : (Int32)} (h : jb_lp (zf_52_H5 x1 x2 M) s = some r) (hK : (fun r : Int32 => v = some (.int r) ∧ σ2 = (zE L, M, N)) r) : jb_V Γ d zq_52 5 [some (.ref 70), some (.int x1), some (.int x2), some (.int s.1), some (.int s.2)] [] (zE L, M, N) v σ2 := by
  exact jb_lp_ind (P := fun s => jb_V Γ d zq_52 5 [some (.ref 70), some (.int x1), some (.int x2), some (.int s.1), some (.int s.2)] [] (zE L, M, N) v σ2) (K := (fun r : Int32 => v = some (.int r) ∧ σ2 = (zE L, M, N))) (fun s r h hk => zg_52_H5 x1 x2 M N s h (by cases r <;> exact hk)) h hK
set_option maxRecDepth 4000 in
theorem zg_52 {Γ : jb_G} {L : Nat} {d : Nat} (x1 : Int32) (x2 : Int32) (M : jb_Mi) (N : jb_Ml) {v : Option Value} {σ2 : jb_S} {r : (Int32)} (h : zf_52 x1 x2 M = some r) (hK : (fun r : Int32 => v = some (.int r) ∧ σ2 = (zE L, M, N)) r) : jb_V Γ d zq_52 0 [some (.ref 70), some (.int x1), some (.int x2), none, none] [] (zE L, M, N) v σ2 := by
  unfold zf_52 at h
  refine jb_seg 4 (pc' := 5) (ls' := [some (.ref 70), some (.int x1), some (.int x2), some (.int 0), some (.int 0)]) (st' := []) (σ' := (zE L, M, N)) (G := []) rfl trivial ?_
  exact jb_mask [true, true, true, true, true] rfl (zg_52_H5L x1 x2 M N h hK)
theorem ze_52 {Γ : jb_G} {L : Nat} {d : Nat} (x1 : Int32) (x2 : Int32) (M : jb_Mi) (N : jb_Ml) {r : (Int32)} (h : zf_52 x1 x2 M = some r) : jb_V Γ d zq_52 0 (jb_en 5 [(.ref 70), (.int x1), (.int x2)]) [] (zE L, M, N) (some (.int r)) (zE L, M, N) := zg_52 x1 x2 M N h ⟨rfl, rfl⟩
-- X2_canFell
noncomputable def zf_53_J28 (x1 : Int32) (x2 : Int32) (x3 : Int32) (M : jb_Mi) : Option ((Int32) ⊕ (Bool)) :=
  some (.inl (x3 + 1))
noncomputable def zf_53_H2 (x1 : Int32) (x2 : Int32) (M : jb_Mi) (s : Int32) : Option ((Int32) ⊕ (Bool)) :=
  if s < 64 then if (s &&& (x1 ^^^ (-1))) = 0 then (zf_52 x1 s M).bind fun q1 => if q1 = x2 then some (.inr true) else zf_53_J28 x1 x2 s M else zf_53_J28 x1 x2 s M else some (.inr false)
noncomputable def zf_53 (x1 : Int32) (x2 : Int32) (M : jb_Mi) : Option (Bool) :=
  jb_lp (zf_53_H2 x1 x2 M) 0
set_option maxRecDepth 4000 in
theorem zg_53_J28 {Γ : jb_G} {L : Nat} {d : Nat} (hd : 1 ≤ d) (x1 : Int32) (x2 : Int32) (x3 : Int32) (M : jb_Mi) (N : jb_Ml) {v : Option Value} {σ2 : jb_S} {r : ((Int32) ⊕ (Bool))} (h : zf_53_J28 x1 x2 x3 M = some r) (hK : (jb_K (fun s : Int32 => jb_V Γ d zq_53 2 [some (.ref 70), some (.int x1), some (.int x2), some (.int s)] [] (zE L, M, N) v σ2) (fun r : Bool => v = some (.int (jb_b2i r)) ∧ σ2 = (zE L, M, N))) r) : jb_V Γ d zq_53 28 [some (.ref 70), some (.int x1), some (.int x2), some (.int x3)] [] (zE L, M, N) v σ2 := by
  obtain ⟨d, rfl⟩ : ∃ e, d = e + 1 := ⟨d - 1, by omega⟩
  unfold zf_53_J28 at h
  refine jb_seg 2 (pc' := 2) (ls' := [some (.ref 70), some (.int x1), some (.int x2), some (.int (x3 + 1))]) (st' := []) (σ' := (zE L, M, N)) (G := []) rfl trivial ?_
  cases h
  exact jb_mask [true, true, true, true] rfl hK
set_option maxRecDepth 4000 in
theorem zg_53_H2 {Γ : jb_G} {L : Nat} {d : Nat} (hd : 1 ≤ d) (x1 : Int32) (x2 : Int32) (M : jb_Mi) (N : jb_Ml) (s : Int32) {v : Option Value} {σ2 : jb_S} {r : ((Int32) ⊕ (Bool))} (h : zf_53_H2 x1 x2 M s = some r) (hK : (jb_K (fun s : Int32 => jb_V Γ d zq_53 2 [some (.ref 70), some (.int x1), some (.int x2), some (.int s)] [] (zE L, M, N) v σ2) (fun r : Bool => v = some (.int (jb_b2i r)) ∧ σ2 = (zE L, M, N))) r) : jb_V Γ d zq_53 2 [some (.ref 70), some (.int x1), some (.int x2), some (.int s)] [] (zE L, M, N) v σ2 := by
  obtain ⟨d, rfl⟩ : ∃ e, d = e + 1 := ⟨d - 1, by omega⟩
  unfold zf_53_H2 at h
  refine jb_seg 3 (pc' := (if s < 64 then 8 else 34)) (ls' := [some (.ref 70), some (.int x1), some (.int x2), some (.int s)]) (st' := []) (σ' := (zE L, M, N)) (G := []) rfl trivial ?_
  refine jb_ite (fun c => ?_) (fun c => ?_)
  · rw [if_pos c] at h
    refine jb_seg 6 (pc' := (if (s &&& (x1 ^^^ (-1))) = 0 then 16 else 28)) (ls' := [some (.ref 70), some (.int x1), some (.int x2), some (.int s)]) (st' := []) (σ' := (zE L, M, N)) (G := []) rfl trivial ?_
    refine jb_ite (fun c => ?_) (fun c => ?_)
    · rw [if_pos c] at h
      refine jb_seg 3 (pc' := 19) (ls' := [some (.ref 70), some (.int x1), some (.int x2), some (.int s)]) (st' := [(.int s), (.int x1), (.ref 70)]) (σ' := (zE L, M, N)) (G := []) rfl trivial ?_
      obtain ⟨q1, h1, h⟩ := jb_bd_of h
      refine jb_callV (q' := zq_52) (As := [(.int x1), (.int s)]) (rest := []) (σ1 := (zE L, M, N)) (v := some (.int q1)) rfl rfl zp_52 rfl (by decide) (jb_cat rfl) (Nat.le_of_ble_eq_true rfl) (Nat.le_of_ble_eq_true rfl) (Or.inl rfl) rfl (ze_52 x1 s M N h1) ?_
      refine jb_seg 2 (pc' := (if q1 = x2 then 26 else 28)) (ls' := [some (.ref 70), some (.int x1), some (.int x2), some (.int s)]) (st' := []) (σ' := (zE L, M, N)) (G := []) rfl trivial ?_
      refine jb_ite (fun c => ?_) (fun c => ?_)
      · rw [if_pos c] at h
        refine jb_seg 1 (pc' := 27) (ls' := [some (.ref 70), some (.int x1), some (.int x2), some (.int s)]) (st' := [(.int 1)]) (σ' := (zE L, M, N)) (G := []) rfl trivial ?_
        cases h
        obtain ⟨rfl, rfl⟩ := hK
        exact jb_retz (by decide) rfl rfl
      · rw [if_neg c] at h
        exact jb_mask [true, true, true, true] rfl (zg_53_J28 hd x1 x2 s M N h hK)
    · rw [if_neg c] at h
      exact jb_mask [true, true, true, true] rfl (zg_53_J28 hd x1 x2 s M N h hK)
  · rw [if_neg c] at h
    refine jb_seg 1 (pc' := 35) (ls' := [some (.ref 70), some (.int x1), some (.int x2), some (.int s)]) (st' := [(.int 0)]) (σ' := (zE L, M, N)) (G := []) rfl trivial ?_
    cases h
    obtain ⟨rfl, rfl⟩ := hK
    exact jb_retz (by decide) rfl rfl
theorem zg_53_H2L {Γ : jb_G} {L : Nat} {d : Nat} (hd : 1 ≤ d) (x1 : Int32) (x2 : Int32) (M : jb_Mi) (N : jb_Ml) {v : Option Value} {σ2 : jb_S} {s : Int32} {r : (Bool)} (h : jb_lp (zf_53_H2 x1 x2 M) s = some r) (hK : (fun r : Bool => v = some (.int (jb_b2i r)) ∧ σ2 = (zE L, M, N)) r) : jb_V Γ d zq_53 2 [some (.ref 70), some (.int x1), some (.int x2), some (.int s)] [] (zE L, M, N) v σ2 := by
  exact jb_lp_ind (P := fun s => jb_V Γ d zq_53 2 [some (.ref 70), some (.int x1), some (.int x2), some (.int s)] [] (zE L, M, N) v σ2) (K := (fun r : Bool => v = some (.int (jb_b2i r)) ∧ σ2 = (zE L, M, N))) (fun s r h hk => zg_53_H2 hd x1 x2 M N s h (by cases r <;> exact hk)) h hK
set_option maxRecDepth 4000 in
theorem zg_53 {Γ : jb_G} {L : Nat} {d : Nat} (hd : 1 ≤ d) (x1 : Int32) (x2 : Int32) (M : jb_Mi) (N : jb_Ml) {v : Option Value} {σ2 : jb_S} {r : (Bool)} (h : zf_53 x1 x2 M = some r) (hK : (fun r : Bool => v = some (.int (jb_b2i r)) ∧ σ2 = (zE L, M, N)) r) : jb_V Γ d zq_53 0 [some (.ref 70), some (.int x1), some (.int x2), none] [] (zE L, M, N) v σ2 := by
  obtain ⟨d, rfl⟩ : ∃ e, d = e + 1 := ⟨d - 1, by omega⟩
  unfold zf_53 at h
  refine jb_seg 2 (pc' := 2) (ls' := [some (.ref 70), some (.int x1), some (.int x2), some (.int 0)]) (st' := []) (σ' := (zE L, M, N)) (G := []) rfl trivial ?_
  exact jb_mask [true, true, true, true] rfl (zg_53_H2L hd x1 x2 M N h hK)
theorem ze_53 {Γ : jb_G} {L : Nat} {d : Nat} (hd : 1 ≤ d) (x1 : Int32) (x2 : Int32) (M : jb_Mi) (N : jb_Ml) {r : (Bool)} (h : zf_53 x1 x2 M = some r) : jb_V Γ d zq_53 0 (jb_en 4 [(.ref 70), (.int x1), (.int x2)]) [] (zE L, M, N) (some (.int (jb_b2i r))) (zE L, M, N) := zg_53 hd x1 x2 M N h ⟨rfl, rfl⟩
-- X2_leastPushed
noncomputable def zf_54_J69 (x1 : Int32) (x2 : Int32) (s1 : Int32) (s2 : Int32) (M : jb_Mi) : Option ((Int32 × jb_Mi) ⊕ (Int32 × jb_Mi)) :=
  jb_gd s1 6 (some (.inl ((x2 + 1), (jb_up M 72 s1.toNatClampNeg s2))))
noncomputable def zf_54_J42 (x1 : Int32) (x2 : Int32) (s1 : Int32) (s2 : Int32) (M : jb_Mi) : Option ((Int32 × jb_Mi) ⊕ (Int32 × jb_Mi)) :=
  jb_gd s1 6 ((zf_37 4 x2 (jb_up M 71 s1.toNatClampNeg s2)).bind fun q4 => if (jb_b2i q4) = 0 then zf_54_J69 x1 x2 x2 0 (jb_up M 71 s1.toNatClampNeg s2) else (zf_50 x2 0 (jb_up M 71 s1.toNatClampNeg s2)).bind fun q6 => zf_54_J69 x1 x2 x2 q6 (jb_up M 71 s1.toNatClampNeg s2))
noncomputable def zf_54_J128 (x1 : Int32) (x2 : Int32) (x3 : Int32) (M : jb_Mi) : Option ((Int32 × Int32) ⊕ (Int32 × jb_Mi)) :=
  some (.inl (x2, (x3 + 1)))
noncomputable def zf_54_J102 (x1 : Int32) (x2 : Int32) (x3 : Int32) (s0 : Int32) (M : jb_Mi) : Option ((Int32 × Int32) ⊕ (Int32 × jb_Mi)) :=
  if (x3 &&& (x1 ^^^ (-1))) = 0 then if s0 = 0 then zf_54_J128 x1 x2 x3 M else (zf_53 x3 x1 M).bind fun q8 => if (jb_b2i q8) = 0 then zf_54_J128 x1 x2 x3 M else zf_54_J128 x1 x3 x3 M else zf_54_J128 x1 x2 x3 M
noncomputable def zf_54_H80 (x1 : Int32) (M : jb_Mi) (s : Int32 × Int32) : Option ((Int32 × Int32) ⊕ (Int32 × jb_Mi)) :=
  if s.2 < 64 then if (zf_26 s.2) < (zf_26 s.1) then zf_54_J102 x1 s.1 s.2 1 M else zf_54_J102 x1 s.1 s.2 0 M else some (.inr (s.1, M))
noncomputable def zf_54_H10 (x1 : Int32) (s : Int32 × jb_Mi) : Option ((Int32 × jb_Mi) ⊕ (Int32 × jb_Mi)) :=
  if s.1 < 6 then (zf_37 4 s.1 s.2).bind fun q2 => if (jb_b2i q2) = 0 then zf_54_J42 x1 s.1 s.1 0 s.2 else (zf_50 s.1 1 s.2).bind fun q7 => zf_54_J42 x1 s.1 s.1 q7 s.2 else ((jb_lp (zf_54_H80 x1 s.2) (x1, 0)).map .inr)
noncomputable def zf_54 (M : jb_Mi) : Option (Int32 × jb_Mi) :=
  (zf_51 4 M).bind fun q1 => jb_lp (zf_54_H10 q1) (0, M)
set_option maxRecDepth 4000 in
theorem zg_54_J69 {Γ : jb_G} {L : Nat} {d : Nat} (hd : 3 ≤ d) (x1 : Int32) (x2 : Int32) (s1 : Int32) (s2 : Int32) (M : jb_Mi) (N : jb_Ml) {v : Option Value} {σ2 : jb_S} {r : ((Int32 × jb_Mi) ⊕ (Int32 × jb_Mi))} (h : zf_54_J69 x1 x2 s1 s2 M = some r) (hK : (jb_K (fun s : Int32 × jb_Mi => jb_V Γ d zq_54 10 [some (.ref 70), some (.int x1), some (.int s.1), none, none] [] (zE L, s.2, N) v σ2) (fun r : Int32 × jb_Mi => v = some (.int r.1) ∧ σ2 = (zE L, r.2, N))) r) : jb_V Γ d zq_54 69 [some (.ref 70), some (.int x1), some (.int x2), none, none] [(.int s2), (.int s1), (.ref 72)] (zE L, M, N) v σ2 := by
  obtain ⟨d, rfl⟩ : ∃ e, d = e + 1 := ⟨d - 1, by omega⟩
  unfold zf_54_J69 at h
  obtain ⟨g5, h⟩ := jb_gd_of h
  refine jb_seg 3 (pc' := 10) (ls' := [some (.ref 70), some (.int x1), some (.int (x2 + 1)), none, none]) (st' := []) (σ' := (zE L, (jb_up M 72 s1.toNatClampNeg s2), N)) (G := [vp_in s1 6]) rfl g5 ?_
  cases h
  exact jb_mask [true, true, true, false, false] rfl hK
set_option maxRecDepth 4000 in
theorem zg_54_J42 {Γ : jb_G} {L : Nat} {d : Nat} (hd : 3 ≤ d) (x1 : Int32) (x2 : Int32) (s1 : Int32) (s2 : Int32) (M : jb_Mi) (N : jb_Ml) {v : Option Value} {σ2 : jb_S} {r : ((Int32 × jb_Mi) ⊕ (Int32 × jb_Mi))} (h : zf_54_J42 x1 x2 s1 s2 M = some r) (hK : (jb_K (fun s : Int32 × jb_Mi => jb_V Γ d zq_54 10 [some (.ref 70), some (.int x1), some (.int s.1), none, none] [] (zE L, s.2, N) v σ2) (fun r : Int32 × jb_Mi => v = some (.int r.1) ∧ σ2 = (zE L, r.2, N))) r) : jb_V Γ d zq_54 42 [some (.ref 70), some (.int x1), some (.int x2), none, none] [(.int s2), (.int s1), (.ref 71)] (zE L, M, N) v σ2 := by
  obtain ⟨d, rfl⟩ : ∃ e, d = e + 1 := ⟨d - 1, by omega⟩
  unfold zf_54_J42 at h
  obtain ⟨g3, h⟩ := jb_gd_of h
  refine jb_seg 7 (pc' := 53) (ls' := [some (.ref 70), some (.int x1), some (.int x2), none, none]) (st' := [(.int x2), (.ref 4), (.int x2), (.ref 72)]) (σ' := (zE L, (jb_up M 71 s1.toNatClampNeg s2), N)) (G := [vp_in s1 6]) rfl g3 ?_
  obtain ⟨q4, h4, h⟩ := jb_bd_of h
  refine jb_callV (q' := zq_37) (As := [(.int x2)]) (rest := [(.int x2), (.ref 72)]) (σ1 := (zE L, (jb_up M 71 s1.toNatClampNeg s2), N)) (v := some (.int (jb_b2i q4))) rfl rfl zp_37 rfl (by decide) (jb_cat rfl) (Nat.le_of_ble_eq_true rfl) (Nat.le_of_ble_eq_true rfl) (Or.inl rfl) rfl (ze_37 4 x2 (jb_up M 71 s1.toNatClampNeg s2) N (by decide) h4) ?_
  refine jb_seg 1 (pc' := (if (jb_b2i q4) = 0 then 68 else 59)) (ls' := [some (.ref 70), some (.int x1), some (.int x2), none, none]) (st' := [(.int x2), (.ref 72)]) (σ' := (zE L, (jb_up M 71 s1.toNatClampNeg s2), N)) (G := []) rfl trivial ?_
  refine jb_ite (fun c => ?_) (fun c => ?_)
  · rw [if_pos c] at h
    refine jb_seg 1 (pc' := 69) (ls' := [some (.ref 70), some (.int x1), some (.int x2), none, none]) (st' := [(.int 0), (.int x2), (.ref 72)]) (σ' := (zE L, (jb_up M 71 s1.toNatClampNeg s2), N)) (G := []) rfl trivial ?_
    exact jb_mask [true, true, true, false, false] rfl (zg_54_J69 hd x1 x2 x2 0 (jb_up M 71 s1.toNatClampNeg s2) N h hK)
  · rw [if_neg c] at h
    refine jb_seg 3 (pc' := 62) (ls' := [some (.ref 70), some (.int x1), some (.int x2), none, none]) (st' := [(.int 0), (.int x2), (.ref 70), (.int x2), (.ref 72)]) (σ' := (zE L, (jb_up M 71 s1.toNatClampNeg s2), N)) (G := []) rfl trivial ?_
    obtain ⟨q6, h6, h⟩ := jb_bd_of h
    refine jb_callV (q' := zq_50) (As := [(.int x2), (.int 0)]) (rest := [(.int x2), (.ref 72)]) (σ1 := (zE L, (jb_up M 71 s1.toNatClampNeg s2), N)) (v := some (.int q6)) rfl rfl zp_50 rfl (by decide) (jb_cat rfl) (Nat.le_of_ble_eq_true rfl) (Nat.le_of_ble_eq_true rfl) (Or.inl rfl) rfl (ze_50 (by omega) x2 0 (jb_up M 71 s1.toNatClampNeg s2) N h6) ?_
    refine jb_seg 1 (pc' := 69) (ls' := [some (.ref 70), some (.int x1), some (.int x2), none, none]) (st' := [(.int q6), (.int x2), (.ref 72)]) (σ' := (zE L, (jb_up M 71 s1.toNatClampNeg s2), N)) (G := []) rfl trivial ?_
    exact jb_mask [true, true, true, false, false] rfl (zg_54_J69 hd x1 x2 x2 q6 (jb_up M 71 s1.toNatClampNeg s2) N h hK)
set_option maxRecDepth 4000 in
theorem zg_54_J128 {Γ : jb_G} {L : Nat} {d : Nat} (hd : 3 ≤ d) (x1 : Int32) (x2 : Int32) (x3 : Int32) (M : jb_Mi) (N : jb_Ml) {v : Option Value} {σ2 : jb_S} {r : ((Int32 × Int32) ⊕ (Int32 × jb_Mi))} (h : zf_54_J128 x1 x2 x3 M = some r) (hK : (jb_K (fun s : Int32 × Int32 => jb_V Γ d zq_54 80 [some (.ref 70), some (.int x1), some (.int s.1), some (.int s.2), none] [] (zE L, M, N) v σ2) (fun r : Int32 × jb_Mi => v = some (.int r.1) ∧ σ2 = (zE L, r.2, N))) r) : jb_V Γ d zq_54 128 [some (.ref 70), some (.int x1), some (.int x2), some (.int x3), none] [] (zE L, M, N) v σ2 := by
  obtain ⟨d, rfl⟩ : ∃ e, d = e + 1 := ⟨d - 1, by omega⟩
  unfold zf_54_J128 at h
  refine jb_seg 2 (pc' := 80) (ls' := [some (.ref 70), some (.int x1), some (.int x2), some (.int (x3 + 1)), none]) (st' := []) (σ' := (zE L, M, N)) (G := []) rfl trivial ?_
  cases h
  exact jb_mask [true, true, true, true, false] rfl hK
set_option maxRecDepth 4000 in
theorem zg_54_J102 {Γ : jb_G} {L : Nat} {d : Nat} (hd : 3 ≤ d) (x1 : Int32) (x2 : Int32) (x3 : Int32) (s0 : Int32) (M : jb_Mi) (N : jb_Ml) {v : Option Value} {σ2 : jb_S} {r : ((Int32 × Int32) ⊕ (Int32 × jb_Mi))} (h : zf_54_J102 x1 x2 x3 s0 M = some r) (hK : (jb_K (fun s : Int32 × Int32 => jb_V Γ d zq_54 80 [some (.ref 70), some (.int x1), some (.int s.1), some (.int s.2), none] [] (zE L, M, N) v σ2) (fun r : Int32 × jb_Mi => v = some (.int r.1) ∧ σ2 = (zE L, r.2, N))) r) : jb_V Γ d zq_54 102 [some (.ref 70), some (.int x1), some (.int x2), some (.int x3), none] [(.int s0)] (zE L, M, N) v σ2 := by
  obtain ⟨d, rfl⟩ : ∃ e, d = e + 1 := ⟨d - 1, by omega⟩
  unfold zf_54_J102 at h
  refine jb_seg 7 (pc' := (if (x3 &&& (x1 ^^^ (-1))) = 0 then 112 else 128)) (ls' := [some (.ref 70), some (.int x1), some (.int x2), some (.int x3), some (.int s0)]) (st' := []) (σ' := (zE L, M, N)) (G := []) rfl trivial ?_
  refine jb_ite (fun c => ?_) (fun c => ?_)
  · rw [if_pos c] at h
    refine jb_seg 2 (pc' := (if s0 = 0 then 128 else 117)) (ls' := [some (.ref 70), some (.int x1), some (.int x2), some (.int x3), some (.int s0)]) (st' := []) (σ' := (zE L, M, N)) (G := []) rfl trivial ?_
    refine jb_ite (fun c => ?_) (fun c => ?_)
    · rw [if_pos c] at h
      exact jb_mask [true, true, true, true, false] rfl (zg_54_J128 hd x1 x2 x3 M N h hK)
    · rw [if_neg c] at h
      refine jb_seg 3 (pc' := 120) (ls' := [some (.ref 70), some (.int x1), some (.int x2), some (.int x3), some (.int s0)]) (st' := [(.int x1), (.int x3), (.ref 70)]) (σ' := (zE L, M, N)) (G := []) rfl trivial ?_
      obtain ⟨q8, h8, h⟩ := jb_bd_of h
      refine jb_callV (q' := zq_53) (As := [(.int x3), (.int x1)]) (rest := []) (σ1 := (zE L, M, N)) (v := some (.int (jb_b2i q8))) rfl rfl zp_53 rfl (by decide) (jb_cat rfl) (Nat.le_of_ble_eq_true rfl) (Nat.le_of_ble_eq_true rfl) (Or.inl rfl) rfl (ze_53 (by omega) x3 x1 M N h8) ?_
      refine jb_seg 1 (pc' := (if (jb_b2i q8) = 0 then 128 else 126)) (ls' := [some (.ref 70), some (.int x1), some (.int x2), some (.int x3), some (.int s0)]) (st' := []) (σ' := (zE L, M, N)) (G := []) rfl trivial ?_
      refine jb_ite (fun c => ?_) (fun c => ?_)
      · rw [if_pos c] at h
        exact jb_mask [true, true, true, true, false] rfl (zg_54_J128 hd x1 x2 x3 M N h hK)
      · rw [if_neg c] at h
        refine jb_seg 2 (pc' := 128) (ls' := [some (.ref 70), some (.int x1), some (.int x3), some (.int x3), some (.int s0)]) (st' := []) (σ' := (zE L, M, N)) (G := []) rfl trivial ?_
        exact jb_mask [true, true, true, true, false] rfl (zg_54_J128 hd x1 x3 x3 M N h hK)
  · rw [if_neg c] at h
    exact jb_mask [true, true, true, true, false] rfl (zg_54_J128 hd x1 x2 x3 M N h hK)
set_option maxRecDepth 4000 in
theorem zg_54_H80 {Γ : jb_G} {L : Nat} {d : Nat} (hd : 3 ≤ d) (x1 : Int32) (M : jb_Mi) (N : jb_Ml) (s : Int32 × Int32) {v : Option Value} {σ2 : jb_S} {r : ((Int32 × Int32) ⊕ (Int32 × jb_Mi))} (h : zf_54_H80 x1 M s = some r) (hK : (jb_K (fun s : Int32 × Int32 => jb_V Γ d zq_54 80 [some (.ref 70), some (.int x1), some (.int s.1), some (.int s.2), none] [] (zE L, M, N) v σ2) (fun r : Int32 × jb_Mi => v = some (.int r.1) ∧ σ2 = (zE L, r.2, N))) r) : jb_V Γ d zq_54 80 [some (.ref 70), some (.int x1), some (.int s.1), some (.int s.2), none] [] (zE L, M, N) v σ2 := by
  obtain ⟨d, rfl⟩ : ∃ e, d = e + 1 := ⟨d - 1, by omega⟩
  unfold zf_54_H80 at h
  refine jb_seg 3 (pc' := (if s.2 < 64 then 86 else 134)) (ls' := [some (.ref 70), some (.int x1), some (.int s.1), some (.int s.2), none]) (st' := []) (σ' := (zE L, M, N)) (G := []) rfl trivial ?_
  refine jb_ite (fun c => ?_) (fun c => ?_)
  · rw [if_pos c] at h
    refine jb_seg 1 (pc' := 87) (ls' := [some (.ref 70), some (.int x1), some (.int s.1), some (.int s.2), none]) (st' := [(.int s.2)]) (σ' := (zE L, M, N)) (G := []) rfl trivial ?_
    refine jb_callS (q' := zq_26) (As := [(.int s.2)]) (rest := []) (σ1 := (zE L, M, N)) (v := some (.int (zf_26 s.2))) rfl (by decide) rfl zp_26 (jb_cat rfl) (Nat.le_of_ble_eq_true rfl) (Nat.le_of_ble_eq_true rfl) (Or.inl rfl) rfl (ze_26 s.2 M N rfl) ?_
    refine jb_seg 1 (pc' := 91) (ls' := [some (.ref 70), some (.int x1), some (.int s.1), some (.int s.2), none]) (st' := [(.int s.1), (.int (zf_26 s.2))]) (σ' := (zE L, M, N)) (G := []) rfl trivial ?_
    refine jb_callS (q' := zq_26) (As := [(.int s.1)]) (rest := [(.int (zf_26 s.2))]) (σ1 := (zE L, M, N)) (v := some (.int (zf_26 s.1))) rfl (by decide) rfl zp_26 (jb_cat rfl) (Nat.le_of_ble_eq_true rfl) (Nat.le_of_ble_eq_true rfl) (Or.inl rfl) rfl (ze_26 s.1 M N rfl) ?_
    refine jb_seg 1 (pc' := (if (zf_26 s.2) < (zf_26 s.1) then 97 else 101)) (ls' := [some (.ref 70), some (.int x1), some (.int s.1), some (.int s.2), none]) (st' := []) (σ' := (zE L, M, N)) (G := []) rfl trivial ?_
    refine jb_ite (fun c => ?_) (fun c => ?_)
    · rw [if_pos c] at h
      refine jb_seg 2 (pc' := 102) (ls' := [some (.ref 70), some (.int x1), some (.int s.1), some (.int s.2), none]) (st' := [(.int 1)]) (σ' := (zE L, M, N)) (G := []) rfl trivial ?_
      exact jb_mask [true, true, true, true, false] rfl (zg_54_J102 hd x1 s.1 s.2 1 M N h hK)
    · rw [if_neg c] at h
      refine jb_seg 1 (pc' := 102) (ls' := [some (.ref 70), some (.int x1), some (.int s.1), some (.int s.2), none]) (st' := [(.int 0)]) (σ' := (zE L, M, N)) (G := []) rfl trivial ?_
      exact jb_mask [true, true, true, true, false] rfl (zg_54_J102 hd x1 s.1 s.2 0 M N h hK)
  · rw [if_neg c] at h
    refine jb_seg 1 (pc' := 135) (ls' := [some (.ref 70), some (.int x1), some (.int s.1), some (.int s.2), none]) (st' := [(.int s.1)]) (σ' := (zE L, M, N)) (G := []) rfl trivial ?_
    cases h
    obtain ⟨rfl, rfl⟩ := hK
    exact jb_reti rfl rfl
theorem zg_54_H80L {Γ : jb_G} {L : Nat} {d : Nat} (hd : 3 ≤ d) (x1 : Int32) (M : jb_Mi) (N : jb_Ml) {v : Option Value} {σ2 : jb_S} {s : Int32 × Int32} {r : (Int32 × jb_Mi)} (h : jb_lp (zf_54_H80 x1 M) s = some r) (hK : (fun r : Int32 × jb_Mi => v = some (.int r.1) ∧ σ2 = (zE L, r.2, N)) r) : jb_V Γ d zq_54 80 [some (.ref 70), some (.int x1), some (.int s.1), some (.int s.2), none] [] (zE L, M, N) v σ2 := by
  exact jb_lp_ind (P := fun s => jb_V Γ d zq_54 80 [some (.ref 70), some (.int x1), some (.int s.1), some (.int s.2), none] [] (zE L, M, N) v σ2) (K := (fun r : Int32 × jb_Mi => v = some (.int r.1) ∧ σ2 = (zE L, r.2, N))) (fun s r h hk => zg_54_H80 hd x1 M N s h (by cases r <;> exact hk)) h hK
set_option maxRecDepth 4000 in
theorem zg_54_H10 {Γ : jb_G} {L : Nat} {d : Nat} (hd : 3 ≤ d) (x1 : Int32) (N : jb_Ml) (s : Int32 × jb_Mi) {v : Option Value} {σ2 : jb_S} {r : ((Int32 × jb_Mi) ⊕ (Int32 × jb_Mi))} (h : zf_54_H10 x1 s = some r) (hK : (jb_K (fun s : Int32 × jb_Mi => jb_V Γ d zq_54 10 [some (.ref 70), some (.int x1), some (.int s.1), none, none] [] (zE L, s.2, N) v σ2) (fun r : Int32 × jb_Mi => v = some (.int r.1) ∧ σ2 = (zE L, r.2, N))) r) : jb_V Γ d zq_54 10 [some (.ref 70), some (.int x1), some (.int s.1), none, none] [] (zE L, s.2, N) v σ2 := by
  obtain ⟨d, rfl⟩ : ∃ e, d = e + 1 := ⟨d - 1, by omega⟩
  unfold zf_54_H10 at h
  refine jb_seg 3 (pc' := (if s.1 < 6 then 16 else 76)) (ls' := [some (.ref 70), some (.int x1), some (.int s.1), none, none]) (st' := []) (σ' := (zE L, s.2, N)) (G := []) rfl trivial ?_
  refine jb_ite (fun c => ?_) (fun c => ?_)
  · rw [if_pos c] at h
    refine jb_seg 6 (pc' := 26) (ls' := [some (.ref 70), some (.int x1), some (.int s.1), none, none]) (st' := [(.int s.1), (.ref 4), (.int s.1), (.ref 71)]) (σ' := (zE L, s.2, N)) (G := []) rfl trivial ?_
    obtain ⟨q2, h2, h⟩ := jb_bd_of h
    refine jb_callV (q' := zq_37) (As := [(.int s.1)]) (rest := [(.int s.1), (.ref 71)]) (σ1 := (zE L, s.2, N)) (v := some (.int (jb_b2i q2))) rfl rfl zp_37 rfl (by decide) (jb_cat rfl) (Nat.le_of_ble_eq_true rfl) (Nat.le_of_ble_eq_true rfl) (Or.inl rfl) rfl (ze_37 4 s.1 s.2 N (by decide) h2) ?_
    refine jb_seg 1 (pc' := (if (jb_b2i q2) = 0 then 41 else 32)) (ls' := [some (.ref 70), some (.int x1), some (.int s.1), none, none]) (st' := [(.int s.1), (.ref 71)]) (σ' := (zE L, s.2, N)) (G := []) rfl trivial ?_
    refine jb_ite (fun c => ?_) (fun c => ?_)
    · rw [if_pos c] at h
      refine jb_seg 1 (pc' := 42) (ls' := [some (.ref 70), some (.int x1), some (.int s.1), none, none]) (st' := [(.int 0), (.int s.1), (.ref 71)]) (σ' := (zE L, s.2, N)) (G := []) rfl trivial ?_
      exact jb_mask [true, true, true, false, false] rfl (zg_54_J42 hd x1 s.1 s.1 0 s.2 N h hK)
    · rw [if_neg c] at h
      refine jb_seg 3 (pc' := 35) (ls' := [some (.ref 70), some (.int x1), some (.int s.1), none, none]) (st' := [(.int 1), (.int s.1), (.ref 70), (.int s.1), (.ref 71)]) (σ' := (zE L, s.2, N)) (G := []) rfl trivial ?_
      obtain ⟨q7, h7, h⟩ := jb_bd_of h
      refine jb_callV (q' := zq_50) (As := [(.int s.1), (.int 1)]) (rest := [(.int s.1), (.ref 71)]) (σ1 := (zE L, s.2, N)) (v := some (.int q7)) rfl rfl zp_50 rfl (by decide) (jb_cat rfl) (Nat.le_of_ble_eq_true rfl) (Nat.le_of_ble_eq_true rfl) (Or.inl rfl) rfl (ze_50 (by omega) s.1 1 s.2 N h7) ?_
      refine jb_seg 1 (pc' := 42) (ls' := [some (.ref 70), some (.int x1), some (.int s.1), none, none]) (st' := [(.int q7), (.int s.1), (.ref 71)]) (σ' := (zE L, s.2, N)) (G := []) rfl trivial ?_
      exact jb_mask [true, true, true, false, false] rfl (zg_54_J42 hd x1 s.1 s.1 q7 s.2 N h hK)
  · rw [if_neg c] at h
    refine jb_seg 4 (pc' := 80) (ls' := [some (.ref 70), some (.int x1), some (.int x1), some (.int 0), none]) (st' := []) (σ' := (zE L, s.2, N)) (G := []) rfl trivial ?_
    obtain ⟨y0, hy0, rfl⟩ := jb_mp_of h
    exact jb_mask [true, true, true, true, false] rfl (zg_54_H80L hd x1 s.2 N hy0 hK)
theorem zg_54_H10L {Γ : jb_G} {L : Nat} {d : Nat} (hd : 3 ≤ d) (x1 : Int32) (N : jb_Ml) {v : Option Value} {σ2 : jb_S} {s : Int32 × jb_Mi} {r : (Int32 × jb_Mi)} (h : jb_lp (zf_54_H10 x1) s = some r) (hK : (fun r : Int32 × jb_Mi => v = some (.int r.1) ∧ σ2 = (zE L, r.2, N)) r) : jb_V Γ d zq_54 10 [some (.ref 70), some (.int x1), some (.int s.1), none, none] [] (zE L, s.2, N) v σ2 := by
  exact jb_lp_ind (P := fun s => jb_V Γ d zq_54 10 [some (.ref 70), some (.int x1), some (.int s.1), none, none] [] (zE L, s.2, N) v σ2) (K := (fun r : Int32 × jb_Mi => v = some (.int r.1) ∧ σ2 = (zE L, r.2, N))) (fun s r h hk => zg_54_H10 hd x1 N s h (by cases r <;> exact hk)) h hK
set_option maxRecDepth 4000 in
theorem zg_54 {Γ : jb_G} {L : Nat} {d : Nat} (hd : 3 ≤ d) (M : jb_Mi) (N : jb_Ml) {v : Option Value} {σ2 : jb_S} {r : (Int32 × jb_Mi)} (h : zf_54 M = some r) (hK : (fun r : Int32 × jb_Mi => v = some (.int r.1) ∧ σ2 = (zE L, r.2, N)) r) : jb_V Γ d zq_54 0 [some (.ref 70), none, none, none, none] [] (zE L, M, N) v σ2 := by
  obtain ⟨d, rfl⟩ : ∃ e, d = e + 1 := ⟨d - 1, by omega⟩
  unfold zf_54 at h
  refine jb_seg 2 (pc' := 4) (ls' := [some (.ref 70), none, none, none, none]) (st' := [(.ref 4)]) (σ' := (zE L, M, N)) (G := []) rfl trivial ?_
  obtain ⟨q1, h1, h⟩ := jb_bd_of h
  refine jb_callV (q' := zq_51) (As := []) (rest := []) (σ1 := (zE L, M, N)) (v := some (.int q1)) rfl rfl zp_51 rfl (by decide) (jb_cat rfl) (Nat.le_of_ble_eq_true rfl) (Nat.le_of_ble_eq_true rfl) (Or.inl rfl) rfl (ze_51 (by omega) 4 M N (by decide) h1) ?_
  refine jb_seg 3 (pc' := 10) (ls' := [some (.ref 70), some (.int q1), some (.int 0), none, none]) (st' := []) (σ' := (zE L, M, N)) (G := []) rfl trivial ?_
  exact jb_mask [true, true, true, false, false] rfl (zg_54_H10L hd q1 N h hK)
theorem ze_54 {Γ : jb_G} {L : Nat} {d : Nat} (hd : 3 ≤ d) (M : jb_Mi) (N : jb_Ml) {r : (Int32 × jb_Mi)} (h : zf_54 M = some r) : jb_V Γ d zq_54 0 (jb_en 5 [(.ref 70)]) [] (zE L, M, N) (some (.int r.1)) (zE L, r.2, N) := zg_54 hd M N h ⟨rfl, rfl⟩
-- X3_lay
noncomputable def zf_56_J91 (f : Int32 → Int32 → Int32 → Int32 → jb_Mi → Option jb_Mi) (x1 : Int32) (x2 : Int32) (x3 : Int32) (x4 : Int32) (x5 : Int32) (M : jb_Mi) : Option ((Int32 × jb_Mi) ⊕ (jb_Mi)) :=
  some (.inl ((x5 + 1), M))
noncomputable def zf_56_J84 (f : Int32 → Int32 → Int32 → Int32 → jb_Mi → Option jb_Mi) (x1 : Int32) (x2 : Int32) (x3 : Int32) (x4 : Int32) (x5 : Int32) (s1 : Int32) (s2 : Int32) (s3 : Int32) (M : jb_Mi) : Option ((Int32 × jb_Mi) ⊕ (jb_Mi)) :=
  (f s1 s2 s3 (x4 + 1) M).bind fun q2 => zf_56_J91 f x1 x2 x3 x4 x5 q2
noncomputable def zf_56_H46 (f : Int32 → Int32 → Int32 → Int32 → jb_Mi → Option jb_Mi) (x1 : Int32) (x2 : Int32) (x3 : Int32) (x4 : Int32) (s : Int32 × jb_Mi) : Option ((Int32 × jb_Mi) ⊕ (jb_Mi)) :=
  if 3 < s.1 then some (.inr s.2) else if x1 < (x2 + s.1) then zf_56_J91 f x1 x2 x3 x4 s.1 s.2 else if (x2 + s.1) < x1 then zf_56_J84 f x1 x2 x3 x4 s.1 x1 (x2 + s.1) (x3 ||| ((1 : Int32) <<< ((x2 + s.1) &&& 31))) s.2 else zf_56_J84 f x1 x2 x3 x4 s.1 x1 (x2 + s.1) x3 s.2
noncomputable def zf_56 (f : Int32 → Int32 → Int32 → Int32 → jb_Mi → Option jb_Mi) (x1 : Int32) (x2 : Int32) (x3 : Int32) (x4 : Int32) (M : jb_Mi) : Option (jb_Mi) :=
  if x2 = x1 then if (M 73 1) < 40 then jb_gd (M 73 1) 40 (some (jb_up (jb_up M 74 ((M 73 1)).toNatClampNeg x3) 73 1 (((jb_up M 74 ((M 73 1)).toNatClampNeg x3) 73 1) + 1))) else some M else if 8 < x4 then some M else jb_lp (zf_56_H46 f x1 x2 x3 x4) (2, M)
set_option maxRecDepth 4000 in
theorem zg_56_J91 {Γ : jb_G} {L : Nat} {d : Nat} (f : Int32 → Int32 → Int32 → Int32 → jb_Mi → Option jb_Mi) (hf : ∀ (x1 x2 x3 x4 : Int32) (M : jb_Mi) (N : jb_Ml) {r : jb_Mi}, f x1 x2 x3 x4 M = some r → jb_V Γ d zq_56 0 (jb_en 7 [.ref 73, .int x1, .int x2, .int x3, .int x4]) [] (zE L, M, N) none (zE L, r, N)) (x1 : Int32) (x2 : Int32) (x3 : Int32) (x4 : Int32) (x5 : Int32) (M : jb_Mi) (N : jb_Ml) {v : Option Value} {σ2 : jb_S} {r : ((Int32 × jb_Mi) ⊕ (jb_Mi))} (h : zf_56_J91 f x1 x2 x3 x4 x5 M = some r) (hK : (jb_K (fun s : Int32 × jb_Mi => jb_V Γ (d + 1) zq_56 46 [some (.ref 73), some (.int x1), some (.int x2), some (.int x3), some (.int x4), some (.int s.1), none] [] (zE L, s.2, N) v σ2) (fun r : jb_Mi => v = none ∧ σ2 = (zE L, r, N))) r) : jb_V Γ (d + 1) zq_56 91 [some (.ref 73), some (.int x1), some (.int x2), some (.int x3), some (.int x4), some (.int x5), none] [] (zE L, M, N) v σ2 := by
  unfold zf_56_J91 at h
  refine jb_seg 2 (pc' := 46) (ls' := [some (.ref 73), some (.int x1), some (.int x2), some (.int x3), some (.int x4), some (.int (x5 + 1)), none]) (st' := []) (σ' := (zE L, M, N)) (G := []) rfl trivial ?_
  cases h
  exact jb_mask [true, true, true, true, true, true, false] rfl hK
set_option maxRecDepth 4000 in
theorem zg_56_J84 {Γ : jb_G} {L : Nat} {d : Nat} (f : Int32 → Int32 → Int32 → Int32 → jb_Mi → Option jb_Mi) (hf : ∀ (x1 x2 x3 x4 : Int32) (M : jb_Mi) (N : jb_Ml) {r : jb_Mi}, f x1 x2 x3 x4 M = some r → jb_V Γ d zq_56 0 (jb_en 7 [.ref 73, .int x1, .int x2, .int x3, .int x4]) [] (zE L, M, N) none (zE L, r, N)) (x1 : Int32) (x2 : Int32) (x3 : Int32) (x4 : Int32) (x5 : Int32) (s1 : Int32) (s2 : Int32) (s3 : Int32) (M : jb_Mi) (N : jb_Ml) {v : Option Value} {σ2 : jb_S} {r : ((Int32 × jb_Mi) ⊕ (jb_Mi))} (h : zf_56_J84 f x1 x2 x3 x4 x5 s1 s2 s3 M = some r) (hK : (jb_K (fun s : Int32 × jb_Mi => jb_V Γ (d + 1) zq_56 46 [some (.ref 73), some (.int x1), some (.int x2), some (.int x3), some (.int x4), some (.int s.1), none] [] (zE L, s.2, N) v σ2) (fun r : jb_Mi => v = none ∧ σ2 = (zE L, r, N))) r) : jb_V Γ (d + 1) zq_56 84 [some (.ref 73), some (.int x1), some (.int x2), some (.int x3), some (.int x4), some (.int x5), none] [(.int s3), (.int s2), (.int s1), (.ref 73)] (zE L, M, N) v σ2 := by
  unfold zf_56_J84 at h
  refine jb_seg 3 (pc' := 88) (ls' := [some (.ref 73), some (.int x1), some (.int x2), some (.int x3), some (.int x4), some (.int x5), none]) (st' := [(.int (x4 + 1)), (.int s3), (.int s2), (.int s1), (.ref 73)]) (σ' := (zE L, M, N)) (G := []) rfl trivial ?_
  obtain ⟨q2, h2, h⟩ := jb_bd_of h
  refine jb_callV (q' := zq_56) (As := [(.int s1), (.int s2), (.int s3), (.int (x4 + 1))]) (rest := []) (σ1 := (zE L, q2, N)) (v := none) rfl rfl zp_56 rfl (by decide) (jb_cat rfl) (Nat.le_of_ble_eq_true rfl) (Nat.le_of_ble_eq_true rfl) (Or.inl rfl) rfl (hf s1 s2 s3 (x4 + 1) M N h2) ?_
  exact jb_mask [true, true, true, true, true, true, false] rfl (zg_56_J91 f hf x1 x2 x3 x4 x5 q2 N h hK)
set_option maxRecDepth 4000 in
theorem zg_56_H46 {Γ : jb_G} {L : Nat} {d : Nat} (f : Int32 → Int32 → Int32 → Int32 → jb_Mi → Option jb_Mi) (hf : ∀ (x1 x2 x3 x4 : Int32) (M : jb_Mi) (N : jb_Ml) {r : jb_Mi}, f x1 x2 x3 x4 M = some r → jb_V Γ d zq_56 0 (jb_en 7 [.ref 73, .int x1, .int x2, .int x3, .int x4]) [] (zE L, M, N) none (zE L, r, N)) (x1 : Int32) (x2 : Int32) (x3 : Int32) (x4 : Int32) (N : jb_Ml) (s : Int32 × jb_Mi) {v : Option Value} {σ2 : jb_S} {r : ((Int32 × jb_Mi) ⊕ (jb_Mi))} (h : zf_56_H46 f x1 x2 x3 x4 s = some r) (hK : (jb_K (fun s : Int32 × jb_Mi => jb_V Γ (d + 1) zq_56 46 [some (.ref 73), some (.int x1), some (.int x2), some (.int x3), some (.int x4), some (.int s.1), none] [] (zE L, s.2, N) v σ2) (fun r : jb_Mi => v = none ∧ σ2 = (zE L, r, N))) r) : jb_V Γ (d + 1) zq_56 46 [some (.ref 73), some (.int x1), some (.int x2), some (.int x3), some (.int x4), some (.int s.1), none] [] (zE L, s.2, N) v σ2 := by
  unfold zf_56_H46 at h
  refine jb_seg 3 (pc' := (if 3 < s.1 then 97 else 52)) (ls' := [some (.ref 73), some (.int x1), some (.int x2), some (.int x3), some (.int x4), some (.int s.1), none]) (st' := []) (σ' := (zE L, s.2, N)) (G := []) rfl trivial ?_
  refine jb_ite (fun c => ?_) (fun c => ?_)
  · rw [if_pos c] at h
    cases h
    obtain ⟨rfl, rfl⟩ := hK
    exact jb_retv rfl rfl
  · rw [if_neg c] at h
    refine jb_seg 7 (pc' := (if x1 < (x2 + s.1) then 91 else 64)) (ls' := [some (.ref 73), some (.int x1), some (.int x2), some (.int x3), some (.int x4), some (.int s.1), some (.int (x2 + s.1))]) (st' := []) (σ' := (zE L, s.2, N)) (G := []) rfl trivial ?_
    refine jb_ite (fun c => ?_) (fun c => ?_)
    · rw [if_pos c] at h
      exact jb_mask [true, true, true, true, true, true, false] rfl (zg_56_J91 f hf x1 x2 x3 x4 s.1 s.2 N h hK)
    · rw [if_neg c] at h
      refine jb_seg 6 (pc' := (if (x2 + s.1) < x1 then 74 else 83)) (ls' := [some (.ref 73), some (.int x1), some (.int x2), some (.int x3), some (.int x4), some (.int s.1), some (.int (x2 + s.1))]) (st' := [(.int (x2 + s.1)), (.int x1), (.ref 73)]) (σ' := (zE L, s.2, N)) (G := []) rfl trivial ?_
      refine jb_ite (fun c => ?_) (fun c => ?_)
      · rw [if_pos c] at h
        refine jb_seg 6 (pc' := 84) (ls' := [some (.ref 73), some (.int x1), some (.int x2), some (.int x3), some (.int x4), some (.int s.1), some (.int (x2 + s.1))]) (st' := [(.int (x3 ||| ((1 : Int32) <<< ((x2 + s.1) &&& 31)))), (.int (x2 + s.1)), (.int x1), (.ref 73)]) (σ' := (zE L, s.2, N)) (G := []) rfl trivial ?_
        exact jb_mask [true, true, true, true, true, true, false] rfl (zg_56_J84 f hf x1 x2 x3 x4 s.1 x1 (x2 + s.1) (x3 ||| ((1 : Int32) <<< ((x2 + s.1) &&& 31))) s.2 N h hK)
      · rw [if_neg c] at h
        refine jb_seg 1 (pc' := 84) (ls' := [some (.ref 73), some (.int x1), some (.int x2), some (.int x3), some (.int x4), some (.int s.1), some (.int (x2 + s.1))]) (st' := [(.int x3), (.int (x2 + s.1)), (.int x1), (.ref 73)]) (σ' := (zE L, s.2, N)) (G := []) rfl trivial ?_
        exact jb_mask [true, true, true, true, true, true, false] rfl (zg_56_J84 f hf x1 x2 x3 x4 s.1 x1 (x2 + s.1) x3 s.2 N h hK)
theorem zg_56_H46L {Γ : jb_G} {L : Nat} {d : Nat} (f : Int32 → Int32 → Int32 → Int32 → jb_Mi → Option jb_Mi) (hf : ∀ (x1 x2 x3 x4 : Int32) (M : jb_Mi) (N : jb_Ml) {r : jb_Mi}, f x1 x2 x3 x4 M = some r → jb_V Γ d zq_56 0 (jb_en 7 [.ref 73, .int x1, .int x2, .int x3, .int x4]) [] (zE L, M, N) none (zE L, r, N)) (x1 : Int32) (x2 : Int32) (x3 : Int32) (x4 : Int32) (N : jb_Ml) {v : Option Value} {σ2 : jb_S} {s : Int32 × jb_Mi} {r : (jb_Mi)} (h : jb_lp (zf_56_H46 f x1 x2 x3 x4) s = some r) (hK : (fun r : jb_Mi => v = none ∧ σ2 = (zE L, r, N)) r) : jb_V Γ (d + 1) zq_56 46 [some (.ref 73), some (.int x1), some (.int x2), some (.int x3), some (.int x4), some (.int s.1), none] [] (zE L, s.2, N) v σ2 := by
  exact jb_lp_ind (P := fun s => jb_V Γ (d + 1) zq_56 46 [some (.ref 73), some (.int x1), some (.int x2), some (.int x3), some (.int x4), some (.int s.1), none] [] (zE L, s.2, N) v σ2) (K := (fun r : jb_Mi => v = none ∧ σ2 = (zE L, r, N))) (fun s r h hk => zg_56_H46 f hf x1 x2 x3 x4 N s h (by cases r <;> exact hk)) h hK
set_option maxRecDepth 4000 in
theorem zg_56 {Γ : jb_G} {L : Nat} {d : Nat} (f : Int32 → Int32 → Int32 → Int32 → jb_Mi → Option jb_Mi) (hf : ∀ (x1 x2 x3 x4 : Int32) (M : jb_Mi) (N : jb_Ml) {r : jb_Mi}, f x1 x2 x3 x4 M = some r → jb_V Γ d zq_56 0 (jb_en 7 [.ref 73, .int x1, .int x2, .int x3, .int x4]) [] (zE L, M, N) none (zE L, r, N)) (x1 : Int32) (x2 : Int32) (x3 : Int32) (x4 : Int32) (M : jb_Mi) (N : jb_Ml) {v : Option Value} {σ2 : jb_S} {r : (jb_Mi)} (h : zf_56 f x1 x2 x3 x4 M = some r) (hK : (fun r : jb_Mi => v = none ∧ σ2 = (zE L, r, N)) r) : jb_V Γ (d + 1) zq_56 0 [some (.ref 73), some (.int x1), some (.int x2), some (.int x3), some (.int x4), none, none] [] (zE L, M, N) v σ2 := by
  unfold zf_56 at h
  refine jb_seg 3 (pc' := (if x2 = x1 then 5 else 35)) (ls' := [some (.ref 73), some (.int x1), some (.int x2), some (.int x3), some (.int x4), none, none]) (st' := []) (σ' := (zE L, M, N)) (G := []) rfl trivial ?_
  refine jb_ite (fun c => ?_) (fun c => ?_)
  · rw [if_pos c] at h
    refine jb_seg 4 (pc' := (if (M 73 1) < 40 then 14 else 34)) (ls' := [some (.ref 73), some (.int x1), some (.int x2), some (.int x3), some (.int x4), none, none]) (st' := []) (σ' := (zE L, M, N)) (G := []) rfl trivial ?_
    refine jb_ite (fun c => ?_) (fun c => ?_)
    · rw [if_pos c] at h
      obtain ⟨g1, h⟩ := jb_gd_of h
      refine jb_seg 12 (pc' := 34) (ls' := [some (.ref 73), some (.int x1), some (.int x2), some (.int x3), some (.int x4), none, none]) (st' := []) (σ' := (zE L, (jb_up (jb_up M 74 ((M 73 1)).toNatClampNeg x3) 73 1 (((jb_up M 74 ((M 73 1)).toNatClampNeg x3) 73 1) + 1)), N)) (G := [vp_in (M 73 1) 40]) rfl g1 ?_
      cases h
      obtain ⟨rfl, rfl⟩ := hK
      exact jb_retv rfl rfl
    · rw [if_neg c] at h
      cases h
      obtain ⟨rfl, rfl⟩ := hK
      exact jb_retv rfl rfl
  · rw [if_neg c] at h
    refine jb_seg 3 (pc' := (if 8 < x4 then 42 else 43)) (ls' := [some (.ref 73), some (.int x1), some (.int x2), some (.int x3), some (.int x4), none, none]) (st' := []) (σ' := (zE L, M, N)) (G := []) rfl trivial ?_
    refine jb_ite (fun c => ?_) (fun c => ?_)
    · rw [if_pos c] at h
      cases h
      obtain ⟨rfl, rfl⟩ := hK
      exact jb_retv rfl rfl
    · rw [if_neg c] at h
      refine jb_seg 2 (pc' := 46) (ls' := [some (.ref 73), some (.int x1), some (.int x2), some (.int x3), some (.int x4), some (.int 2), none]) (st' := []) (σ' := (zE L, M, N)) (G := []) rfl trivial ?_
      exact jb_mask [true, true, true, true, true, true, false] rfl (zg_56_H46L f hf x1 x2 x3 x4 N h hK)
theorem ze_56 {Γ : jb_G} {L : Nat} {d : Nat} (f : Int32 → Int32 → Int32 → Int32 → jb_Mi → Option jb_Mi) (hf : ∀ (x1 x2 x3 x4 : Int32) (M : jb_Mi) (N : jb_Ml) {r : jb_Mi}, f x1 x2 x3 x4 M = some r → jb_V Γ d zq_56 0 (jb_en 7 [.ref 73, .int x1, .int x2, .int x3, .int x4]) [] (zE L, M, N) none (zE L, r, N)) (x1 : Int32) (x2 : Int32) (x3 : Int32) (x4 : Int32) (M : jb_Mi) (N : jb_Ml) {r : (jb_Mi)} (h : zf_56 f x1 x2 x3 x4 M = some r) : jb_V Γ (d + 1) zq_56 0 (jb_en 7 [(.ref 73), (.int x1), (.int x2), (.int x3), (.int x4)]) [] (zE L, M, N) (none) (zE L, r, N) := zg_56 f hf x1 x2 x3 x4 M N h ⟨rfl, rfl⟩
noncomputable def zfr_56 : Nat → Int32 → Int32 → Int32 → Int32 → jb_Mi → Option jb_Mi
  | 0, _, _, _, _, _ => none
  | n + 1, x1, x2, x3, x4, M => zf_56 (zfr_56 n) x1 x2 x3 x4 M
theorem zes_56 {Γ : jb_G} {L : Nat} : ∀ (n d : Nat), n ≤ d → ∀ (x1 x2 x3 x4 : Int32) (M : jb_Mi) (N : jb_Ml) {r : jb_Mi}, zfr_56 n x1 x2 x3 x4 M = some r → jb_V Γ d zq_56 0 (jb_en 7 [.ref 73, .int x1, .int x2, .int x3, .int x4]) [] (zE L, M, N) none (zE L, r, N)
  | 0, d, hd, x1, x2, x3, x4, M, N, r, h => by cases h
  | n + 1, 0, hd, x1, x2, x3, x4, M, N, r, h => by omega
  | n + 1, d + 1, hd, x1, x2, x3, x4, M, N, r, h => ze_56 (zfr_56 n) (fun y1 y2 y3 y4 M N r h => zes_56 n d (by omega) y1 y2 y3 y4 M N h) x1 x2 x3 x4 M N h
theorem zer_56 {Γ : jb_G} {L : Nat} {d : Nat} (hd : 21 ≤ d) (x1 x2 x3 x4 : Int32) (M : jb_Mi) (N : jb_Ml) {r : jb_Mi} (h : zfr_56 20 x1 x2 x3 x4 M = some r) : jb_V Γ d zq_56 0 (jb_en 7 [.ref 73, .int x1, .int x2, .int x3, .int x4]) [] (zE L, M, N) none (zE L, r, N) := zes_56 20 d (by omega) x1 x2 x3 x4 M N h
-- X3_buildLevel
noncomputable def zf_57_J53 (x1 : Int32) (x4 : Int32) (s0 : Int64) (s1 : Int64) (M : jb_Mi) (N : jb_Ml) : Option ((Int64 × Int32) ⊕ ((Int32 × jb_Ml) ⊕ (jb_Ml))) :=
  some (.inl ((s0 + s1), (x4 + 1)))
noncomputable def zf_57_H15 (x1 : Int32) (M : jb_Mi) (N : jb_Ml) (s : Int64 × Int32) : Option ((Int64 × Int32) ⊕ ((Int32 × jb_Ml) ⊕ (jb_Ml))) :=
  if s.2 < (M 73 1) then jb_gd x1 40 (jb_gd s.2 40 (if ((M 74 x1.toNatClampNeg) &&& (M 74 (s.2).toNatClampNeg)) = 0 then jb_gd s.2 40 (zf_57_J53 x1 s.2 s.1 (N 75 (s.2).toNatClampNeg) M N) else zf_57_J53 x1 s.2 s.1 0 M N)) else jb_gd x1 40 (some (.inr (.inl ((x1 + 1), (jb_ul N 76 x1.toNatClampNeg s.1)))))
noncomputable def zf_57_H2 (M : jb_Mi) (s : Int32 × jb_Ml) : Option ((Int32 × jb_Ml) ⊕ (jb_Ml)) :=
  if s.1 < (M 73 1) then jb_lp (zf_57_H15 s.1 M s.2) (0, 0) else jb_gc 0 0 (M 73 1) 40 40 (some (.inr (jb_cl8 s.2 76 75 0 0 ((M 73 1)).toNatClampNeg)))
noncomputable def zf_57 (M : jb_Mi) (N : jb_Ml) : Option (jb_Ml) :=
  jb_lp (zf_57_H2 M) (0, N)
set_option maxRecDepth 4000 in
theorem zg_57_J53 {Γ : jb_G} {L : Nat} {d : Nat} (hd : 1 ≤ d) (x1 : Int32) (x4 : Int32) (s0 : Int64) (s1 : Int64) (M : jb_Mi) (N : jb_Ml) {v : Option Value} {σ2 : jb_S} {r : ((Int64 × Int32) ⊕ ((Int32 × jb_Ml) ⊕ (jb_Ml)))} (h : zf_57_J53 x1 x4 s0 s1 M N = some r) (hK : (jb_K (fun s : Int64 × Int32 => jb_V Γ d zq_57 15 [some (.ref 73), some (.int x1), some (.long s.1), none, some (.int s.2)] [] (zE L, M, N) v σ2) (jb_K (fun s : Int32 × jb_Ml => jb_V Γ d zq_57 2 [some (.ref 73), some (.int s.1), none, none, none] [] (zE L, M, s.2) v σ2) (fun r : jb_Ml => v = none ∧ σ2 = (zE L, M, r)))) r) : jb_V Γ d zq_57 53 [some (.ref 73), some (.int x1), none, none, some (.int x4)] [(.long s1), (.long s0)] (zE L, M, N) v σ2 := by
  obtain ⟨d, rfl⟩ : ∃ e, d = e + 1 := ⟨d - 1, by omega⟩
  unfold zf_57_J53 at h
  refine jb_seg 4 (pc' := 15) (ls' := [some (.ref 73), some (.int x1), some (.long (s0 + s1)), none, some (.int (x4 + 1))]) (st' := []) (σ' := (zE L, M, N)) (G := []) rfl trivial ?_
  cases h
  exact jb_mask [true, true, true, false, true] rfl hK
set_option maxRecDepth 4000 in
theorem zg_57_H15 {Γ : jb_G} {L : Nat} {d : Nat} (hd : 1 ≤ d) (x1 : Int32) (M : jb_Mi) (N : jb_Ml) (s : Int64 × Int32) {v : Option Value} {σ2 : jb_S} {r : ((Int64 × Int32) ⊕ ((Int32 × jb_Ml) ⊕ (jb_Ml)))} (h : zf_57_H15 x1 M N s = some r) (hK : (jb_K (fun s : Int64 × Int32 => jb_V Γ d zq_57 15 [some (.ref 73), some (.int x1), some (.long s.1), none, some (.int s.2)] [] (zE L, M, N) v σ2) (jb_K (fun s : Int32 × jb_Ml => jb_V Γ d zq_57 2 [some (.ref 73), some (.int s.1), none, none, none] [] (zE L, M, s.2) v σ2) (fun r : jb_Ml => v = none ∧ σ2 = (zE L, M, r)))) r) : jb_V Γ d zq_57 15 [some (.ref 73), some (.int x1), some (.long s.1), none, some (.int s.2)] [] (zE L, M, N) v σ2 := by
  obtain ⟨d, rfl⟩ : ∃ e, d = e + 1 := ⟨d - 1, by omega⟩
  unfold zf_57_H15 at h
  refine jb_seg 4 (pc' := (if s.2 < (M 73 1) then 24 else 61)) (ls' := [some (.ref 73), some (.int x1), some (.long s.1), none, some (.int s.2)]) (st' := []) (σ' := (zE L, M, N)) (G := []) rfl trivial ?_
  refine jb_ite (fun c => ?_) (fun c => ?_)
  · rw [if_pos c] at h
    obtain ⟨g1, h⟩ := jb_gd_of h
    obtain ⟨g2, h⟩ := jb_gd_of h
    refine jb_seg 11 (pc' := (if ((M 74 x1.toNatClampNeg) &&& (M 74 (s.2).toNatClampNeg)) = 0 then 42 else 52)) (ls' := [some (.ref 73), some (.int x1), some (.long s.1), none, some (.int s.2)]) (st' := [(.long s.1)]) (σ' := (zE L, M, N)) (G := [vp_in x1 40, vp_in s.2 40]) rfl ⟨g1, g2⟩ ?_
    refine jb_ite (fun c => ?_) (fun c => ?_)
    · rw [if_pos c] at h
      obtain ⟨g3, h⟩ := jb_gd_of h
      refine jb_seg 5 (pc' := 53) (ls' := [some (.ref 73), some (.int x1), some (.long s.1), none, some (.int s.2)]) (st' := [(.long (N 75 (s.2).toNatClampNeg)), (.long s.1)]) (σ' := (zE L, M, N)) (G := [vp_in s.2 40]) rfl g3 ?_
      exact jb_mask [true, true, false, false, true] rfl (zg_57_J53 hd x1 s.2 s.1 (N 75 (s.2).toNatClampNeg) M N h hK)
    · rw [if_neg c] at h
      refine jb_seg 1 (pc' := 53) (ls' := [some (.ref 73), some (.int x1), some (.long s.1), none, some (.int s.2)]) (st' := [(.long 0), (.long s.1)]) (σ' := (zE L, M, N)) (G := []) rfl trivial ?_
      exact jb_mask [true, true, false, false, true] rfl (zg_57_J53 hd x1 s.2 s.1 0 M N h hK)
  · rw [if_neg c] at h
    obtain ⟨g4, h⟩ := jb_gd_of h
    refine jb_seg 7 (pc' := 2) (ls' := [some (.ref 73), some (.int (x1 + 1)), some (.long s.1), none, some (.int s.2)]) (st' := []) (σ' := (zE L, M, (jb_ul N 76 x1.toNatClampNeg s.1))) (G := [vp_in x1 40]) rfl g4 ?_
    cases h
    exact jb_mask [true, true, false, false, false] rfl hK
theorem zg_57_H15L {Γ : jb_G} {L : Nat} {d : Nat} (hd : 1 ≤ d) (x1 : Int32) (M : jb_Mi) (N : jb_Ml) {v : Option Value} {σ2 : jb_S} {s : Int64 × Int32} {r : ((Int32 × jb_Ml) ⊕ (jb_Ml))} (h : jb_lp (zf_57_H15 x1 M N) s = some r) (hK : (jb_K (fun s : Int32 × jb_Ml => jb_V Γ d zq_57 2 [some (.ref 73), some (.int s.1), none, none, none] [] (zE L, M, s.2) v σ2) (fun r : jb_Ml => v = none ∧ σ2 = (zE L, M, r))) r) : jb_V Γ d zq_57 15 [some (.ref 73), some (.int x1), some (.long s.1), none, some (.int s.2)] [] (zE L, M, N) v σ2 := by
  exact jb_lp_ind (P := fun s => jb_V Γ d zq_57 15 [some (.ref 73), some (.int x1), some (.long s.1), none, some (.int s.2)] [] (zE L, M, N) v σ2) (K := (jb_K (fun s : Int32 × jb_Ml => jb_V Γ d zq_57 2 [some (.ref 73), some (.int s.1), none, none, none] [] (zE L, M, s.2) v σ2) (fun r : jb_Ml => v = none ∧ σ2 = (zE L, M, r)))) (fun s r h hk => zg_57_H15 hd x1 M N s h (by cases r <;> exact hk)) h hK
set_option maxRecDepth 4000 in
theorem zg_57_H2 {Γ : jb_G} {L : Nat} {d : Nat} (hd : 1 ≤ d) (M : jb_Mi) (s : Int32 × jb_Ml) {v : Option Value} {σ2 : jb_S} {r : ((Int32 × jb_Ml) ⊕ (jb_Ml))} (h : zf_57_H2 M s = some r) (hK : (jb_K (fun s : Int32 × jb_Ml => jb_V Γ d zq_57 2 [some (.ref 73), some (.int s.1), none, none, none] [] (zE L, M, s.2) v σ2) (fun r : jb_Ml => v = none ∧ σ2 = (zE L, M, r))) r) : jb_V Γ d zq_57 2 [some (.ref 73), some (.int s.1), none, none, none] [] (zE L, M, s.2) v σ2 := by
  obtain ⟨d, rfl⟩ : ∃ e, d = e + 1 := ⟨d - 1, by omega⟩
  unfold zf_57_H2 at h
  refine jb_seg 4 (pc' := (if s.1 < (M 73 1) then 10 else 74)) (ls' := [some (.ref 73), some (.int s.1), none, none, none]) (st' := []) (σ' := (zE L, M, s.2)) (G := []) rfl trivial ?_
  refine jb_ite (fun c => ?_) (fun c => ?_)
  · rw [if_pos c] at h
    refine jb_seg 4 (pc' := 15) (ls' := [some (.ref 73), some (.int s.1), some (.long 0), none, some (.int 0)]) (st' := []) (σ' := (zE L, M, s.2)) (G := []) rfl trivial ?_
    exact jb_mask [true, true, true, false, true] rfl (zg_57_H15L hd s.1 M s.2 h hK)
  · rw [if_neg c] at h
    refine jb_seg 8 (pc' := 88) (ls' := [some (.ref 73), some (.int s.1), none, none, none]) (st' := [(.int (M 73 1)), (.int 0), (.ref 75), (.int 0), (.ref 76)]) (σ' := (zE L, M, s.2)) (G := []) rfl trivial ?_
    obtain ⟨g5, h⟩ := jb_gc_of h
    refine jb_copyl (rest := []) rfl rfl rfl g5 (Nat.le_of_ble_eq_true rfl) ?_
    cases h
    obtain ⟨rfl, rfl⟩ := hK
    exact jb_retv rfl rfl
theorem zg_57_H2L {Γ : jb_G} {L : Nat} {d : Nat} (hd : 1 ≤ d) (M : jb_Mi) {v : Option Value} {σ2 : jb_S} {s : Int32 × jb_Ml} {r : (jb_Ml)} (h : jb_lp (zf_57_H2 M) s = some r) (hK : (fun r : jb_Ml => v = none ∧ σ2 = (zE L, M, r)) r) : jb_V Γ d zq_57 2 [some (.ref 73), some (.int s.1), none, none, none] [] (zE L, M, s.2) v σ2 := by
  exact jb_lp_ind (P := fun s => jb_V Γ d zq_57 2 [some (.ref 73), some (.int s.1), none, none, none] [] (zE L, M, s.2) v σ2) (K := (fun r : jb_Ml => v = none ∧ σ2 = (zE L, M, r))) (fun s r h hk => zg_57_H2 hd M s h (by cases r <;> exact hk)) h hK
set_option maxRecDepth 4000 in
theorem zg_57 {Γ : jb_G} {L : Nat} {d : Nat} (hd : 1 ≤ d) (M : jb_Mi) (N : jb_Ml) {v : Option Value} {σ2 : jb_S} {r : (jb_Ml)} (h : zf_57 M N = some r) (hK : (fun r : jb_Ml => v = none ∧ σ2 = (zE L, M, r)) r) : jb_V Γ d zq_57 0 [some (.ref 73), none, none, none, none] [] (zE L, M, N) v σ2 := by
  obtain ⟨d, rfl⟩ : ∃ e, d = e + 1 := ⟨d - 1, by omega⟩
  unfold zf_57 at h
  refine jb_seg 2 (pc' := 2) (ls' := [some (.ref 73), some (.int 0), none, none, none]) (st' := []) (σ' := (zE L, M, N)) (G := []) rfl trivial ?_
  exact jb_mask [true, true, false, false, false] rfl (zg_57_H2L hd M h hK)
theorem ze_57 {Γ : jb_G} {L : Nat} {d : Nat} (hd : 1 ≤ d) (M : jb_Mi) (N : jb_Ml) {r : (jb_Ml)} (h : zf_57 M N = some r) : jb_V Γ d zq_57 0 (jb_en 5 [(.ref 73)]) [] (zE L, M, N) (none) (zE L, M, r) := zg_57 hd M N h ⟨rfl, rfl⟩
