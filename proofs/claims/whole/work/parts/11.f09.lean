-- X9_thingsTold
noncomputable def zf_106_J24 (o : Nat) (x2 : Int32) (s0 : Int32) (s1 : Int32) (M : jb_Mi) : Option ((Int32 × Int32) ⊕ (Int32)) :=
  some (.inl ((s0 + s1), (x2 + 1)))
noncomputable def zf_106_H4 (o : Nat) (M : jb_Mi) (s : Int32 × Int32) : Option ((Int32 × Int32) ⊕ (Int32)) :=
  if s.2 < 24 then (zf_3 o s.2 M).bind fun q1 => if (jb_b2i q1) = 0 then zf_106_J24 o s.2 s.1 0 M else zf_106_J24 o s.2 s.1 1 M else some (.inr s.1)
noncomputable def zf_106 (o : Nat) (M : jb_Mi) : Option (Int32) :=
  jb_lp (zf_106_H4 o M) (0, 0)
set_option maxRecDepth 4000 in
theorem zg_106_J24 {Γ : jb_G} {L : Nat} {d : Nat} (hd : 1 ≤ d) (o : Nat) (x2 : Int32) (s0 : Int32) (s1 : Int32) (M : jb_Mi) (N : jb_Ml) (hp : o = 4 ∨ o = 24) {v : Option Value} {σ2 : jb_S} {r : ((Int32 × Int32) ⊕ (Int32))} (h : zf_106_J24 o x2 s0 s1 M = some r) (hK : (jb_K (fun s : Int32 × Int32 => jb_V Γ d zq_106 4 [some (.ref o), some (.int s.1), some (.int s.2)] [] (zE L, M, N) v σ2) (fun r : Int32 => v = some (.int r) ∧ σ2 = (zE L, M, N))) r) : jb_V Γ d zq_106 24 [some (.ref o), none, some (.int x2)] [(.int s1), (.int s0)] (zE L, M, N) v σ2 := by
  rcases hp with rfl | rfl
  · obtain ⟨d, rfl⟩ : ∃ e, d = e + 1 := ⟨d - 1, by omega⟩
    unfold zf_106_J24 at h
    refine jb_seg 4 (pc' := 4) (ls' := [some (.ref 4), some (.int (s0 + s1)), some (.int (x2 + 1))]) (st' := []) (σ' := (zE L, M, N)) (G := []) rfl trivial ?_
    cases h
    exact jb_mask [true, true, true] rfl hK
  · obtain ⟨d, rfl⟩ : ∃ e, d = e + 1 := ⟨d - 1, by omega⟩
    unfold zf_106_J24 at h
    refine jb_seg 4 (pc' := 4) (ls' := [some (.ref 24), some (.int (s0 + s1)), some (.int (x2 + 1))]) (st' := []) (σ' := (zE L, M, N)) (G := []) rfl trivial ?_
    cases h
    exact jb_mask [true, true, true] rfl hK
set_option maxRecDepth 4000 in
theorem zg_106_H4 {Γ : jb_G} {L : Nat} {d : Nat} (hd : 1 ≤ d) (o : Nat) (M : jb_Mi) (N : jb_Ml) (s : Int32 × Int32) (hp : o = 4 ∨ o = 24) {v : Option Value} {σ2 : jb_S} {r : ((Int32 × Int32) ⊕ (Int32))} (h : zf_106_H4 o M s = some r) (hK : (jb_K (fun s : Int32 × Int32 => jb_V Γ d zq_106 4 [some (.ref o), some (.int s.1), some (.int s.2)] [] (zE L, M, N) v σ2) (fun r : Int32 => v = some (.int r) ∧ σ2 = (zE L, M, N))) r) : jb_V Γ d zq_106 4 [some (.ref o), some (.int s.1), some (.int s.2)] [] (zE L, M, N) v σ2 := by
  rcases hp with rfl | rfl
  · obtain ⟨d, rfl⟩ : ∃ e, d = e + 1 := ⟨d - 1, by omega⟩
    unfold zf_106_H4 at h
    refine jb_seg 3 (pc' := (if s.2 < 24 then 10 else 32)) (ls' := [some (.ref 4), some (.int s.1), some (.int s.2)]) (st' := []) (σ' := (zE L, M, N)) (G := []) rfl trivial ?_
    refine jb_ite (fun c => ?_) (fun c => ?_)
    · rw [if_pos c] at h
      refine jb_seg 3 (pc' := 13) (ls' := [some (.ref 4), some (.int s.1), some (.int s.2)]) (st' := [(.int s.2), (.ref 4), (.int s.1)]) (σ' := (zE L, M, N)) (G := []) rfl trivial ?_
      obtain ⟨q1, h1, h⟩ := jb_bd_of h
      refine jb_callV (q' := zq_3) (As := [(.int s.2)]) (rest := [(.int s.1)]) (σ1 := (zE L, M, N)) (v := some (.int (jb_b2i q1))) rfl rfl zp_3 rfl (by decide) (jb_cat rfl) (Nat.le_of_ble_eq_true rfl) (Nat.le_of_ble_eq_true rfl) (Or.inl rfl) rfl (ze_3 4 s.2 M N (by decide) h1) ?_
      refine jb_seg 1 (pc' := (if (jb_b2i q1) = 0 then 23 else 19)) (ls' := [some (.ref 4), some (.int s.1), some (.int s.2)]) (st' := [(.int s.1)]) (σ' := (zE L, M, N)) (G := []) rfl trivial ?_
      refine jb_ite (fun c => ?_) (fun c => ?_)
      · rw [if_pos c] at h
        refine jb_seg 1 (pc' := 24) (ls' := [some (.ref 4), some (.int s.1), some (.int s.2)]) (st' := [(.int 0), (.int s.1)]) (σ' := (zE L, M, N)) (G := []) rfl trivial ?_
        exact jb_mask [true, false, true] rfl (zg_106_J24 hd 4 s.2 s.1 0 M N (by decide) h hK)
      · rw [if_neg c] at h
        refine jb_seg 2 (pc' := 24) (ls' := [some (.ref 4), some (.int s.1), some (.int s.2)]) (st' := [(.int 1), (.int s.1)]) (σ' := (zE L, M, N)) (G := []) rfl trivial ?_
        exact jb_mask [true, false, true] rfl (zg_106_J24 hd 4 s.2 s.1 1 M N (by decide) h hK)
    · rw [if_neg c] at h
      refine jb_seg 1 (pc' := 33) (ls' := [some (.ref 4), some (.int s.1), some (.int s.2)]) (st' := [(.int s.1)]) (σ' := (zE L, M, N)) (G := []) rfl trivial ?_
      cases h
      obtain ⟨rfl, rfl⟩ := hK
      exact jb_reti rfl rfl
  · obtain ⟨d, rfl⟩ : ∃ e, d = e + 1 := ⟨d - 1, by omega⟩
    unfold zf_106_H4 at h
    refine jb_seg 3 (pc' := (if s.2 < 24 then 10 else 32)) (ls' := [some (.ref 24), some (.int s.1), some (.int s.2)]) (st' := []) (σ' := (zE L, M, N)) (G := []) rfl trivial ?_
    refine jb_ite (fun c => ?_) (fun c => ?_)
    · rw [if_pos c] at h
      refine jb_seg 3 (pc' := 13) (ls' := [some (.ref 24), some (.int s.1), some (.int s.2)]) (st' := [(.int s.2), (.ref 24), (.int s.1)]) (σ' := (zE L, M, N)) (G := []) rfl trivial ?_
      obtain ⟨q1, h1, h⟩ := jb_bd_of h
      refine jb_callV (q' := zq_3) (As := [(.int s.2)]) (rest := [(.int s.1)]) (σ1 := (zE L, M, N)) (v := some (.int (jb_b2i q1))) rfl rfl zp_3 rfl (by decide) (jb_cat rfl) (Nat.le_of_ble_eq_true rfl) (Nat.le_of_ble_eq_true rfl) (Or.inl rfl) rfl (ze_3 24 s.2 M N (by decide) h1) ?_
      refine jb_seg 1 (pc' := (if (jb_b2i q1) = 0 then 23 else 19)) (ls' := [some (.ref 24), some (.int s.1), some (.int s.2)]) (st' := [(.int s.1)]) (σ' := (zE L, M, N)) (G := []) rfl trivial ?_
      refine jb_ite (fun c => ?_) (fun c => ?_)
      · rw [if_pos c] at h
        refine jb_seg 1 (pc' := 24) (ls' := [some (.ref 24), some (.int s.1), some (.int s.2)]) (st' := [(.int 0), (.int s.1)]) (σ' := (zE L, M, N)) (G := []) rfl trivial ?_
        exact jb_mask [true, false, true] rfl (zg_106_J24 hd 24 s.2 s.1 0 M N (by decide) h hK)
      · rw [if_neg c] at h
        refine jb_seg 2 (pc' := 24) (ls' := [some (.ref 24), some (.int s.1), some (.int s.2)]) (st' := [(.int 1), (.int s.1)]) (σ' := (zE L, M, N)) (G := []) rfl trivial ?_
        exact jb_mask [true, false, true] rfl (zg_106_J24 hd 24 s.2 s.1 1 M N (by decide) h hK)
    · rw [if_neg c] at h
      refine jb_seg 1 (pc' := 33) (ls' := [some (.ref 24), some (.int s.1), some (.int s.2)]) (st' := [(.int s.1)]) (σ' := (zE L, M, N)) (G := []) rfl trivial ?_
      cases h
      obtain ⟨rfl, rfl⟩ := hK
      exact jb_reti rfl rfl
theorem zg_106_H4L {Γ : jb_G} {L : Nat} {d : Nat} (hd : 1 ≤ d) (o : Nat) (M : jb_Mi) (N : jb_Ml) (hp : o = 4 ∨ o = 24) {v : Option Value} {σ2 : jb_S} {s : Int32 × Int32} {r : (Int32)} (h : jb_lp (zf_106_H4 o M) s = some r) (hK : (fun r : Int32 => v = some (.int r) ∧ σ2 = (zE L, M, N)) r) : jb_V Γ d zq_106 4 [some (.ref o), some (.int s.1), some (.int s.2)] [] (zE L, M, N) v σ2 := by
  exact jb_lp_ind (P := fun s => jb_V Γ d zq_106 4 [some (.ref o), some (.int s.1), some (.int s.2)] [] (zE L, M, N) v σ2) (K := (fun r : Int32 => v = some (.int r) ∧ σ2 = (zE L, M, N))) (fun s r h hk => zg_106_H4 hd o M N s hp h (by cases r <;> exact hk)) h hK
set_option maxRecDepth 4000 in
theorem zg_106 {Γ : jb_G} {L : Nat} {d : Nat} (hd : 1 ≤ d) (o : Nat) (M : jb_Mi) (N : jb_Ml) (hp : o = 4 ∨ o = 24) {v : Option Value} {σ2 : jb_S} {r : (Int32)} (h : zf_106 o M = some r) (hK : (fun r : Int32 => v = some (.int r) ∧ σ2 = (zE L, M, N)) r) : jb_V Γ d zq_106 0 [some (.ref o), none, none] [] (zE L, M, N) v σ2 := by
  rcases hp with rfl | rfl
  · obtain ⟨d, rfl⟩ : ∃ e, d = e + 1 := ⟨d - 1, by omega⟩
    unfold zf_106 at h
    refine jb_seg 4 (pc' := 4) (ls' := [some (.ref 4), some (.int 0), some (.int 0)]) (st' := []) (σ' := (zE L, M, N)) (G := []) rfl trivial ?_
    exact jb_mask [true, true, true] rfl (zg_106_H4L hd 4 M N (by decide) h hK)
  · obtain ⟨d, rfl⟩ : ∃ e, d = e + 1 := ⟨d - 1, by omega⟩
    unfold zf_106 at h
    refine jb_seg 4 (pc' := 4) (ls' := [some (.ref 24), some (.int 0), some (.int 0)]) (st' := []) (σ' := (zE L, M, N)) (G := []) rfl trivial ?_
    exact jb_mask [true, true, true] rfl (zg_106_H4L hd 24 M N (by decide) h hK)
theorem ze_106 {Γ : jb_G} {L : Nat} {d : Nat} (hd : 1 ≤ d) (o : Nat) (M : jb_Mi) (N : jb_Ml) (hp : o = 4 ∨ o = 24) {r : (Int32)} (h : zf_106 o M = some r) : jb_V Γ d zq_106 0 (jb_en 3 [(.ref o)]) [] (zE L, M, N) (some (.int r)) (zE L, M, N) := zg_106 hd o M N hp h ⟨rfl, rfl⟩
-- X9_weightIn
noncomputable def zf_107_J30 (o : Nat) (x1 : Int32) (x3 : Int32) (s0 : Int32) (s1 : Int32) (M : jb_Mi) : Option ((Int32 × Int32) ⊕ (Int32)) :=
  some (.inl ((s0 + s1), (x3 + 1)))
noncomputable def zf_107_H4 (o : Nat) (x1 : Int32) (M : jb_Mi) (s : Int32 × Int32) : Option ((Int32 × Int32) ⊕ (Int32)) :=
  if s.2 < 24 then (zf_4 o s.2 x1 M).bind fun q1 => if (jb_b2i q1) = 0 then zf_107_J30 o x1 s.2 s.1 0 M else jb_gd s.2 24 (zf_107_J30 o x1 s.2 s.1 (M (o + 7) (s.2).toNatClampNeg) M) else some (.inr s.1)
noncomputable def zf_107 (o : Nat) (x1 : Int32) (M : jb_Mi) : Option (Int32) :=
  jb_lp (zf_107_H4 o x1 M) (0, 0)
set_option maxRecDepth 4000 in
theorem zg_107_J30 {Γ : jb_G} {L : Nat} {d : Nat} (hd : 2 ≤ d) (o : Nat) (x1 : Int32) (x3 : Int32) (s0 : Int32) (s1 : Int32) (M : jb_Mi) (N : jb_Ml) (hp : o = 4 ∨ o = 24) {v : Option Value} {σ2 : jb_S} {r : ((Int32 × Int32) ⊕ (Int32))} (h : zf_107_J30 o x1 x3 s0 s1 M = some r) (hK : (jb_K (fun s : Int32 × Int32 => jb_V Γ d zq_107 4 [some (.ref o), some (.int x1), some (.int s.1), some (.int s.2)] [] (zE L, M, N) v σ2) (fun r : Int32 => v = some (.int r) ∧ σ2 = (zE L, M, N))) r) : jb_V Γ d zq_107 30 [some (.ref o), some (.int x1), none, some (.int x3)] [(.int s1), (.int s0)] (zE L, M, N) v σ2 := by
  rcases hp with rfl | rfl
  · obtain ⟨d, rfl⟩ : ∃ e, d = e + 1 := ⟨d - 1, by omega⟩
    unfold zf_107_J30 at h
    refine jb_seg 4 (pc' := 4) (ls' := [some (.ref 4), some (.int x1), some (.int (s0 + s1)), some (.int (x3 + 1))]) (st' := []) (σ' := (zE L, M, N)) (G := []) rfl trivial ?_
    cases h
    exact jb_mask [true, true, true, true] rfl hK
  · obtain ⟨d, rfl⟩ : ∃ e, d = e + 1 := ⟨d - 1, by omega⟩
    unfold zf_107_J30 at h
    refine jb_seg 4 (pc' := 4) (ls' := [some (.ref 24), some (.int x1), some (.int (s0 + s1)), some (.int (x3 + 1))]) (st' := []) (σ' := (zE L, M, N)) (G := []) rfl trivial ?_
    cases h
    exact jb_mask [true, true, true, true] rfl hK
set_option maxRecDepth 4000 in
theorem zg_107_H4 {Γ : jb_G} {L : Nat} {d : Nat} (hd : 2 ≤ d) (o : Nat) (x1 : Int32) (M : jb_Mi) (N : jb_Ml) (s : Int32 × Int32) (hp : o = 4 ∨ o = 24) {v : Option Value} {σ2 : jb_S} {r : ((Int32 × Int32) ⊕ (Int32))} (h : zf_107_H4 o x1 M s = some r) (hK : (jb_K (fun s : Int32 × Int32 => jb_V Γ d zq_107 4 [some (.ref o), some (.int x1), some (.int s.1), some (.int s.2)] [] (zE L, M, N) v σ2) (fun r : Int32 => v = some (.int r) ∧ σ2 = (zE L, M, N))) r) : jb_V Γ d zq_107 4 [some (.ref o), some (.int x1), some (.int s.1), some (.int s.2)] [] (zE L, M, N) v σ2 := by
  rcases hp with rfl | rfl
  · obtain ⟨d, rfl⟩ : ∃ e, d = e + 1 := ⟨d - 1, by omega⟩
    unfold zf_107_H4 at h
    refine jb_seg 3 (pc' := (if s.2 < 24 then 10 else 38)) (ls' := [some (.ref 4), some (.int x1), some (.int s.1), some (.int s.2)]) (st' := []) (σ' := (zE L, M, N)) (G := []) rfl trivial ?_
    refine jb_ite (fun c => ?_) (fun c => ?_)
    · rw [if_pos c] at h
      refine jb_seg 4 (pc' := 14) (ls' := [some (.ref 4), some (.int x1), some (.int s.1), some (.int s.2)]) (st' := [(.int x1), (.int s.2), (.ref 4), (.int s.1)]) (σ' := (zE L, M, N)) (G := []) rfl trivial ?_
      obtain ⟨q1, h1, h⟩ := jb_bd_of h
      refine jb_callV (q' := zq_4) (As := [(.int s.2), (.int x1)]) (rest := [(.int s.1)]) (σ1 := (zE L, M, N)) (v := some (.int (jb_b2i q1))) rfl rfl zp_4 rfl (by decide) (jb_cat rfl) (Nat.le_of_ble_eq_true rfl) (Nat.le_of_ble_eq_true rfl) (Or.inl rfl) rfl (ze_4 (by omega) 4 s.2 x1 M N (by decide) h1) ?_
      refine jb_seg 1 (pc' := (if (jb_b2i q1) = 0 then 29 else 20)) (ls' := [some (.ref 4), some (.int x1), some (.int s.1), some (.int s.2)]) (st' := [(.int s.1)]) (σ' := (zE L, M, N)) (G := []) rfl trivial ?_
      refine jb_ite (fun c => ?_) (fun c => ?_)
      · rw [if_pos c] at h
        refine jb_seg 1 (pc' := 30) (ls' := [some (.ref 4), some (.int x1), some (.int s.1), some (.int s.2)]) (st' := [(.int 0), (.int s.1)]) (σ' := (zE L, M, N)) (G := []) rfl trivial ?_
        exact jb_mask [true, true, false, true] rfl (zg_107_J30 hd 4 x1 s.2 s.1 0 M N (by decide) h hK)
      · rw [if_neg c] at h
        obtain ⟨g2, h⟩ := jb_gd_of h
        refine jb_seg 5 (pc' := 30) (ls' := [some (.ref 4), some (.int x1), some (.int s.1), some (.int s.2)]) (st' := [(.int (M (4 + 7) (s.2).toNatClampNeg)), (.int s.1)]) (σ' := (zE L, M, N)) (G := [vp_in s.2 24]) rfl g2 ?_
        exact jb_mask [true, true, false, true] rfl (zg_107_J30 hd 4 x1 s.2 s.1 (M (4 + 7) (s.2).toNatClampNeg) M N (by decide) h hK)
    · rw [if_neg c] at h
      refine jb_seg 1 (pc' := 39) (ls' := [some (.ref 4), some (.int x1), some (.int s.1), some (.int s.2)]) (st' := [(.int s.1)]) (σ' := (zE L, M, N)) (G := []) rfl trivial ?_
      cases h
      obtain ⟨rfl, rfl⟩ := hK
      exact jb_reti rfl rfl
  · obtain ⟨d, rfl⟩ : ∃ e, d = e + 1 := ⟨d - 1, by omega⟩
    unfold zf_107_H4 at h
    refine jb_seg 3 (pc' := (if s.2 < 24 then 10 else 38)) (ls' := [some (.ref 24), some (.int x1), some (.int s.1), some (.int s.2)]) (st' := []) (σ' := (zE L, M, N)) (G := []) rfl trivial ?_
    refine jb_ite (fun c => ?_) (fun c => ?_)
    · rw [if_pos c] at h
      refine jb_seg 4 (pc' := 14) (ls' := [some (.ref 24), some (.int x1), some (.int s.1), some (.int s.2)]) (st' := [(.int x1), (.int s.2), (.ref 24), (.int s.1)]) (σ' := (zE L, M, N)) (G := []) rfl trivial ?_
      obtain ⟨q1, h1, h⟩ := jb_bd_of h
      refine jb_callV (q' := zq_4) (As := [(.int s.2), (.int x1)]) (rest := [(.int s.1)]) (σ1 := (zE L, M, N)) (v := some (.int (jb_b2i q1))) rfl rfl zp_4 rfl (by decide) (jb_cat rfl) (Nat.le_of_ble_eq_true rfl) (Nat.le_of_ble_eq_true rfl) (Or.inl rfl) rfl (ze_4 (by omega) 24 s.2 x1 M N (by decide) h1) ?_
      refine jb_seg 1 (pc' := (if (jb_b2i q1) = 0 then 29 else 20)) (ls' := [some (.ref 24), some (.int x1), some (.int s.1), some (.int s.2)]) (st' := [(.int s.1)]) (σ' := (zE L, M, N)) (G := []) rfl trivial ?_
      refine jb_ite (fun c => ?_) (fun c => ?_)
      · rw [if_pos c] at h
        refine jb_seg 1 (pc' := 30) (ls' := [some (.ref 24), some (.int x1), some (.int s.1), some (.int s.2)]) (st' := [(.int 0), (.int s.1)]) (σ' := (zE L, M, N)) (G := []) rfl trivial ?_
        exact jb_mask [true, true, false, true] rfl (zg_107_J30 hd 24 x1 s.2 s.1 0 M N (by decide) h hK)
      · rw [if_neg c] at h
        obtain ⟨g2, h⟩ := jb_gd_of h
        refine jb_seg 5 (pc' := 30) (ls' := [some (.ref 24), some (.int x1), some (.int s.1), some (.int s.2)]) (st' := [(.int (M (24 + 7) (s.2).toNatClampNeg)), (.int s.1)]) (σ' := (zE L, M, N)) (G := [vp_in s.2 24]) rfl g2 ?_
        exact jb_mask [true, true, false, true] rfl (zg_107_J30 hd 24 x1 s.2 s.1 (M (24 + 7) (s.2).toNatClampNeg) M N (by decide) h hK)
    · rw [if_neg c] at h
      refine jb_seg 1 (pc' := 39) (ls' := [some (.ref 24), some (.int x1), some (.int s.1), some (.int s.2)]) (st' := [(.int s.1)]) (σ' := (zE L, M, N)) (G := []) rfl trivial ?_
      cases h
      obtain ⟨rfl, rfl⟩ := hK
      exact jb_reti rfl rfl
theorem zg_107_H4L {Γ : jb_G} {L : Nat} {d : Nat} (hd : 2 ≤ d) (o : Nat) (x1 : Int32) (M : jb_Mi) (N : jb_Ml) (hp : o = 4 ∨ o = 24) {v : Option Value} {σ2 : jb_S} {s : Int32 × Int32} {r : (Int32)} (h : jb_lp (zf_107_H4 o x1 M) s = some r) (hK : (fun r : Int32 => v = some (.int r) ∧ σ2 = (zE L, M, N)) r) : jb_V Γ d zq_107 4 [some (.ref o), some (.int x1), some (.int s.1), some (.int s.2)] [] (zE L, M, N) v σ2 := by
  exact jb_lp_ind (P := fun s => jb_V Γ d zq_107 4 [some (.ref o), some (.int x1), some (.int s.1), some (.int s.2)] [] (zE L, M, N) v σ2) (K := (fun r : Int32 => v = some (.int r) ∧ σ2 = (zE L, M, N))) (fun s r h hk => zg_107_H4 hd o x1 M N s hp h (by cases r <;> exact hk)) h hK
set_option maxRecDepth 4000 in
theorem zg_107 {Γ : jb_G} {L : Nat} {d : Nat} (hd : 2 ≤ d) (o : Nat) (x1 : Int32) (M : jb_Mi) (N : jb_Ml) (hp : o = 4 ∨ o = 24) {v : Option Value} {σ2 : jb_S} {r : (Int32)} (h : zf_107 o x1 M = some r) (hK : (fun r : Int32 => v = some (.int r) ∧ σ2 = (zE L, M, N)) r) : jb_V Γ d zq_107 0 [some (.ref o), some (.int x1), none, none] [] (zE L, M, N) v σ2 := by
  rcases hp with rfl | rfl
  · obtain ⟨d, rfl⟩ : ∃ e, d = e + 1 := ⟨d - 1, by omega⟩
    unfold zf_107 at h
    refine jb_seg 4 (pc' := 4) (ls' := [some (.ref 4), some (.int x1), some (.int 0), some (.int 0)]) (st' := []) (σ' := (zE L, M, N)) (G := []) rfl trivial ?_
    exact jb_mask [true, true, true, true] rfl (zg_107_H4L hd 4 x1 M N (by decide) h hK)
  · obtain ⟨d, rfl⟩ : ∃ e, d = e + 1 := ⟨d - 1, by omega⟩
    unfold zf_107 at h
    refine jb_seg 4 (pc' := 4) (ls' := [some (.ref 24), some (.int x1), some (.int 0), some (.int 0)]) (st' := []) (σ' := (zE L, M, N)) (G := []) rfl trivial ?_
    exact jb_mask [true, true, true, true] rfl (zg_107_H4L hd 24 x1 M N (by decide) h hK)
theorem ze_107 {Γ : jb_G} {L : Nat} {d : Nat} (hd : 2 ≤ d) (o : Nat) (x1 : Int32) (M : jb_Mi) (N : jb_Ml) (hp : o = 4 ∨ o = 24) {r : (Int32)} (h : zf_107 o x1 M = some r) : jb_V Γ d zq_107 0 (jb_en 4 [(.ref o), (.int x1)]) [] (zE L, M, N) (some (.int r)) (zE L, M, N) := zg_107 hd o x1 M N hp h ⟨rfl, rfl⟩
-- X9_unevenness
noncomputable def zf_108_H12 (o : Nat) (x1 : Int32) (M : jb_Mi) (s : Int32 × Int32 × Int32) : Option ((Int32 × Int32 × Int32) ⊕ (Int32)) :=
  if s.2.2 < 4 then (zf_7 o x1 s.2.2 M).bind fun q2 => some (.inl ((zf_272 s.1 q2), (zf_271 s.2.1 q2), (s.2.2 + 1))) else some (.inr (s.2.1 - s.1))
noncomputable def zf_108 (o : Nat) (x1 : Int32) (M : jb_Mi) : Option (Int32) :=
  (zf_7 o x1 0 M).bind fun q1 => jb_lp (zf_108_H12 o x1 M) (q1, q1, 1)
set_option maxRecDepth 4000 in
theorem zg_108_H12 {Γ : jb_G} {L : Nat} {d : Nat} (hd : 3 ≤ d) (o : Nat) (x1 : Int32) (M : jb_Mi) (N : jb_Ml) (s : Int32 × Int32 × Int32) (hp : o = 4 ∨ o = 24) {v : Option Value} {σ2 : jb_S} {r : ((Int32 × Int32 × Int32) ⊕ (Int32))} (h : zf_108_H12 o x1 M s = some r) (hK : (jb_K (fun s : Int32 × Int32 × Int32 => jb_V Γ d zq_108 12 [some (.ref o), some (.int x1), some (.int s.1), some (.int s.2.1), some (.int s.2.2), none] [] (zE L, M, N) v σ2) (fun r : Int32 => v = some (.int r) ∧ σ2 = (zE L, M, N))) r) : jb_V Γ d zq_108 12 [some (.ref o), some (.int x1), some (.int s.1), some (.int s.2.1), some (.int s.2.2), none] [] (zE L, M, N) v σ2 := by
  rcases hp with rfl | rfl
  · obtain ⟨d, rfl⟩ : ∃ e, d = e + 1 := ⟨d - 1, by omega⟩
    unfold zf_108_H12 at h
    refine jb_seg 3 (pc' := (if s.2.2 < 4 then 18 else 47)) (ls' := [some (.ref 4), some (.int x1), some (.int s.1), some (.int s.2.1), some (.int s.2.2), none]) (st' := []) (σ' := (zE L, M, N)) (G := []) rfl trivial ?_
    refine jb_ite (fun c => ?_) (fun c => ?_)
    · rw [if_pos c] at h
      refine jb_seg 3 (pc' := 22) (ls' := [some (.ref 4), some (.int x1), some (.int s.1), some (.int s.2.1), some (.int s.2.2), none]) (st' := [(.int s.2.2), (.int x1), (.ref 4)]) (σ' := (zE L, M, N)) (G := []) rfl trivial ?_
      obtain ⟨q2, h2, h⟩ := jb_bd_of h
      refine jb_callV (q' := zq_7) (As := [(.int x1), (.int s.2.2)]) (rest := []) (σ1 := (zE L, M, N)) (v := some (.int q2)) rfl rfl zp_7 rfl (by decide) (jb_cat rfl) (Nat.le_of_ble_eq_true rfl) (Nat.le_of_ble_eq_true rfl) (Or.inl rfl) rfl (ze_7 (by omega) 4 x1 s.2.2 M N (by decide) h2) ?_
      refine jb_seg 3 (pc' := 30) (ls' := [some (.ref 4), some (.int x1), some (.int s.1), some (.int s.2.1), some (.int s.2.2), some (.int q2)]) (st' := [(.int q2), (.int s.1)]) (σ' := (zE L, M, N)) (G := []) rfl trivial ?_
      refine jb_callS (q' := zq_272) (As := [(.int s.1), (.int q2)]) (rest := []) (σ1 := (zE L, M, N)) (v := some (.int (zf_272 s.1 q2))) rfl (by decide) rfl zp_272 (jb_cat rfl) (Nat.le_of_ble_eq_true rfl) (Nat.le_of_ble_eq_true rfl) (Or.inl rfl) rfl (ze_272 s.1 q2 M N rfl) ?_
      refine jb_seg 3 (pc' := 37) (ls' := [some (.ref 4), some (.int x1), some (.int (zf_272 s.1 q2)), some (.int s.2.1), some (.int s.2.2), some (.int q2)]) (st' := [(.int q2), (.int s.2.1)]) (σ' := (zE L, M, N)) (G := []) rfl trivial ?_
      refine jb_callS (q' := zq_271) (As := [(.int s.2.1), (.int q2)]) (rest := []) (σ1 := (zE L, M, N)) (v := some (.int (zf_271 s.2.1 q2))) rfl (by decide) rfl zp_271 (jb_cat rfl) (Nat.le_of_ble_eq_true rfl) (Nat.le_of_ble_eq_true rfl) (Or.inl rfl) rfl (ze_271 s.2.1 q2 M N rfl) ?_
      refine jb_seg 3 (pc' := 12) (ls' := [some (.ref 4), some (.int x1), some (.int (zf_272 s.1 q2)), some (.int (zf_271 s.2.1 q2)), some (.int (s.2.2 + 1)), some (.int q2)]) (st' := []) (σ' := (zE L, M, N)) (G := []) rfl trivial ?_
      cases h
      exact jb_mask [true, true, true, true, true, false] rfl hK
    · rw [if_neg c] at h
      refine jb_seg 3 (pc' := 50) (ls' := [some (.ref 4), some (.int x1), some (.int s.1), some (.int s.2.1), some (.int s.2.2), none]) (st' := [(.int (s.2.1 - s.1))]) (σ' := (zE L, M, N)) (G := []) rfl trivial ?_
      cases h
      obtain ⟨rfl, rfl⟩ := hK
      exact jb_reti rfl rfl
  · obtain ⟨d, rfl⟩ : ∃ e, d = e + 1 := ⟨d - 1, by omega⟩
    unfold zf_108_H12 at h
    refine jb_seg 3 (pc' := (if s.2.2 < 4 then 18 else 47)) (ls' := [some (.ref 24), some (.int x1), some (.int s.1), some (.int s.2.1), some (.int s.2.2), none]) (st' := []) (σ' := (zE L, M, N)) (G := []) rfl trivial ?_
    refine jb_ite (fun c => ?_) (fun c => ?_)
    · rw [if_pos c] at h
      refine jb_seg 3 (pc' := 22) (ls' := [some (.ref 24), some (.int x1), some (.int s.1), some (.int s.2.1), some (.int s.2.2), none]) (st' := [(.int s.2.2), (.int x1), (.ref 24)]) (σ' := (zE L, M, N)) (G := []) rfl trivial ?_
      obtain ⟨q2, h2, h⟩ := jb_bd_of h
      refine jb_callV (q' := zq_7) (As := [(.int x1), (.int s.2.2)]) (rest := []) (σ1 := (zE L, M, N)) (v := some (.int q2)) rfl rfl zp_7 rfl (by decide) (jb_cat rfl) (Nat.le_of_ble_eq_true rfl) (Nat.le_of_ble_eq_true rfl) (Or.inl rfl) rfl (ze_7 (by omega) 24 x1 s.2.2 M N (by decide) h2) ?_
      refine jb_seg 3 (pc' := 30) (ls' := [some (.ref 24), some (.int x1), some (.int s.1), some (.int s.2.1), some (.int s.2.2), some (.int q2)]) (st' := [(.int q2), (.int s.1)]) (σ' := (zE L, M, N)) (G := []) rfl trivial ?_
      refine jb_callS (q' := zq_272) (As := [(.int s.1), (.int q2)]) (rest := []) (σ1 := (zE L, M, N)) (v := some (.int (zf_272 s.1 q2))) rfl (by decide) rfl zp_272 (jb_cat rfl) (Nat.le_of_ble_eq_true rfl) (Nat.le_of_ble_eq_true rfl) (Or.inl rfl) rfl (ze_272 s.1 q2 M N rfl) ?_
      refine jb_seg 3 (pc' := 37) (ls' := [some (.ref 24), some (.int x1), some (.int (zf_272 s.1 q2)), some (.int s.2.1), some (.int s.2.2), some (.int q2)]) (st' := [(.int q2), (.int s.2.1)]) (σ' := (zE L, M, N)) (G := []) rfl trivial ?_
      refine jb_callS (q' := zq_271) (As := [(.int s.2.1), (.int q2)]) (rest := []) (σ1 := (zE L, M, N)) (v := some (.int (zf_271 s.2.1 q2))) rfl (by decide) rfl zp_271 (jb_cat rfl) (Nat.le_of_ble_eq_true rfl) (Nat.le_of_ble_eq_true rfl) (Or.inl rfl) rfl (ze_271 s.2.1 q2 M N rfl) ?_
      refine jb_seg 3 (pc' := 12) (ls' := [some (.ref 24), some (.int x1), some (.int (zf_272 s.1 q2)), some (.int (zf_271 s.2.1 q2)), some (.int (s.2.2 + 1)), some (.int q2)]) (st' := []) (σ' := (zE L, M, N)) (G := []) rfl trivial ?_
      cases h
      exact jb_mask [true, true, true, true, true, false] rfl hK
    · rw [if_neg c] at h
      refine jb_seg 3 (pc' := 50) (ls' := [some (.ref 24), some (.int x1), some (.int s.1), some (.int s.2.1), some (.int s.2.2), none]) (st' := [(.int (s.2.1 - s.1))]) (σ' := (zE L, M, N)) (G := []) rfl trivial ?_
      cases h
      obtain ⟨rfl, rfl⟩ := hK
      exact jb_reti rfl rfl
theorem zg_108_H12L {Γ : jb_G} {L : Nat} {d : Nat} (hd : 3 ≤ d) (o : Nat) (x1 : Int32) (M : jb_Mi) (N : jb_Ml) (hp : o = 4 ∨ o = 24) {v : Option Value} {σ2 : jb_S} {s : Int32 × Int32 × Int32} {r : (Int32)} (h : jb_lp (zf_108_H12 o x1 M) s = some r) (hK : (fun r : Int32 => v = some (.int r) ∧ σ2 = (zE L, M, N)) r) : jb_V Γ d zq_108 12 [some (.ref o), some (.int x1), some (.int s.1), some (.int s.2.1), some (.int s.2.2), none] [] (zE L, M, N) v σ2 := by
  exact jb_lp_ind (P := fun s => jb_V Γ d zq_108 12 [some (.ref o), some (.int x1), some (.int s.1), some (.int s.2.1), some (.int s.2.2), none] [] (zE L, M, N) v σ2) (K := (fun r : Int32 => v = some (.int r) ∧ σ2 = (zE L, M, N))) (fun s r h hk => zg_108_H12 hd o x1 M N s hp h (by cases r <;> exact hk)) h hK
set_option maxRecDepth 4000 in
theorem zg_108 {Γ : jb_G} {L : Nat} {d : Nat} (hd : 3 ≤ d) (o : Nat) (x1 : Int32) (M : jb_Mi) (N : jb_Ml) (hp : o = 4 ∨ o = 24) {v : Option Value} {σ2 : jb_S} {r : (Int32)} (h : zf_108 o x1 M = some r) (hK : (fun r : Int32 => v = some (.int r) ∧ σ2 = (zE L, M, N)) r) : jb_V Γ d zq_108 0 [some (.ref o), some (.int x1), none, none, none, none] [] (zE L, M, N) v σ2 := by
  rcases hp with rfl | rfl
  · obtain ⟨d, rfl⟩ : ∃ e, d = e + 1 := ⟨d - 1, by omega⟩
    unfold zf_108 at h
    refine jb_seg 3 (pc' := 3) (ls' := [some (.ref 4), some (.int x1), none, none, none, none]) (st' := [(.int 0), (.int x1), (.ref 4)]) (σ' := (zE L, M, N)) (G := []) rfl trivial ?_
    obtain ⟨q1, h1, h⟩ := jb_bd_of h
    refine jb_callV (q' := zq_7) (As := [(.int x1), (.int 0)]) (rest := []) (σ1 := (zE L, M, N)) (v := some (.int q1)) rfl rfl zp_7 rfl (by decide) (jb_cat rfl) (Nat.le_of_ble_eq_true rfl) (Nat.le_of_ble_eq_true rfl) (Or.inl rfl) rfl (ze_7 (by omega) 4 x1 0 M N (by decide) h1) ?_
    refine jb_seg 5 (pc' := 12) (ls' := [some (.ref 4), some (.int x1), some (.int q1), some (.int q1), some (.int 1), none]) (st' := []) (σ' := (zE L, M, N)) (G := []) rfl trivial ?_
    exact jb_mask [true, true, true, true, true, false] rfl (zg_108_H12L hd 4 x1 M N (by decide) h hK)
  · obtain ⟨d, rfl⟩ : ∃ e, d = e + 1 := ⟨d - 1, by omega⟩
    unfold zf_108 at h
    refine jb_seg 3 (pc' := 3) (ls' := [some (.ref 24), some (.int x1), none, none, none, none]) (st' := [(.int 0), (.int x1), (.ref 24)]) (σ' := (zE L, M, N)) (G := []) rfl trivial ?_
    obtain ⟨q1, h1, h⟩ := jb_bd_of h
    refine jb_callV (q' := zq_7) (As := [(.int x1), (.int 0)]) (rest := []) (σ1 := (zE L, M, N)) (v := some (.int q1)) rfl rfl zp_7 rfl (by decide) (jb_cat rfl) (Nat.le_of_ble_eq_true rfl) (Nat.le_of_ble_eq_true rfl) (Or.inl rfl) rfl (ze_7 (by omega) 24 x1 0 M N (by decide) h1) ?_
    refine jb_seg 5 (pc' := 12) (ls' := [some (.ref 24), some (.int x1), some (.int q1), some (.int q1), some (.int 1), none]) (st' := []) (σ' := (zE L, M, N)) (G := []) rfl trivial ?_
    exact jb_mask [true, true, true, true, true, false] rfl (zg_108_H12L hd 24 x1 M N (by decide) h hK)
theorem ze_108 {Γ : jb_G} {L : Nat} {d : Nat} (hd : 3 ≤ d) (o : Nat) (x1 : Int32) (M : jb_Mi) (N : jb_Ml) (hp : o = 4 ∨ o = 24) {r : (Int32)} (h : zf_108 o x1 M = some r) : jb_V Γ d zq_108 0 (jb_en 6 [(.ref o), (.int x1)]) [] (zE L, M, N) (some (.int r)) (zE L, M, N) := zg_108 hd o x1 M N hp h ⟨rfl, rfl⟩
-- X9_heaviestCorner
noncomputable def zf_109_J35 (o : Nat) (x1 : Int32) (x2 : Int32) (x3 : Int32) (M : jb_Mi) : Option ((Int32 × Int32 × Int32) ⊕ (Int32)) :=
  some (.inl (x1, x2, (x3 + 1)))
noncomputable def zf_109_H6 (o : Nat) (M : jb_Mi) (s : Int32 × Int32 × Int32) : Option ((Int32 × Int32 × Int32) ⊕ (Int32)) :=
  if s.2.2 < 24 then (zf_7 o (s.2.2 / 4) (s.2.2 - s.2.2 / 4 * 4) M).bind fun q1 => if s.2.1 < q1 then zf_109_J35 o s.2.2 q1 s.2.2 M else zf_109_J35 o s.1 s.2.1 s.2.2 M else some (.inr s.1)
noncomputable def zf_109 (o : Nat) (M : jb_Mi) : Option (Int32) :=
  jb_lp (zf_109_H6 o M) ((-1), 0, 0)
set_option maxRecDepth 4000 in
theorem zg_109_J35 {Γ : jb_G} {L : Nat} {d : Nat} (hd : 3 ≤ d) (o : Nat) (x1 : Int32) (x2 : Int32) (x3 : Int32) (M : jb_Mi) (N : jb_Ml) (hp : o = 4 ∨ o = 24) {v : Option Value} {σ2 : jb_S} {r : ((Int32 × Int32 × Int32) ⊕ (Int32))} (h : zf_109_J35 o x1 x2 x3 M = some r) (hK : (jb_K (fun s : Int32 × Int32 × Int32 => jb_V Γ d zq_109 6 [some (.ref o), some (.int s.1), some (.int s.2.1), some (.int s.2.2), none] [] (zE L, M, N) v σ2) (fun r : Int32 => v = some (.int r) ∧ σ2 = (zE L, M, N))) r) : jb_V Γ d zq_109 35 [some (.ref o), some (.int x1), some (.int x2), some (.int x3), none] [] (zE L, M, N) v σ2 := by
  rcases hp with rfl | rfl
  · obtain ⟨d, rfl⟩ : ∃ e, d = e + 1 := ⟨d - 1, by omega⟩
    unfold zf_109_J35 at h
    refine jb_seg 2 (pc' := 6) (ls' := [some (.ref 4), some (.int x1), some (.int x2), some (.int (x3 + 1)), none]) (st' := []) (σ' := (zE L, M, N)) (G := []) rfl trivial ?_
    cases h
    exact jb_mask [true, true, true, true, false] rfl hK
  · obtain ⟨d, rfl⟩ : ∃ e, d = e + 1 := ⟨d - 1, by omega⟩
    unfold zf_109_J35 at h
    refine jb_seg 2 (pc' := 6) (ls' := [some (.ref 24), some (.int x1), some (.int x2), some (.int (x3 + 1)), none]) (st' := []) (σ' := (zE L, M, N)) (G := []) rfl trivial ?_
    cases h
    exact jb_mask [true, true, true, true, false] rfl hK
set_option maxRecDepth 4000 in
theorem zg_109_H6 {Γ : jb_G} {L : Nat} {d : Nat} (hd : 3 ≤ d) (o : Nat) (M : jb_Mi) (N : jb_Ml) (s : Int32 × Int32 × Int32) (hp : o = 4 ∨ o = 24) {v : Option Value} {σ2 : jb_S} {r : ((Int32 × Int32 × Int32) ⊕ (Int32))} (h : zf_109_H6 o M s = some r) (hK : (jb_K (fun s : Int32 × Int32 × Int32 => jb_V Γ d zq_109 6 [some (.ref o), some (.int s.1), some (.int s.2.1), some (.int s.2.2), none] [] (zE L, M, N) v σ2) (fun r : Int32 => v = some (.int r) ∧ σ2 = (zE L, M, N))) r) : jb_V Γ d zq_109 6 [some (.ref o), some (.int s.1), some (.int s.2.1), some (.int s.2.2), none] [] (zE L, M, N) v σ2 := by
  rcases hp with rfl | rfl
  · obtain ⟨d, rfl⟩ : ∃ e, d = e + 1 := ⟨d - 1, by omega⟩
    unfold zf_109_H6 at h
    refine jb_seg 3 (pc' := (if s.2.2 < 24 then 12 else 41)) (ls' := [some (.ref 4), some (.int s.1), some (.int s.2.1), some (.int s.2.2), none]) (st' := []) (σ' := (zE L, M, N)) (G := []) rfl trivial ?_
    refine jb_ite (fun c => ?_) (fun c => ?_)
    · rw [if_pos c] at h
      refine jb_seg 7 (pc' := 19) (ls' := [some (.ref 4), some (.int s.1), some (.int s.2.1), some (.int s.2.2), none]) (st' := [(.int (s.2.2 - s.2.2 / 4 * 4)), (.int (s.2.2 / 4)), (.ref 4)]) (σ' := (zE L, M, N)) (G := [¬ (4 : Int32) = 0, ¬ (4 : Int32) = 0]) rfl ⟨(show ¬ (4 : Int32) = 0 from (by decide)), (show ¬ (4 : Int32) = 0 from (by decide))⟩ ?_
      obtain ⟨q1, h1, h⟩ := jb_bd_of h
      refine jb_callV (q' := zq_7) (As := [(.int (s.2.2 / 4)), (.int (s.2.2 - s.2.2 / 4 * 4))]) (rest := []) (σ1 := (zE L, M, N)) (v := some (.int q1)) rfl rfl zp_7 rfl (by decide) (jb_cat rfl) (Nat.le_of_ble_eq_true rfl) (Nat.le_of_ble_eq_true rfl) (Or.inl rfl) rfl (ze_7 (by omega) 4 (s.2.2 / 4) (s.2.2 - s.2.2 / 4 * 4) M N (by decide) h1) ?_
      refine jb_seg 4 (pc' := (if s.2.1 < q1 then 30 else 35)) (ls' := [some (.ref 4), some (.int s.1), some (.int s.2.1), some (.int s.2.2), some (.int q1)]) (st' := []) (σ' := (zE L, M, N)) (G := []) rfl trivial ?_
      refine jb_ite (fun c => ?_) (fun c => ?_)
      · rw [if_pos c] at h
        refine jb_seg 4 (pc' := 35) (ls' := [some (.ref 4), some (.int s.2.2), some (.int q1), some (.int s.2.2), some (.int q1)]) (st' := []) (σ' := (zE L, M, N)) (G := []) rfl trivial ?_
        exact jb_mask [true, true, true, true, false] rfl (zg_109_J35 hd 4 s.2.2 q1 s.2.2 M N (by decide) h hK)
      · rw [if_neg c] at h
        exact jb_mask [true, true, true, true, false] rfl (zg_109_J35 hd 4 s.1 s.2.1 s.2.2 M N (by decide) h hK)
    · rw [if_neg c] at h
      refine jb_seg 1 (pc' := 42) (ls' := [some (.ref 4), some (.int s.1), some (.int s.2.1), some (.int s.2.2), none]) (st' := [(.int s.1)]) (σ' := (zE L, M, N)) (G := []) rfl trivial ?_
      cases h
      obtain ⟨rfl, rfl⟩ := hK
      exact jb_reti rfl rfl
  · obtain ⟨d, rfl⟩ : ∃ e, d = e + 1 := ⟨d - 1, by omega⟩
    unfold zf_109_H6 at h
    refine jb_seg 3 (pc' := (if s.2.2 < 24 then 12 else 41)) (ls' := [some (.ref 24), some (.int s.1), some (.int s.2.1), some (.int s.2.2), none]) (st' := []) (σ' := (zE L, M, N)) (G := []) rfl trivial ?_
    refine jb_ite (fun c => ?_) (fun c => ?_)
    · rw [if_pos c] at h
      refine jb_seg 7 (pc' := 19) (ls' := [some (.ref 24), some (.int s.1), some (.int s.2.1), some (.int s.2.2), none]) (st' := [(.int (s.2.2 - s.2.2 / 4 * 4)), (.int (s.2.2 / 4)), (.ref 24)]) (σ' := (zE L, M, N)) (G := [¬ (4 : Int32) = 0, ¬ (4 : Int32) = 0]) rfl ⟨(show ¬ (4 : Int32) = 0 from (by decide)), (show ¬ (4 : Int32) = 0 from (by decide))⟩ ?_
      obtain ⟨q1, h1, h⟩ := jb_bd_of h
      refine jb_callV (q' := zq_7) (As := [(.int (s.2.2 / 4)), (.int (s.2.2 - s.2.2 / 4 * 4))]) (rest := []) (σ1 := (zE L, M, N)) (v := some (.int q1)) rfl rfl zp_7 rfl (by decide) (jb_cat rfl) (Nat.le_of_ble_eq_true rfl) (Nat.le_of_ble_eq_true rfl) (Or.inl rfl) rfl (ze_7 (by omega) 24 (s.2.2 / 4) (s.2.2 - s.2.2 / 4 * 4) M N (by decide) h1) ?_
      refine jb_seg 4 (pc' := (if s.2.1 < q1 then 30 else 35)) (ls' := [some (.ref 24), some (.int s.1), some (.int s.2.1), some (.int s.2.2), some (.int q1)]) (st' := []) (σ' := (zE L, M, N)) (G := []) rfl trivial ?_
      refine jb_ite (fun c => ?_) (fun c => ?_)
      · rw [if_pos c] at h
        refine jb_seg 4 (pc' := 35) (ls' := [some (.ref 24), some (.int s.2.2), some (.int q1), some (.int s.2.2), some (.int q1)]) (st' := []) (σ' := (zE L, M, N)) (G := []) rfl trivial ?_
        exact jb_mask [true, true, true, true, false] rfl (zg_109_J35 hd 24 s.2.2 q1 s.2.2 M N (by decide) h hK)
      · rw [if_neg c] at h
        exact jb_mask [true, true, true, true, false] rfl (zg_109_J35 hd 24 s.1 s.2.1 s.2.2 M N (by decide) h hK)
    · rw [if_neg c] at h
      refine jb_seg 1 (pc' := 42) (ls' := [some (.ref 24), some (.int s.1), some (.int s.2.1), some (.int s.2.2), none]) (st' := [(.int s.1)]) (σ' := (zE L, M, N)) (G := []) rfl trivial ?_
      cases h
      obtain ⟨rfl, rfl⟩ := hK
      exact jb_reti rfl rfl
theorem zg_109_H6L {Γ : jb_G} {L : Nat} {d : Nat} (hd : 3 ≤ d) (o : Nat) (M : jb_Mi) (N : jb_Ml) (hp : o = 4 ∨ o = 24) {v : Option Value} {σ2 : jb_S} {s : Int32 × Int32 × Int32} {r : (Int32)} (h : jb_lp (zf_109_H6 o M) s = some r) (hK : (fun r : Int32 => v = some (.int r) ∧ σ2 = (zE L, M, N)) r) : jb_V Γ d zq_109 6 [some (.ref o), some (.int s.1), some (.int s.2.1), some (.int s.2.2), none] [] (zE L, M, N) v σ2 := by
  exact jb_lp_ind (P := fun s => jb_V Γ d zq_109 6 [some (.ref o), some (.int s.1), some (.int s.2.1), some (.int s.2.2), none] [] (zE L, M, N) v σ2) (K := (fun r : Int32 => v = some (.int r) ∧ σ2 = (zE L, M, N))) (fun s r h hk => zg_109_H6 hd o M N s hp h (by cases r <;> exact hk)) h hK
set_option maxRecDepth 4000 in
theorem zg_109 {Γ : jb_G} {L : Nat} {d : Nat} (hd : 3 ≤ d) (o : Nat) (M : jb_Mi) (N : jb_Ml) (hp : o = 4 ∨ o = 24) {v : Option Value} {σ2 : jb_S} {r : (Int32)} (h : zf_109 o M = some r) (hK : (fun r : Int32 => v = some (.int r) ∧ σ2 = (zE L, M, N)) r) : jb_V Γ d zq_109 0 [some (.ref o), none, none, none, none] [] (zE L, M, N) v σ2 := by
  rcases hp with rfl | rfl
  · obtain ⟨d, rfl⟩ : ∃ e, d = e + 1 := ⟨d - 1, by omega⟩
    unfold zf_109 at h
    refine jb_seg 6 (pc' := 6) (ls' := [some (.ref 4), some (.int (-1)), some (.int 0), some (.int 0), none]) (st' := []) (σ' := (zE L, M, N)) (G := []) rfl trivial ?_
    exact jb_mask [true, true, true, true, false] rfl (zg_109_H6L hd 4 M N (by decide) h hK)
  · obtain ⟨d, rfl⟩ : ∃ e, d = e + 1 := ⟨d - 1, by omega⟩
    unfold zf_109 at h
    refine jb_seg 6 (pc' := 6) (ls' := [some (.ref 24), some (.int (-1)), some (.int 0), some (.int 0), none]) (st' := []) (σ' := (zE L, M, N)) (G := []) rfl trivial ?_
    exact jb_mask [true, true, true, true, false] rfl (zg_109_H6L hd 24 M N (by decide) h hK)
theorem ze_109 {Γ : jb_G} {L : Nat} {d : Nat} (hd : 3 ≤ d) (o : Nat) (M : jb_Mi) (N : jb_Ml) (hp : o = 4 ∨ o = 24) {r : (Int32)} (h : zf_109 o M = some r) : jb_V Γ d zq_109 0 (jb_en 5 [(.ref o)]) [] (zE L, M, N) (some (.int r)) (zE L, M, N) := zg_109 hd o M N hp h ⟨rfl, rfl⟩
-- X9_isOver
noncomputable def zf_110 (o : Nat) (M : jb_Mi) : Bool :=
  if (M o 10) < 9999 then false else if (M o 9) < 23 then false else true
set_option maxRecDepth 4000 in
theorem zg_110 {Γ : jb_G} {L : Nat} {d : Nat} (o : Nat) (M : jb_Mi) (N : jb_Ml) (hp : o = 4 ∨ o = 24) {v : Option Value} {σ2 : jb_S} {r : Bool} (h : zf_110 o M = r) (hK : (fun r : Bool => v = some (.int (jb_b2i r)) ∧ σ2 = (zE L, M, N)) r) : jb_V Γ d zq_110 0 [some (.ref o)] [] (zE L, M, N) v σ2 := by
  rcases hp with rfl | rfl
  · unfold zf_110 at h
    refine jb_seg 4 (pc' := (if (M 4 10) < 9999 then 23 else 10)) (ls' := [some (.ref 4)]) (st' := []) (σ' := (zE L, M, N)) (G := []) rfl trivial ?_
    refine jb_ite (fun c => ?_) (fun c => ?_)
    · rw [if_pos c] at h
      refine jb_seg 1 (pc' := 24) (ls' := [some (.ref 4)]) (st' := [(.int 0)]) (σ' := (zE L, M, N)) (G := []) rfl trivial ?_
      subst h
      obtain ⟨rfl, rfl⟩ := hK
      exact jb_retz (by decide) rfl rfl
    · rw [if_neg c] at h
      refine jb_seg 4 (pc' := (if (M 4 9) < 23 then 23 else 19)) (ls' := [some (.ref 4)]) (st' := []) (σ' := (zE L, M, N)) (G := []) rfl trivial ?_
      refine jb_ite (fun c => ?_) (fun c => ?_)
      · rw [if_pos c] at h
        refine jb_seg 1 (pc' := 24) (ls' := [some (.ref 4)]) (st' := [(.int 0)]) (σ' := (zE L, M, N)) (G := []) rfl trivial ?_
        subst h
        obtain ⟨rfl, rfl⟩ := hK
        exact jb_retz (by decide) rfl rfl
      · rw [if_neg c] at h
        refine jb_seg 2 (pc' := 24) (ls' := [some (.ref 4)]) (st' := [(.int 1)]) (σ' := (zE L, M, N)) (G := []) rfl trivial ?_
        subst h
        obtain ⟨rfl, rfl⟩ := hK
        exact jb_retz (by decide) rfl rfl
  · unfold zf_110 at h
    refine jb_seg 4 (pc' := (if (M 24 10) < 9999 then 23 else 10)) (ls' := [some (.ref 24)]) (st' := []) (σ' := (zE L, M, N)) (G := []) rfl trivial ?_
    refine jb_ite (fun c => ?_) (fun c => ?_)
    · rw [if_pos c] at h
      refine jb_seg 1 (pc' := 24) (ls' := [some (.ref 24)]) (st' := [(.int 0)]) (σ' := (zE L, M, N)) (G := []) rfl trivial ?_
      subst h
      obtain ⟨rfl, rfl⟩ := hK
      exact jb_retz (by decide) rfl rfl
    · rw [if_neg c] at h
      refine jb_seg 4 (pc' := (if (M 24 9) < 23 then 23 else 19)) (ls' := [some (.ref 24)]) (st' := []) (σ' := (zE L, M, N)) (G := []) rfl trivial ?_
      refine jb_ite (fun c => ?_) (fun c => ?_)
      · rw [if_pos c] at h
        refine jb_seg 1 (pc' := 24) (ls' := [some (.ref 24)]) (st' := [(.int 0)]) (σ' := (zE L, M, N)) (G := []) rfl trivial ?_
        subst h
        obtain ⟨rfl, rfl⟩ := hK
        exact jb_retz (by decide) rfl rfl
      · rw [if_neg c] at h
        refine jb_seg 2 (pc' := 24) (ls' := [some (.ref 24)]) (st' := [(.int 1)]) (σ' := (zE L, M, N)) (G := []) rfl trivial ?_
        subst h
        obtain ⟨rfl, rfl⟩ := hK
        exact jb_retz (by decide) rfl rfl
theorem ze_110 {Γ : jb_G} {L : Nat} {d : Nat} (o : Nat) (M : jb_Mi) (N : jb_Ml) (hp : o = 4 ∨ o = 24) {r : Bool} (h : zf_110 o M = r) : jb_V Γ d zq_110 0 (jb_en 1 [(.ref o)]) [] (zE L, M, N) (some (.int (jb_b2i r))) (zE L, M, N) := zg_110 o M N hp h ⟨rfl, rfl⟩
-- X9_tick
noncomputable def zf_111 (o : Nat) (M : jb_Mi) : jb_Mi :=
  if ((jb_up M o 9 ((M o 9) + 1)) o 9) < 24 then (jb_up M o 9 ((M o 9) + 1)) else (jb_up (jb_up (jb_up M o 9 ((M o 9) + 1)) o 9 0) o 10 (((jb_up (jb_up M o 9 ((M o 9) + 1)) o 9 0) o 10) + 1))
set_option maxRecDepth 4000 in
theorem zg_111 {Γ : jb_G} {L : Nat} {d : Nat} (o : Nat) (M : jb_Mi) (N : jb_Ml) (hp : o = 4 ∨ o = 24) {v : Option Value} {σ2 : jb_S} {r : jb_Mi} (h : zf_111 o M = r) (hK : (fun r : jb_Mi => v = none ∧ σ2 = (zE L, r, N)) r) : jb_V Γ d zq_111 0 [some (.ref o)] [] (zE L, M, N) v σ2 := by
  rcases hp with rfl | rfl
  · unfold zf_111 at h
    refine jb_seg 10 (pc' := (if ((jb_up M 4 9 ((M 4 9) + 1)) 4 9) < 24 then 34 else 19)) (ls' := [some (.ref 4)]) (st' := []) (σ' := (zE L, (jb_up M 4 9 ((M 4 9) + 1)), N)) (G := []) rfl trivial ?_
    refine jb_ite (fun c => ?_) (fun c => ?_)
    · rw [if_pos c] at h
      subst h
      obtain ⟨rfl, rfl⟩ := hK
      exact jb_retv rfl rfl
    · rw [if_neg c] at h
      refine jb_seg 9 (pc' := 34) (ls' := [some (.ref 4)]) (st' := []) (σ' := (zE L, (jb_up (jb_up (jb_up M 4 9 ((M 4 9) + 1)) 4 9 0) 4 10 (((jb_up (jb_up M 4 9 ((M 4 9) + 1)) 4 9 0) 4 10) + 1)), N)) (G := []) rfl trivial ?_
      subst h
      obtain ⟨rfl, rfl⟩ := hK
      exact jb_retv rfl rfl
  · unfold zf_111 at h
    refine jb_seg 10 (pc' := (if ((jb_up M 24 9 ((M 24 9) + 1)) 24 9) < 24 then 34 else 19)) (ls' := [some (.ref 24)]) (st' := []) (σ' := (zE L, (jb_up M 24 9 ((M 24 9) + 1)), N)) (G := []) rfl trivial ?_
    refine jb_ite (fun c => ?_) (fun c => ?_)
    · rw [if_pos c] at h
      subst h
      obtain ⟨rfl, rfl⟩ := hK
      exact jb_retv rfl rfl
    · rw [if_neg c] at h
      refine jb_seg 9 (pc' := 34) (ls' := [some (.ref 24)]) (st' := []) (σ' := (zE L, (jb_up (jb_up (jb_up M 24 9 ((M 24 9) + 1)) 24 9 0) 24 10 (((jb_up (jb_up M 24 9 ((M 24 9) + 1)) 24 9 0) 24 10) + 1)), N)) (G := []) rfl trivial ?_
      subst h
      obtain ⟨rfl, rfl⟩ := hK
      exact jb_retv rfl rfl
theorem ze_111 {Γ : jb_G} {L : Nat} {d : Nat} (o : Nat) (M : jb_Mi) (N : jb_Ml) (hp : o = 4 ∨ o = 24) {r : jb_Mi} (h : zf_111 o M = r) : jb_V Γ d zq_111 0 (jb_en 1 [(.ref o)]) [] (zE L, M, N) (none) (zE L, r, N) := zg_111 o M N hp h ⟨rfl, rfl⟩
-- X9_draw
noncomputable def zf_112 (o : Nat) (M : jb_Mi) : Int32 × jb_Mi :=
  ((((jb_up M o 11 (((25173 * (M o 11)) + 13849) - ((25173 * (M o 11)) + 13849) / 65536 * 65536)) o 11) - ((jb_up M o 11 (((25173 * (M o 11)) + 13849) - ((25173 * (M o 11)) + 13849) / 65536 * 65536)) o 11) / 10 * 10), (jb_up M o 11 (((25173 * (M o 11)) + 13849) - ((25173 * (M o 11)) + 13849) / 65536 * 65536)))
set_option maxRecDepth 4000 in
theorem zg_112 {Γ : jb_G} {L : Nat} {d : Nat} (o : Nat) (M : jb_Mi) (N : jb_Ml) (hp : o = 4 ∨ o = 24) {v : Option Value} {σ2 : jb_S} {r : Int32 × jb_Mi} (h : zf_112 o M = r) (hK : (fun r : Int32 × jb_Mi => v = some (.int r.1) ∧ σ2 = (zE L, r.2, N)) r) : jb_V Γ d zq_112 0 [some (.ref o)] [] (zE L, M, N) v σ2 := by
  rcases hp with rfl | rfl
  · unfold zf_112 at h
    refine jb_seg 14 (pc' := 26) (ls' := [some (.ref 4)]) (st' := [(.int (((jb_up M 4 11 (((25173 * (M 4 11)) + 13849) - ((25173 * (M 4 11)) + 13849) / 65536 * 65536)) 4 11) - ((jb_up M 4 11 (((25173 * (M 4 11)) + 13849) - ((25173 * (M 4 11)) + 13849) / 65536 * 65536)) 4 11) / 10 * 10))]) (σ' := (zE L, (jb_up M 4 11 (((25173 * (M 4 11)) + 13849) - ((25173 * (M 4 11)) + 13849) / 65536 * 65536)), N)) (G := [¬ (65536 : Int32) = 0, ¬ (10 : Int32) = 0]) rfl ⟨(show ¬ (65536 : Int32) = 0 from (by decide)), (show ¬ (10 : Int32) = 0 from (by decide))⟩ ?_
    subst h
    obtain ⟨rfl, rfl⟩ := hK
    exact jb_reti rfl rfl
  · unfold zf_112 at h
    refine jb_seg 14 (pc' := 26) (ls' := [some (.ref 24)]) (st' := [(.int (((jb_up M 24 11 (((25173 * (M 24 11)) + 13849) - ((25173 * (M 24 11)) + 13849) / 65536 * 65536)) 24 11) - ((jb_up M 24 11 (((25173 * (M 24 11)) + 13849) - ((25173 * (M 24 11)) + 13849) / 65536 * 65536)) 24 11) / 10 * 10))]) (σ' := (zE L, (jb_up M 24 11 (((25173 * (M 24 11)) + 13849) - ((25173 * (M 24 11)) + 13849) / 65536 * 65536)), N)) (G := [¬ (65536 : Int32) = 0, ¬ (10 : Int32) = 0]) rfl ⟨(show ¬ (65536 : Int32) = 0 from (by decide)), (show ¬ (10 : Int32) = 0 from (by decide))⟩ ?_
    subst h
    obtain ⟨rfl, rfl⟩ := hK
    exact jb_reti rfl rfl
theorem ze_112 {Γ : jb_G} {L : Nat} {d : Nat} (o : Nat) (M : jb_Mi) (N : jb_Ml) (hp : o = 4 ∨ o = 24) {r : Int32 × jb_Mi} (h : zf_112 o M = r) : jb_V Γ d zq_112 0 (jb_en 1 [(.ref o)]) [] (zE L, M, N) (some (.int r.1)) (zE L, r.2, N) := zg_112 o M N hp h ⟨rfl, rfl⟩
-- X10_hasRoom
noncomputable def zf_114 (M : jb_Mi) : Bool :=
  if 260 < ((M 2 1) + 20) then false else true
set_option maxRecDepth 4000 in
theorem zg_114 {Γ : jb_G} {L : Nat} {d : Nat} (M : jb_Mi) (N : jb_Ml) {v : Option Value} {σ2 : jb_S} {r : Bool} (h : zf_114 M = r) (hK : (fun r : Bool => v = some (.int (jb_b2i r)) ∧ σ2 = (zE L, M, N)) r) : jb_V Γ d zq_114 0 [some (.ref 2)] [] (zE L, M, N) v σ2 := by
  unfold zf_114 at h
  refine jb_seg 6 (pc' := (if 260 < ((M 2 1) + 20) then 17 else 13)) (ls' := [some (.ref 2)]) (st' := []) (σ' := (zE L, M, N)) (G := []) rfl trivial ?_
  refine jb_ite (fun c => ?_) (fun c => ?_)
  · rw [if_pos c] at h
    refine jb_seg 1 (pc' := 18) (ls' := [some (.ref 2)]) (st' := [(.int 0)]) (σ' := (zE L, M, N)) (G := []) rfl trivial ?_
    subst h
    obtain ⟨rfl, rfl⟩ := hK
    exact jb_retz (by decide) rfl rfl
  · rw [if_neg c] at h
    refine jb_seg 2 (pc' := 18) (ls' := [some (.ref 2)]) (st' := [(.int 1)]) (σ' := (zE L, M, N)) (G := []) rfl trivial ?_
    subst h
    obtain ⟨rfl, rfl⟩ := hK
    exact jb_retz (by decide) rfl rfl
theorem ze_114 {Γ : jb_G} {L : Nat} {d : Nat} (M : jb_Mi) (N : jb_Ml) {r : Bool} (h : zf_114 M = r) : jb_V Γ d zq_114 0 (jb_en 1 [(.ref 2)]) [] (zE L, M, N) (some (.int (jb_b2i r))) (zE L, M, N) := zg_114 M N h ⟨rfl, rfl⟩
-- X10_put
noncomputable def zf_115_J43 (x1 : Int32) (x2 : Int32) (M : jb_Mi) : Option ((Int32 × jb_Mi) ⊕ (jb_Mi)) :=
  some (.inl ((x2 + (-8)), M))
noncomputable def zf_115_H3 (x1 : Int32) (s : Int32 × jb_Mi) : Option ((Int32 × jb_Mi) ⊕ (jb_Mi)) :=
  if s.1 < 0 then some (.inr s.2) else if (s.2 2 1) < 260 then jb_gd (s.2 2 1) 260 (zf_115_J43 x1 s.1 (jb_up (jb_up s.2 3 ((s.2 2 1)).toNatClampNeg (((x1 : Int32).toUInt32 >>> ((s.1 : Int32).toUInt32 &&& Int32.toUInt32 31)).toInt32 &&& 255)) 2 1 (((jb_up s.2 3 ((s.2 2 1)).toNatClampNeg (((x1 : Int32).toUInt32 >>> ((s.1 : Int32).toUInt32 &&& Int32.toUInt32 31)).toInt32 &&& 255)) 2 1) + 1))) else zf_115_J43 x1 s.1 s.2
noncomputable def zf_115 (x1 : Int32) (M : jb_Mi) : Option (jb_Mi) :=
  jb_lp (zf_115_H3 x1) (24, M)
set_option maxRecDepth 4000 in
theorem zg_115_J43 {Γ : jb_G} {L : Nat} {d : Nat} (x1 : Int32) (x2 : Int32) (M : jb_Mi) (N : jb_Ml) {v : Option Value} {σ2 : jb_S} {r : ((Int32 × jb_Mi) ⊕ (jb_Mi))} (h : zf_115_J43 x1 x2 M = some r) (hK : (jb_K (fun s : Int32 × jb_Mi => jb_V Γ d zq_115 3 [some (.ref 2), some (.int x1), some (.int s.1)] [] (zE L, s.2, N) v σ2) (fun r : jb_Mi => v = none ∧ σ2 = (zE L, r, N))) r) : jb_V Γ d zq_115 43 [some (.ref 2), some (.int x1), some (.int x2)] [] (zE L, M, N) v σ2 := by
  unfold zf_115_J43 at h
  refine jb_seg 2 (pc' := 3) (ls' := [some (.ref 2), some (.int x1), some (.int (x2 + (-8)))]) (st' := []) (σ' := (zE L, M, N)) (G := []) rfl trivial ?_
  cases h
  exact jb_mask [true, true, true] rfl hK
set_option maxRecDepth 4000 in
theorem zg_115_H3 {Γ : jb_G} {L : Nat} {d : Nat} (x1 : Int32) (N : jb_Ml) (s : Int32 × jb_Mi) {v : Option Value} {σ2 : jb_S} {r : ((Int32 × jb_Mi) ⊕ (jb_Mi))} (h : zf_115_H3 x1 s = some r) (hK : (jb_K (fun s : Int32 × jb_Mi => jb_V Γ d zq_115 3 [some (.ref 2), some (.int x1), some (.int s.1)] [] (zE L, s.2, N) v σ2) (fun r : jb_Mi => v = none ∧ σ2 = (zE L, r, N))) r) : jb_V Γ d zq_115 3 [some (.ref 2), some (.int x1), some (.int s.1)] [] (zE L, s.2, N) v σ2 := by
  unfold zf_115_H3 at h
  refine jb_seg 2 (pc' := (if s.1 < 0 then 49 else 7)) (ls' := [some (.ref 2), some (.int x1), some (.int s.1)]) (st' := []) (σ' := (zE L, s.2, N)) (G := []) rfl trivial ?_
  refine jb_ite (fun c => ?_) (fun c => ?_)
  · rw [if_pos c] at h
    cases h
    obtain ⟨rfl, rfl⟩ := hK
    exact jb_retv rfl rfl
  · rw [if_neg c] at h
    refine jb_seg 4 (pc' := (if (s.2 2 1) < 260 then 17 else 43)) (ls' := [some (.ref 2), some (.int x1), some (.int s.1)]) (st' := []) (σ' := (zE L, s.2, N)) (G := []) rfl trivial ?_
    refine jb_ite (fun c => ?_) (fun c => ?_)
    · rw [if_pos c] at h
      obtain ⟨g1, h⟩ := jb_gd_of h
      refine jb_seg 16 (pc' := 43) (ls' := [some (.ref 2), some (.int x1), some (.int s.1)]) (st' := []) (σ' := (zE L, (jb_up (jb_up s.2 3 ((s.2 2 1)).toNatClampNeg (((x1 : Int32).toUInt32 >>> ((s.1 : Int32).toUInt32 &&& Int32.toUInt32 31)).toInt32 &&& 255)) 2 1 (((jb_up s.2 3 ((s.2 2 1)).toNatClampNeg (((x1 : Int32).toUInt32 >>> ((s.1 : Int32).toUInt32 &&& Int32.toUInt32 31)).toInt32 &&& 255)) 2 1) + 1)), N)) (G := [vp_in (s.2 2 1) 260]) rfl g1 ?_
      exact jb_mask [true, true, true] rfl (zg_115_J43 x1 s.1 (jb_up (jb_up s.2 3 ((s.2 2 1)).toNatClampNeg (((x1 : Int32).toUInt32 >>> ((s.1 : Int32).toUInt32 &&& Int32.toUInt32 31)).toInt32 &&& 255)) 2 1 (((jb_up s.2 3 ((s.2 2 1)).toNatClampNeg (((x1 : Int32).toUInt32 >>> ((s.1 : Int32).toUInt32 &&& Int32.toUInt32 31)).toInt32 &&& 255)) 2 1) + 1)) N h hK)
    · rw [if_neg c] at h
      exact jb_mask [true, true, true] rfl (zg_115_J43 x1 s.1 s.2 N h hK)
theorem zg_115_H3L {Γ : jb_G} {L : Nat} {d : Nat} (x1 : Int32) (N : jb_Ml) {v : Option Value} {σ2 : jb_S} {s : Int32 × jb_Mi} {r : (jb_Mi)} (h : jb_lp (zf_115_H3 x1) s = some r) (hK : (fun r : jb_Mi => v = none ∧ σ2 = (zE L, r, N)) r) : jb_V Γ d zq_115 3 [some (.ref 2), some (.int x1), some (.int s.1)] [] (zE L, s.2, N) v σ2 := by
  exact jb_lp_ind (P := fun s => jb_V Γ d zq_115 3 [some (.ref 2), some (.int x1), some (.int s.1)] [] (zE L, s.2, N) v σ2) (K := (fun r : jb_Mi => v = none ∧ σ2 = (zE L, r, N))) (fun s r h hk => zg_115_H3 x1 N s h (by cases r <;> exact hk)) h hK
set_option maxRecDepth 4000 in
theorem zg_115 {Γ : jb_G} {L : Nat} {d : Nat} (x1 : Int32) (M : jb_Mi) (N : jb_Ml) {v : Option Value} {σ2 : jb_S} {r : (jb_Mi)} (h : zf_115 x1 M = some r) (hK : (fun r : jb_Mi => v = none ∧ σ2 = (zE L, r, N)) r) : jb_V Γ d zq_115 0 [some (.ref 2), some (.int x1), none] [] (zE L, M, N) v σ2 := by
  unfold zf_115 at h
  refine jb_seg 2 (pc' := 3) (ls' := [some (.ref 2), some (.int x1), some (.int 24)]) (st' := []) (σ' := (zE L, M, N)) (G := []) rfl trivial ?_
  exact jb_mask [true, true, true] rfl (zg_115_H3L x1 N h hK)
theorem ze_115 {Γ : jb_G} {L : Nat} {d : Nat} (x1 : Int32) (M : jb_Mi) (N : jb_Ml) {r : (jb_Mi)} (h : zf_115 x1 M = some r) : jb_V Γ d zq_115 0 (jb_en 3 [(.ref 2), (.int x1)]) [] (zE L, M, N) (none) (zE L, r, N) := zg_115 x1 M N h ⟨rfl, rfl⟩
-- X10_offers
noncomputable def zf_116 (x1 : Int32) (M : jb_Mi) : Bool :=
  if (M 2 1) < x1 then false else true
set_option maxRecDepth 4000 in
theorem zg_116 {Γ : jb_G} {L : Nat} {d : Nat} (x1 : Int32) (M : jb_Mi) (N : jb_Ml) {v : Option Value} {σ2 : jb_S} {r : Bool} (h : zf_116 x1 M = r) (hK : (fun r : Bool => v = some (.int (jb_b2i r)) ∧ σ2 = (zE L, M, N)) r) : jb_V Γ d zq_116 0 [some (.ref 2), some (.int x1)] [] (zE L, M, N) v σ2 := by
  unfold zf_116 at h
  refine jb_seg 4 (pc' := (if (M 2 1) < x1 then 12 else 8)) (ls' := [some (.ref 2), some (.int x1)]) (st' := []) (σ' := (zE L, M, N)) (G := []) rfl trivial ?_
  refine jb_ite (fun c => ?_) (fun c => ?_)
  · rw [if_pos c] at h
    refine jb_seg 1 (pc' := 13) (ls' := [some (.ref 2), some (.int x1)]) (st' := [(.int 0)]) (σ' := (zE L, M, N)) (G := []) rfl trivial ?_
    subst h
    obtain ⟨rfl, rfl⟩ := hK
    exact jb_retz (by decide) rfl rfl
  · rw [if_neg c] at h
    refine jb_seg 2 (pc' := 13) (ls' := [some (.ref 2), some (.int x1)]) (st' := [(.int 1)]) (σ' := (zE L, M, N)) (G := []) rfl trivial ?_
    subst h
    obtain ⟨rfl, rfl⟩ := hK
    exact jb_retz (by decide) rfl rfl
theorem ze_116 {Γ : jb_G} {L : Nat} {d : Nat} (x1 : Int32) (M : jb_Mi) (N : jb_Ml) {r : Bool} (h : zf_116 x1 M = r) : jb_V Γ d zq_116 0 (jb_en 2 [(.ref 2), (.int x1)]) [] (zE L, M, N) (some (.int (jb_b2i r))) (zE L, M, N) := zg_116 x1 M N h ⟨rfl, rfl⟩
-- X10_cut
noncomputable def zf_117 (x1 : Int32) (M : jb_Mi) : jb_Mi :=
  (jb_up M 2 1 (zf_271 0 (zf_272 (M 2 1) x1)))
set_option maxRecDepth 4000 in
theorem zg_117 {Γ : jb_G} {L : Nat} {d : Nat} (hd : 1 ≤ d) (x1 : Int32) (M : jb_Mi) (N : jb_Ml) {v : Option Value} {σ2 : jb_S} {r : jb_Mi} (h : zf_117 x1 M = r) (hK : (fun r : jb_Mi => v = none ∧ σ2 = (zE L, r, N)) r) : jb_V Γ d zq_117 0 [some (.ref 2), some (.int x1)] [] (zE L, M, N) v σ2 := by
  obtain ⟨d, rfl⟩ : ∃ e, d = e + 1 := ⟨d - 1, by omega⟩
  unfold zf_117 at h
  refine jb_seg 5 (pc' := 7) (ls' := [some (.ref 2), some (.int x1)]) (st' := [(.int x1), (.int (M 2 1)), (.int 0), (.ref 2)]) (σ' := (zE L, M, N)) (G := []) rfl trivial ?_
  refine jb_callS (q' := zq_272) (As := [(.int (M 2 1)), (.int x1)]) (rest := [(.int 0), (.ref 2)]) (σ1 := (zE L, M, N)) (v := some (.int (zf_272 (M 2 1) x1))) rfl (by decide) rfl zp_272 (jb_cat rfl) (Nat.le_of_ble_eq_true rfl) (Nat.le_of_ble_eq_true rfl) (Or.inl rfl) rfl (ze_272 (M 2 1) x1 M N rfl) ?_
  refine jb_callS (q' := zq_271) (As := [(.int 0), (.int (zf_272 (M 2 1) x1))]) (rest := [(.ref 2)]) (σ1 := (zE L, M, N)) (v := some (.int (zf_271 0 (zf_272 (M 2 1) x1)))) rfl (by decide) rfl zp_271 (jb_cat rfl) (Nat.le_of_ble_eq_true rfl) (Nat.le_of_ble_eq_true rfl) (Or.inl rfl) rfl (ze_271 0 (zf_272 (M 2 1) x1) M N rfl) ?_
  refine jb_seg 1 (pc' := 16) (ls' := [some (.ref 2), some (.int x1)]) (st' := []) (σ' := (zE L, (jb_up M 2 1 (zf_271 0 (zf_272 (M 2 1) x1))), N)) (G := []) rfl trivial ?_
  subst h
  obtain ⟨rfl, rfl⟩ := hK
  exact jb_retv rfl rfl
theorem ze_117 {Γ : jb_G} {L : Nat} {d : Nat} (hd : 1 ≤ d) (x1 : Int32) (M : jb_Mi) (N : jb_Ml) {r : jb_Mi} (h : zf_117 x1 M = r) : jb_V Γ d zq_117 0 (jb_en 2 [(.ref 2), (.int x1)]) [] (zE L, M, N) (none) (zE L, r, N) := zg_117 hd x1 M N h ⟨rfl, rfl⟩
-- X11_begin
noncomputable def zf_119_H22 (w : Nat) (o : Nat) (s : Int32 × jb_Mi) : Option ((Int32 × jb_Mi) ⊕ (jb_Mi)) :=
  if s.1 < 24 then (zf_7 o (s.1 / 4) (s.1 - s.1 / 4 * 4) s.2).bind fun q1 => jb_gd s.1 24 (some (.inl ((s.1 + 1), (jb_up s.2 (w + 1) (s.1).toNatClampNeg q1)))) else some (.inr s.2)
noncomputable def zf_119 (w : Nat) (o : Nat) (M : jb_Mi) : Option (jb_Mi) :=
  jb_lp (zf_119_H22 w o) (0, (jb_up (jb_up (jb_up (jb_up M w 5 0) w 6 0) w 7 0) w 8 0))
set_option maxRecDepth 4000 in
theorem zg_119_H22 {Γ : jb_G} {L : Nat} {d : Nat} (hd : 3 ≤ d) (w : Nat) (o : Nat) (N : jb_Ml) (s : Int32 × jb_Mi) (hp : (w = 60 ∧ o = 4) ∨ (w = 62 ∧ o = 24)) {v : Option Value} {σ2 : jb_S} {r : ((Int32 × jb_Mi) ⊕ (jb_Mi))} (h : zf_119_H22 w o s = some r) (hK : (jb_K (fun s : Int32 × jb_Mi => jb_V Γ d zq_119 22 [some (.ref w), some (.int s.1)] [] (zE L, s.2, N) v σ2) (fun r : jb_Mi => v = none ∧ σ2 = (zE L, r, N))) r) : jb_V Γ d zq_119 22 [some (.ref w), some (.int s.1)] [] (zE L, s.2, N) v σ2 := by
  rcases hp with ⟨rfl, rfl⟩ | ⟨rfl, rfl⟩
  · obtain ⟨d, rfl⟩ : ∃ e, d = e + 1 := ⟨d - 1, by omega⟩
    unfold zf_119_H22 at h
    refine jb_seg 3 (pc' := (if s.1 < 24 then 28 else 53)) (ls' := [some (.ref 60), some (.int s.1)]) (st' := []) (σ' := (zE L, s.2, N)) (G := []) rfl trivial ?_
    refine jb_ite (fun c => ?_) (fun c => ?_)
    · rw [if_pos c] at h
      refine jb_seg 11 (pc' := 43) (ls' := [some (.ref 60), some (.int s.1)]) (st' := [(.int (s.1 - s.1 / 4 * 4)), (.int (s.1 / 4)), (.ref 4), (.int s.1), (.ref (60 + 1))]) (σ' := (zE L, s.2, N)) (G := [¬ (4 : Int32) = 0, ¬ (4 : Int32) = 0]) rfl ⟨(show ¬ (4 : Int32) = 0 from (by decide)), (show ¬ (4 : Int32) = 0 from (by decide))⟩ ?_
      obtain ⟨q1, h1, h⟩ := jb_bd_of h
      refine jb_callV (q' := zq_7) (As := [(.int (s.1 / 4)), (.int (s.1 - s.1 / 4 * 4))]) (rest := [(.int s.1), (.ref (60 + 1))]) (σ1 := (zE L, s.2, N)) (v := some (.int q1)) rfl rfl zp_7 rfl (by decide) (jb_cat rfl) (Nat.le_of_ble_eq_true rfl) (Nat.le_of_ble_eq_true rfl) (Or.inl rfl) rfl (ze_7 (by omega) 4 (s.1 / 4) (s.1 - s.1 / 4 * 4) s.2 N (by decide) h1) ?_
      obtain ⟨g2, h⟩ := jb_gd_of h
      refine jb_seg 3 (pc' := 22) (ls' := [some (.ref 60), some (.int (s.1 + 1))]) (st' := []) (σ' := (zE L, (jb_up s.2 (60 + 1) (s.1).toNatClampNeg q1), N)) (G := [vp_in s.1 24]) rfl g2 ?_
      cases h
      exact jb_mask [true, true] rfl hK
    · rw [if_neg c] at h
      cases h
      obtain ⟨rfl, rfl⟩ := hK
      exact jb_retv rfl rfl
  · obtain ⟨d, rfl⟩ : ∃ e, d = e + 1 := ⟨d - 1, by omega⟩
    unfold zf_119_H22 at h
    refine jb_seg 3 (pc' := (if s.1 < 24 then 28 else 53)) (ls' := [some (.ref 62), some (.int s.1)]) (st' := []) (σ' := (zE L, s.2, N)) (G := []) rfl trivial ?_
    refine jb_ite (fun c => ?_) (fun c => ?_)
    · rw [if_pos c] at h
      refine jb_seg 11 (pc' := 43) (ls' := [some (.ref 62), some (.int s.1)]) (st' := [(.int (s.1 - s.1 / 4 * 4)), (.int (s.1 / 4)), (.ref 24), (.int s.1), (.ref (62 + 1))]) (σ' := (zE L, s.2, N)) (G := [¬ (4 : Int32) = 0, ¬ (4 : Int32) = 0]) rfl ⟨(show ¬ (4 : Int32) = 0 from (by decide)), (show ¬ (4 : Int32) = 0 from (by decide))⟩ ?_
      obtain ⟨q1, h1, h⟩ := jb_bd_of h
      refine jb_callV (q' := zq_7) (As := [(.int (s.1 / 4)), (.int (s.1 - s.1 / 4 * 4))]) (rest := [(.int s.1), (.ref (62 + 1))]) (σ1 := (zE L, s.2, N)) (v := some (.int q1)) rfl rfl zp_7 rfl (by decide) (jb_cat rfl) (Nat.le_of_ble_eq_true rfl) (Nat.le_of_ble_eq_true rfl) (Or.inl rfl) rfl (ze_7 (by omega) 24 (s.1 / 4) (s.1 - s.1 / 4 * 4) s.2 N (by decide) h1) ?_
      obtain ⟨g2, h⟩ := jb_gd_of h
      refine jb_seg 3 (pc' := 22) (ls' := [some (.ref 62), some (.int (s.1 + 1))]) (st' := []) (σ' := (zE L, (jb_up s.2 (62 + 1) (s.1).toNatClampNeg q1), N)) (G := [vp_in s.1 24]) rfl g2 ?_
      cases h
      exact jb_mask [true, true] rfl hK
    · rw [if_neg c] at h
      cases h
      obtain ⟨rfl, rfl⟩ := hK
      exact jb_retv rfl rfl
theorem zg_119_H22L {Γ : jb_G} {L : Nat} {d : Nat} (hd : 3 ≤ d) (w : Nat) (o : Nat) (N : jb_Ml) (hp : (w = 60 ∧ o = 4) ∨ (w = 62 ∧ o = 24)) {v : Option Value} {σ2 : jb_S} {s : Int32 × jb_Mi} {r : (jb_Mi)} (h : jb_lp (zf_119_H22 w o) s = some r) (hK : (fun r : jb_Mi => v = none ∧ σ2 = (zE L, r, N)) r) : jb_V Γ d zq_119 22 [some (.ref w), some (.int s.1)] [] (zE L, s.2, N) v σ2 := by
  exact jb_lp_ind (P := fun s => jb_V Γ d zq_119 22 [some (.ref w), some (.int s.1)] [] (zE L, s.2, N) v σ2) (K := (fun r : jb_Mi => v = none ∧ σ2 = (zE L, r, N))) (fun s r h hk => zg_119_H22 hd w o N s hp h (by cases r <;> exact hk)) h hK
set_option maxRecDepth 4000 in
theorem zg_119 {Γ : jb_G} {L : Nat} {d : Nat} (hd : 3 ≤ d) (w : Nat) (o : Nat) (M : jb_Mi) (N : jb_Ml) (hp : (w = 60 ∧ o = 4) ∨ (w = 62 ∧ o = 24)) {v : Option Value} {σ2 : jb_S} {r : (jb_Mi)} (h : zf_119 w o M = some r) (hK : (fun r : jb_Mi => v = none ∧ σ2 = (zE L, r, N)) r) : jb_V Γ d zq_119 0 [some (.ref w), none] [] (zE L, M, N) v σ2 := by
  rcases hp with ⟨rfl, rfl⟩ | ⟨rfl, rfl⟩
  · obtain ⟨d, rfl⟩ : ∃ e, d = e + 1 := ⟨d - 1, by omega⟩
    unfold zf_119 at h
    refine jb_seg 14 (pc' := 22) (ls' := [some (.ref 60), some (.int 0)]) (st' := []) (σ' := (zE L, (jb_up (jb_up (jb_up (jb_up M 60 5 0) 60 6 0) 60 7 0) 60 8 0), N)) (G := []) rfl trivial ?_
    exact jb_mask [true, true] rfl (zg_119_H22L hd 60 4 N (by decide) h hK)
  · obtain ⟨d, rfl⟩ : ∃ e, d = e + 1 := ⟨d - 1, by omega⟩
    unfold zf_119 at h
    refine jb_seg 14 (pc' := 22) (ls' := [some (.ref 62), some (.int 0)]) (st' := []) (σ' := (zE L, (jb_up (jb_up (jb_up (jb_up M 62 5 0) 62 6 0) 62 7 0) 62 8 0), N)) (G := []) rfl trivial ?_
    exact jb_mask [true, true] rfl (zg_119_H22L hd 62 24 N (by decide) h hK)
theorem ze_119 {Γ : jb_G} {L : Nat} {d : Nat} (hd : 3 ≤ d) (w : Nat) (o : Nat) (M : jb_Mi) (N : jb_Ml) (hp : (w = 60 ∧ o = 4) ∨ (w = 62 ∧ o = 24)) {r : (jb_Mi)} (h : zf_119 w o M = some r) : jb_V Γ d zq_119 0 (jb_en 2 [(.ref w)]) [] (zE L, M, N) (none) (zE L, r, N) := zg_119 hd w o M N hp h ⟨rfl, rfl⟩
-- X11_sag
noncomputable def zf_120_J56 (w : Nat) (o : Nat) (s1 : Int32) (s2 : Int32) (M : jb_Mi) : Option (jb_Mi) :=
  some (jb_up M w 8 (s1 + s2))
noncomputable def zf_120 (w : Nat) (o : Nat) (x1 : Int32) (M : jb_Mi) : Option (jb_Mi) :=
  (zf_37 o x1 M).bind fun q1 => if (jb_b2i q1) = 0 then some M else jb_gd x1 6 (jb_gd x1 6 ((zf_37 o x1 (jb_up (jb_up M (o + 3) x1.toNatClampNeg ((M (o + 3) x1.toNatClampNeg) + 1)) w 5 (((jb_up M (o + 3) x1.toNatClampNeg ((M (o + 3) x1.toNatClampNeg) + 1)) w 5) + 1))).bind fun q4 => if (jb_b2i q4) = 0 then zf_120_J56 w o ((jb_up (jb_up M (o + 3) x1.toNatClampNeg ((M (o + 3) x1.toNatClampNeg) + 1)) w 5 (((jb_up M (o + 3) x1.toNatClampNeg ((M (o + 3) x1.toNatClampNeg) + 1)) w 5) + 1)) w 8) 1 (jb_up (jb_up M (o + 3) x1.toNatClampNeg ((M (o + 3) x1.toNatClampNeg) + 1)) w 5 (((jb_up M (o + 3) x1.toNatClampNeg ((M (o + 3) x1.toNatClampNeg) + 1)) w 5) + 1)) else zf_120_J56 w o ((jb_up (jb_up M (o + 3) x1.toNatClampNeg ((M (o + 3) x1.toNatClampNeg) + 1)) w 5 (((jb_up M (o + 3) x1.toNatClampNeg ((M (o + 3) x1.toNatClampNeg) + 1)) w 5) + 1)) w 8) 0 (jb_up (jb_up M (o + 3) x1.toNatClampNeg ((M (o + 3) x1.toNatClampNeg) + 1)) w 5 (((jb_up M (o + 3) x1.toNatClampNeg ((M (o + 3) x1.toNatClampNeg) + 1)) w 5) + 1))))
set_option maxRecDepth 4000 in
theorem zg_120_J56 {Γ : jb_G} {L : Nat} {d : Nat} (hd : 1 ≤ d) (w : Nat) (o : Nat) (s1 : Int32) (s2 : Int32) (M : jb_Mi) (N : jb_Ml) (hp : (w = 60 ∧ o = 4) ∨ (w = 62 ∧ o = 24)) {v : Option Value} {σ2 : jb_S} {r : (jb_Mi)} (h : zf_120_J56 w o s1 s2 M = some r) (hK : (fun r : jb_Mi => v = none ∧ σ2 = (zE L, r, N)) r) : jb_V Γ d zq_120 56 [none, none] [(.int s2), (.int s1), (.ref w)] (zE L, M, N) v σ2 := by
  rcases hp with ⟨rfl, rfl⟩ | ⟨rfl, rfl⟩
  · obtain ⟨d, rfl⟩ : ∃ e, d = e + 1 := ⟨d - 1, by omega⟩
    unfold zf_120_J56 at h
    refine jb_seg 2 (pc' := 60) (ls' := [none, none]) (st' := []) (σ' := (zE L, (jb_up M 60 8 (s1 + s2)), N)) (G := []) rfl trivial ?_
    cases h
    obtain ⟨rfl, rfl⟩ := hK
    exact jb_retv rfl rfl
  · obtain ⟨d, rfl⟩ : ∃ e, d = e + 1 := ⟨d - 1, by omega⟩
    unfold zf_120_J56 at h
    refine jb_seg 2 (pc' := 60) (ls' := [none, none]) (st' := []) (σ' := (zE L, (jb_up M 62 8 (s1 + s2)), N)) (G := []) rfl trivial ?_
    cases h
    obtain ⟨rfl, rfl⟩ := hK
    exact jb_retv rfl rfl
set_option maxRecDepth 4000 in
theorem zg_120 {Γ : jb_G} {L : Nat} {d : Nat} (hd : 1 ≤ d) (w : Nat) (o : Nat) (x1 : Int32) (M : jb_Mi) (N : jb_Ml) (hp : (w = 60 ∧ o = 4) ∨ (w = 62 ∧ o = 24)) {v : Option Value} {σ2 : jb_S} {r : (jb_Mi)} (h : zf_120 w o x1 M = some r) (hK : (fun r : jb_Mi => v = none ∧ σ2 = (zE L, r, N)) r) : jb_V Γ d zq_120 0 [some (.ref w), some (.int x1)] [] (zE L, M, N) v σ2 := by
  rcases hp with ⟨rfl, rfl⟩ | ⟨rfl, rfl⟩
  · obtain ⟨d, rfl⟩ : ∃ e, d = e + 1 := ⟨d - 1, by omega⟩
    unfold zf_120 at h
    refine jb_seg 3 (pc' := 5) (ls' := [some (.ref 60), some (.int x1)]) (st' := [(.int x1), (.ref 4)]) (σ' := (zE L, M, N)) (G := []) rfl trivial ?_
    obtain ⟨q1, h1, h⟩ := jb_bd_of h
    refine jb_callV (q' := zq_37) (As := [(.int x1)]) (rest := []) (σ1 := (zE L, M, N)) (v := some (.int (jb_b2i q1))) rfl rfl zp_37 rfl (by decide) (jb_cat rfl) (Nat.le_of_ble_eq_true rfl) (Nat.le_of_ble_eq_true rfl) (Or.inl rfl) rfl (ze_37 4 x1 M N (by decide) h1) ?_
    refine jb_seg 1 (pc' := (if (jb_b2i q1) = 0 then 11 else 12)) (ls' := [some (.ref 60), some (.int x1)]) (st' := []) (σ' := (zE L, M, N)) (G := []) rfl trivial ?_
    refine jb_ite (fun c => ?_) (fun c => ?_)
    · rw [if_pos c] at h
      cases h
      obtain ⟨rfl, rfl⟩ := hK
      exact jb_retv rfl rfl
    · rw [if_neg c] at h
      obtain ⟨g2, h⟩ := jb_gd_of h
      obtain ⟨g3, h⟩ := jb_gd_of h
      refine jb_seg 21 (pc' := 45) (ls' := [some (.ref 60), some (.int x1)]) (st' := [(.int x1), (.ref 4), (.int ((jb_up (jb_up M (4 + 3) x1.toNatClampNeg ((M (4 + 3) x1.toNatClampNeg) + 1)) 60 5 (((jb_up M (4 + 3) x1.toNatClampNeg ((M (4 + 3) x1.toNatClampNeg) + 1)) 60 5) + 1)) 60 8)), (.ref 60)]) (σ' := (zE L, (jb_up (jb_up M (4 + 3) x1.toNatClampNeg ((M (4 + 3) x1.toNatClampNeg) + 1)) 60 5 (((jb_up M (4 + 3) x1.toNatClampNeg ((M (4 + 3) x1.toNatClampNeg) + 1)) 60 5) + 1)), N)) (G := [vp_in x1 6, vp_in x1 6]) rfl ⟨g2, g3⟩ ?_
      obtain ⟨q4, h4, h⟩ := jb_bd_of h
      refine jb_callV (q' := zq_37) (As := [(.int x1)]) (rest := [(.int ((jb_up (jb_up M (4 + 3) x1.toNatClampNeg ((M (4 + 3) x1.toNatClampNeg) + 1)) 60 5 (((jb_up M (4 + 3) x1.toNatClampNeg ((M (4 + 3) x1.toNatClampNeg) + 1)) 60 5) + 1)) 60 8)), (.ref 60)]) (σ1 := (zE L, (jb_up (jb_up M (4 + 3) x1.toNatClampNeg ((M (4 + 3) x1.toNatClampNeg) + 1)) 60 5 (((jb_up M (4 + 3) x1.toNatClampNeg ((M (4 + 3) x1.toNatClampNeg) + 1)) 60 5) + 1)), N)) (v := some (.int (jb_b2i q4))) rfl rfl zp_37 rfl (by decide) (jb_cat rfl) (Nat.le_of_ble_eq_true rfl) (Nat.le_of_ble_eq_true rfl) (Or.inl rfl) rfl (ze_37 4 x1 (jb_up (jb_up M (4 + 3) x1.toNatClampNeg ((M (4 + 3) x1.toNatClampNeg) + 1)) 60 5 (((jb_up M (4 + 3) x1.toNatClampNeg ((M (4 + 3) x1.toNatClampNeg) + 1)) 60 5) + 1)) N (by decide) h4) ?_
      refine jb_seg 1 (pc' := (if (jb_b2i q4) = 0 then 55 else 51)) (ls' := [some (.ref 60), some (.int x1)]) (st' := [(.int ((jb_up (jb_up M (4 + 3) x1.toNatClampNeg ((M (4 + 3) x1.toNatClampNeg) + 1)) 60 5 (((jb_up M (4 + 3) x1.toNatClampNeg ((M (4 + 3) x1.toNatClampNeg) + 1)) 60 5) + 1)) 60 8)), (.ref 60)]) (σ' := (zE L, (jb_up (jb_up M (4 + 3) x1.toNatClampNeg ((M (4 + 3) x1.toNatClampNeg) + 1)) 60 5 (((jb_up M (4 + 3) x1.toNatClampNeg ((M (4 + 3) x1.toNatClampNeg) + 1)) 60 5) + 1)), N)) (G := []) rfl trivial ?_
      refine jb_ite (fun c => ?_) (fun c => ?_)
      · rw [if_pos c] at h
        refine jb_seg 1 (pc' := 56) (ls' := [some (.ref 60), some (.int x1)]) (st' := [(.int 1), (.int ((jb_up (jb_up M (4 + 3) x1.toNatClampNeg ((M (4 + 3) x1.toNatClampNeg) + 1)) 60 5 (((jb_up M (4 + 3) x1.toNatClampNeg ((M (4 + 3) x1.toNatClampNeg) + 1)) 60 5) + 1)) 60 8)), (.ref 60)]) (σ' := (zE L, (jb_up (jb_up M (4 + 3) x1.toNatClampNeg ((M (4 + 3) x1.toNatClampNeg) + 1)) 60 5 (((jb_up M (4 + 3) x1.toNatClampNeg ((M (4 + 3) x1.toNatClampNeg) + 1)) 60 5) + 1)), N)) (G := []) rfl trivial ?_
        exact jb_mask [false, false] rfl (zg_120_J56 hd 60 4 ((jb_up (jb_up M (4 + 3) x1.toNatClampNeg ((M (4 + 3) x1.toNatClampNeg) + 1)) 60 5 (((jb_up M (4 + 3) x1.toNatClampNeg ((M (4 + 3) x1.toNatClampNeg) + 1)) 60 5) + 1)) 60 8) 1 (jb_up (jb_up M (4 + 3) x1.toNatClampNeg ((M (4 + 3) x1.toNatClampNeg) + 1)) 60 5 (((jb_up M (4 + 3) x1.toNatClampNeg ((M (4 + 3) x1.toNatClampNeg) + 1)) 60 5) + 1)) N (by decide) h hK)
      · rw [if_neg c] at h
        refine jb_seg 2 (pc' := 56) (ls' := [some (.ref 60), some (.int x1)]) (st' := [(.int 0), (.int ((jb_up (jb_up M (4 + 3) x1.toNatClampNeg ((M (4 + 3) x1.toNatClampNeg) + 1)) 60 5 (((jb_up M (4 + 3) x1.toNatClampNeg ((M (4 + 3) x1.toNatClampNeg) + 1)) 60 5) + 1)) 60 8)), (.ref 60)]) (σ' := (zE L, (jb_up (jb_up M (4 + 3) x1.toNatClampNeg ((M (4 + 3) x1.toNatClampNeg) + 1)) 60 5 (((jb_up M (4 + 3) x1.toNatClampNeg ((M (4 + 3) x1.toNatClampNeg) + 1)) 60 5) + 1)), N)) (G := []) rfl trivial ?_
        exact jb_mask [false, false] rfl (zg_120_J56 hd 60 4 ((jb_up (jb_up M (4 + 3) x1.toNatClampNeg ((M (4 + 3) x1.toNatClampNeg) + 1)) 60 5 (((jb_up M (4 + 3) x1.toNatClampNeg ((M (4 + 3) x1.toNatClampNeg) + 1)) 60 5) + 1)) 60 8) 0 (jb_up (jb_up M (4 + 3) x1.toNatClampNeg ((M (4 + 3) x1.toNatClampNeg) + 1)) 60 5 (((jb_up M (4 + 3) x1.toNatClampNeg ((M (4 + 3) x1.toNatClampNeg) + 1)) 60 5) + 1)) N (by decide) h hK)
  · obtain ⟨d, rfl⟩ : ∃ e, d = e + 1 := ⟨d - 1, by omega⟩
    unfold zf_120 at h
    refine jb_seg 3 (pc' := 5) (ls' := [some (.ref 62), some (.int x1)]) (st' := [(.int x1), (.ref 24)]) (σ' := (zE L, M, N)) (G := []) rfl trivial ?_
    obtain ⟨q1, h1, h⟩ := jb_bd_of h
    refine jb_callV (q' := zq_37) (As := [(.int x1)]) (rest := []) (σ1 := (zE L, M, N)) (v := some (.int (jb_b2i q1))) rfl rfl zp_37 rfl (by decide) (jb_cat rfl) (Nat.le_of_ble_eq_true rfl) (Nat.le_of_ble_eq_true rfl) (Or.inl rfl) rfl (ze_37 24 x1 M N (by decide) h1) ?_
    refine jb_seg 1 (pc' := (if (jb_b2i q1) = 0 then 11 else 12)) (ls' := [some (.ref 62), some (.int x1)]) (st' := []) (σ' := (zE L, M, N)) (G := []) rfl trivial ?_
    refine jb_ite (fun c => ?_) (fun c => ?_)
    · rw [if_pos c] at h
      cases h
      obtain ⟨rfl, rfl⟩ := hK
      exact jb_retv rfl rfl
    · rw [if_neg c] at h
      obtain ⟨g2, h⟩ := jb_gd_of h
      obtain ⟨g3, h⟩ := jb_gd_of h
      refine jb_seg 21 (pc' := 45) (ls' := [some (.ref 62), some (.int x1)]) (st' := [(.int x1), (.ref 24), (.int ((jb_up (jb_up M (24 + 3) x1.toNatClampNeg ((M (24 + 3) x1.toNatClampNeg) + 1)) 62 5 (((jb_up M (24 + 3) x1.toNatClampNeg ((M (24 + 3) x1.toNatClampNeg) + 1)) 62 5) + 1)) 62 8)), (.ref 62)]) (σ' := (zE L, (jb_up (jb_up M (24 + 3) x1.toNatClampNeg ((M (24 + 3) x1.toNatClampNeg) + 1)) 62 5 (((jb_up M (24 + 3) x1.toNatClampNeg ((M (24 + 3) x1.toNatClampNeg) + 1)) 62 5) + 1)), N)) (G := [vp_in x1 6, vp_in x1 6]) rfl ⟨g2, g3⟩ ?_
      obtain ⟨q4, h4, h⟩ := jb_bd_of h
      refine jb_callV (q' := zq_37) (As := [(.int x1)]) (rest := [(.int ((jb_up (jb_up M (24 + 3) x1.toNatClampNeg ((M (24 + 3) x1.toNatClampNeg) + 1)) 62 5 (((jb_up M (24 + 3) x1.toNatClampNeg ((M (24 + 3) x1.toNatClampNeg) + 1)) 62 5) + 1)) 62 8)), (.ref 62)]) (σ1 := (zE L, (jb_up (jb_up M (24 + 3) x1.toNatClampNeg ((M (24 + 3) x1.toNatClampNeg) + 1)) 62 5 (((jb_up M (24 + 3) x1.toNatClampNeg ((M (24 + 3) x1.toNatClampNeg) + 1)) 62 5) + 1)), N)) (v := some (.int (jb_b2i q4))) rfl rfl zp_37 rfl (by decide) (jb_cat rfl) (Nat.le_of_ble_eq_true rfl) (Nat.le_of_ble_eq_true rfl) (Or.inl rfl) rfl (ze_37 24 x1 (jb_up (jb_up M (24 + 3) x1.toNatClampNeg ((M (24 + 3) x1.toNatClampNeg) + 1)) 62 5 (((jb_up M (24 + 3) x1.toNatClampNeg ((M (24 + 3) x1.toNatClampNeg) + 1)) 62 5) + 1)) N (by decide) h4) ?_
      refine jb_seg 1 (pc' := (if (jb_b2i q4) = 0 then 55 else 51)) (ls' := [some (.ref 62), some (.int x1)]) (st' := [(.int ((jb_up (jb_up M (24 + 3) x1.toNatClampNeg ((M (24 + 3) x1.toNatClampNeg) + 1)) 62 5 (((jb_up M (24 + 3) x1.toNatClampNeg ((M (24 + 3) x1.toNatClampNeg) + 1)) 62 5) + 1)) 62 8)), (.ref 62)]) (σ' := (zE L, (jb_up (jb_up M (24 + 3) x1.toNatClampNeg ((M (24 + 3) x1.toNatClampNeg) + 1)) 62 5 (((jb_up M (24 + 3) x1.toNatClampNeg ((M (24 + 3) x1.toNatClampNeg) + 1)) 62 5) + 1)), N)) (G := []) rfl trivial ?_
      refine jb_ite (fun c => ?_) (fun c => ?_)
      · rw [if_pos c] at h
        refine jb_seg 1 (pc' := 56) (ls' := [some (.ref 62), some (.int x1)]) (st' := [(.int 1), (.int ((jb_up (jb_up M (24 + 3) x1.toNatClampNeg ((M (24 + 3) x1.toNatClampNeg) + 1)) 62 5 (((jb_up M (24 + 3) x1.toNatClampNeg ((M (24 + 3) x1.toNatClampNeg) + 1)) 62 5) + 1)) 62 8)), (.ref 62)]) (σ' := (zE L, (jb_up (jb_up M (24 + 3) x1.toNatClampNeg ((M (24 + 3) x1.toNatClampNeg) + 1)) 62 5 (((jb_up M (24 + 3) x1.toNatClampNeg ((M (24 + 3) x1.toNatClampNeg) + 1)) 62 5) + 1)), N)) (G := []) rfl trivial ?_
        exact jb_mask [false, false] rfl (zg_120_J56 hd 62 24 ((jb_up (jb_up M (24 + 3) x1.toNatClampNeg ((M (24 + 3) x1.toNatClampNeg) + 1)) 62 5 (((jb_up M (24 + 3) x1.toNatClampNeg ((M (24 + 3) x1.toNatClampNeg) + 1)) 62 5) + 1)) 62 8) 1 (jb_up (jb_up M (24 + 3) x1.toNatClampNeg ((M (24 + 3) x1.toNatClampNeg) + 1)) 62 5 (((jb_up M (24 + 3) x1.toNatClampNeg ((M (24 + 3) x1.toNatClampNeg) + 1)) 62 5) + 1)) N (by decide) h hK)
      · rw [if_neg c] at h
        refine jb_seg 2 (pc' := 56) (ls' := [some (.ref 62), some (.int x1)]) (st' := [(.int 0), (.int ((jb_up (jb_up M (24 + 3) x1.toNatClampNeg ((M (24 + 3) x1.toNatClampNeg) + 1)) 62 5 (((jb_up M (24 + 3) x1.toNatClampNeg ((M (24 + 3) x1.toNatClampNeg) + 1)) 62 5) + 1)) 62 8)), (.ref 62)]) (σ' := (zE L, (jb_up (jb_up M (24 + 3) x1.toNatClampNeg ((M (24 + 3) x1.toNatClampNeg) + 1)) 62 5 (((jb_up M (24 + 3) x1.toNatClampNeg ((M (24 + 3) x1.toNatClampNeg) + 1)) 62 5) + 1)), N)) (G := []) rfl trivial ?_
        exact jb_mask [false, false] rfl (zg_120_J56 hd 62 24 ((jb_up (jb_up M (24 + 3) x1.toNatClampNeg ((M (24 + 3) x1.toNatClampNeg) + 1)) 62 5 (((jb_up M (24 + 3) x1.toNatClampNeg ((M (24 + 3) x1.toNatClampNeg) + 1)) 62 5) + 1)) 62 8) 0 (jb_up (jb_up M (24 + 3) x1.toNatClampNeg ((M (24 + 3) x1.toNatClampNeg) + 1)) 62 5 (((jb_up M (24 + 3) x1.toNatClampNeg ((M (24 + 3) x1.toNatClampNeg) + 1)) 62 5) + 1)) N (by decide) h hK)
theorem ze_120 {Γ : jb_G} {L : Nat} {d : Nat} (hd : 1 ≤ d) (w : Nat) (o : Nat) (x1 : Int32) (M : jb_Mi) (N : jb_Ml) (hp : (w = 60 ∧ o = 4) ∨ (w = 62 ∧ o = 24)) {r : (jb_Mi)} (h : zf_120 w o x1 M = some r) : jb_V Γ d zq_120 0 (jb_en 2 [(.ref w), (.int x1)]) [] (zE L, M, N) (none) (zE L, r, N) := zg_120 hd w o x1 M N hp h ⟨rfl, rfl⟩
-- X11_tell
noncomputable def zf_121_J148 (w : Nat) (o : Nat) (s1 : Int32) (s2 : Int32) (M : jb_Mi) : Option (jb_Mi) :=
  jb_gd s1 10 (some (jb_up (jb_up (jb_up M 58 s1.toNatClampNeg s2) 58 8 ((jb_up M 58 s1.toNatClampNeg s2) o 9)) 58 9 (((jb_up (jb_up M 58 s1.toNatClampNeg s2) 58 8 ((jb_up M 58 s1.toNatClampNeg s2) o 9)) o 10) - ((jb_up (jb_up M 58 s1.toNatClampNeg s2) 58 8 ((jb_up M 58 s1.toNatClampNeg s2) o 9)) o 10) / 100 * 100)))
noncomputable def zf_121_J125 (w : Nat) (o : Nat) (x3 : Int32) (x4 : Int32) (s1 : Int32) (s2 : Int32) (M : jb_Mi) : Option (jb_Mi) :=
  jb_gd s1 10 (if x3 = 0 then zf_121_J148 w o 7 0 (jb_up M 58 s1.toNatClampNeg s2) else jb_gd x4 6 (zf_121_J148 w o 7 ((jb_up M 58 s1.toNatClampNeg s2) (o + 3) x4.toNatClampNeg) (jb_up M 58 s1.toNatClampNeg s2)))
noncomputable def zf_121_J102 (w : Nat) (o : Nat) (x3 : Int32) (x4 : Int32) (s1 : Int32) (s2 : Int32) (M : jb_Mi) : Option (jb_Mi) :=
  jb_gd s1 10 (if x3 = 0 then zf_121_J125 w o x3 x4 6 0 (jb_up M 58 s1.toNatClampNeg s2) else jb_gd x4 6 (zf_121_J125 w o x3 x4 6 ((jb_up M 58 s1.toNatClampNeg s2) (o + 1) x4.toNatClampNeg) (jb_up M 58 s1.toNatClampNeg s2)))
noncomputable def zf_121_J81 (w : Nat) (o : Nat) (x2 : Int32) (x3 : Int32) (x4 : Int32) (s1 : Int32) (s2 : Int32) (M : jb_Mi) : Option (jb_Mi) :=
  jb_gd s1 10 (if x3 = 0 then zf_121_J102 w o x3 x4 5 0 (jb_up (jb_up M 58 s1.toNatClampNeg s2) 58 4 x4) else zf_121_J102 w o x3 x4 5 (x2 - x2 / 4 * 4) (jb_up (jb_up M 58 s1.toNatClampNeg s2) 58 4 x4))
noncomputable def zf_121_J19 (w : Nat) (o : Nat) (x1 : Int32) (x2 : Int32) (x3 : Int32) (s0 : Int32) (M : jb_Mi) : Option (jb_Mi) :=
  jb_gd x1 16 (jb_gd x1 16 (if x3 = 0 then zf_121_J81 w o x2 x3 s0 3 0 (jb_up (jb_up (jb_up M 58 0 x1) 58 1 ((jb_up M 58 0 x1) (o + 8) x1.toNatClampNeg)) 58 2 ((jb_up (jb_up M 58 0 x1) 58 1 ((jb_up M 58 0 x1) (o + 8) x1.toNatClampNeg)) (o + 9) x1.toNatClampNeg)) else jb_gd x2 24 (zf_121_J81 w o x2 x3 s0 3 (((jb_up (jb_up (jb_up M 58 0 x1) 58 1 ((jb_up M 58 0 x1) (o + 8) x1.toNatClampNeg)) 58 2 ((jb_up (jb_up M 58 0 x1) 58 1 ((jb_up M 58 0 x1) (o + 8) x1.toNatClampNeg)) (o + 9) x1.toNatClampNeg)) (w + 1) x2.toNatClampNeg) / 64) (jb_up (jb_up (jb_up M 58 0 x1) 58 1 ((jb_up M 58 0 x1) (o + 8) x1.toNatClampNeg)) 58 2 ((jb_up (jb_up M 58 0 x1) 58 1 ((jb_up M 58 0 x1) (o + 8) x1.toNatClampNeg)) (o + 9) x1.toNatClampNeg)))))
noncomputable def zf_121 (w : Nat) (o : Nat) (x1 : Int32) (x2 : Int32) (M : jb_Mi) : Option (jb_Mi) :=
  if (jb_b2i (zf_23 x2 0 23)) = 0 then zf_121_J19 w o x1 x2 (jb_b2i (zf_23 x2 0 23)) 0 M else zf_121_J19 w o x1 x2 (jb_b2i (zf_23 x2 0 23)) (x2 / 4) M
set_option maxRecDepth 4000 in
theorem zg_121_J148 {Γ : jb_G} {L : Nat} {d : Nat} (hd : 1 ≤ d) (w : Nat) (o : Nat) (s1 : Int32) (s2 : Int32) (M : jb_Mi) (N : jb_Ml) (hp : (w = 60 ∧ o = 4) ∨ (w = 62 ∧ o = 24)) {v : Option Value} {σ2 : jb_S} {r : (jb_Mi)} (h : zf_121_J148 w o s1 s2 M = some r) (hK : (fun r : jb_Mi => v = none ∧ σ2 = (zE L, r, N)) r) : jb_V Γ d zq_121 148 [some (.ref w), none, none, none, none, some (.ref 58)] [(.int s2), (.int s1), (.ref 58)] (zE L, M, N) v σ2 := by
  rcases hp with ⟨rfl, rfl⟩ | ⟨rfl, rfl⟩
  · obtain ⟨d, rfl⟩ : ∃ e, d = e + 1 := ⟨d - 1, by omega⟩
    unfold zf_121_J148 at h
    obtain ⟨g6, h⟩ := jb_gd_of h
    refine jb_seg 15 (pc' := 176) (ls' := [some (.ref 60), none, none, none, none, some (.ref 58)]) (st' := []) (σ' := (zE L, (jb_up (jb_up (jb_up M 58 s1.toNatClampNeg s2) 58 8 ((jb_up M 58 s1.toNatClampNeg s2) 4 9)) 58 9 (((jb_up (jb_up M 58 s1.toNatClampNeg s2) 58 8 ((jb_up M 58 s1.toNatClampNeg s2) 4 9)) 4 10) - ((jb_up (jb_up M 58 s1.toNatClampNeg s2) 58 8 ((jb_up M 58 s1.toNatClampNeg s2) 4 9)) 4 10) / 100 * 100)), N)) (G := [vp_in s1 10, vp_in 8 10, ¬ (100 : Int32) = 0, vp_in 9 10]) rfl ⟨g6, (show vp_in 8 10 from (by unfold vp_in; decide)), (show ¬ (100 : Int32) = 0 from (by decide)), (show vp_in 9 10 from (by unfold vp_in; decide))⟩ ?_
    cases h
    obtain ⟨rfl, rfl⟩ := hK
    exact jb_retv rfl rfl
  · obtain ⟨d, rfl⟩ : ∃ e, d = e + 1 := ⟨d - 1, by omega⟩
    unfold zf_121_J148 at h
    obtain ⟨g6, h⟩ := jb_gd_of h
    refine jb_seg 15 (pc' := 176) (ls' := [some (.ref 62), none, none, none, none, some (.ref 58)]) (st' := []) (σ' := (zE L, (jb_up (jb_up (jb_up M 58 s1.toNatClampNeg s2) 58 8 ((jb_up M 58 s1.toNatClampNeg s2) 24 9)) 58 9 (((jb_up (jb_up M 58 s1.toNatClampNeg s2) 58 8 ((jb_up M 58 s1.toNatClampNeg s2) 24 9)) 24 10) - ((jb_up (jb_up M 58 s1.toNatClampNeg s2) 58 8 ((jb_up M 58 s1.toNatClampNeg s2) 24 9)) 24 10) / 100 * 100)), N)) (G := [vp_in s1 10, vp_in 8 10, ¬ (100 : Int32) = 0, vp_in 9 10]) rfl ⟨g6, (show vp_in 8 10 from (by unfold vp_in; decide)), (show ¬ (100 : Int32) = 0 from (by decide)), (show vp_in 9 10 from (by unfold vp_in; decide))⟩ ?_
    cases h
    obtain ⟨rfl, rfl⟩ := hK
    exact jb_retv rfl rfl
set_option maxRecDepth 4000 in
theorem zg_121_J125 {Γ : jb_G} {L : Nat} {d : Nat} (hd : 1 ≤ d) (w : Nat) (o : Nat) (x3 : Int32) (x4 : Int32) (s1 : Int32) (s2 : Int32) (M : jb_Mi) (N : jb_Ml) (hp : (w = 60 ∧ o = 4) ∨ (w = 62 ∧ o = 24)) {v : Option Value} {σ2 : jb_S} {r : (jb_Mi)} (h : zf_121_J125 w o x3 x4 s1 s2 M = some r) (hK : (fun r : jb_Mi => v = none ∧ σ2 = (zE L, r, N)) r) : jb_V Γ d zq_121 125 [some (.ref w), none, none, some (.int x3), some (.int x4), some (.ref 58)] [(.int s2), (.int s1), (.ref 58)] (zE L, M, N) v σ2 := by
  rcases hp with ⟨rfl, rfl⟩ | ⟨rfl, rfl⟩
  · obtain ⟨d, rfl⟩ : ∃ e, d = e + 1 := ⟨d - 1, by omega⟩
    unfold zf_121_J125 at h
    obtain ⟨g5, h⟩ := jb_gd_of h
    refine jb_seg 5 (pc' := (if x3 = 0 then 147 else 134)) (ls' := [some (.ref 60), none, none, some (.int x3), some (.int x4), some (.ref 58)]) (st' := [(.int 7), (.ref 58)]) (σ' := (zE L, (jb_up M 58 s1.toNatClampNeg s2), N)) (G := [vp_in s1 10]) rfl g5 ?_
    refine jb_ite (fun c => ?_) (fun c => ?_)
    · rw [if_pos c] at h
      refine jb_seg 1 (pc' := 148) (ls' := [some (.ref 60), none, none, some (.int x3), some (.int x4), some (.ref 58)]) (st' := [(.int 0), (.int 7), (.ref 58)]) (σ' := (zE L, (jb_up M 58 s1.toNatClampNeg s2), N)) (G := []) rfl trivial ?_
      exact jb_mask [true, false, false, false, false, true] rfl (zg_121_J148 hd 60 4 7 0 (jb_up M 58 s1.toNatClampNeg s2) N (by decide) h hK)
    · rw [if_neg c] at h
      obtain ⟨g7, h⟩ := jb_gd_of h
      refine jb_seg 6 (pc' := 148) (ls' := [some (.ref 60), none, none, some (.int x3), some (.int x4), some (.ref 58)]) (st' := [(.int ((jb_up M 58 s1.toNatClampNeg s2) (4 + 3) x4.toNatClampNeg)), (.int 7), (.ref 58)]) (σ' := (zE L, (jb_up M 58 s1.toNatClampNeg s2), N)) (G := [vp_in x4 6]) rfl g7 ?_
      exact jb_mask [true, false, false, false, false, true] rfl (zg_121_J148 hd 60 4 7 ((jb_up M 58 s1.toNatClampNeg s2) (4 + 3) x4.toNatClampNeg) (jb_up M 58 s1.toNatClampNeg s2) N (by decide) h hK)
  · obtain ⟨d, rfl⟩ : ∃ e, d = e + 1 := ⟨d - 1, by omega⟩
    unfold zf_121_J125 at h
    obtain ⟨g5, h⟩ := jb_gd_of h
    refine jb_seg 5 (pc' := (if x3 = 0 then 147 else 134)) (ls' := [some (.ref 62), none, none, some (.int x3), some (.int x4), some (.ref 58)]) (st' := [(.int 7), (.ref 58)]) (σ' := (zE L, (jb_up M 58 s1.toNatClampNeg s2), N)) (G := [vp_in s1 10]) rfl g5 ?_
    refine jb_ite (fun c => ?_) (fun c => ?_)
    · rw [if_pos c] at h
      refine jb_seg 1 (pc' := 148) (ls' := [some (.ref 62), none, none, some (.int x3), some (.int x4), some (.ref 58)]) (st' := [(.int 0), (.int 7), (.ref 58)]) (σ' := (zE L, (jb_up M 58 s1.toNatClampNeg s2), N)) (G := []) rfl trivial ?_
      exact jb_mask [true, false, false, false, false, true] rfl (zg_121_J148 hd 62 24 7 0 (jb_up M 58 s1.toNatClampNeg s2) N (by decide) h hK)
    · rw [if_neg c] at h
      obtain ⟨g7, h⟩ := jb_gd_of h
      refine jb_seg 6 (pc' := 148) (ls' := [some (.ref 62), none, none, some (.int x3), some (.int x4), some (.ref 58)]) (st' := [(.int ((jb_up M 58 s1.toNatClampNeg s2) (24 + 3) x4.toNatClampNeg)), (.int 7), (.ref 58)]) (σ' := (zE L, (jb_up M 58 s1.toNatClampNeg s2), N)) (G := [vp_in x4 6]) rfl g7 ?_
      exact jb_mask [true, false, false, false, false, true] rfl (zg_121_J148 hd 62 24 7 ((jb_up M 58 s1.toNatClampNeg s2) (24 + 3) x4.toNatClampNeg) (jb_up M 58 s1.toNatClampNeg s2) N (by decide) h hK)
set_option maxRecDepth 4000 in
theorem zg_121_J102 {Γ : jb_G} {L : Nat} {d : Nat} (hd : 1 ≤ d) (w : Nat) (o : Nat) (x3 : Int32) (x4 : Int32) (s1 : Int32) (s2 : Int32) (M : jb_Mi) (N : jb_Ml) (hp : (w = 60 ∧ o = 4) ∨ (w = 62 ∧ o = 24)) {v : Option Value} {σ2 : jb_S} {r : (jb_Mi)} (h : zf_121_J102 w o x3 x4 s1 s2 M = some r) (hK : (fun r : jb_Mi => v = none ∧ σ2 = (zE L, r, N)) r) : jb_V Γ d zq_121 102 [some (.ref w), none, none, some (.int x3), some (.int x4), some (.ref 58)] [(.int s2), (.int s1), (.ref 58)] (zE L, M, N) v σ2 := by
  rcases hp with ⟨rfl, rfl⟩ | ⟨rfl, rfl⟩
  · obtain ⟨d, rfl⟩ : ∃ e, d = e + 1 := ⟨d - 1, by omega⟩
    unfold zf_121_J102 at h
    obtain ⟨g4, h⟩ := jb_gd_of h
    refine jb_seg 5 (pc' := (if x3 = 0 then 124 else 111)) (ls' := [some (.ref 60), none, none, some (.int x3), some (.int x4), some (.ref 58)]) (st' := [(.int 6), (.ref 58)]) (σ' := (zE L, (jb_up M 58 s1.toNatClampNeg s2), N)) (G := [vp_in s1 10]) rfl g4 ?_
    refine jb_ite (fun c => ?_) (fun c => ?_)
    · rw [if_pos c] at h
      refine jb_seg 1 (pc' := 125) (ls' := [some (.ref 60), none, none, some (.int x3), some (.int x4), some (.ref 58)]) (st' := [(.int 0), (.int 6), (.ref 58)]) (σ' := (zE L, (jb_up M 58 s1.toNatClampNeg s2), N)) (G := []) rfl trivial ?_
      exact jb_mask [true, false, false, true, true, true] rfl (zg_121_J125 hd 60 4 x3 x4 6 0 (jb_up M 58 s1.toNatClampNeg s2) N (by decide) h hK)
    · rw [if_neg c] at h
      obtain ⟨g8, h⟩ := jb_gd_of h
      refine jb_seg 6 (pc' := 125) (ls' := [some (.ref 60), none, none, some (.int x3), some (.int x4), some (.ref 58)]) (st' := [(.int ((jb_up M 58 s1.toNatClampNeg s2) (4 + 1) x4.toNatClampNeg)), (.int 6), (.ref 58)]) (σ' := (zE L, (jb_up M 58 s1.toNatClampNeg s2), N)) (G := [vp_in x4 6]) rfl g8 ?_
      exact jb_mask [true, false, false, true, true, true] rfl (zg_121_J125 hd 60 4 x3 x4 6 ((jb_up M 58 s1.toNatClampNeg s2) (4 + 1) x4.toNatClampNeg) (jb_up M 58 s1.toNatClampNeg s2) N (by decide) h hK)
  · obtain ⟨d, rfl⟩ : ∃ e, d = e + 1 := ⟨d - 1, by omega⟩
    unfold zf_121_J102 at h
    obtain ⟨g4, h⟩ := jb_gd_of h
    refine jb_seg 5 (pc' := (if x3 = 0 then 124 else 111)) (ls' := [some (.ref 62), none, none, some (.int x3), some (.int x4), some (.ref 58)]) (st' := [(.int 6), (.ref 58)]) (σ' := (zE L, (jb_up M 58 s1.toNatClampNeg s2), N)) (G := [vp_in s1 10]) rfl g4 ?_
    refine jb_ite (fun c => ?_) (fun c => ?_)
    · rw [if_pos c] at h
      refine jb_seg 1 (pc' := 125) (ls' := [some (.ref 62), none, none, some (.int x3), some (.int x4), some (.ref 58)]) (st' := [(.int 0), (.int 6), (.ref 58)]) (σ' := (zE L, (jb_up M 58 s1.toNatClampNeg s2), N)) (G := []) rfl trivial ?_
      exact jb_mask [true, false, false, true, true, true] rfl (zg_121_J125 hd 62 24 x3 x4 6 0 (jb_up M 58 s1.toNatClampNeg s2) N (by decide) h hK)
    · rw [if_neg c] at h
      obtain ⟨g8, h⟩ := jb_gd_of h
      refine jb_seg 6 (pc' := 125) (ls' := [some (.ref 62), none, none, some (.int x3), some (.int x4), some (.ref 58)]) (st' := [(.int ((jb_up M 58 s1.toNatClampNeg s2) (24 + 1) x4.toNatClampNeg)), (.int 6), (.ref 58)]) (σ' := (zE L, (jb_up M 58 s1.toNatClampNeg s2), N)) (G := [vp_in x4 6]) rfl g8 ?_
      exact jb_mask [true, false, false, true, true, true] rfl (zg_121_J125 hd 62 24 x3 x4 6 ((jb_up M 58 s1.toNatClampNeg s2) (24 + 1) x4.toNatClampNeg) (jb_up M 58 s1.toNatClampNeg s2) N (by decide) h hK)
set_option maxRecDepth 4000 in
theorem zg_121_J81 {Γ : jb_G} {L : Nat} {d : Nat} (hd : 1 ≤ d) (w : Nat) (o : Nat) (x2 : Int32) (x3 : Int32) (x4 : Int32) (s1 : Int32) (s2 : Int32) (M : jb_Mi) (N : jb_Ml) (hp : (w = 60 ∧ o = 4) ∨ (w = 62 ∧ o = 24)) {v : Option Value} {σ2 : jb_S} {r : (jb_Mi)} (h : zf_121_J81 w o x2 x3 x4 s1 s2 M = some r) (hK : (fun r : jb_Mi => v = none ∧ σ2 = (zE L, r, N)) r) : jb_V Γ d zq_121 81 [some (.ref w), none, some (.int x2), some (.int x3), some (.int x4), some (.ref 58)] [(.int s2), (.int s1), (.ref 58)] (zE L, M, N) v σ2 := by
  rcases hp with ⟨rfl, rfl⟩ | ⟨rfl, rfl⟩
  · obtain ⟨d, rfl⟩ : ∃ e, d = e + 1 := ⟨d - 1, by omega⟩
    unfold zf_121_J81 at h
    obtain ⟨g3, h⟩ := jb_gd_of h
    refine jb_seg 9 (pc' := (if x3 = 0 then 101 else 95)) (ls' := [some (.ref 60), none, some (.int x2), some (.int x3), some (.int x4), some (.ref 58)]) (st' := [(.int 5), (.ref 58)]) (σ' := (zE L, (jb_up (jb_up M 58 s1.toNatClampNeg s2) 58 4 x4), N)) (G := [vp_in s1 10, vp_in 4 10]) rfl ⟨g3, (show vp_in 4 10 from (by unfold vp_in; decide))⟩ ?_
    refine jb_ite (fun c => ?_) (fun c => ?_)
    · rw [if_pos c] at h
      refine jb_seg 1 (pc' := 102) (ls' := [some (.ref 60), none, some (.int x2), some (.int x3), some (.int x4), some (.ref 58)]) (st' := [(.int 0), (.int 5), (.ref 58)]) (σ' := (zE L, (jb_up (jb_up M 58 s1.toNatClampNeg s2) 58 4 x4), N)) (G := []) rfl trivial ?_
      exact jb_mask [true, false, false, true, true, true] rfl (zg_121_J102 hd 60 4 x3 x4 5 0 (jb_up (jb_up M 58 s1.toNatClampNeg s2) 58 4 x4) N (by decide) h hK)
    · rw [if_neg c] at h
      refine jb_seg 4 (pc' := 102) (ls' := [some (.ref 60), none, some (.int x2), some (.int x3), some (.int x4), some (.ref 58)]) (st' := [(.int (x2 - x2 / 4 * 4)), (.int 5), (.ref 58)]) (σ' := (zE L, (jb_up (jb_up M 58 s1.toNatClampNeg s2) 58 4 x4), N)) (G := [¬ (4 : Int32) = 0]) rfl (show ¬ (4 : Int32) = 0 from (by decide)) ?_
      exact jb_mask [true, false, false, true, true, true] rfl (zg_121_J102 hd 60 4 x3 x4 5 (x2 - x2 / 4 * 4) (jb_up (jb_up M 58 s1.toNatClampNeg s2) 58 4 x4) N (by decide) h hK)
  · obtain ⟨d, rfl⟩ : ∃ e, d = e + 1 := ⟨d - 1, by omega⟩
    unfold zf_121_J81 at h
    obtain ⟨g3, h⟩ := jb_gd_of h
    refine jb_seg 9 (pc' := (if x3 = 0 then 101 else 95)) (ls' := [some (.ref 62), none, some (.int x2), some (.int x3), some (.int x4), some (.ref 58)]) (st' := [(.int 5), (.ref 58)]) (σ' := (zE L, (jb_up (jb_up M 58 s1.toNatClampNeg s2) 58 4 x4), N)) (G := [vp_in s1 10, vp_in 4 10]) rfl ⟨g3, (show vp_in 4 10 from (by unfold vp_in; decide))⟩ ?_
    refine jb_ite (fun c => ?_) (fun c => ?_)
    · rw [if_pos c] at h
      refine jb_seg 1 (pc' := 102) (ls' := [some (.ref 62), none, some (.int x2), some (.int x3), some (.int x4), some (.ref 58)]) (st' := [(.int 0), (.int 5), (.ref 58)]) (σ' := (zE L, (jb_up (jb_up M 58 s1.toNatClampNeg s2) 58 4 x4), N)) (G := []) rfl trivial ?_
      exact jb_mask [true, false, false, true, true, true] rfl (zg_121_J102 hd 62 24 x3 x4 5 0 (jb_up (jb_up M 58 s1.toNatClampNeg s2) 58 4 x4) N (by decide) h hK)
    · rw [if_neg c] at h
      refine jb_seg 4 (pc' := 102) (ls' := [some (.ref 62), none, some (.int x2), some (.int x3), some (.int x4), some (.ref 58)]) (st' := [(.int (x2 - x2 / 4 * 4)), (.int 5), (.ref 58)]) (σ' := (zE L, (jb_up (jb_up M 58 s1.toNatClampNeg s2) 58 4 x4), N)) (G := [¬ (4 : Int32) = 0]) rfl (show ¬ (4 : Int32) = 0 from (by decide)) ?_
      exact jb_mask [true, false, false, true, true, true] rfl (zg_121_J102 hd 62 24 x3 x4 5 (x2 - x2 / 4 * 4) (jb_up (jb_up M 58 s1.toNatClampNeg s2) 58 4 x4) N (by decide) h hK)
set_option maxRecDepth 4000 in
theorem zg_121_J19 {Γ : jb_G} {L : Nat} {d : Nat} (hd : 1 ≤ d) (w : Nat) (o : Nat) (x1 : Int32) (x2 : Int32) (x3 : Int32) (s0 : Int32) (M : jb_Mi) (N : jb_Ml) (hp : (w = 60 ∧ o = 4) ∨ (w = 62 ∧ o = 24)) {v : Option Value} {σ2 : jb_S} {r : (jb_Mi)} (h : zf_121_J19 w o x1 x2 x3 s0 M = some r) (hK : (fun r : jb_Mi => v = none ∧ σ2 = (zE L, r, N)) r) : jb_V Γ d zq_121 19 [some (.ref w), some (.int x1), some (.int x2), some (.int x3), none, none] [(.int s0)] (zE L, M, N) v σ2 := by
  rcases hp with ⟨rfl, rfl⟩ | ⟨rfl, rfl⟩
  · obtain ⟨d, rfl⟩ : ∃ e, d = e + 1 := ⟨d - 1, by omega⟩
    unfold zf_121_J19 at h
    obtain ⟨g1, h⟩ := jb_gd_of h
    obtain ⟨g2, h⟩ := jb_gd_of h
    refine jb_seg 29 (pc' := (if x3 = 0 then 80 else 68)) (ls' := [some (.ref 60), some (.int x1), some (.int x2), some (.int x3), some (.int s0), some (.ref 58)]) (st' := [(.int 3), (.ref 58)]) (σ' := (zE L, (jb_up (jb_up (jb_up M 58 0 x1) 58 1 ((jb_up M 58 0 x1) (4 + 8) x1.toNatClampNeg)) 58 2 ((jb_up (jb_up M 58 0 x1) 58 1 ((jb_up M 58 0 x1) (4 + 8) x1.toNatClampNeg)) (4 + 9) x1.toNatClampNeg)), N)) (G := [vp_in 0 10, vp_in x1 16, vp_in 1 10, vp_in x1 16, vp_in 2 10]) rfl ⟨(show vp_in 0 10 from (by unfold vp_in; decide)), g1, (show vp_in 1 10 from (by unfold vp_in; decide)), g2, (show vp_in 2 10 from (by unfold vp_in; decide))⟩ ?_
    refine jb_ite (fun c => ?_) (fun c => ?_)
    · rw [if_pos c] at h
      refine jb_seg 1 (pc' := 81) (ls' := [some (.ref 60), some (.int x1), some (.int x2), some (.int x3), some (.int s0), some (.ref 58)]) (st' := [(.int 0), (.int 3), (.ref 58)]) (σ' := (zE L, (jb_up (jb_up (jb_up M 58 0 x1) 58 1 ((jb_up M 58 0 x1) (4 + 8) x1.toNatClampNeg)) 58 2 ((jb_up (jb_up M 58 0 x1) 58 1 ((jb_up M 58 0 x1) (4 + 8) x1.toNatClampNeg)) (4 + 9) x1.toNatClampNeg)), N)) (G := []) rfl trivial ?_
      exact jb_mask [true, false, true, true, true, true] rfl (zg_121_J81 hd 60 4 x2 x3 s0 3 0 (jb_up (jb_up (jb_up M 58 0 x1) 58 1 ((jb_up M 58 0 x1) (4 + 8) x1.toNatClampNeg)) 58 2 ((jb_up (jb_up M 58 0 x1) 58 1 ((jb_up M 58 0 x1) (4 + 8) x1.toNatClampNeg)) (4 + 9) x1.toNatClampNeg)) N (by decide) h hK)
    · rw [if_neg c] at h
      obtain ⟨g9, h⟩ := jb_gd_of h
      refine jb_seg 7 (pc' := 81) (ls' := [some (.ref 60), some (.int x1), some (.int x2), some (.int x3), some (.int s0), some (.ref 58)]) (st' := [(.int (((jb_up (jb_up (jb_up M 58 0 x1) 58 1 ((jb_up M 58 0 x1) (4 + 8) x1.toNatClampNeg)) 58 2 ((jb_up (jb_up M 58 0 x1) 58 1 ((jb_up M 58 0 x1) (4 + 8) x1.toNatClampNeg)) (4 + 9) x1.toNatClampNeg)) (60 + 1) x2.toNatClampNeg) / 64)), (.int 3), (.ref 58)]) (σ' := (zE L, (jb_up (jb_up (jb_up M 58 0 x1) 58 1 ((jb_up M 58 0 x1) (4 + 8) x1.toNatClampNeg)) 58 2 ((jb_up (jb_up M 58 0 x1) 58 1 ((jb_up M 58 0 x1) (4 + 8) x1.toNatClampNeg)) (4 + 9) x1.toNatClampNeg)), N)) (G := [vp_in x2 24, ¬ (64 : Int32) = 0]) rfl ⟨g9, (show ¬ (64 : Int32) = 0 from (by decide))⟩ ?_
      exact jb_mask [true, false, true, true, true, true] rfl (zg_121_J81 hd 60 4 x2 x3 s0 3 (((jb_up (jb_up (jb_up M 58 0 x1) 58 1 ((jb_up M 58 0 x1) (4 + 8) x1.toNatClampNeg)) 58 2 ((jb_up (jb_up M 58 0 x1) 58 1 ((jb_up M 58 0 x1) (4 + 8) x1.toNatClampNeg)) (4 + 9) x1.toNatClampNeg)) (60 + 1) x2.toNatClampNeg) / 64) (jb_up (jb_up (jb_up M 58 0 x1) 58 1 ((jb_up M 58 0 x1) (4 + 8) x1.toNatClampNeg)) 58 2 ((jb_up (jb_up M 58 0 x1) 58 1 ((jb_up M 58 0 x1) (4 + 8) x1.toNatClampNeg)) (4 + 9) x1.toNatClampNeg)) N (by decide) h hK)
  · obtain ⟨d, rfl⟩ : ∃ e, d = e + 1 := ⟨d - 1, by omega⟩
    unfold zf_121_J19 at h
    obtain ⟨g1, h⟩ := jb_gd_of h
    obtain ⟨g2, h⟩ := jb_gd_of h
    refine jb_seg 29 (pc' := (if x3 = 0 then 80 else 68)) (ls' := [some (.ref 62), some (.int x1), some (.int x2), some (.int x3), some (.int s0), some (.ref 58)]) (st' := [(.int 3), (.ref 58)]) (σ' := (zE L, (jb_up (jb_up (jb_up M 58 0 x1) 58 1 ((jb_up M 58 0 x1) (24 + 8) x1.toNatClampNeg)) 58 2 ((jb_up (jb_up M 58 0 x1) 58 1 ((jb_up M 58 0 x1) (24 + 8) x1.toNatClampNeg)) (24 + 9) x1.toNatClampNeg)), N)) (G := [vp_in 0 10, vp_in x1 16, vp_in 1 10, vp_in x1 16, vp_in 2 10]) rfl ⟨(show vp_in 0 10 from (by unfold vp_in; decide)), g1, (show vp_in 1 10 from (by unfold vp_in; decide)), g2, (show vp_in 2 10 from (by unfold vp_in; decide))⟩ ?_
    refine jb_ite (fun c => ?_) (fun c => ?_)
    · rw [if_pos c] at h
      refine jb_seg 1 (pc' := 81) (ls' := [some (.ref 62), some (.int x1), some (.int x2), some (.int x3), some (.int s0), some (.ref 58)]) (st' := [(.int 0), (.int 3), (.ref 58)]) (σ' := (zE L, (jb_up (jb_up (jb_up M 58 0 x1) 58 1 ((jb_up M 58 0 x1) (24 + 8) x1.toNatClampNeg)) 58 2 ((jb_up (jb_up M 58 0 x1) 58 1 ((jb_up M 58 0 x1) (24 + 8) x1.toNatClampNeg)) (24 + 9) x1.toNatClampNeg)), N)) (G := []) rfl trivial ?_
      exact jb_mask [true, false, true, true, true, true] rfl (zg_121_J81 hd 62 24 x2 x3 s0 3 0 (jb_up (jb_up (jb_up M 58 0 x1) 58 1 ((jb_up M 58 0 x1) (24 + 8) x1.toNatClampNeg)) 58 2 ((jb_up (jb_up M 58 0 x1) 58 1 ((jb_up M 58 0 x1) (24 + 8) x1.toNatClampNeg)) (24 + 9) x1.toNatClampNeg)) N (by decide) h hK)
    · rw [if_neg c] at h
      obtain ⟨g9, h⟩ := jb_gd_of h
      refine jb_seg 7 (pc' := 81) (ls' := [some (.ref 62), some (.int x1), some (.int x2), some (.int x3), some (.int s0), some (.ref 58)]) (st' := [(.int (((jb_up (jb_up (jb_up M 58 0 x1) 58 1 ((jb_up M 58 0 x1) (24 + 8) x1.toNatClampNeg)) 58 2 ((jb_up (jb_up M 58 0 x1) 58 1 ((jb_up M 58 0 x1) (24 + 8) x1.toNatClampNeg)) (24 + 9) x1.toNatClampNeg)) (62 + 1) x2.toNatClampNeg) / 64)), (.int 3), (.ref 58)]) (σ' := (zE L, (jb_up (jb_up (jb_up M 58 0 x1) 58 1 ((jb_up M 58 0 x1) (24 + 8) x1.toNatClampNeg)) 58 2 ((jb_up (jb_up M 58 0 x1) 58 1 ((jb_up M 58 0 x1) (24 + 8) x1.toNatClampNeg)) (24 + 9) x1.toNatClampNeg)), N)) (G := [vp_in x2 24, ¬ (64 : Int32) = 0]) rfl ⟨g9, (show ¬ (64 : Int32) = 0 from (by decide))⟩ ?_
      exact jb_mask [true, false, true, true, true, true] rfl (zg_121_J81 hd 62 24 x2 x3 s0 3 (((jb_up (jb_up (jb_up M 58 0 x1) 58 1 ((jb_up M 58 0 x1) (24 + 8) x1.toNatClampNeg)) 58 2 ((jb_up (jb_up M 58 0 x1) 58 1 ((jb_up M 58 0 x1) (24 + 8) x1.toNatClampNeg)) (24 + 9) x1.toNatClampNeg)) (62 + 1) x2.toNatClampNeg) / 64) (jb_up (jb_up (jb_up M 58 0 x1) 58 1 ((jb_up M 58 0 x1) (24 + 8) x1.toNatClampNeg)) 58 2 ((jb_up (jb_up M 58 0 x1) 58 1 ((jb_up M 58 0 x1) (24 + 8) x1.toNatClampNeg)) (24 + 9) x1.toNatClampNeg)) N (by decide) h hK)
set_option maxRecDepth 4000 in
theorem zg_121 {Γ : jb_G} {L : Nat} {d : Nat} (hd : 1 ≤ d) (w : Nat) (o : Nat) (x1 : Int32) (x2 : Int32) (M : jb_Mi) (N : jb_Ml) (hp : (w = 60 ∧ o = 4) ∨ (w = 62 ∧ o = 24)) {v : Option Value} {σ2 : jb_S} {r : (jb_Mi)} (h : zf_121 w o x1 x2 M = some r) (hK : (fun r : jb_Mi => v = none ∧ σ2 = (zE L, r, N)) r) : jb_V Γ d zq_121 0 [some (.ref w), some (.int x1), some (.int x2), none, none, none] [] (zE L, M, N) v σ2 := by
  rcases hp with ⟨rfl, rfl⟩ | ⟨rfl, rfl⟩
  · obtain ⟨d, rfl⟩ : ∃ e, d = e + 1 := ⟨d - 1, by omega⟩
    unfold zf_121 at h
    refine jb_seg 3 (pc' := 4) (ls' := [some (.ref 60), some (.int x1), some (.int x2), none, none, none]) (st' := [(.int 23), (.int 0), (.int x2)]) (σ' := (zE L, M, N)) (G := []) rfl trivial ?_
    refine jb_callS (q' := zq_23) (As := [(.int x2), (.int 0), (.int 23)]) (rest := []) (σ1 := (zE L, M, N)) (v := some (.int (jb_b2i (zf_23 x2 0 23)))) rfl (by decide) rfl zp_23 (jb_cat rfl) (Nat.le_of_ble_eq_true rfl) (Nat.le_of_ble_eq_true rfl) (Or.inl rfl) rfl (ze_23 x2 0 23 M N rfl) ?_
    refine jb_seg 3 (pc' := (if (jb_b2i (zf_23 x2 0 23)) = 0 then 18 else 12)) (ls' := [some (.ref 60), some (.int x1), some (.int x2), some (.int (jb_b2i (zf_23 x2 0 23))), none, none]) (st' := []) (σ' := (zE L, M, N)) (G := []) rfl trivial ?_
    refine jb_ite (fun c => ?_) (fun c => ?_)
    · rw [if_pos c] at h
      refine jb_seg 1 (pc' := 19) (ls' := [some (.ref 60), some (.int x1), some (.int x2), some (.int (jb_b2i (zf_23 x2 0 23))), none, none]) (st' := [(.int 0)]) (σ' := (zE L, M, N)) (G := []) rfl trivial ?_
      exact jb_mask [true, true, true, true, false, false] rfl (zg_121_J19 hd 60 4 x1 x2 (jb_b2i (zf_23 x2 0 23)) 0 M N (by decide) h hK)
    · rw [if_neg c] at h
      refine jb_seg 4 (pc' := 19) (ls' := [some (.ref 60), some (.int x1), some (.int x2), some (.int (jb_b2i (zf_23 x2 0 23))), none, none]) (st' := [(.int (x2 / 4))]) (σ' := (zE L, M, N)) (G := [¬ (4 : Int32) = 0]) rfl (show ¬ (4 : Int32) = 0 from (by decide)) ?_
      exact jb_mask [true, true, true, true, false, false] rfl (zg_121_J19 hd 60 4 x1 x2 (jb_b2i (zf_23 x2 0 23)) (x2 / 4) M N (by decide) h hK)
  · obtain ⟨d, rfl⟩ : ∃ e, d = e + 1 := ⟨d - 1, by omega⟩
    unfold zf_121 at h
    refine jb_seg 3 (pc' := 4) (ls' := [some (.ref 62), some (.int x1), some (.int x2), none, none, none]) (st' := [(.int 23), (.int 0), (.int x2)]) (σ' := (zE L, M, N)) (G := []) rfl trivial ?_
    refine jb_callS (q' := zq_23) (As := [(.int x2), (.int 0), (.int 23)]) (rest := []) (σ1 := (zE L, M, N)) (v := some (.int (jb_b2i (zf_23 x2 0 23)))) rfl (by decide) rfl zp_23 (jb_cat rfl) (Nat.le_of_ble_eq_true rfl) (Nat.le_of_ble_eq_true rfl) (Or.inl rfl) rfl (ze_23 x2 0 23 M N rfl) ?_
    refine jb_seg 3 (pc' := (if (jb_b2i (zf_23 x2 0 23)) = 0 then 18 else 12)) (ls' := [some (.ref 62), some (.int x1), some (.int x2), some (.int (jb_b2i (zf_23 x2 0 23))), none, none]) (st' := []) (σ' := (zE L, M, N)) (G := []) rfl trivial ?_
    refine jb_ite (fun c => ?_) (fun c => ?_)
    · rw [if_pos c] at h
      refine jb_seg 1 (pc' := 19) (ls' := [some (.ref 62), some (.int x1), some (.int x2), some (.int (jb_b2i (zf_23 x2 0 23))), none, none]) (st' := [(.int 0)]) (σ' := (zE L, M, N)) (G := []) rfl trivial ?_
      exact jb_mask [true, true, true, true, false, false] rfl (zg_121_J19 hd 62 24 x1 x2 (jb_b2i (zf_23 x2 0 23)) 0 M N (by decide) h hK)
    · rw [if_neg c] at h
      refine jb_seg 4 (pc' := 19) (ls' := [some (.ref 62), some (.int x1), some (.int x2), some (.int (jb_b2i (zf_23 x2 0 23))), none, none]) (st' := [(.int (x2 / 4))]) (σ' := (zE L, M, N)) (G := [¬ (4 : Int32) = 0]) rfl (show ¬ (4 : Int32) = 0 from (by decide)) ?_
      exact jb_mask [true, true, true, true, false, false] rfl (zg_121_J19 hd 62 24 x1 x2 (jb_b2i (zf_23 x2 0 23)) (x2 / 4) M N (by decide) h hK)
theorem ze_121 {Γ : jb_G} {L : Nat} {d : Nat} (hd : 1 ≤ d) (w : Nat) (o : Nat) (x1 : Int32) (x2 : Int32) (M : jb_Mi) (N : jb_Ml) (hp : (w = 60 ∧ o = 4) ∨ (w = 62 ∧ o = 24)) {r : (jb_Mi)} (h : zf_121 w o x1 x2 M = some r) : jb_V Γ d zq_121 0 (jb_en 6 [(.ref w), (.int x1), (.int x2)]) [] (zE L, M, N) (none) (zE L, r, N) := zg_121 hd w o x1 x2 M N hp h ⟨rfl, rfl⟩
