/-! making cells, constructors' fields, arraycopy, switches -/
theorem jb_w_oi : Cond.instanceMethod objectInit ∈ jb_zw := jb_zw_of (i := 126) (by decide +kernel) rfl
theorem jb_w_oc : Cond.code objectInit ⟨#[0xb1]⟩ 1 none ∈ jb_zw := jb_zw_of (i := 127) (by decide +kernel) rfl
theorem jb_w_as : Cond.static arraycopyName ∈ jb_zw := jb_zw_of (i := 660) (by decide +kernel) rfl
theorem jb_w_an : Cond.native arraycopyName ∈ jb_zw := jb_zw_of (i := 661) (by decide +kernel) rfl
theorem jb_w_ay : Cond.initialized "java/lang/System" ∈ jb_zw := jb_zw_of (i := 117) (by decide +kernel) rfl
theorem jb_w_ai : Cond.arrayClass .int ∈ jb_zw := jb_zw_of (i := 144) (by decide +kernel) rfl
theorem jb_w_al : Cond.arrayClass .long ∈ jb_zw := jb_zw_of (i := 461) (by decide +kernel) rfl
theorem jb_w_ab : Cond.arrayClass .byte ∈ jb_zw := jb_zw_of (i := 1396) (by decide +kernel) rfl
def jb_nw (σ : jb_S) (x : Nat × Nat) : jb_S := ((σ.1.1 ++ [x], fun a => if a = σ.1.1.length then (fun _ => 0) else σ.1.2 a), (fun a => if a = σ.1.1.length then (fun _ => 0) else σ.2.1 a), (fun a => if a = σ.1.1.length then (fun _ => 0) else σ.2.2 a))
def jb_an (ad : Nat → Nat) (n q : Nat) : Nat → Nat := fun k => if k = n then q else ad k
theorem jb_sk_app {l : jb_Sh} {x : Nat × Nat} {a : Nat} (h : a < l.length) : jb_sk (l ++ [x]) a = jb_sk l a := by
  rw [jb_sk_eq, jb_sk_eq, List.getElem?_append_left h]
theorem jb_sk_last {l : jb_Sh} {x : Nat × Nat} : jb_sk (l ++ [x]) l.length = some x := by
  rw [jb_sk_eq]; simp
theorem jb_ws_nw {aC : Nat → ClassId} {ad : Nat → Nat} {σ : jb_S} {x : Nat × Nat} {q : Nat} (h0 : 0 < σ.1.1.length) (hr : ∀ a j, σ.1.2 a j < σ.1.1.length) :
    jb_ws aC (jb_an ad σ.1.1.length q) (jb_nw σ x) = jb_ws aC ad σ ++ [(q, jb_ce aC (jb_an ad σ.1.1.length q) (jb_nw σ x) σ.1.1.length x)] := by
  have hlen : (jb_ws aC ad σ).length = σ.1.1.length - 1 := by simp [jb_ws]
  have hl2 : (jb_nw σ x).1.1.length = σ.1.1.length + 1 := by simp [jb_nw]
  apply List.ext_getElem?
  intro j
  by_cases hj : j < σ.1.1.length - 1
  · rw [List.getElem?_append_left (by rw [hlen]; exact hj)]
    simp only [jb_ws, List.getElem?_map]
    rw [List.getElem?_range (by rw [hl2]; omega), List.getElem?_range hj]
    simp only [Option.map_some]
    have hne : ¬ j + 1 = σ.1.1.length := by omega
    have e1 : jb_sk (jb_nw σ x).1.1 (j + 1) = jb_sk σ.1.1 (j + 1) := jb_sk_app (by omega)
    have e2 : jb_an ad σ.1.1.length q (j + 1) = ad (j + 1) := if_neg hne
    have e3 : (jb_nw σ x).2.1 (j + 1) = σ.2.1 (j + 1) := if_neg hne
    have e4 : (jb_nw σ x).2.2 (j + 1) = σ.2.2 (j + 1) := if_neg hne
    have e5 : ∀ ci, jb_fv (jb_an ad σ.1.1.length q) (jb_nw σ x).1.2 (jb_nw σ x).2.1 ci (j + 1) = jb_fv ad σ.1.2 σ.2.1 ci (j + 1) := by
      intro ci
      funext k
      unfold jb_fv
      rw [e3]
      have e6 : (jb_nw σ x).1.2 (j + 1) = σ.1.2 (j + 1) := if_neg hne
      rw [e6]
      have e7 : jb_tr (jb_an ad σ.1.1.length q) (σ.1.2 (j + 1) k) = jb_tr ad (σ.1.2 (j + 1) k) := by
        unfold jb_tr jb_an
        have := hr (j + 1) k
        rw [if_neg (show ¬ σ.1.2 (j + 1) k = σ.1.1.length by omega)]
      rw [e7]
    rw [e1, e2]
    unfold jb_ce
    rw [e3, e4, e5]
  · by_cases hj2 : j = σ.1.1.length - 1
    · subst hj2
      rw [List.getElem?_append_right (by rw [hlen]; omega), hlen, Nat.sub_self]
      have h1 := jb_ws_at (aC := aC) (ad := jb_an ad σ.1.1.length q) (σ := jb_nw σ x) (a := σ.1.1.length) (x := x) jb_sk_last (by omega)
      rw [h1]
      simp [jb_an]
    · rw [List.getElem?_eq_none (by simp only [jb_ws, List.length_map, List.length_range]; rw [hl2]; omega), List.getElem?_eq_none (by rw [List.length_append, hlen]; simp; omega)]
theorem jb_w.nw {Γ : jb_G} {ad : Nat → Nat} {σ : jb_S} {x : Nat × Nat} {s : State} {H H1 : Heap} {q : Nat} (hw : jb_w Γ ad σ s H) (hx : x.1 = 0 ∨ x.1 = 1 ∨ x.1 = 2 ∨ (10 ≤ x.1 ∧ x.1 - 10 < 14 ∧ x.2 = jb_nF (x.1 - 10)))
    (hP : va_P Γ.2.2.1 zc_cls (jb_ws Γ.2.2.2.1 ad σ ++ [(q, jb_ce Γ.2.2.2.1 (jb_an ad σ.1.1.length q) (jb_nw σ x) σ.1.1.length x)]) H1) (hD : va_D (fun q => Γ.2.1.size ≤ q) (jb_ws Γ.2.2.2.1 ad σ ++ [(q, jb_ce Γ.2.2.2.1 (jb_an ad σ.1.1.length q) (jb_nw σ x) σ.1.1.length x)])) : jb_w Γ (jb_an ad σ.1.1.length q) (jb_nw σ x) s H1 := by
  obtain ⟨hK, -, -, ⟨x1, x2, x3, x4, x5⟩, hr, hk, hn⟩ := hw
  have h0 : 0 < σ.1.1.length := jb_sk_lt x4
  have e := jb_ws_nw (aC := Γ.2.2.2.1) (ad := ad) (x := x) (q := q) h0 hr
  have hl2 : (jb_nw σ x).1.1.length = σ.1.1.length + 1 := by simp [jb_nw]
  refine ⟨hK, by rw [e]; exact hP, by rw [e]; exact hD, ⟨x1, x2, ?_, ?_, fun j hj => ?_⟩, fun a j => ?_, fun a y hy ha => ?_, hn⟩
  · show (if 0 = σ.1.1.length then q else ad 0) = _
    rw [if_neg (by omega)]; exact x3
  · show jb_sk (σ.1.1 ++ [x]) 0 = _
    rw [jb_sk_app h0]; exact x4
  · show (if 0 = σ.1.1.length then (fun _ => 0) else σ.2.1 0) j = _
    rw [if_neg (by omega)]; exact x5 j hj
  · rw [hl2]
    show (if a = σ.1.1.length then (fun _ => 0) else σ.1.2 a) j < _
    split
    · show 0 < _
      omega
    · have := hr a j; omega
  · by_cases hl : a < σ.1.1.length
    · rw [show jb_sk (jb_nw σ x).1.1 a = jb_sk σ.1.1 a from jb_sk_app hl] at hy
      exact hk a y hy ha
    · have h2 := jb_sk_lt hy
      rw [hl2] at h2
      have h3 : a = σ.1.1.length := by omega
      subst h3
      rw [show jb_sk (jb_nw σ x).1.1 σ.1.1.length = some x from jb_sk_last] at hy
      cases hy
      exact hx
theorem jb_slo_app (l : jb_Sh) (x : Nat × Nat) : jb_slo (l ++ [x]) = jb_slo l + x.2 := by simp [jb_slo]
section
variable {Γ : jb_G} {d : Nat} {q : jb_Q} {pc : Nat} {ls : jb_Ls} {st rest : List Value} {σ σ2 : jb_S} {v2 : Option Value} {idx len ci k nn : Nat} {z : Int32} {zl : Int64}
/-- a new cell was made: on in the greater world -/
theorem jb_made {x : Nat × Nat} {pc' : Nat} (hv : jb_V Γ d q pc' ls (.ref σ.1.1.length :: rest) (jb_nw σ x) v2 σ2) (hf : (jb_lok σ.1.1.length ls && jb_vok σ.1.1.length rest) = true)
    {p : Program} {e : Env} {R : Room} {s : State} {m : MethodId} {args : Array Value} {below : List Frame} {meth : Method} {c : Code} {H1 : Heap} {locs : List Loc} {cells slots : Nat} {ad : Nat → Nat} {lsA : Array Slot} {a : Nat}
    (hC : jb_C q p s m args meth c) (hd : d ≤ R.frames) (hd2 : 100 * d ≤ R.locals) (hw : jb_w Γ (jb_an ad σ.1.1.length a) (jb_nw σ x) s H1) (hS : va_S (fun q => Γ.2.1.size ≤ q) Γ.2.1 H1 locs) (hL : jb_LR ad lsA q.2.2.2.1 ls) (hc : cells + (σ2.1.1.length - σ.1.1.length) ≤ R.cells) (hs : slots + (jb_slo σ2.1.1 - jb_slo σ.1.1) ≤ R.slots) :
    W p Γ.1 e R s m args below meth c H1 locs (cells + 1) (slots + x.2) (MQ below (jb_E Γ σ.1.1.length ad v2 σ2) args s (cells + (σ2.1.1.length - σ.1.1.length)) (slots + (jb_slo σ2.1.1 - jb_slo σ.1.1)) (fun a => Γ.2.1.size ≤ a)) (F0 m pc' lsA (.ref a :: rest.map (jb_tv ad))) := by
  have hl2 : (jb_nw σ x).1.1.length = σ.1.1.length + 1 := by simp [jb_nw]
  have hs2 : jb_slo (jb_nw σ x).1.1 = jb_slo σ.1.1 + x.2 := jb_slo_app _ _
  have h1 := hv.1
  have h2 := hv.2.1
  rw [hl2] at h1
  rw [hs2] at h2
  have hag : ∀ k, k < σ.1.1.length → jb_an ad σ.1.1.length a k = ad k := fun k hk => if_neg (by omega)
  obtain ⟨r1, r2⟩ := jb_hst (q := q) (σ := σ) (σ1 := jb_nw σ x) hL (Or.inr hf) (jb_an ad σ.1.1.length a) hag (fun h => by omega)
  have key := hv.2.2 p e R s m args below meth c H1 locs (cells + 1) (slots + x.2) (jb_an ad σ.1.1.length a) lsA hC hd hd2 hw hS r2 (by rw [hl2]; omega) (by rw [hs2]; omega)
  rw [hl2, hs2, show cells + 1 + (σ2.1.1.length - (σ.1.1.length + 1)) = cells + (σ2.1.1.length - σ.1.1.length) by omega, show slots + x.2 + (jb_slo σ2.1.1 - (jb_slo σ.1.1 + x.2)) = slots + (jb_slo σ2.1.1 - jb_slo σ.1.1) by omega] at key
  have em : (.ref σ.1.1.length :: rest).map (jb_tv (jb_an ad σ.1.1.length a)) = .ref a :: rest.map (jb_tv ad) := by
    rw [List.map_cons, r1]
    show Value.ref (if σ.1.1.length = σ.1.1.length then a else _) :: _ = _
    rw [if_pos rfl]
  rw [em] at key
  refine jb_W_mono (fun t ht => ?_) key
  obtain ⟨o, b2, b3, ⟨ad2, c1, c2, c3, c4⟩, L2, b5, b6⟩ := ht
  exact ⟨o, b2, b3, ⟨ad2, fun k hk => (c1 k (by omega)).trans (hag k hk), fun h => by omega, c3, c4⟩, L2, b5, b6⟩
theorem jb_new (ht : q.2.2.2.2.2 pc = some (.new idx, len, ci, k, z, zl)) (hf : (jb_lok σ.1.1.length ls && jb_vok σ.1.1.length rest) = true) (hv : jb_V Γ d q (pc + 3) ls (.ref σ.1.1.length :: rest) (jb_nw σ (ci + 10, jb_nF ci)) v2 σ2) : jb_V Γ d q pc ls rest σ v2 σ2 := by
  have hl2 : (jb_nw σ (ci + 10, jb_nF ci)).1.1.length = σ.1.1.length + 1 := by simp [jb_nw]
  have hs2 : jb_slo (jb_nw σ (ci + 10, jb_nF ci)).1.1 = jb_slo σ.1.1 + jb_nF ci := jb_slo_app _ _
  have h1 := hv.1
  have h2 := hv.2.1
  rw [hl2] at h1
  rw [hs2] at h2
  refine ⟨by omega, by omega, fun p e R s m args below meth c H locs cells slots ad lsA hC hd hd2 hw hS hL hc hs => ?_⟩
  obtain ⟨hdg, g1, g2, g3⟩ := hC.dec ht
  cases g1
  have g2 : ci < 14 := g2
  have g3 : Cond.classLink (zc_nm q.1) idx (zc_nm ci) ∈ jb_zw := g3
  refine va_new (fs := (List.range (jb_nF ci)).map (jb_fv (fun _ => 0) (fun _ _ => 0) (fun _ _ => 0) ci 0)) hC.1 hC.2.1 hC.2.2.2.2.2.1 (jb_lays g2) (zc_ty ci) (fun k hk => jb_ty g2 hk) hC.2.2.2.2.1 (hC.2.2.2.2.2.1 _ g3) (hC.2.2.2.2.2.1 _ (jb_inst g2)) (hC.2.2.2.2.2.1 _ (jb_init (Nat.lt_of_lt_of_le g2 (by decide)))) hw.1 hw.2.1 hw.2.2.1 hS (fun _ h => h) (jb_cl g2) ?_ (by omega) (by omega) hdg ?_
  · intro j hj
    have e1 : vp_V ((List.range (jb_nF ci)).map (jb_fv (fun _ => 0) (fun _ _ => 0) (fun _ _ => 0) ci 0)) j = jb_fv (fun _ => 0) (fun _ _ => 0) (fun _ _ => 0) ci 0 j := by
      unfold vp_V
      rw [List.getD_eq_getElem?_getD, jb_fs_at hj]
      rfl
    rw [e1]
    unfold jb_fv
    cases hR : jb_isR ci j with
    | true =>
      rw [if_pos rfl]
      unfold jb_isR at hR
      split at hR
      · rename_i h; rw [h]; rfl
      · rename_i h; rw [h]; rfl
      · cases hR
    | false =>
      rw [if_neg (by simp)]
      cases hB : jb_isB ci j with
      | true =>
        unfold jb_isB at hB
        split at hB
        · rename_i h; rw [h]; rfl
        · cases hB
      | false => rw [jb_onlyI g2 hj hR hB]; rfl
  · intro a H1 hP1 hD1 hS1
    have ec : (.inr (ci, (List.range (jb_nF ci)).map (jb_fv (fun _ => 0) (fun _ _ => 0) (fun _ _ => 0) ci 0)) : va_E) = jb_ce Γ.2.2.2.1 (jb_an ad σ.1.1.length a) (jb_nw σ (ci + 10, jb_nF ci)) σ.1.1.length (ci + 10, jb_nF ci) := by
      rw [jb_ce_o]
      congr 3
      funext j
      simp [jb_fv, jb_nw, jb_tr]
    rw [ec] at hP1 hD1
    exact jb_made hv hf hC hd hd2 (hw.nw (Or.inr (Or.inr (Or.inr ⟨by simp, by simpa using g2, by simp⟩))) hP1 hD1) hS1 hL hc hs
theorem jb_newa_g {at_ : ArrayType} {ty : FieldType} {kd N : Nat} {n : Int32} {a0 : vp_A} (ht : q.2.2.2.2.2 pc = some (.newarray at_, len, ci, k, z, zl)) (hty : newarray.typeOf at_ = ty) (hkd : kd < 3) (hw0 : Cond.arrayClass ty ∈ jb_zw) (hn : ¬ n < 0) (hN : n.toNatClampNeg = N) (hb : N ≤ 10000) (ha : ∀ cA : ClassId, vp_cell cA a0 = arrV cA N (fun _ => defaultValue ty))
    (hct : ∀ U cA cB, va_RA U cA ty → va_RA U cB ty → cA = cB) (htys : ∀ aC : Nat → ClassId, (jb_tys aC)[kd]? = some (aC kd, ty)) (hcb : N * componentBytes ty ≤ 536870912) (hce : ∀ (aC : Nat → ClassId) (ad : Nat → Nat), jb_ce aC ad (jb_nw σ (kd, N)) σ.1.1.length (kd, N) = .inl (aC kd, a0))
    (hf : (jb_lok σ.1.1.length ls && jb_vok σ.1.1.length rest) = true) (hv : jb_V Γ d q (pc + 2) ls (.ref σ.1.1.length :: rest) (jb_nw σ (kd, N)) v2 σ2) : jb_V Γ d q pc ls (.int n :: rest) σ v2 σ2 := by
  have hl2 : (jb_nw σ (kd, N)).1.1.length = σ.1.1.length + 1 := by simp [jb_nw]
  have hs2 : jb_slo (jb_nw σ (kd, N)).1.1 = jb_slo σ.1.1 + N := jb_slo_app _ _
  have h1 := hv.1
  have h2 := hv.2.1
  rw [hl2] at h1
  rw [hs2] at h2
  refine ⟨by omega, by omega, fun p e R s m args below meth c H locs cells slots ad lsA hC hd hd2 hw hS hL hc hs => ?_⟩
  obtain ⟨hdg, g1⟩ := hC.dec ht
  cases g1
  refine va_newa hC.1 hC.2.1 (by rw [hty]; exact hC.2.2.2.2.2.1 _ hw0) hty hw.1 hw.2.1 hw.2.2.1 hS (fun _ h => h) ha hn hN hcb (by omega) (by omega) hdg ?_
  intro a cA H1 hK1 hP1 hD1 hS1
  have eA : cA = Γ.2.2.2.1 kd := by
    refine hct s cA _ ((hK1.2 3 (cA, ty) ?_).2) ((hw.1.2 kd _ (htys _)).2)
    simp [jb_tys]
  rw [eA, ← hce Γ.2.2.2.1 (jb_an ad σ.1.1.length a)] at hP1 hD1
  exact jb_made hv hf hC hd hd2 (hw.nw (x := (kd, N)) (by dsimp only; omega) hP1 hD1) hS1 hL hc hs
theorem jb_newai {N : Nat} {n : Int32} (ht : q.2.2.2.2.2 pc = some (.newarray .int, len, ci, k, z, zl)) (hn : ¬ n < 0) (hN : n.toNatClampNeg = N) (hb : N ≤ 10000) (hf : (jb_lok σ.1.1.length ls && jb_vok σ.1.1.length rest) = true) (hv : jb_V Γ d q (pc + 2) ls (.ref σ.1.1.length :: rest) (jb_nw σ (0, N)) v2 σ2) : jb_V Γ d q pc ls (.int n :: rest) σ v2 σ2 :=
  jb_newa_g (ty := .int) (kd := 0) (a0 := (N, .inl (fun _ => 0))) ht rfl (by decide) jb_w_ai hn hN hb (fun _ => rfl) (fun U cA cB h1 h2 => Option.some.inj (h1.symm.trans h2)) (fun _ => rfl) (by simp only [componentBytes]; omega) (fun aC ad => by simp [jb_ce, jb_nw]) hf hv
theorem jb_newab {N : Nat} {n : Int32} (ht : q.2.2.2.2.2 pc = some (.newarray .byte, len, ci, k, z, zl)) (hn : ¬ n < 0) (hN : n.toNatClampNeg = N) (hb : N ≤ 10000) (hf : (jb_lok σ.1.1.length ls && jb_vok σ.1.1.length rest) = true) (hv : jb_V Γ d q (pc + 2) ls (.ref σ.1.1.length :: rest) (jb_nw σ (1, N)) v2 σ2) : jb_V Γ d q pc ls (.int n :: rest) σ v2 σ2 :=
  jb_newa_g (ty := .byte) (kd := 1) (a0 := (N, .inl (fun _ => 0))) ht rfl (by decide) jb_w_ab hn hN hb (fun _ => rfl) (fun U cA cB h1 h2 => Option.some.inj (h1.symm.trans h2)) (fun _ => rfl) (by simp only [componentBytes]; omega) (fun aC ad => by simp [jb_ce, jb_nw]) hf hv
theorem jb_newal {N : Nat} {n : Int32} (ht : q.2.2.2.2.2 pc = some (.newarray .long, len, ci, k, z, zl)) (hn : ¬ n < 0) (hN : n.toNatClampNeg = N) (hb : N ≤ 10000) (hf : (jb_lok σ.1.1.length ls && jb_vok σ.1.1.length rest) = true) (hv : jb_V Γ d q (pc + 2) ls (.ref σ.1.1.length :: rest) (jb_nw σ (2, N)) v2 σ2) : jb_V Γ d q pc ls (.int n :: rest) σ v2 σ2 :=
  jb_newa_g (ty := .long) (kd := 2) (a0 := (N, .inr (.inl (fun _ => 0)))) ht rfl (by decide) jb_w_al hn hN hb (fun _ => rfl) (fun U cA cB h1 h2 => Option.some.inj (h1.symm.trans h2)) (fun _ => rfl) (by simp only [componentBytes]; omega) (fun aC ad => by simp [jb_ce, jb_nw]) hf hv
theorem jb_oinit {a : Nat} (ht : q.2.2.2.2.2 pc = some (.invokespecial idx, len, 2, k, z, zl)) (hsum : jb_sum rest ≤ 8) (hv : jb_V Γ (d + 1) q (pc + 3) ls rest σ v2 σ2) : jb_V Γ (d + 1) q pc ls (.ref a :: rest) σ v2 σ2 := by
  refine ⟨hv.1, hv.2.1, fun p e R s m args below meth c H locs cells slots ad lsA hC hd hd2 hw hS hL hc hs => ?_⟩
  obtain ⟨hdg, g1, g2⟩ := hC.dec ht
  cases g1
  have hlink : Cond.methodLink (zc_nm q.1) idx objectInit ∈ jb_zw := by
    rcases g2 with ⟨g2, -⟩ | ⟨g2, -⟩ | ⟨-, g2⟩
    · exact absurd g2 (by simp)
    · exact absurd g2 (by simp)
    · exact g2
  have hm : 2 * (F0 m pc lsA ((.ref a :: rest).map (jb_tv ad))).monitorRoom + ((rest.map (jb_tv ad)).map fun v => v.category).sum ≤ 8 := lv_room (by rw [jb_sum_tv]; exact hsum)
  exact W.objInit hC.1 hC.2.1 hC.2.2.2.2.1 (hC.2.2.2.2.2.1 _ hlink) (hC.2.2.2.2.2.1 _ jb_w_oi) (hC.2.2.2.2.2.1 _ jb_w_oc) rfl (by rw [hC.2.2.2.1]; exact hL.1) rfl hdg (by omega) (by omega) (hv.2.2 p e R s m args below meth c H locs cells slots ad lsA hC hd hd2 hw hS hL hc hs)
end
theorem jb_fs_setR {ad : Nat → Nat} {rf : jb_Rf} {M : jb_Mi} {ci a k n : Nat} (hR : jb_isR ci k = true) : (List.range (jb_nF ci)).map (jb_fv ad (jb_ur rf a k n) M ci a) = ((List.range (jb_nF ci)).map (jb_fv ad rf M ci a)).set k (jb_tr ad n) := by
  apply List.ext_getElem?
  intro j
  by_cases hj : j < jb_nF ci
  · rw [jb_fs_at hj]
    by_cases hk : j = k
    · subst hk
      rw [List.getElem?_set_self (by simp; exact hj)]
      simp [jb_fv, hR, jb_ur]
    · rw [List.getElem?_set_ne (Ne.symm hk), jb_fs_at hj]
      simp [jb_fv, jb_ur, hk]
  · rw [List.getElem?_eq_none (by simp; omega), List.getElem?_eq_none (by simp; omega)]
section
variable {Γ : jb_G} {d : Nat} {q : jb_Q} {pc : Nat} {ls : jb_Ls} {st rest : List Value} {σ σ2 : jb_S} {v2 : Option Value} {idx len ci k nn : Nat} {z : Int32} {zl : Int64}
/-- a constructor sets a final field to a cell -/
theorem jb_putR {a n : Nat} (ht : q.2.2.2.2.2 pc = some (.putfield idx, len, ci, k, z, zl)) (hin : q.2.1.name = "<init>") (hci : ci = q.1) (hR : jb_isR ci k = true) (hF : jb_fin ci k = true) (hb : jb_sk σ.1.1 a = some (ci + 10, nn)) (hn0 : n ≠ 0) (hn : n < σ.1.1.length)
    (hv : jb_V Γ d q (pc + 3) ls rest ((σ.1.1, jb_ur σ.1.2 a k n), σ.2) v2 σ2) : jb_V Γ d q pc ls (.ref n :: .ref a :: rest) σ v2 σ2 := by
  refine ⟨hv.1, hv.2.1, fun p e R s m args below meth c H locs cells slots ad lsA hC hd hd2 hw hS hL hc hs => ?_⟩
  obtain ⟨hdg, g1, g2, g3, g4⟩ := hC.dec ht
  cases g1
  have g2 : ci < 14 := g2
  have g3 : k < jb_nF ci := g3
  have ha := jb_ne0 hw hb (by omega)
  have he := jb_ws_at (aC := Γ.2.2.2.1) (ad := ad) hb ha
  rw [jb_ce_o] at he
  have hnf : narrow (zc_ty ci k) (.ref (ad n)) = .ref (ad n) ∧ fits (zc_ty ci k) (.ref (ad n)) = true := by
    unfold jb_isR at hR
    split at hR
    · rename_i h; rw [h]; exact ⟨rfl, rfl⟩
    · rename_i h; rw [h]; exact ⟨rfl, rfl⟩
    · cases hR
  refine va_putF (v := .ref (ad n)) (ty := zc_ty ci k) hC.1 hC.2.1 hC.2.2.2.2.2.1 (jb_lays g2) (zc_ty ci) (fun k hk => jb_ty g2 hk) (jb_nd g2) hC.2.2.2.2.1 hw.1 hw.2.1 hw.2.2.1 hS (a - 1) he (jb_cl g2) k g3 (hC.2.2.2.2.2.1 _ g4) (fun x hx => by rw [jb_own g2 g3] at hx; exact hx) hF (hC.2.2.2.2.2.2.2.1.trans hin) (by rw [jb_own g2 g3, hci]) (jb_ty g2 g3) hnf.1 hnf.2 (by simp; exact g3) hdg ?_
  intro H1 locs1 hP1 hD1 hS1
  have et : (.ref (ad n) : Value) = jb_tr ad n := by unfold jb_tr; rw [if_neg hn0]
  rw [et, ← jb_fs_setR hR] at hP1 hD1
  have hws := jb_ws_set (aC := Γ.2.2.2.1) (ad := ad) (σ := σ) (σ' := ((σ.1.1, jb_ur σ.1.2 a k n), σ.2)) rfl hb ha (fun a' y ha' => by
    unfold jb_ce
    dsimp only
    have e3 : jb_fv ad (jb_ur σ.1.2 a k n) σ.2.1 (y.1 - 10) a' = jb_fv ad σ.1.2 σ.2.1 (y.1 - 10) a' := by funext j; simp [jb_fv, jb_ur, ha']
    rw [e3])
  obtain ⟨w1, -, -, ⟨x1, x2, x3, x4, x5⟩, w5, w6, w7⟩ := hw
  refine hv.2.2 p e R s m args below meth c H1 locs1 cells slots ad lsA hC hd hd2 ⟨w1, ?_, ?_, ⟨x1, x2, x3, x4, x5⟩, fun a' j => ?_, w6, w7⟩ hS1 hL hc hs
  · rw [hws, jb_ce_o]; exact hP1
  · rw [hws, jb_ce_o]; exact hD1
  · show (if a' = a ∧ j = k then n else σ.1.2 a' j) < σ.1.1.length
    split
    · exact hn
    · exact w5 a' j
theorem jb_nfw : nativeFrameWords "java/lang/System" "arraycopy" 5 = 7 := by decide +kernel
theorem jb_cp_s {M : jb_Mi} {f t sp dp n : Nat} : jb_cp M f t sp dp n t = va_cpy (M f) (M t) sp dp n := if_pos rfl
theorem jb_cl8_s {M : jb_Ml} {f t sp dp n : Nat} : jb_cl8 M f t sp dp n t = va_cpy (M f) (M t) sp dp n := if_pos rfl
theorem jb_copyi {f t n0 n1 : Nat} {sp dp n : Int32} (ht : q.2.2.2.2.2 pc = some (.invokestatic idx, len, 2, k, z, zl)) (hf : jb_sk σ.1.1 f = some (0, n0)) (hto : jb_sk σ.1.1 t = some (0, n1)) (hg : ¬ sp < 0 ∧ ¬ dp < 0 ∧ ¬ n < 0 ∧ sp.toNatClampNeg + n.toNatClampNeg ≤ n0 ∧ dp.toNatClampNeg + n.toNatClampNeg ≤ n1) (hsum : jb_sum rest ≤ 8)
    (hv : jb_V Γ (d + 1) q (pc + 3) ls rest (σ.1, jb_cp σ.2.1 f t sp.toNatClampNeg dp.toNatClampNeg n.toNatClampNeg, σ.2.2) v2 σ2) : jb_V Γ (d + 1) q pc ls (.int n :: .int dp :: .ref t :: .int sp :: .ref f :: rest) σ v2 σ2 :=
  jb_memo (fun p e R s m args below meth c H locs cells slots ad lsA Q hC hR0 hR1 hw hS hL kk => by
    obtain ⟨hdg, g1, g2⟩ := hC.dec ht
    cases g1
    have hlink : Cond.methodLink (zc_nm q.1) idx arraycopyName ∈ jb_zw := by
      rcases g2 with ⟨g2, -⟩ | ⟨g2, -⟩ | ⟨-, g2⟩
      · exact absurd g2 (by simp)
      · exact absurd g2 (by simp)
      · exact g2
    have hf0 := jb_ne0 hw hf (by decide)
    have ht0 := jb_ne0 hw hto (by decide)
    obtain ⟨c1, c2, c3, c4, c5⟩ := hg
    have hsm := jb_sum_tv ad rest
    refine va_copyi hC.1 hC.2.1 (by rw [hC.2.2.2.1]; exact hL.1.symm) hC.2.2.2.2.1 (hC.2.2.2.2.2.1 _ hlink) (hC.2.2.2.2.2.1 _ jb_w_an) (hC.2.2.2.2.2.1 _ jb_w_as) (hC.2.2.2.2.2.1 _ jb_w_ay) hw.1 hw.2.1 hw.2.2.1 hS (f - 1) (t - 1) 0 0 (jb_ws_at (aC := Γ.2.2.2.1) (ad := ad) hf hf0) (jb_ws_at (aC := Γ.2.2.2.1) (ad := ad) hto ht0) rfl rfl rfl c1 c2 c3 c4 c5 (fun _ _ => rfl) (by omega) (by rw [hsm, jb_nfw]; omega) hdg ?_
    intro H1 locs1 hP1 hD1 hS1
    rw [← jb_cp_s] at hP1 hD1
    exact kk H1 locs1 (hw.put hto ht0 (fun a' h => if_neg h) (fun _ _ => rfl) hP1 hD1) hS1) hv
theorem jb_copyl {f t n0 n1 : Nat} {sp dp n : Int32} (ht : q.2.2.2.2.2 pc = some (.invokestatic idx, len, 2, k, z, zl)) (hf : jb_sk σ.1.1 f = some (2, n0)) (hto : jb_sk σ.1.1 t = some (2, n1)) (hg : ¬ sp < 0 ∧ ¬ dp < 0 ∧ ¬ n < 0 ∧ sp.toNatClampNeg + n.toNatClampNeg ≤ n0 ∧ dp.toNatClampNeg + n.toNatClampNeg ≤ n1) (hsum : jb_sum rest ≤ 8)
    (hv : jb_V Γ (d + 1) q (pc + 3) ls rest (σ.1, σ.2.1, jb_cl8 σ.2.2 f t sp.toNatClampNeg dp.toNatClampNeg n.toNatClampNeg) v2 σ2) : jb_V Γ (d + 1) q pc ls (.int n :: .int dp :: .ref t :: .int sp :: .ref f :: rest) σ v2 σ2 :=
  jb_memo (fun p e R s m args below meth c H locs cells slots ad lsA Q hC hR0 hR1 hw hS hL kk => by
    obtain ⟨hdg, g1, g2⟩ := hC.dec ht
    cases g1
    have hlink : Cond.methodLink (zc_nm q.1) idx arraycopyName ∈ jb_zw := by
      rcases g2 with ⟨g2, -⟩ | ⟨g2, -⟩ | ⟨-, g2⟩
      · exact absurd g2 (by simp)
      · exact absurd g2 (by simp)
      · exact g2
    have hf0 := jb_ne0 hw hf (by decide)
    have ht0 := jb_ne0 hw hto (by decide)
    obtain ⟨c1, c2, c3, c4, c5⟩ := hg
    have hsm := jb_sum_tv ad rest
    refine va_copyl hC.1 hC.2.1 (by rw [hC.2.2.2.1]; exact hL.1.symm) hC.2.2.2.2.1 (hC.2.2.2.2.2.1 _ hlink) (hC.2.2.2.2.2.1 _ jb_w_an) (hC.2.2.2.2.2.1 _ jb_w_as) (hC.2.2.2.2.2.1 _ jb_w_ay) hw.1 hw.2.1 hw.2.2.1 hS (f - 1) (t - 1) 2 2 (jb_ws_at (aC := Γ.2.2.2.1) (ad := ad) hf hf0) (jb_ws_at (aC := Γ.2.2.2.1) (ad := ad) hto ht0) rfl rfl rfl c1 c2 c3 c4 c5 (fun _ _ => rfl) (by omega) (by rw [hsm, jb_nfw]; omega) hdg ?_
    intro H1 locs1 hP1 hD1 hS1
    rw [← jb_cl8_s] at hP1 hD1
    exact kk H1 locs1 (hw.put hto ht0 (fun _ _ => rfl) (fun a' h => if_neg h) hP1 hD1) hS1) hv
end
def jb_sw : List (Int32 × Nat) → Nat → Int32 → Nat
  | [], dflt, _ => dflt
  | (k, p) :: r, dflt, x => if x = k then p else jb_sw r dflt x
def jb_tswOk (pc : Nat) (dflt lo hi : Int) (offs : List Int) (l : List (Int32 × Nat)) (d0 : Nat) : Bool :=
  decide ((pc : Int) + dflt = (d0 : Int)) && decide (hi = lo + offs.length - 1) && Nat.beq l.length offs.length && (List.range offs.length).all (fun j => decide ((l.getD j (0, 0)).1.toInt = lo + j) && decide ((pc : Int) + offs.getD j 0 = ((l.getD j (0, 0)).2 : Int)))
theorem jb_sw_none : ∀ (l : List (Int32 × Nat)) (d0 : Nat) (x : Int32), (∀ q ∈ l, x ≠ q.1) → jb_sw l d0 x = d0
  | [], _, _, _ => rfl
  | (k, p) :: r, d0, x, h => by
    show (if x = k then p else jb_sw r d0 x) = d0
    rw [if_neg (h (k, p) List.mem_cons_self)]
    exact jb_sw_none r d0 x fun q hq => h q (List.mem_cons_of_mem _ hq)
theorem jb_sw_at : ∀ (l : List (Int32 × Nat)) (d0 : Nat) (x : Int32) (j p : Nat), l[j]? = some (x, p) → (∀ i, i < j → ∀ q, l[i]? = some q → x ≠ q.1) → jb_sw l d0 x = p
  | [], d0, x, j, p, h, _ => by simp at h
  | (k, p0) :: r, d0, x, 0, p, h, _ => by
    cases h
    exact if_pos rfl
  | (k, p0) :: r, d0, x, j + 1, p, h, hn => by
    show (if x = k then p0 else jb_sw r d0 x) = p
    rw [if_neg (hn 0 (by omega) _ rfl)]
    exact jb_sw_at r d0 x j p h fun i hi q hq => hn (i + 1) (by omega) q hq
theorem jb_tsw {Γ : jb_G} {d : Nat} {q : jb_Q} {pc : Nat} {ls : jb_Ls} {st : List Value} {σ : jb_S} {v : Option Value} {σ2 : jb_S} {len ci k : Nat} {z : Int32} {zl : Int64} {dflt lo hi : Int} {offs : Array Int} {x : Int32} (l : List (Int32 × Nat)) (d0 : Nat) (ht : q.2.2.2.2.2 pc = some (.tableswitch dflt lo hi offs, len, ci, k, z, zl)) (hok : jb_tswOk pc dflt lo hi offs.toList l d0 = true)
    (hv : jb_V Γ d q (jb_sw l d0 x) ls st σ v σ2) : jb_V Γ d q pc ls (.int x :: st) σ v σ2 :=
  jb_pure (fun p e R s m args below meth c H locs cells slots ad lsA Q hC hw hS hL kk => by
    obtain ⟨hdg, -⟩ := hC.dec ht
    simp only [jb_tswOk, Bool.and_eq_true, decide_eq_true_eq] at hok
    obtain ⟨⟨⟨o1, o2⟩, o3⟩, o4⟩ := hok
    have o3 := Nat.eq_of_beq_eq_true o3
    have key : ∀ j, j < offs.toList.length → ∃ (kx : Int32) (px : Nat) (ox : Int), l[j]? = some (kx, px) ∧ offs.toList[j]? = some ox ∧ kx.toInt = lo + j ∧ (pc : Int) + ox = (px : Int) := by
      intro j hj
      have h1 := jb_rng o4 hj
      simp only [Bool.and_eq_true, decide_eq_true_eq] at h1
      have hl : j < l.length := by rw [o3]; exact hj
      refine ⟨l[j].1, l[j].2, offs.toList[j], by rw [List.getElem?_eq_getElem hl], by rw [List.getElem?_eq_getElem hj], ?_, ?_⟩
      · have := h1.1; rw [List.getD_eq_getElem?_getD, List.getElem?_eq_getElem hl] at this; exact this
      · have := h1.2; rw [List.getD_eq_getElem?_getD, List.getElem?_eq_getElem hj, List.getD_eq_getElem?_getD, List.getElem?_eq_getElem hl] at this; exact this
    by_cases hx : x.toInt < lo ∨ hi < x.toInt
    · rw [jb_sw_none l d0 x] at kk
      · exact lv_tableOut hC.1 hC.2.1 hdg hx o1 kk
      · intro y hy e
        obtain ⟨j, hj⟩ := List.getElem?_of_mem hy
        have hjl := (List.getElem?_eq_some_iff.mp hj).1
        obtain ⟨kx, px, ox, a1, a2, a3, a4⟩ := key j (by rw [← o3]; exact hjl)
        rw [hj] at a1
        cases a1
        rw [e] at hx
        dsimp only at hx
        rw [← o3] at o2
        omega
    · have hj : (x.toInt - lo).toNat < offs.toList.length := by omega
      obtain ⟨kx, px, ox, a1, a2, a3, a4⟩ := key _ hj
      have ek : kx = x := Int32.toInt_inj.mp (by omega)
      subst ek
      rw [jb_sw_at l d0 kx _ px a1] at kk
      · exact lv_tableIn hC.1 hC.2.1 hdg (by omega) (by omega) (by rw [← Array.getElem?_toList]; exact a2) a4 kk
      · intro i hi2 y hy e
        obtain ⟨ky, py, oy, b1, b2, b3, b4⟩ := key i (by omega)
        rw [hy] at b1
        cases b1
        dsimp only at e
        rw [← e] at b3
        omega) hv
def jb_lswOk (pc : Nat) (dflt : Int) : List (Int × Int) → List (Int32 × Nat) → Nat → Bool
  | [], [], d0 => decide ((pc : Int) + dflt = (d0 : Int))
  | (a, o) :: r, (kx, px) :: l, d0 => decide (kx.toInt = a) && decide ((pc : Int) + o = (px : Int)) && jb_lswOk pc dflt r l d0
  | _, _, _ => false
theorem jb_lsw_eq (pc : Nat) (dflt : Int) (x : Int32) (d0 : Nat) : ∀ (ps : List (Int × Int)) (l : List (Int32 × Nat)), jb_lswOk pc dflt ps l d0 = true → (pc : Int) + Op.lookupswitch.offset ps dflt x.toInt = (jb_sw l d0 x : Int)
  | [], [], h => by
    have h : ((pc : Int) + dflt = (d0 : Int)) := by simpa [jb_lswOk] using h
    exact h
  | (a, o) :: r, (kx, px) :: l, h => by
    simp only [jb_lswOk, Bool.and_eq_true, decide_eq_true_eq] at h
    obtain ⟨⟨h1, h2⟩, h3⟩ := h
    by_cases e : x = kx
    · subst e
      have : jb_sw ((x, px) :: l) d0 x = px := if_pos rfl
      rw [this, ← h2, ← h1]
      simp [Op.lookupswitch.offset]
    · have : jb_sw ((kx, px) :: l) d0 x = jb_sw l d0 x := if_neg e
      rw [this, lv_osw e h1]
      exact jb_lsw_eq pc dflt x d0 r l h3
  | [], _ :: _, h => by simp [jb_lswOk] at h
  | _ :: _, [], h => by simp [jb_lswOk] at h
theorem jb_lsw {Γ : jb_G} {d : Nat} {q : jb_Q} {pc : Nat} {ls : jb_Ls} {st : List Value} {σ : jb_S} {v : Option Value} {σ2 : jb_S} {len ci k : Nat} {z : Int32} {zl : Int64} {dflt : Int} {ps : Array (Int × Int)} {x : Int32} (l : List (Int32 × Nat)) (d0 : Nat) (ht : q.2.2.2.2.2 pc = some (.lookupswitch dflt ps, len, ci, k, z, zl)) (hp : (ps.toList.zip (ps.toList.drop 1)).all (fun (a, next) => a.1 < next.1) = true) (hok : jb_lswOk pc dflt ps.toList l d0 = true)
    (hv : jb_V Γ d q (jb_sw l d0 x) ls st σ v σ2) : jb_V Γ d q pc ls (.int x :: st) σ v σ2 :=
  jb_pure (fun p e R s m args below meth c H locs cells slots ad lsA Q hC hw hS hL kk => by
    obtain ⟨hdg, -⟩ := hC.dec ht
    exact lv_lookup hC.1 hC.2.1 hdg hp rfl (jb_lsw_eq pc dflt x d0 _ l hok) kk) hv
