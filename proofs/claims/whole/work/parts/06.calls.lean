/-! the calls -/
def jb_rok (n : Nat) : Value → Bool
  | .ref k => Nat.blt k n
  | _ => true
def jb_lok (n : Nat) : jb_Ls → Bool
  | [] => true
  | some v :: r => jb_rok n v && jb_lok n r
  | none :: r => jb_lok n r
def jb_vok (n : Nat) : List Value → Bool
  | [] => true
  | v :: r => jb_rok n v && jb_vok n r
theorem jb_rok_tv {n : Nat} {ad ad1 : Nat → Nat} (h : ∀ k, k < n → ad1 k = ad k) : ∀ {v : Value}, jb_rok n v = true → jb_tv ad1 v = jb_tv ad v
  | .ref k, hv => by
    show Value.ref (ad1 k) = Value.ref (ad k)
    rw [h k (Nat.le_of_ble_eq_true hv)]
  | .int _, _ => rfl
  | .long _, _ => rfl
  | .float _, _ => rfl
  | .double _, _ => rfl
  | .null, _ => rfl
  | .retAddr _, _ => rfl
theorem jb_vok_tv {n : Nat} {ad ad1 : Nat → Nat} (h : ∀ k, k < n → ad1 k = ad k) : ∀ (l : List Value), jb_vok n l = true → l.map (jb_tv ad1) = l.map (jb_tv ad)
  | [], _ => rfl
  | v :: r, hv => by
    have hv2 : (jb_rok n v && jb_vok n r) = true := hv
    rw [Bool.and_eq_true] at hv2
    rw [List.map_cons, List.map_cons, jb_rok_tv h hv2.1, jb_vok_tv h r hv2.2]
theorem jb_lok_at {n : Nat} : ∀ (l : jb_Ls) (i : Nat) (w : Value), jb_lok n l = true → jb_lk l i = some w → jb_rok n w = true
  | [], i, w, _, h => by simp [jb_lk] at h
  | some v :: r, 0, w, hl, h => by
    have hl2 : (jb_rok n v && jb_lok n r) = true := hl
    rw [Bool.and_eq_true] at hl2
    have e : v = w := Option.some.inj h
    rw [← e]; exact hl2.1
  | none :: r, 0, w, hl, h => by cases h
  | some v :: r, i + 1, w, hl, h => by
    have hl2 : (jb_rok n v && jb_lok n r) = true := hl
    rw [Bool.and_eq_true] at hl2
    exact jb_lok_at r i w hl2.2 h
  | none :: r, i + 1, w, hl, h => jb_lok_at r i w hl h
theorem jb_hst {q : jb_Q} {ls : jb_Ls} {rest : List Value} {σ σ1 : jb_S} {ad : Nat → Nat} {lsA : Array Slot} (hL : jb_LR ad lsA q.2.2.2.1 ls) (hf : σ1.1.1.length = σ.1.1.length ∨ (jb_lok σ.1.1.length ls && jb_vok σ.1.1.length rest) = true) (ad1 : Nat → Nat) (h1 : ∀ k, k < σ.1.1.length → ad1 k = ad k) (h2 : σ1.1.1.length = σ.1.1.length → ad1 = ad) : rest.map (jb_tv ad1) = rest.map (jb_tv ad) ∧ jb_LR ad1 lsA q.2.2.2.1 ls := by
  rcases hf with h | h
  · rw [h2 h]
    exact ⟨rfl, hL⟩
  · rw [Bool.and_eq_true] at h
    refine ⟨jb_vok_tv h1 rest h.2, hL.1, hL.2.1, fun i w hi => ?_⟩
    rw [jb_rok_tv h1 (jb_lok_at ls i w h.1 hi)]
    exact hL.2.2 i w hi
theorem jb_wsg {q : jb_Q} {np : Nat} (hq : jb_okM q np) {l : List Cond} (hl : ∀ w ∈ l, w ∈ jb_zw) : GoodIn jb_zw (l ++ (Cond.code q.2.1 q.2.2.1 q.2.2.2.1 q.2.2.2.2.1 :: jb_zw)) := by
  intro w hw
  rcases List.mem_append.mp hw with h | h
  · exact ⟨hl w h, good_of_word (List.mem_filter.mp (hl w h)).2⟩
  · exact jb_good hq w h
theorem jb_room {d maxL R mc ms : Nat} (h : 100 * (d + 1) ≤ R) (hm : maxL ≤ 80) : 8 + (maxL + 11) + (jb_rm d mc ms).locals ≤ R := by
  show 8 + (maxL + 11) + 100 * d ≤ R
  omega
section
variable {Γ : jb_G} {d : Nat} {q q' : jb_Q} {pc b : Nat} {ls : jb_Ls} {st As rest : List Value} {σ σ1 σ2 : jb_S} {v v2 : Option Value} {idx len ci k nn : Nat} {z : Int32} {zl : Int64}
set_option maxHeartbeats 2000000 in
theorem jb_callV (ht : q.2.2.2.2.2 pc = some (.invokevirtual idx, len, ci, k, z, zl)) (hy : q'.2.1 = zm_y k) (hq : jb_okM q' As.length) (hb : jb_sk σ.1.1 b = some (q'.1 + 10, nn)) (h14 : q'.1 < 14) (hcat : ∀ v ∈ As, v.category = 1) (hlen : As.length + 1 ≤ q'.2.2.2.1) (hsum : jb_sum rest ≤ 8)
    (hf : σ1.1.1.length = σ.1.1.length ∨ (jb_lok σ.1.1.length ls && jb_vok σ.1.1.length rest) = true) (hst : st = As.reverse ++ .ref b :: rest) (he : jb_V Γ d q' 0 (jb_en q'.2.2.2.1 (.ref b :: As)) [] σ v σ1) (hv : jb_V Γ (d + 1) q (pc + 3) ls (v.toList ++ rest) σ1 v2 σ2) : jb_V Γ (d + 1) q pc ls st σ v2 σ2 := by
  refine ⟨Nat.le_trans he.1 hv.1, Nat.le_trans he.2.1 hv.2.1, fun p e R s m args below meth c H locs cells slots ad lsA hC hd hd2 hw hS hL hc hs => ?_⟩
  obtain ⟨hdg, h1, h2, h3, h4⟩ := hC.dec ht
  cases h1
  rw [← hy] at h2 h3 h4
  have hM := jb_met ad hq he (by intro w hw; rcases List.mem_cons.mp hw with rfl | h; rfl; exact hcat w h) (by simpa using hlen)
  have hb0 := jb_ne0 hw hb (by omega)
  have hws := jb_ws_at (aC := Γ.2.2.2.1) (ad := ad) hb hb0
  rw [jb_ce_o] at hws
  have hcls : q'.2.1.cls = zc_nm q'.1 := hq.2.1
  have hl1 := hv.1
  have hl2 := hv.2.1
  have hl3 := he.1
  have hl4 := he.2.1
  refine jb_after (np := As.length) he.1 he.2.1 hv hC hd hd2 hw hS hL hc hs (jb_hst hL hf) (va_runV (As := As.map (jb_tv ad)) (b := ad b) (C := zc_nm q'.1) ⟨hC.1, hC.2.1, hC.2.2.2.1, hC.2.2.2.2.1, hC.2.2.2.2.2.1⟩ hM
    (cwV As.length hC.2.2.2.2.2.1 (jb_wsg hq (fun w hw => ?_)) rfl rfl rfl ⟨hcls, hq.2.2.2.2.2.1.1, hq.2.2.2.2.2.1.2, hq.2.2.2.2.2.2.1⟩ ⟨hd, jb_room hd2 hq.2.2.2.2.2.2.2⟩)
    ⟨jb_blind, va_recv hw.1 hw.2.1 (jb_cl h14) hws, fun U hU hW => ⟨rfl, by rw [hU]; exact hw.moved hW, by rw [hU]; exact hS.1, fun q h => by rw [hU]; exact hS.2.1 q h (Nat.not_le.mpr h)⟩⟩ rfl (by simp) hL.1 ?_ ?_ hdg ⟨by omega, by omega⟩)
  · simp only [List.mem_cons, List.not_mem_nil, or_false] at hw
    rcases hw with rfl | rfl | rfl | rfl
    · exact h2
    · exact h3
    · rw [← hcls]; exact h4
    · exact jb_init (by omega)
  · rw [hst]
    simp [jb_tv]
  · exact lv_room (by rw [jb_sum_tv]; exact hsum)
set_option maxHeartbeats 2000000 in
theorem jb_callS (ht : q.2.2.2.2.2 pc = some (.invokestatic idx, len, ci, k, z, zl)) (hci : ci < 2) (hy : q'.2.1 = zm_y k) (hq : jb_okM q' As.length) (hcat : ∀ v ∈ As, v.category = 1) (hlen : As.length ≤ q'.2.2.2.1) (hsum : jb_sum rest ≤ 8)
    (hf : σ1.1.1.length = σ.1.1.length ∨ (jb_lok σ.1.1.length ls && jb_vok σ.1.1.length rest) = true) (hst : st = As.reverse ++ rest) (he : jb_V Γ d q' 0 (jb_en q'.2.2.2.1 As) [] σ v σ1) (hv : jb_V Γ (d + 1) q (pc + 3) ls (v.toList ++ rest) σ1 v2 σ2) : jb_V Γ (d + 1) q pc ls st σ v2 σ2 := by
  refine ⟨Nat.le_trans he.1 hv.1, Nat.le_trans he.2.1 hv.2.1, fun p e R s m args below meth c H locs cells slots ad lsA hC hd hd2 hw hS hL hc hs => ?_⟩
  obtain ⟨hdg, h1, h2⟩ := hC.dec ht
  cases h1
  rw [← hy] at h2
  have hM := jb_met ad hq he hcat hlen
  have hcls : q'.2.1.cls = zc_nm q'.1 := hq.2.1
  have hl1 := hv.1
  have hl2 := hv.2.1
  have hl3 := he.1
  have hl4 := he.2.1
  have hini : Cond.initialized q'.2.1.cls ∈ jb_zw := by rw [hcls]; exact jb_init hq.2.2.1
  have hp : PreS s H (va_Pc (As.map (jb_tv ad)) (jb_B Γ ad σ)) (As.map (jb_tv ad)) := ⟨jb_blind, fun U hU hW => ⟨rfl, by rw [hU]; exact hw.moved hW, by rw [hU]; exact hS.1, fun q h => by rw [hU]; exact hS.2.1 q h (Nat.not_le.mpr h)⟩⟩
  have hstk : (F0 m pc lsA (st.map (jb_tv ad))).stack = (As.map (jb_tv ad)).reverse ++ rest.map (jb_tv ad) := by rw [hst]; simp
  rcases h2 with ⟨-, h2, h3⟩ | ⟨-, ⟨w0, h2⟩, h3⟩ | ⟨h2, -⟩
  · refine jb_after (np := As.length) he.1 he.2.1 hv hC hd hd2 hw hS hL hc hs (jb_hst hL hf) (va_runS (As := As.map (jb_tv ad)) ⟨hC.1, hC.2.1, hC.2.2.2.1, hC.2.2.2.2.1, hC.2.2.2.2.2.1⟩ hM
      (va_cwS As.length hC.2.2.2.2.2.1 (jb_wsg hq (fun w hw => ?_)) rfl rfl rfl ⟨hq.2.2.2.2.2.1.1, hq.2.2.2.2.2.1.2, hq.2.2.2.2.2.2.1⟩ ⟨hd, jb_room hd2 hq.2.2.2.2.2.2.2⟩)
      hp rfl (by simp) hL.1 hstk (lv_room (by rw [jb_sum_tv]; exact hsum)) hdg ⟨by omega, by omega⟩)
    simp only [List.mem_cons, List.not_mem_nil, or_false] at hw
    rcases hw with rfl | rfl | rfl
    · exact h2
    · exact h3
    · exact hini
  · have hN := hw.2.2.2.2.2.2 _ h2
    dsimp only at hN
    rw [← hy] at hN
    exact jb_after (np := As.length) he.1 he.2.1 hv hC hd hd2 hw hS hL hc hs (jb_hst hL hf) (va_runSN (As := As.map (jb_tv ad)) ⟨hC.1, hC.2.1, hC.2.2.2.1, hC.2.2.2.2.1, hC.2.2.2.2.2.1⟩ hM
      ⟨va_cnB As.length hC.2.2.2.2.2.1 (jb_good hq) rfl rfl rfl hN (hC.2.2.2.2.2.1 _ hini) ⟨hq.2.2.2.2.2.1.1, hq.2.2.2.2.2.1.2, hq.2.2.2.2.2.2.1⟩ ⟨hd, jb_room hd2 hq.2.2.2.2.2.2.2⟩, hC.2.2.2.2.2.1 _ h3, trivial⟩
      hp rfl (by simp) hL.1 hstk (lv_room (by rw [jb_sum_tv]; exact hsum)) hdg ⟨by omega, by omega⟩)
  · have h2 : ci = 2 := h2
    omega
set_option maxHeartbeats 2000000 in
theorem jb_callI (ht : q.2.2.2.2.2 pc = some (.invokespecial idx, len, ci, k, z, zl)) (hci : ci < 2) (hy : q'.2.1 = zm_y k) (hin : q'.2.1.name = "<init>") (hrt : q'.2.2.2.2.1 = none) (hq : jb_okM q' As.length) (hcat : ∀ v ∈ As, v.category = 1) (hlen : As.length + 1 ≤ q'.2.2.2.1) (hsum : jb_sum rest ≤ 8)
    (hf : σ1.1.1.length = σ.1.1.length ∨ (jb_lok σ.1.1.length ls && jb_vok σ.1.1.length rest) = true) (hst : st = As.reverse ++ .ref b :: rest) (he : jb_V Γ d q' 0 (jb_en q'.2.2.2.1 (.ref b :: As)) [] σ v σ1) (hv : jb_V Γ (d + 1) q (pc + 3) ls (v.toList ++ rest) σ1 v2 σ2) : jb_V Γ (d + 1) q pc ls st σ v2 σ2 := by
  refine ⟨Nat.le_trans he.1 hv.1, Nat.le_trans he.2.1 hv.2.1, fun p e R s m args below meth c H locs cells slots ad lsA hC hd hd2 hw hS hL hc hs => ?_⟩
  obtain ⟨hdg, h1, h2⟩ := hC.dec ht
  cases h1
  rw [← hy] at h2
  have hM := jb_met ad hq he (by intro w hw; rcases List.mem_cons.mp hw with rfl | h; rfl; exact hcat w h) (by simpa using hlen)
  have hcls : q'.2.1.cls = zc_nm q'.1 := hq.2.1
  have hl1 := hv.1
  have hl2 := hv.2.1
  have hl3 := he.1
  have hl4 := he.2.1
  have hG := jb_good hq
  rw [hrt] at hM hG
  have hini : Cond.initialized q'.2.1.cls ∈ jb_zw := by rw [hcls]; exact jb_init hq.2.2.1
  have hp : PreS s H (va_Pc ((.ref b :: As).map (jb_tv ad)) (jb_B Γ ad σ)) (.ref (ad b) :: As.map (jb_tv ad)) := ⟨jb_blind, fun U hU hW => ⟨rfl, by rw [hU]; exact hw.moved hW, by rw [hU]; exact hS.1, fun q h => by rw [hU]; exact hS.2.1 q h (Nat.not_le.mpr h)⟩⟩
  have hstk : (F0 m pc lsA (st.map (jb_tv ad))).stack = (As.map (jb_tv ad)).reverse ++ .ref (ad b) :: rest.map (jb_tv ad) := by rw [hst]; simp [jb_tv]
  rcases h2 with ⟨-, h2, h3⟩ | ⟨-, ⟨w0, h2⟩, h3⟩ | ⟨h2, -⟩
  · exact jb_after (np := As.length) he.1 he.2.1 hv hC hd hd2 hw hS hL hc hs (jb_hst hL hf) (va_runI (As := As.map (jb_tv ad)) (b := ad b) ⟨hC.1, hC.2.1, hC.2.2.2.1, hC.2.2.2.2.1, hC.2.2.2.2.2.1⟩ hM
      (cwI As.length hC.2.2.2.2.2.1 hG rfl rfl rfl (hC.2.2.2.2.2.1 _ hini) (hC.2.2.2.2.2.1 _ h2) (hC.2.2.2.2.2.1 _ h3) hin ⟨hq.2.2.2.2.2.1.1, hq.2.2.2.2.2.1.2, hq.2.2.2.2.2.2.1⟩ ⟨hd, jb_room hd2 hq.2.2.2.2.2.2.2⟩)
      hp rfl (by simp) hL.1 hstk (lv_room (by rw [jb_sum_tv]; exact hsum)) hdg ⟨by omega, by omega⟩)
  · have hN := hw.2.2.2.2.2.2 _ h2
    dsimp only at hN
    rw [← hy] at hN
    exact jb_after (np := As.length) he.1 he.2.1 hv hC hd hd2 hw hS hL hc hs (jb_hst hL hf) (va_runIN (As := As.map (jb_tv ad)) (b := ad b) ⟨hC.1, hC.2.1, hC.2.2.2.1, hC.2.2.2.2.1, hC.2.2.2.2.2.1⟩ hM
      ⟨va_cnB As.length hC.2.2.2.2.2.1 hG rfl rfl rfl hN (hC.2.2.2.2.2.1 _ hini) ⟨hq.2.2.2.2.2.1.1, hq.2.2.2.2.2.1.2, hq.2.2.2.2.2.2.1⟩ ⟨hd, jb_room hd2 hq.2.2.2.2.2.2.2⟩, hin, hC.2.2.2.2.2.1 _ h3⟩
      hp rfl (by simp) hL.1 hstk (lv_room (by rw [jb_sum_tv]; exact hsum)) hdg ⟨by omega, by omega⟩)
  · have h2 : ci = 2 := h2
    omega
end
