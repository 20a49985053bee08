/-! facts of the class tables, and how the world moves when a cell is written -/
theorem jb_all {α : Type} {l : List α} {f : α → Bool} (h : l.all f = true) {x : α} (hx : x ∈ l) : f x = true := List.all_eq_true.mp h x hx
theorem jb_rng {n : Nat} {f : Nat → Bool} (h : (List.range n).all f = true) {k : Nat} (hk : k < n) : f k = true := List.all_eq_true.mp h k (List.mem_range.mpr hk)
theorem jb_cl {c : Nat} (h : c < 14) : zc_cls[c]? = some (zc_nm c, (zc_cls.getD c ("", zc_T0, 0)).2.1, jb_nF c) := by
  have h1 := jb_rng zt_ow h
  simp only [Bool.and_eq_true, decide_eq_true_eq] at h1
  have hl : c < zc_cls.length := by rw [zt_len]; exact h
  have e : zc_cls.getD c ("", zc_T0, 0) = zc_cls[c] := by simp [List.getD, hl]
  rw [List.getElem?_eq_getElem hl, ← e, ← h1.1]
  rfl
theorem jb_own {c k : Nat} (h : c < 14) (hk : k < jb_nF c) : ((zc_cls.getD c ("", zc_T0, 0)).2.1 k).1 = zc_nm c := by
  have h1 := jb_rng zt_ow h
  simp only [Bool.and_eq_true, decide_eq_true_eq] at h1
  have h2 := jb_rng h1.2 hk
  simpa using h2
theorem jb_ty {c k : Nat} (h : c < 14) (hk : k < jb_nF c) : parseFieldDescriptor ((zc_cls.getD c ("", zc_T0, 0)).2.1 k).2.2.1 = some (zc_ty c k) := by
  have h2 := jb_rng (jb_rng zt_ty h) hk
  simpa using h2
theorem jb_nd {c : Nat} (h : c < 14) : ∀ a, a < jb_nF c → ∀ b, b < jb_nF c → a ≠ b → ((zc_cls.getD c ("", zc_T0, 0)).2.1 a).2.1 ≠ ((zc_cls.getD c ("", zc_T0, 0)).2.1 b).2.1 := by
  intro a ha b hb hab
  have h2 := jb_rng (jb_rng (jb_rng zt_nd h) ha) hb
  simpa [hab] using h2
theorem jb_lays {c : Nat} (h : c < 14) : ∀ w ∈ u_ws (zc_nm c) (zc_cls.getD c ("", zc_T0, 0)).2.1 (jb_nF c), w ∈ jb_zw := by
  intro w hw
  obtain ⟨k, hk, rfl⟩ := List.mem_map.mp hw
  have h2 := jb_rng (jb_rng zt_L2 h) (List.mem_range.mp hk)
  obtain ⟨x, hx, hx2⟩ := List.any_eq_true.mp h2
  simp only [Bool.and_eq_true, beq_iff_eq] at hx2
  have h3 := jb_all zt_L hx
  rw [hx2.1, hx2.2] at h3
  refine jb_zw_of (i := x.1) (by simpa using h3) ?_
  unfold u_lay
  split <;> rfl
theorem jb_inst {c : Nat} (h : c < 14) : Cond.instantiable (zc_nm c) (jb_nF c) ∈ jb_zw := by
  have h0 : (List.range 14).all (fun c => zl_B.any (fun x => x.2.1 == c)) = true := by decide +kernel
  obtain ⟨x, hx, hx2⟩ := List.any_eq_true.mp (jb_rng h0 h)
  have h3 := jb_all zt_B hx
  simp only [Bool.and_eq_true, decide_eq_true_eq, beq_iff_eq] at h3 hx2
  rw [hx2] at h3
  rw [show jb_nF c = x.2.2 from h3.2]
  exact jb_zw_of h3.1 rfl
theorem jb_init {c : Nat} (h : c < 18) : Cond.initialized (zc_nm c) ∈ jb_zw := by
  have h0 : (List.range 18).all (fun c => zl_A.any (fun x => x.2 == c)) = true := by decide +kernel
  obtain ⟨x, hx, hx2⟩ := List.any_eq_true.mp (jb_rng h0 h)
  have h3 := jb_all zt_A hx
  simp only [decide_eq_true_eq, beq_iff_eq] at h3 hx2
  rw [hx2] at h3
  exact jb_zw_of h3 rfl
def jb_up (M : jb_Mi) (a j : Nat) (x : Int32) : jb_Mi := fun a' => if a' = a then upd (M a) j x else M a'
def jb_ul (N : jb_Ml) (a j : Nat) (x : Int64) : jb_Ml := fun a' => if a' = a then vp_updL (N a) j x else N a'
def jb_ur (rf : jb_Rf) (a j n : Nat) : jb_Rf := fun a' j' => if a' = a ∧ j' = j then n else rf a' j'
def jb_cp (M : jb_Mi) (f t sp dp n : Nat) : jb_Mi := fun a' => if a' = t then va_cpy (M f) (M t) sp dp n else M a'
def jb_cl8 (N : jb_Ml) (f t sp dp n : Nat) : jb_Ml := fun a' => if a' = t then va_cpy (N f) (N t) sp dp n else N a'
theorem jb_ws_set {aC : Nat → ClassId} {ad : Nat → Nat} {σ σ' : jb_S} {a : Nat} {x : Nat × Nat} (hs : σ'.1.1 = σ.1.1) (hx : jb_sk σ.1.1 a = some x) (h0 : a ≠ 0) (hne : ∀ a' y, a' ≠ a → jb_ce aC ad σ' a' y = jb_ce aC ad σ a' y) :
    jb_ws aC ad σ' = (jb_ws aC ad σ).set (a - 1) (ad a, jb_ce aC ad σ' a x) := by
  have hl := jb_sk_lt hx
  apply List.ext_getElem?
  intro j
  by_cases hj : j = a - 1
  · subst hj
    rw [List.getElem?_set_self (by simp [jb_ws]; omega), jb_ws_at (σ := σ') (x := x) (by rw [hs]; exact hx) h0]
  · rw [List.getElem?_set_ne (Ne.symm hj)]
    simp only [jb_ws, List.getElem?_map, hs]
    by_cases hb : j < σ.1.1.length - 1
    · rw [List.getElem?_range hb]
      simp only [Option.map_some]
      rw [hne (j + 1) _ (by omega)]
    · rw [List.getElem?_eq_none (by simp; omega)]
      rfl
/-- a write that leaves shapes and references: the new world -/
theorem jb_w.put {Γ : jb_G} {ad : Nat → Nat} {σ : jb_S} {M' : jb_Mi} {N' : jb_Ml} {s : State} {H H1 : Heap} {a : Nat} {x : Nat × Nat} (hw : jb_w Γ ad σ s H) (hx : jb_sk σ.1.1 a = some x) (h0 : a ≠ 0) (hM : ∀ a', a' ≠ a → M' a' = σ.2.1 a') (hN : ∀ a', a' ≠ a → N' a' = σ.2.2 a')
    (hP : va_P Γ.2.2.1 zc_cls ((jb_ws Γ.2.2.2.1 ad σ).set (a - 1) (ad a, jb_ce Γ.2.2.2.1 ad (σ.1, M', N') a x)) H1) (hD : va_D (fun q => Γ.2.1.size ≤ q) ((jb_ws Γ.2.2.2.1 ad σ).set (a - 1) (ad a, jb_ce Γ.2.2.2.1 ad (σ.1, M', N') a x))) : jb_w Γ ad (σ.1, M', N') s H1 := by
  obtain ⟨hK, -, -, ⟨x1, x2, x3, x4, x5⟩, hr, hk, hn⟩ := hw
  have e := jb_ws_set (aC := Γ.2.2.2.1) (ad := ad) (σ := σ) (σ' := (σ.1, M', N')) rfl hx h0 (fun a' y ha => by
    have e1 := hM a' ha
    have e2 := hN a' ha
    unfold jb_ce
    dsimp only
    rw [e1, e2]
    have e3 : jb_fv ad σ.1.2 M' (y.1 - 10) a' = jb_fv ad σ.1.2 σ.2.1 (y.1 - 10) a' := by funext j; unfold jb_fv; rw [e1]
    rw [e3])
  refine ⟨hK, by rw [e]; exact hP, by rw [e]; exact hD, ⟨x1, x2, x3, x4, fun j hj => ?_⟩, hr, hk, hn⟩
  show M' 0 j = _
  rw [hM 0 (Ne.symm h0)]
  exact x5 j hj
theorem jb_up_s {M : jb_Mi} {a j : Nat} {x : Int32} : jb_up M a j x a = upd (M a) j x := if_pos rfl
theorem jb_up_n {M : jb_Mi} {a j a' : Nat} {x : Int32} (h : a' ≠ a) : jb_up M a j x a' = M a' := if_neg h
theorem jb_ul_s {M : jb_Ml} {a j : Nat} {x : Int64} : jb_ul M a j x a = vp_updL (M a) j x := if_pos rfl
theorem jb_ul_n {M : jb_Ml} {a j a' : Nat} {x : Int64} (h : a' ≠ a) : jb_ul M a j x a' = M a' := if_neg h
theorem jb_ne0 {Γ : jb_G} {ad : Nat → Nat} {σ : jb_S} {s : State} {H : Heap} {a k n : Nat} (hw : jb_w Γ ad σ s H) (hx : jb_sk σ.1.1 a = some (k, n)) (h : k ≠ 9) : a ≠ 0 := by
  rintro rfl
  obtain ⟨-, -, -, ⟨-, -, -, x4, -⟩, -⟩ := hw
  rw [x4] at hx
  cases hx
  exact h rfl
theorem jb_ce_o {aC : Nat → ClassId} {ad : Nat → Nat} {σ : jb_S} {a ci n : Nat} : jb_ce aC ad σ a (ci + 10, n) = .inr (ci, (List.range (jb_nF ci)).map (jb_fv ad σ.1.2 σ.2.1 ci a)) := by
  unfold jb_ce
  rw [if_neg (by simp), if_neg (by simp), if_neg (by simp)]
  simp
theorem jb_fs_at {f : Nat → Value} {N k : Nat} (h : k < N) : ((List.range N).map f)[k]? = some (f k) := by
  rw [List.getElem?_map, List.getElem?_range h]
  rfl
theorem jb_fs_set {ad : Nat → Nat} {rf : jb_Rf} {M : jb_Mi} {ci a k : Nat} {x : Int32} (hR : jb_isR ci k = false) : (List.range (jb_nF ci)).map (jb_fv ad rf (jb_up M a k x) ci a) = ((List.range (jb_nF ci)).map (jb_fv ad rf M ci a)).set k (.int x) := by
  apply List.ext_getElem?
  intro j
  by_cases hj : j < jb_nF ci
  · rw [jb_fs_at hj]
    by_cases hk : j = k
    · subst hk
      rw [List.getElem?_set_self (by simp; exact hj)]
      simp [jb_fv, hR, jb_up_s, upd]
    · rw [List.getElem?_set_ne (Ne.symm hk), jb_fs_at hj]
      simp [jb_fv, jb_up_s, upd, hk]
  · rw [List.getElem?_eq_none (by simp; omega), List.getElem?_eq_none (by simp; omega)]
