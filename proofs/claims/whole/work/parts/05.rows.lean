/-! many instructions, ends, branches, calls -/
theorem jb_aL_iff : ∀ (l : List Prop), jb_aL l ↔ ∀ p ∈ l, p
  | [] => ⟨fun _ p h => absurd h List.not_mem_nil, fun _ => trivial⟩
  | [p] => ⟨fun h r hr => by rw [List.mem_singleton.mp hr]; exact h, fun h => h p List.mem_cons_self⟩
  | p :: q :: r => by
    have ih := jb_aL_iff (q :: r)
    constructor
    · intro h x hx
      rcases List.mem_cons.mp hx with rfl | hx
      · exact h.1
      · exact ih.mp h.2 x hx
    · intro h
      exact ⟨h p List.mem_cons_self, ih.mpr fun x hx => h x (List.mem_cons_of_mem _ hx)⟩
def jb_sN (t : jb_T) (n : Nat) : Nat → Nat → jb_Ls → List Value → jb_S → Option jb_O
  | 0, pc, ls, st, σ => some (pc, ls, st, σ, [])
  | k + 1, pc, ls, st, σ => match t pc with
    | none => none
    | some x => match jb_sI x n pc ls st σ with
      | none => none
      | some (pc1, ls1, st1, σ1, g) => match jb_sN t n k pc1 ls1 st1 σ1 with
        | none => none
        | some (pc2, ls2, st2, σ2, G) => some (pc2, ls2, st2, σ2, g ++ G)
theorem jb_seg {Γ : jb_G} {d : Nat} {q : jb_Q} {v : Option Value} {σ2 : jb_S} : ∀ (k : Nat) {pc pc' : Nat} {ls ls' : jb_Ls} {st st' : List Value} {σ σ' : jb_S} {G : List Prop}, jb_sN q.2.2.2.2.2 q.2.2.2.1 k pc ls st σ = some (pc', ls', st', σ', G) → jb_aL G → jb_V Γ d q pc' ls' st' σ' v σ2 → jb_V Γ d q pc ls st σ v σ2
  | 0, pc, pc', ls, ls', st, st', σ, σ', G, h, _, hv => by
    cases h
    exact hv
  | k + 1, pc, pc', ls, ls', st, st', σ, σ', G, h, hG, hv => by
    unfold jb_sN at h
    split at h
    · cases h
    · rename_i x hx
      split at h
      · cases h
      · rename_i pc1 ls1 st1 σ1 g hg
        split at h
        · cases h
        · rename_i pc2 ls2 st2 σ2' G2 hG2
          cases h
          have hG' := (jb_aL_iff _).mp hG
          exact jb_sI_ok hx hg ((jb_aL_iff _).mpr fun p hp => hG' p (List.mem_append_left _ hp)) (jb_seg k hG2 ((jb_aL_iff _).mpr fun p hp => hG' p (List.mem_append_right _ hp)) hv)
theorem jb_ite {Γ : jb_G} {d : Nat} {q : jb_Q} {a b : Nat} {ls : jb_Ls} {st : List Value} {σ : jb_S} {v : Option Value} {σ2 : jb_S} {c : Prop} [Decidable c] (h1 : c → jb_V Γ d q a ls st σ v σ2) (h2 : ¬ c → jb_V Γ d q b ls st σ v σ2) : jb_V Γ d q (if c then a else b) ls st σ v σ2 := by
  by_cases h : c
  · rw [if_pos h]; exact h1 h
  · rw [if_neg h]; exact h2 h
/-- fewer locals -/
theorem jb_less {Γ : jb_G} {d : Nat} {q : jb_Q} {pc : Nat} {ls ls' : jb_Ls} {st : List Value} {σ : jb_S} {v : Option Value} {σ2 : jb_S} (h : ∀ i w, jb_lk ls' i = some w → jb_lk ls i = some w) (hv : jb_V Γ d q pc ls' st σ v σ2) : jb_V Γ d q pc ls st σ v σ2 :=
  ⟨hv.1, hv.2.1, fun p e R s m args below meth c H locs cells slots ad lsA hC hd hd2 hw hS hL hc hs' => hv.2.2 p e R s m args below meth c H locs cells slots ad lsA hC hd hd2 hw hS ⟨hL.1, hL.2.1, fun i w hi => hL.2.2 i w (h i w hi)⟩ hc hs'⟩
def jb_mk : List Bool → jb_Ls → jb_Ls
  | true :: m, x :: r => x :: jb_mk m r
  | false :: m, _ :: r => none :: jb_mk m r
  | _, _ => []
theorem jb_mk_of : ∀ (m : List Bool) (ls : jb_Ls) (i : Nat) (w : Value), jb_lk (jb_mk m ls) i = some w → jb_lk ls i = some w
  | [], ls, i, w, h => by simp [jb_mk, jb_lk] at h
  | true :: m, [], i, w, h => by simp [jb_mk, jb_lk] at h
  | false :: m, [], i, w, h => by simp [jb_mk, jb_lk] at h
  | true :: m, x :: r, 0, w, h => h
  | false :: m, x :: r, 0, w, h => by cases h
  | true :: m, x :: r, i + 1, w, h => jb_mk_of m r i w h
  | false :: m, x :: r, i + 1, w, h => jb_mk_of m r i w h
theorem jb_mask {Γ : jb_G} {d : Nat} {q : jb_Q} {pc : Nat} {ls : jb_Ls} {st : List Value} {σ : jb_S} {v : Option Value} {σ2 : jb_S} (m : List Bool) {ls' : jb_Ls} (e : jb_mk m ls = ls') (hv : jb_V Γ d q pc ls' st σ v σ2) : jb_V Γ d q pc ls st σ v σ2 := jb_less (fun i w h => jb_mk_of m ls i w (by rw [e]; exact h)) hv
theorem jb_w.moved {Γ : jb_G} {ad : Nat → Nat} {σ : jb_S} {s t : State} {H : Heap} (hw : jb_w Γ ad σ s H) (hW : s.WarmedH t.vm) : jb_w Γ ad σ t H := by
  obtain ⟨h1, h2, h3, ⟨x1, x2⟩, h5, h6, h7⟩ := hw
  exact ⟨va_K.moved hW.alike h1, h2, h3, ⟨va_X.moved hW.alike x1, x2⟩, h5, h6, fun x hx => va_Nw.warmM hW (h7 x hx)⟩
theorem jb_E.now {Γ : jb_G} {ad : Nat → Nat} {σ : jb_S} {s t : State} {H : Heap} {locs : List Loc} {v : Option Value} {a : Array Value} {st0 : State} {w : Option Value} (hw : jb_w Γ ad σ s H) (hS : va_S (fun q => Γ.2.1.size ≤ q) Γ.2.1 H locs) (ht : t.heap = H) (hW : s.WarmedH t.vm) (hv : w = v.map (jb_tv ad)) : jb_E Γ σ.1.1.length ad v σ a st0 (.returned w) t :=
  ⟨ad, fun _ _ => rfl, fun _ => rfl, by rw [hv], by rw [ht]; exact hw.moved hW, by rw [ht]; exact hS.1, fun q hq => by rw [ht]; exact hS.2.1 q hq (Nat.not_le.mpr hq)⟩
section
variable {Γ : jb_G} {d : Nat} {q : jb_Q} {pc : Nat} {ls : jb_Ls} {σ : jb_S} {ci k len : Nat} {z : Int32} {zl : Int64}
theorem jb_reti {x : Int32} (ht : q.2.2.2.2.2 pc = some (.ireturn, len, ci, k, z, zl)) (hr : q.2.2.2.2.1 = some .int) : jb_V Γ d q pc ls [.int x] σ (some (.int x)) σ := by
  refine ⟨Nat.le_refl _, Nat.le_refl _, fun p e R s m args below meth c H locs cells slots ad lsA hC hd hd2 hw hS hL hc hs' => ?_⟩
  rw [Nat.sub_self, Nat.sub_self, Nat.add_zero, Nat.add_zero]
  obtain ⟨hdg, h1⟩ := hC.dec ht
  cases h1
  have hlk : meth.locks = false := hC.2.2.2.2.2.2.1
  exact W.iret (v := x) hC.1 hC.2.1 (hC.2.2.1.trans hr) (fun t ht hW => jb_E.now hw hS ht hW rfl) (fun q hq => hS.2.2 q hq) hdg hlk
theorem jb_retz {x : Int32} (hx : x = 0 ∨ x = 1) (ht : q.2.2.2.2.2 pc = some (.ireturn, len, ci, k, z, zl)) (hr : q.2.2.2.2.1 = some .boolean) : jb_V Γ d q pc ls [.int x] σ (some (.int x)) σ := by
  refine ⟨Nat.le_refl _, Nat.le_refl _, fun p e R s m args below meth c H locs cells slots ad lsA hC hd hd2 hw hS hL hc hs' => ?_⟩
  rw [Nat.sub_self, Nat.sub_self, Nat.add_zero, Nat.add_zero]
  obtain ⟨hdg, h1⟩ := hC.dec ht
  cases h1
  have hlk : meth.locks = false := hC.2.2.2.2.2.2.1
  exact W.zret (v := x) (ty := .boolean) hC.1 hC.2.1 (hC.2.2.1.trans hr) (by rcases hx with rfl | rfl <;> decide) (fun t ht hW => jb_E.now hw hS ht hW rfl) (fun q hq => hS.2.2 q hq) hdg hlk
theorem jb_retl {x : Int64} (ht : q.2.2.2.2.2 pc = some (.lreturn, len, ci, k, z, zl)) (hr : q.2.2.2.2.1 = some .long) : jb_V Γ d q pc ls [.long x] σ (some (.long x)) σ := by
  refine ⟨Nat.le_refl _, Nat.le_refl _, fun p e R s m args below meth c H locs cells slots ad lsA hC hd hd2 hw hS hL hc hs' => ?_⟩
  rw [Nat.sub_self, Nat.sub_self, Nat.add_zero, Nat.add_zero]
  obtain ⟨hdg, h1⟩ := hC.dec ht
  cases h1
  have hlk : meth.locks = false := hC.2.2.2.2.2.2.1
  exact W.lret (v := x) hC.1 hC.2.1 (hC.2.2.1.trans hr) (fun t ht hW => jb_E.now hw hS ht hW rfl) (fun q hq => hS.2.2 q hq) hdg hlk
theorem jb_retv (ht : q.2.2.2.2.2 pc = some (.return_, len, ci, k, z, zl)) (hr : q.2.2.2.2.1 = none) : jb_V Γ d q pc ls [] σ none σ := by
  refine ⟨Nat.le_refl _, Nat.le_refl _, fun p e R s m args below meth c H locs cells slots ad lsA hC hd hd2 hw hS hL hc hs' => ?_⟩
  rw [Nat.sub_self, Nat.sub_self, Nat.add_zero, Nat.add_zero]
  obtain ⟨hdg, h1⟩ := hC.dec ht
  cases h1
  have hlk : meth.locks = false := hC.2.2.2.2.2.2.1
  exact W.vret hC.1 hC.2.1 (hC.2.2.1.trans hr) (fun t ht hW => jb_E.now hw hS ht hW rfl) (fun q hq => hS.2.2 q hq) hdg hlk
end
def jb_en (n : Nat) (vs : List Value) : jb_Ls := vs.map some ++ List.replicate (n - vs.length) none
theorem jb_en_args (ad : Nat → Nat) : ∀ (vs : List Value) (k i j : Nat) (w : Value), (∀ v ∈ vs, v.category = 1) → jb_lk (vs.map some ++ List.replicate k none) i = some w → (j + i, jb_tv ad w) ∈ lv_args j (vs.map (jb_tv ad))
  | [], k, i, j, w, _, h => by
    have hn : ∀ (k i : Nat), jb_lk (List.replicate k none) i = none := by
      intro k
      induction k with
      | zero => intro i; rfl
      | succ k ih =>
        intro i
        cases i with
        | zero => rfl
        | succ i => exact ih i
    rw [List.map_nil, List.nil_append, hn] at h
    cases h
  | v :: vs, k, 0, j, w, hc, h => by
    have e : v = w := Option.some.inj h
    subst e
    exact List.mem_cons_self
  | v :: vs, k, i + 1, j, w, hc, h => by
    have hc1 : ¬ (jb_tv ad v).category = 2 := by rw [jb_tv_cat, hc v List.mem_cons_self]; decide
    have h1 := jb_en_args ad vs k i (j + 1) w (fun x hx => hc x (List.mem_cons_of_mem _ hx)) h
    simp only [List.map_cons, lv_args]
    rw [if_neg hc1, show j + (i + 1) = j + 1 + i by omega]
    exact List.mem_cons_of_mem _ h1
theorem jb_sl_len (ad : Nat → Nat) : ∀ (vs : List Value), (∀ v ∈ vs, v.category = 1) → (lg_sl (vs.map (jb_tv ad))).length = vs.length
  | [], _ => rfl
  | v :: vs, hc => by
    have hc1 : ¬ (jb_tv ad v).category = 2 := by rw [jb_tv_cat, hc v List.mem_cons_self]; decide
    have h1 := jb_sl_len ad vs (fun x hx => hc x (List.mem_cons_of_mem _ hx))
    unfold lg_sl at h1 ⊢
    simp only [List.map_cons, List.flatMap_cons]
    rw [if_neg hc1, List.length_append, h1]
    simp
    omega
/-- what is fixed of a method that is called -/
def jb_okM (q : jb_Q) (np : Nat) : Prop := jb_ok q ∧ q.2.1.cls = zc_nm q.1 ∧ q.1 < 18 ∧ plainFor q.2.1 = true ∧ Cond.code q.2.1 q.2.2.1 q.2.2.2.1 q.2.2.2.2.1 ∈ jb_zw ∧ (q.2.1.cls ≠ "java/lang/invoke/MethodHandle" ∧ q.2.1.cls ≠ "java/lang/invoke/VarHandle") ∧ (parseMethodDescriptor q.2.1.desc).map (fun d => d.parameters.length) = some np ∧ q.2.2.2.1 ≤ 80
abbrev jb_B (Γ : jb_G) (ad : Nat → Nat) (σ : jb_S) (U : State) : Prop := jb_w Γ ad σ U U.heap ∧ Γ.2.1.size ≤ U.heap.size ∧ ∀ q : Nat, q < Γ.2.1.size → U.heap[q]? = Γ.2.1[q]?
abbrev jb_rm (d mc ms : Nat) : Room := { frames := d, cells := mc, slots := ms, locals := 100 * d }
theorem jb_met {Γ : jb_G} {d np : Nat} {q : jb_Q} {As : List Value} {σ σ1 : jb_S} {v : Option Value} (ad : Nat → Nat) (hq : jb_okM q np) (hv : jb_V Γ d q 0 (jb_en q.2.2.2.1 As) [] σ v σ1) (hc : ∀ v ∈ As, v.category = 1) (hl : As.length ≤ q.2.2.2.1) :
    Met Γ.1 q.2.1 (Cond.code q.2.1 q.2.2.1 q.2.2.2.1 q.2.2.2.2.1 :: jb_zw) (jb_rm d (σ1.1.1.length - σ.1.1.length) (jb_slo σ1.1.1 - jb_slo σ.1.1)) (va_Pc (As.map (jb_tv ad)) (jb_B Γ ad σ)) (jb_E Γ σ.1.1.length ad v σ1) (σ1.1.1.length - σ.1.1.length) (jb_slo σ1.1.1 - jb_slo σ.1.1) (fun a => Γ.2.1.size ≤ a) := by
  refine va_MetF (cc := q.2.2.1) (maxL := q.2.2.2.1) (ret := q.2.2.2.2.1) hq.2.2.2.1 rfl ?_
  intro p e s m args below meth c s₁ B hml hP
  obtain ⟨rfl, hw, hz, hf⟩ := hP
  have hts := atoms_spec (ws := Cond.code q.2.1 q.2.2.1 q.2.2.2.1 q.2.2.2.2.1 :: jb_zw) B.pre
  have hown : s.vm.findClass (zc_nm q.1) = some m.cls := by rw [← hq.2.1]; exact findClass_of_methodNamed B.named
  have hlen := jb_sl_len ad As hc
  have hen := lv_entry (As.map (jb_tv ad)) (n := q.2.2.2.1) (by rw [hlen]; exact hl)
  rw [lg_entry_eq]
  have key := hv.2.2 p e (jb_rm d (σ1.1.1.length - σ.1.1.length) (jb_slo σ1.1.1 - jb_slo σ.1.1)) s m (As.map (jb_tv ad)).toArray below meth c s.heap [] 0 0 ad _
    ⟨B.exec, B.bytes, B.returns, hml, hown, fun w h => hts w (List.mem_cons_of_mem _ h), B.notSynchronized, (name_of_methodNamed B.named B.method).1, hq.1⟩ (Nat.le_refl _) (Nat.le_refl _) hw
    ⟨hz, fun q h1 _ => hf q h1, fun _ h => absurd h List.not_mem_nil⟩ ⟨hen.1, hen.2.1, fun i w hi => hen.2.2 (i, jb_tv ad w) (by have := jb_en_args ad As _ i 0 w hc hi; rwa [Nat.zero_add] at this)⟩ (by simp) (by simp)
  rw [Nat.zero_add, Nat.zero_add] at key
  exact key
theorem jb_blind {Γ : jb_G} {ad : Nat → Nat} {σ : jb_S} {As : List Value} : FrameBlind (va_Pc As (jb_B Γ ad σ)) := by
  intro a U g mk h
  obtain ⟨h0, ⟨h1, h2, h3, ⟨x1, x2⟩, h5, h6, h7⟩, h8⟩ := h
  exact ⟨h0, ⟨va_K.moved (u := U) (U := U.calling g mk a) (Vm.Alike.refl U.vm) h1, h2, h3, ⟨va_X.moved (u := U) (U := U.calling g mk a) (Vm.Alike.refl U.vm) x1, x2⟩, h5, h6, fun x hx => va_Nw.same rfl rfl (h7 x hx)⟩, h8⟩
theorem jb_W_mono {p : Program} {l : Launch} {e : Env} {R : Room} {s : State} {m : MethodId} {args : Array Value} {below : List Frame} {meth : Method} {c : Code} {H : Heap} {locs : List Loc} {cells slots : Nat} {Q Q' : State → Prop} {g : JFrame} (h : ∀ t, Q t → Q' t) (k : W p l e R s m args below meth c H locs cells slots Q g) : W p l e R s m args below meth c H locs cells slots Q' g := by
  intro T hT X
  obtain ⟨t, a, b⟩ := k T hT X
  exact ⟨t, a, h t b⟩
/-- behind a call: the caller goes on in the callee's world -/
theorem jb_after {Γ : jb_G} {d np : Nat} {q : jb_Q} {pc : Nat} {ls : jb_Ls} {rest : List Value} {σ σ1 σ2 : jb_S} {v v2 : Option Value} (hl : σ.1.1.length ≤ σ1.1.1.length) (hsl : jb_slo σ.1.1 ≤ jb_slo σ1.1.1) (hv : jb_V Γ d q (pc + 3) ls (v.toList ++ rest) σ1 v2 σ2)
    {p : Program} {e : Env} {R : Room} {s : State} {m : MethodId} {args : Array Value} {below : List Frame} {meth : Method} {c : Code} {H : Heap} {locs : List Loc} {cells slots : Nat} {ad : Nat → Nat} {lsA : Array Slot} {st0 : List Value} {a : Array Value}
    (hC : jb_C q p s m args meth c) (hd : d ≤ R.frames) (hd2 : 100 * d ≤ R.locals) (hw : jb_w Γ ad σ s H) (hS : va_S (fun q => Γ.2.1.size ≤ q) Γ.2.1 H locs) (hL : jb_LR ad lsA q.2.2.2.1 ls) (hc : cells + (σ2.1.1.length - σ.1.1.length) ≤ R.cells) (hs : slots + (jb_slo σ2.1.1 - jb_slo σ.1.1) ≤ R.slots)
    (hst : ∀ ad1 : Nat → Nat, (∀ k, k < σ.1.1.length → ad1 k = ad k) → (σ1.1.1.length = σ.1.1.length → ad1 = ad) → rest.map (jb_tv ad1) = rest.map (jb_tv ad) ∧ jb_LR ad1 lsA q.2.2.2.1 ls)
    (hr : va_Run p Γ.1 e R s m args below meth c H locs cells slots (σ1.1.1.length - σ.1.1.length) (jb_slo σ1.1.1 - jb_slo σ.1.1) (F0 m pc lsA st0) (rest.map (jb_tv ad)) (jb_E Γ σ.1.1.length ad v σ1 a) (fun a => Γ.2.1.size ≤ a)) :
    W p Γ.1 e R s m args below meth c H locs cells slots (MQ below (jb_E Γ σ.1.1.length ad v2 σ2) args s (cells + (σ2.1.1.length - σ.1.1.length)) (slots + (jb_slo σ2.1.1 - jb_slo σ.1.1)) (fun a => Γ.2.1.size ≤ a)) (F0 m pc lsA st0) := by
  intro T hT X
  obtain ⟨v0, st₀, t, T', L, h0, X', hL', e1, e2, ⟨ad1, a1, a2, a3, a4, a5, a6⟩, st⟩ := hr T hT X
  cases a3
  obtain ⟨r1, r2⟩ := hst ad1 a1 a2
  obtain ⟨w1, w2, w3, ⟨x1, x2, x3, x4, x5⟩, w5, w6, w7⟩ := hw
  obtain ⟨y1, y2, y3, ⟨z1, z2, z3, z4, z5⟩, y5, y6, y7⟩ := a4
  have key := hv.2.2 p e R s m args below meth c T'.heap (locs ++ L) (cells + (σ1.1.1.length - σ.1.1.length)) (slots + (jb_slo σ1.1.1 - jb_slo σ.1.1)) ad1 lsA hC hd hd2
    ⟨w1, by rw [e1]; exact y2, y3, ⟨x1, z2, z3, z4, z5⟩, y5, y6, w7⟩ ⟨by rw [e1]; exact a5, fun q h1 _ => by rw [e1]; exact a6 q h1, fun q hq => by
      rcases List.mem_append.mp hq with h | h
      · exact hS.2.2 q h
      · exact hL' q h⟩ r2 (by have := hv.1; omega) (by have := hv.2.1; omega)
  obtain ⟨t2, b1, o, b2, b3, ⟨ad2, c1, c2, c3, c4⟩, L2, b5, b6⟩ := key T' rfl X'
  have em : (v.toList ++ rest).map (jb_tv ad1) = (v.map (jb_tv ad1)).toList ++ rest.map (jb_tv ad) := by
    rw [List.map_append, r1]
    cases v <;> rfl
  rw [em] at b1
  have hlv := hv.1
  have hsv := hv.2.1
  refine ⟨t2, st t2 b1, o, b2, b3, ⟨ad2, fun k hk => (c1 k (by omega)).trans (a1 k hk), fun h => ?_, c3, c4⟩, L2, ?_, b6⟩
  · rw [c2 (by omega), a2 (by omega)]
  · rw [show cells + (σ1.1.1.length - σ.1.1.length) + (σ2.1.1.length - σ1.1.1.length) = cells + (σ2.1.1.length - σ.1.1.length) by omega, show slots + (jb_slo σ1.1.1 - jb_slo σ.1.1) + (jb_slo σ2.1.1 - jb_slo σ1.1.1) = slots + (jb_slo σ2.1.1 - jb_slo σ.1.1) by omega] at b5
    exact b5
theorem jb_good : ∀ {q : jb_Q} {np : Nat}, jb_okM q np → GoodIn jb_zw (Cond.code q.2.1 q.2.2.1 q.2.2.2.1 q.2.2.2.2.1 :: jb_zw) := by
  intro q np hq w hw
  have hm : w ∈ jb_zw := by
    rcases List.mem_cons.mp hw with rfl | h
    · exact hq.2.2.2.2.1
    · exact h
  exact ⟨hm, good_of_word (List.mem_filter.mp hm).2⟩
def jb_sum (l : List Value) : Nat := (l.map fun v => v.category).sum
theorem jb_sum_tv (ad : Nat → Nat) (l : List Value) : ((l.map (jb_tv ad)).map fun v => v.category).sum = jb_sum l := by
  unfold jb_sum
  rw [List.map_map]
  congr 1
  apply List.map_congr_left
  intro v _
  exact jb_tv_cat ad v
