/-! THE WORLD OF THIS LAW: a list of cells by their numbers; ints of objects and arrays in one memory M, longs in N, references in rf -/
def jb_zw : List Cond := lw_tbl.filter goodWord
theorem jb_zw_of {i : Nat} {w : Cond} (h : lw_tbl[i]? = some w) (hg : goodWord w = true) : w ∈ jb_zw := List.mem_filter.mpr ⟨List.mem_of_getElem? h, hg⟩
abbrev jb_Sh : Type := List (Nat × Nat)
abbrev jb_Rf : Type := Nat → Nat → Nat
abbrev jb_Mi : Type := Nat → Nat → Int32
abbrev jb_Ml : Type := Nat → Nat → Int64
abbrev jb_S : Type := (jb_Sh × jb_Rf) × jb_Mi × jb_Ml
abbrev jb_Ls : Type := List (Option Value)
abbrev jb_I : Type := Instr × Nat × Nat × Nat × Int32 × Int64
abbrev jb_T : Type := Nat → Option jb_I
abbrev jb_Q : Type := Nat × MethodName × ByteArray × Nat × Option FieldType × jb_T
abbrev jb_G : Type := Launch × Heap × va_G × (Nat → ClassId) × Nat × Nat × (Nat → Int32)
def jb_isR (c k : Nat) : Bool := match zc_ty c k with
  | .object _ => true
  | .array _ => true
  | _ => false
def jb_isB (c k : Nat) : Bool := match zc_ty c k with
  | .boolean => true
  | _ => false
def jb_fin (c k : Nat) : Bool := ((zc_cls.getD c ("", zc_T0, 0)).2.1 k).2.2.2
def jb_nF (c : Nat) : Nat := (zc_cls.getD c ("", zc_T0, 0)).2.2
def jb_tr (ad : Nat → Nat) (n : Nat) : Value := if n = 0 then .null else .ref (ad n)
def jb_tv (ad : Nat → Nat) : Value → Value
  | .ref k => .ref (ad k)
  | v => v
theorem jb_tv_cat (ad : Nat → Nat) (v : Value) : (jb_tv ad v).category = v.category := by cases v <;> rfl
def jb_fv (ad : Nat → Nat) (rf : jb_Rf) (M : jb_Mi) (c a j : Nat) : Value := if jb_isR c j = true then jb_tr ad (rf a j) else .int (M a j)
def jb_ce (aC : Nat → ClassId) (ad : Nat → Nat) (σ : jb_S) (a : Nat) (x : Nat × Nat) : va_E :=
  if x.1 = 0 then .inl (aC 0, x.2, .inl (σ.2.1 a)) else if x.1 = 1 then .inl (aC 1, x.2, .inl (σ.2.1 a)) else if x.1 = 2 then .inl (aC 2, x.2, .inr (.inl (σ.2.2 a)))
  else .inr (x.1 - 10, (List.range (jb_nF (x.1 - 10))).map (jb_fv ad σ.1.2 σ.2.1 (x.1 - 10) a))
def jb_sk : jb_Sh → Nat → Option (Nat × Nat)
  | [], _ => none
  | x :: _, 0 => some x
  | _ :: r, n + 1 => jb_sk r n
theorem jb_sk_eq : ∀ (l : jb_Sh) (a : Nat), jb_sk l a = l[a]?
  | [], a => by simp [jb_sk]
  | x :: r, 0 => rfl
  | x :: r, n + 1 => by rw [List.getElem?_cons_succ]; exact jb_sk_eq r n
theorem jb_sk_lt {l : jb_Sh} {a : Nat} {x : Nat × Nat} (h : jb_sk l a = some x) : a < l.length := by
  rw [jb_sk_eq] at h
  exact (List.getElem?_eq_some_iff.mp h).1
def jb_ws (aC : Nat → ClassId) (ad : Nat → Nat) (σ : jb_S) : va_W := (List.range (σ.1.1.length - 1)).map fun j => (ad (j + 1), jb_ce aC ad σ (j + 1) ((jb_sk σ.1.1 (j + 1)).getD (0, 0)))
theorem jb_ws_at {aC : Nat → ClassId} {ad : Nat → Nat} {σ : jb_S} {a : Nat} {x : Nat × Nat} (h : jb_sk σ.1.1 a = some x) (h0 : a ≠ 0) : (jb_ws aC ad σ)[a - 1]? = some (ad a, jb_ce aC ad σ a x) := by
  have hl := jb_sk_lt h
  obtain ⟨j, rfl⟩ : ∃ j, a = j + 1 := ⟨a - 1, by omega⟩
  rw [Nat.add_sub_cancel]
  simp only [jb_ws, List.getElem?_map]
  rw [List.getElem?_range (by omega)]
  simp [h]
def jb_tys (aC : Nat → ClassId) : List (ClassId × FieldType) := [(aC 0, .int), (aC 1, .byte), (aC 2, .long)]
def jb_slo (l : jb_Sh) : Nat := (l.map (fun x => x.2)).sum
/-- the world: cells, classes, the script, the nest's words -/
def jb_w (Γ : jb_G) (ad : Nat → Nat) (σ : jb_S) (U : State) (H : Heap) : Prop :=
  va_K Γ.2.2.1 zc_cls (jb_tys Γ.2.2.2.1) U ∧ va_P Γ.2.2.1 zc_cls (jb_ws Γ.2.2.2.1 ad σ) H ∧ va_D (fun q => Γ.2.1.size ≤ q) (jb_ws Γ.2.2.2.1 ad σ) ∧
  (va_X Γ.2.2.2.2.1 Γ.2.2.2.2.2.1 Γ.2.2.2.2.2.2 U Γ.2.1 ∧ Γ.2.2.2.2.1 < Γ.2.1.size ∧ ad 0 = Γ.2.2.2.2.1 ∧ jb_sk σ.1.1 0 = some (9, Γ.2.2.2.2.2.1) ∧ ∀ j, j < Γ.2.2.2.2.2.1 → σ.2.1 0 j = Γ.2.2.2.2.2.2 j) ∧
  (∀ a j, σ.1.2 a j < σ.1.1.length) ∧ (∀ a x, jb_sk σ.1.1 a = some x → a ≠ 0 → (x.1 = 0 ∨ x.1 = 1 ∨ x.1 = 2 ∨ (10 ≤ x.1 ∧ x.1 - 10 < 14 ∧ x.2 = jb_nF (x.1 - 10)))) ∧
  (∀ x ∈ zl_N, va_Nw (.methodLinkNest (zc_nm x.2.1) x.2.2.1 (zm_y x.2.2.2) "StrongMen") U)
def jb_lk : jb_Ls → Nat → Option Value
  | [], _ => none
  | x :: _, 0 => x
  | _ :: r, n + 1 => jb_lk r n
def jb_st : jb_Ls → Nat → Option Value → jb_Ls
  | [], _, _ => []
  | _ :: r, 0, v => v :: r
  | x :: r, n + 1, v => x :: jb_st r n v
theorem jb_lk_st : ∀ (l : jb_Ls) (i j : Nat) (v : Option Value) (w : Value), jb_lk (jb_st l i v) j = some w → (j = i ∧ v = some w) ∨ (j ≠ i ∧ jb_lk l j = some w)
  | [], i, j, v, w, h => by simp [jb_st, jb_lk] at h
  | x :: r, 0, 0, v, w, h => Or.inl ⟨rfl, h⟩
  | x :: r, 0, j + 1, v, w, h => Or.inr ⟨by omega, h⟩
  | x :: r, i + 1, 0, v, w, h => Or.inr ⟨by omega, h⟩
  | x :: r, i + 1, j + 1, v, w, h => by
    rcases jb_lk_st r i j v w h with ⟨a, b⟩ | ⟨a, b⟩
    · exact Or.inl ⟨by omega, b⟩
    · exact Or.inr ⟨by omega, b⟩
theorem jb_lk_lt : ∀ (l : jb_Ls) (i : Nat) (w : Value), jb_lk l i = some w → i < l.length
  | [], i, w, h => by simp [jb_lk] at h
  | x :: r, 0, w, h => by simp
  | x :: r, i + 1, w, h => by have := jb_lk_lt r i w h; simp; omega
def jb_c2 : Option Value → Bool
  | some (.long _) => true
  | some (.double _) => true
  | _ => false
def jb_s1 (l : jb_Ls) (i : Nat) (v : Value) : jb_Ls := match i with
  | 0 => jb_st l 0 (some v)
  | j + 1 => bif jb_c2 (jb_lk l j) then jb_st (jb_st l j none) (j + 1) (some v) else jb_st l (j + 1) (some v)
def jb_s2 (l : jb_Ls) (i : Nat) (v : Value) : jb_Ls := jb_st (jb_s1 l i v) (i + 1) none
def jb_LR (ad : Nat → Nat) (lsA : Array Slot) (n : Nat) (ls : jb_Ls) : Prop := lsA.size = n ∧ lv_wf lsA ∧ ∀ (i : Nat) (v : Value), jb_lk ls i = some v → lsA[i]? = some (.val (jb_tv ad v))
def jb_pr (ad : Nat → Nat) (ls : jb_Ls) : List (Nat × Value) := (List.range ls.length).filterMap fun i => (jb_lk ls i).map fun v => (i, jb_tv ad v)
theorem jb_pr_mem {ad : Nat → Nat} {ls : jb_Ls} {i : Nat} {v : Value} (h : jb_lk ls i = some v) : (i, jb_tv ad v) ∈ jb_pr ad ls :=
  List.mem_filterMap.mpr ⟨i, List.mem_range.mpr (jb_lk_lt ls i v h), by simp [h]⟩
theorem jb_pr_of {ad : Nat → Nat} {ls : jb_Ls} {q : Nat × Value} (h : q ∈ jb_pr ad ls) : ∃ v, jb_lk ls q.1 = some v ∧ q.2 = jb_tv ad v := by
  obtain ⟨i, -, hi⟩ := List.mem_filterMap.mp h
  cases hv : jb_lk ls i with
  | none => rw [hv] at hi; cases hi
  | some v =>
    rw [hv] at hi
    cases hi
    exact ⟨v, hv, rfl⟩
theorem jb_LR.has {ad : Nat → Nat} {lsA : Array Slot} {n : Nat} {ls : jb_Ls} (h : jb_LR ad lsA n ls) : lv_has lsA n (jb_pr ad ls) := by
  refine ⟨h.1, h.2.1, fun q hq => ?_⟩
  obtain ⟨v, h1, h2⟩ := jb_pr_of hq
  rw [h2]
  exact h.2.2 _ _ h1
theorem jb_s1_of {ls : jb_Ls} {i j : Nat} {v w : Value} (h : jb_lk (jb_s1 ls i v) j = some w) : (j = i ∧ w = v) ∨ (j ≠ i ∧ jb_lk ls j = some w ∧ ¬ (j + 1 = i ∧ w.category = 2)) := by
  cases i with
  | zero =>
    rcases jb_lk_st ls 0 j _ _ h with ⟨a, b⟩ | ⟨a, b⟩
    · exact Or.inl ⟨a, (Option.some.inj b).symm⟩
    · exact Or.inr ⟨a, b, fun z => by omega⟩
  | succ i =>
    simp only [jb_s1] at h
    cases hc : jb_c2 (jb_lk ls i) with
    | true =>
      rw [hc] at h
      rcases jb_lk_st _ _ j _ _ h with ⟨a, b⟩ | ⟨a, b⟩
      · exact Or.inl ⟨a, (Option.some.inj b).symm⟩
      · rcases jb_lk_st ls i j _ _ b with ⟨a2, b2⟩ | ⟨a2, b2⟩
        · cases b2
        · exact Or.inr ⟨a, b2, fun z => a2 (by omega)⟩
    | false =>
      rw [hc] at h
      rcases jb_lk_st _ _ j _ _ h with ⟨a, b⟩ | ⟨a, b⟩
      · exact Or.inl ⟨a, (Option.some.inj b).symm⟩
      · refine Or.inr ⟨a, b, fun z => ?_⟩
        have hj : j = i := by omega
        subst hj
        rw [b] at hc
        cases w <;> simp [jb_c2, Value.category] at hc z
theorem jb_LR.put {ad : Nat → Nat} {lsA ls' : Array Slot} {n i : Nat} {ls : jb_Ls} {v : Value} (h' : lv_has ls' n ((i, jb_tv ad v) :: (jb_pr ad ls).filter (fun q => !(q.1 == i) && !(q.1 + 1 == i && q.2.category == 2)))) : jb_LR ad ls' n (jb_s1 ls i v) := by
  refine ⟨h'.1, h'.2.1, fun j w hj => ?_⟩
  rcases jb_s1_of hj with ⟨rfl, rfl⟩ | ⟨a, b, c⟩
  · exact h'.2.2 _ List.mem_cons_self
  · refine h'.2.2 (j, jb_tv ad w) (List.mem_cons_of_mem _ (List.mem_filter.mpr ⟨jb_pr_mem b, ?_⟩))
    simp only [Bool.and_eq_true, Bool.not_eq_true', beq_eq_false_iff_ne, ne_eq, Bool.and_eq_false_iff, jb_tv_cat]
    refine ⟨a, ?_⟩
    by_cases z : j + 1 = i
    · exact Or.inr fun z2 => c ⟨z, z2⟩
    · exact Or.inl z
theorem jb_LR.put2 {ad : Nat → Nat} {lsA ls' : Array Slot} {n i : Nat} {ls : jb_Ls} {v : Value} (h' : lv_has ls' n ((i, jb_tv ad v) :: (jb_pr ad ls).filter (fun q => !(q.1 == i) && (!(q.1 == i + 1) && !(q.1 + 1 == i && q.2.category == 2))))) : jb_LR ad ls' n (jb_s2 ls i v) := by
  refine ⟨h'.1, h'.2.1, fun j w hj => ?_⟩
  rcases jb_lk_st _ _ _ _ _ hj with ⟨-, b⟩ | ⟨a0, hj⟩
  · cases b
  rcases jb_s1_of hj with ⟨rfl, rfl⟩ | ⟨a, b, c⟩
  · exact h'.2.2 _ List.mem_cons_self
  · refine h'.2.2 (j, jb_tv ad w) (List.mem_cons_of_mem _ (List.mem_filter.mpr ⟨jb_pr_mem b, ?_⟩))
    simp only [Bool.and_eq_true, Bool.not_eq_true', beq_eq_false_iff_ne, ne_eq, Bool.and_eq_false_iff, jb_tv_cat]
    refine ⟨a, a0, ?_⟩
    by_cases z : j + 1 = i
    · exact Or.inr fun z2 => c ⟨z, z2⟩
    · exact Or.inl z
/-- what an entry of a code table says of its instruction -/
def jb_okL (cn pc : Nat) (x : jb_I) : Prop := match x.1 with
  | .iconst n => x.2.1 = 1 ∧ Int32.ofInt n = x.2.2.2.2.1
  | .bipush n => x.2.1 = 2 ∧ (Int8.ofInt n).toInt32 = x.2.2.2.2.1
  | .sipush n => x.2.1 = 3 ∧ (Int16.ofInt n).toInt32 = x.2.2.2.2.1
  | .lconst n => x.2.1 = 1 ∧ Int64.ofNat (n : Nat) = x.2.2.2.2.2
  | .ldc i => x.2.1 = 2 ∧ Cond.constant (zc_nm cn) i x.2.2.2.2.1 ∈ jb_zw
  | .ldc_w i => x.2.1 = 3 ∧ Cond.constant (zc_nm cn) i x.2.2.2.2.1 ∈ jb_zw
  | .ldc2_w i => x.2.1 = 3 ∧ Cond.constantLong (zc_nm cn) i x.2.2.2.2.2 ∈ jb_zw
  | .iload_n n | .aload_n n | .lload_n n | .istore_n n | .astore_n n | .lstore_n n => x.2.1 = 1 ∧ (n : Nat) = x.2.2.2.1
  | .iload n | .aload n | .lload n | .istore n | .astore n | .lstore n => x.2.1 = 2 ∧ n = x.2.2.2.1
  | .iinc i n => x.2.1 = 3 ∧ i = x.2.2.2.1 ∧ Int32.ofInt n = x.2.2.2.2.1
  | .goto off => x.2.1 = 3 ∧ (pc : Int) + off = (x.2.2.2.1 : Int)
  | .ifCond _ off => x.2.1 = 3 ∧ (pc : Int) + off = (x.2.2.2.1 : Int)
  | .if_icmp _ off => x.2.1 = 3 ∧ (pc : Int) + off = (x.2.2.2.1 : Int)
  | .getfield i | .putfield i => x.2.1 = 3 ∧ x.2.2.1 < 14 ∧ x.2.2.2.1 < jb_nF x.2.2.1 ∧ Cond.fieldLink (zc_nm cn) i (zc_nm x.2.2.1) ((zc_cls.getD x.2.2.1 ("", zc_T0, 0)).2.1 x.2.2.2.1).2.1 ((zc_cls.getD x.2.2.1 ("", zc_T0, 0)).2.1 x.2.2.2.1).2.2.1 ∈ jb_zw
  | .iadd | .isub | .imul | .idiv | .irem | .ineg | .iand | .ior | .ixor | .ishl | .ishr | .iushr | .ladd | .lsub | .lmul | .ldiv | .lcmp | .i2l | .l2i | .i2b | .dup | .pop | .dup2
  | .iaload | .baload | .laload | .iastore | .bastore | .lastore | .arraylength | .ireturn | .lreturn | .return_ => x.2.1 = 1
  | .new i => x.2.1 = 3 ∧ x.2.2.1 < 14 ∧ Cond.classLink (zc_nm cn) i (zc_nm x.2.2.1) ∈ jb_zw
  | .newarray _ => x.2.1 = 2
  | .invokevirtual i => x.2.1 = 3 ∧ Cond.methodLink (zc_nm cn) i (zm_y x.2.2.2.1) ∈ jb_zw ∧ Cond.instanceMethod (zm_y x.2.2.2.1) ∈ jb_zw ∧ Cond.selects (zm_y x.2.2.2.1).cls (zm_y x.2.2.2.1) (zm_y x.2.2.2.1) ∈ jb_zw
  | .invokestatic i => x.2.1 = 3 ∧ ((x.2.2.1 = 0 ∧ Cond.methodLink (zc_nm cn) i (zm_y x.2.2.2.1) ∈ jb_zw ∧ Cond.static (zm_y x.2.2.2.1) ∈ jb_zw) ∨ (x.2.2.1 = 1 ∧ (∃ w, (w, cn, i, x.2.2.2.1) ∈ zl_N) ∧ Cond.static (zm_y x.2.2.2.1) ∈ jb_zw) ∨ (x.2.2.1 = 2 ∧ Cond.methodLink (zc_nm cn) i arraycopyName ∈ jb_zw))
  | .invokespecial i => x.2.1 = 3 ∧ ((x.2.2.1 = 0 ∧ Cond.methodLink (zc_nm cn) i (zm_y x.2.2.2.1) ∈ jb_zw ∧ Cond.instanceMethod (zm_y x.2.2.2.1) ∈ jb_zw) ∨ (x.2.2.1 = 1 ∧ (∃ w, (w, cn, i, x.2.2.2.1) ∈ zl_N) ∧ Cond.instanceMethod (zm_y x.2.2.2.1) ∈ jb_zw) ∨ (x.2.2.1 = 2 ∧ Cond.methodLink (zc_nm cn) i objectInit ∈ jb_zw))
  | _ => True
def jb_ok (q : jb_Q) : Prop := ∀ (pc : Nat) (x : jb_I), q.2.2.2.2.2 pc = some x → decode q.2.2.1 pc = .ok (x.1, x.2.1) ∧ jb_okL q.1 pc x
/-- the machine in a method q -/
def jb_C (q : jb_Q) (p : Program) (s : State) (m : MethodId) (args : Array Value) (meth : Method) (c : Code) : Prop :=
  p.tables.exec = Jvm.exec ∧ c.code = q.2.2.1 ∧ meth.sig.returnType = q.2.2.2.2.1 ∧ c.maxLocals = q.2.2.2.1 ∧ s.vm.findClass (zc_nm q.1) = some m.cls ∧ (∀ w ∈ jb_zw, w.before args s = true) ∧ meth.locks = false ∧ meth.name = q.2.1.name ∧ jb_ok q
/-- a method's end: its answer, its world -/
def jb_E (Γ : jb_G) (n : Nat) (ad : Nat → Nat) (v : Option Value) (σ' : jb_S) : Array Value → State → Outcome → State → Prop := fun _ _ o t =>
  ∃ ad' : Nat → Nat, (∀ k, k < n → ad' k = ad k) ∧ (σ'.1.1.length = n → ad' = ad) ∧ o = .returned (v.map (jb_tv ad')) ∧ jb_w Γ ad' σ' t t.heap ∧ Γ.2.1.size ≤ t.heap.size ∧ ∀ q : Nat, q < Γ.2.1.size → t.heap[q]? = Γ.2.1[q]?
/-- THE JUDGEMENT: from pc with these locals, this stack and this world, the method comes to its end with v and σ' -/
def jb_V (Γ : jb_G) (d : Nat) (q : jb_Q) (pc : Nat) (ls : jb_Ls) (st : List Value) (σ : jb_S) (v : Option Value) (σ' : jb_S) : Prop :=
  σ.1.1.length ≤ σ'.1.1.length ∧ jb_slo σ.1.1 ≤ jb_slo σ'.1.1 ∧
  ∀ (p : Program) (e : Env) (R : Room) (s : State) (m : MethodId) (args : Array Value) (below : List Frame) (meth : Method) (c : Code) (H : Heap) (locs : List Loc) (cells slots : Nat) (ad : Nat → Nat) (lsA : Array Slot),
    jb_C q p s m args meth c → d ≤ R.frames → 100 * d ≤ R.locals → jb_w Γ ad σ s H → va_S (fun q => Γ.2.1.size ≤ q) Γ.2.1 H locs → jb_LR ad lsA q.2.2.2.1 ls →
    cells + (σ'.1.1.length - σ.1.1.length) ≤ R.cells → slots + (jb_slo σ'.1.1 - jb_slo σ.1.1) ≤ R.slots →
    W p Γ.1 e R s m args below meth c H locs cells slots (MQ below (jb_E Γ σ.1.1.length ad v σ') args s (cells + (σ'.1.1.length - σ.1.1.length)) (slots + (jb_slo σ'.1.1 - jb_slo σ.1.1)) (fun a => Γ.2.1.size ≤ a)) (F0 m pc lsA (st.map (jb_tv ad)))
