def zl_P : List (Nat × Nat × Nat) := [(659, 5, 31), (697, 8, 77), (706, 9, 43), (1131, 3, 39)]
def zl_O : List (Nat × Nat × Nat) := [(125, 12, 1), (133, 10, 1), (150, 9, 3), (220, 8, 3), (251, 1, 3), (275, 7, 3), (294, 5, 3), (335, 6, 3), (355, 4, 3), (375, 11, 3), (413, 0, 3), (467, 2, 3), (483, 3, 3), (1220, 13, 1)]
theorem zt_P : zl_P.all (fun x => decide (lw_tbl[x.1]? = some (.methodLink (zc_nm x.2.1) x.2.2 arraycopyName))) = true := by decide +kernel
theorem zt_O : zl_O.all (fun x => decide (lw_tbl[x.1]? = some (.methodLink (zc_nm x.2.1) x.2.2 objectInit))) = true := by decide +kernel
/-! code tables: what is checked of each entry by program -/
def jb_okB (cn : Nat) (bs : ByteArray) (pc : Nat) (x : jb_I) : Bool := decide (decode bs pc = .ok (x.1, x.2.1)) && (match x.1 with
  | .iconst n => Nat.beq x.2.1 1 && decide (Int32.ofInt n = x.2.2.2.2.1)
  | .bipush n => Nat.beq x.2.1 2 && decide ((Int8.ofInt n).toInt32 = x.2.2.2.2.1)
  | .sipush n => Nat.beq x.2.1 3 && decide ((Int16.ofInt n).toInt32 = x.2.2.2.2.1)
  | .lconst n => Nat.beq x.2.1 1 && decide (Int64.ofNat (n : Nat) = x.2.2.2.2.2)
  | .ldc i => Nat.beq x.2.1 2 && zl_I.any (fun y => Nat.beq y.2.1 cn && Nat.beq y.2.2.1 i && decide (y.2.2.2 = x.2.2.2.2.1))
  | .ldc_w i => Nat.beq x.2.1 3 && zl_I.any (fun y => Nat.beq y.2.1 cn && Nat.beq y.2.2.1 i && decide (y.2.2.2 = x.2.2.2.2.1))
  | .ldc2_w i => Nat.beq x.2.1 3 && zl_J.any (fun y => Nat.beq y.2.1 cn && Nat.beq y.2.2.1 i && decide (y.2.2.2 = x.2.2.2.2.2))
  | .iload_n n | .aload_n n | .lload_n n | .istore_n n | .astore_n n | .lstore_n n => Nat.beq x.2.1 1 && Nat.beq (n : Nat) x.2.2.2.1
  | .iload n | .aload n | .lload n | .istore n | .astore n | .lstore n => Nat.beq x.2.1 2 && Nat.beq n x.2.2.2.1
  | .iinc i n => Nat.beq x.2.1 3 && Nat.beq i x.2.2.2.1 && decide (Int32.ofInt n = x.2.2.2.2.1)
  | .goto off => Nat.beq x.2.1 3 && decide ((pc : Int) + off = (x.2.2.2.1 : Int))
  | .ifCond _ off => Nat.beq x.2.1 3 && decide ((pc : Int) + off = (x.2.2.2.1 : Int))
  | .if_icmp _ off => Nat.beq x.2.1 3 && decide ((pc : Int) + off = (x.2.2.2.1 : Int))
  | .getfield i | .putfield i => Nat.beq x.2.1 3 && Nat.blt x.2.2.1 14 && Nat.blt x.2.2.2.1 (jb_nF x.2.2.1) && zl_F.any (fun y => Nat.beq y.2.1 cn && Nat.beq y.2.2.1 i && Nat.beq y.2.2.2.1 x.2.2.1 && Nat.beq y.2.2.2.2 x.2.2.2.1)
  | .iadd | .isub | .imul | .idiv | .irem | .ineg | .iand | .ior | .ixor | .ishl | .ishr | .iushr | .ladd | .lsub | .lmul | .ldiv | .lcmp | .i2l | .l2i | .i2b | .dup | .pop | .dup2
  | .iaload | .baload | .laload | .iastore | .bastore | .lastore | .arraylength | .ireturn | .lreturn | .return_ => Nat.beq x.2.1 1
  | .new i => Nat.beq x.2.1 3 && Nat.blt x.2.2.1 14 && zl_K.any (fun y => Nat.beq y.2.1 cn && Nat.beq y.2.2.1 i && Nat.beq y.2.2.2 x.2.2.1)
  | .newarray _ => Nat.beq x.2.1 2
  | .invokevirtual i => Nat.beq x.2.1 3 && zl_M.any (fun y => Nat.beq y.2.1 cn && Nat.beq y.2.2.1 i && Nat.beq y.2.2.2 x.2.2.2.1) && zl_V.any (fun y => Nat.beq y.2.1 x.2.2.2.1)
  | .invokestatic i => Nat.beq x.2.1 3 && ((Nat.beq x.2.2.1 0 && zl_M.any (fun y => Nat.beq y.2.1 cn && Nat.beq y.2.2.1 i && Nat.beq y.2.2.2 x.2.2.2.1) && zl_S.any (fun y => Nat.beq y.2 x.2.2.2.1)) || (Nat.beq x.2.2.1 1 && zl_N.any (fun y => Nat.beq y.2.1 cn && Nat.beq y.2.2.1 i && Nat.beq y.2.2.2 x.2.2.2.1) && zl_S.any (fun y => Nat.beq y.2 x.2.2.2.1)) || (Nat.beq x.2.2.1 2 && zl_P.any (fun y => Nat.beq y.2.1 cn && Nat.beq y.2.2 i)))
  | .invokespecial i => Nat.beq x.2.1 3 && ((Nat.beq x.2.2.1 0 && zl_M.any (fun y => Nat.beq y.2.1 cn && Nat.beq y.2.2.1 i && Nat.beq y.2.2.2 x.2.2.2.1) && zl_X.any (fun y => Nat.beq y.2 x.2.2.2.1)) || (Nat.beq x.2.2.1 1 && zl_N.any (fun y => Nat.beq y.2.1 cn && Nat.beq y.2.2.1 i && Nat.beq y.2.2.2 x.2.2.2.1) && zl_X.any (fun y => Nat.beq y.2 x.2.2.2.1)) || (Nat.beq x.2.2.1 2 && zl_O.any (fun y => Nat.beq y.2.1 cn && Nat.beq y.2.2 i)))
  | _ => true)
theorem jb_aM {cn i k : Nat} (h : zl_M.any (fun y => Nat.beq y.2.1 cn && Nat.beq y.2.2.1 i && Nat.beq y.2.2.2 k) = true) : Cond.methodLink (zc_nm cn) i (zm_y k) ∈ jb_zw := by
  obtain ⟨y, hy, h⟩ := List.any_eq_true.mp h
  simp only [Bool.and_eq_true, Nat.beq_eq] at h
  have h2 := jb_all zt_M hy
  rw [h.1.1, h.1.2, h.2] at h2
  exact jb_zw_of (of_decide_eq_true h2) rfl
theorem jb_aN {cn i k : Nat} (h : zl_N.any (fun y => Nat.beq y.2.1 cn && Nat.beq y.2.2.1 i && Nat.beq y.2.2.2 k) = true) : ∃ w, (w, cn, i, k) ∈ zl_N := by
  obtain ⟨y, hy, h⟩ := List.any_eq_true.mp h
  simp only [Bool.and_eq_true, Nat.beq_eq] at h
  obtain ⟨w, a, b, c⟩ := y
  obtain ⟨⟨rfl, rfl⟩, rfl⟩ := h
  exact ⟨w, hy⟩
theorem jb_aS {k : Nat} (h : zl_S.any (fun y => Nat.beq y.2 k) = true) : Cond.static (zm_y k) ∈ jb_zw := by
  obtain ⟨y, hy, h⟩ := List.any_eq_true.mp h
  simp only [Nat.beq_eq] at h
  have h2 := jb_all zt_S hy
  rw [h] at h2
  exact jb_zw_of (of_decide_eq_true h2) rfl
theorem jb_aX {k : Nat} (h : zl_X.any (fun y => Nat.beq y.2 k) = true) : Cond.instanceMethod (zm_y k) ∈ jb_zw := by
  obtain ⟨y, hy, h⟩ := List.any_eq_true.mp h
  simp only [Nat.beq_eq] at h
  have h2 := jb_all zt_X hy
  rw [h] at h2
  exact jb_zw_of (of_decide_eq_true h2) rfl
theorem jb_aV {k : Nat} (h : zl_V.any (fun y => Nat.beq y.2.1 k) = true) : Cond.instanceMethod (zm_y k) ∈ jb_zw ∧ Cond.selects (zm_y k).cls (zm_y k) (zm_y k) ∈ jb_zw := by
  obtain ⟨y, hy, h⟩ := List.any_eq_true.mp h
  simp only [Nat.beq_eq] at h
  have h2 := jb_all zt_V hy
  rw [h, Bool.and_eq_true] at h2
  exact ⟨jb_zw_of (of_decide_eq_true h2.2) rfl, jb_zw_of (of_decide_eq_true h2.1) rfl⟩
theorem jb_aF {cn i ci k : Nat} (h14 : ci < 14) (h : zl_F.any (fun y => Nat.beq y.2.1 cn && Nat.beq y.2.2.1 i && Nat.beq y.2.2.2.1 ci && Nat.beq y.2.2.2.2 k) = true) : Cond.fieldLink (zc_nm cn) i (zc_nm ci) ((zc_cls.getD ci ("", zc_T0, 0)).2.1 k).2.1 ((zc_cls.getD ci ("", zc_T0, 0)).2.1 k).2.2.1 ∈ jb_zw := by
  obtain ⟨y, hy, h⟩ := List.any_eq_true.mp h
  simp only [Bool.and_eq_true, Nat.beq_eq] at h
  have h2 := jb_all zt_F hy
  rw [h.1.1.1, h.1.1.2, h.1.2, h.2] at h2
  exact jb_zw_of (of_decide_eq_true h2) rfl
theorem jb_aI {cn i : Nat} {v : Int32} (h : zl_I.any (fun y => Nat.beq y.2.1 cn && Nat.beq y.2.2.1 i && decide (y.2.2.2 = v)) = true) : Cond.constant (zc_nm cn) i v ∈ jb_zw := by
  obtain ⟨y, hy, h⟩ := List.any_eq_true.mp h
  simp only [Bool.and_eq_true, Nat.beq_eq, decide_eq_true_eq] at h
  have h2 := jb_all zt_I hy
  rw [h.1.1, h.1.2, h.2] at h2
  exact jb_zw_of (of_decide_eq_true h2) rfl
theorem jb_aJ {cn i : Nat} {v : Int64} (h : zl_J.any (fun y => Nat.beq y.2.1 cn && Nat.beq y.2.2.1 i && decide (y.2.2.2 = v)) = true) : Cond.constantLong (zc_nm cn) i v ∈ jb_zw := by
  obtain ⟨y, hy, h⟩ := List.any_eq_true.mp h
  simp only [Bool.and_eq_true, Nat.beq_eq, decide_eq_true_eq] at h
  have h2 := jb_all zt_J hy
  rw [h.1.1, h.1.2, h.2] at h2
  exact jb_zw_of (of_decide_eq_true h2) rfl
theorem jb_aK {cn i ci : Nat} (h : zl_K.any (fun y => Nat.beq y.2.1 cn && Nat.beq y.2.2.1 i && Nat.beq y.2.2.2 ci) = true) : Cond.classLink (zc_nm cn) i (zc_nm ci) ∈ jb_zw := by
  obtain ⟨y, hy, h⟩ := List.any_eq_true.mp h
  simp only [Bool.and_eq_true, Nat.beq_eq] at h
  have h2 := jb_all zt_K hy
  rw [h.1.1, h.1.2, h.2] at h2
  exact jb_zw_of (of_decide_eq_true h2) rfl
theorem jb_aP {cn i : Nat} (h : zl_P.any (fun y => Nat.beq y.2.1 cn && Nat.beq y.2.2 i) = true) : Cond.methodLink (zc_nm cn) i arraycopyName ∈ jb_zw := by
  obtain ⟨y, hy, h⟩ := List.any_eq_true.mp h
  simp only [Bool.and_eq_true, Nat.beq_eq] at h
  have h2 := jb_all zt_P hy
  rw [h.1, h.2] at h2
  exact jb_zw_of (of_decide_eq_true h2) rfl
theorem jb_aO {cn i : Nat} (h : zl_O.any (fun y => Nat.beq y.2.1 cn && Nat.beq y.2.2 i) = true) : Cond.methodLink (zc_nm cn) i objectInit ∈ jb_zw := by
  obtain ⟨y, hy, h⟩ := List.any_eq_true.mp h
  simp only [Bool.and_eq_true, Nat.beq_eq] at h
  have h2 := jb_all zt_O hy
  rw [h.1, h.2] at h2
  exact jb_zw_of (of_decide_eq_true h2) rfl
theorem jb_okB_ok {cn : Nat} {bs : ByteArray} {pc : Nat} {x : jb_I} (h : jb_okB cn bs pc x = true) : decode bs pc = .ok (x.1, x.2.1) ∧ jb_okL cn pc x := by
  unfold jb_okB at h
  rw [Bool.and_eq_true] at h
  refine ⟨of_decide_eq_true h.1, ?_⟩
  replace h := h.2
  obtain ⟨i, len, ci, k, z, zl⟩ := x
  cases i <;> first
    | trivial
    | (simp only [Bool.and_eq_true, Nat.beq_eq, decide_eq_true_eq] at h; exact h)
    | (simp only [Bool.and_eq_true, Nat.beq_eq, decide_eq_true_eq] at h; exact ⟨h.1.1, h.1.2, h.2⟩)
    | (simp only [Bool.and_eq_true, Nat.beq_eq] at h; exact ⟨h.1, jb_aI h.2⟩)
    | (simp only [Bool.and_eq_true, Nat.beq_eq] at h; exact ⟨h.1, jb_aJ h.2⟩)
    | (simp only [Bool.and_eq_true, Nat.beq_eq, Nat.blt_eq] at h; exact ⟨h.1.1.1, h.1.1.2, h.1.2, jb_aF h.1.1.2 h.2⟩)
    | (simp only [Bool.and_eq_true, Nat.beq_eq, Nat.blt_eq] at h; exact ⟨h.1.1, h.1.2, jb_aK h.2⟩)
    | (simp only [Bool.and_eq_true, Nat.beq_eq] at h; exact ⟨h.1.1, jb_aM h.1.2, (jb_aV h.2).1, (jb_aV h.2).2⟩)
    | (simp only [Bool.and_eq_true, Bool.or_eq_true, Nat.beq_eq] at h
       refine ⟨h.1, ?_⟩
       rcases h.2 with (h2 | h2) | h2
       · exact Or.inl ⟨h2.1.1, jb_aM h2.1.2, jb_aS h2.2⟩
       · exact Or.inr (Or.inl ⟨h2.1.1, jb_aN h2.1.2, jb_aS h2.2⟩)
       · exact Or.inr (Or.inr ⟨h2.1, jb_aP h2.2⟩))
    | (simp only [Bool.and_eq_true, Bool.or_eq_true, Nat.beq_eq] at h
       refine ⟨h.1, ?_⟩
       rcases h.2 with (h2 | h2) | h2
       · exact Or.inl ⟨h2.1.1, jb_aM h2.1.2, jb_aX h2.2⟩
       · exact Or.inr (Or.inl ⟨h2.1.1, jb_aN h2.1.2, jb_aX h2.2⟩)
       · exact Or.inr (Or.inr ⟨h2.1, jb_aO h2.2⟩))
def jb_tb (n : Nat) (t : jb_T) : jb_T := fun pc => bif Nat.blt pc n then t pc else none
def jb_okT (cn : Nat) (bs : ByteArray) (t : jb_T) (lo n : Nat) : Bool := (List.range n).all (fun j => match t (lo + j) with
  | none => true
  | some x => jb_okB cn bs (lo + j) x)
theorem jb_ok_of {q : jb_Q} {n : Nat} {t : jb_T} (hz : q.2.2.2.2.2 = jb_tb n t) (h : ∀ pc, pc < n → ∀ x, t pc = some x → jb_okB q.1 q.2.2.1 pc x = true) : jb_ok q := by
  intro pc x hx
  rw [hz] at hx
  unfold jb_tb at hx
  cases hb : Nat.blt pc n with
  | false => rw [hb] at hx; cases hx
  | true =>
    rw [hb] at hx
    exact jb_okB_ok (h pc (by simpa using hb) x hx)
theorem jb_okT_at {cn : Nat} {bs : ByteArray} {t : jb_T} {lo n : Nat} (h : jb_okT cn bs t lo n = true) (pc : Nat) (h1 : lo ≤ pc) (h2 : pc < lo + n) (x : jb_I) (hx : t pc = some x) : jb_okB cn bs pc x = true := by
  have h3 := jb_rng h (k := pc - lo) (by omega)
  rw [show lo + (pc - lo) = pc by omega, hx] at h3
  exact h3
def zm_cn : List Nat := [14, 0, 9, 9, 9, 9, 9, 9, 0, 0, 0, 0, 0, 9, 9, 8, 16, 8, 9, 1, 0, 0, 15, 12, 0, 0, 15, 15, 0, 0, 10, 10, 0, 0, 0, 0, 1, 9, 1, 1, 1, 1, 1, 1, 1, 17, 1, 1, 2, 2, 2, 9, 2, 2, 2, 3, 3, 3, 3, 3, 3, 3, 4, 4, 4, 4, 4, 4, 4, 5, 5, 5, 5, 6, 12, 6, 12, 6, 6, 6, 6, 6, 6, 6, 6, 7, 12, 7, 7, 7, 7, 7, 7, 7, 8, 8, 8, 8, 8, 8, 8, 9, 9, 9, 9, 9, 9, 9, 9, 9, 9, 9, 9, 10, 10, 10, 10, 10, 11, 11, 11, 11, 11, 11, 11, 12, 12, 12, 12, 12, 12, 12, 12, 12, 12, 12, 12, 12, 12, 12, 12, 12, 12, 12, 12, 12, 12, 12, 12, 12, 12, 12, 12, 12, 12, 12, 12, 12, 12, 12, 12, 12, 12, 13, 13, 13, 13, 13, 13, 13, 13, 13, 13, 13, 13, 13, 13, 13, 13, 13, 13, 13, 13, 13, 13, 13, 13, 13, 13, 13, 13, 13, 13, 13, 13, 13, 13, 13, 13, 13, 13, 13, 13, 13, 13, 13, 13, 13, 13, 13, 13, 13, 13, 13, 13, 13, 13, 13, 13, 13, 13, 13, 13, 13, 13, 13, 13, 13, 13, 13, 13, 13, 13, 13, 13, 13, 13, 13, 13, 13, 13, 13, 13, 13, 13, 13, 13, 13, 13, 13, 13, 13, 13, 13, 13, 13, 13, 13, 13, 13, 13, 13, 13, 13, 13, 13, 13, 13, 13, 13, 16, 16, 16]
def zm_np : List Nat := [1, 2, 1, 1, 2, 3, 2, 2, 1, 2, 1, 4, 2, 1, 0, 1, 2, 2, 1, 2, 1, 1, 1, 3, 2, 0, 1, 2, 2, 1, 1, 1, 2, 1, 2, 2, 2, 1, 3, 2, 1, 1, 1, 1, 1, 2, 0, 1, 1, 2, 2, 0, 2, 2, 0, 0, 1, 0, 2, 1, 2, 1, 1, 1, 1, 3, 1, 1, 2, 0, 2, 1, 1, 2, 2, 1, 1, 0, 1, 1, 1, 1, 1, 1, 0, 2, 1, 2, 0, 0, 1, 1, 0, 0, 0, 2, 2, 0, 2, 1, 1, 0, 1, 0, 1, 0, 0, 1, 1, 0, 0, 0, 0, 0, 0, 1, 1, 1, 3, 0, 1, 2, 1, 1, 0, 0, 3, 5, 2, 5, 1, 3, 1, 1, 0, 2, 2, 2, 2, 2, 2, 2, 1, 3, 2, 3, 2, 3, 3, 4, 2, 1, 2, 2, 1, 1, 3, 1, 1, 0, 0, 1, 1, 0, 3, 2, 2, 1, 2, 1, 2, 1, 1, 1, 1, 3, 5, 2, 4, 2, 2, 1, 5, 1, 0, 0, 2, 1, 0, 2, 1, 0, 1, 1, 1, 0, 1, 0, 0, 1, 1, 0, 0, 0, 1, 1, 3, 2, 2, 1, 1, 3, 3, 0, 0, 3, 2, 2, 0, 0, 1, 0, 1, 1, 3, 2, 0, 1, 1, 2, 2, 1, 1, 1, 2, 2, 2, 2, 2, 3, 2, 1, 1, 3, 2, 2, 1, 4, 5, 3, 4, 2, 2, 0, 2, 1, 1, 0, 2, 2, 2, 1, 1, 3, 1, 1, 0, 0, 1, 1, 1, 2, 2]
theorem zt_c1 : (List.range 273).all (fun i => decide ((zm_y i).cls = zc_nm (zm_cn.getD i 0)) && Nat.blt (zm_cn.getD i 0) 18 && plainFor (zm_y i) && decide ((zm_y i).cls ≠ "java/lang/invoke/MethodHandle") && decide ((zm_y i).cls ≠ "java/lang/invoke/VarHandle") && decide ((parseMethodDescriptor (zm_y i).desc).map (fun d => d.parameters.length) = some (zm_np.getD i 0)) ) = true := by decide +kernel
theorem jb_okM_of {q : jb_Q} (i : Nat) (hi : i < 273) (h0 : i ≠ 0) (hy : q.2.1 = zm_y i) (hcn : q.1 = zm_cn.getD i 0) (hm : q.2.2.2.1 ≤ 80) (hcd : Cond.code q.2.1 q.2.2.1 q.2.2.2.1 q.2.2.2.2.1 ∈ lw_tbl) (ho : jb_ok q) : jb_okM q (zm_np.getD i 0) := by
  have h1 := jb_rng zt_c1 hi
  simp only [Bool.and_eq_true, decide_eq_true_eq, Nat.blt_eq, Nat.ble_eq] at h1
  obtain ⟨⟨⟨⟨⟨a1, a2⟩, a3⟩, a4⟩, a5⟩, a6⟩ := h1
  exact ⟨ho, by rw [hy, hcn]; exact a1, by rw [hcn]; exact a2, by rw [hy]; exact a3, List.mem_filter.mpr ⟨hcd, rfl⟩, by rw [hy]; exact ⟨a4, a5⟩, by rw [hy]; exact a6, hm⟩
