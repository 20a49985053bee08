/-! ONE INSTRUCTION AS A FUNCTION, and that the machine does it -/
section
variable {Γ : jb_G} {d : Nat} {q : jb_Q} {pc pc' : Nat} {ls ls' : jb_Ls} {st st' : List Value} {σ : jb_S} {v : Option Value} {σ2 : jb_S}
theorem jb_pure (hs : ∀ (p : Program) (e : Env) (R : Room) (s : State) (m : MethodId) (args : Array Value) (below : List Frame) (meth : Method) (c : Code) (H : Heap) (locs : List Loc) (cells slots : Nat) (ad : Nat → Nat) (lsA : Array Slot) (Q : State → Prop),
      jb_C q p s m args meth c → jb_w Γ ad σ s H → va_S (fun q => Γ.2.1.size ≤ q) Γ.2.1 H locs → jb_LR ad lsA q.2.2.2.1 ls → W p Γ.1 e R s m args below meth c H locs cells slots Q (F0 m pc' lsA (st'.map (jb_tv ad))) → W p Γ.1 e R s m args below meth c H locs cells slots Q (F0 m pc lsA (st.map (jb_tv ad))))
    (hv : jb_V Γ d q pc' ls st' σ v σ2) : jb_V Γ d q pc ls st σ v σ2 :=
  ⟨hv.1, hv.2.1, fun p e R s m args below meth c H locs cells slots ad lsA hC hd hd2 hw hS hL hc hs' => hs p e R s m args below meth c H locs cells slots ad lsA _ hC hw hS hL (hv.2.2 p e R s m args below meth c H locs cells slots ad lsA hC hd hd2 hw hS hL hc hs')⟩
theorem jb_locs (hs : ∀ (p : Program) (e : Env) (R : Room) (s : State) (m : MethodId) (args : Array Value) (below : List Frame) (meth : Method) (c : Code) (H : Heap) (locs : List Loc) (cells slots : Nat) (ad : Nat → Nat) (lsA : Array Slot) (Q : State → Prop),
      jb_C q p s m args meth c → jb_LR ad lsA q.2.2.2.1 ls → (∀ lsB : Array Slot, jb_LR ad lsB q.2.2.2.1 ls' → W p Γ.1 e R s m args below meth c H locs cells slots Q (F0 m pc' lsB (st'.map (jb_tv ad)))) → W p Γ.1 e R s m args below meth c H locs cells slots Q (F0 m pc lsA (st.map (jb_tv ad))))
    (hv : jb_V Γ d q pc' ls' st' σ v σ2) : jb_V Γ d q pc ls st σ v σ2 :=
  ⟨hv.1, hv.2.1, fun p e R s m args below meth c H locs cells slots ad lsA hC hd hd2 hw hS hL hc hs' => hs p e R s m args below meth c H locs cells slots ad lsA _ hC hL (fun lsB hB => hv.2.2 p e R s m args below meth c H locs cells slots ad lsB hC hd hd2 hw hS hB hc hs')⟩
theorem jb_memo {M' : jb_Mi} {N' : jb_Ml} (hs : ∀ (p : Program) (e : Env) (R : Room) (s : State) (m : MethodId) (args : Array Value) (below : List Frame) (meth : Method) (c : Code) (H : Heap) (locs : List Loc) (cells slots : Nat) (ad : Nat → Nat) (lsA : Array Slot) (Q : State → Prop),
      jb_C q p s m args meth c → 100 * d ≤ R.locals → d ≤ R.frames → jb_w Γ ad σ s H → va_S (fun q => Γ.2.1.size ≤ q) Γ.2.1 H locs → jb_LR ad lsA q.2.2.2.1 ls → (∀ (H1 : Heap) (locs1 : List Loc), jb_w Γ ad (σ.1, M', N') s H1 → va_S (fun q => Γ.2.1.size ≤ q) Γ.2.1 H1 locs1 → W p Γ.1 e R s m args below meth c H1 locs1 cells slots Q (F0 m pc' lsA (st'.map (jb_tv ad)))) → W p Γ.1 e R s m args below meth c H locs cells slots Q (F0 m pc lsA (st.map (jb_tv ad))))
    (hv : jb_V Γ d q pc' ls st' (σ.1, M', N') v σ2) : jb_V Γ d q pc ls st σ v σ2 :=
  ⟨hv.1, hv.2.1, fun p e R s m args below meth c H locs cells slots ad lsA hC hd hd2 hw hS hL hc hs' => hs p e R s m args below meth c H locs cells slots ad lsA _ hC hd2 hd hw hS hL (fun H1 locs1 hw1 hS1 => hv.2.2 p e R s m args below meth c H1 locs1 cells slots ad lsA hC hd hd2 hw1 hS1 hL hc hs')⟩
end
theorem jb_C.dec {q : jb_Q} {p : Program} {s : State} {m : MethodId} {args : Array Value} {meth : Method} {c : Code} {pc : Nat} {x : jb_I} (h : jb_C q p s m args meth c) (hx : q.2.2.2.2.2 pc = some x) : decode q.2.2.1 pc = .ok (x.1, x.2.1) ∧ jb_okL q.1 pc x := h.2.2.2.2.2.2.2.2 pc x hx
def jb_i1 {α : Type} (st : List Value) (f : Int32 → List Value → Option α) : Option α := match st with
  | .int x :: r => f x r
  | _ => none
def jb_i2 {α : Type} (st : List Value) (f : Int32 → Int32 → List Value → Option α) : Option α := match st with
  | .int y :: .int x :: r => f x y r
  | _ => none
def jb_l1 {α : Type} (st : List Value) (f : Int64 → List Value → Option α) : Option α := match st with
  | .long x :: r => f x r
  | _ => none
def jb_l2 {α : Type} (st : List Value) (f : Int64 → Int64 → List Value → Option α) : Option α := match st with
  | .long y :: .long x :: r => f x y r
  | _ => none
def jb_r1 {α : Type} (st : List Value) (f : Nat → List Value → Option α) : Option α := match st with
  | .ref a :: r => f a r
  | _ => none
def jb_ir {α : Type} (st : List Value) (f : Int32 → Nat → List Value → Option α) : Option α := match st with
  | .int i :: .ref a :: r => f i a r
  | _ => none
def jb_iir {α : Type} (st : List Value) (f : Int32 → Int32 → Nat → List Value → Option α) : Option α := match st with
  | .int x :: .int i :: .ref a :: r => f x i a r
  | _ => none
def jb_lir {α : Type} (st : List Value) (f : Int64 → Int32 → Nat → List Value → Option α) : Option α := match st with
  | .long x :: .int i :: .ref a :: r => f x i a r
  | _ => none
def jb_v1 {α : Type} (st : List Value) (f : Value → List Value → Option α) : Option α := match st with
  | v :: r => bif Nat.beq v.category 1 then f v r else none
  | _ => none
def jb_v2 {α : Type} (st : List Value) (f : Value → Value → List Value → Option α) : Option α := match st with
  | v :: w :: r => bif Nat.beq v.category 1 && Nat.beq w.category 1 then f v w r else none
  | _ => none

theorem jb_i1_of {α : Type} {st : List Value} {f : Int32 → List Value → Option α} {z : α} (h : jb_i1 st f = some z) : ∃ x r, st = .int x :: r ∧ f x r = some z := by
  unfold jb_i1 at h
  split at h
  · exact ⟨_, _, rfl, h⟩
  · cases h
theorem jb_i2_of {α : Type} {st : List Value} {f : Int32 → Int32 → List Value → Option α} {z : α} (h : jb_i2 st f = some z) : ∃ x y r, st = .int y :: .int x :: r ∧ f x y r = some z := by
  unfold jb_i2 at h
  split at h
  · exact ⟨_, _, _, rfl, h⟩
  · cases h
theorem jb_l1_of {α : Type} {st : List Value} {f : Int64 → List Value → Option α} {z : α} (h : jb_l1 st f = some z) : ∃ x r, st = .long x :: r ∧ f x r = some z := by
  unfold jb_l1 at h
  split at h
  · exact ⟨_, _, rfl, h⟩
  · cases h
theorem jb_l2_of {α : Type} {st : List Value} {f : Int64 → Int64 → List Value → Option α} {z : α} (h : jb_l2 st f = some z) : ∃ x y r, st = .long y :: .long x :: r ∧ f x y r = some z := by
  unfold jb_l2 at h
  split at h
  · exact ⟨_, _, _, rfl, h⟩
  · cases h
theorem jb_r1_of {α : Type} {st : List Value} {f : Nat → List Value → Option α} {z : α} (h : jb_r1 st f = some z) : ∃ a r, st = .ref a :: r ∧ f a r = some z := by
  unfold jb_r1 at h
  split at h
  · exact ⟨_, _, rfl, h⟩
  · cases h
theorem jb_ir_of {α : Type} {st : List Value} {f : Int32 → Nat → List Value → Option α} {z : α} (h : jb_ir st f = some z) : ∃ i a r, st = .int i :: .ref a :: r ∧ f i a r = some z := by
  unfold jb_ir at h
  split at h
  · exact ⟨_, _, _, rfl, h⟩
  · cases h
theorem jb_iir_of {α : Type} {st : List Value} {f : Int32 → Int32 → Nat → List Value → Option α} {z : α} (h : jb_iir st f = some z) : ∃ x i a r, st = .int x :: .int i :: .ref a :: r ∧ f x i a r = some z := by
  unfold jb_iir at h
  split at h
  · exact ⟨_, _, _, _, rfl, h⟩
  · cases h
theorem jb_lir_of {α : Type} {st : List Value} {f : Int64 → Int32 → Nat → List Value → Option α} {z : α} (h : jb_lir st f = some z) : ∃ x i a r, st = .long x :: .int i :: .ref a :: r ∧ f x i a r = some z := by
  unfold jb_lir at h
  split at h
  · exact ⟨_, _, _, _, rfl, h⟩
  · cases h
theorem jb_v1_of {α : Type} {st : List Value} {f : Value → List Value → Option α} {z : α} (h : jb_v1 st f = some z) : ∃ x r, st = x :: r ∧ x.category = 1 ∧ f x r = some z := by
  unfold jb_v1 at h
  split at h
  · rename_i v r
    cases hc : Nat.beq v.category 1 with
    | true => rw [hc] at h; exact ⟨v, r, rfl, Nat.eq_of_beq_eq_true hc, h⟩
    | false => rw [hc] at h; cases h
  · cases h
theorem jb_v2_of {α : Type} {st : List Value} {f : Value → Value → List Value → Option α} {z : α} (h : jb_v2 st f = some z) : ∃ x y r, st = x :: y :: r ∧ x.category = 1 ∧ y.category = 1 ∧ f x y r = some z := by
  unfold jb_v2 at h
  split at h
  · rename_i v w r
    cases hc : Nat.beq v.category 1 with
    | true =>
      cases hc2 : Nat.beq w.category 1 with
      | true => rw [hc, hc2] at h; exact ⟨v, w, r, rfl, Nat.eq_of_beq_eq_true hc, Nat.eq_of_beq_eq_true hc2, h⟩
      | false => rw [hc, hc2] at h; cases h
    | false => rw [hc] at h; cases h
  · cases h
abbrev jb_O : Type := Nat × jb_Ls × List Value × jb_S × List Prop
/-- the cell a is of kind k: its length -/
def jb_kd {α : Type} (σ : jb_S) (a k : Nat) (f : Nat → Option α) : Option α := match jb_sk σ.1.1 a with
  | some x => bif Nat.beq x.1 k then f x.2 else none
  | none => none
theorem jb_kd_of {α : Type} {σ : jb_S} {a k : Nat} {f : Nat → Option α} {z : α} (h : jb_kd σ a k f = some z) : ∃ n, jb_sk σ.1.1 a = some (k, n) ∧ f n = some z := by
  unfold jb_kd at h
  split at h
  · rename_i x hx
    cases hc : Nat.beq x.1 k with
    | true => rw [hc] at h; exact ⟨x.2, by rw [hx, ← Nat.eq_of_beq_eq_true hc], h⟩
    | false => rw [hc] at h; cases h
  · cases h
/-- an array of ints, or the script -/
def jb_ki {α : Type} (σ : jb_S) (a : Nat) (f : Nat → Option α) : Option α := match jb_sk σ.1.1 a with
  | some x => bif Nat.beq x.1 0 || Nat.beq x.1 9 then f x.2 else none
  | none => none
theorem jb_ki_of {α : Type} {σ : jb_S} {a : Nat} {f : Nat → Option α} {z : α} (h : jb_ki σ a f = some z) : ∃ n, (jb_sk σ.1.1 a = some (0, n) ∨ jb_sk σ.1.1 a = some (9, n)) ∧ f n = some z := by
  unfold jb_ki at h
  split at h
  · rename_i x hx
    cases hc : Nat.beq x.1 0 with
    | true => rw [hc] at h; exact ⟨x.2, Or.inl (by rw [hx, ← Nat.eq_of_beq_eq_true hc]), h⟩
    | false =>
      cases hc2 : Nat.beq x.1 9 with
      | true => rw [hc, hc2] at h; exact ⟨x.2, Or.inr (by rw [hx, ← Nat.eq_of_beq_eq_true hc2]), h⟩
      | false => rw [hc, hc2] at h; cases h
  · cases h
def jb_ld (t : Value → Bool) (ls : jb_Ls) (k : Nat) (f : Value → Option jb_O) : Option jb_O := match jb_lk ls k with
  | some v => bif t v then f v else none
  | none => none
theorem jb_ld_of {t : Value → Bool} {ls : jb_Ls} {k : Nat} {f : Value → Option jb_O} {z : jb_O} (h : jb_ld t ls k f = some z) : ∃ v, jb_lk ls k = some v ∧ t v = true ∧ f v = some z := by
  unfold jb_ld at h
  split at h
  · rename_i x hx
    cases hc : t x with
    | true => rw [hc] at h; exact ⟨x, hx, hc, h⟩
    | false => rw [hc] at h; cases h
  · cases h
def jb_tI : Value → Bool
  | .int _ => true
  | _ => false
def jb_tL : Value → Bool
  | .long _ => true
  | _ => false
def jb_tR : Value → Bool
  | .ref _ => true
  | _ => false

def jb_sI (x : jb_I) (n : Nat) (pc : Nat) (ls : jb_Ls) (st : List Value) (σ : jb_S) : Option jb_O := match x.1 with
  | .iconst _ => some (pc + 1, ls, .int x.2.2.2.2.1 :: st, σ, [])
  | .bipush _ => some (pc + 2, ls, .int x.2.2.2.2.1 :: st, σ, [])
  | .sipush _ => some (pc + 3, ls, .int x.2.2.2.2.1 :: st, σ, [])
  | .ldc _ => some (pc + 2, ls, .int x.2.2.2.2.1 :: st, σ, [])
  | .ldc_w _ => some (pc + 3, ls, .int x.2.2.2.2.1 :: st, σ, [])
  | .lconst _ => some (pc + 1, ls, .long x.2.2.2.2.2 :: st, σ, [])
  | .ldc2_w _ => some (pc + 3, ls, .long x.2.2.2.2.2 :: st, σ, [])
  | .iload_n _ => jb_ld jb_tI ls x.2.2.2.1 fun w => some (pc + 1, ls, w :: st, σ, [])
  | .iload _ => jb_ld jb_tI ls x.2.2.2.1 fun w => some (pc + 2, ls, w :: st, σ, [])
  | .lload_n _ => jb_ld jb_tL ls x.2.2.2.1 fun w => some (pc + 1, ls, w :: st, σ, [])
  | .lload _ => jb_ld jb_tL ls x.2.2.2.1 fun w => some (pc + 2, ls, w :: st, σ, [])
  | .aload_n _ => jb_ld jb_tR ls x.2.2.2.1 fun w => some (pc + 1, ls, w :: st, σ, [])
  | .aload _ => jb_ld jb_tR ls x.2.2.2.1 fun w => some (pc + 2, ls, w :: st, σ, [])
  | .istore_n _ => jb_i1 st fun w r => bif Nat.blt x.2.2.2.1 n then some (pc + 1, jb_s1 ls x.2.2.2.1 (.int w), r, σ, []) else none
  | .istore _ => jb_i1 st fun w r => bif Nat.blt x.2.2.2.1 n then some (pc + 2, jb_s1 ls x.2.2.2.1 (.int w), r, σ, []) else none
  | .lstore_n _ => jb_l1 st fun w r => bif Nat.blt (x.2.2.2.1 + 1) n then some (pc + 1, jb_s2 ls x.2.2.2.1 (.long w), r, σ, []) else none
  | .lstore _ => jb_l1 st fun w r => bif Nat.blt (x.2.2.2.1 + 1) n then some (pc + 2, jb_s2 ls x.2.2.2.1 (.long w), r, σ, []) else none
  | .astore_n _ => jb_r1 st fun w r => bif Nat.blt x.2.2.2.1 n then some (pc + 1, jb_s1 ls x.2.2.2.1 (.ref w), r, σ, []) else none
  | .astore _ => jb_r1 st fun w r => bif Nat.blt x.2.2.2.1 n then some (pc + 2, jb_s1 ls x.2.2.2.1 (.ref w), r, σ, []) else none
  | .iinc _ _ => match jb_lk ls x.2.2.2.1 with
    | some (.int w) => bif Nat.blt x.2.2.2.1 n then some (pc + 3, jb_s1 ls x.2.2.2.1 (.int (w + x.2.2.2.2.1)), st, σ, []) else none
    | _ => none
  | .iadd => jb_i2 st fun a b r => some (pc + 1, ls, .int (a + b) :: r, σ, [])
  | .isub => jb_i2 st fun a b r => some (pc + 1, ls, .int (a - b) :: r, σ, [])
  | .imul => jb_i2 st fun a b r => some (pc + 1, ls, .int (a * b) :: r, σ, [])
  | .iand => jb_i2 st fun a b r => some (pc + 1, ls, .int (a &&& b) :: r, σ, [])
  | .ior => jb_i2 st fun a b r => some (pc + 1, ls, .int (a ||| b) :: r, σ, [])
  | .ixor => jb_i2 st fun a b r => some (pc + 1, ls, .int (a ^^^ b) :: r, σ, [])
  | .ishl => jb_i2 st fun a b r => some (pc + 1, ls, .int (a <<< (b &&& 31)) :: r, σ, [])
  | .ishr => jb_i2 st fun a b r => some (pc + 1, ls, .int (a >>> (b &&& 31)) :: r, σ, [])
  | .iushr => jb_i2 st fun a b r => some (pc + 1, ls, .int ((a.toUInt32 >>> (b.toUInt32 &&& Int32.toUInt32 31)).toInt32) :: r, σ, [])
  | .idiv => jb_i2 st fun a b r => some (pc + 1, ls, .int (a / b) :: r, σ, [¬ b = 0])
  | .irem => jb_i2 st fun a b r => some (pc + 1, ls, .int (a - a / b * b) :: r, σ, [¬ b = 0])
  | .ladd => jb_l2 st fun a b r => some (pc + 1, ls, .long (a + b) :: r, σ, [])
  | .lsub => jb_l2 st fun a b r => some (pc + 1, ls, .long (a - b) :: r, σ, [])
  | .lmul => jb_l2 st fun a b r => some (pc + 1, ls, .long (a * b) :: r, σ, [])
  | .ldiv => jb_l2 st fun a b r => some (pc + 1, ls, .long (a / b) :: r, σ, [¬ b = 0])
  | .lcmp => jb_l2 st fun a b r => some (pc + 1, ls, .int (lg_cmp a b) :: r, σ, [])
  | .ineg => jb_i1 st fun a r => some (pc + 1, ls, .int (-a) :: r, σ, [])
  | .i2l => jb_i1 st fun a r => some (pc + 1, ls, .long a.toInt64 :: r, σ, [])
  | .l2i => jb_l1 st fun a r => some (pc + 1, ls, .int a.toInt32 :: r, σ, [])
  | .i2b => jb_i1 st fun a r => some (pc + 1, ls, .int a.toInt8.toInt32 :: r, σ, [])
  | .dup => jb_v1 st fun w r => some (pc + 1, ls, w :: w :: r, σ, [])
  | .pop => jb_v1 st fun w r => some (pc + 1, ls, r, σ, [])
  | .dup2 => jb_v2 st fun w z r => some (pc + 1, ls, w :: z :: w :: z :: r, σ, [])
  | .goto _ => some (x.2.2.2.1, ls, st, σ, [])
  | .ifCond .eq _ => jb_i1 st fun a r => some ((if a = 0 then x.2.2.2.1 else pc + 3), ls, r, σ, [])
  | .ifCond .ne _ => jb_i1 st fun a r => some ((if a = 0 then pc + 3 else x.2.2.2.1), ls, r, σ, [])
  | .ifCond .lt _ => jb_i1 st fun a r => some ((if a < 0 then x.2.2.2.1 else pc + 3), ls, r, σ, [])
  | .ifCond .ge _ => jb_i1 st fun a r => some ((if a < 0 then pc + 3 else x.2.2.2.1), ls, r, σ, [])
  | .ifCond .gt _ => jb_i1 st fun a r => some ((if 0 < a then x.2.2.2.1 else pc + 3), ls, r, σ, [])
  | .ifCond .le _ => jb_i1 st fun a r => some ((if 0 < a then pc + 3 else x.2.2.2.1), ls, r, σ, [])
  | .if_icmp .eq _ => jb_i2 st fun a b r => some ((if a = b then x.2.2.2.1 else pc + 3), ls, r, σ, [])
  | .if_icmp .ne _ => jb_i2 st fun a b r => some ((if a = b then pc + 3 else x.2.2.2.1), ls, r, σ, [])
  | .if_icmp .lt _ => jb_i2 st fun a b r => some ((if a < b then x.2.2.2.1 else pc + 3), ls, r, σ, [])
  | .if_icmp .ge _ => jb_i2 st fun a b r => some ((if a < b then pc + 3 else x.2.2.2.1), ls, r, σ, [])
  | .if_icmp .gt _ => jb_i2 st fun a b r => some ((if b < a then x.2.2.2.1 else pc + 3), ls, r, σ, [])
  | .if_icmp .le _ => jb_i2 st fun a b r => some ((if b < a then pc + 3 else x.2.2.2.1), ls, r, σ, [])
  | .getfield _ => jb_r1 st fun a r => jb_kd σ a (x.2.2.1 + 10) fun _ => bif jb_isR x.2.2.1 x.2.2.2.1 then (bif Nat.beq (σ.1.2 a x.2.2.2.1) 0 then none else some (pc + 3, ls, .ref (σ.1.2 a x.2.2.2.1) :: r, σ, [])) else some (pc + 3, ls, .int (σ.2.1 a x.2.2.2.1) :: r, σ, [])
  | .putfield _ => jb_ir st fun w a r => jb_kd σ a (x.2.2.1 + 10) fun _ => bif jb_isR x.2.2.1 x.2.2.2.1 || jb_fin x.2.2.1 x.2.2.2.1 then none else some (pc + 3, ls, r, (σ.1, jb_up σ.2.1 a x.2.2.2.1 w, σ.2.2), bif jb_isB x.2.2.1 x.2.2.2.1 then [w = 0 ∨ w = 1] else [])
  | .iaload => jb_ir st fun i a r => jb_ki σ a fun k => some (pc + 1, ls, .int (σ.2.1 a i.toNatClampNeg) :: r, σ, [vp_in i k])
  | .baload => jb_ir st fun i a r => jb_kd σ a 1 fun k => some (pc + 1, ls, .int (σ.2.1 a i.toNatClampNeg) :: r, σ, [vp_in i k])
  | .laload => jb_ir st fun i a r => jb_kd σ a 2 fun k => some (pc + 1, ls, .long (σ.2.2 a i.toNatClampNeg) :: r, σ, [vp_in i k])
  | .iastore => jb_iir st fun w i a r => jb_kd σ a 0 fun k => some (pc + 1, ls, r, (σ.1, jb_up σ.2.1 a i.toNatClampNeg w, σ.2.2), [vp_in i k])
  | .bastore => jb_iir st fun w i a r => jb_kd σ a 1 fun k => some (pc + 1, ls, r, (σ.1, jb_up σ.2.1 a i.toNatClampNeg w.toInt8.toInt32, σ.2.2), [vp_in i k])
  | .lastore => jb_lir st fun w i a r => jb_kd σ a 2 fun k => some (pc + 1, ls, r, (σ.1, σ.2.1, jb_ul σ.2.2 a i.toNatClampNeg w), [vp_in i k])
  | .arraylength => jb_r1 st fun a r => jb_ki σ a fun k => some (pc + 1, ls, .int (Int32.ofNat k) :: r, σ, [])
  | _ => none
def jb_aL : List Prop → Prop
  | [] => True
  | [p] => p
  | p :: r => p ∧ jb_aL r
theorem jb_onlyI {c k : Nat} (h : c < 14) (hk : k < jb_nF c) (hR : jb_isR c k = false) (hB : jb_isB c k = false) : zc_ty c k = .int := by
  have h0 : (List.range 14).all (fun c => (List.range (jb_nF c)).all (fun k => jb_isR c k || jb_isB c k || decide (zc_ty c k = .int))) = true := by decide +kernel
  have h1 := jb_rng (jb_rng h0 h) hk
  simpa [hR, hB] using h1
set_option maxHeartbeats 4000000 in
theorem jb_sI_ok {Γ : jb_G} {d : Nat} {q : jb_Q} {pc pc' : Nat} {ls ls' : jb_Ls} {st st' : List Value} {σ σ' : jb_S} {v : Option Value} {σ2 : jb_S} {x : jb_I} {g : List Prop} (ht : q.2.2.2.2.2 pc = some x) (h : jb_sI x q.2.2.2.1 pc ls st σ = some (pc', ls', st', σ', g)) (hg : jb_aL g) (hv : jb_V Γ d q pc' ls' st' σ' v σ2) : jb_V Γ d q pc ls st σ v σ2 := by
  obtain ⟨i, len, ci, k, z, zl⟩ := x
  cases i with
  | iconst n =>
    simp only [jb_sI] at h
    cases h
    exact jb_pure (fun p e R s m args below meth c H locs cells slots ad lsA Q hC hw hS hL kk => by
      have hd := hC.dec ht
      obtain ⟨hd, h1, h2⟩ := hd
      cases h1
      exact lv_iconst hC.1 hC.2.1 hd h2 kk) hv
  | bipush n =>
    simp only [jb_sI] at h
    cases h
    exact jb_pure (fun p e R s m args below meth c H locs cells slots ad lsA Q hC hw hS hL kk => by
      have hd := hC.dec ht
      obtain ⟨hd, h1, h2⟩ := hd
      cases h1
      exact lv_bipush hC.1 hC.2.1 hd h2 kk) hv
  | sipush n =>
    simp only [jb_sI] at h
    cases h
    exact jb_pure (fun p e R s m args below meth c H locs cells slots ad lsA Q hC hw hS hL kk => by
      have hd := hC.dec ht
      obtain ⟨hd, h1, h2⟩ := hd
      cases h1
      exact lv_sipush hC.1 hC.2.1 hd h2 kk) hv
  | lconst n =>
    simp only [jb_sI] at h
    cases h
    exact jb_pure (fun p e R s m args below meth c H locs cells slots ad lsA Q hC hw hS hL kk => by
      have hd := hC.dec ht
      obtain ⟨hd, h1, h2⟩ := hd
      cases h1
      exact lv_lconst hC.1 hC.2.1 hd h2 kk) hv
  | ldc n =>
    simp only [jb_sI] at h
    cases h
    exact jb_pure (fun p e R s m args below meth c H locs cells slots ad lsA Q hC hw hS hL kk => by
      have hd := hC.dec ht
      obtain ⟨hd, h1, h2⟩ := hd
      cases h1
      exact lv_ldc hC.1 hC.2.1 hC.2.2.2.2.1 (hC.2.2.2.2.2.1 _ h2) hd kk) hv
  | ldc_w n =>
    simp only [jb_sI] at h
    cases h
    exact jb_pure (fun p e R s m args below meth c H locs cells slots ad lsA Q hC hw hS hL kk => by
      have hd := hC.dec ht
      obtain ⟨hd, h1, h2⟩ := hd
      cases h1
      exact lv_ldcw hC.1 hC.2.1 hC.2.2.2.2.1 (hC.2.2.2.2.2.1 _ h2) hd kk) hv
  | ldc2_w n =>
    simp only [jb_sI] at h
    cases h
    exact jb_pure (fun p e R s m args below meth c H locs cells slots ad lsA Q hC hw hS hL kk => by
      have hd := hC.dec ht
      obtain ⟨hd, h1, h2⟩ := hd
      cases h1
      exact lv_ldc2 hC.1 hC.2.1 hC.2.2.2.2.1 (hC.2.2.2.2.2.1 _ h2) hd kk) hv
  | iload_n n =>
    simp only [jb_sI] at h
    obtain ⟨w, hw0, hw1, h⟩ := jb_ld_of h
    cases w <;> first | (cases hw1; done) | skip
    cases h
    exact jb_pure (fun p e R s m args below meth c H locs cells slots ad lsA Q hC hw hS hL kk => by
      have hd := hC.dec ht
      obtain ⟨hd, h1, h2⟩ := hd
      cases h1
      exact lv_iload_n hC.1 hC.2.1 hd h2 (hL.2.2 _ _ hw0) kk) hv
  | iload n =>
    simp only [jb_sI] at h
    obtain ⟨w, hw0, hw1, h⟩ := jb_ld_of h
    cases w <;> first | (cases hw1; done) | skip
    cases h
    exact jb_pure (fun p e R s m args below meth c H locs cells slots ad lsA Q hC hw hS hL kk => by
      have hd := hC.dec ht
      obtain ⟨hd, h1, h2⟩ := hd
      cases h1
      exact lv_iload hC.1 hC.2.1 hd (by rw [h2]; exact hL.2.2 _ _ hw0) kk) hv
  | lload_n n =>
    simp only [jb_sI] at h
    obtain ⟨w, hw0, hw1, h⟩ := jb_ld_of h
    cases w <;> first | (cases hw1; done) | skip
    cases h
    exact jb_pure (fun p e R s m args below meth c H locs cells slots ad lsA Q hC hw hS hL kk => by
      have hd := hC.dec ht
      obtain ⟨hd, h1, h2⟩ := hd
      cases h1
      exact lv_lload_n hC.1 hC.2.1 hd h2 (hL.2.2 _ _ hw0) kk) hv
  | lload n =>
    simp only [jb_sI] at h
    obtain ⟨w, hw0, hw1, h⟩ := jb_ld_of h
    cases w <;> first | (cases hw1; done) | skip
    cases h
    exact jb_pure (fun p e R s m args below meth c H locs cells slots ad lsA Q hC hw hS hL kk => by
      have hd := hC.dec ht
      obtain ⟨hd, h1, h2⟩ := hd
      cases h1
      exact lv_lload hC.1 hC.2.1 hd (by rw [h2]; exact hL.2.2 _ _ hw0) kk) hv
  | aload_n n =>
    simp only [jb_sI] at h
    obtain ⟨w, hw0, hw1, h⟩ := jb_ld_of h
    cases w <;> first | (cases hw1; done) | skip
    cases h
    exact jb_pure (fun p e R s m args below meth c H locs cells slots ad lsA Q hC hw hS hL kk => by
      have hd := hC.dec ht
      obtain ⟨hd, h1, h2⟩ := hd
      cases h1
      exact lv_aload_n hC.1 hC.2.1 hd h2 (hL.2.2 _ _ hw0) kk) hv
  | aload n =>
    simp only [jb_sI] at h
    obtain ⟨w, hw0, hw1, h⟩ := jb_ld_of h
    cases w <;> first | (cases hw1; done) | skip
    cases h
    exact jb_pure (fun p e R s m args below meth c H locs cells slots ad lsA Q hC hw hS hL kk => by
      have hd := hC.dec ht
      obtain ⟨hd, h1, h2⟩ := hd
      cases h1
      exact lv_aload hC.1 hC.2.1 hd (by rw [h2]; exact hL.2.2 _ _ hw0) kk) hv
  | istore_n n =>
    simp only [jb_sI] at h
    obtain ⟨w, r, rfl, h⟩ := jb_i1_of h
    cases hb : Nat.blt k q.2.2.2.1 with
    | false => rw [hb] at h; cases h
    | true =>
      rw [hb] at h
      cases h
      have hlt := Nat.le_of_ble_eq_true hb
      exact jb_locs (fun p e R s m args below meth c H locs cells slots ad lsA Q hC hL kk => by
      have hd := hC.dec ht
      obtain ⟨hd, h1, h2⟩ := hd
      cases h1
      exact lv_istore_n hC.1 hC.2.1 hd h2 hL.has hlt rfl (fun lsB hB => kk lsB (jb_LR.put (lsA := lsA) hB))) hv
  | istore n =>
    simp only [jb_sI] at h
    obtain ⟨w, r, rfl, h⟩ := jb_i1_of h
    cases hb : Nat.blt k q.2.2.2.1 with
    | false => rw [hb] at h; cases h
    | true =>
      rw [hb] at h
      cases h
      have hlt := Nat.le_of_ble_eq_true hb
      exact jb_locs (fun p e R s m args below meth c H locs cells slots ad lsA Q hC hL kk => by
      have hd := hC.dec ht
      obtain ⟨hd, h1, h2⟩ := hd
      cases h1
      have h2 : n = k := h2
      subst h2
      exact lv_istore hC.1 hC.2.1 hd hL.has hlt rfl (fun lsB hB => kk lsB (jb_LR.put (lsA := lsA) hB))) hv
  | lstore_n n =>
    simp only [jb_sI] at h
    obtain ⟨w, r, rfl, h⟩ := jb_l1_of h
    cases hb : Nat.blt (k + 1) q.2.2.2.1 with
    | false => rw [hb] at h; cases h
    | true =>
      rw [hb] at h
      cases h
      have hlt := Nat.le_of_ble_eq_true hb
      exact jb_locs (fun p e R s m args below meth c H locs cells slots ad lsA Q hC hL kk => by
      have hd := hC.dec ht
      obtain ⟨hd, h1, h2⟩ := hd
      cases h1
      exact lv_lstore_n hC.1 hC.2.1 hd h2 hL.has hlt rfl (fun lsB hB => kk lsB (jb_LR.put2 (lsA := lsA) hB))) hv
  | lstore n =>
    simp only [jb_sI] at h
    obtain ⟨w, r, rfl, h⟩ := jb_l1_of h
    cases hb : Nat.blt (k + 1) q.2.2.2.1 with
    | false => rw [hb] at h; cases h
    | true =>
      rw [hb] at h
      cases h
      have hlt := Nat.le_of_ble_eq_true hb
      exact jb_locs (fun p e R s m args below meth c H locs cells slots ad lsA Q hC hL kk => by
      have hd := hC.dec ht
      obtain ⟨hd, h1, h2⟩ := hd
      cases h1
      have h2 : n = k := h2
      subst h2
      exact lv_lstore hC.1 hC.2.1 hd hL.has hlt rfl (fun lsB hB => kk lsB (jb_LR.put2 (lsA := lsA) hB))) hv
  | astore_n n =>
    simp only [jb_sI] at h
    obtain ⟨w, r, rfl, h⟩ := jb_r1_of h
    cases hb : Nat.blt k q.2.2.2.1 with
    | false => rw [hb] at h; cases h
    | true =>
      rw [hb] at h
      cases h
      have hlt := Nat.le_of_ble_eq_true hb
      exact jb_locs (fun p e R s m args below meth c H locs cells slots ad lsA Q hC hL kk => by
      have hd := hC.dec ht
      obtain ⟨hd, h1, h2⟩ := hd
      cases h1
      exact lv_astore_n hC.1 hC.2.1 hd h2 hL.has hlt rfl (fun lsB hB => kk lsB (jb_LR.put (lsA := lsA) hB))) hv
  | astore n =>
    simp only [jb_sI] at h
    obtain ⟨w, r, rfl, h⟩ := jb_r1_of h
    cases hb : Nat.blt k q.2.2.2.1 with
    | false => rw [hb] at h; cases h
    | true =>
      rw [hb] at h
      cases h
      have hlt := Nat.le_of_ble_eq_true hb
      exact jb_locs (fun p e R s m args below meth c H locs cells slots ad lsA Q hC hL kk => by
      have hd := hC.dec ht
      obtain ⟨hd, h1, h2⟩ := hd
      cases h1
      have h2 : n = k := h2
      subst h2
      exact lv_astore hC.1 hC.2.1 hd hL.has hlt rfl (fun lsB hB => kk lsB (jb_LR.put (lsA := lsA) hB))) hv
  | iinc n n2 =>
    simp only [jb_sI] at h
    split at h
    · rename_i w hw0
      cases hb : Nat.blt k q.2.2.2.1 with
      | false => rw [hb] at h; cases h
      | true =>
        rw [hb] at h
        cases h
        have hlt := Nat.le_of_ble_eq_true hb
        exact jb_locs (fun p e R s m args below meth c H locs cells slots ad lsA Q hC hL kk => by
          obtain ⟨hd, h1, h2, h3⟩ := hC.dec ht
          cases h1
          have h2 : n = k := h2
          subst h2
          obtain ⟨j, hj⟩ := List.getElem?_of_mem (jb_pr_mem (ad := ad) hw0)
          exact lv_iinc hC.1 hC.2.1 hd hL.has hj (by rw [h3]) hlt rfl (fun lsB hB => kk lsB (jb_LR.put (lsA := lsA) hB))) hv
    · cases h
  | iadd =>
    simp only [jb_sI] at h
    obtain ⟨a, b, r, rfl, h⟩ := jb_i2_of h
    cases h
    exact jb_pure (fun p e R s m args below meth c H locs cells slots ad lsA Q hC hw hS hL kk => by
      obtain ⟨hd, h1⟩ := hC.dec ht
      cases h1
      exact lv_iadd hC.1 hC.2.1 hd kk) hv
  | isub =>
    simp only [jb_sI] at h
    obtain ⟨a, b, r, rfl, h⟩ := jb_i2_of h
    cases h
    exact jb_pure (fun p e R s m args below meth c H locs cells slots ad lsA Q hC hw hS hL kk => by
      obtain ⟨hd, h1⟩ := hC.dec ht
      cases h1
      exact lv_isub hC.1 hC.2.1 hd kk) hv
  | imul =>
    simp only [jb_sI] at h
    obtain ⟨a, b, r, rfl, h⟩ := jb_i2_of h
    cases h
    exact jb_pure (fun p e R s m args below meth c H locs cells slots ad lsA Q hC hw hS hL kk => by
      obtain ⟨hd, h1⟩ := hC.dec ht
      cases h1
      exact lv_imul hC.1 hC.2.1 hd kk) hv
  | iand =>
    simp only [jb_sI] at h
    obtain ⟨a, b, r, rfl, h⟩ := jb_i2_of h
    cases h
    exact jb_pure (fun p e R s m args below meth c H locs cells slots ad lsA Q hC hw hS hL kk => by
      obtain ⟨hd, h1⟩ := hC.dec ht
      cases h1
      exact lv_iand hC.1 hC.2.1 hd kk) hv
  | ior =>
    simp only [jb_sI] at h
    obtain ⟨a, b, r, rfl, h⟩ := jb_i2_of h
    cases h
    exact jb_pure (fun p e R s m args below meth c H locs cells slots ad lsA Q hC hw hS hL kk => by
      obtain ⟨hd, h1⟩ := hC.dec ht
      cases h1
      exact lv_ior hC.1 hC.2.1 hd kk) hv
  | ixor =>
    simp only [jb_sI] at h
    obtain ⟨a, b, r, rfl, h⟩ := jb_i2_of h
    cases h
    exact jb_pure (fun p e R s m args below meth c H locs cells slots ad lsA Q hC hw hS hL kk => by
      obtain ⟨hd, h1⟩ := hC.dec ht
      cases h1
      exact lv_ixor hC.1 hC.2.1 hd kk) hv
  | ishl =>
    simp only [jb_sI] at h
    obtain ⟨a, b, r, rfl, h⟩ := jb_i2_of h
    cases h
    exact jb_pure (fun p e R s m args below meth c H locs cells slots ad lsA Q hC hw hS hL kk => by
      obtain ⟨hd, h1⟩ := hC.dec ht
      cases h1
      exact lv_ishl hC.1 hC.2.1 hd kk) hv
  | ishr =>
    simp only [jb_sI] at h
    obtain ⟨a, b, r, rfl, h⟩ := jb_i2_of h
    cases h
    exact jb_pure (fun p e R s m args below meth c H locs cells slots ad lsA Q hC hw hS hL kk => by
      obtain ⟨hd, h1⟩ := hC.dec ht
      cases h1
      exact lv_ishr hC.1 hC.2.1 hd kk) hv
  | iushr =>
    simp only [jb_sI] at h
    obtain ⟨a, b, r, rfl, h⟩ := jb_i2_of h
    cases h
    exact jb_pure (fun p e R s m args below meth c H locs cells slots ad lsA Q hC hw hS hL kk => by
      obtain ⟨hd, h1⟩ := hC.dec ht
      cases h1
      exact lv_iushr hC.1 hC.2.1 hd rfl kk) hv
  | idiv =>
    simp only [jb_sI] at h
    obtain ⟨a, b, r, rfl, h⟩ := jb_i2_of h
    cases h
    exact jb_pure (fun p e R s m args below meth c H locs cells slots ad lsA Q hC hw hS hL kk => by
      obtain ⟨hd, h1⟩ := hC.dec ht
      cases h1
      exact lv_idiv hC.1 hC.2.1 hd hg kk) hv
  | irem =>
    simp only [jb_sI] at h
    obtain ⟨a, b, r, rfl, h⟩ := jb_i2_of h
    cases h
    exact jb_pure (fun p e R s m args below meth c H locs cells slots ad lsA Q hC hw hS hL kk => by
      obtain ⟨hd, h1⟩ := hC.dec ht
      cases h1
      exact lv_irem hC.1 hC.2.1 hd hg kk) hv
  | ladd =>
    simp only [jb_sI] at h
    obtain ⟨a, b, r, rfl, h⟩ := jb_l2_of h
    cases h
    exact jb_pure (fun p e R s m args below meth c H locs cells slots ad lsA Q hC hw hS hL kk => by
      obtain ⟨hd, h1⟩ := hC.dec ht
      cases h1
      exact lv_ladd hC.1 hC.2.1 hd kk) hv
  | lsub =>
    simp only [jb_sI] at h
    obtain ⟨a, b, r, rfl, h⟩ := jb_l2_of h
    cases h
    exact jb_pure (fun p e R s m args below meth c H locs cells slots ad lsA Q hC hw hS hL kk => by
      obtain ⟨hd, h1⟩ := hC.dec ht
      cases h1
      exact lv_lsub hC.1 hC.2.1 hd kk) hv
  | lmul =>
    simp only [jb_sI] at h
    obtain ⟨a, b, r, rfl, h⟩ := jb_l2_of h
    cases h
    exact jb_pure (fun p e R s m args below meth c H locs cells slots ad lsA Q hC hw hS hL kk => by
      obtain ⟨hd, h1⟩ := hC.dec ht
      cases h1
      exact lv_lmul hC.1 hC.2.1 hd kk) hv
  | ldiv =>
    simp only [jb_sI] at h
    obtain ⟨a, b, r, rfl, h⟩ := jb_l2_of h
    cases h
    exact jb_pure (fun p e R s m args below meth c H locs cells slots ad lsA Q hC hw hS hL kk => by
      obtain ⟨hd, h1⟩ := hC.dec ht
      cases h1
      exact lv_ldiv hC.1 hC.2.1 hd hg kk) hv
  | lcmp =>
    simp only [jb_sI] at h
    obtain ⟨a, b, r, rfl, h⟩ := jb_l2_of h
    cases h
    exact jb_pure (fun p e R s m args below meth c H locs cells slots ad lsA Q hC hw hS hL kk => by
      obtain ⟨hd, h1⟩ := hC.dec ht
      cases h1
      exact W.lcmp hC.1 hC.2.1 hd kk) hv
  | ineg =>
    simp only [jb_sI] at h
    obtain ⟨a, r, rfl, h⟩ := jb_i1_of h
    cases h
    exact jb_pure (fun p e R s m args below meth c H locs cells slots ad lsA Q hC hw hS hL kk => by
      obtain ⟨hd, h1⟩ := hC.dec ht
      cases h1
      exact lv_ineg hC.1 hC.2.1 hd kk) hv
  | i2l =>
    simp only [jb_sI] at h
    obtain ⟨a, r, rfl, h⟩ := jb_i1_of h
    cases h
    exact jb_pure (fun p e R s m args below meth c H locs cells slots ad lsA Q hC hw hS hL kk => by
      obtain ⟨hd, h1⟩ := hC.dec ht
      cases h1
      exact lv_i2l hC.1 hC.2.1 hd rfl kk) hv
  | l2i =>
    simp only [jb_sI] at h
    obtain ⟨a, r, rfl, h⟩ := jb_l1_of h
    cases h
    exact jb_pure (fun p e R s m args below meth c H locs cells slots ad lsA Q hC hw hS hL kk => by
      obtain ⟨hd, h1⟩ := hC.dec ht
      cases h1
      exact lv_l2i hC.1 hC.2.1 hd rfl kk) hv
  | i2b =>
    simp only [jb_sI] at h
    obtain ⟨a, r, rfl, h⟩ := jb_i1_of h
    cases h
    exact jb_pure (fun p e R s m args below meth c H locs cells slots ad lsA Q hC hw hS hL kk => by
      obtain ⟨hd, h1⟩ := hC.dec ht
      cases h1
      exact lv_i2b hC.1 hC.2.1 hd rfl kk) hv
  | dup =>
    simp only [jb_sI] at h
    obtain ⟨a, r, rfl, h3, h⟩ := jb_v1_of h
    cases h
    exact jb_pure (fun p e R s m args below meth c H locs cells slots ad lsA Q hC hw hS hL kk => by
      obtain ⟨hd, h1⟩ := hC.dec ht
      cases h1
      exact lv_dup hC.1 hC.2.1 hd (by rw [jb_tv_cat]; exact h3) kk) hv
  | pop =>
    simp only [jb_sI] at h
    obtain ⟨a, r, rfl, h3, h⟩ := jb_v1_of h
    cases h
    exact jb_pure (fun p e R s m args below meth c H locs cells slots ad lsA Q hC hw hS hL kk => by
      obtain ⟨hd, h1⟩ := hC.dec ht
      cases h1
      exact lv_pop hC.1 hC.2.1 hd (va := jb_tv ad a) (by rw [jb_tv_cat]; exact h3) kk) hv
  | dup2 =>
    simp only [jb_sI] at h
    obtain ⟨a, b, r, rfl, h3, h4, h⟩ := jb_v2_of h
    cases h
    exact jb_pure (fun p e R s m args below meth c H locs cells slots ad lsA Q hC hw hS hL kk => by
      obtain ⟨hd, h1⟩ := hC.dec ht
      cases h1
      exact lv_dup2_11 hC.1 hC.2.1 hd (by rw [jb_tv_cat]; exact h3) (by rw [jb_tv_cat]; exact h4) kk) hv
  | goto n =>
    simp only [jb_sI] at h
    cases h
    exact jb_pure (fun p e R s m args below meth c H locs cells slots ad lsA Q hC hw hS hL kk => by
      have hd := hC.dec ht
      obtain ⟨hd, h1, h2⟩ := hd
      cases h1
      exact lv_goto hC.1 hC.2.1 hd h2 kk) hv
  | ifCond cd off =>
    cases cd with
    | eq =>
      simp only [jb_sI] at h
      obtain ⟨a, r, rfl, h⟩ := jb_i1_of h
      cases h
      exact jb_pure (fun p e R s m args below meth c H locs cells slots ad lsA Q hC hw hS hL kk => by
        obtain ⟨hd, h1, h2⟩ := hC.dec ht
        cases h1
        exact lv_if_eq hC.1 hC.2.1 hd h2 (fun hp => by rw [if_pos hp] at kk; exact kk) (fun hp => by rw [if_neg hp] at kk; exact kk)) hv
    | ne =>
      simp only [jb_sI] at h
      obtain ⟨a, r, rfl, h⟩ := jb_i1_of h
      cases h
      exact jb_pure (fun p e R s m args below meth c H locs cells slots ad lsA Q hC hw hS hL kk => by
        obtain ⟨hd, h1, h2⟩ := hC.dec ht
        cases h1
        exact lv_if_ne hC.1 hC.2.1 hd h2 (fun hp => by rw [if_neg hp] at kk; exact kk) (fun hp => by rw [if_pos hp] at kk; exact kk)) hv
    | lt =>
      simp only [jb_sI] at h
      obtain ⟨a, r, rfl, h⟩ := jb_i1_of h
      cases h
      exact jb_pure (fun p e R s m args below meth c H locs cells slots ad lsA Q hC hw hS hL kk => by
        obtain ⟨hd, h1, h2⟩ := hC.dec ht
        cases h1
        exact lv_if_lt hC.1 hC.2.1 hd h2 (fun hp => by rw [if_pos hp] at kk; exact kk) (fun hp => by rw [if_neg hp] at kk; exact kk)) hv
    | ge =>
      simp only [jb_sI] at h
      obtain ⟨a, r, rfl, h⟩ := jb_i1_of h
      cases h
      exact jb_pure (fun p e R s m args below meth c H locs cells slots ad lsA Q hC hw hS hL kk => by
        obtain ⟨hd, h1, h2⟩ := hC.dec ht
        cases h1
        exact lv_if_ge hC.1 hC.2.1 hd h2 (fun hp => by rw [if_neg (Int32.not_lt.mpr hp)] at kk; exact kk) (fun hp => by rw [if_pos (Int32.not_le.mp hp)] at kk; exact kk)) hv
    | gt =>
      simp only [jb_sI] at h
      obtain ⟨a, r, rfl, h⟩ := jb_i1_of h
      cases h
      exact jb_pure (fun p e R s m args below meth c H locs cells slots ad lsA Q hC hw hS hL kk => by
        obtain ⟨hd, h1, h2⟩ := hC.dec ht
        cases h1
        exact lv_if_gt hC.1 hC.2.1 hd h2 (fun hp => by rw [if_pos hp] at kk; exact kk) (fun hp => by rw [if_neg hp] at kk; exact kk)) hv
    | le =>
      simp only [jb_sI] at h
      obtain ⟨a, r, rfl, h⟩ := jb_i1_of h
      cases h
      exact jb_pure (fun p e R s m args below meth c H locs cells slots ad lsA Q hC hw hS hL kk => by
        obtain ⟨hd, h1, h2⟩ := hC.dec ht
        cases h1
        exact lv_if_le hC.1 hC.2.1 hd h2 (fun hp => by rw [if_neg (Int32.not_lt.mpr hp)] at kk; exact kk) (fun hp => by rw [if_pos (Int32.not_le.mp hp)] at kk; exact kk)) hv
  | if_icmp cd off =>
    cases cd with
    | eq =>
      simp only [jb_sI] at h
      obtain ⟨a, b, r, rfl, h⟩ := jb_i2_of h
      cases h
      exact jb_pure (fun p e R s m args below meth c H locs cells slots ad lsA Q hC hw hS hL kk => by
        obtain ⟨hd, h1, h2⟩ := hC.dec ht
        cases h1
        exact lv_icmp_eq hC.1 hC.2.1 hd h2 (fun hp => by rw [if_pos hp] at kk; exact kk) (fun hp => by rw [if_neg hp] at kk; exact kk)) hv
    | ne =>
      simp only [jb_sI] at h
      obtain ⟨a, b, r, rfl, h⟩ := jb_i2_of h
      cases h
      exact jb_pure (fun p e R s m args below meth c H locs cells slots ad lsA Q hC hw hS hL kk => by
        obtain ⟨hd, h1, h2⟩ := hC.dec ht
        cases h1
        exact lv_icmp_ne hC.1 hC.2.1 hd h2 (fun hp => by rw [if_neg hp] at kk; exact kk) (fun hp => by rw [if_pos hp] at kk; exact kk)) hv
    | lt =>
      simp only [jb_sI] at h
      obtain ⟨a, b, r, rfl, h⟩ := jb_i2_of h
      cases h
      exact jb_pure (fun p e R s m args below meth c H locs cells slots ad lsA Q hC hw hS hL kk => by
        obtain ⟨hd, h1, h2⟩ := hC.dec ht
        cases h1
        exact lv_icmp_lt hC.1 hC.2.1 hd h2 (fun hp => by rw [if_pos hp] at kk; exact kk) (fun hp => by rw [if_neg hp] at kk; exact kk)) hv
    | ge =>
      simp only [jb_sI] at h
      obtain ⟨a, b, r, rfl, h⟩ := jb_i2_of h
      cases h
      exact jb_pure (fun p e R s m args below meth c H locs cells slots ad lsA Q hC hw hS hL kk => by
        obtain ⟨hd, h1, h2⟩ := hC.dec ht
        cases h1
        exact lv_icmp_ge hC.1 hC.2.1 hd h2 (fun hp => by rw [if_neg (Int32.not_lt.mpr hp)] at kk; exact kk) (fun hp => by rw [if_pos (Int32.not_le.mp hp)] at kk; exact kk)) hv
    | gt =>
      simp only [jb_sI] at h
      obtain ⟨a, b, r, rfl, h⟩ := jb_i2_of h
      cases h
      exact jb_pure (fun p e R s m args below meth c H locs cells slots ad lsA Q hC hw hS hL kk => by
        obtain ⟨hd, h1, h2⟩ := hC.dec ht
        cases h1
        exact lv_icmp_gt hC.1 hC.2.1 hd h2 (fun hp => by rw [if_pos hp] at kk; exact kk) (fun hp => by rw [if_neg hp] at kk; exact kk)) hv
    | le =>
      simp only [jb_sI] at h
      obtain ⟨a, b, r, rfl, h⟩ := jb_i2_of h
      cases h
      exact jb_pure (fun p e R s m args below meth c H locs cells slots ad lsA Q hC hw hS hL kk => by
        obtain ⟨hd, h1, h2⟩ := hC.dec ht
        cases h1
        exact lv_icmp_le hC.1 hC.2.1 hd h2 (fun hp => by rw [if_neg (Int32.not_lt.mpr hp)] at kk; exact kk) (fun hp => by rw [if_pos (Int32.not_le.mp hp)] at kk; exact kk)) hv
  | getfield n =>
    simp only [jb_sI] at h
    obtain ⟨a, r, rfl, hh⟩ := jb_r1_of h
    clear h
    obtain ⟨nn, hk, h⟩ := jb_kd_of hh
    clear hh
    cases hR : jb_isR ci k with
    | true =>
      rw [hR] at h
      cases h0 : Nat.beq (σ.1.2 a k) 0 with
      | true => rw [h0] at h; cases h
      | false =>
        rw [h0] at h
        cases h
        have hn0 : ¬ σ.1.2 a k = 0 := fun z => by rw [z] at h0; cases h0
        exact jb_pure (fun p e R s m args below meth c H locs cells slots ad lsA Q hC hw hS hL kk => by
          obtain ⟨hd, h1, h2, h3, h4⟩ := hC.dec ht
          cases h1
          have ha := jb_ne0 hw hk (by omega)
          have he := jb_ws_at (aC := Γ.2.2.2.1) (ad := ad) hk ha
          rw [jb_ce_o] at he
          refine va_get (v := jb_fv ad σ.1.2 σ.2.1 ci a k) hC.1 hC.2.1 hC.2.2.2.2.2.1 (jb_lays h2) hC.2.2.2.2.1 hw.1 hw.2.1 (a - 1) he (jb_cl h2) k h3 (hC.2.2.2.2.2.1 _ h4) (fun x hx => by rw [jb_own h2 h3] at hx; exact hx) (jb_fs_at h3) hd ?_
          unfold jb_fv
          rw [if_pos hR, jb_tr, if_neg hn0]
          exact kk) hv
    | false =>
      rw [hR] at h
      cases h
      exact jb_pure (fun p e R s m args below meth c H locs cells slots ad lsA Q hC hw hS hL kk => by
        obtain ⟨hd, h1, h2, h3, h4⟩ := hC.dec ht
        cases h1
        have ha := jb_ne0 hw hk (by omega)
        have he := jb_ws_at (aC := Γ.2.2.2.1) (ad := ad) hk ha
        rw [jb_ce_o] at he
        refine va_get (v := jb_fv ad σ.1.2 σ.2.1 ci a k) hC.1 hC.2.1 hC.2.2.2.2.2.1 (jb_lays h2) hC.2.2.2.2.1 hw.1 hw.2.1 (a - 1) he (jb_cl h2) k h3 (hC.2.2.2.2.2.1 _ h4) (fun x hx => by rw [jb_own h2 h3] at hx; exact hx) (jb_fs_at h3) hd ?_
        unfold jb_fv
        rw [if_neg (by rw [hR]; exact Bool.false_ne_true)]
        exact kk) hv
  | putfield n =>
    simp only [jb_sI] at h
    obtain ⟨w, a, r, rfl, hh⟩ := jb_ir_of h
    clear h
    obtain ⟨nn, hk, h⟩ := jb_kd_of hh
    clear hh
    cases hR : jb_isR ci k with
    | true => rw [hR] at h; cases h
    | false =>
      cases hF : jb_fin ci k with
      | true => rw [hR, hF] at h; cases h
      | false =>
        rw [hR, hF] at h
        cases h
        exact jb_memo (fun p e R s m args below meth c H locs cells slots ad lsA Q hC hR0 hR1 hw hS hL kk => by
          obtain ⟨hd, h1, h2, h3, h4⟩ := hC.dec ht
          cases h1
          have ha := jb_ne0 hw hk (by omega)
          have he := jb_ws_at (aC := Γ.2.2.2.1) (ad := ad) hk ha
          rw [jb_ce_o] at he
          have hty : (zc_ty ci k = .boolean ∧ (w = 0 ∨ w = 1)) ∨ zc_ty ci k = .int := by
            cases hB : jb_isB ci k with
            | true =>
              rw [hB] at hg
              refine Or.inl ⟨?_, hg⟩
              unfold jb_isB at hB
              split at hB
              · assumption
              · cases hB
            | false => exact Or.inr (jb_onlyI h2 h3 hR hB)
          have hnf : narrow (zc_ty ci k) (.int w) = .int w ∧ fits (zc_ty ci k) (.int w) = true := by
            rcases hty with ⟨e1, rfl | rfl⟩ | e1 <;> rw [e1]
            · exact ⟨by decide, by decide⟩
            · exact ⟨by decide, by decide⟩
            · exact ⟨rfl, rfl⟩
          refine va_put (v := .int w) (ty := zc_ty ci k) hC.1 hC.2.1 hC.2.2.2.2.2.1 (jb_lays h2) (zc_ty ci) (fun k hk => jb_ty h2 hk) (jb_nd h2) hC.2.2.2.2.1 hw.1 hw.2.1 hw.2.2.1 hS (a - 1) he (jb_cl h2) k h3 (hC.2.2.2.2.2.1 _ h4) (fun x hx => by rw [jb_own h2 h3] at hx; exact hx) hF (jb_ty h2 h3) hnf.1 hnf.2 (by simp; exact h3) hd ?_
          intro H1 locs1 hP1 hD1 hS1
          rw [← jb_fs_set hR] at hP1 hD1
          refine kk H1 locs1 (hw.put hk ha (fun a' h => jb_up_n h) (fun _ _ => rfl) ?_ ?_) hS1
          · rw [jb_ce_o]; exact hP1
          · rw [jb_ce_o]; exact hD1) hv
  | iaload =>
    simp only [jb_sI] at h
    obtain ⟨i, a, r, rfl, hh⟩ := jb_ir_of h
    clear h
    obtain ⟨nn, hk, h⟩ := jb_ki_of hh
    clear hh
    cases h
    rcases hk with hk | hk
    · exact jb_pure (fun p e R s m args below meth c H locs cells slots ad lsA Q hC hw hS hL kk => by
        obtain ⟨hd, h1⟩ := hC.dec ht
        cases h1
        exact va_iald hC.1 hC.2.1 hw.1 hw.2.1 (a - 1) 0 (jb_ws_at (aC := Γ.2.2.2.1) (ad := ad) hk (jb_ne0 hw hk (by decide))) rfl hg hd kk) hv
    · exact jb_pure (fun p e R s m args below meth c H locs cells slots ad lsA Q hC hw hS hL kk => by
        obtain ⟨hd, h1⟩ := hC.dec ht
        cases h1
        obtain ⟨-, -, -, ⟨x1, x2, x3, x4, x5⟩, -, hkind, -⟩ := hw
        have ha : a = 0 := by
          apply Classical.byContradiction
          intro z
          rcases hkind a _ hk z with q | q | q | ⟨q, -⟩ <;> simp at q
        subst ha
        rw [x4] at hk
        cases hk
        have hlt : i.toNatClampNeg < Γ.2.2.2.2.2.1 := Nat.not_le.mp fun q => hg (Or.inr q)
        have kk2 := kk
        simp only [List.map_cons, jb_tv] at kk2 ⊢
        rw [x3]
        rw [x5 _ hlt] at kk2
        exact va_sld hC.1 hC.2.1 x1 x2 (by simpa using x2) hS hg hd kk2) hv
  | baload =>
    simp only [jb_sI] at h
    obtain ⟨i, a, r, rfl, hh⟩ := jb_ir_of h
    clear h
    obtain ⟨nn, hk, h⟩ := jb_kd_of hh
    clear hh
    cases h
    exact jb_pure (fun p e R s m args below meth c H locs cells slots ad lsA Q hC hw hS hL kk => by
      obtain ⟨hd, h1⟩ := hC.dec ht
      cases h1
      exact va_bald hC.1 hC.2.1 hw.1 hw.2.1 (a - 1) 1 (jb_ws_at (aC := Γ.2.2.2.1) (ad := ad) hk (jb_ne0 hw hk (by decide))) rfl hg hd kk) hv
  | laload =>
    simp only [jb_sI] at h
    obtain ⟨i, a, r, rfl, hh⟩ := jb_ir_of h
    clear h
    obtain ⟨nn, hk, h⟩ := jb_kd_of hh
    clear hh
    cases h
    exact jb_pure (fun p e R s m args below meth c H locs cells slots ad lsA Q hC hw hS hL kk => by
      obtain ⟨hd, h1⟩ := hC.dec ht
      cases h1
      exact va_lald hC.1 hC.2.1 hw.1 hw.2.1 (a - 1) 2 (jb_ws_at (aC := Γ.2.2.2.1) (ad := ad) hk (jb_ne0 hw hk (by decide))) rfl hg hd kk) hv
  | iastore =>
    simp only [jb_sI] at h
    obtain ⟨w, i, a, r, rfl, hh⟩ := jb_iir_of h
    clear h
    obtain ⟨nn, hk, h⟩ := jb_kd_of hh
    clear hh
    cases h
    exact jb_memo (fun p e R s m args below meth c H locs cells slots ad lsA Q hC hR0 hR1 hw hS hL kk => by
      obtain ⟨hd, h1⟩ := hC.dec ht
      cases h1
      have ha := jb_ne0 hw hk (by decide)
      refine va_iast hC.1 hC.2.1 hw.1 hw.2.1 hw.2.2.1 hS (a - 1) 0 (jb_ws_at (aC := Γ.2.2.2.1) (ad := ad) hk ha) rfl hg hd ?_
      intro H1 locs1 hP1 hD1 hS1
      rw [← jb_up_s] at hP1 hD1
      exact kk H1 locs1 (hw.put hk ha (fun a' h => jb_up_n h) (fun _ _ => rfl) hP1 hD1) hS1) hv
  | bastore =>
    simp only [jb_sI] at h
    obtain ⟨w, i, a, r, rfl, hh⟩ := jb_iir_of h
    clear h
    obtain ⟨nn, hk, h⟩ := jb_kd_of hh
    clear hh
    cases h
    exact jb_memo (fun p e R s m args below meth c H locs cells slots ad lsA Q hC hR0 hR1 hw hS hL kk => by
      obtain ⟨hd, h1⟩ := hC.dec ht
      cases h1
      have ha := jb_ne0 hw hk (by decide)
      refine va_bast hC.1 hC.2.1 hw.1 hw.2.1 hw.2.2.1 hS (a - 1) 1 (jb_ws_at (aC := Γ.2.2.2.1) (ad := ad) hk ha) rfl hg hd ?_
      intro H1 locs1 hP1 hD1 hS1
      rw [vp_nar_byte, ← jb_up_s] at hP1 hD1
      exact kk H1 locs1 (hw.put hk ha (fun a' h => jb_up_n h) (fun _ _ => rfl) hP1 hD1) hS1) hv
  | lastore =>
    simp only [jb_sI] at h
    obtain ⟨w, i, a, r, rfl, hh⟩ := jb_lir_of h
    clear h
    obtain ⟨nn, hk, h⟩ := jb_kd_of hh
    clear hh
    cases h
    exact jb_memo (fun p e R s m args below meth c H locs cells slots ad lsA Q hC hR0 hR1 hw hS hL kk => by
      obtain ⟨hd, h1⟩ := hC.dec ht
      cases h1
      have ha := jb_ne0 hw hk (by decide)
      refine va_last hC.1 hC.2.1 hw.1 hw.2.1 hw.2.2.1 hS (a - 1) 2 (jb_ws_at (aC := Γ.2.2.2.1) (ad := ad) hk ha) rfl hg hd ?_
      intro H1 locs1 hP1 hD1 hS1
      rw [← jb_ul_s] at hP1 hD1
      exact kk H1 locs1 (hw.put hk ha (fun _ _ => rfl) (fun a' h => jb_ul_n h) hP1 hD1) hS1) hv
  | arraylength =>
    simp only [jb_sI] at h
    obtain ⟨a, r, rfl, hh⟩ := jb_r1_of h
    clear h
    obtain ⟨nn, hk, h⟩ := jb_ki_of hh
    clear hh
    cases h
    rcases hk with hk | hk
    · exact jb_pure (fun p e R s m args below meth c H locs cells slots ad lsA Q hC hw hS hL kk => by
        obtain ⟨hd, h1⟩ := hC.dec ht
        cases h1
        exact va_alen hC.1 hC.2.1 hw.1 hw.2.1 (a - 1) 0 (jb_ws_at (aC := Γ.2.2.2.1) (ad := ad) hk (jb_ne0 hw hk (by decide))) rfl rfl hd kk) hv
    · exact jb_pure (fun p e R s m args below meth c H locs cells slots ad lsA Q hC hw hS hL kk => by
        obtain ⟨hd, h1⟩ := hC.dec ht
        cases h1
        obtain ⟨-, -, -, ⟨x1, x2, x3, x4, x5⟩, -, hkind, -⟩ := hw
        have ha : a = 0 := by
          apply Classical.byContradiction
          intro z
          rcases hkind a _ hk z with q | q | q | ⟨q, -⟩ <;> simp at q
        subst ha
        rw [x4] at hk
        cases hk
        simp only [List.map_cons, jb_tv] at kk ⊢
        rw [x3]
        exact va_slen hC.1 hC.2.1 x1 x2 (by simpa using x2) hS hd kk) hv
  | _ => exact absurd h (by simp [jb_sI])
