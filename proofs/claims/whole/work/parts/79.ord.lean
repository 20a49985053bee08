/-! ORDERS: the text read -/
abbrev dgt (c : Nat) : Prop := 48 ≤ c ∧ c ≤ 57
abbrev mnc (c : Nat) : Prop := 97 ≤ c ∧ c ≤ 112
def oNum (b : Nat → Nat) (n p : Nat) : (Nat × Nat) ⊕ (Nat × Nat) :=
  if dgt (ch b n p) then (if dgt (ch b n (p + 1)) then (if dgt (ch b n (p + 2)) then .inl (2, p + 2) else .inr (10 * (ch b n p - 48) + (ch b n (p + 1) - 48), p + 2)) else .inr (ch b n p - 48, p + 1)) else .inl (1, p)
def oMove (b : Nat → Nat) (n p t : Nat) (S : jSt) : (Nat × Nat) ⊕ (Nat × jSt) :=
  if ch b n p = 33 then .inr (p + 1, jset S 6 t 0)
  else if ch b n p = 62 then (if 48 ≤ ch b n (p + 1) ∧ ch b n (p + 1) ≤ 56 then (if 48 ≤ ch b n (p + 2) ∧ ch b n (p + 2) ≤ 56 then .inr (p + 3, jset (jset S 4 t (ch b n (p + 1) - 48)) 5 t (ch b n (p + 2) - 48)) else .inl (1, p + 2)) else .inl (1, p + 1))
  else if ch b n p = 64 then (if 48 ≤ ch b n (p + 1) ∧ ch b n (p + 1) ≤ 53 then (if 0 < S 0 (ch b n (p + 1) - 48) then .inr (p + 2, jset S 3 t (ch b n (p + 1) - 48)) else .inl (7, p + 1)) else .inl (1, p + 1))
  else .inl (1, p)
def oRest (b : Nat → Nat) (n p : Nat) (S : jSt) : (Nat × Nat) ⊕ (Nat × jSt) :=
  if 0 < S 7 (ch b n p - 97) then (match oNum b n (p + 1) with
    | .inl e => .inl e
    | .inr y => .inr (y.2, jset S 8 (ch b n p - 97) (S 8 (ch b n p - 97) - y.1))) else .inl (7, p)
def oThing (b : Nat → Nat) (n p : Nat) (S : jSt) : (Nat × Nat) ⊕ (Nat × jSt) := match oNum b n p with
  | .inl e => .inl e
  | .inr y => if y.1 < 24 ∧ 0 < S 6 y.1 then oMove b n y.2 y.1 S else .inl (7, p)
def oStep (b : Nat → Nat) (n k p : Nat) (S : jSt) : (Nat × Nat) ⊕ (Nat × jSt) :=
  if mnc (ch b n p) ∨ dgt (ch b n p) then (if k = 20 then .inl (4, p) else if mnc (ch b n p) then oRest b n p S else oThing b n p S) else .inl (1, p)
def oF (b : Nat → Nat) (n : Nat) : Nat → Nat → Nat → jSt → (Nat × Nat) ⊕ (Nat × jSt)
  | 0, _, _, _ => .inl (0, 0)
  | f + 1, k, p, S => match oStep b n k p S with
    | .inl e => .inl e
    | .inr y => if n ≤ y.1 then .inr (k + 1, y.2) else if ch b n y.1 = 59 then oF b n f (k + 1) (y.1 + 1) y.2 else .inl (1, y.1)
theorem ch_in {b : Nat → Nat} {n : Nat} (hb : bB b n) {k : Nat} (h : ch b n k < 256) : k < n := by
  rcases Nat.lt_or_ge k n with c | c
  · exact c
  · have := (ch_end hb k).mpr c
    omega
theorem oNum_ok {b : Nat → Nat} {n : Nat} (hb : bB b n) {p : Nat} (hp : p ≤ n) : match oNum b n p with
  | .inl e => e.1 ≤ 9 ∧ e.2 ≤ n
  | .inr y => y.1 ≤ 99 ∧ p < y.2 ∧ y.2 ≤ n := by
  unfold oNum
  by_cases c1 : dgt (ch b n p)
  · rw [if_pos c1]
    have h1 := ch_in hb (k := p) (by unfold dgt at c1; omega)
    by_cases c2 : dgt (ch b n (p + 1))
    · rw [if_pos c2]
      have h2 := ch_in hb (k := p + 1) (by unfold dgt at c2; omega)
      by_cases c3 : dgt (ch b n (p + 2))
      · rw [if_pos c3]
        exact ⟨by dsimp only; omega, by dsimp only; omega⟩
      · rw [if_neg c3]
        unfold dgt at c1 c2
        exact ⟨by dsimp only; omega, by dsimp only; omega, by dsimp only; omega⟩
    · rw [if_neg c2]
      unfold dgt at c1
      exact ⟨by dsimp only; omega, by dsimp only; omega, by dsimp only; omega⟩
  · rw [if_neg c1]
    exact ⟨by dsimp only; omega, hp⟩
def oOk (n p : Nat) (S : jSt) (x : (Nat × Nat) ⊕ (Nat × jSt)) : Prop := match x with
  | .inl e => e.1 ≤ 9 ∧ e.2 ≤ n
  | .inr y => p < y.1 ∧ y.1 ≤ n ∧ jR y.2 ∧ y.2 9 = S 9
theorem jset_9 {S : jSt} {a j v : Nat} (h : a ≠ 9) : jset S a j v 9 = S 9 := by
  funext k
  unfold jset
  rw [if_neg (by omega)]
theorem oMove_ok {b : Nat → Nat} {n : Nat} (hb : bB b n) {p t : Nat} (hp : p ≤ n) {S : jSt} (hR : jR S) : oOk n p S (oMove b n p t S) := by
  unfold oMove
  by_cases c1 : ch b n p = 33
  · rw [if_pos c1]
    have h1 := ch_in hb (k := p) (by omega)
    exact ⟨by dsimp only; omega, h1, (by dsimp only; exact jR_set hR (by omega)), (by dsimp only; exact jset_9 (by omega))⟩
  rw [if_neg c1]
  by_cases c2 : ch b n p = 62
  · rw [if_pos c2]
    have h1 := ch_in hb (k := p) (by omega)
    by_cases c3 : 48 ≤ ch b n (p + 1) ∧ ch b n (p + 1) ≤ 56
    · rw [if_pos c3]
      have h2 := ch_in hb (k := p + 1) (by omega)
      by_cases c4 : 48 ≤ ch b n (p + 2) ∧ ch b n (p + 2) ≤ 56
      · rw [if_pos c4]
        have h3 := ch_in hb (k := p + 2) (by omega)
        exact ⟨by dsimp only; omega, h3, jR_set (jR_set hR (by omega)) (by omega), by dsimp only; rw [jset_9 (by omega), jset_9 (by omega)]⟩
      · rw [if_neg c4]
        exact ⟨by dsimp only; omega, h2⟩
    · rw [if_neg c3]
      exact ⟨by dsimp only; omega, h1⟩
  rw [if_neg c2]
  by_cases c3 : ch b n p = 64
  · rw [if_pos c3]
    have h1 := ch_in hb (k := p) (by omega)
    by_cases c4 : 48 ≤ ch b n (p + 1) ∧ ch b n (p + 1) ≤ 53
    · rw [if_pos c4]
      have h2 := ch_in hb (k := p + 1) (by omega)
      by_cases c5 : 0 < S 0 (ch b n (p + 1) - 48)
      · rw [if_pos c5]
        exact ⟨by dsimp only; omega, h2, (by dsimp only; exact jR_set hR (by omega)), (by dsimp only; exact jset_9 (by omega))⟩
      · rw [if_neg c5]
        exact ⟨by dsimp only; omega, by dsimp only; omega⟩
    · rw [if_neg c4]
      exact ⟨by dsimp only; omega, h1⟩
  · rw [if_neg c3]
    exact ⟨by dsimp only; omega, hp⟩
theorem oStep_ok {b : Nat → Nat} {n : Nat} (hb : bB b n) {k p : Nat} (hp : p ≤ n) {S : jSt} (hR : jR S) : oOk n p S (oStep b n k p S) := by
  unfold oStep
  by_cases c0 : mnc (ch b n p) ∨ dgt (ch b n p)
  · rw [if_pos c0]
    have h1 := ch_in hb (k := p) (by unfold mnc dgt at c0; omega)
    by_cases ck : k = 20
    · rw [if_pos ck]
      exact ⟨by dsimp only; omega, hp⟩
    rw [if_neg ck]
    by_cases c1 : mnc (ch b n p)
    · rw [if_pos c1]
      unfold oRest
      by_cases c2 : 0 < S 7 (ch b n p - 97)
      · rw [if_pos c2]
        have := oNum_ok hb (p := p + 1) (by omega)
        cases e : oNum b n (p + 1) with
        | inl e1 => rw [e] at this; exact this
        | inr y =>
          rw [e] at this
          unfold mnc at c1
          have h8 := (hR.2.2.1 (ch b n p - 97) (by omega)).2
          exact ⟨by dsimp only; omega, this.2.2, (by dsimp only; exact jR_set hR (by omega)), (by dsimp only; exact jset_9 (by omega))⟩
      · rw [if_neg c2]
        exact ⟨by dsimp only; omega, hp⟩
    · rw [if_neg c1]
      unfold oThing
      have := oNum_ok hb (p := p) hp
      cases e : oNum b n p with
      | inl e1 => rw [e] at this; exact this
      | inr y =>
        rw [e] at this
        dsimp only
        by_cases c2 : y.1 < 24 ∧ 0 < S 6 y.1
        · rw [if_pos c2]
          have q := oMove_ok hb (p := y.2) (t := y.1) this.2.2 hR
          cases e2 : oMove b n y.2 y.1 S with
          | inl e3 => rw [e2] at q; exact q
          | inr z => rw [e2] at q; exact ⟨by have := q.1; omega, q.2⟩
        · rw [if_neg c2]
          exact ⟨by dsimp only; omega, hp⟩
  · rw [if_neg c0]
    exact ⟨by dsimp only; omega, hp⟩
theorem sgc_m1 {c : Nat} (hc : c ≤ 256) : (sgc c = -1) = (c = 256) := by
  unfold sgc
  by_cases c1 : c < 256
  · rw [if_pos c1]
    apply propext
    constructor
    · intro y
      have := (jn_m1 (a := c) (by omega)).mp y
      exact this.elim
    · intro y; omega
  · rw [if_neg c1]
    apply propext
    exact ⟨fun _ => by omega, fun _ => rfl⟩
theorem sgc_o {c k m : Nat} (hc : c ≤ 256) (hk : k + m < 256) : zf_23 (sgc c - nI k) 0 (nI m) = decide (k ≤ c ∧ c ≤ k + m) := by
  unfold sgc
  by_cases c1 : c < 256
  · rw [if_pos c1]
    by_cases c2 : k ≤ c
    · rw [pk_sub c2]
      have := sgc_w (c := c - k) (by omega) (lo := 0) (hi := m) (by omega) (by omega)
      rw [sgc_in (by omega)] at this
      rw [show (0 : Int32) = nI 0 from rfl, this]
      congr 1
      apply propext
      constructor <;> intro y <;> omega
    · have := pk_sneg (a := c) (b := k) (by omega) (by omega)
      unfold zf_23
      rw [if_pos this, decide_eq_false (by omega)]
  · rw [if_neg c1]
    have : (-1 : Int32) - nI k < 0 := by
      have h := pk_sneg (a := 0) (b := k + 1) (by omega) (by omega)
      rw [show (-1 : Int32) - nI k = nI 0 - nI (k + 1) from ?_]
      · exact h
      · rw [← nI_add, show (nI 0 : Int32) = 0 from rfl, Int32.zero_sub, Int32.neg_add, show (-1 : Int32) = - nI 1 from rfl, Int32.sub_eq_add_neg, Int32.sub_eq_add_neg, Int32.add_comm]
    unfold zf_23
    rw [if_pos this, decide_eq_false (by omega)]
theorem sgc_dig {b : Nat → Nat} {n : Nat} {M : jb_Mi} (h : tdB b n M) {k : Nat} (hk : k < 2 ^ 31) (hp : M 79 5 = nI k) : zf_185 M = some (decide (dgt (ch b n k))) := by
  unfold zf_185
  rw [sgc_peek h hk hp, Option.bind_some, Option.bind_some]
  have : zf_23 (sgc (ch b n k)) 48 57 = decide (dgt (ch b n k)) := sgc_w (ch_le (tdB_b h) k) (lo := 48) (hi := 57) (by decide) (by decide)
  rw [← this]
  unfold zf_23
  split
  · rfl
  · split <;> rfl
