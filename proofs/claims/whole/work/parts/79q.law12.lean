/-! THE LAW: the reference's conditions -/
def apO (n p : Nat) (c : jPc) (x : lwR) : Prop := match x with
  | .inl _ => True
  | .inr y => p < y.1 ∧ y.1 ≤ n ∧ pre c y.2
def apX (n : Nat) (X : Nat → jPc → lwR) : Prop := ∀ p c, p ≤ n → apO n p c (X p c)
theorem apO_b {n p p1 : Nat} {c c0 : jPc} {x : lwR} {k : Nat → jPc → lwR} (h : apO n p1 c0 x) (h2 : ∀ q c1, p1 < q → q ≤ n → pre c0 c1 → apO n p c (k q c1)) : apO n p c (bnd x k) := by
  cases x with
  | inl e => exact True.intro
  | inr y => exact h2 y.1 y.2 h.1 h.2.1 h.2.2
theorem apO_m {n p q : Nat} {c c1 : jPc} {x : lwR} (h : apO n q c1 x) (hp : p ≤ q) (hc : pre c c1) : apO n p c x := by
  cases x with
  | inl e => exact True.intro
  | inr y => exact ⟨Nat.lt_of_le_of_lt hp h.1, h.2.1, pre_t hc h.2.2⟩
theorem pre_apx (c : jPc) (o : Nat) : pre c (app c o) := by
  unfold app
  split
  · exact pre_0 c
  · exact pre_app c _
theorem fcR_ap {b : Nat → Nat} {n l : Nat} {E : Nat → jPc → lwR} (hb : bB b n) (hE : l ≠ 0 → apX n E) : apX n (fcR b n l E) := by
  intro p c hp
  unfold fcR
  by_cases c1 : dgt (ch b n p)
  · rw [if_pos c1]
    have := nmR_ok hb 5 0 p hp
    cases e : nmR b n 5 0 p with
    | inl x => exact True.intro
    | inr y =>
      rw [e] at this
      exact ⟨this.2.2.2 c1, this.2.1, pre_app c _⟩
  rw [if_neg c1]
  by_cases c2 : ch b n p = 91
  · rw [if_pos c2]
    have hpn := ch_in hb (k := p) (by omega)
    by_cases c3 : l = 0
    · rw [if_pos c3]
      exact True.intro
    · rw [if_neg c3]
      refine apO_b (hE c3 (p + 1) c hpn) ?_
      intro q c1 h1 h2 h3
      by_cases c4 : ch b n q = 93
      · rw [if_pos c4]
        have := ch_in hb (k := q) (by omega)
        exact ⟨by dsimp only; omega, this, h3⟩
      · rw [if_neg c4]
        exact True.intro
  rw [if_neg c2]
  by_cases c3 : fct (ch b n p) < 10
  · rw [if_pos c3]
    exact ⟨by dsimp only; omega, ch_in hb (fct_ok c3), pre_app c _⟩
  · rw [if_neg c3]
    exact True.intro
theorem exL_ap {b : Nat → Nat} {n : Nat} {Fc : Nat → jPc → lwR} (hb : bB b n) (hF : apX n Fc) : ∀ (f pt pf : Nat), apX n (exL b n Fc f pt pf) := by
  intro f
  induction f with
  | zero => intro pt pf p c hp; exact True.intro
  | succ f ih =>
    intro pt pf p c hp
    rw [exL_s]
    refine apO_b (hF p c hp) ?_
    intro q c1 h1 h2 h3
    unfold exK
    have hs := sgn_ok (c := ch b n q)
    have p1 := pre_t h3 (pre_apx c1 pf)
    have p2 := pre_t p1 (pre_apx _ pt)
    by_cases s1 : 4 ≤ sgn (ch b n q)
    · rw [if_pos s1]
      exact apO_m (ih pt _ (q + 1) _ (ch_in hb (hs.2.2 (by omega)))) (by omega) p1
    rw [if_neg s1]
    by_cases s2 : sgn (ch b n q) = 0
    · rw [if_pos s2]
      exact ⟨h1, h2, p2⟩
    · rw [if_neg s2]
      exact apO_m (ih _ 0 (q + 1) _ (ch_in hb (hs.2.2 s2))) (by omega) p2
theorem spE_ap {b : Nat → Nat} {n : Nat} (hb : bB b n) : ∀ l, apX n (spE b n l) := by
  have up : ∀ l, apX n (spF b n l) → apX n (spE b n l) := by
    intro l hF p c hp
    rw [spE_F]
    exact exL_ap hb hF 241 0 0 p c hp
  intro l
  induction l with
  | zero => exact up 0 (fcR_ap (l := 0) (E := fun _ _ => .inl (0, 0)) hb (fun y => absurd rfl y))
  | succ l ih => exact up (l + 1) (fcR_ap hb (fun _ => ih))
theorem pre_nots : ∀ (k : Nat) (c : jPc), pre c (nots k c) := by
  intro k
  induction k with
  | zero => intro c; exact pre_0 c
  | succ k ih => intro c; exact pre_t (pre_app c (10, 0)) (ih _)
/-- frames: how many are open in them; what waits under the nots -/
def lkcS : List cfr → Nat
  | [] => 0
  | y :: r => 1 + y.2.2.2 + lkcS r
def lkvC (f po pa : Nat) (r : List cfr) : List Nat := jw 11 f pa ++ (jw 12 f po ++ (13631488 :: wC f r))
theorem wC_v (f fu po pa k : Nat) (r : List cfr) : wC f ((fu, po, pa, k) :: r) = r10 k ++ lkvC f po pa r := rfl
theorem vC_hd (f po pa : Nat) (r : List cfr) : ∃ w V, lkvC f po pa r = w :: V ∧ 11 ≤ w / 1048576 := by
  unfold lkvC jw
  by_cases e : pa = 0
  · rw [if_pos e]
    by_cases e2 : po = 0
    · rw [if_pos e2]
      exact ⟨13631488, wC f r, rfl, by decide⟩
    · rw [if_neg e2]
      exact ⟨_, _, rfl, by omega⟩
  · rw [if_neg e]
    exact ⟨_, _, rfl, by omega⟩
theorem vC_n10 (f po pa : Nat) (r : List cfr) : n10 (lkvC f po pa r) := by
  obtain ⟨w, V, h1, h2⟩ := vC_hd f po pa r
  rw [h1]
  show w / 1048576 ≠ 10
  omega
theorem wC_tpo (f : Nat) (fs : List cfr) : tpo (wC f fs) := by
  cases fs with
  | nil => exact True.intro
  | cons y r =>
    obtain ⟨fu, po, pa, k⟩ := y
    rw [wC_v]
    cases k with
    | zero =>
      obtain ⟨w, V, h1, h2⟩ := vC_hd f po pa r
      show tpo (lkvC f po pa r)
      rw [h1]
      show 7 ≤ w / 1048576
      omega
    | succ k =>
      show 7 ≤ 10485760 / 1048576
      decide
def cG (b : Nat → Nat) (n f g p l : Nat) (c : jPc) (fs : List cfr) (M : jb_Mi) : Prop := l + lkcS fs = 6 ∧ lD b n f p l c (wC f fs) M ∧ lI f g p c (wC f fs) ∧ p ≤ n ∧ cfI c c.length fs
def cF (p : Nat) (fs : List cfr) : Prop := ∀ y, y ∈ fs → 480 ≤ 2 * y.1 + p
theorem cF_m {p q : Nat} {fs : List cfr} (h : cF p fs) (hq : p ≤ q) : cF q fs := fun y hy => by have := h y hy; omega
theorem cmq_f {c : Nat} (hc : c ≤ 256) {β : Type} (F : Int32 → β) : (if sgc c = 60 then F 7 else if sgc c = 62 then F 8 else if sgc c = 61 then F 9 else F (-1)) = F (if cmq c = 0 then -1 else nI (cmq c)) := by
  have s60 : (sgc c = 60) = (c = 60) := sgc_eq (k := 60) hc (by decide)
  have s62 : (sgc c = 62) = (c = 62) := sgc_eq (k := 62) hc (by decide)
  have s61 : (sgc c = 61) = (c = 61) := sgc_eq (k := 61) hc (by decide)
  simp only [s60, s62, s61]
  unfold cmq
  by_cases k1 : c = 60
  · simp only [if_pos k1]
    rfl
  simp only [if_neg k1]
  by_cases k2 : c = 62
  · simp only [if_pos k2]
    rfl
  simp only [if_neg k2]
  by_cases k3 : c = 61
  · simp only [if_pos k3]
    rfl
  simp only [if_neg k3]
  rfl
theorem jd_cmp {b : Nat → Nat} {n f g p l fu po pa k : Nat} {r : List cfr} {c : jPc} {M : jb_Mi} (hn : n ≤ 240) (hG : cG b n f g p l c ((fu, po, pa, k) :: r) M) (h33 : ch b n p ≠ 33) (h40 : ch b n p ≠ 40) : ∃ z, zf_201 M = some z ∧ mX f M z.2 ∧ ((z.1 = false ∧ ∃ e, resT b n ((fu, po, pa, k) :: r) l p c = .inl e ∧ z.2 79 7 = zf_74 (nI e.1) (nI e.2)) ∨ (z.1 = true ∧ ∃ q c', p < q ∧ cG b n f g q (l + k) c' ((fu, po, pa, 0) :: r) z.2 ∧ resT b n ((fu, po, pa, k) :: r) l p c = resU b n ((fu, po, pa, 0) :: r) (l + k) q c')) := by
  obtain ⟨hS, hD, hI, hp, hC⟩ := hG
  have hb := tdB_b hD.1
  have hl : l + k + 1 + lkcS r = 6 := by
    have : lkcS ((fu, po, pa, k) :: r) = 1 + k + lkcS r := rfl
    omega
  have eT : spT b n l p c = bnd (spE b n l p c) fun q c1 => if cmq (ch b n q) = 0 then .inl (1, q) else bnd (spE b n l (q + 1) c1) fun q2 c2 => .inr (q2, c2 ++ [(cmq (ch b n q), 0)]) := by
    cases l with
    | zero =>
      show tsR b n 0 (fun _ _ => .inl (0, 0)) (fun _ _ => .inl (0, 0)) p c = _
      unfold tsR
      rw [if_neg h33, if_neg h40]
    | succ l =>
      show tsR b n (l + 1) (spT b n l) (cnL b n (spT b n l) 241 0 0) p c = _
      unfold tsR
      rw [if_neg h33, if_neg h40]
  have eR : resT b n ((fu, po, pa, k) :: r) l p c = bnd (spT b n l p c) (fun q c => resU b n ((fu, po, pa, 0) :: r) (l + k) q (nots k c)) := rfl
  rw [eR, eT]
  obtain ⟨z1, s1, s2, s3⟩ := jd_sum (g := g) hn (by omega) (wC_tpo f _) hD hI hp
  have a1 := spE_ap hb l p c hp
  unfold zf_201
  rw [s1, Option.bind_some]
  cases e : spE b n l p c with
  | inl x =>
    rw [e] at s3
    rw [s3.1, jb_no]
    exact ⟨_, rfl, s2, Or.inl ⟨rfl, x, rfl, s3.2⟩⟩
  | inr y =>
    rw [e] at s3 a1
    obtain ⟨t1, t2, t3, t4⟩ := s3
    obtain ⟨u1, u2, u3⟩ := a1
    have hc := ch_le hb y.1
    have ek := sgc_peek t2.1 (show y.1 < 2 ^ 31 by omega) t2.2.1
    rw [t1, jb_yes, ek, Option.bind_some, Option.bind_some, Option.bind_some, cmq_f hc (fun x => zf_201_J52 x z1.2)]
    dsimp only [bnd]
    unfold zf_201_J52
    rcases cmq_ok (c := ch b n y.1) with z | ⟨z2, z3, z4⟩
    · rw [if_pos z, if_pos z, if_pos rfl, t2.2.1]
      refine ⟨_, rfl, mX_t s2 (mX_u (mX_0 f _) (by decide)), Or.inl ⟨rfl, (1, y.1), rfl, ?_⟩⟩
      show jb_up z1.2 79 7 (zf_74 (nI 1) (nI y.1)) 79 7 = _
      rw [jb_up_at, if_pos ⟨rfl, rfl⟩]
    · rw [if_neg (show ¬ cmq (ch b n y.1) = 0 by omega), if_neg (show ¬ cmq (ch b n y.1) = 0 by omega), if_neg (fun y => ((jn_m1 (by omega)).mp y).elim), t2.2.1, ← nI_succ]
      have hq := ch_in hb z4
      have hX1 : odX z1.2 (jb_up z1.2 79 5 (nI (y.1 + 1))) := odX_u (odX_0 z1.2) (by decide)
      have hD1 := lD_o t2 hX1 (show jb_up z1.2 79 5 (nI (y.1 + 1)) 79 5 = nI (y.1 + 1) by rw [jb_up_at, if_pos ⟨rfl, rfl⟩])
      have hI1 : lI f (g + 1) (y.1 + 1) y.2 (wC f ((fu, po, pa, k) :: r)) := ⟨by have := t3.1; omega, by have := t3.2.1; omega, t3.2.2⟩
      obtain ⟨w, w1, w2, w3⟩ := jd_sum (g := g + 1) hn (show l ≤ 6 by omega) (wC_tpo f _) hD1 hI1 hq
      have a2 := spE_ap hb l (y.1 + 1) y.2 hq
      rw [w1, Option.bind_some]
      have hX2 := mX_t s2 (mX_t (mX_o hX1) w2)
      cases e2 : spE b n l (y.1 + 1) y.2 with
      | inl x =>
        rw [e2] at w3
        rw [w3.1, jb_no]
        exact ⟨_, rfl, hX2, Or.inl ⟨rfl, x, rfl, w3.2⟩⟩
      | inr v =>
        rw [e2] at w3 a2
        obtain ⟨x1, x2, x3, x4⟩ := w3
        obtain ⟨v1, v2, v3⟩ := a2
        obtain ⟨M4, m1, m2, m3⟩ := jd_note x2 (by have := x3.1; omega) (cmq (ch b n y.1)) 0 (nI (cmq (ch b n y.1))) 0 (by
          rw [jn_mull]
          unfold wrd ptg
          rw [if_neg (by dsimp only; omega), if_neg (by dsimp only; omega)]
          exact nI_add _ 0)
        have hI4 : lI f g v.1 (v.2 ++ [(cmq (ch b n y.1), 0)]) (wC f ((fu, po, pa, k) :: r)) := ⟨by have := x3.1; rw [List.length_append, List.length_singleton]; omega, x3.2.1, x3.2.2⟩
        rw [wC_v] at m2 hI4
        obtain ⟨M5, n1, n2, n3, n4⟩ := jd_ends (show v.1 ≤ 240 by omega) (vC_n10 f po pa r) k l _ M4 (by omega) m2 hI4
        rw [x1, jb_yes, m1, Option.bind_some, n1, Option.bind_some]
        refine ⟨_, rfl, mX_t hX2 (mX_t m3 n4), Or.inr ⟨rfl, v.1, nots k (v.2 ++ [(cmq (ch b n y.1), 0)]), by omega, ⟨?_, n2, n3, x4, ?_⟩, rfl⟩⟩
        · show l + k + (1 + 0 + lkcS r) = 6
          omega
        · have hpre := pre_t u3 (pre_t v3 (pre_t (pre_app v.2 (cmq (ch b n y.1), 0)) (pre_nots k _)))
          exact cfI_pre ((fu, po, pa, 0) :: r) c.length _ hpre.2 hpre.1 hC
