/-! THE LAW: the class reads expressions, tests, conditions -/
def pn (o : Nat) : Int32 := if o = 0 then -1 else nI (cop o)
theorem pno_0 : pn 0 = -1 := rfl
theorem pno_1 {o : Nat} (h : o ≠ 0) : pn o = nI (cop o) := if_neg h
theorem cop_le {o : Nat} : cop o < 100 := by
  unfold cop
  repeat' split
  all_goals omega
theorem pn_e (o : Nat) : (pn o = -1) = (o = 0) := by
  unfold pn
  by_cases e : o = 0
  · rw [if_pos e]
    exact propext ⟨fun _ => e, fun _ => rfl⟩
  · rw [if_neg e]
    exact propext ⟨fun y => ((jn_m1 (a := cop o) (by have := cop_le (o := o); omega)).mp y).elim, fun y => absurd y e⟩
theorem jc_app {α : Type} {b : Nat → Nat} {n s p o : Nat} {c : jPc} {M : jb_Mi} (h : lC b n s p c M) (ho : o = 0 ∨ (2 ≤ o ∧ o ≤ 6)) (hl : s + c.length + bto o ≤ 240) (k1 : jb_Mi → Option α) : ∃ M', (if pn o = -1 then k1 M else (zf_70 (pn o) 0 M).bind fun q => k1 q.2) = k1 M' ∧ lC b n s p (app c o) M' ∧ lX s M M' := by
  simp only [pn_e]
  unfold app
  by_cases e : o = 0
  · rw [if_pos e, if_pos e]
    exact ⟨M, rfl, h, lX_0 s M⟩
  · rw [if_neg e, if_neg e, pno_1 e]
    rw [bto_1 e] at hl
    obtain ⟨M', m1, m2, m3⟩ := jc_emit h (by omega) o 0 (nI (cop o)) 0 rfl (fun _ => by
      unfold ptg
      rw [if_neg (by dsimp only; omega)]
      rfl)
    rw [m1, Option.bind_some]
    exact ⟨M', rfl, m2, m3⟩
theorem sgn_4 {c : Nat} : (4 ≤ sgn c) ↔ (c = 42 ∨ c = 47 ∨ c = 37) := by
  unfold sgn
  repeat' split
  all_goals omega
theorem sgn_2 {c : Nat} : (sgn c = 2 ∨ sgn c = 3) ↔ (c = 43 ∨ c = 45) := by
  unfold sgn
  repeat' split
  all_goals omega
theorem jc_ex {b : Nat → Nat} {n s w : Nat} {Fc : Nat → jPc → lwR} {g : Nat → Int32 → jb_Mi → Option (Bool × jb_Mi)} {x1 : Int32} (hn : n ≤ 240) (hF : gX n w Fc) (sF : sim b n s w Fc (g 1 x1)) : ∀ (f pt pf p i d : Nat) (c : jPc) (M : jb_Mi), lC b n s p c M → wfc c → dp c c.length = d + bto pt + bto pf → d + w + 2 ≤ 30 → p ≤ n → s + c.length + bto pt + bto pf ≤ p → (pt = 0 ∨ pt = 2 ∨ pt = 3) → (pf = 0 ∨ (4 ≤ pf ∧ pf ≤ 6)) → i + f = 241 → 2 * i ≤ p → ∃ r, jb_lp (zf_80_H7 g x1) (pn pt, pn pf, nI i, M) = some r ∧ lO b n s M (exL b n Fc f pt pf p c) r := by
  intro f
  induction f with
  | zero => intros; omega
  | succ f ih =>
    intro pt pf p i d c M h hc hd hw hp hs h1 h2 hi hip
    have b1 : bto pt ≤ 1 := by unfold bto; split <;> omega
    have b2 : bto pf ≤ 1 := by unfold bto; split <;> omega
    obtain ⟨r, r1, r2⟩ := sF p c M h hc (by omega) hp (by omega)
    have hg := hF p c hc (by omega) hp (by omega)
    rw [exL_s]
    have e0 : zf_80_H7 g x1 (pn pt, pn pf, nI i, M) = if jb_b2i r.1 = 0 then some (.inr (false, r.2)) else if pn pf = -1 then zf_80_J42 g x1 (pn pt) (-1) (nI i) r.2 else (zf_70 (pn pf) 0 r.2).bind fun q4 => zf_80_J42 g x1 (pn pt) (-1) (nI i) q4.2 := by
      unfold zf_80_H7
      dsimp only
      rw [if_pos (show nI i < 240 from nI_lt (b := 240) (by omega) (by decide)), r1, Option.bind_some]
      by_cases e : pn pf = -1
      · rw [e]
      · rw [if_neg e, if_neg e]
    cases e : Fc p c with
    | inl x =>
      rw [e] at r2
      rw [r2.2.1, jb_no] at e0
      exact ⟨_, jb_lp_inr e0, r2.1, rfl, r2.2.2⟩
    | inr y =>
      rw [e] at r2 hg
      obtain ⟨q, c1⟩ := y
      obtain ⟨g1, g2, g3, g4⟩ := hg
      obtain ⟨x1', x2', x3'⟩ := r2
      dsimp only at g1 g2 g3 g4 x2' x3'
      have hlen := g3.2.2.1
      have hch := ch_le (tcB_b h.1) q
      obtain ⟨f1, f2, f3⟩ := app_ok (p := q) (o := pf) g3.1 (by omega) (by omega) (fun z => by rw [bto_1 z] at hd; omega)
      obtain ⟨t1, t2, t3⟩ := app_ok (p := q + bto pf) (o := pt) f1.1 (by omega) (by omega) (fun z => by rw [bto_1 z] at hd; omega)
      obtain ⟨M2, m1, m2, m3⟩ := jc_app x3' (o := pf) (by omega) (by omega) (zf_80_J42 g x1 (pn pt) (-1) (nI i))
      rw [x2', jb_yes, m1] at e0
      have hX2 := lX_t x1' m3
      show ∃ r, jb_lp (zf_80_H7 g x1) (pn pt, pn pf, nI i, M) = some r ∧ lO b n s M (exK b n Fc f pt pf q c1) r
      unfold exK
      have s42 : (sgc (ch b n q) = 42) = (ch b n q = 42) := sgc_eq (k := 42) hch (by decide)
      have s47 : (sgc (ch b n q) = 47) = (ch b n q = 47) := sgc_eq (k := 47) hch (by decide)
      have s37 : (sgc (ch b n q) = 37) = (ch b n q = 37) := sgc_eq (k := 37) hch (by decide)
      have s43 : (sgc (ch b n q) = 43) = (ch b n q = 43) := sgc_eq (k := 43) hch (by decide)
      have s45 : (sgc (ch b n q) = 45) = (ch b n q = 45) := sgc_eq (k := 45) hch (by decide)
      have e1 : zf_80_J42 g x1 (pn pt) (-1) (nI i) M2 = if 4 ≤ sgn (ch b n q) then zf_80_J116 g x1 (pn pt) (sgc (ch b n q)) (nI i) M2 else if pn pt = -1 then zf_80_J97 g x1 (-1) (nI i) (sgc (ch b n q)) M2 else (zf_70 (pn pt) 0 M2).bind fun q3 => zf_80_J97 g x1 (-1) (nI i) (sgc (ch b n q)) q3.2 := by
        unfold zf_80_J42 zf_80_J76
        rw [m2.2.1, sgc_byte m2.1 (by omega), Option.bind_some]
        simp only [s42, s47, s37]
        by_cases k1 : ch b n q = 42
        · rw [if_pos k1, if_pos (sgn_4.mpr (Or.inl k1))]
        rw [if_neg k1]
        by_cases k2 : ch b n q = 47
        · rw [if_pos k2, if_pos (sgn_4.mpr (Or.inr (Or.inl k2)))]
        rw [if_neg k2]
        by_cases k3 : ch b n q = 37
        · rw [if_pos k3, if_pos (sgn_4.mpr (Or.inr (Or.inr k3)))]
        rw [if_neg k3, if_neg (show ¬ 4 ≤ sgn (ch b n q) from fun z => by have := sgn_4.mp z; omega)]
      rw [e1] at e0
      by_cases k1 : 4 ≤ sgn (ch b n q)
      · have hq := ch_in (tcB_b h.1) ((sgn_ok (c := ch b n q)).2.2 (by omega))
        have hq' := (sgn_ok (c := ch b n q)).2.2 (by omega)
        rw [if_pos k1] at e0 ⊢
        have e2 : zf_80_J116 g x1 (pn pt) (sgc (ch b n q)) (nI i) M2 = some (.inl (pn pt, pn (sgn (ch b n q)), nI (i + 1), jb_up M2 50 2 (nI (q + 1)))) := by
          unfold zf_80_J116
          rw [m2.2.1, nI_succ, nI_succ, pno_1 (show sgn (ch b n q) ≠ 0 by omega), sgn_c (by omega), sgc_in hq']
        rw [e2] at e0
        rw [jb_lp_inl e0]
        obtain ⟨z, z1, z2⟩ := ih pt (sgn (ch b n q)) (q + 1) (i + 1) d (app c1 pf) _ (lC_p m2) f1.1 (by rw [bto_1 (x := sgn (ch b n q)) (by omega)]; omega) hw (by omega) (by rw [bto_1 (x := sgn (ch b n q)) (by omega)]; omega) h1 (Or.inr ⟨k1, (sgn_ok (c := ch b n q)).1⟩) (by omega) (by omega)
        exact ⟨z, z1, lO_t (lX_u hX2) z2⟩
      · rw [if_neg k1] at e0 ⊢
        obtain ⟨M3, n1, n2, n3⟩ := jc_app m2 (o := pt) (by omega) (by omega) (zf_80_J97 g x1 (-1) (nI i) (sgc (ch b n q)))
        rw [n1] at e0
        have hX3 := lX_t hX2 n3
        have e3 : zf_80_J97 g x1 (-1) (nI i) (sgc (ch b n q)) M3 = if ch b n q = 43 ∨ ch b n q = 45 then zf_80_J116 g x1 (sgc (ch b n q)) (-1) (nI i) M3 else some (.inr (true, M3)) := by
          unfold zf_80_J97 zf_80_J113
          simp only [s43, s45]
          by_cases k2 : ch b n q = 43
          · rw [if_pos k2, if_pos (Or.inl k2)]
          · rw [if_neg k2]
            by_cases k3 : ch b n q = 45
            · rw [if_pos k3, if_pos (Or.inr k3)]
            · rw [if_neg k3, if_neg (by omega)]
        rw [e3] at e0
        by_cases k2 : sgn (ch b n q) = 0
        · rw [if_neg (fun z => by have := sgn_2.mpr z; omega)] at e0
          rw [if_pos k2]
          exact ⟨_, jb_lp_inr e0, hX3, rfl, n2⟩
        · have hq := ch_in (tcB_b h.1) ((sgn_ok (c := ch b n q)).2.2 k2)
          have hq' := (sgn_ok (c := ch b n q)).2.2 k2
          have hs1 := (sgn_ok (c := ch b n q)).2.1
          rw [if_pos (sgn_2.mp (by omega))] at e0
          rw [if_neg k2]
          have e2 : zf_80_J116 g x1 (sgc (ch b n q)) (-1) (nI i) M3 = some (.inl (pn (sgn (ch b n q)), pn 0, nI (i + 1), jb_up M3 50 2 (nI (q + 1)))) := by
            unfold zf_80_J116
            rw [n2.2.1, nI_succ, nI_succ, pno_1 k2, sgn_c k2, sgc_in hq', pno_0]
          rw [e2] at e0
          rw [jb_lp_inl e0]
          obtain ⟨z, z1, z2⟩ := ih (sgn (ch b n q)) 0 (q + 1) (i + 1) d (app (app c1 pf) pt) _ (lC_p n2) t1.1 (by rw [bto_1 k2, bto_0]; omega) hw (by omega) (by rw [bto_1 k2, bto_0]; omega) (by omega) (Or.inl rfl) (by omega) (by omega)
          exact ⟨z, z1, lO_t (lX_u hX3) z2⟩
theorem jc_exp {b : Nat → Nat} {n s l : Nat} {g : Nat → Int32 → jb_Mi → Option (Bool × jb_Mi)} {x1 : Int32} (hn : n ≤ 240) (hb : bB b n) (sF : sim b n s (2 * l) (spF b n l) (g 1 x1)) : sim b n s (2 * l + 2) (spE b n l) (zf_80 g x1) := by
  intro p c M h hc hd hp hs
  rw [spE_F]
  unfold zf_80
  exact jc_ex hn (spE_ok hb l).1 sF 241 0 0 p 0 (dp c c.length) c M h hc (by rw [bto_0]; omega) (by omega) hp (by rw [bto_0]; omega) (Or.inl rfl) (Or.inl rfl) (by omega) (by omega)
theorem jc_test {b : Nat → Nat} {n s l : Nat} {T C : Nat → jPc → lwR} {g : Nat → Int32 → jb_Mi → Option (Bool × jb_Mi)} (hn : n ≤ 240) (hb : bB b n) (hl : l ≤ 6) (hE : sim b n s (2 * l + 2) (spE b n l) (g 0 (nI (6 - l)))) (hT : l ≠ 0 → tX n (2 * l + 3) T ∧ sim b n s (2 * l + 3) T (g 3 (nI (7 - l)))) (hC : l ≠ 0 → tX n (2 * l + 3) C ∧ sim b n s (2 * l + 3) C (g 2 (nI (7 - l)))) : sim b n s (2 * l + 3) (tsR b n l T C) (zf_83 g (nI (6 - l))) := by
  intro p c M h hc hd hp hs
  have hch := ch_le (tcB_b h.1) p
  have s33 : (sgc (ch b n p) = 33) = (ch b n p = 33) := sgc_eq (k := 33) hch (by decide)
  have s40 : (sgc (ch b n p) = 40) = (ch b n p = 40) := sgc_eq (k := 40) hch (by decide)
  unfold zf_83 tsR
  rw [h.2.1, sgc_byte h.1 (by omega), Option.bind_some]
  simp only [s33, s40]
  rw [jc_enter h hl]
  have e7 : nI (6 - l) + 1 = nI (6 - l + 1) := (nI_succ _).symm
  by_cases c1 : ch b n p = 33
  · rw [if_pos c1, if_pos c1]
    by_cases c3 : l = 0
    · rw [if_pos c3, if_pos c3]
      exact ⟨_, jb_no _ _, lO_bad (x := 5) (lX_0 s M) h.2.1⟩
    · rw [if_neg c3, if_neg c3, jb_yes]
      dsimp only
      obtain ⟨gT, sT⟩ := hT c3
      have hpn := ch_in (tcB_b h.1) (k := p) (by omega)
      obtain ⟨r, r1, r2⟩ := sT (p + 1) c _ (lC_p (q := p + 1) h) hc hd (by omega) (by omega)
      have hg := gT (p + 1) c hc hd (by omega) (by omega)
      rw [e7, show 6 - l + 1 = 7 - l by omega, r1, Option.bind_some]
      have r3 := lO_t (lX_u (lX_0 s M)) r2
      cases e : T (p + 1) c with
      | inl x =>
        rw [e] at r3
        rw [r3.2.1, jb_no]
        exact ⟨_, rfl, r3.1, rfl, r3.2.2⟩
      | inr y =>
        rw [e] at r3 hg
        obtain ⟨g1, g2, g3, g4, g5⟩ := hg
        have := g3.2.2.1
        obtain ⟨M', m1, m2, m3⟩ := jc_emit r3.2.2 (by omega) 10 0 3 0 rfl (fun _ => rfl)
        rw [r3.2.1, jb_yes, m1, Option.bind_some]
        exact ⟨_, rfl, lX_t r3.1 m3, rfl, m2⟩
  rw [if_neg c1, if_neg c1]
  by_cases c2 : ch b n p = 40
  · rw [if_pos c2, if_pos c2]
    by_cases c3 : l = 0
    · rw [if_pos c3, if_pos c3]
      exact ⟨_, jb_no _ _, lO_bad (x := 5) (lX_0 s M) h.2.1⟩
    · rw [if_neg c3, if_neg c3, jb_yes]
      dsimp only
      obtain ⟨gC, sC⟩ := hC c3
      have hpn := ch_in (tcB_b h.1) (k := p) (by omega)
      obtain ⟨r, r1, r2⟩ := sC (p + 1) c _ (lC_p (q := p + 1) h) hc hd (by omega) (by omega)
      have hg := gC (p + 1) c hc hd (by omega) (by omega)
      rw [e7, show 6 - l + 1 = 7 - l by omega, r1, Option.bind_some]
      have r3 := lO_t (lX_u (lX_0 s M)) r2
      cases e : C (p + 1) c with
      | inl x =>
        rw [e] at r3
        rw [r3.2.1, jb_no]
        exact ⟨_, rfl, r3.1, rfl, r3.2.2⟩
      | inr y =>
        rw [e] at r3 hg
        have hy := hg.2.1
        rw [r3.2.1, jb_yes, show (41 : Int32) = nI 41 from rfl, jc_sign r3.2.2 (by omega) (by decide)]
        unfold bnd
        dsimp only
        by_cases c4 : ch b n y.1 = 41
        · rw [if_pos c4, if_pos c4, Option.bind_some, jb_yes]
          exact ⟨_, rfl, lX_u r3.1, rfl, lC_p r3.2.2⟩
        · rw [if_neg c4, if_neg c4, Option.bind_some]
          exact ⟨_, jb_no _ _, lO_bad (x := 1) r3.1 r3.2.2.2.1⟩
  rw [if_neg c2, if_neg c2]
  obtain ⟨r, r1, r2⟩ := hE p c M h hc (by omega) hp hs
  have hg := (spE_ok hb l).2 p c hc (by omega) hp (by omega)
  rw [r1, Option.bind_some]
  cases e : spE b n l p c with
  | inl x =>
    rw [e] at r2
    rw [r2.2.1, jb_no]
    exact ⟨_, rfl, r2.1, rfl, r2.2.2⟩
  | inr y =>
    rw [e] at r2 hg
    obtain ⟨q, c1⟩ := y
    obtain ⟨g1, g2, g3, g4⟩ := hg
    obtain ⟨x1, x2, x3⟩ := r2
    dsimp only at g1 g2 g3 g4 x2 x3
    have hlen := g3.2.2.1
    have hcq := ch_le hb q
    rw [x2, jb_yes, x3.2.1, sgc_byte x3.1 (by omega), Option.bind_some]
    have s60 : (sgc (ch b n q) = 60) = (ch b n q = 60) := sgc_eq (k := 60) hcq (by decide)
    have s62 : (sgc (ch b n q) = 62) = (ch b n q = 62) := sgc_eq (k := 62) hcq (by decide)
    have s61 : (sgc (ch b n q) = 61) = (ch b n q = 61) := sgc_eq (k := 61) hcq (by decide)
    have e1 : (if sgc (ch b n q) = 60 then zf_83_J135 g (nI (6 - l)) (sgc (ch b n q)) r.2 else if sgc (ch b n q) = 62 then zf_83_J135 g (nI (6 - l)) (sgc (ch b n q)) r.2 else if sgc (ch b n q) = 61 then zf_83_J135 g (nI (6 - l)) (sgc (ch b n q)) r.2 else some ((zf_75 1 r.2).1, (zf_75 1 r.2).2)) = if cmq (ch b n q) = 0 then some (zf_75 (nI 1) r.2) else zf_83_J135 g (nI (6 - l)) (nI (cop (cmq (ch b n q)))) r.2 := by
      simp only [s60, s62, s61]
      unfold cmq
      by_cases k1 : ch b n q = 60
      · rw [if_pos k1, if_pos k1, if_neg (by decide), k1]; rfl
      rw [if_neg k1, if_neg k1]
      by_cases k2 : ch b n q = 62
      · rw [if_pos k2, if_pos k2, if_neg (by decide), k2]; rfl
      rw [if_neg k2, if_neg k2]
      by_cases k3 : ch b n q = 61
      · rw [if_pos k3, if_pos k3, if_neg (by decide), k3]; rfl
      rw [if_neg k3, if_neg k3, if_pos rfl]
      rfl
    rw [e1]
    unfold bnd
    dsimp only
    rcases cmq_ok (c := ch b n q) with z | ⟨z1, z2, z3⟩
    · rw [if_pos z, if_pos z]
      exact ⟨_, rfl, lO_bad (x := 1) x1 x3.2.1⟩
    · rw [if_neg (by omega), if_neg (by omega)]
      have hq := ch_in hb z3
      unfold zf_83_J135
      rw [x3.2.1, ← nI_succ]
      obtain ⟨r', r1', r2'⟩ := hE (q + 1) c1 _ (lC_p (q := q + 1) x3) g3.1 (by omega) hq (by omega)
      have hg' := (spE_ok hb l).2 (q + 1) c1 g3.1 (by omega) hq (by omega)
      have r3' := lO_t (lX_t x1 (lX_u (lX_0 s r.2))) r2'
      rw [r1', Option.bind_some]
      cases e2 : spE b n l (q + 1) c1 with
      | inl x =>
        rw [e2] at r3'
        rw [r3'.2.1, jb_no]
        exact ⟨_, rfl, r3'.1, rfl, r3'.2.2⟩
      | inr y2 =>
        rw [e2] at r3' hg'
        obtain ⟨k1, k2, k3, k4⟩ := hg'
        have hlen2 := k3.2.2.1
        obtain ⟨M', m1, m2, m3⟩ := jc_emit r3'.2.2 (by omega) (cmq (ch b n q)) 0 (nI (cop (cmq (ch b n q)))) 0 rfl (fun _ => by
          unfold ptg
          rw [if_neg (by dsimp only; omega)]
          rfl)
        rw [r3'.2.1, jb_yes, m1, Option.bind_some]
        exact ⟨_, rfl, lX_t r3'.1 m3, rfl, m2⟩
/-- a waiting jump in the class: its step, or -1 -/
def pj (s x : Nat) : Int32 := if x = 0 then -1 else nI (s + (x - 1))
theorem jc_aim {b : Nat → Nat} {n s p x : Nat} {c : jPc} {M : jb_Mi} (h : lC b n s p c M) (hx : x ≤ c.length) (hs : s + c.length ≤ 240) (ho : x ≠ 0 → 11 ≤ (pat c (x - 1)).1) : ∃ M', zf_71 (pj s x) M = some M' ∧ lC b n s p (aim x c) M' ∧ lX s M M' := by
  unfold zf_71 pj
  by_cases e : x = 0
  · rw [if_pos e, if_pos (by decide)]
    refine ⟨M, rfl, ?_, lX_0 s M⟩
    unfold aim
    rw [if_pos e]
    exact h
  · obtain ⟨k1, k2, k3, k4⟩ := h
    rw [if_neg e, if_neg (nI_pos (by omega)), k3, if_pos (nI_lt (by omega) (by omega)), jn_gd (by omega) (by decide), nI_clamp (by omega)]
    refine ⟨_, rfl, ⟨tcB_of k1 (jb_up_off (by decide)) (jb_up_off (by decide)), by rw [jb_up_off (by decide), k2], by rw [jb_up_off (by decide), k3, aim_len], fun k hk => ?_⟩, ⟨fun a q1 q2 q3 q4 => jb_up_off q4, fun j hj => by rw [jb_up_off (by decide)], fun j hj => ⟨by rw [jb_up_off (by decide)], by rw [jb_up_at, if_neg (by omega)]⟩⟩⟩
    rw [aim_len] at hk
    obtain ⟨q1, q2⟩ := k4 k hk
    rw [jb_up_off (by decide), aim_op]
    refine ⟨q1, fun y => ?_⟩
    by_cases e2 : k + 1 = x
    · have e3 := aim_at c e2 hk
      have ho' := ho e
      rw [show x - 1 = k by omega] at ho'
      rw [jb_up_at, if_pos (by omega), e3]
      unfold ptg
      rw [if_pos ho']
    · rw [aim_ne c e2] at y ⊢
      rw [jb_up_at, if_neg (by omega)]
      exact q2 y
theorem jc_cn {b : Nat → Nat} {n s w : Nat} {Ts : Nat → jPc → lwR} {g : Nat → Int32 → jb_Mi → Option (Bool × jb_Mi)} {x1 : Int32} (hn : n ≤ 240) (hT : tX n w Ts) (sT : sim b n s w Ts (g 3 x1)) : ∀ (f po pa p i m d : Nat) (c : jPc) (M : jb_Mi), lC b n s p c M → wfc c → dp c c.length = d → d + w ≤ 30 → p ≤ n → s + c.length ≤ p → m ≤ c.length → pnd c m d 12 po → pnd c m d 11 pa → i + f = 241 → 2 * i ≤ p → ∃ r, jb_lp (zf_82_H7 g x1) (pj s pa, pj s po, nI i, M) = some r ∧ lO b n s M (cnL b n Ts f po pa p c) r := by
  intro f
  induction f with
  | zero => intros; omega
  | succ f ih =>
    intro po pa p i m d c M h hc hd hw hp hs hm hpo hpa hi hip
    obtain ⟨r, r1, r2⟩ := sT p c M h hc (by omega) hp (by omega)
    have hg := hT p c hc (by omega) hp (by omega)
    rw [cnL_s]
    have e0 : zf_82_H7 g x1 (pj s pa, pj s po, nI i, M) = if jb_b2i r.1 = 0 then some (.inr (false, r.2)) else (zf_71 (pj s pa) r.2).bind fun q2 => (zf_30 (q2 50 2) q2).bind fun q3 => if q3 = 38 then (zf_70 4 0 q2).bind fun q4 => zf_82_J95 g x1 q4.1 (pj s po) (nI i) q4.2 else (zf_71 (pj s po) q2).bind fun q5 => if q3 = 124 then (zf_70 5 0 q5).bind fun q6 => zf_82_J95 g x1 (-1) q6.1 (nI i) q6.2 else some (.inr (true, q5)) := by
      unfold zf_82_H7
      dsimp only
      rw [if_pos (show nI i < 240 from nI_lt (b := 240) (by omega) (by decide)), r1, Option.bind_some]
    cases e : Ts p c with
    | inl x =>
      rw [e] at r2
      rw [r2.2.1, jb_no] at e0
      exact ⟨_, jb_lp_inr e0, r2.1, rfl, r2.2.2⟩
    | inr y =>
      rw [e] at r2 hg
      obtain ⟨q, c1⟩ := y
      obtain ⟨h1, h2, h3, h4, h5⟩ := hg
      obtain ⟨x1', x2', x3'⟩ := r2
      dsimp only at h1 h2 h3 h4 h5 x2' x3'
      obtain ⟨g1, g2, g3, g4⟩ := id h3
      have ho1 : ∀ k, k < c.length → (pat c1 k).1 = (pat c k).1 := fun k hk => by rw [g2.2 k hk]
      have hpo1 := pnd_pre hpo g2.1 ho1
      have hpa1 := pnd_pre hpa g2.1 ho1
      rw [hd] at h4
      have hch := ch_le (tcB_b h.1) q
      have hlen := g2.1
      have l2 := aim_len pa c1
      have w2 : wfc (aim pa c1) := aim_wf g1 (fun y => by obtain ⟨a1, a2, a3, a4⟩ := hpa1 y; exact ⟨by omega, by omega, by rw [h4, a4]⟩) h5
      obtain ⟨M2, m1, m2, m3⟩ := jc_aim x3' (x := pa) (by by_cases z : pa = 0; (omega); (have := hpa1 z; omega)) (by omega) (fun z => by have := hpa1 z; omega)
      have hX2 := lX_t x1' m3
      rw [x2', jb_yes, m1, Option.bind_some, m2.2.1, sgc_byte m2.1 (by omega), Option.bind_some] at e0
      have s38 : (sgc (ch b n q) = 38) = (ch b n q = 38) := sgc_eq (k := 38) hch (by decide)
      have s124 : (sgc (ch b n q) = 124) = (ch b n q = 124) := sgc_eq (k := 124) hch (by decide)
      simp only [s38, s124] at e0
      show ∃ r, jb_lp (zf_82_H7 g x1) (pj s pa, pj s po, nI i, M) = some r ∧ lO b n s M (cnK b n Ts f po pa q c1) r
      unfold cnK
      by_cases c2 : ch b n q = 38
      · have hq := ch_in (tcB_b h.1) (k := q) (by omega)
        rw [if_pos c2] at e0 ⊢
        obtain ⟨M3, n1, n2, n3⟩ := jc_emit m2 (by omega) 11 0 4 0 rfl (fun z => by omega)
        rw [n1, Option.bind_some] at e0
        have e2 : zf_82_J95 g x1 (nI (s + (aim pa c1).length)) (pj s po) (nI i) M3 = some (.inl (pj s ((aim pa c1).length + 1), pj s po, nI (i + 1), jb_up M3 50 2 (nI (q + 1)))) := by
          unfold zf_82_J95
          rw [n2.2.1, nI_succ, nI_succ]
          rfl
        dsimp only at e0
        rw [e2] at e0
        rw [jb_lp_inl e0]
        have hN : okN (aim pa c1) (11, 0) := ⟨by dsimp only; omega, by dsimp only; omega, fun y => by dsimp only at y; omega, fun y => by dsimp only at y; omega, fun y z => by dsimp only at z; omega, fun _ => ⟨by rw [aim_dp, aim_len, h4]; omega, by rw [aim_isb, aim_len]; exact h5⟩, fun _ => rfl⟩
        have w3 := wfc_app w2 (by omega) hN
        have d3 : dp (aim pa c1 ++ [(11, 0)]) (aim pa c1 ++ [(11, 0)]).length = d := by
          rw [dp_end, aim_dp, aim_len, h4]
          unfold dst
          rw [if_neg (by dsimp only; omega), if_neg (by dsimp only; omega), Nat.add_sub_cancel]
        have l3 : (aim pa c1 ++ [(11, 0)]).length = c1.length + 1 := by rw [List.length_append, aim_len]; rfl
        have p12 : pnd (aim pa c1 ++ [(11, 0)]) m d 12 po := pnd_pre (pnd_pre hpo1 (by omega) (fun k _ => aim_op pa c1 k)) (by omega) (fun k hk => by rw [pat_app, if_pos hk])
        have p11 : pnd (aim pa c1 ++ [(11, 0)]) m d 11 ((aim pa c1).length + 1) := by
          intro _
          rw [Nat.add_sub_cancel, pat_app, if_neg (by omega), if_pos rfl, dp_app _ _ (Nat.le_refl _), aim_dp, aim_len, h4]
          exact ⟨by omega, by omega, rfl, rfl⟩
        obtain ⟨z, z1, z2⟩ := ih po ((aim pa c1).length + 1) (q + 1) (i + 1) m d (aim pa c1 ++ [(11, 0)]) _ (lC_p n2) w3 d3 hw hq (by omega) (by omega) p12 p11 (by omega) (by omega)
        exact ⟨z, z1, lO_t (lX_u (lX_t hX2 n3)) z2⟩
      · rw [if_neg c2] at e0 ⊢
        have hpo2 : pnd (aim pa c1) m d 12 po := pnd_pre hpo1 (by omega) (fun k _ => aim_op pa c1 k)
        have w4 : wfc (aim po (aim pa c1)) := aim_wf w2 (fun y => by obtain ⟨a1, a2, a3, a4⟩ := hpo2 y; exact ⟨by omega, by omega, by rw [aim_dp, aim_len, h4, a4]⟩) (by rw [aim_isb, aim_len]; exact h5)
        have l4 : (aim po (aim pa c1)).length = c1.length := by rw [aim_len, aim_len]
        have d4 : dp (aim po (aim pa c1)) c1.length = d + 1 := by rw [aim_dp, aim_dp, h4]
        have i4 : isb (aim po (aim pa c1)) c1.length := by rw [aim_isb, aim_isb]; exact h5
        obtain ⟨M4, v1, v2, v3⟩ := jc_aim m2 (x := po) (by by_cases z : po = 0; (omega); (have := hpo2 z; omega)) (by omega) (fun z => by have := hpo2 z; omega)
        have hX4 := lX_t hX2 v3
        rw [v1, Option.bind_some] at e0
        by_cases c3 : ch b n q = 124
        · have hq := ch_in (tcB_b h.1) (k := q) (by omega)
          rw [if_pos c3] at e0 ⊢
          obtain ⟨M5, n1, n2, n3⟩ := jc_emit v2 (by omega) 12 0 5 0 rfl (fun z => by omega)
          rw [n1, Option.bind_some] at e0
          have e2 : zf_82_J95 g x1 (-1) (nI (s + (aim po (aim pa c1)).length)) (nI i) M5 = some (.inl (pj s 0, pj s ((aim po (aim pa c1)).length + 1), nI (i + 1), jb_up M5 50 2 (nI (q + 1)))) := by
            unfold zf_82_J95
            rw [n2.2.1, nI_succ, nI_succ]
            rfl
          dsimp only at e0
          rw [e2] at e0
          rw [jb_lp_inl e0]
          have hN : okN (aim po (aim pa c1)) (12, 0) := ⟨by dsimp only; omega, by dsimp only; omega, fun y => by dsimp only at y; omega, fun y => by dsimp only at y; omega, fun y z => by dsimp only at z; omega, fun _ => ⟨by rw [l4, d4]; omega, by rw [l4]; exact i4⟩, fun _ => rfl⟩
          have w5 := wfc_app w4 (by omega) hN
          have d5 : dp (aim po (aim pa c1) ++ [(12, 0)]) (aim po (aim pa c1) ++ [(12, 0)]).length = d := by
            rw [dp_end, l4, d4]
            unfold dst
            rw [if_neg (by dsimp only; omega), if_neg (by dsimp only; omega), Nat.add_sub_cancel]
          have l5 : (aim po (aim pa c1) ++ [(12, 0)]).length = c1.length + 1 := by rw [List.length_append, l4]; rfl
          have p12 : pnd (aim po (aim pa c1) ++ [(12, 0)]) m d 12 ((aim po (aim pa c1)).length + 1) := by
            intro _
            rw [Nat.add_sub_cancel, pat_app, if_neg (by omega), if_pos rfl, dp_app _ _ (Nat.le_refl _), l4, d4]
            exact ⟨by omega, by omega, rfl, rfl⟩
          obtain ⟨z, z1, z2⟩ := ih ((aim po (aim pa c1)).length + 1) 0 (q + 1) (i + 1) m d (aim po (aim pa c1) ++ [(12, 0)]) _ (lC_p n2) w5 d5 hw hq (by omega) (by omega) p12 (fun y => absurd rfl y) (by omega) (by omega)
          exact ⟨z, z1, lO_t (lX_u (lX_t hX4 n3)) z2⟩
        · rw [if_neg c3] at e0 ⊢
          exact ⟨_, jb_lp_inr e0, hX4, rfl, v2⟩
theorem jc_cond {b : Nat → Nat} {n s l : Nat} {g : Nat → Int32 → jb_Mi → Option (Bool × jb_Mi)} {x1 : Int32} (hn : n ≤ 240) (hb : bB b n) (sT : sim b n s (2 * l + 3) (spT b n l) (g 3 x1)) : sim b n s (2 * l + 3) (spC b n l) (zf_82 g x1) := by
  intro p c M h hc hd hp hs
  unfold zf_82 spC
  exact jc_cn hn (spT_ok hb l).1 sT 241 0 0 p 0 c.length (dp c c.length) c M h hc rfl hd hp hs (Nat.le_refl _) (fun y => absurd rfl y) (fun y => absurd rfl y) (by omega) (by omega)
theorem jc_LT {b : Nat → Nat} {n s : Nat} (hn : n ≤ 240) (hb : bB b n) : ∀ l, l ≤ 6 → ∀ F, (2 * l + 1 ≤ F → sim b n s (2 * l) (spF b n l) (zfr_LT F 1 (nI (6 - l)))) ∧ (2 * l + 2 ≤ F → sim b n s (2 * l + 2) (spE b n l) (zfr_LT F 0 (nI (6 - l)))) := by
  have up : ∀ l, l ≤ 6 → (∀ F, 2 * l + 1 ≤ F → sim b n s (2 * l) (spF b n l) (zfr_LT F 1 (nI (6 - l)))) → ∀ F, 2 * l + 2 ≤ F → sim b n s (2 * l + 2) (spE b n l) (zfr_LT F 0 (nI (6 - l))) := by
    intro l hl hF F hFu
    obtain ⟨F, rfl⟩ : ∃ F1, F = F1 + 1 := ⟨F - 1, by omega⟩
    exact jc_exp hn hb (hF F (by omega))
  intro l
  induction l with
  | zero =>
    intro hl
    have h : ∀ F, 2 * 0 + 1 ≤ F → sim b n s (2 * 0) (spF b n 0) (zfr_LT F 1 (nI (6 - 0))) := by
      intro F hFu
      obtain ⟨F, rfl⟩ : ∃ F1, F = F1 + 1 := ⟨F - 1, by omega⟩
      exact jc_factor (l := 0) (E := fun _ _ => .inl (0, 0)) (g := zfr_LT F) hn (by omega) (fun y => absurd rfl y)
    exact fun F => ⟨h F, up 0 (by omega) h F⟩
  | succ l ih =>
    intro hl
    have h : ∀ F, 2 * (l + 1) + 1 ≤ F → sim b n s (2 * (l + 1)) (spF b n (l + 1)) (zfr_LT F 1 (nI (6 - (l + 1)))) := by
      intro F hFu
      obtain ⟨F, rfl⟩ : ∃ F1, F = F1 + 1 := ⟨F - 1, by omega⟩
      refine jc_factor (l := l + 1) (g := zfr_LT F) hn (by omega) (fun _ => ⟨(spE_ok hb l).2, ?_⟩)
      have := ((ih (by omega) F).2 (by omega))
      rw [show 6 - l = 7 - (l + 1) by omega] at this
      exact this
    exact fun F => ⟨h F, up (l + 1) hl h F⟩
theorem jc_LT2 {b : Nat → Nat} {n s : Nat} (hn : n ≤ 240) (hb : bB b n) : ∀ l, l ≤ 6 → ∀ F, (2 * l + 3 ≤ F → sim b n s (2 * l + 3) (spT b n l) (zfr_LT F 3 (nI (6 - l)))) ∧ (2 * l + 4 ≤ F → sim b n s (2 * l + 3) (spC b n l) (zfr_LT F 2 (nI (6 - l)))) := by
  have up : ∀ l, l ≤ 6 → (∀ F, 2 * l + 3 ≤ F → sim b n s (2 * l + 3) (spT b n l) (zfr_LT F 3 (nI (6 - l)))) → ∀ F, 2 * l + 4 ≤ F → sim b n s (2 * l + 3) (spC b n l) (zfr_LT F 2 (nI (6 - l))) := by
    intro l hl hF F hFu
    obtain ⟨F, rfl⟩ : ∃ F1, F = F1 + 1 := ⟨F - 1, by omega⟩
    exact jc_cond hn hb (hF F (by omega))
  have wk : ∀ l X Y, sim b n s (2 * l + 3) X Y → sim b n s (2 * (l + 1) + 3) X Y := fun l X Y h p c M h1 hc hd hp hl => h p c M h1 hc (by omega) hp hl
  have wx : ∀ l X, tX n (2 * l + 3) X → tX n (2 * (l + 1) + 3) X := fun l X h p c hc hd hp hl => h p c hc (by omega) hp hl
  intro l
  induction l with
  | zero =>
    intro hl
    have h : ∀ F, 2 * 0 + 3 ≤ F → sim b n s (2 * 0 + 3) (spT b n 0) (zfr_LT F 3 (nI (6 - 0))) := by
      intro F hFu
      obtain ⟨F, rfl⟩ : ∃ F1, F = F1 + 1 := ⟨F - 1, by omega⟩
      exact jc_test (l := 0) (T := fun _ _ => .inl (0, 0)) (C := fun _ _ => .inl (0, 0)) (g := zfr_LT F) hn hb (by omega) ((jc_LT hn hb 0 (by omega) F).2 (by omega)) (fun y => absurd rfl y) (fun y => absurd rfl y)
    exact fun F => ⟨h F, up 0 (by omega) h F⟩
  | succ l ih =>
    intro hl
    have h : ∀ F, 2 * (l + 1) + 3 ≤ F → sim b n s (2 * (l + 1) + 3) (spT b n (l + 1)) (zfr_LT F 3 (nI (6 - (l + 1)))) := by
      intro F hFu
      obtain ⟨F, rfl⟩ : ∃ F1, F = F1 + 1 := ⟨F - 1, by omega⟩
      obtain ⟨i1, i2⟩ := ih (by omega) F
      have j1 := i1 (by omega)
      have j2 := i2 (by omega)
      rw [show 6 - l = 7 - (l + 1) by omega] at j1 j2
      exact jc_test (l := l + 1) (g := zfr_LT F) hn hb hl ((jc_LT hn hb (l + 1) hl F).2 (by omega)) (fun _ => ⟨wx l _ (spT_ok hb l).1, wk l _ _ j1⟩) (fun _ => ⟨wx l _ (spT_ok hb l).2, wk l _ _ j2⟩)
    exact fun F => ⟨h F, up (l + 1) hl h F⟩
