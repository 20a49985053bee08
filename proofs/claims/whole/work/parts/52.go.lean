/-! what has to go -/
theorem whoT_told {S : jSt} {R : Nat → List Nat} {q T : Nat} (h : whoT S R q T ≠ 16) : whoT S R q T < 16 ∧ 0 < S 7 (whoT S R q T) := by
  unfold whoT at h ⊢
  split
  · rename_i c; rw [if_pos c] at h; exact absurd rfl h
  · rename_i c
    rw [if_neg c] at h
    split
    · rename_i c2; exact c2
    · rename_i c2; rw [if_neg c2] at h; exact absurd rfl h
def tgG (S : jSt) (i t : Nat) (a : Nat × (Nat → Nat)) : Nat × (Nat → Nat) := if 0 < S 6 t ∧ S 3 t = i then (a.1 + 1, fun j => if j = a.1 then t else a.2 j) else a
def tg (S : jSt) (i m : Nat) : Nat × (Nat → Nat) := itf (tgG S i) (0, fun _ => 0) m
theorem tg_s (S : jSt) (i m : Nat) : tg S i (m + 1) = tgG S i m (tg S i m) := rfl
theorem tg_le (S : jSt) (i : Nat) : ∀ m, (tg S i m).1 ≤ m
  | 0 => Nat.le_refl _
  | m + 1 => by
    have i' := tg_le S i m
    rw [tg_s]
    unfold tgG
    split
    · dsimp only; omega
    · omega
theorem tg_mono (S : jSt) (i : Nat) {a b : Nat} (h : a ≤ b) : (tg S i a).1 ≤ (tg S i b).1 := by
  induction h with
  | refl => exact Nat.le_refl _
  | step _ ih =>
    rw [tg_s]
    unfold tgG
    split
    · dsimp only; omega
    · exact ih
theorem tg_ok (S : jSt) (i : Nat) : ∀ m c, c < (tg S i m).1 → (tg S i m).2 c < m ∧ 0 < S 6 ((tg S i m).2 c)
  | 0, c, h => by simp [tg, itf] at h
  | m + 1, c, h => by
    rw [tg_s] at h ⊢
    unfold tgG at h ⊢
    by_cases b : 0 < S 6 m ∧ S 3 m = i
    · rw [if_pos b] at h ⊢
      dsimp only at h ⊢
      by_cases c2 : c = (tg S i m).1
      · rw [if_pos c2]; exact ⟨by omega, b.1⟩
      · rw [if_neg c2]
        obtain ⟨i1, i2⟩ := tg_ok S i m c (by omega)
        exact ⟨by omega, i2⟩
    · rw [if_neg b] at h ⊢
      obtain ⟨i1, i2⟩ := tg_ok S i m c h
      exact ⟨by omega, i2⟩
theorem tg_cnt (S : jSt) (i : Nat) : ∀ m, (itf (thG S i) (0, 0) m).1 = nI (tg S i m).1
  | 0 => rfl
  | m + 1 => by
    have i' := tg_cnt S i m
    rw [tg_s]
    simp only [itf]
    generalize itf (thG S i) (0, 0) m = z at i'
    unfold thG tgG
    split
    · dsimp only; rw [i', nI_1]
    · exact i'
/-- what thing k of the house gives corner c -/
def pt (S : jSt) (f : Nat → Nat) (k c : Nat) : Nat := S 6 (f k) * prt (S 4 (f k)) (S 5 (f k)) c
theorem pt_le {S : jSt} (hR : jR S) {f : Nat → Nat} {k c : Nat} (hf : f k < 24) : pt S f k c ≤ 6336 := by
  have h := hR.2.1 _ hf
  exact Nat.mul_le_mul h.2.2.2 (prt_le h.2.1 h.2.2.1)
def gsf (S : jSt) (f : Nat → Nat) (s c k : Nat) : Nat := if s.testBit k = true then pt S f k c else 0
def gs (S : jSt) (f : Nat → Nat) (s c : Nat) : Nat := jsum (gsf S f s c) 12
def stt (S : jSt) (R : Nat → List Nat) (i c : Nat) : Nat := if whoT S R (4 * i + c) (now S) = 16 then 0 else S 7 (whoT S R (4 * i + c) (now S))
theorem stt_le {S : jSt} (hR : jR S) {R : Nat → List Nat} {i c : Nat} : stt S R i c ≤ 99 := by
  unfold stt
  split
  · omega
  · rename_i h; exact (hR.2.2.1 _ (whoT_told h).1).1
def brn (S : jSt) (R : Nat → List Nat) (i : Nat) (f : Nat → Nat) (s : Nat) : Prop := ∀ c, c < 4 → ld S i c ≤ 64 * stt S R i c + gs S f s c
theorem gs_le {S : jSt} (hR : jR S) {f : Nat → Nat} {n s c : Nat} (hf : ∀ k, k < n → f k < 24) (hs : s < 2 ^ n) : gs S f s c ≤ 12 * 6336 := by
  apply jsum_le
  intro k _
  unfold gsf
  split
  · rename_i h
    have hk : k < n := by
      apply Classical.byContradiction
      intro c
      rw [Nat.testBit_lt_two_pow (Nat.lt_of_lt_of_le hs (Nat.pow_le_pow_right (by decide) (by omega)))] at h
      cases h
    exact pt_le hR (hf k hk)
  · omega
theorem jsum_upd {f g : Nat → Nat} {b : Nat} : ∀ n, (∀ k, k ≠ b → f k = g k) → b < n → jsum f n + g b = jsum g n + f b
  | 0, _, h => by omega
  | n + 1, h, hb => by
    simp only [jsum]
    by_cases c : b = n
    · subst c
      have e : ∀ m, m ≤ b → jsum f m = jsum g m := by
        intro m
        induction m with
        | zero => intro _; rfl
        | succ m ih => intro hm; simp only [jsum]; rw [ih (by omega), h m (by omega)]
      rw [e b (Nat.le_refl _)]
      omega
    · have i := jsum_upd n h (by omega)
      rw [h n (fun z => c z.symm)]
      omega
theorem gs_xor (S : jSt) (f : Nat → Nat) (s c : Nat) {b : Nat} (hb : b < 12) : gs S f (s ^^^ 2 ^ b) c + gsf S f s c b = gs S f s c + gsf S f (s ^^^ 2 ^ b) c b := by
  apply jsum_upd
  · intro k hk
    unfold gsf
    rw [Nat.testBit_xor, Nat.testBit_two_pow, show decide (b = k) = false from decide_eq_false (fun z => hk z.symm), Bool.xor_false]
  · exact hb
theorem gs_0 (S : jSt) (f : Nat → Nat) (c : Nat) : gs S f 0 c = 0 := by
  have : ∀ n, jsum (gsf S f 0 c) n = 0 := by
    intro n
    induction n with
    | zero => rfl
    | succ n ih => simp only [jsum]; rw [ih]; unfold gsf; rw [Nat.zero_testBit]; rfl
  exact this 12
theorem jc_excess {S : jSt} {R : Nat → List Nat} {M : jb_Mi} (hC : jC 4 S M) (hR : jR S) (hr : jRo R M) {i : Nat} (hi : i < 6) (hs : 0 < S 0 i) : ∃ M1, zf_20 (nI i) M = some M1 ∧ (∀ a, a ≠ 65 → M1 a = M a) ∧ ∀ c, c < 4 → M1 65 c = nI (ld S i c) - nI (64 * stt S R i c) := by
  obtain ⟨M0, w1, w2, w3⟩ := jc_weigh hC hR hi hs
  unfold zf_20
  rw [w1, Option.bind_some]
  obtain ⟨M1, h1, h2, h3⟩ := jb_inv (f := zf_20_H7 (nI i)) (fun n s => ∃ c M', c + n = 4 ∧ s = (nI c, M') ∧ (∀ a, a ≠ 65 → M' a = M a) ∧ (∀ d, c ≤ d → d < 4 → M' 65 d = nI (ld S i d)) ∧ ∀ d, d < c → M' 65 d = nI (ld S i d) - nI (64 * stt S R i d)) (fun M1 => (∀ a, a ≠ 65 → M1 a = M a) ∧ ∀ c, c < 4 → M1 65 c = nI (ld S i c) - nI (64 * stt S R i c)) (by
    rintro n s ⟨c, M', hn, rfl, h1, h2, h3⟩
    have hC' : jC 4 S M' := jC_of hC (fun a q1 q2 => h1 a (by omega))
    have hr' : jRo R M' := by
      unfold jRo
      rw [h1 36 (by decide), h1 98 (by decide), h1 35 (by decide), h1 97 (by decide)]
      exact hr
    unfold zf_20_H7
    dsimp only
    by_cases e : c < 4
    · refine Or.inl ⟨n - 1, (nI (c + 1), jb_up M' 65 c (nI (ld S i c) - nI (64 * stt S R i c))), by omega, ?_, c + 1, jb_up M' 65 c (nI (ld S i c) - nI (64 * stt S R i c)), by omega, rfl, ?_, ?_, ?_⟩
      · have hnow : now S < 2 ^ 31 := by
          have q1 := hR.2.2.2.1
          have q2 := hR.2.2.2.2.1
          unfold now; omega
        rw [if_pos (show nI c < 4 from nI_lt (b := 4) e (by decide)), show nI i * 4 = nI (i * 4) from jn_mulr i 4, nI_add, Nat.mul_comm i 4, jc_time hC', jc_has hC' hR hr' (by omega) hnow, Option.bind_some, jn_gd e (by decide), nI_clamp (by omega), h2 c (Nat.le_refl _) e]
        unfold enc stt zf_20_J66
        by_cases q : whoT S R (4 * i + c) (now S) = 16
        · rw [if_pos q, if_pos q, show zf_18 4 (-2) M' = some false from if_pos (by decide), Option.bind_some, jb_no, jn_gd e (by decide), nI_clamp (by omega), nI_1]
          rfl
        · obtain ⟨t1, t2⟩ := whoT_told q
          rw [if_neg q, if_neg q, jc_man hC' hR t1, decide_eq_true t2, Option.bind_some, jb_yes, jn_gd t1 (by decide), jn_gd e (by decide), nI_clamp (by omega), nI_clamp (by omega), show M' 12 (whoT S R (4 * i + c) (now S)) = nI (S 7 (whoT S R (4 * i + c) (now S))) from (hC'.2.2.1 _ t1).1, show (64 : Int32) * nI (S 7 (whoT S R (4 * i + c) (now S))) = nI (64 * S 7 (whoT S R (4 * i + c) (now S))) from jn_mull 64 _, nI_1]
      · intro a ha
        rw [jb_up_off ha, h1 a ha]
      · intro d hd hd4
        rw [jb_up_at, if_neg (fun z => by omega)]
        exact h2 d (by omega) hd4
      · intro d hd
        rw [jb_up_at]
        by_cases q : d = c
        · rw [if_pos ⟨rfl, q⟩, q]
        · rw [if_neg (fun z => q z.2)]
          exact h3 d (by omega)
    · have e : c = 4 := by omega
      subst e
      exact Or.inr ⟨M', if_neg (by decide), h1, h3⟩) 4 (nI 0, M0) ⟨0, M0, by omega, rfl, w2, fun d _ hd => w3 d hd, fun d hd => by omega⟩
  exact ⟨M1, h1, h2, h3⟩
theorem jc_split {S : jSt} {M : jb_Mi} (hC : jC 4 S M) (hR : jR S) {i : Nat} (hi : i < 6) (h12 : (tg S i 24).1 ≤ 12) : ∃ M1, zf_21 (nI i) M = some M1 ∧ (∀ a, a ≠ 67 → M1 a = M a) ∧ ∀ k c, k < (tg S i 24).1 → c < 4 → M1 67 (4 * k + c) = nI (pt S (tg S i 24).2 k c) := by
  unfold zf_21
  obtain ⟨M1, h1, h2, h3⟩ := jb_inv (f := zf_21_H4 (nI i)) (fun n s => ∃ t M', t + n = 24 ∧ s = (nI (tg S i t).1, nI t, M') ∧ (∀ a, a ≠ 67 → M' a = M a) ∧ ∀ k c, k < (tg S i t).1 → c < 4 → M' 67 (4 * k + c) = nI (pt S (tg S i t).2 k c)) (fun M1 => (∀ a, a ≠ 67 → M1 a = M a) ∧ ∀ k c, k < (tg S i 24).1 → c < 4 → M1 67 (4 * k + c) = nI (pt S (tg S i 24).2 k c)) (by
    rintro n s ⟨t, M', hn, rfl, h1, h2⟩
    have hC' : jC 4 S M' := jC_of hC (fun a q1 q2 => h1 a (by omega))
    unfold zf_21_H4 zf_21_J67
    dsimp only
    by_cases e : t < 24
    · left
      rw [if_pos (show nI t < 24 from nI_lt (b := 24) e (by decide)), jc_isIn hC' hR e (by omega), Option.bind_some, nI_1]
      by_cases b : 0 < S 6 t ∧ S 3 t = i
      · have hlt : (tg S i t).1 < 12 := by
          have m := tg_mono S i (show t + 1 ≤ 24 by omega)
          rw [tg_s] at m
          unfold tgG at m
          rw [if_pos b] at m
          dsimp only at m
          omega
        rw [decide_eq_true b, jb_yes, if_pos (show nI (tg S i t).1 < 12 from nI_lt (b := 12) hlt (by decide))]
        obtain ⟨x, y1, M2, rfl, y2, y3, y4⟩ := jb_inv (f := zf_21_H31 (nI i) (nI (tg S i t).1) (nI t)) (fun n s => ∃ c M2, c + n = 4 ∧ s = (nI c, M2) ∧ (∀ a, a ≠ 67 → M2 a = M a) ∧ (∀ j, j < 4 * (tg S i t).1 → M2 67 j = M' 67 j) ∧ ∀ d, d < c → M2 67 (4 * (tg S i t).1 + d) = nI (S 6 t * prt (S 4 t) (S 5 t) d)) (fun x => ∃ M2, x = .inl (nI ((tg S i t).1 + 1), nI (t + 1), M2) ∧ (∀ a, a ≠ 67 → M2 a = M a) ∧ (∀ j, j < 4 * (tg S i t).1 → M2 67 j = M' 67 j) ∧ ∀ d, d < 4 → M2 67 (4 * (tg S i t).1 + d) = nI (S 6 t * prt (S 4 t) (S 5 t) d)) (by
          rintro n s ⟨c, M2, hn, rfl, y1, y2, y3⟩
          have hC2 : jC 4 S M2 := jC_of hC (fun a q1 q2 => y1 a (by omega))
          unfold zf_21_H31 zf_21_J67
          dsimp only
          by_cases ec : c < 4
          · refine Or.inl ⟨n - 1, (nI (c + 1), jb_up M2 67 (4 * (tg S i t).1 + c) (nI (S 6 t * prt (S 4 t) (S 5 t) c))), by omega, ?_, c + 1, jb_up M2 67 (4 * (tg S i t).1 + c) (nI (S 6 t * prt (S 4 t) (S 5 t) c)), by omega, rfl, ?_, ?_, ?_⟩
            · rw [if_pos (show nI c < 4 from nI_lt (b := 4) ec (by decide)), jc_loadBy hC2 hR e ec b.1, Option.bind_some, show nI (tg S i t).1 * 4 = nI ((tg S i t).1 * 4) from jn_mulr _ 4, nI_add, jn_gd (by omega) (by decide), nI_clamp (by omega), nI_1, Nat.mul_comm (tg S i t).1 4]
            · intro a ha
              rw [jb_up_off ha, y1 a ha]
            · intro j hj
              rw [jb_up_at, if_neg (fun z => by omega)]
              exact y2 j hj
            · intro d hd
              rw [jb_up_at]
              by_cases q : d = c
              · rw [if_pos ⟨rfl, by rw [q]⟩, q]
              · rw [if_neg (fun z => by omega)]
                exact y3 d (by omega)
          · have ec : c = 4 := by omega
            subst ec
            refine Or.inr ⟨_, (if_neg (by decide)).trans rfl, M2, ?_, y1, y2, y3⟩
            rw [nI_1, nI_1]) 4 (nI 0, M') ⟨0, M', by omega, rfl, h1, fun _ _ => rfl, fun d hd => by omega⟩
        refine ⟨n - 1, (nI ((tg S i t).1 + 1), nI (t + 1), M2), by omega, y1, t + 1, M2, by omega, ?_, y2, ?_⟩
        · rw [tg_s]; unfold tgG; rw [if_pos b]
        · rw [tg_s]
          unfold tgG
          rw [if_pos b]
          intro k c hk hc
          dsimp only at hk ⊢
          unfold pt
          by_cases q : k = (tg S i t).1
          · subst q
            dsimp only
            rw [if_pos rfl, y4 c hc]
          · dsimp only
            rw [if_neg q, y3 _ (by omega)]
            exact h2 k c (by omega) hc
      · rw [decide_eq_false b, jb_no]
        refine ⟨n - 1, (nI (tg S i t).1, nI (t + 1), M'), by omega, rfl, t + 1, M', by omega, ?_, h1, ?_⟩
        · rw [tg_s]; unfold tgG; rw [if_neg b]
        · rw [tg_s]; unfold tgG; rw [if_neg b]; exact h2
    · have e : t = 24 := by omega
      subst e
      exact Or.inr ⟨M', if_neg (by decide), h1, h2⟩) 24 (nI 0, nI 0, M) ⟨0, M, by omega, rfl, fun _ _ => rfl, fun k c hk => by simp [tg, itf] at hk⟩
  exact ⟨M1, h1, h2, h3⟩
theorem i3 {a b g p : Nat} : (nI a - nI b - nI g) + (-1) * nI p = nI a - nI b - nI (g + p) := by
  rw [← nI_add, Int32.neg_mul, Int32.one_mul]
  simp only [Int32.sub_eq_add_neg, Int32.neg_add, Int32.add_assoc]
theorem i3' {a b g p : Nat} : (nI a - nI b - nI (g + p)) + 1 * nI p = nI a - nI b - nI g := by
  rw [← nI_add, Int32.one_mul]
  simp only [Int32.sub_eq_add_neg, Int32.neg_add, Int32.add_assoc, Int32.add_left_neg, Int32.add_zero]
theorem i3_pos {a b g : Nat} (ha : a < 2 ^ 28) (hb : b < 2 ^ 28) (hg : g < 2 ^ 28) : ((0 : Int32) < nI a - nI b - nI g) = (b + g < a) := by
  apply propext
  have e : nI a - nI b - nI g = nI a - nI (b + g) := by
    rw [← nI_add]
    simp only [Int32.sub_eq_add_neg, Int32.neg_add, Int32.add_assoc]
  rw [e, i_gt0 (by omega) (by omega)]
theorem jc_shift {S : jSt} {M : jb_Mi} {f : Nat → Nat} {n b : Nat} (hn : n ≤ 12) (hb : b < n) (h67 : ∀ k c, k < n → c < 4 → M 67 (4 * k + c) = nI (pt S f k c)) (x : Int32) : ∃ M1, zf_24 (nI b) x M = some M1 ∧ (∀ a, a ≠ 65 → M1 a = M a) ∧ ∀ c, c < 4 → M1 65 c = M 65 c + x * nI (pt S f b c) := by
  unfold zf_24
  rw [show zf_23 (nI b) 0 11 = true from jn_wl (l := 0) (k := 11) (Nat.zero_le _) (show b ≤ 11 by omega) (by decide), jb_yes]
  obtain ⟨M1, h1, h2, h3⟩ := jb_inv (f := zf_24_H13 (nI b) x) (fun n s => ∃ c M', c + n = 4 ∧ s = (nI c, M') ∧ (∀ a, a ≠ 65 → M' a = M a) ∧ (∀ d, c ≤ d → M' 65 d = M 65 d) ∧ ∀ d, d < c → M' 65 d = M 65 d + x * nI (pt S f b d)) (fun M1 => (∀ a, a ≠ 65 → M1 a = M a) ∧ ∀ c, c < 4 → M1 65 c = M 65 c + x * nI (pt S f b c)) (by
    rintro m s ⟨c, M', hm, rfl, h1, h2, h3⟩
    unfold zf_24_H13
    dsimp only
    by_cases e : c < 4
    · refine Or.inl ⟨m - 1, (nI (c + 1), jb_up M' 65 c (M 65 c + x * nI (pt S f b c))), by omega, ?_, c + 1, jb_up M' 65 c (M 65 c + x * nI (pt S f b c)), by omega, rfl, ?_, ?_, ?_⟩
      · rw [if_pos (show nI c < 4 from nI_lt (b := 4) e (by decide)), show nI b * 4 = nI (b * 4) from jn_mulr b 4, nI_add, Nat.mul_comm b 4, jn_gd e (by decide), jn_gd (by omega) (by decide), jn_gd e (by decide), nI_clamp (by omega), nI_clamp (by omega), h1 67 (by decide), h67 b c hb e, h2 c (Nat.le_refl _), nI_1]
      · intro a ha
        rw [jb_up_off ha, h1 a ha]
      · intro d hd
        rw [jb_up_at, if_neg (fun z => by omega)]
        exact h2 d (by omega)
      · intro d hd
        rw [jb_up_at]
        by_cases q : d = c
        · rw [if_pos ⟨rfl, q⟩, q]
        · rw [if_neg (fun z => q z.2)]
          exact h3 d (by omega)
    · have e : c = 4 := by omega
      subst e
      exact Or.inr ⟨M', if_neg (by decide), h1, h3⟩) 4 (nI 0, M) ⟨0, M, by omega, rfl, fun _ _ => rfl, fun _ _ => rfl, fun d hd => by omega⟩
  exact ⟨M1, h1, h2, h3⟩
noncomputable def ebs (b : Nat) : Int32 := if b = 4096 then (-2) else nI b
theorem jc_carried {S : jSt} (hR : jR S) {R : Nat → List Nat} {M : jb_Mi} {f : Nat → Nat} {i n s : Nat} (hi : i < 6) (hf : ∀ k, k < n → f k < 24) (hs : s < 2 ^ n) (h65 : ∀ c, c < 4 → M 65 c = nI (ld S i c) - nI (64 * stt S R i c) - nI (gs S f s c)) : zf_25 M = @decide (brn S R i f s) (Classical.propDecidable _) := by
  have p : ∀ c, c < 4 → ((0 : Int32) < M 65 c) = ¬ (ld S i c ≤ 64 * stt S R i c + gs S f s c) := by
    intro c hc
    have l1 := ld_le hR (c := c) hi
    have l2 := stt_le hR (R := R) (i := i) (c := c)
    have l3 := gs_le hR (c := c) hf hs
    rw [h65 c hc, i3_pos (by omega) (by omega) (by omega)]
    exact propext ⟨fun z => by omega, fun z => by omega⟩
  unfold zf_25
  simp only [p 0 (by decide), p 1 (by decide), p 2 (by decide), p 3 (by decide)]
  by_cases q : brn S R i f s
  · rw [@decide_eq_true _ (Classical.propDecidable _) q, if_neg (fun z => z (q 0 (by decide))), if_neg (fun z => z (q 1 (by decide))), if_neg (fun z => z (q 2 (by decide))), if_neg (fun z => z (q 3 (by decide)))]
  · rw [@decide_eq_false _ (Classical.propDecidable _) q]
    by_cases q0 : ld S i 0 ≤ 64 * stt S R i 0 + gs S f s 0
    · rw [if_neg (fun z => z q0)]
      by_cases q1 : ld S i 1 ≤ 64 * stt S R i 1 + gs S f s 1
      · rw [if_neg (fun z => z q1)]
        by_cases q2 : ld S i 2 ≤ 64 * stt S R i 2 + gs S f s 2
        · rw [if_neg (fun z => z q2)]
          by_cases q3 : ld S i 3 ≤ 64 * stt S R i 3 + gs S f s 3
          · refine absurd (fun c hc => ?_) q
            rcases (show c = 0 ∨ c = 1 ∨ c = 2 ∨ c = 3 by omega) with rfl | rfl | rfl | rfl
            · exact q0
            · exact q1
            · exact q2
            · exact q3
          · rw [if_pos q3]
        · rw [if_pos q2]
      · rw [if_pos q1]
    · rw [if_pos q0]
theorem jc_least2 {S : jSt} (hR : jR S) {R : Nat → List Nat} {M : jb_Mi} {f : Nat → Nat} {i n : Nat} (hi : i < 6) (hn : n ≤ 12) (hf : ∀ k, k < n → f k < 24) (h65 : ∀ c, c < 4 → M 65 c = nI (ld S i c) - nI (64 * stt S R i c)) (h67 : ∀ k c, k < n → c < 4 → M 67 (4 * k + c) = nI (pt S f k c)) : ∃ b M1, jb_lp (zf_29_H37 (nI n)) ((-2), 0, 0, M) = some (ebs b, M1) ∧ (∀ a, a ≠ 65 → M1 a = M a) ∧ bst (brn S R i f) gray n (2 ^ n) b := by
  have h12 := p12 hn
  obtain ⟨x, h1, b, M1, rfl, h2, h3⟩ := jb_inv (f := zf_29_H37 (nI n)) (fun m s => ∃ t b M', t + m = 2 ^ n ∧ s = (ebs b, nI (gray (t - 1)), nI t, M') ∧ (∀ a, a ≠ 65 → M' a = M a) ∧ (∀ c, c < 4 → M' 65 c = nI (ld S i c) - nI (64 * stt S R i c) - nI (gs S f (gray (t - 1)) c)) ∧ bst (brn S R i f) gray n t b) (fun x => ∃ b M1, x = (ebs b, M1) ∧ (∀ a, a ≠ 65 → M1 a = M a) ∧ bst (brn S R i f) gray n (2 ^ n) b) (by
    rintro m s ⟨t, b, M', hm, rfl, h1, h2, h3⟩
    unfold zf_29_H37
    dsimp only
    rw [jn_shl n (by omega)]
    by_cases e : t < 2 ^ n
    · left
      have hgt := gray_lt e
      rw [if_pos (nI_lt e (by omega))]
      -- what comes behind the shift
      have tail : ∀ M2, (∀ a, a ≠ 65 → M2 a = M a) → (∀ c, c < 4 → M2 65 c = nI (ld S i c) - nI (64 * stt S R i c) - nI (gs S f (gray t) c)) → ∃ (m' : Nat) (u : Int32 × Int32 × Int32 × jb_Mi), m' < m ∧ zf_29_J87 (nI n) (ebs b) (nI (gray t)) (nI t) M2 = some (.inl u) ∧ ∃ t b M', t + m' = 2 ^ n ∧ u = (ebs b, nI (gray (t - 1)), nI t, M') ∧ (∀ a, a ≠ 65 → M' a = M a) ∧ (∀ c, c < 4 → M' 65 c = nI (ld S i c) - nI (64 * stt S R i c) - nI (gs S f (gray (t - 1)) c)) ∧ bst (brn S R i f) gray n t b := by
        intro M2 y1 y2
        have cont : ∀ b', bst (brn S R i f) gray n (t + 1) b' → ∃ (m' : Nat) (u : Int32 × Int32 × Int32 × jb_Mi), m' < m ∧ some (Sum.inl (ebs b', nI (gray t), nI (t + 1), M2)) = (some (.inl u) : Option ((Int32 × Int32 × Int32 × jb_Mi) ⊕ (Int32 × jb_Mi))) ∧ ∃ t b M', t + m' = 2 ^ n ∧ u = (ebs b, nI (gray (t - 1)), nI t, M') ∧ (∀ a, a ≠ 65 → M' a = M a) ∧ (∀ c, c < 4 → M' 65 c = nI (ld S i c) - nI (64 * stt S R i c) - nI (gs S f (gray (t - 1)) c)) ∧ bst (brn S R i f) gray n t b := fun b' hb' => ⟨m - 1, _, by omega, rfl, t + 1, b', M2, by omega, rfl, y1, y2, hb'⟩
        unfold zf_29_J87 zf_29_J107 zf_29_J110
        rw [jc_carried hR hi hf hgt y2, nI_1]
        by_cases q : brn S R i f (gray t)
        · rw [@decide_eq_true _ (Classical.propDecidable _) q, jb_yes]
          have en : nI (gray t) = ebs (gray t) := (if_neg (by omega)).symm
          by_cases q2 : b = 4096
          · rw [if_pos (show ebs b < 0 by unfold ebs; rw [if_pos q2]; decide)]
            have := cont (gray t) (bst_new hn h3 q hgt (Or.inl q2))
            rw [← en] at this
            exact this
          · have hb : b < 2 ^ n := by
              rcases h3 with h3 | h3
              · exact absurd h3.1 q2
              · exact h3.1
            have eb : ebs b = nI b := if_neg q2
            rw [eb, if_neg (nI_pos (by omega)), jc_less (by omega) (by omega), ← eb]
            by_cases q3 : pc (gray t) < pc b ∨ (pc (gray t) = pc b ∧ gray t < b)
            · rw [decide_eq_true q3, jb_yes]
              have := cont (gray t) (bst_new hn h3 q hgt (Or.inr (by unfold lle; omega)))
              rw [← en] at this
              exact this
            · rw [decide_eq_false q3, jb_no]
              exact cont b (bst_keep h3 q2 (by unfold lle; omega))
        · rw [@decide_eq_false _ (Classical.propDecidable _) q, jb_no]
          exact cont b (bst_no h3 q)
      by_cases t0 : 0 < t
      · obtain ⟨g1, g2, -⟩ := gray_step t0 (show t < 4096 by omega)
        have g3 := ntz_lt t0 (show t < 4096 by omega) e
        rw [if_pos (show (0 : Int32) < nI t from nI_lt (a := 0) t0 (by omega)), g1, jn_shl _ (by omega), jn_xor, g2]
        simp only [jn_bit0 (show gray t < 2 ^ 31 by omega) (show ntz 12 t < 32 by omega)]
        have hx := gs_xor S f (gray (t - 1)) (b := ntz 12 t)
        rw [g2] at hx
        have hbit : (gray (t - 1)).testBit (ntz 12 t) = !(gray t).testBit (ntz 12 t) := by
          rw [← g2, Nat.testBit_xor, Nat.testBit_two_pow, decide_eq_true rfl, Bool.xor_true, Bool.not_not]
        cases q : (gray t).testBit (ntz 12 t)
        · rw [if_pos rfl]
          rw [q] at hbit
          obtain ⟨M2, z1, z2, z3⟩ := jc_shift (M := M') hn g3 (fun k c hk hc => by rw [h1 67 (by decide)]; exact h67 k c hk hc) 1
          unfold zf_29_J84
          rw [z1, Option.bind_some]
          refine tail M2 (fun a ha => by rw [z2 a ha, h1 a ha]) (fun c hc => ?_)
          have hxc := hx c (by omega)
          unfold gsf at hxc
          rw [q, hbit] at hxc
          rw [z3 c hc, h2 c hc, show gs S f (gray (t - 1)) c = gs S f (gray t) c + pt S f (ntz 12 t) c by simpa using hxc.symm, i3']
        · rw [if_neg (by decide)]
          rw [q] at hbit
          obtain ⟨M2, z1, z2, z3⟩ := jc_shift (M := M') hn g3 (fun k c hk hc => by rw [h1 67 (by decide)]; exact h67 k c hk hc) (-1)
          unfold zf_29_J84
          rw [z1, Option.bind_some]
          refine tail M2 (fun a ha => by rw [z2 a ha, h1 a ha]) (fun c hc => ?_)
          have hxc := hx c (by omega)
          unfold gsf at hxc
          rw [q, hbit] at hxc
          rw [z3 c hc, h2 c hc, i3, show gs S f (gray t) c = gs S f (gray (t - 1)) c + pt S f (ntz 12 t) c by simpa using hxc]
      · have e0 : t = 0 := by omega
        subst e0
        rw [if_neg (by decide)]
        exact tail M' h1 h2
    · have e : t = 2 ^ n := by omega
      subst e
      exact Or.inr ⟨_, if_neg (nI_nlt (Nat.le_refl _) (by omega)), b, M', rfl, h1, h3⟩) (2 ^ n) (ebs 4096, nI (gray 0), nI 0, M) ⟨0, 4096, M, by omega, rfl, fun _ _ => rfl, fun c hc => by
        rw [h65 c hc, show gray (0 - 1) = 0 from rfl, gs_0]
        exact (Int32.sub_zero _).symm, Or.inl ⟨rfl, fun u hu => by omega⟩⟩
  exact ⟨b, M1, h1, h2, h3⟩
