-- X9_houseTold
noncomputable def zf_2 (o : Nat) (x1 : Int32) (M : jb_Mi) : Option (Bool) :=
  if x1 < 0 then some false else if x1 < 6 then jb_gd x1 6 (if 0 < (M (o + 1) x1.toNatClampNeg) then some true else some false) else some false
-- X9_thingTold
noncomputable def zf_3 (o : Nat) (x1 : Int32) (M : jb_Mi) : Option (Bool) :=
  if x1 < 0 then some false else if x1 < 24 then jb_gd x1 24 (if 0 < (M (o + 7) x1.toNatClampNeg) then some true else some false) else some false
-- X9_isIn
noncomputable def zf_4 (o : Nat) (x1 : Int32) (x2 : Int32) (M : jb_Mi) : Option (Bool) :=
  (zf_3 o x1 M).bind fun q1 => if (jb_b2i q1) = 0 then some false else jb_gd x1 24 (if (M (o + 4) x1.toNatClampNeg) = x2 then some true else some false)
-- X9_portion
noncomputable def zf_5_J14 (x1 : Int32) (x2 : Int32) (s0 : Int32) : Int32 :=
  if x2 < 2 then (s0 * (8 - x1)) else (s0 * x1)
noncomputable def zf_5 (x0 : Int32) (x1 : Int32) (x2 : Int32) : Int32 :=
  if (x2 - x2 / 2 * 2) = 0 then zf_5_J14 x1 x2 (8 - x0) else zf_5_J14 x1 x2 x0
-- X9_loadBy
noncomputable def zf_6 (o : Nat) (x1 : Int32) (x2 : Int32) (M : jb_Mi) : Option (Int32) :=
  (zf_3 o x1 M).bind fun q1 => if (jb_b2i q1) = 0 then some 0 else jb_gd x1 24 (jb_gd x1 24 (jb_gd x1 24 (some ((M (o + 7) x1.toNatClampNeg) * (zf_5 (M (o + 5) x1.toNatClampNeg) (M (o + 6) x1.toNatClampNeg) x2)))))
-- X9_loadOf
noncomputable def zf_7_J53 (o : Nat) (x1 : Int32) (x2 : Int32) (x4 : Int32) (s0 : Int32) (s1 : Int32) (M : jb_Mi) : Option ((Int32 × Int32) ⊕ (Int32)) :=
  some (.inl ((s0 + s1), (x4 + 1)))
noncomputable def zf_7_H24 (o : Nat) (x1 : Int32) (x2 : Int32) (M : jb_Mi) (s : Int32 × Int32) : Option ((Int32 × Int32) ⊕ (Int32)) :=
  if s.2 < 24 then (zf_4 o s.2 x1 M).bind fun q3 => if (jb_b2i q3) = 0 then zf_7_J53 o x1 x2 s.2 s.1 0 M else (zf_6 o s.2 x2 M).bind fun q4 => zf_7_J53 o x1 x2 s.2 s.1 q4 M else some (.inr s.1)
noncomputable def zf_7 (o : Nat) (x1 : Int32) (x2 : Int32) (M : jb_Mi) : Option (Int32) :=
  (zf_2 o x1 M).bind fun q1 => if (jb_b2i q1) = 0 then some 0 else jb_gd x1 6 (jb_lp (zf_7_H24 o x1 x2 M) ((640 * (M (o + 1) x1.toNatClampNeg)), 0))
-- X0_weigh
noncomputable def zf_8_H2 (x1 : Int32) (s : Int32 × jb_Mi) : Option ((Int32 × jb_Mi) ⊕ (jb_Mi)) :=
  if s.1 < 4 then (zf_7 4 x1 s.1 s.2).bind fun q1 => jb_gd s.1 4 (some (.inl ((s.1 + 1), (jb_up s.2 65 (s.1).toNatClampNeg q1)))) else some (.inr s.2)
noncomputable def zf_8 (x1 : Int32) (M : jb_Mi) : Option (jb_Mi) :=
  jb_lp (zf_8_H2 x1) (0, M)
-- J9_max_7cf53
noncomputable def zf_271 (x0 : Int32) (x1 : Int32) : Int32 :=
  if x0 < x1 then x1 else x0
-- X0_findBed
noncomputable def zf_9_J104 (x2 : Int32) (x3 : Int32) (x4 : Int32) (M : jb_Mi) : Option ((Int32 × jb_Mi) ⊕ ((Int32 × jb_Mi) ⊕ (jb_Mi))) :=
  some (.inl ((x4 + 1), M))
noncomputable def zf_9_J87 (x2 : Int32) (x3 : Int32) (x4 : Int32) (x5 : Int32) (M : jb_Mi) : Option ((Int32 × jb_Mi) ⊕ ((Int32 × jb_Mi) ⊕ (jb_Mi))) :=
  zf_9_J104 x2 x3 x4 (jb_up (jb_up (jb_up M 64 8 x5) 64 6 x4) 64 7 x3)
noncomputable def zf_9_H34 (x2 : Int32) (x3 : Int32) (x4 : Int32) (M : jb_Mi) (s : Int32 × Int32) : Option ((Int32 × Int32) ⊕ ((Int32 × jb_Mi) ⊕ ((Int32 × jb_Mi) ⊕ (jb_Mi)))) :=
  if s.2 < 4 then jb_gd s.2 4 (some (.inl ((zf_271 s.1 ((M 65 (s.2).toNatClampNeg) + (x2 * (zf_5 x4 x3 s.2)))), (s.2 + 1)))) else if (M 64 8) < 0 then ((zf_9_J87 x2 x3 x4 s.1 M).map .inr) else if s.1 < (M 64 8) then ((zf_9_J87 x2 x3 x4 s.1 M).map .inr) else ((zf_9_J104 x2 x3 x4 M).map .inr)
noncomputable def zf_9_H21 (x2 : Int32) (x3 : Int32) (s : Int32 × jb_Mi) : Option ((Int32 × jb_Mi) ⊕ ((Int32 × jb_Mi) ⊕ (jb_Mi))) :=
  if s.1 < 9 then jb_lp (zf_9_H34 x2 x3 s.1 s.2) (0, 0) else some (.inr (.inl ((x3 + 1), s.2)))
noncomputable def zf_9_H12 (x2 : Int32) (s : Int32 × jb_Mi) : Option ((Int32 × jb_Mi) ⊕ (jb_Mi)) :=
  if s.1 < 9 then jb_lp (zf_9_H21 x2 s.1) (0, s.2) else some (.inr s.2)
noncomputable def zf_9 (x1 : Int32) (x2 : Int32) (M : jb_Mi) : Option (jb_Mi) :=
  (zf_8 x1 M).bind fun q1 => jb_lp (zf_9_H12 x2) (0, (jb_up q1 64 8 (-1)))
-- X0_choose
noncomputable def zf_10_J33 (x1 : Int32) (x2 : Int32) (x3 : Int32) (M : jb_Mi) : Option ((Int32 × Int32 × jb_Mi) ⊕ (jb_Mi)) :=
  some (.inl (x2, (x3 + 1), M))
noncomputable def zf_10_H4 (x1 : Int32) (s : Int32 × Int32 × jb_Mi) : Option ((Int32 × Int32 × jb_Mi) ⊕ (jb_Mi)) :=
  if s.2.1 < 16 then if ((x1 >>> (s.2.1 &&& 31)) &&& 1) = 0 then zf_10_J33 x1 s.1 s.2.1 s.2.2 else if s.1 < 4 then jb_gd s.1 4 (zf_10_J33 x1 (s.1 + 1) s.2.1 (jb_up s.2.2 68 (s.1).toNatClampNeg s.2.1)) else zf_10_J33 x1 s.1 s.2.1 s.2.2 else some (.inr s.2.2)
noncomputable def zf_10 (x1 : Int32) (M : jb_Mi) : Option (jb_Mi) :=
  jb_lp (zf_10_H4 x1) (0, 0, M)
-- X0_tryRow
noncomputable def zf_11_J92 (x1 : Int32) (x2 : Int32) (x3 : Int32) (x4 : Int32) (x5 : Int32) (x6 : Int32) (x7 : Int32) (M : jb_Mi) : Option ((Int32 × Int32 × Int32) ⊕ (jb_Mi)) :=
  some (.inl (x5, x6, (x7 + 1)))
noncomputable def zf_11_J57 (x1 : Int32) (x2 : Int32) (x3 : Int32) (x4 : Int32) (x5 : Int32) (x6 : Int32) (x7 : Int32) (s2 : Int32) (M : jb_Mi) : Option ((Int32 × Int32 × Int32) ⊕ (jb_Mi)) :=
  jb_gd s2 4 (jb_gd (M 68 s2.toNatClampNeg) 16 (jb_gd x7 4 (if (x5 * (M 12 ((M 68 s2.toNatClampNeg)).toNatClampNeg)) < ((M 65 x7.toNatClampNeg) * x6) then jb_gd x7 4 (zf_11_J92 x1 x2 x3 x4 (M 65 x7.toNatClampNeg) (M 12 ((M 68 s2.toNatClampNeg)).toNatClampNeg) x7 M) else zf_11_J92 x1 x2 x3 x4 x5 x6 x7 M)))
noncomputable def zf_11_J122 (x1 : Int32) (x2 : Int32) (x3 : Int32) (x4 : Int32) (x5 : Int32) (x6 : Int32) (M : jb_Mi) : Option (jb_Mi) :=
  jb_gd x1 4 (jb_gd x2 4 (jb_gd x3 4 (jb_gd x4 4 (some (jb_up (jb_up (jb_up (jb_up (jb_up (jb_up M 64 10 x5) 64 11 x6) 69 0 ((jb_up (jb_up M 64 10 x5) 64 11 x6) 68 x1.toNatClampNeg)) 69 1 ((jb_up (jb_up (jb_up M 64 10 x5) 64 11 x6) 69 0 ((jb_up (jb_up M 64 10 x5) 64 11 x6) 68 x1.toNatClampNeg)) 68 x2.toNatClampNeg)) 69 2 ((jb_up (jb_up (jb_up (jb_up M 64 10 x5) 64 11 x6) 69 0 ((jb_up (jb_up M 64 10 x5) 64 11 x6) 68 x1.toNatClampNeg)) 69 1 ((jb_up (jb_up (jb_up M 64 10 x5) 64 11 x6) 69 0 ((jb_up (jb_up M 64 10 x5) 64 11 x6) 68 x1.toNatClampNeg)) 68 x2.toNatClampNeg)) 68 x3.toNatClampNeg)) 69 3 ((jb_up (jb_up (jb_up (jb_up (jb_up M 64 10 x5) 64 11 x6) 69 0 ((jb_up (jb_up M 64 10 x5) 64 11 x6) 68 x1.toNatClampNeg)) 69 1 ((jb_up (jb_up (jb_up M 64 10 x5) 64 11 x6) 69 0 ((jb_up (jb_up M 64 10 x5) 64 11 x6) 68 x1.toNatClampNeg)) 68 x2.toNatClampNeg)) 69 2 ((jb_up (jb_up (jb_up (jb_up M 64 10 x5) 64 11 x6) 69 0 ((jb_up (jb_up M 64 10 x5) 64 11 x6) 68 x1.toNatClampNeg)) 69 1 ((jb_up (jb_up (jb_up M 64 10 x5) 64 11 x6) 69 0 ((jb_up (jb_up M 64 10 x5) 64 11 x6) 68 x1.toNatClampNeg)) 68 x2.toNatClampNeg)) 68 x3.toNatClampNeg)) 68 x4.toNatClampNeg))))))
noncomputable def zf_11_H9 (x1 : Int32) (x2 : Int32) (x3 : Int32) (x4 : Int32) (M : jb_Mi) (s : Int32 × Int32 × Int32) : Option ((Int32 × Int32 × Int32) ⊕ (jb_Mi)) :=
  if s.2.2 < 4 then if s.2.2 = 0 then zf_11_J57 x1 x2 x3 x4 s.1 s.2.1 s.2.2 x1 M else if s.2.2 = 1 then zf_11_J57 x1 x2 x3 x4 s.1 s.2.1 s.2.2 x2 M else if s.2.2 = 2 then zf_11_J57 x1 x2 x3 x4 s.1 s.2.1 s.2.2 x3 M else zf_11_J57 x1 x2 x3 x4 s.1 s.2.1 s.2.2 x4 M else if (M 64 10) < 0 then ((zf_11_J122 x1 x2 x3 x4 s.1 s.2.1 M).map .inr) else if (s.1 * (M 64 11)) < ((M 64 10) * s.2.1) then ((zf_11_J122 x1 x2 x3 x4 s.1 s.2.1 M).map .inr) else some (.inr M)
noncomputable def zf_11 (x1 : Int32) (x2 : Int32) (x3 : Int32) (x4 : Int32) (M : jb_Mi) : Option (jb_Mi) :=
  jb_lp (zf_11_H9 x1 x2 x3 x4 M) (0, 1, 0)
-- X0_findRow
noncomputable def zf_12_J90 (x3 : Int32) (M : jb_Mi) : Option ((Int32 × jb_Mi) ⊕ (jb_Mi)) :=
  some (.inl ((x3 + 1), M))
noncomputable def zf_12_H22 (s : Int32 × jb_Mi) : Option ((Int32 × jb_Mi) ⊕ (jb_Mi)) :=
  if s.1 < 256 then if (((((1 : Int32) <<< ((s.1 >>> ((6 : Int32) &&& 31)) &&& 31)) ||| ((1 : Int32) <<< (((s.1 >>> ((4 : Int32) &&& 31)) &&& 3) &&& 31))) ||| ((1 : Int32) <<< (((s.1 >>> ((2 : Int32) &&& 31)) &&& 3) &&& 31))) ||| ((1 : Int32) <<< ((s.1 &&& 3) &&& 31))) = 15 then (zf_11 (s.1 >>> ((6 : Int32) &&& 31)) ((s.1 >>> ((4 : Int32) &&& 31)) &&& 3) ((s.1 >>> ((2 : Int32) &&& 31)) &&& 3) (s.1 &&& 3) s.2).bind fun q3 => zf_12_J90 s.1 q3 else zf_12_J90 s.1 s.2 else some (.inr s.2)
noncomputable def zf_12 (x1 : Int32) (x2 : Int32) (M : jb_Mi) : Option (jb_Mi) :=
  (zf_8 x1 M).bind fun q1 => (zf_10 x2 q1).bind fun q2 => jb_lp (zf_12_H22) (0, (jb_up (jb_up q2 64 10 (-1)) 64 11 1))
-- X9_thingsIn
noncomputable def zf_13_J25 (o : Nat) (x1 : Int32) (x3 : Int32) (s0 : Int32) (s1 : Int32) (M : jb_Mi) : Option ((Int32 × Int32) ⊕ (Int32)) :=
  some (.inl ((s0 + s1), (x3 + 1)))
noncomputable def zf_13_H4 (o : Nat) (x1 : Int32) (M : jb_Mi) (s : Int32 × Int32) : Option ((Int32 × Int32) ⊕ (Int32)) :=
  if s.2 < 24 then (zf_4 o s.2 x1 M).bind fun q1 => if (jb_b2i q1) = 0 then zf_13_J25 o x1 s.2 s.1 0 M else zf_13_J25 o x1 s.2 s.1 1 M else some (.inr s.1)
noncomputable def zf_13 (o : Nat) (x1 : Int32) (M : jb_Mi) : Option (Int32) :=
  jb_lp (zf_13_H4 o x1 M) (0, 0)
-- X9_time
noncomputable def zf_14 (o : Nat) (M : jb_Mi) : Int32 :=
  (((M o 10) * 24) + (M o 9))
-- X8_hoursOf
noncomputable def zf_15 (x1 : Int32) (M : jb_Mi) : Option (Int32) :=
  if x1 < 0 then some 0 else if x1 < 24 then jb_gd x1 24 (some (M 36 x1.toNatClampNeg)) else some 0
-- J9_floorMod_7cf53
noncomputable def zf_16 (x0 : Int32) (x1 : Int32) : Option (Int32) :=
  jb_g0 x1 (if (x0 ^^^ x1) < 0 then if (x0 - x0 / x1 * x1) = 0 then some (x0 - x0 / x1 * x1) else some ((x0 - x0 / x1 * x1) + x1) else some (x0 - x0 / x1 * x1))
-- X8_named
noncomputable def zf_17 (x1 : Int32) (x2 : Int32) (M : jb_Mi) : Option (Int32) :=
  (zf_15 x1 M).bind fun q1 => if 0 < q1 then (zf_16 x2 q1).bind fun q2 => jb_gd ((x1 * 48) + q2) 1152 (some (M 35 (((x1 * 48) + q2)).toNatClampNeg)) else some (-2)
-- X9_manTold
noncomputable def zf_18 (o : Nat) (x1 : Int32) (M : jb_Mi) : Option (Bool) :=
  if x1 < 0 then some false else if x1 < 16 then jb_gd x1 16 (if 0 < (M (o + 8) x1.toNatClampNeg) then some true else some false) else some false
-- X1_whoHas
noncomputable def zf_19 (x1 : Int32) (x2 : Int32) (M : jb_Mi) : Option (Int32) :=
  (zf_17 x1 x2 M).bind fun q1 => (zf_18 4 q1 M).bind fun q2 => if (jb_b2i q2) = 0 then some (-2) else some q1
-- X0_findExcess
noncomputable def zf_20_J66 (x1 : Int32) (x2 : Int32) (s1 : Int32) (s2 : Int32) (s3 : Int32) (M : jb_Mi) : Option ((Int32 × jb_Mi) ⊕ (jb_Mi)) :=
  jb_gd s1 4 (some (.inl ((x2 + 1), (jb_up M 65 s1.toNatClampNeg (s2 - s3)))))
noncomputable def zf_20_H7 (x1 : Int32) (s : Int32 × jb_Mi) : Option ((Int32 × jb_Mi) ⊕ (jb_Mi)) :=
  if s.1 < 4 then (zf_19 ((x1 * 4) + s.1) (zf_14 4 s.2) s.2).bind fun q2 => jb_gd s.1 4 ((zf_18 4 q2 s.2).bind fun q4 => if (jb_b2i q4) = 0 then zf_20_J66 x1 s.1 s.1 (s.2 65 (s.1).toNatClampNeg) 0 s.2 else jb_gd q2 16 (zf_20_J66 x1 s.1 s.1 (s.2 65 (s.1).toNatClampNeg) (64 * (s.2 12 q2.toNatClampNeg)) s.2)) else some (.inr s.2)
noncomputable def zf_20 (x1 : Int32) (M : jb_Mi) : Option (jb_Mi) :=
  (zf_8 x1 M).bind fun q1 => jb_lp (zf_20_H7 x1) (0, q1)
-- X0_splitThings
noncomputable def zf_21_J67 (x1 : Int32) (x2 : Int32) (x3 : Int32) (M : jb_Mi) : Option ((Int32 × Int32 × jb_Mi) ⊕ (jb_Mi)) :=
  some (.inl (x2, (x3 + 1), M))
noncomputable def zf_21_H31 (x1 : Int32) (x2 : Int32) (x3 : Int32) (s : Int32 × jb_Mi) : Option ((Int32 × jb_Mi) ⊕ ((Int32 × Int32 × jb_Mi) ⊕ (jb_Mi))) :=
  if s.1 < 4 then (zf_6 4 x3 s.1 s.2).bind fun q2 => jb_gd ((x2 * 4) + s.1) 48 (some (.inl ((s.1 + 1), (jb_up s.2 67 (((x2 * 4) + s.1)).toNatClampNeg q2)))) else ((zf_21_J67 x1 (x2 + 1) x3 s.2).map .inr)
noncomputable def zf_21_H4 (x1 : Int32) (s : Int32 × Int32 × jb_Mi) : Option ((Int32 × Int32 × jb_Mi) ⊕ (jb_Mi)) :=
  if s.2.1 < 24 then (zf_4 4 s.2.1 x1 s.2.2).bind fun q1 => if (jb_b2i q1) = 0 then zf_21_J67 x1 s.1 s.2.1 s.2.2 else if s.1 < 12 then jb_lp (zf_21_H31 x1 s.1 s.2.1) (0, s.2.2) else zf_21_J67 x1 s.1 s.2.1 s.2.2 else some (.inr s.2.2)
noncomputable def zf_21 (x1 : Int32) (M : jb_Mi) : Option (jb_Mi) :=
  jb_lp (zf_21_H4 x1) (0, 0, M)
-- J6_numberOfTrailingZeros_0f7a4
noncomputable def zf_22_J74 (x0 : Int32) (x1 : Int32) : Int32 :=
  (x1 + ((x0 : Int32).toUInt32 >>> ((1 : Int32).toUInt32 &&& Int32.toUInt32 31)).toInt32)
noncomputable def zf_22_J62 (x0 : Int32) (x1 : Int32) : Int32 :=
  if 4 < x0 then zf_22_J74 (((x0 : Int32).toUInt32 >>> ((2 : Int32).toUInt32 &&& Int32.toUInt32 31)).toInt32) (x1 + 2) else zf_22_J74 x0 x1
noncomputable def zf_22_J49 (x0 : Int32) (x1 : Int32) : Int32 :=
  if 16 < x0 then zf_22_J62 (((x0 : Int32).toUInt32 >>> ((4 : Int32).toUInt32 &&& Int32.toUInt32 31)).toInt32) (x1 + 4) else zf_22_J62 x0 x1
noncomputable def zf_22_J34 (x0 : Int32) (x1 : Int32) : Int32 :=
  if 256 < x0 then zf_22_J49 (((x0 : Int32).toUInt32 >>> ((8 : Int32).toUInt32 &&& Int32.toUInt32 31)).toInt32) (x1 + 8) else zf_22_J49 x0 x1
noncomputable def zf_22 (x0 : Int32) : Int32 :=
  if 0 < ((x0 ^^^ (-1)) &&& (x0 - 1)) then if 65536 < ((x0 ^^^ (-1)) &&& (x0 - 1)) then zf_22_J34 (((((x0 ^^^ (-1)) &&& (x0 - 1)) : Int32).toUInt32 >>> ((16 : Int32).toUInt32 &&& Int32.toUInt32 31)).toInt32) (1 + 16) else zf_22_J34 ((x0 ^^^ (-1)) &&& (x0 - 1)) 1 else (((x0 ^^^ (-1)) &&& (x0 - 1)) &&& 32)
-- X12_within
noncomputable def zf_23 (x0 : Int32) (x1 : Int32) (x2 : Int32) : Bool :=
  if x0 < x1 then false else if x2 < x0 then false else true
-- X0_shift
noncomputable def zf_24_H13 (x1 : Int32) (x2 : Int32) (s : Int32 × jb_Mi) : Option ((Int32 × jb_Mi) ⊕ (jb_Mi)) :=
  if s.1 < 4 then jb_gd s.1 4 (jb_gd ((x1 * 4) + s.1) 48 (jb_gd s.1 4 (some (.inl ((s.1 + 1), (jb_up s.2 65 (s.1).toNatClampNeg ((s.2 65 (s.1).toNatClampNeg) + (x2 * (s.2 67 (((x1 * 4) + s.1)).toNatClampNeg))))))))) else some (.inr s.2)
noncomputable def zf_24 (x1 : Int32) (x2 : Int32) (M : jb_Mi) : Option (jb_Mi) :=
  if (jb_b2i (zf_23 x1 0 11)) = 0 then some M else jb_lp (zf_24_H13 x1 x2) (0, M)
-- X0_isCarried
noncomputable def zf_25 (M : jb_Mi) : Bool :=
  if 0 < (M 65 0) then false else if 0 < (M 65 1) then false else if 0 < (M 65 2) then false else if 0 < (M 65 3) then false else true
-- J6_bitCount_0f7a4
noncomputable def zf_26 (x0 : Int32) : Int32 :=
  ((((((((x0 - (((x0 : Int32).toUInt32 >>> ((1 : Int32).toUInt32 &&& Int32.toUInt32 31)).toInt32 &&& 1431655765)) &&& 858993459) + ((((x0 - (((x0 : Int32).toUInt32 >>> ((1 : Int32).toUInt32 &&& Int32.toUInt32 31)).toInt32 &&& 1431655765)) : Int32).toUInt32 >>> ((2 : Int32).toUInt32 &&& Int32.toUInt32 31)).toInt32 &&& 858993459)) + (((((x0 - (((x0 : Int32).toUInt32 >>> ((1 : Int32).toUInt32 &&& Int32.toUInt32 31)).toInt32 &&& 1431655765)) &&& 858993459) + ((((x0 - (((x0 : Int32).toUInt32 >>> ((1 : Int32).toUInt32 &&& Int32.toUInt32 31)).toInt32 &&& 1431655765)) : Int32).toUInt32 >>> ((2 : Int32).toUInt32 &&& Int32.toUInt32 31)).toInt32 &&& 858993459)) : Int32).toUInt32 >>> ((4 : Int32).toUInt32 &&& Int32.toUInt32 31)).toInt32) &&& 252645135) + (((((((x0 - (((x0 : Int32).toUInt32 >>> ((1 : Int32).toUInt32 &&& Int32.toUInt32 31)).toInt32 &&& 1431655765)) &&& 858993459) + ((((x0 - (((x0 : Int32).toUInt32 >>> ((1 : Int32).toUInt32 &&& Int32.toUInt32 31)).toInt32 &&& 1431655765)) : Int32).toUInt32 >>> ((2 : Int32).toUInt32 &&& Int32.toUInt32 31)).toInt32 &&& 858993459)) + (((((x0 - (((x0 : Int32).toUInt32 >>> ((1 : Int32).toUInt32 &&& Int32.toUInt32 31)).toInt32 &&& 1431655765)) &&& 858993459) + ((((x0 - (((x0 : Int32).toUInt32 >>> ((1 : Int32).toUInt32 &&& Int32.toUInt32 31)).toInt32 &&& 1431655765)) : Int32).toUInt32 >>> ((2 : Int32).toUInt32 &&& Int32.toUInt32 31)).toInt32 &&& 858993459)) : Int32).toUInt32 >>> ((4 : Int32).toUInt32 &&& Int32.toUInt32 31)).toInt32) &&& 252645135) : Int32).toUInt32 >>> ((8 : Int32).toUInt32 &&& Int32.toUInt32 31)).toInt32) + ((((((((x0 - (((x0 : Int32).toUInt32 >>> ((1 : Int32).toUInt32 &&& Int32.toUInt32 31)).toInt32 &&& 1431655765)) &&& 858993459) + ((((x0 - (((x0 : Int32).toUInt32 >>> ((1 : Int32).toUInt32 &&& Int32.toUInt32 31)).toInt32 &&& 1431655765)) : Int32).toUInt32 >>> ((2 : Int32).toUInt32 &&& Int32.toUInt32 31)).toInt32 &&& 858993459)) + (((((x0 - (((x0 : Int32).toUInt32 >>> ((1 : Int32).toUInt32 &&& Int32.toUInt32 31)).toInt32 &&& 1431655765)) &&& 858993459) + ((((x0 - (((x0 : Int32).toUInt32 >>> ((1 : Int32).toUInt32 &&& Int32.toUInt32 31)).toInt32 &&& 1431655765)) : Int32).toUInt32 >>> ((2 : Int32).toUInt32 &&& Int32.toUInt32 31)).toInt32 &&& 858993459)) : Int32).toUInt32 >>> ((4 : Int32).toUInt32 &&& Int32.toUInt32 31)).toInt32) &&& 252645135) + (((((((x0 - (((x0 : Int32).toUInt32 >>> ((1 : Int32).toUInt32 &&& Int32.toUInt32 31)).toInt32 &&& 1431655765)) &&& 858993459) + ((((x0 - (((x0 : Int32).toUInt32 >>> ((1 : Int32).toUInt32 &&& Int32.toUInt32 31)).toInt32 &&& 1431655765)) : Int32).toUInt32 >>> ((2 : Int32).toUInt32 &&& Int32.toUInt32 31)).toInt32 &&& 858993459)) + (((((x0 - (((x0 : Int32).toUInt32 >>> ((1 : Int32).toUInt32 &&& Int32.toUInt32 31)).toInt32 &&& 1431655765)) &&& 858993459) + ((((x0 - (((x0 : Int32).toUInt32 >>> ((1 : Int32).toUInt32 &&& Int32.toUInt32 31)).toInt32 &&& 1431655765)) : Int32).toUInt32 >>> ((2 : Int32).toUInt32 &&& Int32.toUInt32 31)).toInt32 &&& 858993459)) : Int32).toUInt32 >>> ((4 : Int32).toUInt32 &&& Int32.toUInt32 31)).toInt32) &&& 252645135) : Int32).toUInt32 >>> ((8 : Int32).toUInt32 &&& Int32.toUInt32 31)).toInt32) : Int32).toUInt32 >>> ((16 : Int32).toUInt32 &&& Int32.toUInt32 31)).toInt32) &&& 63)
-- J6_compare_7cf53
noncomputable def zf_27 (x0 : Int32) (x1 : Int32) : Int32 :=
  if x0 < x1 then (-1) else if x0 = x1 then 0 else 1
-- X0_isLess
noncomputable def zf_28_J25 : Bool :=
  true
noncomputable def zf_28 (x0 : Int32) (x1 : Int32) : Bool :=
  if (zf_27 (zf_26 x0) (zf_26 x1)) < 0 then zf_28_J25 else if (zf_27 (zf_26 x0) (zf_26 x1)) = 0 then if x0 < x1 then zf_28_J25 else false else false
-- X0_leastToGo
noncomputable def zf_29_J110 (x2 : Int32) (x3 : Int32) (x4 : Int32) (x5 : Int32) (M : jb_Mi) : Option ((Int32 × Int32 × Int32 × jb_Mi) ⊕ (Int32 × jb_Mi)) :=
  some (.inl (x3, x4, (x5 + 1), M))
noncomputable def zf_29_J107 (x2 : Int32) (x4 : Int32) (x5 : Int32) (M : jb_Mi) : Option ((Int32 × Int32 × Int32 × jb_Mi) ⊕ (Int32 × jb_Mi)) :=
  zf_29_J110 x2 x4 x4 x5 M
noncomputable def zf_29_J87 (x2 : Int32) (x3 : Int32) (x4 : Int32) (x5 : Int32) (M : jb_Mi) : Option ((Int32 × Int32 × Int32 × jb_Mi) ⊕ (Int32 × jb_Mi)) :=
  if (jb_b2i (zf_25 M)) = 0 then zf_29_J110 x2 x3 x4 x5 M else if x3 < 0 then zf_29_J107 x2 x4 x5 M else if (jb_b2i (zf_28 x4 x3)) = 0 then zf_29_J110 x2 x3 x4 x5 M else zf_29_J107 x2 x4 x5 M
noncomputable def zf_29_J84 (x2 : Int32) (x3 : Int32) (x4 : Int32) (x5 : Int32) (s1 : Int32) (s2 : Int32) (M : jb_Mi) : Option ((Int32 × Int32 × Int32 × jb_Mi) ⊕ (Int32 × jb_Mi)) :=
  (zf_24 s1 s2 M).bind fun q4 => zf_29_J87 x2 x3 x4 x5 q4
noncomputable def zf_29_H37 (x2 : Int32) (s : Int32 × Int32 × Int32 × jb_Mi) : Option ((Int32 × Int32 × Int32 × jb_Mi) ⊕ (Int32 × jb_Mi)) :=
  if s.2.2.1 < ((1 : Int32) <<< (x2 &&& 31)) then if 0 < s.2.2.1 then if (((s.2.1 ^^^ ((1 : Int32) <<< ((zf_22 s.2.2.1) &&& 31))) >>> ((zf_22 s.2.2.1) &&& 31)) &&& 1) = 0 then zf_29_J84 x2 s.1 (s.2.1 ^^^ ((1 : Int32) <<< ((zf_22 s.2.2.1) &&& 31))) s.2.2.1 (zf_22 s.2.2.1) 1 s.2.2.2 else zf_29_J84 x2 s.1 (s.2.1 ^^^ ((1 : Int32) <<< ((zf_22 s.2.2.1) &&& 31))) s.2.2.1 (zf_22 s.2.2.1) (-1) s.2.2.2 else zf_29_J87 x2 s.1 s.2.1 s.2.2.1 s.2.2.2 else some (.inr (s.1, s.2.2.2))
noncomputable def zf_29 (x1 : Int32) (M : jb_Mi) : Option (Int32 × jb_Mi) :=
  (zf_13 4 x1 M).bind fun q1 => if 12 < q1 then some ((-3), M) else (zf_20 x1 M).bind fun q2 => (zf_21 x1 q2).bind fun q3 => jb_lp (zf_29_H37 q1) ((-2), 0, 0, q3)
-- X10_byteAt
noncomputable def zf_30 (x1 : Int32) (M : jb_Mi) : Option (Int32) :=
  if x1 < 0 then some (-1) else if x1 < (M 2 1) then jb_gd x1 260 (some (M 3 x1.toNatClampNeg)) else some (-1)
-- X10_wordAt
noncomputable def zf_31 (x1 : Int32) (M : jb_Mi) : Option (Int32) :=
  (zf_30 x1 M).bind fun q1 => (zf_30 (x1 + 1) M).bind fun q2 => (zf_30 (x1 + 2) M).bind fun q3 => (zf_30 (x1 + 3) M).bind fun q4 => some ((((q1 <<< ((24 : Int32) &&& 31)) ||| (q2 <<< ((16 : Int32) &&& 31))) ||| (q3 <<< ((8 : Int32) &&& 31))) ||| q4)
-- X0_feel
noncomputable def zf_32_H7 (M : jb_Mi) (s : Int32 × jb_Ml) : Option ((Int32 × jb_Ml) ⊕ (jb_Mi × jb_Ml)) :=
  if s.1 < 4 then (zf_31 (4 * s.1) M).bind fun q2 => jb_gd s.1 4 (jb_gd s.1 4 (some (.inl ((s.1 + 1), (jb_ul s.2 66 (s.1).toNatClampNeg ((q2 : Int32).toInt64 - ((M 65 (s.1).toNatClampNeg) : Int32).toInt64)))))) else some (.inr (M, s.2))
noncomputable def zf_32 (x1 : Int32) (M : jb_Mi) (N : jb_Ml) : Option (jb_Mi × jb_Ml) :=
  (zf_8 x1 M).bind fun q1 => jb_lp (zf_32_H7 q1) (0, N)
-- X0_spotOf
noncomputable def zf_33_H86 (x1 : Int32) (y4 : Int64) (y6 : Int64) (N : jb_Ml) (s : Int32) : Option ((Int32) ⊕ (Int32)) :=
  if s < 4 then jb_gd s 4 (if (lg_cmp (N 66 s.toNatClampNeg) ((x1 : Int32).toInt64 * ((zf_5 (y4 : Int64).toInt32 (y6 : Int64).toInt32 s) : Int32).toInt64)) = 0 then some (.inl (s + 1)) else some (.inr (-1))) else some (.inr (((y6 : Int64).toInt32 * 9) + (y4 : Int64).toInt32))
noncomputable def zf_33 (x1 : Int32) (N : jb_Ml) : Option (Int32) :=
  if 0 < (lg_cmp (8 * (x1 : Int32).toInt64) 0) then jb_g0l (8 * (x1 : Int32).toInt64) (jb_g0l (8 * (x1 : Int32).toInt64) (if (lg_cmp (((N 66 1) + (N 66 3)) / (8 * (x1 : Int32).toInt64)) 0) < 0 then some (-1) else if 0 < (lg_cmp (((N 66 1) + (N 66 3)) / (8 * (x1 : Int32).toInt64)) 8) then some (-1) else if (lg_cmp (((N 66 2) + (N 66 3)) / (8 * (x1 : Int32).toInt64)) 0) < 0 then some (-1) else if 0 < (lg_cmp (((N 66 2) + (N 66 3)) / (8 * (x1 : Int32).toInt64)) 8) then some (-1) else jb_lp (zf_33_H86 x1 (((N 66 1) + (N 66 3)) / (8 * (x1 : Int32).toInt64)) (((N 66 2) + (N 66 3)) / (8 * (x1 : Int32).toInt64)) N) 0)) else some (-1)
-- X0_explain
noncomputable def zf_34_H2 (x1 : Int32) (x2 : Int32) (s : Int32 × jb_Ml) : Option ((Int32 × jb_Ml) ⊕ (jb_Ml)) :=
  if s.1 < 4 then jb_gd s.1 4 (jb_gd s.1 4 (some (.inl ((s.1 + 1), (jb_ul s.2 66 (s.1).toNatClampNeg ((s.2 66 (s.1).toNatClampNeg) + ((x2 : Int32).toInt64 * ((zf_5 (x1 - x1 / 9 * 9) (x1 / 9) s.1) : Int32).toInt64))))))) else some (.inr s.2)
noncomputable def zf_34 (x1 : Int32) (x2 : Int32) (N : jb_Ml) : Option (jb_Ml) :=
  jb_lp (zf_34_H2 x1 x2) (0, N)
-- X0_waysOfTwo
noncomputable def zf_35_J56 (x1 : Int32) (x2 : Int32) (x3 : Int32) (x4 : Int32) (M : jb_Mi) (N : jb_Ml) : Option ((Int32 × Int32 × jb_Mi × jb_Ml) ⊕ (Int32 × jb_Mi × jb_Ml)) :=
  (zf_34 x4 x1 N).bind fun q3 => some (.inl (x3, (x4 + 1), M, q3))
noncomputable def zf_35_J53 (x1 : Int32) (x2 : Int32) (x3 : Int32) (x4 : Int32) (s1 : Int32) (M : jb_Mi) (N : jb_Ml) : Option ((Int32 × Int32 × jb_Mi × jb_Ml) ⊕ (Int32 × jb_Mi × jb_Ml)) :=
  zf_35_J56 x1 x2 x3 x4 (jb_up M 64 12 s1) N
noncomputable def zf_35_H10 (x1 : Int32) (x2 : Int32) (s : Int32 × Int32 × jb_Mi × jb_Ml) : Option ((Int32 × Int32 × jb_Mi × jb_Ml) ⊕ (Int32 × jb_Mi × jb_Ml)) :=
  if s.2.1 < 81 then (zf_34 s.2.1 (-x1) s.2.2.2).bind fun q1 => (zf_33 x2 q1).bind fun q2 => if q2 < 0 then zf_35_J56 x1 x2 s.1 s.2.1 s.2.2.1 q1 else if (s.2.2.1 64 12) < 0 then zf_35_J53 x1 x2 (s.1 + 1) s.2.1 s.2.1 s.2.2.1 q1 else zf_35_J53 x1 x2 (s.1 + 1) s.2.1 (s.2.2.1 64 12) s.2.2.1 q1 else some (.inr (s.1, s.2.2.1, s.2.2.2))
noncomputable def zf_35 (x1 : Int32) (x2 : Int32) (M : jb_Mi) (N : jb_Ml) : Option (Int32 × jb_Mi × jb_Ml) :=
  jb_lp (zf_35_H10 x1 x2) (0, 0, (jb_up M 64 12 (-1)), N)
-- X9_isUp
noncomputable def zf_37 (o : Nat) (x1 : Int32) (M : jb_Mi) : Option (Bool) :=
  if x1 < 0 then some false else if x1 < 6 then jb_gd x1 6 (if 0 < (M (o + 1) x1.toNatClampNeg) then jb_gd x1 6 (if (M (o + 3) x1.toNatClampNeg) < 9 then some true else some false) else some false) else some false
-- X1_nextCorner
noncomputable def zf_38_J38 (x1 : Int32) (x2 : Int32) (x4 : Int32) (M : jb_Mi) : Option ((Int32) ⊕ (Int32)) :=
  some (.inl (x4 + 1))
noncomputable def zf_38_H3 (x1 : Int32) (x2 : Int32) (M : jb_Mi) (s : Int32) : Option ((Int32) ⊕ (Int32)) :=
  if s < 24 then (zf_37 4 (s / 4) M).bind fun q1 => if (jb_b2i q1) = 0 then zf_38_J38 x1 x2 s M else (zf_19 s x2 M).bind fun q2 => if q2 = x1 then some (.inr s) else zf_38_J38 x1 x2 s M else some (.inr (-2))
noncomputable def zf_38 (x1 : Int32) (x2 : Int32) (x3 : Int32) (M : jb_Mi) : Option (Int32) :=
  jb_lp (zf_38_H3 x1 x2 M) x3
-- X1_whereIs
noncomputable def zf_39 (x1 : Int32) (x2 : Int32) (M : jb_Mi) : Option (Int32) :=
  (zf_38 x1 x2 0 M).bind fun q1 => some q1
-- X1_hoursTwice
noncomputable def zf_40_J55 (x1 : Int32) (x3 : Int32) (s0 : Int32) (s1 : Int32) (M : jb_Mi) : Option ((Int32 × Int32) ⊕ (Int32)) :=
  some (.inl ((s0 + s1), (x3 + 1)))
noncomputable def zf_40_J54 (x1 : Int32) (x3 : Int32) (s0 : Int32) (M : jb_Mi) : Option ((Int32 × Int32) ⊕ (Int32)) :=
  zf_40_J55 x1 x3 s0 0 M
noncomputable def zf_40_H4 (x1 : Int32) (M : jb_Mi) (s : Int32 × Int32) : Option ((Int32 × Int32) ⊕ (Int32)) :=
  if s.2 < 24 then (zf_39 x1 ((zf_14 4 M) + s.2) M).bind fun q1 => if q1 < 0 then zf_40_J54 x1 s.2 s.1 M else (zf_38 x1 ((zf_14 4 M) + s.2) (q1 + 1) M).bind fun q2 => if q2 < 0 then zf_40_J54 x1 s.2 s.1 M else zf_40_J55 x1 s.2 s.1 1 M else some (.inr s.1)
noncomputable def zf_40 (x1 : Int32) (M : jb_Mi) : Option (Int32) :=
  jb_lp (zf_40_H4 x1 M) (0, 0)
-- X1_pence
noncomputable def zf_41_J48 (x1 : Int32) (x3 : Int32) (s0 : Int32) (s1 : Int32) (M : jb_Mi) : Option ((Int32 × Int32) ⊕ (Int32)) :=
  some (.inl ((s0 + s1), (x3 + 1)))
noncomputable def zf_41_H4 (x1 : Int32) (M : jb_Mi) (s : Int32 × Int32) : Option ((Int32 × Int32) ⊕ (Int32)) :=
  if s.2 < 24 then (zf_39 x1 ((zf_14 4 M) + s.2) M).bind fun q1 => if q1 < 0 then zf_41_J48 x1 s.2 s.1 0 M else jb_gd (q1 / 4) 6 (zf_41_J48 x1 s.2 s.1 (M 5 ((q1 / 4)).toNatClampNeg) M) else some (.inr s.1)
noncomputable def zf_41 (x1 : Int32) (M : jb_Mi) : Option (Int32) :=
  jb_lp (zf_41_H4 x1 M) (0, 0)
-- X1_changes
noncomputable def zf_42_J46 (x1 : Int32) (x3 : Int32) (s0 : Int32) (s1 : Int32) (M : jb_Mi) : Option ((Int32 × Int32) ⊕ (Int32)) :=
  some (.inl ((s0 + s1), (x3 + 1)))
noncomputable def zf_42_H4 (x1 : Int32) (M : jb_Mi) (s : Int32 × Int32) : Option ((Int32 × Int32) ⊕ (Int32)) :=
  if s.2 < 24 then (zf_19 x1 ((zf_14 4 M) + s.2) M).bind fun q1 => (zf_19 x1 (((zf_14 4 M) + s.2) - 1) M).bind fun q2 => if q1 = q2 then zf_42_J46 x1 s.2 s.1 0 M else zf_42_J46 x1 s.2 s.1 1 M else some (.inr s.1)
noncomputable def zf_42 (x1 : Int32) (M : jb_Mi) : Option (Int32) :=
  jb_lp (zf_42_H4 x1 M) (0, 1)
-- X1_emptyHours
noncomputable def zf_43_J33 (x1 : Int32) (x3 : Int32) (s0 : Int32) (s1 : Int32) (M : jb_Mi) : Option ((Int32 × Int32) ⊕ (Int32)) :=
  some (.inl ((s0 + s1), (x3 + 1)))
noncomputable def zf_43_H4 (x1 : Int32) (M : jb_Mi) (s : Int32 × Int32) : Option ((Int32 × Int32) ⊕ (Int32)) :=
  if s.2 < 24 then (zf_19 x1 ((zf_14 4 M) + s.2) M).bind fun q1 => if q1 < 0 then zf_43_J33 x1 s.2 s.1 1 M else zf_43_J33 x1 s.2 s.1 0 M else some (.inr s.1)
noncomputable def zf_43 (x1 : Int32) (M : jb_Mi) : Option (Int32) :=
  jb_lp (zf_43_H4 x1 M) (0, 0)
-- X1_longestOnEnd
noncomputable def zf_44_J58 (x1 : Int32) (x2 : Int32) (x5 : Int32) (x6 : Int32) (s0 : Int32) (M : jb_Mi) : Option ((Int32 × Int32 × Int32 × Int32) ⊕ (Int32)) :=
  some (.inl ((zf_271 x2 s0), s0, x6, (x5 + 1)))
noncomputable def zf_44_H11 (x1 : Int32) (M : jb_Mi) (s : Int32 × Int32 × Int32 × Int32) : Option ((Int32 × Int32 × Int32 × Int32) ⊕ (Int32)) :=
  if s.2.2.2 < 24 then (zf_19 x1 ((zf_14 4 M) + s.2.2.2) M).bind fun q1 => if q1 < 0 then zf_44_J58 x1 s.1 s.2.2.2 q1 0 M else if q1 = s.2.2.1 then zf_44_J58 x1 s.1 s.2.2.2 q1 (s.2.1 + 1) M else zf_44_J58 x1 s.1 s.2.2.2 q1 1 M else some (.inr s.1)
noncomputable def zf_44 (x1 : Int32) (M : jb_Mi) : Option (Int32) :=
  jb_lp (zf_44_H11 x1 M) (0, 0, (-2), 0)
-- J7_fill_53178
noncomputable def zf_45_H5 (x1 : Int32) (x3 : Int32) (s : Int32 × jb_Mi) : Option ((Int32 × jb_Mi) ⊕ (jb_Mi)) :=
  if s.1 < x3 then jb_gd s.1 16 (some (.inl ((s.1 + 1), (jb_up s.2 42 (s.1).toNatClampNeg x1)))) else some (.inr s.2)
noncomputable def zf_45 (x1 : Int32) (M : jb_Mi) : Option (jb_Mi) :=
  jb_lp (zf_45_H5 x1 (Int32.ofNat 16)) (0, M)
-- X1_countHeld
noncomputable def zf_46_J92 (x1 : Int32) (x2 : Int32) (x3 : Int32) (M : jb_Mi) : Option ((Int32 × Int32 × jb_Mi) ⊕ ((Int32 × jb_Mi) ⊕ (jb_Mi))) :=
  some (.inl (x2, (x3 + 1), M))
noncomputable def zf_46_J58 (x1 : Int32) (x2 : Int32) (x3 : Int32) (s0 : Int32) (M : jb_Mi) : Option ((Int32 × Int32 × jb_Mi) ⊕ ((Int32 × jb_Mi) ⊕ (jb_Mi))) :=
  if s0 < 0 then zf_46_J92 x1 x2 x3 M else if ((x2 >>> (s0 &&& 31)) &&& 1) = 0 then jb_gd s0 16 (jb_gd s0 16 (zf_46_J92 x1 (x2 ||| ((1 : Int32) <<< (s0 &&& 31))) x3 (jb_up M 42 s0.toNatClampNeg ((M 42 s0.toNatClampNeg) + 1)))) else zf_46_J92 x1 x2 x3 M
noncomputable def zf_46_H20 (x1 : Int32) (s : Int32 × Int32 × jb_Mi) : Option ((Int32 × Int32 × jb_Mi) ⊕ ((Int32 × jb_Mi) ⊕ (jb_Mi))) :=
  if s.2.1 < 24 then (zf_37 4 (s.2.1 / 4) s.2.2).bind fun q2 => if (jb_b2i q2) = 0 then zf_46_J58 x1 s.1 s.2.1 (-2) s.2.2 else (zf_19 s.2.1 ((zf_14 4 s.2.2) + x1) s.2.2).bind fun q5 => zf_46_J58 x1 s.1 s.2.1 q5 s.2.2 else some (.inr (.inl ((x1 + 1), s.2.2)))
noncomputable def zf_46_H10 (s : Int32 × jb_Mi) : Option ((Int32 × jb_Mi) ⊕ (jb_Mi)) :=
  if s.1 < 24 then jb_lp (zf_46_H20 s.1) (0, 0, s.2) else some (.inr s.2)
noncomputable def zf_46 (M : jb_Mi) : Option (jb_Mi) :=
  (zf_45 0 M).bind fun q1 => jb_lp (zf_46_H10) (0, q1)
-- X1_findStrikers
noncomputable def zf_47_J92 (x1 : Int32) (x2 : Int32) (x3 : Int32) (x4 : Int32) (M : jb_Mi) : Option ((Int32 × Int32) ⊕ ((Int32 × jb_Mi) ⊕ (jb_Mi))) :=
  some (.inl (x3, (x4 + 1)))
noncomputable def zf_47_J89 (x1 : Int32) (x2 : Int32) (x4 : Int32) (M : jb_Mi) : Option ((Int32 × Int32) ⊕ ((Int32 × jb_Mi) ⊕ (jb_Mi))) :=
  zf_47_J92 x1 x2 x4 x4 M
noncomputable def zf_47_J62 (x1 : Int32) (x2 : Int32) (x3 : Int32) (x4 : Int32) (s0 : Int32) (M : jb_Mi) : Option ((Int32 × Int32) ⊕ ((Int32 × jb_Mi) ⊕ (jb_Mi))) :=
  if s0 = 0 then zf_47_J92 x1 x2 x3 x4 M else if x3 < 0 then zf_47_J89 x1 x2 x4 M else jb_gd x4 16 (jb_gd x3 16 (if (M 42 x3.toNatClampNeg) < (M 42 x4.toNatClampNeg) then zf_47_J89 x1 x2 x4 M else zf_47_J92 x1 x2 x3 x4 M))
noncomputable def zf_47_J61 (x1 : Int32) (x2 : Int32) (x3 : Int32) (x4 : Int32) (M : jb_Mi) : Option ((Int32 × Int32) ⊕ ((Int32 × jb_Mi) ⊕ (jb_Mi))) :=
  zf_47_J62 x1 x2 x3 x4 0 M
noncomputable def zf_47_J129 (x1 : Int32) (x2 : Int32) (M : jb_Mi) : Option ((Int32 × jb_Mi) ⊕ (jb_Mi)) :=
  some (.inl ((x2 + 1), M))
noncomputable def zf_47_H26 (x1 : Int32) (x2 : Int32) (M : jb_Mi) (s : Int32 × Int32) : Option ((Int32 × Int32) ⊕ ((Int32 × jb_Mi) ⊕ (jb_Mi))) :=
  if s.2 < 16 then (zf_18 4 s.2 M).bind fun q2 => if (jb_b2i q2) = 0 then zf_47_J61 x1 x2 s.1 s.2 M else if (((M 41 4) >>> (s.2 &&& 31)) &&& 1) = 0 then zf_47_J62 x1 x2 s.1 s.2 1 M else zf_47_J61 x1 x2 s.1 s.2 M else if s.1 < 0 then ((zf_47_J129 x1 x2 M).map .inr) else jb_gd s.1 16 (((zf_47_J129 x1 x2 (jb_up (jb_up M 41 4 ((M 41 4) ||| ((1 : Int32) <<< (s.1 &&& 31)))) 41 3 (((jb_up M 41 4 ((M 41 4) ||| ((1 : Int32) <<< (s.1 &&& 31)))) 41 3) + ((jb_up M 41 4 ((M 41 4) ||| ((1 : Int32) <<< (s.1 &&& 31)))) 42 (s.1).toNatClampNeg)))).map .inr))
noncomputable def zf_47_H16 (x1 : Int32) (s : Int32 × jb_Mi) : Option ((Int32 × jb_Mi) ⊕ (jb_Mi)) :=
  if s.1 < x1 then jb_lp (zf_47_H26 x1 s.1 s.2) ((-1), 0) else some (.inr s.2)
noncomputable def zf_47 (x1 : Int32) (M : jb_Mi) : Option (jb_Mi) :=
  (zf_46 M).bind fun q1 => jb_lp (zf_47_H16 x1) (0, (jb_up (jb_up q1 41 3 0) 41 4 0))
-- X2_reachedBy
noncomputable def zf_49_J88 (x1 : Int32) (x2 : Int32) (x3 : Int32) (x4 : Int32) (M : jb_Mi) : Option ((Int32 × Int32) ⊕ (Int32)) :=
  some (.inl (x3, (x4 + 1)))
noncomputable def zf_49_J46 (x1 : Int32) (x2 : Int32) (x3 : Int32) (x4 : Int32) (s0 : Int32) (M : jb_Mi) : Option ((Int32 × Int32) ⊕ (Int32)) :=
  (zf_37 4 x4 M).bind fun q3 => if (jb_b2i q3) = 0 then zf_49_J88 x1 x2 x3 x4 M else if 0 < s0 then jb_gd x1 6 (if (3 * (M 5 x1.toNatClampNeg)) < s0 then zf_49_J88 x1 x2 x3 x4 M else zf_49_J88 x1 x2 (x3 ||| ((1 : Int32) <<< (x4 &&& 31))) x4 M) else zf_49_J88 x1 x2 x3 x4 M
noncomputable def zf_49_H5 (x1 : Int32) (x2 : Int32) (M : jb_Mi) (s : Int32 × Int32) : Option ((Int32 × Int32) ⊕ (Int32)) :=
  if s.2 < 6 then jb_gd s.2 6 (jb_gd x1 6 (if x2 = 0 then zf_49_J46 x1 x2 s.1 s.2 (-((M 6 (s.2).toNatClampNeg) - (M 6 x1.toNatClampNeg))) M else zf_49_J46 x1 x2 s.1 s.2 ((M 6 (s.2).toNatClampNeg) - (M 6 x1.toNatClampNeg)) M)) else some (.inr s.1)
noncomputable def zf_49 (x1 : Int32) (x2 : Int32) (M : jb_Mi) : Option (Int32) :=
  jb_lp (zf_49_H5 x1 x2 M) (0, 0)
-- X2_knockedBy
noncomputable def zf_50_J43 (x2 : Int32) (x3 : Int32) (x4 : Int32) (x5 : Int32) (M : jb_Mi) : Option ((Int32 × Int32) ⊕ ((Int32 × Int32) ⊕ (Int32))) :=
  some (.inl (x3, (x5 + 1)))
noncomputable def zf_50_H17 (x2 : Int32) (x4 : Int32) (M : jb_Mi) (s : Int32 × Int32) : Option ((Int32 × Int32) ⊕ ((Int32 × Int32) ⊕ (Int32))) :=
  if s.2 < 6 then if ((s.1 >>> (s.2 &&& 31)) &&& 1) = 0 then zf_50_J43 x2 s.1 x4 s.2 M else (zf_49 s.2 x2 M).bind fun q1 => zf_50_J43 x2 (s.1 ||| q1) x4 s.2 M else some (.inr (.inl (s.1, (x4 + 1))))
noncomputable def zf_50_H7 (x2 : Int32) (M : jb_Mi) (s : Int32 × Int32) : Option ((Int32 × Int32) ⊕ (Int32)) :=
  if s.2 < 6 then jb_lp (zf_50_H17 x2 s.2 M) (s.1, 0) else some (.inr s.1)
noncomputable def zf_50 (x1 : Int32) (x2 : Int32) (M : jb_Mi) : Option (Int32) :=
  jb_lp (zf_50_H7 x2 M) (((1 : Int32) <<< (x1 &&& 31)), 0)
-- X9_upBits
noncomputable def zf_51_J26 (o : Nat) (x2 : Int32) (s0 : Int32) (s1 : Int32) (M : jb_Mi) : Option ((Int32 × Int32) ⊕ (Int32)) :=
  some (.inl ((s0 ||| s1), (x2 + 1)))
noncomputable def zf_51_H4 (o : Nat) (M : jb_Mi) (s : Int32 × Int32) : Option ((Int32 × Int32) ⊕ (Int32)) :=
  if s.2 < 6 then (zf_37 o s.2 M).bind fun q1 => if (jb_b2i q1) = 0 then zf_51_J26 o s.2 s.1 0 M else zf_51_J26 o s.2 s.1 ((1 : Int32) <<< (s.2 &&& 31)) M else some (.inr s.1)
noncomputable def zf_51 (o : Nat) (M : jb_Mi) : Option (Int32) :=
  jb_lp (zf_51_H4 o M) (0, 0)
-- X2_felledBy
noncomputable def zf_52_J50 (x1 : Int32) (x2 : Int32) (x3 : Int32) (x4 : Int32) (M : jb_Mi) : Option ((Int32 × Int32) ⊕ (Int32)) :=
  some (.inl (x3, (x4 + 1)))
noncomputable def zf_52_J48 (x1 : Int32) (x2 : Int32) (x4 : Int32) (s0 : Int32) (s1 : Int32) (M : jb_Mi) : Option ((Int32 × Int32) ⊕ (Int32)) :=
  zf_52_J50 x1 x2 (s0 ||| s1) x4 M
noncomputable def zf_52_H5 (x1 : Int32) (x2 : Int32) (M : jb_Mi) (s : Int32 × Int32) : Option ((Int32 × Int32) ⊕ (Int32)) :=
  if s.2 < 6 then if ((x1 >>> (s.2 &&& 31)) &&& 1) = 0 then zf_52_J50 x1 x2 s.1 s.2 M else if ((x2 >>> (s.2 &&& 31)) &&& 1) = 0 then jb_gd s.2 6 (zf_52_J48 x1 x2 s.2 s.1 (M 72 (s.2).toNatClampNeg) M) else jb_gd s.2 6 (zf_52_J48 x1 x2 s.2 s.1 (M 71 (s.2).toNatClampNeg) M) else some (.inr s.1)
noncomputable def zf_52 (x1 : Int32) (x2 : Int32) (M : jb_Mi) : Option (Int32) :=
  jb_lp (zf_52_H5 x1 x2 M) (0, 0)
-- X2_canFell
noncomputable def zf_53_J28 (x1 : Int32) (x2 : Int32) (x3 : Int32) (M : jb_Mi) : Option ((Int32) ⊕ (Bool)) :=
  some (.inl (x3 + 1))
noncomputable def zf_53_H2 (x1 : Int32) (x2 : Int32) (M : jb_Mi) (s : Int32) : Option ((Int32) ⊕ (Bool)) :=
  if s < 64 then if (s &&& (x1 ^^^ (-1))) = 0 then (zf_52 x1 s M).bind fun q1 => if q1 = x2 then some (.inr true) else zf_53_J28 x1 x2 s M else zf_53_J28 x1 x2 s M else some (.inr false)
noncomputable def zf_53 (x1 : Int32) (x2 : Int32) (M : jb_Mi) : Option (Bool) :=
  jb_lp (zf_53_H2 x1 x2 M) 0
-- X2_leastPushed
noncomputable def zf_54_J69 (x1 : Int32) (x2 : Int32) (s1 : Int32) (s2 : Int32) (M : jb_Mi) : Option ((Int32 × jb_Mi) ⊕ (Int32 × jb_Mi)) :=
  jb_gd s1 6 (some (.inl ((x2 + 1), (jb_up M 72 s1.toNatClampNeg s2))))
noncomputable def zf_54_J42 (x1 : Int32) (x2 : Int32) (s1 : Int32) (s2 : Int32) (M : jb_Mi) : Option ((Int32 × jb_Mi) ⊕ (Int32 × jb_Mi)) :=
  jb_gd s1 6 ((zf_37 4 x2 (jb_up M 71 s1.toNatClampNeg s2)).bind fun q4 => if (jb_b2i q4) = 0 then zf_54_J69 x1 x2 x2 0 (jb_up M 71 s1.toNatClampNeg s2) else (zf_50 x2 0 (jb_up M 71 s1.toNatClampNeg s2)).bind fun q6 => zf_54_J69 x1 x2 x2 q6 (jb_up M 71 s1.toNatClampNeg s2))
noncomputable def zf_54_J128 (x1 : Int32) (x2 : Int32) (x3 : Int32) (M : jb_Mi) : Option ((Int32 × Int32) ⊕ (Int32 × jb_Mi)) :=
  some (.inl (x2, (x3 + 1)))
noncomputable def zf_54_J102 (x1 : Int32) (x2 : Int32) (x3 : Int32) (s0 : Int32) (M : jb_Mi) : Option ((Int32 × Int32) ⊕ (Int32 × jb_Mi)) :=
  if (x3 &&& (x1 ^^^ (-1))) = 0 then if s0 = 0 then zf_54_J128 x1 x2 x3 M else (zf_53 x3 x1 M).bind fun q8 => if (jb_b2i q8) = 0 then zf_54_J128 x1 x2 x3 M else zf_54_J128 x1 x3 x3 M else zf_54_J128 x1 x2 x3 M
noncomputable def zf_54_H80 (x1 : Int32) (M : jb_Mi) (s : Int32 × Int32) : Option ((Int32 × Int32) ⊕ (Int32 × jb_Mi)) :=
  if s.2 < 64 then if (zf_26 s.2) < (zf_26 s.1) then zf_54_J102 x1 s.1 s.2 1 M else zf_54_J102 x1 s.1 s.2 0 M else some (.inr (s.1, M))
noncomputable def zf_54_H10 (x1 : Int32) (s : Int32 × jb_Mi) : Option ((Int32 × jb_Mi) ⊕ (Int32 × jb_Mi)) :=
  if s.1 < 6 then (zf_37 4 s.1 s.2).bind fun q2 => if (jb_b2i q2) = 0 then zf_54_J42 x1 s.1 s.1 0 s.2 else (zf_50 s.1 1 s.2).bind fun q7 => zf_54_J42 x1 s.1 s.1 q7 s.2 else ((jb_lp (zf_54_H80 x1 s.2) (x1, 0)).map .inr)
noncomputable def zf_54 (M : jb_Mi) : Option (Int32 × jb_Mi) :=
  (zf_51 4 M).bind fun q1 => jb_lp (zf_54_H10 q1) (0, M)
-- X3_layRows
noncomputable def zf_56_J70 (x1 : Int32) (x2 : Int32) (x4 : Int32) (x5 : Int32) (x6 : Int32) (s0 : Int32) (s1 : Int32) (M : jb_Mi) : Option ((Int32 × Int32 × Int32 × Int32) ⊕ ((Int32 × jb_Mi) ⊕ (jb_Mi))) :=
  some (.inl ((s0 ||| s1), x4, x5, (x6 + 1)))
noncomputable def zf_56_J118 (x1 : Int32) (x2 : Int32) (M : jb_Mi) : Option ((Int32 × jb_Mi) ⊕ (jb_Mi)) :=
  some (.inl ((x2 + 1), M))
noncomputable def zf_56_J78 (x1 : Int32) (x2 : Int32) (x3 : Int32) (x4 : Int32) (x5 : Int32) (M : jb_Mi) : Option ((Int32 × jb_Mi) ⊕ (jb_Mi)) :=
  if x4 = x1 then if x5 = 0 then if (M 73 1) < 40 then jb_gd (M 73 1) 40 (zf_56_J118 x1 x2 (jb_up (jb_up M 74 ((M 73 1)).toNatClampNeg x3) 73 1 (((jb_up M 74 ((M 73 1)).toNatClampNeg x3) 73 1) + 1))) else zf_56_J118 x1 x2 M else zf_56_J118 x1 x2 M else zf_56_J118 x1 x2 M
noncomputable def zf_56_H25 (x1 : Int32) (x2 : Int32) (M : jb_Mi) (s : Int32 × Int32 × Int32 × Int32) : Option ((Int32 × Int32 × Int32 × Int32) ⊕ ((Int32 × jb_Mi) ⊕ (jb_Mi))) :=
  if s.2.2.2 < 8 then if s.2.1 < x1 then if (s.2.1 + (2 + (s.2.2.1 &&& 1))) < x1 then zf_56_J70 x1 x2 (s.2.1 + (2 + (s.2.2.1 &&& 1))) (s.2.2.1 >>> ((1 : Int32) &&& 31)) s.2.2.2 s.1 ((1 : Int32) <<< ((s.2.1 + (2 + (s.2.2.1 &&& 1))) &&& 31)) M else zf_56_J70 x1 x2 (s.2.1 + (2 + (s.2.2.1 &&& 1))) (s.2.2.1 >>> ((1 : Int32) &&& 31)) s.2.2.2 s.1 0 M else ((zf_56_J78 x1 x2 s.1 s.2.1 s.2.2.1 M).map .inr) else ((zf_56_J78 x1 x2 s.1 s.2.1 s.2.2.1 M).map .inr)
noncomputable def zf_56_H7 (x1 : Int32) (s : Int32 × jb_Mi) : Option ((Int32 × jb_Mi) ⊕ (jb_Mi)) :=
  if s.1 < 256 then jb_lp (zf_56_H25 x1 s.1 s.2) (0, 0, s.1, 0) else some (.inr s.2)
noncomputable def zf_56 (x1 : Int32) (M : jb_Mi) : Option (jb_Mi) :=
  jb_lp (zf_56_H7 x1) (0, (jb_up M 73 1 0))
-- X3_buildLevel
noncomputable def zf_57_J53 (x1 : Int32) (x4 : Int32) (s0 : Int64) (s1 : Int64) (M : jb_Mi) (N : jb_Ml) : Option ((Int64 × Int32) ⊕ ((Int32 × jb_Ml) ⊕ (jb_Ml))) :=
  some (.inl ((s0 + s1), (x4 + 1)))
noncomputable def zf_57_H15 (x1 : Int32) (M : jb_Mi) (N : jb_Ml) (s : Int64 × Int32) : Option ((Int64 × Int32) ⊕ ((Int32 × jb_Ml) ⊕ (jb_Ml))) :=
  if s.2 < (M 73 1) then jb_gd x1 40 (jb_gd s.2 40 (if ((M 74 x1.toNatClampNeg) &&& (M 74 (s.2).toNatClampNeg)) = 0 then jb_gd s.2 40 (zf_57_J53 x1 s.2 s.1 (N 75 (s.2).toNatClampNeg) M N) else zf_57_J53 x1 s.2 s.1 0 M N)) else jb_gd x1 40 (some (.inr (.inl ((x1 + 1), (jb_ul N 76 x1.toNatClampNeg s.1)))))
noncomputable def zf_57_H2 (M : jb_Mi) (s : Int32 × jb_Ml) : Option ((Int32 × jb_Ml) ⊕ (jb_Ml)) :=
  if s.1 < (M 73 1) then jb_lp (zf_57_H15 s.1 M s.2) (0, 0) else jb_gc 0 0 (M 73 1) 40 40 (some (.inr (jb_cl8 s.2 76 75 0 0 ((M 73 1)).toNatClampNeg)))
noncomputable def zf_57 (M : jb_Mi) (N : jb_Ml) : Option (jb_Ml) :=
  jb_lp (zf_57_H2 M) (0, N)
-- X3_walls
noncomputable def zf_58_H50 (M : jb_Mi) (N : jb_Ml) (s : Int64 × Int32) : Option ((Int64 × Int32) ⊕ (Int64 × jb_Mi × jb_Ml)) :=
  if s.2 < (M 73 1) then jb_gd s.2 40 (some (.inl ((s.1 + (N 75 (s.2).toNatClampNeg)), (s.2 + 1)))) else some (.inr (s.1, M, N))
noncomputable def zf_58_H30 (x2 : Int32) (M : jb_Mi) (s : Int32 × jb_Ml) : Option ((Int32 × jb_Ml) ⊕ (Int64 × jb_Mi × jb_Ml)) :=
  if s.1 < x2 then (zf_57 M s.2).bind fun q3 => some (.inl ((s.1 + 1), q3)) else ((jb_lp (zf_58_H50 M s.2) (0, 0)).map .inr)
noncomputable def zf_58_H7 (x2 : Int32) (M : jb_Mi) (s : Int32 × jb_Ml) : Option ((Int32 × jb_Ml) ⊕ (Int64 × jb_Mi × jb_Ml)) :=
  if s.1 < (M 73 1) then jb_gd s.1 40 (some (.inl ((s.1 + 1), (jb_ul s.2 75 (s.1).toNatClampNeg 1)))) else ((jb_lp (zf_58_H30 x2 M) (1, s.2)).map .inr)
noncomputable def zf_58 (x1 : Int32) (x2 : Int32) (M : jb_Mi) (N : jb_Ml) : Option (Int64 × jb_Mi × jb_Ml) :=
  (zf_56 x1 M).bind fun q1 => jb_lp (zf_58_H7 x2 q1) (0, N)
-- J9_abs_0f7a4
noncomputable def zf_270 (x0 : Int32) : Int32 :=
  if x0 < 0 then (-x0) else x0
-- X3_handed
noncomputable def zf_59_J77 (x2 : Int32) (x3 : Int32) (x5 : Int32) (x6 : Int32) (s0 : Int32) (s1 : Int32) (s2 : Int32) (M : jb_Mi) : Option ((Int32 × Int32 × Int32) ⊕ (Int32)) :=
  some (.inl ((s0 + (s1 - s2)), (x5 + (zf_270 (s0 + (s1 - s2)))), (x6 + 1)))
noncomputable def zf_59_H46 (x2 : Int32) (x3 : Int32) (M : jb_Mi) (s : Int32 × Int32 × Int32) : Option ((Int32 × Int32 × Int32) ⊕ (Int32)) :=
  if s.2.2 < x2 then (zf_30 s.2.2 M).bind fun q2 => jb_g0 x2 (jb_g0 x2 (if s.2.2 < (x3 - x3 / x2 * x2) then zf_59_J77 x2 x3 s.2.1 s.2.2 s.1 (q2 - (x3 / x2)) 1 M else zf_59_J77 x2 x3 s.2.1 s.2.2 s.1 (q2 - (x3 / x2)) 0 M)) else some (.inr s.2.1)
noncomputable def zf_59_H16 (x2 : Int32) (M : jb_Mi) (s : Int32 × Int32) : Option ((Int32 × Int32) ⊕ (Int32)) :=
  if s.2 < x2 then (zf_30 s.2 M).bind fun q1 => some (.inl ((s.1 + q1), (s.2 + 1))) else ((jb_lp (zf_59_H46 x2 s.1 M) (0, 0, 0)).map .inr)
noncomputable def zf_59 (M : jb_Mi) : Option (Int32) :=
  if 0 < (M 2 1) then jb_lp (zf_59_H16 (M 2 1) M) (0, 0) else some 0
-- X3_leastBelow
noncomputable def zf_60_J53 (x1 : Int32) (x2 : Int32) (x3 : Int32) (x4 : Int32) (M : jb_Mi) : Option ((Int32 × Int32) ⊕ (Int32)) :=
  some (.inl (x3, (x4 + 1)))
noncomputable def zf_60_J50 (x1 : Int32) (x2 : Int32) (x4 : Int32) (x5 : Int32) (M : jb_Mi) : Option ((Int32 × Int32) ⊕ (Int32)) :=
  zf_60_J53 x1 x2 x5 x4 M
noncomputable def zf_60_H5 (x1 : Int32) (x2 : Int32) (M : jb_Mi) (s : Int32 × Int32) : Option ((Int32 × Int32) ⊕ (Int32)) :=
  if s.2 < x2 then jb_gd ((x1 * 8) + s.2) 64 (jb_gd (((s.2 + 1) * 8) + x2) 64 (if s.1 < 0 then zf_60_J50 x1 x2 s.2 ((M 78 (((x1 * 8) + s.2)).toNatClampNeg) + (M 78 ((((s.2 + 1) * 8) + x2)).toNatClampNeg)) M else if ((M 78 (((x1 * 8) + s.2)).toNatClampNeg) + (M 78 ((((s.2 + 1) * 8) + x2)).toNatClampNeg)) < s.1 then zf_60_J50 x1 x2 s.2 ((M 78 (((x1 * 8) + s.2)).toNatClampNeg) + (M 78 ((((s.2 + 1) * 8) + x2)).toNatClampNeg)) M else zf_60_J53 x1 x2 s.1 s.2 M)) else some (.inr s.1)
noncomputable def zf_60 (x1 : Int32) (x2 : Int32) (M : jb_Mi) : Option (Int32) :=
  jb_lp (zf_60_H5 x1 x2 M) ((-1), x1)
-- J9_min_7cf53
noncomputable def zf_272 (x0 : Int32) (x1 : Int32) : Int32 :=
  if x1 < x0 then x1 else x0
-- X3_cutting
noncomputable def zf_61_H83 (x2 : Int32) (x3 : Int32) (s : Int32 × jb_Mi) : Option ((Int32 × jb_Mi) ⊕ ((Int32 × jb_Mi) ⊕ (Int32 × jb_Mi))) :=
  if (s.1 + x3) < x2 then jb_gd ((s.1 + x3) + 1) 9 (jb_gd s.1 9 ((zf_60 s.1 (s.1 + x3) s.2).bind fun q7 => jb_gd ((s.1 * 8) + (s.1 + x3)) 64 (some (.inl ((s.1 + 1), (jb_up s.2 78 (((s.1 * 8) + (s.1 + x3))).toNatClampNeg (((s.2 77 (((s.1 + x3) + 1)).toNatClampNeg) - (s.2 77 (s.1).toNatClampNeg)) + q7))))))) else some (.inr (.inl ((x3 + 1), s.2)))
noncomputable def zf_61_H75 (x2 : Int32) (s : Int32 × jb_Mi) : Option ((Int32 × jb_Mi) ⊕ (Int32 × jb_Mi)) :=
  if s.1 < x2 then jb_lp (zf_61_H83 x2 s.1) (0, s.2) else if 0 < x2 then jb_gd (x2 - 1) 64 (some (.inr ((s.2 78 ((x2 - 1)).toNatClampNeg), s.2))) else some (.inr (0, s.2))
noncomputable def zf_61_H12 (x2 : Int32) (s : Int32 × jb_Mi) : Option ((Int32 × jb_Mi) ⊕ (Int32 × jb_Mi)) :=
  if s.1 < x2 then (zf_30 s.1 s.2).bind fun q1 => if (jb_b2i (zf_23 q1 1 99)) = 0 then some (.inr ((-2), s.2)) else jb_gd s.1 9 (jb_gd (s.1 + 1) 9 (jb_gd ((s.1 * 8) + s.1) 64 (some (.inl ((s.1 + 1), (jb_up (jb_up s.2 77 ((s.1 + 1)).toNatClampNeg ((s.2 77 (s.1).toNatClampNeg) + q1)) 78 (((s.1 * 8) + s.1)).toNatClampNeg 0)))))) else ((jb_lp (zf_61_H75 x2) (1, s.2)).map .inr)
noncomputable def zf_61 (M : jb_Mi) : Option (Int32 × jb_Mi) :=
  jb_lp (zf_61_H12 (zf_272 (M 2 1) 8)) (0, M)
-- X4_factOf
noncomputable def zf_63 (x0 : Int32) : Int32 :=
  if x0 = 97 then 2 else if x0 = 98 then (-1) else if x0 = 99 then 5 else if x0 = 100 then (-1) else if x0 = 101 then (-1) else if x0 = 102 then (-1) else if x0 = 103 then 7 else if x0 = 104 then 8 else if x0 = 105 then 4 else if x0 = 106 then (-1) else if x0 = 107 then 6 else if x0 = 108 then 3 else if x0 = 109 then 0 else if x0 = 110 then 9 else if x0 = 111 then (-1) else if x0 = 112 then (-1) else if x0 = 113 then (-1) else if x0 = 114 then (-1) else if x0 = 115 then 1 else (-1)
-- X4_factAt
noncomputable def zf_64 (x1 : Int32) (M : jb_Mi) : Option (Int32) :=
  if x1 < 0 then some 0 else if x1 < 10 then jb_gd x1 10 (some (M 58 x1.toNatClampNeg)) else some 0
-- X4_reckon
noncomputable def zf_65 (x1 : Int32) (x2 : Int32) (x3 : Int32) (M : jb_Mi) : Option (Int32 × jb_Mi) :=
  if x1 = 42 then some ((x2 * x3), M) else if x1 = 43 then some ((x2 + x3), M) else if x1 = 45 then some ((x2 - x3), M) else if x1 = 60 then if x2 < x3 then some (1, M) else some (0, M) else if x1 = 61 then if x2 = x3 then some (1, M) else some (0, M) else if x1 = 62 then if x3 < x2 then some (1, M) else some (0, M) else if x3 = 0 then some (0, (jb_up M 57 3 1)) else if x1 = 47 then jb_g0 x3 (some ((x2 / x3), M)) else jb_g0 x3 (some ((x2 - x2 / x3 * x3), M))
-- X4_run
noncomputable def zf_66_J278 (x2 : Int32) (x3 : Int32) (x4 : Int32) (M : jb_Mi) : Option ((Int32 × Int32 × Int32 × jb_Mi) ⊕ (Int32 × jb_Mi)) :=
  some (.inl (x2, x3, (x4 + 1), M))
noncomputable def zf_66_J116 (x2 : Int32) (x3 : Int32) (x4 : Int32) (s1 : Int32) (s2 : Int32) (M : jb_Mi) : Option ((Int32 × Int32 × Int32 × jb_Mi) ⊕ (Int32 × jb_Mi)) :=
  jb_gd s1 32 (zf_66_J278 x2 x3 x4 (jb_up M 59 s1.toNatClampNeg s2))
noncomputable def zf_66_J81 (x2 : Int32) (x3 : Int32) (x4 : Int32) (x5 : Int32) (x6 : Int32) (M : jb_Mi) : Option ((Int32 × Int32 × Int32 × jb_Mi) ⊕ (Int32 × jb_Mi)) :=
  if (x2 + 1) < 32 then if x5 = 1 then zf_66_J116 (x2 + 1) x3 x4 (x2 + 1) x6 M else (zf_64 x6 M).bind fun q4 => zf_66_J116 (x2 + 1) x3 x4 (x2 + 1) q4 M else some (.inr (0, M))
noncomputable def zf_66_J163 (x2 : Int32) (x3 : Int32) (x4 : Int32) (s1 : Int32) (s2 : Int32) (M : jb_Mi) : Option ((Int32 × Int32 × Int32 × jb_Mi) ⊕ (Int32 × jb_Mi)) :=
  jb_gd s1 32 (zf_66_J278 x2 x3 x4 (jb_up M 59 s1.toNatClampNeg s2))
noncomputable def zf_66_J238 (x3 : Int32) (x4 : Int32) (s0 : Int32) (M : jb_Mi) : Option ((Int32 × Int32 × Int32 × jb_Mi) ⊕ (Int32 × jb_Mi)) :=
  zf_66_J278 s0 x3 x4 M
noncomputable def zf_66_J225 (x2 : Int32) (x4 : Int32) (x7 : Int32) (s0 : Int32) (M : jb_Mi) : Option ((Int32 × Int32 × Int32 × jb_Mi) ⊕ (Int32 × jb_Mi)) :=
  if x7 = 0 then zf_66_J238 s0 x4 (x2 - 1) M else zf_66_J238 s0 x4 x2 M
noncomputable def zf_66_J212 (x2 : Int32) (x3 : Int32) (x4 : Int32) (x6 : Int32) (s0 : Int32) (M : jb_Mi) : Option ((Int32 × Int32 × Int32 × jb_Mi) ⊕ (Int32 × jb_Mi)) :=
  if s0 = 0 then zf_66_J225 x2 x4 s0 x3 M else zf_66_J225 x2 x4 s0 x6 M
noncomputable def zf_66_J204 (x2 : Int32) (x3 : Int32) (x4 : Int32) (x6 : Int32) (s0 : Int32) (s1 : Int32) (M : jb_Mi) : Option ((Int32 × Int32 × Int32 × jb_Mi) ⊕ (Int32 × jb_Mi)) :=
  if s0 = s1 then zf_66_J212 x2 x3 x4 x6 1 M else zf_66_J212 x2 x3 x4 x6 0 M
noncomputable def zf_66_J193 (x2 : Int32) (x3 : Int32) (x4 : Int32) (x5 : Int32) (x6 : Int32) (s0 : Int32) (M : jb_Mi) : Option ((Int32 × Int32 × Int32 × jb_Mi) ⊕ (Int32 × jb_Mi)) :=
  if x5 = 5 then zf_66_J204 x2 x3 x4 x6 s0 1 M else zf_66_J204 x2 x3 x4 x6 s0 0 M
noncomputable def zf_66_J179 (x2 : Int32) (x3 : Int32) (x4 : Int32) (x5 : Int32) (x6 : Int32) (M : jb_Mi) : Option ((Int32 × Int32 × Int32 × jb_Mi) ⊕ (Int32 × jb_Mi)) :=
  jb_gd x2 32 (if (M 59 x2.toNatClampNeg) = 0 then zf_66_J193 x2 x3 x4 x5 x6 0 M else zf_66_J193 x2 x3 x4 x5 x6 1 M)
noncomputable def zf_66_H12 (s : Int32 × Int32 × Int32 × jb_Mi) : Option ((Int32 × Int32 × Int32 × jb_Mi) ⊕ (Int32 × jb_Mi)) :=
  if s.2.2.1 < 240 then if (s.2.2.2 57 3) = 0 then if s.2.1 < 0 then some (.inr (0, s.2.2.2)) else if s.2.1 < (s.2.2.2 44 5) then jb_gd s.2.1 240 (jb_gd s.2.1 240 (if (s.2.2.2 45 (s.2.1).toNatClampNeg) = 1 then zf_66_J81 s.1 (s.2.1 + 1) s.2.2.1 (s.2.2.2 45 (s.2.1).toNatClampNeg) (s.2.2.2 46 (s.2.1).toNatClampNeg) s.2.2.2 else if (s.2.2.2 45 (s.2.1).toNatClampNeg) = 2 then zf_66_J81 s.1 (s.2.1 + 1) s.2.2.1 (s.2.2.2 45 (s.2.1).toNatClampNeg) (s.2.2.2 46 (s.2.1).toNatClampNeg) s.2.2.2 else if s.1 < 0 then some (.inr (0, s.2.2.2)) else if (s.2.2.2 45 (s.2.1).toNatClampNeg) = 0 then jb_gd s.1 32 (some (.inr ((s.2.2.2 59 (s.1).toNatClampNeg), s.2.2.2))) else if (s.2.2.2 45 (s.2.1).toNatClampNeg) = 3 then jb_gd s.1 32 (if (s.2.2.2 59 (s.1).toNatClampNeg) = 0 then zf_66_J163 s.1 (s.2.1 + 1) s.2.2.1 s.1 1 s.2.2.2 else zf_66_J163 s.1 (s.2.1 + 1) s.2.2.1 s.1 0 s.2.2.2) else if (s.2.2.2 45 (s.2.1).toNatClampNeg) = 4 then zf_66_J179 s.1 (s.2.1 + 1) s.2.2.1 (s.2.2.2 45 (s.2.1).toNatClampNeg) (s.2.2.2 46 (s.2.1).toNatClampNeg) s.2.2.2 else if (s.2.2.2 45 (s.2.1).toNatClampNeg) = 5 then zf_66_J179 s.1 (s.2.1 + 1) s.2.2.1 (s.2.2.2 45 (s.2.1).toNatClampNeg) (s.2.2.2 46 (s.2.1).toNatClampNeg) s.2.2.2 else if s.1 < 1 then some (.inr (0, s.2.2.2)) else jb_gd (s.1 + (-1)) 32 (jb_gd ((s.1 + (-1)) + 1) 32 ((zf_65 (s.2.2.2 45 (s.2.1).toNatClampNeg) (s.2.2.2 59 ((s.1 + (-1))).toNatClampNeg) (s.2.2.2 59 (((s.1 + (-1)) + 1)).toNatClampNeg) s.2.2.2).bind fun q11 => jb_gd (s.1 + (-1)) 32 (zf_66_J278 (s.1 + (-1)) (s.2.1 + 1) s.2.2.1 (jb_up q11.2 59 ((s.1 + (-1))).toNatClampNeg q11.1)))))) else some (.inr (0, s.2.2.2)) else some (.inr (0, s.2.2.2)) else some (.inr (0, s.2.2.2))
noncomputable def zf_66 (x1 : Int32) (M : jb_Mi) : Option (Int32 × jb_Mi) :=
  jb_lp (zf_66_H12) ((-1), x1, 0, (jb_up M 57 3 0))
-- X4_ruleFor
noncomputable def zf_67_J57 (x1 : Int32) (x2 : Int32) (M : jb_Mi) : Option ((Int32 × jb_Mi) ⊕ (Int32 × jb_Mi)) :=
  some (.inl ((x2 + 1), M))
noncomputable def zf_67_H2 (x1 : Int32) (s : Int32 × jb_Mi) : Option ((Int32 × jb_Mi) ⊕ (Int32 × jb_Mi)) :=
  if s.1 < (s.2 44 6) then if s.1 < 16 then jb_gd s.1 16 (if (s.2 47 (s.1).toNatClampNeg) = x1 then jb_gd s.1 16 ((zf_66 (s.2 49 (s.1).toNatClampNeg) s.2).bind fun q3 => if q3.1 = 0 then zf_67_J57 x1 s.1 q3.2 else if (q3.2 57 3) = 0 then some (.inr (s.1, q3.2)) else zf_67_J57 x1 s.1 q3.2) else zf_67_J57 x1 s.1 s.2) else some (.inr ((-1), s.2)) else some (.inr ((-1), s.2))
noncomputable def zf_67 (x1 : Int32) (M : jb_Mi) : Option (Int32 × jb_Mi) :=
  jb_lp (zf_67_H2 x1) (0, M)
-- X4_amount
noncomputable def zf_68 (x1 : Int32) (x2 : Int32) (M : jb_Mi) : Option (Int32 × jb_Mi) :=
  (zf_67 x1 M).bind fun q1 => if q1.1 < 0 then some (0, q1.2) else jb_gd q1.1 16 ((zf_66 (q1.2 48 (q1.1).toNatClampNeg) q1.2).bind fun q3 => if (q3.2 57 3) = 0 then some ((zf_271 0 (zf_272 x2 q3.1)), q3.2) else some (0, q3.2))
-- X5_emit
noncomputable def zf_70 (x1 : Int32) (x2 : Int32) (M : jb_Mi) : Option (Int32 × jb_Mi) :=
  if (M 51 5) < 240 then jb_gd (M 51 5) 240 (jb_gd ((jb_up M 52 ((M 51 5)).toNatClampNeg x1) 51 5) 240 (some ((((jb_up (jb_up (jb_up M 52 ((M 51 5)).toNatClampNeg x1) 53 (((jb_up M 52 ((M 51 5)).toNatClampNeg x1) 51 5)).toNatClampNeg x2) 51 5 (((jb_up (jb_up M 52 ((M 51 5)).toNatClampNeg x1) 53 (((jb_up M 52 ((M 51 5)).toNatClampNeg x1) 51 5)).toNatClampNeg x2) 51 5) + 1)) 51 5) - 1), (jb_up (jb_up (jb_up M 52 ((M 51 5)).toNatClampNeg x1) 53 (((jb_up M 52 ((M 51 5)).toNatClampNeg x1) 51 5)).toNatClampNeg x2) 51 5 (((jb_up (jb_up M 52 ((M 51 5)).toNatClampNeg x1) 53 (((jb_up M 52 ((M 51 5)).toNatClampNeg x1) 51 5)).toNatClampNeg x2) 51 5) + 1))))) else some ((-1), M)
-- X5_aim
noncomputable def zf_71 (x1 : Int32) (M : jb_Mi) : Option (jb_Mi) :=
  if x1 < 0 then some M else if x1 < (M 51 5) then jb_gd x1 240 (some (jb_up M 53 x1.toNatClampNeg (M 51 5))) else some M
-- X5_copy
noncomputable def zf_72 (M : jb_Mi) : Option (jb_Mi) :=
  jb_gc 0 0 (M 51 5) 240 240 (jb_gc 0 0 ((jb_cp M 52 45 0 0 ((M 51 5)).toNatClampNeg) 51 5) 240 240 (jb_gc 0 0 ((jb_cp (jb_cp M 52 45 0 0 ((M 51 5)).toNatClampNeg) 53 46 0 0 (((jb_cp M 52 45 0 0 ((M 51 5)).toNatClampNeg) 51 5)).toNatClampNeg) 51 6) 16 16 (jb_gc 0 0 ((jb_cp (jb_cp (jb_cp M 52 45 0 0 ((M 51 5)).toNatClampNeg) 53 46 0 0 (((jb_cp M 52 45 0 0 ((M 51 5)).toNatClampNeg) 51 5)).toNatClampNeg) 54 47 0 0 (((jb_cp (jb_cp M 52 45 0 0 ((M 51 5)).toNatClampNeg) 53 46 0 0 (((jb_cp M 52 45 0 0 ((M 51 5)).toNatClampNeg) 51 5)).toNatClampNeg) 51 6)).toNatClampNeg) 51 6) 16 16 (jb_gc 0 0 ((jb_cp (jb_cp (jb_cp (jb_cp M 52 45 0 0 ((M 51 5)).toNatClampNeg) 53 46 0 0 (((jb_cp M 52 45 0 0 ((M 51 5)).toNatClampNeg) 51 5)).toNatClampNeg) 54 47 0 0 (((jb_cp (jb_cp M 52 45 0 0 ((M 51 5)).toNatClampNeg) 53 46 0 0 (((jb_cp M 52 45 0 0 ((M 51 5)).toNatClampNeg) 51 5)).toNatClampNeg) 51 6)).toNatClampNeg) 55 48 0 0 (((jb_cp (jb_cp (jb_cp M 52 45 0 0 ((M 51 5)).toNatClampNeg) 53 46 0 0 (((jb_cp M 52 45 0 0 ((M 51 5)).toNatClampNeg) 51 5)).toNatClampNeg) 54 47 0 0 (((jb_cp (jb_cp M 52 45 0 0 ((M 51 5)).toNatClampNeg) 53 46 0 0 (((jb_cp M 52 45 0 0 ((M 51 5)).toNatClampNeg) 51 5)).toNatClampNeg) 51 6)).toNatClampNeg) 51 6)).toNatClampNeg) 51 6) 16 16 (some (jb_up (jb_up (jb_cp (jb_cp (jb_cp (jb_cp (jb_cp M 52 45 0 0 ((M 51 5)).toNatClampNeg) 53 46 0 0 (((jb_cp M 52 45 0 0 ((M 51 5)).toNatClampNeg) 51 5)).toNatClampNeg) 54 47 0 0 (((jb_cp (jb_cp M 52 45 0 0 ((M 51 5)).toNatClampNeg) 53 46 0 0 (((jb_cp M 52 45 0 0 ((M 51 5)).toNatClampNeg) 51 5)).toNatClampNeg) 51 6)).toNatClampNeg) 55 48 0 0 (((jb_cp (jb_cp (jb_cp M 52 45 0 0 ((M 51 5)).toNatClampNeg) 53 46 0 0 (((jb_cp M 52 45 0 0 ((M 51 5)).toNatClampNeg) 51 5)).toNatClampNeg) 54 47 0 0 (((jb_cp (jb_cp M 52 45 0 0 ((M 51 5)).toNatClampNeg) 53 46 0 0 (((jb_cp M 52 45 0 0 ((M 51 5)).toNatClampNeg) 51 5)).toNatClampNeg) 51 6)).toNatClampNeg) 51 6)).toNatClampNeg) 56 49 0 0 (((jb_cp (jb_cp (jb_cp (jb_cp M 52 45 0 0 ((M 51 5)).toNatClampNeg) 53 46 0 0 (((jb_cp M 52 45 0 0 ((M 51 5)).toNatClampNeg) 51 5)).toNatClampNeg) 54 47 0 0 (((jb_cp (jb_cp M 52 45 0 0 ((M 51 5)).toNatClampNeg) 53 46 0 0 (((jb_cp M 52 45 0 0 ((M 51 5)).toNatClampNeg) 51 5)).toNatClampNeg) 51 6)).toNatClampNeg) 55 48 0 0 (((jb_cp (jb_cp (jb_cp M 52 45 0 0 ((M 51 5)).toNatClampNeg) 53 46 0 0 (((jb_cp M 52 45 0 0 ((M 51 5)).toNatClampNeg) 51 5)).toNatClampNeg) 54 47 0 0 (((jb_cp (jb_cp M 52 45 0 0 ((M 51 5)).toNatClampNeg) 53 46 0 0 (((jb_cp M 52 45 0 0 ((M 51 5)).toNatClampNeg) 51 5)).toNatClampNeg) 51 6)).toNatClampNeg) 51 6)).toNatClampNeg) 51 6)).toNatClampNeg) 44 5 ((jb_cp (jb_cp (jb_cp (jb_cp (jb_cp M 52 45 0 0 ((M 51 5)).toNatClampNeg) 53 46 0 0 (((jb_cp M 52 45 0 0 ((M 51 5)).toNatClampNeg) 51 5)).toNatClampNeg) 54 47 0 0 (((jb_cp (jb_cp M 52 45 0 0 ((M 51 5)).toNatClampNeg) 53 46 0 0 (((jb_cp M 52 45 0 0 ((M 51 5)).toNatClampNeg) 51 5)).toNatClampNeg) 51 6)).toNatClampNeg) 55 48 0 0 (((jb_cp (jb_cp (jb_cp M 52 45 0 0 ((M 51 5)).toNatClampNeg) 53 46 0 0 (((jb_cp M 52 45 0 0 ((M 51 5)).toNatClampNeg) 51 5)).toNatClampNeg) 54 47 0 0 (((jb_cp (jb_cp M 52 45 0 0 ((M 51 5)).toNatClampNeg) 53 46 0 0 (((jb_cp M 52 45 0 0 ((M 51 5)).toNatClampNeg) 51 5)).toNatClampNeg) 51 6)).toNatClampNeg) 51 6)).toNatClampNeg) 56 49 0 0 (((jb_cp (jb_cp (jb_cp (jb_cp M 52 45 0 0 ((M 51 5)).toNatClampNeg) 53 46 0 0 (((jb_cp M 52 45 0 0 ((M 51 5)).toNatClampNeg) 51 5)).toNatClampNeg) 54 47 0 0 (((jb_cp (jb_cp M 52 45 0 0 ((M 51 5)).toNatClampNeg) 53 46 0 0 (((jb_cp M 52 45 0 0 ((M 51 5)).toNatClampNeg) 51 5)).toNatClampNeg) 51 6)).toNatClampNeg) 55 48 0 0 (((jb_cp (jb_cp (jb_cp M 52 45 0 0 ((M 51 5)).toNatClampNeg) 53 46 0 0 (((jb_cp M 52 45 0 0 ((M 51 5)).toNatClampNeg) 51 5)).toNatClampNeg) 54 47 0 0 (((jb_cp (jb_cp M 52 45 0 0 ((M 51 5)).toNatClampNeg) 53 46 0 0 (((jb_cp M 52 45 0 0 ((M 51 5)).toNatClampNeg) 51 5)).toNatClampNeg) 51 6)).toNatClampNeg) 51 6)).toNatClampNeg) 51 6)).toNatClampNeg) 51 5)) 44 6 ((jb_up (jb_cp (jb_cp (jb_cp (jb_cp (jb_cp M 52 45 0 0 ((M 51 5)).toNatClampNeg) 53 46 0 0 (((jb_cp M 52 45 0 0 ((M 51 5)).toNatClampNeg) 51 5)).toNatClampNeg) 54 47 0 0 (((jb_cp (jb_cp M 52 45 0 0 ((M 51 5)).toNatClampNeg) 53 46 0 0 (((jb_cp M 52 45 0 0 ((M 51 5)).toNatClampNeg) 51 5)).toNatClampNeg) 51 6)).toNatClampNeg) 55 48 0 0 (((jb_cp (jb_cp (jb_cp M 52 45 0 0 ((M 51 5)).toNatClampNeg) 53 46 0 0 (((jb_cp M 52 45 0 0 ((M 51 5)).toNatClampNeg) 51 5)).toNatClampNeg) 54 47 0 0 (((jb_cp (jb_cp M 52 45 0 0 ((M 51 5)).toNatClampNeg) 53 46 0 0 (((jb_cp M 52 45 0 0 ((M 51 5)).toNatClampNeg) 51 5)).toNatClampNeg) 51 6)).toNatClampNeg) 51 6)).toNatClampNeg) 56 49 0 0 (((jb_cp (jb_cp (jb_cp (jb_cp M 52 45 0 0 ((M 51 5)).toNatClampNeg) 53 46 0 0 (((jb_cp M 52 45 0 0 ((M 51 5)).toNatClampNeg) 51 5)).toNatClampNeg) 54 47 0 0 (((jb_cp (jb_cp M 52 45 0 0 ((M 51 5)).toNatClampNeg) 53 46 0 0 (((jb_cp M 52 45 0 0 ((M 51 5)).toNatClampNeg) 51 5)).toNatClampNeg) 51 6)).toNatClampNeg) 55 48 0 0 (((jb_cp (jb_cp (jb_cp M 52 45 0 0 ((M 51 5)).toNatClampNeg) 53 46 0 0 (((jb_cp M 52 45 0 0 ((M 51 5)).toNatClampNeg) 51 5)).toNatClampNeg) 54 47 0 0 (((jb_cp (jb_cp M 52 45 0 0 ((M 51 5)).toNatClampNeg) 53 46 0 0 (((jb_cp M 52 45 0 0 ((M 51 5)).toNatClampNeg) 51 5)).toNatClampNeg) 51 6)).toNatClampNeg) 51 6)).toNatClampNeg) 51 6)).toNatClampNeg) 44 5 ((jb_cp (jb_cp (jb_cp (jb_cp (jb_cp M 52 45 0 0 ((M 51 5)).toNatClampNeg) 53 46 0 0 (((jb_cp M 52 45 0 0 ((M 51 5)).toNatClampNeg) 51 5)).toNatClampNeg) 54 47 0 0 (((jb_cp (jb_cp M 52 45 0 0 ((M 51 5)).toNatClampNeg) 53 46 0 0 (((jb_cp M 52 45 0 0 ((M 51 5)).toNatClampNeg) 51 5)).toNatClampNeg) 51 6)).toNatClampNeg) 55 48 0 0 (((jb_cp (jb_cp (jb_cp M 52 45 0 0 ((M 51 5)).toNatClampNeg) 53 46 0 0 (((jb_cp M 52 45 0 0 ((M 51 5)).toNatClampNeg) 51 5)).toNatClampNeg) 54 47 0 0 (((jb_cp (jb_cp M 52 45 0 0 ((M 51 5)).toNatClampNeg) 53 46 0 0 (((jb_cp M 52 45 0 0 ((M 51 5)).toNatClampNeg) 51 5)).toNatClampNeg) 51 6)).toNatClampNeg) 51 6)).toNatClampNeg) 56 49 0 0 (((jb_cp (jb_cp (jb_cp (jb_cp M 52 45 0 0 ((M 51 5)).toNatClampNeg) 53 46 0 0 (((jb_cp M 52 45 0 0 ((M 51 5)).toNatClampNeg) 51 5)).toNatClampNeg) 54 47 0 0 (((jb_cp (jb_cp M 52 45 0 0 ((M 51 5)).toNatClampNeg) 53 46 0 0 (((jb_cp M 52 45 0 0 ((M 51 5)).toNatClampNeg) 51 5)).toNatClampNeg) 51 6)).toNatClampNeg) 55 48 0 0 (((jb_cp (jb_cp (jb_cp M 52 45 0 0 ((M 51 5)).toNatClampNeg) 53 46 0 0 (((jb_cp M 52 45 0 0 ((M 51 5)).toNatClampNeg) 51 5)).toNatClampNeg) 54 47 0 0 (((jb_cp (jb_cp M 52 45 0 0 ((M 51 5)).toNatClampNeg) 53 46 0 0 (((jb_cp M 52 45 0 0 ((M 51 5)).toNatClampNeg) 51 5)).toNatClampNeg) 51 6)).toNatClampNeg) 51 6)).toNatClampNeg) 51 6)).toNatClampNeg) 51 5)) 51 6)))))))
-- X12_faultAt
noncomputable def zf_74 (x0 : Int32) (x1 : Int32) : Int32 :=
  (((-1000) * x0) - x1)
-- X6_fail
noncomputable def zf_75 (x1 : Int32) (M : jb_Mi) : Bool × jb_Mi :=
  (false, (jb_up M 50 3 x1))
-- X12_isDigit
noncomputable def zf_76 (x0 : Int32) : Bool :=
  if x0 < 48 then false else if 57 < x0 then false else true
-- X6_readNumber
noncomputable def zf_77_J65 (x1 : Int32) (x2 : Int32) (M : jb_Mi) : Option ((Int32 × Int32 × jb_Mi) ⊕ (Bool × jb_Mi)) :=
  some (.inl (x1, (x2 + 1), M))
noncomputable def zf_77_H4 (s : Int32 × Int32 × jb_Mi) : Option ((Int32 × Int32 × jb_Mi) ⊕ (Bool × jb_Mi)) :=
  if 5 < s.2.1 then some (.inr ((zf_75 2 s.2.2).1, (zf_75 2 s.2.2).2)) else (zf_30 (s.2.2 50 2) s.2.2).bind fun q1 => if (jb_b2i (zf_76 q1)) = 0 then (zf_70 1 s.1 s.2.2).bind fun q2 => some (.inr (true, q2.2)) else if s.2.1 < 5 then zf_77_J65 (((10 * s.1) + q1) - 48) s.2.1 (jb_up s.2.2 50 2 ((s.2.2 50 2) + 1)) else zf_77_J65 s.1 s.2.1 s.2.2
noncomputable def zf_77 (M : jb_Mi) : Option (Bool × jb_Mi) :=
  jb_lp (zf_77_H4) (0, 0, M)
-- X6_enter
noncomputable def zf_78 (x1 : Int32) (M : jb_Mi) : Bool × jb_Mi :=
  if x1 < 6 then (true, (jb_up M 50 2 ((M 50 2) + 1))) else ((zf_75 5 M).1, (zf_75 5 M).2)
-- X6_readSign
noncomputable def zf_79 (x1 : Int32) (M : jb_Mi) : Option (Bool × jb_Mi) :=
  (zf_30 (M 50 2) M).bind fun q1 => if q1 = x1 then some (true, (jb_up M 50 2 ((M 50 2) + 1))) else some ((zf_75 1 M).1, (zf_75 1 M).2)
-- X6_readFactor
noncomputable def zf_81 (f : Nat → Int32 → jb_Mi → Option (Bool × jb_Mi)) (x1 : Int32) (M : jb_Mi) : Option (Bool × jb_Mi) :=
  (zf_30 (M 50 2) M).bind fun q1 => if (jb_b2i (zf_76 q1)) = 0 then if q1 = 91 then if (jb_b2i (zf_78 x1 M).1) = 0 then some (false, (zf_78 x1 M).2) else (f 0 (x1 + 1) ((zf_78 x1 M).2)).bind fun q2 => if (jb_b2i q2.1) = 0 then some (false, q2.2) else (zf_79 93 q2.2).bind fun q3 => if (jb_b2i q3.1) = 0 then some (false, q3.2) else some (true, q3.2) else if (zf_63 q1) < 0 then some ((zf_75 1 M).1, (zf_75 1 M).2) else (zf_70 2 (zf_63 q1) M).bind fun q4 => some (true, (jb_up q4.2 50 2 ((q4.2 50 2) + 1))) else (zf_77 M).bind fun q5 => some (q5.1, q5.2)
-- X6_readExpression
noncomputable def zf_80_J116 (f : Nat → Int32 → jb_Mi → Option (Bool × jb_Mi)) (x1 : Int32) (x2 : Int32) (x3 : Int32) (x4 : Int32) (M : jb_Mi) : Option ((Int32 × Int32 × Int32 × jb_Mi) ⊕ (Bool × jb_Mi)) :=
  some (.inl (x2, x3, (x4 + 1), (jb_up M 50 2 ((M 50 2) + 1))))
noncomputable def zf_80_J76 (f : Nat → Int32 → jb_Mi → Option (Bool × jb_Mi)) (x1 : Int32) (x2 : Int32) (x4 : Int32) (x5 : Int32) (M : jb_Mi) : Option ((Int32 × Int32 × Int32 × jb_Mi) ⊕ (Bool × jb_Mi)) :=
  zf_80_J116 f x1 x2 x5 x4 M
noncomputable def zf_80_J113 (f : Nat → Int32 → jb_Mi → Option (Bool × jb_Mi)) (x1 : Int32) (x3 : Int32) (x4 : Int32) (x5 : Int32) (M : jb_Mi) : Option ((Int32 × Int32 × Int32 × jb_Mi) ⊕ (Bool × jb_Mi)) :=
  zf_80_J116 f x1 x5 x3 x4 M
noncomputable def zf_80_J97 (f : Nat → Int32 → jb_Mi → Option (Bool × jb_Mi)) (x1 : Int32) (x3 : Int32) (x4 : Int32) (x5 : Int32) (M : jb_Mi) : Option ((Int32 × Int32 × Int32 × jb_Mi) ⊕ (Bool × jb_Mi)) :=
  if x5 = 43 then zf_80_J113 f x1 x3 x4 x5 M else if x5 = 45 then zf_80_J113 f x1 x3 x4 x5 M else some (.inr (true, M))
noncomputable def zf_80_J42 (f : Nat → Int32 → jb_Mi → Option (Bool × jb_Mi)) (x1 : Int32) (x2 : Int32) (x3 : Int32) (x4 : Int32) (M : jb_Mi) : Option ((Int32 × Int32 × Int32 × jb_Mi) ⊕ (Bool × jb_Mi)) :=
  (zf_30 (M 50 2) M).bind fun q2 => if q2 = 42 then zf_80_J76 f x1 x2 x4 q2 M else if q2 = 47 then zf_80_J76 f x1 x2 x4 q2 M else if q2 = 37 then zf_80_J76 f x1 x2 x4 q2 M else if x2 = (-1) then zf_80_J97 f x1 x3 x4 q2 M else (zf_70 x2 0 M).bind fun q3 => zf_80_J97 f x1 x3 x4 q2 q3.2
noncomputable def zf_80_H7 (f : Nat → Int32 → jb_Mi → Option (Bool × jb_Mi)) (x1 : Int32) (s : Int32 × Int32 × Int32 × jb_Mi) : Option ((Int32 × Int32 × Int32 × jb_Mi) ⊕ (Bool × jb_Mi)) :=
  if s.2.2.1 < 240 then (f 1 x1 s.2.2.2).bind fun q1 => if (jb_b2i q1.1) = 0 then some (.inr (false, q1.2)) else if s.2.1 = (-1) then zf_80_J42 f x1 s.1 s.2.1 s.2.2.1 q1.2 else (zf_70 s.2.1 0 q1.2).bind fun q4 => zf_80_J42 f x1 s.1 (-1) s.2.2.1 q4.2 else some (.inr ((zf_75 1 s.2.2.2).1, (zf_75 1 s.2.2.2).2))
noncomputable def zf_80 (f : Nat → Int32 → jb_Mi → Option (Bool × jb_Mi)) (x1 : Int32) (M : jb_Mi) : Option (Bool × jb_Mi) :=
  jb_lp (zf_80_H7 f x1) ((-1), (-1), 0, M)
-- X6_readTest
noncomputable def zf_83_J135 (f : Nat → Int32 → jb_Mi → Option (Bool × jb_Mi)) (x1 : Int32) (x3 : Int32) (M : jb_Mi) : Option (Bool × jb_Mi) :=
  (f 0 x1 (jb_up M 50 2 ((M 50 2) + 1))).bind fun q8 => if (jb_b2i q8.1) = 0 then some (false, q8.2) else (zf_70 x3 0 q8.2).bind fun q9 => some (true, q9.2)
noncomputable def zf_83 (f : Nat → Int32 → jb_Mi → Option (Bool × jb_Mi)) (x1 : Int32) (M : jb_Mi) : Option (Bool × jb_Mi) :=
  (zf_30 (M 50 2) M).bind fun q1 => if q1 = 33 then if (jb_b2i (zf_78 x1 M).1) = 0 then some (false, (zf_78 x1 M).2) else (f 3 (x1 + 1) ((zf_78 x1 M).2)).bind fun q2 => if (jb_b2i q2.1) = 0 then some (false, q2.2) else (zf_70 3 0 q2.2).bind fun q3 => some (true, q3.2) else if q1 = 40 then if (jb_b2i (zf_78 x1 M).1) = 0 then some (false, (zf_78 x1 M).2) else (f 2 (x1 + 1) ((zf_78 x1 M).2)).bind fun q4 => if (jb_b2i q4.1) = 0 then some (false, q4.2) else (zf_79 41 q4.2).bind fun q5 => if (jb_b2i q5.1) = 0 then some (false, q5.2) else some (true, q5.2) else (f 0 x1 M).bind fun q6 => if (jb_b2i q6.1) = 0 then some (false, q6.2) else (zf_30 (q6.2 50 2) q6.2).bind fun q7 => if q7 = 60 then zf_83_J135 f x1 q7 q6.2 else if q7 = 62 then zf_83_J135 f x1 q7 q6.2 else if q7 = 61 then zf_83_J135 f x1 q7 q6.2 else some ((zf_75 1 q6.2).1, (zf_75 1 q6.2).2)
-- X6_readCondition
noncomputable def zf_82_J95 (f : Nat → Int32 → jb_Mi → Option (Bool × jb_Mi)) (x1 : Int32) (x2 : Int32) (x3 : Int32) (x4 : Int32) (M : jb_Mi) : Option ((Int32 × Int32 × Int32 × jb_Mi) ⊕ (Bool × jb_Mi)) :=
  some (.inl (x2, x3, (x4 + 1), (jb_up M 50 2 ((M 50 2) + 1))))
noncomputable def zf_82_H7 (f : Nat → Int32 → jb_Mi → Option (Bool × jb_Mi)) (x1 : Int32) (s : Int32 × Int32 × Int32 × jb_Mi) : Option ((Int32 × Int32 × Int32 × jb_Mi) ⊕ (Bool × jb_Mi)) :=
  if s.2.2.1 < 240 then (f 3 x1 s.2.2.2).bind fun q1 => if (jb_b2i q1.1) = 0 then some (.inr (false, q1.2)) else (zf_71 s.1 q1.2).bind fun q2 => (zf_30 (q2 50 2) q2).bind fun q3 => if q3 = 38 then (zf_70 4 0 q2).bind fun q4 => zf_82_J95 f x1 q4.1 s.2.1 s.2.2.1 q4.2 else (zf_71 s.2.1 q2).bind fun q5 => if q3 = 124 then (zf_70 5 0 q5).bind fun q6 => zf_82_J95 f x1 (-1) q6.1 s.2.2.1 q6.2 else some (.inr (true, q5)) else some (.inr ((zf_75 1 s.2.2.2).1, (zf_75 1 s.2.2.2).2))
noncomputable def zf_82 (f : Nat → Int32 → jb_Mi → Option (Bool × jb_Mi)) (x1 : Int32) (M : jb_Mi) : Option (Bool × jb_Mi) :=
  jb_lp (zf_82_H7 f x1) ((-1), (-1), 0, M)
noncomputable def zfr_LT : Nat → Nat → Int32 → jb_Mi → Option (Bool × jb_Mi)
  | 0, _, _, _ => none
  | n + 1, w, x1, M => if w = 0 then zf_80 (zfr_LT n) x1 M else if w = 1 then zf_81 (zfr_LT n) x1 M else if w = 2 then zf_82 (zfr_LT n) x1 M else if w = 3 then zf_83 (zfr_LT n) x1 M else none
-- X6_read
noncomputable def zf_84_J208 (M : jb_Mi) : Option (Int32 × jb_Mi) :=
  some ((zf_74 (M 50 3) (M 50 2)), M)
noncomputable def zf_84_J166 (x1 : Int32) (M : jb_Mi) : Option ((Int32 × jb_Mi) ⊕ (Int32 × jb_Mi)) :=
  jb_gd x1 16 ((zf_79 40 (jb_up M 56 x1.toNatClampNeg (M 51 5))).bind fun q5 => if (jb_b2i q5.1) = 0 then ((zf_84_J208 q5.2).map .inr) else (zfr_LT 40 2 1 q5.2).bind fun q6 => if (jb_b2i q6.1) = 0 then ((zf_84_J208 q6.2).map .inr) else (zf_79 41 q6.2).bind fun q7 => if (jb_b2i q7.1) = 0 then ((zf_84_J208 q7.2).map .inr) else (zf_70 0 0 q7.2).bind fun q8 => (zf_30 ((jb_up q8.2 51 6 (x1 + 1)) 50 2) (jb_up q8.2 51 6 (x1 + 1))).bind fun q9 => if q9 = (-1) then some (.inr (((jb_up q8.2 51 6 (x1 + 1)) 51 6), (jb_up q8.2 51 6 (x1 + 1)))) else (zf_79 59 (jb_up q8.2 51 6 (x1 + 1))).bind fun q10 => if (jb_b2i q10.1) = 0 then some (.inr ((zf_74 (q10.2 50 3) (q10.2 50 2)), q10.2)) else some (.inl ((x1 + 1), q10.2)))
noncomputable def zf_84_J79 (x1 : Int32) (x2 : Int32) (M : jb_Mi) : Option ((Int32 × jb_Mi) ⊕ (Int32 × jb_Mi)) :=
  if x1 = 16 then some (.inr ((zf_74 4 (M 50 2)), M)) else jb_gd x1 16 (jb_gd x1 16 (if x2 = 120 then zf_84_J166 x1 (jb_up (jb_up (jb_up M 50 2 ((M 50 2) + 1)) 54 x1.toNatClampNeg x2) 55 x1.toNatClampNeg ((jb_up (jb_up M 50 2 ((M 50 2) + 1)) 54 x1.toNatClampNeg x2) 51 5)) else (zfr_LT 40 0 0 (jb_up (jb_up (jb_up M 50 2 ((M 50 2) + 1)) 54 x1.toNatClampNeg x2) 55 x1.toNatClampNeg ((jb_up (jb_up M 50 2 ((M 50 2) + 1)) 54 x1.toNatClampNeg x2) 51 5))).bind fun q11 => if (jb_b2i q11.1) = 0 then some (.inr ((zf_74 (q11.2 50 3) (q11.2 50 2)), q11.2)) else (zf_70 0 0 q11.2).bind fun q12 => zf_84_J166 x1 q12.2))
noncomputable def zf_84_H28 (s : Int32 × jb_Mi) : Option ((Int32 × jb_Mi) ⊕ (Int32 × jb_Mi)) :=
  if 16 < s.1 then some (.inr ((zf_74 (s.2 50 3) (s.2 50 2)), s.2)) else (zf_30 (s.2 50 2) s.2).bind fun q1 => if q1 = 116 then zf_84_J79 s.1 q1 s.2 else if q1 = 121 then zf_84_J79 s.1 q1 s.2 else if q1 = 100 then zf_84_J79 s.1 q1 s.2 else if q1 = 120 then zf_84_J79 s.1 q1 s.2 else some (.inr ((zf_74 1 (s.2 50 2)), s.2))
noncomputable def zf_84 (M : jb_Mi) : Option (Int32 × jb_Mi) :=
  jb_lp (zf_84_H28) (0, (jb_up (jb_up (jb_up (jb_up M 50 2 0) 50 3 0) 51 5 0) 51 6 0))
-- X12_isMan
noncomputable def zf_86 (x0 : Int32) : Bool :=
  if x0 < 97 then false else if 112 < x0 then false else true
-- X7_fail
noncomputable def zf_87 (x1 : Int32) (x2 : Int32) (M : jb_Mi) : Bool × jb_Mi :=
  (false, (jb_up M 43 3 (zf_74 x1 x2)))
-- X7_readNumber
noncomputable def zf_88_J71 (x1 : Int32) (x2 : Int32) (M : jb_Mi) : Option ((Int32 × Int32 × jb_Mi) ⊕ (Int32 × jb_Mi)) :=
  some (.inl (x1, (x2 + 1), M))
noncomputable def zf_88_H4 (s : Int32 × Int32 × jb_Mi) : Option ((Int32 × Int32 × jb_Mi) ⊕ (Int32 × jb_Mi)) :=
  if 2 < s.2.1 then some (.inr ((-1), (zf_87 2 (s.2.2 43 2) s.2.2).2)) else (zf_30 (s.2.2 43 2) s.2.2).bind fun q1 => if (jb_b2i (zf_76 q1)) = 0 then if 0 < s.2.1 then some (.inr (s.1, s.2.2)) else some (.inr ((-1), (zf_87 1 (s.2.2 43 2) s.2.2).2)) else if s.2.1 < 2 then zf_88_J71 (((10 * s.1) + q1) - 48) s.2.1 (jb_up s.2.2 43 2 ((s.2.2 43 2) + 1)) else zf_88_J71 s.1 s.2.1 s.2.2
noncomputable def zf_88 (M : jb_Mi) : Option (Int32 × jb_Mi) :=
  jb_lp (zf_88_H4) (0, 0, M)
-- X7_readRest
noncomputable def zf_89 (M : jb_Mi) : Option (Bool × jb_Mi) :=
  (zf_30 (M 43 2) M).bind fun q1 => (zf_18 24 (q1 - 97) M).bind fun q2 => if (jb_b2i q2) = 0 then some ((zf_87 7 (M 43 2) M).1, (zf_87 7 (M 43 2) M).2) else (zf_88 (jb_up M 43 2 ((M 43 2) + 1))).bind fun q3 => if q3.1 < 0 then some (false, q3.2) else jb_gd (q1 - 97) 16 (jb_gd (q1 - 97) 16 (some (true, (jb_up q3.2 33 ((q1 - 97)).toNatClampNeg (zf_271 0 ((q3.2 33 ((q1 - 97)).toNatClampNeg) - q3.1))))))
-- X7_readSpot
noncomputable def zf_90_J73 (x1 : Int32) (x2 : Int32) (M : jb_Mi) : Option ((Int32 × jb_Mi) ⊕ (Bool × jb_Mi)) :=
  some (.inl ((x2 + 1), (jb_up M 43 2 ((M 43 2) + 1))))
noncomputable def zf_90_H2 (x1 : Int32) (s : Int32 × jb_Mi) : Option ((Int32 × jb_Mi) ⊕ (Bool × jb_Mi)) :=
  if s.1 < 2 then (zf_30 (s.2 43 2) s.2).bind fun q1 => if (jb_b2i (zf_23 q1 48 56)) = 0 then some (.inr ((zf_87 1 (s.2 43 2) s.2).1, (zf_87 1 (s.2 43 2) s.2).2)) else if s.1 = 0 then jb_gd x1 24 (zf_90_J73 x1 s.1 (jb_up s.2 29 x1.toNatClampNeg (q1 - 48))) else jb_gd x1 24 (zf_90_J73 x1 s.1 (jb_up s.2 30 x1.toNatClampNeg (q1 - 48))) else some (.inr (true, s.2))
noncomputable def zf_90 (x1 : Int32) (M : jb_Mi) : Option (Bool × jb_Mi) :=
  jb_lp (zf_90_H2 x1) (0, M)
-- X7_readHouse
noncomputable def zf_91 (x1 : Int32) (M : jb_Mi) : Option (Bool × jb_Mi) :=
  (zf_30 (M 43 2) M).bind fun q1 => if (jb_b2i (zf_23 q1 48 53)) = 0 then some ((zf_87 1 (M 43 2) M).1, (zf_87 1 (M 43 2) M).2) else (zf_2 24 (q1 - 48) M).bind fun q2 => if (jb_b2i q2) = 0 then some ((zf_87 7 (M 43 2) M).1, (zf_87 7 (M 43 2) M).2) else jb_gd x1 24 (some (true, (jb_up (jb_up M 28 x1.toNatClampNeg (q1 - 48)) 43 2 (((jb_up M 28 x1.toNatClampNeg (q1 - 48)) 43 2) + 1))))
-- X7_readThing
noncomputable def zf_92 (M : jb_Mi) : Option (Bool × jb_Mi) :=
  (zf_88 M).bind fun q1 => if q1.1 < 0 then some (false, q1.2) else (zf_3 24 q1.1 q1.2).bind fun q2 => if (jb_b2i q2) = 0 then some ((zf_87 7 (M 43 2) q1.2).1, (zf_87 7 (M 43 2) q1.2).2) else (zf_30 (q1.2 43 2) q1.2).bind fun q3 => if q3 = 33 then jb_gd q1.1 24 (some (true, (jb_up (jb_up q1.2 43 2 ((q1.2 43 2) + 1)) 31 (q1.1).toNatClampNeg 0))) else if q3 = 62 then (zf_90 q1.1 (jb_up q1.2 43 2 ((q1.2 43 2) + 1))).bind fun q5 => some (q5.1, q5.2) else if q3 = 64 then (zf_91 q1.1 (jb_up q1.2 43 2 ((q1.2 43 2) + 1))).bind fun q6 => some (q6.1, q6.2) else some ((zf_87 1 (q1.2 43 2) q1.2).1, (zf_87 1 (q1.2 43 2) q1.2).2)
-- X7_read
noncomputable def zf_93_J97 (x1 : Int32) (M : jb_Mi) : Option ((Int32 × jb_Mi) ⊕ (Int32 × jb_Mi)) :=
  (zf_30 (M 43 2) M).bind fun q3 => if q3 = (-1) then some (.inr ((x1 + 1), M)) else (zf_30 (M 43 2) M).bind fun q4 => if q4 = 59 then some (.inl ((x1 + 1), (jb_up M 43 2 ((M 43 2) + 1)))) else some (.inr ((zf_74 1 (M 43 2)), M))
noncomputable def zf_93_J53 (x1 : Int32) (x2 : Int32) (M : jb_Mi) : Option ((Int32 × jb_Mi) ⊕ (Int32 × jb_Mi)) :=
  if x1 = 20 then some (.inr ((zf_74 4 (M 43 2)), M)) else if (jb_b2i (zf_86 x2)) = 0 then (zf_92 M).bind fun q2 => if (jb_b2i q2.1) = 0 then some (.inr ((q2.2 43 3), q2.2)) else zf_93_J97 x1 q2.2 else (zf_89 M).bind fun q5 => if (jb_b2i q5.1) = 0 then some (.inr ((q5.2 43 3), q5.2)) else zf_93_J97 x1 q5.2
noncomputable def zf_93_H12 (s : Int32 × jb_Mi) : Option ((Int32 × jb_Mi) ⊕ (Int32 × jb_Mi)) :=
  if 20 < s.1 then some (.inr ((s.2 43 3), s.2)) else (zf_30 (s.2 43 2) s.2).bind fun q1 => if (jb_b2i (zf_86 q1)) = 0 then if (jb_b2i (zf_76 q1)) = 0 then some (.inr ((zf_74 1 (s.2 43 2)), s.2)) else zf_93_J53 s.1 q1 s.2 else zf_93_J53 s.1 q1 s.2
noncomputable def zf_93 (M : jb_Mi) : Option (Int32 × jb_Mi) :=
  jb_lp (zf_93_H12) (0, (jb_up (jb_up M 43 2 0) 43 3 0))
-- X8_add
noncomputable def zf_95_H15 (x1 : Int32) (x2 : Int32) (s : Int32 × jb_Mi) : Option ((Int32 × jb_Mi) ⊕ (Bool × jb_Mi)) :=
  if s.1 < x2 then jb_gd (s.2 34 3) 48 (some (.inl ((s.1 + 1), (jb_up (jb_up s.2 37 ((s.2 34 3)).toNatClampNeg x1) 34 3 (((jb_up s.2 37 ((s.2 34 3)).toNatClampNeg x1) 34 3) + 1))))) else some (.inr (true, s.2))
noncomputable def zf_95 (x1 : Int32) (x2 : Int32) (M : jb_Mi) : Option (Bool × jb_Mi) :=
  if 48 < ((M 34 3) + x2) then some (false, M) else jb_lp (zf_95_H15 x1 x2) (0, M)
-- X8_begin
noncomputable def zf_96 (x1 : Int32) (x2 : Int32) (M : jb_Mi) : Option (Bool × jb_Mi) :=
  if (M 34 7) < 2 then jb_gd (M 34 7) 2 (jb_gd ((jb_up M 38 ((M 34 7)).toNatClampNeg x1) 34 7) 2 (jb_gd ((jb_up (jb_up M 38 ((M 34 7)).toNatClampNeg x1) 39 (((jb_up M 38 ((M 34 7)).toNatClampNeg x1) 34 7)).toNatClampNeg x2) 34 7) 2 (some (true, (jb_up (jb_up (jb_up (jb_up M 38 ((M 34 7)).toNatClampNeg x1) 39 (((jb_up M 38 ((M 34 7)).toNatClampNeg x1) 34 7)).toNatClampNeg x2) 40 (((jb_up (jb_up M 38 ((M 34 7)).toNatClampNeg x1) 39 (((jb_up M 38 ((M 34 7)).toNatClampNeg x1) 34 7)).toNatClampNeg x2) 34 7)).toNatClampNeg ((jb_up (jb_up M 38 ((M 34 7)).toNatClampNeg x1) 39 (((jb_up M 38 ((M 34 7)).toNatClampNeg x1) 34 7)).toNatClampNeg x2) 34 3)) 34 7 (((jb_up (jb_up (jb_up M 38 ((M 34 7)).toNatClampNeg x1) 39 (((jb_up M 38 ((M 34 7)).toNatClampNeg x1) 34 7)).toNatClampNeg x2) 40 (((jb_up (jb_up M 38 ((M 34 7)).toNatClampNeg x1) 39 (((jb_up M 38 ((M 34 7)).toNatClampNeg x1) 34 7)).toNatClampNeg x2) 34 7)).toNatClampNeg ((jb_up (jb_up M 38 ((M 34 7)).toNatClampNeg x1) 39 (((jb_up M 38 ((M 34 7)).toNatClampNeg x1) 34 7)).toNatClampNeg x2) 34 3)) 34 7) + 1)))))) else some (false, M)
-- X8_canEnd
noncomputable def zf_97 (M : jb_Mi) : Option (Bool) :=
  if 0 < (M 34 7) then if 2 < (M 34 7) then some false else jb_gd ((M 34 7) - 1) 2 (if (M 40 (((M 34 7) - 1)).toNatClampNeg) < (M 34 3) then some true else some false) else some false
-- X8_repeat
noncomputable def zf_98_H35 (x1 : Int32) (x3 : Int32) (s : Int32 × jb_Mi) : Option ((Int32 × jb_Mi) ⊕ (Bool × jb_Mi)) :=
  if s.1 < x3 then jb_gd (x1 + s.1) 48 (jb_gd (s.2 34 3) 48 (some (.inl ((s.1 + 1), (jb_up (jb_up s.2 37 ((s.2 34 3)).toNatClampNeg (s.2 37 ((x1 + s.1)).toNatClampNeg)) 34 3 (((jb_up s.2 37 ((s.2 34 3)).toNatClampNeg (s.2 37 ((x1 + s.1)).toNatClampNeg)) 34 3) + 1)))))) else some (.inr (true, s.2))
noncomputable def zf_98 (x1 : Int32) (x2 : Int32) (M : jb_Mi) : Option (Bool × jb_Mi) :=
  if x1 < 0 then some (false, M) else if (((M 34 3) - x1) * (x2 - 1)) < 0 then some (false, M) else if 48 < ((M 34 3) + (((M 34 3) - x1) * (x2 - 1))) then some (false, M) else jb_lp (zf_98_H35 x1 (((M 34 3) - x1) * (x2 - 1))) (0, M)
-- X8_read
noncomputable def zf_99_J253 (x2 : Int32) (x3 : Int32) (x7 : Int32) (x8 : Int32) (M : jb_Mi) : Option ((Int32 × Int32 × jb_Mi) ⊕ (Int32 × jb_Mi)) :=
  if x7 = 0 then some (.inl (x2, (x3 + 1), M)) else some (.inr ((zf_74 x7 x8), M))
noncomputable def zf_99_J134 (x3 : Int32) (x5 : Int32) (s0 : Int32) (M : jb_Mi) : Option ((Int32 × Int32 × jb_Mi) ⊕ (Int32 × jb_Mi)) :=
  zf_99_J253 0 x3 s0 x5 M
noncomputable def zf_99_J120 (x3 : Int32) (x5 : Int32) (x6 : Int32) (s1 : Int32) (M : jb_Mi) : Option ((Int32 × Int32 × jb_Mi) ⊕ (Int32 × jb_Mi)) :=
  (zf_95 s1 x6 M).bind fun q2 => if (jb_b2i q2.1) = 0 then zf_99_J134 x3 x5 6 q2.2 else zf_99_J134 x3 x5 0 q2.2
noncomputable def zf_99_J102 (x3 : Int32) (x4 : Int32) (x5 : Int32) (x6 : Int32) (M : jb_Mi) : Option ((Int32 × Int32 × jb_Mi) ⊕ (Int32 × jb_Mi)) :=
  if x4 = 46 then zf_99_J120 x3 x5 x6 (-2) M else zf_99_J120 x3 x5 x6 (x4 - 97) M
noncomputable def zf_99_J168 (x3 : Int32) (x8 : Int32) (s0 : Int32) (M : jb_Mi) : Option ((Int32 × Int32 × jb_Mi) ⊕ (Int32 × jb_Mi)) :=
  zf_99_J253 0 x3 s0 x8 M
noncomputable def zf_99_J250 (x2 : Int32) (x3 : Int32) (x8 : Int32) (M : jb_Mi) : Option ((Int32 × Int32 × jb_Mi) ⊕ (Int32 × jb_Mi)) :=
  zf_99_J253 x2 x3 1 x8 M
noncomputable def zf_99_J245 (x2 : Int32) (x3 : Int32) (x8 : Int32) (s0 : Int32) (M : jb_Mi) : Option ((Int32 × Int32 × jb_Mi) ⊕ (Int32 × jb_Mi)) :=
  zf_99_J253 x2 x3 s0 x8 M
noncomputable def zf_99_J76 (x3 : Int32) (x4 : Int32) (x8 : Int32) (s0 : Int32) (M : jb_Mi) : Option ((Int32 × Int32 × jb_Mi) ⊕ (Int32 × jb_Mi)) :=
  zf_99_J253 (x4 - 48) x3 s0 x8 M
noncomputable def zf_99_J40 (x2 : Int32) (x3 : Int32) (x4 : Int32) (s0 : Int32) (M : jb_Mi) : Option ((Int32 × Int32 × jb_Mi) ⊕ (Int32 × jb_Mi)) :=
  if (jb_b2i (zf_23 x4 50 57)) = 0 then if (jb_b2i (zf_86 x4)) = 0 then if x4 = 46 then zf_99_J102 x3 x4 s0 (zf_271 1 x2) M else if x4 = 40 then (zf_96 s0 (zf_271 1 x2) M).bind fun q3 => if (jb_b2i q3.1) = 0 then zf_99_J168 x3 x3 5 q3.2 else zf_99_J168 x3 x3 0 q3.2 else if x4 = 41 then if x2 = 0 then (zf_97 M).bind fun q4 => if (jb_b2i q4) = 0 then zf_99_J250 x2 x3 x3 M else jb_gd ((jb_up M 34 7 ((M 34 7) - 1)) 34 7) 2 (jb_gd ((jb_up M 34 7 ((M 34 7) - 1)) 34 7) 2 (jb_gd ((jb_up M 34 7 ((M 34 7) - 1)) 34 7) 2 ((zf_98 ((jb_up M 34 7 ((M 34 7) - 1)) 40 (((jb_up M 34 7 ((M 34 7) - 1)) 34 7)).toNatClampNeg) ((jb_up M 34 7 ((M 34 7) - 1)) 39 (((jb_up M 34 7 ((M 34 7) - 1)) 34 7)).toNatClampNeg) (jb_up M 34 7 ((M 34 7) - 1))).bind fun q8 => if (jb_b2i q8.1) = 0 then zf_99_J245 x2 x3 ((jb_up M 34 7 ((M 34 7) - 1)) 38 (((jb_up M 34 7 ((M 34 7) - 1)) 34 7)).toNatClampNeg) 6 q8.2 else zf_99_J245 x2 x3 ((jb_up M 34 7 ((M 34 7) - 1)) 38 (((jb_up M 34 7 ((M 34 7) - 1)) 34 7)).toNatClampNeg) 0 q8.2))) else zf_99_J250 x2 x3 x3 M else zf_99_J250 x2 x3 x3 M else zf_99_J102 x3 x4 s0 (zf_271 1 x2) M else if x2 = 0 then zf_99_J76 x3 x4 x3 0 M else zf_99_J76 x3 x4 x3 1 M
noncomputable def zf_99_J290 (M : jb_Mi) : Option (Int32 × jb_Mi) :=
  some ((zf_74 1 (M 2 1)), M)
noncomputable def zf_99_H14 (s : Int32 × Int32 × jb_Mi) : Option ((Int32 × Int32 × jb_Mi) ⊕ (Int32 × jb_Mi)) :=
  if s.2.1 < (s.2.2 2 1) then (zf_30 s.2.1 s.2.2).bind fun q1 => if s.1 = 0 then zf_99_J40 s.1 s.2.1 q1 s.2.1 s.2.2 else zf_99_J40 s.1 s.2.1 q1 (s.2.1 - 1) s.2.2 else if s.1 = 0 then if (s.2.2 34 7) = 0 then if (s.2.2 34 3) = 0 then ((zf_99_J290 s.2.2).map .inr) else some (.inr ((s.2.2 34 3), s.2.2)) else ((zf_99_J290 s.2.2).map .inr) else ((zf_99_J290 s.2.2).map .inr)
noncomputable def zf_99 (M : jb_Mi) : Option (Int32 × jb_Mi) :=
  jb_lp (zf_99_H14) (0, 0, (jb_up (jb_up M 34 3 0) 34 7 0))
-- X8_post
noncomputable def zf_100 (x1 : Int32) (M : jb_Mi) : Option (jb_Mi) :=
  if (jb_b2i (zf_23 x1 0 23)) = 0 then some M else jb_gc 0 (x1 * 48) (M 34 3) 48 1152 (jb_gd x1 24 (some (jb_up (jb_cp M 37 35 0 ((x1 * 48)).toNatClampNeg ((M 34 3)).toNatClampNeg) 36 x1.toNatClampNeg ((jb_cp M 37 35 0 ((x1 * 48)).toNatClampNeg ((M 34 3)).toNatClampNeg) 34 3))))
-- X9_copy
noncomputable def zf_102 (o : Nat) (o2 : Nat) (M : jb_Mi) : jb_Mi :=
  (jb_up (jb_up (jb_up (jb_cp (jb_cp (jb_cp (jb_cp (jb_cp (jb_cp (jb_cp (jb_cp (jb_cp M (o2 + 1) (o + 1) 0 0 6) (o2 + 2) (o + 2) 0 0 6) (o2 + 3) (o + 3) 0 0 6) (o2 + 4) (o + 4) 0 0 24) (o2 + 5) (o + 5) 0 0 24) (o2 + 6) (o + 6) 0 0 24) (o2 + 7) (o + 7) 0 0 24) (o2 + 8) (o + 8) 0 0 16) (o2 + 9) (o + 9) 0 0 16) o 9 ((jb_cp (jb_cp (jb_cp (jb_cp (jb_cp (jb_cp (jb_cp (jb_cp (jb_cp M (o2 + 1) (o + 1) 0 0 6) (o2 + 2) (o + 2) 0 0 6) (o2 + 3) (o + 3) 0 0 6) (o2 + 4) (o + 4) 0 0 24) (o2 + 5) (o + 5) 0 0 24) (o2 + 6) (o + 6) 0 0 24) (o2 + 7) (o + 7) 0 0 24) (o2 + 8) (o + 8) 0 0 16) (o2 + 9) (o + 9) 0 0 16) o2 9)) o 10 ((jb_up (jb_cp (jb_cp (jb_cp (jb_cp (jb_cp (jb_cp (jb_cp (jb_cp (jb_cp M (o2 + 1) (o + 1) 0 0 6) (o2 + 2) (o + 2) 0 0 6) (o2 + 3) (o + 3) 0 0 6) (o2 + 4) (o + 4) 0 0 24) (o2 + 5) (o + 5) 0 0 24) (o2 + 6) (o + 6) 0 0 24) (o2 + 7) (o + 7) 0 0 24) (o2 + 8) (o + 8) 0 0 16) (o2 + 9) (o + 9) 0 0 16) o 9 ((jb_cp (jb_cp (jb_cp (jb_cp (jb_cp (jb_cp (jb_cp (jb_cp (jb_cp M (o2 + 1) (o + 1) 0 0 6) (o2 + 2) (o + 2) 0 0 6) (o2 + 3) (o + 3) 0 0 6) (o2 + 4) (o + 4) 0 0 24) (o2 + 5) (o + 5) 0 0 24) (o2 + 6) (o + 6) 0 0 24) (o2 + 7) (o + 7) 0 0 24) (o2 + 8) (o + 8) 0 0 16) (o2 + 9) (o + 9) 0 0 16) o2 9)) o2 10)) o 11 ((jb_up (jb_up (jb_cp (jb_cp (jb_cp (jb_cp (jb_cp (jb_cp (jb_cp (jb_cp (jb_cp M (o2 + 1) (o + 1) 0 0 6) (o2 + 2) (o + 2) 0 0 6) (o2 + 3) (o + 3) 0 0 6) (o2 + 4) (o + 4) 0 0 24) (o2 + 5) (o + 5) 0 0 24) (o2 + 6) (o + 6) 0 0 24) (o2 + 7) (o + 7) 0 0 24) (o2 + 8) (o + 8) 0 0 16) (o2 + 9) (o + 9) 0 0 16) o 9 ((jb_cp (jb_cp (jb_cp (jb_cp (jb_cp (jb_cp (jb_cp (jb_cp (jb_cp M (o2 + 1) (o + 1) 0 0 6) (o2 + 2) (o + 2) 0 0 6) (o2 + 3) (o + 3) 0 0 6) (o2 + 4) (o + 4) 0 0 24) (o2 + 5) (o + 5) 0 0 24) (o2 + 6) (o + 6) 0 0 24) (o2 + 7) (o + 7) 0 0 24) (o2 + 8) (o + 8) 0 0 16) (o2 + 9) (o + 9) 0 0 16) o2 9)) o 10 ((jb_up (jb_cp (jb_cp (jb_cp (jb_cp (jb_cp (jb_cp (jb_cp (jb_cp (jb_cp M (o2 + 1) (o + 1) 0 0 6) (o2 + 2) (o + 2) 0 0 6) (o2 + 3) (o + 3) 0 0 6) (o2 + 4) (o + 4) 0 0 24) (o2 + 5) (o + 5) 0 0 24) (o2 + 6) (o + 6) 0 0 24) (o2 + 7) (o + 7) 0 0 24) (o2 + 8) (o + 8) 0 0 16) (o2 + 9) (o + 9) 0 0 16) o 9 ((jb_cp (jb_cp (jb_cp (jb_cp (jb_cp (jb_cp (jb_cp (jb_cp (jb_cp M (o2 + 1) (o + 1) 0 0 6) (o2 + 2) (o + 2) 0 0 6) (o2 + 3) (o + 3) 0 0 6) (o2 + 4) (o + 4) 0 0 24) (o2 + 5) (o + 5) 0 0 24) (o2 + 6) (o + 6) 0 0 24) (o2 + 7) (o + 7) 0 0 24) (o2 + 8) (o + 8) 0 0 16) (o2 + 9) (o + 9) 0 0 16) o2 9)) o2 10)) o2 11))
-- X9_menBits
noncomputable def zf_103_J26 (o : Nat) (x2 : Int32) (s0 : Int32) (s1 : Int32) (M : jb_Mi) : Option ((Int32 × Int32) ⊕ (Int32)) :=
  some (.inl ((s0 ||| s1), (x2 + 1)))
noncomputable def zf_103_H4 (o : Nat) (M : jb_Mi) (s : Int32 × Int32) : Option ((Int32 × Int32) ⊕ (Int32)) :=
  if s.2 < 16 then (zf_18 o s.2 M).bind fun q1 => if (jb_b2i q1) = 0 then zf_103_J26 o s.2 s.1 0 M else zf_103_J26 o s.2 s.1 ((1 : Int32) <<< (s.2 &&& 31)) M else some (.inr s.1)
noncomputable def zf_103 (o : Nat) (M : jb_Mi) : Option (Int32) :=
  jb_lp (zf_103_H4 o M) (0, 0)
-- X9_fourTold
noncomputable def zf_104 (o : Nat) (x1 : Int32) (M : jb_Mi) : Option (Bool) :=
  if (zf_26 x1) = 4 then (zf_103 o M).bind fun q1 => if (x1 &&& (q1 ^^^ (-1))) = 0 then some true else some false else some false
-- X9_houseBits
noncomputable def zf_105_J26 (o : Nat) (x2 : Int32) (s0 : Int32) (s1 : Int32) (M : jb_Mi) : Option ((Int32 × Int32) ⊕ (Int32)) :=
  some (.inl ((s0 ||| s1), (x2 + 1)))
noncomputable def zf_105_H4 (o : Nat) (M : jb_Mi) (s : Int32 × Int32) : Option ((Int32 × Int32) ⊕ (Int32)) :=
  if s.2 < 6 then (zf_2 o s.2 M).bind fun q1 => if (jb_b2i q1) = 0 then zf_105_J26 o s.2 s.1 0 M else zf_105_J26 o s.2 s.1 ((1 : Int32) <<< (s.2 &&& 31)) M else some (.inr s.1)
noncomputable def zf_105 (o : Nat) (M : jb_Mi) : Option (Int32) :=
  jb_lp (zf_105_H4 o M) (0, 0)
-- X9_thingsTold
noncomputable def zf_106_J24 (o : Nat) (x2 : Int32) (s0 : Int32) (s1 : Int32) (M : jb_Mi) : Option ((Int32 × Int32) ⊕ (Int32)) :=
  some (.inl ((s0 + s1), (x2 + 1)))
noncomputable def zf_106_H4 (o : Nat) (M : jb_Mi) (s : Int32 × Int32) : Option ((Int32 × Int32) ⊕ (Int32)) :=
  if s.2 < 24 then (zf_3 o s.2 M).bind fun q1 => if (jb_b2i q1) = 0 then zf_106_J24 o s.2 s.1 0 M else zf_106_J24 o s.2 s.1 1 M else some (.inr s.1)
noncomputable def zf_106 (o : Nat) (M : jb_Mi) : Option (Int32) :=
  jb_lp (zf_106_H4 o M) (0, 0)
-- X9_weightIn
noncomputable def zf_107_J30 (o : Nat) (x1 : Int32) (x3 : Int32) (s0 : Int32) (s1 : Int32) (M : jb_Mi) : Option ((Int32 × Int32) ⊕ (Int32)) :=
  some (.inl ((s0 + s1), (x3 + 1)))
noncomputable def zf_107_H4 (o : Nat) (x1 : Int32) (M : jb_Mi) (s : Int32 × Int32) : Option ((Int32 × Int32) ⊕ (Int32)) :=
  if s.2 < 24 then (zf_4 o s.2 x1 M).bind fun q1 => if (jb_b2i q1) = 0 then zf_107_J30 o x1 s.2 s.1 0 M else jb_gd s.2 24 (zf_107_J30 o x1 s.2 s.1 (M (o + 7) (s.2).toNatClampNeg) M) else some (.inr s.1)
noncomputable def zf_107 (o : Nat) (x1 : Int32) (M : jb_Mi) : Option (Int32) :=
  jb_lp (zf_107_H4 o x1 M) (0, 0)
-- X9_unevenness
noncomputable def zf_108_H12 (o : Nat) (x1 : Int32) (M : jb_Mi) (s : Int32 × Int32 × Int32) : Option ((Int32 × Int32 × Int32) ⊕ (Int32)) :=
  if s.2.2 < 4 then (zf_7 o x1 s.2.2 M).bind fun q2 => some (.inl ((zf_272 s.1 q2), (zf_271 s.2.1 q2), (s.2.2 + 1))) else some (.inr (s.2.1 - s.1))
noncomputable def zf_108 (o : Nat) (x1 : Int32) (M : jb_Mi) : Option (Int32) :=
  (zf_7 o x1 0 M).bind fun q1 => jb_lp (zf_108_H12 o x1 M) (q1, q1, 1)
-- X9_heaviestCorner
noncomputable def zf_109_J35 (o : Nat) (x1 : Int32) (x2 : Int32) (x3 : Int32) (M : jb_Mi) : Option ((Int32 × Int32 × Int32) ⊕ (Int32)) :=
  some (.inl (x1, x2, (x3 + 1)))
noncomputable def zf_109_H6 (o : Nat) (M : jb_Mi) (s : Int32 × Int32 × Int32) : Option ((Int32 × Int32 × Int32) ⊕ (Int32)) :=
  if s.2.2 < 24 then (zf_7 o (s.2.2 / 4) (s.2.2 - s.2.2 / 4 * 4) M).bind fun q1 => if s.2.1 < q1 then zf_109_J35 o s.2.2 q1 s.2.2 M else zf_109_J35 o s.1 s.2.1 s.2.2 M else some (.inr s.1)
noncomputable def zf_109 (o : Nat) (M : jb_Mi) : Option (Int32) :=
  jb_lp (zf_109_H6 o M) ((-1), 0, 0)
-- X9_isOver
noncomputable def zf_110 (o : Nat) (M : jb_Mi) : Bool :=
  if (M o 10) < 9999 then false else if (M o 9) < 23 then false else true
-- X9_tick
noncomputable def zf_111 (o : Nat) (M : jb_Mi) : jb_Mi :=
  if ((jb_up M o 9 ((M o 9) + 1)) o 9) < 24 then (jb_up M o 9 ((M o 9) + 1)) else (jb_up (jb_up (jb_up M o 9 ((M o 9) + 1)) o 9 0) o 10 (((jb_up (jb_up M o 9 ((M o 9) + 1)) o 9 0) o 10) + 1))
-- X9_draw
noncomputable def zf_112 (o : Nat) (M : jb_Mi) : Int32 × jb_Mi :=
  ((((jb_up M o 11 (((25173 * (M o 11)) + 13849) - ((25173 * (M o 11)) + 13849) / 65536 * 65536)) o 11) - ((jb_up M o 11 (((25173 * (M o 11)) + 13849) - ((25173 * (M o 11)) + 13849) / 65536 * 65536)) o 11) / 10 * 10), (jb_up M o 11 (((25173 * (M o 11)) + 13849) - ((25173 * (M o 11)) + 13849) / 65536 * 65536)))
-- X10_hasRoom
noncomputable def zf_114 (M : jb_Mi) : Bool :=
  if 260 < ((M 2 1) + 20) then false else true
-- X10_put
noncomputable def zf_115_J43 (x1 : Int32) (x2 : Int32) (M : jb_Mi) : Option ((Int32 × jb_Mi) ⊕ (jb_Mi)) :=
  some (.inl ((x2 + (-8)), M))
noncomputable def zf_115_H3 (x1 : Int32) (s : Int32 × jb_Mi) : Option ((Int32 × jb_Mi) ⊕ (jb_Mi)) :=
  if s.1 < 0 then some (.inr s.2) else if (s.2 2 1) < 260 then jb_gd (s.2 2 1) 260 (zf_115_J43 x1 s.1 (jb_up (jb_up s.2 3 ((s.2 2 1)).toNatClampNeg (((x1 : Int32).toUInt32 >>> ((s.1 : Int32).toUInt32 &&& Int32.toUInt32 31)).toInt32 &&& 255)) 2 1 (((jb_up s.2 3 ((s.2 2 1)).toNatClampNeg (((x1 : Int32).toUInt32 >>> ((s.1 : Int32).toUInt32 &&& Int32.toUInt32 31)).toInt32 &&& 255)) 2 1) + 1))) else zf_115_J43 x1 s.1 s.2
noncomputable def zf_115 (x1 : Int32) (M : jb_Mi) : Option (jb_Mi) :=
  jb_lp (zf_115_H3 x1) (24, M)
-- X10_offers
noncomputable def zf_116 (x1 : Int32) (M : jb_Mi) : Bool :=
  if (M 2 1) < x1 then false else true
-- X10_cut
noncomputable def zf_117 (x1 : Int32) (M : jb_Mi) : jb_Mi :=
  (jb_up M 2 1 (zf_271 0 (zf_272 (M 2 1) x1)))
-- X11_begin
noncomputable def zf_119_H22 (w : Nat) (o : Nat) (s : Int32 × jb_Mi) : Option ((Int32 × jb_Mi) ⊕ (jb_Mi)) :=
  if s.1 < 24 then (zf_7 o (s.1 / 4) (s.1 - s.1 / 4 * 4) s.2).bind fun q1 => jb_gd s.1 24 (some (.inl ((s.1 + 1), (jb_up s.2 (w + 1) (s.1).toNatClampNeg q1)))) else some (.inr s.2)
noncomputable def zf_119 (w : Nat) (o : Nat) (M : jb_Mi) : Option (jb_Mi) :=
  jb_lp (zf_119_H22 w o) (0, (jb_up (jb_up (jb_up (jb_up M w 5 0) w 6 0) w 7 0) w 8 0))
-- X11_sag
noncomputable def zf_120_J56 (w : Nat) (o : Nat) (s1 : Int32) (s2 : Int32) (M : jb_Mi) : Option (jb_Mi) :=
  some (jb_up M w 8 (s1 + s2))
noncomputable def zf_120 (w : Nat) (o : Nat) (x1 : Int32) (M : jb_Mi) : Option (jb_Mi) :=
  (zf_37 o x1 M).bind fun q1 => if (jb_b2i q1) = 0 then some M else jb_gd x1 6 (jb_gd x1 6 ((zf_37 o x1 (jb_up (jb_up M (o + 3) x1.toNatClampNeg ((M (o + 3) x1.toNatClampNeg) + 1)) w 5 (((jb_up M (o + 3) x1.toNatClampNeg ((M (o + 3) x1.toNatClampNeg) + 1)) w 5) + 1))).bind fun q4 => if (jb_b2i q4) = 0 then zf_120_J56 w o ((jb_up (jb_up M (o + 3) x1.toNatClampNeg ((M (o + 3) x1.toNatClampNeg) + 1)) w 5 (((jb_up M (o + 3) x1.toNatClampNeg ((M (o + 3) x1.toNatClampNeg) + 1)) w 5) + 1)) w 8) 1 (jb_up (jb_up M (o + 3) x1.toNatClampNeg ((M (o + 3) x1.toNatClampNeg) + 1)) w 5 (((jb_up M (o + 3) x1.toNatClampNeg ((M (o + 3) x1.toNatClampNeg) + 1)) w 5) + 1)) else zf_120_J56 w o ((jb_up (jb_up M (o + 3) x1.toNatClampNeg ((M (o + 3) x1.toNatClampNeg) + 1)) w 5 (((jb_up M (o + 3) x1.toNatClampNeg ((M (o + 3) x1.toNatClampNeg) + 1)) w 5) + 1)) w 8) 0 (jb_up (jb_up M (o + 3) x1.toNatClampNeg ((M (o + 3) x1.toNatClampNeg) + 1)) w 5 (((jb_up M (o + 3) x1.toNatClampNeg ((M (o + 3) x1.toNatClampNeg) + 1)) w 5) + 1))))
-- X11_tell
noncomputable def zf_121_J148 (w : Nat) (o : Nat) (s1 : Int32) (s2 : Int32) (M : jb_Mi) : Option (jb_Mi) :=
  jb_gd s1 10 (some (jb_up (jb_up (jb_up M 58 s1.toNatClampNeg s2) 58 8 ((jb_up M 58 s1.toNatClampNeg s2) o 9)) 58 9 (((jb_up (jb_up M 58 s1.toNatClampNeg s2) 58 8 ((jb_up M 58 s1.toNatClampNeg s2) o 9)) o 10) - ((jb_up (jb_up M 58 s1.toNatClampNeg s2) 58 8 ((jb_up M 58 s1.toNatClampNeg s2) o 9)) o 10) / 100 * 100)))
noncomputable def zf_121_J125 (w : Nat) (o : Nat) (x3 : Int32) (x4 : Int32) (s1 : Int32) (s2 : Int32) (M : jb_Mi) : Option (jb_Mi) :=
  jb_gd s1 10 (if x3 = 0 then zf_121_J148 w o 7 0 (jb_up M 58 s1.toNatClampNeg s2) else jb_gd x4 6 (zf_121_J148 w o 7 ((jb_up M 58 s1.toNatClampNeg s2) (o + 3) x4.toNatClampNeg) (jb_up M 58 s1.toNatClampNeg s2)))
noncomputable def zf_121_J102 (w : Nat) (o : Nat) (x3 : Int32) (x4 : Int32) (s1 : Int32) (s2 : Int32) (M : jb_Mi) : Option (jb_Mi) :=
  jb_gd s1 10 (if x3 = 0 then zf_121_J125 w o x3 x4 6 0 (jb_up M 58 s1.toNatClampNeg s2) else jb_gd x4 6 (zf_121_J125 w o x3 x4 6 ((jb_up M 58 s1.toNatClampNeg s2) (o + 1) x4.toNatClampNeg) (jb_up M 58 s1.toNatClampNeg s2)))
noncomputable def zf_121_J81 (w : Nat) (o : Nat) (x2 : Int32) (x3 : Int32) (x4 : Int32) (s1 : Int32) (s2 : Int32) (M : jb_Mi) : Option (jb_Mi) :=
  jb_gd s1 10 (if x3 = 0 then zf_121_J102 w o x3 x4 5 0 (jb_up (jb_up M 58 s1.toNatClampNeg s2) 58 4 x4) else zf_121_J102 w o x3 x4 5 (x2 - x2 / 4 * 4) (jb_up (jb_up M 58 s1.toNatClampNeg s2) 58 4 x4))
noncomputable def zf_121_J19 (w : Nat) (o : Nat) (x1 : Int32) (x2 : Int32) (x3 : Int32) (s0 : Int32) (M : jb_Mi) : Option (jb_Mi) :=
  jb_gd x1 16 (jb_gd x1 16 (if x3 = 0 then zf_121_J81 w o x2 x3 s0 3 0 (jb_up (jb_up (jb_up M 58 0 x1) 58 1 ((jb_up M 58 0 x1) (o + 8) x1.toNatClampNeg)) 58 2 ((jb_up (jb_up M 58 0 x1) 58 1 ((jb_up M 58 0 x1) (o + 8) x1.toNatClampNeg)) (o + 9) x1.toNatClampNeg)) else jb_gd x2 24 (zf_121_J81 w o x2 x3 s0 3 (((jb_up (jb_up (jb_up M 58 0 x1) 58 1 ((jb_up M 58 0 x1) (o + 8) x1.toNatClampNeg)) 58 2 ((jb_up (jb_up M 58 0 x1) 58 1 ((jb_up M 58 0 x1) (o + 8) x1.toNatClampNeg)) (o + 9) x1.toNatClampNeg)) (w + 1) x2.toNatClampNeg) / 64) (jb_up (jb_up (jb_up M 58 0 x1) 58 1 ((jb_up M 58 0 x1) (o + 8) x1.toNatClampNeg)) 58 2 ((jb_up (jb_up M 58 0 x1) 58 1 ((jb_up M 58 0 x1) (o + 8) x1.toNatClampNeg)) (o + 9) x1.toNatClampNeg)))))
noncomputable def zf_121 (w : Nat) (o : Nat) (x1 : Int32) (x2 : Int32) (M : jb_Mi) : Option (jb_Mi) :=
  if (jb_b2i (zf_23 x2 0 23)) = 0 then zf_121_J19 w o x1 x2 (jb_b2i (zf_23 x2 0 23)) 0 M else zf_121_J19 w o x1 x2 (jb_b2i (zf_23 x2 0 23)) (x2 / 4) M
-- X11_hold
noncomputable def zf_122_J38 (w : Nat) (o : Nat) (x1 : Int32) (M : jb_Mi) : Option (jb_Mi) :=
  (zf_120 w o (x1 / 4) (jb_up M w 7 ((M w 7) + 1))).bind fun q3 => some q3
noncomputable def zf_122_J224 (w : Nat) (o : Nat) (x1 : Int32) (M : jb_Mi) : Option (jb_Mi) :=
  (zf_120 w o (x1 / 4) M).bind fun q12 => some q12
noncomputable def zf_122_J210 (w : Nat) (o : Nat) (x1 : Int32) (x4 : Int32) (x5 : Int32) (s1 : Int32) (s2 : Int32) (M : jb_Mi) : Option (jb_Mi) :=
  if x4 = 0 then if x5 = 0 then some (jb_up M w 6 (s1 + s2)) else zf_122_J224 w o x1 (jb_up M w 6 (s1 + s2)) else zf_122_J224 w o x1 (jb_up M w 6 (s1 + s2))
noncomputable def zf_122_J193 (w : Nat) (o : Nat) (x1 : Int32) (x4 : Int32) (s0 : Int32) (M : jb_Mi) : Option (jb_Mi) :=
  if s0 = 0 then zf_122_J210 w o x1 x4 s0 (M w 6) 0 M else zf_122_J210 w o x1 x4 s0 (M w 6) 1 M
noncomputable def zf_122_J192 (w : Nat) (o : Nat) (x1 : Int32) (x4 : Int32) (M : jb_Mi) : Option (jb_Mi) :=
  zf_122_J193 w o x1 x4 0 M
noncomputable def zf_122_J160 (w : Nat) (o : Nat) (x1 : Int32) (s0 : Int32) (M : jb_Mi) : Option (jb_Mi) :=
  if s0 = 0 then (zf_68 100 10 ((zf_112 o M).2)).bind fun q11 => if (zf_112 o M).1 < q11.1 then zf_122_J193 w o x1 s0 1 q11.2 else zf_122_J192 w o x1 s0 q11.2 else zf_122_J192 w o x1 s0 M
noncomputable def zf_122_J155 (w : Nat) (o : Nat) (x1 : Int32) (M : jb_Mi) : Option (jb_Mi) :=
  zf_122_J160 w o x1 1 M
noncomputable def zf_122 (w : Nat) (o : Nat) (x1 : Int32) (M : jb_Mi) : Option (jb_Mi) :=
  (zf_17 x1 (zf_14 o M) M).bind fun q1 => (zf_18 o q1 M).bind fun q2 => if (jb_b2i q2) = 0 then zf_122_J38 w o x1 M else if (((M w 4) >>> (q1 &&& 31)) &&& 1) = 0 then (zf_121 w o q1 x1 (jb_up M w 4 ((M w 4) ||| ((1 : Int32) <<< (q1 &&& 31))))).bind fun q4 => (zf_68 116 99 q4).bind fun q5 => jb_gd q1 16 (jb_gd q1 16 (jb_gd q1 16 (jb_gd q1 16 (if ((jb_up (jb_up q5.2 (o + 9) q1.toNatClampNeg (zf_272 99 ((q5.2 (o + 9) q1.toNatClampNeg) + q5.1))) 58 2 ((jb_up q5.2 (o + 9) q1.toNatClampNeg (zf_272 99 ((q5.2 (o + 9) q1.toNatClampNeg) + q5.1))) (o + 9) q1.toNatClampNeg)) (o + 9) q1.toNatClampNeg) < 99 then (zf_67 120 (jb_up (jb_up q5.2 (o + 9) q1.toNatClampNeg (zf_272 99 ((q5.2 (o + 9) q1.toNatClampNeg) + q5.1))) 58 2 ((jb_up q5.2 (o + 9) q1.toNatClampNeg (zf_272 99 ((q5.2 (o + 9) q1.toNatClampNeg) + q5.1))) (o + 9) q1.toNatClampNeg))).bind fun q10 => if q10.1 < 0 then zf_122_J160 w o x1 0 q10.2 else zf_122_J155 w o x1 q10.2 else zf_122_J155 w o x1 (jb_up (jb_up q5.2 (o + 9) q1.toNatClampNeg (zf_272 99 ((q5.2 (o + 9) q1.toNatClampNeg) + q5.1))) 58 2 ((jb_up q5.2 (o + 9) q1.toNatClampNeg (zf_272 99 ((q5.2 (o + 9) q1.toNatClampNeg) + q5.1))) (o + 9) q1.toNatClampNeg)))))) else zf_122_J38 w o x1 M
-- X11_rest
noncomputable def zf_123 (w : Nat) (o : Nat) (x1 : Int32) (M : jb_Mi) : Option (jb_Mi) :=
  (zf_121 w o x1 (-1) M).bind fun q1 => (zf_68 121 99 q1).bind fun q2 => jb_gd x1 16 (jb_gd x1 16 (some (jb_up q2.2 (o + 9) x1.toNatClampNeg (zf_271 0 ((q2.2 (o + 9) x1.toNatClampNeg) - q2.1)))))
-- X11_pass
noncomputable def zf_124_J42 (w : Nat) (o : Nat) (x1 : Int32) (M : jb_Mi) : Option ((Int32 × jb_Mi) ⊕ (jb_Mi)) :=
  some (.inl ((x1 + 1), M))
noncomputable def zf_124_J83 (w : Nat) (o : Nat) (x1 : Int32) (M : jb_Mi) : Option ((Int32 × jb_Mi) ⊕ (jb_Mi)) :=
  some (.inl ((x1 + 1), M))
noncomputable def zf_124_H50 (w : Nat) (o : Nat) (s : Int32 × jb_Mi) : Option ((Int32 × jb_Mi) ⊕ (jb_Mi)) :=
  if s.1 < 16 then (zf_18 o s.1 s.2).bind fun q3 => if (jb_b2i q3) = 0 then zf_124_J83 w o s.1 s.2 else if (((s.2 w 4) >>> (s.1 &&& 31)) &&& 1) = 0 then (zf_123 w o s.1 s.2).bind fun q4 => zf_124_J83 w o s.1 q4 else zf_124_J83 w o s.1 s.2 else some (.inr (zf_111 o s.2))
noncomputable def zf_124_H18 (w : Nat) (o : Nat) (s : Int32 × jb_Mi) : Option ((Int32 × jb_Mi) ⊕ (jb_Mi)) :=
  if s.1 < 24 then (zf_37 o (s.1 / 4) s.2).bind fun q1 => if (jb_b2i q1) = 0 then zf_124_J42 w o s.1 s.2 else (zf_122 w o s.1 s.2).bind fun q2 => zf_124_J42 w o s.1 q2 else ((jb_lp (zf_124_H50 w o) (0, s.2)).map .inr)
noncomputable def zf_124 (w : Nat) (o : Nat) (M : jb_Mi) : Option (jb_Mi) :=
  if (jb_b2i (zf_110 o M)) = 0 then jb_lp (zf_124_H18 w o) (0, (jb_up M w 4 0)) else some M
-- X12_house
noncomputable def zf_126 (x1 : Int32) (x2 : Int32) (x3 : Int32) (M : jb_Mi) : Option (Bool × jb_Mi) :=
  if (jb_b2i (zf_23 x1 0 5)) = 0 then some (false, M) else if (jb_b2i (zf_23 x2 1 9)) = 0 then some (false, M) else if (jb_b2i (zf_23 x3 0 99)) = 0 then some (false, M) else jb_gd x1 6 (jb_gd x1 6 (jb_gd x1 6 (some (true, (jb_up (jb_up (jb_up M 5 x1.toNatClampNeg x2) 6 x1.toNatClampNeg x3) 7 x1.toNatClampNeg 0)))))
-- X12_thing
noncomputable def zf_127 (x1 : Int32) (x2 : Int32) (x3 : Int32) (x4 : Int32) (x5 : Int32) (M : jb_Mi) : Option (Bool × jb_Mi) :=
  if (jb_b2i (zf_23 x1 0 23)) = 0 then some (false, M) else (zf_2 4 x2 M).bind fun q1 => if (jb_b2i q1) = 0 then some (false, M) else if (jb_b2i (zf_23 x5 1 99)) = 0 then some (false, M) else if (jb_b2i (zf_23 x3 0 8)) = 0 then some (false, M) else if (jb_b2i (zf_23 x4 0 8)) = 0 then some (false, M) else jb_gd x1 24 (jb_gd x1 24 (jb_gd x1 24 (jb_gd x1 24 (some (true, (jb_up (jb_up (jb_up (jb_up M 8 x1.toNatClampNeg x2) 9 x1.toNatClampNeg x3) 10 x1.toNatClampNeg x4) 11 x1.toNatClampNeg x5))))))
-- X12_man
noncomputable def zf_128 (x1 : Int32) (x2 : Int32) (M : jb_Mi) : Option (Bool × jb_Mi) :=
  if (jb_b2i (zf_23 x1 0 15)) = 0 then some (false, M) else if (jb_b2i (zf_23 x2 1 99)) = 0 then some (false, M) else jb_gd x1 16 (jb_gd x1 16 (some (true, (jb_up (jb_up M 12 x1.toNatClampNeg x2) 13 x1.toNatClampNeg 0))))
-- X12_feed
noncomputable def zf_129 (x1 : Int32) (x2 : Int32) (x3 : Int32) (x4 : Int32) (x5 : Int32) (M : jb_Mi) : Option (Int32 × jb_Mi) :=
  if (jb_b2i (zf_114 M)) = 0 then some ((-1), M) else (zf_115 x1 M).bind fun q1 => (zf_115 x2 q1).bind fun q2 => (zf_115 x3 q2).bind fun q3 => (zf_115 x4 q3).bind fun q4 => (zf_115 x5 q4).bind fun q5 => some ((q5 2 1), q5)
-- X12_law
noncomputable def zf_130 (x1 : Int32) (M : jb_Mi) : Option (Int32 × jb_Mi) :=
  if (jb_b2i (zf_23 x1 1 240)) = 0 then some ((-1), M) else if (jb_b2i (zf_116 x1 M)) = 0 then some ((-1), M) else (zf_84 (zf_117 x1 M)).bind fun q1 => if 0 < q1.1 then (zf_72 (zf_117 0 q1.2)).bind fun q2 => some (q1.1, q2) else some (q1.1, (zf_117 0 q1.2))
-- X12_roster
noncomputable def zf_131 (x1 : Int32) (x2 : Int32) (x3 : Int32) (M : jb_Mi) : Option (Int32 × jb_Mi) :=
  if (jb_b2i (zf_23 x1 0 5)) = 0 then some ((-1), M) else if (jb_b2i (zf_23 x2 0 3)) = 0 then some ((-1), M) else if (jb_b2i (zf_23 x3 1 40)) = 0 then some ((-1), M) else if (jb_b2i (zf_116 x3 M)) = 0 then some ((-1), M) else (zf_99 (zf_117 x3 M)).bind fun q1 => if 0 < q1.1 then (zf_100 ((x1 * 4) + x2) (zf_117 0 q1.2)).bind fun q2 => some (q1.1, q2) else some (q1.1, (zf_117 0 q1.2))
-- X12_orders
noncomputable def zf_132 (x1 : Int32) (M : jb_Mi) : Option (Int32 × jb_Mi) :=
  if (jb_b2i (zf_23 x1 1 120)) = 0 then some ((-1), M) else if (jb_b2i (zf_116 x1 M)) = 0 then some ((-1), M) else (zf_93 (zf_102 24 4 (zf_117 x1 M))).bind fun q1 => if 0 < q1.1 then some (q1.1, (zf_102 4 24 (zf_117 0 q1.2))) else some (q1.1, (zf_117 0 q1.2))
-- X12_hours
noncomputable def zf_133_H22 (x1 : Int32) (s : Int32 × jb_Mi) : Option ((Int32 × jb_Mi) ⊕ (Int32 × jb_Mi)) :=
  if s.1 < x1 then (zf_124 60 4 s.2).bind fun q2 => some (.inl ((s.1 + 1), q2)) else some (.inr ((s.2 60 5), s.2))
noncomputable def zf_133 (x1 : Int32) (M : jb_Mi) : Option (Int32 × jb_Mi) :=
  if (jb_b2i (zf_23 x1 1 240)) = 0 then some ((-1), M) else (zf_119 60 4 M).bind fun q1 => jb_lp (zf_133_H22 x1) (0, q1)
-- X12_beginTrial
noncomputable def zf_134 (M : jb_Mi) : Option (jb_Mi) :=
  (zf_119 62 24 (zf_102 24 4 M)).bind fun q1 => some q1
-- X12_tried
noncomputable def zf_135_H63 (x1 : Int32) (x2 : Int32) (x3 : Int32) (x4 : Int32) (s : Int32 × jb_Mi) : Option ((Int32 × jb_Mi) ⊕ (Int32 × jb_Mi)) :=
  if s.1 < x1 then (zf_124 62 24 s.2).bind fun q4 => some (.inl ((s.1 + 1), q4)) else if x3 = 0 then if x4 = 0 then if x2 = 0 then some (.inr ((s.2 62 5), s.2)) else if x2 = 1 then some (.inr ((s.2 62 6), s.2)) else if x2 = 2 then some (.inr ((s.2 62 7), s.2)) else some (.inr ((s.2 62 8), s.2)) else jb_gd (x2 - 30) 6 (some (.inr ((s.2 27 ((x2 - 30)).toNatClampNeg), s.2))) else jb_gd (x2 - 10) 16 (some (.inr ((s.2 33 ((x2 - 10)).toNatClampNeg), s.2)))
noncomputable def zf_135_J56 (x1 : Int32) (x2 : Int32) (x3 : Int32) (x4 : Int32) (M : jb_Mi) : Option (Int32 × jb_Mi) :=
  (zf_134 M).bind fun q3 => jb_lp (zf_135_H63 x1 x2 x3 x4) (0, q3)
noncomputable def zf_135 (x1 : Int32) (x2 : Int32) (M : jb_Mi) : Option (Int32 × jb_Mi) :=
  (zf_18 4 (x2 - 10) M).bind fun q1 => (zf_2 4 (x2 - 30) M).bind fun q2 => if (jb_b2i (zf_23 x1 1 240)) = 0 then some ((-1), M) else if (jb_b2i (zf_23 x2 0 3)) = 0 then if (jb_b2i q1) = 0 then if (jb_b2i q2) = 0 then some ((-1), M) else zf_135_J56 x1 x2 (jb_b2i q1) (jb_b2i q2) M else zf_135_J56 x1 x2 (jb_b2i q1) (jb_b2i q2) M else zf_135_J56 x1 x2 (jb_b2i q1) (jb_b2i q2) M
-- X12_houseIs
noncomputable def zf_136 (x1 : Int32) (x2 : Int32) (M : jb_Mi) : Option (Int32) :=
  (zf_2 4 x1 M).bind fun q1 => if (jb_b2i q1) = 0 then some (-1) else if x2 = 0 then jb_gd x1 6 (some (M 5 x1.toNatClampNeg)) else if x2 = 1 then jb_gd x1 6 (some (M 6 x1.toNatClampNeg)) else if x2 = 2 then jb_gd x1 6 (some (M 7 x1.toNatClampNeg)) else if x2 = 3 then (zf_13 4 x1 M).bind fun q5 => some q5 else if x2 = 4 then (zf_108 4 x1 M).bind fun q6 => some q6 else if x2 = 5 then (zf_107 4 x1 M).bind fun q7 => some q7 else some (-1)
-- X12_thingIs
noncomputable def zf_137 (x1 : Int32) (x2 : Int32) (M : jb_Mi) : Option (Int32) :=
  (zf_3 4 x1 M).bind fun q1 => if (jb_b2i q1) = 0 then some (-1) else if x2 = 0 then jb_gd x1 24 (some (M 8 x1.toNatClampNeg)) else if x2 = 1 then jb_gd x1 24 (some (M 9 x1.toNatClampNeg)) else if x2 = 2 then jb_gd x1 24 (some (M 10 x1.toNatClampNeg)) else if x2 = 3 then jb_gd x1 24 (some (M 11 x1.toNatClampNeg)) else some (-1)
-- X12_manIs
noncomputable def zf_138 (x1 : Int32) (x2 : Int32) (M : jb_Mi) : Option (Int32) :=
  (zf_18 4 x1 M).bind fun q1 => if (jb_b2i q1) = 0 then some (-1) else if x2 = 0 then jb_gd x1 16 (some (M 12 x1.toNatClampNeg)) else if x2 = 1 then jb_gd x1 16 (some (M 13 x1.toNatClampNeg)) else if x2 = 2 then (zf_39 x1 (zf_14 4 M) M).bind fun q4 => some q4 else if x2 = 3 then (zf_40 x1 M).bind fun q5 => some q5 else if x2 = 4 then (zf_41 x1 M).bind fun q6 => some q6 else some (-1)
-- X12_load
noncomputable def zf_139 (x1 : Int32) (x2 : Int32) (M : jb_Mi) : Option (Int32) :=
  (zf_2 4 x1 M).bind fun q1 => if (jb_b2i q1) = 0 then some (-1) else if (jb_b2i (zf_23 x2 0 3)) = 0 then some (-1) else (zf_7 4 x1 x2 M).bind fun q2 => some q2
-- X12_duty
noncomputable def zf_140 (x1 : Int32) (x2 : Int32) (M : jb_Mi) : Option (Int32) :=
  (zf_2 4 x1 M).bind fun q1 => if (jb_b2i q1) = 0 then some (-1) else if (jb_b2i (zf_23 x2 0 3)) = 0 then some (-1) else (zf_19 ((x1 * 4) + x2) (zf_14 4 M) M).bind fun q2 => some q2
-- X12_stands
noncomputable def zf_141_H43 (x1 : Int32) (x2 : Int32) (s : Int32 × jb_Mi) : Option ((Int32 × jb_Mi) ⊕ (Int32 × jb_Mi)) :=
  if x2 < s.1 then some (.inr ((-2), s.2)) else (zf_124 62 24 s.2).bind fun q4 => (zf_37 24 x1 q4).bind fun q5 => if (jb_b2i q5) = 0 then some (.inr (s.1, q4)) else some (.inl ((s.1 + 1), q4))
noncomputable def zf_141 (x1 : Int32) (x2 : Int32) (M : jb_Mi) : Option (Int32 × jb_Mi) :=
  (zf_2 4 x1 M).bind fun q1 => if (jb_b2i q1) = 0 then some ((-1), M) else if (jb_b2i (zf_23 x2 1 240)) = 0 then some ((-1), M) else (zf_37 4 x1 M).bind fun q2 => if (jb_b2i q2) = 0 then some (0, M) else (zf_134 M).bind fun q3 => jb_lp (zf_141_H43 x1 x2) (1, q3)
-- X12_fallsFirst
noncomputable def zf_142_J79 (x2 : Int32) (M : jb_Mi) : Option ((Int32) ⊕ (Int32 × jb_Mi)) :=
  some (.inl (x2 + 1))
noncomputable def zf_142_H49 (M : jb_Mi) (s : Int32) : Option ((Int32) ⊕ (Int32 × jb_Mi)) :=
  if s < 6 then (zf_37 4 s M).bind fun q3 => if (jb_b2i q3) = 0 then zf_142_J79 s M else (zf_37 24 s M).bind fun q4 => if (jb_b2i q4) = 0 then some (.inr (s, M)) else zf_142_J79 s M else some (.inr ((-2), M))
noncomputable def zf_142_J47 (M : jb_Mi) : Option (Int32 × jb_Mi) :=
  jb_lp (zf_142_H49 M) 0
noncomputable def zf_142_H19 (x1 : Int32) (s : Int32 × jb_Mi) : Option ((Int32 × jb_Mi) ⊕ (Int32 × jb_Mi)) :=
  if s.1 < x1 then if (s.2 62 8) = 0 then (zf_124 62 24 s.2).bind fun q2 => some (.inl ((s.1 + 1), q2)) else ((zf_142_J47 s.2).map .inr) else ((zf_142_J47 s.2).map .inr)
noncomputable def zf_142 (x1 : Int32) (M : jb_Mi) : Option (Int32 × jb_Mi) :=
  if (jb_b2i (zf_23 x1 1 240)) = 0 then some ((-1), M) else (zf_134 M).bind fun q1 => jb_lp (zf_142_H19 x1) (0, q1)
-- X12_bed
noncomputable def zf_143 (x1 : Int32) (x2 : Int32) (x3 : Int32) (M : jb_Mi) : Option (Int32 × jb_Mi) :=
  (zf_2 4 x1 M).bind fun q1 => if (jb_b2i q1) = 0 then some ((-1), M) else if (jb_b2i (zf_23 x2 1 99)) = 0 then some ((-1), M) else if (jb_b2i (zf_23 x3 0 2)) = 0 then some ((-1), M) else (zf_9 x1 x2 M).bind fun q2 => if x3 = 0 then some ((q2 64 6), q2) else if x3 = 1 then some ((q2 64 7), q2) else some ((q2 64 8), q2)
-- X12_greatestDivisor
noncomputable def zf_144_H7 (s : Int32 × Int32 × Int32) : Option ((Int32 × Int32 × Int32) ⊕ (Int32)) :=
  if s.2.2 < 64 then if s.2.1 = 0 then some (.inr s.1) else jb_g0 s.2.1 (some (.inl (s.2.1, (s.1 - s.1 / s.2.1 * s.2.1), (s.2.2 + 1)))) else some (.inr s.1)
noncomputable def zf_144 (x0 : Int32) (x1 : Int32) : Option (Int32) :=
  jb_lp (zf_144_H7) (x0, x1, 0)
-- X12_stand
noncomputable def zf_145_J105 (x4 : Int32) (s0 : Int32) (M : jb_Mi) : Option (Int32 × jb_Mi) :=
  jb_g0 x4 (some ((s0 / x4), M))
noncomputable def zf_145 (x1 : Int32) (x2 : Int32) (x3 : Int32) (M : jb_Mi) : Option (Int32 × jb_Mi) :=
  (zf_2 4 x1 M).bind fun q1 => if (jb_b2i q1) = 0 then some ((-1), M) else if (jb_b2i (zf_23 x3 0 5)) = 0 then some ((-1), M) else (zf_104 4 x2 M).bind fun q2 => if (jb_b2i q2) = 0 then some ((-1), M) else (zf_12 x1 x2 M).bind fun q3 => if x3 < 4 then jb_gd x3 4 (some ((q3 69 x3.toNatClampNeg), q3)) else (zf_144 (q3 64 10) (q3 64 11)).bind fun q5 => if 0 < q5 then if x3 = 4 then zf_145_J105 q5 (q3 64 10) q3 else zf_145_J105 q5 (q3 64 11) q3 else some ((-1), q3)
-- X12_go
noncomputable def zf_146_J40 (x3 : Int32) (M : jb_Mi) : Option (Int32 × jb_Mi) :=
  some (x3, M)
noncomputable def zf_146 (x1 : Int32) (x2 : Int32) (M : jb_Mi) : Option (Int32 × jb_Mi) :=
  (zf_2 4 x1 M).bind fun q1 => if (jb_b2i q1) = 0 then some ((-1), M) else if (jb_b2i (zf_23 x2 0 1)) = 0 then some ((-1), M) else (zf_29 x1 M).bind fun q2 => if q2.1 < 0 then zf_146_J40 q2.1 q2.2 else if x2 = 1 then zf_146_J40 q2.1 q2.2 else some ((zf_26 q2.1), q2.2)
-- X12_feltAnswer
noncomputable def zf_147 (x0 : Int32) (x1 : Int32) (x2 : Int32) : Int32 :=
  if x2 = 0 then x0 else if x1 < 0 then (-2) else if x2 = 1 then (x1 - x1 / 9 * 9) else (x1 / 9)
-- X12_felt
noncomputable def zf_148_J86 (x3 : Int32) (x4 : Int32) (s0 : Int32) (M : jb_Mi) (N : jb_Ml) : Option (Int32 × jb_Mi × jb_Ml) :=
  some ((zf_147 s0 x4 x3), M, N)
noncomputable def zf_148 (x1 : Int32) (x2 : Int32) (x3 : Int32) (M : jb_Mi) (N : jb_Ml) : Option (Int32 × jb_Mi × jb_Ml) :=
  (zf_2 4 x1 M).bind fun q1 => if (jb_b2i q1) = 0 then some ((-1), M, N) else if (jb_b2i (zf_23 x2 1 99)) = 0 then some ((-1), M, N) else if (jb_b2i (zf_23 x3 0 2)) = 0 then some ((-1), M, N) else if (jb_b2i (zf_116 16 M)) = 0 then some ((-1), M, N) else (zf_32 x1 M N).bind fun q2 => (zf_33 x2 q2.2).bind fun q3 => if q3 < 0 then zf_148_J86 x3 q3 0 (zf_117 0 q2.1) q2.2 else zf_148_J86 x3 q3 1 (zf_117 0 q2.1) q2.2
-- X12_twoFelt
noncomputable def zf_149 (x1 : Int32) (x2 : Int32) (x3 : Int32) (x4 : Int32) (M : jb_Mi) (N : jb_Ml) : Option (Int32 × jb_Mi × jb_Ml) :=
  (zf_2 4 x1 M).bind fun q1 => if (jb_b2i q1) = 0 then some ((-1), M, N) else if (jb_b2i (zf_23 x2 1 99)) = 0 then some ((-1), M, N) else if (jb_b2i (zf_23 x3 1 99)) = 0 then some ((-1), M, N) else if (jb_b2i (zf_23 x4 0 2)) = 0 then some ((-1), M, N) else if (jb_b2i (zf_116 16 M)) = 0 then some ((-1), M, N) else (zf_32 x1 M N).bind fun q2 => (zf_35 x2 x3 (zf_117 0 q2.1) q2.2).bind fun q3 => some ((zf_147 q3.1 (q3.2.1 64 12) x4), q3.2.1, q3.2.2)
-- X12_knocked
noncomputable def zf_150 (x1 : Int32) (x2 : Int32) (M : jb_Mi) : Option (Int32) :=
  (zf_37 4 x1 M).bind fun q1 => if (jb_b2i q1) = 0 then some (-1) else (zf_50 x1 x2 M).bind fun q2 => some q2
-- X12_fewest
noncomputable def zf_151 (x1 : Int32) (M : jb_Mi) : Option (Int32 × jb_Mi) :=
  if (jb_b2i (zf_23 x1 0 1)) = 0 then some ((-1), M) else (zf_54 M).bind fun q1 => if x1 = 1 then some (q1.1, q1.2) else some ((zf_26 q1.1), q1.2)
-- X12_strike
noncomputable def zf_152 (x1 : Int32) (x2 : Int32) (M : jb_Mi) : Option (Int32 × jb_Mi) :=
  if (jb_b2i (zf_23 x1 1 3)) = 0 then some ((-1), M) else if (jb_b2i (zf_23 x2 0 1)) = 0 then some ((-1), M) else (zf_103 4 M).bind fun q1 => if (zf_26 q1) < x1 then some ((-2), M) else (zf_47 x1 M).bind fun q2 => if x2 = 0 then some ((q2 41 3), q2) else some ((q2 41 4), q2)
-- X12_bricks
noncomputable def zf_153 (x1 : Int32) (x2 : Int32) (M : jb_Mi) (N : jb_Ml) : Option (Int64 × jb_Mi × jb_Ml) :=
  if (jb_b2i (zf_23 x1 1 16)) = 0 then some ((-1), M, N) else if (jb_b2i (zf_23 x2 1 6)) = 0 then some ((-1), M, N) else (zf_58 x1 x2 M N).bind fun q1 => some (q1.1, q1.2.1, q1.2.2)
-- X12_bread
noncomputable def zf_154 (x1 : Int32) (M : jb_Mi) : Option (Int32 × jb_Mi) :=
  if (jb_b2i (zf_23 x1 1 12)) = 0 then some ((-1), M) else if (jb_b2i (zf_116 x1 M)) = 0 then some ((-1), M) else (zf_59 (zf_117 x1 M)).bind fun q1 => some (q1, (zf_117 0 (zf_117 x1 M)))
-- X12_beams
noncomputable def zf_155 (x1 : Int32) (M : jb_Mi) : Option (Int32 × jb_Mi) :=
  if (jb_b2i (zf_23 x1 1 8)) = 0 then some ((-1), M) else if (jb_b2i (zf_116 x1 M)) = 0 then some ((-1), M) else (zf_61 (zf_117 x1 M)).bind fun q1 => some (q1.1, (zf_117 0 q1.2))
-- X12_relieved
noncomputable def zf_156 (x1 : Int32) (x2 : Int32) (x3 : Int32) (M : jb_Mi) : Option (Int32) :=
  (zf_2 4 x1 M).bind fun q1 => if (jb_b2i q1) = 0 then some (-1) else if (jb_b2i (zf_23 x2 0 3)) = 0 then some (-1) else if x3 = 0 then (zf_42 ((x1 * 4) + x2) M).bind fun q2 => some q2 else if x3 = 1 then (zf_43 ((x1 * 4) + x2) M).bind fun q3 => some q3 else if x3 = 2 then (zf_44 ((x1 * 4) + x2) M).bind fun q4 => some q4 else if x3 = 3 then (zf_15 ((x1 * 4) + x2) M).bind fun q5 => some q5 else some (-1)
-- X12_heaviest
noncomputable def zf_157 (x1 : Int32) (M : jb_Mi) : Option (Int32) :=
  if (jb_b2i (zf_23 x1 0 2)) = 0 then some (-1) else (zf_109 4 M).bind fun q1 => if q1 < 0 then some (-2) else if x1 = 0 then some (q1 / 4) else if x1 = 1 then some (q1 - q1 / 4 * 4) else (zf_7 4 (q1 / 4) (q1 - q1 / 4 * 4) M).bind fun q2 => some q2
-- X12_seed
noncomputable def zf_158 (x1 : Int32) (M : jb_Mi) : Bool × jb_Mi :=
  if (jb_b2i (zf_23 x1 0 65535)) = 0 then (false, M) else (true, (jb_up M 4 11 x1))
-- X12_keep
noncomputable def zf_159 (M : jb_Mi) : Int32 × jb_Mi :=
  (((jb_up (zf_102 14 4 M) 1 14 1) 4 10), (jb_up (zf_102 14 4 M) 1 14 1))
-- X12_undo
noncomputable def zf_160 (M : jb_Mi) : Bool × jb_Mi :=
  if (M 1 14) = 0 then (false, M) else (true, (zf_102 4 14 M))
-- X12_check
noncomputable def zf_161_J75 (x2 : Int32) (x3 : Int32) (M : jb_Mi) : Option ((Int32 × Int32) ⊕ (Int32 × jb_Mi)) :=
  some (.inl (x2, (x3 + (-1))))
noncomputable def zf_161_J58 (x2 : Int32) (x3 : Int32) (s0 : Int32) (M : jb_Mi) : Option ((Int32 × Int32) ⊕ (Int32 × jb_Mi)) :=
  (zf_30 x3 M).bind fun q2 => if q2 = s0 then zf_161_J75 x2 x3 M else zf_161_J75 x3 x3 M
noncomputable def zf_161_H30 (M : jb_Mi) (s : Int32 × Int32) : Option ((Int32 × Int32) ⊕ (Int32 × jb_Mi)) :=
  if s.2 < 0 then some (.inr (s.1, (zf_117 0 M))) else (zf_18 4 s.2 M).bind fun q1 => if (jb_b2i q1) = 0 then zf_161_J58 s.1 s.2 0 M else jb_gd s.2 16 (zf_161_J58 s.1 s.2 (M 13 (s.2).toNatClampNeg) M)
noncomputable def zf_161 (x1 : Int32) (M : jb_Mi) : Option (Int32 × jb_Mi) :=
  if (jb_b2i (zf_23 x1 0 16)) = 0 then some ((-2), M) else if (jb_b2i (zf_116 x1 M)) = 0 then some ((-2), M) else jb_lp (zf_161_H30 M) ((-1), (x1 - 1))
-- X12_count
noncomputable def zf_162 (x1 : Int32) (M : jb_Mi) : Option (Int32) :=
  if x1 = 0 then some (M 4 9) else if x1 = 1 then some (M 4 10) else if x1 = 2 then (zf_105 4 M).bind fun q1 => some q1 else if x1 = 3 then (zf_105 4 M).bind fun q2 => (zf_51 4 M).bind fun q3 => some (q2 &&& (q3 ^^^ (-1))) else if x1 = 4 then (zf_103 4 M).bind fun q4 => some q4 else if x1 = 5 then (zf_106 4 M).bind fun q5 => some q5 else if x1 = 6 then some (M 44 6) else if x1 = 7 then some (M 2 1) else if x1 = 8 then some (M 4 11) else some (-1)
-- X13_in
noncomputable def zf_164 (x0 : Int32) (x1 : Int32) (x2 : Int32) : Bool :=
  if x0 < x1 then false else if x2 < x0 then false else true
-- X13_min
noncomputable def zf_165 (x0 : Int32) (x1 : Int32) : Int32 :=
  if x0 < x1 then x0 else x1
-- X13_max
noncomputable def zf_166 (x0 : Int32) (x1 : Int32) : Int32 :=
  if x1 < x0 then x0 else x1
-- X13_size
noncomputable def zf_167 (x0 : Int32) : Int32 :=
  if x0 < 0 then (-x0) else x0
-- X13_has
noncomputable def zf_168 (x0 : Int32) (x1 : Int32) : Bool :=
  if ((x0 >>> (x1 &&& 31)) &&& 1) = 1 then true else false
-- X13_bits
noncomputable def zf_169_H4 (x0 : Int32) (s : Int32 × Int32) : Option ((Int32 × Int32) ⊕ (Int32)) :=
  if s.2 < 16 then some (.inl ((s.1 + ((x0 >>> (s.2 &&& 31)) &&& 1)), (s.2 + 1))) else some (.inr s.1)
noncomputable def zf_169 (x0 : Int32) : Option (Int32) :=
  jb_lp (zf_169_H4 x0) (0, 0)
-- X13_copies
noncomputable def zf_170_H2 (a1 : Nat) (a2 : Nat) (s : Int32 × jb_Mi) : Option ((Int32 × jb_Mi) ⊕ (jb_Mi)) :=
  if s.1 < 149 then jb_gd s.1 149 (jb_gd s.1 149 (some (.inl ((s.1 + 1), (jb_up s.2 a2 (s.1).toNatClampNeg (s.2 a1 (s.1).toNatClampNeg)))))) else some (.inr s.2)
noncomputable def zf_170 (a1 : Nat) (a2 : Nat) (M : jb_Mi) : Option (jb_Mi) :=
  jb_lp (zf_170_H2 a1 a2) (0, M)
-- X13_isHouse
noncomputable def zf_171 (x1 : Int32) (M : jb_Mi) : Option (Bool) :=
  if (jb_b2i (zf_164 x1 0 5)) = 0 then some false else jb_gd (0 + x1) 149 (if 0 < (M 80 ((0 + x1)).toNatClampNeg) then some true else some false)
-- X13_isUp
noncomputable def zf_172 (x1 : Int32) (M : jb_Mi) : Option (Bool) :=
  (zf_171 x1 M).bind fun q1 => if (jb_b2i q1) = 0 then some false else jb_gd (12 + x1) 149 (if (M 80 ((12 + x1)).toNatClampNeg) < 9 then some true else some false)
-- X13_isThing
noncomputable def zf_173 (x1 : Int32) (M : jb_Mi) : Option (Bool) :=
  if (jb_b2i (zf_164 x1 0 23)) = 0 then some false else jb_gd (18 + x1) 149 (if (M 80 ((18 + x1)).toNatClampNeg) = (-1) then some false else some true)
-- X13_isMan
noncomputable def zf_174 (x1 : Int32) (M : jb_Mi) : Option (Bool) :=
  if (jb_b2i (zf_164 x1 0 15)) = 0 then some false else jb_gd (114 + x1) 149 (if 0 < (M 80 ((114 + x1)).toNatClampNeg) then some true else some false)
-- X13_house
noncomputable def zf_175 (x1 : Int32) (x2 : Int32) (x3 : Int32) (M : jb_Mi) : Option (Bool × jb_Mi) :=
  if (jb_b2i (zf_164 x1 0 5)) = 0 then some (false, M) else if (jb_b2i (zf_164 x2 1 9)) = 0 then some (false, M) else if (jb_b2i (zf_164 x3 0 99)) = 0 then some (false, M) else jb_gd (0 + x1) 149 (jb_gd (6 + x1) 149 (jb_gd (12 + x1) 149 (some (true, (jb_up (jb_up (jb_up M 80 ((0 + x1)).toNatClampNeg x2) 80 ((6 + x1)).toNatClampNeg x3) 80 ((12 + x1)).toNatClampNeg 0)))))
-- X13_thing
noncomputable def zf_176 (x1 : Int32) (x2 : Int32) (x3 : Int32) (x4 : Int32) (x5 : Int32) (M : jb_Mi) : Option (Bool × jb_Mi) :=
  if (jb_b2i (zf_164 x1 0 23)) = 0 then some (false, M) else (zf_171 x2 M).bind fun q1 => if (jb_b2i q1) = 0 then some (false, M) else if (jb_b2i (zf_164 x3 0 8)) = 0 then some (false, M) else if (jb_b2i (zf_164 x4 0 8)) = 0 then some (false, M) else if (jb_b2i (zf_164 x5 1 99)) = 0 then some (false, M) else jb_gd (18 + x1) 149 (jb_gd (42 + x1) 149 (jb_gd (66 + x1) 149 (jb_gd (90 + x1) 149 (some (true, (jb_up (jb_up (jb_up (jb_up M 80 ((18 + x1)).toNatClampNeg x2) 80 ((42 + x1)).toNatClampNeg x3) 80 ((66 + x1)).toNatClampNeg x4) 80 ((90 + x1)).toNatClampNeg x5))))))
-- X13_man
noncomputable def zf_177 (x1 : Int32) (x2 : Int32) (M : jb_Mi) : Option (Bool × jb_Mi) :=
  if (jb_b2i (zf_164 x1 0 15)) = 0 then some (false, M) else if (jb_b2i (zf_164 x2 1 99)) = 0 then some (false, M) else jb_gd (114 + x1) 149 (jb_gd (130 + x1) 149 (some (true, (jb_up (jb_up M 80 ((114 + x1)).toNatClampNeg x2) 80 ((130 + x1)).toNatClampNeg 0))))
-- X13_partOf
noncomputable def zf_178_J29 (x0 : Int32) (x4 : Int32) (s0 : Int32) : Int32 :=
  ((x0 * x4) * s0)
noncomputable def zf_178_J14 (x0 : Int32) (x2 : Int32) (x3 : Int32) (s0 : Int32) : Int32 :=
  if x3 < 2 then zf_178_J29 x0 s0 (8 - x2) else zf_178_J29 x0 s0 x2
noncomputable def zf_178 (x0 : Int32) (x1 : Int32) (x2 : Int32) (x3 : Int32) : Int32 :=
  if (x3 - x3 / 2 * 2) = 0 then zf_178_J14 x0 x2 x3 (8 - x1) else zf_178_J14 x0 x2 x3 x1
-- X13_loadOf
noncomputable def zf_179_J74 (x1 : Int32) (x2 : Int32) (x3 : Int32) (x4 : Int32) (M : jb_Mi) : Option ((Int32 × Int32) ⊕ (Int32)) :=
  some (.inl (x3, (x4 + 1)))
noncomputable def zf_179_H16 (x1 : Int32) (x2 : Int32) (M : jb_Mi) (s : Int32 × Int32) : Option ((Int32 × Int32) ⊕ (Int32)) :=
  if s.2 < 24 then jb_gd (18 + s.2) 149 (if (M 80 ((18 + s.2)).toNatClampNeg) = x1 then jb_gd (90 + s.2) 149 (jb_gd (42 + s.2) 149 (jb_gd (66 + s.2) 149 (zf_179_J74 x1 x2 (s.1 + (zf_178 (M 80 ((90 + s.2)).toNatClampNeg) (M 80 ((42 + s.2)).toNatClampNeg) (M 80 ((66 + s.2)).toNatClampNeg) x2)) s.2 M))) else zf_179_J74 x1 x2 s.1 s.2 M) else some (.inr s.1)
noncomputable def zf_179 (x1 : Int32) (x2 : Int32) (M : jb_Mi) : Option (Int32) :=
  jb_gd (0 + x1) 149 (jb_lp (zf_179_H16 x1 x2 M) ((640 * (M 80 ((0 + x1)).toNatClampNeg)), 0))
-- X13_load
noncomputable def zf_180 (x1 : Int32) (x2 : Int32) (M : jb_Mi) : Option (Int32) :=
  (zf_171 x1 M).bind fun q1 => if (jb_b2i q1) = 0 then some (-1) else if (jb_b2i (zf_164 x2 0 3)) = 0 then some (-1) else (zf_179 x1 x2 M).bind fun q2 => some q2
-- X13_types
noncomputable def zf_181_H2 (x1 : Int32) (s : Int32 × jb_Mi) : Option ((Int32 × jb_Mi) ⊕ (jb_Mi)) :=
  if s.1 < 0 then some (.inr s.2) else jb_gd (s.2 79 4) 260 (some (.inl ((s.1 + (-1)), (jb_up (jb_up s.2 83 ((s.2 79 4)).toNatClampNeg (((x1 >>> ((8 * s.1) &&& 31)) : Int32).toInt8.toInt32 : Int32).toInt8.toInt32) 79 4 (((jb_up s.2 83 ((s.2 79 4)).toNatClampNeg (((x1 >>> ((8 * s.1) &&& 31)) : Int32).toInt8.toInt32 : Int32).toInt8.toInt32) 79 4) + 1)))))
noncomputable def zf_181 (x1 : Int32) (M : jb_Mi) : Option (jb_Mi) :=
  jb_lp (zf_181_H2 x1) (3, M)
-- X13_feed
noncomputable def zf_182 (x1 : Int32) (x2 : Int32) (x3 : Int32) (x4 : Int32) (x5 : Int32) (M : jb_Mi) : Option (Int32 × jb_Mi) :=
  if 260 < ((M 79 4) + 20) then some ((-1), M) else (zf_181 x1 M).bind fun q1 => (zf_181 x2 q1).bind fun q2 => (zf_181 x3 q2).bind fun q3 => (zf_181 x4 q3).bind fun q4 => (zf_181 x5 q4).bind fun q5 => some ((q5 79 4), q5)
-- X13_octet
noncomputable def zf_183 (x1 : Int32) (M : jb_Mi) : Option (Int32) :=
  jb_gd x1 260 (some ((M 83 x1.toNatClampNeg) &&& 255))
-- X13_here
noncomputable def zf_184 (M : jb_Mi) : Option (Int32) :=
  if (M 79 5) < (M 79 6) then jb_gd (M 79 5) 260 (some ((M 83 ((M 79 5)).toNatClampNeg) &&& 255)) else some (-1)
-- X13_isDigit
noncomputable def zf_185 (M : jb_Mi) : Option (Bool) :=
  (zf_184 M).bind fun q1 => if q1 < 48 then some false else (zf_184 M).bind fun q2 => if 57 < q2 then some false else some true
-- X13_wrongAt
noncomputable def zf_186 (x1 : Int32) (x2 : Int32) (M : jb_Mi) : Bool × jb_Mi :=
  (false, (jb_up M 79 7 (((-1000) * x1) - x2)))
-- X13_takes
noncomputable def zf_187 (x1 : Int32) (M : jb_Mi) : Option (Bool × jb_Mi) :=
  (zf_184 M).bind fun q1 => if q1 = x1 then some (true, (jb_up M 79 5 ((M 79 5) + 1))) else some ((zf_186 1 (M 79 5) M).1, (zf_186 1 (M 79 5) M).2)
-- X13_readsNumber
noncomputable def zf_188_H10 (x1 : Int32) (s : jb_Mi) : Option ((jb_Mi) ⊕ (Bool × jb_Mi)) :=
  (zf_185 s).bind fun q1 => if (jb_b2i q1) = 0 then some (.inr (true, s)) else if (s 79 5) = (x1 + 5) then some (.inr ((zf_186 2 (s 79 5) s).1, (zf_186 2 (s 79 5) s).2)) else (zf_184 s).bind fun q2 => some (.inl (jb_up (jb_up s 79 8 (((10 * (s 79 8)) + q2) - 48)) 79 5 (((jb_up s 79 8 (((10 * (s 79 8)) + q2) - 48)) 79 5) + 1)))
noncomputable def zf_188 (M : jb_Mi) : Option (Bool × jb_Mi) :=
  jb_lp (zf_188_H10 (M 79 5)) (jb_up M 79 8 0)
-- X13_notes
noncomputable def zf_189 (x1 : Int32) (x2 : Int32) (M : jb_Mi) : Option (jb_Mi) :=
  jb_gd (M 79 10) 260 (some (jb_up (jb_up M 84 ((M 79 10)).toNatClampNeg ((1048576 * x1) + x2)) 79 10 (((jb_up M 84 ((M 79 10)).toNatClampNeg ((1048576 * x1) + x2)) 79 10) + 1)))
-- X13_opens
noncomputable def zf_190 (x1 : Int32) (M : jb_Mi) : Option (Bool × jb_Mi) :=
  if (M 79 9) = 6 then some ((zf_186 5 (M 79 5) M).1, (zf_186 5 (M 79 5) M).2) else jb_gd ((jb_up M 79 9 ((M 79 9) + 1)) 79 11) 260 (some (true, (jb_up (jb_up (jb_up (jb_up M 79 9 ((M 79 9) + 1)) 85 (((jb_up M 79 9 ((M 79 9) + 1)) 79 11)).toNatClampNeg (1048576 * x1)) 79 11 (((jb_up (jb_up M 79 9 ((M 79 9) + 1)) 85 (((jb_up M 79 9 ((M 79 9) + 1)) 79 11)).toNatClampNeg (1048576 * x1)) 79 11) + 1)) 79 5 (((jb_up (jb_up (jb_up M 79 9 ((M 79 9) + 1)) 85 (((jb_up M 79 9 ((M 79 9) + 1)) 79 11)).toNatClampNeg (1048576 * x1)) 79 11 (((jb_up (jb_up M 79 9 ((M 79 9) + 1)) 85 (((jb_up M 79 9 ((M 79 9) + 1)) 79 11)).toNatClampNeg (1048576 * x1)) 79 11) + 1)) 79 5) + 1))))
-- X13_waitTop
noncomputable def zf_191 (M : jb_Mi) : Option (Int32) :=
  if (M 79 11) = 0 then some (-1) else jb_gd ((M 79 11) - 1) 260 (some ((M 85 (((M 79 11) - 1)).toNatClampNeg) / 1048576))
-- X13_factOf
noncomputable def zf_192 (x0 : Int32) : Int32 :=
  if x0 = 97 then 2 else if x0 = 98 then (-1) else if x0 = 99 then 5 else if x0 = 100 then (-1) else if x0 = 101 then (-1) else if x0 = 102 then (-1) else if x0 = 103 then 7 else if x0 = 104 then 8 else if x0 = 105 then 4 else if x0 = 106 then (-1) else if x0 = 107 then 6 else if x0 = 108 then 3 else if x0 = 109 then 0 else if x0 = 110 then 9 else if x0 = 111 then (-1) else if x0 = 112 then (-1) else if x0 = 113 then (-1) else if x0 = 114 then (-1) else if x0 = 115 then 1 else (-1)
-- X13_sumSign
noncomputable def zf_193 (x0 : Int32) : Int32 :=
  if x0 = 43 then 2 else if x0 = 45 then 3 else if x0 = 42 then 4 else if x0 = 47 then 5 else if x0 = 37 then 6 else (-1)
-- X13_closesSums
noncomputable def zf_194_J37 (x1 : Int32) (M : jb_Mi) : Option ((jb_Mi) ⊕ (jb_Mi)) :=
  (zf_191 M).bind fun q3 => (zf_189 q3 0 M).bind fun q4 => some (.inl (jb_up q4 79 11 ((q4 79 11) - 1)))
noncomputable def zf_194_J17 (x1 : Int32) (M : jb_Mi) : Option ((jb_Mi) ⊕ (jb_Mi)) :=
  if x1 = 0 then some (.inr M) else (zf_191 M).bind fun q2 => if q2 = 2 then zf_194_J37 x1 M else (zf_191 M).bind fun q5 => if q5 = 3 then zf_194_J37 x1 M else some (.inr M)
noncomputable def zf_194_H0 (x1 : Int32) (s : jb_Mi) : Option ((jb_Mi) ⊕ (jb_Mi)) :=
  (zf_191 s).bind fun q1 => if q1 < 4 then zf_194_J17 x1 s else (zf_191 s).bind fun q6 => if 6 < q6 then zf_194_J17 x1 s else zf_194_J37 x1 s
noncomputable def zf_194 (x1 : Int32) (M : jb_Mi) : Option (jb_Mi) :=
  jb_lp (zf_194_H0 x1) M
-- X13_readsFactor
noncomputable def zf_195_H0 (s : jb_Mi) : Option ((jb_Mi) ⊕ (Bool × jb_Mi)) :=
  (zf_184 s).bind fun q1 => if q1 = 91 then (zf_190 14 s).bind fun q2 => if (jb_b2i q2.1) = 0 then some (.inr (false, q2.2)) else some (.inl q2.2) else (zf_185 s).bind fun q3 => if (jb_b2i q3) = 0 then (zf_184 s).bind fun q4 => if (zf_192 q4) = (-1) then some (.inr ((zf_186 1 (s 79 5) s).1, (zf_186 1 (s 79 5) s).2)) else (zf_189 1 (zf_192 q4) s).bind fun q5 => some (.inr (true, (jb_up q5 79 5 ((q5 79 5) + 1)))) else (zf_188 s).bind fun q6 => if (jb_b2i q6.1) = 0 then some (.inr (false, q6.2)) else (zf_189 0 (q6.2 79 8) q6.2).bind fun q7 => some (.inr (true, q7))
noncomputable def zf_195 (M : jb_Mi) : Option (Bool × jb_Mi) :=
  jb_lp (zf_195_H0) M
-- X13_hasOpenSum
noncomputable def zf_196_H2 (M : jb_Mi) (s : Int32) : Option ((Int32) ⊕ (Bool)) :=
  if s < (M 79 11) then jb_gd s 260 (if ((M 85 s.toNatClampNeg) / 1048576) = 14 then some (.inr true) else some (.inl (s + 1))) else some (.inr false)
noncomputable def zf_196 (x1 : Int32) (M : jb_Mi) : Option (Bool) :=
  jb_lp (zf_196_H2 M) x1
-- X13_readsSum
noncomputable def zf_197_J138 (x1 : Int32) (M : jb_Mi) : Option (Bool × jb_Mi) :=
  (zf_196 x1 M).bind fun q5 => if (jb_b2i q5) = 0 then (zf_194 1 M).bind fun q6 => some (true, q6) else some ((zf_186 1 (M 79 5) M).1, (zf_186 1 (M 79 5) M).2)
noncomputable def zf_197_J163 (x1 : Int32) (M : jb_Mi) : Option ((jb_Mi) ⊕ (Bool × jb_Mi)) :=
  some (.inl M)
noncomputable def zf_197_J38 (x1 : Int32) (x2 : Int32) (s1 : Int32) (M : jb_Mi) : Option ((jb_Mi) ⊕ (Bool × jb_Mi)) :=
  (zf_194 s1 M).bind fun q8 => jb_gd (q8 79 11) 260 ((zf_195 (jb_up (jb_up (jb_up q8 85 ((q8 79 11)).toNatClampNeg (1048576 * x2)) 79 11 (((jb_up q8 85 ((q8 79 11)).toNatClampNeg (1048576 * x2)) 79 11) + 1)) 79 5 (((jb_up (jb_up q8 85 ((q8 79 11)).toNatClampNeg (1048576 * x2)) 79 11 (((jb_up q8 85 ((q8 79 11)).toNatClampNeg (1048576 * x2)) 79 11) + 1)) 79 5) + 1))).bind fun q10 => if (jb_b2i q10.1) = 0 then some (.inr (false, q10.2)) else zf_197_J163 x1 q10.2)
noncomputable def zf_197_H14 (x1 : Int32) (s : jb_Mi) : Option ((jb_Mi) ⊕ (Bool × jb_Mi)) :=
  (zf_184 s).bind fun q2 => if (zf_193 q2) = (-1) then (zf_184 s).bind fun q3 => if q3 = 93 then (zf_196 x1 s).bind fun q4 => if (jb_b2i q4) = 0 then ((zf_197_J138 x1 s).map .inr) else (zf_194 1 s).bind fun q7 => zf_197_J163 x1 (jb_up (jb_up (jb_up q7 79 11 ((q7 79 11) - 1)) 79 9 (((jb_up q7 79 11 ((q7 79 11) - 1)) 79 9) - 1)) 79 5 (((jb_up (jb_up q7 79 11 ((q7 79 11) - 1)) 79 9 (((jb_up q7 79 11 ((q7 79 11) - 1)) 79 9) - 1)) 79 5) + 1)) else ((zf_197_J138 x1 s).map .inr) else if (zf_193 q2) < 4 then zf_197_J38 x1 (zf_193 q2) 1 s else zf_197_J38 x1 (zf_193 q2) 0 s
noncomputable def zf_197 (M : jb_Mi) : Option (Bool × jb_Mi) :=
  (zf_195 M).bind fun q1 => if (jb_b2i q1.1) = 0 then some (false, q1.2) else jb_lp (zf_197_H14 (M 79 11)) q1.2
-- X13_endsPiece
noncomputable def zf_198_H0 (s : jb_Mi) : Option ((jb_Mi) ⊕ (jb_Mi)) :=
  (zf_191 s).bind fun q1 => if q1 = 10 then (zf_189 10 0 s).bind fun q2 => some (.inl (jb_up (jb_up q2 79 11 ((q2 79 11) - 1)) 79 9 (((jb_up q2 79 11 ((q2 79 11) - 1)) 79 9) - 1))) else some (.inr s)
noncomputable def zf_198 (M : jb_Mi) : Option (jb_Mi) :=
  jb_lp (zf_198_H0) M
-- X13_lands
noncomputable def zf_199_J22 (x1 : Int32) (M : jb_Mi) : Option ((jb_Mi) ⊕ (jb_Mi)) :=
  jb_gd ((M 79 11) - 1) 260 (jb_gd ((M 85 (((M 79 11) - 1)).toNatClampNeg) - (M 85 (((M 79 11) - 1)).toNatClampNeg) / 1048576 * 1048576) 260 (jb_gd ((M 85 (((M 79 11) - 1)).toNatClampNeg) - (M 85 (((M 79 11) - 1)).toNatClampNeg) / 1048576 * 1048576) 260 (some (.inl (jb_up (jb_up M 84 (((M 85 (((M 79 11) - 1)).toNatClampNeg) - (M 85 (((M 79 11) - 1)).toNatClampNeg) / 1048576 * 1048576)).toNatClampNeg ((1048576 * ((M 84 (((M 85 (((M 79 11) - 1)).toNatClampNeg) - (M 85 (((M 79 11) - 1)).toNatClampNeg) / 1048576 * 1048576)).toNatClampNeg) / 1048576)) + (M 79 10))) 79 11 (((jb_up M 84 (((M 85 (((M 79 11) - 1)).toNatClampNeg) - (M 85 (((M 79 11) - 1)).toNatClampNeg) / 1048576 * 1048576)).toNatClampNeg ((1048576 * ((M 84 (((M 85 (((M 79 11) - 1)).toNatClampNeg) - (M 85 (((M 79 11) - 1)).toNatClampNeg) / 1048576 * 1048576)).toNatClampNeg) / 1048576)) + (M 79 10))) 79 11) - 1))))))
noncomputable def zf_199_H0 (x1 : Int32) (s : jb_Mi) : Option ((jb_Mi) ⊕ (jb_Mi)) :=
  (zf_191 s).bind fun q1 => if q1 = 11 then zf_199_J22 x1 s else if x1 = 0 then some (.inr s) else (zf_191 s).bind fun q5 => if q5 = 12 then zf_199_J22 x1 s else some (.inr s)
noncomputable def zf_199 (x1 : Int32) (M : jb_Mi) : Option (jb_Mi) :=
  jb_lp (zf_199_H0 x1) M
-- X13_jumps
noncomputable def zf_200 (x1 : Int32) (M : jb_Mi) : Option (jb_Mi) :=
  jb_gd (M 79 11) 260 ((zf_189 x1 0 (jb_up (jb_up M 85 ((M 79 11)).toNatClampNeg ((1048576 * x1) + (M 79 10))) 79 11 (((jb_up M 85 ((M 79 11)).toNatClampNeg ((1048576 * x1) + (M 79 10))) 79 11) + 1))).bind fun q2 => some (jb_up q2 79 5 ((q2 79 5) + 1)))
-- X13_readsCompared
noncomputable def zf_201_J52 (s0 : Int32) (M : jb_Mi) : Option (Bool × jb_Mi) :=
  if s0 = (-1) then some ((zf_186 1 (M 79 5) M).1, (zf_186 1 (M 79 5) M).2) else (zf_197 (jb_up M 79 5 ((M 79 5) + 1))).bind fun q3 => if (jb_b2i q3.1) = 0 then some (false, q3.2) else (zf_189 s0 0 q3.2).bind fun q4 => (zf_198 q4).bind fun q5 => some (true, q5)
noncomputable def zf_201 (M : jb_Mi) : Option (Bool × jb_Mi) :=
  (zf_197 M).bind fun q1 => if (jb_b2i q1.1) = 0 then some (false, q1.2) else (zf_184 q1.2).bind fun q2 => if q2 = 60 then zf_201_J52 7 q1.2 else (zf_184 q1.2).bind fun q6 => if q6 = 62 then zf_201_J52 8 q1.2 else (zf_184 q1.2).bind fun q7 => if q7 = 61 then zf_201_J52 9 q1.2 else zf_201_J52 (-1) q1.2
-- X13_readsCondition
noncomputable def zf_202_J75 (s1 : Int32) (M : jb_Mi) : Option ((jb_Mi) ⊕ (Bool × jb_Mi)) :=
  (zf_190 s1 M).bind fun q5 => if (jb_b2i q5.1) = 0 then some (.inr (false, q5.2)) else some (.inl q5.2)
noncomputable def zf_202_J58 (M : jb_Mi) : Option ((jb_Mi) ⊕ (Bool × jb_Mi)) :=
  (zf_184 M).bind fun q4 => if q4 = 33 then zf_202_J75 10 M else zf_202_J75 13 M
noncomputable def zf_202_J215 (s1 : Int32) (M : jb_Mi) : Option ((jb_Mi) ⊕ (Bool × jb_Mi)) :=
  (zf_200 s1 M).bind fun q15 => some (.inl q15)
noncomputable def zf_202_J195 (s1 : Int32) (M : jb_Mi) : Option ((jb_Mi) ⊕ (Bool × jb_Mi)) :=
  (zf_199 s1 M).bind fun q13 => (zf_184 q13).bind fun q14 => if q14 = 38 then zf_202_J215 11 q13 else zf_202_J215 12 q13
noncomputable def zf_202_J180 (M : jb_Mi) : Option ((jb_Mi) ⊕ (Bool × jb_Mi)) :=
  (zf_184 M).bind fun q12 => if q12 = 124 then zf_202_J195 1 M else zf_202_J195 0 M
noncomputable def zf_202_H92 (s : jb_Mi) : Option ((jb_Mi) ⊕ ((jb_Mi) ⊕ (Bool × jb_Mi))) :=
  (zf_184 s).bind fun q8 => if q8 = 41 then (zf_199 1 s).bind fun q9 => if ((jb_up (jb_up (jb_up q9 79 11 ((q9 79 11) - 1)) 79 9 (((jb_up q9 79 11 ((q9 79 11) - 1)) 79 9) - 1)) 79 5 (((jb_up (jb_up q9 79 11 ((q9 79 11) - 1)) 79 9 (((jb_up q9 79 11 ((q9 79 11) - 1)) 79 9) - 1)) 79 5) + 1)) 79 11) = 0 then some (.inr (.inr (true, (jb_up (jb_up (jb_up q9 79 11 ((q9 79 11) - 1)) 79 9 (((jb_up q9 79 11 ((q9 79 11) - 1)) 79 9) - 1)) 79 5 (((jb_up (jb_up q9 79 11 ((q9 79 11) - 1)) 79 9 (((jb_up q9 79 11 ((q9 79 11) - 1)) 79 9) - 1)) 79 5) + 1))))) else (zf_198 (jb_up (jb_up (jb_up q9 79 11 ((q9 79 11) - 1)) 79 9 (((jb_up q9 79 11 ((q9 79 11) - 1)) 79 9) - 1)) 79 5 (((jb_up (jb_up q9 79 11 ((q9 79 11) - 1)) 79 9 (((jb_up q9 79 11 ((q9 79 11) - 1)) 79 9) - 1)) 79 5) + 1))).bind fun q10 => some (.inl q10) else (zf_184 s).bind fun q11 => if q11 = 38 then ((zf_202_J180 s).map .inr) else (zf_184 s).bind fun q16 => if q16 = 124 then ((zf_202_J180 s).map .inr) else some (.inr (.inr ((zf_186 1 (s 79 5) s).1, (zf_186 1 (s 79 5) s).2)))
noncomputable def zf_202_H40 (s : jb_Mi) : Option ((jb_Mi) ⊕ (Bool × jb_Mi)) :=
  (zf_184 s).bind fun q3 => if q3 = 33 then zf_202_J58 s else (zf_184 s).bind fun q6 => if q6 = 40 then zf_202_J58 s else (zf_201 s).bind fun q7 => if (jb_b2i q7.1) = 0 then some (.inr (false, q7.2)) else jb_lp (zf_202_H92) q7.2
noncomputable def zf_202 (M : jb_Mi) : Option (Bool × jb_Mi) :=
  (zf_184 M).bind fun q1 => if q1 = 40 then (zf_190 13 (jb_up (jb_up M 79 9 0) 79 11 0)).bind fun q2 => if (jb_b2i q2.1) = 0 then some (false, q2.2) else jb_lp (zf_202_H40) q2.2 else some ((zf_186 1 (M 79 5) M).1, (zf_186 1 (M 79 5) M).2)
-- X13_readsRule
noncomputable def zf_203_J116 (M : jb_Mi) : Option (Bool × jb_Mi) :=
  jb_gd (M 79 12) 16 ((zf_202 (jb_up M 88 ((M 79 12)).toNatClampNeg (M 79 10))).bind fun q5 => if (jb_b2i q5.1) = 0 then some (false, q5.2) else jb_gd (q5.2 79 12) 16 (some (true, (jb_up (jb_up q5.2 89 ((q5.2 79 12)).toNatClampNeg (q5.2 79 10)) 79 12 (((jb_up q5.2 89 ((q5.2 79 12)).toNatClampNeg (q5.2 79 10)) 79 12) + 1)))))
noncomputable def zf_203_J39 (x1 : Int32) (M : jb_Mi) : Option (Bool × jb_Mi) :=
  if (M 79 12) = 16 then some ((zf_186 4 (M 79 5) M).1, (zf_186 4 (M 79 5) M).2) else jb_gd (M 79 12) 16 (jb_gd ((jb_up (jb_up M 86 ((M 79 12)).toNatClampNeg x1) 79 5 (((jb_up M 86 ((M 79 12)).toNatClampNeg x1) 79 5) + 1)) 79 12) 16 (if x1 = 120 then zf_203_J116 (jb_up (jb_up (jb_up (jb_up (jb_up M 86 ((M 79 12)).toNatClampNeg x1) 79 5 (((jb_up M 86 ((M 79 12)).toNatClampNeg x1) 79 5) + 1)) 87 (((jb_up (jb_up M 86 ((M 79 12)).toNatClampNeg x1) 79 5 (((jb_up M 86 ((M 79 12)).toNatClampNeg x1) 79 5) + 1)) 79 12)).toNatClampNeg ((jb_up (jb_up M 86 ((M 79 12)).toNatClampNeg x1) 79 5 (((jb_up M 86 ((M 79 12)).toNatClampNeg x1) 79 5) + 1)) 79 10)) 79 9 0) 79 11 0) else (zf_197 (jb_up (jb_up (jb_up (jb_up (jb_up M 86 ((M 79 12)).toNatClampNeg x1) 79 5 (((jb_up M 86 ((M 79 12)).toNatClampNeg x1) 79 5) + 1)) 87 (((jb_up (jb_up M 86 ((M 79 12)).toNatClampNeg x1) 79 5 (((jb_up M 86 ((M 79 12)).toNatClampNeg x1) 79 5) + 1)) 79 12)).toNatClampNeg ((jb_up (jb_up M 86 ((M 79 12)).toNatClampNeg x1) 79 5 (((jb_up M 86 ((M 79 12)).toNatClampNeg x1) 79 5) + 1)) 79 10)) 79 9 0) 79 11 0)).bind fun q7 => if (jb_b2i q7.1) = 0 then some (false, q7.2) else zf_203_J116 q7.2))
noncomputable def zf_203 (M : jb_Mi) : Option (Bool × jb_Mi) :=
  (zf_184 M).bind fun q1 => if q1 = 116 then zf_203_J39 q1 M else if q1 = 121 then zf_203_J39 q1 M else if q1 = 100 then zf_203_J39 q1 M else if q1 = 120 then zf_203_J39 q1 M else some ((zf_186 1 (M 79 5) M).1, (zf_186 1 (M 79 5) M).2)
-- X13_beginsText
noncomputable def zf_204 (x1 : Int32) (M : jb_Mi) : jb_Mi :=
  (jb_up (jb_up (jb_up (jb_up M 79 5 0) 79 6 x1) 79 10 0) 79 12 0)
-- X13_law
noncomputable def zf_205_H123 (s : Int32 × jb_Mi) : Option ((Int32 × jb_Mi) ⊕ (Int32 × jb_Mi)) :=
  if s.1 < (s.2 79 12) then jb_gd s.1 16 (jb_gd s.1 16 (jb_gd s.1 16 (jb_gd s.1 16 (jb_gd s.1 16 (jb_gd s.1 16 (jb_gd s.1 16 (jb_gd s.1 16 (some (.inl ((s.1 + 1), (jb_up (jb_up (jb_up (jb_up s.2 91 (s.1).toNatClampNeg (s.2 86 (s.1).toNatClampNeg)) 92 (s.1).toNatClampNeg ((jb_up s.2 91 (s.1).toNatClampNeg (s.2 86 (s.1).toNatClampNeg)) 87 (s.1).toNatClampNeg)) 93 (s.1).toNatClampNeg ((jb_up (jb_up s.2 91 (s.1).toNatClampNeg (s.2 86 (s.1).toNatClampNeg)) 92 (s.1).toNatClampNeg ((jb_up s.2 91 (s.1).toNatClampNeg (s.2 86 (s.1).toNatClampNeg)) 87 (s.1).toNatClampNeg)) 88 (s.1).toNatClampNeg)) 94 (s.1).toNatClampNeg ((jb_up (jb_up (jb_up s.2 91 (s.1).toNatClampNeg (s.2 86 (s.1).toNatClampNeg)) 92 (s.1).toNatClampNeg ((jb_up s.2 91 (s.1).toNatClampNeg (s.2 86 (s.1).toNatClampNeg)) 87 (s.1).toNatClampNeg)) 93 (s.1).toNatClampNeg ((jb_up (jb_up s.2 91 (s.1).toNatClampNeg (s.2 86 (s.1).toNatClampNeg)) 92 (s.1).toNatClampNeg ((jb_up s.2 91 (s.1).toNatClampNeg (s.2 86 (s.1).toNatClampNeg)) 87 (s.1).toNatClampNeg)) 88 (s.1).toNatClampNeg)) 89 (s.1).toNatClampNeg)))))))))))) else some (.inr ((s.2 79 12), s.2))
noncomputable def zf_205_H95 (s : Int32 × jb_Mi) : Option ((Int32 × jb_Mi) ⊕ (Int32 × jb_Mi)) :=
  if s.1 < (s.2 79 10) then jb_gd s.1 260 (jb_gd s.1 260 (some (.inl ((s.1 + 1), (jb_up s.2 90 (s.1).toNatClampNeg (s.2 84 (s.1).toNatClampNeg)))))) else ((jb_lp (zf_205_H123) (0, s.2)).map .inr)
noncomputable def zf_205_J71 (x2 : Int32) (M : jb_Mi) : Option (Int32 × jb_Mi) :=
  if x2 = 0 then some (((jb_up M 79 4 0) 79 7), (jb_up M 79 4 0)) else jb_lp (zf_205_H95) (0, (jb_up (jb_up M 79 4 0) 79 13 ((jb_up M 79 4 0) 79 12)))
noncomputable def zf_205_J67 (s0 : Int32) (M : jb_Mi) : Option ((Int32 × jb_Mi) ⊕ (Int32 × jb_Mi)) :=
  some (.inl (s0, M))
noncomputable def zf_205_J66 (M : jb_Mi) : Option ((Int32 × jb_Mi) ⊕ (Int32 × jb_Mi)) :=
  zf_205_J67 0 M
noncomputable def zf_205_H31 (s : Int32 × jb_Mi) : Option ((Int32 × jb_Mi) ⊕ (Int32 × jb_Mi)) :=
  if s.1 = 0 then ((zf_205_J71 s.1 s.2).map .inr) else if (s.2 79 5) < (s.2 79 6) then (zf_187 59 s.2).bind fun q12 => if (jb_b2i q12.1) = 0 then zf_205_J66 q12.2 else (zf_203 q12.2).bind fun q13 => if (jb_b2i q13.1) = 0 then zf_205_J66 q13.2 else zf_205_J67 1 q13.2 else ((zf_205_J71 s.1 s.2).map .inr)
noncomputable def zf_205 (x1 : Int32) (M : jb_Mi) : Option (Int32 × jb_Mi) :=
  if (jb_b2i (zf_164 x1 1 240)) = 0 then some ((-1), M) else if (M 79 4) < x1 then some ((-1), M) else (zf_203 (zf_204 x1 M)).bind fun q1 => jb_lp (zf_205_H31) ((jb_b2i q1.1), q1.2)
-- X13_reckon
noncomputable def zf_206 (x0 : Int32) (x1 : Int32) (x2 : Int32) : Option (Int32) :=
  if x0 = 2 then some (x1 + x2) else if x0 = 3 then some (x1 - x2) else if x0 = 4 then some (x1 * x2) else if x0 = 5 then jb_g0 x2 (some (x1 / x2)) else if x0 = 6 then jb_g0 x2 (some (x1 - x1 / x2 * x2)) else if x0 = 7 then if x1 < x2 then some 1 else some 0 else if x0 = 8 then if x2 < x1 then some 1 else some 0 else if x1 = x2 then some 1 else some 0
-- X13_comesTo
noncomputable def zf_207_J230 (x2 : Int32) (x3 : Int32) (x4 : Int32) (x5 : Int32) (M : jb_Mi) : Option ((Int32 × Int32 × jb_Mi) ⊕ (Int32 × jb_Mi)) :=
  some (.inl (x3, x5, M))
noncomputable def zf_207_J85 (x2 : Int32) (x3 : Int32) (x4 : Int32) (x5 : Int32) (s1 : Int32) (s2 : Int32) (M : jb_Mi) : Option ((Int32 × Int32 × jb_Mi) ⊕ (Int32 × jb_Mi)) :=
  jb_gd s1 260 (zf_207_J230 x2 (x3 + 1) x4 x5 (jb_up M 95 s1.toNatClampNeg s2))
noncomputable def zf_207_J63 (x2 : Int32) (x3 : Int32) (x4 : Int32) (x5 : Int32) (x6 : Int32) (x7 : Int32) (M : jb_Mi) : Option ((Int32 × Int32 × jb_Mi) ⊕ (Int32 × jb_Mi)) :=
  if x6 = 0 then zf_207_J85 x2 x3 x4 x5 x3 x7 M else jb_gd x7 10 (zf_207_J85 x2 x3 x4 x5 x3 (M 96 x7.toNatClampNeg) M)
noncomputable def zf_207_J155 (x2 : Int32) (x3 : Int32) (x4 : Int32) (x5 : Int32) (x7 : Int32) (s0 : Int32) (s1 : Int32) (M : jb_Mi) : Option ((Int32 × Int32 × jb_Mi) ⊕ (Int32 × jb_Mi)) :=
  if s0 = s1 then zf_207_J230 x2 x3 x4 (x4 + x7) M else zf_207_J230 x2 (x3 - 1) x4 x5 M
noncomputable def zf_207_J135 (x2 : Int32) (x3 : Int32) (x4 : Int32) (x5 : Int32) (x6 : Int32) (x7 : Int32) (M : jb_Mi) : Option ((Int32 × Int32 × jb_Mi) ⊕ (Int32 × jb_Mi)) :=
  jb_gd (x3 - 1) 260 (if x6 = 12 then zf_207_J155 x2 x3 x4 x5 x7 (M 95 ((x3 - 1)).toNatClampNeg) 1 M else zf_207_J155 x2 x3 x4 x5 x7 (M 95 ((x3 - 1)).toNatClampNeg) 0 M)
noncomputable def zf_207_J203 (x2 : Int32) (x3 : Int32) (x4 : Int32) (x5 : Int32) (x6 : Int32) (M : jb_Mi) : Option ((Int32 × Int32 × jb_Mi) ⊕ (Int32 × jb_Mi)) :=
  jb_gd (x3 - 1) 260 (jb_gd x3 260 ((zf_206 x6 (M 95 ((x3 - 1)).toNatClampNeg) (M 95 x3.toNatClampNeg)).bind fun q11 => jb_gd (x3 - 1) 260 (zf_207_J230 x2 x3 x4 x5 (jb_up M 95 ((x3 - 1)).toNatClampNeg q11))))
noncomputable def zf_207_J192 (x2 : Int32) (x3 : Int32) (x4 : Int32) (x5 : Int32) (x6 : Int32) (M : jb_Mi) : Option ((Int32 × Int32 × jb_Mi) ⊕ (Int32 × jb_Mi)) :=
  jb_gd x3 260 (if (M 95 x3.toNatClampNeg) = 0 then some (.inr (0, M)) else zf_207_J203 x2 x3 x4 x5 x6 M)
noncomputable def zf_207_H16 (x2 : Int32) (x4 : Int32) (s : Int32 × Int32 × jb_Mi) : Option ((Int32 × Int32 × jb_Mi) ⊕ (Int32 × jb_Mi)) :=
  if s.2.1 < x2 then jb_gd s.2.1 260 (jb_gd s.2.1 260 (if ((s.2.2 90 (s.2.1).toNatClampNeg) / 1048576) = 0 then zf_207_J63 x2 s.1 x4 (s.2.1 + 1) ((s.2.2 90 (s.2.1).toNatClampNeg) / 1048576) ((s.2.2 90 (s.2.1).toNatClampNeg) - (s.2.2 90 (s.2.1).toNatClampNeg) / 1048576 * 1048576) s.2.2 else if ((s.2.2 90 (s.2.1).toNatClampNeg) / 1048576) = 1 then zf_207_J63 x2 s.1 x4 (s.2.1 + 1) ((s.2.2 90 (s.2.1).toNatClampNeg) / 1048576) ((s.2.2 90 (s.2.1).toNatClampNeg) - (s.2.2 90 (s.2.1).toNatClampNeg) / 1048576 * 1048576) s.2.2 else if ((s.2.2 90 (s.2.1).toNatClampNeg) / 1048576) = 10 then jb_gd (s.1 - 1) 260 (jb_gd (s.1 - 1) 260 (zf_207_J230 x2 s.1 x4 (s.2.1 + 1) (jb_up s.2.2 95 ((s.1 - 1)).toNatClampNeg (1 - (s.2.2 95 ((s.1 - 1)).toNatClampNeg))))) else if ((s.2.2 90 (s.2.1).toNatClampNeg) / 1048576) = 11 then zf_207_J135 x2 s.1 x4 (s.2.1 + 1) ((s.2.2 90 (s.2.1).toNatClampNeg) / 1048576) ((s.2.2 90 (s.2.1).toNatClampNeg) - (s.2.2 90 (s.2.1).toNatClampNeg) / 1048576 * 1048576) s.2.2 else if ((s.2.2 90 (s.2.1).toNatClampNeg) / 1048576) = 12 then zf_207_J135 x2 s.1 x4 (s.2.1 + 1) ((s.2.2 90 (s.2.1).toNatClampNeg) / 1048576) ((s.2.2 90 (s.2.1).toNatClampNeg) - (s.2.2 90 (s.2.1).toNatClampNeg) / 1048576 * 1048576) s.2.2 else if ((s.2.2 90 (s.2.1).toNatClampNeg) / 1048576) = 5 then zf_207_J192 x2 (s.1 - 1) x4 (s.2.1 + 1) ((s.2.2 90 (s.2.1).toNatClampNeg) / 1048576) s.2.2 else if ((s.2.2 90 (s.2.1).toNatClampNeg) / 1048576) = 6 then zf_207_J192 x2 (s.1 - 1) x4 (s.2.1 + 1) ((s.2.2 90 (s.2.1).toNatClampNeg) / 1048576) s.2.2 else zf_207_J203 x2 (s.1 - 1) x4 (s.2.1 + 1) ((s.2.2 90 (s.2.1).toNatClampNeg) / 1048576) s.2.2)) else some (.inr ((s.2.2 95 0), s.2.2))
noncomputable def zf_207 (x1 : Int32) (x2 : Int32) (M : jb_Mi) : Option (Int32 × jb_Mi) :=
  jb_lp (zf_207_H16 x2 (260 * (x1 / 260))) (0, x1, M)
-- X13_byLaw
noncomputable def zf_208_J83 (x1 : Int32) (x2 : Int32) (x3 : Int32) (M : jb_Mi) : Option ((Int32 × jb_Mi) ⊕ (Int32 × jb_Mi)) :=
  some (.inl ((x3 + 1), M))
noncomputable def zf_208_H2 (x1 : Int32) (x2 : Int32) (s : Int32 × jb_Mi) : Option ((Int32 × jb_Mi) ⊕ (Int32 × jb_Mi)) :=
  if s.1 < (s.2 79 13) then jb_gd s.1 16 (if (s.2 91 (s.1).toNatClampNeg) = x1 then jb_gd s.1 16 (jb_gd s.1 16 ((zf_207 (s.2 93 (s.1).toNatClampNeg) (s.2 94 (s.1).toNatClampNeg) s.2).bind fun q4 => if q4.1 = 1 then jb_gd s.1 16 (jb_gd s.1 16 ((zf_207 (q4.2 92 (s.1).toNatClampNeg) (q4.2 93 (s.1).toNatClampNeg) q4.2).bind fun q7 => if q7.1 < 0 then some (.inr (0, q7.2)) else if x2 < q7.1 then some (.inr (x2, q7.2)) else some (.inr (q7.1, q7.2)))) else zf_208_J83 x1 x2 s.1 q4.2)) else zf_208_J83 x1 x2 s.1 s.2) else some (.inr (0, s.2))
noncomputable def zf_208 (x1 : Int32) (x2 : Int32) (M : jb_Mi) : Option (Int32 × jb_Mi) :=
  jb_lp (zf_208_H2 x1 x2) (0, M)
-- X13_holdsAny
noncomputable def zf_209_J42 (x1 : Int32) (x2 : Int32) (M : jb_Mi) : Option ((Int32 × jb_Mi) ⊕ (Bool × jb_Mi)) :=
  some (.inl ((x2 + 1), M))
noncomputable def zf_209_H2 (x1 : Int32) (s : Int32 × jb_Mi) : Option ((Int32 × jb_Mi) ⊕ (Bool × jb_Mi)) :=
  if s.1 < (s.2 79 13) then jb_gd s.1 16 (if (s.2 91 (s.1).toNatClampNeg) = x1 then jb_gd s.1 16 (jb_gd s.1 16 ((zf_207 (s.2 93 (s.1).toNatClampNeg) (s.2 94 (s.1).toNatClampNeg) s.2).bind fun q4 => if q4.1 = 1 then some (.inr (true, q4.2)) else zf_209_J42 x1 s.1 q4.2)) else zf_209_J42 x1 s.1 s.2) else some (.inr (false, s.2))
noncomputable def zf_209 (x1 : Int32) (M : jb_Mi) : Option (Bool × jb_Mi) :=
  jb_lp (zf_209_H2 x1) (0, M)
-- X13_feelsOff
noncomputable def zf_210_H2 (x1 : Int32) (s : Int32 × jb_Mi) : Option ((Int32 × jb_Mi) ⊕ (jb_Mi)) :=
  if s.1 < 10 then jb_gd s.1 10 (some (.inl ((s.1 + 1), (jb_up s.2 96 (s.1).toNatClampNeg 0)))) else jb_gd (114 + x1) 149 (jb_gd (130 + x1) 149 (some (.inr (jb_up (jb_up (jb_up (jb_up (jb_up s.2 96 0 x1) 96 1 ((jb_up s.2 96 0 x1) 80 ((114 + x1)).toNatClampNeg)) 96 2 ((jb_up (jb_up s.2 96 0 x1) 96 1 ((jb_up s.2 96 0 x1) 80 ((114 + x1)).toNatClampNeg)) 80 ((130 + x1)).toNatClampNeg)) 96 8 ((jb_up (jb_up (jb_up s.2 96 0 x1) 96 1 ((jb_up s.2 96 0 x1) 80 ((114 + x1)).toNatClampNeg)) 96 2 ((jb_up (jb_up s.2 96 0 x1) 96 1 ((jb_up s.2 96 0 x1) 80 ((114 + x1)).toNatClampNeg)) 80 ((130 + x1)).toNatClampNeg)) 80 146)) 96 9 (((jb_up (jb_up (jb_up (jb_up s.2 96 0 x1) 96 1 ((jb_up s.2 96 0 x1) 80 ((114 + x1)).toNatClampNeg)) 96 2 ((jb_up (jb_up s.2 96 0 x1) 96 1 ((jb_up s.2 96 0 x1) 80 ((114 + x1)).toNatClampNeg)) 80 ((130 + x1)).toNatClampNeg)) 96 8 ((jb_up (jb_up (jb_up s.2 96 0 x1) 96 1 ((jb_up s.2 96 0 x1) 80 ((114 + x1)).toNatClampNeg)) 96 2 ((jb_up (jb_up s.2 96 0 x1) 96 1 ((jb_up s.2 96 0 x1) 80 ((114 + x1)).toNatClampNeg)) 80 ((130 + x1)).toNatClampNeg)) 80 146)) 80 147) - ((jb_up (jb_up (jb_up (jb_up s.2 96 0 x1) 96 1 ((jb_up s.2 96 0 x1) 80 ((114 + x1)).toNatClampNeg)) 96 2 ((jb_up (jb_up s.2 96 0 x1) 96 1 ((jb_up s.2 96 0 x1) 80 ((114 + x1)).toNatClampNeg)) 80 ((130 + x1)).toNatClampNeg)) 96 8 ((jb_up (jb_up (jb_up s.2 96 0 x1) 96 1 ((jb_up s.2 96 0 x1) 80 ((114 + x1)).toNatClampNeg)) 96 2 ((jb_up (jb_up s.2 96 0 x1) 96 1 ((jb_up s.2 96 0 x1) 80 ((114 + x1)).toNatClampNeg)) 80 ((130 + x1)).toNatClampNeg)) 80 146)) 80 147) / 100 * 100)))))
noncomputable def zf_210 (x1 : Int32) (M : jb_Mi) : Option (jb_Mi) :=
  jb_lp (zf_210_H2 x1) (0, M)
-- X13_feelsAt
noncomputable def zf_211 (x1 : Int32) (x2 : Int32) (x3 : Int32) (M : jb_Mi) : Option (jb_Mi) :=
  (zf_210 x1 M).bind fun q1 => (zf_179 x2 x3 q1).bind fun q2 => jb_gd (0 + x2) 149 (jb_gd (12 + x2) 149 (some (jb_up (jb_up (jb_up (jb_up (jb_up q1 96 3 (q2 / 64)) 96 4 x2) 96 5 x3) 96 6 ((jb_up (jb_up (jb_up q1 96 3 (q2 / 64)) 96 4 x2) 96 5 x3) 80 ((0 + x2)).toNatClampNeg)) 96 7 ((jb_up (jb_up (jb_up (jb_up q1 96 3 (q2 / 64)) 96 4 x2) 96 5 x3) 96 6 ((jb_up (jb_up (jb_up q1 96 3 (q2 / 64)) 96 4 x2) 96 5 x3) 80 ((0 + x2)).toNatClampNeg)) 80 ((12 + x2)).toNatClampNeg))))
-- X13_repeats
noncomputable def zf_212_H31 (x1 : Int32) (x2 : Int32) (x4 : Int32) (s : Int32 × jb_Mi) : Option ((Int32 × jb_Mi) ⊕ (Bool × jb_Mi)) :=
  if s.1 < (x4 * x2) then jb_gd ((x1 + s.1) - x4) 48 (jb_gd (x1 + s.1) 48 (some (.inl ((s.1 + 1), (jb_up s.2 99 ((x1 + s.1)).toNatClampNeg (s.2 99 (((x1 + s.1) - x4)).toNatClampNeg)))))) else some (.inr (true, (jb_up s.2 79 33 (x1 + (x4 * x2)))))
noncomputable def zf_212 (x1 : Int32) (x2 : Int32) (x3 : Int32) (M : jb_Mi) : Option (Bool × jb_Mi) :=
  if 48 < (x1 + (((M 79 33) - x1) * x2)) then some ((zf_186 6 x3 M).1, (zf_186 6 x3 M).2) else jb_lp (zf_212_H31 x1 x2 ((M 79 33) - x1)) (((M 79 33) - x1), M)
-- X13_readsTimes
noncomputable def zf_213 (M : jb_Mi) : Option (jb_Mi) :=
  (zf_184 (jb_up (jb_up M 79 35 (M 79 5)) 79 36 1)).bind fun q1 => if (jb_b2i (zf_164 q1 50 57)) = 0 then some (jb_up (jb_up M 79 35 (M 79 5)) 79 36 1) else (zf_184 (jb_up (jb_up M 79 35 (M 79 5)) 79 36 1)).bind fun q2 => some (jb_up (jb_up (jb_up (jb_up M 79 35 (M 79 5)) 79 36 1) 79 36 (q2 - 48)) 79 5 (((jb_up (jb_up (jb_up M 79 35 (M 79 5)) 79 36 1) 79 36 (q2 - 48)) 79 5) + 1))
-- X13_readsItem
noncomputable def zf_214_H218 (s : jb_Mi) : Option ((jb_Mi) ⊕ (Bool × jb_Mi)) :=
  (zf_184 s).bind fun q10 => if q10 = 41 then if 0 < (s 79 34) then jb_gd ((jb_up (jb_up s 79 5 ((s 79 5) + 1)) 79 34 (((jb_up s 79 5 ((s 79 5) + 1)) 79 34) - 1)) 79 34) 2 (jb_gd ((jb_up (jb_up s 79 5 ((s 79 5) + 1)) 79 34 (((jb_up s 79 5 ((s 79 5) + 1)) 79 34) - 1)) 79 34) 2 (jb_gd ((jb_up (jb_up s 79 5 ((s 79 5) + 1)) 79 34 (((jb_up s 79 5 ((s 79 5) + 1)) 79 34) - 1)) 79 34) 2 ((zf_212 ((jb_up (jb_up s 79 5 ((s 79 5) + 1)) 79 34 (((jb_up s 79 5 ((s 79 5) + 1)) 79 34) - 1)) 101 (((jb_up (jb_up s 79 5 ((s 79 5) + 1)) 79 34 (((jb_up s 79 5 ((s 79 5) + 1)) 79 34) - 1)) 79 34)).toNatClampNeg) ((jb_up (jb_up s 79 5 ((s 79 5) + 1)) 79 34 (((jb_up s 79 5 ((s 79 5) + 1)) 79 34) - 1)) 102 (((jb_up (jb_up s 79 5 ((s 79 5) + 1)) 79 34 (((jb_up s 79 5 ((s 79 5) + 1)) 79 34) - 1)) 79 34)).toNatClampNeg) ((jb_up (jb_up s 79 5 ((s 79 5) + 1)) 79 34 (((jb_up s 79 5 ((s 79 5) + 1)) 79 34) - 1)) 100 (((jb_up (jb_up s 79 5 ((s 79 5) + 1)) 79 34 (((jb_up s 79 5 ((s 79 5) + 1)) 79 34) - 1)) 79 34)).toNatClampNeg) (jb_up (jb_up s 79 5 ((s 79 5) + 1)) 79 34 (((jb_up s 79 5 ((s 79 5) + 1)) 79 34) - 1))).bind fun q14 => if (jb_b2i q14.1) = 0 then some (.inr (false, q14.2)) else some (.inl q14.2)))) else some (.inr (true, s)) else some (.inr (true, s))
noncomputable def zf_214_J180 (x1 : Int32) (x2 : Int32) (s1 : Int32) (s2 : Int32) (M : jb_Mi) : Option (Bool × jb_Mi) :=
  jb_gd s1 48 ((zf_212 (((jb_up (jb_up (jb_up M 99 s1.toNatClampNeg s2) 79 33 (((jb_up M 99 s1.toNatClampNeg s2) 79 33) + 1)) 79 5 (((jb_up (jb_up M 99 s1.toNatClampNeg s2) 79 33 (((jb_up M 99 s1.toNatClampNeg s2) 79 33) + 1)) 79 5) + 1)) 79 33) - 1) x2 x1 (jb_up (jb_up (jb_up M 99 s1.toNatClampNeg s2) 79 33 (((jb_up M 99 s1.toNatClampNeg s2) 79 33) + 1)) 79 5 (((jb_up (jb_up M 99 s1.toNatClampNeg s2) 79 33 (((jb_up M 99 s1.toNatClampNeg s2) 79 33) + 1)) 79 5) + 1))).bind fun q9 => if (jb_b2i q9.1) = 0 then some (false, q9.2) else jb_lp (zf_214_H218) q9.2)
noncomputable def zf_214_J139 (x1 : Int32) (x2 : Int32) (x3 : Int32) (M : jb_Mi) : Option (Bool × jb_Mi) :=
  if 48 < ((M 79 33) + x2) then some ((zf_186 6 x1 M).1, (zf_186 6 x1 M).2) else if x3 = 46 then zf_214_J180 x1 x2 (M 79 33) (-1) M else zf_214_J180 x1 x2 (M 79 33) (x3 - 97) M
noncomputable def zf_214_H4 (s : jb_Mi) : Option ((jb_Mi) ⊕ (Bool × jb_Mi)) :=
  (zf_184 s).bind fun q2 => if q2 = 40 then if (s 79 34) = 2 then some (.inr ((zf_186 5 (s 79 5) s).1, (zf_186 5 (s 79 5) s).2)) else jb_gd (s 79 34) 2 (jb_gd ((jb_up s 100 ((s 79 34)).toNatClampNeg (s 79 35)) 79 34) 2 (jb_gd ((jb_up (jb_up s 100 ((s 79 34)).toNatClampNeg (s 79 35)) 101 (((jb_up s 100 ((s 79 34)).toNatClampNeg (s 79 35)) 79 34)).toNatClampNeg ((jb_up s 100 ((s 79 34)).toNatClampNeg (s 79 35)) 79 33)) 79 34) 2 ((zf_213 (jb_up (jb_up (jb_up (jb_up (jb_up s 100 ((s 79 34)).toNatClampNeg (s 79 35)) 101 (((jb_up s 100 ((s 79 34)).toNatClampNeg (s 79 35)) 79 34)).toNatClampNeg ((jb_up s 100 ((s 79 34)).toNatClampNeg (s 79 35)) 79 33)) 102 (((jb_up (jb_up s 100 ((s 79 34)).toNatClampNeg (s 79 35)) 101 (((jb_up s 100 ((s 79 34)).toNatClampNeg (s 79 35)) 79 34)).toNatClampNeg ((jb_up s 100 ((s 79 34)).toNatClampNeg (s 79 35)) 79 33)) 79 34)).toNatClampNeg ((jb_up (jb_up s 100 ((s 79 34)).toNatClampNeg (s 79 35)) 101 (((jb_up s 100 ((s 79 34)).toNatClampNeg (s 79 35)) 79 34)).toNatClampNeg ((jb_up s 100 ((s 79 34)).toNatClampNeg (s 79 35)) 79 33)) 79 36)) 79 34 (((jb_up (jb_up (jb_up s 100 ((s 79 34)).toNatClampNeg (s 79 35)) 101 (((jb_up s 100 ((s 79 34)).toNatClampNeg (s 79 35)) 79 34)).toNatClampNeg ((jb_up s 100 ((s 79 34)).toNatClampNeg (s 79 35)) 79 33)) 102 (((jb_up (jb_up s 100 ((s 79 34)).toNatClampNeg (s 79 35)) 101 (((jb_up s 100 ((s 79 34)).toNatClampNeg (s 79 35)) 79 34)).toNatClampNeg ((jb_up s 100 ((s 79 34)).toNatClampNeg (s 79 35)) 79 33)) 79 34)).toNatClampNeg ((jb_up (jb_up s 100 ((s 79 34)).toNatClampNeg (s 79 35)) 101 (((jb_up s 100 ((s 79 34)).toNatClampNeg (s 79 35)) 79 34)).toNatClampNeg ((jb_up s 100 ((s 79 34)).toNatClampNeg (s 79 35)) 79 33)) 79 36)) 79 34) + 1)) 79 5 (((jb_up (jb_up (jb_up (jb_up s 100 ((s 79 34)).toNatClampNeg (s 79 35)) 101 (((jb_up s 100 ((s 79 34)).toNatClampNeg (s 79 35)) 79 34)).toNatClampNeg ((jb_up s 100 ((s 79 34)).toNatClampNeg (s 79 35)) 79 33)) 102 (((jb_up (jb_up s 100 ((s 79 34)).toNatClampNeg (s 79 35)) 101 (((jb_up s 100 ((s 79 34)).toNatClampNeg (s 79 35)) 79 34)).toNatClampNeg ((jb_up s 100 ((s 79 34)).toNatClampNeg (s 79 35)) 79 33)) 79 34)).toNatClampNeg ((jb_up (jb_up s 100 ((s 79 34)).toNatClampNeg (s 79 35)) 101 (((jb_up s 100 ((s 79 34)).toNatClampNeg (s 79 35)) 79 34)).toNatClampNeg ((jb_up s 100 ((s 79 34)).toNatClampNeg (s 79 35)) 79 33)) 79 36)) 79 34 (((jb_up (jb_up (jb_up s 100 ((s 79 34)).toNatClampNeg (s 79 35)) 101 (((jb_up s 100 ((s 79 34)).toNatClampNeg (s 79 35)) 79 34)).toNatClampNeg ((jb_up s 100 ((s 79 34)).toNatClampNeg (s 79 35)) 79 33)) 102 (((jb_up (jb_up s 100 ((s 79 34)).toNatClampNeg (s 79 35)) 101 (((jb_up s 100 ((s 79 34)).toNatClampNeg (s 79 35)) 79 34)).toNatClampNeg ((jb_up s 100 ((s 79 34)).toNatClampNeg (s 79 35)) 79 33)) 79 34)).toNatClampNeg ((jb_up (jb_up s 100 ((s 79 34)).toNatClampNeg (s 79 35)) 101 (((jb_up s 100 ((s 79 34)).toNatClampNeg (s 79 35)) 79 34)).toNatClampNeg ((jb_up s 100 ((s 79 34)).toNatClampNeg (s 79 35)) 79 33)) 79 36)) 79 34) + 1)) 79 5) + 1))).bind fun q6 => some (.inl q6)))) else (zf_184 s).bind fun q7 => if q7 = 46 then ((zf_214_J139 (s 79 35) (s 79 36) q7 s).map .inr) else if (jb_b2i (zf_164 q7 97 112)) = 0 then some (.inr ((zf_186 1 (s 79 5) s).1, (zf_186 1 (s 79 5) s).2)) else ((zf_214_J139 (s 79 35) (s 79 36) q7 s).map .inr)
noncomputable def zf_214 (M : jb_Mi) : Option (Bool × jb_Mi) :=
  (zf_213 M).bind fun q1 => jb_lp (zf_214_H4) q1
-- X13_roster
noncomputable def zf_215_H127 (x5 : Int32) (s : Int32 × jb_Mi) : Option ((Int32 × jb_Mi) ⊕ (Int32 × jb_Mi)) :=
  if s.1 < (s.2 79 33) then jb_gd s.1 48 (jb_gd ((48 * x5) + s.1) 1152 (some (.inl ((s.1 + 1), (jb_up s.2 97 (((48 * x5) + s.1)).toNatClampNeg (((s.2 99 (s.1).toNatClampNeg) : Int32).toInt8.toInt32 : Int32).toInt8.toInt32))))) else some (.inr ((s.2 79 33), s.2))
noncomputable def zf_215_J91 (x1 : Int32) (x2 : Int32) (x4 : Int32) (M : jb_Mi) : Option (Int32 × jb_Mi) :=
  if x4 = 0 then some (((jb_up M 79 4 0) 79 7), (jb_up M 79 4 0)) else jb_gd ((4 * x1) + x2) 24 (jb_lp (zf_215_H127 ((4 * x1) + x2)) (0, (jb_up (jb_up M 79 4 0) 98 (((4 * x1) + x2)).toNatClampNeg ((jb_up M 79 4 0) 79 33))))
noncomputable def zf_215_J82 (x1 : Int32) (x2 : Int32) (M : jb_Mi) : Option ((Int32 × jb_Mi) ⊕ (Int32 × jb_Mi)) :=
  (zf_214 M).bind fun q5 => some (.inl ((jb_b2i q5.1), q5.2))
noncomputable def zf_215_H59 (x1 : Int32) (x2 : Int32) (s : Int32 × jb_Mi) : Option ((Int32 × jb_Mi) ⊕ (Int32 × jb_Mi)) :=
  if s.1 = 0 then ((zf_215_J91 x1 x2 s.1 s.2).map .inr) else if (s.2 79 5) < (s.2 79 6) then zf_215_J82 x1 x2 s.2 else if 0 < (s.2 79 34) then zf_215_J82 x1 x2 s.2 else ((zf_215_J91 x1 x2 s.1 s.2).map .inr)
noncomputable def zf_215 (x1 : Int32) (x2 : Int32) (x3 : Int32) (M : jb_Mi) : Option (Int32 × jb_Mi) :=
  if (jb_b2i (zf_164 x1 0 5)) = 0 then some ((-1), M) else if (jb_b2i (zf_164 x2 0 3)) = 0 then some ((-1), M) else if (jb_b2i (zf_164 x3 1 40)) = 0 then some ((-1), M) else if (M 79 4) < x3 then some ((-1), M) else (zf_214 (jb_up (jb_up (zf_204 x3 M) 79 33 0) 79 34 0)).bind fun q1 => jb_lp (zf_215_H59 x1 x2) ((jb_b2i q1.1), q1.2)
-- X13_dutyAt
noncomputable def zf_216 (x1 : Int32) (x2 : Int32) (M : jb_Mi) : Option (Int32) :=
  jb_gd x1 24 (if (M 98 x1.toNatClampNeg) = 0 then some (-1) else jb_gd x1 24 (jb_g0 (M 98 x1.toNatClampNeg) (jb_gd ((48 * x1) + ((((24 * (M 80 147)) + (M 80 146)) + x2) - (((24 * (M 80 147)) + (M 80 146)) + x2) / (M 98 x1.toNatClampNeg) * (M 98 x1.toNatClampNeg))) 1152 ((zf_174 (M 97 (((48 * x1) + ((((24 * (M 80 147)) + (M 80 146)) + x2) - (((24 * (M 80 147)) + (M 80 146)) + x2) / (M 98 x1.toNatClampNeg) * (M 98 x1.toNatClampNeg)))).toNatClampNeg) M).bind fun q5 => if (jb_b2i q5) = 0 then some (-1) else some (M 97 (((48 * x1) + ((((24 * (M 80 147)) + (M 80 146)) + x2) - (((24 * (M 80 147)) + (M 80 146)) + x2) / (M 98 x1.toNatClampNeg) * (M 98 x1.toNatClampNeg)))).toNatClampNeg)))))
-- X13_duty
noncomputable def zf_217 (x1 : Int32) (x2 : Int32) (M : jb_Mi) : Option (Int32) :=
  (zf_171 x1 M).bind fun q1 => if (jb_b2i q1) = 0 then some (-1) else if (jb_b2i (zf_164 x2 0 3)) = 0 then some (-1) else (zf_216 ((4 * x1) + x2) 0 M).bind fun q2 => if q2 = (-1) then some (-2) else some q2
-- X13_readsAmount
noncomputable def zf_218_H27 (x1 : Int32) (s : jb_Mi) : Option ((jb_Mi) ⊕ (Bool × jb_Mi)) :=
  (zf_185 s).bind fun q2 => if (jb_b2i q2) = 0 then some (.inr (true, s)) else if (s 79 5) = (x1 + 2) then some (.inr ((zf_186 2 (s 79 5) s).1, (zf_186 2 (s 79 5) s).2)) else (zf_184 s).bind fun q3 => some (.inl (jb_up (jb_up s 79 8 (((10 * (s 79 8)) + q3) - 48)) 79 5 (((jb_up s 79 8 (((10 * (s 79 8)) + q3) - 48)) 79 5) + 1)))
noncomputable def zf_218 (M : jb_Mi) : Option (Bool × jb_Mi) :=
  (zf_185 M).bind fun q1 => if (jb_b2i q1) = 0 then some ((zf_186 1 (M 79 5) M).1, (zf_186 1 (M 79 5) M).2) else jb_lp (zf_218_H27 (M 79 5)) (jb_up M 79 8 0)
-- X13_readsSpot
noncomputable def zf_219 (M : jb_Mi) : Option (Bool × jb_Mi) :=
  (zf_184 M).bind fun q1 => if (jb_b2i (zf_164 q1 48 56)) = 0 then some ((zf_186 1 (M 79 5) M).1, (zf_186 1 (M 79 5) M).2) else (zf_184 M).bind fun q2 => some (true, (jb_up (jb_up M 79 8 (q2 - 48)) 79 5 (((jb_up M 79 8 (q2 - 48)) 79 5) + 1)))
-- X13_movesThing
noncomputable def zf_220_J33 (x1 : Int32) (x2 : Int32) (M : jb_Mi) : Option (Bool × jb_Mi) :=
  if x2 = 33 then jb_gd (18 + x1) 149 (some (true, (jb_up (jb_up M 79 5 ((M 79 5) + 1)) 80 ((18 + x1)).toNatClampNeg (-1)))) else if x2 = 64 then (zf_184 (jb_up M 79 5 ((M 79 5) + 1))).bind fun q3 => if (jb_b2i (zf_164 (q3 - 48) 0 5)) = 0 then some ((zf_186 1 ((jb_up M 79 5 ((M 79 5) + 1)) 79 5) (jb_up M 79 5 ((M 79 5) + 1))).1, (zf_186 1 ((jb_up M 79 5 ((M 79 5) + 1)) 79 5) (jb_up M 79 5 ((M 79 5) + 1))).2) else (zf_171 (q3 - 48) (jb_up M 79 5 ((M 79 5) + 1))).bind fun q4 => if (jb_b2i q4) = 0 then some ((zf_186 7 ((jb_up M 79 5 ((M 79 5) + 1)) 79 5) (jb_up M 79 5 ((M 79 5) + 1))).1, (zf_186 7 ((jb_up M 79 5 ((M 79 5) + 1)) 79 5) (jb_up M 79 5 ((M 79 5) + 1))).2) else jb_gd (18 + x1) 149 (some (true, (jb_up (jb_up (jb_up M 79 5 ((M 79 5) + 1)) 79 5 (((jb_up M 79 5 ((M 79 5) + 1)) 79 5) + 1)) 80 ((18 + x1)).toNatClampNeg (q3 - 48)))) else (zf_219 (jb_up M 79 5 ((M 79 5) + 1))).bind fun q6 => if (jb_b2i q6.1) = 0 then some (false, q6.2) else (zf_219 q6.2).bind fun q7 => if (jb_b2i q7.1) = 0 then some (false, q7.2) else jb_gd (42 + x1) 149 (jb_gd (66 + x1) 149 (some (true, (jb_up (jb_up q7.2 80 ((42 + x1)).toNatClampNeg (q6.2 79 8)) 80 ((66 + x1)).toNatClampNeg ((jb_up q7.2 80 ((42 + x1)).toNatClampNeg (q6.2 79 8)) 79 8)))))
noncomputable def zf_220 (x1 : Int32) (M : jb_Mi) : Option (Bool × jb_Mi) :=
  (zf_184 M).bind fun q1 => if q1 = 62 then zf_220_J33 x1 q1 M else if q1 = 64 then zf_220_J33 x1 q1 M else if q1 = 33 then zf_220_J33 x1 q1 M else some ((zf_186 1 (M 79 5) M).1, (zf_186 1 (M 79 5) M).2)
-- X13_readsLine
noncomputable def zf_221_J40 (x1 : Int32) (x2 : Int32) (M : jb_Mi) : Option (Bool × jb_Mi) :=
  if (M 79 37) = 20 then some ((zf_186 4 (M 79 5) M).1, (zf_186 4 (M 79 5) M).2) else (zf_185 (jb_up M 79 37 ((M 79 37) + 1))).bind fun q3 => if (jb_b2i q3) = 0 then (zf_174 x2 (jb_up M 79 37 ((M 79 37) + 1))).bind fun q4 => if (jb_b2i q4) = 0 then some ((zf_186 7 ((jb_up M 79 37 ((M 79 37) + 1)) 79 5) (jb_up M 79 37 ((M 79 37) + 1))).1, (zf_186 7 ((jb_up M 79 37 ((M 79 37) + 1)) 79 5) (jb_up M 79 37 ((M 79 37) + 1))).2) else (zf_218 (jb_up (jb_up M 79 37 ((M 79 37) + 1)) 79 5 (((jb_up M 79 37 ((M 79 37) + 1)) 79 5) + 1))).bind fun q5 => if (jb_b2i q5.1) = 0 then some (false, q5.2) else jb_gd (130 + x2) 149 (jb_gd (130 + x2) 149 (some (true, (jb_up q5.2 80 ((130 + x2)).toNatClampNeg (zf_166 0 ((q5.2 80 ((130 + x2)).toNatClampNeg) - (q5.2 79 8))))))) else (zf_218 (jb_up M 79 37 ((M 79 37) + 1))).bind fun q8 => if (jb_b2i q8.1) = 0 then some (false, q8.2) else (zf_173 (q8.2 79 8) q8.2).bind fun q9 => if (jb_b2i q9) = 0 then some ((zf_186 7 x1 q8.2).1, (zf_186 7 x1 q8.2).2) else (zf_220 (q8.2 79 8) q8.2).bind fun q10 => some (q10.1, q10.2)
noncomputable def zf_221 (M : jb_Mi) : Option (Bool × jb_Mi) :=
  (zf_184 M).bind fun q1 => (zf_185 M).bind fun q2 => if (jb_b2i q2) = 0 then if (jb_b2i (zf_164 (q1 - 97) 0 15)) = 0 then some ((zf_186 1 (M 79 5) M).1, (zf_186 1 (M 79 5) M).2) else zf_221_J40 (M 79 5) (q1 - 97) M else zf_221_J40 (M 79 5) (q1 - 97) M
-- X13_orders
noncomputable def zf_222_J86 (x2 : Int32) (M : jb_Mi) : Option (Int32 × jb_Mi) :=
  if x2 = 0 then (zf_170 81 80 (jb_up M 79 4 0)).bind fun q3 => some ((q3 79 7), q3) else some (((jb_up M 79 4 0) 79 37), (jb_up M 79 4 0))
noncomputable def zf_222_J82 (s0 : Int32) (M : jb_Mi) : Option ((Int32 × jb_Mi) ⊕ (Int32 × jb_Mi)) :=
  some (.inl (s0, M))
noncomputable def zf_222_J81 (M : jb_Mi) : Option ((Int32 × jb_Mi) ⊕ (Int32 × jb_Mi)) :=
  zf_222_J82 0 M
noncomputable def zf_222_H46 (s : Int32 × jb_Mi) : Option ((Int32 × jb_Mi) ⊕ (Int32 × jb_Mi)) :=
  if s.1 = 0 then ((zf_222_J86 s.1 s.2).map .inr) else if (s.2 79 5) < (s.2 79 6) then (zf_187 59 s.2).bind fun q4 => if (jb_b2i q4.1) = 0 then zf_222_J81 q4.2 else (zf_221 q4.2).bind fun q5 => if (jb_b2i q5.1) = 0 then zf_222_J81 q5.2 else zf_222_J82 1 q5.2 else ((zf_222_J86 s.1 s.2).map .inr)
noncomputable def zf_222 (x1 : Int32) (M : jb_Mi) : Option (Int32 × jb_Mi) :=
  if (jb_b2i (zf_164 x1 1 120)) = 0 then some ((-1), M) else if (M 79 4) < x1 then some ((-1), M) else (zf_170 80 81 (jb_up (zf_204 x1 M) 79 37 0)).bind fun q1 => (zf_221 q1).bind fun q2 => jb_lp (zf_222_H46) ((jb_b2i q2.1), q2.2)
-- X13_sags
noncomputable def zf_223 (x1 : Int32) (M : jb_Mi) : Option (jb_Mi) :=
  jb_gd (12 + x1) 149 (jb_gd (12 + x1) 149 (jb_gd (12 + x1) 149 (if ((jb_up (jb_up M 80 ((12 + x1)).toNatClampNeg ((M 80 ((12 + x1)).toNatClampNeg) + 1)) 79 38 (((jb_up M 80 ((12 + x1)).toNatClampNeg ((M 80 ((12 + x1)).toNatClampNeg) + 1)) 79 38) + 1)) 80 ((12 + x1)).toNatClampNeg) < 9 then some (jb_up (jb_up M 80 ((12 + x1)).toNatClampNeg ((M 80 ((12 + x1)).toNatClampNeg) + 1)) 79 38 (((jb_up M 80 ((12 + x1)).toNatClampNeg ((M 80 ((12 + x1)).toNatClampNeg) + 1)) 79 38) + 1)) else jb_gd x1 6 (if ((jb_up (jb_up (jb_up (jb_up M 80 ((12 + x1)).toNatClampNeg ((M 80 ((12 + x1)).toNatClampNeg) + 1)) 79 38 (((jb_up M 80 ((12 + x1)).toNatClampNeg ((M 80 ((12 + x1)).toNatClampNeg) + 1)) 79 38) + 1)) 79 41 (((jb_up (jb_up M 80 ((12 + x1)).toNatClampNeg ((M 80 ((12 + x1)).toNatClampNeg) + 1)) 79 38 (((jb_up M 80 ((12 + x1)).toNatClampNeg ((M 80 ((12 + x1)).toNatClampNeg) + 1)) 79 38) + 1)) 79 41) + 1)) 103 x1.toNatClampNeg ((jb_up (jb_up (jb_up M 80 ((12 + x1)).toNatClampNeg ((M 80 ((12 + x1)).toNatClampNeg) + 1)) 79 38 (((jb_up M 80 ((12 + x1)).toNatClampNeg ((M 80 ((12 + x1)).toNatClampNeg) + 1)) 79 38) + 1)) 79 41 (((jb_up (jb_up M 80 ((12 + x1)).toNatClampNeg ((M 80 ((12 + x1)).toNatClampNeg) + 1)) 79 38 (((jb_up M 80 ((12 + x1)).toNatClampNeg ((M 80 ((12 + x1)).toNatClampNeg) + 1)) 79 38) + 1)) 79 41) + 1)) 79 43)) 79 42) = (-1) then some (jb_up (jb_up (jb_up (jb_up (jb_up M 80 ((12 + x1)).toNatClampNeg ((M 80 ((12 + x1)).toNatClampNeg) + 1)) 79 38 (((jb_up M 80 ((12 + x1)).toNatClampNeg ((M 80 ((12 + x1)).toNatClampNeg) + 1)) 79 38) + 1)) 79 41 (((jb_up (jb_up M 80 ((12 + x1)).toNatClampNeg ((M 80 ((12 + x1)).toNatClampNeg) + 1)) 79 38 (((jb_up M 80 ((12 + x1)).toNatClampNeg ((M 80 ((12 + x1)).toNatClampNeg) + 1)) 79 38) + 1)) 79 41) + 1)) 103 x1.toNatClampNeg ((jb_up (jb_up (jb_up M 80 ((12 + x1)).toNatClampNeg ((M 80 ((12 + x1)).toNatClampNeg) + 1)) 79 38 (((jb_up M 80 ((12 + x1)).toNatClampNeg ((M 80 ((12 + x1)).toNatClampNeg) + 1)) 79 38) + 1)) 79 41 (((jb_up (jb_up M 80 ((12 + x1)).toNatClampNeg ((M 80 ((12 + x1)).toNatClampNeg) + 1)) 79 38 (((jb_up M 80 ((12 + x1)).toNatClampNeg ((M 80 ((12 + x1)).toNatClampNeg) + 1)) 79 38) + 1)) 79 41) + 1)) 79 43)) 79 42 x1) else some (jb_up (jb_up (jb_up (jb_up M 80 ((12 + x1)).toNatClampNeg ((M 80 ((12 + x1)).toNatClampNeg) + 1)) 79 38 (((jb_up M 80 ((12 + x1)).toNatClampNeg ((M 80 ((12 + x1)).toNatClampNeg) + 1)) 79 38) + 1)) 79 41 (((jb_up (jb_up M 80 ((12 + x1)).toNatClampNeg ((M 80 ((12 + x1)).toNatClampNeg) + 1)) 79 38 (((jb_up M 80 ((12 + x1)).toNatClampNeg ((M 80 ((12 + x1)).toNatClampNeg) + 1)) 79 38) + 1)) 79 41) + 1)) 103 x1.toNatClampNeg ((jb_up (jb_up (jb_up M 80 ((12 + x1)).toNatClampNeg ((M 80 ((12 + x1)).toNatClampNeg) + 1)) 79 38 (((jb_up M 80 ((12 + x1)).toNatClampNeg ((M 80 ((12 + x1)).toNatClampNeg) + 1)) 79 38) + 1)) 79 41 (((jb_up (jb_up M 80 ((12 + x1)).toNatClampNeg ((M 80 ((12 + x1)).toNatClampNeg) + 1)) 79 38 (((jb_up M 80 ((12 + x1)).toNatClampNeg ((M 80 ((12 + x1)).toNatClampNeg) + 1)) 79 38) + 1)) 79 41) + 1)) 79 43))))))
-- X13_letsSag
noncomputable def zf_224_J133 (s0 : Int32) (M : jb_Mi) : Option (Bool × jb_Mi) :=
  if s0 = 0 then jb_gz s0 (fun b => some (b, M)) else jb_gz s0 (fun b => some (b, (jb_up M 79 39 ((M 79 39) + 1))))
noncomputable def zf_224 (x1 : Int32) (x2 : Int32) (x3 : Int32) (M : jb_Mi) : Option (Bool × jb_Mi) :=
  (zf_211 x1 x2 x3 M).bind fun q1 => jb_gd (130 + x1) 149 ((zf_208 116 99 q1).bind fun q3 => jb_gd (130 + x1) 149 ((zf_211 x1 x2 x3 (jb_up q3.2 80 ((130 + x1)).toNatClampNeg (zf_165 99 ((q1 80 ((130 + x1)).toNatClampNeg) + q3.1)))).bind fun q5 => jb_gd (130 + x1) 149 (if (q5 80 ((130 + x1)).toNatClampNeg) = 99 then some (true, q5) else (zf_209 120 q5).bind fun q7 => if (jb_b2i q7.1) = 0 then (zf_208 100 10 q7.2).bind fun q8 => if (((jb_up q8.2 80 148 (((25173 * (q8.2 80 148)) + 13849) - ((25173 * (q8.2 80 148)) + 13849) / 65536 * 65536)) 80 148) - ((jb_up q8.2 80 148 (((25173 * (q8.2 80 148)) + 13849) - ((25173 * (q8.2 80 148)) + 13849) / 65536 * 65536)) 80 148) / 10 * 10) < q8.1 then zf_224_J133 1 (jb_up q8.2 80 148 (((25173 * (q8.2 80 148)) + 13849) - ((25173 * (q8.2 80 148)) + 13849) / 65536 * 65536)) else zf_224_J133 0 (jb_up q8.2 80 148 (((25173 * (q8.2 80 148)) + 13849) - ((25173 * (q8.2 80 148)) + 13849) / 65536 * 65536)) else some (true, q7.2))))
-- X13_holds
noncomputable def zf_225_J27 (x1 : Int32) (M : jb_Mi) : Option (jb_Mi) :=
  (zf_223 x1 (jb_up M 79 40 ((M 79 40) + 1))).bind fun q2 => some q2
noncomputable def zf_225 (x1 : Int32) (x2 : Int32) (M : jb_Mi) : Option (jb_Mi) :=
  (zf_216 ((4 * x1) + x2) 0 M).bind fun q1 => if q1 = (-1) then zf_225_J27 x1 M else if (jb_b2i (zf_168 (M 79 44) q1)) = 0 then (zf_224 q1 x1 x2 (jb_up M 79 44 ((M 79 44) ||| ((1 : Int32) <<< (q1 &&& 31))))).bind fun q3 => if (jb_b2i q3.1) = 0 then some q3.2 else (zf_223 x1 q3.2).bind fun q4 => some q4 else zf_225_J27 x1 M
-- X13_hourGoes
noncomputable def zf_226_J43 (x1 : Int32) (M : jb_Mi) : Option ((Int32 × jb_Mi) ⊕ (jb_Mi)) :=
  some (.inl ((x1 + 1), M))
noncomputable def zf_226_J117 (x1 : Int32) (M : jb_Mi) : Option ((Int32 × jb_Mi) ⊕ (jb_Mi)) :=
  some (.inl ((x1 + 1), M))
noncomputable def zf_226_H51 (s : Int32 × jb_Mi) : Option ((Int32 × jb_Mi) ⊕ (jb_Mi)) :=
  if s.1 < 16 then (zf_174 s.1 s.2).bind fun q3 => if (jb_b2i q3) = 0 then zf_226_J117 s.1 s.2 else if (jb_b2i (zf_168 (s.2 79 44) s.1)) = 0 then (zf_210 s.1 s.2).bind fun q4 => jb_gd (130 + s.1) 149 ((zf_208 121 99 q4).bind fun q6 => jb_gd (130 + s.1) 149 (zf_226_J117 s.1 (jb_up q6.2 80 ((130 + s.1)).toNatClampNeg (zf_166 0 ((q4 80 ((130 + s.1)).toNatClampNeg) - q6.1))))) else zf_226_J117 s.1 s.2 else if ((jb_up s.2 80 146 ((s.2 80 146) + 1)) 80 146) < 24 then some (.inr (jb_up s.2 80 146 ((s.2 80 146) + 1))) else some (.inr (jb_up (jb_up (jb_up s.2 80 146 ((s.2 80 146) + 1)) 80 146 0) 80 147 (((jb_up (jb_up s.2 80 146 ((s.2 80 146) + 1)) 80 146 0) 80 147) + 1)))
noncomputable def zf_226_H17 (s : Int32 × jb_Mi) : Option ((Int32 × jb_Mi) ⊕ (jb_Mi)) :=
  if s.1 < 24 then (zf_172 (s.1 / 4) s.2).bind fun q1 => if (jb_b2i q1) = 0 then zf_226_J43 s.1 s.2 else (zf_225 (s.1 / 4) (s.1 - s.1 / 4 * 4) s.2).bind fun q2 => zf_226_J43 s.1 q2 else ((jb_lp (zf_226_H51) (0, s.2)).map .inr)
noncomputable def zf_226 (M : jb_Mi) : Option (jb_Mi) :=
  jb_lp (zf_226_H17) (0, (jb_up (jb_up M 79 43 ((M 79 43) + 1)) 79 44 0))
-- X13_hoursGo
noncomputable def zf_227_H54 (x1 : Int32) (s : Int32 × jb_Mi) : Option ((Int32 × jb_Mi) ⊕ (jb_Mi)) :=
  if s.1 < x1 then if (s.2 80 147) < 9999 then (zf_226 s.2).bind fun q2 => some (.inl ((s.1 + 1), q2)) else some (.inr s.2) else some (.inr s.2)
noncomputable def zf_227_H32 (x1 : Int32) (s : Int32 × jb_Mi) : Option ((Int32 × jb_Mi) ⊕ (jb_Mi)) :=
  if s.1 < 6 then jb_gd s.1 6 (some (.inl ((s.1 + 1), (jb_up s.2 103 (s.1).toNatClampNeg (-2))))) else ((jb_lp (zf_227_H54 x1) (0, s.2)).map .inr)
noncomputable def zf_227 (x1 : Int32) (M : jb_Mi) : Option (jb_Mi) :=
  jb_lp (zf_227_H32 x1) (0, (jb_up (jb_up (jb_up (jb_up (jb_up (jb_up M 79 38 0) 79 39 0) 79 40 0) 79 41 0) 79 42 (-1)) 79 43 0))
-- X13_hours
noncomputable def zf_228 (x1 : Int32) (M : jb_Mi) : Option (Int32 × jb_Mi) :=
  if (jb_b2i (zf_164 x1 1 240)) = 0 then some ((-1), M) else (zf_227 x1 M).bind fun q1 => some ((q1 79 38), q1)
-- X13_tried
noncomputable def zf_229_J179 (x3 : Int32) (M : jb_Mi) : Option (Int32 × jb_Mi) :=
  (zf_170 81 80 M).bind fun q4 => some (x3, q4)
noncomputable def zf_229_J178 (s0 : Int32) (M : jb_Mi) : Option (Int32 × jb_Mi) :=
  zf_229_J179 s0 M
noncomputable def zf_229_J66 (x1 : Int32) (x2 : Int32) (M : jb_Mi) : Option (Int32 × jb_Mi) :=
  (zf_170 80 81 M).bind fun q2 => (zf_227 x1 q2).bind fun q3 => if x2 = 0 then zf_229_J179 (q3 79 38) q3 else if x2 = 1 then zf_229_J179 (q3 79 39) q3 else if x2 = 2 then zf_229_J179 (q3 79 40) q3 else if x2 = 3 then zf_229_J179 (q3 79 41) q3 else if x2 < 30 then jb_gd ((130 + x2) - 10) 149 (zf_229_J178 (q3 80 (((130 + x2) - 10)).toNatClampNeg) q3) else jb_gd ((12 + x2) - 30) 149 (zf_229_J178 (q3 80 (((12 + x2) - 30)).toNatClampNeg) q3)
noncomputable def zf_229_J42 (x1 : Int32) (x2 : Int32) (M : jb_Mi) : Option (Int32 × jb_Mi) :=
  if (jb_b2i (zf_164 x2 30 35)) = 0 then some ((-1), M) else (zf_171 (x2 - 30) M).bind fun q1 => if (jb_b2i q1) = 0 then some ((-1), M) else zf_229_J66 x1 x2 M
noncomputable def zf_229 (x1 : Int32) (x2 : Int32) (M : jb_Mi) : Option (Int32 × jb_Mi) :=
  if (jb_b2i (zf_164 x1 1 240)) = 0 then some ((-1), M) else if (jb_b2i (zf_164 x2 0 3)) = 0 then if (jb_b2i (zf_164 x2 10 25)) = 0 then zf_229_J42 x1 x2 M else (zf_174 (x2 - 10) M).bind fun q7 => if (jb_b2i q7) = 0 then zf_229_J42 x1 x2 M else zf_229_J66 x1 x2 M else zf_229_J66 x1 x2 M
-- X13_stands
noncomputable def zf_230 (x1 : Int32) (x2 : Int32) (M : jb_Mi) : Option (Int32 × jb_Mi) :=
  (zf_171 x1 M).bind fun q1 => if (jb_b2i q1) = 0 then some ((-1), M) else if (jb_b2i (zf_164 x2 1 240)) = 0 then some ((-1), M) else jb_gd (12 + x1) 149 (if (M 80 ((12 + x1)).toNatClampNeg) = 9 then some (0, M) else (zf_170 80 81 M).bind fun q3 => (zf_227 x2 q3).bind fun q4 => (zf_170 81 80 q4).bind fun q5 => jb_gd x1 6 (some ((q5 103 x1.toNatClampNeg), q5)))
-- X13_fallsFirst
noncomputable def zf_231 (x1 : Int32) (M : jb_Mi) : Option (Int32 × jb_Mi) :=
  if (jb_b2i (zf_164 x1 1 240)) = 0 then some ((-1), M) else (zf_170 80 81 M).bind fun q1 => (zf_227 x1 q1).bind fun q2 => (zf_170 81 80 q2).bind fun q3 => if (q3 79 42) = (-1) then some ((-2), q3) else some ((q3 79 42), q3)
-- X13_heaviestOf
noncomputable def zf_232_H4 (x1 : Int32) (M : jb_Mi) (s : Int32 × Int32) : Option ((Int32 × Int32) ⊕ (Int32)) :=
  if s.2 < 4 then (zf_179 x1 s.2 M).bind fun q1 => some (.inl ((zf_166 s.1 q1), (s.2 + 1))) else some (.inr s.1)
noncomputable def zf_232 (x1 : Int32) (M : jb_Mi) : Option (Int32) :=
  jb_lp (zf_232_H4 x1 M) (0, 0)
-- X13_evenOf
noncomputable def zf_233_H6 (x1 : Int32) (M : jb_Mi) (s : Int32 × Int32) : Option ((Int32 × Int32) ⊕ (Int32)) :=
  if s.2 < 4 then (zf_179 x1 s.2 M).bind fun q1 => some (.inl ((zf_165 s.1 q1), (s.2 + 1))) else (zf_232 x1 M).bind fun q2 => some (.inr (q2 - s.1))
noncomputable def zf_233 (x1 : Int32) (M : jb_Mi) : Option (Int32) :=
  jb_lp (zf_233_H6 x1 M) (100000000, 0)
-- X13_houseIs
noncomputable def zf_234_J61 (x1 : Int32) (x2 : Int32) (x3 : Int32) (x4 : Int32) (x5 : Int32) (M : jb_Mi) : Option ((Int32 × Int32 × Int32) ⊕ (Int32)) :=
  some (.inl (x3, x4, (x5 + 1)))
noncomputable def zf_234_H18 (x1 : Int32) (x2 : Int32) (M : jb_Mi) (s : Int32 × Int32 × Int32) : Option ((Int32 × Int32 × Int32) ⊕ (Int32)) :=
  if s.2.2 < 24 then jb_gd (18 + s.2.2) 149 (if (M 80 ((18 + s.2.2)).toNatClampNeg) = x1 then jb_gd (90 + s.2.2) 149 (zf_234_J61 x1 x2 (s.1 + 1) (s.2.1 + (M 80 ((90 + s.2.2)).toNatClampNeg)) s.2.2 M) else zf_234_J61 x1 x2 s.1 s.2.1 s.2.2 M) else if x2 = 0 then jb_gd (0 + x1) 149 (some (.inr (M 80 ((0 + x1)).toNatClampNeg))) else if x2 = 1 then jb_gd (6 + x1) 149 (some (.inr (M 80 ((6 + x1)).toNatClampNeg))) else if x2 = 2 then jb_gd (12 + x1) 149 (some (.inr (M 80 ((12 + x1)).toNatClampNeg))) else if x2 = 3 then some (.inr s.1) else if x2 = 4 then (zf_233 x1 M).bind fun q7 => some (.inr q7) else if x2 = 5 then some (.inr s.2.1) else some (.inr (-1))
noncomputable def zf_234 (x1 : Int32) (x2 : Int32) (M : jb_Mi) : Option (Int32) :=
  (zf_171 x1 M).bind fun q1 => if (jb_b2i q1) = 0 then some (-1) else jb_lp (zf_234_H18 x1 x2 M) (0, 0, 0)
-- X13_thingIs
noncomputable def zf_235 (x1 : Int32) (x2 : Int32) (M : jb_Mi) : Option (Int32) :=
  (zf_173 x1 M).bind fun q1 => if (jb_b2i q1) = 0 then some (-1) else if (jb_b2i (zf_164 x2 0 3)) = 0 then some (-1) else jb_gd ((18 + (24 * x2)) + x1) 149 (some (M 80 (((18 + (24 * x2)) + x1)).toNatClampNeg))
-- X13_cornerOf
noncomputable def zf_236_J30 (x1 : Int32) (x2 : Int32) (x3 : Int32) (M : jb_Mi) : Option ((Int32) ⊕ (Int32)) :=
  some (.inl (x3 + 1))
noncomputable def zf_236_H2 (x1 : Int32) (x2 : Int32) (M : jb_Mi) (s : Int32) : Option ((Int32) ⊕ (Int32)) :=
  if s < 24 then (zf_172 (s / 4) M).bind fun q1 => if (jb_b2i q1) = 0 then zf_236_J30 x1 x2 s M else (zf_216 s x2 M).bind fun q2 => if q2 = x1 then some (.inr s) else zf_236_J30 x1 x2 s M else some (.inr (-2))
noncomputable def zf_236 (x1 : Int32) (x2 : Int32) (M : jb_Mi) : Option (Int32) :=
  jb_lp (zf_236_H2 x1 x2 M) 0
-- X13_cornersOf
noncomputable def zf_237_J38 (x1 : Int32) (x2 : Int32) (x3 : Int32) (x4 : Int32) (M : jb_Mi) : Option ((Int32 × Int32) ⊕ (Int32)) :=
  some (.inl (x3, (x4 + 1)))
noncomputable def zf_237_H5 (x1 : Int32) (x2 : Int32) (M : jb_Mi) (s : Int32 × Int32) : Option ((Int32 × Int32) ⊕ (Int32)) :=
  if s.2 < 24 then (zf_172 (s.2 / 4) M).bind fun q1 => if (jb_b2i q1) = 0 then zf_237_J38 x1 x2 s.1 s.2 M else (zf_216 s.2 x2 M).bind fun q2 => if q2 = x1 then zf_237_J38 x1 x2 (s.1 + 1) s.2 M else zf_237_J38 x1 x2 s.1 s.2 M else some (.inr s.1)
noncomputable def zf_237 (x1 : Int32) (x2 : Int32) (M : jb_Mi) : Option (Int32) :=
  jb_lp (zf_237_H5 x1 x2 M) (0, 0)
-- X13_manIs
noncomputable def zf_238_J123 (x1 : Int32) (x2 : Int32) (x3 : Int32) (x4 : Int32) (x5 : Int32) (M : jb_Mi) : Option ((Int32 × Int32 × Int32) ⊕ (Int32)) :=
  some (.inl (x3, x4, (x5 + 1)))
noncomputable def zf_238_J108 (x1 : Int32) (x2 : Int32) (x3 : Int32) (x4 : Int32) (x5 : Int32) (M : jb_Mi) : Option ((Int32 × Int32 × Int32) ⊕ (Int32)) :=
  (zf_237 x1 x5 M).bind fun q6 => if 1 < q6 then zf_238_J123 x1 x2 (x3 + 1) x4 x5 M else zf_238_J123 x1 x2 x3 x4 x5 M
noncomputable def zf_238_H71 (x1 : Int32) (x2 : Int32) (M : jb_Mi) (s : Int32 × Int32 × Int32) : Option ((Int32 × Int32 × Int32) ⊕ (Int32)) :=
  if s.2.2 < 24 then (zf_236 x1 s.2.2 M).bind fun q5 => if q5 < 0 then zf_238_J108 x1 x2 s.1 s.2.1 s.2.2 M else jb_gd (0 + (q5 / 4)) 149 (zf_238_J108 x1 x2 s.1 (s.2.1 + (M 80 ((0 + (q5 / 4))).toNatClampNeg)) s.2.2 M) else if x2 = 3 then some (.inr s.1) else some (.inr s.2.1)
noncomputable def zf_238 (x1 : Int32) (x2 : Int32) (M : jb_Mi) : Option (Int32) :=
  (zf_174 x1 M).bind fun q1 => if (jb_b2i q1) = 0 then some (-1) else if (jb_b2i (zf_164 x2 0 4)) = 0 then some (-1) else if x2 < 2 then if x2 = 0 then jb_gd (114 + x1) 149 (some (M 80 ((114 + x1)).toNatClampNeg)) else jb_gd (130 + x1) 149 (some (M 80 ((130 + x1)).toNatClampNeg)) else if x2 = 2 then (zf_236 x1 0 M).bind fun q4 => some q4 else jb_lp (zf_238_H71 x1 x2 M) (0, 0, 0)
-- X13_bed
noncomputable def zf_239_J114 (x1 : Int32) (x2 : Int32) (x3 : Int32) (x4 : Int32) (x5 : Int32) (x6 : Int32) (M : jb_Mi) : Option ((Int32 × Int32 × Int32) ⊕ (Int32)) :=
  some (.inl (x4, x5, (x6 + 1)))
noncomputable def zf_239_H53 (x1 : Int32) (x2 : Int32) (x3 : Int32) (x4 : Int32) (x5 : Int32) (x6 : Int32) (M : jb_Mi) (s : Int32 × Int32) : Option ((Int32 × Int32) ⊕ ((Int32 × Int32 × Int32) ⊕ (Int32))) :=
  if s.2 < 4 then (zf_179 x1 s.2 M).bind fun q2 => some (.inl ((zf_166 s.1 (q2 + (zf_178 x2 (x6 - x6 / 9 * 9) (x6 / 9) s.2))), (s.2 + 1))) else if s.1 < x5 then ((zf_239_J114 x1 x2 x3 x6 s.1 x6 M).map .inr) else ((zf_239_J114 x1 x2 x3 x4 x5 x6 M).map .inr)
noncomputable def zf_239_H40 (x1 : Int32) (x2 : Int32) (x3 : Int32) (M : jb_Mi) (s : Int32 × Int32 × Int32) : Option ((Int32 × Int32 × Int32) ⊕ (Int32)) :=
  if s.2.2 < 81 then jb_lp (zf_239_H53 x1 x2 x3 s.1 s.2.1 s.2.2 M) (0, 0) else if x3 = 0 then some (.inr (s.1 - s.1 / 9 * 9)) else if x3 = 1 then some (.inr (s.1 / 9)) else some (.inr s.2.1)
noncomputable def zf_239 (x1 : Int32) (x2 : Int32) (x3 : Int32) (M : jb_Mi) : Option (Int32) :=
  (zf_171 x1 M).bind fun q1 => if (jb_b2i q1) = 0 then some (-1) else if (jb_b2i (zf_164 x2 1 99)) = 0 then some (-1) else if (jb_b2i (zf_164 x3 0 2)) = 0 then some (-1) else jb_lp (zf_239_H40 x1 x2 x3 M) (0, 100000000, 0)
-- X13_gcd
noncomputable def zf_240_H4 (s : Int32 × Int32) : Option ((Int32 × Int32) ⊕ (Int32)) :=
  if s.2 = 0 then some (.inr s.1) else jb_g0 s.2 (some (.inl (s.2, (s.1 - s.1 / s.2 * s.2))))
noncomputable def zf_240 (x0 : Int32) (x1 : Int32) : Option (Int32) :=
  jb_lp (zf_240_H4) (x0, x1)
-- X13_readsRow
noncomputable def zf_241_H7 (s : Int32 × Int32 × Int32 × jb_Mi) : Option ((Int32 × Int32 × Int32 × jb_Mi) ⊕ (Bool × jb_Mi)) :=
  if s.2.2.1 < 0 then if s.2.1 = 15 then some (.inr (true, s.2.2.2)) else some (.inr (false, s.2.2.2)) else jb_gd s.2.2.1 4 (jb_gd s.2.2.1 4 (some (.inl ((s.1 / 4), (s.2.1 ||| ((1 : Int32) <<< (((jb_up s.2.2.2 105 (s.2.2.1).toNatClampNeg (s.1 - s.1 / 4 * 4)) 105 (s.2.2.1).toNatClampNeg) &&& 31))), (s.2.2.1 + (-1)), (jb_up s.2.2.2 105 (s.2.2.1).toNatClampNeg (s.1 - s.1 / 4 * 4))))))
noncomputable def zf_241 (x1 : Int32) (M : jb_Mi) : Option (Bool × jb_Mi) :=
  jb_lp (zf_241_H7) (x1, 0, 3, M)
-- X13_isBetter
noncomputable def zf_242_J69 (x1 : Int32) (x2 : Int32) (x3 : Int32) (x4 : Int32) (M : jb_Mi) : Option ((Int32 × Int32 × Int32) ⊕ (Bool × jb_Mi)) :=
  some (.inl (x2, x3, (x4 + 1)))
noncomputable def zf_242_J104 (x2 : Int32) (x3 : Int32) (M : jb_Mi) : Option (Bool × jb_Mi) :=
  some (true, (jb_up (jb_up M 79 49 x2) 79 50 x3))
noncomputable def zf_242_H7 (x1 : Int32) (M : jb_Mi) (s : Int32 × Int32 × Int32) : Option ((Int32 × Int32 × Int32) ⊕ (Bool × jb_Mi)) :=
  if s.2.2 < 4 then (zf_179 x1 s.2.2 M).bind fun q1 => jb_gd s.2.2 4 (jb_gd (M 105 (s.2.2).toNatClampNeg) 4 (jb_gd (114 + (M 104 ((M 105 (s.2.2).toNatClampNeg)).toNatClampNeg)) 149 (if 0 < (lg_cmp ((q1 : Int32).toInt64 * (s.2.1 : Int32).toInt64) ((s.1 : Int32).toInt64 * ((M 80 ((114 + (M 104 ((M 105 (s.2.2).toNatClampNeg)).toNatClampNeg))).toNatClampNeg) : Int32).toInt64)) then zf_242_J69 x1 q1 (M 80 ((114 + (M 104 ((M 105 (s.2.2).toNatClampNeg)).toNatClampNeg))).toNatClampNeg) s.2.2 M else zf_242_J69 x1 s.1 s.2.1 s.2.2 M))) else if 0 < (M 79 50) then if (lg_cmp ((s.1 : Int32).toInt64 * ((M 79 50) : Int32).toInt64) (((M 79 49) : Int32).toInt64 * (s.2.1 : Int32).toInt64)) < 0 then ((zf_242_J104 s.1 s.2.1 M).map .inr) else some (.inr (false, M)) else ((zf_242_J104 s.1 s.2.1 M).map .inr)
noncomputable def zf_242 (x1 : Int32) (M : jb_Mi) : Option (Bool × jb_Mi) :=
  jb_lp (zf_242_H7 x1 M) (0, 1, 0)
-- X13_stand
noncomputable def zf_243_J89 (x1 : Int32) (x2 : Int32) (x3 : Int32) (x4 : Int32) (x5 : Int32) (M : jb_Mi) : Option ((Int32 × Int32 × jb_Mi) ⊕ (Int32 × jb_Mi)) :=
  some (.inl (x4, (x5 + 1), M))
noncomputable def zf_243_J165 (x1 : Int32) (x3 : Int32) (x5 : Int32) (M : jb_Mi) : Option ((Int32 × jb_Mi) ⊕ (Int32 × jb_Mi)) :=
  some (.inl ((x5 + 1), M))
noncomputable def zf_243_H134 (x1 : Int32) (x3 : Int32) (x5 : Int32) (s : Int32 × jb_Mi) : Option ((Int32 × jb_Mi) ⊕ ((Int32 × jb_Mi) ⊕ (Int32 × jb_Mi))) :=
  if s.1 < 4 then jb_gd s.1 4 (jb_gd (s.2 105 (s.1).toNatClampNeg) 4 (jb_gd s.1 4 (some (.inl ((s.1 + 1), (jb_up s.2 106 (s.1).toNatClampNeg (s.2 104 ((s.2 105 (s.1).toNatClampNeg)).toNatClampNeg))))))) else ((zf_243_J165 x1 x3 x5 s.2).map .inr)
noncomputable def zf_243_H103 (x1 : Int32) (x3 : Int32) (s : Int32 × jb_Mi) : Option ((Int32 × jb_Mi) ⊕ (Int32 × jb_Mi)) :=
  if s.1 < 256 then (zf_241 s.1 s.2).bind fun q5 => if (jb_b2i q5.1) = 0 then zf_243_J165 x1 x3 s.1 q5.2 else (zf_242 x1 q5.2).bind fun q6 => if (jb_b2i q6.1) = 0 then zf_243_J165 x1 x3 s.1 q6.2 else jb_lp (zf_243_H134 x1 x3 s.1) (0, q6.2) else (zf_240 (s.2 79 49) (s.2 79 50)).bind fun q10 => if x3 < 4 then jb_gd x3 4 (some (.inr ((s.2 106 x3.toNatClampNeg), s.2))) else if x3 = 4 then jb_g0 q10 (some (.inr (((s.2 79 49) / q10), s.2))) else jb_g0 q10 (some (.inr (((s.2 79 50) / q10), s.2)))
noncomputable def zf_243_H44 (x1 : Int32) (x2 : Int32) (x3 : Int32) (s : Int32 × Int32 × jb_Mi) : Option ((Int32 × Int32 × jb_Mi) ⊕ (Int32 × jb_Mi)) :=
  if s.2.1 < 16 then if (jb_b2i (zf_168 x2 s.2.1)) = 0 then zf_243_J89 x1 x2 x3 s.1 s.2.1 s.2.2 else (zf_174 s.2.1 s.2.2).bind fun q3 => if (jb_b2i q3) = 0 then some (.inr ((-1), s.2.2)) else jb_gd s.1 4 (zf_243_J89 x1 x2 x3 (s.1 + 1) s.2.1 (jb_up s.2.2 104 (s.1).toNatClampNeg s.2.1)) else ((jb_lp (zf_243_H103 x1 x3) (0, (jb_up s.2.2 79 50 0))).map .inr)
noncomputable def zf_243 (x1 : Int32) (x2 : Int32) (x3 : Int32) (M : jb_Mi) : Option (Int32 × jb_Mi) :=
  (zf_171 x1 M).bind fun q1 => if (jb_b2i q1) = 0 then some ((-1), M) else if (jb_b2i (zf_164 x2 1 65535)) = 0 then some ((-1), M) else (zf_169 x2).bind fun q2 => if q2 = 4 then if (jb_b2i (zf_164 x3 0 5)) = 0 then some ((-1), M) else jb_lp (zf_243_H44 x1 x2 x3) (0, 0, M) else some ((-1), M)
-- X13_isBorne
noncomputable def zf_244_J85 (x1 : Int32) (x2 : Int32) (x3 : Int32) (x4 : Int32) (x5 : Int32) (M : jb_Mi) : Option ((Int32 × Int32) ⊕ ((Int32) ⊕ (Bool))) :=
  some (.inl (x4, (x5 + 1)))
noncomputable def zf_244_J127 (x1 : Int32) (x2 : Int32) (x3 : Int32) (s0 : Int32) (s1 : Int32) (s2 : Int32) (M : jb_Mi) : Option ((Int32) ⊕ (Bool)) :=
  if (s1 * s2) < s0 then some (.inr false) else some (.inl (x3 + 1))
noncomputable def zf_244_H18 (x1 : Int32) (x2 : Int32) (x3 : Int32) (M : jb_Mi) (s : Int32 × Int32) : Option ((Int32 × Int32) ⊕ ((Int32) ⊕ (Bool))) :=
  if s.2 < 12 then if (jb_b2i (zf_168 x2 s.2)) = 0 then zf_244_J85 x1 x2 x3 s.1 s.2 M else jb_gd s.2 12 (jb_gd (90 + (M 107 (s.2).toNatClampNeg)) 149 (jb_gd (42 + (M 107 (s.2).toNatClampNeg)) 149 (jb_gd (66 + (M 107 (s.2).toNatClampNeg)) 149 (zf_244_J85 x1 x2 x3 (s.1 - (zf_178 (M 80 ((90 + (M 107 (s.2).toNatClampNeg))).toNatClampNeg) (M 80 ((42 + (M 107 (s.2).toNatClampNeg))).toNatClampNeg) (M 80 ((66 + (M 107 (s.2).toNatClampNeg))).toNatClampNeg) x3)) s.2 M)))) else (zf_216 ((4 * x1) + x3) 0 M).bind fun q6 => if q6 = (-1) then ((zf_244_J127 x1 x2 x3 s.1 64 0 M).map .inr) else jb_gd (114 + q6) 149 (((zf_244_J127 x1 x2 x3 s.1 64 (M 80 ((114 + q6)).toNatClampNeg) M).map .inr))
noncomputable def zf_244_H2 (x1 : Int32) (x2 : Int32) (M : jb_Mi) (s : Int32) : Option ((Int32) ⊕ (Bool)) :=
  if s < 4 then (zf_179 x1 s M).bind fun q1 => jb_lp (zf_244_H18 x1 x2 s M) (q1, 0) else some (.inr true)
noncomputable def zf_244 (x1 : Int32) (x2 : Int32) (M : jb_Mi) : Option (Bool) :=
  jb_lp (zf_244_H2 x1 x2 M) 0
-- X13_go
noncomputable def zf_245_J69 (x1 : Int32) (x2 : Int32) (x3 : Int32) (x4 : Int32) (M : jb_Mi) : Option ((Int32 × Int32 × jb_Mi) ⊕ (Int32 × jb_Mi)) :=
  some (.inl (x3, (x4 + 1), M))
noncomputable def zf_245_J127 (x1 : Int32) (x2 : Int32) (x3 : Int32) (x4 : Int32) (x5 : Int32) (M : jb_Mi) : Option ((Int32 × Int32) ⊕ (Int32 × jb_Mi)) :=
  some (.inl (x4, (x5 + 1)))
noncomputable def zf_245_J113 (x1 : Int32) (x2 : Int32) (x3 : Int32) (x4 : Int32) (x5 : Int32) (M : jb_Mi) : Option ((Int32 × Int32) ⊕ (Int32 × jb_Mi)) :=
  (zf_244 x1 x5 M).bind fun q4 => if (jb_b2i q4) = 0 then zf_245_J127 x1 x2 x3 x4 x5 M else zf_245_J127 x1 x2 x3 x5 x5 M
noncomputable def zf_245_J145 (x4 : Int32) (M : jb_Mi) : Option (Int32 × jb_Mi) :=
  some (x4, M)
noncomputable def zf_245_H82 (x1 : Int32) (x2 : Int32) (x3 : Int32) (M : jb_Mi) (s : Int32 × Int32) : Option ((Int32 × Int32) ⊕ (Int32 × jb_Mi)) :=
  if s.2 < ((1 : Int32) <<< (x3 &&& 31)) then if s.1 = (-2) then zf_245_J113 x1 x2 x3 s.1 s.2 M else (zf_169 s.2).bind fun q5 => (zf_169 s.1).bind fun q6 => if q5 < q6 then zf_245_J113 x1 x2 x3 s.1 s.2 M else zf_245_J127 x1 x2 x3 s.1 s.2 M else if x2 = 1 then ((zf_245_J145 s.1 M).map .inr) else if s.1 = (-2) then ((zf_245_J145 s.1 M).map .inr) else (zf_169 s.1).bind fun q7 => some (.inr (q7, M))
noncomputable def zf_245_H24 (x1 : Int32) (x2 : Int32) (s : Int32 × Int32 × jb_Mi) : Option ((Int32 × Int32 × jb_Mi) ⊕ (Int32 × jb_Mi)) :=
  if s.2.1 < 24 then jb_gd (18 + s.2.1) 149 (if (s.2.2 80 ((18 + s.2.1)).toNatClampNeg) = x1 then if s.1 = 12 then some (.inr ((-3), s.2.2)) else jb_gd s.1 12 (zf_245_J69 x1 x2 (s.1 + 1) s.2.1 (jb_up s.2.2 107 (s.1).toNatClampNeg s.2.1)) else zf_245_J69 x1 x2 s.1 s.2.1 s.2.2) else ((jb_lp (zf_245_H82 x1 x2 s.1 s.2.2) ((-2), 0)).map .inr)
noncomputable def zf_245 (x1 : Int32) (x2 : Int32) (M : jb_Mi) : Option (Int32 × jb_Mi) :=
  (zf_171 x1 M).bind fun q1 => if (jb_b2i q1) = 0 then some ((-1), M) else if (jb_b2i (zf_164 x2 0 1)) = 0 then some ((-1), M) else jb_lp (zf_245_H24 x1 x2) (0, 0, M)
-- X13_laysFelt
noncomputable def zf_246_H12 (x1 : Int32) (x2 : Int32) (M : jb_Mi) (N : jb_Ml) (s : Int64 × Int32) : Option ((Int64 × Int32) ⊕ ((Int32 × jb_Ml) ⊕ (jb_Ml))) :=
  if s.2 < 4 then (zf_183 ((4 * x2) + s.2) M).bind fun q1 => some (.inl (((256 * s.1) + (q1 : Int32).toInt64), (s.2 + 1))) else (zf_179 x1 x2 M).bind fun q2 => jb_gd x2 4 (some (.inr (.inl ((x2 + 1), (jb_ul N 108 x2.toNatClampNeg (((s.1 : Int64).toInt32 : Int32).toInt64 - (q2 : Int32).toInt64))))))
noncomputable def zf_246_H2 (x1 : Int32) (M : jb_Mi) (s : Int32 × jb_Ml) : Option ((Int32 × jb_Ml) ⊕ (jb_Ml)) :=
  if s.1 < 4 then jb_lp (zf_246_H12 x1 s.1 M s.2) (0, 0) else some (.inr s.2)
noncomputable def zf_246 (x1 : Int32) (M : jb_Mi) (N : jb_Ml) : Option (jb_Ml) :=
  jb_lp (zf_246_H2 x1 M) (0, N)
-- X13_isFelt
noncomputable def zf_247_H3 (x1 : Int32) (x2 : Int32) (x3 : Int32) (x4 : Int32) (N : jb_Ml) (s : Int32) : Option ((Int32) ⊕ (Bool)) :=
  if s < 4 then jb_gd s 4 (if (lg_cmp (((zf_178 x1 (x2 - x2 / 9 * 9) (x2 / 9) s) + (zf_178 x3 (x4 - x4 / 9 * 9) (x4 / 9) s)) : Int32).toInt64 (N 108 s.toNatClampNeg)) = 0 then some (.inl (s + 1)) else some (.inr false)) else some (.inr true)
noncomputable def zf_247 (x1 : Int32) (x2 : Int32) (x3 : Int32) (x4 : Int32) (N : jb_Ml) : Option (Bool) :=
  jb_lp (zf_247_H3 x1 x2 x3 x4 N) 0
-- X13_feltIn
noncomputable def zf_248_J65 (x2 : Int32) (x3 : Int32) (x4 : Int32) (x5 : Int32) (x6 : Int32) (x7 : Int32) (x8 : Int32) (x9 : Int32) (M : jb_Mi) (N : jb_Ml) : Option ((Int32 × Int32 × Int32) ⊕ ((Int32 × Int32 × Int32) ⊕ (Int32 × jb_Ml))) :=
  some (.inl (x6, x7, (x9 + 1)))
noncomputable def zf_248_H25 (x2 : Int32) (x3 : Int32) (x4 : Int32) (x5 : Int32) (x8 : Int32) (M : jb_Mi) (N : jb_Ml) (s : Int32 × Int32 × Int32) : Option ((Int32 × Int32 × Int32) ⊕ ((Int32 × Int32 × Int32) ⊕ (Int32 × jb_Ml))) :=
  if s.2.2 < x5 then (zf_247 x2 x8 x3 s.2.2 N).bind fun q2 => if (jb_b2i q2) = 0 then zf_248_J65 x2 x3 x4 x5 s.1 s.2.1 x8 s.2.2 M N else if s.2.1 = (-2) then zf_248_J65 x2 x3 x4 x5 (s.1 + 1) x8 x8 s.2.2 M N else zf_248_J65 x2 x3 x4 x5 (s.1 + 1) s.2.1 x8 s.2.2 M N else some (.inr (.inl (s.1, s.2.1, (x8 + 1))))
noncomputable def zf_248_H15 (x2 : Int32) (x3 : Int32) (x4 : Int32) (x5 : Int32) (M : jb_Mi) (N : jb_Ml) (s : Int32 × Int32 × Int32) : Option ((Int32 × Int32 × Int32) ⊕ (Int32 × jb_Ml)) :=
  if s.2.2 < 81 then jb_lp (zf_248_H25 x2 x3 x4 x5 s.2.2 M N) (s.1, s.2.1, 0) else if x4 = 0 then some (.inr (s.1, N)) else if s.2.1 = (-2) then some (.inr ((-2), N)) else if x4 = 1 then some (.inr ((s.2.1 - s.2.1 / 9 * 9), N)) else some (.inr ((s.2.1 / 9), N))
noncomputable def zf_248 (x1 : Int32) (x2 : Int32) (x3 : Int32) (x4 : Int32) (x5 : Int32) (M : jb_Mi) (N : jb_Ml) : Option (Int32 × jb_Ml) :=
  (zf_246 x1 M N).bind fun q1 => jb_lp (zf_248_H15 x2 x3 x4 x5 M q1) (0, (-2), 0)
-- X13_felt
noncomputable def zf_249 (x1 : Int32) (x2 : Int32) (x3 : Int32) (M : jb_Mi) (N : jb_Ml) : Option (Int32 × jb_Mi × jb_Ml) :=
  (zf_171 x1 M).bind fun q1 => if (jb_b2i q1) = 0 then some ((-1), M, N) else if (jb_b2i (zf_164 x2 1 99)) = 0 then some ((-1), M, N) else if (jb_b2i (zf_164 x3 0 2)) = 0 then some ((-1), M, N) else if (M 79 4) < 16 then some ((-1), M, N) else (zf_248 x1 x2 0 x3 1 (jb_up M 79 4 0) N).bind fun q2 => some (q2.1, (jb_up M 79 4 0), q2.2)
-- X13_twoFelt
noncomputable def zf_250 (x1 : Int32) (x2 : Int32) (x3 : Int32) (x4 : Int32) (M : jb_Mi) (N : jb_Ml) : Option (Int32 × jb_Mi × jb_Ml) :=
  (zf_171 x1 M).bind fun q1 => if (jb_b2i q1) = 0 then some ((-1), M, N) else if (jb_b2i (zf_164 x2 1 99)) = 0 then some ((-1), M, N) else if (jb_b2i (zf_164 x3 1 99)) = 0 then some ((-1), M, N) else if (jb_b2i (zf_164 x4 0 2)) = 0 then some ((-1), M, N) else if (M 79 4) < 16 then some ((-1), M, N) else (zf_248 x1 x2 x3 x4 81 (jb_up M 79 4 0) N).bind fun q2 => some (q2.1, (jb_up M 79 4 0), q2.2)
-- X13_knocks
noncomputable def zf_251_J142 (x2 : Int32) (x3 : Int32) (x4 : Int32) (x5 : Int32) (M : jb_Mi) : Option ((Int32 × Int32) ⊕ ((Int32 × Int32) ⊕ (Int32))) :=
  some (.inl (x3, (x5 + 1)))
noncomputable def zf_251_J136 (x2 : Int32) (x3 : Int32) (x4 : Int32) (x5 : Int32) (x6 : Int32) (M : jb_Mi) : Option ((Int32 × Int32) ⊕ ((Int32 × Int32) ⊕ ((Int32 × Int32) ⊕ (Int32)))) :=
  some (.inl (x3, (x6 + 1)))
noncomputable def zf_251_J98 (x2 : Int32) (x3 : Int32) (x4 : Int32) (x5 : Int32) (x6 : Int32) (s0 : Int32) (M : jb_Mi) : Option ((Int32 × Int32) ⊕ ((Int32 × Int32) ⊕ ((Int32 × Int32) ⊕ (Int32)))) :=
  (zf_172 x6 M).bind fun q3 => if (jb_b2i q3) = 0 then zf_251_J136 x2 x3 x4 x5 x6 M else jb_gd (0 + x5) 149 (if (jb_b2i (zf_164 s0 1 (3 * (M 80 ((0 + x5)).toNatClampNeg)))) = 0 then zf_251_J136 x2 x3 x4 x5 x6 M else zf_251_J136 x2 (x3 ||| ((1 : Int32) <<< (x6 &&& 31))) x4 x5 x6 M)
noncomputable def zf_251_H42 (x2 : Int32) (x4 : Int32) (x5 : Int32) (M : jb_Mi) (s : Int32 × Int32) : Option ((Int32 × Int32) ⊕ ((Int32 × Int32) ⊕ ((Int32 × Int32) ⊕ (Int32)))) :=
  if s.2 < 6 then if x2 = 0 then jb_gd (6 + x5) 149 (jb_gd (6 + s.2) 149 (zf_251_J98 x2 s.1 x4 x5 s.2 ((M 80 ((6 + x5)).toNatClampNeg) - (M 80 ((6 + s.2)).toNatClampNeg)) M)) else jb_gd (6 + s.2) 149 (jb_gd (6 + x5) 149 (zf_251_J98 x2 s.1 x4 x5 s.2 ((M 80 ((6 + s.2)).toNatClampNeg) - (M 80 ((6 + x5)).toNatClampNeg)) M)) else ((zf_251_J142 x2 s.1 x4 x5 M).map .inr)
noncomputable def zf_251_H19 (x2 : Int32) (x4 : Int32) (M : jb_Mi) (s : Int32 × Int32) : Option ((Int32 × Int32) ⊕ ((Int32 × Int32) ⊕ (Int32))) :=
  if s.2 < 6 then if (jb_b2i (zf_168 x4 s.2)) = 0 then zf_251_J142 x2 s.1 x4 s.2 M else jb_lp (zf_251_H42 x2 x4 s.2 M) (s.1, 0) else some (.inr (.inl (s.1, x4)))
noncomputable def zf_251_H7 (x2 : Int32) (M : jb_Mi) (s : Int32 × Int32) : Option ((Int32 × Int32) ⊕ (Int32)) :=
  if s.1 = s.2 then some (.inr s.1) else jb_lp (zf_251_H19 x2 s.1 M) (s.1, 0)
noncomputable def zf_251 (x1 : Int32) (x2 : Int32) (M : jb_Mi) : Option (Int32) :=
  jb_lp (zf_251_H7 x2 M) (((1 : Int32) <<< (x1 &&& 31)), 0)
-- X13_knocked
noncomputable def zf_252 (x1 : Int32) (x2 : Int32) (M : jb_Mi) : Option (Int32) :=
  (zf_172 x1 M).bind fun q1 => if (jb_b2i q1) = 0 then some (-1) else (zf_251 x1 x2 M).bind fun q2 => some q2
-- X13_standing
noncomputable def zf_253_J24 (x1 : Int32) (x2 : Int32) (M : jb_Mi) : Option ((Int32 × Int32) ⊕ (Int32)) :=
  some (.inl (x1, (x2 + 1)))
noncomputable def zf_253_H4 (M : jb_Mi) (s : Int32 × Int32) : Option ((Int32 × Int32) ⊕ (Int32)) :=
  if s.2 < 6 then (zf_172 s.2 M).bind fun q1 => if (jb_b2i q1) = 0 then zf_253_J24 s.1 s.2 M else zf_253_J24 (s.1 ||| ((1 : Int32) <<< (s.2 &&& 31))) s.2 M else some (.inr s.1)
noncomputable def zf_253 (M : jb_Mi) : Option (Int32) :=
  jb_lp (zf_253_H4 M) (0, 0)
-- X13_allFall
noncomputable def zf_254_J36 (x1 : Int32) (x2 : Int32) (x3 : Int32) (x4 : Int32) (M : jb_Mi) : Option ((Int32 × Int32) ⊕ (Bool)) :=
  some (.inl (x3, (x4 + 1)))
noncomputable def zf_254_H5 (x1 : Int32) (x2 : Int32) (M : jb_Mi) (s : Int32 × Int32) : Option ((Int32 × Int32) ⊕ (Bool)) :=
  if s.2 < 6 then if (jb_b2i (zf_168 x1 s.2)) = 0 then zf_254_J36 x1 x2 s.1 s.2 M else (zf_251 s.2 (jb_b2i (zf_168 x2 s.2)) M).bind fun q1 => zf_254_J36 x1 x2 (s.1 ||| q1) s.2 M else (zf_253 M).bind fun q2 => if s.1 = q2 then some (.inr true) else some (.inr false)
noncomputable def zf_254 (x1 : Int32) (x2 : Int32) (M : jb_Mi) : Option (Bool) :=
  jb_lp (zf_254_H5 x1 x2 M) (0, 0)
-- X13_fewest
noncomputable def zf_255_J130 (x1 : Int32) (x2 : Int32) (x3 : Int32) (x4 : Int32) (M : jb_Mi) : Option ((Int32 × Int32) ⊕ (Int32)) :=
  some (.inl (x3, (x4 + 1)))
noncomputable def zf_255_J114 (x1 : Int32) (x2 : Int32) (x3 : Int32) (x4 : Int32) (x6 : Int32) (s0 : Int32) (M : jb_Mi) : Option ((Int32 × Int32) ⊕ ((Int32 × Int32) ⊕ (Int32))) :=
  some (.inl (s0, (x6 + 1)))
noncomputable def zf_255_J113 (x1 : Int32) (x2 : Int32) (x3 : Int32) (x4 : Int32) (x6 : Int32) (M : jb_Mi) : Option ((Int32 × Int32) ⊕ ((Int32 × Int32) ⊕ (Int32))) :=
  zf_255_J114 x1 x2 x3 x4 x6 0 M
noncomputable def zf_255_J122 (x1 : Int32) (x2 : Int32) (x3 : Int32) (x4 : Int32) (x5 : Int32) (M : jb_Mi) : Option ((Int32 × Int32) ⊕ (Int32)) :=
  if x5 = 0 then zf_255_J130 x1 x2 x3 x4 M else zf_255_J130 x1 x2 x4 x4 M
noncomputable def zf_255_H76 (x1 : Int32) (x2 : Int32) (x3 : Int32) (x4 : Int32) (M : jb_Mi) (s : Int32 × Int32) : Option ((Int32 × Int32) ⊕ ((Int32 × Int32) ⊕ (Int32))) :=
  if s.2 < 64 then if s.1 = 0 then if (s.2 &&& (x4 ^^^ (-1))) = 0 then (zf_254 x4 s.2 M).bind fun q6 => if (jb_b2i q6) = 0 then zf_255_J113 x1 x2 x3 x4 s.2 M else zf_255_J114 x1 x2 x3 x4 s.2 1 M else zf_255_J113 x1 x2 x3 x4 s.2 M else ((zf_255_J122 x1 x2 x3 x4 s.1 M).map .inr) else ((zf_255_J122 x1 x2 x3 x4 s.1 M).map .inr)
noncomputable def zf_255_J70 (x1 : Int32) (x2 : Int32) (x3 : Int32) (x4 : Int32) (M : jb_Mi) : Option ((Int32 × Int32) ⊕ (Int32)) :=
  jb_lp (zf_255_H76 x1 x2 x3 x4 M) (0, 0)
noncomputable def zf_255_H21 (x1 : Int32) (x2 : Int32) (M : jb_Mi) (s : Int32 × Int32) : Option ((Int32 × Int32) ⊕ (Int32)) :=
  if s.2 < 64 then if (s.2 &&& (x2 ^^^ (-1))) = 0 then (zf_169 s.2).bind fun q2 => (zf_169 s.1).bind fun q3 => if q3 < q2 then zf_255_J130 x1 x2 s.1 s.2 M else (zf_169 s.2).bind fun q4 => (zf_169 s.1).bind fun q5 => if q4 = q5 then if s.2 < s.1 then zf_255_J70 x1 x2 s.1 s.2 M else zf_255_J130 x1 x2 s.1 s.2 M else zf_255_J70 x1 x2 s.1 s.2 M else zf_255_J130 x1 x2 s.1 s.2 M else if x1 = 0 then (zf_169 s.1).bind fun q7 => some (.inr q7) else some (.inr s.1)
noncomputable def zf_255 (x1 : Int32) (M : jb_Mi) : Option (Int32) :=
  if (jb_b2i (zf_164 x1 0 1)) = 0 then some (-1) else (zf_253 M).bind fun q1 => jb_lp (zf_255_H21 x1 q1 M) (q1, 0)
-- X13_emptyWithout
noncomputable def zf_256_J78 (x1 : Int32) (x2 : Int32) (x3 : Int32) (x4 : Int32) (x5 : Int32) (M : jb_Mi) : Option ((Int32 × Int32 × Int32) ⊕ ((Int32 × Int32) ⊕ (Int32))) :=
  some (.inl (x2, x4, (x5 + 1)))
noncomputable def zf_256_J62 (x1 : Int32) (x2 : Int32) (x3 : Int32) (x4 : Int32) (x5 : Int32) (M : jb_Mi) : Option ((Int32 × Int32 × Int32) ⊕ ((Int32 × Int32) ⊕ (Int32))) :=
  zf_256_J78 x1 (x2 + 1) x3 x4 x5 M
noncomputable def zf_256_H16 (x1 : Int32) (x3 : Int32) (M : jb_Mi) (s : Int32 × Int32 × Int32) : Option ((Int32 × Int32 × Int32) ⊕ ((Int32 × Int32) ⊕ (Int32))) :=
  if s.2.2 < 24 then (zf_172 (s.2.2 / 4) M).bind fun q1 => if (jb_b2i q1) = 0 then zf_256_J78 x1 s.1 x3 s.2.1 s.2.2 M else (zf_216 s.2.2 x3 M).bind fun q2 => if q2 = (-1) then zf_256_J62 x1 s.1 x3 s.2.1 s.2.2 M else if (jb_b2i (zf_168 s.2.1 q2)) = 0 then zf_256_J78 x1 s.1 x3 (s.2.1 ||| ((1 : Int32) <<< (q2 &&& 31))) s.2.2 M else zf_256_J62 x1 s.1 x3 s.2.1 s.2.2 M else some (.inr (.inl (s.1, (x3 + 1))))
noncomputable def zf_256_H4 (x1 : Int32) (M : jb_Mi) (s : Int32 × Int32) : Option ((Int32 × Int32) ⊕ (Int32)) :=
  if s.2 < 24 then jb_lp (zf_256_H16 x1 s.2 M) (s.1, x1, 0) else some (.inr s.1)
noncomputable def zf_256 (x1 : Int32) (M : jb_Mi) : Option (Int32) :=
  jb_lp (zf_256_H4 x1 M) (0, 0)
-- X13_toldMen
noncomputable def zf_257_J24 (x1 : Int32) (x2 : Int32) (M : jb_Mi) : Option ((Int32 × Int32) ⊕ (Int32)) :=
  some (.inl (x1, (x2 + 1)))
noncomputable def zf_257_H4 (M : jb_Mi) (s : Int32 × Int32) : Option ((Int32 × Int32) ⊕ (Int32)) :=
  if s.2 < 16 then (zf_174 s.2 M).bind fun q1 => if (jb_b2i q1) = 0 then zf_257_J24 s.1 s.2 M else zf_257_J24 (s.1 ||| ((1 : Int32) <<< (s.2 &&& 31))) s.2 M else some (.inr s.1)
noncomputable def zf_257 (M : jb_Mi) : Option (Int32) :=
  jb_lp (zf_257_H4 M) (0, 0)
-- X13_strike
noncomputable def zf_258_J100 (x1 : Int32) (x2 : Int32) (x3 : Int32) (x4 : Int32) (x5 : Int32) (x6 : Int32) (M : jb_Mi) : Option ((Int32 × Int32 × Int32) ⊕ (Int32)) :=
  some (.inl (x4, x5, (x6 + 1)))
noncomputable def zf_258_H45 (x1 : Int32) (x2 : Int32) (x3 : Int32) (M : jb_Mi) (s : Int32 × Int32 × Int32) : Option ((Int32 × Int32 × Int32) ⊕ (Int32)) :=
  if s.2.2 < 65536 then if (s.2.2 &&& (x3 ^^^ (-1))) = 0 then (zf_169 s.2.2).bind fun q3 => if q3 = x1 then (zf_256 s.2.2 M).bind fun q4 => if s.2.1 < q4 then zf_258_J100 x1 x2 x3 s.2.2 q4 s.2.2 M else zf_258_J100 x1 x2 x3 s.1 s.2.1 s.2.2 M else zf_258_J100 x1 x2 x3 s.1 s.2.1 s.2.2 M else zf_258_J100 x1 x2 x3 s.1 s.2.1 s.2.2 M else if x2 = 0 then (zf_256 0 M).bind fun q5 => some (.inr (s.2.1 - q5)) else some (.inr s.1)
noncomputable def zf_258 (x1 : Int32) (x2 : Int32) (M : jb_Mi) : Option (Int32) :=
  if (jb_b2i (zf_164 x1 1 3)) = 0 then some (-1) else if (jb_b2i (zf_164 x2 0 1)) = 0 then some (-1) else (zf_257 M).bind fun q1 => (zf_169 q1).bind fun q2 => if q2 < x1 then some (-2) else jb_lp (zf_258_H45 x1 x2 q1 M) (0, (-1), 1)
-- X13_isRow
noncomputable def zf_259_J43 (x0 : Int32) (x1 : Int32) (x2 : Int32) (x3 : Int32) : Option ((Int32 × Int32) ⊕ (Bool)) :=
  some (.inl (x2, (x3 + 1)))
noncomputable def zf_259_J41 (x0 : Int32) (x1 : Int32) (x3 : Int32) : Option ((Int32 × Int32) ⊕ (Bool)) :=
  zf_259_J43 x0 x1 x3 x3
noncomputable def zf_259_J25 (x0 : Int32) (x1 : Int32) (x2 : Int32) (x3 : Int32) : Option ((Int32 × Int32) ⊕ (Bool)) :=
  if (x3 - x2) = 2 then zf_259_J41 x0 x1 x3 else if (x3 - x2) = 3 then zf_259_J41 x0 x1 x3 else some (.inr false)
noncomputable def zf_259_H4 (x0 : Int32) (x1 : Int32) (s : Int32 × Int32) : Option ((Int32 × Int32) ⊕ (Bool)) :=
  if x1 < s.2 then some (.inr true) else if s.2 < x1 then if (jb_b2i (zf_168 x0 s.2)) = 0 then zf_259_J43 x0 x1 s.1 s.2 else zf_259_J25 x0 x1 s.1 s.2 else zf_259_J25 x0 x1 s.1 s.2
noncomputable def zf_259 (x0 : Int32) (x1 : Int32) : Option (Bool) :=
  jb_lp (zf_259_H4 x0 x1) (0, 1)
-- X13_bricks
noncomputable def zf_260_J68 (x1 : Int32) (x2 : Int32) (x3 : Int32) (x4 : Int32) (M : jb_Mi) (N : jb_Ml) : Option ((Int32 × Int32 × jb_Mi × jb_Ml) ⊕ (Int64 × jb_Mi × jb_Ml)) :=
  some (.inl (x3, (x4 + 2), M, N))
noncomputable def zf_260_J152 (x2 : Int32) (x3 : Int32) (x4 : Int32) (x5 : Int32) (x6 : Int32) (M : jb_Mi) (N : jb_Ml) : Option ((Int32 × jb_Ml) ⊕ ((Int32 × jb_Ml) ⊕ ((Int32 × jb_Ml) ⊕ (Int64 × jb_Mi × jb_Ml)))) :=
  some (.inl ((x6 + 1), N))
noncomputable def zf_260_H106 (x2 : Int32) (x3 : Int32) (x4 : Int32) (x5 : Int32) (M : jb_Mi) (s : Int32 × jb_Ml) : Option ((Int32 × jb_Ml) ⊕ ((Int32 × jb_Ml) ⊕ ((Int32 × jb_Ml) ⊕ (Int64 × jb_Mi × jb_Ml)))) :=
  if s.1 < x3 then jb_gd x5 64 (jb_gd s.1 64 (if ((M 109 x5.toNatClampNeg) &&& (M 109 (s.1).toNatClampNeg)) = 0 then jb_gd x5 64 (jb_gd s.1 64 (jb_gd x5 64 (zf_260_J152 x2 x3 x4 x5 s.1 M (jb_ul s.2 111 x5.toNatClampNeg ((s.2 111 x5.toNatClampNeg) + (s.2 110 (s.1).toNatClampNeg)))))) else zf_260_J152 x2 x3 x4 x5 s.1 M s.2)) else some (.inr (.inl ((x5 + 1), s.2)))
noncomputable def zf_260_H167 (x2 : Int32) (x3 : Int32) (x4 : Int32) (M : jb_Mi) (s : Int32 × jb_Ml) : Option ((Int32 × jb_Ml) ⊕ ((Int32 × jb_Ml) ⊕ (Int64 × jb_Mi × jb_Ml))) :=
  if s.1 < x3 then jb_gd s.1 64 (jb_gd s.1 64 (some (.inl ((s.1 + 1), (jb_ul s.2 110 (s.1).toNatClampNeg (s.2 111 (s.1).toNatClampNeg)))))) else some (.inr (.inl ((x4 + 1), s.2)))
noncomputable def zf_260_H89 (x2 : Int32) (x3 : Int32) (x4 : Int32) (M : jb_Mi) (s : Int32 × jb_Ml) : Option ((Int32 × jb_Ml) ⊕ ((Int32 × jb_Ml) ⊕ (Int64 × jb_Mi × jb_Ml))) :=
  if s.1 < x3 then jb_gd s.1 64 (jb_lp (zf_260_H106 x2 x3 x4 s.1 M) (0, (jb_ul s.2 111 (s.1).toNatClampNeg 0))) else ((jb_lp (zf_260_H167 x2 x3 x4 M) (0, s.2)).map .inr)
noncomputable def zf_260_H205 (x3 : Int32) (M : jb_Mi) (N : jb_Ml) (s : Int64 × Int32) : Option ((Int64 × Int32) ⊕ (Int64 × jb_Mi × jb_Ml)) :=
  if s.2 < x3 then jb_gd s.2 64 (some (.inl ((s.1 + (N 110 (s.2).toNatClampNeg)), (s.2 + 1)))) else some (.inr (s.1, M, N))
noncomputable def zf_260_H80 (x2 : Int32) (x3 : Int32) (M : jb_Mi) (s : Int32 × jb_Ml) : Option ((Int32 × jb_Ml) ⊕ (Int64 × jb_Mi × jb_Ml)) :=
  if s.1 < x2 then jb_lp (zf_260_H89 x2 x3 s.1 M) (0, s.2) else ((jb_lp (zf_260_H205 x3 M s.2) (0, 0)).map .inr)
noncomputable def zf_260_H29 (x1 : Int32) (x2 : Int32) (s : Int32 × Int32 × jb_Mi × jb_Ml) : Option ((Int32 × Int32 × jb_Mi × jb_Ml) ⊕ (Int64 × jb_Mi × jb_Ml)) :=
  if s.2.1 < ((1 : Int32) <<< (x1 &&& 31)) then (zf_259 s.2.1 x1).bind fun q1 => if (jb_b2i q1) = 0 then zf_260_J68 x1 x2 s.1 s.2.1 s.2.2.1 s.2.2.2 else jb_gd s.1 64 (jb_gd s.1 64 (zf_260_J68 x1 x2 (s.1 + 1) s.2.1 (jb_up s.2.2.1 109 (s.1).toNatClampNeg s.2.1) (jb_ul s.2.2.2 110 (s.1).toNatClampNeg 1))) else ((jb_lp (zf_260_H80 x2 s.1 s.2.2.1) (1, s.2.2.2)).map .inr)
noncomputable def zf_260 (x1 : Int32) (x2 : Int32) (M : jb_Mi) (N : jb_Ml) : Option (Int64 × jb_Mi × jb_Ml) :=
  if (jb_b2i (zf_164 x1 1 16)) = 0 then some ((-1), M, N) else if (jb_b2i (zf_164 x2 1 6)) = 0 then some ((-1), M, N) else jb_lp (zf_260_H29 x1 x2) (0, 0, M, N)
-- X13_bread
noncomputable def zf_261_J78 (x1 : Int32) (x2 : Int32) (x3 : Int32) (x4 : Int32) (x5 : Int32) (s0 : Int32) (s1 : Int32) (M : jb_Mi) : Option ((Int32 × Int32 × Int32) ⊕ (Int32 × jb_Mi)) :=
  (zf_183 x5 M).bind fun q4 => some (.inl ((x3 + (zf_167 ((x4 + q4) - (s0 + s1)))), ((x4 + q4) - (s0 + s1)), (x5 + 1)))
noncomputable def zf_261_H56 (x1 : Int32) (x2 : Int32) (M : jb_Mi) (s : Int32 × Int32 × Int32) : Option ((Int32 × Int32 × Int32) ⊕ (Int32 × jb_Mi)) :=
  if s.2.2 < x1 then jb_g0 x1 (jb_g0 x1 (if s.2.2 < (x2 - x2 / x1 * x1) then zf_261_J78 x1 x2 s.1 s.2.1 s.2.2 (x2 / x1) 1 M else zf_261_J78 x1 x2 s.1 s.2.1 s.2.2 (x2 / x1) 0 M)) else some (.inr (s.1, M))
noncomputable def zf_261_H29 (x1 : Int32) (M : jb_Mi) (s : Int32 × Int32) : Option ((Int32 × Int32) ⊕ (Int32 × jb_Mi)) :=
  if s.2 < x1 then (zf_183 s.2 M).bind fun q1 => some (.inl ((s.1 + q1), (s.2 + 1))) else ((jb_lp (zf_261_H56 x1 s.1 M) (0, 0, 0)).map .inr)
noncomputable def zf_261 (x1 : Int32) (M : jb_Mi) : Option (Int32 × jb_Mi) :=
  if (jb_b2i (zf_164 x1 1 12)) = 0 then some ((-1), M) else if (M 79 4) < x1 then some ((-1), M) else jb_lp (zf_261_H29 x1 (jb_up M 79 4 0)) (0, 0)
-- X13_beams
noncomputable def zf_262_J197 (x1 : Int32) (x2 : Int32) (x3 : Int32) (s1 : Int32) (s2 : Int32) (s3 : Int32) (M : jb_Mi) : Option ((Int32 × jb_Mi) ⊕ ((Int32 × jb_Mi) ⊕ (Int32 × jb_Mi))) :=
  jb_gd s1 64 (some (.inl ((x3 + 1), (jb_up M 112 s1.toNatClampNeg (s2 + s3)))))
noncomputable def zf_262_H125 (x1 : Int32) (x2 : Int32) (x3 : Int32) (x4 : Int32) (x5 : Int32) (M : jb_Mi) (s : Int32 × Int32) : Option ((Int32 × Int32) ⊕ ((Int32 × jb_Mi) ⊕ ((Int32 × jb_Mi) ⊕ (Int32 × jb_Mi)))) :=
  if s.2 < x4 then jb_gd ((8 * x3) + s.2) 64 (jb_gd ((8 * (s.2 + 1)) + x4) 64 (some (.inl ((zf_165 s.1 ((M 112 (((8 * x3) + s.2)).toNatClampNeg) + (M 112 (((8 * (s.2 + 1)) + x4)).toNatClampNeg))), (s.2 + 1))))) else if x2 = 1 then ((zf_262_J197 x1 x2 x3 ((8 * x3) + x4) s.1 0 M).map .inr) else ((zf_262_J197 x1 x2 x3 ((8 * x3) + x4) s.1 x5 M).map .inr)
noncomputable def zf_262_H98 (x1 : Int32) (x2 : Int32) (x3 : Int32) (x4 : Int32) (x6 : Int32) (M : jb_Mi) (s : Int32 × Int32) : Option ((Int32 × Int32) ⊕ ((Int32 × jb_Mi) ⊕ ((Int32 × jb_Mi) ⊕ (Int32 × jb_Mi)))) :=
  if x4 < s.2 then ((jb_lp (zf_262_H125 x1 x2 x3 x4 s.1 M) (x6, x3)).map .inr) else (zf_183 s.2 M).bind fun q6 => some (.inl ((s.1 + q6), (s.2 + 1)))
noncomputable def zf_262_J93 (x1 : Int32) (x2 : Int32) (x3 : Int32) (x4 : Int32) (x5 : Int32) (s0 : Int32) (M : jb_Mi) : Option ((Int32 × jb_Mi) ⊕ ((Int32 × jb_Mi) ⊕ (Int32 × jb_Mi))) :=
  jb_lp (zf_262_H98 x1 x2 x3 x4 s0 M) (x5, x3)
noncomputable def zf_262_H64 (x1 : Int32) (x2 : Int32) (s : Int32 × jb_Mi) : Option ((Int32 × jb_Mi) ⊕ ((Int32 × jb_Mi) ⊕ (Int32 × jb_Mi))) :=
  if x1 < (s.1 + x2) then some (.inr (.inl ((x2 + 1), s.2))) else if x2 = 1 then zf_262_J93 x1 x2 s.1 ((s.1 + x2) - 1) 0 0 s.2 else zf_262_J93 x1 x2 s.1 ((s.1 + x2) - 1) 0 100000000 s.2
noncomputable def zf_262_H57 (x1 : Int32) (s : Int32 × jb_Mi) : Option ((Int32 × jb_Mi) ⊕ (Int32 × jb_Mi)) :=
  if x1 < s.1 then jb_gd (x1 - 1) 64 (some (.inr ((s.2 112 ((x1 - 1)).toNatClampNeg), s.2))) else jb_lp (zf_262_H64 x1 s.1) (0, s.2)
noncomputable def zf_262_H27 (x1 : Int32) (M : jb_Mi) (s : Int32) : Option ((Int32) ⊕ (Int32 × jb_Mi)) :=
  if s < x1 then (zf_183 s M).bind fun q1 => if (jb_b2i (zf_164 q1 1 99)) = 0 then some (.inr ((-2), M)) else some (.inl (s + 1)) else ((jb_lp (zf_262_H57 x1) (1, M)).map .inr)
noncomputable def zf_262 (x1 : Int32) (M : jb_Mi) : Option (Int32 × jb_Mi) :=
  if (jb_b2i (zf_164 x1 1 8)) = 0 then some ((-1), M) else if (M 79 4) < x1 then some ((-1), M) else jb_lp (zf_262_H27 x1 (jb_up M 79 4 0)) 0
-- X13_relieved
noncomputable def zf_263_J138 (x3 : Int32) (x4 : Int32) (x5 : Int32) (x6 : Int32) (x7 : Int32) (x10 : Int32) (x11 : Int32) (s0 : Int32) (M : jb_Mi) : Option ((Int32 × Int32 × Int32 × Int32 × Int32 × Int32) ⊕ (Int32)) :=
  some (.inl (x5, x6, (zf_166 x7 s0), s0, x11, (x10 + 1)))
noncomputable def zf_263_J113 (x3 : Int32) (x4 : Int32) (x5 : Int32) (x6 : Int32) (x7 : Int32) (x8 : Int32) (x9 : Int32) (x10 : Int32) (x11 : Int32) (M : jb_Mi) : Option ((Int32 × Int32 × Int32 × Int32 × Int32 × Int32) ⊕ (Int32)) :=
  if x11 = (-1) then zf_263_J138 x3 x4 x5 x6 x7 x10 x11 0 M else if x11 = x9 then zf_263_J138 x3 x4 x5 x6 x7 x10 x11 (x8 + 1) M else zf_263_J138 x3 x4 x5 x6 x7 x10 x11 1 M
noncomputable def zf_263_J101 (x3 : Int32) (x4 : Int32) (x5 : Int32) (x6 : Int32) (x7 : Int32) (x8 : Int32) (x9 : Int32) (x10 : Int32) (x11 : Int32) (M : jb_Mi) : Option ((Int32 × Int32 × Int32 × Int32 × Int32 × Int32) ⊕ (Int32)) :=
  if x11 = (-1) then zf_263_J113 x3 x4 x5 (x6 + 1) x7 x8 x9 x10 x11 M else zf_263_J113 x3 x4 x5 x6 x7 x8 x9 x10 x11 M
noncomputable def zf_263_H66 (x3 : Int32) (x4 : Int32) (M : jb_Mi) (s : Int32 × Int32 × Int32 × Int32 × Int32 × Int32) : Option ((Int32 × Int32 × Int32 × Int32 × Int32 × Int32) ⊕ (Int32)) :=
  if s.2.2.2.2.2 < 24 then (zf_216 x4 s.2.2.2.2.2 M).bind fun q3 => if 0 < s.2.2.2.2.2 then if q3 = s.2.2.2.2.1 then zf_263_J101 x3 x4 s.1 s.2.1 s.2.2.1 s.2.2.2.1 s.2.2.2.2.1 s.2.2.2.2.2 q3 M else zf_263_J101 x3 x4 (s.1 + 1) s.2.1 s.2.2.1 s.2.2.2.1 s.2.2.2.2.1 s.2.2.2.2.2 q3 M else zf_263_J101 x3 x4 s.1 s.2.1 s.2.2.1 s.2.2.2.1 s.2.2.2.2.1 s.2.2.2.2.2 q3 M else if x3 = 0 then some (.inr s.1) else if x3 = 1 then some (.inr s.2.1) else some (.inr s.2.2.1)
noncomputable def zf_263 (x1 : Int32) (x2 : Int32) (x3 : Int32) (M : jb_Mi) : Option (Int32) :=
  (zf_171 x1 M).bind fun q1 => if (jb_b2i q1) = 0 then some (-1) else if (jb_b2i (zf_164 x2 0 3)) = 0 then some (-1) else if (jb_b2i (zf_164 x3 0 3)) = 0 then some (-1) else if x3 = 3 then jb_gd ((4 * x1) + x2) 24 (some (M 98 (((4 * x1) + x2)).toNatClampNeg)) else jb_lp (zf_263_H66 x3 ((4 * x1) + x2) M) (0, 0, 0, 0, (-1), 0)
-- X13_heaviest
noncomputable def zf_264_J70 (x1 : Int32) (x2 : Int32) (x3 : Int32) (x4 : Int32) (M : jb_Mi) : Option ((Int32 × Int32 × Int32) ⊕ (Int32)) :=
  some (.inl (x2, x3, (x4 + 1)))
noncomputable def zf_264_H20 (x1 : Int32) (M : jb_Mi) (s : Int32 × Int32 × Int32) : Option ((Int32 × Int32 × Int32) ⊕ (Int32)) :=
  if s.2.2 < 24 then (zf_171 (s.2.2 / 4) M).bind fun q1 => if (jb_b2i q1) = 0 then zf_264_J70 x1 s.1 s.2.1 s.2.2 M else (zf_179 (s.2.2 / 4) (s.2.2 - s.2.2 / 4 * 4) M).bind fun q2 => if s.2.1 < q2 then zf_264_J70 x1 s.2.2 q2 s.2.2 M else zf_264_J70 x1 s.1 s.2.1 s.2.2 M else if s.1 = (-2) then some (.inr (-2)) else if x1 = 0 then some (.inr (s.1 / 4)) else if x1 = 1 then some (.inr (s.1 - s.1 / 4 * 4)) else some (.inr s.2.1)
noncomputable def zf_264 (x1 : Int32) (M : jb_Mi) : Option (Int32) :=
  if (jb_b2i (zf_164 x1 0 2)) = 0 then some (-1) else jb_lp (zf_264_H20 x1 M) ((-2), (-2), 0)
-- X13_seed
noncomputable def zf_265 (x1 : Int32) (M : jb_Mi) : Bool × jb_Mi :=
  if (jb_b2i (zf_164 x1 0 65535)) = 0 then (false, M) else (true, (jb_up M 80 148 x1))
-- X13_keep
noncomputable def zf_266 (M : jb_Mi) : Option (Int32 × jb_Mi) :=
  (zf_170 80 82 (jb_up M 79 57 1)).bind fun q1 => some ((q1 80 147), q1)
-- X13_undo
noncomputable def zf_267 (M : jb_Mi) : Option (Bool × jb_Mi) :=
  if (M 79 57) = 0 then some (false, M) else (zf_170 82 80 M).bind fun q1 => some (true, q1)
-- X13_check
noncomputable def zf_268_J60 (x1 : Int32) (x2 : Int32) (s0 : Int32) (s1 : Int32) (M : jb_Mi) : Option ((Int32) ⊕ (Int32 × jb_Mi)) :=
  if s0 = s1 then some (.inl (x2 + 1)) else some (.inr (x2, M))
noncomputable def zf_268_H28 (x1 : Int32) (M : jb_Mi) (s : Int32) : Option ((Int32) ⊕ (Int32 × jb_Mi)) :=
  if s < x1 then (zf_183 s M).bind fun q1 => (zf_174 s M).bind fun q2 => if (jb_b2i q2) = 0 then zf_268_J60 x1 s q1 0 M else jb_gd (130 + s) 149 (zf_268_J60 x1 s q1 (M 80 ((130 + s)).toNatClampNeg) M) else some (.inr ((-1), M))
noncomputable def zf_268 (x1 : Int32) (M : jb_Mi) : Option (Int32 × jb_Mi) :=
  if (jb_b2i (zf_164 x1 0 16)) = 0 then some ((-2), M) else if (M 79 4) < x1 then some ((-2), M) else jb_lp (zf_268_H28 x1 (jb_up M 79 4 0)) 0
-- X13_count
noncomputable def zf_269_J30 (x1 : Int32) (x2 : Int32) (x3 : Int32) (x4 : Int32) (M : jb_Mi) : Option ((Int32 × Int32) ⊕ (Int32)) :=
  some (.inl (x2, (x4 + 1)))
noncomputable def zf_269_J59 (x1 : Int32) (x2 : Int32) (x3 : Int32) (x4 : Int32) (M : jb_Mi) : Option ((Int32 × Int32) ⊕ (Int32)) :=
  some (.inl (x3, (x4 + 1)))
noncomputable def zf_269_H39 (x1 : Int32) (x2 : Int32) (M : jb_Mi) (s : Int32 × Int32) : Option ((Int32 × Int32) ⊕ (Int32)) :=
  if s.2 < 24 then (zf_173 s.2 M).bind fun q2 => if (jb_b2i q2) = 0 then zf_269_J59 x1 x2 s.1 s.2 M else zf_269_J59 x1 x2 (s.1 + 1) s.2 M else if x1 = 0 then some (.inr (M 80 146)) else if x1 = 1 then some (.inr (M 80 147)) else if x1 = 2 then some (.inr x2) else if x1 = 3 then (zf_253 M).bind fun q3 => some (.inr (x2 &&& (q3 ^^^ (-1)))) else if x1 = 4 then (zf_257 M).bind fun q4 => some (.inr q4) else if x1 = 5 then some (.inr s.1) else if x1 = 6 then some (.inr (M 79 13)) else if x1 = 7 then some (.inr (M 79 4)) else if x1 = 8 then some (.inr (M 80 148)) else some (.inr (-1))
noncomputable def zf_269_H7 (x1 : Int32) (x3 : Int32) (M : jb_Mi) (s : Int32 × Int32) : Option ((Int32 × Int32) ⊕ (Int32)) :=
  if s.2 < 6 then (zf_171 s.2 M).bind fun q1 => if (jb_b2i q1) = 0 then zf_269_J30 x1 s.1 x3 s.2 M else zf_269_J30 x1 (s.1 ||| ((1 : Int32) <<< (s.2 &&& 31))) x3 s.2 M else ((jb_lp (zf_269_H39 x1 s.1 M) (x3, 0)).map .inr)
noncomputable def zf_269 (x1 : Int32) (M : jb_Mi) : Option (Int32) :=
  jb_lp (zf_269_H7 x1 0 M) (0, 0)
