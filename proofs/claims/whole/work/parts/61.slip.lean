/-! slips and the error: doubles that are eighths -/
theorem int_cmp_lt {a b : Int} (h : a < b) : compare a b = .lt := by
  show compareOfLessAndEq a b = .lt
  unfold compareOfLessAndEq
  rw [if_pos h]
theorem int_cmp_gt {a b : Int} (h : b < a) : compare a b = .gt := by
  show compareOfLessAndEq a b = .gt
  unfold compareOfLessAndEq
  rw [if_neg (by omega), if_neg (by omega)]
theorem fp_tails : FP.Core.b64.tails = 4503599627370496 := by decide
theorem fp_exps : FP.Core.b64.exps = 2048 := by decide
theorem fp_qmin : FP.Core.b64.qmin = -1074 := by decide
theorem fp_qmax : FP.Core.b64.qmax = 971 := by decide
theorem fp_enc {s : Bool} {c e : Nat} (c0 : 4503599627370496 ≤ c) (e0 : 1 ≤ e) : FP.Core.encode FP.Core.b64 (.fin s c ((e : Int) - 1075)) = (s.toNat * 2048 + e) * 4503599627370496 + (c - 4503599627370496) := by
  show (if c < FP.Core.b64.tails then FP.Core.assemble FP.Core.b64 s 0 c else FP.Core.assemble FP.Core.b64 s (((e : Int) - 1075 - FP.Core.b64.qmin).toNat + 1) (c - FP.Core.b64.tails)) = _
  rw [if_neg (by rw [fp_tails]; omega)]
  unfold FP.Core.assemble
  rw [fp_tails, fp_exps, fp_qmin, show ((e : Int) - 1075 - -1074).toNat + 1 = e by omega]
theorem fp_dec {s : Bool} {c e : Nat} (c0 : 4503599627370496 ≤ c) (c1 : c < 9007199254740992) (e0 : 1 ≤ e) (e1 : e < 2047) : FP.Core.decode FP.Core.b64 ((s.toNat * 2048 + e) * 4503599627370496 + (c - 4503599627370496)) = .fin s c ((e : Int) - 1075) := by
  have hE : FP.Core.fieldE FP.Core.b64 ((s.toNat * 2048 + e) * 4503599627370496 + (c - 4503599627370496)) = e := by
    unfold FP.Core.fieldE
    rw [fp_tails, fp_exps]
    omega
  have hT : FP.Core.fieldT FP.Core.b64 ((s.toNat * 2048 + e) * 4503599627370496 + (c - 4503599627370496)) = c - 4503599627370496 := by
    unfold FP.Core.fieldT
    rw [fp_tails]
    omega
  have hS : FP.Core.fieldS FP.Core.b64 ((s.toNat * 2048 + e) * 4503599627370496 + (c - 4503599627370496)) = s := by
    unfold FP.Core.fieldS
    rw [fp_tails, fp_exps]
    cases s
    · rw [show ((false.toNat * 2048 + e) * 4503599627370496 + (c - 4503599627370496)) / 4503599627370496 / 2048 % 2 = 0 by
        show ((0 * 2048 + e) * 4503599627370496 + (c - 4503599627370496)) / 4503599627370496 / 2048 % 2 = 0
        omega]
      rfl
    · rw [show ((true.toNat * 2048 + e) * 4503599627370496 + (c - 4503599627370496)) / 4503599627370496 / 2048 % 2 = 1 by
        show ((1 * 2048 + e) * 4503599627370496 + (c - 4503599627370496)) / 4503599627370496 / 2048 % 2 = 1
        omega]
      rfl
  unfold FP.Core.decode
  rw [hE, hT, hS, if_neg (by rw [fp_exps]; omega), if_neg (by omega), fp_tails, fp_qmin, show 4503599627370496 + (c - 4503599627370496) = c by omega, show (-1074 : Int) + ((e : Int) - 1) = (e : Int) - 1075 by omega]
theorem fp_lead {n : Nat} (hn : n ≠ 0) : FP.Core.leading n 1 = (n.log2 : Int) := by
  have h1 : Nat.log2 1 = 0 := by decide
  unfold FP.Core.leading
  rw [h1]
  show (if 1 * 2 ^ ((n.log2 : Int) - ((0 : Nat) : Int)).toNat ≤ n * 2 ^ (-((n.log2 : Int) - ((0 : Nat) : Int))).toNat then (n.log2 : Int) - ((0 : Nat) : Int) else (n.log2 : Int) - ((0 : Nat) : Int) - 1) = _
  rw [show ((n.log2 : Int) - ((0 : Nat) : Int)).toNat = n.log2 by omega, show (-((n.log2 : Int) - ((0 : Nat) : Int))).toNat = 0 by omega, if_pos (by
    have := Nat.log2_self_le hn
    omega)]
  omega
theorem fp_rnd {s : Bool} {n c : Nat} {e q : Int} (hn : n ≠ 0) (hq : (n.log2 : Int) + e - 52 = q) (q0 : -1074 ≤ q) (q1 : q ≤ 971) (c1 : c < 9007199254740992) (hc : (e ≥ q ∧ n * 2 ^ (e - q).toNat = c) ∨ (q ≥ e ∧ n = c * 2 ^ (q - e).toNat)) : FP.Core.roundRatio FP.Core.b64 s n 1 e = .fin s c q := by
  unfold FP.Core.roundRatio
  rw [if_neg hn]
  have hqu : FP.Core.quantum FP.Core.b64 n 1 e = q := by
    unfold FP.Core.quantum
    rw [fp_lead hn, fp_qmin, show ((FP.Core.b64.p : Int) - 1) = 52 by decide, hq]
    exact Int.max_eq_right q0
  rw [hqu]
  have hnear : FP.Core.nearest (FP.Core.unitsNum n e q) (FP.Core.unitsDen 1 e q) = c := by
    unfold FP.Core.unitsNum FP.Core.unitsDen FP.Core.nearest
    rcases hc with ⟨h1, h2⟩ | ⟨h1, h2⟩
    · rw [h2, show (q - e).toNat = 0 by omega, Nat.pow_zero, Nat.mul_one, Nat.mod_one, if_pos (by omega), Nat.div_one]
    · rw [show (e - q).toNat = 0 by omega, Nat.pow_zero, Nat.mul_one, Nat.one_mul, h2]
      have hp : 0 < 2 ^ (q - e).toNat := Nat.pow_pos (by omega)
      rw [Nat.mul_mod_left, if_pos (by omega), Nat.mul_div_cancel _ hp]
  unfold FP.Core.roundAt
  rw [hnear]
  unfold FP.Core.settle FP.Core.bound
  rw [show (2 : Nat) ^ FP.Core.b64.p = 9007199254740992 by decide, if_pos c1, fp_qmax, if_pos q1]
/-- an eighth of an int -/
theorem slip_form {x : Int32} (hx : x.toInt ≠ 0) : ∃ (k c : Nat), k ≤ 31 ∧ c = x.toInt.natAbs * 2 ^ (52 - k) ∧ 2 ^ k ≤ x.toInt.natAbs ∧ x.toInt.natAbs < 2 ^ (k + 1) ∧ 4503599627370496 ≤ c ∧ c < 9007199254740992 ∧ (FP.dmul (FP.i2d x) (4593671619917905920 : UInt64)).toNat = ((decide (x.toInt < 0)).toNat * 2048 + (k + 1020)) * 4503599627370496 + (c - 4503599627370496) := by
  have hr := rg_of x
  generalize hi : x.toInt = i at hx hr ⊢
  have hn : i.natAbs ≠ 0 := by omega
  have hk1 := Nat.log2_self_le hn
  have hk2 := Nat.lt_log2_self (n := i.natAbs)
  have hk3 : i.natAbs.log2 ≤ 31 := by
    have h1 : i.natAbs.log2 < 32 := (Nat.log2_lt hn).mpr (by have := hr.1; have := hr.2; omega)
    omega
  generalize hk : i.natAbs.log2 = k at hk1 hk2 hk3
  have hp : 2 ^ k * 2 ^ (52 - k) = 4503599627370496 := by
    rw [← Nat.pow_add, show k + (52 - k) = 52 by omega]
  have hp2 : 2 ^ (k + 1) * 2 ^ (52 - k) = 9007199254740992 := by
    rw [← Nat.pow_add, show k + 1 + (52 - k) = 53 by omega]
  have hpos : 0 < 2 ^ (52 - k) := Nat.pow_pos (by omega)
  have hc0 : 4503599627370496 ≤ i.natAbs * 2 ^ (52 - k) := by
    rw [← hp]
    exact Nat.mul_le_mul_right _ hk1
  have hc1 : i.natAbs * 2 ^ (52 - k) < 9007199254740992 := by
    rw [← hp2]
    exact Nat.mul_lt_mul_of_pos_right hk2 hpos
  refine ⟨k, i.natAbs * 2 ^ (52 - k), hk3, rfl, hk1, hk2, hc0, hc1, ?_⟩
  generalize hcv : i.natAbs * 2 ^ (52 - k) = c at hc0 hc1 ⊢
  have hsb : (decide (i < 0)).toNat ≤ 1 := by cases decide (i < 0) <;> decide
  have h1 : (FP.i2d x).toNat = ((decide (i < 0)).toNat * 2048 + (k + 1023)) * 4503599627370496 + (c - 4503599627370496) := by
    show (UInt64.ofNat (FP.Core.encode FP.Core.b64 (FP.Core.roundRatio FP.Core.b64 (decide (x.toInt < 0)) x.toInt.natAbs 1 0))).toNat = _
    rw [hi, fp_rnd (c := c) (q := ((k + 1023 : Nat) : Int) - 1075) hn (by rw [hk]; omega) (by omega) (by omega) hc1 (Or.inl ⟨by omega, by rw [show ((0 : Int) - (((k + 1023 : Nat) : Int) - 1075)).toNat = 52 - k by omega]; exact hcv⟩), fp_enc hc0 (by omega), UInt64.toNat_ofNat']
    exact Nat.mod_eq_of_lt (by omega)
  show (UInt64.ofNat (FP.Core.encode FP.Core.b64 (FP.Core.round FP.Core.b64 (FP.Core.exactProduct (FP.Core.decode FP.Core.b64 (FP.i2d x).toNat) (FP.Core.decode FP.Core.b64 (4593671619917905920 : UInt64).toNat))))).toNat = _
  have h8 : FP.Core.decode FP.Core.b64 (4593671619917905920 : UInt64).toNat = .fin false 4503599627370496 (-55) := by decide +kernel
  rw [h1, fp_dec hc0 hc1 (by omega) (by omega), h8]
  show (UInt64.ofNat (FP.Core.encode FP.Core.b64 (FP.Core.roundRatio FP.Core.b64 (decide (i < 0) != false) (c * 4503599627370496) 1 (((k + 1023 : Nat) : Int) - 1075 + -55)))).toNat = _
  have hl : (c * 4503599627370496).log2 = 104 := by
    rw [Nat.log2_eq_iff (by omega)]
    omega
  rw [fp_rnd (c := c) (q := ((k + 1020 : Nat) : Int) - 1075) (by omega) (by rw [hl]; omega) (by omega) (by omega) hc1 (Or.inr ⟨by omega, by rw [show ((((k + 1020 : Nat) : Int) - 1075) - (((k + 1023 : Nat) : Int) - 1075 + -55)).toNat = 52 by omega]⟩), Bool.bne_false, fp_enc hc0 (by omega), UInt64.toNat_ofNat']
  exact Nat.mod_eq_of_lt (by omega)
theorem nfD_of {a : UInt64} (h : a.toNat % 9223372036854775808 ≤ 9218868437227405312) : nfD a = true := by
  unfold nfD
  refine decide_eq_true ?_
  rw [UInt64.le_iff_toNat_le, UInt64.toNat_and, show (0x7fffffffffffffff : UInt64).toNat = 2 ^ 63 - 1 by decide, Nat.and_two_pow_sub_one_eq_mod]
  exact h
theorem slip_nf (x : Int32) : nfD (FP.dmul (FP.i2d x) (4593671619917905920 : UInt64)) = true := by
  by_cases hx : x.toInt = 0
  · have : x = 0 := by rw [← iI_of x, hx]; rfl
    rw [this]
    decide +kernel
  · obtain ⟨k, c, h1, h2, h3, h4, h5, h6, h7⟩ := slip_form hx
    refine nfD_of ?_
    rw [h7]
    cases decide (x.toInt < 0)
    · show ((0 * 2048 + (k + 1020)) * 4503599627370496 + (c - 4503599627370496)) % 9223372036854775808 ≤ 9218868437227405312
      omega
    · show ((1 * 2048 + (k + 1020)) * 4503599627370496 + (c - 4503599627370496)) % 9223372036854775808 ≤ 9218868437227405312
      omega
theorem sg_t (n : Nat) : FP.Core.signed true n = -(n : Int) := rfl
theorem sg_f (n : Nat) : FP.Core.signed false n = (n : Int) := rfl
theorem ord_fin (s : Bool) (c : Nat) (q : Int) (t : Bool) (d : Nat) (r : Int) : FP.Core.order (.fin s c q) (.fin t d r) = some (compare (FP.Core.signed s (FP.Core.inUnits c q (min q r))) (FP.Core.signed t (FP.Core.inUnits d r (min q r)))) := rfl
theorem dcmp_def (a b : UInt64) : FP.dcmp a b = FP.Core.order (FP.Core.decode FP.Core.b64 a.toNat) (FP.Core.decode FP.Core.b64 b.toNat) := rfl
/-- outside of the range, or one of seventeen -/
theorem slip_cases (x : Int32) : (-8 ≤ x.toInt ∧ x.toInt ≤ 8) ∨ (Op.cmpValue (FP.dcmp (FP.dmul (FP.i2d x) (4593671619917905920 : UInt64)) (13830554455654793216 : UInt64)) .l) < (0 : Int32) ∨ (0 : Int32) < (Op.cmpValue (FP.dcmp (FP.dmul (FP.i2d x) (4593671619917905920 : UInt64)) FP.dconst1) .g) := by
  by_cases h8 : x.toInt.natAbs ≤ 8
  · left
    omega
  · right
    obtain ⟨k, c, h1, h2, h3, h4, h5, h6, h7⟩ := slip_form (x := x) (by omega)
    have hk : 3 ≤ k := by
      rcases Nat.lt_or_ge k 3 with q | q
      · have : 2 ^ (k + 1) ≤ 2 ^ 3 := Nat.pow_le_pow_right (by omega) (by omega)
        omega
      · exact q
    have hd : FP.Core.decode FP.Core.b64 (FP.dmul (FP.i2d x) (4593671619917905920 : UInt64)).toNat = .fin (decide (x.toInt < 0)) c (((k + 1020 : Nat) : Int) - 1075) := by
      rw [h7]
      exact fp_dec h5 h6 (by omega) (by omega)
    have hm1 : FP.Core.decode FP.Core.b64 (13830554455654793216 : UInt64).toNat = .fin true 4503599627370496 (-52) := by decide +kernel
    have hp1 : FP.Core.decode FP.Core.b64 FP.dconst1.toNat = .fin false 4503599627370496 (-52) := by decide +kernel
    have hmin : min (((k + 1020 : Nat) : Int) - 1075) (-52) = -52 := Int.min_eq_right (by omega)
    have hu : FP.Core.inUnits c (((k + 1020 : Nat) : Int) - 1075) (-52) = x.toInt.natAbs * 562949953421312 := by
      unfold FP.Core.inUnits
      rw [h2, show (((k + 1020 : Nat) : Int) - 1075 - -52).toNat = k - 3 by omega, Nat.mul_assoc, ← Nat.pow_add, show 52 - k + (k - 3) = 49 by omega]
    have hv : FP.Core.inUnits 4503599627370496 (-52) (-52) = 4503599627370496 := by
      unfold FP.Core.inUnits
      rw [show ((-52 : Int) - -52).toNat = 0 by decide, Nat.pow_zero, Nat.mul_one]
    by_cases hs : x.toInt < 0
    · left
      have : FP.dcmp (FP.dmul (FP.i2d x) (4593671619917905920 : UInt64)) (13830554455654793216 : UInt64) = some .lt := by
        rw [dcmp_def, hd, hm1, decide_eq_true hs, ord_fin, hmin, hu, hv, sg_t, sg_t, int_cmp_lt (by omega)]
      rw [this]
      decide
    · right
      have : FP.dcmp (FP.dmul (FP.i2d x) (4593671619917905920 : UInt64)) FP.dconst1 = some .gt := by
        rw [dcmp_def, hd, hp1, decide_eq_false hs, ord_fin, hmin, hu, hv, sg_f, sg_f, int_cmp_gt (by omega)]
      rw [this]
      decide
/-- the errors that there are -/
def errL : List UInt64 := [0, 0x3fc0000000000000, 0x3fd0000000000000, 0x3fd8000000000000, 0x3fe0000000000000, 0xbfc0000000000000, 0xbfd0000000000000, 0xbfd8000000000000, 0xbfe0000000000000]
def errOk (e : UInt64) (j : Nat) : Bool := match J_X4_addToError 0 e (FP.dmul (FP.i2d (iI ((j : Int) - 8))) (4593671619917905920 : UInt64)) with
  | some v => errL.contains v
  | none => false
theorem err_all : (errL.all fun e => (List.range 17).all fun j => errOk e j) = true := by decide +kernel
theorem err_step {F : Nat} {e : UInt64} (he : e ∈ errL) {x : Int32} (h0 : -8 ≤ x.toInt) (h1 : x.toInt ≤ 8) : ∃ v, J_X4_addToError F e (FP.dmul (FP.i2d x) (4593671619917905920 : UInt64)) = some v ∧ v ∈ errL := by
  have h2 := List.all_eq_true.mp (List.all_eq_true.mp err_all e he) (x.toInt + 8).toNat (List.mem_range.mpr (by omega))
  unfold errOk at h2
  rw [show (((x.toInt + 8).toNat : Nat) : Int) - 8 = x.toInt by omega, iI_of] at h2
  show ∃ v, J_X4_addToError 0 e (FP.dmul (FP.i2d x) (4593671619917905920 : UInt64)) = some v ∧ v ∈ errL
  cases hv : J_X4_addToError 0 e (FP.dmul (FP.i2d x) (4593671619917905920 : UInt64)) with
  | none =>
    rw [hv] at h2
    cases h2
  | some v =>
    rw [hv] at h2
    exact ⟨v, rfl, List.contains_iff_mem.mp h2⟩
