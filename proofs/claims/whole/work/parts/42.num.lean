/-! whole numbers in the machine's ints -/
def iI (a : Int) : Int32 := Int32.ofInt a
def rg (a : Int) : Prop := -2147483648 ≤ a ∧ a < 2147483648
theorem iI_add (a b : Int) : iI a + iI b = iI (a + b) := (Int32.ofInt_add a b).symm
theorem iI_sub (a b : Int) : iI a - iI b = iI (a - b) := (Int32.ofInt_sub a b).symm
theorem iI_mul (a b : Int) : iI a * iI b = iI (a * b) := (Int32.ofInt_mul a b).symm
theorem iI_neg (a : Int) : -iI a = iI (-a) := (Int32.ofInt_neg a).symm
theorem iI_toInt {a : Int} (h : rg a) : (iI a).toInt = a := Int32.toInt_ofInt_of_le (by have := h.1; omega) (by have := h.2; omega)
theorem iI_of (x : Int32) : iI x.toInt = x := Int32.ofInt_toInt x
theorem rg_of (x : Int32) : rg x.toInt := ⟨by have := Int32.le_toInt x; omega, by have := Int32.toInt_lt x; omega⟩
theorem iI_lt {a b : Int} (ha : rg a) (hb : rg b) : (iI a < iI b) ↔ a < b := by
  rw [Int32.lt_iff_toInt_lt, iI_toInt ha, iI_toInt hb]
theorem iI_le {a b : Int} (ha : rg a) (hb : rg b) : (iI a ≤ iI b) ↔ a ≤ b := by
  rw [Int32.le_iff_toInt_le, iI_toInt ha, iI_toInt hb]
theorem iI_eq {a b : Int} (ha : rg a) (hb : rg b) : (iI a = iI b) ↔ a = b := by
  refine ⟨fun h => ?_, fun h => by rw [h]⟩
  have h2 : (iI a).toInt = (iI b).toInt := by rw [h]
  rw [iI_toInt ha, iI_toInt hb] at h2
  exact h2
theorem iI_clamp {a : Int} (h : rg a) : (iI a).toNatClampNeg = a.toNat := by
  rw [Int32.toNatClampNeg, iI_toInt h]
theorem nI_iI (n : Nat) : nI n = iI n := Int32.ofInt_eq_ofNat.symm
theorem iI_in {a : Int} {n : Nat} (h : rg a) (h0 : 0 ≤ a) (hn : a < n) : inB (iI a) n = true := by
  unfold inB
  rw [iI_clamp h, decide_eq_false, decide_eq_false]
  · rfl
  · omega
  · show ¬ iI a < iI 0
    rw [iI_lt h ⟨by omega, by omega⟩]
    omega
theorem gd_in {α : Type} {a : Int} {n : Nat} {k : Option α} (h : rg a) (h0 : 0 ≤ a) (hn : a < n) : gd (inB (iI a) n) k = k := by
  rw [iI_in h h0 hn]
  rfl
theorem i32_toNat_inj {x y : Int32} (h : x.toBitVec.toNat = y.toBitVec.toNat) : x = y := Int32.toBitVec.inj (BitVec.eq_of_toNat_eq h)
theorem shl_mul (a s : Int32) (k : Nat) (m : Int32) (hs : (s.toBitVec.smod 32).toNat = k) (hm : m.toBitVec.toNat = 2 ^ k) : a <<< s = a * m := by
  apply i32_toNat_inj
  rw [pk_shl a s k hs, Int32.toBitVec_mul, BitVec.toNat_mul, hm]
theorem iI_shl5 (a : Int) : iI a <<< ((5 : Int32) &&& 31) = iI (a * 32) := by
  rw [shl_mul (iI a) _ 5 (iI 32) (by decide) (by decide), iI_mul]
theorem iI_shl3 (a : Int) : iI a <<< ((3 : Int32) &&& 31) = iI (a * 8) := by
  rw [shl_mul (iI a) _ 3 (iI 8) (by decide) (by decide), iI_mul]
theorem iI_shl8 (a : Int) : iI a <<< ((8 : Int32) &&& 31) = iI (a * 256) := by
  rw [shl_mul (iI a) _ 8 (iI 256) (by decide) (by decide), iI_mul]
theorem iI_shr3 {a : Int} (h : rg a) : iI a >>> ((3 : Int32) &&& 31) = iI (a / 8) := by
  rw [← iI_of (iI a >>> ((3 : Int32) &&& 31)), pk_shr (iI a) _ 3 (by decide), iI_toInt h, Int.shiftRight_eq_div_pow]
  rfl
theorem iI_shr8 {a : Int} (h : rg a) : iI a >>> ((8 : Int32) &&& 31) = iI (a / 256) := by
  rw [← iI_of (iI a >>> ((8 : Int32) &&& 31)), pk_shr (iI a) _ 8 (by decide), iI_toInt h, Int.shiftRight_eq_div_pow]
  rfl
theorem iI_nat (a : Int) : (iI a).toBitVec.toNat = (a % 4294967296).toNat := by
  show (BitVec.ofInt 32 a).toNat = _
  rw [BitVec.toNat_ofInt]
  rfl
theorem iI_and (a : Int) (m : Int32) (k : Nat) (d : Int) (hm : m.toBitVec.toNat = 2 ^ k - 1) (hd : ((2 ^ k : Nat) : Int) = d) (hdv : d ∣ 4294967296) (hd0 : 0 < d) : iI a &&& m = iI (a % d) := by
  rw [pk_and (iI a) k hm, nI_iI, iI_nat]
  congr 1
  rw [Int.natCast_emod, hd, Int.toNat_of_nonneg (Int.emod_nonneg _ (by decide)), Int.emod_emod_of_dvd _ hdv]
theorem iI_and7 (a : Int) : iI a &&& (7 : Int32) = iI (a % 8) := iI_and a 7 3 8 (by decide) (by decide) (by decide) (by decide)
theorem iI_and31 (a : Int) : iI a &&& (31 : Int32) = iI (a % 32) := iI_and a 31 5 32 (by decide) (by decide) (by decide) (by decide)
theorem iI_and1 (a : Int) : iI a &&& (1 : Int32) = iI (a % 2) := iI_and a 1 1 2 (by decide) (by decide) (by decide) (by decide)
theorem iI_div {a b : Int} (ha : rg a) (hb : rg b) : iI a / iI b = iI (a.tdiv b) := by
  have h1 : Int32.minValue.toInt = -2147483648 := by decide
  have h2 : Int32.maxValue.toInt = 2147483647 := by decide
  exact (Int32.ofInt_tdiv (by rw [h1]; exact ha.1) (by rw [h2]; have := ha.2; omega) (by rw [h1]; exact hb.1) (by rw [h2]; have := hb.2; omega)).symm
/-- yes and no -/
def bI (b : Bool) : Int32 := if b then 1 else 0
theorem bI_t {P : Prop} [Decidable P] (h : P) : bI (decide P) = 1 := by
  rw [decide_eq_true h]
  rfl
theorem bI_f {P : Prop} [Decidable P] (h : ¬ P) : bI (decide P) = 0 := by
  rw [decide_eq_false h]
  rfl
theorem bI_0 {b : Bool} : (bI b = (0 : Int32)) ↔ b = false := by
  cases b <;> simp [bI]
theorem bI_1 {b : Bool} : (bI b = (1 : Int32)) ↔ b = true := by
  cases b <;> simp [bI]
theorem bI_if {α : Type} {b : Bool} {x y : α} : (if bI b = (0 : Int32) then x else y) = if b = true then y else x := by
  cases b <;> simp [bI]
theorem bI_Z {α : Type} {b : Bool} {k : Option α} : gd (isZ (bI b)) k = k := by
  cases b <;> rfl
