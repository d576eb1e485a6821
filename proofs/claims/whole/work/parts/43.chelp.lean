/-! the class's small pictures, said in whole numbers -/
theorem kI0 : (0 : Int32) = iI 0 := rfl
theorem kI1 : (1 : Int32) = iI 1 := rfl
theorem kI2 : (2 : Int32) = iI 2 := rfl
theorem kI3 : (3 : Int32) = iI 3 := rfl
theorem kI9 : (9 : Int32) = iI 9 := rfl
theorem kIm1 : (-1 : Int32) = iI (-1) := by decide
theorem rg_lit {a : Int} (h1 : -2147483648 ≤ a) (h2 : a < 2147483648) : rg a := ⟨h1, h2⟩
theorem rg0 : rg 0 := ⟨by omega, by omega⟩
theorem iI_lt0 {a : Int} (ha : rg a) : (iI a < (0 : Int32)) ↔ a < 0 := iI_lt ha rg0
theorem iI_ge0 {a : Int} (ha : rg a) : ((0 : Int32) ≤ iI a) ↔ 0 ≤ a := iI_le rg0 ha
theorem iI_eq0 {a : Int} (ha : rg a) : (iI a = (0 : Int32)) ↔ a = 0 := iI_eq ha rg0
theorem iI_eq1 {a : Int} (ha : rg a) : (iI a = (1 : Int32)) ↔ a = 1 := iI_eq (b := 1) ha ⟨by omega, by omega⟩
def dX (h : Int) : Int := if h = 0 ∨ h = 1 ∨ h = 7 then 1 else if h = 2 ∨ h = 6 then 0 else -1
def dY (h : Int) : Int := if 1 ≤ h ∧ h ≤ 3 then 1 else if h = 0 ∨ h = 4 then 0 else -1
theorem dX_b (h : Int) : -1 ≤ dX h ∧ dX h ≤ 1 := by
  unfold dX
  split
  · omega
  · split <;> omega
theorem dY_b (h : Int) : -1 ≤ dY h ∧ dY h ≤ 1 := by
  unfold dY
  split
  · omega
  · split <;> omega
theorem h8 {h : Int} (h0 : 0 ≤ h) (h1 : h < 8) : h = 0 ∨ h = 1 ∨ h = 2 ∨ h = 3 ∨ h = 4 ∨ h = 5 ∨ h = 6 ∨ h = 7 := by omega
theorem sxI_dX {h : Int} (h0 : 0 ≤ h) (h1 : h < 8) : sxI h.toNat = iI (dX h) := by
  rcases h8 h0 h1 with rfl | rfl | rfl | rfl | rfl | rfl | rfl | rfl <;> decide
theorem syI_dY {h : Int} (h0 : 0 ≤ h) (h1 : h < 8) : syI h.toNat = iI (dY h) := by
  rcases h8 h0 h1 with rfl | rfl | rfl | rfl | rfl | rfl | rfl | rfl <;> decide
theorem m8 (a : Int) : 0 ≤ a % 8 ∧ a % 8 < 8 := ⟨Int.emod_nonneg a (by decide), Int.emod_lt_of_pos a (by decide)⟩
theorem headingOf_eq (F : Nat) (a : Int) : J_X4_headingOf F (iI a) = some (iI (a % 8)) := by
  unfold J_X4_headingOf
  rw [iI_and7]
theorem stepX_eq (F : Nat) (a : Int) : J_X4_stepX F (iI a) = some (iI (dX (a % 8))) := by
  have h := m8 a
  unfold J_X4_stepX
  rw [iI_and7, gd_in (rg_lit (by omega) (by omega)) h.1 (by omega), iI_clamp (rg_lit (by omega) (by omega)), sxI_dX h.1 h.2]
theorem stepY_eq (F : Nat) (a : Int) : J_X4_stepY F (iI a) = some (iI (dY (a % 8))) := by
  have h := m8 a
  unfold J_X4_stepY
  rw [iI_and7, gd_in (rg_lit (by omega) (by omega)) h.1 (by omega), iI_clamp (rg_lit (by omega) (by omega)), syI_dY h.1 h.2]
theorem xOf_eq (F : Nat) {a : Int} (h : rg a) : J_X4_xOf F (iI a) = some (iI (a / 8 % 32)) := by
  unfold J_X4_xOf
  rw [iI_shr3 h, iI_and31]
theorem yOf_eq (F : Nat) {a : Int} (h : rg a) : J_X4_yOf F (iI a) = some (iI (a / 256)) := by
  unfold J_X4_yOf
  rw [iI_shr8 h]
theorem cellAt_eq (F : Nat) (x y : Int) : J_X4_cellAt F (iI x) (iI y) = some (iI (y * 32 + x)) := by
  unfold J_X4_cellAt
  rw [iI_shl5, iI_add]
theorem placeAt_eq (F : Nat) (x y h : Int) : J_X4_placeAt F (iI x) (iI y) (iI h) = some (iI ((y * 32 + x) * 8 + h)) := by
  unfold J_X4_placeAt
  rw [cellAt_eq, Option.bind_some, iI_shl3, iI_add]
def inF (w h x y : Int) : Bool := decide (0 ≤ x ∧ x < w ∧ 0 ≤ y ∧ y < h)
theorem inF_iff {w h x y : Int} : inF w h x y = true ↔ 0 ≤ x ∧ x < w ∧ 0 ≤ y ∧ y < h := by
  unfold inF
  exact decide_eq_true_iff
theorem isFrom_eq (F : Nat) {a b c : Int} (ha : rg a) (hb : rg b) (hc : rg c) : J_X4_isFrom F (iI a) (iI b) (iI c) = some (bI (decide (a ≤ b ∧ b ≤ c))) := by
  unfold J_X4_isFrom
  by_cases h1 : b < a
  · rw [if_pos ((iI_lt hb ha).mpr h1), bI_f (by omega)]
  · rw [if_neg (fun h => h1 ((iI_lt hb ha).mp h))]
    by_cases h2 : c < b
    · rw [if_pos ((iI_lt hc hb).mpr h2), bI_f (by omega)]
    · rw [if_neg (fun h => h2 ((iI_lt hc hb).mp h)), bI_t (by omega)]
theorem hasCell_eq (F : Nat) {w h x y : Int} (hw : rg w) (hh : rg h) (hx : rg x) (hy : rg y) : J_X1_hasCell F (iI w) (iI h) (iI x) (iI y) = some (bI (inF w h x y)) := by
  unfold J_X1_hasCell inF
  by_cases h1 : x < 0
  · rw [if_pos ((iI_lt0 hx).mpr h1), bI_f (by omega)]
  · rw [if_neg (fun h => h1 ((iI_lt0 hx).mp h))]
    by_cases h2 : w ≤ x
    · rw [if_pos ((iI_le hw hx).mpr h2), bI_f (by omega)]
    · rw [if_neg (fun h => h2 ((iI_le hw hx).mp h))]
      by_cases h3 : y < 0
      · rw [if_pos ((iI_lt0 hy).mpr h3), bI_f (by omega)]
      · rw [if_neg (fun h => h3 ((iI_lt0 hy).mp h))]
        by_cases h4 : h ≤ y
        · rw [if_pos ((iI_le hh hy).mpr h4), bI_f (by omega)]
        · rw [if_neg (fun h => h4 ((iI_le hh hy).mp h)), bI_t (by omega)]
theorem isFull_eq (F : Nat) {w h x y : Int} {n : Nat} {fu : Nat → Int32} {fl : Int → Int → Bool} (hw : w ≤ 32) (hh : h ≤ 1000) (hn : n = (h * 32).toNat) (hw0 : 0 ≤ w) (hh0 : 0 ≤ h) (hx : rg x) (hy : rg y) (hfu : ∀ x y, inF w h x y = true → fu (y * 32 + x).toNat = bI (fl x y)) : J_X1_isFull F (iI w) (iI h) n fu (iI x) (iI y) = some (bI (inF w h x y && fl x y)) := by
  unfold J_X1_isFull
  rw [hasCell_eq F (rg_lit (by omega) (by omega)) (rg_lit (by omega) (by omega)) hx hy, Option.bind_some, bI_if]
  cases hi : inF w h x y with
  | false => rfl
  | true =>
    have hq := inF_iff.mp hi
    have r1 : rg (y * 32 + x) := rg_lit (by omega) (by omega)
    rw [if_pos rfl, cellAt_eq, Option.bind_some, gd_in r1 (by omega) (by omega), iI_clamp r1, hfu x y hi, bI_if]
    cases fl x y <;> rfl
theorem isKept_eq (F : Nat) {w h x y : Int} {n : Nat} {fk : Nat → Int32} {cl : Int → Int → Bool} (hw : w ≤ 32) (hh : h ≤ 1000) (hn : n = (h * 32).toNat) (hw0 : 0 ≤ w) (hh0 : 0 ≤ h) (hx : rg x) (hy : rg y) (hfk : ∀ x y, inF w h x y = true → (fk (y * 32 + x).toNat = (0 : Int32) ↔ cl x y = true)) : J_X1_isKeptClear F (iI w) (iI h) n fk (iI x) (iI y) = some (bI (inF w h x y && cl x y)) := by
  unfold J_X1_isKeptClear
  rw [hasCell_eq F (rg_lit (by omega) (by omega)) (rg_lit (by omega) (by omega)) hx hy, Option.bind_some, bI_if]
  cases hi : inF w h x y with
  | false => rfl
  | true =>
    have hq := inF_iff.mp hi
    have r1 : rg (y * 32 + x) := rg_lit (by omega) (by omega)
    rw [if_pos rfl, cellAt_eq, Option.bind_some, gd_in r1 (by omega) (by omega), iI_clamp r1]
    have hz := hfk x y hi
    cases hc : cl x y with
    | false =>
      rw [if_neg (fun h => by rw [hz, hc] at h; cases h)]
      rfl
    | true =>
      rw [if_pos (hz.mpr hc)]
      rfl
/-- all of p at a, a + 1 .. -/
def allB : Nat → (Int → Bool) → Int → Bool
  | 0, _, _ => true
  | n + 1, p, a => p a && allB n p (a + 1)
theorem allB_iff {p : Int → Bool} : ∀ (n : Nat) (a : Int), allB n p a = true ↔ ∀ j, a ≤ j → j < a + n → p j = true := by
  intro n
  induction n with
  | zero =>
    intro a
    refine ⟨fun _ j h1 h2 => by omega, fun _ => rfl⟩
  | succ n ih =>
    intro a
    rw [allB, Bool.and_eq_true, ih]
    refine ⟨fun h j h1 h2 => ?_, fun h => ⟨h a (by omega) (by omega), fun j h1 h2 => h j (by omega) (by omega)⟩⟩
    by_cases e : j = a
    · rw [e]
      exact h.1
    · exact h.2 j (by omega) (by omega)
/-- a PLACE's number in the class -/
def pcd (x y h : Int) : Int := (y * 32 + x) * 8 + h
theorem pcd_h {x y h : Int} (h0 : 0 ≤ h) (h1 : h < 8) : pcd x y h % 8 = h := by
  unfold pcd
  omega
theorem pcd_x {x y h : Int} (h0 : 0 ≤ h) (h1 : h < 8) (x0 : 0 ≤ x) (x1 : x < 32) : pcd x y h / 8 % 32 = x := by
  unfold pcd
  omega
theorem pcd_y {x y h : Int} (h0 : 0 ≤ h) (h1 : h < 8) (x0 : 0 ≤ x) (x1 : x < 32) : pcd x y h / 256 = y := by
  unfold pcd
  omega
/-- the cells that the car covers at a place -/
def cvX (x h i j : Int) : Int := x + i * dX h + j * dX ((h + 2) % 8)
def cvY (y h i j : Int) : Int := y + i * dY h + j * dY ((h + 2) % 8)
theorem coveredX_eq (F : Nat) {x y h : Int} (i j : Int) (h0 : 0 ≤ h) (h1 : h < 8) (x0 : 0 ≤ x) (x1 : x < 32) (hp : rg (pcd x y h)) : J_X0_coveredX F (iI (pcd x y h)) (iI i) (iI j) = some (iI (cvX x h i j)) := by
  unfold J_X0_coveredX
  simp only [headingOf_eq, xOf_eq F hp, stepX_eq, Option.bind_some, kI2, iI_add, iI_mul, pcd_h h0 h1, pcd_x h0 h1 x0 x1, Int.emod_eq_of_lt h0 h1, cvX]
theorem coveredY_eq (F : Nat) {x y h : Int} (i j : Int) (h0 : 0 ≤ h) (h1 : h < 8) (x0 : 0 ≤ x) (x1 : x < 32) (hp : rg (pcd x y h)) : J_X0_coveredY F (iI (pcd x y h)) (iI i) (iI j) = some (iI (cvY y h i j)) := by
  unfold J_X0_coveredY
  simp only [headingOf_eq, yOf_eq F hp, stepY_eq, Option.bind_some, kI2, iI_add, iI_mul, pcd_h h0 h1, pcd_y h0 h1 x0 x1, Int.emod_eq_of_lt h0 h1, cvY]
/-- the cells under a place are in the field and nothing full is near them -/
def okP (w h : Int) (cl : Int → Int → Bool) (l wd : Int) (x y hd : Int) : Bool := allB l.toNat (fun i => allB wd.toNat (fun j => inF w h (cvX x hd i j) (cvY y hd i j) && cl (cvX x hd i j) (cvY y hd i j)) (-((wd - 1) / 2))) (-((l - 1) / 2))
theorem half_eq {a : Int} (h0 : 0 ≤ a) (h1 : a < 1000) : iI a / (2 : Int32) = iI (a / 2) := by
  rw [kI2, iI_div (rg_lit (by omega) (by omega)) (rg_lit (by omega) (by omega)), Int.tdiv_eq_ediv_of_nonneg h0]
theorem cv_b {x y h i j : Int} (x0 : 0 ≤ x) (x1 : x < 32) (y0 : 0 ≤ y) (y1 : y < 1000) (i0 : -10 ≤ i) (i1 : i ≤ 10) (j0 : -10 ≤ j) (j1 : j ≤ 10) : (-20 ≤ cvX x h i j ∧ cvX x h i j ≤ 60) ∧ (-20 ≤ cvY y h i j ∧ cvY y h i j ≤ 1030) := by
  have d1 := dX_b h
  have d2 := dX_b ((h + 2) % 8)
  have d3 := dY_b h
  have d4 := dY_b ((h + 2) % 8)
  unfold cvX cvY
  have t : ∀ (a b : Int), -1 ≤ b → b ≤ 1 → -10 ≤ a → a ≤ 10 → -10 ≤ a * b ∧ a * b ≤ 10 := by
    intro a b b0 b1 a0 a1
    rcases (show b = -1 ∨ b = 0 ∨ b = 1 by omega) with rfl | rfl | rfl <;> omega
  have t1 := t i (dX h) d1.1 d1.2 i0 i1
  have t2 := t j (dX ((h + 2) % 8)) d2.1 d2.2 j0 j1
  have t3 := t i (dY h) d3.1 d3.2 i0 i1
  have t4 := t j (dY ((h + 2) % 8)) d4.1 d4.2 j0 j1
  omega
section COV
variable {F : Nat} {w h l wd x y hd : Int} {n : Nat} {fk : Nat → Int32} {cl : Int → Int → Bool}
theorem cov30 (hw0 : 0 ≤ w) (hw : w ≤ 32) (hh0 : 0 ≤ h) (hh : h ≤ 1000) (hn : n = (h * 32).toNat) (hfk : ∀ x y, inF w h x y = true → (fk (y * 32 + x).toNat = (0 : Int32) ↔ cl x y = true)) (h0 : 0 ≤ hd) (h1 : hd < 8) (x0 : 0 ≤ x) (x1 : x < 32) (y0 : 0 ≤ y) (y1 : y < 1000) (wd0 : 1 ≤ wd) (wd1 : wd ≤ 5) {i : Int} (i0 : -10 ≤ i) (i1 : i ≤ 10) (kk : Int32 → Option Int32) :
    ∀ (fz m : Nat) (j : Int), m < fz → j + m = wd / 2 + 1 → -10 ≤ j → J_X0_coversClearCells_L30 F (iI wd) (iI w) (iI h) n fk (iI (pcd x y hd)) (iI i) kk fz (iI j) = if allB m (fun j => inF w h (cvX x hd i j) (cvY y hd i j) && cl (cvX x hd i j) (cvY y hd i j)) j = true then kk (iI (wd / 2 + 1)) else some (0 : Int32) := by
  intro fz
  induction fz with
  | zero =>
    intro m j hm
    omega
  | succ fz ih =>
    intro m j hm hj hj0
    have rp : rg (pcd x y hd) := by unfold pcd; exact rg_lit (by omega) (by omega)
    rw [J_X0_coversClearCells_L30, half_eq (by omega) (by omega)]
    cases m with
    | zero =>
      rw [if_pos ((iI_lt (rg_lit (by omega) (by omega)) (rg_lit (by omega) (by omega))).mpr (by omega)), allB, if_pos rfl, show j = wd / 2 + 1 by omega]
    | succ m =>
      have hb := cv_b (h := hd) x0 x1 y0 y1 i0 i1 hj0 (show j ≤ 10 by omega)
      rw [if_neg (fun q => by rw [iI_lt (rg_lit (by omega) (by omega)) (rg_lit (by omega) (by omega))] at q; omega), coveredX_eq F i j h0 h1 x0 x1 rp, Option.bind_some, coveredY_eq F i j h0 h1 x0 x1 rp, Option.bind_some,
        isKept_eq F hw hh hn hw0 hh0 (rg_lit (by omega) (by omega)) (rg_lit (by omega) (by omega)) hfk, Option.bind_some, bI_if, kI1, iI_add, allB]
      cases hz : inF w h (cvX x hd i j) (cvY y hd i j) && cl (cvX x hd i j) (cvY y hd i j) with
      | false => rfl
      | true =>
        rw [if_pos rfl, ih m (j + 1) (by omega) (by omega) (by omega), Bool.true_and]
theorem cov10 (hw0 : 0 ≤ w) (hw : w ≤ 32) (hh0 : 0 ≤ h) (hh : h ≤ 1000) (hn : n = (h * 32).toNat) (hfk : ∀ x y, inF w h x y = true → (fk (y * 32 + x).toNat = (0 : Int32) ↔ cl x y = true)) (h0 : 0 ≤ hd) (h1 : hd < 8) (x0 : 0 ≤ x) (x1 : x < 32) (y0 : 0 ≤ y) (y1 : y < 1000) (wd0 : 1 ≤ wd) (wd1 : wd ≤ 5) (l0 : 1 ≤ l) (l1 : l ≤ 7) (hF : 20 < F) (kk : Int32 → Option Int32) :
    ∀ (fz m : Nat) (i : Int), m < fz → i + m = l / 2 + 1 → -10 ≤ i → J_X0_coversClearCells_L10 F (iI l) (iI wd) (iI w) (iI h) n fk (iI (pcd x y hd)) kk fz (iI i) = if allB m (fun i => allB wd.toNat (fun j => inF w h (cvX x hd i j) (cvY y hd i j) && cl (cvX x hd i j) (cvY y hd i j)) (-((wd - 1) / 2))) i = true then kk (iI (l / 2 + 1)) else some (0 : Int32) := by
  intro fz
  induction fz with
  | zero =>
    intro m i hm
    omega
  | succ fz ih =>
    intro m i hm hi hi0
    rw [J_X0_coversClearCells_L10, half_eq (by omega) (by omega)]
    cases m with
    | zero =>
      rw [if_pos ((iI_lt (rg_lit (by omega) (by omega)) (rg_lit (by omega) (by omega))).mpr (by omega)), allB, if_pos rfl, show i = l / 2 + 1 by omega]
    | succ m =>
      rw [if_neg (fun q => by rw [iI_lt (rg_lit (by omega) (by omega)) (rg_lit (by omega) (by omega))] at q; omega), kI1, iI_sub, half_eq (by omega) (by omega), iI_neg,
        cov30 hw0 hw hh0 hh hn hfk h0 h1 x0 x1 y0 y1 wd0 wd1 hi0 (by omega) _ F wd.toNat _ (by omega) (by omega) (by omega), iI_add, allB]
      cases hz : allB wd.toNat (fun j => inF w h (cvX x hd i j) (cvY y hd i j) && cl (cvX x hd i j) (cvY y hd i j)) (-((wd - 1) / 2)) with
      | false => rfl
      | true => rw [if_pos rfl, ih m (i + 1) (by omega) (by omega) (by omega), Bool.true_and]
theorem covers_eq (hw0 : 0 ≤ w) (hw : w ≤ 32) (hh0 : 0 ≤ h) (hh : h ≤ 1000) (hn : n = (h * 32).toNat) (hfk : ∀ x y, inF w h x y = true → (fk (y * 32 + x).toNat = (0 : Int32) ↔ cl x y = true)) (h0 : 0 ≤ hd) (h1 : hd < 8) (x0 : 0 ≤ x) (x1 : x < 32) (y0 : 0 ≤ y) (y1 : y < 1000) (wd0 : 1 ≤ wd) (wd1 : wd ≤ 5) (l0 : 1 ≤ l) (l1 : l ≤ 7) (hF : 20 < F) :
    J_X0_coversClearCells F (iI l) (iI wd) (iI w) (iI h) n fk (iI (pcd x y hd)) = some (bI (okP w h cl l wd x y hd)) := by
  unfold J_X0_coversClearCells okP
  rw [kI1, iI_sub, half_eq (by omega) (by omega), iI_neg, cov10 hw0 hw hh0 hh hn hfk h0 h1 x0 x1 y0 y1 wd0 wd1 l0 l1 hF _ F l.toNat _ (by omega) (by omega) (by omega)]
  cases allB l.toNat (fun i => allB wd.toNat (fun j => inF w h (cvX x hd i j) (cvY y hd i j) && cl (cvX x hd i j) (cvY y hd i j)) (-((wd - 1) / 2))) (-((l - 1) / 2)) <;> rfl
end COV
