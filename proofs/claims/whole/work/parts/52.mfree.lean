/-! which places are free, in the model -/
def inP (w h l wd x y hd : Int) : Bool := allB l.toNat (fun i => allB wd.toNat (fun j => inF w h (cvX x hd i j) (cvY y hd i j)) (-((wd - 1) / 2))) (-((l - 1) / 2))
def mn1 (w h : Int) (fl : Int → Int → Bool) (x y hd i j a : Int) : Int := if a ≤ dstM w h fl (cvX x hd i j) (cvY y hd i j) then a else dstM w h fl (cvX x hd i j) (cvY y hd i j)
def mnP (w h : Int) (fl : Int → Int → Bool) (l wd x y hd : Int) : Int := foldI l.toNat (fun i a => foldI wd.toNat (mn1 w h fl x y hd i) (-((wd - 1) / 2)) a) (-((l - 1) / 2)) 9
/-- no full cell as near as the margin kept -/
def clF (w h kp : Int) (fl : Int → Int → Bool) (x y : Int) : Bool := decide (kp < dstM w h fl x y)
theorem iI_s (a : Int) : iI a + (1 : Int32) = iI (a + 1) := iI_add a 1
section MFREE
variable {F : Nat} {w h l wd r tn kp : Int} {fl : Int → Int → Bool} {ne fr : Nat → Int32}
theorem mn1_b {x y hd i j a : Int} (h0 : 0 ≤ a) (h1 : a ≤ 9) : 0 ≤ mn1 w h fl x y hd i j a ∧ mn1 w h fl x y hd i j a ≤ 9 := by
  have := dstM_b (w := w) (h := h) (fl := fl) (cvX x hd i j) (cvY y hd i j)
  unfold mn1
  split <;> omega
theorem mn1_lt {x y hd i j a k : Int} : k < mn1 w h fl x y hd i j a ↔ (k < a ∧ k < dstM w h fl (cvX x hd i j) (cvY y hd i j)) := by
  unfold mn1
  split <;> omega
theorem mnP_b {x y hd : Int} : 0 ≤ mnP w h fl l wd x y hd ∧ mnP w h fl l wd x y hd ≤ 9 := foldI_b (fun i a h0 h1 => foldI_b (fun _ _ h0 h1 => mn1_b h0 h1) _ _ _ h0 h1) _ _ _ (by omega) (by omega)
theorem mnP_lt {x y hd k : Int} (k1 : k ≤ 8) : k < mnP w h fl l wd x y hd ↔ ∀ i, -((l - 1) / 2) ≤ i → i < -((l - 1) / 2) + l.toNat → ∀ j, -((wd - 1) / 2) ≤ j → j < -((wd - 1) / 2) + wd.toNat → k < dstM w h fl (cvX x hd i j) (cvY y hd i j) := by
  unfold mnP
  rw [foldI_lt (k := k) (p := fun i => ∀ j, -((wd - 1) / 2) ≤ j → j < -((wd - 1) / 2) + wd.toNat → k < dstM w h fl (cvX x hd i j) (cvY y hd i j)) (fun i a => foldI_lt (f := mn1 w h fl x y hd i) (p := fun j => k < dstM w h fl (cvX x hd i j) (cvY y hd i j)) (fun j a => mn1_lt) wd.toNat (-((wd - 1) / 2)) a)]
  exact ⟨fun q => q.2, fun q => ⟨by omega, q⟩⟩
theorem inP_iff {x y hd : Int} : inP w h l wd x y hd = true ↔ ∀ i, -((l - 1) / 2) ≤ i → i < -((l - 1) / 2) + l.toNat → ∀ j, -((wd - 1) / 2) ≤ j → j < -((wd - 1) / 2) + wd.toNat → inF w h (cvX x hd i j) (cvY y hd i j) = true := by
  unfold inP
  simp only [allB_iff]
theorem okP_mn {x y hd : Int} (k1 : kp ≤ 8) : okP w h (clF w h kp fl) l wd x y hd = (inP w h l wd x y hd && decide (kp < mnP w h fl l wd x y hd)) := by
  rw [Bool.eq_iff_iff, Bool.and_eq_true, decide_eq_true_iff, inP_iff, mnP_lt k1]
  unfold okP clF
  simp only [allB_iff, Bool.and_eq_true, decide_eq_true_iff]
  exact ⟨fun q => ⟨fun i i0 i1 j j0 j1 => (q i i0 i1 j j0 j1).1, fun i i0 i1 j j0 j1 => (q i i0 i1 j j0 j1).2⟩, fun q i i0 i1 j j0 j1 => ⟨q.1 i i0 i1 j j0 j1, q.2 i i0 i1 j j0 j1⟩⟩
theorem clear45 (hw : w ≤ 24) (hh : h ≤ 24) (hw0 : 0 ≤ w) (hh0 : 0 ≤ h) (hn : Ne w h fl ne) {x y hd i : Int} (x0 : 0 ≤ x) (x1 : x < 24) (y0 : 0 ≤ y) (y1 : y < 24) (d0 : 0 ≤ hd) (d1 : hd < 8) (wd0 : 1 ≤ wd) (wd1 : wd ≤ 5) (i0 : -10 ≤ i) (i1 : i ≤ 10) (kk : Int32 → Int32 → Option Int32) :
    ∀ (fz c : Nat) (j a : Int), c < fz → j + c = wd / 2 + 1 → -10 ≤ j → 0 ≤ a → a ≤ 9 → J_X5_clear_L45 F (iI w) (iI h) (iI wd) ne (iI x) (iI y) (iI hd) (iI ((hd + 2) % 8)) (iI i) kk fz (iI a) (iI j) = if allB c (fun j => inF w h (cvX x hd i j) (cvY y hd i j)) j = true then kk (iI (foldI c (mn1 w h fl x y hd i) j a)) (iI (wd / 2 + 1)) else some (-1 : Int32) := by
  intro fz
  induction fz with
  | zero =>
    intro c j a hc
    omega
  | succ fz ih =>
    intro c j a hc hj j0 a0 a1
    rw [J_X5_clear_L45, half_eq (by omega) (by omega)]
    cases c with
    | zero =>
      rw [if_pos ((iI_lt (rg_lit (by omega) (by omega)) (rg_lit (by omega) (by omega))).mpr (by omega)), allB, if_pos rfl, foldI, show j = wd / 2 + 1 by omega]
    | succ c =>
      have hb := cv_b (h := hd) x0 (by omega) y0 (by omega) i0 i1 j0 (show j ≤ 10 by omega)
      have e1 : x + i * dX hd + j * dX ((hd + 2) % 8) = cvX x hd i j := rfl
      have e2 : y + i * dY hd + j * dY ((hd + 2) % 8) = cvY y hd i j := rfl
      rw [if_neg (fun q => by rw [iI_lt (rg_lit (by omega) (by omega)) (rg_lit (by omega) (by omega))] at q; omega), dx_eq d0 d1, Option.bind_some, dx_eq (m8 _).1 (m8 _).2, Option.bind_some, dy_eq d0 d1, Option.bind_some, dy_eq (m8 _).1 (m8 _).2, Option.bind_some, iI_mul, iI_mul, iI_mul, iI_mul, iI_add, iI_add, iI_add, iI_add, e1, e2, isCell_eq (rg_lit (by omega) (by omega)) (rg_lit (by omega) (by omega)) (rg_lit (by omega) (by omega)) (rg_lit (by omega) (by omega)), Option.bind_some, bI_if, allB, foldI]
      cases hz : inF w h (cvX x hd i j) (cvY y hd i j) with
      | false => rfl
      | true =>
        have hq := inF_iff.mp hz
        have hdb := dstM_b (w := w) (h := h) (fl := fl) (cvX x hd i j) (cvY y hd i j)
        have hm := mn1_b (w := w) (h := h) (fl := fl) (x := x) (y := y) (hd := hd) (i := i) (j := j) a0 a1
        rw [if_pos rfl, kI24, iI_mul, iI_add, gd_in (rg_lit (by omega) (by omega)) (by omega) (by omega), iI_clamp (rg_lit (by omega) (by omega)), hn _ _ hz, iI_s, Bool.true_and]
        have := ih c (j + 1) (mn1 w h fl x y hd i j a) (by omega) (by omega) (by omega) hm.1 hm.2
        rw [← this]
        unfold mn1
        by_cases z : a ≤ dstM w h fl (cvX x hd i j) (cvY y hd i j)
        · rw [if_pos ((iI_le (rg_lit (by omega) (by omega)) (rg_lit (by omega) (by omega))).mpr z), if_pos z]
        · rw [if_neg (fun q => z ((iI_le (rg_lit (by omega) (by omega)) (rg_lit (by omega) (by omega))).mp q)), if_neg z]
theorem clear23 (hw : w ≤ 24) (hh : h ≤ 24) (hw0 : 0 ≤ w) (hh0 : 0 ≤ h) (hF : 20 < F) (hn : Ne w h fl ne) {x y hd : Int} (x0 : 0 ≤ x) (x1 : x < 24) (y0 : 0 ≤ y) (y1 : y < 24) (d0 : 0 ≤ hd) (d1 : hd < 8) (wd0 : 1 ≤ wd) (wd1 : wd ≤ 5) (l0 : 1 ≤ l) (l1 : l ≤ 7) (kk : Int32 → Int32 → Option Int32) :
    ∀ (fz c : Nat) (i a : Int), c < fz → i + c = l / 2 + 1 → -10 ≤ i → 0 ≤ a → a ≤ 9 → J_X5_clear_L23 F (iI w) (iI h) (iI l) (iI wd) ne (iI x) (iI y) (iI hd) (iI ((hd + 2) % 8)) kk fz (iI a) (iI i) = if allB c (fun i => allB wd.toNat (fun j => inF w h (cvX x hd i j) (cvY y hd i j)) (-((wd - 1) / 2))) i = true then kk (iI (foldI c (fun i a => foldI wd.toNat (mn1 w h fl x y hd i) (-((wd - 1) / 2)) a) i a)) (iI (l / 2 + 1)) else some (-1 : Int32) := by
  intro fz
  induction fz with
  | zero =>
    intro c j a hc
    omega
  | succ fz ih =>
    intro c i a hc hi i0 a0 a1
    rw [J_X5_clear_L23, half_eq (by omega) (by omega)]
    cases c with
    | zero =>
      rw [if_pos ((iI_lt (rg_lit (by omega) (by omega)) (rg_lit (by omega) (by omega))).mpr (by omega)), allB, if_pos rfl, foldI, show i = l / 2 + 1 by omega]
    | succ c =>
      have hb := foldI_b (f := mn1 w h fl x y hd i) (fun _ _ h0 h1 => mn1_b h0 h1) wd.toNat (-((wd - 1) / 2)) a a0 a1
      rw [if_neg (fun q => by rw [iI_lt (rg_lit (by omega) (by omega)) (rg_lit (by omega) (by omega))] at q; omega), iI_s, show iI wd - (1 : Int32) = iI (wd - 1) from iI_sub wd 1, half_eq (by omega) (by omega), iI_neg, clear45 hw hh hw0 hh0 hn x0 x1 y0 y1 d0 d1 wd0 wd1 i0 (by omega) _ F wd.toNat _ a (by omega) (by omega) (by omega) a0 a1, allB, foldI]
      cases hz : allB wd.toNat (fun j => inF w h (cvX x hd i j) (cvY y hd i j)) (-((wd - 1) / 2)) with
      | false => rfl
      | true => rw [if_pos rfl, ih c (i + 1) _ (by omega) (by omega) (by omega) hb.1 hb.2, Bool.true_and]
theorem clear_eq (hw : w ≤ 24) (hh : h ≤ 24) (hw0 : 0 ≤ w) (hh0 : 0 ≤ h) (hF : 20 < F) (hn : Ne w h fl ne) {x y hd : Int} (x0 : 0 ≤ x) (x1 : x < 24) (y0 : 0 ≤ y) (y1 : y < 24) (d0 : 0 ≤ hd) (d1 : hd < 8) (wd0 : 1 ≤ wd) (wd1 : wd ≤ 5) (l0 : 1 ≤ l) (l1 : l ≤ 7) :
    J_X5_clear F (iI w) (iI h) (iI l) (iI wd) ne (iI x) (iI y) (iI hd) = some (iI (if inP w h l wd x y hd = true then mnP w h fl l wd x y hd else -1)) := by
  have e : iI hd + (2 : Int32) - (iI hd + (2 : Int32)) / (8 : Int32) * (8 : Int32) = iI ((hd + 2) % 8) := by
    rw [kI2, kI8, iI_add, iI_dv (by omega) (by omega) (by omega) (by omega), iI_mul, iI_sub]
    congr 1
    omega
  unfold J_X5_clear inP mnP
  rw [e, kI1, iI_sub, half_eq (by omega) (by omega), iI_neg, kI9, clear23 hw hh hw0 hh0 hF hn x0 x1 y0 y1 d0 d1 wd0 wd1 l0 l1 _ F l.toNat _ 9 (by omega) (by omega) (by omega) (by omega) (by omega)]
  split
  · rfl
  · rw [kIm1]
theorem mFree_eq (hw : w ≤ 24) (hh : h ≤ 24) (hw0 : 0 ≤ w) (hh0 : 0 ≤ h) (hF : 20 < F) (hn : Ne w h fl ne) (k0 : 0 ≤ kp) (k1 : kp ≤ 3) {x y hd : Int} (hi : inF w h x y = true) (d0 : 0 ≤ hd) (d1 : hd < 8) (wd0 : 1 ≤ wd) (wd1 : wd ≤ 5) (l0 : 1 ≤ l) (l1 : l ≤ 7) :
    J_X5_isFree F (iI w) (iI h) (iI l) (iI wd) (iI kp) ne (iI x) (iI y) (iI hd) = some (bI (okP w h (clF w h kp fl) l wd x y hd)) := by
  have hq := inF_iff.mp hi
  have hm := mnP_b (w := w) (h := h) (fl := fl) (l := l) (wd := wd) (x := x) (y := y) (hd := hd)
  unfold J_X5_isFree
  rw [isCell_eq (rg_lit (by omega) (by omega)) (rg_lit (by omega) (by omega)) (rg_lit (by omega) (by omega)) (rg_lit (by omega) (by omega)), Option.bind_some, bI_if, hi, if_pos rfl, clear_eq hw hh hw0 hh0 hF hn hq.1 (by omega) hq.2.2.1 (by omega) d0 d1 wd0 wd1 l0 l1, Option.bind_some, okP_mn (by omega)]
  cases inP w h l wd x y hd with
  | false =>
    show (if iI (-1) ≤ iI kp then some (0 : Int32) else some (1 : Int32)) = _
    rw [if_pos ((iI_le (rg_lit (by omega) (by omega)) (rg_lit (by omega) (by omega))).mpr (by omega))]
    rfl
  | true =>
    show (if iI (mnP w h fl l wd x y hd) ≤ iI kp then some (0 : Int32) else some (1 : Int32)) = _
    rw [Bool.true_and]
    by_cases z : kp < mnP w h fl l wd x y hd
    · rw [if_neg (fun q => by rw [iI_le (rg_lit (by omega) (by omega)) (rg_lit (by omega) (by omega))] at q; omega), bI_t z]
    · rw [if_pos ((iI_le (rg_lit (by omega) (by omega)) (rg_lit (by omega) (by omega))).mpr (by omega)), bI_f z]
/-- headings -/
def hdB (tn d : Int) : Bool := decide (0 ≤ d ∧ d < 8 ∧ (tn = 2 → d % 2 = 0))
theorem isHeading_eq {d : Int} (ht : tn = 1 ∨ tn = 2) (hd : rg d) : J_X5_isHeading F (bI (decide (tn = 2))) (iI d) = some (bI (hdB tn d)) := by
  unfold J_X5_isHeading hdB
  by_cases h0 : d < 0
  · rw [if_pos ((iI_lt0 hd).mpr h0), bI_f (by omega)]
  · rw [if_neg (fun q => h0 ((iI_lt0 hd).mp q))]
    by_cases h1 : 8 ≤ d
    · rw [kI8, if_pos ((iI_le (rg_lit (by omega) (by omega)) hd).mpr h1), bI_f (by omega)]
    · rw [kI8, if_neg (fun q => h1 ((iI_le (rg_lit (by omega) (by omega)) hd).mp q)), bI_if]
      rcases ht with rfl | rfl
      · rw [if_neg (by decide), bI_t (by omega)]
      · rw [if_pos (by decide), kI2, iI_dv (by omega) (by omega) (by omega) (by omega), iI_mul, iI_sub]
        by_cases h2 : d % 2 = 0
        · rw [if_pos ((iI_eq0 (rg_lit (by omega) (by omega))).mpr (by omega)), bI_t (by omega)]
        · rw [if_neg (fun q => h2 (by have := (iI_eq0 (rg_lit (by omega) (by omega))).mp q; omega)), bI_f (by omega)]
/-- the row of free places -/
def frV (w h tn : Int) (ok : Int → Int → Int → Bool) (p : Nat) : Bool := hdB tn (nD p) && ok (nX p) (nY p) (nD p)
def Fr (w h tn : Int) (ok : Int → Int → Int → Bool) (fr : Nat → Int32) : Prop := ∀ p, inF w h (nX p) (nY p) = true → fr p = bI (frV w h tn ok p)
theorem nar0 : vp_nar .boolean (0 : Int32) = bI false := by decide
theorem nar1 : vp_nar .boolean (1 : Int32) = bI true := by decide
theorem findFree_eq {mf : Nat → Int32} (hw : w ≤ 24) (hh : h ≤ 24) (hw0 : 0 ≤ w) (hh0 : 0 ≤ h) (hF : 7000 < F) (hm : Mf w h fl mf) (ht : tn = 1 ∨ tn = 2) (k0 : 0 ≤ kp) (k1 : kp ≤ 3) (wd0 : 1 ≤ wd) (wd1 : wd ≤ 5) (l0 : 1 ≤ l) (l1 : l ≤ 7) (fr ne : Nat → Int32) :
    ∃ fr' ne', J_X5_findFree F (iI w) (iI h) (bI (decide (tn = 2))) (iI l) (iI wd) (iI kp) mf fr ne = some (fr', ne') ∧ Fr w h tn (okP w h (clF w h kp fl) l wd) fr' ∧ Ne w h fl ne' := by
  obtain ⟨ne', hne, hN⟩ := findNear_eq hw hh hw0 hh0 hF hm ne
  have g26 : ∀ (x y : Int), inF w h x y = true → ∀ (kk : Int32 → (Nat → Int32) → Option ((Nat → Int32) × (Nat → Int32))) (fz c : Nat) (d : Int) (fr : Nat → Int32), c < fz → d + c = 8 → 0 ≤ d → (∀ p, inF w h (nX p) (nY p) = true → (p : Int) < 8 * (24 * y + x) + d → fr p = bI (frV w h tn (okP w h (clF w h kp fl) l wd) p)) →
      ∃ fr', J_X5_findFree_L26 F (iI w) (iI h) (bI (decide (tn = 2))) (iI l) (iI wd) (iI kp) (iI y) (iI x) ne' kk fz (iI d) fr = kk (iI 8) fr' ∧ (∀ p, inF w h (nX p) (nY p) = true → (p : Int) < 8 * (24 * y + (x + 1)) → fr' p = bI (frV w h tn (okP w h (clF w h kp fl) l wd) p)) := by
    intro x y hi kk fz
    have hq := inF_iff.mp hi
    induction fz with
    | zero =>
      intro c d fr hc
      omega
    | succ fz ih =>
      intro c d fr hc hd d0 hfr
      rw [J_X5_findFree_L26]
      cases c with
      | zero =>
        rw [if_pos (by rw [kI8, iI_le (rg_lit (by omega) (by omega)) (rg_lit (by omega) (by omega))]; omega), show d = 8 by omega]
        exact ⟨fr, rfl, fun p hp hlt => hfr p hp (by omega)⟩
      | succ c =>
        have hpc : ∀ v : Bool, v = frV w h tn (okP w h (clF w h kp fl) l wd) (nC x y d) → ∀ p, inF w h (nX p) (nY p) = true → (p : Int) < 8 * (24 * y + x) + (d + 1) → upd fr (8 * (24 * y + x) + d).toNat (bI v) p = bI (frV w h tn (okP w h (clF w h kp fl) l wd) p) := by
          intro v hv p hp hlt
          by_cases e : p = (8 * (24 * y + x) + d).toNat
          · rw [e, upd_at, hv]
            rfl
          · rw [upd_ne e]
            exact hfr p hp (by omega)
        obtain ⟨n1, n2, n3⟩ := n_nC hq.1 (by omega) hq.2.2.1 d0 (show d < 8 by omega)
        rw [if_neg (fun q => by rw [kI8, iI_le (rg_lit (by omega) (by omega)) (rg_lit (by omega) (by omega))] at q; omega), place_eq, Option.bind_some, isHeading_eq ht (rg_lit (by omega) (by omega)), Option.bind_some, bI_if, mFree_eq hw hh hw0 hh0 (by omega) hN k0 k1 hi d0 (by omega) wd0 wd1 l0 l1, Option.bind_some, bI_if, gd_in (rg_lit (by omega) (by omega)) (by omega) (by omega), gd_in (rg_lit (by omega) (by omega)) (by omega) (by omega), iI_clamp (rg_lit (by omega) (by omega)), nar0, nar1, kI1, iI_add]
        cases hh1 : hdB tn d with
        | false => exact ih c (d + 1) _ (by omega) (by omega) (by omega) (hpc false (by unfold frV; rw [n3, hh1]; rfl))
        | true =>
          rw [if_pos rfl]
          cases hh2 : okP w h (clF w h kp fl) l wd x y d with
          | false => exact ih c (d + 1) _ (by omega) (by omega) (by omega) (hpc false (by unfold frV; rw [n1, n2, n3, hh1, hh2]; rfl))
          | true => exact ih c (d + 1) _ (by omega) (by omega) (by omega) (hpc true (by unfold frV; rw [n1, n2, n3, hh1, hh2]; rfl))
  have g16 : ∀ (y : Int), 0 ≤ y → y < h → ∀ (kk : Int32 → (Nat → Int32) → Option ((Nat → Int32) × (Nat → Int32))) (fz c : Nat) (x : Int) (fr : Nat → Int32), c < fz → x + c = w → 0 ≤ x → (∀ p, inF w h (nX p) (nY p) = true → (p : Int) < 8 * (24 * y + x) → fr p = bI (frV w h tn (okP w h (clF w h kp fl) l wd) p)) →
      ∃ fr', J_X5_findFree_L16 F (iI w) (iI h) (bI (decide (tn = 2))) (iI l) (iI wd) (iI kp) (iI y) ne' kk fz (iI x) fr = kk (iI w) fr' ∧ (∀ p, inF w h (nX p) (nY p) = true → (p : Int) < 192 * (y + 1) → fr' p = bI (frV w h tn (okP w h (clF w h kp fl) l wd) p)) := by
    intro y y0 y1 kk fz
    induction fz with
    | zero =>
      intro c x fr hc
      omega
    | succ fz ih =>
      intro c x fr hc hx x0 hfr
      rw [J_X5_findFree_L16]
      cases c with
      | zero =>
        rw [if_pos ((iI_le (rg_lit (by omega) (by omega)) (rg_lit (by omega) (by omega))).mpr (by omega)), show x = w by omega]
        refine ⟨fr, rfl, fun p hp hlt => hfr p hp ?_⟩
        have h1 := inF_iff.mp hp
        unfold nX nY at h1
        omega
      | succ c =>
        rw [if_neg (fun z => by rw [iI_le (rg_lit (by omega) (by omega)) (rg_lit (by omega) (by omega))] at z; omega), kI1, iI_add, kI0]
        obtain ⟨fr1, e1, h1⟩ := g26 x y (inF_iff.mpr ⟨x0, by omega, y0, y1⟩) (fun x3_25 xfr_26 => (J_X5_findFree_L16 F (iI w) (iI h) (bI (decide (tn = 2))) (iI l) (iI wd) (iI kp) (iI y) ne' kk fz (iI (x + 1)) xfr_26)) F 8 0 fr (by omega) (by omega) (by omega) (fun p hp hlt => hfr p hp (by omega))
        rw [e1]
        exact ih c (x + 1) fr1 (by omega) (by omega) (by omega) h1
  have g6 : ∀ (fz c : Nat) (y : Int) (fr : Nat → Int32), c < fz → y + c = h → 0 ≤ y → (∀ p, inF w h (nX p) (nY p) = true → (p : Int) < 192 * y → fr p = bI (frV w h tn (okP w h (clF w h kp fl) l wd) p)) →
      ∃ fr', J_X5_findFree_L6 F (iI w) (iI h) (bI (decide (tn = 2))) (iI l) (iI wd) (iI kp) ne' (fun _ xfr => some (xfr, ne')) fz (iI y) fr = some (fr', ne') ∧ Fr w h tn (okP w h (clF w h kp fl) l wd) fr' := by
    intro fz
    induction fz with
    | zero =>
      intro c y fr hc
      omega
    | succ fz ih =>
      intro c y fr hc hy y0 hfr
      rw [J_X5_findFree_L6]
      cases c with
      | zero =>
        rw [if_pos ((iI_le (rg_lit (by omega) (by omega)) (rg_lit (by omega) (by omega))).mpr (by omega))]
        refine ⟨fr, rfl, fun p hp => hfr p hp ?_⟩
        have := inF_lt hp
        omega
      | succ c =>
        rw [if_neg (fun z => by rw [iI_le (rg_lit (by omega) (by omega)) (rg_lit (by omega) (by omega))] at z; omega), kI1, iI_add, kI0]
        obtain ⟨fr1, e1, h1⟩ := g16 y y0 (by omega) (fun x2_27 xfr_28 => (J_X5_findFree_L6 F (iI w) (iI h) (bI (decide (tn = 2))) (iI l) (iI wd) (iI kp) ne' (fun _ xfr => some (xfr, ne')) fz (iI (y + 1)) xfr_28)) F w.toNat 0 fr (by omega) (by omega) (by omega) (fun p hp hlt => hfr p hp (by omega))
        rw [e1]
        exact ih c (y + 1) fr1 (by omega) (by omega) (by omega) h1
  unfold J_X5_findFree
  rw [hne, Option.bind_some]
  obtain ⟨fr', e, hf⟩ := g6 F h.toNat 0 fr (by omega) (by omega) (by omega) (fun p hp hlt => by omega)
  exact ⟨fr', ne', e, hf, hN⟩
end MFREE
