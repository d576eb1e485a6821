/-! the model's small pictures -/
theorem kI8 : (8 : Int32) = iI 8 := rfl
theorem kI24 : (24 : Int32) = iI 24 := rfl
theorem iI_dv {a : Int} (h0 : 0 ≤ a) (h1 : a < 2147483648) {k : Int} (k0 : 0 < k) (k1 : k < 2147483648) : iI a / iI k = iI (a / k) := by
  rw [iI_div (rg_lit (by omega) (by omega)) (rg_lit (by omega) (by omega)), Int.tdiv_eq_ediv_of_nonneg h0]
def foldI : Nat → (Int → Int → Int) → Int → Int → Int
  | 0, _, _, a => a
  | n + 1, f, i, a => foldI n f (i + 1) (f i a)
theorem foldI_b {f : Int → Int → Int} (hf : ∀ i a, 0 ≤ a → a ≤ 9 → 0 ≤ f i a ∧ f i a ≤ 9) : ∀ (n : Nat) (i a : Int), 0 ≤ a → a ≤ 9 → 0 ≤ foldI n f i a ∧ foldI n f i a ≤ 9 := by
  intro n
  induction n with
  | zero =>
    intro i a h0 h1
    exact ⟨h0, h1⟩
  | succ n ih =>
    intro i a h0 h1
    have := hf i a h0 h1
    exact ih (i + 1) (f i a) this.1 this.2
theorem foldI_lt {f : Int → Int → Int} {k : Int} {p : Int → Prop} (hf : ∀ i a, k < f i a ↔ (k < a ∧ p i)) : ∀ (n : Nat) (i a : Int), k < foldI n f i a ↔ (k < a ∧ ∀ j, i ≤ j → j < i + n → p j) := by
  intro n
  induction n with
  | zero =>
    intro i a
    exact ⟨fun h => ⟨h, fun j h1 h2 => by omega⟩, fun h => h.1⟩
  | succ n ih =>
    intro i a
    rw [foldI, ih, hf]
    refine ⟨fun ⟨⟨h1, h2⟩, h3⟩ => ⟨h1, fun j j1 j2 => ?_⟩, fun ⟨h1, h2⟩ => ⟨⟨h1, h2 i (by omega) (by omega)⟩, fun j j1 j2 => h2 j (by omega) (by omega)⟩⟩
    by_cases e : j = i
    · rw [e]
      exact h2
    · exact h3 j (by omega) (by omega)
/-- how far apart two cells are -/
def ab (a : Int) : Int := if 0 ≤ a then a else -a
def chb (x y x' y' : Int) : Int := if ab (x' - x) ≤ ab (y' - y) then ab (y' - y) else ab (x' - x)
theorem ab_0 (a : Int) : 0 ≤ ab a := by
  unfold ab
  split <;> omega
theorem chb_0 (x y x' y' : Int) : 0 ≤ chb x y x' y' := by
  unfold chb
  have h1 := ab_0 (x' - x)
  have h2 := ab_0 (y' - y)
  split <;> omega
theorem chb_lt {x y x' y' k : Int} : k < chb x y x' y' ↔ (k < ab (x' - x) ∨ k < ab (y' - y)) := by
  unfold chb
  split <;> omega
/-- one cell's part in a least distance -/
def dst1 (w h : Int) (fl : Int → Int → Bool) (x y y' x' a : Int) : Int := if (inF w h x' y' && fl x' y') = true then (if a ≤ chb x y x' y' then a else chb x y x' y') else a
def dstM (w h : Int) (fl : Int → Int → Bool) (x y : Int) : Int := foldI 17 (fun y' a => foldI 17 (dst1 w h fl x y y') (x - 8) a) (y - 8) 9
section DST
variable {w h : Int} {fl : Int → Int → Bool}
theorem dst1_b {x y y' x' a : Int} (h0 : 0 ≤ a) (h1 : a ≤ 9) : 0 ≤ dst1 w h fl x y y' x' a ∧ dst1 w h fl x y y' x' a ≤ 9 := by
  have := chb_0 x y x' y'
  unfold dst1
  split
  · split <;> omega
  · omega
theorem dst1_lt {x y y' x' a k : Int} : k < dst1 w h fl x y y' x' a ↔ (k < a ∧ ((inF w h x' y' && fl x' y') = true → k < chb x y x' y')) := by
  unfold dst1
  by_cases e : (inF w h x' y' && fl x' y') = true
  · rw [if_pos e]
    constructor
    · intro q
      split at q
      · exact ⟨q, fun _ => by omega⟩
      · exact ⟨by omega, fun _ => q⟩
    · intro q
      have := q.2 e
      split
      · exact q.1
      · exact this
  · rw [if_neg e]
    exact ⟨fun q => ⟨q, fun z => absurd z e⟩, fun q => q.1⟩
theorem dstM_b (x y : Int) : 0 ≤ dstM w h fl x y ∧ dstM w h fl x y ≤ 9 := foldI_b (fun i a h0 h1 => foldI_b (fun _ _ h0 h1 => dst1_b h0 h1) 17 _ _ h0 h1) 17 _ _ (by omega) (by omega)
theorem dstM_lt {x y k : Int} (k1 : k ≤ 8) : k < dstM w h fl x y ↔ ∀ x' y', (inF w h x' y' && fl x' y') = true → k < chb x y x' y' := by
  unfold dstM
  rw [foldI_lt (k := k) (p := fun y' => ∀ x', x - 8 ≤ x' → x' < x - 8 + (17 : Nat) → (inF w h x' y' && fl x' y') = true → k < chb x y x' y') (fun y' a => foldI_lt (fun x' a => dst1_lt) 17 _ _)]
  constructor
  · intro q x' y' hi
    rw [chb_lt]
    by_cases e1 : x - 8 ≤ x' ∧ x' < x - 8 + (17 : Nat)
    · by_cases e2 : y - 8 ≤ y' ∧ y' < y - 8 + (17 : Nat)
      · have := q.2 y' e2.1 e2.2 x' e1.1 e1.2 hi
        rw [chb_lt] at this
        exact this
      · right
        unfold ab
        split <;> omega
    · left
      unfold ab
      split <;> omega
  · intro q
    exact ⟨by omega, fun y' _ _ x' _ _ hi => q x' y' hi⟩
end DST
section MBASE
variable {F : Nat} {w h : Int} {fl : Int → Int → Bool} {mf : Nat → Int32}
theorem isCell_eq {x y : Int} (hw : rg w) (hh : rg h) (hx : rg x) (hy : rg y) : J_X5_isCell F (iI w) (iI h) (iI x) (iI y) = some (bI (inF w h x y)) := hasCell_eq F hw hh hx hy
theorem dx_eq {d : Int} (h0 : 0 ≤ d) (h1 : d < 8) : J_X5_dx F (iI d) = some (iI (dX d)) := by
  rcases h8 h0 h1 with rfl | rfl | rfl | rfl | rfl | rfl | rfl | rfl <;> rfl
theorem dy_eq {d : Int} (h0 : 0 ≤ d) (h1 : d < 8) : J_X5_dy F (iI d) = some (iI (dY d)) := by
  rcases h8 h0 h1 with rfl | rfl | rfl | rfl | rfl | rfl | rfl | rfl <;> rfl
theorem place_eq (x y d : Int) : J_X5_place F (iI x) (iI y) (iI d) = some (iI (8 * (24 * y + x) + d)) := by
  unfold J_X5_place
  rw [kI8, kI24, iI_mul, iI_add, iI_mul, iI_add]
theorem mx_eq {p : Nat} (hp : p < 4608) : J_X5_xOf F (iI p) = some (iI (nX p)) := by
  unfold J_X5_xOf
  rw [kI8, kI24, iI_dv (by omega) (by omega) (by omega) (by omega), iI_dv (by omega) (by omega) (by omega) (by omega), iI_mul, iI_sub]
  unfold nX
  congr 2
  omega
theorem my_eq {p : Nat} (hp : p < 4608) : J_X5_yOf F (iI p) = some (iI (nY p)) := by
  unfold J_X5_yOf
  rw [show (192 : Int32) = iI 192 from rfl, iI_dv (by omega) (by omega) (by omega) (by omega)]
  unfold nY
  congr 2
theorem md_eq {p : Nat} (hp : p < 4608) : iI p - iI p / (8 : Int32) * (8 : Int32) = iI (nD p) := by
  rw [kI8, iI_dv (by omega) (by omega) (by omega) (by omega), iI_mul, iI_sub]
  unfold nD
  congr 1
  omega
/-- the model's cells -/
def Mf (w h : Int) (fl : Int → Int → Bool) (mf : Nat → Int32) : Prop := ∀ x y, inF w h x y = true → mf (24 * y + x).toNat = bI (fl x y)
theorem dist24 (hw : w ≤ 24) (hh : h ≤ 24) (hw0 : 0 ≤ w) (hh0 : 0 ≤ h) (hm : Mf w h fl mf) {x y y' : Int} (x0 : 0 ≤ x) (x1 : x < 24) (y0 : 0 ≤ y) (y1 : y < 24) (y0' : -20 ≤ y') (y1' : y' < 50) (kk : Int32 → Int32 → Option Int32) :
    ∀ (fz c : Nat) (x' a : Int), c < fz → x' + c = x + 9 → -20 ≤ x' → 0 ≤ a → a ≤ 9 → J_X5_distance_L24 F (iI w) (iI h) mf (iI x) (iI y) (iI y') kk fz (iI a) (iI x') = kk (iI (foldI c (dst1 w h fl x y y') x' a)) (iI (x + 9)) := by
  intro fz
  induction fz with
  | zero =>
    intro c x' a hc
    omega
  | succ fz ih =>
    intro c x' a hc hx hx0 ha0 ha1
    rw [J_X5_distance_L24, kI8, iI_add]
    cases c with
    | zero =>
      rw [if_pos ((iI_lt (rg_lit (by omega) (by omega)) (rg_lit (by omega) (by omega))).mpr (by omega)), foldI, show x' = x + 9 by omega]
    | succ c =>
      have hb := dst1_b (w := w) (h := h) (fl := fl) (x := x) (y := y) (y' := y') (x' := x') ha0 ha1
      have hih := ih c (x' + 1) (dst1 w h fl x y y' x' a) (by omega) (by omega) (by omega) hb.1 hb.2
      rw [foldI, ← hih, if_neg (fun z => by rw [iI_lt (rg_lit (by omega) (by omega)) (rg_lit (by omega) (by omega))] at z; omega), isCell_eq (rg_lit (by omega) (by omega)) (rg_lit (by omega) (by omega)) (rg_lit (by omega) (by omega)) (rg_lit (by omega) (by omega)), Option.bind_some, bI_if, kI1, iI_add]
      unfold dst1
      cases hi : inF w h x' y' with
      | false => rfl
      | true =>
        have hq := inF_iff.mp hi
        rw [if_pos rfl, kI24, iI_mul, iI_add, gd_in (rg_lit (by omega) (by omega)) (by omega) (by omega), iI_clamp (rg_lit (by omega) (by omega)), hm x' y' hi, bI_if, iI_sub, iI_sub, iI_sub, iI_sub]
        cases hf : fl x' y' with
        | false => rfl
        | true =>
          rw [if_pos rfl, Bool.and_self, if_pos rfl]
          generalize J_X5_distance_L24 F (iI w) (iI h) mf (iI x) (iI y) (iI y') kk fz = R
          have e1 : (iI x ≤ iI x') ↔ x ≤ x' := iI_le (rg_lit (by omega) (by omega)) (rg_lit (by omega) (by omega))
          have e2 : (iI y ≤ iI y') ↔ y ≤ y' := iI_le (rg_lit (by omega) (by omega)) (rg_lit (by omega) (by omega))
          have e3 : (iI (x' - x) ≤ iI (y' - y)) ↔ x' - x ≤ y' - y := iI_le (rg_lit (by omega) (by omega)) (rg_lit (by omega) (by omega))
          have e4 : (iI (x' - x) ≤ iI (y - y')) ↔ x' - x ≤ y - y' := iI_le (rg_lit (by omega) (by omega)) (rg_lit (by omega) (by omega))
          have e5 : (iI (x - x') ≤ iI (y' - y)) ↔ x - x' ≤ y' - y := iI_le (rg_lit (by omega) (by omega)) (rg_lit (by omega) (by omega))
          have e6 : (iI (x - x') ≤ iI (y - y')) ↔ x - x' ≤ y - y' := iI_le (rg_lit (by omega) (by omega)) (rg_lit (by omega) (by omega))
          have e7 : (iI a ≤ iI (y' - y)) ↔ a ≤ y' - y := iI_le (rg_lit (by omega) (by omega)) (rg_lit (by omega) (by omega))
          have e8 : (iI a ≤ iI (y - y')) ↔ a ≤ y - y' := iI_le (rg_lit (by omega) (by omega)) (rg_lit (by omega) (by omega))
          have e9 : (iI a ≤ iI (x' - x)) ↔ a ≤ x' - x := iI_le (rg_lit (by omega) (by omega)) (rg_lit (by omega) (by omega))
          have e10 : (iI a ≤ iI (x - x')) ↔ a ≤ x - x' := iI_le (rg_lit (by omega) (by omega)) (rg_lit (by omega) (by omega))
          simp only [e1, e2, e3, e4, e5, e6, e7, e8, e9, e10]
          have hch : chb x y x' y' = if (if x ≤ x' then x' - x else x - x') ≤ (if y ≤ y' then y' - y else y - y') then (if y ≤ y' then y' - y else y - y') else (if x ≤ x' then x' - x else x - x') := by
            have g : ∀ u v : Int, ab (v - u) = if u ≤ v then v - u else u - v := by
              intro u v
              unfold ab
              split <;> split <;> omega
            unfold chb
            rw [g, g]
          rw [hch]
          by_cases z1 : x ≤ x' <;> by_cases z2 : y ≤ y' <;> simp only [z1, z2, if_true, if_false]
          all_goals split <;> split <;> rfl
theorem dist9 (hw : w ≤ 24) (hh : h ≤ 24) (hw0 : 0 ≤ w) (hh0 : 0 ≤ h) (hF : 20 < F) (hm : Mf w h fl mf) {x y : Int} (x0 : 0 ≤ x) (x1 : x < 24) (y0 : 0 ≤ y) (y1 : y < 24) (kk : Int32 → Int32 → Option Int32) :
    ∀ (fz c : Nat) (y' a : Int), c < fz → y' + c = y + 9 → -20 ≤ y' → 0 ≤ a → a ≤ 9 → J_X5_distance_L9 F (iI w) (iI h) mf (iI x) (iI y) kk fz (iI a) (iI y') = kk (iI (foldI c (fun y' a => foldI 17 (dst1 w h fl x y y') (x - 8) a) y' a)) (iI (y + 9)) := by
  intro fz
  induction fz with
  | zero =>
    intro c y' a hc
    omega
  | succ fz ih =>
    intro c y' a hc hx hx0 ha0 ha1
    rw [J_X5_distance_L9, kI8, iI_add]
    cases c with
    | zero =>
      rw [if_pos ((iI_lt (rg_lit (by omega) (by omega)) (rg_lit (by omega) (by omega))).mpr (by omega)), foldI, show y' = y + 9 by omega]
    | succ c =>
      have hb := foldI_b (f := dst1 w h fl x y y') (fun _ _ h0 h1 => dst1_b h0 h1) 17 (x - 8) a ha0 ha1
      rw [foldI, if_neg (fun z => by rw [iI_lt (rg_lit (by omega) (by omega)) (rg_lit (by omega) (by omega))] at z; omega), iI_sub, dist24 hw hh hw0 hh0 hm x0 x1 y0 y1 (by omega) (by omega) _ F 17 (x - 8) a (by omega) (by omega) (by omega) ha0 ha1, kI1, iI_add]
      exact ih c (y' + 1) _ (by omega) (by omega) (by omega) hb.1 hb.2
theorem distance_eq (hw : w ≤ 24) (hh : h ≤ 24) (hw0 : 0 ≤ w) (hh0 : 0 ≤ h) (hF : 20 < F) (hm : Mf w h fl mf) {x y : Int} (x0 : 0 ≤ x) (x1 : x < 24) (y0 : 0 ≤ y) (y1 : y < 24) : J_X5_distance F (iI w) (iI h) mf (iI x) (iI y) = some (iI (dstM w h fl x y)) := by
  unfold J_X5_distance
  rw [kI8, iI_sub, kI9, dist9 hw hh hw0 hh0 hF hm x0 x1 y0 y1 _ F 17 (y - 8) 9 (by omega) (by omega) (by omega) (by omega) (by omega)]
  rfl
/-- the row of distances -/
def Ne (w h : Int) (fl : Int → Int → Bool) (ne : Nat → Int32) : Prop := ∀ x y, inF w h x y = true → ne (24 * y + x).toNat = iI (dstM w h fl x y)
theorem findNear_eq (hw : w ≤ 24) (hh : h ≤ 24) (hw0 : 0 ≤ w) (hh0 : 0 ≤ h) (hF : 7000 < F) (hm : Mf w h fl mf) (ne : Nat → Int32) : ∃ ne', J_X5_findNear F (iI w) (iI h) mf ne = some ne' ∧ Ne w h fl ne' := by
  have g12 : ∀ (y : Int), 0 ≤ y → y < h → ∀ (kk : Int32 → (Nat → Int32) → Option (Nat → Int32)) (fz c : Nat) (x : Int) (ne : Nat → Int32), c < fz → x + c = w → 0 ≤ x → (∀ x' y', inF w h x' y' = true → (y' < y ∨ (y' = y ∧ x' < x)) → ne (24 * y' + x').toNat = iI (dstM w h fl x' y')) →
      ∃ ne', J_X5_findNear_L12 F (iI w) (iI h) mf (iI y) kk fz (iI x) ne = kk (iI w) ne' ∧ (∀ x' y', inF w h x' y' = true → y' < y + 1 → ne' (24 * y' + x').toNat = iI (dstM w h fl x' y')) := by
    intro y y0 y1 kk fz
    induction fz with
    | zero =>
      intro c x ne hc
      omega
    | succ fz ih =>
      intro c x ne hc hx x0 hne
      rw [J_X5_findNear_L12]
      cases c with
      | zero =>
        rw [if_pos ((iI_le (rg_lit (by omega) (by omega)) (rg_lit (by omega) (by omega))).mpr (by omega)), show x = w by omega]
        refine ⟨ne, rfl, fun x' y' hi hy => hne x' y' hi ?_⟩
        have := inF_iff.mp hi
        omega
      | succ c =>
        rw [if_neg (fun z => by rw [iI_le (rg_lit (by omega) (by omega)) (rg_lit (by omega) (by omega))] at z; omega), distance_eq hw hh hw0 hh0 (by omega) hm x0 (by omega) y0 (by omega), Option.bind_some, kI24, iI_mul, iI_add, gd_in (rg_lit (by omega) (by omega)) (by omega) (by omega), iI_clamp (rg_lit (by omega) (by omega)), kI1, iI_add]
        refine ih c (x + 1) _ (by omega) (by omega) (by omega) ?_
        intro x' y' hi hlt
        have hq := inF_iff.mp hi
        by_cases e : x' = x ∧ y' = y
        · rw [e.1, e.2, upd_at]
        · rw [upd_ne (by omega)]
          exact hne x' y' hi (by omega)
  have g2 : ∀ (fz c : Nat) (y : Int) (ne : Nat → Int32), c < fz → y + c = h → 0 ≤ y → (∀ x' y', inF w h x' y' = true → y' < y → ne (24 * y' + x').toNat = iI (dstM w h fl x' y')) →
      ∃ ne', J_X5_findNear_L2 F (iI w) (iI h) mf (fun _ xne => some xne) fz (iI y) ne = some ne' ∧ Ne w h fl ne' := by
    intro fz
    induction fz with
    | zero =>
      intro c y ne hc
      omega
    | succ fz ih =>
      intro c y ne hc hy y0 hne
      rw [J_X5_findNear_L2]
      cases c with
      | zero =>
        rw [if_pos ((iI_le (rg_lit (by omega) (by omega)) (rg_lit (by omega) (by omega))).mpr (by omega))]
        refine ⟨ne, rfl, fun x' y' hi => hne x' y' hi ?_⟩
        have := inF_iff.mp hi
        omega
      | succ c =>
        rw [if_neg (fun z => by rw [iI_le (rg_lit (by omega) (by omega)) (rg_lit (by omega) (by omega))] at z; omega), kI1, iI_add, kI0]
        obtain ⟨ne1, e1, h1⟩ := g12 y y0 (by omega) (fun x2_10 xne_11 => (J_X5_findNear_L2 F (iI w) (iI h) mf (fun _ xne => some xne) fz (iI (y + 1)) xne_11)) F w.toNat 0 ne (by omega) (by omega) (by omega) (fun x' y' hi hlt => hne x' y' hi (by have := inF_iff.mp hi; omega))
        rw [e1]
        exact ih c (y + 1) ne1 (by omega) (by omega) (by omega) h1
  unfold J_X5_findNear
  exact g2 F h.toNat 0 ne (by omega) (by omega) (by omega) (fun x' y' hi hlt => by have := inF_iff.mp hi; omega)
end MBASE
