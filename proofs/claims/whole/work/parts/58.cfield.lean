/-! the class's field: full cells, and how many of them are near -/
def sumZ : Nat → (Nat → Int) → Int
  | 0, _ => 0
  | n + 1, f => sumZ n f + f n
theorem sumZ_congr {f g : Nat → Int} : ∀ n, (∀ j, j < n → f j = g j) → sumZ n f = sumZ n g := by
  intro n
  induction n with
  | zero =>
    intro _
    rfl
  | succ n ih =>
    intro h
    rw [sumZ, sumZ, ih (fun j hj => h j (by omega)), h n (by omega)]
theorem sumZ_one {f g : Nat → Int} {k : Nat} (hfg : ∀ j, j ≠ k → f j = g j) : ∀ n, k < n → sumZ n g = sumZ n f + (g k - f k) := by
  intro n
  induction n with
  | zero =>
    intro h
    omega
  | succ n ih =>
    intro h
    rw [sumZ, sumZ]
    by_cases e : k = n
    · subst e
      rw [sumZ_congr (f := f) (g := g) k (fun j hj => hfg j (by omega))]
      omega
    · rw [ih (by omega), hfg n (fun q => e q.symm)]
      omega
theorem sumZ_b {f : Nat → Int} (hf : ∀ j, 0 ≤ f j ∧ f j ≤ 1) : ∀ n, 0 ≤ sumZ n f ∧ sumZ n f ≤ n := by
  intro n
  induction n with
  | zero => exact ⟨Int.le_refl 0, Int.le_refl 0⟩
  | succ n ih =>
    have := hf n
    rw [sumZ]
    omega
theorem sumZ_0 {f : Nat → Int} (hf : ∀ j, 0 ≤ f j ∧ f j ≤ 1) : ∀ n, sumZ n f = 0 ↔ ∀ j, j < n → f j = 0 := by
  intro n
  induction n with
  | zero => exact ⟨fun _ j hj => by omega, fun _ => rfl⟩
  | succ n ih =>
    have h1 := hf n
    have h2 := sumZ_b hf n
    rw [sumZ]
    constructor
    · intro h j hj
      by_cases e : j = n
      · rw [e]
        omega
      · exact ih.mp (by omega) j (by omega)
    · intro h
      have h3 := h n (by omega)
      have h4 := ih.mpr (fun j hj => h j (by omega))
      omega
/-- cell number j of the class, as a cell -/
def jX (j : Nat) : Int := ((j % 32 : Nat) : Int)
def jY (j : Nat) : Int := ((j / 32 : Nat) : Int)
def nrB (kp x y u v : Int) : Bool := decide (u - kp ≤ x ∧ x ≤ u + kp ∧ v - kp ≤ y ∧ y ≤ v + kp)
def tmJ (w h kp : Int) (fl : Int → Int → Bool) (x y : Int) (j : Nat) : Int := if (inF w h (jX j) (jY j) && fl (jX j) (jY j) && nrB kp x y (jX j) (jY j)) = true then 1 else 0
def nkS (w h kp : Int) (fl : Int → Int → Bool) (x y : Int) : Int := sumZ (32 * h.toNat) (tmJ w h kp fl x y)
def setF (fl : Int → Int → Bool) (x y : Int) (b : Bool) : Int → Int → Bool := fun u v => if u = x ∧ v = y then b else fl u v
theorem tmJ_b {w h kp : Int} {fl : Int → Int → Bool} {x y : Int} (j : Nat) : 0 ≤ tmJ w h kp fl x y j ∧ tmJ w h kp fl x y j ≤ 1 := by
  unfold tmJ
  split <;> omega
theorem nrB_chb {kp x y u v : Int} (k0 : 0 ≤ kp) : nrB kp x y u v = true ↔ ¬ kp < chb x y u v := by
  unfold nrB
  rw [decide_eq_true_iff, chb_lt]
  unfold ab
  split <;> split <;> omega
/-- none of them is near: the place's cell is clear -/
theorem nkS_0 {w h kp : Int} {fl : Int → Int → Bool} {x y : Int} (hw : w ≤ 24) (k0 : 0 ≤ kp) (k1 : kp ≤ 3) : nkS w h kp fl x y = 0 ↔ clF w h kp fl x y = true := by
  unfold nkS clF
  rw [sumZ_0 tmJ_b, decide_eq_true_iff, dstM_lt (by omega)]
  constructor
  · intro q x' y' hi
    have hq := inF_iff.mp (Bool.and_eq_true_iff.mp hi).1
    have h1 := q (32 * y' + x').toNat (by omega)
    have e1 : jX (32 * y' + x').toNat = x' := by unfold jX; omega
    have e2 : jY (32 * y' + x').toNat = y' := by unfold jY; omega
    unfold tmJ at h1
    rw [e1, e2, hi, Bool.true_and] at h1
    by_cases e : kp < chb x y x' y'
    · exact e
    · rw [(nrB_chb k0).mpr e, if_pos rfl] at h1
      omega
  · intro q j hj
    unfold tmJ
    refine if_neg (fun z => ?_)
    obtain ⟨z1, z2⟩ := Bool.and_eq_true_iff.mp z
    exact (nrB_chb k0).mp z2 (q _ _ z1)
/-- one cell is set otherwise -/
theorem nkS_set {w h kp : Int} {fl : Int → Int → Bool} {x y a c : Int} {b : Bool} (hw : w ≤ 24) (hi : inF w h x y = true) (hb : fl x y = !b) : nkS w h kp (setF fl x y b) a c = nkS w h kp fl a c + (if nrB kp a c x y = true then (if b = true then 1 else -1) else 0) := by
  have hq := inF_iff.mp hi
  have e1 : jX (32 * y + x).toNat = x := by unfold jX; omega
  have e2 : jY (32 * y + x).toNat = y := by unfold jY; omega
  unfold nkS
  rw [sumZ_one (f := tmJ w h kp fl a c) (g := tmJ w h kp (setF fl x y b) a c) (k := (32 * y + x).toNat) ?_ _ (by omega)]
  · congr 1
    unfold tmJ setF
    rw [e1, e2, hi, if_pos (show x = x ∧ y = y from ⟨rfl, rfl⟩), hb]
    cases b <;> cases nrB kp a c x y <;> decide
  · intro j hj
    have hne : ¬ (jX j = x ∧ jY j = y) := by
      unfold jX jY
      omega
    unfold tmJ setF
    rw [if_neg hne]
theorem setF_same {fl : Int → Int → Bool} {x y : Int} {b : Bool} (hb : fl x y = b) : setF fl x y b = fl := by
  funext u v
  unfold setF
  by_cases e : u = x ∧ v = y
  · rw [if_pos e, e.1, e.2, hb]
  · rw [if_neg e]
section CFIELD
variable {F : Nat} {w h kp : Int} {n : Nat} {fl : Int → Int → Bool} {fu fk : Nat → Int32}
/-- every near cell of the field counts one more, or one less -/
theorem ca27 (hw : w ≤ 24) (hh : h ≤ 24) (hw0 : 0 ≤ w) (hh0 : 0 ≤ h) (hn : n = (h * 32).toNat) (k0 : 0 ≤ kp) (k1 : kp ≤ 3) {x v : Int} (x0 : 0 ≤ x) (x1 : x < 24) (v0 : -10 ≤ v) (v1 : v < 50) (bv : Int32) (kk : Int32 → (Nat → Int32) → Option (Nat → Int32)) :
    ∀ (fz c : Nat) (u : Int) (fk : Nat → Int32), c < fz → u + c = x + kp + 1 → x - kp ≤ u → ∃ fk', J_X1_countAround_L27 F (iI w) (iI h) (iI kp) n (iI x) bv (iI v) kk fz (iI u) fk = kk (iI (x + kp + 1)) fk' ∧ ∀ a b, inF w h a b = true → fk' (b * 32 + a).toNat = if b = v ∧ u ≤ a ∧ a ≤ x + kp then fk (b * 32 + a).toNat + bv else fk (b * 32 + a).toNat := by
  intro fz
  induction fz with
  | zero =>
    intro c u fk hc
    omega
  | succ fz ih =>
    intro c u fk hc hu hu0
    rw [J_X1_countAround_L27, iI_add]
    cases c with
    | zero =>
      rw [if_pos ((iI_lt (rg_lit (by omega) (by omega)) (rg_lit (by omega) (by omega))).mpr (by omega)), show u = x + kp + 1 by omega]
      exact ⟨fk, rfl, fun a b _ => by rw [if_neg (by omega)]⟩
    | succ c =>
      rw [if_neg (fun q => by rw [iI_lt (rg_lit (by omega) (by omega)) (rg_lit (by omega) (by omega))] at q; omega), hasCell_eq F (rg_lit (by omega) (by omega)) (rg_lit (by omega) (by omega)) (rg_lit (by omega) (by omega)) (rg_lit (by omega) (by omega)), Option.bind_some, bI_if, iI_s]
      cases hi : inF w h u v with
      | false =>
        rw [if_neg (by decide)]
        obtain ⟨fk', e, h1⟩ := ih c (u + 1) fk (by omega) (by omega) (by omega)
        refine ⟨fk', e, fun a b hab => ?_⟩
        rw [h1 a b hab]
        have hne : ¬ (b = v ∧ a = u) := by
          intro q
          rw [q.1, q.2, hi] at hab
          cases hab
        by_cases z : b = v ∧ u + 1 ≤ a ∧ a ≤ x + kp
        · rw [if_pos z, if_pos (by omega)]
        · rw [if_neg z, if_neg (by omega)]
      | true =>
        have hq := inF_iff.mp hi
        have r1 : rg (v * 32 + u) := rg_lit (by omega) (by omega)
        rw [if_pos rfl, cellAt_eq, Option.bind_some, gd_in r1 (by omega) (by omega), gd_in r1 (by omega) (by omega), iI_clamp r1]
        obtain ⟨fk', e, h1⟩ := ih c (u + 1) (upd fk (v * 32 + u).toNat (fk (v * 32 + u).toNat + bv)) (by omega) (by omega) (by omega)
        refine ⟨fk', e, fun a b hab => ?_⟩
        have hqa := inF_iff.mp hab
        rw [h1 a b hab]
        by_cases z0 : a = u ∧ b = v
        · rw [if_neg (by omega), if_pos (by omega), z0.1, z0.2, upd_at]
        · rw [upd_ne (by omega)]
          by_cases z : b = v ∧ u + 1 ≤ a ∧ a ≤ x + kp
          · rw [if_pos z, if_pos (by omega)]
          · rw [if_neg z, if_neg (by omega)]
theorem countAround_eq (hw : w ≤ 24) (hh : h ≤ 24) (hw0 : 0 ≤ w) (hh0 : 0 ≤ h) (hF : 20 < F) (hn : n = (h * 32).toNat) (k0 : 0 ≤ kp) (k1 : kp ≤ 3) {x y : Int} (hi : inF w h x y = true) (bv : Int32) (fk : Nat → Int32) :
    ∃ fk', J_X1_countAround F (iI w) (iI h) (iI kp) n fk (iI x) (iI y) bv = some fk' ∧ ∀ a b, inF w h a b = true → fk' (b * 32 + a).toNat = if nrB kp a b x y = true then fk (b * 32 + a).toNat + bv else fk (b * 32 + a).toNat := by
  have hq := inF_iff.mp hi
  have go : ∀ (fz c : Nat) (v : Int) (fk : Nat → Int32), c < fz → v + c = y + kp + 1 → y - kp ≤ v → ∃ fk', J_X1_countAround_L8 F (iI w) (iI h) (iI kp) n (iI x) (iI y) bv (fun _ xfk => some xfk) fz (iI v) fk = some fk' ∧ ∀ a b, inF w h a b = true → fk' (b * 32 + a).toNat = if v ≤ b ∧ b ≤ y + kp ∧ x - kp ≤ a ∧ a ≤ x + kp then fk (b * 32 + a).toNat + bv else fk (b * 32 + a).toNat := by
    intro fz
    induction fz with
    | zero =>
      intro c v fk hc
      omega
    | succ fz ih =>
      intro c v fk hc hv hv0
      rw [J_X1_countAround_L8, iI_add]
      cases c with
      | zero =>
        rw [if_pos ((iI_lt (rg_lit (by omega) (by omega)) (rg_lit (by omega) (by omega))).mpr (by omega))]
        exact ⟨fk, rfl, fun a b _ => by rw [if_neg (by omega)]⟩
      | succ c =>
        rw [if_neg (fun q => by rw [iI_lt (rg_lit (by omega) (by omega)) (rg_lit (by omega) (by omega))] at q; omega), iI_sub, iI_s]
        obtain ⟨fk1, e1, h1⟩ := ca27 (F := F) hw hh hw0 hh0 hn k0 k1 (x := x) (v := v) hq.1 (by omega) (by omega) (by omega) bv (fun x5_19 xfk_20 => (J_X1_countAround_L8 F (iI w) (iI h) (iI kp) n (iI x) (iI y) bv (fun _ xfk => some xfk) fz (iI (v + 1)) xfk_20)) F (2 * kp + 1).toNat (x - kp) fk (by omega) (by omega) (by omega)
        rw [e1]
        obtain ⟨fk2, e2, h2⟩ := ih c (v + 1) fk1 (by omega) (by omega) (by omega)
        refine ⟨fk2, e2, fun a b hab => ?_⟩
        rw [h2 a b hab, h1 a b hab]
        by_cases z1 : v + 1 ≤ b ∧ b ≤ y + kp ∧ x - kp ≤ a ∧ a ≤ x + kp
        · rw [if_pos z1, if_neg (by omega), if_pos (by omega)]
        · rw [if_neg z1]
          by_cases z2 : b = v ∧ x - kp ≤ a ∧ a ≤ x + kp
          · rw [if_pos z2, if_pos (by omega)]
          · rw [if_neg z2, if_neg (by omega)]
  unfold J_X1_countAround
  rw [iI_sub]
  obtain ⟨fk', e, h1⟩ := go F (2 * kp + 1).toNat (y - kp) fk (by omega) (by omega) (by omega)
  refine ⟨fk', e, fun a b hab => ?_⟩
  rw [h1 a b hab]
  unfold nrB
  by_cases z : y - kp ≤ b ∧ b ≤ y + kp ∧ x - kp ≤ a ∧ a ≤ x + kp
  · rw [if_pos z, if_pos (decide_eq_true (by omega))]
  · rw [if_neg z, if_neg (by rw [decide_eq_true_iff]; omega)]
/-- the field's rows -/
def FdR (w h kp : Int) (fl : Int → Int → Bool) (fu fk : Nat → Int32) : Prop := (∀ x y, inF w h x y = true → fu (y * 32 + x).toNat = bI (fl x y)) ∧ (∀ x y, inF w h x y = true → fk (y * 32 + x).toNat = iI (nkS w h kp fl x y))
theorem FdR.clear (hw : w ≤ 24) (hh : h ≤ 24) (k0 : 0 ≤ kp) (k1 : kp ≤ 3) (hf : FdR w h kp fl fu fk) : ∀ x y, inF w h x y = true → (fk (y * 32 + x).toNat = (0 : Int32) ↔ clF w h kp fl x y = true) := by
  intro x y hi
  have hb := sumZ_b (tmJ_b (w := w) (h := h) (kp := kp) (fl := fl) (x := x) (y := y)) (32 * h.toNat)
  rw [hf.2 x y hi, ← nkS_0 hw k0 k1]
  unfold nkS
  exact iI_eq0 (rg_lit (by omega) (by omega))
theorem nar_b (b : Bool) : vp_nar .boolean (bI b) = bI b := by
  cases b
  · exact nar0
  · exact nar1
theorem bI_inj {a b : Bool} : (bI a = bI b) ↔ a = b := by
  cases a <;> cases b <;> decide
theorem setFull_eq (hw : w ≤ 24) (hh : h ≤ 24) (hw0 : 0 ≤ w) (hh0 : 0 ≤ h) (hF : 20 < F) (hn : n = (h * 32).toNat) (k0 : 0 ≤ kp) (k1 : kp ≤ 3) (hf : FdR w h kp fl fu fk) {x y : Int} (hi : inF w h x y = true) (b : Bool) :
    ∃ fu' fk', J_X1_setFull F (iI w) (iI h) (iI kp) n fu n fk (iI x) (iI y) (bI b) = some (bI (fl x y != b), fu', fk') ∧ FdR w h kp (setF fl x y b) fu' fk' := by
  have hq := inF_iff.mp hi
  have r1 : rg (y * 32 + x) := rg_lit (by omega) (by omega)
  unfold J_X1_setFull
  rw [hasCell_eq F (rg_lit (by omega) (by omega)) (rg_lit (by omega) (by omega)) (rg_lit (by omega) (by omega)) (rg_lit (by omega) (by omega)), Option.bind_some, bI_if, hi, if_pos rfl, cellAt_eq, Option.bind_some, gd_in r1 (by omega) (by omega), iI_clamp r1, hf.1 x y hi]
  by_cases e : fl x y = b
  · rw [if_pos (by rw [e]), e, setF_same e]
    refine ⟨fu, fk, ?_, hf⟩
    cases b <;> rfl
  · have hb : fl x y = !b := by
      cases h1 : fl x y <;> cases b <;> first | rfl | exact absurd h1 e
    rw [if_neg (fun z => e (bI_inj.mp z)), Option.bind_some, gd_in r1 (by omega) (by omega), iI_clamp r1, bI_if, nar_b]
    have hfu : ∀ u v, inF w h u v = true → upd fu (y * 32 + x).toNat (bI b) (v * 32 + u).toNat = bI (setF fl x y b u v) := by
      intro u v huv
      have hq2 := inF_iff.mp huv
      unfold setF
      by_cases z : u = x ∧ v = y
      · rw [if_pos z, z.1, z.2, upd_at]
      · rw [if_neg z, upd_ne (by omega)]
        exact hf.1 u v huv
    have hne : (fl x y != b) = true := by rw [hb]; cases b <;> rfl
    rw [hne]
    obtain ⟨fkp, ep, hp⟩ := countAround_eq (F := F) hw hh hw0 hh0 hF hn k0 k1 hi (1 : Int32) fk
    obtain ⟨fkm, em, hm⟩ := countAround_eq (F := F) hw hh hw0 hh0 hF hn k0 k1 hi (-1 : Int32) fk
    rw [ep, em, Option.bind_some, Option.bind_some]
    cases b with
    | true =>
      refine ⟨_, fkp, rfl, hfu, fun u v huv => ?_⟩
      rw [hp u v huv, nkS_set hw hi hb, hf.2 u v huv]
      by_cases z : nrB kp u v x y = true
      · rw [if_pos z, if_pos z, if_pos rfl, kI1, iI_add]
      · rw [if_neg z, if_neg z, Int.add_zero]
    | false =>
      refine ⟨_, fkm, rfl, hfu, fun u v huv => ?_⟩
      rw [hm u v huv, nkS_set hw hi hb, hf.2 u v huv]
      by_cases z : nrB kp u v x y = true
      · rw [if_pos z, if_pos z, if_neg (by decide), kIm1, iI_add]
      · rw [if_neg z, if_neg z, Int.add_zero]
theorem setKeep_eq (hw : w ≤ 24) (hh : h ≤ 24) (hw0 : 0 ≤ w) (hh0 : 0 ≤ h) (hF : 7000 < F) (hn : n = (h * 32).toNat) (k0 : 0 ≤ kp) (k1 : kp ≤ 3) (hfu : ∀ x y, inF w h x y = true → fu (y * 32 + x).toNat = bI (fl x y)) (fk : Nat → Int32) :
    ∃ fk', J_X1_setKeep F (iI w) (iI h) n fu n fk (iI kp) = some (iI kp, fk') ∧ FdR w h kp fl fu fk' := by
  obtain ⟨fk0, e0, h0⟩ := fillI (F := F) (nAr := n) (by omega) (by omega) (0 : Int32) fk
  have g25 : ∀ (y : Int), 0 ≤ y → y < h → ∀ (kk : Int32 → (Nat → Int32) → Option (Int32 × (Nat → Int32))) (fz c : Nat) (x : Int) (fk : Nat → Int32), c < fz → x + c = w → 0 ≤ x → (∀ a b, inF w h a b = true → fk (b * 32 + a).toNat = iI (sumZ (32 * y + x).toNat (tmJ w h kp fl a b))) →
      ∃ fk', J_X1_setKeep_L25 F (iI w) (iI h) n fu n (iI y) (iI kp) kk fz (iI x) fk = kk (iI w) fk' ∧ (∀ a b, inF w h a b = true → fk' (b * 32 + a).toNat = iI (sumZ (32 * y + w).toNat (tmJ w h kp fl a b))) := by
    intro y y0 y1 kk fz
    induction fz with
    | zero =>
      intro c x fk hc
      omega
    | succ fz ih =>
      intro c x fk hc hx x0 hfk
      rw [J_X1_setKeep_L25]
      cases c with
      | zero =>
        rw [if_pos ((iI_le (rg_lit (by omega) (by omega)) (rg_lit (by omega) (by omega))).mpr (by omega))]
        have hxw : x = w := by omega
        subst hxw
        exact ⟨fk, rfl, hfk⟩
      | succ c =>
        have hi : inF w h x y = true := inF_iff.mpr ⟨x0, by omega, y0, y1⟩
        have e1 : jX (32 * y + x).toNat = x := by unfold jX; omega
        have e2 : jY (32 * y + x).toNat = y := by unfold jY; omega
        have hstep : ∀ a b, sumZ (32 * y + (x + 1)).toNat (tmJ w h kp fl a b) = sumZ (32 * y + x).toNat (tmJ w h kp fl a b) + (if (fl x y && nrB kp a b x y) = true then 1 else 0) := by
          intro a b
          rw [show (32 * y + (x + 1)).toNat = (32 * y + x).toNat + 1 by omega, sumZ]
          congr 1
          unfold tmJ
          rw [e1, e2, hi, Bool.true_and]
        rw [if_neg (fun z => by rw [iI_le (rg_lit (by omega) (by omega)) (rg_lit (by omega) (by omega))] at z; omega), isFull_eq F (by omega) (by omega) hn hw0 hh0 (rg_lit (by omega) (by omega)) (rg_lit (by omega) (by omega)) hfu, Option.bind_some, bI_if, hi, Bool.true_and, iI_s]
        cases hf : fl x y with
        | false =>
          rw [if_neg (by decide)]
          refine ih c (x + 1) fk (by omega) (by omega) (by omega) (fun a b hab => ?_)
          rw [hfk a b hab, hstep, hf, Bool.false_and, if_neg (by decide), Int.add_zero]
        | true =>
          rw [if_pos rfl]
          obtain ⟨fk1, ec, hc1⟩ := countAround_eq (F := F) hw hh hw0 hh0 (by omega) hn k0 k1 hi (1 : Int32) fk
          rw [ec, Option.bind_some]
          refine ih c (x + 1) fk1 (by omega) (by omega) (by omega) (fun a b hab => ?_)
          rw [hc1 a b hab, hfk a b hab, hstep, hf, Bool.true_and]
          by_cases z : nrB kp a b x y = true
          · rw [if_pos z, if_pos z, kI1, iI_add]
          · rw [if_neg z, if_neg z, Int.add_zero]
  have hrow : ∀ a b y, 0 ≤ y → sumZ (32 * y + w).toNat (tmJ w h kp fl a b) = sumZ (32 * (y + 1)).toNat (tmJ w h kp fl a b) := by
    intro a b y y0
    have go : ∀ m : Nat, w + m ≤ 32 → sumZ (32 * y + w).toNat (tmJ w h kp fl a b) = sumZ (32 * y + w + m).toNat (tmJ w h kp fl a b) := by
      intro m
      induction m with
      | zero =>
        intro _
        rw [show 32 * y + w + ((0 : Nat) : Int) = 32 * y + w by omega]
      | succ m ih =>
        intro hm
        rw [show (32 * y + w + ((m + 1 : Nat) : Int)).toNat = (32 * y + w + (m : Int)).toNat + 1 by omega, sumZ, ← ih (by omega)]
        have e1 : jX (32 * y + w + (m : Int)).toNat = w + m := by unfold jX; omega
        have : tmJ w h kp fl a b (32 * y + w + (m : Int)).toNat = 0 := by
          unfold tmJ
          refine if_neg (fun z => ?_)
          have z1 := inF_iff.mp (Bool.and_eq_true_iff.mp (Bool.and_eq_true_iff.mp z).1).1
          rw [e1] at z1
          omega
        omega
    rw [go (32 - w).toNat (by omega), show 32 * y + w + (((32 - w).toNat : Nat) : Int) = 32 * (y + 1) by omega]
  have g15 : ∀ (fz c : Nat) (y : Int) (fk : Nat → Int32), c < fz → y + c = h → 0 ≤ y → (∀ a b, inF w h a b = true → fk (b * 32 + a).toNat = iI (sumZ (32 * y).toNat (tmJ w h kp fl a b))) →
      ∃ fk', J_X1_setKeep_L15 F (iI w) (iI h) n fu n (iI kp) (fun _ xfk => some (iI kp, xfk)) fz (iI y) fk = some (iI kp, fk') ∧ FdR w h kp fl fu fk' := by
    intro fz
    induction fz with
    | zero =>
      intro c y fk hc
      omega
    | succ fz ih =>
      intro c y fk hc hy y0 hfk
      rw [J_X1_setKeep_L15]
      cases c with
      | zero =>
        rw [if_pos ((iI_le (rg_lit (by omega) (by omega)) (rg_lit (by omega) (by omega))).mpr (by omega))]
        refine ⟨fk, rfl, hfu, fun a b hab => ?_⟩
        rw [hfk a b hab]
        unfold nkS
        congr 2
        omega
      | succ c =>
        rw [if_neg (fun z => by rw [iI_le (rg_lit (by omega) (by omega)) (rg_lit (by omega) (by omega))] at z; omega), kI0, iI_s]
        obtain ⟨fk1, e1, h1⟩ := g25 y y0 (by omega) (fun x3_14 xfk_15 => (J_X1_setKeep_L15 F (iI w) (iI h) n fu n (iI kp) (fun _ xfk => some (iI kp, xfk)) fz (iI (y + 1)) xfk_15)) F w.toNat 0 fk (by omega) (by omega) (by omega) (fun a b hab => by rw [hfk a b hab, Int.add_zero])
        rw [e1]
        exact ih c (y + 1) fk1 (by omega) (by omega) (by omega) (fun a b hab => by rw [h1 a b hab, hrow a b y y0])
  unfold J_X1_setKeep
  rw [e0, Option.bind_some, kI0]
  refine g15 F h.toNat 0 fk0 (by omega) (by omega) (by omega) (fun a b hab => ?_)
  have hq := inF_iff.mp hab
  rw [h0 _ (by omega)]
  rfl
end CFIELD
