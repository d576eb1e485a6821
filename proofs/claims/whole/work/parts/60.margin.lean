/-! the margin: how far the covered cells are from the nearest full one -/
section MARGIN
variable {F : Nat} {w h l wd kp : Int} {n : Nat} {fl : Int → Int → Bool} {fu mf : Nat → Int32}
/-- a least distance: what it is below -/
def LDm (w h : Int) (fl : Int → Int → Bool) (x y m a : Int) : Prop := 0 ≤ a ∧ a ≤ m ∧ ∀ k, k < a ↔ (k < m ∧ ∀ x' y', (inF w h x' y' && fl x' y') = true → k < chb x y x' y')
theorem absI_eq {a : Int} (ha : rg a) (ha2 : rg (-a)) : (if (0 : Int32) ≤ iI a then iI a else (0 : Int32) - iI a) = iI (ab a) := by
  unfold ab
  by_cases e : 0 ≤ a
  · rw [if_pos ((iI_ge0 ha).mpr e), if_pos e]
  · rw [if_neg (fun z => e ((iI_ge0 ha).mp z)), if_neg e, kI0, iI_sub, Int.zero_sub]
theorem maxI_eq {a b : Int} (ha : rg a) (hb : rg b) : (if iI a < iI b then iI b else iI a) = iI (if a ≤ b then b else a) := by
  by_cases e : a < b
  · rw [if_pos ((iI_lt ha hb).mpr e), if_pos (by omega)]
  · rw [if_neg (fun z => e ((iI_lt ha hb).mp z))]
    by_cases e2 : a ≤ b
    · rw [if_pos e2, show a = b by omega]
    · rw [if_neg e2]
theorem minI_eq {a b : Int} (ha : rg a) (hb : rg b) : (if iI a < iI b then iI a else iI b) = iI (if b ≤ a then b else a) := by
  by_cases e : a < b
  · rw [if_pos ((iI_lt ha hb).mpr e), if_neg (by omega)]
  · rw [if_neg (fun z => e ((iI_lt ha hb).mp z)), if_pos (by omega)]
theorem dcf21 (hw : w ≤ 24) (hh : h ≤ 24) (hw0 : 0 ≤ w) (hh0 : 0 ≤ h) (hn : n = (h * 32).toNat) (hfu : ∀ x y, inF w h x y = true → fu (y * 32 + x).toNat = bI (fl x y)) {x y y' m : Int} (x0 : 0 ≤ x) (x1 : x < 24) (y0 : 0 ≤ y) (y1 : y < 24) (y0' : -20 ≤ y') (y1' : y' < 50) (m0 : 0 ≤ m) (m9 : m ≤ 9) (kk : Int32 → Int32 → Option Int32) :
    ∀ (fz c : Nat) (x' a : Int), c < fz → x' + c = x + m + 1 → x - m ≤ x' → 0 ≤ a → a ≤ 9 → J_X1_distanceToFull_L21 F (iI w) (iI h) n fu (iI x) (iI y) (iI m) (iI y') kk fz (iI a) (iI x') = kk (iI (foldI c (dst1 w h fl x y y') x' a)) (iI (x + m + 1)) := by
  intro fz
  induction fz with
  | zero =>
    intro c x' a hc
    omega
  | succ fz ih =>
    intro c x' a hc hx hx0 ha0 ha1
    rw [J_X1_distanceToFull_L21, iI_add]
    cases c with
    | zero =>
      rw [if_pos ((iI_lt (rg_lit (by omega) (by omega)) (rg_lit (by omega) (by omega))).mpr (by omega)), foldI, show x' = x + m + 1 by omega]
    | succ c =>
      have hb := dst1_b (w := w) (h := h) (fl := fl) (x := x) (y := y) (y' := y') (x' := x') ha0 ha1
      rw [if_neg (fun z => by rw [iI_lt (rg_lit (by omega) (by omega)) (rg_lit (by omega) (by omega))] at z; omega), isFull_eq F (by omega) (by omega) hn hw0 hh0 (rg_lit (by omega) (by omega)) (rg_lit (by omega) (by omega)) hfu, Option.bind_some, bI_if, iI_s, foldI]
      have hih := ih c (x' + 1) (dst1 w h fl x y y' x' a) (by omega) (by omega) (by omega) hb.1 hb.2
      rw [← hih]
      unfold dst1
      by_cases e : (inF w h x' y' && fl x' y') = true
      · rw [if_pos e, if_pos e, iI_sub, iI_sub, Option.bind_some, Option.bind_some, Option.bind_some, Option.bind_some]
        have hab : ∀ u : Int, -100 ≤ u → u ≤ 100 → 0 ≤ ab u ∧ ab u ≤ 100 := by
          intro u u0 u1
          unfold ab
          split <;> omega
        have h1 := hab (x' - x) (by omega) (by omega)
        have h2 := hab (y' - y) (by omega) (by omega)
        rw [absI_eq (rg_lit (by omega) (by omega)) (rg_lit (by omega) (by omega)), absI_eq (rg_lit (by omega) (by omega)) (rg_lit (by omega) (by omega)), maxI_eq (rg_lit (by omega) (by omega)) (rg_lit (by omega) (by omega))]
        have hch : (if ab (x' - x) ≤ ab (y' - y) then ab (y' - y) else ab (x' - x)) = chb x y x' y' := rfl
        have hch2 : 0 ≤ chb x y x' y' ∧ chb x y x' y' ≤ 100 := by
          rw [← hch]
          split <;> omega
        rw [hch, minI_eq (rg_lit (by omega) (by omega)) (rg_lit (by omega) (by omega))]
      · rw [if_neg e, if_neg e]
theorem LDm_fold {x y m : Int} (m0 : 0 ≤ m) (m9 : m ≤ 9) : LDm w h fl x y m (foldI (2 * m + 1).toNat (fun y' a => foldI (2 * m + 1).toNat (dst1 w h fl x y y') (x - m) a) (y - m) m) := by
  have hb : ∀ i a : Int, 0 ≤ a → a ≤ 9 → 0 ≤ foldI (2 * m + 1).toNat (dst1 w h fl x y i) (x - m) a ∧ foldI (2 * m + 1).toNat (dst1 w h fl x y i) (x - m) a ≤ 9 := fun i a h0 h1 => foldI_b (fun _ _ h0 h1 => dst1_b h0 h1) _ _ _ h0 h1
  have hk : ∀ k, k < foldI (2 * m + 1).toNat (fun y' a => foldI (2 * m + 1).toNat (dst1 w h fl x y y') (x - m) a) (y - m) m ↔ (k < m ∧ ∀ x' y', (inF w h x' y' && fl x' y') = true → k < chb x y x' y') := by
    intro k
    rw [foldI_lt (k := k) (p := fun y' => ∀ x', x - m ≤ x' → x' < x - m + ((2 * m + 1).toNat : Nat) → (inF w h x' y' && fl x' y') = true → k < chb x y x' y') (fun y' a => foldI_lt (fun x' a => dst1_lt) _ _ _)]
    constructor
    · intro q
      refine ⟨q.1, fun x' y' hi => ?_⟩
      have qk := q.1
      rw [chb_lt]
      by_cases e1 : x - m ≤ x' ∧ x' < x - m + ((2 * m + 1).toNat : Nat)
      · by_cases e2 : y - m ≤ y' ∧ y' < y - m + ((2 * m + 1).toNat : Nat)
        · have := q.2 y' e2.1 e2.2 x' e1.1 e1.2 hi
          rw [chb_lt] at this
          exact this
        · right
          unfold ab
          split <;> omega
      · left
        unfold ab
        split <;> omega
    · intro q
      exact ⟨q.1, fun y' _ _ x' _ _ hi => q.2 x' y' hi⟩
  have h0 := foldI_b hb (2 * m + 1).toNat (y - m) m m0 m9
  refine ⟨h0.1, ?_, hk⟩
  rcases Int.lt_or_le m (foldI (2 * m + 1).toNat (fun y' a => foldI (2 * m + 1).toNat (dst1 w h fl x y y') (x - m) a) (y - m) m) with q | q
  · have := ((hk m).mp q).1
    omega
  · exact q
theorem distF_eq (hw : w ≤ 24) (hh : h ≤ 24) (hw0 : 0 ≤ w) (hh0 : 0 ≤ h) (hF : 100 < F) (hn : n = (h * 32).toNat) (hfu : ∀ x y, inF w h x y = true → fu (y * 32 + x).toNat = bI (fl x y)) {x y m : Int} (x0 : 0 ≤ x) (x1 : x < 24) (y0 : 0 ≤ y) (y1 : y < 24) (m0 : 0 ≤ m) (m9 : m ≤ 9) :
    ∃ a, J_X1_distanceToFull F (iI w) (iI h) n fu (iI x) (iI y) (iI m) = some (iI a) ∧ LDm w h fl x y m a := by
  refine ⟨_, ?_, LDm_fold m0 m9⟩
  have go : ∀ (fz c : Nat) (y' a : Int), c < fz → y' + c = y + m + 1 → y - m ≤ y' → 0 ≤ a → a ≤ 9 → J_X1_distanceToFull_L8 F (iI w) (iI h) n fu (iI x) (iI y) (iI m) (fun x4 x5 => some x4) fz (iI a) (iI y') = some (iI (foldI c (fun y' a => foldI (2 * m + 1).toNat (dst1 w h fl x y y') (x - m) a) y' a)) := by
    intro fz
    induction fz with
    | zero =>
      intro c y' a hc
      omega
    | succ fz ih =>
      intro c y' a hc hx hx0 ha0 ha1
      rw [J_X1_distanceToFull_L8, iI_add]
      cases c with
      | zero =>
        rw [if_pos ((iI_lt (rg_lit (by omega) (by omega)) (rg_lit (by omega) (by omega))).mpr (by omega)), foldI]
      | succ c =>
        have hb := foldI_b (f := dst1 w h fl x y y') (fun _ _ h0 h1 => dst1_b h0 h1) (2 * m + 1).toNat (x - m) a ha0 ha1
        rw [foldI, if_neg (fun z => by rw [iI_lt (rg_lit (by omega) (by omega)) (rg_lit (by omega) (by omega))] at z; omega), iI_sub, iI_s, dcf21 hw hh hw0 hh0 hn hfu x0 x1 y0 y1 (by omega) (by omega) m0 m9 _ F (2 * m + 1).toNat (x - m) a (by omega) (by omega) (by omega) ha0 ha1]
        exact ih c (y' + 1) _ (by omega) (by omega) (by omega) hb.1 hb.2
  unfold J_X1_distanceToFull
  rw [iI_sub]
  exact go F (2 * m + 1).toNat (y - m) m (by omega) (by omega) (by omega) m0 m9
/-- a least margin over covered cells -/
def LMm (w h : Int) (fl : Int → Int → Bool) (C : Int → Int → Prop) (m a : Int) : Prop := 0 ≤ a ∧ a ≤ m ∧ ∀ k, k < a ↔ (k < m ∧ ∀ x y, C x y → ∀ x' y', (inF w h x' y' && fl x' y') = true → k < chb x y x' y')
theorem LDm.then {x y m a b : Int} {C : Int → Int → Prop} (h1 : LDm w h fl x y m a) (h2 : LMm w h fl C a b) : LMm w h fl (fun u v => (u = x ∧ v = y) ∨ C u v) m b := by
  obtain ⟨a1, a2, a3⟩ := h1
  obtain ⟨b1, b2, b3⟩ := h2
  refine ⟨b1, by omega, fun k => ?_⟩
  rw [b3, a3]
  constructor
  · rintro ⟨⟨q1, q2⟩, q3⟩
    refine ⟨q1, fun u v huv x' y' hi => ?_⟩
    rcases huv with ⟨rfl, rfl⟩ | huv
    · exact q2 x' y' hi
    · exact q3 u v huv x' y' hi
  · rintro ⟨q1, q2⟩
    exact ⟨⟨q1, fun x' y' hi => q2 x y (Or.inl ⟨rfl, rfl⟩) x' y' hi⟩, fun u v huv x' y' hi => q2 u v (Or.inr huv) x' y' hi⟩
theorem LMm.cong {m a : Int} {C D : Int → Int → Prop} (h1 : LMm w h fl C m a) (hCD : ∀ x y, C x y ↔ D x y) : LMm w h fl D m a := by
  have : C = D := by
    funext x y
    exact propext (hCD x y)
  rw [← this]
  exact h1
theorem LMm.join {m a b : Int} {C D : Int → Int → Prop} (h1 : LMm w h fl C m a) (h2 : LMm w h fl D a b) : LMm w h fl (fun u v => C u v ∨ D u v) m b := by
  obtain ⟨a1, a2, a3⟩ := h1
  obtain ⟨b1, b2, b3⟩ := h2
  refine ⟨b1, by omega, fun k => ?_⟩
  rw [b3, a3]
  constructor
  · rintro ⟨⟨q1, q2⟩, q3⟩
    refine ⟨q1, fun u v huv x' y' hi => ?_⟩
    rcases huv with huv | huv
    · exact q2 u v huv x' y' hi
    · exact q3 u v huv x' y' hi
  · rintro ⟨q1, q2⟩
    exact ⟨⟨q1, fun u v huv x' y' hi => q2 u v (Or.inl huv) x' y' hi⟩, fun u v huv x' y' hi => q2 u v (Or.inr huv) x' y' hi⟩
theorem LMm.none {m : Int} (m0 : 0 ≤ m) : LMm w h fl (fun _ _ => False) m m := ⟨m0, Int.le_refl m, fun k => ⟨fun q => ⟨q, fun _ _ z => z.elim⟩, fun q => q.1⟩⟩
/-- the cells that are covered, from row i, column j on -/
def cvR (wd x y hd i j : Int) (u v : Int) : Prop := ∃ j', j ≤ j' ∧ j' ≤ wd / 2 ∧ u = cvX x hd i j' ∧ v = cvY y hd i j'
def cvA (l wd x y hd i : Int) (u v : Int) : Prop := ∃ i', i ≤ i' ∧ i' ≤ l / 2 ∧ cvR wd x y hd i' (-((wd - 1) / 2)) u v
theorem ma34 (hw : w ≤ 24) (hh : h ≤ 24) (hw0 : 0 ≤ w) (hh0 : 0 ≤ h) (hF : 100 < F) (hn : n = (h * 32).toNat) (hfu : ∀ x y, inF w h x y = true → fu (y * 32 + x).toNat = bI (fl x y)) {x y hd i : Int} (x0 : 0 ≤ x) (x1 : x < 24) (y0 : 0 ≤ y) (y1 : y < 24) (d0 : 0 ≤ hd) (d1 : hd < 8) (wd0 : 1 ≤ wd) (wd1 : wd ≤ 5) (hin : ∀ j, -((wd - 1) / 2) ≤ j → j ≤ wd / 2 → inF w h (cvX x hd i j) (cvY y hd i j) = true) (kk : Int32 → Int32 → Option Int32) :
    ∀ (fz c : Nat) (j m : Int), c < fz → j + c = wd / 2 + 1 → -((wd - 1) / 2) ≤ j → 0 ≤ m → m ≤ 9 → ∃ a, J_X0_marginAt_L34 F (iI wd) (iI w) (iI h) n fu (iI (pcd x y hd)) (iI i) kk fz (iI m) (iI j) = kk (iI a) (iI (wd / 2 + 1)) ∧ LMm w h fl (cvR wd x y hd i j) m a := by
  have rp : rg (pcd x y hd) := by
    unfold pcd
    exact rg_lit (by omega) (by omega)
  intro fz
  induction fz with
  | zero =>
    intro c j m hc
    omega
  | succ fz ih =>
    intro c j m hc hj hj0 m0 m9
    rw [J_X0_marginAt_L34, half_eq (by omega) (by omega)]
    cases c with
    | zero =>
      rw [if_pos ((iI_lt (rg_lit (by omega) (by omega)) (rg_lit (by omega) (by omega))).mpr (by omega)), show j = wd / 2 + 1 by omega]
      refine ⟨m, rfl, (LMm.none m0).cong (fun u v => ⟨fun z => z.elim, fun z => ?_⟩)⟩
      obtain ⟨j', h1, h2, -⟩ := z
      omega
    | succ c =>
      have hc1 := inF_iff.mp (hin j hj0 (by omega))
      rw [if_neg (fun q => by rw [iI_lt (rg_lit (by omega) (by omega)) (rg_lit (by omega) (by omega))] at q; omega), coveredX_eq F i j d0 d1 x0 (by omega) rp, Option.bind_some, coveredY_eq F i j d0 d1 x0 (by omega) rp, Option.bind_some]
      obtain ⟨a, ea, ha⟩ := distF_eq (F := F) hw hh hw0 hh0 hF hn hfu hc1.1 (show cvX x hd i j < 24 by omega) hc1.2.2.1 (show cvY y hd i j < 24 by omega) m0 m9
      rw [ea, Option.bind_some, iI_s]
      obtain ⟨b, eb, hb⟩ := ih c (j + 1) a (by omega) (by omega) (by omega) ha.1 (by have := ha.2.1; omega)
      refine ⟨b, eb, (ha.then hb).cong (fun u v => ?_)⟩
      constructor
      · rintro (⟨rfl, rfl⟩ | ⟨j', h1, h2, h3⟩)
        · exact ⟨j, Int.le_refl j, by omega, rfl, rfl⟩
        · exact ⟨j', by omega, h2, h3⟩
      · rintro ⟨j', h1, h2, h3⟩
        by_cases e : j' = j
        · rw [e] at h3
          exact Or.inl h3
        · exact Or.inr ⟨j', by omega, h2, h3⟩
theorem ma13 (hw : w ≤ 24) (hh : h ≤ 24) (hw0 : 0 ≤ w) (hh0 : 0 ≤ h) (hF : 100 < F) (hn : n = (h * 32).toNat) (hfu : ∀ x y, inF w h x y = true → fu (y * 32 + x).toNat = bI (fl x y)) {x y hd : Int} (x0 : 0 ≤ x) (x1 : x < 24) (y0 : 0 ≤ y) (y1 : y < 24) (d0 : 0 ≤ hd) (d1 : hd < 8) (wd0 : 1 ≤ wd) (wd1 : wd ≤ 5) (l0 : 1 ≤ l) (l1 : l ≤ 7) (hin : ∀ i, -((l - 1) / 2) ≤ i → i ≤ l / 2 → ∀ j, -((wd - 1) / 2) ≤ j → j ≤ wd / 2 → inF w h (cvX x hd i j) (cvY y hd i j) = true) :
    ∀ (fz c : Nat) (i m : Int), c < fz → i + c = l / 2 + 1 → -((l - 1) / 2) ≤ i → 0 ≤ m → m ≤ 9 → ∃ a, J_X0_marginAt_L13 F (iI l) (iI wd) (iI w) (iI h) n fu (iI (pcd x y hd)) (fun x2 x3 => some x2) fz (iI m) (iI i) = some (iI a) ∧ LMm w h fl (cvA l wd x y hd i) m a := by
  intro fz
  induction fz with
  | zero =>
    intro c i m hc
    omega
  | succ fz ih =>
    intro c i m hc hi hi0 m0 m9
    rw [J_X0_marginAt_L13, half_eq (by omega) (by omega)]
    cases c with
    | zero =>
      rw [if_pos ((iI_lt (rg_lit (by omega) (by omega)) (rg_lit (by omega) (by omega))).mpr (by omega))]
      refine ⟨m, rfl, (LMm.none m0).cong (fun u v => ⟨fun z => z.elim, fun z => ?_⟩)⟩
      obtain ⟨j', h1, h2, -⟩ := z
      omega
    | succ c =>
      rw [if_neg (fun q => by rw [iI_lt (rg_lit (by omega) (by omega)) (rg_lit (by omega) (by omega))] at q; omega), kI1, iI_sub, half_eq (by omega) (by omega), iI_neg, iI_add]
      obtain ⟨a, ea, ha⟩ := ma34 (F := F) hw hh hw0 hh0 hF hn hfu x0 x1 y0 y1 d0 d1 wd0 wd1 (hin i hi0 (by omega)) (fun x2_13 x4_14 => (J_X0_marginAt_L13 F (iI l) (iI wd) (iI w) (iI h) n fu (iI (pcd x y hd)) (fun x2 x3 => some x2) fz x2_13 (iI (i + 1)))) F wd.toNat (-((wd - 1) / 2)) m (by omega) (by omega) (by omega) m0 m9
      rw [ea]
      obtain ⟨b, eb, hb⟩ := ih c (i + 1) a (by omega) (by omega) (by omega) ha.1 (by have := ha.2.1; omega)
      refine ⟨b, eb, (ha.join hb).cong (fun u v => ?_)⟩
      constructor
      · rintro (q | ⟨i', h1, h2, h3⟩)
        · exact ⟨i, Int.le_refl i, by omega, q⟩
        · exact ⟨i', by omega, h2, h3⟩
      · rintro ⟨i', h1, h2, h3⟩
        by_cases e : i' = i
        · rw [e] at h3
          exact Or.inl h3
        · exact Or.inr ⟨i', by omega, h2, h3⟩
/-- the class's margin is the model's -/
theorem marginAt_eq (hw : w ≤ 24) (hh : h ≤ 24) (hw0 : 0 ≤ w) (hh0 : 0 ≤ h) (hF : 100 < F) (hn : n = (h * 32).toNat) (hfu : ∀ x y, inF w h x y = true → fu (y * 32 + x).toNat = bI (fl x y)) {x y hd : Int} (hxy : inF w h x y = true) (d0 : 0 ≤ hd) (d1 : hd < 8) (wd0 : 1 ≤ wd) (wd1 : wd ≤ 5) (l0 : 1 ≤ l) (l1 : l ≤ 7) (hin : inP w h l wd x y hd = true) :
    J_X0_marginAt F (iI l) (iI wd) (iI w) (iI h) n fu (iI (pcd x y hd)) = some (iI (mnP w h fl l wd x y hd)) := by
  have hq := inF_iff.mp hxy
  have hin2 := inP_iff.mp hin
  obtain ⟨a, ea, ha⟩ := ma13 (F := F) hw hh hw0 hh0 hF hn hfu hq.1 (show x < 24 by omega) hq.2.2.1 (show y < 24 by omega) d0 d1 wd0 wd1 l0 l1 (fun i i0 i1 j j0 j1 => hin2 i i0 (by omega) j j0 (by omega)) F l.toNat (-((l - 1) / 2)) 9 (by omega) (by omega) (by omega) (by omega) (by omega)
  unfold J_X0_marginAt
  rw [kI1, iI_sub, half_eq (by omega) (by omega), iI_neg, kI9, ea]
  have hm := mnP_b (w := w) (h := h) (fl := fl) (l := l) (wd := wd) (x := x) (y := y) (hd := hd)
  have hkk : ∀ k, k ≤ 8 → (k < a ↔ k < mnP w h fl l wd x y hd) := by
    intro k k8
    rw [ha.2.2 k, mnP_lt k8]
    constructor
    · rintro ⟨-, q⟩ i i0 i1 j j0 j1
      rw [dstM_lt k8]
      exact fun x' y' hi => q _ _ ⟨i, i0, by omega, j, j0, by omega, rfl, rfl⟩ x' y' hi
    · intro q
      refine ⟨by omega, ?_⟩
      rintro u v ⟨i, i0, i1, j, j0, j1, rfl, rfl⟩ x' y' hi
      have := q i i0 (by omega) j j0 (by omega)
      rw [dstM_lt k8] at this
      exact this x' y' hi
  have h9 := ha.2.1
  have h0 := ha.1
  congr 2
  rcases Int.lt_trichotomy a (mnP w h fl l wd x y hd) with q | q | q
  · have := (hkk a (by omega)).mpr q
    omega
  · exact q
  · have := (hkk (mnP w h fl l wd x y hd) (by omega)).mp q
    omega
end MARGIN
