/-! the class's car: FREE places with their store, steps, turns, moves -/
def Kn (w h : Int) (ok : Int → Int → Int → Bool) (kn : Nat → Int32) : Prop := ∀ x y d, inF w h x y = true → 0 ≤ d → d < 8 → kn (pcd x y d).toNat = 0 ∨ kn (pcd x y d).toNat = (if ok x y d = true then (1 : Int32) else 2)
theorem pcd_inj {x y d x' y' d' : Int} (h0 : 0 ≤ d) (h1 : d < 8) (h0' : 0 ≤ d') (h1' : d' < 8) (x0 : 0 ≤ x) (x1 : x < 32) (x0' : 0 ≤ x') (x1' : x' < 32) (e : pcd x y d = pcd x' y' d') : x = x' ∧ y = y' ∧ d = d' := by
  unfold pcd at e
  omega
theorem pcd_b {w h x y d : Int} (hw : w ≤ 24) (hh : h ≤ 24) (hi : inF w h x y = true) (h0 : 0 ≤ d) (h1 : d < 8) : 0 ≤ pcd x y d ∧ pcd x y d < h * 256 ∧ pcd x y d < 6144 := by
  have hq := inF_iff.mp hi
  unfold pcd
  omega
theorem upd_at {f : Nat → Int32} {k : Nat} {v : Int32} : upd f k v k = v := by
  unfold upd
  rw [if_pos rfl]
theorem upd_ne {f : Nat → Int32} {k j : Nat} {v : Int32} (h : j ≠ k) : upd f k v j = f j := by
  unfold upd
  rw [if_neg h]
theorem Kn.set {w h : Int} {ok : Int → Int → Int → Bool} {kn : Nat → Int32} (hw : w ≤ 24) (hh : h ≤ 24) (hk : Kn w h ok kn) {x y d : Int} (hi : inF w h x y = true) (h0 : 0 ≤ d) (h1 : d < 8) : Kn w h ok (upd kn (pcd x y d).toNat (if ok x y d = true then (1 : Int32) else 2)) := by
  intro x' y' d' hi' h0' h1'
  have b := pcd_b hw hh hi h0 h1
  have b' := pcd_b hw hh hi' h0' h1'
  have q := inF_iff.mp hi
  have q' := inF_iff.mp hi'
  by_cases e : (pcd x' y' d').toNat = (pcd x y d).toNat
  · obtain ⟨rfl, rfl, rfl⟩ := pcd_inj (x := x') (y := y') (d := d') (x' := x) (y' := y) (d' := d) h0' h1' h0 h1 (by omega) (by omega) (by omega) (by omega) (by omega)
    rw [upd_at]
    exact Or.inr rfl
  · rw [upd_ne e]
    exact hk x' y' d' hi' h0' h1'
section FREE
variable {F : Nat} {w h l wd : Int} {n nk : Nat} {fk kn : Nat → Int32} {cl : Int → Int → Bool}
theorem isFree_eq (hw0 : 0 ≤ w) (hw : w ≤ 24) (hh0 : 0 ≤ h) (hh : h ≤ 24) (hn : n = (h * 32).toNat) (hnk : nk = (h * 256).toNat) (hfk : ∀ x y, inF w h x y = true → (fk (y * 32 + x).toNat = (0 : Int32) ↔ cl x y = true)) (wd0 : 1 ≤ wd) (wd1 : wd ≤ 5) (l0 : 1 ≤ l) (l1 : l ≤ 7) (hF : 20 < F) (hk : Kn w h (okP w h cl l wd) kn) {x y d : Int} (hi : inF w h x y = true) (h0 : 0 ≤ d) (h1 : d < 8) :
    ∃ kn', J_X0_isFree F (iI l) (iI wd) nk kn (iI w) (iI h) n fk (iI (pcd x y d)) = some (bI (okP w h cl l wd x y d), kn') ∧ Kn w h (okP w h cl l wd) kn' := by
  have b := pcd_b hw hh hi h0 h1
  have q := inF_iff.mp hi
  have rp : rg (pcd x y d) := rg_lit (by omega) (by omega)
  have hcv := covers_eq (F := F) (l := l) (wd := wd) hw0 (by omega) hh0 (by omega) hn hfk h0 h1 q.1 (by omega) q.2.2.1 (by omega) wd0 wd1 l0 l1 hF
  have hset := hk.set hw hh hi h0 h1
  have hz := hk x y d hi h0 h1
  unfold J_X0_isFree
  rw [if_neg (fun z => by rw [iI_lt0 rp] at z; omega), if_pos (by rw [nI_iI, iI_lt rp (rg_lit (by omega) (by omega))]; omega), gd_in rp (by omega) (by omega), gd_in rp (by omega) (by omega), gd_in rp (by omega) (by omega), gd_in rp (by omega) (by omega), gd_in rp (by omega) (by omega), gd_in rp (by omega) (by omega), iI_clamp rp, hcv, Option.bind_some, upd_at, upd_at]
  cases ho : okP w h cl l wd x y d with
  | true =>
    rw [ho, if_pos rfl] at hz hset
    by_cases e : kn (pcd x y d).toNat = 0
    · rw [if_pos e]
      exact ⟨_, rfl, hset⟩
    · have e1 := hz.resolve_left e
      rw [if_neg e, if_pos e1]
      exact ⟨kn, rfl, hk⟩
  | false =>
    rw [ho, if_neg (by decide)] at hz hset
    by_cases e : kn (pcd x y d).toNat = 0
    · rw [if_pos e]
      exact ⟨_, rfl, hset⟩
    · have e1 := hz.resolve_left e
      rw [if_neg e, e1]
      exact ⟨kn, rfl, hk⟩
theorem isFree_m1 : J_X0_isFree F (iI l) (iI wd) nk kn (iI w) (iI h) n fk (iI (-1)) = some (0, kn) := by
  unfold J_X0_isFree
  rw [if_pos (by rw [iI_lt0 (rg_lit (by omega) (by omega))]; omega)]
end FREE
/-- a place, or none -/
def cdO : Option (Int × Int × Int) → Int
  | none => -1
  | some (x, y, d) => pcd x y d
def vdO (w h : Int) : Option (Int × Int × Int) → Prop
  | none => True
  | some (x, y, d) => inF w h x y = true ∧ 0 ≤ d ∧ d < 8
def shO (w h k : Int) : Option (Int × Int × Int) → Option (Int × Int × Int)
  | none => none
  | some (x, y, d) => if inF w h (x + k * dX d) (y + k * dY d) = true then some (x + k * dX d, y + k * dY d, d) else none
def tuO (t : Int) : Option (Int × Int × Int) → Option (Int × Int × Int)
  | none => none
  | some (x, y, d) => some (x, y, (d + t) % 8)
def okO (ok : Int → Int → Int → Bool) : Option (Int × Int × Int) → Bool
  | none => false
  | some (x, y, d) => ok x y d
theorem shO_vd {w h k : Int} {o : Option (Int × Int × Int)} (hv : vdO w h o) : vdO w h (shO w h k o) := by
  match o, hv with
  | none, _ => trivial
  | some (x, y, d), hv =>
    show vdO w h (if inF w h (x + k * dX d) (y + k * dY d) = true then some (x + k * dX d, y + k * dY d, d) else none)
    by_cases e : inF w h (x + k * dX d) (y + k * dY d) = true
    · rw [if_pos e]
      exact ⟨e, hv.2⟩
    · rw [if_neg e]
      trivial
theorem tuO_vd {w h t : Int} {o : Option (Int × Int × Int)} (hv : vdO w h o) : vdO w h (tuO t o) := by
  match o, hv with
  | none, _ => trivial
  | some (x, y, d), hv => exact ⟨hv.1, m8 _⟩
section MOVE
variable {F : Nat} {w h : Int}
theorem mul_b {k b : Int} (k0 : -10 ≤ k) (k1 : k ≤ 10) (b0 : -1 ≤ b) (b1 : b ≤ 1) : -10 ≤ k * b ∧ k * b ≤ 10 := by
  rcases (show b = -1 ∨ b = 0 ∨ b = 1 by omega) with rfl | rfl | rfl <;> omega
theorem shifted_eq (hw : w ≤ 24) (hh : h ≤ 24) (hw0 : 0 ≤ w) (hh0 : 0 ≤ h) {o : Option (Int × Int × Int)} (hv : vdO w h o) {k : Int} (k0 : -10 ≤ k) (k1 : k ≤ 10) : J_X0_shifted F (iI w) (iI h) (iI (cdO o)) (iI k) = some (iI (cdO (shO w h k o))) := by
  match o, hv with
  | none, _ =>
    show J_X0_shifted F (iI w) (iI h) (iI (-1)) (iI k) = some (iI (-1))
    unfold J_X0_shifted
    rw [if_neg (by decide), kIm1]
  | some (x, y, d), hv =>
    have b := pcd_b hw hh hv.1 hv.2.1 hv.2.2
    have q := inF_iff.mp hv.1
    have rp : rg (pcd x y d) := rg_lit (by omega) (by omega)
    have tx := mul_b k0 k1 (dX_b d).1 (dX_b d).2
    have ty := mul_b k0 k1 (dY_b d).1 (dY_b d).2
    show J_X0_shifted F (iI w) (iI h) (iI (pcd x y d)) (iI k) = _
    unfold J_X0_shifted
    rw [if_pos ((iI_ge0 rp).mpr b.1)]
    simp only [headingOf_eq, xOf_eq F rp, yOf_eq F rp, stepX_eq, stepY_eq, Option.bind_some, iI_add, iI_mul, pcd_h hv.2.1 hv.2.2, pcd_x hv.2.1 hv.2.2 q.1 (show x < 32 by omega), pcd_y hv.2.1 hv.2.2 q.1 (show x < 32 by omega), Int.emod_eq_of_lt hv.2.1 hv.2.2]
    rw [hasCell_eq F (rg_lit (by omega) (by omega)) (rg_lit (by omega) (by omega)) (rg_lit (by omega) (by omega)) (rg_lit (by omega) (by omega)), Option.bind_some, bI_if, placeAt_eq, Option.bind_some]
    show _ = some (iI (cdO (if inF w h (x + k * dX d) (y + k * dY d) = true then some (x + k * dX d, y + k * dY d, d) else none)))
    cases inF w h (x + k * dX d) (y + k * dY d) with
    | true => rfl
    | false =>
      rw [if_neg (by decide), if_neg (by decide), kIm1]
      rfl
theorem turned_eq (hw : w ≤ 24) (hh : h ≤ 24) {o : Option (Int × Int × Int)} (hv : vdO w h o) (tn m : Int) : J_X0_turned F (iI tn) (iI (cdO o)) (iI m) = some (iI (cdO (tuO (if m % 2 = 0 then tn else -tn) o))) := by
  match o, hv with
  | none, _ =>
    show J_X0_turned F (iI tn) (iI (-1)) (iI m) = some (iI (-1))
    unfold J_X0_turned
    rw [if_neg (by decide), kIm1]
  | some (x, y, d), hv =>
    have b := pcd_b hw hh hv.1 hv.2.1 hv.2.2
    have q := inF_iff.mp hv.1
    have rp : rg (pcd x y d) := rg_lit (by omega) (by omega)
    show J_X0_turned F (iI tn) (iI (pcd x y d)) (iI m) = _
    unfold J_X0_turned
    rw [if_pos ((iI_ge0 rp).mpr b.1)]
    simp only [headingOf_eq, xOf_eq F rp, yOf_eq F rp, Option.bind_some, iI_add, iI_neg, iI_and7, iI_and1, placeAt_eq, pcd_h hv.2.1 hv.2.2, pcd_x hv.2.1 hv.2.2 q.1 (show x < 32 by omega), pcd_y hv.2.1 hv.2.2 q.1 (show x < 32 by omega)]
    by_cases e : m % 2 = 0
    · rw [if_pos ((iI_eq0 (rg_lit (by omega) (by omega))).mpr e), if_pos e]
      rfl
    · rw [if_neg (fun z => e ((iI_eq0 (rg_lit (by omega) (by omega))).mp z)), if_neg e]
      rfl
/-- 1 on, -1 back -/
def sn (m : Int) : Int := if m = 0 ∨ m = 2 ∨ m = 3 then 1 else -1
theorem senseOf_eq {m : Int} (m0 : 0 ≤ m) (m1 : m < 6) : J_X0_senseOf F (iI m) = some (iI (sn m)) := by
  rcases (show m = 0 ∨ m = 1 ∨ m = 2 ∨ m = 3 ∨ m = 4 ∨ m = 5 by omega) with rfl | rfl | rfl | rfl | rfl | rfl <;> rfl
theorem isArc_eq {m : Int} (m0 : 0 ≤ m) (m1 : m < 6) : J_X0_isArc F (iI m) = some (bI (decide (2 ≤ m))) := by
  rcases (show m = 0 ∨ m = 1 ∨ m = 2 ∨ m = 3 ∨ m = 4 ∨ m = 5 by omega) with rfl | rfl | rfl | rfl | rfl | rfl <;> rfl
theorem sn_b (m : Int) : sn m = 1 ∨ sn m = -1 := by
  unfold sn
  split
  · exact Or.inl rfl
  · exact Or.inr rfl
/-- where a move ends, and its second part's beginning -/
def seO (w h r tn m : Int) (o : Option (Int × Int × Int)) : Option (Int × Int × Int) := tuO (if m % 2 = 0 then tn else -tn) (shO w h (sn m * r) o)
def laO (w h r tn m : Int) (o : Option (Int × Int × Int)) : Option (Int × Int × Int) := if 2 ≤ m then shO w h (sn m * r) (seO w h r tn m o) else shO w h (sn m) o
theorem landing_eq (hw : w ≤ 24) (hh : h ≤ 24) (hw0 : 0 ≤ w) (hh0 : 0 ≤ h) {o : Option (Int × Int × Int)} (hv : vdO w h o) {r : Int} (r0 : 1 ≤ r) (r1 : r ≤ 4) (tn : Int) {m : Int} (m0 : 0 ≤ m) (m1 : m < 6) : J_X0_landing F (iI r) (iI w) (iI h) (iI tn) (iI (cdO o)) (iI m) = some (iI (cdO (laO w h r tn m o))) := by
  have hs := sn_b m
  have hsr : -10 ≤ sn m * r ∧ sn m * r ≤ 10 := by rcases hs with e | e <;> rw [e] <;> omega
  unfold J_X0_landing laO
  rw [senseOf_eq m0 m1, Option.bind_some, isArc_eq m0 m1, Option.bind_some, bI_if, iI_mul]
  by_cases e : 2 ≤ m
  · rw [decide_eq_true e, if_pos rfl, if_pos e, shifted_eq hw hh hw0 hh0 hv hsr.1 hsr.2, Option.bind_some, turned_eq hw hh (shO_vd hv), Option.bind_some, shifted_eq hw hh hw0 hh0 (tuO_vd (shO_vd hv)) hsr.1 hsr.2, Option.bind_some]
    rfl
  · rw [decide_eq_false e, if_neg (by decide), if_neg e, shifted_eq hw hh hw0 hh0 hv (by rcases hs with e | e <;> rw [e] <;> omega) (by rcases hs with e | e <;> rw [e] <;> omega), Option.bind_some]
end MOVE
