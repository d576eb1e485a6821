/-! which moves may be made, in the class and as such -/
def CX (F : Nat) (w h l wd r tn : Int) (n nk : Nat) (fk : Nat → Int32) (cl : Int → Int → Bool) : Prop :=
  (0 ≤ w ∧ w ≤ 24 ∧ 0 ≤ h ∧ h ≤ 24) ∧ (1 ≤ l ∧ l ≤ 7 ∧ 1 ≤ wd ∧ wd ≤ 5 ∧ 1 ≤ r ∧ r ≤ 4) ∧ (tn = 1 ∨ tn = 2) ∧ (n = (h * 32).toNat ∧ nk = (h * 256).toNat) ∧ (∀ x y, inF w h x y = true → (fk (y * 32 + x).toNat = (0 : Int32) ↔ cl x y = true)) ∧ 7000 < F
def mkB (w h : Int) (ok : Int → Int → Int → Bool) (s : Int) (p q : Option (Int × Int × Int)) (k : Int) : Bool := okO ok (shO w h (s * k) p) && okO ok (shO w h (s * k) q)
def mvB (w h r tn : Int) (ok : Int → Int → Int → Bool) (m : Int) (o : Option (Int × Int × Int)) : Bool := if 2 ≤ m then allB (r + 1).toNat (mkB w h ok (sn m) o (seO w h r tn m o)) 0 else allB 2 (mkB w h ok (sn m) o o) 0
section MAKE
variable {F : Nat} {w h l wd r tn : Int} {n nk : Nat} {fk kn : Nat → Int32} {cl : Int → Int → Bool}
theorem isFreeO (hC : CX F w h l wd r tn n nk fk cl) (hk : Kn w h (okP w h cl l wd) kn) {o : Option (Int × Int × Int)} (hv : vdO w h o) :
    ∃ kn', J_X0_isFree F (iI l) (iI wd) nk kn (iI w) (iI h) n fk (iI (cdO o)) = some (bI (okO (okP w h cl l wd) o), kn') ∧ Kn w h (okP w h cl l wd) kn' := by
  obtain ⟨⟨a1, a2, a3, a4⟩, ⟨b1, b2, b3, b4, b5, b6⟩, c1, ⟨d1, d2⟩, e1, f1⟩ := hC
  match o, hv with
  | none, _ => exact ⟨kn, isFree_m1, hk⟩
  | some (x, y, d), hv => exact isFree_eq a1 a2 a3 a4 d1 d2 e1 b3 b4 b1 b2 (by omega) hk hv.1 hv.2.1 hv.2.2
theorem mm54 (hC : CX F w h l wd r tn n nk fk cl) {p q : Option (Int × Int × Int)} (hp : vdO w h p) (hq : vdO w h q) {s last : Int} (hs : s = 1 ∨ s = -1) (l0 : 0 ≤ last) (l4 : last ≤ 4) :
    ∀ (fz m : Nat) (k : Int) (kn : Nat → Int32), m < fz → k + m = last + 1 → 0 ≤ k → Kn w h (okP w h cl l wd) kn →
      ∃ kn', J_X0_mayMake_L54 F (iI l) (iI wd) nk (iI w) (iI h) n fk (iI (cdO p)) (iI s) (iI last) (iI (cdO q)) (fun _ xkn => some ((1 : Int32), xkn)) fz (iI k) kn = some (bI (allB m (mkB w h (okP w h cl l wd) s p q) k), kn') ∧ Kn w h (okP w h cl l wd) kn' := by
  intro fz
  induction fz with
  | zero =>
    intro m k kn hm
    omega
  | succ fz ih =>
    intro m k kn hm hkm hk0 hk
    obtain ⟨a1, a2, a3, a4⟩ := hC.1
    rw [J_X0_mayMake_L54]
    cases m with
    | zero =>
      rw [if_pos ((iI_lt (rg_lit (by omega) (by omega)) (rg_lit (by omega) (by omega))).mpr (by omega)), allB]
      exact ⟨kn, rfl, hk⟩
    | succ m =>
      have hsk : -10 ≤ s * k ∧ s * k ≤ 10 := by rcases hs with e | e <;> rw [e] <;> omega
      rw [if_neg (fun z => by rw [iI_lt (rg_lit (by omega) (by omega)) (rg_lit (by omega) (by omega))] at z; omega), iI_mul, shifted_eq a2 a4 a1 a3 hp hsk.1 hsk.2, Option.bind_some, allB, mkB]
      obtain ⟨k1, e1, hk1⟩ := isFreeO hC hk (shO_vd (k := s * k) hp)
      rw [e1, Option.bind_some, bI_if]
      cases h1 : okO (okP w h cl l wd) (shO w h (s * k) p) with
      | false => exact ⟨k1, rfl, hk1⟩
      | true =>
        rw [if_pos rfl, shifted_eq a2 a4 a1 a3 hq hsk.1 hsk.2, Option.bind_some]
        obtain ⟨k2, e2, hk2⟩ := isFreeO hC hk1 (shO_vd (k := s * k) hq)
        dsimp only
        rw [e2, Option.bind_some, bI_if]
        cases h2 : okO (okP w h cl l wd) (shO w h (s * k) q) with
        | false => exact ⟨k2, rfl, hk2⟩
        | true =>
          rw [if_pos rfl, kI1, iI_add]
          obtain ⟨k3, e3, hk3⟩ := ih m (k + 1) k2 (by omega) (by omega) (by omega) hk2
          exact ⟨k3, e3, hk3⟩
theorem mayMake_eq (hC : CX F w h l wd r tn n nk fk cl) (hk : Kn w h (okP w h cl l wd) kn) {o : Option (Int × Int × Int)} (hv : vdO w h o) {m : Int} (m0 : 0 ≤ m) (m1 : m < 6) :
    ∃ kn', J_X0_mayMake F (iI l) (iI wd) (iI r) nk kn (iI w) (iI h) (iI tn) n fk (iI (cdO o)) (iI m) = some (bI (mvB w h r tn (okP w h cl l wd) m o), kn') ∧ Kn w h (okP w h cl l wd) kn' := by
  obtain ⟨⟨a1, a2, a3, a4⟩, ⟨b1, b2, b3, b4, b5, b6⟩, c1, ⟨d1, d2⟩, e1, f1⟩ := id hC
  unfold J_X0_mayMake mvB
  rw [senseOf_eq m0 m1, Option.bind_some, isArc_eq m0 m1, Option.bind_some, Option.bind_some, Option.bind_some, bI_if, bI_if, bI_if]
  by_cases h2 : 2 ≤ m
  · have hsr : -10 ≤ sn m * r ∧ sn m * r ≤ 10 := by rcases sn_b m with e | e <;> rw [e] <;> omega
    rw [decide_eq_true h2, if_pos rfl, if_pos rfl, if_pos h2, iI_mul, shifted_eq a2 a4 a1 a3 hv hsr.1 hsr.2, Option.bind_some, turned_eq a2 a4 (shO_vd hv), Option.bind_some]
    exact mm54 hC hv (tuO_vd (shO_vd hv)) (sn_b m) (by omega) b6 F (r + 1).toNat 0 kn (by omega) (by omega) (by omega) hk
  · rw [decide_eq_false h2, if_neg (by decide), if_neg (by decide), if_neg h2]
    exact mm54 hC hv hv (sn_b m) (last := 1) (by omega) (by omega) F 2 0 kn (by omega) (by omega) (by omega) hk
end MAKE
/-! the same moves, said with cells -/
def gO (w h : Int) (ok : Int → Int → Int → Bool) (x y d : Int) : Bool := inF w h x y && ok x y d
def aB (w h : Int) (ok : Int → Int → Int → Bool) (x y d s r : Int) : Bool := allB (r + 1).toNat (fun k => gO w h ok (x + s * k * dX d) (y + s * k * dY d) d) 0
def tI (tn m : Int) : Int := if m % 2 = 0 then tn else -tn
def mvO (w h r tn : Int) (ok : Int → Int → Int → Bool) (m x y d : Int) : Option (Int × Int × Int) :=
  if 2 ≤ m then
    (if (aB w h ok x y d (sn m) r && aB w h ok (x + sn m * r * dX d) (y + sn m * r * dY d) ((d + tI tn m) % 8) (sn m) r) = true then
      some (x + sn m * r * dX d + sn m * r * dX ((d + tI tn m) % 8), y + sn m * r * dY d + sn m * r * dY ((d + tI tn m) % 8), (d + tI tn m) % 8)
    else none)
  else (if aB w h ok x y d (sn m) 1 = true then some (x + sn m * 1 * dX d, y + sn m * 1 * dY d, d) else none)
section MVO
variable {w h r tn : Int} {ok : Int → Int → Int → Bool}
theorem okshO (k x y d : Int) : okO ok (shO w h k (some (x, y, d))) = gO w h ok (x + k * dX d) (y + k * dY d) d := by
  show okO ok (if inF w h (x + k * dX d) (y + k * dY d) = true then some (x + k * dX d, y + k * dY d, d) else none) = _
  unfold gO
  cases inF w h (x + k * dX d) (y + k * dY d) <;> rfl
theorem allB_and {p q : Int → Bool} : ∀ (n : Nat) (a : Int), allB n (fun k => p k && q k) a = (allB n p a && allB n q a) := by
  intro n
  induction n with
  | zero => intro a; rfl
  | succ n ih =>
    intro a
    rw [allB, allB, allB, ih]
    cases p a <;> cases q a <;> cases allB n p (a + 1) <;> rfl
theorem allB_f {p : Int → Bool} {n : Nat} {a j : Int} (h1 : a ≤ j) (h2 : j < a + n) (hj : p j = false) : allB n p a = false := by
  cases h : allB n p a with
  | false => rfl
  | true =>
    rw [allB_iff] at h
    rw [h j h1 h2] at hj
    cases hj
theorem aB_iff {x y d s r : Int} (r0 : 0 ≤ r) : aB w h ok x y d s r = true ↔ ∀ k, 0 ≤ k → k ≤ r → gO w h ok (x + s * k * dX d) (y + s * k * dY d) d = true := by
  unfold aB
  rw [allB_iff]
  exact ⟨fun q k k0 k1 => q k k0 (by omega), fun q k k0 k1 => q k k0 (by omega)⟩
theorem mkB_fun (s : Int) (x y d x' y' d' : Int) : mkB w h ok s (some (x, y, d)) (some (x', y', d')) = fun k => (gO w h ok (x + s * k * dX d) (y + s * k * dY d) d && gO w h ok (x' + s * k * dX d') (y' + s * k * dY d') d') := by
  funext k
  unfold mkB
  rw [okshO, okshO]
/-- the class's answer is that of the cells -/
theorem mvB_mvO (r0 : 1 ≤ r) {m x y d : Int} : (if mvB w h r tn ok m (some (x, y, d)) = true then laO w h r tn m (some (x, y, d)) else none) = mvO w h r tn ok m x y d := by
  unfold mvB laO mvO seO
  by_cases h2 : 2 ≤ m
  · rw [if_pos h2, if_pos h2, if_pos h2]
    show (if allB (r + 1).toNat (mkB w h ok (sn m) (some (x, y, d)) (tuO (tI tn m) (shO w h (sn m * r) (some (x, y, d))))) 0 = true then shO w h (sn m * r) (tuO (tI tn m) (shO w h (sn m * r) (some (x, y, d)))) else none) = _
    have hsh : shO w h (sn m * r) (some (x, y, d)) = if inF w h (x + sn m * r * dX d) (y + sn m * r * dY d) = true then some (x + sn m * r * dX d, y + sn m * r * dY d, d) else none := rfl
    cases hi : inF w h (x + sn m * r * dX d) (y + sn m * r * dY d) with
    | false =>
      have h1 : aB w h ok x y d (sn m) r = false := allB_f (j := r) (by omega) (by omega) (by show gO w h ok _ _ d = false; unfold gO; rw [hi]; rfl)
      have h3 : allB (r + 1).toNat (mkB w h ok (sn m) (some (x, y, d)) (tuO (tI tn m) (shO w h (sn m * r) (some (x, y, d))))) 0 = false := allB_f (j := r) (by omega) (by omega) (by unfold mkB; rw [okshO]; unfold gO; rw [hi]; rfl)
      rw [h1, h3]
      rfl
    | true =>
      rw [hsh, hi, if_pos rfl]
      show (if allB (r + 1).toNat (mkB w h ok (sn m) (some (x, y, d)) (some (x + sn m * r * dX d, y + sn m * r * dY d, (d + tI tn m) % 8))) 0 = true then shO w h (sn m * r) (some (x + sn m * r * dX d, y + sn m * r * dY d, (d + tI tn m) % 8)) else none) = _
      rw [mkB_fun, allB_and]
      show (if (aB w h ok x y d (sn m) r && aB w h ok (x + sn m * r * dX d) (y + sn m * r * dY d) ((d + tI tn m) % 8) (sn m) r) = true then shO w h (sn m * r) (some (x + sn m * r * dX d, y + sn m * r * dY d, (d + tI tn m) % 8)) else none) = _
      by_cases hb : (aB w h ok x y d (sn m) r && aB w h ok (x + sn m * r * dX d) (y + sn m * r * dY d) ((d + tI tn m) % 8) (sn m) r) = true
      · rw [if_pos hb, if_pos hb]
        have h5 := (aB_iff (by omega)).mp (Bool.and_eq_true_iff.mp hb).2 r (by omega) (by omega)
        unfold gO at h5
        have h6 := (Bool.and_eq_true_iff.mp h5).1
        show (if inF w h _ _ = true then _ else none) = _
        rw [if_pos h6]
      · rw [if_neg hb, if_neg hb]
  · rw [if_neg h2, if_neg h2, if_neg h2]
    have e : allB 2 (mkB w h ok (sn m) (some (x, y, d)) (some (x, y, d))) 0 = aB w h ok x y d (sn m) 1 := by
      rw [mkB_fun, allB_and, Bool.and_self]
      rfl
    rw [e]
    by_cases hb : aB w h ok x y d (sn m) 1 = true
    · rw [if_pos hb, if_pos hb]
      have h5 := (aB_iff (by omega)).mp hb 1 (by omega) (by omega)
      unfold gO at h5
      have h6 := (Bool.and_eq_true_iff.mp h5).1
      rw [Int.mul_one] at h6
      show (if inF w h _ _ = true then _ else none) = _
      rw [if_pos h6, Int.mul_one]
    · rw [if_neg hb, if_neg hb]
theorem aB_rev {x y d s r : Int} (r0 : 0 ≤ r) (hb : aB w h ok x y d s r = true) : aB w h ok (x + s * r * dX d) (y + s * r * dY d) d (-s) r = true := by
  rw [aB_iff r0] at hb ⊢
  intro k k0 k1
  have := hb (r - k) (by omega) (by omega)
  have e : ∀ a x : Int, x + s * r * a + -s * k * a = x + s * (r - k) * a := by
    intro a x
    grind
  rw [e, e]
  exact this
theorem tI_inv {d t : Int} (h0 : 0 ≤ d) (h1 : d < 8) : ((d + t) % 8 + -t) % 8 = d := by
  omega
theorem sn_inv {m m' : Int} (hm : (m = 0 ∧ m' = 1) ∨ (m = 1 ∧ m' = 0) ∨ (m = 2 ∧ m' = 5) ∨ (m = 3 ∧ m' = 4) ∨ (m = 4 ∧ m' = 3) ∨ (m = 5 ∧ m' = 2)) : sn m' = -sn m ∧ tI tn m' = -tI tn m ∨ sn m' = -sn m ∧ m < 2 := by
  rcases hm with ⟨rfl, rfl⟩ | ⟨rfl, rfl⟩ | ⟨rfl, rfl⟩ | ⟨rfl, rfl⟩ | ⟨rfl, rfl⟩ | ⟨rfl, rfl⟩ <;> simp [sn, tI]
theorem mvO_sym (r0 : 1 ≤ r) {m m' x y d X Y D : Int} (hm : (m = 0 ∧ m' = 1) ∨ (m = 1 ∧ m' = 0) ∨ (m = 2 ∧ m' = 5) ∨ (m = 3 ∧ m' = 4) ∨ (m = 4 ∧ m' = 3) ∨ (m = 5 ∧ m' = 2)) (h0 : 0 ≤ d) (h1 : d < 8) (hmv : mvO w h r tn ok m x y d = some (X, Y, D)) : mvO w h r tn ok m' X Y D = some (x, y, d) := by
  have hs := sn_inv (tn := tn) hm
  unfold mvO at hmv ⊢
  by_cases h2 : 2 ≤ m
  · have h2' : 2 ≤ m' := by omega
    rw [if_pos h2] at hmv
    rw [if_pos h2']
    obtain ⟨s1, t1⟩ := hs.resolve_right (fun q => by have := q.2; omega)
    by_cases hb : (aB w h ok x y d (sn m) r && aB w h ok (x + sn m * r * dX d) (y + sn m * r * dY d) ((d + tI tn m) % 8) (sn m) r) = true
    · rw [if_pos hb] at hmv
      obtain ⟨b1, b2⟩ := Bool.and_eq_true_iff.mp hb
      have c1 := aB_rev (by omega) b1
      have c2 := aB_rev (by omega) b2
      simp only [Option.some.injEq, Prod.mk.injEq] at hmv
      obtain ⟨e1, e2, e3⟩ := hmv
      rw [e3] at c2 e1 e2
      have e4 : (D + tI tn m') % 8 = d := by
        rw [← e3, t1]
        exact tI_inv h0 h1
      have f1 : ∀ a b c : Int, a + sn m * r * b + sn m * r * c + -sn m * r * c = a + sn m * r * b := by
        intro a b c
        grind
      have f2 : ∀ a b : Int, a + sn m * r * b + -sn m * r * b = a := by
        intro a b
        grind
      rw [e4, s1, ← e1, ← e2, f1, f1, f2, f2, c1]
      rw [show aB w h ok (x + sn m * r * dX d + sn m * r * dX D) (y + sn m * r * dY d + sn m * r * dY D) D (-sn m) r = true from c2]
      rfl
    · rw [if_neg hb] at hmv
      cases hmv
  · have h2' : ¬ 2 ≤ m' := by omega
    rw [if_neg h2] at hmv
    rw [if_neg h2']
    have s1 : sn m' = -sn m := by rcases hs with q | q <;> exact q.1
    by_cases hb : aB w h ok x y d (sn m) 1 = true
    · rw [if_pos hb] at hmv
      have c1 := aB_rev (by omega) hb
      simp only [Option.some.injEq, Prod.mk.injEq] at hmv
      obtain ⟨e1, e2, e3⟩ := hmv
      have f2 : ∀ a b : Int, a + sn m * 1 * b + -sn m * 1 * b = a := by
        intro a b
        grind
      rw [s1, ← e1, ← e2, ← e3, f2, f2, c1]
      rfl
    · rw [if_neg hb] at hmv
      cases hmv
theorem mvO_vd (r0 : 1 ≤ r) {m x y d X Y D : Int} (h0 : 0 ≤ d) (h1 : d < 8) (hmv : mvO w h r tn ok m x y d = some (X, Y, D)) : gO w h ok x y d = true ∧ gO w h ok X Y D = true ∧ 0 ≤ D ∧ D < 8 ∧ D = (if 2 ≤ m then (d + tI tn m) % 8 else d) := by
  have z1 : ∀ a s b : Int, a + s * 0 * b = a := by
    intro a s b
    simp
  unfold mvO at hmv
  by_cases h2 : 2 ≤ m
  · rw [if_pos h2] at hmv ⊢
    by_cases hb : (aB w h ok x y d (sn m) r && aB w h ok (x + sn m * r * dX d) (y + sn m * r * dY d) ((d + tI tn m) % 8) (sn m) r) = true
    · rw [if_pos hb] at hmv
      simp only [Option.some.injEq, Prod.mk.injEq] at hmv
      obtain ⟨e1, e2, e3⟩ := hmv
      obtain ⟨b1, b2⟩ := Bool.and_eq_true_iff.mp hb
      have c1 := (aB_iff (by omega)).mp b1 0 (by omega) (by omega)
      have c2 := (aB_iff (by omega)).mp b2 r (by omega) (by omega)
      rw [z1, z1] at c1
      rw [← e1, ← e2, ← e3]
      exact ⟨c1, c2, (m8 _).1, (m8 _).2, rfl⟩
    · rw [if_neg hb] at hmv
      cases hmv
  · rw [if_neg h2] at hmv ⊢
    by_cases hb : aB w h ok x y d (sn m) 1 = true
    · rw [if_pos hb] at hmv
      simp only [Option.some.injEq, Prod.mk.injEq] at hmv
      obtain ⟨e1, e2, e3⟩ := hmv
      have c1 := (aB_iff (by omega)).mp hb 0 (by omega) (by omega)
      have c2 := (aB_iff (by omega)).mp hb 1 (by omega) (by omega)
      rw [z1, z1] at c1
      rw [← e1, ← e2, ← e3]
      exact ⟨c1, c2, h0, h1, rfl⟩
    · rw [if_neg hb] at hmv
      cases hmv
end MVO
