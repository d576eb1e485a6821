/-! the model's moves -/
def mvI : Option Nat → Int
  | none => -1
  | some q => (q : Int)
section MMOVED
variable {F : Nat} {w h r tn : Int} {ok : Int → Int → Int → Bool} {fr : Nat → Int32}
theorem fr_at (hw : w ≤ 24) (hf : Fr w h tn ok fr) {X Y d : Int} (hi : inF w h X Y = true) (d0 : 0 ≤ d) (d1 : d < 8) (hv : tn = 2 → d % 2 = 0) : fr (8 * (24 * Y + X) + d).toNat = bI (gO w h ok X Y d) := by
  have hq := inF_iff.mp hi
  obtain ⟨n1, n2, n3⟩ := n_nC hq.1 (by omega) hq.2.2.1 d0 d1
  have h1 := hf (nC X Y d) (by rw [n1, n2]; exact hi)
  show fr (nC X Y d) = _
  rw [h1]
  unfold frV gO
  rw [n1, n2, n3, hi, show hdB tn d = true from decide_eq_true ⟨d0, d1, hv⟩]
theorem aB_split {x y d s : Int} (r0 : 0 ≤ r) : aB w h ok x y d s r = (gO w h ok x y d && allB r.toNat (fun k => gO w h ok (x + s * k * dX d) (y + s * k * dY d) d) 1) := by
  unfold aB
  rw [show (r + 1).toNat = r.toNat + 1 by omega, allB, Int.mul_zero, Int.zero_mul, Int.zero_mul, Int.add_zero, Int.add_zero]
  rfl
theorem mv63 (hw : w ≤ 24) (hh : h ≤ 24) (hw0 : 0 ≤ w) (hh0 : 0 ≤ h) (hf : Fr w h tn ok fr) {x y d s len : Int} (d0 : 0 ≤ d) (d1 : d < 8) (hv : tn = 2 → d % 2 = 0) (hs : s = 1 ∨ s = -1) (l4 : len ≤ 4) (x0 : 0 ≤ x) (x1 : x < 24) (y0 : 0 ≤ y) (y1 : y < 24) (kk : Int32 → Int32 → Int32 → Option Int32) :
    ∀ (fz c : Nat) (k : Int), c < fz → k + c = len → 0 ≤ k → J_X5_moved_L63 F (iI w) (iI h) fr (iI d) (iI s) (iI len) kk fz (iI (x + s * k * dX d)) (iI (y + s * k * dY d)) (iI k) = if allB c (fun k => gO w h ok (x + s * k * dX d) (y + s * k * dY d) d) (k + 1) = true then kk (iI (x + s * len * dX d)) (iI (y + s * len * dY d)) (iI len) else some (iI (-1)) := by
  intro fz
  induction fz with
  | zero =>
    intro c k hc
    omega
  | succ fz ih =>
    intro c k hc hk k0
    rw [J_X5_moved_L63, kIm1]
    cases c with
    | zero =>
      rw [if_pos ((iI_le (rg_lit (by omega) (by omega)) (rg_lit (by omega) (by omega))).mpr (by omega)), allB, if_pos rfl, show k = len by omega]
    | succ c =>
      have ek : ∀ a b : Int, a + s * k * b + s * b = a + s * (k + 1) * b := by
        intro a b
        grind
      have hk1 : -10 ≤ s * (k + 1) ∧ s * (k + 1) ≤ 10 := by rcases hs with e | e <;> rw [e] <;> omega
      have tx := mul_b hk1.1 hk1.2 (dX_b d).1 (dX_b d).2
      have ty := mul_b hk1.1 hk1.2 (dY_b d).1 (dY_b d).2
      rw [if_neg (fun q => by rw [iI_le (rg_lit (by omega) (by omega)) (rg_lit (by omega) (by omega))] at q; omega), dx_eq d0 d1, Option.bind_some, dy_eq d0 d1, Option.bind_some, iI_mul, iI_mul, iI_add, iI_add, ek, ek, isCell_eq (rg_lit (by omega) (by omega)) (rg_lit (by omega) (by omega)) (rg_lit (by omega) (by omega)) (rg_lit (by omega) (by omega)), Option.bind_some, bI_if, allB, iI_s]
      cases hi : inF w h (x + s * (k + 1) * dX d) (y + s * (k + 1) * dY d) with
      | false =>
        have hg : gO w h ok (x + s * (k + 1) * dX d) (y + s * (k + 1) * dY d) d = false := by
          unfold gO
          rw [hi]
          rfl
        rw [hg]
        rfl
      | true =>
        have hq := inF_iff.mp hi
        rw [if_pos rfl, place_eq, Option.bind_some, gd_in (rg_lit (by omega) (by omega)) (by omega) (by omega), iI_clamp (rg_lit (by omega) (by omega)), fr_at hw hf hi d0 d1 hv, bI_if]
        cases hg : gO w h ok (x + s * (k + 1) * dX d) (y + s * (k + 1) * dY d) d with
        | false => rfl
        | true => rw [if_pos rfl, ih c (k + 1) (by omega) (by omega) (by omega), Bool.true_and]
theorem mv204 (hw : w ≤ 24) (hh : h ≤ 24) (hw0 : 0 ≤ w) (hh0 : 0 ≤ h) (hf : Fr w h tn ok fr) {x y d s len : Int} (d0 : 0 ≤ d) (d1 : d < 8) (hv : tn = 2 → d % 2 = 0) (hs : s = 1 ∨ s = -1) (l4 : len ≤ 4) (x0 : 0 ≤ x) (x1 : x < 24) (y0 : 0 ≤ y) (y1 : y < 24) (kk : Int32 → Int32 → Int32 → Option Int32) :
    ∀ (fz c : Nat) (k : Int), c < fz → k + c = len → 0 ≤ k → J_X5_moved_L204 F (iI w) (iI h) fr (iI d) (iI s) (iI len) kk fz (iI (x + s * k * dX d)) (iI (y + s * k * dY d)) (iI k) = if allB c (fun k => gO w h ok (x + s * k * dX d) (y + s * k * dY d) d) (k + 1) = true then kk (iI (x + s * len * dX d)) (iI (y + s * len * dY d)) (iI len) else some (iI (-1)) := by
  intro fz
  induction fz with
  | zero =>
    intro c k hc
    omega
  | succ fz ih =>
    intro c k hc hk k0
    rw [J_X5_moved_L204, kIm1]
    cases c with
    | zero =>
      rw [if_pos ((iI_le (rg_lit (by omega) (by omega)) (rg_lit (by omega) (by omega))).mpr (by omega)), allB, if_pos rfl, show k = len by omega]
    | succ c =>
      have ek : ∀ a b : Int, a + s * k * b + s * b = a + s * (k + 1) * b := by
        intro a b
        grind
      have hk1 : -10 ≤ s * (k + 1) ∧ s * (k + 1) ≤ 10 := by rcases hs with e | e <;> rw [e] <;> omega
      have tx := mul_b hk1.1 hk1.2 (dX_b d).1 (dX_b d).2
      have ty := mul_b hk1.1 hk1.2 (dY_b d).1 (dY_b d).2
      rw [if_neg (fun q => by rw [iI_le (rg_lit (by omega) (by omega)) (rg_lit (by omega) (by omega))] at q; omega), dx_eq d0 d1, Option.bind_some, dy_eq d0 d1, Option.bind_some, iI_mul, iI_mul, iI_add, iI_add, ek, ek, isCell_eq (rg_lit (by omega) (by omega)) (rg_lit (by omega) (by omega)) (rg_lit (by omega) (by omega)) (rg_lit (by omega) (by omega)), Option.bind_some, bI_if, allB, iI_s]
      cases hi : inF w h (x + s * (k + 1) * dX d) (y + s * (k + 1) * dY d) with
      | false =>
        have hg : gO w h ok (x + s * (k + 1) * dX d) (y + s * (k + 1) * dY d) d = false := by
          unfold gO
          rw [hi]
          rfl
        rw [hg]
        rfl
      | true =>
        have hq := inF_iff.mp hi
        rw [if_pos rfl, place_eq, Option.bind_some, gd_in (rg_lit (by omega) (by omega)) (by omega) (by omega), iI_clamp (rg_lit (by omega) (by omega)), fr_at hw hf hi d0 d1 hv, bI_if]
        cases hg : gO w h ok (x + s * (k + 1) * dX d) (y + s * (k + 1) * dY d) d with
        | false => rfl
        | true => rw [if_pos rfl, ih c (k + 1) (by omega) (by omega) (by omega), Bool.true_and]
theorem mv63z (hw : w ≤ 24) (hh : h ≤ 24) (hw0 : 0 ≤ w) (hh0 : 0 ≤ h) (hF : 20 < F) (hf : Fr w h tn ok fr) {x y d s len : Int} (d0 : 0 ≤ d) (d1 : d < 8) (hv : tn = 2 → d % 2 = 0) (hs : s = 1 ∨ s = -1) (l0 : 0 ≤ len) (l4 : len ≤ 4) (x0 : 0 ≤ x) (x1 : x < 24) (y0 : 0 ≤ y) (y1 : y < 24) (kk : Int32 → Int32 → Int32 → Option Int32) :
    J_X5_moved_L63 F (iI w) (iI h) fr (iI d) (iI s) (iI len) kk F (iI x) (iI y) (0 : Int32) = if allB len.toNat (fun k => gO w h ok (x + s * k * dX d) (y + s * k * dY d) d) 1 = true then kk (iI (x + s * len * dX d)) (iI (y + s * len * dY d)) (iI len) else some (iI (-1)) := by
  have := mv63 (F := F) hw hh hw0 hh0 hf d0 d1 hv hs l4 x0 x1 y0 y1 kk F len.toNat 0 (by omega) (by omega) (by omega)
  rw [Int.mul_zero, Int.zero_mul, Int.zero_mul, Int.add_zero, Int.add_zero] at this
  exact this
theorem mv204z (hw : w ≤ 24) (hh : h ≤ 24) (hw0 : 0 ≤ w) (hh0 : 0 ≤ h) (hF : 20 < F) (hf : Fr w h tn ok fr) {x y d s len : Int} (d0 : 0 ≤ d) (d1 : d < 8) (hv : tn = 2 → d % 2 = 0) (hs : s = 1 ∨ s = -1) (l0 : 0 ≤ len) (l4 : len ≤ 4) (hi : inF w h x y = true) :
    (Option.bind (J_X5_place F (iI x) (iI y) (iI d)) fun v => gd (inB v 4608) (if fr v.toNatClampNeg = (0 : Int32) then some (iI (-1)) else J_X5_moved_L204 F (iI w) (iI h) fr (iI d) (iI s) (iI len) (fun x3 x4 _ => Option.bind (J_X5_place F x3 x4 (iI d)) fun v => some v) F (iI x) (iI y) (0 : Int32))) = if aB w h ok x y d s len = true then some (iI (nC (x + s * len * dX d) (y + s * len * dY d) d)) else some (iI (-1)) := by
  have hq := inF_iff.mp hi
  have := mv204 (F := F) hw hh hw0 hh0 hf d0 d1 hv hs l4 hq.1 (by omega) hq.2.2.1 (by omega) (fun x3 x4 _ => Option.bind (J_X5_place F x3 x4 (iI d)) fun v => some v) F len.toNat 0 (by omega) (by omega) (by omega)
  rw [Int.mul_zero, Int.zero_mul, Int.zero_mul, Int.add_zero, Int.add_zero] at this
  rw [place_eq, Option.bind_some, gd_in (rg_lit (by omega) (by omega)) (by omega) (by omega), iI_clamp (rg_lit (by omega) (by omega)), fr_at hw hf hi d0 d1 hv, bI_if, aB_split l0]
  cases hg : gO w h ok x y d with
  | false => rfl
  | true =>
    rw [if_pos rfl, Bool.true_and]
    refine this.trans ?_
    rw [show (0 : Int) + 1 = 1 from rfl]
    cases ha : allB len.toNat (fun k => gO w h ok (x + s * k * dX d) (y + s * k * dY d) d) 1 with
    | false => rfl
    | true =>
      rw [if_pos rfl, if_pos rfl, place_eq, Option.bind_some]
      have hb : aB w h ok x y d s len = true := by rw [aB_split l0, hg, ha]; rfl
      have hz := gO_in ((aB_iff l0).mp hb len l0 (Int.le_refl _))
      have hq2 := inF_iff.mp hz
      congr 2
      unfold nC
      omega
theorem hplus {d t : Int} (d0 : 0 ≤ d) (d1 : d < 8) (t0 : 0 ≤ t) (t1 : t < 8) : iI d + iI t - (iI d + iI t) / (8 : Int32) * (8 : Int32) = iI ((d + t) % 8) := by
  rw [kI8, iI_add, iI_dv (by omega) (by omega) (by omega) (by omega), iI_mul, iI_sub]
  congr 1
  omega
theorem hminus {d t : Int} (d0 : 0 ≤ d) (d1 : d < 8) (t0 : 0 ≤ t) (t1 : t < 8) : iI d + (8 : Int32) - iI t - (iI d + (8 : Int32) - iI t) / (8 : Int32) * (8 : Int32) = iI ((d + -t) % 8) := by
  rw [kI8, iI_add, iI_sub, iI_dv (by omega) (by omega) (by omega) (by omega), iI_mul, iI_sub]
  congr 1
  omega
/-- an arc, its second half by the caller's heading -/
theorem arc_eq (hw : w ≤ 24) (hh : h ≤ 24) (hw0 : 0 ≤ w) (hh0 : 0 ≤ h) (hF : 20 < F) (r0 : 1 ≤ r) (r4 : r ≤ 4) (hf : Fr w h tn ok fr) {p : Nat} (hp : vN w h tn p) (hg : gO w h ok (nX p) (nY p) (nD p) = true) {m : Nat} (m2 : 2 ≤ m) (m6 : m < 6) (ht : tn = 1 ∨ tn = 2) {s d' : Int} (hs : s = sn m) (hd : d' = (nD p + tI tn m) % 8) (kk : Int32 → Int32 → Int32 → Option Int32) (hkk : kk = fun x3 x4 _ => Option.bind (J_X5_place F x3 x4 (iI d')) fun v => gd (inB v 4608) (if fr v.toNatClampNeg = (0 : Int32) then some (iI (-1)) else J_X5_moved_L204 F (iI w) (iI h) fr (iI d') (iI s) (iI r) (fun x3 x4 _ => Option.bind (J_X5_place F x3 x4 (iI d')) fun v => some v) F x3 x4 (0 : Int32))) :
    J_X5_moved_L63 F (iI w) (iI h) fr (iI (nD p)) (iI s) (iI r) kk F (iI (nX p)) (iI (nY p)) (0 : Int32) = some (iI (mvI (mvN w h r tn ok p m))) := by
  have hq := inF_iff.mp hp.1
  have hsn := sn_b m
  rw [← hs] at hsn
  rw [mv63z hw hh hw0 hh0 hF hf (nD_b p).1 (nD_b p).2 hp.2 hsn (by omega) r4 hq.1 (by omega) hq.2.2.1 (by omega), hkk]
  unfold mvN mvO
  rw [if_pos (show 2 ≤ (m : Int) by omega), ← hs, ← hd, aB_split (by omega), hg, Bool.true_and]
  cases ha : allB r.toNat (fun k => gO w h ok (nX p + s * k * dX (nD p)) (nY p + s * k * dY (nD p)) (nD p)) 1 with
  | false => rfl
  | true =>
    have hb : aB w h ok (nX p) (nY p) (nD p) s r = true := by rw [aB_split (by omega), hg, ha]; rfl
    have hz := gO_in ((aB_iff (by omega)).mp hb r (by omega) (Int.le_refl _))
    have hv' : tn = 2 → d' % 2 = 0 := by
      intro e
      have := hp.2 e
      rw [hd, e]
      unfold tI
      split <;> omega
    rw [if_pos rfl, Bool.true_and]
    refine (mv204z hw hh hw0 hh0 hF hf (by rw [hd]; exact (m8 _).1) (by rw [hd]; exact (m8 _).2) hv' hsn (by omega) r4 hz).trans ?_
    by_cases hc : aB w h ok (nX p + s * r * dX (nD p)) (nY p + s * r * dY (nD p)) d' s r = true
    · rw [if_pos hc, if_pos hc]
      rfl
    · rw [if_neg hc, if_neg hc]
      rfl
theorem line_eq (hw : w ≤ 24) (hh : h ≤ 24) (hw0 : 0 ≤ w) (hh0 : 0 ≤ h) (hF : 20 < F) (hf : Fr w h tn ok fr) {p : Nat} (hp : vN w h tn p) (hg : gO w h ok (nX p) (nY p) (nD p) = true) {m : Nat} (m2 : m < 2) {s : Int} (hs : s = sn m) (kk : Int32 → Int32 → Int32 → Option Int32) (hkk : kk = fun x3 x4 _ => Option.bind (J_X5_place F x3 x4 (iI (nD p))) fun v => some v) :
    J_X5_moved_L63 F (iI w) (iI h) fr (iI (nD p)) (iI s) (iI 1) kk F (iI (nX p)) (iI (nY p)) (0 : Int32) = some (iI (mvI (mvN w h r tn ok p m))) := by
  have hq := inF_iff.mp hp.1
  have hsn := sn_b m
  rw [← hs] at hsn
  rw [mv63z hw hh hw0 hh0 hF hf (nD_b p).1 (nD_b p).2 hp.2 hsn (by omega) (by omega) hq.1 (by omega) hq.2.2.1 (by omega), hkk]
  unfold mvN mvO
  rw [if_neg (show ¬ 2 ≤ (m : Int) by omega), ← hs, aB_split (by omega), hg, Bool.true_and]
  cases ha : allB (1 : Int).toNat (fun k => gO w h ok (nX p + s * k * dX (nD p)) (nY p + s * k * dY (nD p)) (nD p)) 1 with
  | false => rfl
  | true =>
    have hb : aB w h ok (nX p) (nY p) (nD p) s 1 = true := by rw [aB_split (by omega), hg, ha]; rfl
    have hz := gO_in ((aB_iff (by omega)).mp hb 1 (by omega) (Int.le_refl _))
    have hq2 := inF_iff.mp hz
    have hd := nD_b p
    rw [if_pos rfl, if_pos rfl]
    dsimp only
    rw [place_eq, Option.bind_some]
    show _ = some (iI ((nC (nX p + s * 1 * dX (nD p)) (nY p + s * 1 * dY (nD p)) (nD p) : Nat) : Int))
    congr 2
    unfold nC
    omega
theorem moved_eq (hw : w ≤ 24) (hh : h ≤ 24) (hw0 : 0 ≤ w) (hh0 : 0 ≤ h) (hF : 20 < F) (r0 : 1 ≤ r) (r4 : r ≤ 4) (ht : tn = 1 ∨ tn = 2) (hf : Fr w h tn ok fr) {p : Nat} (hp : vN w h tn p) {m : Nat} (m6 : m < 6) :
    J_X5_moved F (iI w) (iI h) (bI (decide (tn = 2))) (iI r) fr (iI p) (iI m) = some (iI (mvI (mvN w h r tn ok p m))) := by
  have hlt := inF_lt hp.1
  have hd := nD_b p
  have hfp := fr_at hw hf hp.1 hd.1 hd.2 hp.2
  have hcp : (8 * (24 * nY p + nX p) + nD p).toNat = p := nC_n p
  rw [hcp] at hfp
  have t1 : (tn = 2 → ¬ bI (decide (tn = 2)) = (0 : Int32)) ∧ (tn = 1 → bI (decide (tn = 2)) = (0 : Int32)) := by
    refine ⟨fun e => ?_, fun e => ?_⟩ <;> subst e <;> decide
  unfold J_X5_moved
  rw [gd_in (rg_lit (by omega) (by omega)) (by omega) (by omega), iI_clamp (rg_lit (by omega) (by omega)), show ((p : Int).toNat) = p by omega, hfp, mx_eq (by omega), Option.bind_some, my_eq (by omega), Option.bind_some, md_eq (by omega), kIm1, bI_if]
  cases hg : gO w h ok (nX p) (nY p) (nD p) with
  | false =>
    rw [if_neg (by decide)]
    cases hmv : mvN w h r tn ok p m with
    | none => rfl
    | some q =>
      have := (mvN_at hw r0 hmv).2.1
      rw [hg] at this
      cases this
  | true =>
    rw [if_pos rfl]
    have hp1 := hplus (d := nD p) (t := 1) hd.1 hd.2 (by omega) (by omega)
    have hp2 := hplus (d := nD p) (t := 2) hd.1 hd.2 (by omega) (by omega)
    have hm1 := hminus (d := nD p) (t := 1) hd.1 hd.2 (by omega) (by omega)
    have hm2 := hminus (d := nD p) (t := 2) hd.1 hd.2 (by omega) (by omega)
    rw [← kI1] at hp1 hm1
    rw [← kI2] at hp2 hm2
    rw [hp1, hp2, hm1, hm2]
    rcases (show m = 0 ∨ m = 1 ∨ m = 2 ∨ m = 3 ∨ m = 4 ∨ m = 5 by omega) with rfl | rfl | rfl | rfl | rfl | rfl
    · rw [if_neg (by decide), if_pos (by decide), if_neg (by decide)]
      exact line_eq hw hh hw0 hh0 hF hf hp hg (by omega) (s := 1) rfl _ (by funext a b c; rw [if_neg (by decide)])
    · rw [if_pos (by decide), if_neg (by decide)]
      exact line_eq hw hh hw0 hh0 hF hf hp hg (by omega) (s := -1) rfl _ (by funext a b c; rw [if_neg (by decide)])
    · rw [if_neg (by decide), if_pos (by decide), if_pos (by decide)]
      rcases ht with e | e
      · exact arc_eq hw hh hw0 hh0 hF r0 r4 hf hp hg (by omega) (by omega) (Or.inl e) (s := 1) (d' := (nD p + 1) % 8) rfl (by rw [e]; rfl) _ (by funext a b c; rw [if_pos (by decide), if_pos (t1.2 e), if_pos (by decide)]; rfl)
      · exact arc_eq hw hh hw0 hh0 hF r0 r4 hf hp hg (by omega) (by omega) (Or.inr e) (s := 1) (d' := (nD p + 2) % 8) rfl (by rw [e]; rfl) _ (by funext a b c; rw [if_pos (by decide), if_neg (t1.1 e), if_pos (by decide)]; rfl)
    · rw [if_neg (by decide), if_pos (by decide), if_pos (by decide)]
      rcases ht with e | e
      · exact arc_eq hw hh hw0 hh0 hF r0 r4 hf hp hg (by omega) (by omega) (Or.inl e) (s := 1) (d' := (nD p + -1) % 8) rfl (by rw [e]; rfl) _ (by funext a b c; rw [if_pos (by decide), if_pos (t1.2 e), if_neg (by decide)]; rfl)
      · exact arc_eq hw hh hw0 hh0 hF r0 r4 hf hp hg (by omega) (by omega) (Or.inr e) (s := 1) (d' := (nD p + -2) % 8) rfl (by rw [e]; rfl) _ (by funext a b c; rw [if_pos (by decide), if_neg (t1.1 e), if_neg (by decide)]; rfl)
    · rw [if_neg (by decide), if_neg (by decide), if_pos (by decide)]
      rcases ht with e | e
      · exact arc_eq hw hh hw0 hh0 hF r0 r4 hf hp hg (by omega) (by omega) (Or.inl e) (s := -1) (d' := (nD p + 1) % 8) rfl (by rw [e]; rfl) _ (by funext a b c; rw [if_pos (by decide), if_pos (t1.2 e), if_pos (by decide)])
      · exact arc_eq hw hh hw0 hh0 hF r0 r4 hf hp hg (by omega) (by omega) (Or.inr e) (s := -1) (d' := (nD p + 2) % 8) rfl (by rw [e]; rfl) _ (by funext a b c; rw [if_pos (by decide), if_neg (t1.1 e), if_pos (by decide)])
    · rw [if_neg (by decide), if_neg (by decide), if_pos (by decide)]
      rcases ht with e | e
      · exact arc_eq hw hh hw0 hh0 hF r0 r4 hf hp hg (by omega) (by omega) (Or.inl e) (s := -1) (d' := (nD p + -1) % 8) rfl (by rw [e]; rfl) _ (by funext a b c; rw [if_pos (by decide), if_pos (t1.2 e), if_neg (by decide)])
      · exact arc_eq hw hh hw0 hh0 hF r0 r4 hf hp hg (by omega) (by omega) (Or.inr e) (s := -1) (d' := (nD p + -2) % 8) rfl (by rw [e]; rfl) _ (by funext a b c; rw [if_pos (by decide), if_neg (t1.1 e), if_neg (by decide)])
end MMOVED
