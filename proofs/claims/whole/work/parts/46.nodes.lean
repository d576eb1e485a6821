/-! PLACES as numbers: 8 * (24 * y + x) + d -/
def nX (n : Nat) : Int := ((n / 8 % 24 : Nat) : Int)
def nY (n : Nat) : Int := ((n / 192 : Nat) : Int)
def nD (n : Nat) : Int := ((n % 8 : Nat) : Int)
def nC (x y d : Int) : Nat := (8 * (24 * y + x) + d).toNat
def vN (w h tn : Int) (n : Nat) : Prop := inF w h (nX n) (nY n) = true ∧ (tn = 2 → nD n % 2 = 0)
def mvN (w h r tn : Int) (ok : Int → Int → Int → Bool) (n m : Nat) : Option Nat := (mvO w h r tn ok m (nX n) (nY n) (nD n)).map fun t => nC t.1 t.2.1 t.2.2
theorem nD_b (n : Nat) : 0 ≤ nD n ∧ nD n < 8 := by
  unfold nD
  omega
theorem nX_b (n : Nat) : 0 ≤ nX n ∧ nX n < 24 := by
  unfold nX
  omega
theorem nC_n (n : Nat) : nC (nX n) (nY n) (nD n) = n := by
  unfold nC nX nY nD
  omega
theorem n_nC {x y d : Int} (x0 : 0 ≤ x) (x1 : x < 24) (y0 : 0 ≤ y) (d0 : 0 ≤ d) (d1 : d < 8) : nX (nC x y d) = x ∧ nY (nC x y d) = y ∧ nD (nC x y d) = d := by
  unfold nC nX nY nD
  omega
theorem n_ext {p q : Nat} (h1 : nX p = nX q) (h2 : nY p = nY q) (h3 : nD p = nD q) : p = q := by
  rw [← nC_n p, ← nC_n q, h1, h2, h3]
def wlN (r : Int) (m : Nat) : Nat := if m < 2 then 1 else 2 * r.toNat
def waN (m : Nat) : Nat := if m < 2 then 0 else 1
theorem tIv_cases {m : Nat} (hm : m < 6) : ((m : Int) = 0 ∧ (tIv m : Int) = 1) ∨ ((m : Int) = 1 ∧ (tIv m : Int) = 0) ∨ ((m : Int) = 2 ∧ (tIv m : Int) = 5) ∨ ((m : Int) = 3 ∧ (tIv m : Int) = 4) ∨ ((m : Int) = 4 ∧ (tIv m : Int) = 3) ∨ ((m : Int) = 5 ∧ (tIv m : Int) = 2) := by
  unfold tIv
  split <;> omega
theorem wlN_inv {r : Int} {m : Nat} (hm : m < 6) : wlN r (tIv m) = wlN r m := by
  unfold wlN tIv
  split <;> split <;> first | rfl | omega
theorem waN_inv {m : Nat} (hm : m < 6) : waN (tIv m) = waN m := by
  unfold waN tIv
  split <;> split <;> first | rfl | omega
section NODES
variable {w h r tn : Int} {ok : Int → Int → Int → Bool}
theorem mvN_some {n m q : Nat} (hmv : mvN w h r tn ok n m = some q) : ∃ X Y D, mvO w h r tn ok m (nX n) (nY n) (nD n) = some (X, Y, D) ∧ q = nC X Y D := by
  unfold mvN at hmv
  cases he : mvO w h r tn ok m (nX n) (nY n) (nD n) with
  | none =>
    rw [he] at hmv
    cases hmv
  | some t =>
    rw [he] at hmv
    exact ⟨t.1, t.2.1, t.2.2, rfl, (Option.some.inj hmv).symm⟩
theorem gO_in {x y d : Int} (hg : gO w h ok x y d = true) : inF w h x y = true := (Bool.and_eq_true_iff.mp hg).1
/-- what a move gives -/
theorem mvN_at (hw : w ≤ 24) (r0 : 1 ≤ r) {n m q : Nat} (hmv : mvN w h r tn ok n m = some q) :
    mvO w h r tn ok m (nX n) (nY n) (nD n) = some (nX q, nY q, nD q) ∧ gO w h ok (nX n) (nY n) (nD n) = true ∧ gO w h ok (nX q) (nY q) (nD q) = true ∧ nD q = (if 2 ≤ (m : Int) then (nD n + tI tn m) % 8 else nD n) := by
  obtain ⟨X, Y, D, h1, rfl⟩ := mvN_some hmv
  obtain ⟨a1, a2, a3, a4, a5⟩ := mvO_vd r0 (nD_b n).1 (nD_b n).2 h1
  have hq := inF_iff.mp (gO_in a2)
  obtain ⟨e1, e2, e3⟩ := n_nC hq.1 (by omega) hq.2.2.1 a3 a4
  rw [e1, e2, e3]
  exact ⟨h1, a1, a2, a5⟩
theorem mvN_sym (hw : w ≤ 24) (r0 : 1 ≤ r) : ∀ p m q, m < 6 → mvN w h r tn ok p m = some q → mvN w h r tn ok q (tIv m) = some p := by
  intro p m q hm hmv
  obtain ⟨h1, -, -, -⟩ := mvN_at hw r0 hmv
  unfold mvN
  rw [mvO_sym r0 (tIv_cases hm) (nD_b p).1 (nD_b p).2 h1]
  show some (nC (nX p) (nY p) (nD p)) = some p
  rw [nC_n]
theorem mvN_v (hw : w ≤ 24) (r0 : 1 ≤ r) {p m q : Nat} (hv : vN w h tn p) (hmv : mvN w h r tn ok p m = some q) : vN w h tn q := by
  obtain ⟨-, -, h2, h3⟩ := mvN_at hw r0 hmv
  refine ⟨gO_in h2, fun e => ?_⟩
  have h4 := hv.2 e
  rw [h3]
  subst e
  by_cases h5 : 2 ≤ (m : Int)
  · rw [if_pos h5]
    unfold tI
    split <;> omega
  · rw [if_neg h5]
    exact h4
theorem inF_lt {n : Nat} (hi : inF w h (nX n) (nY n) = true) : n < (192 * h).toNat := by
  have := inF_iff.mp hi
  unfold nX nY at this
  omega
/-! no two arcs of a shortest way begin at one key -/
def k2 (x y d : Int) : Int := if d = 0 ∨ d = 4 then 25 * (x / 2) + y else if d = 2 ∨ d = 6 then 12 * x + y / 2 else if d = 1 ∨ d = 5 then 25 * (x / 2) + (y - x % 2 + 1) else 25 * (x / 2) + (y + x % 2)
def keyN (n : Nat) : Nat := (300 * nD n + k2 (nX n) (nY n) (nD n)).toNat
theorem k2_b {x y d : Int} (x0 : 0 ≤ x) (x1 : x < 24) (y0 : 0 ≤ y) (y1 : y < 24) : 0 ≤ k2 x y d ∧ k2 x y d < 300 := by
  unfold k2
  split
  · omega
  · split
    · omega
    · split <;> omega
theorem k2_adj {x y x' y' d : Int} (d0 : 0 ≤ d) (d1 : d < 8) (x0 : 0 ≤ x) (x1 : x < 24) (y0 : 0 ≤ y) (y1 : y < 24) (x0' : 0 ≤ x') (x1' : x' < 24) (y0' : 0 ≤ y') (y1' : y' < 24) (e : k2 x y d = k2 x' y' d) :
    (x' = x ∧ y' = y) ∨ (x' = x + dX d ∧ y' = y + dY d) ∨ (x' = x - dX d ∧ y' = y - dY d) := by
  rcases h8 d0 d1 with rfl | rfl | rfl | rfl | rfl | rfl | rfl | rfl <;> simp [k2, dX, dY] at e ⊢ <;> omega
theorem arcsN (hw : w ≤ 24) (hh : h ≤ 24) (r0 : 1 ≤ r) (ht : tn = 1 ∨ tn = 2) {g d L A p : Nat} (hW : Wk (mvN w h r tn ok) (wlN r) waN g d L A p) (hmin : ∀ j L' A', Wk (mvN w h r tn ok) (wlN r) waN g j L' A' p → d ≤ j) : A ≤ 2400 := by
  refine arcs_le keyN 2400 (fun m _ => rfl) ?_ ?_ ?_ hW hmin
  · intro p m q hm hmv
    obtain ⟨-, h1, -, -⟩ := mvN_at hw r0 hmv
    have hq := inF_iff.mp (gO_in h1)
    have hb := k2_b (d := nD p) hq.1 (by omega) hq.2.2.1 (show nY p < 24 by omega)
    have hd := nD_b p
    unfold keyN
    omega
  · intro p q m1 m2 r1 r2 hpq hk h1 h2 e1 e2
    obtain ⟨-, g1, -, -⟩ := mvN_at hw r0 e1
    obtain ⟨-, g2, -, -⟩ := mvN_at hw r0 e2
    have hq1 := inF_iff.mp (gO_in g1)
    have hq2 := inF_iff.mp (gO_in g2)
    have hb1 := k2_b (d := nD p) hq1.1 (by omega) hq1.2.2.1 (show nY p < 24 by omega)
    have hb2 := k2_b (d := nD q) hq2.1 (by omega) hq2.2.2.1 (show nY q < 24 by omega)
    have hd1 := nD_b p
    have hd2 := nD_b q
    unfold keyN at hk
    have hd : nD p = nD q := by omega
    rw [hd] at hk hb1
    have hk2 : k2 (nX p) (nY p) (nD q) = k2 (nX q) (nY q) (nD q) := by omega
    have go : ∀ s : Nat, s < 2 → nX q = nX p + sn s * 1 * dX (nD p) → nY q = nY p + sn s * 1 * dY (nD p) → mvN w h r tn ok p s = some q := by
      intro s hs ex ey
      have ha : aB w h ok (nX p) (nY p) (nD p) (sn s) 1 = true := by
        rw [aB_iff (by omega)]
        intro k k0 k1
        rcases (show k = 0 ∨ k = 1 by omega) with rfl | rfl
        · rw [Int.mul_zero, Int.zero_mul, Int.zero_mul, Int.add_zero, Int.add_zero]
          exact g1
        · rw [← ex, ← ey, hd]
          exact g2
      unfold mvN mvO
      rw [if_neg (by omega), if_pos ha, ← ex, ← ey, hd]
      show some (nC (nX q) (nY q) (nD q)) = some q
      rw [nC_n]
    rcases k2_adj hd2.1 hd2.2 hq1.1 (by omega) hq1.2.2.1 (by omega) hq2.1 (by omega) hq2.2.2.1 (by omega) hk2 with ⟨a, b⟩ | ⟨a, b⟩ | ⟨a, b⟩
    · exact absurd (n_ext a.symm b.symm hd) hpq
    · refine ⟨0, by omega, go 0 (by omega) ?_ ?_⟩
      · show nX q = nX p + 1 * 1 * dX (nD p)
        rw [a, hd]
        omega
      · show nY q = nY p + 1 * 1 * dY (nD p)
        rw [b, hd]
        omega
    · refine ⟨1, by omega, go 1 (by omega) ?_ ?_⟩
      · show nX q = nX p + (-1) * 1 * dX (nD p)
        rw [a, hd]
        omega
      · show nY q = nY p + (-1) * 1 * dY (nD p)
        rw [b, hd]
        omega
  · intro p q m m2 h1 h2 h3 e1 e2
    obtain ⟨-, -, -, a1⟩ := mvN_at hw r0 e1
    obtain ⟨-, -, -, a2⟩ := mvN_at hw r0 e2
    have hd := nD_b p
    rw [if_neg (by omega)] at a1
    rw [if_pos (by omega)] at a2
    unfold tI at a2
    rcases ht with rfl | rfl <;> split at a2 <;> omega
/-- a shortest way's cost, as the model counts, stays an int -/
theorem costN (hw : w ≤ 24) (hh : h ≤ 24) (r0 : 1 ≤ r) (r4 : r ≤ 4) (ht : tn = 1 ∨ tn = 2) {g d L A p : Nat} (hd : d ≤ 4608) (hW : Wk (mvN w h r tn ok) (wlN r) waN g d L A p) (hmin : ∀ j L' A', Wk (mvN w h r tn ok) (wlN r) waN g j L' A' p → d ≤ j) : 100000 * L + A < 2147483648 := by
  have h1 := arcsN hw hh r0 ht hW hmin
  have h2 := walk_len r.toNat (fun m _ => rfl) (fun m _ => rfl) d L A p hW
  have h3 : 2 * r.toNat * A ≤ 8 * A := Nat.mul_le_mul_right A (by omega)
  omega
end NODES
