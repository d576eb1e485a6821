/-! following the way, in both -/
section FOLLOW
variable {F : Nat}
theorem add_bind {α : Type} (err s : UInt64) (K : UInt64 → Option α) :
    (gd (nfD (FP.dadd err s))
              (if (Op.cmpValue (FP.dcmp (FP.dadd err s) (4602678819172646912 : UInt64)) .l) ≤ (0 : Int32) then
                (if (0 : Int32) ≤ (Op.cmpValue (FP.dcmp (FP.dadd err s) (13826050856027422720 : UInt64)) .g) then
                  (K (FP.dadd err s))
                else
                  (gd (nfD (FP.dadd (FP.dadd err s) FP.dconst1))
                    (K (FP.dadd (FP.dadd err s) FP.dconst1))))
              else
                (gd (nfD (FP.dsub (FP.dadd err s) FP.dconst1))
                  (K (FP.dsub (FP.dadd err s) FP.dconst1))))) = Option.bind (J_X4_addToError F err s) K := by
  unfold J_X4_addToError
  generalize FP.dadd err s = a
  generalize FP.dadd a FP.dconst1 = b
  generalize FP.dsub a FP.dconst1 = c
  cases nfD a with
  | false => rfl
  | true =>
    show (if _ then (if _ then _ else _) else _) = Option.bind (if _ then (if _ then _ else _) else _) K
    by_cases h1 : (Op.cmpValue (FP.dcmp a (4602678819172646912 : UInt64)) .l) ≤ (0 : Int32)
    · rw [if_pos h1, if_pos h1]
      by_cases h2 : (0 : Int32) ≤ (Op.cmpValue (FP.dcmp a (13826050856027422720 : UInt64)) .g)
      · rw [if_pos h2, if_pos h2]
        rfl
      · rw [if_neg h2, if_neg h2]
        cases nfD b <;> rfl
    · rw [if_neg h1, if_neg h1]
      cases nfD c <;> rfl
theorem hasMove_eq {d i : Int} (hd : rg d) (hi : rg i) : J_X3_hasMove F (iI d) (iI i) = some (bI (decide (0 ≤ i ∧ i < d))) := by
  unfold J_X3_hasMove
  by_cases h1 : i < 0
  · rw [if_pos ((iI_lt0 hi).mpr h1), bI_f (by omega)]
  · rw [if_neg (fun z => h1 ((iI_lt0 hi).mp z))]
    by_cases h2 : d ≤ i
    · rw [if_pos ((iI_le hd hi).mpr h2), bI_f (by omega)]
    · rw [if_neg (fun z => h2 ((iI_le hd hi).mp z)), bI_t (by omega)]
theorem placeBehind_eq {nPl : Nat} {pl : Nat → Int32} {d i : Int} (hd : rg d) (i0 : 0 ≤ i) (i1 : i < d) (hn : d ≤ nPl) (hn2 : nPl < 2147483648) : J_X3_placeBehind F (iI d) nPl pl (iI i) = some (pl i.toNat) := by
  have := hd.2
  have hi : rg i := rg_lit (by omega) (by omega)
  unfold J_X3_placeBehind
  rw [hasMove_eq hd hi, Option.bind_some, bI_if, if_pos (decide_eq_true ⟨i0, i1⟩), if_neg (fun z => by rw [nI_iI, iI_le (rg_lit (by omega) (by omega)) hi] at z; omega), gd_in hi i0 (by omega), iI_clamp hi]
theorem moveAt_eq {nMv : Nat} {mv : Nat → Int32} {d i : Int} (hd : rg d) (i0 : 0 ≤ i) (i1 : i < d) (hn : d ≤ nMv) (hn2 : nMv < 2147483648) : J_X3_moveAt F (iI d) nMv mv (iI i) = some (mv i.toNat) := by
  have := hd.2
  have hi : rg i := rg_lit (by omega) (by omega)
  unfold J_X3_moveAt
  rw [hasMove_eq hd hi, Option.bind_some, bI_if, if_pos (decide_eq_true ⟨i0, i1⟩), if_neg (fun z => by rw [nI_iI, iI_le (rg_lit (by omega) (by omega)) hi] at z; omega), gd_in hi i0 (by omega), iI_clamp hi]
theorem fol_loop {nPl : Nat} {pl be : Nat → Int32} {d : Nat} {P : Nat → Nat} {x : Int32} (h0 : -8 ≤ x.toInt) (h1 : x.toInt ≤ 8) (hn : d ≤ nPl) (hd : d < 4608) (hn2 : nPl < 2147483648) (hpl : ∀ j, j < d → pl j = iI (pN (P (j + 1))) ∧ be j = iI (P (j + 1))) (hb : Bool) {N : Int} (N1 : N ≤ 1000) :
    ∀ (fz c m : Nat) (k : Int) (e : UInt64), c < fz → k + c = N → 0 ≤ k → m ≤ d → e ∈ errL → ∃ a e' m', e' ∈ errL ∧ m' ≤ d ∧
      J_X4_follow_L55 F (bI hb) (iI d) nPl pl (iI N) (FP.dmul (FP.i2d x) (4593671619917905920 : UInt64)) (fun _ a b c => some ((1 : Int32), a, b, c)) fz (iI k) (iI (pN (P m))) e (iI m) = some (a, iI (pN (P m')), e', iI m') ∧
      J_X5_follow_L46 F (bI hb) (iI d) be (iI N) (FP.dmul (FP.i2d x) (4593671619917905920 : UInt64)) (0 : Int32) (fun _ a b c => some ((1 : Int32), (0 : Int32), a, b, c)) fz (iI k) (iI (P m)) e (iI m) = some (a, 0, iI (P m'), e', iI m') := by
  intro fz
  induction fz with
  | zero =>
    intro c m k e hc
    omega
  | succ fz ih =>
    intro c m k e hc hk k0 hm he
    rw [J_X4_follow_L55, J_X5_follow_L46]
    cases c with
    | zero =>
      rw [if_pos ((iI_le (rg_lit (by omega) (by omega)) (rg_lit (by omega) (by omega))).mpr (by omega)), if_pos ((iI_le (rg_lit (by omega) (by omega)) (rg_lit (by omega) (by omega))).mpr (by omega))]
      exact ⟨1, e, m, he, hm, rfl, rfl⟩
    | succ c =>
      have hNk : ¬ iI N ≤ iI k := fun z => by rw [iI_le (rg_lit (by omega) (by omega)) (rg_lit (by omega) (by omega))] at z; omega
      rw [if_neg hNk, if_neg hNk, hasMove_eq (rg_lit (by omega) (by omega)) (rg_lit (by omega) (by omega)), Option.bind_some, bI_if]
      by_cases hmd : m < d
      · have hdm : ¬ iI (d : Int) ≤ iI (m : Int) := fun z => by rw [iI_le (rg_lit (by omega) (by omega)) (rg_lit (by omega) (by omega))] at z; omega
        rw [if_pos (decide_eq_true (show (0 : Int) ≤ (m : Int) ∧ (m : Int) < (d : Int) from ⟨by omega, by omega⟩)), if_neg hdm]
        cases hb with
        | false => exact ⟨2, e, m, he, hm, rfl, rfl⟩
        | true =>
          have hbt : ¬ bI true = (0 : Int32) := by decide
          rw [if_neg hbt, if_neg hbt, placeBehind_eq (rg_lit (by omega) (by omega)) (by omega) (by omega) (by omega) hn2, Option.bind_some, gd_in (rg_lit (by omega) (by omega)) (by omega) (by omega), iI_clamp (rg_lit (by omega) (by omega)), show ((m : Int).toNat) = m by omega, (hpl m hmd).1, (hpl m hmd).2, iI_s, iI_s]
          obtain ⟨v, hv, hvL⟩ := err_step (F := F) he h0 h1
          rw [hv, Option.bind_some]
          obtain ⟨a, e', m', q1, q2, q3, q4⟩ := ih c (m + 1) (k + 1) v (by omega) (by omega) (by omega) (by omega) hvL
          refine ⟨a, e', m', q1, q2, q3, ?_⟩
          rw [← q4]
          have hab := add_bind (F := F) e (FP.dmul (FP.i2d x) (4593671619917905920 : UInt64)) (fun b => J_X5_follow_L46 F (bI true) (iI d) be (iI N) (FP.dmul (FP.i2d x) (4593671619917905920 : UInt64)) (0 : Int32) (fun _ a b c => some ((1 : Int32), (0 : Int32), a, b, c)) fz (iI (k + 1)) (iI (P (m + 1))) b (iI ((m : Int) + 1)))
          rw [hv, Option.bind_some] at hab
          exact hab
      · have hdm : iI (d : Int) ≤ iI (m : Int) := (iI_le (rg_lit (by omega) (by omega)) (rg_lit (by omega) (by omega))).mpr (by omega)
        rw [if_neg (show ¬ decide ((0 : Int) ≤ (m : Int) ∧ (m : Int) < (d : Int)) = true by rw [decide_eq_true_iff]; omega), if_pos hdm]
        exact ⟨1, e, m, he, hm, rfl, rfl⟩
/-- follow: refused, or the same steps -/
theorem follow_eq {nPl : Nat} {pl be : Nat → Int32} {d m : Nat} {P : Nat → Nat} {x : Int32} (hF : 7000 < F) (hn : d ≤ nPl) (hd : d < 4608) (hn2 : nPl < 2147483648) (hpl : ∀ j, j < d → pl j = iI (pN (P (j + 1))) ∧ be j = iI (P (j + 1))) (hb : Bool) {N : Int} (hN : rg N) (hm : m ≤ d) {e : UInt64} (he : e ∈ errL) :
    ∃ a e' m', e' ∈ errL ∧ m' ≤ d ∧
      J_X4_follow F (iI (pN (P m))) (bI hb) e (iI d) (iI m) (1 : Int32) nPl pl (iI N) (FP.dmul (FP.i2d x) (4593671619917905920 : UInt64)) = some (a, iI (pN (P m')), e', iI m') ∧
      J_X5_follow F (iI (P m)) (bI hb) e (1 : Int32) (iI d) (iI m) be (iI N) (FP.dmul (FP.i2d x) (4593671619917905920 : UInt64)) = some (a, 0, iI (P m'), e', iI m') := by
  have hsc := slip_cases x
  unfold J_X4_follow J_X5_follow
  rw [show (1 : Int32) = iI 1 from rfl, show (1000 : Int32) = iI 1000 from rfl, isFrom_eq F (rg_lit (by omega) (by omega)) hN (rg_lit (by omega) (by omega))]
  by_cases hr : 1 ≤ N ∧ N ≤ 1000
  · simp only [Option.bind_some, bI_if, decide_eq_true hr, if_true]
    rw [if_neg (show ¬ iI N < iI 1 from fun z => by rw [iI_lt hN (rg_lit (by omega) (by omega))] at z; omega), if_neg (show ¬ iI 1000 < iI N from fun z => by rw [iI_lt (rg_lit (by omega) (by omega)) hN] at z; omega)]
    by_cases c1 : (Op.cmpValue (FP.dcmp (FP.dmul (FP.i2d x) (4593671619917905920 : UInt64)) (13830554455654793216 : UInt64)) .l) < (0 : Int32)
    · rw [if_pos c1, if_pos c1]
      exact ⟨-2, e, m, he, hm, rfl, rfl⟩
    · rw [if_neg c1, if_neg c1]
      by_cases c2 : (0 : Int32) < (Op.cmpValue (FP.dcmp (FP.dmul (FP.i2d x) (4593671619917905920 : UInt64)) FP.dconst1) .g)
      · rw [if_pos c2, if_neg (Int32.not_le.mpr c2)]
        exact ⟨-2, e, m, he, hm, rfl, rfl⟩
      · rw [if_neg c2, if_pos (Int32.not_lt.mp c2), if_neg (by decide), if_neg (by decide)]
        have hx : -8 ≤ x.toInt ∧ x.toInt ≤ 8 := by
          rcases hsc with q | q | q
          · exact q
          · exact absurd q c1
          · exact absurd q c2
        exact fol_loop hx.1 hx.2 hn hd hn2 hpl hb hr.2 F N.toNat m 0 e (by omega) (by omega) (by omega) hm he
  · simp only [Option.bind_some, bI_if, decide_eq_false hr, Bool.false_eq_true, if_false]
    have : ∀ {α : Type} (c1 c2 : Prop) [Decidable c1] [Decidable c2] (u : α), (if c1 then u else if c2 then u else u) = u := by
      intro α c1 c2 _ _ u
      split
      · rfl
      · split <;> rfl
    have hM : ∀ (u v : Option (Int32 × Int32 × Int32 × UInt64 × Int32)), (if iI N < iI 1 then u else if iI 1000 < iI N then u else v) = u := by
      intro u v
      by_cases q : N < 1
      · rw [if_pos ((iI_lt hN (rg_lit (by omega) (by omega))).mpr q)]
      · rw [if_neg (fun z => q ((iI_lt hN (rg_lit (by omega) (by omega))).mp z)), if_pos ((iI_lt (rg_lit (by omega) (by omega)) hN).mpr (by omega))]
    rw [hM, this]
    exact ⟨-2, e, m, he, hm, rfl, rfl⟩
/-- follow without a way -/
theorem follow_no {nPl : Nat} {pl be : Nat → Int32} {x : Int32} (mvs mde' : Int32) (hld : Int32) {N : Int} (hN : rg N) (p c : Int32) {e : UInt64} :
    ∃ a, J_X4_follow F p hld e (0 : Int32) (0 : Int32) (0 : Int32) nPl pl (iI N) (FP.dmul (FP.i2d x) (4593671619917905920 : UInt64)) = some (a, p, e, 0) ∧
      J_X5_follow F c hld e (0 : Int32) mvs mde' be (iI N) (FP.dmul (FP.i2d x) (4593671619917905920 : UInt64)) = some (a, 0, c, e, mde') := by
  unfold J_X4_follow J_X5_follow
  rw [show (1 : Int32) = iI 1 from rfl, show (1000 : Int32) = iI 1000 from rfl, isFrom_eq F (rg_lit (by omega) (by omega)) hN (rg_lit (by omega) (by omega))]
  by_cases hr : 1 ≤ N ∧ N ≤ 1000
  · simp only [Option.bind_some, bI_if, decide_eq_true hr, if_true]
    rw [if_neg (show ¬ iI N < iI 1 from fun z => by rw [iI_lt hN (rg_lit (by omega) (by omega))] at z; omega), if_neg (show ¬ iI 1000 < iI N from fun z => by rw [iI_lt (rg_lit (by omega) (by omega)) hN] at z; omega)]
    by_cases c1 : (Op.cmpValue (FP.dcmp (FP.dmul (FP.i2d x) (4593671619917905920 : UInt64)) (13830554455654793216 : UInt64)) .l) < (0 : Int32)
    · rw [if_pos c1, if_pos c1]
      exact ⟨-2, rfl, rfl⟩
    · rw [if_neg c1, if_neg c1]
      by_cases c2 : (0 : Int32) < (Op.cmpValue (FP.dcmp (FP.dmul (FP.i2d x) (4593671619917905920 : UInt64)) FP.dconst1) .g)
      · rw [if_pos c2, if_neg (Int32.not_le.mpr c2)]
        exact ⟨-2, rfl, rfl⟩
      · rw [if_neg c2, if_pos (Int32.not_lt.mp c2)]
        exact ⟨0, rfl, rfl⟩
  · simp only [Option.bind_some, bI_if, decide_eq_false hr, Bool.false_eq_true, if_false]
    have : ∀ {α : Type} (c1 c2 : Prop) [Decidable c1] [Decidable c2] (u : α), (if c1 then u else if c2 then u else u) = u := by
      intro α c1 c2 _ _ u
      split
      · rfl
      · split <;> rfl
    have hM : ∀ (u v : Option (Int32 × Int32 × Int32 × UInt64 × Int32)), (if iI N < iI 1 then u else if iI 1000 < iI N then u else v) = u := by
      intro u v
      by_cases q : N < 1
      · rw [if_pos ((iI_lt hN (rg_lit (by omega) (by omega))).mpr q)]
      · rw [if_neg (fun z => q ((iI_lt hN (rg_lit (by omega) (by omega))).mp z)), if_pos ((iI_lt (rg_lit (by omega) (by omega)) hN).mpr (by omega))]
    rw [hM, this]
    exact ⟨-2, rfl, rfl⟩
end FOLLOW
