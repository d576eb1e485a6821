/-! spaces in a row -/
def runN : Nat → (Int → Bool) → Int → Nat
  | 0, _, _ => 0
  | c + 1, f, u => if f u = true then 0 else runN c f (u + 1) + 1
def frN (f : Int → Bool) (least : Int) : Nat → Int → Int
  | 0, _ => -1
  | c + 1, x => if least ≤ runN (c + 1) f x then x else frN f least c (x + 1)
theorem runN_le {f : Int → Bool} : ∀ c u, runN c f u ≤ c := by
  intro c
  induction c with
  | zero =>
    intro u
    exact Nat.le_refl 0
  | succ c ih =>
    intro u
    have := ih (u + 1)
    rw [runN]
    split <;> omega
theorem frN_skip {f : Int → Bool} {least : Int} : ∀ (c : Nat) (x : Int) (n : Nat), runN c f x = n → (n : Int) < least → frN f least c x = frN f least (c - (n + 1)) (x + (n + 1)) := by
  intro c
  induction c with
  | zero =>
    intro x n _ _
    rw [Nat.zero_sub]
    rfl
  | succ c ih =>
    intro x n hn hl
    rw [frN, hn, if_neg (by omega)]
    rw [runN] at hn
    by_cases e : f x = true
    · rw [if_pos e] at hn
      subst hn
      congr 1
    · rw [if_neg e] at hn
      rw [ih (x + 1) (runN c f (x + 1)) rfl (by omega)]
      congr 1 <;> omega
theorem frN_some {f : Int → Bool} {least : Int} : ∀ (c : Nat) (x : Int), frN f least c x = -1 ∨ (x ≤ frN f least c x ∧ frN f least c x < x + c ∧ least ≤ runN (x + c - frN f least c x).toNat f (frN f least c x)) := by
  intro c
  induction c with
  | zero =>
    intro x
    exact Or.inl rfl
  | succ c ih =>
    intro x
    rw [frN]
    by_cases e : least ≤ runN (c + 1) f x
    · rw [if_pos e]
      right
      refine ⟨by omega, by omega, ?_⟩
      rw [show (x + ((c + 1 : Nat) : Int) - x).toNat = c + 1 by omega]
      exact e
    · rw [if_neg e]
      rcases ih (x + 1) with h | ⟨h1, h2, h3⟩
      · exact Or.inl h
      · right
        refine ⟨by omega, by omega, ?_⟩
        rw [show (x + ((c + 1 : Nat) : Int) - frN f least c (x + 1)).toNat = (x + 1 + (c : Int) - frN f least c (x + 1)).toNat by omega]
        exact h3
section SPACE
variable {F : Nat} {w h : Int} {n : Nat} {fl : Int → Int → Bool} {fu mf : Nat → Int32}
theorem runL_eq (hw : w ≤ 24) (hh : h ≤ 24) (hw0 : 0 ≤ w) (hh0 : 0 ≤ h) (hF : 100 < F) (hn : n = (h * 32).toNat) (hfu : ∀ x y, inF w h x y = true → fu (y * 32 + x).toNat = bI (fl x y)) {x y : Int} (x0 : 0 ≤ x) (x1 : x ≤ w) (y0 : 0 ≤ y) (y1 : y < h) :
    J_X1_runLength F (iI w) (iI h) n fu (iI x) (iI y) = some (iI (runN (w - x).toNat (fun u => fl u y) x)) := by
  have go : ∀ (fz c : Nat) (k u : Int), c < fz → u + c = w → 0 ≤ u → 0 ≤ k → k ≤ u → J_X1_runLength_L5 F (iI w) (iI h) n fu (iI y) (fun x3 x4 => some x3) fz (iI k) (iI u) = some (iI (k + runN c (fun u => fl u y) u)) := by
    intro fz
    induction fz with
    | zero =>
      intro c k u hc
      omega
    | succ fz ih =>
      intro c k u hc hu u0 k0 ku
      rw [J_X1_runLength_L5]
      cases c with
      | zero =>
        rw [if_pos ((iI_le (rg_lit (by omega) (by omega)) (rg_lit (by omega) (by omega))).mpr (by omega)), runN]
        show some (iI k) = some (iI (k + 0))
        rw [Int.add_zero]
      | succ c =>
        have hi : inF w h u y = true := inF_iff.mpr ⟨u0, by omega, y0, y1⟩
        rw [if_neg (fun z => by rw [iI_le (rg_lit (by omega) (by omega)) (rg_lit (by omega) (by omega))] at z; omega), isFull_eq F (by omega) (by omega) hn hw0 hh0 (rg_lit (by omega) (by omega)) (rg_lit (by omega) (by omega)) hfu, Option.bind_some, bI_if, hi, Bool.true_and, runN]
        cases hf : fl u y with
        | true =>
          show some (iI k) = some (iI (k + 0))
          rw [Int.add_zero]
        | false =>
          rw [if_neg (by decide), if_neg (by decide), iI_s, iI_s, ih c (k + 1) (u + 1) (by omega) (by omega) (by omega) (by omega) (by omega)]
          congr 2
          omega
  unfold J_X1_runLength
  rw [kI0, go F (w - x).toNat 0 x (by omega) (by omega) x0 (by omega) x0]
  congr 2
  omega
theorem firstRun_eq (hw : w ≤ 24) (hh : h ≤ 24) (hw0 : 0 ≤ w) (hh0 : 0 ≤ h) (hF : 100 < F) (hn : n = (h * 32).toNat) (hfu : ∀ x y, inF w h x y = true → fu (y * 32 + x).toNat = bI (fl x y)) {y least : Int} (y0 : 0 ≤ y) (y1 : y < h) (l0 : 1 ≤ least) (l1 : least ≤ w) :
    J_X1_firstRun F (iI w) (iI h) n fu (iI y) (iI least) = some (iI (frN (fun u => fl u y) least w.toNat 0)) := by
  have go : ∀ (fz c : Nat) (x : Int), c < fz → x + c = w → 0 ≤ x → J_X1_firstRun_L2 F (iI w) (iI h) n fu (iI y) (iI least) (fun x3 => some (-1 : Int32)) fz (iI x) = some (iI (frN (fun u => fl u y) least c x)) := by
    intro fz
    induction fz with
    | zero =>
      intro c x hc
      omega
    | succ fz ih =>
      intro c x hc hx x0
      rw [J_X1_firstRun_L2]
      cases c with
      | zero =>
        rw [if_pos ((iI_le (rg_lit (by omega) (by omega)) (rg_lit (by omega) (by omega))).mpr (by omega)), frN, kIm1]
      | succ c =>
        have hr := runN_le (f := fun u => fl u y) (c + 1) x
        rw [if_neg (fun z => by rw [iI_le (rg_lit (by omega) (by omega)) (rg_lit (by omega) (by omega))] at z; omega), runL_eq hw hh hw0 hh0 hF hn hfu x0 (by omega) y0 y1, Option.bind_some, show (w - x).toNat = c + 1 by omega, frN]
        by_cases e : least ≤ runN (c + 1) (fun u => fl u y) x
        · rw [if_neg (fun z => by rw [iI_lt (rg_lit (by omega) (by omega)) (rg_lit (by omega) (by omega))] at z; omega), if_pos e]
        · rw [if_pos ((iI_lt (rg_lit (by omega) (by omega)) (rg_lit (by omega) (by omega))).mpr (by omega)), if_neg e, iI_s]
          exact ih c (x + 1) (by omega) (by omega) (by omega)
  unfold J_X1_firstRun
  rw [kI0, go F w.toNat 0 (by omega) (by omega) (by omega)]
theorem mrun_eq (hw : w ≤ 24) (hh : h ≤ 24) (hw0 : 0 ≤ w) (hh0 : 0 ≤ h) (hm : Mf w h fl mf) {x y : Int} (x0 : 0 ≤ x) (y0 : 0 ≤ y) (y1 : y < h) (kk : Int32 → Option (Int32 × Int32 × Int32 × Int32)) :
    ∀ (fz c : Nat) (k : Int), c < fz → x + k + c = w → 0 ≤ k → J_X5_space_L51 F (iI w) mf (iI y) (iI x) kk fz (iI k) = kk (iI (k + runN c (fun u => fl u y) (x + k))) := by
  intro fz
  induction fz with
  | zero =>
    intro c k hc
    omega
  | succ fz ih =>
    intro c k hc hk k0
    rw [J_X5_space_L51, iI_add]
    cases c with
    | zero =>
      rw [if_pos ((iI_le (rg_lit (by omega) (by omega)) (rg_lit (by omega) (by omega))).mpr (by omega)), runN]
      congr 2
      omega
    | succ c =>
      have hi : inF w h (x + k) y = true := inF_iff.mpr ⟨by omega, by omega, y0, y1⟩
      rw [if_neg (fun z => by rw [iI_le (rg_lit (by omega) (by omega)) (rg_lit (by omega) (by omega))] at z; omega), kI24, iI_mul, iI_add, iI_add, show 24 * y + x + k = 24 * y + (x + k) by omega, gd_in (rg_lit (by omega) (by omega)) (by omega) (by omega), iI_clamp (rg_lit (by omega) (by omega)), hm (x + k) y hi, bI_if, runN]
      cases hf : fl (x + k) y with
      | true =>
        rw [if_pos rfl, if_pos rfl]
        congr 2
        omega
      | false =>
        rw [if_neg (by decide), if_neg (by decide), iI_s, ih c (k + 1) (by omega) (by omega) (by omega), show x + (k + 1) = x + k + 1 by omega]
        congr 2
        omega
/-- where the goal comes to lie -/
def spG (f : Int → Bool) (w s : Int) : Int := s + ((runN (w - s).toNat f s : Nat) - 1) / 2
theorem m39 (hw : w ≤ 24) (hh : h ≤ 24) (hw0 : 0 ≤ w) (hh0 : 0 ≤ h) (hF : 100 < F) (hm : Mf w h fl mf) {y least : Int} (y0 : 0 ≤ y) (y1 : y < h) (l0 : 1 ≤ least) (l1 : least ≤ w) (g isw : Int32) :
    ∀ (fz c : Nat) (x : Int), c < fz → x + c = w → 0 ≤ x → J_X5_space_L39 F (iI w) mf (iI least) (iI y) (0 : Int32) (fun _ a b => some ((0 : Int32), (0 : Int32), a, b)) fz (iI x) g isw = if frN (fun u => fl u y) least c x = -1 then some ((0 : Int32), (0 : Int32), g, isw) else some (iI (frN (fun u => fl u y) least c x + 1), (0 : Int32), iI (8 * (24 * y + spG (fun u => fl u y) w (frN (fun u => fl u y) least c x))), (0 : Int32)) := by
  intro fz
  induction fz with
  | zero =>
    intro c x hc
    omega
  | succ fz ih =>
    intro c x hc hx x0
    rw [J_X5_space_L39]
    cases c with
    | zero =>
      rw [if_pos ((iI_le (rg_lit (by omega) (by omega)) (rg_lit (by omega) (by omega))).mpr (by omega)), frN, if_pos rfl]
    | succ c =>
      have hr := runN_le (f := fun u => fl u y) (c + 1) x
      rw [if_neg (fun z => by rw [iI_le (rg_lit (by omega) (by omega)) (rg_lit (by omega) (by omega))] at z; omega), kI0, mrun_eq hw hh hw0 hh0 hm x0 y0 y1 _ F (c + 1) 0 (by omega) (by omega) (by omega), Int.zero_add, Int.add_zero]
      generalize hrn : runN (c + 1) (fun u => fl u y) x = rn at hr ⊢
      by_cases e : least ≤ rn
      · rw [if_neg (fun z => by rw [iI_lt (rg_lit (by omega) (by omega)) (rg_lit (by omega) (by omega))] at z; omega), frN, hrn, if_pos e, if_neg (by omega), kI1, iI_sub, half_eq (by omega) (by omega), iI_add, place_eq, Option.bind_some, iI_add]
        unfold spG
        rw [show (w - x).toNat = c + 1 by omega, hrn, Int.add_zero]
      · rw [if_pos ((iI_lt (rg_lit (by omega) (by omega)) (rg_lit (by omega) (by omega))).mpr (by omega)), frN_skip (c + 1) x rn hrn (by omega), iI_s, iI_add]
        by_cases e2 : rn = c + 1
        · have hz : ∀ fz, 0 < fz → J_X5_space_L39 F (iI w) mf (iI least) (iI y) (iI 0) (fun _ a b => some (iI 0, iI 0, a, b)) fz (iI (x + ((rn : Int) + 1))) g isw = some (iI 0, iI 0, g, isw) := by
            intro fz hfz
            cases fz with
            | zero => omega
            | succ fz => rw [J_X5_space_L39, if_pos ((iI_le (rg_lit (by omega) (by omega)) (rg_lit (by omega) (by omega))).mpr (by omega))]
          rw [hz fz (by omega), show c + 1 - (rn + 1) = 0 by omega, frN, if_pos rfl]
        · exact ih (c + 1 - (rn + 1)) (x + ((rn : Int) + 1)) (by omega) (by omega) (by omega)
theorem space_eq {tn : Int} (hw : w ≤ 24) (hh : h ≤ 24) (hw0 : 1 ≤ w) (hh0 : 1 ≤ h) (hF : 100 < F) (hn : n = (h * 32).toNat) (hfu : ∀ x y, inF w h x y = true → fu (y * 32 + x).toNat = bI (fl x y)) (hm : Mf w h fl mf) {g : Nat} (cnt mde stn isw : Int32) {s0 least : Int} (hs : rg s0) (hl : rg least) :
    (∃ a, J_X4_space F (iI (pN g)) (iI w) (iI h) n fu cnt mde stn (iI s0) (iI least) = some (a, iI (pN g), cnt, mde, stn) ∧ J_X5_space F (iI w) (iI h) (iI g) isw mf (iI s0) (iI least) = some (a, 0, iI g, isw)) ∨
    (∃ a g', vN w h tn g' ∧ J_X4_space F (iI (pN g)) (iI w) (iI h) n fu cnt mde stn (iI s0) (iI least) = some (a, iI (pN g'), 0, 0, 0) ∧ J_X5_space F (iI w) (iI h) (iI g) isw mf (iI s0) (iI least) = some (a, 0, iI g', 0)) := by
  unfold J_X4_space J_X5_space
  rw [show (1 : Int32) = iI 1 from rfl, isFrom_eq F (rg_lit (by omega) (by omega)) hl (rg_lit (by omega) (by omega)), Option.bind_some, bI_if]
  by_cases e1 : 1 ≤ least
  · by_cases e2 : least ≤ w
    · rw [if_pos (decide_eq_true (show 1 ≤ least ∧ least ≤ w from ⟨e1, e2⟩)), if_neg (show ¬ iI least < iI 1 from fun z => by rw [iI_lt hl (rg_lit (by omega) (by omega))] at z; omega), if_pos ((iI_le hl (rg_lit (by omega) (by omega))).mpr e2), iI_sub]
      have go : ∀ y : Int, 0 ≤ y → y < h →
          (∃ a, (Option.bind (J_X1_firstRun F (iI w) (iI h) n fu (iI y) (iI least)) fun v_9 =>
          (if (0 : Int32) ≤ v_9 then
            (Option.bind (J_X1_runLength F (iI w) (iI h) n fu v_9 (iI y)) fun v_11 =>
              (Option.bind (J_X4_placeAt F (v_9 + ((v_11 - iI 1) / (2 : Int32))) (iI y) (iI 0)) fun v_12 =>
                (Option.bind (J_X3_drop F) fun v_13 =>
                  (some ((v_9 + iI 1), v_12, v_13.1, v_13.2.1, v_13.2.2)))))
          else
            (some ((0 : Int32), iI (pN g), cnt, mde, stn)))) = some (a, iI (pN g), cnt, mde, stn) ∧ (J_X5_space_L39 F (iI w) mf (iI least) (iI y) (0 : Int32) (fun _ a b => some ((0 : Int32), (0 : Int32), a, b)) F (0 : Int32) (iI g) isw) = some (a, 0, iI g, isw)) ∨
          (∃ a g', vN w h tn g' ∧ (Option.bind (J_X1_firstRun F (iI w) (iI h) n fu (iI y) (iI least)) fun v_9 =>
          (if (0 : Int32) ≤ v_9 then
            (Option.bind (J_X1_runLength F (iI w) (iI h) n fu v_9 (iI y)) fun v_11 =>
              (Option.bind (J_X4_placeAt F (v_9 + ((v_11 - iI 1) / (2 : Int32))) (iI y) (iI 0)) fun v_12 =>
                (Option.bind (J_X3_drop F) fun v_13 =>
                  (some ((v_9 + iI 1), v_12, v_13.1, v_13.2.1, v_13.2.2)))))
          else
            (some ((0 : Int32), iI (pN g), cnt, mde, stn)))) = some (a, iI (pN g'), 0, 0, 0) ∧ (J_X5_space_L39 F (iI w) mf (iI least) (iI y) (0 : Int32) (fun _ a b => some ((0 : Int32), (0 : Int32), a, b)) F (0 : Int32) (iI g) isw) = some (a, 0, iI g', 0)) := by
        intro y y0 y1
        have hM := m39 (F := F) hw hh (by omega) (by omega) hF hm y0 y1 e1 e2 (iI g) isw F w.toNat 0 (by omega) (by omega) (by omega)
        have hM' := (show J_X5_space_L39 F (iI w) mf (iI least) (iI y) (0 : Int32) (fun _ a b => some ((0 : Int32), (0 : Int32), a, b)) F (0 : Int32) (iI g) isw = _ from hM)
        rw [hM', firstRun_eq hw hh (by omega) (by omega) hF hn hfu y0 y1 e1 e2, Option.bind_some]
        have hsm := frN_some (f := fun u => fl u y) (least := least) w.toNat 0
        generalize hsv : frN (fun u => fl u y) least w.toNat 0 = sv at hsm ⊢
        rcases hsm with rfl | ⟨s1, s2, s3⟩
        · left
          rw [if_neg (by decide), if_pos rfl]
          exact ⟨0, rfl, rfl⟩
        · right
          have hr := runN_le (f := fun u => fl u y) (w - sv).toNat sv
          rw [show (0 + (w.toNat : Int) - sv).toNat = (w - sv).toNat by omega] at s3
          rw [if_pos ((iI_ge0 (rg_lit (by omega) (by omega))).mpr s1), if_neg (by omega), runL_eq hw hh (by omega) (by omega) hF hn hfu s1 (by omega) y0 y1, Option.bind_some]
          have hsp : spG (fun u => fl u y) w sv = sv + ((runN (w - sv).toNat (fun u => fl u y) sv : Nat) - 1) / 2 := rfl
          generalize hrn : runN (w - sv).toNat (fun u => fl u y) sv = rn at hr s3 hsp ⊢
          rw [iI_sub, half_eq (by omega) (by omega), iI_add, placeAt_eq, Option.bind_some, iI_add, ← hsp]
          have hx0 : 0 ≤ spG (fun u => fl u y) w sv ∧ spG (fun u => fl u y) w sv < w := by omega
          generalize spG (fun u => fl u y) w sv = gx at hx0 ⊢
          obtain ⟨n1, n2, n3⟩ := n_nC (x := gx) (y := y) (d := 0) hx0.1 (by omega) y0 (by omega) (by omega)
          refine ⟨iI (sv + 1), nC gx y 0, ⟨by rw [n1, n2]; exact inF_iff.mpr ⟨hx0.1, hx0.2, y0, y1⟩, fun _ => by rw [n3]; rfl⟩, ?_, ?_⟩
          · have hpn : pN (nC gx y 0) = (y * 32 + gx) * 8 + 0 := by
              unfold pN
              rw [n1, n2, n3]
              rfl
            rw [hpn]
            rfl
          · have hpm : ((nC gx y 0 : Nat) : Int) = 8 * (24 * y + gx) := by
              unfold nC
              omega
            rw [hpm]
      by_cases e3 : iI s0 = (0 : Int32)
      · rw [if_pos e3, if_pos e3]
        exact go 0 (by omega) (by omega)
      · rw [if_neg e3, if_neg e3]
        exact go (h - 1) (by omega) (by omega)
    · left
      rw [if_neg (by rw [decide_eq_true_iff]; omega), if_neg (show ¬ iI least < iI 1 from fun z => by rw [iI_lt hl (rg_lit (by omega) (by omega))] at z; omega), if_neg (show ¬ iI least ≤ iI w from fun z => by rw [iI_le hl (rg_lit (by omega) (by omega))] at z; omega)]
      exact ⟨-2, rfl, rfl⟩
  · left
    rw [if_neg (by rw [decide_eq_true_iff]; omega), if_pos ((iI_lt hl (rg_lit (by omega) (by omega))).mpr (by omega))]
    exact ⟨-2, rfl, rfl⟩
end SPACE
