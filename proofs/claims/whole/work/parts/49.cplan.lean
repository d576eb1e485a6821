/-! counting and choosing -/
def cntN : Nat → (Nat → Bool) → Nat → Nat
  | 0, _, _ => 0
  | c + 1, P, i => (if P i = true then 1 else 0) + cntN c P (i + 1)
def fsM : Nat → (Nat → Bool) → Nat → Option Nat
  | 0, _, _ => none
  | c + 1, b, m => if b m = true then some m else fsM c b (m + 1)
theorem cntN_le {P : Nat → Bool} : ∀ (c i : Nat), cntN c P i ≤ c := by
  intro c
  induction c with
  | zero =>
    intro i
    exact Nat.le_refl 0
  | succ c ih =>
    intro i
    rw [cntN]
    have := ih (i + 1)
    split <;> omega
theorem fsM_some {b : Nat → Bool} : ∀ (c m j : Nat), fsM c b m = some j → m ≤ j ∧ j < m + c ∧ b j = true := by
  intro c
  induction c with
  | zero =>
    intro m j h
    cases h
  | succ c ih =>
    intro m j h
    rw [fsM] at h
    by_cases e : b m = true
    · rw [if_pos e] at h
      cases h
      exact ⟨by omega, by omega, e⟩
    · rw [if_neg e] at h
      have := ih (m + 1) j h
      exact ⟨by omega, by omega, this.2.2⟩
theorem fsM_ex {b : Nat → Bool} : ∀ (c m j : Nat), m ≤ j → j < m + c → b j = true → ∃ i, fsM c b m = some i := by
  intro c
  induction c with
  | zero =>
    intro m j h1 h2
    omega
  | succ c ih =>
    intro m j h1 h2 hb
    rw [fsM]
    by_cases e : b m = true
    · exact ⟨m, by rw [if_pos e]⟩
    · rw [if_neg e]
      refine ih (m + 1) j ?_ (by omega) hb
      rcases Nat.lt_or_ge m j with q | q
      · omega
      · have : m = j := by omega
        subst this
        exact absurd hb e
/-- the move of p number m begins a best way -/
def ldC (w h r tn : Int) (ok : Int → Int → Int → Bool) (lv : Nat → Option Nat) (cs : Nat → Nat) (p m : Nat) : Bool := match mvN w h r tn ok p m with
  | none => false
  | some q => decide (ccI lv cs q + (1099511627776 + (1048576 * (wlN r m : Int) + (waN m : Int))) = ccI lv cs p)
theorem Best.step {mv : Nat → Nat → Option Nat} {wl wa : Nat → Nat} {g K : Nat} {lv : Nat → Option Nat} {cs : Nat → Nat} (hB : Best mv wl wa g K lv cs) {p d : Nat} (hp : lv p = some (d + 1)) : ∃ m q, m < 6 ∧ mv p m = some q ∧ lv q = some d ∧ cs q + (K * wl m + wa m) = cs p := by
  obtain ⟨L, A, hW, hc⟩ := hB.1 p (d + 1) hp
  obtain ⟨m, q, L1, A1, hm, hmv, hW1, hL, hA⟩ := hW
  obtain ⟨d1, hd1, h1⟩ := hB.2 d L1 A1 q hW1
  obtain ⟨L2, A2, hW2, hc2⟩ := hB.1 q d1 hd1
  obtain ⟨d2, hd2, h2⟩ := hB.2 (d1 + 1) (L2 + wl m) (A2 + wa m) p ⟨m, q, L2, A2, hm, hmv, hW2, rfl, rfl⟩
  rw [hp] at hd2
  cases hd2
  have e : d1 = d := by omega
  subst e
  refine ⟨m, q, hm, hmv, hd1, ?_⟩
  have a1 : cs q ≤ K * L1 + A1 := by omega
  have a2 : cs p ≤ K * (L2 + wl m) + (A2 + wa m) := by omega
  rw [hL, hA, Nat.mul_add] at hc
  rw [Nat.mul_add] at a2
  omega
theorem Best.zero {mv : Nat → Nat → Option Nat} {wl wa : Nat → Nat} {g K : Nat} {lv : Nat → Option Nat} {cs : Nat → Nat} (hB : Best mv wl wa g K lv cs) : lv g = some 0 ∧ ∀ p, lv p = some 0 → p = g := by
  obtain ⟨d, hd, h⟩ := hB.2 0 0 0 g ⟨rfl, rfl, rfl⟩
  refine ⟨by rw [hd]; congr 1; omega, ?_⟩
  intro p hp
  obtain ⟨L, A, hW, -⟩ := hB.1 p 0 hp
  exact hW.1
/-- the way that is led by the first best moves -/
def WayN (w h r tn : Int) (ok : Int → Int → Int → Bool) (b : Nat → Nat → Bool) (c g d : Nat) (P M : Nat → Nat) : Prop :=
  P 0 = c ∧ P d = g ∧ (∀ i, i < d → P i ≠ g) ∧ (∀ i, i < d → fsM 6 (b (P i)) 0 = some (M i) ∧ mvN w h r tn ok (P i) (M i) = some (P (i + 1)))
theorem way_ex {w h r tn : Int} {ok : Int → Int → Int → Bool} {lv : Nat → Option Nat} {b : Nat → Nat → Bool} {g : Nat} (hz : lv g = some 0) (hz2 : ∀ p, lv p = some 0 → p = g) (hb1 : ∀ p d, lv p = some (d + 1) → ∃ m, m < 6 ∧ b p m = true) (hb2 : ∀ p d m, lv p = some (d + 1) → b p m = true → ∃ q, mvN w h r tn ok p m = some q ∧ lv q = some d) :
    ∀ d c, lv c = some d → ∃ P M, WayN w h r tn ok b c g d P M := by
  intro d
  induction d with
  | zero =>
    intro c hc
    exact ⟨fun _ => c, fun _ => 0, rfl, hz2 c hc, fun i hi => by omega, fun i hi => by omega⟩
  | succ d ih =>
    intro c hc
    obtain ⟨m, hm, hbm⟩ := hb1 c d hc
    obtain ⟨j, hj⟩ := fsM_ex (b := b c) 6 0 m (by omega) (by omega) hbm
    obtain ⟨-, -, hbj⟩ := fsM_some 6 0 j hj
    obtain ⟨q, hmv, hq⟩ := hb2 c d j hc hbj
    obtain ⟨P, M, h1, h2, h3, h4⟩ := ih q hq
    refine ⟨fun i => if i = 0 then c else P (i - 1), fun i => if i = 0 then j else M (i - 1), rfl, ?_, ?_, ?_⟩
    · show (if d + 1 = 0 then c else P (d + 1 - 1)) = g
      rw [if_neg (by omega)]
      exact h2
    · intro i hi
      show (if i = 0 then c else P (i - 1)) ≠ g
      by_cases e : i = 0
      · rw [if_pos e]
        intro z
        rw [z, hz] at hc
        cases hc
      · rw [if_neg e]
        exact h3 (i - 1) (by omega)
    · intro i hi
      show fsM 6 (b (if i = 0 then c else P (i - 1))) 0 = some (if i = 0 then j else M (i - 1)) ∧ mvN w h r tn ok (if i = 0 then c else P (i - 1)) (if i = 0 then j else M (i - 1)) = some (if i + 1 = 0 then c else P (i + 1 - 1))
      by_cases e : i = 0
      · rw [if_pos e, if_pos e, if_neg (by omega), e]
        refine ⟨hj, ?_⟩
        rw [hmv, ← h1]
      · rw [if_neg e, if_neg e, if_neg (by omega), show i + 1 - 1 = i - 1 + 1 by omega]
        exact h4 (i - 1) (by omega)
section PLAN
variable {F : Nat} {w h l wd r tn : Int} {n nk : Nat} {fk kn : Nat → Int32} {cl : Int → Int → Bool} {g : Nat} {Q : Nat → Nat} {nn : Nat} {lv : Nat → Option Nat} {cs : Nat → Nat} {co : Nat → Int64} {qu : Nat → Int32}
theorem DC.b {ok : Int → Int → Int → Bool} (hh : h ≤ 24) (hD : DC w h r tn ok g Q nn lv cs) (p : Nat) : 0 ≤ ccI lv cs p ∧ ccI lv cs p ≤ 1152921504606846976 := by
  cases hp : lv p with
  | none =>
    rw [ccI_n hp]
    omega
  | some d =>
    have := hD.2.2.2.2.2.1 p d hp
    have := hD.2.2.2.2.1
    rw [ccI_s hp]
    omega
/-- PLACES taken before p, in the class's order -/
def befC (Q : Nat → Nat) (lv : Nat → Option Nat) (cs : Nat → Nat) (p i : Nat) : Bool := decide (ccI lv cs (Q i) < ccI lv cs p ∨ (ccI lv cs (Q i) = ccI lv cs p ∧ Q i < p))
theorem pN_lt {p q : Nat} : pN p < pN q ↔ p < q := by
  have d1 := nD_b p
  have d2 := nD_b q
  have x1 := nX_b p
  have x2 := nX_b q
  have e1 := nC_n p
  have e2 := nC_n q
  unfold pN pcd
  unfold nC at e1 e2
  have y1 : 0 ≤ nY p := by unfold nY; omega
  have y2 : 0 ≤ nY q := by unfold nY; omega
  omega
theorem taken_eq {nCo nQu : Nat} {ok : Int → Int → Int → Bool} (hw : w ≤ 24) (hh : h ≤ 24) (h0 : 0 ≤ h) (hF : 7000 < F) (hn1 : nCo = (h * 256).toNat) (hn2 : nQu = (h * 256).toNat) (hD : DC w h r tn ok g Q nn lv cs) (hq : ∀ i, i < nn → qu i = iI (pN (Q i))) (hco : ∀ p, inF w h (nX p) (nY p) = true → co (pN p).toNat = lI (ccI lv cs p)) {p : Nat} (hp : inF w h (nX p) (nY p) = true) :
    J_X2_takenBefore F (iI nn) nCo co nQu qu (iI (pN p)) = some (iI (cntN nn (befC Q lv cs p) 0)) := by
  have hsz := hD.2.2.2.2.1
  have vat : ∀ {x : Nat}, inF w h (nX x) (nY x) = true → J_X2_costAt F nCo co (iI (pN x)) = some (lI (ccI lv cs x)) := by
    intro x hx
    have := costAtO (F := F) hw hh hn1 hco (o := some (nX x, nY x, nD x)) ⟨hx, (nD_b x).1, (nD_b x).2⟩
    have e : cvO lv cs (some (nX x, nY x, nD x)) = ccI lv cs x := by
      show ccI lv cs (nC (nX x) (nY x) (nD x)) = _
      rw [nC_n]
    rw [e] at this
    exact this
  have go : ∀ (fz c i a : Nat), c < fz → i + c = nn → a ≤ i → J_X2_takenBefore_L12 F (iI nn) nCo co nQu qu (iI (pN p)) (lI (ccI lv cs p)) (fun x4 x5 => some x4) fz (iI a) (iI i) = some (iI ((a + cntN c (befC Q lv cs p) i : Nat) : Int)) := by
    intro fz
    induction fz with
    | zero =>
      intro c i a hc
      omega
    | succ fz ih =>
      intro c i a hc hi ha
      rw [J_X2_takenBefore_L12]
      cases c with
      | zero =>
        rw [if_pos (by rw [iI_le (rg_lit (by omega) (by omega)) (rg_lit (by omega) (by omega))]; omega)]
        rfl
      | succ c =>
        have hv := hD.1 i (by omega)
        have hb := DC.b hh hD (Q i)
        have hb2 := DC.b hh hD p
        have bq := pN_b hw hh hv.1
        have bp := pN_b hw hh hp
        rw [if_neg (fun z => by rw [iI_le (rg_lit (by omega) (by omega)) (rg_lit (by omega) (by omega))] at z; omega), if_neg (fun z => by rw [nI_iI, iI_le (rg_lit (by omega) (by omega)) (rg_lit (by omega) (by omega))] at z; omega), gd_in (rg_lit (by omega) (by omega)) (by omega) (by omega), iI_clamp (rg_lit (by omega) (by omega)), show ((i : Int).toNat) = i by omega, hq i (by omega), vat hv.1, Option.bind_some, gd_in (rg_lit (by omega) (by omega)) (by omega) (by omega), cntN]
        have n1 := ih c (i + 1) (a + 1) (by omega) (by omega) (by omega)
        have n0 := ih c (i + 1) a (by omega) (by omega) (by omega)
        have f1 : (iI (a : Int) + (1 : Int32)) = iI ((a + 1 : Nat) : Int) := by rw [kI1, iI_add]; rfl
        have f2 : (iI (i : Int) + (1 : Int32)) = iI ((i + 1 : Nat) : Int) := by rw [kI1, iI_add]; rfl
        rw [f1, f2]
        have rl1 : rL (ccI lv cs (Q i)) := ⟨by omega, by omega⟩
        have rl2 : rL (ccI lv cs p) := ⟨by omega, by omega⟩
        unfold befC
        by_cases z1 : ccI lv cs (Q i) < ccI lv cs p
        · rw [if_pos ((lg_cmp_lt _ _).mpr ((lI_lt rl1 rl2).mpr z1)), n1, if_pos (decide_eq_true (Or.inl z1))]
          unfold befC
          congr 2
          omega
        · rw [if_neg (fun z => z1 ((lI_lt rl1 rl2).mp ((lg_cmp_lt _ _).mp z)))]
          by_cases z2 : ccI lv cs (Q i) = ccI lv cs p
          · rw [if_pos ((lg_cmp_eq _ _).mpr ((lI_eq rl1 rl2).mpr z2))]
            have hpq := pN_lt (p := Q i) (q := p)
            by_cases z3 : Q i < p
            · rw [if_neg (fun z => by rw [iI_le (rg_lit (by omega) (by omega)) (rg_lit (by omega) (by omega))] at z; have := hpq.mpr z3; omega), n1, if_pos (decide_eq_true (Or.inr ⟨z2, z3⟩))]
              unfold befC
              congr 2
              omega
            · rw [if_pos (by rw [iI_le (rg_lit (by omega) (by omega)) (rg_lit (by omega) (by omega))]; rcases Int.lt_or_le (pN (Q i)) (pN p) with z | z; exact absurd (hpq.mp z) z3; exact z), n0, if_neg (by rw [decide_eq_true_iff]; omega)]
              unfold befC
              congr 2
              omega
          · rw [if_neg (fun z => z2 ((lI_eq rl1 rl2).mp ((lg_cmp_eq _ _).mp z))), n0, if_neg (by rw [decide_eq_true_iff]; omega)]
            unfold befC
            congr 2
            omega
  unfold J_X2_takenBefore
  rw [vat hp, Option.bind_some]
  have := go F nn 0 0 (by omega) (by omega) (by omega)
  rw [Nat.zero_add] at this
  exact this
/-- the first move of a best way -/
theorem first_eq {nCo : Nat} (hC : CX F w h l wd r tn n nk fk cl) (hn1 : nCo = (h * 256).toNat) (hcb : ∀ p, 0 ≤ ccI lv cs p ∧ ccI lv cs p ≤ 1152921504606846976) (hco : ∀ p, inF w h (nX p) (nY p) = true → co (pN p).toNat = lI (ccI lv cs p)) {p : Nat} (hp : vN w h tn p) :
    ∀ (fz c m : Nat) (kn : Nat → Int32), c < fz → m + c = 6 → Kn w h (okP w h cl l wd) kn → ∃ kn', Kn w h (okP w h cl l wd) kn' ∧ J_X2_firstMoveFrom_L2 F nCo co (iI l) (iI wd) (iI r) nk (iI w) (iI h) (iI tn) n fk (iI (pN p)) (fun _ xkn => some ((-1 : Int32), xkn)) fz (iI m) kn = some (match fsM c (ldC w h r tn (okP w h cl l wd) lv cs p) m with | some j => iI j | none => (-1 : Int32), kn') := by
  obtain ⟨⟨a1, a2, a3, a4⟩, ⟨b1, b2, b3, b4, b5, b6⟩, c1, ⟨d1, d2⟩, e1, f1⟩ := id hC
  intro fz
  induction fz with
  | zero =>
    intro c m kn hc
    omega
  | succ fz ih =>
    intro c m kn hc hm hK
    rw [J_X2_firstMoveFrom_L2]
    cases c with
    | zero =>
      rw [if_pos (by rw [show (6 : Int32) = iI 6 from rfl, iI_le (rg_lit (by omega) (by omega)) (rg_lit (by omega) (by omega))]; omega)]
      exact ⟨kn, hK, rfl⟩
    | succ c =>
      rw [if_neg (fun z => by rw [show (6 : Int32) = iI 6 from rfl, iI_le (rg_lit (by omega) (by omega)) (rg_lit (by omega) (by omega))] at z; omega)]
      have hla := landing_eq (F := F) a2 a4 a1 a3 (vdp hp) b5 b6 tn (m := (m : Int)) (by omega) (by omega)
      have hcd : cdO (some (nX p, nY p, nD p)) = pN p := rfl
      rw [hcd] at hla
      have hc1 := costAtO (F := F) a2 a4 hn1 hco (vdp hp)
      have hcv : cvO lv cs (some (nX p, nY p, nD p)) = ccI lv cs p := by
        show ccI lv cs (nC (nX p) (nY p) (nD p)) = _
        rw [nC_n]
      rw [hcd, hcv] at hc1
      have hc2 := costAtO (F := F) a2 a4 hn1 hco (laO_vd (r := r) (tn := tn) (m := (m : Int)) (vdp hp))
      have hwm := wl_b b6 m
      rw [hla, Option.bind_some, hc2, Option.bind_some, costOf_eq b5 b6 (by omega), Option.bind_some, hc1, Option.bind_some, lI_add, fsM]
      have f2 : (iI (m : Int) + (1 : Int32)) = iI ((m + 1 : Nat) : Int) := by rw [kI1, iI_add]; rfl
      rw [f2]
      have hbp := hcb p
      have hbo : 0 ≤ cvO lv cs (laO w h r tn m (some (nX p, nY p, nD p))) ∧ cvO lv cs (laO w h r tn m (some (nX p, nY p, nD p))) ≤ 1152921504606846976 := by
        cases laO w h r tn m (some (nX p, nY p, nD p)) with
        | none => exact ⟨by show (0 : Int) ≤ 1152921504606846976; omega, by show (1152921504606846976 : Int) ≤ 1152921504606846976; omega⟩
        | some t => exact hcb _
      by_cases hz : cvO lv cs (laO w h r tn m (some (nX p, nY p, nD p))) + (1099511627776 + (1048576 * (wlN r m : Int) + (waN m : Int))) = ccI lv cs p
      · rw [if_pos ((lg_cmp_eq _ _).mpr (by rw [hz]))]
        obtain ⟨kn', hmm, hK'⟩ := mayMake_eq hC hK (vdp hp) (m := (m : Int)) (by omega) (by omega)
        rw [hcd] at hmm
        rw [hmm, Option.bind_some, bI_if]
        cases hb : mvB w h r tn (okP w h cl l wd) m (some (nX p, nY p, nD p)) with
        | false =>
          have hl : ldC w h r tn (okP w h cl l wd) lv cs p m = false := by
            unfold ldC
            rw [mvN_of b5 hb]
          rw [hl, if_neg (by decide), if_neg (by decide)]
          exact ih c (m + 1) kn' (by omega) (by omega) hK'
        | true =>
          obtain ⟨q, hmv⟩ := mvB_mv a2 b5 hb
          have hl : ldC w h r tn (okP w h cl l wd) lv cs p m = true := by
            rw [(laO_of a2 b5 hmv).1] at hz
            have e : cvO lv cs (some (nX q, nY q, nD q)) = ccI lv cs q := by
              show ccI lv cs (nC (nX q) (nY q) (nD q)) = _
              rw [nC_n]
            rw [e] at hz
            unfold ldC
            rw [hmv]
            exact decide_eq_true hz
          rw [hl, if_pos rfl, if_pos rfl]
          exact ⟨kn', hK', rfl⟩
      · rw [if_neg (fun z => hz ((lI_eq ⟨by omega, by omega⟩ ⟨by omega, by omega⟩).mp ((lg_cmp_eq _ _).mp z)))]
        have hl : ldC w h r tn (okP w h cl l wd) lv cs p m = false := by
          unfold ldC
          cases hmv : mvN w h r tn (okP w h cl l wd) p m with
          | none => rfl
          | some q =>
            rw [(laO_of a2 b5 hmv).1] at hz
            have e : cvO lv cs (some (nX q, nY q, nD q)) = ccI lv cs q := by
              show ccI lv cs (nC (nX q) (nY q) (nD q)) = _
              rw [nC_n]
            rw [e] at hz
            exact decide_eq_false hz
        rw [hl, if_neg (by decide)]
        exact ih c (m + 1) kn (by omega) (by omega) hK
/-- the class's way, move by move -/
theorem plan117 {nCo nMv nPl : Nat} (hC : CX F w h l wd r tn n nk fk cl) (hn1 : nCo = (h * 256).toNat) (hn3 : nMv = (h * 256).toNat) (hn4 : nPl = (h * 256).toNat) (hcb : ∀ p, 0 ≤ ccI lv cs p ∧ ccI lv cs p ≤ 1152921504606846976) (hco : ∀ p, inF w h (nX p) (nY p) = true → co (pN p).toNat = lI (ccI lv cs p)) {c d : Nat} {P M : Nat → Nat} (hW : WayN w h r tn (okP w h cl l wd) (ldC w h r tn (okP w h cl l wd) lv cs) c g d P M) (hv : vN w h tn c) (hg : vN w h tn g) (hd : d < nn) (hnn : nn ≤ (192 * h).toNat) (kk : Int32 → Int32 → (Nat → Int32) → Int32 → (Nat → Int32) → (Nat → Int32) → Option (Int32 × Int32 × (Nat → Int64) × (Nat → Int32) × (Nat → Int32) × Int32 × Int32 × Int32 × (Nat → Int32) × (Nat → Int32))) :
    ∀ (fz e i : Nat) (kn mv pl : Nat → Int32), e < fz → i + e = d → (∀ j, j ≤ i → vN w h tn (P j)) → Kn w h (okP w h cl l wd) kn → (∀ j, j < i → mv j = iI (M j) ∧ pl j = iI (pN (P (j + 1))) ∧ M j < 6) →
      ∃ x2 x3 kn' mv' pl', Kn w h (okP w h cl l wd) kn' ∧ (∀ j, j ≤ d → vN w h tn (P j)) ∧ (∀ j, j < d → mv' j = iI (M j) ∧ pl' j = iI (pN (P (j + 1))) ∧ M j < 6) ∧
        J_X4_plan_L117 F (iI (pN g)) nCo (iI l) (iI wd) (iI r) nk (iI w) (iI h) (iI tn) n fk nMv nPl (iI nn) co (1 : Int32) kk fz (iI (pN (P i))) (iI i) kn (iI i) mv pl = kk x2 x3 kn' (iI d) mv' pl' := by
  obtain ⟨⟨a1, a2, a3, a4⟩, ⟨b1, b2, b3, b4, b5, b6⟩, c1, ⟨d1, d2⟩, e1, f1⟩ := id hC
  obtain ⟨w1, w2, w3, w4⟩ := hW
  intro fz
  induction fz with
  | zero =>
    intro e i kn mv pl he
    omega
  | succ fz ih =>
    intro e i kn mv pl he hie hvi hK hj
    rw [J_X4_plan_L117]
    have bg := pN_b a2 a4 hg.1
    have bi := pN_b a2 a4 (hvi i (by omega)).1
    rw [if_neg (by decide), if_neg (fun z => by rw [iI_le (rg_lit (by omega) (by omega)) (rg_lit (by omega) (by omega))] at z; omega)]
    cases e with
    | zero =>
      have hid : i = d := by omega
      subst hid
      rw [if_pos (by rw [w2])]
      exact ⟨_, _, kn, mv, pl, hK, hvi, hj, rfl⟩
    | succ e =>
      have hne := w3 i (by omega)
      rw [if_neg (fun z => by
        rw [iI_eq (rg_lit (by omega) (by omega)) (rg_lit (by omega) (by omega))] at z
        exact hne (pN_inj a2 a4 (hvi i (by omega)).1 hg.1 (by rw [z])))]
      obtain ⟨hfs, hmv⟩ := w4 i (by omega)
      obtain ⟨kn', hK', hfe⟩ := first_eq hC hn1 hcb hco (hvi i (by omega)) F 6 0 kn (by omega) (by omega) hK
      rw [hfs] at hfe
      have hm6 := (fsM_some 6 0 (M i) hfs).2.1
      unfold J_X2_firstMoveFrom
      have hfe' := hfe.trans rfl
      rw [show ((0 : Nat) : Int) = 0 from rfl, ← kI0] at hfe'
      rw [hfe', Option.bind_some]
      dsimp only
      have hla := landing_eq (F := F) a2 a4 a1 a3 (vdp (hvi i (by omega))) b5 b6 tn (m := (M i : Int)) (by omega) (by omega)
      have hcd : cdO (some (nX (P i), nY (P i), nD (P i))) = pN (P i) := rfl
      rw [hcd, (laO_of a2 b5 hmv).1] at hla
      have hcd2 : cdO (some (nX (P (i + 1)), nY (P (i + 1)), nD (P (i + 1)))) = pN (P (i + 1)) := rfl
      rw [hcd2] at hla
      rw [hla, Option.bind_some]
      have hadd : J_X3_add F (iI i) nMv mv nPl pl (iI (M i)) (iI (pN (P (i + 1)))) = some (iI ((i + 1 : Nat) : Int), upd mv i (iI (M i)), upd pl i (iI (pN (P (i + 1))))) := by
        unfold J_X3_add
        rw [if_neg (fun z => by rw [nI_iI, iI_le (rg_lit (by omega) (by omega)) (rg_lit (by omega) (by omega))] at z; omega), if_neg (fun z => by rw [nI_iI, iI_le (rg_lit (by omega) (by omega)) (rg_lit (by omega) (by omega))] at z; omega), gd_in (rg_lit (by omega) (by omega)) (by omega) (by omega), gd_in (rg_lit (by omega) (by omega)) (by omega) (by omega), iI_clamp (rg_lit (by omega) (by omega)), kI1, iI_add]
        rfl
      rw [hadd, Option.bind_some]
      have f2 : (iI (i : Int) + (1 : Int32)) = iI ((i + 1 : Nat) : Int) := by rw [kI1, iI_add]; rfl
      rw [f2]
      refine ih e (i + 1) kn' _ _ (by omega) (by omega) ?_ hK' ?_
      · intro j hj'
        rcases Nat.lt_or_ge i j with q | q
        · rw [show j = i + 1 by omega]
          exact mvN_v a2 b5 (hvi i (by omega)) hmv
        · exact hvi j q
      · intro j hj'
        dsimp only
        by_cases q : j = i
        · subst q
          rw [upd_at, upd_at]
          exact ⟨rfl, rfl, by omega⟩
        · rw [upd_ne q, upd_ne q]
          exact hj j (by omega)
end PLAN
