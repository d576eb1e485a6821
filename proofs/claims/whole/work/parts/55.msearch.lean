/-- PLACES before y in the model's order -/
def befM (lv : Nat → Option Nat) (cs : Nat → Nat) (y x : Nat) : Bool := match lv x with
  | none => false
  | some d => decide (x ≠ y ∧ ((d : Int) < faV lv y ∨ ((d : Int) = faV lv y ∧ (cs x < cs y ∨ (cs x = cs y ∧ x < y)))))
def ldM (w h r tn : Int) (ok : Int → Int → Int → Bool) (lv : Nat → Option Nat) (cs : Nat → Nat) (p m : Nat) : Bool := match mvN w h r tn ok p m with
  | none => false
  | some q => decide (faV lv q = faV lv p - 1 ∧ cs q + (100000 * wlN r m + waN m) = cs p)
section MSEARCH
variable {F : Nat} {w h l wd r tn kp : Int} {ok : Int → Int → Int → Bool} {fl : Int → Int → Bool} {mf fr : Nat → Int32}
theorem fc6 : ∀ (kk : Int32 → (Nat → Int32) → Option ((Nat → Int32) × (Nat → Int32) × (Nat → Int32) × (Nat → Int32) × (Nat → Int32))) (fz c i : Nat) (fa : Nat → Int32), c < fz → i + c = 4608 → (∀ j, j < i → fa j = iI 1000000000) → ∃ fa', J_X5_findCosts_L6 F kk fz (iI i) fa = kk (iI 4608) fa' ∧ ∀ j, j < 4608 → fa' j = iI 1000000000 := by
  intro kk fz
  induction fz with
  | zero =>
    intro c i fa hc
    omega
  | succ fz ih =>
    intro c i fa hc hi hfa
    rw [J_X5_findCosts_L6]
    cases c with
    | zero =>
      have hi4 : i = 4608 := by omega
      subst hi4
      rw [if_pos (by decide)]
      exact ⟨fa, rfl, hfa⟩
    | succ c =>
      rw [if_neg (fun z => by rw [show (4608 : Int32) = iI 4608 from rfl, iI_le (rg_lit (by omega) (by omega)) (rg_lit (by omega) (by omega))] at z; omega), gd_in (rg_lit (by omega) (by omega)) (by omega) (by omega), iI_clamp (rg_lit (by omega) (by omega)), iI_s]
      refine ih c (i + 1) _ (by omega) (by omega) ?_
      intro j hj
      by_cases e : j = i
      · rw [e, show ((i : Int).toNat) = i by omega, upd_at]
        rfl
      · rw [upd_ne (by omega)]
        exact hfa j (by omega)
theorem fc74 (hw : w ≤ 24) (hh : h ≤ 24) (hw0 : 0 ≤ w) (hh0 : 0 ≤ h) (hF : 20 < F) (r0 : 1 ≤ r) (r4 : r ≤ 4) (ht : tn = 1 ∨ tn = 2) (hf : Fr w h tn ok fr) {g : Nat} (ne : Nat → Int32) :
    ∀ (fz c k : Nat) (Q : Nat → Nat) (n : Nat) (lv : Nat → Option Nat) (cs : Nat → Nat) (x1 : Int32) (fa cm ro : Nat → Int32), c < fz → k + c = (192 * h).toNat → MI w h r tn ok g Q n k (fun _ => False) lv cs x1 fa cm ro →
      ∃ Q' n' lv' cs' x1' fa' cm' ro', MI w h r tn ok g Q' n' n' (fun _ => False) lv' cs' x1' fa' cm' ro' ∧
        J_X5_findCosts_L74 F (iI w) (iI h) (bI (decide (tn = 2))) (iI r) fr (fun _ _ a b c => some (a, b, fr, c, ne)) fz x1 (iI k) fa cm ro = some (fa', cm', fr, ro', ne) := by
  intro fz
  induction fz with
  | zero =>
    intro c k Q n lv cs x1 fa cm ro hc
    omega
  | succ fz ih =>
    intro c k Q n lv cs x1 fa cm ro hc hkc hS
    obtain ⟨hB, hv, hr, hq, hfa, hcm⟩ := id hS
    have hsz := hB.size
    have hkn := hB.1.1
    rw [J_X5_findCosts_L74]
    by_cases hk : k < n
    · rw [if_neg (fun z => by rw [hr, iI_le (rg_lit (by omega) (by omega)) (rg_lit (by omega) (by omega))] at z; omega), gd_in (rg_lit (by omega) (by omega)) (by omega) (by omega), iI_clamp (rg_lit (by omega) (by omega)), show ((k : Int).toNat) = k by omega, hq k hk]
      obtain ⟨Q', n', lv', cs', x1', fa', cm', ro', hS', hk', hQ', e⟩ := fc89 hw hh hw0 hh0 hF r0 r4 ht hf (g := g) (k := k) (p := Q k) (fun x1_87 x4_88 xfa_89 xcs_90 xro_91 =>
            (J_X5_findCosts_L74 F (iI w) (iI h) (bI (decide (tn = 2))) (iI r) fr (fun _ _ a b c => some (a, b, fr, c, ne)) fz x1_87 (iI k + (1 : Int32)) xfa_89 xcs_90 xro_91)) F 6 0 Q n lv cs x1 fa cm ro (by omega) (by omega) ⟨hB.mono (fun x hx => by have := hx.2; omega), hv, hr, hq, hfa, hcm⟩ hk rfl
      have e' := e.trans rfl
      rw [show ((0 : Nat) : Int) = 0 from rfl, ← kI0] at e'
      rw [e', iI_s]
      cases c with
      | zero => omega
      | succ c =>
        exact ih c (k + 1) Q' n' lv' cs' x1' fa' cm' ro' (by omega) (by omega) ⟨hS'.1.next hk' (fun m hm => ⟨hm, tIv_lt hm⟩) (fun _ => False) (fun m hm => hm), hS'.2⟩
    · have hkk : k = n := by omega
      subst hkk
      rw [if_pos (by rw [hr, iI_le (rg_lit (by omega) (by omega)) (rg_lit (by omega) (by omega))]; omega)]
      exact ⟨Q, k, lv, cs, x1, fa, cm, ro, hS, rfl⟩
/-- the model's search for costs, whole -/
theorem findCosts_eq (hw : w ≤ 24) (hh : h ≤ 24) (hw0 : 0 ≤ w) (hh0 : 0 ≤ h) (hF : 7000 < F) (hm : Mf w h fl mf) (ht : tn = 1 ∨ tn = 2) (k0 : 0 ≤ kp) (k1 : kp ≤ 3) (wd0 : 1 ≤ wd) (wd1 : wd ≤ 5) (l0 : 1 ≤ l) (l1 : l ≤ 7) (r0 : 1 ≤ r) (r4 : r ≤ 4) {g : Nat} (hg : vN w h tn g) (fa cm fr ro ne : Nat → Int32) :
    ∃ fa' cm' fr' ro' ne' lv cs, J_X5_findCosts F (iI w) (iI h) (bI (decide (tn = 2))) (iI l) (iI wd) (iI r) (iI kp) (iI g) mf fa cm fr ro ne = some (fa', cm', fr', ro', ne') ∧ Fr w h tn (okP w h (clF w h kp fl) l wd) fr' ∧ (∀ p, p < 4608 → fa' p = iI (faV lv p)) ∧ (∀ p d, lv p = some d → cm' p = iI (cs p)) ∧ DM w h r tn (okP w h (clF w h kp fl) l wd) g lv cs := by
  obtain ⟨fr', ne', hff, hFr, hNe⟩ := findFree_eq hw hh hw0 hh0 hF hm ht k0 k1 wd0 wd1 l0 l1 fr ne
  have hgl := inF_lt hg.1
  unfold J_X5_findCosts
  rw [hff, Option.bind_some]
  dsimp only
  obtain ⟨fa1, e6, h6⟩ := fc6 (F := F) (fun x1_10 xfa_11 =>
        (gd (inB (iI g) 4608)
          (if (fr' (iI (g : Int)).toNatClampNeg) = (0 : Int32) then
            (some (xfa_11, cm, fr', ro, ne'))
          else
            (gd (inB (iI g) 4608)
              (gd (inB (iI g) 4608)
                (gd (inB (0 : Int32) 4608)
                  (J_X5_findCosts_L74 F (iI w) (iI h) (bI (decide (tn = 2))) (iI r) fr'
                    (fun x1_92 x2_93 xfa_94 xcs_95 xro_96 =>
                      (some (xfa_94, xcs_95, fr', xro_96, ne')))
                    F (1 : Int32) (0 : Int32) (upd xfa_11 (iI (g : Int)).toNatClampNeg (0 : Int32)) (upd cm (iI (g : Int)).toNatClampNeg (0 : Int32)) (upd ro (0 : Int32).toNatClampNeg (iI g))))))))) F 4608 0 fa (by omega) (by omega) (fun j hj => by omega)
  have e6' := e6.trans rfl
  rw [show ((0 : Nat) : Int) = 0 from rfl, ← kI0] at e6'
  rw [e6']
  have gg : ∀ {α : Type} (k : Option α), gd (inB (iI g) 4608) k = k := fun k => gd_in (rg_lit (by omega) (by omega)) (by omega) (by omega)
  have cg : (iI (g : Int)).toNatClampNeg = g := by rw [iI_clamp (rg_lit (by omega) (by omega))]; omega
  have g0 : ∀ {α : Type} (k : Option α), gd (inB (0 : Int32) 4608) k = k := fun k => gd_in (a := 0) (rg_lit (by omega) (by omega)) (by omega) (by omega)
  have c0 : (0 : Int32).toNatClampNeg = 0 := by decide
  simp only [gg, cg, g0, c0]
  have hd := nD_b g
  have hfg := fr_at hw hFr hg.1 hd.1 hd.2 hg.2
  have hcg : (8 * (24 * nY g + nX g) + nD g).toNat = g := nC_n g
  rw [hcg] at hfg
  rw [hfg, bI_if]
  cases hgo : gO w h (okP w h (clF w h kp fl) l wd) (nX g) (nY g) (nD g) with
  | false =>
    exact ⟨fa1, cm, fr', ro, ne', fun _ => none, fun _ => 0, rfl, hFr, h6, fun p d hp => absurd hp (fun z => nomatch z), fun p hp => absurd rfl hp, fun p d hp => absurd hp (fun z => nomatch z), fun q => absurd (hgo.symm.trans q) (by decide), fun _ _ => rfl⟩
  | true =>
    rw [if_pos rfl]
    have hst : MI w h r tn (okP w h (clF w h kp fl) l wd) g (fun _ => g) 1 0 (fun _ => False) (fun x => if x = g then some 0 else none) (fun _ => 0) (1 : Int32) (upd fa1 g (0 : Int32)) (upd cm g (0 : Int32)) (upd ro 0 (iI g)) := by
      refine ⟨BInv.start hgl, fun i _ => hg, rfl, ?_, ?_, ?_⟩
      · intro i hi
        rw [show i = 0 by omega, upd_at]
      · intro p hp
        by_cases e : p = g
        · rw [e, upd_at, faV_s (d := 0) (by show (if g = g then _ else _) = _; rw [if_pos rfl])]
          rfl
        · rw [upd_ne e, faV_n (by show (if p = g then _ else _) = _; rw [if_neg e])]
          exact h6 p hp
      · intro p d hp
        have hp' : (if p = g then some 0 else none) = some d := hp
        by_cases e : p = g
        · rw [e, upd_at]
          rfl
        · rw [if_neg e] at hp'
          cases hp'
    obtain ⟨Q', n', lv', cs', x1', fa', cm', ro', hS', e⟩ := fc74 (F := F) hw hh hw0 hh0 (by omega) r0 r4 ht hFr ne' F (192 * h).toNat 0 _ _ _ _ _ _ _ _ (by omega) (by omega) hst
    obtain ⟨hB, hv, hr, hq, hfa, hcm⟩ := id hS'
    have hbest := hB.best (mvN_sym hw r0) (fun m hm => wlN_inv hm) (fun m hm => waN_inv hm)
    have hsz := hB.size
    refine ⟨fa', cm', fr', ro', ne', lv', cs', e, hFr, hfa, hcm, ?_, ?_, fun _ => hbest, fun q => absurd (hgo.symm.trans q) (by decide)⟩
    · intro p hp
      cases hd : lv' p with
      | none => exact absurd hd hp
      | some d =>
        obtain ⟨i, hi, rfl⟩ := hB.2.2.2.1 p d hd
        exact hv i hi
    · intro p d hp
      have hlt := hB.lvlt hp
      refine ⟨by omega, ?_⟩
      obtain ⟨L, A, hW, hc⟩ := hB.2.2.2.2.2.2.1 p d hp
      rw [hc]
      refine costN hw hh r0 r4 ht (by omega) hW ?_
      intro j L' A' hW'
      obtain ⟨d', h1, h2⟩ := hbest.2 j L' A' p hW'
      rw [hp] at h1
      cases h1
      omega
theorem before_eq {lv : Nat → Option Nat} {cs : Nat → Nat} {fa cm : Nat → Int32} (hF : 7000 < F) (hfa : ∀ p, p < 4608 → fa p = iI (faV lv p)) (hcm : ∀ p d, lv p = some d → cm p = iI (cs p)) (hb : ∀ p d, lv p = some d → d < 4608 ∧ cs p < 2147483648) {y : Nat} (hy : y < 4608) :
    J_X5_before F fa cm (iI y) = some (iI (cntN 4608 (befM lv cs y) 0)) := by
  have gy : ∀ {α : Type} (k : Option α), gd (inB (iI y) 4608) k = k := fun k => gd_in (rg_lit (by omega) (by omega)) (by omega) (by omega)
  have cy : (iI (y : Int)).toNatClampNeg = y := by rw [iI_clamp (rg_lit (by omega) (by omega))]; omega
  have ry : rg (faV lv y) := by
    cases e : lv y with
    | none =>
      rw [faV_n e]
      exact rg_lit (by omega) (by omega)
    | some d =>
      rw [faV_s e]
      have := hb y d e
      exact rg_lit (by omega) (by omega)
  have go : ∀ (fz c i a : Nat), c < fz → i + c = 4608 → a ≤ i → J_X5_before_L4 F fa cm (iI y) (fun x2 x3 => some x2) fz (iI a) (iI i) = some (iI ((a + cntN c (befM lv cs y) i : Nat) : Int)) := by
    intro fz
    induction fz with
    | zero =>
      intro c i a hc
      omega
    | succ fz ih =>
      intro c i a hc hi ha
      rw [J_X5_before_L4]
      cases c with
      | zero =>
        rw [if_pos (by rw [show (4608 : Int32) = iI 4608 from rfl, iI_le (rg_lit (by omega) (by omega)) (rg_lit (by omega) (by omega))]; omega)]
        rfl
      | succ c =>
        have gi : ∀ {α : Type} (k : Option α), gd (inB (iI i) 4608) k = k := fun k => gd_in (rg_lit (by omega) (by omega)) (by omega) (by omega)
        have ci : (iI (i : Int)).toNatClampNeg = i := by rw [iI_clamp (rg_lit (by omega) (by omega))]; omega
        rw [if_neg (fun z => by rw [show (4608 : Int32) = iI 4608 from rfl, iI_le (rg_lit (by omega) (by omega)) (rg_lit (by omega) (by omega))] at z; omega), cntN]
        simp only [gi, gy, ci, cy]
        have n1 := ih c (i + 1) (a + 1) (by omega) (by omega) (by omega)
        have n0 := ih c (i + 1) a (by omega) (by omega) (by omega)
        have f1 : (iI (a : Int) + (1 : Int32)) = iI ((a + 1 : Nat) : Int) := iI_s _
        have f2 : (iI (i : Int) + (1 : Int32)) = iI ((i + 1 : Nat) : Int) := iI_s _
        rw [f1, f2, n1, n0, hfa i (by omega), hfa y hy]
        have fin0 : befM lv cs y i = false → some (iI ((a + cntN c (befM lv cs y) (i + 1) : Nat) : Int)) = some (iI ((a + ((if befM lv cs y i = true then 1 else 0) + cntN c (befM lv cs y) (i + 1)) : Nat) : Int)) := by
          intro e
          rw [e, if_neg (by decide), Nat.zero_add]
        have fin1 : befM lv cs y i = true → some (iI ((a + 1 + cntN c (befM lv cs y) (i + 1) : Nat) : Int)) = some (iI ((a + ((if befM lv cs y i = true then 1 else 0) + cntN c (befM lv cs y) (i + 1)) : Nat) : Int)) := by
          intro e
          rw [e, if_pos rfl, Nat.add_assoc]
        cases hli : lv i with
        | none =>
          rw [faV_n hli, if_pos (show iI 1000000000 = (1000000000 : Int32) from rfl)]
          exact fin0 (by unfold befM; rw [hli])
        | some d =>
          have hbd := hb i d hli
          have hbe : befM lv cs y i = decide (i ≠ y ∧ ((d : Int) < faV lv y ∨ ((d : Int) = faV lv y ∧ (cs i < cs y ∨ (cs i = cs y ∧ i < y))))) := by
            unfold befM
            rw [hli]
          rw [faV_s hli, if_neg (fun z => by
            have := (iI_eq (b := 1000000000) (rg_lit (by omega) (by omega)) (rg_lit (by omega) (by omega))).mp z
            omega)]
          by_cases z0 : i = y
          · rw [if_pos (by rw [z0])]
            exact fin0 (by rw [hbe]; exact decide_eq_false (fun q => q.1 z0))
          · rw [if_neg (fun z => z0 (by have := (iI_eq (rg_lit (by omega) (by omega)) (rg_lit (by omega) (by omega))).mp z; omega))]
            by_cases z1 : (d : Int) < faV lv y
            · rw [if_pos ((iI_lt (rg_lit (by omega) (by omega)) ry).mpr z1)]
              exact fin1 (by rw [hbe]; exact decide_eq_true ⟨z0, Or.inl z1⟩)
            · rw [if_neg (fun z => z1 ((iI_lt (rg_lit (by omega) (by omega)) ry).mp z))]
              by_cases z2 : (d : Int) = faV lv y
              · rw [if_pos (by rw [z2])]
                cases hly : lv y with
                | none =>
                  rw [faV_n hly] at z2
                  omega
                | some dy =>
                  have hby := hb y dy hly
                  rw [hcm i d hli, hcm y dy hly]
                  by_cases z3 : cs i < cs y
                  · rw [if_pos ((iI_lt (rg_lit (by omega) (by omega)) (rg_lit (by omega) (by omega))).mpr (by omega))]
                    exact fin1 (by rw [hbe]; exact decide_eq_true ⟨z0, Or.inr ⟨z2, Or.inl z3⟩⟩)
                  · rw [if_neg (fun z => z3 (by have := (iI_lt (rg_lit (by omega) (by omega)) (rg_lit (by omega) (by omega))).mp z; omega))]
                    by_cases z4 : cs i = cs y
                    · rw [if_pos (by rw [z4])]
                      by_cases z5 : i < y
                      · rw [if_neg (fun z => by rw [iI_le (rg_lit (by omega) (by omega)) (rg_lit (by omega) (by omega))] at z; omega)]
                        exact fin1 (by rw [hbe]; exact decide_eq_true ⟨z0, Or.inr ⟨z2, Or.inr ⟨z4, z5⟩⟩⟩)
                      · rw [if_pos ((iI_le (rg_lit (by omega) (by omega)) (rg_lit (by omega) (by omega))).mpr (by omega))]
                        exact fin0 (by rw [hbe]; exact decide_eq_false (fun q => by omega))
                    · rw [if_neg (fun z => z4 (by have := (iI_eq (rg_lit (by omega) (by omega)) (rg_lit (by omega) (by omega))).mp z; omega))]
                      exact fin0 (by rw [hbe]; exact decide_eq_false (fun q => by omega))
              · rw [if_neg (fun z => z2 ((iI_eq (rg_lit (by omega) (by omega)) ry).mp z))]
                exact fin0 (by rw [hbe]; exact decide_eq_false (fun q => by omega))
  unfold J_X5_before
  have := go F 4608 0 0 (by omega) (by omega) (by omega)
  rw [Nat.zero_add] at this
  exact this
end MSEARCH
