/-! the model's search, whole -/
theorem iI_mod {a b : Int} (h : iI a = iI b) : a % 4294967296 = b % 4294967296 := by
  have h1 : (iI a).toBitVec.toNat = (iI b).toBitVec.toNat := by rw [h]
  rw [iI_nat, iI_nat] at h1
  have h2 := Int.emod_nonneg a (show (4294967296 : Int) ≠ 0 by decide)
  have h3 := Int.emod_nonneg b (show (4294967296 : Int) ≠ 0 by decide)
  omega
section MLEAD
variable {F : Nat} {w h l wd r tn kp : Int} {ok : Int → Int → Int → Bool} {fl : Int → Int → Bool} {mf fr : Nat → Int32}
theorem leads_eq (hw : w ≤ 24) (hh : h ≤ 24) (hw0 : 0 ≤ w) (hh0 : 0 ≤ h) (hF : 20 < F) (r0 : 1 ≤ r) (r4 : r ≤ 4) (ht : tn = 1 ∨ tn = 2) (hf : Fr w h tn ok fr) {lv : Nat → Option Nat} {cs : Nat → Nat} {fa cm : Nat → Int32} (hfa : ∀ p, p < 4608 → fa p = iI (faV lv p)) (hcm : ∀ p d, lv p = some d → cm p = iI (cs p)) (hb : ∀ p d, lv p = some d → d < 4608 ∧ cs p < 2147483648) {p : Nat} (hp : vN w h tn p) (hlp : lv p ≠ none) {m : Nat} (m6 : m < 6) :
    J_X5_leads F (iI w) (iI h) (bI (decide (tn = 2))) (iI r) fa cm fr (iI p) (iI m) = some (bI (ldM w h r tn ok lv cs p m)) := by
  have hpl := inF_lt hp.1
  have gp : ∀ {α : Type} (k : Option α), gd (inB (iI p) 4608) k = k := fun k => gd_in (rg_lit (by omega) (by omega)) (by omega) (by omega)
  have cp : (iI (p : Int)).toNatClampNeg = p := by rw [iI_clamp (rg_lit (by omega) (by omega))]; omega
  obtain ⟨d, hd⟩ : ∃ d, lv p = some d := by
    cases e : lv p with
    | none => exact absurd e hlp
    | some d => exact ⟨d, rfl⟩
  have hbp := hb p d hd
  unfold J_X5_leads ldM
  rw [moved_eq hw hh hw0 hh0 hF r0 r4 ht hf hp m6, Option.bind_some]
  cases hmv : mvN w h r tn ok p m with
  | none =>
    rw [show mvI none = -1 from rfl, if_pos (by decide)]
    rfl
  | some q =>
    have hvq := mvN_v hw r0 hp hmv
    have hql := inF_lt hvq.1
    have gq : ∀ {α : Type} (k : Option α), gd (inB (iI q) 4608) k = k := fun k => gd_in (rg_lit (by omega) (by omega)) (by omega) (by omega)
    have cq : (iI (q : Int)).toNatClampNeg = q := by rw [iI_clamp (rg_lit (by omega) (by omega))]; omega
    rw [show mvI (some q) = (q : Int) from rfl, if_neg (fun z => by rw [iI_lt0 (rg_lit (by omega) (by omega))] at z; omega)]
    simp only [gq, gp, cp, cq]
    rw [hfa q (by omega), hfa p (by omega), more_eq r0 r4 m6, Option.bind_some, faV_s hd, show iI (d : Int) - (1 : Int32) = iI ((d : Int) - 1) from iI_sub _ 1]
    have hwm := wl_b r4 m
    cases hlq : lv q with
    | none =>
      rw [faV_n hlq, if_neg (fun z => by have := (iI_eq (rg_lit (by omega) (by omega)) (rg_lit (by omega) (by omega))).mp z; omega), bI_f (by omega)]
    | some e =>
      have hbq := hb q e hlq
      rw [faV_s hlq]
      by_cases z1 : (e : Int) = (d : Int) - 1
      · rw [if_pos (by rw [z1]), hcm q e hlq, hcm p d hd, iI_add]
        by_cases z2 : cs q + (100000 * wlN r m + waN m) = cs p
        · rw [if_pos (by rw [← z2]; congr 1), bI_t ⟨z1, z2⟩]
        · rw [if_neg (fun z => z2 (by have := iI_mod z; omega)), bI_f (fun q => z2 q.2)]
      · rw [if_neg (fun z => z1 ((iI_eq (rg_lit (by omega) (by omega)) (rg_lit (by omega) (by omega))).mp z)), bI_f (fun q => z1 q.1)]
theorem ms129 (hw : w ≤ 24) (hh : h ≤ 24) (hw0 : 0 ≤ w) (hh0 : 0 ≤ h) (hF : 20 < F) (r0 : 1 ≤ r) (r4 : r ≤ 4) (ht : tn = 1 ∨ tn = 2) (hf : Fr w h tn ok fr) {lv : Nat → Option Nat} {cs : Nat → Nat} {fa cm : Nat → Int32} (hfa : ∀ p, p < 4608 → fa p = iI (faV lv p)) (hcm : ∀ p d, lv p = some d → cm p = iI (cs p)) (hb : ∀ p d, lv p = some d → d < 4608 ∧ cs p < 2147483648) {p : Nat} (hp : vN w h tn p) (hlp : lv p ≠ none) (kk : Int32 → Option (Int32 × Int32 × Int32 × Int32 × Int32 × Int64 × (Nat → Int32) × (Nat → Int32) × (Nat → Int32) × (Nat → Int32) × (Nat → Int32) × (Nat → Int32) × (Nat → Int32))) :
    ∀ (fz c m j : Nat), c < fz → m + c = 6 → fsM c (ldM w h r tn ok lv cs p) m = some j → J_X5_search_L129 F (iI w) (iI h) (bI (decide (tn = 2))) (iI r) (iI p) fa cm fr kk fz (iI m) = kk (iI j) := by
  intro fz
  induction fz with
  | zero =>
    intro c m j hc
    omega
  | succ fz ih =>
    intro c m j hc hm hj
    cases c with
    | zero => cases hj
    | succ c =>
      rw [fsM] at hj
      rw [J_X5_search_L129, leads_eq hw hh hw0 hh0 hF r0 r4 ht hf hfa hcm hb hp hlp (by omega), Option.bind_some, bI_if]
      by_cases e : ldM w h r tn ok lv cs p m = true
      · rw [if_pos e] at hj
        cases hj
        rw [if_pos e]
      · rw [if_neg e] at hj
        rw [if_neg e, iI_s]
        exact ih c (m + 1) j (by omega) (by omega) hj
theorem ms117 (hw : w ≤ 24) (hh : h ≤ 24) (hw0 : 0 ≤ w) (hh0 : 0 ≤ h) (hF : 20 < F) (r0 : 1 ≤ r) (r4 : r ≤ 4) (ht : tn = 1 ∨ tn = 2) (hf : Fr w h tn ok fr) {lv : Nat → Option Nat} {cs : Nat → Nat} {fa cm : Nat → Int32} (hfa : ∀ p, p < 4608 → fa p = iI (faV lv p)) (hcm : ∀ p d, lv p = some d → cm p = iI (cs p)) (hb : ∀ p d, lv p = some d → d < 4608 ∧ cs p < 2147483648) {c g d : Nat} {P M : Nat → Nat} (hW : WayN w h r tn ok (ldM w h r tn ok lv cs) c g d P M) (hPv : ∀ i, i ≤ d → vN w h tn (P i)) (hPl : ∀ i, i ≤ d → lv (P i) ≠ none) (hg : vN w h tn g) (hd : d < 4608) (kk : Int32 → Int32 → (Nat → Int32) → (Nat → Int32) → Option (Int32 × Int32 × Int32 × Int32 × Int32 × Int64 × (Nat → Int32) × (Nat → Int32) × (Nat → Int32) × (Nat → Int32) × (Nat → Int32) × (Nat → Int32) × (Nat → Int32))) :
    ∀ (fz e i : Nat) (nm be : Nat → Int32), e < fz → i + e = d → (∀ j, j < i → nm j = iI (M j) ∧ be j = iI (P (j + 1))) →
      ∃ x5 nm' be', (∀ j, j < d → nm' j = iI (M j) ∧ be' j = iI (P (j + 1))) ∧
        J_X5_search_L117 F (iI w) (iI h) (bI (decide (tn = 2))) (iI r) (iI g) fa cm fr kk fz (iI (P i)) (iI i) nm be = kk x5 (iI d) nm' be' := by
  obtain ⟨w1, w2, w3, w4⟩ := hW
  intro fz
  induction fz with
  | zero =>
    intro e i nm be he
    omega
  | succ fz ih =>
    intro e i nm be he hie hj
    rw [J_X5_search_L117]
    have hgl := inF_lt hg.1
    have hil := inF_lt (hPv i (by omega)).1
    cases e with
    | zero =>
      have hid : i = d := by omega
      subst hid
      rw [if_pos (by rw [w2])]
      exact ⟨_, nm, be, hj, rfl⟩
    | succ e =>
      have hne := w3 i (by omega)
      rw [if_neg (fun z => by have := (iI_eq (rg_lit (by omega) (by omega)) (rg_lit (by omega) (by omega))).mp z; omega)]
      obtain ⟨hfs, hmv⟩ := w4 i (by omega)
      have hm6 := (fsM_some 6 0 (M i) hfs).2.1
      have h129 := ms129 (F := F) hw hh hw0 hh0 hF r0 r4 ht hf hfa hcm hb (hPv i (by omega)) (hPl i (by omega)) (fun x6_45 =>
          (Option.bind (J_X5_moved F (iI w) (iI h) (bI (decide (tn = 2))) (iI r) fr (iI (P i)) x6_45) fun v_46 =>
            (gd (inB (iI i) 4608)
              (gd (inB (iI i) 4608)
                (J_X5_search_L117 F (iI w) (iI h) (bI (decide (tn = 2))) (iI r) (iI g) fa cm fr kk fz v_46 (iI i + (1 : Int32)) (upd nm (iI (i : Int)).toNatClampNeg x6_45) (upd be (iI (i : Int)).toNatClampNeg v_46)))))) F 6 0 (M i) (by omega) (by omega) hfs
      have h129' := h129.trans rfl
      rw [show ((0 : Nat) : Int) = 0 from rfl, ← kI0] at h129'
      rw [h129', moved_eq hw hh hw0 hh0 hF r0 r4 ht hf (hPv i (by omega)) (by omega), hmv, Option.bind_some, show mvI (some (P (i + 1))) = (P (i + 1) : Int) from rfl, gd_in (rg_lit (by omega) (by omega)) (by omega) (by omega), gd_in (rg_lit (by omega) (by omega)) (by omega) (by omega), iI_clamp (rg_lit (by omega) (by omega)), iI_s]
      refine ih e (i + 1) _ _ (by omega) (by omega) ?_
      intro j hj'
      rw [show ((i : Int).toNat) = i by omega]
      by_cases q : j = i
      · subst q
        rw [upd_at, upd_at]
        exact ⟨rfl, rfl⟩
      · rw [upd_ne q, upd_ne q]
        exact hj j (by omega)
/-- the model's search: three ends -/
theorem search_eq (hw : w ≤ 24) (hh : h ≤ 24) (hw0 : 0 ≤ w) (hh0 : 0 ≤ h) (hF : 7000 < F) (hm : Mf w h fl mf) (ht : tn = 1 ∨ tn = 2) (k0 : 0 ≤ kp) (k1 : kp ≤ 3) (wd0 : 1 ≤ wd) (wd1 : wd ≤ 5) (l0 : 1 ≤ l) (l1 : l ≤ 7) (r0 : 1 ≤ r) (r4 : r ≤ 4) {c g : Nat} (hc : vN w h tn c) (hg : vN w h tn g) (mvs mde : Int32) (nm be fa cm fr ro ne : Nat → Int32) (stp : Int64) :
    ∃ lv cs, DM w h r tn (okP w h (clF w h kp fl) l wd) g lv cs ∧
      (lv c = none → ∃ fa' cm' fr' ro' ne', J_X5_search F (iI w) (iI h) (bI (decide (tn = 2))) (iI l) (iI wd) (iI r) (iI kp) (iI c) (iI g) mvs mde mf nm be fa cm fr ro ne stp = some (if lI (cntN 4608 (befM lv cs c) 0) ≤ stp then 0 else -1, 0, mvs, mde, bI (decide (lI (cntN 4608 (befM lv cs c) 0) ≤ stp)), stp, nm, be, fa', cm', fr', ro', ne')) ∧
      (∀ d, lv c = some d → stp ≤ lI (cntN 4608 (befM lv cs c) 0) → ∃ fa' cm' fr' ro' ne', J_X5_search F (iI w) (iI h) (bI (decide (tn = 2))) (iI l) (iI wd) (iI r) (iI kp) (iI c) (iI g) mvs mde mf nm be fa cm fr ro ne stp = some (-1, 0, mvs, mde, 0, stp, nm, be, fa', cm', fr', ro', ne')) ∧
      (∀ d P M, lv c = some d → lI (cntN 4608 (befM lv cs c) 0) < stp → WayN w h r tn (okP w h (clF w h kp fl) l wd) (ldM w h r tn (okP w h (clF w h kp fl) l wd) lv cs) c g d P M → (∀ i, i ≤ d → vN w h tn (P i)) → (∀ i, i ≤ d → lv (P i) ≠ none) → ∃ nm' be' fa' cm' fr' ro' ne', (∀ j, j < d → nm' j = iI (M j) ∧ be' j = iI (P (j + 1))) ∧ J_X5_search F (iI w) (iI h) (bI (decide (tn = 2))) (iI l) (iI wd) (iI r) (iI kp) (iI c) (iI g) mvs mde mf nm be fa cm fr ro ne stp = some (1, 1, iI d, 0, 1, stp, nm', be', fa', cm', fr', ro', ne')) := by
  obtain ⟨fa', cm', fr', ro', ne', lv, cs, hfc, hFr, hfa, hcm, hD⟩ := findCosts_eq hw hh hw0 hh0 hF hm ht k0 k1 wd0 wd1 l0 l1 r0 r4 hg fa cm fr ro ne
  have hcl := inF_lt hc.1
  have hbf := before_eq (F := F) hF hfa hcm hD.2.1 (y := c) (by omega)
  have hcn := cntN_le (P := befM lv cs c) 4608 0
  have hfc' := hfa c (by omega)
  refine ⟨lv, cs, hD, ?_, ?_, ?_⟩
  · intro hn
    refine ⟨fa', cm', fr', ro', ne', ?_⟩
    unfold J_X5_search
    rw [hfc, Option.bind_some]
    dsimp only
    rw [hbf, Option.bind_some, gd_in (rg_lit (by omega) (by omega)) (by omega) (by omega), iI_clamp (rg_lit (by omega) (by omega)), show ((c : Int).toNat) = c by omega, if_pos (show (1000000000 : Int32) ≤ fa' c by rw [hfc', faV_n hn]; decide), iI_long (rg_lit (by omega) (by omega))]
    by_cases hs : lI (cntN 4608 (befM lv cs c) 0) ≤ stp
    · rw [if_neg (fun z => Int64.not_lt.mpr hs ((lg_cmp_gt _ _).mp z)), if_pos hs, bI_t hs]
    · rw [if_pos ((lg_cmp_gt _ _).mpr (Int64.not_le.mp hs)), if_neg hs, bI_f hs]
  · intro d hd hs
    refine ⟨fa', cm', fr', ro', ne', ?_⟩
    have hbd := hD.2.1 c d hd
    unfold J_X5_search
    rw [hfc, Option.bind_some]
    dsimp only
    rw [hbf, Option.bind_some, gd_in (rg_lit (by omega) (by omega)) (by omega) (by omega), iI_clamp (rg_lit (by omega) (by omega)), show ((c : Int).toNat) = c by omega, if_neg (fun z => by rw [hfc', faV_s hd, show (1000000000 : Int32) = iI 1000000000 from rfl, iI_le (rg_lit (by omega) (by omega)) (rg_lit (by omega) (by omega))] at z; omega), iI_long (rg_lit (by omega) (by omega)), if_pos ((lg_cmp_ge _ _).mpr hs)]
  · intro d P M hd hs hW hPv hPl
    have hbd := hD.2.1 c d hd
    obtain ⟨x5, nm', be', hj, h117⟩ := ms117 (F := F) hw hh hw0 hh0 (by omega) r0 r4 ht hFr hfa hcm hD.2.1 hW hPv hPl hg hbd.1 (fun x5_49 xmvs_50 xnm_51 xbe_52 =>
                (some ((1 : Int32), (1 : Int32), xmvs_50, (0 : Int32), (1 : Int32), stp, xnm_51, xbe_52, fa', cm', fr', ro', ne'))) F d 0 nm be (by omega) (by omega) (fun j hj => by omega)
    refine ⟨nm', be', fa', cm', fr', ro', ne', hj, ?_⟩
    unfold J_X5_search
    rw [hfc, Option.bind_some]
    dsimp only
    rw [hbf, Option.bind_some, gd_in (rg_lit (by omega) (by omega)) (by omega) (by omega), iI_clamp (rg_lit (by omega) (by omega)), show ((c : Int).toNat) = c by omega, if_neg (fun z => by rw [hfc', faV_s hd, show (1000000000 : Int32) = iI 1000000000 from rfl, iI_le (rg_lit (by omega) (by omega)) (rg_lit (by omega) (by omega))] at z; omega), iI_long (rg_lit (by omega) (by omega)), if_neg (fun z => Int64.not_le.mpr hs ((lg_cmp_ge _ _).mp z))]
    rw [hW.1] at h117
    exact h117
end MLEAD
