section PLAN2
variable {F : Nat} {w h l wd r tn : Int} {n nk : Nat} {fk kn : Nat → Int32} {cl : Int → Int → Bool} {g : Nat}
theorem plan117n {nn : Int32} {co : Nat → Int64} {nCo nMv nPl : Nat} (hF : 0 < F) (gol lI wI rI wi hi ti pl0 : Int32) (kk : Int32 → Int32 → (Nat → Int32) → Int32 → (Nat → Int32) → (Nat → Int32) → Option (Int32 × Int32 × (Nat → Int64) × (Nat → Int32) × (Nat → Int32) × Int32 × Int32 × Int32 × (Nat → Int32) × (Nat → Int32))) (kn mv pl : Nat → Int32) (cnt : Int32) :
    J_X4_plan_L117 F gol nCo lI wI rI nk wi hi ti n fk nMv nPl nn co (0 : Int32) kk F pl0 (0 : Int32) kn cnt mv pl = kk pl0 0 kn cnt mv pl := by
  cases F with
  | zero => omega
  | succ F => rw [J_X4_plan_L117, if_pos rfl]
theorem lds_ok (hw : w ≤ 24) (r0 : 1 ≤ r) (r4 : r ≤ 4) {ok : Int → Int → Int → Bool} {lv : Nat → Option Nat} {cs : Nat → Nat} (hB : Best (mvN w h r tn ok) (wlN r) waN g 1048576 lv cs) (hb : ∀ p d, lv p = some d → d < 4608 ∧ cs p < 40000000000) :
    (∀ p d, lv p = some (d + 1) → ∃ m, m < 6 ∧ ldC w h r tn ok lv cs p m = true) ∧ (∀ p d m, lv p = some (d + 1) → ldC w h r tn ok lv cs p m = true → ∃ q, mvN w h r tn ok p m = some q ∧ lv q = some d ∧ cs q + (1048576 * wlN r m + waN m) = cs p) := by
  refine ⟨fun p d hp => ?_, fun p d m hp hl => ?_⟩
  · obtain ⟨m, q, hm, hmv, hq, hc⟩ := hB.step hp
    refine ⟨m, hm, ?_⟩
    unfold ldC
    rw [hmv]
    refine decide_eq_true ?_
    rw [ccI_s hq, ccI_s hp]
    omega
  · unfold ldC at hl
    cases hmv : mvN w h r tn ok p m with
    | none =>
      rw [hmv] at hl
      cases hl
    | some q =>
      rw [hmv] at hl
      have hl := of_decide_eq_true hl
      rw [ccI_s hp] at hl
      have b1 := hb p _ hp
      have hwm := wl_b r4 m
      cases hq : lv q with
      | none =>
        rw [ccI_n hq] at hl
        omega
      | some e =>
        have b2 := hb q _ hq
        rw [ccI_s hq] at hl
        have : e = d := by omega
        subst this
        exact ⟨q, rfl, hq, by omega⟩
/-- the class's plan: three ends -/
theorem plan_eq {nCo nQu nMv nPl : Nat} (hC : CX F w h l wd r tn n nk fk cl) (hn1 : nCo = (h * 256).toNat) (hn2 : nQu = (h * 256).toNat) (hn3 : nMv = (h * 256).toNat) (hn4 : nPl = (h * 256).toNat) {c : Nat} (hc : vN w h tn c) (hg : vN w h tn g) (co : Nat → Int64) (qu : Nat → Int32) (hK : Kn w h (okP w h cl l wd) kn) (stp : Int64) (mv pl : Nat → Int32) :
    ∃ Q nn lv cs, DC w h r tn (okP w h cl l wd) g Q nn lv cs ∧
      ((lv c = none ∧ ∃ co' qu' kn', Kn w h (okP w h cl l wd) kn' ∧ J_X4_plan F (iI (pN c)) (iI (pN g)) stp nCo co nQu qu (iI l) (iI wd) (iI r) nk kn (iI w) (iI h) (iI tn) n fk nMv mv nPl pl = some (bI (decide (lI nn ≤ stp)), iI nn, co', qu', kn', 0, 0, 0, mv, pl)) ∨
       (∃ d, lv c = some d ∧ stp ≤ lI (cntN nn (befC Q lv cs c) 0) ∧ ∃ co' qu' kn', Kn w h (okP w h cl l wd) kn' ∧ J_X4_plan F (iI (pN c)) (iI (pN g)) stp nCo co nQu qu (iI l) (iI wd) (iI r) nk kn (iI w) (iI h) (iI tn) n fk nMv mv nPl pl = some (0, iI nn, co', qu', kn', 0, 0, 0, mv, pl)) ∨
       (∃ d P M, lv c = some d ∧ lI (cntN nn (befC Q lv cs c) 0) < stp ∧ d < (192 * h).toNat ∧ WayN w h r tn (okP w h cl l wd) (ldC w h r tn (okP w h cl l wd) lv cs) c g d P M ∧ (∀ j, j ≤ d → vN w h tn (P j)) ∧ ∃ co' qu' kn' mv' pl', Kn w h (okP w h cl l wd) kn' ∧ (∀ j, j < d → mv' j = iI (M j) ∧ pl' j = iI (pN (P (j + 1))) ∧ M j < 6) ∧
        J_X4_plan F (iI (pN c)) (iI (pN g)) stp nCo co nQu qu (iI l) (iI wd) (iI r) nk kn (iI w) (iI h) (iI tn) n fk nMv mv nPl pl = some (1, iI nn, co', qu', kn', iI d, 0, 1, mv', pl'))) := by
  obtain ⟨⟨a1, a2, a3, a4⟩, ⟨b1, b2, b3, b4, b5, b6⟩, c1, ⟨d1, d2⟩, e1, f1⟩ := id hC
  obtain ⟨Q, nn, lv, cs, co', qu', kn', hD, hq, hco, hK', hsp⟩ := spread_eq hC hn1 hn2 hg co qu hK
  have hcb := DC.b a4 hD
  refine ⟨Q, nn, lv, cs, hD, ?_⟩
  have hvc := costAtO (F := F) a2 a4 hn1 hco (vdp hc)
  have hcv : cvO lv cs (some (nX c, nY c, nD c)) = ccI lv cs c := by
    show ccI lv cs (nC (nX c) (nY c) (nD c)) = _
    rw [nC_n]
  have hcd : cdO (some (nX c, nY c, nD c)) = pN c := rfl
  rw [hcd, hcv] at hvc
  have hun : (1152921504606846976 : Int64) = lI 1152921504606846976 := by decide
  have hbc := hcb c
  have hsz := hD.2.2.2.2.1
  cases hlc : lv c with
  | none =>
    left
    refine ⟨rfl, co', qu', kn', hK', ?_⟩
    unfold J_X4_plan J_X3_drop J_X2_hasReached
    rw [Option.bind_some, hsp, Option.bind_some]
    dsimp only
    rw [hvc, Option.bind_some, ccI_n hlc, if_pos ((lg_cmp_ge _ _).mpr (by rw [hun]; exact Int64.le_refl _)), Option.bind_some, if_pos rfl, iI_long (rg_lit (by omega) (by omega))]
    by_cases hs : stp < lI nn
    · rw [if_pos ((lg_cmp_gt _ _).mpr hs), plan117n (by omega), bI_f (Int64.not_le.mpr hs)]
    · rw [if_neg (fun z => hs ((lg_cmp_gt _ _).mp z)), if_pos rfl, plan117n (by omega), bI_t (Int64.not_lt.mp hs)]
  | some d =>
    right
    have hb2 := hD.2.2.2.2.2.1 c d hlc
    have hok : gO w h (okP w h cl l wd) (nX g) (nY g) (nD g) = true := by
      cases e : gO w h (okP w h cl l wd) (nX g) (nY g) (nD g) with
      | true => rfl
      | false =>
        have := hD.2.2.2.2.2.2.2 e c
        rw [hlc] at this
        cases this
    have hB := hD.2.2.2.2.2.2.1 hok
    have hlc2 : ¬ (0 : Int32) ≤ lg_cmp (lI (ccI lv cs c)) (1152921504606846976 : Int64) := by
      intro z
      rw [lg_cmp_ge, hun, lI_le ⟨by omega, by omega⟩ ⟨by omega, by omega⟩, ccI_s hlc] at z
      omega
    have htb := taken_eq (F := F) (co := co') (qu := qu') a2 a4 a3 f1 hn1 hn2 hD hq hco hc.1
    have hcl := cntN_le (P := befC Q lv cs c) nn 0
    by_cases hs : stp ≤ lI (cntN nn (befC Q lv cs c) 0)
    · left
      refine ⟨d, rfl, hs, co', qu', kn', hK', ?_⟩
      unfold J_X4_plan J_X3_drop J_X2_hasReached
      rw [Option.bind_some, hsp, Option.bind_some]
      dsimp only
      rw [hvc, Option.bind_some, if_neg hlc2, Option.bind_some, if_neg (by decide), htb, Option.bind_some, iI_long (rg_lit (by omega) (by omega)), if_pos ((lg_cmp_ge _ _).mpr hs), plan117n (by omega)]
    · right
      obtain ⟨hz1, hz2⟩ := hB.zero
      obtain ⟨l1, l2⟩ := lds_ok a2 b5 b6 hB (fun p d hp => by have := hD.2.2.2.2.2.1 p d hp; omega)
      obtain ⟨P, M, hW⟩ := way_ex hz1 hz2 l1 (fun p d m hp hl => by obtain ⟨q, q1, q2, -⟩ := l2 p d m hp hl; exact ⟨q, q1, q2⟩) d c hlc
      obtain ⟨x2, x3, kn2, mv', pl', hK2, hv2, hj, hp117⟩ := plan117 (nMv := nMv) (nPl := nPl) hC hn1 hn3 hn4 hcb hco hW hc hg hb2.1 hsz (fun x2_62 x3_63 xkn_64 xcnt_65 xmv_66 xpl_67 => (some ((1 : Int32), iI nn, co', qu', xkn_64, xcnt_65, (0 : Int32), (1 : Int32), xmv_66, xpl_67))) F d 0 kn' mv pl (by omega) (by omega) (fun j hj => by rw [show j = 0 by omega, hW.1]; exact hc) hK' (fun j hj => by omega)
      refine ⟨d, P, M, rfl, Int64.not_le.mp hs, by omega, hW, hv2, co', qu', kn2, mv', pl', hK2, hj, ?_⟩
      unfold J_X4_plan J_X3_drop J_X2_hasReached
      rw [Option.bind_some, hsp, Option.bind_some]
      dsimp only
      rw [hvc, Option.bind_some, if_neg hlc2, Option.bind_some, if_neg (by decide), htb, Option.bind_some, iI_long (rg_lit (by omega) (by omega)), if_neg (fun z => hs ((lg_cmp_ge _ _).mp z)), if_neg (by decide)]
      rw [hW.1] at hp117
      exact hp117
end PLAN2
