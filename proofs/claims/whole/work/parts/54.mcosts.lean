/-! the model's search for costs -/
def faV (lv : Nat → Option Nat) (p : Nat) : Int := match lv p with
  | none => 1000000000
  | some d => (d : Int)
theorem faV_n {lv : Nat → Option Nat} {p : Nat} (h : lv p = none) : faV lv p = 1000000000 := by
  unfold faV
  rw [h]
theorem faV_s {lv : Nat → Option Nat} {p d : Nat} (h : lv p = some d) : faV lv p = (d : Int) := by
  unfold faV
  rw [h]
def MI (w h r tn : Int) (ok : Int → Int → Int → Bool) (g : Nat) (Q : Nat → Nat) (n k : Nat) (dn : Nat → Prop) (lv : Nat → Option Nat) (cs : Nat → Nat) (x1 : Int32) (fa cm ro : Nat → Int32) : Prop :=
  BInv (mvN w h r tn ok) (wlN r) waN g 100000 (192 * h).toNat Q n k dn lv cs ∧ (∀ i, i < n → vN w h tn (Q i)) ∧ x1 = iI n ∧ (∀ i, i < n → ro i = iI (Q i)) ∧ (∀ p, p < 4608 → fa p = iI (faV lv p)) ∧ (∀ p d, lv p = some d → cm p = iI (cs p))
def DM (w h r tn : Int) (ok : Int → Int → Int → Bool) (g : Nat) (lv : Nat → Option Nat) (cs : Nat → Nat) : Prop :=
  (∀ p, lv p ≠ none → vN w h tn p) ∧ (∀ p d, lv p = some d → d < 4608 ∧ cs p < 2147483648) ∧ (gO w h ok (nX g) (nY g) (nD g) = true → Best (mvN w h r tn ok) (wlN r) waN g 100000 lv cs) ∧ (gO w h ok (nX g) (nY g) (nD g) = false → ∀ p, lv p = none)
theorem BInv.min {mv : Nat → Nat → Option Nat} {wl wa : Nat → Nat} {g K N : Nat} {Q : Nat → Nat} {n k : Nat} {dn : Nat → Prop} {lv : Nat → Option Nat} {cs : Nat → Nat} (hsym : ∀ p m q, m < 6 → mv p m = some q → mv q (tIv m) = some p) (hI : BInv mv wl wa g K N Q n k dn lv cs) (hk : k < n) {d p : Nat} (hp : lv p = some d) : ∀ j L A, Wk mv wl wa g j L A p → d ≤ j := by
  intro j L A hW
  obtain ⟨d0, hd0, -⟩ := hI.level hk
  obtain ⟨i, hi, hip⟩ := hI.2.2.2.1 p d hp
  have h6 := hI.2.2.2.2.2.1 i d0 d hi hk hd0 (by rw [hip]; exact hp)
  rcases Nat.lt_or_ge j d with q | q
  · obtain ⟨e, e1, e2⟩ := hI.reach hsym hk hd0 j L A p hW (by omega)
    rw [hp] at e1
    cases e1
    exact e2
  · exact q
section MCOST
variable {F : Nat} {w h l wd r tn kp : Int} {ok : Int → Int → Int → Bool} {fr : Nat → Int32}
theorem more_eq (r0 : 1 ≤ r) (r4 : r ≤ 4) {m : Nat} (m6 : m < 6) : J_X5_more F (iI r) (iI m) = some (iI (100000 * (wlN r m : Int) + (waN m : Int))) := by
  unfold J_X5_more wlN waN
  rw [kI2]
  by_cases h2 : 2 ≤ m
  · rw [if_pos ((iI_le (rg_lit (by omega) (by omega)) (rg_lit (by omega) (by omega))).mpr (by omega)), if_neg (by omega), if_neg (by omega), show (200000 : Int32) = iI 200000 from rfl, iI_mul, iI_s]
    congr 2
    omega
  · rw [if_neg (fun q => by rw [iI_le (rg_lit (by omega) (by omega)) (rg_lit (by omega) (by omega))] at q; omega), if_pos (by omega), if_pos (by omega)]
    rfl
theorem cost_cand (hw : w ≤ 24) (hh : h ≤ 24) (r0 : 1 ≤ r) (r4 : r ≤ 4) (ht : tn = 1 ∨ tn = 2) {g : Nat} {Q : Nat → Nat} {n k : Nat} {dn : Nat → Prop} {lv : Nat → Option Nat} {cs : Nat → Nat} (hB : BInv (mvN w h r tn ok) (wlN r) waN g 100000 (192 * h).toNat Q n k dn lv cs) (hk : k < n) {d q m : Nat} (hm : m < 6) (hd : lv (Q k) = some d) (hmv : mvN w h r tn ok (Q k) m = some q) (hq : ∀ e, lv q = some e → d < e) : cs (Q k) + (100000 * wlN r m + waN m) < 2147483648 := by
  have hsz := hB.size
  have hlt := hB.lvlt hd
  obtain ⟨L, A, hW, hc⟩ := hB.2.2.2.2.2.2.1 (Q k) d hd
  have hW2 : Wk (mvN w h r tn ok) (wlN r) waN g (d + 1) (L + wlN r m) (A + waN m) q := ⟨tIv m, Q k, L, A, tIv_lt hm, mvN_sym hw r0 _ _ _ hm hmv, hW, by rw [wlN_inv hm], by rw [waN_inv hm]⟩
  have := costN hw hh r0 r4 ht (by omega) hW2 (hB.geod (mvN_sym hw r0) hk hd hq)
  rw [Nat.mul_add] at this
  omega
theorem cost_reached (hw : w ≤ 24) (hh : h ≤ 24) (r0 : 1 ≤ r) (r4 : r ≤ 4) (ht : tn = 1 ∨ tn = 2) {g : Nat} {Q : Nat → Nat} {n k : Nat} {dn : Nat → Prop} {lv : Nat → Option Nat} {cs : Nat → Nat} (hB : BInv (mvN w h r tn ok) (wlN r) waN g 100000 (192 * h).toNat Q n k dn lv cs) (hk : k < n) {d q : Nat} (hd : lv q = some d) : cs q < 2147483648 := by
  have hsz := hB.size
  have hlt := hB.lvlt hd
  obtain ⟨L, A, hW, hc⟩ := hB.2.2.2.2.2.2.1 q d hd
  rw [hc]
  exact costN hw hh r0 r4 ht (by omega) hW (hB.min (mvN_sym hw r0) hk hd)
theorem fc89 (hw : w ≤ 24) (hh : h ≤ 24) (hw0 : 0 ≤ w) (hh0 : 0 ≤ h) (hF : 20 < F) (r0 : 1 ≤ r) (r4 : r ≤ 4) (ht : tn = 1 ∨ tn = 2) (hf : Fr w h tn ok fr) {g k p : Nat} (kk : Int32 → Int32 → (Nat → Int32) → (Nat → Int32) → (Nat → Int32) → Option ((Nat → Int32) × (Nat → Int32) × (Nat → Int32) × (Nat → Int32) × (Nat → Int32))) :
    ∀ (fz c m : Nat) (Q : Nat → Nat) (n : Nat) (lv : Nat → Option Nat) (cs : Nat → Nat) (x1 : Int32) (fa cm ro : Nat → Int32), c < fz → m + c = 6 → MI w h r tn ok g Q n k (fun x => x < 6 ∧ tIv x < m) lv cs x1 fa cm ro → k < n → Q k = p →
      ∃ Q' n' lv' cs' x1' fa' cm' ro', MI w h r tn ok g Q' n' k (fun x => x < 6 ∧ tIv x < 6) lv' cs' x1' fa' cm' ro' ∧ k < n' ∧ Q' k = p ∧
        J_X5_findCosts_L89 F (iI w) (iI h) (bI (decide (tn = 2))) (iI r) (iI p) fr kk fz x1 (iI m) fa cm ro = kk x1' (iI 6) fa' cm' ro' := by
  intro fz
  induction fz with
  | zero =>
    intro c m Q n lv cs x1 fa cm ro hc
    omega
  | succ fz ih =>
    intro c m Q n lv cs x1 fa cm ro hc hm hS hk hQ
    rw [J_X5_findCosts_L89]
    cases c with
    | zero =>
      rw [if_pos (by rw [show (6 : Int32) = iI 6 from rfl, iI_le (rg_lit (by omega) (by omega)) (rg_lit (by omega) (by omega))]; omega)]
      have hm6 : m = 6 := by omega
      subst hm6
      exact ⟨Q, n, lv, cs, x1, fa, cm, ro, hS, hk, hQ, rfl⟩
    | succ c =>
      rw [if_neg (fun z => by rw [show (6 : Int32) = iI 6 from rfl, iI_le (rg_lit (by omega) (by omega)) (rg_lit (by omega) (by omega))] at z; omega)]
      obtain ⟨hB, hv, hr, hq, hfa, hcm⟩ := id hS
      obtain ⟨d, hd, hdk⟩ := hB.level hk
      rw [hQ] at hd
      have hvp := hv k hk
      rw [hQ] at hvp
      have hsz := hB.size
      have hdn := hB.lvlt hd
      have hpl := inF_lt hvp.1
      have hnext : ∀ {Q' : Nat → Nat} {n' : Nat} {lv' : Nat → Option Nat} {cs' : Nat → Nat} {x1' : Int32} {fa' cm' ro' : Nat → Int32}, MI w h r tn ok g Q' n' k (fun x => (x < 6 ∧ tIv x < m) ∨ x = tIv m) lv' cs' x1' fa' cm' ro' → k < n' → Q' k = p →
        ∃ Q2 n2 lv2 cs2 x12 fa2 cm2 ro2, MI w h r tn ok g Q2 n2 k (fun x => x < 6 ∧ tIv x < 6) lv2 cs2 x12 fa2 cm2 ro2 ∧ k < n2 ∧ Q2 k = p ∧
        J_X5_findCosts_L89 F (iI w) (iI h) (bI (decide (tn = 2))) (iI r) (iI p) fr kk fz x1' (iI m + (1 : Int32)) fa' cm' ro' = kk x12 (iI 6) fa2 cm2 ro2 := by
        intro Q' n' lv' cs' x1' fa' cm' ro' hS' hk' hQ'
        rw [iI_s]
        refine ih c (m + 1) Q' n' lv' cs' x1' fa' cm' ro' (by omega) (by omega) ⟨hS'.1.mono (fun x hx => ?_), hS'.2⟩ hk' hQ'
        have hx' : x < 6 ∧ tIv x < m + 1 := hx
        show (x < 6 ∧ tIv x < m) ∨ x = tIv m
        by_cases e : tIv x < m
        · exact Or.inl ⟨hx'.1, e⟩
        · right
          rw [← tIv_inv hx'.1]
          congr 1
          omega
      have htm := tIv_lt (m := m) (by omega)
      have hmvd := moved_eq (F := F) hw hh hw0 hh0 hF r0 r4 ht hf hvp htm
      have hmore := more_eq (F := F) r0 r4 (m := m) (by omega)
      have hwi := wlN_inv (r := r) (m := m) (by omega)
      have hai := waN_inv (m := m) (by omega)
      have e7 : 2 ≤ m → (7 : Int32) - iI m = iI (tIv m : Nat) := by
        intro h2
        rw [show (7 : Int32) = iI 7 from rfl, iI_sub]
        congr 1
        unfold tIv
        rw [if_neg (by omega)]
        omega
      have e1 : ¬ 2 ≤ m → (1 : Int32) - iI m = iI (tIv m : Nat) := by
        intro h2
        rw [show (1 : Int32) = iI 1 from rfl, iI_sub]
        congr 1
        unfold tIv
        rw [if_pos (by omega)]
        omega
      have hle2 : ((2 : Int32) ≤ iI m) ↔ 2 ≤ m := by
        rw [kI2, iI_le (rg_lit (by omega) (by omega)) (rg_lit (by omega) (by omega))]
        omega
      have gp : ∀ {α : Type} (k : Option α), gd (inB (iI p) 4608) k = k := fun k => gd_in (rg_lit (by omega) (by omega)) (by omega) (by omega)
      have cp : (iI (p : Int)).toNatClampNeg = p := by rw [iI_clamp (rg_lit (by omega) (by omega))]; omega
      have hfp := hfa p (by omega)
      rw [faV_s hd] at hfp
      by_cases h2 : 2 ≤ m
      all_goals first | rw [if_pos (hle2.mpr h2), e7 h2] | rw [if_neg (fun z => h2 (hle2.mp z)), e1 h2]
      all_goals rw [hmvd, Option.bind_some]
      all_goals cases hmv : mvN w h r tn ok p (tIv m) with
        | none =>
          rw [show mvI none = -1 from rfl, if_pos (by decide)]
          exact hnext ⟨hB.skip (by rw [hQ]; exact hmv), hv, hr, hq, hfa, hcm⟩ hk hQ
        | some q =>
          have hvq := mvN_v hw r0 hvp hmv
          have hql := inF_lt hvq.1
          have gq : ∀ {α : Type} (k : Option α), gd (inB (iI q) 4608) k = k := fun k => gd_in (rg_lit (by omega) (by omega)) (by omega) (by omega)
          have cq : (iI (q : Int)).toNatClampNeg = q := by rw [iI_clamp (rg_lit (by omega) (by omega))]; omega
          have hfq := hfa q (by omega)
          have hcp := hcm p d hd
          rw [show mvI (some q) = (q : Int) from rfl, if_neg (fun z => by rw [iI_lt0 (rg_lit (by omega) (by omega))] at z; omega)]
          simp only [gq, gp, cp, cq]
          rw [hfp, hfq]
          cases hlq : lv q with
          | none =>
            have hcand := cost_cand hw hh r0 r4 ht hB hk htm (by rw [hQ]; exact hd) (by rw [hQ]; exact hmv) (fun e he => by rw [hlq] at he; cases he)
            rw [hQ, hwi, hai] at hcand
            rw [faV_n hlq, if_pos ((iI_lt (rg_lit (by omega) (by omega)) (rg_lit (by omega) (by omega))).mpr (by omega)), hmore, Option.bind_some, if_pos (show iI 1000000000 = (1000000000 : Int32) from rfl), hcp, iI_add, hr]
            have gn : ∀ {α : Type} (k : Option α), gd (inB (iI n) 4608) k = k := fun k => gd_in (rg_lit (by omega) (by omega)) (by omega) (by
              have := (hB.new (mvN_sym hw r0) (fun m hm => wlN_inv hm) (fun m hm => waN_inv hm) hk (m := tIv m) (p := q) (d := d) htm (by rw [hQ]; exact hmv) (by rw [hQ]; exact hd) hlq (inF_lt hvq.1)).size
              omega)
            have cn : (iI (n : Int)).toNatClampNeg = n := by rw [iI_clamp (rg_lit (by omega) (by omega))]; omega
            simp only [gn, cn, upd_at]
            rw [if_pos (Int32.le_refl _), iI_s (d : Int), iI_s (n : Int)]
            have hnew := hB.new (mvN_sym hw r0) (fun m hm => wlN_inv hm) (fun m hm => waN_inv hm) hk (m := tIv m) (p := q) (d := d) htm (by rw [hQ]; exact hmv) (by rw [hQ]; exact hd) hlq (inF_lt hvq.1)
            rw [hQ, hwi, hai] at hnew
            refine hnext (Q' := fun i => if i = n then q else Q i) (n' := n + 1) (lv' := fun x => if x = q then some (d + 1) else lv x) (cs' := fun x => if x = q then cs p + (100000 * wlN r m + waN m) else cs x) ⟨hnew, ?_, rfl, ?_, ?_, ?_⟩ (by omega) (by show (if k = n then q else Q k) = p; rw [if_neg (by omega), hQ])
            · intro i hi
              show vN w h tn (if i = n then q else Q i)
              by_cases hx : i = n
              · rw [if_pos hx]
                exact hvq
              · rw [if_neg hx]
                exact hv i (by omega)
            · intro i hi
              show upd ro n (iI q) i = iI ((if i = n then q else Q i : Nat) : Int)
              by_cases hx : i = n
              · rw [if_pos hx, hx, upd_at]
              · rw [if_neg hx, upd_ne hx]
                exact hq i (by omega)
            · intro x hx
              by_cases hxq : x = q
              · rw [hxq, upd_at, faV_s (d := d + 1) (by show (if q = q then _ else _) = _; rw [if_pos rfl])]
                rfl
              · rw [upd_ne hxq, hfa x hx]
                unfold faV
                simp only [if_neg hxq]
            · intro x e hx
              show upd (upd cm q _) q _ x = iI ((if x = q then cs p + (100000 * wlN r m + waN m) else cs x : Nat) : Int)
              by_cases hxq : x = q
              · rw [hxq, upd_at, if_pos rfl]
                congr 1
              · rw [upd_ne hxq, upd_ne hxq, if_neg hxq]
                have hx' : (if x = q then some (d + 1) else lv x) = some e := hx
                rw [if_neg hxq] at hx'
                exact hcm x e hx'
          | some e =>
            have heq := hB.lvlt hlq
            rw [faV_s hlq]
            by_cases hde : d < e
            · have hcand := cost_cand hw hh r0 r4 ht hB hk htm (by rw [hQ]; exact hd) (by rw [hQ]; exact hmv) (fun e' he => by rw [hlq] at he; cases he; exact hde)
              rw [hQ, hwi, hai] at hcand
              have hcq := cost_reached hw hh r0 r4 ht hB hk hlq
              have he1 : e ≤ d + 1 := by
                obtain ⟨j, hj, hjq⟩ := hB.2.2.2.1 q e hlq
                exact hB.2.2.2.2.2.1 j d e hj hk (by rw [hQ]; exact hd) (by rw [hjq]; exact hlq)
              have hed1 : e = d + 1 := by omega
              subst hed1
              have hl := hB.low (mvN_sym hw r0) (fun m hm => wlN_inv hm) (fun m hm => waN_inv hm) hk (m := tIv m) (p := q) (d := d) htm (by rw [hQ]; exact hmv) (by rw [hQ]; exact hd) hlq rfl
              rw [hQ, hwi, hai] at hl
              rw [if_pos ((iI_lt (rg_lit (by omega) (by omega)) (rg_lit (by omega) (by omega))).mpr (by omega)), hmore, Option.bind_some, if_neg (fun z => by
                have := (iI_eq (b := 1000000000) (rg_lit (by omega) (by omega)) (rg_lit (by omega) (by omega))).mp z
                omega), hcp, hcm q (d + 1) hlq, iI_add, iI_s (d : Int)]
              have hfa2 : ∀ x, x < 4608 → upd fa q (iI ((d : Int) + 1)) x = iI (faV lv x) := by
                intro x hx
                by_cases hxq : x = q
                · rw [hxq, upd_at, faV_s hlq]
                  rfl
                · rw [upd_ne hxq]
                  exact hfa x hx
              by_cases hcc : cs q ≤ cs p + (100000 * wlN r m + waN m)
              · rw [if_pos ((iI_le (rg_lit (by omega) (by omega)) (rg_lit (by omega) (by omega))).mpr (by omega))]
                refine hnext (lv' := lv) ⟨hl, hv, hr, hq, hfa2, ?_⟩ hk hQ
                intro x e' hx
                show upd cm q _ x = iI ((if x = q then (if cs p + (100000 * wlN r m + waN m) < cs q then cs p + (100000 * wlN r m + waN m) else cs q) else cs x : Nat) : Int)
                by_cases hxq : x = q
                · rw [hxq, upd_at, if_pos rfl, if_neg (by omega)]
                · rw [upd_ne hxq, if_neg hxq]
                  exact hcm x e' hx
              · rw [if_neg (fun z => hcc (by have := (iI_le (rg_lit (by omega) (by omega)) (rg_lit (by omega) (by omega))).mp z; omega))]
                refine hnext (lv' := lv) ⟨hl, hv, hr, hq, hfa2, ?_⟩ hk hQ
                intro x e' hx
                show upd cm q _ x = iI ((if x = q then (if cs p + (100000 * wlN r m + waN m) < cs q then cs p + (100000 * wlN r m + waN m) else cs q) else cs x : Nat) : Int)
                by_cases hxq : x = q
                · rw [hxq, upd_at, if_pos rfl, if_pos (by omega)]
                  congr 1
                · rw [upd_ne hxq, if_neg hxq]
                  exact hcm x e' hx
            · rw [if_neg (fun z => hde (by have := (iI_lt (rg_lit (by omega) (by omega)) (rg_lit (by omega) (by omega))).mp z; omega))]
              exact hnext ⟨hB.old (by rw [hQ]; exact hmv) (by rw [hQ]; exact hd) hlq (by omega), hv, hr, hq, hfa, hcm⟩ hk hQ
end MCOST
