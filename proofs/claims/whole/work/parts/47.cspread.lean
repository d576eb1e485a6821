/-! longs -/
def lI (a : Int) : Int64 := Int64.ofInt a
def rL (a : Int) : Prop := -9223372036854775808 ≤ a ∧ a < 9223372036854775808
theorem lI_toInt {a : Int} (h : rL a) : (lI a).toInt = a := Int64.toInt_ofInt_of_le (by have := h.1; omega) (by have := h.2; omega)
theorem lI_add (a b : Int) : lI a + lI b = lI (a + b) := (Int64.ofInt_add a b).symm
theorem lI_mul (a b : Int) : lI a * lI b = lI (a * b) := (Int64.ofInt_mul a b).symm
theorem lI_le {a b : Int} (ha : rL a) (hb : rL b) : (lI a ≤ lI b) ↔ a ≤ b := by
  rw [Int64.le_iff_toInt_le, lI_toInt ha, lI_toInt hb]
theorem lI_lt {a b : Int} (ha : rL a) (hb : rL b) : (lI a < lI b) ↔ a < b := by
  rw [Int64.lt_iff_toInt_lt, lI_toInt ha, lI_toInt hb]
theorem lI_eq {a b : Int} (ha : rL a) (hb : rL b) : (lI a = lI b) ↔ a = b := by
  refine ⟨fun h => ?_, fun h => by rw [h]⟩
  have h2 : (lI a).toInt = (lI b).toInt := by rw [h]
  rw [lI_toInt ha, lI_toInt hb] at h2
  exact h2
theorem iI_long {a : Int} (h : rg a) : (iI a).toInt64 = lI a := by
  apply Int64.toInt_inj.mp
  rw [Int32.toInt_toInt64, iI_toInt h, lI_toInt ⟨by have := h.1; omega, by have := h.2; omega⟩]
/-! the class's search for costs -/
def pN (p : Nat) : Int := pcd (nX p) (nY p) (nD p)
def ccI (lv : Nat → Option Nat) (cs : Nat → Nat) (p : Nat) : Int := match lv p with
  | none => 1152921504606846976
  | some d => 1099511627776 * (d : Int) + (cs p : Int)
def cvO (lv : Nat → Option Nat) (cs : Nat → Nat) : Option (Int × Int × Int) → Int
  | none => 1152921504606846976
  | some (x, y, d) => ccI lv cs (nC x y d)
def SI (w h r tn : Int) (ok : Int → Int → Int → Bool) (g : Nat) (Q : Nat → Nat) (n k : Nat) (dn : Nat → Prop) (lv : Nat → Option Nat) (cs : Nat → Nat) (rch : Int32) (co : Nat → Int64) (qu : Nat → Int32) : Prop :=
  BInv (mvN w h r tn ok) (wlN r) waN g 1048576 (192 * h).toNat Q n k dn lv cs ∧ (∀ i, i < n → vN w h tn (Q i)) ∧ rch = iI n ∧ (∀ i, i < n → qu i = iI (pN (Q i))) ∧ (∀ p, inF w h (nX p) (nY p) = true → co (pN p).toNat = lI (ccI lv cs p))
theorem ccI_n {lv : Nat → Option Nat} {cs : Nat → Nat} {p : Nat} (h : lv p = none) : ccI lv cs p = 1152921504606846976 := by
  unfold ccI
  rw [h]
theorem ccI_s {lv : Nat → Option Nat} {cs : Nat → Nat} {p d : Nat} (h : lv p = some d) : ccI lv cs p = 1099511627776 * (d : Int) + (cs p : Int) := by
  unfold ccI
  rw [h]
theorem pN_b {w h : Int} (hw : w ≤ 24) (hh : h ≤ 24) {p : Nat} (hi : inF w h (nX p) (nY p) = true) : 0 ≤ pN p ∧ pN p < h * 256 ∧ pN p < 6144 := pcd_b hw hh hi (nD_b p).1 (nD_b p).2
theorem pN_inj {w h : Int} (hw : w ≤ 24) (hh : h ≤ 24) {p q : Nat} (hp : inF w h (nX p) (nY p) = true) (hq : inF w h (nX q) (nY q) = true) (e : (pN p).toNat = (pN q).toNat) : p = q := by
  have b1 := pN_b hw hh hp
  have b2 := pN_b hw hh hq
  have x1 := nX_b p
  have x2 := nX_b q
  obtain ⟨e1, e2, e3⟩ := pcd_inj (nD_b p).1 (nD_b p).2 (nD_b q).1 (nD_b q).2 x1.1 (by omega) x2.1 (by omega) (show pcd (nX p) (nY p) (nD p) = pcd (nX q) (nY q) (nD q) by unfold pN at *; omega)
  exact n_ext e1 e2 e3
theorem BInv.mono {mv : Nat → Nat → Option Nat} {wl wa : Nat → Nat} {g K N : Nat} {Q : Nat → Nat} {n k : Nat} {dn dn' : Nat → Prop} {lv : Nat → Option Nat} {cs : Nat → Nat} (hI : BInv mv wl wa g K N Q n k dn lv cs) (hd : ∀ x, dn' x → dn x) : BInv mv wl wa g K N Q n k dn' lv cs := by
  obtain ⟨h1, h2, h3, h4, h5, h6, h7, h8⟩ := hI
  refine ⟨h1, h2, h3, h4, h5, h6, h7, fun i m p d h => h8 i m p d ?_⟩
  rcases h with h | ⟨a, b, c⟩
  · exact Or.inl h
  · exact Or.inr ⟨a, b, hd _ c⟩
section SPREAD
variable {F : Nat} {w h l wd r tn : Int} {n nk : Nat} {fk kn : Nat → Int32} {cl : Int → Int → Bool}
theorem costAtO (hw : w ≤ 24) (hh : h ≤ 24) {nCo : Nat} (hn : nCo = (h * 256).toNat) {lv : Nat → Option Nat} {cs : Nat → Nat} {co : Nat → Int64} (hco : ∀ p, inF w h (nX p) (nY p) = true → co (pN p).toNat = lI (ccI lv cs p)) {o : Option (Int × Int × Int)} (hv : vdO w h o) :
    J_X2_costAt F nCo co (iI (cdO o)) = some (lI (cvO lv cs o)) := by
  match o, hv with
  | none, _ =>
    show J_X2_costAt F nCo co (iI (-1)) = some (lI 1152921504606846976)
    unfold J_X2_costAt
    rw [if_pos (by decide)]
    rfl
  | some (x, y, d), hv =>
    have q := inF_iff.mp hv.1
    obtain ⟨e1, e2, e3⟩ := n_nC q.1 (by omega) q.2.2.1 hv.2.1 hv.2.2
    have hz := hco (nC x y d) (by rw [e1, e2]; exact hv.1)
    have b := pcd_b hw hh hv.1 hv.2.1 hv.2.2
    show J_X2_costAt F nCo co (iI (pcd x y d)) = some (lI (ccI lv cs (nC x y d)))
    have hp : pN (nC x y d) = pcd x y d := by unfold pN; rw [e1, e2, e3]
    rw [hp] at hz
    unfold J_X2_costAt
    have rp : rg (pcd x y d) := rg_lit (by omega) (by omega)
    rw [if_neg (fun z => by rw [iI_lt0 rp] at z; omega), if_neg (fun z => by rw [nI_iI, iI_le (rg_lit (by omega) (by omega)) rp] at z; omega), gd_in rp (by omega) (by omega), iI_clamp rp, hz]
theorem costOf_eq (r0 : 1 ≤ r) (r4 : r ≤ 4) {m : Nat} (m1 : m < 6) : J_X2_costOf F (iI r) (iI m) = some (lI (1099511627776 + (1048576 * (wlN r m : Int) + (waN m : Int)))) := by
  have e0 : (1099511627776 : Int64) = lI 1099511627776 := by decide
  have e1 : (1048576 : Int64) = lI 1048576 := by decide
  have e2 : (0 : Int64) = lI 0 := by decide
  have e3 : (1 : Int64) = lI 1 := by decide
  unfold J_X2_costOf J_X0_lengthOf
  rw [isArc_eq (m := (m : Int)) (by omega) (by omega), Option.bind_some, bI_if]
  by_cases h2 : 2 ≤ (m : Int)
  · rw [decide_eq_true h2, if_pos rfl, Option.bind_some, Option.bind_some, if_neg (by decide), kI2, iI_mul, iI_long (rg_lit (by omega) (by omega)), e0, e1, e3, lI_mul, lI_add, lI_add]
    unfold wlN waN
    rw [if_neg (by omega), if_neg (by omega)]
    congr 2
    omega
  · rw [decide_eq_false h2, if_neg (by decide), Option.bind_some, Option.bind_some, if_pos (by decide), kI1, iI_long (rg_lit (by omega) (by omega)), e0, e1, e2, lI_mul, lI_add, lI_add]
    unfold wlN waN
    rw [if_pos (by omega), if_pos (by omega)]
    rfl
/-- a place's cost is small -/
theorem BInv.csb {ok : Int → Int → Int → Bool} {g K N : Nat} {Q : Nat → Nat} {n k : Nat} {dn : Nat → Prop} {lv : Nat → Option Nat} {cs : Nat → Nat} (hK : K ≤ 1048576) (hN : N ≤ 4608) (r4 : r ≤ 4) (hI : BInv (mvN w h r tn ok) (wlN r) waN g K N Q n k dn lv cs) {p d : Nat} (hp : lv p = some d) : d < 4608 ∧ cs p < 40000000000 := by
  have h1 := hI.lvlt hp
  have h2 := hI.size
  obtain ⟨L, A, hW, hc⟩ := hI.2.2.2.2.2.2.1 p d hp
  have h3 := walk_len r.toNat (fun m _ => rfl) (fun m _ => rfl) d L A p hW
  have h4 : 2 * r.toNat * A ≤ 8 * A := Nat.mul_le_mul_right A (by omega)
  have h5 : K * L ≤ 1048576 * L := Nat.mul_le_mul_right L hK
  refine ⟨by omega, ?_⟩
  rw [hc]
  omega
theorem wl_b (r4 : r ≤ 4) (m : Nat) : wlN r m ≤ 8 ∧ waN m ≤ 1 := by
  unfold wlN waN
  split <;> omega
theorem laO_of (hw : w ≤ 24) (r0 : 1 ≤ r) {ok : Int → Int → Int → Bool} {p m q : Nat} (hmv : mvN w h r tn ok p m = some q) : laO w h r tn m (some (nX p, nY p, nD p)) = some (nX q, nY q, nD q) ∧ mvB w h r tn ok m (some (nX p, nY p, nD p)) = true := by
  obtain ⟨h1, -, -, -⟩ := mvN_at hw r0 hmv
  rw [← mvB_mvO r0] at h1
  cases hb : mvB w h r tn ok m (some (nX p, nY p, nD p)) with
  | false =>
    rw [hb] at h1
    cases h1
  | true =>
    rw [hb, if_pos rfl] at h1
    exact ⟨h1, rfl⟩
theorem mvN_of (r0 : 1 ≤ r) {ok : Int → Int → Int → Bool} {p m : Nat} (hb : mvB w h r tn ok m (some (nX p, nY p, nD p)) = false) : mvN w h r tn ok p m = none := by
  unfold mvN
  rw [← mvB_mvO r0, hb]
  rfl
theorem mvB_mv (hw : w ≤ 24) (r0 : 1 ≤ r) {ok : Int → Int → Int → Bool} {p m : Nat} (hb : mvB w h r tn ok m (some (nX p, nY p, nD p)) = true) : ∃ q, mvN w h r tn ok p m = some q := by
  cases e : mvN w h r tn ok p m with
  | some q => exact ⟨q, rfl⟩
  | none =>
    exfalso
    unfold mvN at e
    rw [Option.map_eq_none_iff] at e
    rw [← mvB_mvO r0, hb, if_pos rfl] at e
    have h0 := mvB_mvO (w := w) (h := h) (r := r) (tn := tn) (ok := ok) r0 (m := (m : Int)) (x := nX p) (y := nY p) (d := nD p)
    rw [hb, if_pos rfl, e] at h0
    unfold mvB at hb
    unfold laO at e
    by_cases h2 : 2 ≤ (m : Int)
    · rw [if_pos h2] at hb e
      rw [allB_iff] at hb
      have h3 := hb r (by omega) (by omega)
      unfold mkB at h3
      rw [e] at h3
      have := (Bool.and_eq_true_iff.mp h3).2
      cases this
    · rw [if_neg h2] at hb e
      rw [allB_iff] at hb
      have h3 := hb 1 (by omega) (by omega)
      unfold mkB at h3
      rw [Int.mul_one, e] at h3
      have := (Bool.and_eq_true_iff.mp h3).2
      cases this
theorem vdp {p : Nat} (hv : vN w h tn p) : vdO w h (some (nX p, nY p, nD p)) := ⟨hv.1, (nD_b p).1, (nD_b p).2⟩
theorem laO_vd {m : Int} {o : Option (Int × Int × Int)} (hv : vdO w h o) : vdO w h (laO w h r tn m o) := by
  unfold laO seO
  split
  · exact shO_vd (tuO_vd (shO_vd hv))
  · exact shO_vd hv
theorem reach_new {nCo nQu : Nat} (hw : w ≤ 24) (hh : h ≤ 24) (h0 : 0 ≤ h) (hn1 : nCo = (h * 256).toNat) (hn2 : nQu = (h * 256).toNat) {rch : Nat} (hr : rch < (192 * h).toNat) {q : Nat} (hq : inF w h (nX q) (nY q) = true) {co : Nat → Int64} {qu : Nat → Int32} (hc : co (pN q).toNat = lI 1152921504606846976) (v : Int64) :
    J_X2_reach F (iI rch) nCo co nQu qu (iI (pN q)) v = some (iI (rch + 1 : Nat), vp_updL co (pN q).toNat v, upd qu rch (iI (pN q))) := by
  have b := pN_b hw hh hq
  have rp : rg (pN q) := rg_lit (by omega) (by omega)
  have rr : rg (rch : Int) := rg_lit (by omega) (by omega)
  unfold J_X2_reach
  rw [if_neg (fun z => by rw [iI_lt0 rp] at z; omega), if_pos (by rw [nI_iI, iI_lt rp (rg_lit (by omega) (by omega))]; omega), gd_in rp (by omega) (by omega), iI_clamp rp, hc, if_pos ((lg_cmp_eq _ _).mpr (show lI 1152921504606846976 = (1152921504606846976 : Int64) by decide)), if_neg (fun z => by rw [nI_iI, iI_le (rg_lit (by omega) (by omega)) rr] at z; omega), gd_in rr (by omega) (by omega), gd_in rp (by omega) (by omega), iI_clamp rr, kI1, iI_add]
  rfl
theorem reach_old {nCo nQu : Nat} (hw : w ≤ 24) (hh : h ≤ 24) (hn1 : nCo = (h * 256).toNat) {rch : Int32} {q : Nat} (hq : inF w h (nX q) (nY q) = true) {co : Nat → Int64} {qu : Nat → Int32} {c : Int} (c0 : 0 ≤ c) (c1 : c < 1152921504606846976) (hc : co (pN q).toNat = lI c) (v : Int64) :
    J_X2_reach F rch nCo co nQu qu (iI (pN q)) v = some (rch, vp_updL co (pN q).toNat v, qu) := by
  have b := pN_b hw hh hq
  have rp : rg (pN q) := rg_lit (by omega) (by omega)
  unfold J_X2_reach
  rw [if_neg (fun z => by rw [iI_lt0 rp] at z; omega), if_pos (by rw [nI_iI, iI_lt rp (rg_lit (by omega) (by omega))]; omega), gd_in rp (by omega) (by omega), iI_clamp rp, hc, if_neg (fun z => by
    rw [lg_cmp_eq] at z
    have := (lI_eq ⟨by omega, by omega⟩ ⟨by omega, by omega⟩).mp (show lI c = lI 1152921504606846976 from z)
    omega), gd_in rp (by omega) (by omega)]
theorem updL_at {f : Nat → Int64} {k : Nat} {v : Int64} : vp_updL f k v k = v := by
  unfold vp_updL
  rw [if_pos rfl]
theorem updL_ne {f : Nat → Int64} {k j : Nat} {v : Int64} (h : j ≠ k) : vp_updL f k v j = f j := by
  unfold vp_updL
  rw [if_neg h]
theorem sp62 {nCo nQu : Nat} (hC : CX F w h l wd r tn n nk fk cl) (hn1 : nCo = (h * 256).toNat) (hn2 : nQu = (h * 256).toNat) {g k p : Nat} (kk : Int32 → Int32 → (Nat → Int64) → (Nat → Int32) → (Nat → Int32) → Option (Int32 × (Nat → Int64) × (Nat → Int32) × (Nat → Int32))) :
    ∀ (fz c m : Nat) (Q : Nat → Nat) (nn : Nat) (lv : Nat → Option Nat) (cs : Nat → Nat) (rch : Int32) (co : Nat → Int64) (qu kn : Nat → Int32), c < fz → m + c = 6 → SI w h r tn (okP w h cl l wd) g Q nn k (fun x => x < m) lv cs rch co qu → k < nn → Q k = p → Kn w h (okP w h cl l wd) kn →
      ∃ Q' nn' lv' cs' rch' co' qu' kn', SI w h r tn (okP w h cl l wd) g Q' nn' k (fun x => x < 6) lv' cs' rch' co' qu' ∧ k < nn' ∧ Q' k = p ∧ Kn w h (okP w h cl l wd) kn' ∧
        J_X2_spreadFrom_L62 F nCo nQu (iI l) (iI wd) (iI r) nk (iI w) (iI h) (iI tn) n fk (iI (pN p)) kk fz (iI m) rch co qu kn = kk (iI 6) rch' co' qu' kn' := by
  obtain ⟨⟨a1, a2, a3, a4⟩, ⟨b1, b2, b3, b4, b5, b6⟩, c1, ⟨d1, d2⟩, e1, f1⟩ := id hC
  intro fz
  induction fz with
  | zero =>
    intro c m Q nn lv cs rch co qu kn hc
    omega
  | succ fz ih =>
    intro c m Q nn lv cs rch co qu kn hc hm hS hk hQ hK
    rw [J_X2_spreadFrom_L62]
    cases c with
    | zero =>
      rw [if_pos (by rw [show (6 : Int32) = iI 6 from rfl, iI_le (rg_lit (by omega) (by omega)) (rg_lit (by omega) (by omega))]; omega)]
      have hm6 : m = 6 := by omega
      subst hm6
      exact ⟨Q, nn, lv, cs, rch, co, qu, kn, hS, hk, hQ, hK, rfl⟩
    | succ c =>
      rw [if_neg (fun z => by rw [show (6 : Int32) = iI 6 from rfl, iI_le (rg_lit (by omega) (by omega)) (rg_lit (by omega) (by omega))] at z; omega)]
      obtain ⟨hB, hv, hr, hq, hco⟩ := id hS
      obtain ⟨d, hd, hdk⟩ := hB.level hk
      rw [hQ] at hd
      have hvp := hv k hk
      rw [hQ] at hvp
      have hsz := hB.size
      have hcp := hB.csb (by omega) (by omega) b6 hd
      have hwm := wl_b b6 m
      have hnext : ∀ {Q' : Nat → Nat} {nn' : Nat} {lv' : Nat → Option Nat} {cs' : Nat → Nat} {rch' : Int32} {co' : Nat → Int64} {qu' kn' : Nat → Int32}, SI w h r tn (okP w h cl l wd) g Q' nn' k (fun x => x < m ∨ x = m) lv' cs' rch' co' qu' → k < nn' → Q' k = p → Kn w h (okP w h cl l wd) kn' →
        ∃ Q2 nn2 lv2 cs2 rch2 co2 qu2 kn2, SI w h r tn (okP w h cl l wd) g Q2 nn2 k (fun x => x < 6) lv2 cs2 rch2 co2 qu2 ∧ k < nn2 ∧ Q2 k = p ∧ Kn w h (okP w h cl l wd) kn2 ∧
        J_X2_spreadFrom_L62 F nCo nQu (iI l) (iI wd) (iI r) nk (iI w) (iI h) (iI tn) n fk (iI (pN p)) kk fz (iI m + (1 : Int32)) rch' co' qu' kn' = kk (iI 6) rch2 co2 qu2 kn2 := by
        intro Q' nn' lv' cs' rch' co' qu' kn' hS' hk' hQ' hK'
        rw [kI1, iI_add]
        exact ih c (m + 1) Q' nn' lv' cs' rch' co' qu' kn' (by omega) (by omega) ⟨hS'.1.mono (fun x hx => by show x < m ∨ x = m; have hx' : x < m + 1 := hx; omega), hS'.2⟩ hk' hQ' hK'
      have hla := landing_eq (F := F) a2 a4 a1 a3 (vdp hvp) b5 b6 tn (m := (m : Int)) (by omega) (by omega)
      have hcd : cdO (some (nX p, nY p, nD p)) = pN p := rfl
      rw [hcd] at hla
      have hc1 := costAtO (F := F) a2 a4 hn1 hco (vdp hvp)
      have hcv : cvO lv cs (some (nX p, nY p, nD p)) = 1099511627776 * (d : Int) + (cs p : Int) := by
        show ccI lv cs (nC (nX p) (nY p) (nD p)) = _
        rw [nC_n, ccI_s hd]
      rw [hcd, hcv] at hc1
      have hc2 := costAtO (F := F) a2 a4 hn1 hco (laO_vd (r := r) (tn := tn) (m := (m : Int)) (vdp hvp))
      rw [hla, Option.bind_some, hc1, Option.bind_some, costOf_eq b5 b6 (by omega), Option.bind_some, hc2, Option.bind_some, lI_add]
      generalize hcand : 1099511627776 * (d : Int) + (cs p : Int) + (1099511627776 + (1048576 * (wlN r m : Int) + (waN m : Int))) = cand
      have rc : rL cand := ⟨by omega, by omega⟩
      have hskip : mvN w h r tn (okP w h cl l wd) p m = none → SI w h r tn (okP w h cl l wd) g Q nn k (fun x => x < m ∨ x = m) lv cs rch co qu := fun hmv => ⟨hB.skip (by rw [hQ]; exact hmv), hv, hr, hq, hco⟩
      have hvals : ∀ q, mvN w h r tn (okP w h cl l wd) p m = some q → laO w h r tn m (some (nX p, nY p, nD p)) = some (nX q, nY q, nD q) ∧ cvO lv cs (some (nX q, nY q, nD q)) = ccI lv cs q := by
        intro q hmv
        refine ⟨(laO_of a2 b5 hmv).1, ?_⟩
        show ccI lv cs (nC (nX q) (nY q) (nD q)) = _
        rw [nC_n]
      by_cases hle : cvO lv cs (laO w h r tn m (some (nX p, nY p, nD p))) ≤ cand
      · have rv : rL (cvO lv cs (laO w h r tn m (some (nX p, nY p, nD p)))) := by
          refine ⟨?_, by have := rc.2; omega⟩
          cases laO w h r tn m (some (nX p, nY p, nD p)) with
          | none => show (-9223372036854775808 : Int) ≤ 1152921504606846976; omega
          | some t =>
            show (-9223372036854775808 : Int) ≤ ccI lv cs (nC t.1 t.2.1 t.2.2)
            unfold ccI
            split <;> omega
        rw [if_pos ((lg_cmp_ge _ _).mpr ((lI_le rv rc).mpr hle))]
        refine hnext (lv' := lv) (cs' := cs) ?_ hk hQ hK
        cases hmv : mvN w h r tn (okP w h cl l wd) p m with
        | none => exact hskip hmv
        | some q =>
          obtain ⟨v1, v2⟩ := hvals q hmv
          rw [v1, v2] at hle
          cases hlq : lv q with
          | none =>
            rw [ccI_n hlq] at hle
            omega
          | some e =>
            have hcq := hB.csb (by omega) (by omega) b6 hlq
            rw [ccI_s hlq] at hle
            by_cases hed : e ≤ d
            · exact ⟨hB.old (by rw [hQ]; exact hmv) (by rw [hQ]; exact hd) hlq hed, hv, hr, hq, hco⟩
            · have hed1 : e = d + 1 := by omega
              subst hed1
              have hl := hB.low (mvN_sym a2 b5) (fun m hm => wlN_inv hm) (fun m hm => waN_inv hm) hk (m := m) (p := q) (d := d) (by omega) (by rw [hQ]; exact hmv) (by rw [hQ]; exact hd) hlq rfl
              rw [hQ] at hl
              have hfe : (fun x => if x = q then (if cs p + (1048576 * wlN r m + waN m) < cs q then cs p + (1048576 * wlN r m + waN m) else cs q) else cs x) = cs := by
                funext x
                by_cases hx : x = q
                · rw [if_pos hx, if_neg (by omega), hx]
                · rw [if_neg hx]
              rw [hfe] at hl
              exact ⟨hl, hv, hr, hq, hco⟩
      · have rv : rL (cvO lv cs (laO w h r tn m (some (nX p, nY p, nD p)))) := by
          refine ⟨by have := rc.1; omega, ?_⟩
          cases laO w h r tn m (some (nX p, nY p, nD p)) with
          | none => show (1152921504606846976 : Int) < 9223372036854775808; omega
          | some t =>
            show ccI lv cs (nC t.1 t.2.1 t.2.2) < 9223372036854775808
            cases ht : lv (nC t.1 t.2.1 t.2.2) with
            | none => rw [ccI_n ht]; omega
            | some e =>
              have := hB.csb (by omega) (by omega) b6 ht
              rw [ccI_s ht]
              omega
        rw [if_neg (fun z => hle ((lI_le rv rc).mp ((lg_cmp_ge _ _).mp z)))]
        obtain ⟨kn', hmm, hK'⟩ := mayMake_eq hC hK (vdp hvp) (m := (m : Int)) (by omega) (by omega)
        rw [hcd] at hmm
        rw [hmm, Option.bind_some, bI_if]
        cases hb : mvB w h r tn (okP w h cl l wd) m (some (nX p, nY p, nD p)) with
        | false => exact hnext (hskip (mvN_of b5 hb)) hk hQ hK'
        | true =>
          rw [if_pos rfl]
          obtain ⟨q, hmv⟩ := mvB_mv a2 b5 hb
          obtain ⟨v1, v2⟩ := hvals q hmv
          have hvq := mvN_v a2 b5 hvp hmv
          rw [v1, v2] at hle
          rw [v1]
          have hcq : cdO (some (nX q, nY q, nD q)) = pN q := rfl
          rw [hcq]
          cases hlq : lv q with
          | none =>
            have hco1 := hco q hvq.1
            rw [ccI_n hlq] at hco1
            have hnew := hB.new (mvN_sym a2 b5) (fun m hm => wlN_inv hm) (fun m hm => waN_inv hm) hk (m := m) (p := q) (d := d) (by omega) (by rw [hQ]; exact hmv) (by rw [hQ]; exact hd) hlq (inF_lt hvq.1)
            have hsz2 := hnew.size
            rw [hr, reach_new a2 a4 a3 hn1 hn2 (by omega) hvq.1 hco1, Option.bind_some]
            refine hnext (Q' := fun i => if i = nn then q else Q i) (nn' := nn + 1) (lv' := fun x => if x = q then some (d + 1) else lv x) (cs' := fun x => if x = q then cs p + (1048576 * wlN r m + waN m) else cs x) ⟨?_, ?_, rfl, ?_, ?_⟩ (by omega) (by show (if k = nn then q else Q k) = p; rw [if_neg (by omega), hQ]) hK'
            · rw [hQ] at hnew
              exact hnew
            · intro i hi
              show vN w h tn (if i = nn then q else Q i)
              by_cases hx : i = nn
              · rw [if_pos hx]
                exact hvq
              · rw [if_neg hx]
                exact hv i (by omega)
            · intro i hi
              show upd qu nn (iI (pN q)) i = iI (pN (if i = nn then q else Q i))
              by_cases hx : i = nn
              · rw [if_pos hx, hx, upd_at]
              · rw [if_neg hx, upd_ne hx]
                exact hq i (by omega)
            · intro x hx
              show vp_updL co (pN q).toNat (lI cand) (pN x).toNat = _
              by_cases hxq : x = q
              · subst hxq
                rw [updL_at, ccI_s (d := d + 1) (by show (if x = x then _ else _) = _; rw [if_pos rfl])]
                show lI cand = lI (1099511627776 * ((d + 1 : Nat) : Int) + ((if x = x then cs p + (1048576 * wlN r m + waN m) else cs x : Nat) : Int))
                rw [if_pos rfl]
                congr 1
                omega
              · rw [updL_ne (fun z => hxq (pN_inj a2 a4 hx hvq.1 z)), hco x hx]
                congr 1
                unfold ccI
                simp only [if_neg hxq]
          | some e =>
            have hcq2 := hB.csb (by omega) (by omega) b6 hlq
            rw [ccI_s hlq] at hle
            have he1 : e ≤ d + 1 := by
              obtain ⟨j, hj, hjq⟩ := hB.2.2.2.1 q e hlq
              exact hB.2.2.2.2.2.1 j d e hj hk (by rw [hQ]; exact hd) (by rw [hjq]; exact hlq)
            have hed1 : e = d + 1 := by omega
            subst hed1
            have hl := hB.low (mvN_sym a2 b5) (fun m hm => wlN_inv hm) (fun m hm => waN_inv hm) hk (m := m) (p := q) (d := d) (by omega) (by rw [hQ]; exact hmv) (by rw [hQ]; exact hd) hlq rfl
            rw [hQ] at hl
            have hco1 := hco q hvq.1
            rw [ccI_s hlq] at hco1
            rw [reach_old a2 a4 hn1 hvq.1 (by omega) (by omega) hco1, Option.bind_some]
            refine hnext (lv' := lv) ⟨hl, hv, hr, hq, ?_⟩ hk hQ hK'
            intro x hx
            show vp_updL co (pN q).toNat (lI cand) (pN x).toNat = _
            by_cases hxq : x = q
            · subst hxq
              rw [updL_at, ccI_s hlq]
              show lI cand = lI (1099511627776 * ((d + 1 : Nat) : Int) + ((if x = x then (if cs p + (1048576 * wlN r m + waN m) < cs x then cs p + (1048576 * wlN r m + waN m) else cs x) else cs x : Nat) : Int))
              rw [if_pos rfl, if_pos (by omega)]
              congr 1
              omega
            · rw [updL_ne (fun z => hxq (pN_inj a2 a4 hx hvq.1 z)), hco x hx]
              congr 1
              unfold ccI
              simp only [if_neg hxq]
end SPREAD
