/-! rows filled -/
theorem fillI {F nAr : Nat} (hF : nAr < F) (hn : nAr < 2000000000) (v : Int32) (ar : Nat → Int32) : ∃ ar', J_J7_fill_53178 F nAr ar v = some ar' ∧ ∀ j, j < nAr → ar' j = v := by
  unfold J_J7_fill_53178
  have go : ∀ (fz c i : Nat) (ar : Nat → Int32), c < fz → i + c = nAr → (∀ j, j < i → ar j = v) → ∃ ar', J_J7_fill_53178_L5 F nAr v (nI nAr) (fun x2 xar => some xar) fz (iI i) ar = some ar' ∧ ∀ j, j < nAr → ar' j = v := by
    intro fz
    induction fz with
    | zero =>
      intro c i ar hc
      omega
    | succ fz ih =>
      intro c i ar hc hi ha
      rw [J_J7_fill_53178_L5, nI_iI]
      cases c with
      | zero =>
        rw [if_pos (by rw [iI_le (rg_lit (by omega) (by omega)) (rg_lit (by omega) (by omega))]; omega)]
        exact ⟨ar, rfl, fun j hj => ha j (by omega)⟩
      | succ c =>
        rw [if_neg (fun z => by rw [iI_le (rg_lit (by omega) (by omega)) (rg_lit (by omega) (by omega))] at z; omega), gd_in (rg_lit (by omega) (by omega)) (by omega) (by omega), iI_clamp (rg_lit (by omega) (by omega)), kI1, iI_add, ← nI_iI nAr]
        refine ih c (i + 1) _ (by omega) (by omega) ?_
        intro j hj
        show upd ar ((i : Int).toNat) v j = v
        by_cases e : j = i
        · rw [e, show ((i : Int).toNat) = i by omega, upd_at]
        · rw [upd_ne (by omega)]
          exact ha j (by omega)
  exact go F nAr 0 ar hF (by omega) (fun j hj => by omega)
theorem fillL {F nAr : Nat} (hF : nAr < F) (hn : nAr < 2000000000) (v : Int64) (ar : Nat → Int64) : ∃ ar', J_J7_fill_d0a16 F nAr ar v = some ar' ∧ ∀ j, j < nAr → ar' j = v := by
  unfold J_J7_fill_d0a16
  have go : ∀ (fz c i : Nat) (ar : Nat → Int64), c < fz → i + c = nAr → (∀ j, j < i → ar j = v) → ∃ ar', J_J7_fill_d0a16_L6 F nAr v (nI nAr) (fun x2 xar => some xar) fz (iI i) ar = some ar' ∧ ∀ j, j < nAr → ar' j = v := by
    intro fz
    induction fz with
    | zero =>
      intro c i ar hc
      omega
    | succ fz ih =>
      intro c i ar hc hi ha
      rw [J_J7_fill_d0a16_L6, nI_iI]
      cases c with
      | zero =>
        rw [if_pos (by rw [iI_le (rg_lit (by omega) (by omega)) (rg_lit (by omega) (by omega))]; omega)]
        exact ⟨ar, rfl, fun j hj => ha j (by omega)⟩
      | succ c =>
        rw [if_neg (fun z => by rw [iI_le (rg_lit (by omega) (by omega)) (rg_lit (by omega) (by omega))] at z; omega), gd_in (rg_lit (by omega) (by omega)) (by omega) (by omega), iI_clamp (rg_lit (by omega) (by omega)), kI1, iI_add, ← nI_iI nAr]
        refine ih c (i + 1) _ (by omega) (by omega) ?_
        intro j hj
        show vp_updL ar ((i : Int).toNat) v j = v
        by_cases e : j = i
        · rw [e, show ((i : Int).toNat) = i by omega, updL_at]
        · rw [updL_ne (by omega)]
          exact ha j (by omega)
  exact go F nAr 0 ar hF (by omega) (fun j hj => by omega)
/-- what is known when the class's search is through -/
def DC (w h r tn : Int) (ok : Int → Int → Int → Bool) (g : Nat) (Q : Nat → Nat) (n : Nat) (lv : Nat → Option Nat) (cs : Nat → Nat) : Prop :=
  (∀ i, i < n → vN w h tn (Q i)) ∧ (∀ i j, i < n → j < n → Q i = Q j → i = j) ∧ (∀ i, i < n → lv (Q i) ≠ none) ∧ (∀ p, lv p ≠ none → ∃ i, i < n ∧ Q i = p) ∧ n ≤ (192 * h).toNat ∧ (∀ p d, lv p = some d → d < n ∧ cs p < 40000000000) ∧
    (gO w h ok (nX g) (nY g) (nD g) = true → Best (mvN w h r tn ok) (wlN r) waN g 1048576 lv cs) ∧ (gO w h ok (nX g) (nY g) (nD g) = false → ∀ p, lv p = none)
section SPREAD2
variable {F : Nat} {w h l wd r tn : Int} {n nk : Nat} {fk kn : Nat → Int32} {cl : Int → Int → Bool}
theorem sp35 {nCo nQu : Nat} (hC : CX F w h l wd r tn n nk fk cl) (hn1 : nCo = (h * 256).toNat) (hn2 : nQu = (h * 256).toNat) {g : Nat} :
    ∀ (fz c k : Nat) (Q : Nat → Nat) (nn : Nat) (lv : Nat → Option Nat) (cs : Nat → Nat) (rch : Int32) (co : Nat → Int64) (qu kn : Nat → Int32), c < fz → k + c = (192 * h).toNat → SI w h r tn (okP w h cl l wd) g Q nn k (fun _ => False) lv cs rch co qu → Kn w h (okP w h cl l wd) kn →
      ∃ Q' nn' lv' cs' rch' co' qu' kn', SI w h r tn (okP w h cl l wd) g Q' nn' nn' (fun _ => False) lv' cs' rch' co' qu' ∧ Kn w h (okP w h cl l wd) kn' ∧
        J_X2_spreadFrom_L35 F nCo nQu (iI l) (iI wd) (iI r) nk (iI w) (iI h) (iI tn) n fk (fun _ a b c d => some (a, b, c, d)) fz (iI k) rch co qu kn = some (rch', co', qu', kn') := by
  obtain ⟨⟨a1, a2, a3, a4⟩, ⟨b1, b2, b3, b4, b5, b6⟩, c1, ⟨d1, d2⟩, e1, f1⟩ := id hC
  intro fz
  induction fz with
  | zero =>
    intro c k Q nn lv cs rch co qu kn hc
    omega
  | succ fz ih =>
    intro c k Q nn lv cs rch co qu kn hc hkc hS hK
    obtain ⟨hB, hv, hr, hq, hco⟩ := id hS
    have hsz := hB.size
    have hkn := hB.1.1
    rw [J_X2_spreadFrom_L35]
    by_cases hk : k < nn
    · rw [if_neg (fun z => by rw [hr, iI_le (rg_lit (by omega) (by omega)) (rg_lit (by omega) (by omega))] at z; omega), if_neg (fun z => by rw [nI_iI, iI_le (rg_lit (by omega) (by omega)) (rg_lit (by omega) (by omega))] at z; omega), gd_in (rg_lit (by omega) (by omega)) (by omega) (by omega), iI_clamp (rg_lit (by omega) (by omega)), show ((k : Int).toNat) = k by omega, hq k hk]
      obtain ⟨Q', nn', lv', cs', rch', co', qu', kn', hS', hk', hQ', hK', e⟩ := sp62 hC hn1 hn2 (g := g) (k := k) (p := Q k) (fun x4_29 xrch_30 xco_31 xqu_32 xkn_33 =>
              (J_X2_spreadFrom_L35 F nCo nQu (iI l) (iI wd) (iI r) nk (iI w) (iI h) (iI tn) n fk (fun _ a b c d => some (a, b, c, d)) fz (iI k + (1 : Int32)) xrch_30 xco_31 xqu_32 xkn_33)) F 6 0 Q nn lv cs rch co qu kn (by omega) (by omega) ⟨hB.mono (fun x hx => by omega), hv, hr, hq, hco⟩ hk rfl hK
      have e' := e.trans rfl
      rw [show ((0 : Nat) : Int) = 0 from rfl, ← kI0] at e'
      rw [e', kI1, iI_add]
      cases c with
      | zero => omega
      | succ c =>
        exact ih c (k + 1) Q' nn' lv' cs' rch' co' qu' kn' (by omega) (by omega) ⟨hS'.1.next hk' (fun m hm => hm) (fun _ => False) (fun m hm => hm), hS'.2⟩ hK'
    · have hkk : k = nn := by omega
      subst hkk
      rw [if_pos (by rw [hr, iI_le (rg_lit (by omega) (by omega)) (rg_lit (by omega) (by omega))]; omega)]
      exact ⟨Q, k, lv, cs, rch, co, qu, kn, hS, hK, rfl⟩
/-- the class's search -/
theorem spread_eq {nCo nQu : Nat} (hC : CX F w h l wd r tn n nk fk cl) (hn1 : nCo = (h * 256).toNat) (hn2 : nQu = (h * 256).toNat) {g : Nat} (hg : vN w h tn g) (co : Nat → Int64) (qu : Nat → Int32) (hK : Kn w h (okP w h cl l wd) kn) :
    ∃ Q nn lv cs co' qu' kn', DC w h r tn (okP w h cl l wd) g Q nn lv cs ∧ (∀ i, i < nn → qu' i = iI (pN (Q i))) ∧ (∀ p, inF w h (nX p) (nY p) = true → co' (pN p).toNat = lI (ccI lv cs p)) ∧ Kn w h (okP w h cl l wd) kn' ∧
      J_X2_spreadFrom F nCo co nQu qu (iI l) (iI wd) (iI r) nk kn (iI w) (iI h) (iI tn) n fk (iI (pN g)) = some (iI nn, co', qu', kn') := by
  obtain ⟨⟨a1, a2, a3, a4⟩, ⟨b1, b2, b3, b4, b5, b6⟩, c1, ⟨d1, d2⟩, e1, f1⟩ := id hC
  obtain ⟨co1, hf, hco1⟩ := fillL (F := F) (nAr := nCo) (by omega) (by omega) (1152921504606846976 : Int64) co
  obtain ⟨kn1, hfr, hK1⟩ := isFreeO hC hK (vdp hg)
  have hcd : cdO (some (nX g, nY g, nD g)) = pN g := rfl
  rw [hcd] at hfr
  have hgi := hg.1
  have hgq := inF_iff.mp hgi
  unfold J_X2_spreadFrom
  rw [hf, Option.bind_some, hfr, Option.bind_some, bI_if]
  have hun : (1152921504606846976 : Int64) = lI 1152921504606846976 := by decide
  have hall : ∀ p, inF w h (nX p) (nY p) = true → co1 (pN p).toNat = lI 1152921504606846976 := by
    intro p hp
    have b := pN_b a2 a4 hp
    rw [hco1 _ (by omega), hun]
  have hgo : gO w h (okP w h cl l wd) (nX g) (nY g) (nD g) = okO (okP w h cl l wd) (some (nX g, nY g, nD g)) := by
    unfold gO
    rw [hgi]
    rfl
  cases hok : okO (okP w h cl l wd) (some (nX g, nY g, nD g)) with
  | false =>
    rw [if_neg (by decide)]
    refine ⟨fun _ => g, 0, fun _ => none, fun _ => 0, co1, qu, kn1, ⟨fun i hi => by omega, fun i j hi => by omega, fun i hi => by omega, fun p hp => absurd rfl hp, by omega, fun p d hp => absurd hp (fun z => nomatch z), fun q => absurd (hgo.symm.trans q) (by rw [hok]; decide), fun _ _ => rfl⟩, fun i hi => by omega, ?_, hK1, rfl⟩
    intro p hp
    rw [ccI_n rfl]
    exact hall p hp
  | true =>
    rw [if_pos rfl, show (0 : Int32) = iI ((0 : Nat) : Int) from rfl, reach_new (rch := 0) a2 a4 a3 hn1 hn2 (by omega) hgi (hall g hgi), Option.bind_some]
    have hst : SI w h r tn (okP w h cl l wd) g (fun _ => g) 1 0 (fun _ => False) (fun x => if x = g then some 0 else none) (fun _ => 0) (iI ((0 + 1 : Nat) : Int)) (vp_updL co1 (pN g).toNat 0) (upd qu 0 (iI (pN g))) := by
      refine ⟨BInv.start (inF_lt hgi), fun i _ => hg, rfl, ?_, ?_⟩
      · intro i hi
        rw [show i = 0 by omega, upd_at]
      · intro p hp
        by_cases e : p = g
        · rw [e, updL_at, ccI_s (d := 0) (by show (if g = g then _ else _) = _; rw [if_pos rfl])]
          rfl
        · rw [updL_ne (fun z => e (pN_inj a2 a4 hp hgi z)), ccI_n (by show (if p = g then _ else _) = _; rw [if_neg e])]
          exact hall p hp
    obtain ⟨Q', nn', lv', cs', rch', co', qu', kn', hS', hK', e⟩ := sp35 hC hn1 hn2 F (192 * h).toNat 0 _ _ _ _ _ _ _ _ (by omega) (by omega) hst hK1
    obtain ⟨hB, hv, hr, hq, hco⟩ := id hS'
    refine ⟨Q', nn', lv', cs', co', qu', kn', ⟨hv, hB.2.2.1, ?_, ?_, hB.size, ?_, fun _ => hB.best (mvN_sym a2 b5) (fun m hm => wlN_inv hm) (fun m hm => waN_inv hm), fun q => by rw [hgo, hok] at q; cases q⟩, hq, hco, hK', ?_⟩
    · intro i hi
      obtain ⟨d, hd, -⟩ := hB.level hi
      rw [hd]
      exact fun q => by cases q
    · intro p hp
      cases hd : lv' p with
      | none => exact absurd hd hp
      | some d => exact hB.2.2.2.1 p d hd
    · intro p d hp
      exact ⟨hB.lvlt hp, (hB.csb (by omega) (by omega) b6 hp).2⟩
    · rw [hr] at e
      exact e
end SPREAD2
