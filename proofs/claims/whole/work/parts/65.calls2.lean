section MLEFT
variable {F : Nat} {w h l wd r tn : Int} {n nk : Nat} {fk kn : Nat → Int32} {cl : Int → Int → Bool} {ok : Int → Int → Int → Bool}
/-- the moves that are left may all be made -/
def mlB (w h r tn : Int) (ok : Int → Int → Int → Bool) (P M : Nat → Nat) : Nat → Nat → Bool
  | 0, _ => true
  | c + 1, i => (mvN w h r tn ok (P i) (M i)).isSome && mlB w h r tn ok P M c (i + 1)
theorem mvB_some (hw : w ≤ 24) (r0 : 1 ≤ r) {p m : Nat} : mvB w h r tn ok m (some (nX p, nY p, nD p)) = (mvN w h r tn ok p m).isSome := by
  cases hb : mvB w h r tn ok m (some (nX p, nY p, nD p)) with
  | false =>
    rw [mvN_of r0 hb]
    rfl
  | true =>
    obtain ⟨q, hq⟩ := mvB_mv hw r0 hb
    rw [hq]
    rfl
theorem ml13 {nMv nPl d : Nat} {mv pl : Nat → Int32} {P M : Nat → Nat} (hC : CX F w h l wd r tn n nk fk cl) (hn3 : nMv = (h * 256).toNat) (hn4 : nPl = (h * 256).toNat) (hd : d < (192 * h).toNat) (hPv : ∀ j, j ≤ d → vN w h tn (P j)) (hj : ∀ j, j < d → M j < 6 ∧ mv j = iI (M j) ∧ pl j = iI (pN (P (j + 1)))) :
    ∀ (fz c i : Nat) (kn : Nat → Int32), c < fz → i + c = d → Kn w h (okP w h cl l wd) kn → ∃ kn', Kn w h (okP w h cl l wd) kn' ∧
      J_X4_movesLeftMayBeMade_L13 F (iI l) (iI wd) (iI r) nk (iI w) (iI h) (iI tn) n fk (iI d) nMv mv nPl pl (fun _ _ xkn => some ((1 : Int32), xkn)) fz (iI (pN (P i))) (iI i) kn = some (bI (mlB w h r tn (okP w h cl l wd) P M c i), kn') := by
  obtain ⟨⟨a1, a2, a3, a4⟩, ⟨b1, b2, b3, b4, b5, b6⟩, c1, ⟨d1, d2⟩, e1, f1⟩ := id hC
  intro fz
  induction fz with
  | zero =>
    intro c i kn hc
    omega
  | succ fz ih =>
    intro c i kn hc hi hK
    rw [J_X4_movesLeftMayBeMade_L13]
    cases c with
    | zero =>
      rw [if_pos ((iI_le (rg_lit (by omega) (by omega)) (rg_lit (by omega) (by omega))).mpr (by omega))]
      exact ⟨kn, hK, rfl⟩
    | succ c =>
      obtain ⟨m6, j1, j2⟩ := hj i (by omega)
      rw [if_neg (fun z => by rw [iI_le (rg_lit (by omega) (by omega)) (rg_lit (by omega) (by omega))] at z; omega), moveAt_eq (rg_lit (by omega) (by omega)) (by omega) (by omega) (by omega) (by omega), Option.bind_some, placeBehind_eq (rg_lit (by omega) (by omega)) (by omega) (by omega) (by omega) (by omega), show ((i : Int).toNat) = i by omega, j1, j2]
      obtain ⟨kn', hmm, hK'⟩ := mayMake_eq hC hK (vdp (hPv i (by omega))) (m := (M i : Int)) (by omega) (by omega)
      rw [mvB_some a2 b5] at hmm
      have hcd : cdO (some (nX (P i), nY (P i), nD (P i))) = pN (P i) := rfl
      rw [hcd] at hmm
      rw [hmm, Option.bind_some, bI_if, mlB]
      cases hs : (mvN w h r tn (okP w h cl l wd) (P i) (M i)).isSome with
      | false => exact ⟨kn', hK', rfl⟩
      | true =>
        rw [if_pos rfl, Option.bind_some, iI_s, Bool.true_and]
        exact ih c (i + 1) kn' (by omega) (by omega) hK'
theorem ml44 {d : Nat} {nm be fr : Nat → Int32} {P M : Nat → Nat} (hw : w ≤ 24) (hh : h ≤ 24) (hw0 : 0 ≤ w) (hh0 : 0 ≤ h) (hF : 20 < F) (r0 : 1 ≤ r) (r4 : r ≤ 4) (ht : tn = 1 ∨ tn = 2) (hf : Fr w h tn ok fr) (hd : d < (192 * h).toNat) (hPv : ∀ j, j ≤ d → vN w h tn (P j)) (hj : ∀ j, j < d → M j < 6 ∧ nm j = iI (M j) ∧ be j = iI (P (j + 1))) (kk : Int32 → Int32 → Int32 → Option (Int32 × Int32 × Int32 × Int32 × Int32 × Int32 × Int64 × (Nat → Int32) × (Nat → Int32) × (Nat → Int32) × (Nat → Int32) × (Nat → Int32) × (Nat → Int32) × (Nat → Int32) × (Nat → Int32))) :
    ∀ (fz c i : Nat), c < fz → i + c = d → ∃ a b, J_X5_change_L44 F (iI w) (iI h) (bI (decide (tn = 2))) (iI r) (iI d) nm be fr kk fz (1 : Int32) (iI (P i)) (iI i) = kk (bI (mlB w h r tn ok P M c i)) a b := by
  intro fz
  induction fz with
  | zero =>
    intro c i hc
    omega
  | succ fz ih =>
    intro c i hc hi
    rw [J_X5_change_L44]
    cases c with
    | zero =>
      rw [if_pos ((iI_le (rg_lit (by omega) (by omega)) (rg_lit (by omega) (by omega))).mpr (by omega))]
      exact ⟨_, _, rfl⟩
    | succ c =>
      obtain ⟨m6, j1, j2⟩ := hj i (by omega)
      rw [if_neg (fun z => by rw [iI_le (rg_lit (by omega) (by omega)) (rg_lit (by omega) (by omega))] at z; omega), if_neg (by decide), gd_in (rg_lit (by omega) (by omega)) (by omega) (by omega), iI_clamp (rg_lit (by omega) (by omega)), show ((i : Int).toNat) = i by omega, j1, j2, moved_eq hw hh hw0 hh0 hF r0 r4 ht hf (hPv i (by omega)) m6, Option.bind_some, gd_in (rg_lit (by omega) (by omega)) (by omega) (by omega), gd_in (rg_lit (by omega) (by omega)) (by omega) (by omega), iI_s, mlB]
      cases hmv : mvN w h r tn ok (P i) (M i) with
      | none =>
        rw [show mvI none = -1 from rfl, if_pos (by decide)]
        cases fz with
        | zero => omega
        | succ fz =>
          rw [J_X5_change_L44]
          by_cases z : iI (d : Int) ≤ iI ((i : Int) + 1)
          · rw [if_pos z]
            exact ⟨_, _, rfl⟩
          · rw [if_neg z, if_pos rfl]
            exact ⟨_, _, rfl⟩
      | some q =>
        have hvq := mvN_v hw r0 (hPv i (by omega)) hmv
        have hql := inF_lt hvq.1
        rw [show mvI (some q) = (q : Int) from rfl, if_neg (fun z => by rw [iI_lt0 (rg_lit (by omega) (by omega))] at z; omega)]
        exact ih c (i + 1) (by omega) (by omega)
end MLEFT
section STEPS2
variable {F : Nat} {w h tn : Int} {plc hom gol : Int32} {stp : Int64} {exa hld : Int32} {err : UInt64} {ln wd rd : Int32} {kn : Nat → Int32} {kp : Int32} {fu fk : Nat → Int32} {cnt mde stn : Int32} {mv pl : Nat → Int32} {m_ln m_wd m_rd m_kp m_car m_hom m_gol m_hld : Int32} {m_err : UInt64} {m_isw m_mvs m_mde m_exa : Int32} {m_lst : Int64} {m_mf m_nm m_be : Nat → Int32}
theorem st_way (hP : PRM F w h tn) (hR : RLc w h tn plc hom gol stp exa hld err ln wd rd kn kp fu fk cnt mde stn mv pl m_ln m_wd m_rd m_kp m_car m_hom m_gol m_hld m_err m_isw m_mvs m_mde m_exa m_lst m_mf m_nm m_be) (rch : Int32) (co : Nat → Int64) (qu m_fa m_cs m_fr m_ro m_ne : Nat → Int32) (p0 : Int64) :
    ∃ v u, J_X4_way F plc gol stp exa rch (h * 256).toNat co (h * 256).toNat qu ln wd rd (h * 256).toNat kn (iI w) (iI h) (iI tn) (h * 32).toNat fk cnt mde stn (h * 256).toNat mv (h * 256).toNat pl p0 = some v ∧ J_X5_way F (iI w) (iI h) (bI (decide (tn = 2))) m_ln m_wd m_rd m_kp m_car m_gol m_isw m_mvs m_mde m_exa m_lst m_mf m_nm m_be m_fa m_cs m_fr m_ro m_ne p0 = some u ∧ v.1 = u.1 ∧
      RLc w h tn plc hom gol v.2.1 v.2.2.1 hld err ln wd rd v.2.2.2.2.2.2.1 kp fu fk v.2.2.2.2.2.2.2.1 v.2.2.2.2.2.2.2.2.1 v.2.2.2.2.2.2.2.2.2.1 v.2.2.2.2.2.2.2.2.2.2.1 v.2.2.2.2.2.2.2.2.2.2.2 m_ln m_wd m_rd m_kp m_car m_hom m_gol m_hld m_err u.2.2.1 u.2.2.2.1 u.2.2.2.2.1 u.2.2.2.2.2.1 u.2.2.2.2.2.2.1 m_mf u.2.2.2.2.2.2.2.1 u.2.2.2.2.2.2.2.2.1 := by
  obtain ⟨q1, q2, q3, q4, q5, q6⟩ := id hP
  obtain ⟨c, o, g, l, b, r, k, fl, eb, hb, ⟨rfl, rfl, rfl, rfl, rfl, rfl, rfl, rfl, rfl⟩, ⟨rfl, rfl, rfl, rfl, rfl, rfl, rfl, rfl, rfl⟩, ⟨rfl, rfl, he⟩, hS, hW⟩ := hR
  unfold J_X4_way J_X5_way
  by_cases h0 : (0 : Int32) ≤ (lg_cmp p0 (0 : Int64))
  · rw [if_pos h0, if_pos h0]
    obtain ⟨⟨v1, v2, v3⟩, ⟨b1, b2, b3, b4, b5, b6, b7, b8⟩, hFd, hM, hK⟩ := id hS
    rcases plan_search (nCo := (h * 256).toNat) (nQu := (h * 256).toNat) (nMv := (h * 256).toNat) (nPl := (h * 256).toNat) (hS.cx hP) hM b7 b8 rfl rfl rfl rfl v1 v3 co qu hK p0 mv pl m_mvs m_mde m_nm m_be m_fa m_cs m_fr m_ro m_ne with ⟨eb', rch', co', qu', kn', fa', cm', fr', ro', ne', hK', e1, e2⟩ | ⟨d, P, M, rch', co', qu', kn', mv', pl', nm', be', fa', cm', fr', ro', ne', hK', hY, e1, e2⟩
    · rw [e1, e2, Option.bind_some, Option.bind_some]
      dsimp only
      have hS' : RS w h tn c o g l b r k fl kn' fu fk m_mf := ⟨hS.1, hS.2.1, hFd, hM, hK'⟩
      cases eb' with
      | false =>
        refine ⟨_, _, rfl, rfl, rfl, ?_⟩
        exact ⟨c, o, g, l, b, r, k, fl, false, hb, ⟨rfl, rfl, rfl, rfl, rfl, rfl, rfl, rfl, rfl⟩, ⟨rfl, rfl, rfl, rfl, rfl, rfl, rfl, rfl, rfl⟩, ⟨rfl, rfl, he⟩, hS', Or.inl ⟨rfl, rfl, rfl, rfl⟩⟩
      | true =>
        refine ⟨_, _, rfl, rfl, rfl, ?_⟩
        exact ⟨c, o, g, l, b, r, k, fl, true, hb, ⟨rfl, rfl, rfl, rfl, rfl, rfl, rfl, rfl, rfl⟩, ⟨rfl, rfl, rfl, rfl, rfl, rfl, rfl, rfl, rfl⟩, ⟨rfl, rfl, he⟩, hS', Or.inl ⟨rfl, rfl, rfl, rfl⟩⟩
    · rw [e1, e2, Option.bind_some, Option.bind_some]
      dsimp only
      have hS' : RS w h tn c o g l b r k fl kn' fu fk m_mf := ⟨hS.1, hS.2.1, hFd, hM, hK'⟩
      rw [if_neg (by decide), if_pos (by decide)]
      refine ⟨_, _, rfl, rfl, rfl, ?_⟩
      exact ⟨c, o, g, l, b, r, k, fl, true, hb, ⟨rfl, rfl, rfl, rfl, rfl, rfl, rfl, rfl, rfl⟩, ⟨rfl, rfl, rfl, rfl, rfl, rfl, rfl, rfl, rfl⟩, ⟨rfl, rfl, he⟩, hS', Or.inr ⟨d, 0, P, M, ⟨rfl, rfl, rfl, rfl, rfl, rfl⟩, hY⟩⟩
  · rw [if_neg h0, if_neg h0]
    refine ⟨_, _, rfl, rfl, rfl, ?_⟩
    exact ⟨c, o, g, l, b, r, k, fl, eb, hb, ⟨rfl, rfl, rfl, rfl, rfl, rfl, rfl, rfl, rfl⟩, ⟨rfl, rfl, rfl, rfl, rfl, rfl, rfl, rfl, rfl⟩, ⟨rfl, rfl, he⟩, hS, hW⟩
theorem st_change (hP : PRM F w h tn) (hR : RLc w h tn plc hom gol stp exa hld err ln wd rd kn kp fu fk cnt mde stn mv pl m_ln m_wd m_rd m_kp m_car m_hom m_gol m_hld m_err m_isw m_mvs m_mde m_exa m_lst m_mf m_nm m_be) (rch : Int32) (co : Nat → Int64) (qu m_fa m_cs m_fr m_ro m_ne : Nat → Int32) (ou : Nat → Int64) (p0 p1 p2 : Int32) (t : Bool) (hp : p2 = bI t) :
    ∃ v u, J_L_change F plc gol stp exa rch (h * 256).toNat co (h * 256).toNat qu ln wd rd (h * 256).toNat kn (iI w) (iI h) (iI tn) kp (h * 32).toNat fu (h * 32).toNat fk cnt mde stn (h * 256).toNat mv (h * 256).toNat pl ou p0 p1 p2 = some v ∧ J_X5_change F (iI w) (iI h) (bI (decide (tn = 2))) m_ln m_wd m_rd m_kp m_car m_gol m_isw m_mvs m_mde m_exa m_lst m_mf m_nm m_be m_fa m_cs m_fr m_ro m_ne p0 p1 p2 = some u ∧ u.2.1 = v.1 ∧ (v.1 = 0 → v.2.2.2.2.2.2.2.2.2.2.2.2.2 0 = u.1.toInt64) ∧
      RLc w h tn plc hom gol stp v.2.1 hld err ln wd rd v.2.2.2.2.2.1 kp v.2.2.2.2.2.2.1 v.2.2.2.2.2.2.2.1 v.2.2.2.2.2.2.2.2.1 v.2.2.2.2.2.2.2.2.2.1 v.2.2.2.2.2.2.2.2.2.2.1 v.2.2.2.2.2.2.2.2.2.2.2.1 v.2.2.2.2.2.2.2.2.2.2.2.2.1 m_ln m_wd m_rd m_kp m_car m_hom m_gol m_hld m_err u.2.2.1 u.2.2.2.1 u.2.2.2.2.1 u.2.2.2.2.2.1 u.2.2.2.2.2.2.1 u.2.2.2.2.2.2.2.1 u.2.2.2.2.2.2.2.2.1 u.2.2.2.2.2.2.2.2.2.1 := by
  obtain ⟨q1, q2, q3, q4, q5, q6⟩ := id hP
  obtain ⟨c, o, g, l, b, r, k, fl, eb, hb, ⟨rfl, rfl, rfl, rfl, rfl, rfl, rfl, rfl, rfl⟩, ⟨rfl, rfl, rfl, rfl, rfl, rfl, rfl, rfl, rfl⟩, ⟨rfl, rfl, he⟩, hS, hW⟩ := hR
  obtain ⟨x, hx, rfl⟩ := as_iI p0
  obtain ⟨y, hy, rfl⟩ := as_iI p1
  subst hp
  unfold J_L_change J_X4_change J_X5_change
  rw [hasCell_eq F (rg_lit (by omega) (by omega)) (rg_lit (by omega) (by omega)) hx hy, Option.bind_some, bI_if]
  cases hi : inF w h x y with
  | false =>
    rw [if_neg (by decide), Option.bind_some, mset_no hP hx hy hi, Option.bind_some]
    refine ⟨_, _, rfl, rfl, rfl, fun z => absurd z (show ¬ (1 : Int32) = 0 by decide), ?_⟩
    exact ⟨c, o, g, l, b, r, k, fl, eb, hb, ⟨rfl, rfl, rfl, rfl, rfl, rfl, rfl, rfl, rfl⟩, ⟨rfl, rfl, rfl, rfl, rfl, rfl, rfl, rfl, rfl⟩, ⟨rfl, rfl, he⟩, hS, hW⟩
  | true =>
    obtain ⟨kn', fu', fk', e1, hF', hK'⟩ := setCell_eq hP hS hi t
    obtain ⟨mf', e2, hM'⟩ := mset_eq hP hS.2.2.2.1 hi t
    have hS' : RS w h tn c o g l b r k (setF fl x y t) kn' fu' fk' mf' := ⟨hS.1, hS.2.1, hF', hM', hK'⟩
    rw [if_pos rfl, e1, Option.bind_some, e2, Option.bind_some]
    dsimp only
    rw [if_neg (show ¬ (0 : Int32) < 0 by decide)]
    rcases hW with ⟨rfl, rfl, rfl, rfl⟩ | ⟨d, m, P, M, ⟨rfl, rfl, rfl, rfl, rfl, rfl⟩, hY⟩
    · rw [if_pos rfl, if_pos rfl, Option.bind_some]
      refine ⟨_, _, rfl, rfl, rfl, fun _ => rfl, ?_⟩
      exact ⟨c, o, g, l, b, r, k, _, eb, hb, ⟨rfl, rfl, rfl, rfl, rfl, rfl, rfl, rfl, rfl⟩, ⟨rfl, rfl, rfl, rfl, rfl, rfl, rfl, rfl, rfl⟩, ⟨rfl, rfl, he⟩, hS', Or.inl ⟨rfl, rfl, rfl, rfl⟩⟩
    · obtain ⟨y1, y2, y3, y4, y5⟩ := id hY
      obtain ⟨⟨v1, v2, v3⟩, ⟨b1, b2, b3, b4, b5, b6, b7, b8⟩, -, -, -⟩ := id hS
      have hC' := hS'.cx hP
      rw [if_neg (show ¬ (1 : Int32) = 0 by decide), if_neg (show ¬ (1 : Int32) = 0 by decide)]
      obtain ⟨kn2, hK2, e3⟩ := ml13 (nMv := (h * 256).toNat) (nPl := (h * 256).toNat) (mv := mv) (pl := pl) (P := P) (M := M) (d := d) hC' rfl rfl y1 y4 (fun j hj => ⟨(y5 j hj).1, (y5 j hj).2.1, (y5 j hj).2.2.2.1⟩) F (d - m) m kn' (by omega) (by omega) hK'
      have e3' : J_X4_movesLeftMayBeMade F (iI (pN c)) (iI l) (iI b) (iI r) (h * 256).toNat kn' (iI w) (iI h) (iI tn) (h * 32).toNat fk' (iI d) (iI m) (h * 256).toNat mv (h * 256).toNat pl = some (bI (mlB w h r tn (okP w h (clF w h k (setF fl x y t)) l b) P M (d - m) m), kn2) := by
        rw [y3]
        exact e3
      obtain ⟨fr', ne', e4, hFr, hNe⟩ := findFree_eq (F := F) q3 q5 (by omega) (by omega) q1 hM' q6 b7 b8 b3 b4 b1 b2 m_fr m_ne
      rw [e3', Option.bind_some, e4, Option.bind_some]
      dsimp only
      rw [bI_if]
      obtain ⟨a', b', e5⟩ := ml44 (F := F) (P := P) (M := M) (d := d) (nm := m_nm) (be := m_be) q3 q5 (by omega) (by omega) (by omega) b5 b6 q6 hFr y1 y4 (fun j hj => ⟨(y5 j hj).1, (y5 j hj).2.2.1, (y5 j hj).2.2.2.2.1⟩) (fun x5_29 x6_30 x7_31 =>
              (if x5_29 = (0 : Int32) then
                (Option.bind (J_X5_search F (iI w) (iI h) (bI (decide (tn = 2))) (iI l) (iI b) (iI r) (iI k) (iI c) (iI g) (iI d) (iI m) mf' m_nm m_be m_fa m_cs fr' m_ro ne' m_lst) fun v_33 =>
                  (if v_33.1 = (1 : Int32) then
                    (some ((1 : Int32), (0 : Int32), v_33.2.1, v_33.2.2.1, v_33.2.2.2.1, v_33.2.2.2.2.1, v_33.2.2.2.2.2.1, mf', v_33.2.2.2.2.2.2.1, v_33.2.2.2.2.2.2.2.1, v_33.2.2.2.2.2.2.2.2.1, v_33.2.2.2.2.2.2.2.2.2.1, v_33.2.2.2.2.2.2.2.2.2.2.1, v_33.2.2.2.2.2.2.2.2.2.2.2.1, v_33.2.2.2.2.2.2.2.2.2.2.2.2))
                  else
                    (some ((2 : Int32), (0 : Int32), v_33.2.1, v_33.2.2.1, v_33.2.2.2.1, v_33.2.2.2.2.1, v_33.2.2.2.2.2.1, mf', v_33.2.2.2.2.2.2.1, v_33.2.2.2.2.2.2.2.1, v_33.2.2.2.2.2.2.2.2.1, v_33.2.2.2.2.2.2.2.2.2.1, v_33.2.2.2.2.2.2.2.2.2.2.1, v_33.2.2.2.2.2.2.2.2.2.2.2.1, v_33.2.2.2.2.2.2.2.2.2.2.2.2))))
              else
                (some ((0 : Int32), (0 : Int32), (1 : Int32), (iI d), (iI m), (bI eb), m_lst, mf', m_nm, m_be, m_fa, m_cs, fr', m_ro, ne')))) F (d - m) m (by omega) (by omega)
      have e5' := e5.trans rfl
      rw [← y3] at e5'
      rw [e5']
      cases hml : mlB w h r tn (okP w h (clF w h k (setF fl x y t)) l b) P M (d - m) m with
      | true =>
        rw [if_pos rfl, if_neg (by decide), Option.bind_some]
        refine ⟨_, _, rfl, rfl, rfl, fun _ => rfl, ?_⟩
        exact ⟨c, o, g, l, b, r, k, _, eb, hb, ⟨rfl, rfl, rfl, rfl, rfl, rfl, rfl, rfl, rfl⟩, ⟨rfl, rfl, rfl, rfl, rfl, rfl, rfl, rfl, rfl⟩, ⟨rfl, rfl, he⟩, ⟨hS.1, hS.2.1, hF', hM', hK2⟩, Or.inr ⟨d, m, P, M, ⟨rfl, rfl, rfl, rfl, rfl, rfl⟩, hY⟩⟩
      | false =>
        rw [if_neg (by decide), if_pos (by decide)]
        rcases plan_search (nCo := (h * 256).toNat) (nQu := (h * 256).toNat) (nMv := (h * 256).toNat) (nPl := (h * 256).toNat) hC' hM' b7 b8 rfl rfl rfl rfl v1 v3 co qu hK2 m_lst mv pl (iI d) (iI m) m_nm m_be m_fa m_cs fr' m_ro ne' with ⟨eb', rch', co', qu', kn3, fa', cm', fr3, ro', ne3, hK3, g1, g2⟩ | ⟨d', P', M', rch', co', qu', kn3, mv', pl', nm', be', fa', cm', fr3, ro', ne3, hK3, hY', g1, g2⟩
        · rw [g1, g2, Option.bind_some, Option.bind_some]
          dsimp only
          rw [if_pos rfl, Option.bind_some, if_neg (show ¬ (if eb' = true then (0 : Int32) else -1) = 1 by cases eb' <;> decide)]
          refine ⟨_, _, rfl, rfl, rfl, fun _ => rfl, ?_⟩
          exact ⟨c, o, g, l, b, r, k, _, eb', hb, ⟨rfl, rfl, rfl, rfl, rfl, rfl, rfl, rfl, rfl⟩, ⟨rfl, rfl, rfl, rfl, rfl, rfl, rfl, rfl, rfl⟩, ⟨rfl, rfl, he⟩, ⟨hS.1, hS.2.1, hF', hM', hK3⟩, Or.inl ⟨rfl, rfl, rfl, rfl⟩⟩
        · rw [g1, g2, Option.bind_some, Option.bind_some]
          dsimp only
          rw [if_neg (show ¬ (1 : Int32) = 0 by decide), Option.bind_some, if_pos rfl]
          refine ⟨_, _, rfl, rfl, rfl, fun _ => rfl, ?_⟩
          exact ⟨c, o, g, l, b, r, k, _, true, hb, ⟨rfl, rfl, rfl, rfl, rfl, rfl, rfl, rfl, rfl⟩, ⟨rfl, rfl, rfl, rfl, rfl, rfl, rfl, rfl, rfl⟩, ⟨rfl, rfl, he⟩, ⟨hS.1, hS.2.1, hF', hM', hK3⟩, Or.inr ⟨d', 0, P', M', ⟨rfl, rfl, rfl, rfl, rfl, rfl⟩, hY'⟩⟩
theorem st_move (hP : PRM F w h tn) (hR : RLc w h tn plc hom gol stp exa hld err ln wd rd kn kp fu fk cnt mde stn mv pl m_ln m_wd m_rd m_kp m_car m_hom m_gol m_hld m_err m_isw m_mvs m_mde m_exa m_lst m_mf m_nm m_be) (p0 p1 : Int32) :
    ∃ v u, J_X4_move F cnt (h * 256).toNat mv (h * 256).toNat pl p0 p1 = some v ∧ J_X5_move F m_isw m_mvs m_nm m_be p0 p1 = some u ∧ v = u.1 := by
  obtain ⟨q1, q2, q3, q4, q5, q6⟩ := id hP
  obtain ⟨c, o, g, l, b, r, k, fl, eb, hb, ⟨rfl, rfl, rfl, rfl, rfl, rfl, rfl, rfl, rfl⟩, ⟨rfl, rfl, rfl, rfl, rfl, rfl, rfl, rfl, rfl⟩, ⟨rfl, rfl, he⟩, hS, hW⟩ := hR
  obtain ⟨x, hx, rfl⟩ := as_iI p0
  obtain ⟨y, hy, rfl⟩ := as_iI p1
  unfold J_X4_move J_X5_move
  rcases hW with ⟨rfl, rfl, rfl, rfl⟩ | ⟨d, m, P, M, ⟨rfl, rfl, rfl, rfl, rfl, rfl⟩, hY⟩
  · rw [if_pos rfl, show J_X3_hasMove F (0 : Int32) (iI x) = _ from hasMove_eq (d := 0) (rg_lit (by omega) (by omega)) hx, Option.bind_some, bI_if, if_neg (by rw [decide_eq_true_iff]; omega)]
    exact ⟨_, _, rfl, rfl, rfl⟩
  · obtain ⟨y1, y2, y3, y4, y5⟩ := id hY
    rw [if_neg (show ¬ (1 : Int32) = 0 by decide), hasMove_eq (rg_lit (by omega) (by omega)) hx, Option.bind_some, bI_if]
    by_cases h1 : 0 ≤ x ∧ x < d
    · obtain ⟨m6, j1, j2, j3, j4, -⟩ := y5 x.toNat (by omega)
      have hv := y4 (x.toNat + 1) (by omega)
      have hpl := inF_lt hv.1
      have hpb := pN_b q3 q5 hv.1
      have hnd := nD_b (P (x.toNat + 1))
      have hnx := nX_b (P (x.toNat + 1))
      have hq := inF_iff.mp hv.1
      have hpn : pN (P (x.toNat + 1)) = pcd (nX (P (x.toNat + 1))) (nY (P (x.toNat + 1))) (nD (P (x.toNat + 1))) := rfl
      rw [if_pos (decide_eq_true h1), if_neg (fun q => by rw [iI_lt0 hx] at q; omega), if_pos ((iI_lt hx (rg_lit (by omega) (by omega))).mpr h1.2), placeBehind_eq (rg_lit (by omega) (by omega)) h1.1 h1.2 (by omega) (by omega), moveAt_eq (rg_lit (by omega) (by omega)) h1.1 h1.2 (by omega) (by omega), Option.bind_some, Option.bind_some, gd_in hx h1.1 (by omega), gd_in hx h1.1 (by omega), iI_clamp hx, j1, j2, j3, j4, xOf_eq F (rg_lit (by omega) (by omega)), yOf_eq F (rg_lit (by omega) (by omega)), headingOf_eq, mx_eq (by omega), my_eq (by omega), md_eq (by omega), Option.bind_some, Option.bind_some, Option.bind_some, Option.bind_some, Option.bind_some, hpn, pcd_x hnd.1 hnd.2 hnx.1 (by omega), pcd_y hnd.1 hnd.2 hnx.1 (by omega), pcd_h hnd.1 hnd.2]
      rw [show (0 : Int32) = iI 0 from rfl, show (1 : Int32) = iI 1 from rfl, show (2 : Int32) = iI 2 from rfl, show (3 : Int32) = iI 3 from rfl]
      by_cases z0 : y = 0
      · subst z0
        rw [if_pos rfl, if_neg (by decide), if_pos (by decide), if_pos rfl]
        exact ⟨_, _, rfl, rfl, rfl⟩
      · have n0 : ¬ iI y = iI 0 := fun q => z0 ((iI_eq hy (rg_lit (by omega) (by omega))).mp q)
        by_cases z1 : y = 1
        · subst z1
          rw [if_neg n0, if_pos rfl, if_neg (by decide), if_pos (by decide), if_neg n0, if_pos rfl]
          exact ⟨_, _, rfl, rfl, rfl⟩
        · have n1 : ¬ iI y = iI 1 := fun q => z1 ((iI_eq hy (rg_lit (by omega) (by omega))).mp q)
          by_cases z2 : y = 2
          · subst z2
            rw [if_neg n0, if_neg n1, if_pos rfl, if_neg (by decide), if_pos (by decide), if_neg n0, if_neg n1, if_pos rfl]
            exact ⟨_, _, rfl, rfl, rfl⟩
          · have n2 : ¬ iI y = iI 2 := fun q => z2 ((iI_eq hy (rg_lit (by omega) (by omega))).mp q)
            by_cases z3 : y = 3
            · subst z3
              rw [if_neg n0, if_neg n1, if_neg n2, if_pos rfl, if_neg (by decide), if_pos (by decide), if_neg n0, if_neg n1, if_neg n2]
              exact ⟨_, _, rfl, rfl, rfl⟩
            · have n3 : ¬ iI y = iI 3 := fun q => z3 ((iI_eq hy (rg_lit (by omega) (by omega))).mp q)
              rw [if_neg n0, if_neg n1, if_neg n2, if_neg n3]
              by_cases z4 : y < 0
              · rw [if_pos ((iI_lt hy (rg_lit (by omega) (by omega))).mpr z4)]
                exact ⟨_, _, rfl, rfl, rfl⟩
              · rw [if_neg (fun q => z4 ((iI_lt hy (rg_lit (by omega) (by omega))).mp q)), if_neg (fun q => by rw [iI_le hy (rg_lit (by omega) (by omega))] at q; omega)]
                exact ⟨_, _, rfl, rfl, rfl⟩
    · rw [if_neg (by rw [decide_eq_true_iff]; exact h1)]
      by_cases h2 : x < 0
      · rw [if_pos ((iI_lt0 hx).mpr h2)]
        exact ⟨_, _, rfl, rfl, rfl⟩
      · rw [if_neg (fun q => h2 ((iI_lt0 hx).mp q)), if_neg (fun q => by rw [iI_lt hx (rg_lit (by omega) (by omega))] at q; omega)]
        exact ⟨_, _, rfl, rfl, rfl⟩
theorem st_exact (hR : RLc w h tn plc hom gol stp exa hld err ln wd rd kn kp fu fk cnt mde stn mv pl m_ln m_wd m_rd m_kp m_car m_hom m_gol m_hld m_err m_isw m_mvs m_mde m_exa m_lst m_mf m_nm m_be) :
    ∃ v u, J_X4_exact F exa = some v ∧ J_X5_exact F m_exa = some u ∧ v = u.1 := by
  obtain ⟨c, o, g, l, b, r, k, fl, eb, hb, ⟨rfl, rfl, rfl, rfl, rfl, rfl, rfl, rfl, rfl⟩, ⟨rfl, rfl, rfl, rfl, rfl, rfl, rfl, rfl, rfl⟩, ⟨rfl, rfl, he⟩, hS, hW⟩ := hR
  unfold J_X4_exact J_X5_exact
  rw [bI_Z, bI_Z]
  exact ⟨_, _, rfl, rfl, rfl⟩
theorem st_follow (hP : PRM F w h tn) (hR : RLc w h tn plc hom gol stp exa hld err ln wd rd kn kp fu fk cnt mde stn mv pl m_ln m_wd m_rd m_kp m_car m_hom m_gol m_hld m_err m_isw m_mvs m_mde m_exa m_lst m_mf m_nm m_be) (p0 x : Int32) :
    ∃ v u, J_X4_follow F plc hld err cnt mde stn (h * 256).toNat pl p0 (FP.dmul (FP.i2d x) (4593671619917905920 : UInt64)) = some v ∧ J_X5_follow F m_car m_hld m_err m_isw m_mvs m_mde m_be p0 (FP.dmul (FP.i2d x) (4593671619917905920 : UInt64)) = some u ∧ v.1 = u.1 ∧
      RLc w h tn v.2.1 hom gol stp exa hld v.2.2.1 ln wd rd kn kp fu fk cnt v.2.2.2 stn mv pl m_ln m_wd m_rd m_kp u.2.2.1 m_hom m_gol m_hld u.2.2.2.1 m_isw m_mvs u.2.2.2.2 m_exa m_lst m_mf m_nm m_be := by
  obtain ⟨q1, q2, q3, q4, q5, q6⟩ := id hP
  obtain ⟨c, o, g, l, b, r, k, fl, eb, hb, ⟨rfl, rfl, rfl, rfl, rfl, rfl, rfl, rfl, rfl⟩, ⟨rfl, rfl, rfl, rfl, rfl, rfl, rfl, rfl, rfl⟩, ⟨rfl, rfl, he⟩, hS, hW⟩ := hR
  obtain ⟨N, hN, rfl⟩ := as_iI p0
  rcases hW with ⟨rfl, rfl, rfl, rfl⟩ | ⟨d, m, P, M, ⟨rfl, rfl, rfl, rfl, rfl, rfl⟩, hY⟩
  · obtain ⟨a, e1, e2⟩ := follow_no (F := F) (nPl := (h * 256).toNat) (pl := pl) (be := m_be) (x := x) m_mvs m_mde (bI hb) hN (iI (pN c)) (iI c) (e := m_err)
    rw [e1, e2]
    refine ⟨_, _, rfl, rfl, rfl, ?_⟩
    exact ⟨c, o, g, l, b, r, k, fl, eb, hb, ⟨rfl, rfl, rfl, rfl, rfl, rfl, rfl, rfl, rfl⟩, ⟨rfl, rfl, rfl, rfl, rfl, rfl, rfl, rfl, rfl⟩, ⟨rfl, rfl, he⟩, hS, Or.inl ⟨rfl, rfl, rfl, rfl⟩⟩
  · obtain ⟨y1, y2, y3, y4, y5⟩ := id hY
    subst y3
    obtain ⟨a, e', m', he', hm', e1, e2⟩ := follow_eq (F := F) (nPl := (h * 256).toNat) (pl := pl) (be := m_be) (x := x) (P := P) (d := d) q1 (by omega) (by omega) (by omega) (fun j hj => ⟨(y5 j hj).2.2.2.1, (y5 j hj).2.2.2.2.1⟩) hb hN y2 he
    rw [e1, e2]
    refine ⟨_, _, rfl, rfl, rfl, ?_⟩
    exact ⟨P m', o, g, l, b, r, k, fl, eb, hb, ⟨rfl, rfl, rfl, rfl, rfl, rfl, rfl, rfl, rfl⟩, ⟨rfl, rfl, rfl, rfl, rfl, rfl, rfl, rfl, rfl⟩, ⟨rfl, rfl, he'⟩, ⟨⟨y4 m' hm', hS.1.2.1, hS.1.2.2⟩, hS.2⟩, Or.inr ⟨d, m', P, M, ⟨rfl, rfl, rfl, rfl, rfl, rfl⟩, ⟨y1, hm', rfl, y4, y5⟩⟩⟩
theorem st_release (hR : RLc w h tn plc hom gol stp exa hld err ln wd rd kn kp fu fk cnt mde stn mv pl m_ln m_wd m_rd m_kp m_car m_hom m_gol m_hld m_err m_isw m_mvs m_mde m_exa m_lst m_mf m_nm m_be) (p0 : Int32) (t : Bool) (hp : p0 = bI t) :
    ∃ v u, J_X4_release F hld p0 = some v ∧ J_X5_release F m_hld p0 = some u ∧ v.1 = u.1 ∧
      RLc w h tn plc hom gol stp exa v.2 err ln wd rd kn kp fu fk cnt mde stn mv pl m_ln m_wd m_rd m_kp m_car m_hom m_gol u.2.2 m_err m_isw m_mvs m_mde m_exa m_lst m_mf m_nm m_be := by
  obtain ⟨c, o, g, l, b, r, k, fl, eb, hb, ⟨rfl, rfl, rfl, rfl, rfl, rfl, rfl, rfl, rfl⟩, ⟨rfl, rfl, rfl, rfl, rfl, rfl, rfl, rfl, rfl⟩, ⟨rfl, rfl, he⟩, hS, hW⟩ := hR
  subst hp
  unfold J_X4_release J_X5_release
  simp only [bI_Z]
  by_cases e : bI hb = bI t
  · rw [if_pos e, if_pos e]
    refine ⟨_, _, rfl, rfl, rfl, ?_⟩
    exact ⟨c, o, g, l, b, r, k, fl, eb, t, ⟨rfl, rfl, rfl, rfl, rfl, rfl, rfl, rfl, rfl⟩, ⟨rfl, rfl, rfl, rfl, rfl, rfl, rfl, rfl, rfl⟩, ⟨rfl, rfl, he⟩, hS, hW⟩
  · rw [if_neg e, if_neg e]
    refine ⟨_, _, rfl, rfl, rfl, ?_⟩
    exact ⟨c, o, g, l, b, r, k, fl, eb, t, ⟨rfl, rfl, rfl, rfl, rfl, rfl, rfl, rfl, rfl⟩, ⟨rfl, rfl, rfl, rfl, rfl, rfl, rfl, rfl, rfl⟩, ⟨rfl, rfl, he⟩, hS, hW⟩
theorem st_margin (hP : PRM F w h tn) (hR : RLc w h tn plc hom gol stp exa hld err ln wd rd kn kp fu fk cnt mde stn mv pl m_ln m_wd m_rd m_kp m_car m_hom m_gol m_hld m_err m_isw m_mvs m_mde m_exa m_lst m_mf m_nm m_be) (m_ne : Nat → Int32) (p0 : Int32) :
    ∃ v u, J_X4_margin F ln wd (iI w) (iI h) (h * 32).toNat fu cnt (h * 256).toNat pl p0 = some v ∧ J_X5_margin F (iI w) (iI h) m_ln m_wd m_isw m_mvs m_mf m_be m_ne p0 = some u ∧ v = u.1 := by
  obtain ⟨q1, q2, q3, q4, q5, q6⟩ := id hP
  obtain ⟨c, o, g, l, b, r, k, fl, eb, hb, ⟨rfl, rfl, rfl, rfl, rfl, rfl, rfl, rfl, rfl⟩, ⟨rfl, rfl, rfl, rfl, rfl, rfl, rfl, rfl, rfl⟩, ⟨rfl, rfl, he⟩, hS, hW⟩ := hR
  obtain ⟨x, hx, rfl⟩ := as_iI p0
  obtain ⟨⟨v1, v2, v3⟩, ⟨b1, b2, b3, b4, b5, b6, b7, b8⟩, hFd, hM, hK⟩ := id hS
  unfold J_X4_margin J_X5_margin
  rcases hW with ⟨rfl, rfl, rfl, rfl⟩ | ⟨d, m, P, M, ⟨rfl, rfl, rfl, rfl, rfl, rfl⟩, hY⟩
  · rw [if_pos rfl, show J_X3_hasMove F (0 : Int32) (iI x) = _ from hasMove_eq (d := 0) (rg_lit (by omega) (by omega)) hx, Option.bind_some, bI_if, if_neg (by rw [decide_eq_true_iff]; omega)]
    exact ⟨_, _, rfl, rfl, rfl⟩
  · obtain ⟨y1, y2, y3, y4, y5⟩ := id hY
    rw [if_neg (show ¬ (1 : Int32) = 0 by decide), hasMove_eq (rg_lit (by omega) (by omega)) hx, Option.bind_some, bI_if]
    by_cases h1 : 0 ≤ x ∧ x < d
    · obtain ⟨m6, j1, j2, j3, j4, j5⟩ := y5 x.toNat (by omega)
      have hv := y4 (x.toNat + 1) (by omega)
      have hpl := inF_lt hv.1
      have hnd := nD_b (P (x.toNat + 1))
      have hq := inF_iff.mp hv.1
      obtain ⟨ne', en, hN⟩ := findNear_eq (F := F) q3 q5 (by omega) (by omega) q1 hM m_ne
      have hma := marginAt_eq (F := F) (n := (h * 32).toNat) q3 q5 (by omega) (by omega) (by omega) rfl hFd.1 hv.1 hnd.1 hnd.2 b3 b4 b1 b2 j5
      have hpn : pcd (nX (P (x.toNat + 1))) (nY (P (x.toNat + 1))) (nD (P (x.toNat + 1))) = pN (P (x.toNat + 1)) := rfl
      rw [hpn] at hma
      rw [if_pos (decide_eq_true h1), if_neg (fun q => by rw [iI_lt0 hx] at q; omega), if_pos ((iI_lt hx (rg_lit (by omega) (by omega))).mpr h1.2), placeBehind_eq (rg_lit (by omega) (by omega)) h1.1 h1.2 (by omega) (by omega), Option.bind_some, gd_in hx h1.1 (by omega), iI_clamp hx, j3, j4, hma, Option.bind_some, en, Option.bind_some, mx_eq (by omega), my_eq (by omega), md_eq (by omega), Option.bind_some, Option.bind_some, clear_eq (F := F) q3 q5 (by omega) (by omega) (by omega) hN hq.1 (by omega) hq.2.2.1 (by omega) hnd.1 hnd.2 b3 b4 b1 b2, if_pos j5, Option.bind_some]
      exact ⟨_, _, rfl, rfl, rfl⟩
    · rw [if_neg (by rw [decide_eq_true_iff]; exact h1)]
      by_cases h2 : x < 0
      · rw [if_pos ((iI_lt0 hx).mpr h2)]
        exact ⟨_, _, rfl, rfl, rfl⟩
      · rw [if_neg (fun q => h2 ((iI_lt0 hx).mp q)), if_neg (fun q => by rw [iI_lt hx (rg_lit (by omega) (by omega))] at q; omega)]
        exact ⟨_, _, rfl, rfl, rfl⟩
theorem st_heading (ou : Nat → Int64) (p0 : Int32) : ∃ v u, J_L_heading F ou p0 = some v ∧ J_X5_heading F p0 = some u ∧ u.2 = v.1 ∧ (v.1 = 0 → v.2 0 = u.1.toInt64) := by
  obtain ⟨x, hx, rfl⟩ := as_iI p0
  unfold J_L_heading J_X4_heading J_X5_heading
  rw [show (7 : Int32) = iI 7 from rfl, show J_X4_isFrom F (0 : Int32) (iI x) (iI 7) = _ from isFrom_eq F (a := 0) (rg_lit (by omega) (by omega)) hx (rg_lit (by omega) (by omega)), Option.bind_some, bI_if]
  by_cases h1 : 0 ≤ x ∧ x ≤ 7
  · rw [if_pos (decide_eq_true h1), if_neg (fun q => by rw [iI_lt0 hx] at q; omega), if_pos ((iI_le hx (rg_lit (by omega) (by omega))).mpr h1.2), stepX_eq, stepY_eq, dx_eq h1.1 (by omega), dy_eq h1.1 (by omega), show x % 8 = x by omega, Option.bind_some, Option.bind_some, Option.bind_some, Option.bind_some, Option.bind_some]
    exact ⟨_, _, rfl, rfl, rfl, fun _ => rfl⟩
  · rw [if_neg (by rw [decide_eq_true_iff]; exact h1), Option.bind_some]
    by_cases h2 : x < 0
    · rw [if_pos ((iI_lt0 hx).mpr h2)]
      exact ⟨_, _, rfl, rfl, rfl, fun z => absurd z (show ¬ (1 : Int32) = 0 by decide)⟩
    · rw [if_neg (fun q => h2 ((iI_lt0 hx).mp q)), if_neg (fun q => by rw [iI_le hx (rg_lit (by omega) (by omega))] at q; omega)]
      exact ⟨_, _, rfl, rfl, rfl, fun z => absurd z (show ¬ (1 : Int32) = 0 by decide)⟩
end STEPS2
