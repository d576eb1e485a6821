/-! the law's loop: every call's answers agree -/
theorem gd_t {α : Type} {b : Bool} (h : b = true) (k : Option α) : gd b k = k := by
  rw [h]
  rfl
theorem in0_1 {α : Type} (k : Option α) : gd (inB (0 : Int32) 1) k = k := gd_in (a := 0) (rg_lit (by omega) (by omega)) (by omega) (by omega)
theorem RLc.err {w h tn : Int} {plc : Int32} {hom : Int32} {gol : Int32} {stp : Int64} {exa : Int32} {hld : Int32} {err : UInt64} {ln : Int32} {wd : Int32} {rd : Int32} {kn : Nat → Int32} {kp : Int32} {fu : Nat → Int32} {fk : Nat → Int32} {cnt : Int32} {mde : Int32} {stn : Int32} {mv : Nat → Int32} {pl : Nat → Int32} {m_ln : Int32} {m_wd : Int32} {m_rd : Int32} {m_kp : Int32} {m_car : Int32} {m_hom : Int32} {m_gol : Int32} {m_hld : Int32} {m_err : UInt64} {m_isw : Int32} {m_mvs : Int32} {m_mde : Int32} {m_exa : Int32} {m_lst : Int64} {m_mf : Nat → Int32} {m_nm : Nat → Int32} {m_be : Nat → Int32} (hR : RLc w h tn plc hom gol stp exa hld err ln wd rd kn kp fu fk cnt mde stn mv pl m_ln m_wd m_rd m_kp m_car m_hom m_gol m_hld m_err m_isw m_mvs m_mde m_exa m_lst m_mf m_nm m_be) : m_err = err := by
  obtain ⟨c, o, g, l, b, r, k, fl, eb, hb, h1, h2, ⟨h3, h4, h5⟩, h6⟩ := hR
  exact h4
set_option maxHeartbeats 4000000 in
set_option maxRecDepth 100000 in
theorem law_all {F : Nat} {w h tn : Int} (hP : PRM F w h tn) {L : Nat} (hL : L ≤ 2051) (xs : Nat → Int32) :
    ∀ (fz c : Nat) (i : Int) (plc : Int32) (hom : Int32) (gol : Int32) (stp : Int64) (exa : Int32) (hld : Int32) (err : UInt64) (rch : Int32) (co : Nat → Int64) (qu : Nat → Int32) (ln : Int32) (wd : Int32) (rd : Int32) (kn : Nat → Int32) (kp : Int32) (fu : Nat → Int32) (fk : Nat → Int32) (cnt : Int32) (mde : Int32) (stn : Int32) (mv : Nat → Int32) (pl : Nat → Int32) (m_cod : Int32) (m_ln : Int32) (m_wd : Int32) (m_rd : Int32) (m_kp : Int32) (m_car : Int32) (m_hom : Int32) (m_gol : Int32) (m_hld : Int32) (m_err : UInt64) (m_isw : Int32) (m_mvs : Int32) (m_mde : Int32) (m_exa : Int32) (m_lst : Int64) (m_mf : Nat → Int32) (m_nm : Nat → Int32) (m_be : Nat → Int32) (m_fa : Nat → Int32) (m_cs : Nat → Int32) (m_fr : Nat → Int32) (m_ro : Nat → Int32) (m_ne : Nat → Int32) (ou : Nat → Int64), c < fz → (L : Int) < i + 4 * c + 4 → 0 ≤ i → i ≤ 2055 → RLc w h tn plc hom gol stp exa hld err ln wd rd kn kp fu fk cnt mde stn mv pl m_ln m_wd m_rd m_kp m_car m_hom m_gol m_hld m_err m_isw m_mvs m_mde m_exa m_lst m_mf m_nm m_be → J_law_L53 F L xs (h * 256).toNat (h * 256).toNat (h * 256).toNat (iI w) (iI h) (iI tn) (h * 32).toNat (h * 32).toNat (h * 256).toNat (h * 256).toNat (iI w) (iI h) (bI (decide (tn = 2))) fz (iI i) plc hom gol stp exa hld err rch co qu ln wd rd kn kp fu fk cnt mde stn mv pl m_cod m_ln m_wd m_rd m_kp m_car m_hom m_gol m_hld m_err m_isw m_mvs m_mde m_exa m_lst m_mf m_nm m_be m_fa m_cs m_fr m_ro m_ne ou = some (1 : Int32) := by
  intro fz
  induction fz with
  | zero =>
    intro c i plc hom gol stp exa hld err rch co qu ln wd rd kn kp fu fk cnt mde stn mv pl m_cod m_ln m_wd m_rd m_kp m_car m_hom m_gol m_hld m_err m_isw m_mvs m_mde m_exa m_lst m_mf m_nm m_be m_fa m_cs m_fr m_ro m_ne ou hc
    omega
  | succ fz ih =>
    intro c i plc hom gol stp exa hld err rch co qu ln wd rd kn kp fu fk cnt mde stn mv pl m_cod m_ln m_wd m_rd m_kp m_car m_hom m_gol m_hld m_err m_isw m_mvs m_mde m_exa m_lst m_mf m_nm m_be m_fa m_cs m_fr m_ro m_ne ou hc hLc hi0 hi1 hR
    rw [J_law_L53]
    have hL4 : Int32.ofNat L - (4 : Int32) = iI ((L : Int) - 4) := by
      rw [show Int32.ofNat L = iI L from nI_iI L, show (4 : Int32) = iI 4 from rfl, iI_sub]
    by_cases hd : (L : Int) - 4 < i
    · refine (if_pos ?_).trans rfl
      rw [hL4]
      exact (iI_lt (rg_lit (by omega) (by omega)) (rg_lit (by omega) (by omega))).mpr hd
    have hge : ¬ Int32.ofNat L - (4 : Int32) < iI i := by
      rw [hL4, iI_lt (rg_lit (by omega) (by omega)) (rg_lit (by omega) (by omega))]
      exact hd
    have g0 : ∀ {α : Type} (k : Option α), gd (inB (iI i) L) k = k := fun k => gd_in (rg_lit (by omega) (by omega)) (by omega) (by omega)
    have g1 : ∀ {α : Type} (k : Option α), gd (inB (iI i + (1 : Int32)) L) k = k := fun k => by
      rw [show iI i + (1 : Int32) = iI (i + 1) from iI_add i 1]
      exact gd_in (rg_lit (by omega) (by omega)) (by omega) (by omega)
    have g2 : ∀ {α : Type} (k : Option α), gd (inB (iI i + (2 : Int32)) L) k = k := fun k => by
      rw [show iI i + (2 : Int32) = iI (i + 2) from iI_add i 2]
      exact gd_in (rg_lit (by omega) (by omega)) (by omega) (by omega)
    have g3 : ∀ {α : Type} (k : Option α), gd (inB (iI i + (3 : Int32)) L) k = k := fun k => by
      rw [show iI i + (3 : Int32) = iI (i + 3) from iI_add i 3]
      exact gd_in (rg_lit (by omega) (by omega)) (by omega) (by omega)
    obtain ⟨c, rfl⟩ : ∃ c', c = c' + 1 := ⟨c - 1, by omega⟩
    have nx : ∀ {plc : Int32} {hom : Int32} {gol : Int32} {stp : Int64} {exa : Int32} {hld : Int32} {err : UInt64} {rch : Int32} {co : Nat → Int64} {qu : Nat → Int32} {ln : Int32} {wd : Int32} {rd : Int32} {kn : Nat → Int32} {kp : Int32} {fu : Nat → Int32} {fk : Nat → Int32} {cnt : Int32} {mde : Int32} {stn : Int32} {mv : Nat → Int32} {pl : Nat → Int32} {m_cod : Int32} {m_ln : Int32} {m_wd : Int32} {m_rd : Int32} {m_kp : Int32} {m_car : Int32} {m_hom : Int32} {m_gol : Int32} {m_hld : Int32} {m_err : UInt64} {m_isw : Int32} {m_mvs : Int32} {m_mde : Int32} {m_exa : Int32} {m_lst : Int64} {m_mf : Nat → Int32} {m_nm : Nat → Int32} {m_be : Nat → Int32} {m_fa : Nat → Int32} {m_cs : Nat → Int32} {m_fr : Nat → Int32} {m_ro : Nat → Int32} {m_ne : Nat → Int32} {ou : Nat → Int64}, RLc w h tn plc hom gol stp exa hld err ln wd rd kn kp fu fk cnt mde stn mv pl m_ln m_wd m_rd m_kp m_car m_hom m_gol m_hld m_err m_isw m_mvs m_mde m_exa m_lst m_mf m_nm m_be → J_law_L53 F L xs (h * 256).toNat (h * 256).toNat (h * 256).toNat (iI w) (iI h) (iI tn) (h * 32).toNat (h * 32).toNat (h * 256).toNat (h * 256).toNat (iI w) (iI h) (bI (decide (tn = 2))) fz (iI i + (4 : Int32)) plc hom gol stp exa hld err rch co qu ln wd rd kn kp fu fk cnt mde stn mv pl m_cod m_ln m_wd m_rd m_kp m_car m_hom m_gol m_hld m_err m_isw m_mvs m_mde m_exa m_lst m_mf m_nm m_be m_fa m_cs m_fr m_ro m_ne ou = some (1 : Int32) := by
      intro plc hom gol stp exa hld err rch co qu ln wd rd kn kp fu fk cnt mde stn mv pl m_cod m_ln m_wd m_rd m_kp m_car m_hom m_gol m_hld m_err m_isw m_mvs m_mde m_exa m_lst m_mf m_nm m_be m_fa m_cs m_fr m_ro m_ne ou hR2
      rw [show iI i + (4 : Int32) = iI (i + 4) from iI_add i 4]
      exact ih c (i + 4) plc hom gol stp exa hld err rch co qu ln wd rd kn kp fu fk cnt mde stn mv pl m_cod m_ln m_wd m_rd m_kp m_car m_hom m_gol m_hld m_err m_isw m_mvs m_mde m_exa m_lst m_mf m_nm m_be m_fa m_cs m_fr m_ro m_ne ou (by omega) (by omega) (by omega) (by omega) hR2
    have hme := hR.err
    refine (if_neg hge).trans ?_
    refine (g0 _).trans ?_
    by_cases c0 : (xs (iI i).toNatClampNeg) &&& (15 : Int32) = (0 : Int32)
    · refine (if_pos c0).trans ?_
      refine (g1 _).trans ?_
      refine (g2 _).trans ?_
      refine (g3 _).trans ?_
      by_cases t0 : (xs (iI i + (3 : Int32)).toNatClampNeg) = 0
      · refine (if_pos t0).trans ?_
        obtain ⟨v, u, e1, e2, e3, e4, hR2⟩ := st_cell hP hR ou (xs (iI i + (1 : Int32)).toNatClampNeg) (xs (iI i + (2 : Int32)).toNatClampNeg) (0 : Int32) false rfl
        refine (bind_of e1 _).trans ?_
        refine (g1 _).trans ?_
        refine (g2 _).trans ?_
        refine (g3 _).trans ?_
        refine (if_pos t0).trans ?_
        refine (bind_of e2 _).trans ?_
        refine (bind_of (show J_X5_thrown F _ = some _ from rfl) _).trans ?_
        refine (if_pos e3).trans ?_
        by_cases hk : v.1 = 0
        · refine (if_pos hk).trans ?_
          refine (in0_1 _).trans ?_
          refine (if_pos ((lg_cmp_eq _ _).mpr (e4 hk))).trans ?_
          exact nx hR2
        · refine (if_neg hk).trans ?_
          exact nx hR2
      · refine (if_neg t0).trans ?_
        obtain ⟨v, u, e1, e2, e3, e4, hR2⟩ := st_cell hP hR ou (xs (iI i + (1 : Int32)).toNatClampNeg) (xs (iI i + (2 : Int32)).toNatClampNeg) (1 : Int32) true rfl
        refine (bind_of e1 _).trans ?_
        refine (g1 _).trans ?_
        refine (g2 _).trans ?_
        refine (g3 _).trans ?_
        refine (if_neg t0).trans ?_
        refine (bind_of e2 _).trans ?_
        refine (bind_of (show J_X5_thrown F _ = some _ from rfl) _).trans ?_
        refine (if_pos e3).trans ?_
        by_cases hk : v.1 = 0
        · refine (if_pos hk).trans ?_
          refine (in0_1 _).trans ?_
          refine (if_pos ((lg_cmp_eq _ _).mpr (e4 hk))).trans ?_
          exact nx hR2
        · refine (if_neg hk).trans ?_
          exact nx hR2
    refine (if_neg c0).trans ?_
    by_cases c1 : (xs (iI i).toNatClampNeg) &&& (15 : Int32) = (1 : Int32)
    · refine (if_pos c1).trans ?_
      refine (g1 _).trans ?_
      refine (g2 _).trans ?_
      refine (g3 _).trans ?_
      obtain ⟨v, u, e1, e2, e3, hR2⟩ := st_car hP hR (xs (iI i + (1 : Int32)).toNatClampNeg) (xs (iI i + (2 : Int32)).toNatClampNeg) (xs (iI i + (3 : Int32)).toNatClampNeg)
      refine (bind_of e1 _).trans ?_
      refine (g1 _).trans ?_
      refine (g2 _).trans ?_
      refine (g3 _).trans ?_
      refine (bind_of e2 _).trans ?_
      refine (if_pos e3).trans ?_
      exact nx hR2
    refine (if_neg c1).trans ?_
    by_cases c2 : (xs (iI i).toNatClampNeg) &&& (15 : Int32) = (2 : Int32)
    · refine (if_pos c2).trans ?_
      refine (g1 _).trans ?_
      obtain ⟨v, u, e1, e2, e3, hR2⟩ := st_keep hP hR (xs (iI i + (1 : Int32)).toNatClampNeg)
      refine (bind_of e1 _).trans ?_
      refine (g1 _).trans ?_
      refine (bind_of e2 _).trans ?_
      refine (if_pos e3).trans ?_
      exact nx hR2
    refine (if_neg c2).trans ?_
    by_cases c3 : (xs (iI i).toNatClampNeg) &&& (15 : Int32) = (3 : Int32)
    · refine (if_pos c3).trans ?_
      refine (g1 _).trans ?_
      refine (g2 _).trans ?_
      refine (g3 _).trans ?_
      obtain ⟨v, u, e1, e2, e3, hR2⟩ := st_stand hP hR m_ne (xs (iI i + (1 : Int32)).toNatClampNeg) (xs (iI i + (2 : Int32)).toNatClampNeg) (xs (iI i + (3 : Int32)).toNatClampNeg)
      refine (bind_of e1 _).trans ?_
      refine (g1 _).trans ?_
      refine (g2 _).trans ?_
      refine (g3 _).trans ?_
      refine (bind_of e2 _).trans ?_
      refine (if_pos e3).trans ?_
      exact nx hR2
    refine (if_neg c3).trans ?_
    by_cases c4 : (xs (iI i).toNatClampNeg) &&& (15 : Int32) = (4 : Int32)
    · refine (if_pos c4).trans ?_
      refine (g1 _).trans ?_
      refine (g2 _).trans ?_
      obtain ⟨v, u, e1, e2, e3, hR2⟩ := st_space hP hR (xs (iI i + (1 : Int32)).toNatClampNeg) (xs (iI i + (2 : Int32)).toNatClampNeg)
      refine (bind_of e1 _).trans ?_
      refine (g1 _).trans ?_
      refine (g2 _).trans ?_
      refine (bind_of e2 _).trans ?_
      refine (if_pos e3).trans ?_
      exact nx hR2
    refine (if_neg c4).trans ?_
    by_cases c5 : (xs (iI i).toNatClampNeg) &&& (15 : Int32) = (5 : Int32)
    · refine (if_pos c5).trans ?_
      obtain ⟨v, u, e1, e2, e3, hR2⟩ := st_out hP hR
      refine (bind_of e1 _).trans ?_
      refine (bind_of e2 _).trans ?_
      refine (if_pos e3).trans ?_
      exact nx hR2
    refine (if_neg c5).trans ?_
    by_cases c6 : (xs (iI i).toNatClampNeg) &&& (15 : Int32) = (6 : Int32)
    · refine (if_pos c6).trans ?_
      refine (g1 _).trans ?_
      refine (g2 _).trans ?_
      obtain ⟨v, u, e1, e2, e3, hR2⟩ := st_way hP hR rch co qu m_fa m_cs m_fr m_ro m_ne ((((xs (iI i + (1 : Int32)).toNatClampNeg)).toInt64 <<< ((32 : Int32).toInt64 &&& 63)) ||| (((xs (iI i + (2 : Int32)).toNatClampNeg)).toInt64 &&& (4294967295 : Int64)))
      refine (bind_of e1 _).trans ?_
      refine (g1 _).trans ?_
      refine (g2 _).trans ?_
      refine (bind_of e2 _).trans ?_
      refine (if_pos e3).trans ?_
      exact nx hR2
    refine (if_neg c6).trans ?_
    by_cases c7 : (xs (iI i).toNatClampNeg) &&& (15 : Int32) = (7 : Int32)
    · refine (if_pos c7).trans ?_
      refine (g1 _).trans ?_
      refine (g2 _).trans ?_
      obtain ⟨v, u, e1, e2, e3⟩ := st_move hP hR (xs (iI i + (1 : Int32)).toNatClampNeg) (xs (iI i + (2 : Int32)).toNatClampNeg)
      refine (bind_of e1 _).trans ?_
      refine (g1 _).trans ?_
      refine (g2 _).trans ?_
      refine (bind_of e2 _).trans ?_
      refine (if_pos e3).trans ?_
      exact nx hR
    refine (if_neg c7).trans ?_
    by_cases c8 : (xs (iI i).toNatClampNeg) &&& (15 : Int32) = (8 : Int32)
    · refine (if_pos c8).trans ?_
      obtain ⟨v, u, e1, e2, e3⟩ := st_exact (F := F) hR
      refine (bind_of e1 _).trans ?_
      refine (bind_of e2 _).trans ?_
      refine (if_pos e3).trans ?_
      exact nx hR
    refine (if_neg c8).trans ?_
    by_cases c9 : (xs (iI i).toNatClampNeg) &&& (15 : Int32) = (9 : Int32)
    · refine (if_pos c9).trans ?_
      refine (g1 _).trans ?_
      refine (g2 _).trans ?_
      refine (gd_t (slip_nf (xs (iI i + (2 : Int32)).toNatClampNeg)) _).trans ?_
      obtain ⟨v, u, e1, e2, e3, hR2⟩ := st_follow hP hR (xs (iI i + (1 : Int32)).toNatClampNeg) (xs (iI i + (2 : Int32)).toNatClampNeg)
      refine (bind_of e1 _).trans ?_
      refine (g1 _).trans ?_
      refine (g2 _).trans ?_
      refine (gd_t (slip_nf (xs (iI i + (2 : Int32)).toNatClampNeg)) _).trans ?_
      refine (bind_of e2 _).trans ?_
      refine (if_pos e3).trans ?_
      exact nx hR2
    refine (if_neg c9).trans ?_
    by_cases c10 : (xs (iI i).toNatClampNeg) &&& (15 : Int32) = (10 : Int32)
    · refine (if_pos c10).trans ?_
      refine (bind_of (show J_X4_error F err = some err from rfl) _).trans ?_
      refine (bind_of (show J_X5_error F m_err = some (m_err, 0) from rfl) _).trans ?_
      subst hme
      by_cases q : (Op.cmpValue (FP.dcmp m_err m_err) .l) = (0 : Int32)
      · refine (if_pos q).trans ?_
        exact nx hR
      · refine (if_neg q).trans ?_
        refine (if_neg q).trans ?_
        refine (if_neg q).trans ?_
        exact nx hR
    refine (if_neg c10).trans ?_
    by_cases c11 : (xs (iI i).toNatClampNeg) &&& (15 : Int32) = (11 : Int32)
    · refine (if_pos c11).trans ?_
      refine (g1 _).trans ?_
      refine (g2 _).trans ?_
      refine (g3 _).trans ?_
      by_cases t0 : (xs (iI i + (3 : Int32)).toNatClampNeg) = 0
      · refine (if_pos t0).trans ?_
        obtain ⟨v, u, e1, e2, e3, e4, hR2⟩ := st_change hP hR rch co qu m_fa m_cs m_fr m_ro m_ne ou (xs (iI i + (1 : Int32)).toNatClampNeg) (xs (iI i + (2 : Int32)).toNatClampNeg) (0 : Int32) false rfl
        refine (bind_of e1 _).trans ?_
        refine (g1 _).trans ?_
        refine (g2 _).trans ?_
        refine (g3 _).trans ?_
        refine (if_pos t0).trans ?_
        refine (bind_of e2 _).trans ?_
        refine (bind_of (show J_X5_thrown F _ = some _ from rfl) _).trans ?_
        refine (if_pos e3).trans ?_
        by_cases hk : v.1 = 0
        · refine (if_pos hk).trans ?_
          refine (in0_1 _).trans ?_
          refine (if_pos ((lg_cmp_eq _ _).mpr (e4 hk))).trans ?_
          exact nx hR2
        · refine (if_neg hk).trans ?_
          exact nx hR2
      · refine (if_neg t0).trans ?_
        obtain ⟨v, u, e1, e2, e3, e4, hR2⟩ := st_change hP hR rch co qu m_fa m_cs m_fr m_ro m_ne ou (xs (iI i + (1 : Int32)).toNatClampNeg) (xs (iI i + (2 : Int32)).toNatClampNeg) (1 : Int32) true rfl
        refine (bind_of e1 _).trans ?_
        refine (g1 _).trans ?_
        refine (g2 _).trans ?_
        refine (g3 _).trans ?_
        refine (if_neg t0).trans ?_
        refine (bind_of e2 _).trans ?_
        refine (bind_of (show J_X5_thrown F _ = some _ from rfl) _).trans ?_
        refine (if_pos e3).trans ?_
        by_cases hk : v.1 = 0
        · refine (if_pos hk).trans ?_
          refine (in0_1 _).trans ?_
          refine (if_pos ((lg_cmp_eq _ _).mpr (e4 hk))).trans ?_
          exact nx hR2
        · refine (if_neg hk).trans ?_
          exact nx hR2
    refine (if_neg c11).trans ?_
    by_cases c12 : (xs (iI i).toNatClampNeg) &&& (15 : Int32) = (12 : Int32)
    · refine (if_pos c12).trans ?_
      refine (g1 _).trans ?_
      by_cases t0 : (xs (iI i + (1 : Int32)).toNatClampNeg) = 0
      · refine (if_pos t0).trans ?_
        obtain ⟨v, u, e1, e2, e3, hR2⟩ := st_release (F := F) hR (0 : Int32) false rfl
        refine (bind_of e1 _).trans ?_
        refine (g1 _).trans ?_
        refine (if_pos t0).trans ?_
        refine (bind_of e2 _).trans ?_
        refine (if_pos e3).trans ?_
        exact nx hR2
      · refine (if_neg t0).trans ?_
        obtain ⟨v, u, e1, e2, e3, hR2⟩ := st_release (F := F) hR (1 : Int32) true rfl
        refine (bind_of e1 _).trans ?_
        refine (g1 _).trans ?_
        refine (if_neg t0).trans ?_
        refine (bind_of e2 _).trans ?_
        refine (if_pos e3).trans ?_
        exact nx hR2
    refine (if_neg c12).trans ?_
    by_cases c13 : (xs (iI i).toNatClampNeg) &&& (15 : Int32) = (13 : Int32)
    · refine (if_pos c13).trans ?_
      refine (g1 _).trans ?_
      obtain ⟨v, u, e1, e2, e3⟩ := st_margin hP hR m_ne (xs (iI i + (1 : Int32)).toNatClampNeg)
      refine (bind_of e1 _).trans ?_
      refine (g1 _).trans ?_
      refine (bind_of e2 _).trans ?_
      refine (if_pos e3).trans ?_
      exact nx hR
    refine (if_neg c13).trans ?_
    by_cases c14 : (xs (iI i).toNatClampNeg) &&& (15 : Int32) = (14 : Int32)
    · refine (if_pos c14).trans ?_
      refine (g1 _).trans ?_
      obtain ⟨v, u, e1, e2, e3, e4⟩ := st_heading (F := F) ou (xs (iI i + (1 : Int32)).toNatClampNeg)
      have hR2 := hR
      refine (bind_of e1 _).trans ?_
      refine (g1 _).trans ?_
      refine (bind_of e2 _).trans ?_
      refine (bind_of (show J_X5_thrown F _ = some _ from rfl) _).trans ?_
      refine (if_pos e3).trans ?_
      by_cases hk : v.1 = 0
      · refine (if_pos hk).trans ?_
        refine (in0_1 _).trans ?_
        refine (if_pos ((lg_cmp_eq _ _).mpr (e4 hk))).trans ?_
        exact nx hR2
      · refine (if_neg hk).trans ?_
        exact nx hR2
    refine (if_neg c14).trans ?_
    exact nx hR
