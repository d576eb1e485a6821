/-! the two objects side by side, call by call -/
def PRM (F : Nat) (w h tn : Int) : Prop := 7000 < F ∧ 1 ≤ w ∧ w ≤ 24 ∧ 1 ≤ h ∧ h ≤ 24 ∧ (tn = 1 ∨ tn = 2)
def WR (w h tn l b : Int) (c : Nat) (cnt mde stn : Int32) (mv pl : Nat → Int32) (isw mvs mmd : Int32) (nm be : Nat → Int32) : Prop :=
  (cnt = 0 ∧ mde = 0 ∧ stn = 0 ∧ isw = 0) ∨ (∃ (d m : Nat) (P M : Nat → Nat), (cnt = iI d ∧ mde = iI m ∧ stn = 1 ∧ isw = 1 ∧ mvs = iI d ∧ mmd = iI m) ∧ WY w h tn l b c d m P M mv pl nm be)
def RS (w h tn : Int) (c o g : Nat) (l b r k : Int) (fl : Int → Int → Bool) (kn fu fk mf : Nat → Int32) : Prop :=
  (vN w h tn c ∧ vN w h tn o ∧ vN w h tn g) ∧ (1 ≤ l ∧ l ≤ 7 ∧ 1 ≤ b ∧ b ≤ 5 ∧ 1 ≤ r ∧ r ≤ 4 ∧ 0 ≤ k ∧ k ≤ 3) ∧ FdR w h k fl fu fk ∧ Mf w h fl mf ∧ Kn w h (okP w h (clF w h k fl) l b) kn
def RLc (w h tn : Int) (plc hom gol : Int32) (stp : Int64) (exa hld : Int32) (err : UInt64) (ln wd rd : Int32) (kn : Nat → Int32) (kp : Int32) (fu fk : Nat → Int32) (cnt mde stn : Int32) (mv pl : Nat → Int32) (m_ln m_wd m_rd m_kp m_car m_hom m_gol m_hld : Int32) (m_err : UInt64) (m_isw m_mvs m_mde m_exa : Int32) (m_lst : Int64) (m_mf m_nm m_be : Nat → Int32) : Prop :=
  ∃ (c o g : Nat) (l b r k : Int) (fl : Int → Int → Bool) (eb hb : Bool),
    (plc = iI (pN c) ∧ hom = iI (pN o) ∧ gol = iI (pN g) ∧ ln = iI l ∧ wd = iI b ∧ rd = iI r ∧ kp = iI k ∧ exa = bI eb ∧ hld = bI hb) ∧
    (m_car = iI c ∧ m_hom = iI o ∧ m_gol = iI g ∧ m_ln = iI l ∧ m_wd = iI b ∧ m_rd = iI r ∧ m_kp = iI k ∧ m_exa = bI eb ∧ m_hld = bI hb) ∧
    (m_lst = stp ∧ m_err = err ∧ err ∈ errL) ∧ RS w h tn c o g l b r k fl kn fu fk m_mf ∧ WR w h tn l b c cnt mde stn mv pl m_isw m_mvs m_mde m_nm m_be
theorem Kn.zero {w h : Int} {ok : Int → Int → Int → Bool} {kn : Nat → Int32} (hw : w ≤ 24) (hh : h ≤ 24) (hz : ∀ j, j < (h * 256).toNat → kn j = 0) : Kn w h ok kn := by
  intro x y d hi h0 h1
  have b := pcd_b hw hh hi h0 h1
  exact Or.inl (hz _ (by omega))
theorem as_iI (p : Int32) : ∃ x : Int, rg x ∧ p = iI x := ⟨p.toInt, rg_of p, (iI_of p).symm⟩
theorem bind_of {α β : Type} {x : Option α} {v : α} (h : x = some v) (f : α → Option β) : Option.bind x f = f v := by
  rw [h]
  rfl
theorem pN_eq {w h : Int} (hw : w ≤ 24) (hh : h ≤ 24) {p q : Nat} (hp : inF w h (nX p) (nY p) = true) (hq : inF w h (nX q) (nY q) = true) : (iI (pN p) = iI (pN q)) ↔ p = q := by
  have b1 := pN_b hw hh hp
  have b2 := pN_b hw hh hq
  refine ⟨fun e => ?_, fun e => by rw [e]⟩
  have := (iI_eq (rg_lit (by omega) (by omega)) (rg_lit (by omega) (by omega))).mp e
  exact pN_inj hw hh hp hq (by rw [this])
theorem pN_nC {x y d : Int} (x0 : 0 ≤ x) (x1 : x < 24) (y0 : 0 ≤ y) (d0 : 0 ≤ d) (d1 : d < 8) : pN (nC x y d) = (y * 32 + x) * 8 + d := by
  obtain ⟨n1, n2, n3⟩ := n_nC x0 x1 y0 d0 d1
  unfold pN
  rw [n1, n2, n3]
  rfl
theorem iC_nC {x y d : Int} (x0 : 0 ≤ x) (y0 : 0 ≤ y) (d0 : 0 ≤ d) : ((nC x y d : Nat) : Int) = 8 * (24 * y + x) + d := by
  unfold nC
  omega
section CALLS
variable {F : Nat} {w h tn : Int} {c o g : Nat} {l b r k : Int} {fl : Int → Int → Bool} {kn fu fk mf : Nat → Int32}
theorem RS.cx (hP : PRM F w h tn) (hS : RS w h tn c o g l b r k fl kn fu fk mf) : CX F w h l b r tn (h * 32).toNat (h * 256).toNat fk (clF w h k fl) := by
  obtain ⟨p1, p2, p3, p4, p5, p6⟩ := hP
  obtain ⟨-, ⟨q1, q2, q3, q4, q5, q6, q7, q8⟩, hF, -, -⟩ := hS
  exact ⟨⟨by omega, p3, by omega, p5⟩, ⟨q1, q2, q3, q4, q5, q6⟩, p6, ⟨rfl, rfl⟩, hF.clear p3 p5 q7 q8, p1⟩
theorem forget_eq (hP : PRM F w h tn) (ok : Int → Int → Int → Bool) (kn : Nat → Int32) : ∃ kn', J_X0_forget F (h * 256).toNat kn = some kn' ∧ Kn w h ok kn' := by
  obtain ⟨p1, p2, p3, p4, p5, p6⟩ := hP
  obtain ⟨kn', e, hz⟩ := fillI (F := F) (nAr := (h * 256).toNat) (by omega) (by omega) (0 : Int32) kn
  unfold J_X0_forget
  rw [e, Option.bind_some]
  exact ⟨kn', rfl, Kn.zero p3 p5 hz⟩
theorem setCell_eq (hP : PRM F w h tn) (hS : RS w h tn c o g l b r k fl kn fu fk mf) {x y : Int} (hi : inF w h x y = true) (t : Bool) : ∃ kn' fu' fk', J_X4_setCell F (h * 256).toNat kn (iI w) (iI h) (iI k) (h * 32).toNat fu (h * 32).toNat fk (iI x) (iI y) (bI t) = some (bI (fl x y != t), kn', fu', fk') ∧ FdR w h k (setF fl x y t) fu' fk' ∧ Kn w h (okP w h (clF w h k (setF fl x y t)) l b) kn' := by
  obtain ⟨p1, p2, p3, p4, p5, p6⟩ := id hP
  obtain ⟨-, ⟨q1, q2, q3, q4, q5, q6, q7, q8⟩, hF, -, hK⟩ := hS
  obtain ⟨fu', fk', e, hF'⟩ := setFull_eq (F := F) p3 p5 (by omega) (by omega) (by omega) rfl q7 q8 hF hi t
  unfold J_X4_setCell
  rw [e, Option.bind_some]
  dsimp only
  simp only [bI_if, bI_Z]
  by_cases hc : (fl x y != t) = true
  · obtain ⟨kn', ef, hK'⟩ := forget_eq hP (okP w h (clF w h k (setF fl x y t)) l b) kn
    rw [if_pos hc, ef, Option.bind_some]
    exact ⟨kn', fu', fk', rfl, hF', hK'⟩
  · rw [if_neg hc]
    refine ⟨kn, fu', fk', rfl, hF', ?_⟩
    rw [setF_same (by cases h1 : fl x y <;> cases t <;> first | rfl | (rw [h1] at hc; exact absurd rfl hc))]
    exact hK
theorem mset_eq (hP : PRM F w h tn) (hm : Mf w h fl mf) {x y : Int} (hi : inF w h x y = true) (t : Bool) : ∃ mf', J_X5_set F (iI w) (iI h) mf (iI x) (iI y) (bI t) = some (bI (fl x y != t), 0, mf') ∧ Mf w h (setF fl x y t) mf' := by
  obtain ⟨p1, p2, p3, p4, p5, p6⟩ := id hP
  have hq := inF_iff.mp hi
  have r1 : rg (24 * y + x) := rg_lit (by omega) (by omega)
  have hM : Mf w h (setF fl x y t) (upd mf (24 * y + x).toNat (bI t)) := by
    intro u v huv
    have hq2 := inF_iff.mp huv
    unfold setF
    by_cases z : u = x ∧ v = y
    · rw [if_pos z, z.1, z.2, upd_at]
    · rw [if_neg z, upd_ne (by omega)]
      exact hm u v huv
  unfold J_X5_set
  rw [isCell_eq (rg_lit (by omega) (by omega)) (rg_lit (by omega) (by omega)) (rg_lit (by omega) (by omega)) (rg_lit (by omega) (by omega)), Option.bind_some, bI_if, hi, if_pos rfl, kI24, iI_mul, iI_add, gd_in r1 (by omega) (by omega), gd_in r1 (by omega) (by omega), gd_in r1 (by omega) (by omega), iI_clamp r1, hm x y hi, nar_b]
  refine ⟨_, ?_, hM⟩
  by_cases e : fl x y = t
  · rw [if_pos (by rw [e]), e]
    cases t <;> rfl
  · rw [if_neg (fun z => e (bI_inj.mp z))]
    cases h1 : fl x y <;> cases t <;> first | rfl | (exact absurd h1 e)
theorem mset_no (hP : PRM F w h tn) {x y : Int} (hx : rg x) (hy : rg y) (hi : inF w h x y = false) (t : Int32) : J_X5_set F (iI w) (iI h) mf (iI x) (iI y) t = some (0, 1, mf) := by
  obtain ⟨p1, p2, p3, p4, p5, p6⟩ := id hP
  unfold J_X5_set
  rw [isCell_eq (rg_lit (by omega) (by omega)) (rg_lit (by omega) (by omega)) hx hy, Option.bind_some, bI_if, hi]
  rfl
end CALLS
section STEPS
variable {F : Nat} {w h tn : Int} {plc hom gol : Int32} {stp : Int64} {exa hld : Int32} {err : UInt64} {ln wd rd : Int32} {kn : Nat → Int32} {kp : Int32} {fu fk : Nat → Int32} {cnt mde stn : Int32} {mv pl : Nat → Int32} {m_ln m_wd m_rd m_kp m_car m_hom m_gol m_hld : Int32} {m_err : UInt64} {m_isw m_mvs m_mde m_exa : Int32} {m_lst : Int64} {m_mf m_nm m_be : Nat → Int32}
theorem st_cell (hP : PRM F w h tn) (hR : RLc w h tn plc hom gol stp exa hld err ln wd rd kn kp fu fk cnt mde stn mv pl m_ln m_wd m_rd m_kp m_car m_hom m_gol m_hld m_err m_isw m_mvs m_mde m_exa m_lst m_mf m_nm m_be) (ou : Nat → Int64) (p0 p1 p2 : Int32) (t : Bool) (hp : p2 = bI t) :
    ∃ v u, J_L_cell_ F (h * 256).toNat kn (iI w) (iI h) kp (h * 32).toNat fu (h * 32).toNat fk cnt mde stn ou p0 p1 p2 = some v ∧ J_X5_cell F (iI w) (iI h) m_isw m_mf p0 p1 p2 = some u ∧ u.2.1 = v.1 ∧ (v.1 = 0 → v.2.2.2.2.2.2.2 0 = u.1.toInt64) ∧
      RLc w h tn plc hom gol stp exa hld err ln wd rd v.2.1 kp v.2.2.1 v.2.2.2.1 v.2.2.2.2.1 v.2.2.2.2.2.1 v.2.2.2.2.2.2.1 mv pl m_ln m_wd m_rd m_kp m_car m_hom m_gol m_hld m_err u.2.2.1 m_mvs m_mde m_exa m_lst u.2.2.2 m_nm m_be := by
  obtain ⟨q1, q2, q3, q4, q5, q6⟩ := id hP
  obtain ⟨c, o, g, l, b, r, k, fl, eb, hb, ⟨rfl, rfl, rfl, rfl, rfl, rfl, rfl, rfl, rfl⟩, ⟨rfl, rfl, rfl, rfl, rfl, rfl, rfl, rfl, rfl⟩, ⟨rfl, rfl, he⟩, hS, hW⟩ := hR
  obtain ⟨x, hx, rfl⟩ := as_iI p0
  obtain ⟨y, hy, rfl⟩ := as_iI p1
  subst hp
  unfold J_L_cell_ J_X4_cell J_X5_cell
  rw [hasCell_eq F (rg_lit (by omega) (by omega)) (rg_lit (by omega) (by omega)) hx hy, Option.bind_some, bI_if]
  cases hi : inF w h x y with
  | false =>
    rw [if_neg (by decide), Option.bind_some, mset_no hP hx hy hi, Option.bind_some]
    refine ⟨_, _, rfl, rfl, rfl, fun z => absurd z (show ¬ (1 : Int32) = 0 by decide), ?_⟩
    exact ⟨c, o, g, l, b, r, k, fl, eb, hb, ⟨rfl, rfl, rfl, rfl, rfl, rfl, rfl, rfl, rfl⟩, ⟨rfl, rfl, rfl, rfl, rfl, rfl, rfl, rfl, rfl⟩, ⟨rfl, rfl, he⟩, hS, hW⟩
  | true =>
    obtain ⟨kn', fu', fk', e1, hF', hK'⟩ := setCell_eq hP hS hi t
    obtain ⟨mf', e2, hM'⟩ := mset_eq hP hS.2.2.2.1 hi t
    have hS' : RS w h tn c o g l b r k (setF fl x y t) kn' fu' fk' mf' := ⟨hS.1, hS.2.1, hF', hM', hK'⟩
    unfold J_X3_drop
    rw [if_pos rfl, e1, e2]
    simp only [Option.bind_some, bI_if, if_true]
    cases fl x y != t with
    | false =>
      refine ⟨_, _, rfl, rfl, rfl, fun _ => rfl, ?_⟩
      exact ⟨c, o, g, l, b, r, k, _, eb, hb, ⟨rfl, rfl, rfl, rfl, rfl, rfl, rfl, rfl, rfl⟩, ⟨rfl, rfl, rfl, rfl, rfl, rfl, rfl, rfl, rfl⟩, ⟨rfl, rfl, he⟩, hS', Or.inl ⟨rfl, rfl, rfl, rfl⟩⟩
    | true =>
      refine ⟨_, _, rfl, rfl, rfl, fun _ => rfl, ?_⟩
      exact ⟨c, o, g, l, b, r, k, _, eb, hb, ⟨rfl, rfl, rfl, rfl, rfl, rfl, rfl, rfl, rfl⟩, ⟨rfl, rfl, rfl, rfl, rfl, rfl, rfl, rfl, rfl⟩, ⟨rfl, rfl, he⟩, hS', Or.inl ⟨rfl, rfl, rfl, rfl⟩⟩
theorem mcar_eq (ln wd rd isw : Int32) {x y z : Int} (hx : rg x) (hy : rg y) (hz : rg z) : J_X5_car F ln wd rd isw (iI x) (iI y) (iI z) = some (if (1 ≤ x ∧ x ≤ 7) ∧ (1 ≤ y ∧ y ≤ 5) ∧ (1 ≤ z ∧ z ≤ 4) then (1, 0, iI x, iI y, iI z, 0) else (0, 0, ln, wd, rd, isw)) := by
  unfold J_X5_car
  rw [show (1 : Int32) = iI 1 from rfl, show (7 : Int32) = iI 7 from rfl, show (5 : Int32) = iI 5 from rfl, show (4 : Int32) = iI 4 from rfl]
  by_cases a1 : x < 1
  · rw [if_pos ((iI_lt hx (rg_lit (by omega) (by omega))).mpr a1), if_neg (by omega)]
  · rw [if_neg (fun q => a1 ((iI_lt hx (rg_lit (by omega) (by omega))).mp q))]
    by_cases a2 : 7 < x
    · rw [if_pos ((iI_lt (rg_lit (by omega) (by omega)) hx).mpr a2), if_neg (by omega)]
    · rw [if_neg (fun q => a2 ((iI_lt (rg_lit (by omega) (by omega)) hx).mp q))]
      by_cases a3 : y < 1
      · rw [if_pos ((iI_lt hy (rg_lit (by omega) (by omega))).mpr a3), if_neg (by omega)]
      · rw [if_neg (fun q => a3 ((iI_lt hy (rg_lit (by omega) (by omega))).mp q))]
        by_cases a4 : 5 < y
        · rw [if_pos ((iI_lt (rg_lit (by omega) (by omega)) hy).mpr a4), if_neg (by omega)]
        · rw [if_neg (fun q => a4 ((iI_lt (rg_lit (by omega) (by omega)) hy).mp q))]
          by_cases a5 : z < 1
          · rw [if_pos ((iI_lt hz (rg_lit (by omega) (by omega))).mpr a5), if_neg (by omega)]
          · rw [if_neg (fun q => a5 ((iI_lt hz (rg_lit (by omega) (by omega))).mp q))]
            by_cases a6 : z ≤ 4
            · rw [if_pos ((iI_le hz (rg_lit (by omega) (by omega))).mpr a6), if_pos (by omega)]
            · rw [if_neg (fun q => a6 ((iI_le hz (rg_lit (by omega) (by omega))).mp q)), if_neg (by omega)]
theorem st_car (hP : PRM F w h tn) (hR : RLc w h tn plc hom gol stp exa hld err ln wd rd kn kp fu fk cnt mde stn mv pl m_ln m_wd m_rd m_kp m_car m_hom m_gol m_hld m_err m_isw m_mvs m_mde m_exa m_lst m_mf m_nm m_be) (p0 p1 p2 : Int32) :
    ∃ v u, J_X4_car F ln wd rd (h * 256).toNat kn cnt mde stn p0 p1 p2 = some v ∧ J_X5_car F m_ln m_wd m_rd m_isw p0 p1 p2 = some u ∧ v.1 = u.1 ∧
      RLc w h tn plc hom gol stp exa hld err v.2.1 v.2.2.1 v.2.2.2.1 v.2.2.2.2.1 kp fu fk v.2.2.2.2.2.1 v.2.2.2.2.2.2.1 v.2.2.2.2.2.2.2 mv pl u.2.2.1 u.2.2.2.1 u.2.2.2.2.1 m_kp m_car m_hom m_gol m_hld m_err u.2.2.2.2.2 m_mvs m_mde m_exa m_lst m_mf m_nm m_be := by
  obtain ⟨q1, q2, q3, q4, q5, q6⟩ := id hP
  obtain ⟨c, o, g, l, b, r, k, fl, eb, hb, ⟨rfl, rfl, rfl, rfl, rfl, rfl, rfl, rfl, rfl⟩, ⟨rfl, rfl, rfl, rfl, rfl, rfl, rfl, rfl, rfl⟩, ⟨rfl, rfl, he⟩, hS, hW⟩ := hR
  obtain ⟨x, hx, rfl⟩ := as_iI p0
  obtain ⟨y, hy, rfl⟩ := as_iI p1
  obtain ⟨z, hz, rfl⟩ := as_iI p2
  rw [mcar_eq _ _ _ _ hx hy hz]
  unfold J_X4_car
  rw [show (1 : Int32) = iI 1 from rfl, show (7 : Int32) = iI 7 from rfl, show (5 : Int32) = iI 5 from rfl, show (4 : Int32) = iI 4 from rfl, isFrom_eq F (rg_lit (by omega) (by omega)) hx (rg_lit (by omega) (by omega)), isFrom_eq F (rg_lit (by omega) (by omega)) hy (rg_lit (by omega) (by omega)), isFrom_eq F (rg_lit (by omega) (by omega)) hz (rg_lit (by omega) (by omega)), Option.bind_some, Option.bind_some, Option.bind_some, bI_if, bI_if, bI_if]
  have hold : RLc w h tn (iI (pN c)) (iI (pN o)) (iI (pN g)) m_lst (bI eb) (bI hb) m_err (iI l) (iI b) (iI r) kn (iI k) fu fk cnt mde stn mv pl (iI l) (iI b) (iI r) (iI k) (iI c) (iI o) (iI g) (bI hb) m_err m_isw m_mvs m_mde (bI eb) m_lst m_mf m_nm m_be := ⟨c, o, g, l, b, r, k, fl, eb, hb, ⟨rfl, rfl, rfl, rfl, rfl, rfl, rfl, rfl, rfl⟩, ⟨rfl, rfl, rfl, rfl, rfl, rfl, rfl, rfl, rfl⟩, ⟨rfl, rfl, he⟩, hS, hW⟩
  by_cases a1 : 1 ≤ x ∧ x ≤ 7
  · by_cases a2 : 1 ≤ y ∧ y ≤ 5
    · by_cases a3 : 1 ≤ z ∧ z ≤ 4
      · rw [if_pos (decide_eq_true a1), if_pos (decide_eq_true a2), if_pos (decide_eq_true a3), if_pos ⟨a1, a2, a3⟩]
        obtain ⟨kn', ef, hK'⟩ := forget_eq hP (okP w h (clF w h k fl) x y) kn
        unfold J_X0_build J_X3_drop
        rw [ef, Option.bind_some, Option.bind_some, Option.bind_some]
        refine ⟨_, _, rfl, rfl, rfl, ?_⟩
        exact ⟨c, o, g, x, y, z, k, fl, eb, hb, ⟨rfl, rfl, rfl, rfl, rfl, rfl, rfl, rfl, rfl⟩, ⟨rfl, rfl, rfl, rfl, rfl, rfl, rfl, rfl, rfl⟩, ⟨rfl, rfl, he⟩, ⟨hS.1, ⟨a1.1, a1.2, a2.1, a2.2, a3.1, a3.2, hS.2.1.2.2.2.2.2.2.1, hS.2.1.2.2.2.2.2.2.2⟩, hS.2.2.1, hS.2.2.2.1, hK'⟩, Or.inl ⟨rfl, rfl, rfl, rfl⟩⟩
      · rw [if_pos (decide_eq_true a1), if_pos (decide_eq_true a2), if_neg (by rw [decide_eq_true_iff]; exact a3), if_neg (fun q => a3 q.2.2)]
        exact ⟨_, _, rfl, rfl, rfl, hold⟩
    · rw [if_pos (decide_eq_true a1), if_neg (by rw [decide_eq_true_iff]; exact a2), if_neg (fun q => a2 q.2.1)]
      exact ⟨_, _, rfl, rfl, rfl, hold⟩
  · rw [if_neg (by rw [decide_eq_true_iff]; exact a1), if_neg (fun q => a1 q.1)]
    exact ⟨_, _, rfl, rfl, rfl, hold⟩
theorem st_keep (hP : PRM F w h tn) (hR : RLc w h tn plc hom gol stp exa hld err ln wd rd kn kp fu fk cnt mde stn mv pl m_ln m_wd m_rd m_kp m_car m_hom m_gol m_hld m_err m_isw m_mvs m_mde m_exa m_lst m_mf m_nm m_be) (p0 : Int32) :
    ∃ v u, J_X4_keep F (h * 256).toNat kn (iI w) (iI h) kp (h * 32).toNat fu (h * 32).toNat fk cnt mde stn p0 = some v ∧ J_X5_keep F m_kp m_isw p0 = some u ∧ v.1 = u.1 ∧
      RLc w h tn plc hom gol stp exa hld err ln wd rd v.2.1 v.2.2.1 fu v.2.2.2.1 v.2.2.2.2.1 v.2.2.2.2.2.1 v.2.2.2.2.2.2 mv pl m_ln m_wd m_rd u.2.2.1 m_car m_hom m_gol m_hld m_err u.2.2.2 m_mvs m_mde m_exa m_lst m_mf m_nm m_be := by
  obtain ⟨q1, q2, q3, q4, q5, q6⟩ := id hP
  obtain ⟨c, o, g, l, b, r, k, fl, eb, hb, ⟨rfl, rfl, rfl, rfl, rfl, rfl, rfl, rfl, rfl⟩, ⟨rfl, rfl, rfl, rfl, rfl, rfl, rfl, rfl, rfl⟩, ⟨rfl, rfl, he⟩, hS, hW⟩ := hR
  obtain ⟨x, hx, rfl⟩ := as_iI p0
  have hold : RLc w h tn (iI (pN c)) (iI (pN o)) (iI (pN g)) m_lst (bI eb) (bI hb) m_err (iI l) (iI b) (iI r) kn (iI k) fu fk cnt mde stn mv pl (iI l) (iI b) (iI r) (iI k) (iI c) (iI o) (iI g) (bI hb) m_err m_isw m_mvs m_mde (bI eb) m_lst m_mf m_nm m_be := ⟨c, o, g, l, b, r, k, fl, eb, hb, ⟨rfl, rfl, rfl, rfl, rfl, rfl, rfl, rfl, rfl⟩, ⟨rfl, rfl, rfl, rfl, rfl, rfl, rfl, rfl, rfl⟩, ⟨rfl, rfl, he⟩, hS, hW⟩
  unfold J_X4_keep J_X5_keep
  rw [show (0 : Int32) = iI 0 from rfl, show (3 : Int32) = iI 3 from rfl, isFrom_eq F (rg_lit (by omega) (by omega)) hx (rg_lit (by omega) (by omega)), Option.bind_some, ← kI0, bI_if, kI0]
  by_cases a1 : 0 ≤ x ∧ x ≤ 3
  · rw [if_pos (decide_eq_true a1), if_neg (fun q => by rw [iI_lt hx (rg_lit (by omega) (by omega))] at q; omega), if_pos ((iI_le hx (rg_lit (by omega) (by omega))).mpr a1.2)]
    obtain ⟨fk', e1, hF'⟩ := setKeep_eq (F := F) (n := (h * 32).toNat) q3 q5 (by omega) (by omega) q1 rfl a1.1 a1.2 hS.2.2.1.1 fk
    obtain ⟨kn', ef, hK'⟩ := forget_eq hP (okP w h (clF w h x fl) l b) kn
    unfold J_X3_drop
    rw [e1, Option.bind_some, ef, Option.bind_some, Option.bind_some]
    refine ⟨_, _, rfl, rfl, rfl, ?_⟩
    exact ⟨c, o, g, l, b, r, x, fl, eb, hb, ⟨rfl, rfl, rfl, rfl, rfl, rfl, rfl, rfl, rfl⟩, ⟨rfl, rfl, rfl, rfl, rfl, rfl, rfl, rfl, rfl⟩, ⟨rfl, rfl, he⟩, ⟨hS.1, ⟨hS.2.1.1, hS.2.1.2.1, hS.2.1.2.2.1, hS.2.1.2.2.2.1, hS.2.1.2.2.2.2.1, hS.2.1.2.2.2.2.2.1, a1.1, a1.2⟩, hF', hS.2.2.2.1, hK'⟩, Or.inl ⟨rfl, rfl, rfl, rfl⟩⟩
  · rw [if_neg (by rw [decide_eq_true_iff]; exact a1)]
    by_cases a2 : x < 0
    · rw [if_pos ((iI_lt hx (rg_lit (by omega) (by omega))).mpr a2)]
      exact ⟨_, _, rfl, rfl, rfl, hold⟩
    · rw [if_neg (fun q => a2 ((iI_lt hx (rg_lit (by omega) (by omega))).mp q)), if_neg (fun q => by rw [iI_le hx (rg_lit (by omega) (by omega))] at q; omega)]
      exact ⟨_, _, rfl, rfl, rfl, hold⟩
theorem hasHeading_eq {d : Int} (ht : tn = 1 ∨ tn = 2) (hd : rg d) : J_X1_hasHeading F (iI tn) (iI d) = some (bI (hdB tn d)) := by
  unfold J_X1_hasHeading hdB
  rw [show (7 : Int32) = iI 7 from rfl, show J_X4_isFrom F (0 : Int32) (iI d) (iI 7) = _ from isFrom_eq F (a := 0) (rg_lit (by omega) (by omega)) hd (rg_lit (by omega) (by omega)), Option.bind_some, bI_if]
  by_cases a1 : 0 ≤ d ∧ d ≤ 7
  · rw [if_pos (decide_eq_true a1)]
    rcases ht with rfl | rfl
    · rw [if_pos (show iI 1 = (1 : Int32) from rfl), bI_t (by omega)]
    · rw [if_neg (show ¬ iI 2 = (1 : Int32) by decide), iI_and1]
      by_cases a2 : d % 2 = 0
      · rw [if_pos (by rw [a2]; rfl), bI_t (by omega)]
      · rw [if_neg (fun q => a2 ((iI_eq0 (rg_lit (by omega) (by omega))).mp q)), bI_f (by omega)]
  · rw [if_neg (by rw [decide_eq_true_iff]; exact a1), bI_f (by omega)]
theorem st_stand (hP : PRM F w h tn) (hR : RLc w h tn plc hom gol stp exa hld err ln wd rd kn kp fu fk cnt mde stn mv pl m_ln m_wd m_rd m_kp m_car m_hom m_gol m_hld m_err m_isw m_mvs m_mde m_exa m_lst m_mf m_nm m_be) (m_ne : Nat → Int32) (p0 p1 p2 : Int32) :
    ∃ v u, J_X4_stand F plc hom ln wd (h * 256).toNat kn (iI w) (iI h) (iI tn) (h * 32).toNat fk cnt mde stn p0 p1 p2 = some v ∧ J_X5_stand F (iI w) (iI h) (bI (decide (tn = 2))) m_ln m_wd m_kp m_car m_hom m_isw m_mf m_ne p0 p1 p2 = some u ∧ v.1 = u.1 ∧
      RLc w h tn v.2.1 v.2.2.1 gol stp exa hld err ln wd rd v.2.2.2.1 kp fu fk v.2.2.2.2.1 v.2.2.2.2.2.1 v.2.2.2.2.2.2 mv pl m_ln m_wd m_rd m_kp u.2.2.1 u.2.2.2.1 m_gol m_hld m_err u.2.2.2.2.1 m_mvs m_mde m_exa m_lst m_mf m_nm m_be := by
  obtain ⟨q1, q2, q3, q4, q5, q6⟩ := id hP
  obtain ⟨c, o, g, l, b, r, k, fl, eb, hb, ⟨rfl, rfl, rfl, rfl, rfl, rfl, rfl, rfl, rfl⟩, ⟨rfl, rfl, rfl, rfl, rfl, rfl, rfl, rfl, rfl⟩, ⟨rfl, rfl, he⟩, hS, hW⟩ := hR
  obtain ⟨x, hx, rfl⟩ := as_iI p0
  obtain ⟨y, hy, rfl⟩ := as_iI p1
  obtain ⟨z, hz, rfl⟩ := as_iI p2
  have hold : RLc w h tn (iI (pN c)) (iI (pN o)) (iI (pN g)) m_lst (bI eb) (bI hb) m_err (iI l) (iI b) (iI r) kn (iI k) fu fk cnt mde stn mv pl (iI l) (iI b) (iI r) (iI k) (iI c) (iI o) (iI g) (bI hb) m_err m_isw m_mvs m_mde (bI eb) m_lst m_mf m_nm m_be := ⟨c, o, g, l, b, r, k, fl, eb, hb, ⟨rfl, rfl, rfl, rfl, rfl, rfl, rfl, rfl, rfl⟩, ⟨rfl, rfl, rfl, rfl, rfl, rfl, rfl, rfl, rfl⟩, ⟨rfl, rfl, he⟩, hS, hW⟩
  unfold J_X4_stand J_X5_stand
  rw [hasCell_eq F (rg_lit (by omega) (by omega)) (rg_lit (by omega) (by omega)) hx hy, isCell_eq (rg_lit (by omega) (by omega)) (rg_lit (by omega) (by omega)) hx hy, Option.bind_some, Option.bind_some, bI_if, bI_if]
  cases hi : inF w h x y with
  | false =>
    rw [if_neg (by decide), if_neg (by decide)]
    exact ⟨_, _, rfl, rfl, rfl, hold⟩
  | true =>
    rw [if_pos rfl, if_pos rfl, hasHeading_eq q6 hz, isHeading_eq q6 hz, Option.bind_some, Option.bind_some, bI_if, bI_if]
    cases hd : hdB tn z with
    | false =>
      rw [if_neg (by decide), if_neg (by decide)]
      exact ⟨_, _, rfl, rfl, rfl, hold⟩
    | true =>
      have hz3 : 0 ≤ z ∧ z < 8 ∧ (tn = 2 → z % 2 = 0) := of_decide_eq_true hd
      have hq := inF_iff.mp hi
      obtain ⟨⟨v1, v2, v3⟩, ⟨b1, b2, b3, b4, b5, b6, b7, b8⟩, hFd, hM, hK⟩ := id hS
      obtain ⟨ne', en, hN⟩ := findNear_eq (F := F) q3 q5 (by omega) (by omega) q1 hM m_ne
      obtain ⟨kn', ek, hK'⟩ := isFree_eq (F := F) (n := (h * 32).toNat) (nk := (h * 256).toNat) (by omega) q3 (by omega) q5 rfl rfl (hFd.clear q3 q5 b7 b8) b3 b4 b1 b2 (by omega) hK hi hz3.1 hz3.2.1
      have hmf := mFree_eq (F := F) (kp := k) q3 q5 (by omega) (by omega) (by omega) hN b7 b8 hi hz3.1 hz3.2.1 b3 b4 b1 b2
      have ep : J_X4_placeAt F (iI x) (iI y) (iI z) = some (iI (pcd x y z)) := placeAt_eq F x y z
      rw [if_pos rfl, if_pos rfl, ep, Option.bind_some, ek, Option.bind_some, en, Option.bind_some, hmf, Option.bind_some]
      dsimp only
      rw [bI_if, bI_if]
      have hS' : RS w h tn c o g l b r k fl kn' fu fk m_mf := ⟨hS.1, hS.2.1, hFd, hM, hK'⟩
      cases hok : okP w h (clF w h k fl) l b x y z with
      | false =>
        rw [if_neg (by decide), if_neg (by decide)]
        refine ⟨_, _, rfl, rfl, rfl, ?_⟩
        exact ⟨c, o, g, l, b, r, k, fl, eb, hb, ⟨rfl, rfl, rfl, rfl, rfl, rfl, rfl, rfl, rfl⟩, ⟨rfl, rfl, rfl, rfl, rfl, rfl, rfl, rfl, rfl⟩, ⟨rfl, rfl, he⟩, hS', hW⟩
      | true =>
        have hc : vN w h tn (nC x y z) := by
          obtain ⟨n1, n2, n3⟩ := n_nC hq.1 (by omega) hq.2.2.1 hz3.1 hz3.2.1
          exact ⟨by rw [n1, n2]; exact hi, by rw [n3]; exact hz3.2.2⟩
        have e1 : iI (pcd x y z) = iI (pN (nC x y z)) := by
          rw [pN_nC hq.1 (by omega) hq.2.2.1 hz3.1 hz3.2.1]
          rfl
        have e2 : iI (8 * (24 * y + x) + z) = iI ((nC x y z : Nat) : Int) := by
          rw [iC_nC hq.1 hq.2.2.1 hz3.1]
        unfold J_X3_drop
        rw [if_pos rfl, if_pos rfl, Option.bind_some, place_eq, Option.bind_some]
        refine ⟨_, _, rfl, rfl, rfl, ?_⟩
        exact ⟨nC x y z, nC x y z, g, l, b, r, k, fl, eb, hb, ⟨e1, e1, rfl, rfl, rfl, rfl, rfl, rfl, rfl⟩, ⟨e2, e2, rfl, rfl, rfl, rfl, rfl, rfl, rfl⟩, ⟨rfl, rfl, he⟩, ⟨⟨hc, hc, v3⟩, hS.2.1, hFd, hM, hK'⟩, Or.inl ⟨rfl, rfl, rfl, rfl⟩⟩
theorem st_space (hP : PRM F w h tn) (hR : RLc w h tn plc hom gol stp exa hld err ln wd rd kn kp fu fk cnt mde stn mv pl m_ln m_wd m_rd m_kp m_car m_hom m_gol m_hld m_err m_isw m_mvs m_mde m_exa m_lst m_mf m_nm m_be) (p0 p1 : Int32) :
    ∃ v u, J_X4_space F gol (iI w) (iI h) (h * 32).toNat fu cnt mde stn p0 p1 = some v ∧ J_X5_space F (iI w) (iI h) m_gol m_isw m_mf p0 p1 = some u ∧ v.1 = u.1 ∧
      RLc w h tn plc hom v.2.1 stp exa hld err ln wd rd kn kp fu fk v.2.2.1 v.2.2.2.1 v.2.2.2.2 mv pl m_ln m_wd m_rd m_kp m_car m_hom u.2.2.1 m_hld m_err u.2.2.2 m_mvs m_mde m_exa m_lst m_mf m_nm m_be := by
  obtain ⟨q1, q2, q3, q4, q5, q6⟩ := id hP
  obtain ⟨c, o, g, l, b, r, k, fl, eb, hb, ⟨rfl, rfl, rfl, rfl, rfl, rfl, rfl, rfl, rfl⟩, ⟨rfl, rfl, rfl, rfl, rfl, rfl, rfl, rfl, rfl⟩, ⟨rfl, rfl, he⟩, hS, hW⟩ := hR
  obtain ⟨x, hx, rfl⟩ := as_iI p0
  obtain ⟨y, hy, rfl⟩ := as_iI p1
  rcases space_eq (F := F) (tn := tn) (n := (h * 32).toNat) q3 q5 q2 q4 (by omega) rfl hS.2.2.1.1 hS.2.2.2.1 (g := g) cnt mde stn m_isw hx hy with ⟨a, e1, e2⟩ | ⟨a, g', hg', e1, e2⟩
  · rw [e1, e2]
    refine ⟨_, _, rfl, rfl, rfl, ?_⟩
    exact ⟨c, o, g, l, b, r, k, fl, eb, hb, ⟨rfl, rfl, rfl, rfl, rfl, rfl, rfl, rfl, rfl⟩, ⟨rfl, rfl, rfl, rfl, rfl, rfl, rfl, rfl, rfl⟩, ⟨rfl, rfl, he⟩, hS, hW⟩
  · rw [e1, e2]
    refine ⟨_, _, rfl, rfl, rfl, ?_⟩
    exact ⟨c, o, g', l, b, r, k, fl, eb, hb, ⟨rfl, rfl, rfl, rfl, rfl, rfl, rfl, rfl, rfl⟩, ⟨rfl, rfl, rfl, rfl, rfl, rfl, rfl, rfl, rfl⟩, ⟨rfl, rfl, he⟩, ⟨⟨hS.1.1, hS.1.2.1, hg'⟩, hS.2⟩, Or.inl ⟨rfl, rfl, rfl, rfl⟩⟩
theorem st_out (hP : PRM F w h tn) (hR : RLc w h tn plc hom gol stp exa hld err ln wd rd kn kp fu fk cnt mde stn mv pl m_ln m_wd m_rd m_kp m_car m_hom m_gol m_hld m_err m_isw m_mvs m_mde m_exa m_lst m_mf m_nm m_be) :
    ∃ v u, J_X4_out F hom gol cnt mde stn = some v ∧ J_X5_out F m_hom m_gol m_isw = some u ∧ v.1 = u.1 ∧
      RLc w h tn plc hom v.2.1 stp exa hld err ln wd rd kn kp fu fk v.2.2.1 v.2.2.2.1 v.2.2.2.2 mv pl m_ln m_wd m_rd m_kp m_car m_hom u.2.2.1 m_hld m_err u.2.2.2 m_mvs m_mde m_exa m_lst m_mf m_nm m_be := by
  obtain ⟨q1, q2, q3, q4, q5, q6⟩ := id hP
  obtain ⟨c, o, g, l, b, r, k, fl, eb, hb, ⟨rfl, rfl, rfl, rfl, rfl, rfl, rfl, rfl, rfl⟩, ⟨rfl, rfl, rfl, rfl, rfl, rfl, rfl, rfl, rfl⟩, ⟨rfl, rfl, he⟩, hS, hW⟩ := hR
  have b1 := inF_lt hS.1.2.1.1
  have b2 := inF_lt hS.1.2.2.1
  have hC := pN_eq q3 q5 hS.1.2.2.1 hS.1.2.1.1
  have hM : (iI (g : Int) = iI (o : Int)) ↔ g = o := by
    rw [iI_eq (rg_lit (by omega) (by omega)) (rg_lit (by omega) (by omega))]
    omega
  unfold J_X4_out J_X5_out
  by_cases e : g = o
  · rw [if_pos (hC.mpr e), if_pos (hM.mpr e)]
    refine ⟨_, _, rfl, rfl, rfl, ?_⟩
    exact ⟨c, o, g, l, b, r, k, fl, eb, hb, ⟨rfl, rfl, rfl, rfl, rfl, rfl, rfl, rfl, rfl⟩, ⟨rfl, rfl, rfl, rfl, rfl, rfl, rfl, rfl, rfl⟩, ⟨rfl, rfl, he⟩, hS, hW⟩
  · unfold J_X3_drop
    rw [if_neg (fun q => e (hC.mp q)), if_neg (fun q => e (hM.mp q)), Option.bind_some]
    refine ⟨_, _, rfl, rfl, rfl, ?_⟩
    exact ⟨c, o, o, l, b, r, k, fl, eb, hb, ⟨rfl, rfl, rfl, rfl, rfl, rfl, rfl, rfl, rfl⟩, ⟨rfl, rfl, rfl, rfl, rfl, rfl, rfl, rfl, rfl⟩, ⟨rfl, rfl, he⟩, ⟨⟨hS.1.1, hS.1.2.1, hS.1.2.1⟩, hS.2⟩, Or.inl ⟨rfl, rfl, rfl, rfl⟩⟩
end STEPS
