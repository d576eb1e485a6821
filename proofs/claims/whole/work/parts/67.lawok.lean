/-! the two objects made anew, and the law's end -/
def sdI (x : Int) : Int := if x < 1 then 16 else if x ≤ 24 then x else 16
theorem sdI_b (x : Int) : 1 ≤ sdI x ∧ sdI x ≤ 24 := by
  unfold sdI
  split
  · omega
  · split <;> omega
theorem okN_t {a : Int} {n : Nat} (ha : rg a) (h0 : 0 ≤ a) (h1 : a.toNat ≤ n) : okN (iI a) n = true := by
  have h2 : ¬ iI a < 0 := fun z => by rw [iI_lt0 ha] at z; omega
  unfold okN
  rw [iI_clamp ha, decide_eq_false h2, decide_eq_true h1]
  rfl
theorem sideOf_eq (F : Nat) {x : Int} (hx : rg x) : J_X4_sideOf F (iI x) = some (iI (sdI x)) := by
  unfold J_X4_sideOf sdI
  rw [show J_X4_isFrom F (1 : Int32) (iI x) (24 : Int32) = _ from isFrom_eq F (a := 1) (c := 24) (rg_lit (by omega) (by omega)) hx (rg_lit (by omega) (by omega)), Option.bind_some, bI_if]
  by_cases h1 : x < 1
  · rw [if_neg (by rw [decide_eq_true_iff]; omega), if_pos h1]
    rfl
  · rw [if_neg h1]
    by_cases h2 : x ≤ 24
    · rw [if_pos (decide_eq_true (show 1 ≤ x ∧ x ≤ 24 from ⟨by omega, h2⟩)), if_pos h2]
    · rw [if_neg (by rw [decide_eq_true_iff]; omega), if_neg h2]
      rfl
theorem init_x1 {F : Nat} {h : Int} (h0 : 1 ≤ h) (h1 : h ≤ 24) (p0 t : Int32) : J_X1_init F p0 (iI h) t = some (p0, iI h, t, 0, (h * 32).toNat, (h * 32).toNat) := by
  unfold J_X1_init
  rw [iI_shl5, gd_t (okN_t (rg_lit (by omega) (by omega)) (by omega) (by omega)), gd_t (okN_t (rg_lit (by omega) (by omega)) (by omega) (by omega)), iI_clamp (rg_lit (by omega) (by omega))]
theorem init_room {F : Nat} (h : Int) : J_X1_placeRoom F (iI h) = some (iI (h * 256)) := by
  unfold J_X1_placeRoom
  rw [iI_shl8]
theorem init_x0 {F : Nat} {h : Int} (h0 : 1 ≤ h) (h1 : h ≤ 24) : J_X0_init F (iI h) = some (1, 1, 1, (h * 256).toNat) := by
  unfold J_X0_init
  rw [init_room, Option.bind_some, gd_t (okN_t (rg_lit (by omega) (by omega)) (by omega) (by omega)), iI_clamp (rg_lit (by omega) (by omega))]
theorem init_x2 {F : Nat} {h : Int} (h0 : 1 ≤ h) (h1 : h ≤ 24) : J_X2_init F (iI (h * 256)) = some (0, (h * 256).toNat, (h * 256).toNat) := by
  unfold J_X2_init
  rw [gd_t (okN_t (rg_lit (by omega) (by omega)) (by omega) (by omega)), gd_t (okN_t (rg_lit (by omega) (by omega)) (by omega) (by omega)), iI_clamp (rg_lit (by omega) (by omega))]
theorem init_x3 {F : Nat} {h : Int} (h0 : 1 ≤ h) (h1 : h ≤ 24) : J_X3_init F (iI (h * 256)) = some (0, 0, 0, (h * 256).toNat, (h * 256).toNat) := by
  unfold J_X3_init
  rw [gd_t (okN_t (rg_lit (by omega) (by omega)) (by omega) (by omega)), gd_t (okN_t (rg_lit (by omega) (by omega)) (by omega) (by omega)), iI_clamp (rg_lit (by omega) (by omega))]
theorem init_both (F : Nat) (a b c : Int32) : ∃ w h tn : Int, (1 ≤ w ∧ w ≤ 24 ∧ 1 ≤ h ∧ h ≤ 24 ∧ (tn = 1 ∨ tn = 2)) ∧
    J_X4_init F a b c = some (0, 0, 0, 0, 0, 1, 0, 0, (h * 256).toNat, (h * 256).toNat, 1, 1, 1, (h * 256).toNat, iI w, iI h, iI tn, 0, (h * 32).toNat, (h * 32).toNat, 0, 0, 0, (h * 256).toNat, (h * 256).toNat) ∧
    J_X5_init F a b c = some (0, iI w, iI h, bI (decide (tn = 2)), 1, 1, 1, 0, 0, 0, 0, 1, 0, 0, 0, 0, 0, 0) := by
  obtain ⟨x, hx, rfl⟩ := as_iI a
  obtain ⟨y, hy, rfl⟩ := as_iI b
  have bx := sdI_b x
  have bY := sdI_b y
  refine ⟨sdI x, sdI y, if c = 4 then 2 else 1, ⟨bx.1, bx.2, bY.1, bY.2, ?_⟩, ?_, ?_⟩
  · split
    · exact Or.inr rfl
    · exact Or.inl rfl
  · unfold J_X4_init
    rw [sideOf_eq F hx, Option.bind_some, sideOf_eq F hy, Option.bind_some]
    by_cases e : c = 4
    · rw [if_pos e, if_pos e, init_x1 bY.1 bY.2, Option.bind_some]
      dsimp only
      rw [init_x0 bY.1 bY.2, Option.bind_some, init_room, Option.bind_some, init_x2 bY.1 bY.2, Option.bind_some, Option.bind_some, init_x3 bY.1 bY.2, Option.bind_some]
      rfl
    · rw [if_neg e, if_neg e, init_x1 bY.1 bY.2, Option.bind_some]
      dsimp only
      rw [init_x0 bY.1 bY.2, Option.bind_some, init_room, Option.bind_some, init_x2 bY.1 bY.2, Option.bind_some, Option.bind_some, init_x3 bY.1 bY.2, Option.bind_some]
      rfl
  · have e1 : (iI x < (1 : Int32)) ↔ x < 1 := iI_lt (b := 1) hx (rg_lit (by omega) (by omega))
    have e2 : (iI x ≤ (24 : Int32)) ↔ x ≤ 24 := iI_le (b := 24) hx (rg_lit (by omega) (by omega))
    have e3 : (iI y < (1 : Int32)) ↔ y < 1 := iI_lt (b := 1) hy (rg_lit (by omega) (by omega))
    have e4 : (iI y ≤ (24 : Int32)) ↔ y ≤ 24 := iI_le (b := 24) hy (rg_lit (by omega) (by omega))
    unfold J_X5_init sdI
    simp only [e1, e2, e3, e4]
    by_cases x1 : x < 1 <;> by_cases x2 : x ≤ 24 <;> by_cases y1 : y < 1 <;> by_cases y2 : y ≤ 24 <;> by_cases z0 : c = 4 <;> simp only [x1, x2, y1, y2, z0, if_true, if_false] <;> rfl
theorem lcell_ok {L : Nat} (xs : Nat → Int32) (hL : L ≤ 2051) (k : Nat) (hk : k ≤ 2) : ∃ a, J_L_cell L xs (iI k) = some a := by
  unfold J_L_cell
  rw [show Int32.ofNat L = iI L from nI_iI L]
  by_cases e : L ≤ k
  · rw [if_pos ((iI_le (rg_lit (by omega) (by omega)) (rg_lit (by omega) (by omega))).mpr (by omega))]
    exact ⟨_, rfl⟩
  · rw [if_neg (fun z => by rw [iI_le (rg_lit (by omega) (by omega)) (rg_lit (by omega) (by omega))] at z; omega), gd_in (rg_lit (by omega) (by omega)) (by omega) (by omega)]
    exact ⟨_, rfl⟩
theorem start_R {w h tn : Int} (hp : 1 ≤ w ∧ w ≤ 24 ∧ 1 ≤ h ∧ h ≤ 24 ∧ (tn = 1 ∨ tn = 2)) : RLc w h tn 0 0 0 0 0 1 0 1 1 1 (fun _ => 0) 0 (fun _ => 0) (fun _ => 0) 0 0 0 (fun _ => 0) (fun _ => 0) 1 1 1 0 0 0 0 1 0 0 0 0 0 0 (fun _ => 0) (fun _ => 0) (fun _ => 0) := by
  obtain ⟨p2, p3, p4, p5, p6⟩ := hp
  have hv : vN w h tn 0 := ⟨inF_iff.mpr ⟨by unfold nX; omega, by unfold nX; omega, by unfold nY; omega, by unfold nY; omega⟩, fun _ => rfl⟩
  refine ⟨0, 0, 0, 1, 1, 1, 0, fun _ _ => false, false, true, ⟨rfl, rfl, rfl, rfl, rfl, rfl, rfl, rfl, rfl⟩, ⟨rfl, rfl, rfl, rfl, rfl, rfl, rfl, rfl, rfl⟩, ⟨rfl, rfl, List.mem_cons_self⟩, ⟨⟨hv, hv, hv⟩, by omega, ⟨fun _ _ _ => rfl, fun x y _ => ?_⟩, fun _ _ _ => rfl, Kn.zero p3 p5 (fun _ _ => rfl)⟩, Or.inl ⟨rfl, rfl, rfl, rfl⟩⟩
  have : nkS w h 0 (fun _ _ => false) x y = 0 := by
    unfold nkS
    rw [sumZ_0 tmJ_b]
    intro j _
    unfold tmJ
    rw [Bool.and_false, Bool.false_and]
    rfl
  rw [this]
  rfl
theorem J_law_ok (L : Nat) (xs : Nat → Int32) (hL : L ≤ 2051) : J_law 10000 L xs = some 1 := by
  obtain ⟨a, ea⟩ := lcell_ok xs hL 0 (by omega)
  obtain ⟨b, eb⟩ := lcell_ok xs hL 1 (by omega)
  obtain ⟨c, ec⟩ := lcell_ok xs hL 2 (by omega)
  obtain ⟨w, h, tn, hp, e4, e5⟩ := init_both 10000 a b c
  have hP : PRM 10000 w h tn := ⟨by omega, hp⟩
  unfold J_law
  refine (bind_of (show J_L_cell L xs (0 : Int32) = some a from ea) _).trans ?_
  refine (bind_of (show J_L_cell L xs (1 : Int32) = some b from eb) _).trans ?_
  refine (bind_of (show J_L_cell L xs (2 : Int32) = some c from ec) _).trans ?_
  refine (bind_of e4 _).trans ?_
  refine (bind_of (show J_L_cell L xs (0 : Int32) = some a from ea) _).trans ?_
  refine (bind_of (show J_L_cell L xs (1 : Int32) = some b from eb) _).trans ?_
  refine (bind_of (show J_L_cell L xs (2 : Int32) = some c from ec) _).trans ?_
  refine (bind_of e5 _).trans ?_
  have hR := start_R hp
  exact law_all hP hL xs 600 599 3 0 0 0 0 0 1 0 0 _ _ 1 1 1 _ 0 _ _ 0 0 0 _ _ 0 1 1 1 0 0 0 0 1 0 0 0 0 0 0 _ _ _ _ _ _ _ _ _ (by omega) (by omega) (by omega) (by omega) hR
