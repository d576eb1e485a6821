set_option maxHeartbeats 4000000 in
set_option maxRecDepth 100000 in
theorem c_X5_moved (l : Launch) (D : va_G) (aM aMf aNm aBe aFa aCs aFr aRo aNe : Nat) (cMf cNm cBe cFa cCs cFr cRo cNe : ClassId) (cod : Int32) (w : Int32) (ht : Int32) (fou : Int32) (ln : Int32) (wd : Int32) (rd : Int32) (kp : Int32) (car : Int32) (hom : Int32) (gol : Int32) (hld : Int32) (err : UInt64) (isw : Int32) (mvs : Int32) (mde : Int32) (exa : Int32) (lst : Int64) (mf : Nat → Int32) (nm : Nat → Int32) (be : Nat → Int32) (fa : Nat → Int32) (cs : Nat → Int32) (fr : Nat → Int32) (ro : Nat → Int32) (ne : Nat → Int32) (p0 : Int32) (p1 : Int32) (tX tY sz F : Nat) (o : Int32) (hJ : J_X5_moved F w ht fou rd fr p0 p1 = some o) : Met l yX5_moved wsX5_moved rmX5_moved (va_Pc [.ref aM, .int p0, .int p1] (pcR D [(aM, .inr (6, [.int cod, .int w, .int ht, .int fou, .ref aMf, .int ln, .int wd, .int rd, .int kp, .int car, .int hom, .int gol, .int hld, .double err, .int isw, .int mvs, .int mde, .ref aNm, .ref aBe, .int exa, .long lst, .ref aFa, .ref aCs, .ref aFr, .ref aRo, .ref aNe])), (aMf, .inl (cMf, 576, .inl mf)), (aNm, .inl (cNm, 4608, .inl nm)), (aBe, .inl (cBe, 4608, .inl be)), (aFa, .inl (cFa, 4608, .inl fa)), (aCs, .inl (cCs, 4608, .inl cs)), (aFr, .inl (cFr, 4608, .inl fr)), (aRo, .inl (cRo, 4608, .inl ro)), (aNe, .inl (cNe, 576, .inl ne))] [(cMf, .boolean), (cNm, .int), (cBe, .int), (cFa, .int), (cCs, .int), (cFr, .boolean), (cRo, .int), (cNe, .int)] sz tX tY)) (qRi o (va_A [] sz)) 0 0 (va_A [] sz) := by
  refine Met.ofW (cc := cX5_moved) (maxL := 10) (ret := (some .int)) (by decide) rfl ?_
  intro p e s m args below meth c s₁ B hml hv
  obtain ⟨rfl, hsz, hP, hK, hST⟩ := hv
  have hx := B.exec
  have hb := B.bytes
  have hr := B.returns
  have hts := atoms_spec (ws := wsX5_moved) B.pre
  have hown : s.vm.findClass RX5 = some m.cls := findClass_of_methodNamed B.named
  have hlocks := B.notSynchronized
  subst hsz
  generalize hAe : va_A [] s.heap.size = A at hST ⊢
  have hA : ∀ q : Nat, s.heap.size ≤ q → A q := fun q h => by rw [← hAe]; exact Or.inr h
  have hS : va_S A s.heap s.heap [] := va_S.rf
  have hl := lv_entry ([.ref aM, .int p0, .int p1]) (n := 10) (Nat.le_of_ble_eq_true rfl)
  rw [lg_entry_eq]
  generalize (lg_sl ([.ref aM, .int p0, .int p1]) ++ List.replicate (10 - (lg_sl ([.ref aM, .int p0, .int p1])).length) Slot.unset).toArray = ls at hl ⊢
  have hl : lv_has ls 10 [(0, .ref aM), (1, .int p0), (2, .int p1)] := hl
  have iX5 : ∀ w ∈ wsX50, w ∈ wsX5_moved := fun w h => List.mem_cons_of_mem _ (List.mem_append_right _ h)
  have k_1 := hts (.fieldLink RX5 40 "ParkWaysModel" "free" "[Z") (List.mem_of_getElem? (i := 1) rfl)
  have k_2 := hts (.fieldLink RX5 20 "ParkWaysModel" "radius" "I") (List.mem_of_getElem? (i := 2) rfl)
  have k_3 := hts (.fieldLink RX5 55 "ParkWaysModel" "four" "Z") (List.mem_of_getElem? (i := 3) rfl)
  have L_63 : ∀ (y2_7 : Int32) (y5_10 : Int32) (y6_11 : Int32) (y7_12 : Int32) (kk_128 : Int32 → Int32 → Int32 → Option (Int32)) (hkk_128 : ∀ (H : Heap) (locs : List Loc) (x3_8 : Int32) (x4_9 : Int32) (x8_13 : Int32) (ls : Array Slot), kk_128 x3_8 x4_9 x8_13 = some o → va_P D vwCl [(aM, .inr (6, [.int cod, .int w, .int ht, .int fou, .ref aMf, .int ln, .int wd, .int rd, .int kp, .int car, .int hom, .int gol, .int hld, .double err, .int isw, .int mvs, .int mde, .ref aNm, .ref aBe, .int exa, .long lst, .ref aFa, .ref aCs, .ref aFr, .ref aRo, .ref aNe])), (aMf, .inl (cMf, 576, .inl mf)), (aNm, .inl (cNm, 4608, .inl nm)), (aBe, .inl (cBe, 4608, .inl be)), (aFa, .inl (cFa, 4608, .inl fa)), (aCs, .inl (cCs, 4608, .inl cs)), (aFr, .inl (cFr, 4608, .inl fr)), (aRo, .inl (cRo, 4608, .inl ro)), (aNe, .inl (cNe, 576, .inl ne))] H → va_S A s.heap H locs → lv_has ls 10 [(0, .ref aM), (2, .int y2_7), (3, .int x3_8), (4, .int x4_9), (5, .int y5_10), (6, .int y6_11), (7, .int y7_12)] → W p l e (headSpec wsX5_moved rmX5_moved).room s m [.ref aM, .int p0, .int p1].toArray below meth c H locs 0 0 (MQ below (qRi o A) [.ref aM, .int p0, .int p1].toArray s 0 0 A) (F0 m 128 ls [])) (fz : Nat) (H : Heap) (locs : List Loc) (x3_8 : Int32) (x4_9 : Int32) (x8_13 : Int32) (ls : Array Slot), J_X5_moved_L63 F w ht fr y5_10 y6_11 y7_12 kk_128 fz x3_8 x4_9 x8_13 = some o → va_P D vwCl [(aM, .inr (6, [.int cod, .int w, .int ht, .int fou, .ref aMf, .int ln, .int wd, .int rd, .int kp, .int car, .int hom, .int gol, .int hld, .double err, .int isw, .int mvs, .int mde, .ref aNm, .ref aBe, .int exa, .long lst, .ref aFa, .ref aCs, .ref aFr, .ref aRo, .ref aNe])), (aMf, .inl (cMf, 576, .inl mf)), (aNm, .inl (cNm, 4608, .inl nm)), (aBe, .inl (cBe, 4608, .inl be)), (aFa, .inl (cFa, 4608, .inl fa)), (aCs, .inl (cCs, 4608, .inl cs)), (aFr, .inl (cFr, 4608, .inl fr)), (aRo, .inl (cRo, 4608, .inl ro)), (aNe, .inl (cNe, 576, .inl ne))] H → va_S A s.heap H locs → lv_has ls 10 [(0, .ref aM), (2, .int y2_7), (3, .int x3_8), (4, .int x4_9), (5, .int y5_10), (6, .int y6_11), (7, .int y7_12), (8, .int x8_13)] → W p l e (headSpec wsX5_moved rmX5_moved).room s m [.ref aM, .int p0, .int p1].toArray below meth c H locs 0 0 (MQ below (qRi o A) [.ref aM, .int p0, .int p1].toArray s 0 0 A) (F0 m 63 ls []) := by
    intro y2_7 y5_10 y6_11 y7_12 kk_128 hkk_128 fz
    induction fz with
    | zero =>
      intro H locs x3_8 x4_9 x8_13 ls hJ
      rw [J_X5_moved_L63] at hJ
      cases hJ
    | succ fz ih =>
      intro H locs x3_8 x4_9 x8_13 ls hJ hP hS hl
      rw [J_X5_moved_L63] at hJ
      refine lv_iload hx hb dX5_moved_63 (lv_at hl 7 rfl) ?_
      refine lv_iload hx hb dX5_moved_65 (lv_at hl 6 rfl) ?_
      refine lv_icmp_ge (tgt := 128) hx hb dX5_moved_67 (by decide) (fun c_14 => ?_) (fun c_14 => ?_)
      · have hJ := j_t c_14 hJ
        exact hkk_128 H locs x3_8 x4_9 x8_13 ls hJ hP hS (lv_sub hl [0, 1, 2, 3, 4, 5, 6] rfl)
      · have hJ := j_f c_14 hJ
        refine lv_iload_n hx hb dX5_moved_70 rfl (lv_at hl 2 rfl) ?_
        refine lv_iload hx hb dX5_moved_71 (lv_at hl 5 rfl) ?_
        refine lv_iload hx hb dX5_moved_73 (lv_at hl 4 rfl) ?_
        obtain ⟨v_15, hv_15, hJ⟩ := j_b hJ
        refine ro_i (va_runS (As := [.int y5_10]) (rest := [.int y6_11, .int x3_8]) ⟨hx, hb, hml, hown, hts⟩ (c_X5_dx l D y5_10 tX tY H.size F v_15 hv_15) (va_cwS 1 hts gX5_moved_X5_dx rfl rfl rfl (by decide +kernel) ⟨Nat.le_of_ble_eq_true rfl, Nat.le_of_ble_eq_true rfl⟩) (preRS [.int y5_10] hP hK hS hA hST [] rfl [] rfl) rfl rfl hl.1 rfl (lv_room (Nat.le_of_ble_eq_true rfl)) dX5_moved_75 ⟨Nat.zero_le _, Nat.zero_le _⟩) hP hS hA (fun H locs hP hS => ?_)
        refine lv_imul hx hb dX5_moved_78 ?_
        refine lv_iadd hx hb dX5_moved_79 ?_
        refine lv_istore_n (lv' := [(3, .int (x3_8 + (y6_11 * v_15))), (0, .ref aM), (2, .int y2_7), (4, .int x4_9), (5, .int y5_10), (6, .int y6_11), (7, .int y7_12), (8, .int x8_13)]) hx hb dX5_moved_80 rfl hl (by decide) rfl (fun ls hl => ?_)
        refine lv_iload hx hb dX5_moved_81 (lv_at hl 3 rfl) ?_
        refine lv_iload hx hb dX5_moved_83 (lv_at hl 5 rfl) ?_
        refine lv_iload hx hb dX5_moved_85 (lv_at hl 4 rfl) ?_
        obtain ⟨v_16, hv_16, hJ⟩ := j_b hJ
        refine ro_i (va_runS (As := [.int y5_10]) (rest := [.int y6_11, .int x4_9]) ⟨hx, hb, hml, hown, hts⟩ (c_X5_dy l D y5_10 tX tY H.size F v_16 hv_16) (va_cwS 1 hts gX5_moved_X5_dy rfl rfl rfl (by decide +kernel) ⟨Nat.le_of_ble_eq_true rfl, Nat.le_of_ble_eq_true rfl⟩) (preRS [.int y5_10] hP hK hS hA hST [] rfl [] rfl) rfl rfl hl.1 rfl (lv_room (Nat.le_of_ble_eq_true rfl)) dX5_moved_87 ⟨Nat.zero_le _, Nat.zero_le _⟩) hP hS hA (fun H locs hP hS => ?_)
        refine lv_imul hx hb dX5_moved_90 ?_
        refine lv_iadd hx hb dX5_moved_91 ?_
        refine lv_istore (lv' := [(4, .int (x4_9 + (y6_11 * v_16))), (3, .int (x3_8 + (y6_11 * v_15))), (0, .ref aM), (2, .int y2_7), (5, .int y5_10), (6, .int y6_11), (7, .int y7_12), (8, .int x8_13)]) hx hb dX5_moved_92 hl (by decide) rfl (fun ls hl => ?_)
        refine lv_aload_n hx hb dX5_moved_94 rfl (lv_at hl 2 rfl) ?_
        refine lv_iload_n hx hb dX5_moved_95 rfl (lv_at hl 1 rfl) ?_
        refine lv_iload hx hb dX5_moved_96 (lv_at hl 0 rfl) ?_
        obtain ⟨v_17, hv_17, hJ⟩ := j_b hJ
        refine ro_i (va_runV (As := [.int (x3_8 + (y6_11 * v_15)), .int (x4_9 + (y6_11 * v_16))]) (rest := []) ⟨hx, hb, hml, hown, hts⟩ (c_X5_isCell l D aM aMf aNm aBe aFa aCs aFr aRo aNe cMf cNm cBe cFa cCs cFr cRo cNe cod w ht fou ln wd rd kp car hom gol hld err isw mvs mde exa lst mf nm be fa cs fr ro ne (x3_8 + (y6_11 * v_15)) (x4_9 + (y6_11 * v_16)) tX tY H.size F v_17 hv_17) (cwV 2 hts gX5_moved_X5_isCell rfl rfl rfl (by decide +kernel) ⟨Nat.le_of_ble_eq_true rfl, Nat.le_of_ble_eq_true rfl⟩) (preRV [.int (x3_8 + (y6_11 * v_15)), .int (x4_9 + (y6_11 * v_16))] hP hK hS hA hST [0, 1, 2, 3, 4, 5, 6, 7, 8] rfl [0, 1, 2, 3, 4, 5, 6, 7] rfl (ci := 6) (q0 := 0) rfl rfl) rfl rfl hl.1 rfl (lv_room (Nat.le_of_ble_eq_true rfl)) dX5_moved_98 ⟨Nat.zero_le _, Nat.zero_le _⟩) hP hS hA (fun H locs hP hS => ?_)
        refine lv_if_eq (tgt := 120) hx hb dX5_moved_101 (by decide) (fun c_18 => ?_) (fun c_18 => ?_)
        · have hJ := j_t c_18 hJ
          refine lv_iconst (v := (-1)) hx hb dX5_moved_120 (by decide) ?_
          have ho := Option.some.inj hJ
          exact W.iret (v := (-1 : Int32)) hx hb hr (fun t ht hW => ⟨⟨_, (), rfl, ho, trivial⟩, hS.F ht⟩) hS.2.2 dX5_moved_121
        · have hJ := j_f c_18 hJ
          refine lv_aload_n hx hb dX5_moved_104 rfl (lv_at hl 2 rfl) ?_
          refine va_get (D := D) (ci := 6) (v := .ref aFr) (C := RX5) (T := TX5) (N := 26) hx hb hts iX5 hown hK hP 0 rfl rfl 23 (by decide) k_1 (fun _ h9 => h9) rfl dX5_moved_105 ?_
          refine lv_iload_n hx hb dX5_moved_108 rfl (lv_at hl 1 rfl) ?_
          refine lv_iload hx hb dX5_moved_109 (lv_at hl 0 rfl) ?_
          refine lv_iload hx hb dX5_moved_111 (lv_at hl 4 rfl) ?_
          obtain ⟨v_19, hv_19, hJ⟩ := j_b hJ
          refine ro_i (va_runS (As := [.int (x3_8 + (y6_11 * v_15)), .int (x4_9 + (y6_11 * v_16)), .int y5_10]) (rest := [.ref aFr]) ⟨hx, hb, hml, hown, hts⟩ (c_X5_place l D (x3_8 + (y6_11 * v_15)) (x4_9 + (y6_11 * v_16)) y5_10 tX tY H.size F v_19 hv_19) (va_cwS 3 hts gX5_moved_X5_place rfl rfl rfl (by decide +kernel) ⟨Nat.le_of_ble_eq_true rfl, Nat.le_of_ble_eq_true rfl⟩) (preRS [.int (x3_8 + (y6_11 * v_15)), .int (x4_9 + (y6_11 * v_16)), .int y5_10] hP hK hS hA hST [] rfl [] rfl) rfl rfl hl.1 rfl (lv_room (Nat.le_of_ble_eq_true rfl)) dX5_moved_113 ⟨Nat.zero_le _, Nat.zero_le _⟩) hP hS hA (fun H locs hP hS => ?_)
          obtain ⟨h_20, hJ⟩ := g_in hJ
          refine va_zald hx hb hK hP 6 5 rfl rfl h_20 dX5_moved_116 ?_
          refine lv_if_ne (tgt := 122) hx hb dX5_moved_117 (by decide) (fun c_21 => ?_) (fun c_21 => ?_)
          · have hJ := j_f c_21 hJ
            refine lv_iinc (v := (x8_13 + (1 : Int32))) (lv' := [(8, .int (x8_13 + (1 : Int32))), (4, .int (x4_9 + (y6_11 * v_16))), (3, .int (x3_8 + (y6_11 * v_15))), (0, .ref aM), (2, .int y2_7), (5, .int y5_10), (6, .int y6_11), (7, .int y7_12)]) hx hb dX5_moved_122 hl (k := 7) rfl rfl (by decide) rfl (fun ls hl => ?_)
            refine lv_goto (tgt := 63) hx hb dX5_moved_125 (by decide) ?_
            exact ih H locs (x3_8 + (y6_11 * v_15)) (x4_9 + (y6_11 * v_16)) (x8_13 + (1 : Int32)) ls hJ hP hS (lv_sub hl [3, 4, 2, 1, 5, 6, 7, 0] rfl)
          · have hJ := j_t c_21 hJ
            refine lv_iconst (v := (-1)) hx hb dX5_moved_120 (by decide) ?_
            have ho := Option.some.inj hJ
            exact W.iret (v := (-1 : Int32)) hx hb hr (fun t ht hW => ⟨⟨_, (), rfl, ho, trivial⟩, hS.F ht⟩) hS.2.2 dX5_moved_121
  have L_204 : ∀ (y5_33 : Int32) (y6_34 : Int32) (y7_35 : Int32) (kk_269 : Int32 → Int32 → Int32 → Option (Int32)) (hkk_269 : ∀ (H : Heap) (locs : List Loc) (x3_31 : Int32) (x4_32 : Int32) (x9_36 : Int32) (ls : Array Slot), kk_269 x3_31 x4_32 x9_36 = some o → va_P D vwCl [(aM, .inr (6, [.int cod, .int w, .int ht, .int fou, .ref aMf, .int ln, .int wd, .int rd, .int kp, .int car, .int hom, .int gol, .int hld, .double err, .int isw, .int mvs, .int mde, .ref aNm, .ref aBe, .int exa, .long lst, .ref aFa, .ref aCs, .ref aFr, .ref aRo, .ref aNe])), (aMf, .inl (cMf, 576, .inl mf)), (aNm, .inl (cNm, 4608, .inl nm)), (aBe, .inl (cBe, 4608, .inl be)), (aFa, .inl (cFa, 4608, .inl fa)), (aCs, .inl (cCs, 4608, .inl cs)), (aFr, .inl (cFr, 4608, .inl fr)), (aRo, .inl (cRo, 4608, .inl ro)), (aNe, .inl (cNe, 576, .inl ne))] H → va_S A s.heap H locs → lv_has ls 10 [(3, .int x3_31), (4, .int x4_32), (5, .int y5_33)] → W p l e (headSpec wsX5_moved rmX5_moved).room s m [.ref aM, .int p0, .int p1].toArray below meth c H locs 0 0 (MQ below (qRi o A) [.ref aM, .int p0, .int p1].toArray s 0 0 A) (F0 m 269 ls [])) (fz : Nat) (H : Heap) (locs : List Loc) (x3_31 : Int32) (x4_32 : Int32) (x9_36 : Int32) (ls : Array Slot), J_X5_moved_L204 F w ht fr y5_33 y6_34 y7_35 kk_269 fz x3_31 x4_32 x9_36 = some o → va_P D vwCl [(aM, .inr (6, [.int cod, .int w, .int ht, .int fou, .ref aMf, .int ln, .int wd, .int rd, .int kp, .int car, .int hom, .int gol, .int hld, .double err, .int isw, .int mvs, .int mde, .ref aNm, .ref aBe, .int exa, .long lst, .ref aFa, .ref aCs, .ref aFr, .ref aRo, .ref aNe])), (aMf, .inl (cMf, 576, .inl mf)), (aNm, .inl (cNm, 4608, .inl nm)), (aBe, .inl (cBe, 4608, .inl be)), (aFa, .inl (cFa, 4608, .inl fa)), (aCs, .inl (cCs, 4608, .inl cs)), (aFr, .inl (cFr, 4608, .inl fr)), (aRo, .inl (cRo, 4608, .inl ro)), (aNe, .inl (cNe, 576, .inl ne))] H → va_S A s.heap H locs → lv_has ls 10 [(0, .ref aM), (3, .int x3_31), (4, .int x4_32), (5, .int y5_33), (6, .int y6_34), (7, .int y7_35), (9, .int x9_36)] → W p l e (headSpec wsX5_moved rmX5_moved).room s m [.ref aM, .int p0, .int p1].toArray below meth c H locs 0 0 (MQ below (qRi o A) [.ref aM, .int p0, .int p1].toArray s 0 0 A) (F0 m 204 ls []) := by
    intro y5_33 y6_34 y7_35 kk_269 hkk_269 fz
    induction fz with
    | zero =>
      intro H locs x3_31 x4_32 x9_36 ls hJ
      rw [J_X5_moved_L204] at hJ
      cases hJ
    | succ fz ih =>
      intro H locs x3_31 x4_32 x9_36 ls hJ hP hS hl
      rw [J_X5_moved_L204] at hJ
      refine lv_iload hx hb dX5_moved_204 (lv_at hl 6 rfl) ?_
      refine lv_iload hx hb dX5_moved_206 (lv_at hl 5 rfl) ?_
      refine lv_icmp_ge (tgt := 269) hx hb dX5_moved_208 (by decide) (fun c_37 => ?_) (fun c_37 => ?_)
      · have hJ := j_t c_37 hJ
        exact hkk_269 H locs x3_31 x4_32 x9_36 ls hJ hP hS (lv_sub hl [1, 2, 3] rfl)
      · have hJ := j_f c_37 hJ
        refine lv_iload_n hx hb dX5_moved_211 rfl (lv_at hl 1 rfl) ?_
        refine lv_iload hx hb dX5_moved_212 (lv_at hl 4 rfl) ?_
        refine lv_iload hx hb dX5_moved_214 (lv_at hl 3 rfl) ?_
        obtain ⟨v_38, hv_38, hJ⟩ := j_b hJ
        refine ro_i (va_runS (As := [.int y5_33]) (rest := [.int y6_34, .int x3_31]) ⟨hx, hb, hml, hown, hts⟩ (c_X5_dx l D y5_33 tX tY H.size F v_38 hv_38) (va_cwS 1 hts gX5_moved_X5_dx rfl rfl rfl (by decide +kernel) ⟨Nat.le_of_ble_eq_true rfl, Nat.le_of_ble_eq_true rfl⟩) (preRS [.int y5_33] hP hK hS hA hST [] rfl [] rfl) rfl rfl hl.1 rfl (lv_room (Nat.le_of_ble_eq_true rfl)) dX5_moved_216 ⟨Nat.zero_le _, Nat.zero_le _⟩) hP hS hA (fun H locs hP hS => ?_)
        refine lv_imul hx hb dX5_moved_219 ?_
        refine lv_iadd hx hb dX5_moved_220 ?_
        refine lv_istore_n (lv' := [(3, .int (x3_31 + (y6_34 * v_38))), (0, .ref aM), (4, .int x4_32), (5, .int y5_33), (6, .int y6_34), (7, .int y7_35), (9, .int x9_36)]) hx hb dX5_moved_221 rfl hl (by decide) rfl (fun ls hl => ?_)
        refine lv_iload hx hb dX5_moved_222 (lv_at hl 2 rfl) ?_
        refine lv_iload hx hb dX5_moved_224 (lv_at hl 4 rfl) ?_
        refine lv_iload hx hb dX5_moved_226 (lv_at hl 3 rfl) ?_
        obtain ⟨v_39, hv_39, hJ⟩ := j_b hJ
        refine ro_i (va_runS (As := [.int y5_33]) (rest := [.int y6_34, .int x4_32]) ⟨hx, hb, hml, hown, hts⟩ (c_X5_dy l D y5_33 tX tY H.size F v_39 hv_39) (va_cwS 1 hts gX5_moved_X5_dy rfl rfl rfl (by decide +kernel) ⟨Nat.le_of_ble_eq_true rfl, Nat.le_of_ble_eq_true rfl⟩) (preRS [.int y5_33] hP hK hS hA hST [] rfl [] rfl) rfl rfl hl.1 rfl (lv_room (Nat.le_of_ble_eq_true rfl)) dX5_moved_228 ⟨Nat.zero_le _, Nat.zero_le _⟩) hP hS hA (fun H locs hP hS => ?_)
        refine lv_imul hx hb dX5_moved_231 ?_
        refine lv_iadd hx hb dX5_moved_232 ?_
        refine lv_istore (lv' := [(4, .int (x4_32 + (y6_34 * v_39))), (3, .int (x3_31 + (y6_34 * v_38))), (0, .ref aM), (5, .int y5_33), (6, .int y6_34), (7, .int y7_35), (9, .int x9_36)]) hx hb dX5_moved_233 hl (by decide) rfl (fun ls hl => ?_)
        refine lv_aload_n hx hb dX5_moved_235 rfl (lv_at hl 2 rfl) ?_
        refine lv_iload_n hx hb dX5_moved_236 rfl (lv_at hl 1 rfl) ?_
        refine lv_iload hx hb dX5_moved_237 (lv_at hl 0 rfl) ?_
        obtain ⟨v_40, hv_40, hJ⟩ := j_b hJ
        refine ro_i (va_runV (As := [.int (x3_31 + (y6_34 * v_38)), .int (x4_32 + (y6_34 * v_39))]) (rest := []) ⟨hx, hb, hml, hown, hts⟩ (c_X5_isCell l D aM aMf aNm aBe aFa aCs aFr aRo aNe cMf cNm cBe cFa cCs cFr cRo cNe cod w ht fou ln wd rd kp car hom gol hld err isw mvs mde exa lst mf nm be fa cs fr ro ne (x3_31 + (y6_34 * v_38)) (x4_32 + (y6_34 * v_39)) tX tY H.size F v_40 hv_40) (cwV 2 hts gX5_moved_X5_isCell rfl rfl rfl (by decide +kernel) ⟨Nat.le_of_ble_eq_true rfl, Nat.le_of_ble_eq_true rfl⟩) (preRV [.int (x3_31 + (y6_34 * v_38)), .int (x4_32 + (y6_34 * v_39))] hP hK hS hA hST [0, 1, 2, 3, 4, 5, 6, 7, 8] rfl [0, 1, 2, 3, 4, 5, 6, 7] rfl (ci := 6) (q0 := 0) rfl rfl) rfl rfl hl.1 rfl (lv_room (Nat.le_of_ble_eq_true rfl)) dX5_moved_239 ⟨Nat.zero_le _, Nat.zero_le _⟩) hP hS hA (fun H locs hP hS => ?_)
        refine lv_if_eq (tgt := 261) hx hb dX5_moved_242 (by decide) (fun c_41 => ?_) (fun c_41 => ?_)
        · have hJ := j_t c_41 hJ
          refine lv_iconst (v := (-1)) hx hb dX5_moved_261 (by decide) ?_
          have ho := Option.some.inj hJ
          exact W.iret (v := (-1 : Int32)) hx hb hr (fun t ht hW => ⟨⟨_, (), rfl, ho, trivial⟩, hS.F ht⟩) hS.2.2 dX5_moved_262
        · have hJ := j_f c_41 hJ
          refine lv_aload_n hx hb dX5_moved_245 rfl (lv_at hl 2 rfl) ?_
          refine va_get (D := D) (ci := 6) (v := .ref aFr) (C := RX5) (T := TX5) (N := 26) hx hb hts iX5 hown hK hP 0 rfl rfl 23 (by decide) k_1 (fun _ h9 => h9) rfl dX5_moved_246 ?_
          refine lv_iload_n hx hb dX5_moved_249 rfl (lv_at hl 1 rfl) ?_
          refine lv_iload hx hb dX5_moved_250 (lv_at hl 0 rfl) ?_
          refine lv_iload hx hb dX5_moved_252 (lv_at hl 3 rfl) ?_
          obtain ⟨v_42, hv_42, hJ⟩ := j_b hJ
          refine ro_i (va_runS (As := [.int (x3_31 + (y6_34 * v_38)), .int (x4_32 + (y6_34 * v_39)), .int y5_33]) (rest := [.ref aFr]) ⟨hx, hb, hml, hown, hts⟩ (c_X5_place l D (x3_31 + (y6_34 * v_38)) (x4_32 + (y6_34 * v_39)) y5_33 tX tY H.size F v_42 hv_42) (va_cwS 3 hts gX5_moved_X5_place rfl rfl rfl (by decide +kernel) ⟨Nat.le_of_ble_eq_true rfl, Nat.le_of_ble_eq_true rfl⟩) (preRS [.int (x3_31 + (y6_34 * v_38)), .int (x4_32 + (y6_34 * v_39)), .int y5_33] hP hK hS hA hST [] rfl [] rfl) rfl rfl hl.1 rfl (lv_room (Nat.le_of_ble_eq_true rfl)) dX5_moved_254 ⟨Nat.zero_le _, Nat.zero_le _⟩) hP hS hA (fun H locs hP hS => ?_)
          obtain ⟨h_43, hJ⟩ := g_in hJ
          refine va_zald hx hb hK hP 6 5 rfl rfl h_43 dX5_moved_257 ?_
          refine lv_if_ne (tgt := 263) hx hb dX5_moved_258 (by decide) (fun c_44 => ?_) (fun c_44 => ?_)
          · have hJ := j_f c_44 hJ
            refine lv_iinc (v := (x9_36 + (1 : Int32))) (lv' := [(9, .int (x9_36 + (1 : Int32))), (4, .int (x4_32 + (y6_34 * v_39))), (3, .int (x3_31 + (y6_34 * v_38))), (0, .ref aM), (5, .int y5_33), (6, .int y6_34), (7, .int y7_35)]) hx hb dX5_moved_263 hl (k := 6) rfl rfl (by decide) rfl (fun ls hl => ?_)
            refine lv_goto (tgt := 204) hx hb dX5_moved_266 (by decide) ?_
            exact ih H locs (x3_31 + (y6_34 * v_38)) (x4_32 + (y6_34 * v_39)) (x9_36 + (1 : Int32)) ls hJ hP hS (lv_sub hl [3, 2, 1, 4, 5, 6, 0] rfl)
          · have hJ := j_t c_44 hJ
            refine lv_iconst (v := (-1)) hx hb dX5_moved_261 (by decide) ?_
            have ho := Option.some.inj hJ
            exact W.iret (v := (-1 : Int32)) hx hb hr (fun t ht hW => ⟨⟨_, (), rfl, ho, trivial⟩, hS.F ht⟩) hS.2.2 dX5_moved_262
  unfold J_X5_moved at hJ
  refine lv_aload_n hx hb dX5_moved_0 rfl (lv_at hl 0 rfl) ?_
  refine va_get (D := D) (ci := 6) (v := .ref aFr) (C := RX5) (T := TX5) (N := 26) hx hb hts iX5 hown hK hP 0 rfl rfl 23 (by decide) k_1 (fun _ h9 => h9) rfl dX5_moved_1 ?_
  refine lv_iload_n hx hb dX5_moved_4 rfl (lv_at hl 1 rfl) ?_
  obtain ⟨h_1, hJ⟩ := g_in hJ
  refine va_zald hx hb hK hP 6 5 rfl rfl h_1 dX5_moved_5 ?_
  refine lv_if_ne (tgt := 11) hx hb dX5_moved_6 (by decide) (fun c_2 => ?_) (fun c_2 => ?_)
  · have hJ := j_f c_2 hJ
    refine lv_iload_n hx hb dX5_moved_11 rfl (lv_at hl 1 rfl) ?_
    obtain ⟨v_3, hv_3, hJ⟩ := j_b hJ
    refine ro_i (va_runS (As := [.int p0]) (rest := []) ⟨hx, hb, hml, hown, hts⟩ (c_X5_xOf l D p0 tX tY s.heap.size F v_3 hv_3) (va_cwS 1 hts gX5_moved_X5_xOf rfl rfl rfl (by decide +kernel) ⟨Nat.le_of_ble_eq_true rfl, Nat.le_of_ble_eq_true rfl⟩) (preRS [.int p0] hP hK hS hA hST [] rfl [] rfl) rfl rfl hl.1 rfl (lv_room (Nat.le_of_ble_eq_true rfl)) dX5_moved_12 ⟨Nat.zero_le _, Nat.zero_le _⟩) hP hS hA (fun H locs hP hS => ?_)
    refine lv_istore_n (lv' := [(3, .int v_3), (0, .ref aM), (1, .int p0), (2, .int p1)]) hx hb dX5_moved_15 rfl hl (by decide) rfl (fun ls hl => ?_)
    refine lv_iload_n hx hb dX5_moved_16 rfl (lv_at hl 2 rfl) ?_
    obtain ⟨v_4, hv_4, hJ⟩ := j_b hJ
    refine ro_i (va_runS (As := [.int p0]) (rest := []) ⟨hx, hb, hml, hown, hts⟩ (c_X5_yOf l D p0 tX tY H.size F v_4 hv_4) (va_cwS 1 hts gX5_moved_X5_yOf rfl rfl rfl (by decide +kernel) ⟨Nat.le_of_ble_eq_true rfl, Nat.le_of_ble_eq_true rfl⟩) (preRS [.int p0] hP hK hS hA hST [] rfl [] rfl) rfl rfl hl.1 rfl (lv_room (Nat.le_of_ble_eq_true rfl)) dX5_moved_17 ⟨Nat.zero_le _, Nat.zero_le _⟩) hP hS hA (fun H locs hP hS => ?_)
    refine lv_istore (lv' := [(4, .int v_4), (3, .int v_3), (0, .ref aM), (1, .int p0), (2, .int p1)]) hx hb dX5_moved_20 hl (by decide) rfl (fun ls hl => ?_)
    refine lv_iload_n hx hb dX5_moved_22 rfl (lv_at hl 3 rfl) ?_
    refine lv_bipush (v := 8) hx hb dX5_moved_23 (by decide) ?_
    refine lv_irem hx hb dX5_moved_25 (by decide) ?_
    refine lv_istore (lv' := [(5, .int (p0 - p0 / (8 : Int32) * (8 : Int32))), (4, .int v_4), (3, .int v_3), (0, .ref aM), (1, .int p0), (2, .int p1)]) hx hb dX5_moved_26 hl (by decide) rfl (fun ls hl => ?_)
    refine lv_iload_n hx hb dX5_moved_28 rfl (lv_at hl 5 rfl) ?_
    refine lv_iconst (v := 1) hx hb dX5_moved_29 (by decide) ?_
    refine lv_icmp_eq (tgt := 38) hx hb dX5_moved_30 (by decide) (fun c_5 => ?_) (fun c_5 => ?_)
    · have hJ := j_t c_5 hJ
      refine lv_iconst (v := (-1)) hx hb dX5_moved_38 (by decide) ?_
      refine lv_goto (tgt := 43) hx hb dX5_moved_39 (by decide) ?_
      refine lv_istore (lv' := [(6, .int (-1 : Int32)), (5, .int (p0 - p0 / (8 : Int32) * (8 : Int32))), (4, .int v_4), (3, .int v_3), (0, .ref aM), (1, .int p0), (2, .int p1)]) hx hb dX5_moved_43 hl (by decide) rfl (fun ls hl => ?_)
      refine lv_iload_n hx hb dX5_moved_45 rfl (lv_at hl 6 rfl) ?_
      refine lv_iconst (v := 2) hx hb dX5_moved_46 (by decide) ?_
      refine lv_icmp_ge (tgt := 54) hx hb dX5_moved_47 (by decide) (fun c_6 => ?_) (fun c_6 => ?_)
      · have hJ := j_t c_6 hJ
        refine lv_aload_n hx hb dX5_moved_54 rfl (lv_at hl 4 rfl) ?_
        refine va_get (D := D) (ci := 6) (v := .int rd) (C := RX5) (T := TX5) (N := 26) hx hb hts iX5 hown hK hP 0 rfl rfl 7 (by decide) k_2 (fun _ h9 => h9) rfl dX5_moved_55 ?_
        refine lv_istore (lv' := [(7, .int rd), (6, .int (-1 : Int32)), (5, .int (p0 - p0 / (8 : Int32) * (8 : Int32))), (4, .int v_4), (3, .int v_3), (0, .ref aM), (1, .int p0), (2, .int p1)]) hx hb dX5_moved_58 hl (by decide) rfl (fun ls hl => ?_)
        refine lv_iconst (v := 0) hx hb dX5_moved_60 (by decide) ?_
        refine lv_istore (lv' := [(8, .int (0 : Int32)), (7, .int rd), (6, .int (-1 : Int32)), (5, .int (p0 - p0 / (8 : Int32) * (8 : Int32))), (4, .int v_4), (3, .int v_3), (0, .ref aM), (1, .int p0), (2, .int p1)]) hx hb dX5_moved_61 hl (by decide) rfl (fun ls hl => ?_)
        refine L_63 p1 (p0 - p0 / (8 : Int32) * (8 : Int32)) (-1 : Int32) rd _ ?_ F H locs v_3 v_4 (0 : Int32) ls hJ hP hS (lv_sub hl [6, 8, 5, 4, 3, 2, 1, 0] rfl)
        · intro H locs x3_22 x4_23 x8_24 ls hJ hP hS hl
          refine lv_iload_n hx hb dX5_moved_128 rfl (lv_at hl 1 rfl) ?_
          refine lv_iconst (v := 2) hx hb dX5_moved_129 (by decide) ?_
          refine lv_icmp_ge (tgt := 142) hx hb dX5_moved_130 (by decide) (fun c_25 => ?_) (fun c_25 => ?_)
          · have hJ := j_t c_25 hJ
            refine lv_aload_n hx hb dX5_moved_142 rfl (lv_at hl 0 rfl) ?_
            refine va_get (D := D) (ci := 6) (v := .int fou) (C := RX5) (T := TX5) (N := 26) hx hb hts iX5 hown hK hP 0 rfl rfl 3 (by decide) k_3 (fun _ h9 => h9) rfl dX5_moved_143 ?_
            refine lv_if_eq (tgt := 153) hx hb dX5_moved_146 (by decide) (fun c_26 => ?_) (fun c_26 => ?_)
            · have hJ := j_t c_26 hJ
              refine lv_iconst (v := 1) hx hb dX5_moved_153 (by decide) ?_
              refine lv_istore (lv' := [(8, .int (1 : Int32)), (0, .ref aM), (2, .int p1), (3, .int x3_22), (4, .int x4_23), (5, .int (p0 - p0 / (8 : Int32) * (8 : Int32))), (6, .int (-1 : Int32)), (7, .int rd)]) hx hb dX5_moved_154 hl (by decide) rfl (fun ls hl => ?_)
              refine lv_iload_n hx hb dX5_moved_156 rfl (lv_at hl 2 rfl) ?_
              refine lv_iconst (v := 2) hx hb dX5_moved_157 (by decide) ?_
              refine lv_irem hx hb dX5_moved_158 (by decide) ?_
              refine lv_if_ne (tgt := 170) hx hb dX5_moved_159 (by decide) (fun c_27 => ?_) (fun c_27 => ?_)
              · have hJ := j_f c_27 hJ
                refine lv_iload hx hb dX5_moved_170 (lv_at hl 5 rfl) ?_
                refine lv_bipush (v := 8) hx hb dX5_moved_172 (by decide) ?_
                refine lv_iadd hx hb dX5_moved_174 ?_
                refine lv_iload hx hb dX5_moved_175 (lv_at hl 0 rfl) ?_
                refine lv_isub hx hb dX5_moved_177 ?_
                refine lv_bipush (v := 8) hx hb dX5_moved_178 (by decide) ?_
                refine lv_irem hx hb dX5_moved_180 (by decide) ?_
                refine lv_istore (lv' := [(5, .int ((((p0 - p0 / (8 : Int32) * (8 : Int32)) + (8 : Int32)) - (1 : Int32)) - (((p0 - p0 / (8 : Int32) * (8 : Int32)) + (8 : Int32)) - (1 : Int32)) / (8 : Int32) * (8 : Int32))), (8, .int (1 : Int32)), (0, .ref aM), (2, .int p1), (3, .int x3_22), (4, .int x4_23), (6, .int (-1 : Int32)), (7, .int rd)]) hx hb dX5_moved_181 hl (by decide) rfl (fun ls hl => ?_)
                refine lv_aload_n hx hb dX5_moved_183 rfl (lv_at hl 2 rfl) ?_
                refine va_get (D := D) (ci := 6) (v := .ref aFr) (C := RX5) (T := TX5) (N := 26) hx hb hts iX5 hown hK hP 0 rfl rfl 23 (by decide) k_1 (fun _ h9 => h9) rfl dX5_moved_184 ?_
                refine lv_iload_n hx hb dX5_moved_187 rfl (lv_at hl 4 rfl) ?_
                refine lv_iload hx hb dX5_moved_188 (lv_at hl 5 rfl) ?_
                refine lv_iload hx hb dX5_moved_190 (lv_at hl 0 rfl) ?_
                obtain ⟨v_28, hv_28, hJ⟩ := j_b hJ
                refine ro_i (va_runS (As := [.int x3_22, .int x4_23, .int ((((p0 - p0 / (8 : Int32) * (8 : Int32)) + (8 : Int32)) - (1 : Int32)) - (((p0 - p0 / (8 : Int32) * (8 : Int32)) + (8 : Int32)) - (1 : Int32)) / (8 : Int32) * (8 : Int32))]) (rest := [.ref aFr]) ⟨hx, hb, hml, hown, hts⟩ (c_X5_place l D x3_22 x4_23 ((((p0 - p0 / (8 : Int32) * (8 : Int32)) + (8 : Int32)) - (1 : Int32)) - (((p0 - p0 / (8 : Int32) * (8 : Int32)) + (8 : Int32)) - (1 : Int32)) / (8 : Int32) * (8 : Int32)) tX tY H.size F v_28 hv_28) (va_cwS 3 hts gX5_moved_X5_place rfl rfl rfl (by decide +kernel) ⟨Nat.le_of_ble_eq_true rfl, Nat.le_of_ble_eq_true rfl⟩) (preRS [.int x3_22, .int x4_23, .int ((((p0 - p0 / (8 : Int32) * (8 : Int32)) + (8 : Int32)) - (1 : Int32)) - (((p0 - p0 / (8 : Int32) * (8 : Int32)) + (8 : Int32)) - (1 : Int32)) / (8 : Int32) * (8 : Int32))] hP hK hS hA hST [] rfl [] rfl) rfl rfl hl.1 rfl (lv_room (Nat.le_of_ble_eq_true rfl)) dX5_moved_192 ⟨Nat.zero_le _, Nat.zero_le _⟩) hP hS hA (fun H locs hP hS => ?_)
                obtain ⟨h_29, hJ⟩ := g_in hJ
                refine va_zald hx hb hK hP 6 5 rfl rfl h_29 dX5_moved_195 ?_
                refine lv_if_ne (tgt := 201) hx hb dX5_moved_196 (by decide) (fun c_30 => ?_) (fun c_30 => ?_)
                · have hJ := j_f c_30 hJ
                  refine lv_iconst (v := 0) hx hb dX5_moved_201 (by decide) ?_
                  refine lv_istore (lv' := [(9, .int (0 : Int32)), (5, .int ((((p0 - p0 / (8 : Int32) * (8 : Int32)) + (8 : Int32)) - (1 : Int32)) - (((p0 - p0 / (8 : Int32) * (8 : Int32)) + (8 : Int32)) - (1 : Int32)) / (8 : Int32) * (8 : Int32))), (8, .int (1 : Int32)), (0, .ref aM), (2, .int p1), (3, .int x3_22), (4, .int x4_23), (6, .int (-1 : Int32)), (7, .int rd)]) hx hb dX5_moved_202 hl (by decide) rfl (fun ls hl => ?_)
                  refine L_204 ((((p0 - p0 / (8 : Int32) * (8 : Int32)) + (8 : Int32)) - (1 : Int32)) - (((p0 - p0 / (8 : Int32) * (8 : Int32)) + (8 : Int32)) - (1 : Int32)) / (8 : Int32) * (8 : Int32)) (-1 : Int32) rd _ ?_ F H locs x3_22 x4_23 (0 : Int32) ls hJ hP hS (lv_sub hl [3, 5, 6, 1, 7, 8, 0] rfl)
                  · intro H locs x3_45 x4_46 x9_47 ls hJ hP hS hl
                    refine lv_iload_n hx hb dX5_moved_269 rfl (lv_at hl 0 rfl) ?_
                    refine lv_iload hx hb dX5_moved_270 (lv_at hl 1 rfl) ?_
                    refine lv_iload hx hb dX5_moved_272 (lv_at hl 2 rfl) ?_
                    obtain ⟨v_48, hv_48, hJ⟩ := j_b hJ
                    refine ro_i (va_runS (As := [.int x3_45, .int x4_46, .int ((((p0 - p0 / (8 : Int32) * (8 : Int32)) + (8 : Int32)) - (1 : Int32)) - (((p0 - p0 / (8 : Int32) * (8 : Int32)) + (8 : Int32)) - (1 : Int32)) / (8 : Int32) * (8 : Int32))]) (rest := []) ⟨hx, hb, hml, hown, hts⟩ (c_X5_place l D x3_45 x4_46 ((((p0 - p0 / (8 : Int32) * (8 : Int32)) + (8 : Int32)) - (1 : Int32)) - (((p0 - p0 / (8 : Int32) * (8 : Int32)) + (8 : Int32)) - (1 : Int32)) / (8 : Int32) * (8 : Int32)) tX tY H.size F v_48 hv_48) (va_cwS 3 hts gX5_moved_X5_place rfl rfl rfl (by decide +kernel) ⟨Nat.le_of_ble_eq_true rfl, Nat.le_of_ble_eq_true rfl⟩) (preRS [.int x3_45, .int x4_46, .int ((((p0 - p0 / (8 : Int32) * (8 : Int32)) + (8 : Int32)) - (1 : Int32)) - (((p0 - p0 / (8 : Int32) * (8 : Int32)) + (8 : Int32)) - (1 : Int32)) / (8 : Int32) * (8 : Int32))] hP hK hS hA hST [] rfl [] rfl) rfl rfl hl.1 rfl (lv_room (Nat.le_of_ble_eq_true rfl)) dX5_moved_274 ⟨Nat.zero_le _, Nat.zero_le _⟩) hP hS hA (fun H locs hP hS => ?_)
                    have ho := Option.some.inj hJ
                    exact W.iret (v := v_48) hx hb hr (fun t ht hW => ⟨⟨_, (), rfl, ho, trivial⟩, hS.F ht⟩) hS.2.2 dX5_moved_277
                · have hJ := j_t c_30 hJ
                  refine lv_iconst (v := (-1)) hx hb dX5_moved_199 (by decide) ?_
                  have ho := Option.some.inj hJ
                  exact W.iret (v := (-1 : Int32)) hx hb hr (fun t ht hW => ⟨⟨_, (), rfl, ho, trivial⟩, hS.F ht⟩) hS.2.2 dX5_moved_200
              · have hJ := j_t c_27 hJ
                refine lv_iload hx hb dX5_moved_162 (lv_at hl 5 rfl) ?_
                refine lv_iload hx hb dX5_moved_164 (lv_at hl 0 rfl) ?_
                refine lv_iadd hx hb dX5_moved_166 ?_
                refine lv_goto (tgt := 178) hx hb dX5_moved_167 (by decide) ?_
                refine lv_bipush (v := 8) hx hb dX5_moved_178 (by decide) ?_
                refine lv_irem hx hb dX5_moved_180 (by decide) ?_
                refine lv_istore (lv' := [(5, .int (((p0 - p0 / (8 : Int32) * (8 : Int32)) + (1 : Int32)) - ((p0 - p0 / (8 : Int32) * (8 : Int32)) + (1 : Int32)) / (8 : Int32) * (8 : Int32))), (8, .int (1 : Int32)), (0, .ref aM), (2, .int p1), (3, .int x3_22), (4, .int x4_23), (6, .int (-1 : Int32)), (7, .int rd)]) hx hb dX5_moved_181 hl (by decide) rfl (fun ls hl => ?_)
                refine lv_aload_n hx hb dX5_moved_183 rfl (lv_at hl 2 rfl) ?_
                refine va_get (D := D) (ci := 6) (v := .ref aFr) (C := RX5) (T := TX5) (N := 26) hx hb hts iX5 hown hK hP 0 rfl rfl 23 (by decide) k_1 (fun _ h9 => h9) rfl dX5_moved_184 ?_
                refine lv_iload_n hx hb dX5_moved_187 rfl (lv_at hl 4 rfl) ?_
                refine lv_iload hx hb dX5_moved_188 (lv_at hl 5 rfl) ?_
                refine lv_iload hx hb dX5_moved_190 (lv_at hl 0 rfl) ?_
                obtain ⟨v_49, hv_49, hJ⟩ := j_b hJ
                refine ro_i (va_runS (As := [.int x3_22, .int x4_23, .int (((p0 - p0 / (8 : Int32) * (8 : Int32)) + (1 : Int32)) - ((p0 - p0 / (8 : Int32) * (8 : Int32)) + (1 : Int32)) / (8 : Int32) * (8 : Int32))]) (rest := [.ref aFr]) ⟨hx, hb, hml, hown, hts⟩ (c_X5_place l D x3_22 x4_23 (((p0 - p0 / (8 : Int32) * (8 : Int32)) + (1 : Int32)) - ((p0 - p0 / (8 : Int32) * (8 : Int32)) + (1 : Int32)) / (8 : Int32) * (8 : Int32)) tX tY H.size F v_49 hv_49) (va_cwS 3 hts gX5_moved_X5_place rfl rfl rfl (by decide +kernel) ⟨Nat.le_of_ble_eq_true rfl, Nat.le_of_ble_eq_true rfl⟩) (preRS [.int x3_22, .int x4_23, .int (((p0 - p0 / (8 : Int32) * (8 : Int32)) + (1 : Int32)) - ((p0 - p0 / (8 : Int32) * (8 : Int32)) + (1 : Int32)) / (8 : Int32) * (8 : Int32))] hP hK hS hA hST [] rfl [] rfl) rfl rfl hl.1 rfl (lv_room (Nat.le_of_ble_eq_true rfl)) dX5_moved_192 ⟨Nat.zero_le _, Nat.zero_le _⟩) hP hS hA (fun H locs hP hS => ?_)
                obtain ⟨h_50, hJ⟩ := g_in hJ
                refine va_zald hx hb hK hP 6 5 rfl rfl h_50 dX5_moved_195 ?_
                refine lv_if_ne (tgt := 201) hx hb dX5_moved_196 (by decide) (fun c_51 => ?_) (fun c_51 => ?_)
                · have hJ := j_f c_51 hJ
                  refine lv_iconst (v := 0) hx hb dX5_moved_201 (by decide) ?_
                  refine lv_istore (lv' := [(9, .int (0 : Int32)), (5, .int (((p0 - p0 / (8 : Int32) * (8 : Int32)) + (1 : Int32)) - ((p0 - p0 / (8 : Int32) * (8 : Int32)) + (1 : Int32)) / (8 : Int32) * (8 : Int32))), (8, .int (1 : Int32)), (0, .ref aM), (2, .int p1), (3, .int x3_22), (4, .int x4_23), (6, .int (-1 : Int32)), (7, .int rd)]) hx hb dX5_moved_202 hl (by decide) rfl (fun ls hl => ?_)
                  refine L_204 (((p0 - p0 / (8 : Int32) * (8 : Int32)) + (1 : Int32)) - ((p0 - p0 / (8 : Int32) * (8 : Int32)) + (1 : Int32)) / (8 : Int32) * (8 : Int32)) (-1 : Int32) rd _ ?_ F H locs x3_22 x4_23 (0 : Int32) ls hJ hP hS (lv_sub hl [3, 5, 6, 1, 7, 8, 0] rfl)
                  · intro H locs x3_52 x4_53 x9_54 ls hJ hP hS hl
                    refine lv_iload_n hx hb dX5_moved_269 rfl (lv_at hl 0 rfl) ?_
                    refine lv_iload hx hb dX5_moved_270 (lv_at hl 1 rfl) ?_
                    refine lv_iload hx hb dX5_moved_272 (lv_at hl 2 rfl) ?_
                    obtain ⟨v_55, hv_55, hJ⟩ := j_b hJ
                    refine ro_i (va_runS (As := [.int x3_52, .int x4_53, .int (((p0 - p0 / (8 : Int32) * (8 : Int32)) + (1 : Int32)) - ((p0 - p0 / (8 : Int32) * (8 : Int32)) + (1 : Int32)) / (8 : Int32) * (8 : Int32))]) (rest := []) ⟨hx, hb, hml, hown, hts⟩ (c_X5_place l D x3_52 x4_53 (((p0 - p0 / (8 : Int32) * (8 : Int32)) + (1 : Int32)) - ((p0 - p0 / (8 : Int32) * (8 : Int32)) + (1 : Int32)) / (8 : Int32) * (8 : Int32)) tX tY H.size F v_55 hv_55) (va_cwS 3 hts gX5_moved_X5_place rfl rfl rfl (by decide +kernel) ⟨Nat.le_of_ble_eq_true rfl, Nat.le_of_ble_eq_true rfl⟩) (preRS [.int x3_52, .int x4_53, .int (((p0 - p0 / (8 : Int32) * (8 : Int32)) + (1 : Int32)) - ((p0 - p0 / (8 : Int32) * (8 : Int32)) + (1 : Int32)) / (8 : Int32) * (8 : Int32))] hP hK hS hA hST [] rfl [] rfl) rfl rfl hl.1 rfl (lv_room (Nat.le_of_ble_eq_true rfl)) dX5_moved_274 ⟨Nat.zero_le _, Nat.zero_le _⟩) hP hS hA (fun H locs hP hS => ?_)
                    have ho := Option.some.inj hJ
                    exact W.iret (v := v_55) hx hb hr (fun t ht hW => ⟨⟨_, (), rfl, ho, trivial⟩, hS.F ht⟩) hS.2.2 dX5_moved_277
                · have hJ := j_t c_51 hJ
                  refine lv_iconst (v := (-1)) hx hb dX5_moved_199 (by decide) ?_
                  have ho := Option.some.inj hJ
                  exact W.iret (v := (-1 : Int32)) hx hb hr (fun t ht hW => ⟨⟨_, (), rfl, ho, trivial⟩, hS.F ht⟩) hS.2.2 dX5_moved_200
            · have hJ := j_f c_26 hJ
              refine lv_iconst (v := 2) hx hb dX5_moved_149 (by decide) ?_
              refine lv_goto (tgt := 154) hx hb dX5_moved_150 (by decide) ?_
              refine lv_istore (lv' := [(8, .int (2 : Int32)), (0, .ref aM), (2, .int p1), (3, .int x3_22), (4, .int x4_23), (5, .int (p0 - p0 / (8 : Int32) * (8 : Int32))), (6, .int (-1 : Int32)), (7, .int rd)]) hx hb dX5_moved_154 hl (by decide) rfl (fun ls hl => ?_)
              refine lv_iload_n hx hb dX5_moved_156 rfl (lv_at hl 2 rfl) ?_
              refine lv_iconst (v := 2) hx hb dX5_moved_157 (by decide) ?_
              refine lv_irem hx hb dX5_moved_158 (by decide) ?_
              refine lv_if_ne (tgt := 170) hx hb dX5_moved_159 (by decide) (fun c_56 => ?_) (fun c_56 => ?_)
              · have hJ := j_f c_56 hJ
                refine lv_iload hx hb dX5_moved_170 (lv_at hl 5 rfl) ?_
                refine lv_bipush (v := 8) hx hb dX5_moved_172 (by decide) ?_
                refine lv_iadd hx hb dX5_moved_174 ?_
                refine lv_iload hx hb dX5_moved_175 (lv_at hl 0 rfl) ?_
                refine lv_isub hx hb dX5_moved_177 ?_
                refine lv_bipush (v := 8) hx hb dX5_moved_178 (by decide) ?_
                refine lv_irem hx hb dX5_moved_180 (by decide) ?_
                refine lv_istore (lv' := [(5, .int ((((p0 - p0 / (8 : Int32) * (8 : Int32)) + (8 : Int32)) - (2 : Int32)) - (((p0 - p0 / (8 : Int32) * (8 : Int32)) + (8 : Int32)) - (2 : Int32)) / (8 : Int32) * (8 : Int32))), (8, .int (2 : Int32)), (0, .ref aM), (2, .int p1), (3, .int x3_22), (4, .int x4_23), (6, .int (-1 : Int32)), (7, .int rd)]) hx hb dX5_moved_181 hl (by decide) rfl (fun ls hl => ?_)
                refine lv_aload_n hx hb dX5_moved_183 rfl (lv_at hl 2 rfl) ?_
                refine va_get (D := D) (ci := 6) (v := .ref aFr) (C := RX5) (T := TX5) (N := 26) hx hb hts iX5 hown hK hP 0 rfl rfl 23 (by decide) k_1 (fun _ h9 => h9) rfl dX5_moved_184 ?_
                refine lv_iload_n hx hb dX5_moved_187 rfl (lv_at hl 4 rfl) ?_
                refine lv_iload hx hb dX5_moved_188 (lv_at hl 5 rfl) ?_
                refine lv_iload hx hb dX5_moved_190 (lv_at hl 0 rfl) ?_
                obtain ⟨v_57, hv_57, hJ⟩ := j_b hJ
                refine ro_i (va_runS (As := [.int x3_22, .int x4_23, .int ((((p0 - p0 / (8 : Int32) * (8 : Int32)) + (8 : Int32)) - (2 : Int32)) - (((p0 - p0 / (8 : Int32) * (8 : Int32)) + (8 : Int32)) - (2 : Int32)) / (8 : Int32) * (8 : Int32))]) (rest := [.ref aFr]) ⟨hx, hb, hml, hown, hts⟩ (c_X5_place l D x3_22 x4_23 ((((p0 - p0 / (8 : Int32) * (8 : Int32)) + (8 : Int32)) - (2 : Int32)) - (((p0 - p0 / (8 : Int32) * (8 : Int32)) + (8 : Int32)) - (2 : Int32)) / (8 : Int32) * (8 : Int32)) tX tY H.size F v_57 hv_57) (va_cwS 3 hts gX5_moved_X5_place rfl rfl rfl (by decide +kernel) ⟨Nat.le_of_ble_eq_true rfl, Nat.le_of_ble_eq_true rfl⟩) (preRS [.int x3_22, .int x4_23, .int ((((p0 - p0 / (8 : Int32) * (8 : Int32)) + (8 : Int32)) - (2 : Int32)) - (((p0 - p0 / (8 : Int32) * (8 : Int32)) + (8 : Int32)) - (2 : Int32)) / (8 : Int32) * (8 : Int32))] hP hK hS hA hST [] rfl [] rfl) rfl rfl hl.1 rfl (lv_room (Nat.le_of_ble_eq_true rfl)) dX5_moved_192 ⟨Nat.zero_le _, Nat.zero_le _⟩) hP hS hA (fun H locs hP hS => ?_)
                obtain ⟨h_58, hJ⟩ := g_in hJ
                refine va_zald hx hb hK hP 6 5 rfl rfl h_58 dX5_moved_195 ?_
                refine lv_if_ne (tgt := 201) hx hb dX5_moved_196 (by decide) (fun c_59 => ?_) (fun c_59 => ?_)
                · have hJ := j_f c_59 hJ
                  refine lv_iconst (v := 0) hx hb dX5_moved_201 (by decide) ?_
                  refine lv_istore (lv' := [(9, .int (0 : Int32)), (5, .int ((((p0 - p0 / (8 : Int32) * (8 : Int32)) + (8 : Int32)) - (2 : Int32)) - (((p0 - p0 / (8 : Int32) * (8 : Int32)) + (8 : Int32)) - (2 : Int32)) / (8 : Int32) * (8 : Int32))), (8, .int (2 : Int32)), (0, .ref aM), (2, .int p1), (3, .int x3_22), (4, .int x4_23), (6, .int (-1 : Int32)), (7, .int rd)]) hx hb dX5_moved_202 hl (by decide) rfl (fun ls hl => ?_)
                  refine L_204 ((((p0 - p0 / (8 : Int32) * (8 : Int32)) + (8 : Int32)) - (2 : Int32)) - (((p0 - p0 / (8 : Int32) * (8 : Int32)) + (8 : Int32)) - (2 : Int32)) / (8 : Int32) * (8 : Int32)) (-1 : Int32) rd _ ?_ F H locs x3_22 x4_23 (0 : Int32) ls hJ hP hS (lv_sub hl [3, 5, 6, 1, 7, 8, 0] rfl)
                  · intro H locs x3_60 x4_61 x9_62 ls hJ hP hS hl
                    refine lv_iload_n hx hb dX5_moved_269 rfl (lv_at hl 0 rfl) ?_
                    refine lv_iload hx hb dX5_moved_270 (lv_at hl 1 rfl) ?_
                    refine lv_iload hx hb dX5_moved_272 (lv_at hl 2 rfl) ?_
                    obtain ⟨v_63, hv_63, hJ⟩ := j_b hJ
                    refine ro_i (va_runS (As := [.int x3_60, .int x4_61, .int ((((p0 - p0 / (8 : Int32) * (8 : Int32)) + (8 : Int32)) - (2 : Int32)) - (((p0 - p0 / (8 : Int32) * (8 : Int32)) + (8 : Int32)) - (2 : Int32)) / (8 : Int32) * (8 : Int32))]) (rest := []) ⟨hx, hb, hml, hown, hts⟩ (c_X5_place l D x3_60 x4_61 ((((p0 - p0 / (8 : Int32) * (8 : Int32)) + (8 : Int32)) - (2 : Int32)) - (((p0 - p0 / (8 : Int32) * (8 : Int32)) + (8 : Int32)) - (2 : Int32)) / (8 : Int32) * (8 : Int32)) tX tY H.size F v_63 hv_63) (va_cwS 3 hts gX5_moved_X5_place rfl rfl rfl (by decide +kernel) ⟨Nat.le_of_ble_eq_true rfl, Nat.le_of_ble_eq_true rfl⟩) (preRS [.int x3_60, .int x4_61, .int ((((p0 - p0 / (8 : Int32) * (8 : Int32)) + (8 : Int32)) - (2 : Int32)) - (((p0 - p0 / (8 : Int32) * (8 : Int32)) + (8 : Int32)) - (2 : Int32)) / (8 : Int32) * (8 : Int32))] hP hK hS hA hST [] rfl [] rfl) rfl rfl hl.1 rfl (lv_room (Nat.le_of_ble_eq_true rfl)) dX5_moved_274 ⟨Nat.zero_le _, Nat.zero_le _⟩) hP hS hA (fun H locs hP hS => ?_)
                    have ho := Option.some.inj hJ
                    exact W.iret (v := v_63) hx hb hr (fun t ht hW => ⟨⟨_, (), rfl, ho, trivial⟩, hS.F ht⟩) hS.2.2 dX5_moved_277
                · have hJ := j_t c_59 hJ
                  refine lv_iconst (v := (-1)) hx hb dX5_moved_199 (by decide) ?_
                  have ho := Option.some.inj hJ
                  exact W.iret (v := (-1 : Int32)) hx hb hr (fun t ht hW => ⟨⟨_, (), rfl, ho, trivial⟩, hS.F ht⟩) hS.2.2 dX5_moved_200
              · have hJ := j_t c_56 hJ
                refine lv_iload hx hb dX5_moved_162 (lv_at hl 5 rfl) ?_
                refine lv_iload hx hb dX5_moved_164 (lv_at hl 0 rfl) ?_
                refine lv_iadd hx hb dX5_moved_166 ?_
                refine lv_goto (tgt := 178) hx hb dX5_moved_167 (by decide) ?_
                refine lv_bipush (v := 8) hx hb dX5_moved_178 (by decide) ?_
                refine lv_irem hx hb dX5_moved_180 (by decide) ?_
                refine lv_istore (lv' := [(5, .int (((p0 - p0 / (8 : Int32) * (8 : Int32)) + (2 : Int32)) - ((p0 - p0 / (8 : Int32) * (8 : Int32)) + (2 : Int32)) / (8 : Int32) * (8 : Int32))), (8, .int (2 : Int32)), (0, .ref aM), (2, .int p1), (3, .int x3_22), (4, .int x4_23), (6, .int (-1 : Int32)), (7, .int rd)]) hx hb dX5_moved_181 hl (by decide) rfl (fun ls hl => ?_)
                refine lv_aload_n hx hb dX5_moved_183 rfl (lv_at hl 2 rfl) ?_
                refine va_get (D := D) (ci := 6) (v := .ref aFr) (C := RX5) (T := TX5) (N := 26) hx hb hts iX5 hown hK hP 0 rfl rfl 23 (by decide) k_1 (fun _ h9 => h9) rfl dX5_moved_184 ?_
                refine lv_iload_n hx hb dX5_moved_187 rfl (lv_at hl 4 rfl) ?_
                refine lv_iload hx hb dX5_moved_188 (lv_at hl 5 rfl) ?_
                refine lv_iload hx hb dX5_moved_190 (lv_at hl 0 rfl) ?_
                obtain ⟨v_64, hv_64, hJ⟩ := j_b hJ
                refine ro_i (va_runS (As := [.int x3_22, .int x4_23, .int (((p0 - p0 / (8 : Int32) * (8 : Int32)) + (2 : Int32)) - ((p0 - p0 / (8 : Int32) * (8 : Int32)) + (2 : Int32)) / (8 : Int32) * (8 : Int32))]) (rest := [.ref aFr]) ⟨hx, hb, hml, hown, hts⟩ (c_X5_place l D x3_22 x4_23 (((p0 - p0 / (8 : Int32) * (8 : Int32)) + (2 : Int32)) - ((p0 - p0 / (8 : Int32) * (8 : Int32)) + (2 : Int32)) / (8 : Int32) * (8 : Int32)) tX tY H.size F v_64 hv_64) (va_cwS 3 hts gX5_moved_X5_place rfl rfl rfl (by decide +kernel) ⟨Nat.le_of_ble_eq_true rfl, Nat.le_of_ble_eq_true rfl⟩) (preRS [.int x3_22, .int x4_23, .int (((p0 - p0 / (8 : Int32) * (8 : Int32)) + (2 : Int32)) - ((p0 - p0 / (8 : Int32) * (8 : Int32)) + (2 : Int32)) / (8 : Int32) * (8 : Int32))] hP hK hS hA hST [] rfl [] rfl) rfl rfl hl.1 rfl (lv_room (Nat.le_of_ble_eq_true rfl)) dX5_moved_192 ⟨Nat.zero_le _, Nat.zero_le _⟩) hP hS hA (fun H locs hP hS => ?_)
                obtain ⟨h_65, hJ⟩ := g_in hJ
                refine va_zald hx hb hK hP 6 5 rfl rfl h_65 dX5_moved_195 ?_
                refine lv_if_ne (tgt := 201) hx hb dX5_moved_196 (by decide) (fun c_66 => ?_) (fun c_66 => ?_)
                · have hJ := j_f c_66 hJ
                  refine lv_iconst (v := 0) hx hb dX5_moved_201 (by decide) ?_
                  refine lv_istore (lv' := [(9, .int (0 : Int32)), (5, .int (((p0 - p0 / (8 : Int32) * (8 : Int32)) + (2 : Int32)) - ((p0 - p0 / (8 : Int32) * (8 : Int32)) + (2 : Int32)) / (8 : Int32) * (8 : Int32))), (8, .int (2 : Int32)), (0, .ref aM), (2, .int p1), (3, .int x3_22), (4, .int x4_23), (6, .int (-1 : Int32)), (7, .int rd)]) hx hb dX5_moved_202 hl (by decide) rfl (fun ls hl => ?_)
                  refine L_204 (((p0 - p0 / (8 : Int32) * (8 : Int32)) + (2 : Int32)) - ((p0 - p0 / (8 : Int32) * (8 : Int32)) + (2 : Int32)) / (8 : Int32) * (8 : Int32)) (-1 : Int32) rd _ ?_ F H locs x3_22 x4_23 (0 : Int32) ls hJ hP hS (lv_sub hl [3, 5, 6, 1, 7, 8, 0] rfl)
                  · intro H locs x3_67 x4_68 x9_69 ls hJ hP hS hl
                    refine lv_iload_n hx hb dX5_moved_269 rfl (lv_at hl 0 rfl) ?_
                    refine lv_iload hx hb dX5_moved_270 (lv_at hl 1 rfl) ?_
                    refine lv_iload hx hb dX5_moved_272 (lv_at hl 2 rfl) ?_
                    obtain ⟨v_70, hv_70, hJ⟩ := j_b hJ
                    refine ro_i (va_runS (As := [.int x3_67, .int x4_68, .int (((p0 - p0 / (8 : Int32) * (8 : Int32)) + (2 : Int32)) - ((p0 - p0 / (8 : Int32) * (8 : Int32)) + (2 : Int32)) / (8 : Int32) * (8 : Int32))]) (rest := []) ⟨hx, hb, hml, hown, hts⟩ (c_X5_place l D x3_67 x4_68 (((p0 - p0 / (8 : Int32) * (8 : Int32)) + (2 : Int32)) - ((p0 - p0 / (8 : Int32) * (8 : Int32)) + (2 : Int32)) / (8 : Int32) * (8 : Int32)) tX tY H.size F v_70 hv_70) (va_cwS 3 hts gX5_moved_X5_place rfl rfl rfl (by decide +kernel) ⟨Nat.le_of_ble_eq_true rfl, Nat.le_of_ble_eq_true rfl⟩) (preRS [.int x3_67, .int x4_68, .int (((p0 - p0 / (8 : Int32) * (8 : Int32)) + (2 : Int32)) - ((p0 - p0 / (8 : Int32) * (8 : Int32)) + (2 : Int32)) / (8 : Int32) * (8 : Int32))] hP hK hS hA hST [] rfl [] rfl) rfl rfl hl.1 rfl (lv_room (Nat.le_of_ble_eq_true rfl)) dX5_moved_274 ⟨Nat.zero_le _, Nat.zero_le _⟩) hP hS hA (fun H locs hP hS => ?_)
                    have ho := Option.some.inj hJ
                    exact W.iret (v := v_70) hx hb hr (fun t ht hW => ⟨⟨_, (), rfl, ho, trivial⟩, hS.F ht⟩) hS.2.2 dX5_moved_277
                · have hJ := j_t c_66 hJ
                  refine lv_iconst (v := (-1)) hx hb dX5_moved_199 (by decide) ?_
                  have ho := Option.some.inj hJ
                  exact W.iret (v := (-1 : Int32)) hx hb hr (fun t ht hW => ⟨⟨_, (), rfl, ho, trivial⟩, hS.F ht⟩) hS.2.2 dX5_moved_200
          · have hJ := j_f c_25 hJ
            refine lv_iload_n hx hb dX5_moved_133 rfl (lv_at hl 2 rfl) ?_
            refine lv_iload hx hb dX5_moved_134 (lv_at hl 3 rfl) ?_
            refine lv_iload hx hb dX5_moved_136 (lv_at hl 4 rfl) ?_
            obtain ⟨v_71, hv_71, hJ⟩ := j_b hJ
            refine ro_i (va_runS (As := [.int x3_22, .int x4_23, .int (p0 - p0 / (8 : Int32) * (8 : Int32))]) (rest := []) ⟨hx, hb, hml, hown, hts⟩ (c_X5_place l D x3_22 x4_23 (p0 - p0 / (8 : Int32) * (8 : Int32)) tX tY H.size F v_71 hv_71) (va_cwS 3 hts gX5_moved_X5_place rfl rfl rfl (by decide +kernel) ⟨Nat.le_of_ble_eq_true rfl, Nat.le_of_ble_eq_true rfl⟩) (preRS [.int x3_22, .int x4_23, .int (p0 - p0 / (8 : Int32) * (8 : Int32))] hP hK hS hA hST [] rfl [] rfl) rfl rfl hl.1 rfl (lv_room (Nat.le_of_ble_eq_true rfl)) dX5_moved_138 ⟨Nat.zero_le _, Nat.zero_le _⟩) hP hS hA (fun H locs hP hS => ?_)
            have ho := Option.some.inj hJ
            exact W.iret (v := v_71) hx hb hr (fun t ht hW => ⟨⟨_, (), rfl, ho, trivial⟩, hS.F ht⟩) hS.2.2 dX5_moved_141
      · have hJ := j_f c_6 hJ
        refine lv_iconst (v := 1) hx hb dX5_moved_50 (by decide) ?_
        refine lv_goto (tgt := 58) hx hb dX5_moved_51 (by decide) ?_
        refine lv_istore (lv' := [(7, .int (1 : Int32)), (6, .int (-1 : Int32)), (5, .int (p0 - p0 / (8 : Int32) * (8 : Int32))), (4, .int v_4), (3, .int v_3), (0, .ref aM), (1, .int p0), (2, .int p1)]) hx hb dX5_moved_58 hl (by decide) rfl (fun ls hl => ?_)
        refine lv_iconst (v := 0) hx hb dX5_moved_60 (by decide) ?_
        refine lv_istore (lv' := [(8, .int (0 : Int32)), (7, .int (1 : Int32)), (6, .int (-1 : Int32)), (5, .int (p0 - p0 / (8 : Int32) * (8 : Int32))), (4, .int v_4), (3, .int v_3), (0, .ref aM), (1, .int p0), (2, .int p1)]) hx hb dX5_moved_61 hl (by decide) rfl (fun ls hl => ?_)
        refine L_63 p1 (p0 - p0 / (8 : Int32) * (8 : Int32)) (-1 : Int32) (1 : Int32) _ ?_ F H locs v_3 v_4 (0 : Int32) ls hJ hP hS (lv_sub hl [6, 8, 5, 4, 3, 2, 1, 0] rfl)
        · intro H locs x3_72 x4_73 x8_74 ls hJ hP hS hl
          refine lv_iload_n hx hb dX5_moved_128 rfl (lv_at hl 1 rfl) ?_
          refine lv_iconst (v := 2) hx hb dX5_moved_129 (by decide) ?_
          refine lv_icmp_ge (tgt := 142) hx hb dX5_moved_130 (by decide) (fun c_75 => ?_) (fun c_75 => ?_)
          · have hJ := j_t c_75 hJ
            refine lv_aload_n hx hb dX5_moved_142 rfl (lv_at hl 0 rfl) ?_
            refine va_get (D := D) (ci := 6) (v := .int fou) (C := RX5) (T := TX5) (N := 26) hx hb hts iX5 hown hK hP 0 rfl rfl 3 (by decide) k_3 (fun _ h9 => h9) rfl dX5_moved_143 ?_
            refine lv_if_eq (tgt := 153) hx hb dX5_moved_146 (by decide) (fun c_76 => ?_) (fun c_76 => ?_)
            · have hJ := j_t c_76 hJ
              refine lv_iconst (v := 1) hx hb dX5_moved_153 (by decide) ?_
              refine lv_istore (lv' := [(8, .int (1 : Int32)), (0, .ref aM), (2, .int p1), (3, .int x3_72), (4, .int x4_73), (5, .int (p0 - p0 / (8 : Int32) * (8 : Int32))), (6, .int (-1 : Int32)), (7, .int (1 : Int32))]) hx hb dX5_moved_154 hl (by decide) rfl (fun ls hl => ?_)
              refine lv_iload_n hx hb dX5_moved_156 rfl (lv_at hl 2 rfl) ?_
              refine lv_iconst (v := 2) hx hb dX5_moved_157 (by decide) ?_
              refine lv_irem hx hb dX5_moved_158 (by decide) ?_
              refine lv_if_ne (tgt := 170) hx hb dX5_moved_159 (by decide) (fun c_77 => ?_) (fun c_77 => ?_)
              · have hJ := j_f c_77 hJ
                refine lv_iload hx hb dX5_moved_170 (lv_at hl 5 rfl) ?_
                refine lv_bipush (v := 8) hx hb dX5_moved_172 (by decide) ?_
                refine lv_iadd hx hb dX5_moved_174 ?_
                refine lv_iload hx hb dX5_moved_175 (lv_at hl 0 rfl) ?_
                refine lv_isub hx hb dX5_moved_177 ?_
                refine lv_bipush (v := 8) hx hb dX5_moved_178 (by decide) ?_
                refine lv_irem hx hb dX5_moved_180 (by decide) ?_
                refine lv_istore (lv' := [(5, .int ((((p0 - p0 / (8 : Int32) * (8 : Int32)) + (8 : Int32)) - (1 : Int32)) - (((p0 - p0 / (8 : Int32) * (8 : Int32)) + (8 : Int32)) - (1 : Int32)) / (8 : Int32) * (8 : Int32))), (8, .int (1 : Int32)), (0, .ref aM), (2, .int p1), (3, .int x3_72), (4, .int x4_73), (6, .int (-1 : Int32)), (7, .int (1 : Int32))]) hx hb dX5_moved_181 hl (by decide) rfl (fun ls hl => ?_)
                refine lv_aload_n hx hb dX5_moved_183 rfl (lv_at hl 2 rfl) ?_
                refine va_get (D := D) (ci := 6) (v := .ref aFr) (C := RX5) (T := TX5) (N := 26) hx hb hts iX5 hown hK hP 0 rfl rfl 23 (by decide) k_1 (fun _ h9 => h9) rfl dX5_moved_184 ?_
                refine lv_iload_n hx hb dX5_moved_187 rfl (lv_at hl 4 rfl) ?_
                refine lv_iload hx hb dX5_moved_188 (lv_at hl 5 rfl) ?_
                refine lv_iload hx hb dX5_moved_190 (lv_at hl 0 rfl) ?_
                obtain ⟨v_78, hv_78, hJ⟩ := j_b hJ
                refine ro_i (va_runS (As := [.int x3_72, .int x4_73, .int ((((p0 - p0 / (8 : Int32) * (8 : Int32)) + (8 : Int32)) - (1 : Int32)) - (((p0 - p0 / (8 : Int32) * (8 : Int32)) + (8 : Int32)) - (1 : Int32)) / (8 : Int32) * (8 : Int32))]) (rest := [.ref aFr]) ⟨hx, hb, hml, hown, hts⟩ (c_X5_place l D x3_72 x4_73 ((((p0 - p0 / (8 : Int32) * (8 : Int32)) + (8 : Int32)) - (1 : Int32)) - (((p0 - p0 / (8 : Int32) * (8 : Int32)) + (8 : Int32)) - (1 : Int32)) / (8 : Int32) * (8 : Int32)) tX tY H.size F v_78 hv_78) (va_cwS 3 hts gX5_moved_X5_place rfl rfl rfl (by decide +kernel) ⟨Nat.le_of_ble_eq_true rfl, Nat.le_of_ble_eq_true rfl⟩) (preRS [.int x3_72, .int x4_73, .int ((((p0 - p0 / (8 : Int32) * (8 : Int32)) + (8 : Int32)) - (1 : Int32)) - (((p0 - p0 / (8 : Int32) * (8 : Int32)) + (8 : Int32)) - (1 : Int32)) / (8 : Int32) * (8 : Int32))] hP hK hS hA hST [] rfl [] rfl) rfl rfl hl.1 rfl (lv_room (Nat.le_of_ble_eq_true rfl)) dX5_moved_192 ⟨Nat.zero_le _, Nat.zero_le _⟩) hP hS hA (fun H locs hP hS => ?_)
                obtain ⟨h_79, hJ⟩ := g_in hJ
                refine va_zald hx hb hK hP 6 5 rfl rfl h_79 dX5_moved_195 ?_
                refine lv_if_ne (tgt := 201) hx hb dX5_moved_196 (by decide) (fun c_80 => ?_) (fun c_80 => ?_)
                · have hJ := j_f c_80 hJ
                  refine lv_iconst (v := 0) hx hb dX5_moved_201 (by decide) ?_
                  refine lv_istore (lv' := [(9, .int (0 : Int32)), (5, .int ((((p0 - p0 / (8 : Int32) * (8 : Int32)) + (8 : Int32)) - (1 : Int32)) - (((p0 - p0 / (8 : Int32) * (8 : Int32)) + (8 : Int32)) - (1 : Int32)) / (8 : Int32) * (8 : Int32))), (8, .int (1 : Int32)), (0, .ref aM), (2, .int p1), (3, .int x3_72), (4, .int x4_73), (6, .int (-1 : Int32)), (7, .int (1 : Int32))]) hx hb dX5_moved_202 hl (by decide) rfl (fun ls hl => ?_)
                  refine L_204 ((((p0 - p0 / (8 : Int32) * (8 : Int32)) + (8 : Int32)) - (1 : Int32)) - (((p0 - p0 / (8 : Int32) * (8 : Int32)) + (8 : Int32)) - (1 : Int32)) / (8 : Int32) * (8 : Int32)) (-1 : Int32) (1 : Int32) _ ?_ F H locs x3_72 x4_73 (0 : Int32) ls hJ hP hS (lv_sub hl [3, 5, 6, 1, 7, 8, 0] rfl)
                  · intro H locs x3_81 x4_82 x9_83 ls hJ hP hS hl
                    refine lv_iload_n hx hb dX5_moved_269 rfl (lv_at hl 0 rfl) ?_
                    refine lv_iload hx hb dX5_moved_270 (lv_at hl 1 rfl) ?_
                    refine lv_iload hx hb dX5_moved_272 (lv_at hl 2 rfl) ?_
                    obtain ⟨v_84, hv_84, hJ⟩ := j_b hJ
                    refine ro_i (va_runS (As := [.int x3_81, .int x4_82, .int ((((p0 - p0 / (8 : Int32) * (8 : Int32)) + (8 : Int32)) - (1 : Int32)) - (((p0 - p0 / (8 : Int32) * (8 : Int32)) + (8 : Int32)) - (1 : Int32)) / (8 : Int32) * (8 : Int32))]) (rest := []) ⟨hx, hb, hml, hown, hts⟩ (c_X5_place l D x3_81 x4_82 ((((p0 - p0 / (8 : Int32) * (8 : Int32)) + (8 : Int32)) - (1 : Int32)) - (((p0 - p0 / (8 : Int32) * (8 : Int32)) + (8 : Int32)) - (1 : Int32)) / (8 : Int32) * (8 : Int32)) tX tY H.size F v_84 hv_84) (va_cwS 3 hts gX5_moved_X5_place rfl rfl rfl (by decide +kernel) ⟨Nat.le_of_ble_eq_true rfl, Nat.le_of_ble_eq_true rfl⟩) (preRS [.int x3_81, .int x4_82, .int ((((p0 - p0 / (8 : Int32) * (8 : Int32)) + (8 : Int32)) - (1 : Int32)) - (((p0 - p0 / (8 : Int32) * (8 : Int32)) + (8 : Int32)) - (1 : Int32)) / (8 : Int32) * (8 : Int32))] hP hK hS hA hST [] rfl [] rfl) rfl rfl hl.1 rfl (lv_room (Nat.le_of_ble_eq_true rfl)) dX5_moved_274 ⟨Nat.zero_le _, Nat.zero_le _⟩) hP hS hA (fun H locs hP hS => ?_)
                    have ho := Option.some.inj hJ
                    exact W.iret (v := v_84) hx hb hr (fun t ht hW => ⟨⟨_, (), rfl, ho, trivial⟩, hS.F ht⟩) hS.2.2 dX5_moved_277
                · have hJ := j_t c_80 hJ
                  refine lv_iconst (v := (-1)) hx hb dX5_moved_199 (by decide) ?_
                  have ho := Option.some.inj hJ
                  exact W.iret (v := (-1 : Int32)) hx hb hr (fun t ht hW => ⟨⟨_, (), rfl, ho, trivial⟩, hS.F ht⟩) hS.2.2 dX5_moved_200
              · have hJ := j_t c_77 hJ
                refine lv_iload hx hb dX5_moved_162 (lv_at hl 5 rfl) ?_
                refine lv_iload hx hb dX5_moved_164 (lv_at hl 0 rfl) ?_
                refine lv_iadd hx hb dX5_moved_166 ?_
                refine lv_goto (tgt := 178) hx hb dX5_moved_167 (by decide) ?_
                refine lv_bipush (v := 8) hx hb dX5_moved_178 (by decide) ?_
                refine lv_irem hx hb dX5_moved_180 (by decide) ?_
                refine lv_istore (lv' := [(5, .int (((p0 - p0 / (8 : Int32) * (8 : Int32)) + (1 : Int32)) - ((p0 - p0 / (8 : Int32) * (8 : Int32)) + (1 : Int32)) / (8 : Int32) * (8 : Int32))), (8, .int (1 : Int32)), (0, .ref aM), (2, .int p1), (3, .int x3_72), (4, .int x4_73), (6, .int (-1 : Int32)), (7, .int (1 : Int32))]) hx hb dX5_moved_181 hl (by decide) rfl (fun ls hl => ?_)
                refine lv_aload_n hx hb dX5_moved_183 rfl (lv_at hl 2 rfl) ?_
                refine va_get (D := D) (ci := 6) (v := .ref aFr) (C := RX5) (T := TX5) (N := 26) hx hb hts iX5 hown hK hP 0 rfl rfl 23 (by decide) k_1 (fun _ h9 => h9) rfl dX5_moved_184 ?_
                refine lv_iload_n hx hb dX5_moved_187 rfl (lv_at hl 4 rfl) ?_
                refine lv_iload hx hb dX5_moved_188 (lv_at hl 5 rfl) ?_
                refine lv_iload hx hb dX5_moved_190 (lv_at hl 0 rfl) ?_
                obtain ⟨v_85, hv_85, hJ⟩ := j_b hJ
                refine ro_i (va_runS (As := [.int x3_72, .int x4_73, .int (((p0 - p0 / (8 : Int32) * (8 : Int32)) + (1 : Int32)) - ((p0 - p0 / (8 : Int32) * (8 : Int32)) + (1 : Int32)) / (8 : Int32) * (8 : Int32))]) (rest := [.ref aFr]) ⟨hx, hb, hml, hown, hts⟩ (c_X5_place l D x3_72 x4_73 (((p0 - p0 / (8 : Int32) * (8 : Int32)) + (1 : Int32)) - ((p0 - p0 / (8 : Int32) * (8 : Int32)) + (1 : Int32)) / (8 : Int32) * (8 : Int32)) tX tY H.size F v_85 hv_85) (va_cwS 3 hts gX5_moved_X5_place rfl rfl rfl (by decide +kernel) ⟨Nat.le_of_ble_eq_true rfl, Nat.le_of_ble_eq_true rfl⟩) (preRS [.int x3_72, .int x4_73, .int (((p0 - p0 / (8 : Int32) * (8 : Int32)) + (1 : Int32)) - ((p0 - p0 / (8 : Int32) * (8 : Int32)) + (1 : Int32)) / (8 : Int32) * (8 : Int32))] hP hK hS hA hST [] rfl [] rfl) rfl rfl hl.1 rfl (lv_room (Nat.le_of_ble_eq_true rfl)) dX5_moved_192 ⟨Nat.zero_le _, Nat.zero_le _⟩) hP hS hA (fun H locs hP hS => ?_)
                obtain ⟨h_86, hJ⟩ := g_in hJ
                refine va_zald hx hb hK hP 6 5 rfl rfl h_86 dX5_moved_195 ?_
                refine lv_if_ne (tgt := 201) hx hb dX5_moved_196 (by decide) (fun c_87 => ?_) (fun c_87 => ?_)
                · have hJ := j_f c_87 hJ
                  refine lv_iconst (v := 0) hx hb dX5_moved_201 (by decide) ?_
                  refine lv_istore (lv' := [(9, .int (0 : Int32)), (5, .int (((p0 - p0 / (8 : Int32) * (8 : Int32)) + (1 : Int32)) - ((p0 - p0 / (8 : Int32) * (8 : Int32)) + (1 : Int32)) / (8 : Int32) * (8 : Int32))), (8, .int (1 : Int32)), (0, .ref aM), (2, .int p1), (3, .int x3_72), (4, .int x4_73), (6, .int (-1 : Int32)), (7, .int (1 : Int32))]) hx hb dX5_moved_202 hl (by decide) rfl (fun ls hl => ?_)
                  refine L_204 (((p0 - p0 / (8 : Int32) * (8 : Int32)) + (1 : Int32)) - ((p0 - p0 / (8 : Int32) * (8 : Int32)) + (1 : Int32)) / (8 : Int32) * (8 : Int32)) (-1 : Int32) (1 : Int32) _ ?_ F H locs x3_72 x4_73 (0 : Int32) ls hJ hP hS (lv_sub hl [3, 5, 6, 1, 7, 8, 0] rfl)
                  · intro H locs x3_88 x4_89 x9_90 ls hJ hP hS hl
                    refine lv_iload_n hx hb dX5_moved_269 rfl (lv_at hl 0 rfl) ?_
                    refine lv_iload hx hb dX5_moved_270 (lv_at hl 1 rfl) ?_
                    refine lv_iload hx hb dX5_moved_272 (lv_at hl 2 rfl) ?_
                    obtain ⟨v_91, hv_91, hJ⟩ := j_b hJ
                    refine ro_i (va_runS (As := [.int x3_88, .int x4_89, .int (((p0 - p0 / (8 : Int32) * (8 : Int32)) + (1 : Int32)) - ((p0 - p0 / (8 : Int32) * (8 : Int32)) + (1 : Int32)) / (8 : Int32) * (8 : Int32))]) (rest := []) ⟨hx, hb, hml, hown, hts⟩ (c_X5_place l D x3_88 x4_89 (((p0 - p0 / (8 : Int32) * (8 : Int32)) + (1 : Int32)) - ((p0 - p0 / (8 : Int32) * (8 : Int32)) + (1 : Int32)) / (8 : Int32) * (8 : Int32)) tX tY H.size F v_91 hv_91) (va_cwS 3 hts gX5_moved_X5_place rfl rfl rfl (by decide +kernel) ⟨Nat.le_of_ble_eq_true rfl, Nat.le_of_ble_eq_true rfl⟩) (preRS [.int x3_88, .int x4_89, .int (((p0 - p0 / (8 : Int32) * (8 : Int32)) + (1 : Int32)) - ((p0 - p0 / (8 : Int32) * (8 : Int32)) + (1 : Int32)) / (8 : Int32) * (8 : Int32))] hP hK hS hA hST [] rfl [] rfl) rfl rfl hl.1 rfl (lv_room (Nat.le_of_ble_eq_true rfl)) dX5_moved_274 ⟨Nat.zero_le _, Nat.zero_le _⟩) hP hS hA (fun H locs hP hS => ?_)
                    have ho := Option.some.inj hJ
                    exact W.iret (v := v_91) hx hb hr (fun t ht hW => ⟨⟨_, (), rfl, ho, trivial⟩, hS.F ht⟩) hS.2.2 dX5_moved_277
                · have hJ := j_t c_87 hJ
                  refine lv_iconst (v := (-1)) hx hb dX5_moved_199 (by decide) ?_
                  have ho := Option.some.inj hJ
                  exact W.iret (v := (-1 : Int32)) hx hb hr (fun t ht hW => ⟨⟨_, (), rfl, ho, trivial⟩, hS.F ht⟩) hS.2.2 dX5_moved_200
            · have hJ := j_f c_76 hJ
              refine lv_iconst (v := 2) hx hb dX5_moved_149 (by decide) ?_
              refine lv_goto (tgt := 154) hx hb dX5_moved_150 (by decide) ?_
              refine lv_istore (lv' := [(8, .int (2 : Int32)), (0, .ref aM), (2, .int p1), (3, .int x3_72), (4, .int x4_73), (5, .int (p0 - p0 / (8 : Int32) * (8 : Int32))), (6, .int (-1 : Int32)), (7, .int (1 : Int32))]) hx hb dX5_moved_154 hl (by decide) rfl (fun ls hl => ?_)
              refine lv_iload_n hx hb dX5_moved_156 rfl (lv_at hl 2 rfl) ?_
              refine lv_iconst (v := 2) hx hb dX5_moved_157 (by decide) ?_
              refine lv_irem hx hb dX5_moved_158 (by decide) ?_
              refine lv_if_ne (tgt := 170) hx hb dX5_moved_159 (by decide) (fun c_92 => ?_) (fun c_92 => ?_)
              · have hJ := j_f c_92 hJ
                refine lv_iload hx hb dX5_moved_170 (lv_at hl 5 rfl) ?_
                refine lv_bipush (v := 8) hx hb dX5_moved_172 (by decide) ?_
                refine lv_iadd hx hb dX5_moved_174 ?_
                refine lv_iload hx hb dX5_moved_175 (lv_at hl 0 rfl) ?_
                refine lv_isub hx hb dX5_moved_177 ?_
                refine lv_bipush (v := 8) hx hb dX5_moved_178 (by decide) ?_
                refine lv_irem hx hb dX5_moved_180 (by decide) ?_
                refine lv_istore (lv' := [(5, .int ((((p0 - p0 / (8 : Int32) * (8 : Int32)) + (8 : Int32)) - (2 : Int32)) - (((p0 - p0 / (8 : Int32) * (8 : Int32)) + (8 : Int32)) - (2 : Int32)) / (8 : Int32) * (8 : Int32))), (8, .int (2 : Int32)), (0, .ref aM), (2, .int p1), (3, .int x3_72), (4, .int x4_73), (6, .int (-1 : Int32)), (7, .int (1 : Int32))]) hx hb dX5_moved_181 hl (by decide) rfl (fun ls hl => ?_)
                refine lv_aload_n hx hb dX5_moved_183 rfl (lv_at hl 2 rfl) ?_
                refine va_get (D := D) (ci := 6) (v := .ref aFr) (C := RX5) (T := TX5) (N := 26) hx hb hts iX5 hown hK hP 0 rfl rfl 23 (by decide) k_1 (fun _ h9 => h9) rfl dX5_moved_184 ?_
                refine lv_iload_n hx hb dX5_moved_187 rfl (lv_at hl 4 rfl) ?_
                refine lv_iload hx hb dX5_moved_188 (lv_at hl 5 rfl) ?_
                refine lv_iload hx hb dX5_moved_190 (lv_at hl 0 rfl) ?_
                obtain ⟨v_93, hv_93, hJ⟩ := j_b hJ
                refine ro_i (va_runS (As := [.int x3_72, .int x4_73, .int ((((p0 - p0 / (8 : Int32) * (8 : Int32)) + (8 : Int32)) - (2 : Int32)) - (((p0 - p0 / (8 : Int32) * (8 : Int32)) + (8 : Int32)) - (2 : Int32)) / (8 : Int32) * (8 : Int32))]) (rest := [.ref aFr]) ⟨hx, hb, hml, hown, hts⟩ (c_X5_place l D x3_72 x4_73 ((((p0 - p0 / (8 : Int32) * (8 : Int32)) + (8 : Int32)) - (2 : Int32)) - (((p0 - p0 / (8 : Int32) * (8 : Int32)) + (8 : Int32)) - (2 : Int32)) / (8 : Int32) * (8 : Int32)) tX tY H.size F v_93 hv_93) (va_cwS 3 hts gX5_moved_X5_place rfl rfl rfl (by decide +kernel) ⟨Nat.le_of_ble_eq_true rfl, Nat.le_of_ble_eq_true rfl⟩) (preRS [.int x3_72, .int x4_73, .int ((((p0 - p0 / (8 : Int32) * (8 : Int32)) + (8 : Int32)) - (2 : Int32)) - (((p0 - p0 / (8 : Int32) * (8 : Int32)) + (8 : Int32)) - (2 : Int32)) / (8 : Int32) * (8 : Int32))] hP hK hS hA hST [] rfl [] rfl) rfl rfl hl.1 rfl (lv_room (Nat.le_of_ble_eq_true rfl)) dX5_moved_192 ⟨Nat.zero_le _, Nat.zero_le _⟩) hP hS hA (fun H locs hP hS => ?_)
                obtain ⟨h_94, hJ⟩ := g_in hJ
                refine va_zald hx hb hK hP 6 5 rfl rfl h_94 dX5_moved_195 ?_
                refine lv_if_ne (tgt := 201) hx hb dX5_moved_196 (by decide) (fun c_95 => ?_) (fun c_95 => ?_)
                · have hJ := j_f c_95 hJ
                  refine lv_iconst (v := 0) hx hb dX5_moved_201 (by decide) ?_
                  refine lv_istore (lv' := [(9, .int (0 : Int32)), (5, .int ((((p0 - p0 / (8 : Int32) * (8 : Int32)) + (8 : Int32)) - (2 : Int32)) - (((p0 - p0 / (8 : Int32) * (8 : Int32)) + (8 : Int32)) - (2 : Int32)) / (8 : Int32) * (8 : Int32))), (8, .int (2 : Int32)), (0, .ref aM), (2, .int p1), (3, .int x3_72), (4, .int x4_73), (6, .int (-1 : Int32)), (7, .int (1 : Int32))]) hx hb dX5_moved_202 hl (by decide) rfl (fun ls hl => ?_)
                  refine L_204 ((((p0 - p0 / (8 : Int32) * (8 : Int32)) + (8 : Int32)) - (2 : Int32)) - (((p0 - p0 / (8 : Int32) * (8 : Int32)) + (8 : Int32)) - (2 : Int32)) / (8 : Int32) * (8 : Int32)) (-1 : Int32) (1 : Int32) _ ?_ F H locs x3_72 x4_73 (0 : Int32) ls hJ hP hS (lv_sub hl [3, 5, 6, 1, 7, 8, 0] rfl)
                  · intro H locs x3_96 x4_97 x9_98 ls hJ hP hS hl
                    refine lv_iload_n hx hb dX5_moved_269 rfl (lv_at hl 0 rfl) ?_
                    refine lv_iload hx hb dX5_moved_270 (lv_at hl 1 rfl) ?_
                    refine lv_iload hx hb dX5_moved_272 (lv_at hl 2 rfl) ?_
                    obtain ⟨v_99, hv_99, hJ⟩ := j_b hJ
                    refine ro_i (va_runS (As := [.int x3_96, .int x4_97, .int ((((p0 - p0 / (8 : Int32) * (8 : Int32)) + (8 : Int32)) - (2 : Int32)) - (((p0 - p0 / (8 : Int32) * (8 : Int32)) + (8 : Int32)) - (2 : Int32)) / (8 : Int32) * (8 : Int32))]) (rest := []) ⟨hx, hb, hml, hown, hts⟩ (c_X5_place l D x3_96 x4_97 ((((p0 - p0 / (8 : Int32) * (8 : Int32)) + (8 : Int32)) - (2 : Int32)) - (((p0 - p0 / (8 : Int32) * (8 : Int32)) + (8 : Int32)) - (2 : Int32)) / (8 : Int32) * (8 : Int32)) tX tY H.size F v_99 hv_99) (va_cwS 3 hts gX5_moved_X5_place rfl rfl rfl (by decide +kernel) ⟨Nat.le_of_ble_eq_true rfl, Nat.le_of_ble_eq_true rfl⟩) (preRS [.int x3_96, .int x4_97, .int ((((p0 - p0 / (8 : Int32) * (8 : Int32)) + (8 : Int32)) - (2 : Int32)) - (((p0 - p0 / (8 : Int32) * (8 : Int32)) + (8 : Int32)) - (2 : Int32)) / (8 : Int32) * (8 : Int32))] hP hK hS hA hST [] rfl [] rfl) rfl rfl hl.1 rfl (lv_room (Nat.le_of_ble_eq_true rfl)) dX5_moved_274 ⟨Nat.zero_le _, Nat.zero_le _⟩) hP hS hA (fun H locs hP hS => ?_)
                    have ho := Option.some.inj hJ
                    exact W.iret (v := v_99) hx hb hr (fun t ht hW => ⟨⟨_, (), rfl, ho, trivial⟩, hS.F ht⟩) hS.2.2 dX5_moved_277
                · have hJ := j_t c_95 hJ
                  refine lv_iconst (v := (-1)) hx hb dX5_moved_199 (by decide) ?_
                  have ho := Option.some.inj hJ
                  exact W.iret (v := (-1 : Int32)) hx hb hr (fun t ht hW => ⟨⟨_, (), rfl, ho, trivial⟩, hS.F ht⟩) hS.2.2 dX5_moved_200
              · have hJ := j_t c_92 hJ
                refine lv_iload hx hb dX5_moved_162 (lv_at hl 5 rfl) ?_
                refine lv_iload hx hb dX5_moved_164 (lv_at hl 0 rfl) ?_
                refine lv_iadd hx hb dX5_moved_166 ?_
                refine lv_goto (tgt := 178) hx hb dX5_moved_167 (by decide) ?_
                refine lv_bipush (v := 8) hx hb dX5_moved_178 (by decide) ?_
                refine lv_irem hx hb dX5_moved_180 (by decide) ?_
                refine lv_istore (lv' := [(5, .int (((p0 - p0 / (8 : Int32) * (8 : Int32)) + (2 : Int32)) - ((p0 - p0 / (8 : Int32) * (8 : Int32)) + (2 : Int32)) / (8 : Int32) * (8 : Int32))), (8, .int (2 : Int32)), (0, .ref aM), (2, .int p1), (3, .int x3_72), (4, .int x4_73), (6, .int (-1 : Int32)), (7, .int (1 : Int32))]) hx hb dX5_moved_181 hl (by decide) rfl (fun ls hl => ?_)
                refine lv_aload_n hx hb dX5_moved_183 rfl (lv_at hl 2 rfl) ?_
                refine va_get (D := D) (ci := 6) (v := .ref aFr) (C := RX5) (T := TX5) (N := 26) hx hb hts iX5 hown hK hP 0 rfl rfl 23 (by decide) k_1 (fun _ h9 => h9) rfl dX5_moved_184 ?_
                refine lv_iload_n hx hb dX5_moved_187 rfl (lv_at hl 4 rfl) ?_
                refine lv_iload hx hb dX5_moved_188 (lv_at hl 5 rfl) ?_
                refine lv_iload hx hb dX5_moved_190 (lv_at hl 0 rfl) ?_
                obtain ⟨v_100, hv_100, hJ⟩ := j_b hJ
                refine ro_i (va_runS (As := [.int x3_72, .int x4_73, .int (((p0 - p0 / (8 : Int32) * (8 : Int32)) + (2 : Int32)) - ((p0 - p0 / (8 : Int32) * (8 : Int32)) + (2 : Int32)) / (8 : Int32) * (8 : Int32))]) (rest := [.ref aFr]) ⟨hx, hb, hml, hown, hts⟩ (c_X5_place l D x3_72 x4_73 (((p0 - p0 / (8 : Int32) * (8 : Int32)) + (2 : Int32)) - ((p0 - p0 / (8 : Int32) * (8 : Int32)) + (2 : Int32)) / (8 : Int32) * (8 : Int32)) tX tY H.size F v_100 hv_100) (va_cwS 3 hts gX5_moved_X5_place rfl rfl rfl (by decide +kernel) ⟨Nat.le_of_ble_eq_true rfl, Nat.le_of_ble_eq_true rfl⟩) (preRS [.int x3_72, .int x4_73, .int (((p0 - p0 / (8 : Int32) * (8 : Int32)) + (2 : Int32)) - ((p0 - p0 / (8 : Int32) * (8 : Int32)) + (2 : Int32)) / (8 : Int32) * (8 : Int32))] hP hK hS hA hST [] rfl [] rfl) rfl rfl hl.1 rfl (lv_room (Nat.le_of_ble_eq_true rfl)) dX5_moved_192 ⟨Nat.zero_le _, Nat.zero_le _⟩) hP hS hA (fun H locs hP hS => ?_)
                obtain ⟨h_101, hJ⟩ := g_in hJ
                refine va_zald hx hb hK hP 6 5 rfl rfl h_101 dX5_moved_195 ?_
                refine lv_if_ne (tgt := 201) hx hb dX5_moved_196 (by decide) (fun c_102 => ?_) (fun c_102 => ?_)
                · have hJ := j_f c_102 hJ
                  refine lv_iconst (v := 0) hx hb dX5_moved_201 (by decide) ?_
                  refine lv_istore (lv' := [(9, .int (0 : Int32)), (5, .int (((p0 - p0 / (8 : Int32) * (8 : Int32)) + (2 : Int32)) - ((p0 - p0 / (8 : Int32) * (8 : Int32)) + (2 : Int32)) / (8 : Int32) * (8 : Int32))), (8, .int (2 : Int32)), (0, .ref aM), (2, .int p1), (3, .int x3_72), (4, .int x4_73), (6, .int (-1 : Int32)), (7, .int (1 : Int32))]) hx hb dX5_moved_202 hl (by decide) rfl (fun ls hl => ?_)
                  refine L_204 (((p0 - p0 / (8 : Int32) * (8 : Int32)) + (2 : Int32)) - ((p0 - p0 / (8 : Int32) * (8 : Int32)) + (2 : Int32)) / (8 : Int32) * (8 : Int32)) (-1 : Int32) (1 : Int32) _ ?_ F H locs x3_72 x4_73 (0 : Int32) ls hJ hP hS (lv_sub hl [3, 5, 6, 1, 7, 8, 0] rfl)
                  · intro H locs x3_103 x4_104 x9_105 ls hJ hP hS hl
                    refine lv_iload_n hx hb dX5_moved_269 rfl (lv_at hl 0 rfl) ?_
                    refine lv_iload hx hb dX5_moved_270 (lv_at hl 1 rfl) ?_
                    refine lv_iload hx hb dX5_moved_272 (lv_at hl 2 rfl) ?_
                    obtain ⟨v_106, hv_106, hJ⟩ := j_b hJ
                    refine ro_i (va_runS (As := [.int x3_103, .int x4_104, .int (((p0 - p0 / (8 : Int32) * (8 : Int32)) + (2 : Int32)) - ((p0 - p0 / (8 : Int32) * (8 : Int32)) + (2 : Int32)) / (8 : Int32) * (8 : Int32))]) (rest := []) ⟨hx, hb, hml, hown, hts⟩ (c_X5_place l D x3_103 x4_104 (((p0 - p0 / (8 : Int32) * (8 : Int32)) + (2 : Int32)) - ((p0 - p0 / (8 : Int32) * (8 : Int32)) + (2 : Int32)) / (8 : Int32) * (8 : Int32)) tX tY H.size F v_106 hv_106) (va_cwS 3 hts gX5_moved_X5_place rfl rfl rfl (by decide +kernel) ⟨Nat.le_of_ble_eq_true rfl, Nat.le_of_ble_eq_true rfl⟩) (preRS [.int x3_103, .int x4_104, .int (((p0 - p0 / (8 : Int32) * (8 : Int32)) + (2 : Int32)) - ((p0 - p0 / (8 : Int32) * (8 : Int32)) + (2 : Int32)) / (8 : Int32) * (8 : Int32))] hP hK hS hA hST [] rfl [] rfl) rfl rfl hl.1 rfl (lv_room (Nat.le_of_ble_eq_true rfl)) dX5_moved_274 ⟨Nat.zero_le _, Nat.zero_le _⟩) hP hS hA (fun H locs hP hS => ?_)
                    have ho := Option.some.inj hJ
                    exact W.iret (v := v_106) hx hb hr (fun t ht hW => ⟨⟨_, (), rfl, ho, trivial⟩, hS.F ht⟩) hS.2.2 dX5_moved_277
                · have hJ := j_t c_102 hJ
                  refine lv_iconst (v := (-1)) hx hb dX5_moved_199 (by decide) ?_
                  have ho := Option.some.inj hJ
                  exact W.iret (v := (-1 : Int32)) hx hb hr (fun t ht hW => ⟨⟨_, (), rfl, ho, trivial⟩, hS.F ht⟩) hS.2.2 dX5_moved_200
          · have hJ := j_f c_75 hJ
            refine lv_iload_n hx hb dX5_moved_133 rfl (lv_at hl 2 rfl) ?_
            refine lv_iload hx hb dX5_moved_134 (lv_at hl 3 rfl) ?_
            refine lv_iload hx hb dX5_moved_136 (lv_at hl 4 rfl) ?_
            obtain ⟨v_107, hv_107, hJ⟩ := j_b hJ
            refine ro_i (va_runS (As := [.int x3_72, .int x4_73, .int (p0 - p0 / (8 : Int32) * (8 : Int32))]) (rest := []) ⟨hx, hb, hml, hown, hts⟩ (c_X5_place l D x3_72 x4_73 (p0 - p0 / (8 : Int32) * (8 : Int32)) tX tY H.size F v_107 hv_107) (va_cwS 3 hts gX5_moved_X5_place rfl rfl rfl (by decide +kernel) ⟨Nat.le_of_ble_eq_true rfl, Nat.le_of_ble_eq_true rfl⟩) (preRS [.int x3_72, .int x4_73, .int (p0 - p0 / (8 : Int32) * (8 : Int32))] hP hK hS hA hST [] rfl [] rfl) rfl rfl hl.1 rfl (lv_room (Nat.le_of_ble_eq_true rfl)) dX5_moved_138 ⟨Nat.zero_le _, Nat.zero_le _⟩) hP hS hA (fun H locs hP hS => ?_)
            have ho := Option.some.inj hJ
            exact W.iret (v := v_107) hx hb hr (fun t ht hW => ⟨⟨_, (), rfl, ho, trivial⟩, hS.F ht⟩) hS.2.2 dX5_moved_141
    · have hJ := j_f c_5 hJ
      refine lv_iload_n hx hb dX5_moved_33 rfl (lv_at hl 5 rfl) ?_
      refine lv_iconst (v := 3) hx hb dX5_moved_34 (by decide) ?_
      refine lv_icmp_le (tgt := 42) hx hb dX5_moved_35 (by decide) (fun c_108 => ?_) (fun c_108 => ?_)
      · have hJ := j_t c_108 hJ
        refine lv_iconst (v := 1) hx hb dX5_moved_42 (by decide) ?_
        refine lv_istore (lv' := [(6, .int (1 : Int32)), (5, .int (p0 - p0 / (8 : Int32) * (8 : Int32))), (4, .int v_4), (3, .int v_3), (0, .ref aM), (1, .int p0), (2, .int p1)]) hx hb dX5_moved_43 hl (by decide) rfl (fun ls hl => ?_)
        refine lv_iload_n hx hb dX5_moved_45 rfl (lv_at hl 6 rfl) ?_
        refine lv_iconst (v := 2) hx hb dX5_moved_46 (by decide) ?_
        refine lv_icmp_ge (tgt := 54) hx hb dX5_moved_47 (by decide) (fun c_109 => ?_) (fun c_109 => ?_)
        · have hJ := j_t c_109 hJ
          refine lv_aload_n hx hb dX5_moved_54 rfl (lv_at hl 4 rfl) ?_
          refine va_get (D := D) (ci := 6) (v := .int rd) (C := RX5) (T := TX5) (N := 26) hx hb hts iX5 hown hK hP 0 rfl rfl 7 (by decide) k_2 (fun _ h9 => h9) rfl dX5_moved_55 ?_
          refine lv_istore (lv' := [(7, .int rd), (6, .int (1 : Int32)), (5, .int (p0 - p0 / (8 : Int32) * (8 : Int32))), (4, .int v_4), (3, .int v_3), (0, .ref aM), (1, .int p0), (2, .int p1)]) hx hb dX5_moved_58 hl (by decide) rfl (fun ls hl => ?_)
          refine lv_iconst (v := 0) hx hb dX5_moved_60 (by decide) ?_
          refine lv_istore (lv' := [(8, .int (0 : Int32)), (7, .int rd), (6, .int (1 : Int32)), (5, .int (p0 - p0 / (8 : Int32) * (8 : Int32))), (4, .int v_4), (3, .int v_3), (0, .ref aM), (1, .int p0), (2, .int p1)]) hx hb dX5_moved_61 hl (by decide) rfl (fun ls hl => ?_)
          refine L_63 p1 (p0 - p0 / (8 : Int32) * (8 : Int32)) (1 : Int32) rd _ ?_ F H locs v_3 v_4 (0 : Int32) ls hJ hP hS (lv_sub hl [6, 8, 5, 4, 3, 2, 1, 0] rfl)
          · intro H locs x3_110 x4_111 x8_112 ls hJ hP hS hl
            refine lv_iload_n hx hb dX5_moved_128 rfl (lv_at hl 1 rfl) ?_
            refine lv_iconst (v := 2) hx hb dX5_moved_129 (by decide) ?_
            refine lv_icmp_ge (tgt := 142) hx hb dX5_moved_130 (by decide) (fun c_113 => ?_) (fun c_113 => ?_)
            · have hJ := j_t c_113 hJ
              refine lv_aload_n hx hb dX5_moved_142 rfl (lv_at hl 0 rfl) ?_
              refine va_get (D := D) (ci := 6) (v := .int fou) (C := RX5) (T := TX5) (N := 26) hx hb hts iX5 hown hK hP 0 rfl rfl 3 (by decide) k_3 (fun _ h9 => h9) rfl dX5_moved_143 ?_
              refine lv_if_eq (tgt := 153) hx hb dX5_moved_146 (by decide) (fun c_114 => ?_) (fun c_114 => ?_)
              · have hJ := j_t c_114 hJ
                refine lv_iconst (v := 1) hx hb dX5_moved_153 (by decide) ?_
                refine lv_istore (lv' := [(8, .int (1 : Int32)), (0, .ref aM), (2, .int p1), (3, .int x3_110), (4, .int x4_111), (5, .int (p0 - p0 / (8 : Int32) * (8 : Int32))), (6, .int (1 : Int32)), (7, .int rd)]) hx hb dX5_moved_154 hl (by decide) rfl (fun ls hl => ?_)
                refine lv_iload_n hx hb dX5_moved_156 rfl (lv_at hl 2 rfl) ?_
                refine lv_iconst (v := 2) hx hb dX5_moved_157 (by decide) ?_
                refine lv_irem hx hb dX5_moved_158 (by decide) ?_
                refine lv_if_ne (tgt := 170) hx hb dX5_moved_159 (by decide) (fun c_115 => ?_) (fun c_115 => ?_)
                · have hJ := j_f c_115 hJ
                  refine lv_iload hx hb dX5_moved_170 (lv_at hl 5 rfl) ?_
                  refine lv_bipush (v := 8) hx hb dX5_moved_172 (by decide) ?_
                  refine lv_iadd hx hb dX5_moved_174 ?_
                  refine lv_iload hx hb dX5_moved_175 (lv_at hl 0 rfl) ?_
                  refine lv_isub hx hb dX5_moved_177 ?_
                  refine lv_bipush (v := 8) hx hb dX5_moved_178 (by decide) ?_
                  refine lv_irem hx hb dX5_moved_180 (by decide) ?_
                  refine lv_istore (lv' := [(5, .int ((((p0 - p0 / (8 : Int32) * (8 : Int32)) + (8 : Int32)) - (1 : Int32)) - (((p0 - p0 / (8 : Int32) * (8 : Int32)) + (8 : Int32)) - (1 : Int32)) / (8 : Int32) * (8 : Int32))), (8, .int (1 : Int32)), (0, .ref aM), (2, .int p1), (3, .int x3_110), (4, .int x4_111), (6, .int (1 : Int32)), (7, .int rd)]) hx hb dX5_moved_181 hl (by decide) rfl (fun ls hl => ?_)
                  refine lv_aload_n hx hb dX5_moved_183 rfl (lv_at hl 2 rfl) ?_
                  refine va_get (D := D) (ci := 6) (v := .ref aFr) (C := RX5) (T := TX5) (N := 26) hx hb hts iX5 hown hK hP 0 rfl rfl 23 (by decide) k_1 (fun _ h9 => h9) rfl dX5_moved_184 ?_
                  refine lv_iload_n hx hb dX5_moved_187 rfl (lv_at hl 4 rfl) ?_
                  refine lv_iload hx hb dX5_moved_188 (lv_at hl 5 rfl) ?_
                  refine lv_iload hx hb dX5_moved_190 (lv_at hl 0 rfl) ?_
                  obtain ⟨v_116, hv_116, hJ⟩ := j_b hJ
                  refine ro_i (va_runS (As := [.int x3_110, .int x4_111, .int ((((p0 - p0 / (8 : Int32) * (8 : Int32)) + (8 : Int32)) - (1 : Int32)) - (((p0 - p0 / (8 : Int32) * (8 : Int32)) + (8 : Int32)) - (1 : Int32)) / (8 : Int32) * (8 : Int32))]) (rest := [.ref aFr]) ⟨hx, hb, hml, hown, hts⟩ (c_X5_place l D x3_110 x4_111 ((((p0 - p0 / (8 : Int32) * (8 : Int32)) + (8 : Int32)) - (1 : Int32)) - (((p0 - p0 / (8 : Int32) * (8 : Int32)) + (8 : Int32)) - (1 : Int32)) / (8 : Int32) * (8 : Int32)) tX tY H.size F v_116 hv_116) (va_cwS 3 hts gX5_moved_X5_place rfl rfl rfl (by decide +kernel) ⟨Nat.le_of_ble_eq_true rfl, Nat.le_of_ble_eq_true rfl⟩) (preRS [.int x3_110, .int x4_111, .int ((((p0 - p0 / (8 : Int32) * (8 : Int32)) + (8 : Int32)) - (1 : Int32)) - (((p0 - p0 / (8 : Int32) * (8 : Int32)) + (8 : Int32)) - (1 : Int32)) / (8 : Int32) * (8 : Int32))] hP hK hS hA hST [] rfl [] rfl) rfl rfl hl.1 rfl (lv_room (Nat.le_of_ble_eq_true rfl)) dX5_moved_192 ⟨Nat.zero_le _, Nat.zero_le _⟩) hP hS hA (fun H locs hP hS => ?_)
                  obtain ⟨h_117, hJ⟩ := g_in hJ
                  refine va_zald hx hb hK hP 6 5 rfl rfl h_117 dX5_moved_195 ?_
                  refine lv_if_ne (tgt := 201) hx hb dX5_moved_196 (by decide) (fun c_118 => ?_) (fun c_118 => ?_)
                  · have hJ := j_f c_118 hJ
                    refine lv_iconst (v := 0) hx hb dX5_moved_201 (by decide) ?_
                    refine lv_istore (lv' := [(9, .int (0 : Int32)), (5, .int ((((p0 - p0 / (8 : Int32) * (8 : Int32)) + (8 : Int32)) - (1 : Int32)) - (((p0 - p0 / (8 : Int32) * (8 : Int32)) + (8 : Int32)) - (1 : Int32)) / (8 : Int32) * (8 : Int32))), (8, .int (1 : Int32)), (0, .ref aM), (2, .int p1), (3, .int x3_110), (4, .int x4_111), (6, .int (1 : Int32)), (7, .int rd)]) hx hb dX5_moved_202 hl (by decide) rfl (fun ls hl => ?_)
                    refine L_204 ((((p0 - p0 / (8 : Int32) * (8 : Int32)) + (8 : Int32)) - (1 : Int32)) - (((p0 - p0 / (8 : Int32) * (8 : Int32)) + (8 : Int32)) - (1 : Int32)) / (8 : Int32) * (8 : Int32)) (1 : Int32) rd _ ?_ F H locs x3_110 x4_111 (0 : Int32) ls hJ hP hS (lv_sub hl [3, 5, 6, 1, 7, 8, 0] rfl)
                    · intro H locs x3_119 x4_120 x9_121 ls hJ hP hS hl
                      refine lv_iload_n hx hb dX5_moved_269 rfl (lv_at hl 0 rfl) ?_
                      refine lv_iload hx hb dX5_moved_270 (lv_at hl 1 rfl) ?_
                      refine lv_iload hx hb dX5_moved_272 (lv_at hl 2 rfl) ?_
                      obtain ⟨v_122, hv_122, hJ⟩ := j_b hJ
                      refine ro_i (va_runS (As := [.int x3_119, .int x4_120, .int ((((p0 - p0 / (8 : Int32) * (8 : Int32)) + (8 : Int32)) - (1 : Int32)) - (((p0 - p0 / (8 : Int32) * (8 : Int32)) + (8 : Int32)) - (1 : Int32)) / (8 : Int32) * (8 : Int32))]) (rest := []) ⟨hx, hb, hml, hown, hts⟩ (c_X5_place l D x3_119 x4_120 ((((p0 - p0 / (8 : Int32) * (8 : Int32)) + (8 : Int32)) - (1 : Int32)) - (((p0 - p0 / (8 : Int32) * (8 : Int32)) + (8 : Int32)) - (1 : Int32)) / (8 : Int32) * (8 : Int32)) tX tY H.size F v_122 hv_122) (va_cwS 3 hts gX5_moved_X5_place rfl rfl rfl (by decide +kernel) ⟨Nat.le_of_ble_eq_true rfl, Nat.le_of_ble_eq_true rfl⟩) (preRS [.int x3_119, .int x4_120, .int ((((p0 - p0 / (8 : Int32) * (8 : Int32)) + (8 : Int32)) - (1 : Int32)) - (((p0 - p0 / (8 : Int32) * (8 : Int32)) + (8 : Int32)) - (1 : Int32)) / (8 : Int32) * (8 : Int32))] hP hK hS hA hST [] rfl [] rfl) rfl rfl hl.1 rfl (lv_room (Nat.le_of_ble_eq_true rfl)) dX5_moved_274 ⟨Nat.zero_le _, Nat.zero_le _⟩) hP hS hA (fun H locs hP hS => ?_)
                      have ho := Option.some.inj hJ
                      exact W.iret (v := v_122) hx hb hr (fun t ht hW => ⟨⟨_, (), rfl, ho, trivial⟩, hS.F ht⟩) hS.2.2 dX5_moved_277
                  · have hJ := j_t c_118 hJ
                    refine lv_iconst (v := (-1)) hx hb dX5_moved_199 (by decide) ?_
                    have ho := Option.some.inj hJ
                    exact W.iret (v := (-1 : Int32)) hx hb hr (fun t ht hW => ⟨⟨_, (), rfl, ho, trivial⟩, hS.F ht⟩) hS.2.2 dX5_moved_200
                · have hJ := j_t c_115 hJ
                  refine lv_iload hx hb dX5_moved_162 (lv_at hl 5 rfl) ?_
                  refine lv_iload hx hb dX5_moved_164 (lv_at hl 0 rfl) ?_
                  refine lv_iadd hx hb dX5_moved_166 ?_
                  refine lv_goto (tgt := 178) hx hb dX5_moved_167 (by decide) ?_
                  refine lv_bipush (v := 8) hx hb dX5_moved_178 (by decide) ?_
                  refine lv_irem hx hb dX5_moved_180 (by decide) ?_
                  refine lv_istore (lv' := [(5, .int (((p0 - p0 / (8 : Int32) * (8 : Int32)) + (1 : Int32)) - ((p0 - p0 / (8 : Int32) * (8 : Int32)) + (1 : Int32)) / (8 : Int32) * (8 : Int32))), (8, .int (1 : Int32)), (0, .ref aM), (2, .int p1), (3, .int x3_110), (4, .int x4_111), (6, .int (1 : Int32)), (7, .int rd)]) hx hb dX5_moved_181 hl (by decide) rfl (fun ls hl => ?_)
                  refine lv_aload_n hx hb dX5_moved_183 rfl (lv_at hl 2 rfl) ?_
                  refine va_get (D := D) (ci := 6) (v := .ref aFr) (C := RX5) (T := TX5) (N := 26) hx hb hts iX5 hown hK hP 0 rfl rfl 23 (by decide) k_1 (fun _ h9 => h9) rfl dX5_moved_184 ?_
                  refine lv_iload_n hx hb dX5_moved_187 rfl (lv_at hl 4 rfl) ?_
                  refine lv_iload hx hb dX5_moved_188 (lv_at hl 5 rfl) ?_
                  refine lv_iload hx hb dX5_moved_190 (lv_at hl 0 rfl) ?_
                  obtain ⟨v_123, hv_123, hJ⟩ := j_b hJ
                  refine ro_i (va_runS (As := [.int x3_110, .int x4_111, .int (((p0 - p0 / (8 : Int32) * (8 : Int32)) + (1 : Int32)) - ((p0 - p0 / (8 : Int32) * (8 : Int32)) + (1 : Int32)) / (8 : Int32) * (8 : Int32))]) (rest := [.ref aFr]) ⟨hx, hb, hml, hown, hts⟩ (c_X5_place l D x3_110 x4_111 (((p0 - p0 / (8 : Int32) * (8 : Int32)) + (1 : Int32)) - ((p0 - p0 / (8 : Int32) * (8 : Int32)) + (1 : Int32)) / (8 : Int32) * (8 : Int32)) tX tY H.size F v_123 hv_123) (va_cwS 3 hts gX5_moved_X5_place rfl rfl rfl (by decide +kernel) ⟨Nat.le_of_ble_eq_true rfl, Nat.le_of_ble_eq_true rfl⟩) (preRS [.int x3_110, .int x4_111, .int (((p0 - p0 / (8 : Int32) * (8 : Int32)) + (1 : Int32)) - ((p0 - p0 / (8 : Int32) * (8 : Int32)) + (1 : Int32)) / (8 : Int32) * (8 : Int32))] hP hK hS hA hST [] rfl [] rfl) rfl rfl hl.1 rfl (lv_room (Nat.le_of_ble_eq_true rfl)) dX5_moved_192 ⟨Nat.zero_le _, Nat.zero_le _⟩) hP hS hA (fun H locs hP hS => ?_)
                  obtain ⟨h_124, hJ⟩ := g_in hJ
                  refine va_zald hx hb hK hP 6 5 rfl rfl h_124 dX5_moved_195 ?_
                  refine lv_if_ne (tgt := 201) hx hb dX5_moved_196 (by decide) (fun c_125 => ?_) (fun c_125 => ?_)
                  · have hJ := j_f c_125 hJ
                    refine lv_iconst (v := 0) hx hb dX5_moved_201 (by decide) ?_
                    refine lv_istore (lv' := [(9, .int (0 : Int32)), (5, .int (((p0 - p0 / (8 : Int32) * (8 : Int32)) + (1 : Int32)) - ((p0 - p0 / (8 : Int32) * (8 : Int32)) + (1 : Int32)) / (8 : Int32) * (8 : Int32))), (8, .int (1 : Int32)), (0, .ref aM), (2, .int p1), (3, .int x3_110), (4, .int x4_111), (6, .int (1 : Int32)), (7, .int rd)]) hx hb dX5_moved_202 hl (by decide) rfl (fun ls hl => ?_)
                    refine L_204 (((p0 - p0 / (8 : Int32) * (8 : Int32)) + (1 : Int32)) - ((p0 - p0 / (8 : Int32) * (8 : Int32)) + (1 : Int32)) / (8 : Int32) * (8 : Int32)) (1 : Int32) rd _ ?_ F H locs x3_110 x4_111 (0 : Int32) ls hJ hP hS (lv_sub hl [3, 5, 6, 1, 7, 8, 0] rfl)
                    · intro H locs x3_126 x4_127 x9_128 ls hJ hP hS hl
                      refine lv_iload_n hx hb dX5_moved_269 rfl (lv_at hl 0 rfl) ?_
                      refine lv_iload hx hb dX5_moved_270 (lv_at hl 1 rfl) ?_
                      refine lv_iload hx hb dX5_moved_272 (lv_at hl 2 rfl) ?_
                      obtain ⟨v_129, hv_129, hJ⟩ := j_b hJ
                      refine ro_i (va_runS (As := [.int x3_126, .int x4_127, .int (((p0 - p0 / (8 : Int32) * (8 : Int32)) + (1 : Int32)) - ((p0 - p0 / (8 : Int32) * (8 : Int32)) + (1 : Int32)) / (8 : Int32) * (8 : Int32))]) (rest := []) ⟨hx, hb, hml, hown, hts⟩ (c_X5_place l D x3_126 x4_127 (((p0 - p0 / (8 : Int32) * (8 : Int32)) + (1 : Int32)) - ((p0 - p0 / (8 : Int32) * (8 : Int32)) + (1 : Int32)) / (8 : Int32) * (8 : Int32)) tX tY H.size F v_129 hv_129) (va_cwS 3 hts gX5_moved_X5_place rfl rfl rfl (by decide +kernel) ⟨Nat.le_of_ble_eq_true rfl, Nat.le_of_ble_eq_true rfl⟩) (preRS [.int x3_126, .int x4_127, .int (((p0 - p0 / (8 : Int32) * (8 : Int32)) + (1 : Int32)) - ((p0 - p0 / (8 : Int32) * (8 : Int32)) + (1 : Int32)) / (8 : Int32) * (8 : Int32))] hP hK hS hA hST [] rfl [] rfl) rfl rfl hl.1 rfl (lv_room (Nat.le_of_ble_eq_true rfl)) dX5_moved_274 ⟨Nat.zero_le _, Nat.zero_le _⟩) hP hS hA (fun H locs hP hS => ?_)
                      have ho := Option.some.inj hJ
                      exact W.iret (v := v_129) hx hb hr (fun t ht hW => ⟨⟨_, (), rfl, ho, trivial⟩, hS.F ht⟩) hS.2.2 dX5_moved_277
                  · have hJ := j_t c_125 hJ
                    refine lv_iconst (v := (-1)) hx hb dX5_moved_199 (by decide) ?_
                    have ho := Option.some.inj hJ
                    exact W.iret (v := (-1 : Int32)) hx hb hr (fun t ht hW => ⟨⟨_, (), rfl, ho, trivial⟩, hS.F ht⟩) hS.2.2 dX5_moved_200
              · have hJ := j_f c_114 hJ
                refine lv_iconst (v := 2) hx hb dX5_moved_149 (by decide) ?_
                refine lv_goto (tgt := 154) hx hb dX5_moved_150 (by decide) ?_
                refine lv_istore (lv' := [(8, .int (2 : Int32)), (0, .ref aM), (2, .int p1), (3, .int x3_110), (4, .int x4_111), (5, .int (p0 - p0 / (8 : Int32) * (8 : Int32))), (6, .int (1 : Int32)), (7, .int rd)]) hx hb dX5_moved_154 hl (by decide) rfl (fun ls hl => ?_)
                refine lv_iload_n hx hb dX5_moved_156 rfl (lv_at hl 2 rfl) ?_
                refine lv_iconst (v := 2) hx hb dX5_moved_157 (by decide) ?_
                refine lv_irem hx hb dX5_moved_158 (by decide) ?_
                refine lv_if_ne (tgt := 170) hx hb dX5_moved_159 (by decide) (fun c_130 => ?_) (fun c_130 => ?_)
                · have hJ := j_f c_130 hJ
                  refine lv_iload hx hb dX5_moved_170 (lv_at hl 5 rfl) ?_
                  refine lv_bipush (v := 8) hx hb dX5_moved_172 (by decide) ?_
                  refine lv_iadd hx hb dX5_moved_174 ?_
                  refine lv_iload hx hb dX5_moved_175 (lv_at hl 0 rfl) ?_
                  refine lv_isub hx hb dX5_moved_177 ?_
                  refine lv_bipush (v := 8) hx hb dX5_moved_178 (by decide) ?_
                  refine lv_irem hx hb dX5_moved_180 (by decide) ?_
                  refine lv_istore (lv' := [(5, .int ((((p0 - p0 / (8 : Int32) * (8 : Int32)) + (8 : Int32)) - (2 : Int32)) - (((p0 - p0 / (8 : Int32) * (8 : Int32)) + (8 : Int32)) - (2 : Int32)) / (8 : Int32) * (8 : Int32))), (8, .int (2 : Int32)), (0, .ref aM), (2, .int p1), (3, .int x3_110), (4, .int x4_111), (6, .int (1 : Int32)), (7, .int rd)]) hx hb dX5_moved_181 hl (by decide) rfl (fun ls hl => ?_)
                  refine lv_aload_n hx hb dX5_moved_183 rfl (lv_at hl 2 rfl) ?_
                  refine va_get (D := D) (ci := 6) (v := .ref aFr) (C := RX5) (T := TX5) (N := 26) hx hb hts iX5 hown hK hP 0 rfl rfl 23 (by decide) k_1 (fun _ h9 => h9) rfl dX5_moved_184 ?_
                  refine lv_iload_n hx hb dX5_moved_187 rfl (lv_at hl 4 rfl) ?_
                  refine lv_iload hx hb dX5_moved_188 (lv_at hl 5 rfl) ?_
                  refine lv_iload hx hb dX5_moved_190 (lv_at hl 0 rfl) ?_
                  obtain ⟨v_131, hv_131, hJ⟩ := j_b hJ
                  refine ro_i (va_runS (As := [.int x3_110, .int x4_111, .int ((((p0 - p0 / (8 : Int32) * (8 : Int32)) + (8 : Int32)) - (2 : Int32)) - (((p0 - p0 / (8 : Int32) * (8 : Int32)) + (8 : Int32)) - (2 : Int32)) / (8 : Int32) * (8 : Int32))]) (rest := [.ref aFr]) ⟨hx, hb, hml, hown, hts⟩ (c_X5_place l D x3_110 x4_111 ((((p0 - p0 / (8 : Int32) * (8 : Int32)) + (8 : Int32)) - (2 : Int32)) - (((p0 - p0 / (8 : Int32) * (8 : Int32)) + (8 : Int32)) - (2 : Int32)) / (8 : Int32) * (8 : Int32)) tX tY H.size F v_131 hv_131) (va_cwS 3 hts gX5_moved_X5_place rfl rfl rfl (by decide +kernel) ⟨Nat.le_of_ble_eq_true rfl, Nat.le_of_ble_eq_true rfl⟩) (preRS [.int x3_110, .int x4_111, .int ((((p0 - p0 / (8 : Int32) * (8 : Int32)) + (8 : Int32)) - (2 : Int32)) - (((p0 - p0 / (8 : Int32) * (8 : Int32)) + (8 : Int32)) - (2 : Int32)) / (8 : Int32) * (8 : Int32))] hP hK hS hA hST [] rfl [] rfl) rfl rfl hl.1 rfl (lv_room (Nat.le_of_ble_eq_true rfl)) dX5_moved_192 ⟨Nat.zero_le _, Nat.zero_le _⟩) hP hS hA (fun H locs hP hS => ?_)
                  obtain ⟨h_132, hJ⟩ := g_in hJ
                  refine va_zald hx hb hK hP 6 5 rfl rfl h_132 dX5_moved_195 ?_
                  refine lv_if_ne (tgt := 201) hx hb dX5_moved_196 (by decide) (fun c_133 => ?_) (fun c_133 => ?_)
                  · have hJ := j_f c_133 hJ
                    refine lv_iconst (v := 0) hx hb dX5_moved_201 (by decide) ?_
                    refine lv_istore (lv' := [(9, .int (0 : Int32)), (5, .int ((((p0 - p0 / (8 : Int32) * (8 : Int32)) + (8 : Int32)) - (2 : Int32)) - (((p0 - p0 / (8 : Int32) * (8 : Int32)) + (8 : Int32)) - (2 : Int32)) / (8 : Int32) * (8 : Int32))), (8, .int (2 : Int32)), (0, .ref aM), (2, .int p1), (3, .int x3_110), (4, .int x4_111), (6, .int (1 : Int32)), (7, .int rd)]) hx hb dX5_moved_202 hl (by decide) rfl (fun ls hl => ?_)
                    refine L_204 ((((p0 - p0 / (8 : Int32) * (8 : Int32)) + (8 : Int32)) - (2 : Int32)) - (((p0 - p0 / (8 : Int32) * (8 : Int32)) + (8 : Int32)) - (2 : Int32)) / (8 : Int32) * (8 : Int32)) (1 : Int32) rd _ ?_ F H locs x3_110 x4_111 (0 : Int32) ls hJ hP hS (lv_sub hl [3, 5, 6, 1, 7, 8, 0] rfl)
                    · intro H locs x3_134 x4_135 x9_136 ls hJ hP hS hl
                      refine lv_iload_n hx hb dX5_moved_269 rfl (lv_at hl 0 rfl) ?_
                      refine lv_iload hx hb dX5_moved_270 (lv_at hl 1 rfl) ?_
                      refine lv_iload hx hb dX5_moved_272 (lv_at hl 2 rfl) ?_
                      obtain ⟨v_137, hv_137, hJ⟩ := j_b hJ
                      refine ro_i (va_runS (As := [.int x3_134, .int x4_135, .int ((((p0 - p0 / (8 : Int32) * (8 : Int32)) + (8 : Int32)) - (2 : Int32)) - (((p0 - p0 / (8 : Int32) * (8 : Int32)) + (8 : Int32)) - (2 : Int32)) / (8 : Int32) * (8 : Int32))]) (rest := []) ⟨hx, hb, hml, hown, hts⟩ (c_X5_place l D x3_134 x4_135 ((((p0 - p0 / (8 : Int32) * (8 : Int32)) + (8 : Int32)) - (2 : Int32)) - (((p0 - p0 / (8 : Int32) * (8 : Int32)) + (8 : Int32)) - (2 : Int32)) / (8 : Int32) * (8 : Int32)) tX tY H.size F v_137 hv_137) (va_cwS 3 hts gX5_moved_X5_place rfl rfl rfl (by decide +kernel) ⟨Nat.le_of_ble_eq_true rfl, Nat.le_of_ble_eq_true rfl⟩) (preRS [.int x3_134, .int x4_135, .int ((((p0 - p0 / (8 : Int32) * (8 : Int32)) + (8 : Int32)) - (2 : Int32)) - (((p0 - p0 / (8 : Int32) * (8 : Int32)) + (8 : Int32)) - (2 : Int32)) / (8 : Int32) * (8 : Int32))] hP hK hS hA hST [] rfl [] rfl) rfl rfl hl.1 rfl (lv_room (Nat.le_of_ble_eq_true rfl)) dX5_moved_274 ⟨Nat.zero_le _, Nat.zero_le _⟩) hP hS hA (fun H locs hP hS => ?_)
                      have ho := Option.some.inj hJ
                      exact W.iret (v := v_137) hx hb hr (fun t ht hW => ⟨⟨_, (), rfl, ho, trivial⟩, hS.F ht⟩) hS.2.2 dX5_moved_277
                  · have hJ := j_t c_133 hJ
                    refine lv_iconst (v := (-1)) hx hb dX5_moved_199 (by decide) ?_
                    have ho := Option.some.inj hJ
                    exact W.iret (v := (-1 : Int32)) hx hb hr (fun t ht hW => ⟨⟨_, (), rfl, ho, trivial⟩, hS.F ht⟩) hS.2.2 dX5_moved_200
                · have hJ := j_t c_130 hJ
                  refine lv_iload hx hb dX5_moved_162 (lv_at hl 5 rfl) ?_
                  refine lv_iload hx hb dX5_moved_164 (lv_at hl 0 rfl) ?_
                  refine lv_iadd hx hb dX5_moved_166 ?_
                  refine lv_goto (tgt := 178) hx hb dX5_moved_167 (by decide) ?_
                  refine lv_bipush (v := 8) hx hb dX5_moved_178 (by decide) ?_
                  refine lv_irem hx hb dX5_moved_180 (by decide) ?_
                  refine lv_istore (lv' := [(5, .int (((p0 - p0 / (8 : Int32) * (8 : Int32)) + (2 : Int32)) - ((p0 - p0 / (8 : Int32) * (8 : Int32)) + (2 : Int32)) / (8 : Int32) * (8 : Int32))), (8, .int (2 : Int32)), (0, .ref aM), (2, .int p1), (3, .int x3_110), (4, .int x4_111), (6, .int (1 : Int32)), (7, .int rd)]) hx hb dX5_moved_181 hl (by decide) rfl (fun ls hl => ?_)
                  refine lv_aload_n hx hb dX5_moved_183 rfl (lv_at hl 2 rfl) ?_
                  refine va_get (D := D) (ci := 6) (v := .ref aFr) (C := RX5) (T := TX5) (N := 26) hx hb hts iX5 hown hK hP 0 rfl rfl 23 (by decide) k_1 (fun _ h9 => h9) rfl dX5_moved_184 ?_
                  refine lv_iload_n hx hb dX5_moved_187 rfl (lv_at hl 4 rfl) ?_
                  refine lv_iload hx hb dX5_moved_188 (lv_at hl 5 rfl) ?_
                  refine lv_iload hx hb dX5_moved_190 (lv_at hl 0 rfl) ?_
                  obtain ⟨v_138, hv_138, hJ⟩ := j_b hJ
                  refine ro_i (va_runS (As := [.int x3_110, .int x4_111, .int (((p0 - p0 / (8 : Int32) * (8 : Int32)) + (2 : Int32)) - ((p0 - p0 / (8 : Int32) * (8 : Int32)) + (2 : Int32)) / (8 : Int32) * (8 : Int32))]) (rest := [.ref aFr]) ⟨hx, hb, hml, hown, hts⟩ (c_X5_place l D x3_110 x4_111 (((p0 - p0 / (8 : Int32) * (8 : Int32)) + (2 : Int32)) - ((p0 - p0 / (8 : Int32) * (8 : Int32)) + (2 : Int32)) / (8 : Int32) * (8 : Int32)) tX tY H.size F v_138 hv_138) (va_cwS 3 hts gX5_moved_X5_place rfl rfl rfl (by decide +kernel) ⟨Nat.le_of_ble_eq_true rfl, Nat.le_of_ble_eq_true rfl⟩) (preRS [.int x3_110, .int x4_111, .int (((p0 - p0 / (8 : Int32) * (8 : Int32)) + (2 : Int32)) - ((p0 - p0 / (8 : Int32) * (8 : Int32)) + (2 : Int32)) / (8 : Int32) * (8 : Int32))] hP hK hS hA hST [] rfl [] rfl) rfl rfl hl.1 rfl (lv_room (Nat.le_of_ble_eq_true rfl)) dX5_moved_192 ⟨Nat.zero_le _, Nat.zero_le _⟩) hP hS hA (fun H locs hP hS => ?_)
                  obtain ⟨h_139, hJ⟩ := g_in hJ
                  refine va_zald hx hb hK hP 6 5 rfl rfl h_139 dX5_moved_195 ?_
                  refine lv_if_ne (tgt := 201) hx hb dX5_moved_196 (by decide) (fun c_140 => ?_) (fun c_140 => ?_)
                  · have hJ := j_f c_140 hJ
                    refine lv_iconst (v := 0) hx hb dX5_moved_201 (by decide) ?_
                    refine lv_istore (lv' := [(9, .int (0 : Int32)), (5, .int (((p0 - p0 / (8 : Int32) * (8 : Int32)) + (2 : Int32)) - ((p0 - p0 / (8 : Int32) * (8 : Int32)) + (2 : Int32)) / (8 : Int32) * (8 : Int32))), (8, .int (2 : Int32)), (0, .ref aM), (2, .int p1), (3, .int x3_110), (4, .int x4_111), (6, .int (1 : Int32)), (7, .int rd)]) hx hb dX5_moved_202 hl (by decide) rfl (fun ls hl => ?_)
                    refine L_204 (((p0 - p0 / (8 : Int32) * (8 : Int32)) + (2 : Int32)) - ((p0 - p0 / (8 : Int32) * (8 : Int32)) + (2 : Int32)) / (8 : Int32) * (8 : Int32)) (1 : Int32) rd _ ?_ F H locs x3_110 x4_111 (0 : Int32) ls hJ hP hS (lv_sub hl [3, 5, 6, 1, 7, 8, 0] rfl)
                    · intro H locs x3_141 x4_142 x9_143 ls hJ hP hS hl
                      refine lv_iload_n hx hb dX5_moved_269 rfl (lv_at hl 0 rfl) ?_
                      refine lv_iload hx hb dX5_moved_270 (lv_at hl 1 rfl) ?_
                      refine lv_iload hx hb dX5_moved_272 (lv_at hl 2 rfl) ?_
                      obtain ⟨v_144, hv_144, hJ⟩ := j_b hJ
                      refine ro_i (va_runS (As := [.int x3_141, .int x4_142, .int (((p0 - p0 / (8 : Int32) * (8 : Int32)) + (2 : Int32)) - ((p0 - p0 / (8 : Int32) * (8 : Int32)) + (2 : Int32)) / (8 : Int32) * (8 : Int32))]) (rest := []) ⟨hx, hb, hml, hown, hts⟩ (c_X5_place l D x3_141 x4_142 (((p0 - p0 / (8 : Int32) * (8 : Int32)) + (2 : Int32)) - ((p0 - p0 / (8 : Int32) * (8 : Int32)) + (2 : Int32)) / (8 : Int32) * (8 : Int32)) tX tY H.size F v_144 hv_144) (va_cwS 3 hts gX5_moved_X5_place rfl rfl rfl (by decide +kernel) ⟨Nat.le_of_ble_eq_true rfl, Nat.le_of_ble_eq_true rfl⟩) (preRS [.int x3_141, .int x4_142, .int (((p0 - p0 / (8 : Int32) * (8 : Int32)) + (2 : Int32)) - ((p0 - p0 / (8 : Int32) * (8 : Int32)) + (2 : Int32)) / (8 : Int32) * (8 : Int32))] hP hK hS hA hST [] rfl [] rfl) rfl rfl hl.1 rfl (lv_room (Nat.le_of_ble_eq_true rfl)) dX5_moved_274 ⟨Nat.zero_le _, Nat.zero_le _⟩) hP hS hA (fun H locs hP hS => ?_)
                      have ho := Option.some.inj hJ
                      exact W.iret (v := v_144) hx hb hr (fun t ht hW => ⟨⟨_, (), rfl, ho, trivial⟩, hS.F ht⟩) hS.2.2 dX5_moved_277
                  · have hJ := j_t c_140 hJ
                    refine lv_iconst (v := (-1)) hx hb dX5_moved_199 (by decide) ?_
                    have ho := Option.some.inj hJ
                    exact W.iret (v := (-1 : Int32)) hx hb hr (fun t ht hW => ⟨⟨_, (), rfl, ho, trivial⟩, hS.F ht⟩) hS.2.2 dX5_moved_200
            · have hJ := j_f c_113 hJ
              refine lv_iload_n hx hb dX5_moved_133 rfl (lv_at hl 2 rfl) ?_
              refine lv_iload hx hb dX5_moved_134 (lv_at hl 3 rfl) ?_
              refine lv_iload hx hb dX5_moved_136 (lv_at hl 4 rfl) ?_
              obtain ⟨v_145, hv_145, hJ⟩ := j_b hJ
              refine ro_i (va_runS (As := [.int x3_110, .int x4_111, .int (p0 - p0 / (8 : Int32) * (8 : Int32))]) (rest := []) ⟨hx, hb, hml, hown, hts⟩ (c_X5_place l D x3_110 x4_111 (p0 - p0 / (8 : Int32) * (8 : Int32)) tX tY H.size F v_145 hv_145) (va_cwS 3 hts gX5_moved_X5_place rfl rfl rfl (by decide +kernel) ⟨Nat.le_of_ble_eq_true rfl, Nat.le_of_ble_eq_true rfl⟩) (preRS [.int x3_110, .int x4_111, .int (p0 - p0 / (8 : Int32) * (8 : Int32))] hP hK hS hA hST [] rfl [] rfl) rfl rfl hl.1 rfl (lv_room (Nat.le_of_ble_eq_true rfl)) dX5_moved_138 ⟨Nat.zero_le _, Nat.zero_le _⟩) hP hS hA (fun H locs hP hS => ?_)
              have ho := Option.some.inj hJ
              exact W.iret (v := v_145) hx hb hr (fun t ht hW => ⟨⟨_, (), rfl, ho, trivial⟩, hS.F ht⟩) hS.2.2 dX5_moved_141
        · have hJ := j_f c_109 hJ
          refine lv_iconst (v := 1) hx hb dX5_moved_50 (by decide) ?_
          refine lv_goto (tgt := 58) hx hb dX5_moved_51 (by decide) ?_
          refine lv_istore (lv' := [(7, .int (1 : Int32)), (6, .int (1 : Int32)), (5, .int (p0 - p0 / (8 : Int32) * (8 : Int32))), (4, .int v_4), (3, .int v_3), (0, .ref aM), (1, .int p0), (2, .int p1)]) hx hb dX5_moved_58 hl (by decide) rfl (fun ls hl => ?_)
          refine lv_iconst (v := 0) hx hb dX5_moved_60 (by decide) ?_
          refine lv_istore (lv' := [(8, .int (0 : Int32)), (7, .int (1 : Int32)), (6, .int (1 : Int32)), (5, .int (p0 - p0 / (8 : Int32) * (8 : Int32))), (4, .int v_4), (3, .int v_3), (0, .ref aM), (1, .int p0), (2, .int p1)]) hx hb dX5_moved_61 hl (by decide) rfl (fun ls hl => ?_)
          refine L_63 p1 (p0 - p0 / (8 : Int32) * (8 : Int32)) (1 : Int32) (1 : Int32) _ ?_ F H locs v_3 v_4 (0 : Int32) ls hJ hP hS (lv_sub hl [6, 8, 5, 4, 3, 2, 1, 0] rfl)
          · intro H locs x3_146 x4_147 x8_148 ls hJ hP hS hl
            refine lv_iload_n hx hb dX5_moved_128 rfl (lv_at hl 1 rfl) ?_
            refine lv_iconst (v := 2) hx hb dX5_moved_129 (by decide) ?_
            refine lv_icmp_ge (tgt := 142) hx hb dX5_moved_130 (by decide) (fun c_149 => ?_) (fun c_149 => ?_)
            · have hJ := j_t c_149 hJ
              refine lv_aload_n hx hb dX5_moved_142 rfl (lv_at hl 0 rfl) ?_
              refine va_get (D := D) (ci := 6) (v := .int fou) (C := RX5) (T := TX5) (N := 26) hx hb hts iX5 hown hK hP 0 rfl rfl 3 (by decide) k_3 (fun _ h9 => h9) rfl dX5_moved_143 ?_
              refine lv_if_eq (tgt := 153) hx hb dX5_moved_146 (by decide) (fun c_150 => ?_) (fun c_150 => ?_)
              · have hJ := j_t c_150 hJ
                refine lv_iconst (v := 1) hx hb dX5_moved_153 (by decide) ?_
                refine lv_istore (lv' := [(8, .int (1 : Int32)), (0, .ref aM), (2, .int p1), (3, .int x3_146), (4, .int x4_147), (5, .int (p0 - p0 / (8 : Int32) * (8 : Int32))), (6, .int (1 : Int32)), (7, .int (1 : Int32))]) hx hb dX5_moved_154 hl (by decide) rfl (fun ls hl => ?_)
                refine lv_iload_n hx hb dX5_moved_156 rfl (lv_at hl 2 rfl) ?_
                refine lv_iconst (v := 2) hx hb dX5_moved_157 (by decide) ?_
                refine lv_irem hx hb dX5_moved_158 (by decide) ?_
                refine lv_if_ne (tgt := 170) hx hb dX5_moved_159 (by decide) (fun c_151 => ?_) (fun c_151 => ?_)
                · have hJ := j_f c_151 hJ
                  refine lv_iload hx hb dX5_moved_170 (lv_at hl 5 rfl) ?_
                  refine lv_bipush (v := 8) hx hb dX5_moved_172 (by decide) ?_
                  refine lv_iadd hx hb dX5_moved_174 ?_
                  refine lv_iload hx hb dX5_moved_175 (lv_at hl 0 rfl) ?_
                  refine lv_isub hx hb dX5_moved_177 ?_
                  refine lv_bipush (v := 8) hx hb dX5_moved_178 (by decide) ?_
                  refine lv_irem hx hb dX5_moved_180 (by decide) ?_
                  refine lv_istore (lv' := [(5, .int ((((p0 - p0 / (8 : Int32) * (8 : Int32)) + (8 : Int32)) - (1 : Int32)) - (((p0 - p0 / (8 : Int32) * (8 : Int32)) + (8 : Int32)) - (1 : Int32)) / (8 : Int32) * (8 : Int32))), (8, .int (1 : Int32)), (0, .ref aM), (2, .int p1), (3, .int x3_146), (4, .int x4_147), (6, .int (1 : Int32)), (7, .int (1 : Int32))]) hx hb dX5_moved_181 hl (by decide) rfl (fun ls hl => ?_)
                  refine lv_aload_n hx hb dX5_moved_183 rfl (lv_at hl 2 rfl) ?_
                  refine va_get (D := D) (ci := 6) (v := .ref aFr) (C := RX5) (T := TX5) (N := 26) hx hb hts iX5 hown hK hP 0 rfl rfl 23 (by decide) k_1 (fun _ h9 => h9) rfl dX5_moved_184 ?_
                  refine lv_iload_n hx hb dX5_moved_187 rfl (lv_at hl 4 rfl) ?_
                  refine lv_iload hx hb dX5_moved_188 (lv_at hl 5 rfl) ?_
                  refine lv_iload hx hb dX5_moved_190 (lv_at hl 0 rfl) ?_
                  obtain ⟨v_152, hv_152, hJ⟩ := j_b hJ
                  refine ro_i (va_runS (As := [.int x3_146, .int x4_147, .int ((((p0 - p0 / (8 : Int32) * (8 : Int32)) + (8 : Int32)) - (1 : Int32)) - (((p0 - p0 / (8 : Int32) * (8 : Int32)) + (8 : Int32)) - (1 : Int32)) / (8 : Int32) * (8 : Int32))]) (rest := [.ref aFr]) ⟨hx, hb, hml, hown, hts⟩ (c_X5_place l D x3_146 x4_147 ((((p0 - p0 / (8 : Int32) * (8 : Int32)) + (8 : Int32)) - (1 : Int32)) - (((p0 - p0 / (8 : Int32) * (8 : Int32)) + (8 : Int32)) - (1 : Int32)) / (8 : Int32) * (8 : Int32)) tX tY H.size F v_152 hv_152) (va_cwS 3 hts gX5_moved_X5_place rfl rfl rfl (by decide +kernel) ⟨Nat.le_of_ble_eq_true rfl, Nat.le_of_ble_eq_true rfl⟩) (preRS [.int x3_146, .int x4_147, .int ((((p0 - p0 / (8 : Int32) * (8 : Int32)) + (8 : Int32)) - (1 : Int32)) - (((p0 - p0 / (8 : Int32) * (8 : Int32)) + (8 : Int32)) - (1 : Int32)) / (8 : Int32) * (8 : Int32))] hP hK hS hA hST [] rfl [] rfl) rfl rfl hl.1 rfl (lv_room (Nat.le_of_ble_eq_true rfl)) dX5_moved_192 ⟨Nat.zero_le _, Nat.zero_le _⟩) hP hS hA (fun H locs hP hS => ?_)
                  obtain ⟨h_153, hJ⟩ := g_in hJ
                  refine va_zald hx hb hK hP 6 5 rfl rfl h_153 dX5_moved_195 ?_
                  refine lv_if_ne (tgt := 201) hx hb dX5_moved_196 (by decide) (fun c_154 => ?_) (fun c_154 => ?_)
                  · have hJ := j_f c_154 hJ
                    refine lv_iconst (v := 0) hx hb dX5_moved_201 (by decide) ?_
                    refine lv_istore (lv' := [(9, .int (0 : Int32)), (5, .int ((((p0 - p0 / (8 : Int32) * (8 : Int32)) + (8 : Int32)) - (1 : Int32)) - (((p0 - p0 / (8 : Int32) * (8 : Int32)) + (8 : Int32)) - (1 : Int32)) / (8 : Int32) * (8 : Int32))), (8, .int (1 : Int32)), (0, .ref aM), (2, .int p1), (3, .int x3_146), (4, .int x4_147), (6, .int (1 : Int32)), (7, .int (1 : Int32))]) hx hb dX5_moved_202 hl (by decide) rfl (fun ls hl => ?_)
                    refine L_204 ((((p0 - p0 / (8 : Int32) * (8 : Int32)) + (8 : Int32)) - (1 : Int32)) - (((p0 - p0 / (8 : Int32) * (8 : Int32)) + (8 : Int32)) - (1 : Int32)) / (8 : Int32) * (8 : Int32)) (1 : Int32) (1 : Int32) _ ?_ F H locs x3_146 x4_147 (0 : Int32) ls hJ hP hS (lv_sub hl [3, 5, 6, 1, 7, 8, 0] rfl)
                    · intro H locs x3_155 x4_156 x9_157 ls hJ hP hS hl
                      refine lv_iload_n hx hb dX5_moved_269 rfl (lv_at hl 0 rfl) ?_
                      refine lv_iload hx hb dX5_moved_270 (lv_at hl 1 rfl) ?_
                      refine lv_iload hx hb dX5_moved_272 (lv_at hl 2 rfl) ?_
                      obtain ⟨v_158, hv_158, hJ⟩ := j_b hJ
                      refine ro_i (va_runS (As := [.int x3_155, .int x4_156, .int ((((p0 - p0 / (8 : Int32) * (8 : Int32)) + (8 : Int32)) - (1 : Int32)) - (((p0 - p0 / (8 : Int32) * (8 : Int32)) + (8 : Int32)) - (1 : Int32)) / (8 : Int32) * (8 : Int32))]) (rest := []) ⟨hx, hb, hml, hown, hts⟩ (c_X5_place l D x3_155 x4_156 ((((p0 - p0 / (8 : Int32) * (8 : Int32)) + (8 : Int32)) - (1 : Int32)) - (((p0 - p0 / (8 : Int32) * (8 : Int32)) + (8 : Int32)) - (1 : Int32)) / (8 : Int32) * (8 : Int32)) tX tY H.size F v_158 hv_158) (va_cwS 3 hts gX5_moved_X5_place rfl rfl rfl (by decide +kernel) ⟨Nat.le_of_ble_eq_true rfl, Nat.le_of_ble_eq_true rfl⟩) (preRS [.int x3_155, .int x4_156, .int ((((p0 - p0 / (8 : Int32) * (8 : Int32)) + (8 : Int32)) - (1 : Int32)) - (((p0 - p0 / (8 : Int32) * (8 : Int32)) + (8 : Int32)) - (1 : Int32)) / (8 : Int32) * (8 : Int32))] hP hK hS hA hST [] rfl [] rfl) rfl rfl hl.1 rfl (lv_room (Nat.le_of_ble_eq_true rfl)) dX5_moved_274 ⟨Nat.zero_le _, Nat.zero_le _⟩) hP hS hA (fun H locs hP hS => ?_)
                      have ho := Option.some.inj hJ
                      exact W.iret (v := v_158) hx hb hr (fun t ht hW => ⟨⟨_, (), rfl, ho, trivial⟩, hS.F ht⟩) hS.2.2 dX5_moved_277
                  · have hJ := j_t c_154 hJ
                    refine lv_iconst (v := (-1)) hx hb dX5_moved_199 (by decide) ?_
                    have ho := Option.some.inj hJ
                    exact W.iret (v := (-1 : Int32)) hx hb hr (fun t ht hW => ⟨⟨_, (), rfl, ho, trivial⟩, hS.F ht⟩) hS.2.2 dX5_moved_200
                · have hJ := j_t c_151 hJ
                  refine lv_iload hx hb dX5_moved_162 (lv_at hl 5 rfl) ?_
                  refine lv_iload hx hb dX5_moved_164 (lv_at hl 0 rfl) ?_
                  refine lv_iadd hx hb dX5_moved_166 ?_
                  refine lv_goto (tgt := 178) hx hb dX5_moved_167 (by decide) ?_
                  refine lv_bipush (v := 8) hx hb dX5_moved_178 (by decide) ?_
                  refine lv_irem hx hb dX5_moved_180 (by decide) ?_
                  refine lv_istore (lv' := [(5, .int (((p0 - p0 / (8 : Int32) * (8 : Int32)) + (1 : Int32)) - ((p0 - p0 / (8 : Int32) * (8 : Int32)) + (1 : Int32)) / (8 : Int32) * (8 : Int32))), (8, .int (1 : Int32)), (0, .ref aM), (2, .int p1), (3, .int x3_146), (4, .int x4_147), (6, .int (1 : Int32)), (7, .int (1 : Int32))]) hx hb dX5_moved_181 hl (by decide) rfl (fun ls hl => ?_)
                  refine lv_aload_n hx hb dX5_moved_183 rfl (lv_at hl 2 rfl) ?_
                  refine va_get (D := D) (ci := 6) (v := .ref aFr) (C := RX5) (T := TX5) (N := 26) hx hb hts iX5 hown hK hP 0 rfl rfl 23 (by decide) k_1 (fun _ h9 => h9) rfl dX5_moved_184 ?_
                  refine lv_iload_n hx hb dX5_moved_187 rfl (lv_at hl 4 rfl) ?_
                  refine lv_iload hx hb dX5_moved_188 (lv_at hl 5 rfl) ?_
                  refine lv_iload hx hb dX5_moved_190 (lv_at hl 0 rfl) ?_
                  obtain ⟨v_159, hv_159, hJ⟩ := j_b hJ
                  refine ro_i (va_runS (As := [.int x3_146, .int x4_147, .int (((p0 - p0 / (8 : Int32) * (8 : Int32)) + (1 : Int32)) - ((p0 - p0 / (8 : Int32) * (8 : Int32)) + (1 : Int32)) / (8 : Int32) * (8 : Int32))]) (rest := [.ref aFr]) ⟨hx, hb, hml, hown, hts⟩ (c_X5_place l D x3_146 x4_147 (((p0 - p0 / (8 : Int32) * (8 : Int32)) + (1 : Int32)) - ((p0 - p0 / (8 : Int32) * (8 : Int32)) + (1 : Int32)) / (8 : Int32) * (8 : Int32)) tX tY H.size F v_159 hv_159) (va_cwS 3 hts gX5_moved_X5_place rfl rfl rfl (by decide +kernel) ⟨Nat.le_of_ble_eq_true rfl, Nat.le_of_ble_eq_true rfl⟩) (preRS [.int x3_146, .int x4_147, .int (((p0 - p0 / (8 : Int32) * (8 : Int32)) + (1 : Int32)) - ((p0 - p0 / (8 : Int32) * (8 : Int32)) + (1 : Int32)) / (8 : Int32) * (8 : Int32))] hP hK hS hA hST [] rfl [] rfl) rfl rfl hl.1 rfl (lv_room (Nat.le_of_ble_eq_true rfl)) dX5_moved_192 ⟨Nat.zero_le _, Nat.zero_le _⟩) hP hS hA (fun H locs hP hS => ?_)
                  obtain ⟨h_160, hJ⟩ := g_in hJ
                  refine va_zald hx hb hK hP 6 5 rfl rfl h_160 dX5_moved_195 ?_
                  refine lv_if_ne (tgt := 201) hx hb dX5_moved_196 (by decide) (fun c_161 => ?_) (fun c_161 => ?_)
                  · have hJ := j_f c_161 hJ
                    refine lv_iconst (v := 0) hx hb dX5_moved_201 (by decide) ?_
                    refine lv_istore (lv' := [(9, .int (0 : Int32)), (5, .int (((p0 - p0 / (8 : Int32) * (8 : Int32)) + (1 : Int32)) - ((p0 - p0 / (8 : Int32) * (8 : Int32)) + (1 : Int32)) / (8 : Int32) * (8 : Int32))), (8, .int (1 : Int32)), (0, .ref aM), (2, .int p1), (3, .int x3_146), (4, .int x4_147), (6, .int (1 : Int32)), (7, .int (1 : Int32))]) hx hb dX5_moved_202 hl (by decide) rfl (fun ls hl => ?_)
                    refine L_204 (((p0 - p0 / (8 : Int32) * (8 : Int32)) + (1 : Int32)) - ((p0 - p0 / (8 : Int32) * (8 : Int32)) + (1 : Int32)) / (8 : Int32) * (8 : Int32)) (1 : Int32) (1 : Int32) _ ?_ F H locs x3_146 x4_147 (0 : Int32) ls hJ hP hS (lv_sub hl [3, 5, 6, 1, 7, 8, 0] rfl)
                    · intro H locs x3_162 x4_163 x9_164 ls hJ hP hS hl
                      refine lv_iload_n hx hb dX5_moved_269 rfl (lv_at hl 0 rfl) ?_
                      refine lv_iload hx hb dX5_moved_270 (lv_at hl 1 rfl) ?_
                      refine lv_iload hx hb dX5_moved_272 (lv_at hl 2 rfl) ?_
                      obtain ⟨v_165, hv_165, hJ⟩ := j_b hJ
                      refine ro_i (va_runS (As := [.int x3_162, .int x4_163, .int (((p0 - p0 / (8 : Int32) * (8 : Int32)) + (1 : Int32)) - ((p0 - p0 / (8 : Int32) * (8 : Int32)) + (1 : Int32)) / (8 : Int32) * (8 : Int32))]) (rest := []) ⟨hx, hb, hml, hown, hts⟩ (c_X5_place l D x3_162 x4_163 (((p0 - p0 / (8 : Int32) * (8 : Int32)) + (1 : Int32)) - ((p0 - p0 / (8 : Int32) * (8 : Int32)) + (1 : Int32)) / (8 : Int32) * (8 : Int32)) tX tY H.size F v_165 hv_165) (va_cwS 3 hts gX5_moved_X5_place rfl rfl rfl (by decide +kernel) ⟨Nat.le_of_ble_eq_true rfl, Nat.le_of_ble_eq_true rfl⟩) (preRS [.int x3_162, .int x4_163, .int (((p0 - p0 / (8 : Int32) * (8 : Int32)) + (1 : Int32)) - ((p0 - p0 / (8 : Int32) * (8 : Int32)) + (1 : Int32)) / (8 : Int32) * (8 : Int32))] hP hK hS hA hST [] rfl [] rfl) rfl rfl hl.1 rfl (lv_room (Nat.le_of_ble_eq_true rfl)) dX5_moved_274 ⟨Nat.zero_le _, Nat.zero_le _⟩) hP hS hA (fun H locs hP hS => ?_)
                      have ho := Option.some.inj hJ
                      exact W.iret (v := v_165) hx hb hr (fun t ht hW => ⟨⟨_, (), rfl, ho, trivial⟩, hS.F ht⟩) hS.2.2 dX5_moved_277
                  · have hJ := j_t c_161 hJ
                    refine lv_iconst (v := (-1)) hx hb dX5_moved_199 (by decide) ?_
                    have ho := Option.some.inj hJ
                    exact W.iret (v := (-1 : Int32)) hx hb hr (fun t ht hW => ⟨⟨_, (), rfl, ho, trivial⟩, hS.F ht⟩) hS.2.2 dX5_moved_200
              · have hJ := j_f c_150 hJ
                refine lv_iconst (v := 2) hx hb dX5_moved_149 (by decide) ?_
                refine lv_goto (tgt := 154) hx hb dX5_moved_150 (by decide) ?_
                refine lv_istore (lv' := [(8, .int (2 : Int32)), (0, .ref aM), (2, .int p1), (3, .int x3_146), (4, .int x4_147), (5, .int (p0 - p0 / (8 : Int32) * (8 : Int32))), (6, .int (1 : Int32)), (7, .int (1 : Int32))]) hx hb dX5_moved_154 hl (by decide) rfl (fun ls hl => ?_)
                refine lv_iload_n hx hb dX5_moved_156 rfl (lv_at hl 2 rfl) ?_
                refine lv_iconst (v := 2) hx hb dX5_moved_157 (by decide) ?_
                refine lv_irem hx hb dX5_moved_158 (by decide) ?_
                refine lv_if_ne (tgt := 170) hx hb dX5_moved_159 (by decide) (fun c_166 => ?_) (fun c_166 => ?_)
                · have hJ := j_f c_166 hJ
                  refine lv_iload hx hb dX5_moved_170 (lv_at hl 5 rfl) ?_
                  refine lv_bipush (v := 8) hx hb dX5_moved_172 (by decide) ?_
                  refine lv_iadd hx hb dX5_moved_174 ?_
                  refine lv_iload hx hb dX5_moved_175 (lv_at hl 0 rfl) ?_
                  refine lv_isub hx hb dX5_moved_177 ?_
                  refine lv_bipush (v := 8) hx hb dX5_moved_178 (by decide) ?_
                  refine lv_irem hx hb dX5_moved_180 (by decide) ?_
                  refine lv_istore (lv' := [(5, .int ((((p0 - p0 / (8 : Int32) * (8 : Int32)) + (8 : Int32)) - (2 : Int32)) - (((p0 - p0 / (8 : Int32) * (8 : Int32)) + (8 : Int32)) - (2 : Int32)) / (8 : Int32) * (8 : Int32))), (8, .int (2 : Int32)), (0, .ref aM), (2, .int p1), (3, .int x3_146), (4, .int x4_147), (6, .int (1 : Int32)), (7, .int (1 : Int32))]) hx hb dX5_moved_181 hl (by decide) rfl (fun ls hl => ?_)
                  refine lv_aload_n hx hb dX5_moved_183 rfl (lv_at hl 2 rfl) ?_
                  refine va_get (D := D) (ci := 6) (v := .ref aFr) (C := RX5) (T := TX5) (N := 26) hx hb hts iX5 hown hK hP 0 rfl rfl 23 (by decide) k_1 (fun _ h9 => h9) rfl dX5_moved_184 ?_
                  refine lv_iload_n hx hb dX5_moved_187 rfl (lv_at hl 4 rfl) ?_
                  refine lv_iload hx hb dX5_moved_188 (lv_at hl 5 rfl) ?_
                  refine lv_iload hx hb dX5_moved_190 (lv_at hl 0 rfl) ?_
                  obtain ⟨v_167, hv_167, hJ⟩ := j_b hJ
                  refine ro_i (va_runS (As := [.int x3_146, .int x4_147, .int ((((p0 - p0 / (8 : Int32) * (8 : Int32)) + (8 : Int32)) - (2 : Int32)) - (((p0 - p0 / (8 : Int32) * (8 : Int32)) + (8 : Int32)) - (2 : Int32)) / (8 : Int32) * (8 : Int32))]) (rest := [.ref aFr]) ⟨hx, hb, hml, hown, hts⟩ (c_X5_place l D x3_146 x4_147 ((((p0 - p0 / (8 : Int32) * (8 : Int32)) + (8 : Int32)) - (2 : Int32)) - (((p0 - p0 / (8 : Int32) * (8 : Int32)) + (8 : Int32)) - (2 : Int32)) / (8 : Int32) * (8 : Int32)) tX tY H.size F v_167 hv_167) (va_cwS 3 hts gX5_moved_X5_place rfl rfl rfl (by decide +kernel) ⟨Nat.le_of_ble_eq_true rfl, Nat.le_of_ble_eq_true rfl⟩) (preRS [.int x3_146, .int x4_147, .int ((((p0 - p0 / (8 : Int32) * (8 : Int32)) + (8 : Int32)) - (2 : Int32)) - (((p0 - p0 / (8 : Int32) * (8 : Int32)) + (8 : Int32)) - (2 : Int32)) / (8 : Int32) * (8 : Int32))] hP hK hS hA hST [] rfl [] rfl) rfl rfl hl.1 rfl (lv_room (Nat.le_of_ble_eq_true rfl)) dX5_moved_192 ⟨Nat.zero_le _, Nat.zero_le _⟩) hP hS hA (fun H locs hP hS => ?_)
                  obtain ⟨h_168, hJ⟩ := g_in hJ
                  refine va_zald hx hb hK hP 6 5 rfl rfl h_168 dX5_moved_195 ?_
                  refine lv_if_ne (tgt := 201) hx hb dX5_moved_196 (by decide) (fun c_169 => ?_) (fun c_169 => ?_)
                  · have hJ := j_f c_169 hJ
                    refine lv_iconst (v := 0) hx hb dX5_moved_201 (by decide) ?_
                    refine lv_istore (lv' := [(9, .int (0 : Int32)), (5, .int ((((p0 - p0 / (8 : Int32) * (8 : Int32)) + (8 : Int32)) - (2 : Int32)) - (((p0 - p0 / (8 : Int32) * (8 : Int32)) + (8 : Int32)) - (2 : Int32)) / (8 : Int32) * (8 : Int32))), (8, .int (2 : Int32)), (0, .ref aM), (2, .int p1), (3, .int x3_146), (4, .int x4_147), (6, .int (1 : Int32)), (7, .int (1 : Int32))]) hx hb dX5_moved_202 hl (by decide) rfl (fun ls hl => ?_)
                    refine L_204 ((((p0 - p0 / (8 : Int32) * (8 : Int32)) + (8 : Int32)) - (2 : Int32)) - (((p0 - p0 / (8 : Int32) * (8 : Int32)) + (8 : Int32)) - (2 : Int32)) / (8 : Int32) * (8 : Int32)) (1 : Int32) (1 : Int32) _ ?_ F H locs x3_146 x4_147 (0 : Int32) ls hJ hP hS (lv_sub hl [3, 5, 6, 1, 7, 8, 0] rfl)
                    · intro H locs x3_170 x4_171 x9_172 ls hJ hP hS hl
                      refine lv_iload_n hx hb dX5_moved_269 rfl (lv_at hl 0 rfl) ?_
                      refine lv_iload hx hb dX5_moved_270 (lv_at hl 1 rfl) ?_
                      refine lv_iload hx hb dX5_moved_272 (lv_at hl 2 rfl) ?_
                      obtain ⟨v_173, hv_173, hJ⟩ := j_b hJ
                      refine ro_i (va_runS (As := [.int x3_170, .int x4_171, .int ((((p0 - p0 / (8 : Int32) * (8 : Int32)) + (8 : Int32)) - (2 : Int32)) - (((p0 - p0 / (8 : Int32) * (8 : Int32)) + (8 : Int32)) - (2 : Int32)) / (8 : Int32) * (8 : Int32))]) (rest := []) ⟨hx, hb, hml, hown, hts⟩ (c_X5_place l D x3_170 x4_171 ((((p0 - p0 / (8 : Int32) * (8 : Int32)) + (8 : Int32)) - (2 : Int32)) - (((p0 - p0 / (8 : Int32) * (8 : Int32)) + (8 : Int32)) - (2 : Int32)) / (8 : Int32) * (8 : Int32)) tX tY H.size F v_173 hv_173) (va_cwS 3 hts gX5_moved_X5_place rfl rfl rfl (by decide +kernel) ⟨Nat.le_of_ble_eq_true rfl, Nat.le_of_ble_eq_true rfl⟩) (preRS [.int x3_170, .int x4_171, .int ((((p0 - p0 / (8 : Int32) * (8 : Int32)) + (8 : Int32)) - (2 : Int32)) - (((p0 - p0 / (8 : Int32) * (8 : Int32)) + (8 : Int32)) - (2 : Int32)) / (8 : Int32) * (8 : Int32))] hP hK hS hA hST [] rfl [] rfl) rfl rfl hl.1 rfl (lv_room (Nat.le_of_ble_eq_true rfl)) dX5_moved_274 ⟨Nat.zero_le _, Nat.zero_le _⟩) hP hS hA (fun H locs hP hS => ?_)
                      have ho := Option.some.inj hJ
                      exact W.iret (v := v_173) hx hb hr (fun t ht hW => ⟨⟨_, (), rfl, ho, trivial⟩, hS.F ht⟩) hS.2.2 dX5_moved_277
                  · have hJ := j_t c_169 hJ
                    refine lv_iconst (v := (-1)) hx hb dX5_moved_199 (by decide) ?_
                    have ho := Option.some.inj hJ
                    exact W.iret (v := (-1 : Int32)) hx hb hr (fun t ht hW => ⟨⟨_, (), rfl, ho, trivial⟩, hS.F ht⟩) hS.2.2 dX5_moved_200
                · have hJ := j_t c_166 hJ
                  refine lv_iload hx hb dX5_moved_162 (lv_at hl 5 rfl) ?_
                  refine lv_iload hx hb dX5_moved_164 (lv_at hl 0 rfl) ?_
                  refine lv_iadd hx hb dX5_moved_166 ?_
                  refine lv_goto (tgt := 178) hx hb dX5_moved_167 (by decide) ?_
                  refine lv_bipush (v := 8) hx hb dX5_moved_178 (by decide) ?_
                  refine lv_irem hx hb dX5_moved_180 (by decide) ?_
                  refine lv_istore (lv' := [(5, .int (((p0 - p0 / (8 : Int32) * (8 : Int32)) + (2 : Int32)) - ((p0 - p0 / (8 : Int32) * (8 : Int32)) + (2 : Int32)) / (8 : Int32) * (8 : Int32))), (8, .int (2 : Int32)), (0, .ref aM), (2, .int p1), (3, .int x3_146), (4, .int x4_147), (6, .int (1 : Int32)), (7, .int (1 : Int32))]) hx hb dX5_moved_181 hl (by decide) rfl (fun ls hl => ?_)
                  refine lv_aload_n hx hb dX5_moved_183 rfl (lv_at hl 2 rfl) ?_
                  refine va_get (D := D) (ci := 6) (v := .ref aFr) (C := RX5) (T := TX5) (N := 26) hx hb hts iX5 hown hK hP 0 rfl rfl 23 (by decide) k_1 (fun _ h9 => h9) rfl dX5_moved_184 ?_
                  refine lv_iload_n hx hb dX5_moved_187 rfl (lv_at hl 4 rfl) ?_
                  refine lv_iload hx hb dX5_moved_188 (lv_at hl 5 rfl) ?_
                  refine lv_iload hx hb dX5_moved_190 (lv_at hl 0 rfl) ?_
                  obtain ⟨v_174, hv_174, hJ⟩ := j_b hJ
                  refine ro_i (va_runS (As := [.int x3_146, .int x4_147, .int (((p0 - p0 / (8 : Int32) * (8 : Int32)) + (2 : Int32)) - ((p0 - p0 / (8 : Int32) * (8 : Int32)) + (2 : Int32)) / (8 : Int32) * (8 : Int32))]) (rest := [.ref aFr]) ⟨hx, hb, hml, hown, hts⟩ (c_X5_place l D x3_146 x4_147 (((p0 - p0 / (8 : Int32) * (8 : Int32)) + (2 : Int32)) - ((p0 - p0 / (8 : Int32) * (8 : Int32)) + (2 : Int32)) / (8 : Int32) * (8 : Int32)) tX tY H.size F v_174 hv_174) (va_cwS 3 hts gX5_moved_X5_place rfl rfl rfl (by decide +kernel) ⟨Nat.le_of_ble_eq_true rfl, Nat.le_of_ble_eq_true rfl⟩) (preRS [.int x3_146, .int x4_147, .int (((p0 - p0 / (8 : Int32) * (8 : Int32)) + (2 : Int32)) - ((p0 - p0 / (8 : Int32) * (8 : Int32)) + (2 : Int32)) / (8 : Int32) * (8 : Int32))] hP hK hS hA hST [] rfl [] rfl) rfl rfl hl.1 rfl (lv_room (Nat.le_of_ble_eq_true rfl)) dX5_moved_192 ⟨Nat.zero_le _, Nat.zero_le _⟩) hP hS hA (fun H locs hP hS => ?_)
                  obtain ⟨h_175, hJ⟩ := g_in hJ
                  refine va_zald hx hb hK hP 6 5 rfl rfl h_175 dX5_moved_195 ?_
                  refine lv_if_ne (tgt := 201) hx hb dX5_moved_196 (by decide) (fun c_176 => ?_) (fun c_176 => ?_)
                  · have hJ := j_f c_176 hJ
                    refine lv_iconst (v := 0) hx hb dX5_moved_201 (by decide) ?_
                    refine lv_istore (lv' := [(9, .int (0 : Int32)), (5, .int (((p0 - p0 / (8 : Int32) * (8 : Int32)) + (2 : Int32)) - ((p0 - p0 / (8 : Int32) * (8 : Int32)) + (2 : Int32)) / (8 : Int32) * (8 : Int32))), (8, .int (2 : Int32)), (0, .ref aM), (2, .int p1), (3, .int x3_146), (4, .int x4_147), (6, .int (1 : Int32)), (7, .int (1 : Int32))]) hx hb dX5_moved_202 hl (by decide) rfl (fun ls hl => ?_)
                    refine L_204 (((p0 - p0 / (8 : Int32) * (8 : Int32)) + (2 : Int32)) - ((p0 - p0 / (8 : Int32) * (8 : Int32)) + (2 : Int32)) / (8 : Int32) * (8 : Int32)) (1 : Int32) (1 : Int32) _ ?_ F H locs x3_146 x4_147 (0 : Int32) ls hJ hP hS (lv_sub hl [3, 5, 6, 1, 7, 8, 0] rfl)
                    · intro H locs x3_177 x4_178 x9_179 ls hJ hP hS hl
                      refine lv_iload_n hx hb dX5_moved_269 rfl (lv_at hl 0 rfl) ?_
                      refine lv_iload hx hb dX5_moved_270 (lv_at hl 1 rfl) ?_
                      refine lv_iload hx hb dX5_moved_272 (lv_at hl 2 rfl) ?_
                      obtain ⟨v_180, hv_180, hJ⟩ := j_b hJ
                      refine ro_i (va_runS (As := [.int x3_177, .int x4_178, .int (((p0 - p0 / (8 : Int32) * (8 : Int32)) + (2 : Int32)) - ((p0 - p0 / (8 : Int32) * (8 : Int32)) + (2 : Int32)) / (8 : Int32) * (8 : Int32))]) (rest := []) ⟨hx, hb, hml, hown, hts⟩ (c_X5_place l D x3_177 x4_178 (((p0 - p0 / (8 : Int32) * (8 : Int32)) + (2 : Int32)) - ((p0 - p0 / (8 : Int32) * (8 : Int32)) + (2 : Int32)) / (8 : Int32) * (8 : Int32)) tX tY H.size F v_180 hv_180) (va_cwS 3 hts gX5_moved_X5_place rfl rfl rfl (by decide +kernel) ⟨Nat.le_of_ble_eq_true rfl, Nat.le_of_ble_eq_true rfl⟩) (preRS [.int x3_177, .int x4_178, .int (((p0 - p0 / (8 : Int32) * (8 : Int32)) + (2 : Int32)) - ((p0 - p0 / (8 : Int32) * (8 : Int32)) + (2 : Int32)) / (8 : Int32) * (8 : Int32))] hP hK hS hA hST [] rfl [] rfl) rfl rfl hl.1 rfl (lv_room (Nat.le_of_ble_eq_true rfl)) dX5_moved_274 ⟨Nat.zero_le _, Nat.zero_le _⟩) hP hS hA (fun H locs hP hS => ?_)
                      have ho := Option.some.inj hJ
                      exact W.iret (v := v_180) hx hb hr (fun t ht hW => ⟨⟨_, (), rfl, ho, trivial⟩, hS.F ht⟩) hS.2.2 dX5_moved_277
                  · have hJ := j_t c_176 hJ
                    refine lv_iconst (v := (-1)) hx hb dX5_moved_199 (by decide) ?_
                    have ho := Option.some.inj hJ
                    exact W.iret (v := (-1 : Int32)) hx hb hr (fun t ht hW => ⟨⟨_, (), rfl, ho, trivial⟩, hS.F ht⟩) hS.2.2 dX5_moved_200
            · have hJ := j_f c_149 hJ
              refine lv_iload_n hx hb dX5_moved_133 rfl (lv_at hl 2 rfl) ?_
              refine lv_iload hx hb dX5_moved_134 (lv_at hl 3 rfl) ?_
              refine lv_iload hx hb dX5_moved_136 (lv_at hl 4 rfl) ?_
              obtain ⟨v_181, hv_181, hJ⟩ := j_b hJ
              refine ro_i (va_runS (As := [.int x3_146, .int x4_147, .int (p0 - p0 / (8 : Int32) * (8 : Int32))]) (rest := []) ⟨hx, hb, hml, hown, hts⟩ (c_X5_place l D x3_146 x4_147 (p0 - p0 / (8 : Int32) * (8 : Int32)) tX tY H.size F v_181 hv_181) (va_cwS 3 hts gX5_moved_X5_place rfl rfl rfl (by decide +kernel) ⟨Nat.le_of_ble_eq_true rfl, Nat.le_of_ble_eq_true rfl⟩) (preRS [.int x3_146, .int x4_147, .int (p0 - p0 / (8 : Int32) * (8 : Int32))] hP hK hS hA hST [] rfl [] rfl) rfl rfl hl.1 rfl (lv_room (Nat.le_of_ble_eq_true rfl)) dX5_moved_138 ⟨Nat.zero_le _, Nat.zero_le _⟩) hP hS hA (fun H locs hP hS => ?_)
              have ho := Option.some.inj hJ
              exact W.iret (v := v_181) hx hb hr (fun t ht hW => ⟨⟨_, (), rfl, ho, trivial⟩, hS.F ht⟩) hS.2.2 dX5_moved_141
      · have hJ := j_f c_108 hJ
        refine lv_iconst (v := (-1)) hx hb dX5_moved_38 (by decide) ?_
        refine lv_goto (tgt := 43) hx hb dX5_moved_39 (by decide) ?_
        refine lv_istore (lv' := [(6, .int (-1 : Int32)), (5, .int (p0 - p0 / (8 : Int32) * (8 : Int32))), (4, .int v_4), (3, .int v_3), (0, .ref aM), (1, .int p0), (2, .int p1)]) hx hb dX5_moved_43 hl (by decide) rfl (fun ls hl => ?_)
        refine lv_iload_n hx hb dX5_moved_45 rfl (lv_at hl 6 rfl) ?_
        refine lv_iconst (v := 2) hx hb dX5_moved_46 (by decide) ?_
        refine lv_icmp_ge (tgt := 54) hx hb dX5_moved_47 (by decide) (fun c_182 => ?_) (fun c_182 => ?_)
        · have hJ := j_t c_182 hJ
          refine lv_aload_n hx hb dX5_moved_54 rfl (lv_at hl 4 rfl) ?_
          refine va_get (D := D) (ci := 6) (v := .int rd) (C := RX5) (T := TX5) (N := 26) hx hb hts iX5 hown hK hP 0 rfl rfl 7 (by decide) k_2 (fun _ h9 => h9) rfl dX5_moved_55 ?_
          refine lv_istore (lv' := [(7, .int rd), (6, .int (-1 : Int32)), (5, .int (p0 - p0 / (8 : Int32) * (8 : Int32))), (4, .int v_4), (3, .int v_3), (0, .ref aM), (1, .int p0), (2, .int p1)]) hx hb dX5_moved_58 hl (by decide) rfl (fun ls hl => ?_)
          refine lv_iconst (v := 0) hx hb dX5_moved_60 (by decide) ?_
          refine lv_istore (lv' := [(8, .int (0 : Int32)), (7, .int rd), (6, .int (-1 : Int32)), (5, .int (p0 - p0 / (8 : Int32) * (8 : Int32))), (4, .int v_4), (3, .int v_3), (0, .ref aM), (1, .int p0), (2, .int p1)]) hx hb dX5_moved_61 hl (by decide) rfl (fun ls hl => ?_)
          refine L_63 p1 (p0 - p0 / (8 : Int32) * (8 : Int32)) (-1 : Int32) rd _ ?_ F H locs v_3 v_4 (0 : Int32) ls hJ hP hS (lv_sub hl [6, 8, 5, 4, 3, 2, 1, 0] rfl)
          · intro H locs x3_183 x4_184 x8_185 ls hJ hP hS hl
            refine lv_iload_n hx hb dX5_moved_128 rfl (lv_at hl 1 rfl) ?_
            refine lv_iconst (v := 2) hx hb dX5_moved_129 (by decide) ?_
            refine lv_icmp_ge (tgt := 142) hx hb dX5_moved_130 (by decide) (fun c_186 => ?_) (fun c_186 => ?_)
            · have hJ := j_t c_186 hJ
              refine lv_aload_n hx hb dX5_moved_142 rfl (lv_at hl 0 rfl) ?_
              refine va_get (D := D) (ci := 6) (v := .int fou) (C := RX5) (T := TX5) (N := 26) hx hb hts iX5 hown hK hP 0 rfl rfl 3 (by decide) k_3 (fun _ h9 => h9) rfl dX5_moved_143 ?_
              refine lv_if_eq (tgt := 153) hx hb dX5_moved_146 (by decide) (fun c_187 => ?_) (fun c_187 => ?_)
              · have hJ := j_t c_187 hJ
                refine lv_iconst (v := 1) hx hb dX5_moved_153 (by decide) ?_
                refine lv_istore (lv' := [(8, .int (1 : Int32)), (0, .ref aM), (2, .int p1), (3, .int x3_183), (4, .int x4_184), (5, .int (p0 - p0 / (8 : Int32) * (8 : Int32))), (6, .int (-1 : Int32)), (7, .int rd)]) hx hb dX5_moved_154 hl (by decide) rfl (fun ls hl => ?_)
                refine lv_iload_n hx hb dX5_moved_156 rfl (lv_at hl 2 rfl) ?_
                refine lv_iconst (v := 2) hx hb dX5_moved_157 (by decide) ?_
                refine lv_irem hx hb dX5_moved_158 (by decide) ?_
                refine lv_if_ne (tgt := 170) hx hb dX5_moved_159 (by decide) (fun c_188 => ?_) (fun c_188 => ?_)
                · have hJ := j_f c_188 hJ
                  refine lv_iload hx hb dX5_moved_170 (lv_at hl 5 rfl) ?_
                  refine lv_bipush (v := 8) hx hb dX5_moved_172 (by decide) ?_
                  refine lv_iadd hx hb dX5_moved_174 ?_
                  refine lv_iload hx hb dX5_moved_175 (lv_at hl 0 rfl) ?_
                  refine lv_isub hx hb dX5_moved_177 ?_
                  refine lv_bipush (v := 8) hx hb dX5_moved_178 (by decide) ?_
                  refine lv_irem hx hb dX5_moved_180 (by decide) ?_
                  refine lv_istore (lv' := [(5, .int ((((p0 - p0 / (8 : Int32) * (8 : Int32)) + (8 : Int32)) - (1 : Int32)) - (((p0 - p0 / (8 : Int32) * (8 : Int32)) + (8 : Int32)) - (1 : Int32)) / (8 : Int32) * (8 : Int32))), (8, .int (1 : Int32)), (0, .ref aM), (2, .int p1), (3, .int x3_183), (4, .int x4_184), (6, .int (-1 : Int32)), (7, .int rd)]) hx hb dX5_moved_181 hl (by decide) rfl (fun ls hl => ?_)
                  refine lv_aload_n hx hb dX5_moved_183 rfl (lv_at hl 2 rfl) ?_
                  refine va_get (D := D) (ci := 6) (v := .ref aFr) (C := RX5) (T := TX5) (N := 26) hx hb hts iX5 hown hK hP 0 rfl rfl 23 (by decide) k_1 (fun _ h9 => h9) rfl dX5_moved_184 ?_
                  refine lv_iload_n hx hb dX5_moved_187 rfl (lv_at hl 4 rfl) ?_
                  refine lv_iload hx hb dX5_moved_188 (lv_at hl 5 rfl) ?_
                  refine lv_iload hx hb dX5_moved_190 (lv_at hl 0 rfl) ?_
                  obtain ⟨v_189, hv_189, hJ⟩ := j_b hJ
                  refine ro_i (va_runS (As := [.int x3_183, .int x4_184, .int ((((p0 - p0 / (8 : Int32) * (8 : Int32)) + (8 : Int32)) - (1 : Int32)) - (((p0 - p0 / (8 : Int32) * (8 : Int32)) + (8 : Int32)) - (1 : Int32)) / (8 : Int32) * (8 : Int32))]) (rest := [.ref aFr]) ⟨hx, hb, hml, hown, hts⟩ (c_X5_place l D x3_183 x4_184 ((((p0 - p0 / (8 : Int32) * (8 : Int32)) + (8 : Int32)) - (1 : Int32)) - (((p0 - p0 / (8 : Int32) * (8 : Int32)) + (8 : Int32)) - (1 : Int32)) / (8 : Int32) * (8 : Int32)) tX tY H.size F v_189 hv_189) (va_cwS 3 hts gX5_moved_X5_place rfl rfl rfl (by decide +kernel) ⟨Nat.le_of_ble_eq_true rfl, Nat.le_of_ble_eq_true rfl⟩) (preRS [.int x3_183, .int x4_184, .int ((((p0 - p0 / (8 : Int32) * (8 : Int32)) + (8 : Int32)) - (1 : Int32)) - (((p0 - p0 / (8 : Int32) * (8 : Int32)) + (8 : Int32)) - (1 : Int32)) / (8 : Int32) * (8 : Int32))] hP hK hS hA hST [] rfl [] rfl) rfl rfl hl.1 rfl (lv_room (Nat.le_of_ble_eq_true rfl)) dX5_moved_192 ⟨Nat.zero_le _, Nat.zero_le _⟩) hP hS hA (fun H locs hP hS => ?_)
                  obtain ⟨h_190, hJ⟩ := g_in hJ
                  refine va_zald hx hb hK hP 6 5 rfl rfl h_190 dX5_moved_195 ?_
                  refine lv_if_ne (tgt := 201) hx hb dX5_moved_196 (by decide) (fun c_191 => ?_) (fun c_191 => ?_)
                  · have hJ := j_f c_191 hJ
                    refine lv_iconst (v := 0) hx hb dX5_moved_201 (by decide) ?_
                    refine lv_istore (lv' := [(9, .int (0 : Int32)), (5, .int ((((p0 - p0 / (8 : Int32) * (8 : Int32)) + (8 : Int32)) - (1 : Int32)) - (((p0 - p0 / (8 : Int32) * (8 : Int32)) + (8 : Int32)) - (1 : Int32)) / (8 : Int32) * (8 : Int32))), (8, .int (1 : Int32)), (0, .ref aM), (2, .int p1), (3, .int x3_183), (4, .int x4_184), (6, .int (-1 : Int32)), (7, .int rd)]) hx hb dX5_moved_202 hl (by decide) rfl (fun ls hl => ?_)
                    refine L_204 ((((p0 - p0 / (8 : Int32) * (8 : Int32)) + (8 : Int32)) - (1 : Int32)) - (((p0 - p0 / (8 : Int32) * (8 : Int32)) + (8 : Int32)) - (1 : Int32)) / (8 : Int32) * (8 : Int32)) (-1 : Int32) rd _ ?_ F H locs x3_183 x4_184 (0 : Int32) ls hJ hP hS (lv_sub hl [3, 5, 6, 1, 7, 8, 0] rfl)
                    · intro H locs x3_192 x4_193 x9_194 ls hJ hP hS hl
                      refine lv_iload_n hx hb dX5_moved_269 rfl (lv_at hl 0 rfl) ?_
                      refine lv_iload hx hb dX5_moved_270 (lv_at hl 1 rfl) ?_
                      refine lv_iload hx hb dX5_moved_272 (lv_at hl 2 rfl) ?_
                      obtain ⟨v_195, hv_195, hJ⟩ := j_b hJ
                      refine ro_i (va_runS (As := [.int x3_192, .int x4_193, .int ((((p0 - p0 / (8 : Int32) * (8 : Int32)) + (8 : Int32)) - (1 : Int32)) - (((p0 - p0 / (8 : Int32) * (8 : Int32)) + (8 : Int32)) - (1 : Int32)) / (8 : Int32) * (8 : Int32))]) (rest := []) ⟨hx, hb, hml, hown, hts⟩ (c_X5_place l D x3_192 x4_193 ((((p0 - p0 / (8 : Int32) * (8 : Int32)) + (8 : Int32)) - (1 : Int32)) - (((p0 - p0 / (8 : Int32) * (8 : Int32)) + (8 : Int32)) - (1 : Int32)) / (8 : Int32) * (8 : Int32)) tX tY H.size F v_195 hv_195) (va_cwS 3 hts gX5_moved_X5_place rfl rfl rfl (by decide +kernel) ⟨Nat.le_of_ble_eq_true rfl, Nat.le_of_ble_eq_true rfl⟩) (preRS [.int x3_192, .int x4_193, .int ((((p0 - p0 / (8 : Int32) * (8 : Int32)) + (8 : Int32)) - (1 : Int32)) - (((p0 - p0 / (8 : Int32) * (8 : Int32)) + (8 : Int32)) - (1 : Int32)) / (8 : Int32) * (8 : Int32))] hP hK hS hA hST [] rfl [] rfl) rfl rfl hl.1 rfl (lv_room (Nat.le_of_ble_eq_true rfl)) dX5_moved_274 ⟨Nat.zero_le _, Nat.zero_le _⟩) hP hS hA (fun H locs hP hS => ?_)
                      have ho := Option.some.inj hJ
                      exact W.iret (v := v_195) hx hb hr (fun t ht hW => ⟨⟨_, (), rfl, ho, trivial⟩, hS.F ht⟩) hS.2.2 dX5_moved_277
                  · have hJ := j_t c_191 hJ
                    refine lv_iconst (v := (-1)) hx hb dX5_moved_199 (by decide) ?_
                    have ho := Option.some.inj hJ
                    exact W.iret (v := (-1 : Int32)) hx hb hr (fun t ht hW => ⟨⟨_, (), rfl, ho, trivial⟩, hS.F ht⟩) hS.2.2 dX5_moved_200
                · have hJ := j_t c_188 hJ
                  refine lv_iload hx hb dX5_moved_162 (lv_at hl 5 rfl) ?_
                  refine lv_iload hx hb dX5_moved_164 (lv_at hl 0 rfl) ?_
                  refine lv_iadd hx hb dX5_moved_166 ?_
                  refine lv_goto (tgt := 178) hx hb dX5_moved_167 (by decide) ?_
                  refine lv_bipush (v := 8) hx hb dX5_moved_178 (by decide) ?_
                  refine lv_irem hx hb dX5_moved_180 (by decide) ?_
                  refine lv_istore (lv' := [(5, .int (((p0 - p0 / (8 : Int32) * (8 : Int32)) + (1 : Int32)) - ((p0 - p0 / (8 : Int32) * (8 : Int32)) + (1 : Int32)) / (8 : Int32) * (8 : Int32))), (8, .int (1 : Int32)), (0, .ref aM), (2, .int p1), (3, .int x3_183), (4, .int x4_184), (6, .int (-1 : Int32)), (7, .int rd)]) hx hb dX5_moved_181 hl (by decide) rfl (fun ls hl => ?_)
                  refine lv_aload_n hx hb dX5_moved_183 rfl (lv_at hl 2 rfl) ?_
                  refine va_get (D := D) (ci := 6) (v := .ref aFr) (C := RX5) (T := TX5) (N := 26) hx hb hts iX5 hown hK hP 0 rfl rfl 23 (by decide) k_1 (fun _ h9 => h9) rfl dX5_moved_184 ?_
                  refine lv_iload_n hx hb dX5_moved_187 rfl (lv_at hl 4 rfl) ?_
                  refine lv_iload hx hb dX5_moved_188 (lv_at hl 5 rfl) ?_
                  refine lv_iload hx hb dX5_moved_190 (lv_at hl 0 rfl) ?_
                  obtain ⟨v_196, hv_196, hJ⟩ := j_b hJ
                  refine ro_i (va_runS (As := [.int x3_183, .int x4_184, .int (((p0 - p0 / (8 : Int32) * (8 : Int32)) + (1 : Int32)) - ((p0 - p0 / (8 : Int32) * (8 : Int32)) + (1 : Int32)) / (8 : Int32) * (8 : Int32))]) (rest := [.ref aFr]) ⟨hx, hb, hml, hown, hts⟩ (c_X5_place l D x3_183 x4_184 (((p0 - p0 / (8 : Int32) * (8 : Int32)) + (1 : Int32)) - ((p0 - p0 / (8 : Int32) * (8 : Int32)) + (1 : Int32)) / (8 : Int32) * (8 : Int32)) tX tY H.size F v_196 hv_196) (va_cwS 3 hts gX5_moved_X5_place rfl rfl rfl (by decide +kernel) ⟨Nat.le_of_ble_eq_true rfl, Nat.le_of_ble_eq_true rfl⟩) (preRS [.int x3_183, .int x4_184, .int (((p0 - p0 / (8 : Int32) * (8 : Int32)) + (1 : Int32)) - ((p0 - p0 / (8 : Int32) * (8 : Int32)) + (1 : Int32)) / (8 : Int32) * (8 : Int32))] hP hK hS hA hST [] rfl [] rfl) rfl rfl hl.1 rfl (lv_room (Nat.le_of_ble_eq_true rfl)) dX5_moved_192 ⟨Nat.zero_le _, Nat.zero_le _⟩) hP hS hA (fun H locs hP hS => ?_)
                  obtain ⟨h_197, hJ⟩ := g_in hJ
                  refine va_zald hx hb hK hP 6 5 rfl rfl h_197 dX5_moved_195 ?_
                  refine lv_if_ne (tgt := 201) hx hb dX5_moved_196 (by decide) (fun c_198 => ?_) (fun c_198 => ?_)
                  · have hJ := j_f c_198 hJ
                    refine lv_iconst (v := 0) hx hb dX5_moved_201 (by decide) ?_
                    refine lv_istore (lv' := [(9, .int (0 : Int32)), (5, .int (((p0 - p0 / (8 : Int32) * (8 : Int32)) + (1 : Int32)) - ((p0 - p0 / (8 : Int32) * (8 : Int32)) + (1 : Int32)) / (8 : Int32) * (8 : Int32))), (8, .int (1 : Int32)), (0, .ref aM), (2, .int p1), (3, .int x3_183), (4, .int x4_184), (6, .int (-1 : Int32)), (7, .int rd)]) hx hb dX5_moved_202 hl (by decide) rfl (fun ls hl => ?_)
                    refine L_204 (((p0 - p0 / (8 : Int32) * (8 : Int32)) + (1 : Int32)) - ((p0 - p0 / (8 : Int32) * (8 : Int32)) + (1 : Int32)) / (8 : Int32) * (8 : Int32)) (-1 : Int32) rd _ ?_ F H locs x3_183 x4_184 (0 : Int32) ls hJ hP hS (lv_sub hl [3, 5, 6, 1, 7, 8, 0] rfl)
                    · intro H locs x3_199 x4_200 x9_201 ls hJ hP hS hl
                      refine lv_iload_n hx hb dX5_moved_269 rfl (lv_at hl 0 rfl) ?_
                      refine lv_iload hx hb dX5_moved_270 (lv_at hl 1 rfl) ?_
                      refine lv_iload hx hb dX5_moved_272 (lv_at hl 2 rfl) ?_
                      obtain ⟨v_202, hv_202, hJ⟩ := j_b hJ
                      refine ro_i (va_runS (As := [.int x3_199, .int x4_200, .int (((p0 - p0 / (8 : Int32) * (8 : Int32)) + (1 : Int32)) - ((p0 - p0 / (8 : Int32) * (8 : Int32)) + (1 : Int32)) / (8 : Int32) * (8 : Int32))]) (rest := []) ⟨hx, hb, hml, hown, hts⟩ (c_X5_place l D x3_199 x4_200 (((p0 - p0 / (8 : Int32) * (8 : Int32)) + (1 : Int32)) - ((p0 - p0 / (8 : Int32) * (8 : Int32)) + (1 : Int32)) / (8 : Int32) * (8 : Int32)) tX tY H.size F v_202 hv_202) (va_cwS 3 hts gX5_moved_X5_place rfl rfl rfl (by decide +kernel) ⟨Nat.le_of_ble_eq_true rfl, Nat.le_of_ble_eq_true rfl⟩) (preRS [.int x3_199, .int x4_200, .int (((p0 - p0 / (8 : Int32) * (8 : Int32)) + (1 : Int32)) - ((p0 - p0 / (8 : Int32) * (8 : Int32)) + (1 : Int32)) / (8 : Int32) * (8 : Int32))] hP hK hS hA hST [] rfl [] rfl) rfl rfl hl.1 rfl (lv_room (Nat.le_of_ble_eq_true rfl)) dX5_moved_274 ⟨Nat.zero_le _, Nat.zero_le _⟩) hP hS hA (fun H locs hP hS => ?_)
                      have ho := Option.some.inj hJ
                      exact W.iret (v := v_202) hx hb hr (fun t ht hW => ⟨⟨_, (), rfl, ho, trivial⟩, hS.F ht⟩) hS.2.2 dX5_moved_277
                  · have hJ := j_t c_198 hJ
                    refine lv_iconst (v := (-1)) hx hb dX5_moved_199 (by decide) ?_
                    have ho := Option.some.inj hJ
                    exact W.iret (v := (-1 : Int32)) hx hb hr (fun t ht hW => ⟨⟨_, (), rfl, ho, trivial⟩, hS.F ht⟩) hS.2.2 dX5_moved_200
              · have hJ := j_f c_187 hJ
                refine lv_iconst (v := 2) hx hb dX5_moved_149 (by decide) ?_
                refine lv_goto (tgt := 154) hx hb dX5_moved_150 (by decide) ?_
                refine lv_istore (lv' := [(8, .int (2 : Int32)), (0, .ref aM), (2, .int p1), (3, .int x3_183), (4, .int x4_184), (5, .int (p0 - p0 / (8 : Int32) * (8 : Int32))), (6, .int (-1 : Int32)), (7, .int rd)]) hx hb dX5_moved_154 hl (by decide) rfl (fun ls hl => ?_)
                refine lv_iload_n hx hb dX5_moved_156 rfl (lv_at hl 2 rfl) ?_
                refine lv_iconst (v := 2) hx hb dX5_moved_157 (by decide) ?_
                refine lv_irem hx hb dX5_moved_158 (by decide) ?_
                refine lv_if_ne (tgt := 170) hx hb dX5_moved_159 (by decide) (fun c_203 => ?_) (fun c_203 => ?_)
                · have hJ := j_f c_203 hJ
                  refine lv_iload hx hb dX5_moved_170 (lv_at hl 5 rfl) ?_
                  refine lv_bipush (v := 8) hx hb dX5_moved_172 (by decide) ?_
                  refine lv_iadd hx hb dX5_moved_174 ?_
                  refine lv_iload hx hb dX5_moved_175 (lv_at hl 0 rfl) ?_
                  refine lv_isub hx hb dX5_moved_177 ?_
                  refine lv_bipush (v := 8) hx hb dX5_moved_178 (by decide) ?_
                  refine lv_irem hx hb dX5_moved_180 (by decide) ?_
                  refine lv_istore (lv' := [(5, .int ((((p0 - p0 / (8 : Int32) * (8 : Int32)) + (8 : Int32)) - (2 : Int32)) - (((p0 - p0 / (8 : Int32) * (8 : Int32)) + (8 : Int32)) - (2 : Int32)) / (8 : Int32) * (8 : Int32))), (8, .int (2 : Int32)), (0, .ref aM), (2, .int p1), (3, .int x3_183), (4, .int x4_184), (6, .int (-1 : Int32)), (7, .int rd)]) hx hb dX5_moved_181 hl (by decide) rfl (fun ls hl => ?_)
                  refine lv_aload_n hx hb dX5_moved_183 rfl (lv_at hl 2 rfl) ?_
                  refine va_get (D := D) (ci := 6) (v := .ref aFr) (C := RX5) (T := TX5) (N := 26) hx hb hts iX5 hown hK hP 0 rfl rfl 23 (by decide) k_1 (fun _ h9 => h9) rfl dX5_moved_184 ?_
                  refine lv_iload_n hx hb dX5_moved_187 rfl (lv_at hl 4 rfl) ?_
                  refine lv_iload hx hb dX5_moved_188 (lv_at hl 5 rfl) ?_
                  refine lv_iload hx hb dX5_moved_190 (lv_at hl 0 rfl) ?_
                  obtain ⟨v_204, hv_204, hJ⟩ := j_b hJ
                  refine ro_i (va_runS (As := [.int x3_183, .int x4_184, .int ((((p0 - p0 / (8 : Int32) * (8 : Int32)) + (8 : Int32)) - (2 : Int32)) - (((p0 - p0 / (8 : Int32) * (8 : Int32)) + (8 : Int32)) - (2 : Int32)) / (8 : Int32) * (8 : Int32))]) (rest := [.ref aFr]) ⟨hx, hb, hml, hown, hts⟩ (c_X5_place l D x3_183 x4_184 ((((p0 - p0 / (8 : Int32) * (8 : Int32)) + (8 : Int32)) - (2 : Int32)) - (((p0 - p0 / (8 : Int32) * (8 : Int32)) + (8 : Int32)) - (2 : Int32)) / (8 : Int32) * (8 : Int32)) tX tY H.size F v_204 hv_204) (va_cwS 3 hts gX5_moved_X5_place rfl rfl rfl (by decide +kernel) ⟨Nat.le_of_ble_eq_true rfl, Nat.le_of_ble_eq_true rfl⟩) (preRS [.int x3_183, .int x4_184, .int ((((p0 - p0 / (8 : Int32) * (8 : Int32)) + (8 : Int32)) - (2 : Int32)) - (((p0 - p0 / (8 : Int32) * (8 : Int32)) + (8 : Int32)) - (2 : Int32)) / (8 : Int32) * (8 : Int32))] hP hK hS hA hST [] rfl [] rfl) rfl rfl hl.1 rfl (lv_room (Nat.le_of_ble_eq_true rfl)) dX5_moved_192 ⟨Nat.zero_le _, Nat.zero_le _⟩) hP hS hA (fun H locs hP hS => ?_)
                  obtain ⟨h_205, hJ⟩ := g_in hJ
                  refine va_zald hx hb hK hP 6 5 rfl rfl h_205 dX5_moved_195 ?_
                  refine lv_if_ne (tgt := 201) hx hb dX5_moved_196 (by decide) (fun c_206 => ?_) (fun c_206 => ?_)
                  · have hJ := j_f c_206 hJ
                    refine lv_iconst (v := 0) hx hb dX5_moved_201 (by decide) ?_
                    refine lv_istore (lv' := [(9, .int (0 : Int32)), (5, .int ((((p0 - p0 / (8 : Int32) * (8 : Int32)) + (8 : Int32)) - (2 : Int32)) - (((p0 - p0 / (8 : Int32) * (8 : Int32)) + (8 : Int32)) - (2 : Int32)) / (8 : Int32) * (8 : Int32))), (8, .int (2 : Int32)), (0, .ref aM), (2, .int p1), (3, .int x3_183), (4, .int x4_184), (6, .int (-1 : Int32)), (7, .int rd)]) hx hb dX5_moved_202 hl (by decide) rfl (fun ls hl => ?_)
                    refine L_204 ((((p0 - p0 / (8 : Int32) * (8 : Int32)) + (8 : Int32)) - (2 : Int32)) - (((p0 - p0 / (8 : Int32) * (8 : Int32)) + (8 : Int32)) - (2 : Int32)) / (8 : Int32) * (8 : Int32)) (-1 : Int32) rd _ ?_ F H locs x3_183 x4_184 (0 : Int32) ls hJ hP hS (lv_sub hl [3, 5, 6, 1, 7, 8, 0] rfl)
                    · intro H locs x3_207 x4_208 x9_209 ls hJ hP hS hl
                      refine lv_iload_n hx hb dX5_moved_269 rfl (lv_at hl 0 rfl) ?_
                      refine lv_iload hx hb dX5_moved_270 (lv_at hl 1 rfl) ?_
                      refine lv_iload hx hb dX5_moved_272 (lv_at hl 2 rfl) ?_
                      obtain ⟨v_210, hv_210, hJ⟩ := j_b hJ
                      refine ro_i (va_runS (As := [.int x3_207, .int x4_208, .int ((((p0 - p0 / (8 : Int32) * (8 : Int32)) + (8 : Int32)) - (2 : Int32)) - (((p0 - p0 / (8 : Int32) * (8 : Int32)) + (8 : Int32)) - (2 : Int32)) / (8 : Int32) * (8 : Int32))]) (rest := []) ⟨hx, hb, hml, hown, hts⟩ (c_X5_place l D x3_207 x4_208 ((((p0 - p0 / (8 : Int32) * (8 : Int32)) + (8 : Int32)) - (2 : Int32)) - (((p0 - p0 / (8 : Int32) * (8 : Int32)) + (8 : Int32)) - (2 : Int32)) / (8 : Int32) * (8 : Int32)) tX tY H.size F v_210 hv_210) (va_cwS 3 hts gX5_moved_X5_place rfl rfl rfl (by decide +kernel) ⟨Nat.le_of_ble_eq_true rfl, Nat.le_of_ble_eq_true rfl⟩) (preRS [.int x3_207, .int x4_208, .int ((((p0 - p0 / (8 : Int32) * (8 : Int32)) + (8 : Int32)) - (2 : Int32)) - (((p0 - p0 / (8 : Int32) * (8 : Int32)) + (8 : Int32)) - (2 : Int32)) / (8 : Int32) * (8 : Int32))] hP hK hS hA hST [] rfl [] rfl) rfl rfl hl.1 rfl (lv_room (Nat.le_of_ble_eq_true rfl)) dX5_moved_274 ⟨Nat.zero_le _, Nat.zero_le _⟩) hP hS hA (fun H locs hP hS => ?_)
                      have ho := Option.some.inj hJ
                      exact W.iret (v := v_210) hx hb hr (fun t ht hW => ⟨⟨_, (), rfl, ho, trivial⟩, hS.F ht⟩) hS.2.2 dX5_moved_277
                  · have hJ := j_t c_206 hJ
                    refine lv_iconst (v := (-1)) hx hb dX5_moved_199 (by decide) ?_
                    have ho := Option.some.inj hJ
                    exact W.iret (v := (-1 : Int32)) hx hb hr (fun t ht hW => ⟨⟨_, (), rfl, ho, trivial⟩, hS.F ht⟩) hS.2.2 dX5_moved_200
                · have hJ := j_t c_203 hJ
                  refine lv_iload hx hb dX5_moved_162 (lv_at hl 5 rfl) ?_
                  refine lv_iload hx hb dX5_moved_164 (lv_at hl 0 rfl) ?_
                  refine lv_iadd hx hb dX5_moved_166 ?_
                  refine lv_goto (tgt := 178) hx hb dX5_moved_167 (by decide) ?_
                  refine lv_bipush (v := 8) hx hb dX5_moved_178 (by decide) ?_
                  refine lv_irem hx hb dX5_moved_180 (by decide) ?_
                  refine lv_istore (lv' := [(5, .int (((p0 - p0 / (8 : Int32) * (8 : Int32)) + (2 : Int32)) - ((p0 - p0 / (8 : Int32) * (8 : Int32)) + (2 : Int32)) / (8 : Int32) * (8 : Int32))), (8, .int (2 : Int32)), (0, .ref aM), (2, .int p1), (3, .int x3_183), (4, .int x4_184), (6, .int (-1 : Int32)), (7, .int rd)]) hx hb dX5_moved_181 hl (by decide) rfl (fun ls hl => ?_)
                  refine lv_aload_n hx hb dX5_moved_183 rfl (lv_at hl 2 rfl) ?_
                  refine va_get (D := D) (ci := 6) (v := .ref aFr) (C := RX5) (T := TX5) (N := 26) hx hb hts iX5 hown hK hP 0 rfl rfl 23 (by decide) k_1 (fun _ h9 => h9) rfl dX5_moved_184 ?_
                  refine lv_iload_n hx hb dX5_moved_187 rfl (lv_at hl 4 rfl) ?_
                  refine lv_iload hx hb dX5_moved_188 (lv_at hl 5 rfl) ?_
                  refine lv_iload hx hb dX5_moved_190 (lv_at hl 0 rfl) ?_
                  obtain ⟨v_211, hv_211, hJ⟩ := j_b hJ
                  refine ro_i (va_runS (As := [.int x3_183, .int x4_184, .int (((p0 - p0 / (8 : Int32) * (8 : Int32)) + (2 : Int32)) - ((p0 - p0 / (8 : Int32) * (8 : Int32)) + (2 : Int32)) / (8 : Int32) * (8 : Int32))]) (rest := [.ref aFr]) ⟨hx, hb, hml, hown, hts⟩ (c_X5_place l D x3_183 x4_184 (((p0 - p0 / (8 : Int32) * (8 : Int32)) + (2 : Int32)) - ((p0 - p0 / (8 : Int32) * (8 : Int32)) + (2 : Int32)) / (8 : Int32) * (8 : Int32)) tX tY H.size F v_211 hv_211) (va_cwS 3 hts gX5_moved_X5_place rfl rfl rfl (by decide +kernel) ⟨Nat.le_of_ble_eq_true rfl, Nat.le_of_ble_eq_true rfl⟩) (preRS [.int x3_183, .int x4_184, .int (((p0 - p0 / (8 : Int32) * (8 : Int32)) + (2 : Int32)) - ((p0 - p0 / (8 : Int32) * (8 : Int32)) + (2 : Int32)) / (8 : Int32) * (8 : Int32))] hP hK hS hA hST [] rfl [] rfl) rfl rfl hl.1 rfl (lv_room (Nat.le_of_ble_eq_true rfl)) dX5_moved_192 ⟨Nat.zero_le _, Nat.zero_le _⟩) hP hS hA (fun H locs hP hS => ?_)
                  obtain ⟨h_212, hJ⟩ := g_in hJ
                  refine va_zald hx hb hK hP 6 5 rfl rfl h_212 dX5_moved_195 ?_
                  refine lv_if_ne (tgt := 201) hx hb dX5_moved_196 (by decide) (fun c_213 => ?_) (fun c_213 => ?_)
                  · have hJ := j_f c_213 hJ
                    refine lv_iconst (v := 0) hx hb dX5_moved_201 (by decide) ?_
                    refine lv_istore (lv' := [(9, .int (0 : Int32)), (5, .int (((p0 - p0 / (8 : Int32) * (8 : Int32)) + (2 : Int32)) - ((p0 - p0 / (8 : Int32) * (8 : Int32)) + (2 : Int32)) / (8 : Int32) * (8 : Int32))), (8, .int (2 : Int32)), (0, .ref aM), (2, .int p1), (3, .int x3_183), (4, .int x4_184), (6, .int (-1 : Int32)), (7, .int rd)]) hx hb dX5_moved_202 hl (by decide) rfl (fun ls hl => ?_)
                    refine L_204 (((p0 - p0 / (8 : Int32) * (8 : Int32)) + (2 : Int32)) - ((p0 - p0 / (8 : Int32) * (8 : Int32)) + (2 : Int32)) / (8 : Int32) * (8 : Int32)) (-1 : Int32) rd _ ?_ F H locs x3_183 x4_184 (0 : Int32) ls hJ hP hS (lv_sub hl [3, 5, 6, 1, 7, 8, 0] rfl)
                    · intro H locs x3_214 x4_215 x9_216 ls hJ hP hS hl
                      refine lv_iload_n hx hb dX5_moved_269 rfl (lv_at hl 0 rfl) ?_
                      refine lv_iload hx hb dX5_moved_270 (lv_at hl 1 rfl) ?_
                      refine lv_iload hx hb dX5_moved_272 (lv_at hl 2 rfl) ?_
                      obtain ⟨v_217, hv_217, hJ⟩ := j_b hJ
                      refine ro_i (va_runS (As := [.int x3_214, .int x4_215, .int (((p0 - p0 / (8 : Int32) * (8 : Int32)) + (2 : Int32)) - ((p0 - p0 / (8 : Int32) * (8 : Int32)) + (2 : Int32)) / (8 : Int32) * (8 : Int32))]) (rest := []) ⟨hx, hb, hml, hown, hts⟩ (c_X5_place l D x3_214 x4_215 (((p0 - p0 / (8 : Int32) * (8 : Int32)) + (2 : Int32)) - ((p0 - p0 / (8 : Int32) * (8 : Int32)) + (2 : Int32)) / (8 : Int32) * (8 : Int32)) tX tY H.size F v_217 hv_217) (va_cwS 3 hts gX5_moved_X5_place rfl rfl rfl (by decide +kernel) ⟨Nat.le_of_ble_eq_true rfl, Nat.le_of_ble_eq_true rfl⟩) (preRS [.int x3_214, .int x4_215, .int (((p0 - p0 / (8 : Int32) * (8 : Int32)) + (2 : Int32)) - ((p0 - p0 / (8 : Int32) * (8 : Int32)) + (2 : Int32)) / (8 : Int32) * (8 : Int32))] hP hK hS hA hST [] rfl [] rfl) rfl rfl hl.1 rfl (lv_room (Nat.le_of_ble_eq_true rfl)) dX5_moved_274 ⟨Nat.zero_le _, Nat.zero_le _⟩) hP hS hA (fun H locs hP hS => ?_)
                      have ho := Option.some.inj hJ
                      exact W.iret (v := v_217) hx hb hr (fun t ht hW => ⟨⟨_, (), rfl, ho, trivial⟩, hS.F ht⟩) hS.2.2 dX5_moved_277
                  · have hJ := j_t c_213 hJ
                    refine lv_iconst (v := (-1)) hx hb dX5_moved_199 (by decide) ?_
                    have ho := Option.some.inj hJ
                    exact W.iret (v := (-1 : Int32)) hx hb hr (fun t ht hW => ⟨⟨_, (), rfl, ho, trivial⟩, hS.F ht⟩) hS.2.2 dX5_moved_200
            · have hJ := j_f c_186 hJ
              refine lv_iload_n hx hb dX5_moved_133 rfl (lv_at hl 2 rfl) ?_
              refine lv_iload hx hb dX5_moved_134 (lv_at hl 3 rfl) ?_
              refine lv_iload hx hb dX5_moved_136 (lv_at hl 4 rfl) ?_
              obtain ⟨v_218, hv_218, hJ⟩ := j_b hJ
              refine ro_i (va_runS (As := [.int x3_183, .int x4_184, .int (p0 - p0 / (8 : Int32) * (8 : Int32))]) (rest := []) ⟨hx, hb, hml, hown, hts⟩ (c_X5_place l D x3_183 x4_184 (p0 - p0 / (8 : Int32) * (8 : Int32)) tX tY H.size F v_218 hv_218) (va_cwS 3 hts gX5_moved_X5_place rfl rfl rfl (by decide +kernel) ⟨Nat.le_of_ble_eq_true rfl, Nat.le_of_ble_eq_true rfl⟩) (preRS [.int x3_183, .int x4_184, .int (p0 - p0 / (8 : Int32) * (8 : Int32))] hP hK hS hA hST [] rfl [] rfl) rfl rfl hl.1 rfl (lv_room (Nat.le_of_ble_eq_true rfl)) dX5_moved_138 ⟨Nat.zero_le _, Nat.zero_le _⟩) hP hS hA (fun H locs hP hS => ?_)
              have ho := Option.some.inj hJ
              exact W.iret (v := v_218) hx hb hr (fun t ht hW => ⟨⟨_, (), rfl, ho, trivial⟩, hS.F ht⟩) hS.2.2 dX5_moved_141
        · have hJ := j_f c_182 hJ
          refine lv_iconst (v := 1) hx hb dX5_moved_50 (by decide) ?_
          refine lv_goto (tgt := 58) hx hb dX5_moved_51 (by decide) ?_
          refine lv_istore (lv' := [(7, .int (1 : Int32)), (6, .int (-1 : Int32)), (5, .int (p0 - p0 / (8 : Int32) * (8 : Int32))), (4, .int v_4), (3, .int v_3), (0, .ref aM), (1, .int p0), (2, .int p1)]) hx hb dX5_moved_58 hl (by decide) rfl (fun ls hl => ?_)
          refine lv_iconst (v := 0) hx hb dX5_moved_60 (by decide) ?_
          refine lv_istore (lv' := [(8, .int (0 : Int32)), (7, .int (1 : Int32)), (6, .int (-1 : Int32)), (5, .int (p0 - p0 / (8 : Int32) * (8 : Int32))), (4, .int v_4), (3, .int v_3), (0, .ref aM), (1, .int p0), (2, .int p1)]) hx hb dX5_moved_61 hl (by decide) rfl (fun ls hl => ?_)
          refine L_63 p1 (p0 - p0 / (8 : Int32) * (8 : Int32)) (-1 : Int32) (1 : Int32) _ ?_ F H locs v_3 v_4 (0 : Int32) ls hJ hP hS (lv_sub hl [6, 8, 5, 4, 3, 2, 1, 0] rfl)
          · intro H locs x3_219 x4_220 x8_221 ls hJ hP hS hl
            refine lv_iload_n hx hb dX5_moved_128 rfl (lv_at hl 1 rfl) ?_
            refine lv_iconst (v := 2) hx hb dX5_moved_129 (by decide) ?_
            refine lv_icmp_ge (tgt := 142) hx hb dX5_moved_130 (by decide) (fun c_222 => ?_) (fun c_222 => ?_)
            · have hJ := j_t c_222 hJ
              refine lv_aload_n hx hb dX5_moved_142 rfl (lv_at hl 0 rfl) ?_
              refine va_get (D := D) (ci := 6) (v := .int fou) (C := RX5) (T := TX5) (N := 26) hx hb hts iX5 hown hK hP 0 rfl rfl 3 (by decide) k_3 (fun _ h9 => h9) rfl dX5_moved_143 ?_
              refine lv_if_eq (tgt := 153) hx hb dX5_moved_146 (by decide) (fun c_223 => ?_) (fun c_223 => ?_)
              · have hJ := j_t c_223 hJ
                refine lv_iconst (v := 1) hx hb dX5_moved_153 (by decide) ?_
                refine lv_istore (lv' := [(8, .int (1 : Int32)), (0, .ref aM), (2, .int p1), (3, .int x3_219), (4, .int x4_220), (5, .int (p0 - p0 / (8 : Int32) * (8 : Int32))), (6, .int (-1 : Int32)), (7, .int (1 : Int32))]) hx hb dX5_moved_154 hl (by decide) rfl (fun ls hl => ?_)
                refine lv_iload_n hx hb dX5_moved_156 rfl (lv_at hl 2 rfl) ?_
                refine lv_iconst (v := 2) hx hb dX5_moved_157 (by decide) ?_
                refine lv_irem hx hb dX5_moved_158 (by decide) ?_
                refine lv_if_ne (tgt := 170) hx hb dX5_moved_159 (by decide) (fun c_224 => ?_) (fun c_224 => ?_)
                · have hJ := j_f c_224 hJ
                  refine lv_iload hx hb dX5_moved_170 (lv_at hl 5 rfl) ?_
                  refine lv_bipush (v := 8) hx hb dX5_moved_172 (by decide) ?_
                  refine lv_iadd hx hb dX5_moved_174 ?_
                  refine lv_iload hx hb dX5_moved_175 (lv_at hl 0 rfl) ?_
                  refine lv_isub hx hb dX5_moved_177 ?_
                  refine lv_bipush (v := 8) hx hb dX5_moved_178 (by decide) ?_
                  refine lv_irem hx hb dX5_moved_180 (by decide) ?_
                  refine lv_istore (lv' := [(5, .int ((((p0 - p0 / (8 : Int32) * (8 : Int32)) + (8 : Int32)) - (1 : Int32)) - (((p0 - p0 / (8 : Int32) * (8 : Int32)) + (8 : Int32)) - (1 : Int32)) / (8 : Int32) * (8 : Int32))), (8, .int (1 : Int32)), (0, .ref aM), (2, .int p1), (3, .int x3_219), (4, .int x4_220), (6, .int (-1 : Int32)), (7, .int (1 : Int32))]) hx hb dX5_moved_181 hl (by decide) rfl (fun ls hl => ?_)
                  refine lv_aload_n hx hb dX5_moved_183 rfl (lv_at hl 2 rfl) ?_
                  refine va_get (D := D) (ci := 6) (v := .ref aFr) (C := RX5) (T := TX5) (N := 26) hx hb hts iX5 hown hK hP 0 rfl rfl 23 (by decide) k_1 (fun _ h9 => h9) rfl dX5_moved_184 ?_
                  refine lv_iload_n hx hb dX5_moved_187 rfl (lv_at hl 4 rfl) ?_
                  refine lv_iload hx hb dX5_moved_188 (lv_at hl 5 rfl) ?_
                  refine lv_iload hx hb dX5_moved_190 (lv_at hl 0 rfl) ?_
                  obtain ⟨v_225, hv_225, hJ⟩ := j_b hJ
                  refine ro_i (va_runS (As := [.int x3_219, .int x4_220, .int ((((p0 - p0 / (8 : Int32) * (8 : Int32)) + (8 : Int32)) - (1 : Int32)) - (((p0 - p0 / (8 : Int32) * (8 : Int32)) + (8 : Int32)) - (1 : Int32)) / (8 : Int32) * (8 : Int32))]) (rest := [.ref aFr]) ⟨hx, hb, hml, hown, hts⟩ (c_X5_place l D x3_219 x4_220 ((((p0 - p0 / (8 : Int32) * (8 : Int32)) + (8 : Int32)) - (1 : Int32)) - (((p0 - p0 / (8 : Int32) * (8 : Int32)) + (8 : Int32)) - (1 : Int32)) / (8 : Int32) * (8 : Int32)) tX tY H.size F v_225 hv_225) (va_cwS 3 hts gX5_moved_X5_place rfl rfl rfl (by decide +kernel) ⟨Nat.le_of_ble_eq_true rfl, Nat.le_of_ble_eq_true rfl⟩) (preRS [.int x3_219, .int x4_220, .int ((((p0 - p0 / (8 : Int32) * (8 : Int32)) + (8 : Int32)) - (1 : Int32)) - (((p0 - p0 / (8 : Int32) * (8 : Int32)) + (8 : Int32)) - (1 : Int32)) / (8 : Int32) * (8 : Int32))] hP hK hS hA hST [] rfl [] rfl) rfl rfl hl.1 rfl (lv_room (Nat.le_of_ble_eq_true rfl)) dX5_moved_192 ⟨Nat.zero_le _, Nat.zero_le _⟩) hP hS hA (fun H locs hP hS => ?_)
                  obtain ⟨h_226, hJ⟩ := g_in hJ
                  refine va_zald hx hb hK hP 6 5 rfl rfl h_226 dX5_moved_195 ?_
                  refine lv_if_ne (tgt := 201) hx hb dX5_moved_196 (by decide) (fun c_227 => ?_) (fun c_227 => ?_)
                  · have hJ := j_f c_227 hJ
                    refine lv_iconst (v := 0) hx hb dX5_moved_201 (by decide) ?_
                    refine lv_istore (lv' := [(9, .int (0 : Int32)), (5, .int ((((p0 - p0 / (8 : Int32) * (8 : Int32)) + (8 : Int32)) - (1 : Int32)) - (((p0 - p0 / (8 : Int32) * (8 : Int32)) + (8 : Int32)) - (1 : Int32)) / (8 : Int32) * (8 : Int32))), (8, .int (1 : Int32)), (0, .ref aM), (2, .int p1), (3, .int x3_219), (4, .int x4_220), (6, .int (-1 : Int32)), (7, .int (1 : Int32))]) hx hb dX5_moved_202 hl (by decide) rfl (fun ls hl => ?_)
                    refine L_204 ((((p0 - p0 / (8 : Int32) * (8 : Int32)) + (8 : Int32)) - (1 : Int32)) - (((p0 - p0 / (8 : Int32) * (8 : Int32)) + (8 : Int32)) - (1 : Int32)) / (8 : Int32) * (8 : Int32)) (-1 : Int32) (1 : Int32) _ ?_ F H locs x3_219 x4_220 (0 : Int32) ls hJ hP hS (lv_sub hl [3, 5, 6, 1, 7, 8, 0] rfl)
                    · intro H locs x3_228 x4_229 x9_230 ls hJ hP hS hl
                      refine lv_iload_n hx hb dX5_moved_269 rfl (lv_at hl 0 rfl) ?_
                      refine lv_iload hx hb dX5_moved_270 (lv_at hl 1 rfl) ?_
                      refine lv_iload hx hb dX5_moved_272 (lv_at hl 2 rfl) ?_
                      obtain ⟨v_231, hv_231, hJ⟩ := j_b hJ
                      refine ro_i (va_runS (As := [.int x3_228, .int x4_229, .int ((((p0 - p0 / (8 : Int32) * (8 : Int32)) + (8 : Int32)) - (1 : Int32)) - (((p0 - p0 / (8 : Int32) * (8 : Int32)) + (8 : Int32)) - (1 : Int32)) / (8 : Int32) * (8 : Int32))]) (rest := []) ⟨hx, hb, hml, hown, hts⟩ (c_X5_place l D x3_228 x4_229 ((((p0 - p0 / (8 : Int32) * (8 : Int32)) + (8 : Int32)) - (1 : Int32)) - (((p0 - p0 / (8 : Int32) * (8 : Int32)) + (8 : Int32)) - (1 : Int32)) / (8 : Int32) * (8 : Int32)) tX tY H.size F v_231 hv_231) (va_cwS 3 hts gX5_moved_X5_place rfl rfl rfl (by decide +kernel) ⟨Nat.le_of_ble_eq_true rfl, Nat.le_of_ble_eq_true rfl⟩) (preRS [.int x3_228, .int x4_229, .int ((((p0 - p0 / (8 : Int32) * (8 : Int32)) + (8 : Int32)) - (1 : Int32)) - (((p0 - p0 / (8 : Int32) * (8 : Int32)) + (8 : Int32)) - (1 : Int32)) / (8 : Int32) * (8 : Int32))] hP hK hS hA hST [] rfl [] rfl) rfl rfl hl.1 rfl (lv_room (Nat.le_of_ble_eq_true rfl)) dX5_moved_274 ⟨Nat.zero_le _, Nat.zero_le _⟩) hP hS hA (fun H locs hP hS => ?_)
                      have ho := Option.some.inj hJ
                      exact W.iret (v := v_231) hx hb hr (fun t ht hW => ⟨⟨_, (), rfl, ho, trivial⟩, hS.F ht⟩) hS.2.2 dX5_moved_277
                  · have hJ := j_t c_227 hJ
                    refine lv_iconst (v := (-1)) hx hb dX5_moved_199 (by decide) ?_
                    have ho := Option.some.inj hJ
                    exact W.iret (v := (-1 : Int32)) hx hb hr (fun t ht hW => ⟨⟨_, (), rfl, ho, trivial⟩, hS.F ht⟩) hS.2.2 dX5_moved_200
                · have hJ := j_t c_224 hJ
                  refine lv_iload hx hb dX5_moved_162 (lv_at hl 5 rfl) ?_
                  refine lv_iload hx hb dX5_moved_164 (lv_at hl 0 rfl) ?_
                  refine lv_iadd hx hb dX5_moved_166 ?_
                  refine lv_goto (tgt := 178) hx hb dX5_moved_167 (by decide) ?_
                  refine lv_bipush (v := 8) hx hb dX5_moved_178 (by decide) ?_
                  refine lv_irem hx hb dX5_moved_180 (by decide) ?_
                  refine lv_istore (lv' := [(5, .int (((p0 - p0 / (8 : Int32) * (8 : Int32)) + (1 : Int32)) - ((p0 - p0 / (8 : Int32) * (8 : Int32)) + (1 : Int32)) / (8 : Int32) * (8 : Int32))), (8, .int (1 : Int32)), (0, .ref aM), (2, .int p1), (3, .int x3_219), (4, .int x4_220), (6, .int (-1 : Int32)), (7, .int (1 : Int32))]) hx hb dX5_moved_181 hl (by decide) rfl (fun ls hl => ?_)
                  refine lv_aload_n hx hb dX5_moved_183 rfl (lv_at hl 2 rfl) ?_
                  refine va_get (D := D) (ci := 6) (v := .ref aFr) (C := RX5) (T := TX5) (N := 26) hx hb hts iX5 hown hK hP 0 rfl rfl 23 (by decide) k_1 (fun _ h9 => h9) rfl dX5_moved_184 ?_
                  refine lv_iload_n hx hb dX5_moved_187 rfl (lv_at hl 4 rfl) ?_
                  refine lv_iload hx hb dX5_moved_188 (lv_at hl 5 rfl) ?_
                  refine lv_iload hx hb dX5_moved_190 (lv_at hl 0 rfl) ?_
                  obtain ⟨v_232, hv_232, hJ⟩ := j_b hJ
                  refine ro_i (va_runS (As := [.int x3_219, .int x4_220, .int (((p0 - p0 / (8 : Int32) * (8 : Int32)) + (1 : Int32)) - ((p0 - p0 / (8 : Int32) * (8 : Int32)) + (1 : Int32)) / (8 : Int32) * (8 : Int32))]) (rest := [.ref aFr]) ⟨hx, hb, hml, hown, hts⟩ (c_X5_place l D x3_219 x4_220 (((p0 - p0 / (8 : Int32) * (8 : Int32)) + (1 : Int32)) - ((p0 - p0 / (8 : Int32) * (8 : Int32)) + (1 : Int32)) / (8 : Int32) * (8 : Int32)) tX tY H.size F v_232 hv_232) (va_cwS 3 hts gX5_moved_X5_place rfl rfl rfl (by decide +kernel) ⟨Nat.le_of_ble_eq_true rfl, Nat.le_of_ble_eq_true rfl⟩) (preRS [.int x3_219, .int x4_220, .int (((p0 - p0 / (8 : Int32) * (8 : Int32)) + (1 : Int32)) - ((p0 - p0 / (8 : Int32) * (8 : Int32)) + (1 : Int32)) / (8 : Int32) * (8 : Int32))] hP hK hS hA hST [] rfl [] rfl) rfl rfl hl.1 rfl (lv_room (Nat.le_of_ble_eq_true rfl)) dX5_moved_192 ⟨Nat.zero_le _, Nat.zero_le _⟩) hP hS hA (fun H locs hP hS => ?_)
                  obtain ⟨h_233, hJ⟩ := g_in hJ
                  refine va_zald hx hb hK hP 6 5 rfl rfl h_233 dX5_moved_195 ?_
                  refine lv_if_ne (tgt := 201) hx hb dX5_moved_196 (by decide) (fun c_234 => ?_) (fun c_234 => ?_)
                  · have hJ := j_f c_234 hJ
                    refine lv_iconst (v := 0) hx hb dX5_moved_201 (by decide) ?_
                    refine lv_istore (lv' := [(9, .int (0 : Int32)), (5, .int (((p0 - p0 / (8 : Int32) * (8 : Int32)) + (1 : Int32)) - ((p0 - p0 / (8 : Int32) * (8 : Int32)) + (1 : Int32)) / (8 : Int32) * (8 : Int32))), (8, .int (1 : Int32)), (0, .ref aM), (2, .int p1), (3, .int x3_219), (4, .int x4_220), (6, .int (-1 : Int32)), (7, .int (1 : Int32))]) hx hb dX5_moved_202 hl (by decide) rfl (fun ls hl => ?_)
                    refine L_204 (((p0 - p0 / (8 : Int32) * (8 : Int32)) + (1 : Int32)) - ((p0 - p0 / (8 : Int32) * (8 : Int32)) + (1 : Int32)) / (8 : Int32) * (8 : Int32)) (-1 : Int32) (1 : Int32) _ ?_ F H locs x3_219 x4_220 (0 : Int32) ls hJ hP hS (lv_sub hl [3, 5, 6, 1, 7, 8, 0] rfl)
                    · intro H locs x3_235 x4_236 x9_237 ls hJ hP hS hl
                      refine lv_iload_n hx hb dX5_moved_269 rfl (lv_at hl 0 rfl) ?_
                      refine lv_iload hx hb dX5_moved_270 (lv_at hl 1 rfl) ?_
                      refine lv_iload hx hb dX5_moved_272 (lv_at hl 2 rfl) ?_
                      obtain ⟨v_238, hv_238, hJ⟩ := j_b hJ
                      refine ro_i (va_runS (As := [.int x3_235, .int x4_236, .int (((p0 - p0 / (8 : Int32) * (8 : Int32)) + (1 : Int32)) - ((p0 - p0 / (8 : Int32) * (8 : Int32)) + (1 : Int32)) / (8 : Int32) * (8 : Int32))]) (rest := []) ⟨hx, hb, hml, hown, hts⟩ (c_X5_place l D x3_235 x4_236 (((p0 - p0 / (8 : Int32) * (8 : Int32)) + (1 : Int32)) - ((p0 - p0 / (8 : Int32) * (8 : Int32)) + (1 : Int32)) / (8 : Int32) * (8 : Int32)) tX tY H.size F v_238 hv_238) (va_cwS 3 hts gX5_moved_X5_place rfl rfl rfl (by decide +kernel) ⟨Nat.le_of_ble_eq_true rfl, Nat.le_of_ble_eq_true rfl⟩) (preRS [.int x3_235, .int x4_236, .int (((p0 - p0 / (8 : Int32) * (8 : Int32)) + (1 : Int32)) - ((p0 - p0 / (8 : Int32) * (8 : Int32)) + (1 : Int32)) / (8 : Int32) * (8 : Int32))] hP hK hS hA hST [] rfl [] rfl) rfl rfl hl.1 rfl (lv_room (Nat.le_of_ble_eq_true rfl)) dX5_moved_274 ⟨Nat.zero_le _, Nat.zero_le _⟩) hP hS hA (fun H locs hP hS => ?_)
                      have ho := Option.some.inj hJ
                      exact W.iret (v := v_238) hx hb hr (fun t ht hW => ⟨⟨_, (), rfl, ho, trivial⟩, hS.F ht⟩) hS.2.2 dX5_moved_277
                  · have hJ := j_t c_234 hJ
                    refine lv_iconst (v := (-1)) hx hb dX5_moved_199 (by decide) ?_
                    have ho := Option.some.inj hJ
                    exact W.iret (v := (-1 : Int32)) hx hb hr (fun t ht hW => ⟨⟨_, (), rfl, ho, trivial⟩, hS.F ht⟩) hS.2.2 dX5_moved_200
              · have hJ := j_f c_223 hJ
                refine lv_iconst (v := 2) hx hb dX5_moved_149 (by decide) ?_
                refine lv_goto (tgt := 154) hx hb dX5_moved_150 (by decide) ?_
                refine lv_istore (lv' := [(8, .int (2 : Int32)), (0, .ref aM), (2, .int p1), (3, .int x3_219), (4, .int x4_220), (5, .int (p0 - p0 / (8 : Int32) * (8 : Int32))), (6, .int (-1 : Int32)), (7, .int (1 : Int32))]) hx hb dX5_moved_154 hl (by decide) rfl (fun ls hl => ?_)
                refine lv_iload_n hx hb dX5_moved_156 rfl (lv_at hl 2 rfl) ?_
                refine lv_iconst (v := 2) hx hb dX5_moved_157 (by decide) ?_
                refine lv_irem hx hb dX5_moved_158 (by decide) ?_
                refine lv_if_ne (tgt := 170) hx hb dX5_moved_159 (by decide) (fun c_239 => ?_) (fun c_239 => ?_)
                · have hJ := j_f c_239 hJ
                  refine lv_iload hx hb dX5_moved_170 (lv_at hl 5 rfl) ?_
                  refine lv_bipush (v := 8) hx hb dX5_moved_172 (by decide) ?_
                  refine lv_iadd hx hb dX5_moved_174 ?_
                  refine lv_iload hx hb dX5_moved_175 (lv_at hl 0 rfl) ?_
                  refine lv_isub hx hb dX5_moved_177 ?_
                  refine lv_bipush (v := 8) hx hb dX5_moved_178 (by decide) ?_
                  refine lv_irem hx hb dX5_moved_180 (by decide) ?_
                  refine lv_istore (lv' := [(5, .int ((((p0 - p0 / (8 : Int32) * (8 : Int32)) + (8 : Int32)) - (2 : Int32)) - (((p0 - p0 / (8 : Int32) * (8 : Int32)) + (8 : Int32)) - (2 : Int32)) / (8 : Int32) * (8 : Int32))), (8, .int (2 : Int32)), (0, .ref aM), (2, .int p1), (3, .int x3_219), (4, .int x4_220), (6, .int (-1 : Int32)), (7, .int (1 : Int32))]) hx hb dX5_moved_181 hl (by decide) rfl (fun ls hl => ?_)
                  refine lv_aload_n hx hb dX5_moved_183 rfl (lv_at hl 2 rfl) ?_
                  refine va_get (D := D) (ci := 6) (v := .ref aFr) (C := RX5) (T := TX5) (N := 26) hx hb hts iX5 hown hK hP 0 rfl rfl 23 (by decide) k_1 (fun _ h9 => h9) rfl dX5_moved_184 ?_
                  refine lv_iload_n hx hb dX5_moved_187 rfl (lv_at hl 4 rfl) ?_
                  refine lv_iload hx hb dX5_moved_188 (lv_at hl 5 rfl) ?_
                  refine lv_iload hx hb dX5_moved_190 (lv_at hl 0 rfl) ?_
                  obtain ⟨v_240, hv_240, hJ⟩ := j_b hJ
                  refine ro_i (va_runS (As := [.int x3_219, .int x4_220, .int ((((p0 - p0 / (8 : Int32) * (8 : Int32)) + (8 : Int32)) - (2 : Int32)) - (((p0 - p0 / (8 : Int32) * (8 : Int32)) + (8 : Int32)) - (2 : Int32)) / (8 : Int32) * (8 : Int32))]) (rest := [.ref aFr]) ⟨hx, hb, hml, hown, hts⟩ (c_X5_place l D x3_219 x4_220 ((((p0 - p0 / (8 : Int32) * (8 : Int32)) + (8 : Int32)) - (2 : Int32)) - (((p0 - p0 / (8 : Int32) * (8 : Int32)) + (8 : Int32)) - (2 : Int32)) / (8 : Int32) * (8 : Int32)) tX tY H.size F v_240 hv_240) (va_cwS 3 hts gX5_moved_X5_place rfl rfl rfl (by decide +kernel) ⟨Nat.le_of_ble_eq_true rfl, Nat.le_of_ble_eq_true rfl⟩) (preRS [.int x3_219, .int x4_220, .int ((((p0 - p0 / (8 : Int32) * (8 : Int32)) + (8 : Int32)) - (2 : Int32)) - (((p0 - p0 / (8 : Int32) * (8 : Int32)) + (8 : Int32)) - (2 : Int32)) / (8 : Int32) * (8 : Int32))] hP hK hS hA hST [] rfl [] rfl) rfl rfl hl.1 rfl (lv_room (Nat.le_of_ble_eq_true rfl)) dX5_moved_192 ⟨Nat.zero_le _, Nat.zero_le _⟩) hP hS hA (fun H locs hP hS => ?_)
                  obtain ⟨h_241, hJ⟩ := g_in hJ
                  refine va_zald hx hb hK hP 6 5 rfl rfl h_241 dX5_moved_195 ?_
                  refine lv_if_ne (tgt := 201) hx hb dX5_moved_196 (by decide) (fun c_242 => ?_) (fun c_242 => ?_)
                  · have hJ := j_f c_242 hJ
                    refine lv_iconst (v := 0) hx hb dX5_moved_201 (by decide) ?_
                    refine lv_istore (lv' := [(9, .int (0 : Int32)), (5, .int ((((p0 - p0 / (8 : Int32) * (8 : Int32)) + (8 : Int32)) - (2 : Int32)) - (((p0 - p0 / (8 : Int32) * (8 : Int32)) + (8 : Int32)) - (2 : Int32)) / (8 : Int32) * (8 : Int32))), (8, .int (2 : Int32)), (0, .ref aM), (2, .int p1), (3, .int x3_219), (4, .int x4_220), (6, .int (-1 : Int32)), (7, .int (1 : Int32))]) hx hb dX5_moved_202 hl (by decide) rfl (fun ls hl => ?_)
                    refine L_204 ((((p0 - p0 / (8 : Int32) * (8 : Int32)) + (8 : Int32)) - (2 : Int32)) - (((p0 - p0 / (8 : Int32) * (8 : Int32)) + (8 : Int32)) - (2 : Int32)) / (8 : Int32) * (8 : Int32)) (-1 : Int32) (1 : Int32) _ ?_ F H locs x3_219 x4_220 (0 : Int32) ls hJ hP hS (lv_sub hl [3, 5, 6, 1, 7, 8, 0] rfl)
                    · intro H locs x3_243 x4_244 x9_245 ls hJ hP hS hl
                      refine lv_iload_n hx hb dX5_moved_269 rfl (lv_at hl 0 rfl) ?_
                      refine lv_iload hx hb dX5_moved_270 (lv_at hl 1 rfl) ?_
                      refine lv_iload hx hb dX5_moved_272 (lv_at hl 2 rfl) ?_
                      obtain ⟨v_246, hv_246, hJ⟩ := j_b hJ
                      refine ro_i (va_runS (As := [.int x3_243, .int x4_244, .int ((((p0 - p0 / (8 : Int32) * (8 : Int32)) + (8 : Int32)) - (2 : Int32)) - (((p0 - p0 / (8 : Int32) * (8 : Int32)) + (8 : Int32)) - (2 : Int32)) / (8 : Int32) * (8 : Int32))]) (rest := []) ⟨hx, hb, hml, hown, hts⟩ (c_X5_place l D x3_243 x4_244 ((((p0 - p0 / (8 : Int32) * (8 : Int32)) + (8 : Int32)) - (2 : Int32)) - (((p0 - p0 / (8 : Int32) * (8 : Int32)) + (8 : Int32)) - (2 : Int32)) / (8 : Int32) * (8 : Int32)) tX tY H.size F v_246 hv_246) (va_cwS 3 hts gX5_moved_X5_place rfl rfl rfl (by decide +kernel) ⟨Nat.le_of_ble_eq_true rfl, Nat.le_of_ble_eq_true rfl⟩) (preRS [.int x3_243, .int x4_244, .int ((((p0 - p0 / (8 : Int32) * (8 : Int32)) + (8 : Int32)) - (2 : Int32)) - (((p0 - p0 / (8 : Int32) * (8 : Int32)) + (8 : Int32)) - (2 : Int32)) / (8 : Int32) * (8 : Int32))] hP hK hS hA hST [] rfl [] rfl) rfl rfl hl.1 rfl (lv_room (Nat.le_of_ble_eq_true rfl)) dX5_moved_274 ⟨Nat.zero_le _, Nat.zero_le _⟩) hP hS hA (fun H locs hP hS => ?_)
                      have ho := Option.some.inj hJ
                      exact W.iret (v := v_246) hx hb hr (fun t ht hW => ⟨⟨_, (), rfl, ho, trivial⟩, hS.F ht⟩) hS.2.2 dX5_moved_277
                  · have hJ := j_t c_242 hJ
                    refine lv_iconst (v := (-1)) hx hb dX5_moved_199 (by decide) ?_
                    have ho := Option.some.inj hJ
                    exact W.iret (v := (-1 : Int32)) hx hb hr (fun t ht hW => ⟨⟨_, (), rfl, ho, trivial⟩, hS.F ht⟩) hS.2.2 dX5_moved_200
                · have hJ := j_t c_239 hJ
                  refine lv_iload hx hb dX5_moved_162 (lv_at hl 5 rfl) ?_
                  refine lv_iload hx hb dX5_moved_164 (lv_at hl 0 rfl) ?_
                  refine lv_iadd hx hb dX5_moved_166 ?_
                  refine lv_goto (tgt := 178) hx hb dX5_moved_167 (by decide) ?_
                  refine lv_bipush (v := 8) hx hb dX5_moved_178 (by decide) ?_
                  refine lv_irem hx hb dX5_moved_180 (by decide) ?_
                  refine lv_istore (lv' := [(5, .int (((p0 - p0 / (8 : Int32) * (8 : Int32)) + (2 : Int32)) - ((p0 - p0 / (8 : Int32) * (8 : Int32)) + (2 : Int32)) / (8 : Int32) * (8 : Int32))), (8, .int (2 : Int32)), (0, .ref aM), (2, .int p1), (3, .int x3_219), (4, .int x4_220), (6, .int (-1 : Int32)), (7, .int (1 : Int32))]) hx hb dX5_moved_181 hl (by decide) rfl (fun ls hl => ?_)
                  refine lv_aload_n hx hb dX5_moved_183 rfl (lv_at hl 2 rfl) ?_
                  refine va_get (D := D) (ci := 6) (v := .ref aFr) (C := RX5) (T := TX5) (N := 26) hx hb hts iX5 hown hK hP 0 rfl rfl 23 (by decide) k_1 (fun _ h9 => h9) rfl dX5_moved_184 ?_
                  refine lv_iload_n hx hb dX5_moved_187 rfl (lv_at hl 4 rfl) ?_
                  refine lv_iload hx hb dX5_moved_188 (lv_at hl 5 rfl) ?_
                  refine lv_iload hx hb dX5_moved_190 (lv_at hl 0 rfl) ?_
                  obtain ⟨v_247, hv_247, hJ⟩ := j_b hJ
                  refine ro_i (va_runS (As := [.int x3_219, .int x4_220, .int (((p0 - p0 / (8 : Int32) * (8 : Int32)) + (2 : Int32)) - ((p0 - p0 / (8 : Int32) * (8 : Int32)) + (2 : Int32)) / (8 : Int32) * (8 : Int32))]) (rest := [.ref aFr]) ⟨hx, hb, hml, hown, hts⟩ (c_X5_place l D x3_219 x4_220 (((p0 - p0 / (8 : Int32) * (8 : Int32)) + (2 : Int32)) - ((p0 - p0 / (8 : Int32) * (8 : Int32)) + (2 : Int32)) / (8 : Int32) * (8 : Int32)) tX tY H.size F v_247 hv_247) (va_cwS 3 hts gX5_moved_X5_place rfl rfl rfl (by decide +kernel) ⟨Nat.le_of_ble_eq_true rfl, Nat.le_of_ble_eq_true rfl⟩) (preRS [.int x3_219, .int x4_220, .int (((p0 - p0 / (8 : Int32) * (8 : Int32)) + (2 : Int32)) - ((p0 - p0 / (8 : Int32) * (8 : Int32)) + (2 : Int32)) / (8 : Int32) * (8 : Int32))] hP hK hS hA hST [] rfl [] rfl) rfl rfl hl.1 rfl (lv_room (Nat.le_of_ble_eq_true rfl)) dX5_moved_192 ⟨Nat.zero_le _, Nat.zero_le _⟩) hP hS hA (fun H locs hP hS => ?_)
                  obtain ⟨h_248, hJ⟩ := g_in hJ
                  refine va_zald hx hb hK hP 6 5 rfl rfl h_248 dX5_moved_195 ?_
                  refine lv_if_ne (tgt := 201) hx hb dX5_moved_196 (by decide) (fun c_249 => ?_) (fun c_249 => ?_)
                  · have hJ := j_f c_249 hJ
                    refine lv_iconst (v := 0) hx hb dX5_moved_201 (by decide) ?_
                    refine lv_istore (lv' := [(9, .int (0 : Int32)), (5, .int (((p0 - p0 / (8 : Int32) * (8 : Int32)) + (2 : Int32)) - ((p0 - p0 / (8 : Int32) * (8 : Int32)) + (2 : Int32)) / (8 : Int32) * (8 : Int32))), (8, .int (2 : Int32)), (0, .ref aM), (2, .int p1), (3, .int x3_219), (4, .int x4_220), (6, .int (-1 : Int32)), (7, .int (1 : Int32))]) hx hb dX5_moved_202 hl (by decide) rfl (fun ls hl => ?_)
                    refine L_204 (((p0 - p0 / (8 : Int32) * (8 : Int32)) + (2 : Int32)) - ((p0 - p0 / (8 : Int32) * (8 : Int32)) + (2 : Int32)) / (8 : Int32) * (8 : Int32)) (-1 : Int32) (1 : Int32) _ ?_ F H locs x3_219 x4_220 (0 : Int32) ls hJ hP hS (lv_sub hl [3, 5, 6, 1, 7, 8, 0] rfl)
                    · intro H locs x3_250 x4_251 x9_252 ls hJ hP hS hl
                      refine lv_iload_n hx hb dX5_moved_269 rfl (lv_at hl 0 rfl) ?_
                      refine lv_iload hx hb dX5_moved_270 (lv_at hl 1 rfl) ?_
                      refine lv_iload hx hb dX5_moved_272 (lv_at hl 2 rfl) ?_
                      obtain ⟨v_253, hv_253, hJ⟩ := j_b hJ
                      refine ro_i (va_runS (As := [.int x3_250, .int x4_251, .int (((p0 - p0 / (8 : Int32) * (8 : Int32)) + (2 : Int32)) - ((p0 - p0 / (8 : Int32) * (8 : Int32)) + (2 : Int32)) / (8 : Int32) * (8 : Int32))]) (rest := []) ⟨hx, hb, hml, hown, hts⟩ (c_X5_place l D x3_250 x4_251 (((p0 - p0 / (8 : Int32) * (8 : Int32)) + (2 : Int32)) - ((p0 - p0 / (8 : Int32) * (8 : Int32)) + (2 : Int32)) / (8 : Int32) * (8 : Int32)) tX tY H.size F v_253 hv_253) (va_cwS 3 hts gX5_moved_X5_place rfl rfl rfl (by decide +kernel) ⟨Nat.le_of_ble_eq_true rfl, Nat.le_of_ble_eq_true rfl⟩) (preRS [.int x3_250, .int x4_251, .int (((p0 - p0 / (8 : Int32) * (8 : Int32)) + (2 : Int32)) - ((p0 - p0 / (8 : Int32) * (8 : Int32)) + (2 : Int32)) / (8 : Int32) * (8 : Int32))] hP hK hS hA hST [] rfl [] rfl) rfl rfl hl.1 rfl (lv_room (Nat.le_of_ble_eq_true rfl)) dX5_moved_274 ⟨Nat.zero_le _, Nat.zero_le _⟩) hP hS hA (fun H locs hP hS => ?_)
                      have ho := Option.some.inj hJ
                      exact W.iret (v := v_253) hx hb hr (fun t ht hW => ⟨⟨_, (), rfl, ho, trivial⟩, hS.F ht⟩) hS.2.2 dX5_moved_277
                  · have hJ := j_t c_249 hJ
                    refine lv_iconst (v := (-1)) hx hb dX5_moved_199 (by decide) ?_
                    have ho := Option.some.inj hJ
                    exact W.iret (v := (-1 : Int32)) hx hb hr (fun t ht hW => ⟨⟨_, (), rfl, ho, trivial⟩, hS.F ht⟩) hS.2.2 dX5_moved_200
            · have hJ := j_f c_222 hJ
              refine lv_iload_n hx hb dX5_moved_133 rfl (lv_at hl 2 rfl) ?_
              refine lv_iload hx hb dX5_moved_134 (lv_at hl 3 rfl) ?_
              refine lv_iload hx hb dX5_moved_136 (lv_at hl 4 rfl) ?_
              obtain ⟨v_254, hv_254, hJ⟩ := j_b hJ
              refine ro_i (va_runS (As := [.int x3_219, .int x4_220, .int (p0 - p0 / (8 : Int32) * (8 : Int32))]) (rest := []) ⟨hx, hb, hml, hown, hts⟩ (c_X5_place l D x3_219 x4_220 (p0 - p0 / (8 : Int32) * (8 : Int32)) tX tY H.size F v_254 hv_254) (va_cwS 3 hts gX5_moved_X5_place rfl rfl rfl (by decide +kernel) ⟨Nat.le_of_ble_eq_true rfl, Nat.le_of_ble_eq_true rfl⟩) (preRS [.int x3_219, .int x4_220, .int (p0 - p0 / (8 : Int32) * (8 : Int32))] hP hK hS hA hST [] rfl [] rfl) rfl rfl hl.1 rfl (lv_room (Nat.le_of_ble_eq_true rfl)) dX5_moved_138 ⟨Nat.zero_le _, Nat.zero_le _⟩) hP hS hA (fun H locs hP hS => ?_)
              have ho := Option.some.inj hJ
              exact W.iret (v := v_254) hx hb hr (fun t ht hW => ⟨⟨_, (), rfl, ho, trivial⟩, hS.F ht⟩) hS.2.2 dX5_moved_141
  · have hJ := j_t c_2 hJ
    refine lv_iconst (v := (-1)) hx hb dX5_moved_9 (by decide) ?_
    have ho := Option.some.inj hJ
    exact W.iret (v := (-1 : Int32)) hx hb hr (fun t ht hW => ⟨⟨_, (), rfl, ho, trivial⟩, hS.F ht⟩) hS.2.2 dX5_moved_10
set_option maxHeartbeats 4000000 in
set_option maxRecDepth 100000 in
theorem c_X5_findFree (l : Launch) (D : va_G) (aM aMf aNm aBe aFa aCs aFr aRo aNe : Nat) (cMf cNm cBe cFa cCs cFr cRo cNe : ClassId) (cod : Int32) (w : Int32) (ht : Int32) (fou : Int32) (ln : Int32) (wd : Int32) (rd : Int32) (kp : Int32) (car : Int32) (hom : Int32) (gol : Int32) (hld : Int32) (err : UInt64) (isw : Int32) (mvs : Int32) (mde : Int32) (exa : Int32) (lst : Int64) (mf : Nat → Int32) (nm : Nat → Int32) (be : Nat → Int32) (fa : Nat → Int32) (cs : Nat → Int32) (fr : Nat → Int32) (ro : Nat → Int32) (ne : Nat → Int32) (tX tY sz F : Nat) (o : (Nat → Int32) × (Nat → Int32)) (hJ : J_X5_findFree F w ht fou ln wd kp mf fr ne = some o) : Met l yX5_findFree wsX5_findFree rmX5_findFree (va_Pc [.ref aM] (pcW D [(aM, .inr (6, [.int cod, .int w, .int ht, .int fou, .ref aMf, .int ln, .int wd, .int rd, .int kp, .int car, .int hom, .int gol, .int hld, .double err, .int isw, .int mvs, .int mde, .ref aNm, .ref aBe, .int exa, .long lst, .ref aFa, .ref aCs, .ref aFr, .ref aRo, .ref aNe])), (aMf, .inl (cMf, 576, .inl mf)), (aNm, .inl (cNm, 4608, .inl nm)), (aBe, .inl (cBe, 4608, .inl be)), (aFa, .inl (cFa, 4608, .inl fa)), (aCs, .inl (cCs, 4608, .inl cs)), (aFr, .inl (cFr, 4608, .inl fr)), (aRo, .inl (cRo, 4608, .inl ro)), (aNe, .inl (cNe, 576, .inl ne))] [(cMf, .boolean), (cNm, .int), (cBe, .int), (cFa, .int), (cCs, .int), (cFr, .boolean), (cRo, .int), (cNe, .int)] sz tX tY)) (qWv D [(aM, .inr (6, [.int cod, .int w, .int ht, .int fou, .ref aMf, .int ln, .int wd, .int rd, .int kp, .int car, .int hom, .int gol, .int hld, .double err, .int isw, .int mvs, .int mde, .ref aNm, .ref aBe, .int exa, .long lst, .ref aFa, .ref aCs, .ref aFr, .ref aRo, .ref aNe])), (aMf, .inl (cMf, 576, .inl mf)), (aNm, .inl (cNm, 4608, .inl nm)), (aBe, .inl (cBe, 4608, .inl be)), (aFa, .inl (cFa, 4608, .inl fa)), (aCs, .inl (cCs, 4608, .inl cs)), (aFr, .inl (cFr, 4608, .inl o.1)), (aRo, .inl (cRo, 4608, .inl ro)), (aNe, .inl (cNe, 576, .inl o.2))] (va_A [(aM, .inr (6, [.int cod, .int w, .int ht, .int fou, .ref aMf, .int ln, .int wd, .int rd, .int kp, .int car, .int hom, .int gol, .int hld, .double err, .int isw, .int mvs, .int mde, .ref aNm, .ref aBe, .int exa, .long lst, .ref aFa, .ref aCs, .ref aFr, .ref aRo, .ref aNe])), (aMf, .inl (cMf, 576, .inl mf)), (aNm, .inl (cNm, 4608, .inl nm)), (aBe, .inl (cBe, 4608, .inl be)), (aFa, .inl (cFa, 4608, .inl fa)), (aCs, .inl (cCs, 4608, .inl cs)), (aFr, .inl (cFr, 4608, .inl fr)), (aRo, .inl (cRo, 4608, .inl ro)), (aNe, .inl (cNe, 576, .inl ne))] sz)) 0 0 (va_A [(aM, .inr (6, [.int cod, .int w, .int ht, .int fou, .ref aMf, .int ln, .int wd, .int rd, .int kp, .int car, .int hom, .int gol, .int hld, .double err, .int isw, .int mvs, .int mde, .ref aNm, .ref aBe, .int exa, .long lst, .ref aFa, .ref aCs, .ref aFr, .ref aRo, .ref aNe])), (aMf, .inl (cMf, 576, .inl mf)), (aNm, .inl (cNm, 4608, .inl nm)), (aBe, .inl (cBe, 4608, .inl be)), (aFa, .inl (cFa, 4608, .inl fa)), (aCs, .inl (cCs, 4608, .inl cs)), (aFr, .inl (cFr, 4608, .inl fr)), (aRo, .inl (cRo, 4608, .inl ro)), (aNe, .inl (cNe, 576, .inl ne))] sz) := by
  refine Met.ofW (cc := cX5_findFree) (maxL := 4) (ret := none) (by decide) rfl ?_
  intro p e s m args below meth c s₁ B hml hv
  obtain ⟨rfl, hsz, hP, hK, hD0, hST⟩ := hv
  have hx := B.exec
  have hb := B.bytes
  have hr := B.returns
  have hts := atoms_spec (ws := wsX5_findFree) B.pre
  have hown : s.vm.findClass RX5 = some m.cls := findClass_of_methodNamed B.named
  have hlocks := B.notSynchronized
  subst hsz
  have hD := hD0.self (sz := s.heap.size)
  generalize hAe : va_A [(aM, .inr (6, [.int cod, .int w, .int ht, .int fou, .ref aMf, .int ln, .int wd, .int rd, .int kp, .int car, .int hom, .int gol, .int hld, .double err, .int isw, .int mvs, .int mde, .ref aNm, .ref aBe, .int exa, .long lst, .ref aFa, .ref aCs, .ref aFr, .ref aRo, .ref aNe])), (aMf, .inl (cMf, 576, .inl mf)), (aNm, .inl (cNm, 4608, .inl nm)), (aBe, .inl (cBe, 4608, .inl be)), (aFa, .inl (cFa, 4608, .inl fa)), (aCs, .inl (cCs, 4608, .inl cs)), (aFr, .inl (cFr, 4608, .inl fr)), (aRo, .inl (cRo, 4608, .inl ro)), (aNe, .inl (cNe, 576, .inl ne))] s.heap.size = A at hD hST ⊢
  have hA : ∀ q : Nat, s.heap.size ≤ q → A q := fun q h => by rw [← hAe]; exact Or.inr h
  have hS : va_S A s.heap s.heap [] := va_S.rf
  have hl := lv_entry ([.ref aM]) (n := 4) (Nat.le_of_ble_eq_true rfl)
  rw [lg_entry_eq]
  generalize (lg_sl ([.ref aM]) ++ List.replicate (4 - (lg_sl ([.ref aM])).length) Slot.unset).toArray = ls at hl ⊢
  have hl : lv_has ls 4 [(0, .ref aM)] := hl
  have iX5 : ∀ w ∈ wsX50, w ∈ wsX5_findFree := fun w h => List.mem_cons_of_mem _ (List.mem_append_right _ h)
  have k_1 := hts (.fieldLink RX5 52 "ParkWaysModel" "height" "I") (List.mem_of_getElem? (i := 1) rfl)
  have k_2 := hts (.fieldLink RX5 49 "ParkWaysModel" "width" "I") (List.mem_of_getElem? (i := 2) rfl)
  have k_3 := hts (.fieldLink RX5 40 "ParkWaysModel" "free" "[Z") (List.mem_of_getElem? (i := 3) rfl)
  have L_26 : ∀ (y1_11 : Int32) (y2_12 : Int32) (yne_15 : Nat → Int32) (kk_72 : Int32 → (Nat → Int32) → Option ((Nat → Int32) × (Nat → Int32))) (hkk_72 : ∀ (H : Heap) (locs : List Loc) (x3_13 : Int32) (xfr_14 : Nat → Int32) (ls : Array Slot), kk_72 x3_13 xfr_14 = some o → va_P D vwCl [(aM, .inr (6, [.int cod, .int w, .int ht, .int fou, .ref aMf, .int ln, .int wd, .int rd, .int kp, .int car, .int hom, .int gol, .int hld, .double err, .int isw, .int mvs, .int mde, .ref aNm, .ref aBe, .int exa, .long lst, .ref aFa, .ref aCs, .ref aFr, .ref aRo, .ref aNe])), (aMf, .inl (cMf, 576, .inl mf)), (aNm, .inl (cNm, 4608, .inl nm)), (aBe, .inl (cBe, 4608, .inl be)), (aFa, .inl (cFa, 4608, .inl fa)), (aCs, .inl (cCs, 4608, .inl cs)), (aFr, .inl (cFr, 4608, .inl xfr_14)), (aRo, .inl (cRo, 4608, .inl ro)), (aNe, .inl (cNe, 576, .inl yne_15))] H → va_D A [(aM, .inr (6, [.int cod, .int w, .int ht, .int fou, .ref aMf, .int ln, .int wd, .int rd, .int kp, .int car, .int hom, .int gol, .int hld, .double err, .int isw, .int mvs, .int mde, .ref aNm, .ref aBe, .int exa, .long lst, .ref aFa, .ref aCs, .ref aFr, .ref aRo, .ref aNe])), (aMf, .inl (cMf, 576, .inl mf)), (aNm, .inl (cNm, 4608, .inl nm)), (aBe, .inl (cBe, 4608, .inl be)), (aFa, .inl (cFa, 4608, .inl fa)), (aCs, .inl (cCs, 4608, .inl cs)), (aFr, .inl (cFr, 4608, .inl xfr_14)), (aRo, .inl (cRo, 4608, .inl ro)), (aNe, .inl (cNe, 576, .inl yne_15))] → va_S A s.heap H locs → lv_has ls 4 [(0, .ref aM), (1, .int y1_11), (2, .int y2_12)] → W p l e (headSpec wsX5_findFree rmX5_findFree).room s m [.ref aM].toArray below meth c H locs 0 0 (MQ below (qWv D [(aM, .inr (6, [.int cod, .int w, .int ht, .int fou, .ref aMf, .int ln, .int wd, .int rd, .int kp, .int car, .int hom, .int gol, .int hld, .double err, .int isw, .int mvs, .int mde, .ref aNm, .ref aBe, .int exa, .long lst, .ref aFa, .ref aCs, .ref aFr, .ref aRo, .ref aNe])), (aMf, .inl (cMf, 576, .inl mf)), (aNm, .inl (cNm, 4608, .inl nm)), (aBe, .inl (cBe, 4608, .inl be)), (aFa, .inl (cFa, 4608, .inl fa)), (aCs, .inl (cCs, 4608, .inl cs)), (aFr, .inl (cFr, 4608, .inl o.1)), (aRo, .inl (cRo, 4608, .inl ro)), (aNe, .inl (cNe, 576, .inl o.2))] A) [.ref aM].toArray s 0 0 A) (F0 m 72 ls [])) (fz : Nat) (H : Heap) (locs : List Loc) (x3_13 : Int32) (xfr_14 : Nat → Int32) (ls : Array Slot), J_X5_findFree_L26 F w ht fou ln wd kp y1_11 y2_12 yne_15 kk_72 fz x3_13 xfr_14 = some o → va_P D vwCl [(aM, .inr (6, [.int cod, .int w, .int ht, .int fou, .ref aMf, .int ln, .int wd, .int rd, .int kp, .int car, .int hom, .int gol, .int hld, .double err, .int isw, .int mvs, .int mde, .ref aNm, .ref aBe, .int exa, .long lst, .ref aFa, .ref aCs, .ref aFr, .ref aRo, .ref aNe])), (aMf, .inl (cMf, 576, .inl mf)), (aNm, .inl (cNm, 4608, .inl nm)), (aBe, .inl (cBe, 4608, .inl be)), (aFa, .inl (cFa, 4608, .inl fa)), (aCs, .inl (cCs, 4608, .inl cs)), (aFr, .inl (cFr, 4608, .inl xfr_14)), (aRo, .inl (cRo, 4608, .inl ro)), (aNe, .inl (cNe, 576, .inl yne_15))] H → va_D A [(aM, .inr (6, [.int cod, .int w, .int ht, .int fou, .ref aMf, .int ln, .int wd, .int rd, .int kp, .int car, .int hom, .int gol, .int hld, .double err, .int isw, .int mvs, .int mde, .ref aNm, .ref aBe, .int exa, .long lst, .ref aFa, .ref aCs, .ref aFr, .ref aRo, .ref aNe])), (aMf, .inl (cMf, 576, .inl mf)), (aNm, .inl (cNm, 4608, .inl nm)), (aBe, .inl (cBe, 4608, .inl be)), (aFa, .inl (cFa, 4608, .inl fa)), (aCs, .inl (cCs, 4608, .inl cs)), (aFr, .inl (cFr, 4608, .inl xfr_14)), (aRo, .inl (cRo, 4608, .inl ro)), (aNe, .inl (cNe, 576, .inl yne_15))] → va_S A s.heap H locs → lv_has ls 4 [(0, .ref aM), (1, .int y1_11), (2, .int y2_12), (3, .int x3_13)] → W p l e (headSpec wsX5_findFree rmX5_findFree).room s m [.ref aM].toArray below meth c H locs 0 0 (MQ below (qWv D [(aM, .inr (6, [.int cod, .int w, .int ht, .int fou, .ref aMf, .int ln, .int wd, .int rd, .int kp, .int car, .int hom, .int gol, .int hld, .double err, .int isw, .int mvs, .int mde, .ref aNm, .ref aBe, .int exa, .long lst, .ref aFa, .ref aCs, .ref aFr, .ref aRo, .ref aNe])), (aMf, .inl (cMf, 576, .inl mf)), (aNm, .inl (cNm, 4608, .inl nm)), (aBe, .inl (cBe, 4608, .inl be)), (aFa, .inl (cFa, 4608, .inl fa)), (aCs, .inl (cCs, 4608, .inl cs)), (aFr, .inl (cFr, 4608, .inl o.1)), (aRo, .inl (cRo, 4608, .inl ro)), (aNe, .inl (cNe, 576, .inl o.2))] A) [.ref aM].toArray s 0 0 A) (F0 m 26 ls []) := by
    intro y1_11 y2_12 yne_15 kk_72 hkk_72 fz
    induction fz with
    | zero =>
      intro H locs x3_13 xfr_14 ls hJ
      rw [J_X5_findFree_L26] at hJ
      cases hJ
    | succ fz ih =>
      intro H locs x3_13 xfr_14 ls hJ hP hD hS hl
      rw [J_X5_findFree_L26] at hJ
      refine lv_iload_n hx hb dX5_findFree_26 rfl (lv_at hl 3 rfl) ?_
      refine lv_bipush (v := 8) hx hb dX5_findFree_27 (by decide) ?_
      refine lv_icmp_ge (tgt := 72) hx hb dX5_findFree_29 (by decide) (fun c_16 => ?_) (fun c_16 => ?_)
      · have hJ := j_t c_16 hJ
        exact hkk_72 H locs x3_13 xfr_14 ls hJ hP hD hS (lv_sub hl [0, 1, 2] rfl)
      · have hJ := j_f c_16 hJ
        refine lv_aload_n hx hb dX5_findFree_32 rfl (lv_at hl 0 rfl) ?_
        refine va_get (D := D) (ci := 6) (v := .ref aFr) (C := RX5) (T := TX5) (N := 26) hx hb hts iX5 hown hK hP 0 rfl rfl 23 (by decide) k_3 (fun _ h9 => h9) rfl dX5_findFree_33 ?_
        refine lv_iload_n hx hb dX5_findFree_36 rfl (lv_at hl 2 rfl) ?_
        refine lv_iload_n hx hb dX5_findFree_37 rfl (lv_at hl 1 rfl) ?_
        refine lv_iload_n hx hb dX5_findFree_38 rfl (lv_at hl 3 rfl) ?_
        obtain ⟨v_17, hv_17, hJ⟩ := j_b hJ
        refine ro_i (va_runS (As := [.int y2_12, .int y1_11, .int x3_13]) (rest := [.ref aFr]) ⟨hx, hb, hml, hown, hts⟩ (c_X5_place l D y2_12 y1_11 x3_13 tX tY H.size F v_17 hv_17) (va_cwS 3 hts gX5_findFree_X5_place rfl rfl rfl (by decide +kernel) ⟨Nat.le_of_ble_eq_true rfl, Nat.le_of_ble_eq_true rfl⟩) (preRS [.int y2_12, .int y1_11, .int x3_13] hP hK hS hA hST [] rfl [] rfl) rfl rfl hl.1 rfl (lv_room (Nat.le_of_ble_eq_true rfl)) dX5_findFree_39 ⟨Nat.zero_le _, Nat.zero_le _⟩) hP hS hA (fun H locs hP hS => ?_)
        refine lv_aload_n hx hb dX5_findFree_42 rfl (lv_at hl 0 rfl) ?_
        refine lv_iload_n hx hb dX5_findFree_43 rfl (lv_at hl 3 rfl) ?_
        obtain ⟨v_18, hv_18, hJ⟩ := j_b hJ
        refine ro_i (va_runV (As := [.int x3_13]) (rest := [.int v_17, .ref aFr]) ⟨hx, hb, hml, hown, hts⟩ (c_X5_isHeading l D aM aMf aNm aBe aFa aCs aFr aRo aNe cMf cNm cBe cFa cCs cFr cRo cNe cod w ht fou ln wd rd kp car hom gol hld err isw mvs mde exa lst mf nm be fa cs xfr_14 ro yne_15 x3_13 tX tY H.size F v_18 hv_18) (cwV 1 hts gX5_findFree_X5_isHeading rfl rfl rfl (by decide +kernel) ⟨Nat.le_of_ble_eq_true rfl, Nat.le_of_ble_eq_true rfl⟩) (preRV [.int x3_13] hP hK hS hA hST [0, 1, 2, 3, 4, 5, 6, 7, 8] rfl [0, 1, 2, 3, 4, 5, 6, 7] rfl (ci := 6) (q0 := 0) rfl rfl) rfl rfl hl.1 rfl (lv_room (Nat.le_of_ble_eq_true rfl)) dX5_findFree_44 ⟨Nat.zero_le _, Nat.zero_le _⟩) hP hS hA (fun H locs hP hS => ?_)
        refine lv_if_eq (tgt := 64) hx hb dX5_findFree_47 (by decide) (fun c_19 => ?_) (fun c_19 => ?_)
        · have hJ := j_t c_19 hJ
          refine lv_iconst (v := 0) hx hb dX5_findFree_64 (by decide) ?_
          obtain ⟨h_20, hJ⟩ := g_in hJ
          refine va_zast hx hb hK hP hD hS 6 5 rfl rfl h_20 dX5_findFree_65 (fun H locs hP hD hS => ?_)
          have hP : va_P D vwCl [(aM, .inr (6, [.int cod, .int w, .int ht, .int fou, .ref aMf, .int ln, .int wd, .int rd, .int kp, .int car, .int hom, .int gol, .int hld, .double err, .int isw, .int mvs, .int mde, .ref aNm, .ref aBe, .int exa, .long lst, .ref aFa, .ref aCs, .ref aFr, .ref aRo, .ref aNe])), (aMf, .inl (cMf, 576, .inl mf)), (aNm, .inl (cNm, 4608, .inl nm)), (aBe, .inl (cBe, 4608, .inl be)), (aFa, .inl (cFa, 4608, .inl fa)), (aCs, .inl (cCs, 4608, .inl cs)), (aFr, .inl (cFr, 4608, .inl (upd xfr_14 v_17.toNatClampNeg (vp_nar .boolean (0 : Int32))))), (aRo, .inl (cRo, 4608, .inl ro)), (aNe, .inl (cNe, 576, .inl yne_15))] H := hP
          have hD : va_D A [(aM, .inr (6, [.int cod, .int w, .int ht, .int fou, .ref aMf, .int ln, .int wd, .int rd, .int kp, .int car, .int hom, .int gol, .int hld, .double err, .int isw, .int mvs, .int mde, .ref aNm, .ref aBe, .int exa, .long lst, .ref aFa, .ref aCs, .ref aFr, .ref aRo, .ref aNe])), (aMf, .inl (cMf, 576, .inl mf)), (aNm, .inl (cNm, 4608, .inl nm)), (aBe, .inl (cBe, 4608, .inl be)), (aFa, .inl (cFa, 4608, .inl fa)), (aCs, .inl (cCs, 4608, .inl cs)), (aFr, .inl (cFr, 4608, .inl (upd xfr_14 v_17.toNatClampNeg (vp_nar .boolean (0 : Int32))))), (aRo, .inl (cRo, 4608, .inl ro)), (aNe, .inl (cNe, 576, .inl yne_15))] := hD
          refine lv_iinc (v := (x3_13 + (1 : Int32))) (lv' := [(3, .int (x3_13 + (1 : Int32))), (0, .ref aM), (1, .int y1_11), (2, .int y2_12)]) hx hb dX5_findFree_66 hl (k := 3) rfl rfl (by decide) rfl (fun ls hl => ?_)
          refine lv_goto (tgt := 26) hx hb dX5_findFree_69 (by decide) ?_
          exact ih H locs (x3_13 + (1 : Int32)) (upd xfr_14 v_17.toNatClampNeg (vp_nar .boolean (0 : Int32))) ls hJ hP hD hS (lv_sub hl [1, 2, 3, 0] rfl)
        · have hJ := j_f c_19 hJ
          refine lv_aload_n hx hb dX5_findFree_50 rfl (lv_at hl 0 rfl) ?_
          refine lv_iload_n hx hb dX5_findFree_51 rfl (lv_at hl 2 rfl) ?_
          refine lv_iload_n hx hb dX5_findFree_52 rfl (lv_at hl 1 rfl) ?_
          refine lv_iload_n hx hb dX5_findFree_53 rfl (lv_at hl 3 rfl) ?_
          obtain ⟨v_21, hv_21, hJ⟩ := j_b hJ
          refine ro_i (va_runV (As := [.int y2_12, .int y1_11, .int x3_13]) (rest := [.int v_17, .ref aFr]) ⟨hx, hb, hml, hown, hts⟩ (c_X5_isFree l D aM aMf aNm aBe aFa aCs aFr aRo aNe cMf cNm cBe cFa cCs cFr cRo cNe cod w ht fou ln wd rd kp car hom gol hld err isw mvs mde exa lst mf nm be fa cs xfr_14 ro yne_15 y2_12 y1_11 x3_13 tX tY H.size F v_21 hv_21) (cwV 3 hts gX5_findFree_X5_isFree rfl rfl rfl (by decide +kernel) ⟨Nat.le_of_ble_eq_true rfl, Nat.le_of_ble_eq_true rfl⟩) (preRV [.int y2_12, .int y1_11, .int x3_13] hP hK hS hA hST [0, 1, 2, 3, 4, 5, 6, 7, 8] rfl [0, 1, 2, 3, 4, 5, 6, 7] rfl (ci := 6) (q0 := 0) rfl rfl) rfl rfl hl.1 rfl (lv_room (Nat.le_of_ble_eq_true rfl)) dX5_findFree_54 ⟨Nat.zero_le _, Nat.zero_le _⟩) hP hS hA (fun H locs hP hS => ?_)
          refine lv_if_eq (tgt := 64) hx hb dX5_findFree_57 (by decide) (fun c_22 => ?_) (fun c_22 => ?_)
          · have hJ := j_t c_22 hJ
            refine lv_iconst (v := 0) hx hb dX5_findFree_64 (by decide) ?_
            obtain ⟨h_23, hJ⟩ := g_in hJ
            refine va_zast hx hb hK hP hD hS 6 5 rfl rfl h_23 dX5_findFree_65 (fun H locs hP hD hS => ?_)
            have hP : va_P D vwCl [(aM, .inr (6, [.int cod, .int w, .int ht, .int fou, .ref aMf, .int ln, .int wd, .int rd, .int kp, .int car, .int hom, .int gol, .int hld, .double err, .int isw, .int mvs, .int mde, .ref aNm, .ref aBe, .int exa, .long lst, .ref aFa, .ref aCs, .ref aFr, .ref aRo, .ref aNe])), (aMf, .inl (cMf, 576, .inl mf)), (aNm, .inl (cNm, 4608, .inl nm)), (aBe, .inl (cBe, 4608, .inl be)), (aFa, .inl (cFa, 4608, .inl fa)), (aCs, .inl (cCs, 4608, .inl cs)), (aFr, .inl (cFr, 4608, .inl (upd xfr_14 v_17.toNatClampNeg (vp_nar .boolean (0 : Int32))))), (aRo, .inl (cRo, 4608, .inl ro)), (aNe, .inl (cNe, 576, .inl yne_15))] H := hP
            have hD : va_D A [(aM, .inr (6, [.int cod, .int w, .int ht, .int fou, .ref aMf, .int ln, .int wd, .int rd, .int kp, .int car, .int hom, .int gol, .int hld, .double err, .int isw, .int mvs, .int mde, .ref aNm, .ref aBe, .int exa, .long lst, .ref aFa, .ref aCs, .ref aFr, .ref aRo, .ref aNe])), (aMf, .inl (cMf, 576, .inl mf)), (aNm, .inl (cNm, 4608, .inl nm)), (aBe, .inl (cBe, 4608, .inl be)), (aFa, .inl (cFa, 4608, .inl fa)), (aCs, .inl (cCs, 4608, .inl cs)), (aFr, .inl (cFr, 4608, .inl (upd xfr_14 v_17.toNatClampNeg (vp_nar .boolean (0 : Int32))))), (aRo, .inl (cRo, 4608, .inl ro)), (aNe, .inl (cNe, 576, .inl yne_15))] := hD
            refine lv_iinc (v := (x3_13 + (1 : Int32))) (lv' := [(3, .int (x3_13 + (1 : Int32))), (0, .ref aM), (1, .int y1_11), (2, .int y2_12)]) hx hb dX5_findFree_66 hl (k := 3) rfl rfl (by decide) rfl (fun ls hl => ?_)
            refine lv_goto (tgt := 26) hx hb dX5_findFree_69 (by decide) ?_
            exact ih H locs (x3_13 + (1 : Int32)) (upd xfr_14 v_17.toNatClampNeg (vp_nar .boolean (0 : Int32))) ls hJ hP hD hS (lv_sub hl [1, 2, 3, 0] rfl)
          · have hJ := j_f c_22 hJ
            refine lv_iconst (v := 1) hx hb dX5_findFree_60 (by decide) ?_
            refine lv_goto (tgt := 65) hx hb dX5_findFree_61 (by decide) ?_
            obtain ⟨h_24, hJ⟩ := g_in hJ
            refine va_zast hx hb hK hP hD hS 6 5 rfl rfl h_24 dX5_findFree_65 (fun H locs hP hD hS => ?_)
            have hP : va_P D vwCl [(aM, .inr (6, [.int cod, .int w, .int ht, .int fou, .ref aMf, .int ln, .int wd, .int rd, .int kp, .int car, .int hom, .int gol, .int hld, .double err, .int isw, .int mvs, .int mde, .ref aNm, .ref aBe, .int exa, .long lst, .ref aFa, .ref aCs, .ref aFr, .ref aRo, .ref aNe])), (aMf, .inl (cMf, 576, .inl mf)), (aNm, .inl (cNm, 4608, .inl nm)), (aBe, .inl (cBe, 4608, .inl be)), (aFa, .inl (cFa, 4608, .inl fa)), (aCs, .inl (cCs, 4608, .inl cs)), (aFr, .inl (cFr, 4608, .inl (upd xfr_14 v_17.toNatClampNeg (vp_nar .boolean (1 : Int32))))), (aRo, .inl (cRo, 4608, .inl ro)), (aNe, .inl (cNe, 576, .inl yne_15))] H := hP
            have hD : va_D A [(aM, .inr (6, [.int cod, .int w, .int ht, .int fou, .ref aMf, .int ln, .int wd, .int rd, .int kp, .int car, .int hom, .int gol, .int hld, .double err, .int isw, .int mvs, .int mde, .ref aNm, .ref aBe, .int exa, .long lst, .ref aFa, .ref aCs, .ref aFr, .ref aRo, .ref aNe])), (aMf, .inl (cMf, 576, .inl mf)), (aNm, .inl (cNm, 4608, .inl nm)), (aBe, .inl (cBe, 4608, .inl be)), (aFa, .inl (cFa, 4608, .inl fa)), (aCs, .inl (cCs, 4608, .inl cs)), (aFr, .inl (cFr, 4608, .inl (upd xfr_14 v_17.toNatClampNeg (vp_nar .boolean (1 : Int32))))), (aRo, .inl (cRo, 4608, .inl ro)), (aNe, .inl (cNe, 576, .inl yne_15))] := hD
            refine lv_iinc (v := (x3_13 + (1 : Int32))) (lv' := [(3, .int (x3_13 + (1 : Int32))), (0, .ref aM), (1, .int y1_11), (2, .int y2_12)]) hx hb dX5_findFree_66 hl (k := 3) rfl rfl (by decide) rfl (fun ls hl => ?_)
            refine lv_goto (tgt := 26) hx hb dX5_findFree_69 (by decide) ?_
            exact ih H locs (x3_13 + (1 : Int32)) (upd xfr_14 v_17.toNatClampNeg (vp_nar .boolean (1 : Int32))) ls hJ hP hD hS (lv_sub hl [1, 2, 3, 0] rfl)
  have L_16 : ∀ (y1_6 : Int32) (yne_9 : Nat → Int32) (kk_78 : Int32 → (Nat → Int32) → Option ((Nat → Int32) × (Nat → Int32))) (hkk_78 : ∀ (H : Heap) (locs : List Loc) (x2_7 : Int32) (xfr_8 : Nat → Int32) (ls : Array Slot), kk_78 x2_7 xfr_8 = some o → va_P D vwCl [(aM, .inr (6, [.int cod, .int w, .int ht, .int fou, .ref aMf, .int ln, .int wd, .int rd, .int kp, .int car, .int hom, .int gol, .int hld, .double err, .int isw, .int mvs, .int mde, .ref aNm, .ref aBe, .int exa, .long lst, .ref aFa, .ref aCs, .ref aFr, .ref aRo, .ref aNe])), (aMf, .inl (cMf, 576, .inl mf)), (aNm, .inl (cNm, 4608, .inl nm)), (aBe, .inl (cBe, 4608, .inl be)), (aFa, .inl (cFa, 4608, .inl fa)), (aCs, .inl (cCs, 4608, .inl cs)), (aFr, .inl (cFr, 4608, .inl xfr_8)), (aRo, .inl (cRo, 4608, .inl ro)), (aNe, .inl (cNe, 576, .inl yne_9))] H → va_D A [(aM, .inr (6, [.int cod, .int w, .int ht, .int fou, .ref aMf, .int ln, .int wd, .int rd, .int kp, .int car, .int hom, .int gol, .int hld, .double err, .int isw, .int mvs, .int mde, .ref aNm, .ref aBe, .int exa, .long lst, .ref aFa, .ref aCs, .ref aFr, .ref aRo, .ref aNe])), (aMf, .inl (cMf, 576, .inl mf)), (aNm, .inl (cNm, 4608, .inl nm)), (aBe, .inl (cBe, 4608, .inl be)), (aFa, .inl (cFa, 4608, .inl fa)), (aCs, .inl (cCs, 4608, .inl cs)), (aFr, .inl (cFr, 4608, .inl xfr_8)), (aRo, .inl (cRo, 4608, .inl ro)), (aNe, .inl (cNe, 576, .inl yne_9))] → va_S A s.heap H locs → lv_has ls 4 [(0, .ref aM), (1, .int y1_6)] → W p l e (headSpec wsX5_findFree rmX5_findFree).room s m [.ref aM].toArray below meth c H locs 0 0 (MQ below (qWv D [(aM, .inr (6, [.int cod, .int w, .int ht, .int fou, .ref aMf, .int ln, .int wd, .int rd, .int kp, .int car, .int hom, .int gol, .int hld, .double err, .int isw, .int mvs, .int mde, .ref aNm, .ref aBe, .int exa, .long lst, .ref aFa, .ref aCs, .ref aFr, .ref aRo, .ref aNe])), (aMf, .inl (cMf, 576, .inl mf)), (aNm, .inl (cNm, 4608, .inl nm)), (aBe, .inl (cBe, 4608, .inl be)), (aFa, .inl (cFa, 4608, .inl fa)), (aCs, .inl (cCs, 4608, .inl cs)), (aFr, .inl (cFr, 4608, .inl o.1)), (aRo, .inl (cRo, 4608, .inl ro)), (aNe, .inl (cNe, 576, .inl o.2))] A) [.ref aM].toArray s 0 0 A) (F0 m 78 ls [])) (fz : Nat) (H : Heap) (locs : List Loc) (x2_7 : Int32) (xfr_8 : Nat → Int32) (ls : Array Slot), J_X5_findFree_L16 F w ht fou ln wd kp y1_6 yne_9 kk_78 fz x2_7 xfr_8 = some o → va_P D vwCl [(aM, .inr (6, [.int cod, .int w, .int ht, .int fou, .ref aMf, .int ln, .int wd, .int rd, .int kp, .int car, .int hom, .int gol, .int hld, .double err, .int isw, .int mvs, .int mde, .ref aNm, .ref aBe, .int exa, .long lst, .ref aFa, .ref aCs, .ref aFr, .ref aRo, .ref aNe])), (aMf, .inl (cMf, 576, .inl mf)), (aNm, .inl (cNm, 4608, .inl nm)), (aBe, .inl (cBe, 4608, .inl be)), (aFa, .inl (cFa, 4608, .inl fa)), (aCs, .inl (cCs, 4608, .inl cs)), (aFr, .inl (cFr, 4608, .inl xfr_8)), (aRo, .inl (cRo, 4608, .inl ro)), (aNe, .inl (cNe, 576, .inl yne_9))] H → va_D A [(aM, .inr (6, [.int cod, .int w, .int ht, .int fou, .ref aMf, .int ln, .int wd, .int rd, .int kp, .int car, .int hom, .int gol, .int hld, .double err, .int isw, .int mvs, .int mde, .ref aNm, .ref aBe, .int exa, .long lst, .ref aFa, .ref aCs, .ref aFr, .ref aRo, .ref aNe])), (aMf, .inl (cMf, 576, .inl mf)), (aNm, .inl (cNm, 4608, .inl nm)), (aBe, .inl (cBe, 4608, .inl be)), (aFa, .inl (cFa, 4608, .inl fa)), (aCs, .inl (cCs, 4608, .inl cs)), (aFr, .inl (cFr, 4608, .inl xfr_8)), (aRo, .inl (cRo, 4608, .inl ro)), (aNe, .inl (cNe, 576, .inl yne_9))] → va_S A s.heap H locs → lv_has ls 4 [(0, .ref aM), (1, .int y1_6), (2, .int x2_7)] → W p l e (headSpec wsX5_findFree rmX5_findFree).room s m [.ref aM].toArray below meth c H locs 0 0 (MQ below (qWv D [(aM, .inr (6, [.int cod, .int w, .int ht, .int fou, .ref aMf, .int ln, .int wd, .int rd, .int kp, .int car, .int hom, .int gol, .int hld, .double err, .int isw, .int mvs, .int mde, .ref aNm, .ref aBe, .int exa, .long lst, .ref aFa, .ref aCs, .ref aFr, .ref aRo, .ref aNe])), (aMf, .inl (cMf, 576, .inl mf)), (aNm, .inl (cNm, 4608, .inl nm)), (aBe, .inl (cBe, 4608, .inl be)), (aFa, .inl (cFa, 4608, .inl fa)), (aCs, .inl (cCs, 4608, .inl cs)), (aFr, .inl (cFr, 4608, .inl o.1)), (aRo, .inl (cRo, 4608, .inl ro)), (aNe, .inl (cNe, 576, .inl o.2))] A) [.ref aM].toArray s 0 0 A) (F0 m 16 ls []) := by
    intro y1_6 yne_9 kk_78 hkk_78 fz
    induction fz with
    | zero =>
      intro H locs x2_7 xfr_8 ls hJ
      rw [J_X5_findFree_L16] at hJ
      cases hJ
    | succ fz ih =>
      intro H locs x2_7 xfr_8 ls hJ hP hD hS hl
      rw [J_X5_findFree_L16] at hJ
      refine lv_iload_n hx hb dX5_findFree_16 rfl (lv_at hl 2 rfl) ?_
      refine lv_aload_n hx hb dX5_findFree_17 rfl (lv_at hl 0 rfl) ?_
      refine va_get (D := D) (ci := 6) (v := .int w) (C := RX5) (T := TX5) (N := 26) hx hb hts iX5 hown hK hP 0 rfl rfl 1 (by decide) k_2 (fun _ h9 => h9) rfl dX5_findFree_18 ?_
      refine lv_icmp_ge (tgt := 78) hx hb dX5_findFree_21 (by decide) (fun c_10 => ?_) (fun c_10 => ?_)
      · have hJ := j_t c_10 hJ
        exact hkk_78 H locs x2_7 xfr_8 ls hJ hP hD hS (lv_sub hl [0, 1] rfl)
      · have hJ := j_f c_10 hJ
        refine lv_iconst (v := 0) hx hb dX5_findFree_24 (by decide) ?_
        refine lv_istore_n (lv' := [(3, .int (0 : Int32)), (0, .ref aM), (1, .int y1_6), (2, .int x2_7)]) hx hb dX5_findFree_25 rfl hl (by decide) rfl (fun ls hl => ?_)
        refine L_26 y1_6 x2_7 yne_9 _ ?_ F H locs (0 : Int32) xfr_8 ls hJ hP hD hS (lv_sub hl [1, 2, 3, 0] rfl)
        · intro H locs x3_25 xfr_26 ls hJ hP hD hS hl
          refine lv_iinc (v := (x2_7 + (1 : Int32))) (lv' := [(2, .int (x2_7 + (1 : Int32))), (0, .ref aM), (1, .int y1_6)]) hx hb dX5_findFree_72 hl (k := 2) rfl rfl (by decide) rfl (fun ls hl => ?_)
          refine lv_goto (tgt := 16) hx hb dX5_findFree_75 (by decide) ?_
          exact ih H locs (x2_7 + (1 : Int32)) xfr_26 ls hJ hP hD hS (lv_sub hl [1, 2, 0] rfl)
  have L_6 : ∀ (yne_4 : Nat → Int32) (kk_84 : Int32 → (Nat → Int32) → Option ((Nat → Int32) × (Nat → Int32))) (hkk_84 : ∀ (H : Heap) (locs : List Loc) (x1_2 : Int32) (xfr_3 : Nat → Int32) (ls : Array Slot), kk_84 x1_2 xfr_3 = some o → va_P D vwCl [(aM, .inr (6, [.int cod, .int w, .int ht, .int fou, .ref aMf, .int ln, .int wd, .int rd, .int kp, .int car, .int hom, .int gol, .int hld, .double err, .int isw, .int mvs, .int mde, .ref aNm, .ref aBe, .int exa, .long lst, .ref aFa, .ref aCs, .ref aFr, .ref aRo, .ref aNe])), (aMf, .inl (cMf, 576, .inl mf)), (aNm, .inl (cNm, 4608, .inl nm)), (aBe, .inl (cBe, 4608, .inl be)), (aFa, .inl (cFa, 4608, .inl fa)), (aCs, .inl (cCs, 4608, .inl cs)), (aFr, .inl (cFr, 4608, .inl xfr_3)), (aRo, .inl (cRo, 4608, .inl ro)), (aNe, .inl (cNe, 576, .inl yne_4))] H → va_D A [(aM, .inr (6, [.int cod, .int w, .int ht, .int fou, .ref aMf, .int ln, .int wd, .int rd, .int kp, .int car, .int hom, .int gol, .int hld, .double err, .int isw, .int mvs, .int mde, .ref aNm, .ref aBe, .int exa, .long lst, .ref aFa, .ref aCs, .ref aFr, .ref aRo, .ref aNe])), (aMf, .inl (cMf, 576, .inl mf)), (aNm, .inl (cNm, 4608, .inl nm)), (aBe, .inl (cBe, 4608, .inl be)), (aFa, .inl (cFa, 4608, .inl fa)), (aCs, .inl (cCs, 4608, .inl cs)), (aFr, .inl (cFr, 4608, .inl xfr_3)), (aRo, .inl (cRo, 4608, .inl ro)), (aNe, .inl (cNe, 576, .inl yne_4))] → va_S A s.heap H locs → lv_has ls 4 [] → W p l e (headSpec wsX5_findFree rmX5_findFree).room s m [.ref aM].toArray below meth c H locs 0 0 (MQ below (qWv D [(aM, .inr (6, [.int cod, .int w, .int ht, .int fou, .ref aMf, .int ln, .int wd, .int rd, .int kp, .int car, .int hom, .int gol, .int hld, .double err, .int isw, .int mvs, .int mde, .ref aNm, .ref aBe, .int exa, .long lst, .ref aFa, .ref aCs, .ref aFr, .ref aRo, .ref aNe])), (aMf, .inl (cMf, 576, .inl mf)), (aNm, .inl (cNm, 4608, .inl nm)), (aBe, .inl (cBe, 4608, .inl be)), (aFa, .inl (cFa, 4608, .inl fa)), (aCs, .inl (cCs, 4608, .inl cs)), (aFr, .inl (cFr, 4608, .inl o.1)), (aRo, .inl (cRo, 4608, .inl ro)), (aNe, .inl (cNe, 576, .inl o.2))] A) [.ref aM].toArray s 0 0 A) (F0 m 84 ls [])) (fz : Nat) (H : Heap) (locs : List Loc) (x1_2 : Int32) (xfr_3 : Nat → Int32) (ls : Array Slot), J_X5_findFree_L6 F w ht fou ln wd kp yne_4 kk_84 fz x1_2 xfr_3 = some o → va_P D vwCl [(aM, .inr (6, [.int cod, .int w, .int ht, .int fou, .ref aMf, .int ln, .int wd, .int rd, .int kp, .int car, .int hom, .int gol, .int hld, .double err, .int isw, .int mvs, .int mde, .ref aNm, .ref aBe, .int exa, .long lst, .ref aFa, .ref aCs, .ref aFr, .ref aRo, .ref aNe])), (aMf, .inl (cMf, 576, .inl mf)), (aNm, .inl (cNm, 4608, .inl nm)), (aBe, .inl (cBe, 4608, .inl be)), (aFa, .inl (cFa, 4608, .inl fa)), (aCs, .inl (cCs, 4608, .inl cs)), (aFr, .inl (cFr, 4608, .inl xfr_3)), (aRo, .inl (cRo, 4608, .inl ro)), (aNe, .inl (cNe, 576, .inl yne_4))] H → va_D A [(aM, .inr (6, [.int cod, .int w, .int ht, .int fou, .ref aMf, .int ln, .int wd, .int rd, .int kp, .int car, .int hom, .int gol, .int hld, .double err, .int isw, .int mvs, .int mde, .ref aNm, .ref aBe, .int exa, .long lst, .ref aFa, .ref aCs, .ref aFr, .ref aRo, .ref aNe])), (aMf, .inl (cMf, 576, .inl mf)), (aNm, .inl (cNm, 4608, .inl nm)), (aBe, .inl (cBe, 4608, .inl be)), (aFa, .inl (cFa, 4608, .inl fa)), (aCs, .inl (cCs, 4608, .inl cs)), (aFr, .inl (cFr, 4608, .inl xfr_3)), (aRo, .inl (cRo, 4608, .inl ro)), (aNe, .inl (cNe, 576, .inl yne_4))] → va_S A s.heap H locs → lv_has ls 4 [(0, .ref aM), (1, .int x1_2)] → W p l e (headSpec wsX5_findFree rmX5_findFree).room s m [.ref aM].toArray below meth c H locs 0 0 (MQ below (qWv D [(aM, .inr (6, [.int cod, .int w, .int ht, .int fou, .ref aMf, .int ln, .int wd, .int rd, .int kp, .int car, .int hom, .int gol, .int hld, .double err, .int isw, .int mvs, .int mde, .ref aNm, .ref aBe, .int exa, .long lst, .ref aFa, .ref aCs, .ref aFr, .ref aRo, .ref aNe])), (aMf, .inl (cMf, 576, .inl mf)), (aNm, .inl (cNm, 4608, .inl nm)), (aBe, .inl (cBe, 4608, .inl be)), (aFa, .inl (cFa, 4608, .inl fa)), (aCs, .inl (cCs, 4608, .inl cs)), (aFr, .inl (cFr, 4608, .inl o.1)), (aRo, .inl (cRo, 4608, .inl ro)), (aNe, .inl (cNe, 576, .inl o.2))] A) [.ref aM].toArray s 0 0 A) (F0 m 6 ls []) := by
    intro yne_4 kk_84 hkk_84 fz
    induction fz with
    | zero =>
      intro H locs x1_2 xfr_3 ls hJ
      rw [J_X5_findFree_L6] at hJ
      cases hJ
    | succ fz ih =>
      intro H locs x1_2 xfr_3 ls hJ hP hD hS hl
      rw [J_X5_findFree_L6] at hJ
      refine lv_iload_n hx hb dX5_findFree_6 rfl (lv_at hl 1 rfl) ?_
      refine lv_aload_n hx hb dX5_findFree_7 rfl (lv_at hl 0 rfl) ?_
      refine va_get (D := D) (ci := 6) (v := .int ht) (C := RX5) (T := TX5) (N := 26) hx hb hts iX5 hown hK hP 0 rfl rfl 2 (by decide) k_1 (fun _ h9 => h9) rfl dX5_findFree_8 ?_
      refine lv_icmp_ge (tgt := 84) hx hb dX5_findFree_11 (by decide) (fun c_5 => ?_) (fun c_5 => ?_)
      · have hJ := j_t c_5 hJ
        exact hkk_84 H locs x1_2 xfr_3 ls hJ hP hD hS (lv_sub hl [] rfl)
      · have hJ := j_f c_5 hJ
        refine lv_iconst (v := 0) hx hb dX5_findFree_14 (by decide) ?_
        refine lv_istore_n (lv' := [(2, .int (0 : Int32)), (0, .ref aM), (1, .int x1_2)]) hx hb dX5_findFree_15 rfl hl (by decide) rfl (fun ls hl => ?_)
        refine L_16 x1_2 yne_4 _ ?_ F H locs (0 : Int32) xfr_3 ls hJ hP hD hS (lv_sub hl [1, 2, 0] rfl)
        · intro H locs x2_27 xfr_28 ls hJ hP hD hS hl
          refine lv_iinc (v := (x1_2 + (1 : Int32))) (lv' := [(1, .int (x1_2 + (1 : Int32))), (0, .ref aM)]) hx hb dX5_findFree_78 hl (k := 1) rfl rfl (by decide) rfl (fun ls hl => ?_)
          refine lv_goto (tgt := 6) hx hb dX5_findFree_81 (by decide) ?_
          exact ih H locs (x1_2 + (1 : Int32)) xfr_28 ls hJ hP hD hS (lv_sub hl [1, 0] rfl)
  unfold J_X5_findFree at hJ
  refine lv_aload_n hx hb dX5_findFree_0 rfl (lv_at hl 0 rfl) ?_
  obtain ⟨v_1, hv_1, hJ⟩ := j_b hJ
  refine wr_v (wr := []) (wn := [(aM, .inr (6, [.int cod, .int w, .int ht, .int fou, .ref aMf, .int ln, .int wd, .int rd, .int kp, .int car, .int hom, .int gol, .int hld, .double err, .int isw, .int mvs, .int mde, .ref aNm, .ref aBe, .int exa, .long lst, .ref aFa, .ref aCs, .ref aFr, .ref aRo, .ref aNe])), (aMf, .inl (cMf, 576, .inl mf)), (aNm, .inl (cNm, 4608, .inl nm)), (aBe, .inl (cBe, 4608, .inl be)), (aFa, .inl (cFa, 4608, .inl fa)), (aCs, .inl (cCs, 4608, .inl cs)), (aFr, .inl (cFr, 4608, .inl fr)), (aRo, .inl (cRo, 4608, .inl ro)), (aNe, .inl (cNe, 576, .inl v_1))]) (va_runV (As := []) (rest := []) ⟨hx, hb, hml, hown, hts⟩ (c_X5_findNear l D aM aMf aNm aBe aFa aCs aFr aRo aNe cMf cNm cBe cFa cCs cFr cRo cNe cod w ht fou ln wd rd kp car hom gol hld err isw mvs mde exa lst mf nm be fa cs fr ro ne tX tY s.heap.size F v_1 hv_1) (cwV 0 hts gX5_findFree_X5_findNear rfl rfl rfl (by decide +kernel) ⟨Nat.le_of_ble_eq_true rfl, Nat.le_of_ble_eq_true rfl⟩) (preWV [] hP hD hK hS hA hST [0, 1, 2, 3, 4, 5, 6, 7, 8] rfl rfl rfl [0, 1, 2, 3, 4, 5, 6, 7] rfl (ci := 6) (q0 := 0) rfl rfl) rfl rfl hl.1 rfl (lv_room (Nat.le_of_ble_eq_true rfl)) dX5_findFree_1 ⟨Nat.zero_le _, Nat.zero_le _⟩) hP hD hS hA [0, 1, 2, 3, 4, 5, 6, 7, 8] [] rfl rfl rfl (by decide) [0, 1, 2, 3, 4, 5, 6, 7, 8] rfl rfl rfl (fun H locs hP hD hS => ?_)
  refine lv_iconst (v := 0) hx hb dX5_findFree_4 (by decide) ?_
  refine lv_istore_n (lv' := [(1, .int (0 : Int32)), (0, .ref aM)]) hx hb dX5_findFree_5 rfl hl (by decide) rfl (fun ls hl => ?_)
  refine L_6 v_1 _ ?_ F H locs (0 : Int32) fr ls hJ hP hD hS (lv_sub hl [1, 0] rfl)
  · intro H locs x1_29 xfr_30 ls hJ hP hD hS hl
    have ho := Option.some.inj hJ
    exact W.vret hx hb hr (fun t ht hW => ⟨⟨(), rfl, trivial, (by rw [ht, ← ho]; exact hP), (by rw [← ho]; exact hD)⟩, hS.F ht⟩) hS.2.2 dX5_findFree_84
set_option maxHeartbeats 4000000 in
set_option maxRecDepth 100000 in
theorem c_X5_more (l : Launch) (D : va_G) (aM aMf aNm aBe aFa aCs aFr aRo aNe : Nat) (cMf cNm cBe cFa cCs cFr cRo cNe : ClassId) (cod : Int32) (w : Int32) (ht : Int32) (fou : Int32) (ln : Int32) (wd : Int32) (rd : Int32) (kp : Int32) (car : Int32) (hom : Int32) (gol : Int32) (hld : Int32) (err : UInt64) (isw : Int32) (mvs : Int32) (mde : Int32) (exa : Int32) (lst : Int64) (mf : Nat → Int32) (nm : Nat → Int32) (be : Nat → Int32) (fa : Nat → Int32) (cs : Nat → Int32) (fr : Nat → Int32) (ro : Nat → Int32) (ne : Nat → Int32) (p0 : Int32) (tX tY sz F : Nat) (o : Int32) (hJ : J_X5_more F rd p0 = some o) : Met l yX5_more wsX5_more rmX5_more (va_Pc [.ref aM, .int p0] (pcR D [(aM, .inr (6, [.int cod, .int w, .int ht, .int fou, .ref aMf, .int ln, .int wd, .int rd, .int kp, .int car, .int hom, .int gol, .int hld, .double err, .int isw, .int mvs, .int mde, .ref aNm, .ref aBe, .int exa, .long lst, .ref aFa, .ref aCs, .ref aFr, .ref aRo, .ref aNe])), (aMf, .inl (cMf, 576, .inl mf)), (aNm, .inl (cNm, 4608, .inl nm)), (aBe, .inl (cBe, 4608, .inl be)), (aFa, .inl (cFa, 4608, .inl fa)), (aCs, .inl (cCs, 4608, .inl cs)), (aFr, .inl (cFr, 4608, .inl fr)), (aRo, .inl (cRo, 4608, .inl ro)), (aNe, .inl (cNe, 576, .inl ne))] [(cMf, .boolean), (cNm, .int), (cBe, .int), (cFa, .int), (cCs, .int), (cFr, .boolean), (cRo, .int), (cNe, .int)] sz tX tY)) (qRi o (va_A [] sz)) 0 0 (va_A [] sz) := by
  refine Met.ofW (cc := cX5_more) (maxL := 2) (ret := (some .int)) (by decide) rfl ?_
  intro p e s m args below meth c s₁ B hml hv
  obtain ⟨rfl, hsz, hP, hK, hST⟩ := hv
  have hx := B.exec
  have hb := B.bytes
  have hr := B.returns
  have hts := atoms_spec (ws := wsX5_more) B.pre
  have hown : s.vm.findClass RX5 = some m.cls := findClass_of_methodNamed B.named
  have hlocks := B.notSynchronized
  subst hsz
  generalize hAe : va_A [] s.heap.size = A at hST ⊢
  have hA : ∀ q : Nat, s.heap.size ≤ q → A q := fun q h => by rw [← hAe]; exact Or.inr h
  have hS : va_S A s.heap s.heap [] := va_S.rf
  have hl := lv_entry ([.ref aM, .int p0]) (n := 2) (Nat.le_of_ble_eq_true rfl)
  rw [lg_entry_eq]
  generalize (lg_sl ([.ref aM, .int p0]) ++ List.replicate (2 - (lg_sl ([.ref aM, .int p0])).length) Slot.unset).toArray = ls at hl ⊢
  have hl : lv_has ls 2 [(0, .ref aM), (1, .int p0)] := hl
  have iX5 : ∀ w ∈ wsX50, w ∈ wsX5_more := fun w h => List.mem_cons_of_mem _ (List.mem_append_right _ h)
  have k_2 := hts (.constant RX5 104 (200000)) (List.mem_of_getElem? (i := 2) rfl)
  have k_3 := hts (.fieldLink RX5 20 "ParkWaysModel" "radius" "I") (List.mem_of_getElem? (i := 3) rfl)
  have k_1 := hts (.constant RX5 103 (100000)) (List.mem_of_getElem? (i := 1) rfl)
  unfold J_X5_more at hJ
  refine lv_iload_n hx hb dX5_more_0 rfl (lv_at hl 1 rfl) ?_
  refine lv_iconst (v := 2) hx hb dX5_more_1 (by decide) ?_
  refine lv_icmp_ge (tgt := 10) hx hb dX5_more_2 (by decide) (fun c_1 => ?_) (fun c_1 => ?_)
  · have hJ := j_t c_1 hJ
    refine lv_ldc (v := 200000) hx hb hown k_2 dX5_more_10 ?_
    refine lv_aload_n hx hb dX5_more_12 rfl (lv_at hl 0 rfl) ?_
    refine va_get (D := D) (ci := 6) (v := .int rd) (C := RX5) (T := TX5) (N := 26) hx hb hts iX5 hown hK hP 0 rfl rfl 7 (by decide) k_3 (fun _ h9 => h9) rfl dX5_more_13 ?_
    refine lv_imul hx hb dX5_more_16 ?_
    refine lv_iconst (v := 1) hx hb dX5_more_17 (by decide) ?_
    refine lv_iadd hx hb dX5_more_18 ?_
    have ho := Option.some.inj hJ
    exact W.iret (v := (((200000 : Int32) * rd) + (1 : Int32))) hx hb hr (fun t ht hW => ⟨⟨_, (), rfl, ho, trivial⟩, hS.F ht⟩) hS.2.2 dX5_more_19
  · have hJ := j_f c_1 hJ
    refine lv_ldc (v := 100000) hx hb hown k_1 dX5_more_5 ?_
    refine lv_goto (tgt := 19) hx hb dX5_more_7 (by decide) ?_
    have ho := Option.some.inj hJ
    exact W.iret (v := (100000 : Int32)) hx hb hr (fun t ht hW => ⟨⟨_, (), rfl, ho, trivial⟩, hS.F ht⟩) hS.2.2 dX5_more_19
set_option maxHeartbeats 4000000 in
set_option maxRecDepth 100000 in
theorem c_X5_findCosts (l : Launch) (D : va_G) (aM aMf aNm aBe aFa aCs aFr aRo aNe : Nat) (cMf cNm cBe cFa cCs cFr cRo cNe : ClassId) (cod : Int32) (w : Int32) (ht : Int32) (fou : Int32) (ln : Int32) (wd : Int32) (rd : Int32) (kp : Int32) (car : Int32) (hom : Int32) (gol : Int32) (hld : Int32) (err : UInt64) (isw : Int32) (mvs : Int32) (mde : Int32) (exa : Int32) (lst : Int64) (mf : Nat → Int32) (nm : Nat → Int32) (be : Nat → Int32) (fa : Nat → Int32) (cs : Nat → Int32) (fr : Nat → Int32) (ro : Nat → Int32) (ne : Nat → Int32) (tX tY sz F : Nat) (o : (Nat → Int32) × (Nat → Int32) × (Nat → Int32) × (Nat → Int32) × (Nat → Int32)) (hJ : J_X5_findCosts F w ht fou ln wd rd kp gol mf fa cs fr ro ne = some o) : Met l yX5_findCosts wsX5_findCosts rmX5_findCosts (va_Pc [.ref aM] (pcW D [(aM, .inr (6, [.int cod, .int w, .int ht, .int fou, .ref aMf, .int ln, .int wd, .int rd, .int kp, .int car, .int hom, .int gol, .int hld, .double err, .int isw, .int mvs, .int mde, .ref aNm, .ref aBe, .int exa, .long lst, .ref aFa, .ref aCs, .ref aFr, .ref aRo, .ref aNe])), (aMf, .inl (cMf, 576, .inl mf)), (aNm, .inl (cNm, 4608, .inl nm)), (aBe, .inl (cBe, 4608, .inl be)), (aFa, .inl (cFa, 4608, .inl fa)), (aCs, .inl (cCs, 4608, .inl cs)), (aFr, .inl (cFr, 4608, .inl fr)), (aRo, .inl (cRo, 4608, .inl ro)), (aNe, .inl (cNe, 576, .inl ne))] [(cMf, .boolean), (cNm, .int), (cBe, .int), (cFa, .int), (cCs, .int), (cFr, .boolean), (cRo, .int), (cNe, .int)] sz tX tY)) (qWv D [(aM, .inr (6, [.int cod, .int w, .int ht, .int fou, .ref aMf, .int ln, .int wd, .int rd, .int kp, .int car, .int hom, .int gol, .int hld, .double err, .int isw, .int mvs, .int mde, .ref aNm, .ref aBe, .int exa, .long lst, .ref aFa, .ref aCs, .ref aFr, .ref aRo, .ref aNe])), (aMf, .inl (cMf, 576, .inl mf)), (aNm, .inl (cNm, 4608, .inl nm)), (aBe, .inl (cBe, 4608, .inl be)), (aFa, .inl (cFa, 4608, .inl o.1)), (aCs, .inl (cCs, 4608, .inl o.2.1)), (aFr, .inl (cFr, 4608, .inl o.2.2.1)), (aRo, .inl (cRo, 4608, .inl o.2.2.2.1)), (aNe, .inl (cNe, 576, .inl o.2.2.2.2))] (va_A [(aM, .inr (6, [.int cod, .int w, .int ht, .int fou, .ref aMf, .int ln, .int wd, .int rd, .int kp, .int car, .int hom, .int gol, .int hld, .double err, .int isw, .int mvs, .int mde, .ref aNm, .ref aBe, .int exa, .long lst, .ref aFa, .ref aCs, .ref aFr, .ref aRo, .ref aNe])), (aMf, .inl (cMf, 576, .inl mf)), (aNm, .inl (cNm, 4608, .inl nm)), (aBe, .inl (cBe, 4608, .inl be)), (aFa, .inl (cFa, 4608, .inl fa)), (aCs, .inl (cCs, 4608, .inl cs)), (aFr, .inl (cFr, 4608, .inl fr)), (aRo, .inl (cRo, 4608, .inl ro)), (aNe, .inl (cNe, 576, .inl ne))] sz)) 0 0 (va_A [(aM, .inr (6, [.int cod, .int w, .int ht, .int fou, .ref aMf, .int ln, .int wd, .int rd, .int kp, .int car, .int hom, .int gol, .int hld, .double err, .int isw, .int mvs, .int mde, .ref aNm, .ref aBe, .int exa, .long lst, .ref aFa, .ref aCs, .ref aFr, .ref aRo, .ref aNe])), (aMf, .inl (cMf, 576, .inl mf)), (aNm, .inl (cNm, 4608, .inl nm)), (aBe, .inl (cBe, 4608, .inl be)), (aFa, .inl (cFa, 4608, .inl fa)), (aCs, .inl (cCs, 4608, .inl cs)), (aFr, .inl (cFr, 4608, .inl fr)), (aRo, .inl (cRo, 4608, .inl ro)), (aNe, .inl (cNe, 576, .inl ne))] sz) := by
  refine Met.ofW (cc := cX5_findCosts) (maxL := 7) (ret := none) (by decide) rfl ?_
  intro p e s m args below meth c s₁ B hml hv
  obtain ⟨rfl, hsz, hP, hK, hD0, hST⟩ := hv
  have hx := B.exec
  have hb := B.bytes
  have hr := B.returns
  have hts := atoms_spec (ws := wsX5_findCosts) B.pre
  have hown : s.vm.findClass RX5 = some m.cls := findClass_of_methodNamed B.named
  have hlocks := B.notSynchronized
  subst hsz
  have hD := hD0.self (sz := s.heap.size)
  generalize hAe : va_A [(aM, .inr (6, [.int cod, .int w, .int ht, .int fou, .ref aMf, .int ln, .int wd, .int rd, .int kp, .int car, .int hom, .int gol, .int hld, .double err, .int isw, .int mvs, .int mde, .ref aNm, .ref aBe, .int exa, .long lst, .ref aFa, .ref aCs, .ref aFr, .ref aRo, .ref aNe])), (aMf, .inl (cMf, 576, .inl mf)), (aNm, .inl (cNm, 4608, .inl nm)), (aBe, .inl (cBe, 4608, .inl be)), (aFa, .inl (cFa, 4608, .inl fa)), (aCs, .inl (cCs, 4608, .inl cs)), (aFr, .inl (cFr, 4608, .inl fr)), (aRo, .inl (cRo, 4608, .inl ro)), (aNe, .inl (cNe, 576, .inl ne))] s.heap.size = A at hD hST ⊢
  have hA : ∀ q : Nat, s.heap.size ≤ q → A q := fun q h => by rw [← hAe]; exact Or.inr h
  have hS : va_S A s.heap s.heap [] := va_S.rf
  have hl := lv_entry ([.ref aM]) (n := 7) (Nat.le_of_ble_eq_true rfl)
  rw [lg_entry_eq]
  generalize (lg_sl ([.ref aM]) ++ List.replicate (7 - (lg_sl ([.ref aM])).length) Slot.unset).toArray = ls at hl ⊢
  have hl : lv_has ls 7 [(0, .ref aM)] := hl
  have iX5 : ∀ w ∈ wsX50, w ∈ wsX5_findCosts := fun w h => List.mem_cons_of_mem _ (List.mem_append_right _ h)
  have k_1 := hts (.fieldLink RX5 34 "ParkWaysModel" "far" "[I") (List.mem_of_getElem? (i := 1) rfl)
  have k_2 := hts (.constant RX5 108 (1000000000)) (List.mem_of_getElem? (i := 2) rfl)
  have k_3 := hts (.fieldLink RX5 40 "ParkWaysModel" "free" "[Z") (List.mem_of_getElem? (i := 3) rfl)
  have k_4 := hts (.fieldLink RX5 109 "ParkWaysModel" "goal" "I") (List.mem_of_getElem? (i := 4) rfl)
  have k_5 := hts (.fieldLink RX5 37 "ParkWaysModel" "cost" "[I") (List.mem_of_getElem? (i := 5) rfl)
  have k_6 := hts (.fieldLink RX5 43 "ParkWaysModel" "row" "[I") (List.mem_of_getElem? (i := 6) rfl)
  have L_6 : ∀ (ycs_4 : Nat → Int32) (yfr_5 : Nat → Int32) (yro_6 : Nat → Int32) (yne_7 : Nat → Int32) (kk_27 : Int32 → (Nat → Int32) → Option ((Nat → Int32) × (Nat → Int32) × (Nat → Int32) × (Nat → Int32) × (Nat → Int32))) (hkk_27 : ∀ (H : Heap) (locs : List Loc) (x1_2 : Int32) (xfa_3 : Nat → Int32) (ls : Array Slot), kk_27 x1_2 xfa_3 = some o → va_P D vwCl [(aM, .inr (6, [.int cod, .int w, .int ht, .int fou, .ref aMf, .int ln, .int wd, .int rd, .int kp, .int car, .int hom, .int gol, .int hld, .double err, .int isw, .int mvs, .int mde, .ref aNm, .ref aBe, .int exa, .long lst, .ref aFa, .ref aCs, .ref aFr, .ref aRo, .ref aNe])), (aMf, .inl (cMf, 576, .inl mf)), (aNm, .inl (cNm, 4608, .inl nm)), (aBe, .inl (cBe, 4608, .inl be)), (aFa, .inl (cFa, 4608, .inl xfa_3)), (aCs, .inl (cCs, 4608, .inl ycs_4)), (aFr, .inl (cFr, 4608, .inl yfr_5)), (aRo, .inl (cRo, 4608, .inl yro_6)), (aNe, .inl (cNe, 576, .inl yne_7))] H → va_D A [(aM, .inr (6, [.int cod, .int w, .int ht, .int fou, .ref aMf, .int ln, .int wd, .int rd, .int kp, .int car, .int hom, .int gol, .int hld, .double err, .int isw, .int mvs, .int mde, .ref aNm, .ref aBe, .int exa, .long lst, .ref aFa, .ref aCs, .ref aFr, .ref aRo, .ref aNe])), (aMf, .inl (cMf, 576, .inl mf)), (aNm, .inl (cNm, 4608, .inl nm)), (aBe, .inl (cBe, 4608, .inl be)), (aFa, .inl (cFa, 4608, .inl xfa_3)), (aCs, .inl (cCs, 4608, .inl ycs_4)), (aFr, .inl (cFr, 4608, .inl yfr_5)), (aRo, .inl (cRo, 4608, .inl yro_6)), (aNe, .inl (cNe, 576, .inl yne_7))] → va_S A s.heap H locs → lv_has ls 7 [(0, .ref aM)] → W p l e (headSpec wsX5_findCosts rmX5_findCosts).room s m [.ref aM].toArray below meth c H locs 0 0 (MQ below (qWv D [(aM, .inr (6, [.int cod, .int w, .int ht, .int fou, .ref aMf, .int ln, .int wd, .int rd, .int kp, .int car, .int hom, .int gol, .int hld, .double err, .int isw, .int mvs, .int mde, .ref aNm, .ref aBe, .int exa, .long lst, .ref aFa, .ref aCs, .ref aFr, .ref aRo, .ref aNe])), (aMf, .inl (cMf, 576, .inl mf)), (aNm, .inl (cNm, 4608, .inl nm)), (aBe, .inl (cBe, 4608, .inl be)), (aFa, .inl (cFa, 4608, .inl o.1)), (aCs, .inl (cCs, 4608, .inl o.2.1)), (aFr, .inl (cFr, 4608, .inl o.2.2.1)), (aRo, .inl (cRo, 4608, .inl o.2.2.2.1)), (aNe, .inl (cNe, 576, .inl o.2.2.2.2))] A) [.ref aM].toArray s 0 0 A) (F0 m 27 ls [])) (fz : Nat) (H : Heap) (locs : List Loc) (x1_2 : Int32) (xfa_3 : Nat → Int32) (ls : Array Slot), J_X5_findCosts_L6 F kk_27 fz x1_2 xfa_3 = some o → va_P D vwCl [(aM, .inr (6, [.int cod, .int w, .int ht, .int fou, .ref aMf, .int ln, .int wd, .int rd, .int kp, .int car, .int hom, .int gol, .int hld, .double err, .int isw, .int mvs, .int mde, .ref aNm, .ref aBe, .int exa, .long lst, .ref aFa, .ref aCs, .ref aFr, .ref aRo, .ref aNe])), (aMf, .inl (cMf, 576, .inl mf)), (aNm, .inl (cNm, 4608, .inl nm)), (aBe, .inl (cBe, 4608, .inl be)), (aFa, .inl (cFa, 4608, .inl xfa_3)), (aCs, .inl (cCs, 4608, .inl ycs_4)), (aFr, .inl (cFr, 4608, .inl yfr_5)), (aRo, .inl (cRo, 4608, .inl yro_6)), (aNe, .inl (cNe, 576, .inl yne_7))] H → va_D A [(aM, .inr (6, [.int cod, .int w, .int ht, .int fou, .ref aMf, .int ln, .int wd, .int rd, .int kp, .int car, .int hom, .int gol, .int hld, .double err, .int isw, .int mvs, .int mde, .ref aNm, .ref aBe, .int exa, .long lst, .ref aFa, .ref aCs, .ref aFr, .ref aRo, .ref aNe])), (aMf, .inl (cMf, 576, .inl mf)), (aNm, .inl (cNm, 4608, .inl nm)), (aBe, .inl (cBe, 4608, .inl be)), (aFa, .inl (cFa, 4608, .inl xfa_3)), (aCs, .inl (cCs, 4608, .inl ycs_4)), (aFr, .inl (cFr, 4608, .inl yfr_5)), (aRo, .inl (cRo, 4608, .inl yro_6)), (aNe, .inl (cNe, 576, .inl yne_7))] → va_S A s.heap H locs → lv_has ls 7 [(0, .ref aM), (1, .int x1_2)] → W p l e (headSpec wsX5_findCosts rmX5_findCosts).room s m [.ref aM].toArray below meth c H locs 0 0 (MQ below (qWv D [(aM, .inr (6, [.int cod, .int w, .int ht, .int fou, .ref aMf, .int ln, .int wd, .int rd, .int kp, .int car, .int hom, .int gol, .int hld, .double err, .int isw, .int mvs, .int mde, .ref aNm, .ref aBe, .int exa, .long lst, .ref aFa, .ref aCs, .ref aFr, .ref aRo, .ref aNe])), (aMf, .inl (cMf, 576, .inl mf)), (aNm, .inl (cNm, 4608, .inl nm)), (aBe, .inl (cBe, 4608, .inl be)), (aFa, .inl (cFa, 4608, .inl o.1)), (aCs, .inl (cCs, 4608, .inl o.2.1)), (aFr, .inl (cFr, 4608, .inl o.2.2.1)), (aRo, .inl (cRo, 4608, .inl o.2.2.2.1)), (aNe, .inl (cNe, 576, .inl o.2.2.2.2))] A) [.ref aM].toArray s 0 0 A) (F0 m 6 ls []) := by
    intro ycs_4 yfr_5 yro_6 yne_7 kk_27 hkk_27 fz
    induction fz with
    | zero =>
      intro H locs x1_2 xfa_3 ls hJ
      rw [J_X5_findCosts_L6] at hJ
      cases hJ
    | succ fz ih =>
      intro H locs x1_2 xfa_3 ls hJ hP hD hS hl
      rw [J_X5_findCosts_L6] at hJ
      refine lv_iload_n hx hb dX5_findCosts_6 rfl (lv_at hl 1 rfl) ?_
      refine lv_sipush (v := 4608) hx hb dX5_findCosts_7 (by decide) ?_
      refine lv_icmp_ge (tgt := 27) hx hb dX5_findCosts_10 (by decide) (fun c_8 => ?_) (fun c_8 => ?_)
      · have hJ := j_t c_8 hJ
        exact hkk_27 H locs x1_2 xfa_3 ls hJ hP hD hS (lv_sub hl [0] rfl)
      · have hJ := j_f c_8 hJ
        refine lv_aload_n hx hb dX5_findCosts_13 rfl (lv_at hl 0 rfl) ?_
        refine va_get (D := D) (ci := 6) (v := .ref aFa) (C := RX5) (T := TX5) (N := 26) hx hb hts iX5 hown hK hP 0 rfl rfl 21 (by decide) k_1 (fun _ h9 => h9) rfl dX5_findCosts_14 ?_
        refine lv_iload_n hx hb dX5_findCosts_17 rfl (lv_at hl 1 rfl) ?_
        refine lv_ldc (v := 1000000000) hx hb hown k_2 dX5_findCosts_18 ?_
        obtain ⟨h_9, hJ⟩ := g_in hJ
        refine va_iast hx hb hK hP hD hS 4 3 rfl rfl h_9 dX5_findCosts_20 (fun H locs hP hD hS => ?_)
        have hP : va_P D vwCl [(aM, .inr (6, [.int cod, .int w, .int ht, .int fou, .ref aMf, .int ln, .int wd, .int rd, .int kp, .int car, .int hom, .int gol, .int hld, .double err, .int isw, .int mvs, .int mde, .ref aNm, .ref aBe, .int exa, .long lst, .ref aFa, .ref aCs, .ref aFr, .ref aRo, .ref aNe])), (aMf, .inl (cMf, 576, .inl mf)), (aNm, .inl (cNm, 4608, .inl nm)), (aBe, .inl (cBe, 4608, .inl be)), (aFa, .inl (cFa, 4608, .inl (upd xfa_3 x1_2.toNatClampNeg (1000000000 : Int32)))), (aCs, .inl (cCs, 4608, .inl ycs_4)), (aFr, .inl (cFr, 4608, .inl yfr_5)), (aRo, .inl (cRo, 4608, .inl yro_6)), (aNe, .inl (cNe, 576, .inl yne_7))] H := hP
        have hD : va_D A [(aM, .inr (6, [.int cod, .int w, .int ht, .int fou, .ref aMf, .int ln, .int wd, .int rd, .int kp, .int car, .int hom, .int gol, .int hld, .double err, .int isw, .int mvs, .int mde, .ref aNm, .ref aBe, .int exa, .long lst, .ref aFa, .ref aCs, .ref aFr, .ref aRo, .ref aNe])), (aMf, .inl (cMf, 576, .inl mf)), (aNm, .inl (cNm, 4608, .inl nm)), (aBe, .inl (cBe, 4608, .inl be)), (aFa, .inl (cFa, 4608, .inl (upd xfa_3 x1_2.toNatClampNeg (1000000000 : Int32)))), (aCs, .inl (cCs, 4608, .inl ycs_4)), (aFr, .inl (cFr, 4608, .inl yfr_5)), (aRo, .inl (cRo, 4608, .inl yro_6)), (aNe, .inl (cNe, 576, .inl yne_7))] := hD
        refine lv_iinc (v := (x1_2 + (1 : Int32))) (lv' := [(1, .int (x1_2 + (1 : Int32))), (0, .ref aM)]) hx hb dX5_findCosts_21 hl (k := 1) rfl rfl (by decide) rfl (fun ls hl => ?_)
        refine lv_goto (tgt := 6) hx hb dX5_findCosts_24 (by decide) ?_
        exact ih H locs (x1_2 + (1 : Int32)) (upd xfa_3 x1_2.toNatClampNeg (1000000000 : Int32)) ls hJ hP hD hS (lv_sub hl [1, 0] rfl)
  have L_89 : ∀ (y2_27 : Int32) (y3_28 : Int32) (yfr_32 : Nat → Int32) (yne_34 : Nat → Int32) (kk_244 : Int32 → Int32 → (Nat → Int32) → (Nat → Int32) → (Nat → Int32) → Option ((Nat → Int32) × (Nat → Int32) × (Nat → Int32) × (Nat → Int32) × (Nat → Int32))) (hkk_244 : ∀ (H : Heap) (locs : List Loc) (x1_26 : Int32) (x4_29 : Int32) (xfa_30 : Nat → Int32) (xcs_31 : Nat → Int32) (xro_33 : Nat → Int32) (ls : Array Slot), kk_244 x1_26 x4_29 xfa_30 xcs_31 xro_33 = some o → va_P D vwCl [(aM, .inr (6, [.int cod, .int w, .int ht, .int fou, .ref aMf, .int ln, .int wd, .int rd, .int kp, .int car, .int hom, .int gol, .int hld, .double err, .int isw, .int mvs, .int mde, .ref aNm, .ref aBe, .int exa, .long lst, .ref aFa, .ref aCs, .ref aFr, .ref aRo, .ref aNe])), (aMf, .inl (cMf, 576, .inl mf)), (aNm, .inl (cNm, 4608, .inl nm)), (aBe, .inl (cBe, 4608, .inl be)), (aFa, .inl (cFa, 4608, .inl xfa_30)), (aCs, .inl (cCs, 4608, .inl xcs_31)), (aFr, .inl (cFr, 4608, .inl yfr_32)), (aRo, .inl (cRo, 4608, .inl xro_33)), (aNe, .inl (cNe, 576, .inl yne_34))] H → va_D A [(aM, .inr (6, [.int cod, .int w, .int ht, .int fou, .ref aMf, .int ln, .int wd, .int rd, .int kp, .int car, .int hom, .int gol, .int hld, .double err, .int isw, .int mvs, .int mde, .ref aNm, .ref aBe, .int exa, .long lst, .ref aFa, .ref aCs, .ref aFr, .ref aRo, .ref aNe])), (aMf, .inl (cMf, 576, .inl mf)), (aNm, .inl (cNm, 4608, .inl nm)), (aBe, .inl (cBe, 4608, .inl be)), (aFa, .inl (cFa, 4608, .inl xfa_30)), (aCs, .inl (cCs, 4608, .inl xcs_31)), (aFr, .inl (cFr, 4608, .inl yfr_32)), (aRo, .inl (cRo, 4608, .inl xro_33)), (aNe, .inl (cNe, 576, .inl yne_34))] → va_S A s.heap H locs → lv_has ls 7 [(0, .ref aM), (1, .int x1_26), (2, .int y2_27)] → W p l e (headSpec wsX5_findCosts rmX5_findCosts).room s m [.ref aM].toArray below meth c H locs 0 0 (MQ below (qWv D [(aM, .inr (6, [.int cod, .int w, .int ht, .int fou, .ref aMf, .int ln, .int wd, .int rd, .int kp, .int car, .int hom, .int gol, .int hld, .double err, .int isw, .int mvs, .int mde, .ref aNm, .ref aBe, .int exa, .long lst, .ref aFa, .ref aCs, .ref aFr, .ref aRo, .ref aNe])), (aMf, .inl (cMf, 576, .inl mf)), (aNm, .inl (cNm, 4608, .inl nm)), (aBe, .inl (cBe, 4608, .inl be)), (aFa, .inl (cFa, 4608, .inl o.1)), (aCs, .inl (cCs, 4608, .inl o.2.1)), (aFr, .inl (cFr, 4608, .inl o.2.2.1)), (aRo, .inl (cRo, 4608, .inl o.2.2.2.1)), (aNe, .inl (cNe, 576, .inl o.2.2.2.2))] A) [.ref aM].toArray s 0 0 A) (F0 m 244 ls [])) (fz : Nat) (H : Heap) (locs : List Loc) (x1_26 : Int32) (x4_29 : Int32) (xfa_30 : Nat → Int32) (xcs_31 : Nat → Int32) (xro_33 : Nat → Int32) (ls : Array Slot), J_X5_findCosts_L89 F w ht fou rd y3_28 yfr_32 kk_244 fz x1_26 x4_29 xfa_30 xcs_31 xro_33 = some o → va_P D vwCl [(aM, .inr (6, [.int cod, .int w, .int ht, .int fou, .ref aMf, .int ln, .int wd, .int rd, .int kp, .int car, .int hom, .int gol, .int hld, .double err, .int isw, .int mvs, .int mde, .ref aNm, .ref aBe, .int exa, .long lst, .ref aFa, .ref aCs, .ref aFr, .ref aRo, .ref aNe])), (aMf, .inl (cMf, 576, .inl mf)), (aNm, .inl (cNm, 4608, .inl nm)), (aBe, .inl (cBe, 4608, .inl be)), (aFa, .inl (cFa, 4608, .inl xfa_30)), (aCs, .inl (cCs, 4608, .inl xcs_31)), (aFr, .inl (cFr, 4608, .inl yfr_32)), (aRo, .inl (cRo, 4608, .inl xro_33)), (aNe, .inl (cNe, 576, .inl yne_34))] H → va_D A [(aM, .inr (6, [.int cod, .int w, .int ht, .int fou, .ref aMf, .int ln, .int wd, .int rd, .int kp, .int car, .int hom, .int gol, .int hld, .double err, .int isw, .int mvs, .int mde, .ref aNm, .ref aBe, .int exa, .long lst, .ref aFa, .ref aCs, .ref aFr, .ref aRo, .ref aNe])), (aMf, .inl (cMf, 576, .inl mf)), (aNm, .inl (cNm, 4608, .inl nm)), (aBe, .inl (cBe, 4608, .inl be)), (aFa, .inl (cFa, 4608, .inl xfa_30)), (aCs, .inl (cCs, 4608, .inl xcs_31)), (aFr, .inl (cFr, 4608, .inl yfr_32)), (aRo, .inl (cRo, 4608, .inl xro_33)), (aNe, .inl (cNe, 576, .inl yne_34))] → va_S A s.heap H locs → lv_has ls 7 [(0, .ref aM), (1, .int x1_26), (2, .int y2_27), (3, .int y3_28), (4, .int x4_29)] → W p l e (headSpec wsX5_findCosts rmX5_findCosts).room s m [.ref aM].toArray below meth c H locs 0 0 (MQ below (qWv D [(aM, .inr (6, [.int cod, .int w, .int ht, .int fou, .ref aMf, .int ln, .int wd, .int rd, .int kp, .int car, .int hom, .int gol, .int hld, .double err, .int isw, .int mvs, .int mde, .ref aNm, .ref aBe, .int exa, .long lst, .ref aFa, .ref aCs, .ref aFr, .ref aRo, .ref aNe])), (aMf, .inl (cMf, 576, .inl mf)), (aNm, .inl (cNm, 4608, .inl nm)), (aBe, .inl (cBe, 4608, .inl be)), (aFa, .inl (cFa, 4608, .inl o.1)), (aCs, .inl (cCs, 4608, .inl o.2.1)), (aFr, .inl (cFr, 4608, .inl o.2.2.1)), (aRo, .inl (cRo, 4608, .inl o.2.2.2.1)), (aNe, .inl (cNe, 576, .inl o.2.2.2.2))] A) [.ref aM].toArray s 0 0 A) (F0 m 89 ls []) := by
    intro y2_27 y3_28 yfr_32 yne_34 kk_244 hkk_244 fz
    induction fz with
    | zero =>
      intro H locs x1_26 x4_29 xfa_30 xcs_31 xro_33 ls hJ
      rw [J_X5_findCosts_L89] at hJ
      cases hJ
    | succ fz ih =>
      intro H locs x1_26 x4_29 xfa_30 xcs_31 xro_33 ls hJ hP hD hS hl
      rw [J_X5_findCosts_L89] at hJ
      refine lv_iload hx hb dX5_findCosts_89 (lv_at hl 4 rfl) ?_
      refine lv_bipush (v := 6) hx hb dX5_findCosts_91 (by decide) ?_
      refine lv_icmp_ge (tgt := 244) hx hb dX5_findCosts_93 (by decide) (fun c_35 => ?_) (fun c_35 => ?_)
      · have hJ := j_t c_35 hJ
        exact hkk_244 H locs x1_26 x4_29 xfa_30 xcs_31 xro_33 ls hJ hP hD hS (lv_sub hl [0, 1, 2] rfl)
      · have hJ := j_f c_35 hJ
        refine lv_aload_n hx hb dX5_findCosts_96 rfl (lv_at hl 0 rfl) ?_
        refine lv_iload_n hx hb dX5_findCosts_97 rfl (lv_at hl 3 rfl) ?_
        refine lv_iload hx hb dX5_findCosts_98 (lv_at hl 4 rfl) ?_
        refine lv_iconst (v := 2) hx hb dX5_findCosts_100 (by decide) ?_
        refine lv_icmp_ge (tgt := 111) hx hb dX5_findCosts_101 (by decide) (fun c_36 => ?_) (fun c_36 => ?_)
        · have hJ := j_t c_36 hJ
          refine lv_bipush (v := 7) hx hb dX5_findCosts_111 (by decide) ?_
          refine lv_iload hx hb dX5_findCosts_113 (lv_at hl 4 rfl) ?_
          refine lv_isub hx hb dX5_findCosts_115 ?_
          obtain ⟨v_37, hv_37, hJ⟩ := j_b hJ
          refine ro_i (va_runV (As := [.int y3_28, .int ((7 : Int32) - x4_29)]) (rest := []) ⟨hx, hb, hml, hown, hts⟩ (c_X5_moved l D aM aMf aNm aBe aFa aCs aFr aRo aNe cMf cNm cBe cFa cCs cFr cRo cNe cod w ht fou ln wd rd kp car hom gol hld err isw mvs mde exa lst mf nm be xfa_30 xcs_31 yfr_32 xro_33 yne_34 y3_28 ((7 : Int32) - x4_29) tX tY H.size F v_37 hv_37) (cwV 2 hts gX5_findCosts_X5_moved rfl rfl rfl (by decide +kernel) ⟨Nat.le_of_ble_eq_true rfl, Nat.le_of_ble_eq_true rfl⟩) (preRV [.int y3_28, .int ((7 : Int32) - x4_29)] hP hK hS hA hST [0, 1, 2, 3, 4, 5, 6, 7, 8] rfl [0, 1, 2, 3, 4, 5, 6, 7] rfl (ci := 6) (q0 := 0) rfl rfl) rfl rfl hl.1 rfl (lv_room (Nat.le_of_ble_eq_true rfl)) dX5_findCosts_116 ⟨Nat.zero_le _, Nat.zero_le _⟩) hP hS hA (fun H locs hP hS => ?_)
          refine lv_istore (lv' := [(5, .int v_37), (0, .ref aM), (1, .int x1_26), (2, .int y2_27), (3, .int y3_28), (4, .int x4_29)]) hx hb dX5_findCosts_119 hl (by decide) rfl (fun ls hl => ?_)
          refine lv_iload hx hb dX5_findCosts_121 (lv_at hl 0 rfl) ?_
          refine lv_if_lt (tgt := 238) hx hb dX5_findCosts_123 (by decide) (fun c_38 => ?_) (fun c_38 => ?_)
          · have hJ := j_t c_38 hJ
            refine lv_iinc (v := (x4_29 + (1 : Int32))) (lv' := [(4, .int (x4_29 + (1 : Int32))), (5, .int v_37), (0, .ref aM), (1, .int x1_26), (2, .int y2_27), (3, .int y3_28)]) hx hb dX5_findCosts_238 hl (k := 5) rfl rfl (by decide) rfl (fun ls hl => ?_)
            refine lv_goto (tgt := 89) hx hb dX5_findCosts_241 (by decide) ?_
            exact ih H locs x1_26 (x4_29 + (1 : Int32)) xfa_30 xcs_31 xro_33 ls hJ hP hD hS (lv_sub hl [2, 3, 4, 5, 0] rfl)
          · have hJ := j_f c_38 hJ
            refine lv_aload_n hx hb dX5_findCosts_126 rfl (lv_at hl 1 rfl) ?_
            refine va_get (D := D) (ci := 6) (v := .ref aFa) (C := RX5) (T := TX5) (N := 26) hx hb hts iX5 hown hK hP 0 rfl rfl 21 (by decide) k_1 (fun _ h9 => h9) rfl dX5_findCosts_127 ?_
            refine lv_iload hx hb dX5_findCosts_130 (lv_at hl 0 rfl) ?_
            obtain ⟨h_39, hJ⟩ := g_in hJ
            refine va_iald hx hb hK hP 4 3 rfl rfl h_39 dX5_findCosts_132 ?_
            refine lv_aload_n hx hb dX5_findCosts_133 rfl (lv_at hl 1 rfl) ?_
            refine va_get (D := D) (ci := 6) (v := .ref aFa) (C := RX5) (T := TX5) (N := 26) hx hb hts iX5 hown hK hP 0 rfl rfl 21 (by decide) k_1 (fun _ h9 => h9) rfl dX5_findCosts_134 ?_
            refine lv_iload_n hx hb dX5_findCosts_137 rfl (lv_at hl 4 rfl) ?_
            obtain ⟨h_40, hJ⟩ := g_in hJ
            refine va_iald hx hb hK hP 4 3 rfl rfl h_40 dX5_findCosts_138 ?_
            refine lv_icmp_gt (tgt := 145) hx hb dX5_findCosts_139 (by decide) (fun c_41 => ?_) (fun c_41 => ?_)
            · have hJ := j_t c_41 hJ
              refine lv_aload_n hx hb dX5_findCosts_145 rfl (lv_at hl 1 rfl) ?_
              refine va_get (D := D) (ci := 6) (v := .ref aCs) (C := RX5) (T := TX5) (N := 26) hx hb hts iX5 hown hK hP 0 rfl rfl 22 (by decide) k_5 (fun _ h9 => h9) rfl dX5_findCosts_146 ?_
              refine lv_iload_n hx hb dX5_findCosts_149 rfl (lv_at hl 4 rfl) ?_
              obtain ⟨h_42, hJ⟩ := g_in hJ
              refine va_iald hx hb hK hP 5 4 rfl rfl h_42 dX5_findCosts_150 ?_
              refine lv_aload_n hx hb dX5_findCosts_151 rfl (lv_at hl 1 rfl) ?_
              refine lv_iload hx hb dX5_findCosts_152 (lv_at hl 5 rfl) ?_
              obtain ⟨v_43, hv_43, hJ⟩ := j_b hJ
              refine ro_i (va_runV (As := [.int x4_29]) (rest := [.int (xcs_31 y3_28.toNatClampNeg)]) ⟨hx, hb, hml, hown, hts⟩ (c_X5_more l D aM aMf aNm aBe aFa aCs aFr aRo aNe cMf cNm cBe cFa cCs cFr cRo cNe cod w ht fou ln wd rd kp car hom gol hld err isw mvs mde exa lst mf nm be xfa_30 xcs_31 yfr_32 xro_33 yne_34 x4_29 tX tY H.size F v_43 hv_43) (cwV 1 hts gX5_findCosts_X5_more rfl rfl rfl (by decide +kernel) ⟨Nat.le_of_ble_eq_true rfl, Nat.le_of_ble_eq_true rfl⟩) (preRV [.int x4_29] hP hK hS hA hST [0, 1, 2, 3, 4, 5, 6, 7, 8] rfl [0, 1, 2, 3, 4, 5, 6, 7] rfl (ci := 6) (q0 := 0) rfl rfl) rfl rfl hl.1 rfl (lv_room (Nat.le_of_ble_eq_true rfl)) dX5_findCosts_154 ⟨Nat.zero_le _, Nat.zero_le _⟩) hP hS hA (fun H locs hP hS => ?_)
              refine lv_iadd hx hb dX5_findCosts_157 ?_
              refine lv_istore (lv' := [(6, .int ((xcs_31 y3_28.toNatClampNeg) + v_43)), (5, .int v_37), (0, .ref aM), (1, .int x1_26), (2, .int y2_27), (3, .int y3_28), (4, .int x4_29)]) hx hb dX5_findCosts_158 hl (by decide) rfl (fun ls hl => ?_)
              refine lv_aload_n hx hb dX5_findCosts_160 rfl (lv_at hl 2 rfl) ?_
              refine va_get (D := D) (ci := 6) (v := .ref aFa) (C := RX5) (T := TX5) (N := 26) hx hb hts iX5 hown hK hP 0 rfl rfl 21 (by decide) k_1 (fun _ h9 => h9) rfl dX5_findCosts_161 ?_
              refine lv_iload hx hb dX5_findCosts_164 (lv_at hl 1 rfl) ?_
              obtain ⟨h_44, hJ⟩ := g_in hJ
              refine va_iald hx hb hK hP 4 3 rfl rfl h_44 dX5_findCosts_166 ?_
              refine lv_ldc (v := 1000000000) hx hb hown k_2 dX5_findCosts_167 ?_
              refine lv_icmp_ne (tgt := 192) hx hb dX5_findCosts_169 (by decide) (fun c_45 => ?_) (fun c_45 => ?_)
              · have hJ := j_f c_45 hJ
                refine lv_aload_n hx hb dX5_findCosts_192 rfl (lv_at hl 2 rfl) ?_
                refine va_get (D := D) (ci := 6) (v := .ref aFa) (C := RX5) (T := TX5) (N := 26) hx hb hts iX5 hown hK hP 0 rfl rfl 21 (by decide) k_1 (fun _ h9 => h9) rfl dX5_findCosts_193 ?_
                refine lv_iload hx hb dX5_findCosts_196 (lv_at hl 1 rfl) ?_
                refine lv_aload_n hx hb dX5_findCosts_198 rfl (lv_at hl 2 rfl) ?_
                refine va_get (D := D) (ci := 6) (v := .ref aFa) (C := RX5) (T := TX5) (N := 26) hx hb hts iX5 hown hK hP 0 rfl rfl 21 (by decide) k_1 (fun _ h9 => h9) rfl dX5_findCosts_199 ?_
                refine lv_iload_n hx hb dX5_findCosts_202 rfl (lv_at hl 5 rfl) ?_
                obtain ⟨h_46, hJ⟩ := g_in hJ
                refine va_iald hx hb hK hP 4 3 rfl rfl h_46 dX5_findCosts_203 ?_
                refine lv_iconst (v := 1) hx hb dX5_findCosts_204 (by decide) ?_
                refine lv_iadd hx hb dX5_findCosts_205 ?_
                obtain ⟨h_47, hJ⟩ := g_in hJ
                refine va_iast hx hb hK hP hD hS 4 3 rfl rfl h_47 dX5_findCosts_206 (fun H locs hP hD hS => ?_)
                have hP : va_P D vwCl [(aM, .inr (6, [.int cod, .int w, .int ht, .int fou, .ref aMf, .int ln, .int wd, .int rd, .int kp, .int car, .int hom, .int gol, .int hld, .double err, .int isw, .int mvs, .int mde, .ref aNm, .ref aBe, .int exa, .long lst, .ref aFa, .ref aCs, .ref aFr, .ref aRo, .ref aNe])), (aMf, .inl (cMf, 576, .inl mf)), (aNm, .inl (cNm, 4608, .inl nm)), (aBe, .inl (cBe, 4608, .inl be)), (aFa, .inl (cFa, 4608, .inl (upd xfa_30 v_37.toNatClampNeg ((xfa_30 y3_28.toNatClampNeg) + (1 : Int32))))), (aCs, .inl (cCs, 4608, .inl xcs_31)), (aFr, .inl (cFr, 4608, .inl yfr_32)), (aRo, .inl (cRo, 4608, .inl xro_33)), (aNe, .inl (cNe, 576, .inl yne_34))] H := hP
                have hD : va_D A [(aM, .inr (6, [.int cod, .int w, .int ht, .int fou, .ref aMf, .int ln, .int wd, .int rd, .int kp, .int car, .int hom, .int gol, .int hld, .double err, .int isw, .int mvs, .int mde, .ref aNm, .ref aBe, .int exa, .long lst, .ref aFa, .ref aCs, .ref aFr, .ref aRo, .ref aNe])), (aMf, .inl (cMf, 576, .inl mf)), (aNm, .inl (cNm, 4608, .inl nm)), (aBe, .inl (cBe, 4608, .inl be)), (aFa, .inl (cFa, 4608, .inl (upd xfa_30 v_37.toNatClampNeg ((xfa_30 y3_28.toNatClampNeg) + (1 : Int32))))), (aCs, .inl (cCs, 4608, .inl xcs_31)), (aFr, .inl (cFr, 4608, .inl yfr_32)), (aRo, .inl (cRo, 4608, .inl xro_33)), (aNe, .inl (cNe, 576, .inl yne_34))] := hD
                refine lv_aload_n hx hb dX5_findCosts_207 rfl (lv_at hl 2 rfl) ?_
                refine va_get (D := D) (ci := 6) (v := .ref aCs) (C := RX5) (T := TX5) (N := 26) hx hb hts iX5 hown hK hP 0 rfl rfl 22 (by decide) k_5 (fun _ h9 => h9) rfl dX5_findCosts_208 ?_
                refine lv_iload hx hb dX5_findCosts_211 (lv_at hl 1 rfl) ?_
                refine lv_iload hx hb dX5_findCosts_213 (lv_at hl 0 rfl) ?_
                refine lv_aload_n hx hb dX5_findCosts_215 rfl (lv_at hl 2 rfl) ?_
                refine va_get (D := D) (ci := 6) (v := .ref aCs) (C := RX5) (T := TX5) (N := 26) hx hb hts iX5 hown hK hP 0 rfl rfl 22 (by decide) k_5 (fun _ h9 => h9) rfl dX5_findCosts_216 ?_
                refine lv_iload hx hb dX5_findCosts_219 (lv_at hl 1 rfl) ?_
                obtain ⟨h_48, hJ⟩ := g_in hJ
                refine va_iald hx hb hK hP 5 4 rfl rfl h_48 dX5_findCosts_221 ?_
                refine lv_icmp_ge (tgt := 230) hx hb dX5_findCosts_222 (by decide) (fun c_49 => ?_) (fun c_49 => ?_)
                · have hJ := j_t c_49 hJ
                  refine lv_aload_n hx hb dX5_findCosts_230 rfl (lv_at hl 2 rfl) ?_
                  refine va_get (D := D) (ci := 6) (v := .ref aCs) (C := RX5) (T := TX5) (N := 26) hx hb hts iX5 hown hK hP 0 rfl rfl 22 (by decide) k_5 (fun _ h9 => h9) rfl dX5_findCosts_231 ?_
                  refine lv_iload hx hb dX5_findCosts_234 (lv_at hl 1 rfl) ?_
                  obtain ⟨h_50, hJ⟩ := g_in hJ
                  refine va_iald hx hb hK hP 5 4 rfl rfl h_50 dX5_findCosts_236 ?_
                  obtain ⟨h_51, hJ⟩ := g_in hJ
                  refine va_iast hx hb hK hP hD hS 5 4 rfl rfl h_51 dX5_findCosts_237 (fun H locs hP hD hS => ?_)
                  have hP : va_P D vwCl [(aM, .inr (6, [.int cod, .int w, .int ht, .int fou, .ref aMf, .int ln, .int wd, .int rd, .int kp, .int car, .int hom, .int gol, .int hld, .double err, .int isw, .int mvs, .int mde, .ref aNm, .ref aBe, .int exa, .long lst, .ref aFa, .ref aCs, .ref aFr, .ref aRo, .ref aNe])), (aMf, .inl (cMf, 576, .inl mf)), (aNm, .inl (cNm, 4608, .inl nm)), (aBe, .inl (cBe, 4608, .inl be)), (aFa, .inl (cFa, 4608, .inl (upd xfa_30 v_37.toNatClampNeg ((xfa_30 y3_28.toNatClampNeg) + (1 : Int32))))), (aCs, .inl (cCs, 4608, .inl (upd xcs_31 v_37.toNatClampNeg (xcs_31 v_37.toNatClampNeg)))), (aFr, .inl (cFr, 4608, .inl yfr_32)), (aRo, .inl (cRo, 4608, .inl xro_33)), (aNe, .inl (cNe, 576, .inl yne_34))] H := hP
                  have hD : va_D A [(aM, .inr (6, [.int cod, .int w, .int ht, .int fou, .ref aMf, .int ln, .int wd, .int rd, .int kp, .int car, .int hom, .int gol, .int hld, .double err, .int isw, .int mvs, .int mde, .ref aNm, .ref aBe, .int exa, .long lst, .ref aFa, .ref aCs, .ref aFr, .ref aRo, .ref aNe])), (aMf, .inl (cMf, 576, .inl mf)), (aNm, .inl (cNm, 4608, .inl nm)), (aBe, .inl (cBe, 4608, .inl be)), (aFa, .inl (cFa, 4608, .inl (upd xfa_30 v_37.toNatClampNeg ((xfa_30 y3_28.toNatClampNeg) + (1 : Int32))))), (aCs, .inl (cCs, 4608, .inl (upd xcs_31 v_37.toNatClampNeg (xcs_31 v_37.toNatClampNeg)))), (aFr, .inl (cFr, 4608, .inl yfr_32)), (aRo, .inl (cRo, 4608, .inl xro_33)), (aNe, .inl (cNe, 576, .inl yne_34))] := hD
                  refine lv_iinc (v := (x4_29 + (1 : Int32))) (lv' := [(4, .int (x4_29 + (1 : Int32))), (6, .int ((xcs_31 y3_28.toNatClampNeg) + v_43)), (5, .int v_37), (0, .ref aM), (1, .int x1_26), (2, .int y2_27), (3, .int y3_28)]) hx hb dX5_findCosts_238 hl (k := 6) rfl rfl (by decide) rfl (fun ls hl => ?_)
                  refine lv_goto (tgt := 89) hx hb dX5_findCosts_241 (by decide) ?_
                  exact ih H locs x1_26 (x4_29 + (1 : Int32)) (upd xfa_30 v_37.toNatClampNeg ((xfa_30 y3_28.toNatClampNeg) + (1 : Int32))) (upd xcs_31 v_37.toNatClampNeg (xcs_31 v_37.toNatClampNeg)) xro_33 ls hJ hP hD hS (lv_sub hl [3, 4, 5, 6, 0] rfl)
                · have hJ := j_f c_49 hJ
                  refine lv_iload hx hb dX5_findCosts_225 (lv_at hl 0 rfl) ?_
                  refine lv_goto (tgt := 237) hx hb dX5_findCosts_227 (by decide) ?_
                  obtain ⟨h_52, hJ⟩ := g_in hJ
                  refine va_iast hx hb hK hP hD hS 5 4 rfl rfl h_52 dX5_findCosts_237 (fun H locs hP hD hS => ?_)
                  have hP : va_P D vwCl [(aM, .inr (6, [.int cod, .int w, .int ht, .int fou, .ref aMf, .int ln, .int wd, .int rd, .int kp, .int car, .int hom, .int gol, .int hld, .double err, .int isw, .int mvs, .int mde, .ref aNm, .ref aBe, .int exa, .long lst, .ref aFa, .ref aCs, .ref aFr, .ref aRo, .ref aNe])), (aMf, .inl (cMf, 576, .inl mf)), (aNm, .inl (cNm, 4608, .inl nm)), (aBe, .inl (cBe, 4608, .inl be)), (aFa, .inl (cFa, 4608, .inl (upd xfa_30 v_37.toNatClampNeg ((xfa_30 y3_28.toNatClampNeg) + (1 : Int32))))), (aCs, .inl (cCs, 4608, .inl (upd xcs_31 v_37.toNatClampNeg ((xcs_31 y3_28.toNatClampNeg) + v_43)))), (aFr, .inl (cFr, 4608, .inl yfr_32)), (aRo, .inl (cRo, 4608, .inl xro_33)), (aNe, .inl (cNe, 576, .inl yne_34))] H := hP
                  have hD : va_D A [(aM, .inr (6, [.int cod, .int w, .int ht, .int fou, .ref aMf, .int ln, .int wd, .int rd, .int kp, .int car, .int hom, .int gol, .int hld, .double err, .int isw, .int mvs, .int mde, .ref aNm, .ref aBe, .int exa, .long lst, .ref aFa, .ref aCs, .ref aFr, .ref aRo, .ref aNe])), (aMf, .inl (cMf, 576, .inl mf)), (aNm, .inl (cNm, 4608, .inl nm)), (aBe, .inl (cBe, 4608, .inl be)), (aFa, .inl (cFa, 4608, .inl (upd xfa_30 v_37.toNatClampNeg ((xfa_30 y3_28.toNatClampNeg) + (1 : Int32))))), (aCs, .inl (cCs, 4608, .inl (upd xcs_31 v_37.toNatClampNeg ((xcs_31 y3_28.toNatClampNeg) + v_43)))), (aFr, .inl (cFr, 4608, .inl yfr_32)), (aRo, .inl (cRo, 4608, .inl xro_33)), (aNe, .inl (cNe, 576, .inl yne_34))] := hD
                  refine lv_iinc (v := (x4_29 + (1 : Int32))) (lv' := [(4, .int (x4_29 + (1 : Int32))), (6, .int ((xcs_31 y3_28.toNatClampNeg) + v_43)), (5, .int v_37), (0, .ref aM), (1, .int x1_26), (2, .int y2_27), (3, .int y3_28)]) hx hb dX5_findCosts_238 hl (k := 6) rfl rfl (by decide) rfl (fun ls hl => ?_)
                  refine lv_goto (tgt := 89) hx hb dX5_findCosts_241 (by decide) ?_
                  exact ih H locs x1_26 (x4_29 + (1 : Int32)) (upd xfa_30 v_37.toNatClampNeg ((xfa_30 y3_28.toNatClampNeg) + (1 : Int32))) (upd xcs_31 v_37.toNatClampNeg ((xcs_31 y3_28.toNatClampNeg) + v_43)) xro_33 ls hJ hP hD hS (lv_sub hl [3, 4, 5, 6, 0] rfl)
              · have hJ := j_t c_45 hJ
                refine lv_aload_n hx hb dX5_findCosts_172 rfl (lv_at hl 2 rfl) ?_
                refine va_get (D := D) (ci := 6) (v := .ref aRo) (C := RX5) (T := TX5) (N := 26) hx hb hts iX5 hown hK hP 0 rfl rfl 24 (by decide) k_6 (fun _ h9 => h9) rfl dX5_findCosts_173 ?_
                refine lv_iload_n hx hb dX5_findCosts_176 rfl (lv_at hl 3 rfl) ?_
                refine lv_iload hx hb dX5_findCosts_177 (lv_at hl 1 rfl) ?_
                obtain ⟨h_53, hJ⟩ := g_in hJ
                refine va_iast hx hb hK hP hD hS 7 6 rfl rfl h_53 dX5_findCosts_179 (fun H locs hP hD hS => ?_)
                have hP : va_P D vwCl [(aM, .inr (6, [.int cod, .int w, .int ht, .int fou, .ref aMf, .int ln, .int wd, .int rd, .int kp, .int car, .int hom, .int gol, .int hld, .double err, .int isw, .int mvs, .int mde, .ref aNm, .ref aBe, .int exa, .long lst, .ref aFa, .ref aCs, .ref aFr, .ref aRo, .ref aNe])), (aMf, .inl (cMf, 576, .inl mf)), (aNm, .inl (cNm, 4608, .inl nm)), (aBe, .inl (cBe, 4608, .inl be)), (aFa, .inl (cFa, 4608, .inl xfa_30)), (aCs, .inl (cCs, 4608, .inl xcs_31)), (aFr, .inl (cFr, 4608, .inl yfr_32)), (aRo, .inl (cRo, 4608, .inl (upd xro_33 x1_26.toNatClampNeg v_37))), (aNe, .inl (cNe, 576, .inl yne_34))] H := hP
                have hD : va_D A [(aM, .inr (6, [.int cod, .int w, .int ht, .int fou, .ref aMf, .int ln, .int wd, .int rd, .int kp, .int car, .int hom, .int gol, .int hld, .double err, .int isw, .int mvs, .int mde, .ref aNm, .ref aBe, .int exa, .long lst, .ref aFa, .ref aCs, .ref aFr, .ref aRo, .ref aNe])), (aMf, .inl (cMf, 576, .inl mf)), (aNm, .inl (cNm, 4608, .inl nm)), (aBe, .inl (cBe, 4608, .inl be)), (aFa, .inl (cFa, 4608, .inl xfa_30)), (aCs, .inl (cCs, 4608, .inl xcs_31)), (aFr, .inl (cFr, 4608, .inl yfr_32)), (aRo, .inl (cRo, 4608, .inl (upd xro_33 x1_26.toNatClampNeg v_37))), (aNe, .inl (cNe, 576, .inl yne_34))] := hD
                refine lv_iinc (v := (x1_26 + (1 : Int32))) (lv' := [(1, .int (x1_26 + (1 : Int32))), (6, .int ((xcs_31 y3_28.toNatClampNeg) + v_43)), (5, .int v_37), (0, .ref aM), (2, .int y2_27), (3, .int y3_28), (4, .int x4_29)]) hx hb dX5_findCosts_180 hl (k := 3) rfl rfl (by decide) rfl (fun ls hl => ?_)
                refine lv_aload_n hx hb dX5_findCosts_183 rfl (lv_at hl 3 rfl) ?_
                refine va_get (D := D) (ci := 6) (v := .ref aCs) (C := RX5) (T := TX5) (N := 26) hx hb hts iX5 hown hK hP 0 rfl rfl 22 (by decide) k_5 (fun _ h9 => h9) rfl dX5_findCosts_184 ?_
                refine lv_iload hx hb dX5_findCosts_187 (lv_at hl 2 rfl) ?_
                refine lv_iload hx hb dX5_findCosts_189 (lv_at hl 1 rfl) ?_
                obtain ⟨h_54, hJ⟩ := g_in hJ
                refine va_iast hx hb hK hP hD hS 5 4 rfl rfl h_54 dX5_findCosts_191 (fun H locs hP hD hS => ?_)
                have hP : va_P D vwCl [(aM, .inr (6, [.int cod, .int w, .int ht, .int fou, .ref aMf, .int ln, .int wd, .int rd, .int kp, .int car, .int hom, .int gol, .int hld, .double err, .int isw, .int mvs, .int mde, .ref aNm, .ref aBe, .int exa, .long lst, .ref aFa, .ref aCs, .ref aFr, .ref aRo, .ref aNe])), (aMf, .inl (cMf, 576, .inl mf)), (aNm, .inl (cNm, 4608, .inl nm)), (aBe, .inl (cBe, 4608, .inl be)), (aFa, .inl (cFa, 4608, .inl xfa_30)), (aCs, .inl (cCs, 4608, .inl (upd xcs_31 v_37.toNatClampNeg ((xcs_31 y3_28.toNatClampNeg) + v_43)))), (aFr, .inl (cFr, 4608, .inl yfr_32)), (aRo, .inl (cRo, 4608, .inl (upd xro_33 x1_26.toNatClampNeg v_37))), (aNe, .inl (cNe, 576, .inl yne_34))] H := hP
                have hD : va_D A [(aM, .inr (6, [.int cod, .int w, .int ht, .int fou, .ref aMf, .int ln, .int wd, .int rd, .int kp, .int car, .int hom, .int gol, .int hld, .double err, .int isw, .int mvs, .int mde, .ref aNm, .ref aBe, .int exa, .long lst, .ref aFa, .ref aCs, .ref aFr, .ref aRo, .ref aNe])), (aMf, .inl (cMf, 576, .inl mf)), (aNm, .inl (cNm, 4608, .inl nm)), (aBe, .inl (cBe, 4608, .inl be)), (aFa, .inl (cFa, 4608, .inl xfa_30)), (aCs, .inl (cCs, 4608, .inl (upd xcs_31 v_37.toNatClampNeg ((xcs_31 y3_28.toNatClampNeg) + v_43)))), (aFr, .inl (cFr, 4608, .inl yfr_32)), (aRo, .inl (cRo, 4608, .inl (upd xro_33 x1_26.toNatClampNeg v_37))), (aNe, .inl (cNe, 576, .inl yne_34))] := hD
                refine lv_aload_n hx hb dX5_findCosts_192 rfl (lv_at hl 3 rfl) ?_
                refine va_get (D := D) (ci := 6) (v := .ref aFa) (C := RX5) (T := TX5) (N := 26) hx hb hts iX5 hown hK hP 0 rfl rfl 21 (by decide) k_1 (fun _ h9 => h9) rfl dX5_findCosts_193 ?_
                refine lv_iload hx hb dX5_findCosts_196 (lv_at hl 2 rfl) ?_
                refine lv_aload_n hx hb dX5_findCosts_198 rfl (lv_at hl 3 rfl) ?_
                refine va_get (D := D) (ci := 6) (v := .ref aFa) (C := RX5) (T := TX5) (N := 26) hx hb hts iX5 hown hK hP 0 rfl rfl 21 (by decide) k_1 (fun _ h9 => h9) rfl dX5_findCosts_199 ?_
                refine lv_iload_n hx hb dX5_findCosts_202 rfl (lv_at hl 5 rfl) ?_
                obtain ⟨h_55, hJ⟩ := g_in hJ
                refine va_iald hx hb hK hP 4 3 rfl rfl h_55 dX5_findCosts_203 ?_
                refine lv_iconst (v := 1) hx hb dX5_findCosts_204 (by decide) ?_
                refine lv_iadd hx hb dX5_findCosts_205 ?_
                obtain ⟨h_56, hJ⟩ := g_in hJ
                refine va_iast hx hb hK hP hD hS 4 3 rfl rfl h_56 dX5_findCosts_206 (fun H locs hP hD hS => ?_)
                have hP : va_P D vwCl [(aM, .inr (6, [.int cod, .int w, .int ht, .int fou, .ref aMf, .int ln, .int wd, .int rd, .int kp, .int car, .int hom, .int gol, .int hld, .double err, .int isw, .int mvs, .int mde, .ref aNm, .ref aBe, .int exa, .long lst, .ref aFa, .ref aCs, .ref aFr, .ref aRo, .ref aNe])), (aMf, .inl (cMf, 576, .inl mf)), (aNm, .inl (cNm, 4608, .inl nm)), (aBe, .inl (cBe, 4608, .inl be)), (aFa, .inl (cFa, 4608, .inl (upd xfa_30 v_37.toNatClampNeg ((xfa_30 y3_28.toNatClampNeg) + (1 : Int32))))), (aCs, .inl (cCs, 4608, .inl (upd xcs_31 v_37.toNatClampNeg ((xcs_31 y3_28.toNatClampNeg) + v_43)))), (aFr, .inl (cFr, 4608, .inl yfr_32)), (aRo, .inl (cRo, 4608, .inl (upd xro_33 x1_26.toNatClampNeg v_37))), (aNe, .inl (cNe, 576, .inl yne_34))] H := hP
                have hD : va_D A [(aM, .inr (6, [.int cod, .int w, .int ht, .int fou, .ref aMf, .int ln, .int wd, .int rd, .int kp, .int car, .int hom, .int gol, .int hld, .double err, .int isw, .int mvs, .int mde, .ref aNm, .ref aBe, .int exa, .long lst, .ref aFa, .ref aCs, .ref aFr, .ref aRo, .ref aNe])), (aMf, .inl (cMf, 576, .inl mf)), (aNm, .inl (cNm, 4608, .inl nm)), (aBe, .inl (cBe, 4608, .inl be)), (aFa, .inl (cFa, 4608, .inl (upd xfa_30 v_37.toNatClampNeg ((xfa_30 y3_28.toNatClampNeg) + (1 : Int32))))), (aCs, .inl (cCs, 4608, .inl (upd xcs_31 v_37.toNatClampNeg ((xcs_31 y3_28.toNatClampNeg) + v_43)))), (aFr, .inl (cFr, 4608, .inl yfr_32)), (aRo, .inl (cRo, 4608, .inl (upd xro_33 x1_26.toNatClampNeg v_37))), (aNe, .inl (cNe, 576, .inl yne_34))] := hD
                refine lv_aload_n hx hb dX5_findCosts_207 rfl (lv_at hl 3 rfl) ?_
                refine va_get (D := D) (ci := 6) (v := .ref aCs) (C := RX5) (T := TX5) (N := 26) hx hb hts iX5 hown hK hP 0 rfl rfl 22 (by decide) k_5 (fun _ h9 => h9) rfl dX5_findCosts_208 ?_
                refine lv_iload hx hb dX5_findCosts_211 (lv_at hl 2 rfl) ?_
                refine lv_iload hx hb dX5_findCosts_213 (lv_at hl 1 rfl) ?_
                refine lv_aload_n hx hb dX5_findCosts_215 rfl (lv_at hl 3 rfl) ?_
                refine va_get (D := D) (ci := 6) (v := .ref aCs) (C := RX5) (T := TX5) (N := 26) hx hb hts iX5 hown hK hP 0 rfl rfl 22 (by decide) k_5 (fun _ h9 => h9) rfl dX5_findCosts_216 ?_
                refine lv_iload hx hb dX5_findCosts_219 (lv_at hl 2 rfl) ?_
                obtain ⟨h_57, hJ⟩ := g_in hJ
                refine va_iald hx hb hK hP 5 4 rfl rfl h_57 dX5_findCosts_221 ?_
                refine lv_icmp_ge (tgt := 230) hx hb dX5_findCosts_222 (by decide) (fun c_58 => ?_) (fun c_58 => ?_)
                · have hJ := j_t c_58 hJ
                  refine lv_aload_n hx hb dX5_findCosts_230 rfl (lv_at hl 3 rfl) ?_
                  refine va_get (D := D) (ci := 6) (v := .ref aCs) (C := RX5) (T := TX5) (N := 26) hx hb hts iX5 hown hK hP 0 rfl rfl 22 (by decide) k_5 (fun _ h9 => h9) rfl dX5_findCosts_231 ?_
                  refine lv_iload hx hb dX5_findCosts_234 (lv_at hl 2 rfl) ?_
                  obtain ⟨h_59, hJ⟩ := g_in hJ
                  refine va_iald hx hb hK hP 5 4 rfl rfl h_59 dX5_findCosts_236 ?_
                  obtain ⟨h_60, hJ⟩ := g_in hJ
                  refine va_iast hx hb hK hP hD hS 5 4 rfl rfl h_60 dX5_findCosts_237 (fun H locs hP hD hS => ?_)
                  have hP : va_P D vwCl [(aM, .inr (6, [.int cod, .int w, .int ht, .int fou, .ref aMf, .int ln, .int wd, .int rd, .int kp, .int car, .int hom, .int gol, .int hld, .double err, .int isw, .int mvs, .int mde, .ref aNm, .ref aBe, .int exa, .long lst, .ref aFa, .ref aCs, .ref aFr, .ref aRo, .ref aNe])), (aMf, .inl (cMf, 576, .inl mf)), (aNm, .inl (cNm, 4608, .inl nm)), (aBe, .inl (cBe, 4608, .inl be)), (aFa, .inl (cFa, 4608, .inl (upd xfa_30 v_37.toNatClampNeg ((xfa_30 y3_28.toNatClampNeg) + (1 : Int32))))), (aCs, .inl (cCs, 4608, .inl (upd (upd xcs_31 v_37.toNatClampNeg ((xcs_31 y3_28.toNatClampNeg) + v_43)) v_37.toNatClampNeg ((upd xcs_31 v_37.toNatClampNeg ((xcs_31 y3_28.toNatClampNeg) + v_43)) v_37.toNatClampNeg)))), (aFr, .inl (cFr, 4608, .inl yfr_32)), (aRo, .inl (cRo, 4608, .inl (upd xro_33 x1_26.toNatClampNeg v_37))), (aNe, .inl (cNe, 576, .inl yne_34))] H := hP
                  have hD : va_D A [(aM, .inr (6, [.int cod, .int w, .int ht, .int fou, .ref aMf, .int ln, .int wd, .int rd, .int kp, .int car, .int hom, .int gol, .int hld, .double err, .int isw, .int mvs, .int mde, .ref aNm, .ref aBe, .int exa, .long lst, .ref aFa, .ref aCs, .ref aFr, .ref aRo, .ref aNe])), (aMf, .inl (cMf, 576, .inl mf)), (aNm, .inl (cNm, 4608, .inl nm)), (aBe, .inl (cBe, 4608, .inl be)), (aFa, .inl (cFa, 4608, .inl (upd xfa_30 v_37.toNatClampNeg ((xfa_30 y3_28.toNatClampNeg) + (1 : Int32))))), (aCs, .inl (cCs, 4608, .inl (upd (upd xcs_31 v_37.toNatClampNeg ((xcs_31 y3_28.toNatClampNeg) + v_43)) v_37.toNatClampNeg ((upd xcs_31 v_37.toNatClampNeg ((xcs_31 y3_28.toNatClampNeg) + v_43)) v_37.toNatClampNeg)))), (aFr, .inl (cFr, 4608, .inl yfr_32)), (aRo, .inl (cRo, 4608, .inl (upd xro_33 x1_26.toNatClampNeg v_37))), (aNe, .inl (cNe, 576, .inl yne_34))] := hD
                  refine lv_iinc (v := (x4_29 + (1 : Int32))) (lv' := [(4, .int (x4_29 + (1 : Int32))), (1, .int (x1_26 + (1 : Int32))), (6, .int ((xcs_31 y3_28.toNatClampNeg) + v_43)), (5, .int v_37), (0, .ref aM), (2, .int y2_27), (3, .int y3_28)]) hx hb dX5_findCosts_238 hl (k := 6) rfl rfl (by decide) rfl (fun ls hl => ?_)
                  refine lv_goto (tgt := 89) hx hb dX5_findCosts_241 (by decide) ?_
                  exact ih H locs (x1_26 + (1 : Int32)) (x4_29 + (1 : Int32)) (upd xfa_30 v_37.toNatClampNeg ((xfa_30 y3_28.toNatClampNeg) + (1 : Int32))) (upd (upd xcs_31 v_37.toNatClampNeg ((xcs_31 y3_28.toNatClampNeg) + v_43)) v_37.toNatClampNeg ((upd xcs_31 v_37.toNatClampNeg ((xcs_31 y3_28.toNatClampNeg) + v_43)) v_37.toNatClampNeg)) (upd xro_33 x1_26.toNatClampNeg v_37) ls hJ hP hD hS (lv_sub hl [4, 1, 5, 6, 0] rfl)
                · have hJ := j_f c_58 hJ
                  refine lv_iload hx hb dX5_findCosts_225 (lv_at hl 1 rfl) ?_
                  refine lv_goto (tgt := 237) hx hb dX5_findCosts_227 (by decide) ?_
                  obtain ⟨h_61, hJ⟩ := g_in hJ
                  refine va_iast hx hb hK hP hD hS 5 4 rfl rfl h_61 dX5_findCosts_237 (fun H locs hP hD hS => ?_)
                  have hP : va_P D vwCl [(aM, .inr (6, [.int cod, .int w, .int ht, .int fou, .ref aMf, .int ln, .int wd, .int rd, .int kp, .int car, .int hom, .int gol, .int hld, .double err, .int isw, .int mvs, .int mde, .ref aNm, .ref aBe, .int exa, .long lst, .ref aFa, .ref aCs, .ref aFr, .ref aRo, .ref aNe])), (aMf, .inl (cMf, 576, .inl mf)), (aNm, .inl (cNm, 4608, .inl nm)), (aBe, .inl (cBe, 4608, .inl be)), (aFa, .inl (cFa, 4608, .inl (upd xfa_30 v_37.toNatClampNeg ((xfa_30 y3_28.toNatClampNeg) + (1 : Int32))))), (aCs, .inl (cCs, 4608, .inl (upd (upd xcs_31 v_37.toNatClampNeg ((xcs_31 y3_28.toNatClampNeg) + v_43)) v_37.toNatClampNeg ((xcs_31 y3_28.toNatClampNeg) + v_43)))), (aFr, .inl (cFr, 4608, .inl yfr_32)), (aRo, .inl (cRo, 4608, .inl (upd xro_33 x1_26.toNatClampNeg v_37))), (aNe, .inl (cNe, 576, .inl yne_34))] H := hP
                  have hD : va_D A [(aM, .inr (6, [.int cod, .int w, .int ht, .int fou, .ref aMf, .int ln, .int wd, .int rd, .int kp, .int car, .int hom, .int gol, .int hld, .double err, .int isw, .int mvs, .int mde, .ref aNm, .ref aBe, .int exa, .long lst, .ref aFa, .ref aCs, .ref aFr, .ref aRo, .ref aNe])), (aMf, .inl (cMf, 576, .inl mf)), (aNm, .inl (cNm, 4608, .inl nm)), (aBe, .inl (cBe, 4608, .inl be)), (aFa, .inl (cFa, 4608, .inl (upd xfa_30 v_37.toNatClampNeg ((xfa_30 y3_28.toNatClampNeg) + (1 : Int32))))), (aCs, .inl (cCs, 4608, .inl (upd (upd xcs_31 v_37.toNatClampNeg ((xcs_31 y3_28.toNatClampNeg) + v_43)) v_37.toNatClampNeg ((xcs_31 y3_28.toNatClampNeg) + v_43)))), (aFr, .inl (cFr, 4608, .inl yfr_32)), (aRo, .inl (cRo, 4608, .inl (upd xro_33 x1_26.toNatClampNeg v_37))), (aNe, .inl (cNe, 576, .inl yne_34))] := hD
                  refine lv_iinc (v := (x4_29 + (1 : Int32))) (lv' := [(4, .int (x4_29 + (1 : Int32))), (1, .int (x1_26 + (1 : Int32))), (6, .int ((xcs_31 y3_28.toNatClampNeg) + v_43)), (5, .int v_37), (0, .ref aM), (2, .int y2_27), (3, .int y3_28)]) hx hb dX5_findCosts_238 hl (k := 6) rfl rfl (by decide) rfl (fun ls hl => ?_)
                  refine lv_goto (tgt := 89) hx hb dX5_findCosts_241 (by decide) ?_
                  exact ih H locs (x1_26 + (1 : Int32)) (x4_29 + (1 : Int32)) (upd xfa_30 v_37.toNatClampNeg ((xfa_30 y3_28.toNatClampNeg) + (1 : Int32))) (upd (upd xcs_31 v_37.toNatClampNeg ((xcs_31 y3_28.toNatClampNeg) + v_43)) v_37.toNatClampNeg ((xcs_31 y3_28.toNatClampNeg) + v_43)) (upd xro_33 x1_26.toNatClampNeg v_37) ls hJ hP hD hS (lv_sub hl [4, 1, 5, 6, 0] rfl)
            · have hJ := j_f c_41 hJ
              refine lv_goto (tgt := 238) hx hb dX5_findCosts_142 (by decide) ?_
              refine lv_iinc (v := (x4_29 + (1 : Int32))) (lv' := [(4, .int (x4_29 + (1 : Int32))), (5, .int v_37), (0, .ref aM), (1, .int x1_26), (2, .int y2_27), (3, .int y3_28)]) hx hb dX5_findCosts_238 hl (k := 5) rfl rfl (by decide) rfl (fun ls hl => ?_)
              refine lv_goto (tgt := 89) hx hb dX5_findCosts_241 (by decide) ?_
              exact ih H locs x1_26 (x4_29 + (1 : Int32)) xfa_30 xcs_31 xro_33 ls hJ hP hD hS (lv_sub hl [2, 3, 4, 5, 0] rfl)
        · have hJ := j_f c_36 hJ
          refine lv_iconst (v := 1) hx hb dX5_findCosts_104 (by decide) ?_
          refine lv_iload hx hb dX5_findCosts_105 (lv_at hl 4 rfl) ?_
          refine lv_isub hx hb dX5_findCosts_107 ?_
          refine lv_goto (tgt := 116) hx hb dX5_findCosts_108 (by decide) ?_
          obtain ⟨v_62, hv_62, hJ⟩ := j_b hJ
          refine ro_i (va_runV (As := [.int y3_28, .int ((1 : Int32) - x4_29)]) (rest := []) ⟨hx, hb, hml, hown, hts⟩ (c_X5_moved l D aM aMf aNm aBe aFa aCs aFr aRo aNe cMf cNm cBe cFa cCs cFr cRo cNe cod w ht fou ln wd rd kp car hom gol hld err isw mvs mde exa lst mf nm be xfa_30 xcs_31 yfr_32 xro_33 yne_34 y3_28 ((1 : Int32) - x4_29) tX tY H.size F v_62 hv_62) (cwV 2 hts gX5_findCosts_X5_moved rfl rfl rfl (by decide +kernel) ⟨Nat.le_of_ble_eq_true rfl, Nat.le_of_ble_eq_true rfl⟩) (preRV [.int y3_28, .int ((1 : Int32) - x4_29)] hP hK hS hA hST [0, 1, 2, 3, 4, 5, 6, 7, 8] rfl [0, 1, 2, 3, 4, 5, 6, 7] rfl (ci := 6) (q0 := 0) rfl rfl) rfl rfl hl.1 rfl (lv_room (Nat.le_of_ble_eq_true rfl)) dX5_findCosts_116 ⟨Nat.zero_le _, Nat.zero_le _⟩) hP hS hA (fun H locs hP hS => ?_)
          refine lv_istore (lv' := [(5, .int v_62), (0, .ref aM), (1, .int x1_26), (2, .int y2_27), (3, .int y3_28), (4, .int x4_29)]) hx hb dX5_findCosts_119 hl (by decide) rfl (fun ls hl => ?_)
          refine lv_iload hx hb dX5_findCosts_121 (lv_at hl 0 rfl) ?_
          refine lv_if_lt (tgt := 238) hx hb dX5_findCosts_123 (by decide) (fun c_63 => ?_) (fun c_63 => ?_)
          · have hJ := j_t c_63 hJ
            refine lv_iinc (v := (x4_29 + (1 : Int32))) (lv' := [(4, .int (x4_29 + (1 : Int32))), (5, .int v_62), (0, .ref aM), (1, .int x1_26), (2, .int y2_27), (3, .int y3_28)]) hx hb dX5_findCosts_238 hl (k := 5) rfl rfl (by decide) rfl (fun ls hl => ?_)
            refine lv_goto (tgt := 89) hx hb dX5_findCosts_241 (by decide) ?_
            exact ih H locs x1_26 (x4_29 + (1 : Int32)) xfa_30 xcs_31 xro_33 ls hJ hP hD hS (lv_sub hl [2, 3, 4, 5, 0] rfl)
          · have hJ := j_f c_63 hJ
            refine lv_aload_n hx hb dX5_findCosts_126 rfl (lv_at hl 1 rfl) ?_
            refine va_get (D := D) (ci := 6) (v := .ref aFa) (C := RX5) (T := TX5) (N := 26) hx hb hts iX5 hown hK hP 0 rfl rfl 21 (by decide) k_1 (fun _ h9 => h9) rfl dX5_findCosts_127 ?_
            refine lv_iload hx hb dX5_findCosts_130 (lv_at hl 0 rfl) ?_
            obtain ⟨h_64, hJ⟩ := g_in hJ
            refine va_iald hx hb hK hP 4 3 rfl rfl h_64 dX5_findCosts_132 ?_
            refine lv_aload_n hx hb dX5_findCosts_133 rfl (lv_at hl 1 rfl) ?_
            refine va_get (D := D) (ci := 6) (v := .ref aFa) (C := RX5) (T := TX5) (N := 26) hx hb hts iX5 hown hK hP 0 rfl rfl 21 (by decide) k_1 (fun _ h9 => h9) rfl dX5_findCosts_134 ?_
            refine lv_iload_n hx hb dX5_findCosts_137 rfl (lv_at hl 4 rfl) ?_
            obtain ⟨h_65, hJ⟩ := g_in hJ
            refine va_iald hx hb hK hP 4 3 rfl rfl h_65 dX5_findCosts_138 ?_
            refine lv_icmp_gt (tgt := 145) hx hb dX5_findCosts_139 (by decide) (fun c_66 => ?_) (fun c_66 => ?_)
            · have hJ := j_t c_66 hJ
              refine lv_aload_n hx hb dX5_findCosts_145 rfl (lv_at hl 1 rfl) ?_
              refine va_get (D := D) (ci := 6) (v := .ref aCs) (C := RX5) (T := TX5) (N := 26) hx hb hts iX5 hown hK hP 0 rfl rfl 22 (by decide) k_5 (fun _ h9 => h9) rfl dX5_findCosts_146 ?_
              refine lv_iload_n hx hb dX5_findCosts_149 rfl (lv_at hl 4 rfl) ?_
              obtain ⟨h_67, hJ⟩ := g_in hJ
              refine va_iald hx hb hK hP 5 4 rfl rfl h_67 dX5_findCosts_150 ?_
              refine lv_aload_n hx hb dX5_findCosts_151 rfl (lv_at hl 1 rfl) ?_
              refine lv_iload hx hb dX5_findCosts_152 (lv_at hl 5 rfl) ?_
              obtain ⟨v_68, hv_68, hJ⟩ := j_b hJ
              refine ro_i (va_runV (As := [.int x4_29]) (rest := [.int (xcs_31 y3_28.toNatClampNeg)]) ⟨hx, hb, hml, hown, hts⟩ (c_X5_more l D aM aMf aNm aBe aFa aCs aFr aRo aNe cMf cNm cBe cFa cCs cFr cRo cNe cod w ht fou ln wd rd kp car hom gol hld err isw mvs mde exa lst mf nm be xfa_30 xcs_31 yfr_32 xro_33 yne_34 x4_29 tX tY H.size F v_68 hv_68) (cwV 1 hts gX5_findCosts_X5_more rfl rfl rfl (by decide +kernel) ⟨Nat.le_of_ble_eq_true rfl, Nat.le_of_ble_eq_true rfl⟩) (preRV [.int x4_29] hP hK hS hA hST [0, 1, 2, 3, 4, 5, 6, 7, 8] rfl [0, 1, 2, 3, 4, 5, 6, 7] rfl (ci := 6) (q0 := 0) rfl rfl) rfl rfl hl.1 rfl (lv_room (Nat.le_of_ble_eq_true rfl)) dX5_findCosts_154 ⟨Nat.zero_le _, Nat.zero_le _⟩) hP hS hA (fun H locs hP hS => ?_)
              refine lv_iadd hx hb dX5_findCosts_157 ?_
              refine lv_istore (lv' := [(6, .int ((xcs_31 y3_28.toNatClampNeg) + v_68)), (5, .int v_62), (0, .ref aM), (1, .int x1_26), (2, .int y2_27), (3, .int y3_28), (4, .int x4_29)]) hx hb dX5_findCosts_158 hl (by decide) rfl (fun ls hl => ?_)
              refine lv_aload_n hx hb dX5_findCosts_160 rfl (lv_at hl 2 rfl) ?_
              refine va_get (D := D) (ci := 6) (v := .ref aFa) (C := RX5) (T := TX5) (N := 26) hx hb hts iX5 hown hK hP 0 rfl rfl 21 (by decide) k_1 (fun _ h9 => h9) rfl dX5_findCosts_161 ?_
              refine lv_iload hx hb dX5_findCosts_164 (lv_at hl 1 rfl) ?_
              obtain ⟨h_69, hJ⟩ := g_in hJ
              refine va_iald hx hb hK hP 4 3 rfl rfl h_69 dX5_findCosts_166 ?_
              refine lv_ldc (v := 1000000000) hx hb hown k_2 dX5_findCosts_167 ?_
              refine lv_icmp_ne (tgt := 192) hx hb dX5_findCosts_169 (by decide) (fun c_70 => ?_) (fun c_70 => ?_)
              · have hJ := j_f c_70 hJ
                refine lv_aload_n hx hb dX5_findCosts_192 rfl (lv_at hl 2 rfl) ?_
                refine va_get (D := D) (ci := 6) (v := .ref aFa) (C := RX5) (T := TX5) (N := 26) hx hb hts iX5 hown hK hP 0 rfl rfl 21 (by decide) k_1 (fun _ h9 => h9) rfl dX5_findCosts_193 ?_
                refine lv_iload hx hb dX5_findCosts_196 (lv_at hl 1 rfl) ?_
                refine lv_aload_n hx hb dX5_findCosts_198 rfl (lv_at hl 2 rfl) ?_
                refine va_get (D := D) (ci := 6) (v := .ref aFa) (C := RX5) (T := TX5) (N := 26) hx hb hts iX5 hown hK hP 0 rfl rfl 21 (by decide) k_1 (fun _ h9 => h9) rfl dX5_findCosts_199 ?_
                refine lv_iload_n hx hb dX5_findCosts_202 rfl (lv_at hl 5 rfl) ?_
                obtain ⟨h_71, hJ⟩ := g_in hJ
                refine va_iald hx hb hK hP 4 3 rfl rfl h_71 dX5_findCosts_203 ?_
                refine lv_iconst (v := 1) hx hb dX5_findCosts_204 (by decide) ?_
                refine lv_iadd hx hb dX5_findCosts_205 ?_
                obtain ⟨h_72, hJ⟩ := g_in hJ
                refine va_iast hx hb hK hP hD hS 4 3 rfl rfl h_72 dX5_findCosts_206 (fun H locs hP hD hS => ?_)
                have hP : va_P D vwCl [(aM, .inr (6, [.int cod, .int w, .int ht, .int fou, .ref aMf, .int ln, .int wd, .int rd, .int kp, .int car, .int hom, .int gol, .int hld, .double err, .int isw, .int mvs, .int mde, .ref aNm, .ref aBe, .int exa, .long lst, .ref aFa, .ref aCs, .ref aFr, .ref aRo, .ref aNe])), (aMf, .inl (cMf, 576, .inl mf)), (aNm, .inl (cNm, 4608, .inl nm)), (aBe, .inl (cBe, 4608, .inl be)), (aFa, .inl (cFa, 4608, .inl (upd xfa_30 v_62.toNatClampNeg ((xfa_30 y3_28.toNatClampNeg) + (1 : Int32))))), (aCs, .inl (cCs, 4608, .inl xcs_31)), (aFr, .inl (cFr, 4608, .inl yfr_32)), (aRo, .inl (cRo, 4608, .inl xro_33)), (aNe, .inl (cNe, 576, .inl yne_34))] H := hP
                have hD : va_D A [(aM, .inr (6, [.int cod, .int w, .int ht, .int fou, .ref aMf, .int ln, .int wd, .int rd, .int kp, .int car, .int hom, .int gol, .int hld, .double err, .int isw, .int mvs, .int mde, .ref aNm, .ref aBe, .int exa, .long lst, .ref aFa, .ref aCs, .ref aFr, .ref aRo, .ref aNe])), (aMf, .inl (cMf, 576, .inl mf)), (aNm, .inl (cNm, 4608, .inl nm)), (aBe, .inl (cBe, 4608, .inl be)), (aFa, .inl (cFa, 4608, .inl (upd xfa_30 v_62.toNatClampNeg ((xfa_30 y3_28.toNatClampNeg) + (1 : Int32))))), (aCs, .inl (cCs, 4608, .inl xcs_31)), (aFr, .inl (cFr, 4608, .inl yfr_32)), (aRo, .inl (cRo, 4608, .inl xro_33)), (aNe, .inl (cNe, 576, .inl yne_34))] := hD
                refine lv_aload_n hx hb dX5_findCosts_207 rfl (lv_at hl 2 rfl) ?_
                refine va_get (D := D) (ci := 6) (v := .ref aCs) (C := RX5) (T := TX5) (N := 26) hx hb hts iX5 hown hK hP 0 rfl rfl 22 (by decide) k_5 (fun _ h9 => h9) rfl dX5_findCosts_208 ?_
                refine lv_iload hx hb dX5_findCosts_211 (lv_at hl 1 rfl) ?_
                refine lv_iload hx hb dX5_findCosts_213 (lv_at hl 0 rfl) ?_
                refine lv_aload_n hx hb dX5_findCosts_215 rfl (lv_at hl 2 rfl) ?_
                refine va_get (D := D) (ci := 6) (v := .ref aCs) (C := RX5) (T := TX5) (N := 26) hx hb hts iX5 hown hK hP 0 rfl rfl 22 (by decide) k_5 (fun _ h9 => h9) rfl dX5_findCosts_216 ?_
                refine lv_iload hx hb dX5_findCosts_219 (lv_at hl 1 rfl) ?_
                obtain ⟨h_73, hJ⟩ := g_in hJ
                refine va_iald hx hb hK hP 5 4 rfl rfl h_73 dX5_findCosts_221 ?_
                refine lv_icmp_ge (tgt := 230) hx hb dX5_findCosts_222 (by decide) (fun c_74 => ?_) (fun c_74 => ?_)
                · have hJ := j_t c_74 hJ
                  refine lv_aload_n hx hb dX5_findCosts_230 rfl (lv_at hl 2 rfl) ?_
                  refine va_get (D := D) (ci := 6) (v := .ref aCs) (C := RX5) (T := TX5) (N := 26) hx hb hts iX5 hown hK hP 0 rfl rfl 22 (by decide) k_5 (fun _ h9 => h9) rfl dX5_findCosts_231 ?_
                  refine lv_iload hx hb dX5_findCosts_234 (lv_at hl 1 rfl) ?_
                  obtain ⟨h_75, hJ⟩ := g_in hJ
                  refine va_iald hx hb hK hP 5 4 rfl rfl h_75 dX5_findCosts_236 ?_
                  obtain ⟨h_76, hJ⟩ := g_in hJ
                  refine va_iast hx hb hK hP hD hS 5 4 rfl rfl h_76 dX5_findCosts_237 (fun H locs hP hD hS => ?_)
                  have hP : va_P D vwCl [(aM, .inr (6, [.int cod, .int w, .int ht, .int fou, .ref aMf, .int ln, .int wd, .int rd, .int kp, .int car, .int hom, .int gol, .int hld, .double err, .int isw, .int mvs, .int mde, .ref aNm, .ref aBe, .int exa, .long lst, .ref aFa, .ref aCs, .ref aFr, .ref aRo, .ref aNe])), (aMf, .inl (cMf, 576, .inl mf)), (aNm, .inl (cNm, 4608, .inl nm)), (aBe, .inl (cBe, 4608, .inl be)), (aFa, .inl (cFa, 4608, .inl (upd xfa_30 v_62.toNatClampNeg ((xfa_30 y3_28.toNatClampNeg) + (1 : Int32))))), (aCs, .inl (cCs, 4608, .inl (upd xcs_31 v_62.toNatClampNeg (xcs_31 v_62.toNatClampNeg)))), (aFr, .inl (cFr, 4608, .inl yfr_32)), (aRo, .inl (cRo, 4608, .inl xro_33)), (aNe, .inl (cNe, 576, .inl yne_34))] H := hP
                  have hD : va_D A [(aM, .inr (6, [.int cod, .int w, .int ht, .int fou, .ref aMf, .int ln, .int wd, .int rd, .int kp, .int car, .int hom, .int gol, .int hld, .double err, .int isw, .int mvs, .int mde, .ref aNm, .ref aBe, .int exa, .long lst, .ref aFa, .ref aCs, .ref aFr, .ref aRo, .ref aNe])), (aMf, .inl (cMf, 576, .inl mf)), (aNm, .inl (cNm, 4608, .inl nm)), (aBe, .inl (cBe, 4608, .inl be)), (aFa, .inl (cFa, 4608, .inl (upd xfa_30 v_62.toNatClampNeg ((xfa_30 y3_28.toNatClampNeg) + (1 : Int32))))), (aCs, .inl (cCs, 4608, .inl (upd xcs_31 v_62.toNatClampNeg (xcs_31 v_62.toNatClampNeg)))), (aFr, .inl (cFr, 4608, .inl yfr_32)), (aRo, .inl (cRo, 4608, .inl xro_33)), (aNe, .inl (cNe, 576, .inl yne_34))] := hD
                  refine lv_iinc (v := (x4_29 + (1 : Int32))) (lv' := [(4, .int (x4_29 + (1 : Int32))), (6, .int ((xcs_31 y3_28.toNatClampNeg) + v_68)), (5, .int v_62), (0, .ref aM), (1, .int x1_26), (2, .int y2_27), (3, .int y3_28)]) hx hb dX5_findCosts_238 hl (k := 6) rfl rfl (by decide) rfl (fun ls hl => ?_)
                  refine lv_goto (tgt := 89) hx hb dX5_findCosts_241 (by decide) ?_
                  exact ih H locs x1_26 (x4_29 + (1 : Int32)) (upd xfa_30 v_62.toNatClampNeg ((xfa_30 y3_28.toNatClampNeg) + (1 : Int32))) (upd xcs_31 v_62.toNatClampNeg (xcs_31 v_62.toNatClampNeg)) xro_33 ls hJ hP hD hS (lv_sub hl [3, 4, 5, 6, 0] rfl)
                · have hJ := j_f c_74 hJ
                  refine lv_iload hx hb dX5_findCosts_225 (lv_at hl 0 rfl) ?_
                  refine lv_goto (tgt := 237) hx hb dX5_findCosts_227 (by decide) ?_
                  obtain ⟨h_77, hJ⟩ := g_in hJ
                  refine va_iast hx hb hK hP hD hS 5 4 rfl rfl h_77 dX5_findCosts_237 (fun H locs hP hD hS => ?_)
                  have hP : va_P D vwCl [(aM, .inr (6, [.int cod, .int w, .int ht, .int fou, .ref aMf, .int ln, .int wd, .int rd, .int kp, .int car, .int hom, .int gol, .int hld, .double err, .int isw, .int mvs, .int mde, .ref aNm, .ref aBe, .int exa, .long lst, .ref aFa, .ref aCs, .ref aFr, .ref aRo, .ref aNe])), (aMf, .inl (cMf, 576, .inl mf)), (aNm, .inl (cNm, 4608, .inl nm)), (aBe, .inl (cBe, 4608, .inl be)), (aFa, .inl (cFa, 4608, .inl (upd xfa_30 v_62.toNatClampNeg ((xfa_30 y3_28.toNatClampNeg) + (1 : Int32))))), (aCs, .inl (cCs, 4608, .inl (upd xcs_31 v_62.toNatClampNeg ((xcs_31 y3_28.toNatClampNeg) + v_68)))), (aFr, .inl (cFr, 4608, .inl yfr_32)), (aRo, .inl (cRo, 4608, .inl xro_33)), (aNe, .inl (cNe, 576, .inl yne_34))] H := hP
                  have hD : va_D A [(aM, .inr (6, [.int cod, .int w, .int ht, .int fou, .ref aMf, .int ln, .int wd, .int rd, .int kp, .int car, .int hom, .int gol, .int hld, .double err, .int isw, .int mvs, .int mde, .ref aNm, .ref aBe, .int exa, .long lst, .ref aFa, .ref aCs, .ref aFr, .ref aRo, .ref aNe])), (aMf, .inl (cMf, 576, .inl mf)), (aNm, .inl (cNm, 4608, .inl nm)), (aBe, .inl (cBe, 4608, .inl be)), (aFa, .inl (cFa, 4608, .inl (upd xfa_30 v_62.toNatClampNeg ((xfa_30 y3_28.toNatClampNeg) + (1 : Int32))))), (aCs, .inl (cCs, 4608, .inl (upd xcs_31 v_62.toNatClampNeg ((xcs_31 y3_28.toNatClampNeg) + v_68)))), (aFr, .inl (cFr, 4608, .inl yfr_32)), (aRo, .inl (cRo, 4608, .inl xro_33)), (aNe, .inl (cNe, 576, .inl yne_34))] := hD
                  refine lv_iinc (v := (x4_29 + (1 : Int32))) (lv' := [(4, .int (x4_29 + (1 : Int32))), (6, .int ((xcs_31 y3_28.toNatClampNeg) + v_68)), (5, .int v_62), (0, .ref aM), (1, .int x1_26), (2, .int y2_27), (3, .int y3_28)]) hx hb dX5_findCosts_238 hl (k := 6) rfl rfl (by decide) rfl (fun ls hl => ?_)
                  refine lv_goto (tgt := 89) hx hb dX5_findCosts_241 (by decide) ?_
                  exact ih H locs x1_26 (x4_29 + (1 : Int32)) (upd xfa_30 v_62.toNatClampNeg ((xfa_30 y3_28.toNatClampNeg) + (1 : Int32))) (upd xcs_31 v_62.toNatClampNeg ((xcs_31 y3_28.toNatClampNeg) + v_68)) xro_33 ls hJ hP hD hS (lv_sub hl [3, 4, 5, 6, 0] rfl)
              · have hJ := j_t c_70 hJ
                refine lv_aload_n hx hb dX5_findCosts_172 rfl (lv_at hl 2 rfl) ?_
                refine va_get (D := D) (ci := 6) (v := .ref aRo) (C := RX5) (T := TX5) (N := 26) hx hb hts iX5 hown hK hP 0 rfl rfl 24 (by decide) k_6 (fun _ h9 => h9) rfl dX5_findCosts_173 ?_
                refine lv_iload_n hx hb dX5_findCosts_176 rfl (lv_at hl 3 rfl) ?_
                refine lv_iload hx hb dX5_findCosts_177 (lv_at hl 1 rfl) ?_
                obtain ⟨h_78, hJ⟩ := g_in hJ
                refine va_iast hx hb hK hP hD hS 7 6 rfl rfl h_78 dX5_findCosts_179 (fun H locs hP hD hS => ?_)
                have hP : va_P D vwCl [(aM, .inr (6, [.int cod, .int w, .int ht, .int fou, .ref aMf, .int ln, .int wd, .int rd, .int kp, .int car, .int hom, .int gol, .int hld, .double err, .int isw, .int mvs, .int mde, .ref aNm, .ref aBe, .int exa, .long lst, .ref aFa, .ref aCs, .ref aFr, .ref aRo, .ref aNe])), (aMf, .inl (cMf, 576, .inl mf)), (aNm, .inl (cNm, 4608, .inl nm)), (aBe, .inl (cBe, 4608, .inl be)), (aFa, .inl (cFa, 4608, .inl xfa_30)), (aCs, .inl (cCs, 4608, .inl xcs_31)), (aFr, .inl (cFr, 4608, .inl yfr_32)), (aRo, .inl (cRo, 4608, .inl (upd xro_33 x1_26.toNatClampNeg v_62))), (aNe, .inl (cNe, 576, .inl yne_34))] H := hP
                have hD : va_D A [(aM, .inr (6, [.int cod, .int w, .int ht, .int fou, .ref aMf, .int ln, .int wd, .int rd, .int kp, .int car, .int hom, .int gol, .int hld, .double err, .int isw, .int mvs, .int mde, .ref aNm, .ref aBe, .int exa, .long lst, .ref aFa, .ref aCs, .ref aFr, .ref aRo, .ref aNe])), (aMf, .inl (cMf, 576, .inl mf)), (aNm, .inl (cNm, 4608, .inl nm)), (aBe, .inl (cBe, 4608, .inl be)), (aFa, .inl (cFa, 4608, .inl xfa_30)), (aCs, .inl (cCs, 4608, .inl xcs_31)), (aFr, .inl (cFr, 4608, .inl yfr_32)), (aRo, .inl (cRo, 4608, .inl (upd xro_33 x1_26.toNatClampNeg v_62))), (aNe, .inl (cNe, 576, .inl yne_34))] := hD
                refine lv_iinc (v := (x1_26 + (1 : Int32))) (lv' := [(1, .int (x1_26 + (1 : Int32))), (6, .int ((xcs_31 y3_28.toNatClampNeg) + v_68)), (5, .int v_62), (0, .ref aM), (2, .int y2_27), (3, .int y3_28), (4, .int x4_29)]) hx hb dX5_findCosts_180 hl (k := 3) rfl rfl (by decide) rfl (fun ls hl => ?_)
                refine lv_aload_n hx hb dX5_findCosts_183 rfl (lv_at hl 3 rfl) ?_
                refine va_get (D := D) (ci := 6) (v := .ref aCs) (C := RX5) (T := TX5) (N := 26) hx hb hts iX5 hown hK hP 0 rfl rfl 22 (by decide) k_5 (fun _ h9 => h9) rfl dX5_findCosts_184 ?_
                refine lv_iload hx hb dX5_findCosts_187 (lv_at hl 2 rfl) ?_
                refine lv_iload hx hb dX5_findCosts_189 (lv_at hl 1 rfl) ?_
                obtain ⟨h_79, hJ⟩ := g_in hJ
                refine va_iast hx hb hK hP hD hS 5 4 rfl rfl h_79 dX5_findCosts_191 (fun H locs hP hD hS => ?_)
                have hP : va_P D vwCl [(aM, .inr (6, [.int cod, .int w, .int ht, .int fou, .ref aMf, .int ln, .int wd, .int rd, .int kp, .int car, .int hom, .int gol, .int hld, .double err, .int isw, .int mvs, .int mde, .ref aNm, .ref aBe, .int exa, .long lst, .ref aFa, .ref aCs, .ref aFr, .ref aRo, .ref aNe])), (aMf, .inl (cMf, 576, .inl mf)), (aNm, .inl (cNm, 4608, .inl nm)), (aBe, .inl (cBe, 4608, .inl be)), (aFa, .inl (cFa, 4608, .inl xfa_30)), (aCs, .inl (cCs, 4608, .inl (upd xcs_31 v_62.toNatClampNeg ((xcs_31 y3_28.toNatClampNeg) + v_68)))), (aFr, .inl (cFr, 4608, .inl yfr_32)), (aRo, .inl (cRo, 4608, .inl (upd xro_33 x1_26.toNatClampNeg v_62))), (aNe, .inl (cNe, 576, .inl yne_34))] H := hP
                have hD : va_D A [(aM, .inr (6, [.int cod, .int w, .int ht, .int fou, .ref aMf, .int ln, .int wd, .int rd, .int kp, .int car, .int hom, .int gol, .int hld, .double err, .int isw, .int mvs, .int mde, .ref aNm, .ref aBe, .int exa, .long lst, .ref aFa, .ref aCs, .ref aFr, .ref aRo, .ref aNe])), (aMf, .inl (cMf, 576, .inl mf)), (aNm, .inl (cNm, 4608, .inl nm)), (aBe, .inl (cBe, 4608, .inl be)), (aFa, .inl (cFa, 4608, .inl xfa_30)), (aCs, .inl (cCs, 4608, .inl (upd xcs_31 v_62.toNatClampNeg ((xcs_31 y3_28.toNatClampNeg) + v_68)))), (aFr, .inl (cFr, 4608, .inl yfr_32)), (aRo, .inl (cRo, 4608, .inl (upd xro_33 x1_26.toNatClampNeg v_62))), (aNe, .inl (cNe, 576, .inl yne_34))] := hD
                refine lv_aload_n hx hb dX5_findCosts_192 rfl (lv_at hl 3 rfl) ?_
                refine va_get (D := D) (ci := 6) (v := .ref aFa) (C := RX5) (T := TX5) (N := 26) hx hb hts iX5 hown hK hP 0 rfl rfl 21 (by decide) k_1 (fun _ h9 => h9) rfl dX5_findCosts_193 ?_
                refine lv_iload hx hb dX5_findCosts_196 (lv_at hl 2 rfl) ?_
                refine lv_aload_n hx hb dX5_findCosts_198 rfl (lv_at hl 3 rfl) ?_
                refine va_get (D := D) (ci := 6) (v := .ref aFa) (C := RX5) (T := TX5) (N := 26) hx hb hts iX5 hown hK hP 0 rfl rfl 21 (by decide) k_1 (fun _ h9 => h9) rfl dX5_findCosts_199 ?_
                refine lv_iload_n hx hb dX5_findCosts_202 rfl (lv_at hl 5 rfl) ?_
                obtain ⟨h_80, hJ⟩ := g_in hJ
                refine va_iald hx hb hK hP 4 3 rfl rfl h_80 dX5_findCosts_203 ?_
                refine lv_iconst (v := 1) hx hb dX5_findCosts_204 (by decide) ?_
                refine lv_iadd hx hb dX5_findCosts_205 ?_
                obtain ⟨h_81, hJ⟩ := g_in hJ
                refine va_iast hx hb hK hP hD hS 4 3 rfl rfl h_81 dX5_findCosts_206 (fun H locs hP hD hS => ?_)
                have hP : va_P D vwCl [(aM, .inr (6, [.int cod, .int w, .int ht, .int fou, .ref aMf, .int ln, .int wd, .int rd, .int kp, .int car, .int hom, .int gol, .int hld, .double err, .int isw, .int mvs, .int mde, .ref aNm, .ref aBe, .int exa, .long lst, .ref aFa, .ref aCs, .ref aFr, .ref aRo, .ref aNe])), (aMf, .inl (cMf, 576, .inl mf)), (aNm, .inl (cNm, 4608, .inl nm)), (aBe, .inl (cBe, 4608, .inl be)), (aFa, .inl (cFa, 4608, .inl (upd xfa_30 v_62.toNatClampNeg ((xfa_30 y3_28.toNatClampNeg) + (1 : Int32))))), (aCs, .inl (cCs, 4608, .inl (upd xcs_31 v_62.toNatClampNeg ((xcs_31 y3_28.toNatClampNeg) + v_68)))), (aFr, .inl (cFr, 4608, .inl yfr_32)), (aRo, .inl (cRo, 4608, .inl (upd xro_33 x1_26.toNatClampNeg v_62))), (aNe, .inl (cNe, 576, .inl yne_34))] H := hP
                have hD : va_D A [(aM, .inr (6, [.int cod, .int w, .int ht, .int fou, .ref aMf, .int ln, .int wd, .int rd, .int kp, .int car, .int hom, .int gol, .int hld, .double err, .int isw, .int mvs, .int mde, .ref aNm, .ref aBe, .int exa, .long lst, .ref aFa, .ref aCs, .ref aFr, .ref aRo, .ref aNe])), (aMf, .inl (cMf, 576, .inl mf)), (aNm, .inl (cNm, 4608, .inl nm)), (aBe, .inl (cBe, 4608, .inl be)), (aFa, .inl (cFa, 4608, .inl (upd xfa_30 v_62.toNatClampNeg ((xfa_30 y3_28.toNatClampNeg) + (1 : Int32))))), (aCs, .inl (cCs, 4608, .inl (upd xcs_31 v_62.toNatClampNeg ((xcs_31 y3_28.toNatClampNeg) + v_68)))), (aFr, .inl (cFr, 4608, .inl yfr_32)), (aRo, .inl (cRo, 4608, .inl (upd xro_33 x1_26.toNatClampNeg v_62))), (aNe, .inl (cNe, 576, .inl yne_34))] := hD
                refine lv_aload_n hx hb dX5_findCosts_207 rfl (lv_at hl 3 rfl) ?_
                refine va_get (D := D) (ci := 6) (v := .ref aCs) (C := RX5) (T := TX5) (N := 26) hx hb hts iX5 hown hK hP 0 rfl rfl 22 (by decide) k_5 (fun _ h9 => h9) rfl dX5_findCosts_208 ?_
                refine lv_iload hx hb dX5_findCosts_211 (lv_at hl 2 rfl) ?_
                refine lv_iload hx hb dX5_findCosts_213 (lv_at hl 1 rfl) ?_
                refine lv_aload_n hx hb dX5_findCosts_215 rfl (lv_at hl 3 rfl) ?_
                refine va_get (D := D) (ci := 6) (v := .ref aCs) (C := RX5) (T := TX5) (N := 26) hx hb hts iX5 hown hK hP 0 rfl rfl 22 (by decide) k_5 (fun _ h9 => h9) rfl dX5_findCosts_216 ?_
                refine lv_iload hx hb dX5_findCosts_219 (lv_at hl 2 rfl) ?_
                obtain ⟨h_82, hJ⟩ := g_in hJ
                refine va_iald hx hb hK hP 5 4 rfl rfl h_82 dX5_findCosts_221 ?_
                refine lv_icmp_ge (tgt := 230) hx hb dX5_findCosts_222 (by decide) (fun c_83 => ?_) (fun c_83 => ?_)
                · have hJ := j_t c_83 hJ
                  refine lv_aload_n hx hb dX5_findCosts_230 rfl (lv_at hl 3 rfl) ?_
                  refine va_get (D := D) (ci := 6) (v := .ref aCs) (C := RX5) (T := TX5) (N := 26) hx hb hts iX5 hown hK hP 0 rfl rfl 22 (by decide) k_5 (fun _ h9 => h9) rfl dX5_findCosts_231 ?_
                  refine lv_iload hx hb dX5_findCosts_234 (lv_at hl 2 rfl) ?_
                  obtain ⟨h_84, hJ⟩ := g_in hJ
                  refine va_iald hx hb hK hP 5 4 rfl rfl h_84 dX5_findCosts_236 ?_
                  obtain ⟨h_85, hJ⟩ := g_in hJ
                  refine va_iast hx hb hK hP hD hS 5 4 rfl rfl h_85 dX5_findCosts_237 (fun H locs hP hD hS => ?_)
                  have hP : va_P D vwCl [(aM, .inr (6, [.int cod, .int w, .int ht, .int fou, .ref aMf, .int ln, .int wd, .int rd, .int kp, .int car, .int hom, .int gol, .int hld, .double err, .int isw, .int mvs, .int mde, .ref aNm, .ref aBe, .int exa, .long lst, .ref aFa, .ref aCs, .ref aFr, .ref aRo, .ref aNe])), (aMf, .inl (cMf, 576, .inl mf)), (aNm, .inl (cNm, 4608, .inl nm)), (aBe, .inl (cBe, 4608, .inl be)), (aFa, .inl (cFa, 4608, .inl (upd xfa_30 v_62.toNatClampNeg ((xfa_30 y3_28.toNatClampNeg) + (1 : Int32))))), (aCs, .inl (cCs, 4608, .inl (upd (upd xcs_31 v_62.toNatClampNeg ((xcs_31 y3_28.toNatClampNeg) + v_68)) v_62.toNatClampNeg ((upd xcs_31 v_62.toNatClampNeg ((xcs_31 y3_28.toNatClampNeg) + v_68)) v_62.toNatClampNeg)))), (aFr, .inl (cFr, 4608, .inl yfr_32)), (aRo, .inl (cRo, 4608, .inl (upd xro_33 x1_26.toNatClampNeg v_62))), (aNe, .inl (cNe, 576, .inl yne_34))] H := hP
                  have hD : va_D A [(aM, .inr (6, [.int cod, .int w, .int ht, .int fou, .ref aMf, .int ln, .int wd, .int rd, .int kp, .int car, .int hom, .int gol, .int hld, .double err, .int isw, .int mvs, .int mde, .ref aNm, .ref aBe, .int exa, .long lst, .ref aFa, .ref aCs, .ref aFr, .ref aRo, .ref aNe])), (aMf, .inl (cMf, 576, .inl mf)), (aNm, .inl (cNm, 4608, .inl nm)), (aBe, .inl (cBe, 4608, .inl be)), (aFa, .inl (cFa, 4608, .inl (upd xfa_30 v_62.toNatClampNeg ((xfa_30 y3_28.toNatClampNeg) + (1 : Int32))))), (aCs, .inl (cCs, 4608, .inl (upd (upd xcs_31 v_62.toNatClampNeg ((xcs_31 y3_28.toNatClampNeg) + v_68)) v_62.toNatClampNeg ((upd xcs_31 v_62.toNatClampNeg ((xcs_31 y3_28.toNatClampNeg) + v_68)) v_62.toNatClampNeg)))), (aFr, .inl (cFr, 4608, .inl yfr_32)), (aRo, .inl (cRo, 4608, .inl (upd xro_33 x1_26.toNatClampNeg v_62))), (aNe, .inl (cNe, 576, .inl yne_34))] := hD
                  refine lv_iinc (v := (x4_29 + (1 : Int32))) (lv' := [(4, .int (x4_29 + (1 : Int32))), (1, .int (x1_26 + (1 : Int32))), (6, .int ((xcs_31 y3_28.toNatClampNeg) + v_68)), (5, .int v_62), (0, .ref aM), (2, .int y2_27), (3, .int y3_28)]) hx hb dX5_findCosts_238 hl (k := 6) rfl rfl (by decide) rfl (fun ls hl => ?_)
                  refine lv_goto (tgt := 89) hx hb dX5_findCosts_241 (by decide) ?_
                  exact ih H locs (x1_26 + (1 : Int32)) (x4_29 + (1 : Int32)) (upd xfa_30 v_62.toNatClampNeg ((xfa_30 y3_28.toNatClampNeg) + (1 : Int32))) (upd (upd xcs_31 v_62.toNatClampNeg ((xcs_31 y3_28.toNatClampNeg) + v_68)) v_62.toNatClampNeg ((upd xcs_31 v_62.toNatClampNeg ((xcs_31 y3_28.toNatClampNeg) + v_68)) v_62.toNatClampNeg)) (upd xro_33 x1_26.toNatClampNeg v_62) ls hJ hP hD hS (lv_sub hl [4, 1, 5, 6, 0] rfl)
                · have hJ := j_f c_83 hJ
                  refine lv_iload hx hb dX5_findCosts_225 (lv_at hl 1 rfl) ?_
                  refine lv_goto (tgt := 237) hx hb dX5_findCosts_227 (by decide) ?_
                  obtain ⟨h_86, hJ⟩ := g_in hJ
                  refine va_iast hx hb hK hP hD hS 5 4 rfl rfl h_86 dX5_findCosts_237 (fun H locs hP hD hS => ?_)
                  have hP : va_P D vwCl [(aM, .inr (6, [.int cod, .int w, .int ht, .int fou, .ref aMf, .int ln, .int wd, .int rd, .int kp, .int car, .int hom, .int gol, .int hld, .double err, .int isw, .int mvs, .int mde, .ref aNm, .ref aBe, .int exa, .long lst, .ref aFa, .ref aCs, .ref aFr, .ref aRo, .ref aNe])), (aMf, .inl (cMf, 576, .inl mf)), (aNm, .inl (cNm, 4608, .inl nm)), (aBe, .inl (cBe, 4608, .inl be)), (aFa, .inl (cFa, 4608, .inl (upd xfa_30 v_62.toNatClampNeg ((xfa_30 y3_28.toNatClampNeg) + (1 : Int32))))), (aCs, .inl (cCs, 4608, .inl (upd (upd xcs_31 v_62.toNatClampNeg ((xcs_31 y3_28.toNatClampNeg) + v_68)) v_62.toNatClampNeg ((xcs_31 y3_28.toNatClampNeg) + v_68)))), (aFr, .inl (cFr, 4608, .inl yfr_32)), (aRo, .inl (cRo, 4608, .inl (upd xro_33 x1_26.toNatClampNeg v_62))), (aNe, .inl (cNe, 576, .inl yne_34))] H := hP
                  have hD : va_D A [(aM, .inr (6, [.int cod, .int w, .int ht, .int fou, .ref aMf, .int ln, .int wd, .int rd, .int kp, .int car, .int hom, .int gol, .int hld, .double err, .int isw, .int mvs, .int mde, .ref aNm, .ref aBe, .int exa, .long lst, .ref aFa, .ref aCs, .ref aFr, .ref aRo, .ref aNe])), (aMf, .inl (cMf, 576, .inl mf)), (aNm, .inl (cNm, 4608, .inl nm)), (aBe, .inl (cBe, 4608, .inl be)), (aFa, .inl (cFa, 4608, .inl (upd xfa_30 v_62.toNatClampNeg ((xfa_30 y3_28.toNatClampNeg) + (1 : Int32))))), (aCs, .inl (cCs, 4608, .inl (upd (upd xcs_31 v_62.toNatClampNeg ((xcs_31 y3_28.toNatClampNeg) + v_68)) v_62.toNatClampNeg ((xcs_31 y3_28.toNatClampNeg) + v_68)))), (aFr, .inl (cFr, 4608, .inl yfr_32)), (aRo, .inl (cRo, 4608, .inl (upd xro_33 x1_26.toNatClampNeg v_62))), (aNe, .inl (cNe, 576, .inl yne_34))] := hD
                  refine lv_iinc (v := (x4_29 + (1 : Int32))) (lv' := [(4, .int (x4_29 + (1 : Int32))), (1, .int (x1_26 + (1 : Int32))), (6, .int ((xcs_31 y3_28.toNatClampNeg) + v_68)), (5, .int v_62), (0, .ref aM), (2, .int y2_27), (3, .int y3_28)]) hx hb dX5_findCosts_238 hl (k := 6) rfl rfl (by decide) rfl (fun ls hl => ?_)
                  refine lv_goto (tgt := 89) hx hb dX5_findCosts_241 (by decide) ?_
                  exact ih H locs (x1_26 + (1 : Int32)) (x4_29 + (1 : Int32)) (upd xfa_30 v_62.toNatClampNeg ((xfa_30 y3_28.toNatClampNeg) + (1 : Int32))) (upd (upd xcs_31 v_62.toNatClampNeg ((xcs_31 y3_28.toNatClampNeg) + v_68)) v_62.toNatClampNeg ((xcs_31 y3_28.toNatClampNeg) + v_68)) (upd xro_33 x1_26.toNatClampNeg v_62) ls hJ hP hD hS (lv_sub hl [4, 1, 5, 6, 0] rfl)
            · have hJ := j_f c_66 hJ
              refine lv_goto (tgt := 238) hx hb dX5_findCosts_142 (by decide) ?_
              refine lv_iinc (v := (x4_29 + (1 : Int32))) (lv' := [(4, .int (x4_29 + (1 : Int32))), (5, .int v_62), (0, .ref aM), (1, .int x1_26), (2, .int y2_27), (3, .int y3_28)]) hx hb dX5_findCosts_238 hl (k := 5) rfl rfl (by decide) rfl (fun ls hl => ?_)
              refine lv_goto (tgt := 89) hx hb dX5_findCosts_241 (by decide) ?_
              exact ih H locs x1_26 (x4_29 + (1 : Int32)) xfa_30 xcs_31 xro_33 ls hJ hP hD hS (lv_sub hl [2, 3, 4, 5, 0] rfl)
  have L_74 : ∀ (yfr_21 : Nat → Int32) (yne_23 : Nat → Int32) (kk_250 : Int32 → Int32 → (Nat → Int32) → (Nat → Int32) → (Nat → Int32) → Option ((Nat → Int32) × (Nat → Int32) × (Nat → Int32) × (Nat → Int32) × (Nat → Int32))) (hkk_250 : ∀ (H : Heap) (locs : List Loc) (x1_17 : Int32) (x2_18 : Int32) (xfa_19 : Nat → Int32) (xcs_20 : Nat → Int32) (xro_22 : Nat → Int32) (ls : Array Slot), kk_250 x1_17 x2_18 xfa_19 xcs_20 xro_22 = some o → va_P D vwCl [(aM, .inr (6, [.int cod, .int w, .int ht, .int fou, .ref aMf, .int ln, .int wd, .int rd, .int kp, .int car, .int hom, .int gol, .int hld, .double err, .int isw, .int mvs, .int mde, .ref aNm, .ref aBe, .int exa, .long lst, .ref aFa, .ref aCs, .ref aFr, .ref aRo, .ref aNe])), (aMf, .inl (cMf, 576, .inl mf)), (aNm, .inl (cNm, 4608, .inl nm)), (aBe, .inl (cBe, 4608, .inl be)), (aFa, .inl (cFa, 4608, .inl xfa_19)), (aCs, .inl (cCs, 4608, .inl xcs_20)), (aFr, .inl (cFr, 4608, .inl yfr_21)), (aRo, .inl (cRo, 4608, .inl xro_22)), (aNe, .inl (cNe, 576, .inl yne_23))] H → va_D A [(aM, .inr (6, [.int cod, .int w, .int ht, .int fou, .ref aMf, .int ln, .int wd, .int rd, .int kp, .int car, .int hom, .int gol, .int hld, .double err, .int isw, .int mvs, .int mde, .ref aNm, .ref aBe, .int exa, .long lst, .ref aFa, .ref aCs, .ref aFr, .ref aRo, .ref aNe])), (aMf, .inl (cMf, 576, .inl mf)), (aNm, .inl (cNm, 4608, .inl nm)), (aBe, .inl (cBe, 4608, .inl be)), (aFa, .inl (cFa, 4608, .inl xfa_19)), (aCs, .inl (cCs, 4608, .inl xcs_20)), (aFr, .inl (cFr, 4608, .inl yfr_21)), (aRo, .inl (cRo, 4608, .inl xro_22)), (aNe, .inl (cNe, 576, .inl yne_23))] → va_S A s.heap H locs → lv_has ls 7 [] → W p l e (headSpec wsX5_findCosts rmX5_findCosts).room s m [.ref aM].toArray below meth c H locs 0 0 (MQ below (qWv D [(aM, .inr (6, [.int cod, .int w, .int ht, .int fou, .ref aMf, .int ln, .int wd, .int rd, .int kp, .int car, .int hom, .int gol, .int hld, .double err, .int isw, .int mvs, .int mde, .ref aNm, .ref aBe, .int exa, .long lst, .ref aFa, .ref aCs, .ref aFr, .ref aRo, .ref aNe])), (aMf, .inl (cMf, 576, .inl mf)), (aNm, .inl (cNm, 4608, .inl nm)), (aBe, .inl (cBe, 4608, .inl be)), (aFa, .inl (cFa, 4608, .inl o.1)), (aCs, .inl (cCs, 4608, .inl o.2.1)), (aFr, .inl (cFr, 4608, .inl o.2.2.1)), (aRo, .inl (cRo, 4608, .inl o.2.2.2.1)), (aNe, .inl (cNe, 576, .inl o.2.2.2.2))] A) [.ref aM].toArray s 0 0 A) (F0 m 250 ls [])) (fz : Nat) (H : Heap) (locs : List Loc) (x1_17 : Int32) (x2_18 : Int32) (xfa_19 : Nat → Int32) (xcs_20 : Nat → Int32) (xro_22 : Nat → Int32) (ls : Array Slot), J_X5_findCosts_L74 F w ht fou rd yfr_21 kk_250 fz x1_17 x2_18 xfa_19 xcs_20 xro_22 = some o → va_P D vwCl [(aM, .inr (6, [.int cod, .int w, .int ht, .int fou, .ref aMf, .int ln, .int wd, .int rd, .int kp, .int car, .int hom, .int gol, .int hld, .double err, .int isw, .int mvs, .int mde, .ref aNm, .ref aBe, .int exa, .long lst, .ref aFa, .ref aCs, .ref aFr, .ref aRo, .ref aNe])), (aMf, .inl (cMf, 576, .inl mf)), (aNm, .inl (cNm, 4608, .inl nm)), (aBe, .inl (cBe, 4608, .inl be)), (aFa, .inl (cFa, 4608, .inl xfa_19)), (aCs, .inl (cCs, 4608, .inl xcs_20)), (aFr, .inl (cFr, 4608, .inl yfr_21)), (aRo, .inl (cRo, 4608, .inl xro_22)), (aNe, .inl (cNe, 576, .inl yne_23))] H → va_D A [(aM, .inr (6, [.int cod, .int w, .int ht, .int fou, .ref aMf, .int ln, .int wd, .int rd, .int kp, .int car, .int hom, .int gol, .int hld, .double err, .int isw, .int mvs, .int mde, .ref aNm, .ref aBe, .int exa, .long lst, .ref aFa, .ref aCs, .ref aFr, .ref aRo, .ref aNe])), (aMf, .inl (cMf, 576, .inl mf)), (aNm, .inl (cNm, 4608, .inl nm)), (aBe, .inl (cBe, 4608, .inl be)), (aFa, .inl (cFa, 4608, .inl xfa_19)), (aCs, .inl (cCs, 4608, .inl xcs_20)), (aFr, .inl (cFr, 4608, .inl yfr_21)), (aRo, .inl (cRo, 4608, .inl xro_22)), (aNe, .inl (cNe, 576, .inl yne_23))] → va_S A s.heap H locs → lv_has ls 7 [(0, .ref aM), (1, .int x1_17), (2, .int x2_18)] → W p l e (headSpec wsX5_findCosts rmX5_findCosts).room s m [.ref aM].toArray below meth c H locs 0 0 (MQ below (qWv D [(aM, .inr (6, [.int cod, .int w, .int ht, .int fou, .ref aMf, .int ln, .int wd, .int rd, .int kp, .int car, .int hom, .int gol, .int hld, .double err, .int isw, .int mvs, .int mde, .ref aNm, .ref aBe, .int exa, .long lst, .ref aFa, .ref aCs, .ref aFr, .ref aRo, .ref aNe])), (aMf, .inl (cMf, 576, .inl mf)), (aNm, .inl (cNm, 4608, .inl nm)), (aBe, .inl (cBe, 4608, .inl be)), (aFa, .inl (cFa, 4608, .inl o.1)), (aCs, .inl (cCs, 4608, .inl o.2.1)), (aFr, .inl (cFr, 4608, .inl o.2.2.1)), (aRo, .inl (cRo, 4608, .inl o.2.2.2.1)), (aNe, .inl (cNe, 576, .inl o.2.2.2.2))] A) [.ref aM].toArray s 0 0 A) (F0 m 74 ls []) := by
    intro yfr_21 yne_23 kk_250 hkk_250 fz
    induction fz with
    | zero =>
      intro H locs x1_17 x2_18 xfa_19 xcs_20 xro_22 ls hJ
      rw [J_X5_findCosts_L74] at hJ
      cases hJ
    | succ fz ih =>
      intro H locs x1_17 x2_18 xfa_19 xcs_20 xro_22 ls hJ hP hD hS hl
      rw [J_X5_findCosts_L74] at hJ
      refine lv_iload_n hx hb dX5_findCosts_74 rfl (lv_at hl 2 rfl) ?_
      refine lv_iload_n hx hb dX5_findCosts_75 rfl (lv_at hl 1 rfl) ?_
      refine lv_icmp_ge (tgt := 250) hx hb dX5_findCosts_76 (by decide) (fun c_24 => ?_) (fun c_24 => ?_)
      · have hJ := j_t c_24 hJ
        exact hkk_250 H locs x1_17 x2_18 xfa_19 xcs_20 xro_22 ls hJ hP hD hS (lv_sub hl [] rfl)
      · have hJ := j_f c_24 hJ
        refine lv_aload_n hx hb dX5_findCosts_79 rfl (lv_at hl 0 rfl) ?_
        refine va_get (D := D) (ci := 6) (v := .ref aRo) (C := RX5) (T := TX5) (N := 26) hx hb hts iX5 hown hK hP 0 rfl rfl 24 (by decide) k_6 (fun _ h9 => h9) rfl dX5_findCosts_80 ?_
        refine lv_iload_n hx hb dX5_findCosts_83 rfl (lv_at hl 2 rfl) ?_
        obtain ⟨h_25, hJ⟩ := g_in hJ
        refine va_iald hx hb hK hP 7 6 rfl rfl h_25 dX5_findCosts_84 ?_
        refine lv_istore_n (lv' := [(3, .int (xro_22 x2_18.toNatClampNeg)), (0, .ref aM), (1, .int x1_17), (2, .int x2_18)]) hx hb dX5_findCosts_85 rfl hl (by decide) rfl (fun ls hl => ?_)
        refine lv_iconst (v := 0) hx hb dX5_findCosts_86 (by decide) ?_
        refine lv_istore (lv' := [(4, .int (0 : Int32)), (3, .int (xro_22 x2_18.toNatClampNeg)), (0, .ref aM), (1, .int x1_17), (2, .int x2_18)]) hx hb dX5_findCosts_87 hl (by decide) rfl (fun ls hl => ?_)
        refine L_89 x2_18 (xro_22 x2_18.toNatClampNeg) yfr_21 yne_23 _ ?_ F H locs x1_17 (0 : Int32) xfa_19 xcs_20 xro_22 ls hJ hP hD hS (lv_sub hl [2, 3, 4, 1, 0] rfl)
        · intro H locs x1_87 x4_88 xfa_89 xcs_90 xro_91 ls hJ hP hD hS hl
          refine lv_iinc (v := (x2_18 + (1 : Int32))) (lv' := [(2, .int (x2_18 + (1 : Int32))), (0, .ref aM), (1, .int x1_87)]) hx hb dX5_findCosts_244 hl (k := 2) rfl rfl (by decide) rfl (fun ls hl => ?_)
          refine lv_goto (tgt := 74) hx hb dX5_findCosts_247 (by decide) ?_
          exact ih H locs x1_87 (x2_18 + (1 : Int32)) xfa_89 xcs_90 xro_91 ls hJ hP hD hS (lv_sub hl [1, 2, 0] rfl)
  unfold J_X5_findCosts at hJ
  refine lv_aload_n hx hb dX5_findCosts_0 rfl (lv_at hl 0 rfl) ?_
  obtain ⟨v_1, hv_1, hJ⟩ := j_b hJ
  refine wr_v (wr := []) (wn := [(aM, .inr (6, [.int cod, .int w, .int ht, .int fou, .ref aMf, .int ln, .int wd, .int rd, .int kp, .int car, .int hom, .int gol, .int hld, .double err, .int isw, .int mvs, .int mde, .ref aNm, .ref aBe, .int exa, .long lst, .ref aFa, .ref aCs, .ref aFr, .ref aRo, .ref aNe])), (aMf, .inl (cMf, 576, .inl mf)), (aNm, .inl (cNm, 4608, .inl nm)), (aBe, .inl (cBe, 4608, .inl be)), (aFa, .inl (cFa, 4608, .inl fa)), (aCs, .inl (cCs, 4608, .inl cs)), (aFr, .inl (cFr, 4608, .inl v_1.1)), (aRo, .inl (cRo, 4608, .inl ro)), (aNe, .inl (cNe, 576, .inl v_1.2))]) (va_runV (As := []) (rest := []) ⟨hx, hb, hml, hown, hts⟩ (c_X5_findFree l D aM aMf aNm aBe aFa aCs aFr aRo aNe cMf cNm cBe cFa cCs cFr cRo cNe cod w ht fou ln wd rd kp car hom gol hld err isw mvs mde exa lst mf nm be fa cs fr ro ne tX tY s.heap.size F v_1 hv_1) (cwV 0 hts gX5_findCosts_X5_findFree rfl rfl rfl (by decide +kernel) ⟨Nat.le_of_ble_eq_true rfl, Nat.le_of_ble_eq_true rfl⟩) (preWV [] hP hD hK hS hA hST [0, 1, 2, 3, 4, 5, 6, 7, 8] rfl rfl rfl [0, 1, 2, 3, 4, 5, 6, 7] rfl (ci := 6) (q0 := 0) rfl rfl) rfl rfl hl.1 rfl (lv_room (Nat.le_of_ble_eq_true rfl)) dX5_findCosts_1 ⟨Nat.zero_le _, Nat.zero_le _⟩) hP hD hS hA [0, 1, 2, 3, 4, 5, 6, 7, 8] [] rfl rfl rfl (by decide) [0, 1, 2, 3, 4, 5, 6, 7, 8] rfl rfl rfl (fun H locs hP hD hS => ?_)
  refine lv_iconst (v := 0) hx hb dX5_findCosts_4 (by decide) ?_
  refine lv_istore_n (lv' := [(1, .int (0 : Int32)), (0, .ref aM)]) hx hb dX5_findCosts_5 rfl hl (by decide) rfl (fun ls hl => ?_)
  refine L_6 cs v_1.1 ro v_1.2 _ ?_ F H locs (0 : Int32) fa ls hJ hP hD hS (lv_sub hl [1, 0] rfl)
  · intro H locs x1_10 xfa_11 ls hJ hP hD hS hl
    refine lv_aload_n hx hb dX5_findCosts_27 rfl (lv_at hl 0 rfl) ?_
    refine va_get (D := D) (ci := 6) (v := .ref aFr) (C := RX5) (T := TX5) (N := 26) hx hb hts iX5 hown hK hP 0 rfl rfl 23 (by decide) k_3 (fun _ h9 => h9) rfl dX5_findCosts_28 ?_
    refine lv_aload_n hx hb dX5_findCosts_31 rfl (lv_at hl 0 rfl) ?_
    refine va_get (D := D) (ci := 6) (v := .int gol) (C := RX5) (T := TX5) (N := 26) hx hb hts iX5 hown hK hP 0 rfl rfl 11 (by decide) k_4 (fun _ h9 => h9) rfl dX5_findCosts_32 ?_
    obtain ⟨h_12, hJ⟩ := g_in hJ
    refine va_zald hx hb hK hP 6 5 rfl rfl h_12 dX5_findCosts_35 ?_
    refine lv_if_ne (tgt := 40) hx hb dX5_findCosts_36 (by decide) (fun c_13 => ?_) (fun c_13 => ?_)
    · have hJ := j_f c_13 hJ
      refine lv_aload_n hx hb dX5_findCosts_40 rfl (lv_at hl 0 rfl) ?_
      refine va_get (D := D) (ci := 6) (v := .ref aFa) (C := RX5) (T := TX5) (N := 26) hx hb hts iX5 hown hK hP 0 rfl rfl 21 (by decide) k_1 (fun _ h9 => h9) rfl dX5_findCosts_41 ?_
      refine lv_aload_n hx hb dX5_findCosts_44 rfl (lv_at hl 0 rfl) ?_
      refine va_get (D := D) (ci := 6) (v := .int gol) (C := RX5) (T := TX5) (N := 26) hx hb hts iX5 hown hK hP 0 rfl rfl 11 (by decide) k_4 (fun _ h9 => h9) rfl dX5_findCosts_45 ?_
      refine lv_iconst (v := 0) hx hb dX5_findCosts_48 (by decide) ?_
      obtain ⟨h_14, hJ⟩ := g_in hJ
      refine va_iast hx hb hK hP hD hS 4 3 rfl rfl h_14 dX5_findCosts_49 (fun H locs hP hD hS => ?_)
      have hP : va_P D vwCl [(aM, .inr (6, [.int cod, .int w, .int ht, .int fou, .ref aMf, .int ln, .int wd, .int rd, .int kp, .int car, .int hom, .int gol, .int hld, .double err, .int isw, .int mvs, .int mde, .ref aNm, .ref aBe, .int exa, .long lst, .ref aFa, .ref aCs, .ref aFr, .ref aRo, .ref aNe])), (aMf, .inl (cMf, 576, .inl mf)), (aNm, .inl (cNm, 4608, .inl nm)), (aBe, .inl (cBe, 4608, .inl be)), (aFa, .inl (cFa, 4608, .inl (upd xfa_11 gol.toNatClampNeg (0 : Int32)))), (aCs, .inl (cCs, 4608, .inl cs)), (aFr, .inl (cFr, 4608, .inl v_1.1)), (aRo, .inl (cRo, 4608, .inl ro)), (aNe, .inl (cNe, 576, .inl v_1.2))] H := hP
      have hD : va_D A [(aM, .inr (6, [.int cod, .int w, .int ht, .int fou, .ref aMf, .int ln, .int wd, .int rd, .int kp, .int car, .int hom, .int gol, .int hld, .double err, .int isw, .int mvs, .int mde, .ref aNm, .ref aBe, .int exa, .long lst, .ref aFa, .ref aCs, .ref aFr, .ref aRo, .ref aNe])), (aMf, .inl (cMf, 576, .inl mf)), (aNm, .inl (cNm, 4608, .inl nm)), (aBe, .inl (cBe, 4608, .inl be)), (aFa, .inl (cFa, 4608, .inl (upd xfa_11 gol.toNatClampNeg (0 : Int32)))), (aCs, .inl (cCs, 4608, .inl cs)), (aFr, .inl (cFr, 4608, .inl v_1.1)), (aRo, .inl (cRo, 4608, .inl ro)), (aNe, .inl (cNe, 576, .inl v_1.2))] := hD
      refine lv_aload_n hx hb dX5_findCosts_50 rfl (lv_at hl 0 rfl) ?_
      refine va_get (D := D) (ci := 6) (v := .ref aCs) (C := RX5) (T := TX5) (N := 26) hx hb hts iX5 hown hK hP 0 rfl rfl 22 (by decide) k_5 (fun _ h9 => h9) rfl dX5_findCosts_51 ?_
      refine lv_aload_n hx hb dX5_findCosts_54 rfl (lv_at hl 0 rfl) ?_
      refine va_get (D := D) (ci := 6) (v := .int gol) (C := RX5) (T := TX5) (N := 26) hx hb hts iX5 hown hK hP 0 rfl rfl 11 (by decide) k_4 (fun _ h9 => h9) rfl dX5_findCosts_55 ?_
      refine lv_iconst (v := 0) hx hb dX5_findCosts_58 (by decide) ?_
      obtain ⟨h_15, hJ⟩ := g_in hJ
      refine va_iast hx hb hK hP hD hS 5 4 rfl rfl h_15 dX5_findCosts_59 (fun H locs hP hD hS => ?_)
      have hP : va_P D vwCl [(aM, .inr (6, [.int cod, .int w, .int ht, .int fou, .ref aMf, .int ln, .int wd, .int rd, .int kp, .int car, .int hom, .int gol, .int hld, .double err, .int isw, .int mvs, .int mde, .ref aNm, .ref aBe, .int exa, .long lst, .ref aFa, .ref aCs, .ref aFr, .ref aRo, .ref aNe])), (aMf, .inl (cMf, 576, .inl mf)), (aNm, .inl (cNm, 4608, .inl nm)), (aBe, .inl (cBe, 4608, .inl be)), (aFa, .inl (cFa, 4608, .inl (upd xfa_11 gol.toNatClampNeg (0 : Int32)))), (aCs, .inl (cCs, 4608, .inl (upd cs gol.toNatClampNeg (0 : Int32)))), (aFr, .inl (cFr, 4608, .inl v_1.1)), (aRo, .inl (cRo, 4608, .inl ro)), (aNe, .inl (cNe, 576, .inl v_1.2))] H := hP
      have hD : va_D A [(aM, .inr (6, [.int cod, .int w, .int ht, .int fou, .ref aMf, .int ln, .int wd, .int rd, .int kp, .int car, .int hom, .int gol, .int hld, .double err, .int isw, .int mvs, .int mde, .ref aNm, .ref aBe, .int exa, .long lst, .ref aFa, .ref aCs, .ref aFr, .ref aRo, .ref aNe])), (aMf, .inl (cMf, 576, .inl mf)), (aNm, .inl (cNm, 4608, .inl nm)), (aBe, .inl (cBe, 4608, .inl be)), (aFa, .inl (cFa, 4608, .inl (upd xfa_11 gol.toNatClampNeg (0 : Int32)))), (aCs, .inl (cCs, 4608, .inl (upd cs gol.toNatClampNeg (0 : Int32)))), (aFr, .inl (cFr, 4608, .inl v_1.1)), (aRo, .inl (cRo, 4608, .inl ro)), (aNe, .inl (cNe, 576, .inl v_1.2))] := hD
      refine lv_iconst (v := 1) hx hb dX5_findCosts_60 (by decide) ?_
      refine lv_istore_n (lv' := [(1, .int (1 : Int32)), (0, .ref aM)]) hx hb dX5_findCosts_61 rfl hl (by decide) rfl (fun ls hl => ?_)
      refine lv_aload_n hx hb dX5_findCosts_62 rfl (lv_at hl 1 rfl) ?_
      refine va_get (D := D) (ci := 6) (v := .ref aRo) (C := RX5) (T := TX5) (N := 26) hx hb hts iX5 hown hK hP 0 rfl rfl 24 (by decide) k_6 (fun _ h9 => h9) rfl dX5_findCosts_63 ?_
      refine lv_iconst (v := 0) hx hb dX5_findCosts_66 (by decide) ?_
      refine lv_aload_n hx hb dX5_findCosts_67 rfl (lv_at hl 1 rfl) ?_
      refine va_get (D := D) (ci := 6) (v := .int gol) (C := RX5) (T := TX5) (N := 26) hx hb hts iX5 hown hK hP 0 rfl rfl 11 (by decide) k_4 (fun _ h9 => h9) rfl dX5_findCosts_68 ?_
      obtain ⟨h_16, hJ⟩ := g_in hJ
      refine va_iast hx hb hK hP hD hS 7 6 rfl rfl h_16 dX5_findCosts_71 (fun H locs hP hD hS => ?_)
      have hP : va_P D vwCl [(aM, .inr (6, [.int cod, .int w, .int ht, .int fou, .ref aMf, .int ln, .int wd, .int rd, .int kp, .int car, .int hom, .int gol, .int hld, .double err, .int isw, .int mvs, .int mde, .ref aNm, .ref aBe, .int exa, .long lst, .ref aFa, .ref aCs, .ref aFr, .ref aRo, .ref aNe])), (aMf, .inl (cMf, 576, .inl mf)), (aNm, .inl (cNm, 4608, .inl nm)), (aBe, .inl (cBe, 4608, .inl be)), (aFa, .inl (cFa, 4608, .inl (upd xfa_11 gol.toNatClampNeg (0 : Int32)))), (aCs, .inl (cCs, 4608, .inl (upd cs gol.toNatClampNeg (0 : Int32)))), (aFr, .inl (cFr, 4608, .inl v_1.1)), (aRo, .inl (cRo, 4608, .inl (upd ro (0 : Int32).toNatClampNeg gol))), (aNe, .inl (cNe, 576, .inl v_1.2))] H := hP
      have hD : va_D A [(aM, .inr (6, [.int cod, .int w, .int ht, .int fou, .ref aMf, .int ln, .int wd, .int rd, .int kp, .int car, .int hom, .int gol, .int hld, .double err, .int isw, .int mvs, .int mde, .ref aNm, .ref aBe, .int exa, .long lst, .ref aFa, .ref aCs, .ref aFr, .ref aRo, .ref aNe])), (aMf, .inl (cMf, 576, .inl mf)), (aNm, .inl (cNm, 4608, .inl nm)), (aBe, .inl (cBe, 4608, .inl be)), (aFa, .inl (cFa, 4608, .inl (upd xfa_11 gol.toNatClampNeg (0 : Int32)))), (aCs, .inl (cCs, 4608, .inl (upd cs gol.toNatClampNeg (0 : Int32)))), (aFr, .inl (cFr, 4608, .inl v_1.1)), (aRo, .inl (cRo, 4608, .inl (upd ro (0 : Int32).toNatClampNeg gol))), (aNe, .inl (cNe, 576, .inl v_1.2))] := hD
      refine lv_iconst (v := 0) hx hb dX5_findCosts_72 (by decide) ?_
      refine lv_istore_n (lv' := [(2, .int (0 : Int32)), (1, .int (1 : Int32)), (0, .ref aM)]) hx hb dX5_findCosts_73 rfl hl (by decide) rfl (fun ls hl => ?_)
      refine L_74 v_1.1 v_1.2 _ ?_ F H locs (1 : Int32) (0 : Int32) (upd xfa_11 gol.toNatClampNeg (0 : Int32)) (upd cs gol.toNatClampNeg (0 : Int32)) (upd ro (0 : Int32).toNatClampNeg gol) ls hJ hP hD hS (lv_sub hl [2, 1, 0] rfl)
      · intro H locs x1_92 x2_93 xfa_94 xcs_95 xro_96 ls hJ hP hD hS hl
        have ho := Option.some.inj hJ
        exact W.vret hx hb hr (fun t ht hW => ⟨⟨(), rfl, trivial, (by rw [ht, ← ho]; exact hP), (by rw [← ho]; exact hD)⟩, hS.F ht⟩) hS.2.2 dX5_findCosts_250
    · have hJ := j_t c_13 hJ
      have ho := Option.some.inj hJ
      exact W.vret hx hb hr (fun t ht hW => ⟨⟨(), rfl, trivial, (by rw [ht, ← ho]; exact hP), (by rw [← ho]; exact hD)⟩, hS.F ht⟩) hS.2.2 dX5_findCosts_39
set_option maxHeartbeats 4000000 in
set_option maxRecDepth 100000 in
theorem c_X5_before (l : Launch) (D : va_G) (aM aMf aNm aBe aFa aCs aFr aRo aNe : Nat) (cMf cNm cBe cFa cCs cFr cRo cNe : ClassId) (cod : Int32) (w : Int32) (ht : Int32) (fou : Int32) (ln : Int32) (wd : Int32) (rd : Int32) (kp : Int32) (car : Int32) (hom : Int32) (gol : Int32) (hld : Int32) (err : UInt64) (isw : Int32) (mvs : Int32) (mde : Int32) (exa : Int32) (lst : Int64) (mf : Nat → Int32) (nm : Nat → Int32) (be : Nat → Int32) (fa : Nat → Int32) (cs : Nat → Int32) (fr : Nat → Int32) (ro : Nat → Int32) (ne : Nat → Int32) (p0 : Int32) (tX tY sz F : Nat) (o : Int32) (hJ : J_X5_before F fa cs p0 = some o) : Met l yX5_before wsX5_before rmX5_before (va_Pc [.ref aM, .int p0] (pcR D [(aM, .inr (6, [.int cod, .int w, .int ht, .int fou, .ref aMf, .int ln, .int wd, .int rd, .int kp, .int car, .int hom, .int gol, .int hld, .double err, .int isw, .int mvs, .int mde, .ref aNm, .ref aBe, .int exa, .long lst, .ref aFa, .ref aCs, .ref aFr, .ref aRo, .ref aNe])), (aMf, .inl (cMf, 576, .inl mf)), (aNm, .inl (cNm, 4608, .inl nm)), (aBe, .inl (cBe, 4608, .inl be)), (aFa, .inl (cFa, 4608, .inl fa)), (aCs, .inl (cCs, 4608, .inl cs)), (aFr, .inl (cFr, 4608, .inl fr)), (aRo, .inl (cRo, 4608, .inl ro)), (aNe, .inl (cNe, 576, .inl ne))] [(cMf, .boolean), (cNm, .int), (cBe, .int), (cFa, .int), (cCs, .int), (cFr, .boolean), (cRo, .int), (cNe, .int)] sz tX tY)) (qRi o (va_A [] sz)) 0 0 (va_A [] sz) := by
  refine Met.ofW (cc := cX5_before) (maxL := 5) (ret := (some .int)) (by decide) rfl ?_
  intro p e s m args below meth c s₁ B hml hv
  obtain ⟨rfl, hsz, hP, hK, hST⟩ := hv
  have hx := B.exec
  have hb := B.bytes
  have hr := B.returns
  have hts := atoms_spec (ws := wsX5_before) B.pre
  have hown : s.vm.findClass RX5 = some m.cls := findClass_of_methodNamed B.named
  have hlocks := B.notSynchronized
  subst hsz
  generalize hAe : va_A [] s.heap.size = A at hST ⊢
  have hA : ∀ q : Nat, s.heap.size ≤ q → A q := fun q h => by rw [← hAe]; exact Or.inr h
  have hS : va_S A s.heap s.heap [] := va_S.rf
  have hl := lv_entry ([.ref aM, .int p0]) (n := 5) (Nat.le_of_ble_eq_true rfl)
  rw [lg_entry_eq]
  generalize (lg_sl ([.ref aM, .int p0]) ++ List.replicate (5 - (lg_sl ([.ref aM, .int p0])).length) Slot.unset).toArray = ls at hl ⊢
  have hl : lv_has ls 5 [(0, .ref aM), (1, .int p0)] := hl
  have iX5 : ∀ w ∈ wsX50, w ∈ wsX5_before := fun w h => List.mem_cons_of_mem _ (List.mem_append_right _ h)
  have k_1 := hts (.fieldLink RX5 34 "ParkWaysModel" "far" "[I") (List.mem_of_getElem? (i := 1) rfl)
  have k_2 := hts (.constant RX5 108 (1000000000)) (List.mem_of_getElem? (i := 2) rfl)
  have k_3 := hts (.fieldLink RX5 37 "ParkWaysModel" "cost" "[I") (List.mem_of_getElem? (i := 3) rfl)
  have L_4 : ∀ (y1_1 : Int32) (kk_121 : Int32 → Int32 → Option (Int32)) (hkk_121 : ∀ (H : Heap) (locs : List Loc) (x2_2 : Int32) (x3_3 : Int32) (ls : Array Slot), kk_121 x2_2 x3_3 = some o → va_P D vwCl [(aM, .inr (6, [.int cod, .int w, .int ht, .int fou, .ref aMf, .int ln, .int wd, .int rd, .int kp, .int car, .int hom, .int gol, .int hld, .double err, .int isw, .int mvs, .int mde, .ref aNm, .ref aBe, .int exa, .long lst, .ref aFa, .ref aCs, .ref aFr, .ref aRo, .ref aNe])), (aMf, .inl (cMf, 576, .inl mf)), (aNm, .inl (cNm, 4608, .inl nm)), (aBe, .inl (cBe, 4608, .inl be)), (aFa, .inl (cFa, 4608, .inl fa)), (aCs, .inl (cCs, 4608, .inl cs)), (aFr, .inl (cFr, 4608, .inl fr)), (aRo, .inl (cRo, 4608, .inl ro)), (aNe, .inl (cNe, 576, .inl ne))] H → va_S A s.heap H locs → lv_has ls 5 [(2, .int x2_2)] → W p l e (headSpec wsX5_before rmX5_before).room s m [.ref aM, .int p0].toArray below meth c H locs 0 0 (MQ below (qRi o A) [.ref aM, .int p0].toArray s 0 0 A) (F0 m 121 ls [])) (fz : Nat) (H : Heap) (locs : List Loc) (x2_2 : Int32) (x3_3 : Int32) (ls : Array Slot), J_X5_before_L4 F fa cs y1_1 kk_121 fz x2_2 x3_3 = some o → va_P D vwCl [(aM, .inr (6, [.int cod, .int w, .int ht, .int fou, .ref aMf, .int ln, .int wd, .int rd, .int kp, .int car, .int hom, .int gol, .int hld, .double err, .int isw, .int mvs, .int mde, .ref aNm, .ref aBe, .int exa, .long lst, .ref aFa, .ref aCs, .ref aFr, .ref aRo, .ref aNe])), (aMf, .inl (cMf, 576, .inl mf)), (aNm, .inl (cNm, 4608, .inl nm)), (aBe, .inl (cBe, 4608, .inl be)), (aFa, .inl (cFa, 4608, .inl fa)), (aCs, .inl (cCs, 4608, .inl cs)), (aFr, .inl (cFr, 4608, .inl fr)), (aRo, .inl (cRo, 4608, .inl ro)), (aNe, .inl (cNe, 576, .inl ne))] H → va_S A s.heap H locs → lv_has ls 5 [(0, .ref aM), (1, .int y1_1), (2, .int x2_2), (3, .int x3_3)] → W p l e (headSpec wsX5_before rmX5_before).room s m [.ref aM, .int p0].toArray below meth c H locs 0 0 (MQ below (qRi o A) [.ref aM, .int p0].toArray s 0 0 A) (F0 m 4 ls []) := by
    intro y1_1 kk_121 hkk_121 fz
    induction fz with
    | zero =>
      intro H locs x2_2 x3_3 ls hJ
      rw [J_X5_before_L4] at hJ
      cases hJ
    | succ fz ih =>
      intro H locs x2_2 x3_3 ls hJ hP hS hl
      rw [J_X5_before_L4] at hJ
      refine lv_iload_n hx hb dX5_before_4 rfl (lv_at hl 3 rfl) ?_
      refine lv_sipush (v := 4608) hx hb dX5_before_5 (by decide) ?_
      refine lv_icmp_ge (tgt := 121) hx hb dX5_before_8 (by decide) (fun c_4 => ?_) (fun c_4 => ?_)
      · have hJ := j_t c_4 hJ
        exact hkk_121 H locs x2_2 x3_3 ls hJ hP hS (lv_sub hl [2] rfl)
      · have hJ := j_f c_4 hJ
        refine lv_aload_n hx hb dX5_before_11 rfl (lv_at hl 0 rfl) ?_
        refine va_get (D := D) (ci := 6) (v := .ref aFa) (C := RX5) (T := TX5) (N := 26) hx hb hts iX5 hown hK hP 0 rfl rfl 21 (by decide) k_1 (fun _ h9 => h9) rfl dX5_before_12 ?_
        refine lv_iload_n hx hb dX5_before_15 rfl (lv_at hl 3 rfl) ?_
        obtain ⟨h_5, hJ⟩ := g_in hJ
        refine va_iald hx hb hK hP 4 3 rfl rfl h_5 dX5_before_16 ?_
        refine lv_ldc (v := 1000000000) hx hb hown k_2 dX5_before_17 ?_
        refine lv_icmp_eq (tgt := 115) hx hb dX5_before_19 (by decide) (fun c_6 => ?_) (fun c_6 => ?_)
        · have hJ := j_t c_6 hJ
          refine lv_iinc (v := (x3_3 + (1 : Int32))) (lv' := [(3, .int (x3_3 + (1 : Int32))), (0, .ref aM), (1, .int y1_1), (2, .int x2_2)]) hx hb dX5_before_115 hl (k := 3) rfl rfl (by decide) rfl (fun ls hl => ?_)
          refine lv_goto (tgt := 4) hx hb dX5_before_118 (by decide) ?_
          exact ih H locs x2_2 (x3_3 + (1 : Int32)) ls hJ hP hS (lv_sub hl [1, 2, 3, 0] rfl)
        · have hJ := j_f c_6 hJ
          refine lv_iload_n hx hb dX5_before_22 rfl (lv_at hl 3 rfl) ?_
          refine lv_iload_n hx hb dX5_before_23 rfl (lv_at hl 1 rfl) ?_
          refine lv_icmp_ne (tgt := 30) hx hb dX5_before_24 (by decide) (fun c_7 => ?_) (fun c_7 => ?_)
          · have hJ := j_f c_7 hJ
            refine lv_aload_n hx hb dX5_before_30 rfl (lv_at hl 0 rfl) ?_
            refine va_get (D := D) (ci := 6) (v := .ref aFa) (C := RX5) (T := TX5) (N := 26) hx hb hts iX5 hown hK hP 0 rfl rfl 21 (by decide) k_1 (fun _ h9 => h9) rfl dX5_before_31 ?_
            refine lv_iload_n hx hb dX5_before_34 rfl (lv_at hl 3 rfl) ?_
            obtain ⟨h_8, hJ⟩ := g_in hJ
            refine va_iald hx hb hK hP 4 3 rfl rfl h_8 dX5_before_35 ?_
            refine lv_aload_n hx hb dX5_before_36 rfl (lv_at hl 0 rfl) ?_
            refine va_get (D := D) (ci := 6) (v := .ref aFa) (C := RX5) (T := TX5) (N := 26) hx hb hts iX5 hown hK hP 0 rfl rfl 21 (by decide) k_1 (fun _ h9 => h9) rfl dX5_before_37 ?_
            refine lv_iload_n hx hb dX5_before_40 rfl (lv_at hl 1 rfl) ?_
            obtain ⟨h_9, hJ⟩ := g_in hJ
            refine va_iald hx hb hK hP 4 3 rfl rfl h_9 dX5_before_41 ?_
            refine lv_icmp_lt (tgt := 95) hx hb dX5_before_42 (by decide) (fun c_10 => ?_) (fun c_10 => ?_)
            · have hJ := j_t c_10 hJ
              refine lv_iconst (v := 1) hx hb dX5_before_95 (by decide) ?_
              refine lv_goto (tgt := 100) hx hb dX5_before_96 (by decide) ?_
              refine lv_istore (lv' := [(4, .int (1 : Int32)), (0, .ref aM), (1, .int y1_1), (2, .int x2_2), (3, .int x3_3)]) hx hb dX5_before_100 hl (by decide) rfl (fun ls hl => ?_)
              refine lv_iload hx hb dX5_before_102 (lv_at hl 0 rfl) ?_
              refine lv_if_eq (tgt := 113) hx hb dX5_before_104 (by decide) (fun c_11 => absurd c_11 (by decide)) (fun c_11 => ?_)
              refine lv_iload_n hx hb dX5_before_107 rfl (lv_at hl 3 rfl) ?_
              refine lv_iconst (v := 1) hx hb dX5_before_108 (by decide) ?_
              refine lv_iadd hx hb dX5_before_109 ?_
              refine lv_goto (tgt := 114) hx hb dX5_before_110 (by decide) ?_
              refine lv_istore_n (lv' := [(2, .int (x2_2 + (1 : Int32))), (4, .int (1 : Int32)), (0, .ref aM), (1, .int y1_1), (3, .int x3_3)]) hx hb dX5_before_114 rfl hl (by decide) rfl (fun ls hl => ?_)
              refine lv_iinc (v := (x3_3 + (1 : Int32))) (lv' := [(3, .int (x3_3 + (1 : Int32))), (2, .int (x2_2 + (1 : Int32))), (4, .int (1 : Int32)), (0, .ref aM), (1, .int y1_1)]) hx hb dX5_before_115 hl (k := 4) rfl rfl (by decide) rfl (fun ls hl => ?_)
              refine lv_goto (tgt := 4) hx hb dX5_before_118 (by decide) ?_
              exact ih H locs (x2_2 + (1 : Int32)) (x3_3 + (1 : Int32)) ls hJ hP hS (lv_sub hl [3, 4, 1, 0] rfl)
            · have hJ := j_f c_10 hJ
              refine lv_aload_n hx hb dX5_before_45 rfl (lv_at hl 0 rfl) ?_
              refine va_get (D := D) (ci := 6) (v := .ref aFa) (C := RX5) (T := TX5) (N := 26) hx hb hts iX5 hown hK hP 0 rfl rfl 21 (by decide) k_1 (fun _ h9 => h9) rfl dX5_before_46 ?_
              refine lv_iload_n hx hb dX5_before_49 rfl (lv_at hl 3 rfl) ?_
              obtain ⟨h_12, hJ⟩ := g_in hJ
              refine va_iald hx hb hK hP 4 3 rfl rfl h_12 dX5_before_50 ?_
              refine lv_aload_n hx hb dX5_before_51 rfl (lv_at hl 0 rfl) ?_
              refine va_get (D := D) (ci := 6) (v := .ref aFa) (C := RX5) (T := TX5) (N := 26) hx hb hts iX5 hown hK hP 0 rfl rfl 21 (by decide) k_1 (fun _ h9 => h9) rfl dX5_before_52 ?_
              refine lv_iload_n hx hb dX5_before_55 rfl (lv_at hl 1 rfl) ?_
              obtain ⟨h_13, hJ⟩ := g_in hJ
              refine va_iald hx hb hK hP 4 3 rfl rfl h_13 dX5_before_56 ?_
              refine lv_icmp_ne (tgt := 99) hx hb dX5_before_57 (by decide) (fun c_14 => ?_) (fun c_14 => ?_)
              · have hJ := j_f c_14 hJ
                refine lv_iconst (v := 0) hx hb dX5_before_99 (by decide) ?_
                refine lv_istore (lv' := [(4, .int (0 : Int32)), (0, .ref aM), (1, .int y1_1), (2, .int x2_2), (3, .int x3_3)]) hx hb dX5_before_100 hl (by decide) rfl (fun ls hl => ?_)
                refine lv_iload hx hb dX5_before_102 (lv_at hl 0 rfl) ?_
                refine lv_if_eq (tgt := 113) hx hb dX5_before_104 (by decide) (fun c_15 => ?_) (fun c_15 => absurd (by decide) c_15)
                refine lv_iload_n hx hb dX5_before_113 rfl (lv_at hl 3 rfl) ?_
                refine lv_istore_n (lv' := [(2, .int x2_2), (4, .int (0 : Int32)), (0, .ref aM), (1, .int y1_1), (3, .int x3_3)]) hx hb dX5_before_114 rfl hl (by decide) rfl (fun ls hl => ?_)
                refine lv_iinc (v := (x3_3 + (1 : Int32))) (lv' := [(3, .int (x3_3 + (1 : Int32))), (2, .int x2_2), (4, .int (0 : Int32)), (0, .ref aM), (1, .int y1_1)]) hx hb dX5_before_115 hl (k := 4) rfl rfl (by decide) rfl (fun ls hl => ?_)
                refine lv_goto (tgt := 4) hx hb dX5_before_118 (by decide) ?_
                exact ih H locs x2_2 (x3_3 + (1 : Int32)) ls hJ hP hS (lv_sub hl [3, 4, 1, 0] rfl)
              · have hJ := j_t c_14 hJ
                refine lv_aload_n hx hb dX5_before_60 rfl (lv_at hl 0 rfl) ?_
                refine va_get (D := D) (ci := 6) (v := .ref aCs) (C := RX5) (T := TX5) (N := 26) hx hb hts iX5 hown hK hP 0 rfl rfl 22 (by decide) k_3 (fun _ h9 => h9) rfl dX5_before_61 ?_
                refine lv_iload_n hx hb dX5_before_64 rfl (lv_at hl 3 rfl) ?_
                obtain ⟨h_16, hJ⟩ := g_in hJ
                refine va_iald hx hb hK hP 5 4 rfl rfl h_16 dX5_before_65 ?_
                refine lv_aload_n hx hb dX5_before_66 rfl (lv_at hl 0 rfl) ?_
                refine va_get (D := D) (ci := 6) (v := .ref aCs) (C := RX5) (T := TX5) (N := 26) hx hb hts iX5 hown hK hP 0 rfl rfl 22 (by decide) k_3 (fun _ h9 => h9) rfl dX5_before_67 ?_
                refine lv_iload_n hx hb dX5_before_70 rfl (lv_at hl 1 rfl) ?_
                obtain ⟨h_17, hJ⟩ := g_in hJ
                refine va_iald hx hb hK hP 5 4 rfl rfl h_17 dX5_before_71 ?_
                refine lv_icmp_lt (tgt := 95) hx hb dX5_before_72 (by decide) (fun c_18 => ?_) (fun c_18 => ?_)
                · have hJ := j_t c_18 hJ
                  refine lv_iconst (v := 1) hx hb dX5_before_95 (by decide) ?_
                  refine lv_goto (tgt := 100) hx hb dX5_before_96 (by decide) ?_
                  refine lv_istore (lv' := [(4, .int (1 : Int32)), (0, .ref aM), (1, .int y1_1), (2, .int x2_2), (3, .int x3_3)]) hx hb dX5_before_100 hl (by decide) rfl (fun ls hl => ?_)
                  refine lv_iload hx hb dX5_before_102 (lv_at hl 0 rfl) ?_
                  refine lv_if_eq (tgt := 113) hx hb dX5_before_104 (by decide) (fun c_19 => absurd c_19 (by decide)) (fun c_19 => ?_)
                  refine lv_iload_n hx hb dX5_before_107 rfl (lv_at hl 3 rfl) ?_
                  refine lv_iconst (v := 1) hx hb dX5_before_108 (by decide) ?_
                  refine lv_iadd hx hb dX5_before_109 ?_
                  refine lv_goto (tgt := 114) hx hb dX5_before_110 (by decide) ?_
                  refine lv_istore_n (lv' := [(2, .int (x2_2 + (1 : Int32))), (4, .int (1 : Int32)), (0, .ref aM), (1, .int y1_1), (3, .int x3_3)]) hx hb dX5_before_114 rfl hl (by decide) rfl (fun ls hl => ?_)
                  refine lv_iinc (v := (x3_3 + (1 : Int32))) (lv' := [(3, .int (x3_3 + (1 : Int32))), (2, .int (x2_2 + (1 : Int32))), (4, .int (1 : Int32)), (0, .ref aM), (1, .int y1_1)]) hx hb dX5_before_115 hl (k := 4) rfl rfl (by decide) rfl (fun ls hl => ?_)
                  refine lv_goto (tgt := 4) hx hb dX5_before_118 (by decide) ?_
                  exact ih H locs (x2_2 + (1 : Int32)) (x3_3 + (1 : Int32)) ls hJ hP hS (lv_sub hl [3, 4, 1, 0] rfl)
                · have hJ := j_f c_18 hJ
                  refine lv_aload_n hx hb dX5_before_75 rfl (lv_at hl 0 rfl) ?_
                  refine va_get (D := D) (ci := 6) (v := .ref aCs) (C := RX5) (T := TX5) (N := 26) hx hb hts iX5 hown hK hP 0 rfl rfl 22 (by decide) k_3 (fun _ h9 => h9) rfl dX5_before_76 ?_
                  refine lv_iload_n hx hb dX5_before_79 rfl (lv_at hl 3 rfl) ?_
                  obtain ⟨h_20, hJ⟩ := g_in hJ
                  refine va_iald hx hb hK hP 5 4 rfl rfl h_20 dX5_before_80 ?_
                  refine lv_aload_n hx hb dX5_before_81 rfl (lv_at hl 0 rfl) ?_
                  refine va_get (D := D) (ci := 6) (v := .ref aCs) (C := RX5) (T := TX5) (N := 26) hx hb hts iX5 hown hK hP 0 rfl rfl 22 (by decide) k_3 (fun _ h9 => h9) rfl dX5_before_82 ?_
                  refine lv_iload_n hx hb dX5_before_85 rfl (lv_at hl 1 rfl) ?_
                  obtain ⟨h_21, hJ⟩ := g_in hJ
                  refine va_iald hx hb hK hP 5 4 rfl rfl h_21 dX5_before_86 ?_
                  refine lv_icmp_ne (tgt := 99) hx hb dX5_before_87 (by decide) (fun c_22 => ?_) (fun c_22 => ?_)
                  · have hJ := j_f c_22 hJ
                    refine lv_iconst (v := 0) hx hb dX5_before_99 (by decide) ?_
                    refine lv_istore (lv' := [(4, .int (0 : Int32)), (0, .ref aM), (1, .int y1_1), (2, .int x2_2), (3, .int x3_3)]) hx hb dX5_before_100 hl (by decide) rfl (fun ls hl => ?_)
                    refine lv_iload hx hb dX5_before_102 (lv_at hl 0 rfl) ?_
                    refine lv_if_eq (tgt := 113) hx hb dX5_before_104 (by decide) (fun c_23 => ?_) (fun c_23 => absurd (by decide) c_23)
                    refine lv_iload_n hx hb dX5_before_113 rfl (lv_at hl 3 rfl) ?_
                    refine lv_istore_n (lv' := [(2, .int x2_2), (4, .int (0 : Int32)), (0, .ref aM), (1, .int y1_1), (3, .int x3_3)]) hx hb dX5_before_114 rfl hl (by decide) rfl (fun ls hl => ?_)
                    refine lv_iinc (v := (x3_3 + (1 : Int32))) (lv' := [(3, .int (x3_3 + (1 : Int32))), (2, .int x2_2), (4, .int (0 : Int32)), (0, .ref aM), (1, .int y1_1)]) hx hb dX5_before_115 hl (k := 4) rfl rfl (by decide) rfl (fun ls hl => ?_)
                    refine lv_goto (tgt := 4) hx hb dX5_before_118 (by decide) ?_
                    exact ih H locs x2_2 (x3_3 + (1 : Int32)) ls hJ hP hS (lv_sub hl [3, 4, 1, 0] rfl)
                  · have hJ := j_t c_22 hJ
                    refine lv_iload_n hx hb dX5_before_90 rfl (lv_at hl 3 rfl) ?_
                    refine lv_iload_n hx hb dX5_before_91 rfl (lv_at hl 1 rfl) ?_
                    refine lv_icmp_ge (tgt := 99) hx hb dX5_before_92 (by decide) (fun c_24 => ?_) (fun c_24 => ?_)
                    · have hJ := j_t c_24 hJ
                      refine lv_iconst (v := 0) hx hb dX5_before_99 (by decide) ?_
                      refine lv_istore (lv' := [(4, .int (0 : Int32)), (0, .ref aM), (1, .int y1_1), (2, .int x2_2), (3, .int x3_3)]) hx hb dX5_before_100 hl (by decide) rfl (fun ls hl => ?_)
                      refine lv_iload hx hb dX5_before_102 (lv_at hl 0 rfl) ?_
                      refine lv_if_eq (tgt := 113) hx hb dX5_before_104 (by decide) (fun c_25 => ?_) (fun c_25 => absurd (by decide) c_25)
                      refine lv_iload_n hx hb dX5_before_113 rfl (lv_at hl 3 rfl) ?_
                      refine lv_istore_n (lv' := [(2, .int x2_2), (4, .int (0 : Int32)), (0, .ref aM), (1, .int y1_1), (3, .int x3_3)]) hx hb dX5_before_114 rfl hl (by decide) rfl (fun ls hl => ?_)
                      refine lv_iinc (v := (x3_3 + (1 : Int32))) (lv' := [(3, .int (x3_3 + (1 : Int32))), (2, .int x2_2), (4, .int (0 : Int32)), (0, .ref aM), (1, .int y1_1)]) hx hb dX5_before_115 hl (k := 4) rfl rfl (by decide) rfl (fun ls hl => ?_)
                      refine lv_goto (tgt := 4) hx hb dX5_before_118 (by decide) ?_
                      exact ih H locs x2_2 (x3_3 + (1 : Int32)) ls hJ hP hS (lv_sub hl [3, 4, 1, 0] rfl)
                    · have hJ := j_f c_24 hJ
                      refine lv_iconst (v := 1) hx hb dX5_before_95 (by decide) ?_
                      refine lv_goto (tgt := 100) hx hb dX5_before_96 (by decide) ?_
                      refine lv_istore (lv' := [(4, .int (1 : Int32)), (0, .ref aM), (1, .int y1_1), (2, .int x2_2), (3, .int x3_3)]) hx hb dX5_before_100 hl (by decide) rfl (fun ls hl => ?_)
                      refine lv_iload hx hb dX5_before_102 (lv_at hl 0 rfl) ?_
                      refine lv_if_eq (tgt := 113) hx hb dX5_before_104 (by decide) (fun c_26 => absurd c_26 (by decide)) (fun c_26 => ?_)
                      refine lv_iload_n hx hb dX5_before_107 rfl (lv_at hl 3 rfl) ?_
                      refine lv_iconst (v := 1) hx hb dX5_before_108 (by decide) ?_
                      refine lv_iadd hx hb dX5_before_109 ?_
                      refine lv_goto (tgt := 114) hx hb dX5_before_110 (by decide) ?_
                      refine lv_istore_n (lv' := [(2, .int (x2_2 + (1 : Int32))), (4, .int (1 : Int32)), (0, .ref aM), (1, .int y1_1), (3, .int x3_3)]) hx hb dX5_before_114 rfl hl (by decide) rfl (fun ls hl => ?_)
                      refine lv_iinc (v := (x3_3 + (1 : Int32))) (lv' := [(3, .int (x3_3 + (1 : Int32))), (2, .int (x2_2 + (1 : Int32))), (4, .int (1 : Int32)), (0, .ref aM), (1, .int y1_1)]) hx hb dX5_before_115 hl (k := 4) rfl rfl (by decide) rfl (fun ls hl => ?_)
                      refine lv_goto (tgt := 4) hx hb dX5_before_118 (by decide) ?_
                      exact ih H locs (x2_2 + (1 : Int32)) (x3_3 + (1 : Int32)) ls hJ hP hS (lv_sub hl [3, 4, 1, 0] rfl)
          · have hJ := j_t c_7 hJ
            refine lv_goto (tgt := 115) hx hb dX5_before_27 (by decide) ?_
            refine lv_iinc (v := (x3_3 + (1 : Int32))) (lv' := [(3, .int (x3_3 + (1 : Int32))), (0, .ref aM), (1, .int y1_1), (2, .int x2_2)]) hx hb dX5_before_115 hl (k := 3) rfl rfl (by decide) rfl (fun ls hl => ?_)
            refine lv_goto (tgt := 4) hx hb dX5_before_118 (by decide) ?_
            exact ih H locs x2_2 (x3_3 + (1 : Int32)) ls hJ hP hS (lv_sub hl [1, 2, 3, 0] rfl)
  unfold J_X5_before at hJ
  refine lv_iconst (v := 0) hx hb dX5_before_0 (by decide) ?_
  refine lv_istore_n (lv' := [(2, .int (0 : Int32)), (0, .ref aM), (1, .int p0)]) hx hb dX5_before_1 rfl hl (by decide) rfl (fun ls hl => ?_)
  refine lv_iconst (v := 0) hx hb dX5_before_2 (by decide) ?_
  refine lv_istore_n (lv' := [(3, .int (0 : Int32)), (2, .int (0 : Int32)), (0, .ref aM), (1, .int p0)]) hx hb dX5_before_3 rfl hl (by decide) rfl (fun ls hl => ?_)
  refine L_4 p0 _ ?_ F s.heap [] (0 : Int32) (0 : Int32) ls hJ hP hS (lv_sub hl [2, 3, 1, 0] rfl)
  · intro H locs x2_27 x3_28 ls hJ hP hS hl
    refine lv_iload_n hx hb dX5_before_121 rfl (lv_at hl 0 rfl) ?_
    have ho := Option.some.inj hJ
    exact W.iret (v := x2_27) hx hb hr (fun t ht hW => ⟨⟨_, (), rfl, ho, trivial⟩, hS.F ht⟩) hS.2.2 dX5_before_122
set_option maxHeartbeats 4000000 in
set_option maxRecDepth 100000 in
theorem c_X5_leads (l : Launch) (D : va_G) (aM aMf aNm aBe aFa aCs aFr aRo aNe : Nat) (cMf cNm cBe cFa cCs cFr cRo cNe : ClassId) (cod : Int32) (w : Int32) (ht : Int32) (fou : Int32) (ln : Int32) (wd : Int32) (rd : Int32) (kp : Int32) (car : Int32) (hom : Int32) (gol : Int32) (hld : Int32) (err : UInt64) (isw : Int32) (mvs : Int32) (mde : Int32) (exa : Int32) (lst : Int64) (mf : Nat → Int32) (nm : Nat → Int32) (be : Nat → Int32) (fa : Nat → Int32) (cs : Nat → Int32) (fr : Nat → Int32) (ro : Nat → Int32) (ne : Nat → Int32) (p0 : Int32) (p1 : Int32) (tX tY sz F : Nat) (o : Int32) (hJ : J_X5_leads F w ht fou rd fa cs fr p0 p1 = some o) : Met l yX5_leads wsX5_leads rmX5_leads (va_Pc [.ref aM, .int p0, .int p1] (pcR D [(aM, .inr (6, [.int cod, .int w, .int ht, .int fou, .ref aMf, .int ln, .int wd, .int rd, .int kp, .int car, .int hom, .int gol, .int hld, .double err, .int isw, .int mvs, .int mde, .ref aNm, .ref aBe, .int exa, .long lst, .ref aFa, .ref aCs, .ref aFr, .ref aRo, .ref aNe])), (aMf, .inl (cMf, 576, .inl mf)), (aNm, .inl (cNm, 4608, .inl nm)), (aBe, .inl (cBe, 4608, .inl be)), (aFa, .inl (cFa, 4608, .inl fa)), (aCs, .inl (cCs, 4608, .inl cs)), (aFr, .inl (cFr, 4608, .inl fr)), (aRo, .inl (cRo, 4608, .inl ro)), (aNe, .inl (cNe, 576, .inl ne))] [(cMf, .boolean), (cNm, .int), (cBe, .int), (cFa, .int), (cCs, .int), (cFr, .boolean), (cRo, .int), (cNe, .int)] sz tX tY)) (qRi o (va_A [] sz)) 0 0 (va_A [] sz) := by
  refine Met.ofW (cc := cX5_leads) (maxL := 4) (ret := (some .boolean)) (by decide) rfl ?_
  intro p e s m args below meth c s₁ B hml hv
  obtain ⟨rfl, hsz, hP, hK, hST⟩ := hv
  have hx := B.exec
  have hb := B.bytes
  have hr := B.returns
  have hts := atoms_spec (ws := wsX5_leads) B.pre
  have hown : s.vm.findClass RX5 = some m.cls := findClass_of_methodNamed B.named
  have hlocks := B.notSynchronized
  subst hsz
  generalize hAe : va_A [] s.heap.size = A at hST ⊢
  have hA : ∀ q : Nat, s.heap.size ≤ q → A q := fun q h => by rw [← hAe]; exact Or.inr h
  have hS : va_S A s.heap s.heap [] := va_S.rf
  have hl := lv_entry ([.ref aM, .int p0, .int p1]) (n := 4) (Nat.le_of_ble_eq_true rfl)
  rw [lg_entry_eq]
  generalize (lg_sl ([.ref aM, .int p0, .int p1]) ++ List.replicate (4 - (lg_sl ([.ref aM, .int p0, .int p1])).length) Slot.unset).toArray = ls at hl ⊢
  have hl : lv_has ls 4 [(0, .ref aM), (1, .int p0), (2, .int p1)] := hl
  have iX5 : ∀ w ∈ wsX50, w ∈ wsX5_leads := fun w h => List.mem_cons_of_mem _ (List.mem_append_right _ h)
  have k_1 := hts (.fieldLink RX5 34 "ParkWaysModel" "far" "[I") (List.mem_of_getElem? (i := 1) rfl)
  have k_2 := hts (.fieldLink RX5 37 "ParkWaysModel" "cost" "[I") (List.mem_of_getElem? (i := 2) rfl)
  unfold J_X5_leads at hJ
  refine lv_aload_n hx hb dX5_leads_0 rfl (lv_at hl 0 rfl) ?_
  refine lv_iload_n hx hb dX5_leads_1 rfl (lv_at hl 1 rfl) ?_
  refine lv_iload_n hx hb dX5_leads_2 rfl (lv_at hl 2 rfl) ?_
  obtain ⟨v_1, hv_1, hJ⟩ := j_b hJ
  refine ro_i (va_runV (As := [.int p0, .int p1]) (rest := []) ⟨hx, hb, hml, hown, hts⟩ (c_X5_moved l D aM aMf aNm aBe aFa aCs aFr aRo aNe cMf cNm cBe cFa cCs cFr cRo cNe cod w ht fou ln wd rd kp car hom gol hld err isw mvs mde exa lst mf nm be fa cs fr ro ne p0 p1 tX tY s.heap.size F v_1 hv_1) (cwV 2 hts gX5_leads_X5_moved rfl rfl rfl (by decide +kernel) ⟨Nat.le_of_ble_eq_true rfl, Nat.le_of_ble_eq_true rfl⟩) (preRV [.int p0, .int p1] hP hK hS hA hST [0, 1, 2, 3, 4, 5, 6, 7, 8] rfl [0, 1, 2, 3, 4, 5, 6, 7] rfl (ci := 6) (q0 := 0) rfl rfl) rfl rfl hl.1 rfl (lv_room (Nat.le_of_ble_eq_true rfl)) dX5_leads_3 ⟨Nat.zero_le _, Nat.zero_le _⟩) hP hS hA (fun H locs hP hS => ?_)
  refine lv_istore_n (lv' := [(3, .int v_1), (0, .ref aM), (1, .int p0), (2, .int p1)]) hx hb dX5_leads_6 rfl hl (by decide) rfl (fun ls hl => ?_)
  refine lv_iload_n hx hb dX5_leads_7 rfl (lv_at hl 0 rfl) ?_
  refine lv_if_lt (tgt := 53) hx hb dX5_leads_8 (by decide) (fun c_2 => ?_) (fun c_2 => ?_)
  · have hJ := j_t c_2 hJ
    refine lv_iconst (v := 0) hx hb dX5_leads_53 (by decide) ?_
    have ho := Option.some.inj hJ
    exact W.zret (v := (0 : Int32)) hx hb hr rfl (fun t ht hW => ⟨⟨_, (), rfl, ho, trivial⟩, hS.F ht⟩) hS.2.2 dX5_leads_54
  · have hJ := j_f c_2 hJ
    refine lv_aload_n hx hb dX5_leads_11 rfl (lv_at hl 1 rfl) ?_
    refine va_get (D := D) (ci := 6) (v := .ref aFa) (C := RX5) (T := TX5) (N := 26) hx hb hts iX5 hown hK hP 0 rfl rfl 21 (by decide) k_1 (fun _ h9 => h9) rfl dX5_leads_12 ?_
    refine lv_iload_n hx hb dX5_leads_15 rfl (lv_at hl 0 rfl) ?_
    obtain ⟨h_3, hJ⟩ := g_in hJ
    refine va_iald hx hb hK hP 4 3 rfl rfl h_3 dX5_leads_16 ?_
    refine lv_aload_n hx hb dX5_leads_17 rfl (lv_at hl 1 rfl) ?_
    refine va_get (D := D) (ci := 6) (v := .ref aFa) (C := RX5) (T := TX5) (N := 26) hx hb hts iX5 hown hK hP 0 rfl rfl 21 (by decide) k_1 (fun _ h9 => h9) rfl dX5_leads_18 ?_
    refine lv_iload_n hx hb dX5_leads_21 rfl (lv_at hl 2 rfl) ?_
    obtain ⟨h_4, hJ⟩ := g_in hJ
    refine va_iald hx hb hK hP 4 3 rfl rfl h_4 dX5_leads_22 ?_
    refine lv_iconst (v := 1) hx hb dX5_leads_23 (by decide) ?_
    refine lv_isub hx hb dX5_leads_24 ?_
    refine lv_icmp_ne (tgt := 53) hx hb dX5_leads_25 (by decide) (fun c_5 => ?_) (fun c_5 => ?_)
    · have hJ := j_f c_5 hJ
      refine lv_iconst (v := 0) hx hb dX5_leads_53 (by decide) ?_
      have ho := Option.some.inj hJ
      exact W.zret (v := (0 : Int32)) hx hb hr rfl (fun t ht hW => ⟨⟨_, (), rfl, ho, trivial⟩, hS.F ht⟩) hS.2.2 dX5_leads_54
    · have hJ := j_t c_5 hJ
      refine lv_aload_n hx hb dX5_leads_28 rfl (lv_at hl 1 rfl) ?_
      refine va_get (D := D) (ci := 6) (v := .ref aCs) (C := RX5) (T := TX5) (N := 26) hx hb hts iX5 hown hK hP 0 rfl rfl 22 (by decide) k_2 (fun _ h9 => h9) rfl dX5_leads_29 ?_
      refine lv_iload_n hx hb dX5_leads_32 rfl (lv_at hl 0 rfl) ?_
      obtain ⟨h_6, hJ⟩ := g_in hJ
      refine va_iald hx hb hK hP 5 4 rfl rfl h_6 dX5_leads_33 ?_
      refine lv_aload_n hx hb dX5_leads_34 rfl (lv_at hl 1 rfl) ?_
      refine lv_iload_n hx hb dX5_leads_35 rfl (lv_at hl 3 rfl) ?_
      obtain ⟨v_7, hv_7, hJ⟩ := j_b hJ
      refine ro_i (va_runV (As := [.int p1]) (rest := [.int (cs v_1.toNatClampNeg)]) ⟨hx, hb, hml, hown, hts⟩ (c_X5_more l D aM aMf aNm aBe aFa aCs aFr aRo aNe cMf cNm cBe cFa cCs cFr cRo cNe cod w ht fou ln wd rd kp car hom gol hld err isw mvs mde exa lst mf nm be fa cs fr ro ne p1 tX tY H.size F v_7 hv_7) (cwV 1 hts gX5_leads_X5_more rfl rfl rfl (by decide +kernel) ⟨Nat.le_of_ble_eq_true rfl, Nat.le_of_ble_eq_true rfl⟩) (preRV [.int p1] hP hK hS hA hST [0, 1, 2, 3, 4, 5, 6, 7, 8] rfl [0, 1, 2, 3, 4, 5, 6, 7] rfl (ci := 6) (q0 := 0) rfl rfl) rfl rfl hl.1 rfl (lv_room (Nat.le_of_ble_eq_true rfl)) dX5_leads_36 ⟨Nat.zero_le _, Nat.zero_le _⟩) hP hS hA (fun H locs hP hS => ?_)
      refine lv_iadd hx hb dX5_leads_39 ?_
      refine lv_aload_n hx hb dX5_leads_40 rfl (lv_at hl 1 rfl) ?_
      refine va_get (D := D) (ci := 6) (v := .ref aCs) (C := RX5) (T := TX5) (N := 26) hx hb hts iX5 hown hK hP 0 rfl rfl 22 (by decide) k_2 (fun _ h9 => h9) rfl dX5_leads_41 ?_
      refine lv_iload_n hx hb dX5_leads_44 rfl (lv_at hl 2 rfl) ?_
      obtain ⟨h_8, hJ⟩ := g_in hJ
      refine va_iald hx hb hK hP 5 4 rfl rfl h_8 dX5_leads_45 ?_
      refine lv_icmp_ne (tgt := 53) hx hb dX5_leads_46 (by decide) (fun c_9 => ?_) (fun c_9 => ?_)
      · have hJ := j_f c_9 hJ
        refine lv_iconst (v := 0) hx hb dX5_leads_53 (by decide) ?_
        have ho := Option.some.inj hJ
        exact W.zret (v := (0 : Int32)) hx hb hr rfl (fun t ht hW => ⟨⟨_, (), rfl, ho, trivial⟩, hS.F ht⟩) hS.2.2 dX5_leads_54
      · have hJ := j_t c_9 hJ
        refine lv_iconst (v := 1) hx hb dX5_leads_49 (by decide) ?_
        refine lv_goto (tgt := 54) hx hb dX5_leads_50 (by decide) ?_
        have ho := Option.some.inj hJ
        exact W.zret (v := (1 : Int32)) hx hb hr rfl (fun t ht hW => ⟨⟨_, (), rfl, ho, trivial⟩, hS.F ht⟩) hS.2.2 dX5_leads_54
set_option maxHeartbeats 4000000 in
set_option maxRecDepth 100000 in
theorem c_X5_search (l : Launch) (D : va_G) (aM aMf aNm aBe aFa aCs aFr aRo aNe : Nat) (cMf cNm cBe cFa cCs cFr cRo cNe : ClassId) (cod : Int32) (w : Int32) (ht : Int32) (fou : Int32) (ln : Int32) (wd : Int32) (rd : Int32) (kp : Int32) (car : Int32) (hom : Int32) (gol : Int32) (hld : Int32) (err : UInt64) (isw : Int32) (mvs : Int32) (mde : Int32) (exa : Int32) (lst : Int64) (mf : Nat → Int32) (nm : Nat → Int32) (be : Nat → Int32) (fa : Nat → Int32) (cs : Nat → Int32) (fr : Nat → Int32) (ro : Nat → Int32) (ne : Nat → Int32) (p0 : Int64) (tX tY sz F : Nat) (o : Int32 × Int32 × Int32 × Int32 × Int32 × Int64 × (Nat → Int32) × (Nat → Int32) × (Nat → Int32) × (Nat → Int32) × (Nat → Int32) × (Nat → Int32) × (Nat → Int32)) (hJ : J_X5_search F w ht fou ln wd rd kp car gol mvs mde mf nm be fa cs fr ro ne p0 = some o) : Met l yX5_search wsX5_search rmX5_search (va_Pc [.ref aM, .long p0] (pcW D [(aM, .inr (6, [.int cod, .int w, .int ht, .int fou, .ref aMf, .int ln, .int wd, .int rd, .int kp, .int car, .int hom, .int gol, .int hld, .double err, .int isw, .int mvs, .int mde, .ref aNm, .ref aBe, .int exa, .long lst, .ref aFa, .ref aCs, .ref aFr, .ref aRo, .ref aNe])), (aMf, .inl (cMf, 576, .inl mf)), (aNm, .inl (cNm, 4608, .inl nm)), (aBe, .inl (cBe, 4608, .inl be)), (aFa, .inl (cFa, 4608, .inl fa)), (aCs, .inl (cCs, 4608, .inl cs)), (aFr, .inl (cFr, 4608, .inl fr)), (aRo, .inl (cRo, 4608, .inl ro)), (aNe, .inl (cNe, 576, .inl ne))] [(cMf, .boolean), (cNm, .int), (cBe, .int), (cFa, .int), (cCs, .int), (cFr, .boolean), (cRo, .int), (cNe, .int)] sz tX tY)) (qWi D o.1 [(aM, .inr (6, [.int cod, .int w, .int ht, .int fou, .ref aMf, .int ln, .int wd, .int rd, .int kp, .int car, .int hom, .int gol, .int hld, .double err, .int o.2.1, .int o.2.2.1, .int o.2.2.2.1, .ref aNm, .ref aBe, .int o.2.2.2.2.1, .long o.2.2.2.2.2.1, .ref aFa, .ref aCs, .ref aFr, .ref aRo, .ref aNe])), (aMf, .inl (cMf, 576, .inl mf)), (aNm, .inl (cNm, 4608, .inl o.2.2.2.2.2.2.1)), (aBe, .inl (cBe, 4608, .inl o.2.2.2.2.2.2.2.1)), (aFa, .inl (cFa, 4608, .inl o.2.2.2.2.2.2.2.2.1)), (aCs, .inl (cCs, 4608, .inl o.2.2.2.2.2.2.2.2.2.1)), (aFr, .inl (cFr, 4608, .inl o.2.2.2.2.2.2.2.2.2.2.1)), (aRo, .inl (cRo, 4608, .inl o.2.2.2.2.2.2.2.2.2.2.2.1)), (aNe, .inl (cNe, 576, .inl o.2.2.2.2.2.2.2.2.2.2.2.2))] (va_A [(aM, .inr (6, [.int cod, .int w, .int ht, .int fou, .ref aMf, .int ln, .int wd, .int rd, .int kp, .int car, .int hom, .int gol, .int hld, .double err, .int isw, .int mvs, .int mde, .ref aNm, .ref aBe, .int exa, .long lst, .ref aFa, .ref aCs, .ref aFr, .ref aRo, .ref aNe])), (aMf, .inl (cMf, 576, .inl mf)), (aNm, .inl (cNm, 4608, .inl nm)), (aBe, .inl (cBe, 4608, .inl be)), (aFa, .inl (cFa, 4608, .inl fa)), (aCs, .inl (cCs, 4608, .inl cs)), (aFr, .inl (cFr, 4608, .inl fr)), (aRo, .inl (cRo, 4608, .inl ro)), (aNe, .inl (cNe, 576, .inl ne))] sz)) 0 0 (va_A [(aM, .inr (6, [.int cod, .int w, .int ht, .int fou, .ref aMf, .int ln, .int wd, .int rd, .int kp, .int car, .int hom, .int gol, .int hld, .double err, .int isw, .int mvs, .int mde, .ref aNm, .ref aBe, .int exa, .long lst, .ref aFa, .ref aCs, .ref aFr, .ref aRo, .ref aNe])), (aMf, .inl (cMf, 576, .inl mf)), (aNm, .inl (cNm, 4608, .inl nm)), (aBe, .inl (cBe, 4608, .inl be)), (aFa, .inl (cFa, 4608, .inl fa)), (aCs, .inl (cCs, 4608, .inl cs)), (aFr, .inl (cFr, 4608, .inl fr)), (aRo, .inl (cRo, 4608, .inl ro)), (aNe, .inl (cNe, 576, .inl ne))] sz) := by
  refine Met.ofW (cc := cX5_search) (maxL := 7) (ret := (some .int)) (by decide) rfl ?_
  intro p e s m args below meth c s₁ B hml hv
  obtain ⟨rfl, hsz, hP, hK, hD0, hST⟩ := hv
  have hx := B.exec
  have hb := B.bytes
  have hr := B.returns
  have hts := atoms_spec (ws := wsX5_search) B.pre
  have hown : s.vm.findClass RX5 = some m.cls := findClass_of_methodNamed B.named
  have hlocks := B.notSynchronized
  subst hsz
  have hD := hD0.self (sz := s.heap.size)
  generalize hAe : va_A [(aM, .inr (6, [.int cod, .int w, .int ht, .int fou, .ref aMf, .int ln, .int wd, .int rd, .int kp, .int car, .int hom, .int gol, .int hld, .double err, .int isw, .int mvs, .int mde, .ref aNm, .ref aBe, .int exa, .long lst, .ref aFa, .ref aCs, .ref aFr, .ref aRo, .ref aNe])), (aMf, .inl (cMf, 576, .inl mf)), (aNm, .inl (cNm, 4608, .inl nm)), (aBe, .inl (cBe, 4608, .inl be)), (aFa, .inl (cFa, 4608, .inl fa)), (aCs, .inl (cCs, 4608, .inl cs)), (aFr, .inl (cFr, 4608, .inl fr)), (aRo, .inl (cRo, 4608, .inl ro)), (aNe, .inl (cNe, 576, .inl ne))] s.heap.size = A at hD hST ⊢
  have hA : ∀ q : Nat, s.heap.size ≤ q → A q := fun q h => by rw [← hAe]; exact Or.inr h
  have hS : va_S A s.heap s.heap [] := va_S.rf
  have hl := lv_entry ([.ref aM, .long p0]) (n := 7) (Nat.le_of_ble_eq_true rfl)
  rw [lg_entry_eq]
  generalize (lg_sl ([.ref aM, .long p0]) ++ List.replicate (7 - (lg_sl ([.ref aM, .long p0])).length) Slot.unset).toArray = ls at hl ⊢
  have hl : lv_has ls 7 [(0, .ref aM), (1, .long p0)] := hl
  have iX5 : ∀ w ∈ wsX50, w ∈ wsX5_search := fun w h => List.mem_cons_of_mem _ (List.mem_append_right _ h)
  have k_1 := hts (.fieldLink RX5 118 "ParkWaysModel" "isWay" "Z") (List.mem_of_getElem? (i := 1) rfl)
  have k_2 := hts (.fieldLink RX5 121 "ParkWaysModel" "lastSteps" "J") (List.mem_of_getElem? (i := 2) rfl)
  have k_3 := hts (.fieldLink RX5 128 "ParkWaysModel" "car" "I") (List.mem_of_getElem? (i := 3) rfl)
  have k_4 := hts (.fieldLink RX5 34 "ParkWaysModel" "far" "[I") (List.mem_of_getElem? (i := 4) rfl)
  have k_5 := hts (.constant RX5 108 (1000000000)) (List.mem_of_getElem? (i := 5) rfl)
  have k_6 := hts (.fieldLink RX5 134 "ParkWaysModel" "exact" "Z") (List.mem_of_getElem? (i := 6) rfl)
  have k_7 := hts (.fieldLink RX5 137 "ParkWaysModel" "moves" "I") (List.mem_of_getElem? (i := 7) rfl)
  have k_8 := hts (.fieldLink RX5 140 "ParkWaysModel" "made" "I") (List.mem_of_getElem? (i := 8) rfl)
  have k_9 := hts (.fieldLink RX5 109 "ParkWaysModel" "goal" "I") (List.mem_of_getElem? (i := 9) rfl)
  have k_10 := hts (.fieldLink RX5 27 "ParkWaysModel" "number" "[I") (List.mem_of_getElem? (i := 10) rfl)
  have k_11 := hts (.fieldLink RX5 31 "ParkWaysModel" "behind" "[I") (List.mem_of_getElem? (i := 11) rfl)
  have L_129 : ∀ (y5_29 : Int32) (yisw_31 : Int32) (ymvs_32 : Int32) (ymde_33 : Int32) (yexa_34 : Int32) (ylst_35 : Int64) (ynm_36 : Nat → Int32) (ybe_37 : Nat → Int32) (yfa_38 : Nat → Int32) (ycs_39 : Nat → Int32) (yfr_40 : Nat → Int32) (yro_41 : Nat → Int32) (yne_42 : Nat → Int32) (kk_146 : Int32 → Option (Int32 × Int32 × Int32 × Int32 × Int32 × Int64 × (Nat → Int32) × (Nat → Int32) × (Nat → Int32) × (Nat → Int32) × (Nat → Int32) × (Nat → Int32) × (Nat → Int32))) (hkk_146 : ∀ (H : Heap) (locs : List Loc) (x6_30 : Int32) (ls : Array Slot), kk_146 x6_30 = some o → va_P D vwCl [(aM, .inr (6, [.int cod, .int w, .int ht, .int fou, .ref aMf, .int ln, .int wd, .int rd, .int kp, .int car, .int hom, .int gol, .int hld, .double err, .int yisw_31, .int ymvs_32, .int ymde_33, .ref aNm, .ref aBe, .int yexa_34, .long ylst_35, .ref aFa, .ref aCs, .ref aFr, .ref aRo, .ref aNe])), (aMf, .inl (cMf, 576, .inl mf)), (aNm, .inl (cNm, 4608, .inl ynm_36)), (aBe, .inl (cBe, 4608, .inl ybe_37)), (aFa, .inl (cFa, 4608, .inl yfa_38)), (aCs, .inl (cCs, 4608, .inl ycs_39)), (aFr, .inl (cFr, 4608, .inl yfr_40)), (aRo, .inl (cRo, 4608, .inl yro_41)), (aNe, .inl (cNe, 576, .inl yne_42))] H → va_D A [(aM, .inr (6, [.int cod, .int w, .int ht, .int fou, .ref aMf, .int ln, .int wd, .int rd, .int kp, .int car, .int hom, .int gol, .int hld, .double err, .int yisw_31, .int ymvs_32, .int ymde_33, .ref aNm, .ref aBe, .int yexa_34, .long ylst_35, .ref aFa, .ref aCs, .ref aFr, .ref aRo, .ref aNe])), (aMf, .inl (cMf, 576, .inl mf)), (aNm, .inl (cNm, 4608, .inl ynm_36)), (aBe, .inl (cBe, 4608, .inl ybe_37)), (aFa, .inl (cFa, 4608, .inl yfa_38)), (aCs, .inl (cCs, 4608, .inl ycs_39)), (aFr, .inl (cFr, 4608, .inl yfr_40)), (aRo, .inl (cRo, 4608, .inl yro_41)), (aNe, .inl (cNe, 576, .inl yne_42))] → va_S A s.heap H locs → lv_has ls 7 [(0, .ref aM), (5, .int y5_29), (6, .int x6_30)] → W p l e (headSpec wsX5_search rmX5_search).room s m [.ref aM, .long p0].toArray below meth c H locs 0 0 (MQ below (qWi D o.1 [(aM, .inr (6, [.int cod, .int w, .int ht, .int fou, .ref aMf, .int ln, .int wd, .int rd, .int kp, .int car, .int hom, .int gol, .int hld, .double err, .int o.2.1, .int o.2.2.1, .int o.2.2.2.1, .ref aNm, .ref aBe, .int o.2.2.2.2.1, .long o.2.2.2.2.2.1, .ref aFa, .ref aCs, .ref aFr, .ref aRo, .ref aNe])), (aMf, .inl (cMf, 576, .inl mf)), (aNm, .inl (cNm, 4608, .inl o.2.2.2.2.2.2.1)), (aBe, .inl (cBe, 4608, .inl o.2.2.2.2.2.2.2.1)), (aFa, .inl (cFa, 4608, .inl o.2.2.2.2.2.2.2.2.1)), (aCs, .inl (cCs, 4608, .inl o.2.2.2.2.2.2.2.2.2.1)), (aFr, .inl (cFr, 4608, .inl o.2.2.2.2.2.2.2.2.2.2.1)), (aRo, .inl (cRo, 4608, .inl o.2.2.2.2.2.2.2.2.2.2.2.1)), (aNe, .inl (cNe, 576, .inl o.2.2.2.2.2.2.2.2.2.2.2.2))] A) [.ref aM, .long p0].toArray s 0 0 A) (F0 m 146 ls [])) (fz : Nat) (H : Heap) (locs : List Loc) (x6_30 : Int32) (ls : Array Slot), J_X5_search_L129 F w ht fou rd y5_29 yfa_38 ycs_39 yfr_40 kk_146 fz x6_30 = some o → va_P D vwCl [(aM, .inr (6, [.int cod, .int w, .int ht, .int fou, .ref aMf, .int ln, .int wd, .int rd, .int kp, .int car, .int hom, .int gol, .int hld, .double err, .int yisw_31, .int ymvs_32, .int ymde_33, .ref aNm, .ref aBe, .int yexa_34, .long ylst_35, .ref aFa, .ref aCs, .ref aFr, .ref aRo, .ref aNe])), (aMf, .inl (cMf, 576, .inl mf)), (aNm, .inl (cNm, 4608, .inl ynm_36)), (aBe, .inl (cBe, 4608, .inl ybe_37)), (aFa, .inl (cFa, 4608, .inl yfa_38)), (aCs, .inl (cCs, 4608, .inl ycs_39)), (aFr, .inl (cFr, 4608, .inl yfr_40)), (aRo, .inl (cRo, 4608, .inl yro_41)), (aNe, .inl (cNe, 576, .inl yne_42))] H → va_D A [(aM, .inr (6, [.int cod, .int w, .int ht, .int fou, .ref aMf, .int ln, .int wd, .int rd, .int kp, .int car, .int hom, .int gol, .int hld, .double err, .int yisw_31, .int ymvs_32, .int ymde_33, .ref aNm, .ref aBe, .int yexa_34, .long ylst_35, .ref aFa, .ref aCs, .ref aFr, .ref aRo, .ref aNe])), (aMf, .inl (cMf, 576, .inl mf)), (aNm, .inl (cNm, 4608, .inl ynm_36)), (aBe, .inl (cBe, 4608, .inl ybe_37)), (aFa, .inl (cFa, 4608, .inl yfa_38)), (aCs, .inl (cCs, 4608, .inl ycs_39)), (aFr, .inl (cFr, 4608, .inl yfr_40)), (aRo, .inl (cRo, 4608, .inl yro_41)), (aNe, .inl (cNe, 576, .inl yne_42))] → va_S A s.heap H locs → lv_has ls 7 [(0, .ref aM), (5, .int y5_29), (6, .int x6_30)] → W p l e (headSpec wsX5_search rmX5_search).room s m [.ref aM, .long p0].toArray below meth c H locs 0 0 (MQ below (qWi D o.1 [(aM, .inr (6, [.int cod, .int w, .int ht, .int fou, .ref aMf, .int ln, .int wd, .int rd, .int kp, .int car, .int hom, .int gol, .int hld, .double err, .int o.2.1, .int o.2.2.1, .int o.2.2.2.1, .ref aNm, .ref aBe, .int o.2.2.2.2.1, .long o.2.2.2.2.2.1, .ref aFa, .ref aCs, .ref aFr, .ref aRo, .ref aNe])), (aMf, .inl (cMf, 576, .inl mf)), (aNm, .inl (cNm, 4608, .inl o.2.2.2.2.2.2.1)), (aBe, .inl (cBe, 4608, .inl o.2.2.2.2.2.2.2.1)), (aFa, .inl (cFa, 4608, .inl o.2.2.2.2.2.2.2.2.1)), (aCs, .inl (cCs, 4608, .inl o.2.2.2.2.2.2.2.2.2.1)), (aFr, .inl (cFr, 4608, .inl o.2.2.2.2.2.2.2.2.2.2.1)), (aRo, .inl (cRo, 4608, .inl o.2.2.2.2.2.2.2.2.2.2.2.1)), (aNe, .inl (cNe, 576, .inl o.2.2.2.2.2.2.2.2.2.2.2.2))] A) [.ref aM, .long p0].toArray s 0 0 A) (F0 m 129 ls []) := by
    intro y5_29 yisw_31 ymvs_32 ymde_33 yexa_34 ylst_35 ynm_36 ybe_37 yfa_38 ycs_39 yfr_40 yro_41 yne_42 kk_146 hkk_146 fz
    induction fz with
    | zero =>
      intro H locs x6_30 ls hJ
      rw [J_X5_search_L129] at hJ
      cases hJ
    | succ fz ih =>
      intro H locs x6_30 ls hJ hP hD hS hl
      rw [J_X5_search_L129] at hJ
      refine lv_aload_n hx hb dX5_search_129 rfl (lv_at hl 0 rfl) ?_
      refine lv_iload hx hb dX5_search_130 (lv_at hl 1 rfl) ?_
      refine lv_iload hx hb dX5_search_132 (lv_at hl 2 rfl) ?_
      obtain ⟨v_43, hv_43, hJ⟩ := j_b hJ
      refine ro_i (va_runV (As := [.int y5_29, .int x6_30]) (rest := []) ⟨hx, hb, hml, hown, hts⟩ (c_X5_leads l D aM aMf aNm aBe aFa aCs aFr aRo aNe cMf cNm cBe cFa cCs cFr cRo cNe cod w ht fou ln wd rd kp car hom gol hld err yisw_31 ymvs_32 ymde_33 yexa_34 ylst_35 mf ynm_36 ybe_37 yfa_38 ycs_39 yfr_40 yro_41 yne_42 y5_29 x6_30 tX tY H.size F v_43 hv_43) (cwV 2 hts gX5_search_X5_leads rfl rfl rfl (by decide +kernel) ⟨Nat.le_of_ble_eq_true rfl, Nat.le_of_ble_eq_true rfl⟩) (preRV [.int y5_29, .int x6_30] hP hK hS hA hST [0, 1, 2, 3, 4, 5, 6, 7, 8] rfl [0, 1, 2, 3, 4, 5, 6, 7] rfl (ci := 6) (q0 := 0) rfl rfl) rfl rfl hl.1 rfl (lv_room (Nat.le_of_ble_eq_true rfl)) dX5_search_134 ⟨Nat.zero_le _, Nat.zero_le _⟩) hP hS hA (fun H locs hP hS => ?_)
      refine lv_if_ne (tgt := 146) hx hb dX5_search_137 (by decide) (fun c_44 => ?_) (fun c_44 => ?_)
      · have hJ := j_f c_44 hJ
        exact hkk_146 H locs x6_30 ls hJ hP hD hS (lv_sub hl [0, 1, 2] rfl)
      · have hJ := j_t c_44 hJ
        refine lv_iinc (v := (x6_30 + (1 : Int32))) (lv' := [(6, .int (x6_30 + (1 : Int32))), (0, .ref aM), (5, .int y5_29)]) hx hb dX5_search_140 hl (k := 2) rfl rfl (by decide) rfl (fun ls hl => ?_)
        refine lv_goto (tgt := 129) hx hb dX5_search_143 (by decide) ?_
        exact ih H locs (x6_30 + (1 : Int32)) ls hJ hP hD hS (lv_sub hl [1, 2, 0] rfl)
  have L_117 : ∀ (yisw_16 : Int32) (ymde_18 : Int32) (yexa_19 : Int32) (ylst_20 : Int64) (yfa_23 : Nat → Int32) (ycs_24 : Nat → Int32) (yfr_25 : Nat → Int32) (yro_26 : Nat → Int32) (yne_27 : Nat → Int32) (kk_191 : Int32 → Int32 → (Nat → Int32) → (Nat → Int32) → Option (Int32 × Int32 × Int32 × Int32 × Int32 × Int64 × (Nat → Int32) × (Nat → Int32) × (Nat → Int32) × (Nat → Int32) × (Nat → Int32) × (Nat → Int32) × (Nat → Int32))) (hkk_191 : ∀ (H : Heap) (locs : List Loc) (x5_15 : Int32) (xmvs_17 : Int32) (xnm_21 : Nat → Int32) (xbe_22 : Nat → Int32) (ls : Array Slot), kk_191 x5_15 xmvs_17 xnm_21 xbe_22 = some o → va_P D vwCl [(aM, .inr (6, [.int cod, .int w, .int ht, .int fou, .ref aMf, .int ln, .int wd, .int rd, .int kp, .int car, .int hom, .int gol, .int hld, .double err, .int yisw_16, .int xmvs_17, .int ymde_18, .ref aNm, .ref aBe, .int yexa_19, .long ylst_20, .ref aFa, .ref aCs, .ref aFr, .ref aRo, .ref aNe])), (aMf, .inl (cMf, 576, .inl mf)), (aNm, .inl (cNm, 4608, .inl xnm_21)), (aBe, .inl (cBe, 4608, .inl xbe_22)), (aFa, .inl (cFa, 4608, .inl yfa_23)), (aCs, .inl (cCs, 4608, .inl ycs_24)), (aFr, .inl (cFr, 4608, .inl yfr_25)), (aRo, .inl (cRo, 4608, .inl yro_26)), (aNe, .inl (cNe, 576, .inl yne_27))] H → va_D A [(aM, .inr (6, [.int cod, .int w, .int ht, .int fou, .ref aMf, .int ln, .int wd, .int rd, .int kp, .int car, .int hom, .int gol, .int hld, .double err, .int yisw_16, .int xmvs_17, .int ymde_18, .ref aNm, .ref aBe, .int yexa_19, .long ylst_20, .ref aFa, .ref aCs, .ref aFr, .ref aRo, .ref aNe])), (aMf, .inl (cMf, 576, .inl mf)), (aNm, .inl (cNm, 4608, .inl xnm_21)), (aBe, .inl (cBe, 4608, .inl xbe_22)), (aFa, .inl (cFa, 4608, .inl yfa_23)), (aCs, .inl (cCs, 4608, .inl ycs_24)), (aFr, .inl (cFr, 4608, .inl yfr_25)), (aRo, .inl (cRo, 4608, .inl yro_26)), (aNe, .inl (cNe, 576, .inl yne_27))] → va_S A s.heap H locs → lv_has ls 7 [] → W p l e (headSpec wsX5_search rmX5_search).room s m [.ref aM, .long p0].toArray below meth c H locs 0 0 (MQ below (qWi D o.1 [(aM, .inr (6, [.int cod, .int w, .int ht, .int fou, .ref aMf, .int ln, .int wd, .int rd, .int kp, .int car, .int hom, .int gol, .int hld, .double err, .int o.2.1, .int o.2.2.1, .int o.2.2.2.1, .ref aNm, .ref aBe, .int o.2.2.2.2.1, .long o.2.2.2.2.2.1, .ref aFa, .ref aCs, .ref aFr, .ref aRo, .ref aNe])), (aMf, .inl (cMf, 576, .inl mf)), (aNm, .inl (cNm, 4608, .inl o.2.2.2.2.2.2.1)), (aBe, .inl (cBe, 4608, .inl o.2.2.2.2.2.2.2.1)), (aFa, .inl (cFa, 4608, .inl o.2.2.2.2.2.2.2.2.1)), (aCs, .inl (cCs, 4608, .inl o.2.2.2.2.2.2.2.2.2.1)), (aFr, .inl (cFr, 4608, .inl o.2.2.2.2.2.2.2.2.2.2.1)), (aRo, .inl (cRo, 4608, .inl o.2.2.2.2.2.2.2.2.2.2.2.1)), (aNe, .inl (cNe, 576, .inl o.2.2.2.2.2.2.2.2.2.2.2.2))] A) [.ref aM, .long p0].toArray s 0 0 A) (F0 m 191 ls [])) (fz : Nat) (H : Heap) (locs : List Loc) (x5_15 : Int32) (xmvs_17 : Int32) (xnm_21 : Nat → Int32) (xbe_22 : Nat → Int32) (ls : Array Slot), J_X5_search_L117 F w ht fou rd gol yfa_23 ycs_24 yfr_25 kk_191 fz x5_15 xmvs_17 xnm_21 xbe_22 = some o → va_P D vwCl [(aM, .inr (6, [.int cod, .int w, .int ht, .int fou, .ref aMf, .int ln, .int wd, .int rd, .int kp, .int car, .int hom, .int gol, .int hld, .double err, .int yisw_16, .int xmvs_17, .int ymde_18, .ref aNm, .ref aBe, .int yexa_19, .long ylst_20, .ref aFa, .ref aCs, .ref aFr, .ref aRo, .ref aNe])), (aMf, .inl (cMf, 576, .inl mf)), (aNm, .inl (cNm, 4608, .inl xnm_21)), (aBe, .inl (cBe, 4608, .inl xbe_22)), (aFa, .inl (cFa, 4608, .inl yfa_23)), (aCs, .inl (cCs, 4608, .inl ycs_24)), (aFr, .inl (cFr, 4608, .inl yfr_25)), (aRo, .inl (cRo, 4608, .inl yro_26)), (aNe, .inl (cNe, 576, .inl yne_27))] H → va_D A [(aM, .inr (6, [.int cod, .int w, .int ht, .int fou, .ref aMf, .int ln, .int wd, .int rd, .int kp, .int car, .int hom, .int gol, .int hld, .double err, .int yisw_16, .int xmvs_17, .int ymde_18, .ref aNm, .ref aBe, .int yexa_19, .long ylst_20, .ref aFa, .ref aCs, .ref aFr, .ref aRo, .ref aNe])), (aMf, .inl (cMf, 576, .inl mf)), (aNm, .inl (cNm, 4608, .inl xnm_21)), (aBe, .inl (cBe, 4608, .inl xbe_22)), (aFa, .inl (cFa, 4608, .inl yfa_23)), (aCs, .inl (cCs, 4608, .inl ycs_24)), (aFr, .inl (cFr, 4608, .inl yfr_25)), (aRo, .inl (cRo, 4608, .inl yro_26)), (aNe, .inl (cNe, 576, .inl yne_27))] → va_S A s.heap H locs → lv_has ls 7 [(0, .ref aM), (5, .int x5_15)] → W p l e (headSpec wsX5_search rmX5_search).room s m [.ref aM, .long p0].toArray below meth c H locs 0 0 (MQ below (qWi D o.1 [(aM, .inr (6, [.int cod, .int w, .int ht, .int fou, .ref aMf, .int ln, .int wd, .int rd, .int kp, .int car, .int hom, .int gol, .int hld, .double err, .int o.2.1, .int o.2.2.1, .int o.2.2.2.1, .ref aNm, .ref aBe, .int o.2.2.2.2.1, .long o.2.2.2.2.2.1, .ref aFa, .ref aCs, .ref aFr, .ref aRo, .ref aNe])), (aMf, .inl (cMf, 576, .inl mf)), (aNm, .inl (cNm, 4608, .inl o.2.2.2.2.2.2.1)), (aBe, .inl (cBe, 4608, .inl o.2.2.2.2.2.2.2.1)), (aFa, .inl (cFa, 4608, .inl o.2.2.2.2.2.2.2.2.1)), (aCs, .inl (cCs, 4608, .inl o.2.2.2.2.2.2.2.2.2.1)), (aFr, .inl (cFr, 4608, .inl o.2.2.2.2.2.2.2.2.2.2.1)), (aRo, .inl (cRo, 4608, .inl o.2.2.2.2.2.2.2.2.2.2.2.1)), (aNe, .inl (cNe, 576, .inl o.2.2.2.2.2.2.2.2.2.2.2.2))] A) [.ref aM, .long p0].toArray s 0 0 A) (F0 m 117 ls []) := by
    intro yisw_16 ymde_18 yexa_19 ylst_20 yfa_23 ycs_24 yfr_25 yro_26 yne_27 kk_191 hkk_191 fz
    induction fz with
    | zero =>
      intro H locs x5_15 xmvs_17 xnm_21 xbe_22 ls hJ
      rw [J_X5_search_L117] at hJ
      cases hJ
    | succ fz ih =>
      intro H locs x5_15 xmvs_17 xnm_21 xbe_22 ls hJ hP hD hS hl
      rw [J_X5_search_L117] at hJ
      refine lv_iload hx hb dX5_search_117 (lv_at hl 1 rfl) ?_
      refine lv_aload_n hx hb dX5_search_119 rfl (lv_at hl 0 rfl) ?_
      refine va_get (D := D) (ci := 6) (v := .int gol) (C := RX5) (T := TX5) (N := 26) hx hb hts iX5 hown hK hP 0 rfl rfl 11 (by decide) k_9 (fun _ h9 => h9) rfl dX5_search_120 ?_
      refine lv_icmp_eq (tgt := 191) hx hb dX5_search_123 (by decide) (fun c_28 => ?_) (fun c_28 => ?_)
      · have hJ := j_t c_28 hJ
        exact hkk_191 H locs x5_15 xmvs_17 xnm_21 xbe_22 ls hJ hP hD hS (lv_sub hl [] rfl)
      · have hJ := j_f c_28 hJ
        refine lv_iconst (v := 0) hx hb dX5_search_126 (by decide) ?_
        refine lv_istore (lv' := [(6, .int (0 : Int32)), (0, .ref aM), (5, .int x5_15)]) hx hb dX5_search_127 hl (by decide) rfl (fun ls hl => ?_)
        refine L_129 x5_15 yisw_16 xmvs_17 ymde_18 yexa_19 ylst_20 xnm_21 xbe_22 yfa_23 ycs_24 yfr_25 yro_26 yne_27 _ ?_ F H locs (0 : Int32) ls hJ hP hD hS (lv_sub hl [1, 2, 0] rfl)
        · intro H locs x6_45 ls hJ hP hD hS hl
          refine lv_aload_n hx hb dX5_search_146 rfl (lv_at hl 0 rfl) ?_
          refine lv_iload hx hb dX5_search_147 (lv_at hl 1 rfl) ?_
          refine lv_iload hx hb dX5_search_149 (lv_at hl 2 rfl) ?_
          obtain ⟨v_46, hv_46, hJ⟩ := j_b hJ
          refine ro_i (va_runV (As := [.int x5_15, .int x6_45]) (rest := []) ⟨hx, hb, hml, hown, hts⟩ (c_X5_moved l D aM aMf aNm aBe aFa aCs aFr aRo aNe cMf cNm cBe cFa cCs cFr cRo cNe cod w ht fou ln wd rd kp car hom gol hld err yisw_16 xmvs_17 ymde_18 yexa_19 ylst_20 mf xnm_21 xbe_22 yfa_23 ycs_24 yfr_25 yro_26 yne_27 x5_15 x6_45 tX tY H.size F v_46 hv_46) (cwV 2 hts gX5_search_X5_moved rfl rfl rfl (by decide +kernel) ⟨Nat.le_of_ble_eq_true rfl, Nat.le_of_ble_eq_true rfl⟩) (preRV [.int x5_15, .int x6_45] hP hK hS hA hST [0, 1, 2, 3, 4, 5, 6, 7, 8] rfl [0, 1, 2, 3, 4, 5, 6, 7] rfl (ci := 6) (q0 := 0) rfl rfl) rfl rfl hl.1 rfl (lv_room (Nat.le_of_ble_eq_true rfl)) dX5_search_151 ⟨Nat.zero_le _, Nat.zero_le _⟩) hP hS hA (fun H locs hP hS => ?_)
          refine lv_istore (lv' := [(5, .int v_46), (0, .ref aM), (6, .int x6_45)]) hx hb dX5_search_154 hl (by decide) rfl (fun ls hl => ?_)
          refine lv_aload_n hx hb dX5_search_156 rfl (lv_at hl 1 rfl) ?_
          refine va_get (D := D) (ci := 6) (v := .ref aNm) (C := RX5) (T := TX5) (N := 26) hx hb hts iX5 hown hK hP 0 rfl rfl 17 (by decide) k_10 (fun _ h9 => h9) rfl dX5_search_157 ?_
          refine lv_aload_n hx hb dX5_search_160 rfl (lv_at hl 1 rfl) ?_
          refine va_get (D := D) (ci := 6) (v := .int xmvs_17) (C := RX5) (T := TX5) (N := 26) hx hb hts iX5 hown hK hP 0 rfl rfl 15 (by decide) k_7 (fun _ h9 => h9) rfl dX5_search_161 ?_
          refine lv_iload hx hb dX5_search_164 (lv_at hl 2 rfl) ?_
          obtain ⟨h_47, hJ⟩ := g_in hJ
          refine va_iast hx hb hK hP hD hS 2 1 rfl rfl h_47 dX5_search_166 (fun H locs hP hD hS => ?_)
          have hP : va_P D vwCl [(aM, .inr (6, [.int cod, .int w, .int ht, .int fou, .ref aMf, .int ln, .int wd, .int rd, .int kp, .int car, .int hom, .int gol, .int hld, .double err, .int yisw_16, .int xmvs_17, .int ymde_18, .ref aNm, .ref aBe, .int yexa_19, .long ylst_20, .ref aFa, .ref aCs, .ref aFr, .ref aRo, .ref aNe])), (aMf, .inl (cMf, 576, .inl mf)), (aNm, .inl (cNm, 4608, .inl (upd xnm_21 xmvs_17.toNatClampNeg x6_45))), (aBe, .inl (cBe, 4608, .inl xbe_22)), (aFa, .inl (cFa, 4608, .inl yfa_23)), (aCs, .inl (cCs, 4608, .inl ycs_24)), (aFr, .inl (cFr, 4608, .inl yfr_25)), (aRo, .inl (cRo, 4608, .inl yro_26)), (aNe, .inl (cNe, 576, .inl yne_27))] H := hP
          have hD : va_D A [(aM, .inr (6, [.int cod, .int w, .int ht, .int fou, .ref aMf, .int ln, .int wd, .int rd, .int kp, .int car, .int hom, .int gol, .int hld, .double err, .int yisw_16, .int xmvs_17, .int ymde_18, .ref aNm, .ref aBe, .int yexa_19, .long ylst_20, .ref aFa, .ref aCs, .ref aFr, .ref aRo, .ref aNe])), (aMf, .inl (cMf, 576, .inl mf)), (aNm, .inl (cNm, 4608, .inl (upd xnm_21 xmvs_17.toNatClampNeg x6_45))), (aBe, .inl (cBe, 4608, .inl xbe_22)), (aFa, .inl (cFa, 4608, .inl yfa_23)), (aCs, .inl (cCs, 4608, .inl ycs_24)), (aFr, .inl (cFr, 4608, .inl yfr_25)), (aRo, .inl (cRo, 4608, .inl yro_26)), (aNe, .inl (cNe, 576, .inl yne_27))] := hD
          refine lv_aload_n hx hb dX5_search_167 rfl (lv_at hl 1 rfl) ?_
          refine va_get (D := D) (ci := 6) (v := .ref aBe) (C := RX5) (T := TX5) (N := 26) hx hb hts iX5 hown hK hP 0 rfl rfl 18 (by decide) k_11 (fun _ h9 => h9) rfl dX5_search_168 ?_
          refine lv_aload_n hx hb dX5_search_171 rfl (lv_at hl 1 rfl) ?_
          refine va_get (D := D) (ci := 6) (v := .int xmvs_17) (C := RX5) (T := TX5) (N := 26) hx hb hts iX5 hown hK hP 0 rfl rfl 15 (by decide) k_7 (fun _ h9 => h9) rfl dX5_search_172 ?_
          refine lv_iload hx hb dX5_search_175 (lv_at hl 0 rfl) ?_
          obtain ⟨h_48, hJ⟩ := g_in hJ
          refine va_iast hx hb hK hP hD hS 3 2 rfl rfl h_48 dX5_search_177 (fun H locs hP hD hS => ?_)
          have hP : va_P D vwCl [(aM, .inr (6, [.int cod, .int w, .int ht, .int fou, .ref aMf, .int ln, .int wd, .int rd, .int kp, .int car, .int hom, .int gol, .int hld, .double err, .int yisw_16, .int xmvs_17, .int ymde_18, .ref aNm, .ref aBe, .int yexa_19, .long ylst_20, .ref aFa, .ref aCs, .ref aFr, .ref aRo, .ref aNe])), (aMf, .inl (cMf, 576, .inl mf)), (aNm, .inl (cNm, 4608, .inl (upd xnm_21 xmvs_17.toNatClampNeg x6_45))), (aBe, .inl (cBe, 4608, .inl (upd xbe_22 xmvs_17.toNatClampNeg v_46))), (aFa, .inl (cFa, 4608, .inl yfa_23)), (aCs, .inl (cCs, 4608, .inl ycs_24)), (aFr, .inl (cFr, 4608, .inl yfr_25)), (aRo, .inl (cRo, 4608, .inl yro_26)), (aNe, .inl (cNe, 576, .inl yne_27))] H := hP
          have hD : va_D A [(aM, .inr (6, [.int cod, .int w, .int ht, .int fou, .ref aMf, .int ln, .int wd, .int rd, .int kp, .int car, .int hom, .int gol, .int hld, .double err, .int yisw_16, .int xmvs_17, .int ymde_18, .ref aNm, .ref aBe, .int yexa_19, .long ylst_20, .ref aFa, .ref aCs, .ref aFr, .ref aRo, .ref aNe])), (aMf, .inl (cMf, 576, .inl mf)), (aNm, .inl (cNm, 4608, .inl (upd xnm_21 xmvs_17.toNatClampNeg x6_45))), (aBe, .inl (cBe, 4608, .inl (upd xbe_22 xmvs_17.toNatClampNeg v_46))), (aFa, .inl (cFa, 4608, .inl yfa_23)), (aCs, .inl (cCs, 4608, .inl ycs_24)), (aFr, .inl (cFr, 4608, .inl yfr_25)), (aRo, .inl (cRo, 4608, .inl yro_26)), (aNe, .inl (cNe, 576, .inl yne_27))] := hD
          refine lv_aload_n hx hb dX5_search_178 rfl (lv_at hl 1 rfl) ?_
          refine lv_dup hx hb dX5_search_179 rfl ?_
          refine va_get (D := D) (ci := 6) (v := .int xmvs_17) (C := RX5) (T := TX5) (N := 26) hx hb hts iX5 hown hK hP 0 rfl rfl 15 (by decide) k_7 (fun _ h9 => h9) rfl dX5_search_180 ?_
          refine lv_iconst (v := 1) hx hb dX5_search_183 (by decide) ?_
          refine lv_iadd hx hb dX5_search_184 ?_
          refine va_put (D := D) (ci := 6) (v := .int (xmvs_17 + (1 : Int32))) (ty := .int) (C := RX5) (T := TX5) (N := 26) hx hb hts iX5 tyX5 tyX5_ok nmX5 hown hK hP hD hS 0 rfl rfl 15 (by decide) k_7 (fun _ h9 => h9) rfl (by decide +kernel) rfl rfl (Nat.le_of_ble_eq_true rfl) dX5_search_185 (fun H locs hP hD hS => ?_)
          have hP : va_P D vwCl [(aM, .inr (6, [.int cod, .int w, .int ht, .int fou, .ref aMf, .int ln, .int wd, .int rd, .int kp, .int car, .int hom, .int gol, .int hld, .double err, .int yisw_16, .int (xmvs_17 + (1 : Int32)), .int ymde_18, .ref aNm, .ref aBe, .int yexa_19, .long ylst_20, .ref aFa, .ref aCs, .ref aFr, .ref aRo, .ref aNe])), (aMf, .inl (cMf, 576, .inl mf)), (aNm, .inl (cNm, 4608, .inl (upd xnm_21 xmvs_17.toNatClampNeg x6_45))), (aBe, .inl (cBe, 4608, .inl (upd xbe_22 xmvs_17.toNatClampNeg v_46))), (aFa, .inl (cFa, 4608, .inl yfa_23)), (aCs, .inl (cCs, 4608, .inl ycs_24)), (aFr, .inl (cFr, 4608, .inl yfr_25)), (aRo, .inl (cRo, 4608, .inl yro_26)), (aNe, .inl (cNe, 576, .inl yne_27))] H := hP
          have hD : va_D A [(aM, .inr (6, [.int cod, .int w, .int ht, .int fou, .ref aMf, .int ln, .int wd, .int rd, .int kp, .int car, .int hom, .int gol, .int hld, .double err, .int yisw_16, .int (xmvs_17 + (1 : Int32)), .int ymde_18, .ref aNm, .ref aBe, .int yexa_19, .long ylst_20, .ref aFa, .ref aCs, .ref aFr, .ref aRo, .ref aNe])), (aMf, .inl (cMf, 576, .inl mf)), (aNm, .inl (cNm, 4608, .inl (upd xnm_21 xmvs_17.toNatClampNeg x6_45))), (aBe, .inl (cBe, 4608, .inl (upd xbe_22 xmvs_17.toNatClampNeg v_46))), (aFa, .inl (cFa, 4608, .inl yfa_23)), (aCs, .inl (cCs, 4608, .inl ycs_24)), (aFr, .inl (cFr, 4608, .inl yfr_25)), (aRo, .inl (cRo, 4608, .inl yro_26)), (aNe, .inl (cNe, 576, .inl yne_27))] := hD
          refine lv_goto (tgt := 117) hx hb dX5_search_188 (by decide) ?_
          exact ih H locs v_46 (xmvs_17 + (1 : Int32)) (upd xnm_21 xmvs_17.toNatClampNeg x6_45) (upd xbe_22 xmvs_17.toNatClampNeg v_46) ls hJ hP hD hS (lv_sub hl [1, 0] rfl)
  unfold J_X5_search at hJ
  refine lv_aload_n hx hb dX5_search_0 rfl (lv_at hl 0 rfl) ?_
  refine lv_iconst (v := 0) hx hb dX5_search_1 (by decide) ?_
  refine va_put (D := D) (ci := 6) (v := .int (0 : Int32)) (ty := .boolean) (C := RX5) (T := TX5) (N := 26) hx hb hts iX5 tyX5 tyX5_ok nmX5 hown hK hP hD hS 0 rfl rfl 14 (by decide) k_1 (fun _ h9 => h9) rfl (by decide +kernel) rfl rfl (Nat.le_of_ble_eq_true rfl) dX5_search_2 (fun H locs hP hD hS => ?_)
  have hP : va_P D vwCl [(aM, .inr (6, [.int cod, .int w, .int ht, .int fou, .ref aMf, .int ln, .int wd, .int rd, .int kp, .int car, .int hom, .int gol, .int hld, .double err, .int (0 : Int32), .int mvs, .int mde, .ref aNm, .ref aBe, .int exa, .long lst, .ref aFa, .ref aCs, .ref aFr, .ref aRo, .ref aNe])), (aMf, .inl (cMf, 576, .inl mf)), (aNm, .inl (cNm, 4608, .inl nm)), (aBe, .inl (cBe, 4608, .inl be)), (aFa, .inl (cFa, 4608, .inl fa)), (aCs, .inl (cCs, 4608, .inl cs)), (aFr, .inl (cFr, 4608, .inl fr)), (aRo, .inl (cRo, 4608, .inl ro)), (aNe, .inl (cNe, 576, .inl ne))] H := hP
  have hD : va_D A [(aM, .inr (6, [.int cod, .int w, .int ht, .int fou, .ref aMf, .int ln, .int wd, .int rd, .int kp, .int car, .int hom, .int gol, .int hld, .double err, .int (0 : Int32), .int mvs, .int mde, .ref aNm, .ref aBe, .int exa, .long lst, .ref aFa, .ref aCs, .ref aFr, .ref aRo, .ref aNe])), (aMf, .inl (cMf, 576, .inl mf)), (aNm, .inl (cNm, 4608, .inl nm)), (aBe, .inl (cBe, 4608, .inl be)), (aFa, .inl (cFa, 4608, .inl fa)), (aCs, .inl (cCs, 4608, .inl cs)), (aFr, .inl (cFr, 4608, .inl fr)), (aRo, .inl (cRo, 4608, .inl ro)), (aNe, .inl (cNe, 576, .inl ne))] := hD
  refine lv_aload_n hx hb dX5_search_5 rfl (lv_at hl 0 rfl) ?_
  refine lv_lload_n hx hb dX5_search_6 rfl (lv_at hl 1 rfl) ?_
  refine va_put (D := D) (ci := 6) (v := .long p0) (ty := .long) (C := RX5) (T := TX5) (N := 26) hx hb hts iX5 tyX5 tyX5_ok nmX5 hown hK hP hD hS 0 rfl rfl 20 (by decide) k_2 (fun _ h9 => h9) rfl (by decide +kernel) rfl rfl (Nat.le_of_ble_eq_true rfl) dX5_search_7 (fun H locs hP hD hS => ?_)
  have hP : va_P D vwCl [(aM, .inr (6, [.int cod, .int w, .int ht, .int fou, .ref aMf, .int ln, .int wd, .int rd, .int kp, .int car, .int hom, .int gol, .int hld, .double err, .int (0 : Int32), .int mvs, .int mde, .ref aNm, .ref aBe, .int exa, .long p0, .ref aFa, .ref aCs, .ref aFr, .ref aRo, .ref aNe])), (aMf, .inl (cMf, 576, .inl mf)), (aNm, .inl (cNm, 4608, .inl nm)), (aBe, .inl (cBe, 4608, .inl be)), (aFa, .inl (cFa, 4608, .inl fa)), (aCs, .inl (cCs, 4608, .inl cs)), (aFr, .inl (cFr, 4608, .inl fr)), (aRo, .inl (cRo, 4608, .inl ro)), (aNe, .inl (cNe, 576, .inl ne))] H := hP
  have hD : va_D A [(aM, .inr (6, [.int cod, .int w, .int ht, .int fou, .ref aMf, .int ln, .int wd, .int rd, .int kp, .int car, .int hom, .int gol, .int hld, .double err, .int (0 : Int32), .int mvs, .int mde, .ref aNm, .ref aBe, .int exa, .long p0, .ref aFa, .ref aCs, .ref aFr, .ref aRo, .ref aNe])), (aMf, .inl (cMf, 576, .inl mf)), (aNm, .inl (cNm, 4608, .inl nm)), (aBe, .inl (cBe, 4608, .inl be)), (aFa, .inl (cFa, 4608, .inl fa)), (aCs, .inl (cCs, 4608, .inl cs)), (aFr, .inl (cFr, 4608, .inl fr)), (aRo, .inl (cRo, 4608, .inl ro)), (aNe, .inl (cNe, 576, .inl ne))] := hD
  refine lv_aload_n hx hb dX5_search_10 rfl (lv_at hl 0 rfl) ?_
  obtain ⟨v_1, hv_1, hJ⟩ := j_b hJ
  refine wr_v (wr := []) (wn := [(aM, .inr (6, [.int cod, .int w, .int ht, .int fou, .ref aMf, .int ln, .int wd, .int rd, .int kp, .int car, .int hom, .int gol, .int hld, .double err, .int (0 : Int32), .int mvs, .int mde, .ref aNm, .ref aBe, .int exa, .long p0, .ref aFa, .ref aCs, .ref aFr, .ref aRo, .ref aNe])), (aMf, .inl (cMf, 576, .inl mf)), (aNm, .inl (cNm, 4608, .inl nm)), (aBe, .inl (cBe, 4608, .inl be)), (aFa, .inl (cFa, 4608, .inl v_1.1)), (aCs, .inl (cCs, 4608, .inl v_1.2.1)), (aFr, .inl (cFr, 4608, .inl v_1.2.2.1)), (aRo, .inl (cRo, 4608, .inl v_1.2.2.2.1)), (aNe, .inl (cNe, 576, .inl v_1.2.2.2.2))]) (va_runV (As := []) (rest := []) ⟨hx, hb, hml, hown, hts⟩ (c_X5_findCosts l D aM aMf aNm aBe aFa aCs aFr aRo aNe cMf cNm cBe cFa cCs cFr cRo cNe cod w ht fou ln wd rd kp car hom gol hld err (0 : Int32) mvs mde exa p0 mf nm be fa cs fr ro ne tX tY H.size F v_1 hv_1) (cwV 0 hts gX5_search_X5_findCosts rfl rfl rfl (by decide +kernel) ⟨Nat.le_of_ble_eq_true rfl, Nat.le_of_ble_eq_true rfl⟩) (preWV [] hP hD hK hS hA hST [0, 1, 2, 3, 4, 5, 6, 7, 8] rfl rfl rfl [0, 1, 2, 3, 4, 5, 6, 7] rfl (ci := 6) (q0 := 0) rfl rfl) rfl rfl hl.1 rfl (lv_room (Nat.le_of_ble_eq_true rfl)) dX5_search_11 ⟨Nat.zero_le _, Nat.zero_le _⟩) hP hD hS hA [0, 1, 2, 3, 4, 5, 6, 7, 8] [] rfl rfl rfl (by decide) [0, 1, 2, 3, 4, 5, 6, 7, 8] rfl rfl rfl (fun H locs hP hD hS => ?_)
  refine lv_aload_n hx hb dX5_search_14 rfl (lv_at hl 0 rfl) ?_
  refine lv_aload_n hx hb dX5_search_15 rfl (lv_at hl 0 rfl) ?_
  refine va_get (D := D) (ci := 6) (v := .int car) (C := RX5) (T := TX5) (N := 26) hx hb hts iX5 hown hK hP 0 rfl rfl 9 (by decide) k_3 (fun _ h9 => h9) rfl dX5_search_16 ?_
  obtain ⟨v_2, hv_2, hJ⟩ := j_b hJ
  refine ro_i (va_runV (As := [.int car]) (rest := []) ⟨hx, hb, hml, hown, hts⟩ (c_X5_before l D aM aMf aNm aBe aFa aCs aFr aRo aNe cMf cNm cBe cFa cCs cFr cRo cNe cod w ht fou ln wd rd kp car hom gol hld err (0 : Int32) mvs mde exa p0 mf nm be v_1.1 v_1.2.1 v_1.2.2.1 v_1.2.2.2.1 v_1.2.2.2.2 car tX tY H.size F v_2 hv_2) (cwV 1 hts gX5_search_X5_before rfl rfl rfl (by decide +kernel) ⟨Nat.le_of_ble_eq_true rfl, Nat.le_of_ble_eq_true rfl⟩) (preRV [.int car] hP hK hS hA hST [0, 1, 2, 3, 4, 5, 6, 7, 8] rfl [0, 1, 2, 3, 4, 5, 6, 7] rfl (ci := 6) (q0 := 0) rfl rfl) rfl rfl hl.1 rfl (lv_room (Nat.le_of_ble_eq_true rfl)) dX5_search_19 ⟨Nat.zero_le _, Nat.zero_le _⟩) hP hS hA (fun H locs hP hS => ?_)
  refine lv_istore_n (lv' := [(3, .int v_2), (0, .ref aM), (1, .long p0)]) hx hb dX5_search_22 rfl hl (by decide) rfl (fun ls hl => ?_)
  refine lv_aload_n hx hb dX5_search_23 rfl (lv_at hl 1 rfl) ?_
  refine va_get (D := D) (ci := 6) (v := .ref aFa) (C := RX5) (T := TX5) (N := 26) hx hb hts iX5 hown hK hP 0 rfl rfl 21 (by decide) k_4 (fun _ h9 => h9) rfl dX5_search_24 ?_
  refine lv_aload_n hx hb dX5_search_27 rfl (lv_at hl 1 rfl) ?_
  refine va_get (D := D) (ci := 6) (v := .int car) (C := RX5) (T := TX5) (N := 26) hx hb hts iX5 hown hK hP 0 rfl rfl 9 (by decide) k_3 (fun _ h9 => h9) rfl dX5_search_28 ?_
  obtain ⟨h_3, hJ⟩ := g_in hJ
  refine va_iald hx hb hK hP 4 3 rfl rfl h_3 dX5_search_31 ?_
  refine lv_ldc (v := 1000000000) hx hb hown k_5 dX5_search_32 ?_
  refine lv_icmp_ge (tgt := 41) hx hb dX5_search_34 (by decide) (fun c_4 => ?_) (fun c_4 => ?_)
  · have hJ := j_t c_4 hJ
    refine lv_iconst (v := 0) hx hb dX5_search_41 (by decide) ?_
    refine lv_istore (lv' := [(4, .int (0 : Int32)), (3, .int v_2), (0, .ref aM), (1, .long p0)]) hx hb dX5_search_42 hl (by decide) rfl (fun ls hl => ?_)
    refine lv_aload_n hx hb dX5_search_44 rfl (lv_at hl 2 rfl) ?_
    refine lv_iload hx hb dX5_search_45 (lv_at hl 0 rfl) ?_
    refine lv_if_eq (tgt := 65) hx hb dX5_search_47 (by decide) (fun c_5 => ?_) (fun c_5 => absurd (by decide) c_5)
    refine lv_iload_n hx hb dX5_search_65 rfl (lv_at hl 1 rfl) ?_
    refine lv_i2l hx hb dX5_search_66 rfl ?_
    refine lv_lload_n hx hb dX5_search_67 rfl (lv_at hl 3 rfl) ?_
    refine W.lcmp hx hb dX5_search_68 ?_
    refine lv_if_gt (tgt := 76) hx hb dX5_search_69 (by decide) (fun c_6 => ?_) (fun c_6 => ?_)
    · have hJ := j_t c_6 hJ
      refine lv_iconst (v := 0) hx hb dX5_search_76 (by decide) ?_
      refine va_put (D := D) (ci := 6) (v := .int (0 : Int32)) (ty := .boolean) (C := RX5) (T := TX5) (N := 26) hx hb hts iX5 tyX5 tyX5_ok nmX5 hown hK hP hD hS 0 rfl rfl 19 (by decide) k_6 (fun _ h9 => h9) rfl (by decide +kernel) rfl rfl (Nat.le_of_ble_eq_true rfl) dX5_search_77 (fun H locs hP hD hS => ?_)
      have hP : va_P D vwCl [(aM, .inr (6, [.int cod, .int w, .int ht, .int fou, .ref aMf, .int ln, .int wd, .int rd, .int kp, .int car, .int hom, .int gol, .int hld, .double err, .int (0 : Int32), .int mvs, .int mde, .ref aNm, .ref aBe, .int (0 : Int32), .long p0, .ref aFa, .ref aCs, .ref aFr, .ref aRo, .ref aNe])), (aMf, .inl (cMf, 576, .inl mf)), (aNm, .inl (cNm, 4608, .inl nm)), (aBe, .inl (cBe, 4608, .inl be)), (aFa, .inl (cFa, 4608, .inl v_1.1)), (aCs, .inl (cCs, 4608, .inl v_1.2.1)), (aFr, .inl (cFr, 4608, .inl v_1.2.2.1)), (aRo, .inl (cRo, 4608, .inl v_1.2.2.2.1)), (aNe, .inl (cNe, 576, .inl v_1.2.2.2.2))] H := hP
      have hD : va_D A [(aM, .inr (6, [.int cod, .int w, .int ht, .int fou, .ref aMf, .int ln, .int wd, .int rd, .int kp, .int car, .int hom, .int gol, .int hld, .double err, .int (0 : Int32), .int mvs, .int mde, .ref aNm, .ref aBe, .int (0 : Int32), .long p0, .ref aFa, .ref aCs, .ref aFr, .ref aRo, .ref aNe])), (aMf, .inl (cMf, 576, .inl mf)), (aNm, .inl (cNm, 4608, .inl nm)), (aBe, .inl (cBe, 4608, .inl be)), (aFa, .inl (cFa, 4608, .inl v_1.1)), (aCs, .inl (cCs, 4608, .inl v_1.2.1)), (aFr, .inl (cFr, 4608, .inl v_1.2.2.1)), (aRo, .inl (cRo, 4608, .inl v_1.2.2.2.1)), (aNe, .inl (cNe, 576, .inl v_1.2.2.2.2))] := hD
      refine lv_aload_n hx hb dX5_search_80 rfl (lv_at hl 2 rfl) ?_
      refine va_get (D := D) (ci := 6) (v := .int (0 : Int32)) (C := RX5) (T := TX5) (N := 26) hx hb hts iX5 hown hK hP 0 rfl rfl 19 (by decide) k_6 (fun _ h9 => h9) rfl dX5_search_81 ?_
      refine lv_if_ne (tgt := 89) hx hb dX5_search_84 (by decide) (fun c_7 => absurd (by decide) c_7) (fun c_7 => ?_)
      refine lv_iconst (v := (-1)) hx hb dX5_search_87 (by decide) ?_
      have ho := Option.some.inj hJ
      exact W.iret (v := (-1 : Int32)) hx hb hr (fun t ht hW => ⟨⟨_, (), rfl, (by rw [← ho]), (by rw [ht, ← ho]; exact hP), (by rw [← ho]; exact hD)⟩, hS.F ht⟩) hS.2.2 dX5_search_88
    · have hJ := j_f c_6 hJ
      refine lv_iconst (v := 1) hx hb dX5_search_72 (by decide) ?_
      refine lv_goto (tgt := 77) hx hb dX5_search_73 (by decide) ?_
      refine va_put (D := D) (ci := 6) (v := .int (1 : Int32)) (ty := .boolean) (C := RX5) (T := TX5) (N := 26) hx hb hts iX5 tyX5 tyX5_ok nmX5 hown hK hP hD hS 0 rfl rfl 19 (by decide) k_6 (fun _ h9 => h9) rfl (by decide +kernel) rfl rfl (Nat.le_of_ble_eq_true rfl) dX5_search_77 (fun H locs hP hD hS => ?_)
      have hP : va_P D vwCl [(aM, .inr (6, [.int cod, .int w, .int ht, .int fou, .ref aMf, .int ln, .int wd, .int rd, .int kp, .int car, .int hom, .int gol, .int hld, .double err, .int (0 : Int32), .int mvs, .int mde, .ref aNm, .ref aBe, .int (1 : Int32), .long p0, .ref aFa, .ref aCs, .ref aFr, .ref aRo, .ref aNe])), (aMf, .inl (cMf, 576, .inl mf)), (aNm, .inl (cNm, 4608, .inl nm)), (aBe, .inl (cBe, 4608, .inl be)), (aFa, .inl (cFa, 4608, .inl v_1.1)), (aCs, .inl (cCs, 4608, .inl v_1.2.1)), (aFr, .inl (cFr, 4608, .inl v_1.2.2.1)), (aRo, .inl (cRo, 4608, .inl v_1.2.2.2.1)), (aNe, .inl (cNe, 576, .inl v_1.2.2.2.2))] H := hP
      have hD : va_D A [(aM, .inr (6, [.int cod, .int w, .int ht, .int fou, .ref aMf, .int ln, .int wd, .int rd, .int kp, .int car, .int hom, .int gol, .int hld, .double err, .int (0 : Int32), .int mvs, .int mde, .ref aNm, .ref aBe, .int (1 : Int32), .long p0, .ref aFa, .ref aCs, .ref aFr, .ref aRo, .ref aNe])), (aMf, .inl (cMf, 576, .inl mf)), (aNm, .inl (cNm, 4608, .inl nm)), (aBe, .inl (cBe, 4608, .inl be)), (aFa, .inl (cFa, 4608, .inl v_1.1)), (aCs, .inl (cCs, 4608, .inl v_1.2.1)), (aFr, .inl (cFr, 4608, .inl v_1.2.2.1)), (aRo, .inl (cRo, 4608, .inl v_1.2.2.2.1)), (aNe, .inl (cNe, 576, .inl v_1.2.2.2.2))] := hD
      refine lv_aload_n hx hb dX5_search_80 rfl (lv_at hl 2 rfl) ?_
      refine va_get (D := D) (ci := 6) (v := .int (1 : Int32)) (C := RX5) (T := TX5) (N := 26) hx hb hts iX5 hown hK hP 0 rfl rfl 19 (by decide) k_6 (fun _ h9 => h9) rfl dX5_search_81 ?_
      refine lv_if_ne (tgt := 89) hx hb dX5_search_84 (by decide) (fun c_8 => ?_) (fun c_8 => absurd c_8 (by decide))
      refine lv_iload hx hb dX5_search_89 (lv_at hl 0 rfl) ?_
      refine lv_if_ne (tgt := 96) hx hb dX5_search_91 (by decide) (fun c_9 => absurd (by decide) c_9) (fun c_9 => ?_)
      refine lv_iconst (v := 0) hx hb dX5_search_94 (by decide) ?_
      have ho := Option.some.inj hJ
      exact W.iret (v := (0 : Int32)) hx hb hr (fun t ht hW => ⟨⟨_, (), rfl, (by rw [← ho]), (by rw [ht, ← ho]; exact hP), (by rw [← ho]; exact hD)⟩, hS.F ht⟩) hS.2.2 dX5_search_95
  · have hJ := j_f c_4 hJ
    refine lv_iconst (v := 1) hx hb dX5_search_37 (by decide) ?_
    refine lv_goto (tgt := 42) hx hb dX5_search_38 (by decide) ?_
    refine lv_istore (lv' := [(4, .int (1 : Int32)), (3, .int v_2), (0, .ref aM), (1, .long p0)]) hx hb dX5_search_42 hl (by decide) rfl (fun ls hl => ?_)
    refine lv_aload_n hx hb dX5_search_44 rfl (lv_at hl 2 rfl) ?_
    refine lv_iload hx hb dX5_search_45 (lv_at hl 0 rfl) ?_
    refine lv_if_eq (tgt := 65) hx hb dX5_search_47 (by decide) (fun c_10 => absurd c_10 (by decide)) (fun c_10 => ?_)
    refine lv_iload_n hx hb dX5_search_50 rfl (lv_at hl 1 rfl) ?_
    refine lv_i2l hx hb dX5_search_51 rfl ?_
    refine lv_lload_n hx hb dX5_search_52 rfl (lv_at hl 3 rfl) ?_
    refine W.lcmp hx hb dX5_search_53 ?_
    refine lv_if_ge (tgt := 61) hx hb dX5_search_54 (by decide) (fun c_11 => ?_) (fun c_11 => ?_)
    · have hJ := j_t c_11 hJ
      refine lv_iconst (v := 0) hx hb dX5_search_61 (by decide) ?_
      refine lv_goto (tgt := 77) hx hb dX5_search_62 (by decide) ?_
      refine va_put (D := D) (ci := 6) (v := .int (0 : Int32)) (ty := .boolean) (C := RX5) (T := TX5) (N := 26) hx hb hts iX5 tyX5 tyX5_ok nmX5 hown hK hP hD hS 0 rfl rfl 19 (by decide) k_6 (fun _ h9 => h9) rfl (by decide +kernel) rfl rfl (Nat.le_of_ble_eq_true rfl) dX5_search_77 (fun H locs hP hD hS => ?_)
      have hP : va_P D vwCl [(aM, .inr (6, [.int cod, .int w, .int ht, .int fou, .ref aMf, .int ln, .int wd, .int rd, .int kp, .int car, .int hom, .int gol, .int hld, .double err, .int (0 : Int32), .int mvs, .int mde, .ref aNm, .ref aBe, .int (0 : Int32), .long p0, .ref aFa, .ref aCs, .ref aFr, .ref aRo, .ref aNe])), (aMf, .inl (cMf, 576, .inl mf)), (aNm, .inl (cNm, 4608, .inl nm)), (aBe, .inl (cBe, 4608, .inl be)), (aFa, .inl (cFa, 4608, .inl v_1.1)), (aCs, .inl (cCs, 4608, .inl v_1.2.1)), (aFr, .inl (cFr, 4608, .inl v_1.2.2.1)), (aRo, .inl (cRo, 4608, .inl v_1.2.2.2.1)), (aNe, .inl (cNe, 576, .inl v_1.2.2.2.2))] H := hP
      have hD : va_D A [(aM, .inr (6, [.int cod, .int w, .int ht, .int fou, .ref aMf, .int ln, .int wd, .int rd, .int kp, .int car, .int hom, .int gol, .int hld, .double err, .int (0 : Int32), .int mvs, .int mde, .ref aNm, .ref aBe, .int (0 : Int32), .long p0, .ref aFa, .ref aCs, .ref aFr, .ref aRo, .ref aNe])), (aMf, .inl (cMf, 576, .inl mf)), (aNm, .inl (cNm, 4608, .inl nm)), (aBe, .inl (cBe, 4608, .inl be)), (aFa, .inl (cFa, 4608, .inl v_1.1)), (aCs, .inl (cCs, 4608, .inl v_1.2.1)), (aFr, .inl (cFr, 4608, .inl v_1.2.2.1)), (aRo, .inl (cRo, 4608, .inl v_1.2.2.2.1)), (aNe, .inl (cNe, 576, .inl v_1.2.2.2.2))] := hD
      refine lv_aload_n hx hb dX5_search_80 rfl (lv_at hl 2 rfl) ?_
      refine va_get (D := D) (ci := 6) (v := .int (0 : Int32)) (C := RX5) (T := TX5) (N := 26) hx hb hts iX5 hown hK hP 0 rfl rfl 19 (by decide) k_6 (fun _ h9 => h9) rfl dX5_search_81 ?_
      refine lv_if_ne (tgt := 89) hx hb dX5_search_84 (by decide) (fun c_12 => absurd (by decide) c_12) (fun c_12 => ?_)
      refine lv_iconst (v := (-1)) hx hb dX5_search_87 (by decide) ?_
      have ho := Option.some.inj hJ
      exact W.iret (v := (-1 : Int32)) hx hb hr (fun t ht hW => ⟨⟨_, (), rfl, (by rw [← ho]), (by rw [ht, ← ho]; exact hP), (by rw [← ho]; exact hD)⟩, hS.F ht⟩) hS.2.2 dX5_search_88
    · have hJ := j_f c_11 hJ
      refine lv_iconst (v := 1) hx hb dX5_search_57 (by decide) ?_
      refine lv_goto (tgt := 77) hx hb dX5_search_58 (by decide) ?_
      refine va_put (D := D) (ci := 6) (v := .int (1 : Int32)) (ty := .boolean) (C := RX5) (T := TX5) (N := 26) hx hb hts iX5 tyX5 tyX5_ok nmX5 hown hK hP hD hS 0 rfl rfl 19 (by decide) k_6 (fun _ h9 => h9) rfl (by decide +kernel) rfl rfl (Nat.le_of_ble_eq_true rfl) dX5_search_77 (fun H locs hP hD hS => ?_)
      have hP : va_P D vwCl [(aM, .inr (6, [.int cod, .int w, .int ht, .int fou, .ref aMf, .int ln, .int wd, .int rd, .int kp, .int car, .int hom, .int gol, .int hld, .double err, .int (0 : Int32), .int mvs, .int mde, .ref aNm, .ref aBe, .int (1 : Int32), .long p0, .ref aFa, .ref aCs, .ref aFr, .ref aRo, .ref aNe])), (aMf, .inl (cMf, 576, .inl mf)), (aNm, .inl (cNm, 4608, .inl nm)), (aBe, .inl (cBe, 4608, .inl be)), (aFa, .inl (cFa, 4608, .inl v_1.1)), (aCs, .inl (cCs, 4608, .inl v_1.2.1)), (aFr, .inl (cFr, 4608, .inl v_1.2.2.1)), (aRo, .inl (cRo, 4608, .inl v_1.2.2.2.1)), (aNe, .inl (cNe, 576, .inl v_1.2.2.2.2))] H := hP
      have hD : va_D A [(aM, .inr (6, [.int cod, .int w, .int ht, .int fou, .ref aMf, .int ln, .int wd, .int rd, .int kp, .int car, .int hom, .int gol, .int hld, .double err, .int (0 : Int32), .int mvs, .int mde, .ref aNm, .ref aBe, .int (1 : Int32), .long p0, .ref aFa, .ref aCs, .ref aFr, .ref aRo, .ref aNe])), (aMf, .inl (cMf, 576, .inl mf)), (aNm, .inl (cNm, 4608, .inl nm)), (aBe, .inl (cBe, 4608, .inl be)), (aFa, .inl (cFa, 4608, .inl v_1.1)), (aCs, .inl (cCs, 4608, .inl v_1.2.1)), (aFr, .inl (cFr, 4608, .inl v_1.2.2.1)), (aRo, .inl (cRo, 4608, .inl v_1.2.2.2.1)), (aNe, .inl (cNe, 576, .inl v_1.2.2.2.2))] := hD
      refine lv_aload_n hx hb dX5_search_80 rfl (lv_at hl 2 rfl) ?_
      refine va_get (D := D) (ci := 6) (v := .int (1 : Int32)) (C := RX5) (T := TX5) (N := 26) hx hb hts iX5 hown hK hP 0 rfl rfl 19 (by decide) k_6 (fun _ h9 => h9) rfl dX5_search_81 ?_
      refine lv_if_ne (tgt := 89) hx hb dX5_search_84 (by decide) (fun c_13 => ?_) (fun c_13 => absurd c_13 (by decide))
      refine lv_iload hx hb dX5_search_89 (lv_at hl 0 rfl) ?_
      refine lv_if_ne (tgt := 96) hx hb dX5_search_91 (by decide) (fun c_14 => ?_) (fun c_14 => absurd c_14 (by decide))
      refine lv_aload_n hx hb dX5_search_96 rfl (lv_at hl 2 rfl) ?_
      refine lv_iconst (v := 1) hx hb dX5_search_97 (by decide) ?_
      refine va_put (D := D) (ci := 6) (v := .int (1 : Int32)) (ty := .boolean) (C := RX5) (T := TX5) (N := 26) hx hb hts iX5 tyX5 tyX5_ok nmX5 hown hK hP hD hS 0 rfl rfl 14 (by decide) k_1 (fun _ h9 => h9) rfl (by decide +kernel) rfl rfl (Nat.le_of_ble_eq_true rfl) dX5_search_98 (fun H locs hP hD hS => ?_)
      have hP : va_P D vwCl [(aM, .inr (6, [.int cod, .int w, .int ht, .int fou, .ref aMf, .int ln, .int wd, .int rd, .int kp, .int car, .int hom, .int gol, .int hld, .double err, .int (1 : Int32), .int mvs, .int mde, .ref aNm, .ref aBe, .int (1 : Int32), .long p0, .ref aFa, .ref aCs, .ref aFr, .ref aRo, .ref aNe])), (aMf, .inl (cMf, 576, .inl mf)), (aNm, .inl (cNm, 4608, .inl nm)), (aBe, .inl (cBe, 4608, .inl be)), (aFa, .inl (cFa, 4608, .inl v_1.1)), (aCs, .inl (cCs, 4608, .inl v_1.2.1)), (aFr, .inl (cFr, 4608, .inl v_1.2.2.1)), (aRo, .inl (cRo, 4608, .inl v_1.2.2.2.1)), (aNe, .inl (cNe, 576, .inl v_1.2.2.2.2))] H := hP
      have hD : va_D A [(aM, .inr (6, [.int cod, .int w, .int ht, .int fou, .ref aMf, .int ln, .int wd, .int rd, .int kp, .int car, .int hom, .int gol, .int hld, .double err, .int (1 : Int32), .int mvs, .int mde, .ref aNm, .ref aBe, .int (1 : Int32), .long p0, .ref aFa, .ref aCs, .ref aFr, .ref aRo, .ref aNe])), (aMf, .inl (cMf, 576, .inl mf)), (aNm, .inl (cNm, 4608, .inl nm)), (aBe, .inl (cBe, 4608, .inl be)), (aFa, .inl (cFa, 4608, .inl v_1.1)), (aCs, .inl (cCs, 4608, .inl v_1.2.1)), (aFr, .inl (cFr, 4608, .inl v_1.2.2.1)), (aRo, .inl (cRo, 4608, .inl v_1.2.2.2.1)), (aNe, .inl (cNe, 576, .inl v_1.2.2.2.2))] := hD
      refine lv_aload_n hx hb dX5_search_101 rfl (lv_at hl 2 rfl) ?_
      refine lv_iconst (v := 0) hx hb dX5_search_102 (by decide) ?_
      refine va_put (D := D) (ci := 6) (v := .int (0 : Int32)) (ty := .int) (C := RX5) (T := TX5) (N := 26) hx hb hts iX5 tyX5 tyX5_ok nmX5 hown hK hP hD hS 0 rfl rfl 15 (by decide) k_7 (fun _ h9 => h9) rfl (by decide +kernel) rfl rfl (Nat.le_of_ble_eq_true rfl) dX5_search_103 (fun H locs hP hD hS => ?_)
      have hP : va_P D vwCl [(aM, .inr (6, [.int cod, .int w, .int ht, .int fou, .ref aMf, .int ln, .int wd, .int rd, .int kp, .int car, .int hom, .int gol, .int hld, .double err, .int (1 : Int32), .int (0 : Int32), .int mde, .ref aNm, .ref aBe, .int (1 : Int32), .long p0, .ref aFa, .ref aCs, .ref aFr, .ref aRo, .ref aNe])), (aMf, .inl (cMf, 576, .inl mf)), (aNm, .inl (cNm, 4608, .inl nm)), (aBe, .inl (cBe, 4608, .inl be)), (aFa, .inl (cFa, 4608, .inl v_1.1)), (aCs, .inl (cCs, 4608, .inl v_1.2.1)), (aFr, .inl (cFr, 4608, .inl v_1.2.2.1)), (aRo, .inl (cRo, 4608, .inl v_1.2.2.2.1)), (aNe, .inl (cNe, 576, .inl v_1.2.2.2.2))] H := hP
      have hD : va_D A [(aM, .inr (6, [.int cod, .int w, .int ht, .int fou, .ref aMf, .int ln, .int wd, .int rd, .int kp, .int car, .int hom, .int gol, .int hld, .double err, .int (1 : Int32), .int (0 : Int32), .int mde, .ref aNm, .ref aBe, .int (1 : Int32), .long p0, .ref aFa, .ref aCs, .ref aFr, .ref aRo, .ref aNe])), (aMf, .inl (cMf, 576, .inl mf)), (aNm, .inl (cNm, 4608, .inl nm)), (aBe, .inl (cBe, 4608, .inl be)), (aFa, .inl (cFa, 4608, .inl v_1.1)), (aCs, .inl (cCs, 4608, .inl v_1.2.1)), (aFr, .inl (cFr, 4608, .inl v_1.2.2.1)), (aRo, .inl (cRo, 4608, .inl v_1.2.2.2.1)), (aNe, .inl (cNe, 576, .inl v_1.2.2.2.2))] := hD
      refine lv_aload_n hx hb dX5_search_106 rfl (lv_at hl 2 rfl) ?_
      refine lv_iconst (v := 0) hx hb dX5_search_107 (by decide) ?_
      refine va_put (D := D) (ci := 6) (v := .int (0 : Int32)) (ty := .int) (C := RX5) (T := TX5) (N := 26) hx hb hts iX5 tyX5 tyX5_ok nmX5 hown hK hP hD hS 0 rfl rfl 16 (by decide) k_8 (fun _ h9 => h9) rfl (by decide +kernel) rfl rfl (Nat.le_of_ble_eq_true rfl) dX5_search_108 (fun H locs hP hD hS => ?_)
      have hP : va_P D vwCl [(aM, .inr (6, [.int cod, .int w, .int ht, .int fou, .ref aMf, .int ln, .int wd, .int rd, .int kp, .int car, .int hom, .int gol, .int hld, .double err, .int (1 : Int32), .int (0 : Int32), .int (0 : Int32), .ref aNm, .ref aBe, .int (1 : Int32), .long p0, .ref aFa, .ref aCs, .ref aFr, .ref aRo, .ref aNe])), (aMf, .inl (cMf, 576, .inl mf)), (aNm, .inl (cNm, 4608, .inl nm)), (aBe, .inl (cBe, 4608, .inl be)), (aFa, .inl (cFa, 4608, .inl v_1.1)), (aCs, .inl (cCs, 4608, .inl v_1.2.1)), (aFr, .inl (cFr, 4608, .inl v_1.2.2.1)), (aRo, .inl (cRo, 4608, .inl v_1.2.2.2.1)), (aNe, .inl (cNe, 576, .inl v_1.2.2.2.2))] H := hP
      have hD : va_D A [(aM, .inr (6, [.int cod, .int w, .int ht, .int fou, .ref aMf, .int ln, .int wd, .int rd, .int kp, .int car, .int hom, .int gol, .int hld, .double err, .int (1 : Int32), .int (0 : Int32), .int (0 : Int32), .ref aNm, .ref aBe, .int (1 : Int32), .long p0, .ref aFa, .ref aCs, .ref aFr, .ref aRo, .ref aNe])), (aMf, .inl (cMf, 576, .inl mf)), (aNm, .inl (cNm, 4608, .inl nm)), (aBe, .inl (cBe, 4608, .inl be)), (aFa, .inl (cFa, 4608, .inl v_1.1)), (aCs, .inl (cCs, 4608, .inl v_1.2.1)), (aFr, .inl (cFr, 4608, .inl v_1.2.2.1)), (aRo, .inl (cRo, 4608, .inl v_1.2.2.2.1)), (aNe, .inl (cNe, 576, .inl v_1.2.2.2.2))] := hD
      refine lv_aload_n hx hb dX5_search_111 rfl (lv_at hl 2 rfl) ?_
      refine va_get (D := D) (ci := 6) (v := .int car) (C := RX5) (T := TX5) (N := 26) hx hb hts iX5 hown hK hP 0 rfl rfl 9 (by decide) k_3 (fun _ h9 => h9) rfl dX5_search_112 ?_
      refine lv_istore (lv' := [(5, .int car), (4, .int (1 : Int32)), (3, .int v_2), (0, .ref aM), (1, .long p0)]) hx hb dX5_search_115 hl (by decide) rfl (fun ls hl => ?_)
      refine L_117 (1 : Int32) (0 : Int32) (1 : Int32) p0 v_1.1 v_1.2.1 v_1.2.2.1 v_1.2.2.2.1 v_1.2.2.2.2 _ ?_ F H locs car (0 : Int32) nm be ls hJ hP hD hS (lv_sub hl [3, 0] rfl)
      · intro H locs x5_49 xmvs_50 xnm_51 xbe_52 ls hJ hP hD hS hl
        refine lv_iconst (v := 1) hx hb dX5_search_191 (by decide) ?_
        have ho := Option.some.inj hJ
        exact W.iret (v := (1 : Int32)) hx hb hr (fun t ht hW => ⟨⟨_, (), rfl, (by rw [← ho]), (by rw [ht, ← ho]; exact hP), (by rw [← ho]; exact hD)⟩, hS.F ht⟩) hS.2.2 dX5_search_192
set_option maxHeartbeats 4000000 in
set_option maxRecDepth 100000 in
theorem c_X5_set (l : Launch) (D : va_G) (aM aMf aNm aBe aFa aCs aFr aRo aNe : Nat) (cMf cNm cBe cFa cCs cFr cRo cNe : ClassId) (cod : Int32) (w : Int32) (ht : Int32) (fou : Int32) (ln : Int32) (wd : Int32) (rd : Int32) (kp : Int32) (car : Int32) (hom : Int32) (gol : Int32) (hld : Int32) (err : UInt64) (isw : Int32) (mvs : Int32) (mde : Int32) (exa : Int32) (lst : Int64) (mf : Nat → Int32) (nm : Nat → Int32) (be : Nat → Int32) (fa : Nat → Int32) (cs : Nat → Int32) (fr : Nat → Int32) (ro : Nat → Int32) (ne : Nat → Int32) (p0 : Int32) (p1 : Int32) (p2 : Int32) (tX tY sz F : Nat) (o : Int32 × Int32 × (Nat → Int32)) (hJ : J_X5_set F w ht mf p0 p1 p2 = some o) : Met l yX5_set wsX5_set rmX5_set (va_Pc [.ref aM, .int p0, .int p1, .int p2] (pcW D [(aM, .inr (6, [.int cod, .int w, .int ht, .int fou, .ref aMf, .int ln, .int wd, .int rd, .int kp, .int car, .int hom, .int gol, .int hld, .double err, .int isw, .int mvs, .int mde, .ref aNm, .ref aBe, .int exa, .long lst, .ref aFa, .ref aCs, .ref aFr, .ref aRo, .ref aNe])), (aMf, .inl (cMf, 576, .inl mf)), (aNm, .inl (cNm, 4608, .inl nm)), (aBe, .inl (cBe, 4608, .inl be)), (aFa, .inl (cFa, 4608, .inl fa)), (aCs, .inl (cCs, 4608, .inl cs)), (aFr, .inl (cFr, 4608, .inl fr)), (aRo, .inl (cRo, 4608, .inl ro)), (aNe, .inl (cNe, 576, .inl ne))] [(cMf, .boolean), (cNm, .int), (cBe, .int), (cFa, .int), (cCs, .int), (cFr, .boolean), (cRo, .int), (cNe, .int)] sz tX tY)) (qWi D o.1 [(aM, .inr (6, [.int o.2.1, .int w, .int ht, .int fou, .ref aMf, .int ln, .int wd, .int rd, .int kp, .int car, .int hom, .int gol, .int hld, .double err, .int isw, .int mvs, .int mde, .ref aNm, .ref aBe, .int exa, .long lst, .ref aFa, .ref aCs, .ref aFr, .ref aRo, .ref aNe])), (aMf, .inl (cMf, 576, .inl o.2.2)), (aNm, .inl (cNm, 4608, .inl nm)), (aBe, .inl (cBe, 4608, .inl be)), (aFa, .inl (cFa, 4608, .inl fa)), (aCs, .inl (cCs, 4608, .inl cs)), (aFr, .inl (cFr, 4608, .inl fr)), (aRo, .inl (cRo, 4608, .inl ro)), (aNe, .inl (cNe, 576, .inl ne))] (va_A [(aM, .inr (6, [.int cod, .int w, .int ht, .int fou, .ref aMf, .int ln, .int wd, .int rd, .int kp, .int car, .int hom, .int gol, .int hld, .double err, .int isw, .int mvs, .int mde, .ref aNm, .ref aBe, .int exa, .long lst, .ref aFa, .ref aCs, .ref aFr, .ref aRo, .ref aNe])), (aMf, .inl (cMf, 576, .inl mf)), (aNm, .inl (cNm, 4608, .inl nm)), (aBe, .inl (cBe, 4608, .inl be)), (aFa, .inl (cFa, 4608, .inl fa)), (aCs, .inl (cCs, 4608, .inl cs)), (aFr, .inl (cFr, 4608, .inl fr)), (aRo, .inl (cRo, 4608, .inl ro)), (aNe, .inl (cNe, 576, .inl ne))] sz)) 0 0 (va_A [(aM, .inr (6, [.int cod, .int w, .int ht, .int fou, .ref aMf, .int ln, .int wd, .int rd, .int kp, .int car, .int hom, .int gol, .int hld, .double err, .int isw, .int mvs, .int mde, .ref aNm, .ref aBe, .int exa, .long lst, .ref aFa, .ref aCs, .ref aFr, .ref aRo, .ref aNe])), (aMf, .inl (cMf, 576, .inl mf)), (aNm, .inl (cNm, 4608, .inl nm)), (aBe, .inl (cBe, 4608, .inl be)), (aFa, .inl (cFa, 4608, .inl fa)), (aCs, .inl (cCs, 4608, .inl cs)), (aFr, .inl (cFr, 4608, .inl fr)), (aRo, .inl (cRo, 4608, .inl ro)), (aNe, .inl (cNe, 576, .inl ne))] sz) := by
  refine Met.ofW (cc := cX5_set) (maxL := 5) (ret := (some .boolean)) (by decide) rfl ?_
  intro p e s m args below meth c s₁ B hml hv
  obtain ⟨rfl, hsz, hP, hK, hD0, hST⟩ := hv
  have hx := B.exec
  have hb := B.bytes
  have hr := B.returns
  have hts := atoms_spec (ws := wsX5_set) B.pre
  have hown : s.vm.findClass RX5 = some m.cls := findClass_of_methodNamed B.named
  have hlocks := B.notSynchronized
  subst hsz
  have hD := hD0.self (sz := s.heap.size)
  generalize hAe : va_A [(aM, .inr (6, [.int cod, .int w, .int ht, .int fou, .ref aMf, .int ln, .int wd, .int rd, .int kp, .int car, .int hom, .int gol, .int hld, .double err, .int isw, .int mvs, .int mde, .ref aNm, .ref aBe, .int exa, .long lst, .ref aFa, .ref aCs, .ref aFr, .ref aRo, .ref aNe])), (aMf, .inl (cMf, 576, .inl mf)), (aNm, .inl (cNm, 4608, .inl nm)), (aBe, .inl (cBe, 4608, .inl be)), (aFa, .inl (cFa, 4608, .inl fa)), (aCs, .inl (cCs, 4608, .inl cs)), (aFr, .inl (cFr, 4608, .inl fr)), (aRo, .inl (cRo, 4608, .inl ro)), (aNe, .inl (cNe, 576, .inl ne))] s.heap.size = A at hD hST ⊢
  have hA : ∀ q : Nat, s.heap.size ≤ q → A q := fun q h => by rw [← hAe]; exact Or.inr h
  have hS : va_S A s.heap s.heap [] := va_S.rf
  have hl := lv_entry ([.ref aM, .int p0, .int p1, .int p2]) (n := 5) (Nat.le_of_ble_eq_true rfl)
  rw [lg_entry_eq]
  generalize (lg_sl ([.ref aM, .int p0, .int p1, .int p2]) ++ List.replicate (5 - (lg_sl ([.ref aM, .int p0, .int p1, .int p2])).length) Slot.unset).toArray = ls at hl ⊢
  have hl : lv_has ls 5 [(0, .ref aM), (1, .int p0), (2, .int p1), (3, .int p2)] := hl
  have iX5 : ∀ w ∈ wsX50, w ∈ wsX5_set := fun w h => List.mem_cons_of_mem _ (List.mem_append_right _ h)
  have k_1 := hts (.fieldLink RX5 58 "ParkWaysModel" "code" "I") (List.mem_of_getElem? (i := 1) rfl)
  have k_2 := hts (.fieldLink RX5 7 "ParkWaysModel" "full" "[Z") (List.mem_of_getElem? (i := 2) rfl)
  unfold J_X5_set at hJ
  refine lv_aload_n hx hb dX5_set_0 rfl (lv_at hl 0 rfl) ?_
  refine lv_aload_n hx hb dX5_set_1 rfl (lv_at hl 0 rfl) ?_
  refine lv_iload_n hx hb dX5_set_2 rfl (lv_at hl 1 rfl) ?_
  refine lv_iload_n hx hb dX5_set_3 rfl (lv_at hl 2 rfl) ?_
  obtain ⟨v_1, hv_1, hJ⟩ := j_b hJ
  refine ro_i (va_runV (As := [.int p0, .int p1]) (rest := [.ref aM]) ⟨hx, hb, hml, hown, hts⟩ (c_X5_isCell l D aM aMf aNm aBe aFa aCs aFr aRo aNe cMf cNm cBe cFa cCs cFr cRo cNe cod w ht fou ln wd rd kp car hom gol hld err isw mvs mde exa lst mf nm be fa cs fr ro ne p0 p1 tX tY s.heap.size F v_1 hv_1) (cwV 2 hts gX5_set_X5_isCell rfl rfl rfl (by decide +kernel) ⟨Nat.le_of_ble_eq_true rfl, Nat.le_of_ble_eq_true rfl⟩) (preRV [.int p0, .int p1] hP hK hS hA hST [0, 1, 2, 3, 4, 5, 6, 7, 8] rfl [0, 1, 2, 3, 4, 5, 6, 7] rfl (ci := 6) (q0 := 0) rfl rfl) rfl rfl hl.1 rfl (lv_room (Nat.le_of_ble_eq_true rfl)) dX5_set_4 ⟨Nat.zero_le _, Nat.zero_le _⟩) hP hS hA (fun H locs hP hS => ?_)
  refine lv_if_eq (tgt := 14) hx hb dX5_set_7 (by decide) (fun c_2 => ?_) (fun c_2 => ?_)
  · have hJ := j_t c_2 hJ
    refine lv_iconst (v := 1) hx hb dX5_set_14 (by decide) ?_
    refine va_put (D := D) (ci := 6) (v := .int (1 : Int32)) (ty := .int) (C := RX5) (T := TX5) (N := 26) hx hb hts iX5 tyX5 tyX5_ok nmX5 hown hK hP hD hS 0 rfl rfl 0 (by decide) k_1 (fun _ h9 => h9) rfl (by decide +kernel) rfl rfl (Nat.le_of_ble_eq_true rfl) dX5_set_15 (fun H locs hP hD hS => ?_)
    have hP : va_P D vwCl [(aM, .inr (6, [.int (1 : Int32), .int w, .int ht, .int fou, .ref aMf, .int ln, .int wd, .int rd, .int kp, .int car, .int hom, .int gol, .int hld, .double err, .int isw, .int mvs, .int mde, .ref aNm, .ref aBe, .int exa, .long lst, .ref aFa, .ref aCs, .ref aFr, .ref aRo, .ref aNe])), (aMf, .inl (cMf, 576, .inl mf)), (aNm, .inl (cNm, 4608, .inl nm)), (aBe, .inl (cBe, 4608, .inl be)), (aFa, .inl (cFa, 4608, .inl fa)), (aCs, .inl (cCs, 4608, .inl cs)), (aFr, .inl (cFr, 4608, .inl fr)), (aRo, .inl (cRo, 4608, .inl ro)), (aNe, .inl (cNe, 576, .inl ne))] H := hP
    have hD : va_D A [(aM, .inr (6, [.int (1 : Int32), .int w, .int ht, .int fou, .ref aMf, .int ln, .int wd, .int rd, .int kp, .int car, .int hom, .int gol, .int hld, .double err, .int isw, .int mvs, .int mde, .ref aNm, .ref aBe, .int exa, .long lst, .ref aFa, .ref aCs, .ref aFr, .ref aRo, .ref aNe])), (aMf, .inl (cMf, 576, .inl mf)), (aNm, .inl (cNm, 4608, .inl nm)), (aBe, .inl (cBe, 4608, .inl be)), (aFa, .inl (cFa, 4608, .inl fa)), (aCs, .inl (cCs, 4608, .inl cs)), (aFr, .inl (cFr, 4608, .inl fr)), (aRo, .inl (cRo, 4608, .inl ro)), (aNe, .inl (cNe, 576, .inl ne))] := hD
    refine lv_aload_n hx hb dX5_set_18 rfl (lv_at hl 0 rfl) ?_
    refine va_get (D := D) (ci := 6) (v := .int (1 : Int32)) (C := RX5) (T := TX5) (N := 26) hx hb hts iX5 hown hK hP 0 rfl rfl 0 (by decide) k_1 (fun _ h9 => h9) rfl dX5_set_19 ?_
    refine lv_if_le (tgt := 27) hx hb dX5_set_22 (by decide) (fun c_3 => absurd c_3 (by decide)) (fun c_3 => ?_)
    refine lv_iconst (v := 0) hx hb dX5_set_25 (by decide) ?_
    have ho := Option.some.inj hJ
    exact W.zret (v := (0 : Int32)) hx hb hr rfl (fun t ht hW => ⟨⟨_, (), rfl, (by rw [← ho]), (by rw [ht, ← ho]; exact hP), (by rw [← ho]; exact hD)⟩, hS.F ht⟩) hS.2.2 dX5_set_26
  · have hJ := j_f c_2 hJ
    refine lv_iconst (v := 0) hx hb dX5_set_10 (by decide) ?_
    refine lv_goto (tgt := 15) hx hb dX5_set_11 (by decide) ?_
    refine va_put (D := D) (ci := 6) (v := .int (0 : Int32)) (ty := .int) (C := RX5) (T := TX5) (N := 26) hx hb hts iX5 tyX5 tyX5_ok nmX5 hown hK hP hD hS 0 rfl rfl 0 (by decide) k_1 (fun _ h9 => h9) rfl (by decide +kernel) rfl rfl (Nat.le_of_ble_eq_true rfl) dX5_set_15 (fun H locs hP hD hS => ?_)
    have hP : va_P D vwCl [(aM, .inr (6, [.int (0 : Int32), .int w, .int ht, .int fou, .ref aMf, .int ln, .int wd, .int rd, .int kp, .int car, .int hom, .int gol, .int hld, .double err, .int isw, .int mvs, .int mde, .ref aNm, .ref aBe, .int exa, .long lst, .ref aFa, .ref aCs, .ref aFr, .ref aRo, .ref aNe])), (aMf, .inl (cMf, 576, .inl mf)), (aNm, .inl (cNm, 4608, .inl nm)), (aBe, .inl (cBe, 4608, .inl be)), (aFa, .inl (cFa, 4608, .inl fa)), (aCs, .inl (cCs, 4608, .inl cs)), (aFr, .inl (cFr, 4608, .inl fr)), (aRo, .inl (cRo, 4608, .inl ro)), (aNe, .inl (cNe, 576, .inl ne))] H := hP
    have hD : va_D A [(aM, .inr (6, [.int (0 : Int32), .int w, .int ht, .int fou, .ref aMf, .int ln, .int wd, .int rd, .int kp, .int car, .int hom, .int gol, .int hld, .double err, .int isw, .int mvs, .int mde, .ref aNm, .ref aBe, .int exa, .long lst, .ref aFa, .ref aCs, .ref aFr, .ref aRo, .ref aNe])), (aMf, .inl (cMf, 576, .inl mf)), (aNm, .inl (cNm, 4608, .inl nm)), (aBe, .inl (cBe, 4608, .inl be)), (aFa, .inl (cFa, 4608, .inl fa)), (aCs, .inl (cCs, 4608, .inl cs)), (aFr, .inl (cFr, 4608, .inl fr)), (aRo, .inl (cRo, 4608, .inl ro)), (aNe, .inl (cNe, 576, .inl ne))] := hD
    refine lv_aload_n hx hb dX5_set_18 rfl (lv_at hl 0 rfl) ?_
    refine va_get (D := D) (ci := 6) (v := .int (0 : Int32)) (C := RX5) (T := TX5) (N := 26) hx hb hts iX5 hown hK hP 0 rfl rfl 0 (by decide) k_1 (fun _ h9 => h9) rfl dX5_set_19 ?_
    refine lv_if_le (tgt := 27) hx hb dX5_set_22 (by decide) (fun c_4 => ?_) (fun c_4 => absurd (by decide) c_4)
    refine lv_aload_n hx hb dX5_set_27 rfl (lv_at hl 0 rfl) ?_
    refine va_get (D := D) (ci := 6) (v := .ref aMf) (C := RX5) (T := TX5) (N := 26) hx hb hts iX5 hown hK hP 0 rfl rfl 4 (by decide) k_2 (fun _ h9 => h9) rfl dX5_set_28 ?_
    refine lv_bipush (v := 24) hx hb dX5_set_31 (by decide) ?_
    refine lv_iload_n hx hb dX5_set_33 rfl (lv_at hl 2 rfl) ?_
    refine lv_imul hx hb dX5_set_34 ?_
    refine lv_iload_n hx hb dX5_set_35 rfl (lv_at hl 1 rfl) ?_
    refine lv_iadd hx hb dX5_set_36 ?_
    obtain ⟨h_5, hJ⟩ := g_in hJ
    refine va_zald hx hb hK hP 1 0 rfl rfl h_5 dX5_set_37 ?_
    refine lv_iload_n hx hb dX5_set_38 rfl (lv_at hl 3 rfl) ?_
    refine lv_icmp_eq (tgt := 46) hx hb dX5_set_39 (by decide) (fun c_6 => ?_) (fun c_6 => ?_)
    · have hJ := j_t c_6 hJ
      refine lv_iconst (v := 0) hx hb dX5_set_46 (by decide) ?_
      refine lv_istore (lv' := [(4, .int (0 : Int32)), (0, .ref aM), (1, .int p0), (2, .int p1), (3, .int p2)]) hx hb dX5_set_47 hl (by decide) rfl (fun ls hl => ?_)
      refine lv_aload_n hx hb dX5_set_49 rfl (lv_at hl 1 rfl) ?_
      refine va_get (D := D) (ci := 6) (v := .ref aMf) (C := RX5) (T := TX5) (N := 26) hx hb hts iX5 hown hK hP 0 rfl rfl 4 (by decide) k_2 (fun _ h9 => h9) rfl dX5_set_50 ?_
      refine lv_bipush (v := 24) hx hb dX5_set_53 (by decide) ?_
      refine lv_iload_n hx hb dX5_set_55 rfl (lv_at hl 3 rfl) ?_
      refine lv_imul hx hb dX5_set_56 ?_
      refine lv_iload_n hx hb dX5_set_57 rfl (lv_at hl 2 rfl) ?_
      refine lv_iadd hx hb dX5_set_58 ?_
      refine lv_iload_n hx hb dX5_set_59 rfl (lv_at hl 4 rfl) ?_
      obtain ⟨h_7, hJ⟩ := g_in hJ
      refine va_zast hx hb hK hP hD hS 1 0 rfl rfl h_7 dX5_set_60 (fun H locs hP hD hS => ?_)
      have hP : va_P D vwCl [(aM, .inr (6, [.int (0 : Int32), .int w, .int ht, .int fou, .ref aMf, .int ln, .int wd, .int rd, .int kp, .int car, .int hom, .int gol, .int hld, .double err, .int isw, .int mvs, .int mde, .ref aNm, .ref aBe, .int exa, .long lst, .ref aFa, .ref aCs, .ref aFr, .ref aRo, .ref aNe])), (aMf, .inl (cMf, 576, .inl (upd mf (((24 : Int32) * p1) + p0).toNatClampNeg (vp_nar .boolean p2)))), (aNm, .inl (cNm, 4608, .inl nm)), (aBe, .inl (cBe, 4608, .inl be)), (aFa, .inl (cFa, 4608, .inl fa)), (aCs, .inl (cCs, 4608, .inl cs)), (aFr, .inl (cFr, 4608, .inl fr)), (aRo, .inl (cRo, 4608, .inl ro)), (aNe, .inl (cNe, 576, .inl ne))] H := hP
      have hD : va_D A [(aM, .inr (6, [.int (0 : Int32), .int w, .int ht, .int fou, .ref aMf, .int ln, .int wd, .int rd, .int kp, .int car, .int hom, .int gol, .int hld, .double err, .int isw, .int mvs, .int mde, .ref aNm, .ref aBe, .int exa, .long lst, .ref aFa, .ref aCs, .ref aFr, .ref aRo, .ref aNe])), (aMf, .inl (cMf, 576, .inl (upd mf (((24 : Int32) * p1) + p0).toNatClampNeg (vp_nar .boolean p2)))), (aNm, .inl (cNm, 4608, .inl nm)), (aBe, .inl (cBe, 4608, .inl be)), (aFa, .inl (cFa, 4608, .inl fa)), (aCs, .inl (cCs, 4608, .inl cs)), (aFr, .inl (cFr, 4608, .inl fr)), (aRo, .inl (cRo, 4608, .inl ro)), (aNe, .inl (cNe, 576, .inl ne))] := hD
      refine lv_iload hx hb dX5_set_61 (lv_at hl 0 rfl) ?_
      have ho := Option.some.inj hJ
      exact W.zret (v := (0 : Int32)) hx hb hr rfl (fun t ht hW => ⟨⟨_, (), rfl, (by rw [← ho]), (by rw [ht, ← ho]; exact hP), (by rw [← ho]; exact hD)⟩, hS.F ht⟩) hS.2.2 dX5_set_63
    · have hJ := j_f c_6 hJ
      refine lv_iconst (v := 1) hx hb dX5_set_42 (by decide) ?_
      refine lv_goto (tgt := 47) hx hb dX5_set_43 (by decide) ?_
      refine lv_istore (lv' := [(4, .int (1 : Int32)), (0, .ref aM), (1, .int p0), (2, .int p1), (3, .int p2)]) hx hb dX5_set_47 hl (by decide) rfl (fun ls hl => ?_)
      refine lv_aload_n hx hb dX5_set_49 rfl (lv_at hl 1 rfl) ?_
      refine va_get (D := D) (ci := 6) (v := .ref aMf) (C := RX5) (T := TX5) (N := 26) hx hb hts iX5 hown hK hP 0 rfl rfl 4 (by decide) k_2 (fun _ h9 => h9) rfl dX5_set_50 ?_
      refine lv_bipush (v := 24) hx hb dX5_set_53 (by decide) ?_
      refine lv_iload_n hx hb dX5_set_55 rfl (lv_at hl 3 rfl) ?_
      refine lv_imul hx hb dX5_set_56 ?_
      refine lv_iload_n hx hb dX5_set_57 rfl (lv_at hl 2 rfl) ?_
      refine lv_iadd hx hb dX5_set_58 ?_
      refine lv_iload_n hx hb dX5_set_59 rfl (lv_at hl 4 rfl) ?_
      obtain ⟨h_8, hJ⟩ := g_in hJ
      refine va_zast hx hb hK hP hD hS 1 0 rfl rfl h_8 dX5_set_60 (fun H locs hP hD hS => ?_)
      have hP : va_P D vwCl [(aM, .inr (6, [.int (0 : Int32), .int w, .int ht, .int fou, .ref aMf, .int ln, .int wd, .int rd, .int kp, .int car, .int hom, .int gol, .int hld, .double err, .int isw, .int mvs, .int mde, .ref aNm, .ref aBe, .int exa, .long lst, .ref aFa, .ref aCs, .ref aFr, .ref aRo, .ref aNe])), (aMf, .inl (cMf, 576, .inl (upd mf (((24 : Int32) * p1) + p0).toNatClampNeg (vp_nar .boolean p2)))), (aNm, .inl (cNm, 4608, .inl nm)), (aBe, .inl (cBe, 4608, .inl be)), (aFa, .inl (cFa, 4608, .inl fa)), (aCs, .inl (cCs, 4608, .inl cs)), (aFr, .inl (cFr, 4608, .inl fr)), (aRo, .inl (cRo, 4608, .inl ro)), (aNe, .inl (cNe, 576, .inl ne))] H := hP
      have hD : va_D A [(aM, .inr (6, [.int (0 : Int32), .int w, .int ht, .int fou, .ref aMf, .int ln, .int wd, .int rd, .int kp, .int car, .int hom, .int gol, .int hld, .double err, .int isw, .int mvs, .int mde, .ref aNm, .ref aBe, .int exa, .long lst, .ref aFa, .ref aCs, .ref aFr, .ref aRo, .ref aNe])), (aMf, .inl (cMf, 576, .inl (upd mf (((24 : Int32) * p1) + p0).toNatClampNeg (vp_nar .boolean p2)))), (aNm, .inl (cNm, 4608, .inl nm)), (aBe, .inl (cBe, 4608, .inl be)), (aFa, .inl (cFa, 4608, .inl fa)), (aCs, .inl (cCs, 4608, .inl cs)), (aFr, .inl (cFr, 4608, .inl fr)), (aRo, .inl (cRo, 4608, .inl ro)), (aNe, .inl (cNe, 576, .inl ne))] := hD
      refine lv_iload hx hb dX5_set_61 (lv_at hl 0 rfl) ?_
      have ho := Option.some.inj hJ
      exact W.zret (v := (1 : Int32)) hx hb hr rfl (fun t ht hW => ⟨⟨_, (), rfl, (by rw [← ho]), (by rw [ht, ← ho]; exact hP), (by rw [← ho]; exact hD)⟩, hS.F ht⟩) hS.2.2 dX5_set_63
