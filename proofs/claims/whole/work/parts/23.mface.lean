set_option maxHeartbeats 4000000 in
set_option maxRecDepth 100000 in
theorem c_X5_cell (l : Launch) (D : va_G) (aM aMf aNm aBe aFa aCs aFr aRo aNe : Nat) (cMf cNm cBe cFa cCs cFr cRo cNe : ClassId) (cod : Int32) (w : Int32) (ht : Int32) (fou : Int32) (ln : Int32) (wd : Int32) (rd : Int32) (kp : Int32) (car : Int32) (hom : Int32) (gol : Int32) (hld : Int32) (err : UInt64) (isw : Int32) (mvs : Int32) (mde : Int32) (exa : Int32) (lst : Int64) (mf : Nat → Int32) (nm : Nat → Int32) (be : Nat → Int32) (fa : Nat → Int32) (cs : Nat → Int32) (fr : Nat → Int32) (ro : Nat → Int32) (ne : Nat → Int32) (p0 : Int32) (p1 : Int32) (p2 : Int32) (tX tY sz F : Nat) (o : Int32 × Int32 × Int32 × (Nat → Int32)) (hJ : J_X5_cell F w ht isw mf p0 p1 p2 = some o) : Met l yX5_cell wsX5_cell rmX5_cell (va_Pc [.ref aM, .int p0, .int p1, .int p2] (pcW D [(aM, .inr (6, [.int cod, .int w, .int ht, .int fou, .ref aMf, .int ln, .int wd, .int rd, .int kp, .int car, .int hom, .int gol, .int hld, .double err, .int isw, .int mvs, .int mde, .ref aNm, .ref aBe, .int exa, .long lst, .ref aFa, .ref aCs, .ref aFr, .ref aRo, .ref aNe])), (aMf, .inl (cMf, 576, .inl mf)), (aNm, .inl (cNm, 4608, .inl nm)), (aBe, .inl (cBe, 4608, .inl be)), (aFa, .inl (cFa, 4608, .inl fa)), (aCs, .inl (cCs, 4608, .inl cs)), (aFr, .inl (cFr, 4608, .inl fr)), (aRo, .inl (cRo, 4608, .inl ro)), (aNe, .inl (cNe, 576, .inl ne))] [(cMf, .boolean), (cNm, .int), (cBe, .int), (cFa, .int), (cCs, .int), (cFr, .boolean), (cRo, .int), (cNe, .int)] sz tX tY)) (qWi D o.1 [(aM, .inr (6, [.int o.2.1, .int w, .int ht, .int fou, .ref aMf, .int ln, .int wd, .int rd, .int kp, .int car, .int hom, .int gol, .int hld, .double err, .int o.2.2.1, .int mvs, .int mde, .ref aNm, .ref aBe, .int exa, .long lst, .ref aFa, .ref aCs, .ref aFr, .ref aRo, .ref aNe])), (aMf, .inl (cMf, 576, .inl o.2.2.2)), (aNm, .inl (cNm, 4608, .inl nm)), (aBe, .inl (cBe, 4608, .inl be)), (aFa, .inl (cFa, 4608, .inl fa)), (aCs, .inl (cCs, 4608, .inl cs)), (aFr, .inl (cFr, 4608, .inl fr)), (aRo, .inl (cRo, 4608, .inl ro)), (aNe, .inl (cNe, 576, .inl ne))] (va_A [(aM, .inr (6, [.int cod, .int w, .int ht, .int fou, .ref aMf, .int ln, .int wd, .int rd, .int kp, .int car, .int hom, .int gol, .int hld, .double err, .int isw, .int mvs, .int mde, .ref aNm, .ref aBe, .int exa, .long lst, .ref aFa, .ref aCs, .ref aFr, .ref aRo, .ref aNe])), (aMf, .inl (cMf, 576, .inl mf)), (aNm, .inl (cNm, 4608, .inl nm)), (aBe, .inl (cBe, 4608, .inl be)), (aFa, .inl (cFa, 4608, .inl fa)), (aCs, .inl (cCs, 4608, .inl cs)), (aFr, .inl (cFr, 4608, .inl fr)), (aRo, .inl (cRo, 4608, .inl ro)), (aNe, .inl (cNe, 576, .inl ne))] sz)) 0 0 (va_A [(aM, .inr (6, [.int cod, .int w, .int ht, .int fou, .ref aMf, .int ln, .int wd, .int rd, .int kp, .int car, .int hom, .int gol, .int hld, .double err, .int isw, .int mvs, .int mde, .ref aNm, .ref aBe, .int exa, .long lst, .ref aFa, .ref aCs, .ref aFr, .ref aRo, .ref aNe])), (aMf, .inl (cMf, 576, .inl mf)), (aNm, .inl (cNm, 4608, .inl nm)), (aBe, .inl (cBe, 4608, .inl be)), (aFa, .inl (cFa, 4608, .inl fa)), (aCs, .inl (cCs, 4608, .inl cs)), (aFr, .inl (cFr, 4608, .inl fr)), (aRo, .inl (cRo, 4608, .inl ro)), (aNe, .inl (cNe, 576, .inl ne))] sz) := by
  refine Met.ofW (cc := cX5_cell) (maxL := 5) (ret := (some .int)) (by decide) rfl ?_
  intro p e s m args below meth c s₁ B hml hv
  obtain ⟨rfl, hsz, hP, hK, hD0, hST⟩ := hv
  have hx := B.exec
  have hb := B.bytes
  have hr := B.returns
  have hts := atoms_spec (ws := wsX5_cell) B.pre
  have hown : s.vm.findClass RX5 = some m.cls := findClass_of_methodNamed B.named
  have hlocks := B.notSynchronized
  subst hsz
  have hD := hD0.self (sz := s.heap.size)
  generalize hAe : va_A [(aM, .inr (6, [.int cod, .int w, .int ht, .int fou, .ref aMf, .int ln, .int wd, .int rd, .int kp, .int car, .int hom, .int gol, .int hld, .double err, .int isw, .int mvs, .int mde, .ref aNm, .ref aBe, .int exa, .long lst, .ref aFa, .ref aCs, .ref aFr, .ref aRo, .ref aNe])), (aMf, .inl (cMf, 576, .inl mf)), (aNm, .inl (cNm, 4608, .inl nm)), (aBe, .inl (cBe, 4608, .inl be)), (aFa, .inl (cFa, 4608, .inl fa)), (aCs, .inl (cCs, 4608, .inl cs)), (aFr, .inl (cFr, 4608, .inl fr)), (aRo, .inl (cRo, 4608, .inl ro)), (aNe, .inl (cNe, 576, .inl ne))] s.heap.size = A at hD hST ⊢
  have hA : ∀ q : Nat, s.heap.size ≤ q → A q := fun q h => by rw [← hAe]; exact Or.inr h
  have hS : va_S A s.heap s.heap [] := va_S.rf
  have hl := lv_entry ([.ref aM, .int p0, .int p1, .int p2]) (n := 5) (Nat.le_of_ble_eq_true rfl)
  rw [lg_entry_eq]
  generalize (lg_sl ([.ref aM, .int p0, .int p1, .int p2]) ++ List.replicate (5 - (lg_sl ([.ref aM, .int p0, .int p1, .int p2])).length) Slot.unset).toArray = ls at hl ⊢
  have hl : lv_has ls 5 [(0, .ref aM), (1, .int p0), (2, .int p1), (3, .int p2)] := hl
  have iX5 : ∀ w ∈ wsX50, w ∈ wsX5_cell := fun w h => List.mem_cons_of_mem _ (List.mem_append_right _ h)
  have k_1 := hts (.fieldLink RX5 58 "ParkWaysModel" "code" "I") (List.mem_of_getElem? (i := 1) rfl)
  have k_2 := hts (.fieldLink RX5 118 "ParkWaysModel" "isWay" "Z") (List.mem_of_getElem? (i := 2) rfl)
  unfold J_X5_cell at hJ
  refine lv_aload_n hx hb dX5_cell_0 rfl (lv_at hl 0 rfl) ?_
  refine lv_iload_n hx hb dX5_cell_1 rfl (lv_at hl 1 rfl) ?_
  refine lv_iload_n hx hb dX5_cell_2 rfl (lv_at hl 2 rfl) ?_
  refine lv_iload_n hx hb dX5_cell_3 rfl (lv_at hl 3 rfl) ?_
  obtain ⟨v_1, hv_1, hJ⟩ := j_b hJ
  refine wr_i (wr := []) (wn := [(aM, .inr (6, [.int v_1.2.1, .int w, .int ht, .int fou, .ref aMf, .int ln, .int wd, .int rd, .int kp, .int car, .int hom, .int gol, .int hld, .double err, .int isw, .int mvs, .int mde, .ref aNm, .ref aBe, .int exa, .long lst, .ref aFa, .ref aCs, .ref aFr, .ref aRo, .ref aNe])), (aMf, .inl (cMf, 576, .inl v_1.2.2)), (aNm, .inl (cNm, 4608, .inl nm)), (aBe, .inl (cBe, 4608, .inl be)), (aFa, .inl (cFa, 4608, .inl fa)), (aCs, .inl (cCs, 4608, .inl cs)), (aFr, .inl (cFr, 4608, .inl fr)), (aRo, .inl (cRo, 4608, .inl ro)), (aNe, .inl (cNe, 576, .inl ne))]) (va_runV (As := [.int p0, .int p1, .int p2]) (rest := []) ⟨hx, hb, hml, hown, hts⟩ (c_X5_set l D aM aMf aNm aBe aFa aCs aFr aRo aNe cMf cNm cBe cFa cCs cFr cRo cNe cod w ht fou ln wd rd kp car hom gol hld err isw mvs mde exa lst mf nm be fa cs fr ro ne p0 p1 p2 tX tY s.heap.size F v_1 hv_1) (cwV 3 hts gX5_cell_X5_set rfl rfl rfl (by decide +kernel) ⟨Nat.le_of_ble_eq_true rfl, Nat.le_of_ble_eq_true rfl⟩) (preWV [.int p0, .int p1, .int p2] hP hD hK hS hA hST [0, 1, 2, 3, 4, 5, 6, 7, 8] rfl rfl rfl [0, 1, 2, 3, 4, 5, 6, 7] rfl (ci := 6) (q0 := 0) rfl rfl) rfl rfl hl.1 rfl (lv_room (Nat.le_of_ble_eq_true rfl)) dX5_cell_4 ⟨Nat.zero_le _, Nat.zero_le _⟩) hP hD hS hA [0, 1, 2, 3, 4, 5, 6, 7, 8] [] rfl rfl rfl (by decide) [0, 1, 2, 3, 4, 5, 6, 7, 8] rfl rfl rfl (fun H locs hP hD hS => ?_)
  refine lv_istore (lv' := [(4, .int v_1.1), (0, .ref aM), (1, .int p0), (2, .int p1), (3, .int p2)]) hx hb dX5_cell_7 hl (by decide) rfl (fun ls hl => ?_)
  refine lv_aload_n hx hb dX5_cell_9 rfl (lv_at hl 1 rfl) ?_
  refine va_get (D := D) (ci := 6) (v := .int v_1.2.1) (C := RX5) (T := TX5) (N := 26) hx hb hts iX5 hown hK hP 0 rfl rfl 0 (by decide) k_1 (fun _ h9 => h9) rfl dX5_cell_10 ?_
  refine lv_if_ne (tgt := 21) hx hb dX5_cell_13 (by decide) (fun c_2 => ?_) (fun c_2 => ?_)
  · have hJ := j_f c_2 hJ
    refine lv_iload hx hb dX5_cell_21 (lv_at hl 0 rfl) ?_
    refine lv_if_eq (tgt := 30) hx hb dX5_cell_23 (by decide) (fun c_3 => ?_) (fun c_3 => ?_)
    · have hJ := j_t c_3 hJ
      refine lv_iconst (v := 0) hx hb dX5_cell_30 (by decide) ?_
      have ho := Option.some.inj hJ
      exact W.iret (v := (0 : Int32)) hx hb hr (fun t ht hW => ⟨⟨_, (), rfl, (by rw [← ho]), (by rw [ht, ← ho]; exact hP), (by rw [← ho]; exact hD)⟩, hS.F ht⟩) hS.2.2 dX5_cell_31
    · have hJ := j_f c_3 hJ
      refine lv_iconst (v := 1) hx hb dX5_cell_26 (by decide) ?_
      refine lv_goto (tgt := 31) hx hb dX5_cell_27 (by decide) ?_
      have ho := Option.some.inj hJ
      exact W.iret (v := (1 : Int32)) hx hb hr (fun t ht hW => ⟨⟨_, (), rfl, (by rw [← ho]), (by rw [ht, ← ho]; exact hP), (by rw [← ho]; exact hD)⟩, hS.F ht⟩) hS.2.2 dX5_cell_31
  · have hJ := j_t c_2 hJ
    refine lv_aload_n hx hb dX5_cell_16 rfl (lv_at hl 1 rfl) ?_
    refine lv_iconst (v := 0) hx hb dX5_cell_17 (by decide) ?_
    refine va_put (D := D) (ci := 6) (v := .int (0 : Int32)) (ty := .boolean) (C := RX5) (T := TX5) (N := 26) hx hb hts iX5 tyX5 tyX5_ok nmX5 hown hK hP hD hS 0 rfl rfl 14 (by decide) k_2 (fun _ h9 => h9) rfl (by decide +kernel) rfl rfl (Nat.le_of_ble_eq_true rfl) dX5_cell_18 (fun H locs hP hD hS => ?_)
    have hP : va_P D vwCl [(aM, .inr (6, [.int v_1.2.1, .int w, .int ht, .int fou, .ref aMf, .int ln, .int wd, .int rd, .int kp, .int car, .int hom, .int gol, .int hld, .double err, .int (0 : Int32), .int mvs, .int mde, .ref aNm, .ref aBe, .int exa, .long lst, .ref aFa, .ref aCs, .ref aFr, .ref aRo, .ref aNe])), (aMf, .inl (cMf, 576, .inl v_1.2.2)), (aNm, .inl (cNm, 4608, .inl nm)), (aBe, .inl (cBe, 4608, .inl be)), (aFa, .inl (cFa, 4608, .inl fa)), (aCs, .inl (cCs, 4608, .inl cs)), (aFr, .inl (cFr, 4608, .inl fr)), (aRo, .inl (cRo, 4608, .inl ro)), (aNe, .inl (cNe, 576, .inl ne))] H := hP
    have hD : va_D A [(aM, .inr (6, [.int v_1.2.1, .int w, .int ht, .int fou, .ref aMf, .int ln, .int wd, .int rd, .int kp, .int car, .int hom, .int gol, .int hld, .double err, .int (0 : Int32), .int mvs, .int mde, .ref aNm, .ref aBe, .int exa, .long lst, .ref aFa, .ref aCs, .ref aFr, .ref aRo, .ref aNe])), (aMf, .inl (cMf, 576, .inl v_1.2.2)), (aNm, .inl (cNm, 4608, .inl nm)), (aBe, .inl (cBe, 4608, .inl be)), (aFa, .inl (cFa, 4608, .inl fa)), (aCs, .inl (cCs, 4608, .inl cs)), (aFr, .inl (cFr, 4608, .inl fr)), (aRo, .inl (cRo, 4608, .inl ro)), (aNe, .inl (cNe, 576, .inl ne))] := hD
    refine lv_iload hx hb dX5_cell_21 (lv_at hl 0 rfl) ?_
    refine lv_if_eq (tgt := 30) hx hb dX5_cell_23 (by decide) (fun c_4 => ?_) (fun c_4 => ?_)
    · have hJ := j_t c_4 hJ
      refine lv_iconst (v := 0) hx hb dX5_cell_30 (by decide) ?_
      have ho := Option.some.inj hJ
      exact W.iret (v := (0 : Int32)) hx hb hr (fun t ht hW => ⟨⟨_, (), rfl, (by rw [← ho]), (by rw [ht, ← ho]; exact hP), (by rw [← ho]; exact hD)⟩, hS.F ht⟩) hS.2.2 dX5_cell_31
    · have hJ := j_f c_4 hJ
      refine lv_iconst (v := 1) hx hb dX5_cell_26 (by decide) ?_
      refine lv_goto (tgt := 31) hx hb dX5_cell_27 (by decide) ?_
      have ho := Option.some.inj hJ
      exact W.iret (v := (1 : Int32)) hx hb hr (fun t ht hW => ⟨⟨_, (), rfl, (by rw [← ho]), (by rw [ht, ← ho]; exact hP), (by rw [← ho]; exact hD)⟩, hS.F ht⟩) hS.2.2 dX5_cell_31
set_option maxHeartbeats 4000000 in
set_option maxRecDepth 100000 in
theorem c_X5_car (l : Launch) (D : va_G) (aM aMf aNm aBe aFa aCs aFr aRo aNe : Nat) (cMf cNm cBe cFa cCs cFr cRo cNe : ClassId) (cod : Int32) (w : Int32) (ht : Int32) (fou : Int32) (ln : Int32) (wd : Int32) (rd : Int32) (kp : Int32) (car : Int32) (hom : Int32) (gol : Int32) (hld : Int32) (err : UInt64) (isw : Int32) (mvs : Int32) (mde : Int32) (exa : Int32) (lst : Int64) (mf : Nat → Int32) (nm : Nat → Int32) (be : Nat → Int32) (fa : Nat → Int32) (cs : Nat → Int32) (fr : Nat → Int32) (ro : Nat → Int32) (ne : Nat → Int32) (p0 : Int32) (p1 : Int32) (p2 : Int32) (tX tY sz F : Nat) (o : Int32 × Int32 × Int32 × Int32 × Int32 × Int32) (hJ : J_X5_car F ln wd rd isw p0 p1 p2 = some o) : Met l yX5_car wsX5_car rmX5_car (va_Pc [.ref aM, .int p0, .int p1, .int p2] (pcW D [(aM, .inr (6, [.int cod, .int w, .int ht, .int fou, .ref aMf, .int ln, .int wd, .int rd, .int kp, .int car, .int hom, .int gol, .int hld, .double err, .int isw, .int mvs, .int mde, .ref aNm, .ref aBe, .int exa, .long lst, .ref aFa, .ref aCs, .ref aFr, .ref aRo, .ref aNe])), (aMf, .inl (cMf, 576, .inl mf)), (aNm, .inl (cNm, 4608, .inl nm)), (aBe, .inl (cBe, 4608, .inl be)), (aFa, .inl (cFa, 4608, .inl fa)), (aCs, .inl (cCs, 4608, .inl cs)), (aFr, .inl (cFr, 4608, .inl fr)), (aRo, .inl (cRo, 4608, .inl ro)), (aNe, .inl (cNe, 576, .inl ne))] [(cMf, .boolean), (cNm, .int), (cBe, .int), (cFa, .int), (cCs, .int), (cFr, .boolean), (cRo, .int), (cNe, .int)] sz tX tY)) (qWi D o.1 [(aM, .inr (6, [.int o.2.1, .int w, .int ht, .int fou, .ref aMf, .int o.2.2.1, .int o.2.2.2.1, .int o.2.2.2.2.1, .int kp, .int car, .int hom, .int gol, .int hld, .double err, .int o.2.2.2.2.2, .int mvs, .int mde, .ref aNm, .ref aBe, .int exa, .long lst, .ref aFa, .ref aCs, .ref aFr, .ref aRo, .ref aNe])), (aMf, .inl (cMf, 576, .inl mf)), (aNm, .inl (cNm, 4608, .inl nm)), (aBe, .inl (cBe, 4608, .inl be)), (aFa, .inl (cFa, 4608, .inl fa)), (aCs, .inl (cCs, 4608, .inl cs)), (aFr, .inl (cFr, 4608, .inl fr)), (aRo, .inl (cRo, 4608, .inl ro)), (aNe, .inl (cNe, 576, .inl ne))] (va_A [(aM, .inr (6, [.int cod, .int w, .int ht, .int fou, .ref aMf, .int ln, .int wd, .int rd, .int kp, .int car, .int hom, .int gol, .int hld, .double err, .int isw, .int mvs, .int mde, .ref aNm, .ref aBe, .int exa, .long lst, .ref aFa, .ref aCs, .ref aFr, .ref aRo, .ref aNe])), (aMf, .inl (cMf, 576, .inl mf)), (aNm, .inl (cNm, 4608, .inl nm)), (aBe, .inl (cBe, 4608, .inl be)), (aFa, .inl (cFa, 4608, .inl fa)), (aCs, .inl (cCs, 4608, .inl cs)), (aFr, .inl (cFr, 4608, .inl fr)), (aRo, .inl (cRo, 4608, .inl ro)), (aNe, .inl (cNe, 576, .inl ne))] sz)) 0 0 (va_A [(aM, .inr (6, [.int cod, .int w, .int ht, .int fou, .ref aMf, .int ln, .int wd, .int rd, .int kp, .int car, .int hom, .int gol, .int hld, .double err, .int isw, .int mvs, .int mde, .ref aNm, .ref aBe, .int exa, .long lst, .ref aFa, .ref aCs, .ref aFr, .ref aRo, .ref aNe])), (aMf, .inl (cMf, 576, .inl mf)), (aNm, .inl (cNm, 4608, .inl nm)), (aBe, .inl (cBe, 4608, .inl be)), (aFa, .inl (cFa, 4608, .inl fa)), (aCs, .inl (cCs, 4608, .inl cs)), (aFr, .inl (cFr, 4608, .inl fr)), (aRo, .inl (cRo, 4608, .inl ro)), (aNe, .inl (cNe, 576, .inl ne))] sz) := by
  refine Met.ofW (cc := cX5_car) (maxL := 4) (ret := (some .int)) (by decide) rfl ?_
  intro p e s m args below meth c s₁ B hml hv
  obtain ⟨rfl, hsz, hP, hK, hD0, hST⟩ := hv
  have hx := B.exec
  have hb := B.bytes
  have hr := B.returns
  have hts := atoms_spec (ws := wsX5_car) B.pre
  have hown : s.vm.findClass RX5 = some m.cls := findClass_of_methodNamed B.named
  have hlocks := B.notSynchronized
  subst hsz
  have hD := hD0.self (sz := s.heap.size)
  generalize hAe : va_A [(aM, .inr (6, [.int cod, .int w, .int ht, .int fou, .ref aMf, .int ln, .int wd, .int rd, .int kp, .int car, .int hom, .int gol, .int hld, .double err, .int isw, .int mvs, .int mde, .ref aNm, .ref aBe, .int exa, .long lst, .ref aFa, .ref aCs, .ref aFr, .ref aRo, .ref aNe])), (aMf, .inl (cMf, 576, .inl mf)), (aNm, .inl (cNm, 4608, .inl nm)), (aBe, .inl (cBe, 4608, .inl be)), (aFa, .inl (cFa, 4608, .inl fa)), (aCs, .inl (cCs, 4608, .inl cs)), (aFr, .inl (cFr, 4608, .inl fr)), (aRo, .inl (cRo, 4608, .inl ro)), (aNe, .inl (cNe, 576, .inl ne))] s.heap.size = A at hD hST ⊢
  have hA : ∀ q : Nat, s.heap.size ≤ q → A q := fun q h => by rw [← hAe]; exact Or.inr h
  have hS : va_S A s.heap s.heap [] := va_S.rf
  have hl := lv_entry ([.ref aM, .int p0, .int p1, .int p2]) (n := 4) (Nat.le_of_ble_eq_true rfl)
  rw [lg_entry_eq]
  generalize (lg_sl ([.ref aM, .int p0, .int p1, .int p2]) ++ List.replicate (4 - (lg_sl ([.ref aM, .int p0, .int p1, .int p2])).length) Slot.unset).toArray = ls at hl ⊢
  have hl : lv_has ls 4 [(0, .ref aM), (1, .int p0), (2, .int p1), (3, .int p2)] := hl
  have iX5 : ∀ w ∈ wsX50, w ∈ wsX5_car := fun w h => List.mem_cons_of_mem _ (List.mem_append_right _ h)
  have k_1 := hts (.fieldLink RX5 58 "ParkWaysModel" "code" "I") (List.mem_of_getElem? (i := 1) rfl)
  have k_2 := hts (.fieldLink RX5 13 "ParkWaysModel" "length" "I") (List.mem_of_getElem? (i := 2) rfl)
  have k_3 := hts (.fieldLink RX5 17 "ParkWaysModel" "wide" "I") (List.mem_of_getElem? (i := 3) rfl)
  have k_4 := hts (.fieldLink RX5 20 "ParkWaysModel" "radius" "I") (List.mem_of_getElem? (i := 4) rfl)
  have k_5 := hts (.fieldLink RX5 118 "ParkWaysModel" "isWay" "Z") (List.mem_of_getElem? (i := 5) rfl)
  unfold J_X5_car at hJ
  refine lv_aload_n hx hb dX5_car_0 rfl (lv_at hl 0 rfl) ?_
  refine lv_iconst (v := 0) hx hb dX5_car_1 (by decide) ?_
  refine va_put (D := D) (ci := 6) (v := .int (0 : Int32)) (ty := .int) (C := RX5) (T := TX5) (N := 26) hx hb hts iX5 tyX5 tyX5_ok nmX5 hown hK hP hD hS 0 rfl rfl 0 (by decide) k_1 (fun _ h9 => h9) rfl (by decide +kernel) rfl rfl (Nat.le_of_ble_eq_true rfl) dX5_car_2 (fun H locs hP hD hS => ?_)
  have hP : va_P D vwCl [(aM, .inr (6, [.int (0 : Int32), .int w, .int ht, .int fou, .ref aMf, .int ln, .int wd, .int rd, .int kp, .int car, .int hom, .int gol, .int hld, .double err, .int isw, .int mvs, .int mde, .ref aNm, .ref aBe, .int exa, .long lst, .ref aFa, .ref aCs, .ref aFr, .ref aRo, .ref aNe])), (aMf, .inl (cMf, 576, .inl mf)), (aNm, .inl (cNm, 4608, .inl nm)), (aBe, .inl (cBe, 4608, .inl be)), (aFa, .inl (cFa, 4608, .inl fa)), (aCs, .inl (cCs, 4608, .inl cs)), (aFr, .inl (cFr, 4608, .inl fr)), (aRo, .inl (cRo, 4608, .inl ro)), (aNe, .inl (cNe, 576, .inl ne))] H := hP
  have hD : va_D A [(aM, .inr (6, [.int (0 : Int32), .int w, .int ht, .int fou, .ref aMf, .int ln, .int wd, .int rd, .int kp, .int car, .int hom, .int gol, .int hld, .double err, .int isw, .int mvs, .int mde, .ref aNm, .ref aBe, .int exa, .long lst, .ref aFa, .ref aCs, .ref aFr, .ref aRo, .ref aNe])), (aMf, .inl (cMf, 576, .inl mf)), (aNm, .inl (cNm, 4608, .inl nm)), (aBe, .inl (cBe, 4608, .inl be)), (aFa, .inl (cFa, 4608, .inl fa)), (aCs, .inl (cCs, 4608, .inl cs)), (aFr, .inl (cFr, 4608, .inl fr)), (aRo, .inl (cRo, 4608, .inl ro)), (aNe, .inl (cNe, 576, .inl ne))] := hD
  refine lv_iload_n hx hb dX5_car_5 rfl (lv_at hl 1 rfl) ?_
  refine lv_iconst (v := 1) hx hb dX5_car_6 (by decide) ?_
  refine lv_icmp_lt (tgt := 36) hx hb dX5_car_7 (by decide) (fun c_1 => ?_) (fun c_1 => ?_)
  · have hJ := j_t c_1 hJ
    refine lv_iconst (v := 0) hx hb dX5_car_36 (by decide) ?_
    have ho := Option.some.inj hJ
    exact W.iret (v := (0 : Int32)) hx hb hr (fun t ht hW => ⟨⟨_, (), rfl, (by rw [← ho]), (by rw [ht, ← ho]; exact hP), (by rw [← ho]; exact hD)⟩, hS.F ht⟩) hS.2.2 dX5_car_37
  · have hJ := j_f c_1 hJ
    refine lv_iload_n hx hb dX5_car_10 rfl (lv_at hl 1 rfl) ?_
    refine lv_bipush (v := 7) hx hb dX5_car_11 (by decide) ?_
    refine lv_icmp_gt (tgt := 36) hx hb dX5_car_13 (by decide) (fun c_2 => ?_) (fun c_2 => ?_)
    · have hJ := j_t c_2 hJ
      refine lv_iconst (v := 0) hx hb dX5_car_36 (by decide) ?_
      have ho := Option.some.inj hJ
      exact W.iret (v := (0 : Int32)) hx hb hr (fun t ht hW => ⟨⟨_, (), rfl, (by rw [← ho]), (by rw [ht, ← ho]; exact hP), (by rw [← ho]; exact hD)⟩, hS.F ht⟩) hS.2.2 dX5_car_37
    · have hJ := j_f c_2 hJ
      refine lv_iload_n hx hb dX5_car_16 rfl (lv_at hl 2 rfl) ?_
      refine lv_iconst (v := 1) hx hb dX5_car_17 (by decide) ?_
      refine lv_icmp_lt (tgt := 36) hx hb dX5_car_18 (by decide) (fun c_3 => ?_) (fun c_3 => ?_)
      · have hJ := j_t c_3 hJ
        refine lv_iconst (v := 0) hx hb dX5_car_36 (by decide) ?_
        have ho := Option.some.inj hJ
        exact W.iret (v := (0 : Int32)) hx hb hr (fun t ht hW => ⟨⟨_, (), rfl, (by rw [← ho]), (by rw [ht, ← ho]; exact hP), (by rw [← ho]; exact hD)⟩, hS.F ht⟩) hS.2.2 dX5_car_37
      · have hJ := j_f c_3 hJ
        refine lv_iload_n hx hb dX5_car_21 rfl (lv_at hl 2 rfl) ?_
        refine lv_iconst (v := 5) hx hb dX5_car_22 (by decide) ?_
        refine lv_icmp_gt (tgt := 36) hx hb dX5_car_23 (by decide) (fun c_4 => ?_) (fun c_4 => ?_)
        · have hJ := j_t c_4 hJ
          refine lv_iconst (v := 0) hx hb dX5_car_36 (by decide) ?_
          have ho := Option.some.inj hJ
          exact W.iret (v := (0 : Int32)) hx hb hr (fun t ht hW => ⟨⟨_, (), rfl, (by rw [← ho]), (by rw [ht, ← ho]; exact hP), (by rw [← ho]; exact hD)⟩, hS.F ht⟩) hS.2.2 dX5_car_37
        · have hJ := j_f c_4 hJ
          refine lv_iload_n hx hb dX5_car_26 rfl (lv_at hl 3 rfl) ?_
          refine lv_iconst (v := 1) hx hb dX5_car_27 (by decide) ?_
          refine lv_icmp_lt (tgt := 36) hx hb dX5_car_28 (by decide) (fun c_5 => ?_) (fun c_5 => ?_)
          · have hJ := j_t c_5 hJ
            refine lv_iconst (v := 0) hx hb dX5_car_36 (by decide) ?_
            have ho := Option.some.inj hJ
            exact W.iret (v := (0 : Int32)) hx hb hr (fun t ht hW => ⟨⟨_, (), rfl, (by rw [← ho]), (by rw [ht, ← ho]; exact hP), (by rw [← ho]; exact hD)⟩, hS.F ht⟩) hS.2.2 dX5_car_37
          · have hJ := j_f c_5 hJ
            refine lv_iload_n hx hb dX5_car_31 rfl (lv_at hl 3 rfl) ?_
            refine lv_iconst (v := 4) hx hb dX5_car_32 (by decide) ?_
            refine lv_icmp_le (tgt := 38) hx hb dX5_car_33 (by decide) (fun c_6 => ?_) (fun c_6 => ?_)
            · have hJ := j_t c_6 hJ
              refine lv_aload_n hx hb dX5_car_38 rfl (lv_at hl 0 rfl) ?_
              refine lv_iload_n hx hb dX5_car_39 rfl (lv_at hl 1 rfl) ?_
              refine va_put (D := D) (ci := 6) (v := .int p0) (ty := .int) (C := RX5) (T := TX5) (N := 26) hx hb hts iX5 tyX5 tyX5_ok nmX5 hown hK hP hD hS 0 rfl rfl 5 (by decide) k_2 (fun _ h9 => h9) rfl (by decide +kernel) rfl rfl (Nat.le_of_ble_eq_true rfl) dX5_car_40 (fun H locs hP hD hS => ?_)
              have hP : va_P D vwCl [(aM, .inr (6, [.int (0 : Int32), .int w, .int ht, .int fou, .ref aMf, .int p0, .int wd, .int rd, .int kp, .int car, .int hom, .int gol, .int hld, .double err, .int isw, .int mvs, .int mde, .ref aNm, .ref aBe, .int exa, .long lst, .ref aFa, .ref aCs, .ref aFr, .ref aRo, .ref aNe])), (aMf, .inl (cMf, 576, .inl mf)), (aNm, .inl (cNm, 4608, .inl nm)), (aBe, .inl (cBe, 4608, .inl be)), (aFa, .inl (cFa, 4608, .inl fa)), (aCs, .inl (cCs, 4608, .inl cs)), (aFr, .inl (cFr, 4608, .inl fr)), (aRo, .inl (cRo, 4608, .inl ro)), (aNe, .inl (cNe, 576, .inl ne))] H := hP
              have hD : va_D A [(aM, .inr (6, [.int (0 : Int32), .int w, .int ht, .int fou, .ref aMf, .int p0, .int wd, .int rd, .int kp, .int car, .int hom, .int gol, .int hld, .double err, .int isw, .int mvs, .int mde, .ref aNm, .ref aBe, .int exa, .long lst, .ref aFa, .ref aCs, .ref aFr, .ref aRo, .ref aNe])), (aMf, .inl (cMf, 576, .inl mf)), (aNm, .inl (cNm, 4608, .inl nm)), (aBe, .inl (cBe, 4608, .inl be)), (aFa, .inl (cFa, 4608, .inl fa)), (aCs, .inl (cCs, 4608, .inl cs)), (aFr, .inl (cFr, 4608, .inl fr)), (aRo, .inl (cRo, 4608, .inl ro)), (aNe, .inl (cNe, 576, .inl ne))] := hD
              refine lv_aload_n hx hb dX5_car_43 rfl (lv_at hl 0 rfl) ?_
              refine lv_iload_n hx hb dX5_car_44 rfl (lv_at hl 2 rfl) ?_
              refine va_put (D := D) (ci := 6) (v := .int p1) (ty := .int) (C := RX5) (T := TX5) (N := 26) hx hb hts iX5 tyX5 tyX5_ok nmX5 hown hK hP hD hS 0 rfl rfl 6 (by decide) k_3 (fun _ h9 => h9) rfl (by decide +kernel) rfl rfl (Nat.le_of_ble_eq_true rfl) dX5_car_45 (fun H locs hP hD hS => ?_)
              have hP : va_P D vwCl [(aM, .inr (6, [.int (0 : Int32), .int w, .int ht, .int fou, .ref aMf, .int p0, .int p1, .int rd, .int kp, .int car, .int hom, .int gol, .int hld, .double err, .int isw, .int mvs, .int mde, .ref aNm, .ref aBe, .int exa, .long lst, .ref aFa, .ref aCs, .ref aFr, .ref aRo, .ref aNe])), (aMf, .inl (cMf, 576, .inl mf)), (aNm, .inl (cNm, 4608, .inl nm)), (aBe, .inl (cBe, 4608, .inl be)), (aFa, .inl (cFa, 4608, .inl fa)), (aCs, .inl (cCs, 4608, .inl cs)), (aFr, .inl (cFr, 4608, .inl fr)), (aRo, .inl (cRo, 4608, .inl ro)), (aNe, .inl (cNe, 576, .inl ne))] H := hP
              have hD : va_D A [(aM, .inr (6, [.int (0 : Int32), .int w, .int ht, .int fou, .ref aMf, .int p0, .int p1, .int rd, .int kp, .int car, .int hom, .int gol, .int hld, .double err, .int isw, .int mvs, .int mde, .ref aNm, .ref aBe, .int exa, .long lst, .ref aFa, .ref aCs, .ref aFr, .ref aRo, .ref aNe])), (aMf, .inl (cMf, 576, .inl mf)), (aNm, .inl (cNm, 4608, .inl nm)), (aBe, .inl (cBe, 4608, .inl be)), (aFa, .inl (cFa, 4608, .inl fa)), (aCs, .inl (cCs, 4608, .inl cs)), (aFr, .inl (cFr, 4608, .inl fr)), (aRo, .inl (cRo, 4608, .inl ro)), (aNe, .inl (cNe, 576, .inl ne))] := hD
              refine lv_aload_n hx hb dX5_car_48 rfl (lv_at hl 0 rfl) ?_
              refine lv_iload_n hx hb dX5_car_49 rfl (lv_at hl 3 rfl) ?_
              refine va_put (D := D) (ci := 6) (v := .int p2) (ty := .int) (C := RX5) (T := TX5) (N := 26) hx hb hts iX5 tyX5 tyX5_ok nmX5 hown hK hP hD hS 0 rfl rfl 7 (by decide) k_4 (fun _ h9 => h9) rfl (by decide +kernel) rfl rfl (Nat.le_of_ble_eq_true rfl) dX5_car_50 (fun H locs hP hD hS => ?_)
              have hP : va_P D vwCl [(aM, .inr (6, [.int (0 : Int32), .int w, .int ht, .int fou, .ref aMf, .int p0, .int p1, .int p2, .int kp, .int car, .int hom, .int gol, .int hld, .double err, .int isw, .int mvs, .int mde, .ref aNm, .ref aBe, .int exa, .long lst, .ref aFa, .ref aCs, .ref aFr, .ref aRo, .ref aNe])), (aMf, .inl (cMf, 576, .inl mf)), (aNm, .inl (cNm, 4608, .inl nm)), (aBe, .inl (cBe, 4608, .inl be)), (aFa, .inl (cFa, 4608, .inl fa)), (aCs, .inl (cCs, 4608, .inl cs)), (aFr, .inl (cFr, 4608, .inl fr)), (aRo, .inl (cRo, 4608, .inl ro)), (aNe, .inl (cNe, 576, .inl ne))] H := hP
              have hD : va_D A [(aM, .inr (6, [.int (0 : Int32), .int w, .int ht, .int fou, .ref aMf, .int p0, .int p1, .int p2, .int kp, .int car, .int hom, .int gol, .int hld, .double err, .int isw, .int mvs, .int mde, .ref aNm, .ref aBe, .int exa, .long lst, .ref aFa, .ref aCs, .ref aFr, .ref aRo, .ref aNe])), (aMf, .inl (cMf, 576, .inl mf)), (aNm, .inl (cNm, 4608, .inl nm)), (aBe, .inl (cBe, 4608, .inl be)), (aFa, .inl (cFa, 4608, .inl fa)), (aCs, .inl (cCs, 4608, .inl cs)), (aFr, .inl (cFr, 4608, .inl fr)), (aRo, .inl (cRo, 4608, .inl ro)), (aNe, .inl (cNe, 576, .inl ne))] := hD
              refine lv_aload_n hx hb dX5_car_53 rfl (lv_at hl 0 rfl) ?_
              refine lv_iconst (v := 0) hx hb dX5_car_54 (by decide) ?_
              refine va_put (D := D) (ci := 6) (v := .int (0 : Int32)) (ty := .boolean) (C := RX5) (T := TX5) (N := 26) hx hb hts iX5 tyX5 tyX5_ok nmX5 hown hK hP hD hS 0 rfl rfl 14 (by decide) k_5 (fun _ h9 => h9) rfl (by decide +kernel) rfl rfl (Nat.le_of_ble_eq_true rfl) dX5_car_55 (fun H locs hP hD hS => ?_)
              have hP : va_P D vwCl [(aM, .inr (6, [.int (0 : Int32), .int w, .int ht, .int fou, .ref aMf, .int p0, .int p1, .int p2, .int kp, .int car, .int hom, .int gol, .int hld, .double err, .int (0 : Int32), .int mvs, .int mde, .ref aNm, .ref aBe, .int exa, .long lst, .ref aFa, .ref aCs, .ref aFr, .ref aRo, .ref aNe])), (aMf, .inl (cMf, 576, .inl mf)), (aNm, .inl (cNm, 4608, .inl nm)), (aBe, .inl (cBe, 4608, .inl be)), (aFa, .inl (cFa, 4608, .inl fa)), (aCs, .inl (cCs, 4608, .inl cs)), (aFr, .inl (cFr, 4608, .inl fr)), (aRo, .inl (cRo, 4608, .inl ro)), (aNe, .inl (cNe, 576, .inl ne))] H := hP
              have hD : va_D A [(aM, .inr (6, [.int (0 : Int32), .int w, .int ht, .int fou, .ref aMf, .int p0, .int p1, .int p2, .int kp, .int car, .int hom, .int gol, .int hld, .double err, .int (0 : Int32), .int mvs, .int mde, .ref aNm, .ref aBe, .int exa, .long lst, .ref aFa, .ref aCs, .ref aFr, .ref aRo, .ref aNe])), (aMf, .inl (cMf, 576, .inl mf)), (aNm, .inl (cNm, 4608, .inl nm)), (aBe, .inl (cBe, 4608, .inl be)), (aFa, .inl (cFa, 4608, .inl fa)), (aCs, .inl (cCs, 4608, .inl cs)), (aFr, .inl (cFr, 4608, .inl fr)), (aRo, .inl (cRo, 4608, .inl ro)), (aNe, .inl (cNe, 576, .inl ne))] := hD
              refine lv_iconst (v := 1) hx hb dX5_car_58 (by decide) ?_
              have ho := Option.some.inj hJ
              exact W.iret (v := (1 : Int32)) hx hb hr (fun t ht hW => ⟨⟨_, (), rfl, (by rw [← ho]), (by rw [ht, ← ho]; exact hP), (by rw [← ho]; exact hD)⟩, hS.F ht⟩) hS.2.2 dX5_car_59
            · have hJ := j_f c_6 hJ
              refine lv_iconst (v := 0) hx hb dX5_car_36 (by decide) ?_
              have ho := Option.some.inj hJ
              exact W.iret (v := (0 : Int32)) hx hb hr (fun t ht hW => ⟨⟨_, (), rfl, (by rw [← ho]), (by rw [ht, ← ho]; exact hP), (by rw [← ho]; exact hD)⟩, hS.F ht⟩) hS.2.2 dX5_car_37
set_option maxHeartbeats 4000000 in
set_option maxRecDepth 100000 in
theorem c_X5_keep (l : Launch) (D : va_G) (aM aMf aNm aBe aFa aCs aFr aRo aNe : Nat) (cMf cNm cBe cFa cCs cFr cRo cNe : ClassId) (cod : Int32) (w : Int32) (ht : Int32) (fou : Int32) (ln : Int32) (wd : Int32) (rd : Int32) (kp : Int32) (car : Int32) (hom : Int32) (gol : Int32) (hld : Int32) (err : UInt64) (isw : Int32) (mvs : Int32) (mde : Int32) (exa : Int32) (lst : Int64) (mf : Nat → Int32) (nm : Nat → Int32) (be : Nat → Int32) (fa : Nat → Int32) (cs : Nat → Int32) (fr : Nat → Int32) (ro : Nat → Int32) (ne : Nat → Int32) (p0 : Int32) (tX tY sz F : Nat) (o : Int32 × Int32 × Int32 × Int32) (hJ : J_X5_keep F kp isw p0 = some o) : Met l yX5_keep wsX5_keep rmX5_keep (va_Pc [.ref aM, .int p0] (pcW D [(aM, .inr (6, [.int cod, .int w, .int ht, .int fou, .ref aMf, .int ln, .int wd, .int rd, .int kp, .int car, .int hom, .int gol, .int hld, .double err, .int isw, .int mvs, .int mde, .ref aNm, .ref aBe, .int exa, .long lst, .ref aFa, .ref aCs, .ref aFr, .ref aRo, .ref aNe])), (aMf, .inl (cMf, 576, .inl mf)), (aNm, .inl (cNm, 4608, .inl nm)), (aBe, .inl (cBe, 4608, .inl be)), (aFa, .inl (cFa, 4608, .inl fa)), (aCs, .inl (cCs, 4608, .inl cs)), (aFr, .inl (cFr, 4608, .inl fr)), (aRo, .inl (cRo, 4608, .inl ro)), (aNe, .inl (cNe, 576, .inl ne))] [(cMf, .boolean), (cNm, .int), (cBe, .int), (cFa, .int), (cCs, .int), (cFr, .boolean), (cRo, .int), (cNe, .int)] sz tX tY)) (qWi D o.1 [(aM, .inr (6, [.int o.2.1, .int w, .int ht, .int fou, .ref aMf, .int ln, .int wd, .int rd, .int o.2.2.1, .int car, .int hom, .int gol, .int hld, .double err, .int o.2.2.2, .int mvs, .int mde, .ref aNm, .ref aBe, .int exa, .long lst, .ref aFa, .ref aCs, .ref aFr, .ref aRo, .ref aNe])), (aMf, .inl (cMf, 576, .inl mf)), (aNm, .inl (cNm, 4608, .inl nm)), (aBe, .inl (cBe, 4608, .inl be)), (aFa, .inl (cFa, 4608, .inl fa)), (aCs, .inl (cCs, 4608, .inl cs)), (aFr, .inl (cFr, 4608, .inl fr)), (aRo, .inl (cRo, 4608, .inl ro)), (aNe, .inl (cNe, 576, .inl ne))] (va_A [(aM, .inr (6, [.int cod, .int w, .int ht, .int fou, .ref aMf, .int ln, .int wd, .int rd, .int kp, .int car, .int hom, .int gol, .int hld, .double err, .int isw, .int mvs, .int mde, .ref aNm, .ref aBe, .int exa, .long lst, .ref aFa, .ref aCs, .ref aFr, .ref aRo, .ref aNe])), (aMf, .inl (cMf, 576, .inl mf)), (aNm, .inl (cNm, 4608, .inl nm)), (aBe, .inl (cBe, 4608, .inl be)), (aFa, .inl (cFa, 4608, .inl fa)), (aCs, .inl (cCs, 4608, .inl cs)), (aFr, .inl (cFr, 4608, .inl fr)), (aRo, .inl (cRo, 4608, .inl ro)), (aNe, .inl (cNe, 576, .inl ne))] sz)) 0 0 (va_A [(aM, .inr (6, [.int cod, .int w, .int ht, .int fou, .ref aMf, .int ln, .int wd, .int rd, .int kp, .int car, .int hom, .int gol, .int hld, .double err, .int isw, .int mvs, .int mde, .ref aNm, .ref aBe, .int exa, .long lst, .ref aFa, .ref aCs, .ref aFr, .ref aRo, .ref aNe])), (aMf, .inl (cMf, 576, .inl mf)), (aNm, .inl (cNm, 4608, .inl nm)), (aBe, .inl (cBe, 4608, .inl be)), (aFa, .inl (cFa, 4608, .inl fa)), (aCs, .inl (cCs, 4608, .inl cs)), (aFr, .inl (cFr, 4608, .inl fr)), (aRo, .inl (cRo, 4608, .inl ro)), (aNe, .inl (cNe, 576, .inl ne))] sz) := by
  refine Met.ofW (cc := cX5_keep) (maxL := 3) (ret := (some .int)) (by decide) rfl ?_
  intro p e s m args below meth c s₁ B hml hv
  obtain ⟨rfl, hsz, hP, hK, hD0, hST⟩ := hv
  have hx := B.exec
  have hb := B.bytes
  have hr := B.returns
  have hts := atoms_spec (ws := wsX5_keep) B.pre
  have hown : s.vm.findClass RX5 = some m.cls := findClass_of_methodNamed B.named
  have hlocks := B.notSynchronized
  subst hsz
  have hD := hD0.self (sz := s.heap.size)
  generalize hAe : va_A [(aM, .inr (6, [.int cod, .int w, .int ht, .int fou, .ref aMf, .int ln, .int wd, .int rd, .int kp, .int car, .int hom, .int gol, .int hld, .double err, .int isw, .int mvs, .int mde, .ref aNm, .ref aBe, .int exa, .long lst, .ref aFa, .ref aCs, .ref aFr, .ref aRo, .ref aNe])), (aMf, .inl (cMf, 576, .inl mf)), (aNm, .inl (cNm, 4608, .inl nm)), (aBe, .inl (cBe, 4608, .inl be)), (aFa, .inl (cFa, 4608, .inl fa)), (aCs, .inl (cCs, 4608, .inl cs)), (aFr, .inl (cFr, 4608, .inl fr)), (aRo, .inl (cRo, 4608, .inl ro)), (aNe, .inl (cNe, 576, .inl ne))] s.heap.size = A at hD hST ⊢
  have hA : ∀ q : Nat, s.heap.size ≤ q → A q := fun q h => by rw [← hAe]; exact Or.inr h
  have hS : va_S A s.heap s.heap [] := va_S.rf
  have hl := lv_entry ([.ref aM, .int p0]) (n := 3) (Nat.le_of_ble_eq_true rfl)
  rw [lg_entry_eq]
  generalize (lg_sl ([.ref aM, .int p0]) ++ List.replicate (3 - (lg_sl ([.ref aM, .int p0])).length) Slot.unset).toArray = ls at hl ⊢
  have hl : lv_has ls 3 [(0, .ref aM), (1, .int p0)] := hl
  have iX5 : ∀ w ∈ wsX50, w ∈ wsX5_keep := fun w h => List.mem_cons_of_mem _ (List.mem_append_right _ h)
  have k_1 := hts (.fieldLink RX5 58 "ParkWaysModel" "code" "I") (List.mem_of_getElem? (i := 1) rfl)
  have k_2 := hts (.fieldLink RX5 80 "ParkWaysModel" "keep" "I") (List.mem_of_getElem? (i := 2) rfl)
  have k_3 := hts (.fieldLink RX5 118 "ParkWaysModel" "isWay" "Z") (List.mem_of_getElem? (i := 3) rfl)
  unfold J_X5_keep at hJ
  refine lv_aload_n hx hb dX5_keep_0 rfl (lv_at hl 0 rfl) ?_
  refine lv_iconst (v := 0) hx hb dX5_keep_1 (by decide) ?_
  refine va_put (D := D) (ci := 6) (v := .int (0 : Int32)) (ty := .int) (C := RX5) (T := TX5) (N := 26) hx hb hts iX5 tyX5 tyX5_ok nmX5 hown hK hP hD hS 0 rfl rfl 0 (by decide) k_1 (fun _ h9 => h9) rfl (by decide +kernel) rfl rfl (Nat.le_of_ble_eq_true rfl) dX5_keep_2 (fun H locs hP hD hS => ?_)
  have hP : va_P D vwCl [(aM, .inr (6, [.int (0 : Int32), .int w, .int ht, .int fou, .ref aMf, .int ln, .int wd, .int rd, .int kp, .int car, .int hom, .int gol, .int hld, .double err, .int isw, .int mvs, .int mde, .ref aNm, .ref aBe, .int exa, .long lst, .ref aFa, .ref aCs, .ref aFr, .ref aRo, .ref aNe])), (aMf, .inl (cMf, 576, .inl mf)), (aNm, .inl (cNm, 4608, .inl nm)), (aBe, .inl (cBe, 4608, .inl be)), (aFa, .inl (cFa, 4608, .inl fa)), (aCs, .inl (cCs, 4608, .inl cs)), (aFr, .inl (cFr, 4608, .inl fr)), (aRo, .inl (cRo, 4608, .inl ro)), (aNe, .inl (cNe, 576, .inl ne))] H := hP
  have hD : va_D A [(aM, .inr (6, [.int (0 : Int32), .int w, .int ht, .int fou, .ref aMf, .int ln, .int wd, .int rd, .int kp, .int car, .int hom, .int gol, .int hld, .double err, .int isw, .int mvs, .int mde, .ref aNm, .ref aBe, .int exa, .long lst, .ref aFa, .ref aCs, .ref aFr, .ref aRo, .ref aNe])), (aMf, .inl (cMf, 576, .inl mf)), (aNm, .inl (cNm, 4608, .inl nm)), (aBe, .inl (cBe, 4608, .inl be)), (aFa, .inl (cFa, 4608, .inl fa)), (aCs, .inl (cCs, 4608, .inl cs)), (aFr, .inl (cFr, 4608, .inl fr)), (aRo, .inl (cRo, 4608, .inl ro)), (aNe, .inl (cNe, 576, .inl ne))] := hD
  refine lv_iload_n hx hb dX5_keep_5 rfl (lv_at hl 1 rfl) ?_
  refine lv_if_lt (tgt := 14) hx hb dX5_keep_6 (by decide) (fun c_1 => ?_) (fun c_1 => ?_)
  · have hJ := j_t c_1 hJ
    refine lv_bipush (v := (-2)) hx hb dX5_keep_14 (by decide) ?_
    have ho := Option.some.inj hJ
    exact W.iret (v := (-2 : Int32)) hx hb hr (fun t ht hW => ⟨⟨_, (), rfl, (by rw [← ho]), (by rw [ht, ← ho]; exact hP), (by rw [← ho]; exact hD)⟩, hS.F ht⟩) hS.2.2 dX5_keep_16
  · have hJ := j_f c_1 hJ
    refine lv_iload_n hx hb dX5_keep_9 rfl (lv_at hl 1 rfl) ?_
    refine lv_iconst (v := 3) hx hb dX5_keep_10 (by decide) ?_
    refine lv_icmp_le (tgt := 17) hx hb dX5_keep_11 (by decide) (fun c_2 => ?_) (fun c_2 => ?_)
    · have hJ := j_t c_2 hJ
      refine lv_aload_n hx hb dX5_keep_17 rfl (lv_at hl 0 rfl) ?_
      refine va_get (D := D) (ci := 6) (v := .int kp) (C := RX5) (T := TX5) (N := 26) hx hb hts iX5 hown hK hP 0 rfl rfl 8 (by decide) k_2 (fun _ h9 => h9) rfl dX5_keep_18 ?_
      refine lv_istore_n (lv' := [(2, .int kp), (0, .ref aM), (1, .int p0)]) hx hb dX5_keep_21 rfl hl (by decide) rfl (fun ls hl => ?_)
      refine lv_aload_n hx hb dX5_keep_22 rfl (lv_at hl 1 rfl) ?_
      refine lv_iload_n hx hb dX5_keep_23 rfl (lv_at hl 2 rfl) ?_
      refine va_put (D := D) (ci := 6) (v := .int p0) (ty := .int) (C := RX5) (T := TX5) (N := 26) hx hb hts iX5 tyX5 tyX5_ok nmX5 hown hK hP hD hS 0 rfl rfl 8 (by decide) k_2 (fun _ h9 => h9) rfl (by decide +kernel) rfl rfl (Nat.le_of_ble_eq_true rfl) dX5_keep_24 (fun H locs hP hD hS => ?_)
      have hP : va_P D vwCl [(aM, .inr (6, [.int (0 : Int32), .int w, .int ht, .int fou, .ref aMf, .int ln, .int wd, .int rd, .int p0, .int car, .int hom, .int gol, .int hld, .double err, .int isw, .int mvs, .int mde, .ref aNm, .ref aBe, .int exa, .long lst, .ref aFa, .ref aCs, .ref aFr, .ref aRo, .ref aNe])), (aMf, .inl (cMf, 576, .inl mf)), (aNm, .inl (cNm, 4608, .inl nm)), (aBe, .inl (cBe, 4608, .inl be)), (aFa, .inl (cFa, 4608, .inl fa)), (aCs, .inl (cCs, 4608, .inl cs)), (aFr, .inl (cFr, 4608, .inl fr)), (aRo, .inl (cRo, 4608, .inl ro)), (aNe, .inl (cNe, 576, .inl ne))] H := hP
      have hD : va_D A [(aM, .inr (6, [.int (0 : Int32), .int w, .int ht, .int fou, .ref aMf, .int ln, .int wd, .int rd, .int p0, .int car, .int hom, .int gol, .int hld, .double err, .int isw, .int mvs, .int mde, .ref aNm, .ref aBe, .int exa, .long lst, .ref aFa, .ref aCs, .ref aFr, .ref aRo, .ref aNe])), (aMf, .inl (cMf, 576, .inl mf)), (aNm, .inl (cNm, 4608, .inl nm)), (aBe, .inl (cBe, 4608, .inl be)), (aFa, .inl (cFa, 4608, .inl fa)), (aCs, .inl (cCs, 4608, .inl cs)), (aFr, .inl (cFr, 4608, .inl fr)), (aRo, .inl (cRo, 4608, .inl ro)), (aNe, .inl (cNe, 576, .inl ne))] := hD
      refine lv_aload_n hx hb dX5_keep_27 rfl (lv_at hl 1 rfl) ?_
      refine lv_iconst (v := 0) hx hb dX5_keep_28 (by decide) ?_
      refine va_put (D := D) (ci := 6) (v := .int (0 : Int32)) (ty := .boolean) (C := RX5) (T := TX5) (N := 26) hx hb hts iX5 tyX5 tyX5_ok nmX5 hown hK hP hD hS 0 rfl rfl 14 (by decide) k_3 (fun _ h9 => h9) rfl (by decide +kernel) rfl rfl (Nat.le_of_ble_eq_true rfl) dX5_keep_29 (fun H locs hP hD hS => ?_)
      have hP : va_P D vwCl [(aM, .inr (6, [.int (0 : Int32), .int w, .int ht, .int fou, .ref aMf, .int ln, .int wd, .int rd, .int p0, .int car, .int hom, .int gol, .int hld, .double err, .int (0 : Int32), .int mvs, .int mde, .ref aNm, .ref aBe, .int exa, .long lst, .ref aFa, .ref aCs, .ref aFr, .ref aRo, .ref aNe])), (aMf, .inl (cMf, 576, .inl mf)), (aNm, .inl (cNm, 4608, .inl nm)), (aBe, .inl (cBe, 4608, .inl be)), (aFa, .inl (cFa, 4608, .inl fa)), (aCs, .inl (cCs, 4608, .inl cs)), (aFr, .inl (cFr, 4608, .inl fr)), (aRo, .inl (cRo, 4608, .inl ro)), (aNe, .inl (cNe, 576, .inl ne))] H := hP
      have hD : va_D A [(aM, .inr (6, [.int (0 : Int32), .int w, .int ht, .int fou, .ref aMf, .int ln, .int wd, .int rd, .int p0, .int car, .int hom, .int gol, .int hld, .double err, .int (0 : Int32), .int mvs, .int mde, .ref aNm, .ref aBe, .int exa, .long lst, .ref aFa, .ref aCs, .ref aFr, .ref aRo, .ref aNe])), (aMf, .inl (cMf, 576, .inl mf)), (aNm, .inl (cNm, 4608, .inl nm)), (aBe, .inl (cBe, 4608, .inl be)), (aFa, .inl (cFa, 4608, .inl fa)), (aCs, .inl (cCs, 4608, .inl cs)), (aFr, .inl (cFr, 4608, .inl fr)), (aRo, .inl (cRo, 4608, .inl ro)), (aNe, .inl (cNe, 576, .inl ne))] := hD
      refine lv_iload_n hx hb dX5_keep_32 rfl (lv_at hl 0 rfl) ?_
      have ho := Option.some.inj hJ
      exact W.iret (v := kp) hx hb hr (fun t ht hW => ⟨⟨_, (), rfl, (by rw [← ho]), (by rw [ht, ← ho]; exact hP), (by rw [← ho]; exact hD)⟩, hS.F ht⟩) hS.2.2 dX5_keep_33
    · have hJ := j_f c_2 hJ
      refine lv_bipush (v := (-2)) hx hb dX5_keep_14 (by decide) ?_
      have ho := Option.some.inj hJ
      exact W.iret (v := (-2 : Int32)) hx hb hr (fun t ht hW => ⟨⟨_, (), rfl, (by rw [← ho]), (by rw [ht, ← ho]; exact hP), (by rw [← ho]; exact hD)⟩, hS.F ht⟩) hS.2.2 dX5_keep_16
set_option maxHeartbeats 4000000 in
set_option maxRecDepth 100000 in
theorem c_X5_stand (l : Launch) (D : va_G) (aM aMf aNm aBe aFa aCs aFr aRo aNe : Nat) (cMf cNm cBe cFa cCs cFr cRo cNe : ClassId) (cod : Int32) (w : Int32) (ht : Int32) (fou : Int32) (ln : Int32) (wd : Int32) (rd : Int32) (kp : Int32) (car : Int32) (hom : Int32) (gol : Int32) (hld : Int32) (err : UInt64) (isw : Int32) (mvs : Int32) (mde : Int32) (exa : Int32) (lst : Int64) (mf : Nat → Int32) (nm : Nat → Int32) (be : Nat → Int32) (fa : Nat → Int32) (cs : Nat → Int32) (fr : Nat → Int32) (ro : Nat → Int32) (ne : Nat → Int32) (p0 : Int32) (p1 : Int32) (p2 : Int32) (tX tY sz F : Nat) (o : Int32 × Int32 × Int32 × Int32 × Int32 × (Nat → Int32)) (hJ : J_X5_stand F w ht fou ln wd kp car hom isw mf ne p0 p1 p2 = some o) : Met l yX5_stand wsX5_stand rmX5_stand (va_Pc [.ref aM, .int p0, .int p1, .int p2] (pcW D [(aM, .inr (6, [.int cod, .int w, .int ht, .int fou, .ref aMf, .int ln, .int wd, .int rd, .int kp, .int car, .int hom, .int gol, .int hld, .double err, .int isw, .int mvs, .int mde, .ref aNm, .ref aBe, .int exa, .long lst, .ref aFa, .ref aCs, .ref aFr, .ref aRo, .ref aNe])), (aMf, .inl (cMf, 576, .inl mf)), (aNm, .inl (cNm, 4608, .inl nm)), (aBe, .inl (cBe, 4608, .inl be)), (aFa, .inl (cFa, 4608, .inl fa)), (aCs, .inl (cCs, 4608, .inl cs)), (aFr, .inl (cFr, 4608, .inl fr)), (aRo, .inl (cRo, 4608, .inl ro)), (aNe, .inl (cNe, 576, .inl ne))] [(cMf, .boolean), (cNm, .int), (cBe, .int), (cFa, .int), (cCs, .int), (cFr, .boolean), (cRo, .int), (cNe, .int)] sz tX tY)) (qWi D o.1 [(aM, .inr (6, [.int o.2.1, .int w, .int ht, .int fou, .ref aMf, .int ln, .int wd, .int rd, .int kp, .int o.2.2.1, .int o.2.2.2.1, .int gol, .int hld, .double err, .int o.2.2.2.2.1, .int mvs, .int mde, .ref aNm, .ref aBe, .int exa, .long lst, .ref aFa, .ref aCs, .ref aFr, .ref aRo, .ref aNe])), (aMf, .inl (cMf, 576, .inl mf)), (aNm, .inl (cNm, 4608, .inl nm)), (aBe, .inl (cBe, 4608, .inl be)), (aFa, .inl (cFa, 4608, .inl fa)), (aCs, .inl (cCs, 4608, .inl cs)), (aFr, .inl (cFr, 4608, .inl fr)), (aRo, .inl (cRo, 4608, .inl ro)), (aNe, .inl (cNe, 576, .inl o.2.2.2.2.2))] (va_A [(aM, .inr (6, [.int cod, .int w, .int ht, .int fou, .ref aMf, .int ln, .int wd, .int rd, .int kp, .int car, .int hom, .int gol, .int hld, .double err, .int isw, .int mvs, .int mde, .ref aNm, .ref aBe, .int exa, .long lst, .ref aFa, .ref aCs, .ref aFr, .ref aRo, .ref aNe])), (aMf, .inl (cMf, 576, .inl mf)), (aNm, .inl (cNm, 4608, .inl nm)), (aBe, .inl (cBe, 4608, .inl be)), (aFa, .inl (cFa, 4608, .inl fa)), (aCs, .inl (cCs, 4608, .inl cs)), (aFr, .inl (cFr, 4608, .inl fr)), (aRo, .inl (cRo, 4608, .inl ro)), (aNe, .inl (cNe, 576, .inl ne))] sz)) 0 0 (va_A [(aM, .inr (6, [.int cod, .int w, .int ht, .int fou, .ref aMf, .int ln, .int wd, .int rd, .int kp, .int car, .int hom, .int gol, .int hld, .double err, .int isw, .int mvs, .int mde, .ref aNm, .ref aBe, .int exa, .long lst, .ref aFa, .ref aCs, .ref aFr, .ref aRo, .ref aNe])), (aMf, .inl (cMf, 576, .inl mf)), (aNm, .inl (cNm, 4608, .inl nm)), (aBe, .inl (cBe, 4608, .inl be)), (aFa, .inl (cFa, 4608, .inl fa)), (aCs, .inl (cCs, 4608, .inl cs)), (aFr, .inl (cFr, 4608, .inl fr)), (aRo, .inl (cRo, 4608, .inl ro)), (aNe, .inl (cNe, 576, .inl ne))] sz) := by
  refine Met.ofW (cc := cX5_stand) (maxL := 4) (ret := (some .int)) (by decide) rfl ?_
  intro p e s m args below meth c s₁ B hml hv
  obtain ⟨rfl, hsz, hP, hK, hD0, hST⟩ := hv
  have hx := B.exec
  have hb := B.bytes
  have hr := B.returns
  have hts := atoms_spec (ws := wsX5_stand) B.pre
  have hown : s.vm.findClass RX5 = some m.cls := findClass_of_methodNamed B.named
  have hlocks := B.notSynchronized
  subst hsz
  have hD := hD0.self (sz := s.heap.size)
  generalize hAe : va_A [(aM, .inr (6, [.int cod, .int w, .int ht, .int fou, .ref aMf, .int ln, .int wd, .int rd, .int kp, .int car, .int hom, .int gol, .int hld, .double err, .int isw, .int mvs, .int mde, .ref aNm, .ref aBe, .int exa, .long lst, .ref aFa, .ref aCs, .ref aFr, .ref aRo, .ref aNe])), (aMf, .inl (cMf, 576, .inl mf)), (aNm, .inl (cNm, 4608, .inl nm)), (aBe, .inl (cBe, 4608, .inl be)), (aFa, .inl (cFa, 4608, .inl fa)), (aCs, .inl (cCs, 4608, .inl cs)), (aFr, .inl (cFr, 4608, .inl fr)), (aRo, .inl (cRo, 4608, .inl ro)), (aNe, .inl (cNe, 576, .inl ne))] s.heap.size = A at hD hST ⊢
  have hA : ∀ q : Nat, s.heap.size ≤ q → A q := fun q h => by rw [← hAe]; exact Or.inr h
  have hS : va_S A s.heap s.heap [] := va_S.rf
  have hl := lv_entry ([.ref aM, .int p0, .int p1, .int p2]) (n := 4) (Nat.le_of_ble_eq_true rfl)
  rw [lg_entry_eq]
  generalize (lg_sl ([.ref aM, .int p0, .int p1, .int p2]) ++ List.replicate (4 - (lg_sl ([.ref aM, .int p0, .int p1, .int p2])).length) Slot.unset).toArray = ls at hl ⊢
  have hl : lv_has ls 4 [(0, .ref aM), (1, .int p0), (2, .int p1), (3, .int p2)] := hl
  have iX5 : ∀ w ∈ wsX50, w ∈ wsX5_stand := fun w h => List.mem_cons_of_mem _ (List.mem_append_right _ h)
  have k_1 := hts (.fieldLink RX5 58 "ParkWaysModel" "code" "I") (List.mem_of_getElem? (i := 1) rfl)
  have k_2 := hts (.fieldLink RX5 128 "ParkWaysModel" "car" "I") (List.mem_of_getElem? (i := 2) rfl)
  have k_3 := hts (.fieldLink RX5 150 "ParkWaysModel" "home" "I") (List.mem_of_getElem? (i := 3) rfl)
  have k_4 := hts (.fieldLink RX5 118 "ParkWaysModel" "isWay" "Z") (List.mem_of_getElem? (i := 4) rfl)
  unfold J_X5_stand at hJ
  refine lv_aload_n hx hb dX5_stand_0 rfl (lv_at hl 0 rfl) ?_
  refine lv_iconst (v := 0) hx hb dX5_stand_1 (by decide) ?_
  refine va_put (D := D) (ci := 6) (v := .int (0 : Int32)) (ty := .int) (C := RX5) (T := TX5) (N := 26) hx hb hts iX5 tyX5 tyX5_ok nmX5 hown hK hP hD hS 0 rfl rfl 0 (by decide) k_1 (fun _ h9 => h9) rfl (by decide +kernel) rfl rfl (Nat.le_of_ble_eq_true rfl) dX5_stand_2 (fun H locs hP hD hS => ?_)
  have hP : va_P D vwCl [(aM, .inr (6, [.int (0 : Int32), .int w, .int ht, .int fou, .ref aMf, .int ln, .int wd, .int rd, .int kp, .int car, .int hom, .int gol, .int hld, .double err, .int isw, .int mvs, .int mde, .ref aNm, .ref aBe, .int exa, .long lst, .ref aFa, .ref aCs, .ref aFr, .ref aRo, .ref aNe])), (aMf, .inl (cMf, 576, .inl mf)), (aNm, .inl (cNm, 4608, .inl nm)), (aBe, .inl (cBe, 4608, .inl be)), (aFa, .inl (cFa, 4608, .inl fa)), (aCs, .inl (cCs, 4608, .inl cs)), (aFr, .inl (cFr, 4608, .inl fr)), (aRo, .inl (cRo, 4608, .inl ro)), (aNe, .inl (cNe, 576, .inl ne))] H := hP
  have hD : va_D A [(aM, .inr (6, [.int (0 : Int32), .int w, .int ht, .int fou, .ref aMf, .int ln, .int wd, .int rd, .int kp, .int car, .int hom, .int gol, .int hld, .double err, .int isw, .int mvs, .int mde, .ref aNm, .ref aBe, .int exa, .long lst, .ref aFa, .ref aCs, .ref aFr, .ref aRo, .ref aNe])), (aMf, .inl (cMf, 576, .inl mf)), (aNm, .inl (cNm, 4608, .inl nm)), (aBe, .inl (cBe, 4608, .inl be)), (aFa, .inl (cFa, 4608, .inl fa)), (aCs, .inl (cCs, 4608, .inl cs)), (aFr, .inl (cFr, 4608, .inl fr)), (aRo, .inl (cRo, 4608, .inl ro)), (aNe, .inl (cNe, 576, .inl ne))] := hD
  refine lv_aload_n hx hb dX5_stand_5 rfl (lv_at hl 0 rfl) ?_
  refine lv_iload_n hx hb dX5_stand_6 rfl (lv_at hl 1 rfl) ?_
  refine lv_iload_n hx hb dX5_stand_7 rfl (lv_at hl 2 rfl) ?_
  obtain ⟨v_1, hv_1, hJ⟩ := j_b hJ
  refine ro_i (va_runV (As := [.int p0, .int p1]) (rest := []) ⟨hx, hb, hml, hown, hts⟩ (c_X5_isCell l D aM aMf aNm aBe aFa aCs aFr aRo aNe cMf cNm cBe cFa cCs cFr cRo cNe (0 : Int32) w ht fou ln wd rd kp car hom gol hld err isw mvs mde exa lst mf nm be fa cs fr ro ne p0 p1 tX tY H.size F v_1 hv_1) (cwV 2 hts gX5_stand_X5_isCell rfl rfl rfl (by decide +kernel) ⟨Nat.le_of_ble_eq_true rfl, Nat.le_of_ble_eq_true rfl⟩) (preRV [.int p0, .int p1] hP hK hS hA hST [0, 1, 2, 3, 4, 5, 6, 7, 8] rfl [0, 1, 2, 3, 4, 5, 6, 7] rfl (ci := 6) (q0 := 0) rfl rfl) rfl rfl hl.1 rfl (lv_room (Nat.le_of_ble_eq_true rfl)) dX5_stand_8 ⟨Nat.zero_le _, Nat.zero_le _⟩) hP hS hA (fun H locs hP hS => ?_)
  refine lv_if_eq (tgt := 22) hx hb dX5_stand_11 (by decide) (fun c_2 => ?_) (fun c_2 => ?_)
  · have hJ := j_t c_2 hJ
    refine lv_bipush (v := (-2)) hx hb dX5_stand_22 (by decide) ?_
    have ho := Option.some.inj hJ
    exact W.iret (v := (-2 : Int32)) hx hb hr (fun t ht hW => ⟨⟨_, (), rfl, (by rw [← ho]), (by rw [ht, ← ho]; exact hP), (by rw [← ho]; exact hD)⟩, hS.F ht⟩) hS.2.2 dX5_stand_24
  · have hJ := j_f c_2 hJ
    refine lv_aload_n hx hb dX5_stand_14 rfl (lv_at hl 0 rfl) ?_
    refine lv_iload_n hx hb dX5_stand_15 rfl (lv_at hl 3 rfl) ?_
    obtain ⟨v_3, hv_3, hJ⟩ := j_b hJ
    refine ro_i (va_runV (As := [.int p2]) (rest := []) ⟨hx, hb, hml, hown, hts⟩ (c_X5_isHeading l D aM aMf aNm aBe aFa aCs aFr aRo aNe cMf cNm cBe cFa cCs cFr cRo cNe (0 : Int32) w ht fou ln wd rd kp car hom gol hld err isw mvs mde exa lst mf nm be fa cs fr ro ne p2 tX tY H.size F v_3 hv_3) (cwV 1 hts gX5_stand_X5_isHeading rfl rfl rfl (by decide +kernel) ⟨Nat.le_of_ble_eq_true rfl, Nat.le_of_ble_eq_true rfl⟩) (preRV [.int p2] hP hK hS hA hST [0, 1, 2, 3, 4, 5, 6, 7, 8] rfl [0, 1, 2, 3, 4, 5, 6, 7] rfl (ci := 6) (q0 := 0) rfl rfl) rfl rfl hl.1 rfl (lv_room (Nat.le_of_ble_eq_true rfl)) dX5_stand_16 ⟨Nat.zero_le _, Nat.zero_le _⟩) hP hS hA (fun H locs hP hS => ?_)
    refine lv_if_ne (tgt := 25) hx hb dX5_stand_19 (by decide) (fun c_4 => ?_) (fun c_4 => ?_)
    · have hJ := j_f c_4 hJ
      refine lv_aload_n hx hb dX5_stand_25 rfl (lv_at hl 0 rfl) ?_
      obtain ⟨v_5, hv_5, hJ⟩ := j_b hJ
      refine wr_v (wr := []) (wn := [(aM, .inr (6, [.int (0 : Int32), .int w, .int ht, .int fou, .ref aMf, .int ln, .int wd, .int rd, .int kp, .int car, .int hom, .int gol, .int hld, .double err, .int isw, .int mvs, .int mde, .ref aNm, .ref aBe, .int exa, .long lst, .ref aFa, .ref aCs, .ref aFr, .ref aRo, .ref aNe])), (aMf, .inl (cMf, 576, .inl mf)), (aNm, .inl (cNm, 4608, .inl nm)), (aBe, .inl (cBe, 4608, .inl be)), (aFa, .inl (cFa, 4608, .inl fa)), (aCs, .inl (cCs, 4608, .inl cs)), (aFr, .inl (cFr, 4608, .inl fr)), (aRo, .inl (cRo, 4608, .inl ro)), (aNe, .inl (cNe, 576, .inl v_5))]) (va_runV (As := []) (rest := []) ⟨hx, hb, hml, hown, hts⟩ (c_X5_findNear l D aM aMf aNm aBe aFa aCs aFr aRo aNe cMf cNm cBe cFa cCs cFr cRo cNe (0 : Int32) w ht fou ln wd rd kp car hom gol hld err isw mvs mde exa lst mf nm be fa cs fr ro ne tX tY H.size F v_5 hv_5) (cwV 0 hts gX5_stand_X5_findNear rfl rfl rfl (by decide +kernel) ⟨Nat.le_of_ble_eq_true rfl, Nat.le_of_ble_eq_true rfl⟩) (preWV [] hP hD hK hS hA hST [0, 1, 2, 3, 4, 5, 6, 7, 8] rfl rfl rfl [0, 1, 2, 3, 4, 5, 6, 7] rfl (ci := 6) (q0 := 0) rfl rfl) rfl rfl hl.1 rfl (lv_room (Nat.le_of_ble_eq_true rfl)) dX5_stand_26 ⟨Nat.zero_le _, Nat.zero_le _⟩) hP hD hS hA [0, 1, 2, 3, 4, 5, 6, 7, 8] [] rfl rfl rfl (by decide) [0, 1, 2, 3, 4, 5, 6, 7, 8] rfl rfl rfl (fun H locs hP hD hS => ?_)
      refine lv_aload_n hx hb dX5_stand_29 rfl (lv_at hl 0 rfl) ?_
      refine lv_iload_n hx hb dX5_stand_30 rfl (lv_at hl 1 rfl) ?_
      refine lv_iload_n hx hb dX5_stand_31 rfl (lv_at hl 2 rfl) ?_
      refine lv_iload_n hx hb dX5_stand_32 rfl (lv_at hl 3 rfl) ?_
      obtain ⟨v_6, hv_6, hJ⟩ := j_b hJ
      refine ro_i (va_runV (As := [.int p0, .int p1, .int p2]) (rest := []) ⟨hx, hb, hml, hown, hts⟩ (c_X5_isFree l D aM aMf aNm aBe aFa aCs aFr aRo aNe cMf cNm cBe cFa cCs cFr cRo cNe (0 : Int32) w ht fou ln wd rd kp car hom gol hld err isw mvs mde exa lst mf nm be fa cs fr ro v_5 p0 p1 p2 tX tY H.size F v_6 hv_6) (cwV 3 hts gX5_stand_X5_isFree rfl rfl rfl (by decide +kernel) ⟨Nat.le_of_ble_eq_true rfl, Nat.le_of_ble_eq_true rfl⟩) (preRV [.int p0, .int p1, .int p2] hP hK hS hA hST [0, 1, 2, 3, 4, 5, 6, 7, 8] rfl [0, 1, 2, 3, 4, 5, 6, 7] rfl (ci := 6) (q0 := 0) rfl rfl) rfl rfl hl.1 rfl (lv_room (Nat.le_of_ble_eq_true rfl)) dX5_stand_33 ⟨Nat.zero_le _, Nat.zero_le _⟩) hP hS hA (fun H locs hP hS => ?_)
      refine lv_if_ne (tgt := 42) hx hb dX5_stand_36 (by decide) (fun c_7 => ?_) (fun c_7 => ?_)
      · have hJ := j_f c_7 hJ
        refine lv_aload_n hx hb dX5_stand_42 rfl (lv_at hl 0 rfl) ?_
        refine lv_iload_n hx hb dX5_stand_43 rfl (lv_at hl 1 rfl) ?_
        refine lv_iload_n hx hb dX5_stand_44 rfl (lv_at hl 2 rfl) ?_
        refine lv_iload_n hx hb dX5_stand_45 rfl (lv_at hl 3 rfl) ?_
        obtain ⟨v_8, hv_8, hJ⟩ := j_b hJ
        refine ro_i (va_runS (As := [.int p0, .int p1, .int p2]) (rest := [.ref aM]) ⟨hx, hb, hml, hown, hts⟩ (c_X5_place l D p0 p1 p2 tX tY H.size F v_8 hv_8) (va_cwS 3 hts gX5_stand_X5_place rfl rfl rfl (by decide +kernel) ⟨Nat.le_of_ble_eq_true rfl, Nat.le_of_ble_eq_true rfl⟩) (preRS [.int p0, .int p1, .int p2] hP hK hS hA hST [] rfl [] rfl) rfl rfl hl.1 rfl (lv_room (Nat.le_of_ble_eq_true rfl)) dX5_stand_46 ⟨Nat.zero_le _, Nat.zero_le _⟩) hP hS hA (fun H locs hP hS => ?_)
        refine va_put (D := D) (ci := 6) (v := .int v_8) (ty := .int) (C := RX5) (T := TX5) (N := 26) hx hb hts iX5 tyX5 tyX5_ok nmX5 hown hK hP hD hS 0 rfl rfl 9 (by decide) k_2 (fun _ h9 => h9) rfl (by decide +kernel) rfl rfl (Nat.le_of_ble_eq_true rfl) dX5_stand_49 (fun H locs hP hD hS => ?_)
        have hP : va_P D vwCl [(aM, .inr (6, [.int (0 : Int32), .int w, .int ht, .int fou, .ref aMf, .int ln, .int wd, .int rd, .int kp, .int v_8, .int hom, .int gol, .int hld, .double err, .int isw, .int mvs, .int mde, .ref aNm, .ref aBe, .int exa, .long lst, .ref aFa, .ref aCs, .ref aFr, .ref aRo, .ref aNe])), (aMf, .inl (cMf, 576, .inl mf)), (aNm, .inl (cNm, 4608, .inl nm)), (aBe, .inl (cBe, 4608, .inl be)), (aFa, .inl (cFa, 4608, .inl fa)), (aCs, .inl (cCs, 4608, .inl cs)), (aFr, .inl (cFr, 4608, .inl fr)), (aRo, .inl (cRo, 4608, .inl ro)), (aNe, .inl (cNe, 576, .inl v_5))] H := hP
        have hD : va_D A [(aM, .inr (6, [.int (0 : Int32), .int w, .int ht, .int fou, .ref aMf, .int ln, .int wd, .int rd, .int kp, .int v_8, .int hom, .int gol, .int hld, .double err, .int isw, .int mvs, .int mde, .ref aNm, .ref aBe, .int exa, .long lst, .ref aFa, .ref aCs, .ref aFr, .ref aRo, .ref aNe])), (aMf, .inl (cMf, 576, .inl mf)), (aNm, .inl (cNm, 4608, .inl nm)), (aBe, .inl (cBe, 4608, .inl be)), (aFa, .inl (cFa, 4608, .inl fa)), (aCs, .inl (cCs, 4608, .inl cs)), (aFr, .inl (cFr, 4608, .inl fr)), (aRo, .inl (cRo, 4608, .inl ro)), (aNe, .inl (cNe, 576, .inl v_5))] := hD
        refine lv_aload_n hx hb dX5_stand_52 rfl (lv_at hl 0 rfl) ?_
        refine lv_aload_n hx hb dX5_stand_53 rfl (lv_at hl 0 rfl) ?_
        refine va_get (D := D) (ci := 6) (v := .int v_8) (C := RX5) (T := TX5) (N := 26) hx hb hts iX5 hown hK hP 0 rfl rfl 9 (by decide) k_2 (fun _ h9 => h9) rfl dX5_stand_54 ?_
        refine va_put (D := D) (ci := 6) (v := .int v_8) (ty := .int) (C := RX5) (T := TX5) (N := 26) hx hb hts iX5 tyX5 tyX5_ok nmX5 hown hK hP hD hS 0 rfl rfl 10 (by decide) k_3 (fun _ h9 => h9) rfl (by decide +kernel) rfl rfl (Nat.le_of_ble_eq_true rfl) dX5_stand_57 (fun H locs hP hD hS => ?_)
        have hP : va_P D vwCl [(aM, .inr (6, [.int (0 : Int32), .int w, .int ht, .int fou, .ref aMf, .int ln, .int wd, .int rd, .int kp, .int v_8, .int v_8, .int gol, .int hld, .double err, .int isw, .int mvs, .int mde, .ref aNm, .ref aBe, .int exa, .long lst, .ref aFa, .ref aCs, .ref aFr, .ref aRo, .ref aNe])), (aMf, .inl (cMf, 576, .inl mf)), (aNm, .inl (cNm, 4608, .inl nm)), (aBe, .inl (cBe, 4608, .inl be)), (aFa, .inl (cFa, 4608, .inl fa)), (aCs, .inl (cCs, 4608, .inl cs)), (aFr, .inl (cFr, 4608, .inl fr)), (aRo, .inl (cRo, 4608, .inl ro)), (aNe, .inl (cNe, 576, .inl v_5))] H := hP
        have hD : va_D A [(aM, .inr (6, [.int (0 : Int32), .int w, .int ht, .int fou, .ref aMf, .int ln, .int wd, .int rd, .int kp, .int v_8, .int v_8, .int gol, .int hld, .double err, .int isw, .int mvs, .int mde, .ref aNm, .ref aBe, .int exa, .long lst, .ref aFa, .ref aCs, .ref aFr, .ref aRo, .ref aNe])), (aMf, .inl (cMf, 576, .inl mf)), (aNm, .inl (cNm, 4608, .inl nm)), (aBe, .inl (cBe, 4608, .inl be)), (aFa, .inl (cFa, 4608, .inl fa)), (aCs, .inl (cCs, 4608, .inl cs)), (aFr, .inl (cFr, 4608, .inl fr)), (aRo, .inl (cRo, 4608, .inl ro)), (aNe, .inl (cNe, 576, .inl v_5))] := hD
        refine lv_aload_n hx hb dX5_stand_60 rfl (lv_at hl 0 rfl) ?_
        refine lv_iconst (v := 0) hx hb dX5_stand_61 (by decide) ?_
        refine va_put (D := D) (ci := 6) (v := .int (0 : Int32)) (ty := .boolean) (C := RX5) (T := TX5) (N := 26) hx hb hts iX5 tyX5 tyX5_ok nmX5 hown hK hP hD hS 0 rfl rfl 14 (by decide) k_4 (fun _ h9 => h9) rfl (by decide +kernel) rfl rfl (Nat.le_of_ble_eq_true rfl) dX5_stand_62 (fun H locs hP hD hS => ?_)
        have hP : va_P D vwCl [(aM, .inr (6, [.int (0 : Int32), .int w, .int ht, .int fou, .ref aMf, .int ln, .int wd, .int rd, .int kp, .int v_8, .int v_8, .int gol, .int hld, .double err, .int (0 : Int32), .int mvs, .int mde, .ref aNm, .ref aBe, .int exa, .long lst, .ref aFa, .ref aCs, .ref aFr, .ref aRo, .ref aNe])), (aMf, .inl (cMf, 576, .inl mf)), (aNm, .inl (cNm, 4608, .inl nm)), (aBe, .inl (cBe, 4608, .inl be)), (aFa, .inl (cFa, 4608, .inl fa)), (aCs, .inl (cCs, 4608, .inl cs)), (aFr, .inl (cFr, 4608, .inl fr)), (aRo, .inl (cRo, 4608, .inl ro)), (aNe, .inl (cNe, 576, .inl v_5))] H := hP
        have hD : va_D A [(aM, .inr (6, [.int (0 : Int32), .int w, .int ht, .int fou, .ref aMf, .int ln, .int wd, .int rd, .int kp, .int v_8, .int v_8, .int gol, .int hld, .double err, .int (0 : Int32), .int mvs, .int mde, .ref aNm, .ref aBe, .int exa, .long lst, .ref aFa, .ref aCs, .ref aFr, .ref aRo, .ref aNe])), (aMf, .inl (cMf, 576, .inl mf)), (aNm, .inl (cNm, 4608, .inl nm)), (aBe, .inl (cBe, 4608, .inl be)), (aFa, .inl (cFa, 4608, .inl fa)), (aCs, .inl (cCs, 4608, .inl cs)), (aFr, .inl (cFr, 4608, .inl fr)), (aRo, .inl (cRo, 4608, .inl ro)), (aNe, .inl (cNe, 576, .inl v_5))] := hD
        refine lv_iconst (v := 1) hx hb dX5_stand_65 (by decide) ?_
        have ho := Option.some.inj hJ
        exact W.iret (v := (1 : Int32)) hx hb hr (fun t ht hW => ⟨⟨_, (), rfl, (by rw [← ho]), (by rw [ht, ← ho]; exact hP), (by rw [← ho]; exact hD)⟩, hS.F ht⟩) hS.2.2 dX5_stand_66
      · have hJ := j_t c_7 hJ
        refine lv_bipush (v := (-3)) hx hb dX5_stand_39 (by decide) ?_
        have ho := Option.some.inj hJ
        exact W.iret (v := (-3 : Int32)) hx hb hr (fun t ht hW => ⟨⟨_, (), rfl, (by rw [← ho]), (by rw [ht, ← ho]; exact hP), (by rw [← ho]; exact hD)⟩, hS.F ht⟩) hS.2.2 dX5_stand_41
    · have hJ := j_t c_4 hJ
      refine lv_bipush (v := (-2)) hx hb dX5_stand_22 (by decide) ?_
      have ho := Option.some.inj hJ
      exact W.iret (v := (-2 : Int32)) hx hb hr (fun t ht hW => ⟨⟨_, (), rfl, (by rw [← ho]), (by rw [ht, ← ho]; exact hP), (by rw [← ho]; exact hD)⟩, hS.F ht⟩) hS.2.2 dX5_stand_24
set_option maxHeartbeats 4000000 in
set_option maxRecDepth 100000 in
theorem c_X5_space (l : Launch) (D : va_G) (aM aMf aNm aBe aFa aCs aFr aRo aNe : Nat) (cMf cNm cBe cFa cCs cFr cRo cNe : ClassId) (cod : Int32) (w : Int32) (ht : Int32) (fou : Int32) (ln : Int32) (wd : Int32) (rd : Int32) (kp : Int32) (car : Int32) (hom : Int32) (gol : Int32) (hld : Int32) (err : UInt64) (isw : Int32) (mvs : Int32) (mde : Int32) (exa : Int32) (lst : Int64) (mf : Nat → Int32) (nm : Nat → Int32) (be : Nat → Int32) (fa : Nat → Int32) (cs : Nat → Int32) (fr : Nat → Int32) (ro : Nat → Int32) (ne : Nat → Int32) (p0 : Int32) (p1 : Int32) (tX tY sz F : Nat) (o : Int32 × Int32 × Int32 × Int32) (hJ : J_X5_space F w ht gol isw mf p0 p1 = some o) : Met l yX5_space wsX5_space rmX5_space (va_Pc [.ref aM, .int p0, .int p1] (pcW D [(aM, .inr (6, [.int cod, .int w, .int ht, .int fou, .ref aMf, .int ln, .int wd, .int rd, .int kp, .int car, .int hom, .int gol, .int hld, .double err, .int isw, .int mvs, .int mde, .ref aNm, .ref aBe, .int exa, .long lst, .ref aFa, .ref aCs, .ref aFr, .ref aRo, .ref aNe])), (aMf, .inl (cMf, 576, .inl mf)), (aNm, .inl (cNm, 4608, .inl nm)), (aBe, .inl (cBe, 4608, .inl be)), (aFa, .inl (cFa, 4608, .inl fa)), (aCs, .inl (cCs, 4608, .inl cs)), (aFr, .inl (cFr, 4608, .inl fr)), (aRo, .inl (cRo, 4608, .inl ro)), (aNe, .inl (cNe, 576, .inl ne))] [(cMf, .boolean), (cNm, .int), (cBe, .int), (cFa, .int), (cCs, .int), (cFr, .boolean), (cRo, .int), (cNe, .int)] sz tX tY)) (qWi D o.1 [(aM, .inr (6, [.int o.2.1, .int w, .int ht, .int fou, .ref aMf, .int ln, .int wd, .int rd, .int kp, .int car, .int hom, .int o.2.2.1, .int hld, .double err, .int o.2.2.2, .int mvs, .int mde, .ref aNm, .ref aBe, .int exa, .long lst, .ref aFa, .ref aCs, .ref aFr, .ref aRo, .ref aNe])), (aMf, .inl (cMf, 576, .inl mf)), (aNm, .inl (cNm, 4608, .inl nm)), (aBe, .inl (cBe, 4608, .inl be)), (aFa, .inl (cFa, 4608, .inl fa)), (aCs, .inl (cCs, 4608, .inl cs)), (aFr, .inl (cFr, 4608, .inl fr)), (aRo, .inl (cRo, 4608, .inl ro)), (aNe, .inl (cNe, 576, .inl ne))] (va_A [(aM, .inr (6, [.int cod, .int w, .int ht, .int fou, .ref aMf, .int ln, .int wd, .int rd, .int kp, .int car, .int hom, .int gol, .int hld, .double err, .int isw, .int mvs, .int mde, .ref aNm, .ref aBe, .int exa, .long lst, .ref aFa, .ref aCs, .ref aFr, .ref aRo, .ref aNe])), (aMf, .inl (cMf, 576, .inl mf)), (aNm, .inl (cNm, 4608, .inl nm)), (aBe, .inl (cBe, 4608, .inl be)), (aFa, .inl (cFa, 4608, .inl fa)), (aCs, .inl (cCs, 4608, .inl cs)), (aFr, .inl (cFr, 4608, .inl fr)), (aRo, .inl (cRo, 4608, .inl ro)), (aNe, .inl (cNe, 576, .inl ne))] sz)) 0 0 (va_A [(aM, .inr (6, [.int cod, .int w, .int ht, .int fou, .ref aMf, .int ln, .int wd, .int rd, .int kp, .int car, .int hom, .int gol, .int hld, .double err, .int isw, .int mvs, .int mde, .ref aNm, .ref aBe, .int exa, .long lst, .ref aFa, .ref aCs, .ref aFr, .ref aRo, .ref aNe])), (aMf, .inl (cMf, 576, .inl mf)), (aNm, .inl (cNm, 4608, .inl nm)), (aBe, .inl (cBe, 4608, .inl be)), (aFa, .inl (cFa, 4608, .inl fa)), (aCs, .inl (cCs, 4608, .inl cs)), (aFr, .inl (cFr, 4608, .inl fr)), (aRo, .inl (cRo, 4608, .inl ro)), (aNe, .inl (cNe, 576, .inl ne))] sz) := by
  refine Met.ofW (cc := cX5_space) (maxL := 6) (ret := (some .int)) (by decide) rfl ?_
  intro p e s m args below meth c s₁ B hml hv
  obtain ⟨rfl, hsz, hP, hK, hD0, hST⟩ := hv
  have hx := B.exec
  have hb := B.bytes
  have hr := B.returns
  have hts := atoms_spec (ws := wsX5_space) B.pre
  have hown : s.vm.findClass RX5 = some m.cls := findClass_of_methodNamed B.named
  have hlocks := B.notSynchronized
  subst hsz
  have hD := hD0.self (sz := s.heap.size)
  generalize hAe : va_A [(aM, .inr (6, [.int cod, .int w, .int ht, .int fou, .ref aMf, .int ln, .int wd, .int rd, .int kp, .int car, .int hom, .int gol, .int hld, .double err, .int isw, .int mvs, .int mde, .ref aNm, .ref aBe, .int exa, .long lst, .ref aFa, .ref aCs, .ref aFr, .ref aRo, .ref aNe])), (aMf, .inl (cMf, 576, .inl mf)), (aNm, .inl (cNm, 4608, .inl nm)), (aBe, .inl (cBe, 4608, .inl be)), (aFa, .inl (cFa, 4608, .inl fa)), (aCs, .inl (cCs, 4608, .inl cs)), (aFr, .inl (cFr, 4608, .inl fr)), (aRo, .inl (cRo, 4608, .inl ro)), (aNe, .inl (cNe, 576, .inl ne))] s.heap.size = A at hD hST ⊢
  have hA : ∀ q : Nat, s.heap.size ≤ q → A q := fun q h => by rw [← hAe]; exact Or.inr h
  have hS : va_S A s.heap s.heap [] := va_S.rf
  have hl := lv_entry ([.ref aM, .int p0, .int p1]) (n := 6) (Nat.le_of_ble_eq_true rfl)
  rw [lg_entry_eq]
  generalize (lg_sl ([.ref aM, .int p0, .int p1]) ++ List.replicate (6 - (lg_sl ([.ref aM, .int p0, .int p1])).length) Slot.unset).toArray = ls at hl ⊢
  have hl : lv_has ls 6 [(0, .ref aM), (1, .int p0), (2, .int p1)] := hl
  have iX5 : ∀ w ∈ wsX50, w ∈ wsX5_space := fun w h => List.mem_cons_of_mem _ (List.mem_append_right _ h)
  have k_1 := hts (.fieldLink RX5 58 "ParkWaysModel" "code" "I") (List.mem_of_getElem? (i := 1) rfl)
  have k_2 := hts (.fieldLink RX5 49 "ParkWaysModel" "width" "I") (List.mem_of_getElem? (i := 2) rfl)
  have k_3 := hts (.fieldLink RX5 52 "ParkWaysModel" "height" "I") (List.mem_of_getElem? (i := 3) rfl)
  have k_4 := hts (.fieldLink RX5 7 "ParkWaysModel" "full" "[Z") (List.mem_of_getElem? (i := 4) rfl)
  have k_5 := hts (.fieldLink RX5 109 "ParkWaysModel" "goal" "I") (List.mem_of_getElem? (i := 5) rfl)
  have k_6 := hts (.fieldLink RX5 118 "ParkWaysModel" "isWay" "Z") (List.mem_of_getElem? (i := 6) rfl)
  have L_51 : ∀ (y2_11 : Int32) (y3_12 : Int32) (y4_13 : Int32) (ycod_15 : Int32) (ygol_16 : Int32) (yisw_17 : Int32) (kk_87 : Int32 → Option (Int32 × Int32 × Int32 × Int32)) (hkk_87 : ∀ (H : Heap) (locs : List Loc) (x5_14 : Int32) (ls : Array Slot), kk_87 x5_14 = some o → va_P D vwCl [(aM, .inr (6, [.int ycod_15, .int w, .int ht, .int fou, .ref aMf, .int ln, .int wd, .int rd, .int kp, .int car, .int hom, .int ygol_16, .int hld, .double err, .int yisw_17, .int mvs, .int mde, .ref aNm, .ref aBe, .int exa, .long lst, .ref aFa, .ref aCs, .ref aFr, .ref aRo, .ref aNe])), (aMf, .inl (cMf, 576, .inl mf)), (aNm, .inl (cNm, 4608, .inl nm)), (aBe, .inl (cBe, 4608, .inl be)), (aFa, .inl (cFa, 4608, .inl fa)), (aCs, .inl (cCs, 4608, .inl cs)), (aFr, .inl (cFr, 4608, .inl fr)), (aRo, .inl (cRo, 4608, .inl ro)), (aNe, .inl (cNe, 576, .inl ne))] H → va_D A [(aM, .inr (6, [.int ycod_15, .int w, .int ht, .int fou, .ref aMf, .int ln, .int wd, .int rd, .int kp, .int car, .int hom, .int ygol_16, .int hld, .double err, .int yisw_17, .int mvs, .int mde, .ref aNm, .ref aBe, .int exa, .long lst, .ref aFa, .ref aCs, .ref aFr, .ref aRo, .ref aNe])), (aMf, .inl (cMf, 576, .inl mf)), (aNm, .inl (cNm, 4608, .inl nm)), (aBe, .inl (cBe, 4608, .inl be)), (aFa, .inl (cFa, 4608, .inl fa)), (aCs, .inl (cCs, 4608, .inl cs)), (aFr, .inl (cFr, 4608, .inl fr)), (aRo, .inl (cRo, 4608, .inl ro)), (aNe, .inl (cNe, 576, .inl ne))] → va_S A s.heap H locs → lv_has ls 6 [(0, .ref aM), (2, .int y2_11), (3, .int y3_12), (4, .int y4_13), (5, .int x5_14)] → W p l e (headSpec wsX5_space rmX5_space).room s m [.ref aM, .int p0, .int p1].toArray below meth c H locs 0 0 (MQ below (qWi D o.1 [(aM, .inr (6, [.int o.2.1, .int w, .int ht, .int fou, .ref aMf, .int ln, .int wd, .int rd, .int kp, .int car, .int hom, .int o.2.2.1, .int hld, .double err, .int o.2.2.2, .int mvs, .int mde, .ref aNm, .ref aBe, .int exa, .long lst, .ref aFa, .ref aCs, .ref aFr, .ref aRo, .ref aNe])), (aMf, .inl (cMf, 576, .inl mf)), (aNm, .inl (cNm, 4608, .inl nm)), (aBe, .inl (cBe, 4608, .inl be)), (aFa, .inl (cFa, 4608, .inl fa)), (aCs, .inl (cCs, 4608, .inl cs)), (aFr, .inl (cFr, 4608, .inl fr)), (aRo, .inl (cRo, 4608, .inl ro)), (aNe, .inl (cNe, 576, .inl ne))] A) [.ref aM, .int p0, .int p1].toArray s 0 0 A) (F0 m 87 ls [])) (fz : Nat) (H : Heap) (locs : List Loc) (x5_14 : Int32) (ls : Array Slot), J_X5_space_L51 F w mf y3_12 y4_13 kk_87 fz x5_14 = some o → va_P D vwCl [(aM, .inr (6, [.int ycod_15, .int w, .int ht, .int fou, .ref aMf, .int ln, .int wd, .int rd, .int kp, .int car, .int hom, .int ygol_16, .int hld, .double err, .int yisw_17, .int mvs, .int mde, .ref aNm, .ref aBe, .int exa, .long lst, .ref aFa, .ref aCs, .ref aFr, .ref aRo, .ref aNe])), (aMf, .inl (cMf, 576, .inl mf)), (aNm, .inl (cNm, 4608, .inl nm)), (aBe, .inl (cBe, 4608, .inl be)), (aFa, .inl (cFa, 4608, .inl fa)), (aCs, .inl (cCs, 4608, .inl cs)), (aFr, .inl (cFr, 4608, .inl fr)), (aRo, .inl (cRo, 4608, .inl ro)), (aNe, .inl (cNe, 576, .inl ne))] H → va_D A [(aM, .inr (6, [.int ycod_15, .int w, .int ht, .int fou, .ref aMf, .int ln, .int wd, .int rd, .int kp, .int car, .int hom, .int ygol_16, .int hld, .double err, .int yisw_17, .int mvs, .int mde, .ref aNm, .ref aBe, .int exa, .long lst, .ref aFa, .ref aCs, .ref aFr, .ref aRo, .ref aNe])), (aMf, .inl (cMf, 576, .inl mf)), (aNm, .inl (cNm, 4608, .inl nm)), (aBe, .inl (cBe, 4608, .inl be)), (aFa, .inl (cFa, 4608, .inl fa)), (aCs, .inl (cCs, 4608, .inl cs)), (aFr, .inl (cFr, 4608, .inl fr)), (aRo, .inl (cRo, 4608, .inl ro)), (aNe, .inl (cNe, 576, .inl ne))] → va_S A s.heap H locs → lv_has ls 6 [(0, .ref aM), (2, .int y2_11), (3, .int y3_12), (4, .int y4_13), (5, .int x5_14)] → W p l e (headSpec wsX5_space rmX5_space).room s m [.ref aM, .int p0, .int p1].toArray below meth c H locs 0 0 (MQ below (qWi D o.1 [(aM, .inr (6, [.int o.2.1, .int w, .int ht, .int fou, .ref aMf, .int ln, .int wd, .int rd, .int kp, .int car, .int hom, .int o.2.2.1, .int hld, .double err, .int o.2.2.2, .int mvs, .int mde, .ref aNm, .ref aBe, .int exa, .long lst, .ref aFa, .ref aCs, .ref aFr, .ref aRo, .ref aNe])), (aMf, .inl (cMf, 576, .inl mf)), (aNm, .inl (cNm, 4608, .inl nm)), (aBe, .inl (cBe, 4608, .inl be)), (aFa, .inl (cFa, 4608, .inl fa)), (aCs, .inl (cCs, 4608, .inl cs)), (aFr, .inl (cFr, 4608, .inl fr)), (aRo, .inl (cRo, 4608, .inl ro)), (aNe, .inl (cNe, 576, .inl ne))] A) [.ref aM, .int p0, .int p1].toArray s 0 0 A) (F0 m 51 ls []) := by
    intro y2_11 y3_12 y4_13 ycod_15 ygol_16 yisw_17 kk_87 hkk_87 fz
    induction fz with
    | zero =>
      intro H locs x5_14 ls hJ
      rw [J_X5_space_L51] at hJ
      cases hJ
    | succ fz ih =>
      intro H locs x5_14 ls hJ hP hD hS hl
      rw [J_X5_space_L51] at hJ
      refine lv_iload hx hb dX5_space_51 (lv_at hl 3 rfl) ?_
      refine lv_iload hx hb dX5_space_53 (lv_at hl 4 rfl) ?_
      refine lv_iadd hx hb dX5_space_55 ?_
      refine lv_aload_n hx hb dX5_space_56 rfl (lv_at hl 0 rfl) ?_
      refine va_get (D := D) (ci := 6) (v := .int w) (C := RX5) (T := TX5) (N := 26) hx hb hts iX5 hown hK hP 0 rfl rfl 1 (by decide) k_2 (fun _ h9 => h9) rfl dX5_space_57 ?_
      refine lv_icmp_ge (tgt := 87) hx hb dX5_space_60 (by decide) (fun c_18 => ?_) (fun c_18 => ?_)
      · have hJ := j_t c_18 hJ
        exact hkk_87 H locs x5_14 ls hJ hP hD hS (lv_sub hl [0, 1, 2, 3, 4] rfl)
      · have hJ := j_f c_18 hJ
        refine lv_aload_n hx hb dX5_space_63 rfl (lv_at hl 0 rfl) ?_
        refine va_get (D := D) (ci := 6) (v := .ref aMf) (C := RX5) (T := TX5) (N := 26) hx hb hts iX5 hown hK hP 0 rfl rfl 4 (by decide) k_4 (fun _ h9 => h9) rfl dX5_space_64 ?_
        refine lv_bipush (v := 24) hx hb dX5_space_67 (by decide) ?_
        refine lv_iload_n hx hb dX5_space_69 rfl (lv_at hl 2 rfl) ?_
        refine lv_imul hx hb dX5_space_70 ?_
        refine lv_iload hx hb dX5_space_71 (lv_at hl 3 rfl) ?_
        refine lv_iadd hx hb dX5_space_73 ?_
        refine lv_iload hx hb dX5_space_74 (lv_at hl 4 rfl) ?_
        refine lv_iadd hx hb dX5_space_76 ?_
        obtain ⟨h_19, hJ⟩ := g_in hJ
        refine va_zald hx hb hK hP 1 0 rfl rfl h_19 dX5_space_77 ?_
        refine lv_if_ne (tgt := 87) hx hb dX5_space_78 (by decide) (fun c_20 => ?_) (fun c_20 => ?_)
        · have hJ := j_f c_20 hJ
          exact hkk_87 H locs x5_14 ls hJ hP hD hS (lv_sub hl [0, 1, 2, 3, 4] rfl)
        · have hJ := j_t c_20 hJ
          refine lv_iinc (v := (x5_14 + (1 : Int32))) (lv' := [(5, .int (x5_14 + (1 : Int32))), (0, .ref aM), (2, .int y2_11), (3, .int y3_12), (4, .int y4_13)]) hx hb dX5_space_81 hl (k := 4) rfl rfl (by decide) rfl (fun ls hl => ?_)
          refine lv_goto (tgt := 51) hx hb dX5_space_84 (by decide) ?_
          exact ih H locs (x5_14 + (1 : Int32)) ls hJ hP hD hS (lv_sub hl [1, 2, 3, 4, 0] rfl)
  have L_39 : ∀ (y2_4 : Int32) (y3_5 : Int32) (ycod_7 : Int32) (kk_133 : Int32 → Int32 → Int32 → Option (Int32 × Int32 × Int32 × Int32)) (hkk_133 : ∀ (H : Heap) (locs : List Loc) (x4_6 : Int32) (xgol_8 : Int32) (xisw_9 : Int32) (ls : Array Slot), kk_133 x4_6 xgol_8 xisw_9 = some o → va_P D vwCl [(aM, .inr (6, [.int ycod_7, .int w, .int ht, .int fou, .ref aMf, .int ln, .int wd, .int rd, .int kp, .int car, .int hom, .int xgol_8, .int hld, .double err, .int xisw_9, .int mvs, .int mde, .ref aNm, .ref aBe, .int exa, .long lst, .ref aFa, .ref aCs, .ref aFr, .ref aRo, .ref aNe])), (aMf, .inl (cMf, 576, .inl mf)), (aNm, .inl (cNm, 4608, .inl nm)), (aBe, .inl (cBe, 4608, .inl be)), (aFa, .inl (cFa, 4608, .inl fa)), (aCs, .inl (cCs, 4608, .inl cs)), (aFr, .inl (cFr, 4608, .inl fr)), (aRo, .inl (cRo, 4608, .inl ro)), (aNe, .inl (cNe, 576, .inl ne))] H → va_D A [(aM, .inr (6, [.int ycod_7, .int w, .int ht, .int fou, .ref aMf, .int ln, .int wd, .int rd, .int kp, .int car, .int hom, .int xgol_8, .int hld, .double err, .int xisw_9, .int mvs, .int mde, .ref aNm, .ref aBe, .int exa, .long lst, .ref aFa, .ref aCs, .ref aFr, .ref aRo, .ref aNe])), (aMf, .inl (cMf, 576, .inl mf)), (aNm, .inl (cNm, 4608, .inl nm)), (aBe, .inl (cBe, 4608, .inl be)), (aFa, .inl (cFa, 4608, .inl fa)), (aCs, .inl (cCs, 4608, .inl cs)), (aFr, .inl (cFr, 4608, .inl fr)), (aRo, .inl (cRo, 4608, .inl ro)), (aNe, .inl (cNe, 576, .inl ne))] → va_S A s.heap H locs → lv_has ls 6 [] → W p l e (headSpec wsX5_space rmX5_space).room s m [.ref aM, .int p0, .int p1].toArray below meth c H locs 0 0 (MQ below (qWi D o.1 [(aM, .inr (6, [.int o.2.1, .int w, .int ht, .int fou, .ref aMf, .int ln, .int wd, .int rd, .int kp, .int car, .int hom, .int o.2.2.1, .int hld, .double err, .int o.2.2.2, .int mvs, .int mde, .ref aNm, .ref aBe, .int exa, .long lst, .ref aFa, .ref aCs, .ref aFr, .ref aRo, .ref aNe])), (aMf, .inl (cMf, 576, .inl mf)), (aNm, .inl (cNm, 4608, .inl nm)), (aBe, .inl (cBe, 4608, .inl be)), (aFa, .inl (cFa, 4608, .inl fa)), (aCs, .inl (cCs, 4608, .inl cs)), (aFr, .inl (cFr, 4608, .inl fr)), (aRo, .inl (cRo, 4608, .inl ro)), (aNe, .inl (cNe, 576, .inl ne))] A) [.ref aM, .int p0, .int p1].toArray s 0 0 A) (F0 m 133 ls [])) (fz : Nat) (H : Heap) (locs : List Loc) (x4_6 : Int32) (xgol_8 : Int32) (xisw_9 : Int32) (ls : Array Slot), J_X5_space_L39 F w mf y2_4 y3_5 ycod_7 kk_133 fz x4_6 xgol_8 xisw_9 = some o → va_P D vwCl [(aM, .inr (6, [.int ycod_7, .int w, .int ht, .int fou, .ref aMf, .int ln, .int wd, .int rd, .int kp, .int car, .int hom, .int xgol_8, .int hld, .double err, .int xisw_9, .int mvs, .int mde, .ref aNm, .ref aBe, .int exa, .long lst, .ref aFa, .ref aCs, .ref aFr, .ref aRo, .ref aNe])), (aMf, .inl (cMf, 576, .inl mf)), (aNm, .inl (cNm, 4608, .inl nm)), (aBe, .inl (cBe, 4608, .inl be)), (aFa, .inl (cFa, 4608, .inl fa)), (aCs, .inl (cCs, 4608, .inl cs)), (aFr, .inl (cFr, 4608, .inl fr)), (aRo, .inl (cRo, 4608, .inl ro)), (aNe, .inl (cNe, 576, .inl ne))] H → va_D A [(aM, .inr (6, [.int ycod_7, .int w, .int ht, .int fou, .ref aMf, .int ln, .int wd, .int rd, .int kp, .int car, .int hom, .int xgol_8, .int hld, .double err, .int xisw_9, .int mvs, .int mde, .ref aNm, .ref aBe, .int exa, .long lst, .ref aFa, .ref aCs, .ref aFr, .ref aRo, .ref aNe])), (aMf, .inl (cMf, 576, .inl mf)), (aNm, .inl (cNm, 4608, .inl nm)), (aBe, .inl (cBe, 4608, .inl be)), (aFa, .inl (cFa, 4608, .inl fa)), (aCs, .inl (cCs, 4608, .inl cs)), (aFr, .inl (cFr, 4608, .inl fr)), (aRo, .inl (cRo, 4608, .inl ro)), (aNe, .inl (cNe, 576, .inl ne))] → va_S A s.heap H locs → lv_has ls 6 [(0, .ref aM), (2, .int y2_4), (3, .int y3_5), (4, .int x4_6)] → W p l e (headSpec wsX5_space rmX5_space).room s m [.ref aM, .int p0, .int p1].toArray below meth c H locs 0 0 (MQ below (qWi D o.1 [(aM, .inr (6, [.int o.2.1, .int w, .int ht, .int fou, .ref aMf, .int ln, .int wd, .int rd, .int kp, .int car, .int hom, .int o.2.2.1, .int hld, .double err, .int o.2.2.2, .int mvs, .int mde, .ref aNm, .ref aBe, .int exa, .long lst, .ref aFa, .ref aCs, .ref aFr, .ref aRo, .ref aNe])), (aMf, .inl (cMf, 576, .inl mf)), (aNm, .inl (cNm, 4608, .inl nm)), (aBe, .inl (cBe, 4608, .inl be)), (aFa, .inl (cFa, 4608, .inl fa)), (aCs, .inl (cCs, 4608, .inl cs)), (aFr, .inl (cFr, 4608, .inl fr)), (aRo, .inl (cRo, 4608, .inl ro)), (aNe, .inl (cNe, 576, .inl ne))] A) [.ref aM, .int p0, .int p1].toArray s 0 0 A) (F0 m 39 ls []) := by
    intro y2_4 y3_5 ycod_7 kk_133 hkk_133 fz
    induction fz with
    | zero =>
      intro H locs x4_6 xgol_8 xisw_9 ls hJ
      rw [J_X5_space_L39] at hJ
      cases hJ
    | succ fz ih =>
      intro H locs x4_6 xgol_8 xisw_9 ls hJ hP hD hS hl
      rw [J_X5_space_L39] at hJ
      refine lv_iload hx hb dX5_space_39 (lv_at hl 3 rfl) ?_
      refine lv_aload_n hx hb dX5_space_41 rfl (lv_at hl 0 rfl) ?_
      refine va_get (D := D) (ci := 6) (v := .int w) (C := RX5) (T := TX5) (N := 26) hx hb hts iX5 hown hK hP 0 rfl rfl 1 (by decide) k_2 (fun _ h9 => h9) rfl dX5_space_42 ?_
      refine lv_icmp_ge (tgt := 133) hx hb dX5_space_45 (by decide) (fun c_10 => ?_) (fun c_10 => ?_)
      · have hJ := j_t c_10 hJ
        exact hkk_133 H locs x4_6 xgol_8 xisw_9 ls hJ hP hD hS (lv_sub hl [] rfl)
      · have hJ := j_f c_10 hJ
        refine lv_iconst (v := 0) hx hb dX5_space_48 (by decide) ?_
        refine lv_istore (lv' := [(5, .int (0 : Int32)), (0, .ref aM), (2, .int y2_4), (3, .int y3_5), (4, .int x4_6)]) hx hb dX5_space_49 hl (by decide) rfl (fun ls hl => ?_)
        refine L_51 y2_4 y3_5 x4_6 ycod_7 xgol_8 xisw_9 _ ?_ F H locs (0 : Int32) ls hJ hP hD hS (lv_sub hl [1, 2, 3, 4, 0] rfl)
        · intro H locs x5_21 ls hJ hP hD hS hl
          refine lv_iload hx hb dX5_space_87 (lv_at hl 4 rfl) ?_
          refine lv_iload_n hx hb dX5_space_89 rfl (lv_at hl 1 rfl) ?_
          refine lv_icmp_lt (tgt := 121) hx hb dX5_space_90 (by decide) (fun c_22 => ?_) (fun c_22 => ?_)
          · have hJ := j_t c_22 hJ
            refine lv_iload hx hb dX5_space_121 (lv_at hl 3 rfl) ?_
            refine lv_iload hx hb dX5_space_123 (lv_at hl 4 rfl) ?_
            refine lv_iconst (v := 1) hx hb dX5_space_125 (by decide) ?_
            refine lv_iadd hx hb dX5_space_126 ?_
            refine lv_iadd hx hb dX5_space_127 ?_
            refine lv_istore (lv' := [(4, .int (x4_6 + (x5_21 + (1 : Int32)))), (0, .ref aM), (2, .int y2_4), (3, .int y3_5), (5, .int x5_21)]) hx hb dX5_space_128 hl (by decide) rfl (fun ls hl => ?_)
            refine lv_goto (tgt := 39) hx hb dX5_space_130 (by decide) ?_
            exact ih H locs (x4_6 + (x5_21 + (1 : Int32))) xgol_8 xisw_9 ls hJ hP hD hS (lv_sub hl [1, 2, 3, 0] rfl)
          · have hJ := j_f c_22 hJ
            refine lv_aload_n hx hb dX5_space_93 rfl (lv_at hl 0 rfl) ?_
            refine lv_iload hx hb dX5_space_94 (lv_at hl 3 rfl) ?_
            refine lv_iload hx hb dX5_space_96 (lv_at hl 4 rfl) ?_
            refine lv_iconst (v := 1) hx hb dX5_space_98 (by decide) ?_
            refine lv_isub hx hb dX5_space_99 ?_
            refine lv_iconst (v := 2) hx hb dX5_space_100 (by decide) ?_
            refine lv_idiv hx hb dX5_space_101 (by decide) ?_
            refine lv_iadd hx hb dX5_space_102 ?_
            refine lv_iload_n hx hb dX5_space_103 rfl (lv_at hl 2 rfl) ?_
            refine lv_iconst (v := 0) hx hb dX5_space_104 (by decide) ?_
            obtain ⟨v_23, hv_23, hJ⟩ := j_b hJ
            refine ro_i (va_runS (As := [.int (x4_6 + ((x5_21 - (1 : Int32)) / (2 : Int32))), .int y3_5, .int (0 : Int32)]) (rest := [.ref aM]) ⟨hx, hb, hml, hown, hts⟩ (c_X5_place l D (x4_6 + ((x5_21 - (1 : Int32)) / (2 : Int32))) y3_5 (0 : Int32) tX tY H.size F v_23 hv_23) (va_cwS 3 hts gX5_space_X5_place rfl rfl rfl (by decide +kernel) ⟨Nat.le_of_ble_eq_true rfl, Nat.le_of_ble_eq_true rfl⟩) (preRS [.int (x4_6 + ((x5_21 - (1 : Int32)) / (2 : Int32))), .int y3_5, .int (0 : Int32)] hP hK hS hA hST [] rfl [] rfl) rfl rfl hl.1 rfl (lv_room (Nat.le_of_ble_eq_true rfl)) dX5_space_105 ⟨Nat.zero_le _, Nat.zero_le _⟩) hP hS hA (fun H locs hP hS => ?_)
            refine va_put (D := D) (ci := 6) (v := .int v_23) (ty := .int) (C := RX5) (T := TX5) (N := 26) hx hb hts iX5 tyX5 tyX5_ok nmX5 hown hK hP hD hS 0 rfl rfl 11 (by decide) k_5 (fun _ h9 => h9) rfl (by decide +kernel) rfl rfl (Nat.le_of_ble_eq_true rfl) dX5_space_108 (fun H locs hP hD hS => ?_)
            have hP : va_P D vwCl [(aM, .inr (6, [.int ycod_7, .int w, .int ht, .int fou, .ref aMf, .int ln, .int wd, .int rd, .int kp, .int car, .int hom, .int v_23, .int hld, .double err, .int xisw_9, .int mvs, .int mde, .ref aNm, .ref aBe, .int exa, .long lst, .ref aFa, .ref aCs, .ref aFr, .ref aRo, .ref aNe])), (aMf, .inl (cMf, 576, .inl mf)), (aNm, .inl (cNm, 4608, .inl nm)), (aBe, .inl (cBe, 4608, .inl be)), (aFa, .inl (cFa, 4608, .inl fa)), (aCs, .inl (cCs, 4608, .inl cs)), (aFr, .inl (cFr, 4608, .inl fr)), (aRo, .inl (cRo, 4608, .inl ro)), (aNe, .inl (cNe, 576, .inl ne))] H := hP
            have hD : va_D A [(aM, .inr (6, [.int ycod_7, .int w, .int ht, .int fou, .ref aMf, .int ln, .int wd, .int rd, .int kp, .int car, .int hom, .int v_23, .int hld, .double err, .int xisw_9, .int mvs, .int mde, .ref aNm, .ref aBe, .int exa, .long lst, .ref aFa, .ref aCs, .ref aFr, .ref aRo, .ref aNe])), (aMf, .inl (cMf, 576, .inl mf)), (aNm, .inl (cNm, 4608, .inl nm)), (aBe, .inl (cBe, 4608, .inl be)), (aFa, .inl (cFa, 4608, .inl fa)), (aCs, .inl (cCs, 4608, .inl cs)), (aFr, .inl (cFr, 4608, .inl fr)), (aRo, .inl (cRo, 4608, .inl ro)), (aNe, .inl (cNe, 576, .inl ne))] := hD
            refine lv_aload_n hx hb dX5_space_111 rfl (lv_at hl 0 rfl) ?_
            refine lv_iconst (v := 0) hx hb dX5_space_112 (by decide) ?_
            refine va_put (D := D) (ci := 6) (v := .int (0 : Int32)) (ty := .boolean) (C := RX5) (T := TX5) (N := 26) hx hb hts iX5 tyX5 tyX5_ok nmX5 hown hK hP hD hS 0 rfl rfl 14 (by decide) k_6 (fun _ h9 => h9) rfl (by decide +kernel) rfl rfl (Nat.le_of_ble_eq_true rfl) dX5_space_113 (fun H locs hP hD hS => ?_)
            have hP : va_P D vwCl [(aM, .inr (6, [.int ycod_7, .int w, .int ht, .int fou, .ref aMf, .int ln, .int wd, .int rd, .int kp, .int car, .int hom, .int v_23, .int hld, .double err, .int (0 : Int32), .int mvs, .int mde, .ref aNm, .ref aBe, .int exa, .long lst, .ref aFa, .ref aCs, .ref aFr, .ref aRo, .ref aNe])), (aMf, .inl (cMf, 576, .inl mf)), (aNm, .inl (cNm, 4608, .inl nm)), (aBe, .inl (cBe, 4608, .inl be)), (aFa, .inl (cFa, 4608, .inl fa)), (aCs, .inl (cCs, 4608, .inl cs)), (aFr, .inl (cFr, 4608, .inl fr)), (aRo, .inl (cRo, 4608, .inl ro)), (aNe, .inl (cNe, 576, .inl ne))] H := hP
            have hD : va_D A [(aM, .inr (6, [.int ycod_7, .int w, .int ht, .int fou, .ref aMf, .int ln, .int wd, .int rd, .int kp, .int car, .int hom, .int v_23, .int hld, .double err, .int (0 : Int32), .int mvs, .int mde, .ref aNm, .ref aBe, .int exa, .long lst, .ref aFa, .ref aCs, .ref aFr, .ref aRo, .ref aNe])), (aMf, .inl (cMf, 576, .inl mf)), (aNm, .inl (cNm, 4608, .inl nm)), (aBe, .inl (cBe, 4608, .inl be)), (aFa, .inl (cFa, 4608, .inl fa)), (aCs, .inl (cCs, 4608, .inl cs)), (aFr, .inl (cFr, 4608, .inl fr)), (aRo, .inl (cRo, 4608, .inl ro)), (aNe, .inl (cNe, 576, .inl ne))] := hD
            refine lv_iload hx hb dX5_space_116 (lv_at hl 3 rfl) ?_
            refine lv_iconst (v := 1) hx hb dX5_space_118 (by decide) ?_
            refine lv_iadd hx hb dX5_space_119 ?_
            have ho := Option.some.inj hJ
            exact W.iret (v := (x4_6 + (1 : Int32))) hx hb hr (fun t ht hW => ⟨⟨_, (), rfl, (by rw [← ho]), (by rw [ht, ← ho]; exact hP), (by rw [← ho]; exact hD)⟩, hS.F ht⟩) hS.2.2 dX5_space_120
  unfold J_X5_space at hJ
  refine lv_aload_n hx hb dX5_space_0 rfl (lv_at hl 0 rfl) ?_
  refine lv_iconst (v := 0) hx hb dX5_space_1 (by decide) ?_
  refine va_put (D := D) (ci := 6) (v := .int (0 : Int32)) (ty := .int) (C := RX5) (T := TX5) (N := 26) hx hb hts iX5 tyX5 tyX5_ok nmX5 hown hK hP hD hS 0 rfl rfl 0 (by decide) k_1 (fun _ h9 => h9) rfl (by decide +kernel) rfl rfl (Nat.le_of_ble_eq_true rfl) dX5_space_2 (fun H locs hP hD hS => ?_)
  have hP : va_P D vwCl [(aM, .inr (6, [.int (0 : Int32), .int w, .int ht, .int fou, .ref aMf, .int ln, .int wd, .int rd, .int kp, .int car, .int hom, .int gol, .int hld, .double err, .int isw, .int mvs, .int mde, .ref aNm, .ref aBe, .int exa, .long lst, .ref aFa, .ref aCs, .ref aFr, .ref aRo, .ref aNe])), (aMf, .inl (cMf, 576, .inl mf)), (aNm, .inl (cNm, 4608, .inl nm)), (aBe, .inl (cBe, 4608, .inl be)), (aFa, .inl (cFa, 4608, .inl fa)), (aCs, .inl (cCs, 4608, .inl cs)), (aFr, .inl (cFr, 4608, .inl fr)), (aRo, .inl (cRo, 4608, .inl ro)), (aNe, .inl (cNe, 576, .inl ne))] H := hP
  have hD : va_D A [(aM, .inr (6, [.int (0 : Int32), .int w, .int ht, .int fou, .ref aMf, .int ln, .int wd, .int rd, .int kp, .int car, .int hom, .int gol, .int hld, .double err, .int isw, .int mvs, .int mde, .ref aNm, .ref aBe, .int exa, .long lst, .ref aFa, .ref aCs, .ref aFr, .ref aRo, .ref aNe])), (aMf, .inl (cMf, 576, .inl mf)), (aNm, .inl (cNm, 4608, .inl nm)), (aBe, .inl (cBe, 4608, .inl be)), (aFa, .inl (cFa, 4608, .inl fa)), (aCs, .inl (cCs, 4608, .inl cs)), (aFr, .inl (cFr, 4608, .inl fr)), (aRo, .inl (cRo, 4608, .inl ro)), (aNe, .inl (cNe, 576, .inl ne))] := hD
  refine lv_iload_n hx hb dX5_space_5 rfl (lv_at hl 2 rfl) ?_
  refine lv_iconst (v := 1) hx hb dX5_space_6 (by decide) ?_
  refine lv_icmp_lt (tgt := 18) hx hb dX5_space_7 (by decide) (fun c_1 => ?_) (fun c_1 => ?_)
  · have hJ := j_t c_1 hJ
    refine lv_bipush (v := (-2)) hx hb dX5_space_18 (by decide) ?_
    have ho := Option.some.inj hJ
    exact W.iret (v := (-2 : Int32)) hx hb hr (fun t ht hW => ⟨⟨_, (), rfl, (by rw [← ho]), (by rw [ht, ← ho]; exact hP), (by rw [← ho]; exact hD)⟩, hS.F ht⟩) hS.2.2 dX5_space_20
  · have hJ := j_f c_1 hJ
    refine lv_iload_n hx hb dX5_space_10 rfl (lv_at hl 2 rfl) ?_
    refine lv_aload_n hx hb dX5_space_11 rfl (lv_at hl 0 rfl) ?_
    refine va_get (D := D) (ci := 6) (v := .int w) (C := RX5) (T := TX5) (N := 26) hx hb hts iX5 hown hK hP 0 rfl rfl 1 (by decide) k_2 (fun _ h9 => h9) rfl dX5_space_12 ?_
    refine lv_icmp_le (tgt := 21) hx hb dX5_space_15 (by decide) (fun c_2 => ?_) (fun c_2 => ?_)
    · have hJ := j_t c_2 hJ
      refine lv_iload_n hx hb dX5_space_21 rfl (lv_at hl 1 rfl) ?_
      refine lv_if_ne (tgt := 29) hx hb dX5_space_22 (by decide) (fun c_3 => ?_) (fun c_3 => ?_)
      · have hJ := j_f c_3 hJ
        refine lv_aload_n hx hb dX5_space_29 rfl (lv_at hl 0 rfl) ?_
        refine va_get (D := D) (ci := 6) (v := .int ht) (C := RX5) (T := TX5) (N := 26) hx hb hts iX5 hown hK hP 0 rfl rfl 2 (by decide) k_3 (fun _ h9 => h9) rfl dX5_space_30 ?_
        refine lv_iconst (v := 1) hx hb dX5_space_33 (by decide) ?_
        refine lv_isub hx hb dX5_space_34 ?_
        refine lv_istore_n (lv' := [(3, .int (ht - (1 : Int32))), (0, .ref aM), (1, .int p0), (2, .int p1)]) hx hb dX5_space_35 rfl hl (by decide) rfl (fun ls hl => ?_)
        refine lv_iconst (v := 0) hx hb dX5_space_36 (by decide) ?_
        refine lv_istore (lv' := [(4, .int (0 : Int32)), (3, .int (ht - (1 : Int32))), (0, .ref aM), (1, .int p0), (2, .int p1)]) hx hb dX5_space_37 hl (by decide) rfl (fun ls hl => ?_)
        refine L_39 p1 (ht - (1 : Int32)) (0 : Int32) _ ?_ F H locs (0 : Int32) gol isw ls hJ hP hD hS (lv_sub hl [2, 4, 1, 0] rfl)
        · intro H locs x4_24 xgol_25 xisw_26 ls hJ hP hD hS hl
          refine lv_iconst (v := 0) hx hb dX5_space_133 (by decide) ?_
          have ho := Option.some.inj hJ
          exact W.iret (v := (0 : Int32)) hx hb hr (fun t ht hW => ⟨⟨_, (), rfl, (by rw [← ho]), (by rw [ht, ← ho]; exact hP), (by rw [← ho]; exact hD)⟩, hS.F ht⟩) hS.2.2 dX5_space_134
      · have hJ := j_t c_3 hJ
        refine lv_iconst (v := 0) hx hb dX5_space_25 (by decide) ?_
        refine lv_goto (tgt := 35) hx hb dX5_space_26 (by decide) ?_
        refine lv_istore_n (lv' := [(3, .int (0 : Int32)), (0, .ref aM), (1, .int p0), (2, .int p1)]) hx hb dX5_space_35 rfl hl (by decide) rfl (fun ls hl => ?_)
        refine lv_iconst (v := 0) hx hb dX5_space_36 (by decide) ?_
        refine lv_istore (lv' := [(4, .int (0 : Int32)), (3, .int (0 : Int32)), (0, .ref aM), (1, .int p0), (2, .int p1)]) hx hb dX5_space_37 hl (by decide) rfl (fun ls hl => ?_)
        refine L_39 p1 (0 : Int32) (0 : Int32) _ ?_ F H locs (0 : Int32) gol isw ls hJ hP hD hS (lv_sub hl [2, 4, 1, 0] rfl)
        · intro H locs x4_27 xgol_28 xisw_29 ls hJ hP hD hS hl
          refine lv_iconst (v := 0) hx hb dX5_space_133 (by decide) ?_
          have ho := Option.some.inj hJ
          exact W.iret (v := (0 : Int32)) hx hb hr (fun t ht hW => ⟨⟨_, (), rfl, (by rw [← ho]), (by rw [ht, ← ho]; exact hP), (by rw [← ho]; exact hD)⟩, hS.F ht⟩) hS.2.2 dX5_space_134
    · have hJ := j_f c_2 hJ
      refine lv_bipush (v := (-2)) hx hb dX5_space_18 (by decide) ?_
      have ho := Option.some.inj hJ
      exact W.iret (v := (-2 : Int32)) hx hb hr (fun t ht hW => ⟨⟨_, (), rfl, (by rw [← ho]), (by rw [ht, ← ho]; exact hP), (by rw [← ho]; exact hD)⟩, hS.F ht⟩) hS.2.2 dX5_space_20
set_option maxHeartbeats 4000000 in
set_option maxRecDepth 100000 in
theorem c_X5_out (l : Launch) (D : va_G) (aM aMf aNm aBe aFa aCs aFr aRo aNe : Nat) (cMf cNm cBe cFa cCs cFr cRo cNe : ClassId) (cod : Int32) (w : Int32) (ht : Int32) (fou : Int32) (ln : Int32) (wd : Int32) (rd : Int32) (kp : Int32) (car : Int32) (hom : Int32) (gol : Int32) (hld : Int32) (err : UInt64) (isw : Int32) (mvs : Int32) (mde : Int32) (exa : Int32) (lst : Int64) (mf : Nat → Int32) (nm : Nat → Int32) (be : Nat → Int32) (fa : Nat → Int32) (cs : Nat → Int32) (fr : Nat → Int32) (ro : Nat → Int32) (ne : Nat → Int32) (tX tY sz F : Nat) (o : Int32 × Int32 × Int32 × Int32) (hJ : J_X5_out F hom gol isw = some o) : Met l yX5_out wsX5_out rmX5_out (va_Pc [.ref aM] (pcW D [(aM, .inr (6, [.int cod, .int w, .int ht, .int fou, .ref aMf, .int ln, .int wd, .int rd, .int kp, .int car, .int hom, .int gol, .int hld, .double err, .int isw, .int mvs, .int mde, .ref aNm, .ref aBe, .int exa, .long lst, .ref aFa, .ref aCs, .ref aFr, .ref aRo, .ref aNe])), (aMf, .inl (cMf, 576, .inl mf)), (aNm, .inl (cNm, 4608, .inl nm)), (aBe, .inl (cBe, 4608, .inl be)), (aFa, .inl (cFa, 4608, .inl fa)), (aCs, .inl (cCs, 4608, .inl cs)), (aFr, .inl (cFr, 4608, .inl fr)), (aRo, .inl (cRo, 4608, .inl ro)), (aNe, .inl (cNe, 576, .inl ne))] [(cMf, .boolean), (cNm, .int), (cBe, .int), (cFa, .int), (cCs, .int), (cFr, .boolean), (cRo, .int), (cNe, .int)] sz tX tY)) (qWi D o.1 [(aM, .inr (6, [.int o.2.1, .int w, .int ht, .int fou, .ref aMf, .int ln, .int wd, .int rd, .int kp, .int car, .int hom, .int o.2.2.1, .int hld, .double err, .int o.2.2.2, .int mvs, .int mde, .ref aNm, .ref aBe, .int exa, .long lst, .ref aFa, .ref aCs, .ref aFr, .ref aRo, .ref aNe])), (aMf, .inl (cMf, 576, .inl mf)), (aNm, .inl (cNm, 4608, .inl nm)), (aBe, .inl (cBe, 4608, .inl be)), (aFa, .inl (cFa, 4608, .inl fa)), (aCs, .inl (cCs, 4608, .inl cs)), (aFr, .inl (cFr, 4608, .inl fr)), (aRo, .inl (cRo, 4608, .inl ro)), (aNe, .inl (cNe, 576, .inl ne))] (va_A [(aM, .inr (6, [.int cod, .int w, .int ht, .int fou, .ref aMf, .int ln, .int wd, .int rd, .int kp, .int car, .int hom, .int gol, .int hld, .double err, .int isw, .int mvs, .int mde, .ref aNm, .ref aBe, .int exa, .long lst, .ref aFa, .ref aCs, .ref aFr, .ref aRo, .ref aNe])), (aMf, .inl (cMf, 576, .inl mf)), (aNm, .inl (cNm, 4608, .inl nm)), (aBe, .inl (cBe, 4608, .inl be)), (aFa, .inl (cFa, 4608, .inl fa)), (aCs, .inl (cCs, 4608, .inl cs)), (aFr, .inl (cFr, 4608, .inl fr)), (aRo, .inl (cRo, 4608, .inl ro)), (aNe, .inl (cNe, 576, .inl ne))] sz)) 0 0 (va_A [(aM, .inr (6, [.int cod, .int w, .int ht, .int fou, .ref aMf, .int ln, .int wd, .int rd, .int kp, .int car, .int hom, .int gol, .int hld, .double err, .int isw, .int mvs, .int mde, .ref aNm, .ref aBe, .int exa, .long lst, .ref aFa, .ref aCs, .ref aFr, .ref aRo, .ref aNe])), (aMf, .inl (cMf, 576, .inl mf)), (aNm, .inl (cNm, 4608, .inl nm)), (aBe, .inl (cBe, 4608, .inl be)), (aFa, .inl (cFa, 4608, .inl fa)), (aCs, .inl (cCs, 4608, .inl cs)), (aFr, .inl (cFr, 4608, .inl fr)), (aRo, .inl (cRo, 4608, .inl ro)), (aNe, .inl (cNe, 576, .inl ne))] sz) := by
  refine Met.ofW (cc := cX5_out) (maxL := 1) (ret := (some .int)) (by decide) rfl ?_
  intro p e s m args below meth c s₁ B hml hv
  obtain ⟨rfl, hsz, hP, hK, hD0, hST⟩ := hv
  have hx := B.exec
  have hb := B.bytes
  have hr := B.returns
  have hts := atoms_spec (ws := wsX5_out) B.pre
  have hown : s.vm.findClass RX5 = some m.cls := findClass_of_methodNamed B.named
  have hlocks := B.notSynchronized
  subst hsz
  have hD := hD0.self (sz := s.heap.size)
  generalize hAe : va_A [(aM, .inr (6, [.int cod, .int w, .int ht, .int fou, .ref aMf, .int ln, .int wd, .int rd, .int kp, .int car, .int hom, .int gol, .int hld, .double err, .int isw, .int mvs, .int mde, .ref aNm, .ref aBe, .int exa, .long lst, .ref aFa, .ref aCs, .ref aFr, .ref aRo, .ref aNe])), (aMf, .inl (cMf, 576, .inl mf)), (aNm, .inl (cNm, 4608, .inl nm)), (aBe, .inl (cBe, 4608, .inl be)), (aFa, .inl (cFa, 4608, .inl fa)), (aCs, .inl (cCs, 4608, .inl cs)), (aFr, .inl (cFr, 4608, .inl fr)), (aRo, .inl (cRo, 4608, .inl ro)), (aNe, .inl (cNe, 576, .inl ne))] s.heap.size = A at hD hST ⊢
  have hA : ∀ q : Nat, s.heap.size ≤ q → A q := fun q h => by rw [← hAe]; exact Or.inr h
  have hS : va_S A s.heap s.heap [] := va_S.rf
  have hl := lv_entry ([.ref aM]) (n := 1) (Nat.le_of_ble_eq_true rfl)
  rw [lg_entry_eq]
  generalize (lg_sl ([.ref aM]) ++ List.replicate (1 - (lg_sl ([.ref aM])).length) Slot.unset).toArray = ls at hl ⊢
  have hl : lv_has ls 1 [(0, .ref aM)] := hl
  have iX5 : ∀ w ∈ wsX50, w ∈ wsX5_out := fun w h => List.mem_cons_of_mem _ (List.mem_append_right _ h)
  have k_1 := hts (.fieldLink RX5 58 "ParkWaysModel" "code" "I") (List.mem_of_getElem? (i := 1) rfl)
  have k_2 := hts (.fieldLink RX5 109 "ParkWaysModel" "goal" "I") (List.mem_of_getElem? (i := 2) rfl)
  have k_3 := hts (.fieldLink RX5 150 "ParkWaysModel" "home" "I") (List.mem_of_getElem? (i := 3) rfl)
  have k_4 := hts (.fieldLink RX5 118 "ParkWaysModel" "isWay" "Z") (List.mem_of_getElem? (i := 4) rfl)
  unfold J_X5_out at hJ
  refine lv_aload_n hx hb dX5_out_0 rfl (lv_at hl 0 rfl) ?_
  refine lv_iconst (v := 0) hx hb dX5_out_1 (by decide) ?_
  refine va_put (D := D) (ci := 6) (v := .int (0 : Int32)) (ty := .int) (C := RX5) (T := TX5) (N := 26) hx hb hts iX5 tyX5 tyX5_ok nmX5 hown hK hP hD hS 0 rfl rfl 0 (by decide) k_1 (fun _ h9 => h9) rfl (by decide +kernel) rfl rfl (Nat.le_of_ble_eq_true rfl) dX5_out_2 (fun H locs hP hD hS => ?_)
  have hP : va_P D vwCl [(aM, .inr (6, [.int (0 : Int32), .int w, .int ht, .int fou, .ref aMf, .int ln, .int wd, .int rd, .int kp, .int car, .int hom, .int gol, .int hld, .double err, .int isw, .int mvs, .int mde, .ref aNm, .ref aBe, .int exa, .long lst, .ref aFa, .ref aCs, .ref aFr, .ref aRo, .ref aNe])), (aMf, .inl (cMf, 576, .inl mf)), (aNm, .inl (cNm, 4608, .inl nm)), (aBe, .inl (cBe, 4608, .inl be)), (aFa, .inl (cFa, 4608, .inl fa)), (aCs, .inl (cCs, 4608, .inl cs)), (aFr, .inl (cFr, 4608, .inl fr)), (aRo, .inl (cRo, 4608, .inl ro)), (aNe, .inl (cNe, 576, .inl ne))] H := hP
  have hD : va_D A [(aM, .inr (6, [.int (0 : Int32), .int w, .int ht, .int fou, .ref aMf, .int ln, .int wd, .int rd, .int kp, .int car, .int hom, .int gol, .int hld, .double err, .int isw, .int mvs, .int mde, .ref aNm, .ref aBe, .int exa, .long lst, .ref aFa, .ref aCs, .ref aFr, .ref aRo, .ref aNe])), (aMf, .inl (cMf, 576, .inl mf)), (aNm, .inl (cNm, 4608, .inl nm)), (aBe, .inl (cBe, 4608, .inl be)), (aFa, .inl (cFa, 4608, .inl fa)), (aCs, .inl (cCs, 4608, .inl cs)), (aFr, .inl (cFr, 4608, .inl fr)), (aRo, .inl (cRo, 4608, .inl ro)), (aNe, .inl (cNe, 576, .inl ne))] := hD
  refine lv_aload_n hx hb dX5_out_5 rfl (lv_at hl 0 rfl) ?_
  refine va_get (D := D) (ci := 6) (v := .int gol) (C := RX5) (T := TX5) (N := 26) hx hb hts iX5 hown hK hP 0 rfl rfl 11 (by decide) k_2 (fun _ h9 => h9) rfl dX5_out_6 ?_
  refine lv_aload_n hx hb dX5_out_9 rfl (lv_at hl 0 rfl) ?_
  refine va_get (D := D) (ci := 6) (v := .int hom) (C := RX5) (T := TX5) (N := 26) hx hb hts iX5 hown hK hP 0 rfl rfl 10 (by decide) k_3 (fun _ h9 => h9) rfl dX5_out_10 ?_
  refine lv_icmp_ne (tgt := 18) hx hb dX5_out_13 (by decide) (fun c_1 => ?_) (fun c_1 => ?_)
  · have hJ := j_f c_1 hJ
    refine lv_aload_n hx hb dX5_out_18 rfl (lv_at hl 0 rfl) ?_
    refine lv_aload_n hx hb dX5_out_19 rfl (lv_at hl 0 rfl) ?_
    refine va_get (D := D) (ci := 6) (v := .int hom) (C := RX5) (T := TX5) (N := 26) hx hb hts iX5 hown hK hP 0 rfl rfl 10 (by decide) k_3 (fun _ h9 => h9) rfl dX5_out_20 ?_
    refine va_put (D := D) (ci := 6) (v := .int hom) (ty := .int) (C := RX5) (T := TX5) (N := 26) hx hb hts iX5 tyX5 tyX5_ok nmX5 hown hK hP hD hS 0 rfl rfl 11 (by decide) k_2 (fun _ h9 => h9) rfl (by decide +kernel) rfl rfl (Nat.le_of_ble_eq_true rfl) dX5_out_23 (fun H locs hP hD hS => ?_)
    have hP : va_P D vwCl [(aM, .inr (6, [.int (0 : Int32), .int w, .int ht, .int fou, .ref aMf, .int ln, .int wd, .int rd, .int kp, .int car, .int hom, .int hom, .int hld, .double err, .int isw, .int mvs, .int mde, .ref aNm, .ref aBe, .int exa, .long lst, .ref aFa, .ref aCs, .ref aFr, .ref aRo, .ref aNe])), (aMf, .inl (cMf, 576, .inl mf)), (aNm, .inl (cNm, 4608, .inl nm)), (aBe, .inl (cBe, 4608, .inl be)), (aFa, .inl (cFa, 4608, .inl fa)), (aCs, .inl (cCs, 4608, .inl cs)), (aFr, .inl (cFr, 4608, .inl fr)), (aRo, .inl (cRo, 4608, .inl ro)), (aNe, .inl (cNe, 576, .inl ne))] H := hP
    have hD : va_D A [(aM, .inr (6, [.int (0 : Int32), .int w, .int ht, .int fou, .ref aMf, .int ln, .int wd, .int rd, .int kp, .int car, .int hom, .int hom, .int hld, .double err, .int isw, .int mvs, .int mde, .ref aNm, .ref aBe, .int exa, .long lst, .ref aFa, .ref aCs, .ref aFr, .ref aRo, .ref aNe])), (aMf, .inl (cMf, 576, .inl mf)), (aNm, .inl (cNm, 4608, .inl nm)), (aBe, .inl (cBe, 4608, .inl be)), (aFa, .inl (cFa, 4608, .inl fa)), (aCs, .inl (cCs, 4608, .inl cs)), (aFr, .inl (cFr, 4608, .inl fr)), (aRo, .inl (cRo, 4608, .inl ro)), (aNe, .inl (cNe, 576, .inl ne))] := hD
    refine lv_aload_n hx hb dX5_out_26 rfl (lv_at hl 0 rfl) ?_
    refine lv_iconst (v := 0) hx hb dX5_out_27 (by decide) ?_
    refine va_put (D := D) (ci := 6) (v := .int (0 : Int32)) (ty := .boolean) (C := RX5) (T := TX5) (N := 26) hx hb hts iX5 tyX5 tyX5_ok nmX5 hown hK hP hD hS 0 rfl rfl 14 (by decide) k_4 (fun _ h9 => h9) rfl (by decide +kernel) rfl rfl (Nat.le_of_ble_eq_true rfl) dX5_out_28 (fun H locs hP hD hS => ?_)
    have hP : va_P D vwCl [(aM, .inr (6, [.int (0 : Int32), .int w, .int ht, .int fou, .ref aMf, .int ln, .int wd, .int rd, .int kp, .int car, .int hom, .int hom, .int hld, .double err, .int (0 : Int32), .int mvs, .int mde, .ref aNm, .ref aBe, .int exa, .long lst, .ref aFa, .ref aCs, .ref aFr, .ref aRo, .ref aNe])), (aMf, .inl (cMf, 576, .inl mf)), (aNm, .inl (cNm, 4608, .inl nm)), (aBe, .inl (cBe, 4608, .inl be)), (aFa, .inl (cFa, 4608, .inl fa)), (aCs, .inl (cCs, 4608, .inl cs)), (aFr, .inl (cFr, 4608, .inl fr)), (aRo, .inl (cRo, 4608, .inl ro)), (aNe, .inl (cNe, 576, .inl ne))] H := hP
    have hD : va_D A [(aM, .inr (6, [.int (0 : Int32), .int w, .int ht, .int fou, .ref aMf, .int ln, .int wd, .int rd, .int kp, .int car, .int hom, .int hom, .int hld, .double err, .int (0 : Int32), .int mvs, .int mde, .ref aNm, .ref aBe, .int exa, .long lst, .ref aFa, .ref aCs, .ref aFr, .ref aRo, .ref aNe])), (aMf, .inl (cMf, 576, .inl mf)), (aNm, .inl (cNm, 4608, .inl nm)), (aBe, .inl (cBe, 4608, .inl be)), (aFa, .inl (cFa, 4608, .inl fa)), (aCs, .inl (cCs, 4608, .inl cs)), (aFr, .inl (cFr, 4608, .inl fr)), (aRo, .inl (cRo, 4608, .inl ro)), (aNe, .inl (cNe, 576, .inl ne))] := hD
    refine lv_iconst (v := 1) hx hb dX5_out_31 (by decide) ?_
    have ho := Option.some.inj hJ
    exact W.iret (v := (1 : Int32)) hx hb hr (fun t ht hW => ⟨⟨_, (), rfl, (by rw [← ho]), (by rw [ht, ← ho]; exact hP), (by rw [← ho]; exact hD)⟩, hS.F ht⟩) hS.2.2 dX5_out_32
  · have hJ := j_t c_1 hJ
    refine lv_iconst (v := 0) hx hb dX5_out_16 (by decide) ?_
    have ho := Option.some.inj hJ
    exact W.iret (v := (0 : Int32)) hx hb hr (fun t ht hW => ⟨⟨_, (), rfl, (by rw [← ho]), (by rw [ht, ← ho]; exact hP), (by rw [← ho]; exact hD)⟩, hS.F ht⟩) hS.2.2 dX5_out_17
set_option maxHeartbeats 4000000 in
set_option maxRecDepth 100000 in
theorem c_X5_way (l : Launch) (D : va_G) (aM aMf aNm aBe aFa aCs aFr aRo aNe : Nat) (cMf cNm cBe cFa cCs cFr cRo cNe : ClassId) (cod : Int32) (w : Int32) (ht : Int32) (fou : Int32) (ln : Int32) (wd : Int32) (rd : Int32) (kp : Int32) (car : Int32) (hom : Int32) (gol : Int32) (hld : Int32) (err : UInt64) (isw : Int32) (mvs : Int32) (mde : Int32) (exa : Int32) (lst : Int64) (mf : Nat → Int32) (nm : Nat → Int32) (be : Nat → Int32) (fa : Nat → Int32) (cs : Nat → Int32) (fr : Nat → Int32) (ro : Nat → Int32) (ne : Nat → Int32) (p0 : Int64) (tX tY sz F : Nat) (o : Int32 × Int32 × Int32 × Int32 × Int32 × Int32 × Int64 × (Nat → Int32) × (Nat → Int32) × (Nat → Int32) × (Nat → Int32) × (Nat → Int32) × (Nat → Int32) × (Nat → Int32)) (hJ : J_X5_way F w ht fou ln wd rd kp car gol isw mvs mde exa lst mf nm be fa cs fr ro ne p0 = some o) : Met l yX5_way wsX5_way rmX5_way (va_Pc [.ref aM, .long p0] (pcW D [(aM, .inr (6, [.int cod, .int w, .int ht, .int fou, .ref aMf, .int ln, .int wd, .int rd, .int kp, .int car, .int hom, .int gol, .int hld, .double err, .int isw, .int mvs, .int mde, .ref aNm, .ref aBe, .int exa, .long lst, .ref aFa, .ref aCs, .ref aFr, .ref aRo, .ref aNe])), (aMf, .inl (cMf, 576, .inl mf)), (aNm, .inl (cNm, 4608, .inl nm)), (aBe, .inl (cBe, 4608, .inl be)), (aFa, .inl (cFa, 4608, .inl fa)), (aCs, .inl (cCs, 4608, .inl cs)), (aFr, .inl (cFr, 4608, .inl fr)), (aRo, .inl (cRo, 4608, .inl ro)), (aNe, .inl (cNe, 576, .inl ne))] [(cMf, .boolean), (cNm, .int), (cBe, .int), (cFa, .int), (cCs, .int), (cFr, .boolean), (cRo, .int), (cNe, .int)] sz tX tY)) (qWi D o.1 [(aM, .inr (6, [.int o.2.1, .int w, .int ht, .int fou, .ref aMf, .int ln, .int wd, .int rd, .int kp, .int car, .int hom, .int gol, .int hld, .double err, .int o.2.2.1, .int o.2.2.2.1, .int o.2.2.2.2.1, .ref aNm, .ref aBe, .int o.2.2.2.2.2.1, .long o.2.2.2.2.2.2.1, .ref aFa, .ref aCs, .ref aFr, .ref aRo, .ref aNe])), (aMf, .inl (cMf, 576, .inl mf)), (aNm, .inl (cNm, 4608, .inl o.2.2.2.2.2.2.2.1)), (aBe, .inl (cBe, 4608, .inl o.2.2.2.2.2.2.2.2.1)), (aFa, .inl (cFa, 4608, .inl o.2.2.2.2.2.2.2.2.2.1)), (aCs, .inl (cCs, 4608, .inl o.2.2.2.2.2.2.2.2.2.2.1)), (aFr, .inl (cFr, 4608, .inl o.2.2.2.2.2.2.2.2.2.2.2.1)), (aRo, .inl (cRo, 4608, .inl o.2.2.2.2.2.2.2.2.2.2.2.2.1)), (aNe, .inl (cNe, 576, .inl o.2.2.2.2.2.2.2.2.2.2.2.2.2))] (va_A [(aM, .inr (6, [.int cod, .int w, .int ht, .int fou, .ref aMf, .int ln, .int wd, .int rd, .int kp, .int car, .int hom, .int gol, .int hld, .double err, .int isw, .int mvs, .int mde, .ref aNm, .ref aBe, .int exa, .long lst, .ref aFa, .ref aCs, .ref aFr, .ref aRo, .ref aNe])), (aMf, .inl (cMf, 576, .inl mf)), (aNm, .inl (cNm, 4608, .inl nm)), (aBe, .inl (cBe, 4608, .inl be)), (aFa, .inl (cFa, 4608, .inl fa)), (aCs, .inl (cCs, 4608, .inl cs)), (aFr, .inl (cFr, 4608, .inl fr)), (aRo, .inl (cRo, 4608, .inl ro)), (aNe, .inl (cNe, 576, .inl ne))] sz)) 0 0 (va_A [(aM, .inr (6, [.int cod, .int w, .int ht, .int fou, .ref aMf, .int ln, .int wd, .int rd, .int kp, .int car, .int hom, .int gol, .int hld, .double err, .int isw, .int mvs, .int mde, .ref aNm, .ref aBe, .int exa, .long lst, .ref aFa, .ref aCs, .ref aFr, .ref aRo, .ref aNe])), (aMf, .inl (cMf, 576, .inl mf)), (aNm, .inl (cNm, 4608, .inl nm)), (aBe, .inl (cBe, 4608, .inl be)), (aFa, .inl (cFa, 4608, .inl fa)), (aCs, .inl (cCs, 4608, .inl cs)), (aFr, .inl (cFr, 4608, .inl fr)), (aRo, .inl (cRo, 4608, .inl ro)), (aNe, .inl (cNe, 576, .inl ne))] sz) := by
  refine Met.ofW (cc := cX5_way) (maxL := 4) (ret := (some .int)) (by decide) rfl ?_
  intro p e s m args below meth c s₁ B hml hv
  obtain ⟨rfl, hsz, hP, hK, hD0, hST⟩ := hv
  have hx := B.exec
  have hb := B.bytes
  have hr := B.returns
  have hts := atoms_spec (ws := wsX5_way) B.pre
  have hown : s.vm.findClass RX5 = some m.cls := findClass_of_methodNamed B.named
  have hlocks := B.notSynchronized
  subst hsz
  have hD := hD0.self (sz := s.heap.size)
  generalize hAe : va_A [(aM, .inr (6, [.int cod, .int w, .int ht, .int fou, .ref aMf, .int ln, .int wd, .int rd, .int kp, .int car, .int hom, .int gol, .int hld, .double err, .int isw, .int mvs, .int mde, .ref aNm, .ref aBe, .int exa, .long lst, .ref aFa, .ref aCs, .ref aFr, .ref aRo, .ref aNe])), (aMf, .inl (cMf, 576, .inl mf)), (aNm, .inl (cNm, 4608, .inl nm)), (aBe, .inl (cBe, 4608, .inl be)), (aFa, .inl (cFa, 4608, .inl fa)), (aCs, .inl (cCs, 4608, .inl cs)), (aFr, .inl (cFr, 4608, .inl fr)), (aRo, .inl (cRo, 4608, .inl ro)), (aNe, .inl (cNe, 576, .inl ne))] s.heap.size = A at hD hST ⊢
  have hA : ∀ q : Nat, s.heap.size ≤ q → A q := fun q h => by rw [← hAe]; exact Or.inr h
  have hS : va_S A s.heap s.heap [] := va_S.rf
  have hl := lv_entry ([.ref aM, .long p0]) (n := 4) (Nat.le_of_ble_eq_true rfl)
  rw [lg_entry_eq]
  generalize (lg_sl ([.ref aM, .long p0]) ++ List.replicate (4 - (lg_sl ([.ref aM, .long p0])).length) Slot.unset).toArray = ls at hl ⊢
  have hl : lv_has ls 4 [(0, .ref aM), (1, .long p0)] := hl
  have iX5 : ∀ w ∈ wsX50, w ∈ wsX5_way := fun w h => List.mem_cons_of_mem _ (List.mem_append_right _ h)
  have k_1 := hts (.fieldLink RX5 58 "ParkWaysModel" "code" "I") (List.mem_of_getElem? (i := 1) rfl)
  have k_2 := hts (.fieldLink RX5 137 "ParkWaysModel" "moves" "I") (List.mem_of_getElem? (i := 2) rfl)
  unfold J_X5_way at hJ
  refine lv_aload_n hx hb dX5_way_0 rfl (lv_at hl 0 rfl) ?_
  refine lv_iconst (v := 0) hx hb dX5_way_1 (by decide) ?_
  refine va_put (D := D) (ci := 6) (v := .int (0 : Int32)) (ty := .int) (C := RX5) (T := TX5) (N := 26) hx hb hts iX5 tyX5 tyX5_ok nmX5 hown hK hP hD hS 0 rfl rfl 0 (by decide) k_1 (fun _ h9 => h9) rfl (by decide +kernel) rfl rfl (Nat.le_of_ble_eq_true rfl) dX5_way_2 (fun H locs hP hD hS => ?_)
  have hP : va_P D vwCl [(aM, .inr (6, [.int (0 : Int32), .int w, .int ht, .int fou, .ref aMf, .int ln, .int wd, .int rd, .int kp, .int car, .int hom, .int gol, .int hld, .double err, .int isw, .int mvs, .int mde, .ref aNm, .ref aBe, .int exa, .long lst, .ref aFa, .ref aCs, .ref aFr, .ref aRo, .ref aNe])), (aMf, .inl (cMf, 576, .inl mf)), (aNm, .inl (cNm, 4608, .inl nm)), (aBe, .inl (cBe, 4608, .inl be)), (aFa, .inl (cFa, 4608, .inl fa)), (aCs, .inl (cCs, 4608, .inl cs)), (aFr, .inl (cFr, 4608, .inl fr)), (aRo, .inl (cRo, 4608, .inl ro)), (aNe, .inl (cNe, 576, .inl ne))] H := hP
  have hD : va_D A [(aM, .inr (6, [.int (0 : Int32), .int w, .int ht, .int fou, .ref aMf, .int ln, .int wd, .int rd, .int kp, .int car, .int hom, .int gol, .int hld, .double err, .int isw, .int mvs, .int mde, .ref aNm, .ref aBe, .int exa, .long lst, .ref aFa, .ref aCs, .ref aFr, .ref aRo, .ref aNe])), (aMf, .inl (cMf, 576, .inl mf)), (aNm, .inl (cNm, 4608, .inl nm)), (aBe, .inl (cBe, 4608, .inl be)), (aFa, .inl (cFa, 4608, .inl fa)), (aCs, .inl (cCs, 4608, .inl cs)), (aFr, .inl (cFr, 4608, .inl fr)), (aRo, .inl (cRo, 4608, .inl ro)), (aNe, .inl (cNe, 576, .inl ne))] := hD
  refine lv_lload_n hx hb dX5_way_5 rfl (lv_at hl 1 rfl) ?_
  refine lv_lconst (v := 0) hx hb dX5_way_6 (by decide) ?_
  refine W.lcmp hx hb dX5_way_7 ?_
  refine lv_if_ge (tgt := 14) hx hb dX5_way_8 (by decide) (fun c_1 => ?_) (fun c_1 => ?_)
  · have hJ := j_t c_1 hJ
    refine lv_aload_n hx hb dX5_way_14 rfl (lv_at hl 0 rfl) ?_
    refine lv_lload_n hx hb dX5_way_15 rfl (lv_at hl 1 rfl) ?_
    obtain ⟨v_2, hv_2, hJ⟩ := j_b hJ
    refine wr_i (wr := []) (wn := [(aM, .inr (6, [.int (0 : Int32), .int w, .int ht, .int fou, .ref aMf, .int ln, .int wd, .int rd, .int kp, .int car, .int hom, .int gol, .int hld, .double err, .int v_2.2.1, .int v_2.2.2.1, .int v_2.2.2.2.1, .ref aNm, .ref aBe, .int v_2.2.2.2.2.1, .long v_2.2.2.2.2.2.1, .ref aFa, .ref aCs, .ref aFr, .ref aRo, .ref aNe])), (aMf, .inl (cMf, 576, .inl mf)), (aNm, .inl (cNm, 4608, .inl v_2.2.2.2.2.2.2.1)), (aBe, .inl (cBe, 4608, .inl v_2.2.2.2.2.2.2.2.1)), (aFa, .inl (cFa, 4608, .inl v_2.2.2.2.2.2.2.2.2.1)), (aCs, .inl (cCs, 4608, .inl v_2.2.2.2.2.2.2.2.2.2.1)), (aFr, .inl (cFr, 4608, .inl v_2.2.2.2.2.2.2.2.2.2.2.1)), (aRo, .inl (cRo, 4608, .inl v_2.2.2.2.2.2.2.2.2.2.2.2.1)), (aNe, .inl (cNe, 576, .inl v_2.2.2.2.2.2.2.2.2.2.2.2.2))]) (va_runV (As := [.long p0]) (rest := []) ⟨hx, hb, hml, hown, hts⟩ (c_X5_search l D aM aMf aNm aBe aFa aCs aFr aRo aNe cMf cNm cBe cFa cCs cFr cRo cNe (0 : Int32) w ht fou ln wd rd kp car hom gol hld err isw mvs mde exa lst mf nm be fa cs fr ro ne p0 tX tY H.size F v_2 hv_2) (cwV 1 hts gX5_way_X5_search rfl rfl rfl (by decide +kernel) ⟨Nat.le_of_ble_eq_true rfl, Nat.le_of_ble_eq_true rfl⟩) (preWV [.long p0] hP hD hK hS hA hST [0, 1, 2, 3, 4, 5, 6, 7, 8] rfl rfl rfl [0, 1, 2, 3, 4, 5, 6, 7] rfl (ci := 6) (q0 := 0) rfl rfl) rfl rfl hl.1 rfl (lv_room (Nat.le_of_ble_eq_true rfl)) dX5_way_16 ⟨Nat.zero_le _, Nat.zero_le _⟩) hP hD hS hA [0, 1, 2, 3, 4, 5, 6, 7, 8] [] rfl rfl rfl (by decide) [0, 1, 2, 3, 4, 5, 6, 7, 8] rfl rfl rfl (fun H locs hP hD hS => ?_)
    refine lv_istore_n (lv' := [(3, .int v_2.1), (0, .ref aM), (1, .long p0)]) hx hb dX5_way_19 rfl hl (by decide) rfl (fun ls hl => ?_)
    refine lv_iload_n hx hb dX5_way_20 rfl (lv_at hl 0 rfl) ?_
    refine lv_iconst (v := 1) hx hb dX5_way_21 (by decide) ?_
    refine lv_icmp_ge (tgt := 29) hx hb dX5_way_22 (by decide) (fun c_3 => ?_) (fun c_3 => ?_)
    · have hJ := j_t c_3 hJ
      refine lv_aload_n hx hb dX5_way_29 rfl (lv_at hl 1 rfl) ?_
      refine va_get (D := D) (ci := 6) (v := .int v_2.2.2.1) (C := RX5) (T := TX5) (N := 26) hx hb hts iX5 hown hK hP 0 rfl rfl 15 (by decide) k_2 (fun _ h9 => h9) rfl dX5_way_30 ?_
      have ho := Option.some.inj hJ
      exact W.iret (v := v_2.2.2.1) hx hb hr (fun t ht hW => ⟨⟨_, (), rfl, (by rw [← ho]), (by rw [ht, ← ho]; exact hP), (by rw [← ho]; exact hD)⟩, hS.F ht⟩) hS.2.2 dX5_way_33
    · have hJ := j_f c_3 hJ
      refine lv_iload_n hx hb dX5_way_25 rfl (lv_at hl 0 rfl) ?_
      refine lv_goto (tgt := 33) hx hb dX5_way_26 (by decide) ?_
      have ho := Option.some.inj hJ
      exact W.iret (v := v_2.1) hx hb hr (fun t ht hW => ⟨⟨_, (), rfl, (by rw [← ho]), (by rw [ht, ← ho]; exact hP), (by rw [← ho]; exact hD)⟩, hS.F ht⟩) hS.2.2 dX5_way_33
  · have hJ := j_f c_1 hJ
    refine lv_bipush (v := (-2)) hx hb dX5_way_11 (by decide) ?_
    have ho := Option.some.inj hJ
    exact W.iret (v := (-2 : Int32)) hx hb hr (fun t ht hW => ⟨⟨_, (), rfl, (by rw [← ho]), (by rw [ht, ← ho]; exact hP), (by rw [← ho]; exact hD)⟩, hS.F ht⟩) hS.2.2 dX5_way_13
set_option maxHeartbeats 4000000 in
set_option maxRecDepth 100000 in
theorem c_X5_move (l : Launch) (D : va_G) (aM aMf aNm aBe aFa aCs aFr aRo aNe : Nat) (cMf cNm cBe cFa cCs cFr cRo cNe : ClassId) (cod : Int32) (w : Int32) (ht : Int32) (fou : Int32) (ln : Int32) (wd : Int32) (rd : Int32) (kp : Int32) (car : Int32) (hom : Int32) (gol : Int32) (hld : Int32) (err : UInt64) (isw : Int32) (mvs : Int32) (mde : Int32) (exa : Int32) (lst : Int64) (mf : Nat → Int32) (nm : Nat → Int32) (be : Nat → Int32) (fa : Nat → Int32) (cs : Nat → Int32) (fr : Nat → Int32) (ro : Nat → Int32) (ne : Nat → Int32) (p0 : Int32) (p1 : Int32) (tX tY sz F : Nat) (o : Int32 × Int32) (hJ : J_X5_move F isw mvs nm be p0 p1 = some o) : Met l yX5_move wsX5_move rmX5_move (va_Pc [.ref aM, .int p0, .int p1] (pcW D [(aM, .inr (6, [.int cod, .int w, .int ht, .int fou, .ref aMf, .int ln, .int wd, .int rd, .int kp, .int car, .int hom, .int gol, .int hld, .double err, .int isw, .int mvs, .int mde, .ref aNm, .ref aBe, .int exa, .long lst, .ref aFa, .ref aCs, .ref aFr, .ref aRo, .ref aNe])), (aMf, .inl (cMf, 576, .inl mf)), (aNm, .inl (cNm, 4608, .inl nm)), (aBe, .inl (cBe, 4608, .inl be)), (aFa, .inl (cFa, 4608, .inl fa)), (aCs, .inl (cCs, 4608, .inl cs)), (aFr, .inl (cFr, 4608, .inl fr)), (aRo, .inl (cRo, 4608, .inl ro)), (aNe, .inl (cNe, 576, .inl ne))] [(cMf, .boolean), (cNm, .int), (cBe, .int), (cFa, .int), (cCs, .int), (cFr, .boolean), (cRo, .int), (cNe, .int)] sz tX tY)) (qWi D o.1 [(aM, .inr (6, [.int o.2, .int w, .int ht, .int fou, .ref aMf, .int ln, .int wd, .int rd, .int kp, .int car, .int hom, .int gol, .int hld, .double err, .int isw, .int mvs, .int mde, .ref aNm, .ref aBe, .int exa, .long lst, .ref aFa, .ref aCs, .ref aFr, .ref aRo, .ref aNe])), (aMf, .inl (cMf, 576, .inl mf)), (aNm, .inl (cNm, 4608, .inl nm)), (aBe, .inl (cBe, 4608, .inl be)), (aFa, .inl (cFa, 4608, .inl fa)), (aCs, .inl (cCs, 4608, .inl cs)), (aFr, .inl (cFr, 4608, .inl fr)), (aRo, .inl (cRo, 4608, .inl ro)), (aNe, .inl (cNe, 576, .inl ne))] (va_A [(aM, .inr (6, [.int cod, .int w, .int ht, .int fou, .ref aMf, .int ln, .int wd, .int rd, .int kp, .int car, .int hom, .int gol, .int hld, .double err, .int isw, .int mvs, .int mde, .ref aNm, .ref aBe, .int exa, .long lst, .ref aFa, .ref aCs, .ref aFr, .ref aRo, .ref aNe])), (aMf, .inl (cMf, 576, .inl mf)), (aNm, .inl (cNm, 4608, .inl nm)), (aBe, .inl (cBe, 4608, .inl be)), (aFa, .inl (cFa, 4608, .inl fa)), (aCs, .inl (cCs, 4608, .inl cs)), (aFr, .inl (cFr, 4608, .inl fr)), (aRo, .inl (cRo, 4608, .inl ro)), (aNe, .inl (cNe, 576, .inl ne))] sz)) 0 0 (va_A [(aM, .inr (6, [.int cod, .int w, .int ht, .int fou, .ref aMf, .int ln, .int wd, .int rd, .int kp, .int car, .int hom, .int gol, .int hld, .double err, .int isw, .int mvs, .int mde, .ref aNm, .ref aBe, .int exa, .long lst, .ref aFa, .ref aCs, .ref aFr, .ref aRo, .ref aNe])), (aMf, .inl (cMf, 576, .inl mf)), (aNm, .inl (cNm, 4608, .inl nm)), (aBe, .inl (cBe, 4608, .inl be)), (aFa, .inl (cFa, 4608, .inl fa)), (aCs, .inl (cCs, 4608, .inl cs)), (aFr, .inl (cFr, 4608, .inl fr)), (aRo, .inl (cRo, 4608, .inl ro)), (aNe, .inl (cNe, 576, .inl ne))] sz) := by
  refine Met.ofW (cc := cX5_move) (maxL := 4) (ret := (some .int)) (by decide) rfl ?_
  intro p e s m args below meth c s₁ B hml hv
  obtain ⟨rfl, hsz, hP, hK, hD0, hST⟩ := hv
  have hx := B.exec
  have hb := B.bytes
  have hr := B.returns
  have hts := atoms_spec (ws := wsX5_move) B.pre
  have hown : s.vm.findClass RX5 = some m.cls := findClass_of_methodNamed B.named
  have hlocks := B.notSynchronized
  subst hsz
  have hD := hD0.self (sz := s.heap.size)
  generalize hAe : va_A [(aM, .inr (6, [.int cod, .int w, .int ht, .int fou, .ref aMf, .int ln, .int wd, .int rd, .int kp, .int car, .int hom, .int gol, .int hld, .double err, .int isw, .int mvs, .int mde, .ref aNm, .ref aBe, .int exa, .long lst, .ref aFa, .ref aCs, .ref aFr, .ref aRo, .ref aNe])), (aMf, .inl (cMf, 576, .inl mf)), (aNm, .inl (cNm, 4608, .inl nm)), (aBe, .inl (cBe, 4608, .inl be)), (aFa, .inl (cFa, 4608, .inl fa)), (aCs, .inl (cCs, 4608, .inl cs)), (aFr, .inl (cFr, 4608, .inl fr)), (aRo, .inl (cRo, 4608, .inl ro)), (aNe, .inl (cNe, 576, .inl ne))] s.heap.size = A at hD hST ⊢
  have hA : ∀ q : Nat, s.heap.size ≤ q → A q := fun q h => by rw [← hAe]; exact Or.inr h
  have hS : va_S A s.heap s.heap [] := va_S.rf
  have hl := lv_entry ([.ref aM, .int p0, .int p1]) (n := 4) (Nat.le_of_ble_eq_true rfl)
  rw [lg_entry_eq]
  generalize (lg_sl ([.ref aM, .int p0, .int p1]) ++ List.replicate (4 - (lg_sl ([.ref aM, .int p0, .int p1])).length) Slot.unset).toArray = ls at hl ⊢
  have hl : lv_has ls 4 [(0, .ref aM), (1, .int p0), (2, .int p1)] := hl
  have iX5 : ∀ w ∈ wsX50, w ∈ wsX5_move := fun w h => List.mem_cons_of_mem _ (List.mem_append_right _ h)
  have k_1 := hts (.fieldLink RX5 58 "ParkWaysModel" "code" "I") (List.mem_of_getElem? (i := 1) rfl)
  have k_2 := hts (.fieldLink RX5 118 "ParkWaysModel" "isWay" "Z") (List.mem_of_getElem? (i := 2) rfl)
  have k_3 := hts (.fieldLink RX5 137 "ParkWaysModel" "moves" "I") (List.mem_of_getElem? (i := 3) rfl)
  have k_4 := hts (.fieldLink RX5 31 "ParkWaysModel" "behind" "[I") (List.mem_of_getElem? (i := 4) rfl)
  have k_5 := hts (.fieldLink RX5 27 "ParkWaysModel" "number" "[I") (List.mem_of_getElem? (i := 5) rfl)
  unfold J_X5_move at hJ
  refine lv_aload_n hx hb dX5_move_0 rfl (lv_at hl 0 rfl) ?_
  refine lv_iconst (v := 0) hx hb dX5_move_1 (by decide) ?_
  refine va_put (D := D) (ci := 6) (v := .int (0 : Int32)) (ty := .int) (C := RX5) (T := TX5) (N := 26) hx hb hts iX5 tyX5 tyX5_ok nmX5 hown hK hP hD hS 0 rfl rfl 0 (by decide) k_1 (fun _ h9 => h9) rfl (by decide +kernel) rfl rfl (Nat.le_of_ble_eq_true rfl) dX5_move_2 (fun H locs hP hD hS => ?_)
  have hP : va_P D vwCl [(aM, .inr (6, [.int (0 : Int32), .int w, .int ht, .int fou, .ref aMf, .int ln, .int wd, .int rd, .int kp, .int car, .int hom, .int gol, .int hld, .double err, .int isw, .int mvs, .int mde, .ref aNm, .ref aBe, .int exa, .long lst, .ref aFa, .ref aCs, .ref aFr, .ref aRo, .ref aNe])), (aMf, .inl (cMf, 576, .inl mf)), (aNm, .inl (cNm, 4608, .inl nm)), (aBe, .inl (cBe, 4608, .inl be)), (aFa, .inl (cFa, 4608, .inl fa)), (aCs, .inl (cCs, 4608, .inl cs)), (aFr, .inl (cFr, 4608, .inl fr)), (aRo, .inl (cRo, 4608, .inl ro)), (aNe, .inl (cNe, 576, .inl ne))] H := hP
  have hD : va_D A [(aM, .inr (6, [.int (0 : Int32), .int w, .int ht, .int fou, .ref aMf, .int ln, .int wd, .int rd, .int kp, .int car, .int hom, .int gol, .int hld, .double err, .int isw, .int mvs, .int mde, .ref aNm, .ref aBe, .int exa, .long lst, .ref aFa, .ref aCs, .ref aFr, .ref aRo, .ref aNe])), (aMf, .inl (cMf, 576, .inl mf)), (aNm, .inl (cNm, 4608, .inl nm)), (aBe, .inl (cBe, 4608, .inl be)), (aFa, .inl (cFa, 4608, .inl fa)), (aCs, .inl (cCs, 4608, .inl cs)), (aFr, .inl (cFr, 4608, .inl fr)), (aRo, .inl (cRo, 4608, .inl ro)), (aNe, .inl (cNe, 576, .inl ne))] := hD
  refine lv_aload_n hx hb dX5_move_5 rfl (lv_at hl 0 rfl) ?_
  refine va_get (D := D) (ci := 6) (v := .int isw) (C := RX5) (T := TX5) (N := 26) hx hb hts iX5 hown hK hP 0 rfl rfl 14 (by decide) k_2 (fun _ h9 => h9) rfl dX5_move_6 ?_
  refine lv_if_eq (tgt := 24) hx hb dX5_move_9 (by decide) (fun c_1 => ?_) (fun c_1 => ?_)
  · have hJ := j_t c_1 hJ
    refine lv_iconst (v := (-1)) hx hb dX5_move_24 (by decide) ?_
    have ho := Option.some.inj hJ
    exact W.iret (v := (-1 : Int32)) hx hb hr (fun t ht hW => ⟨⟨_, (), rfl, (by rw [← ho]), (by rw [ht, ← ho]; exact hP), (by rw [← ho]; exact hD)⟩, hS.F ht⟩) hS.2.2 dX5_move_25
  · have hJ := j_f c_1 hJ
    refine lv_iload_n hx hb dX5_move_12 rfl (lv_at hl 1 rfl) ?_
    refine lv_if_lt (tgt := 24) hx hb dX5_move_13 (by decide) (fun c_2 => ?_) (fun c_2 => ?_)
    · have hJ := j_t c_2 hJ
      refine lv_iconst (v := (-1)) hx hb dX5_move_24 (by decide) ?_
      have ho := Option.some.inj hJ
      exact W.iret (v := (-1 : Int32)) hx hb hr (fun t ht hW => ⟨⟨_, (), rfl, (by rw [← ho]), (by rw [ht, ← ho]; exact hP), (by rw [← ho]; exact hD)⟩, hS.F ht⟩) hS.2.2 dX5_move_25
    · have hJ := j_f c_2 hJ
      refine lv_iload_n hx hb dX5_move_16 rfl (lv_at hl 1 rfl) ?_
      refine lv_aload_n hx hb dX5_move_17 rfl (lv_at hl 0 rfl) ?_
      refine va_get (D := D) (ci := 6) (v := .int mvs) (C := RX5) (T := TX5) (N := 26) hx hb hts iX5 hown hK hP 0 rfl rfl 15 (by decide) k_3 (fun _ h9 => h9) rfl dX5_move_18 ?_
      refine lv_icmp_lt (tgt := 26) hx hb dX5_move_21 (by decide) (fun c_3 => ?_) (fun c_3 => ?_)
      · have hJ := j_t c_3 hJ
        refine lv_iload_n hx hb dX5_move_26 rfl (lv_at hl 2 rfl) ?_
        refine lv_if_lt (tgt := 35) hx hb dX5_move_27 (by decide) (fun c_4 => ?_) (fun c_4 => ?_)
        · have hJ := j_t c_4 hJ
          refine lv_bipush (v := (-2)) hx hb dX5_move_35 (by decide) ?_
          have ho := Option.some.inj hJ
          exact W.iret (v := (-2 : Int32)) hx hb hr (fun t ht hW => ⟨⟨_, (), rfl, (by rw [← ho]), (by rw [ht, ← ho]; exact hP), (by rw [← ho]; exact hD)⟩, hS.F ht⟩) hS.2.2 dX5_move_37
        · have hJ := j_f c_4 hJ
          refine lv_iload_n hx hb dX5_move_30 rfl (lv_at hl 2 rfl) ?_
          refine lv_iconst (v := 3) hx hb dX5_move_31 (by decide) ?_
          refine lv_icmp_le (tgt := 38) hx hb dX5_move_32 (by decide) (fun c_5 => ?_) (fun c_5 => ?_)
          · have hJ := j_t c_5 hJ
            refine lv_aload_n hx hb dX5_move_38 rfl (lv_at hl 0 rfl) ?_
            refine va_get (D := D) (ci := 6) (v := .ref aBe) (C := RX5) (T := TX5) (N := 26) hx hb hts iX5 hown hK hP 0 rfl rfl 18 (by decide) k_4 (fun _ h9 => h9) rfl dX5_move_39 ?_
            refine lv_iload_n hx hb dX5_move_42 rfl (lv_at hl 1 rfl) ?_
            obtain ⟨h_6, hJ⟩ := g_in hJ
            refine va_iald hx hb hK hP 3 2 rfl rfl h_6 dX5_move_43 ?_
            refine lv_istore_n (lv' := [(3, .int (be p0.toNatClampNeg)), (0, .ref aM), (1, .int p0), (2, .int p1)]) hx hb dX5_move_44 rfl hl (by decide) rfl (fun ls hl => ?_)
            refine lv_iload_n hx hb dX5_move_45 rfl (lv_at hl 3 rfl) ?_
            refine lv_if_ne (tgt := 58) hx hb dX5_move_46 (by decide) (fun c_7 => ?_) (fun c_7 => ?_)
            · have hJ := j_f c_7 hJ
              refine lv_iload_n hx hb dX5_move_58 rfl (lv_at hl 3 rfl) ?_
              refine lv_iconst (v := 1) hx hb dX5_move_59 (by decide) ?_
              refine lv_icmp_ne (tgt := 70) hx hb dX5_move_60 (by decide) (fun c_8 => ?_) (fun c_8 => ?_)
              · have hJ := j_f c_8 hJ
                refine lv_iload_n hx hb dX5_move_70 rfl (lv_at hl 3 rfl) ?_
                refine lv_iconst (v := 2) hx hb dX5_move_71 (by decide) ?_
                refine lv_icmp_ne (tgt := 82) hx hb dX5_move_72 (by decide) (fun c_9 => ?_) (fun c_9 => ?_)
                · have hJ := j_f c_9 hJ
                  refine lv_iload_n hx hb dX5_move_82 rfl (lv_at hl 0 rfl) ?_
                  refine lv_bipush (v := 8) hx hb dX5_move_83 (by decide) ?_
                  refine lv_irem hx hb dX5_move_85 (by decide) ?_
                  have ho := Option.some.inj hJ
                  exact W.iret (v := ((be p0.toNatClampNeg) - (be p0.toNatClampNeg) / (8 : Int32) * (8 : Int32))) hx hb hr (fun t ht hW => ⟨⟨_, (), rfl, (by rw [← ho]), (by rw [ht, ← ho]; exact hP), (by rw [← ho]; exact hD)⟩, hS.F ht⟩) hS.2.2 dX5_move_86
                · have hJ := j_t c_9 hJ
                  refine lv_iload_n hx hb dX5_move_75 rfl (lv_at hl 0 rfl) ?_
                  obtain ⟨v_10, hv_10, hJ⟩ := j_b hJ
                  refine ro_i (va_runS (As := [.int (be p0.toNatClampNeg)]) (rest := []) ⟨hx, hb, hml, hown, hts⟩ (c_X5_yOf l D (be p0.toNatClampNeg) tX tY H.size F v_10 hv_10) (va_cwS 1 hts gX5_move_X5_yOf rfl rfl rfl (by decide +kernel) ⟨Nat.le_of_ble_eq_true rfl, Nat.le_of_ble_eq_true rfl⟩) (preRS [.int (be p0.toNatClampNeg)] hP hK hS hA hST [] rfl [] rfl) rfl rfl hl.1 rfl (lv_room (Nat.le_of_ble_eq_true rfl)) dX5_move_76 ⟨Nat.zero_le _, Nat.zero_le _⟩) hP hS hA (fun H locs hP hS => ?_)
                  refine lv_goto (tgt := 86) hx hb dX5_move_79 (by decide) ?_
                  have ho := Option.some.inj hJ
                  exact W.iret (v := v_10) hx hb hr (fun t ht hW => ⟨⟨_, (), rfl, (by rw [← ho]), (by rw [ht, ← ho]; exact hP), (by rw [← ho]; exact hD)⟩, hS.F ht⟩) hS.2.2 dX5_move_86
              · have hJ := j_t c_8 hJ
                refine lv_iload_n hx hb dX5_move_63 rfl (lv_at hl 0 rfl) ?_
                obtain ⟨v_11, hv_11, hJ⟩ := j_b hJ
                refine ro_i (va_runS (As := [.int (be p0.toNatClampNeg)]) (rest := []) ⟨hx, hb, hml, hown, hts⟩ (c_X5_xOf l D (be p0.toNatClampNeg) tX tY H.size F v_11 hv_11) (va_cwS 1 hts gX5_move_X5_xOf rfl rfl rfl (by decide +kernel) ⟨Nat.le_of_ble_eq_true rfl, Nat.le_of_ble_eq_true rfl⟩) (preRS [.int (be p0.toNatClampNeg)] hP hK hS hA hST [] rfl [] rfl) rfl rfl hl.1 rfl (lv_room (Nat.le_of_ble_eq_true rfl)) dX5_move_64 ⟨Nat.zero_le _, Nat.zero_le _⟩) hP hS hA (fun H locs hP hS => ?_)
                refine lv_goto (tgt := 86) hx hb dX5_move_67 (by decide) ?_
                have ho := Option.some.inj hJ
                exact W.iret (v := v_11) hx hb hr (fun t ht hW => ⟨⟨_, (), rfl, (by rw [← ho]), (by rw [ht, ← ho]; exact hP), (by rw [← ho]; exact hD)⟩, hS.F ht⟩) hS.2.2 dX5_move_86
            · have hJ := j_t c_7 hJ
              refine lv_aload_n hx hb dX5_move_49 rfl (lv_at hl 1 rfl) ?_
              refine va_get (D := D) (ci := 6) (v := .ref aNm) (C := RX5) (T := TX5) (N := 26) hx hb hts iX5 hown hK hP 0 rfl rfl 17 (by decide) k_5 (fun _ h9 => h9) rfl dX5_move_50 ?_
              refine lv_iload_n hx hb dX5_move_53 rfl (lv_at hl 2 rfl) ?_
              obtain ⟨h_12, hJ⟩ := g_in hJ
              refine va_iald hx hb hK hP 2 1 rfl rfl h_12 dX5_move_54 ?_
              refine lv_goto (tgt := 86) hx hb dX5_move_55 (by decide) ?_
              have ho := Option.some.inj hJ
              exact W.iret (v := (nm p0.toNatClampNeg)) hx hb hr (fun t ht hW => ⟨⟨_, (), rfl, (by rw [← ho]), (by rw [ht, ← ho]; exact hP), (by rw [← ho]; exact hD)⟩, hS.F ht⟩) hS.2.2 dX5_move_86
          · have hJ := j_f c_5 hJ
            refine lv_bipush (v := (-2)) hx hb dX5_move_35 (by decide) ?_
            have ho := Option.some.inj hJ
            exact W.iret (v := (-2 : Int32)) hx hb hr (fun t ht hW => ⟨⟨_, (), rfl, (by rw [← ho]), (by rw [ht, ← ho]; exact hP), (by rw [← ho]; exact hD)⟩, hS.F ht⟩) hS.2.2 dX5_move_37
      · have hJ := j_f c_3 hJ
        refine lv_iconst (v := (-1)) hx hb dX5_move_24 (by decide) ?_
        have ho := Option.some.inj hJ
        exact W.iret (v := (-1 : Int32)) hx hb hr (fun t ht hW => ⟨⟨_, (), rfl, (by rw [← ho]), (by rw [ht, ← ho]; exact hP), (by rw [← ho]; exact hD)⟩, hS.F ht⟩) hS.2.2 dX5_move_25
set_option maxHeartbeats 4000000 in
set_option maxRecDepth 100000 in
theorem c_X5_exact (l : Launch) (D : va_G) (aM aMf aNm aBe aFa aCs aFr aRo aNe : Nat) (cMf cNm cBe cFa cCs cFr cRo cNe : ClassId) (cod : Int32) (w : Int32) (ht : Int32) (fou : Int32) (ln : Int32) (wd : Int32) (rd : Int32) (kp : Int32) (car : Int32) (hom : Int32) (gol : Int32) (hld : Int32) (err : UInt64) (isw : Int32) (mvs : Int32) (mde : Int32) (exa : Int32) (lst : Int64) (mf : Nat → Int32) (nm : Nat → Int32) (be : Nat → Int32) (fa : Nat → Int32) (cs : Nat → Int32) (fr : Nat → Int32) (ro : Nat → Int32) (ne : Nat → Int32) (tX tY sz F : Nat) (o : Int32 × Int32) (hJ : J_X5_exact F exa = some o) : Met l yX5_exact wsX5_exact rmX5_exact (va_Pc [.ref aM] (pcW D [(aM, .inr (6, [.int cod, .int w, .int ht, .int fou, .ref aMf, .int ln, .int wd, .int rd, .int kp, .int car, .int hom, .int gol, .int hld, .double err, .int isw, .int mvs, .int mde, .ref aNm, .ref aBe, .int exa, .long lst, .ref aFa, .ref aCs, .ref aFr, .ref aRo, .ref aNe])), (aMf, .inl (cMf, 576, .inl mf)), (aNm, .inl (cNm, 4608, .inl nm)), (aBe, .inl (cBe, 4608, .inl be)), (aFa, .inl (cFa, 4608, .inl fa)), (aCs, .inl (cCs, 4608, .inl cs)), (aFr, .inl (cFr, 4608, .inl fr)), (aRo, .inl (cRo, 4608, .inl ro)), (aNe, .inl (cNe, 576, .inl ne))] [(cMf, .boolean), (cNm, .int), (cBe, .int), (cFa, .int), (cCs, .int), (cFr, .boolean), (cRo, .int), (cNe, .int)] sz tX tY)) (qWi D o.1 [(aM, .inr (6, [.int o.2, .int w, .int ht, .int fou, .ref aMf, .int ln, .int wd, .int rd, .int kp, .int car, .int hom, .int gol, .int hld, .double err, .int isw, .int mvs, .int mde, .ref aNm, .ref aBe, .int exa, .long lst, .ref aFa, .ref aCs, .ref aFr, .ref aRo, .ref aNe])), (aMf, .inl (cMf, 576, .inl mf)), (aNm, .inl (cNm, 4608, .inl nm)), (aBe, .inl (cBe, 4608, .inl be)), (aFa, .inl (cFa, 4608, .inl fa)), (aCs, .inl (cCs, 4608, .inl cs)), (aFr, .inl (cFr, 4608, .inl fr)), (aRo, .inl (cRo, 4608, .inl ro)), (aNe, .inl (cNe, 576, .inl ne))] (va_A [(aM, .inr (6, [.int cod, .int w, .int ht, .int fou, .ref aMf, .int ln, .int wd, .int rd, .int kp, .int car, .int hom, .int gol, .int hld, .double err, .int isw, .int mvs, .int mde, .ref aNm, .ref aBe, .int exa, .long lst, .ref aFa, .ref aCs, .ref aFr, .ref aRo, .ref aNe])), (aMf, .inl (cMf, 576, .inl mf)), (aNm, .inl (cNm, 4608, .inl nm)), (aBe, .inl (cBe, 4608, .inl be)), (aFa, .inl (cFa, 4608, .inl fa)), (aCs, .inl (cCs, 4608, .inl cs)), (aFr, .inl (cFr, 4608, .inl fr)), (aRo, .inl (cRo, 4608, .inl ro)), (aNe, .inl (cNe, 576, .inl ne))] sz)) 0 0 (va_A [(aM, .inr (6, [.int cod, .int w, .int ht, .int fou, .ref aMf, .int ln, .int wd, .int rd, .int kp, .int car, .int hom, .int gol, .int hld, .double err, .int isw, .int mvs, .int mde, .ref aNm, .ref aBe, .int exa, .long lst, .ref aFa, .ref aCs, .ref aFr, .ref aRo, .ref aNe])), (aMf, .inl (cMf, 576, .inl mf)), (aNm, .inl (cNm, 4608, .inl nm)), (aBe, .inl (cBe, 4608, .inl be)), (aFa, .inl (cFa, 4608, .inl fa)), (aCs, .inl (cCs, 4608, .inl cs)), (aFr, .inl (cFr, 4608, .inl fr)), (aRo, .inl (cRo, 4608, .inl ro)), (aNe, .inl (cNe, 576, .inl ne))] sz) := by
  refine Met.ofW (cc := cX5_exact) (maxL := 1) (ret := (some .boolean)) (by decide) rfl ?_
  intro p e s m args below meth c s₁ B hml hv
  obtain ⟨rfl, hsz, hP, hK, hD0, hST⟩ := hv
  have hx := B.exec
  have hb := B.bytes
  have hr := B.returns
  have hts := atoms_spec (ws := wsX5_exact) B.pre
  have hown : s.vm.findClass RX5 = some m.cls := findClass_of_methodNamed B.named
  have hlocks := B.notSynchronized
  subst hsz
  have hD := hD0.self (sz := s.heap.size)
  generalize hAe : va_A [(aM, .inr (6, [.int cod, .int w, .int ht, .int fou, .ref aMf, .int ln, .int wd, .int rd, .int kp, .int car, .int hom, .int gol, .int hld, .double err, .int isw, .int mvs, .int mde, .ref aNm, .ref aBe, .int exa, .long lst, .ref aFa, .ref aCs, .ref aFr, .ref aRo, .ref aNe])), (aMf, .inl (cMf, 576, .inl mf)), (aNm, .inl (cNm, 4608, .inl nm)), (aBe, .inl (cBe, 4608, .inl be)), (aFa, .inl (cFa, 4608, .inl fa)), (aCs, .inl (cCs, 4608, .inl cs)), (aFr, .inl (cFr, 4608, .inl fr)), (aRo, .inl (cRo, 4608, .inl ro)), (aNe, .inl (cNe, 576, .inl ne))] s.heap.size = A at hD hST ⊢
  have hA : ∀ q : Nat, s.heap.size ≤ q → A q := fun q h => by rw [← hAe]; exact Or.inr h
  have hS : va_S A s.heap s.heap [] := va_S.rf
  have hl := lv_entry ([.ref aM]) (n := 1) (Nat.le_of_ble_eq_true rfl)
  rw [lg_entry_eq]
  generalize (lg_sl ([.ref aM]) ++ List.replicate (1 - (lg_sl ([.ref aM])).length) Slot.unset).toArray = ls at hl ⊢
  have hl : lv_has ls 1 [(0, .ref aM)] := hl
  have iX5 : ∀ w ∈ wsX50, w ∈ wsX5_exact := fun w h => List.mem_cons_of_mem _ (List.mem_append_right _ h)
  have k_1 := hts (.fieldLink RX5 58 "ParkWaysModel" "code" "I") (List.mem_of_getElem? (i := 1) rfl)
  have k_2 := hts (.fieldLink RX5 134 "ParkWaysModel" "exact" "Z") (List.mem_of_getElem? (i := 2) rfl)
  unfold J_X5_exact at hJ
  refine lv_aload_n hx hb dX5_exact_0 rfl (lv_at hl 0 rfl) ?_
  refine lv_iconst (v := 0) hx hb dX5_exact_1 (by decide) ?_
  refine va_put (D := D) (ci := 6) (v := .int (0 : Int32)) (ty := .int) (C := RX5) (T := TX5) (N := 26) hx hb hts iX5 tyX5 tyX5_ok nmX5 hown hK hP hD hS 0 rfl rfl 0 (by decide) k_1 (fun _ h9 => h9) rfl (by decide +kernel) rfl rfl (Nat.le_of_ble_eq_true rfl) dX5_exact_2 (fun H locs hP hD hS => ?_)
  have hP : va_P D vwCl [(aM, .inr (6, [.int (0 : Int32), .int w, .int ht, .int fou, .ref aMf, .int ln, .int wd, .int rd, .int kp, .int car, .int hom, .int gol, .int hld, .double err, .int isw, .int mvs, .int mde, .ref aNm, .ref aBe, .int exa, .long lst, .ref aFa, .ref aCs, .ref aFr, .ref aRo, .ref aNe])), (aMf, .inl (cMf, 576, .inl mf)), (aNm, .inl (cNm, 4608, .inl nm)), (aBe, .inl (cBe, 4608, .inl be)), (aFa, .inl (cFa, 4608, .inl fa)), (aCs, .inl (cCs, 4608, .inl cs)), (aFr, .inl (cFr, 4608, .inl fr)), (aRo, .inl (cRo, 4608, .inl ro)), (aNe, .inl (cNe, 576, .inl ne))] H := hP
  have hD : va_D A [(aM, .inr (6, [.int (0 : Int32), .int w, .int ht, .int fou, .ref aMf, .int ln, .int wd, .int rd, .int kp, .int car, .int hom, .int gol, .int hld, .double err, .int isw, .int mvs, .int mde, .ref aNm, .ref aBe, .int exa, .long lst, .ref aFa, .ref aCs, .ref aFr, .ref aRo, .ref aNe])), (aMf, .inl (cMf, 576, .inl mf)), (aNm, .inl (cNm, 4608, .inl nm)), (aBe, .inl (cBe, 4608, .inl be)), (aFa, .inl (cFa, 4608, .inl fa)), (aCs, .inl (cCs, 4608, .inl cs)), (aFr, .inl (cFr, 4608, .inl fr)), (aRo, .inl (cRo, 4608, .inl ro)), (aNe, .inl (cNe, 576, .inl ne))] := hD
  refine lv_aload_n hx hb dX5_exact_5 rfl (lv_at hl 0 rfl) ?_
  refine va_get (D := D) (ci := 6) (v := .int exa) (C := RX5) (T := TX5) (N := 26) hx hb hts iX5 hown hK hP 0 rfl rfl 19 (by decide) k_2 (fun _ h9 => h9) rfl dX5_exact_6 ?_
  obtain ⟨z_1, hJ⟩ := gd_some hJ
  have ho := Option.some.inj hJ
  exact W.zret (v := exa) hx hb hr (isZ_nar z_1) (fun t ht hW => ⟨⟨_, (), rfl, (by rw [← ho]), (by rw [ht, ← ho]; exact hP), (by rw [← ho]; exact hD)⟩, hS.F ht⟩) hS.2.2 dX5_exact_9
set_option maxHeartbeats 4000000 in
set_option maxRecDepth 100000 in
theorem c_X5_follow (l : Launch) (D : va_G) (aM aMf aNm aBe aFa aCs aFr aRo aNe : Nat) (cMf cNm cBe cFa cCs cFr cRo cNe : ClassId) (cod : Int32) (w : Int32) (ht : Int32) (fou : Int32) (ln : Int32) (wd : Int32) (rd : Int32) (kp : Int32) (car : Int32) (hom : Int32) (gol : Int32) (hld : Int32) (err : UInt64) (isw : Int32) (mvs : Int32) (mde : Int32) (exa : Int32) (lst : Int64) (mf : Nat → Int32) (nm : Nat → Int32) (be : Nat → Int32) (fa : Nat → Int32) (cs : Nat → Int32) (fr : Nat → Int32) (ro : Nat → Int32) (ne : Nat → Int32) (p0 : Int32) (p1 : UInt64) (tX tY sz F : Nat) (o : Int32 × Int32 × Int32 × UInt64 × Int32) (hJ : J_X5_follow F car hld err isw mvs mde be p0 p1 = some o) : Met l yX5_follow wsX5_follow rmX5_follow (va_Pc [.ref aM, .int p0, .double p1] (pcW D [(aM, .inr (6, [.int cod, .int w, .int ht, .int fou, .ref aMf, .int ln, .int wd, .int rd, .int kp, .int car, .int hom, .int gol, .int hld, .double err, .int isw, .int mvs, .int mde, .ref aNm, .ref aBe, .int exa, .long lst, .ref aFa, .ref aCs, .ref aFr, .ref aRo, .ref aNe])), (aMf, .inl (cMf, 576, .inl mf)), (aNm, .inl (cNm, 4608, .inl nm)), (aBe, .inl (cBe, 4608, .inl be)), (aFa, .inl (cFa, 4608, .inl fa)), (aCs, .inl (cCs, 4608, .inl cs)), (aFr, .inl (cFr, 4608, .inl fr)), (aRo, .inl (cRo, 4608, .inl ro)), (aNe, .inl (cNe, 576, .inl ne))] [(cMf, .boolean), (cNm, .int), (cBe, .int), (cFa, .int), (cCs, .int), (cFr, .boolean), (cRo, .int), (cNe, .int)] sz tX tY)) (qWi D o.1 [(aM, .inr (6, [.int o.2.1, .int w, .int ht, .int fou, .ref aMf, .int ln, .int wd, .int rd, .int kp, .int o.2.2.1, .int hom, .int gol, .int hld, .double o.2.2.2.1, .int isw, .int mvs, .int o.2.2.2.2, .ref aNm, .ref aBe, .int exa, .long lst, .ref aFa, .ref aCs, .ref aFr, .ref aRo, .ref aNe])), (aMf, .inl (cMf, 576, .inl mf)), (aNm, .inl (cNm, 4608, .inl nm)), (aBe, .inl (cBe, 4608, .inl be)), (aFa, .inl (cFa, 4608, .inl fa)), (aCs, .inl (cCs, 4608, .inl cs)), (aFr, .inl (cFr, 4608, .inl fr)), (aRo, .inl (cRo, 4608, .inl ro)), (aNe, .inl (cNe, 576, .inl ne))] (va_A [(aM, .inr (6, [.int cod, .int w, .int ht, .int fou, .ref aMf, .int ln, .int wd, .int rd, .int kp, .int car, .int hom, .int gol, .int hld, .double err, .int isw, .int mvs, .int mde, .ref aNm, .ref aBe, .int exa, .long lst, .ref aFa, .ref aCs, .ref aFr, .ref aRo, .ref aNe])), (aMf, .inl (cMf, 576, .inl mf)), (aNm, .inl (cNm, 4608, .inl nm)), (aBe, .inl (cBe, 4608, .inl be)), (aFa, .inl (cFa, 4608, .inl fa)), (aCs, .inl (cCs, 4608, .inl cs)), (aFr, .inl (cFr, 4608, .inl fr)), (aRo, .inl (cRo, 4608, .inl ro)), (aNe, .inl (cNe, 576, .inl ne))] sz)) 0 0 (va_A [(aM, .inr (6, [.int cod, .int w, .int ht, .int fou, .ref aMf, .int ln, .int wd, .int rd, .int kp, .int car, .int hom, .int gol, .int hld, .double err, .int isw, .int mvs, .int mde, .ref aNm, .ref aBe, .int exa, .long lst, .ref aFa, .ref aCs, .ref aFr, .ref aRo, .ref aNe])), (aMf, .inl (cMf, 576, .inl mf)), (aNm, .inl (cNm, 4608, .inl nm)), (aBe, .inl (cBe, 4608, .inl be)), (aFa, .inl (cFa, 4608, .inl fa)), (aCs, .inl (cCs, 4608, .inl cs)), (aFr, .inl (cFr, 4608, .inl fr)), (aRo, .inl (cRo, 4608, .inl ro)), (aNe, .inl (cNe, 576, .inl ne))] sz) := by
  refine Met.ofW (cc := cX5_follow) (maxL := 5) (ret := (some .int)) (by decide) rfl ?_
  intro p e s m args below meth c s₁ B hml hv
  obtain ⟨rfl, hsz, hP, hK, hD0, hST⟩ := hv
  have hx := B.exec
  have hb := B.bytes
  have hr := B.returns
  have hts := atoms_spec (ws := wsX5_follow) B.pre
  have hown : s.vm.findClass RX5 = some m.cls := findClass_of_methodNamed B.named
  have hlocks := B.notSynchronized
  subst hsz
  have hD := hD0.self (sz := s.heap.size)
  generalize hAe : va_A [(aM, .inr (6, [.int cod, .int w, .int ht, .int fou, .ref aMf, .int ln, .int wd, .int rd, .int kp, .int car, .int hom, .int gol, .int hld, .double err, .int isw, .int mvs, .int mde, .ref aNm, .ref aBe, .int exa, .long lst, .ref aFa, .ref aCs, .ref aFr, .ref aRo, .ref aNe])), (aMf, .inl (cMf, 576, .inl mf)), (aNm, .inl (cNm, 4608, .inl nm)), (aBe, .inl (cBe, 4608, .inl be)), (aFa, .inl (cFa, 4608, .inl fa)), (aCs, .inl (cCs, 4608, .inl cs)), (aFr, .inl (cFr, 4608, .inl fr)), (aRo, .inl (cRo, 4608, .inl ro)), (aNe, .inl (cNe, 576, .inl ne))] s.heap.size = A at hD hST ⊢
  have hA : ∀ q : Nat, s.heap.size ≤ q → A q := fun q h => by rw [← hAe]; exact Or.inr h
  have hS : va_S A s.heap s.heap [] := va_S.rf
  have hl := lv_entry ([.ref aM, .int p0, .double p1]) (n := 5) (Nat.le_of_ble_eq_true rfl)
  rw [lg_entry_eq]
  generalize (lg_sl ([.ref aM, .int p0, .double p1]) ++ List.replicate (5 - (lg_sl ([.ref aM, .int p0, .double p1])).length) Slot.unset).toArray = ls at hl ⊢
  have hl : lv_has ls 5 [(0, .ref aM), (1, .int p0), (2, .double p1)] := hl
  have iX5 : ∀ w ∈ wsX50, w ∈ wsX5_follow := fun w h => List.mem_cons_of_mem _ (List.mem_append_right _ h)
  have k_1 := hts (.fieldLink RX5 58 "ParkWaysModel" "code" "I") (List.mem_of_getElem? (i := 1) rfl)
  have k_2 := hts (.constantDouble RX5 157 (13830554455654793216)) (List.mem_of_getElem? (i := 2) rfl)
  have k_3 := hts (.fieldLink RX5 118 "ParkWaysModel" "isWay" "Z") (List.mem_of_getElem? (i := 3) rfl)
  have k_4 := hts (.fieldLink RX5 140 "ParkWaysModel" "made" "I") (List.mem_of_getElem? (i := 4) rfl)
  have k_5 := hts (.fieldLink RX5 137 "ParkWaysModel" "moves" "I") (List.mem_of_getElem? (i := 5) rfl)
  have k_6 := hts (.fieldLink RX5 23 "ParkWaysModel" "held" "Z") (List.mem_of_getElem? (i := 6) rfl)
  have k_7 := hts (.fieldLink RX5 31 "ParkWaysModel" "behind" "[I") (List.mem_of_getElem? (i := 7) rfl)
  have k_8 := hts (.fieldLink RX5 128 "ParkWaysModel" "car" "I") (List.mem_of_getElem? (i := 8) rfl)
  have k_9 := hts (.fieldLink RX5 159 "ParkWaysModel" "error" "D") (List.mem_of_getElem? (i := 9) rfl)
  have k_10 := hts (.constantDouble RX5 163 (4602678819172646912)) (List.mem_of_getElem? (i := 10) rfl)
  have k_11 := hts (.constantDouble RX5 165 (13826050856027422720)) (List.mem_of_getElem? (i := 11) rfl)
  have L_46 : ∀ (y1_6 : Int32) (y2_7 : UInt64) (ycod_9 : Int32) (kk_156 : Int32 → Int32 → UInt64 → Int32 → Option (Int32 × Int32 × Int32 × UInt64 × Int32)) (hkk_156 : ∀ (H : Heap) (locs : List Loc) (x4_8 : Int32) (xcar_10 : Int32) (xerr_11 : UInt64) (xmde_12 : Int32) (ls : Array Slot), kk_156 x4_8 xcar_10 xerr_11 xmde_12 = some o → va_P D vwCl [(aM, .inr (6, [.int ycod_9, .int w, .int ht, .int fou, .ref aMf, .int ln, .int wd, .int rd, .int kp, .int xcar_10, .int hom, .int gol, .int hld, .double xerr_11, .int isw, .int mvs, .int xmde_12, .ref aNm, .ref aBe, .int exa, .long lst, .ref aFa, .ref aCs, .ref aFr, .ref aRo, .ref aNe])), (aMf, .inl (cMf, 576, .inl mf)), (aNm, .inl (cNm, 4608, .inl nm)), (aBe, .inl (cBe, 4608, .inl be)), (aFa, .inl (cFa, 4608, .inl fa)), (aCs, .inl (cCs, 4608, .inl cs)), (aFr, .inl (cFr, 4608, .inl fr)), (aRo, .inl (cRo, 4608, .inl ro)), (aNe, .inl (cNe, 576, .inl ne))] H → va_D A [(aM, .inr (6, [.int ycod_9, .int w, .int ht, .int fou, .ref aMf, .int ln, .int wd, .int rd, .int kp, .int xcar_10, .int hom, .int gol, .int hld, .double xerr_11, .int isw, .int mvs, .int xmde_12, .ref aNm, .ref aBe, .int exa, .long lst, .ref aFa, .ref aCs, .ref aFr, .ref aRo, .ref aNe])), (aMf, .inl (cMf, 576, .inl mf)), (aNm, .inl (cNm, 4608, .inl nm)), (aBe, .inl (cBe, 4608, .inl be)), (aFa, .inl (cFa, 4608, .inl fa)), (aCs, .inl (cCs, 4608, .inl cs)), (aFr, .inl (cFr, 4608, .inl fr)), (aRo, .inl (cRo, 4608, .inl ro)), (aNe, .inl (cNe, 576, .inl ne))] → va_S A s.heap H locs → lv_has ls 5 [] → W p l e (headSpec wsX5_follow rmX5_follow).room s m [.ref aM, .int p0, .double p1].toArray below meth c H locs 0 0 (MQ below (qWi D o.1 [(aM, .inr (6, [.int o.2.1, .int w, .int ht, .int fou, .ref aMf, .int ln, .int wd, .int rd, .int kp, .int o.2.2.1, .int hom, .int gol, .int hld, .double o.2.2.2.1, .int isw, .int mvs, .int o.2.2.2.2, .ref aNm, .ref aBe, .int exa, .long lst, .ref aFa, .ref aCs, .ref aFr, .ref aRo, .ref aNe])), (aMf, .inl (cMf, 576, .inl mf)), (aNm, .inl (cNm, 4608, .inl nm)), (aBe, .inl (cBe, 4608, .inl be)), (aFa, .inl (cFa, 4608, .inl fa)), (aCs, .inl (cCs, 4608, .inl cs)), (aFr, .inl (cFr, 4608, .inl fr)), (aRo, .inl (cRo, 4608, .inl ro)), (aNe, .inl (cNe, 576, .inl ne))] A) [.ref aM, .int p0, .double p1].toArray s 0 0 A) (F0 m 156 ls [])) (fz : Nat) (H : Heap) (locs : List Loc) (x4_8 : Int32) (xcar_10 : Int32) (xerr_11 : UInt64) (xmde_12 : Int32) (ls : Array Slot), J_X5_follow_L46 F hld mvs be y1_6 y2_7 ycod_9 kk_156 fz x4_8 xcar_10 xerr_11 xmde_12 = some o → va_P D vwCl [(aM, .inr (6, [.int ycod_9, .int w, .int ht, .int fou, .ref aMf, .int ln, .int wd, .int rd, .int kp, .int xcar_10, .int hom, .int gol, .int hld, .double xerr_11, .int isw, .int mvs, .int xmde_12, .ref aNm, .ref aBe, .int exa, .long lst, .ref aFa, .ref aCs, .ref aFr, .ref aRo, .ref aNe])), (aMf, .inl (cMf, 576, .inl mf)), (aNm, .inl (cNm, 4608, .inl nm)), (aBe, .inl (cBe, 4608, .inl be)), (aFa, .inl (cFa, 4608, .inl fa)), (aCs, .inl (cCs, 4608, .inl cs)), (aFr, .inl (cFr, 4608, .inl fr)), (aRo, .inl (cRo, 4608, .inl ro)), (aNe, .inl (cNe, 576, .inl ne))] H → va_D A [(aM, .inr (6, [.int ycod_9, .int w, .int ht, .int fou, .ref aMf, .int ln, .int wd, .int rd, .int kp, .int xcar_10, .int hom, .int gol, .int hld, .double xerr_11, .int isw, .int mvs, .int xmde_12, .ref aNm, .ref aBe, .int exa, .long lst, .ref aFa, .ref aCs, .ref aFr, .ref aRo, .ref aNe])), (aMf, .inl (cMf, 576, .inl mf)), (aNm, .inl (cNm, 4608, .inl nm)), (aBe, .inl (cBe, 4608, .inl be)), (aFa, .inl (cFa, 4608, .inl fa)), (aCs, .inl (cCs, 4608, .inl cs)), (aFr, .inl (cFr, 4608, .inl fr)), (aRo, .inl (cRo, 4608, .inl ro)), (aNe, .inl (cNe, 576, .inl ne))] → va_S A s.heap H locs → lv_has ls 5 [(0, .ref aM), (1, .int y1_6), (2, .double y2_7), (4, .int x4_8)] → W p l e (headSpec wsX5_follow rmX5_follow).room s m [.ref aM, .int p0, .double p1].toArray below meth c H locs 0 0 (MQ below (qWi D o.1 [(aM, .inr (6, [.int o.2.1, .int w, .int ht, .int fou, .ref aMf, .int ln, .int wd, .int rd, .int kp, .int o.2.2.1, .int hom, .int gol, .int hld, .double o.2.2.2.1, .int isw, .int mvs, .int o.2.2.2.2, .ref aNm, .ref aBe, .int exa, .long lst, .ref aFa, .ref aCs, .ref aFr, .ref aRo, .ref aNe])), (aMf, .inl (cMf, 576, .inl mf)), (aNm, .inl (cNm, 4608, .inl nm)), (aBe, .inl (cBe, 4608, .inl be)), (aFa, .inl (cFa, 4608, .inl fa)), (aCs, .inl (cCs, 4608, .inl cs)), (aFr, .inl (cFr, 4608, .inl fr)), (aRo, .inl (cRo, 4608, .inl ro)), (aNe, .inl (cNe, 576, .inl ne))] A) [.ref aM, .int p0, .double p1].toArray s 0 0 A) (F0 m 46 ls []) := by
    intro y1_6 y2_7 ycod_9 kk_156 hkk_156 fz
    induction fz with
    | zero =>
      intro H locs x4_8 xcar_10 xerr_11 xmde_12 ls hJ
      rw [J_X5_follow_L46] at hJ
      cases hJ
    | succ fz ih =>
      intro H locs x4_8 xcar_10 xerr_11 xmde_12 ls hJ hP hD hS hl
      rw [J_X5_follow_L46] at hJ
      refine lv_iload hx hb dX5_follow_46 (lv_at hl 3 rfl) ?_
      refine lv_iload_n hx hb dX5_follow_48 rfl (lv_at hl 1 rfl) ?_
      refine lv_icmp_ge (tgt := 156) hx hb dX5_follow_49 (by decide) (fun c_13 => ?_) (fun c_13 => ?_)
      · have hJ := j_t c_13 hJ
        exact hkk_156 H locs x4_8 xcar_10 xerr_11 xmde_12 ls hJ hP hD hS (lv_sub hl [] rfl)
      · have hJ := j_f c_13 hJ
        refine lv_aload_n hx hb dX5_follow_52 rfl (lv_at hl 0 rfl) ?_
        refine va_get (D := D) (ci := 6) (v := .int xmde_12) (C := RX5) (T := TX5) (N := 26) hx hb hts iX5 hown hK hP 0 rfl rfl 16 (by decide) k_4 (fun _ h9 => h9) rfl dX5_follow_53 ?_
        refine lv_aload_n hx hb dX5_follow_56 rfl (lv_at hl 0 rfl) ?_
        refine va_get (D := D) (ci := 6) (v := .int mvs) (C := RX5) (T := TX5) (N := 26) hx hb hts iX5 hown hK hP 0 rfl rfl 15 (by decide) k_5 (fun _ h9 => h9) rfl dX5_follow_57 ?_
        refine lv_icmp_ge (tgt := 156) hx hb dX5_follow_60 (by decide) (fun c_14 => ?_) (fun c_14 => ?_)
        · have hJ := j_t c_14 hJ
          exact hkk_156 H locs x4_8 xcar_10 xerr_11 xmde_12 ls hJ hP hD hS (lv_sub hl [] rfl)
        · have hJ := j_f c_14 hJ
          refine lv_aload_n hx hb dX5_follow_63 rfl (lv_at hl 0 rfl) ?_
          refine va_get (D := D) (ci := 6) (v := .int hld) (C := RX5) (T := TX5) (N := 26) hx hb hts iX5 hown hK hP 0 rfl rfl 12 (by decide) k_6 (fun _ h9 => h9) rfl dX5_follow_64 ?_
          refine lv_if_ne (tgt := 72) hx hb dX5_follow_67 (by decide) (fun c_15 => ?_) (fun c_15 => ?_)
          · have hJ := j_f c_15 hJ
            refine lv_aload_n hx hb dX5_follow_72 rfl (lv_at hl 0 rfl) ?_
            refine lv_aload_n hx hb dX5_follow_73 rfl (lv_at hl 0 rfl) ?_
            refine va_get (D := D) (ci := 6) (v := .ref aBe) (C := RX5) (T := TX5) (N := 26) hx hb hts iX5 hown hK hP 0 rfl rfl 18 (by decide) k_7 (fun _ h9 => h9) rfl dX5_follow_74 ?_
            refine lv_aload_n hx hb dX5_follow_77 rfl (lv_at hl 0 rfl) ?_
            refine va_get (D := D) (ci := 6) (v := .int xmde_12) (C := RX5) (T := TX5) (N := 26) hx hb hts iX5 hown hK hP 0 rfl rfl 16 (by decide) k_4 (fun _ h9 => h9) rfl dX5_follow_78 ?_
            obtain ⟨h_16, hJ⟩ := g_in hJ
            refine va_iald hx hb hK hP 3 2 rfl rfl h_16 dX5_follow_81 ?_
            refine va_put (D := D) (ci := 6) (v := .int (be xmde_12.toNatClampNeg)) (ty := .int) (C := RX5) (T := TX5) (N := 26) hx hb hts iX5 tyX5 tyX5_ok nmX5 hown hK hP hD hS 0 rfl rfl 9 (by decide) k_8 (fun _ h9 => h9) rfl (by decide +kernel) rfl rfl (Nat.le_of_ble_eq_true rfl) dX5_follow_82 (fun H locs hP hD hS => ?_)
            have hP : va_P D vwCl [(aM, .inr (6, [.int ycod_9, .int w, .int ht, .int fou, .ref aMf, .int ln, .int wd, .int rd, .int kp, .int (be xmde_12.toNatClampNeg), .int hom, .int gol, .int hld, .double xerr_11, .int isw, .int mvs, .int xmde_12, .ref aNm, .ref aBe, .int exa, .long lst, .ref aFa, .ref aCs, .ref aFr, .ref aRo, .ref aNe])), (aMf, .inl (cMf, 576, .inl mf)), (aNm, .inl (cNm, 4608, .inl nm)), (aBe, .inl (cBe, 4608, .inl be)), (aFa, .inl (cFa, 4608, .inl fa)), (aCs, .inl (cCs, 4608, .inl cs)), (aFr, .inl (cFr, 4608, .inl fr)), (aRo, .inl (cRo, 4608, .inl ro)), (aNe, .inl (cNe, 576, .inl ne))] H := hP
            have hD : va_D A [(aM, .inr (6, [.int ycod_9, .int w, .int ht, .int fou, .ref aMf, .int ln, .int wd, .int rd, .int kp, .int (be xmde_12.toNatClampNeg), .int hom, .int gol, .int hld, .double xerr_11, .int isw, .int mvs, .int xmde_12, .ref aNm, .ref aBe, .int exa, .long lst, .ref aFa, .ref aCs, .ref aFr, .ref aRo, .ref aNe])), (aMf, .inl (cMf, 576, .inl mf)), (aNm, .inl (cNm, 4608, .inl nm)), (aBe, .inl (cBe, 4608, .inl be)), (aFa, .inl (cFa, 4608, .inl fa)), (aCs, .inl (cCs, 4608, .inl cs)), (aFr, .inl (cFr, 4608, .inl fr)), (aRo, .inl (cRo, 4608, .inl ro)), (aNe, .inl (cNe, 576, .inl ne))] := hD
            refine lv_aload_n hx hb dX5_follow_85 rfl (lv_at hl 0 rfl) ?_
            refine lv_dup hx hb dX5_follow_86 rfl ?_
            refine va_get (D := D) (ci := 6) (v := .int xmde_12) (C := RX5) (T := TX5) (N := 26) hx hb hts iX5 hown hK hP 0 rfl rfl 16 (by decide) k_4 (fun _ h9 => h9) rfl dX5_follow_87 ?_
            refine lv_iconst (v := 1) hx hb dX5_follow_90 (by decide) ?_
            refine lv_iadd hx hb dX5_follow_91 ?_
            refine va_put (D := D) (ci := 6) (v := .int (xmde_12 + (1 : Int32))) (ty := .int) (C := RX5) (T := TX5) (N := 26) hx hb hts iX5 tyX5 tyX5_ok nmX5 hown hK hP hD hS 0 rfl rfl 16 (by decide) k_4 (fun _ h9 => h9) rfl (by decide +kernel) rfl rfl (Nat.le_of_ble_eq_true rfl) dX5_follow_92 (fun H locs hP hD hS => ?_)
            have hP : va_P D vwCl [(aM, .inr (6, [.int ycod_9, .int w, .int ht, .int fou, .ref aMf, .int ln, .int wd, .int rd, .int kp, .int (be xmde_12.toNatClampNeg), .int hom, .int gol, .int hld, .double xerr_11, .int isw, .int mvs, .int (xmde_12 + (1 : Int32)), .ref aNm, .ref aBe, .int exa, .long lst, .ref aFa, .ref aCs, .ref aFr, .ref aRo, .ref aNe])), (aMf, .inl (cMf, 576, .inl mf)), (aNm, .inl (cNm, 4608, .inl nm)), (aBe, .inl (cBe, 4608, .inl be)), (aFa, .inl (cFa, 4608, .inl fa)), (aCs, .inl (cCs, 4608, .inl cs)), (aFr, .inl (cFr, 4608, .inl fr)), (aRo, .inl (cRo, 4608, .inl ro)), (aNe, .inl (cNe, 576, .inl ne))] H := hP
            have hD : va_D A [(aM, .inr (6, [.int ycod_9, .int w, .int ht, .int fou, .ref aMf, .int ln, .int wd, .int rd, .int kp, .int (be xmde_12.toNatClampNeg), .int hom, .int gol, .int hld, .double xerr_11, .int isw, .int mvs, .int (xmde_12 + (1 : Int32)), .ref aNm, .ref aBe, .int exa, .long lst, .ref aFa, .ref aCs, .ref aFr, .ref aRo, .ref aNe])), (aMf, .inl (cMf, 576, .inl mf)), (aNm, .inl (cNm, 4608, .inl nm)), (aBe, .inl (cBe, 4608, .inl be)), (aFa, .inl (cFa, 4608, .inl fa)), (aCs, .inl (cCs, 4608, .inl cs)), (aFr, .inl (cFr, 4608, .inl fr)), (aRo, .inl (cRo, 4608, .inl ro)), (aNe, .inl (cNe, 576, .inl ne))] := hD
            refine lv_aload_n hx hb dX5_follow_95 rfl (lv_at hl 0 rfl) ?_
            refine lv_aload_n hx hb dX5_follow_96 rfl (lv_at hl 0 rfl) ?_
            refine va_get (D := D) (ci := 6) (v := .double xerr_11) (C := RX5) (T := TX5) (N := 26) hx hb hts iX5 hown hK hP 0 rfl rfl 13 (by decide) k_9 (fun _ h9 => h9) rfl dX5_follow_97 ?_
            refine lv_dload_n hx hb dX5_follow_100 rfl (lv_at hl 2 rfl) ?_
            obtain ⟨z_17, hJ⟩ := g_nf hJ
            refine lv_dadd hx hb dX5_follow_101 z_17 ?_
            refine va_put (D := D) (ci := 6) (v := .double (FP.dadd xerr_11 y2_7)) (ty := .double) (C := RX5) (T := TX5) (N := 26) hx hb hts iX5 tyX5 tyX5_ok nmX5 hown hK hP hD hS 0 rfl rfl 13 (by decide) k_9 (fun _ h9 => h9) rfl (by decide +kernel) rfl rfl (Nat.le_of_ble_eq_true rfl) dX5_follow_102 (fun H locs hP hD hS => ?_)
            have hP : va_P D vwCl [(aM, .inr (6, [.int ycod_9, .int w, .int ht, .int fou, .ref aMf, .int ln, .int wd, .int rd, .int kp, .int (be xmde_12.toNatClampNeg), .int hom, .int gol, .int hld, .double (FP.dadd xerr_11 y2_7), .int isw, .int mvs, .int (xmde_12 + (1 : Int32)), .ref aNm, .ref aBe, .int exa, .long lst, .ref aFa, .ref aCs, .ref aFr, .ref aRo, .ref aNe])), (aMf, .inl (cMf, 576, .inl mf)), (aNm, .inl (cNm, 4608, .inl nm)), (aBe, .inl (cBe, 4608, .inl be)), (aFa, .inl (cFa, 4608, .inl fa)), (aCs, .inl (cCs, 4608, .inl cs)), (aFr, .inl (cFr, 4608, .inl fr)), (aRo, .inl (cRo, 4608, .inl ro)), (aNe, .inl (cNe, 576, .inl ne))] H := hP
            have hD : va_D A [(aM, .inr (6, [.int ycod_9, .int w, .int ht, .int fou, .ref aMf, .int ln, .int wd, .int rd, .int kp, .int (be xmde_12.toNatClampNeg), .int hom, .int gol, .int hld, .double (FP.dadd xerr_11 y2_7), .int isw, .int mvs, .int (xmde_12 + (1 : Int32)), .ref aNm, .ref aBe, .int exa, .long lst, .ref aFa, .ref aCs, .ref aFr, .ref aRo, .ref aNe])), (aMf, .inl (cMf, 576, .inl mf)), (aNm, .inl (cNm, 4608, .inl nm)), (aBe, .inl (cBe, 4608, .inl be)), (aFa, .inl (cFa, 4608, .inl fa)), (aCs, .inl (cCs, 4608, .inl cs)), (aFr, .inl (cFr, 4608, .inl fr)), (aRo, .inl (cRo, 4608, .inl ro)), (aNe, .inl (cNe, 576, .inl ne))] := hD
            refine lv_aload_n hx hb dX5_follow_105 rfl (lv_at hl 0 rfl) ?_
            refine va_get (D := D) (ci := 6) (v := .double (FP.dadd xerr_11 y2_7)) (C := RX5) (T := TX5) (N := 26) hx hb hts iX5 hown hK hP 0 rfl rfl 13 (by decide) k_9 (fun _ h9 => h9) rfl dX5_follow_106 ?_
            refine lv_ldc2d (v := 4602678819172646912) hx hb hown k_10 dX5_follow_109 ?_
            refine lv_dcmp hx hb dX5_follow_112 ?_
            refine lv_if_le (tgt := 129) hx hb dX5_follow_113 (by decide) (fun c_18 => ?_) (fun c_18 => ?_)
            · have hJ := j_t c_18 hJ
              refine lv_aload_n hx hb dX5_follow_129 rfl (lv_at hl 0 rfl) ?_
              refine va_get (D := D) (ci := 6) (v := .double (FP.dadd xerr_11 y2_7)) (C := RX5) (T := TX5) (N := 26) hx hb hts iX5 hown hK hP 0 rfl rfl 13 (by decide) k_9 (fun _ h9 => h9) rfl dX5_follow_130 ?_
              refine lv_ldc2d (v := 13826050856027422720) hx hb hown k_11 dX5_follow_133 ?_
              refine lv_dcmp hx hb dX5_follow_136 ?_
              refine lv_if_ge (tgt := 150) hx hb dX5_follow_137 (by decide) (fun c_19 => ?_) (fun c_19 => ?_)
              · have hJ := j_t c_19 hJ
                refine lv_iinc (v := (x4_8 + (1 : Int32))) (lv' := [(4, .int (x4_8 + (1 : Int32))), (0, .ref aM), (1, .int y1_6), (2, .double y2_7)]) hx hb dX5_follow_150 hl (k := 3) rfl rfl (by decide) rfl (fun ls hl => ?_)
                refine lv_goto (tgt := 46) hx hb dX5_follow_153 (by decide) ?_
                exact ih H locs (x4_8 + (1 : Int32)) (be xmde_12.toNatClampNeg) (FP.dadd xerr_11 y2_7) (xmde_12 + (1 : Int32)) ls hJ hP hD hS (lv_sub hl [1, 2, 3, 0] rfl)
              · have hJ := j_f c_19 hJ
                refine lv_aload_n hx hb dX5_follow_140 rfl (lv_at hl 0 rfl) ?_
                refine lv_aload_n hx hb dX5_follow_141 rfl (lv_at hl 0 rfl) ?_
                refine va_get (D := D) (ci := 6) (v := .double (FP.dadd xerr_11 y2_7)) (C := RX5) (T := TX5) (N := 26) hx hb hts iX5 hown hK hP 0 rfl rfl 13 (by decide) k_9 (fun _ h9 => h9) rfl dX5_follow_142 ?_
                refine lv_dconst1 hx hb dX5_follow_145 ?_
                obtain ⟨z_20, hJ⟩ := g_nf hJ
                refine lv_dadd hx hb dX5_follow_146 z_20 ?_
                refine va_put (D := D) (ci := 6) (v := .double (FP.dadd (FP.dadd xerr_11 y2_7) FP.dconst1)) (ty := .double) (C := RX5) (T := TX5) (N := 26) hx hb hts iX5 tyX5 tyX5_ok nmX5 hown hK hP hD hS 0 rfl rfl 13 (by decide) k_9 (fun _ h9 => h9) rfl (by decide +kernel) rfl rfl (Nat.le_of_ble_eq_true rfl) dX5_follow_147 (fun H locs hP hD hS => ?_)
                have hP : va_P D vwCl [(aM, .inr (6, [.int ycod_9, .int w, .int ht, .int fou, .ref aMf, .int ln, .int wd, .int rd, .int kp, .int (be xmde_12.toNatClampNeg), .int hom, .int gol, .int hld, .double (FP.dadd (FP.dadd xerr_11 y2_7) FP.dconst1), .int isw, .int mvs, .int (xmde_12 + (1 : Int32)), .ref aNm, .ref aBe, .int exa, .long lst, .ref aFa, .ref aCs, .ref aFr, .ref aRo, .ref aNe])), (aMf, .inl (cMf, 576, .inl mf)), (aNm, .inl (cNm, 4608, .inl nm)), (aBe, .inl (cBe, 4608, .inl be)), (aFa, .inl (cFa, 4608, .inl fa)), (aCs, .inl (cCs, 4608, .inl cs)), (aFr, .inl (cFr, 4608, .inl fr)), (aRo, .inl (cRo, 4608, .inl ro)), (aNe, .inl (cNe, 576, .inl ne))] H := hP
                have hD : va_D A [(aM, .inr (6, [.int ycod_9, .int w, .int ht, .int fou, .ref aMf, .int ln, .int wd, .int rd, .int kp, .int (be xmde_12.toNatClampNeg), .int hom, .int gol, .int hld, .double (FP.dadd (FP.dadd xerr_11 y2_7) FP.dconst1), .int isw, .int mvs, .int (xmde_12 + (1 : Int32)), .ref aNm, .ref aBe, .int exa, .long lst, .ref aFa, .ref aCs, .ref aFr, .ref aRo, .ref aNe])), (aMf, .inl (cMf, 576, .inl mf)), (aNm, .inl (cNm, 4608, .inl nm)), (aBe, .inl (cBe, 4608, .inl be)), (aFa, .inl (cFa, 4608, .inl fa)), (aCs, .inl (cCs, 4608, .inl cs)), (aFr, .inl (cFr, 4608, .inl fr)), (aRo, .inl (cRo, 4608, .inl ro)), (aNe, .inl (cNe, 576, .inl ne))] := hD
                refine lv_iinc (v := (x4_8 + (1 : Int32))) (lv' := [(4, .int (x4_8 + (1 : Int32))), (0, .ref aM), (1, .int y1_6), (2, .double y2_7)]) hx hb dX5_follow_150 hl (k := 3) rfl rfl (by decide) rfl (fun ls hl => ?_)
                refine lv_goto (tgt := 46) hx hb dX5_follow_153 (by decide) ?_
                exact ih H locs (x4_8 + (1 : Int32)) (be xmde_12.toNatClampNeg) (FP.dadd (FP.dadd xerr_11 y2_7) FP.dconst1) (xmde_12 + (1 : Int32)) ls hJ hP hD hS (lv_sub hl [1, 2, 3, 0] rfl)
            · have hJ := j_f c_18 hJ
              refine lv_aload_n hx hb dX5_follow_116 rfl (lv_at hl 0 rfl) ?_
              refine lv_aload_n hx hb dX5_follow_117 rfl (lv_at hl 0 rfl) ?_
              refine va_get (D := D) (ci := 6) (v := .double (FP.dadd xerr_11 y2_7)) (C := RX5) (T := TX5) (N := 26) hx hb hts iX5 hown hK hP 0 rfl rfl 13 (by decide) k_9 (fun _ h9 => h9) rfl dX5_follow_118 ?_
              refine lv_dconst1 hx hb dX5_follow_121 ?_
              obtain ⟨z_21, hJ⟩ := g_nf hJ
              refine lv_dsub hx hb dX5_follow_122 z_21 ?_
              refine va_put (D := D) (ci := 6) (v := .double (FP.dsub (FP.dadd xerr_11 y2_7) FP.dconst1)) (ty := .double) (C := RX5) (T := TX5) (N := 26) hx hb hts iX5 tyX5 tyX5_ok nmX5 hown hK hP hD hS 0 rfl rfl 13 (by decide) k_9 (fun _ h9 => h9) rfl (by decide +kernel) rfl rfl (Nat.le_of_ble_eq_true rfl) dX5_follow_123 (fun H locs hP hD hS => ?_)
              have hP : va_P D vwCl [(aM, .inr (6, [.int ycod_9, .int w, .int ht, .int fou, .ref aMf, .int ln, .int wd, .int rd, .int kp, .int (be xmde_12.toNatClampNeg), .int hom, .int gol, .int hld, .double (FP.dsub (FP.dadd xerr_11 y2_7) FP.dconst1), .int isw, .int mvs, .int (xmde_12 + (1 : Int32)), .ref aNm, .ref aBe, .int exa, .long lst, .ref aFa, .ref aCs, .ref aFr, .ref aRo, .ref aNe])), (aMf, .inl (cMf, 576, .inl mf)), (aNm, .inl (cNm, 4608, .inl nm)), (aBe, .inl (cBe, 4608, .inl be)), (aFa, .inl (cFa, 4608, .inl fa)), (aCs, .inl (cCs, 4608, .inl cs)), (aFr, .inl (cFr, 4608, .inl fr)), (aRo, .inl (cRo, 4608, .inl ro)), (aNe, .inl (cNe, 576, .inl ne))] H := hP
              have hD : va_D A [(aM, .inr (6, [.int ycod_9, .int w, .int ht, .int fou, .ref aMf, .int ln, .int wd, .int rd, .int kp, .int (be xmde_12.toNatClampNeg), .int hom, .int gol, .int hld, .double (FP.dsub (FP.dadd xerr_11 y2_7) FP.dconst1), .int isw, .int mvs, .int (xmde_12 + (1 : Int32)), .ref aNm, .ref aBe, .int exa, .long lst, .ref aFa, .ref aCs, .ref aFr, .ref aRo, .ref aNe])), (aMf, .inl (cMf, 576, .inl mf)), (aNm, .inl (cNm, 4608, .inl nm)), (aBe, .inl (cBe, 4608, .inl be)), (aFa, .inl (cFa, 4608, .inl fa)), (aCs, .inl (cCs, 4608, .inl cs)), (aFr, .inl (cFr, 4608, .inl fr)), (aRo, .inl (cRo, 4608, .inl ro)), (aNe, .inl (cNe, 576, .inl ne))] := hD
              refine lv_goto (tgt := 150) hx hb dX5_follow_126 (by decide) ?_
              refine lv_iinc (v := (x4_8 + (1 : Int32))) (lv' := [(4, .int (x4_8 + (1 : Int32))), (0, .ref aM), (1, .int y1_6), (2, .double y2_7)]) hx hb dX5_follow_150 hl (k := 3) rfl rfl (by decide) rfl (fun ls hl => ?_)
              refine lv_goto (tgt := 46) hx hb dX5_follow_153 (by decide) ?_
              exact ih H locs (x4_8 + (1 : Int32)) (be xmde_12.toNatClampNeg) (FP.dsub (FP.dadd xerr_11 y2_7) FP.dconst1) (xmde_12 + (1 : Int32)) ls hJ hP hD hS (lv_sub hl [1, 2, 3, 0] rfl)
          · have hJ := j_t c_15 hJ
            refine lv_iconst (v := 2) hx hb dX5_follow_70 (by decide) ?_
            have ho := Option.some.inj hJ
            exact W.iret (v := (2 : Int32)) hx hb hr (fun t ht hW => ⟨⟨_, (), rfl, (by rw [← ho]), (by rw [ht, ← ho]; exact hP), (by rw [← ho]; exact hD)⟩, hS.F ht⟩) hS.2.2 dX5_follow_71
  unfold J_X5_follow at hJ
  refine lv_aload_n hx hb dX5_follow_0 rfl (lv_at hl 0 rfl) ?_
  refine lv_iconst (v := 0) hx hb dX5_follow_1 (by decide) ?_
  refine va_put (D := D) (ci := 6) (v := .int (0 : Int32)) (ty := .int) (C := RX5) (T := TX5) (N := 26) hx hb hts iX5 tyX5 tyX5_ok nmX5 hown hK hP hD hS 0 rfl rfl 0 (by decide) k_1 (fun _ h9 => h9) rfl (by decide +kernel) rfl rfl (Nat.le_of_ble_eq_true rfl) dX5_follow_2 (fun H locs hP hD hS => ?_)
  have hP : va_P D vwCl [(aM, .inr (6, [.int (0 : Int32), .int w, .int ht, .int fou, .ref aMf, .int ln, .int wd, .int rd, .int kp, .int car, .int hom, .int gol, .int hld, .double err, .int isw, .int mvs, .int mde, .ref aNm, .ref aBe, .int exa, .long lst, .ref aFa, .ref aCs, .ref aFr, .ref aRo, .ref aNe])), (aMf, .inl (cMf, 576, .inl mf)), (aNm, .inl (cNm, 4608, .inl nm)), (aBe, .inl (cBe, 4608, .inl be)), (aFa, .inl (cFa, 4608, .inl fa)), (aCs, .inl (cCs, 4608, .inl cs)), (aFr, .inl (cFr, 4608, .inl fr)), (aRo, .inl (cRo, 4608, .inl ro)), (aNe, .inl (cNe, 576, .inl ne))] H := hP
  have hD : va_D A [(aM, .inr (6, [.int (0 : Int32), .int w, .int ht, .int fou, .ref aMf, .int ln, .int wd, .int rd, .int kp, .int car, .int hom, .int gol, .int hld, .double err, .int isw, .int mvs, .int mde, .ref aNm, .ref aBe, .int exa, .long lst, .ref aFa, .ref aCs, .ref aFr, .ref aRo, .ref aNe])), (aMf, .inl (cMf, 576, .inl mf)), (aNm, .inl (cNm, 4608, .inl nm)), (aBe, .inl (cBe, 4608, .inl be)), (aFa, .inl (cFa, 4608, .inl fa)), (aCs, .inl (cCs, 4608, .inl cs)), (aFr, .inl (cFr, 4608, .inl fr)), (aRo, .inl (cRo, 4608, .inl ro)), (aNe, .inl (cNe, 576, .inl ne))] := hD
  refine lv_iload_n hx hb dX5_follow_5 rfl (lv_at hl 1 rfl) ?_
  refine lv_iconst (v := 1) hx hb dX5_follow_6 (by decide) ?_
  refine lv_icmp_lt (tgt := 31) hx hb dX5_follow_7 (by decide) (fun c_1 => ?_) (fun c_1 => ?_)
  · have hJ := j_t c_1 hJ
    refine lv_bipush (v := (-2)) hx hb dX5_follow_31 (by decide) ?_
    have ho := Option.some.inj hJ
    exact W.iret (v := (-2 : Int32)) hx hb hr (fun t ht hW => ⟨⟨_, (), rfl, (by rw [← ho]), (by rw [ht, ← ho]; exact hP), (by rw [← ho]; exact hD)⟩, hS.F ht⟩) hS.2.2 dX5_follow_33
  · have hJ := j_f c_1 hJ
    refine lv_iload_n hx hb dX5_follow_10 rfl (lv_at hl 1 rfl) ?_
    refine lv_sipush (v := 1000) hx hb dX5_follow_11 (by decide) ?_
    refine lv_icmp_gt (tgt := 31) hx hb dX5_follow_14 (by decide) (fun c_2 => ?_) (fun c_2 => ?_)
    · have hJ := j_t c_2 hJ
      refine lv_bipush (v := (-2)) hx hb dX5_follow_31 (by decide) ?_
      have ho := Option.some.inj hJ
      exact W.iret (v := (-2 : Int32)) hx hb hr (fun t ht hW => ⟨⟨_, (), rfl, (by rw [← ho]), (by rw [ht, ← ho]; exact hP), (by rw [← ho]; exact hD)⟩, hS.F ht⟩) hS.2.2 dX5_follow_33
    · have hJ := j_f c_2 hJ
      refine lv_dload_n hx hb dX5_follow_17 rfl (lv_at hl 2 rfl) ?_
      refine lv_ldc2d (v := 13830554455654793216) hx hb hown k_2 dX5_follow_18 ?_
      refine lv_dcmp hx hb dX5_follow_21 ?_
      refine lv_if_lt (tgt := 31) hx hb dX5_follow_22 (by decide) (fun c_3 => ?_) (fun c_3 => ?_)
      · have hJ := j_t c_3 hJ
        refine lv_bipush (v := (-2)) hx hb dX5_follow_31 (by decide) ?_
        have ho := Option.some.inj hJ
        exact W.iret (v := (-2 : Int32)) hx hb hr (fun t ht hW => ⟨⟨_, (), rfl, (by rw [← ho]), (by rw [ht, ← ho]; exact hP), (by rw [← ho]; exact hD)⟩, hS.F ht⟩) hS.2.2 dX5_follow_33
      · have hJ := j_f c_3 hJ
        refine lv_dload_n hx hb dX5_follow_25 rfl (lv_at hl 2 rfl) ?_
        refine lv_dconst1 hx hb dX5_follow_26 ?_
        refine lv_dcmp hx hb dX5_follow_27 ?_
        refine lv_if_le (tgt := 34) hx hb dX5_follow_28 (by decide) (fun c_4 => ?_) (fun c_4 => ?_)
        · have hJ := j_t c_4 hJ
          refine lv_aload_n hx hb dX5_follow_34 rfl (lv_at hl 0 rfl) ?_
          refine va_get (D := D) (ci := 6) (v := .int isw) (C := RX5) (T := TX5) (N := 26) hx hb hts iX5 hown hK hP 0 rfl rfl 14 (by decide) k_3 (fun _ h9 => h9) rfl dX5_follow_35 ?_
          refine lv_if_ne (tgt := 43) hx hb dX5_follow_38 (by decide) (fun c_5 => ?_) (fun c_5 => ?_)
          · have hJ := j_f c_5 hJ
            refine lv_iconst (v := 0) hx hb dX5_follow_43 (by decide) ?_
            refine lv_istore (lv' := [(4, .int (0 : Int32)), (0, .ref aM), (1, .int p0), (2, .double p1)]) hx hb dX5_follow_44 hl (by decide) rfl (fun ls hl => ?_)
            refine L_46 p0 p1 (0 : Int32) _ ?_ F H locs (0 : Int32) car err mde ls hJ hP hD hS (lv_sub hl [1, 2, 3, 0] rfl)
            · intro H locs x4_22 xcar_23 xerr_24 xmde_25 ls hJ hP hD hS hl
              refine lv_iconst (v := 1) hx hb dX5_follow_156 (by decide) ?_
              have ho := Option.some.inj hJ
              exact W.iret (v := (1 : Int32)) hx hb hr (fun t ht hW => ⟨⟨_, (), rfl, (by rw [← ho]), (by rw [ht, ← ho]; exact hP), (by rw [← ho]; exact hD)⟩, hS.F ht⟩) hS.2.2 dX5_follow_157
          · have hJ := j_t c_5 hJ
            refine lv_iconst (v := 0) hx hb dX5_follow_41 (by decide) ?_
            have ho := Option.some.inj hJ
            exact W.iret (v := (0 : Int32)) hx hb hr (fun t ht hW => ⟨⟨_, (), rfl, (by rw [← ho]), (by rw [ht, ← ho]; exact hP), (by rw [← ho]; exact hD)⟩, hS.F ht⟩) hS.2.2 dX5_follow_42
        · have hJ := j_f c_4 hJ
          refine lv_bipush (v := (-2)) hx hb dX5_follow_31 (by decide) ?_
          have ho := Option.some.inj hJ
          exact W.iret (v := (-2 : Int32)) hx hb hr (fun t ht hW => ⟨⟨_, (), rfl, (by rw [← ho]), (by rw [ht, ← ho]; exact hP), (by rw [← ho]; exact hD)⟩, hS.F ht⟩) hS.2.2 dX5_follow_33
set_option maxHeartbeats 4000000 in
set_option maxRecDepth 100000 in
theorem c_X5_error (l : Launch) (D : va_G) (aM aMf aNm aBe aFa aCs aFr aRo aNe : Nat) (cMf cNm cBe cFa cCs cFr cRo cNe : ClassId) (cod : Int32) (w : Int32) (ht : Int32) (fou : Int32) (ln : Int32) (wd : Int32) (rd : Int32) (kp : Int32) (car : Int32) (hom : Int32) (gol : Int32) (hld : Int32) (err : UInt64) (isw : Int32) (mvs : Int32) (mde : Int32) (exa : Int32) (lst : Int64) (mf : Nat → Int32) (nm : Nat → Int32) (be : Nat → Int32) (fa : Nat → Int32) (cs : Nat → Int32) (fr : Nat → Int32) (ro : Nat → Int32) (ne : Nat → Int32) (tX tY sz F : Nat) (o : UInt64 × Int32) (hJ : J_X5_error F err = some o) : Met l yX5_error wsX5_error rmX5_error (va_Pc [.ref aM] (pcW D [(aM, .inr (6, [.int cod, .int w, .int ht, .int fou, .ref aMf, .int ln, .int wd, .int rd, .int kp, .int car, .int hom, .int gol, .int hld, .double err, .int isw, .int mvs, .int mde, .ref aNm, .ref aBe, .int exa, .long lst, .ref aFa, .ref aCs, .ref aFr, .ref aRo, .ref aNe])), (aMf, .inl (cMf, 576, .inl mf)), (aNm, .inl (cNm, 4608, .inl nm)), (aBe, .inl (cBe, 4608, .inl be)), (aFa, .inl (cFa, 4608, .inl fa)), (aCs, .inl (cCs, 4608, .inl cs)), (aFr, .inl (cFr, 4608, .inl fr)), (aRo, .inl (cRo, 4608, .inl ro)), (aNe, .inl (cNe, 576, .inl ne))] [(cMf, .boolean), (cNm, .int), (cBe, .int), (cFa, .int), (cCs, .int), (cFr, .boolean), (cRo, .int), (cNe, .int)] sz tX tY)) (qWd D o.1 [(aM, .inr (6, [.int o.2, .int w, .int ht, .int fou, .ref aMf, .int ln, .int wd, .int rd, .int kp, .int car, .int hom, .int gol, .int hld, .double err, .int isw, .int mvs, .int mde, .ref aNm, .ref aBe, .int exa, .long lst, .ref aFa, .ref aCs, .ref aFr, .ref aRo, .ref aNe])), (aMf, .inl (cMf, 576, .inl mf)), (aNm, .inl (cNm, 4608, .inl nm)), (aBe, .inl (cBe, 4608, .inl be)), (aFa, .inl (cFa, 4608, .inl fa)), (aCs, .inl (cCs, 4608, .inl cs)), (aFr, .inl (cFr, 4608, .inl fr)), (aRo, .inl (cRo, 4608, .inl ro)), (aNe, .inl (cNe, 576, .inl ne))] (va_A [(aM, .inr (6, [.int cod, .int w, .int ht, .int fou, .ref aMf, .int ln, .int wd, .int rd, .int kp, .int car, .int hom, .int gol, .int hld, .double err, .int isw, .int mvs, .int mde, .ref aNm, .ref aBe, .int exa, .long lst, .ref aFa, .ref aCs, .ref aFr, .ref aRo, .ref aNe])), (aMf, .inl (cMf, 576, .inl mf)), (aNm, .inl (cNm, 4608, .inl nm)), (aBe, .inl (cBe, 4608, .inl be)), (aFa, .inl (cFa, 4608, .inl fa)), (aCs, .inl (cCs, 4608, .inl cs)), (aFr, .inl (cFr, 4608, .inl fr)), (aRo, .inl (cRo, 4608, .inl ro)), (aNe, .inl (cNe, 576, .inl ne))] sz)) 0 0 (va_A [(aM, .inr (6, [.int cod, .int w, .int ht, .int fou, .ref aMf, .int ln, .int wd, .int rd, .int kp, .int car, .int hom, .int gol, .int hld, .double err, .int isw, .int mvs, .int mde, .ref aNm, .ref aBe, .int exa, .long lst, .ref aFa, .ref aCs, .ref aFr, .ref aRo, .ref aNe])), (aMf, .inl (cMf, 576, .inl mf)), (aNm, .inl (cNm, 4608, .inl nm)), (aBe, .inl (cBe, 4608, .inl be)), (aFa, .inl (cFa, 4608, .inl fa)), (aCs, .inl (cCs, 4608, .inl cs)), (aFr, .inl (cFr, 4608, .inl fr)), (aRo, .inl (cRo, 4608, .inl ro)), (aNe, .inl (cNe, 576, .inl ne))] sz) := by
  refine Met.ofW (cc := cX5_error) (maxL := 1) (ret := (some .double)) (by decide) rfl ?_
  intro p e s m args below meth c s₁ B hml hv
  obtain ⟨rfl, hsz, hP, hK, hD0, hST⟩ := hv
  have hx := B.exec
  have hb := B.bytes
  have hr := B.returns
  have hts := atoms_spec (ws := wsX5_error) B.pre
  have hown : s.vm.findClass RX5 = some m.cls := findClass_of_methodNamed B.named
  have hlocks := B.notSynchronized
  subst hsz
  have hD := hD0.self (sz := s.heap.size)
  generalize hAe : va_A [(aM, .inr (6, [.int cod, .int w, .int ht, .int fou, .ref aMf, .int ln, .int wd, .int rd, .int kp, .int car, .int hom, .int gol, .int hld, .double err, .int isw, .int mvs, .int mde, .ref aNm, .ref aBe, .int exa, .long lst, .ref aFa, .ref aCs, .ref aFr, .ref aRo, .ref aNe])), (aMf, .inl (cMf, 576, .inl mf)), (aNm, .inl (cNm, 4608, .inl nm)), (aBe, .inl (cBe, 4608, .inl be)), (aFa, .inl (cFa, 4608, .inl fa)), (aCs, .inl (cCs, 4608, .inl cs)), (aFr, .inl (cFr, 4608, .inl fr)), (aRo, .inl (cRo, 4608, .inl ro)), (aNe, .inl (cNe, 576, .inl ne))] s.heap.size = A at hD hST ⊢
  have hA : ∀ q : Nat, s.heap.size ≤ q → A q := fun q h => by rw [← hAe]; exact Or.inr h
  have hS : va_S A s.heap s.heap [] := va_S.rf
  have hl := lv_entry ([.ref aM]) (n := 1) (Nat.le_of_ble_eq_true rfl)
  rw [lg_entry_eq]
  generalize (lg_sl ([.ref aM]) ++ List.replicate (1 - (lg_sl ([.ref aM])).length) Slot.unset).toArray = ls at hl ⊢
  have hl : lv_has ls 1 [(0, .ref aM)] := hl
  have iX5 : ∀ w ∈ wsX50, w ∈ wsX5_error := fun w h => List.mem_cons_of_mem _ (List.mem_append_right _ h)
  have k_1 := hts (.fieldLink RX5 58 "ParkWaysModel" "code" "I") (List.mem_of_getElem? (i := 1) rfl)
  have k_2 := hts (.fieldLink RX5 159 "ParkWaysModel" "error" "D") (List.mem_of_getElem? (i := 2) rfl)
  unfold J_X5_error at hJ
  refine lv_aload_n hx hb dX5_error_0 rfl (lv_at hl 0 rfl) ?_
  refine lv_iconst (v := 0) hx hb dX5_error_1 (by decide) ?_
  refine va_put (D := D) (ci := 6) (v := .int (0 : Int32)) (ty := .int) (C := RX5) (T := TX5) (N := 26) hx hb hts iX5 tyX5 tyX5_ok nmX5 hown hK hP hD hS 0 rfl rfl 0 (by decide) k_1 (fun _ h9 => h9) rfl (by decide +kernel) rfl rfl (Nat.le_of_ble_eq_true rfl) dX5_error_2 (fun H locs hP hD hS => ?_)
  have hP : va_P D vwCl [(aM, .inr (6, [.int (0 : Int32), .int w, .int ht, .int fou, .ref aMf, .int ln, .int wd, .int rd, .int kp, .int car, .int hom, .int gol, .int hld, .double err, .int isw, .int mvs, .int mde, .ref aNm, .ref aBe, .int exa, .long lst, .ref aFa, .ref aCs, .ref aFr, .ref aRo, .ref aNe])), (aMf, .inl (cMf, 576, .inl mf)), (aNm, .inl (cNm, 4608, .inl nm)), (aBe, .inl (cBe, 4608, .inl be)), (aFa, .inl (cFa, 4608, .inl fa)), (aCs, .inl (cCs, 4608, .inl cs)), (aFr, .inl (cFr, 4608, .inl fr)), (aRo, .inl (cRo, 4608, .inl ro)), (aNe, .inl (cNe, 576, .inl ne))] H := hP
  have hD : va_D A [(aM, .inr (6, [.int (0 : Int32), .int w, .int ht, .int fou, .ref aMf, .int ln, .int wd, .int rd, .int kp, .int car, .int hom, .int gol, .int hld, .double err, .int isw, .int mvs, .int mde, .ref aNm, .ref aBe, .int exa, .long lst, .ref aFa, .ref aCs, .ref aFr, .ref aRo, .ref aNe])), (aMf, .inl (cMf, 576, .inl mf)), (aNm, .inl (cNm, 4608, .inl nm)), (aBe, .inl (cBe, 4608, .inl be)), (aFa, .inl (cFa, 4608, .inl fa)), (aCs, .inl (cCs, 4608, .inl cs)), (aFr, .inl (cFr, 4608, .inl fr)), (aRo, .inl (cRo, 4608, .inl ro)), (aNe, .inl (cNe, 576, .inl ne))] := hD
  refine lv_aload_n hx hb dX5_error_5 rfl (lv_at hl 0 rfl) ?_
  refine va_get (D := D) (ci := 6) (v := .double err) (C := RX5) (T := TX5) (N := 26) hx hb hts iX5 hown hK hP 0 rfl rfl 13 (by decide) k_2 (fun _ h9 => h9) rfl dX5_error_6 ?_
  have ho := Option.some.inj hJ
  exact W.dret (v := err) hx hb hr (fun t ht hW => ⟨⟨_, (), rfl, (by rw [← ho]), (by rw [ht, ← ho]; exact hP), (by rw [← ho]; exact hD)⟩, hS.F ht⟩) hS.2.2 dX5_error_9
set_option maxHeartbeats 4000000 in
set_option maxRecDepth 100000 in
theorem c_X5_change (l : Launch) (D : va_G) (aM aMf aNm aBe aFa aCs aFr aRo aNe : Nat) (cMf cNm cBe cFa cCs cFr cRo cNe : ClassId) (cod : Int32) (w : Int32) (ht : Int32) (fou : Int32) (ln : Int32) (wd : Int32) (rd : Int32) (kp : Int32) (car : Int32) (hom : Int32) (gol : Int32) (hld : Int32) (err : UInt64) (isw : Int32) (mvs : Int32) (mde : Int32) (exa : Int32) (lst : Int64) (mf : Nat → Int32) (nm : Nat → Int32) (be : Nat → Int32) (fa : Nat → Int32) (cs : Nat → Int32) (fr : Nat → Int32) (ro : Nat → Int32) (ne : Nat → Int32) (p0 : Int32) (p1 : Int32) (p2 : Int32) (tX tY sz F : Nat) (o : Int32 × Int32 × Int32 × Int32 × Int32 × Int32 × Int64 × (Nat → Int32) × (Nat → Int32) × (Nat → Int32) × (Nat → Int32) × (Nat → Int32) × (Nat → Int32) × (Nat → Int32) × (Nat → Int32)) (hJ : J_X5_change F w ht fou ln wd rd kp car gol isw mvs mde exa lst mf nm be fa cs fr ro ne p0 p1 p2 = some o) : Met l yX5_change wsX5_change rmX5_change (va_Pc [.ref aM, .int p0, .int p1, .int p2] (pcW D [(aM, .inr (6, [.int cod, .int w, .int ht, .int fou, .ref aMf, .int ln, .int wd, .int rd, .int kp, .int car, .int hom, .int gol, .int hld, .double err, .int isw, .int mvs, .int mde, .ref aNm, .ref aBe, .int exa, .long lst, .ref aFa, .ref aCs, .ref aFr, .ref aRo, .ref aNe])), (aMf, .inl (cMf, 576, .inl mf)), (aNm, .inl (cNm, 4608, .inl nm)), (aBe, .inl (cBe, 4608, .inl be)), (aFa, .inl (cFa, 4608, .inl fa)), (aCs, .inl (cCs, 4608, .inl cs)), (aFr, .inl (cFr, 4608, .inl fr)), (aRo, .inl (cRo, 4608, .inl ro)), (aNe, .inl (cNe, 576, .inl ne))] [(cMf, .boolean), (cNm, .int), (cBe, .int), (cFa, .int), (cCs, .int), (cFr, .boolean), (cRo, .int), (cNe, .int)] sz tX tY)) (qWi D o.1 [(aM, .inr (6, [.int o.2.1, .int w, .int ht, .int fou, .ref aMf, .int ln, .int wd, .int rd, .int kp, .int car, .int hom, .int gol, .int hld, .double err, .int o.2.2.1, .int o.2.2.2.1, .int o.2.2.2.2.1, .ref aNm, .ref aBe, .int o.2.2.2.2.2.1, .long o.2.2.2.2.2.2.1, .ref aFa, .ref aCs, .ref aFr, .ref aRo, .ref aNe])), (aMf, .inl (cMf, 576, .inl o.2.2.2.2.2.2.2.1)), (aNm, .inl (cNm, 4608, .inl o.2.2.2.2.2.2.2.2.1)), (aBe, .inl (cBe, 4608, .inl o.2.2.2.2.2.2.2.2.2.1)), (aFa, .inl (cFa, 4608, .inl o.2.2.2.2.2.2.2.2.2.2.1)), (aCs, .inl (cCs, 4608, .inl o.2.2.2.2.2.2.2.2.2.2.2.1)), (aFr, .inl (cFr, 4608, .inl o.2.2.2.2.2.2.2.2.2.2.2.2.1)), (aRo, .inl (cRo, 4608, .inl o.2.2.2.2.2.2.2.2.2.2.2.2.2.1)), (aNe, .inl (cNe, 576, .inl o.2.2.2.2.2.2.2.2.2.2.2.2.2.2))] (va_A [(aM, .inr (6, [.int cod, .int w, .int ht, .int fou, .ref aMf, .int ln, .int wd, .int rd, .int kp, .int car, .int hom, .int gol, .int hld, .double err, .int isw, .int mvs, .int mde, .ref aNm, .ref aBe, .int exa, .long lst, .ref aFa, .ref aCs, .ref aFr, .ref aRo, .ref aNe])), (aMf, .inl (cMf, 576, .inl mf)), (aNm, .inl (cNm, 4608, .inl nm)), (aBe, .inl (cBe, 4608, .inl be)), (aFa, .inl (cFa, 4608, .inl fa)), (aCs, .inl (cCs, 4608, .inl cs)), (aFr, .inl (cFr, 4608, .inl fr)), (aRo, .inl (cRo, 4608, .inl ro)), (aNe, .inl (cNe, 576, .inl ne))] sz)) 0 0 (va_A [(aM, .inr (6, [.int cod, .int w, .int ht, .int fou, .ref aMf, .int ln, .int wd, .int rd, .int kp, .int car, .int hom, .int gol, .int hld, .double err, .int isw, .int mvs, .int mde, .ref aNm, .ref aBe, .int exa, .long lst, .ref aFa, .ref aCs, .ref aFr, .ref aRo, .ref aNe])), (aMf, .inl (cMf, 576, .inl mf)), (aNm, .inl (cNm, 4608, .inl nm)), (aBe, .inl (cBe, 4608, .inl be)), (aFa, .inl (cFa, 4608, .inl fa)), (aCs, .inl (cCs, 4608, .inl cs)), (aFr, .inl (cFr, 4608, .inl fr)), (aRo, .inl (cRo, 4608, .inl ro)), (aNe, .inl (cNe, 576, .inl ne))] sz) := by
  refine Met.ofW (cc := cX5_change) (maxL := 8) (ret := (some .int)) (by decide) rfl ?_
  intro p e s m args below meth c s₁ B hml hv
  obtain ⟨rfl, hsz, hP, hK, hD0, hST⟩ := hv
  have hx := B.exec
  have hb := B.bytes
  have hr := B.returns
  have hts := atoms_spec (ws := wsX5_change) B.pre
  have hown : s.vm.findClass RX5 = some m.cls := findClass_of_methodNamed B.named
  have hlocks := B.notSynchronized
  subst hsz
  have hD := hD0.self (sz := s.heap.size)
  generalize hAe : va_A [(aM, .inr (6, [.int cod, .int w, .int ht, .int fou, .ref aMf, .int ln, .int wd, .int rd, .int kp, .int car, .int hom, .int gol, .int hld, .double err, .int isw, .int mvs, .int mde, .ref aNm, .ref aBe, .int exa, .long lst, .ref aFa, .ref aCs, .ref aFr, .ref aRo, .ref aNe])), (aMf, .inl (cMf, 576, .inl mf)), (aNm, .inl (cNm, 4608, .inl nm)), (aBe, .inl (cBe, 4608, .inl be)), (aFa, .inl (cFa, 4608, .inl fa)), (aCs, .inl (cCs, 4608, .inl cs)), (aFr, .inl (cFr, 4608, .inl fr)), (aRo, .inl (cRo, 4608, .inl ro)), (aNe, .inl (cNe, 576, .inl ne))] s.heap.size = A at hD hST ⊢
  have hA : ∀ q : Nat, s.heap.size ≤ q → A q := fun q h => by rw [← hAe]; exact Or.inr h
  have hS : va_S A s.heap s.heap [] := va_S.rf
  have hl := lv_entry ([.ref aM, .int p0, .int p1, .int p2]) (n := 8) (Nat.le_of_ble_eq_true rfl)
  rw [lg_entry_eq]
  generalize (lg_sl ([.ref aM, .int p0, .int p1, .int p2]) ++ List.replicate (8 - (lg_sl ([.ref aM, .int p0, .int p1, .int p2])).length) Slot.unset).toArray = ls at hl ⊢
  have hl : lv_has ls 8 [(0, .ref aM), (1, .int p0), (2, .int p1), (3, .int p2)] := hl
  have iX5 : ∀ w ∈ wsX50, w ∈ wsX5_change := fun w h => List.mem_cons_of_mem _ (List.mem_append_right _ h)
  have k_1 := hts (.fieldLink RX5 58 "ParkWaysModel" "code" "I") (List.mem_of_getElem? (i := 1) rfl)
  have k_2 := hts (.fieldLink RX5 118 "ParkWaysModel" "isWay" "Z") (List.mem_of_getElem? (i := 2) rfl)
  have k_3 := hts (.fieldLink RX5 128 "ParkWaysModel" "car" "I") (List.mem_of_getElem? (i := 3) rfl)
  have k_4 := hts (.fieldLink RX5 140 "ParkWaysModel" "made" "I") (List.mem_of_getElem? (i := 4) rfl)
  have k_5 := hts (.fieldLink RX5 137 "ParkWaysModel" "moves" "I") (List.mem_of_getElem? (i := 5) rfl)
  have k_6 := hts (.fieldLink RX5 27 "ParkWaysModel" "number" "[I") (List.mem_of_getElem? (i := 6) rfl)
  have k_7 := hts (.fieldLink RX5 31 "ParkWaysModel" "behind" "[I") (List.mem_of_getElem? (i := 7) rfl)
  have k_8 := hts (.fieldLink RX5 121 "ParkWaysModel" "lastSteps" "J") (List.mem_of_getElem? (i := 8) rfl)
  have L_44 : ∀ (ycod_8 : Int32) (yisw_9 : Int32) (ymvs_10 : Int32) (ymde_11 : Int32) (yexa_12 : Int32) (ylst_13 : Int64) (ymf_14 : Nat → Int32) (ynm_15 : Nat → Int32) (ybe_16 : Nat → Int32) (yfa_17 : Nat → Int32) (ycs_18 : Nat → Int32) (yfr_19 : Nat → Int32) (yro_20 : Nat → Int32) (yne_21 : Nat → Int32) (kk_96 : Int32 → Int32 → Int32 → Option (Int32 × Int32 × Int32 × Int32 × Int32 × Int32 × Int64 × (Nat → Int32) × (Nat → Int32) × (Nat → Int32) × (Nat → Int32) × (Nat → Int32) × (Nat → Int32) × (Nat → Int32) × (Nat → Int32))) (hkk_96 : ∀ (H : Heap) (locs : List Loc) (x5_5 : Int32) (x6_6 : Int32) (x7_7 : Int32) (ls : Array Slot), kk_96 x5_5 x6_6 x7_7 = some o → va_P D vwCl [(aM, .inr (6, [.int ycod_8, .int w, .int ht, .int fou, .ref aMf, .int ln, .int wd, .int rd, .int kp, .int car, .int hom, .int gol, .int hld, .double err, .int yisw_9, .int ymvs_10, .int ymde_11, .ref aNm, .ref aBe, .int yexa_12, .long ylst_13, .ref aFa, .ref aCs, .ref aFr, .ref aRo, .ref aNe])), (aMf, .inl (cMf, 576, .inl ymf_14)), (aNm, .inl (cNm, 4608, .inl ynm_15)), (aBe, .inl (cBe, 4608, .inl ybe_16)), (aFa, .inl (cFa, 4608, .inl yfa_17)), (aCs, .inl (cCs, 4608, .inl ycs_18)), (aFr, .inl (cFr, 4608, .inl yfr_19)), (aRo, .inl (cRo, 4608, .inl yro_20)), (aNe, .inl (cNe, 576, .inl yne_21))] H → va_D A [(aM, .inr (6, [.int ycod_8, .int w, .int ht, .int fou, .ref aMf, .int ln, .int wd, .int rd, .int kp, .int car, .int hom, .int gol, .int hld, .double err, .int yisw_9, .int ymvs_10, .int ymde_11, .ref aNm, .ref aBe, .int yexa_12, .long ylst_13, .ref aFa, .ref aCs, .ref aFr, .ref aRo, .ref aNe])), (aMf, .inl (cMf, 576, .inl ymf_14)), (aNm, .inl (cNm, 4608, .inl ynm_15)), (aBe, .inl (cBe, 4608, .inl ybe_16)), (aFa, .inl (cFa, 4608, .inl yfa_17)), (aCs, .inl (cCs, 4608, .inl ycs_18)), (aFr, .inl (cFr, 4608, .inl yfr_19)), (aRo, .inl (cRo, 4608, .inl yro_20)), (aNe, .inl (cNe, 576, .inl yne_21))] → va_S A s.heap H locs → lv_has ls 8 [(0, .ref aM), (5, .int x5_5)] → W p l e (headSpec wsX5_change rmX5_change).room s m [.ref aM, .int p0, .int p1, .int p2].toArray below meth c H locs 0 0 (MQ below (qWi D o.1 [(aM, .inr (6, [.int o.2.1, .int w, .int ht, .int fou, .ref aMf, .int ln, .int wd, .int rd, .int kp, .int car, .int hom, .int gol, .int hld, .double err, .int o.2.2.1, .int o.2.2.2.1, .int o.2.2.2.2.1, .ref aNm, .ref aBe, .int o.2.2.2.2.2.1, .long o.2.2.2.2.2.2.1, .ref aFa, .ref aCs, .ref aFr, .ref aRo, .ref aNe])), (aMf, .inl (cMf, 576, .inl o.2.2.2.2.2.2.2.1)), (aNm, .inl (cNm, 4608, .inl o.2.2.2.2.2.2.2.2.1)), (aBe, .inl (cBe, 4608, .inl o.2.2.2.2.2.2.2.2.2.1)), (aFa, .inl (cFa, 4608, .inl o.2.2.2.2.2.2.2.2.2.2.1)), (aCs, .inl (cCs, 4608, .inl o.2.2.2.2.2.2.2.2.2.2.2.1)), (aFr, .inl (cFr, 4608, .inl o.2.2.2.2.2.2.2.2.2.2.2.2.1)), (aRo, .inl (cRo, 4608, .inl o.2.2.2.2.2.2.2.2.2.2.2.2.2.1)), (aNe, .inl (cNe, 576, .inl o.2.2.2.2.2.2.2.2.2.2.2.2.2.2))] A) [.ref aM, .int p0, .int p1, .int p2].toArray s 0 0 A) (F0 m 96 ls [])) (fz : Nat) (H : Heap) (locs : List Loc) (x5_5 : Int32) (x6_6 : Int32) (x7_7 : Int32) (ls : Array Slot), J_X5_change_L44 F w ht fou rd ymvs_10 ynm_15 ybe_16 yfr_19 kk_96 fz x5_5 x6_6 x7_7 = some o → va_P D vwCl [(aM, .inr (6, [.int ycod_8, .int w, .int ht, .int fou, .ref aMf, .int ln, .int wd, .int rd, .int kp, .int car, .int hom, .int gol, .int hld, .double err, .int yisw_9, .int ymvs_10, .int ymde_11, .ref aNm, .ref aBe, .int yexa_12, .long ylst_13, .ref aFa, .ref aCs, .ref aFr, .ref aRo, .ref aNe])), (aMf, .inl (cMf, 576, .inl ymf_14)), (aNm, .inl (cNm, 4608, .inl ynm_15)), (aBe, .inl (cBe, 4608, .inl ybe_16)), (aFa, .inl (cFa, 4608, .inl yfa_17)), (aCs, .inl (cCs, 4608, .inl ycs_18)), (aFr, .inl (cFr, 4608, .inl yfr_19)), (aRo, .inl (cRo, 4608, .inl yro_20)), (aNe, .inl (cNe, 576, .inl yne_21))] H → va_D A [(aM, .inr (6, [.int ycod_8, .int w, .int ht, .int fou, .ref aMf, .int ln, .int wd, .int rd, .int kp, .int car, .int hom, .int gol, .int hld, .double err, .int yisw_9, .int ymvs_10, .int ymde_11, .ref aNm, .ref aBe, .int yexa_12, .long ylst_13, .ref aFa, .ref aCs, .ref aFr, .ref aRo, .ref aNe])), (aMf, .inl (cMf, 576, .inl ymf_14)), (aNm, .inl (cNm, 4608, .inl ynm_15)), (aBe, .inl (cBe, 4608, .inl ybe_16)), (aFa, .inl (cFa, 4608, .inl yfa_17)), (aCs, .inl (cCs, 4608, .inl ycs_18)), (aFr, .inl (cFr, 4608, .inl yfr_19)), (aRo, .inl (cRo, 4608, .inl yro_20)), (aNe, .inl (cNe, 576, .inl yne_21))] → va_S A s.heap H locs → lv_has ls 8 [(0, .ref aM), (5, .int x5_5), (6, .int x6_6), (7, .int x7_7)] → W p l e (headSpec wsX5_change rmX5_change).room s m [.ref aM, .int p0, .int p1, .int p2].toArray below meth c H locs 0 0 (MQ below (qWi D o.1 [(aM, .inr (6, [.int o.2.1, .int w, .int ht, .int fou, .ref aMf, .int ln, .int wd, .int rd, .int kp, .int car, .int hom, .int gol, .int hld, .double err, .int o.2.2.1, .int o.2.2.2.1, .int o.2.2.2.2.1, .ref aNm, .ref aBe, .int o.2.2.2.2.2.1, .long o.2.2.2.2.2.2.1, .ref aFa, .ref aCs, .ref aFr, .ref aRo, .ref aNe])), (aMf, .inl (cMf, 576, .inl o.2.2.2.2.2.2.2.1)), (aNm, .inl (cNm, 4608, .inl o.2.2.2.2.2.2.2.2.1)), (aBe, .inl (cBe, 4608, .inl o.2.2.2.2.2.2.2.2.2.1)), (aFa, .inl (cFa, 4608, .inl o.2.2.2.2.2.2.2.2.2.2.1)), (aCs, .inl (cCs, 4608, .inl o.2.2.2.2.2.2.2.2.2.2.2.1)), (aFr, .inl (cFr, 4608, .inl o.2.2.2.2.2.2.2.2.2.2.2.2.1)), (aRo, .inl (cRo, 4608, .inl o.2.2.2.2.2.2.2.2.2.2.2.2.2.1)), (aNe, .inl (cNe, 576, .inl o.2.2.2.2.2.2.2.2.2.2.2.2.2.2))] A) [.ref aM, .int p0, .int p1, .int p2].toArray s 0 0 A) (F0 m 44 ls []) := by
    intro ycod_8 yisw_9 ymvs_10 ymde_11 yexa_12 ylst_13 ymf_14 ynm_15 ybe_16 yfa_17 ycs_18 yfr_19 yro_20 yne_21 kk_96 hkk_96 fz
    induction fz with
    | zero =>
      intro H locs x5_5 x6_6 x7_7 ls hJ
      rw [J_X5_change_L44] at hJ
      cases hJ
    | succ fz ih =>
      intro H locs x5_5 x6_6 x7_7 ls hJ hP hD hS hl
      rw [J_X5_change_L44] at hJ
      refine lv_iload hx hb dX5_change_44 (lv_at hl 3 rfl) ?_
      refine lv_aload_n hx hb dX5_change_46 rfl (lv_at hl 0 rfl) ?_
      refine va_get (D := D) (ci := 6) (v := .int ymvs_10) (C := RX5) (T := TX5) (N := 26) hx hb hts iX5 hown hK hP 0 rfl rfl 15 (by decide) k_5 (fun _ h9 => h9) rfl dX5_change_47 ?_
      refine lv_icmp_ge (tgt := 96) hx hb dX5_change_50 (by decide) (fun c_22 => ?_) (fun c_22 => ?_)
      · have hJ := j_t c_22 hJ
        exact hkk_96 H locs x5_5 x6_6 x7_7 ls hJ hP hD hS (lv_sub hl [0, 1] rfl)
      · have hJ := j_f c_22 hJ
        refine lv_iload hx hb dX5_change_53 (lv_at hl 1 rfl) ?_
        refine lv_if_eq (tgt := 96) hx hb dX5_change_55 (by decide) (fun c_23 => ?_) (fun c_23 => ?_)
        · have hJ := j_t c_23 hJ
          exact hkk_96 H locs x5_5 x6_6 x7_7 ls hJ hP hD hS (lv_sub hl [0, 1] rfl)
        · have hJ := j_f c_23 hJ
          refine lv_aload_n hx hb dX5_change_58 rfl (lv_at hl 0 rfl) ?_
          refine lv_iload hx hb dX5_change_59 (lv_at hl 2 rfl) ?_
          refine lv_aload_n hx hb dX5_change_61 rfl (lv_at hl 0 rfl) ?_
          refine va_get (D := D) (ci := 6) (v := .ref aNm) (C := RX5) (T := TX5) (N := 26) hx hb hts iX5 hown hK hP 0 rfl rfl 17 (by decide) k_6 (fun _ h9 => h9) rfl dX5_change_62 ?_
          refine lv_iload hx hb dX5_change_65 (lv_at hl 3 rfl) ?_
          obtain ⟨h_24, hJ⟩ := g_in hJ
          refine va_iald hx hb hK hP 2 1 rfl rfl h_24 dX5_change_67 ?_
          obtain ⟨v_25, hv_25, hJ⟩ := j_b hJ
          refine ro_i (va_runV (As := [.int x6_6, .int (ynm_15 x7_7.toNatClampNeg)]) (rest := []) ⟨hx, hb, hml, hown, hts⟩ (c_X5_moved l D aM aMf aNm aBe aFa aCs aFr aRo aNe cMf cNm cBe cFa cCs cFr cRo cNe ycod_8 w ht fou ln wd rd kp car hom gol hld err yisw_9 ymvs_10 ymde_11 yexa_12 ylst_13 ymf_14 ynm_15 ybe_16 yfa_17 ycs_18 yfr_19 yro_20 yne_21 x6_6 (ynm_15 x7_7.toNatClampNeg) tX tY H.size F v_25 hv_25) (cwV 2 hts gX5_change_X5_moved rfl rfl rfl (by decide +kernel) ⟨Nat.le_of_ble_eq_true rfl, Nat.le_of_ble_eq_true rfl⟩) (preRV [.int x6_6, .int (ynm_15 x7_7.toNatClampNeg)] hP hK hS hA hST [0, 1, 2, 3, 4, 5, 6, 7, 8] rfl [0, 1, 2, 3, 4, 5, 6, 7] rfl (ci := 6) (q0 := 0) rfl rfl) rfl rfl hl.1 rfl (lv_room (Nat.le_of_ble_eq_true rfl)) dX5_change_68 ⟨Nat.zero_le _, Nat.zero_le _⟩) hP hS hA (fun H locs hP hS => ?_)
          refine lv_if_lt (tgt := 78) hx hb dX5_change_71 (by decide) (fun c_26 => ?_) (fun c_26 => ?_)
          · have hJ := j_t c_26 hJ
            refine lv_iconst (v := 0) hx hb dX5_change_78 (by decide) ?_
            refine lv_istore (lv' := [(5, .int (0 : Int32)), (0, .ref aM), (6, .int x6_6), (7, .int x7_7)]) hx hb dX5_change_79 hl (by decide) rfl (fun ls hl => ?_)
            refine lv_aload_n hx hb dX5_change_81 rfl (lv_at hl 1 rfl) ?_
            refine va_get (D := D) (ci := 6) (v := .ref aBe) (C := RX5) (T := TX5) (N := 26) hx hb hts iX5 hown hK hP 0 rfl rfl 18 (by decide) k_7 (fun _ h9 => h9) rfl dX5_change_82 ?_
            refine lv_iload hx hb dX5_change_85 (lv_at hl 3 rfl) ?_
            obtain ⟨h_27, hJ⟩ := g_in hJ
            refine va_iald hx hb hK hP 3 2 rfl rfl h_27 dX5_change_87 ?_
            refine lv_istore (lv' := [(6, .int (ybe_16 x7_7.toNatClampNeg)), (5, .int (0 : Int32)), (0, .ref aM), (7, .int x7_7)]) hx hb dX5_change_88 hl (by decide) rfl (fun ls hl => ?_)
            refine lv_iinc (v := (x7_7 + (1 : Int32))) (lv' := [(7, .int (x7_7 + (1 : Int32))), (6, .int (ybe_16 x7_7.toNatClampNeg)), (5, .int (0 : Int32)), (0, .ref aM)]) hx hb dX5_change_90 hl (k := 3) rfl rfl (by decide) rfl (fun ls hl => ?_)
            refine lv_goto (tgt := 44) hx hb dX5_change_93 (by decide) ?_
            exact ih H locs (0 : Int32) (ybe_16 x7_7.toNatClampNeg) (x7_7 + (1 : Int32)) ls hJ hP hD hS (lv_sub hl [3, 2, 1, 0] rfl)
          · have hJ := j_f c_26 hJ
            refine lv_iconst (v := 1) hx hb dX5_change_74 (by decide) ?_
            refine lv_goto (tgt := 79) hx hb dX5_change_75 (by decide) ?_
            refine lv_istore (lv' := [(5, .int (1 : Int32)), (0, .ref aM), (6, .int x6_6), (7, .int x7_7)]) hx hb dX5_change_79 hl (by decide) rfl (fun ls hl => ?_)
            refine lv_aload_n hx hb dX5_change_81 rfl (lv_at hl 1 rfl) ?_
            refine va_get (D := D) (ci := 6) (v := .ref aBe) (C := RX5) (T := TX5) (N := 26) hx hb hts iX5 hown hK hP 0 rfl rfl 18 (by decide) k_7 (fun _ h9 => h9) rfl dX5_change_82 ?_
            refine lv_iload hx hb dX5_change_85 (lv_at hl 3 rfl) ?_
            obtain ⟨h_28, hJ⟩ := g_in hJ
            refine va_iald hx hb hK hP 3 2 rfl rfl h_28 dX5_change_87 ?_
            refine lv_istore (lv' := [(6, .int (ybe_16 x7_7.toNatClampNeg)), (5, .int (1 : Int32)), (0, .ref aM), (7, .int x7_7)]) hx hb dX5_change_88 hl (by decide) rfl (fun ls hl => ?_)
            refine lv_iinc (v := (x7_7 + (1 : Int32))) (lv' := [(7, .int (x7_7 + (1 : Int32))), (6, .int (ybe_16 x7_7.toNatClampNeg)), (5, .int (1 : Int32)), (0, .ref aM)]) hx hb dX5_change_90 hl (k := 3) rfl rfl (by decide) rfl (fun ls hl => ?_)
            refine lv_goto (tgt := 44) hx hb dX5_change_93 (by decide) ?_
            exact ih H locs (1 : Int32) (ybe_16 x7_7.toNatClampNeg) (x7_7 + (1 : Int32)) ls hJ hP hD hS (lv_sub hl [3, 2, 1, 0] rfl)
  unfold J_X5_change at hJ
  refine lv_aload_n hx hb dX5_change_0 rfl (lv_at hl 0 rfl) ?_
  refine lv_iload_n hx hb dX5_change_1 rfl (lv_at hl 1 rfl) ?_
  refine lv_iload_n hx hb dX5_change_2 rfl (lv_at hl 2 rfl) ?_
  refine lv_iload_n hx hb dX5_change_3 rfl (lv_at hl 3 rfl) ?_
  obtain ⟨v_1, hv_1, hJ⟩ := j_b hJ
  refine wr_i (wr := []) (wn := [(aM, .inr (6, [.int v_1.2.1, .int w, .int ht, .int fou, .ref aMf, .int ln, .int wd, .int rd, .int kp, .int car, .int hom, .int gol, .int hld, .double err, .int isw, .int mvs, .int mde, .ref aNm, .ref aBe, .int exa, .long lst, .ref aFa, .ref aCs, .ref aFr, .ref aRo, .ref aNe])), (aMf, .inl (cMf, 576, .inl v_1.2.2)), (aNm, .inl (cNm, 4608, .inl nm)), (aBe, .inl (cBe, 4608, .inl be)), (aFa, .inl (cFa, 4608, .inl fa)), (aCs, .inl (cCs, 4608, .inl cs)), (aFr, .inl (cFr, 4608, .inl fr)), (aRo, .inl (cRo, 4608, .inl ro)), (aNe, .inl (cNe, 576, .inl ne))]) (va_runV (As := [.int p0, .int p1, .int p2]) (rest := []) ⟨hx, hb, hml, hown, hts⟩ (c_X5_set l D aM aMf aNm aBe aFa aCs aFr aRo aNe cMf cNm cBe cFa cCs cFr cRo cNe cod w ht fou ln wd rd kp car hom gol hld err isw mvs mde exa lst mf nm be fa cs fr ro ne p0 p1 p2 tX tY s.heap.size F v_1 hv_1) (cwV 3 hts gX5_change_X5_set rfl rfl rfl (by decide +kernel) ⟨Nat.le_of_ble_eq_true rfl, Nat.le_of_ble_eq_true rfl⟩) (preWV [.int p0, .int p1, .int p2] hP hD hK hS hA hST [0, 1, 2, 3, 4, 5, 6, 7, 8] rfl rfl rfl [0, 1, 2, 3, 4, 5, 6, 7] rfl (ci := 6) (q0 := 0) rfl rfl) rfl rfl hl.1 rfl (lv_room (Nat.le_of_ble_eq_true rfl)) dX5_change_4 ⟨Nat.zero_le _, Nat.zero_le _⟩) hP hD hS hA [0, 1, 2, 3, 4, 5, 6, 7, 8] [] rfl rfl rfl (by decide) [0, 1, 2, 3, 4, 5, 6, 7, 8] rfl rfl rfl (fun H locs hP hD hS => ?_)
  refine lv_istore (lv' := [(4, .int v_1.1), (0, .ref aM), (1, .int p0), (2, .int p1), (3, .int p2)]) hx hb dX5_change_7 hl (by decide) rfl (fun ls hl => ?_)
  refine lv_aload_n hx hb dX5_change_9 rfl (lv_at hl 1 rfl) ?_
  refine va_get (D := D) (ci := 6) (v := .int v_1.2.1) (C := RX5) (T := TX5) (N := 26) hx hb hts iX5 hown hK hP 0 rfl rfl 0 (by decide) k_1 (fun _ h9 => h9) rfl dX5_change_10 ?_
  refine lv_if_gt (tgt := 23) hx hb dX5_change_13 (by decide) (fun c_2 => ?_) (fun c_2 => ?_)
  · have hJ := j_t c_2 hJ
    refine lv_iconst (v := 0) hx hb dX5_change_23 (by decide) ?_
    have ho := Option.some.inj hJ
    exact W.iret (v := (0 : Int32)) hx hb hr (fun t ht hW => ⟨⟨_, (), rfl, (by rw [← ho]), (by rw [ht, ← ho]; exact hP), (by rw [← ho]; exact hD)⟩, hS.F ht⟩) hS.2.2 dX5_change_24
  · have hJ := j_f c_2 hJ
    refine lv_aload_n hx hb dX5_change_16 rfl (lv_at hl 1 rfl) ?_
    refine va_get (D := D) (ci := 6) (v := .int isw) (C := RX5) (T := TX5) (N := 26) hx hb hts iX5 hown hK hP 0 rfl rfl 14 (by decide) k_2 (fun _ h9 => h9) rfl dX5_change_17 ?_
    refine lv_if_ne (tgt := 25) hx hb dX5_change_20 (by decide) (fun c_3 => ?_) (fun c_3 => ?_)
    · have hJ := j_f c_3 hJ
      refine lv_aload_n hx hb dX5_change_25 rfl (lv_at hl 1 rfl) ?_
      obtain ⟨v_4, hv_4, hJ⟩ := j_b hJ
      refine wr_v (wr := []) (wn := [(aM, .inr (6, [.int v_1.2.1, .int w, .int ht, .int fou, .ref aMf, .int ln, .int wd, .int rd, .int kp, .int car, .int hom, .int gol, .int hld, .double err, .int isw, .int mvs, .int mde, .ref aNm, .ref aBe, .int exa, .long lst, .ref aFa, .ref aCs, .ref aFr, .ref aRo, .ref aNe])), (aMf, .inl (cMf, 576, .inl v_1.2.2)), (aNm, .inl (cNm, 4608, .inl nm)), (aBe, .inl (cBe, 4608, .inl be)), (aFa, .inl (cFa, 4608, .inl fa)), (aCs, .inl (cCs, 4608, .inl cs)), (aFr, .inl (cFr, 4608, .inl v_4.1)), (aRo, .inl (cRo, 4608, .inl ro)), (aNe, .inl (cNe, 576, .inl v_4.2))]) (va_runV (As := []) (rest := []) ⟨hx, hb, hml, hown, hts⟩ (c_X5_findFree l D aM aMf aNm aBe aFa aCs aFr aRo aNe cMf cNm cBe cFa cCs cFr cRo cNe v_1.2.1 w ht fou ln wd rd kp car hom gol hld err isw mvs mde exa lst v_1.2.2 nm be fa cs fr ro ne tX tY H.size F v_4 hv_4) (cwV 0 hts gX5_change_X5_findFree rfl rfl rfl (by decide +kernel) ⟨Nat.le_of_ble_eq_true rfl, Nat.le_of_ble_eq_true rfl⟩) (preWV [] hP hD hK hS hA hST [0, 1, 2, 3, 4, 5, 6, 7, 8] rfl rfl rfl [0, 1, 2, 3, 4, 5, 6, 7] rfl (ci := 6) (q0 := 0) rfl rfl) rfl rfl hl.1 rfl (lv_room (Nat.le_of_ble_eq_true rfl)) dX5_change_26 ⟨Nat.zero_le _, Nat.zero_le _⟩) hP hD hS hA [0, 1, 2, 3, 4, 5, 6, 7, 8] [] rfl rfl rfl (by decide) [0, 1, 2, 3, 4, 5, 6, 7, 8] rfl rfl rfl (fun H locs hP hD hS => ?_)
      refine lv_iconst (v := 1) hx hb dX5_change_29 (by decide) ?_
      refine lv_istore (lv' := [(5, .int (1 : Int32)), (4, .int v_1.1), (0, .ref aM), (1, .int p0), (2, .int p1), (3, .int p2)]) hx hb dX5_change_30 hl (by decide) rfl (fun ls hl => ?_)
      refine lv_aload_n hx hb dX5_change_32 rfl (lv_at hl 2 rfl) ?_
      refine va_get (D := D) (ci := 6) (v := .int car) (C := RX5) (T := TX5) (N := 26) hx hb hts iX5 hown hK hP 0 rfl rfl 9 (by decide) k_3 (fun _ h9 => h9) rfl dX5_change_33 ?_
      refine lv_istore (lv' := [(6, .int car), (5, .int (1 : Int32)), (4, .int v_1.1), (0, .ref aM), (1, .int p0), (2, .int p1), (3, .int p2)]) hx hb dX5_change_36 hl (by decide) rfl (fun ls hl => ?_)
      refine lv_aload_n hx hb dX5_change_38 rfl (lv_at hl 3 rfl) ?_
      refine va_get (D := D) (ci := 6) (v := .int mde) (C := RX5) (T := TX5) (N := 26) hx hb hts iX5 hown hK hP 0 rfl rfl 16 (by decide) k_4 (fun _ h9 => h9) rfl dX5_change_39 ?_
      refine lv_istore (lv' := [(7, .int mde), (6, .int car), (5, .int (1 : Int32)), (4, .int v_1.1), (0, .ref aM), (1, .int p0), (2, .int p1), (3, .int p2)]) hx hb dX5_change_42 hl (by decide) rfl (fun ls hl => ?_)
      refine L_44 v_1.2.1 isw mvs mde exa lst v_1.2.2 nm be fa cs v_4.1 ro v_4.2 _ ?_ F H locs (1 : Int32) car mde ls hJ hP hD hS (lv_sub hl [4, 2, 1, 0] rfl)
      · intro H locs x5_29 x6_30 x7_31 ls hJ hP hD hS hl
        refine lv_iload hx hb dX5_change_96 (lv_at hl 1 rfl) ?_
        refine lv_if_eq (tgt := 103) hx hb dX5_change_98 (by decide) (fun c_32 => ?_) (fun c_32 => ?_)
        · have hJ := j_t c_32 hJ
          refine lv_aload_n hx hb dX5_change_103 rfl (lv_at hl 0 rfl) ?_
          refine lv_aload_n hx hb dX5_change_104 rfl (lv_at hl 0 rfl) ?_
          refine va_get (D := D) (ci := 6) (v := .long lst) (C := RX5) (T := TX5) (N := 26) hx hb hts iX5 hown hK hP 0 rfl rfl 20 (by decide) k_8 (fun _ h9 => h9) rfl dX5_change_105 ?_
          obtain ⟨v_33, hv_33, hJ⟩ := j_b hJ
          refine wr_i (wr := []) (wn := [(aM, .inr (6, [.int v_1.2.1, .int w, .int ht, .int fou, .ref aMf, .int ln, .int wd, .int rd, .int kp, .int car, .int hom, .int gol, .int hld, .double err, .int v_33.2.1, .int v_33.2.2.1, .int v_33.2.2.2.1, .ref aNm, .ref aBe, .int v_33.2.2.2.2.1, .long v_33.2.2.2.2.2.1, .ref aFa, .ref aCs, .ref aFr, .ref aRo, .ref aNe])), (aMf, .inl (cMf, 576, .inl v_1.2.2)), (aNm, .inl (cNm, 4608, .inl v_33.2.2.2.2.2.2.1)), (aBe, .inl (cBe, 4608, .inl v_33.2.2.2.2.2.2.2.1)), (aFa, .inl (cFa, 4608, .inl v_33.2.2.2.2.2.2.2.2.1)), (aCs, .inl (cCs, 4608, .inl v_33.2.2.2.2.2.2.2.2.2.1)), (aFr, .inl (cFr, 4608, .inl v_33.2.2.2.2.2.2.2.2.2.2.1)), (aRo, .inl (cRo, 4608, .inl v_33.2.2.2.2.2.2.2.2.2.2.2.1)), (aNe, .inl (cNe, 576, .inl v_33.2.2.2.2.2.2.2.2.2.2.2.2))]) (va_runV (As := [.long lst]) (rest := []) ⟨hx, hb, hml, hown, hts⟩ (c_X5_search l D aM aMf aNm aBe aFa aCs aFr aRo aNe cMf cNm cBe cFa cCs cFr cRo cNe v_1.2.1 w ht fou ln wd rd kp car hom gol hld err isw mvs mde exa lst v_1.2.2 nm be fa cs v_4.1 ro v_4.2 lst tX tY H.size F v_33 hv_33) (cwV 1 hts gX5_change_X5_search rfl rfl rfl (by decide +kernel) ⟨Nat.le_of_ble_eq_true rfl, Nat.le_of_ble_eq_true rfl⟩) (preWV [.long lst] hP hD hK hS hA hST [0, 1, 2, 3, 4, 5, 6, 7, 8] rfl rfl rfl [0, 1, 2, 3, 4, 5, 6, 7] rfl (ci := 6) (q0 := 0) rfl rfl) rfl rfl hl.1 rfl (lv_room (Nat.le_of_ble_eq_true rfl)) dX5_change_108 ⟨Nat.zero_le _, Nat.zero_le _⟩) hP hD hS hA [0, 1, 2, 3, 4, 5, 6, 7, 8] [] rfl rfl rfl (by decide) [0, 1, 2, 3, 4, 5, 6, 7, 8] rfl rfl rfl (fun H locs hP hD hS => ?_)
          refine lv_iconst (v := 1) hx hb dX5_change_111 (by decide) ?_
          refine lv_icmp_ne (tgt := 119) hx hb dX5_change_112 (by decide) (fun c_34 => ?_) (fun c_34 => ?_)
          · have hJ := j_f c_34 hJ
            refine lv_iconst (v := 2) hx hb dX5_change_119 (by decide) ?_
            have ho := Option.some.inj hJ
            exact W.iret (v := (2 : Int32)) hx hb hr (fun t ht hW => ⟨⟨_, (), rfl, (by rw [← ho]), (by rw [ht, ← ho]; exact hP), (by rw [← ho]; exact hD)⟩, hS.F ht⟩) hS.2.2 dX5_change_120
          · have hJ := j_t c_34 hJ
            refine lv_iconst (v := 1) hx hb dX5_change_115 (by decide) ?_
            refine lv_goto (tgt := 120) hx hb dX5_change_116 (by decide) ?_
            have ho := Option.some.inj hJ
            exact W.iret (v := (1 : Int32)) hx hb hr (fun t ht hW => ⟨⟨_, (), rfl, (by rw [← ho]), (by rw [ht, ← ho]; exact hP), (by rw [← ho]; exact hD)⟩, hS.F ht⟩) hS.2.2 dX5_change_120
        · have hJ := j_f c_32 hJ
          refine lv_iconst (v := 0) hx hb dX5_change_101 (by decide) ?_
          have ho := Option.some.inj hJ
          exact W.iret (v := (0 : Int32)) hx hb hr (fun t ht hW => ⟨⟨_, (), rfl, (by rw [← ho]), (by rw [ht, ← ho]; exact hP), (by rw [← ho]; exact hD)⟩, hS.F ht⟩) hS.2.2 dX5_change_102
    · have hJ := j_t c_3 hJ
      refine lv_iconst (v := 0) hx hb dX5_change_23 (by decide) ?_
      have ho := Option.some.inj hJ
      exact W.iret (v := (0 : Int32)) hx hb hr (fun t ht hW => ⟨⟨_, (), rfl, (by rw [← ho]), (by rw [ht, ← ho]; exact hP), (by rw [← ho]; exact hD)⟩, hS.F ht⟩) hS.2.2 dX5_change_24
set_option maxHeartbeats 4000000 in
set_option maxRecDepth 100000 in
theorem c_X5_release (l : Launch) (D : va_G) (aM aMf aNm aBe aFa aCs aFr aRo aNe : Nat) (cMf cNm cBe cFa cCs cFr cRo cNe : ClassId) (cod : Int32) (w : Int32) (ht : Int32) (fou : Int32) (ln : Int32) (wd : Int32) (rd : Int32) (kp : Int32) (car : Int32) (hom : Int32) (gol : Int32) (hld : Int32) (err : UInt64) (isw : Int32) (mvs : Int32) (mde : Int32) (exa : Int32) (lst : Int64) (mf : Nat → Int32) (nm : Nat → Int32) (be : Nat → Int32) (fa : Nat → Int32) (cs : Nat → Int32) (fr : Nat → Int32) (ro : Nat → Int32) (ne : Nat → Int32) (p0 : Int32) (tX tY sz F : Nat) (o : Int32 × Int32 × Int32) (hJ : J_X5_release F hld p0 = some o) : Met l yX5_release wsX5_release rmX5_release (va_Pc [.ref aM, .int p0] (pcW D [(aM, .inr (6, [.int cod, .int w, .int ht, .int fou, .ref aMf, .int ln, .int wd, .int rd, .int kp, .int car, .int hom, .int gol, .int hld, .double err, .int isw, .int mvs, .int mde, .ref aNm, .ref aBe, .int exa, .long lst, .ref aFa, .ref aCs, .ref aFr, .ref aRo, .ref aNe])), (aMf, .inl (cMf, 576, .inl mf)), (aNm, .inl (cNm, 4608, .inl nm)), (aBe, .inl (cBe, 4608, .inl be)), (aFa, .inl (cFa, 4608, .inl fa)), (aCs, .inl (cCs, 4608, .inl cs)), (aFr, .inl (cFr, 4608, .inl fr)), (aRo, .inl (cRo, 4608, .inl ro)), (aNe, .inl (cNe, 576, .inl ne))] [(cMf, .boolean), (cNm, .int), (cBe, .int), (cFa, .int), (cCs, .int), (cFr, .boolean), (cRo, .int), (cNe, .int)] sz tX tY)) (qWi D o.1 [(aM, .inr (6, [.int o.2.1, .int w, .int ht, .int fou, .ref aMf, .int ln, .int wd, .int rd, .int kp, .int car, .int hom, .int gol, .int o.2.2, .double err, .int isw, .int mvs, .int mde, .ref aNm, .ref aBe, .int exa, .long lst, .ref aFa, .ref aCs, .ref aFr, .ref aRo, .ref aNe])), (aMf, .inl (cMf, 576, .inl mf)), (aNm, .inl (cNm, 4608, .inl nm)), (aBe, .inl (cBe, 4608, .inl be)), (aFa, .inl (cFa, 4608, .inl fa)), (aCs, .inl (cCs, 4608, .inl cs)), (aFr, .inl (cFr, 4608, .inl fr)), (aRo, .inl (cRo, 4608, .inl ro)), (aNe, .inl (cNe, 576, .inl ne))] (va_A [(aM, .inr (6, [.int cod, .int w, .int ht, .int fou, .ref aMf, .int ln, .int wd, .int rd, .int kp, .int car, .int hom, .int gol, .int hld, .double err, .int isw, .int mvs, .int mde, .ref aNm, .ref aBe, .int exa, .long lst, .ref aFa, .ref aCs, .ref aFr, .ref aRo, .ref aNe])), (aMf, .inl (cMf, 576, .inl mf)), (aNm, .inl (cNm, 4608, .inl nm)), (aBe, .inl (cBe, 4608, .inl be)), (aFa, .inl (cFa, 4608, .inl fa)), (aCs, .inl (cCs, 4608, .inl cs)), (aFr, .inl (cFr, 4608, .inl fr)), (aRo, .inl (cRo, 4608, .inl ro)), (aNe, .inl (cNe, 576, .inl ne))] sz)) 0 0 (va_A [(aM, .inr (6, [.int cod, .int w, .int ht, .int fou, .ref aMf, .int ln, .int wd, .int rd, .int kp, .int car, .int hom, .int gol, .int hld, .double err, .int isw, .int mvs, .int mde, .ref aNm, .ref aBe, .int exa, .long lst, .ref aFa, .ref aCs, .ref aFr, .ref aRo, .ref aNe])), (aMf, .inl (cMf, 576, .inl mf)), (aNm, .inl (cNm, 4608, .inl nm)), (aBe, .inl (cBe, 4608, .inl be)), (aFa, .inl (cFa, 4608, .inl fa)), (aCs, .inl (cCs, 4608, .inl cs)), (aFr, .inl (cFr, 4608, .inl fr)), (aRo, .inl (cRo, 4608, .inl ro)), (aNe, .inl (cNe, 576, .inl ne))] sz) := by
  refine Met.ofW (cc := cX5_release) (maxL := 3) (ret := (some .int)) (by decide) rfl ?_
  intro p e s m args below meth c s₁ B hml hv
  obtain ⟨rfl, hsz, hP, hK, hD0, hST⟩ := hv
  have hx := B.exec
  have hb := B.bytes
  have hr := B.returns
  have hts := atoms_spec (ws := wsX5_release) B.pre
  have hown : s.vm.findClass RX5 = some m.cls := findClass_of_methodNamed B.named
  have hlocks := B.notSynchronized
  subst hsz
  have hD := hD0.self (sz := s.heap.size)
  generalize hAe : va_A [(aM, .inr (6, [.int cod, .int w, .int ht, .int fou, .ref aMf, .int ln, .int wd, .int rd, .int kp, .int car, .int hom, .int gol, .int hld, .double err, .int isw, .int mvs, .int mde, .ref aNm, .ref aBe, .int exa, .long lst, .ref aFa, .ref aCs, .ref aFr, .ref aRo, .ref aNe])), (aMf, .inl (cMf, 576, .inl mf)), (aNm, .inl (cNm, 4608, .inl nm)), (aBe, .inl (cBe, 4608, .inl be)), (aFa, .inl (cFa, 4608, .inl fa)), (aCs, .inl (cCs, 4608, .inl cs)), (aFr, .inl (cFr, 4608, .inl fr)), (aRo, .inl (cRo, 4608, .inl ro)), (aNe, .inl (cNe, 576, .inl ne))] s.heap.size = A at hD hST ⊢
  have hA : ∀ q : Nat, s.heap.size ≤ q → A q := fun q h => by rw [← hAe]; exact Or.inr h
  have hS : va_S A s.heap s.heap [] := va_S.rf
  have hl := lv_entry ([.ref aM, .int p0]) (n := 3) (Nat.le_of_ble_eq_true rfl)
  rw [lg_entry_eq]
  generalize (lg_sl ([.ref aM, .int p0]) ++ List.replicate (3 - (lg_sl ([.ref aM, .int p0])).length) Slot.unset).toArray = ls at hl ⊢
  have hl : lv_has ls 3 [(0, .ref aM), (1, .int p0)] := hl
  have iX5 : ∀ w ∈ wsX50, w ∈ wsX5_release := fun w h => List.mem_cons_of_mem _ (List.mem_append_right _ h)
  have k_1 := hts (.fieldLink RX5 58 "ParkWaysModel" "code" "I") (List.mem_of_getElem? (i := 1) rfl)
  have k_2 := hts (.fieldLink RX5 23 "ParkWaysModel" "held" "Z") (List.mem_of_getElem? (i := 2) rfl)
  unfold J_X5_release at hJ
  refine lv_aload_n hx hb dX5_release_0 rfl (lv_at hl 0 rfl) ?_
  refine lv_iconst (v := 0) hx hb dX5_release_1 (by decide) ?_
  refine va_put (D := D) (ci := 6) (v := .int (0 : Int32)) (ty := .int) (C := RX5) (T := TX5) (N := 26) hx hb hts iX5 tyX5 tyX5_ok nmX5 hown hK hP hD hS 0 rfl rfl 0 (by decide) k_1 (fun _ h9 => h9) rfl (by decide +kernel) rfl rfl (Nat.le_of_ble_eq_true rfl) dX5_release_2 (fun H locs hP hD hS => ?_)
  have hP : va_P D vwCl [(aM, .inr (6, [.int (0 : Int32), .int w, .int ht, .int fou, .ref aMf, .int ln, .int wd, .int rd, .int kp, .int car, .int hom, .int gol, .int hld, .double err, .int isw, .int mvs, .int mde, .ref aNm, .ref aBe, .int exa, .long lst, .ref aFa, .ref aCs, .ref aFr, .ref aRo, .ref aNe])), (aMf, .inl (cMf, 576, .inl mf)), (aNm, .inl (cNm, 4608, .inl nm)), (aBe, .inl (cBe, 4608, .inl be)), (aFa, .inl (cFa, 4608, .inl fa)), (aCs, .inl (cCs, 4608, .inl cs)), (aFr, .inl (cFr, 4608, .inl fr)), (aRo, .inl (cRo, 4608, .inl ro)), (aNe, .inl (cNe, 576, .inl ne))] H := hP
  have hD : va_D A [(aM, .inr (6, [.int (0 : Int32), .int w, .int ht, .int fou, .ref aMf, .int ln, .int wd, .int rd, .int kp, .int car, .int hom, .int gol, .int hld, .double err, .int isw, .int mvs, .int mde, .ref aNm, .ref aBe, .int exa, .long lst, .ref aFa, .ref aCs, .ref aFr, .ref aRo, .ref aNe])), (aMf, .inl (cMf, 576, .inl mf)), (aNm, .inl (cNm, 4608, .inl nm)), (aBe, .inl (cBe, 4608, .inl be)), (aFa, .inl (cFa, 4608, .inl fa)), (aCs, .inl (cCs, 4608, .inl cs)), (aFr, .inl (cFr, 4608, .inl fr)), (aRo, .inl (cRo, 4608, .inl ro)), (aNe, .inl (cNe, 576, .inl ne))] := hD
  refine lv_aload_n hx hb dX5_release_5 rfl (lv_at hl 0 rfl) ?_
  refine va_get (D := D) (ci := 6) (v := .int hld) (C := RX5) (T := TX5) (N := 26) hx hb hts iX5 hown hK hP 0 rfl rfl 12 (by decide) k_2 (fun _ h9 => h9) rfl dX5_release_6 ?_
  refine lv_iload_n hx hb dX5_release_9 rfl (lv_at hl 1 rfl) ?_
  refine lv_icmp_eq (tgt := 17) hx hb dX5_release_10 (by decide) (fun c_1 => ?_) (fun c_1 => ?_)
  · have hJ := j_t c_1 hJ
    refine lv_iconst (v := 0) hx hb dX5_release_17 (by decide) ?_
    refine lv_istore_n (lv' := [(2, .int (0 : Int32)), (0, .ref aM), (1, .int p0)]) hx hb dX5_release_18 rfl hl (by decide) rfl (fun ls hl => ?_)
    refine lv_aload_n hx hb dX5_release_19 rfl (lv_at hl 1 rfl) ?_
    refine lv_iload_n hx hb dX5_release_20 rfl (lv_at hl 2 rfl) ?_
    obtain ⟨z_2, hJ⟩ := gd_some hJ
    refine va_put (D := D) (ci := 6) (v := .int p0) (ty := .boolean) (C := RX5) (T := TX5) (N := 26) hx hb hts iX5 tyX5 tyX5_ok nmX5 hown hK hP hD hS 0 rfl rfl 12 (by decide) k_2 (fun _ h9 => h9) rfl (by decide +kernel) (isZ_nar z_2) (isZ_fit z_2) (Nat.le_of_ble_eq_true rfl) dX5_release_21 (fun H locs hP hD hS => ?_)
    have hP : va_P D vwCl [(aM, .inr (6, [.int (0 : Int32), .int w, .int ht, .int fou, .ref aMf, .int ln, .int wd, .int rd, .int kp, .int car, .int hom, .int gol, .int p0, .double err, .int isw, .int mvs, .int mde, .ref aNm, .ref aBe, .int exa, .long lst, .ref aFa, .ref aCs, .ref aFr, .ref aRo, .ref aNe])), (aMf, .inl (cMf, 576, .inl mf)), (aNm, .inl (cNm, 4608, .inl nm)), (aBe, .inl (cBe, 4608, .inl be)), (aFa, .inl (cFa, 4608, .inl fa)), (aCs, .inl (cCs, 4608, .inl cs)), (aFr, .inl (cFr, 4608, .inl fr)), (aRo, .inl (cRo, 4608, .inl ro)), (aNe, .inl (cNe, 576, .inl ne))] H := hP
    have hD : va_D A [(aM, .inr (6, [.int (0 : Int32), .int w, .int ht, .int fou, .ref aMf, .int ln, .int wd, .int rd, .int kp, .int car, .int hom, .int gol, .int p0, .double err, .int isw, .int mvs, .int mde, .ref aNm, .ref aBe, .int exa, .long lst, .ref aFa, .ref aCs, .ref aFr, .ref aRo, .ref aNe])), (aMf, .inl (cMf, 576, .inl mf)), (aNm, .inl (cNm, 4608, .inl nm)), (aBe, .inl (cBe, 4608, .inl be)), (aFa, .inl (cFa, 4608, .inl fa)), (aCs, .inl (cCs, 4608, .inl cs)), (aFr, .inl (cFr, 4608, .inl fr)), (aRo, .inl (cRo, 4608, .inl ro)), (aNe, .inl (cNe, 576, .inl ne))] := hD
    refine lv_iload_n hx hb dX5_release_24 rfl (lv_at hl 0 rfl) ?_
    refine lv_if_eq (tgt := 32) hx hb dX5_release_25 (by decide) (fun c_3 => ?_) (fun c_3 => absurd (by decide) c_3)
    refine lv_iconst (v := 0) hx hb dX5_release_32 (by decide) ?_
    have ho := Option.some.inj hJ
    exact W.iret (v := (0 : Int32)) hx hb hr (fun t ht hW => ⟨⟨_, (), rfl, (by rw [← ho]), (by rw [ht, ← ho]; exact hP), (by rw [← ho]; exact hD)⟩, hS.F ht⟩) hS.2.2 dX5_release_33
  · have hJ := j_f c_1 hJ
    refine lv_iconst (v := 1) hx hb dX5_release_13 (by decide) ?_
    refine lv_goto (tgt := 18) hx hb dX5_release_14 (by decide) ?_
    refine lv_istore_n (lv' := [(2, .int (1 : Int32)), (0, .ref aM), (1, .int p0)]) hx hb dX5_release_18 rfl hl (by decide) rfl (fun ls hl => ?_)
    refine lv_aload_n hx hb dX5_release_19 rfl (lv_at hl 1 rfl) ?_
    refine lv_iload_n hx hb dX5_release_20 rfl (lv_at hl 2 rfl) ?_
    obtain ⟨z_4, hJ⟩ := gd_some hJ
    refine va_put (D := D) (ci := 6) (v := .int p0) (ty := .boolean) (C := RX5) (T := TX5) (N := 26) hx hb hts iX5 tyX5 tyX5_ok nmX5 hown hK hP hD hS 0 rfl rfl 12 (by decide) k_2 (fun _ h9 => h9) rfl (by decide +kernel) (isZ_nar z_4) (isZ_fit z_4) (Nat.le_of_ble_eq_true rfl) dX5_release_21 (fun H locs hP hD hS => ?_)
    have hP : va_P D vwCl [(aM, .inr (6, [.int (0 : Int32), .int w, .int ht, .int fou, .ref aMf, .int ln, .int wd, .int rd, .int kp, .int car, .int hom, .int gol, .int p0, .double err, .int isw, .int mvs, .int mde, .ref aNm, .ref aBe, .int exa, .long lst, .ref aFa, .ref aCs, .ref aFr, .ref aRo, .ref aNe])), (aMf, .inl (cMf, 576, .inl mf)), (aNm, .inl (cNm, 4608, .inl nm)), (aBe, .inl (cBe, 4608, .inl be)), (aFa, .inl (cFa, 4608, .inl fa)), (aCs, .inl (cCs, 4608, .inl cs)), (aFr, .inl (cFr, 4608, .inl fr)), (aRo, .inl (cRo, 4608, .inl ro)), (aNe, .inl (cNe, 576, .inl ne))] H := hP
    have hD : va_D A [(aM, .inr (6, [.int (0 : Int32), .int w, .int ht, .int fou, .ref aMf, .int ln, .int wd, .int rd, .int kp, .int car, .int hom, .int gol, .int p0, .double err, .int isw, .int mvs, .int mde, .ref aNm, .ref aBe, .int exa, .long lst, .ref aFa, .ref aCs, .ref aFr, .ref aRo, .ref aNe])), (aMf, .inl (cMf, 576, .inl mf)), (aNm, .inl (cNm, 4608, .inl nm)), (aBe, .inl (cBe, 4608, .inl be)), (aFa, .inl (cFa, 4608, .inl fa)), (aCs, .inl (cCs, 4608, .inl cs)), (aFr, .inl (cFr, 4608, .inl fr)), (aRo, .inl (cRo, 4608, .inl ro)), (aNe, .inl (cNe, 576, .inl ne))] := hD
    refine lv_iload_n hx hb dX5_release_24 rfl (lv_at hl 0 rfl) ?_
    refine lv_if_eq (tgt := 32) hx hb dX5_release_25 (by decide) (fun c_5 => absurd c_5 (by decide)) (fun c_5 => ?_)
    refine lv_iconst (v := 1) hx hb dX5_release_28 (by decide) ?_
    refine lv_goto (tgt := 33) hx hb dX5_release_29 (by decide) ?_
    have ho := Option.some.inj hJ
    exact W.iret (v := (1 : Int32)) hx hb hr (fun t ht hW => ⟨⟨_, (), rfl, (by rw [← ho]), (by rw [ht, ← ho]; exact hP), (by rw [← ho]; exact hD)⟩, hS.F ht⟩) hS.2.2 dX5_release_33
set_option maxHeartbeats 4000000 in
set_option maxRecDepth 100000 in
theorem c_X5_margin (l : Launch) (D : va_G) (aM aMf aNm aBe aFa aCs aFr aRo aNe : Nat) (cMf cNm cBe cFa cCs cFr cRo cNe : ClassId) (cod : Int32) (w : Int32) (ht : Int32) (fou : Int32) (ln : Int32) (wd : Int32) (rd : Int32) (kp : Int32) (car : Int32) (hom : Int32) (gol : Int32) (hld : Int32) (err : UInt64) (isw : Int32) (mvs : Int32) (mde : Int32) (exa : Int32) (lst : Int64) (mf : Nat → Int32) (nm : Nat → Int32) (be : Nat → Int32) (fa : Nat → Int32) (cs : Nat → Int32) (fr : Nat → Int32) (ro : Nat → Int32) (ne : Nat → Int32) (p0 : Int32) (tX tY sz F : Nat) (o : Int32 × Int32 × (Nat → Int32)) (hJ : J_X5_margin F w ht ln wd isw mvs mf be ne p0 = some o) : Met l yX5_margin wsX5_margin rmX5_margin (va_Pc [.ref aM, .int p0] (pcW D [(aM, .inr (6, [.int cod, .int w, .int ht, .int fou, .ref aMf, .int ln, .int wd, .int rd, .int kp, .int car, .int hom, .int gol, .int hld, .double err, .int isw, .int mvs, .int mde, .ref aNm, .ref aBe, .int exa, .long lst, .ref aFa, .ref aCs, .ref aFr, .ref aRo, .ref aNe])), (aMf, .inl (cMf, 576, .inl mf)), (aNm, .inl (cNm, 4608, .inl nm)), (aBe, .inl (cBe, 4608, .inl be)), (aFa, .inl (cFa, 4608, .inl fa)), (aCs, .inl (cCs, 4608, .inl cs)), (aFr, .inl (cFr, 4608, .inl fr)), (aRo, .inl (cRo, 4608, .inl ro)), (aNe, .inl (cNe, 576, .inl ne))] [(cMf, .boolean), (cNm, .int), (cBe, .int), (cFa, .int), (cCs, .int), (cFr, .boolean), (cRo, .int), (cNe, .int)] sz tX tY)) (qWi D o.1 [(aM, .inr (6, [.int o.2.1, .int w, .int ht, .int fou, .ref aMf, .int ln, .int wd, .int rd, .int kp, .int car, .int hom, .int gol, .int hld, .double err, .int isw, .int mvs, .int mde, .ref aNm, .ref aBe, .int exa, .long lst, .ref aFa, .ref aCs, .ref aFr, .ref aRo, .ref aNe])), (aMf, .inl (cMf, 576, .inl mf)), (aNm, .inl (cNm, 4608, .inl nm)), (aBe, .inl (cBe, 4608, .inl be)), (aFa, .inl (cFa, 4608, .inl fa)), (aCs, .inl (cCs, 4608, .inl cs)), (aFr, .inl (cFr, 4608, .inl fr)), (aRo, .inl (cRo, 4608, .inl ro)), (aNe, .inl (cNe, 576, .inl o.2.2))] (va_A [(aM, .inr (6, [.int cod, .int w, .int ht, .int fou, .ref aMf, .int ln, .int wd, .int rd, .int kp, .int car, .int hom, .int gol, .int hld, .double err, .int isw, .int mvs, .int mde, .ref aNm, .ref aBe, .int exa, .long lst, .ref aFa, .ref aCs, .ref aFr, .ref aRo, .ref aNe])), (aMf, .inl (cMf, 576, .inl mf)), (aNm, .inl (cNm, 4608, .inl nm)), (aBe, .inl (cBe, 4608, .inl be)), (aFa, .inl (cFa, 4608, .inl fa)), (aCs, .inl (cCs, 4608, .inl cs)), (aFr, .inl (cFr, 4608, .inl fr)), (aRo, .inl (cRo, 4608, .inl ro)), (aNe, .inl (cNe, 576, .inl ne))] sz)) 0 0 (va_A [(aM, .inr (6, [.int cod, .int w, .int ht, .int fou, .ref aMf, .int ln, .int wd, .int rd, .int kp, .int car, .int hom, .int gol, .int hld, .double err, .int isw, .int mvs, .int mde, .ref aNm, .ref aBe, .int exa, .long lst, .ref aFa, .ref aCs, .ref aFr, .ref aRo, .ref aNe])), (aMf, .inl (cMf, 576, .inl mf)), (aNm, .inl (cNm, 4608, .inl nm)), (aBe, .inl (cBe, 4608, .inl be)), (aFa, .inl (cFa, 4608, .inl fa)), (aCs, .inl (cCs, 4608, .inl cs)), (aFr, .inl (cFr, 4608, .inl fr)), (aRo, .inl (cRo, 4608, .inl ro)), (aNe, .inl (cNe, 576, .inl ne))] sz) := by
  refine Met.ofW (cc := cX5_margin) (maxL := 3) (ret := (some .int)) (by decide) rfl ?_
  intro p e s m args below meth c s₁ B hml hv
  obtain ⟨rfl, hsz, hP, hK, hD0, hST⟩ := hv
  have hx := B.exec
  have hb := B.bytes
  have hr := B.returns
  have hts := atoms_spec (ws := wsX5_margin) B.pre
  have hown : s.vm.findClass RX5 = some m.cls := findClass_of_methodNamed B.named
  have hlocks := B.notSynchronized
  subst hsz
  have hD := hD0.self (sz := s.heap.size)
  generalize hAe : va_A [(aM, .inr (6, [.int cod, .int w, .int ht, .int fou, .ref aMf, .int ln, .int wd, .int rd, .int kp, .int car, .int hom, .int gol, .int hld, .double err, .int isw, .int mvs, .int mde, .ref aNm, .ref aBe, .int exa, .long lst, .ref aFa, .ref aCs, .ref aFr, .ref aRo, .ref aNe])), (aMf, .inl (cMf, 576, .inl mf)), (aNm, .inl (cNm, 4608, .inl nm)), (aBe, .inl (cBe, 4608, .inl be)), (aFa, .inl (cFa, 4608, .inl fa)), (aCs, .inl (cCs, 4608, .inl cs)), (aFr, .inl (cFr, 4608, .inl fr)), (aRo, .inl (cRo, 4608, .inl ro)), (aNe, .inl (cNe, 576, .inl ne))] s.heap.size = A at hD hST ⊢
  have hA : ∀ q : Nat, s.heap.size ≤ q → A q := fun q h => by rw [← hAe]; exact Or.inr h
  have hS : va_S A s.heap s.heap [] := va_S.rf
  have hl := lv_entry ([.ref aM, .int p0]) (n := 3) (Nat.le_of_ble_eq_true rfl)
  rw [lg_entry_eq]
  generalize (lg_sl ([.ref aM, .int p0]) ++ List.replicate (3 - (lg_sl ([.ref aM, .int p0])).length) Slot.unset).toArray = ls at hl ⊢
  have hl : lv_has ls 3 [(0, .ref aM), (1, .int p0)] := hl
  have iX5 : ∀ w ∈ wsX50, w ∈ wsX5_margin := fun w h => List.mem_cons_of_mem _ (List.mem_append_right _ h)
  have k_1 := hts (.fieldLink RX5 58 "ParkWaysModel" "code" "I") (List.mem_of_getElem? (i := 1) rfl)
  have k_2 := hts (.fieldLink RX5 118 "ParkWaysModel" "isWay" "Z") (List.mem_of_getElem? (i := 2) rfl)
  have k_3 := hts (.fieldLink RX5 137 "ParkWaysModel" "moves" "I") (List.mem_of_getElem? (i := 3) rfl)
  have k_4 := hts (.fieldLink RX5 31 "ParkWaysModel" "behind" "[I") (List.mem_of_getElem? (i := 4) rfl)
  unfold J_X5_margin at hJ
  refine lv_aload_n hx hb dX5_margin_0 rfl (lv_at hl 0 rfl) ?_
  refine lv_iconst (v := 0) hx hb dX5_margin_1 (by decide) ?_
  refine va_put (D := D) (ci := 6) (v := .int (0 : Int32)) (ty := .int) (C := RX5) (T := TX5) (N := 26) hx hb hts iX5 tyX5 tyX5_ok nmX5 hown hK hP hD hS 0 rfl rfl 0 (by decide) k_1 (fun _ h9 => h9) rfl (by decide +kernel) rfl rfl (Nat.le_of_ble_eq_true rfl) dX5_margin_2 (fun H locs hP hD hS => ?_)
  have hP : va_P D vwCl [(aM, .inr (6, [.int (0 : Int32), .int w, .int ht, .int fou, .ref aMf, .int ln, .int wd, .int rd, .int kp, .int car, .int hom, .int gol, .int hld, .double err, .int isw, .int mvs, .int mde, .ref aNm, .ref aBe, .int exa, .long lst, .ref aFa, .ref aCs, .ref aFr, .ref aRo, .ref aNe])), (aMf, .inl (cMf, 576, .inl mf)), (aNm, .inl (cNm, 4608, .inl nm)), (aBe, .inl (cBe, 4608, .inl be)), (aFa, .inl (cFa, 4608, .inl fa)), (aCs, .inl (cCs, 4608, .inl cs)), (aFr, .inl (cFr, 4608, .inl fr)), (aRo, .inl (cRo, 4608, .inl ro)), (aNe, .inl (cNe, 576, .inl ne))] H := hP
  have hD : va_D A [(aM, .inr (6, [.int (0 : Int32), .int w, .int ht, .int fou, .ref aMf, .int ln, .int wd, .int rd, .int kp, .int car, .int hom, .int gol, .int hld, .double err, .int isw, .int mvs, .int mde, .ref aNm, .ref aBe, .int exa, .long lst, .ref aFa, .ref aCs, .ref aFr, .ref aRo, .ref aNe])), (aMf, .inl (cMf, 576, .inl mf)), (aNm, .inl (cNm, 4608, .inl nm)), (aBe, .inl (cBe, 4608, .inl be)), (aFa, .inl (cFa, 4608, .inl fa)), (aCs, .inl (cCs, 4608, .inl cs)), (aFr, .inl (cFr, 4608, .inl fr)), (aRo, .inl (cRo, 4608, .inl ro)), (aNe, .inl (cNe, 576, .inl ne))] := hD
  refine lv_aload_n hx hb dX5_margin_5 rfl (lv_at hl 0 rfl) ?_
  refine va_get (D := D) (ci := 6) (v := .int isw) (C := RX5) (T := TX5) (N := 26) hx hb hts iX5 hown hK hP 0 rfl rfl 14 (by decide) k_2 (fun _ h9 => h9) rfl dX5_margin_6 ?_
  refine lv_if_eq (tgt := 24) hx hb dX5_margin_9 (by decide) (fun c_1 => ?_) (fun c_1 => ?_)
  · have hJ := j_t c_1 hJ
    refine lv_iconst (v := (-1)) hx hb dX5_margin_24 (by decide) ?_
    have ho := Option.some.inj hJ
    exact W.iret (v := (-1 : Int32)) hx hb hr (fun t ht hW => ⟨⟨_, (), rfl, (by rw [← ho]), (by rw [ht, ← ho]; exact hP), (by rw [← ho]; exact hD)⟩, hS.F ht⟩) hS.2.2 dX5_margin_25
  · have hJ := j_f c_1 hJ
    refine lv_iload_n hx hb dX5_margin_12 rfl (lv_at hl 1 rfl) ?_
    refine lv_if_lt (tgt := 24) hx hb dX5_margin_13 (by decide) (fun c_2 => ?_) (fun c_2 => ?_)
    · have hJ := j_t c_2 hJ
      refine lv_iconst (v := (-1)) hx hb dX5_margin_24 (by decide) ?_
      have ho := Option.some.inj hJ
      exact W.iret (v := (-1 : Int32)) hx hb hr (fun t ht hW => ⟨⟨_, (), rfl, (by rw [← ho]), (by rw [ht, ← ho]; exact hP), (by rw [← ho]; exact hD)⟩, hS.F ht⟩) hS.2.2 dX5_margin_25
    · have hJ := j_f c_2 hJ
      refine lv_iload_n hx hb dX5_margin_16 rfl (lv_at hl 1 rfl) ?_
      refine lv_aload_n hx hb dX5_margin_17 rfl (lv_at hl 0 rfl) ?_
      refine va_get (D := D) (ci := 6) (v := .int mvs) (C := RX5) (T := TX5) (N := 26) hx hb hts iX5 hown hK hP 0 rfl rfl 15 (by decide) k_3 (fun _ h9 => h9) rfl dX5_margin_18 ?_
      refine lv_icmp_lt (tgt := 26) hx hb dX5_margin_21 (by decide) (fun c_3 => ?_) (fun c_3 => ?_)
      · have hJ := j_t c_3 hJ
        refine lv_aload_n hx hb dX5_margin_26 rfl (lv_at hl 0 rfl) ?_
        refine va_get (D := D) (ci := 6) (v := .ref aBe) (C := RX5) (T := TX5) (N := 26) hx hb hts iX5 hown hK hP 0 rfl rfl 18 (by decide) k_4 (fun _ h9 => h9) rfl dX5_margin_27 ?_
        refine lv_iload_n hx hb dX5_margin_30 rfl (lv_at hl 1 rfl) ?_
        obtain ⟨h_4, hJ⟩ := g_in hJ
        refine va_iald hx hb hK hP 3 2 rfl rfl h_4 dX5_margin_31 ?_
        refine lv_istore_n (lv' := [(2, .int (be p0.toNatClampNeg)), (0, .ref aM), (1, .int p0)]) hx hb dX5_margin_32 rfl hl (by decide) rfl (fun ls hl => ?_)
        refine lv_aload_n hx hb dX5_margin_33 rfl (lv_at hl 1 rfl) ?_
        obtain ⟨v_5, hv_5, hJ⟩ := j_b hJ
        refine wr_v (wr := []) (wn := [(aM, .inr (6, [.int (0 : Int32), .int w, .int ht, .int fou, .ref aMf, .int ln, .int wd, .int rd, .int kp, .int car, .int hom, .int gol, .int hld, .double err, .int isw, .int mvs, .int mde, .ref aNm, .ref aBe, .int exa, .long lst, .ref aFa, .ref aCs, .ref aFr, .ref aRo, .ref aNe])), (aMf, .inl (cMf, 576, .inl mf)), (aNm, .inl (cNm, 4608, .inl nm)), (aBe, .inl (cBe, 4608, .inl be)), (aFa, .inl (cFa, 4608, .inl fa)), (aCs, .inl (cCs, 4608, .inl cs)), (aFr, .inl (cFr, 4608, .inl fr)), (aRo, .inl (cRo, 4608, .inl ro)), (aNe, .inl (cNe, 576, .inl v_5))]) (va_runV (As := []) (rest := []) ⟨hx, hb, hml, hown, hts⟩ (c_X5_findNear l D aM aMf aNm aBe aFa aCs aFr aRo aNe cMf cNm cBe cFa cCs cFr cRo cNe (0 : Int32) w ht fou ln wd rd kp car hom gol hld err isw mvs mde exa lst mf nm be fa cs fr ro ne tX tY H.size F v_5 hv_5) (cwV 0 hts gX5_margin_X5_findNear rfl rfl rfl (by decide +kernel) ⟨Nat.le_of_ble_eq_true rfl, Nat.le_of_ble_eq_true rfl⟩) (preWV [] hP hD hK hS hA hST [0, 1, 2, 3, 4, 5, 6, 7, 8] rfl rfl rfl [0, 1, 2, 3, 4, 5, 6, 7] rfl (ci := 6) (q0 := 0) rfl rfl) rfl rfl hl.1 rfl (lv_room (Nat.le_of_ble_eq_true rfl)) dX5_margin_34 ⟨Nat.zero_le _, Nat.zero_le _⟩) hP hD hS hA [0, 1, 2, 3, 4, 5, 6, 7, 8] [] rfl rfl rfl (by decide) [0, 1, 2, 3, 4, 5, 6, 7, 8] rfl rfl rfl (fun H locs hP hD hS => ?_)
        refine lv_aload_n hx hb dX5_margin_37 rfl (lv_at hl 1 rfl) ?_
        refine lv_iload_n hx hb dX5_margin_38 rfl (lv_at hl 0 rfl) ?_
        obtain ⟨v_6, hv_6, hJ⟩ := j_b hJ
        refine ro_i (va_runS (As := [.int (be p0.toNatClampNeg)]) (rest := [.ref aM]) ⟨hx, hb, hml, hown, hts⟩ (c_X5_xOf l D (be p0.toNatClampNeg) tX tY H.size F v_6 hv_6) (va_cwS 1 hts gX5_margin_X5_xOf rfl rfl rfl (by decide +kernel) ⟨Nat.le_of_ble_eq_true rfl, Nat.le_of_ble_eq_true rfl⟩) (preRS [.int (be p0.toNatClampNeg)] hP hK hS hA hST [] rfl [] rfl) rfl rfl hl.1 rfl (lv_room (Nat.le_of_ble_eq_true rfl)) dX5_margin_39 ⟨Nat.zero_le _, Nat.zero_le _⟩) hP hS hA (fun H locs hP hS => ?_)
        refine lv_iload_n hx hb dX5_margin_42 rfl (lv_at hl 0 rfl) ?_
        obtain ⟨v_7, hv_7, hJ⟩ := j_b hJ
        refine ro_i (va_runS (As := [.int (be p0.toNatClampNeg)]) (rest := [.int v_6, .ref aM]) ⟨hx, hb, hml, hown, hts⟩ (c_X5_yOf l D (be p0.toNatClampNeg) tX tY H.size F v_7 hv_7) (va_cwS 1 hts gX5_margin_X5_yOf rfl rfl rfl (by decide +kernel) ⟨Nat.le_of_ble_eq_true rfl, Nat.le_of_ble_eq_true rfl⟩) (preRS [.int (be p0.toNatClampNeg)] hP hK hS hA hST [] rfl [] rfl) rfl rfl hl.1 rfl (lv_room (Nat.le_of_ble_eq_true rfl)) dX5_margin_43 ⟨Nat.zero_le _, Nat.zero_le _⟩) hP hS hA (fun H locs hP hS => ?_)
        refine lv_iload_n hx hb dX5_margin_46 rfl (lv_at hl 0 rfl) ?_
        refine lv_bipush (v := 8) hx hb dX5_margin_47 (by decide) ?_
        refine lv_irem hx hb dX5_margin_49 (by decide) ?_
        obtain ⟨v_8, hv_8, hJ⟩ := j_b hJ
        refine ro_i (va_runV (As := [.int v_6, .int v_7, .int ((be p0.toNatClampNeg) - (be p0.toNatClampNeg) / (8 : Int32) * (8 : Int32))]) (rest := []) ⟨hx, hb, hml, hown, hts⟩ (c_X5_clear l D aM aMf aNm aBe aFa aCs aFr aRo aNe cMf cNm cBe cFa cCs cFr cRo cNe (0 : Int32) w ht fou ln wd rd kp car hom gol hld err isw mvs mde exa lst mf nm be fa cs fr ro v_5 v_6 v_7 ((be p0.toNatClampNeg) - (be p0.toNatClampNeg) / (8 : Int32) * (8 : Int32)) tX tY H.size F v_8 hv_8) (cwV 3 hts gX5_margin_X5_clear rfl rfl rfl (by decide +kernel) ⟨Nat.le_of_ble_eq_true rfl, Nat.le_of_ble_eq_true rfl⟩) (preRV [.int v_6, .int v_7, .int ((be p0.toNatClampNeg) - (be p0.toNatClampNeg) / (8 : Int32) * (8 : Int32))] hP hK hS hA hST [0, 1, 2, 3, 4, 5, 6, 7, 8] rfl [0, 1, 2, 3, 4, 5, 6, 7] rfl (ci := 6) (q0 := 0) rfl rfl) rfl rfl hl.1 rfl (lv_room (Nat.le_of_ble_eq_true rfl)) dX5_margin_50 ⟨Nat.zero_le _, Nat.zero_le _⟩) hP hS hA (fun H locs hP hS => ?_)
        have ho := Option.some.inj hJ
        exact W.iret (v := v_8) hx hb hr (fun t ht hW => ⟨⟨_, (), rfl, (by rw [← ho]), (by rw [ht, ← ho]; exact hP), (by rw [← ho]; exact hD)⟩, hS.F ht⟩) hS.2.2 dX5_margin_53
      · have hJ := j_f c_3 hJ
        refine lv_iconst (v := (-1)) hx hb dX5_margin_24 (by decide) ?_
        have ho := Option.some.inj hJ
        exact W.iret (v := (-1 : Int32)) hx hb hr (fun t ht hW => ⟨⟨_, (), rfl, (by rw [← ho]), (by rw [ht, ← ho]; exact hP), (by rw [← ho]; exact hD)⟩, hS.F ht⟩) hS.2.2 dX5_margin_25
set_option maxHeartbeats 4000000 in
set_option maxRecDepth 100000 in
theorem c_X5_heading (l : Launch) (D : va_G) (aM aMf aNm aBe aFa aCs aFr aRo aNe : Nat) (cMf cNm cBe cFa cCs cFr cRo cNe : ClassId) (cod : Int32) (w : Int32) (ht : Int32) (fou : Int32) (ln : Int32) (wd : Int32) (rd : Int32) (kp : Int32) (car : Int32) (hom : Int32) (gol : Int32) (hld : Int32) (err : UInt64) (isw : Int32) (mvs : Int32) (mde : Int32) (exa : Int32) (lst : Int64) (mf : Nat → Int32) (nm : Nat → Int32) (be : Nat → Int32) (fa : Nat → Int32) (cs : Nat → Int32) (fr : Nat → Int32) (ro : Nat → Int32) (ne : Nat → Int32) (p0 : Int32) (tX tY sz F : Nat) (o : Int32 × Int32) (hJ : J_X5_heading F p0 = some o) : Met l yX5_heading wsX5_heading rmX5_heading (va_Pc [.ref aM, .int p0] (pcW D [(aM, .inr (6, [.int cod, .int w, .int ht, .int fou, .ref aMf, .int ln, .int wd, .int rd, .int kp, .int car, .int hom, .int gol, .int hld, .double err, .int isw, .int mvs, .int mde, .ref aNm, .ref aBe, .int exa, .long lst, .ref aFa, .ref aCs, .ref aFr, .ref aRo, .ref aNe])), (aMf, .inl (cMf, 576, .inl mf)), (aNm, .inl (cNm, 4608, .inl nm)), (aBe, .inl (cBe, 4608, .inl be)), (aFa, .inl (cFa, 4608, .inl fa)), (aCs, .inl (cCs, 4608, .inl cs)), (aFr, .inl (cFr, 4608, .inl fr)), (aRo, .inl (cRo, 4608, .inl ro)), (aNe, .inl (cNe, 576, .inl ne))] [(cMf, .boolean), (cNm, .int), (cBe, .int), (cFa, .int), (cCs, .int), (cFr, .boolean), (cRo, .int), (cNe, .int)] sz tX tY)) (qWi D o.1 [(aM, .inr (6, [.int o.2, .int w, .int ht, .int fou, .ref aMf, .int ln, .int wd, .int rd, .int kp, .int car, .int hom, .int gol, .int hld, .double err, .int isw, .int mvs, .int mde, .ref aNm, .ref aBe, .int exa, .long lst, .ref aFa, .ref aCs, .ref aFr, .ref aRo, .ref aNe])), (aMf, .inl (cMf, 576, .inl mf)), (aNm, .inl (cNm, 4608, .inl nm)), (aBe, .inl (cBe, 4608, .inl be)), (aFa, .inl (cFa, 4608, .inl fa)), (aCs, .inl (cCs, 4608, .inl cs)), (aFr, .inl (cFr, 4608, .inl fr)), (aRo, .inl (cRo, 4608, .inl ro)), (aNe, .inl (cNe, 576, .inl ne))] (va_A [(aM, .inr (6, [.int cod, .int w, .int ht, .int fou, .ref aMf, .int ln, .int wd, .int rd, .int kp, .int car, .int hom, .int gol, .int hld, .double err, .int isw, .int mvs, .int mde, .ref aNm, .ref aBe, .int exa, .long lst, .ref aFa, .ref aCs, .ref aFr, .ref aRo, .ref aNe])), (aMf, .inl (cMf, 576, .inl mf)), (aNm, .inl (cNm, 4608, .inl nm)), (aBe, .inl (cBe, 4608, .inl be)), (aFa, .inl (cFa, 4608, .inl fa)), (aCs, .inl (cCs, 4608, .inl cs)), (aFr, .inl (cFr, 4608, .inl fr)), (aRo, .inl (cRo, 4608, .inl ro)), (aNe, .inl (cNe, 576, .inl ne))] sz)) 0 0 (va_A [(aM, .inr (6, [.int cod, .int w, .int ht, .int fou, .ref aMf, .int ln, .int wd, .int rd, .int kp, .int car, .int hom, .int gol, .int hld, .double err, .int isw, .int mvs, .int mde, .ref aNm, .ref aBe, .int exa, .long lst, .ref aFa, .ref aCs, .ref aFr, .ref aRo, .ref aNe])), (aMf, .inl (cMf, 576, .inl mf)), (aNm, .inl (cNm, 4608, .inl nm)), (aBe, .inl (cBe, 4608, .inl be)), (aFa, .inl (cFa, 4608, .inl fa)), (aCs, .inl (cCs, 4608, .inl cs)), (aFr, .inl (cFr, 4608, .inl fr)), (aRo, .inl (cRo, 4608, .inl ro)), (aNe, .inl (cNe, 576, .inl ne))] sz) := by
  refine Met.ofW (cc := cX5_heading) (maxL := 2) (ret := (some .int)) (by decide) rfl ?_
  intro p e s m args below meth c s₁ B hml hv
  obtain ⟨rfl, hsz, hP, hK, hD0, hST⟩ := hv
  have hx := B.exec
  have hb := B.bytes
  have hr := B.returns
  have hts := atoms_spec (ws := wsX5_heading) B.pre
  have hown : s.vm.findClass RX5 = some m.cls := findClass_of_methodNamed B.named
  have hlocks := B.notSynchronized
  subst hsz
  have hD := hD0.self (sz := s.heap.size)
  generalize hAe : va_A [(aM, .inr (6, [.int cod, .int w, .int ht, .int fou, .ref aMf, .int ln, .int wd, .int rd, .int kp, .int car, .int hom, .int gol, .int hld, .double err, .int isw, .int mvs, .int mde, .ref aNm, .ref aBe, .int exa, .long lst, .ref aFa, .ref aCs, .ref aFr, .ref aRo, .ref aNe])), (aMf, .inl (cMf, 576, .inl mf)), (aNm, .inl (cNm, 4608, .inl nm)), (aBe, .inl (cBe, 4608, .inl be)), (aFa, .inl (cFa, 4608, .inl fa)), (aCs, .inl (cCs, 4608, .inl cs)), (aFr, .inl (cFr, 4608, .inl fr)), (aRo, .inl (cRo, 4608, .inl ro)), (aNe, .inl (cNe, 576, .inl ne))] s.heap.size = A at hD hST ⊢
  have hA : ∀ q : Nat, s.heap.size ≤ q → A q := fun q h => by rw [← hAe]; exact Or.inr h
  have hS : va_S A s.heap s.heap [] := va_S.rf
  have hl := lv_entry ([.ref aM, .int p0]) (n := 2) (Nat.le_of_ble_eq_true rfl)
  rw [lg_entry_eq]
  generalize (lg_sl ([.ref aM, .int p0]) ++ List.replicate (2 - (lg_sl ([.ref aM, .int p0])).length) Slot.unset).toArray = ls at hl ⊢
  have hl : lv_has ls 2 [(0, .ref aM), (1, .int p0)] := hl
  have iX5 : ∀ w ∈ wsX50, w ∈ wsX5_heading := fun w h => List.mem_cons_of_mem _ (List.mem_append_right _ h)
  have k_1 := hts (.fieldLink RX5 58 "ParkWaysModel" "code" "I") (List.mem_of_getElem? (i := 1) rfl)
  unfold J_X5_heading at hJ
  refine lv_aload_n hx hb dX5_heading_0 rfl (lv_at hl 0 rfl) ?_
  refine lv_iload_n hx hb dX5_heading_1 rfl (lv_at hl 1 rfl) ?_
  refine lv_if_lt (tgt := 11) hx hb dX5_heading_2 (by decide) (fun c_1 => ?_) (fun c_1 => ?_)
  · have hJ := j_t c_1 hJ
    refine lv_iconst (v := 1) hx hb dX5_heading_11 (by decide) ?_
    refine lv_goto (tgt := 16) hx hb dX5_heading_12 (by decide) ?_
    refine va_put (D := D) (ci := 6) (v := .int (1 : Int32)) (ty := .int) (C := RX5) (T := TX5) (N := 26) hx hb hts iX5 tyX5 tyX5_ok nmX5 hown hK hP hD hS 0 rfl rfl 0 (by decide) k_1 (fun _ h9 => h9) rfl (by decide +kernel) rfl rfl (Nat.le_of_ble_eq_true rfl) dX5_heading_16 (fun H locs hP hD hS => ?_)
    have hP : va_P D vwCl [(aM, .inr (6, [.int (1 : Int32), .int w, .int ht, .int fou, .ref aMf, .int ln, .int wd, .int rd, .int kp, .int car, .int hom, .int gol, .int hld, .double err, .int isw, .int mvs, .int mde, .ref aNm, .ref aBe, .int exa, .long lst, .ref aFa, .ref aCs, .ref aFr, .ref aRo, .ref aNe])), (aMf, .inl (cMf, 576, .inl mf)), (aNm, .inl (cNm, 4608, .inl nm)), (aBe, .inl (cBe, 4608, .inl be)), (aFa, .inl (cFa, 4608, .inl fa)), (aCs, .inl (cCs, 4608, .inl cs)), (aFr, .inl (cFr, 4608, .inl fr)), (aRo, .inl (cRo, 4608, .inl ro)), (aNe, .inl (cNe, 576, .inl ne))] H := hP
    have hD : va_D A [(aM, .inr (6, [.int (1 : Int32), .int w, .int ht, .int fou, .ref aMf, .int ln, .int wd, .int rd, .int kp, .int car, .int hom, .int gol, .int hld, .double err, .int isw, .int mvs, .int mde, .ref aNm, .ref aBe, .int exa, .long lst, .ref aFa, .ref aCs, .ref aFr, .ref aRo, .ref aNe])), (aMf, .inl (cMf, 576, .inl mf)), (aNm, .inl (cNm, 4608, .inl nm)), (aBe, .inl (cBe, 4608, .inl be)), (aFa, .inl (cFa, 4608, .inl fa)), (aCs, .inl (cCs, 4608, .inl cs)), (aFr, .inl (cFr, 4608, .inl fr)), (aRo, .inl (cRo, 4608, .inl ro)), (aNe, .inl (cNe, 576, .inl ne))] := hD
    refine lv_aload_n hx hb dX5_heading_19 rfl (lv_at hl 0 rfl) ?_
    refine va_get (D := D) (ci := 6) (v := .int (1 : Int32)) (C := RX5) (T := TX5) (N := 26) hx hb hts iX5 hown hK hP 0 rfl rfl 0 (by decide) k_1 (fun _ h9 => h9) rfl dX5_heading_20 ?_
    refine lv_if_le (tgt := 30) hx hb dX5_heading_23 (by decide) (fun c_2 => absurd c_2 (by decide)) (fun c_2 => ?_)
    refine lv_iconst (v := 0) hx hb dX5_heading_26 (by decide) ?_
    refine lv_goto (tgt := 45) hx hb dX5_heading_27 (by decide) ?_
    have ho := Option.some.inj hJ
    exact W.iret (v := (0 : Int32)) hx hb hr (fun t ht hW => ⟨⟨_, (), rfl, (by rw [← ho]), (by rw [ht, ← ho]; exact hP), (by rw [← ho]; exact hD)⟩, hS.F ht⟩) hS.2.2 dX5_heading_45
  · have hJ := j_f c_1 hJ
    refine lv_iload_n hx hb dX5_heading_5 rfl (lv_at hl 1 rfl) ?_
    refine lv_bipush (v := 7) hx hb dX5_heading_6 (by decide) ?_
    refine lv_icmp_le (tgt := 15) hx hb dX5_heading_8 (by decide) (fun c_3 => ?_) (fun c_3 => ?_)
    · have hJ := j_t c_3 hJ
      refine lv_iconst (v := 0) hx hb dX5_heading_15 (by decide) ?_
      refine va_put (D := D) (ci := 6) (v := .int (0 : Int32)) (ty := .int) (C := RX5) (T := TX5) (N := 26) hx hb hts iX5 tyX5 tyX5_ok nmX5 hown hK hP hD hS 0 rfl rfl 0 (by decide) k_1 (fun _ h9 => h9) rfl (by decide +kernel) rfl rfl (Nat.le_of_ble_eq_true rfl) dX5_heading_16 (fun H locs hP hD hS => ?_)
      have hP : va_P D vwCl [(aM, .inr (6, [.int (0 : Int32), .int w, .int ht, .int fou, .ref aMf, .int ln, .int wd, .int rd, .int kp, .int car, .int hom, .int gol, .int hld, .double err, .int isw, .int mvs, .int mde, .ref aNm, .ref aBe, .int exa, .long lst, .ref aFa, .ref aCs, .ref aFr, .ref aRo, .ref aNe])), (aMf, .inl (cMf, 576, .inl mf)), (aNm, .inl (cNm, 4608, .inl nm)), (aBe, .inl (cBe, 4608, .inl be)), (aFa, .inl (cFa, 4608, .inl fa)), (aCs, .inl (cCs, 4608, .inl cs)), (aFr, .inl (cFr, 4608, .inl fr)), (aRo, .inl (cRo, 4608, .inl ro)), (aNe, .inl (cNe, 576, .inl ne))] H := hP
      have hD : va_D A [(aM, .inr (6, [.int (0 : Int32), .int w, .int ht, .int fou, .ref aMf, .int ln, .int wd, .int rd, .int kp, .int car, .int hom, .int gol, .int hld, .double err, .int isw, .int mvs, .int mde, .ref aNm, .ref aBe, .int exa, .long lst, .ref aFa, .ref aCs, .ref aFr, .ref aRo, .ref aNe])), (aMf, .inl (cMf, 576, .inl mf)), (aNm, .inl (cNm, 4608, .inl nm)), (aBe, .inl (cBe, 4608, .inl be)), (aFa, .inl (cFa, 4608, .inl fa)), (aCs, .inl (cCs, 4608, .inl cs)), (aFr, .inl (cFr, 4608, .inl fr)), (aRo, .inl (cRo, 4608, .inl ro)), (aNe, .inl (cNe, 576, .inl ne))] := hD
      refine lv_aload_n hx hb dX5_heading_19 rfl (lv_at hl 0 rfl) ?_
      refine va_get (D := D) (ci := 6) (v := .int (0 : Int32)) (C := RX5) (T := TX5) (N := 26) hx hb hts iX5 hown hK hP 0 rfl rfl 0 (by decide) k_1 (fun _ h9 => h9) rfl dX5_heading_20 ?_
      refine lv_if_le (tgt := 30) hx hb dX5_heading_23 (by decide) (fun c_4 => ?_) (fun c_4 => absurd (by decide) c_4)
      refine lv_iconst (v := 3) hx hb dX5_heading_30 (by decide) ?_
      refine lv_iload_n hx hb dX5_heading_31 rfl (lv_at hl 1 rfl) ?_
      obtain ⟨v_5, hv_5, hJ⟩ := j_b hJ
      refine ro_i (va_runS (As := [.int p0]) (rest := [.int (3 : Int32)]) ⟨hx, hb, hml, hown, hts⟩ (c_X5_dx l D p0 tX tY H.size F v_5 hv_5) (va_cwS 1 hts gX5_heading_X5_dx rfl rfl rfl (by decide +kernel) ⟨Nat.le_of_ble_eq_true rfl, Nat.le_of_ble_eq_true rfl⟩) (preRS [.int p0] hP hK hS hA hST [] rfl [] rfl) rfl rfl hl.1 rfl (lv_room (Nat.le_of_ble_eq_true rfl)) dX5_heading_32 ⟨Nat.zero_le _, Nat.zero_le _⟩) hP hS hA (fun H locs hP hS => ?_)
      refine lv_iconst (v := 1) hx hb dX5_heading_35 (by decide) ?_
      refine lv_iadd hx hb dX5_heading_36 ?_
      refine lv_imul hx hb dX5_heading_37 ?_
      refine lv_iload_n hx hb dX5_heading_38 rfl (lv_at hl 1 rfl) ?_
      obtain ⟨v_6, hv_6, hJ⟩ := j_b hJ
      refine ro_i (va_runS (As := [.int p0]) (rest := [.int ((3 : Int32) * (v_5 + (1 : Int32)))]) ⟨hx, hb, hml, hown, hts⟩ (c_X5_dy l D p0 tX tY H.size F v_6 hv_6) (va_cwS 1 hts gX5_heading_X5_dy rfl rfl rfl (by decide +kernel) ⟨Nat.le_of_ble_eq_true rfl, Nat.le_of_ble_eq_true rfl⟩) (preRS [.int p0] hP hK hS hA hST [] rfl [] rfl) rfl rfl hl.1 rfl (lv_room (Nat.le_of_ble_eq_true rfl)) dX5_heading_39 ⟨Nat.zero_le _, Nat.zero_le _⟩) hP hS hA (fun H locs hP hS => ?_)
      refine lv_iadd hx hb dX5_heading_42 ?_
      refine lv_iconst (v := 1) hx hb dX5_heading_43 (by decide) ?_
      refine lv_iadd hx hb dX5_heading_44 ?_
      have ho := Option.some.inj hJ
      exact W.iret (v := ((((3 : Int32) * (v_5 + (1 : Int32))) + v_6) + (1 : Int32))) hx hb hr (fun t ht hW => ⟨⟨_, (), rfl, (by rw [← ho]), (by rw [ht, ← ho]; exact hP), (by rw [← ho]; exact hD)⟩, hS.F ht⟩) hS.2.2 dX5_heading_45
    · have hJ := j_f c_3 hJ
      refine lv_iconst (v := 1) hx hb dX5_heading_11 (by decide) ?_
      refine lv_goto (tgt := 16) hx hb dX5_heading_12 (by decide) ?_
      refine va_put (D := D) (ci := 6) (v := .int (1 : Int32)) (ty := .int) (C := RX5) (T := TX5) (N := 26) hx hb hts iX5 tyX5 tyX5_ok nmX5 hown hK hP hD hS 0 rfl rfl 0 (by decide) k_1 (fun _ h9 => h9) rfl (by decide +kernel) rfl rfl (Nat.le_of_ble_eq_true rfl) dX5_heading_16 (fun H locs hP hD hS => ?_)
      have hP : va_P D vwCl [(aM, .inr (6, [.int (1 : Int32), .int w, .int ht, .int fou, .ref aMf, .int ln, .int wd, .int rd, .int kp, .int car, .int hom, .int gol, .int hld, .double err, .int isw, .int mvs, .int mde, .ref aNm, .ref aBe, .int exa, .long lst, .ref aFa, .ref aCs, .ref aFr, .ref aRo, .ref aNe])), (aMf, .inl (cMf, 576, .inl mf)), (aNm, .inl (cNm, 4608, .inl nm)), (aBe, .inl (cBe, 4608, .inl be)), (aFa, .inl (cFa, 4608, .inl fa)), (aCs, .inl (cCs, 4608, .inl cs)), (aFr, .inl (cFr, 4608, .inl fr)), (aRo, .inl (cRo, 4608, .inl ro)), (aNe, .inl (cNe, 576, .inl ne))] H := hP
      have hD : va_D A [(aM, .inr (6, [.int (1 : Int32), .int w, .int ht, .int fou, .ref aMf, .int ln, .int wd, .int rd, .int kp, .int car, .int hom, .int gol, .int hld, .double err, .int isw, .int mvs, .int mde, .ref aNm, .ref aBe, .int exa, .long lst, .ref aFa, .ref aCs, .ref aFr, .ref aRo, .ref aNe])), (aMf, .inl (cMf, 576, .inl mf)), (aNm, .inl (cNm, 4608, .inl nm)), (aBe, .inl (cBe, 4608, .inl be)), (aFa, .inl (cFa, 4608, .inl fa)), (aCs, .inl (cCs, 4608, .inl cs)), (aFr, .inl (cFr, 4608, .inl fr)), (aRo, .inl (cRo, 4608, .inl ro)), (aNe, .inl (cNe, 576, .inl ne))] := hD
      refine lv_aload_n hx hb dX5_heading_19 rfl (lv_at hl 0 rfl) ?_
      refine va_get (D := D) (ci := 6) (v := .int (1 : Int32)) (C := RX5) (T := TX5) (N := 26) hx hb hts iX5 hown hK hP 0 rfl rfl 0 (by decide) k_1 (fun _ h9 => h9) rfl dX5_heading_20 ?_
      refine lv_if_le (tgt := 30) hx hb dX5_heading_23 (by decide) (fun c_7 => absurd c_7 (by decide)) (fun c_7 => ?_)
      refine lv_iconst (v := 0) hx hb dX5_heading_26 (by decide) ?_
      refine lv_goto (tgt := 45) hx hb dX5_heading_27 (by decide) ?_
      have ho := Option.some.inj hJ
      exact W.iret (v := (0 : Int32)) hx hb hr (fun t ht hW => ⟨⟨_, (), rfl, (by rw [← ho]), (by rw [ht, ← ho]; exact hP), (by rw [← ho]; exact hD)⟩, hS.F ht⟩) hS.2.2 dX5_heading_45
