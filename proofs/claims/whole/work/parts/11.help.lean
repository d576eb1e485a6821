set_option maxHeartbeats 4000000 in
set_option maxRecDepth 100000 in
theorem c_X4_isFrom (l : Launch) (D : va_G) (p0 : Int32) (p1 : Int32) (p2 : Int32) (tX tY sz F : Nat) (o : Int32) (hJ : J_X4_isFrom F p0 p1 p2 = some o) : Met l yX4_isFrom wsX4_isFrom rmX4_isFrom (va_Pc [.int p0, .int p1, .int p2] (pcR D [] [] sz tX tY)) (qRi o (va_A [] sz)) 0 0 (va_A [] sz) := by
  refine Met.ofW (cc := cX4_isFrom) (maxL := 3) (ret := (some .boolean)) (by decide) rfl ?_
  intro p e s m args below meth c s₁ B hml hv
  obtain ⟨rfl, hsz, hP, hK, hST⟩ := hv
  have hx := B.exec
  have hb := B.bytes
  have hr := B.returns
  have hts := atoms_spec (ws := wsX4_isFrom) B.pre
  have hown : s.vm.findClass RX4 = some m.cls := findClass_of_methodNamed B.named
  have hlocks := B.notSynchronized
  subst hsz
  generalize hAe : va_A [] s.heap.size = A at hST ⊢
  have hA : ∀ q : Nat, s.heap.size ≤ q → A q := fun q h => by rw [← hAe]; exact Or.inr h
  have hS : va_S A s.heap s.heap [] := va_S.rf
  have hl := lv_entry ([.int p0, .int p1, .int p2]) (n := 3) (Nat.le_of_ble_eq_true rfl)
  rw [lg_entry_eq]
  generalize (lg_sl ([.int p0, .int p1, .int p2]) ++ List.replicate (3 - (lg_sl ([.int p0, .int p1, .int p2])).length) Slot.unset).toArray = ls at hl ⊢
  have hl : lv_has ls 3 [(0, .int p0), (1, .int p1), (2, .int p2)] := hl
  unfold J_X4_isFrom at hJ
  refine lv_iload_n hx hb dX4_isFrom_0 rfl (lv_at hl 1 rfl) ?_
  refine lv_iload_n hx hb dX4_isFrom_1 rfl (lv_at hl 0 rfl) ?_
  refine lv_icmp_lt (tgt := 14) hx hb dX4_isFrom_2 (by decide) (fun c_1 => ?_) (fun c_1 => ?_)
  · have hJ := j_t c_1 hJ
    refine lv_iconst (v := 0) hx hb dX4_isFrom_14 (by decide) ?_
    have ho := Option.some.inj hJ
    exact W.zret (v := (0 : Int32)) hx hb hr rfl (fun t ht hW => ⟨⟨_, (), rfl, ho, trivial⟩, hS.F ht⟩) hS.2.2 dX4_isFrom_15
  · have hJ := j_f c_1 hJ
    refine lv_iload_n hx hb dX4_isFrom_5 rfl (lv_at hl 1 rfl) ?_
    refine lv_iload_n hx hb dX4_isFrom_6 rfl (lv_at hl 2 rfl) ?_
    refine lv_icmp_gt (tgt := 14) hx hb dX4_isFrom_7 (by decide) (fun c_2 => ?_) (fun c_2 => ?_)
    · have hJ := j_t c_2 hJ
      refine lv_iconst (v := 0) hx hb dX4_isFrom_14 (by decide) ?_
      have ho := Option.some.inj hJ
      exact W.zret (v := (0 : Int32)) hx hb hr rfl (fun t ht hW => ⟨⟨_, (), rfl, ho, trivial⟩, hS.F ht⟩) hS.2.2 dX4_isFrom_15
    · have hJ := j_f c_2 hJ
      refine lv_iconst (v := 1) hx hb dX4_isFrom_10 (by decide) ?_
      refine lv_goto (tgt := 15) hx hb dX4_isFrom_11 (by decide) ?_
      have ho := Option.some.inj hJ
      exact W.zret (v := (1 : Int32)) hx hb hr rfl (fun t ht hW => ⟨⟨_, (), rfl, ho, trivial⟩, hS.F ht⟩) hS.2.2 dX4_isFrom_15
set_option maxHeartbeats 4000000 in
set_option maxRecDepth 100000 in
theorem c_X4_sideOf (l : Launch) (D : va_G) (p0 : Int32) (tX tY sz F : Nat) (o : Int32) (hJ : J_X4_sideOf F p0 = some o) : Met l yX4_sideOf wsX4_sideOf rmX4_sideOf (va_Pc [.int p0] (pcR D [] [] sz tX tY)) (qRi o (va_A [] sz)) 0 0 (va_A [] sz) := by
  refine Met.ofW (cc := cX4_sideOf) (maxL := 1) (ret := (some .int)) (by decide) rfl ?_
  intro p e s m args below meth c s₁ B hml hv
  obtain ⟨rfl, hsz, hP, hK, hST⟩ := hv
  have hx := B.exec
  have hb := B.bytes
  have hr := B.returns
  have hts := atoms_spec (ws := wsX4_sideOf) B.pre
  have hown : s.vm.findClass RX4 = some m.cls := findClass_of_methodNamed B.named
  have hlocks := B.notSynchronized
  subst hsz
  generalize hAe : va_A [] s.heap.size = A at hST ⊢
  have hA : ∀ q : Nat, s.heap.size ≤ q → A q := fun q h => by rw [← hAe]; exact Or.inr h
  have hS : va_S A s.heap s.heap [] := va_S.rf
  have hl := lv_entry ([.int p0]) (n := 1) (Nat.le_of_ble_eq_true rfl)
  rw [lg_entry_eq]
  generalize (lg_sl ([.int p0]) ++ List.replicate (1 - (lg_sl ([.int p0])).length) Slot.unset).toArray = ls at hl ⊢
  have hl : lv_has ls 1 [(0, .int p0)] := hl
  unfold J_X4_sideOf at hJ
  refine lv_iconst (v := 1) hx hb dX4_sideOf_0 (by decide) ?_
  refine lv_iload_n hx hb dX4_sideOf_1 rfl (lv_at hl 0 rfl) ?_
  refine lv_bipush (v := 24) hx hb dX4_sideOf_2 (by decide) ?_
  obtain ⟨v_1, hv_1, hJ⟩ := j_b hJ
  refine ro_i (va_runS (As := [.int (1 : Int32), .int p0, .int (24 : Int32)]) (rest := []) ⟨hx, hb, hml, hown, hts⟩ (c_X4_isFrom l D (1 : Int32) p0 (24 : Int32) tX tY s.heap.size F v_1 hv_1) (va_cwS 3 hts gX4_sideOf_X4_isFrom rfl rfl rfl (by decide +kernel) ⟨Nat.le_of_ble_eq_true rfl, Nat.le_of_ble_eq_true rfl⟩) (preRS [.int (1 : Int32), .int p0, .int (24 : Int32)] hP hK hS hA hST [] rfl [] rfl) rfl rfl hl.1 rfl (lv_room (Nat.le_of_ble_eq_true rfl)) dX4_sideOf_4 ⟨Nat.zero_le _, Nat.zero_le _⟩) hP hS hA (fun H locs hP hS => ?_)
  refine lv_if_eq (tgt := 14) hx hb dX4_sideOf_7 (by decide) (fun c_2 => ?_) (fun c_2 => ?_)
  · have hJ := j_t c_2 hJ
    refine lv_bipush (v := 16) hx hb dX4_sideOf_14 (by decide) ?_
    have ho := Option.some.inj hJ
    exact W.iret (v := (16 : Int32)) hx hb hr (fun t ht hW => ⟨⟨_, (), rfl, ho, trivial⟩, hS.F ht⟩) hS.2.2 dX4_sideOf_16
  · have hJ := j_f c_2 hJ
    refine lv_iload_n hx hb dX4_sideOf_10 rfl (lv_at hl 0 rfl) ?_
    refine lv_goto (tgt := 16) hx hb dX4_sideOf_11 (by decide) ?_
    have ho := Option.some.inj hJ
    exact W.iret (v := p0) hx hb hr (fun t ht hW => ⟨⟨_, (), rfl, ho, trivial⟩, hS.F ht⟩) hS.2.2 dX4_sideOf_16
set_option maxHeartbeats 4000000 in
set_option maxRecDepth 100000 in
theorem c_X4_cellAt (l : Launch) (D : va_G) (p0 : Int32) (p1 : Int32) (tX tY sz F : Nat) (o : Int32) (hJ : J_X4_cellAt F p0 p1 = some o) : Met l yX4_cellAt wsX4_cellAt rmX4_cellAt (va_Pc [.int p0, .int p1] (pcR D [] [] sz tX tY)) (qRi o (va_A [] sz)) 0 0 (va_A [] sz) := by
  refine Met.ofW (cc := cX4_cellAt) (maxL := 2) (ret := (some .int)) (by decide) rfl ?_
  intro p e s m args below meth c s₁ B hml hv
  obtain ⟨rfl, hsz, hP, hK, hST⟩ := hv
  have hx := B.exec
  have hb := B.bytes
  have hr := B.returns
  have hts := atoms_spec (ws := wsX4_cellAt) B.pre
  have hown : s.vm.findClass RX4 = some m.cls := findClass_of_methodNamed B.named
  have hlocks := B.notSynchronized
  subst hsz
  generalize hAe : va_A [] s.heap.size = A at hST ⊢
  have hA : ∀ q : Nat, s.heap.size ≤ q → A q := fun q h => by rw [← hAe]; exact Or.inr h
  have hS : va_S A s.heap s.heap [] := va_S.rf
  have hl := lv_entry ([.int p0, .int p1]) (n := 2) (Nat.le_of_ble_eq_true rfl)
  rw [lg_entry_eq]
  generalize (lg_sl ([.int p0, .int p1]) ++ List.replicate (2 - (lg_sl ([.int p0, .int p1])).length) Slot.unset).toArray = ls at hl ⊢
  have hl : lv_has ls 2 [(0, .int p0), (1, .int p1)] := hl
  unfold J_X4_cellAt at hJ
  refine lv_iload_n hx hb dX4_cellAt_0 rfl (lv_at hl 1 rfl) ?_
  refine lv_iconst (v := 5) hx hb dX4_cellAt_1 (by decide) ?_
  refine lv_ishl hx hb dX4_cellAt_2 ?_
  refine lv_iload_n hx hb dX4_cellAt_3 rfl (lv_at hl 0 rfl) ?_
  refine lv_iadd hx hb dX4_cellAt_4 ?_
  have ho := Option.some.inj hJ
  exact W.iret (v := ((p1 <<< ((5 : Int32) &&& 31)) + p0)) hx hb hr (fun t ht hW => ⟨⟨_, (), rfl, ho, trivial⟩, hS.F ht⟩) hS.2.2 dX4_cellAt_5
set_option maxHeartbeats 4000000 in
set_option maxRecDepth 100000 in
theorem c_X4_placeAt (l : Launch) (D : va_G) (p0 : Int32) (p1 : Int32) (p2 : Int32) (tX tY sz F : Nat) (o : Int32) (hJ : J_X4_placeAt F p0 p1 p2 = some o) : Met l yX4_placeAt wsX4_placeAt rmX4_placeAt (va_Pc [.int p0, .int p1, .int p2] (pcR D [] [] sz tX tY)) (qRi o (va_A [] sz)) 0 0 (va_A [] sz) := by
  refine Met.ofW (cc := cX4_placeAt) (maxL := 3) (ret := (some .int)) (by decide) rfl ?_
  intro p e s m args below meth c s₁ B hml hv
  obtain ⟨rfl, hsz, hP, hK, hST⟩ := hv
  have hx := B.exec
  have hb := B.bytes
  have hr := B.returns
  have hts := atoms_spec (ws := wsX4_placeAt) B.pre
  have hown : s.vm.findClass RX4 = some m.cls := findClass_of_methodNamed B.named
  have hlocks := B.notSynchronized
  subst hsz
  generalize hAe : va_A [] s.heap.size = A at hST ⊢
  have hA : ∀ q : Nat, s.heap.size ≤ q → A q := fun q h => by rw [← hAe]; exact Or.inr h
  have hS : va_S A s.heap s.heap [] := va_S.rf
  have hl := lv_entry ([.int p0, .int p1, .int p2]) (n := 3) (Nat.le_of_ble_eq_true rfl)
  rw [lg_entry_eq]
  generalize (lg_sl ([.int p0, .int p1, .int p2]) ++ List.replicate (3 - (lg_sl ([.int p0, .int p1, .int p2])).length) Slot.unset).toArray = ls at hl ⊢
  have hl : lv_has ls 3 [(0, .int p0), (1, .int p1), (2, .int p2)] := hl
  unfold J_X4_placeAt at hJ
  refine lv_iload_n hx hb dX4_placeAt_0 rfl (lv_at hl 0 rfl) ?_
  refine lv_iload_n hx hb dX4_placeAt_1 rfl (lv_at hl 1 rfl) ?_
  obtain ⟨v_1, hv_1, hJ⟩ := j_b hJ
  refine ro_i (va_runS (As := [.int p0, .int p1]) (rest := []) ⟨hx, hb, hml, hown, hts⟩ (c_X4_cellAt l D p0 p1 tX tY s.heap.size F v_1 hv_1) (va_cwS 2 hts gX4_placeAt_X4_cellAt rfl rfl rfl (by decide +kernel) ⟨Nat.le_of_ble_eq_true rfl, Nat.le_of_ble_eq_true rfl⟩) (preRS [.int p0, .int p1] hP hK hS hA hST [] rfl [] rfl) rfl rfl hl.1 rfl (lv_room (Nat.le_of_ble_eq_true rfl)) dX4_placeAt_2 ⟨Nat.zero_le _, Nat.zero_le _⟩) hP hS hA (fun H locs hP hS => ?_)
  refine lv_iconst (v := 3) hx hb dX4_placeAt_5 (by decide) ?_
  refine lv_ishl hx hb dX4_placeAt_6 ?_
  refine lv_iload_n hx hb dX4_placeAt_7 rfl (lv_at hl 2 rfl) ?_
  refine lv_iadd hx hb dX4_placeAt_8 ?_
  have ho := Option.some.inj hJ
  exact W.iret (v := ((v_1 <<< ((3 : Int32) &&& 31)) + p2)) hx hb hr (fun t ht hW => ⟨⟨_, (), rfl, ho, trivial⟩, hS.F ht⟩) hS.2.2 dX4_placeAt_9
set_option maxHeartbeats 4000000 in
set_option maxRecDepth 100000 in
theorem c_X4_xOf (l : Launch) (D : va_G) (p0 : Int32) (tX tY sz F : Nat) (o : Int32) (hJ : J_X4_xOf F p0 = some o) : Met l yX4_xOf wsX4_xOf rmX4_xOf (va_Pc [.int p0] (pcR D [] [] sz tX tY)) (qRi o (va_A [] sz)) 0 0 (va_A [] sz) := by
  refine Met.ofW (cc := cX4_xOf) (maxL := 1) (ret := (some .int)) (by decide) rfl ?_
  intro p e s m args below meth c s₁ B hml hv
  obtain ⟨rfl, hsz, hP, hK, hST⟩ := hv
  have hx := B.exec
  have hb := B.bytes
  have hr := B.returns
  have hts := atoms_spec (ws := wsX4_xOf) B.pre
  have hown : s.vm.findClass RX4 = some m.cls := findClass_of_methodNamed B.named
  have hlocks := B.notSynchronized
  subst hsz
  generalize hAe : va_A [] s.heap.size = A at hST ⊢
  have hA : ∀ q : Nat, s.heap.size ≤ q → A q := fun q h => by rw [← hAe]; exact Or.inr h
  have hS : va_S A s.heap s.heap [] := va_S.rf
  have hl := lv_entry ([.int p0]) (n := 1) (Nat.le_of_ble_eq_true rfl)
  rw [lg_entry_eq]
  generalize (lg_sl ([.int p0]) ++ List.replicate (1 - (lg_sl ([.int p0])).length) Slot.unset).toArray = ls at hl ⊢
  have hl : lv_has ls 1 [(0, .int p0)] := hl
  unfold J_X4_xOf at hJ
  refine lv_iload_n hx hb dX4_xOf_0 rfl (lv_at hl 0 rfl) ?_
  refine lv_iconst (v := 3) hx hb dX4_xOf_1 (by decide) ?_
  refine lv_ishr hx hb dX4_xOf_2 ?_
  refine lv_bipush (v := 31) hx hb dX4_xOf_3 (by decide) ?_
  refine lv_iand hx hb dX4_xOf_5 ?_
  have ho := Option.some.inj hJ
  exact W.iret (v := ((p0 >>> ((3 : Int32) &&& 31)) &&& (31 : Int32))) hx hb hr (fun t ht hW => ⟨⟨_, (), rfl, ho, trivial⟩, hS.F ht⟩) hS.2.2 dX4_xOf_6
set_option maxHeartbeats 4000000 in
set_option maxRecDepth 100000 in
theorem c_X4_yOf (l : Launch) (D : va_G) (p0 : Int32) (tX tY sz F : Nat) (o : Int32) (hJ : J_X4_yOf F p0 = some o) : Met l yX4_yOf wsX4_yOf rmX4_yOf (va_Pc [.int p0] (pcR D [] [] sz tX tY)) (qRi o (va_A [] sz)) 0 0 (va_A [] sz) := by
  refine Met.ofW (cc := cX4_yOf) (maxL := 1) (ret := (some .int)) (by decide) rfl ?_
  intro p e s m args below meth c s₁ B hml hv
  obtain ⟨rfl, hsz, hP, hK, hST⟩ := hv
  have hx := B.exec
  have hb := B.bytes
  have hr := B.returns
  have hts := atoms_spec (ws := wsX4_yOf) B.pre
  have hown : s.vm.findClass RX4 = some m.cls := findClass_of_methodNamed B.named
  have hlocks := B.notSynchronized
  subst hsz
  generalize hAe : va_A [] s.heap.size = A at hST ⊢
  have hA : ∀ q : Nat, s.heap.size ≤ q → A q := fun q h => by rw [← hAe]; exact Or.inr h
  have hS : va_S A s.heap s.heap [] := va_S.rf
  have hl := lv_entry ([.int p0]) (n := 1) (Nat.le_of_ble_eq_true rfl)
  rw [lg_entry_eq]
  generalize (lg_sl ([.int p0]) ++ List.replicate (1 - (lg_sl ([.int p0])).length) Slot.unset).toArray = ls at hl ⊢
  have hl : lv_has ls 1 [(0, .int p0)] := hl
  unfold J_X4_yOf at hJ
  refine lv_iload_n hx hb dX4_yOf_0 rfl (lv_at hl 0 rfl) ?_
  refine lv_bipush (v := 8) hx hb dX4_yOf_1 (by decide) ?_
  refine lv_ishr hx hb dX4_yOf_3 ?_
  have ho := Option.some.inj hJ
  exact W.iret (v := (p0 >>> ((8 : Int32) &&& 31))) hx hb hr (fun t ht hW => ⟨⟨_, (), rfl, ho, trivial⟩, hS.F ht⟩) hS.2.2 dX4_yOf_4
set_option maxHeartbeats 4000000 in
set_option maxRecDepth 100000 in
theorem c_X4_headingOf (l : Launch) (D : va_G) (p0 : Int32) (tX tY sz F : Nat) (o : Int32) (hJ : J_X4_headingOf F p0 = some o) : Met l yX4_headingOf wsX4_headingOf rmX4_headingOf (va_Pc [.int p0] (pcR D [] [] sz tX tY)) (qRi o (va_A [] sz)) 0 0 (va_A [] sz) := by
  refine Met.ofW (cc := cX4_headingOf) (maxL := 1) (ret := (some .int)) (by decide) rfl ?_
  intro p e s m args below meth c s₁ B hml hv
  obtain ⟨rfl, hsz, hP, hK, hST⟩ := hv
  have hx := B.exec
  have hb := B.bytes
  have hr := B.returns
  have hts := atoms_spec (ws := wsX4_headingOf) B.pre
  have hown : s.vm.findClass RX4 = some m.cls := findClass_of_methodNamed B.named
  have hlocks := B.notSynchronized
  subst hsz
  generalize hAe : va_A [] s.heap.size = A at hST ⊢
  have hA : ∀ q : Nat, s.heap.size ≤ q → A q := fun q h => by rw [← hAe]; exact Or.inr h
  have hS : va_S A s.heap s.heap [] := va_S.rf
  have hl := lv_entry ([.int p0]) (n := 1) (Nat.le_of_ble_eq_true rfl)
  rw [lg_entry_eq]
  generalize (lg_sl ([.int p0]) ++ List.replicate (1 - (lg_sl ([.int p0])).length) Slot.unset).toArray = ls at hl ⊢
  have hl : lv_has ls 1 [(0, .int p0)] := hl
  unfold J_X4_headingOf at hJ
  refine lv_iload_n hx hb dX4_headingOf_0 rfl (lv_at hl 0 rfl) ?_
  refine lv_bipush (v := 7) hx hb dX4_headingOf_1 (by decide) ?_
  refine lv_iand hx hb dX4_headingOf_3 ?_
  have ho := Option.some.inj hJ
  exact W.iret (v := (p0 &&& (7 : Int32))) hx hb hr (fun t ht hW => ⟨⟨_, (), rfl, ho, trivial⟩, hS.F ht⟩) hS.2.2 dX4_headingOf_4
set_option maxHeartbeats 4000000 in
set_option maxRecDepth 100000 in
theorem c_X4_stepX (l : Launch) (D : va_G) (p0 : Int32) (tX tY sz F : Nat) (o : Int32) (hJ : J_X4_stepX F p0 = some o) : Met l yX4_stepX wsX4_stepX rmX4_stepX (va_Pc [.int p0] (pcR D [] [] sz tX tY)) (qRi o (va_A [] sz)) 0 0 (va_A [] sz) := by
  refine Met.ofW (cc := cX4_stepX) (maxL := 1) (ret := (some .int)) (by decide) rfl ?_
  intro p e s m args below meth c s₁ B hml hv
  obtain ⟨rfl, hsz, hP, hK, hST⟩ := hv
  have hx := B.exec
  have hb := B.bytes
  have hr := B.returns
  have hts := atoms_spec (ws := wsX4_stepX) B.pre
  have hown : s.vm.findClass RX4 = some m.cls := findClass_of_methodNamed B.named
  have hlocks := B.notSynchronized
  subst hsz
  generalize hAe : va_A [] s.heap.size = A at hST ⊢
  have hA : ∀ q : Nat, s.heap.size ≤ q → A q := fun q h => by rw [← hAe]; exact Or.inr h
  have hS : va_S A s.heap s.heap [] := va_S.rf
  have hl := lv_entry ([.int p0]) (n := 1) (Nat.le_of_ble_eq_true rfl)
  rw [lg_entry_eq]
  generalize (lg_sl ([.int p0]) ++ List.replicate (1 - (lg_sl ([.int p0])).length) Slot.unset).toArray = ls at hl ⊢
  have hl : lv_has ls 1 [(0, .int p0)] := hl
  have k_1 := hts (.fieldLink RX4 222 "ParkWays" "STEP_X" "[I") (List.mem_of_getElem? (i := 1) rfl)
  unfold J_X4_stepX at hJ
  refine va_gets hx hb hST.2.1.1 hS hown k_1 (fun _ h9 => h9) dX4_stepX_0 ?_
  refine lv_iload_n hx hb dX4_stepX_3 rfl (lv_at hl 0 rfl) ?_
  refine lv_bipush (v := 7) hx hb dX4_stepX_4 (by decide) ?_
  refine lv_iand hx hb dX4_stepX_6 ?_
  obtain ⟨h_1, hJ⟩ := g_in hJ
  refine va_ti hx hb hST.2.1.2 hS h_1 rfl dX4_stepX_7 ?_
  have ho := Option.some.inj hJ
  exact W.iret (v := (sxI (p0 &&& (7 : Int32)).toNatClampNeg)) hx hb hr (fun t ht hW => ⟨⟨_, (), rfl, ho, trivial⟩, hS.F ht⟩) hS.2.2 dX4_stepX_8
set_option maxHeartbeats 4000000 in
set_option maxRecDepth 100000 in
theorem c_X4_stepY (l : Launch) (D : va_G) (p0 : Int32) (tX tY sz F : Nat) (o : Int32) (hJ : J_X4_stepY F p0 = some o) : Met l yX4_stepY wsX4_stepY rmX4_stepY (va_Pc [.int p0] (pcR D [] [] sz tX tY)) (qRi o (va_A [] sz)) 0 0 (va_A [] sz) := by
  refine Met.ofW (cc := cX4_stepY) (maxL := 1) (ret := (some .int)) (by decide) rfl ?_
  intro p e s m args below meth c s₁ B hml hv
  obtain ⟨rfl, hsz, hP, hK, hST⟩ := hv
  have hx := B.exec
  have hb := B.bytes
  have hr := B.returns
  have hts := atoms_spec (ws := wsX4_stepY) B.pre
  have hown : s.vm.findClass RX4 = some m.cls := findClass_of_methodNamed B.named
  have hlocks := B.notSynchronized
  subst hsz
  generalize hAe : va_A [] s.heap.size = A at hST ⊢
  have hA : ∀ q : Nat, s.heap.size ≤ q → A q := fun q h => by rw [← hAe]; exact Or.inr h
  have hS : va_S A s.heap s.heap [] := va_S.rf
  have hl := lv_entry ([.int p0]) (n := 1) (Nat.le_of_ble_eq_true rfl)
  rw [lg_entry_eq]
  generalize (lg_sl ([.int p0]) ++ List.replicate (1 - (lg_sl ([.int p0])).length) Slot.unset).toArray = ls at hl ⊢
  have hl : lv_has ls 1 [(0, .int p0)] := hl
  have k_1 := hts (.fieldLink RX4 226 "ParkWays" "STEP_Y" "[I") (List.mem_of_getElem? (i := 1) rfl)
  unfold J_X4_stepY at hJ
  refine va_gets hx hb hST.2.2.1 hS hown k_1 (fun _ h9 => h9) dX4_stepY_0 ?_
  refine lv_iload_n hx hb dX4_stepY_3 rfl (lv_at hl 0 rfl) ?_
  refine lv_bipush (v := 7) hx hb dX4_stepY_4 (by decide) ?_
  refine lv_iand hx hb dX4_stepY_6 ?_
  obtain ⟨h_1, hJ⟩ := g_in hJ
  refine va_ti hx hb hST.2.2.2 hS h_1 rfl dX4_stepY_7 ?_
  have ho := Option.some.inj hJ
  exact W.iret (v := (syI (p0 &&& (7 : Int32)).toNatClampNeg)) hx hb hr (fun t ht hW => ⟨⟨_, (), rfl, ho, trivial⟩, hS.F ht⟩) hS.2.2 dX4_stepY_8
set_option maxHeartbeats 4000000 in
set_option maxRecDepth 100000 in
theorem c_J7_fill_53178 (l : Launch) (D : va_G) (aAr : Nat) (cAr : ClassId) (nAr : Nat) (ar : Nat → Int32) (p1 : Int32) (tX tY sz F : Nat) (o : (Nat → Int32)) (hJ : J_J7_fill_53178 F nAr ar p1 = some o) : Met l yJ7_fill_53178 wsJ7_fill_53178 rmJ7_fill_53178 (va_Pc [.ref aAr, .int p1] (pcW D [(aAr, .inl (cAr, nAr, .inl ar))] [(cAr, .int)] sz tX tY)) (qWv D [(aAr, .inl (cAr, nAr, .inl o))] (va_A [(aAr, .inl (cAr, nAr, .inl ar))] sz)) 0 0 (va_A [(aAr, .inl (cAr, nAr, .inl ar))] sz) := by
  refine Met.ofW (cc := cJ7_fill_53178) (maxL := 4) (ret := none) (by decide) rfl ?_
  intro p e s m args below meth c s₁ B hml hv
  obtain ⟨rfl, hsz, hP, hK, hD0, hST⟩ := hv
  have hx := B.exec
  have hb := B.bytes
  have hr := B.returns
  have hts := atoms_spec (ws := wsJ7_fill_53178) B.pre
  have hown : s.vm.findClass RJ7 = some m.cls := findClass_of_methodNamed B.named
  have hlocks := B.notSynchronized
  subst hsz
  have hD := hD0.self (sz := s.heap.size)
  generalize hAe : va_A [(aAr, .inl (cAr, nAr, .inl ar))] s.heap.size = A at hD hST ⊢
  have hA : ∀ q : Nat, s.heap.size ≤ q → A q := fun q h => by rw [← hAe]; exact Or.inr h
  have hS : va_S A s.heap s.heap [] := va_S.rf
  have hl := lv_entry ([.ref aAr, .int p1]) (n := 4) (Nat.le_of_ble_eq_true rfl)
  rw [lg_entry_eq]
  generalize (lg_sl ([.ref aAr, .int p1]) ++ List.replicate (4 - (lg_sl ([.ref aAr, .int p1])).length) Slot.unset).toArray = ls at hl ⊢
  have hl : lv_has ls 4 [(0, .ref aAr), (1, .int p1)] := hl
  have L_5 : ∀ (y1_1 : Int32) (y3_3 : Int32) (kk_20 : Int32 → (Nat → Int32) → Option ((Nat → Int32))) (hkk_20 : ∀ (H : Heap) (locs : List Loc) (x2_2 : Int32) (xar_4 : Nat → Int32) (ls : Array Slot), kk_20 x2_2 xar_4 = some o → va_P D vwCl [(aAr, .inl (cAr, nAr, .inl xar_4))] H → va_D A [(aAr, .inl (cAr, nAr, .inl xar_4))] → va_S A s.heap H locs → lv_has ls 4 [] → W p l e (headSpec wsJ7_fill_53178 rmJ7_fill_53178).room s m [.ref aAr, .int p1].toArray below meth c H locs 0 0 (MQ below (qWv D [(aAr, .inl (cAr, nAr, .inl o))] A) [.ref aAr, .int p1].toArray s 0 0 A) (F0 m 20 ls [])) (fz : Nat) (H : Heap) (locs : List Loc) (x2_2 : Int32) (xar_4 : Nat → Int32) (ls : Array Slot), J_J7_fill_53178_L5 F nAr y1_1 y3_3 kk_20 fz x2_2 xar_4 = some o → va_P D vwCl [(aAr, .inl (cAr, nAr, .inl xar_4))] H → va_D A [(aAr, .inl (cAr, nAr, .inl xar_4))] → va_S A s.heap H locs → lv_has ls 4 [(0, .ref aAr), (1, .int y1_1), (2, .int x2_2), (3, .int y3_3)] → W p l e (headSpec wsJ7_fill_53178 rmJ7_fill_53178).room s m [.ref aAr, .int p1].toArray below meth c H locs 0 0 (MQ below (qWv D [(aAr, .inl (cAr, nAr, .inl o))] A) [.ref aAr, .int p1].toArray s 0 0 A) (F0 m 5 ls []) := by
    intro y1_1 y3_3 kk_20 hkk_20 fz
    induction fz with
    | zero =>
      intro H locs x2_2 xar_4 ls hJ
      rw [J_J7_fill_53178_L5] at hJ
      cases hJ
    | succ fz ih =>
      intro H locs x2_2 xar_4 ls hJ hP hD hS hl
      rw [J_J7_fill_53178_L5] at hJ
      refine lv_iload_n hx hb dJ7_fill_53178_5 rfl (lv_at hl 2 rfl) ?_
      refine lv_iload_n hx hb dJ7_fill_53178_6 rfl (lv_at hl 3 rfl) ?_
      refine lv_icmp_ge (tgt := 20) hx hb dJ7_fill_53178_7 (by decide) (fun c_5 => ?_) (fun c_5 => ?_)
      · have hJ := j_t c_5 hJ
        exact hkk_20 H locs x2_2 xar_4 ls hJ hP hD hS (lv_sub hl [] rfl)
      · have hJ := j_f c_5 hJ
        refine lv_aload_n hx hb dJ7_fill_53178_10 rfl (lv_at hl 0 rfl) ?_
        refine lv_iload_n hx hb dJ7_fill_53178_11 rfl (lv_at hl 2 rfl) ?_
        refine lv_iload_n hx hb dJ7_fill_53178_12 rfl (lv_at hl 1 rfl) ?_
        obtain ⟨h_6, hJ⟩ := g_in hJ
        refine va_iast hx hb hK hP hD hS 0 0 rfl rfl h_6 dJ7_fill_53178_13 (fun H locs hP hD hS => ?_)
        have hP : va_P D vwCl [(aAr, .inl (cAr, nAr, .inl (upd xar_4 x2_2.toNatClampNeg y1_1)))] H := hP
        have hD : va_D A [(aAr, .inl (cAr, nAr, .inl (upd xar_4 x2_2.toNatClampNeg y1_1)))] := hD
        refine lv_iinc (v := (x2_2 + (1 : Int32))) (lv' := [(2, .int (x2_2 + (1 : Int32))), (0, .ref aAr), (1, .int y1_1), (3, .int y3_3)]) hx hb dJ7_fill_53178_14 hl (k := 2) rfl rfl (by decide) rfl (fun ls hl => ?_)
        refine lv_goto (tgt := 5) hx hb dJ7_fill_53178_17 (by decide) ?_
        exact ih H locs (x2_2 + (1 : Int32)) (upd xar_4 x2_2.toNatClampNeg y1_1) ls hJ hP hD hS (lv_sub hl [1, 2, 0, 3] rfl)
  unfold J_J7_fill_53178 at hJ
  refine lv_iconst (v := 0) hx hb dJ7_fill_53178_0 (by decide) ?_
  refine lv_istore_n (lv' := [(2, .int (0 : Int32)), (0, .ref aAr), (1, .int p1)]) hx hb dJ7_fill_53178_1 rfl hl (by decide) rfl (fun ls hl => ?_)
  refine lv_aload_n hx hb dJ7_fill_53178_2 rfl (lv_at hl 1 rfl) ?_
  refine va_alen hx hb hK hP 0 0 rfl rfl (v := nI nAr) rfl dJ7_fill_53178_3 ?_
  refine lv_istore_n (lv' := [(3, .int (nI nAr)), (2, .int (0 : Int32)), (0, .ref aAr), (1, .int p1)]) hx hb dJ7_fill_53178_4 rfl hl (by decide) rfl (fun ls hl => ?_)
  refine L_5 p1 (nI nAr) _ ?_ F s.heap [] (0 : Int32) ar ls hJ hP hD hS (lv_sub hl [2, 3, 1, 0] rfl)
  · intro H locs x2_7 xar_8 ls hJ hP hD hS hl
    have ho := Option.some.inj hJ
    exact W.vret hx hb hr (fun t ht hW => ⟨⟨(), rfl, trivial, (by rw [ht, ← ho]; exact hP), (by rw [← ho]; exact hD)⟩, hS.F ht⟩) hS.2.2 dJ7_fill_53178_20
set_option maxHeartbeats 4000000 in
set_option maxRecDepth 100000 in
theorem c_J7_fill_d0a16 (l : Launch) (D : va_G) (aAr : Nat) (cAr : ClassId) (nAr : Nat) (ar : Nat → Int64) (p1 : Int64) (tX tY sz F : Nat) (o : (Nat → Int64)) (hJ : J_J7_fill_d0a16 F nAr ar p1 = some o) : Met l yJ7_fill_d0a16 wsJ7_fill_d0a16 rmJ7_fill_d0a16 (va_Pc [.ref aAr, .long p1] (pcW D [(aAr, .inl (cAr, nAr, .inr (.inl ar)))] [(cAr, .long)] sz tX tY)) (qWv D [(aAr, .inl (cAr, nAr, .inr (.inl o)))] (va_A [(aAr, .inl (cAr, nAr, .inr (.inl ar)))] sz)) 0 0 (va_A [(aAr, .inl (cAr, nAr, .inr (.inl ar)))] sz) := by
  refine Met.ofW (cc := cJ7_fill_d0a16) (maxL := 5) (ret := none) (by decide) rfl ?_
  intro p e s m args below meth c s₁ B hml hv
  obtain ⟨rfl, hsz, hP, hK, hD0, hST⟩ := hv
  have hx := B.exec
  have hb := B.bytes
  have hr := B.returns
  have hts := atoms_spec (ws := wsJ7_fill_d0a16) B.pre
  have hown : s.vm.findClass RJ7 = some m.cls := findClass_of_methodNamed B.named
  have hlocks := B.notSynchronized
  subst hsz
  have hD := hD0.self (sz := s.heap.size)
  generalize hAe : va_A [(aAr, .inl (cAr, nAr, .inr (.inl ar)))] s.heap.size = A at hD hST ⊢
  have hA : ∀ q : Nat, s.heap.size ≤ q → A q := fun q h => by rw [← hAe]; exact Or.inr h
  have hS : va_S A s.heap s.heap [] := va_S.rf
  have hl := lv_entry ([.ref aAr, .long p1]) (n := 5) (Nat.le_of_ble_eq_true rfl)
  rw [lg_entry_eq]
  generalize (lg_sl ([.ref aAr, .long p1]) ++ List.replicate (5 - (lg_sl ([.ref aAr, .long p1])).length) Slot.unset).toArray = ls at hl ⊢
  have hl : lv_has ls 5 [(0, .ref aAr), (1, .long p1)] := hl
  have L_6 : ∀ (y1_1 : Int64) (y4_3 : Int32) (kk_22 : Int32 → (Nat → Int64) → Option ((Nat → Int64))) (hkk_22 : ∀ (H : Heap) (locs : List Loc) (x3_2 : Int32) (xar_4 : Nat → Int64) (ls : Array Slot), kk_22 x3_2 xar_4 = some o → va_P D vwCl [(aAr, .inl (cAr, nAr, .inr (.inl xar_4)))] H → va_D A [(aAr, .inl (cAr, nAr, .inr (.inl xar_4)))] → va_S A s.heap H locs → lv_has ls 5 [] → W p l e (headSpec wsJ7_fill_d0a16 rmJ7_fill_d0a16).room s m [.ref aAr, .long p1].toArray below meth c H locs 0 0 (MQ below (qWv D [(aAr, .inl (cAr, nAr, .inr (.inl o)))] A) [.ref aAr, .long p1].toArray s 0 0 A) (F0 m 22 ls [])) (fz : Nat) (H : Heap) (locs : List Loc) (x3_2 : Int32) (xar_4 : Nat → Int64) (ls : Array Slot), J_J7_fill_d0a16_L6 F nAr y1_1 y4_3 kk_22 fz x3_2 xar_4 = some o → va_P D vwCl [(aAr, .inl (cAr, nAr, .inr (.inl xar_4)))] H → va_D A [(aAr, .inl (cAr, nAr, .inr (.inl xar_4)))] → va_S A s.heap H locs → lv_has ls 5 [(0, .ref aAr), (1, .long y1_1), (3, .int x3_2), (4, .int y4_3)] → W p l e (headSpec wsJ7_fill_d0a16 rmJ7_fill_d0a16).room s m [.ref aAr, .long p1].toArray below meth c H locs 0 0 (MQ below (qWv D [(aAr, .inl (cAr, nAr, .inr (.inl o)))] A) [.ref aAr, .long p1].toArray s 0 0 A) (F0 m 6 ls []) := by
    intro y1_1 y4_3 kk_22 hkk_22 fz
    induction fz with
    | zero =>
      intro H locs x3_2 xar_4 ls hJ
      rw [J_J7_fill_d0a16_L6] at hJ
      cases hJ
    | succ fz ih =>
      intro H locs x3_2 xar_4 ls hJ hP hD hS hl
      rw [J_J7_fill_d0a16_L6] at hJ
      refine lv_iload_n hx hb dJ7_fill_d0a16_6 rfl (lv_at hl 2 rfl) ?_
      refine lv_iload hx hb dJ7_fill_d0a16_7 (lv_at hl 3 rfl) ?_
      refine lv_icmp_ge (tgt := 22) hx hb dJ7_fill_d0a16_9 (by decide) (fun c_5 => ?_) (fun c_5 => ?_)
      · have hJ := j_t c_5 hJ
        exact hkk_22 H locs x3_2 xar_4 ls hJ hP hD hS (lv_sub hl [] rfl)
      · have hJ := j_f c_5 hJ
        refine lv_aload_n hx hb dJ7_fill_d0a16_12 rfl (lv_at hl 0 rfl) ?_
        refine lv_iload_n hx hb dJ7_fill_d0a16_13 rfl (lv_at hl 2 rfl) ?_
        refine lv_lload_n hx hb dJ7_fill_d0a16_14 rfl (lv_at hl 1 rfl) ?_
        obtain ⟨h_6, hJ⟩ := g_in hJ
        refine va_last hx hb hK hP hD hS 0 0 rfl rfl h_6 dJ7_fill_d0a16_15 (fun H locs hP hD hS => ?_)
        have hP : va_P D vwCl [(aAr, .inl (cAr, nAr, .inr (.inl (vp_updL xar_4 x3_2.toNatClampNeg y1_1))))] H := hP
        have hD : va_D A [(aAr, .inl (cAr, nAr, .inr (.inl (vp_updL xar_4 x3_2.toNatClampNeg y1_1))))] := hD
        refine lv_iinc (v := (x3_2 + (1 : Int32))) (lv' := [(3, .int (x3_2 + (1 : Int32))), (0, .ref aAr), (1, .long y1_1), (4, .int y4_3)]) hx hb dJ7_fill_d0a16_16 hl (k := 2) rfl rfl (by decide) rfl (fun ls hl => ?_)
        refine lv_goto (tgt := 6) hx hb dJ7_fill_d0a16_19 (by decide) ?_
        exact ih H locs (x3_2 + (1 : Int32)) (vp_updL xar_4 x3_2.toNatClampNeg y1_1) ls hJ hP hD hS (lv_sub hl [1, 2, 0, 3] rfl)
  unfold J_J7_fill_d0a16 at hJ
  refine lv_iconst (v := 0) hx hb dJ7_fill_d0a16_0 (by decide) ?_
  refine lv_istore_n (lv' := [(3, .int (0 : Int32)), (0, .ref aAr), (1, .long p1)]) hx hb dJ7_fill_d0a16_1 rfl hl (by decide) rfl (fun ls hl => ?_)
  refine lv_aload_n hx hb dJ7_fill_d0a16_2 rfl (lv_at hl 1 rfl) ?_
  refine va_alen hx hb hK hP 0 0 rfl rfl (v := nI nAr) rfl dJ7_fill_d0a16_3 ?_
  refine lv_istore (lv' := [(4, .int (nI nAr)), (3, .int (0 : Int32)), (0, .ref aAr), (1, .long p1)]) hx hb dJ7_fill_d0a16_4 hl (by decide) rfl (fun ls hl => ?_)
  refine L_6 p1 (nI nAr) _ ?_ F s.heap [] (0 : Int32) ar ls hJ hP hD hS (lv_sub hl [2, 3, 1, 0] rfl)
  · intro H locs x3_7 xar_8 ls hJ hP hD hS hl
    have ho := Option.some.inj hJ
    exact W.vret hx hb hr (fun t ht hW => ⟨⟨(), rfl, trivial, (by rw [ht, ← ho]; exact hP), (by rw [← ho]; exact hD)⟩, hS.F ht⟩) hS.2.2 dJ7_fill_d0a16_22
