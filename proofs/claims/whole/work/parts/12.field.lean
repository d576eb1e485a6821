set_option maxHeartbeats 4000000 in
set_option maxRecDepth 100000 in
theorem c_X1_placeRoom (l : Launch) (D : va_G) (aF aFu aFk : Nat) (cFu cFk : ClassId) (w : Int32) (ht : Int32) (tn : Int32) (kp : Int32) (nFu : Nat) (fu : Nat → Int32) (nFk : Nat) (fk : Nat → Int32) (tX tY sz F : Nat) (o : Int32) (hJ : J_X1_placeRoom F ht = some o) : Met l yX1_placeRoom wsX1_placeRoom rmX1_placeRoom (va_Pc [.ref aF] (pcR D [(aF, .inr (2, [.int w, .int ht, .int tn, .ref aFu, .ref aFk, .int kp])), (aFu, .inl (cFu, nFu, .inl fu)), (aFk, .inl (cFk, nFk, .inl fk))] [(cFu, .boolean), (cFk, .int)] sz tX tY)) (qRi o (va_A [] sz)) 0 0 (va_A [] sz) := by
  refine Met.ofW (cc := cX1_placeRoom) (maxL := 1) (ret := (some .int)) (by decide) rfl ?_
  intro p e s m args below meth c s₁ B hml hv
  obtain ⟨rfl, hsz, hP, hK, hST⟩ := hv
  have hx := B.exec
  have hb := B.bytes
  have hr := B.returns
  have hts := atoms_spec (ws := wsX1_placeRoom) B.pre
  have hown : s.vm.findClass RX1 = some m.cls := findClass_of_methodNamed B.named
  have hlocks := B.notSynchronized
  subst hsz
  generalize hAe : va_A [] s.heap.size = A at hST ⊢
  have hA : ∀ q : Nat, s.heap.size ≤ q → A q := fun q h => by rw [← hAe]; exact Or.inr h
  have hS : va_S A s.heap s.heap [] := va_S.rf
  have hl := lv_entry ([.ref aF]) (n := 1) (Nat.le_of_ble_eq_true rfl)
  rw [lg_entry_eq]
  generalize (lg_sl ([.ref aF]) ++ List.replicate (1 - (lg_sl ([.ref aF])).length) Slot.unset).toArray = ls at hl ⊢
  have hl : lv_has ls 1 [(0, .ref aF)] := hl
  have iX1 : ∀ w ∈ wsX10, w ∈ wsX1_placeRoom := fun w h => List.mem_cons_of_mem _ (List.mem_append_right _ h)
  have k_1 := hts (.fieldLink RX1 15 "ParkWays$Field" "height" "I") (List.mem_of_getElem? (i := 1) rfl)
  unfold J_X1_placeRoom at hJ
  refine lv_aload_n hx hb dX1_placeRoom_0 rfl (lv_at hl 0 rfl) ?_
  refine va_get (D := D) (ci := 2) (v := .int ht) (C := RX1) (T := TX1) (N := 6) hx hb hts iX1 hown hK hP 0 rfl rfl 1 (by decide) k_1 (fun _ h9 => h9) rfl dX1_placeRoom_1 ?_
  refine lv_bipush (v := 8) hx hb dX1_placeRoom_4 (by decide) ?_
  refine lv_ishl hx hb dX1_placeRoom_6 ?_
  have ho := Option.some.inj hJ
  exact W.iret (v := (ht <<< ((8 : Int32) &&& 31))) hx hb hr (fun t ht hW => ⟨⟨_, (), rfl, ho, trivial⟩, hS.F ht⟩) hS.2.2 dX1_placeRoom_7
set_option maxHeartbeats 4000000 in
set_option maxRecDepth 100000 in
theorem c_X1_hasCell (l : Launch) (D : va_G) (aF aFu aFk : Nat) (cFu cFk : ClassId) (w : Int32) (ht : Int32) (tn : Int32) (kp : Int32) (nFu : Nat) (fu : Nat → Int32) (nFk : Nat) (fk : Nat → Int32) (p0 : Int32) (p1 : Int32) (tX tY sz F : Nat) (o : Int32) (hJ : J_X1_hasCell F w ht p0 p1 = some o) : Met l yX1_hasCell wsX1_hasCell rmX1_hasCell (va_Pc [.ref aF, .int p0, .int p1] (pcR D [(aF, .inr (2, [.int w, .int ht, .int tn, .ref aFu, .ref aFk, .int kp])), (aFu, .inl (cFu, nFu, .inl fu)), (aFk, .inl (cFk, nFk, .inl fk))] [(cFu, .boolean), (cFk, .int)] sz tX tY)) (qRi o (va_A [] sz)) 0 0 (va_A [] sz) := by
  refine Met.ofW (cc := cX1_hasCell) (maxL := 3) (ret := (some .boolean)) (by decide) rfl ?_
  intro p e s m args below meth c s₁ B hml hv
  obtain ⟨rfl, hsz, hP, hK, hST⟩ := hv
  have hx := B.exec
  have hb := B.bytes
  have hr := B.returns
  have hts := atoms_spec (ws := wsX1_hasCell) B.pre
  have hown : s.vm.findClass RX1 = some m.cls := findClass_of_methodNamed B.named
  have hlocks := B.notSynchronized
  subst hsz
  generalize hAe : va_A [] s.heap.size = A at hST ⊢
  have hA : ∀ q : Nat, s.heap.size ≤ q → A q := fun q h => by rw [← hAe]; exact Or.inr h
  have hS : va_S A s.heap s.heap [] := va_S.rf
  have hl := lv_entry ([.ref aF, .int p0, .int p1]) (n := 3) (Nat.le_of_ble_eq_true rfl)
  rw [lg_entry_eq]
  generalize (lg_sl ([.ref aF, .int p0, .int p1]) ++ List.replicate (3 - (lg_sl ([.ref aF, .int p0, .int p1])).length) Slot.unset).toArray = ls at hl ⊢
  have hl : lv_has ls 3 [(0, .ref aF), (1, .int p0), (2, .int p1)] := hl
  have iX1 : ∀ w ∈ wsX10, w ∈ wsX1_hasCell := fun w h => List.mem_cons_of_mem _ (List.mem_append_right _ h)
  have k_1 := hts (.fieldLink RX1 9 "ParkWays$Field" "width" "I") (List.mem_of_getElem? (i := 1) rfl)
  have k_2 := hts (.fieldLink RX1 15 "ParkWays$Field" "height" "I") (List.mem_of_getElem? (i := 2) rfl)
  unfold J_X1_hasCell at hJ
  refine lv_iload_n hx hb dX1_hasCell_0 rfl (lv_at hl 1 rfl) ?_
  refine lv_if_lt (tgt := 28) hx hb dX1_hasCell_1 (by decide) (fun c_1 => ?_) (fun c_1 => ?_)
  · have hJ := j_t c_1 hJ
    refine lv_iconst (v := 0) hx hb dX1_hasCell_28 (by decide) ?_
    have ho := Option.some.inj hJ
    exact W.zret (v := (0 : Int32)) hx hb hr rfl (fun t ht hW => ⟨⟨_, (), rfl, ho, trivial⟩, hS.F ht⟩) hS.2.2 dX1_hasCell_29
  · have hJ := j_f c_1 hJ
    refine lv_iload_n hx hb dX1_hasCell_4 rfl (lv_at hl 1 rfl) ?_
    refine lv_aload_n hx hb dX1_hasCell_5 rfl (lv_at hl 0 rfl) ?_
    refine va_get (D := D) (ci := 2) (v := .int w) (C := RX1) (T := TX1) (N := 6) hx hb hts iX1 hown hK hP 0 rfl rfl 0 (by decide) k_1 (fun _ h9 => h9) rfl dX1_hasCell_6 ?_
    refine lv_icmp_ge (tgt := 28) hx hb dX1_hasCell_9 (by decide) (fun c_2 => ?_) (fun c_2 => ?_)
    · have hJ := j_t c_2 hJ
      refine lv_iconst (v := 0) hx hb dX1_hasCell_28 (by decide) ?_
      have ho := Option.some.inj hJ
      exact W.zret (v := (0 : Int32)) hx hb hr rfl (fun t ht hW => ⟨⟨_, (), rfl, ho, trivial⟩, hS.F ht⟩) hS.2.2 dX1_hasCell_29
    · have hJ := j_f c_2 hJ
      refine lv_iload_n hx hb dX1_hasCell_12 rfl (lv_at hl 2 rfl) ?_
      refine lv_if_lt (tgt := 28) hx hb dX1_hasCell_13 (by decide) (fun c_3 => ?_) (fun c_3 => ?_)
      · have hJ := j_t c_3 hJ
        refine lv_iconst (v := 0) hx hb dX1_hasCell_28 (by decide) ?_
        have ho := Option.some.inj hJ
        exact W.zret (v := (0 : Int32)) hx hb hr rfl (fun t ht hW => ⟨⟨_, (), rfl, ho, trivial⟩, hS.F ht⟩) hS.2.2 dX1_hasCell_29
      · have hJ := j_f c_3 hJ
        refine lv_iload_n hx hb dX1_hasCell_16 rfl (lv_at hl 2 rfl) ?_
        refine lv_aload_n hx hb dX1_hasCell_17 rfl (lv_at hl 0 rfl) ?_
        refine va_get (D := D) (ci := 2) (v := .int ht) (C := RX1) (T := TX1) (N := 6) hx hb hts iX1 hown hK hP 0 rfl rfl 1 (by decide) k_2 (fun _ h9 => h9) rfl dX1_hasCell_18 ?_
        refine lv_icmp_ge (tgt := 28) hx hb dX1_hasCell_21 (by decide) (fun c_4 => ?_) (fun c_4 => ?_)
        · have hJ := j_t c_4 hJ
          refine lv_iconst (v := 0) hx hb dX1_hasCell_28 (by decide) ?_
          have ho := Option.some.inj hJ
          exact W.zret (v := (0 : Int32)) hx hb hr rfl (fun t ht hW => ⟨⟨_, (), rfl, ho, trivial⟩, hS.F ht⟩) hS.2.2 dX1_hasCell_29
        · have hJ := j_f c_4 hJ
          refine lv_iconst (v := 1) hx hb dX1_hasCell_24 (by decide) ?_
          refine lv_goto (tgt := 29) hx hb dX1_hasCell_25 (by decide) ?_
          have ho := Option.some.inj hJ
          exact W.zret (v := (1 : Int32)) hx hb hr rfl (fun t ht hW => ⟨⟨_, (), rfl, ho, trivial⟩, hS.F ht⟩) hS.2.2 dX1_hasCell_29
set_option maxHeartbeats 4000000 in
set_option maxRecDepth 100000 in
theorem c_X1_hasHeading (l : Launch) (D : va_G) (aF aFu aFk : Nat) (cFu cFk : ClassId) (w : Int32) (ht : Int32) (tn : Int32) (kp : Int32) (nFu : Nat) (fu : Nat → Int32) (nFk : Nat) (fk : Nat → Int32) (p0 : Int32) (tX tY sz F : Nat) (o : Int32) (hJ : J_X1_hasHeading F tn p0 = some o) : Met l yX1_hasHeading wsX1_hasHeading rmX1_hasHeading (va_Pc [.ref aF, .int p0] (pcR D [(aF, .inr (2, [.int w, .int ht, .int tn, .ref aFu, .ref aFk, .int kp])), (aFu, .inl (cFu, nFu, .inl fu)), (aFk, .inl (cFk, nFk, .inl fk))] [(cFu, .boolean), (cFk, .int)] sz tX tY)) (qRi o (va_A [] sz)) 0 0 (va_A [] sz) := by
  refine Met.ofW (cc := cX1_hasHeading) (maxL := 2) (ret := (some .boolean)) (by decide) rfl ?_
  intro p e s m args below meth c s₁ B hml hv
  obtain ⟨rfl, hsz, hP, hK, hST⟩ := hv
  have hx := B.exec
  have hb := B.bytes
  have hr := B.returns
  have hts := atoms_spec (ws := wsX1_hasHeading) B.pre
  have hown : s.vm.findClass RX1 = some m.cls := findClass_of_methodNamed B.named
  have hlocks := B.notSynchronized
  subst hsz
  generalize hAe : va_A [] s.heap.size = A at hST ⊢
  have hA : ∀ q : Nat, s.heap.size ≤ q → A q := fun q h => by rw [← hAe]; exact Or.inr h
  have hS : va_S A s.heap s.heap [] := va_S.rf
  have hl := lv_entry ([.ref aF, .int p0]) (n := 2) (Nat.le_of_ble_eq_true rfl)
  rw [lg_entry_eq]
  generalize (lg_sl ([.ref aF, .int p0]) ++ List.replicate (2 - (lg_sl ([.ref aF, .int p0])).length) Slot.unset).toArray = ls at hl ⊢
  have hl : lv_has ls 2 [(0, .ref aF), (1, .int p0)] := hl
  have iX1 : ∀ w ∈ wsX10, w ∈ wsX1_hasHeading := fun w h => List.mem_cons_of_mem _ (List.mem_append_right _ h)
  have k_3 := hts (.initialized RX4) (List.mem_of_getElem? (i := 3) rfl)
  have k_2 := hts (.static yX4_isFrom) (List.mem_of_getElem? (i := 2) rfl)
  have k_1 := hts (.fieldLink RX1 18 "ParkWays$Field" "turn" "I") (List.mem_of_getElem? (i := 1) rfl)
  unfold J_X1_hasHeading at hJ
  refine lv_iconst (v := 0) hx hb dX1_hasHeading_0 (by decide) ?_
  refine lv_iload_n hx hb dX1_hasHeading_1 rfl (lv_at hl 1 rfl) ?_
  refine lv_bipush (v := 7) hx hb dX1_hasHeading_2 (by decide) ?_
  obtain ⟨v_1, hv_1, hJ⟩ := j_b hJ
  refine ro_i (va_runSN (As := [.int (0 : Int32), .int p0, .int (7 : Int32)]) (rest := []) ⟨hx, hb, hml, hown, hts⟩ (c_X4_isFrom l D (0 : Int32) p0 (7 : Int32) tX tY s.heap.size F v_1 hv_1) ⟨va_cnB 3 hts gX1_hasHeading_X4_isFrom_n29 rfl rfl rfl (hST.1.2.2.2.2.2.2.2.2.2.2.2.2.2.2.1) k_3 (by decide +kernel) ⟨Nat.le_of_ble_eq_true rfl, Nat.le_of_ble_eq_true rfl⟩, k_2, trivial⟩ (preRS [.int (0 : Int32), .int p0, .int (7 : Int32)] hP hK hS hA hST [] rfl [] rfl) rfl rfl hl.1 rfl (lv_room (Nat.le_of_ble_eq_true rfl)) dX1_hasHeading_4 ⟨Nat.zero_le _, Nat.zero_le _⟩) hP hS hA (fun H locs hP hS => ?_)
  refine lv_if_eq (tgt := 28) hx hb dX1_hasHeading_7 (by decide) (fun c_2 => ?_) (fun c_2 => ?_)
  · have hJ := j_t c_2 hJ
    refine lv_iconst (v := 0) hx hb dX1_hasHeading_28 (by decide) ?_
    have ho := Option.some.inj hJ
    exact W.zret (v := (0 : Int32)) hx hb hr rfl (fun t ht hW => ⟨⟨_, (), rfl, ho, trivial⟩, hS.F ht⟩) hS.2.2 dX1_hasHeading_29
  · have hJ := j_f c_2 hJ
    refine lv_aload_n hx hb dX1_hasHeading_10 rfl (lv_at hl 0 rfl) ?_
    refine va_get (D := D) (ci := 2) (v := .int tn) (C := RX1) (T := TX1) (N := 6) hx hb hts iX1 hown hK hP 0 rfl rfl 2 (by decide) k_1 (fun _ h9 => h9) rfl dX1_hasHeading_11 ?_
    refine lv_iconst (v := 1) hx hb dX1_hasHeading_14 (by decide) ?_
    refine lv_icmp_eq (tgt := 24) hx hb dX1_hasHeading_15 (by decide) (fun c_3 => ?_) (fun c_3 => ?_)
    · have hJ := j_t c_3 hJ
      refine lv_iconst (v := 1) hx hb dX1_hasHeading_24 (by decide) ?_
      refine lv_goto (tgt := 29) hx hb dX1_hasHeading_25 (by decide) ?_
      have ho := Option.some.inj hJ
      exact W.zret (v := (1 : Int32)) hx hb hr rfl (fun t ht hW => ⟨⟨_, (), rfl, ho, trivial⟩, hS.F ht⟩) hS.2.2 dX1_hasHeading_29
    · have hJ := j_f c_3 hJ
      refine lv_iload_n hx hb dX1_hasHeading_18 rfl (lv_at hl 1 rfl) ?_
      refine lv_iconst (v := 1) hx hb dX1_hasHeading_19 (by decide) ?_
      refine lv_iand hx hb dX1_hasHeading_20 ?_
      refine lv_if_ne (tgt := 28) hx hb dX1_hasHeading_21 (by decide) (fun c_4 => ?_) (fun c_4 => ?_)
      · have hJ := j_f c_4 hJ
        refine lv_iconst (v := 0) hx hb dX1_hasHeading_28 (by decide) ?_
        have ho := Option.some.inj hJ
        exact W.zret (v := (0 : Int32)) hx hb hr rfl (fun t ht hW => ⟨⟨_, (), rfl, ho, trivial⟩, hS.F ht⟩) hS.2.2 dX1_hasHeading_29
      · have hJ := j_t c_4 hJ
        refine lv_iconst (v := 1) hx hb dX1_hasHeading_24 (by decide) ?_
        refine lv_goto (tgt := 29) hx hb dX1_hasHeading_25 (by decide) ?_
        have ho := Option.some.inj hJ
        exact W.zret (v := (1 : Int32)) hx hb hr rfl (fun t ht hW => ⟨⟨_, (), rfl, ho, trivial⟩, hS.F ht⟩) hS.2.2 dX1_hasHeading_29
set_option maxHeartbeats 4000000 in
set_option maxRecDepth 100000 in
theorem c_X1_isFull (l : Launch) (D : va_G) (aF aFu aFk : Nat) (cFu cFk : ClassId) (w : Int32) (ht : Int32) (tn : Int32) (kp : Int32) (nFu : Nat) (fu : Nat → Int32) (nFk : Nat) (fk : Nat → Int32) (p0 : Int32) (p1 : Int32) (tX tY sz F : Nat) (o : Int32) (hJ : J_X1_isFull F w ht nFu fu p0 p1 = some o) : Met l yX1_isFull wsX1_isFull rmX1_isFull (va_Pc [.ref aF, .int p0, .int p1] (pcR D [(aF, .inr (2, [.int w, .int ht, .int tn, .ref aFu, .ref aFk, .int kp])), (aFu, .inl (cFu, nFu, .inl fu)), (aFk, .inl (cFk, nFk, .inl fk))] [(cFu, .boolean), (cFk, .int)] sz tX tY)) (qRi o (va_A [] sz)) 0 0 (va_A [] sz) := by
  refine Met.ofW (cc := cX1_isFull) (maxL := 3) (ret := (some .boolean)) (by decide) rfl ?_
  intro p e s m args below meth c s₁ B hml hv
  obtain ⟨rfl, hsz, hP, hK, hST⟩ := hv
  have hx := B.exec
  have hb := B.bytes
  have hr := B.returns
  have hts := atoms_spec (ws := wsX1_isFull) B.pre
  have hown : s.vm.findClass RX1 = some m.cls := findClass_of_methodNamed B.named
  have hlocks := B.notSynchronized
  subst hsz
  generalize hAe : va_A [] s.heap.size = A at hST ⊢
  have hA : ∀ q : Nat, s.heap.size ≤ q → A q := fun q h => by rw [← hAe]; exact Or.inr h
  have hS : va_S A s.heap s.heap [] := va_S.rf
  have hl := lv_entry ([.ref aF, .int p0, .int p1]) (n := 3) (Nat.le_of_ble_eq_true rfl)
  rw [lg_entry_eq]
  generalize (lg_sl ([.ref aF, .int p0, .int p1]) ++ List.replicate (3 - (lg_sl ([.ref aF, .int p0, .int p1])).length) Slot.unset).toArray = ls at hl ⊢
  have hl : lv_has ls 3 [(0, .ref aF), (1, .int p0), (2, .int p1)] := hl
  have iX1 : ∀ w ∈ wsX10, w ∈ wsX1_isFull := fun w h => List.mem_cons_of_mem _ (List.mem_append_right _ h)
  have k_1 := hts (.fieldLink RX1 21 "ParkWays$Field" "full" "[Z") (List.mem_of_getElem? (i := 1) rfl)
  have k_10 := hts (.initialized RX4) (List.mem_of_getElem? (i := 10) rfl)
  have k_9 := hts (.static yX4_cellAt) (List.mem_of_getElem? (i := 9) rfl)
  unfold J_X1_isFull at hJ
  refine lv_aload_n hx hb dX1_isFull_0 rfl (lv_at hl 0 rfl) ?_
  refine lv_iload_n hx hb dX1_isFull_1 rfl (lv_at hl 1 rfl) ?_
  refine lv_iload_n hx hb dX1_isFull_2 rfl (lv_at hl 2 rfl) ?_
  obtain ⟨v_1, hv_1, hJ⟩ := j_b hJ
  refine ro_i (va_runV (As := [.int p0, .int p1]) (rest := []) ⟨hx, hb, hml, hown, hts⟩ (c_X1_hasCell l D aF aFu aFk cFu cFk w ht tn kp nFu fu nFk fk p0 p1 tX tY s.heap.size F v_1 hv_1) (cwV 2 hts gX1_isFull_X1_hasCell rfl rfl rfl (by decide +kernel) ⟨Nat.le_of_ble_eq_true rfl, Nat.le_of_ble_eq_true rfl⟩) (preRV [.int p0, .int p1] hP hK hS hA hST [0, 1, 2] rfl [0, 1] rfl (ci := 2) (q0 := 0) rfl rfl) rfl rfl hl.1 rfl (lv_room (Nat.le_of_ble_eq_true rfl)) dX1_isFull_3 ⟨Nat.zero_le _, Nat.zero_le _⟩) hP hS hA (fun H locs hP hS => ?_)
  refine lv_if_eq (tgt := 26) hx hb dX1_isFull_6 (by decide) (fun c_2 => ?_) (fun c_2 => ?_)
  · have hJ := j_t c_2 hJ
    refine lv_iconst (v := 0) hx hb dX1_isFull_26 (by decide) ?_
    have ho := Option.some.inj hJ
    exact W.zret (v := (0 : Int32)) hx hb hr rfl (fun t ht hW => ⟨⟨_, (), rfl, ho, trivial⟩, hS.F ht⟩) hS.2.2 dX1_isFull_27
  · have hJ := j_f c_2 hJ
    refine lv_aload_n hx hb dX1_isFull_9 rfl (lv_at hl 0 rfl) ?_
    refine va_get (D := D) (ci := 2) (v := .ref aFu) (C := RX1) (T := TX1) (N := 6) hx hb hts iX1 hown hK hP 0 rfl rfl 3 (by decide) k_1 (fun _ h9 => h9) rfl dX1_isFull_10 ?_
    refine lv_iload_n hx hb dX1_isFull_13 rfl (lv_at hl 1 rfl) ?_
    refine lv_iload_n hx hb dX1_isFull_14 rfl (lv_at hl 2 rfl) ?_
    obtain ⟨v_3, hv_3, hJ⟩ := j_b hJ
    refine ro_i (va_runSN (As := [.int p0, .int p1]) (rest := [.ref aFu]) ⟨hx, hb, hml, hown, hts⟩ (c_X4_cellAt l D p0 p1 tX tY H.size F v_3 hv_3) ⟨va_cnB 2 hts gX1_isFull_X4_cellAt_n37 rfl rfl rfl (hST.1.2.2.2.2.2.2.2.2.2.2.2.2.2.2.2) k_10 (by decide +kernel) ⟨Nat.le_of_ble_eq_true rfl, Nat.le_of_ble_eq_true rfl⟩, k_9, trivial⟩ (preRS [.int p0, .int p1] hP hK hS hA hST [] rfl [] rfl) rfl rfl hl.1 rfl (lv_room (Nat.le_of_ble_eq_true rfl)) dX1_isFull_15 ⟨Nat.zero_le _, Nat.zero_le _⟩) hP hS hA (fun H locs hP hS => ?_)
    obtain ⟨h_4, hJ⟩ := g_in hJ
    refine va_zald hx hb hK hP 1 0 rfl rfl h_4 dX1_isFull_18 ?_
    refine lv_if_eq (tgt := 26) hx hb dX1_isFull_19 (by decide) (fun c_5 => ?_) (fun c_5 => ?_)
    · have hJ := j_t c_5 hJ
      refine lv_iconst (v := 0) hx hb dX1_isFull_26 (by decide) ?_
      have ho := Option.some.inj hJ
      exact W.zret (v := (0 : Int32)) hx hb hr rfl (fun t ht hW => ⟨⟨_, (), rfl, ho, trivial⟩, hS.F ht⟩) hS.2.2 dX1_isFull_27
    · have hJ := j_f c_5 hJ
      refine lv_iconst (v := 1) hx hb dX1_isFull_22 (by decide) ?_
      refine lv_goto (tgt := 27) hx hb dX1_isFull_23 (by decide) ?_
      have ho := Option.some.inj hJ
      exact W.zret (v := (1 : Int32)) hx hb hr rfl (fun t ht hW => ⟨⟨_, (), rfl, ho, trivial⟩, hS.F ht⟩) hS.2.2 dX1_isFull_27
set_option maxHeartbeats 4000000 in
set_option maxRecDepth 100000 in
theorem c_X1_isKeptClear (l : Launch) (D : va_G) (aF aFu aFk : Nat) (cFu cFk : ClassId) (w : Int32) (ht : Int32) (tn : Int32) (kp : Int32) (nFu : Nat) (fu : Nat → Int32) (nFk : Nat) (fk : Nat → Int32) (p0 : Int32) (p1 : Int32) (tX tY sz F : Nat) (o : Int32) (hJ : J_X1_isKeptClear F w ht nFk fk p0 p1 = some o) : Met l yX1_isKeptClear wsX1_isKeptClear rmX1_isKeptClear (va_Pc [.ref aF, .int p0, .int p1] (pcR D [(aF, .inr (2, [.int w, .int ht, .int tn, .ref aFu, .ref aFk, .int kp])), (aFu, .inl (cFu, nFu, .inl fu)), (aFk, .inl (cFk, nFk, .inl fk))] [(cFu, .boolean), (cFk, .int)] sz tX tY)) (qRi o (va_A [] sz)) 0 0 (va_A [] sz) := by
  refine Met.ofW (cc := cX1_isKeptClear) (maxL := 3) (ret := (some .boolean)) (by decide) rfl ?_
  intro p e s m args below meth c s₁ B hml hv
  obtain ⟨rfl, hsz, hP, hK, hST⟩ := hv
  have hx := B.exec
  have hb := B.bytes
  have hr := B.returns
  have hts := atoms_spec (ws := wsX1_isKeptClear) B.pre
  have hown : s.vm.findClass RX1 = some m.cls := findClass_of_methodNamed B.named
  have hlocks := B.notSynchronized
  subst hsz
  generalize hAe : va_A [] s.heap.size = A at hST ⊢
  have hA : ∀ q : Nat, s.heap.size ≤ q → A q := fun q h => by rw [← hAe]; exact Or.inr h
  have hS : va_S A s.heap s.heap [] := va_S.rf
  have hl := lv_entry ([.ref aF, .int p0, .int p1]) (n := 3) (Nat.le_of_ble_eq_true rfl)
  rw [lg_entry_eq]
  generalize (lg_sl ([.ref aF, .int p0, .int p1]) ++ List.replicate (3 - (lg_sl ([.ref aF, .int p0, .int p1])).length) Slot.unset).toArray = ls at hl ⊢
  have hl : lv_has ls 3 [(0, .ref aF), (1, .int p0), (2, .int p1)] := hl
  have iX1 : ∀ w ∈ wsX10, w ∈ wsX1_isKeptClear := fun w h => List.mem_cons_of_mem _ (List.mem_append_right _ h)
  have k_1 := hts (.fieldLink RX1 25 "ParkWays$Field" "fullWithinKeep" "[I") (List.mem_of_getElem? (i := 1) rfl)
  have k_10 := hts (.initialized RX4) (List.mem_of_getElem? (i := 10) rfl)
  have k_9 := hts (.static yX4_cellAt) (List.mem_of_getElem? (i := 9) rfl)
  unfold J_X1_isKeptClear at hJ
  refine lv_aload_n hx hb dX1_isKeptClear_0 rfl (lv_at hl 0 rfl) ?_
  refine lv_iload_n hx hb dX1_isKeptClear_1 rfl (lv_at hl 1 rfl) ?_
  refine lv_iload_n hx hb dX1_isKeptClear_2 rfl (lv_at hl 2 rfl) ?_
  obtain ⟨v_1, hv_1, hJ⟩ := j_b hJ
  refine ro_i (va_runV (As := [.int p0, .int p1]) (rest := []) ⟨hx, hb, hml, hown, hts⟩ (c_X1_hasCell l D aF aFu aFk cFu cFk w ht tn kp nFu fu nFk fk p0 p1 tX tY s.heap.size F v_1 hv_1) (cwV 2 hts gX1_isKeptClear_X1_hasCell rfl rfl rfl (by decide +kernel) ⟨Nat.le_of_ble_eq_true rfl, Nat.le_of_ble_eq_true rfl⟩) (preRV [.int p0, .int p1] hP hK hS hA hST [0, 1, 2] rfl [0, 1] rfl (ci := 2) (q0 := 0) rfl rfl) rfl rfl hl.1 rfl (lv_room (Nat.le_of_ble_eq_true rfl)) dX1_isKeptClear_3 ⟨Nat.zero_le _, Nat.zero_le _⟩) hP hS hA (fun H locs hP hS => ?_)
  refine lv_if_eq (tgt := 26) hx hb dX1_isKeptClear_6 (by decide) (fun c_2 => ?_) (fun c_2 => ?_)
  · have hJ := j_t c_2 hJ
    refine lv_iconst (v := 0) hx hb dX1_isKeptClear_26 (by decide) ?_
    have ho := Option.some.inj hJ
    exact W.zret (v := (0 : Int32)) hx hb hr rfl (fun t ht hW => ⟨⟨_, (), rfl, ho, trivial⟩, hS.F ht⟩) hS.2.2 dX1_isKeptClear_27
  · have hJ := j_f c_2 hJ
    refine lv_aload_n hx hb dX1_isKeptClear_9 rfl (lv_at hl 0 rfl) ?_
    refine va_get (D := D) (ci := 2) (v := .ref aFk) (C := RX1) (T := TX1) (N := 6) hx hb hts iX1 hown hK hP 0 rfl rfl 4 (by decide) k_1 (fun _ h9 => h9) rfl dX1_isKeptClear_10 ?_
    refine lv_iload_n hx hb dX1_isKeptClear_13 rfl (lv_at hl 1 rfl) ?_
    refine lv_iload_n hx hb dX1_isKeptClear_14 rfl (lv_at hl 2 rfl) ?_
    obtain ⟨v_3, hv_3, hJ⟩ := j_b hJ
    refine ro_i (va_runSN (As := [.int p0, .int p1]) (rest := [.ref aFk]) ⟨hx, hb, hml, hown, hts⟩ (c_X4_cellAt l D p0 p1 tX tY H.size F v_3 hv_3) ⟨va_cnB 2 hts gX1_isKeptClear_X4_cellAt_n37 rfl rfl rfl (hST.1.2.2.2.2.2.2.2.2.2.2.2.2.2.2.2) k_10 (by decide +kernel) ⟨Nat.le_of_ble_eq_true rfl, Nat.le_of_ble_eq_true rfl⟩, k_9, trivial⟩ (preRS [.int p0, .int p1] hP hK hS hA hST [] rfl [] rfl) rfl rfl hl.1 rfl (lv_room (Nat.le_of_ble_eq_true rfl)) dX1_isKeptClear_15 ⟨Nat.zero_le _, Nat.zero_le _⟩) hP hS hA (fun H locs hP hS => ?_)
    obtain ⟨h_4, hJ⟩ := g_in hJ
    refine va_iald hx hb hK hP 2 1 rfl rfl h_4 dX1_isKeptClear_18 ?_
    refine lv_if_ne (tgt := 26) hx hb dX1_isKeptClear_19 (by decide) (fun c_5 => ?_) (fun c_5 => ?_)
    · have hJ := j_f c_5 hJ
      refine lv_iconst (v := 0) hx hb dX1_isKeptClear_26 (by decide) ?_
      have ho := Option.some.inj hJ
      exact W.zret (v := (0 : Int32)) hx hb hr rfl (fun t ht hW => ⟨⟨_, (), rfl, ho, trivial⟩, hS.F ht⟩) hS.2.2 dX1_isKeptClear_27
    · have hJ := j_t c_5 hJ
      refine lv_iconst (v := 1) hx hb dX1_isKeptClear_22 (by decide) ?_
      refine lv_goto (tgt := 27) hx hb dX1_isKeptClear_23 (by decide) ?_
      have ho := Option.some.inj hJ
      exact W.zret (v := (1 : Int32)) hx hb hr rfl (fun t ht hW => ⟨⟨_, (), rfl, ho, trivial⟩, hS.F ht⟩) hS.2.2 dX1_isKeptClear_27
set_option maxHeartbeats 4000000 in
set_option maxRecDepth 100000 in
theorem c_X1_countAround (l : Launch) (D : va_G) (aF aFu aFk : Nat) (cFu cFk : ClassId) (w : Int32) (ht : Int32) (tn : Int32) (kp : Int32) (nFu : Nat) (fu : Nat → Int32) (nFk : Nat) (fk : Nat → Int32) (p0 : Int32) (p1 : Int32) (p2 : Int32) (tX tY sz F : Nat) (o : (Nat → Int32)) (hJ : J_X1_countAround F w ht kp nFk fk p0 p1 p2 = some o) : Met l yX1_countAround wsX1_countAround rmX1_countAround (va_Pc [.ref aF, .int p0, .int p1, .int p2] (pcW D [(aF, .inr (2, [.int w, .int ht, .int tn, .ref aFu, .ref aFk, .int kp])), (aFu, .inl (cFu, nFu, .inl fu)), (aFk, .inl (cFk, nFk, .inl fk))] [(cFu, .boolean), (cFk, .int)] sz tX tY)) (qWv D [(aF, .inr (2, [.int w, .int ht, .int tn, .ref aFu, .ref aFk, .int kp])), (aFu, .inl (cFu, nFu, .inl fu)), (aFk, .inl (cFk, nFk, .inl o))] (va_A [(aF, .inr (2, [.int w, .int ht, .int tn, .ref aFu, .ref aFk, .int kp])), (aFu, .inl (cFu, nFu, .inl fu)), (aFk, .inl (cFk, nFk, .inl fk))] sz)) 0 0 (va_A [(aF, .inr (2, [.int w, .int ht, .int tn, .ref aFu, .ref aFk, .int kp])), (aFu, .inl (cFu, nFu, .inl fu)), (aFk, .inl (cFk, nFk, .inl fk))] sz) := by
  refine Met.ofW (cc := cX1_countAround) (maxL := 6) (ret := none) (by decide) rfl ?_
  intro p e s m args below meth c s₁ B hml hv
  obtain ⟨rfl, hsz, hP, hK, hD0, hST⟩ := hv
  have hx := B.exec
  have hb := B.bytes
  have hr := B.returns
  have hts := atoms_spec (ws := wsX1_countAround) B.pre
  have hown : s.vm.findClass RX1 = some m.cls := findClass_of_methodNamed B.named
  have hlocks := B.notSynchronized
  subst hsz
  have hD := hD0.self (sz := s.heap.size)
  generalize hAe : va_A [(aF, .inr (2, [.int w, .int ht, .int tn, .ref aFu, .ref aFk, .int kp])), (aFu, .inl (cFu, nFu, .inl fu)), (aFk, .inl (cFk, nFk, .inl fk))] s.heap.size = A at hD hST ⊢
  have hA : ∀ q : Nat, s.heap.size ≤ q → A q := fun q h => by rw [← hAe]; exact Or.inr h
  have hS : va_S A s.heap s.heap [] := va_S.rf
  have hl := lv_entry ([.ref aF, .int p0, .int p1, .int p2]) (n := 6) (Nat.le_of_ble_eq_true rfl)
  rw [lg_entry_eq]
  generalize (lg_sl ([.ref aF, .int p0, .int p1, .int p2]) ++ List.replicate (6 - (lg_sl ([.ref aF, .int p0, .int p1, .int p2])).length) Slot.unset).toArray = ls at hl ⊢
  have hl : lv_has ls 6 [(0, .ref aF), (1, .int p0), (2, .int p1), (3, .int p2)] := hl
  have iX1 : ∀ w ∈ wsX10, w ∈ wsX1_countAround := fun w h => List.mem_cons_of_mem _ (List.mem_append_right _ h)
  have k_1 := hts (.fieldLink RX1 45 "ParkWays$Field" "keep" "I") (List.mem_of_getElem? (i := 1) rfl)
  have k_2 := hts (.fieldLink RX1 25 "ParkWays$Field" "fullWithinKeep" "[I") (List.mem_of_getElem? (i := 2) rfl)
  have k_11 := hts (.initialized RX4) (List.mem_of_getElem? (i := 11) rfl)
  have k_10 := hts (.static yX4_cellAt) (List.mem_of_getElem? (i := 10) rfl)
  have L_27 : ∀ (y1_7 : Int32) (y2_8 : Int32) (y3_9 : Int32) (y4_10 : Int32) (kk_71 : Int32 → (Nat → Int32) → Option ((Nat → Int32))) (hkk_71 : ∀ (H : Heap) (locs : List Loc) (x5_11 : Int32) (xfk_12 : Nat → Int32) (ls : Array Slot), kk_71 x5_11 xfk_12 = some o → va_P D vwCl [(aF, .inr (2, [.int w, .int ht, .int tn, .ref aFu, .ref aFk, .int kp])), (aFu, .inl (cFu, nFu, .inl fu)), (aFk, .inl (cFk, nFk, .inl xfk_12))] H → va_D A [(aF, .inr (2, [.int w, .int ht, .int tn, .ref aFu, .ref aFk, .int kp])), (aFu, .inl (cFu, nFu, .inl fu)), (aFk, .inl (cFk, nFk, .inl xfk_12))] → va_S A s.heap H locs → lv_has ls 6 [(0, .ref aF), (1, .int y1_7), (2, .int y2_8), (3, .int y3_9), (4, .int y4_10)] → W p l e (headSpec wsX1_countAround rmX1_countAround).room s m [.ref aF, .int p0, .int p1, .int p2].toArray below meth c H locs 0 0 (MQ below (qWv D [(aF, .inr (2, [.int w, .int ht, .int tn, .ref aFu, .ref aFk, .int kp])), (aFu, .inl (cFu, nFu, .inl fu)), (aFk, .inl (cFk, nFk, .inl o))] A) [.ref aF, .int p0, .int p1, .int p2].toArray s 0 0 A) (F0 m 71 ls [])) (fz : Nat) (H : Heap) (locs : List Loc) (x5_11 : Int32) (xfk_12 : Nat → Int32) (ls : Array Slot), J_X1_countAround_L27 F w ht kp nFk y1_7 y3_9 y4_10 kk_71 fz x5_11 xfk_12 = some o → va_P D vwCl [(aF, .inr (2, [.int w, .int ht, .int tn, .ref aFu, .ref aFk, .int kp])), (aFu, .inl (cFu, nFu, .inl fu)), (aFk, .inl (cFk, nFk, .inl xfk_12))] H → va_D A [(aF, .inr (2, [.int w, .int ht, .int tn, .ref aFu, .ref aFk, .int kp])), (aFu, .inl (cFu, nFu, .inl fu)), (aFk, .inl (cFk, nFk, .inl xfk_12))] → va_S A s.heap H locs → lv_has ls 6 [(0, .ref aF), (1, .int y1_7), (2, .int y2_8), (3, .int y3_9), (4, .int y4_10), (5, .int x5_11)] → W p l e (headSpec wsX1_countAround rmX1_countAround).room s m [.ref aF, .int p0, .int p1, .int p2].toArray below meth c H locs 0 0 (MQ below (qWv D [(aF, .inr (2, [.int w, .int ht, .int tn, .ref aFu, .ref aFk, .int kp])), (aFu, .inl (cFu, nFu, .inl fu)), (aFk, .inl (cFk, nFk, .inl o))] A) [.ref aF, .int p0, .int p1, .int p2].toArray s 0 0 A) (F0 m 27 ls []) := by
    intro y1_7 y2_8 y3_9 y4_10 kk_71 hkk_71 fz
    induction fz with
    | zero =>
      intro H locs x5_11 xfk_12 ls hJ
      rw [J_X1_countAround_L27] at hJ
      cases hJ
    | succ fz ih =>
      intro H locs x5_11 xfk_12 ls hJ hP hD hS hl
      rw [J_X1_countAround_L27] at hJ
      refine lv_iload hx hb dX1_countAround_27 (lv_at hl 5 rfl) ?_
      refine lv_iload_n hx hb dX1_countAround_29 rfl (lv_at hl 1 rfl) ?_
      refine lv_aload_n hx hb dX1_countAround_30 rfl (lv_at hl 0 rfl) ?_
      refine va_get (D := D) (ci := 2) (v := .int kp) (C := RX1) (T := TX1) (N := 6) hx hb hts iX1 hown hK hP 0 rfl rfl 5 (by decide) k_1 (fun _ h9 => h9) rfl dX1_countAround_31 ?_
      refine lv_iadd hx hb dX1_countAround_34 ?_
      refine lv_icmp_gt (tgt := 71) hx hb dX1_countAround_35 (by decide) (fun c_13 => ?_) (fun c_13 => ?_)
      · have hJ := j_t c_13 hJ
        exact hkk_71 H locs x5_11 xfk_12 ls hJ hP hD hS (lv_sub hl [0, 1, 2, 3, 4] rfl)
      · have hJ := j_f c_13 hJ
        refine lv_aload_n hx hb dX1_countAround_38 rfl (lv_at hl 0 rfl) ?_
        refine lv_iload hx hb dX1_countAround_39 (lv_at hl 5 rfl) ?_
        refine lv_iload hx hb dX1_countAround_41 (lv_at hl 4 rfl) ?_
        obtain ⟨v_14, hv_14, hJ⟩ := j_b hJ
        refine ro_i (va_runV (As := [.int x5_11, .int y4_10]) (rest := []) ⟨hx, hb, hml, hown, hts⟩ (c_X1_hasCell l D aF aFu aFk cFu cFk w ht tn kp nFu fu nFk xfk_12 x5_11 y4_10 tX tY H.size F v_14 hv_14) (cwV 2 hts gX1_countAround_X1_hasCell rfl rfl rfl (by decide +kernel) ⟨Nat.le_of_ble_eq_true rfl, Nat.le_of_ble_eq_true rfl⟩) (preRV [.int x5_11, .int y4_10] hP hK hS hA hST [0, 1, 2] rfl [0, 1] rfl (ci := 2) (q0 := 0) rfl rfl) rfl rfl hl.1 rfl (lv_room (Nat.le_of_ble_eq_true rfl)) dX1_countAround_43 ⟨Nat.zero_le _, Nat.zero_le _⟩) hP hS hA (fun H locs hP hS => ?_)
        refine lv_if_eq (tgt := 65) hx hb dX1_countAround_46 (by decide) (fun c_15 => ?_) (fun c_15 => ?_)
        · have hJ := j_t c_15 hJ
          refine lv_iinc (v := (x5_11 + (1 : Int32))) (lv' := [(5, .int (x5_11 + (1 : Int32))), (0, .ref aF), (1, .int y1_7), (2, .int y2_8), (3, .int y3_9), (4, .int y4_10)]) hx hb dX1_countAround_65 hl (k := 5) rfl rfl (by decide) rfl (fun ls hl => ?_)
          refine lv_goto (tgt := 27) hx hb dX1_countAround_68 (by decide) ?_
          exact ih H locs (x5_11 + (1 : Int32)) xfk_12 ls hJ hP hD hS (lv_sub hl [1, 2, 3, 4, 5, 0] rfl)
        · have hJ := j_f c_15 hJ
          refine lv_aload_n hx hb dX1_countAround_49 rfl (lv_at hl 0 rfl) ?_
          refine va_get (D := D) (ci := 2) (v := .ref aFk) (C := RX1) (T := TX1) (N := 6) hx hb hts iX1 hown hK hP 0 rfl rfl 4 (by decide) k_2 (fun _ h9 => h9) rfl dX1_countAround_50 ?_
          refine lv_iload hx hb dX1_countAround_53 (lv_at hl 5 rfl) ?_
          refine lv_iload hx hb dX1_countAround_55 (lv_at hl 4 rfl) ?_
          obtain ⟨v_16, hv_16, hJ⟩ := j_b hJ
          refine ro_i (va_runSN (As := [.int x5_11, .int y4_10]) (rest := [.ref aFk]) ⟨hx, hb, hml, hown, hts⟩ (c_X4_cellAt l D x5_11 y4_10 tX tY H.size F v_16 hv_16) ⟨va_cnB 2 hts gX1_countAround_X4_cellAt_n37 rfl rfl rfl (hST.1.2.2.2.2.2.2.2.2.2.2.2.2.2.2.2) k_11 (by decide +kernel) ⟨Nat.le_of_ble_eq_true rfl, Nat.le_of_ble_eq_true rfl⟩, k_10, trivial⟩ (preRS [.int x5_11, .int y4_10] hP hK hS hA hST [] rfl [] rfl) rfl rfl hl.1 rfl (lv_room (Nat.le_of_ble_eq_true rfl)) dX1_countAround_57 ⟨Nat.zero_le _, Nat.zero_le _⟩) hP hS hA (fun H locs hP hS => ?_)
          refine lv_dup2_11 hx hb dX1_countAround_60 rfl rfl ?_
          obtain ⟨h_17, hJ⟩ := g_in hJ
          refine va_iald hx hb hK hP 2 1 rfl rfl h_17 dX1_countAround_61 ?_
          refine lv_iload_n hx hb dX1_countAround_62 rfl (lv_at hl 3 rfl) ?_
          refine lv_iadd hx hb dX1_countAround_63 ?_
          obtain ⟨h_18, hJ⟩ := g_in hJ
          refine va_iast hx hb hK hP hD hS 2 1 rfl rfl h_18 dX1_countAround_64 (fun H locs hP hD hS => ?_)
          have hP : va_P D vwCl [(aF, .inr (2, [.int w, .int ht, .int tn, .ref aFu, .ref aFk, .int kp])), (aFu, .inl (cFu, nFu, .inl fu)), (aFk, .inl (cFk, nFk, .inl (upd xfk_12 v_16.toNatClampNeg ((xfk_12 v_16.toNatClampNeg) + y3_9))))] H := hP
          have hD : va_D A [(aF, .inr (2, [.int w, .int ht, .int tn, .ref aFu, .ref aFk, .int kp])), (aFu, .inl (cFu, nFu, .inl fu)), (aFk, .inl (cFk, nFk, .inl (upd xfk_12 v_16.toNatClampNeg ((xfk_12 v_16.toNatClampNeg) + y3_9))))] := hD
          refine lv_iinc (v := (x5_11 + (1 : Int32))) (lv' := [(5, .int (x5_11 + (1 : Int32))), (0, .ref aF), (1, .int y1_7), (2, .int y2_8), (3, .int y3_9), (4, .int y4_10)]) hx hb dX1_countAround_65 hl (k := 5) rfl rfl (by decide) rfl (fun ls hl => ?_)
          refine lv_goto (tgt := 27) hx hb dX1_countAround_68 (by decide) ?_
          exact ih H locs (x5_11 + (1 : Int32)) (upd xfk_12 v_16.toNatClampNeg ((xfk_12 v_16.toNatClampNeg) + y3_9)) ls hJ hP hD hS (lv_sub hl [1, 2, 3, 4, 5, 0] rfl)
  have L_8 : ∀ (y1_1 : Int32) (y2_2 : Int32) (y3_3 : Int32) (kk_77 : Int32 → (Nat → Int32) → Option ((Nat → Int32))) (hkk_77 : ∀ (H : Heap) (locs : List Loc) (x4_4 : Int32) (xfk_5 : Nat → Int32) (ls : Array Slot), kk_77 x4_4 xfk_5 = some o → va_P D vwCl [(aF, .inr (2, [.int w, .int ht, .int tn, .ref aFu, .ref aFk, .int kp])), (aFu, .inl (cFu, nFu, .inl fu)), (aFk, .inl (cFk, nFk, .inl xfk_5))] H → va_D A [(aF, .inr (2, [.int w, .int ht, .int tn, .ref aFu, .ref aFk, .int kp])), (aFu, .inl (cFu, nFu, .inl fu)), (aFk, .inl (cFk, nFk, .inl xfk_5))] → va_S A s.heap H locs → lv_has ls 6 [] → W p l e (headSpec wsX1_countAround rmX1_countAround).room s m [.ref aF, .int p0, .int p1, .int p2].toArray below meth c H locs 0 0 (MQ below (qWv D [(aF, .inr (2, [.int w, .int ht, .int tn, .ref aFu, .ref aFk, .int kp])), (aFu, .inl (cFu, nFu, .inl fu)), (aFk, .inl (cFk, nFk, .inl o))] A) [.ref aF, .int p0, .int p1, .int p2].toArray s 0 0 A) (F0 m 77 ls [])) (fz : Nat) (H : Heap) (locs : List Loc) (x4_4 : Int32) (xfk_5 : Nat → Int32) (ls : Array Slot), J_X1_countAround_L8 F w ht kp nFk y1_1 y2_2 y3_3 kk_77 fz x4_4 xfk_5 = some o → va_P D vwCl [(aF, .inr (2, [.int w, .int ht, .int tn, .ref aFu, .ref aFk, .int kp])), (aFu, .inl (cFu, nFu, .inl fu)), (aFk, .inl (cFk, nFk, .inl xfk_5))] H → va_D A [(aF, .inr (2, [.int w, .int ht, .int tn, .ref aFu, .ref aFk, .int kp])), (aFu, .inl (cFu, nFu, .inl fu)), (aFk, .inl (cFk, nFk, .inl xfk_5))] → va_S A s.heap H locs → lv_has ls 6 [(0, .ref aF), (1, .int y1_1), (2, .int y2_2), (3, .int y3_3), (4, .int x4_4)] → W p l e (headSpec wsX1_countAround rmX1_countAround).room s m [.ref aF, .int p0, .int p1, .int p2].toArray below meth c H locs 0 0 (MQ below (qWv D [(aF, .inr (2, [.int w, .int ht, .int tn, .ref aFu, .ref aFk, .int kp])), (aFu, .inl (cFu, nFu, .inl fu)), (aFk, .inl (cFk, nFk, .inl o))] A) [.ref aF, .int p0, .int p1, .int p2].toArray s 0 0 A) (F0 m 8 ls []) := by
    intro y1_1 y2_2 y3_3 kk_77 hkk_77 fz
    induction fz with
    | zero =>
      intro H locs x4_4 xfk_5 ls hJ
      rw [J_X1_countAround_L8] at hJ
      cases hJ
    | succ fz ih =>
      intro H locs x4_4 xfk_5 ls hJ hP hD hS hl
      rw [J_X1_countAround_L8] at hJ
      refine lv_iload hx hb dX1_countAround_8 (lv_at hl 4 rfl) ?_
      refine lv_iload_n hx hb dX1_countAround_10 rfl (lv_at hl 2 rfl) ?_
      refine lv_aload_n hx hb dX1_countAround_11 rfl (lv_at hl 0 rfl) ?_
      refine va_get (D := D) (ci := 2) (v := .int kp) (C := RX1) (T := TX1) (N := 6) hx hb hts iX1 hown hK hP 0 rfl rfl 5 (by decide) k_1 (fun _ h9 => h9) rfl dX1_countAround_12 ?_
      refine lv_iadd hx hb dX1_countAround_15 ?_
      refine lv_icmp_gt (tgt := 77) hx hb dX1_countAround_16 (by decide) (fun c_6 => ?_) (fun c_6 => ?_)
      · have hJ := j_t c_6 hJ
        exact hkk_77 H locs x4_4 xfk_5 ls hJ hP hD hS (lv_sub hl [] rfl)
      · have hJ := j_f c_6 hJ
        refine lv_iload_n hx hb dX1_countAround_19 rfl (lv_at hl 1 rfl) ?_
        refine lv_aload_n hx hb dX1_countAround_20 rfl (lv_at hl 0 rfl) ?_
        refine va_get (D := D) (ci := 2) (v := .int kp) (C := RX1) (T := TX1) (N := 6) hx hb hts iX1 hown hK hP 0 rfl rfl 5 (by decide) k_1 (fun _ h9 => h9) rfl dX1_countAround_21 ?_
        refine lv_isub hx hb dX1_countAround_24 ?_
        refine lv_istore (lv' := [(5, .int (y1_1 - kp)), (0, .ref aF), (1, .int y1_1), (2, .int y2_2), (3, .int y3_3), (4, .int x4_4)]) hx hb dX1_countAround_25 hl (by decide) rfl (fun ls hl => ?_)
        refine L_27 y1_1 y2_2 y3_3 x4_4 _ ?_ F H locs (y1_1 - kp) xfk_5 ls hJ hP hD hS (lv_sub hl [1, 2, 3, 4, 5, 0] rfl)
        · intro H locs x5_19 xfk_20 ls hJ hP hD hS hl
          refine lv_iinc (v := (x4_4 + (1 : Int32))) (lv' := [(4, .int (x4_4 + (1 : Int32))), (0, .ref aF), (1, .int y1_1), (2, .int y2_2), (3, .int y3_3)]) hx hb dX1_countAround_71 hl (k := 4) rfl rfl (by decide) rfl (fun ls hl => ?_)
          refine lv_goto (tgt := 8) hx hb dX1_countAround_74 (by decide) ?_
          exact ih H locs (x4_4 + (1 : Int32)) xfk_20 ls hJ hP hD hS (lv_sub hl [1, 2, 3, 4, 0] rfl)
  unfold J_X1_countAround at hJ
  refine lv_iload_n hx hb dX1_countAround_0 rfl (lv_at hl 2 rfl) ?_
  refine lv_aload_n hx hb dX1_countAround_1 rfl (lv_at hl 0 rfl) ?_
  refine va_get (D := D) (ci := 2) (v := .int kp) (C := RX1) (T := TX1) (N := 6) hx hb hts iX1 hown hK hP 0 rfl rfl 5 (by decide) k_1 (fun _ h9 => h9) rfl dX1_countAround_2 ?_
  refine lv_isub hx hb dX1_countAround_5 ?_
  refine lv_istore (lv' := [(4, .int (p1 - kp)), (0, .ref aF), (1, .int p0), (2, .int p1), (3, .int p2)]) hx hb dX1_countAround_6 hl (by decide) rfl (fun ls hl => ?_)
  refine L_8 p0 p1 p2 _ ?_ F s.heap [] (p1 - kp) fk ls hJ hP hD hS (lv_sub hl [1, 2, 3, 4, 0] rfl)
  · intro H locs x4_21 xfk_22 ls hJ hP hD hS hl
    have ho := Option.some.inj hJ
    exact W.vret hx hb hr (fun t ht hW => ⟨⟨(), rfl, trivial, (by rw [ht, ← ho]; exact hP), (by rw [← ho]; exact hD)⟩, hS.F ht⟩) hS.2.2 dX1_countAround_77
set_option maxHeartbeats 4000000 in
set_option maxRecDepth 100000 in
theorem c_X1_setFull (l : Launch) (D : va_G) (aF aFu aFk : Nat) (cFu cFk : ClassId) (w : Int32) (ht : Int32) (tn : Int32) (kp : Int32) (nFu : Nat) (fu : Nat → Int32) (nFk : Nat) (fk : Nat → Int32) (p0 : Int32) (p1 : Int32) (p2 : Int32) (tX tY sz F : Nat) (o : Int32 × (Nat → Int32) × (Nat → Int32)) (hJ : J_X1_setFull F w ht kp nFu fu nFk fk p0 p1 p2 = some o) : Met l yX1_setFull wsX1_setFull rmX1_setFull (va_Pc [.ref aF, .int p0, .int p1, .int p2] (pcW D [(aF, .inr (2, [.int w, .int ht, .int tn, .ref aFu, .ref aFk, .int kp])), (aFu, .inl (cFu, nFu, .inl fu)), (aFk, .inl (cFk, nFk, .inl fk))] [(cFu, .boolean), (cFk, .int)] sz tX tY)) (qWi D o.1 [(aF, .inr (2, [.int w, .int ht, .int tn, .ref aFu, .ref aFk, .int kp])), (aFu, .inl (cFu, nFu, .inl o.2.1)), (aFk, .inl (cFk, nFk, .inl o.2.2))] (va_A [(aF, .inr (2, [.int w, .int ht, .int tn, .ref aFu, .ref aFk, .int kp])), (aFu, .inl (cFu, nFu, .inl fu)), (aFk, .inl (cFk, nFk, .inl fk))] sz)) 0 0 (va_A [(aF, .inr (2, [.int w, .int ht, .int tn, .ref aFu, .ref aFk, .int kp])), (aFu, .inl (cFu, nFu, .inl fu)), (aFk, .inl (cFk, nFk, .inl fk))] sz) := by
  refine Met.ofW (cc := cX1_setFull) (maxL := 4) (ret := (some .boolean)) (by decide) rfl ?_
  intro p e s m args below meth c s₁ B hml hv
  obtain ⟨rfl, hsz, hP, hK, hD0, hST⟩ := hv
  have hx := B.exec
  have hb := B.bytes
  have hr := B.returns
  have hts := atoms_spec (ws := wsX1_setFull) B.pre
  have hown : s.vm.findClass RX1 = some m.cls := findClass_of_methodNamed B.named
  have hlocks := B.notSynchronized
  subst hsz
  have hD := hD0.self (sz := s.heap.size)
  generalize hAe : va_A [(aF, .inr (2, [.int w, .int ht, .int tn, .ref aFu, .ref aFk, .int kp])), (aFu, .inl (cFu, nFu, .inl fu)), (aFk, .inl (cFk, nFk, .inl fk))] s.heap.size = A at hD hST ⊢
  have hA : ∀ q : Nat, s.heap.size ≤ q → A q := fun q h => by rw [← hAe]; exact Or.inr h
  have hS : va_S A s.heap s.heap [] := va_S.rf
  have hl := lv_entry ([.ref aF, .int p0, .int p1, .int p2]) (n := 4) (Nat.le_of_ble_eq_true rfl)
  rw [lg_entry_eq]
  generalize (lg_sl ([.ref aF, .int p0, .int p1, .int p2]) ++ List.replicate (4 - (lg_sl ([.ref aF, .int p0, .int p1, .int p2])).length) Slot.unset).toArray = ls at hl ⊢
  have hl : lv_has ls 4 [(0, .ref aF), (1, .int p0), (2, .int p1), (3, .int p2)] := hl
  have iX1 : ∀ w ∈ wsX10, w ∈ wsX1_setFull := fun w h => List.mem_cons_of_mem _ (List.mem_append_right _ h)
  have k_1 := hts (.fieldLink RX1 21 "ParkWays$Field" "full" "[Z") (List.mem_of_getElem? (i := 1) rfl)
  have k_10 := hts (.initialized RX4) (List.mem_of_getElem? (i := 10) rfl)
  have k_9 := hts (.static yX4_cellAt) (List.mem_of_getElem? (i := 9) rfl)
  unfold J_X1_setFull at hJ
  refine lv_aload_n hx hb dX1_setFull_0 rfl (lv_at hl 0 rfl) ?_
  refine lv_iload_n hx hb dX1_setFull_1 rfl (lv_at hl 1 rfl) ?_
  refine lv_iload_n hx hb dX1_setFull_2 rfl (lv_at hl 2 rfl) ?_
  obtain ⟨v_1, hv_1, hJ⟩ := j_b hJ
  refine ro_i (va_runV (As := [.int p0, .int p1]) (rest := []) ⟨hx, hb, hml, hown, hts⟩ (c_X1_hasCell l D aF aFu aFk cFu cFk w ht tn kp nFu fu nFk fk p0 p1 tX tY s.heap.size F v_1 hv_1) (cwV 2 hts gX1_setFull_X1_hasCell rfl rfl rfl (by decide +kernel) ⟨Nat.le_of_ble_eq_true rfl, Nat.le_of_ble_eq_true rfl⟩) (preRV [.int p0, .int p1] hP hK hS hA hST [0, 1, 2] rfl [0, 1] rfl (ci := 2) (q0 := 0) rfl rfl) rfl rfl hl.1 rfl (lv_room (Nat.le_of_ble_eq_true rfl)) dX1_setFull_3 ⟨Nat.zero_le _, Nat.zero_le _⟩) hP hS hA (fun H locs hP hS => ?_)
  refine lv_if_eq (tgt := 23) hx hb dX1_setFull_6 (by decide) (fun c_2 => ?_) (fun c_2 => ?_)
  · have hJ := j_t c_2 hJ
    refine lv_iconst (v := 0) hx hb dX1_setFull_23 (by decide) ?_
    have ho := Option.some.inj hJ
    exact W.zret (v := (0 : Int32)) hx hb hr rfl (fun t ht hW => ⟨⟨_, (), rfl, (by rw [← ho]), (by rw [ht, ← ho]; exact hP), (by rw [← ho]; exact hD)⟩, hS.F ht⟩) hS.2.2 dX1_setFull_24
  · have hJ := j_f c_2 hJ
    refine lv_aload_n hx hb dX1_setFull_9 rfl (lv_at hl 0 rfl) ?_
    refine va_get (D := D) (ci := 2) (v := .ref aFu) (C := RX1) (T := TX1) (N := 6) hx hb hts iX1 hown hK hP 0 rfl rfl 3 (by decide) k_1 (fun _ h9 => h9) rfl dX1_setFull_10 ?_
    refine lv_iload_n hx hb dX1_setFull_13 rfl (lv_at hl 1 rfl) ?_
    refine lv_iload_n hx hb dX1_setFull_14 rfl (lv_at hl 2 rfl) ?_
    obtain ⟨v_3, hv_3, hJ⟩ := j_b hJ
    refine ro_i (va_runSN (As := [.int p0, .int p1]) (rest := [.ref aFu]) ⟨hx, hb, hml, hown, hts⟩ (c_X4_cellAt l D p0 p1 tX tY H.size F v_3 hv_3) ⟨va_cnB 2 hts gX1_setFull_X4_cellAt_n37 rfl rfl rfl (hST.1.2.2.2.2.2.2.2.2.2.2.2.2.2.2.2) k_10 (by decide +kernel) ⟨Nat.le_of_ble_eq_true rfl, Nat.le_of_ble_eq_true rfl⟩, k_9, trivial⟩ (preRS [.int p0, .int p1] hP hK hS hA hST [] rfl [] rfl) rfl rfl hl.1 rfl (lv_room (Nat.le_of_ble_eq_true rfl)) dX1_setFull_15 ⟨Nat.zero_le _, Nat.zero_le _⟩) hP hS hA (fun H locs hP hS => ?_)
    obtain ⟨h_4, hJ⟩ := g_in hJ
    refine va_zald hx hb hK hP 1 0 rfl rfl h_4 dX1_setFull_18 ?_
    refine lv_iload_n hx hb dX1_setFull_19 rfl (lv_at hl 3 rfl) ?_
    refine lv_icmp_ne (tgt := 25) hx hb dX1_setFull_20 (by decide) (fun c_5 => ?_) (fun c_5 => ?_)
    · have hJ := j_f c_5 hJ
      refine lv_aload_n hx hb dX1_setFull_25 rfl (lv_at hl 0 rfl) ?_
      refine va_get (D := D) (ci := 2) (v := .ref aFu) (C := RX1) (T := TX1) (N := 6) hx hb hts iX1 hown hK hP 0 rfl rfl 3 (by decide) k_1 (fun _ h9 => h9) rfl dX1_setFull_26 ?_
      refine lv_iload_n hx hb dX1_setFull_29 rfl (lv_at hl 1 rfl) ?_
      refine lv_iload_n hx hb dX1_setFull_30 rfl (lv_at hl 2 rfl) ?_
      obtain ⟨v_6, hv_6, hJ⟩ := j_b hJ
      refine ro_i (va_runSN (As := [.int p0, .int p1]) (rest := [.ref aFu]) ⟨hx, hb, hml, hown, hts⟩ (c_X4_cellAt l D p0 p1 tX tY H.size F v_6 hv_6) ⟨va_cnB 2 hts gX1_setFull_X4_cellAt_n37 rfl rfl rfl (hST.1.2.2.2.2.2.2.2.2.2.2.2.2.2.2.2) k_10 (by decide +kernel) ⟨Nat.le_of_ble_eq_true rfl, Nat.le_of_ble_eq_true rfl⟩, k_9, trivial⟩ (preRS [.int p0, .int p1] hP hK hS hA hST [] rfl [] rfl) rfl rfl hl.1 rfl (lv_room (Nat.le_of_ble_eq_true rfl)) dX1_setFull_31 ⟨Nat.zero_le _, Nat.zero_le _⟩) hP hS hA (fun H locs hP hS => ?_)
      refine lv_iload_n hx hb dX1_setFull_34 rfl (lv_at hl 3 rfl) ?_
      obtain ⟨h_7, hJ⟩ := g_in hJ
      refine va_zast hx hb hK hP hD hS 1 0 rfl rfl h_7 dX1_setFull_35 (fun H locs hP hD hS => ?_)
      have hP : va_P D vwCl [(aF, .inr (2, [.int w, .int ht, .int tn, .ref aFu, .ref aFk, .int kp])), (aFu, .inl (cFu, nFu, .inl (upd fu v_6.toNatClampNeg (vp_nar .boolean p2)))), (aFk, .inl (cFk, nFk, .inl fk))] H := hP
      have hD : va_D A [(aF, .inr (2, [.int w, .int ht, .int tn, .ref aFu, .ref aFk, .int kp])), (aFu, .inl (cFu, nFu, .inl (upd fu v_6.toNatClampNeg (vp_nar .boolean p2)))), (aFk, .inl (cFk, nFk, .inl fk))] := hD
      refine lv_aload_n hx hb dX1_setFull_36 rfl (lv_at hl 0 rfl) ?_
      refine lv_iload_n hx hb dX1_setFull_37 rfl (lv_at hl 1 rfl) ?_
      refine lv_iload_n hx hb dX1_setFull_38 rfl (lv_at hl 2 rfl) ?_
      refine lv_iload_n hx hb dX1_setFull_39 rfl (lv_at hl 3 rfl) ?_
      refine lv_if_eq (tgt := 47) hx hb dX1_setFull_40 (by decide) (fun c_8 => ?_) (fun c_8 => ?_)
      · have hJ := j_t c_8 hJ
        refine lv_iconst (v := (-1)) hx hb dX1_setFull_47 (by decide) ?_
        obtain ⟨v_9, hv_9, hJ⟩ := j_b hJ
        refine wr_v (wr := []) (wn := [(aF, .inr (2, [.int w, .int ht, .int tn, .ref aFu, .ref aFk, .int kp])), (aFu, .inl (cFu, nFu, .inl (upd fu v_6.toNatClampNeg (vp_nar .boolean p2)))), (aFk, .inl (cFk, nFk, .inl v_9))]) (va_runV (As := [.int p0, .int p1, .int (-1 : Int32)]) (rest := []) ⟨hx, hb, hml, hown, hts⟩ (c_X1_countAround l D aF aFu aFk cFu cFk w ht tn kp nFu (upd fu v_6.toNatClampNeg (vp_nar .boolean p2)) nFk fk p0 p1 (-1 : Int32) tX tY H.size F v_9 hv_9) (cwV 3 hts gX1_setFull_X1_countAround rfl rfl rfl (by decide +kernel) ⟨Nat.le_of_ble_eq_true rfl, Nat.le_of_ble_eq_true rfl⟩) (preWV [.int p0, .int p1, .int (-1 : Int32)] hP hD hK hS hA hST [0, 1, 2] rfl rfl rfl [0, 1] rfl (ci := 2) (q0 := 0) rfl rfl) rfl rfl hl.1 rfl (lv_room (Nat.le_of_ble_eq_true rfl)) dX1_setFull_48 ⟨Nat.zero_le _, Nat.zero_le _⟩) hP hD hS hA [0, 1, 2] [] rfl rfl rfl (by decide) [0, 1, 2] rfl rfl rfl (fun H locs hP hD hS => ?_)
        refine lv_iconst (v := 1) hx hb dX1_setFull_51 (by decide) ?_
        have ho := Option.some.inj hJ
        exact W.zret (v := (1 : Int32)) hx hb hr rfl (fun t ht hW => ⟨⟨_, (), rfl, (by rw [← ho]), (by rw [ht, ← ho]; exact hP), (by rw [← ho]; exact hD)⟩, hS.F ht⟩) hS.2.2 dX1_setFull_52
      · have hJ := j_f c_8 hJ
        refine lv_iconst (v := 1) hx hb dX1_setFull_43 (by decide) ?_
        refine lv_goto (tgt := 48) hx hb dX1_setFull_44 (by decide) ?_
        obtain ⟨v_10, hv_10, hJ⟩ := j_b hJ
        refine wr_v (wr := []) (wn := [(aF, .inr (2, [.int w, .int ht, .int tn, .ref aFu, .ref aFk, .int kp])), (aFu, .inl (cFu, nFu, .inl (upd fu v_6.toNatClampNeg (vp_nar .boolean p2)))), (aFk, .inl (cFk, nFk, .inl v_10))]) (va_runV (As := [.int p0, .int p1, .int (1 : Int32)]) (rest := []) ⟨hx, hb, hml, hown, hts⟩ (c_X1_countAround l D aF aFu aFk cFu cFk w ht tn kp nFu (upd fu v_6.toNatClampNeg (vp_nar .boolean p2)) nFk fk p0 p1 (1 : Int32) tX tY H.size F v_10 hv_10) (cwV 3 hts gX1_setFull_X1_countAround rfl rfl rfl (by decide +kernel) ⟨Nat.le_of_ble_eq_true rfl, Nat.le_of_ble_eq_true rfl⟩) (preWV [.int p0, .int p1, .int (1 : Int32)] hP hD hK hS hA hST [0, 1, 2] rfl rfl rfl [0, 1] rfl (ci := 2) (q0 := 0) rfl rfl) rfl rfl hl.1 rfl (lv_room (Nat.le_of_ble_eq_true rfl)) dX1_setFull_48 ⟨Nat.zero_le _, Nat.zero_le _⟩) hP hD hS hA [0, 1, 2] [] rfl rfl rfl (by decide) [0, 1, 2] rfl rfl rfl (fun H locs hP hD hS => ?_)
        refine lv_iconst (v := 1) hx hb dX1_setFull_51 (by decide) ?_
        have ho := Option.some.inj hJ
        exact W.zret (v := (1 : Int32)) hx hb hr rfl (fun t ht hW => ⟨⟨_, (), rfl, (by rw [← ho]), (by rw [ht, ← ho]; exact hP), (by rw [← ho]; exact hD)⟩, hS.F ht⟩) hS.2.2 dX1_setFull_52
    · have hJ := j_t c_5 hJ
      refine lv_iconst (v := 0) hx hb dX1_setFull_23 (by decide) ?_
      have ho := Option.some.inj hJ
      exact W.zret (v := (0 : Int32)) hx hb hr rfl (fun t ht hW => ⟨⟨_, (), rfl, (by rw [← ho]), (by rw [ht, ← ho]; exact hP), (by rw [← ho]; exact hD)⟩, hS.F ht⟩) hS.2.2 dX1_setFull_24
set_option maxHeartbeats 4000000 in
set_option maxRecDepth 100000 in
theorem c_X1_setKeep (l : Launch) (D : va_G) (aF aFu aFk : Nat) (cFu cFk : ClassId) (w : Int32) (ht : Int32) (tn : Int32) (kp : Int32) (nFu : Nat) (fu : Nat → Int32) (nFk : Nat) (fk : Nat → Int32) (p0 : Int32) (tX tY sz F : Nat) (o : Int32 × (Nat → Int32)) (hJ : J_X1_setKeep F w ht nFu fu nFk fk p0 = some o) : Met l yX1_setKeep wsX1_setKeep rmX1_setKeep (va_Pc [.ref aF, .int p0] (pcW D [(aF, .inr (2, [.int w, .int ht, .int tn, .ref aFu, .ref aFk, .int kp])), (aFu, .inl (cFu, nFu, .inl fu)), (aFk, .inl (cFk, nFk, .inl fk))] [(cFu, .boolean), (cFk, .int)] sz tX tY)) (qWv D [(aF, .inr (2, [.int w, .int ht, .int tn, .ref aFu, .ref aFk, .int o.1])), (aFu, .inl (cFu, nFu, .inl fu)), (aFk, .inl (cFk, nFk, .inl o.2))] (va_A [(aF, .inr (2, [.int w, .int ht, .int tn, .ref aFu, .ref aFk, .int kp])), (aFu, .inl (cFu, nFu, .inl fu)), (aFk, .inl (cFk, nFk, .inl fk))] sz)) 0 0 (va_A [(aF, .inr (2, [.int w, .int ht, .int tn, .ref aFu, .ref aFk, .int kp])), (aFu, .inl (cFu, nFu, .inl fu)), (aFk, .inl (cFk, nFk, .inl fk))] sz) := by
  refine Met.ofW (cc := cX1_setKeep) (maxL := 4) (ret := none) (by decide) rfl ?_
  intro p e s m args below meth c s₁ B hml hv
  obtain ⟨rfl, hsz, hP, hK, hD0, hST⟩ := hv
  have hx := B.exec
  have hb := B.bytes
  have hr := B.returns
  have hts := atoms_spec (ws := wsX1_setKeep) B.pre
  have hown : s.vm.findClass RX1 = some m.cls := findClass_of_methodNamed B.named
  have hlocks := B.notSynchronized
  subst hsz
  have hD := hD0.self (sz := s.heap.size)
  generalize hAe : va_A [(aF, .inr (2, [.int w, .int ht, .int tn, .ref aFu, .ref aFk, .int kp])), (aFu, .inl (cFu, nFu, .inl fu)), (aFk, .inl (cFk, nFk, .inl fk))] s.heap.size = A at hD hST ⊢
  have hA : ∀ q : Nat, s.heap.size ≤ q → A q := fun q h => by rw [← hAe]; exact Or.inr h
  have hS : va_S A s.heap s.heap [] := va_S.rf
  have hl := lv_entry ([.ref aF, .int p0]) (n := 4) (Nat.le_of_ble_eq_true rfl)
  rw [lg_entry_eq]
  generalize (lg_sl ([.ref aF, .int p0]) ++ List.replicate (4 - (lg_sl ([.ref aF, .int p0])).length) Slot.unset).toArray = ls at hl ⊢
  have hl : lv_has ls 4 [(0, .ref aF), (1, .int p0)] := hl
  have iX1 : ∀ w ∈ wsX10, w ∈ wsX1_setKeep := fun w h => List.mem_cons_of_mem _ (List.mem_append_right _ h)
  have k_1 := hts (.fieldLink RX1 45 "ParkWays$Field" "keep" "I") (List.mem_of_getElem? (i := 1) rfl)
  have k_2 := hts (.fieldLink RX1 25 "ParkWays$Field" "fullWithinKeep" "[I") (List.mem_of_getElem? (i := 2) rfl)
  have k_3 := hts (.fieldLink RX1 15 "ParkWays$Field" "height" "I") (List.mem_of_getElem? (i := 3) rfl)
  have k_4 := hts (.fieldLink RX1 9 "ParkWays$Field" "width" "I") (List.mem_of_getElem? (i := 4) rfl)
  have L_25 : ∀ (y2_6 : Int32) (ykp_8 : Int32) (kk_55 : Int32 → (Nat → Int32) → Option (Int32 × (Nat → Int32))) (hkk_55 : ∀ (H : Heap) (locs : List Loc) (x3_7 : Int32) (xfk_9 : Nat → Int32) (ls : Array Slot), kk_55 x3_7 xfk_9 = some o → va_P D vwCl [(aF, .inr (2, [.int w, .int ht, .int tn, .ref aFu, .ref aFk, .int ykp_8])), (aFu, .inl (cFu, nFu, .inl fu)), (aFk, .inl (cFk, nFk, .inl xfk_9))] H → va_D A [(aF, .inr (2, [.int w, .int ht, .int tn, .ref aFu, .ref aFk, .int ykp_8])), (aFu, .inl (cFu, nFu, .inl fu)), (aFk, .inl (cFk, nFk, .inl xfk_9))] → va_S A s.heap H locs → lv_has ls 4 [(0, .ref aF), (2, .int y2_6)] → W p l e (headSpec wsX1_setKeep rmX1_setKeep).room s m [.ref aF, .int p0].toArray below meth c H locs 0 0 (MQ below (qWv D [(aF, .inr (2, [.int w, .int ht, .int tn, .ref aFu, .ref aFk, .int o.1])), (aFu, .inl (cFu, nFu, .inl fu)), (aFk, .inl (cFk, nFk, .inl o.2))] A) [.ref aF, .int p0].toArray s 0 0 A) (F0 m 55 ls [])) (fz : Nat) (H : Heap) (locs : List Loc) (x3_7 : Int32) (xfk_9 : Nat → Int32) (ls : Array Slot), J_X1_setKeep_L25 F w ht nFu fu nFk y2_6 ykp_8 kk_55 fz x3_7 xfk_9 = some o → va_P D vwCl [(aF, .inr (2, [.int w, .int ht, .int tn, .ref aFu, .ref aFk, .int ykp_8])), (aFu, .inl (cFu, nFu, .inl fu)), (aFk, .inl (cFk, nFk, .inl xfk_9))] H → va_D A [(aF, .inr (2, [.int w, .int ht, .int tn, .ref aFu, .ref aFk, .int ykp_8])), (aFu, .inl (cFu, nFu, .inl fu)), (aFk, .inl (cFk, nFk, .inl xfk_9))] → va_S A s.heap H locs → lv_has ls 4 [(0, .ref aF), (2, .int y2_6), (3, .int x3_7)] → W p l e (headSpec wsX1_setKeep rmX1_setKeep).room s m [.ref aF, .int p0].toArray below meth c H locs 0 0 (MQ below (qWv D [(aF, .inr (2, [.int w, .int ht, .int tn, .ref aFu, .ref aFk, .int o.1])), (aFu, .inl (cFu, nFu, .inl fu)), (aFk, .inl (cFk, nFk, .inl o.2))] A) [.ref aF, .int p0].toArray s 0 0 A) (F0 m 25 ls []) := by
    intro y2_6 ykp_8 kk_55 hkk_55 fz
    induction fz with
    | zero =>
      intro H locs x3_7 xfk_9 ls hJ
      rw [J_X1_setKeep_L25] at hJ
      cases hJ
    | succ fz ih =>
      intro H locs x3_7 xfk_9 ls hJ hP hD hS hl
      rw [J_X1_setKeep_L25] at hJ
      refine lv_iload_n hx hb dX1_setKeep_25 rfl (lv_at hl 2 rfl) ?_
      refine lv_aload_n hx hb dX1_setKeep_26 rfl (lv_at hl 0 rfl) ?_
      refine va_get (D := D) (ci := 2) (v := .int w) (C := RX1) (T := TX1) (N := 6) hx hb hts iX1 hown hK hP 0 rfl rfl 0 (by decide) k_4 (fun _ h9 => h9) rfl dX1_setKeep_27 ?_
      refine lv_icmp_ge (tgt := 55) hx hb dX1_setKeep_30 (by decide) (fun c_10 => ?_) (fun c_10 => ?_)
      · have hJ := j_t c_10 hJ
        exact hkk_55 H locs x3_7 xfk_9 ls hJ hP hD hS (lv_sub hl [0, 1] rfl)
      · have hJ := j_f c_10 hJ
        refine lv_aload_n hx hb dX1_setKeep_33 rfl (lv_at hl 0 rfl) ?_
        refine lv_iload_n hx hb dX1_setKeep_34 rfl (lv_at hl 2 rfl) ?_
        refine lv_iload_n hx hb dX1_setKeep_35 rfl (lv_at hl 1 rfl) ?_
        obtain ⟨v_11, hv_11, hJ⟩ := j_b hJ
        refine ro_i (va_runV (As := [.int x3_7, .int y2_6]) (rest := []) ⟨hx, hb, hml, hown, hts⟩ (c_X1_isFull l D aF aFu aFk cFu cFk w ht tn ykp_8 nFu fu nFk xfk_9 x3_7 y2_6 tX tY H.size F v_11 hv_11) (cwV 2 hts gX1_setKeep_X1_isFull rfl rfl rfl (by decide +kernel) ⟨Nat.le_of_ble_eq_true rfl, Nat.le_of_ble_eq_true rfl⟩) (preRV [.int x3_7, .int y2_6] hP hK hS hA hST [0, 1, 2] rfl [0, 1] rfl (ci := 2) (q0 := 0) rfl rfl) rfl rfl hl.1 rfl (lv_room (Nat.le_of_ble_eq_true rfl)) dX1_setKeep_36 ⟨Nat.zero_le _, Nat.zero_le _⟩) hP hS hA (fun H locs hP hS => ?_)
        refine lv_if_eq (tgt := 49) hx hb dX1_setKeep_39 (by decide) (fun c_12 => ?_) (fun c_12 => ?_)
        · have hJ := j_t c_12 hJ
          refine lv_iinc (v := (x3_7 + (1 : Int32))) (lv' := [(3, .int (x3_7 + (1 : Int32))), (0, .ref aF), (2, .int y2_6)]) hx hb dX1_setKeep_49 hl (k := 2) rfl rfl (by decide) rfl (fun ls hl => ?_)
          refine lv_goto (tgt := 25) hx hb dX1_setKeep_52 (by decide) ?_
          exact ih H locs (x3_7 + (1 : Int32)) xfk_9 ls hJ hP hD hS (lv_sub hl [1, 2, 0] rfl)
        · have hJ := j_f c_12 hJ
          refine lv_aload_n hx hb dX1_setKeep_42 rfl (lv_at hl 0 rfl) ?_
          refine lv_iload_n hx hb dX1_setKeep_43 rfl (lv_at hl 2 rfl) ?_
          refine lv_iload_n hx hb dX1_setKeep_44 rfl (lv_at hl 1 rfl) ?_
          refine lv_iconst (v := 1) hx hb dX1_setKeep_45 (by decide) ?_
          obtain ⟨v_13, hv_13, hJ⟩ := j_b hJ
          refine wr_v (wr := []) (wn := [(aF, .inr (2, [.int w, .int ht, .int tn, .ref aFu, .ref aFk, .int ykp_8])), (aFu, .inl (cFu, nFu, .inl fu)), (aFk, .inl (cFk, nFk, .inl v_13))]) (va_runV (As := [.int x3_7, .int y2_6, .int (1 : Int32)]) (rest := []) ⟨hx, hb, hml, hown, hts⟩ (c_X1_countAround l D aF aFu aFk cFu cFk w ht tn ykp_8 nFu fu nFk xfk_9 x3_7 y2_6 (1 : Int32) tX tY H.size F v_13 hv_13) (cwV 3 hts gX1_setKeep_X1_countAround rfl rfl rfl (by decide +kernel) ⟨Nat.le_of_ble_eq_true rfl, Nat.le_of_ble_eq_true rfl⟩) (preWV [.int x3_7, .int y2_6, .int (1 : Int32)] hP hD hK hS hA hST [0, 1, 2] rfl rfl rfl [0, 1] rfl (ci := 2) (q0 := 0) rfl rfl) rfl rfl hl.1 rfl (lv_room (Nat.le_of_ble_eq_true rfl)) dX1_setKeep_46 ⟨Nat.zero_le _, Nat.zero_le _⟩) hP hD hS hA [0, 1, 2] [] rfl rfl rfl (by decide) [0, 1, 2] rfl rfl rfl (fun H locs hP hD hS => ?_)
          refine lv_iinc (v := (x3_7 + (1 : Int32))) (lv' := [(3, .int (x3_7 + (1 : Int32))), (0, .ref aF), (2, .int y2_6)]) hx hb dX1_setKeep_49 hl (k := 2) rfl rfl (by decide) rfl (fun ls hl => ?_)
          refine lv_goto (tgt := 25) hx hb dX1_setKeep_52 (by decide) ?_
          exact ih H locs (x3_7 + (1 : Int32)) v_13 ls hJ hP hD hS (lv_sub hl [1, 2, 0] rfl)
  have L_15 : ∀ (ykp_3 : Int32) (kk_61 : Int32 → (Nat → Int32) → Option (Int32 × (Nat → Int32))) (hkk_61 : ∀ (H : Heap) (locs : List Loc) (x2_2 : Int32) (xfk_4 : Nat → Int32) (ls : Array Slot), kk_61 x2_2 xfk_4 = some o → va_P D vwCl [(aF, .inr (2, [.int w, .int ht, .int tn, .ref aFu, .ref aFk, .int ykp_3])), (aFu, .inl (cFu, nFu, .inl fu)), (aFk, .inl (cFk, nFk, .inl xfk_4))] H → va_D A [(aF, .inr (2, [.int w, .int ht, .int tn, .ref aFu, .ref aFk, .int ykp_3])), (aFu, .inl (cFu, nFu, .inl fu)), (aFk, .inl (cFk, nFk, .inl xfk_4))] → va_S A s.heap H locs → lv_has ls 4 [] → W p l e (headSpec wsX1_setKeep rmX1_setKeep).room s m [.ref aF, .int p0].toArray below meth c H locs 0 0 (MQ below (qWv D [(aF, .inr (2, [.int w, .int ht, .int tn, .ref aFu, .ref aFk, .int o.1])), (aFu, .inl (cFu, nFu, .inl fu)), (aFk, .inl (cFk, nFk, .inl o.2))] A) [.ref aF, .int p0].toArray s 0 0 A) (F0 m 61 ls [])) (fz : Nat) (H : Heap) (locs : List Loc) (x2_2 : Int32) (xfk_4 : Nat → Int32) (ls : Array Slot), J_X1_setKeep_L15 F w ht nFu fu nFk ykp_3 kk_61 fz x2_2 xfk_4 = some o → va_P D vwCl [(aF, .inr (2, [.int w, .int ht, .int tn, .ref aFu, .ref aFk, .int ykp_3])), (aFu, .inl (cFu, nFu, .inl fu)), (aFk, .inl (cFk, nFk, .inl xfk_4))] H → va_D A [(aF, .inr (2, [.int w, .int ht, .int tn, .ref aFu, .ref aFk, .int ykp_3])), (aFu, .inl (cFu, nFu, .inl fu)), (aFk, .inl (cFk, nFk, .inl xfk_4))] → va_S A s.heap H locs → lv_has ls 4 [(0, .ref aF), (2, .int x2_2)] → W p l e (headSpec wsX1_setKeep rmX1_setKeep).room s m [.ref aF, .int p0].toArray below meth c H locs 0 0 (MQ below (qWv D [(aF, .inr (2, [.int w, .int ht, .int tn, .ref aFu, .ref aFk, .int o.1])), (aFu, .inl (cFu, nFu, .inl fu)), (aFk, .inl (cFk, nFk, .inl o.2))] A) [.ref aF, .int p0].toArray s 0 0 A) (F0 m 15 ls []) := by
    intro ykp_3 kk_61 hkk_61 fz
    induction fz with
    | zero =>
      intro H locs x2_2 xfk_4 ls hJ
      rw [J_X1_setKeep_L15] at hJ
      cases hJ
    | succ fz ih =>
      intro H locs x2_2 xfk_4 ls hJ hP hD hS hl
      rw [J_X1_setKeep_L15] at hJ
      refine lv_iload_n hx hb dX1_setKeep_15 rfl (lv_at hl 1 rfl) ?_
      refine lv_aload_n hx hb dX1_setKeep_16 rfl (lv_at hl 0 rfl) ?_
      refine va_get (D := D) (ci := 2) (v := .int ht) (C := RX1) (T := TX1) (N := 6) hx hb hts iX1 hown hK hP 0 rfl rfl 1 (by decide) k_3 (fun _ h9 => h9) rfl dX1_setKeep_17 ?_
      refine lv_icmp_ge (tgt := 61) hx hb dX1_setKeep_20 (by decide) (fun c_5 => ?_) (fun c_5 => ?_)
      · have hJ := j_t c_5 hJ
        exact hkk_61 H locs x2_2 xfk_4 ls hJ hP hD hS (lv_sub hl [] rfl)
      · have hJ := j_f c_5 hJ
        refine lv_iconst (v := 0) hx hb dX1_setKeep_23 (by decide) ?_
        refine lv_istore_n (lv' := [(3, .int (0 : Int32)), (0, .ref aF), (2, .int x2_2)]) hx hb dX1_setKeep_24 rfl hl (by decide) rfl (fun ls hl => ?_)
        refine L_25 x2_2 ykp_3 _ ?_ F H locs (0 : Int32) xfk_4 ls hJ hP hD hS (lv_sub hl [1, 2, 0] rfl)
        · intro H locs x3_14 xfk_15 ls hJ hP hD hS hl
          refine lv_iinc (v := (x2_2 + (1 : Int32))) (lv' := [(2, .int (x2_2 + (1 : Int32))), (0, .ref aF)]) hx hb dX1_setKeep_55 hl (k := 1) rfl rfl (by decide) rfl (fun ls hl => ?_)
          refine lv_goto (tgt := 15) hx hb dX1_setKeep_58 (by decide) ?_
          exact ih H locs (x2_2 + (1 : Int32)) xfk_15 ls hJ hP hD hS (lv_sub hl [1, 0] rfl)
  unfold J_X1_setKeep at hJ
  refine lv_aload_n hx hb dX1_setKeep_0 rfl (lv_at hl 0 rfl) ?_
  refine lv_iload_n hx hb dX1_setKeep_1 rfl (lv_at hl 1 rfl) ?_
  refine va_put (D := D) (ci := 2) (v := .int p0) (ty := .int) (C := RX1) (T := TX1) (N := 6) hx hb hts iX1 tyX1 tyX1_ok nmX1 hown hK hP hD hS 0 rfl rfl 5 (by decide) k_1 (fun _ h9 => h9) rfl (by decide +kernel) rfl rfl (Nat.le_of_ble_eq_true rfl) dX1_setKeep_2 (fun H locs hP hD hS => ?_)
  have hP : va_P D vwCl [(aF, .inr (2, [.int w, .int ht, .int tn, .ref aFu, .ref aFk, .int p0])), (aFu, .inl (cFu, nFu, .inl fu)), (aFk, .inl (cFk, nFk, .inl fk))] H := hP
  have hD : va_D A [(aF, .inr (2, [.int w, .int ht, .int tn, .ref aFu, .ref aFk, .int p0])), (aFu, .inl (cFu, nFu, .inl fu)), (aFk, .inl (cFk, nFk, .inl fk))] := hD
  refine lv_aload_n hx hb dX1_setKeep_5 rfl (lv_at hl 0 rfl) ?_
  refine va_get (D := D) (ci := 2) (v := .ref aFk) (C := RX1) (T := TX1) (N := 6) hx hb hts iX1 hown hK hP 0 rfl rfl 4 (by decide) k_2 (fun _ h9 => h9) rfl dX1_setKeep_6 ?_
  refine lv_iconst (v := 0) hx hb dX1_setKeep_9 (by decide) ?_
  obtain ⟨v_1, hv_1, hJ⟩ := j_b hJ
  refine wr_v (wr := [(aF, .inr (2, [.int w, .int ht, .int tn, .ref aFu, .ref aFk, .int p0])), (aFu, .inl (cFu, nFu, .inl fu))]) (wn := [(aF, .inr (2, [.int w, .int ht, .int tn, .ref aFu, .ref aFk, .int p0])), (aFu, .inl (cFu, nFu, .inl fu)), (aFk, .inl (cFk, nFk, .inl v_1))]) (va_runS (As := [.ref aFk, .int (0 : Int32)]) (rest := []) ⟨hx, hb, hml, hown, hts⟩ (c_J7_fill_53178 l D aFk cFk nFk fk (0 : Int32) tX tY H.size F v_1 hv_1) (va_cwS 2 hts gX1_setKeep_J7_fill_53178 rfl rfl rfl (by decide +kernel) ⟨Nat.le_of_ble_eq_true rfl, Nat.le_of_ble_eq_true rfl⟩) (preWS [.ref aFk, .int (0 : Int32)] hP hD hK hS hA hST [2] rfl rfl rfl [1] rfl) rfl rfl hl.1 rfl (lv_room (Nat.le_of_ble_eq_true rfl)) dX1_setKeep_10 ⟨Nat.zero_le _, Nat.zero_le _⟩) hP hD hS hA [2] [0, 1] rfl rfl rfl (by decide) [0, 1, 2] rfl rfl rfl (fun H locs hP hD hS => ?_)
  refine lv_iconst (v := 0) hx hb dX1_setKeep_13 (by decide) ?_
  refine lv_istore_n (lv' := [(2, .int (0 : Int32)), (0, .ref aF), (1, .int p0)]) hx hb dX1_setKeep_14 rfl hl (by decide) rfl (fun ls hl => ?_)
  refine L_15 p0 _ ?_ F H locs (0 : Int32) v_1 ls hJ hP hD hS (lv_sub hl [1, 0] rfl)
  · intro H locs x2_16 xfk_17 ls hJ hP hD hS hl
    have ho := Option.some.inj hJ
    exact W.vret hx hb hr (fun t ht hW => ⟨⟨(), rfl, trivial, (by rw [ht, ← ho]; exact hP), (by rw [← ho]; exact hD)⟩, hS.F ht⟩) hS.2.2 dX1_setKeep_61
set_option maxHeartbeats 4000000 in
set_option maxRecDepth 100000 in
theorem c_X1_runLength (l : Launch) (D : va_G) (aF aFu aFk : Nat) (cFu cFk : ClassId) (w : Int32) (ht : Int32) (tn : Int32) (kp : Int32) (nFu : Nat) (fu : Nat → Int32) (nFk : Nat) (fk : Nat → Int32) (p0 : Int32) (p1 : Int32) (tX tY sz F : Nat) (o : Int32) (hJ : J_X1_runLength F w ht nFu fu p0 p1 = some o) : Met l yX1_runLength wsX1_runLength rmX1_runLength (va_Pc [.ref aF, .int p0, .int p1] (pcR D [(aF, .inr (2, [.int w, .int ht, .int tn, .ref aFu, .ref aFk, .int kp])), (aFu, .inl (cFu, nFu, .inl fu)), (aFk, .inl (cFk, nFk, .inl fk))] [(cFu, .boolean), (cFk, .int)] sz tX tY)) (qRi o (va_A [] sz)) 0 0 (va_A [] sz) := by
  refine Met.ofW (cc := cX1_runLength) (maxL := 5) (ret := (some .int)) (by decide) rfl ?_
  intro p e s m args below meth c s₁ B hml hv
  obtain ⟨rfl, hsz, hP, hK, hST⟩ := hv
  have hx := B.exec
  have hb := B.bytes
  have hr := B.returns
  have hts := atoms_spec (ws := wsX1_runLength) B.pre
  have hown : s.vm.findClass RX1 = some m.cls := findClass_of_methodNamed B.named
  have hlocks := B.notSynchronized
  subst hsz
  generalize hAe : va_A [] s.heap.size = A at hST ⊢
  have hA : ∀ q : Nat, s.heap.size ≤ q → A q := fun q h => by rw [← hAe]; exact Or.inr h
  have hS : va_S A s.heap s.heap [] := va_S.rf
  have hl := lv_entry ([.ref aF, .int p0, .int p1]) (n := 5) (Nat.le_of_ble_eq_true rfl)
  rw [lg_entry_eq]
  generalize (lg_sl ([.ref aF, .int p0, .int p1]) ++ List.replicate (5 - (lg_sl ([.ref aF, .int p0, .int p1])).length) Slot.unset).toArray = ls at hl ⊢
  have hl : lv_has ls 5 [(0, .ref aF), (1, .int p0), (2, .int p1)] := hl
  have iX1 : ∀ w ∈ wsX10, w ∈ wsX1_runLength := fun w h => List.mem_cons_of_mem _ (List.mem_append_right _ h)
  have k_1 := hts (.fieldLink RX1 9 "ParkWays$Field" "width" "I") (List.mem_of_getElem? (i := 1) rfl)
  have L_5 : ∀ (y2_1 : Int32) (kk_33 : Int32 → Int32 → Option (Int32)) (hkk_33 : ∀ (H : Heap) (locs : List Loc) (x3_2 : Int32) (x4_3 : Int32) (ls : Array Slot), kk_33 x3_2 x4_3 = some o → va_P D vwCl [(aF, .inr (2, [.int w, .int ht, .int tn, .ref aFu, .ref aFk, .int kp])), (aFu, .inl (cFu, nFu, .inl fu)), (aFk, .inl (cFk, nFk, .inl fk))] H → va_S A s.heap H locs → lv_has ls 5 [(3, .int x3_2)] → W p l e (headSpec wsX1_runLength rmX1_runLength).room s m [.ref aF, .int p0, .int p1].toArray below meth c H locs 0 0 (MQ below (qRi o A) [.ref aF, .int p0, .int p1].toArray s 0 0 A) (F0 m 33 ls [])) (fz : Nat) (H : Heap) (locs : List Loc) (x3_2 : Int32) (x4_3 : Int32) (ls : Array Slot), J_X1_runLength_L5 F w ht nFu fu y2_1 kk_33 fz x3_2 x4_3 = some o → va_P D vwCl [(aF, .inr (2, [.int w, .int ht, .int tn, .ref aFu, .ref aFk, .int kp])), (aFu, .inl (cFu, nFu, .inl fu)), (aFk, .inl (cFk, nFk, .inl fk))] H → va_S A s.heap H locs → lv_has ls 5 [(0, .ref aF), (2, .int y2_1), (3, .int x3_2), (4, .int x4_3)] → W p l e (headSpec wsX1_runLength rmX1_runLength).room s m [.ref aF, .int p0, .int p1].toArray below meth c H locs 0 0 (MQ below (qRi o A) [.ref aF, .int p0, .int p1].toArray s 0 0 A) (F0 m 5 ls []) := by
    intro y2_1 kk_33 hkk_33 fz
    induction fz with
    | zero =>
      intro H locs x3_2 x4_3 ls hJ
      rw [J_X1_runLength_L5] at hJ
      cases hJ
    | succ fz ih =>
      intro H locs x3_2 x4_3 ls hJ hP hS hl
      rw [J_X1_runLength_L5] at hJ
      refine lv_iload hx hb dX1_runLength_5 (lv_at hl 3 rfl) ?_
      refine lv_aload_n hx hb dX1_runLength_7 rfl (lv_at hl 0 rfl) ?_
      refine va_get (D := D) (ci := 2) (v := .int w) (C := RX1) (T := TX1) (N := 6) hx hb hts iX1 hown hK hP 0 rfl rfl 0 (by decide) k_1 (fun _ h9 => h9) rfl dX1_runLength_8 ?_
      refine lv_icmp_ge (tgt := 33) hx hb dX1_runLength_11 (by decide) (fun c_4 => ?_) (fun c_4 => ?_)
      · have hJ := j_t c_4 hJ
        exact hkk_33 H locs x3_2 x4_3 ls hJ hP hS (lv_sub hl [2] rfl)
      · have hJ := j_f c_4 hJ
        refine lv_aload_n hx hb dX1_runLength_14 rfl (lv_at hl 0 rfl) ?_
        refine lv_iload hx hb dX1_runLength_15 (lv_at hl 3 rfl) ?_
        refine lv_iload_n hx hb dX1_runLength_17 rfl (lv_at hl 1 rfl) ?_
        obtain ⟨v_5, hv_5, hJ⟩ := j_b hJ
        refine ro_i (va_runV (As := [.int x4_3, .int y2_1]) (rest := []) ⟨hx, hb, hml, hown, hts⟩ (c_X1_isFull l D aF aFu aFk cFu cFk w ht tn kp nFu fu nFk fk x4_3 y2_1 tX tY H.size F v_5 hv_5) (cwV 2 hts gX1_runLength_X1_isFull rfl rfl rfl (by decide +kernel) ⟨Nat.le_of_ble_eq_true rfl, Nat.le_of_ble_eq_true rfl⟩) (preRV [.int x4_3, .int y2_1] hP hK hS hA hST [0, 1, 2] rfl [0, 1] rfl (ci := 2) (q0 := 0) rfl rfl) rfl rfl hl.1 rfl (lv_room (Nat.le_of_ble_eq_true rfl)) dX1_runLength_18 ⟨Nat.zero_le _, Nat.zero_le _⟩) hP hS hA (fun H locs hP hS => ?_)
        refine lv_if_ne (tgt := 33) hx hb dX1_runLength_21 (by decide) (fun c_6 => ?_) (fun c_6 => ?_)
        · have hJ := j_f c_6 hJ
          exact hkk_33 H locs x3_2 x4_3 ls hJ hP hS (lv_sub hl [2] rfl)
        · have hJ := j_t c_6 hJ
          refine lv_iinc (v := (x3_2 + (1 : Int32))) (lv' := [(3, .int (x3_2 + (1 : Int32))), (0, .ref aF), (2, .int y2_1), (4, .int x4_3)]) hx hb dX1_runLength_24 hl (k := 2) rfl rfl (by decide) rfl (fun ls hl => ?_)
          refine lv_iinc (v := (x4_3 + (1 : Int32))) (lv' := [(4, .int (x4_3 + (1 : Int32))), (3, .int (x3_2 + (1 : Int32))), (0, .ref aF), (2, .int y2_1)]) hx hb dX1_runLength_27 hl (k := 3) rfl rfl (by decide) rfl (fun ls hl => ?_)
          refine lv_goto (tgt := 5) hx hb dX1_runLength_30 (by decide) ?_
          exact ih H locs (x3_2 + (1 : Int32)) (x4_3 + (1 : Int32)) ls hJ hP hS (lv_sub hl [2, 3, 1, 0] rfl)
  unfold J_X1_runLength at hJ
  refine lv_iconst (v := 0) hx hb dX1_runLength_0 (by decide) ?_
  refine lv_istore_n (lv' := [(3, .int (0 : Int32)), (0, .ref aF), (1, .int p0), (2, .int p1)]) hx hb dX1_runLength_1 rfl hl (by decide) rfl (fun ls hl => ?_)
  refine lv_iload_n hx hb dX1_runLength_2 rfl (lv_at hl 2 rfl) ?_
  refine lv_istore (lv' := [(4, .int p0), (3, .int (0 : Int32)), (0, .ref aF), (1, .int p0), (2, .int p1)]) hx hb dX1_runLength_3 hl (by decide) rfl (fun ls hl => ?_)
  refine L_5 p1 _ ?_ F s.heap [] (0 : Int32) p0 ls hJ hP hS (lv_sub hl [2, 4, 1, 0] rfl)
  · intro H locs x3_7 x4_8 ls hJ hP hS hl
    refine lv_iload_n hx hb dX1_runLength_33 rfl (lv_at hl 0 rfl) ?_
    have ho := Option.some.inj hJ
    exact W.iret (v := x3_7) hx hb hr (fun t ht hW => ⟨⟨_, (), rfl, ho, trivial⟩, hS.F ht⟩) hS.2.2 dX1_runLength_34
set_option maxHeartbeats 4000000 in
set_option maxRecDepth 100000 in
theorem c_X1_firstRun (l : Launch) (D : va_G) (aF aFu aFk : Nat) (cFu cFk : ClassId) (w : Int32) (ht : Int32) (tn : Int32) (kp : Int32) (nFu : Nat) (fu : Nat → Int32) (nFk : Nat) (fk : Nat → Int32) (p0 : Int32) (p1 : Int32) (tX tY sz F : Nat) (o : Int32) (hJ : J_X1_firstRun F w ht nFu fu p0 p1 = some o) : Met l yX1_firstRun wsX1_firstRun rmX1_firstRun (va_Pc [.ref aF, .int p0, .int p1] (pcR D [(aF, .inr (2, [.int w, .int ht, .int tn, .ref aFu, .ref aFk, .int kp])), (aFu, .inl (cFu, nFu, .inl fu)), (aFk, .inl (cFk, nFk, .inl fk))] [(cFu, .boolean), (cFk, .int)] sz tX tY)) (qRi o (va_A [] sz)) 0 0 (va_A [] sz) := by
  refine Met.ofW (cc := cX1_firstRun) (maxL := 4) (ret := (some .int)) (by decide) rfl ?_
  intro p e s m args below meth c s₁ B hml hv
  obtain ⟨rfl, hsz, hP, hK, hST⟩ := hv
  have hx := B.exec
  have hb := B.bytes
  have hr := B.returns
  have hts := atoms_spec (ws := wsX1_firstRun) B.pre
  have hown : s.vm.findClass RX1 = some m.cls := findClass_of_methodNamed B.named
  have hlocks := B.notSynchronized
  subst hsz
  generalize hAe : va_A [] s.heap.size = A at hST ⊢
  have hA : ∀ q : Nat, s.heap.size ≤ q → A q := fun q h => by rw [← hAe]; exact Or.inr h
  have hS : va_S A s.heap s.heap [] := va_S.rf
  have hl := lv_entry ([.ref aF, .int p0, .int p1]) (n := 4) (Nat.le_of_ble_eq_true rfl)
  rw [lg_entry_eq]
  generalize (lg_sl ([.ref aF, .int p0, .int p1]) ++ List.replicate (4 - (lg_sl ([.ref aF, .int p0, .int p1])).length) Slot.unset).toArray = ls at hl ⊢
  have hl : lv_has ls 4 [(0, .ref aF), (1, .int p0), (2, .int p1)] := hl
  have iX1 : ∀ w ∈ wsX10, w ∈ wsX1_firstRun := fun w h => List.mem_cons_of_mem _ (List.mem_append_right _ h)
  have k_1 := hts (.fieldLink RX1 9 "ParkWays$Field" "width" "I") (List.mem_of_getElem? (i := 1) rfl)
  have L_2 : ∀ (y1_1 : Int32) (y2_2 : Int32) (kk_28 : Int32 → Option (Int32)) (hkk_28 : ∀ (H : Heap) (locs : List Loc) (x3_3 : Int32) (ls : Array Slot), kk_28 x3_3 = some o → va_P D vwCl [(aF, .inr (2, [.int w, .int ht, .int tn, .ref aFu, .ref aFk, .int kp])), (aFu, .inl (cFu, nFu, .inl fu)), (aFk, .inl (cFk, nFk, .inl fk))] H → va_S A s.heap H locs → lv_has ls 4 [] → W p l e (headSpec wsX1_firstRun rmX1_firstRun).room s m [.ref aF, .int p0, .int p1].toArray below meth c H locs 0 0 (MQ below (qRi o A) [.ref aF, .int p0, .int p1].toArray s 0 0 A) (F0 m 28 ls [])) (fz : Nat) (H : Heap) (locs : List Loc) (x3_3 : Int32) (ls : Array Slot), J_X1_firstRun_L2 F w ht nFu fu y1_1 y2_2 kk_28 fz x3_3 = some o → va_P D vwCl [(aF, .inr (2, [.int w, .int ht, .int tn, .ref aFu, .ref aFk, .int kp])), (aFu, .inl (cFu, nFu, .inl fu)), (aFk, .inl (cFk, nFk, .inl fk))] H → va_S A s.heap H locs → lv_has ls 4 [(0, .ref aF), (1, .int y1_1), (2, .int y2_2), (3, .int x3_3)] → W p l e (headSpec wsX1_firstRun rmX1_firstRun).room s m [.ref aF, .int p0, .int p1].toArray below meth c H locs 0 0 (MQ below (qRi o A) [.ref aF, .int p0, .int p1].toArray s 0 0 A) (F0 m 2 ls []) := by
    intro y1_1 y2_2 kk_28 hkk_28 fz
    induction fz with
    | zero =>
      intro H locs x3_3 ls hJ
      rw [J_X1_firstRun_L2] at hJ
      cases hJ
    | succ fz ih =>
      intro H locs x3_3 ls hJ hP hS hl
      rw [J_X1_firstRun_L2] at hJ
      refine lv_iload_n hx hb dX1_firstRun_2 rfl (lv_at hl 3 rfl) ?_
      refine lv_aload_n hx hb dX1_firstRun_3 rfl (lv_at hl 0 rfl) ?_
      refine va_get (D := D) (ci := 2) (v := .int w) (C := RX1) (T := TX1) (N := 6) hx hb hts iX1 hown hK hP 0 rfl rfl 0 (by decide) k_1 (fun _ h9 => h9) rfl dX1_firstRun_4 ?_
      refine lv_icmp_ge (tgt := 28) hx hb dX1_firstRun_7 (by decide) (fun c_4 => ?_) (fun c_4 => ?_)
      · have hJ := j_t c_4 hJ
        exact hkk_28 H locs x3_3 ls hJ hP hS (lv_sub hl [] rfl)
      · have hJ := j_f c_4 hJ
        refine lv_aload_n hx hb dX1_firstRun_10 rfl (lv_at hl 0 rfl) ?_
        refine lv_iload_n hx hb dX1_firstRun_11 rfl (lv_at hl 3 rfl) ?_
        refine lv_iload_n hx hb dX1_firstRun_12 rfl (lv_at hl 1 rfl) ?_
        obtain ⟨v_5, hv_5, hJ⟩ := j_b hJ
        refine ro_i (va_runV (As := [.int x3_3, .int y1_1]) (rest := []) ⟨hx, hb, hml, hown, hts⟩ (c_X1_runLength l D aF aFu aFk cFu cFk w ht tn kp nFu fu nFk fk x3_3 y1_1 tX tY H.size F v_5 hv_5) (cwV 2 hts gX1_firstRun_X1_runLength rfl rfl rfl (by decide +kernel) ⟨Nat.le_of_ble_eq_true rfl, Nat.le_of_ble_eq_true rfl⟩) (preRV [.int x3_3, .int y1_1] hP hK hS hA hST [0, 1, 2] rfl [0, 1] rfl (ci := 2) (q0 := 0) rfl rfl) rfl rfl hl.1 rfl (lv_room (Nat.le_of_ble_eq_true rfl)) dX1_firstRun_13 ⟨Nat.zero_le _, Nat.zero_le _⟩) hP hS hA (fun H locs hP hS => ?_)
        refine lv_iload_n hx hb dX1_firstRun_16 rfl (lv_at hl 2 rfl) ?_
        refine lv_icmp_lt (tgt := 22) hx hb dX1_firstRun_17 (by decide) (fun c_6 => ?_) (fun c_6 => ?_)
        · have hJ := j_t c_6 hJ
          refine lv_iinc (v := (x3_3 + (1 : Int32))) (lv' := [(3, .int (x3_3 + (1 : Int32))), (0, .ref aF), (1, .int y1_1), (2, .int y2_2)]) hx hb dX1_firstRun_22 hl (k := 3) rfl rfl (by decide) rfl (fun ls hl => ?_)
          refine lv_goto (tgt := 2) hx hb dX1_firstRun_25 (by decide) ?_
          exact ih H locs (x3_3 + (1 : Int32)) ls hJ hP hS (lv_sub hl [1, 2, 3, 0] rfl)
        · have hJ := j_f c_6 hJ
          refine lv_iload_n hx hb dX1_firstRun_20 rfl (lv_at hl 3 rfl) ?_
          have ho := Option.some.inj hJ
          exact W.iret (v := x3_3) hx hb hr (fun t ht hW => ⟨⟨_, (), rfl, ho, trivial⟩, hS.F ht⟩) hS.2.2 dX1_firstRun_21
  unfold J_X1_firstRun at hJ
  refine lv_iconst (v := 0) hx hb dX1_firstRun_0 (by decide) ?_
  refine lv_istore_n (lv' := [(3, .int (0 : Int32)), (0, .ref aF), (1, .int p0), (2, .int p1)]) hx hb dX1_firstRun_1 rfl hl (by decide) rfl (fun ls hl => ?_)
  refine L_2 p0 p1 _ ?_ F s.heap [] (0 : Int32) ls hJ hP hS (lv_sub hl [1, 2, 3, 0] rfl)
  · intro H locs x3_7 ls hJ hP hS hl
    refine lv_iconst (v := (-1)) hx hb dX1_firstRun_28 (by decide) ?_
    have ho := Option.some.inj hJ
    exact W.iret (v := (-1 : Int32)) hx hb hr (fun t ht hW => ⟨⟨_, (), rfl, ho, trivial⟩, hS.F ht⟩) hS.2.2 dX1_firstRun_29
set_option maxHeartbeats 4000000 in
set_option maxRecDepth 100000 in
theorem c_X1_distanceToFull (l : Launch) (D : va_G) (aF aFu aFk : Nat) (cFu cFk : ClassId) (w : Int32) (ht : Int32) (tn : Int32) (kp : Int32) (nFu : Nat) (fu : Nat → Int32) (nFk : Nat) (fk : Nat → Int32) (p0 : Int32) (p1 : Int32) (p2 : Int32) (tX tY sz F : Nat) (o : Int32) (hJ : J_X1_distanceToFull F w ht nFu fu p0 p1 p2 = some o) : Met l yX1_distanceToFull wsX1_distanceToFull rmX1_distanceToFull (va_Pc [.ref aF, .int p0, .int p1, .int p2] (pcR D [(aF, .inr (2, [.int w, .int ht, .int tn, .ref aFu, .ref aFk, .int kp])), (aFu, .inl (cFu, nFu, .inl fu)), (aFk, .inl (cFk, nFk, .inl fk))] [(cFu, .boolean), (cFk, .int)] sz tX tY)) (qRi o (va_A [] sz)) 0 0 (va_A [] sz) := by
  refine Met.ofW (cc := cX1_distanceToFull) (maxL := 7) (ret := (some .int)) (by decide) rfl ?_
  intro p e s m args below meth c s₁ B hml hv
  obtain ⟨rfl, hsz, hP, hK, hST⟩ := hv
  have hx := B.exec
  have hb := B.bytes
  have hr := B.returns
  have hts := atoms_spec (ws := wsX1_distanceToFull) B.pre
  have hown : s.vm.findClass RX1 = some m.cls := findClass_of_methodNamed B.named
  have hlocks := B.notSynchronized
  subst hsz
  generalize hAe : va_A [] s.heap.size = A at hST ⊢
  have hA : ∀ q : Nat, s.heap.size ≤ q → A q := fun q h => by rw [← hAe]; exact Or.inr h
  have hS : va_S A s.heap s.heap [] := va_S.rf
  have hl := lv_entry ([.ref aF, .int p0, .int p1, .int p2]) (n := 7) (Nat.le_of_ble_eq_true rfl)
  rw [lg_entry_eq]
  generalize (lg_sl ([.ref aF, .int p0, .int p1, .int p2]) ++ List.replicate (7 - (lg_sl ([.ref aF, .int p0, .int p1, .int p2])).length) Slot.unset).toArray = ls at hl ⊢
  have hl : lv_has ls 7 [(0, .ref aF), (1, .int p0), (2, .int p1), (3, .int p2)] := hl
  have k_1 := hts (.methodLink RX1 60 Lib.Math.abs.name) (List.mem_of_getElem? (i := 1) rfl)
  have k_2 := hts (.static Lib.Math.abs.name) (List.mem_of_getElem? (i := 2) rfl)
  have k_3 := hts (.initialized "java/lang/Math") (List.mem_of_getElem? (i := 3) rfl)
  have k_4 := hts (.code Lib.Math.abs.name Lib.Math.abs.code 1 (some .int)) (List.mem_of_getElem? (i := 4) rfl)
  have k_5 := hts (.methodLink RX1 66 Lib.Math.max.name) (List.mem_of_getElem? (i := 5) rfl)
  have k_6 := hts (.static Lib.Math.max.name) (List.mem_of_getElem? (i := 6) rfl)
  have k_7 := hts (.code Lib.Math.max.name Lib.Math.max.code 2 (some .int)) (List.mem_of_getElem? (i := 7) rfl)
  have k_8 := hts (.methodLink RX1 69 Lib.Math.min.name) (List.mem_of_getElem? (i := 8) rfl)
  have k_9 := hts (.static Lib.Math.min.name) (List.mem_of_getElem? (i := 9) rfl)
  have k_10 := hts (.code Lib.Math.min.name Lib.Math.min.code 2 (some .int)) (List.mem_of_getElem? (i := 10) rfl)
  have L_21 : ∀ (y1_7 : Int32) (y2_8 : Int32) (y3_9 : Int32) (y5_11 : Int32) (kk_70 : Int32 → Int32 → Option (Int32)) (hkk_70 : ∀ (H : Heap) (locs : List Loc) (x4_10 : Int32) (x6_12 : Int32) (ls : Array Slot), kk_70 x4_10 x6_12 = some o → va_P D vwCl [(aF, .inr (2, [.int w, .int ht, .int tn, .ref aFu, .ref aFk, .int kp])), (aFu, .inl (cFu, nFu, .inl fu)), (aFk, .inl (cFk, nFk, .inl fk))] H → va_S A s.heap H locs → lv_has ls 7 [(0, .ref aF), (1, .int y1_7), (2, .int y2_8), (3, .int y3_9), (4, .int x4_10), (5, .int y5_11)] → W p l e (headSpec wsX1_distanceToFull rmX1_distanceToFull).room s m [.ref aF, .int p0, .int p1, .int p2].toArray below meth c H locs 0 0 (MQ below (qRi o A) [.ref aF, .int p0, .int p1, .int p2].toArray s 0 0 A) (F0 m 70 ls [])) (fz : Nat) (H : Heap) (locs : List Loc) (x4_10 : Int32) (x6_12 : Int32) (ls : Array Slot), J_X1_distanceToFull_L21 F w ht nFu fu y1_7 y2_8 y3_9 y5_11 kk_70 fz x4_10 x6_12 = some o → va_P D vwCl [(aF, .inr (2, [.int w, .int ht, .int tn, .ref aFu, .ref aFk, .int kp])), (aFu, .inl (cFu, nFu, .inl fu)), (aFk, .inl (cFk, nFk, .inl fk))] H → va_S A s.heap H locs → lv_has ls 7 [(0, .ref aF), (1, .int y1_7), (2, .int y2_8), (3, .int y3_9), (4, .int x4_10), (5, .int y5_11), (6, .int x6_12)] → W p l e (headSpec wsX1_distanceToFull rmX1_distanceToFull).room s m [.ref aF, .int p0, .int p1, .int p2].toArray below meth c H locs 0 0 (MQ below (qRi o A) [.ref aF, .int p0, .int p1, .int p2].toArray s 0 0 A) (F0 m 21 ls []) := by
    intro y1_7 y2_8 y3_9 y5_11 kk_70 hkk_70 fz
    induction fz with
    | zero =>
      intro H locs x4_10 x6_12 ls hJ
      rw [J_X1_distanceToFull_L21] at hJ
      cases hJ
    | succ fz ih =>
      intro H locs x4_10 x6_12 ls hJ hP hS hl
      rw [J_X1_distanceToFull_L21] at hJ
      refine lv_iload hx hb dX1_distanceToFull_21 (lv_at hl 6 rfl) ?_
      refine lv_iload_n hx hb dX1_distanceToFull_23 rfl (lv_at hl 1 rfl) ?_
      refine lv_iload_n hx hb dX1_distanceToFull_24 rfl (lv_at hl 3 rfl) ?_
      refine lv_iadd hx hb dX1_distanceToFull_25 ?_
      refine lv_icmp_gt (tgt := 70) hx hb dX1_distanceToFull_26 (by decide) (fun c_13 => ?_) (fun c_13 => ?_)
      · have hJ := j_t c_13 hJ
        exact hkk_70 H locs x4_10 x6_12 ls hJ hP hS (lv_sub hl [0, 1, 2, 3, 4, 5] rfl)
      · have hJ := j_f c_13 hJ
        refine lv_aload_n hx hb dX1_distanceToFull_29 rfl (lv_at hl 0 rfl) ?_
        refine lv_iload hx hb dX1_distanceToFull_30 (lv_at hl 6 rfl) ?_
        refine lv_iload hx hb dX1_distanceToFull_32 (lv_at hl 5 rfl) ?_
        obtain ⟨v_14, hv_14, hJ⟩ := j_b hJ
        refine ro_i (va_runV (As := [.int x6_12, .int y5_11]) (rest := []) ⟨hx, hb, hml, hown, hts⟩ (c_X1_isFull l D aF aFu aFk cFu cFk w ht tn kp nFu fu nFk fk x6_12 y5_11 tX tY H.size F v_14 hv_14) (cwV 2 hts gX1_distanceToFull_X1_isFull rfl rfl rfl (by decide +kernel) ⟨Nat.le_of_ble_eq_true rfl, Nat.le_of_ble_eq_true rfl⟩) (preRV [.int x6_12, .int y5_11] hP hK hS hA hST [0, 1, 2] rfl [0, 1] rfl (ci := 2) (q0 := 0) rfl rfl) rfl rfl hl.1 rfl (lv_room (Nat.le_of_ble_eq_true rfl)) dX1_distanceToFull_34 ⟨Nat.zero_le _, Nat.zero_le _⟩) hP hS hA (fun H locs hP hS => ?_)
        refine lv_if_eq (tgt := 64) hx hb dX1_distanceToFull_37 (by decide) (fun c_15 => ?_) (fun c_15 => ?_)
        · have hJ := j_t c_15 hJ
          refine lv_iinc (v := (x6_12 + (1 : Int32))) (lv' := [(6, .int (x6_12 + (1 : Int32))), (0, .ref aF), (1, .int y1_7), (2, .int y2_8), (3, .int y3_9), (4, .int x4_10), (5, .int y5_11)]) hx hb dX1_distanceToFull_64 hl (k := 6) rfl rfl (by decide) rfl (fun ls hl => ?_)
          refine lv_goto (tgt := 21) hx hb dX1_distanceToFull_67 (by decide) ?_
          exact ih H locs x4_10 (x6_12 + (1 : Int32)) ls hJ hP hS (lv_sub hl [1, 2, 3, 4, 5, 6, 0] rfl)
        · have hJ := j_f c_15 hJ
          refine lv_iload hx hb dX1_distanceToFull_40 (lv_at hl 4 rfl) ?_
          refine lv_iload hx hb dX1_distanceToFull_42 (lv_at hl 6 rfl) ?_
          refine lv_iload_n hx hb dX1_distanceToFull_44 rfl (lv_at hl 1 rfl) ?_
          refine lv_isub hx hb dX1_distanceToFull_45 ?_
          refine va_mabs hx hb (hml.trans hl.1.symm) hown k_1 k_2 k_3 k_4 (Nat.le_of_ble_eq_true rfl) (Nat.le_of_ble_eq_true rfl) (Nat.zero_le _) (Nat.zero_le _) dX1_distanceToFull_46 ?_
          obtain ⟨v_16, hv_16, hJ⟩ := j_b hJ
          refine lv_topi (fun t_v_16 e_v_16 => ?_)
          obtain rfl : v_16 = t_v_16 := (Option.some.inj hv_16).symm.trans e_v_16.symm
          refine lv_iload hx hb dX1_distanceToFull_49 (lv_at hl 5 rfl) ?_
          refine lv_iload_n hx hb dX1_distanceToFull_51 rfl (lv_at hl 2 rfl) ?_
          refine lv_isub hx hb dX1_distanceToFull_52 ?_
          refine va_mabs hx hb (hml.trans hl.1.symm) hown k_1 k_2 k_3 k_4 (Nat.le_of_ble_eq_true rfl) (Nat.le_of_ble_eq_true rfl) (Nat.zero_le _) (Nat.zero_le _) dX1_distanceToFull_53 ?_
          obtain ⟨v_17, hv_17, hJ⟩ := j_b hJ
          refine lv_topi (fun t_v_17 e_v_17 => ?_)
          obtain rfl : v_17 = t_v_17 := (Option.some.inj hv_17).symm.trans e_v_17.symm
          refine va_mmax hx hb (hml.trans hl.1.symm) hown k_5 k_6 k_3 k_7 (Nat.le_of_ble_eq_true rfl) (Nat.le_of_ble_eq_true rfl) (Nat.zero_le _) (Nat.zero_le _) dX1_distanceToFull_56 ?_
          obtain ⟨v_18, hv_18, hJ⟩ := j_b hJ
          refine lv_topi (fun t_v_18 e_v_18 => ?_)
          obtain rfl : v_18 = t_v_18 := (Option.some.inj hv_18).symm.trans e_v_18.symm
          refine va_mmin hx hb (hml.trans hl.1.symm) hown k_8 k_9 k_3 k_10 (Nat.le_of_ble_eq_true rfl) (Nat.le_of_ble_eq_true rfl) (Nat.zero_le _) (Nat.zero_le _) dX1_distanceToFull_59 ?_
          obtain ⟨v_19, hv_19, hJ⟩ := j_b hJ
          refine lv_topi (fun t_v_19 e_v_19 => ?_)
          obtain rfl : v_19 = t_v_19 := (Option.some.inj hv_19).symm.trans e_v_19.symm
          refine lv_istore (lv' := [(4, .int v_19), (0, .ref aF), (1, .int y1_7), (2, .int y2_8), (3, .int y3_9), (5, .int y5_11), (6, .int x6_12)]) hx hb dX1_distanceToFull_62 hl (by decide) rfl (fun ls hl => ?_)
          refine lv_iinc (v := (x6_12 + (1 : Int32))) (lv' := [(6, .int (x6_12 + (1 : Int32))), (4, .int v_19), (0, .ref aF), (1, .int y1_7), (2, .int y2_8), (3, .int y3_9), (5, .int y5_11)]) hx hb dX1_distanceToFull_64 hl (k := 6) rfl rfl (by decide) rfl (fun ls hl => ?_)
          refine lv_goto (tgt := 21) hx hb dX1_distanceToFull_67 (by decide) ?_
          exact ih H locs v_19 (x6_12 + (1 : Int32)) ls hJ hP hS (lv_sub hl [2, 3, 4, 5, 1, 6, 0] rfl)
  have L_8 : ∀ (y1_1 : Int32) (y2_2 : Int32) (y3_3 : Int32) (kk_76 : Int32 → Int32 → Option (Int32)) (hkk_76 : ∀ (H : Heap) (locs : List Loc) (x4_4 : Int32) (x5_5 : Int32) (ls : Array Slot), kk_76 x4_4 x5_5 = some o → va_P D vwCl [(aF, .inr (2, [.int w, .int ht, .int tn, .ref aFu, .ref aFk, .int kp])), (aFu, .inl (cFu, nFu, .inl fu)), (aFk, .inl (cFk, nFk, .inl fk))] H → va_S A s.heap H locs → lv_has ls 7 [(4, .int x4_4)] → W p l e (headSpec wsX1_distanceToFull rmX1_distanceToFull).room s m [.ref aF, .int p0, .int p1, .int p2].toArray below meth c H locs 0 0 (MQ below (qRi o A) [.ref aF, .int p0, .int p1, .int p2].toArray s 0 0 A) (F0 m 76 ls [])) (fz : Nat) (H : Heap) (locs : List Loc) (x4_4 : Int32) (x5_5 : Int32) (ls : Array Slot), J_X1_distanceToFull_L8 F w ht nFu fu y1_1 y2_2 y3_3 kk_76 fz x4_4 x5_5 = some o → va_P D vwCl [(aF, .inr (2, [.int w, .int ht, .int tn, .ref aFu, .ref aFk, .int kp])), (aFu, .inl (cFu, nFu, .inl fu)), (aFk, .inl (cFk, nFk, .inl fk))] H → va_S A s.heap H locs → lv_has ls 7 [(0, .ref aF), (1, .int y1_1), (2, .int y2_2), (3, .int y3_3), (4, .int x4_4), (5, .int x5_5)] → W p l e (headSpec wsX1_distanceToFull rmX1_distanceToFull).room s m [.ref aF, .int p0, .int p1, .int p2].toArray below meth c H locs 0 0 (MQ below (qRi o A) [.ref aF, .int p0, .int p1, .int p2].toArray s 0 0 A) (F0 m 8 ls []) := by
    intro y1_1 y2_2 y3_3 kk_76 hkk_76 fz
    induction fz with
    | zero =>
      intro H locs x4_4 x5_5 ls hJ
      rw [J_X1_distanceToFull_L8] at hJ
      cases hJ
    | succ fz ih =>
      intro H locs x4_4 x5_5 ls hJ hP hS hl
      rw [J_X1_distanceToFull_L8] at hJ
      refine lv_iload hx hb dX1_distanceToFull_8 (lv_at hl 5 rfl) ?_
      refine lv_iload_n hx hb dX1_distanceToFull_10 rfl (lv_at hl 2 rfl) ?_
      refine lv_iload_n hx hb dX1_distanceToFull_11 rfl (lv_at hl 3 rfl) ?_
      refine lv_iadd hx hb dX1_distanceToFull_12 ?_
      refine lv_icmp_gt (tgt := 76) hx hb dX1_distanceToFull_13 (by decide) (fun c_6 => ?_) (fun c_6 => ?_)
      · have hJ := j_t c_6 hJ
        exact hkk_76 H locs x4_4 x5_5 ls hJ hP hS (lv_sub hl [4] rfl)
      · have hJ := j_f c_6 hJ
        refine lv_iload_n hx hb dX1_distanceToFull_16 rfl (lv_at hl 1 rfl) ?_
        refine lv_iload_n hx hb dX1_distanceToFull_17 rfl (lv_at hl 3 rfl) ?_
        refine lv_isub hx hb dX1_distanceToFull_18 ?_
        refine lv_istore (lv' := [(6, .int (y1_1 - y3_3)), (0, .ref aF), (1, .int y1_1), (2, .int y2_2), (3, .int y3_3), (4, .int x4_4), (5, .int x5_5)]) hx hb dX1_distanceToFull_19 hl (by decide) rfl (fun ls hl => ?_)
        refine L_21 y1_1 y2_2 y3_3 x5_5 _ ?_ F H locs x4_4 (y1_1 - y3_3) ls hJ hP hS (lv_sub hl [1, 2, 3, 4, 5, 6, 0] rfl)
        · intro H locs x4_20 x6_21 ls hJ hP hS hl
          refine lv_iinc (v := (x5_5 + (1 : Int32))) (lv' := [(5, .int (x5_5 + (1 : Int32))), (0, .ref aF), (1, .int y1_1), (2, .int y2_2), (3, .int y3_3), (4, .int x4_20)]) hx hb dX1_distanceToFull_70 hl (k := 5) rfl rfl (by decide) rfl (fun ls hl => ?_)
          refine lv_goto (tgt := 8) hx hb dX1_distanceToFull_73 (by decide) ?_
          exact ih H locs x4_20 (x5_5 + (1 : Int32)) ls hJ hP hS (lv_sub hl [1, 2, 3, 4, 5, 0] rfl)
  unfold J_X1_distanceToFull at hJ
  refine lv_iload_n hx hb dX1_distanceToFull_0 rfl (lv_at hl 3 rfl) ?_
  refine lv_istore (lv' := [(4, .int p2), (0, .ref aF), (1, .int p0), (2, .int p1), (3, .int p2)]) hx hb dX1_distanceToFull_1 hl (by decide) rfl (fun ls hl => ?_)
  refine lv_iload_n hx hb dX1_distanceToFull_3 rfl (lv_at hl 3 rfl) ?_
  refine lv_iload_n hx hb dX1_distanceToFull_4 rfl (lv_at hl 4 rfl) ?_
  refine lv_isub hx hb dX1_distanceToFull_5 ?_
  refine lv_istore (lv' := [(5, .int (p1 - p2)), (4, .int p2), (0, .ref aF), (1, .int p0), (2, .int p1), (3, .int p2)]) hx hb dX1_distanceToFull_6 hl (by decide) rfl (fun ls hl => ?_)
  refine L_8 p0 p1 p2 _ ?_ F s.heap [] p2 (p1 - p2) ls hJ hP hS (lv_sub hl [2, 3, 4, 5, 1, 0] rfl)
  · intro H locs x4_22 x5_23 ls hJ hP hS hl
    refine lv_iload hx hb dX1_distanceToFull_76 (lv_at hl 0 rfl) ?_
    have ho := Option.some.inj hJ
    exact W.iret (v := x4_22) hx hb hr (fun t ht hW => ⟨⟨_, (), rfl, ho, trivial⟩, hS.F ht⟩) hS.2.2 dX1_distanceToFull_78
