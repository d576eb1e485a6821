set_option maxHeartbeats 4000000 in
set_option maxRecDepth 100000 in
theorem c_X0_isArc (l : Launch) (D : va_G) (p0 : Int32) (tX tY sz F : Nat) (o : Int32) (hJ : J_X0_isArc F p0 = some o) : Met l yX0_isArc wsX0_isArc rmX0_isArc (va_Pc [.int p0] (pcR D [] [] sz tX tY)) (qRi o (va_A [] sz)) 0 0 (va_A [] sz) := by
  refine Met.ofW (cc := cX0_isArc) (maxL := 1) (ret := (some .boolean)) (by decide) rfl ?_
  intro p e s m args below meth c s₁ B hml hv
  obtain ⟨rfl, hsz, hP, hK, hST⟩ := hv
  have hx := B.exec
  have hb := B.bytes
  have hr := B.returns
  have hts := atoms_spec (ws := wsX0_isArc) B.pre
  have hown : s.vm.findClass RX0 = some m.cls := findClass_of_methodNamed B.named
  have hlocks := B.notSynchronized
  subst hsz
  generalize hAe : va_A [] s.heap.size = A at hST ⊢
  have hA : ∀ q : Nat, s.heap.size ≤ q → A q := fun q h => by rw [← hAe]; exact Or.inr h
  have hS : va_S A s.heap s.heap [] := va_S.rf
  have hl := lv_entry ([.int p0]) (n := 1) (Nat.le_of_ble_eq_true rfl)
  rw [lg_entry_eq]
  generalize (lg_sl ([.int p0]) ++ List.replicate (1 - (lg_sl ([.int p0])).length) Slot.unset).toArray = ls at hl ⊢
  have hl : lv_has ls 1 [(0, .int p0)] := hl
  unfold J_X0_isArc at hJ
  refine lv_iload_n hx hb dX0_isArc_0 rfl (lv_at hl 0 rfl) ?_
  refine lv_iconst (v := 2) hx hb dX0_isArc_1 (by decide) ?_
  refine lv_icmp_lt (tgt := 9) hx hb dX0_isArc_2 (by decide) (fun c_1 => ?_) (fun c_1 => ?_)
  · have hJ := j_t c_1 hJ
    refine lv_iconst (v := 0) hx hb dX0_isArc_9 (by decide) ?_
    have ho := Option.some.inj hJ
    exact W.zret (v := (0 : Int32)) hx hb hr rfl (fun t ht hW => ⟨⟨_, (), rfl, ho, trivial⟩, hS.F ht⟩) hS.2.2 dX0_isArc_10
  · have hJ := j_f c_1 hJ
    refine lv_iconst (v := 1) hx hb dX0_isArc_5 (by decide) ?_
    refine lv_goto (tgt := 10) hx hb dX0_isArc_6 (by decide) ?_
    have ho := Option.some.inj hJ
    exact W.zret (v := (1 : Int32)) hx hb hr rfl (fun t ht hW => ⟨⟨_, (), rfl, ho, trivial⟩, hS.F ht⟩) hS.2.2 dX0_isArc_10
set_option maxHeartbeats 4000000 in
set_option maxRecDepth 100000 in
theorem c_X0_senseOf (l : Launch) (D : va_G) (p0 : Int32) (tX tY sz F : Nat) (o : Int32) (hJ : J_X0_senseOf F p0 = some o) : Met l yX0_senseOf wsX0_senseOf rmX0_senseOf (va_Pc [.int p0] (pcR D [] [] sz tX tY)) (qRi o (va_A [] sz)) 0 0 (va_A [] sz) := by
  refine Met.ofW (cc := cX0_senseOf) (maxL := 1) (ret := (some .int)) (by decide) rfl ?_
  intro p e s m args below meth c s₁ B hml hv
  obtain ⟨rfl, hsz, hP, hK, hST⟩ := hv
  have hx := B.exec
  have hb := B.bytes
  have hr := B.returns
  have hts := atoms_spec (ws := wsX0_senseOf) B.pre
  have hown : s.vm.findClass RX0 = some m.cls := findClass_of_methodNamed B.named
  have hlocks := B.notSynchronized
  subst hsz
  generalize hAe : va_A [] s.heap.size = A at hST ⊢
  have hA : ∀ q : Nat, s.heap.size ≤ q → A q := fun q h => by rw [← hAe]; exact Or.inr h
  have hS : va_S A s.heap s.heap [] := va_S.rf
  have hl := lv_entry ([.int p0]) (n := 1) (Nat.le_of_ble_eq_true rfl)
  rw [lg_entry_eq]
  generalize (lg_sl ([.int p0]) ++ List.replicate (1 - (lg_sl ([.int p0])).length) Slot.unset).toArray = ls at hl ⊢
  have hl : lv_has ls 1 [(0, .int p0)] := hl
  unfold J_X0_senseOf at hJ
  refine lv_iload_n hx hb dX0_senseOf_0 rfl (lv_at hl 0 rfl) ?_
  refine lv_if_eq (tgt := 14) hx hb dX0_senseOf_1 (by decide) (fun c_1 => ?_) (fun c_1 => ?_)
  · have hJ := j_t c_1 hJ
    refine lv_iconst (v := 1) hx hb dX0_senseOf_14 (by decide) ?_
    refine lv_goto (tgt := 19) hx hb dX0_senseOf_15 (by decide) ?_
    have ho := Option.some.inj hJ
    exact W.iret (v := (1 : Int32)) hx hb hr (fun t ht hW => ⟨⟨_, (), rfl, ho, trivial⟩, hS.F ht⟩) hS.2.2 dX0_senseOf_19
  · have hJ := j_f c_1 hJ
    refine lv_iload_n hx hb dX0_senseOf_4 rfl (lv_at hl 0 rfl) ?_
    refine lv_iconst (v := 2) hx hb dX0_senseOf_5 (by decide) ?_
    refine lv_icmp_eq (tgt := 14) hx hb dX0_senseOf_6 (by decide) (fun c_2 => ?_) (fun c_2 => ?_)
    · have hJ := j_t c_2 hJ
      refine lv_iconst (v := 1) hx hb dX0_senseOf_14 (by decide) ?_
      refine lv_goto (tgt := 19) hx hb dX0_senseOf_15 (by decide) ?_
      have ho := Option.some.inj hJ
      exact W.iret (v := (1 : Int32)) hx hb hr (fun t ht hW => ⟨⟨_, (), rfl, ho, trivial⟩, hS.F ht⟩) hS.2.2 dX0_senseOf_19
    · have hJ := j_f c_2 hJ
      refine lv_iload_n hx hb dX0_senseOf_9 rfl (lv_at hl 0 rfl) ?_
      refine lv_iconst (v := 3) hx hb dX0_senseOf_10 (by decide) ?_
      refine lv_icmp_ne (tgt := 18) hx hb dX0_senseOf_11 (by decide) (fun c_3 => ?_) (fun c_3 => ?_)
      · have hJ := j_f c_3 hJ
        refine lv_iconst (v := (-1)) hx hb dX0_senseOf_18 (by decide) ?_
        have ho := Option.some.inj hJ
        exact W.iret (v := (-1 : Int32)) hx hb hr (fun t ht hW => ⟨⟨_, (), rfl, ho, trivial⟩, hS.F ht⟩) hS.2.2 dX0_senseOf_19
      · have hJ := j_t c_3 hJ
        refine lv_iconst (v := 1) hx hb dX0_senseOf_14 (by decide) ?_
        refine lv_goto (tgt := 19) hx hb dX0_senseOf_15 (by decide) ?_
        have ho := Option.some.inj hJ
        exact W.iret (v := (1 : Int32)) hx hb hr (fun t ht hW => ⟨⟨_, (), rfl, ho, trivial⟩, hS.F ht⟩) hS.2.2 dX0_senseOf_19
set_option maxHeartbeats 4000000 in
set_option maxRecDepth 100000 in
theorem c_X0_lengthOf (l : Launch) (D : va_G) (aC aKn aF aFu aFk : Nat) (cKn cFu cFk : ClassId) (ln : Int32) (wd : Int32) (rd : Int32) (nKn : Nat) (kn : Nat → Int32) (w : Int32) (ht : Int32) (tn : Int32) (kp : Int32) (nFu : Nat) (fu : Nat → Int32) (nFk : Nat) (fk : Nat → Int32) (p0 : Int32) (tX tY sz F : Nat) (o : Int32) (hJ : J_X0_lengthOf F rd p0 = some o) : Met l yX0_lengthOf wsX0_lengthOf rmX0_lengthOf (va_Pc [.ref aC, .int p0] (pcR D [(aC, .inr (1, [.ref aF, .ref aKn, .int ln, .int wd, .int rd])), (aKn, .inl (cKn, nKn, .inl kn)), (aF, .inr (2, [.int w, .int ht, .int tn, .ref aFu, .ref aFk, .int kp])), (aFu, .inl (cFu, nFu, .inl fu)), (aFk, .inl (cFk, nFk, .inl fk))] [(cKn, .int), (cFu, .boolean), (cFk, .int)] sz tX tY)) (qRi o (va_A [] sz)) 0 0 (va_A [] sz) := by
  refine Met.ofW (cc := cX0_lengthOf) (maxL := 2) (ret := (some .int)) (by decide) rfl ?_
  intro p e s m args below meth c s₁ B hml hv
  obtain ⟨rfl, hsz, hP, hK, hST⟩ := hv
  have hx := B.exec
  have hb := B.bytes
  have hr := B.returns
  have hts := atoms_spec (ws := wsX0_lengthOf) B.pre
  have hown : s.vm.findClass RX0 = some m.cls := findClass_of_methodNamed B.named
  have hlocks := B.notSynchronized
  subst hsz
  generalize hAe : va_A [] s.heap.size = A at hST ⊢
  have hA : ∀ q : Nat, s.heap.size ≤ q → A q := fun q h => by rw [← hAe]; exact Or.inr h
  have hS : va_S A s.heap s.heap [] := va_S.rf
  have hl := lv_entry ([.ref aC, .int p0]) (n := 2) (Nat.le_of_ble_eq_true rfl)
  rw [lg_entry_eq]
  generalize (lg_sl ([.ref aC, .int p0]) ++ List.replicate (2 - (lg_sl ([.ref aC, .int p0])).length) Slot.unset).toArray = ls at hl ⊢
  have hl : lv_has ls 2 [(0, .ref aC), (1, .int p0)] := hl
  have iX0 : ∀ w ∈ wsX00, w ∈ wsX0_lengthOf := fun w h => List.mem_cons_of_mem _ (List.mem_append_right _ h)
  have k_1 := hts (.fieldLink RX0 18 "ParkWays$Car" "radius" "I") (List.mem_of_getElem? (i := 1) rfl)
  unfold J_X0_lengthOf at hJ
  refine lv_iload_n hx hb dX0_lengthOf_0 rfl (lv_at hl 1 rfl) ?_
  obtain ⟨v_1, hv_1, hJ⟩ := j_b hJ
  refine ro_i (va_runS (As := [.int p0]) (rest := []) ⟨hx, hb, hml, hown, hts⟩ (c_X0_isArc l D p0 tX tY s.heap.size F v_1 hv_1) (va_cwS 1 hts gX0_lengthOf_X0_isArc rfl rfl rfl (by decide +kernel) ⟨Nat.le_of_ble_eq_true rfl, Nat.le_of_ble_eq_true rfl⟩) (preRS [.int p0] hP hK hS hA hST [] rfl [] rfl) rfl rfl hl.1 rfl (lv_room (Nat.le_of_ble_eq_true rfl)) dX0_lengthOf_1 ⟨Nat.zero_le _, Nat.zero_le _⟩) hP hS hA (fun H locs hP hS => ?_)
  refine lv_if_eq (tgt := 16) hx hb dX0_lengthOf_4 (by decide) (fun c_2 => ?_) (fun c_2 => ?_)
  · have hJ := j_t c_2 hJ
    refine lv_iconst (v := 1) hx hb dX0_lengthOf_16 (by decide) ?_
    have ho := Option.some.inj hJ
    exact W.iret (v := (1 : Int32)) hx hb hr (fun t ht hW => ⟨⟨_, (), rfl, ho, trivial⟩, hS.F ht⟩) hS.2.2 dX0_lengthOf_17
  · have hJ := j_f c_2 hJ
    refine lv_iconst (v := 2) hx hb dX0_lengthOf_7 (by decide) ?_
    refine lv_aload_n hx hb dX0_lengthOf_8 rfl (lv_at hl 0 rfl) ?_
    refine va_get (D := D) (ci := 1) (v := .int rd) (C := RX0) (T := TX0) (N := 5) hx hb hts iX0 hown hK hP 0 rfl rfl 4 (by decide) k_1 (fun _ h9 => h9) rfl dX0_lengthOf_9 ?_
    refine lv_imul hx hb dX0_lengthOf_12 ?_
    refine lv_goto (tgt := 17) hx hb dX0_lengthOf_13 (by decide) ?_
    have ho := Option.some.inj hJ
    exact W.iret (v := ((2 : Int32) * rd)) hx hb hr (fun t ht hW => ⟨⟨_, (), rfl, ho, trivial⟩, hS.F ht⟩) hS.2.2 dX0_lengthOf_17
set_option maxHeartbeats 4000000 in
set_option maxRecDepth 100000 in
theorem c_X0_coveredX (l : Launch) (D : va_G) (p0 : Int32) (p1 : Int32) (p2 : Int32) (tX tY sz F : Nat) (o : Int32) (hJ : J_X0_coveredX F p0 p1 p2 = some o) : Met l yX0_coveredX wsX0_coveredX rmX0_coveredX (va_Pc [.int p0, .int p1, .int p2] (pcR D [] [] sz tX tY)) (qRi o (va_A [] sz)) 0 0 (va_A [] sz) := by
  refine Met.ofW (cc := cX0_coveredX) (maxL := 4) (ret := (some .int)) (by decide) rfl ?_
  intro p e s m args below meth c s₁ B hml hv
  obtain ⟨rfl, hsz, hP, hK, hST⟩ := hv
  have hx := B.exec
  have hb := B.bytes
  have hr := B.returns
  have hts := atoms_spec (ws := wsX0_coveredX) B.pre
  have hown : s.vm.findClass RX0 = some m.cls := findClass_of_methodNamed B.named
  have hlocks := B.notSynchronized
  subst hsz
  generalize hAe : va_A [] s.heap.size = A at hST ⊢
  have hA : ∀ q : Nat, s.heap.size ≤ q → A q := fun q h => by rw [← hAe]; exact Or.inr h
  have hS : va_S A s.heap s.heap [] := va_S.rf
  have hl := lv_entry ([.int p0, .int p1, .int p2]) (n := 4) (Nat.le_of_ble_eq_true rfl)
  rw [lg_entry_eq]
  generalize (lg_sl ([.int p0, .int p1, .int p2]) ++ List.replicate (4 - (lg_sl ([.int p0, .int p1, .int p2])).length) Slot.unset).toArray = ls at hl ⊢
  have hl : lv_has ls 4 [(0, .int p0), (1, .int p1), (2, .int p2)] := hl
  have k_2 := hts (.initialized RX4) (List.mem_of_getElem? (i := 2) rfl)
  have k_1 := hts (.static yX4_headingOf) (List.mem_of_getElem? (i := 1) rfl)
  have k_4 := hts (.static yX4_xOf) (List.mem_of_getElem? (i := 4) rfl)
  have k_6 := hts (.static yX4_stepX) (List.mem_of_getElem? (i := 6) rfl)
  unfold J_X0_coveredX at hJ
  refine lv_iload_n hx hb dX0_coveredX_0 rfl (lv_at hl 0 rfl) ?_
  obtain ⟨v_1, hv_1, hJ⟩ := j_b hJ
  refine ro_i (va_runSN (As := [.int p0]) (rest := []) ⟨hx, hb, hml, hown, hts⟩ (c_X4_headingOf l D p0 tX tY s.heap.size F v_1 hv_1) ⟨va_cnB 1 hts gX0_coveredX_X4_headingOf_n62 rfl rfl rfl (hST.1.2.2.2.2.2.2.2.2.1) k_2 (by decide +kernel) ⟨Nat.le_of_ble_eq_true rfl, Nat.le_of_ble_eq_true rfl⟩, k_1, trivial⟩ (preRS [.int p0] hP hK hS hA hST [] rfl [] rfl) rfl rfl hl.1 rfl (lv_room (Nat.le_of_ble_eq_true rfl)) dX0_coveredX_1 ⟨Nat.zero_le _, Nat.zero_le _⟩) hP hS hA (fun H locs hP hS => ?_)
  refine lv_istore_n (lv' := [(3, .int v_1), (0, .int p0), (1, .int p1), (2, .int p2)]) hx hb dX0_coveredX_4 rfl hl (by decide) rfl (fun ls hl => ?_)
  refine lv_iload_n hx hb dX0_coveredX_5 rfl (lv_at hl 1 rfl) ?_
  obtain ⟨v_2, hv_2, hJ⟩ := j_b hJ
  refine ro_i (va_runSN (As := [.int p0]) (rest := []) ⟨hx, hb, hml, hown, hts⟩ (c_X4_xOf l D p0 tX tY H.size F v_2 hv_2) ⟨va_cnB 1 hts gX0_coveredX_X4_xOf_n66 rfl rfl rfl (hST.1.2.2.2.2.2.2.2.2.2.1) k_2 (by decide +kernel) ⟨Nat.le_of_ble_eq_true rfl, Nat.le_of_ble_eq_true rfl⟩, k_4, trivial⟩ (preRS [.int p0] hP hK hS hA hST [] rfl [] rfl) rfl rfl hl.1 rfl (lv_room (Nat.le_of_ble_eq_true rfl)) dX0_coveredX_6 ⟨Nat.zero_le _, Nat.zero_le _⟩) hP hS hA (fun H locs hP hS => ?_)
  refine lv_iload_n hx hb dX0_coveredX_9 rfl (lv_at hl 2 rfl) ?_
  refine lv_iload_n hx hb dX0_coveredX_10 rfl (lv_at hl 0 rfl) ?_
  obtain ⟨v_3, hv_3, hJ⟩ := j_b hJ
  refine ro_i (va_runSN (As := [.int v_1]) (rest := [.int p1, .int v_2]) ⟨hx, hb, hml, hown, hts⟩ (c_X4_stepX l D v_1 tX tY H.size F v_3 hv_3) ⟨va_cnB 1 hts gX0_coveredX_X4_stepX_n69 rfl rfl rfl (hST.1.2.2.2.2.2.2.2.2.2.2.1) k_2 (by decide +kernel) ⟨Nat.le_of_ble_eq_true rfl, Nat.le_of_ble_eq_true rfl⟩, k_6, trivial⟩ (preRS [.int v_1] hP hK hS hA hST [] rfl [] rfl) rfl rfl hl.1 rfl (lv_room (Nat.le_of_ble_eq_true rfl)) dX0_coveredX_11 ⟨Nat.zero_le _, Nat.zero_le _⟩) hP hS hA (fun H locs hP hS => ?_)
  refine lv_imul hx hb dX0_coveredX_14 ?_
  refine lv_iadd hx hb dX0_coveredX_15 ?_
  refine lv_iload_n hx hb dX0_coveredX_16 rfl (lv_at hl 3 rfl) ?_
  refine lv_iload_n hx hb dX0_coveredX_17 rfl (lv_at hl 0 rfl) ?_
  refine lv_iconst (v := 2) hx hb dX0_coveredX_18 (by decide) ?_
  refine lv_iadd hx hb dX0_coveredX_19 ?_
  obtain ⟨v_4, hv_4, hJ⟩ := j_b hJ
  refine ro_i (va_runSN (As := [.int (v_1 + (2 : Int32))]) (rest := [.int p2, .int (v_2 + (p1 * v_3))]) ⟨hx, hb, hml, hown, hts⟩ (c_X4_stepX l D (v_1 + (2 : Int32)) tX tY H.size F v_4 hv_4) ⟨va_cnB 1 hts gX0_coveredX_X4_stepX_n69 rfl rfl rfl (hST.1.2.2.2.2.2.2.2.2.2.2.1) k_2 (by decide +kernel) ⟨Nat.le_of_ble_eq_true rfl, Nat.le_of_ble_eq_true rfl⟩, k_6, trivial⟩ (preRS [.int (v_1 + (2 : Int32))] hP hK hS hA hST [] rfl [] rfl) rfl rfl hl.1 rfl (lv_room (Nat.le_of_ble_eq_true rfl)) dX0_coveredX_20 ⟨Nat.zero_le _, Nat.zero_le _⟩) hP hS hA (fun H locs hP hS => ?_)
  refine lv_imul hx hb dX0_coveredX_23 ?_
  refine lv_iadd hx hb dX0_coveredX_24 ?_
  have ho := Option.some.inj hJ
  exact W.iret (v := ((v_2 + (p1 * v_3)) + (p2 * v_4))) hx hb hr (fun t ht hW => ⟨⟨_, (), rfl, ho, trivial⟩, hS.F ht⟩) hS.2.2 dX0_coveredX_25
set_option maxHeartbeats 4000000 in
set_option maxRecDepth 100000 in
theorem c_X0_coveredY (l : Launch) (D : va_G) (p0 : Int32) (p1 : Int32) (p2 : Int32) (tX tY sz F : Nat) (o : Int32) (hJ : J_X0_coveredY F p0 p1 p2 = some o) : Met l yX0_coveredY wsX0_coveredY rmX0_coveredY (va_Pc [.int p0, .int p1, .int p2] (pcR D [] [] sz tX tY)) (qRi o (va_A [] sz)) 0 0 (va_A [] sz) := by
  refine Met.ofW (cc := cX0_coveredY) (maxL := 4) (ret := (some .int)) (by decide) rfl ?_
  intro p e s m args below meth c s₁ B hml hv
  obtain ⟨rfl, hsz, hP, hK, hST⟩ := hv
  have hx := B.exec
  have hb := B.bytes
  have hr := B.returns
  have hts := atoms_spec (ws := wsX0_coveredY) B.pre
  have hown : s.vm.findClass RX0 = some m.cls := findClass_of_methodNamed B.named
  have hlocks := B.notSynchronized
  subst hsz
  generalize hAe : va_A [] s.heap.size = A at hST ⊢
  have hA : ∀ q : Nat, s.heap.size ≤ q → A q := fun q h => by rw [← hAe]; exact Or.inr h
  have hS : va_S A s.heap s.heap [] := va_S.rf
  have hl := lv_entry ([.int p0, .int p1, .int p2]) (n := 4) (Nat.le_of_ble_eq_true rfl)
  rw [lg_entry_eq]
  generalize (lg_sl ([.int p0, .int p1, .int p2]) ++ List.replicate (4 - (lg_sl ([.int p0, .int p1, .int p2])).length) Slot.unset).toArray = ls at hl ⊢
  have hl : lv_has ls 4 [(0, .int p0), (1, .int p1), (2, .int p2)] := hl
  have k_2 := hts (.initialized RX4) (List.mem_of_getElem? (i := 2) rfl)
  have k_1 := hts (.static yX4_headingOf) (List.mem_of_getElem? (i := 1) rfl)
  have k_4 := hts (.static yX4_yOf) (List.mem_of_getElem? (i := 4) rfl)
  have k_6 := hts (.static yX4_stepY) (List.mem_of_getElem? (i := 6) rfl)
  unfold J_X0_coveredY at hJ
  refine lv_iload_n hx hb dX0_coveredY_0 rfl (lv_at hl 0 rfl) ?_
  obtain ⟨v_1, hv_1, hJ⟩ := j_b hJ
  refine ro_i (va_runSN (As := [.int p0]) (rest := []) ⟨hx, hb, hml, hown, hts⟩ (c_X4_headingOf l D p0 tX tY s.heap.size F v_1 hv_1) ⟨va_cnB 1 hts gX0_coveredY_X4_headingOf_n62 rfl rfl rfl (hST.1.2.2.2.2.2.2.2.2.1) k_2 (by decide +kernel) ⟨Nat.le_of_ble_eq_true rfl, Nat.le_of_ble_eq_true rfl⟩, k_1, trivial⟩ (preRS [.int p0] hP hK hS hA hST [] rfl [] rfl) rfl rfl hl.1 rfl (lv_room (Nat.le_of_ble_eq_true rfl)) dX0_coveredY_1 ⟨Nat.zero_le _, Nat.zero_le _⟩) hP hS hA (fun H locs hP hS => ?_)
  refine lv_istore_n (lv' := [(3, .int v_1), (0, .int p0), (1, .int p1), (2, .int p2)]) hx hb dX0_coveredY_4 rfl hl (by decide) rfl (fun ls hl => ?_)
  refine lv_iload_n hx hb dX0_coveredY_5 rfl (lv_at hl 1 rfl) ?_
  obtain ⟨v_2, hv_2, hJ⟩ := j_b hJ
  refine ro_i (va_runSN (As := [.int p0]) (rest := []) ⟨hx, hb, hml, hown, hts⟩ (c_X4_yOf l D p0 tX tY H.size F v_2 hv_2) ⟨va_cnB 1 hts gX0_coveredY_X4_yOf_n72 rfl rfl rfl (hST.1.2.2.2.2.2.2.2.2.2.2.2.1) k_2 (by decide +kernel) ⟨Nat.le_of_ble_eq_true rfl, Nat.le_of_ble_eq_true rfl⟩, k_4, trivial⟩ (preRS [.int p0] hP hK hS hA hST [] rfl [] rfl) rfl rfl hl.1 rfl (lv_room (Nat.le_of_ble_eq_true rfl)) dX0_coveredY_6 ⟨Nat.zero_le _, Nat.zero_le _⟩) hP hS hA (fun H locs hP hS => ?_)
  refine lv_iload_n hx hb dX0_coveredY_9 rfl (lv_at hl 2 rfl) ?_
  refine lv_iload_n hx hb dX0_coveredY_10 rfl (lv_at hl 0 rfl) ?_
  obtain ⟨v_3, hv_3, hJ⟩ := j_b hJ
  refine ro_i (va_runSN (As := [.int v_1]) (rest := [.int p1, .int v_2]) ⟨hx, hb, hml, hown, hts⟩ (c_X4_stepY l D v_1 tX tY H.size F v_3 hv_3) ⟨va_cnB 1 hts gX0_coveredY_X4_stepY_n75 rfl rfl rfl (hST.1.2.2.2.2.2.2.2.2.2.2.2.2.1) k_2 (by decide +kernel) ⟨Nat.le_of_ble_eq_true rfl, Nat.le_of_ble_eq_true rfl⟩, k_6, trivial⟩ (preRS [.int v_1] hP hK hS hA hST [] rfl [] rfl) rfl rfl hl.1 rfl (lv_room (Nat.le_of_ble_eq_true rfl)) dX0_coveredY_11 ⟨Nat.zero_le _, Nat.zero_le _⟩) hP hS hA (fun H locs hP hS => ?_)
  refine lv_imul hx hb dX0_coveredY_14 ?_
  refine lv_iadd hx hb dX0_coveredY_15 ?_
  refine lv_iload_n hx hb dX0_coveredY_16 rfl (lv_at hl 3 rfl) ?_
  refine lv_iload_n hx hb dX0_coveredY_17 rfl (lv_at hl 0 rfl) ?_
  refine lv_iconst (v := 2) hx hb dX0_coveredY_18 (by decide) ?_
  refine lv_iadd hx hb dX0_coveredY_19 ?_
  obtain ⟨v_4, hv_4, hJ⟩ := j_b hJ
  refine ro_i (va_runSN (As := [.int (v_1 + (2 : Int32))]) (rest := [.int p2, .int (v_2 + (p1 * v_3))]) ⟨hx, hb, hml, hown, hts⟩ (c_X4_stepY l D (v_1 + (2 : Int32)) tX tY H.size F v_4 hv_4) ⟨va_cnB 1 hts gX0_coveredY_X4_stepY_n75 rfl rfl rfl (hST.1.2.2.2.2.2.2.2.2.2.2.2.2.1) k_2 (by decide +kernel) ⟨Nat.le_of_ble_eq_true rfl, Nat.le_of_ble_eq_true rfl⟩, k_6, trivial⟩ (preRS [.int (v_1 + (2 : Int32))] hP hK hS hA hST [] rfl [] rfl) rfl rfl hl.1 rfl (lv_room (Nat.le_of_ble_eq_true rfl)) dX0_coveredY_20 ⟨Nat.zero_le _, Nat.zero_le _⟩) hP hS hA (fun H locs hP hS => ?_)
  refine lv_imul hx hb dX0_coveredY_23 ?_
  refine lv_iadd hx hb dX0_coveredY_24 ?_
  have ho := Option.some.inj hJ
  exact W.iret (v := ((v_2 + (p1 * v_3)) + (p2 * v_4))) hx hb hr (fun t ht hW => ⟨⟨_, (), rfl, ho, trivial⟩, hS.F ht⟩) hS.2.2 dX0_coveredY_25
set_option maxHeartbeats 4000000 in
set_option maxRecDepth 100000 in
theorem c_X0_forget (l : Launch) (D : va_G) (aC aKn aF aFu aFk : Nat) (cKn cFu cFk : ClassId) (ln : Int32) (wd : Int32) (rd : Int32) (nKn : Nat) (kn : Nat → Int32) (w : Int32) (ht : Int32) (tn : Int32) (kp : Int32) (nFu : Nat) (fu : Nat → Int32) (nFk : Nat) (fk : Nat → Int32) (tX tY sz F : Nat) (o : (Nat → Int32)) (hJ : J_X0_forget F nKn kn = some o) : Met l yX0_forget wsX0_forget rmX0_forget (va_Pc [.ref aC] (pcW D [(aC, .inr (1, [.ref aF, .ref aKn, .int ln, .int wd, .int rd])), (aKn, .inl (cKn, nKn, .inl kn)), (aF, .inr (2, [.int w, .int ht, .int tn, .ref aFu, .ref aFk, .int kp])), (aFu, .inl (cFu, nFu, .inl fu)), (aFk, .inl (cFk, nFk, .inl fk))] [(cKn, .int), (cFu, .boolean), (cFk, .int)] sz tX tY)) (qWv D [(aC, .inr (1, [.ref aF, .ref aKn, .int ln, .int wd, .int rd])), (aKn, .inl (cKn, nKn, .inl o)), (aF, .inr (2, [.int w, .int ht, .int tn, .ref aFu, .ref aFk, .int kp])), (aFu, .inl (cFu, nFu, .inl fu)), (aFk, .inl (cFk, nFk, .inl fk))] (va_A [(aC, .inr (1, [.ref aF, .ref aKn, .int ln, .int wd, .int rd])), (aKn, .inl (cKn, nKn, .inl kn)), (aF, .inr (2, [.int w, .int ht, .int tn, .ref aFu, .ref aFk, .int kp])), (aFu, .inl (cFu, nFu, .inl fu)), (aFk, .inl (cFk, nFk, .inl fk))] sz)) 0 0 (va_A [(aC, .inr (1, [.ref aF, .ref aKn, .int ln, .int wd, .int rd])), (aKn, .inl (cKn, nKn, .inl kn)), (aF, .inr (2, [.int w, .int ht, .int tn, .ref aFu, .ref aFk, .int kp])), (aFu, .inl (cFu, nFu, .inl fu)), (aFk, .inl (cFk, nFk, .inl fk))] sz) := by
  refine Met.ofW (cc := cX0_forget) (maxL := 1) (ret := none) (by decide) rfl ?_
  intro p e s m args below meth c s₁ B hml hv
  obtain ⟨rfl, hsz, hP, hK, hD0, hST⟩ := hv
  have hx := B.exec
  have hb := B.bytes
  have hr := B.returns
  have hts := atoms_spec (ws := wsX0_forget) B.pre
  have hown : s.vm.findClass RX0 = some m.cls := findClass_of_methodNamed B.named
  have hlocks := B.notSynchronized
  subst hsz
  have hD := hD0.self (sz := s.heap.size)
  generalize hAe : va_A [(aC, .inr (1, [.ref aF, .ref aKn, .int ln, .int wd, .int rd])), (aKn, .inl (cKn, nKn, .inl kn)), (aF, .inr (2, [.int w, .int ht, .int tn, .ref aFu, .ref aFk, .int kp])), (aFu, .inl (cFu, nFu, .inl fu)), (aFk, .inl (cFk, nFk, .inl fk))] s.heap.size = A at hD hST ⊢
  have hA : ∀ q : Nat, s.heap.size ≤ q → A q := fun q h => by rw [← hAe]; exact Or.inr h
  have hS : va_S A s.heap s.heap [] := va_S.rf
  have hl := lv_entry ([.ref aC]) (n := 1) (Nat.le_of_ble_eq_true rfl)
  rw [lg_entry_eq]
  generalize (lg_sl ([.ref aC]) ++ List.replicate (1 - (lg_sl ([.ref aC])).length) Slot.unset).toArray = ls at hl ⊢
  have hl : lv_has ls 1 [(0, .ref aC)] := hl
  have iX0 : ∀ w ∈ wsX00, w ∈ wsX0_forget := fun w h => List.mem_cons_of_mem _ (List.mem_append_right _ h)
  have k_1 := hts (.fieldLink RX0 31 "ParkWays$Car" "known" "[I") (List.mem_of_getElem? (i := 1) rfl)
  unfold J_X0_forget at hJ
  refine lv_aload_n hx hb dX0_forget_0 rfl (lv_at hl 0 rfl) ?_
  refine va_get (D := D) (ci := 1) (v := .ref aKn) (C := RX0) (T := TX0) (N := 5) hx hb hts iX0 hown hK hP 0 rfl rfl 1 (by decide) k_1 (fun _ h9 => h9) rfl dX0_forget_1 ?_
  refine lv_iconst (v := 0) hx hb dX0_forget_4 (by decide) ?_
  obtain ⟨v_1, hv_1, hJ⟩ := j_b hJ
  refine wr_v (wr := [(aC, .inr (1, [.ref aF, .ref aKn, .int ln, .int wd, .int rd])), (aF, .inr (2, [.int w, .int ht, .int tn, .ref aFu, .ref aFk, .int kp])), (aFu, .inl (cFu, nFu, .inl fu)), (aFk, .inl (cFk, nFk, .inl fk))]) (wn := [(aC, .inr (1, [.ref aF, .ref aKn, .int ln, .int wd, .int rd])), (aKn, .inl (cKn, nKn, .inl v_1)), (aF, .inr (2, [.int w, .int ht, .int tn, .ref aFu, .ref aFk, .int kp])), (aFu, .inl (cFu, nFu, .inl fu)), (aFk, .inl (cFk, nFk, .inl fk))]) (va_runS (As := [.ref aKn, .int (0 : Int32)]) (rest := []) ⟨hx, hb, hml, hown, hts⟩ (c_J7_fill_53178 l D aKn cKn nKn kn (0 : Int32) tX tY s.heap.size F v_1 hv_1) (va_cwS 2 hts gX0_forget_J7_fill_53178 rfl rfl rfl (by decide +kernel) ⟨Nat.le_of_ble_eq_true rfl, Nat.le_of_ble_eq_true rfl⟩) (preWS [.ref aKn, .int (0 : Int32)] hP hD hK hS hA hST [1] rfl rfl rfl [0] rfl) rfl rfl hl.1 rfl (lv_room (Nat.le_of_ble_eq_true rfl)) dX0_forget_5 ⟨Nat.zero_le _, Nat.zero_le _⟩) hP hD hS hA [1] [0, 2, 3, 4] rfl rfl rfl (by decide) [0, 4, 1, 2, 3] rfl rfl rfl (fun H locs hP hD hS => ?_)
  have ho := Option.some.inj hJ
  exact W.vret hx hb hr (fun t ht hW => ⟨⟨(), rfl, trivial, (by rw [ht, ← ho]; exact hP), (by rw [← ho]; exact hD)⟩, hS.F ht⟩) hS.2.2 dX0_forget_8
set_option maxHeartbeats 4000000 in
set_option maxRecDepth 100000 in
theorem c_X0_build (l : Launch) (D : va_G) (aC aKn aF aFu aFk : Nat) (cKn cFu cFk : ClassId) (ln : Int32) (wd : Int32) (rd : Int32) (nKn : Nat) (kn : Nat → Int32) (w : Int32) (ht : Int32) (tn : Int32) (kp : Int32) (nFu : Nat) (fu : Nat → Int32) (nFk : Nat) (fk : Nat → Int32) (p0 : Int32) (p1 : Int32) (p2 : Int32) (tX tY sz F : Nat) (o : Int32 × Int32 × Int32 × (Nat → Int32)) (hJ : J_X0_build F nKn kn p0 p1 p2 = some o) : Met l yX0_build wsX0_build rmX0_build (va_Pc [.ref aC, .int p0, .int p1, .int p2] (pcW D [(aC, .inr (1, [.ref aF, .ref aKn, .int ln, .int wd, .int rd])), (aKn, .inl (cKn, nKn, .inl kn)), (aF, .inr (2, [.int w, .int ht, .int tn, .ref aFu, .ref aFk, .int kp])), (aFu, .inl (cFu, nFu, .inl fu)), (aFk, .inl (cFk, nFk, .inl fk))] [(cKn, .int), (cFu, .boolean), (cFk, .int)] sz tX tY)) (qWv D [(aC, .inr (1, [.ref aF, .ref aKn, .int o.1, .int o.2.1, .int o.2.2.1])), (aKn, .inl (cKn, nKn, .inl o.2.2.2)), (aF, .inr (2, [.int w, .int ht, .int tn, .ref aFu, .ref aFk, .int kp])), (aFu, .inl (cFu, nFu, .inl fu)), (aFk, .inl (cFk, nFk, .inl fk))] (va_A [(aC, .inr (1, [.ref aF, .ref aKn, .int ln, .int wd, .int rd])), (aKn, .inl (cKn, nKn, .inl kn)), (aF, .inr (2, [.int w, .int ht, .int tn, .ref aFu, .ref aFk, .int kp])), (aFu, .inl (cFu, nFu, .inl fu)), (aFk, .inl (cFk, nFk, .inl fk))] sz)) 0 0 (va_A [(aC, .inr (1, [.ref aF, .ref aKn, .int ln, .int wd, .int rd])), (aKn, .inl (cKn, nKn, .inl kn)), (aF, .inr (2, [.int w, .int ht, .int tn, .ref aFu, .ref aFk, .int kp])), (aFu, .inl (cFu, nFu, .inl fu)), (aFk, .inl (cFk, nFk, .inl fk))] sz) := by
  refine Met.ofW (cc := cX0_build) (maxL := 4) (ret := none) (by decide) rfl ?_
  intro p e s m args below meth c s₁ B hml hv
  obtain ⟨rfl, hsz, hP, hK, hD0, hST⟩ := hv
  have hx := B.exec
  have hb := B.bytes
  have hr := B.returns
  have hts := atoms_spec (ws := wsX0_build) B.pre
  have hown : s.vm.findClass RX0 = some m.cls := findClass_of_methodNamed B.named
  have hlocks := B.notSynchronized
  subst hsz
  have hD := hD0.self (sz := s.heap.size)
  generalize hAe : va_A [(aC, .inr (1, [.ref aF, .ref aKn, .int ln, .int wd, .int rd])), (aKn, .inl (cKn, nKn, .inl kn)), (aF, .inr (2, [.int w, .int ht, .int tn, .ref aFu, .ref aFk, .int kp])), (aFu, .inl (cFu, nFu, .inl fu)), (aFk, .inl (cFk, nFk, .inl fk))] s.heap.size = A at hD hST ⊢
  have hA : ∀ q : Nat, s.heap.size ≤ q → A q := fun q h => by rw [← hAe]; exact Or.inr h
  have hS : va_S A s.heap s.heap [] := va_S.rf
  have hl := lv_entry ([.ref aC, .int p0, .int p1, .int p2]) (n := 4) (Nat.le_of_ble_eq_true rfl)
  rw [lg_entry_eq]
  generalize (lg_sl ([.ref aC, .int p0, .int p1, .int p2]) ++ List.replicate (4 - (lg_sl ([.ref aC, .int p0, .int p1, .int p2])).length) Slot.unset).toArray = ls at hl ⊢
  have hl : lv_has ls 4 [(0, .ref aC), (1, .int p0), (2, .int p1), (3, .int p2)] := hl
  have iX0 : ∀ w ∈ wsX00, w ∈ wsX0_build := fun w h => List.mem_cons_of_mem _ (List.mem_append_right _ h)
  have k_1 := hts (.fieldLink RX0 9 "ParkWays$Car" "length" "I") (List.mem_of_getElem? (i := 1) rfl)
  have k_2 := hts (.fieldLink RX0 15 "ParkWays$Car" "wide" "I") (List.mem_of_getElem? (i := 2) rfl)
  have k_3 := hts (.fieldLink RX0 18 "ParkWays$Car" "radius" "I") (List.mem_of_getElem? (i := 3) rfl)
  unfold J_X0_build at hJ
  refine lv_aload_n hx hb dX0_build_0 rfl (lv_at hl 0 rfl) ?_
  refine lv_iload_n hx hb dX0_build_1 rfl (lv_at hl 1 rfl) ?_
  refine va_put (D := D) (ci := 1) (v := .int p0) (ty := .int) (C := RX0) (T := TX0) (N := 5) hx hb hts iX0 tyX0 tyX0_ok nmX0 hown hK hP hD hS 0 rfl rfl 2 (by decide) k_1 (fun _ h9 => h9) rfl (by decide +kernel) rfl rfl (Nat.le_of_ble_eq_true rfl) dX0_build_2 (fun H locs hP hD hS => ?_)
  have hP : va_P D vwCl [(aC, .inr (1, [.ref aF, .ref aKn, .int p0, .int wd, .int rd])), (aKn, .inl (cKn, nKn, .inl kn)), (aF, .inr (2, [.int w, .int ht, .int tn, .ref aFu, .ref aFk, .int kp])), (aFu, .inl (cFu, nFu, .inl fu)), (aFk, .inl (cFk, nFk, .inl fk))] H := hP
  have hD : va_D A [(aC, .inr (1, [.ref aF, .ref aKn, .int p0, .int wd, .int rd])), (aKn, .inl (cKn, nKn, .inl kn)), (aF, .inr (2, [.int w, .int ht, .int tn, .ref aFu, .ref aFk, .int kp])), (aFu, .inl (cFu, nFu, .inl fu)), (aFk, .inl (cFk, nFk, .inl fk))] := hD
  refine lv_aload_n hx hb dX0_build_5 rfl (lv_at hl 0 rfl) ?_
  refine lv_iload_n hx hb dX0_build_6 rfl (lv_at hl 2 rfl) ?_
  refine va_put (D := D) (ci := 1) (v := .int p1) (ty := .int) (C := RX0) (T := TX0) (N := 5) hx hb hts iX0 tyX0 tyX0_ok nmX0 hown hK hP hD hS 0 rfl rfl 3 (by decide) k_2 (fun _ h9 => h9) rfl (by decide +kernel) rfl rfl (Nat.le_of_ble_eq_true rfl) dX0_build_7 (fun H locs hP hD hS => ?_)
  have hP : va_P D vwCl [(aC, .inr (1, [.ref aF, .ref aKn, .int p0, .int p1, .int rd])), (aKn, .inl (cKn, nKn, .inl kn)), (aF, .inr (2, [.int w, .int ht, .int tn, .ref aFu, .ref aFk, .int kp])), (aFu, .inl (cFu, nFu, .inl fu)), (aFk, .inl (cFk, nFk, .inl fk))] H := hP
  have hD : va_D A [(aC, .inr (1, [.ref aF, .ref aKn, .int p0, .int p1, .int rd])), (aKn, .inl (cKn, nKn, .inl kn)), (aF, .inr (2, [.int w, .int ht, .int tn, .ref aFu, .ref aFk, .int kp])), (aFu, .inl (cFu, nFu, .inl fu)), (aFk, .inl (cFk, nFk, .inl fk))] := hD
  refine lv_aload_n hx hb dX0_build_10 rfl (lv_at hl 0 rfl) ?_
  refine lv_iload_n hx hb dX0_build_11 rfl (lv_at hl 3 rfl) ?_
  refine va_put (D := D) (ci := 1) (v := .int p2) (ty := .int) (C := RX0) (T := TX0) (N := 5) hx hb hts iX0 tyX0 tyX0_ok nmX0 hown hK hP hD hS 0 rfl rfl 4 (by decide) k_3 (fun _ h9 => h9) rfl (by decide +kernel) rfl rfl (Nat.le_of_ble_eq_true rfl) dX0_build_12 (fun H locs hP hD hS => ?_)
  have hP : va_P D vwCl [(aC, .inr (1, [.ref aF, .ref aKn, .int p0, .int p1, .int p2])), (aKn, .inl (cKn, nKn, .inl kn)), (aF, .inr (2, [.int w, .int ht, .int tn, .ref aFu, .ref aFk, .int kp])), (aFu, .inl (cFu, nFu, .inl fu)), (aFk, .inl (cFk, nFk, .inl fk))] H := hP
  have hD : va_D A [(aC, .inr (1, [.ref aF, .ref aKn, .int p0, .int p1, .int p2])), (aKn, .inl (cKn, nKn, .inl kn)), (aF, .inr (2, [.int w, .int ht, .int tn, .ref aFu, .ref aFk, .int kp])), (aFu, .inl (cFu, nFu, .inl fu)), (aFk, .inl (cFk, nFk, .inl fk))] := hD
  refine lv_aload_n hx hb dX0_build_15 rfl (lv_at hl 0 rfl) ?_
  obtain ⟨v_1, hv_1, hJ⟩ := j_b hJ
  refine wr_v (wr := []) (wn := [(aC, .inr (1, [.ref aF, .ref aKn, .int p0, .int p1, .int p2])), (aKn, .inl (cKn, nKn, .inl v_1)), (aF, .inr (2, [.int w, .int ht, .int tn, .ref aFu, .ref aFk, .int kp])), (aFu, .inl (cFu, nFu, .inl fu)), (aFk, .inl (cFk, nFk, .inl fk))]) (va_runV (As := []) (rest := []) ⟨hx, hb, hml, hown, hts⟩ (c_X0_forget l D aC aKn aF aFu aFk cKn cFu cFk p0 p1 p2 nKn kn w ht tn kp nFu fu nFk fk tX tY H.size F v_1 hv_1) (cwV 0 hts gX0_build_X0_forget rfl rfl rfl (by decide +kernel) ⟨Nat.le_of_ble_eq_true rfl, Nat.le_of_ble_eq_true rfl⟩) (preWV [] hP hD hK hS hA hST [0, 1, 2, 3, 4] rfl rfl rfl [0, 1, 2] rfl (ci := 1) (q0 := 0) rfl rfl) rfl rfl hl.1 rfl (lv_room (Nat.le_of_ble_eq_true rfl)) dX0_build_16 ⟨Nat.zero_le _, Nat.zero_le _⟩) hP hD hS hA [0, 1, 2, 3, 4] [] rfl rfl rfl (by decide) [0, 1, 2, 3, 4] rfl rfl rfl (fun H locs hP hD hS => ?_)
  have ho := Option.some.inj hJ
  exact W.vret hx hb hr (fun t ht hW => ⟨⟨(), rfl, trivial, (by rw [ht, ← ho]; exact hP), (by rw [← ho]; exact hD)⟩, hS.F ht⟩) hS.2.2 dX0_build_19
set_option maxHeartbeats 4000000 in
set_option maxRecDepth 100000 in
theorem c_X0_coversClearCells (l : Launch) (D : va_G) (aC aKn aF aFu aFk : Nat) (cKn cFu cFk : ClassId) (ln : Int32) (wd : Int32) (rd : Int32) (nKn : Nat) (kn : Nat → Int32) (w : Int32) (ht : Int32) (tn : Int32) (kp : Int32) (nFu : Nat) (fu : Nat → Int32) (nFk : Nat) (fk : Nat → Int32) (p0 : Int32) (tX tY sz F : Nat) (o : Int32) (hJ : J_X0_coversClearCells F ln wd w ht nFk fk p0 = some o) : Met l yX0_coversClearCells wsX0_coversClearCells rmX0_coversClearCells (va_Pc [.ref aC, .int p0] (pcR D [(aC, .inr (1, [.ref aF, .ref aKn, .int ln, .int wd, .int rd])), (aKn, .inl (cKn, nKn, .inl kn)), (aF, .inr (2, [.int w, .int ht, .int tn, .ref aFu, .ref aFk, .int kp])), (aFu, .inl (cFu, nFu, .inl fu)), (aFk, .inl (cFk, nFk, .inl fk))] [(cKn, .int), (cFu, .boolean), (cFk, .int)] sz tX tY)) (qRi o (va_A [] sz)) 0 0 (va_A [] sz) := by
  refine Met.ofW (cc := cX0_coversClearCells) (maxL := 4) (ret := (some .boolean)) (by decide) rfl ?_
  intro p e s m args below meth c s₁ B hml hv
  obtain ⟨rfl, hsz, hP, hK, hST⟩ := hv
  have hx := B.exec
  have hb := B.bytes
  have hr := B.returns
  have hts := atoms_spec (ws := wsX0_coversClearCells) B.pre
  have hown : s.vm.findClass RX0 = some m.cls := findClass_of_methodNamed B.named
  have hlocks := B.notSynchronized
  subst hsz
  generalize hAe : va_A [] s.heap.size = A at hST ⊢
  have hA : ∀ q : Nat, s.heap.size ≤ q → A q := fun q h => by rw [← hAe]; exact Or.inr h
  have hS : va_S A s.heap s.heap [] := va_S.rf
  have hl := lv_entry ([.ref aC, .int p0]) (n := 4) (Nat.le_of_ble_eq_true rfl)
  rw [lg_entry_eq]
  generalize (lg_sl ([.ref aC, .int p0]) ++ List.replicate (4 - (lg_sl ([.ref aC, .int p0])).length) Slot.unset).toArray = ls at hl ⊢
  have hl : lv_has ls 4 [(0, .ref aC), (1, .int p0)] := hl
  have iX0 : ∀ w ∈ wsX00, w ∈ wsX0_coversClearCells := fun w h => List.mem_cons_of_mem _ (List.mem_append_left _ (List.mem_append_right _ h))
  have k_1 := hts (.fieldLink RX0 9 "ParkWays$Car" "length" "I") (List.mem_of_getElem? (i := 1) rfl)
  have k_2 := hts (.fieldLink RX0 15 "ParkWays$Car" "wide" "I") (List.mem_of_getElem? (i := 2) rfl)
  have k_3 := hts (.fieldLink RX0 21 "ParkWays$Car" "field" "LParkWays$Field;") (List.mem_of_getElem? (i := 3) rfl)
  have L_30 : ∀ (y1_4 : Int32) (y2_5 : Int32) (kk_70 : Int32 → Option (Int32)) (hkk_70 : ∀ (H : Heap) (locs : List Loc) (x3_6 : Int32) (ls : Array Slot), kk_70 x3_6 = some o → va_P D vwCl [(aC, .inr (1, [.ref aF, .ref aKn, .int ln, .int wd, .int rd])), (aKn, .inl (cKn, nKn, .inl kn)), (aF, .inr (2, [.int w, .int ht, .int tn, .ref aFu, .ref aFk, .int kp])), (aFu, .inl (cFu, nFu, .inl fu)), (aFk, .inl (cFk, nFk, .inl fk))] H → va_S A s.heap H locs → lv_has ls 4 [(0, .ref aC), (1, .int y1_4), (2, .int y2_5)] → W p l e (headSpec wsX0_coversClearCells rmX0_coversClearCells).room s m [.ref aC, .int p0].toArray below meth c H locs 0 0 (MQ below (qRi o A) [.ref aC, .int p0].toArray s 0 0 A) (F0 m 70 ls [])) (fz : Nat) (H : Heap) (locs : List Loc) (x3_6 : Int32) (ls : Array Slot), J_X0_coversClearCells_L30 F wd w ht nFk fk y1_4 y2_5 kk_70 fz x3_6 = some o → va_P D vwCl [(aC, .inr (1, [.ref aF, .ref aKn, .int ln, .int wd, .int rd])), (aKn, .inl (cKn, nKn, .inl kn)), (aF, .inr (2, [.int w, .int ht, .int tn, .ref aFu, .ref aFk, .int kp])), (aFu, .inl (cFu, nFu, .inl fu)), (aFk, .inl (cFk, nFk, .inl fk))] H → va_S A s.heap H locs → lv_has ls 4 [(0, .ref aC), (1, .int y1_4), (2, .int y2_5), (3, .int x3_6)] → W p l e (headSpec wsX0_coversClearCells rmX0_coversClearCells).room s m [.ref aC, .int p0].toArray below meth c H locs 0 0 (MQ below (qRi o A) [.ref aC, .int p0].toArray s 0 0 A) (F0 m 30 ls []) := by
    intro y1_4 y2_5 kk_70 hkk_70 fz
    induction fz with
    | zero =>
      intro H locs x3_6 ls hJ
      rw [J_X0_coversClearCells_L30] at hJ
      cases hJ
    | succ fz ih =>
      intro H locs x3_6 ls hJ hP hS hl
      rw [J_X0_coversClearCells_L30] at hJ
      refine lv_iload_n hx hb dX0_coversClearCells_30 rfl (lv_at hl 3 rfl) ?_
      refine lv_aload_n hx hb dX0_coversClearCells_31 rfl (lv_at hl 0 rfl) ?_
      refine va_get (D := D) (ci := 1) (v := .int wd) (C := RX0) (T := TX0) (N := 5) hx hb hts iX0 hown hK hP 0 rfl rfl 3 (by decide) k_2 (fun _ h9 => h9) rfl dX0_coversClearCells_32 ?_
      refine lv_iconst (v := 2) hx hb dX0_coversClearCells_35 (by decide) ?_
      refine lv_idiv hx hb dX0_coversClearCells_36 (by decide) ?_
      refine lv_icmp_gt (tgt := 70) hx hb dX0_coversClearCells_37 (by decide) (fun c_7 => ?_) (fun c_7 => ?_)
      · have hJ := j_t c_7 hJ
        exact hkk_70 H locs x3_6 ls hJ hP hS (lv_sub hl [0, 1, 2] rfl)
      · have hJ := j_f c_7 hJ
        refine lv_aload_n hx hb dX0_coversClearCells_40 rfl (lv_at hl 0 rfl) ?_
        refine va_get (D := D) (ci := 1) (v := .ref aF) (C := RX0) (T := TX0) (N := 5) hx hb hts iX0 hown hK hP 0 rfl rfl 0 (by decide) k_3 (fun _ h9 => h9) rfl dX0_coversClearCells_41 ?_
        refine lv_iload_n hx hb dX0_coversClearCells_44 rfl (lv_at hl 1 rfl) ?_
        refine lv_iload_n hx hb dX0_coversClearCells_45 rfl (lv_at hl 2 rfl) ?_
        refine lv_iload_n hx hb dX0_coversClearCells_46 rfl (lv_at hl 3 rfl) ?_
        obtain ⟨v_8, hv_8, hJ⟩ := j_b hJ
        refine ro_i (va_runS (As := [.int y1_4, .int y2_5, .int x3_6]) (rest := [.ref aF]) ⟨hx, hb, hml, hown, hts⟩ (c_X0_coveredX l D y1_4 y2_5 x3_6 tX tY H.size F v_8 hv_8) (va_cwS 3 hts gX0_coversClearCells_X0_coveredX rfl rfl rfl (by decide +kernel) ⟨Nat.le_of_ble_eq_true rfl, Nat.le_of_ble_eq_true rfl⟩) (preRS [.int y1_4, .int y2_5, .int x3_6] hP hK hS hA hST [] rfl [] rfl) rfl rfl hl.1 rfl (lv_room (Nat.le_of_ble_eq_true rfl)) dX0_coversClearCells_47 ⟨Nat.zero_le _, Nat.zero_le _⟩) hP hS hA (fun H locs hP hS => ?_)
        refine lv_iload_n hx hb dX0_coversClearCells_50 rfl (lv_at hl 1 rfl) ?_
        refine lv_iload_n hx hb dX0_coversClearCells_51 rfl (lv_at hl 2 rfl) ?_
        refine lv_iload_n hx hb dX0_coversClearCells_52 rfl (lv_at hl 3 rfl) ?_
        obtain ⟨v_9, hv_9, hJ⟩ := j_b hJ
        refine ro_i (va_runS (As := [.int y1_4, .int y2_5, .int x3_6]) (rest := [.int v_8, .ref aF]) ⟨hx, hb, hml, hown, hts⟩ (c_X0_coveredY l D y1_4 y2_5 x3_6 tX tY H.size F v_9 hv_9) (va_cwS 3 hts gX0_coversClearCells_X0_coveredY rfl rfl rfl (by decide +kernel) ⟨Nat.le_of_ble_eq_true rfl, Nat.le_of_ble_eq_true rfl⟩) (preRS [.int y1_4, .int y2_5, .int x3_6] hP hK hS hA hST [] rfl [] rfl) rfl rfl hl.1 rfl (lv_room (Nat.le_of_ble_eq_true rfl)) dX0_coversClearCells_53 ⟨Nat.zero_le _, Nat.zero_le _⟩) hP hS hA (fun H locs hP hS => ?_)
        obtain ⟨v_10, hv_10, hJ⟩ := j_b hJ
        refine ro_i (va_runV (As := [.int v_8, .int v_9]) (rest := []) ⟨hx, hb, hml, hown, hts⟩ (c_X1_isKeptClear l D aF aFu aFk cFu cFk w ht tn kp nFu fu nFk fk v_8 v_9 tX tY H.size F v_10 hv_10) (cwV 2 hts gX0_coversClearCells_X1_isKeptClear rfl rfl rfl (by decide +kernel) ⟨Nat.le_of_ble_eq_true rfl, Nat.le_of_ble_eq_true rfl⟩) (preRV [.int v_8, .int v_9] hP hK hS hA hST [2, 3, 4] rfl [1, 2] rfl (ci := 2) (q0 := 2) rfl rfl) rfl rfl hl.1 rfl (lv_room (Nat.le_of_ble_eq_true rfl)) dX0_coversClearCells_56 ⟨Nat.zero_le _, Nat.zero_le _⟩) hP hS hA (fun H locs hP hS => ?_)
        refine lv_if_ne (tgt := 64) hx hb dX0_coversClearCells_59 (by decide) (fun c_11 => ?_) (fun c_11 => ?_)
        · have hJ := j_f c_11 hJ
          refine lv_iinc (v := (x3_6 + (1 : Int32))) (lv' := [(3, .int (x3_6 + (1 : Int32))), (0, .ref aC), (1, .int y1_4), (2, .int y2_5)]) hx hb dX0_coversClearCells_64 hl (k := 3) rfl rfl (by decide) rfl (fun ls hl => ?_)
          refine lv_goto (tgt := 30) hx hb dX0_coversClearCells_67 (by decide) ?_
          exact ih H locs (x3_6 + (1 : Int32)) ls hJ hP hS (lv_sub hl [1, 2, 3, 0] rfl)
        · have hJ := j_t c_11 hJ
          refine lv_iconst (v := 0) hx hb dX0_coversClearCells_62 (by decide) ?_
          have ho := Option.some.inj hJ
          exact W.zret (v := (0 : Int32)) hx hb hr rfl (fun t ht hW => ⟨⟨_, (), rfl, ho, trivial⟩, hS.F ht⟩) hS.2.2 dX0_coversClearCells_63
  have L_10 : ∀ (y1_1 : Int32) (kk_76 : Int32 → Option (Int32)) (hkk_76 : ∀ (H : Heap) (locs : List Loc) (x2_2 : Int32) (ls : Array Slot), kk_76 x2_2 = some o → va_P D vwCl [(aC, .inr (1, [.ref aF, .ref aKn, .int ln, .int wd, .int rd])), (aKn, .inl (cKn, nKn, .inl kn)), (aF, .inr (2, [.int w, .int ht, .int tn, .ref aFu, .ref aFk, .int kp])), (aFu, .inl (cFu, nFu, .inl fu)), (aFk, .inl (cFk, nFk, .inl fk))] H → va_S A s.heap H locs → lv_has ls 4 [] → W p l e (headSpec wsX0_coversClearCells rmX0_coversClearCells).room s m [.ref aC, .int p0].toArray below meth c H locs 0 0 (MQ below (qRi o A) [.ref aC, .int p0].toArray s 0 0 A) (F0 m 76 ls [])) (fz : Nat) (H : Heap) (locs : List Loc) (x2_2 : Int32) (ls : Array Slot), J_X0_coversClearCells_L10 F ln wd w ht nFk fk y1_1 kk_76 fz x2_2 = some o → va_P D vwCl [(aC, .inr (1, [.ref aF, .ref aKn, .int ln, .int wd, .int rd])), (aKn, .inl (cKn, nKn, .inl kn)), (aF, .inr (2, [.int w, .int ht, .int tn, .ref aFu, .ref aFk, .int kp])), (aFu, .inl (cFu, nFu, .inl fu)), (aFk, .inl (cFk, nFk, .inl fk))] H → va_S A s.heap H locs → lv_has ls 4 [(0, .ref aC), (1, .int y1_1), (2, .int x2_2)] → W p l e (headSpec wsX0_coversClearCells rmX0_coversClearCells).room s m [.ref aC, .int p0].toArray below meth c H locs 0 0 (MQ below (qRi o A) [.ref aC, .int p0].toArray s 0 0 A) (F0 m 10 ls []) := by
    intro y1_1 kk_76 hkk_76 fz
    induction fz with
    | zero =>
      intro H locs x2_2 ls hJ
      rw [J_X0_coversClearCells_L10] at hJ
      cases hJ
    | succ fz ih =>
      intro H locs x2_2 ls hJ hP hS hl
      rw [J_X0_coversClearCells_L10] at hJ
      refine lv_iload_n hx hb dX0_coversClearCells_10 rfl (lv_at hl 2 rfl) ?_
      refine lv_aload_n hx hb dX0_coversClearCells_11 rfl (lv_at hl 0 rfl) ?_
      refine va_get (D := D) (ci := 1) (v := .int ln) (C := RX0) (T := TX0) (N := 5) hx hb hts iX0 hown hK hP 0 rfl rfl 2 (by decide) k_1 (fun _ h9 => h9) rfl dX0_coversClearCells_12 ?_
      refine lv_iconst (v := 2) hx hb dX0_coversClearCells_15 (by decide) ?_
      refine lv_idiv hx hb dX0_coversClearCells_16 (by decide) ?_
      refine lv_icmp_gt (tgt := 76) hx hb dX0_coversClearCells_17 (by decide) (fun c_3 => ?_) (fun c_3 => ?_)
      · have hJ := j_t c_3 hJ
        exact hkk_76 H locs x2_2 ls hJ hP hS (lv_sub hl [] rfl)
      · have hJ := j_f c_3 hJ
        refine lv_aload_n hx hb dX0_coversClearCells_20 rfl (lv_at hl 0 rfl) ?_
        refine va_get (D := D) (ci := 1) (v := .int wd) (C := RX0) (T := TX0) (N := 5) hx hb hts iX0 hown hK hP 0 rfl rfl 3 (by decide) k_2 (fun _ h9 => h9) rfl dX0_coversClearCells_21 ?_
        refine lv_iconst (v := 1) hx hb dX0_coversClearCells_24 (by decide) ?_
        refine lv_isub hx hb dX0_coversClearCells_25 ?_
        refine lv_iconst (v := 2) hx hb dX0_coversClearCells_26 (by decide) ?_
        refine lv_idiv hx hb dX0_coversClearCells_27 (by decide) ?_
        refine lv_ineg hx hb dX0_coversClearCells_28 ?_
        refine lv_istore_n (lv' := [(3, .int (-((wd - (1 : Int32)) / (2 : Int32)))), (0, .ref aC), (1, .int y1_1), (2, .int x2_2)]) hx hb dX0_coversClearCells_29 rfl hl (by decide) rfl (fun ls hl => ?_)
        refine L_30 y1_1 x2_2 _ ?_ F H locs (-((wd - (1 : Int32)) / (2 : Int32))) ls hJ hP hS (lv_sub hl [1, 2, 3, 0] rfl)
        · intro H locs x3_12 ls hJ hP hS hl
          refine lv_iinc (v := (x2_2 + (1 : Int32))) (lv' := [(2, .int (x2_2 + (1 : Int32))), (0, .ref aC), (1, .int y1_1)]) hx hb dX0_coversClearCells_70 hl (k := 2) rfl rfl (by decide) rfl (fun ls hl => ?_)
          refine lv_goto (tgt := 10) hx hb dX0_coversClearCells_73 (by decide) ?_
          exact ih H locs (x2_2 + (1 : Int32)) ls hJ hP hS (lv_sub hl [1, 2, 0] rfl)
  unfold J_X0_coversClearCells at hJ
  refine lv_aload_n hx hb dX0_coversClearCells_0 rfl (lv_at hl 0 rfl) ?_
  refine va_get (D := D) (ci := 1) (v := .int ln) (C := RX0) (T := TX0) (N := 5) hx hb hts iX0 hown hK hP 0 rfl rfl 2 (by decide) k_1 (fun _ h9 => h9) rfl dX0_coversClearCells_1 ?_
  refine lv_iconst (v := 1) hx hb dX0_coversClearCells_4 (by decide) ?_
  refine lv_isub hx hb dX0_coversClearCells_5 ?_
  refine lv_iconst (v := 2) hx hb dX0_coversClearCells_6 (by decide) ?_
  refine lv_idiv hx hb dX0_coversClearCells_7 (by decide) ?_
  refine lv_ineg hx hb dX0_coversClearCells_8 ?_
  refine lv_istore_n (lv' := [(2, .int (-((ln - (1 : Int32)) / (2 : Int32)))), (0, .ref aC), (1, .int p0)]) hx hb dX0_coversClearCells_9 rfl hl (by decide) rfl (fun ls hl => ?_)
  refine L_10 p0 _ ?_ F s.heap [] (-((ln - (1 : Int32)) / (2 : Int32))) ls hJ hP hS (lv_sub hl [1, 2, 0] rfl)
  · intro H locs x2_13 ls hJ hP hS hl
    refine lv_iconst (v := 1) hx hb dX0_coversClearCells_76 (by decide) ?_
    have ho := Option.some.inj hJ
    exact W.zret (v := (1 : Int32)) hx hb hr rfl (fun t ht hW => ⟨⟨_, (), rfl, ho, trivial⟩, hS.F ht⟩) hS.2.2 dX0_coversClearCells_77
set_option maxHeartbeats 4000000 in
set_option maxRecDepth 100000 in
theorem c_X0_isFree (l : Launch) (D : va_G) (aC aKn aF aFu aFk : Nat) (cKn cFu cFk : ClassId) (ln : Int32) (wd : Int32) (rd : Int32) (nKn : Nat) (kn : Nat → Int32) (w : Int32) (ht : Int32) (tn : Int32) (kp : Int32) (nFu : Nat) (fu : Nat → Int32) (nFk : Nat) (fk : Nat → Int32) (p0 : Int32) (tX tY sz F : Nat) (o : Int32 × (Nat → Int32)) (hJ : J_X0_isFree F ln wd nKn kn w ht nFk fk p0 = some o) : Met l yX0_isFree wsX0_isFree rmX0_isFree (va_Pc [.ref aC, .int p0] (pcW D [(aC, .inr (1, [.ref aF, .ref aKn, .int ln, .int wd, .int rd])), (aKn, .inl (cKn, nKn, .inl kn)), (aF, .inr (2, [.int w, .int ht, .int tn, .ref aFu, .ref aFk, .int kp])), (aFu, .inl (cFu, nFu, .inl fu)), (aFk, .inl (cFk, nFk, .inl fk))] [(cKn, .int), (cFu, .boolean), (cFk, .int)] sz tX tY)) (qWi D o.1 [(aC, .inr (1, [.ref aF, .ref aKn, .int ln, .int wd, .int rd])), (aKn, .inl (cKn, nKn, .inl o.2)), (aF, .inr (2, [.int w, .int ht, .int tn, .ref aFu, .ref aFk, .int kp])), (aFu, .inl (cFu, nFu, .inl fu)), (aFk, .inl (cFk, nFk, .inl fk))] (va_A [(aC, .inr (1, [.ref aF, .ref aKn, .int ln, .int wd, .int rd])), (aKn, .inl (cKn, nKn, .inl kn)), (aF, .inr (2, [.int w, .int ht, .int tn, .ref aFu, .ref aFk, .int kp])), (aFu, .inl (cFu, nFu, .inl fu)), (aFk, .inl (cFk, nFk, .inl fk))] sz)) 0 0 (va_A [(aC, .inr (1, [.ref aF, .ref aKn, .int ln, .int wd, .int rd])), (aKn, .inl (cKn, nKn, .inl kn)), (aF, .inr (2, [.int w, .int ht, .int tn, .ref aFu, .ref aFk, .int kp])), (aFu, .inl (cFu, nFu, .inl fu)), (aFk, .inl (cFk, nFk, .inl fk))] sz) := by
  refine Met.ofW (cc := cX0_isFree) (maxL := 2) (ret := (some .boolean)) (by decide) rfl ?_
  intro p e s m args below meth c s₁ B hml hv
  obtain ⟨rfl, hsz, hP, hK, hD0, hST⟩ := hv
  have hx := B.exec
  have hb := B.bytes
  have hr := B.returns
  have hts := atoms_spec (ws := wsX0_isFree) B.pre
  have hown : s.vm.findClass RX0 = some m.cls := findClass_of_methodNamed B.named
  have hlocks := B.notSynchronized
  subst hsz
  have hD := hD0.self (sz := s.heap.size)
  generalize hAe : va_A [(aC, .inr (1, [.ref aF, .ref aKn, .int ln, .int wd, .int rd])), (aKn, .inl (cKn, nKn, .inl kn)), (aF, .inr (2, [.int w, .int ht, .int tn, .ref aFu, .ref aFk, .int kp])), (aFu, .inl (cFu, nFu, .inl fu)), (aFk, .inl (cFk, nFk, .inl fk))] s.heap.size = A at hD hST ⊢
  have hA : ∀ q : Nat, s.heap.size ≤ q → A q := fun q h => by rw [← hAe]; exact Or.inr h
  have hS : va_S A s.heap s.heap [] := va_S.rf
  have hl := lv_entry ([.ref aC, .int p0]) (n := 2) (Nat.le_of_ble_eq_true rfl)
  rw [lg_entry_eq]
  generalize (lg_sl ([.ref aC, .int p0]) ++ List.replicate (2 - (lg_sl ([.ref aC, .int p0])).length) Slot.unset).toArray = ls at hl ⊢
  have hl : lv_has ls 2 [(0, .ref aC), (1, .int p0)] := hl
  have iX0 : ∀ w ∈ wsX00, w ∈ wsX0_isFree := fun w h => List.mem_cons_of_mem _ (List.mem_append_left _ (List.mem_append_right _ h))
  have k_1 := hts (.fieldLink RX0 31 "ParkWays$Car" "known" "[I") (List.mem_of_getElem? (i := 1) rfl)
  unfold J_X0_isFree at hJ
  refine lv_iload_n hx hb dX0_isFree_0 rfl (lv_at hl 1 rfl) ?_
  refine lv_if_lt (tgt := 13) hx hb dX0_isFree_1 (by decide) (fun c_1 => ?_) (fun c_1 => ?_)
  · have hJ := j_t c_1 hJ
    refine lv_iconst (v := 0) hx hb dX0_isFree_13 (by decide) ?_
    have ho := Option.some.inj hJ
    exact W.zret (v := (0 : Int32)) hx hb hr rfl (fun t ht hW => ⟨⟨_, (), rfl, (by rw [← ho]), (by rw [ht, ← ho]; exact hP), (by rw [← ho]; exact hD)⟩, hS.F ht⟩) hS.2.2 dX0_isFree_14
  · have hJ := j_f c_1 hJ
    refine lv_iload_n hx hb dX0_isFree_4 rfl (lv_at hl 1 rfl) ?_
    refine lv_aload_n hx hb dX0_isFree_5 rfl (lv_at hl 0 rfl) ?_
    refine va_get (D := D) (ci := 1) (v := .ref aKn) (C := RX0) (T := TX0) (N := 5) hx hb hts iX0 hown hK hP 0 rfl rfl 1 (by decide) k_1 (fun _ h9 => h9) rfl dX0_isFree_6 ?_
    refine va_alen hx hb hK hP 1 0 rfl rfl (v := nI nKn) rfl dX0_isFree_9 ?_
    refine lv_icmp_lt (tgt := 15) hx hb dX0_isFree_10 (by decide) (fun c_2 => ?_) (fun c_2 => ?_)
    · have hJ := j_t c_2 hJ
      refine lv_aload_n hx hb dX0_isFree_15 rfl (lv_at hl 0 rfl) ?_
      refine va_get (D := D) (ci := 1) (v := .ref aKn) (C := RX0) (T := TX0) (N := 5) hx hb hts iX0 hown hK hP 0 rfl rfl 1 (by decide) k_1 (fun _ h9 => h9) rfl dX0_isFree_16 ?_
      refine lv_iload_n hx hb dX0_isFree_19 rfl (lv_at hl 1 rfl) ?_
      obtain ⟨h_3, hJ⟩ := g_in hJ
      refine va_iald hx hb hK hP 1 0 rfl rfl h_3 dX0_isFree_20 ?_
      refine lv_if_ne (tgt := 43) hx hb dX0_isFree_21 (by decide) (fun c_4 => ?_) (fun c_4 => ?_)
      · have hJ := j_f c_4 hJ
        refine lv_aload_n hx hb dX0_isFree_43 rfl (lv_at hl 0 rfl) ?_
        refine va_get (D := D) (ci := 1) (v := .ref aKn) (C := RX0) (T := TX0) (N := 5) hx hb hts iX0 hown hK hP 0 rfl rfl 1 (by decide) k_1 (fun _ h9 => h9) rfl dX0_isFree_44 ?_
        refine lv_iload_n hx hb dX0_isFree_47 rfl (lv_at hl 1 rfl) ?_
        obtain ⟨h_5, hJ⟩ := g_in hJ
        refine va_iald hx hb hK hP 1 0 rfl rfl h_5 dX0_isFree_48 ?_
        refine lv_iconst (v := 1) hx hb dX0_isFree_49 (by decide) ?_
        refine lv_icmp_ne (tgt := 57) hx hb dX0_isFree_50 (by decide) (fun c_6 => ?_) (fun c_6 => ?_)
        · have hJ := j_f c_6 hJ
          refine lv_iconst (v := 0) hx hb dX0_isFree_57 (by decide) ?_
          have ho := Option.some.inj hJ
          exact W.zret (v := (0 : Int32)) hx hb hr rfl (fun t ht hW => ⟨⟨_, (), rfl, (by rw [← ho]), (by rw [ht, ← ho]; exact hP), (by rw [← ho]; exact hD)⟩, hS.F ht⟩) hS.2.2 dX0_isFree_58
        · have hJ := j_t c_6 hJ
          refine lv_iconst (v := 1) hx hb dX0_isFree_53 (by decide) ?_
          refine lv_goto (tgt := 58) hx hb dX0_isFree_54 (by decide) ?_
          have ho := Option.some.inj hJ
          exact W.zret (v := (1 : Int32)) hx hb hr rfl (fun t ht hW => ⟨⟨_, (), rfl, (by rw [← ho]), (by rw [ht, ← ho]; exact hP), (by rw [← ho]; exact hD)⟩, hS.F ht⟩) hS.2.2 dX0_isFree_58
      · have hJ := j_t c_4 hJ
        refine lv_aload_n hx hb dX0_isFree_24 rfl (lv_at hl 0 rfl) ?_
        refine va_get (D := D) (ci := 1) (v := .ref aKn) (C := RX0) (T := TX0) (N := 5) hx hb hts iX0 hown hK hP 0 rfl rfl 1 (by decide) k_1 (fun _ h9 => h9) rfl dX0_isFree_25 ?_
        refine lv_iload_n hx hb dX0_isFree_28 rfl (lv_at hl 1 rfl) ?_
        refine lv_aload_n hx hb dX0_isFree_29 rfl (lv_at hl 0 rfl) ?_
        refine lv_iload_n hx hb dX0_isFree_30 rfl (lv_at hl 1 rfl) ?_
        obtain ⟨v_7, hv_7, hJ⟩ := j_b hJ
        refine ro_i (va_runV (As := [.int p0]) (rest := [.int p0, .ref aKn]) ⟨hx, hb, hml, hown, hts⟩ (c_X0_coversClearCells l D aC aKn aF aFu aFk cKn cFu cFk ln wd rd nKn kn w ht tn kp nFu fu nFk fk p0 tX tY s.heap.size F v_7 hv_7) (cwV 1 hts gX0_isFree_X0_coversClearCells rfl rfl rfl (by decide +kernel) ⟨Nat.le_of_ble_eq_true rfl, Nat.le_of_ble_eq_true rfl⟩) (preRV [.int p0] hP hK hS hA hST [0, 1, 2, 3, 4] rfl [0, 1, 2] rfl (ci := 1) (q0 := 0) rfl rfl) rfl rfl hl.1 rfl (lv_room (Nat.le_of_ble_eq_true rfl)) dX0_isFree_31 ⟨Nat.zero_le _, Nat.zero_le _⟩) hP hS hA (fun H locs hP hS => ?_)
        refine lv_if_eq (tgt := 41) hx hb dX0_isFree_34 (by decide) (fun c_8 => ?_) (fun c_8 => ?_)
        · have hJ := j_t c_8 hJ
          refine lv_iconst (v := 2) hx hb dX0_isFree_41 (by decide) ?_
          obtain ⟨h_9, hJ⟩ := g_in hJ
          refine va_iast hx hb hK hP hD hS 1 0 rfl rfl h_9 dX0_isFree_42 (fun H locs hP hD hS => ?_)
          have hP : va_P D vwCl [(aC, .inr (1, [.ref aF, .ref aKn, .int ln, .int wd, .int rd])), (aKn, .inl (cKn, nKn, .inl (upd kn p0.toNatClampNeg (2 : Int32)))), (aF, .inr (2, [.int w, .int ht, .int tn, .ref aFu, .ref aFk, .int kp])), (aFu, .inl (cFu, nFu, .inl fu)), (aFk, .inl (cFk, nFk, .inl fk))] H := hP
          have hD : va_D A [(aC, .inr (1, [.ref aF, .ref aKn, .int ln, .int wd, .int rd])), (aKn, .inl (cKn, nKn, .inl (upd kn p0.toNatClampNeg (2 : Int32)))), (aF, .inr (2, [.int w, .int ht, .int tn, .ref aFu, .ref aFk, .int kp])), (aFu, .inl (cFu, nFu, .inl fu)), (aFk, .inl (cFk, nFk, .inl fk))] := hD
          refine lv_aload_n hx hb dX0_isFree_43 rfl (lv_at hl 0 rfl) ?_
          refine va_get (D := D) (ci := 1) (v := .ref aKn) (C := RX0) (T := TX0) (N := 5) hx hb hts iX0 hown hK hP 0 rfl rfl 1 (by decide) k_1 (fun _ h9 => h9) rfl dX0_isFree_44 ?_
          refine lv_iload_n hx hb dX0_isFree_47 rfl (lv_at hl 1 rfl) ?_
          obtain ⟨h_10, hJ⟩ := g_in hJ
          refine va_iald hx hb hK hP 1 0 rfl rfl h_10 dX0_isFree_48 ?_
          refine lv_iconst (v := 1) hx hb dX0_isFree_49 (by decide) ?_
          refine lv_icmp_ne (tgt := 57) hx hb dX0_isFree_50 (by decide) (fun c_11 => ?_) (fun c_11 => ?_)
          · have hJ := j_f c_11 hJ
            refine lv_iconst (v := 0) hx hb dX0_isFree_57 (by decide) ?_
            have ho := Option.some.inj hJ
            exact W.zret (v := (0 : Int32)) hx hb hr rfl (fun t ht hW => ⟨⟨_, (), rfl, (by rw [← ho]), (by rw [ht, ← ho]; exact hP), (by rw [← ho]; exact hD)⟩, hS.F ht⟩) hS.2.2 dX0_isFree_58
          · have hJ := j_t c_11 hJ
            refine lv_iconst (v := 1) hx hb dX0_isFree_53 (by decide) ?_
            refine lv_goto (tgt := 58) hx hb dX0_isFree_54 (by decide) ?_
            have ho := Option.some.inj hJ
            exact W.zret (v := (1 : Int32)) hx hb hr rfl (fun t ht hW => ⟨⟨_, (), rfl, (by rw [← ho]), (by rw [ht, ← ho]; exact hP), (by rw [← ho]; exact hD)⟩, hS.F ht⟩) hS.2.2 dX0_isFree_58
        · have hJ := j_f c_8 hJ
          refine lv_iconst (v := 1) hx hb dX0_isFree_37 (by decide) ?_
          refine lv_goto (tgt := 42) hx hb dX0_isFree_38 (by decide) ?_
          obtain ⟨h_12, hJ⟩ := g_in hJ
          refine va_iast hx hb hK hP hD hS 1 0 rfl rfl h_12 dX0_isFree_42 (fun H locs hP hD hS => ?_)
          have hP : va_P D vwCl [(aC, .inr (1, [.ref aF, .ref aKn, .int ln, .int wd, .int rd])), (aKn, .inl (cKn, nKn, .inl (upd kn p0.toNatClampNeg (1 : Int32)))), (aF, .inr (2, [.int w, .int ht, .int tn, .ref aFu, .ref aFk, .int kp])), (aFu, .inl (cFu, nFu, .inl fu)), (aFk, .inl (cFk, nFk, .inl fk))] H := hP
          have hD : va_D A [(aC, .inr (1, [.ref aF, .ref aKn, .int ln, .int wd, .int rd])), (aKn, .inl (cKn, nKn, .inl (upd kn p0.toNatClampNeg (1 : Int32)))), (aF, .inr (2, [.int w, .int ht, .int tn, .ref aFu, .ref aFk, .int kp])), (aFu, .inl (cFu, nFu, .inl fu)), (aFk, .inl (cFk, nFk, .inl fk))] := hD
          refine lv_aload_n hx hb dX0_isFree_43 rfl (lv_at hl 0 rfl) ?_
          refine va_get (D := D) (ci := 1) (v := .ref aKn) (C := RX0) (T := TX0) (N := 5) hx hb hts iX0 hown hK hP 0 rfl rfl 1 (by decide) k_1 (fun _ h9 => h9) rfl dX0_isFree_44 ?_
          refine lv_iload_n hx hb dX0_isFree_47 rfl (lv_at hl 1 rfl) ?_
          obtain ⟨h_13, hJ⟩ := g_in hJ
          refine va_iald hx hb hK hP 1 0 rfl rfl h_13 dX0_isFree_48 ?_
          refine lv_iconst (v := 1) hx hb dX0_isFree_49 (by decide) ?_
          refine lv_icmp_ne (tgt := 57) hx hb dX0_isFree_50 (by decide) (fun c_14 => ?_) (fun c_14 => ?_)
          · have hJ := j_f c_14 hJ
            refine lv_iconst (v := 0) hx hb dX0_isFree_57 (by decide) ?_
            have ho := Option.some.inj hJ
            exact W.zret (v := (0 : Int32)) hx hb hr rfl (fun t ht hW => ⟨⟨_, (), rfl, (by rw [← ho]), (by rw [ht, ← ho]; exact hP), (by rw [← ho]; exact hD)⟩, hS.F ht⟩) hS.2.2 dX0_isFree_58
          · have hJ := j_t c_14 hJ
            refine lv_iconst (v := 1) hx hb dX0_isFree_53 (by decide) ?_
            refine lv_goto (tgt := 58) hx hb dX0_isFree_54 (by decide) ?_
            have ho := Option.some.inj hJ
            exact W.zret (v := (1 : Int32)) hx hb hr rfl (fun t ht hW => ⟨⟨_, (), rfl, (by rw [← ho]), (by rw [ht, ← ho]; exact hP), (by rw [← ho]; exact hD)⟩, hS.F ht⟩) hS.2.2 dX0_isFree_58
    · have hJ := j_f c_2 hJ
      refine lv_iconst (v := 0) hx hb dX0_isFree_13 (by decide) ?_
      have ho := Option.some.inj hJ
      exact W.zret (v := (0 : Int32)) hx hb hr rfl (fun t ht hW => ⟨⟨_, (), rfl, (by rw [← ho]), (by rw [ht, ← ho]; exact hP), (by rw [← ho]; exact hD)⟩, hS.F ht⟩) hS.2.2 dX0_isFree_14
set_option maxHeartbeats 4000000 in
set_option maxRecDepth 100000 in
theorem c_X0_marginAt (l : Launch) (D : va_G) (aC aKn aF aFu aFk : Nat) (cKn cFu cFk : ClassId) (ln : Int32) (wd : Int32) (rd : Int32) (nKn : Nat) (kn : Nat → Int32) (w : Int32) (ht : Int32) (tn : Int32) (kp : Int32) (nFu : Nat) (fu : Nat → Int32) (nFk : Nat) (fk : Nat → Int32) (p0 : Int32) (tX tY sz F : Nat) (o : Int32) (hJ : J_X0_marginAt F ln wd w ht nFu fu p0 = some o) : Met l yX0_marginAt wsX0_marginAt rmX0_marginAt (va_Pc [.ref aC, .int p0] (pcR D [(aC, .inr (1, [.ref aF, .ref aKn, .int ln, .int wd, .int rd])), (aKn, .inl (cKn, nKn, .inl kn)), (aF, .inr (2, [.int w, .int ht, .int tn, .ref aFu, .ref aFk, .int kp])), (aFu, .inl (cFu, nFu, .inl fu)), (aFk, .inl (cFk, nFk, .inl fk))] [(cKn, .int), (cFu, .boolean), (cFk, .int)] sz tX tY)) (qRi o (va_A [] sz)) 0 0 (va_A [] sz) := by
  refine Met.ofW (cc := cX0_marginAt) (maxL := 5) (ret := (some .int)) (by decide) rfl ?_
  intro p e s m args below meth c s₁ B hml hv
  obtain ⟨rfl, hsz, hP, hK, hST⟩ := hv
  have hx := B.exec
  have hb := B.bytes
  have hr := B.returns
  have hts := atoms_spec (ws := wsX0_marginAt) B.pre
  have hown : s.vm.findClass RX0 = some m.cls := findClass_of_methodNamed B.named
  have hlocks := B.notSynchronized
  subst hsz
  generalize hAe : va_A [] s.heap.size = A at hST ⊢
  have hA : ∀ q : Nat, s.heap.size ≤ q → A q := fun q h => by rw [← hAe]; exact Or.inr h
  have hS : va_S A s.heap s.heap [] := va_S.rf
  have hl := lv_entry ([.ref aC, .int p0]) (n := 5) (Nat.le_of_ble_eq_true rfl)
  rw [lg_entry_eq]
  generalize (lg_sl ([.ref aC, .int p0]) ++ List.replicate (5 - (lg_sl ([.ref aC, .int p0])).length) Slot.unset).toArray = ls at hl ⊢
  have hl : lv_has ls 5 [(0, .ref aC), (1, .int p0)] := hl
  have iX0 : ∀ w ∈ wsX00, w ∈ wsX0_marginAt := fun w h => List.mem_cons_of_mem _ (List.mem_append_left _ (List.mem_append_right _ h))
  have k_1 := hts (.fieldLink RX0 9 "ParkWays$Car" "length" "I") (List.mem_of_getElem? (i := 1) rfl)
  have k_2 := hts (.fieldLink RX0 15 "ParkWays$Car" "wide" "I") (List.mem_of_getElem? (i := 2) rfl)
  have k_3 := hts (.fieldLink RX0 21 "ParkWays$Car" "field" "LParkWays$Field;") (List.mem_of_getElem? (i := 3) rfl)
  have L_34 : ∀ (y1_5 : Int32) (y3_7 : Int32) (kk_74 : Int32 → Int32 → Option (Int32)) (hkk_74 : ∀ (H : Heap) (locs : List Loc) (x2_6 : Int32) (x4_8 : Int32) (ls : Array Slot), kk_74 x2_6 x4_8 = some o → va_P D vwCl [(aC, .inr (1, [.ref aF, .ref aKn, .int ln, .int wd, .int rd])), (aKn, .inl (cKn, nKn, .inl kn)), (aF, .inr (2, [.int w, .int ht, .int tn, .ref aFu, .ref aFk, .int kp])), (aFu, .inl (cFu, nFu, .inl fu)), (aFk, .inl (cFk, nFk, .inl fk))] H → va_S A s.heap H locs → lv_has ls 5 [(0, .ref aC), (1, .int y1_5), (2, .int x2_6), (3, .int y3_7)] → W p l e (headSpec wsX0_marginAt rmX0_marginAt).room s m [.ref aC, .int p0].toArray below meth c H locs 0 0 (MQ below (qRi o A) [.ref aC, .int p0].toArray s 0 0 A) (F0 m 74 ls [])) (fz : Nat) (H : Heap) (locs : List Loc) (x2_6 : Int32) (x4_8 : Int32) (ls : Array Slot), J_X0_marginAt_L34 F wd w ht nFu fu y1_5 y3_7 kk_74 fz x2_6 x4_8 = some o → va_P D vwCl [(aC, .inr (1, [.ref aF, .ref aKn, .int ln, .int wd, .int rd])), (aKn, .inl (cKn, nKn, .inl kn)), (aF, .inr (2, [.int w, .int ht, .int tn, .ref aFu, .ref aFk, .int kp])), (aFu, .inl (cFu, nFu, .inl fu)), (aFk, .inl (cFk, nFk, .inl fk))] H → va_S A s.heap H locs → lv_has ls 5 [(0, .ref aC), (1, .int y1_5), (2, .int x2_6), (3, .int y3_7), (4, .int x4_8)] → W p l e (headSpec wsX0_marginAt rmX0_marginAt).room s m [.ref aC, .int p0].toArray below meth c H locs 0 0 (MQ below (qRi o A) [.ref aC, .int p0].toArray s 0 0 A) (F0 m 34 ls []) := by
    intro y1_5 y3_7 kk_74 hkk_74 fz
    induction fz with
    | zero =>
      intro H locs x2_6 x4_8 ls hJ
      rw [J_X0_marginAt_L34] at hJ
      cases hJ
    | succ fz ih =>
      intro H locs x2_6 x4_8 ls hJ hP hS hl
      rw [J_X0_marginAt_L34] at hJ
      refine lv_iload hx hb dX0_marginAt_34 (lv_at hl 4 rfl) ?_
      refine lv_aload_n hx hb dX0_marginAt_36 rfl (lv_at hl 0 rfl) ?_
      refine va_get (D := D) (ci := 1) (v := .int wd) (C := RX0) (T := TX0) (N := 5) hx hb hts iX0 hown hK hP 0 rfl rfl 3 (by decide) k_2 (fun _ h9 => h9) rfl dX0_marginAt_37 ?_
      refine lv_iconst (v := 2) hx hb dX0_marginAt_40 (by decide) ?_
      refine lv_idiv hx hb dX0_marginAt_41 (by decide) ?_
      refine lv_icmp_gt (tgt := 74) hx hb dX0_marginAt_42 (by decide) (fun c_9 => ?_) (fun c_9 => ?_)
      · have hJ := j_t c_9 hJ
        exact hkk_74 H locs x2_6 x4_8 ls hJ hP hS (lv_sub hl [0, 1, 2, 3] rfl)
      · have hJ := j_f c_9 hJ
        refine lv_aload_n hx hb dX0_marginAt_45 rfl (lv_at hl 0 rfl) ?_
        refine va_get (D := D) (ci := 1) (v := .ref aF) (C := RX0) (T := TX0) (N := 5) hx hb hts iX0 hown hK hP 0 rfl rfl 0 (by decide) k_3 (fun _ h9 => h9) rfl dX0_marginAt_46 ?_
        refine lv_iload_n hx hb dX0_marginAt_49 rfl (lv_at hl 1 rfl) ?_
        refine lv_iload_n hx hb dX0_marginAt_50 rfl (lv_at hl 3 rfl) ?_
        refine lv_iload hx hb dX0_marginAt_51 (lv_at hl 4 rfl) ?_
        obtain ⟨v_10, hv_10, hJ⟩ := j_b hJ
        refine ro_i (va_runS (As := [.int y1_5, .int y3_7, .int x4_8]) (rest := [.ref aF]) ⟨hx, hb, hml, hown, hts⟩ (c_X0_coveredX l D y1_5 y3_7 x4_8 tX tY H.size F v_10 hv_10) (va_cwS 3 hts gX0_marginAt_X0_coveredX rfl rfl rfl (by decide +kernel) ⟨Nat.le_of_ble_eq_true rfl, Nat.le_of_ble_eq_true rfl⟩) (preRS [.int y1_5, .int y3_7, .int x4_8] hP hK hS hA hST [] rfl [] rfl) rfl rfl hl.1 rfl (lv_room (Nat.le_of_ble_eq_true rfl)) dX0_marginAt_53 ⟨Nat.zero_le _, Nat.zero_le _⟩) hP hS hA (fun H locs hP hS => ?_)
        refine lv_iload_n hx hb dX0_marginAt_56 rfl (lv_at hl 1 rfl) ?_
        refine lv_iload_n hx hb dX0_marginAt_57 rfl (lv_at hl 3 rfl) ?_
        refine lv_iload hx hb dX0_marginAt_58 (lv_at hl 4 rfl) ?_
        obtain ⟨v_11, hv_11, hJ⟩ := j_b hJ
        refine ro_i (va_runS (As := [.int y1_5, .int y3_7, .int x4_8]) (rest := [.int v_10, .ref aF]) ⟨hx, hb, hml, hown, hts⟩ (c_X0_coveredY l D y1_5 y3_7 x4_8 tX tY H.size F v_11 hv_11) (va_cwS 3 hts gX0_marginAt_X0_coveredY rfl rfl rfl (by decide +kernel) ⟨Nat.le_of_ble_eq_true rfl, Nat.le_of_ble_eq_true rfl⟩) (preRS [.int y1_5, .int y3_7, .int x4_8] hP hK hS hA hST [] rfl [] rfl) rfl rfl hl.1 rfl (lv_room (Nat.le_of_ble_eq_true rfl)) dX0_marginAt_60 ⟨Nat.zero_le _, Nat.zero_le _⟩) hP hS hA (fun H locs hP hS => ?_)
        refine lv_iload_n hx hb dX0_marginAt_63 rfl (lv_at hl 2 rfl) ?_
        obtain ⟨v_12, hv_12, hJ⟩ := j_b hJ
        refine ro_i (va_runV (As := [.int v_10, .int v_11, .int x2_6]) (rest := []) ⟨hx, hb, hml, hown, hts⟩ (c_X1_distanceToFull l D aF aFu aFk cFu cFk w ht tn kp nFu fu nFk fk v_10 v_11 x2_6 tX tY H.size F v_12 hv_12) (cwV 3 hts gX0_marginAt_X1_distanceToFull rfl rfl rfl (by decide +kernel) ⟨Nat.le_of_ble_eq_true rfl, Nat.le_of_ble_eq_true rfl⟩) (preRV [.int v_10, .int v_11, .int x2_6] hP hK hS hA hST [2, 3, 4] rfl [1, 2] rfl (ci := 2) (q0 := 2) rfl rfl) rfl rfl hl.1 rfl (lv_room (Nat.le_of_ble_eq_true rfl)) dX0_marginAt_64 ⟨Nat.zero_le _, Nat.zero_le _⟩) hP hS hA (fun H locs hP hS => ?_)
        refine lv_istore_n (lv' := [(2, .int v_12), (0, .ref aC), (1, .int y1_5), (3, .int y3_7), (4, .int x4_8)]) hx hb dX0_marginAt_67 rfl hl (by decide) rfl (fun ls hl => ?_)
        refine lv_iinc (v := (x4_8 + (1 : Int32))) (lv' := [(4, .int (x4_8 + (1 : Int32))), (2, .int v_12), (0, .ref aC), (1, .int y1_5), (3, .int y3_7)]) hx hb dX0_marginAt_68 hl (k := 4) rfl rfl (by decide) rfl (fun ls hl => ?_)
        refine lv_goto (tgt := 34) hx hb dX0_marginAt_71 (by decide) ?_
        exact ih H locs v_12 (x4_8 + (1 : Int32)) ls hJ hP hS (lv_sub hl [2, 3, 1, 4, 0] rfl)
  have L_13 : ∀ (y1_1 : Int32) (kk_80 : Int32 → Int32 → Option (Int32)) (hkk_80 : ∀ (H : Heap) (locs : List Loc) (x2_2 : Int32) (x3_3 : Int32) (ls : Array Slot), kk_80 x2_2 x3_3 = some o → va_P D vwCl [(aC, .inr (1, [.ref aF, .ref aKn, .int ln, .int wd, .int rd])), (aKn, .inl (cKn, nKn, .inl kn)), (aF, .inr (2, [.int w, .int ht, .int tn, .ref aFu, .ref aFk, .int kp])), (aFu, .inl (cFu, nFu, .inl fu)), (aFk, .inl (cFk, nFk, .inl fk))] H → va_S A s.heap H locs → lv_has ls 5 [(2, .int x2_2)] → W p l e (headSpec wsX0_marginAt rmX0_marginAt).room s m [.ref aC, .int p0].toArray below meth c H locs 0 0 (MQ below (qRi o A) [.ref aC, .int p0].toArray s 0 0 A) (F0 m 80 ls [])) (fz : Nat) (H : Heap) (locs : List Loc) (x2_2 : Int32) (x3_3 : Int32) (ls : Array Slot), J_X0_marginAt_L13 F ln wd w ht nFu fu y1_1 kk_80 fz x2_2 x3_3 = some o → va_P D vwCl [(aC, .inr (1, [.ref aF, .ref aKn, .int ln, .int wd, .int rd])), (aKn, .inl (cKn, nKn, .inl kn)), (aF, .inr (2, [.int w, .int ht, .int tn, .ref aFu, .ref aFk, .int kp])), (aFu, .inl (cFu, nFu, .inl fu)), (aFk, .inl (cFk, nFk, .inl fk))] H → va_S A s.heap H locs → lv_has ls 5 [(0, .ref aC), (1, .int y1_1), (2, .int x2_2), (3, .int x3_3)] → W p l e (headSpec wsX0_marginAt rmX0_marginAt).room s m [.ref aC, .int p0].toArray below meth c H locs 0 0 (MQ below (qRi o A) [.ref aC, .int p0].toArray s 0 0 A) (F0 m 13 ls []) := by
    intro y1_1 kk_80 hkk_80 fz
    induction fz with
    | zero =>
      intro H locs x2_2 x3_3 ls hJ
      rw [J_X0_marginAt_L13] at hJ
      cases hJ
    | succ fz ih =>
      intro H locs x2_2 x3_3 ls hJ hP hS hl
      rw [J_X0_marginAt_L13] at hJ
      refine lv_iload_n hx hb dX0_marginAt_13 rfl (lv_at hl 3 rfl) ?_
      refine lv_aload_n hx hb dX0_marginAt_14 rfl (lv_at hl 0 rfl) ?_
      refine va_get (D := D) (ci := 1) (v := .int ln) (C := RX0) (T := TX0) (N := 5) hx hb hts iX0 hown hK hP 0 rfl rfl 2 (by decide) k_1 (fun _ h9 => h9) rfl dX0_marginAt_15 ?_
      refine lv_iconst (v := 2) hx hb dX0_marginAt_18 (by decide) ?_
      refine lv_idiv hx hb dX0_marginAt_19 (by decide) ?_
      refine lv_icmp_gt (tgt := 80) hx hb dX0_marginAt_20 (by decide) (fun c_4 => ?_) (fun c_4 => ?_)
      · have hJ := j_t c_4 hJ
        exact hkk_80 H locs x2_2 x3_3 ls hJ hP hS (lv_sub hl [2] rfl)
      · have hJ := j_f c_4 hJ
        refine lv_aload_n hx hb dX0_marginAt_23 rfl (lv_at hl 0 rfl) ?_
        refine va_get (D := D) (ci := 1) (v := .int wd) (C := RX0) (T := TX0) (N := 5) hx hb hts iX0 hown hK hP 0 rfl rfl 3 (by decide) k_2 (fun _ h9 => h9) rfl dX0_marginAt_24 ?_
        refine lv_iconst (v := 1) hx hb dX0_marginAt_27 (by decide) ?_
        refine lv_isub hx hb dX0_marginAt_28 ?_
        refine lv_iconst (v := 2) hx hb dX0_marginAt_29 (by decide) ?_
        refine lv_idiv hx hb dX0_marginAt_30 (by decide) ?_
        refine lv_ineg hx hb dX0_marginAt_31 ?_
        refine lv_istore (lv' := [(4, .int (-((wd - (1 : Int32)) / (2 : Int32)))), (0, .ref aC), (1, .int y1_1), (2, .int x2_2), (3, .int x3_3)]) hx hb dX0_marginAt_32 hl (by decide) rfl (fun ls hl => ?_)
        refine L_34 y1_1 x3_3 _ ?_ F H locs x2_2 (-((wd - (1 : Int32)) / (2 : Int32))) ls hJ hP hS (lv_sub hl [1, 2, 3, 4, 0] rfl)
        · intro H locs x2_13 x4_14 ls hJ hP hS hl
          refine lv_iinc (v := (x3_3 + (1 : Int32))) (lv' := [(3, .int (x3_3 + (1 : Int32))), (0, .ref aC), (1, .int y1_1), (2, .int x2_13)]) hx hb dX0_marginAt_74 hl (k := 3) rfl rfl (by decide) rfl (fun ls hl => ?_)
          refine lv_goto (tgt := 13) hx hb dX0_marginAt_77 (by decide) ?_
          exact ih H locs x2_13 (x3_3 + (1 : Int32)) ls hJ hP hS (lv_sub hl [1, 2, 3, 0] rfl)
  unfold J_X0_marginAt at hJ
  refine lv_bipush (v := 9) hx hb dX0_marginAt_0 (by decide) ?_
  refine lv_istore_n (lv' := [(2, .int (9 : Int32)), (0, .ref aC), (1, .int p0)]) hx hb dX0_marginAt_2 rfl hl (by decide) rfl (fun ls hl => ?_)
  refine lv_aload_n hx hb dX0_marginAt_3 rfl (lv_at hl 1 rfl) ?_
  refine va_get (D := D) (ci := 1) (v := .int ln) (C := RX0) (T := TX0) (N := 5) hx hb hts iX0 hown hK hP 0 rfl rfl 2 (by decide) k_1 (fun _ h9 => h9) rfl dX0_marginAt_4 ?_
  refine lv_iconst (v := 1) hx hb dX0_marginAt_7 (by decide) ?_
  refine lv_isub hx hb dX0_marginAt_8 ?_
  refine lv_iconst (v := 2) hx hb dX0_marginAt_9 (by decide) ?_
  refine lv_idiv hx hb dX0_marginAt_10 (by decide) ?_
  refine lv_ineg hx hb dX0_marginAt_11 ?_
  refine lv_istore_n (lv' := [(3, .int (-((ln - (1 : Int32)) / (2 : Int32)))), (2, .int (9 : Int32)), (0, .ref aC), (1, .int p0)]) hx hb dX0_marginAt_12 rfl hl (by decide) rfl (fun ls hl => ?_)
  refine L_13 p0 _ ?_ F s.heap [] (9 : Int32) (-((ln - (1 : Int32)) / (2 : Int32))) ls hJ hP hS (lv_sub hl [2, 3, 1, 0] rfl)
  · intro H locs x2_15 x3_16 ls hJ hP hS hl
    refine lv_iload_n hx hb dX0_marginAt_80 rfl (lv_at hl 0 rfl) ?_
    have ho := Option.some.inj hJ
    exact W.iret (v := x2_15) hx hb hr (fun t ht hW => ⟨⟨_, (), rfl, ho, trivial⟩, hS.F ht⟩) hS.2.2 dX0_marginAt_81
set_option maxHeartbeats 4000000 in
set_option maxRecDepth 100000 in
theorem c_X0_shifted (l : Launch) (D : va_G) (aC aKn aF aFu aFk : Nat) (cKn cFu cFk : ClassId) (ln : Int32) (wd : Int32) (rd : Int32) (nKn : Nat) (kn : Nat → Int32) (w : Int32) (ht : Int32) (tn : Int32) (kp : Int32) (nFu : Nat) (fu : Nat → Int32) (nFk : Nat) (fk : Nat → Int32) (p0 : Int32) (p1 : Int32) (tX tY sz F : Nat) (o : Int32) (hJ : J_X0_shifted F w ht p0 p1 = some o) : Met l yX0_shifted wsX0_shifted rmX0_shifted (va_Pc [.ref aC, .int p0, .int p1] (pcR D [(aC, .inr (1, [.ref aF, .ref aKn, .int ln, .int wd, .int rd])), (aKn, .inl (cKn, nKn, .inl kn)), (aF, .inr (2, [.int w, .int ht, .int tn, .ref aFu, .ref aFk, .int kp])), (aFu, .inl (cFu, nFu, .inl fu)), (aFk, .inl (cFk, nFk, .inl fk))] [(cKn, .int), (cFu, .boolean), (cFk, .int)] sz tX tY)) (qRi o (va_A [] sz)) 0 0 (va_A [] sz) := by
  refine Met.ofW (cc := cX0_shifted) (maxL := 6) (ret := (some .int)) (by decide) rfl ?_
  intro p e s m args below meth c s₁ B hml hv
  obtain ⟨rfl, hsz, hP, hK, hST⟩ := hv
  have hx := B.exec
  have hb := B.bytes
  have hr := B.returns
  have hts := atoms_spec (ws := wsX0_shifted) B.pre
  have hown : s.vm.findClass RX0 = some m.cls := findClass_of_methodNamed B.named
  have hlocks := B.notSynchronized
  subst hsz
  generalize hAe : va_A [] s.heap.size = A at hST ⊢
  have hA : ∀ q : Nat, s.heap.size ≤ q → A q := fun q h => by rw [← hAe]; exact Or.inr h
  have hS : va_S A s.heap s.heap [] := va_S.rf
  have hl := lv_entry ([.ref aC, .int p0, .int p1]) (n := 6) (Nat.le_of_ble_eq_true rfl)
  rw [lg_entry_eq]
  generalize (lg_sl ([.ref aC, .int p0, .int p1]) ++ List.replicate (6 - (lg_sl ([.ref aC, .int p0, .int p1])).length) Slot.unset).toArray = ls at hl ⊢
  have hl : lv_has ls 6 [(0, .ref aC), (1, .int p0), (2, .int p1)] := hl
  have iX0 : ∀ w ∈ wsX00, w ∈ wsX0_shifted := fun w h => List.mem_cons_of_mem _ (List.mem_append_left _ (List.mem_append_right _ h))
  have k_3 := hts (.initialized RX4) (List.mem_of_getElem? (i := 3) rfl)
  have k_2 := hts (.static yX4_headingOf) (List.mem_of_getElem? (i := 2) rfl)
  have k_5 := hts (.static yX4_xOf) (List.mem_of_getElem? (i := 5) rfl)
  have k_7 := hts (.static yX4_stepX) (List.mem_of_getElem? (i := 7) rfl)
  have k_10 := hts (.static yX4_yOf) (List.mem_of_getElem? (i := 10) rfl)
  have k_12 := hts (.static yX4_stepY) (List.mem_of_getElem? (i := 12) rfl)
  have k_1 := hts (.fieldLink RX0 21 "ParkWays$Car" "field" "LParkWays$Field;") (List.mem_of_getElem? (i := 1) rfl)
  have k_22 := hts (.static yX4_placeAt) (List.mem_of_getElem? (i := 22) rfl)
  unfold J_X0_shifted at hJ
  refine lv_iload_n hx hb dX0_shifted_0 rfl (lv_at hl 1 rfl) ?_
  refine lv_if_ge (tgt := 6) hx hb dX0_shifted_1 (by decide) (fun c_1 => ?_) (fun c_1 => ?_)
  · have hJ := j_t c_1 hJ
    refine lv_iload_n hx hb dX0_shifted_6 rfl (lv_at hl 1 rfl) ?_
    obtain ⟨v_2, hv_2, hJ⟩ := j_b hJ
    refine ro_i (va_runSN (As := [.int p0]) (rest := []) ⟨hx, hb, hml, hown, hts⟩ (c_X4_headingOf l D p0 tX tY s.heap.size F v_2 hv_2) ⟨va_cnB 1 hts gX0_shifted_X4_headingOf_n62 rfl rfl rfl (hST.1.2.2.2.2.2.2.2.2.1) k_3 (by decide +kernel) ⟨Nat.le_of_ble_eq_true rfl, Nat.le_of_ble_eq_true rfl⟩, k_2, trivial⟩ (preRS [.int p0] hP hK hS hA hST [] rfl [] rfl) rfl rfl hl.1 rfl (lv_room (Nat.le_of_ble_eq_true rfl)) dX0_shifted_7 ⟨Nat.zero_le _, Nat.zero_le _⟩) hP hS hA (fun H locs hP hS => ?_)
    refine lv_istore_n (lv' := [(3, .int v_2), (0, .ref aC), (1, .int p0), (2, .int p1)]) hx hb dX0_shifted_10 rfl hl (by decide) rfl (fun ls hl => ?_)
    refine lv_iload_n hx hb dX0_shifted_11 rfl (lv_at hl 2 rfl) ?_
    obtain ⟨v_3, hv_3, hJ⟩ := j_b hJ
    refine ro_i (va_runSN (As := [.int p0]) (rest := []) ⟨hx, hb, hml, hown, hts⟩ (c_X4_xOf l D p0 tX tY H.size F v_3 hv_3) ⟨va_cnB 1 hts gX0_shifted_X4_xOf_n66 rfl rfl rfl (hST.1.2.2.2.2.2.2.2.2.2.1) k_3 (by decide +kernel) ⟨Nat.le_of_ble_eq_true rfl, Nat.le_of_ble_eq_true rfl⟩, k_5, trivial⟩ (preRS [.int p0] hP hK hS hA hST [] rfl [] rfl) rfl rfl hl.1 rfl (lv_room (Nat.le_of_ble_eq_true rfl)) dX0_shifted_12 ⟨Nat.zero_le _, Nat.zero_le _⟩) hP hS hA (fun H locs hP hS => ?_)
    refine lv_iload_n hx hb dX0_shifted_15 rfl (lv_at hl 3 rfl) ?_
    refine lv_iload_n hx hb dX0_shifted_16 rfl (lv_at hl 0 rfl) ?_
    obtain ⟨v_4, hv_4, hJ⟩ := j_b hJ
    refine ro_i (va_runSN (As := [.int v_2]) (rest := [.int p1, .int v_3]) ⟨hx, hb, hml, hown, hts⟩ (c_X4_stepX l D v_2 tX tY H.size F v_4 hv_4) ⟨va_cnB 1 hts gX0_shifted_X4_stepX_n69 rfl rfl rfl (hST.1.2.2.2.2.2.2.2.2.2.2.1) k_3 (by decide +kernel) ⟨Nat.le_of_ble_eq_true rfl, Nat.le_of_ble_eq_true rfl⟩, k_7, trivial⟩ (preRS [.int v_2] hP hK hS hA hST [] rfl [] rfl) rfl rfl hl.1 rfl (lv_room (Nat.le_of_ble_eq_true rfl)) dX0_shifted_17 ⟨Nat.zero_le _, Nat.zero_le _⟩) hP hS hA (fun H locs hP hS => ?_)
    refine lv_imul hx hb dX0_shifted_20 ?_
    refine lv_iadd hx hb dX0_shifted_21 ?_
    refine lv_istore (lv' := [(4, .int (v_3 + (p1 * v_4))), (3, .int v_2), (0, .ref aC), (1, .int p0), (2, .int p1)]) hx hb dX0_shifted_22 hl (by decide) rfl (fun ls hl => ?_)
    refine lv_iload_n hx hb dX0_shifted_24 rfl (lv_at hl 3 rfl) ?_
    obtain ⟨v_5, hv_5, hJ⟩ := j_b hJ
    refine ro_i (va_runSN (As := [.int p0]) (rest := []) ⟨hx, hb, hml, hown, hts⟩ (c_X4_yOf l D p0 tX tY H.size F v_5 hv_5) ⟨va_cnB 1 hts gX0_shifted_X4_yOf_n72 rfl rfl rfl (hST.1.2.2.2.2.2.2.2.2.2.2.2.1) k_3 (by decide +kernel) ⟨Nat.le_of_ble_eq_true rfl, Nat.le_of_ble_eq_true rfl⟩, k_10, trivial⟩ (preRS [.int p0] hP hK hS hA hST [] rfl [] rfl) rfl rfl hl.1 rfl (lv_room (Nat.le_of_ble_eq_true rfl)) dX0_shifted_25 ⟨Nat.zero_le _, Nat.zero_le _⟩) hP hS hA (fun H locs hP hS => ?_)
    refine lv_iload_n hx hb dX0_shifted_28 rfl (lv_at hl 4 rfl) ?_
    refine lv_iload_n hx hb dX0_shifted_29 rfl (lv_at hl 1 rfl) ?_
    obtain ⟨v_6, hv_6, hJ⟩ := j_b hJ
    refine ro_i (va_runSN (As := [.int v_2]) (rest := [.int p1, .int v_5]) ⟨hx, hb, hml, hown, hts⟩ (c_X4_stepY l D v_2 tX tY H.size F v_6 hv_6) ⟨va_cnB 1 hts gX0_shifted_X4_stepY_n75 rfl rfl rfl (hST.1.2.2.2.2.2.2.2.2.2.2.2.2.1) k_3 (by decide +kernel) ⟨Nat.le_of_ble_eq_true rfl, Nat.le_of_ble_eq_true rfl⟩, k_12, trivial⟩ (preRS [.int v_2] hP hK hS hA hST [] rfl [] rfl) rfl rfl hl.1 rfl (lv_room (Nat.le_of_ble_eq_true rfl)) dX0_shifted_30 ⟨Nat.zero_le _, Nat.zero_le _⟩) hP hS hA (fun H locs hP hS => ?_)
    refine lv_imul hx hb dX0_shifted_33 ?_
    refine lv_iadd hx hb dX0_shifted_34 ?_
    refine lv_istore (lv' := [(5, .int (v_5 + (p1 * v_6))), (4, .int (v_3 + (p1 * v_4))), (3, .int v_2), (0, .ref aC), (1, .int p0), (2, .int p1)]) hx hb dX0_shifted_35 hl (by decide) rfl (fun ls hl => ?_)
    refine lv_aload_n hx hb dX0_shifted_37 rfl (lv_at hl 3 rfl) ?_
    refine va_get (D := D) (ci := 1) (v := .ref aF) (C := RX0) (T := TX0) (N := 5) hx hb hts iX0 hown hK hP 0 rfl rfl 0 (by decide) k_1 (fun _ h9 => h9) rfl dX0_shifted_38 ?_
    refine lv_iload hx hb dX0_shifted_41 (lv_at hl 1 rfl) ?_
    refine lv_iload hx hb dX0_shifted_43 (lv_at hl 0 rfl) ?_
    obtain ⟨v_7, hv_7, hJ⟩ := j_b hJ
    refine ro_i (va_runV (As := [.int (v_3 + (p1 * v_4)), .int (v_5 + (p1 * v_6))]) (rest := []) ⟨hx, hb, hml, hown, hts⟩ (c_X1_hasCell l D aF aFu aFk cFu cFk w ht tn kp nFu fu nFk fk (v_3 + (p1 * v_4)) (v_5 + (p1 * v_6)) tX tY H.size F v_7 hv_7) (cwV 2 hts gX0_shifted_X1_hasCell rfl rfl rfl (by decide +kernel) ⟨Nat.le_of_ble_eq_true rfl, Nat.le_of_ble_eq_true rfl⟩) (preRV [.int (v_3 + (p1 * v_4)), .int (v_5 + (p1 * v_6))] hP hK hS hA hST [2, 3, 4] rfl [1, 2] rfl (ci := 2) (q0 := 2) rfl rfl) rfl rfl hl.1 rfl (lv_room (Nat.le_of_ble_eq_true rfl)) dX0_shifted_45 ⟨Nat.zero_le _, Nat.zero_le _⟩) hP hS hA (fun H locs hP hS => ?_)
    refine lv_if_eq (tgt := 62) hx hb dX0_shifted_48 (by decide) (fun c_8 => ?_) (fun c_8 => ?_)
    · have hJ := j_t c_8 hJ
      refine lv_iconst (v := (-1)) hx hb dX0_shifted_62 (by decide) ?_
      have ho := Option.some.inj hJ
      exact W.iret (v := (-1 : Int32)) hx hb hr (fun t ht hW => ⟨⟨_, (), rfl, ho, trivial⟩, hS.F ht⟩) hS.2.2 dX0_shifted_63
    · have hJ := j_f c_8 hJ
      refine lv_iload hx hb dX0_shifted_51 (lv_at hl 1 rfl) ?_
      refine lv_iload hx hb dX0_shifted_53 (lv_at hl 0 rfl) ?_
      refine lv_iload_n hx hb dX0_shifted_55 rfl (lv_at hl 2 rfl) ?_
      obtain ⟨v_9, hv_9, hJ⟩ := j_b hJ
      refine ro_i (va_runSN (As := [.int (v_3 + (p1 * v_4)), .int (v_5 + (p1 * v_6)), .int v_2]) (rest := []) ⟨hx, hb, hml, hown, hts⟩ (c_X4_placeAt l D (v_3 + (p1 * v_4)) (v_5 + (p1 * v_6)) v_2 tX tY H.size F v_9 hv_9) ⟨va_cnB 3 hts gX0_shifted_X4_placeAt_n97 rfl rfl rfl (hST.1.2.2.2.2.2.2.2.2.2.2.2.2.2.1) k_3 (by decide +kernel) ⟨Nat.le_of_ble_eq_true rfl, Nat.le_of_ble_eq_true rfl⟩, k_22, trivial⟩ (preRS [.int (v_3 + (p1 * v_4)), .int (v_5 + (p1 * v_6)), .int v_2] hP hK hS hA hST [] rfl [] rfl) rfl rfl hl.1 rfl (lv_room (Nat.le_of_ble_eq_true rfl)) dX0_shifted_56 ⟨Nat.zero_le _, Nat.zero_le _⟩) hP hS hA (fun H locs hP hS => ?_)
      refine lv_goto (tgt := 63) hx hb dX0_shifted_59 (by decide) ?_
      have ho := Option.some.inj hJ
      exact W.iret (v := v_9) hx hb hr (fun t ht hW => ⟨⟨_, (), rfl, ho, trivial⟩, hS.F ht⟩) hS.2.2 dX0_shifted_63
  · have hJ := j_f c_1 hJ
    refine lv_iconst (v := (-1)) hx hb dX0_shifted_4 (by decide) ?_
    have ho := Option.some.inj hJ
    exact W.iret (v := (-1 : Int32)) hx hb hr (fun t ht hW => ⟨⟨_, (), rfl, ho, trivial⟩, hS.F ht⟩) hS.2.2 dX0_shifted_5
set_option maxHeartbeats 4000000 in
set_option maxRecDepth 100000 in
theorem c_X0_turned (l : Launch) (D : va_G) (aC aKn aF aFu aFk : Nat) (cKn cFu cFk : ClassId) (ln : Int32) (wd : Int32) (rd : Int32) (nKn : Nat) (kn : Nat → Int32) (w : Int32) (ht : Int32) (tn : Int32) (kp : Int32) (nFu : Nat) (fu : Nat → Int32) (nFk : Nat) (fk : Nat → Int32) (p0 : Int32) (p1 : Int32) (tX tY sz F : Nat) (o : Int32) (hJ : J_X0_turned F tn p0 p1 = some o) : Met l yX0_turned wsX0_turned rmX0_turned (va_Pc [.ref aC, .int p0, .int p1] (pcR D [(aC, .inr (1, [.ref aF, .ref aKn, .int ln, .int wd, .int rd])), (aKn, .inl (cKn, nKn, .inl kn)), (aF, .inr (2, [.int w, .int ht, .int tn, .ref aFu, .ref aFk, .int kp])), (aFu, .inl (cFu, nFu, .inl fu)), (aFk, .inl (cFk, nFk, .inl fk))] [(cKn, .int), (cFu, .boolean), (cFk, .int)] sz tX tY)) (qRi o (va_A [] sz)) 0 0 (va_A [] sz) := by
  refine Met.ofW (cc := cX0_turned) (maxL := 4) (ret := (some .int)) (by decide) rfl ?_
  intro p e s m args below meth c s₁ B hml hv
  obtain ⟨rfl, hsz, hP, hK, hST⟩ := hv
  have hx := B.exec
  have hb := B.bytes
  have hr := B.returns
  have hts := atoms_spec (ws := wsX0_turned) B.pre
  have hown : s.vm.findClass RX0 = some m.cls := findClass_of_methodNamed B.named
  have hlocks := B.notSynchronized
  subst hsz
  generalize hAe : va_A [] s.heap.size = A at hST ⊢
  have hA : ∀ q : Nat, s.heap.size ≤ q → A q := fun q h => by rw [← hAe]; exact Or.inr h
  have hS : va_S A s.heap s.heap [] := va_S.rf
  have hl := lv_entry ([.ref aC, .int p0, .int p1]) (n := 4) (Nat.le_of_ble_eq_true rfl)
  rw [lg_entry_eq]
  generalize (lg_sl ([.ref aC, .int p0, .int p1]) ++ List.replicate (4 - (lg_sl ([.ref aC, .int p0, .int p1])).length) Slot.unset).toArray = ls at hl ⊢
  have hl : lv_has ls 4 [(0, .ref aC), (1, .int p0), (2, .int p1)] := hl
  have iX0 : ∀ w ∈ wsX00, w ∈ wsX0_turned := fun w h => List.mem_cons_of_mem _ (List.mem_append_left _ (List.mem_append_right _ h))
  have iX1 : ∀ w ∈ wsX10, w ∈ wsX0_turned := fun w h => List.mem_cons_of_mem _ (List.mem_append_right _ h)
  have k_1 := hts (.fieldLink RX0 21 "ParkWays$Car" "field" "LParkWays$Field;") (List.mem_of_getElem? (i := 1) rfl)
  have k_3 := hts (.initialized RX4) (List.mem_of_getElem? (i := 3) rfl)
  have k_2 := hts (.static yX4_xOf) (List.mem_of_getElem? (i := 2) rfl)
  have k_5 := hts (.static yX4_yOf) (List.mem_of_getElem? (i := 5) rfl)
  have k_7 := hts (.static yX4_headingOf) (List.mem_of_getElem? (i := 7) rfl)
  have k_9 := hts (.static yX4_placeAt) (List.mem_of_getElem? (i := 9) rfl)
  unfold J_X0_turned at hJ
  refine lv_iload_n hx hb dX0_turned_0 rfl (lv_at hl 1 rfl) ?_
  refine lv_if_ge (tgt := 6) hx hb dX0_turned_1 (by decide) (fun c_1 => ?_) (fun c_1 => ?_)
  · have hJ := j_t c_1 hJ
    refine lv_iload_n hx hb dX0_turned_6 rfl (lv_at hl 2 rfl) ?_
    refine lv_iconst (v := 1) hx hb dX0_turned_7 (by decide) ?_
    refine lv_iand hx hb dX0_turned_8 ?_
    refine lv_if_ne (tgt := 22) hx hb dX0_turned_9 (by decide) (fun c_2 => ?_) (fun c_2 => ?_)
    · have hJ := j_f c_2 hJ
      refine lv_aload_n hx hb dX0_turned_22 rfl (lv_at hl 0 rfl) ?_
      refine va_get (D := D) (ci := 1) (v := .ref aF) (C := RX0) (T := TX0) (N := 5) hx hb hts iX0 hown hK hP 0 rfl rfl 0 (by decide) k_1 (fun _ h9 => h9) rfl dX0_turned_23 ?_
      refine va_getN (D := D) (ci := 2) (v := .int tn) (C := RX1) (T := TX1) (N := 6) hx hb hts iX1 hown hK hP 2 rfl rfl 2 (by decide) (va_Nw.use rfl (hST.1.2.2.2.2.2.2.2.1)) (fun _ h9 => h9) rfl dX0_turned_26 ?_
      refine lv_ineg hx hb dX0_turned_29 ?_
      refine lv_istore_n (lv' := [(3, .int (-tn)), (0, .ref aC), (1, .int p0), (2, .int p1)]) hx hb dX0_turned_30 rfl hl (by decide) rfl (fun ls hl => ?_)
      refine lv_iload_n hx hb dX0_turned_31 rfl (lv_at hl 2 rfl) ?_
      obtain ⟨v_3, hv_3, hJ⟩ := j_b hJ
      refine ro_i (va_runSN (As := [.int p0]) (rest := []) ⟨hx, hb, hml, hown, hts⟩ (c_X4_xOf l D p0 tX tY s.heap.size F v_3 hv_3) ⟨va_cnB 1 hts gX0_turned_X4_xOf_n66 rfl rfl rfl (hST.1.2.2.2.2.2.2.2.2.2.1) k_3 (by decide +kernel) ⟨Nat.le_of_ble_eq_true rfl, Nat.le_of_ble_eq_true rfl⟩, k_2, trivial⟩ (preRS [.int p0] hP hK hS hA hST [] rfl [] rfl) rfl rfl hl.1 rfl (lv_room (Nat.le_of_ble_eq_true rfl)) dX0_turned_32 ⟨Nat.zero_le _, Nat.zero_le _⟩) hP hS hA (fun H locs hP hS => ?_)
      refine lv_iload_n hx hb dX0_turned_35 rfl (lv_at hl 2 rfl) ?_
      obtain ⟨v_4, hv_4, hJ⟩ := j_b hJ
      refine ro_i (va_runSN (As := [.int p0]) (rest := [.int v_3]) ⟨hx, hb, hml, hown, hts⟩ (c_X4_yOf l D p0 tX tY H.size F v_4 hv_4) ⟨va_cnB 1 hts gX0_turned_X4_yOf_n72 rfl rfl rfl (hST.1.2.2.2.2.2.2.2.2.2.2.2.1) k_3 (by decide +kernel) ⟨Nat.le_of_ble_eq_true rfl, Nat.le_of_ble_eq_true rfl⟩, k_5, trivial⟩ (preRS [.int p0] hP hK hS hA hST [] rfl [] rfl) rfl rfl hl.1 rfl (lv_room (Nat.le_of_ble_eq_true rfl)) dX0_turned_36 ⟨Nat.zero_le _, Nat.zero_le _⟩) hP hS hA (fun H locs hP hS => ?_)
      refine lv_iload_n hx hb dX0_turned_39 rfl (lv_at hl 2 rfl) ?_
      obtain ⟨v_5, hv_5, hJ⟩ := j_b hJ
      refine ro_i (va_runSN (As := [.int p0]) (rest := [.int v_4, .int v_3]) ⟨hx, hb, hml, hown, hts⟩ (c_X4_headingOf l D p0 tX tY H.size F v_5 hv_5) ⟨va_cnB 1 hts gX0_turned_X4_headingOf_n62 rfl rfl rfl (hST.1.2.2.2.2.2.2.2.2.1) k_3 (by decide +kernel) ⟨Nat.le_of_ble_eq_true rfl, Nat.le_of_ble_eq_true rfl⟩, k_7, trivial⟩ (preRS [.int p0] hP hK hS hA hST [] rfl [] rfl) rfl rfl hl.1 rfl (lv_room (Nat.le_of_ble_eq_true rfl)) dX0_turned_40 ⟨Nat.zero_le _, Nat.zero_le _⟩) hP hS hA (fun H locs hP hS => ?_)
      refine lv_iload_n hx hb dX0_turned_43 rfl (lv_at hl 0 rfl) ?_
      refine lv_iadd hx hb dX0_turned_44 ?_
      refine lv_bipush (v := 7) hx hb dX0_turned_45 (by decide) ?_
      refine lv_iand hx hb dX0_turned_47 ?_
      obtain ⟨v_6, hv_6, hJ⟩ := j_b hJ
      refine ro_i (va_runSN (As := [.int v_3, .int v_4, .int ((v_5 + (-tn)) &&& (7 : Int32))]) (rest := []) ⟨hx, hb, hml, hown, hts⟩ (c_X4_placeAt l D v_3 v_4 ((v_5 + (-tn)) &&& (7 : Int32)) tX tY H.size F v_6 hv_6) ⟨va_cnB 3 hts gX0_turned_X4_placeAt_n97 rfl rfl rfl (hST.1.2.2.2.2.2.2.2.2.2.2.2.2.2.1) k_3 (by decide +kernel) ⟨Nat.le_of_ble_eq_true rfl, Nat.le_of_ble_eq_true rfl⟩, k_9, trivial⟩ (preRS [.int v_3, .int v_4, .int ((v_5 + (-tn)) &&& (7 : Int32))] hP hK hS hA hST [] rfl [] rfl) rfl rfl hl.1 rfl (lv_room (Nat.le_of_ble_eq_true rfl)) dX0_turned_48 ⟨Nat.zero_le _, Nat.zero_le _⟩) hP hS hA (fun H locs hP hS => ?_)
      have ho := Option.some.inj hJ
      exact W.iret (v := v_6) hx hb hr (fun t ht hW => ⟨⟨_, (), rfl, ho, trivial⟩, hS.F ht⟩) hS.2.2 dX0_turned_51
    · have hJ := j_t c_2 hJ
      refine lv_aload_n hx hb dX0_turned_12 rfl (lv_at hl 0 rfl) ?_
      refine va_get (D := D) (ci := 1) (v := .ref aF) (C := RX0) (T := TX0) (N := 5) hx hb hts iX0 hown hK hP 0 rfl rfl 0 (by decide) k_1 (fun _ h9 => h9) rfl dX0_turned_13 ?_
      refine va_getN (D := D) (ci := 2) (v := .int tn) (C := RX1) (T := TX1) (N := 6) hx hb hts iX1 hown hK hP 2 rfl rfl 2 (by decide) (va_Nw.use rfl (hST.1.2.2.2.2.2.2.2.1)) (fun _ h9 => h9) rfl dX0_turned_16 ?_
      refine lv_goto (tgt := 30) hx hb dX0_turned_19 (by decide) ?_
      refine lv_istore_n (lv' := [(3, .int tn), (0, .ref aC), (1, .int p0), (2, .int p1)]) hx hb dX0_turned_30 rfl hl (by decide) rfl (fun ls hl => ?_)
      refine lv_iload_n hx hb dX0_turned_31 rfl (lv_at hl 2 rfl) ?_
      obtain ⟨v_7, hv_7, hJ⟩ := j_b hJ
      refine ro_i (va_runSN (As := [.int p0]) (rest := []) ⟨hx, hb, hml, hown, hts⟩ (c_X4_xOf l D p0 tX tY s.heap.size F v_7 hv_7) ⟨va_cnB 1 hts gX0_turned_X4_xOf_n66 rfl rfl rfl (hST.1.2.2.2.2.2.2.2.2.2.1) k_3 (by decide +kernel) ⟨Nat.le_of_ble_eq_true rfl, Nat.le_of_ble_eq_true rfl⟩, k_2, trivial⟩ (preRS [.int p0] hP hK hS hA hST [] rfl [] rfl) rfl rfl hl.1 rfl (lv_room (Nat.le_of_ble_eq_true rfl)) dX0_turned_32 ⟨Nat.zero_le _, Nat.zero_le _⟩) hP hS hA (fun H locs hP hS => ?_)
      refine lv_iload_n hx hb dX0_turned_35 rfl (lv_at hl 2 rfl) ?_
      obtain ⟨v_8, hv_8, hJ⟩ := j_b hJ
      refine ro_i (va_runSN (As := [.int p0]) (rest := [.int v_7]) ⟨hx, hb, hml, hown, hts⟩ (c_X4_yOf l D p0 tX tY H.size F v_8 hv_8) ⟨va_cnB 1 hts gX0_turned_X4_yOf_n72 rfl rfl rfl (hST.1.2.2.2.2.2.2.2.2.2.2.2.1) k_3 (by decide +kernel) ⟨Nat.le_of_ble_eq_true rfl, Nat.le_of_ble_eq_true rfl⟩, k_5, trivial⟩ (preRS [.int p0] hP hK hS hA hST [] rfl [] rfl) rfl rfl hl.1 rfl (lv_room (Nat.le_of_ble_eq_true rfl)) dX0_turned_36 ⟨Nat.zero_le _, Nat.zero_le _⟩) hP hS hA (fun H locs hP hS => ?_)
      refine lv_iload_n hx hb dX0_turned_39 rfl (lv_at hl 2 rfl) ?_
      obtain ⟨v_9, hv_9, hJ⟩ := j_b hJ
      refine ro_i (va_runSN (As := [.int p0]) (rest := [.int v_8, .int v_7]) ⟨hx, hb, hml, hown, hts⟩ (c_X4_headingOf l D p0 tX tY H.size F v_9 hv_9) ⟨va_cnB 1 hts gX0_turned_X4_headingOf_n62 rfl rfl rfl (hST.1.2.2.2.2.2.2.2.2.1) k_3 (by decide +kernel) ⟨Nat.le_of_ble_eq_true rfl, Nat.le_of_ble_eq_true rfl⟩, k_7, trivial⟩ (preRS [.int p0] hP hK hS hA hST [] rfl [] rfl) rfl rfl hl.1 rfl (lv_room (Nat.le_of_ble_eq_true rfl)) dX0_turned_40 ⟨Nat.zero_le _, Nat.zero_le _⟩) hP hS hA (fun H locs hP hS => ?_)
      refine lv_iload_n hx hb dX0_turned_43 rfl (lv_at hl 0 rfl) ?_
      refine lv_iadd hx hb dX0_turned_44 ?_
      refine lv_bipush (v := 7) hx hb dX0_turned_45 (by decide) ?_
      refine lv_iand hx hb dX0_turned_47 ?_
      obtain ⟨v_10, hv_10, hJ⟩ := j_b hJ
      refine ro_i (va_runSN (As := [.int v_7, .int v_8, .int ((v_9 + tn) &&& (7 : Int32))]) (rest := []) ⟨hx, hb, hml, hown, hts⟩ (c_X4_placeAt l D v_7 v_8 ((v_9 + tn) &&& (7 : Int32)) tX tY H.size F v_10 hv_10) ⟨va_cnB 3 hts gX0_turned_X4_placeAt_n97 rfl rfl rfl (hST.1.2.2.2.2.2.2.2.2.2.2.2.2.2.1) k_3 (by decide +kernel) ⟨Nat.le_of_ble_eq_true rfl, Nat.le_of_ble_eq_true rfl⟩, k_9, trivial⟩ (preRS [.int v_7, .int v_8, .int ((v_9 + tn) &&& (7 : Int32))] hP hK hS hA hST [] rfl [] rfl) rfl rfl hl.1 rfl (lv_room (Nat.le_of_ble_eq_true rfl)) dX0_turned_48 ⟨Nat.zero_le _, Nat.zero_le _⟩) hP hS hA (fun H locs hP hS => ?_)
      have ho := Option.some.inj hJ
      exact W.iret (v := v_10) hx hb hr (fun t ht hW => ⟨⟨_, (), rfl, ho, trivial⟩, hS.F ht⟩) hS.2.2 dX0_turned_51
  · have hJ := j_f c_1 hJ
    refine lv_iconst (v := (-1)) hx hb dX0_turned_4 (by decide) ?_
    have ho := Option.some.inj hJ
    exact W.iret (v := (-1 : Int32)) hx hb hr (fun t ht hW => ⟨⟨_, (), rfl, ho, trivial⟩, hS.F ht⟩) hS.2.2 dX0_turned_5
set_option maxHeartbeats 4000000 in
set_option maxRecDepth 100000 in
theorem c_X0_landing (l : Launch) (D : va_G) (aC aKn aF aFu aFk : Nat) (cKn cFu cFk : ClassId) (ln : Int32) (wd : Int32) (rd : Int32) (nKn : Nat) (kn : Nat → Int32) (w : Int32) (ht : Int32) (tn : Int32) (kp : Int32) (nFu : Nat) (fu : Nat → Int32) (nFk : Nat) (fk : Nat → Int32) (p0 : Int32) (p1 : Int32) (tX tY sz F : Nat) (o : Int32) (hJ : J_X0_landing F rd w ht tn p0 p1 = some o) : Met l yX0_landing wsX0_landing rmX0_landing (va_Pc [.ref aC, .int p0, .int p1] (pcR D [(aC, .inr (1, [.ref aF, .ref aKn, .int ln, .int wd, .int rd])), (aKn, .inl (cKn, nKn, .inl kn)), (aF, .inr (2, [.int w, .int ht, .int tn, .ref aFu, .ref aFk, .int kp])), (aFu, .inl (cFu, nFu, .inl fu)), (aFk, .inl (cFk, nFk, .inl fk))] [(cKn, .int), (cFu, .boolean), (cFk, .int)] sz tX tY)) (qRi o (va_A [] sz)) 0 0 (va_A [] sz) := by
  refine Met.ofW (cc := cX0_landing) (maxL := 4) (ret := (some .int)) (by decide) rfl ?_
  intro p e s m args below meth c s₁ B hml hv
  obtain ⟨rfl, hsz, hP, hK, hST⟩ := hv
  have hx := B.exec
  have hb := B.bytes
  have hr := B.returns
  have hts := atoms_spec (ws := wsX0_landing) B.pre
  have hown : s.vm.findClass RX0 = some m.cls := findClass_of_methodNamed B.named
  have hlocks := B.notSynchronized
  subst hsz
  generalize hAe : va_A [] s.heap.size = A at hST ⊢
  have hA : ∀ q : Nat, s.heap.size ≤ q → A q := fun q h => by rw [← hAe]; exact Or.inr h
  have hS : va_S A s.heap s.heap [] := va_S.rf
  have hl := lv_entry ([.ref aC, .int p0, .int p1]) (n := 4) (Nat.le_of_ble_eq_true rfl)
  rw [lg_entry_eq]
  generalize (lg_sl ([.ref aC, .int p0, .int p1]) ++ List.replicate (4 - (lg_sl ([.ref aC, .int p0, .int p1])).length) Slot.unset).toArray = ls at hl ⊢
  have hl : lv_has ls 4 [(0, .ref aC), (1, .int p0), (2, .int p1)] := hl
  have iX0 : ∀ w ∈ wsX00, w ∈ wsX0_landing := fun w h => List.mem_cons_of_mem _ (List.mem_append_left _ (List.mem_append_right _ h))
  have k_1 := hts (.fieldLink RX0 18 "ParkWays$Car" "radius" "I") (List.mem_of_getElem? (i := 1) rfl)
  unfold J_X0_landing at hJ
  refine lv_iload_n hx hb dX0_landing_0 rfl (lv_at hl 2 rfl) ?_
  obtain ⟨v_1, hv_1, hJ⟩ := j_b hJ
  refine ro_i (va_runS (As := [.int p1]) (rest := []) ⟨hx, hb, hml, hown, hts⟩ (c_X0_senseOf l D p1 tX tY s.heap.size F v_1 hv_1) (va_cwS 1 hts gX0_landing_X0_senseOf rfl rfl rfl (by decide +kernel) ⟨Nat.le_of_ble_eq_true rfl, Nat.le_of_ble_eq_true rfl⟩) (preRS [.int p1] hP hK hS hA hST [] rfl [] rfl) rfl rfl hl.1 rfl (lv_room (Nat.le_of_ble_eq_true rfl)) dX0_landing_1 ⟨Nat.zero_le _, Nat.zero_le _⟩) hP hS hA (fun H locs hP hS => ?_)
  refine lv_istore_n (lv' := [(3, .int v_1), (0, .ref aC), (1, .int p0), (2, .int p1)]) hx hb dX0_landing_4 rfl hl (by decide) rfl (fun ls hl => ?_)
  refine lv_iload_n hx hb dX0_landing_5 rfl (lv_at hl 3 rfl) ?_
  obtain ⟨v_2, hv_2, hJ⟩ := j_b hJ
  refine ro_i (va_runS (As := [.int p1]) (rest := []) ⟨hx, hb, hml, hown, hts⟩ (c_X0_isArc l D p1 tX tY H.size F v_2 hv_2) (va_cwS 1 hts gX0_landing_X0_isArc rfl rfl rfl (by decide +kernel) ⟨Nat.le_of_ble_eq_true rfl, Nat.le_of_ble_eq_true rfl⟩) (preRS [.int p1] hP hK hS hA hST [] rfl [] rfl) rfl rfl hl.1 rfl (lv_room (Nat.le_of_ble_eq_true rfl)) dX0_landing_6 ⟨Nat.zero_le _, Nat.zero_le _⟩) hP hS hA (fun H locs hP hS => ?_)
  refine lv_if_ne (tgt := 19) hx hb dX0_landing_9 (by decide) (fun c_3 => ?_) (fun c_3 => ?_)
  · have hJ := j_f c_3 hJ
    refine lv_aload_n hx hb dX0_landing_19 rfl (lv_at hl 1 rfl) ?_
    refine lv_aload_n hx hb dX0_landing_20 rfl (lv_at hl 1 rfl) ?_
    refine lv_aload_n hx hb dX0_landing_21 rfl (lv_at hl 1 rfl) ?_
    refine lv_iload_n hx hb dX0_landing_22 rfl (lv_at hl 2 rfl) ?_
    refine lv_iload_n hx hb dX0_landing_23 rfl (lv_at hl 0 rfl) ?_
    refine lv_aload_n hx hb dX0_landing_24 rfl (lv_at hl 1 rfl) ?_
    refine va_get (D := D) (ci := 1) (v := .int rd) (C := RX0) (T := TX0) (N := 5) hx hb hts iX0 hown hK hP 0 rfl rfl 4 (by decide) k_1 (fun _ h9 => h9) rfl dX0_landing_25 ?_
    refine lv_imul hx hb dX0_landing_28 ?_
    obtain ⟨v_4, hv_4, hJ⟩ := j_b hJ
    refine ro_i (va_runV (As := [.int p0, .int (v_1 * rd)]) (rest := [.ref aC, .ref aC]) ⟨hx, hb, hml, hown, hts⟩ (c_X0_shifted l D aC aKn aF aFu aFk cKn cFu cFk ln wd rd nKn kn w ht tn kp nFu fu nFk fk p0 (v_1 * rd) tX tY H.size F v_4 hv_4) (cwV 2 hts gX0_landing_X0_shifted rfl rfl rfl (by decide +kernel) ⟨Nat.le_of_ble_eq_true rfl, Nat.le_of_ble_eq_true rfl⟩) (preRV [.int p0, .int (v_1 * rd)] hP hK hS hA hST [0, 1, 2, 3, 4] rfl [0, 1, 2] rfl (ci := 1) (q0 := 0) rfl rfl) rfl rfl hl.1 rfl (lv_room (Nat.le_of_ble_eq_true rfl)) dX0_landing_29 ⟨Nat.zero_le _, Nat.zero_le _⟩) hP hS hA (fun H locs hP hS => ?_)
    refine lv_iload_n hx hb dX0_landing_32 rfl (lv_at hl 3 rfl) ?_
    obtain ⟨v_5, hv_5, hJ⟩ := j_b hJ
    refine ro_i (va_runV (As := [.int v_4, .int p1]) (rest := [.ref aC]) ⟨hx, hb, hml, hown, hts⟩ (c_X0_turned l D aC aKn aF aFu aFk cKn cFu cFk ln wd rd nKn kn w ht tn kp nFu fu nFk fk v_4 p1 tX tY H.size F v_5 hv_5) (cwV 2 hts gX0_landing_X0_turned rfl rfl rfl (by decide +kernel) ⟨Nat.le_of_ble_eq_true rfl, Nat.le_of_ble_eq_true rfl⟩) (preRV [.int v_4, .int p1] hP hK hS hA hST [0, 1, 2, 3, 4] rfl [0, 1, 2] rfl (ci := 1) (q0 := 0) rfl rfl) rfl rfl hl.1 rfl (lv_room (Nat.le_of_ble_eq_true rfl)) dX0_landing_33 ⟨Nat.zero_le _, Nat.zero_le _⟩) hP hS hA (fun H locs hP hS => ?_)
    refine lv_iload_n hx hb dX0_landing_36 rfl (lv_at hl 0 rfl) ?_
    refine lv_aload_n hx hb dX0_landing_37 rfl (lv_at hl 1 rfl) ?_
    refine va_get (D := D) (ci := 1) (v := .int rd) (C := RX0) (T := TX0) (N := 5) hx hb hts iX0 hown hK hP 0 rfl rfl 4 (by decide) k_1 (fun _ h9 => h9) rfl dX0_landing_38 ?_
    refine lv_imul hx hb dX0_landing_41 ?_
    obtain ⟨v_6, hv_6, hJ⟩ := j_b hJ
    refine ro_i (va_runV (As := [.int v_5, .int (v_1 * rd)]) (rest := []) ⟨hx, hb, hml, hown, hts⟩ (c_X0_shifted l D aC aKn aF aFu aFk cKn cFu cFk ln wd rd nKn kn w ht tn kp nFu fu nFk fk v_5 (v_1 * rd) tX tY H.size F v_6 hv_6) (cwV 2 hts gX0_landing_X0_shifted rfl rfl rfl (by decide +kernel) ⟨Nat.le_of_ble_eq_true rfl, Nat.le_of_ble_eq_true rfl⟩) (preRV [.int v_5, .int (v_1 * rd)] hP hK hS hA hST [0, 1, 2, 3, 4] rfl [0, 1, 2] rfl (ci := 1) (q0 := 0) rfl rfl) rfl rfl hl.1 rfl (lv_room (Nat.le_of_ble_eq_true rfl)) dX0_landing_42 ⟨Nat.zero_le _, Nat.zero_le _⟩) hP hS hA (fun H locs hP hS => ?_)
    have ho := Option.some.inj hJ
    exact W.iret (v := v_6) hx hb hr (fun t ht hW => ⟨⟨_, (), rfl, ho, trivial⟩, hS.F ht⟩) hS.2.2 dX0_landing_45
  · have hJ := j_t c_3 hJ
    refine lv_aload_n hx hb dX0_landing_12 rfl (lv_at hl 1 rfl) ?_
    refine lv_iload_n hx hb dX0_landing_13 rfl (lv_at hl 2 rfl) ?_
    refine lv_iload_n hx hb dX0_landing_14 rfl (lv_at hl 0 rfl) ?_
    obtain ⟨v_7, hv_7, hJ⟩ := j_b hJ
    refine ro_i (va_runV (As := [.int p0, .int v_1]) (rest := []) ⟨hx, hb, hml, hown, hts⟩ (c_X0_shifted l D aC aKn aF aFu aFk cKn cFu cFk ln wd rd nKn kn w ht tn kp nFu fu nFk fk p0 v_1 tX tY H.size F v_7 hv_7) (cwV 2 hts gX0_landing_X0_shifted rfl rfl rfl (by decide +kernel) ⟨Nat.le_of_ble_eq_true rfl, Nat.le_of_ble_eq_true rfl⟩) (preRV [.int p0, .int v_1] hP hK hS hA hST [0, 1, 2, 3, 4] rfl [0, 1, 2] rfl (ci := 1) (q0 := 0) rfl rfl) rfl rfl hl.1 rfl (lv_room (Nat.le_of_ble_eq_true rfl)) dX0_landing_15 ⟨Nat.zero_le _, Nat.zero_le _⟩) hP hS hA (fun H locs hP hS => ?_)
    have ho := Option.some.inj hJ
    exact W.iret (v := v_7) hx hb hr (fun t ht hW => ⟨⟨_, (), rfl, ho, trivial⟩, hS.F ht⟩) hS.2.2 dX0_landing_18
set_option maxHeartbeats 4000000 in
set_option maxRecDepth 100000 in
theorem c_X0_mayMake (l : Launch) (D : va_G) (aC aKn aF aFu aFk : Nat) (cKn cFu cFk : ClassId) (ln : Int32) (wd : Int32) (rd : Int32) (nKn : Nat) (kn : Nat → Int32) (w : Int32) (ht : Int32) (tn : Int32) (kp : Int32) (nFu : Nat) (fu : Nat → Int32) (nFk : Nat) (fk : Nat → Int32) (p0 : Int32) (p1 : Int32) (tX tY sz F : Nat) (o : Int32 × (Nat → Int32)) (hJ : J_X0_mayMake F ln wd rd nKn kn w ht tn nFk fk p0 p1 = some o) : Met l yX0_mayMake wsX0_mayMake rmX0_mayMake (va_Pc [.ref aC, .int p0, .int p1] (pcW D [(aC, .inr (1, [.ref aF, .ref aKn, .int ln, .int wd, .int rd])), (aKn, .inl (cKn, nKn, .inl kn)), (aF, .inr (2, [.int w, .int ht, .int tn, .ref aFu, .ref aFk, .int kp])), (aFu, .inl (cFu, nFu, .inl fu)), (aFk, .inl (cFk, nFk, .inl fk))] [(cKn, .int), (cFu, .boolean), (cFk, .int)] sz tX tY)) (qWi D o.1 [(aC, .inr (1, [.ref aF, .ref aKn, .int ln, .int wd, .int rd])), (aKn, .inl (cKn, nKn, .inl o.2)), (aF, .inr (2, [.int w, .int ht, .int tn, .ref aFu, .ref aFk, .int kp])), (aFu, .inl (cFu, nFu, .inl fu)), (aFk, .inl (cFk, nFk, .inl fk))] (va_A [(aC, .inr (1, [.ref aF, .ref aKn, .int ln, .int wd, .int rd])), (aKn, .inl (cKn, nKn, .inl kn)), (aF, .inr (2, [.int w, .int ht, .int tn, .ref aFu, .ref aFk, .int kp])), (aFu, .inl (cFu, nFu, .inl fu)), (aFk, .inl (cFk, nFk, .inl fk))] sz)) 0 0 (va_A [(aC, .inr (1, [.ref aF, .ref aKn, .int ln, .int wd, .int rd])), (aKn, .inl (cKn, nKn, .inl kn)), (aF, .inr (2, [.int w, .int ht, .int tn, .ref aFu, .ref aFk, .int kp])), (aFu, .inl (cFu, nFu, .inl fu)), (aFk, .inl (cFk, nFk, .inl fk))] sz) := by
  refine Met.ofW (cc := cX0_mayMake) (maxL := 7) (ret := (some .boolean)) (by decide) rfl ?_
  intro p e s m args below meth c s₁ B hml hv
  obtain ⟨rfl, hsz, hP, hK, hD0, hST⟩ := hv
  have hx := B.exec
  have hb := B.bytes
  have hr := B.returns
  have hts := atoms_spec (ws := wsX0_mayMake) B.pre
  have hown : s.vm.findClass RX0 = some m.cls := findClass_of_methodNamed B.named
  have hlocks := B.notSynchronized
  subst hsz
  have hD := hD0.self (sz := s.heap.size)
  generalize hAe : va_A [(aC, .inr (1, [.ref aF, .ref aKn, .int ln, .int wd, .int rd])), (aKn, .inl (cKn, nKn, .inl kn)), (aF, .inr (2, [.int w, .int ht, .int tn, .ref aFu, .ref aFk, .int kp])), (aFu, .inl (cFu, nFu, .inl fu)), (aFk, .inl (cFk, nFk, .inl fk))] s.heap.size = A at hD hST ⊢
  have hA : ∀ q : Nat, s.heap.size ≤ q → A q := fun q h => by rw [← hAe]; exact Or.inr h
  have hS : va_S A s.heap s.heap [] := va_S.rf
  have hl := lv_entry ([.ref aC, .int p0, .int p1]) (n := 7) (Nat.le_of_ble_eq_true rfl)
  rw [lg_entry_eq]
  generalize (lg_sl ([.ref aC, .int p0, .int p1]) ++ List.replicate (7 - (lg_sl ([.ref aC, .int p0, .int p1])).length) Slot.unset).toArray = ls at hl ⊢
  have hl : lv_has ls 7 [(0, .ref aC), (1, .int p0), (2, .int p1)] := hl
  have iX0 : ∀ w ∈ wsX00, w ∈ wsX0_mayMake := fun w h => List.mem_cons_of_mem _ (List.mem_append_left _ (List.mem_append_right _ h))
  have k_1 := hts (.fieldLink RX0 18 "ParkWays$Car" "radius" "I") (List.mem_of_getElem? (i := 1) rfl)
  have L_54 : ∀ (y1_6 : Int32) (y3_7 : Int32) (y4_8 : Int32) (y5_9 : Int32) (kk_102 : Int32 → (Nat → Int32) → Option (Int32 × (Nat → Int32))) (hkk_102 : ∀ (H : Heap) (locs : List Loc) (x6_10 : Int32) (xkn_11 : Nat → Int32) (ls : Array Slot), kk_102 x6_10 xkn_11 = some o → va_P D vwCl [(aC, .inr (1, [.ref aF, .ref aKn, .int ln, .int wd, .int rd])), (aKn, .inl (cKn, nKn, .inl xkn_11)), (aF, .inr (2, [.int w, .int ht, .int tn, .ref aFu, .ref aFk, .int kp])), (aFu, .inl (cFu, nFu, .inl fu)), (aFk, .inl (cFk, nFk, .inl fk))] H → va_D A [(aC, .inr (1, [.ref aF, .ref aKn, .int ln, .int wd, .int rd])), (aKn, .inl (cKn, nKn, .inl xkn_11)), (aF, .inr (2, [.int w, .int ht, .int tn, .ref aFu, .ref aFk, .int kp])), (aFu, .inl (cFu, nFu, .inl fu)), (aFk, .inl (cFk, nFk, .inl fk))] → va_S A s.heap H locs → lv_has ls 7 [] → W p l e (headSpec wsX0_mayMake rmX0_mayMake).room s m [.ref aC, .int p0, .int p1].toArray below meth c H locs 0 0 (MQ below (qWi D o.1 [(aC, .inr (1, [.ref aF, .ref aKn, .int ln, .int wd, .int rd])), (aKn, .inl (cKn, nKn, .inl o.2)), (aF, .inr (2, [.int w, .int ht, .int tn, .ref aFu, .ref aFk, .int kp])), (aFu, .inl (cFu, nFu, .inl fu)), (aFk, .inl (cFk, nFk, .inl fk))] A) [.ref aC, .int p0, .int p1].toArray s 0 0 A) (F0 m 102 ls [])) (fz : Nat) (H : Heap) (locs : List Loc) (x6_10 : Int32) (xkn_11 : Nat → Int32) (ls : Array Slot), J_X0_mayMake_L54 F ln wd nKn w ht nFk fk y1_6 y3_7 y4_8 y5_9 kk_102 fz x6_10 xkn_11 = some o → va_P D vwCl [(aC, .inr (1, [.ref aF, .ref aKn, .int ln, .int wd, .int rd])), (aKn, .inl (cKn, nKn, .inl xkn_11)), (aF, .inr (2, [.int w, .int ht, .int tn, .ref aFu, .ref aFk, .int kp])), (aFu, .inl (cFu, nFu, .inl fu)), (aFk, .inl (cFk, nFk, .inl fk))] H → va_D A [(aC, .inr (1, [.ref aF, .ref aKn, .int ln, .int wd, .int rd])), (aKn, .inl (cKn, nKn, .inl xkn_11)), (aF, .inr (2, [.int w, .int ht, .int tn, .ref aFu, .ref aFk, .int kp])), (aFu, .inl (cFu, nFu, .inl fu)), (aFk, .inl (cFk, nFk, .inl fk))] → va_S A s.heap H locs → lv_has ls 7 [(0, .ref aC), (1, .int y1_6), (3, .int y3_7), (4, .int y4_8), (5, .int y5_9), (6, .int x6_10)] → W p l e (headSpec wsX0_mayMake rmX0_mayMake).room s m [.ref aC, .int p0, .int p1].toArray below meth c H locs 0 0 (MQ below (qWi D o.1 [(aC, .inr (1, [.ref aF, .ref aKn, .int ln, .int wd, .int rd])), (aKn, .inl (cKn, nKn, .inl o.2)), (aF, .inr (2, [.int w, .int ht, .int tn, .ref aFu, .ref aFk, .int kp])), (aFu, .inl (cFu, nFu, .inl fu)), (aFk, .inl (cFk, nFk, .inl fk))] A) [.ref aC, .int p0, .int p1].toArray s 0 0 A) (F0 m 54 ls []) := by
    intro y1_6 y3_7 y4_8 y5_9 kk_102 hkk_102 fz
    induction fz with
    | zero =>
      intro H locs x6_10 xkn_11 ls hJ
      rw [J_X0_mayMake_L54] at hJ
      cases hJ
    | succ fz ih =>
      intro H locs x6_10 xkn_11 ls hJ hP hD hS hl
      rw [J_X0_mayMake_L54] at hJ
      refine lv_iload hx hb dX0_mayMake_54 (lv_at hl 5 rfl) ?_
      refine lv_iload hx hb dX0_mayMake_56 (lv_at hl 3 rfl) ?_
      refine lv_icmp_gt (tgt := 102) hx hb dX0_mayMake_58 (by decide) (fun c_12 => ?_) (fun c_12 => ?_)
      · have hJ := j_t c_12 hJ
        exact hkk_102 H locs x6_10 xkn_11 ls hJ hP hD hS (lv_sub hl [] rfl)
      · have hJ := j_f c_12 hJ
        refine lv_aload_n hx hb dX0_mayMake_61 rfl (lv_at hl 0 rfl) ?_
        refine lv_aload_n hx hb dX0_mayMake_62 rfl (lv_at hl 0 rfl) ?_
        refine lv_iload_n hx hb dX0_mayMake_63 rfl (lv_at hl 1 rfl) ?_
        refine lv_iload_n hx hb dX0_mayMake_64 rfl (lv_at hl 2 rfl) ?_
        refine lv_iload hx hb dX0_mayMake_65 (lv_at hl 5 rfl) ?_
        refine lv_imul hx hb dX0_mayMake_67 ?_
        obtain ⟨v_13, hv_13, hJ⟩ := j_b hJ
        refine ro_i (va_runV (As := [.int y1_6, .int (y3_7 * x6_10)]) (rest := [.ref aC]) ⟨hx, hb, hml, hown, hts⟩ (c_X0_shifted l D aC aKn aF aFu aFk cKn cFu cFk ln wd rd nKn xkn_11 w ht tn kp nFu fu nFk fk y1_6 (y3_7 * x6_10) tX tY H.size F v_13 hv_13) (cwV 2 hts gX0_mayMake_X0_shifted rfl rfl rfl (by decide +kernel) ⟨Nat.le_of_ble_eq_true rfl, Nat.le_of_ble_eq_true rfl⟩) (preRV [.int y1_6, .int (y3_7 * x6_10)] hP hK hS hA hST [0, 1, 2, 3, 4] rfl [0, 1, 2] rfl (ci := 1) (q0 := 0) rfl rfl) rfl rfl hl.1 rfl (lv_room (Nat.le_of_ble_eq_true rfl)) dX0_mayMake_68 ⟨Nat.zero_le _, Nat.zero_le _⟩) hP hS hA (fun H locs hP hS => ?_)
        obtain ⟨v_14, hv_14, hJ⟩ := j_b hJ
        refine wr_i (wr := []) (wn := [(aC, .inr (1, [.ref aF, .ref aKn, .int ln, .int wd, .int rd])), (aKn, .inl (cKn, nKn, .inl v_14.2)), (aF, .inr (2, [.int w, .int ht, .int tn, .ref aFu, .ref aFk, .int kp])), (aFu, .inl (cFu, nFu, .inl fu)), (aFk, .inl (cFk, nFk, .inl fk))]) (va_runV (As := [.int v_13]) (rest := []) ⟨hx, hb, hml, hown, hts⟩ (c_X0_isFree l D aC aKn aF aFu aFk cKn cFu cFk ln wd rd nKn xkn_11 w ht tn kp nFu fu nFk fk v_13 tX tY H.size F v_14 hv_14) (cwV 1 hts gX0_mayMake_X0_isFree rfl rfl rfl (by decide +kernel) ⟨Nat.le_of_ble_eq_true rfl, Nat.le_of_ble_eq_true rfl⟩) (preWV [.int v_13] hP hD hK hS hA hST [0, 1, 2, 3, 4] rfl rfl rfl [0, 1, 2] rfl (ci := 1) (q0 := 0) rfl rfl) rfl rfl hl.1 rfl (lv_room (Nat.le_of_ble_eq_true rfl)) dX0_mayMake_71 ⟨Nat.zero_le _, Nat.zero_le _⟩) hP hD hS hA [0, 1, 2, 3, 4] [] rfl rfl rfl (by decide) [0, 1, 2, 3, 4] rfl rfl rfl (fun H locs hP hD hS => ?_)
        refine lv_if_eq (tgt := 94) hx hb dX0_mayMake_74 (by decide) (fun c_15 => ?_) (fun c_15 => ?_)
        · have hJ := j_t c_15 hJ
          refine lv_iconst (v := 0) hx hb dX0_mayMake_94 (by decide) ?_
          have ho := Option.some.inj hJ
          exact W.zret (v := (0 : Int32)) hx hb hr rfl (fun t ht hW => ⟨⟨_, (), rfl, (by rw [← ho]), (by rw [ht, ← ho]; exact hP), (by rw [← ho]; exact hD)⟩, hS.F ht⟩) hS.2.2 dX0_mayMake_95
        · have hJ := j_f c_15 hJ
          refine lv_aload_n hx hb dX0_mayMake_77 rfl (lv_at hl 0 rfl) ?_
          refine lv_aload_n hx hb dX0_mayMake_78 rfl (lv_at hl 0 rfl) ?_
          refine lv_iload hx hb dX0_mayMake_79 (lv_at hl 4 rfl) ?_
          refine lv_iload_n hx hb dX0_mayMake_81 rfl (lv_at hl 2 rfl) ?_
          refine lv_iload hx hb dX0_mayMake_82 (lv_at hl 5 rfl) ?_
          refine lv_imul hx hb dX0_mayMake_84 ?_
          obtain ⟨v_16, hv_16, hJ⟩ := j_b hJ
          refine ro_i (va_runV (As := [.int y5_9, .int (y3_7 * x6_10)]) (rest := [.ref aC]) ⟨hx, hb, hml, hown, hts⟩ (c_X0_shifted l D aC aKn aF aFu aFk cKn cFu cFk ln wd rd nKn v_14.2 w ht tn kp nFu fu nFk fk y5_9 (y3_7 * x6_10) tX tY H.size F v_16 hv_16) (cwV 2 hts gX0_mayMake_X0_shifted rfl rfl rfl (by decide +kernel) ⟨Nat.le_of_ble_eq_true rfl, Nat.le_of_ble_eq_true rfl⟩) (preRV [.int y5_9, .int (y3_7 * x6_10)] hP hK hS hA hST [0, 1, 2, 3, 4] rfl [0, 1, 2] rfl (ci := 1) (q0 := 0) rfl rfl) rfl rfl hl.1 rfl (lv_room (Nat.le_of_ble_eq_true rfl)) dX0_mayMake_85 ⟨Nat.zero_le _, Nat.zero_le _⟩) hP hS hA (fun H locs hP hS => ?_)
          obtain ⟨v_17, hv_17, hJ⟩ := j_b hJ
          refine wr_i (wr := []) (wn := [(aC, .inr (1, [.ref aF, .ref aKn, .int ln, .int wd, .int rd])), (aKn, .inl (cKn, nKn, .inl v_17.2)), (aF, .inr (2, [.int w, .int ht, .int tn, .ref aFu, .ref aFk, .int kp])), (aFu, .inl (cFu, nFu, .inl fu)), (aFk, .inl (cFk, nFk, .inl fk))]) (va_runV (As := [.int v_16]) (rest := []) ⟨hx, hb, hml, hown, hts⟩ (c_X0_isFree l D aC aKn aF aFu aFk cKn cFu cFk ln wd rd nKn v_14.2 w ht tn kp nFu fu nFk fk v_16 tX tY H.size F v_17 hv_17) (cwV 1 hts gX0_mayMake_X0_isFree rfl rfl rfl (by decide +kernel) ⟨Nat.le_of_ble_eq_true rfl, Nat.le_of_ble_eq_true rfl⟩) (preWV [.int v_16] hP hD hK hS hA hST [0, 1, 2, 3, 4] rfl rfl rfl [0, 1, 2] rfl (ci := 1) (q0 := 0) rfl rfl) rfl rfl hl.1 rfl (lv_room (Nat.le_of_ble_eq_true rfl)) dX0_mayMake_88 ⟨Nat.zero_le _, Nat.zero_le _⟩) hP hD hS hA [0, 1, 2, 3, 4] [] rfl rfl rfl (by decide) [0, 1, 2, 3, 4] rfl rfl rfl (fun H locs hP hD hS => ?_)
          refine lv_if_ne (tgt := 96) hx hb dX0_mayMake_91 (by decide) (fun c_18 => ?_) (fun c_18 => ?_)
          · have hJ := j_f c_18 hJ
            refine lv_iinc (v := (x6_10 + (1 : Int32))) (lv' := [(6, .int (x6_10 + (1 : Int32))), (0, .ref aC), (1, .int y1_6), (3, .int y3_7), (4, .int y4_8), (5, .int y5_9)]) hx hb dX0_mayMake_96 hl (k := 5) rfl rfl (by decide) rfl (fun ls hl => ?_)
            refine lv_goto (tgt := 54) hx hb dX0_mayMake_99 (by decide) ?_
            exact ih H locs (x6_10 + (1 : Int32)) v_17.2 ls hJ hP hD hS (lv_sub hl [1, 2, 3, 4, 5, 0] rfl)
          · have hJ := j_t c_18 hJ
            refine lv_iconst (v := 0) hx hb dX0_mayMake_94 (by decide) ?_
            have ho := Option.some.inj hJ
            exact W.zret (v := (0 : Int32)) hx hb hr rfl (fun t ht hW => ⟨⟨_, (), rfl, (by rw [← ho]), (by rw [ht, ← ho]; exact hP), (by rw [← ho]; exact hD)⟩, hS.F ht⟩) hS.2.2 dX0_mayMake_95
  unfold J_X0_mayMake at hJ
  refine lv_iload_n hx hb dX0_mayMake_0 rfl (lv_at hl 2 rfl) ?_
  obtain ⟨v_1, hv_1, hJ⟩ := j_b hJ
  refine ro_i (va_runS (As := [.int p1]) (rest := []) ⟨hx, hb, hml, hown, hts⟩ (c_X0_senseOf l D p1 tX tY s.heap.size F v_1 hv_1) (va_cwS 1 hts gX0_mayMake_X0_senseOf rfl rfl rfl (by decide +kernel) ⟨Nat.le_of_ble_eq_true rfl, Nat.le_of_ble_eq_true rfl⟩) (preRS [.int p1] hP hK hS hA hST [] rfl [] rfl) rfl rfl hl.1 rfl (lv_room (Nat.le_of_ble_eq_true rfl)) dX0_mayMake_1 ⟨Nat.zero_le _, Nat.zero_le _⟩) hP hS hA (fun H locs hP hS => ?_)
  refine lv_istore_n (lv' := [(3, .int v_1), (0, .ref aC), (1, .int p0), (2, .int p1)]) hx hb dX0_mayMake_4 rfl hl (by decide) rfl (fun ls hl => ?_)
  refine lv_iload_n hx hb dX0_mayMake_5 rfl (lv_at hl 3 rfl) ?_
  obtain ⟨v_2, hv_2, hJ⟩ := j_b hJ
  refine ro_i (va_runS (As := [.int p1]) (rest := []) ⟨hx, hb, hml, hown, hts⟩ (c_X0_isArc l D p1 tX tY H.size F v_2 hv_2) (va_cwS 1 hts gX0_mayMake_X0_isArc rfl rfl rfl (by decide +kernel) ⟨Nat.le_of_ble_eq_true rfl, Nat.le_of_ble_eq_true rfl⟩) (preRS [.int p1] hP hK hS hA hST [] rfl [] rfl) rfl rfl hl.1 rfl (lv_room (Nat.le_of_ble_eq_true rfl)) dX0_mayMake_6 ⟨Nat.zero_le _, Nat.zero_le _⟩) hP hS hA (fun H locs hP hS => ?_)
  refine lv_if_eq (tgt := 19) hx hb dX0_mayMake_9 (by decide) (fun c_3 => ?_) (fun c_3 => ?_)
  · have hJ := j_t c_3 hJ
    refine lv_iconst (v := 1) hx hb dX0_mayMake_19 (by decide) ?_
    refine lv_istore (lv' := [(4, .int (1 : Int32)), (3, .int v_1), (0, .ref aC), (1, .int p0), (2, .int p1)]) hx hb dX0_mayMake_20 hl (by decide) rfl (fun ls hl => ?_)
    refine lv_iload_n hx hb dX0_mayMake_22 rfl (lv_at hl 4 rfl) ?_
    obtain ⟨v_4, hv_4, hJ⟩ := j_b hJ
    refine ro_i (va_runS (As := [.int p1]) (rest := []) ⟨hx, hb, hml, hown, hts⟩ (c_X0_isArc l D p1 tX tY H.size F v_4 hv_4) (va_cwS 1 hts gX0_mayMake_X0_isArc rfl rfl rfl (by decide +kernel) ⟨Nat.le_of_ble_eq_true rfl, Nat.le_of_ble_eq_true rfl⟩) (preRS [.int p1] hP hK hS hA hST [] rfl [] rfl) rfl rfl hl.1 rfl (lv_room (Nat.le_of_ble_eq_true rfl)) dX0_mayMake_23 ⟨Nat.zero_le _, Nat.zero_le _⟩) hP hS hA (fun H locs hP hS => ?_)
    refine lv_if_eq (tgt := 48) hx hb dX0_mayMake_26 (by decide) (fun c_5 => ?_) (fun c_5 => ?_)
    · have hJ := j_t c_5 hJ
      refine lv_iload_n hx hb dX0_mayMake_48 rfl (lv_at hl 3 rfl) ?_
      refine lv_istore (lv' := [(5, .int p0), (4, .int (1 : Int32)), (3, .int v_1), (0, .ref aC), (1, .int p0), (2, .int p1)]) hx hb dX0_mayMake_49 hl (by decide) rfl (fun ls hl => ?_)
      refine lv_iconst (v := 0) hx hb dX0_mayMake_51 (by decide) ?_
      refine lv_istore (lv' := [(6, .int (0 : Int32)), (5, .int p0), (4, .int (1 : Int32)), (3, .int v_1), (0, .ref aC), (1, .int p0), (2, .int p1)]) hx hb dX0_mayMake_52 hl (by decide) rfl (fun ls hl => ?_)
      refine L_54 p0 v_1 (1 : Int32) p0 _ ?_ F H locs (0 : Int32) kn ls hJ hP hD hS (lv_sub hl [4, 5, 3, 2, 1, 0] rfl)
      · intro H locs x6_19 xkn_20 ls hJ hP hD hS hl
        refine lv_iconst (v := 1) hx hb dX0_mayMake_102 (by decide) ?_
        have ho := Option.some.inj hJ
        exact W.zret (v := (1 : Int32)) hx hb hr rfl (fun t ht hW => ⟨⟨_, (), rfl, (by rw [← ho]), (by rw [ht, ← ho]; exact hP), (by rw [← ho]; exact hD)⟩, hS.F ht⟩) hS.2.2 dX0_mayMake_103
    · have hJ := j_f c_5 hJ
      refine lv_aload_n hx hb dX0_mayMake_29 rfl (lv_at hl 2 rfl) ?_
      refine lv_aload_n hx hb dX0_mayMake_30 rfl (lv_at hl 2 rfl) ?_
      refine lv_iload_n hx hb dX0_mayMake_31 rfl (lv_at hl 3 rfl) ?_
      refine lv_iload_n hx hb dX0_mayMake_32 rfl (lv_at hl 1 rfl) ?_
      refine lv_aload_n hx hb dX0_mayMake_33 rfl (lv_at hl 2 rfl) ?_
      refine va_get (D := D) (ci := 1) (v := .int rd) (C := RX0) (T := TX0) (N := 5) hx hb hts iX0 hown hK hP 0 rfl rfl 4 (by decide) k_1 (fun _ h9 => h9) rfl dX0_mayMake_34 ?_
      refine lv_imul hx hb dX0_mayMake_37 ?_
      obtain ⟨v_21, hv_21, hJ⟩ := j_b hJ
      refine ro_i (va_runV (As := [.int p0, .int (v_1 * rd)]) (rest := [.ref aC]) ⟨hx, hb, hml, hown, hts⟩ (c_X0_shifted l D aC aKn aF aFu aFk cKn cFu cFk ln wd rd nKn kn w ht tn kp nFu fu nFk fk p0 (v_1 * rd) tX tY H.size F v_21 hv_21) (cwV 2 hts gX0_mayMake_X0_shifted rfl rfl rfl (by decide +kernel) ⟨Nat.le_of_ble_eq_true rfl, Nat.le_of_ble_eq_true rfl⟩) (preRV [.int p0, .int (v_1 * rd)] hP hK hS hA hST [0, 1, 2, 3, 4] rfl [0, 1, 2] rfl (ci := 1) (q0 := 0) rfl rfl) rfl rfl hl.1 rfl (lv_room (Nat.le_of_ble_eq_true rfl)) dX0_mayMake_38 ⟨Nat.zero_le _, Nat.zero_le _⟩) hP hS hA (fun H locs hP hS => ?_)
      refine lv_iload_n hx hb dX0_mayMake_41 rfl (lv_at hl 4 rfl) ?_
      obtain ⟨v_22, hv_22, hJ⟩ := j_b hJ
      refine ro_i (va_runV (As := [.int v_21, .int p1]) (rest := []) ⟨hx, hb, hml, hown, hts⟩ (c_X0_turned l D aC aKn aF aFu aFk cKn cFu cFk ln wd rd nKn kn w ht tn kp nFu fu nFk fk v_21 p1 tX tY H.size F v_22 hv_22) (cwV 2 hts gX0_mayMake_X0_turned rfl rfl rfl (by decide +kernel) ⟨Nat.le_of_ble_eq_true rfl, Nat.le_of_ble_eq_true rfl⟩) (preRV [.int v_21, .int p1] hP hK hS hA hST [0, 1, 2, 3, 4] rfl [0, 1, 2] rfl (ci := 1) (q0 := 0) rfl rfl) rfl rfl hl.1 rfl (lv_room (Nat.le_of_ble_eq_true rfl)) dX0_mayMake_42 ⟨Nat.zero_le _, Nat.zero_le _⟩) hP hS hA (fun H locs hP hS => ?_)
      refine lv_goto (tgt := 49) hx hb dX0_mayMake_45 (by decide) ?_
      refine lv_istore (lv' := [(5, .int v_22), (4, .int (1 : Int32)), (3, .int v_1), (0, .ref aC), (1, .int p0), (2, .int p1)]) hx hb dX0_mayMake_49 hl (by decide) rfl (fun ls hl => ?_)
      refine lv_iconst (v := 0) hx hb dX0_mayMake_51 (by decide) ?_
      refine lv_istore (lv' := [(6, .int (0 : Int32)), (5, .int v_22), (4, .int (1 : Int32)), (3, .int v_1), (0, .ref aC), (1, .int p0), (2, .int p1)]) hx hb dX0_mayMake_52 hl (by decide) rfl (fun ls hl => ?_)
      refine L_54 p0 v_1 (1 : Int32) v_22 _ ?_ F H locs (0 : Int32) kn ls hJ hP hD hS (lv_sub hl [4, 5, 3, 2, 1, 0] rfl)
      · intro H locs x6_23 xkn_24 ls hJ hP hD hS hl
        refine lv_iconst (v := 1) hx hb dX0_mayMake_102 (by decide) ?_
        have ho := Option.some.inj hJ
        exact W.zret (v := (1 : Int32)) hx hb hr rfl (fun t ht hW => ⟨⟨_, (), rfl, (by rw [← ho]), (by rw [ht, ← ho]; exact hP), (by rw [← ho]; exact hD)⟩, hS.F ht⟩) hS.2.2 dX0_mayMake_103
  · have hJ := j_f c_3 hJ
    refine lv_aload_n hx hb dX0_mayMake_12 rfl (lv_at hl 1 rfl) ?_
    refine va_get (D := D) (ci := 1) (v := .int rd) (C := RX0) (T := TX0) (N := 5) hx hb hts iX0 hown hK hP 0 rfl rfl 4 (by decide) k_1 (fun _ h9 => h9) rfl dX0_mayMake_13 ?_
    refine lv_goto (tgt := 20) hx hb dX0_mayMake_16 (by decide) ?_
    refine lv_istore (lv' := [(4, .int rd), (3, .int v_1), (0, .ref aC), (1, .int p0), (2, .int p1)]) hx hb dX0_mayMake_20 hl (by decide) rfl (fun ls hl => ?_)
    refine lv_iload_n hx hb dX0_mayMake_22 rfl (lv_at hl 4 rfl) ?_
    obtain ⟨v_25, hv_25, hJ⟩ := j_b hJ
    refine ro_i (va_runS (As := [.int p1]) (rest := []) ⟨hx, hb, hml, hown, hts⟩ (c_X0_isArc l D p1 tX tY H.size F v_25 hv_25) (va_cwS 1 hts gX0_mayMake_X0_isArc rfl rfl rfl (by decide +kernel) ⟨Nat.le_of_ble_eq_true rfl, Nat.le_of_ble_eq_true rfl⟩) (preRS [.int p1] hP hK hS hA hST [] rfl [] rfl) rfl rfl hl.1 rfl (lv_room (Nat.le_of_ble_eq_true rfl)) dX0_mayMake_23 ⟨Nat.zero_le _, Nat.zero_le _⟩) hP hS hA (fun H locs hP hS => ?_)
    refine lv_if_eq (tgt := 48) hx hb dX0_mayMake_26 (by decide) (fun c_26 => ?_) (fun c_26 => ?_)
    · have hJ := j_t c_26 hJ
      refine lv_iload_n hx hb dX0_mayMake_48 rfl (lv_at hl 3 rfl) ?_
      refine lv_istore (lv' := [(5, .int p0), (4, .int rd), (3, .int v_1), (0, .ref aC), (1, .int p0), (2, .int p1)]) hx hb dX0_mayMake_49 hl (by decide) rfl (fun ls hl => ?_)
      refine lv_iconst (v := 0) hx hb dX0_mayMake_51 (by decide) ?_
      refine lv_istore (lv' := [(6, .int (0 : Int32)), (5, .int p0), (4, .int rd), (3, .int v_1), (0, .ref aC), (1, .int p0), (2, .int p1)]) hx hb dX0_mayMake_52 hl (by decide) rfl (fun ls hl => ?_)
      refine L_54 p0 v_1 rd p0 _ ?_ F H locs (0 : Int32) kn ls hJ hP hD hS (lv_sub hl [4, 5, 3, 2, 1, 0] rfl)
      · intro H locs x6_27 xkn_28 ls hJ hP hD hS hl
        refine lv_iconst (v := 1) hx hb dX0_mayMake_102 (by decide) ?_
        have ho := Option.some.inj hJ
        exact W.zret (v := (1 : Int32)) hx hb hr rfl (fun t ht hW => ⟨⟨_, (), rfl, (by rw [← ho]), (by rw [ht, ← ho]; exact hP), (by rw [← ho]; exact hD)⟩, hS.F ht⟩) hS.2.2 dX0_mayMake_103
    · have hJ := j_f c_26 hJ
      refine lv_aload_n hx hb dX0_mayMake_29 rfl (lv_at hl 2 rfl) ?_
      refine lv_aload_n hx hb dX0_mayMake_30 rfl (lv_at hl 2 rfl) ?_
      refine lv_iload_n hx hb dX0_mayMake_31 rfl (lv_at hl 3 rfl) ?_
      refine lv_iload_n hx hb dX0_mayMake_32 rfl (lv_at hl 1 rfl) ?_
      refine lv_aload_n hx hb dX0_mayMake_33 rfl (lv_at hl 2 rfl) ?_
      refine va_get (D := D) (ci := 1) (v := .int rd) (C := RX0) (T := TX0) (N := 5) hx hb hts iX0 hown hK hP 0 rfl rfl 4 (by decide) k_1 (fun _ h9 => h9) rfl dX0_mayMake_34 ?_
      refine lv_imul hx hb dX0_mayMake_37 ?_
      obtain ⟨v_29, hv_29, hJ⟩ := j_b hJ
      refine ro_i (va_runV (As := [.int p0, .int (v_1 * rd)]) (rest := [.ref aC]) ⟨hx, hb, hml, hown, hts⟩ (c_X0_shifted l D aC aKn aF aFu aFk cKn cFu cFk ln wd rd nKn kn w ht tn kp nFu fu nFk fk p0 (v_1 * rd) tX tY H.size F v_29 hv_29) (cwV 2 hts gX0_mayMake_X0_shifted rfl rfl rfl (by decide +kernel) ⟨Nat.le_of_ble_eq_true rfl, Nat.le_of_ble_eq_true rfl⟩) (preRV [.int p0, .int (v_1 * rd)] hP hK hS hA hST [0, 1, 2, 3, 4] rfl [0, 1, 2] rfl (ci := 1) (q0 := 0) rfl rfl) rfl rfl hl.1 rfl (lv_room (Nat.le_of_ble_eq_true rfl)) dX0_mayMake_38 ⟨Nat.zero_le _, Nat.zero_le _⟩) hP hS hA (fun H locs hP hS => ?_)
      refine lv_iload_n hx hb dX0_mayMake_41 rfl (lv_at hl 4 rfl) ?_
      obtain ⟨v_30, hv_30, hJ⟩ := j_b hJ
      refine ro_i (va_runV (As := [.int v_29, .int p1]) (rest := []) ⟨hx, hb, hml, hown, hts⟩ (c_X0_turned l D aC aKn aF aFu aFk cKn cFu cFk ln wd rd nKn kn w ht tn kp nFu fu nFk fk v_29 p1 tX tY H.size F v_30 hv_30) (cwV 2 hts gX0_mayMake_X0_turned rfl rfl rfl (by decide +kernel) ⟨Nat.le_of_ble_eq_true rfl, Nat.le_of_ble_eq_true rfl⟩) (preRV [.int v_29, .int p1] hP hK hS hA hST [0, 1, 2, 3, 4] rfl [0, 1, 2] rfl (ci := 1) (q0 := 0) rfl rfl) rfl rfl hl.1 rfl (lv_room (Nat.le_of_ble_eq_true rfl)) dX0_mayMake_42 ⟨Nat.zero_le _, Nat.zero_le _⟩) hP hS hA (fun H locs hP hS => ?_)
      refine lv_goto (tgt := 49) hx hb dX0_mayMake_45 (by decide) ?_
      refine lv_istore (lv' := [(5, .int v_30), (4, .int rd), (3, .int v_1), (0, .ref aC), (1, .int p0), (2, .int p1)]) hx hb dX0_mayMake_49 hl (by decide) rfl (fun ls hl => ?_)
      refine lv_iconst (v := 0) hx hb dX0_mayMake_51 (by decide) ?_
      refine lv_istore (lv' := [(6, .int (0 : Int32)), (5, .int v_30), (4, .int rd), (3, .int v_1), (0, .ref aC), (1, .int p0), (2, .int p1)]) hx hb dX0_mayMake_52 hl (by decide) rfl (fun ls hl => ?_)
      refine L_54 p0 v_1 rd v_30 _ ?_ F H locs (0 : Int32) kn ls hJ hP hD hS (lv_sub hl [4, 5, 3, 2, 1, 0] rfl)
      · intro H locs x6_31 xkn_32 ls hJ hP hD hS hl
        refine lv_iconst (v := 1) hx hb dX0_mayMake_102 (by decide) ?_
        have ho := Option.some.inj hJ
        exact W.zret (v := (1 : Int32)) hx hb hr rfl (fun t ht hW => ⟨⟨_, (), rfl, (by rw [← ho]), (by rw [ht, ← ho]; exact hP), (by rw [← ho]; exact hD)⟩, hS.F ht⟩) hS.2.2 dX0_mayMake_103
