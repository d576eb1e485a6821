set_option maxHeartbeats 4000000 in
set_option maxRecDepth 100000 in
theorem c_X2_costAt (l : Launch) (D : va_G) (aS aCo aQu aC aKn aF aFu aFk : Nat) (cCo cQu cKn cFu cFk : ClassId) (rch : Int32) (nCo : Nat) (co : Nat → Int64) (nQu : Nat) (qu : Nat → Int32) (ln : Int32) (wd : Int32) (rd : Int32) (nKn : Nat) (kn : Nat → Int32) (w : Int32) (ht : Int32) (tn : Int32) (kp : Int32) (nFu : Nat) (fu : Nat → Int32) (nFk : Nat) (fk : Nat → Int32) (p0 : Int32) (tX tY sz F : Nat) (o : Int64) (hJ : J_X2_costAt F nCo co p0 = some o) : Met l yX2_costAt wsX2_costAt rmX2_costAt (va_Pc [.ref aS, .int p0] (pcR D [(aS, .inr (3, [.ref aC, .ref aCo, .ref aQu, .int rch])), (aCo, .inl (cCo, nCo, .inr (.inl co))), (aQu, .inl (cQu, nQu, .inl qu)), (aC, .inr (1, [.ref aF, .ref aKn, .int ln, .int wd, .int rd])), (aKn, .inl (cKn, nKn, .inl kn)), (aF, .inr (2, [.int w, .int ht, .int tn, .ref aFu, .ref aFk, .int kp])), (aFu, .inl (cFu, nFu, .inl fu)), (aFk, .inl (cFk, nFk, .inl fk))] [(cCo, .long), (cQu, .int), (cKn, .int), (cFu, .boolean), (cFk, .int)] sz tX tY)) (qRl o (va_A [] sz)) 0 0 (va_A [] sz) := by
  refine Met.ofW (cc := cX2_costAt) (maxL := 2) (ret := (some .long)) (by decide) rfl ?_
  intro p e s m args below meth c s₁ B hml hv
  obtain ⟨rfl, hsz, hP, hK, hST⟩ := hv
  have hx := B.exec
  have hb := B.bytes
  have hr := B.returns
  have hts := atoms_spec (ws := wsX2_costAt) B.pre
  have hown : s.vm.findClass RX2 = some m.cls := findClass_of_methodNamed B.named
  have hlocks := B.notSynchronized
  subst hsz
  generalize hAe : va_A [] s.heap.size = A at hST ⊢
  have hA : ∀ q : Nat, s.heap.size ≤ q → A q := fun q h => by rw [← hAe]; exact Or.inr h
  have hS : va_S A s.heap s.heap [] := va_S.rf
  have hl := lv_entry ([.ref aS, .int p0]) (n := 2) (Nat.le_of_ble_eq_true rfl)
  rw [lg_entry_eq]
  generalize (lg_sl ([.ref aS, .int p0]) ++ List.replicate (2 - (lg_sl ([.ref aS, .int p0])).length) Slot.unset).toArray = ls at hl ⊢
  have hl : lv_has ls 2 [(0, .ref aS), (1, .int p0)] := hl
  have iX2 : ∀ w ∈ wsX20, w ∈ wsX2_costAt := fun w h => List.mem_cons_of_mem _ (List.mem_append_right _ h)
  have k_2 := hts (.constantLong RX2 23 (1152921504606846976)) (List.mem_of_getElem? (i := 2) rfl)
  have k_1 := hts (.fieldLink RX2 15 "ParkWays$Search" "cost" "[J") (List.mem_of_getElem? (i := 1) rfl)
  unfold J_X2_costAt at hJ
  refine lv_iload_n hx hb dX2_costAt_0 rfl (lv_at hl 1 rfl) ?_
  refine lv_if_lt (tgt := 22) hx hb dX2_costAt_1 (by decide) (fun c_1 => ?_) (fun c_1 => ?_)
  · have hJ := j_t c_1 hJ
    refine lv_ldc2 (v := 1152921504606846976) hx hb hown k_2 dX2_costAt_22 ?_
    have ho := Option.some.inj hJ
    exact W.lret (v := (1152921504606846976 : Int64)) hx hb hr (fun t ht hW => ⟨⟨_, (), rfl, ho, trivial⟩, hS.F ht⟩) hS.2.2 dX2_costAt_25
  · have hJ := j_f c_1 hJ
    refine lv_iload_n hx hb dX2_costAt_4 rfl (lv_at hl 1 rfl) ?_
    refine lv_aload_n hx hb dX2_costAt_5 rfl (lv_at hl 0 rfl) ?_
    refine va_get (D := D) (ci := 3) (v := .ref aCo) (C := RX2) (T := TX2) (N := 4) hx hb hts iX2 hown hK hP 0 rfl rfl 1 (by decide) k_1 (fun _ h9 => h9) rfl dX2_costAt_6 ?_
    refine va_alen hx hb hK hP 1 0 rfl rfl (v := nI nCo) rfl dX2_costAt_9 ?_
    refine lv_icmp_ge (tgt := 22) hx hb dX2_costAt_10 (by decide) (fun c_2 => ?_) (fun c_2 => ?_)
    · have hJ := j_t c_2 hJ
      refine lv_ldc2 (v := 1152921504606846976) hx hb hown k_2 dX2_costAt_22 ?_
      have ho := Option.some.inj hJ
      exact W.lret (v := (1152921504606846976 : Int64)) hx hb hr (fun t ht hW => ⟨⟨_, (), rfl, ho, trivial⟩, hS.F ht⟩) hS.2.2 dX2_costAt_25
    · have hJ := j_f c_2 hJ
      refine lv_aload_n hx hb dX2_costAt_13 rfl (lv_at hl 0 rfl) ?_
      refine va_get (D := D) (ci := 3) (v := .ref aCo) (C := RX2) (T := TX2) (N := 4) hx hb hts iX2 hown hK hP 0 rfl rfl 1 (by decide) k_1 (fun _ h9 => h9) rfl dX2_costAt_14 ?_
      refine lv_iload_n hx hb dX2_costAt_17 rfl (lv_at hl 1 rfl) ?_
      obtain ⟨h_3, hJ⟩ := g_in hJ
      refine va_lald hx hb hK hP 1 0 rfl rfl h_3 dX2_costAt_18 ?_
      refine lv_goto (tgt := 25) hx hb dX2_costAt_19 (by decide) ?_
      have ho := Option.some.inj hJ
      exact W.lret (v := (co p0.toNatClampNeg)) hx hb hr (fun t ht hW => ⟨⟨_, (), rfl, ho, trivial⟩, hS.F ht⟩) hS.2.2 dX2_costAt_25
set_option maxHeartbeats 4000000 in
set_option maxRecDepth 100000 in
theorem c_X2_costOf (l : Launch) (D : va_G) (aS aCo aQu aC aKn aF aFu aFk : Nat) (cCo cQu cKn cFu cFk : ClassId) (rch : Int32) (nCo : Nat) (co : Nat → Int64) (nQu : Nat) (qu : Nat → Int32) (ln : Int32) (wd : Int32) (rd : Int32) (nKn : Nat) (kn : Nat → Int32) (w : Int32) (ht : Int32) (tn : Int32) (kp : Int32) (nFu : Nat) (fu : Nat → Int32) (nFk : Nat) (fk : Nat → Int32) (p0 : Int32) (tX tY sz F : Nat) (o : Int64) (hJ : J_X2_costOf F rd p0 = some o) : Met l yX2_costOf wsX2_costOf rmX2_costOf (va_Pc [.ref aS, .int p0] (pcR D [(aS, .inr (3, [.ref aC, .ref aCo, .ref aQu, .int rch])), (aCo, .inl (cCo, nCo, .inr (.inl co))), (aQu, .inl (cQu, nQu, .inl qu)), (aC, .inr (1, [.ref aF, .ref aKn, .int ln, .int wd, .int rd])), (aKn, .inl (cKn, nKn, .inl kn)), (aF, .inr (2, [.int w, .int ht, .int tn, .ref aFu, .ref aFk, .int kp])), (aFu, .inl (cFu, nFu, .inl fu)), (aFk, .inl (cFk, nFk, .inl fk))] [(cCo, .long), (cQu, .int), (cKn, .int), (cFu, .boolean), (cFk, .int)] sz tX tY)) (qRl o (va_A [] sz)) 0 0 (va_A [] sz) := by
  refine Met.ofW (cc := cX2_costOf) (maxL := 2) (ret := (some .long)) (by decide) rfl ?_
  intro p e s m args below meth c s₁ B hml hv
  obtain ⟨rfl, hsz, hP, hK, hST⟩ := hv
  have hx := B.exec
  have hb := B.bytes
  have hr := B.returns
  have hts := atoms_spec (ws := wsX2_costOf) B.pre
  have hown : s.vm.findClass RX2 = some m.cls := findClass_of_methodNamed B.named
  have hlocks := B.notSynchronized
  subst hsz
  generalize hAe : va_A [] s.heap.size = A at hST ⊢
  have hA : ∀ q : Nat, s.heap.size ≤ q → A q := fun q h => by rw [← hAe]; exact Or.inr h
  have hS : va_S A s.heap s.heap [] := va_S.rf
  have hl := lv_entry ([.ref aS, .int p0]) (n := 2) (Nat.le_of_ble_eq_true rfl)
  rw [lg_entry_eq]
  generalize (lg_sl ([.ref aS, .int p0]) ++ List.replicate (2 - (lg_sl ([.ref aS, .int p0])).length) Slot.unset).toArray = ls at hl ⊢
  have hl : lv_has ls 2 [(0, .ref aS), (1, .int p0)] := hl
  have iX2 : ∀ w ∈ wsX20, w ∈ wsX2_costOf := fun w h => List.mem_cons_of_mem _ (List.mem_append_left _ (List.mem_append_right _ h))
  have k_1 := hts (.constantLong RX2 60 (1099511627776)) (List.mem_of_getElem? (i := 1) rfl)
  have k_2 := hts (.fieldLink RX2 9 "ParkWays$Search" "car" "LParkWays$Car;") (List.mem_of_getElem? (i := 2) rfl)
  have k_3 := hts (.constantLong RX2 66 (1048576)) (List.mem_of_getElem? (i := 3) rfl)
  unfold J_X2_costOf at hJ
  refine lv_ldc2 (v := 1099511627776) hx hb hown k_1 dX2_costOf_0 ?_
  refine lv_aload_n hx hb dX2_costOf_3 rfl (lv_at hl 0 rfl) ?_
  refine va_get (D := D) (ci := 3) (v := .ref aC) (C := RX2) (T := TX2) (N := 4) hx hb hts iX2 hown hK hP 0 rfl rfl 0 (by decide) k_2 (fun _ h9 => h9) rfl dX2_costOf_4 ?_
  refine lv_iload_n hx hb dX2_costOf_7 rfl (lv_at hl 1 rfl) ?_
  obtain ⟨v_1, hv_1, hJ⟩ := j_b hJ
  refine ro_i (va_runV (As := [.int p0]) (rest := [.long (1099511627776 : Int64)]) ⟨hx, hb, hml, hown, hts⟩ (c_X0_lengthOf l D aC aKn aF aFu aFk cKn cFu cFk ln wd rd nKn kn w ht tn kp nFu fu nFk fk p0 tX tY s.heap.size F v_1 hv_1) (cwV 1 hts gX2_costOf_X0_lengthOf rfl rfl rfl (by decide +kernel) ⟨Nat.le_of_ble_eq_true rfl, Nat.le_of_ble_eq_true rfl⟩) (preRV [.int p0] hP hK hS hA hST [3, 4, 5, 6, 7] rfl [2, 3, 4] rfl (ci := 1) (q0 := 3) rfl rfl) rfl rfl hl.1 rfl (lv_room (Nat.le_of_ble_eq_true rfl)) dX2_costOf_8 ⟨Nat.zero_le _, Nat.zero_le _⟩) hP hS hA (fun H locs hP hS => ?_)
  refine lv_i2l hx hb dX2_costOf_11 rfl ?_
  refine lv_ldc2 (v := 1048576) hx hb hown k_3 dX2_costOf_12 ?_
  refine lv_lmul hx hb dX2_costOf_15 ?_
  refine lv_ladd hx hb dX2_costOf_16 ?_
  refine lv_iload_n hx hb dX2_costOf_17 rfl (lv_at hl 1 rfl) ?_
  obtain ⟨v_2, hv_2, hJ⟩ := j_b hJ
  refine ro_i (va_runS (As := [.int p0]) (rest := [.long ((1099511627776 : Int64) + (v_1.toInt64 * (1048576 : Int64)))]) ⟨hx, hb, hml, hown, hts⟩ (c_X0_isArc l D p0 tX tY H.size F v_2 hv_2) (va_cwS 1 hts gX2_costOf_X0_isArc rfl rfl rfl (by decide +kernel) ⟨Nat.le_of_ble_eq_true rfl, Nat.le_of_ble_eq_true rfl⟩) (preRS [.int p0] hP hK hS hA hST [] rfl [] rfl) rfl rfl hl.1 rfl (lv_room (Nat.le_of_ble_eq_true rfl)) dX2_costOf_18 ⟨Nat.zero_le _, Nat.zero_le _⟩) hP hS hA (fun H locs hP hS => ?_)
  refine lv_if_eq (tgt := 28) hx hb dX2_costOf_21 (by decide) (fun c_3 => ?_) (fun c_3 => ?_)
  · have hJ := j_t c_3 hJ
    refine lv_lconst (v := 0) hx hb dX2_costOf_28 (by decide) ?_
    refine lv_ladd hx hb dX2_costOf_29 ?_
    have ho := Option.some.inj hJ
    exact W.lret (v := (((1099511627776 : Int64) + (v_1.toInt64 * (1048576 : Int64))) + (0 : Int64))) hx hb hr (fun t ht hW => ⟨⟨_, (), rfl, ho, trivial⟩, hS.F ht⟩) hS.2.2 dX2_costOf_30
  · have hJ := j_f c_3 hJ
    refine lv_lconst (v := 1) hx hb dX2_costOf_24 (by decide) ?_
    refine lv_goto (tgt := 29) hx hb dX2_costOf_25 (by decide) ?_
    refine lv_ladd hx hb dX2_costOf_29 ?_
    have ho := Option.some.inj hJ
    exact W.lret (v := (((1099511627776 : Int64) + (v_1.toInt64 * (1048576 : Int64))) + (1 : Int64))) hx hb hr (fun t ht hW => ⟨⟨_, (), rfl, ho, trivial⟩, hS.F ht⟩) hS.2.2 dX2_costOf_30
set_option maxHeartbeats 4000000 in
set_option maxRecDepth 100000 in
theorem c_X2_hasReached (l : Launch) (D : va_G) (aS aCo aQu aC aKn aF aFu aFk : Nat) (cCo cQu cKn cFu cFk : ClassId) (rch : Int32) (nCo : Nat) (co : Nat → Int64) (nQu : Nat) (qu : Nat → Int32) (ln : Int32) (wd : Int32) (rd : Int32) (nKn : Nat) (kn : Nat → Int32) (w : Int32) (ht : Int32) (tn : Int32) (kp : Int32) (nFu : Nat) (fu : Nat → Int32) (nFk : Nat) (fk : Nat → Int32) (p0 : Int32) (tX tY sz F : Nat) (o : Int32) (hJ : J_X2_hasReached F nCo co p0 = some o) : Met l yX2_hasReached wsX2_hasReached rmX2_hasReached (va_Pc [.ref aS, .int p0] (pcR D [(aS, .inr (3, [.ref aC, .ref aCo, .ref aQu, .int rch])), (aCo, .inl (cCo, nCo, .inr (.inl co))), (aQu, .inl (cQu, nQu, .inl qu)), (aC, .inr (1, [.ref aF, .ref aKn, .int ln, .int wd, .int rd])), (aKn, .inl (cKn, nKn, .inl kn)), (aF, .inr (2, [.int w, .int ht, .int tn, .ref aFu, .ref aFk, .int kp])), (aFu, .inl (cFu, nFu, .inl fu)), (aFk, .inl (cFk, nFk, .inl fk))] [(cCo, .long), (cQu, .int), (cKn, .int), (cFu, .boolean), (cFk, .int)] sz tX tY)) (qRi o (va_A [] sz)) 0 0 (va_A [] sz) := by
  refine Met.ofW (cc := cX2_hasReached) (maxL := 2) (ret := (some .boolean)) (by decide) rfl ?_
  intro p e s m args below meth c s₁ B hml hv
  obtain ⟨rfl, hsz, hP, hK, hST⟩ := hv
  have hx := B.exec
  have hb := B.bytes
  have hr := B.returns
  have hts := atoms_spec (ws := wsX2_hasReached) B.pre
  have hown : s.vm.findClass RX2 = some m.cls := findClass_of_methodNamed B.named
  have hlocks := B.notSynchronized
  subst hsz
  generalize hAe : va_A [] s.heap.size = A at hST ⊢
  have hA : ∀ q : Nat, s.heap.size ≤ q → A q := fun q h => by rw [← hAe]; exact Or.inr h
  have hS : va_S A s.heap s.heap [] := va_S.rf
  have hl := lv_entry ([.ref aS, .int p0]) (n := 2) (Nat.le_of_ble_eq_true rfl)
  rw [lg_entry_eq]
  generalize (lg_sl ([.ref aS, .int p0]) ++ List.replicate (2 - (lg_sl ([.ref aS, .int p0])).length) Slot.unset).toArray = ls at hl ⊢
  have hl : lv_has ls 2 [(0, .ref aS), (1, .int p0)] := hl
  have k_1 := hts (.constantLong RX2 23 (1152921504606846976)) (List.mem_of_getElem? (i := 1) rfl)
  unfold J_X2_hasReached at hJ
  refine lv_aload_n hx hb dX2_hasReached_0 rfl (lv_at hl 0 rfl) ?_
  refine lv_iload_n hx hb dX2_hasReached_1 rfl (lv_at hl 1 rfl) ?_
  obtain ⟨v_1, hv_1, hJ⟩ := j_b hJ
  refine ro_l (va_runV (As := [.int p0]) (rest := []) ⟨hx, hb, hml, hown, hts⟩ (c_X2_costAt l D aS aCo aQu aC aKn aF aFu aFk cCo cQu cKn cFu cFk rch nCo co nQu qu ln wd rd nKn kn w ht tn kp nFu fu nFk fk p0 tX tY s.heap.size F v_1 hv_1) (cwV 1 hts gX2_hasReached_X2_costAt rfl rfl rfl (by decide +kernel) ⟨Nat.le_of_ble_eq_true rfl, Nat.le_of_ble_eq_true rfl⟩) (preRV [.int p0] hP hK hS hA hST [0, 1, 2, 3, 4, 5, 6, 7] rfl [0, 1, 2, 3, 4] rfl (ci := 3) (q0 := 0) rfl rfl) rfl rfl hl.1 rfl (lv_room (Nat.le_of_ble_eq_true rfl)) dX2_hasReached_2 ⟨Nat.zero_le _, Nat.zero_le _⟩) hP hS hA (fun H locs hP hS => ?_)
  refine lv_ldc2 (v := 1152921504606846976) hx hb hown k_1 dX2_hasReached_5 ?_
  refine W.lcmp hx hb dX2_hasReached_8 ?_
  refine lv_if_ge (tgt := 16) hx hb dX2_hasReached_9 (by decide) (fun c_2 => ?_) (fun c_2 => ?_)
  · have hJ := j_t c_2 hJ
    refine lv_iconst (v := 0) hx hb dX2_hasReached_16 (by decide) ?_
    have ho := Option.some.inj hJ
    exact W.zret (v := (0 : Int32)) hx hb hr rfl (fun t ht hW => ⟨⟨_, (), rfl, ho, trivial⟩, hS.F ht⟩) hS.2.2 dX2_hasReached_17
  · have hJ := j_f c_2 hJ
    refine lv_iconst (v := 1) hx hb dX2_hasReached_12 (by decide) ?_
    refine lv_goto (tgt := 17) hx hb dX2_hasReached_13 (by decide) ?_
    have ho := Option.some.inj hJ
    exact W.zret (v := (1 : Int32)) hx hb hr rfl (fun t ht hW => ⟨⟨_, (), rfl, ho, trivial⟩, hS.F ht⟩) hS.2.2 dX2_hasReached_17
set_option maxHeartbeats 4000000 in
set_option maxRecDepth 100000 in
theorem c_X2_reach (l : Launch) (D : va_G) (aS aCo aQu aC aKn aF aFu aFk : Nat) (cCo cQu cKn cFu cFk : ClassId) (rch : Int32) (nCo : Nat) (co : Nat → Int64) (nQu : Nat) (qu : Nat → Int32) (ln : Int32) (wd : Int32) (rd : Int32) (nKn : Nat) (kn : Nat → Int32) (w : Int32) (ht : Int32) (tn : Int32) (kp : Int32) (nFu : Nat) (fu : Nat → Int32) (nFk : Nat) (fk : Nat → Int32) (p0 : Int32) (p1 : Int64) (tX tY sz F : Nat) (o : Int32 × (Nat → Int64) × (Nat → Int32)) (hJ : J_X2_reach F rch nCo co nQu qu p0 p1 = some o) : Met l yX2_reach wsX2_reach rmX2_reach (va_Pc [.ref aS, .int p0, .long p1] (pcW D [(aS, .inr (3, [.ref aC, .ref aCo, .ref aQu, .int rch])), (aCo, .inl (cCo, nCo, .inr (.inl co))), (aQu, .inl (cQu, nQu, .inl qu)), (aC, .inr (1, [.ref aF, .ref aKn, .int ln, .int wd, .int rd])), (aKn, .inl (cKn, nKn, .inl kn)), (aF, .inr (2, [.int w, .int ht, .int tn, .ref aFu, .ref aFk, .int kp])), (aFu, .inl (cFu, nFu, .inl fu)), (aFk, .inl (cFk, nFk, .inl fk))] [(cCo, .long), (cQu, .int), (cKn, .int), (cFu, .boolean), (cFk, .int)] sz tX tY)) (qWv D [(aS, .inr (3, [.ref aC, .ref aCo, .ref aQu, .int o.1])), (aCo, .inl (cCo, nCo, .inr (.inl o.2.1))), (aQu, .inl (cQu, nQu, .inl o.2.2)), (aC, .inr (1, [.ref aF, .ref aKn, .int ln, .int wd, .int rd])), (aKn, .inl (cKn, nKn, .inl kn)), (aF, .inr (2, [.int w, .int ht, .int tn, .ref aFu, .ref aFk, .int kp])), (aFu, .inl (cFu, nFu, .inl fu)), (aFk, .inl (cFk, nFk, .inl fk))] (va_A [(aS, .inr (3, [.ref aC, .ref aCo, .ref aQu, .int rch])), (aCo, .inl (cCo, nCo, .inr (.inl co))), (aQu, .inl (cQu, nQu, .inl qu)), (aC, .inr (1, [.ref aF, .ref aKn, .int ln, .int wd, .int rd])), (aKn, .inl (cKn, nKn, .inl kn)), (aF, .inr (2, [.int w, .int ht, .int tn, .ref aFu, .ref aFk, .int kp])), (aFu, .inl (cFu, nFu, .inl fu)), (aFk, .inl (cFk, nFk, .inl fk))] sz)) 0 0 (va_A [(aS, .inr (3, [.ref aC, .ref aCo, .ref aQu, .int rch])), (aCo, .inl (cCo, nCo, .inr (.inl co))), (aQu, .inl (cQu, nQu, .inl qu)), (aC, .inr (1, [.ref aF, .ref aKn, .int ln, .int wd, .int rd])), (aKn, .inl (cKn, nKn, .inl kn)), (aF, .inr (2, [.int w, .int ht, .int tn, .ref aFu, .ref aFk, .int kp])), (aFu, .inl (cFu, nFu, .inl fu)), (aFk, .inl (cFk, nFk, .inl fk))] sz) := by
  refine Met.ofW (cc := cX2_reach) (maxL := 4) (ret := none) (by decide) rfl ?_
  intro p e s m args below meth c s₁ B hml hv
  obtain ⟨rfl, hsz, hP, hK, hD0, hST⟩ := hv
  have hx := B.exec
  have hb := B.bytes
  have hr := B.returns
  have hts := atoms_spec (ws := wsX2_reach) B.pre
  have hown : s.vm.findClass RX2 = some m.cls := findClass_of_methodNamed B.named
  have hlocks := B.notSynchronized
  subst hsz
  have hD := hD0.self (sz := s.heap.size)
  generalize hAe : va_A [(aS, .inr (3, [.ref aC, .ref aCo, .ref aQu, .int rch])), (aCo, .inl (cCo, nCo, .inr (.inl co))), (aQu, .inl (cQu, nQu, .inl qu)), (aC, .inr (1, [.ref aF, .ref aKn, .int ln, .int wd, .int rd])), (aKn, .inl (cKn, nKn, .inl kn)), (aF, .inr (2, [.int w, .int ht, .int tn, .ref aFu, .ref aFk, .int kp])), (aFu, .inl (cFu, nFu, .inl fu)), (aFk, .inl (cFk, nFk, .inl fk))] s.heap.size = A at hD hST ⊢
  have hA : ∀ q : Nat, s.heap.size ≤ q → A q := fun q h => by rw [← hAe]; exact Or.inr h
  have hS : va_S A s.heap s.heap [] := va_S.rf
  have hl := lv_entry ([.ref aS, .int p0, .long p1]) (n := 4) (Nat.le_of_ble_eq_true rfl)
  rw [lg_entry_eq]
  generalize (lg_sl ([.ref aS, .int p0, .long p1]) ++ List.replicate (4 - (lg_sl ([.ref aS, .int p0, .long p1])).length) Slot.unset).toArray = ls at hl ⊢
  have hl : lv_has ls 4 [(0, .ref aS), (1, .int p0), (2, .long p1)] := hl
  have iX2 : ∀ w ∈ wsX20, w ∈ wsX2_reach := fun w h => List.mem_cons_of_mem _ (List.mem_append_right _ h)
  have k_1 := hts (.fieldLink RX2 15 "ParkWays$Search" "cost" "[J") (List.mem_of_getElem? (i := 1) rfl)
  have k_2 := hts (.constantLong RX2 23 (1152921504606846976)) (List.mem_of_getElem? (i := 2) rfl)
  have k_3 := hts (.fieldLink RX2 31 "ParkWays$Search" "reached" "I") (List.mem_of_getElem? (i := 3) rfl)
  have k_4 := hts (.fieldLink RX2 19 "ParkWays$Search" "queue" "[I") (List.mem_of_getElem? (i := 4) rfl)
  unfold J_X2_reach at hJ
  refine lv_iload_n hx hb dX2_reach_0 rfl (lv_at hl 1 rfl) ?_
  refine lv_if_lt (tgt := 13) hx hb dX2_reach_1 (by decide) (fun c_1 => ?_) (fun c_1 => ?_)
  · have hJ := j_t c_1 hJ
    have ho := Option.some.inj hJ
    exact W.vret hx hb hr (fun t ht hW => ⟨⟨(), rfl, trivial, (by rw [ht, ← ho]; exact hP), (by rw [← ho]; exact hD)⟩, hS.F ht⟩) hS.2.2 dX2_reach_13
  · have hJ := j_f c_1 hJ
    refine lv_iload_n hx hb dX2_reach_4 rfl (lv_at hl 1 rfl) ?_
    refine lv_aload_n hx hb dX2_reach_5 rfl (lv_at hl 0 rfl) ?_
    refine va_get (D := D) (ci := 3) (v := .ref aCo) (C := RX2) (T := TX2) (N := 4) hx hb hts iX2 hown hK hP 0 rfl rfl 1 (by decide) k_1 (fun _ h9 => h9) rfl dX2_reach_6 ?_
    refine va_alen hx hb hK hP 1 0 rfl rfl (v := nI nCo) rfl dX2_reach_9 ?_
    refine lv_icmp_lt (tgt := 14) hx hb dX2_reach_10 (by decide) (fun c_2 => ?_) (fun c_2 => ?_)
    · have hJ := j_t c_2 hJ
      refine lv_aload_n hx hb dX2_reach_14 rfl (lv_at hl 0 rfl) ?_
      refine va_get (D := D) (ci := 3) (v := .ref aCo) (C := RX2) (T := TX2) (N := 4) hx hb hts iX2 hown hK hP 0 rfl rfl 1 (by decide) k_1 (fun _ h9 => h9) rfl dX2_reach_15 ?_
      refine lv_iload_n hx hb dX2_reach_18 rfl (lv_at hl 1 rfl) ?_
      obtain ⟨h_3, hJ⟩ := g_in hJ
      refine va_lald hx hb hK hP 1 0 rfl rfl h_3 dX2_reach_19 ?_
      refine lv_ldc2 (v := 1152921504606846976) hx hb hown k_2 dX2_reach_20 ?_
      refine W.lcmp hx hb dX2_reach_23 ?_
      refine lv_if_ne (tgt := 59) hx hb dX2_reach_24 (by decide) (fun c_4 => ?_) (fun c_4 => ?_)
      · have hJ := j_f c_4 hJ
        refine lv_aload_n hx hb dX2_reach_59 rfl (lv_at hl 0 rfl) ?_
        refine va_get (D := D) (ci := 3) (v := .ref aCo) (C := RX2) (T := TX2) (N := 4) hx hb hts iX2 hown hK hP 0 rfl rfl 1 (by decide) k_1 (fun _ h9 => h9) rfl dX2_reach_60 ?_
        refine lv_iload_n hx hb dX2_reach_63 rfl (lv_at hl 1 rfl) ?_
        refine lv_lload_n hx hb dX2_reach_64 rfl (lv_at hl 2 rfl) ?_
        obtain ⟨h_5, hJ⟩ := g_in hJ
        refine va_last hx hb hK hP hD hS 1 0 rfl rfl h_5 dX2_reach_65 (fun H locs hP hD hS => ?_)
        have hP : va_P D vwCl [(aS, .inr (3, [.ref aC, .ref aCo, .ref aQu, .int rch])), (aCo, .inl (cCo, nCo, .inr (.inl (vp_updL co p0.toNatClampNeg p1)))), (aQu, .inl (cQu, nQu, .inl qu)), (aC, .inr (1, [.ref aF, .ref aKn, .int ln, .int wd, .int rd])), (aKn, .inl (cKn, nKn, .inl kn)), (aF, .inr (2, [.int w, .int ht, .int tn, .ref aFu, .ref aFk, .int kp])), (aFu, .inl (cFu, nFu, .inl fu)), (aFk, .inl (cFk, nFk, .inl fk))] H := hP
        have hD : va_D A [(aS, .inr (3, [.ref aC, .ref aCo, .ref aQu, .int rch])), (aCo, .inl (cCo, nCo, .inr (.inl (vp_updL co p0.toNatClampNeg p1)))), (aQu, .inl (cQu, nQu, .inl qu)), (aC, .inr (1, [.ref aF, .ref aKn, .int ln, .int wd, .int rd])), (aKn, .inl (cKn, nKn, .inl kn)), (aF, .inr (2, [.int w, .int ht, .int tn, .ref aFu, .ref aFk, .int kp])), (aFu, .inl (cFu, nFu, .inl fu)), (aFk, .inl (cFk, nFk, .inl fk))] := hD
        have ho := Option.some.inj hJ
        exact W.vret hx hb hr (fun t ht hW => ⟨⟨(), rfl, trivial, (by rw [ht, ← ho]; exact hP), (by rw [← ho]; exact hD)⟩, hS.F ht⟩) hS.2.2 dX2_reach_66
      · have hJ := j_t c_4 hJ
        refine lv_aload_n hx hb dX2_reach_27 rfl (lv_at hl 0 rfl) ?_
        refine va_get (D := D) (ci := 3) (v := .int rch) (C := RX2) (T := TX2) (N := 4) hx hb hts iX2 hown hK hP 0 rfl rfl 3 (by decide) k_3 (fun _ h9 => h9) rfl dX2_reach_28 ?_
        refine lv_aload_n hx hb dX2_reach_31 rfl (lv_at hl 0 rfl) ?_
        refine va_get (D := D) (ci := 3) (v := .ref aQu) (C := RX2) (T := TX2) (N := 4) hx hb hts iX2 hown hK hP 0 rfl rfl 2 (by decide) k_4 (fun _ h9 => h9) rfl dX2_reach_32 ?_
        refine va_alen hx hb hK hP 2 1 rfl rfl (v := nI nQu) rfl dX2_reach_35 ?_
        refine lv_icmp_ge (tgt := 59) hx hb dX2_reach_36 (by decide) (fun c_6 => ?_) (fun c_6 => ?_)
        · have hJ := j_t c_6 hJ
          refine lv_aload_n hx hb dX2_reach_59 rfl (lv_at hl 0 rfl) ?_
          refine va_get (D := D) (ci := 3) (v := .ref aCo) (C := RX2) (T := TX2) (N := 4) hx hb hts iX2 hown hK hP 0 rfl rfl 1 (by decide) k_1 (fun _ h9 => h9) rfl dX2_reach_60 ?_
          refine lv_iload_n hx hb dX2_reach_63 rfl (lv_at hl 1 rfl) ?_
          refine lv_lload_n hx hb dX2_reach_64 rfl (lv_at hl 2 rfl) ?_
          obtain ⟨h_7, hJ⟩ := g_in hJ
          refine va_last hx hb hK hP hD hS 1 0 rfl rfl h_7 dX2_reach_65 (fun H locs hP hD hS => ?_)
          have hP : va_P D vwCl [(aS, .inr (3, [.ref aC, .ref aCo, .ref aQu, .int rch])), (aCo, .inl (cCo, nCo, .inr (.inl (vp_updL co p0.toNatClampNeg p1)))), (aQu, .inl (cQu, nQu, .inl qu)), (aC, .inr (1, [.ref aF, .ref aKn, .int ln, .int wd, .int rd])), (aKn, .inl (cKn, nKn, .inl kn)), (aF, .inr (2, [.int w, .int ht, .int tn, .ref aFu, .ref aFk, .int kp])), (aFu, .inl (cFu, nFu, .inl fu)), (aFk, .inl (cFk, nFk, .inl fk))] H := hP
          have hD : va_D A [(aS, .inr (3, [.ref aC, .ref aCo, .ref aQu, .int rch])), (aCo, .inl (cCo, nCo, .inr (.inl (vp_updL co p0.toNatClampNeg p1)))), (aQu, .inl (cQu, nQu, .inl qu)), (aC, .inr (1, [.ref aF, .ref aKn, .int ln, .int wd, .int rd])), (aKn, .inl (cKn, nKn, .inl kn)), (aF, .inr (2, [.int w, .int ht, .int tn, .ref aFu, .ref aFk, .int kp])), (aFu, .inl (cFu, nFu, .inl fu)), (aFk, .inl (cFk, nFk, .inl fk))] := hD
          have ho := Option.some.inj hJ
          exact W.vret hx hb hr (fun t ht hW => ⟨⟨(), rfl, trivial, (by rw [ht, ← ho]; exact hP), (by rw [← ho]; exact hD)⟩, hS.F ht⟩) hS.2.2 dX2_reach_66
        · have hJ := j_f c_6 hJ
          refine lv_aload_n hx hb dX2_reach_39 rfl (lv_at hl 0 rfl) ?_
          refine va_get (D := D) (ci := 3) (v := .ref aQu) (C := RX2) (T := TX2) (N := 4) hx hb hts iX2 hown hK hP 0 rfl rfl 2 (by decide) k_4 (fun _ h9 => h9) rfl dX2_reach_40 ?_
          refine lv_aload_n hx hb dX2_reach_43 rfl (lv_at hl 0 rfl) ?_
          refine va_get (D := D) (ci := 3) (v := .int rch) (C := RX2) (T := TX2) (N := 4) hx hb hts iX2 hown hK hP 0 rfl rfl 3 (by decide) k_3 (fun _ h9 => h9) rfl dX2_reach_44 ?_
          refine lv_iload_n hx hb dX2_reach_47 rfl (lv_at hl 1 rfl) ?_
          obtain ⟨h_8, hJ⟩ := g_in hJ
          refine va_iast hx hb hK hP hD hS 2 1 rfl rfl h_8 dX2_reach_48 (fun H locs hP hD hS => ?_)
          have hP : va_P D vwCl [(aS, .inr (3, [.ref aC, .ref aCo, .ref aQu, .int rch])), (aCo, .inl (cCo, nCo, .inr (.inl co))), (aQu, .inl (cQu, nQu, .inl (upd qu rch.toNatClampNeg p0))), (aC, .inr (1, [.ref aF, .ref aKn, .int ln, .int wd, .int rd])), (aKn, .inl (cKn, nKn, .inl kn)), (aF, .inr (2, [.int w, .int ht, .int tn, .ref aFu, .ref aFk, .int kp])), (aFu, .inl (cFu, nFu, .inl fu)), (aFk, .inl (cFk, nFk, .inl fk))] H := hP
          have hD : va_D A [(aS, .inr (3, [.ref aC, .ref aCo, .ref aQu, .int rch])), (aCo, .inl (cCo, nCo, .inr (.inl co))), (aQu, .inl (cQu, nQu, .inl (upd qu rch.toNatClampNeg p0))), (aC, .inr (1, [.ref aF, .ref aKn, .int ln, .int wd, .int rd])), (aKn, .inl (cKn, nKn, .inl kn)), (aF, .inr (2, [.int w, .int ht, .int tn, .ref aFu, .ref aFk, .int kp])), (aFu, .inl (cFu, nFu, .inl fu)), (aFk, .inl (cFk, nFk, .inl fk))] := hD
          refine lv_aload_n hx hb dX2_reach_49 rfl (lv_at hl 0 rfl) ?_
          refine lv_dup hx hb dX2_reach_50 rfl ?_
          refine va_get (D := D) (ci := 3) (v := .int rch) (C := RX2) (T := TX2) (N := 4) hx hb hts iX2 hown hK hP 0 rfl rfl 3 (by decide) k_3 (fun _ h9 => h9) rfl dX2_reach_51 ?_
          refine lv_iconst (v := 1) hx hb dX2_reach_54 (by decide) ?_
          refine lv_iadd hx hb dX2_reach_55 ?_
          refine va_put (D := D) (ci := 3) (v := .int (rch + (1 : Int32))) (ty := .int) (C := RX2) (T := TX2) (N := 4) hx hb hts iX2 tyX2 tyX2_ok nmX2 hown hK hP hD hS 0 rfl rfl 3 (by decide) k_3 (fun _ h9 => h9) rfl (by decide +kernel) rfl rfl (Nat.le_of_ble_eq_true rfl) dX2_reach_56 (fun H locs hP hD hS => ?_)
          have hP : va_P D vwCl [(aS, .inr (3, [.ref aC, .ref aCo, .ref aQu, .int (rch + (1 : Int32))])), (aCo, .inl (cCo, nCo, .inr (.inl co))), (aQu, .inl (cQu, nQu, .inl (upd qu rch.toNatClampNeg p0))), (aC, .inr (1, [.ref aF, .ref aKn, .int ln, .int wd, .int rd])), (aKn, .inl (cKn, nKn, .inl kn)), (aF, .inr (2, [.int w, .int ht, .int tn, .ref aFu, .ref aFk, .int kp])), (aFu, .inl (cFu, nFu, .inl fu)), (aFk, .inl (cFk, nFk, .inl fk))] H := hP
          have hD : va_D A [(aS, .inr (3, [.ref aC, .ref aCo, .ref aQu, .int (rch + (1 : Int32))])), (aCo, .inl (cCo, nCo, .inr (.inl co))), (aQu, .inl (cQu, nQu, .inl (upd qu rch.toNatClampNeg p0))), (aC, .inr (1, [.ref aF, .ref aKn, .int ln, .int wd, .int rd])), (aKn, .inl (cKn, nKn, .inl kn)), (aF, .inr (2, [.int w, .int ht, .int tn, .ref aFu, .ref aFk, .int kp])), (aFu, .inl (cFu, nFu, .inl fu)), (aFk, .inl (cFk, nFk, .inl fk))] := hD
          refine lv_aload_n hx hb dX2_reach_59 rfl (lv_at hl 0 rfl) ?_
          refine va_get (D := D) (ci := 3) (v := .ref aCo) (C := RX2) (T := TX2) (N := 4) hx hb hts iX2 hown hK hP 0 rfl rfl 1 (by decide) k_1 (fun _ h9 => h9) rfl dX2_reach_60 ?_
          refine lv_iload_n hx hb dX2_reach_63 rfl (lv_at hl 1 rfl) ?_
          refine lv_lload_n hx hb dX2_reach_64 rfl (lv_at hl 2 rfl) ?_
          obtain ⟨h_9, hJ⟩ := g_in hJ
          refine va_last hx hb hK hP hD hS 1 0 rfl rfl h_9 dX2_reach_65 (fun H locs hP hD hS => ?_)
          have hP : va_P D vwCl [(aS, .inr (3, [.ref aC, .ref aCo, .ref aQu, .int (rch + (1 : Int32))])), (aCo, .inl (cCo, nCo, .inr (.inl (vp_updL co p0.toNatClampNeg p1)))), (aQu, .inl (cQu, nQu, .inl (upd qu rch.toNatClampNeg p0))), (aC, .inr (1, [.ref aF, .ref aKn, .int ln, .int wd, .int rd])), (aKn, .inl (cKn, nKn, .inl kn)), (aF, .inr (2, [.int w, .int ht, .int tn, .ref aFu, .ref aFk, .int kp])), (aFu, .inl (cFu, nFu, .inl fu)), (aFk, .inl (cFk, nFk, .inl fk))] H := hP
          have hD : va_D A [(aS, .inr (3, [.ref aC, .ref aCo, .ref aQu, .int (rch + (1 : Int32))])), (aCo, .inl (cCo, nCo, .inr (.inl (vp_updL co p0.toNatClampNeg p1)))), (aQu, .inl (cQu, nQu, .inl (upd qu rch.toNatClampNeg p0))), (aC, .inr (1, [.ref aF, .ref aKn, .int ln, .int wd, .int rd])), (aKn, .inl (cKn, nKn, .inl kn)), (aF, .inr (2, [.int w, .int ht, .int tn, .ref aFu, .ref aFk, .int kp])), (aFu, .inl (cFu, nFu, .inl fu)), (aFk, .inl (cFk, nFk, .inl fk))] := hD
          have ho := Option.some.inj hJ
          exact W.vret hx hb hr (fun t ht hW => ⟨⟨(), rfl, trivial, (by rw [ht, ← ho]; exact hP), (by rw [← ho]; exact hD)⟩, hS.F ht⟩) hS.2.2 dX2_reach_66
    · have hJ := j_f c_2 hJ
      have ho := Option.some.inj hJ
      exact W.vret hx hb hr (fun t ht hW => ⟨⟨(), rfl, trivial, (by rw [ht, ← ho]; exact hP), (by rw [← ho]; exact hD)⟩, hS.F ht⟩) hS.2.2 dX2_reach_13
set_option maxHeartbeats 4000000 in
set_option maxRecDepth 100000 in
theorem c_X2_takenBefore (l : Launch) (D : va_G) (aS aCo aQu aC aKn aF aFu aFk : Nat) (cCo cQu cKn cFu cFk : ClassId) (rch : Int32) (nCo : Nat) (co : Nat → Int64) (nQu : Nat) (qu : Nat → Int32) (ln : Int32) (wd : Int32) (rd : Int32) (nKn : Nat) (kn : Nat → Int32) (w : Int32) (ht : Int32) (tn : Int32) (kp : Int32) (nFu : Nat) (fu : Nat → Int32) (nFk : Nat) (fk : Nat → Int32) (p0 : Int32) (tX tY sz F : Nat) (o : Int32) (hJ : J_X2_takenBefore F rch nCo co nQu qu p0 = some o) : Met l yX2_takenBefore wsX2_takenBefore rmX2_takenBefore (va_Pc [.ref aS, .int p0] (pcR D [(aS, .inr (3, [.ref aC, .ref aCo, .ref aQu, .int rch])), (aCo, .inl (cCo, nCo, .inr (.inl co))), (aQu, .inl (cQu, nQu, .inl qu)), (aC, .inr (1, [.ref aF, .ref aKn, .int ln, .int wd, .int rd])), (aKn, .inl (cKn, nKn, .inl kn)), (aF, .inr (2, [.int w, .int ht, .int tn, .ref aFu, .ref aFk, .int kp])), (aFu, .inl (cFu, nFu, .inl fu)), (aFk, .inl (cFk, nFk, .inl fk))] [(cCo, .long), (cQu, .int), (cKn, .int), (cFu, .boolean), (cFk, .int)] sz tX tY)) (qRi o (va_A [] sz)) 0 0 (va_A [] sz) := by
  refine Met.ofW (cc := cX2_takenBefore) (maxL := 8) (ret := (some .int)) (by decide) rfl ?_
  intro p e s m args below meth c s₁ B hml hv
  obtain ⟨rfl, hsz, hP, hK, hST⟩ := hv
  have hx := B.exec
  have hb := B.bytes
  have hr := B.returns
  have hts := atoms_spec (ws := wsX2_takenBefore) B.pre
  have hown : s.vm.findClass RX2 = some m.cls := findClass_of_methodNamed B.named
  have hlocks := B.notSynchronized
  subst hsz
  generalize hAe : va_A [] s.heap.size = A at hST ⊢
  have hA : ∀ q : Nat, s.heap.size ≤ q → A q := fun q h => by rw [← hAe]; exact Or.inr h
  have hS : va_S A s.heap s.heap [] := va_S.rf
  have hl := lv_entry ([.ref aS, .int p0]) (n := 8) (Nat.le_of_ble_eq_true rfl)
  rw [lg_entry_eq]
  generalize (lg_sl ([.ref aS, .int p0]) ++ List.replicate (8 - (lg_sl ([.ref aS, .int p0])).length) Slot.unset).toArray = ls at hl ⊢
  have hl : lv_has ls 8 [(0, .ref aS), (1, .int p0)] := hl
  have iX2 : ∀ w ∈ wsX20, w ∈ wsX2_takenBefore := fun w h => List.mem_cons_of_mem _ (List.mem_append_right _ h)
  have k_1 := hts (.fieldLink RX2 31 "ParkWays$Search" "reached" "I") (List.mem_of_getElem? (i := 1) rfl)
  have k_2 := hts (.fieldLink RX2 19 "ParkWays$Search" "queue" "[I") (List.mem_of_getElem? (i := 2) rfl)
  have L_12 : ∀ (y1_2 : Int32) (y2_3 : Int64) (kk_78 : Int32 → Int32 → Option (Int32)) (hkk_78 : ∀ (H : Heap) (locs : List Loc) (x4_4 : Int32) (x5_5 : Int32) (ls : Array Slot), kk_78 x4_4 x5_5 = some o → va_P D vwCl [(aS, .inr (3, [.ref aC, .ref aCo, .ref aQu, .int rch])), (aCo, .inl (cCo, nCo, .inr (.inl co))), (aQu, .inl (cQu, nQu, .inl qu)), (aC, .inr (1, [.ref aF, .ref aKn, .int ln, .int wd, .int rd])), (aKn, .inl (cKn, nKn, .inl kn)), (aF, .inr (2, [.int w, .int ht, .int tn, .ref aFu, .ref aFk, .int kp])), (aFu, .inl (cFu, nFu, .inl fu)), (aFk, .inl (cFk, nFk, .inl fk))] H → va_S A s.heap H locs → lv_has ls 8 [(4, .int x4_4)] → W p l e (headSpec wsX2_takenBefore rmX2_takenBefore).room s m [.ref aS, .int p0].toArray below meth c H locs 0 0 (MQ below (qRi o A) [.ref aS, .int p0].toArray s 0 0 A) (F0 m 78 ls [])) (fz : Nat) (H : Heap) (locs : List Loc) (x4_4 : Int32) (x5_5 : Int32) (ls : Array Slot), J_X2_takenBefore_L12 F rch nCo co nQu qu y1_2 y2_3 kk_78 fz x4_4 x5_5 = some o → va_P D vwCl [(aS, .inr (3, [.ref aC, .ref aCo, .ref aQu, .int rch])), (aCo, .inl (cCo, nCo, .inr (.inl co))), (aQu, .inl (cQu, nQu, .inl qu)), (aC, .inr (1, [.ref aF, .ref aKn, .int ln, .int wd, .int rd])), (aKn, .inl (cKn, nKn, .inl kn)), (aF, .inr (2, [.int w, .int ht, .int tn, .ref aFu, .ref aFk, .int kp])), (aFu, .inl (cFu, nFu, .inl fu)), (aFk, .inl (cFk, nFk, .inl fk))] H → va_S A s.heap H locs → lv_has ls 8 [(0, .ref aS), (1, .int y1_2), (2, .long y2_3), (4, .int x4_4), (5, .int x5_5)] → W p l e (headSpec wsX2_takenBefore rmX2_takenBefore).room s m [.ref aS, .int p0].toArray below meth c H locs 0 0 (MQ below (qRi o A) [.ref aS, .int p0].toArray s 0 0 A) (F0 m 12 ls []) := by
    intro y1_2 y2_3 kk_78 hkk_78 fz
    induction fz with
    | zero =>
      intro H locs x4_4 x5_5 ls hJ
      rw [J_X2_takenBefore_L12] at hJ
      cases hJ
    | succ fz ih =>
      intro H locs x4_4 x5_5 ls hJ hP hS hl
      rw [J_X2_takenBefore_L12] at hJ
      refine lv_iload hx hb dX2_takenBefore_12 (lv_at hl 4 rfl) ?_
      refine lv_aload_n hx hb dX2_takenBefore_14 rfl (lv_at hl 0 rfl) ?_
      refine va_get (D := D) (ci := 3) (v := .int rch) (C := RX2) (T := TX2) (N := 4) hx hb hts iX2 hown hK hP 0 rfl rfl 3 (by decide) k_1 (fun _ h9 => h9) rfl dX2_takenBefore_15 ?_
      refine lv_icmp_ge (tgt := 78) hx hb dX2_takenBefore_18 (by decide) (fun c_6 => ?_) (fun c_6 => ?_)
      · have hJ := j_t c_6 hJ
        exact hkk_78 H locs x4_4 x5_5 ls hJ hP hS (lv_sub hl [3] rfl)
      · have hJ := j_f c_6 hJ
        refine lv_iload hx hb dX2_takenBefore_21 (lv_at hl 4 rfl) ?_
        refine lv_aload_n hx hb dX2_takenBefore_23 rfl (lv_at hl 0 rfl) ?_
        refine va_get (D := D) (ci := 3) (v := .ref aQu) (C := RX2) (T := TX2) (N := 4) hx hb hts iX2 hown hK hP 0 rfl rfl 2 (by decide) k_2 (fun _ h9 => h9) rfl dX2_takenBefore_24 ?_
        refine va_alen hx hb hK hP 2 1 rfl rfl (v := nI nQu) rfl dX2_takenBefore_27 ?_
        refine lv_icmp_ge (tgt := 78) hx hb dX2_takenBefore_28 (by decide) (fun c_7 => ?_) (fun c_7 => ?_)
        · have hJ := j_t c_7 hJ
          exact hkk_78 H locs x4_4 x5_5 ls hJ hP hS (lv_sub hl [3] rfl)
        · have hJ := j_f c_7 hJ
          refine lv_aload_n hx hb dX2_takenBefore_31 rfl (lv_at hl 0 rfl) ?_
          refine lv_aload_n hx hb dX2_takenBefore_32 rfl (lv_at hl 0 rfl) ?_
          refine va_get (D := D) (ci := 3) (v := .ref aQu) (C := RX2) (T := TX2) (N := 4) hx hb hts iX2 hown hK hP 0 rfl rfl 2 (by decide) k_2 (fun _ h9 => h9) rfl dX2_takenBefore_33 ?_
          refine lv_iload hx hb dX2_takenBefore_36 (lv_at hl 4 rfl) ?_
          obtain ⟨h_8, hJ⟩ := g_in hJ
          refine va_iald hx hb hK hP 2 1 rfl rfl h_8 dX2_takenBefore_38 ?_
          obtain ⟨v_9, hv_9, hJ⟩ := j_b hJ
          refine ro_l (va_runV (As := [.int (qu x5_5.toNatClampNeg)]) (rest := []) ⟨hx, hb, hml, hown, hts⟩ (c_X2_costAt l D aS aCo aQu aC aKn aF aFu aFk cCo cQu cKn cFu cFk rch nCo co nQu qu ln wd rd nKn kn w ht tn kp nFu fu nFk fk (qu x5_5.toNatClampNeg) tX tY H.size F v_9 hv_9) (cwV 1 hts gX2_takenBefore_X2_costAt rfl rfl rfl (by decide +kernel) ⟨Nat.le_of_ble_eq_true rfl, Nat.le_of_ble_eq_true rfl⟩) (preRV [.int (qu x5_5.toNatClampNeg)] hP hK hS hA hST [0, 1, 2, 3, 4, 5, 6, 7] rfl [0, 1, 2, 3, 4] rfl (ci := 3) (q0 := 0) rfl rfl) rfl rfl hl.1 rfl (lv_room (Nat.le_of_ble_eq_true rfl)) dX2_takenBefore_39 ⟨Nat.zero_le _, Nat.zero_le _⟩) hP hS hA (fun H locs hP hS => ?_)
          refine lv_lstore (lv' := [(6, .long v_9), (0, .ref aS), (1, .int y1_2), (2, .long y2_3), (4, .int x4_4), (5, .int x5_5)]) hx hb dX2_takenBefore_42 hl (by decide) rfl (fun ls hl => ?_)
          refine lv_lload hx hb dX2_takenBefore_44 (lv_at hl 0 rfl) ?_
          refine lv_lload_n hx hb dX2_takenBefore_46 rfl (lv_at hl 3 rfl) ?_
          refine W.lcmp hx hb dX2_takenBefore_47 ?_
          refine lv_if_lt (tgt := 69) hx hb dX2_takenBefore_48 (by decide) (fun c_10 => ?_) (fun c_10 => ?_)
          · have hJ := j_t c_10 hJ
            refine lv_iinc (v := (x4_4 + (1 : Int32))) (lv' := [(4, .int (x4_4 + (1 : Int32))), (6, .long v_9), (0, .ref aS), (1, .int y1_2), (2, .long y2_3), (5, .int x5_5)]) hx hb dX2_takenBefore_69 hl (k := 4) rfl rfl (by decide) rfl (fun ls hl => ?_)
            refine lv_iinc (v := (x5_5 + (1 : Int32))) (lv' := [(5, .int (x5_5 + (1 : Int32))), (4, .int (x4_4 + (1 : Int32))), (6, .long v_9), (0, .ref aS), (1, .int y1_2), (2, .long y2_3)]) hx hb dX2_takenBefore_72 hl (k := 5) rfl rfl (by decide) rfl (fun ls hl => ?_)
            refine lv_goto (tgt := 12) hx hb dX2_takenBefore_75 (by decide) ?_
            exact ih H locs (x4_4 + (1 : Int32)) (x5_5 + (1 : Int32)) ls hJ hP hS (lv_sub hl [3, 4, 5, 1, 0] rfl)
          · have hJ := j_f c_10 hJ
            refine lv_lload hx hb dX2_takenBefore_51 (lv_at hl 0 rfl) ?_
            refine lv_lload_n hx hb dX2_takenBefore_53 rfl (lv_at hl 3 rfl) ?_
            refine W.lcmp hx hb dX2_takenBefore_54 ?_
            refine lv_if_ne (tgt := 72) hx hb dX2_takenBefore_55 (by decide) (fun c_11 => ?_) (fun c_11 => ?_)
            · have hJ := j_f c_11 hJ
              refine lv_iinc (v := (x5_5 + (1 : Int32))) (lv' := [(5, .int (x5_5 + (1 : Int32))), (6, .long v_9), (0, .ref aS), (1, .int y1_2), (2, .long y2_3), (4, .int x4_4)]) hx hb dX2_takenBefore_72 hl (k := 5) rfl rfl (by decide) rfl (fun ls hl => ?_)
              refine lv_goto (tgt := 12) hx hb dX2_takenBefore_75 (by decide) ?_
              exact ih H locs x4_4 (x5_5 + (1 : Int32)) ls hJ hP hS (lv_sub hl [2, 3, 4, 5, 0] rfl)
            · have hJ := j_t c_11 hJ
              refine lv_aload_n hx hb dX2_takenBefore_58 rfl (lv_at hl 1 rfl) ?_
              refine va_get (D := D) (ci := 3) (v := .ref aQu) (C := RX2) (T := TX2) (N := 4) hx hb hts iX2 hown hK hP 0 rfl rfl 2 (by decide) k_2 (fun _ h9 => h9) rfl dX2_takenBefore_59 ?_
              refine lv_iload hx hb dX2_takenBefore_62 (lv_at hl 5 rfl) ?_
              obtain ⟨h_12, hJ⟩ := g_in hJ
              refine va_iald hx hb hK hP 2 1 rfl rfl h_12 dX2_takenBefore_64 ?_
              refine lv_iload_n hx hb dX2_takenBefore_65 rfl (lv_at hl 2 rfl) ?_
              refine lv_icmp_ge (tgt := 72) hx hb dX2_takenBefore_66 (by decide) (fun c_13 => ?_) (fun c_13 => ?_)
              · have hJ := j_t c_13 hJ
                refine lv_iinc (v := (x5_5 + (1 : Int32))) (lv' := [(5, .int (x5_5 + (1 : Int32))), (6, .long v_9), (0, .ref aS), (1, .int y1_2), (2, .long y2_3), (4, .int x4_4)]) hx hb dX2_takenBefore_72 hl (k := 5) rfl rfl (by decide) rfl (fun ls hl => ?_)
                refine lv_goto (tgt := 12) hx hb dX2_takenBefore_75 (by decide) ?_
                exact ih H locs x4_4 (x5_5 + (1 : Int32)) ls hJ hP hS (lv_sub hl [2, 3, 4, 5, 0] rfl)
              · have hJ := j_f c_13 hJ
                refine lv_iinc (v := (x4_4 + (1 : Int32))) (lv' := [(4, .int (x4_4 + (1 : Int32))), (6, .long v_9), (0, .ref aS), (1, .int y1_2), (2, .long y2_3), (5, .int x5_5)]) hx hb dX2_takenBefore_69 hl (k := 4) rfl rfl (by decide) rfl (fun ls hl => ?_)
                refine lv_iinc (v := (x5_5 + (1 : Int32))) (lv' := [(5, .int (x5_5 + (1 : Int32))), (4, .int (x4_4 + (1 : Int32))), (6, .long v_9), (0, .ref aS), (1, .int y1_2), (2, .long y2_3)]) hx hb dX2_takenBefore_72 hl (k := 5) rfl rfl (by decide) rfl (fun ls hl => ?_)
                refine lv_goto (tgt := 12) hx hb dX2_takenBefore_75 (by decide) ?_
                exact ih H locs (x4_4 + (1 : Int32)) (x5_5 + (1 : Int32)) ls hJ hP hS (lv_sub hl [3, 4, 5, 1, 0] rfl)
  unfold J_X2_takenBefore at hJ
  refine lv_aload_n hx hb dX2_takenBefore_0 rfl (lv_at hl 0 rfl) ?_
  refine lv_iload_n hx hb dX2_takenBefore_1 rfl (lv_at hl 1 rfl) ?_
  obtain ⟨v_1, hv_1, hJ⟩ := j_b hJ
  refine ro_l (va_runV (As := [.int p0]) (rest := []) ⟨hx, hb, hml, hown, hts⟩ (c_X2_costAt l D aS aCo aQu aC aKn aF aFu aFk cCo cQu cKn cFu cFk rch nCo co nQu qu ln wd rd nKn kn w ht tn kp nFu fu nFk fk p0 tX tY s.heap.size F v_1 hv_1) (cwV 1 hts gX2_takenBefore_X2_costAt rfl rfl rfl (by decide +kernel) ⟨Nat.le_of_ble_eq_true rfl, Nat.le_of_ble_eq_true rfl⟩) (preRV [.int p0] hP hK hS hA hST [0, 1, 2, 3, 4, 5, 6, 7] rfl [0, 1, 2, 3, 4] rfl (ci := 3) (q0 := 0) rfl rfl) rfl rfl hl.1 rfl (lv_room (Nat.le_of_ble_eq_true rfl)) dX2_takenBefore_2 ⟨Nat.zero_le _, Nat.zero_le _⟩) hP hS hA (fun H locs hP hS => ?_)
  refine lv_lstore_n (lv' := [(2, .long v_1), (0, .ref aS), (1, .int p0)]) hx hb dX2_takenBefore_5 rfl hl (by decide) rfl (fun ls hl => ?_)
  refine lv_iconst (v := 0) hx hb dX2_takenBefore_6 (by decide) ?_
  refine lv_istore (lv' := [(4, .int (0 : Int32)), (2, .long v_1), (0, .ref aS), (1, .int p0)]) hx hb dX2_takenBefore_7 hl (by decide) rfl (fun ls hl => ?_)
  refine lv_iconst (v := 0) hx hb dX2_takenBefore_9 (by decide) ?_
  refine lv_istore (lv' := [(5, .int (0 : Int32)), (4, .int (0 : Int32)), (2, .long v_1), (0, .ref aS), (1, .int p0)]) hx hb dX2_takenBefore_10 hl (by decide) rfl (fun ls hl => ?_)
  refine L_12 p0 v_1 _ ?_ F H locs (0 : Int32) (0 : Int32) ls hJ hP hS (lv_sub hl [3, 4, 2, 1, 0] rfl)
  · intro H locs x4_14 x5_15 ls hJ hP hS hl
    refine lv_iload hx hb dX2_takenBefore_78 (lv_at hl 0 rfl) ?_
    have ho := Option.some.inj hJ
    exact W.iret (v := x4_14) hx hb hr (fun t ht hW => ⟨⟨_, (), rfl, ho, trivial⟩, hS.F ht⟩) hS.2.2 dX2_takenBefore_80
set_option maxHeartbeats 4000000 in
set_option maxRecDepth 100000 in
theorem c_X2_firstMoveFrom (l : Launch) (D : va_G) (aS aCo aQu aC aKn aF aFu aFk : Nat) (cCo cQu cKn cFu cFk : ClassId) (rch : Int32) (nCo : Nat) (co : Nat → Int64) (nQu : Nat) (qu : Nat → Int32) (ln : Int32) (wd : Int32) (rd : Int32) (nKn : Nat) (kn : Nat → Int32) (w : Int32) (ht : Int32) (tn : Int32) (kp : Int32) (nFu : Nat) (fu : Nat → Int32) (nFk : Nat) (fk : Nat → Int32) (p0 : Int32) (tX tY sz F : Nat) (o : Int32 × (Nat → Int32)) (hJ : J_X2_firstMoveFrom F nCo co ln wd rd nKn kn w ht tn nFk fk p0 = some o) : Met l yX2_firstMoveFrom wsX2_firstMoveFrom rmX2_firstMoveFrom (va_Pc [.ref aS, .int p0] (pcW D [(aS, .inr (3, [.ref aC, .ref aCo, .ref aQu, .int rch])), (aCo, .inl (cCo, nCo, .inr (.inl co))), (aQu, .inl (cQu, nQu, .inl qu)), (aC, .inr (1, [.ref aF, .ref aKn, .int ln, .int wd, .int rd])), (aKn, .inl (cKn, nKn, .inl kn)), (aF, .inr (2, [.int w, .int ht, .int tn, .ref aFu, .ref aFk, .int kp])), (aFu, .inl (cFu, nFu, .inl fu)), (aFk, .inl (cFk, nFk, .inl fk))] [(cCo, .long), (cQu, .int), (cKn, .int), (cFu, .boolean), (cFk, .int)] sz tX tY)) (qWi D o.1 [(aS, .inr (3, [.ref aC, .ref aCo, .ref aQu, .int rch])), (aCo, .inl (cCo, nCo, .inr (.inl co))), (aQu, .inl (cQu, nQu, .inl qu)), (aC, .inr (1, [.ref aF, .ref aKn, .int ln, .int wd, .int rd])), (aKn, .inl (cKn, nKn, .inl o.2)), (aF, .inr (2, [.int w, .int ht, .int tn, .ref aFu, .ref aFk, .int kp])), (aFu, .inl (cFu, nFu, .inl fu)), (aFk, .inl (cFk, nFk, .inl fk))] (va_A [(aS, .inr (3, [.ref aC, .ref aCo, .ref aQu, .int rch])), (aCo, .inl (cCo, nCo, .inr (.inl co))), (aQu, .inl (cQu, nQu, .inl qu)), (aC, .inr (1, [.ref aF, .ref aKn, .int ln, .int wd, .int rd])), (aKn, .inl (cKn, nKn, .inl kn)), (aF, .inr (2, [.int w, .int ht, .int tn, .ref aFu, .ref aFk, .int kp])), (aFu, .inl (cFu, nFu, .inl fu)), (aFk, .inl (cFk, nFk, .inl fk))] sz)) 0 0 (va_A [(aS, .inr (3, [.ref aC, .ref aCo, .ref aQu, .int rch])), (aCo, .inl (cCo, nCo, .inr (.inl co))), (aQu, .inl (cQu, nQu, .inl qu)), (aC, .inr (1, [.ref aF, .ref aKn, .int ln, .int wd, .int rd])), (aKn, .inl (cKn, nKn, .inl kn)), (aF, .inr (2, [.int w, .int ht, .int tn, .ref aFu, .ref aFk, .int kp])), (aFu, .inl (cFu, nFu, .inl fu)), (aFk, .inl (cFk, nFk, .inl fk))] sz) := by
  refine Met.ofW (cc := cX2_firstMoveFrom) (maxL := 4) (ret := (some .int)) (by decide) rfl ?_
  intro p e s m args below meth c s₁ B hml hv
  obtain ⟨rfl, hsz, hP, hK, hD0, hST⟩ := hv
  have hx := B.exec
  have hb := B.bytes
  have hr := B.returns
  have hts := atoms_spec (ws := wsX2_firstMoveFrom) B.pre
  have hown : s.vm.findClass RX2 = some m.cls := findClass_of_methodNamed B.named
  have hlocks := B.notSynchronized
  subst hsz
  have hD := hD0.self (sz := s.heap.size)
  generalize hAe : va_A [(aS, .inr (3, [.ref aC, .ref aCo, .ref aQu, .int rch])), (aCo, .inl (cCo, nCo, .inr (.inl co))), (aQu, .inl (cQu, nQu, .inl qu)), (aC, .inr (1, [.ref aF, .ref aKn, .int ln, .int wd, .int rd])), (aKn, .inl (cKn, nKn, .inl kn)), (aF, .inr (2, [.int w, .int ht, .int tn, .ref aFu, .ref aFk, .int kp])), (aFu, .inl (cFu, nFu, .inl fu)), (aFk, .inl (cFk, nFk, .inl fk))] s.heap.size = A at hD hST ⊢
  have hA : ∀ q : Nat, s.heap.size ≤ q → A q := fun q h => by rw [← hAe]; exact Or.inr h
  have hS : va_S A s.heap s.heap [] := va_S.rf
  have hl := lv_entry ([.ref aS, .int p0]) (n := 4) (Nat.le_of_ble_eq_true rfl)
  rw [lg_entry_eq]
  generalize (lg_sl ([.ref aS, .int p0]) ++ List.replicate (4 - (lg_sl ([.ref aS, .int p0])).length) Slot.unset).toArray = ls at hl ⊢
  have hl : lv_has ls 4 [(0, .ref aS), (1, .int p0)] := hl
  have iX2 : ∀ w ∈ wsX20, w ∈ wsX2_firstMoveFrom := fun w h => List.mem_cons_of_mem _ (List.mem_append_left _ (List.mem_append_left _ (List.mem_append_right _ h)))
  have k_1 := hts (.fieldLink RX2 9 "ParkWays$Search" "car" "LParkWays$Car;") (List.mem_of_getElem? (i := 1) rfl)
  have L_2 : ∀ (y1_1 : Int32) (kk_66 : Int32 → (Nat → Int32) → Option (Int32 × (Nat → Int32))) (hkk_66 : ∀ (H : Heap) (locs : List Loc) (x2_2 : Int32) (xkn_3 : Nat → Int32) (ls : Array Slot), kk_66 x2_2 xkn_3 = some o → va_P D vwCl [(aS, .inr (3, [.ref aC, .ref aCo, .ref aQu, .int rch])), (aCo, .inl (cCo, nCo, .inr (.inl co))), (aQu, .inl (cQu, nQu, .inl qu)), (aC, .inr (1, [.ref aF, .ref aKn, .int ln, .int wd, .int rd])), (aKn, .inl (cKn, nKn, .inl xkn_3)), (aF, .inr (2, [.int w, .int ht, .int tn, .ref aFu, .ref aFk, .int kp])), (aFu, .inl (cFu, nFu, .inl fu)), (aFk, .inl (cFk, nFk, .inl fk))] H → va_D A [(aS, .inr (3, [.ref aC, .ref aCo, .ref aQu, .int rch])), (aCo, .inl (cCo, nCo, .inr (.inl co))), (aQu, .inl (cQu, nQu, .inl qu)), (aC, .inr (1, [.ref aF, .ref aKn, .int ln, .int wd, .int rd])), (aKn, .inl (cKn, nKn, .inl xkn_3)), (aF, .inr (2, [.int w, .int ht, .int tn, .ref aFu, .ref aFk, .int kp])), (aFu, .inl (cFu, nFu, .inl fu)), (aFk, .inl (cFk, nFk, .inl fk))] → va_S A s.heap H locs → lv_has ls 4 [] → W p l e (headSpec wsX2_firstMoveFrom rmX2_firstMoveFrom).room s m [.ref aS, .int p0].toArray below meth c H locs 0 0 (MQ below (qWi D o.1 [(aS, .inr (3, [.ref aC, .ref aCo, .ref aQu, .int rch])), (aCo, .inl (cCo, nCo, .inr (.inl co))), (aQu, .inl (cQu, nQu, .inl qu)), (aC, .inr (1, [.ref aF, .ref aKn, .int ln, .int wd, .int rd])), (aKn, .inl (cKn, nKn, .inl o.2)), (aF, .inr (2, [.int w, .int ht, .int tn, .ref aFu, .ref aFk, .int kp])), (aFu, .inl (cFu, nFu, .inl fu)), (aFk, .inl (cFk, nFk, .inl fk))] A) [.ref aS, .int p0].toArray s 0 0 A) (F0 m 66 ls [])) (fz : Nat) (H : Heap) (locs : List Loc) (x2_2 : Int32) (xkn_3 : Nat → Int32) (ls : Array Slot), J_X2_firstMoveFrom_L2 F nCo co ln wd rd nKn w ht tn nFk fk y1_1 kk_66 fz x2_2 xkn_3 = some o → va_P D vwCl [(aS, .inr (3, [.ref aC, .ref aCo, .ref aQu, .int rch])), (aCo, .inl (cCo, nCo, .inr (.inl co))), (aQu, .inl (cQu, nQu, .inl qu)), (aC, .inr (1, [.ref aF, .ref aKn, .int ln, .int wd, .int rd])), (aKn, .inl (cKn, nKn, .inl xkn_3)), (aF, .inr (2, [.int w, .int ht, .int tn, .ref aFu, .ref aFk, .int kp])), (aFu, .inl (cFu, nFu, .inl fu)), (aFk, .inl (cFk, nFk, .inl fk))] H → va_D A [(aS, .inr (3, [.ref aC, .ref aCo, .ref aQu, .int rch])), (aCo, .inl (cCo, nCo, .inr (.inl co))), (aQu, .inl (cQu, nQu, .inl qu)), (aC, .inr (1, [.ref aF, .ref aKn, .int ln, .int wd, .int rd])), (aKn, .inl (cKn, nKn, .inl xkn_3)), (aF, .inr (2, [.int w, .int ht, .int tn, .ref aFu, .ref aFk, .int kp])), (aFu, .inl (cFu, nFu, .inl fu)), (aFk, .inl (cFk, nFk, .inl fk))] → va_S A s.heap H locs → lv_has ls 4 [(0, .ref aS), (1, .int y1_1), (2, .int x2_2)] → W p l e (headSpec wsX2_firstMoveFrom rmX2_firstMoveFrom).room s m [.ref aS, .int p0].toArray below meth c H locs 0 0 (MQ below (qWi D o.1 [(aS, .inr (3, [.ref aC, .ref aCo, .ref aQu, .int rch])), (aCo, .inl (cCo, nCo, .inr (.inl co))), (aQu, .inl (cQu, nQu, .inl qu)), (aC, .inr (1, [.ref aF, .ref aKn, .int ln, .int wd, .int rd])), (aKn, .inl (cKn, nKn, .inl o.2)), (aF, .inr (2, [.int w, .int ht, .int tn, .ref aFu, .ref aFk, .int kp])), (aFu, .inl (cFu, nFu, .inl fu)), (aFk, .inl (cFk, nFk, .inl fk))] A) [.ref aS, .int p0].toArray s 0 0 A) (F0 m 2 ls []) := by
    intro y1_1 kk_66 hkk_66 fz
    induction fz with
    | zero =>
      intro H locs x2_2 xkn_3 ls hJ
      rw [J_X2_firstMoveFrom_L2] at hJ
      cases hJ
    | succ fz ih =>
      intro H locs x2_2 xkn_3 ls hJ hP hD hS hl
      rw [J_X2_firstMoveFrom_L2] at hJ
      refine lv_iload_n hx hb dX2_firstMoveFrom_2 rfl (lv_at hl 2 rfl) ?_
      refine lv_bipush (v := 6) hx hb dX2_firstMoveFrom_3 (by decide) ?_
      refine lv_icmp_ge (tgt := 66) hx hb dX2_firstMoveFrom_5 (by decide) (fun c_4 => ?_) (fun c_4 => ?_)
      · have hJ := j_t c_4 hJ
        exact hkk_66 H locs x2_2 xkn_3 ls hJ hP hD hS (lv_sub hl [] rfl)
      · have hJ := j_f c_4 hJ
        refine lv_aload_n hx hb dX2_firstMoveFrom_8 rfl (lv_at hl 0 rfl) ?_
        refine lv_aload_n hx hb dX2_firstMoveFrom_9 rfl (lv_at hl 0 rfl) ?_
        refine va_get (D := D) (ci := 3) (v := .ref aC) (C := RX2) (T := TX2) (N := 4) hx hb hts iX2 hown hK hP 0 rfl rfl 0 (by decide) k_1 (fun _ h9 => h9) rfl dX2_firstMoveFrom_10 ?_
        refine lv_iload_n hx hb dX2_firstMoveFrom_13 rfl (lv_at hl 1 rfl) ?_
        refine lv_iload_n hx hb dX2_firstMoveFrom_14 rfl (lv_at hl 2 rfl) ?_
        obtain ⟨v_5, hv_5, hJ⟩ := j_b hJ
        refine ro_i (va_runV (As := [.int y1_1, .int x2_2]) (rest := [.ref aS]) ⟨hx, hb, hml, hown, hts⟩ (c_X0_landing l D aC aKn aF aFu aFk cKn cFu cFk ln wd rd nKn xkn_3 w ht tn kp nFu fu nFk fk y1_1 x2_2 tX tY H.size F v_5 hv_5) (cwV 2 hts gX2_firstMoveFrom_X0_landing rfl rfl rfl (by decide +kernel) ⟨Nat.le_of_ble_eq_true rfl, Nat.le_of_ble_eq_true rfl⟩) (preRV [.int y1_1, .int x2_2] hP hK hS hA hST [3, 4, 5, 6, 7] rfl [2, 3, 4] rfl (ci := 1) (q0 := 3) rfl rfl) rfl rfl hl.1 rfl (lv_room (Nat.le_of_ble_eq_true rfl)) dX2_firstMoveFrom_15 ⟨Nat.zero_le _, Nat.zero_le _⟩) hP hS hA (fun H locs hP hS => ?_)
        obtain ⟨v_6, hv_6, hJ⟩ := j_b hJ
        refine ro_l (va_runV (As := [.int v_5]) (rest := []) ⟨hx, hb, hml, hown, hts⟩ (c_X2_costAt l D aS aCo aQu aC aKn aF aFu aFk cCo cQu cKn cFu cFk rch nCo co nQu qu ln wd rd nKn xkn_3 w ht tn kp nFu fu nFk fk v_5 tX tY H.size F v_6 hv_6) (cwV 1 hts gX2_firstMoveFrom_X2_costAt rfl rfl rfl (by decide +kernel) ⟨Nat.le_of_ble_eq_true rfl, Nat.le_of_ble_eq_true rfl⟩) (preRV [.int v_5] hP hK hS hA hST [0, 1, 2, 3, 4, 5, 6, 7] rfl [0, 1, 2, 3, 4] rfl (ci := 3) (q0 := 0) rfl rfl) rfl rfl hl.1 rfl (lv_room (Nat.le_of_ble_eq_true rfl)) dX2_firstMoveFrom_18 ⟨Nat.zero_le _, Nat.zero_le _⟩) hP hS hA (fun H locs hP hS => ?_)
        refine lv_aload_n hx hb dX2_firstMoveFrom_21 rfl (lv_at hl 0 rfl) ?_
        refine lv_iload_n hx hb dX2_firstMoveFrom_22 rfl (lv_at hl 2 rfl) ?_
        obtain ⟨v_7, hv_7, hJ⟩ := j_b hJ
        refine ro_l (va_runV (As := [.int x2_2]) (rest := [.long v_6]) ⟨hx, hb, hml, hown, hts⟩ (c_X2_costOf l D aS aCo aQu aC aKn aF aFu aFk cCo cQu cKn cFu cFk rch nCo co nQu qu ln wd rd nKn xkn_3 w ht tn kp nFu fu nFk fk x2_2 tX tY H.size F v_7 hv_7) (cwV 1 hts gX2_firstMoveFrom_X2_costOf rfl rfl rfl (by decide +kernel) ⟨Nat.le_of_ble_eq_true rfl, Nat.le_of_ble_eq_true rfl⟩) (preRV [.int x2_2] hP hK hS hA hST [0, 1, 2, 3, 4, 5, 6, 7] rfl [0, 1, 2, 3, 4] rfl (ci := 3) (q0 := 0) rfl rfl) rfl rfl hl.1 rfl (lv_room (Nat.le_of_ble_eq_true rfl)) dX2_firstMoveFrom_23 ⟨Nat.zero_le _, Nat.zero_le _⟩) hP hS hA (fun H locs hP hS => ?_)
        refine lv_ladd hx hb dX2_firstMoveFrom_26 ?_
        refine lv_aload_n hx hb dX2_firstMoveFrom_27 rfl (lv_at hl 0 rfl) ?_
        refine lv_iload_n hx hb dX2_firstMoveFrom_28 rfl (lv_at hl 1 rfl) ?_
        obtain ⟨v_8, hv_8, hJ⟩ := j_b hJ
        refine ro_l (va_runV (As := [.int y1_1]) (rest := [.long (v_6 + v_7)]) ⟨hx, hb, hml, hown, hts⟩ (c_X2_costAt l D aS aCo aQu aC aKn aF aFu aFk cCo cQu cKn cFu cFk rch nCo co nQu qu ln wd rd nKn xkn_3 w ht tn kp nFu fu nFk fk y1_1 tX tY H.size F v_8 hv_8) (cwV 1 hts gX2_firstMoveFrom_X2_costAt rfl rfl rfl (by decide +kernel) ⟨Nat.le_of_ble_eq_true rfl, Nat.le_of_ble_eq_true rfl⟩) (preRV [.int y1_1] hP hK hS hA hST [0, 1, 2, 3, 4, 5, 6, 7] rfl [0, 1, 2, 3, 4] rfl (ci := 3) (q0 := 0) rfl rfl) rfl rfl hl.1 rfl (lv_room (Nat.le_of_ble_eq_true rfl)) dX2_firstMoveFrom_29 ⟨Nat.zero_le _, Nat.zero_le _⟩) hP hS hA (fun H locs hP hS => ?_)
        refine W.lcmp hx hb dX2_firstMoveFrom_32 ?_
        refine lv_if_ne (tgt := 40) hx hb dX2_firstMoveFrom_33 (by decide) (fun c_9 => ?_) (fun c_9 => ?_)
        · have hJ := j_f c_9 hJ
          refine lv_iconst (v := 0) hx hb dX2_firstMoveFrom_40 (by decide) ?_
          refine lv_istore_n (lv' := [(3, .int (0 : Int32)), (0, .ref aS), (1, .int y1_1), (2, .int x2_2)]) hx hb dX2_firstMoveFrom_41 rfl hl (by decide) rfl (fun ls hl => ?_)
          refine lv_iload_n hx hb dX2_firstMoveFrom_42 rfl (lv_at hl 0 rfl) ?_
          refine lv_if_eq (tgt := 60) hx hb dX2_firstMoveFrom_43 (by decide) (fun c_10 => ?_) (fun c_10 => absurd (by decide) c_10)
          refine lv_iinc (v := (x2_2 + (1 : Int32))) (lv' := [(2, .int (x2_2 + (1 : Int32))), (3, .int (0 : Int32)), (0, .ref aS), (1, .int y1_1)]) hx hb dX2_firstMoveFrom_60 hl (k := 3) rfl rfl (by decide) rfl (fun ls hl => ?_)
          refine lv_goto (tgt := 2) hx hb dX2_firstMoveFrom_63 (by decide) ?_
          exact ih H locs (x2_2 + (1 : Int32)) xkn_3 ls hJ hP hD hS (lv_sub hl [2, 3, 0] rfl)
        · have hJ := j_t c_9 hJ
          refine lv_iconst (v := 1) hx hb dX2_firstMoveFrom_36 (by decide) ?_
          refine lv_goto (tgt := 41) hx hb dX2_firstMoveFrom_37 (by decide) ?_
          refine lv_istore_n (lv' := [(3, .int (1 : Int32)), (0, .ref aS), (1, .int y1_1), (2, .int x2_2)]) hx hb dX2_firstMoveFrom_41 rfl hl (by decide) rfl (fun ls hl => ?_)
          refine lv_iload_n hx hb dX2_firstMoveFrom_42 rfl (lv_at hl 0 rfl) ?_
          refine lv_if_eq (tgt := 60) hx hb dX2_firstMoveFrom_43 (by decide) (fun c_11 => absurd c_11 (by decide)) (fun c_11 => ?_)
          refine lv_aload_n hx hb dX2_firstMoveFrom_46 rfl (lv_at hl 1 rfl) ?_
          refine va_get (D := D) (ci := 3) (v := .ref aC) (C := RX2) (T := TX2) (N := 4) hx hb hts iX2 hown hK hP 0 rfl rfl 0 (by decide) k_1 (fun _ h9 => h9) rfl dX2_firstMoveFrom_47 ?_
          refine lv_iload_n hx hb dX2_firstMoveFrom_50 rfl (lv_at hl 2 rfl) ?_
          refine lv_iload_n hx hb dX2_firstMoveFrom_51 rfl (lv_at hl 3 rfl) ?_
          obtain ⟨v_12, hv_12, hJ⟩ := j_b hJ
          refine wr_i (wr := [(aS, .inr (3, [.ref aC, .ref aCo, .ref aQu, .int rch])), (aCo, .inl (cCo, nCo, .inr (.inl co))), (aQu, .inl (cQu, nQu, .inl qu))]) (wn := [(aS, .inr (3, [.ref aC, .ref aCo, .ref aQu, .int rch])), (aCo, .inl (cCo, nCo, .inr (.inl co))), (aQu, .inl (cQu, nQu, .inl qu)), (aC, .inr (1, [.ref aF, .ref aKn, .int ln, .int wd, .int rd])), (aKn, .inl (cKn, nKn, .inl v_12.2)), (aF, .inr (2, [.int w, .int ht, .int tn, .ref aFu, .ref aFk, .int kp])), (aFu, .inl (cFu, nFu, .inl fu)), (aFk, .inl (cFk, nFk, .inl fk))]) (va_runV (As := [.int y1_1, .int x2_2]) (rest := []) ⟨hx, hb, hml, hown, hts⟩ (c_X0_mayMake l D aC aKn aF aFu aFk cKn cFu cFk ln wd rd nKn xkn_3 w ht tn kp nFu fu nFk fk y1_1 x2_2 tX tY H.size F v_12 hv_12) (cwV 2 hts gX2_firstMoveFrom_X0_mayMake rfl rfl rfl (by decide +kernel) ⟨Nat.le_of_ble_eq_true rfl, Nat.le_of_ble_eq_true rfl⟩) (preWV [.int y1_1, .int x2_2] hP hD hK hS hA hST [3, 4, 5, 6, 7] rfl rfl rfl [2, 3, 4] rfl (ci := 1) (q0 := 3) rfl rfl) rfl rfl hl.1 rfl (lv_room (Nat.le_of_ble_eq_true rfl)) dX2_firstMoveFrom_52 ⟨Nat.zero_le _, Nat.zero_le _⟩) hP hD hS hA [3, 4, 5, 6, 7] [0, 1, 2] rfl rfl rfl (by decide) [0, 1, 2, 3, 4, 5, 6, 7] rfl rfl rfl (fun H locs hP hD hS => ?_)
          refine lv_if_eq (tgt := 60) hx hb dX2_firstMoveFrom_55 (by decide) (fun c_13 => ?_) (fun c_13 => ?_)
          · have hJ := j_t c_13 hJ
            refine lv_iinc (v := (x2_2 + (1 : Int32))) (lv' := [(2, .int (x2_2 + (1 : Int32))), (3, .int (1 : Int32)), (0, .ref aS), (1, .int y1_1)]) hx hb dX2_firstMoveFrom_60 hl (k := 3) rfl rfl (by decide) rfl (fun ls hl => ?_)
            refine lv_goto (tgt := 2) hx hb dX2_firstMoveFrom_63 (by decide) ?_
            exact ih H locs (x2_2 + (1 : Int32)) v_12.2 ls hJ hP hD hS (lv_sub hl [2, 3, 0] rfl)
          · have hJ := j_f c_13 hJ
            refine lv_iload_n hx hb dX2_firstMoveFrom_58 rfl (lv_at hl 3 rfl) ?_
            have ho := Option.some.inj hJ
            exact W.iret (v := x2_2) hx hb hr (fun t ht hW => ⟨⟨_, (), rfl, (by rw [← ho]), (by rw [ht, ← ho]; exact hP), (by rw [← ho]; exact hD)⟩, hS.F ht⟩) hS.2.2 dX2_firstMoveFrom_59
  unfold J_X2_firstMoveFrom at hJ
  refine lv_iconst (v := 0) hx hb dX2_firstMoveFrom_0 (by decide) ?_
  refine lv_istore_n (lv' := [(2, .int (0 : Int32)), (0, .ref aS), (1, .int p0)]) hx hb dX2_firstMoveFrom_1 rfl hl (by decide) rfl (fun ls hl => ?_)
  refine L_2 p0 _ ?_ F s.heap [] (0 : Int32) kn ls hJ hP hD hS (lv_sub hl [1, 2, 0] rfl)
  · intro H locs x2_14 xkn_15 ls hJ hP hD hS hl
    refine lv_iconst (v := (-1)) hx hb dX2_firstMoveFrom_66 (by decide) ?_
    have ho := Option.some.inj hJ
    exact W.iret (v := (-1 : Int32)) hx hb hr (fun t ht hW => ⟨⟨_, (), rfl, (by rw [← ho]), (by rw [ht, ← ho]; exact hP), (by rw [← ho]; exact hD)⟩, hS.F ht⟩) hS.2.2 dX2_firstMoveFrom_67
set_option maxHeartbeats 4000000 in
set_option maxRecDepth 100000 in
theorem c_X2_spreadFrom (l : Launch) (D : va_G) (aS aCo aQu aC aKn aF aFu aFk : Nat) (cCo cQu cKn cFu cFk : ClassId) (rch : Int32) (nCo : Nat) (co : Nat → Int64) (nQu : Nat) (qu : Nat → Int32) (ln : Int32) (wd : Int32) (rd : Int32) (nKn : Nat) (kn : Nat → Int32) (w : Int32) (ht : Int32) (tn : Int32) (kp : Int32) (nFu : Nat) (fu : Nat → Int32) (nFk : Nat) (fk : Nat → Int32) (p0 : Int32) (tX tY sz F : Nat) (o : Int32 × (Nat → Int64) × (Nat → Int32) × (Nat → Int32)) (hJ : J_X2_spreadFrom F nCo co nQu qu ln wd rd nKn kn w ht tn nFk fk p0 = some o) : Met l yX2_spreadFrom wsX2_spreadFrom rmX2_spreadFrom (va_Pc [.ref aS, .int p0] (pcW D [(aS, .inr (3, [.ref aC, .ref aCo, .ref aQu, .int rch])), (aCo, .inl (cCo, nCo, .inr (.inl co))), (aQu, .inl (cQu, nQu, .inl qu)), (aC, .inr (1, [.ref aF, .ref aKn, .int ln, .int wd, .int rd])), (aKn, .inl (cKn, nKn, .inl kn)), (aF, .inr (2, [.int w, .int ht, .int tn, .ref aFu, .ref aFk, .int kp])), (aFu, .inl (cFu, nFu, .inl fu)), (aFk, .inl (cFk, nFk, .inl fk))] [(cCo, .long), (cQu, .int), (cKn, .int), (cFu, .boolean), (cFk, .int)] sz tX tY)) (qWv D [(aS, .inr (3, [.ref aC, .ref aCo, .ref aQu, .int o.1])), (aCo, .inl (cCo, nCo, .inr (.inl o.2.1))), (aQu, .inl (cQu, nQu, .inl o.2.2.1)), (aC, .inr (1, [.ref aF, .ref aKn, .int ln, .int wd, .int rd])), (aKn, .inl (cKn, nKn, .inl o.2.2.2)), (aF, .inr (2, [.int w, .int ht, .int tn, .ref aFu, .ref aFk, .int kp])), (aFu, .inl (cFu, nFu, .inl fu)), (aFk, .inl (cFk, nFk, .inl fk))] (va_A [(aS, .inr (3, [.ref aC, .ref aCo, .ref aQu, .int rch])), (aCo, .inl (cCo, nCo, .inr (.inl co))), (aQu, .inl (cQu, nQu, .inl qu)), (aC, .inr (1, [.ref aF, .ref aKn, .int ln, .int wd, .int rd])), (aKn, .inl (cKn, nKn, .inl kn)), (aF, .inr (2, [.int w, .int ht, .int tn, .ref aFu, .ref aFk, .int kp])), (aFu, .inl (cFu, nFu, .inl fu)), (aFk, .inl (cFk, nFk, .inl fk))] sz)) 0 0 (va_A [(aS, .inr (3, [.ref aC, .ref aCo, .ref aQu, .int rch])), (aCo, .inl (cCo, nCo, .inr (.inl co))), (aQu, .inl (cQu, nQu, .inl qu)), (aC, .inr (1, [.ref aF, .ref aKn, .int ln, .int wd, .int rd])), (aKn, .inl (cKn, nKn, .inl kn)), (aF, .inr (2, [.int w, .int ht, .int tn, .ref aFu, .ref aFk, .int kp])), (aFu, .inl (cFu, nFu, .inl fu)), (aFk, .inl (cFk, nFk, .inl fk))] sz) := by
  refine Met.ofW (cc := cX2_spreadFrom) (maxL := 8) (ret := none) (by decide) rfl ?_
  intro p e s m args below meth c s₁ B hml hv
  obtain ⟨rfl, hsz, hP, hK, hD0, hST⟩ := hv
  have hx := B.exec
  have hb := B.bytes
  have hr := B.returns
  have hts := atoms_spec (ws := wsX2_spreadFrom) B.pre
  have hown : s.vm.findClass RX2 = some m.cls := findClass_of_methodNamed B.named
  have hlocks := B.notSynchronized
  subst hsz
  have hD := hD0.self (sz := s.heap.size)
  generalize hAe : va_A [(aS, .inr (3, [.ref aC, .ref aCo, .ref aQu, .int rch])), (aCo, .inl (cCo, nCo, .inr (.inl co))), (aQu, .inl (cQu, nQu, .inl qu)), (aC, .inr (1, [.ref aF, .ref aKn, .int ln, .int wd, .int rd])), (aKn, .inl (cKn, nKn, .inl kn)), (aF, .inr (2, [.int w, .int ht, .int tn, .ref aFu, .ref aFk, .int kp])), (aFu, .inl (cFu, nFu, .inl fu)), (aFk, .inl (cFk, nFk, .inl fk))] s.heap.size = A at hD hST ⊢
  have hA : ∀ q : Nat, s.heap.size ≤ q → A q := fun q h => by rw [← hAe]; exact Or.inr h
  have hS : va_S A s.heap s.heap [] := va_S.rf
  have hl := lv_entry ([.ref aS, .int p0]) (n := 8) (Nat.le_of_ble_eq_true rfl)
  rw [lg_entry_eq]
  generalize (lg_sl ([.ref aS, .int p0]) ++ List.replicate (8 - (lg_sl ([.ref aS, .int p0])).length) Slot.unset).toArray = ls at hl ⊢
  have hl : lv_has ls 8 [(0, .ref aS), (1, .int p0)] := hl
  have iX2 : ∀ w ∈ wsX20, w ∈ wsX2_spreadFrom := fun w h => List.mem_cons_of_mem _ (List.mem_append_left _ (List.mem_append_left _ (List.mem_append_right _ h)))
  have k_1 := hts (.fieldLink RX2 15 "ParkWays$Search" "cost" "[J") (List.mem_of_getElem? (i := 1) rfl)
  have k_2 := hts (.constantLong RX2 23 (1152921504606846976)) (List.mem_of_getElem? (i := 2) rfl)
  have k_3 := hts (.fieldLink RX2 31 "ParkWays$Search" "reached" "I") (List.mem_of_getElem? (i := 3) rfl)
  have k_4 := hts (.fieldLink RX2 9 "ParkWays$Search" "car" "LParkWays$Car;") (List.mem_of_getElem? (i := 4) rfl)
  have k_5 := hts (.fieldLink RX2 19 "ParkWays$Search" "queue" "[I") (List.mem_of_getElem? (i := 5) rfl)
  have L_62 : ∀ (y2_13 : Int32) (y3_14 : Int32) (kk_134 : Int32 → Int32 → (Nat → Int64) → (Nat → Int32) → (Nat → Int32) → Option (Int32 × (Nat → Int64) × (Nat → Int32) × (Nat → Int32))) (hkk_134 : ∀ (H : Heap) (locs : List Loc) (x4_15 : Int32) (xrch_16 : Int32) (xco_17 : Nat → Int64) (xqu_18 : Nat → Int32) (xkn_19 : Nat → Int32) (ls : Array Slot), kk_134 x4_15 xrch_16 xco_17 xqu_18 xkn_19 = some o → va_P D vwCl [(aS, .inr (3, [.ref aC, .ref aCo, .ref aQu, .int xrch_16])), (aCo, .inl (cCo, nCo, .inr (.inl xco_17))), (aQu, .inl (cQu, nQu, .inl xqu_18)), (aC, .inr (1, [.ref aF, .ref aKn, .int ln, .int wd, .int rd])), (aKn, .inl (cKn, nKn, .inl xkn_19)), (aF, .inr (2, [.int w, .int ht, .int tn, .ref aFu, .ref aFk, .int kp])), (aFu, .inl (cFu, nFu, .inl fu)), (aFk, .inl (cFk, nFk, .inl fk))] H → va_D A [(aS, .inr (3, [.ref aC, .ref aCo, .ref aQu, .int xrch_16])), (aCo, .inl (cCo, nCo, .inr (.inl xco_17))), (aQu, .inl (cQu, nQu, .inl xqu_18)), (aC, .inr (1, [.ref aF, .ref aKn, .int ln, .int wd, .int rd])), (aKn, .inl (cKn, nKn, .inl xkn_19)), (aF, .inr (2, [.int w, .int ht, .int tn, .ref aFu, .ref aFk, .int kp])), (aFu, .inl (cFu, nFu, .inl fu)), (aFk, .inl (cFk, nFk, .inl fk))] → va_S A s.heap H locs → lv_has ls 8 [(0, .ref aS), (2, .int y2_13)] → W p l e (headSpec wsX2_spreadFrom rmX2_spreadFrom).room s m [.ref aS, .int p0].toArray below meth c H locs 0 0 (MQ below (qWv D [(aS, .inr (3, [.ref aC, .ref aCo, .ref aQu, .int o.1])), (aCo, .inl (cCo, nCo, .inr (.inl o.2.1))), (aQu, .inl (cQu, nQu, .inl o.2.2.1)), (aC, .inr (1, [.ref aF, .ref aKn, .int ln, .int wd, .int rd])), (aKn, .inl (cKn, nKn, .inl o.2.2.2)), (aF, .inr (2, [.int w, .int ht, .int tn, .ref aFu, .ref aFk, .int kp])), (aFu, .inl (cFu, nFu, .inl fu)), (aFk, .inl (cFk, nFk, .inl fk))] A) [.ref aS, .int p0].toArray s 0 0 A) (F0 m 134 ls [])) (fz : Nat) (H : Heap) (locs : List Loc) (x4_15 : Int32) (xrch_16 : Int32) (xco_17 : Nat → Int64) (xqu_18 : Nat → Int32) (xkn_19 : Nat → Int32) (ls : Array Slot), J_X2_spreadFrom_L62 F nCo nQu ln wd rd nKn w ht tn nFk fk y3_14 kk_134 fz x4_15 xrch_16 xco_17 xqu_18 xkn_19 = some o → va_P D vwCl [(aS, .inr (3, [.ref aC, .ref aCo, .ref aQu, .int xrch_16])), (aCo, .inl (cCo, nCo, .inr (.inl xco_17))), (aQu, .inl (cQu, nQu, .inl xqu_18)), (aC, .inr (1, [.ref aF, .ref aKn, .int ln, .int wd, .int rd])), (aKn, .inl (cKn, nKn, .inl xkn_19)), (aF, .inr (2, [.int w, .int ht, .int tn, .ref aFu, .ref aFk, .int kp])), (aFu, .inl (cFu, nFu, .inl fu)), (aFk, .inl (cFk, nFk, .inl fk))] H → va_D A [(aS, .inr (3, [.ref aC, .ref aCo, .ref aQu, .int xrch_16])), (aCo, .inl (cCo, nCo, .inr (.inl xco_17))), (aQu, .inl (cQu, nQu, .inl xqu_18)), (aC, .inr (1, [.ref aF, .ref aKn, .int ln, .int wd, .int rd])), (aKn, .inl (cKn, nKn, .inl xkn_19)), (aF, .inr (2, [.int w, .int ht, .int tn, .ref aFu, .ref aFk, .int kp])), (aFu, .inl (cFu, nFu, .inl fu)), (aFk, .inl (cFk, nFk, .inl fk))] → va_S A s.heap H locs → lv_has ls 8 [(0, .ref aS), (2, .int y2_13), (3, .int y3_14), (4, .int x4_15)] → W p l e (headSpec wsX2_spreadFrom rmX2_spreadFrom).room s m [.ref aS, .int p0].toArray below meth c H locs 0 0 (MQ below (qWv D [(aS, .inr (3, [.ref aC, .ref aCo, .ref aQu, .int o.1])), (aCo, .inl (cCo, nCo, .inr (.inl o.2.1))), (aQu, .inl (cQu, nQu, .inl o.2.2.1)), (aC, .inr (1, [.ref aF, .ref aKn, .int ln, .int wd, .int rd])), (aKn, .inl (cKn, nKn, .inl o.2.2.2)), (aF, .inr (2, [.int w, .int ht, .int tn, .ref aFu, .ref aFk, .int kp])), (aFu, .inl (cFu, nFu, .inl fu)), (aFk, .inl (cFk, nFk, .inl fk))] A) [.ref aS, .int p0].toArray s 0 0 A) (F0 m 62 ls []) := by
    intro y2_13 y3_14 kk_134 hkk_134 fz
    induction fz with
    | zero =>
      intro H locs x4_15 xrch_16 xco_17 xqu_18 xkn_19 ls hJ
      rw [J_X2_spreadFrom_L62] at hJ
      cases hJ
    | succ fz ih =>
      intro H locs x4_15 xrch_16 xco_17 xqu_18 xkn_19 ls hJ hP hD hS hl
      rw [J_X2_spreadFrom_L62] at hJ
      refine lv_iload hx hb dX2_spreadFrom_62 (lv_at hl 3 rfl) ?_
      refine lv_bipush (v := 6) hx hb dX2_spreadFrom_64 (by decide) ?_
      refine lv_icmp_ge (tgt := 134) hx hb dX2_spreadFrom_66 (by decide) (fun c_20 => ?_) (fun c_20 => ?_)
      · have hJ := j_t c_20 hJ
        exact hkk_134 H locs x4_15 xrch_16 xco_17 xqu_18 xkn_19 ls hJ hP hD hS (lv_sub hl [0, 1] rfl)
      · have hJ := j_f c_20 hJ
        refine lv_aload_n hx hb dX2_spreadFrom_69 rfl (lv_at hl 0 rfl) ?_
        refine va_get (D := D) (ci := 3) (v := .ref aC) (C := RX2) (T := TX2) (N := 4) hx hb hts iX2 hown hK hP 0 rfl rfl 0 (by decide) k_4 (fun _ h9 => h9) rfl dX2_spreadFrom_70 ?_
        refine lv_iload_n hx hb dX2_spreadFrom_73 rfl (lv_at hl 2 rfl) ?_
        refine lv_iload hx hb dX2_spreadFrom_74 (lv_at hl 3 rfl) ?_
        obtain ⟨v_21, hv_21, hJ⟩ := j_b hJ
        refine ro_i (va_runV (As := [.int y3_14, .int x4_15]) (rest := []) ⟨hx, hb, hml, hown, hts⟩ (c_X0_landing l D aC aKn aF aFu aFk cKn cFu cFk ln wd rd nKn xkn_19 w ht tn kp nFu fu nFk fk y3_14 x4_15 tX tY H.size F v_21 hv_21) (cwV 2 hts gX2_spreadFrom_X0_landing rfl rfl rfl (by decide +kernel) ⟨Nat.le_of_ble_eq_true rfl, Nat.le_of_ble_eq_true rfl⟩) (preRV [.int y3_14, .int x4_15] hP hK hS hA hST [3, 4, 5, 6, 7] rfl [2, 3, 4] rfl (ci := 1) (q0 := 3) rfl rfl) rfl rfl hl.1 rfl (lv_room (Nat.le_of_ble_eq_true rfl)) dX2_spreadFrom_76 ⟨Nat.zero_le _, Nat.zero_le _⟩) hP hS hA (fun H locs hP hS => ?_)
        refine lv_istore (lv' := [(5, .int v_21), (0, .ref aS), (2, .int y2_13), (3, .int y3_14), (4, .int x4_15)]) hx hb dX2_spreadFrom_79 hl (by decide) rfl (fun ls hl => ?_)
        refine lv_aload_n hx hb dX2_spreadFrom_81 rfl (lv_at hl 1 rfl) ?_
        refine lv_iload_n hx hb dX2_spreadFrom_82 rfl (lv_at hl 3 rfl) ?_
        obtain ⟨v_22, hv_22, hJ⟩ := j_b hJ
        refine ro_l (va_runV (As := [.int y3_14]) (rest := []) ⟨hx, hb, hml, hown, hts⟩ (c_X2_costAt l D aS aCo aQu aC aKn aF aFu aFk cCo cQu cKn cFu cFk xrch_16 nCo xco_17 nQu xqu_18 ln wd rd nKn xkn_19 w ht tn kp nFu fu nFk fk y3_14 tX tY H.size F v_22 hv_22) (cwV 1 hts gX2_spreadFrom_X2_costAt rfl rfl rfl (by decide +kernel) ⟨Nat.le_of_ble_eq_true rfl, Nat.le_of_ble_eq_true rfl⟩) (preRV [.int y3_14] hP hK hS hA hST [0, 1, 2, 3, 4, 5, 6, 7] rfl [0, 1, 2, 3, 4] rfl (ci := 3) (q0 := 0) rfl rfl) rfl rfl hl.1 rfl (lv_room (Nat.le_of_ble_eq_true rfl)) dX2_spreadFrom_83 ⟨Nat.zero_le _, Nat.zero_le _⟩) hP hS hA (fun H locs hP hS => ?_)
        refine lv_aload_n hx hb dX2_spreadFrom_86 rfl (lv_at hl 1 rfl) ?_
        refine lv_iload hx hb dX2_spreadFrom_87 (lv_at hl 4 rfl) ?_
        obtain ⟨v_23, hv_23, hJ⟩ := j_b hJ
        refine ro_l (va_runV (As := [.int x4_15]) (rest := [.long v_22]) ⟨hx, hb, hml, hown, hts⟩ (c_X2_costOf l D aS aCo aQu aC aKn aF aFu aFk cCo cQu cKn cFu cFk xrch_16 nCo xco_17 nQu xqu_18 ln wd rd nKn xkn_19 w ht tn kp nFu fu nFk fk x4_15 tX tY H.size F v_23 hv_23) (cwV 1 hts gX2_spreadFrom_X2_costOf rfl rfl rfl (by decide +kernel) ⟨Nat.le_of_ble_eq_true rfl, Nat.le_of_ble_eq_true rfl⟩) (preRV [.int x4_15] hP hK hS hA hST [0, 1, 2, 3, 4, 5, 6, 7] rfl [0, 1, 2, 3, 4] rfl (ci := 3) (q0 := 0) rfl rfl) rfl rfl hl.1 rfl (lv_room (Nat.le_of_ble_eq_true rfl)) dX2_spreadFrom_89 ⟨Nat.zero_le _, Nat.zero_le _⟩) hP hS hA (fun H locs hP hS => ?_)
        refine lv_ladd hx hb dX2_spreadFrom_92 ?_
        refine lv_lstore (lv' := [(6, .long (v_22 + v_23)), (5, .int v_21), (0, .ref aS), (2, .int y2_13), (3, .int y3_14), (4, .int x4_15)]) hx hb dX2_spreadFrom_93 hl (by decide) rfl (fun ls hl => ?_)
        refine lv_lload hx hb dX2_spreadFrom_95 (lv_at hl 0 rfl) ?_
        refine lv_aload_n hx hb dX2_spreadFrom_97 rfl (lv_at hl 2 rfl) ?_
        refine lv_iload hx hb dX2_spreadFrom_98 (lv_at hl 1 rfl) ?_
        obtain ⟨v_24, hv_24, hJ⟩ := j_b hJ
        refine ro_l (va_runV (As := [.int v_21]) (rest := [.long (v_22 + v_23)]) ⟨hx, hb, hml, hown, hts⟩ (c_X2_costAt l D aS aCo aQu aC aKn aF aFu aFk cCo cQu cKn cFu cFk xrch_16 nCo xco_17 nQu xqu_18 ln wd rd nKn xkn_19 w ht tn kp nFu fu nFk fk v_21 tX tY H.size F v_24 hv_24) (cwV 1 hts gX2_spreadFrom_X2_costAt rfl rfl rfl (by decide +kernel) ⟨Nat.le_of_ble_eq_true rfl, Nat.le_of_ble_eq_true rfl⟩) (preRV [.int v_21] hP hK hS hA hST [0, 1, 2, 3, 4, 5, 6, 7] rfl [0, 1, 2, 3, 4] rfl (ci := 3) (q0 := 0) rfl rfl) rfl rfl hl.1 rfl (lv_room (Nat.le_of_ble_eq_true rfl)) dX2_spreadFrom_100 ⟨Nat.zero_le _, Nat.zero_le _⟩) hP hS hA (fun H locs hP hS => ?_)
        refine W.lcmp hx hb dX2_spreadFrom_103 ?_
        refine lv_if_ge (tgt := 128) hx hb dX2_spreadFrom_104 (by decide) (fun c_25 => ?_) (fun c_25 => ?_)
        · have hJ := j_t c_25 hJ
          refine lv_iinc (v := (x4_15 + (1 : Int32))) (lv' := [(4, .int (x4_15 + (1 : Int32))), (6, .long (v_22 + v_23)), (5, .int v_21), (0, .ref aS), (2, .int y2_13), (3, .int y3_14)]) hx hb dX2_spreadFrom_128 hl (k := 5) rfl rfl (by decide) rfl (fun ls hl => ?_)
          refine lv_goto (tgt := 62) hx hb dX2_spreadFrom_131 (by decide) ?_
          exact ih H locs (x4_15 + (1 : Int32)) xrch_16 xco_17 xqu_18 xkn_19 ls hJ hP hD hS (lv_sub hl [3, 4, 5, 0] rfl)
        · have hJ := j_f c_25 hJ
          refine lv_aload_n hx hb dX2_spreadFrom_107 rfl (lv_at hl 2 rfl) ?_
          refine va_get (D := D) (ci := 3) (v := .ref aC) (C := RX2) (T := TX2) (N := 4) hx hb hts iX2 hown hK hP 0 rfl rfl 0 (by decide) k_4 (fun _ h9 => h9) rfl dX2_spreadFrom_108 ?_
          refine lv_iload_n hx hb dX2_spreadFrom_111 rfl (lv_at hl 4 rfl) ?_
          refine lv_iload hx hb dX2_spreadFrom_112 (lv_at hl 5 rfl) ?_
          obtain ⟨v_26, hv_26, hJ⟩ := j_b hJ
          refine wr_i (wr := [(aS, .inr (3, [.ref aC, .ref aCo, .ref aQu, .int xrch_16])), (aCo, .inl (cCo, nCo, .inr (.inl xco_17))), (aQu, .inl (cQu, nQu, .inl xqu_18))]) (wn := [(aS, .inr (3, [.ref aC, .ref aCo, .ref aQu, .int xrch_16])), (aCo, .inl (cCo, nCo, .inr (.inl xco_17))), (aQu, .inl (cQu, nQu, .inl xqu_18)), (aC, .inr (1, [.ref aF, .ref aKn, .int ln, .int wd, .int rd])), (aKn, .inl (cKn, nKn, .inl v_26.2)), (aF, .inr (2, [.int w, .int ht, .int tn, .ref aFu, .ref aFk, .int kp])), (aFu, .inl (cFu, nFu, .inl fu)), (aFk, .inl (cFk, nFk, .inl fk))]) (va_runV (As := [.int y3_14, .int x4_15]) (rest := []) ⟨hx, hb, hml, hown, hts⟩ (c_X0_mayMake l D aC aKn aF aFu aFk cKn cFu cFk ln wd rd nKn xkn_19 w ht tn kp nFu fu nFk fk y3_14 x4_15 tX tY H.size F v_26 hv_26) (cwV 2 hts gX2_spreadFrom_X0_mayMake rfl rfl rfl (by decide +kernel) ⟨Nat.le_of_ble_eq_true rfl, Nat.le_of_ble_eq_true rfl⟩) (preWV [.int y3_14, .int x4_15] hP hD hK hS hA hST [3, 4, 5, 6, 7] rfl rfl rfl [2, 3, 4] rfl (ci := 1) (q0 := 3) rfl rfl) rfl rfl hl.1 rfl (lv_room (Nat.le_of_ble_eq_true rfl)) dX2_spreadFrom_114 ⟨Nat.zero_le _, Nat.zero_le _⟩) hP hD hS hA [3, 4, 5, 6, 7] [0, 1, 2] rfl rfl rfl (by decide) [0, 1, 2, 3, 4, 5, 6, 7] rfl rfl rfl (fun H locs hP hD hS => ?_)
          refine lv_if_eq (tgt := 128) hx hb dX2_spreadFrom_117 (by decide) (fun c_27 => ?_) (fun c_27 => ?_)
          · have hJ := j_t c_27 hJ
            refine lv_iinc (v := (x4_15 + (1 : Int32))) (lv' := [(4, .int (x4_15 + (1 : Int32))), (6, .long (v_22 + v_23)), (5, .int v_21), (0, .ref aS), (2, .int y2_13), (3, .int y3_14)]) hx hb dX2_spreadFrom_128 hl (k := 5) rfl rfl (by decide) rfl (fun ls hl => ?_)
            refine lv_goto (tgt := 62) hx hb dX2_spreadFrom_131 (by decide) ?_
            exact ih H locs (x4_15 + (1 : Int32)) xrch_16 xco_17 xqu_18 v_26.2 ls hJ hP hD hS (lv_sub hl [3, 4, 5, 0] rfl)
          · have hJ := j_f c_27 hJ
            refine lv_aload_n hx hb dX2_spreadFrom_120 rfl (lv_at hl 2 rfl) ?_
            refine lv_iload hx hb dX2_spreadFrom_121 (lv_at hl 1 rfl) ?_
            refine lv_lload hx hb dX2_spreadFrom_123 (lv_at hl 0 rfl) ?_
            obtain ⟨v_28, hv_28, hJ⟩ := j_b hJ
            refine wr_v (wr := []) (wn := [(aS, .inr (3, [.ref aC, .ref aCo, .ref aQu, .int v_28.1])), (aCo, .inl (cCo, nCo, .inr (.inl v_28.2.1))), (aQu, .inl (cQu, nQu, .inl v_28.2.2)), (aC, .inr (1, [.ref aF, .ref aKn, .int ln, .int wd, .int rd])), (aKn, .inl (cKn, nKn, .inl v_26.2)), (aF, .inr (2, [.int w, .int ht, .int tn, .ref aFu, .ref aFk, .int kp])), (aFu, .inl (cFu, nFu, .inl fu)), (aFk, .inl (cFk, nFk, .inl fk))]) (va_runV (As := [.int v_21, .long (v_22 + v_23)]) (rest := []) ⟨hx, hb, hml, hown, hts⟩ (c_X2_reach l D aS aCo aQu aC aKn aF aFu aFk cCo cQu cKn cFu cFk xrch_16 nCo xco_17 nQu xqu_18 ln wd rd nKn v_26.2 w ht tn kp nFu fu nFk fk v_21 (v_22 + v_23) tX tY H.size F v_28 hv_28) (cwV 2 hts gX2_spreadFrom_X2_reach rfl rfl rfl (by decide +kernel) ⟨Nat.le_of_ble_eq_true rfl, Nat.le_of_ble_eq_true rfl⟩) (preWV [.int v_21, .long (v_22 + v_23)] hP hD hK hS hA hST [0, 1, 2, 3, 4, 5, 6, 7] rfl rfl rfl [0, 1, 2, 3, 4] rfl (ci := 3) (q0 := 0) rfl rfl) rfl rfl hl.1 rfl (lv_room (Nat.le_of_ble_eq_true rfl)) dX2_spreadFrom_125 ⟨Nat.zero_le _, Nat.zero_le _⟩) hP hD hS hA [0, 1, 2, 3, 4, 5, 6, 7] [] rfl rfl rfl (by decide) [0, 1, 2, 3, 4, 5, 6, 7] rfl rfl rfl (fun H locs hP hD hS => ?_)
            refine lv_iinc (v := (x4_15 + (1 : Int32))) (lv' := [(4, .int (x4_15 + (1 : Int32))), (6, .long (v_22 + v_23)), (5, .int v_21), (0, .ref aS), (2, .int y2_13), (3, .int y3_14)]) hx hb dX2_spreadFrom_128 hl (k := 5) rfl rfl (by decide) rfl (fun ls hl => ?_)
            refine lv_goto (tgt := 62) hx hb dX2_spreadFrom_131 (by decide) ?_
            exact ih H locs (x4_15 + (1 : Int32)) v_28.1 v_28.2.1 v_28.2.2 v_26.2 ls hJ hP hD hS (lv_sub hl [3, 4, 5, 0] rfl)
  have L_35 : ∀ (kk_140 : Int32 → Int32 → (Nat → Int64) → (Nat → Int32) → (Nat → Int32) → Option (Int32 × (Nat → Int64) × (Nat → Int32) × (Nat → Int32))) (hkk_140 : ∀ (H : Heap) (locs : List Loc) (x2_5 : Int32) (xrch_6 : Int32) (xco_7 : Nat → Int64) (xqu_8 : Nat → Int32) (xkn_9 : Nat → Int32) (ls : Array Slot), kk_140 x2_5 xrch_6 xco_7 xqu_8 xkn_9 = some o → va_P D vwCl [(aS, .inr (3, [.ref aC, .ref aCo, .ref aQu, .int xrch_6])), (aCo, .inl (cCo, nCo, .inr (.inl xco_7))), (aQu, .inl (cQu, nQu, .inl xqu_8)), (aC, .inr (1, [.ref aF, .ref aKn, .int ln, .int wd, .int rd])), (aKn, .inl (cKn, nKn, .inl xkn_9)), (aF, .inr (2, [.int w, .int ht, .int tn, .ref aFu, .ref aFk, .int kp])), (aFu, .inl (cFu, nFu, .inl fu)), (aFk, .inl (cFk, nFk, .inl fk))] H → va_D A [(aS, .inr (3, [.ref aC, .ref aCo, .ref aQu, .int xrch_6])), (aCo, .inl (cCo, nCo, .inr (.inl xco_7))), (aQu, .inl (cQu, nQu, .inl xqu_8)), (aC, .inr (1, [.ref aF, .ref aKn, .int ln, .int wd, .int rd])), (aKn, .inl (cKn, nKn, .inl xkn_9)), (aF, .inr (2, [.int w, .int ht, .int tn, .ref aFu, .ref aFk, .int kp])), (aFu, .inl (cFu, nFu, .inl fu)), (aFk, .inl (cFk, nFk, .inl fk))] → va_S A s.heap H locs → lv_has ls 8 [] → W p l e (headSpec wsX2_spreadFrom rmX2_spreadFrom).room s m [.ref aS, .int p0].toArray below meth c H locs 0 0 (MQ below (qWv D [(aS, .inr (3, [.ref aC, .ref aCo, .ref aQu, .int o.1])), (aCo, .inl (cCo, nCo, .inr (.inl o.2.1))), (aQu, .inl (cQu, nQu, .inl o.2.2.1)), (aC, .inr (1, [.ref aF, .ref aKn, .int ln, .int wd, .int rd])), (aKn, .inl (cKn, nKn, .inl o.2.2.2)), (aF, .inr (2, [.int w, .int ht, .int tn, .ref aFu, .ref aFk, .int kp])), (aFu, .inl (cFu, nFu, .inl fu)), (aFk, .inl (cFk, nFk, .inl fk))] A) [.ref aS, .int p0].toArray s 0 0 A) (F0 m 140 ls [])) (fz : Nat) (H : Heap) (locs : List Loc) (x2_5 : Int32) (xrch_6 : Int32) (xco_7 : Nat → Int64) (xqu_8 : Nat → Int32) (xkn_9 : Nat → Int32) (ls : Array Slot), J_X2_spreadFrom_L35 F nCo nQu ln wd rd nKn w ht tn nFk fk kk_140 fz x2_5 xrch_6 xco_7 xqu_8 xkn_9 = some o → va_P D vwCl [(aS, .inr (3, [.ref aC, .ref aCo, .ref aQu, .int xrch_6])), (aCo, .inl (cCo, nCo, .inr (.inl xco_7))), (aQu, .inl (cQu, nQu, .inl xqu_8)), (aC, .inr (1, [.ref aF, .ref aKn, .int ln, .int wd, .int rd])), (aKn, .inl (cKn, nKn, .inl xkn_9)), (aF, .inr (2, [.int w, .int ht, .int tn, .ref aFu, .ref aFk, .int kp])), (aFu, .inl (cFu, nFu, .inl fu)), (aFk, .inl (cFk, nFk, .inl fk))] H → va_D A [(aS, .inr (3, [.ref aC, .ref aCo, .ref aQu, .int xrch_6])), (aCo, .inl (cCo, nCo, .inr (.inl xco_7))), (aQu, .inl (cQu, nQu, .inl xqu_8)), (aC, .inr (1, [.ref aF, .ref aKn, .int ln, .int wd, .int rd])), (aKn, .inl (cKn, nKn, .inl xkn_9)), (aF, .inr (2, [.int w, .int ht, .int tn, .ref aFu, .ref aFk, .int kp])), (aFu, .inl (cFu, nFu, .inl fu)), (aFk, .inl (cFk, nFk, .inl fk))] → va_S A s.heap H locs → lv_has ls 8 [(0, .ref aS), (2, .int x2_5)] → W p l e (headSpec wsX2_spreadFrom rmX2_spreadFrom).room s m [.ref aS, .int p0].toArray below meth c H locs 0 0 (MQ below (qWv D [(aS, .inr (3, [.ref aC, .ref aCo, .ref aQu, .int o.1])), (aCo, .inl (cCo, nCo, .inr (.inl o.2.1))), (aQu, .inl (cQu, nQu, .inl o.2.2.1)), (aC, .inr (1, [.ref aF, .ref aKn, .int ln, .int wd, .int rd])), (aKn, .inl (cKn, nKn, .inl o.2.2.2)), (aF, .inr (2, [.int w, .int ht, .int tn, .ref aFu, .ref aFk, .int kp])), (aFu, .inl (cFu, nFu, .inl fu)), (aFk, .inl (cFk, nFk, .inl fk))] A) [.ref aS, .int p0].toArray s 0 0 A) (F0 m 35 ls []) := by
    intro kk_140 hkk_140 fz
    induction fz with
    | zero =>
      intro H locs x2_5 xrch_6 xco_7 xqu_8 xkn_9 ls hJ
      rw [J_X2_spreadFrom_L35] at hJ
      cases hJ
    | succ fz ih =>
      intro H locs x2_5 xrch_6 xco_7 xqu_8 xkn_9 ls hJ hP hD hS hl
      rw [J_X2_spreadFrom_L35] at hJ
      refine lv_iload_n hx hb dX2_spreadFrom_35 rfl (lv_at hl 1 rfl) ?_
      refine lv_aload_n hx hb dX2_spreadFrom_36 rfl (lv_at hl 0 rfl) ?_
      refine va_get (D := D) (ci := 3) (v := .int xrch_6) (C := RX2) (T := TX2) (N := 4) hx hb hts iX2 hown hK hP 0 rfl rfl 3 (by decide) k_3 (fun _ h9 => h9) rfl dX2_spreadFrom_37 ?_
      refine lv_icmp_ge (tgt := 140) hx hb dX2_spreadFrom_40 (by decide) (fun c_10 => ?_) (fun c_10 => ?_)
      · have hJ := j_t c_10 hJ
        exact hkk_140 H locs x2_5 xrch_6 xco_7 xqu_8 xkn_9 ls hJ hP hD hS (lv_sub hl [] rfl)
      · have hJ := j_f c_10 hJ
        refine lv_iload_n hx hb dX2_spreadFrom_43 rfl (lv_at hl 1 rfl) ?_
        refine lv_aload_n hx hb dX2_spreadFrom_44 rfl (lv_at hl 0 rfl) ?_
        refine va_get (D := D) (ci := 3) (v := .ref aQu) (C := RX2) (T := TX2) (N := 4) hx hb hts iX2 hown hK hP 0 rfl rfl 2 (by decide) k_5 (fun _ h9 => h9) rfl dX2_spreadFrom_45 ?_
        refine va_alen hx hb hK hP 2 1 rfl rfl (v := nI nQu) rfl dX2_spreadFrom_48 ?_
        refine lv_icmp_ge (tgt := 140) hx hb dX2_spreadFrom_49 (by decide) (fun c_11 => ?_) (fun c_11 => ?_)
        · have hJ := j_t c_11 hJ
          exact hkk_140 H locs x2_5 xrch_6 xco_7 xqu_8 xkn_9 ls hJ hP hD hS (lv_sub hl [] rfl)
        · have hJ := j_f c_11 hJ
          refine lv_aload_n hx hb dX2_spreadFrom_52 rfl (lv_at hl 0 rfl) ?_
          refine va_get (D := D) (ci := 3) (v := .ref aQu) (C := RX2) (T := TX2) (N := 4) hx hb hts iX2 hown hK hP 0 rfl rfl 2 (by decide) k_5 (fun _ h9 => h9) rfl dX2_spreadFrom_53 ?_
          refine lv_iload_n hx hb dX2_spreadFrom_56 rfl (lv_at hl 1 rfl) ?_
          obtain ⟨h_12, hJ⟩ := g_in hJ
          refine va_iald hx hb hK hP 2 1 rfl rfl h_12 dX2_spreadFrom_57 ?_
          refine lv_istore_n (lv' := [(3, .int (xqu_8 x2_5.toNatClampNeg)), (0, .ref aS), (2, .int x2_5)]) hx hb dX2_spreadFrom_58 rfl hl (by decide) rfl (fun ls hl => ?_)
          refine lv_iconst (v := 0) hx hb dX2_spreadFrom_59 (by decide) ?_
          refine lv_istore (lv' := [(4, .int (0 : Int32)), (3, .int (xqu_8 x2_5.toNatClampNeg)), (0, .ref aS), (2, .int x2_5)]) hx hb dX2_spreadFrom_60 hl (by decide) rfl (fun ls hl => ?_)
          refine L_62 x2_5 (xqu_8 x2_5.toNatClampNeg) _ ?_ F H locs (0 : Int32) xrch_6 xco_7 xqu_8 xkn_9 ls hJ hP hD hS (lv_sub hl [2, 3, 1, 0] rfl)
          · intro H locs x4_29 xrch_30 xco_31 xqu_32 xkn_33 ls hJ hP hD hS hl
            refine lv_iinc (v := (x2_5 + (1 : Int32))) (lv' := [(2, .int (x2_5 + (1 : Int32))), (0, .ref aS)]) hx hb dX2_spreadFrom_134 hl (k := 1) rfl rfl (by decide) rfl (fun ls hl => ?_)
            refine lv_goto (tgt := 35) hx hb dX2_spreadFrom_137 (by decide) ?_
            exact ih H locs (x2_5 + (1 : Int32)) xrch_30 xco_31 xqu_32 xkn_33 ls hJ hP hD hS (lv_sub hl [1, 0] rfl)
  unfold J_X2_spreadFrom at hJ
  refine lv_aload_n hx hb dX2_spreadFrom_0 rfl (lv_at hl 0 rfl) ?_
  refine va_get (D := D) (ci := 3) (v := .ref aCo) (C := RX2) (T := TX2) (N := 4) hx hb hts iX2 hown hK hP 0 rfl rfl 1 (by decide) k_1 (fun _ h9 => h9) rfl dX2_spreadFrom_1 ?_
  refine lv_ldc2 (v := 1152921504606846976) hx hb hown k_2 dX2_spreadFrom_4 ?_
  obtain ⟨v_1, hv_1, hJ⟩ := j_b hJ
  refine wr_v (wr := [(aS, .inr (3, [.ref aC, .ref aCo, .ref aQu, .int rch])), (aQu, .inl (cQu, nQu, .inl qu)), (aC, .inr (1, [.ref aF, .ref aKn, .int ln, .int wd, .int rd])), (aKn, .inl (cKn, nKn, .inl kn)), (aF, .inr (2, [.int w, .int ht, .int tn, .ref aFu, .ref aFk, .int kp])), (aFu, .inl (cFu, nFu, .inl fu)), (aFk, .inl (cFk, nFk, .inl fk))]) (wn := [(aS, .inr (3, [.ref aC, .ref aCo, .ref aQu, .int rch])), (aCo, .inl (cCo, nCo, .inr (.inl v_1))), (aQu, .inl (cQu, nQu, .inl qu)), (aC, .inr (1, [.ref aF, .ref aKn, .int ln, .int wd, .int rd])), (aKn, .inl (cKn, nKn, .inl kn)), (aF, .inr (2, [.int w, .int ht, .int tn, .ref aFu, .ref aFk, .int kp])), (aFu, .inl (cFu, nFu, .inl fu)), (aFk, .inl (cFk, nFk, .inl fk))]) (va_runS (As := [.ref aCo, .long (1152921504606846976 : Int64)]) (rest := []) ⟨hx, hb, hml, hown, hts⟩ (c_J7_fill_d0a16 l D aCo cCo nCo co (1152921504606846976 : Int64) tX tY s.heap.size F v_1 hv_1) (va_cwS 2 hts gX2_spreadFrom_J7_fill_d0a16 rfl rfl rfl (by decide +kernel) ⟨Nat.le_of_ble_eq_true rfl, Nat.le_of_ble_eq_true rfl⟩) (preWS [.ref aCo, .long (1152921504606846976 : Int64)] hP hD hK hS hA hST [1] rfl rfl rfl [0] rfl) rfl rfl hl.1 rfl (lv_room (Nat.le_of_ble_eq_true rfl)) dX2_spreadFrom_7 ⟨Nat.zero_le _, Nat.zero_le _⟩) hP hD hS hA [1] [0, 2, 3, 4, 5, 6, 7] rfl rfl rfl (by decide) [0, 7, 1, 2, 3, 4, 5, 6] rfl rfl rfl (fun H locs hP hD hS => ?_)
  refine lv_aload_n hx hb dX2_spreadFrom_10 rfl (lv_at hl 0 rfl) ?_
  refine lv_iconst (v := 0) hx hb dX2_spreadFrom_11 (by decide) ?_
  refine va_put (D := D) (ci := 3) (v := .int (0 : Int32)) (ty := .int) (C := RX2) (T := TX2) (N := 4) hx hb hts iX2 tyX2 tyX2_ok nmX2 hown hK hP hD hS 0 rfl rfl 3 (by decide) k_3 (fun _ h9 => h9) rfl (by decide +kernel) rfl rfl (Nat.le_of_ble_eq_true rfl) dX2_spreadFrom_12 (fun H locs hP hD hS => ?_)
  have hP : va_P D vwCl [(aS, .inr (3, [.ref aC, .ref aCo, .ref aQu, .int (0 : Int32)])), (aCo, .inl (cCo, nCo, .inr (.inl v_1))), (aQu, .inl (cQu, nQu, .inl qu)), (aC, .inr (1, [.ref aF, .ref aKn, .int ln, .int wd, .int rd])), (aKn, .inl (cKn, nKn, .inl kn)), (aF, .inr (2, [.int w, .int ht, .int tn, .ref aFu, .ref aFk, .int kp])), (aFu, .inl (cFu, nFu, .inl fu)), (aFk, .inl (cFk, nFk, .inl fk))] H := hP
  have hD : va_D A [(aS, .inr (3, [.ref aC, .ref aCo, .ref aQu, .int (0 : Int32)])), (aCo, .inl (cCo, nCo, .inr (.inl v_1))), (aQu, .inl (cQu, nQu, .inl qu)), (aC, .inr (1, [.ref aF, .ref aKn, .int ln, .int wd, .int rd])), (aKn, .inl (cKn, nKn, .inl kn)), (aF, .inr (2, [.int w, .int ht, .int tn, .ref aFu, .ref aFk, .int kp])), (aFu, .inl (cFu, nFu, .inl fu)), (aFk, .inl (cFk, nFk, .inl fk))] := hD
  refine lv_aload_n hx hb dX2_spreadFrom_15 rfl (lv_at hl 0 rfl) ?_
  refine va_get (D := D) (ci := 3) (v := .ref aC) (C := RX2) (T := TX2) (N := 4) hx hb hts iX2 hown hK hP 0 rfl rfl 0 (by decide) k_4 (fun _ h9 => h9) rfl dX2_spreadFrom_16 ?_
  refine lv_iload_n hx hb dX2_spreadFrom_19 rfl (lv_at hl 1 rfl) ?_
  obtain ⟨v_2, hv_2, hJ⟩ := j_b hJ
  refine wr_i (wr := [(aS, .inr (3, [.ref aC, .ref aCo, .ref aQu, .int (0 : Int32)])), (aCo, .inl (cCo, nCo, .inr (.inl v_1))), (aQu, .inl (cQu, nQu, .inl qu))]) (wn := [(aS, .inr (3, [.ref aC, .ref aCo, .ref aQu, .int (0 : Int32)])), (aCo, .inl (cCo, nCo, .inr (.inl v_1))), (aQu, .inl (cQu, nQu, .inl qu)), (aC, .inr (1, [.ref aF, .ref aKn, .int ln, .int wd, .int rd])), (aKn, .inl (cKn, nKn, .inl v_2.2)), (aF, .inr (2, [.int w, .int ht, .int tn, .ref aFu, .ref aFk, .int kp])), (aFu, .inl (cFu, nFu, .inl fu)), (aFk, .inl (cFk, nFk, .inl fk))]) (va_runV (As := [.int p0]) (rest := []) ⟨hx, hb, hml, hown, hts⟩ (c_X0_isFree l D aC aKn aF aFu aFk cKn cFu cFk ln wd rd nKn kn w ht tn kp nFu fu nFk fk p0 tX tY H.size F v_2 hv_2) (cwV 1 hts gX2_spreadFrom_X0_isFree rfl rfl rfl (by decide +kernel) ⟨Nat.le_of_ble_eq_true rfl, Nat.le_of_ble_eq_true rfl⟩) (preWV [.int p0] hP hD hK hS hA hST [3, 4, 5, 6, 7] rfl rfl rfl [2, 3, 4] rfl (ci := 1) (q0 := 3) rfl rfl) rfl rfl hl.1 rfl (lv_room (Nat.le_of_ble_eq_true rfl)) dX2_spreadFrom_20 ⟨Nat.zero_le _, Nat.zero_le _⟩) hP hD hS hA [3, 4, 5, 6, 7] [0, 1, 2] rfl rfl rfl (by decide) [0, 1, 2, 3, 4, 5, 6, 7] rfl rfl rfl (fun H locs hP hD hS => ?_)
  refine lv_if_ne (tgt := 27) hx hb dX2_spreadFrom_23 (by decide) (fun c_3 => ?_) (fun c_3 => ?_)
  · have hJ := j_f c_3 hJ
    refine lv_aload_n hx hb dX2_spreadFrom_27 rfl (lv_at hl 0 rfl) ?_
    refine lv_iload_n hx hb dX2_spreadFrom_28 rfl (lv_at hl 1 rfl) ?_
    refine lv_lconst (v := 0) hx hb dX2_spreadFrom_29 (by decide) ?_
    obtain ⟨v_4, hv_4, hJ⟩ := j_b hJ
    refine wr_v (wr := []) (wn := [(aS, .inr (3, [.ref aC, .ref aCo, .ref aQu, .int v_4.1])), (aCo, .inl (cCo, nCo, .inr (.inl v_4.2.1))), (aQu, .inl (cQu, nQu, .inl v_4.2.2)), (aC, .inr (1, [.ref aF, .ref aKn, .int ln, .int wd, .int rd])), (aKn, .inl (cKn, nKn, .inl v_2.2)), (aF, .inr (2, [.int w, .int ht, .int tn, .ref aFu, .ref aFk, .int kp])), (aFu, .inl (cFu, nFu, .inl fu)), (aFk, .inl (cFk, nFk, .inl fk))]) (va_runV (As := [.int p0, .long (0 : Int64)]) (rest := []) ⟨hx, hb, hml, hown, hts⟩ (c_X2_reach l D aS aCo aQu aC aKn aF aFu aFk cCo cQu cKn cFu cFk (0 : Int32) nCo v_1 nQu qu ln wd rd nKn v_2.2 w ht tn kp nFu fu nFk fk p0 (0 : Int64) tX tY H.size F v_4 hv_4) (cwV 2 hts gX2_spreadFrom_X2_reach rfl rfl rfl (by decide +kernel) ⟨Nat.le_of_ble_eq_true rfl, Nat.le_of_ble_eq_true rfl⟩) (preWV [.int p0, .long (0 : Int64)] hP hD hK hS hA hST [0, 1, 2, 3, 4, 5, 6, 7] rfl rfl rfl [0, 1, 2, 3, 4] rfl (ci := 3) (q0 := 0) rfl rfl) rfl rfl hl.1 rfl (lv_room (Nat.le_of_ble_eq_true rfl)) dX2_spreadFrom_30 ⟨Nat.zero_le _, Nat.zero_le _⟩) hP hD hS hA [0, 1, 2, 3, 4, 5, 6, 7] [] rfl rfl rfl (by decide) [0, 1, 2, 3, 4, 5, 6, 7] rfl rfl rfl (fun H locs hP hD hS => ?_)
    refine lv_iconst (v := 0) hx hb dX2_spreadFrom_33 (by decide) ?_
    refine lv_istore_n (lv' := [(2, .int (0 : Int32)), (0, .ref aS), (1, .int p0)]) hx hb dX2_spreadFrom_34 rfl hl (by decide) rfl (fun ls hl => ?_)
    refine L_35 _ ?_ F H locs (0 : Int32) v_4.1 v_4.2.1 v_4.2.2 v_2.2 ls hJ hP hD hS (lv_sub hl [1, 0] rfl)
    · intro H locs x2_34 xrch_35 xco_36 xqu_37 xkn_38 ls hJ hP hD hS hl
      have ho := Option.some.inj hJ
      exact W.vret hx hb hr (fun t ht hW => ⟨⟨(), rfl, trivial, (by rw [ht, ← ho]; exact hP), (by rw [← ho]; exact hD)⟩, hS.F ht⟩) hS.2.2 dX2_spreadFrom_140
  · have hJ := j_t c_3 hJ
    have ho := Option.some.inj hJ
    exact W.vret hx hb hr (fun t ht hW => ⟨⟨(), rfl, trivial, (by rw [ht, ← ho]; exact hP), (by rw [← ho]; exact hD)⟩, hS.F ht⟩) hS.2.2 dX2_spreadFrom_26
