set_option maxHeartbeats 4000000 in
set_option maxRecDepth 100000 in
theorem c_X5_thrown (l : Launch) (D : va_G) (aM aMf aNm aBe aFa aCs aFr aRo aNe : Nat) (cMf cNm cBe cFa cCs cFr cRo cNe : ClassId) (cod : Int32) (w : Int32) (ht : Int32) (fou : Int32) (ln : Int32) (wd : Int32) (rd : Int32) (kp : Int32) (car : Int32) (hom : Int32) (gol : Int32) (hld : Int32) (err : UInt64) (isw : Int32) (mvs : Int32) (mde : Int32) (exa : Int32) (lst : Int64) (mf : Nat → Int32) (nm : Nat → Int32) (be : Nat → Int32) (fa : Nat → Int32) (cs : Nat → Int32) (fr : Nat → Int32) (ro : Nat → Int32) (ne : Nat → Int32) (tX tY sz F : Nat) (o : Int32) (hJ : J_X5_thrown F cod = some o) : Met l yX5_thrown wsX5_thrown rmX5_thrown (va_Pc [.ref aM] (pcR D [(aM, .inr (6, [.int cod, .int w, .int ht, .int fou, .ref aMf, .int ln, .int wd, .int rd, .int kp, .int car, .int hom, .int gol, .int hld, .double err, .int isw, .int mvs, .int mde, .ref aNm, .ref aBe, .int exa, .long lst, .ref aFa, .ref aCs, .ref aFr, .ref aRo, .ref aNe])), (aMf, .inl (cMf, 576, .inl mf)), (aNm, .inl (cNm, 4608, .inl nm)), (aBe, .inl (cBe, 4608, .inl be)), (aFa, .inl (cFa, 4608, .inl fa)), (aCs, .inl (cCs, 4608, .inl cs)), (aFr, .inl (cFr, 4608, .inl fr)), (aRo, .inl (cRo, 4608, .inl ro)), (aNe, .inl (cNe, 576, .inl ne))] [(cMf, .boolean), (cNm, .int), (cBe, .int), (cFa, .int), (cCs, .int), (cFr, .boolean), (cRo, .int), (cNe, .int)] sz tX tY)) (qRi o (va_A [] sz)) 0 0 (va_A [] sz) := by
  refine Met.ofW (cc := cX5_thrown) (maxL := 1) (ret := (some .int)) (by decide) rfl ?_
  intro p e s m args below meth c s₁ B hml hv
  obtain ⟨rfl, hsz, hP, hK, hST⟩ := hv
  have hx := B.exec
  have hb := B.bytes
  have hr := B.returns
  have hts := atoms_spec (ws := wsX5_thrown) B.pre
  have hown : s.vm.findClass RX5 = some m.cls := findClass_of_methodNamed B.named
  have hlocks := B.notSynchronized
  subst hsz
  generalize hAe : va_A [] s.heap.size = A at hST ⊢
  have hA : ∀ q : Nat, s.heap.size ≤ q → A q := fun q h => by rw [← hAe]; exact Or.inr h
  have hS : va_S A s.heap s.heap [] := va_S.rf
  have hl := lv_entry ([.ref aM]) (n := 1) (Nat.le_of_ble_eq_true rfl)
  rw [lg_entry_eq]
  generalize (lg_sl ([.ref aM]) ++ List.replicate (1 - (lg_sl ([.ref aM])).length) Slot.unset).toArray = ls at hl ⊢
  have hl : lv_has ls 1 [(0, .ref aM)] := hl
  have iX5 : ∀ w ∈ wsX50, w ∈ wsX5_thrown := fun w h => List.mem_cons_of_mem _ (List.mem_append_right _ h)
  have k_1 := hts (.fieldLink RX5 58 "ParkWaysModel" "code" "I") (List.mem_of_getElem? (i := 1) rfl)
  unfold J_X5_thrown at hJ
  refine lv_aload_n hx hb dX5_thrown_0 rfl (lv_at hl 0 rfl) ?_
  refine va_get (D := D) (ci := 6) (v := .int cod) (C := RX5) (T := TX5) (N := 26) hx hb hts iX5 hown hK hP 0 rfl rfl 0 (by decide) k_1 (fun _ h9 => h9) rfl dX5_thrown_1 ?_
  have ho := Option.some.inj hJ
  exact W.iret (v := cod) hx hb hr (fun t ht hW => ⟨⟨_, (), rfl, ho, trivial⟩, hS.F ht⟩) hS.2.2 dX5_thrown_4
set_option maxHeartbeats 4000000 in
set_option maxRecDepth 100000 in
theorem c_X5_isCell (l : Launch) (D : va_G) (aM aMf aNm aBe aFa aCs aFr aRo aNe : Nat) (cMf cNm cBe cFa cCs cFr cRo cNe : ClassId) (cod : Int32) (w : Int32) (ht : Int32) (fou : Int32) (ln : Int32) (wd : Int32) (rd : Int32) (kp : Int32) (car : Int32) (hom : Int32) (gol : Int32) (hld : Int32) (err : UInt64) (isw : Int32) (mvs : Int32) (mde : Int32) (exa : Int32) (lst : Int64) (mf : Nat → Int32) (nm : Nat → Int32) (be : Nat → Int32) (fa : Nat → Int32) (cs : Nat → Int32) (fr : Nat → Int32) (ro : Nat → Int32) (ne : Nat → Int32) (p0 : Int32) (p1 : Int32) (tX tY sz F : Nat) (o : Int32) (hJ : J_X5_isCell F w ht p0 p1 = some o) : Met l yX5_isCell wsX5_isCell rmX5_isCell (va_Pc [.ref aM, .int p0, .int p1] (pcR D [(aM, .inr (6, [.int cod, .int w, .int ht, .int fou, .ref aMf, .int ln, .int wd, .int rd, .int kp, .int car, .int hom, .int gol, .int hld, .double err, .int isw, .int mvs, .int mde, .ref aNm, .ref aBe, .int exa, .long lst, .ref aFa, .ref aCs, .ref aFr, .ref aRo, .ref aNe])), (aMf, .inl (cMf, 576, .inl mf)), (aNm, .inl (cNm, 4608, .inl nm)), (aBe, .inl (cBe, 4608, .inl be)), (aFa, .inl (cFa, 4608, .inl fa)), (aCs, .inl (cCs, 4608, .inl cs)), (aFr, .inl (cFr, 4608, .inl fr)), (aRo, .inl (cRo, 4608, .inl ro)), (aNe, .inl (cNe, 576, .inl ne))] [(cMf, .boolean), (cNm, .int), (cBe, .int), (cFa, .int), (cCs, .int), (cFr, .boolean), (cRo, .int), (cNe, .int)] sz tX tY)) (qRi o (va_A [] sz)) 0 0 (va_A [] sz) := by
  refine Met.ofW (cc := cX5_isCell) (maxL := 3) (ret := (some .boolean)) (by decide) rfl ?_
  intro p e s m args below meth c s₁ B hml hv
  obtain ⟨rfl, hsz, hP, hK, hST⟩ := hv
  have hx := B.exec
  have hb := B.bytes
  have hr := B.returns
  have hts := atoms_spec (ws := wsX5_isCell) B.pre
  have hown : s.vm.findClass RX5 = some m.cls := findClass_of_methodNamed B.named
  have hlocks := B.notSynchronized
  subst hsz
  generalize hAe : va_A [] s.heap.size = A at hST ⊢
  have hA : ∀ q : Nat, s.heap.size ≤ q → A q := fun q h => by rw [← hAe]; exact Or.inr h
  have hS : va_S A s.heap s.heap [] := va_S.rf
  have hl := lv_entry ([.ref aM, .int p0, .int p1]) (n := 3) (Nat.le_of_ble_eq_true rfl)
  rw [lg_entry_eq]
  generalize (lg_sl ([.ref aM, .int p0, .int p1]) ++ List.replicate (3 - (lg_sl ([.ref aM, .int p0, .int p1])).length) Slot.unset).toArray = ls at hl ⊢
  have hl : lv_has ls 3 [(0, .ref aM), (1, .int p0), (2, .int p1)] := hl
  have iX5 : ∀ w ∈ wsX50, w ∈ wsX5_isCell := fun w h => List.mem_cons_of_mem _ (List.mem_append_right _ h)
  have k_1 := hts (.fieldLink RX5 49 "ParkWaysModel" "width" "I") (List.mem_of_getElem? (i := 1) rfl)
  have k_2 := hts (.fieldLink RX5 52 "ParkWaysModel" "height" "I") (List.mem_of_getElem? (i := 2) rfl)
  unfold J_X5_isCell at hJ
  refine lv_iload_n hx hb dX5_isCell_0 rfl (lv_at hl 1 rfl) ?_
  refine lv_if_lt (tgt := 28) hx hb dX5_isCell_1 (by decide) (fun c_1 => ?_) (fun c_1 => ?_)
  · have hJ := j_t c_1 hJ
    refine lv_iconst (v := 0) hx hb dX5_isCell_28 (by decide) ?_
    have ho := Option.some.inj hJ
    exact W.zret (v := (0 : Int32)) hx hb hr rfl (fun t ht hW => ⟨⟨_, (), rfl, ho, trivial⟩, hS.F ht⟩) hS.2.2 dX5_isCell_29
  · have hJ := j_f c_1 hJ
    refine lv_iload_n hx hb dX5_isCell_4 rfl (lv_at hl 1 rfl) ?_
    refine lv_aload_n hx hb dX5_isCell_5 rfl (lv_at hl 0 rfl) ?_
    refine va_get (D := D) (ci := 6) (v := .int w) (C := RX5) (T := TX5) (N := 26) hx hb hts iX5 hown hK hP 0 rfl rfl 1 (by decide) k_1 (fun _ h9 => h9) rfl dX5_isCell_6 ?_
    refine lv_icmp_ge (tgt := 28) hx hb dX5_isCell_9 (by decide) (fun c_2 => ?_) (fun c_2 => ?_)
    · have hJ := j_t c_2 hJ
      refine lv_iconst (v := 0) hx hb dX5_isCell_28 (by decide) ?_
      have ho := Option.some.inj hJ
      exact W.zret (v := (0 : Int32)) hx hb hr rfl (fun t ht hW => ⟨⟨_, (), rfl, ho, trivial⟩, hS.F ht⟩) hS.2.2 dX5_isCell_29
    · have hJ := j_f c_2 hJ
      refine lv_iload_n hx hb dX5_isCell_12 rfl (lv_at hl 2 rfl) ?_
      refine lv_if_lt (tgt := 28) hx hb dX5_isCell_13 (by decide) (fun c_3 => ?_) (fun c_3 => ?_)
      · have hJ := j_t c_3 hJ
        refine lv_iconst (v := 0) hx hb dX5_isCell_28 (by decide) ?_
        have ho := Option.some.inj hJ
        exact W.zret (v := (0 : Int32)) hx hb hr rfl (fun t ht hW => ⟨⟨_, (), rfl, ho, trivial⟩, hS.F ht⟩) hS.2.2 dX5_isCell_29
      · have hJ := j_f c_3 hJ
        refine lv_iload_n hx hb dX5_isCell_16 rfl (lv_at hl 2 rfl) ?_
        refine lv_aload_n hx hb dX5_isCell_17 rfl (lv_at hl 0 rfl) ?_
        refine va_get (D := D) (ci := 6) (v := .int ht) (C := RX5) (T := TX5) (N := 26) hx hb hts iX5 hown hK hP 0 rfl rfl 2 (by decide) k_2 (fun _ h9 => h9) rfl dX5_isCell_18 ?_
        refine lv_icmp_ge (tgt := 28) hx hb dX5_isCell_21 (by decide) (fun c_4 => ?_) (fun c_4 => ?_)
        · have hJ := j_t c_4 hJ
          refine lv_iconst (v := 0) hx hb dX5_isCell_28 (by decide) ?_
          have ho := Option.some.inj hJ
          exact W.zret (v := (0 : Int32)) hx hb hr rfl (fun t ht hW => ⟨⟨_, (), rfl, ho, trivial⟩, hS.F ht⟩) hS.2.2 dX5_isCell_29
        · have hJ := j_f c_4 hJ
          refine lv_iconst (v := 1) hx hb dX5_isCell_24 (by decide) ?_
          refine lv_goto (tgt := 29) hx hb dX5_isCell_25 (by decide) ?_
          have ho := Option.some.inj hJ
          exact W.zret (v := (1 : Int32)) hx hb hr rfl (fun t ht hW => ⟨⟨_, (), rfl, ho, trivial⟩, hS.F ht⟩) hS.2.2 dX5_isCell_29
set_option maxHeartbeats 4000000 in
set_option maxRecDepth 100000 in
theorem c_X5_dx (l : Launch) (D : va_G) (p0 : Int32) (tX tY sz F : Nat) (o : Int32) (hJ : J_X5_dx F p0 = some o) : Met l yX5_dx wsX5_dx rmX5_dx (va_Pc [.int p0] (pcR D [] [] sz tX tY)) (qRi o (va_A [] sz)) 0 0 (va_A [] sz) := by
  refine Met.ofW (cc := cX5_dx) (maxL := 1) (ret := (some .int)) (by decide) rfl ?_
  intro p e s m args below meth c s₁ B hml hv
  obtain ⟨rfl, hsz, hP, hK, hST⟩ := hv
  have hx := B.exec
  have hb := B.bytes
  have hr := B.returns
  have hts := atoms_spec (ws := wsX5_dx) B.pre
  have hown : s.vm.findClass RX5 = some m.cls := findClass_of_methodNamed B.named
  have hlocks := B.notSynchronized
  subst hsz
  generalize hAe : va_A [] s.heap.size = A at hST ⊢
  have hA : ∀ q : Nat, s.heap.size ≤ q → A q := fun q h => by rw [← hAe]; exact Or.inr h
  have hS : va_S A s.heap s.heap [] := va_S.rf
  have hl := lv_entry ([.int p0]) (n := 1) (Nat.le_of_ble_eq_true rfl)
  rw [lg_entry_eq]
  generalize (lg_sl ([.int p0]) ++ List.replicate (1 - (lg_sl ([.int p0])).length) Slot.unset).toArray = ls at hl ⊢
  have hl : lv_has ls 1 [(0, .int p0)] := hl
  unfold J_X5_dx at hJ
  refine lv_iload_n hx hb dX5_dx_0 rfl (lv_at hl 0 rfl) ?_
  refine lv_if_eq (tgt := 15) hx hb dX5_dx_1 (by decide) (fun c_1 => ?_) (fun c_1 => ?_)
  · have hJ := j_t c_1 hJ
    refine lv_iconst (v := 1) hx hb dX5_dx_15 (by decide) ?_
    refine lv_goto (tgt := 35) hx hb dX5_dx_16 (by decide) ?_
    have ho := Option.some.inj hJ
    exact W.iret (v := (1 : Int32)) hx hb hr (fun t ht hW => ⟨⟨_, (), rfl, ho, trivial⟩, hS.F ht⟩) hS.2.2 dX5_dx_35
  · have hJ := j_f c_1 hJ
    refine lv_iload_n hx hb dX5_dx_4 rfl (lv_at hl 0 rfl) ?_
    refine lv_iconst (v := 1) hx hb dX5_dx_5 (by decide) ?_
    refine lv_icmp_eq (tgt := 15) hx hb dX5_dx_6 (by decide) (fun c_2 => ?_) (fun c_2 => ?_)
    · have hJ := j_t c_2 hJ
      refine lv_iconst (v := 1) hx hb dX5_dx_15 (by decide) ?_
      refine lv_goto (tgt := 35) hx hb dX5_dx_16 (by decide) ?_
      have ho := Option.some.inj hJ
      exact W.iret (v := (1 : Int32)) hx hb hr (fun t ht hW => ⟨⟨_, (), rfl, ho, trivial⟩, hS.F ht⟩) hS.2.2 dX5_dx_35
    · have hJ := j_f c_2 hJ
      refine lv_iload_n hx hb dX5_dx_9 rfl (lv_at hl 0 rfl) ?_
      refine lv_bipush (v := 7) hx hb dX5_dx_10 (by decide) ?_
      refine lv_icmp_ne (tgt := 19) hx hb dX5_dx_12 (by decide) (fun c_3 => ?_) (fun c_3 => ?_)
      · have hJ := j_f c_3 hJ
        refine lv_iload_n hx hb dX5_dx_19 rfl (lv_at hl 0 rfl) ?_
        refine lv_iconst (v := 2) hx hb dX5_dx_20 (by decide) ?_
        refine lv_icmp_eq (tgt := 30) hx hb dX5_dx_21 (by decide) (fun c_4 => ?_) (fun c_4 => ?_)
        · have hJ := j_t c_4 hJ
          refine lv_iconst (v := 0) hx hb dX5_dx_30 (by decide) ?_
          refine lv_goto (tgt := 35) hx hb dX5_dx_31 (by decide) ?_
          have ho := Option.some.inj hJ
          exact W.iret (v := (0 : Int32)) hx hb hr (fun t ht hW => ⟨⟨_, (), rfl, ho, trivial⟩, hS.F ht⟩) hS.2.2 dX5_dx_35
        · have hJ := j_f c_4 hJ
          refine lv_iload_n hx hb dX5_dx_24 rfl (lv_at hl 0 rfl) ?_
          refine lv_bipush (v := 6) hx hb dX5_dx_25 (by decide) ?_
          refine lv_icmp_ne (tgt := 34) hx hb dX5_dx_27 (by decide) (fun c_5 => ?_) (fun c_5 => ?_)
          · have hJ := j_f c_5 hJ
            refine lv_iconst (v := (-1)) hx hb dX5_dx_34 (by decide) ?_
            have ho := Option.some.inj hJ
            exact W.iret (v := (-1 : Int32)) hx hb hr (fun t ht hW => ⟨⟨_, (), rfl, ho, trivial⟩, hS.F ht⟩) hS.2.2 dX5_dx_35
          · have hJ := j_t c_5 hJ
            refine lv_iconst (v := 0) hx hb dX5_dx_30 (by decide) ?_
            refine lv_goto (tgt := 35) hx hb dX5_dx_31 (by decide) ?_
            have ho := Option.some.inj hJ
            exact W.iret (v := (0 : Int32)) hx hb hr (fun t ht hW => ⟨⟨_, (), rfl, ho, trivial⟩, hS.F ht⟩) hS.2.2 dX5_dx_35
      · have hJ := j_t c_3 hJ
        refine lv_iconst (v := 1) hx hb dX5_dx_15 (by decide) ?_
        refine lv_goto (tgt := 35) hx hb dX5_dx_16 (by decide) ?_
        have ho := Option.some.inj hJ
        exact W.iret (v := (1 : Int32)) hx hb hr (fun t ht hW => ⟨⟨_, (), rfl, ho, trivial⟩, hS.F ht⟩) hS.2.2 dX5_dx_35
set_option maxHeartbeats 4000000 in
set_option maxRecDepth 100000 in
theorem c_X5_dy (l : Launch) (D : va_G) (p0 : Int32) (tX tY sz F : Nat) (o : Int32) (hJ : J_X5_dy F p0 = some o) : Met l yX5_dy wsX5_dy rmX5_dy (va_Pc [.int p0] (pcR D [] [] sz tX tY)) (qRi o (va_A [] sz)) 0 0 (va_A [] sz) := by
  refine Met.ofW (cc := cX5_dy) (maxL := 1) (ret := (some .int)) (by decide) rfl ?_
  intro p e s m args below meth c s₁ B hml hv
  obtain ⟨rfl, hsz, hP, hK, hST⟩ := hv
  have hx := B.exec
  have hb := B.bytes
  have hr := B.returns
  have hts := atoms_spec (ws := wsX5_dy) B.pre
  have hown : s.vm.findClass RX5 = some m.cls := findClass_of_methodNamed B.named
  have hlocks := B.notSynchronized
  subst hsz
  generalize hAe : va_A [] s.heap.size = A at hST ⊢
  have hA : ∀ q : Nat, s.heap.size ≤ q → A q := fun q h => by rw [← hAe]; exact Or.inr h
  have hS : va_S A s.heap s.heap [] := va_S.rf
  have hl := lv_entry ([.int p0]) (n := 1) (Nat.le_of_ble_eq_true rfl)
  rw [lg_entry_eq]
  generalize (lg_sl ([.int p0]) ++ List.replicate (1 - (lg_sl ([.int p0])).length) Slot.unset).toArray = ls at hl ⊢
  have hl : lv_has ls 1 [(0, .int p0)] := hl
  unfold J_X5_dy at hJ
  refine lv_iload_n hx hb dX5_dy_0 rfl (lv_at hl 0 rfl) ?_
  refine lv_iconst (v := 1) hx hb dX5_dy_1 (by decide) ?_
  refine lv_icmp_lt (tgt := 14) hx hb dX5_dy_2 (by decide) (fun c_1 => ?_) (fun c_1 => ?_)
  · have hJ := j_t c_1 hJ
    refine lv_iload_n hx hb dX5_dy_14 rfl (lv_at hl 0 rfl) ?_
    refine lv_if_eq (tgt := 23) hx hb dX5_dy_15 (by decide) (fun c_2 => ?_) (fun c_2 => ?_)
    · have hJ := j_t c_2 hJ
      refine lv_iconst (v := 0) hx hb dX5_dy_23 (by decide) ?_
      refine lv_goto (tgt := 28) hx hb dX5_dy_24 (by decide) ?_
      have ho := Option.some.inj hJ
      exact W.iret (v := (0 : Int32)) hx hb hr (fun t ht hW => ⟨⟨_, (), rfl, ho, trivial⟩, hS.F ht⟩) hS.2.2 dX5_dy_28
    · have hJ := j_f c_2 hJ
      refine lv_iload_n hx hb dX5_dy_18 rfl (lv_at hl 0 rfl) ?_
      refine lv_iconst (v := 4) hx hb dX5_dy_19 (by decide) ?_
      refine lv_icmp_ne (tgt := 27) hx hb dX5_dy_20 (by decide) (fun c_3 => ?_) (fun c_3 => ?_)
      · have hJ := j_f c_3 hJ
        refine lv_iconst (v := (-1)) hx hb dX5_dy_27 (by decide) ?_
        have ho := Option.some.inj hJ
        exact W.iret (v := (-1 : Int32)) hx hb hr (fun t ht hW => ⟨⟨_, (), rfl, ho, trivial⟩, hS.F ht⟩) hS.2.2 dX5_dy_28
      · have hJ := j_t c_3 hJ
        refine lv_iconst (v := 0) hx hb dX5_dy_23 (by decide) ?_
        refine lv_goto (tgt := 28) hx hb dX5_dy_24 (by decide) ?_
        have ho := Option.some.inj hJ
        exact W.iret (v := (0 : Int32)) hx hb hr (fun t ht hW => ⟨⟨_, (), rfl, ho, trivial⟩, hS.F ht⟩) hS.2.2 dX5_dy_28
  · have hJ := j_f c_1 hJ
    refine lv_iload_n hx hb dX5_dy_5 rfl (lv_at hl 0 rfl) ?_
    refine lv_iconst (v := 3) hx hb dX5_dy_6 (by decide) ?_
    refine lv_icmp_gt (tgt := 14) hx hb dX5_dy_7 (by decide) (fun c_4 => ?_) (fun c_4 => ?_)
    · have hJ := j_t c_4 hJ
      refine lv_iload_n hx hb dX5_dy_14 rfl (lv_at hl 0 rfl) ?_
      refine lv_if_eq (tgt := 23) hx hb dX5_dy_15 (by decide) (fun c_5 => ?_) (fun c_5 => ?_)
      · have hJ := j_t c_5 hJ
        refine lv_iconst (v := 0) hx hb dX5_dy_23 (by decide) ?_
        refine lv_goto (tgt := 28) hx hb dX5_dy_24 (by decide) ?_
        have ho := Option.some.inj hJ
        exact W.iret (v := (0 : Int32)) hx hb hr (fun t ht hW => ⟨⟨_, (), rfl, ho, trivial⟩, hS.F ht⟩) hS.2.2 dX5_dy_28
      · have hJ := j_f c_5 hJ
        refine lv_iload_n hx hb dX5_dy_18 rfl (lv_at hl 0 rfl) ?_
        refine lv_iconst (v := 4) hx hb dX5_dy_19 (by decide) ?_
        refine lv_icmp_ne (tgt := 27) hx hb dX5_dy_20 (by decide) (fun c_6 => ?_) (fun c_6 => ?_)
        · have hJ := j_f c_6 hJ
          refine lv_iconst (v := (-1)) hx hb dX5_dy_27 (by decide) ?_
          have ho := Option.some.inj hJ
          exact W.iret (v := (-1 : Int32)) hx hb hr (fun t ht hW => ⟨⟨_, (), rfl, ho, trivial⟩, hS.F ht⟩) hS.2.2 dX5_dy_28
        · have hJ := j_t c_6 hJ
          refine lv_iconst (v := 0) hx hb dX5_dy_23 (by decide) ?_
          refine lv_goto (tgt := 28) hx hb dX5_dy_24 (by decide) ?_
          have ho := Option.some.inj hJ
          exact W.iret (v := (0 : Int32)) hx hb hr (fun t ht hW => ⟨⟨_, (), rfl, ho, trivial⟩, hS.F ht⟩) hS.2.2 dX5_dy_28
    · have hJ := j_f c_4 hJ
      refine lv_iconst (v := 1) hx hb dX5_dy_10 (by decide) ?_
      refine lv_goto (tgt := 28) hx hb dX5_dy_11 (by decide) ?_
      have ho := Option.some.inj hJ
      exact W.iret (v := (1 : Int32)) hx hb hr (fun t ht hW => ⟨⟨_, (), rfl, ho, trivial⟩, hS.F ht⟩) hS.2.2 dX5_dy_28
set_option maxHeartbeats 4000000 in
set_option maxRecDepth 100000 in
theorem c_X5_place (l : Launch) (D : va_G) (p0 : Int32) (p1 : Int32) (p2 : Int32) (tX tY sz F : Nat) (o : Int32) (hJ : J_X5_place F p0 p1 p2 = some o) : Met l yX5_place wsX5_place rmX5_place (va_Pc [.int p0, .int p1, .int p2] (pcR D [] [] sz tX tY)) (qRi o (va_A [] sz)) 0 0 (va_A [] sz) := by
  refine Met.ofW (cc := cX5_place) (maxL := 3) (ret := (some .int)) (by decide) rfl ?_
  intro p e s m args below meth c s₁ B hml hv
  obtain ⟨rfl, hsz, hP, hK, hST⟩ := hv
  have hx := B.exec
  have hb := B.bytes
  have hr := B.returns
  have hts := atoms_spec (ws := wsX5_place) B.pre
  have hown : s.vm.findClass RX5 = some m.cls := findClass_of_methodNamed B.named
  have hlocks := B.notSynchronized
  subst hsz
  generalize hAe : va_A [] s.heap.size = A at hST ⊢
  have hA : ∀ q : Nat, s.heap.size ≤ q → A q := fun q h => by rw [← hAe]; exact Or.inr h
  have hS : va_S A s.heap s.heap [] := va_S.rf
  have hl := lv_entry ([.int p0, .int p1, .int p2]) (n := 3) (Nat.le_of_ble_eq_true rfl)
  rw [lg_entry_eq]
  generalize (lg_sl ([.int p0, .int p1, .int p2]) ++ List.replicate (3 - (lg_sl ([.int p0, .int p1, .int p2])).length) Slot.unset).toArray = ls at hl ⊢
  have hl : lv_has ls 3 [(0, .int p0), (1, .int p1), (2, .int p2)] := hl
  unfold J_X5_place at hJ
  refine lv_bipush (v := 8) hx hb dX5_place_0 (by decide) ?_
  refine lv_bipush (v := 24) hx hb dX5_place_2 (by decide) ?_
  refine lv_iload_n hx hb dX5_place_4 rfl (lv_at hl 1 rfl) ?_
  refine lv_imul hx hb dX5_place_5 ?_
  refine lv_iload_n hx hb dX5_place_6 rfl (lv_at hl 0 rfl) ?_
  refine lv_iadd hx hb dX5_place_7 ?_
  refine lv_imul hx hb dX5_place_8 ?_
  refine lv_iload_n hx hb dX5_place_9 rfl (lv_at hl 2 rfl) ?_
  refine lv_iadd hx hb dX5_place_10 ?_
  have ho := Option.some.inj hJ
  exact W.iret (v := (((8 : Int32) * (((24 : Int32) * p1) + p0)) + p2)) hx hb hr (fun t ht hW => ⟨⟨_, (), rfl, ho, trivial⟩, hS.F ht⟩) hS.2.2 dX5_place_11
set_option maxHeartbeats 4000000 in
set_option maxRecDepth 100000 in
theorem c_X5_xOf (l : Launch) (D : va_G) (p0 : Int32) (tX tY sz F : Nat) (o : Int32) (hJ : J_X5_xOf F p0 = some o) : Met l yX5_xOf wsX5_xOf rmX5_xOf (va_Pc [.int p0] (pcR D [] [] sz tX tY)) (qRi o (va_A [] sz)) 0 0 (va_A [] sz) := by
  refine Met.ofW (cc := cX5_xOf) (maxL := 1) (ret := (some .int)) (by decide) rfl ?_
  intro p e s m args below meth c s₁ B hml hv
  obtain ⟨rfl, hsz, hP, hK, hST⟩ := hv
  have hx := B.exec
  have hb := B.bytes
  have hr := B.returns
  have hts := atoms_spec (ws := wsX5_xOf) B.pre
  have hown : s.vm.findClass RX5 = some m.cls := findClass_of_methodNamed B.named
  have hlocks := B.notSynchronized
  subst hsz
  generalize hAe : va_A [] s.heap.size = A at hST ⊢
  have hA : ∀ q : Nat, s.heap.size ≤ q → A q := fun q h => by rw [← hAe]; exact Or.inr h
  have hS : va_S A s.heap s.heap [] := va_S.rf
  have hl := lv_entry ([.int p0]) (n := 1) (Nat.le_of_ble_eq_true rfl)
  rw [lg_entry_eq]
  generalize (lg_sl ([.int p0]) ++ List.replicate (1 - (lg_sl ([.int p0])).length) Slot.unset).toArray = ls at hl ⊢
  have hl : lv_has ls 1 [(0, .int p0)] := hl
  unfold J_X5_xOf at hJ
  refine lv_iload_n hx hb dX5_xOf_0 rfl (lv_at hl 0 rfl) ?_
  refine lv_bipush (v := 8) hx hb dX5_xOf_1 (by decide) ?_
  refine lv_idiv hx hb dX5_xOf_3 (by decide) ?_
  refine lv_bipush (v := 24) hx hb dX5_xOf_4 (by decide) ?_
  refine lv_irem hx hb dX5_xOf_6 (by decide) ?_
  have ho := Option.some.inj hJ
  exact W.iret (v := ((p0 / (8 : Int32)) - (p0 / (8 : Int32)) / (24 : Int32) * (24 : Int32))) hx hb hr (fun t ht hW => ⟨⟨_, (), rfl, ho, trivial⟩, hS.F ht⟩) hS.2.2 dX5_xOf_7
set_option maxHeartbeats 4000000 in
set_option maxRecDepth 100000 in
theorem c_X5_yOf (l : Launch) (D : va_G) (p0 : Int32) (tX tY sz F : Nat) (o : Int32) (hJ : J_X5_yOf F p0 = some o) : Met l yX5_yOf wsX5_yOf rmX5_yOf (va_Pc [.int p0] (pcR D [] [] sz tX tY)) (qRi o (va_A [] sz)) 0 0 (va_A [] sz) := by
  refine Met.ofW (cc := cX5_yOf) (maxL := 1) (ret := (some .int)) (by decide) rfl ?_
  intro p e s m args below meth c s₁ B hml hv
  obtain ⟨rfl, hsz, hP, hK, hST⟩ := hv
  have hx := B.exec
  have hb := B.bytes
  have hr := B.returns
  have hts := atoms_spec (ws := wsX5_yOf) B.pre
  have hown : s.vm.findClass RX5 = some m.cls := findClass_of_methodNamed B.named
  have hlocks := B.notSynchronized
  subst hsz
  generalize hAe : va_A [] s.heap.size = A at hST ⊢
  have hA : ∀ q : Nat, s.heap.size ≤ q → A q := fun q h => by rw [← hAe]; exact Or.inr h
  have hS : va_S A s.heap s.heap [] := va_S.rf
  have hl := lv_entry ([.int p0]) (n := 1) (Nat.le_of_ble_eq_true rfl)
  rw [lg_entry_eq]
  generalize (lg_sl ([.int p0]) ++ List.replicate (1 - (lg_sl ([.int p0])).length) Slot.unset).toArray = ls at hl ⊢
  have hl : lv_has ls 1 [(0, .int p0)] := hl
  unfold J_X5_yOf at hJ
  refine lv_iload_n hx hb dX5_yOf_0 rfl (lv_at hl 0 rfl) ?_
  refine lv_sipush (v := 192) hx hb dX5_yOf_1 (by decide) ?_
  refine lv_idiv hx hb dX5_yOf_4 (by decide) ?_
  have ho := Option.some.inj hJ
  exact W.iret (v := (p0 / (192 : Int32))) hx hb hr (fun t ht hW => ⟨⟨_, (), rfl, ho, trivial⟩, hS.F ht⟩) hS.2.2 dX5_yOf_5
set_option maxHeartbeats 4000000 in
set_option maxRecDepth 100000 in
theorem c_X5_distance (l : Launch) (D : va_G) (aM aMf aNm aBe aFa aCs aFr aRo aNe : Nat) (cMf cNm cBe cFa cCs cFr cRo cNe : ClassId) (cod : Int32) (w : Int32) (ht : Int32) (fou : Int32) (ln : Int32) (wd : Int32) (rd : Int32) (kp : Int32) (car : Int32) (hom : Int32) (gol : Int32) (hld : Int32) (err : UInt64) (isw : Int32) (mvs : Int32) (mde : Int32) (exa : Int32) (lst : Int64) (mf : Nat → Int32) (nm : Nat → Int32) (be : Nat → Int32) (fa : Nat → Int32) (cs : Nat → Int32) (fr : Nat → Int32) (ro : Nat → Int32) (ne : Nat → Int32) (p0 : Int32) (p1 : Int32) (tX tY sz F : Nat) (o : Int32) (hJ : J_X5_distance F w ht mf p0 p1 = some o) : Met l yX5_distance wsX5_distance rmX5_distance (va_Pc [.ref aM, .int p0, .int p1] (pcR D [(aM, .inr (6, [.int cod, .int w, .int ht, .int fou, .ref aMf, .int ln, .int wd, .int rd, .int kp, .int car, .int hom, .int gol, .int hld, .double err, .int isw, .int mvs, .int mde, .ref aNm, .ref aBe, .int exa, .long lst, .ref aFa, .ref aCs, .ref aFr, .ref aRo, .ref aNe])), (aMf, .inl (cMf, 576, .inl mf)), (aNm, .inl (cNm, 4608, .inl nm)), (aBe, .inl (cBe, 4608, .inl be)), (aFa, .inl (cFa, 4608, .inl fa)), (aCs, .inl (cCs, 4608, .inl cs)), (aFr, .inl (cFr, 4608, .inl fr)), (aRo, .inl (cRo, 4608, .inl ro)), (aNe, .inl (cNe, 576, .inl ne))] [(cMf, .boolean), (cNm, .int), (cBe, .int), (cFa, .int), (cCs, .int), (cFr, .boolean), (cRo, .int), (cNe, .int)] sz tX tY)) (qRi o (va_A [] sz)) 0 0 (va_A [] sz) := by
  refine Met.ofW (cc := cX5_distance) (maxL := 9) (ret := (some .int)) (by decide) rfl ?_
  intro p e s m args below meth c s₁ B hml hv
  obtain ⟨rfl, hsz, hP, hK, hST⟩ := hv
  have hx := B.exec
  have hb := B.bytes
  have hr := B.returns
  have hts := atoms_spec (ws := wsX5_distance) B.pre
  have hown : s.vm.findClass RX5 = some m.cls := findClass_of_methodNamed B.named
  have hlocks := B.notSynchronized
  subst hsz
  generalize hAe : va_A [] s.heap.size = A at hST ⊢
  have hA : ∀ q : Nat, s.heap.size ≤ q → A q := fun q h => by rw [← hAe]; exact Or.inr h
  have hS : va_S A s.heap s.heap [] := va_S.rf
  have hl := lv_entry ([.ref aM, .int p0, .int p1]) (n := 9) (Nat.le_of_ble_eq_true rfl)
  rw [lg_entry_eq]
  generalize (lg_sl ([.ref aM, .int p0, .int p1]) ++ List.replicate (9 - (lg_sl ([.ref aM, .int p0, .int p1])).length) Slot.unset).toArray = ls at hl ⊢
  have hl : lv_has ls 9 [(0, .ref aM), (1, .int p0), (2, .int p1)] := hl
  have iX5 : ∀ w ∈ wsX50, w ∈ wsX5_distance := fun w h => List.mem_cons_of_mem _ (List.mem_append_right _ h)
  have k_1 := hts (.fieldLink RX5 7 "ParkWaysModel" "full" "[Z") (List.mem_of_getElem? (i := 1) rfl)
  have L_24 : ∀ (y1_6 : Int32) (y2_7 : Int32) (y4_9 : Int32) (kk_136 : Int32 → Int32 → Option (Int32)) (hkk_136 : ∀ (H : Heap) (locs : List Loc) (x3_8 : Int32) (x5_10 : Int32) (ls : Array Slot), kk_136 x3_8 x5_10 = some o → va_P D vwCl [(aM, .inr (6, [.int cod, .int w, .int ht, .int fou, .ref aMf, .int ln, .int wd, .int rd, .int kp, .int car, .int hom, .int gol, .int hld, .double err, .int isw, .int mvs, .int mde, .ref aNm, .ref aBe, .int exa, .long lst, .ref aFa, .ref aCs, .ref aFr, .ref aRo, .ref aNe])), (aMf, .inl (cMf, 576, .inl mf)), (aNm, .inl (cNm, 4608, .inl nm)), (aBe, .inl (cBe, 4608, .inl be)), (aFa, .inl (cFa, 4608, .inl fa)), (aCs, .inl (cCs, 4608, .inl cs)), (aFr, .inl (cFr, 4608, .inl fr)), (aRo, .inl (cRo, 4608, .inl ro)), (aNe, .inl (cNe, 576, .inl ne))] H → va_S A s.heap H locs → lv_has ls 9 [(0, .ref aM), (1, .int y1_6), (2, .int y2_7), (3, .int x3_8), (4, .int y4_9)] → W p l e (headSpec wsX5_distance rmX5_distance).room s m [.ref aM, .int p0, .int p1].toArray below meth c H locs 0 0 (MQ below (qRi o A) [.ref aM, .int p0, .int p1].toArray s 0 0 A) (F0 m 136 ls [])) (fz : Nat) (H : Heap) (locs : List Loc) (x3_8 : Int32) (x5_10 : Int32) (ls : Array Slot), J_X5_distance_L24 F w ht mf y1_6 y2_7 y4_9 kk_136 fz x3_8 x5_10 = some o → va_P D vwCl [(aM, .inr (6, [.int cod, .int w, .int ht, .int fou, .ref aMf, .int ln, .int wd, .int rd, .int kp, .int car, .int hom, .int gol, .int hld, .double err, .int isw, .int mvs, .int mde, .ref aNm, .ref aBe, .int exa, .long lst, .ref aFa, .ref aCs, .ref aFr, .ref aRo, .ref aNe])), (aMf, .inl (cMf, 576, .inl mf)), (aNm, .inl (cNm, 4608, .inl nm)), (aBe, .inl (cBe, 4608, .inl be)), (aFa, .inl (cFa, 4608, .inl fa)), (aCs, .inl (cCs, 4608, .inl cs)), (aFr, .inl (cFr, 4608, .inl fr)), (aRo, .inl (cRo, 4608, .inl ro)), (aNe, .inl (cNe, 576, .inl ne))] H → va_S A s.heap H locs → lv_has ls 9 [(0, .ref aM), (1, .int y1_6), (2, .int y2_7), (3, .int x3_8), (4, .int y4_9), (5, .int x5_10)] → W p l e (headSpec wsX5_distance rmX5_distance).room s m [.ref aM, .int p0, .int p1].toArray below meth c H locs 0 0 (MQ below (qRi o A) [.ref aM, .int p0, .int p1].toArray s 0 0 A) (F0 m 24 ls []) := by
    intro y1_6 y2_7 y4_9 kk_136 hkk_136 fz
    induction fz with
    | zero =>
      intro H locs x3_8 x5_10 ls hJ
      rw [J_X5_distance_L24] at hJ
      cases hJ
    | succ fz ih =>
      intro H locs x3_8 x5_10 ls hJ hP hS hl
      rw [J_X5_distance_L24] at hJ
      refine lv_iload hx hb dX5_distance_24 (lv_at hl 5 rfl) ?_
      refine lv_iload_n hx hb dX5_distance_26 rfl (lv_at hl 1 rfl) ?_
      refine lv_bipush (v := 8) hx hb dX5_distance_27 (by decide) ?_
      refine lv_iadd hx hb dX5_distance_29 ?_
      refine lv_icmp_gt (tgt := 136) hx hb dX5_distance_30 (by decide) (fun c_11 => ?_) (fun c_11 => ?_)
      · have hJ := j_t c_11 hJ
        exact hkk_136 H locs x3_8 x5_10 ls hJ hP hS (lv_sub hl [0, 1, 2, 3, 4] rfl)
      · have hJ := j_f c_11 hJ
        refine lv_aload_n hx hb dX5_distance_33 rfl (lv_at hl 0 rfl) ?_
        refine lv_iload hx hb dX5_distance_34 (lv_at hl 5 rfl) ?_
        refine lv_iload hx hb dX5_distance_36 (lv_at hl 4 rfl) ?_
        obtain ⟨v_12, hv_12, hJ⟩ := j_b hJ
        refine ro_i (va_runV (As := [.int x5_10, .int y4_9]) (rest := []) ⟨hx, hb, hml, hown, hts⟩ (c_X5_isCell l D aM aMf aNm aBe aFa aCs aFr aRo aNe cMf cNm cBe cFa cCs cFr cRo cNe cod w ht fou ln wd rd kp car hom gol hld err isw mvs mde exa lst mf nm be fa cs fr ro ne x5_10 y4_9 tX tY H.size F v_12 hv_12) (cwV 2 hts gX5_distance_X5_isCell rfl rfl rfl (by decide +kernel) ⟨Nat.le_of_ble_eq_true rfl, Nat.le_of_ble_eq_true rfl⟩) (preRV [.int x5_10, .int y4_9] hP hK hS hA hST [0, 1, 2, 3, 4, 5, 6, 7, 8] rfl [0, 1, 2, 3, 4, 5, 6, 7] rfl (ci := 6) (q0 := 0) rfl rfl) rfl rfl hl.1 rfl (lv_room (Nat.le_of_ble_eq_true rfl)) dX5_distance_38 ⟨Nat.zero_le _, Nat.zero_le _⟩) hP hS hA (fun H locs hP hS => ?_)
        refine lv_if_eq (tgt := 130) hx hb dX5_distance_41 (by decide) (fun c_13 => ?_) (fun c_13 => ?_)
        · have hJ := j_t c_13 hJ
          refine lv_iinc (v := (x5_10 + (1 : Int32))) (lv' := [(5, .int (x5_10 + (1 : Int32))), (0, .ref aM), (1, .int y1_6), (2, .int y2_7), (3, .int x3_8), (4, .int y4_9)]) hx hb dX5_distance_130 hl (k := 5) rfl rfl (by decide) rfl (fun ls hl => ?_)
          refine lv_goto (tgt := 24) hx hb dX5_distance_133 (by decide) ?_
          exact ih H locs x3_8 (x5_10 + (1 : Int32)) ls hJ hP hS (lv_sub hl [1, 2, 3, 4, 5, 0] rfl)
        · have hJ := j_f c_13 hJ
          refine lv_aload_n hx hb dX5_distance_44 rfl (lv_at hl 0 rfl) ?_
          refine va_get (D := D) (ci := 6) (v := .ref aMf) (C := RX5) (T := TX5) (N := 26) hx hb hts iX5 hown hK hP 0 rfl rfl 4 (by decide) k_1 (fun _ h9 => h9) rfl dX5_distance_45 ?_
          refine lv_bipush (v := 24) hx hb dX5_distance_48 (by decide) ?_
          refine lv_iload hx hb dX5_distance_50 (lv_at hl 4 rfl) ?_
          refine lv_imul hx hb dX5_distance_52 ?_
          refine lv_iload hx hb dX5_distance_53 (lv_at hl 5 rfl) ?_
          refine lv_iadd hx hb dX5_distance_55 ?_
          obtain ⟨h_14, hJ⟩ := g_in hJ
          refine va_zald hx hb hK hP 1 0 rfl rfl h_14 dX5_distance_56 ?_
          refine lv_if_ne (tgt := 63) hx hb dX5_distance_57 (by decide) (fun c_15 => ?_) (fun c_15 => ?_)
          · have hJ := j_f c_15 hJ
            refine lv_iload hx hb dX5_distance_63 (lv_at hl 5 rfl) ?_
            refine lv_iload_n hx hb dX5_distance_65 rfl (lv_at hl 1 rfl) ?_
            refine lv_icmp_ge (tgt := 76) hx hb dX5_distance_66 (by decide) (fun c_16 => ?_) (fun c_16 => ?_)
            · have hJ := j_t c_16 hJ
              refine lv_iload hx hb dX5_distance_76 (lv_at hl 5 rfl) ?_
              refine lv_iload_n hx hb dX5_distance_78 rfl (lv_at hl 1 rfl) ?_
              refine lv_isub hx hb dX5_distance_79 ?_
              refine lv_istore (lv' := [(6, .int (x5_10 - y1_6)), (0, .ref aM), (1, .int y1_6), (2, .int y2_7), (3, .int x3_8), (4, .int y4_9), (5, .int x5_10)]) hx hb dX5_distance_80 hl (by decide) rfl (fun ls hl => ?_)
              refine lv_iload hx hb dX5_distance_82 (lv_at hl 5 rfl) ?_
              refine lv_iload_n hx hb dX5_distance_84 rfl (lv_at hl 3 rfl) ?_
              refine lv_icmp_ge (tgt := 95) hx hb dX5_distance_85 (by decide) (fun c_17 => ?_) (fun c_17 => ?_)
              · have hJ := j_t c_17 hJ
                refine lv_iload hx hb dX5_distance_95 (lv_at hl 5 rfl) ?_
                refine lv_iload_n hx hb dX5_distance_97 rfl (lv_at hl 3 rfl) ?_
                refine lv_isub hx hb dX5_distance_98 ?_
                refine lv_istore (lv' := [(7, .int (y4_9 - y2_7)), (6, .int (x5_10 - y1_6)), (0, .ref aM), (1, .int y1_6), (2, .int y2_7), (3, .int x3_8), (4, .int y4_9), (5, .int x5_10)]) hx hb dX5_distance_99 hl (by decide) rfl (fun ls hl => ?_)
                refine lv_iload hx hb dX5_distance_101 (lv_at hl 1 rfl) ?_
                refine lv_iload hx hb dX5_distance_103 (lv_at hl 0 rfl) ?_
                refine lv_icmp_le (tgt := 113) hx hb dX5_distance_105 (by decide) (fun c_18 => ?_) (fun c_18 => ?_)
                · have hJ := j_t c_18 hJ
                  refine lv_iload hx hb dX5_distance_113 (lv_at hl 0 rfl) ?_
                  refine lv_istore (lv' := [(8, .int (y4_9 - y2_7)), (7, .int (y4_9 - y2_7)), (6, .int (x5_10 - y1_6)), (0, .ref aM), (1, .int y1_6), (2, .int y2_7), (3, .int x3_8), (4, .int y4_9), (5, .int x5_10)]) hx hb dX5_distance_115 hl (by decide) rfl (fun ls hl => ?_)
                  refine lv_iload hx hb dX5_distance_117 (lv_at hl 0 rfl) ?_
                  refine lv_iload_n hx hb dX5_distance_119 rfl (lv_at hl 6 rfl) ?_
                  refine lv_icmp_ge (tgt := 128) hx hb dX5_distance_120 (by decide) (fun c_19 => ?_) (fun c_19 => ?_)
                  · have hJ := j_t c_19 hJ
                    refine lv_iload_n hx hb dX5_distance_128 rfl (lv_at hl 6 rfl) ?_
                    refine lv_istore_n (lv' := [(3, .int x3_8), (8, .int (y4_9 - y2_7)), (7, .int (y4_9 - y2_7)), (6, .int (x5_10 - y1_6)), (0, .ref aM), (1, .int y1_6), (2, .int y2_7), (4, .int y4_9), (5, .int x5_10)]) hx hb dX5_distance_129 rfl hl (by decide) rfl (fun ls hl => ?_)
                    refine lv_iinc (v := (x5_10 + (1 : Int32))) (lv' := [(5, .int (x5_10 + (1 : Int32))), (3, .int x3_8), (8, .int (y4_9 - y2_7)), (7, .int (y4_9 - y2_7)), (6, .int (x5_10 - y1_6)), (0, .ref aM), (1, .int y1_6), (2, .int y2_7), (4, .int y4_9)]) hx hb dX5_distance_130 hl (k := 8) rfl rfl (by decide) rfl (fun ls hl => ?_)
                    refine lv_goto (tgt := 24) hx hb dX5_distance_133 (by decide) ?_
                    exact ih H locs x3_8 (x5_10 + (1 : Int32)) ls hJ hP hS (lv_sub hl [5, 6, 7, 1, 8, 0] rfl)
                  · have hJ := j_f c_19 hJ
                    refine lv_iload hx hb dX5_distance_123 (lv_at hl 0 rfl) ?_
                    refine lv_goto (tgt := 129) hx hb dX5_distance_125 (by decide) ?_
                    refine lv_istore_n (lv' := [(3, .int (y4_9 - y2_7)), (8, .int (y4_9 - y2_7)), (7, .int (y4_9 - y2_7)), (6, .int (x5_10 - y1_6)), (0, .ref aM), (1, .int y1_6), (2, .int y2_7), (4, .int y4_9), (5, .int x5_10)]) hx hb dX5_distance_129 rfl hl (by decide) rfl (fun ls hl => ?_)
                    refine lv_iinc (v := (x5_10 + (1 : Int32))) (lv' := [(5, .int (x5_10 + (1 : Int32))), (3, .int (y4_9 - y2_7)), (8, .int (y4_9 - y2_7)), (7, .int (y4_9 - y2_7)), (6, .int (x5_10 - y1_6)), (0, .ref aM), (1, .int y1_6), (2, .int y2_7), (4, .int y4_9)]) hx hb dX5_distance_130 hl (k := 8) rfl rfl (by decide) rfl (fun ls hl => ?_)
                    refine lv_goto (tgt := 24) hx hb dX5_distance_133 (by decide) ?_
                    exact ih H locs (y4_9 - y2_7) (x5_10 + (1 : Int32)) ls hJ hP hS (lv_sub hl [5, 6, 7, 1, 8, 0] rfl)
                · have hJ := j_f c_18 hJ
                  refine lv_iload hx hb dX5_distance_108 (lv_at hl 1 rfl) ?_
                  refine lv_goto (tgt := 115) hx hb dX5_distance_110 (by decide) ?_
                  refine lv_istore (lv' := [(8, .int (x5_10 - y1_6)), (7, .int (y4_9 - y2_7)), (6, .int (x5_10 - y1_6)), (0, .ref aM), (1, .int y1_6), (2, .int y2_7), (3, .int x3_8), (4, .int y4_9), (5, .int x5_10)]) hx hb dX5_distance_115 hl (by decide) rfl (fun ls hl => ?_)
                  refine lv_iload hx hb dX5_distance_117 (lv_at hl 0 rfl) ?_
                  refine lv_iload_n hx hb dX5_distance_119 rfl (lv_at hl 6 rfl) ?_
                  refine lv_icmp_ge (tgt := 128) hx hb dX5_distance_120 (by decide) (fun c_20 => ?_) (fun c_20 => ?_)
                  · have hJ := j_t c_20 hJ
                    refine lv_iload_n hx hb dX5_distance_128 rfl (lv_at hl 6 rfl) ?_
                    refine lv_istore_n (lv' := [(3, .int x3_8), (8, .int (x5_10 - y1_6)), (7, .int (y4_9 - y2_7)), (6, .int (x5_10 - y1_6)), (0, .ref aM), (1, .int y1_6), (2, .int y2_7), (4, .int y4_9), (5, .int x5_10)]) hx hb dX5_distance_129 rfl hl (by decide) rfl (fun ls hl => ?_)
                    refine lv_iinc (v := (x5_10 + (1 : Int32))) (lv' := [(5, .int (x5_10 + (1 : Int32))), (3, .int x3_8), (8, .int (x5_10 - y1_6)), (7, .int (y4_9 - y2_7)), (6, .int (x5_10 - y1_6)), (0, .ref aM), (1, .int y1_6), (2, .int y2_7), (4, .int y4_9)]) hx hb dX5_distance_130 hl (k := 8) rfl rfl (by decide) rfl (fun ls hl => ?_)
                    refine lv_goto (tgt := 24) hx hb dX5_distance_133 (by decide) ?_
                    exact ih H locs x3_8 (x5_10 + (1 : Int32)) ls hJ hP hS (lv_sub hl [5, 6, 7, 1, 8, 0] rfl)
                  · have hJ := j_f c_20 hJ
                    refine lv_iload hx hb dX5_distance_123 (lv_at hl 0 rfl) ?_
                    refine lv_goto (tgt := 129) hx hb dX5_distance_125 (by decide) ?_
                    refine lv_istore_n (lv' := [(3, .int (x5_10 - y1_6)), (8, .int (x5_10 - y1_6)), (7, .int (y4_9 - y2_7)), (6, .int (x5_10 - y1_6)), (0, .ref aM), (1, .int y1_6), (2, .int y2_7), (4, .int y4_9), (5, .int x5_10)]) hx hb dX5_distance_129 rfl hl (by decide) rfl (fun ls hl => ?_)
                    refine lv_iinc (v := (x5_10 + (1 : Int32))) (lv' := [(5, .int (x5_10 + (1 : Int32))), (3, .int (x5_10 - y1_6)), (8, .int (x5_10 - y1_6)), (7, .int (y4_9 - y2_7)), (6, .int (x5_10 - y1_6)), (0, .ref aM), (1, .int y1_6), (2, .int y2_7), (4, .int y4_9)]) hx hb dX5_distance_130 hl (k := 8) rfl rfl (by decide) rfl (fun ls hl => ?_)
                    refine lv_goto (tgt := 24) hx hb dX5_distance_133 (by decide) ?_
                    exact ih H locs (x5_10 - y1_6) (x5_10 + (1 : Int32)) ls hJ hP hS (lv_sub hl [5, 6, 7, 1, 8, 0] rfl)
              · have hJ := j_f c_17 hJ
                refine lv_iload_n hx hb dX5_distance_88 rfl (lv_at hl 3 rfl) ?_
                refine lv_iload hx hb dX5_distance_89 (lv_at hl 5 rfl) ?_
                refine lv_isub hx hb dX5_distance_91 ?_
                refine lv_goto (tgt := 99) hx hb dX5_distance_92 (by decide) ?_
                refine lv_istore (lv' := [(7, .int (y2_7 - y4_9)), (6, .int (x5_10 - y1_6)), (0, .ref aM), (1, .int y1_6), (2, .int y2_7), (3, .int x3_8), (4, .int y4_9), (5, .int x5_10)]) hx hb dX5_distance_99 hl (by decide) rfl (fun ls hl => ?_)
                refine lv_iload hx hb dX5_distance_101 (lv_at hl 1 rfl) ?_
                refine lv_iload hx hb dX5_distance_103 (lv_at hl 0 rfl) ?_
                refine lv_icmp_le (tgt := 113) hx hb dX5_distance_105 (by decide) (fun c_21 => ?_) (fun c_21 => ?_)
                · have hJ := j_t c_21 hJ
                  refine lv_iload hx hb dX5_distance_113 (lv_at hl 0 rfl) ?_
                  refine lv_istore (lv' := [(8, .int (y2_7 - y4_9)), (7, .int (y2_7 - y4_9)), (6, .int (x5_10 - y1_6)), (0, .ref aM), (1, .int y1_6), (2, .int y2_7), (3, .int x3_8), (4, .int y4_9), (5, .int x5_10)]) hx hb dX5_distance_115 hl (by decide) rfl (fun ls hl => ?_)
                  refine lv_iload hx hb dX5_distance_117 (lv_at hl 0 rfl) ?_
                  refine lv_iload_n hx hb dX5_distance_119 rfl (lv_at hl 6 rfl) ?_
                  refine lv_icmp_ge (tgt := 128) hx hb dX5_distance_120 (by decide) (fun c_22 => ?_) (fun c_22 => ?_)
                  · have hJ := j_t c_22 hJ
                    refine lv_iload_n hx hb dX5_distance_128 rfl (lv_at hl 6 rfl) ?_
                    refine lv_istore_n (lv' := [(3, .int x3_8), (8, .int (y2_7 - y4_9)), (7, .int (y2_7 - y4_9)), (6, .int (x5_10 - y1_6)), (0, .ref aM), (1, .int y1_6), (2, .int y2_7), (4, .int y4_9), (5, .int x5_10)]) hx hb dX5_distance_129 rfl hl (by decide) rfl (fun ls hl => ?_)
                    refine lv_iinc (v := (x5_10 + (1 : Int32))) (lv' := [(5, .int (x5_10 + (1 : Int32))), (3, .int x3_8), (8, .int (y2_7 - y4_9)), (7, .int (y2_7 - y4_9)), (6, .int (x5_10 - y1_6)), (0, .ref aM), (1, .int y1_6), (2, .int y2_7), (4, .int y4_9)]) hx hb dX5_distance_130 hl (k := 8) rfl rfl (by decide) rfl (fun ls hl => ?_)
                    refine lv_goto (tgt := 24) hx hb dX5_distance_133 (by decide) ?_
                    exact ih H locs x3_8 (x5_10 + (1 : Int32)) ls hJ hP hS (lv_sub hl [5, 6, 7, 1, 8, 0] rfl)
                  · have hJ := j_f c_22 hJ
                    refine lv_iload hx hb dX5_distance_123 (lv_at hl 0 rfl) ?_
                    refine lv_goto (tgt := 129) hx hb dX5_distance_125 (by decide) ?_
                    refine lv_istore_n (lv' := [(3, .int (y2_7 - y4_9)), (8, .int (y2_7 - y4_9)), (7, .int (y2_7 - y4_9)), (6, .int (x5_10 - y1_6)), (0, .ref aM), (1, .int y1_6), (2, .int y2_7), (4, .int y4_9), (5, .int x5_10)]) hx hb dX5_distance_129 rfl hl (by decide) rfl (fun ls hl => ?_)
                    refine lv_iinc (v := (x5_10 + (1 : Int32))) (lv' := [(5, .int (x5_10 + (1 : Int32))), (3, .int (y2_7 - y4_9)), (8, .int (y2_7 - y4_9)), (7, .int (y2_7 - y4_9)), (6, .int (x5_10 - y1_6)), (0, .ref aM), (1, .int y1_6), (2, .int y2_7), (4, .int y4_9)]) hx hb dX5_distance_130 hl (k := 8) rfl rfl (by decide) rfl (fun ls hl => ?_)
                    refine lv_goto (tgt := 24) hx hb dX5_distance_133 (by decide) ?_
                    exact ih H locs (y2_7 - y4_9) (x5_10 + (1 : Int32)) ls hJ hP hS (lv_sub hl [5, 6, 7, 1, 8, 0] rfl)
                · have hJ := j_f c_21 hJ
                  refine lv_iload hx hb dX5_distance_108 (lv_at hl 1 rfl) ?_
                  refine lv_goto (tgt := 115) hx hb dX5_distance_110 (by decide) ?_
                  refine lv_istore (lv' := [(8, .int (x5_10 - y1_6)), (7, .int (y2_7 - y4_9)), (6, .int (x5_10 - y1_6)), (0, .ref aM), (1, .int y1_6), (2, .int y2_7), (3, .int x3_8), (4, .int y4_9), (5, .int x5_10)]) hx hb dX5_distance_115 hl (by decide) rfl (fun ls hl => ?_)
                  refine lv_iload hx hb dX5_distance_117 (lv_at hl 0 rfl) ?_
                  refine lv_iload_n hx hb dX5_distance_119 rfl (lv_at hl 6 rfl) ?_
                  refine lv_icmp_ge (tgt := 128) hx hb dX5_distance_120 (by decide) (fun c_23 => ?_) (fun c_23 => ?_)
                  · have hJ := j_t c_23 hJ
                    refine lv_iload_n hx hb dX5_distance_128 rfl (lv_at hl 6 rfl) ?_
                    refine lv_istore_n (lv' := [(3, .int x3_8), (8, .int (x5_10 - y1_6)), (7, .int (y2_7 - y4_9)), (6, .int (x5_10 - y1_6)), (0, .ref aM), (1, .int y1_6), (2, .int y2_7), (4, .int y4_9), (5, .int x5_10)]) hx hb dX5_distance_129 rfl hl (by decide) rfl (fun ls hl => ?_)
                    refine lv_iinc (v := (x5_10 + (1 : Int32))) (lv' := [(5, .int (x5_10 + (1 : Int32))), (3, .int x3_8), (8, .int (x5_10 - y1_6)), (7, .int (y2_7 - y4_9)), (6, .int (x5_10 - y1_6)), (0, .ref aM), (1, .int y1_6), (2, .int y2_7), (4, .int y4_9)]) hx hb dX5_distance_130 hl (k := 8) rfl rfl (by decide) rfl (fun ls hl => ?_)
                    refine lv_goto (tgt := 24) hx hb dX5_distance_133 (by decide) ?_
                    exact ih H locs x3_8 (x5_10 + (1 : Int32)) ls hJ hP hS (lv_sub hl [5, 6, 7, 1, 8, 0] rfl)
                  · have hJ := j_f c_23 hJ
                    refine lv_iload hx hb dX5_distance_123 (lv_at hl 0 rfl) ?_
                    refine lv_goto (tgt := 129) hx hb dX5_distance_125 (by decide) ?_
                    refine lv_istore_n (lv' := [(3, .int (x5_10 - y1_6)), (8, .int (x5_10 - y1_6)), (7, .int (y2_7 - y4_9)), (6, .int (x5_10 - y1_6)), (0, .ref aM), (1, .int y1_6), (2, .int y2_7), (4, .int y4_9), (5, .int x5_10)]) hx hb dX5_distance_129 rfl hl (by decide) rfl (fun ls hl => ?_)
                    refine lv_iinc (v := (x5_10 + (1 : Int32))) (lv' := [(5, .int (x5_10 + (1 : Int32))), (3, .int (x5_10 - y1_6)), (8, .int (x5_10 - y1_6)), (7, .int (y2_7 - y4_9)), (6, .int (x5_10 - y1_6)), (0, .ref aM), (1, .int y1_6), (2, .int y2_7), (4, .int y4_9)]) hx hb dX5_distance_130 hl (k := 8) rfl rfl (by decide) rfl (fun ls hl => ?_)
                    refine lv_goto (tgt := 24) hx hb dX5_distance_133 (by decide) ?_
                    exact ih H locs (x5_10 - y1_6) (x5_10 + (1 : Int32)) ls hJ hP hS (lv_sub hl [5, 6, 7, 1, 8, 0] rfl)
            · have hJ := j_f c_16 hJ
              refine lv_iload_n hx hb dX5_distance_69 rfl (lv_at hl 1 rfl) ?_
              refine lv_iload hx hb dX5_distance_70 (lv_at hl 5 rfl) ?_
              refine lv_isub hx hb dX5_distance_72 ?_
              refine lv_goto (tgt := 80) hx hb dX5_distance_73 (by decide) ?_
              refine lv_istore (lv' := [(6, .int (y1_6 - x5_10)), (0, .ref aM), (1, .int y1_6), (2, .int y2_7), (3, .int x3_8), (4, .int y4_9), (5, .int x5_10)]) hx hb dX5_distance_80 hl (by decide) rfl (fun ls hl => ?_)
              refine lv_iload hx hb dX5_distance_82 (lv_at hl 5 rfl) ?_
              refine lv_iload_n hx hb dX5_distance_84 rfl (lv_at hl 3 rfl) ?_
              refine lv_icmp_ge (tgt := 95) hx hb dX5_distance_85 (by decide) (fun c_24 => ?_) (fun c_24 => ?_)
              · have hJ := j_t c_24 hJ
                refine lv_iload hx hb dX5_distance_95 (lv_at hl 5 rfl) ?_
                refine lv_iload_n hx hb dX5_distance_97 rfl (lv_at hl 3 rfl) ?_
                refine lv_isub hx hb dX5_distance_98 ?_
                refine lv_istore (lv' := [(7, .int (y4_9 - y2_7)), (6, .int (y1_6 - x5_10)), (0, .ref aM), (1, .int y1_6), (2, .int y2_7), (3, .int x3_8), (4, .int y4_9), (5, .int x5_10)]) hx hb dX5_distance_99 hl (by decide) rfl (fun ls hl => ?_)
                refine lv_iload hx hb dX5_distance_101 (lv_at hl 1 rfl) ?_
                refine lv_iload hx hb dX5_distance_103 (lv_at hl 0 rfl) ?_
                refine lv_icmp_le (tgt := 113) hx hb dX5_distance_105 (by decide) (fun c_25 => ?_) (fun c_25 => ?_)
                · have hJ := j_t c_25 hJ
                  refine lv_iload hx hb dX5_distance_113 (lv_at hl 0 rfl) ?_
                  refine lv_istore (lv' := [(8, .int (y4_9 - y2_7)), (7, .int (y4_9 - y2_7)), (6, .int (y1_6 - x5_10)), (0, .ref aM), (1, .int y1_6), (2, .int y2_7), (3, .int x3_8), (4, .int y4_9), (5, .int x5_10)]) hx hb dX5_distance_115 hl (by decide) rfl (fun ls hl => ?_)
                  refine lv_iload hx hb dX5_distance_117 (lv_at hl 0 rfl) ?_
                  refine lv_iload_n hx hb dX5_distance_119 rfl (lv_at hl 6 rfl) ?_
                  refine lv_icmp_ge (tgt := 128) hx hb dX5_distance_120 (by decide) (fun c_26 => ?_) (fun c_26 => ?_)
                  · have hJ := j_t c_26 hJ
                    refine lv_iload_n hx hb dX5_distance_128 rfl (lv_at hl 6 rfl) ?_
                    refine lv_istore_n (lv' := [(3, .int x3_8), (8, .int (y4_9 - y2_7)), (7, .int (y4_9 - y2_7)), (6, .int (y1_6 - x5_10)), (0, .ref aM), (1, .int y1_6), (2, .int y2_7), (4, .int y4_9), (5, .int x5_10)]) hx hb dX5_distance_129 rfl hl (by decide) rfl (fun ls hl => ?_)
                    refine lv_iinc (v := (x5_10 + (1 : Int32))) (lv' := [(5, .int (x5_10 + (1 : Int32))), (3, .int x3_8), (8, .int (y4_9 - y2_7)), (7, .int (y4_9 - y2_7)), (6, .int (y1_6 - x5_10)), (0, .ref aM), (1, .int y1_6), (2, .int y2_7), (4, .int y4_9)]) hx hb dX5_distance_130 hl (k := 8) rfl rfl (by decide) rfl (fun ls hl => ?_)
                    refine lv_goto (tgt := 24) hx hb dX5_distance_133 (by decide) ?_
                    exact ih H locs x3_8 (x5_10 + (1 : Int32)) ls hJ hP hS (lv_sub hl [5, 6, 7, 1, 8, 0] rfl)
                  · have hJ := j_f c_26 hJ
                    refine lv_iload hx hb dX5_distance_123 (lv_at hl 0 rfl) ?_
                    refine lv_goto (tgt := 129) hx hb dX5_distance_125 (by decide) ?_
                    refine lv_istore_n (lv' := [(3, .int (y4_9 - y2_7)), (8, .int (y4_9 - y2_7)), (7, .int (y4_9 - y2_7)), (6, .int (y1_6 - x5_10)), (0, .ref aM), (1, .int y1_6), (2, .int y2_7), (4, .int y4_9), (5, .int x5_10)]) hx hb dX5_distance_129 rfl hl (by decide) rfl (fun ls hl => ?_)
                    refine lv_iinc (v := (x5_10 + (1 : Int32))) (lv' := [(5, .int (x5_10 + (1 : Int32))), (3, .int (y4_9 - y2_7)), (8, .int (y4_9 - y2_7)), (7, .int (y4_9 - y2_7)), (6, .int (y1_6 - x5_10)), (0, .ref aM), (1, .int y1_6), (2, .int y2_7), (4, .int y4_9)]) hx hb dX5_distance_130 hl (k := 8) rfl rfl (by decide) rfl (fun ls hl => ?_)
                    refine lv_goto (tgt := 24) hx hb dX5_distance_133 (by decide) ?_
                    exact ih H locs (y4_9 - y2_7) (x5_10 + (1 : Int32)) ls hJ hP hS (lv_sub hl [5, 6, 7, 1, 8, 0] rfl)
                · have hJ := j_f c_25 hJ
                  refine lv_iload hx hb dX5_distance_108 (lv_at hl 1 rfl) ?_
                  refine lv_goto (tgt := 115) hx hb dX5_distance_110 (by decide) ?_
                  refine lv_istore (lv' := [(8, .int (y1_6 - x5_10)), (7, .int (y4_9 - y2_7)), (6, .int (y1_6 - x5_10)), (0, .ref aM), (1, .int y1_6), (2, .int y2_7), (3, .int x3_8), (4, .int y4_9), (5, .int x5_10)]) hx hb dX5_distance_115 hl (by decide) rfl (fun ls hl => ?_)
                  refine lv_iload hx hb dX5_distance_117 (lv_at hl 0 rfl) ?_
                  refine lv_iload_n hx hb dX5_distance_119 rfl (lv_at hl 6 rfl) ?_
                  refine lv_icmp_ge (tgt := 128) hx hb dX5_distance_120 (by decide) (fun c_27 => ?_) (fun c_27 => ?_)
                  · have hJ := j_t c_27 hJ
                    refine lv_iload_n hx hb dX5_distance_128 rfl (lv_at hl 6 rfl) ?_
                    refine lv_istore_n (lv' := [(3, .int x3_8), (8, .int (y1_6 - x5_10)), (7, .int (y4_9 - y2_7)), (6, .int (y1_6 - x5_10)), (0, .ref aM), (1, .int y1_6), (2, .int y2_7), (4, .int y4_9), (5, .int x5_10)]) hx hb dX5_distance_129 rfl hl (by decide) rfl (fun ls hl => ?_)
                    refine lv_iinc (v := (x5_10 + (1 : Int32))) (lv' := [(5, .int (x5_10 + (1 : Int32))), (3, .int x3_8), (8, .int (y1_6 - x5_10)), (7, .int (y4_9 - y2_7)), (6, .int (y1_6 - x5_10)), (0, .ref aM), (1, .int y1_6), (2, .int y2_7), (4, .int y4_9)]) hx hb dX5_distance_130 hl (k := 8) rfl rfl (by decide) rfl (fun ls hl => ?_)
                    refine lv_goto (tgt := 24) hx hb dX5_distance_133 (by decide) ?_
                    exact ih H locs x3_8 (x5_10 + (1 : Int32)) ls hJ hP hS (lv_sub hl [5, 6, 7, 1, 8, 0] rfl)
                  · have hJ := j_f c_27 hJ
                    refine lv_iload hx hb dX5_distance_123 (lv_at hl 0 rfl) ?_
                    refine lv_goto (tgt := 129) hx hb dX5_distance_125 (by decide) ?_
                    refine lv_istore_n (lv' := [(3, .int (y1_6 - x5_10)), (8, .int (y1_6 - x5_10)), (7, .int (y4_9 - y2_7)), (6, .int (y1_6 - x5_10)), (0, .ref aM), (1, .int y1_6), (2, .int y2_7), (4, .int y4_9), (5, .int x5_10)]) hx hb dX5_distance_129 rfl hl (by decide) rfl (fun ls hl => ?_)
                    refine lv_iinc (v := (x5_10 + (1 : Int32))) (lv' := [(5, .int (x5_10 + (1 : Int32))), (3, .int (y1_6 - x5_10)), (8, .int (y1_6 - x5_10)), (7, .int (y4_9 - y2_7)), (6, .int (y1_6 - x5_10)), (0, .ref aM), (1, .int y1_6), (2, .int y2_7), (4, .int y4_9)]) hx hb dX5_distance_130 hl (k := 8) rfl rfl (by decide) rfl (fun ls hl => ?_)
                    refine lv_goto (tgt := 24) hx hb dX5_distance_133 (by decide) ?_
                    exact ih H locs (y1_6 - x5_10) (x5_10 + (1 : Int32)) ls hJ hP hS (lv_sub hl [5, 6, 7, 1, 8, 0] rfl)
              · have hJ := j_f c_24 hJ
                refine lv_iload_n hx hb dX5_distance_88 rfl (lv_at hl 3 rfl) ?_
                refine lv_iload hx hb dX5_distance_89 (lv_at hl 5 rfl) ?_
                refine lv_isub hx hb dX5_distance_91 ?_
                refine lv_goto (tgt := 99) hx hb dX5_distance_92 (by decide) ?_
                refine lv_istore (lv' := [(7, .int (y2_7 - y4_9)), (6, .int (y1_6 - x5_10)), (0, .ref aM), (1, .int y1_6), (2, .int y2_7), (3, .int x3_8), (4, .int y4_9), (5, .int x5_10)]) hx hb dX5_distance_99 hl (by decide) rfl (fun ls hl => ?_)
                refine lv_iload hx hb dX5_distance_101 (lv_at hl 1 rfl) ?_
                refine lv_iload hx hb dX5_distance_103 (lv_at hl 0 rfl) ?_
                refine lv_icmp_le (tgt := 113) hx hb dX5_distance_105 (by decide) (fun c_28 => ?_) (fun c_28 => ?_)
                · have hJ := j_t c_28 hJ
                  refine lv_iload hx hb dX5_distance_113 (lv_at hl 0 rfl) ?_
                  refine lv_istore (lv' := [(8, .int (y2_7 - y4_9)), (7, .int (y2_7 - y4_9)), (6, .int (y1_6 - x5_10)), (0, .ref aM), (1, .int y1_6), (2, .int y2_7), (3, .int x3_8), (4, .int y4_9), (5, .int x5_10)]) hx hb dX5_distance_115 hl (by decide) rfl (fun ls hl => ?_)
                  refine lv_iload hx hb dX5_distance_117 (lv_at hl 0 rfl) ?_
                  refine lv_iload_n hx hb dX5_distance_119 rfl (lv_at hl 6 rfl) ?_
                  refine lv_icmp_ge (tgt := 128) hx hb dX5_distance_120 (by decide) (fun c_29 => ?_) (fun c_29 => ?_)
                  · have hJ := j_t c_29 hJ
                    refine lv_iload_n hx hb dX5_distance_128 rfl (lv_at hl 6 rfl) ?_
                    refine lv_istore_n (lv' := [(3, .int x3_8), (8, .int (y2_7 - y4_9)), (7, .int (y2_7 - y4_9)), (6, .int (y1_6 - x5_10)), (0, .ref aM), (1, .int y1_6), (2, .int y2_7), (4, .int y4_9), (5, .int x5_10)]) hx hb dX5_distance_129 rfl hl (by decide) rfl (fun ls hl => ?_)
                    refine lv_iinc (v := (x5_10 + (1 : Int32))) (lv' := [(5, .int (x5_10 + (1 : Int32))), (3, .int x3_8), (8, .int (y2_7 - y4_9)), (7, .int (y2_7 - y4_9)), (6, .int (y1_6 - x5_10)), (0, .ref aM), (1, .int y1_6), (2, .int y2_7), (4, .int y4_9)]) hx hb dX5_distance_130 hl (k := 8) rfl rfl (by decide) rfl (fun ls hl => ?_)
                    refine lv_goto (tgt := 24) hx hb dX5_distance_133 (by decide) ?_
                    exact ih H locs x3_8 (x5_10 + (1 : Int32)) ls hJ hP hS (lv_sub hl [5, 6, 7, 1, 8, 0] rfl)
                  · have hJ := j_f c_29 hJ
                    refine lv_iload hx hb dX5_distance_123 (lv_at hl 0 rfl) ?_
                    refine lv_goto (tgt := 129) hx hb dX5_distance_125 (by decide) ?_
                    refine lv_istore_n (lv' := [(3, .int (y2_7 - y4_9)), (8, .int (y2_7 - y4_9)), (7, .int (y2_7 - y4_9)), (6, .int (y1_6 - x5_10)), (0, .ref aM), (1, .int y1_6), (2, .int y2_7), (4, .int y4_9), (5, .int x5_10)]) hx hb dX5_distance_129 rfl hl (by decide) rfl (fun ls hl => ?_)
                    refine lv_iinc (v := (x5_10 + (1 : Int32))) (lv' := [(5, .int (x5_10 + (1 : Int32))), (3, .int (y2_7 - y4_9)), (8, .int (y2_7 - y4_9)), (7, .int (y2_7 - y4_9)), (6, .int (y1_6 - x5_10)), (0, .ref aM), (1, .int y1_6), (2, .int y2_7), (4, .int y4_9)]) hx hb dX5_distance_130 hl (k := 8) rfl rfl (by decide) rfl (fun ls hl => ?_)
                    refine lv_goto (tgt := 24) hx hb dX5_distance_133 (by decide) ?_
                    exact ih H locs (y2_7 - y4_9) (x5_10 + (1 : Int32)) ls hJ hP hS (lv_sub hl [5, 6, 7, 1, 8, 0] rfl)
                · have hJ := j_f c_28 hJ
                  refine lv_iload hx hb dX5_distance_108 (lv_at hl 1 rfl) ?_
                  refine lv_goto (tgt := 115) hx hb dX5_distance_110 (by decide) ?_
                  refine lv_istore (lv' := [(8, .int (y1_6 - x5_10)), (7, .int (y2_7 - y4_9)), (6, .int (y1_6 - x5_10)), (0, .ref aM), (1, .int y1_6), (2, .int y2_7), (3, .int x3_8), (4, .int y4_9), (5, .int x5_10)]) hx hb dX5_distance_115 hl (by decide) rfl (fun ls hl => ?_)
                  refine lv_iload hx hb dX5_distance_117 (lv_at hl 0 rfl) ?_
                  refine lv_iload_n hx hb dX5_distance_119 rfl (lv_at hl 6 rfl) ?_
                  refine lv_icmp_ge (tgt := 128) hx hb dX5_distance_120 (by decide) (fun c_30 => ?_) (fun c_30 => ?_)
                  · have hJ := j_t c_30 hJ
                    refine lv_iload_n hx hb dX5_distance_128 rfl (lv_at hl 6 rfl) ?_
                    refine lv_istore_n (lv' := [(3, .int x3_8), (8, .int (y1_6 - x5_10)), (7, .int (y2_7 - y4_9)), (6, .int (y1_6 - x5_10)), (0, .ref aM), (1, .int y1_6), (2, .int y2_7), (4, .int y4_9), (5, .int x5_10)]) hx hb dX5_distance_129 rfl hl (by decide) rfl (fun ls hl => ?_)
                    refine lv_iinc (v := (x5_10 + (1 : Int32))) (lv' := [(5, .int (x5_10 + (1 : Int32))), (3, .int x3_8), (8, .int (y1_6 - x5_10)), (7, .int (y2_7 - y4_9)), (6, .int (y1_6 - x5_10)), (0, .ref aM), (1, .int y1_6), (2, .int y2_7), (4, .int y4_9)]) hx hb dX5_distance_130 hl (k := 8) rfl rfl (by decide) rfl (fun ls hl => ?_)
                    refine lv_goto (tgt := 24) hx hb dX5_distance_133 (by decide) ?_
                    exact ih H locs x3_8 (x5_10 + (1 : Int32)) ls hJ hP hS (lv_sub hl [5, 6, 7, 1, 8, 0] rfl)
                  · have hJ := j_f c_30 hJ
                    refine lv_iload hx hb dX5_distance_123 (lv_at hl 0 rfl) ?_
                    refine lv_goto (tgt := 129) hx hb dX5_distance_125 (by decide) ?_
                    refine lv_istore_n (lv' := [(3, .int (y1_6 - x5_10)), (8, .int (y1_6 - x5_10)), (7, .int (y2_7 - y4_9)), (6, .int (y1_6 - x5_10)), (0, .ref aM), (1, .int y1_6), (2, .int y2_7), (4, .int y4_9), (5, .int x5_10)]) hx hb dX5_distance_129 rfl hl (by decide) rfl (fun ls hl => ?_)
                    refine lv_iinc (v := (x5_10 + (1 : Int32))) (lv' := [(5, .int (x5_10 + (1 : Int32))), (3, .int (y1_6 - x5_10)), (8, .int (y1_6 - x5_10)), (7, .int (y2_7 - y4_9)), (6, .int (y1_6 - x5_10)), (0, .ref aM), (1, .int y1_6), (2, .int y2_7), (4, .int y4_9)]) hx hb dX5_distance_130 hl (k := 8) rfl rfl (by decide) rfl (fun ls hl => ?_)
                    refine lv_goto (tgt := 24) hx hb dX5_distance_133 (by decide) ?_
                    exact ih H locs (y1_6 - x5_10) (x5_10 + (1 : Int32)) ls hJ hP hS (lv_sub hl [5, 6, 7, 1, 8, 0] rfl)
          · have hJ := j_t c_15 hJ
            refine lv_goto (tgt := 130) hx hb dX5_distance_60 (by decide) ?_
            refine lv_iinc (v := (x5_10 + (1 : Int32))) (lv' := [(5, .int (x5_10 + (1 : Int32))), (0, .ref aM), (1, .int y1_6), (2, .int y2_7), (3, .int x3_8), (4, .int y4_9)]) hx hb dX5_distance_130 hl (k := 5) rfl rfl (by decide) rfl (fun ls hl => ?_)
            refine lv_goto (tgt := 24) hx hb dX5_distance_133 (by decide) ?_
            exact ih H locs x3_8 (x5_10 + (1 : Int32)) ls hJ hP hS (lv_sub hl [1, 2, 3, 4, 5, 0] rfl)
  have L_9 : ∀ (y1_1 : Int32) (y2_2 : Int32) (kk_142 : Int32 → Int32 → Option (Int32)) (hkk_142 : ∀ (H : Heap) (locs : List Loc) (x3_3 : Int32) (x4_4 : Int32) (ls : Array Slot), kk_142 x3_3 x4_4 = some o → va_P D vwCl [(aM, .inr (6, [.int cod, .int w, .int ht, .int fou, .ref aMf, .int ln, .int wd, .int rd, .int kp, .int car, .int hom, .int gol, .int hld, .double err, .int isw, .int mvs, .int mde, .ref aNm, .ref aBe, .int exa, .long lst, .ref aFa, .ref aCs, .ref aFr, .ref aRo, .ref aNe])), (aMf, .inl (cMf, 576, .inl mf)), (aNm, .inl (cNm, 4608, .inl nm)), (aBe, .inl (cBe, 4608, .inl be)), (aFa, .inl (cFa, 4608, .inl fa)), (aCs, .inl (cCs, 4608, .inl cs)), (aFr, .inl (cFr, 4608, .inl fr)), (aRo, .inl (cRo, 4608, .inl ro)), (aNe, .inl (cNe, 576, .inl ne))] H → va_S A s.heap H locs → lv_has ls 9 [(3, .int x3_3)] → W p l e (headSpec wsX5_distance rmX5_distance).room s m [.ref aM, .int p0, .int p1].toArray below meth c H locs 0 0 (MQ below (qRi o A) [.ref aM, .int p0, .int p1].toArray s 0 0 A) (F0 m 142 ls [])) (fz : Nat) (H : Heap) (locs : List Loc) (x3_3 : Int32) (x4_4 : Int32) (ls : Array Slot), J_X5_distance_L9 F w ht mf y1_1 y2_2 kk_142 fz x3_3 x4_4 = some o → va_P D vwCl [(aM, .inr (6, [.int cod, .int w, .int ht, .int fou, .ref aMf, .int ln, .int wd, .int rd, .int kp, .int car, .int hom, .int gol, .int hld, .double err, .int isw, .int mvs, .int mde, .ref aNm, .ref aBe, .int exa, .long lst, .ref aFa, .ref aCs, .ref aFr, .ref aRo, .ref aNe])), (aMf, .inl (cMf, 576, .inl mf)), (aNm, .inl (cNm, 4608, .inl nm)), (aBe, .inl (cBe, 4608, .inl be)), (aFa, .inl (cFa, 4608, .inl fa)), (aCs, .inl (cCs, 4608, .inl cs)), (aFr, .inl (cFr, 4608, .inl fr)), (aRo, .inl (cRo, 4608, .inl ro)), (aNe, .inl (cNe, 576, .inl ne))] H → va_S A s.heap H locs → lv_has ls 9 [(0, .ref aM), (1, .int y1_1), (2, .int y2_2), (3, .int x3_3), (4, .int x4_4)] → W p l e (headSpec wsX5_distance rmX5_distance).room s m [.ref aM, .int p0, .int p1].toArray below meth c H locs 0 0 (MQ below (qRi o A) [.ref aM, .int p0, .int p1].toArray s 0 0 A) (F0 m 9 ls []) := by
    intro y1_1 y2_2 kk_142 hkk_142 fz
    induction fz with
    | zero =>
      intro H locs x3_3 x4_4 ls hJ
      rw [J_X5_distance_L9] at hJ
      cases hJ
    | succ fz ih =>
      intro H locs x3_3 x4_4 ls hJ hP hS hl
      rw [J_X5_distance_L9] at hJ
      refine lv_iload hx hb dX5_distance_9 (lv_at hl 4 rfl) ?_
      refine lv_iload_n hx hb dX5_distance_11 rfl (lv_at hl 2 rfl) ?_
      refine lv_bipush (v := 8) hx hb dX5_distance_12 (by decide) ?_
      refine lv_iadd hx hb dX5_distance_14 ?_
      refine lv_icmp_gt (tgt := 142) hx hb dX5_distance_15 (by decide) (fun c_5 => ?_) (fun c_5 => ?_)
      · have hJ := j_t c_5 hJ
        exact hkk_142 H locs x3_3 x4_4 ls hJ hP hS (lv_sub hl [3] rfl)
      · have hJ := j_f c_5 hJ
        refine lv_iload_n hx hb dX5_distance_18 rfl (lv_at hl 1 rfl) ?_
        refine lv_bipush (v := 8) hx hb dX5_distance_19 (by decide) ?_
        refine lv_isub hx hb dX5_distance_21 ?_
        refine lv_istore (lv' := [(5, .int (y1_1 - (8 : Int32))), (0, .ref aM), (1, .int y1_1), (2, .int y2_2), (3, .int x3_3), (4, .int x4_4)]) hx hb dX5_distance_22 hl (by decide) rfl (fun ls hl => ?_)
        refine L_24 y1_1 y2_2 x4_4 _ ?_ F H locs x3_3 (y1_1 - (8 : Int32)) ls hJ hP hS (lv_sub hl [1, 2, 3, 4, 5, 0] rfl)
        · intro H locs x3_31 x5_32 ls hJ hP hS hl
          refine lv_iinc (v := (x4_4 + (1 : Int32))) (lv' := [(4, .int (x4_4 + (1 : Int32))), (0, .ref aM), (1, .int y1_1), (2, .int y2_2), (3, .int x3_31)]) hx hb dX5_distance_136 hl (k := 4) rfl rfl (by decide) rfl (fun ls hl => ?_)
          refine lv_goto (tgt := 9) hx hb dX5_distance_139 (by decide) ?_
          exact ih H locs x3_31 (x4_4 + (1 : Int32)) ls hJ hP hS (lv_sub hl [1, 2, 3, 4, 0] rfl)
  unfold J_X5_distance at hJ
  refine lv_bipush (v := 9) hx hb dX5_distance_0 (by decide) ?_
  refine lv_istore_n (lv' := [(3, .int (9 : Int32)), (0, .ref aM), (1, .int p0), (2, .int p1)]) hx hb dX5_distance_2 rfl hl (by decide) rfl (fun ls hl => ?_)
  refine lv_iload_n hx hb dX5_distance_3 rfl (lv_at hl 3 rfl) ?_
  refine lv_bipush (v := 8) hx hb dX5_distance_4 (by decide) ?_
  refine lv_isub hx hb dX5_distance_6 ?_
  refine lv_istore (lv' := [(4, .int (p1 - (8 : Int32))), (3, .int (9 : Int32)), (0, .ref aM), (1, .int p0), (2, .int p1)]) hx hb dX5_distance_7 hl (by decide) rfl (fun ls hl => ?_)
  refine L_9 p0 p1 _ ?_ F s.heap [] (9 : Int32) (p1 - (8 : Int32)) ls hJ hP hS (lv_sub hl [2, 3, 4, 1, 0] rfl)
  · intro H locs x3_33 x4_34 ls hJ hP hS hl
    refine lv_iload_n hx hb dX5_distance_142 rfl (lv_at hl 0 rfl) ?_
    have ho := Option.some.inj hJ
    exact W.iret (v := x3_33) hx hb hr (fun t ht hW => ⟨⟨_, (), rfl, ho, trivial⟩, hS.F ht⟩) hS.2.2 dX5_distance_143
set_option maxHeartbeats 4000000 in
set_option maxRecDepth 100000 in
theorem c_X5_findNear (l : Launch) (D : va_G) (aM aMf aNm aBe aFa aCs aFr aRo aNe : Nat) (cMf cNm cBe cFa cCs cFr cRo cNe : ClassId) (cod : Int32) (w : Int32) (ht : Int32) (fou : Int32) (ln : Int32) (wd : Int32) (rd : Int32) (kp : Int32) (car : Int32) (hom : Int32) (gol : Int32) (hld : Int32) (err : UInt64) (isw : Int32) (mvs : Int32) (mde : Int32) (exa : Int32) (lst : Int64) (mf : Nat → Int32) (nm : Nat → Int32) (be : Nat → Int32) (fa : Nat → Int32) (cs : Nat → Int32) (fr : Nat → Int32) (ro : Nat → Int32) (ne : Nat → Int32) (tX tY sz F : Nat) (o : (Nat → Int32)) (hJ : J_X5_findNear F w ht mf ne = some o) : Met l yX5_findNear wsX5_findNear rmX5_findNear (va_Pc [.ref aM] (pcW D [(aM, .inr (6, [.int cod, .int w, .int ht, .int fou, .ref aMf, .int ln, .int wd, .int rd, .int kp, .int car, .int hom, .int gol, .int hld, .double err, .int isw, .int mvs, .int mde, .ref aNm, .ref aBe, .int exa, .long lst, .ref aFa, .ref aCs, .ref aFr, .ref aRo, .ref aNe])), (aMf, .inl (cMf, 576, .inl mf)), (aNm, .inl (cNm, 4608, .inl nm)), (aBe, .inl (cBe, 4608, .inl be)), (aFa, .inl (cFa, 4608, .inl fa)), (aCs, .inl (cCs, 4608, .inl cs)), (aFr, .inl (cFr, 4608, .inl fr)), (aRo, .inl (cRo, 4608, .inl ro)), (aNe, .inl (cNe, 576, .inl ne))] [(cMf, .boolean), (cNm, .int), (cBe, .int), (cFa, .int), (cCs, .int), (cFr, .boolean), (cRo, .int), (cNe, .int)] sz tX tY)) (qWv D [(aM, .inr (6, [.int cod, .int w, .int ht, .int fou, .ref aMf, .int ln, .int wd, .int rd, .int kp, .int car, .int hom, .int gol, .int hld, .double err, .int isw, .int mvs, .int mde, .ref aNm, .ref aBe, .int exa, .long lst, .ref aFa, .ref aCs, .ref aFr, .ref aRo, .ref aNe])), (aMf, .inl (cMf, 576, .inl mf)), (aNm, .inl (cNm, 4608, .inl nm)), (aBe, .inl (cBe, 4608, .inl be)), (aFa, .inl (cFa, 4608, .inl fa)), (aCs, .inl (cCs, 4608, .inl cs)), (aFr, .inl (cFr, 4608, .inl fr)), (aRo, .inl (cRo, 4608, .inl ro)), (aNe, .inl (cNe, 576, .inl o))] (va_A [(aM, .inr (6, [.int cod, .int w, .int ht, .int fou, .ref aMf, .int ln, .int wd, .int rd, .int kp, .int car, .int hom, .int gol, .int hld, .double err, .int isw, .int mvs, .int mde, .ref aNm, .ref aBe, .int exa, .long lst, .ref aFa, .ref aCs, .ref aFr, .ref aRo, .ref aNe])), (aMf, .inl (cMf, 576, .inl mf)), (aNm, .inl (cNm, 4608, .inl nm)), (aBe, .inl (cBe, 4608, .inl be)), (aFa, .inl (cFa, 4608, .inl fa)), (aCs, .inl (cCs, 4608, .inl cs)), (aFr, .inl (cFr, 4608, .inl fr)), (aRo, .inl (cRo, 4608, .inl ro)), (aNe, .inl (cNe, 576, .inl ne))] sz)) 0 0 (va_A [(aM, .inr (6, [.int cod, .int w, .int ht, .int fou, .ref aMf, .int ln, .int wd, .int rd, .int kp, .int car, .int hom, .int gol, .int hld, .double err, .int isw, .int mvs, .int mde, .ref aNm, .ref aBe, .int exa, .long lst, .ref aFa, .ref aCs, .ref aFr, .ref aRo, .ref aNe])), (aMf, .inl (cMf, 576, .inl mf)), (aNm, .inl (cNm, 4608, .inl nm)), (aBe, .inl (cBe, 4608, .inl be)), (aFa, .inl (cFa, 4608, .inl fa)), (aCs, .inl (cCs, 4608, .inl cs)), (aFr, .inl (cFr, 4608, .inl fr)), (aRo, .inl (cRo, 4608, .inl ro)), (aNe, .inl (cNe, 576, .inl ne))] sz) := by
  refine Met.ofW (cc := cX5_findNear) (maxL := 3) (ret := none) (by decide) rfl ?_
  intro p e s m args below meth c s₁ B hml hv
  obtain ⟨rfl, hsz, hP, hK, hD0, hST⟩ := hv
  have hx := B.exec
  have hb := B.bytes
  have hr := B.returns
  have hts := atoms_spec (ws := wsX5_findNear) B.pre
  have hown : s.vm.findClass RX5 = some m.cls := findClass_of_methodNamed B.named
  have hlocks := B.notSynchronized
  subst hsz
  have hD := hD0.self (sz := s.heap.size)
  generalize hAe : va_A [(aM, .inr (6, [.int cod, .int w, .int ht, .int fou, .ref aMf, .int ln, .int wd, .int rd, .int kp, .int car, .int hom, .int gol, .int hld, .double err, .int isw, .int mvs, .int mde, .ref aNm, .ref aBe, .int exa, .long lst, .ref aFa, .ref aCs, .ref aFr, .ref aRo, .ref aNe])), (aMf, .inl (cMf, 576, .inl mf)), (aNm, .inl (cNm, 4608, .inl nm)), (aBe, .inl (cBe, 4608, .inl be)), (aFa, .inl (cFa, 4608, .inl fa)), (aCs, .inl (cCs, 4608, .inl cs)), (aFr, .inl (cFr, 4608, .inl fr)), (aRo, .inl (cRo, 4608, .inl ro)), (aNe, .inl (cNe, 576, .inl ne))] s.heap.size = A at hD hST ⊢
  have hA : ∀ q : Nat, s.heap.size ≤ q → A q := fun q h => by rw [← hAe]; exact Or.inr h
  have hS : va_S A s.heap s.heap [] := va_S.rf
  have hl := lv_entry ([.ref aM]) (n := 3) (Nat.le_of_ble_eq_true rfl)
  rw [lg_entry_eq]
  generalize (lg_sl ([.ref aM]) ++ List.replicate (3 - (lg_sl ([.ref aM])).length) Slot.unset).toArray = ls at hl ⊢
  have hl : lv_has ls 3 [(0, .ref aM)] := hl
  have iX5 : ∀ w ∈ wsX50, w ∈ wsX5_findNear := fun w h => List.mem_cons_of_mem _ (List.mem_append_right _ h)
  have k_1 := hts (.fieldLink RX5 52 "ParkWaysModel" "height" "I") (List.mem_of_getElem? (i := 1) rfl)
  have k_2 := hts (.fieldLink RX5 49 "ParkWaysModel" "width" "I") (List.mem_of_getElem? (i := 2) rfl)
  have k_3 := hts (.fieldLink RX5 46 "ParkWaysModel" "near" "[I") (List.mem_of_getElem? (i := 3) rfl)
  have L_12 : ∀ (y1_4 : Int32) (kk_43 : Int32 → (Nat → Int32) → Option ((Nat → Int32))) (hkk_43 : ∀ (H : Heap) (locs : List Loc) (x2_5 : Int32) (xne_6 : Nat → Int32) (ls : Array Slot), kk_43 x2_5 xne_6 = some o → va_P D vwCl [(aM, .inr (6, [.int cod, .int w, .int ht, .int fou, .ref aMf, .int ln, .int wd, .int rd, .int kp, .int car, .int hom, .int gol, .int hld, .double err, .int isw, .int mvs, .int mde, .ref aNm, .ref aBe, .int exa, .long lst, .ref aFa, .ref aCs, .ref aFr, .ref aRo, .ref aNe])), (aMf, .inl (cMf, 576, .inl mf)), (aNm, .inl (cNm, 4608, .inl nm)), (aBe, .inl (cBe, 4608, .inl be)), (aFa, .inl (cFa, 4608, .inl fa)), (aCs, .inl (cCs, 4608, .inl cs)), (aFr, .inl (cFr, 4608, .inl fr)), (aRo, .inl (cRo, 4608, .inl ro)), (aNe, .inl (cNe, 576, .inl xne_6))] H → va_D A [(aM, .inr (6, [.int cod, .int w, .int ht, .int fou, .ref aMf, .int ln, .int wd, .int rd, .int kp, .int car, .int hom, .int gol, .int hld, .double err, .int isw, .int mvs, .int mde, .ref aNm, .ref aBe, .int exa, .long lst, .ref aFa, .ref aCs, .ref aFr, .ref aRo, .ref aNe])), (aMf, .inl (cMf, 576, .inl mf)), (aNm, .inl (cNm, 4608, .inl nm)), (aBe, .inl (cBe, 4608, .inl be)), (aFa, .inl (cFa, 4608, .inl fa)), (aCs, .inl (cCs, 4608, .inl cs)), (aFr, .inl (cFr, 4608, .inl fr)), (aRo, .inl (cRo, 4608, .inl ro)), (aNe, .inl (cNe, 576, .inl xne_6))] → va_S A s.heap H locs → lv_has ls 3 [(0, .ref aM), (1, .int y1_4)] → W p l e (headSpec wsX5_findNear rmX5_findNear).room s m [.ref aM].toArray below meth c H locs 0 0 (MQ below (qWv D [(aM, .inr (6, [.int cod, .int w, .int ht, .int fou, .ref aMf, .int ln, .int wd, .int rd, .int kp, .int car, .int hom, .int gol, .int hld, .double err, .int isw, .int mvs, .int mde, .ref aNm, .ref aBe, .int exa, .long lst, .ref aFa, .ref aCs, .ref aFr, .ref aRo, .ref aNe])), (aMf, .inl (cMf, 576, .inl mf)), (aNm, .inl (cNm, 4608, .inl nm)), (aBe, .inl (cBe, 4608, .inl be)), (aFa, .inl (cFa, 4608, .inl fa)), (aCs, .inl (cCs, 4608, .inl cs)), (aFr, .inl (cFr, 4608, .inl fr)), (aRo, .inl (cRo, 4608, .inl ro)), (aNe, .inl (cNe, 576, .inl o))] A) [.ref aM].toArray s 0 0 A) (F0 m 43 ls [])) (fz : Nat) (H : Heap) (locs : List Loc) (x2_5 : Int32) (xne_6 : Nat → Int32) (ls : Array Slot), J_X5_findNear_L12 F w ht mf y1_4 kk_43 fz x2_5 xne_6 = some o → va_P D vwCl [(aM, .inr (6, [.int cod, .int w, .int ht, .int fou, .ref aMf, .int ln, .int wd, .int rd, .int kp, .int car, .int hom, .int gol, .int hld, .double err, .int isw, .int mvs, .int mde, .ref aNm, .ref aBe, .int exa, .long lst, .ref aFa, .ref aCs, .ref aFr, .ref aRo, .ref aNe])), (aMf, .inl (cMf, 576, .inl mf)), (aNm, .inl (cNm, 4608, .inl nm)), (aBe, .inl (cBe, 4608, .inl be)), (aFa, .inl (cFa, 4608, .inl fa)), (aCs, .inl (cCs, 4608, .inl cs)), (aFr, .inl (cFr, 4608, .inl fr)), (aRo, .inl (cRo, 4608, .inl ro)), (aNe, .inl (cNe, 576, .inl xne_6))] H → va_D A [(aM, .inr (6, [.int cod, .int w, .int ht, .int fou, .ref aMf, .int ln, .int wd, .int rd, .int kp, .int car, .int hom, .int gol, .int hld, .double err, .int isw, .int mvs, .int mde, .ref aNm, .ref aBe, .int exa, .long lst, .ref aFa, .ref aCs, .ref aFr, .ref aRo, .ref aNe])), (aMf, .inl (cMf, 576, .inl mf)), (aNm, .inl (cNm, 4608, .inl nm)), (aBe, .inl (cBe, 4608, .inl be)), (aFa, .inl (cFa, 4608, .inl fa)), (aCs, .inl (cCs, 4608, .inl cs)), (aFr, .inl (cFr, 4608, .inl fr)), (aRo, .inl (cRo, 4608, .inl ro)), (aNe, .inl (cNe, 576, .inl xne_6))] → va_S A s.heap H locs → lv_has ls 3 [(0, .ref aM), (1, .int y1_4), (2, .int x2_5)] → W p l e (headSpec wsX5_findNear rmX5_findNear).room s m [.ref aM].toArray below meth c H locs 0 0 (MQ below (qWv D [(aM, .inr (6, [.int cod, .int w, .int ht, .int fou, .ref aMf, .int ln, .int wd, .int rd, .int kp, .int car, .int hom, .int gol, .int hld, .double err, .int isw, .int mvs, .int mde, .ref aNm, .ref aBe, .int exa, .long lst, .ref aFa, .ref aCs, .ref aFr, .ref aRo, .ref aNe])), (aMf, .inl (cMf, 576, .inl mf)), (aNm, .inl (cNm, 4608, .inl nm)), (aBe, .inl (cBe, 4608, .inl be)), (aFa, .inl (cFa, 4608, .inl fa)), (aCs, .inl (cCs, 4608, .inl cs)), (aFr, .inl (cFr, 4608, .inl fr)), (aRo, .inl (cRo, 4608, .inl ro)), (aNe, .inl (cNe, 576, .inl o))] A) [.ref aM].toArray s 0 0 A) (F0 m 12 ls []) := by
    intro y1_4 kk_43 hkk_43 fz
    induction fz with
    | zero =>
      intro H locs x2_5 xne_6 ls hJ
      rw [J_X5_findNear_L12] at hJ
      cases hJ
    | succ fz ih =>
      intro H locs x2_5 xne_6 ls hJ hP hD hS hl
      rw [J_X5_findNear_L12] at hJ
      refine lv_iload_n hx hb dX5_findNear_12 rfl (lv_at hl 2 rfl) ?_
      refine lv_aload_n hx hb dX5_findNear_13 rfl (lv_at hl 0 rfl) ?_
      refine va_get (D := D) (ci := 6) (v := .int w) (C := RX5) (T := TX5) (N := 26) hx hb hts iX5 hown hK hP 0 rfl rfl 1 (by decide) k_2 (fun _ h9 => h9) rfl dX5_findNear_14 ?_
      refine lv_icmp_ge (tgt := 43) hx hb dX5_findNear_17 (by decide) (fun c_7 => ?_) (fun c_7 => ?_)
      · have hJ := j_t c_7 hJ
        exact hkk_43 H locs x2_5 xne_6 ls hJ hP hD hS (lv_sub hl [0, 1] rfl)
      · have hJ := j_f c_7 hJ
        refine lv_aload_n hx hb dX5_findNear_20 rfl (lv_at hl 0 rfl) ?_
        refine va_get (D := D) (ci := 6) (v := .ref aNe) (C := RX5) (T := TX5) (N := 26) hx hb hts iX5 hown hK hP 0 rfl rfl 25 (by decide) k_3 (fun _ h9 => h9) rfl dX5_findNear_21 ?_
        refine lv_bipush (v := 24) hx hb dX5_findNear_24 (by decide) ?_
        refine lv_iload_n hx hb dX5_findNear_26 rfl (lv_at hl 1 rfl) ?_
        refine lv_imul hx hb dX5_findNear_27 ?_
        refine lv_iload_n hx hb dX5_findNear_28 rfl (lv_at hl 2 rfl) ?_
        refine lv_iadd hx hb dX5_findNear_29 ?_
        refine lv_aload_n hx hb dX5_findNear_30 rfl (lv_at hl 0 rfl) ?_
        refine lv_iload_n hx hb dX5_findNear_31 rfl (lv_at hl 2 rfl) ?_
        refine lv_iload_n hx hb dX5_findNear_32 rfl (lv_at hl 1 rfl) ?_
        obtain ⟨v_8, hv_8, hJ⟩ := j_b hJ
        refine ro_i (va_runV (As := [.int x2_5, .int y1_4]) (rest := [.int (((24 : Int32) * y1_4) + x2_5), .ref aNe]) ⟨hx, hb, hml, hown, hts⟩ (c_X5_distance l D aM aMf aNm aBe aFa aCs aFr aRo aNe cMf cNm cBe cFa cCs cFr cRo cNe cod w ht fou ln wd rd kp car hom gol hld err isw mvs mde exa lst mf nm be fa cs fr ro xne_6 x2_5 y1_4 tX tY H.size F v_8 hv_8) (cwV 2 hts gX5_findNear_X5_distance rfl rfl rfl (by decide +kernel) ⟨Nat.le_of_ble_eq_true rfl, Nat.le_of_ble_eq_true rfl⟩) (preRV [.int x2_5, .int y1_4] hP hK hS hA hST [0, 1, 2, 3, 4, 5, 6, 7, 8] rfl [0, 1, 2, 3, 4, 5, 6, 7] rfl (ci := 6) (q0 := 0) rfl rfl) rfl rfl hl.1 rfl (lv_room (Nat.le_of_ble_eq_true rfl)) dX5_findNear_33 ⟨Nat.zero_le _, Nat.zero_le _⟩) hP hS hA (fun H locs hP hS => ?_)
        obtain ⟨h_9, hJ⟩ := g_in hJ
        refine va_iast hx hb hK hP hD hS 8 7 rfl rfl h_9 dX5_findNear_36 (fun H locs hP hD hS => ?_)
        have hP : va_P D vwCl [(aM, .inr (6, [.int cod, .int w, .int ht, .int fou, .ref aMf, .int ln, .int wd, .int rd, .int kp, .int car, .int hom, .int gol, .int hld, .double err, .int isw, .int mvs, .int mde, .ref aNm, .ref aBe, .int exa, .long lst, .ref aFa, .ref aCs, .ref aFr, .ref aRo, .ref aNe])), (aMf, .inl (cMf, 576, .inl mf)), (aNm, .inl (cNm, 4608, .inl nm)), (aBe, .inl (cBe, 4608, .inl be)), (aFa, .inl (cFa, 4608, .inl fa)), (aCs, .inl (cCs, 4608, .inl cs)), (aFr, .inl (cFr, 4608, .inl fr)), (aRo, .inl (cRo, 4608, .inl ro)), (aNe, .inl (cNe, 576, .inl (upd xne_6 (((24 : Int32) * y1_4) + x2_5).toNatClampNeg v_8)))] H := hP
        have hD : va_D A [(aM, .inr (6, [.int cod, .int w, .int ht, .int fou, .ref aMf, .int ln, .int wd, .int rd, .int kp, .int car, .int hom, .int gol, .int hld, .double err, .int isw, .int mvs, .int mde, .ref aNm, .ref aBe, .int exa, .long lst, .ref aFa, .ref aCs, .ref aFr, .ref aRo, .ref aNe])), (aMf, .inl (cMf, 576, .inl mf)), (aNm, .inl (cNm, 4608, .inl nm)), (aBe, .inl (cBe, 4608, .inl be)), (aFa, .inl (cFa, 4608, .inl fa)), (aCs, .inl (cCs, 4608, .inl cs)), (aFr, .inl (cFr, 4608, .inl fr)), (aRo, .inl (cRo, 4608, .inl ro)), (aNe, .inl (cNe, 576, .inl (upd xne_6 (((24 : Int32) * y1_4) + x2_5).toNatClampNeg v_8)))] := hD
        refine lv_iinc (v := (x2_5 + (1 : Int32))) (lv' := [(2, .int (x2_5 + (1 : Int32))), (0, .ref aM), (1, .int y1_4)]) hx hb dX5_findNear_37 hl (k := 2) rfl rfl (by decide) rfl (fun ls hl => ?_)
        refine lv_goto (tgt := 12) hx hb dX5_findNear_40 (by decide) ?_
        exact ih H locs (x2_5 + (1 : Int32)) (upd xne_6 (((24 : Int32) * y1_4) + x2_5).toNatClampNeg v_8) ls hJ hP hD hS (lv_sub hl [1, 2, 0] rfl)
  have L_2 : ∀ (kk_49 : Int32 → (Nat → Int32) → Option ((Nat → Int32))) (hkk_49 : ∀ (H : Heap) (locs : List Loc) (x1_1 : Int32) (xne_2 : Nat → Int32) (ls : Array Slot), kk_49 x1_1 xne_2 = some o → va_P D vwCl [(aM, .inr (6, [.int cod, .int w, .int ht, .int fou, .ref aMf, .int ln, .int wd, .int rd, .int kp, .int car, .int hom, .int gol, .int hld, .double err, .int isw, .int mvs, .int mde, .ref aNm, .ref aBe, .int exa, .long lst, .ref aFa, .ref aCs, .ref aFr, .ref aRo, .ref aNe])), (aMf, .inl (cMf, 576, .inl mf)), (aNm, .inl (cNm, 4608, .inl nm)), (aBe, .inl (cBe, 4608, .inl be)), (aFa, .inl (cFa, 4608, .inl fa)), (aCs, .inl (cCs, 4608, .inl cs)), (aFr, .inl (cFr, 4608, .inl fr)), (aRo, .inl (cRo, 4608, .inl ro)), (aNe, .inl (cNe, 576, .inl xne_2))] H → va_D A [(aM, .inr (6, [.int cod, .int w, .int ht, .int fou, .ref aMf, .int ln, .int wd, .int rd, .int kp, .int car, .int hom, .int gol, .int hld, .double err, .int isw, .int mvs, .int mde, .ref aNm, .ref aBe, .int exa, .long lst, .ref aFa, .ref aCs, .ref aFr, .ref aRo, .ref aNe])), (aMf, .inl (cMf, 576, .inl mf)), (aNm, .inl (cNm, 4608, .inl nm)), (aBe, .inl (cBe, 4608, .inl be)), (aFa, .inl (cFa, 4608, .inl fa)), (aCs, .inl (cCs, 4608, .inl cs)), (aFr, .inl (cFr, 4608, .inl fr)), (aRo, .inl (cRo, 4608, .inl ro)), (aNe, .inl (cNe, 576, .inl xne_2))] → va_S A s.heap H locs → lv_has ls 3 [] → W p l e (headSpec wsX5_findNear rmX5_findNear).room s m [.ref aM].toArray below meth c H locs 0 0 (MQ below (qWv D [(aM, .inr (6, [.int cod, .int w, .int ht, .int fou, .ref aMf, .int ln, .int wd, .int rd, .int kp, .int car, .int hom, .int gol, .int hld, .double err, .int isw, .int mvs, .int mde, .ref aNm, .ref aBe, .int exa, .long lst, .ref aFa, .ref aCs, .ref aFr, .ref aRo, .ref aNe])), (aMf, .inl (cMf, 576, .inl mf)), (aNm, .inl (cNm, 4608, .inl nm)), (aBe, .inl (cBe, 4608, .inl be)), (aFa, .inl (cFa, 4608, .inl fa)), (aCs, .inl (cCs, 4608, .inl cs)), (aFr, .inl (cFr, 4608, .inl fr)), (aRo, .inl (cRo, 4608, .inl ro)), (aNe, .inl (cNe, 576, .inl o))] A) [.ref aM].toArray s 0 0 A) (F0 m 49 ls [])) (fz : Nat) (H : Heap) (locs : List Loc) (x1_1 : Int32) (xne_2 : Nat → Int32) (ls : Array Slot), J_X5_findNear_L2 F w ht mf kk_49 fz x1_1 xne_2 = some o → va_P D vwCl [(aM, .inr (6, [.int cod, .int w, .int ht, .int fou, .ref aMf, .int ln, .int wd, .int rd, .int kp, .int car, .int hom, .int gol, .int hld, .double err, .int isw, .int mvs, .int mde, .ref aNm, .ref aBe, .int exa, .long lst, .ref aFa, .ref aCs, .ref aFr, .ref aRo, .ref aNe])), (aMf, .inl (cMf, 576, .inl mf)), (aNm, .inl (cNm, 4608, .inl nm)), (aBe, .inl (cBe, 4608, .inl be)), (aFa, .inl (cFa, 4608, .inl fa)), (aCs, .inl (cCs, 4608, .inl cs)), (aFr, .inl (cFr, 4608, .inl fr)), (aRo, .inl (cRo, 4608, .inl ro)), (aNe, .inl (cNe, 576, .inl xne_2))] H → va_D A [(aM, .inr (6, [.int cod, .int w, .int ht, .int fou, .ref aMf, .int ln, .int wd, .int rd, .int kp, .int car, .int hom, .int gol, .int hld, .double err, .int isw, .int mvs, .int mde, .ref aNm, .ref aBe, .int exa, .long lst, .ref aFa, .ref aCs, .ref aFr, .ref aRo, .ref aNe])), (aMf, .inl (cMf, 576, .inl mf)), (aNm, .inl (cNm, 4608, .inl nm)), (aBe, .inl (cBe, 4608, .inl be)), (aFa, .inl (cFa, 4608, .inl fa)), (aCs, .inl (cCs, 4608, .inl cs)), (aFr, .inl (cFr, 4608, .inl fr)), (aRo, .inl (cRo, 4608, .inl ro)), (aNe, .inl (cNe, 576, .inl xne_2))] → va_S A s.heap H locs → lv_has ls 3 [(0, .ref aM), (1, .int x1_1)] → W p l e (headSpec wsX5_findNear rmX5_findNear).room s m [.ref aM].toArray below meth c H locs 0 0 (MQ below (qWv D [(aM, .inr (6, [.int cod, .int w, .int ht, .int fou, .ref aMf, .int ln, .int wd, .int rd, .int kp, .int car, .int hom, .int gol, .int hld, .double err, .int isw, .int mvs, .int mde, .ref aNm, .ref aBe, .int exa, .long lst, .ref aFa, .ref aCs, .ref aFr, .ref aRo, .ref aNe])), (aMf, .inl (cMf, 576, .inl mf)), (aNm, .inl (cNm, 4608, .inl nm)), (aBe, .inl (cBe, 4608, .inl be)), (aFa, .inl (cFa, 4608, .inl fa)), (aCs, .inl (cCs, 4608, .inl cs)), (aFr, .inl (cFr, 4608, .inl fr)), (aRo, .inl (cRo, 4608, .inl ro)), (aNe, .inl (cNe, 576, .inl o))] A) [.ref aM].toArray s 0 0 A) (F0 m 2 ls []) := by
    intro kk_49 hkk_49 fz
    induction fz with
    | zero =>
      intro H locs x1_1 xne_2 ls hJ
      rw [J_X5_findNear_L2] at hJ
      cases hJ
    | succ fz ih =>
      intro H locs x1_1 xne_2 ls hJ hP hD hS hl
      rw [J_X5_findNear_L2] at hJ
      refine lv_iload_n hx hb dX5_findNear_2 rfl (lv_at hl 1 rfl) ?_
      refine lv_aload_n hx hb dX5_findNear_3 rfl (lv_at hl 0 rfl) ?_
      refine va_get (D := D) (ci := 6) (v := .int ht) (C := RX5) (T := TX5) (N := 26) hx hb hts iX5 hown hK hP 0 rfl rfl 2 (by decide) k_1 (fun _ h9 => h9) rfl dX5_findNear_4 ?_
      refine lv_icmp_ge (tgt := 49) hx hb dX5_findNear_7 (by decide) (fun c_3 => ?_) (fun c_3 => ?_)
      · have hJ := j_t c_3 hJ
        exact hkk_49 H locs x1_1 xne_2 ls hJ hP hD hS (lv_sub hl [] rfl)
      · have hJ := j_f c_3 hJ
        refine lv_iconst (v := 0) hx hb dX5_findNear_10 (by decide) ?_
        refine lv_istore_n (lv' := [(2, .int (0 : Int32)), (0, .ref aM), (1, .int x1_1)]) hx hb dX5_findNear_11 rfl hl (by decide) rfl (fun ls hl => ?_)
        refine L_12 x1_1 _ ?_ F H locs (0 : Int32) xne_2 ls hJ hP hD hS (lv_sub hl [1, 2, 0] rfl)
        · intro H locs x2_10 xne_11 ls hJ hP hD hS hl
          refine lv_iinc (v := (x1_1 + (1 : Int32))) (lv' := [(1, .int (x1_1 + (1 : Int32))), (0, .ref aM)]) hx hb dX5_findNear_43 hl (k := 1) rfl rfl (by decide) rfl (fun ls hl => ?_)
          refine lv_goto (tgt := 2) hx hb dX5_findNear_46 (by decide) ?_
          exact ih H locs (x1_1 + (1 : Int32)) xne_11 ls hJ hP hD hS (lv_sub hl [1, 0] rfl)
  unfold J_X5_findNear at hJ
  refine lv_iconst (v := 0) hx hb dX5_findNear_0 (by decide) ?_
  refine lv_istore_n (lv' := [(1, .int (0 : Int32)), (0, .ref aM)]) hx hb dX5_findNear_1 rfl hl (by decide) rfl (fun ls hl => ?_)
  refine L_2 _ ?_ F s.heap [] (0 : Int32) ne ls hJ hP hD hS (lv_sub hl [1, 0] rfl)
  · intro H locs x1_12 xne_13 ls hJ hP hD hS hl
    have ho := Option.some.inj hJ
    exact W.vret hx hb hr (fun t ht hW => ⟨⟨(), rfl, trivial, (by rw [ht, ← ho]; exact hP), (by rw [← ho]; exact hD)⟩, hS.F ht⟩) hS.2.2 dX5_findNear_49
set_option maxHeartbeats 4000000 in
set_option maxRecDepth 100000 in
theorem c_X5_clear (l : Launch) (D : va_G) (aM aMf aNm aBe aFa aCs aFr aRo aNe : Nat) (cMf cNm cBe cFa cCs cFr cRo cNe : ClassId) (cod : Int32) (w : Int32) (ht : Int32) (fou : Int32) (ln : Int32) (wd : Int32) (rd : Int32) (kp : Int32) (car : Int32) (hom : Int32) (gol : Int32) (hld : Int32) (err : UInt64) (isw : Int32) (mvs : Int32) (mde : Int32) (exa : Int32) (lst : Int64) (mf : Nat → Int32) (nm : Nat → Int32) (be : Nat → Int32) (fa : Nat → Int32) (cs : Nat → Int32) (fr : Nat → Int32) (ro : Nat → Int32) (ne : Nat → Int32) (p0 : Int32) (p1 : Int32) (p2 : Int32) (tX tY sz F : Nat) (o : Int32) (hJ : J_X5_clear F w ht ln wd ne p0 p1 p2 = some o) : Met l yX5_clear wsX5_clear rmX5_clear (va_Pc [.ref aM, .int p0, .int p1, .int p2] (pcR D [(aM, .inr (6, [.int cod, .int w, .int ht, .int fou, .ref aMf, .int ln, .int wd, .int rd, .int kp, .int car, .int hom, .int gol, .int hld, .double err, .int isw, .int mvs, .int mde, .ref aNm, .ref aBe, .int exa, .long lst, .ref aFa, .ref aCs, .ref aFr, .ref aRo, .ref aNe])), (aMf, .inl (cMf, 576, .inl mf)), (aNm, .inl (cNm, 4608, .inl nm)), (aBe, .inl (cBe, 4608, .inl be)), (aFa, .inl (cFa, 4608, .inl fa)), (aCs, .inl (cCs, 4608, .inl cs)), (aFr, .inl (cFr, 4608, .inl fr)), (aRo, .inl (cRo, 4608, .inl ro)), (aNe, .inl (cNe, 576, .inl ne))] [(cMf, .boolean), (cNm, .int), (cBe, .int), (cFa, .int), (cCs, .int), (cFr, .boolean), (cRo, .int), (cNe, .int)] sz tX tY)) (qRi o (va_A [] sz)) 0 0 (va_A [] sz) := by
  refine Met.ofW (cc := cX5_clear) (maxL := 11) (ret := (some .int)) (by decide) rfl ?_
  intro p e s m args below meth c s₁ B hml hv
  obtain ⟨rfl, hsz, hP, hK, hST⟩ := hv
  have hx := B.exec
  have hb := B.bytes
  have hr := B.returns
  have hts := atoms_spec (ws := wsX5_clear) B.pre
  have hown : s.vm.findClass RX5 = some m.cls := findClass_of_methodNamed B.named
  have hlocks := B.notSynchronized
  subst hsz
  generalize hAe : va_A [] s.heap.size = A at hST ⊢
  have hA : ∀ q : Nat, s.heap.size ≤ q → A q := fun q h => by rw [← hAe]; exact Or.inr h
  have hS : va_S A s.heap s.heap [] := va_S.rf
  have hl := lv_entry ([.ref aM, .int p0, .int p1, .int p2]) (n := 11) (Nat.le_of_ble_eq_true rfl)
  rw [lg_entry_eq]
  generalize (lg_sl ([.ref aM, .int p0, .int p1, .int p2]) ++ List.replicate (11 - (lg_sl ([.ref aM, .int p0, .int p1, .int p2])).length) Slot.unset).toArray = ls at hl ⊢
  have hl : lv_has ls 11 [(0, .ref aM), (1, .int p0), (2, .int p1), (3, .int p2)] := hl
  have iX5 : ∀ w ∈ wsX50, w ∈ wsX5_clear := fun w h => List.mem_cons_of_mem _ (List.mem_append_right _ h)
  have k_1 := hts (.fieldLink RX5 13 "ParkWaysModel" "length" "I") (List.mem_of_getElem? (i := 1) rfl)
  have k_2 := hts (.fieldLink RX5 17 "ParkWaysModel" "wide" "I") (List.mem_of_getElem? (i := 2) rfl)
  have k_3 := hts (.fieldLink RX5 46 "ParkWaysModel" "near" "[I") (List.mem_of_getElem? (i := 3) rfl)
  have L_45 : ∀ (y1_8 : Int32) (y2_9 : Int32) (y3_10 : Int32) (y5_12 : Int32) (y6_13 : Int32) (kk_146 : Int32 → Int32 → Option (Int32)) (hkk_146 : ∀ (H : Heap) (locs : List Loc) (x4_11 : Int32) (x7_14 : Int32) (ls : Array Slot), kk_146 x4_11 x7_14 = some o → va_P D vwCl [(aM, .inr (6, [.int cod, .int w, .int ht, .int fou, .ref aMf, .int ln, .int wd, .int rd, .int kp, .int car, .int hom, .int gol, .int hld, .double err, .int isw, .int mvs, .int mde, .ref aNm, .ref aBe, .int exa, .long lst, .ref aFa, .ref aCs, .ref aFr, .ref aRo, .ref aNe])), (aMf, .inl (cMf, 576, .inl mf)), (aNm, .inl (cNm, 4608, .inl nm)), (aBe, .inl (cBe, 4608, .inl be)), (aFa, .inl (cFa, 4608, .inl fa)), (aCs, .inl (cCs, 4608, .inl cs)), (aFr, .inl (cFr, 4608, .inl fr)), (aRo, .inl (cRo, 4608, .inl ro)), (aNe, .inl (cNe, 576, .inl ne))] H → va_S A s.heap H locs → lv_has ls 11 [(0, .ref aM), (1, .int y1_8), (2, .int y2_9), (3, .int y3_10), (4, .int x4_11), (5, .int y5_12), (6, .int y6_13)] → W p l e (headSpec wsX5_clear rmX5_clear).room s m [.ref aM, .int p0, .int p1, .int p2].toArray below meth c H locs 0 0 (MQ below (qRi o A) [.ref aM, .int p0, .int p1, .int p2].toArray s 0 0 A) (F0 m 146 ls [])) (fz : Nat) (H : Heap) (locs : List Loc) (x4_11 : Int32) (x7_14 : Int32) (ls : Array Slot), J_X5_clear_L45 F w ht wd ne y1_8 y2_9 y3_10 y5_12 y6_13 kk_146 fz x4_11 x7_14 = some o → va_P D vwCl [(aM, .inr (6, [.int cod, .int w, .int ht, .int fou, .ref aMf, .int ln, .int wd, .int rd, .int kp, .int car, .int hom, .int gol, .int hld, .double err, .int isw, .int mvs, .int mde, .ref aNm, .ref aBe, .int exa, .long lst, .ref aFa, .ref aCs, .ref aFr, .ref aRo, .ref aNe])), (aMf, .inl (cMf, 576, .inl mf)), (aNm, .inl (cNm, 4608, .inl nm)), (aBe, .inl (cBe, 4608, .inl be)), (aFa, .inl (cFa, 4608, .inl fa)), (aCs, .inl (cCs, 4608, .inl cs)), (aFr, .inl (cFr, 4608, .inl fr)), (aRo, .inl (cRo, 4608, .inl ro)), (aNe, .inl (cNe, 576, .inl ne))] H → va_S A s.heap H locs → lv_has ls 11 [(0, .ref aM), (1, .int y1_8), (2, .int y2_9), (3, .int y3_10), (4, .int x4_11), (5, .int y5_12), (6, .int y6_13), (7, .int x7_14)] → W p l e (headSpec wsX5_clear rmX5_clear).room s m [.ref aM, .int p0, .int p1, .int p2].toArray below meth c H locs 0 0 (MQ below (qRi o A) [.ref aM, .int p0, .int p1, .int p2].toArray s 0 0 A) (F0 m 45 ls []) := by
    intro y1_8 y2_9 y3_10 y5_12 y6_13 kk_146 hkk_146 fz
    induction fz with
    | zero =>
      intro H locs x4_11 x7_14 ls hJ
      rw [J_X5_clear_L45] at hJ
      cases hJ
    | succ fz ih =>
      intro H locs x4_11 x7_14 ls hJ hP hS hl
      rw [J_X5_clear_L45] at hJ
      refine lv_iload hx hb dX5_clear_45 (lv_at hl 7 rfl) ?_
      refine lv_aload_n hx hb dX5_clear_47 rfl (lv_at hl 0 rfl) ?_
      refine va_get (D := D) (ci := 6) (v := .int wd) (C := RX5) (T := TX5) (N := 26) hx hb hts iX5 hown hK hP 0 rfl rfl 6 (by decide) k_2 (fun _ h9 => h9) rfl dX5_clear_48 ?_
      refine lv_iconst (v := 2) hx hb dX5_clear_51 (by decide) ?_
      refine lv_idiv hx hb dX5_clear_52 (by decide) ?_
      refine lv_icmp_gt (tgt := 146) hx hb dX5_clear_53 (by decide) (fun c_15 => ?_) (fun c_15 => ?_)
      · have hJ := j_t c_15 hJ
        exact hkk_146 H locs x4_11 x7_14 ls hJ hP hS (lv_sub hl [0, 1, 2, 3, 4, 5, 6] rfl)
      · have hJ := j_f c_15 hJ
        refine lv_iload_n hx hb dX5_clear_56 rfl (lv_at hl 1 rfl) ?_
        refine lv_iload hx hb dX5_clear_57 (lv_at hl 6 rfl) ?_
        refine lv_iload_n hx hb dX5_clear_59 rfl (lv_at hl 3 rfl) ?_
        obtain ⟨v_16, hv_16, hJ⟩ := j_b hJ
        refine ro_i (va_runS (As := [.int y3_10]) (rest := [.int y6_13, .int y1_8]) ⟨hx, hb, hml, hown, hts⟩ (c_X5_dx l D y3_10 tX tY H.size F v_16 hv_16) (va_cwS 1 hts gX5_clear_X5_dx rfl rfl rfl (by decide +kernel) ⟨Nat.le_of_ble_eq_true rfl, Nat.le_of_ble_eq_true rfl⟩) (preRS [.int y3_10] hP hK hS hA hST [] rfl [] rfl) rfl rfl hl.1 rfl (lv_room (Nat.le_of_ble_eq_true rfl)) dX5_clear_60 ⟨Nat.zero_le _, Nat.zero_le _⟩) hP hS hA (fun H locs hP hS => ?_)
        refine lv_imul hx hb dX5_clear_63 ?_
        refine lv_iadd hx hb dX5_clear_64 ?_
        refine lv_iload hx hb dX5_clear_65 (lv_at hl 7 rfl) ?_
        refine lv_iload hx hb dX5_clear_67 (lv_at hl 5 rfl) ?_
        obtain ⟨v_17, hv_17, hJ⟩ := j_b hJ
        refine ro_i (va_runS (As := [.int y5_12]) (rest := [.int x7_14, .int (y1_8 + (y6_13 * v_16))]) ⟨hx, hb, hml, hown, hts⟩ (c_X5_dx l D y5_12 tX tY H.size F v_17 hv_17) (va_cwS 1 hts gX5_clear_X5_dx rfl rfl rfl (by decide +kernel) ⟨Nat.le_of_ble_eq_true rfl, Nat.le_of_ble_eq_true rfl⟩) (preRS [.int y5_12] hP hK hS hA hST [] rfl [] rfl) rfl rfl hl.1 rfl (lv_room (Nat.le_of_ble_eq_true rfl)) dX5_clear_69 ⟨Nat.zero_le _, Nat.zero_le _⟩) hP hS hA (fun H locs hP hS => ?_)
        refine lv_imul hx hb dX5_clear_72 ?_
        refine lv_iadd hx hb dX5_clear_73 ?_
        refine lv_istore (lv' := [(8, .int ((y1_8 + (y6_13 * v_16)) + (x7_14 * v_17))), (0, .ref aM), (1, .int y1_8), (2, .int y2_9), (3, .int y3_10), (4, .int x4_11), (5, .int y5_12), (6, .int y6_13), (7, .int x7_14)]) hx hb dX5_clear_74 hl (by decide) rfl (fun ls hl => ?_)
        refine lv_iload_n hx hb dX5_clear_76 rfl (lv_at hl 3 rfl) ?_
        refine lv_iload hx hb dX5_clear_77 (lv_at hl 7 rfl) ?_
        refine lv_iload_n hx hb dX5_clear_79 rfl (lv_at hl 4 rfl) ?_
        obtain ⟨v_18, hv_18, hJ⟩ := j_b hJ
        refine ro_i (va_runS (As := [.int y3_10]) (rest := [.int y6_13, .int y2_9]) ⟨hx, hb, hml, hown, hts⟩ (c_X5_dy l D y3_10 tX tY H.size F v_18 hv_18) (va_cwS 1 hts gX5_clear_X5_dy rfl rfl rfl (by decide +kernel) ⟨Nat.le_of_ble_eq_true rfl, Nat.le_of_ble_eq_true rfl⟩) (preRS [.int y3_10] hP hK hS hA hST [] rfl [] rfl) rfl rfl hl.1 rfl (lv_room (Nat.le_of_ble_eq_true rfl)) dX5_clear_80 ⟨Nat.zero_le _, Nat.zero_le _⟩) hP hS hA (fun H locs hP hS => ?_)
        refine lv_imul hx hb dX5_clear_83 ?_
        refine lv_iadd hx hb dX5_clear_84 ?_
        refine lv_iload hx hb dX5_clear_85 (lv_at hl 8 rfl) ?_
        refine lv_iload hx hb dX5_clear_87 (lv_at hl 6 rfl) ?_
        obtain ⟨v_19, hv_19, hJ⟩ := j_b hJ
        refine ro_i (va_runS (As := [.int y5_12]) (rest := [.int x7_14, .int (y2_9 + (y6_13 * v_18))]) ⟨hx, hb, hml, hown, hts⟩ (c_X5_dy l D y5_12 tX tY H.size F v_19 hv_19) (va_cwS 1 hts gX5_clear_X5_dy rfl rfl rfl (by decide +kernel) ⟨Nat.le_of_ble_eq_true rfl, Nat.le_of_ble_eq_true rfl⟩) (preRS [.int y5_12] hP hK hS hA hST [] rfl [] rfl) rfl rfl hl.1 rfl (lv_room (Nat.le_of_ble_eq_true rfl)) dX5_clear_89 ⟨Nat.zero_le _, Nat.zero_le _⟩) hP hS hA (fun H locs hP hS => ?_)
        refine lv_imul hx hb dX5_clear_92 ?_
        refine lv_iadd hx hb dX5_clear_93 ?_
        refine lv_istore (lv' := [(9, .int ((y2_9 + (y6_13 * v_18)) + (x7_14 * v_19))), (8, .int ((y1_8 + (y6_13 * v_16)) + (x7_14 * v_17))), (0, .ref aM), (1, .int y1_8), (2, .int y2_9), (3, .int y3_10), (4, .int x4_11), (5, .int y5_12), (6, .int y6_13), (7, .int x7_14)]) hx hb dX5_clear_94 hl (by decide) rfl (fun ls hl => ?_)
        refine lv_aload_n hx hb dX5_clear_96 rfl (lv_at hl 2 rfl) ?_
        refine lv_iload hx hb dX5_clear_97 (lv_at hl 1 rfl) ?_
        refine lv_iload hx hb dX5_clear_99 (lv_at hl 0 rfl) ?_
        obtain ⟨v_20, hv_20, hJ⟩ := j_b hJ
        refine ro_i (va_runV (As := [.int ((y1_8 + (y6_13 * v_16)) + (x7_14 * v_17)), .int ((y2_9 + (y6_13 * v_18)) + (x7_14 * v_19))]) (rest := []) ⟨hx, hb, hml, hown, hts⟩ (c_X5_isCell l D aM aMf aNm aBe aFa aCs aFr aRo aNe cMf cNm cBe cFa cCs cFr cRo cNe cod w ht fou ln wd rd kp car hom gol hld err isw mvs mde exa lst mf nm be fa cs fr ro ne ((y1_8 + (y6_13 * v_16)) + (x7_14 * v_17)) ((y2_9 + (y6_13 * v_18)) + (x7_14 * v_19)) tX tY H.size F v_20 hv_20) (cwV 2 hts gX5_clear_X5_isCell rfl rfl rfl (by decide +kernel) ⟨Nat.le_of_ble_eq_true rfl, Nat.le_of_ble_eq_true rfl⟩) (preRV [.int ((y1_8 + (y6_13 * v_16)) + (x7_14 * v_17)), .int ((y2_9 + (y6_13 * v_18)) + (x7_14 * v_19))] hP hK hS hA hST [0, 1, 2, 3, 4, 5, 6, 7, 8] rfl [0, 1, 2, 3, 4, 5, 6, 7] rfl (ci := 6) (q0 := 0) rfl rfl) rfl rfl hl.1 rfl (lv_room (Nat.le_of_ble_eq_true rfl)) dX5_clear_101 ⟨Nat.zero_le _, Nat.zero_le _⟩) hP hS hA (fun H locs hP hS => ?_)
        refine lv_if_ne (tgt := 109) hx hb dX5_clear_104 (by decide) (fun c_21 => ?_) (fun c_21 => ?_)
        · have hJ := j_f c_21 hJ
          refine lv_aload_n hx hb dX5_clear_109 rfl (lv_at hl 2 rfl) ?_
          refine va_get (D := D) (ci := 6) (v := .ref aNe) (C := RX5) (T := TX5) (N := 26) hx hb hts iX5 hown hK hP 0 rfl rfl 25 (by decide) k_3 (fun _ h9 => h9) rfl dX5_clear_110 ?_
          refine lv_bipush (v := 24) hx hb dX5_clear_113 (by decide) ?_
          refine lv_iload hx hb dX5_clear_115 (lv_at hl 0 rfl) ?_
          refine lv_imul hx hb dX5_clear_117 ?_
          refine lv_iload hx hb dX5_clear_118 (lv_at hl 1 rfl) ?_
          refine lv_iadd hx hb dX5_clear_120 ?_
          obtain ⟨h_22, hJ⟩ := g_in hJ
          refine va_iald hx hb hK hP 8 7 rfl rfl h_22 dX5_clear_121 ?_
          refine lv_istore (lv' := [(10, .int (ne (((24 : Int32) * ((y2_9 + (y6_13 * v_18)) + (x7_14 * v_19))) + ((y1_8 + (y6_13 * v_16)) + (x7_14 * v_17))).toNatClampNeg)), (9, .int ((y2_9 + (y6_13 * v_18)) + (x7_14 * v_19))), (8, .int ((y1_8 + (y6_13 * v_16)) + (x7_14 * v_17))), (0, .ref aM), (1, .int y1_8), (2, .int y2_9), (3, .int y3_10), (4, .int x4_11), (5, .int y5_12), (6, .int y6_13), (7, .int x7_14)]) hx hb dX5_clear_122 hl (by decide) rfl (fun ls hl => ?_)
          refine lv_iload hx hb dX5_clear_124 (lv_at hl 0 rfl) ?_
          refine lv_iload hx hb dX5_clear_126 (lv_at hl 7 rfl) ?_
          refine lv_icmp_ge (tgt := 136) hx hb dX5_clear_128 (by decide) (fun c_23 => ?_) (fun c_23 => ?_)
          · have hJ := j_t c_23 hJ
            refine lv_iload hx hb dX5_clear_136 (lv_at hl 7 rfl) ?_
            refine lv_istore (lv' := [(4, .int x4_11), (10, .int (ne (((24 : Int32) * ((y2_9 + (y6_13 * v_18)) + (x7_14 * v_19))) + ((y1_8 + (y6_13 * v_16)) + (x7_14 * v_17))).toNatClampNeg)), (9, .int ((y2_9 + (y6_13 * v_18)) + (x7_14 * v_19))), (8, .int ((y1_8 + (y6_13 * v_16)) + (x7_14 * v_17))), (0, .ref aM), (1, .int y1_8), (2, .int y2_9), (3, .int y3_10), (5, .int y5_12), (6, .int y6_13), (7, .int x7_14)]) hx hb dX5_clear_138 hl (by decide) rfl (fun ls hl => ?_)
            refine lv_iinc (v := (x7_14 + (1 : Int32))) (lv' := [(7, .int (x7_14 + (1 : Int32))), (4, .int x4_11), (10, .int (ne (((24 : Int32) * ((y2_9 + (y6_13 * v_18)) + (x7_14 * v_19))) + ((y1_8 + (y6_13 * v_16)) + (x7_14 * v_17))).toNatClampNeg)), (9, .int ((y2_9 + (y6_13 * v_18)) + (x7_14 * v_19))), (8, .int ((y1_8 + (y6_13 * v_16)) + (x7_14 * v_17))), (0, .ref aM), (1, .int y1_8), (2, .int y2_9), (3, .int y3_10), (5, .int y5_12), (6, .int y6_13)]) hx hb dX5_clear_140 hl (k := 10) rfl rfl (by decide) rfl (fun ls hl => ?_)
            refine lv_goto (tgt := 45) hx hb dX5_clear_143 (by decide) ?_
            exact ih H locs x4_11 (x7_14 + (1 : Int32)) ls hJ hP hS (lv_sub hl [5, 6, 7, 8, 1, 9, 10, 0] rfl)
          · have hJ := j_f c_23 hJ
            refine lv_iload hx hb dX5_clear_131 (lv_at hl 0 rfl) ?_
            refine lv_goto (tgt := 138) hx hb dX5_clear_133 (by decide) ?_
            refine lv_istore (lv' := [(4, .int (ne (((24 : Int32) * ((y2_9 + (y6_13 * v_18)) + (x7_14 * v_19))) + ((y1_8 + (y6_13 * v_16)) + (x7_14 * v_17))).toNatClampNeg)), (10, .int (ne (((24 : Int32) * ((y2_9 + (y6_13 * v_18)) + (x7_14 * v_19))) + ((y1_8 + (y6_13 * v_16)) + (x7_14 * v_17))).toNatClampNeg)), (9, .int ((y2_9 + (y6_13 * v_18)) + (x7_14 * v_19))), (8, .int ((y1_8 + (y6_13 * v_16)) + (x7_14 * v_17))), (0, .ref aM), (1, .int y1_8), (2, .int y2_9), (3, .int y3_10), (5, .int y5_12), (6, .int y6_13), (7, .int x7_14)]) hx hb dX5_clear_138 hl (by decide) rfl (fun ls hl => ?_)
            refine lv_iinc (v := (x7_14 + (1 : Int32))) (lv' := [(7, .int (x7_14 + (1 : Int32))), (4, .int (ne (((24 : Int32) * ((y2_9 + (y6_13 * v_18)) + (x7_14 * v_19))) + ((y1_8 + (y6_13 * v_16)) + (x7_14 * v_17))).toNatClampNeg)), (10, .int (ne (((24 : Int32) * ((y2_9 + (y6_13 * v_18)) + (x7_14 * v_19))) + ((y1_8 + (y6_13 * v_16)) + (x7_14 * v_17))).toNatClampNeg)), (9, .int ((y2_9 + (y6_13 * v_18)) + (x7_14 * v_19))), (8, .int ((y1_8 + (y6_13 * v_16)) + (x7_14 * v_17))), (0, .ref aM), (1, .int y1_8), (2, .int y2_9), (3, .int y3_10), (5, .int y5_12), (6, .int y6_13)]) hx hb dX5_clear_140 hl (k := 10) rfl rfl (by decide) rfl (fun ls hl => ?_)
            refine lv_goto (tgt := 45) hx hb dX5_clear_143 (by decide) ?_
            exact ih H locs (ne (((24 : Int32) * ((y2_9 + (y6_13 * v_18)) + (x7_14 * v_19))) + ((y1_8 + (y6_13 * v_16)) + (x7_14 * v_17))).toNatClampNeg) (x7_14 + (1 : Int32)) ls hJ hP hS (lv_sub hl [5, 6, 7, 8, 1, 9, 10, 0] rfl)
        · have hJ := j_t c_21 hJ
          refine lv_iconst (v := (-1)) hx hb dX5_clear_107 (by decide) ?_
          have ho := Option.some.inj hJ
          exact W.iret (v := (-1 : Int32)) hx hb hr (fun t ht hW => ⟨⟨_, (), rfl, ho, trivial⟩, hS.F ht⟩) hS.2.2 dX5_clear_108
  have L_23 : ∀ (y1_1 : Int32) (y2_2 : Int32) (y3_3 : Int32) (y5_5 : Int32) (kk_152 : Int32 → Int32 → Option (Int32)) (hkk_152 : ∀ (H : Heap) (locs : List Loc) (x4_4 : Int32) (x6_6 : Int32) (ls : Array Slot), kk_152 x4_4 x6_6 = some o → va_P D vwCl [(aM, .inr (6, [.int cod, .int w, .int ht, .int fou, .ref aMf, .int ln, .int wd, .int rd, .int kp, .int car, .int hom, .int gol, .int hld, .double err, .int isw, .int mvs, .int mde, .ref aNm, .ref aBe, .int exa, .long lst, .ref aFa, .ref aCs, .ref aFr, .ref aRo, .ref aNe])), (aMf, .inl (cMf, 576, .inl mf)), (aNm, .inl (cNm, 4608, .inl nm)), (aBe, .inl (cBe, 4608, .inl be)), (aFa, .inl (cFa, 4608, .inl fa)), (aCs, .inl (cCs, 4608, .inl cs)), (aFr, .inl (cFr, 4608, .inl fr)), (aRo, .inl (cRo, 4608, .inl ro)), (aNe, .inl (cNe, 576, .inl ne))] H → va_S A s.heap H locs → lv_has ls 11 [(4, .int x4_4)] → W p l e (headSpec wsX5_clear rmX5_clear).room s m [.ref aM, .int p0, .int p1, .int p2].toArray below meth c H locs 0 0 (MQ below (qRi o A) [.ref aM, .int p0, .int p1, .int p2].toArray s 0 0 A) (F0 m 152 ls [])) (fz : Nat) (H : Heap) (locs : List Loc) (x4_4 : Int32) (x6_6 : Int32) (ls : Array Slot), J_X5_clear_L23 F w ht ln wd ne y1_1 y2_2 y3_3 y5_5 kk_152 fz x4_4 x6_6 = some o → va_P D vwCl [(aM, .inr (6, [.int cod, .int w, .int ht, .int fou, .ref aMf, .int ln, .int wd, .int rd, .int kp, .int car, .int hom, .int gol, .int hld, .double err, .int isw, .int mvs, .int mde, .ref aNm, .ref aBe, .int exa, .long lst, .ref aFa, .ref aCs, .ref aFr, .ref aRo, .ref aNe])), (aMf, .inl (cMf, 576, .inl mf)), (aNm, .inl (cNm, 4608, .inl nm)), (aBe, .inl (cBe, 4608, .inl be)), (aFa, .inl (cFa, 4608, .inl fa)), (aCs, .inl (cCs, 4608, .inl cs)), (aFr, .inl (cFr, 4608, .inl fr)), (aRo, .inl (cRo, 4608, .inl ro)), (aNe, .inl (cNe, 576, .inl ne))] H → va_S A s.heap H locs → lv_has ls 11 [(0, .ref aM), (1, .int y1_1), (2, .int y2_2), (3, .int y3_3), (4, .int x4_4), (5, .int y5_5), (6, .int x6_6)] → W p l e (headSpec wsX5_clear rmX5_clear).room s m [.ref aM, .int p0, .int p1, .int p2].toArray below meth c H locs 0 0 (MQ below (qRi o A) [.ref aM, .int p0, .int p1, .int p2].toArray s 0 0 A) (F0 m 23 ls []) := by
    intro y1_1 y2_2 y3_3 y5_5 kk_152 hkk_152 fz
    induction fz with
    | zero =>
      intro H locs x4_4 x6_6 ls hJ
      rw [J_X5_clear_L23] at hJ
      cases hJ
    | succ fz ih =>
      intro H locs x4_4 x6_6 ls hJ hP hS hl
      rw [J_X5_clear_L23] at hJ
      refine lv_iload hx hb dX5_clear_23 (lv_at hl 6 rfl) ?_
      refine lv_aload_n hx hb dX5_clear_25 rfl (lv_at hl 0 rfl) ?_
      refine va_get (D := D) (ci := 6) (v := .int ln) (C := RX5) (T := TX5) (N := 26) hx hb hts iX5 hown hK hP 0 rfl rfl 5 (by decide) k_1 (fun _ h9 => h9) rfl dX5_clear_26 ?_
      refine lv_iconst (v := 2) hx hb dX5_clear_29 (by decide) ?_
      refine lv_idiv hx hb dX5_clear_30 (by decide) ?_
      refine lv_icmp_gt (tgt := 152) hx hb dX5_clear_31 (by decide) (fun c_7 => ?_) (fun c_7 => ?_)
      · have hJ := j_t c_7 hJ
        exact hkk_152 H locs x4_4 x6_6 ls hJ hP hS (lv_sub hl [4] rfl)
      · have hJ := j_f c_7 hJ
        refine lv_aload_n hx hb dX5_clear_34 rfl (lv_at hl 0 rfl) ?_
        refine va_get (D := D) (ci := 6) (v := .int wd) (C := RX5) (T := TX5) (N := 26) hx hb hts iX5 hown hK hP 0 rfl rfl 6 (by decide) k_2 (fun _ h9 => h9) rfl dX5_clear_35 ?_
        refine lv_iconst (v := 1) hx hb dX5_clear_38 (by decide) ?_
        refine lv_isub hx hb dX5_clear_39 ?_
        refine lv_iconst (v := 2) hx hb dX5_clear_40 (by decide) ?_
        refine lv_idiv hx hb dX5_clear_41 (by decide) ?_
        refine lv_ineg hx hb dX5_clear_42 ?_
        refine lv_istore (lv' := [(7, .int (-((wd - (1 : Int32)) / (2 : Int32)))), (0, .ref aM), (1, .int y1_1), (2, .int y2_2), (3, .int y3_3), (4, .int x4_4), (5, .int y5_5), (6, .int x6_6)]) hx hb dX5_clear_43 hl (by decide) rfl (fun ls hl => ?_)
        refine L_45 y1_1 y2_2 y3_3 y5_5 x6_6 _ ?_ F H locs x4_4 (-((wd - (1 : Int32)) / (2 : Int32))) ls hJ hP hS (lv_sub hl [1, 2, 3, 4, 5, 6, 7, 0] rfl)
        · intro H locs x4_24 x7_25 ls hJ hP hS hl
          refine lv_iinc (v := (x6_6 + (1 : Int32))) (lv' := [(6, .int (x6_6 + (1 : Int32))), (0, .ref aM), (1, .int y1_1), (2, .int y2_2), (3, .int y3_3), (4, .int x4_24), (5, .int y5_5)]) hx hb dX5_clear_146 hl (k := 6) rfl rfl (by decide) rfl (fun ls hl => ?_)
          refine lv_goto (tgt := 23) hx hb dX5_clear_149 (by decide) ?_
          exact ih H locs x4_24 (x6_6 + (1 : Int32)) ls hJ hP hS (lv_sub hl [1, 2, 3, 4, 5, 6, 0] rfl)
  unfold J_X5_clear at hJ
  refine lv_bipush (v := 9) hx hb dX5_clear_0 (by decide) ?_
  refine lv_istore (lv' := [(4, .int (9 : Int32)), (0, .ref aM), (1, .int p0), (2, .int p1), (3, .int p2)]) hx hb dX5_clear_2 hl (by decide) rfl (fun ls hl => ?_)
  refine lv_iload_n hx hb dX5_clear_4 rfl (lv_at hl 4 rfl) ?_
  refine lv_iconst (v := 2) hx hb dX5_clear_5 (by decide) ?_
  refine lv_iadd hx hb dX5_clear_6 ?_
  refine lv_bipush (v := 8) hx hb dX5_clear_7 (by decide) ?_
  refine lv_irem hx hb dX5_clear_9 (by decide) ?_
  refine lv_istore (lv' := [(5, .int ((p2 + (2 : Int32)) - (p2 + (2 : Int32)) / (8 : Int32) * (8 : Int32))), (4, .int (9 : Int32)), (0, .ref aM), (1, .int p0), (2, .int p1), (3, .int p2)]) hx hb dX5_clear_10 hl (by decide) rfl (fun ls hl => ?_)
  refine lv_aload_n hx hb dX5_clear_12 rfl (lv_at hl 2 rfl) ?_
  refine va_get (D := D) (ci := 6) (v := .int ln) (C := RX5) (T := TX5) (N := 26) hx hb hts iX5 hown hK hP 0 rfl rfl 5 (by decide) k_1 (fun _ h9 => h9) rfl dX5_clear_13 ?_
  refine lv_iconst (v := 1) hx hb dX5_clear_16 (by decide) ?_
  refine lv_isub hx hb dX5_clear_17 ?_
  refine lv_iconst (v := 2) hx hb dX5_clear_18 (by decide) ?_
  refine lv_idiv hx hb dX5_clear_19 (by decide) ?_
  refine lv_ineg hx hb dX5_clear_20 ?_
  refine lv_istore (lv' := [(6, .int (-((ln - (1 : Int32)) / (2 : Int32)))), (5, .int ((p2 + (2 : Int32)) - (p2 + (2 : Int32)) / (8 : Int32) * (8 : Int32))), (4, .int (9 : Int32)), (0, .ref aM), (1, .int p0), (2, .int p1), (3, .int p2)]) hx hb dX5_clear_21 hl (by decide) rfl (fun ls hl => ?_)
  refine L_23 p0 p1 p2 ((p2 + (2 : Int32)) - (p2 + (2 : Int32)) / (8 : Int32) * (8 : Int32)) _ ?_ F s.heap [] (9 : Int32) (-((ln - (1 : Int32)) / (2 : Int32))) ls hJ hP hS (lv_sub hl [3, 4, 5, 6, 2, 1, 0] rfl)
  · intro H locs x4_26 x6_27 ls hJ hP hS hl
    refine lv_iload hx hb dX5_clear_152 (lv_at hl 0 rfl) ?_
    have ho := Option.some.inj hJ
    exact W.iret (v := x4_26) hx hb hr (fun t ht hW => ⟨⟨_, (), rfl, ho, trivial⟩, hS.F ht⟩) hS.2.2 dX5_clear_154
set_option maxHeartbeats 4000000 in
set_option maxRecDepth 100000 in
theorem c_X5_isFree (l : Launch) (D : va_G) (aM aMf aNm aBe aFa aCs aFr aRo aNe : Nat) (cMf cNm cBe cFa cCs cFr cRo cNe : ClassId) (cod : Int32) (w : Int32) (ht : Int32) (fou : Int32) (ln : Int32) (wd : Int32) (rd : Int32) (kp : Int32) (car : Int32) (hom : Int32) (gol : Int32) (hld : Int32) (err : UInt64) (isw : Int32) (mvs : Int32) (mde : Int32) (exa : Int32) (lst : Int64) (mf : Nat → Int32) (nm : Nat → Int32) (be : Nat → Int32) (fa : Nat → Int32) (cs : Nat → Int32) (fr : Nat → Int32) (ro : Nat → Int32) (ne : Nat → Int32) (p0 : Int32) (p1 : Int32) (p2 : Int32) (tX tY sz F : Nat) (o : Int32) (hJ : J_X5_isFree F w ht ln wd kp ne p0 p1 p2 = some o) : Met l yX5_isFree wsX5_isFree rmX5_isFree (va_Pc [.ref aM, .int p0, .int p1, .int p2] (pcR D [(aM, .inr (6, [.int cod, .int w, .int ht, .int fou, .ref aMf, .int ln, .int wd, .int rd, .int kp, .int car, .int hom, .int gol, .int hld, .double err, .int isw, .int mvs, .int mde, .ref aNm, .ref aBe, .int exa, .long lst, .ref aFa, .ref aCs, .ref aFr, .ref aRo, .ref aNe])), (aMf, .inl (cMf, 576, .inl mf)), (aNm, .inl (cNm, 4608, .inl nm)), (aBe, .inl (cBe, 4608, .inl be)), (aFa, .inl (cFa, 4608, .inl fa)), (aCs, .inl (cCs, 4608, .inl cs)), (aFr, .inl (cFr, 4608, .inl fr)), (aRo, .inl (cRo, 4608, .inl ro)), (aNe, .inl (cNe, 576, .inl ne))] [(cMf, .boolean), (cNm, .int), (cBe, .int), (cFa, .int), (cCs, .int), (cFr, .boolean), (cRo, .int), (cNe, .int)] sz tX tY)) (qRi o (va_A [] sz)) 0 0 (va_A [] sz) := by
  refine Met.ofW (cc := cX5_isFree) (maxL := 4) (ret := (some .boolean)) (by decide) rfl ?_
  intro p e s m args below meth c s₁ B hml hv
  obtain ⟨rfl, hsz, hP, hK, hST⟩ := hv
  have hx := B.exec
  have hb := B.bytes
  have hr := B.returns
  have hts := atoms_spec (ws := wsX5_isFree) B.pre
  have hown : s.vm.findClass RX5 = some m.cls := findClass_of_methodNamed B.named
  have hlocks := B.notSynchronized
  subst hsz
  generalize hAe : va_A [] s.heap.size = A at hST ⊢
  have hA : ∀ q : Nat, s.heap.size ≤ q → A q := fun q h => by rw [← hAe]; exact Or.inr h
  have hS : va_S A s.heap s.heap [] := va_S.rf
  have hl := lv_entry ([.ref aM, .int p0, .int p1, .int p2]) (n := 4) (Nat.le_of_ble_eq_true rfl)
  rw [lg_entry_eq]
  generalize (lg_sl ([.ref aM, .int p0, .int p1, .int p2]) ++ List.replicate (4 - (lg_sl ([.ref aM, .int p0, .int p1, .int p2])).length) Slot.unset).toArray = ls at hl ⊢
  have hl : lv_has ls 4 [(0, .ref aM), (1, .int p0), (2, .int p1), (3, .int p2)] := hl
  have iX5 : ∀ w ∈ wsX50, w ∈ wsX5_isFree := fun w h => List.mem_cons_of_mem _ (List.mem_append_right _ h)
  have k_1 := hts (.fieldLink RX5 80 "ParkWaysModel" "keep" "I") (List.mem_of_getElem? (i := 1) rfl)
  unfold J_X5_isFree at hJ
  refine lv_aload_n hx hb dX5_isFree_0 rfl (lv_at hl 0 rfl) ?_
  refine lv_iload_n hx hb dX5_isFree_1 rfl (lv_at hl 1 rfl) ?_
  refine lv_iload_n hx hb dX5_isFree_2 rfl (lv_at hl 2 rfl) ?_
  obtain ⟨v_1, hv_1, hJ⟩ := j_b hJ
  refine ro_i (va_runV (As := [.int p0, .int p1]) (rest := []) ⟨hx, hb, hml, hown, hts⟩ (c_X5_isCell l D aM aMf aNm aBe aFa aCs aFr aRo aNe cMf cNm cBe cFa cCs cFr cRo cNe cod w ht fou ln wd rd kp car hom gol hld err isw mvs mde exa lst mf nm be fa cs fr ro ne p0 p1 tX tY s.heap.size F v_1 hv_1) (cwV 2 hts gX5_isFree_X5_isCell rfl rfl rfl (by decide +kernel) ⟨Nat.le_of_ble_eq_true rfl, Nat.le_of_ble_eq_true rfl⟩) (preRV [.int p0, .int p1] hP hK hS hA hST [0, 1, 2, 3, 4, 5, 6, 7, 8] rfl [0, 1, 2, 3, 4, 5, 6, 7] rfl (ci := 6) (q0 := 0) rfl rfl) rfl rfl hl.1 rfl (lv_room (Nat.le_of_ble_eq_true rfl)) dX5_isFree_3 ⟨Nat.zero_le _, Nat.zero_le _⟩) hP hS hA (fun H locs hP hS => ?_)
  refine lv_if_eq (tgt := 27) hx hb dX5_isFree_6 (by decide) (fun c_2 => ?_) (fun c_2 => ?_)
  · have hJ := j_t c_2 hJ
    refine lv_iconst (v := 0) hx hb dX5_isFree_27 (by decide) ?_
    have ho := Option.some.inj hJ
    exact W.zret (v := (0 : Int32)) hx hb hr rfl (fun t ht hW => ⟨⟨_, (), rfl, ho, trivial⟩, hS.F ht⟩) hS.2.2 dX5_isFree_28
  · have hJ := j_f c_2 hJ
    refine lv_aload_n hx hb dX5_isFree_9 rfl (lv_at hl 0 rfl) ?_
    refine lv_iload_n hx hb dX5_isFree_10 rfl (lv_at hl 1 rfl) ?_
    refine lv_iload_n hx hb dX5_isFree_11 rfl (lv_at hl 2 rfl) ?_
    refine lv_iload_n hx hb dX5_isFree_12 rfl (lv_at hl 3 rfl) ?_
    obtain ⟨v_3, hv_3, hJ⟩ := j_b hJ
    refine ro_i (va_runV (As := [.int p0, .int p1, .int p2]) (rest := []) ⟨hx, hb, hml, hown, hts⟩ (c_X5_clear l D aM aMf aNm aBe aFa aCs aFr aRo aNe cMf cNm cBe cFa cCs cFr cRo cNe cod w ht fou ln wd rd kp car hom gol hld err isw mvs mde exa lst mf nm be fa cs fr ro ne p0 p1 p2 tX tY H.size F v_3 hv_3) (cwV 3 hts gX5_isFree_X5_clear rfl rfl rfl (by decide +kernel) ⟨Nat.le_of_ble_eq_true rfl, Nat.le_of_ble_eq_true rfl⟩) (preRV [.int p0, .int p1, .int p2] hP hK hS hA hST [0, 1, 2, 3, 4, 5, 6, 7, 8] rfl [0, 1, 2, 3, 4, 5, 6, 7] rfl (ci := 6) (q0 := 0) rfl rfl) rfl rfl hl.1 rfl (lv_room (Nat.le_of_ble_eq_true rfl)) dX5_isFree_13 ⟨Nat.zero_le _, Nat.zero_le _⟩) hP hS hA (fun H locs hP hS => ?_)
    refine lv_aload_n hx hb dX5_isFree_16 rfl (lv_at hl 0 rfl) ?_
    refine va_get (D := D) (ci := 6) (v := .int kp) (C := RX5) (T := TX5) (N := 26) hx hb hts iX5 hown hK hP 0 rfl rfl 8 (by decide) k_1 (fun _ h9 => h9) rfl dX5_isFree_17 ?_
    refine lv_icmp_le (tgt := 27) hx hb dX5_isFree_20 (by decide) (fun c_4 => ?_) (fun c_4 => ?_)
    · have hJ := j_t c_4 hJ
      refine lv_iconst (v := 0) hx hb dX5_isFree_27 (by decide) ?_
      have ho := Option.some.inj hJ
      exact W.zret (v := (0 : Int32)) hx hb hr rfl (fun t ht hW => ⟨⟨_, (), rfl, ho, trivial⟩, hS.F ht⟩) hS.2.2 dX5_isFree_28
    · have hJ := j_f c_4 hJ
      refine lv_iconst (v := 1) hx hb dX5_isFree_23 (by decide) ?_
      refine lv_goto (tgt := 28) hx hb dX5_isFree_24 (by decide) ?_
      have ho := Option.some.inj hJ
      exact W.zret (v := (1 : Int32)) hx hb hr rfl (fun t ht hW => ⟨⟨_, (), rfl, ho, trivial⟩, hS.F ht⟩) hS.2.2 dX5_isFree_28
set_option maxHeartbeats 4000000 in
set_option maxRecDepth 100000 in
theorem c_X5_isHeading (l : Launch) (D : va_G) (aM aMf aNm aBe aFa aCs aFr aRo aNe : Nat) (cMf cNm cBe cFa cCs cFr cRo cNe : ClassId) (cod : Int32) (w : Int32) (ht : Int32) (fou : Int32) (ln : Int32) (wd : Int32) (rd : Int32) (kp : Int32) (car : Int32) (hom : Int32) (gol : Int32) (hld : Int32) (err : UInt64) (isw : Int32) (mvs : Int32) (mde : Int32) (exa : Int32) (lst : Int64) (mf : Nat → Int32) (nm : Nat → Int32) (be : Nat → Int32) (fa : Nat → Int32) (cs : Nat → Int32) (fr : Nat → Int32) (ro : Nat → Int32) (ne : Nat → Int32) (p0 : Int32) (tX tY sz F : Nat) (o : Int32) (hJ : J_X5_isHeading F fou p0 = some o) : Met l yX5_isHeading wsX5_isHeading rmX5_isHeading (va_Pc [.ref aM, .int p0] (pcR D [(aM, .inr (6, [.int cod, .int w, .int ht, .int fou, .ref aMf, .int ln, .int wd, .int rd, .int kp, .int car, .int hom, .int gol, .int hld, .double err, .int isw, .int mvs, .int mde, .ref aNm, .ref aBe, .int exa, .long lst, .ref aFa, .ref aCs, .ref aFr, .ref aRo, .ref aNe])), (aMf, .inl (cMf, 576, .inl mf)), (aNm, .inl (cNm, 4608, .inl nm)), (aBe, .inl (cBe, 4608, .inl be)), (aFa, .inl (cFa, 4608, .inl fa)), (aCs, .inl (cCs, 4608, .inl cs)), (aFr, .inl (cFr, 4608, .inl fr)), (aRo, .inl (cRo, 4608, .inl ro)), (aNe, .inl (cNe, 576, .inl ne))] [(cMf, .boolean), (cNm, .int), (cBe, .int), (cFa, .int), (cCs, .int), (cFr, .boolean), (cRo, .int), (cNe, .int)] sz tX tY)) (qRi o (va_A [] sz)) 0 0 (va_A [] sz) := by
  refine Met.ofW (cc := cX5_isHeading) (maxL := 2) (ret := (some .boolean)) (by decide) rfl ?_
  intro p e s m args below meth c s₁ B hml hv
  obtain ⟨rfl, hsz, hP, hK, hST⟩ := hv
  have hx := B.exec
  have hb := B.bytes
  have hr := B.returns
  have hts := atoms_spec (ws := wsX5_isHeading) B.pre
  have hown : s.vm.findClass RX5 = some m.cls := findClass_of_methodNamed B.named
  have hlocks := B.notSynchronized
  subst hsz
  generalize hAe : va_A [] s.heap.size = A at hST ⊢
  have hA : ∀ q : Nat, s.heap.size ≤ q → A q := fun q h => by rw [← hAe]; exact Or.inr h
  have hS : va_S A s.heap s.heap [] := va_S.rf
  have hl := lv_entry ([.ref aM, .int p0]) (n := 2) (Nat.le_of_ble_eq_true rfl)
  rw [lg_entry_eq]
  generalize (lg_sl ([.ref aM, .int p0]) ++ List.replicate (2 - (lg_sl ([.ref aM, .int p0])).length) Slot.unset).toArray = ls at hl ⊢
  have hl : lv_has ls 2 [(0, .ref aM), (1, .int p0)] := hl
  have iX5 : ∀ w ∈ wsX50, w ∈ wsX5_isHeading := fun w h => List.mem_cons_of_mem _ (List.mem_append_right _ h)
  have k_1 := hts (.fieldLink RX5 55 "ParkWaysModel" "four" "Z") (List.mem_of_getElem? (i := 1) rfl)
  unfold J_X5_isHeading at hJ
  refine lv_iload_n hx hb dX5_isHeading_0 rfl (lv_at hl 1 rfl) ?_
  refine lv_if_lt (tgt := 27) hx hb dX5_isHeading_1 (by decide) (fun c_1 => ?_) (fun c_1 => ?_)
  · have hJ := j_t c_1 hJ
    refine lv_iconst (v := 0) hx hb dX5_isHeading_27 (by decide) ?_
    have ho := Option.some.inj hJ
    exact W.zret (v := (0 : Int32)) hx hb hr rfl (fun t ht hW => ⟨⟨_, (), rfl, ho, trivial⟩, hS.F ht⟩) hS.2.2 dX5_isHeading_28
  · have hJ := j_f c_1 hJ
    refine lv_iload_n hx hb dX5_isHeading_4 rfl (lv_at hl 1 rfl) ?_
    refine lv_bipush (v := 8) hx hb dX5_isHeading_5 (by decide) ?_
    refine lv_icmp_ge (tgt := 27) hx hb dX5_isHeading_7 (by decide) (fun c_2 => ?_) (fun c_2 => ?_)
    · have hJ := j_t c_2 hJ
      refine lv_iconst (v := 0) hx hb dX5_isHeading_27 (by decide) ?_
      have ho := Option.some.inj hJ
      exact W.zret (v := (0 : Int32)) hx hb hr rfl (fun t ht hW => ⟨⟨_, (), rfl, ho, trivial⟩, hS.F ht⟩) hS.2.2 dX5_isHeading_28
    · have hJ := j_f c_2 hJ
      refine lv_aload_n hx hb dX5_isHeading_10 rfl (lv_at hl 0 rfl) ?_
      refine va_get (D := D) (ci := 6) (v := .int fou) (C := RX5) (T := TX5) (N := 26) hx hb hts iX5 hown hK hP 0 rfl rfl 3 (by decide) k_1 (fun _ h9 => h9) rfl dX5_isHeading_11 ?_
      refine lv_if_eq (tgt := 23) hx hb dX5_isHeading_14 (by decide) (fun c_3 => ?_) (fun c_3 => ?_)
      · have hJ := j_t c_3 hJ
        refine lv_iconst (v := 1) hx hb dX5_isHeading_23 (by decide) ?_
        refine lv_goto (tgt := 28) hx hb dX5_isHeading_24 (by decide) ?_
        have ho := Option.some.inj hJ
        exact W.zret (v := (1 : Int32)) hx hb hr rfl (fun t ht hW => ⟨⟨_, (), rfl, ho, trivial⟩, hS.F ht⟩) hS.2.2 dX5_isHeading_28
      · have hJ := j_f c_3 hJ
        refine lv_iload_n hx hb dX5_isHeading_17 rfl (lv_at hl 1 rfl) ?_
        refine lv_iconst (v := 2) hx hb dX5_isHeading_18 (by decide) ?_
        refine lv_irem hx hb dX5_isHeading_19 (by decide) ?_
        refine lv_if_ne (tgt := 27) hx hb dX5_isHeading_20 (by decide) (fun c_4 => ?_) (fun c_4 => ?_)
        · have hJ := j_f c_4 hJ
          refine lv_iconst (v := 0) hx hb dX5_isHeading_27 (by decide) ?_
          have ho := Option.some.inj hJ
          exact W.zret (v := (0 : Int32)) hx hb hr rfl (fun t ht hW => ⟨⟨_, (), rfl, ho, trivial⟩, hS.F ht⟩) hS.2.2 dX5_isHeading_28
        · have hJ := j_t c_4 hJ
          refine lv_iconst (v := 1) hx hb dX5_isHeading_23 (by decide) ?_
          refine lv_goto (tgt := 28) hx hb dX5_isHeading_24 (by decide) ?_
          have ho := Option.some.inj hJ
          exact W.zret (v := (1 : Int32)) hx hb hr rfl (fun t ht hW => ⟨⟨_, (), rfl, ho, trivial⟩, hS.F ht⟩) hS.2.2 dX5_isHeading_28
