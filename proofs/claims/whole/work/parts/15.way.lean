set_option maxHeartbeats 4000000 in
set_option maxRecDepth 100000 in
theorem c_X3_drop (l : Launch) (D : va_G) (aW aMv aPl : Nat) (cMv cPl : ClassId) (cnt : Int32) (mde : Int32) (stn : Int32) (nMv : Nat) (mv : Nat → Int32) (nPl : Nat) (pl : Nat → Int32) (tX tY sz F : Nat) (o : Int32 × Int32 × Int32) (hJ : J_X3_drop F = some o) : Met l yX3_drop wsX3_drop rmX3_drop (va_Pc [.ref aW] (pcW D [(aW, .inr (4, [.ref aMv, .ref aPl, .int cnt, .int mde, .int stn])), (aMv, .inl (cMv, nMv, .inl mv)), (aPl, .inl (cPl, nPl, .inl pl))] [(cMv, .int), (cPl, .int)] sz tX tY)) (qWv D [(aW, .inr (4, [.ref aMv, .ref aPl, .int o.1, .int o.2.1, .int o.2.2])), (aMv, .inl (cMv, nMv, .inl mv)), (aPl, .inl (cPl, nPl, .inl pl))] (va_A [(aW, .inr (4, [.ref aMv, .ref aPl, .int cnt, .int mde, .int stn])), (aMv, .inl (cMv, nMv, .inl mv)), (aPl, .inl (cPl, nPl, .inl pl))] sz)) 0 0 (va_A [(aW, .inr (4, [.ref aMv, .ref aPl, .int cnt, .int mde, .int stn])), (aMv, .inl (cMv, nMv, .inl mv)), (aPl, .inl (cPl, nPl, .inl pl))] sz) := by
  refine Met.ofW (cc := cX3_drop) (maxL := 1) (ret := none) (by decide) rfl ?_
  intro p e s m args below meth c s₁ B hml hv
  obtain ⟨rfl, hsz, hP, hK, hD0, hST⟩ := hv
  have hx := B.exec
  have hb := B.bytes
  have hr := B.returns
  have hts := atoms_spec (ws := wsX3_drop) B.pre
  have hown : s.vm.findClass RX3 = some m.cls := findClass_of_methodNamed B.named
  have hlocks := B.notSynchronized
  subst hsz
  have hD := hD0.self (sz := s.heap.size)
  generalize hAe : va_A [(aW, .inr (4, [.ref aMv, .ref aPl, .int cnt, .int mde, .int stn])), (aMv, .inl (cMv, nMv, .inl mv)), (aPl, .inl (cPl, nPl, .inl pl))] s.heap.size = A at hD hST ⊢
  have hA : ∀ q : Nat, s.heap.size ≤ q → A q := fun q h => by rw [← hAe]; exact Or.inr h
  have hS : va_S A s.heap s.heap [] := va_S.rf
  have hl := lv_entry ([.ref aW]) (n := 1) (Nat.le_of_ble_eq_true rfl)
  rw [lg_entry_eq]
  generalize (lg_sl ([.ref aW]) ++ List.replicate (1 - (lg_sl ([.ref aW])).length) Slot.unset).toArray = ls at hl ⊢
  have hl : lv_has ls 1 [(0, .ref aW)] := hl
  have iX3 : ∀ w ∈ wsX30, w ∈ wsX3_drop := fun w h => List.mem_cons_of_mem _ (List.mem_append_right _ h)
  have k_1 := hts (.fieldLink RX3 18 "ParkWays$Way" "stands" "Z") (List.mem_of_getElem? (i := 1) rfl)
  have k_2 := hts (.fieldLink RX3 22 "ParkWays$Way" "count" "I") (List.mem_of_getElem? (i := 2) rfl)
  have k_3 := hts (.fieldLink RX3 26 "ParkWays$Way" "made" "I") (List.mem_of_getElem? (i := 3) rfl)
  unfold J_X3_drop at hJ
  refine lv_aload_n hx hb dX3_drop_0 rfl (lv_at hl 0 rfl) ?_
  refine lv_iconst (v := 0) hx hb dX3_drop_1 (by decide) ?_
  refine va_put (D := D) (ci := 4) (v := .int (0 : Int32)) (ty := .boolean) (C := RX3) (T := TX3) (N := 5) hx hb hts iX3 tyX3 tyX3_ok nmX3 hown hK hP hD hS 0 rfl rfl 4 (by decide) k_1 (fun _ h9 => h9) rfl (by decide +kernel) rfl rfl (Nat.le_of_ble_eq_true rfl) dX3_drop_2 (fun H locs hP hD hS => ?_)
  have hP : va_P D vwCl [(aW, .inr (4, [.ref aMv, .ref aPl, .int cnt, .int mde, .int (0 : Int32)])), (aMv, .inl (cMv, nMv, .inl mv)), (aPl, .inl (cPl, nPl, .inl pl))] H := hP
  have hD : va_D A [(aW, .inr (4, [.ref aMv, .ref aPl, .int cnt, .int mde, .int (0 : Int32)])), (aMv, .inl (cMv, nMv, .inl mv)), (aPl, .inl (cPl, nPl, .inl pl))] := hD
  refine lv_aload_n hx hb dX3_drop_5 rfl (lv_at hl 0 rfl) ?_
  refine lv_iconst (v := 0) hx hb dX3_drop_6 (by decide) ?_
  refine va_put (D := D) (ci := 4) (v := .int (0 : Int32)) (ty := .int) (C := RX3) (T := TX3) (N := 5) hx hb hts iX3 tyX3 tyX3_ok nmX3 hown hK hP hD hS 0 rfl rfl 2 (by decide) k_2 (fun _ h9 => h9) rfl (by decide +kernel) rfl rfl (Nat.le_of_ble_eq_true rfl) dX3_drop_7 (fun H locs hP hD hS => ?_)
  have hP : va_P D vwCl [(aW, .inr (4, [.ref aMv, .ref aPl, .int (0 : Int32), .int mde, .int (0 : Int32)])), (aMv, .inl (cMv, nMv, .inl mv)), (aPl, .inl (cPl, nPl, .inl pl))] H := hP
  have hD : va_D A [(aW, .inr (4, [.ref aMv, .ref aPl, .int (0 : Int32), .int mde, .int (0 : Int32)])), (aMv, .inl (cMv, nMv, .inl mv)), (aPl, .inl (cPl, nPl, .inl pl))] := hD
  refine lv_aload_n hx hb dX3_drop_10 rfl (lv_at hl 0 rfl) ?_
  refine lv_iconst (v := 0) hx hb dX3_drop_11 (by decide) ?_
  refine va_put (D := D) (ci := 4) (v := .int (0 : Int32)) (ty := .int) (C := RX3) (T := TX3) (N := 5) hx hb hts iX3 tyX3 tyX3_ok nmX3 hown hK hP hD hS 0 rfl rfl 3 (by decide) k_3 (fun _ h9 => h9) rfl (by decide +kernel) rfl rfl (Nat.le_of_ble_eq_true rfl) dX3_drop_12 (fun H locs hP hD hS => ?_)
  have hP : va_P D vwCl [(aW, .inr (4, [.ref aMv, .ref aPl, .int (0 : Int32), .int (0 : Int32), .int (0 : Int32)])), (aMv, .inl (cMv, nMv, .inl mv)), (aPl, .inl (cPl, nPl, .inl pl))] H := hP
  have hD : va_D A [(aW, .inr (4, [.ref aMv, .ref aPl, .int (0 : Int32), .int (0 : Int32), .int (0 : Int32)])), (aMv, .inl (cMv, nMv, .inl mv)), (aPl, .inl (cPl, nPl, .inl pl))] := hD
  have ho := Option.some.inj hJ
  exact W.vret hx hb hr (fun t ht hW => ⟨⟨(), rfl, trivial, (by rw [ht, ← ho]; exact hP), (by rw [← ho]; exact hD)⟩, hS.F ht⟩) hS.2.2 dX3_drop_15
set_option maxHeartbeats 4000000 in
set_option maxRecDepth 100000 in
theorem c_X3_add (l : Launch) (D : va_G) (aW aMv aPl : Nat) (cMv cPl : ClassId) (cnt : Int32) (mde : Int32) (stn : Int32) (nMv : Nat) (mv : Nat → Int32) (nPl : Nat) (pl : Nat → Int32) (p0 : Int32) (p1 : Int32) (tX tY sz F : Nat) (o : Int32 × (Nat → Int32) × (Nat → Int32)) (hJ : J_X3_add F cnt nMv mv nPl pl p0 p1 = some o) : Met l yX3_add wsX3_add rmX3_add (va_Pc [.ref aW, .int p0, .int p1] (pcW D [(aW, .inr (4, [.ref aMv, .ref aPl, .int cnt, .int mde, .int stn])), (aMv, .inl (cMv, nMv, .inl mv)), (aPl, .inl (cPl, nPl, .inl pl))] [(cMv, .int), (cPl, .int)] sz tX tY)) (qWv D [(aW, .inr (4, [.ref aMv, .ref aPl, .int o.1, .int mde, .int stn])), (aMv, .inl (cMv, nMv, .inl o.2.1)), (aPl, .inl (cPl, nPl, .inl o.2.2))] (va_A [(aW, .inr (4, [.ref aMv, .ref aPl, .int cnt, .int mde, .int stn])), (aMv, .inl (cMv, nMv, .inl mv)), (aPl, .inl (cPl, nPl, .inl pl))] sz)) 0 0 (va_A [(aW, .inr (4, [.ref aMv, .ref aPl, .int cnt, .int mde, .int stn])), (aMv, .inl (cMv, nMv, .inl mv)), (aPl, .inl (cPl, nPl, .inl pl))] sz) := by
  refine Met.ofW (cc := cX3_add) (maxL := 3) (ret := none) (by decide) rfl ?_
  intro p e s m args below meth c s₁ B hml hv
  obtain ⟨rfl, hsz, hP, hK, hD0, hST⟩ := hv
  have hx := B.exec
  have hb := B.bytes
  have hr := B.returns
  have hts := atoms_spec (ws := wsX3_add) B.pre
  have hown : s.vm.findClass RX3 = some m.cls := findClass_of_methodNamed B.named
  have hlocks := B.notSynchronized
  subst hsz
  have hD := hD0.self (sz := s.heap.size)
  generalize hAe : va_A [(aW, .inr (4, [.ref aMv, .ref aPl, .int cnt, .int mde, .int stn])), (aMv, .inl (cMv, nMv, .inl mv)), (aPl, .inl (cPl, nPl, .inl pl))] s.heap.size = A at hD hST ⊢
  have hA : ∀ q : Nat, s.heap.size ≤ q → A q := fun q h => by rw [← hAe]; exact Or.inr h
  have hS : va_S A s.heap s.heap [] := va_S.rf
  have hl := lv_entry ([.ref aW, .int p0, .int p1]) (n := 3) (Nat.le_of_ble_eq_true rfl)
  rw [lg_entry_eq]
  generalize (lg_sl ([.ref aW, .int p0, .int p1]) ++ List.replicate (3 - (lg_sl ([.ref aW, .int p0, .int p1])).length) Slot.unset).toArray = ls at hl ⊢
  have hl : lv_has ls 3 [(0, .ref aW), (1, .int p0), (2, .int p1)] := hl
  have iX3 : ∀ w ∈ wsX30, w ∈ wsX3_add := fun w h => List.mem_cons_of_mem _ (List.mem_append_right _ h)
  have k_1 := hts (.fieldLink RX3 22 "ParkWays$Way" "count" "I") (List.mem_of_getElem? (i := 1) rfl)
  have k_2 := hts (.fieldLink RX3 9 "ParkWays$Way" "moves" "[I") (List.mem_of_getElem? (i := 2) rfl)
  have k_3 := hts (.fieldLink RX3 15 "ParkWays$Way" "places" "[I") (List.mem_of_getElem? (i := 3) rfl)
  unfold J_X3_add at hJ
  refine lv_aload_n hx hb dX3_add_0 rfl (lv_at hl 0 rfl) ?_
  refine va_get (D := D) (ci := 4) (v := .int cnt) (C := RX3) (T := TX3) (N := 5) hx hb hts iX3 hown hK hP 0 rfl rfl 2 (by decide) k_1 (fun _ h9 => h9) rfl dX3_add_1 ?_
  refine lv_aload_n hx hb dX3_add_4 rfl (lv_at hl 0 rfl) ?_
  refine va_get (D := D) (ci := 4) (v := .ref aMv) (C := RX3) (T := TX3) (N := 5) hx hb hts iX3 hown hK hP 0 rfl rfl 0 (by decide) k_2 (fun _ h9 => h9) rfl dX3_add_5 ?_
  refine va_alen hx hb hK hP 1 0 rfl rfl (v := nI nMv) rfl dX3_add_8 ?_
  refine lv_icmp_ge (tgt := 54) hx hb dX3_add_9 (by decide) (fun c_1 => ?_) (fun c_1 => ?_)
  · have hJ := j_t c_1 hJ
    have ho := Option.some.inj hJ
    exact W.vret hx hb hr (fun t ht hW => ⟨⟨(), rfl, trivial, (by rw [ht, ← ho]; exact hP), (by rw [← ho]; exact hD)⟩, hS.F ht⟩) hS.2.2 dX3_add_54
  · have hJ := j_f c_1 hJ
    refine lv_aload_n hx hb dX3_add_12 rfl (lv_at hl 0 rfl) ?_
    refine va_get (D := D) (ci := 4) (v := .int cnt) (C := RX3) (T := TX3) (N := 5) hx hb hts iX3 hown hK hP 0 rfl rfl 2 (by decide) k_1 (fun _ h9 => h9) rfl dX3_add_13 ?_
    refine lv_aload_n hx hb dX3_add_16 rfl (lv_at hl 0 rfl) ?_
    refine va_get (D := D) (ci := 4) (v := .ref aPl) (C := RX3) (T := TX3) (N := 5) hx hb hts iX3 hown hK hP 0 rfl rfl 1 (by decide) k_3 (fun _ h9 => h9) rfl dX3_add_17 ?_
    refine va_alen hx hb hK hP 2 1 rfl rfl (v := nI nPl) rfl dX3_add_20 ?_
    refine lv_icmp_ge (tgt := 54) hx hb dX3_add_21 (by decide) (fun c_2 => ?_) (fun c_2 => ?_)
    · have hJ := j_t c_2 hJ
      have ho := Option.some.inj hJ
      exact W.vret hx hb hr (fun t ht hW => ⟨⟨(), rfl, trivial, (by rw [ht, ← ho]; exact hP), (by rw [← ho]; exact hD)⟩, hS.F ht⟩) hS.2.2 dX3_add_54
    · have hJ := j_f c_2 hJ
      refine lv_aload_n hx hb dX3_add_24 rfl (lv_at hl 0 rfl) ?_
      refine va_get (D := D) (ci := 4) (v := .ref aMv) (C := RX3) (T := TX3) (N := 5) hx hb hts iX3 hown hK hP 0 rfl rfl 0 (by decide) k_2 (fun _ h9 => h9) rfl dX3_add_25 ?_
      refine lv_aload_n hx hb dX3_add_28 rfl (lv_at hl 0 rfl) ?_
      refine va_get (D := D) (ci := 4) (v := .int cnt) (C := RX3) (T := TX3) (N := 5) hx hb hts iX3 hown hK hP 0 rfl rfl 2 (by decide) k_1 (fun _ h9 => h9) rfl dX3_add_29 ?_
      refine lv_iload_n hx hb dX3_add_32 rfl (lv_at hl 1 rfl) ?_
      obtain ⟨h_3, hJ⟩ := g_in hJ
      refine va_iast hx hb hK hP hD hS 1 0 rfl rfl h_3 dX3_add_33 (fun H locs hP hD hS => ?_)
      have hP : va_P D vwCl [(aW, .inr (4, [.ref aMv, .ref aPl, .int cnt, .int mde, .int stn])), (aMv, .inl (cMv, nMv, .inl (upd mv cnt.toNatClampNeg p0))), (aPl, .inl (cPl, nPl, .inl pl))] H := hP
      have hD : va_D A [(aW, .inr (4, [.ref aMv, .ref aPl, .int cnt, .int mde, .int stn])), (aMv, .inl (cMv, nMv, .inl (upd mv cnt.toNatClampNeg p0))), (aPl, .inl (cPl, nPl, .inl pl))] := hD
      refine lv_aload_n hx hb dX3_add_34 rfl (lv_at hl 0 rfl) ?_
      refine va_get (D := D) (ci := 4) (v := .ref aPl) (C := RX3) (T := TX3) (N := 5) hx hb hts iX3 hown hK hP 0 rfl rfl 1 (by decide) k_3 (fun _ h9 => h9) rfl dX3_add_35 ?_
      refine lv_aload_n hx hb dX3_add_38 rfl (lv_at hl 0 rfl) ?_
      refine va_get (D := D) (ci := 4) (v := .int cnt) (C := RX3) (T := TX3) (N := 5) hx hb hts iX3 hown hK hP 0 rfl rfl 2 (by decide) k_1 (fun _ h9 => h9) rfl dX3_add_39 ?_
      refine lv_iload_n hx hb dX3_add_42 rfl (lv_at hl 2 rfl) ?_
      obtain ⟨h_4, hJ⟩ := g_in hJ
      refine va_iast hx hb hK hP hD hS 2 1 rfl rfl h_4 dX3_add_43 (fun H locs hP hD hS => ?_)
      have hP : va_P D vwCl [(aW, .inr (4, [.ref aMv, .ref aPl, .int cnt, .int mde, .int stn])), (aMv, .inl (cMv, nMv, .inl (upd mv cnt.toNatClampNeg p0))), (aPl, .inl (cPl, nPl, .inl (upd pl cnt.toNatClampNeg p1)))] H := hP
      have hD : va_D A [(aW, .inr (4, [.ref aMv, .ref aPl, .int cnt, .int mde, .int stn])), (aMv, .inl (cMv, nMv, .inl (upd mv cnt.toNatClampNeg p0))), (aPl, .inl (cPl, nPl, .inl (upd pl cnt.toNatClampNeg p1)))] := hD
      refine lv_aload_n hx hb dX3_add_44 rfl (lv_at hl 0 rfl) ?_
      refine lv_dup hx hb dX3_add_45 rfl ?_
      refine va_get (D := D) (ci := 4) (v := .int cnt) (C := RX3) (T := TX3) (N := 5) hx hb hts iX3 hown hK hP 0 rfl rfl 2 (by decide) k_1 (fun _ h9 => h9) rfl dX3_add_46 ?_
      refine lv_iconst (v := 1) hx hb dX3_add_49 (by decide) ?_
      refine lv_iadd hx hb dX3_add_50 ?_
      refine va_put (D := D) (ci := 4) (v := .int (cnt + (1 : Int32))) (ty := .int) (C := RX3) (T := TX3) (N := 5) hx hb hts iX3 tyX3 tyX3_ok nmX3 hown hK hP hD hS 0 rfl rfl 2 (by decide) k_1 (fun _ h9 => h9) rfl (by decide +kernel) rfl rfl (Nat.le_of_ble_eq_true rfl) dX3_add_51 (fun H locs hP hD hS => ?_)
      have hP : va_P D vwCl [(aW, .inr (4, [.ref aMv, .ref aPl, .int (cnt + (1 : Int32)), .int mde, .int stn])), (aMv, .inl (cMv, nMv, .inl (upd mv cnt.toNatClampNeg p0))), (aPl, .inl (cPl, nPl, .inl (upd pl cnt.toNatClampNeg p1)))] H := hP
      have hD : va_D A [(aW, .inr (4, [.ref aMv, .ref aPl, .int (cnt + (1 : Int32)), .int mde, .int stn])), (aMv, .inl (cMv, nMv, .inl (upd mv cnt.toNatClampNeg p0))), (aPl, .inl (cPl, nPl, .inl (upd pl cnt.toNatClampNeg p1)))] := hD
      have ho := Option.some.inj hJ
      exact W.vret hx hb hr (fun t ht hW => ⟨⟨(), rfl, trivial, (by rw [ht, ← ho]; exact hP), (by rw [← ho]; exact hD)⟩, hS.F ht⟩) hS.2.2 dX3_add_54
set_option maxHeartbeats 4000000 in
set_option maxRecDepth 100000 in
theorem c_X3_hasMove (l : Launch) (D : va_G) (aW aMv aPl : Nat) (cMv cPl : ClassId) (cnt : Int32) (mde : Int32) (stn : Int32) (nMv : Nat) (mv : Nat → Int32) (nPl : Nat) (pl : Nat → Int32) (p0 : Int32) (tX tY sz F : Nat) (o : Int32) (hJ : J_X3_hasMove F cnt p0 = some o) : Met l yX3_hasMove wsX3_hasMove rmX3_hasMove (va_Pc [.ref aW, .int p0] (pcR D [(aW, .inr (4, [.ref aMv, .ref aPl, .int cnt, .int mde, .int stn])), (aMv, .inl (cMv, nMv, .inl mv)), (aPl, .inl (cPl, nPl, .inl pl))] [(cMv, .int), (cPl, .int)] sz tX tY)) (qRi o (va_A [] sz)) 0 0 (va_A [] sz) := by
  refine Met.ofW (cc := cX3_hasMove) (maxL := 2) (ret := (some .boolean)) (by decide) rfl ?_
  intro p e s m args below meth c s₁ B hml hv
  obtain ⟨rfl, hsz, hP, hK, hST⟩ := hv
  have hx := B.exec
  have hb := B.bytes
  have hr := B.returns
  have hts := atoms_spec (ws := wsX3_hasMove) B.pre
  have hown : s.vm.findClass RX3 = some m.cls := findClass_of_methodNamed B.named
  have hlocks := B.notSynchronized
  subst hsz
  generalize hAe : va_A [] s.heap.size = A at hST ⊢
  have hA : ∀ q : Nat, s.heap.size ≤ q → A q := fun q h => by rw [← hAe]; exact Or.inr h
  have hS : va_S A s.heap s.heap [] := va_S.rf
  have hl := lv_entry ([.ref aW, .int p0]) (n := 2) (Nat.le_of_ble_eq_true rfl)
  rw [lg_entry_eq]
  generalize (lg_sl ([.ref aW, .int p0]) ++ List.replicate (2 - (lg_sl ([.ref aW, .int p0])).length) Slot.unset).toArray = ls at hl ⊢
  have hl : lv_has ls 2 [(0, .ref aW), (1, .int p0)] := hl
  have iX3 : ∀ w ∈ wsX30, w ∈ wsX3_hasMove := fun w h => List.mem_cons_of_mem _ (List.mem_append_right _ h)
  have k_1 := hts (.fieldLink RX3 22 "ParkWays$Way" "count" "I") (List.mem_of_getElem? (i := 1) rfl)
  unfold J_X3_hasMove at hJ
  refine lv_iload_n hx hb dX3_hasMove_0 rfl (lv_at hl 1 rfl) ?_
  refine lv_if_lt (tgt := 16) hx hb dX3_hasMove_1 (by decide) (fun c_1 => ?_) (fun c_1 => ?_)
  · have hJ := j_t c_1 hJ
    refine lv_iconst (v := 0) hx hb dX3_hasMove_16 (by decide) ?_
    have ho := Option.some.inj hJ
    exact W.zret (v := (0 : Int32)) hx hb hr rfl (fun t ht hW => ⟨⟨_, (), rfl, ho, trivial⟩, hS.F ht⟩) hS.2.2 dX3_hasMove_17
  · have hJ := j_f c_1 hJ
    refine lv_iload_n hx hb dX3_hasMove_4 rfl (lv_at hl 1 rfl) ?_
    refine lv_aload_n hx hb dX3_hasMove_5 rfl (lv_at hl 0 rfl) ?_
    refine va_get (D := D) (ci := 4) (v := .int cnt) (C := RX3) (T := TX3) (N := 5) hx hb hts iX3 hown hK hP 0 rfl rfl 2 (by decide) k_1 (fun _ h9 => h9) rfl dX3_hasMove_6 ?_
    refine lv_icmp_ge (tgt := 16) hx hb dX3_hasMove_9 (by decide) (fun c_2 => ?_) (fun c_2 => ?_)
    · have hJ := j_t c_2 hJ
      refine lv_iconst (v := 0) hx hb dX3_hasMove_16 (by decide) ?_
      have ho := Option.some.inj hJ
      exact W.zret (v := (0 : Int32)) hx hb hr rfl (fun t ht hW => ⟨⟨_, (), rfl, ho, trivial⟩, hS.F ht⟩) hS.2.2 dX3_hasMove_17
    · have hJ := j_f c_2 hJ
      refine lv_iconst (v := 1) hx hb dX3_hasMove_12 (by decide) ?_
      refine lv_goto (tgt := 17) hx hb dX3_hasMove_13 (by decide) ?_
      have ho := Option.some.inj hJ
      exact W.zret (v := (1 : Int32)) hx hb hr rfl (fun t ht hW => ⟨⟨_, (), rfl, ho, trivial⟩, hS.F ht⟩) hS.2.2 dX3_hasMove_17
set_option maxHeartbeats 4000000 in
set_option maxRecDepth 100000 in
theorem c_X3_moveAt (l : Launch) (D : va_G) (aW aMv aPl : Nat) (cMv cPl : ClassId) (cnt : Int32) (mde : Int32) (stn : Int32) (nMv : Nat) (mv : Nat → Int32) (nPl : Nat) (pl : Nat → Int32) (p0 : Int32) (tX tY sz F : Nat) (o : Int32) (hJ : J_X3_moveAt F cnt nMv mv p0 = some o) : Met l yX3_moveAt wsX3_moveAt rmX3_moveAt (va_Pc [.ref aW, .int p0] (pcR D [(aW, .inr (4, [.ref aMv, .ref aPl, .int cnt, .int mde, .int stn])), (aMv, .inl (cMv, nMv, .inl mv)), (aPl, .inl (cPl, nPl, .inl pl))] [(cMv, .int), (cPl, .int)] sz tX tY)) (qRi o (va_A [] sz)) 0 0 (va_A [] sz) := by
  refine Met.ofW (cc := cX3_moveAt) (maxL := 2) (ret := (some .int)) (by decide) rfl ?_
  intro p e s m args below meth c s₁ B hml hv
  obtain ⟨rfl, hsz, hP, hK, hST⟩ := hv
  have hx := B.exec
  have hb := B.bytes
  have hr := B.returns
  have hts := atoms_spec (ws := wsX3_moveAt) B.pre
  have hown : s.vm.findClass RX3 = some m.cls := findClass_of_methodNamed B.named
  have hlocks := B.notSynchronized
  subst hsz
  generalize hAe : va_A [] s.heap.size = A at hST ⊢
  have hA : ∀ q : Nat, s.heap.size ≤ q → A q := fun q h => by rw [← hAe]; exact Or.inr h
  have hS : va_S A s.heap s.heap [] := va_S.rf
  have hl := lv_entry ([.ref aW, .int p0]) (n := 2) (Nat.le_of_ble_eq_true rfl)
  rw [lg_entry_eq]
  generalize (lg_sl ([.ref aW, .int p0]) ++ List.replicate (2 - (lg_sl ([.ref aW, .int p0])).length) Slot.unset).toArray = ls at hl ⊢
  have hl : lv_has ls 2 [(0, .ref aW), (1, .int p0)] := hl
  have iX3 : ∀ w ∈ wsX30, w ∈ wsX3_moveAt := fun w h => List.mem_cons_of_mem _ (List.mem_append_right _ h)
  have k_1 := hts (.fieldLink RX3 9 "ParkWays$Way" "moves" "[I") (List.mem_of_getElem? (i := 1) rfl)
  unfold J_X3_moveAt at hJ
  refine lv_aload_n hx hb dX3_moveAt_0 rfl (lv_at hl 0 rfl) ?_
  refine lv_iload_n hx hb dX3_moveAt_1 rfl (lv_at hl 1 rfl) ?_
  obtain ⟨v_1, hv_1, hJ⟩ := j_b hJ
  refine ro_i (va_runV (As := [.int p0]) (rest := []) ⟨hx, hb, hml, hown, hts⟩ (c_X3_hasMove l D aW aMv aPl cMv cPl cnt mde stn nMv mv nPl pl p0 tX tY s.heap.size F v_1 hv_1) (cwV 1 hts gX3_moveAt_X3_hasMove rfl rfl rfl (by decide +kernel) ⟨Nat.le_of_ble_eq_true rfl, Nat.le_of_ble_eq_true rfl⟩) (preRV [.int p0] hP hK hS hA hST [0, 1, 2] rfl [0, 1] rfl (ci := 4) (q0 := 0) rfl rfl) rfl rfl hl.1 rfl (lv_room (Nat.le_of_ble_eq_true rfl)) dX3_moveAt_2 ⟨Nat.zero_le _, Nat.zero_le _⟩) hP hS hA (fun H locs hP hS => ?_)
  refine lv_if_eq (tgt := 26) hx hb dX3_moveAt_5 (by decide) (fun c_2 => ?_) (fun c_2 => ?_)
  · have hJ := j_t c_2 hJ
    refine lv_iconst (v := (-1)) hx hb dX3_moveAt_26 (by decide) ?_
    have ho := Option.some.inj hJ
    exact W.iret (v := (-1 : Int32)) hx hb hr (fun t ht hW => ⟨⟨_, (), rfl, ho, trivial⟩, hS.F ht⟩) hS.2.2 dX3_moveAt_27
  · have hJ := j_f c_2 hJ
    refine lv_iload_n hx hb dX3_moveAt_8 rfl (lv_at hl 1 rfl) ?_
    refine lv_aload_n hx hb dX3_moveAt_9 rfl (lv_at hl 0 rfl) ?_
    refine va_get (D := D) (ci := 4) (v := .ref aMv) (C := RX3) (T := TX3) (N := 5) hx hb hts iX3 hown hK hP 0 rfl rfl 0 (by decide) k_1 (fun _ h9 => h9) rfl dX3_moveAt_10 ?_
    refine va_alen hx hb hK hP 1 0 rfl rfl (v := nI nMv) rfl dX3_moveAt_13 ?_
    refine lv_icmp_ge (tgt := 26) hx hb dX3_moveAt_14 (by decide) (fun c_3 => ?_) (fun c_3 => ?_)
    · have hJ := j_t c_3 hJ
      refine lv_iconst (v := (-1)) hx hb dX3_moveAt_26 (by decide) ?_
      have ho := Option.some.inj hJ
      exact W.iret (v := (-1 : Int32)) hx hb hr (fun t ht hW => ⟨⟨_, (), rfl, ho, trivial⟩, hS.F ht⟩) hS.2.2 dX3_moveAt_27
    · have hJ := j_f c_3 hJ
      refine lv_aload_n hx hb dX3_moveAt_17 rfl (lv_at hl 0 rfl) ?_
      refine va_get (D := D) (ci := 4) (v := .ref aMv) (C := RX3) (T := TX3) (N := 5) hx hb hts iX3 hown hK hP 0 rfl rfl 0 (by decide) k_1 (fun _ h9 => h9) rfl dX3_moveAt_18 ?_
      refine lv_iload_n hx hb dX3_moveAt_21 rfl (lv_at hl 1 rfl) ?_
      obtain ⟨h_4, hJ⟩ := g_in hJ
      refine va_iald hx hb hK hP 1 0 rfl rfl h_4 dX3_moveAt_22 ?_
      refine lv_goto (tgt := 27) hx hb dX3_moveAt_23 (by decide) ?_
      have ho := Option.some.inj hJ
      exact W.iret (v := (mv p0.toNatClampNeg)) hx hb hr (fun t ht hW => ⟨⟨_, (), rfl, ho, trivial⟩, hS.F ht⟩) hS.2.2 dX3_moveAt_27
set_option maxHeartbeats 4000000 in
set_option maxRecDepth 100000 in
theorem c_X3_placeBehind (l : Launch) (D : va_G) (aW aMv aPl : Nat) (cMv cPl : ClassId) (cnt : Int32) (mde : Int32) (stn : Int32) (nMv : Nat) (mv : Nat → Int32) (nPl : Nat) (pl : Nat → Int32) (p0 : Int32) (tX tY sz F : Nat) (o : Int32) (hJ : J_X3_placeBehind F cnt nPl pl p0 = some o) : Met l yX3_placeBehind wsX3_placeBehind rmX3_placeBehind (va_Pc [.ref aW, .int p0] (pcR D [(aW, .inr (4, [.ref aMv, .ref aPl, .int cnt, .int mde, .int stn])), (aMv, .inl (cMv, nMv, .inl mv)), (aPl, .inl (cPl, nPl, .inl pl))] [(cMv, .int), (cPl, .int)] sz tX tY)) (qRi o (va_A [] sz)) 0 0 (va_A [] sz) := by
  refine Met.ofW (cc := cX3_placeBehind) (maxL := 2) (ret := (some .int)) (by decide) rfl ?_
  intro p e s m args below meth c s₁ B hml hv
  obtain ⟨rfl, hsz, hP, hK, hST⟩ := hv
  have hx := B.exec
  have hb := B.bytes
  have hr := B.returns
  have hts := atoms_spec (ws := wsX3_placeBehind) B.pre
  have hown : s.vm.findClass RX3 = some m.cls := findClass_of_methodNamed B.named
  have hlocks := B.notSynchronized
  subst hsz
  generalize hAe : va_A [] s.heap.size = A at hST ⊢
  have hA : ∀ q : Nat, s.heap.size ≤ q → A q := fun q h => by rw [← hAe]; exact Or.inr h
  have hS : va_S A s.heap s.heap [] := va_S.rf
  have hl := lv_entry ([.ref aW, .int p0]) (n := 2) (Nat.le_of_ble_eq_true rfl)
  rw [lg_entry_eq]
  generalize (lg_sl ([.ref aW, .int p0]) ++ List.replicate (2 - (lg_sl ([.ref aW, .int p0])).length) Slot.unset).toArray = ls at hl ⊢
  have hl : lv_has ls 2 [(0, .ref aW), (1, .int p0)] := hl
  have iX3 : ∀ w ∈ wsX30, w ∈ wsX3_placeBehind := fun w h => List.mem_cons_of_mem _ (List.mem_append_right _ h)
  have k_1 := hts (.fieldLink RX3 15 "ParkWays$Way" "places" "[I") (List.mem_of_getElem? (i := 1) rfl)
  unfold J_X3_placeBehind at hJ
  refine lv_aload_n hx hb dX3_placeBehind_0 rfl (lv_at hl 0 rfl) ?_
  refine lv_iload_n hx hb dX3_placeBehind_1 rfl (lv_at hl 1 rfl) ?_
  obtain ⟨v_1, hv_1, hJ⟩ := j_b hJ
  refine ro_i (va_runV (As := [.int p0]) (rest := []) ⟨hx, hb, hml, hown, hts⟩ (c_X3_hasMove l D aW aMv aPl cMv cPl cnt mde stn nMv mv nPl pl p0 tX tY s.heap.size F v_1 hv_1) (cwV 1 hts gX3_placeBehind_X3_hasMove rfl rfl rfl (by decide +kernel) ⟨Nat.le_of_ble_eq_true rfl, Nat.le_of_ble_eq_true rfl⟩) (preRV [.int p0] hP hK hS hA hST [0, 1, 2] rfl [0, 1] rfl (ci := 4) (q0 := 0) rfl rfl) rfl rfl hl.1 rfl (lv_room (Nat.le_of_ble_eq_true rfl)) dX3_placeBehind_2 ⟨Nat.zero_le _, Nat.zero_le _⟩) hP hS hA (fun H locs hP hS => ?_)
  refine lv_if_eq (tgt := 26) hx hb dX3_placeBehind_5 (by decide) (fun c_2 => ?_) (fun c_2 => ?_)
  · have hJ := j_t c_2 hJ
    refine lv_iconst (v := (-1)) hx hb dX3_placeBehind_26 (by decide) ?_
    have ho := Option.some.inj hJ
    exact W.iret (v := (-1 : Int32)) hx hb hr (fun t ht hW => ⟨⟨_, (), rfl, ho, trivial⟩, hS.F ht⟩) hS.2.2 dX3_placeBehind_27
  · have hJ := j_f c_2 hJ
    refine lv_iload_n hx hb dX3_placeBehind_8 rfl (lv_at hl 1 rfl) ?_
    refine lv_aload_n hx hb dX3_placeBehind_9 rfl (lv_at hl 0 rfl) ?_
    refine va_get (D := D) (ci := 4) (v := .ref aPl) (C := RX3) (T := TX3) (N := 5) hx hb hts iX3 hown hK hP 0 rfl rfl 1 (by decide) k_1 (fun _ h9 => h9) rfl dX3_placeBehind_10 ?_
    refine va_alen hx hb hK hP 2 1 rfl rfl (v := nI nPl) rfl dX3_placeBehind_13 ?_
    refine lv_icmp_ge (tgt := 26) hx hb dX3_placeBehind_14 (by decide) (fun c_3 => ?_) (fun c_3 => ?_)
    · have hJ := j_t c_3 hJ
      refine lv_iconst (v := (-1)) hx hb dX3_placeBehind_26 (by decide) ?_
      have ho := Option.some.inj hJ
      exact W.iret (v := (-1 : Int32)) hx hb hr (fun t ht hW => ⟨⟨_, (), rfl, ho, trivial⟩, hS.F ht⟩) hS.2.2 dX3_placeBehind_27
    · have hJ := j_f c_3 hJ
      refine lv_aload_n hx hb dX3_placeBehind_17 rfl (lv_at hl 0 rfl) ?_
      refine va_get (D := D) (ci := 4) (v := .ref aPl) (C := RX3) (T := TX3) (N := 5) hx hb hts iX3 hown hK hP 0 rfl rfl 1 (by decide) k_1 (fun _ h9 => h9) rfl dX3_placeBehind_18 ?_
      refine lv_iload_n hx hb dX3_placeBehind_21 rfl (lv_at hl 1 rfl) ?_
      obtain ⟨h_4, hJ⟩ := g_in hJ
      refine va_iald hx hb hK hP 2 1 rfl rfl h_4 dX3_placeBehind_22 ?_
      refine lv_goto (tgt := 27) hx hb dX3_placeBehind_23 (by decide) ?_
      have ho := Option.some.inj hJ
      exact W.iret (v := (pl p0.toNatClampNeg)) hx hb hr (fun t ht hW => ⟨⟨_, (), rfl, ho, trivial⟩, hS.F ht⟩) hS.2.2 dX3_placeBehind_27
