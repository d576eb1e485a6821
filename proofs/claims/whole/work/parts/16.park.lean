set_option maxHeartbeats 4000000 in
set_option maxRecDepth 100000 in
theorem c_X4_setCell (l : Launch) (D : va_G) (aP aS aCo aQu aC aKn aF aFu aFk aW aMv aPl : Nat) (cCo cQu cKn cFu cFk cMv cPl : ClassId) (plc : Int32) (hom : Int32) (gol : Int32) (stp : Int64) (exa : Int32) (hld : Int32) (err : UInt64) (rch : Int32) (nCo : Nat) (co : Nat → Int64) (nQu : Nat) (qu : Nat → Int32) (ln : Int32) (wd : Int32) (rd : Int32) (nKn : Nat) (kn : Nat → Int32) (w : Int32) (ht : Int32) (tn : Int32) (kp : Int32) (nFu : Nat) (fu : Nat → Int32) (nFk : Nat) (fk : Nat → Int32) (cnt : Int32) (mde : Int32) (stn : Int32) (nMv : Nat) (mv : Nat → Int32) (nPl : Nat) (pl : Nat → Int32) (p0 : Int32) (p1 : Int32) (p2 : Int32) (tX tY sz F : Nat) (o : Int32 × (Nat → Int32) × (Nat → Int32) × (Nat → Int32)) (hJ : J_X4_setCell F nKn kn w ht kp nFu fu nFk fk p0 p1 p2 = some o) : Met l yX4_setCell wsX4_setCell rmX4_setCell (va_Pc [.ref aP, .int p0, .int p1, .int p2] (pcW D [(aP, .inr (5, [.ref aF, .ref aC, .ref aS, .ref aW, .int plc, .int hom, .int gol, .long stp, .int exa, .int hld, .double err])), (aS, .inr (3, [.ref aC, .ref aCo, .ref aQu, .int rch])), (aCo, .inl (cCo, nCo, .inr (.inl co))), (aQu, .inl (cQu, nQu, .inl qu)), (aC, .inr (1, [.ref aF, .ref aKn, .int ln, .int wd, .int rd])), (aKn, .inl (cKn, nKn, .inl kn)), (aF, .inr (2, [.int w, .int ht, .int tn, .ref aFu, .ref aFk, .int kp])), (aFu, .inl (cFu, nFu, .inl fu)), (aFk, .inl (cFk, nFk, .inl fk)), (aW, .inr (4, [.ref aMv, .ref aPl, .int cnt, .int mde, .int stn])), (aMv, .inl (cMv, nMv, .inl mv)), (aPl, .inl (cPl, nPl, .inl pl))] [(cCo, .long), (cQu, .int), (cKn, .int), (cFu, .boolean), (cFk, .int), (cMv, .int), (cPl, .int)] sz tX tY)) (qWi D o.1 [(aP, .inr (5, [.ref aF, .ref aC, .ref aS, .ref aW, .int plc, .int hom, .int gol, .long stp, .int exa, .int hld, .double err])), (aS, .inr (3, [.ref aC, .ref aCo, .ref aQu, .int rch])), (aCo, .inl (cCo, nCo, .inr (.inl co))), (aQu, .inl (cQu, nQu, .inl qu)), (aC, .inr (1, [.ref aF, .ref aKn, .int ln, .int wd, .int rd])), (aKn, .inl (cKn, nKn, .inl o.2.1)), (aF, .inr (2, [.int w, .int ht, .int tn, .ref aFu, .ref aFk, .int kp])), (aFu, .inl (cFu, nFu, .inl o.2.2.1)), (aFk, .inl (cFk, nFk, .inl o.2.2.2)), (aW, .inr (4, [.ref aMv, .ref aPl, .int cnt, .int mde, .int stn])), (aMv, .inl (cMv, nMv, .inl mv)), (aPl, .inl (cPl, nPl, .inl pl))] (va_A [(aP, .inr (5, [.ref aF, .ref aC, .ref aS, .ref aW, .int plc, .int hom, .int gol, .long stp, .int exa, .int hld, .double err])), (aS, .inr (3, [.ref aC, .ref aCo, .ref aQu, .int rch])), (aCo, .inl (cCo, nCo, .inr (.inl co))), (aQu, .inl (cQu, nQu, .inl qu)), (aC, .inr (1, [.ref aF, .ref aKn, .int ln, .int wd, .int rd])), (aKn, .inl (cKn, nKn, .inl kn)), (aF, .inr (2, [.int w, .int ht, .int tn, .ref aFu, .ref aFk, .int kp])), (aFu, .inl (cFu, nFu, .inl fu)), (aFk, .inl (cFk, nFk, .inl fk)), (aW, .inr (4, [.ref aMv, .ref aPl, .int cnt, .int mde, .int stn])), (aMv, .inl (cMv, nMv, .inl mv)), (aPl, .inl (cPl, nPl, .inl pl))] sz)) 0 0 (va_A [(aP, .inr (5, [.ref aF, .ref aC, .ref aS, .ref aW, .int plc, .int hom, .int gol, .long stp, .int exa, .int hld, .double err])), (aS, .inr (3, [.ref aC, .ref aCo, .ref aQu, .int rch])), (aCo, .inl (cCo, nCo, .inr (.inl co))), (aQu, .inl (cQu, nQu, .inl qu)), (aC, .inr (1, [.ref aF, .ref aKn, .int ln, .int wd, .int rd])), (aKn, .inl (cKn, nKn, .inl kn)), (aF, .inr (2, [.int w, .int ht, .int tn, .ref aFu, .ref aFk, .int kp])), (aFu, .inl (cFu, nFu, .inl fu)), (aFk, .inl (cFk, nFk, .inl fk)), (aW, .inr (4, [.ref aMv, .ref aPl, .int cnt, .int mde, .int stn])), (aMv, .inl (cMv, nMv, .inl mv)), (aPl, .inl (cPl, nPl, .inl pl))] sz) := by
  refine Met.ofW (cc := cX4_setCell) (maxL := 5) (ret := (some .boolean)) (by decide) rfl ?_
  intro p e s m args below meth c s₁ B hml hv
  obtain ⟨rfl, hsz, hP, hK, hD0, hST⟩ := hv
  have hx := B.exec
  have hb := B.bytes
  have hr := B.returns
  have hts := atoms_spec (ws := wsX4_setCell) B.pre
  have hown : s.vm.findClass RX4 = some m.cls := findClass_of_methodNamed B.named
  have hlocks := B.notSynchronized
  subst hsz
  have hD := hD0.self (sz := s.heap.size)
  generalize hAe : va_A [(aP, .inr (5, [.ref aF, .ref aC, .ref aS, .ref aW, .int plc, .int hom, .int gol, .long stp, .int exa, .int hld, .double err])), (aS, .inr (3, [.ref aC, .ref aCo, .ref aQu, .int rch])), (aCo, .inl (cCo, nCo, .inr (.inl co))), (aQu, .inl (cQu, nQu, .inl qu)), (aC, .inr (1, [.ref aF, .ref aKn, .int ln, .int wd, .int rd])), (aKn, .inl (cKn, nKn, .inl kn)), (aF, .inr (2, [.int w, .int ht, .int tn, .ref aFu, .ref aFk, .int kp])), (aFu, .inl (cFu, nFu, .inl fu)), (aFk, .inl (cFk, nFk, .inl fk)), (aW, .inr (4, [.ref aMv, .ref aPl, .int cnt, .int mde, .int stn])), (aMv, .inl (cMv, nMv, .inl mv)), (aPl, .inl (cPl, nPl, .inl pl))] s.heap.size = A at hD hST ⊢
  have hA : ∀ q : Nat, s.heap.size ≤ q → A q := fun q h => by rw [← hAe]; exact Or.inr h
  have hS : va_S A s.heap s.heap [] := va_S.rf
  have hl := lv_entry ([.ref aP, .int p0, .int p1, .int p2]) (n := 5) (Nat.le_of_ble_eq_true rfl)
  rw [lg_entry_eq]
  generalize (lg_sl ([.ref aP, .int p0, .int p1, .int p2]) ++ List.replicate (5 - (lg_sl ([.ref aP, .int p0, .int p1, .int p2])).length) Slot.unset).toArray = ls at hl ⊢
  have hl : lv_has ls 5 [(0, .ref aP), (1, .int p0), (2, .int p1), (3, .int p2)] := hl
  have iX4 : ∀ w ∈ wsX40, w ∈ wsX4_setCell := fun w h => List.mem_cons_of_mem _ (List.mem_append_left _ (List.mem_append_left _ (List.mem_append_right _ h)))
  have k_1 := hts (.fieldLink RX4 22 "ParkWays" "field" "LParkWays$Field;") (List.mem_of_getElem? (i := 1) rfl)
  have k_2 := hts (.fieldLink RX4 31 "ParkWays" "car" "LParkWays$Car;") (List.mem_of_getElem? (i := 2) rfl)
  unfold J_X4_setCell at hJ
  refine lv_aload_n hx hb dX4_setCell_0 rfl (lv_at hl 0 rfl) ?_
  refine va_get (D := D) (ci := 5) (v := .ref aF) (C := RX4) (T := TX4) (N := 11) hx hb hts iX4 hown hK hP 0 rfl rfl 0 (by decide) k_1 (fun _ h9 => h9) rfl dX4_setCell_1 ?_
  refine lv_iload_n hx hb dX4_setCell_4 rfl (lv_at hl 1 rfl) ?_
  refine lv_iload_n hx hb dX4_setCell_5 rfl (lv_at hl 2 rfl) ?_
  refine lv_iload_n hx hb dX4_setCell_6 rfl (lv_at hl 3 rfl) ?_
  obtain ⟨v_1, hv_1, hJ⟩ := j_b hJ
  refine wr_i (wr := [(aP, .inr (5, [.ref aF, .ref aC, .ref aS, .ref aW, .int plc, .int hom, .int gol, .long stp, .int exa, .int hld, .double err])), (aS, .inr (3, [.ref aC, .ref aCo, .ref aQu, .int rch])), (aCo, .inl (cCo, nCo, .inr (.inl co))), (aQu, .inl (cQu, nQu, .inl qu)), (aC, .inr (1, [.ref aF, .ref aKn, .int ln, .int wd, .int rd])), (aKn, .inl (cKn, nKn, .inl kn)), (aW, .inr (4, [.ref aMv, .ref aPl, .int cnt, .int mde, .int stn])), (aMv, .inl (cMv, nMv, .inl mv)), (aPl, .inl (cPl, nPl, .inl pl))]) (wn := [(aP, .inr (5, [.ref aF, .ref aC, .ref aS, .ref aW, .int plc, .int hom, .int gol, .long stp, .int exa, .int hld, .double err])), (aS, .inr (3, [.ref aC, .ref aCo, .ref aQu, .int rch])), (aCo, .inl (cCo, nCo, .inr (.inl co))), (aQu, .inl (cQu, nQu, .inl qu)), (aC, .inr (1, [.ref aF, .ref aKn, .int ln, .int wd, .int rd])), (aKn, .inl (cKn, nKn, .inl kn)), (aF, .inr (2, [.int w, .int ht, .int tn, .ref aFu, .ref aFk, .int kp])), (aFu, .inl (cFu, nFu, .inl v_1.2.1)), (aFk, .inl (cFk, nFk, .inl v_1.2.2)), (aW, .inr (4, [.ref aMv, .ref aPl, .int cnt, .int mde, .int stn])), (aMv, .inl (cMv, nMv, .inl mv)), (aPl, .inl (cPl, nPl, .inl pl))]) (va_runV (As := [.int p0, .int p1, .int p2]) (rest := []) ⟨hx, hb, hml, hown, hts⟩ (c_X1_setFull l D aF aFu aFk cFu cFk w ht tn kp nFu fu nFk fk p0 p1 p2 tX tY s.heap.size F v_1 hv_1) (cwV 3 hts gX4_setCell_X1_setFull rfl rfl rfl (by decide +kernel) ⟨Nat.le_of_ble_eq_true rfl, Nat.le_of_ble_eq_true rfl⟩) (preWV [.int p0, .int p1, .int p2] hP hD hK hS hA hST [6, 7, 8] rfl rfl rfl [3, 4] rfl (ci := 2) (q0 := 6) rfl rfl) rfl rfl hl.1 rfl (lv_room (Nat.le_of_ble_eq_true rfl)) dX4_setCell_7 ⟨Nat.zero_le _, Nat.zero_le _⟩) hP hD hS hA [6, 7, 8] [0, 1, 2, 3, 4, 5, 9, 10, 11] rfl rfl rfl (by decide) [0, 1, 2, 3, 4, 5, 9, 10, 11, 6, 7, 8] rfl rfl rfl (fun H locs hP hD hS => ?_)
  refine lv_istore (lv' := [(4, .int v_1.1), (0, .ref aP), (1, .int p0), (2, .int p1), (3, .int p2)]) hx hb dX4_setCell_10 hl (by decide) rfl (fun ls hl => ?_)
  refine lv_iload hx hb dX4_setCell_12 (lv_at hl 0 rfl) ?_
  refine lv_if_eq (tgt := 24) hx hb dX4_setCell_14 (by decide) (fun c_2 => ?_) (fun c_2 => ?_)
  · have hJ := j_t c_2 hJ
    refine lv_iload hx hb dX4_setCell_24 (lv_at hl 0 rfl) ?_
    obtain ⟨z_3, hJ⟩ := gd_some hJ
    have ho := Option.some.inj hJ
    exact W.zret (v := v_1.1) hx hb hr (isZ_nar z_3) (fun t ht hW => ⟨⟨_, (), rfl, (by rw [← ho]), (by rw [ht, ← ho]; exact hP), (by rw [← ho]; exact hD)⟩, hS.F ht⟩) hS.2.2 dX4_setCell_26
  · have hJ := j_f c_2 hJ
    refine lv_aload_n hx hb dX4_setCell_17 rfl (lv_at hl 1 rfl) ?_
    refine va_get (D := D) (ci := 5) (v := .ref aC) (C := RX4) (T := TX4) (N := 11) hx hb hts iX4 hown hK hP 0 rfl rfl 1 (by decide) k_2 (fun _ h9 => h9) rfl dX4_setCell_18 ?_
    obtain ⟨v_4, hv_4, hJ⟩ := j_b hJ
    refine wr_v (wr := [(aP, .inr (5, [.ref aF, .ref aC, .ref aS, .ref aW, .int plc, .int hom, .int gol, .long stp, .int exa, .int hld, .double err])), (aS, .inr (3, [.ref aC, .ref aCo, .ref aQu, .int rch])), (aCo, .inl (cCo, nCo, .inr (.inl co))), (aQu, .inl (cQu, nQu, .inl qu)), (aW, .inr (4, [.ref aMv, .ref aPl, .int cnt, .int mde, .int stn])), (aMv, .inl (cMv, nMv, .inl mv)), (aPl, .inl (cPl, nPl, .inl pl))]) (wn := [(aP, .inr (5, [.ref aF, .ref aC, .ref aS, .ref aW, .int plc, .int hom, .int gol, .long stp, .int exa, .int hld, .double err])), (aS, .inr (3, [.ref aC, .ref aCo, .ref aQu, .int rch])), (aCo, .inl (cCo, nCo, .inr (.inl co))), (aQu, .inl (cQu, nQu, .inl qu)), (aC, .inr (1, [.ref aF, .ref aKn, .int ln, .int wd, .int rd])), (aKn, .inl (cKn, nKn, .inl v_4)), (aF, .inr (2, [.int w, .int ht, .int tn, .ref aFu, .ref aFk, .int kp])), (aFu, .inl (cFu, nFu, .inl v_1.2.1)), (aFk, .inl (cFk, nFk, .inl v_1.2.2)), (aW, .inr (4, [.ref aMv, .ref aPl, .int cnt, .int mde, .int stn])), (aMv, .inl (cMv, nMv, .inl mv)), (aPl, .inl (cPl, nPl, .inl pl))]) (va_runV (As := []) (rest := []) ⟨hx, hb, hml, hown, hts⟩ (c_X0_forget l D aC aKn aF aFu aFk cKn cFu cFk ln wd rd nKn kn w ht tn kp nFu v_1.2.1 nFk v_1.2.2 tX tY H.size F v_4 hv_4) (cwV 0 hts gX4_setCell_X0_forget rfl rfl rfl (by decide +kernel) ⟨Nat.le_of_ble_eq_true rfl, Nat.le_of_ble_eq_true rfl⟩) (preWV [] hP hD hK hS hA hST [4, 5, 6, 7, 8] rfl rfl rfl [2, 3, 4] rfl (ci := 1) (q0 := 4) rfl rfl) rfl rfl hl.1 rfl (lv_room (Nat.le_of_ble_eq_true rfl)) dX4_setCell_21 ⟨Nat.zero_le _, Nat.zero_le _⟩) hP hD hS hA [4, 5, 6, 7, 8] [0, 1, 2, 3, 9, 10, 11] rfl rfl rfl (by decide) [0, 1, 2, 3, 7, 8, 9, 10, 11, 4, 5, 6] rfl rfl rfl (fun H locs hP hD hS => ?_)
    refine lv_iload hx hb dX4_setCell_24 (lv_at hl 0 rfl) ?_
    obtain ⟨z_5, hJ⟩ := gd_some hJ
    have ho := Option.some.inj hJ
    exact W.zret (v := v_1.1) hx hb hr (isZ_nar z_5) (fun t ht hW => ⟨⟨_, (), rfl, (by rw [← ho]), (by rw [ht, ← ho]; exact hP), (by rw [← ho]; exact hD)⟩, hS.F ht⟩) hS.2.2 dX4_setCell_26
set_option maxHeartbeats 4000000 in
set_option maxRecDepth 100000 in
theorem c_X4_addToError (l : Launch) (D : va_G) (aP aS aCo aQu aC aKn aF aFu aFk aW aMv aPl : Nat) (cCo cQu cKn cFu cFk cMv cPl : ClassId) (plc : Int32) (hom : Int32) (gol : Int32) (stp : Int64) (exa : Int32) (hld : Int32) (err : UInt64) (rch : Int32) (nCo : Nat) (co : Nat → Int64) (nQu : Nat) (qu : Nat → Int32) (ln : Int32) (wd : Int32) (rd : Int32) (nKn : Nat) (kn : Nat → Int32) (w : Int32) (ht : Int32) (tn : Int32) (kp : Int32) (nFu : Nat) (fu : Nat → Int32) (nFk : Nat) (fk : Nat → Int32) (cnt : Int32) (mde : Int32) (stn : Int32) (nMv : Nat) (mv : Nat → Int32) (nPl : Nat) (pl : Nat → Int32) (p0 : UInt64) (tX tY sz F : Nat) (o : UInt64) (hJ : J_X4_addToError F err p0 = some o) : Met l yX4_addToError wsX4_addToError rmX4_addToError (va_Pc [.ref aP, .double p0] (pcW D [(aP, .inr (5, [.ref aF, .ref aC, .ref aS, .ref aW, .int plc, .int hom, .int gol, .long stp, .int exa, .int hld, .double err])), (aS, .inr (3, [.ref aC, .ref aCo, .ref aQu, .int rch])), (aCo, .inl (cCo, nCo, .inr (.inl co))), (aQu, .inl (cQu, nQu, .inl qu)), (aC, .inr (1, [.ref aF, .ref aKn, .int ln, .int wd, .int rd])), (aKn, .inl (cKn, nKn, .inl kn)), (aF, .inr (2, [.int w, .int ht, .int tn, .ref aFu, .ref aFk, .int kp])), (aFu, .inl (cFu, nFu, .inl fu)), (aFk, .inl (cFk, nFk, .inl fk)), (aW, .inr (4, [.ref aMv, .ref aPl, .int cnt, .int mde, .int stn])), (aMv, .inl (cMv, nMv, .inl mv)), (aPl, .inl (cPl, nPl, .inl pl))] [(cCo, .long), (cQu, .int), (cKn, .int), (cFu, .boolean), (cFk, .int), (cMv, .int), (cPl, .int)] sz tX tY)) (qWv D [(aP, .inr (5, [.ref aF, .ref aC, .ref aS, .ref aW, .int plc, .int hom, .int gol, .long stp, .int exa, .int hld, .double o])), (aS, .inr (3, [.ref aC, .ref aCo, .ref aQu, .int rch])), (aCo, .inl (cCo, nCo, .inr (.inl co))), (aQu, .inl (cQu, nQu, .inl qu)), (aC, .inr (1, [.ref aF, .ref aKn, .int ln, .int wd, .int rd])), (aKn, .inl (cKn, nKn, .inl kn)), (aF, .inr (2, [.int w, .int ht, .int tn, .ref aFu, .ref aFk, .int kp])), (aFu, .inl (cFu, nFu, .inl fu)), (aFk, .inl (cFk, nFk, .inl fk)), (aW, .inr (4, [.ref aMv, .ref aPl, .int cnt, .int mde, .int stn])), (aMv, .inl (cMv, nMv, .inl mv)), (aPl, .inl (cPl, nPl, .inl pl))] (va_A [(aP, .inr (5, [.ref aF, .ref aC, .ref aS, .ref aW, .int plc, .int hom, .int gol, .long stp, .int exa, .int hld, .double err])), (aS, .inr (3, [.ref aC, .ref aCo, .ref aQu, .int rch])), (aCo, .inl (cCo, nCo, .inr (.inl co))), (aQu, .inl (cQu, nQu, .inl qu)), (aC, .inr (1, [.ref aF, .ref aKn, .int ln, .int wd, .int rd])), (aKn, .inl (cKn, nKn, .inl kn)), (aF, .inr (2, [.int w, .int ht, .int tn, .ref aFu, .ref aFk, .int kp])), (aFu, .inl (cFu, nFu, .inl fu)), (aFk, .inl (cFk, nFk, .inl fk)), (aW, .inr (4, [.ref aMv, .ref aPl, .int cnt, .int mde, .int stn])), (aMv, .inl (cMv, nMv, .inl mv)), (aPl, .inl (cPl, nPl, .inl pl))] sz)) 0 0 (va_A [(aP, .inr (5, [.ref aF, .ref aC, .ref aS, .ref aW, .int plc, .int hom, .int gol, .long stp, .int exa, .int hld, .double err])), (aS, .inr (3, [.ref aC, .ref aCo, .ref aQu, .int rch])), (aCo, .inl (cCo, nCo, .inr (.inl co))), (aQu, .inl (cQu, nQu, .inl qu)), (aC, .inr (1, [.ref aF, .ref aKn, .int ln, .int wd, .int rd])), (aKn, .inl (cKn, nKn, .inl kn)), (aF, .inr (2, [.int w, .int ht, .int tn, .ref aFu, .ref aFk, .int kp])), (aFu, .inl (cFu, nFu, .inl fu)), (aFk, .inl (cFk, nFk, .inl fk)), (aW, .inr (4, [.ref aMv, .ref aPl, .int cnt, .int mde, .int stn])), (aMv, .inl (cMv, nMv, .inl mv)), (aPl, .inl (cPl, nPl, .inl pl))] sz) := by
  refine Met.ofW (cc := cX4_addToError) (maxL := 3) (ret := none) (by decide) rfl ?_
  intro p e s m args below meth c s₁ B hml hv
  obtain ⟨rfl, hsz, hP, hK, hD0, hST⟩ := hv
  have hx := B.exec
  have hb := B.bytes
  have hr := B.returns
  have hts := atoms_spec (ws := wsX4_addToError) B.pre
  have hown : s.vm.findClass RX4 = some m.cls := findClass_of_methodNamed B.named
  have hlocks := B.notSynchronized
  subst hsz
  have hD := hD0.self (sz := s.heap.size)
  generalize hAe : va_A [(aP, .inr (5, [.ref aF, .ref aC, .ref aS, .ref aW, .int plc, .int hom, .int gol, .long stp, .int exa, .int hld, .double err])), (aS, .inr (3, [.ref aC, .ref aCo, .ref aQu, .int rch])), (aCo, .inl (cCo, nCo, .inr (.inl co))), (aQu, .inl (cQu, nQu, .inl qu)), (aC, .inr (1, [.ref aF, .ref aKn, .int ln, .int wd, .int rd])), (aKn, .inl (cKn, nKn, .inl kn)), (aF, .inr (2, [.int w, .int ht, .int tn, .ref aFu, .ref aFk, .int kp])), (aFu, .inl (cFu, nFu, .inl fu)), (aFk, .inl (cFk, nFk, .inl fk)), (aW, .inr (4, [.ref aMv, .ref aPl, .int cnt, .int mde, .int stn])), (aMv, .inl (cMv, nMv, .inl mv)), (aPl, .inl (cPl, nPl, .inl pl))] s.heap.size = A at hD hST ⊢
  have hA : ∀ q : Nat, s.heap.size ≤ q → A q := fun q h => by rw [← hAe]; exact Or.inr h
  have hS : va_S A s.heap s.heap [] := va_S.rf
  have hl := lv_entry ([.ref aP, .double p0]) (n := 3) (Nat.le_of_ble_eq_true rfl)
  rw [lg_entry_eq]
  generalize (lg_sl ([.ref aP, .double p0]) ++ List.replicate (3 - (lg_sl ([.ref aP, .double p0])).length) Slot.unset).toArray = ls at hl ⊢
  have hl : lv_has ls 3 [(0, .ref aP), (1, .double p0)] := hl
  have iX4 : ∀ w ∈ wsX40, w ∈ wsX4_addToError := fun w h => List.mem_cons_of_mem _ (List.mem_append_right _ h)
  have k_1 := hts (.fieldLink RX4 168 "ParkWays" "error" "D") (List.mem_of_getElem? (i := 1) rfl)
  have k_2 := hts (.constantDouble RX4 190 (4602678819172646912)) (List.mem_of_getElem? (i := 2) rfl)
  have k_3 := hts (.constantDouble RX4 192 (13826050856027422720)) (List.mem_of_getElem? (i := 3) rfl)
  unfold J_X4_addToError at hJ
  refine lv_aload_n hx hb dX4_addToError_0 rfl (lv_at hl 0 rfl) ?_
  refine lv_aload_n hx hb dX4_addToError_1 rfl (lv_at hl 0 rfl) ?_
  refine va_get (D := D) (ci := 5) (v := .double err) (C := RX4) (T := TX4) (N := 11) hx hb hts iX4 hown hK hP 0 rfl rfl 10 (by decide) k_1 (fun _ h9 => h9) rfl dX4_addToError_2 ?_
  refine lv_dload_n hx hb dX4_addToError_5 rfl (lv_at hl 1 rfl) ?_
  obtain ⟨z_1, hJ⟩ := g_nf hJ
  refine lv_dadd hx hb dX4_addToError_6 z_1 ?_
  refine va_put (D := D) (ci := 5) (v := .double (FP.dadd err p0)) (ty := .double) (C := RX4) (T := TX4) (N := 11) hx hb hts iX4 tyX4 tyX4_ok nmX4 hown hK hP hD hS 0 rfl rfl 10 (by decide) k_1 (fun _ h9 => h9) rfl (by decide +kernel) rfl rfl (Nat.le_of_ble_eq_true rfl) dX4_addToError_7 (fun H locs hP hD hS => ?_)
  have hP : va_P D vwCl [(aP, .inr (5, [.ref aF, .ref aC, .ref aS, .ref aW, .int plc, .int hom, .int gol, .long stp, .int exa, .int hld, .double (FP.dadd err p0)])), (aS, .inr (3, [.ref aC, .ref aCo, .ref aQu, .int rch])), (aCo, .inl (cCo, nCo, .inr (.inl co))), (aQu, .inl (cQu, nQu, .inl qu)), (aC, .inr (1, [.ref aF, .ref aKn, .int ln, .int wd, .int rd])), (aKn, .inl (cKn, nKn, .inl kn)), (aF, .inr (2, [.int w, .int ht, .int tn, .ref aFu, .ref aFk, .int kp])), (aFu, .inl (cFu, nFu, .inl fu)), (aFk, .inl (cFk, nFk, .inl fk)), (aW, .inr (4, [.ref aMv, .ref aPl, .int cnt, .int mde, .int stn])), (aMv, .inl (cMv, nMv, .inl mv)), (aPl, .inl (cPl, nPl, .inl pl))] H := hP
  have hD : va_D A [(aP, .inr (5, [.ref aF, .ref aC, .ref aS, .ref aW, .int plc, .int hom, .int gol, .long stp, .int exa, .int hld, .double (FP.dadd err p0)])), (aS, .inr (3, [.ref aC, .ref aCo, .ref aQu, .int rch])), (aCo, .inl (cCo, nCo, .inr (.inl co))), (aQu, .inl (cQu, nQu, .inl qu)), (aC, .inr (1, [.ref aF, .ref aKn, .int ln, .int wd, .int rd])), (aKn, .inl (cKn, nKn, .inl kn)), (aF, .inr (2, [.int w, .int ht, .int tn, .ref aFu, .ref aFk, .int kp])), (aFu, .inl (cFu, nFu, .inl fu)), (aFk, .inl (cFk, nFk, .inl fk)), (aW, .inr (4, [.ref aMv, .ref aPl, .int cnt, .int mde, .int stn])), (aMv, .inl (cMv, nMv, .inl mv)), (aPl, .inl (cPl, nPl, .inl pl))] := hD
  refine lv_aload_n hx hb dX4_addToError_10 rfl (lv_at hl 0 rfl) ?_
  refine va_get (D := D) (ci := 5) (v := .double (FP.dadd err p0)) (C := RX4) (T := TX4) (N := 11) hx hb hts iX4 hown hK hP 0 rfl rfl 10 (by decide) k_1 (fun _ h9 => h9) rfl dX4_addToError_11 ?_
  refine lv_ldc2d (v := 4602678819172646912) hx hb hown k_2 dX4_addToError_14 ?_
  refine lv_dcmp hx hb dX4_addToError_17 ?_
  refine lv_if_le (tgt := 34) hx hb dX4_addToError_18 (by decide) (fun c_2 => ?_) (fun c_2 => ?_)
  · have hJ := j_t c_2 hJ
    refine lv_aload_n hx hb dX4_addToError_34 rfl (lv_at hl 0 rfl) ?_
    refine va_get (D := D) (ci := 5) (v := .double (FP.dadd err p0)) (C := RX4) (T := TX4) (N := 11) hx hb hts iX4 hown hK hP 0 rfl rfl 10 (by decide) k_1 (fun _ h9 => h9) rfl dX4_addToError_35 ?_
    refine lv_ldc2d (v := 13826050856027422720) hx hb hown k_3 dX4_addToError_38 ?_
    refine lv_dcmp hx hb dX4_addToError_41 ?_
    refine lv_if_ge (tgt := 55) hx hb dX4_addToError_42 (by decide) (fun c_3 => ?_) (fun c_3 => ?_)
    · have hJ := j_t c_3 hJ
      have ho := Option.some.inj hJ
      exact W.vret hx hb hr (fun t ht hW => ⟨⟨(), rfl, trivial, (by rw [ht, ← ho]; exact hP), (by rw [← ho]; exact hD)⟩, hS.F ht⟩) hS.2.2 dX4_addToError_55
    · have hJ := j_f c_3 hJ
      refine lv_aload_n hx hb dX4_addToError_45 rfl (lv_at hl 0 rfl) ?_
      refine lv_aload_n hx hb dX4_addToError_46 rfl (lv_at hl 0 rfl) ?_
      refine va_get (D := D) (ci := 5) (v := .double (FP.dadd err p0)) (C := RX4) (T := TX4) (N := 11) hx hb hts iX4 hown hK hP 0 rfl rfl 10 (by decide) k_1 (fun _ h9 => h9) rfl dX4_addToError_47 ?_
      refine lv_dconst1 hx hb dX4_addToError_50 ?_
      obtain ⟨z_4, hJ⟩ := g_nf hJ
      refine lv_dadd hx hb dX4_addToError_51 z_4 ?_
      refine va_put (D := D) (ci := 5) (v := .double (FP.dadd (FP.dadd err p0) FP.dconst1)) (ty := .double) (C := RX4) (T := TX4) (N := 11) hx hb hts iX4 tyX4 tyX4_ok nmX4 hown hK hP hD hS 0 rfl rfl 10 (by decide) k_1 (fun _ h9 => h9) rfl (by decide +kernel) rfl rfl (Nat.le_of_ble_eq_true rfl) dX4_addToError_52 (fun H locs hP hD hS => ?_)
      have hP : va_P D vwCl [(aP, .inr (5, [.ref aF, .ref aC, .ref aS, .ref aW, .int plc, .int hom, .int gol, .long stp, .int exa, .int hld, .double (FP.dadd (FP.dadd err p0) FP.dconst1)])), (aS, .inr (3, [.ref aC, .ref aCo, .ref aQu, .int rch])), (aCo, .inl (cCo, nCo, .inr (.inl co))), (aQu, .inl (cQu, nQu, .inl qu)), (aC, .inr (1, [.ref aF, .ref aKn, .int ln, .int wd, .int rd])), (aKn, .inl (cKn, nKn, .inl kn)), (aF, .inr (2, [.int w, .int ht, .int tn, .ref aFu, .ref aFk, .int kp])), (aFu, .inl (cFu, nFu, .inl fu)), (aFk, .inl (cFk, nFk, .inl fk)), (aW, .inr (4, [.ref aMv, .ref aPl, .int cnt, .int mde, .int stn])), (aMv, .inl (cMv, nMv, .inl mv)), (aPl, .inl (cPl, nPl, .inl pl))] H := hP
      have hD : va_D A [(aP, .inr (5, [.ref aF, .ref aC, .ref aS, .ref aW, .int plc, .int hom, .int gol, .long stp, .int exa, .int hld, .double (FP.dadd (FP.dadd err p0) FP.dconst1)])), (aS, .inr (3, [.ref aC, .ref aCo, .ref aQu, .int rch])), (aCo, .inl (cCo, nCo, .inr (.inl co))), (aQu, .inl (cQu, nQu, .inl qu)), (aC, .inr (1, [.ref aF, .ref aKn, .int ln, .int wd, .int rd])), (aKn, .inl (cKn, nKn, .inl kn)), (aF, .inr (2, [.int w, .int ht, .int tn, .ref aFu, .ref aFk, .int kp])), (aFu, .inl (cFu, nFu, .inl fu)), (aFk, .inl (cFk, nFk, .inl fk)), (aW, .inr (4, [.ref aMv, .ref aPl, .int cnt, .int mde, .int stn])), (aMv, .inl (cMv, nMv, .inl mv)), (aPl, .inl (cPl, nPl, .inl pl))] := hD
      have ho := Option.some.inj hJ
      exact W.vret hx hb hr (fun t ht hW => ⟨⟨(), rfl, trivial, (by rw [ht, ← ho]; exact hP), (by rw [← ho]; exact hD)⟩, hS.F ht⟩) hS.2.2 dX4_addToError_55
  · have hJ := j_f c_2 hJ
    refine lv_aload_n hx hb dX4_addToError_21 rfl (lv_at hl 0 rfl) ?_
    refine lv_aload_n hx hb dX4_addToError_22 rfl (lv_at hl 0 rfl) ?_
    refine va_get (D := D) (ci := 5) (v := .double (FP.dadd err p0)) (C := RX4) (T := TX4) (N := 11) hx hb hts iX4 hown hK hP 0 rfl rfl 10 (by decide) k_1 (fun _ h9 => h9) rfl dX4_addToError_23 ?_
    refine lv_dconst1 hx hb dX4_addToError_26 ?_
    obtain ⟨z_5, hJ⟩ := g_nf hJ
    refine lv_dsub hx hb dX4_addToError_27 z_5 ?_
    refine va_put (D := D) (ci := 5) (v := .double (FP.dsub (FP.dadd err p0) FP.dconst1)) (ty := .double) (C := RX4) (T := TX4) (N := 11) hx hb hts iX4 tyX4 tyX4_ok nmX4 hown hK hP hD hS 0 rfl rfl 10 (by decide) k_1 (fun _ h9 => h9) rfl (by decide +kernel) rfl rfl (Nat.le_of_ble_eq_true rfl) dX4_addToError_28 (fun H locs hP hD hS => ?_)
    have hP : va_P D vwCl [(aP, .inr (5, [.ref aF, .ref aC, .ref aS, .ref aW, .int plc, .int hom, .int gol, .long stp, .int exa, .int hld, .double (FP.dsub (FP.dadd err p0) FP.dconst1)])), (aS, .inr (3, [.ref aC, .ref aCo, .ref aQu, .int rch])), (aCo, .inl (cCo, nCo, .inr (.inl co))), (aQu, .inl (cQu, nQu, .inl qu)), (aC, .inr (1, [.ref aF, .ref aKn, .int ln, .int wd, .int rd])), (aKn, .inl (cKn, nKn, .inl kn)), (aF, .inr (2, [.int w, .int ht, .int tn, .ref aFu, .ref aFk, .int kp])), (aFu, .inl (cFu, nFu, .inl fu)), (aFk, .inl (cFk, nFk, .inl fk)), (aW, .inr (4, [.ref aMv, .ref aPl, .int cnt, .int mde, .int stn])), (aMv, .inl (cMv, nMv, .inl mv)), (aPl, .inl (cPl, nPl, .inl pl))] H := hP
    have hD : va_D A [(aP, .inr (5, [.ref aF, .ref aC, .ref aS, .ref aW, .int plc, .int hom, .int gol, .long stp, .int exa, .int hld, .double (FP.dsub (FP.dadd err p0) FP.dconst1)])), (aS, .inr (3, [.ref aC, .ref aCo, .ref aQu, .int rch])), (aCo, .inl (cCo, nCo, .inr (.inl co))), (aQu, .inl (cQu, nQu, .inl qu)), (aC, .inr (1, [.ref aF, .ref aKn, .int ln, .int wd, .int rd])), (aKn, .inl (cKn, nKn, .inl kn)), (aF, .inr (2, [.int w, .int ht, .int tn, .ref aFu, .ref aFk, .int kp])), (aFu, .inl (cFu, nFu, .inl fu)), (aFk, .inl (cFk, nFk, .inl fk)), (aW, .inr (4, [.ref aMv, .ref aPl, .int cnt, .int mde, .int stn])), (aMv, .inl (cMv, nMv, .inl mv)), (aPl, .inl (cPl, nPl, .inl pl))] := hD
    refine lv_goto (tgt := 55) hx hb dX4_addToError_31 (by decide) ?_
    have ho := Option.some.inj hJ
    exact W.vret hx hb hr (fun t ht hW => ⟨⟨(), rfl, trivial, (by rw [ht, ← ho]; exact hP), (by rw [← ho]; exact hD)⟩, hS.F ht⟩) hS.2.2 dX4_addToError_55
set_option maxHeartbeats 4000000 in
set_option maxRecDepth 100000 in
theorem c_X4_movesLeftMayBeMade (l : Launch) (D : va_G) (aP aS aCo aQu aC aKn aF aFu aFk aW aMv aPl : Nat) (cCo cQu cKn cFu cFk cMv cPl : ClassId) (plc : Int32) (hom : Int32) (gol : Int32) (stp : Int64) (exa : Int32) (hld : Int32) (err : UInt64) (rch : Int32) (nCo : Nat) (co : Nat → Int64) (nQu : Nat) (qu : Nat → Int32) (ln : Int32) (wd : Int32) (rd : Int32) (nKn : Nat) (kn : Nat → Int32) (w : Int32) (ht : Int32) (tn : Int32) (kp : Int32) (nFu : Nat) (fu : Nat → Int32) (nFk : Nat) (fk : Nat → Int32) (cnt : Int32) (mde : Int32) (stn : Int32) (nMv : Nat) (mv : Nat → Int32) (nPl : Nat) (pl : Nat → Int32) (tX tY sz F : Nat) (o : Int32 × (Nat → Int32)) (hJ : J_X4_movesLeftMayBeMade F plc ln wd rd nKn kn w ht tn nFk fk cnt mde nMv mv nPl pl = some o) : Met l yX4_movesLeftMayBeMade wsX4_movesLeftMayBeMade rmX4_movesLeftMayBeMade (va_Pc [.ref aP] (pcW D [(aP, .inr (5, [.ref aF, .ref aC, .ref aS, .ref aW, .int plc, .int hom, .int gol, .long stp, .int exa, .int hld, .double err])), (aS, .inr (3, [.ref aC, .ref aCo, .ref aQu, .int rch])), (aCo, .inl (cCo, nCo, .inr (.inl co))), (aQu, .inl (cQu, nQu, .inl qu)), (aC, .inr (1, [.ref aF, .ref aKn, .int ln, .int wd, .int rd])), (aKn, .inl (cKn, nKn, .inl kn)), (aF, .inr (2, [.int w, .int ht, .int tn, .ref aFu, .ref aFk, .int kp])), (aFu, .inl (cFu, nFu, .inl fu)), (aFk, .inl (cFk, nFk, .inl fk)), (aW, .inr (4, [.ref aMv, .ref aPl, .int cnt, .int mde, .int stn])), (aMv, .inl (cMv, nMv, .inl mv)), (aPl, .inl (cPl, nPl, .inl pl))] [(cCo, .long), (cQu, .int), (cKn, .int), (cFu, .boolean), (cFk, .int), (cMv, .int), (cPl, .int)] sz tX tY)) (qWi D o.1 [(aP, .inr (5, [.ref aF, .ref aC, .ref aS, .ref aW, .int plc, .int hom, .int gol, .long stp, .int exa, .int hld, .double err])), (aS, .inr (3, [.ref aC, .ref aCo, .ref aQu, .int rch])), (aCo, .inl (cCo, nCo, .inr (.inl co))), (aQu, .inl (cQu, nQu, .inl qu)), (aC, .inr (1, [.ref aF, .ref aKn, .int ln, .int wd, .int rd])), (aKn, .inl (cKn, nKn, .inl o.2)), (aF, .inr (2, [.int w, .int ht, .int tn, .ref aFu, .ref aFk, .int kp])), (aFu, .inl (cFu, nFu, .inl fu)), (aFk, .inl (cFk, nFk, .inl fk)), (aW, .inr (4, [.ref aMv, .ref aPl, .int cnt, .int mde, .int stn])), (aMv, .inl (cMv, nMv, .inl mv)), (aPl, .inl (cPl, nPl, .inl pl))] (va_A [(aP, .inr (5, [.ref aF, .ref aC, .ref aS, .ref aW, .int plc, .int hom, .int gol, .long stp, .int exa, .int hld, .double err])), (aS, .inr (3, [.ref aC, .ref aCo, .ref aQu, .int rch])), (aCo, .inl (cCo, nCo, .inr (.inl co))), (aQu, .inl (cQu, nQu, .inl qu)), (aC, .inr (1, [.ref aF, .ref aKn, .int ln, .int wd, .int rd])), (aKn, .inl (cKn, nKn, .inl kn)), (aF, .inr (2, [.int w, .int ht, .int tn, .ref aFu, .ref aFk, .int kp])), (aFu, .inl (cFu, nFu, .inl fu)), (aFk, .inl (cFk, nFk, .inl fk)), (aW, .inr (4, [.ref aMv, .ref aPl, .int cnt, .int mde, .int stn])), (aMv, .inl (cMv, nMv, .inl mv)), (aPl, .inl (cPl, nPl, .inl pl))] sz)) 0 0 (va_A [(aP, .inr (5, [.ref aF, .ref aC, .ref aS, .ref aW, .int plc, .int hom, .int gol, .long stp, .int exa, .int hld, .double err])), (aS, .inr (3, [.ref aC, .ref aCo, .ref aQu, .int rch])), (aCo, .inl (cCo, nCo, .inr (.inl co))), (aQu, .inl (cQu, nQu, .inl qu)), (aC, .inr (1, [.ref aF, .ref aKn, .int ln, .int wd, .int rd])), (aKn, .inl (cKn, nKn, .inl kn)), (aF, .inr (2, [.int w, .int ht, .int tn, .ref aFu, .ref aFk, .int kp])), (aFu, .inl (cFu, nFu, .inl fu)), (aFk, .inl (cFk, nFk, .inl fk)), (aW, .inr (4, [.ref aMv, .ref aPl, .int cnt, .int mde, .int stn])), (aMv, .inl (cMv, nMv, .inl mv)), (aPl, .inl (cPl, nPl, .inl pl))] sz) := by
  refine Met.ofW (cc := cX4_movesLeftMayBeMade) (maxL := 3) (ret := (some .boolean)) (by decide) rfl ?_
  intro p e s m args below meth c s₁ B hml hv
  obtain ⟨rfl, hsz, hP, hK, hD0, hST⟩ := hv
  have hx := B.exec
  have hb := B.bytes
  have hr := B.returns
  have hts := atoms_spec (ws := wsX4_movesLeftMayBeMade) B.pre
  have hown : s.vm.findClass RX4 = some m.cls := findClass_of_methodNamed B.named
  have hlocks := B.notSynchronized
  subst hsz
  have hD := hD0.self (sz := s.heap.size)
  generalize hAe : va_A [(aP, .inr (5, [.ref aF, .ref aC, .ref aS, .ref aW, .int plc, .int hom, .int gol, .long stp, .int exa, .int hld, .double err])), (aS, .inr (3, [.ref aC, .ref aCo, .ref aQu, .int rch])), (aCo, .inl (cCo, nCo, .inr (.inl co))), (aQu, .inl (cQu, nQu, .inl qu)), (aC, .inr (1, [.ref aF, .ref aKn, .int ln, .int wd, .int rd])), (aKn, .inl (cKn, nKn, .inl kn)), (aF, .inr (2, [.int w, .int ht, .int tn, .ref aFu, .ref aFk, .int kp])), (aFu, .inl (cFu, nFu, .inl fu)), (aFk, .inl (cFk, nFk, .inl fk)), (aW, .inr (4, [.ref aMv, .ref aPl, .int cnt, .int mde, .int stn])), (aMv, .inl (cMv, nMv, .inl mv)), (aPl, .inl (cPl, nPl, .inl pl))] s.heap.size = A at hD hST ⊢
  have hA : ∀ q : Nat, s.heap.size ≤ q → A q := fun q h => by rw [← hAe]; exact Or.inr h
  have hS : va_S A s.heap s.heap [] := va_S.rf
  have hl := lv_entry ([.ref aP]) (n := 3) (Nat.le_of_ble_eq_true rfl)
  rw [lg_entry_eq]
  generalize (lg_sl ([.ref aP]) ++ List.replicate (3 - (lg_sl ([.ref aP])).length) Slot.unset).toArray = ls at hl ⊢
  have hl : lv_has ls 3 [(0, .ref aP)] := hl
  have iX3 : ∀ w ∈ wsX30, w ∈ wsX4_movesLeftMayBeMade := fun w h => List.mem_cons_of_mem _ (List.mem_append_left _ (List.mem_append_left _ (List.mem_append_right _ h)))
  have iX4 : ∀ w ∈ wsX40, w ∈ wsX4_movesLeftMayBeMade := fun w h => List.mem_cons_of_mem _ (List.mem_append_left _ (List.mem_append_left _ (List.mem_append_left _ (List.mem_append_right _ h))))
  have k_1 := hts (.fieldLink RX4 103 "ParkWays" "place" "I") (List.mem_of_getElem? (i := 1) rfl)
  have k_2 := hts (.fieldLink RX4 53 "ParkWays" "way" "LParkWays$Way;") (List.mem_of_getElem? (i := 2) rfl)
  have k_3 := hts (.fieldLink RX4 31 "ParkWays" "car" "LParkWays$Car;") (List.mem_of_getElem? (i := 3) rfl)
  have L_13 : ∀ (kk_60 : Int32 → Int32 → (Nat → Int32) → Option (Int32 × (Nat → Int32))) (hkk_60 : ∀ (H : Heap) (locs : List Loc) (x1_1 : Int32) (x2_2 : Int32) (xkn_3 : Nat → Int32) (ls : Array Slot), kk_60 x1_1 x2_2 xkn_3 = some o → va_P D vwCl [(aP, .inr (5, [.ref aF, .ref aC, .ref aS, .ref aW, .int plc, .int hom, .int gol, .long stp, .int exa, .int hld, .double err])), (aS, .inr (3, [.ref aC, .ref aCo, .ref aQu, .int rch])), (aCo, .inl (cCo, nCo, .inr (.inl co))), (aQu, .inl (cQu, nQu, .inl qu)), (aC, .inr (1, [.ref aF, .ref aKn, .int ln, .int wd, .int rd])), (aKn, .inl (cKn, nKn, .inl xkn_3)), (aF, .inr (2, [.int w, .int ht, .int tn, .ref aFu, .ref aFk, .int kp])), (aFu, .inl (cFu, nFu, .inl fu)), (aFk, .inl (cFk, nFk, .inl fk)), (aW, .inr (4, [.ref aMv, .ref aPl, .int cnt, .int mde, .int stn])), (aMv, .inl (cMv, nMv, .inl mv)), (aPl, .inl (cPl, nPl, .inl pl))] H → va_D A [(aP, .inr (5, [.ref aF, .ref aC, .ref aS, .ref aW, .int plc, .int hom, .int gol, .long stp, .int exa, .int hld, .double err])), (aS, .inr (3, [.ref aC, .ref aCo, .ref aQu, .int rch])), (aCo, .inl (cCo, nCo, .inr (.inl co))), (aQu, .inl (cQu, nQu, .inl qu)), (aC, .inr (1, [.ref aF, .ref aKn, .int ln, .int wd, .int rd])), (aKn, .inl (cKn, nKn, .inl xkn_3)), (aF, .inr (2, [.int w, .int ht, .int tn, .ref aFu, .ref aFk, .int kp])), (aFu, .inl (cFu, nFu, .inl fu)), (aFk, .inl (cFk, nFk, .inl fk)), (aW, .inr (4, [.ref aMv, .ref aPl, .int cnt, .int mde, .int stn])), (aMv, .inl (cMv, nMv, .inl mv)), (aPl, .inl (cPl, nPl, .inl pl))] → va_S A s.heap H locs → lv_has ls 3 [] → W p l e (headSpec wsX4_movesLeftMayBeMade rmX4_movesLeftMayBeMade).room s m [.ref aP].toArray below meth c H locs 0 0 (MQ below (qWi D o.1 [(aP, .inr (5, [.ref aF, .ref aC, .ref aS, .ref aW, .int plc, .int hom, .int gol, .long stp, .int exa, .int hld, .double err])), (aS, .inr (3, [.ref aC, .ref aCo, .ref aQu, .int rch])), (aCo, .inl (cCo, nCo, .inr (.inl co))), (aQu, .inl (cQu, nQu, .inl qu)), (aC, .inr (1, [.ref aF, .ref aKn, .int ln, .int wd, .int rd])), (aKn, .inl (cKn, nKn, .inl o.2)), (aF, .inr (2, [.int w, .int ht, .int tn, .ref aFu, .ref aFk, .int kp])), (aFu, .inl (cFu, nFu, .inl fu)), (aFk, .inl (cFk, nFk, .inl fk)), (aW, .inr (4, [.ref aMv, .ref aPl, .int cnt, .int mde, .int stn])), (aMv, .inl (cMv, nMv, .inl mv)), (aPl, .inl (cPl, nPl, .inl pl))] A) [.ref aP].toArray s 0 0 A) (F0 m 60 ls [])) (fz : Nat) (H : Heap) (locs : List Loc) (x1_1 : Int32) (x2_2 : Int32) (xkn_3 : Nat → Int32) (ls : Array Slot), J_X4_movesLeftMayBeMade_L13 F ln wd rd nKn w ht tn nFk fk cnt nMv mv nPl pl kk_60 fz x1_1 x2_2 xkn_3 = some o → va_P D vwCl [(aP, .inr (5, [.ref aF, .ref aC, .ref aS, .ref aW, .int plc, .int hom, .int gol, .long stp, .int exa, .int hld, .double err])), (aS, .inr (3, [.ref aC, .ref aCo, .ref aQu, .int rch])), (aCo, .inl (cCo, nCo, .inr (.inl co))), (aQu, .inl (cQu, nQu, .inl qu)), (aC, .inr (1, [.ref aF, .ref aKn, .int ln, .int wd, .int rd])), (aKn, .inl (cKn, nKn, .inl xkn_3)), (aF, .inr (2, [.int w, .int ht, .int tn, .ref aFu, .ref aFk, .int kp])), (aFu, .inl (cFu, nFu, .inl fu)), (aFk, .inl (cFk, nFk, .inl fk)), (aW, .inr (4, [.ref aMv, .ref aPl, .int cnt, .int mde, .int stn])), (aMv, .inl (cMv, nMv, .inl mv)), (aPl, .inl (cPl, nPl, .inl pl))] H → va_D A [(aP, .inr (5, [.ref aF, .ref aC, .ref aS, .ref aW, .int plc, .int hom, .int gol, .long stp, .int exa, .int hld, .double err])), (aS, .inr (3, [.ref aC, .ref aCo, .ref aQu, .int rch])), (aCo, .inl (cCo, nCo, .inr (.inl co))), (aQu, .inl (cQu, nQu, .inl qu)), (aC, .inr (1, [.ref aF, .ref aKn, .int ln, .int wd, .int rd])), (aKn, .inl (cKn, nKn, .inl xkn_3)), (aF, .inr (2, [.int w, .int ht, .int tn, .ref aFu, .ref aFk, .int kp])), (aFu, .inl (cFu, nFu, .inl fu)), (aFk, .inl (cFk, nFk, .inl fk)), (aW, .inr (4, [.ref aMv, .ref aPl, .int cnt, .int mde, .int stn])), (aMv, .inl (cMv, nMv, .inl mv)), (aPl, .inl (cPl, nPl, .inl pl))] → va_S A s.heap H locs → lv_has ls 3 [(0, .ref aP), (1, .int x1_1), (2, .int x2_2)] → W p l e (headSpec wsX4_movesLeftMayBeMade rmX4_movesLeftMayBeMade).room s m [.ref aP].toArray below meth c H locs 0 0 (MQ below (qWi D o.1 [(aP, .inr (5, [.ref aF, .ref aC, .ref aS, .ref aW, .int plc, .int hom, .int gol, .long stp, .int exa, .int hld, .double err])), (aS, .inr (3, [.ref aC, .ref aCo, .ref aQu, .int rch])), (aCo, .inl (cCo, nCo, .inr (.inl co))), (aQu, .inl (cQu, nQu, .inl qu)), (aC, .inr (1, [.ref aF, .ref aKn, .int ln, .int wd, .int rd])), (aKn, .inl (cKn, nKn, .inl o.2)), (aF, .inr (2, [.int w, .int ht, .int tn, .ref aFu, .ref aFk, .int kp])), (aFu, .inl (cFu, nFu, .inl fu)), (aFk, .inl (cFk, nFk, .inl fk)), (aW, .inr (4, [.ref aMv, .ref aPl, .int cnt, .int mde, .int stn])), (aMv, .inl (cMv, nMv, .inl mv)), (aPl, .inl (cPl, nPl, .inl pl))] A) [.ref aP].toArray s 0 0 A) (F0 m 13 ls []) := by
    intro kk_60 hkk_60 fz
    induction fz with
    | zero =>
      intro H locs x1_1 x2_2 xkn_3 ls hJ
      rw [J_X4_movesLeftMayBeMade_L13] at hJ
      cases hJ
    | succ fz ih =>
      intro H locs x1_1 x2_2 xkn_3 ls hJ hP hD hS hl
      rw [J_X4_movesLeftMayBeMade_L13] at hJ
      refine lv_iload_n hx hb dX4_movesLeftMayBeMade_13 rfl (lv_at hl 2 rfl) ?_
      refine lv_aload_n hx hb dX4_movesLeftMayBeMade_14 rfl (lv_at hl 0 rfl) ?_
      refine va_get (D := D) (ci := 5) (v := .ref aW) (C := RX4) (T := TX4) (N := 11) hx hb hts iX4 hown hK hP 0 rfl rfl 3 (by decide) k_2 (fun _ h9 => h9) rfl dX4_movesLeftMayBeMade_15 ?_
      refine va_getN (D := D) (ci := 4) (v := .int cnt) (C := RX3) (T := TX3) (N := 5) hx hb hts iX3 hown hK hP 9 rfl rfl 2 (by decide) (va_Nw.use rfl (hST.1.2.2.1)) (fun _ h9 => h9) rfl dX4_movesLeftMayBeMade_18 ?_
      refine lv_icmp_ge (tgt := 60) hx hb dX4_movesLeftMayBeMade_21 (by decide) (fun c_4 => ?_) (fun c_4 => ?_)
      · have hJ := j_t c_4 hJ
        exact hkk_60 H locs x1_1 x2_2 xkn_3 ls hJ hP hD hS (lv_sub hl [] rfl)
      · have hJ := j_f c_4 hJ
        refine lv_aload_n hx hb dX4_movesLeftMayBeMade_24 rfl (lv_at hl 0 rfl) ?_
        refine va_get (D := D) (ci := 5) (v := .ref aC) (C := RX4) (T := TX4) (N := 11) hx hb hts iX4 hown hK hP 0 rfl rfl 1 (by decide) k_3 (fun _ h9 => h9) rfl dX4_movesLeftMayBeMade_25 ?_
        refine lv_iload_n hx hb dX4_movesLeftMayBeMade_28 rfl (lv_at hl 1 rfl) ?_
        refine lv_aload_n hx hb dX4_movesLeftMayBeMade_29 rfl (lv_at hl 0 rfl) ?_
        refine va_get (D := D) (ci := 5) (v := .ref aW) (C := RX4) (T := TX4) (N := 11) hx hb hts iX4 hown hK hP 0 rfl rfl 3 (by decide) k_2 (fun _ h9 => h9) rfl dX4_movesLeftMayBeMade_30 ?_
        refine lv_iload_n hx hb dX4_movesLeftMayBeMade_33 rfl (lv_at hl 2 rfl) ?_
        obtain ⟨v_5, hv_5, hJ⟩ := j_b hJ
        refine ro_i (va_runV (As := [.int x2_2]) (rest := [.int x1_1, .ref aC]) ⟨hx, hb, hml, hown, hts⟩ (c_X3_moveAt l D aW aMv aPl cMv cPl cnt mde stn nMv mv nPl pl x2_2 tX tY H.size F v_5 hv_5) (cwV 1 hts gX4_movesLeftMayBeMade_X3_moveAt rfl rfl rfl (by decide +kernel) ⟨Nat.le_of_ble_eq_true rfl, Nat.le_of_ble_eq_true rfl⟩) (preRV [.int x2_2] hP hK hS hA hST [9, 10, 11] rfl [5, 6] rfl (ci := 4) (q0 := 9) rfl rfl) rfl rfl hl.1 rfl (lv_room (Nat.le_of_ble_eq_true rfl)) dX4_movesLeftMayBeMade_34 ⟨Nat.zero_le _, Nat.zero_le _⟩) hP hS hA (fun H locs hP hS => ?_)
        obtain ⟨v_6, hv_6, hJ⟩ := j_b hJ
        refine wr_i (wr := [(aP, .inr (5, [.ref aF, .ref aC, .ref aS, .ref aW, .int plc, .int hom, .int gol, .long stp, .int exa, .int hld, .double err])), (aS, .inr (3, [.ref aC, .ref aCo, .ref aQu, .int rch])), (aCo, .inl (cCo, nCo, .inr (.inl co))), (aQu, .inl (cQu, nQu, .inl qu)), (aW, .inr (4, [.ref aMv, .ref aPl, .int cnt, .int mde, .int stn])), (aMv, .inl (cMv, nMv, .inl mv)), (aPl, .inl (cPl, nPl, .inl pl))]) (wn := [(aP, .inr (5, [.ref aF, .ref aC, .ref aS, .ref aW, .int plc, .int hom, .int gol, .long stp, .int exa, .int hld, .double err])), (aS, .inr (3, [.ref aC, .ref aCo, .ref aQu, .int rch])), (aCo, .inl (cCo, nCo, .inr (.inl co))), (aQu, .inl (cQu, nQu, .inl qu)), (aC, .inr (1, [.ref aF, .ref aKn, .int ln, .int wd, .int rd])), (aKn, .inl (cKn, nKn, .inl v_6.2)), (aF, .inr (2, [.int w, .int ht, .int tn, .ref aFu, .ref aFk, .int kp])), (aFu, .inl (cFu, nFu, .inl fu)), (aFk, .inl (cFk, nFk, .inl fk)), (aW, .inr (4, [.ref aMv, .ref aPl, .int cnt, .int mde, .int stn])), (aMv, .inl (cMv, nMv, .inl mv)), (aPl, .inl (cPl, nPl, .inl pl))]) (va_runV (As := [.int x1_1, .int v_5]) (rest := []) ⟨hx, hb, hml, hown, hts⟩ (c_X0_mayMake l D aC aKn aF aFu aFk cKn cFu cFk ln wd rd nKn xkn_3 w ht tn kp nFu fu nFk fk x1_1 v_5 tX tY H.size F v_6 hv_6) (cwV 2 hts gX4_movesLeftMayBeMade_X0_mayMake rfl rfl rfl (by decide +kernel) ⟨Nat.le_of_ble_eq_true rfl, Nat.le_of_ble_eq_true rfl⟩) (preWV [.int x1_1, .int v_5] hP hD hK hS hA hST [4, 5, 6, 7, 8] rfl rfl rfl [2, 3, 4] rfl (ci := 1) (q0 := 4) rfl rfl) rfl rfl hl.1 rfl (lv_room (Nat.le_of_ble_eq_true rfl)) dX4_movesLeftMayBeMade_37 ⟨Nat.zero_le _, Nat.zero_le _⟩) hP hD hS hA [4, 5, 6, 7, 8] [0, 1, 2, 3, 9, 10, 11] rfl rfl rfl (by decide) [0, 1, 2, 3, 7, 8, 9, 10, 11, 4, 5, 6] rfl rfl rfl (fun H locs hP hD hS => ?_)
        refine lv_if_ne (tgt := 45) hx hb dX4_movesLeftMayBeMade_40 (by decide) (fun c_7 => ?_) (fun c_7 => ?_)
        · have hJ := j_f c_7 hJ
          refine lv_aload_n hx hb dX4_movesLeftMayBeMade_45 rfl (lv_at hl 0 rfl) ?_
          refine va_get (D := D) (ci := 5) (v := .ref aW) (C := RX4) (T := TX4) (N := 11) hx hb hts iX4 hown hK hP 0 rfl rfl 3 (by decide) k_2 (fun _ h9 => h9) rfl dX4_movesLeftMayBeMade_46 ?_
          refine lv_iload_n hx hb dX4_movesLeftMayBeMade_49 rfl (lv_at hl 2 rfl) ?_
          obtain ⟨v_8, hv_8, hJ⟩ := j_b hJ
          refine ro_i (va_runV (As := [.int x2_2]) (rest := []) ⟨hx, hb, hml, hown, hts⟩ (c_X3_placeBehind l D aW aMv aPl cMv cPl cnt mde stn nMv mv nPl pl x2_2 tX tY H.size F v_8 hv_8) (cwV 1 hts gX4_movesLeftMayBeMade_X3_placeBehind rfl rfl rfl (by decide +kernel) ⟨Nat.le_of_ble_eq_true rfl, Nat.le_of_ble_eq_true rfl⟩) (preRV [.int x2_2] hP hK hS hA hST [9, 10, 11] rfl [5, 6] rfl (ci := 4) (q0 := 9) rfl rfl) rfl rfl hl.1 rfl (lv_room (Nat.le_of_ble_eq_true rfl)) dX4_movesLeftMayBeMade_50 ⟨Nat.zero_le _, Nat.zero_le _⟩) hP hS hA (fun H locs hP hS => ?_)
          refine lv_istore_n (lv' := [(1, .int v_8), (0, .ref aP), (2, .int x2_2)]) hx hb dX4_movesLeftMayBeMade_53 rfl hl (by decide) rfl (fun ls hl => ?_)
          refine lv_iinc (v := (x2_2 + (1 : Int32))) (lv' := [(2, .int (x2_2 + (1 : Int32))), (1, .int v_8), (0, .ref aP)]) hx hb dX4_movesLeftMayBeMade_54 hl (k := 2) rfl rfl (by decide) rfl (fun ls hl => ?_)
          refine lv_goto (tgt := 13) hx hb dX4_movesLeftMayBeMade_57 (by decide) ?_
          exact ih H locs v_8 (x2_2 + (1 : Int32)) v_6.2 ls hJ hP hD hS (lv_sub hl [2, 1, 0] rfl)
        · have hJ := j_t c_7 hJ
          refine lv_iconst (v := 0) hx hb dX4_movesLeftMayBeMade_43 (by decide) ?_
          have ho := Option.some.inj hJ
          exact W.zret (v := (0 : Int32)) hx hb hr rfl (fun t ht hW => ⟨⟨_, (), rfl, (by rw [← ho]), (by rw [ht, ← ho]; exact hP), (by rw [← ho]; exact hD)⟩, hS.F ht⟩) hS.2.2 dX4_movesLeftMayBeMade_44
  unfold J_X4_movesLeftMayBeMade at hJ
  refine lv_aload_n hx hb dX4_movesLeftMayBeMade_0 rfl (lv_at hl 0 rfl) ?_
  refine va_get (D := D) (ci := 5) (v := .int plc) (C := RX4) (T := TX4) (N := 11) hx hb hts iX4 hown hK hP 0 rfl rfl 4 (by decide) k_1 (fun _ h9 => h9) rfl dX4_movesLeftMayBeMade_1 ?_
  refine lv_istore_n (lv' := [(1, .int plc), (0, .ref aP)]) hx hb dX4_movesLeftMayBeMade_4 rfl hl (by decide) rfl (fun ls hl => ?_)
  refine lv_aload_n hx hb dX4_movesLeftMayBeMade_5 rfl (lv_at hl 1 rfl) ?_
  refine va_get (D := D) (ci := 5) (v := .ref aW) (C := RX4) (T := TX4) (N := 11) hx hb hts iX4 hown hK hP 0 rfl rfl 3 (by decide) k_2 (fun _ h9 => h9) rfl dX4_movesLeftMayBeMade_6 ?_
  refine va_getN (D := D) (ci := 4) (v := .int mde) (C := RX3) (T := TX3) (N := 5) hx hb hts iX3 hown hK hP 9 rfl rfl 3 (by decide) (va_Nw.use rfl (hST.1.2.2.2.2.1)) (fun _ h9 => h9) rfl dX4_movesLeftMayBeMade_9 ?_
  refine lv_istore_n (lv' := [(2, .int mde), (1, .int plc), (0, .ref aP)]) hx hb dX4_movesLeftMayBeMade_12 rfl hl (by decide) rfl (fun ls hl => ?_)
  refine L_13 _ ?_ F s.heap [] plc mde kn ls hJ hP hD hS (lv_sub hl [2, 1, 0] rfl)
  · intro H locs x1_9 x2_10 xkn_11 ls hJ hP hD hS hl
    refine lv_iconst (v := 1) hx hb dX4_movesLeftMayBeMade_60 (by decide) ?_
    have ho := Option.some.inj hJ
    exact W.zret (v := (1 : Int32)) hx hb hr rfl (fun t ht hW => ⟨⟨_, (), rfl, (by rw [← ho]), (by rw [ht, ← ho]; exact hP), (by rw [← ho]; exact hD)⟩, hS.F ht⟩) hS.2.2 dX4_movesLeftMayBeMade_61
set_option maxHeartbeats 4000000 in
set_option maxRecDepth 100000 in
theorem c_X4_plan (l : Launch) (D : va_G) (aP aS aCo aQu aC aKn aF aFu aFk aW aMv aPl : Nat) (cCo cQu cKn cFu cFk cMv cPl : ClassId) (plc : Int32) (hom : Int32) (gol : Int32) (stp : Int64) (exa : Int32) (hld : Int32) (err : UInt64) (rch : Int32) (nCo : Nat) (co : Nat → Int64) (nQu : Nat) (qu : Nat → Int32) (ln : Int32) (wd : Int32) (rd : Int32) (nKn : Nat) (kn : Nat → Int32) (w : Int32) (ht : Int32) (tn : Int32) (kp : Int32) (nFu : Nat) (fu : Nat → Int32) (nFk : Nat) (fk : Nat → Int32) (cnt : Int32) (mde : Int32) (stn : Int32) (nMv : Nat) (mv : Nat → Int32) (nPl : Nat) (pl : Nat → Int32) (tX tY sz F : Nat) (o : Int32 × Int32 × (Nat → Int64) × (Nat → Int32) × (Nat → Int32) × Int32 × Int32 × Int32 × (Nat → Int32) × (Nat → Int32)) (hJ : J_X4_plan F plc gol stp nCo co nQu qu ln wd rd nKn kn w ht tn nFk fk nMv mv nPl pl = some o) : Met l yX4_plan wsX4_plan rmX4_plan (va_Pc [.ref aP] (pcW D [(aP, .inr (5, [.ref aF, .ref aC, .ref aS, .ref aW, .int plc, .int hom, .int gol, .long stp, .int exa, .int hld, .double err])), (aS, .inr (3, [.ref aC, .ref aCo, .ref aQu, .int rch])), (aCo, .inl (cCo, nCo, .inr (.inl co))), (aQu, .inl (cQu, nQu, .inl qu)), (aC, .inr (1, [.ref aF, .ref aKn, .int ln, .int wd, .int rd])), (aKn, .inl (cKn, nKn, .inl kn)), (aF, .inr (2, [.int w, .int ht, .int tn, .ref aFu, .ref aFk, .int kp])), (aFu, .inl (cFu, nFu, .inl fu)), (aFk, .inl (cFk, nFk, .inl fk)), (aW, .inr (4, [.ref aMv, .ref aPl, .int cnt, .int mde, .int stn])), (aMv, .inl (cMv, nMv, .inl mv)), (aPl, .inl (cPl, nPl, .inl pl))] [(cCo, .long), (cQu, .int), (cKn, .int), (cFu, .boolean), (cFk, .int), (cMv, .int), (cPl, .int)] sz tX tY)) (qWv D [(aP, .inr (5, [.ref aF, .ref aC, .ref aS, .ref aW, .int plc, .int hom, .int gol, .long stp, .int o.1, .int hld, .double err])), (aS, .inr (3, [.ref aC, .ref aCo, .ref aQu, .int o.2.1])), (aCo, .inl (cCo, nCo, .inr (.inl o.2.2.1))), (aQu, .inl (cQu, nQu, .inl o.2.2.2.1)), (aC, .inr (1, [.ref aF, .ref aKn, .int ln, .int wd, .int rd])), (aKn, .inl (cKn, nKn, .inl o.2.2.2.2.1)), (aF, .inr (2, [.int w, .int ht, .int tn, .ref aFu, .ref aFk, .int kp])), (aFu, .inl (cFu, nFu, .inl fu)), (aFk, .inl (cFk, nFk, .inl fk)), (aW, .inr (4, [.ref aMv, .ref aPl, .int o.2.2.2.2.2.1, .int o.2.2.2.2.2.2.1, .int o.2.2.2.2.2.2.2.1])), (aMv, .inl (cMv, nMv, .inl o.2.2.2.2.2.2.2.2.1)), (aPl, .inl (cPl, nPl, .inl o.2.2.2.2.2.2.2.2.2))] (va_A [(aP, .inr (5, [.ref aF, .ref aC, .ref aS, .ref aW, .int plc, .int hom, .int gol, .long stp, .int exa, .int hld, .double err])), (aS, .inr (3, [.ref aC, .ref aCo, .ref aQu, .int rch])), (aCo, .inl (cCo, nCo, .inr (.inl co))), (aQu, .inl (cQu, nQu, .inl qu)), (aC, .inr (1, [.ref aF, .ref aKn, .int ln, .int wd, .int rd])), (aKn, .inl (cKn, nKn, .inl kn)), (aF, .inr (2, [.int w, .int ht, .int tn, .ref aFu, .ref aFk, .int kp])), (aFu, .inl (cFu, nFu, .inl fu)), (aFk, .inl (cFk, nFk, .inl fk)), (aW, .inr (4, [.ref aMv, .ref aPl, .int cnt, .int mde, .int stn])), (aMv, .inl (cMv, nMv, .inl mv)), (aPl, .inl (cPl, nPl, .inl pl))] sz)) 0 0 (va_A [(aP, .inr (5, [.ref aF, .ref aC, .ref aS, .ref aW, .int plc, .int hom, .int gol, .long stp, .int exa, .int hld, .double err])), (aS, .inr (3, [.ref aC, .ref aCo, .ref aQu, .int rch])), (aCo, .inl (cCo, nCo, .inr (.inl co))), (aQu, .inl (cQu, nQu, .inl qu)), (aC, .inr (1, [.ref aF, .ref aKn, .int ln, .int wd, .int rd])), (aKn, .inl (cKn, nKn, .inl kn)), (aF, .inr (2, [.int w, .int ht, .int tn, .ref aFu, .ref aFk, .int kp])), (aFu, .inl (cFu, nFu, .inl fu)), (aFk, .inl (cFk, nFk, .inl fk)), (aW, .inr (4, [.ref aMv, .ref aPl, .int cnt, .int mde, .int stn])), (aMv, .inl (cMv, nMv, .inl mv)), (aPl, .inl (cPl, nPl, .inl pl))] sz) := by
  refine Met.ofW (cc := cX4_plan) (maxL := 5) (ret := none) (by decide) rfl ?_
  intro p e s m args below meth c s₁ B hml hv
  obtain ⟨rfl, hsz, hP, hK, hD0, hST⟩ := hv
  have hx := B.exec
  have hb := B.bytes
  have hr := B.returns
  have hts := atoms_spec (ws := wsX4_plan) B.pre
  have hown : s.vm.findClass RX4 = some m.cls := findClass_of_methodNamed B.named
  have hlocks := B.notSynchronized
  subst hsz
  have hD := hD0.self (sz := s.heap.size)
  generalize hAe : va_A [(aP, .inr (5, [.ref aF, .ref aC, .ref aS, .ref aW, .int plc, .int hom, .int gol, .long stp, .int exa, .int hld, .double err])), (aS, .inr (3, [.ref aC, .ref aCo, .ref aQu, .int rch])), (aCo, .inl (cCo, nCo, .inr (.inl co))), (aQu, .inl (cQu, nQu, .inl qu)), (aC, .inr (1, [.ref aF, .ref aKn, .int ln, .int wd, .int rd])), (aKn, .inl (cKn, nKn, .inl kn)), (aF, .inr (2, [.int w, .int ht, .int tn, .ref aFu, .ref aFk, .int kp])), (aFu, .inl (cFu, nFu, .inl fu)), (aFk, .inl (cFk, nFk, .inl fk)), (aW, .inr (4, [.ref aMv, .ref aPl, .int cnt, .int mde, .int stn])), (aMv, .inl (cMv, nMv, .inl mv)), (aPl, .inl (cPl, nPl, .inl pl))] s.heap.size = A at hD hST ⊢
  have hA : ∀ q : Nat, s.heap.size ≤ q → A q := fun q h => by rw [← hAe]; exact Or.inr h
  have hS : va_S A s.heap s.heap [] := va_S.rf
  have hl := lv_entry ([.ref aP]) (n := 5) (Nat.le_of_ble_eq_true rfl)
  rw [lg_entry_eq]
  generalize (lg_sl ([.ref aP]) ++ List.replicate (5 - (lg_sl ([.ref aP])).length) Slot.unset).toArray = ls at hl ⊢
  have hl : lv_has ls 5 [(0, .ref aP)] := hl
  have iX2 : ∀ w ∈ wsX20, w ∈ wsX4_plan := fun w h => List.mem_cons_of_mem _ (List.mem_append_left _ (List.mem_append_left _ (List.mem_append_left _ (List.mem_append_right _ h))))
  have iX3 : ∀ w ∈ wsX30, w ∈ wsX4_plan := fun w h => List.mem_cons_of_mem _ (List.mem_append_left _ (List.mem_append_left _ (List.mem_append_right _ h)))
  have iX4 : ∀ w ∈ wsX40, w ∈ wsX4_plan := fun w h => List.mem_cons_of_mem _ (List.mem_append_left _ (List.mem_append_left _ (List.mem_append_left _ (List.mem_append_left _ (List.mem_append_right _ h)))))
  have k_1 := hts (.fieldLink RX4 53 "ParkWays" "way" "LParkWays$Way;") (List.mem_of_getElem? (i := 1) rfl)
  have k_2 := hts (.fieldLink RX4 44 "ParkWays" "search" "LParkWays$Search;") (List.mem_of_getElem? (i := 2) rfl)
  have k_3 := hts (.fieldLink RX4 122 "ParkWays" "goal" "I") (List.mem_of_getElem? (i := 3) rfl)
  have k_4 := hts (.fieldLink RX4 103 "ParkWays" "place" "I") (List.mem_of_getElem? (i := 4) rfl)
  have k_5 := hts (.fieldLink RX4 125 "ParkWays" "steps" "J") (List.mem_of_getElem? (i := 5) rfl)
  have k_6 := hts (.fieldLink RX4 132 "ParkWays" "exact" "Z") (List.mem_of_getElem? (i := 6) rfl)
  have k_7 := hts (.fieldLink RX4 31 "ParkWays" "car" "LParkWays$Car;") (List.mem_of_getElem? (i := 7) rfl)
  have L_117 : ∀ (yexa_9 : Int32) (yrch_10 : Int32) (yco_11 : Nat → Int64) (yqu_12 : Nat → Int32) (ymde_15 : Int32) (ystn_16 : Int32) (kk_183 : Int32 → Int32 → (Nat → Int32) → Int32 → (Nat → Int32) → (Nat → Int32) → Option (Int32 × Int32 × (Nat → Int64) × (Nat → Int32) × (Nat → Int32) × Int32 × Int32 × Int32 × (Nat → Int32) × (Nat → Int32))) (hkk_183 : ∀ (H : Heap) (locs : List Loc) (x2_7 : Int32) (x3_8 : Int32) (xkn_13 : Nat → Int32) (xcnt_14 : Int32) (xmv_17 : Nat → Int32) (xpl_18 : Nat → Int32) (ls : Array Slot), kk_183 x2_7 x3_8 xkn_13 xcnt_14 xmv_17 xpl_18 = some o → va_P D vwCl [(aP, .inr (5, [.ref aF, .ref aC, .ref aS, .ref aW, .int plc, .int hom, .int gol, .long stp, .int yexa_9, .int hld, .double err])), (aS, .inr (3, [.ref aC, .ref aCo, .ref aQu, .int yrch_10])), (aCo, .inl (cCo, nCo, .inr (.inl yco_11))), (aQu, .inl (cQu, nQu, .inl yqu_12)), (aC, .inr (1, [.ref aF, .ref aKn, .int ln, .int wd, .int rd])), (aKn, .inl (cKn, nKn, .inl xkn_13)), (aF, .inr (2, [.int w, .int ht, .int tn, .ref aFu, .ref aFk, .int kp])), (aFu, .inl (cFu, nFu, .inl fu)), (aFk, .inl (cFk, nFk, .inl fk)), (aW, .inr (4, [.ref aMv, .ref aPl, .int xcnt_14, .int ymde_15, .int ystn_16])), (aMv, .inl (cMv, nMv, .inl xmv_17)), (aPl, .inl (cPl, nPl, .inl xpl_18))] H → va_D A [(aP, .inr (5, [.ref aF, .ref aC, .ref aS, .ref aW, .int plc, .int hom, .int gol, .long stp, .int yexa_9, .int hld, .double err])), (aS, .inr (3, [.ref aC, .ref aCo, .ref aQu, .int yrch_10])), (aCo, .inl (cCo, nCo, .inr (.inl yco_11))), (aQu, .inl (cQu, nQu, .inl yqu_12)), (aC, .inr (1, [.ref aF, .ref aKn, .int ln, .int wd, .int rd])), (aKn, .inl (cKn, nKn, .inl xkn_13)), (aF, .inr (2, [.int w, .int ht, .int tn, .ref aFu, .ref aFk, .int kp])), (aFu, .inl (cFu, nFu, .inl fu)), (aFk, .inl (cFk, nFk, .inl fk)), (aW, .inr (4, [.ref aMv, .ref aPl, .int xcnt_14, .int ymde_15, .int ystn_16])), (aMv, .inl (cMv, nMv, .inl xmv_17)), (aPl, .inl (cPl, nPl, .inl xpl_18))] → va_S A s.heap H locs → lv_has ls 5 [] → W p l e (headSpec wsX4_plan rmX4_plan).room s m [.ref aP].toArray below meth c H locs 0 0 (MQ below (qWv D [(aP, .inr (5, [.ref aF, .ref aC, .ref aS, .ref aW, .int plc, .int hom, .int gol, .long stp, .int o.1, .int hld, .double err])), (aS, .inr (3, [.ref aC, .ref aCo, .ref aQu, .int o.2.1])), (aCo, .inl (cCo, nCo, .inr (.inl o.2.2.1))), (aQu, .inl (cQu, nQu, .inl o.2.2.2.1)), (aC, .inr (1, [.ref aF, .ref aKn, .int ln, .int wd, .int rd])), (aKn, .inl (cKn, nKn, .inl o.2.2.2.2.1)), (aF, .inr (2, [.int w, .int ht, .int tn, .ref aFu, .ref aFk, .int kp])), (aFu, .inl (cFu, nFu, .inl fu)), (aFk, .inl (cFk, nFk, .inl fk)), (aW, .inr (4, [.ref aMv, .ref aPl, .int o.2.2.2.2.2.1, .int o.2.2.2.2.2.2.1, .int o.2.2.2.2.2.2.2.1])), (aMv, .inl (cMv, nMv, .inl o.2.2.2.2.2.2.2.2.1)), (aPl, .inl (cPl, nPl, .inl o.2.2.2.2.2.2.2.2.2))] A) [.ref aP].toArray s 0 0 A) (F0 m 183 ls [])) (fz : Nat) (H : Heap) (locs : List Loc) (x2_7 : Int32) (x3_8 : Int32) (xkn_13 : Nat → Int32) (xcnt_14 : Int32) (xmv_17 : Nat → Int32) (xpl_18 : Nat → Int32) (ls : Array Slot), J_X4_plan_L117 F gol nCo ln wd rd nKn w ht tn nFk fk nMv nPl yrch_10 yco_11 ystn_16 kk_183 fz x2_7 x3_8 xkn_13 xcnt_14 xmv_17 xpl_18 = some o → va_P D vwCl [(aP, .inr (5, [.ref aF, .ref aC, .ref aS, .ref aW, .int plc, .int hom, .int gol, .long stp, .int yexa_9, .int hld, .double err])), (aS, .inr (3, [.ref aC, .ref aCo, .ref aQu, .int yrch_10])), (aCo, .inl (cCo, nCo, .inr (.inl yco_11))), (aQu, .inl (cQu, nQu, .inl yqu_12)), (aC, .inr (1, [.ref aF, .ref aKn, .int ln, .int wd, .int rd])), (aKn, .inl (cKn, nKn, .inl xkn_13)), (aF, .inr (2, [.int w, .int ht, .int tn, .ref aFu, .ref aFk, .int kp])), (aFu, .inl (cFu, nFu, .inl fu)), (aFk, .inl (cFk, nFk, .inl fk)), (aW, .inr (4, [.ref aMv, .ref aPl, .int xcnt_14, .int ymde_15, .int ystn_16])), (aMv, .inl (cMv, nMv, .inl xmv_17)), (aPl, .inl (cPl, nPl, .inl xpl_18))] H → va_D A [(aP, .inr (5, [.ref aF, .ref aC, .ref aS, .ref aW, .int plc, .int hom, .int gol, .long stp, .int yexa_9, .int hld, .double err])), (aS, .inr (3, [.ref aC, .ref aCo, .ref aQu, .int yrch_10])), (aCo, .inl (cCo, nCo, .inr (.inl yco_11))), (aQu, .inl (cQu, nQu, .inl yqu_12)), (aC, .inr (1, [.ref aF, .ref aKn, .int ln, .int wd, .int rd])), (aKn, .inl (cKn, nKn, .inl xkn_13)), (aF, .inr (2, [.int w, .int ht, .int tn, .ref aFu, .ref aFk, .int kp])), (aFu, .inl (cFu, nFu, .inl fu)), (aFk, .inl (cFk, nFk, .inl fk)), (aW, .inr (4, [.ref aMv, .ref aPl, .int xcnt_14, .int ymde_15, .int ystn_16])), (aMv, .inl (cMv, nMv, .inl xmv_17)), (aPl, .inl (cPl, nPl, .inl xpl_18))] → va_S A s.heap H locs → lv_has ls 5 [(0, .ref aP), (2, .int x2_7), (3, .int x3_8)] → W p l e (headSpec wsX4_plan rmX4_plan).room s m [.ref aP].toArray below meth c H locs 0 0 (MQ below (qWv D [(aP, .inr (5, [.ref aF, .ref aC, .ref aS, .ref aW, .int plc, .int hom, .int gol, .long stp, .int o.1, .int hld, .double err])), (aS, .inr (3, [.ref aC, .ref aCo, .ref aQu, .int o.2.1])), (aCo, .inl (cCo, nCo, .inr (.inl o.2.2.1))), (aQu, .inl (cQu, nQu, .inl o.2.2.2.1)), (aC, .inr (1, [.ref aF, .ref aKn, .int ln, .int wd, .int rd])), (aKn, .inl (cKn, nKn, .inl o.2.2.2.2.1)), (aF, .inr (2, [.int w, .int ht, .int tn, .ref aFu, .ref aFk, .int kp])), (aFu, .inl (cFu, nFu, .inl fu)), (aFk, .inl (cFk, nFk, .inl fk)), (aW, .inr (4, [.ref aMv, .ref aPl, .int o.2.2.2.2.2.1, .int o.2.2.2.2.2.2.1, .int o.2.2.2.2.2.2.2.1])), (aMv, .inl (cMv, nMv, .inl o.2.2.2.2.2.2.2.2.1)), (aPl, .inl (cPl, nPl, .inl o.2.2.2.2.2.2.2.2.2))] A) [.ref aP].toArray s 0 0 A) (F0 m 117 ls []) := by
    intro yexa_9 yrch_10 yco_11 yqu_12 ymde_15 ystn_16 kk_183 hkk_183 fz
    induction fz with
    | zero =>
      intro H locs x2_7 x3_8 xkn_13 xcnt_14 xmv_17 xpl_18 ls hJ
      rw [J_X4_plan_L117] at hJ
      cases hJ
    | succ fz ih =>
      intro H locs x2_7 x3_8 xkn_13 xcnt_14 xmv_17 xpl_18 ls hJ hP hD hS hl
      rw [J_X4_plan_L117] at hJ
      refine lv_aload_n hx hb dX4_plan_117 rfl (lv_at hl 0 rfl) ?_
      refine va_get (D := D) (ci := 5) (v := .ref aW) (C := RX4) (T := TX4) (N := 11) hx hb hts iX4 hown hK hP 0 rfl rfl 3 (by decide) k_1 (fun _ h9 => h9) rfl dX4_plan_118 ?_
      refine va_getN (D := D) (ci := 4) (v := .int ystn_16) (C := RX3) (T := TX3) (N := 5) hx hb hts iX3 hown hK hP 9 rfl rfl 4 (by decide) (va_Nw.use rfl (hST.1.2.2.2.1)) (fun _ h9 => h9) rfl dX4_plan_121 ?_
      refine lv_if_eq (tgt := 183) hx hb dX4_plan_124 (by decide) (fun c_19 => ?_) (fun c_19 => ?_)
      · have hJ := j_t c_19 hJ
        exact hkk_183 H locs x2_7 x3_8 xkn_13 xcnt_14 xmv_17 xpl_18 ls hJ hP hD hS (lv_sub hl [] rfl)
      · have hJ := j_f c_19 hJ
        refine lv_iload_n hx hb dX4_plan_127 rfl (lv_at hl 2 rfl) ?_
        refine lv_aload_n hx hb dX4_plan_128 rfl (lv_at hl 0 rfl) ?_
        refine va_get (D := D) (ci := 5) (v := .ref aS) (C := RX4) (T := TX4) (N := 11) hx hb hts iX4 hown hK hP 0 rfl rfl 2 (by decide) k_2 (fun _ h9 => h9) rfl dX4_plan_129 ?_
        refine va_getN (D := D) (ci := 3) (v := .int yrch_10) (C := RX2) (T := TX2) (N := 4) hx hb hts iX2 hown hK hP 1 rfl rfl 3 (by decide) (va_Nw.use rfl (hST.1.2.2.2.2.2.1)) (fun _ h9 => h9) rfl dX4_plan_132 ?_
        refine lv_icmp_ge (tgt := 183) hx hb dX4_plan_135 (by decide) (fun c_20 => ?_) (fun c_20 => ?_)
        · have hJ := j_t c_20 hJ
          exact hkk_183 H locs x2_7 x3_8 xkn_13 xcnt_14 xmv_17 xpl_18 ls hJ hP hD hS (lv_sub hl [] rfl)
        · have hJ := j_f c_20 hJ
          refine lv_iload_n hx hb dX4_plan_138 rfl (lv_at hl 1 rfl) ?_
          refine lv_aload_n hx hb dX4_plan_139 rfl (lv_at hl 0 rfl) ?_
          refine va_get (D := D) (ci := 5) (v := .int gol) (C := RX4) (T := TX4) (N := 11) hx hb hts iX4 hown hK hP 0 rfl rfl 6 (by decide) k_3 (fun _ h9 => h9) rfl dX4_plan_140 ?_
          refine lv_icmp_eq (tgt := 183) hx hb dX4_plan_143 (by decide) (fun c_21 => ?_) (fun c_21 => ?_)
          · have hJ := j_t c_21 hJ
            exact hkk_183 H locs x2_7 x3_8 xkn_13 xcnt_14 xmv_17 xpl_18 ls hJ hP hD hS (lv_sub hl [] rfl)
          · have hJ := j_f c_21 hJ
            refine lv_aload_n hx hb dX4_plan_146 rfl (lv_at hl 0 rfl) ?_
            refine va_get (D := D) (ci := 5) (v := .ref aS) (C := RX4) (T := TX4) (N := 11) hx hb hts iX4 hown hK hP 0 rfl rfl 2 (by decide) k_2 (fun _ h9 => h9) rfl dX4_plan_147 ?_
            refine lv_iload_n hx hb dX4_plan_150 rfl (lv_at hl 1 rfl) ?_
            obtain ⟨v_22, hv_22, hJ⟩ := j_b hJ
            refine wr_i (wr := [(aP, .inr (5, [.ref aF, .ref aC, .ref aS, .ref aW, .int plc, .int hom, .int gol, .long stp, .int yexa_9, .int hld, .double err])), (aW, .inr (4, [.ref aMv, .ref aPl, .int xcnt_14, .int ymde_15, .int ystn_16])), (aMv, .inl (cMv, nMv, .inl xmv_17)), (aPl, .inl (cPl, nPl, .inl xpl_18))]) (wn := [(aP, .inr (5, [.ref aF, .ref aC, .ref aS, .ref aW, .int plc, .int hom, .int gol, .long stp, .int yexa_9, .int hld, .double err])), (aS, .inr (3, [.ref aC, .ref aCo, .ref aQu, .int yrch_10])), (aCo, .inl (cCo, nCo, .inr (.inl yco_11))), (aQu, .inl (cQu, nQu, .inl yqu_12)), (aC, .inr (1, [.ref aF, .ref aKn, .int ln, .int wd, .int rd])), (aKn, .inl (cKn, nKn, .inl v_22.2)), (aF, .inr (2, [.int w, .int ht, .int tn, .ref aFu, .ref aFk, .int kp])), (aFu, .inl (cFu, nFu, .inl fu)), (aFk, .inl (cFk, nFk, .inl fk)), (aW, .inr (4, [.ref aMv, .ref aPl, .int xcnt_14, .int ymde_15, .int ystn_16])), (aMv, .inl (cMv, nMv, .inl xmv_17)), (aPl, .inl (cPl, nPl, .inl xpl_18))]) (va_runV (As := [.int x2_7]) (rest := []) ⟨hx, hb, hml, hown, hts⟩ (c_X2_firstMoveFrom l D aS aCo aQu aC aKn aF aFu aFk cCo cQu cKn cFu cFk yrch_10 nCo yco_11 nQu yqu_12 ln wd rd nKn xkn_13 w ht tn kp nFu fu nFk fk x2_7 tX tY H.size F v_22 hv_22) (cwV 1 hts gX4_plan_X2_firstMoveFrom rfl rfl rfl (by decide +kernel) ⟨Nat.le_of_ble_eq_true rfl, Nat.le_of_ble_eq_true rfl⟩) (preWV [.int x2_7] hP hD hK hS hA hST [1, 2, 3, 4, 5, 6, 7, 8] rfl rfl rfl [0, 1, 2, 3, 4] rfl (ci := 3) (q0 := 1) rfl rfl) rfl rfl hl.1 rfl (lv_room (Nat.le_of_ble_eq_true rfl)) dX4_plan_151 ⟨Nat.zero_le _, Nat.zero_le _⟩) hP hD hS hA [1, 2, 3, 4, 5, 6, 7, 8] [0, 9, 10, 11] rfl rfl rfl (by decide) [0, 4, 5, 6, 7, 8, 9, 10, 11, 1, 2, 3] rfl rfl rfl (fun H locs hP hD hS => ?_)
            refine lv_istore (lv' := [(4, .int v_22.1), (0, .ref aP), (2, .int x2_7), (3, .int x3_8)]) hx hb dX4_plan_154 hl (by decide) rfl (fun ls hl => ?_)
            refine lv_aload_n hx hb dX4_plan_156 rfl (lv_at hl 1 rfl) ?_
            refine va_get (D := D) (ci := 5) (v := .ref aC) (C := RX4) (T := TX4) (N := 11) hx hb hts iX4 hown hK hP 0 rfl rfl 1 (by decide) k_7 (fun _ h9 => h9) rfl dX4_plan_157 ?_
            refine lv_iload_n hx hb dX4_plan_160 rfl (lv_at hl 2 rfl) ?_
            refine lv_iload hx hb dX4_plan_161 (lv_at hl 0 rfl) ?_
            obtain ⟨v_23, hv_23, hJ⟩ := j_b hJ
            refine ro_i (va_runV (As := [.int x2_7, .int v_22.1]) (rest := []) ⟨hx, hb, hml, hown, hts⟩ (c_X0_landing l D aC aKn aF aFu aFk cKn cFu cFk ln wd rd nKn v_22.2 w ht tn kp nFu fu nFk fk x2_7 v_22.1 tX tY H.size F v_23 hv_23) (cwV 2 hts gX4_plan_X0_landing rfl rfl rfl (by decide +kernel) ⟨Nat.le_of_ble_eq_true rfl, Nat.le_of_ble_eq_true rfl⟩) (preRV [.int x2_7, .int v_22.1] hP hK hS hA hST [4, 5, 6, 7, 8] rfl [2, 3, 4] rfl (ci := 1) (q0 := 4) rfl rfl) rfl rfl hl.1 rfl (lv_room (Nat.le_of_ble_eq_true rfl)) dX4_plan_163 ⟨Nat.zero_le _, Nat.zero_le _⟩) hP hS hA (fun H locs hP hS => ?_)
            refine lv_istore_n (lv' := [(2, .int v_23), (4, .int v_22.1), (0, .ref aP), (3, .int x3_8)]) hx hb dX4_plan_166 rfl hl (by decide) rfl (fun ls hl => ?_)
            refine lv_aload_n hx hb dX4_plan_167 rfl (lv_at hl 2 rfl) ?_
            refine va_get (D := D) (ci := 5) (v := .ref aW) (C := RX4) (T := TX4) (N := 11) hx hb hts iX4 hown hK hP 0 rfl rfl 3 (by decide) k_1 (fun _ h9 => h9) rfl dX4_plan_168 ?_
            refine lv_iload hx hb dX4_plan_171 (lv_at hl 1 rfl) ?_
            refine lv_iload_n hx hb dX4_plan_173 rfl (lv_at hl 0 rfl) ?_
            obtain ⟨v_24, hv_24, hJ⟩ := j_b hJ
            refine wr_v (wr := [(aP, .inr (5, [.ref aF, .ref aC, .ref aS, .ref aW, .int plc, .int hom, .int gol, .long stp, .int yexa_9, .int hld, .double err])), (aS, .inr (3, [.ref aC, .ref aCo, .ref aQu, .int yrch_10])), (aCo, .inl (cCo, nCo, .inr (.inl yco_11))), (aQu, .inl (cQu, nQu, .inl yqu_12)), (aC, .inr (1, [.ref aF, .ref aKn, .int ln, .int wd, .int rd])), (aKn, .inl (cKn, nKn, .inl v_22.2)), (aF, .inr (2, [.int w, .int ht, .int tn, .ref aFu, .ref aFk, .int kp])), (aFu, .inl (cFu, nFu, .inl fu)), (aFk, .inl (cFk, nFk, .inl fk))]) (wn := [(aP, .inr (5, [.ref aF, .ref aC, .ref aS, .ref aW, .int plc, .int hom, .int gol, .long stp, .int yexa_9, .int hld, .double err])), (aS, .inr (3, [.ref aC, .ref aCo, .ref aQu, .int yrch_10])), (aCo, .inl (cCo, nCo, .inr (.inl yco_11))), (aQu, .inl (cQu, nQu, .inl yqu_12)), (aC, .inr (1, [.ref aF, .ref aKn, .int ln, .int wd, .int rd])), (aKn, .inl (cKn, nKn, .inl v_22.2)), (aF, .inr (2, [.int w, .int ht, .int tn, .ref aFu, .ref aFk, .int kp])), (aFu, .inl (cFu, nFu, .inl fu)), (aFk, .inl (cFk, nFk, .inl fk)), (aW, .inr (4, [.ref aMv, .ref aPl, .int v_24.1, .int ymde_15, .int ystn_16])), (aMv, .inl (cMv, nMv, .inl v_24.2.1)), (aPl, .inl (cPl, nPl, .inl v_24.2.2))]) (va_runV (As := [.int v_22.1, .int v_23]) (rest := []) ⟨hx, hb, hml, hown, hts⟩ (c_X3_add l D aW aMv aPl cMv cPl xcnt_14 ymde_15 ystn_16 nMv xmv_17 nPl xpl_18 v_22.1 v_23 tX tY H.size F v_24 hv_24) (cwV 2 hts gX4_plan_X3_add rfl rfl rfl (by decide +kernel) ⟨Nat.le_of_ble_eq_true rfl, Nat.le_of_ble_eq_true rfl⟩) (preWV [.int v_22.1, .int v_23] hP hD hK hS hA hST [9, 10, 11] rfl rfl rfl [5, 6] rfl (ci := 4) (q0 := 9) rfl rfl) rfl rfl hl.1 rfl (lv_room (Nat.le_of_ble_eq_true rfl)) dX4_plan_174 ⟨Nat.zero_le _, Nat.zero_le _⟩) hP hD hS hA [9, 10, 11] [0, 1, 2, 3, 4, 5, 6, 7, 8] rfl rfl rfl (by decide) [0, 1, 2, 3, 4, 5, 6, 7, 8, 9, 10, 11] rfl rfl rfl (fun H locs hP hD hS => ?_)
            refine lv_iinc (v := (x3_8 + (1 : Int32))) (lv' := [(3, .int (x3_8 + (1 : Int32))), (2, .int v_23), (4, .int v_22.1), (0, .ref aP)]) hx hb dX4_plan_177 hl (k := 3) rfl rfl (by decide) rfl (fun ls hl => ?_)
            refine lv_goto (tgt := 117) hx hb dX4_plan_180 (by decide) ?_
            exact ih H locs v_23 (x3_8 + (1 : Int32)) v_22.2 v_24.1 v_24.2.1 v_24.2.2 ls hJ hP hD hS (lv_sub hl [3, 1, 0] rfl)
  unfold J_X4_plan at hJ
  refine lv_aload_n hx hb dX4_plan_0 rfl (lv_at hl 0 rfl) ?_
  refine va_get (D := D) (ci := 5) (v := .ref aW) (C := RX4) (T := TX4) (N := 11) hx hb hts iX4 hown hK hP 0 rfl rfl 3 (by decide) k_1 (fun _ h9 => h9) rfl dX4_plan_1 ?_
  obtain ⟨v_1, hv_1, hJ⟩ := j_b hJ
  refine wr_v (wr := [(aP, .inr (5, [.ref aF, .ref aC, .ref aS, .ref aW, .int plc, .int hom, .int gol, .long stp, .int exa, .int hld, .double err])), (aS, .inr (3, [.ref aC, .ref aCo, .ref aQu, .int rch])), (aCo, .inl (cCo, nCo, .inr (.inl co))), (aQu, .inl (cQu, nQu, .inl qu)), (aC, .inr (1, [.ref aF, .ref aKn, .int ln, .int wd, .int rd])), (aKn, .inl (cKn, nKn, .inl kn)), (aF, .inr (2, [.int w, .int ht, .int tn, .ref aFu, .ref aFk, .int kp])), (aFu, .inl (cFu, nFu, .inl fu)), (aFk, .inl (cFk, nFk, .inl fk))]) (wn := [(aP, .inr (5, [.ref aF, .ref aC, .ref aS, .ref aW, .int plc, .int hom, .int gol, .long stp, .int exa, .int hld, .double err])), (aS, .inr (3, [.ref aC, .ref aCo, .ref aQu, .int rch])), (aCo, .inl (cCo, nCo, .inr (.inl co))), (aQu, .inl (cQu, nQu, .inl qu)), (aC, .inr (1, [.ref aF, .ref aKn, .int ln, .int wd, .int rd])), (aKn, .inl (cKn, nKn, .inl kn)), (aF, .inr (2, [.int w, .int ht, .int tn, .ref aFu, .ref aFk, .int kp])), (aFu, .inl (cFu, nFu, .inl fu)), (aFk, .inl (cFk, nFk, .inl fk)), (aW, .inr (4, [.ref aMv, .ref aPl, .int v_1.1, .int v_1.2.1, .int v_1.2.2])), (aMv, .inl (cMv, nMv, .inl mv)), (aPl, .inl (cPl, nPl, .inl pl))]) (va_runV (As := []) (rest := []) ⟨hx, hb, hml, hown, hts⟩ (c_X3_drop l D aW aMv aPl cMv cPl cnt mde stn nMv mv nPl pl tX tY s.heap.size F v_1 hv_1) (cwV 0 hts gX4_plan_X3_drop rfl rfl rfl (by decide +kernel) ⟨Nat.le_of_ble_eq_true rfl, Nat.le_of_ble_eq_true rfl⟩) (preWV [] hP hD hK hS hA hST [9, 10, 11] rfl rfl rfl [5, 6] rfl (ci := 4) (q0 := 9) rfl rfl) rfl rfl hl.1 rfl (lv_room (Nat.le_of_ble_eq_true rfl)) dX4_plan_4 ⟨Nat.zero_le _, Nat.zero_le _⟩) hP hD hS hA [9, 10, 11] [0, 1, 2, 3, 4, 5, 6, 7, 8] rfl rfl rfl (by decide) [0, 1, 2, 3, 4, 5, 6, 7, 8, 9, 10, 11] rfl rfl rfl (fun H locs hP hD hS => ?_)
  refine lv_aload_n hx hb dX4_plan_7 rfl (lv_at hl 0 rfl) ?_
  refine va_get (D := D) (ci := 5) (v := .ref aS) (C := RX4) (T := TX4) (N := 11) hx hb hts iX4 hown hK hP 0 rfl rfl 2 (by decide) k_2 (fun _ h9 => h9) rfl dX4_plan_8 ?_
  refine lv_aload_n hx hb dX4_plan_11 rfl (lv_at hl 0 rfl) ?_
  refine va_get (D := D) (ci := 5) (v := .int gol) (C := RX4) (T := TX4) (N := 11) hx hb hts iX4 hown hK hP 0 rfl rfl 6 (by decide) k_3 (fun _ h9 => h9) rfl dX4_plan_12 ?_
  obtain ⟨v_2, hv_2, hJ⟩ := j_b hJ
  refine wr_v (wr := [(aP, .inr (5, [.ref aF, .ref aC, .ref aS, .ref aW, .int plc, .int hom, .int gol, .long stp, .int exa, .int hld, .double err])), (aW, .inr (4, [.ref aMv, .ref aPl, .int v_1.1, .int v_1.2.1, .int v_1.2.2])), (aMv, .inl (cMv, nMv, .inl mv)), (aPl, .inl (cPl, nPl, .inl pl))]) (wn := [(aP, .inr (5, [.ref aF, .ref aC, .ref aS, .ref aW, .int plc, .int hom, .int gol, .long stp, .int exa, .int hld, .double err])), (aS, .inr (3, [.ref aC, .ref aCo, .ref aQu, .int v_2.1])), (aCo, .inl (cCo, nCo, .inr (.inl v_2.2.1))), (aQu, .inl (cQu, nQu, .inl v_2.2.2.1)), (aC, .inr (1, [.ref aF, .ref aKn, .int ln, .int wd, .int rd])), (aKn, .inl (cKn, nKn, .inl v_2.2.2.2)), (aF, .inr (2, [.int w, .int ht, .int tn, .ref aFu, .ref aFk, .int kp])), (aFu, .inl (cFu, nFu, .inl fu)), (aFk, .inl (cFk, nFk, .inl fk)), (aW, .inr (4, [.ref aMv, .ref aPl, .int v_1.1, .int v_1.2.1, .int v_1.2.2])), (aMv, .inl (cMv, nMv, .inl mv)), (aPl, .inl (cPl, nPl, .inl pl))]) (va_runV (As := [.int gol]) (rest := []) ⟨hx, hb, hml, hown, hts⟩ (c_X2_spreadFrom l D aS aCo aQu aC aKn aF aFu aFk cCo cQu cKn cFu cFk rch nCo co nQu qu ln wd rd nKn kn w ht tn kp nFu fu nFk fk gol tX tY H.size F v_2 hv_2) (cwV 1 hts gX4_plan_X2_spreadFrom rfl rfl rfl (by decide +kernel) ⟨Nat.le_of_ble_eq_true rfl, Nat.le_of_ble_eq_true rfl⟩) (preWV [.int gol] hP hD hK hS hA hST [1, 2, 3, 4, 5, 6, 7, 8] rfl rfl rfl [0, 1, 2, 3, 4] rfl (ci := 3) (q0 := 1) rfl rfl) rfl rfl hl.1 rfl (lv_room (Nat.le_of_ble_eq_true rfl)) dX4_plan_15 ⟨Nat.zero_le _, Nat.zero_le _⟩) hP hD hS hA [1, 2, 3, 4, 5, 6, 7, 8] [0, 9, 10, 11] rfl rfl rfl (by decide) [0, 4, 5, 6, 7, 8, 9, 10, 11, 1, 2, 3] rfl rfl rfl (fun H locs hP hD hS => ?_)
  refine lv_aload_n hx hb dX4_plan_18 rfl (lv_at hl 0 rfl) ?_
  refine va_get (D := D) (ci := 5) (v := .ref aS) (C := RX4) (T := TX4) (N := 11) hx hb hts iX4 hown hK hP 0 rfl rfl 2 (by decide) k_2 (fun _ h9 => h9) rfl dX4_plan_19 ?_
  refine lv_aload_n hx hb dX4_plan_22 rfl (lv_at hl 0 rfl) ?_
  refine va_get (D := D) (ci := 5) (v := .int plc) (C := RX4) (T := TX4) (N := 11) hx hb hts iX4 hown hK hP 0 rfl rfl 4 (by decide) k_4 (fun _ h9 => h9) rfl dX4_plan_23 ?_
  obtain ⟨v_3, hv_3, hJ⟩ := j_b hJ
  refine ro_i (va_runV (As := [.int plc]) (rest := []) ⟨hx, hb, hml, hown, hts⟩ (c_X2_hasReached l D aS aCo aQu aC aKn aF aFu aFk cCo cQu cKn cFu cFk v_2.1 nCo v_2.2.1 nQu v_2.2.2.1 ln wd rd nKn v_2.2.2.2 w ht tn kp nFu fu nFk fk plc tX tY H.size F v_3 hv_3) (cwV 1 hts gX4_plan_X2_hasReached rfl rfl rfl (by decide +kernel) ⟨Nat.le_of_ble_eq_true rfl, Nat.le_of_ble_eq_true rfl⟩) (preRV [.int plc] hP hK hS hA hST [1, 2, 3, 4, 5, 6, 7, 8] rfl [0, 1, 2, 3, 4] rfl (ci := 3) (q0 := 1) rfl rfl) rfl rfl hl.1 rfl (lv_room (Nat.le_of_ble_eq_true rfl)) dX4_plan_26 ⟨Nat.zero_le _, Nat.zero_le _⟩) hP hS hA (fun H locs hP hS => ?_)
  refine lv_istore_n (lv' := [(1, .int v_3), (0, .ref aP)]) hx hb dX4_plan_29 rfl hl (by decide) rfl (fun ls hl => ?_)
  refine lv_aload_n hx hb dX4_plan_30 rfl (lv_at hl 1 rfl) ?_
  refine lv_iload_n hx hb dX4_plan_31 rfl (lv_at hl 0 rfl) ?_
  refine lv_if_eq (tgt := 63) hx hb dX4_plan_32 (by decide) (fun c_4 => ?_) (fun c_4 => ?_)
  · have hJ := j_t c_4 hJ
    refine lv_aload_n hx hb dX4_plan_63 rfl (lv_at hl 1 rfl) ?_
    refine va_get (D := D) (ci := 5) (v := .ref aS) (C := RX4) (T := TX4) (N := 11) hx hb hts iX4 hown hK hP 0 rfl rfl 2 (by decide) k_2 (fun _ h9 => h9) rfl dX4_plan_64 ?_
    refine va_getN (D := D) (ci := 3) (v := .int v_2.1) (C := RX2) (T := TX2) (N := 4) hx hb hts iX2 hown hK hP 1 rfl rfl 3 (by decide) (va_Nw.use rfl (hST.1.2.2.2.2.2.1)) (fun _ h9 => h9) rfl dX4_plan_67 ?_
    refine lv_i2l hx hb dX4_plan_70 rfl ?_
    refine lv_aload_n hx hb dX4_plan_71 rfl (lv_at hl 1 rfl) ?_
    refine va_get (D := D) (ci := 5) (v := .long stp) (C := RX4) (T := TX4) (N := 11) hx hb hts iX4 hown hK hP 0 rfl rfl 7 (by decide) k_5 (fun _ h9 => h9) rfl dX4_plan_72 ?_
    refine W.lcmp hx hb dX4_plan_75 ?_
    refine lv_if_gt (tgt := 83) hx hb dX4_plan_76 (by decide) (fun c_5 => ?_) (fun c_5 => ?_)
    · have hJ := j_t c_5 hJ
      refine lv_iconst (v := 0) hx hb dX4_plan_83 (by decide) ?_
      refine va_put (D := D) (ci := 5) (v := .int (0 : Int32)) (ty := .boolean) (C := RX4) (T := TX4) (N := 11) hx hb hts iX4 tyX4 tyX4_ok nmX4 hown hK hP hD hS 0 rfl rfl 8 (by decide) k_6 (fun _ h9 => h9) rfl (by decide +kernel) rfl rfl (Nat.le_of_ble_eq_true rfl) dX4_plan_84 (fun H locs hP hD hS => ?_)
      have hP : va_P D vwCl [(aP, .inr (5, [.ref aF, .ref aC, .ref aS, .ref aW, .int plc, .int hom, .int gol, .long stp, .int (0 : Int32), .int hld, .double err])), (aS, .inr (3, [.ref aC, .ref aCo, .ref aQu, .int v_2.1])), (aCo, .inl (cCo, nCo, .inr (.inl v_2.2.1))), (aQu, .inl (cQu, nQu, .inl v_2.2.2.1)), (aC, .inr (1, [.ref aF, .ref aKn, .int ln, .int wd, .int rd])), (aKn, .inl (cKn, nKn, .inl v_2.2.2.2)), (aF, .inr (2, [.int w, .int ht, .int tn, .ref aFu, .ref aFk, .int kp])), (aFu, .inl (cFu, nFu, .inl fu)), (aFk, .inl (cFk, nFk, .inl fk)), (aW, .inr (4, [.ref aMv, .ref aPl, .int v_1.1, .int v_1.2.1, .int v_1.2.2])), (aMv, .inl (cMv, nMv, .inl mv)), (aPl, .inl (cPl, nPl, .inl pl))] H := hP
      have hD : va_D A [(aP, .inr (5, [.ref aF, .ref aC, .ref aS, .ref aW, .int plc, .int hom, .int gol, .long stp, .int (0 : Int32), .int hld, .double err])), (aS, .inr (3, [.ref aC, .ref aCo, .ref aQu, .int v_2.1])), (aCo, .inl (cCo, nCo, .inr (.inl v_2.2.1))), (aQu, .inl (cQu, nQu, .inl v_2.2.2.1)), (aC, .inr (1, [.ref aF, .ref aKn, .int ln, .int wd, .int rd])), (aKn, .inl (cKn, nKn, .inl v_2.2.2.2)), (aF, .inr (2, [.int w, .int ht, .int tn, .ref aFu, .ref aFk, .int kp])), (aFu, .inl (cFu, nFu, .inl fu)), (aFk, .inl (cFk, nFk, .inl fk)), (aW, .inr (4, [.ref aMv, .ref aPl, .int v_1.1, .int v_1.2.1, .int v_1.2.2])), (aMv, .inl (cMv, nMv, .inl mv)), (aPl, .inl (cPl, nPl, .inl pl))] := hD
      refine lv_aload_n hx hb dX4_plan_87 rfl (lv_at hl 1 rfl) ?_
      refine va_get (D := D) (ci := 5) (v := .ref aW) (C := RX4) (T := TX4) (N := 11) hx hb hts iX4 hown hK hP 0 rfl rfl 3 (by decide) k_1 (fun _ h9 => h9) rfl dX4_plan_88 ?_
      refine lv_aload_n hx hb dX4_plan_91 rfl (lv_at hl 1 rfl) ?_
      refine va_get (D := D) (ci := 5) (v := .int (0 : Int32)) (C := RX4) (T := TX4) (N := 11) hx hb hts iX4 hown hK hP 0 rfl rfl 8 (by decide) k_6 (fun _ h9 => h9) rfl dX4_plan_92 ?_
      refine lv_if_eq (tgt := 106) hx hb dX4_plan_95 (by decide) (fun c_6 => ?_) (fun c_6 => absurd (by decide) c_6)
      refine lv_iconst (v := 0) hx hb dX4_plan_106 (by decide) ?_
      refine va_putN (D := D) (ci := 4) (v := .int (0 : Int32)) (ty := .boolean) (C := RX3) (T := TX3) (N := 5) hx hb hts iX3 tyX3 tyX3_ok nmX3 hown hK hP hD hS 9 rfl rfl 4 (by decide) (va_Nw.use rfl (hST.1.2.2.2.1)) (fun _ h9 => h9) rfl (by decide +kernel) rfl rfl (Nat.le_of_ble_eq_true rfl) dX4_plan_107 (fun H locs hP hD hS => ?_)
      have hP : va_P D vwCl [(aP, .inr (5, [.ref aF, .ref aC, .ref aS, .ref aW, .int plc, .int hom, .int gol, .long stp, .int (0 : Int32), .int hld, .double err])), (aS, .inr (3, [.ref aC, .ref aCo, .ref aQu, .int v_2.1])), (aCo, .inl (cCo, nCo, .inr (.inl v_2.2.1))), (aQu, .inl (cQu, nQu, .inl v_2.2.2.1)), (aC, .inr (1, [.ref aF, .ref aKn, .int ln, .int wd, .int rd])), (aKn, .inl (cKn, nKn, .inl v_2.2.2.2)), (aF, .inr (2, [.int w, .int ht, .int tn, .ref aFu, .ref aFk, .int kp])), (aFu, .inl (cFu, nFu, .inl fu)), (aFk, .inl (cFk, nFk, .inl fk)), (aW, .inr (4, [.ref aMv, .ref aPl, .int v_1.1, .int v_1.2.1, .int (0 : Int32)])), (aMv, .inl (cMv, nMv, .inl mv)), (aPl, .inl (cPl, nPl, .inl pl))] H := hP
      have hD : va_D A [(aP, .inr (5, [.ref aF, .ref aC, .ref aS, .ref aW, .int plc, .int hom, .int gol, .long stp, .int (0 : Int32), .int hld, .double err])), (aS, .inr (3, [.ref aC, .ref aCo, .ref aQu, .int v_2.1])), (aCo, .inl (cCo, nCo, .inr (.inl v_2.2.1))), (aQu, .inl (cQu, nQu, .inl v_2.2.2.1)), (aC, .inr (1, [.ref aF, .ref aKn, .int ln, .int wd, .int rd])), (aKn, .inl (cKn, nKn, .inl v_2.2.2.2)), (aF, .inr (2, [.int w, .int ht, .int tn, .ref aFu, .ref aFk, .int kp])), (aFu, .inl (cFu, nFu, .inl fu)), (aFk, .inl (cFk, nFk, .inl fk)), (aW, .inr (4, [.ref aMv, .ref aPl, .int v_1.1, .int v_1.2.1, .int (0 : Int32)])), (aMv, .inl (cMv, nMv, .inl mv)), (aPl, .inl (cPl, nPl, .inl pl))] := hD
      refine lv_aload_n hx hb dX4_plan_110 rfl (lv_at hl 1 rfl) ?_
      refine va_get (D := D) (ci := 5) (v := .int plc) (C := RX4) (T := TX4) (N := 11) hx hb hts iX4 hown hK hP 0 rfl rfl 4 (by decide) k_4 (fun _ h9 => h9) rfl dX4_plan_111 ?_
      refine lv_istore_n (lv' := [(2, .int plc), (1, .int v_3), (0, .ref aP)]) hx hb dX4_plan_114 rfl hl (by decide) rfl (fun ls hl => ?_)
      refine lv_iconst (v := 0) hx hb dX4_plan_115 (by decide) ?_
      refine lv_istore_n (lv' := [(3, .int (0 : Int32)), (2, .int plc), (1, .int v_3), (0, .ref aP)]) hx hb dX4_plan_116 rfl hl (by decide) rfl (fun ls hl => ?_)
      refine L_117 (0 : Int32) v_2.1 v_2.2.1 v_2.2.2.1 v_1.2.1 (0 : Int32) _ ?_ F H locs plc (0 : Int32) v_2.2.2.2 v_1.1 mv pl ls hJ hP hD hS (lv_sub hl [3, 1, 0] rfl)
      · intro H locs x2_25 x3_26 xkn_27 xcnt_28 xmv_29 xpl_30 ls hJ hP hD hS hl
        have ho := Option.some.inj hJ
        exact W.vret hx hb hr (fun t ht hW => ⟨⟨(), rfl, trivial, (by rw [ht, ← ho]; exact hP), (by rw [← ho]; exact hD)⟩, hS.F ht⟩) hS.2.2 dX4_plan_183
    · have hJ := j_f c_5 hJ
      refine lv_iconst (v := 1) hx hb dX4_plan_79 (by decide) ?_
      refine lv_goto (tgt := 84) hx hb dX4_plan_80 (by decide) ?_
      refine va_put (D := D) (ci := 5) (v := .int (1 : Int32)) (ty := .boolean) (C := RX4) (T := TX4) (N := 11) hx hb hts iX4 tyX4 tyX4_ok nmX4 hown hK hP hD hS 0 rfl rfl 8 (by decide) k_6 (fun _ h9 => h9) rfl (by decide +kernel) rfl rfl (Nat.le_of_ble_eq_true rfl) dX4_plan_84 (fun H locs hP hD hS => ?_)
      have hP : va_P D vwCl [(aP, .inr (5, [.ref aF, .ref aC, .ref aS, .ref aW, .int plc, .int hom, .int gol, .long stp, .int (1 : Int32), .int hld, .double err])), (aS, .inr (3, [.ref aC, .ref aCo, .ref aQu, .int v_2.1])), (aCo, .inl (cCo, nCo, .inr (.inl v_2.2.1))), (aQu, .inl (cQu, nQu, .inl v_2.2.2.1)), (aC, .inr (1, [.ref aF, .ref aKn, .int ln, .int wd, .int rd])), (aKn, .inl (cKn, nKn, .inl v_2.2.2.2)), (aF, .inr (2, [.int w, .int ht, .int tn, .ref aFu, .ref aFk, .int kp])), (aFu, .inl (cFu, nFu, .inl fu)), (aFk, .inl (cFk, nFk, .inl fk)), (aW, .inr (4, [.ref aMv, .ref aPl, .int v_1.1, .int v_1.2.1, .int v_1.2.2])), (aMv, .inl (cMv, nMv, .inl mv)), (aPl, .inl (cPl, nPl, .inl pl))] H := hP
      have hD : va_D A [(aP, .inr (5, [.ref aF, .ref aC, .ref aS, .ref aW, .int plc, .int hom, .int gol, .long stp, .int (1 : Int32), .int hld, .double err])), (aS, .inr (3, [.ref aC, .ref aCo, .ref aQu, .int v_2.1])), (aCo, .inl (cCo, nCo, .inr (.inl v_2.2.1))), (aQu, .inl (cQu, nQu, .inl v_2.2.2.1)), (aC, .inr (1, [.ref aF, .ref aKn, .int ln, .int wd, .int rd])), (aKn, .inl (cKn, nKn, .inl v_2.2.2.2)), (aF, .inr (2, [.int w, .int ht, .int tn, .ref aFu, .ref aFk, .int kp])), (aFu, .inl (cFu, nFu, .inl fu)), (aFk, .inl (cFk, nFk, .inl fk)), (aW, .inr (4, [.ref aMv, .ref aPl, .int v_1.1, .int v_1.2.1, .int v_1.2.2])), (aMv, .inl (cMv, nMv, .inl mv)), (aPl, .inl (cPl, nPl, .inl pl))] := hD
      refine lv_aload_n hx hb dX4_plan_87 rfl (lv_at hl 1 rfl) ?_
      refine va_get (D := D) (ci := 5) (v := .ref aW) (C := RX4) (T := TX4) (N := 11) hx hb hts iX4 hown hK hP 0 rfl rfl 3 (by decide) k_1 (fun _ h9 => h9) rfl dX4_plan_88 ?_
      refine lv_aload_n hx hb dX4_plan_91 rfl (lv_at hl 1 rfl) ?_
      refine va_get (D := D) (ci := 5) (v := .int (1 : Int32)) (C := RX4) (T := TX4) (N := 11) hx hb hts iX4 hown hK hP 0 rfl rfl 8 (by decide) k_6 (fun _ h9 => h9) rfl dX4_plan_92 ?_
      refine lv_if_eq (tgt := 106) hx hb dX4_plan_95 (by decide) (fun c_31 => absurd c_31 (by decide)) (fun c_31 => ?_)
      refine lv_iload_n hx hb dX4_plan_98 rfl (lv_at hl 0 rfl) ?_
      refine lv_if_eq (tgt := 106) hx hb dX4_plan_99 (by decide) (fun c_32 => ?_) (fun c_32 => ?_)
      · have hJ := j_t c_32 hJ
        refine lv_iconst (v := 0) hx hb dX4_plan_106 (by decide) ?_
        refine va_putN (D := D) (ci := 4) (v := .int (0 : Int32)) (ty := .boolean) (C := RX3) (T := TX3) (N := 5) hx hb hts iX3 tyX3 tyX3_ok nmX3 hown hK hP hD hS 9 rfl rfl 4 (by decide) (va_Nw.use rfl (hST.1.2.2.2.1)) (fun _ h9 => h9) rfl (by decide +kernel) rfl rfl (Nat.le_of_ble_eq_true rfl) dX4_plan_107 (fun H locs hP hD hS => ?_)
        have hP : va_P D vwCl [(aP, .inr (5, [.ref aF, .ref aC, .ref aS, .ref aW, .int plc, .int hom, .int gol, .long stp, .int (1 : Int32), .int hld, .double err])), (aS, .inr (3, [.ref aC, .ref aCo, .ref aQu, .int v_2.1])), (aCo, .inl (cCo, nCo, .inr (.inl v_2.2.1))), (aQu, .inl (cQu, nQu, .inl v_2.2.2.1)), (aC, .inr (1, [.ref aF, .ref aKn, .int ln, .int wd, .int rd])), (aKn, .inl (cKn, nKn, .inl v_2.2.2.2)), (aF, .inr (2, [.int w, .int ht, .int tn, .ref aFu, .ref aFk, .int kp])), (aFu, .inl (cFu, nFu, .inl fu)), (aFk, .inl (cFk, nFk, .inl fk)), (aW, .inr (4, [.ref aMv, .ref aPl, .int v_1.1, .int v_1.2.1, .int (0 : Int32)])), (aMv, .inl (cMv, nMv, .inl mv)), (aPl, .inl (cPl, nPl, .inl pl))] H := hP
        have hD : va_D A [(aP, .inr (5, [.ref aF, .ref aC, .ref aS, .ref aW, .int plc, .int hom, .int gol, .long stp, .int (1 : Int32), .int hld, .double err])), (aS, .inr (3, [.ref aC, .ref aCo, .ref aQu, .int v_2.1])), (aCo, .inl (cCo, nCo, .inr (.inl v_2.2.1))), (aQu, .inl (cQu, nQu, .inl v_2.2.2.1)), (aC, .inr (1, [.ref aF, .ref aKn, .int ln, .int wd, .int rd])), (aKn, .inl (cKn, nKn, .inl v_2.2.2.2)), (aF, .inr (2, [.int w, .int ht, .int tn, .ref aFu, .ref aFk, .int kp])), (aFu, .inl (cFu, nFu, .inl fu)), (aFk, .inl (cFk, nFk, .inl fk)), (aW, .inr (4, [.ref aMv, .ref aPl, .int v_1.1, .int v_1.2.1, .int (0 : Int32)])), (aMv, .inl (cMv, nMv, .inl mv)), (aPl, .inl (cPl, nPl, .inl pl))] := hD
        refine lv_aload_n hx hb dX4_plan_110 rfl (lv_at hl 1 rfl) ?_
        refine va_get (D := D) (ci := 5) (v := .int plc) (C := RX4) (T := TX4) (N := 11) hx hb hts iX4 hown hK hP 0 rfl rfl 4 (by decide) k_4 (fun _ h9 => h9) rfl dX4_plan_111 ?_
        refine lv_istore_n (lv' := [(2, .int plc), (1, .int v_3), (0, .ref aP)]) hx hb dX4_plan_114 rfl hl (by decide) rfl (fun ls hl => ?_)
        refine lv_iconst (v := 0) hx hb dX4_plan_115 (by decide) ?_
        refine lv_istore_n (lv' := [(3, .int (0 : Int32)), (2, .int plc), (1, .int v_3), (0, .ref aP)]) hx hb dX4_plan_116 rfl hl (by decide) rfl (fun ls hl => ?_)
        refine L_117 (1 : Int32) v_2.1 v_2.2.1 v_2.2.2.1 v_1.2.1 (0 : Int32) _ ?_ F H locs plc (0 : Int32) v_2.2.2.2 v_1.1 mv pl ls hJ hP hD hS (lv_sub hl [3, 1, 0] rfl)
        · intro H locs x2_33 x3_34 xkn_35 xcnt_36 xmv_37 xpl_38 ls hJ hP hD hS hl
          have ho := Option.some.inj hJ
          exact W.vret hx hb hr (fun t ht hW => ⟨⟨(), rfl, trivial, (by rw [ht, ← ho]; exact hP), (by rw [← ho]; exact hD)⟩, hS.F ht⟩) hS.2.2 dX4_plan_183
      · have hJ := j_f c_32 hJ
        refine lv_iconst (v := 1) hx hb dX4_plan_102 (by decide) ?_
        refine lv_goto (tgt := 107) hx hb dX4_plan_103 (by decide) ?_
        refine va_putN (D := D) (ci := 4) (v := .int (1 : Int32)) (ty := .boolean) (C := RX3) (T := TX3) (N := 5) hx hb hts iX3 tyX3 tyX3_ok nmX3 hown hK hP hD hS 9 rfl rfl 4 (by decide) (va_Nw.use rfl (hST.1.2.2.2.1)) (fun _ h9 => h9) rfl (by decide +kernel) rfl rfl (Nat.le_of_ble_eq_true rfl) dX4_plan_107 (fun H locs hP hD hS => ?_)
        have hP : va_P D vwCl [(aP, .inr (5, [.ref aF, .ref aC, .ref aS, .ref aW, .int plc, .int hom, .int gol, .long stp, .int (1 : Int32), .int hld, .double err])), (aS, .inr (3, [.ref aC, .ref aCo, .ref aQu, .int v_2.1])), (aCo, .inl (cCo, nCo, .inr (.inl v_2.2.1))), (aQu, .inl (cQu, nQu, .inl v_2.2.2.1)), (aC, .inr (1, [.ref aF, .ref aKn, .int ln, .int wd, .int rd])), (aKn, .inl (cKn, nKn, .inl v_2.2.2.2)), (aF, .inr (2, [.int w, .int ht, .int tn, .ref aFu, .ref aFk, .int kp])), (aFu, .inl (cFu, nFu, .inl fu)), (aFk, .inl (cFk, nFk, .inl fk)), (aW, .inr (4, [.ref aMv, .ref aPl, .int v_1.1, .int v_1.2.1, .int (1 : Int32)])), (aMv, .inl (cMv, nMv, .inl mv)), (aPl, .inl (cPl, nPl, .inl pl))] H := hP
        have hD : va_D A [(aP, .inr (5, [.ref aF, .ref aC, .ref aS, .ref aW, .int plc, .int hom, .int gol, .long stp, .int (1 : Int32), .int hld, .double err])), (aS, .inr (3, [.ref aC, .ref aCo, .ref aQu, .int v_2.1])), (aCo, .inl (cCo, nCo, .inr (.inl v_2.2.1))), (aQu, .inl (cQu, nQu, .inl v_2.2.2.1)), (aC, .inr (1, [.ref aF, .ref aKn, .int ln, .int wd, .int rd])), (aKn, .inl (cKn, nKn, .inl v_2.2.2.2)), (aF, .inr (2, [.int w, .int ht, .int tn, .ref aFu, .ref aFk, .int kp])), (aFu, .inl (cFu, nFu, .inl fu)), (aFk, .inl (cFk, nFk, .inl fk)), (aW, .inr (4, [.ref aMv, .ref aPl, .int v_1.1, .int v_1.2.1, .int (1 : Int32)])), (aMv, .inl (cMv, nMv, .inl mv)), (aPl, .inl (cPl, nPl, .inl pl))] := hD
        refine lv_aload_n hx hb dX4_plan_110 rfl (lv_at hl 1 rfl) ?_
        refine va_get (D := D) (ci := 5) (v := .int plc) (C := RX4) (T := TX4) (N := 11) hx hb hts iX4 hown hK hP 0 rfl rfl 4 (by decide) k_4 (fun _ h9 => h9) rfl dX4_plan_111 ?_
        refine lv_istore_n (lv' := [(2, .int plc), (1, .int v_3), (0, .ref aP)]) hx hb dX4_plan_114 rfl hl (by decide) rfl (fun ls hl => ?_)
        refine lv_iconst (v := 0) hx hb dX4_plan_115 (by decide) ?_
        refine lv_istore_n (lv' := [(3, .int (0 : Int32)), (2, .int plc), (1, .int v_3), (0, .ref aP)]) hx hb dX4_plan_116 rfl hl (by decide) rfl (fun ls hl => ?_)
        refine L_117 (1 : Int32) v_2.1 v_2.2.1 v_2.2.2.1 v_1.2.1 (1 : Int32) _ ?_ F H locs plc (0 : Int32) v_2.2.2.2 v_1.1 mv pl ls hJ hP hD hS (lv_sub hl [3, 1, 0] rfl)
        · intro H locs x2_39 x3_40 xkn_41 xcnt_42 xmv_43 xpl_44 ls hJ hP hD hS hl
          have ho := Option.some.inj hJ
          exact W.vret hx hb hr (fun t ht hW => ⟨⟨(), rfl, trivial, (by rw [ht, ← ho]; exact hP), (by rw [← ho]; exact hD)⟩, hS.F ht⟩) hS.2.2 dX4_plan_183
  · have hJ := j_f c_4 hJ
    refine lv_aload_n hx hb dX4_plan_35 rfl (lv_at hl 1 rfl) ?_
    refine va_get (D := D) (ci := 5) (v := .ref aS) (C := RX4) (T := TX4) (N := 11) hx hb hts iX4 hown hK hP 0 rfl rfl 2 (by decide) k_2 (fun _ h9 => h9) rfl dX4_plan_36 ?_
    refine lv_aload_n hx hb dX4_plan_39 rfl (lv_at hl 1 rfl) ?_
    refine va_get (D := D) (ci := 5) (v := .int plc) (C := RX4) (T := TX4) (N := 11) hx hb hts iX4 hown hK hP 0 rfl rfl 4 (by decide) k_4 (fun _ h9 => h9) rfl dX4_plan_40 ?_
    obtain ⟨v_45, hv_45, hJ⟩ := j_b hJ
    refine ro_i (va_runV (As := [.int plc]) (rest := [.ref aP]) ⟨hx, hb, hml, hown, hts⟩ (c_X2_takenBefore l D aS aCo aQu aC aKn aF aFu aFk cCo cQu cKn cFu cFk v_2.1 nCo v_2.2.1 nQu v_2.2.2.1 ln wd rd nKn v_2.2.2.2 w ht tn kp nFu fu nFk fk plc tX tY H.size F v_45 hv_45) (cwV 1 hts gX4_plan_X2_takenBefore rfl rfl rfl (by decide +kernel) ⟨Nat.le_of_ble_eq_true rfl, Nat.le_of_ble_eq_true rfl⟩) (preRV [.int plc] hP hK hS hA hST [1, 2, 3, 4, 5, 6, 7, 8] rfl [0, 1, 2, 3, 4] rfl (ci := 3) (q0 := 1) rfl rfl) rfl rfl hl.1 rfl (lv_room (Nat.le_of_ble_eq_true rfl)) dX4_plan_43 ⟨Nat.zero_le _, Nat.zero_le _⟩) hP hS hA (fun H locs hP hS => ?_)
    refine lv_i2l hx hb dX4_plan_46 rfl ?_
    refine lv_aload_n hx hb dX4_plan_47 rfl (lv_at hl 1 rfl) ?_
    refine va_get (D := D) (ci := 5) (v := .long stp) (C := RX4) (T := TX4) (N := 11) hx hb hts iX4 hown hK hP 0 rfl rfl 7 (by decide) k_5 (fun _ h9 => h9) rfl dX4_plan_48 ?_
    refine W.lcmp hx hb dX4_plan_51 ?_
    refine lv_if_ge (tgt := 59) hx hb dX4_plan_52 (by decide) (fun c_46 => ?_) (fun c_46 => ?_)
    · have hJ := j_t c_46 hJ
      refine lv_iconst (v := 0) hx hb dX4_plan_59 (by decide) ?_
      refine lv_goto (tgt := 84) hx hb dX4_plan_60 (by decide) ?_
      refine va_put (D := D) (ci := 5) (v := .int (0 : Int32)) (ty := .boolean) (C := RX4) (T := TX4) (N := 11) hx hb hts iX4 tyX4 tyX4_ok nmX4 hown hK hP hD hS 0 rfl rfl 8 (by decide) k_6 (fun _ h9 => h9) rfl (by decide +kernel) rfl rfl (Nat.le_of_ble_eq_true rfl) dX4_plan_84 (fun H locs hP hD hS => ?_)
      have hP : va_P D vwCl [(aP, .inr (5, [.ref aF, .ref aC, .ref aS, .ref aW, .int plc, .int hom, .int gol, .long stp, .int (0 : Int32), .int hld, .double err])), (aS, .inr (3, [.ref aC, .ref aCo, .ref aQu, .int v_2.1])), (aCo, .inl (cCo, nCo, .inr (.inl v_2.2.1))), (aQu, .inl (cQu, nQu, .inl v_2.2.2.1)), (aC, .inr (1, [.ref aF, .ref aKn, .int ln, .int wd, .int rd])), (aKn, .inl (cKn, nKn, .inl v_2.2.2.2)), (aF, .inr (2, [.int w, .int ht, .int tn, .ref aFu, .ref aFk, .int kp])), (aFu, .inl (cFu, nFu, .inl fu)), (aFk, .inl (cFk, nFk, .inl fk)), (aW, .inr (4, [.ref aMv, .ref aPl, .int v_1.1, .int v_1.2.1, .int v_1.2.2])), (aMv, .inl (cMv, nMv, .inl mv)), (aPl, .inl (cPl, nPl, .inl pl))] H := hP
      have hD : va_D A [(aP, .inr (5, [.ref aF, .ref aC, .ref aS, .ref aW, .int plc, .int hom, .int gol, .long stp, .int (0 : Int32), .int hld, .double err])), (aS, .inr (3, [.ref aC, .ref aCo, .ref aQu, .int v_2.1])), (aCo, .inl (cCo, nCo, .inr (.inl v_2.2.1))), (aQu, .inl (cQu, nQu, .inl v_2.2.2.1)), (aC, .inr (1, [.ref aF, .ref aKn, .int ln, .int wd, .int rd])), (aKn, .inl (cKn, nKn, .inl v_2.2.2.2)), (aF, .inr (2, [.int w, .int ht, .int tn, .ref aFu, .ref aFk, .int kp])), (aFu, .inl (cFu, nFu, .inl fu)), (aFk, .inl (cFk, nFk, .inl fk)), (aW, .inr (4, [.ref aMv, .ref aPl, .int v_1.1, .int v_1.2.1, .int v_1.2.2])), (aMv, .inl (cMv, nMv, .inl mv)), (aPl, .inl (cPl, nPl, .inl pl))] := hD
      refine lv_aload_n hx hb dX4_plan_87 rfl (lv_at hl 1 rfl) ?_
      refine va_get (D := D) (ci := 5) (v := .ref aW) (C := RX4) (T := TX4) (N := 11) hx hb hts iX4 hown hK hP 0 rfl rfl 3 (by decide) k_1 (fun _ h9 => h9) rfl dX4_plan_88 ?_
      refine lv_aload_n hx hb dX4_plan_91 rfl (lv_at hl 1 rfl) ?_
      refine va_get (D := D) (ci := 5) (v := .int (0 : Int32)) (C := RX4) (T := TX4) (N := 11) hx hb hts iX4 hown hK hP 0 rfl rfl 8 (by decide) k_6 (fun _ h9 => h9) rfl dX4_plan_92 ?_
      refine lv_if_eq (tgt := 106) hx hb dX4_plan_95 (by decide) (fun c_47 => ?_) (fun c_47 => absurd (by decide) c_47)
      refine lv_iconst (v := 0) hx hb dX4_plan_106 (by decide) ?_
      refine va_putN (D := D) (ci := 4) (v := .int (0 : Int32)) (ty := .boolean) (C := RX3) (T := TX3) (N := 5) hx hb hts iX3 tyX3 tyX3_ok nmX3 hown hK hP hD hS 9 rfl rfl 4 (by decide) (va_Nw.use rfl (hST.1.2.2.2.1)) (fun _ h9 => h9) rfl (by decide +kernel) rfl rfl (Nat.le_of_ble_eq_true rfl) dX4_plan_107 (fun H locs hP hD hS => ?_)
      have hP : va_P D vwCl [(aP, .inr (5, [.ref aF, .ref aC, .ref aS, .ref aW, .int plc, .int hom, .int gol, .long stp, .int (0 : Int32), .int hld, .double err])), (aS, .inr (3, [.ref aC, .ref aCo, .ref aQu, .int v_2.1])), (aCo, .inl (cCo, nCo, .inr (.inl v_2.2.1))), (aQu, .inl (cQu, nQu, .inl v_2.2.2.1)), (aC, .inr (1, [.ref aF, .ref aKn, .int ln, .int wd, .int rd])), (aKn, .inl (cKn, nKn, .inl v_2.2.2.2)), (aF, .inr (2, [.int w, .int ht, .int tn, .ref aFu, .ref aFk, .int kp])), (aFu, .inl (cFu, nFu, .inl fu)), (aFk, .inl (cFk, nFk, .inl fk)), (aW, .inr (4, [.ref aMv, .ref aPl, .int v_1.1, .int v_1.2.1, .int (0 : Int32)])), (aMv, .inl (cMv, nMv, .inl mv)), (aPl, .inl (cPl, nPl, .inl pl))] H := hP
      have hD : va_D A [(aP, .inr (5, [.ref aF, .ref aC, .ref aS, .ref aW, .int plc, .int hom, .int gol, .long stp, .int (0 : Int32), .int hld, .double err])), (aS, .inr (3, [.ref aC, .ref aCo, .ref aQu, .int v_2.1])), (aCo, .inl (cCo, nCo, .inr (.inl v_2.2.1))), (aQu, .inl (cQu, nQu, .inl v_2.2.2.1)), (aC, .inr (1, [.ref aF, .ref aKn, .int ln, .int wd, .int rd])), (aKn, .inl (cKn, nKn, .inl v_2.2.2.2)), (aF, .inr (2, [.int w, .int ht, .int tn, .ref aFu, .ref aFk, .int kp])), (aFu, .inl (cFu, nFu, .inl fu)), (aFk, .inl (cFk, nFk, .inl fk)), (aW, .inr (4, [.ref aMv, .ref aPl, .int v_1.1, .int v_1.2.1, .int (0 : Int32)])), (aMv, .inl (cMv, nMv, .inl mv)), (aPl, .inl (cPl, nPl, .inl pl))] := hD
      refine lv_aload_n hx hb dX4_plan_110 rfl (lv_at hl 1 rfl) ?_
      refine va_get (D := D) (ci := 5) (v := .int plc) (C := RX4) (T := TX4) (N := 11) hx hb hts iX4 hown hK hP 0 rfl rfl 4 (by decide) k_4 (fun _ h9 => h9) rfl dX4_plan_111 ?_
      refine lv_istore_n (lv' := [(2, .int plc), (1, .int v_3), (0, .ref aP)]) hx hb dX4_plan_114 rfl hl (by decide) rfl (fun ls hl => ?_)
      refine lv_iconst (v := 0) hx hb dX4_plan_115 (by decide) ?_
      refine lv_istore_n (lv' := [(3, .int (0 : Int32)), (2, .int plc), (1, .int v_3), (0, .ref aP)]) hx hb dX4_plan_116 rfl hl (by decide) rfl (fun ls hl => ?_)
      refine L_117 (0 : Int32) v_2.1 v_2.2.1 v_2.2.2.1 v_1.2.1 (0 : Int32) _ ?_ F H locs plc (0 : Int32) v_2.2.2.2 v_1.1 mv pl ls hJ hP hD hS (lv_sub hl [3, 1, 0] rfl)
      · intro H locs x2_48 x3_49 xkn_50 xcnt_51 xmv_52 xpl_53 ls hJ hP hD hS hl
        have ho := Option.some.inj hJ
        exact W.vret hx hb hr (fun t ht hW => ⟨⟨(), rfl, trivial, (by rw [ht, ← ho]; exact hP), (by rw [← ho]; exact hD)⟩, hS.F ht⟩) hS.2.2 dX4_plan_183
    · have hJ := j_f c_46 hJ
      refine lv_iconst (v := 1) hx hb dX4_plan_55 (by decide) ?_
      refine lv_goto (tgt := 84) hx hb dX4_plan_56 (by decide) ?_
      refine va_put (D := D) (ci := 5) (v := .int (1 : Int32)) (ty := .boolean) (C := RX4) (T := TX4) (N := 11) hx hb hts iX4 tyX4 tyX4_ok nmX4 hown hK hP hD hS 0 rfl rfl 8 (by decide) k_6 (fun _ h9 => h9) rfl (by decide +kernel) rfl rfl (Nat.le_of_ble_eq_true rfl) dX4_plan_84 (fun H locs hP hD hS => ?_)
      have hP : va_P D vwCl [(aP, .inr (5, [.ref aF, .ref aC, .ref aS, .ref aW, .int plc, .int hom, .int gol, .long stp, .int (1 : Int32), .int hld, .double err])), (aS, .inr (3, [.ref aC, .ref aCo, .ref aQu, .int v_2.1])), (aCo, .inl (cCo, nCo, .inr (.inl v_2.2.1))), (aQu, .inl (cQu, nQu, .inl v_2.2.2.1)), (aC, .inr (1, [.ref aF, .ref aKn, .int ln, .int wd, .int rd])), (aKn, .inl (cKn, nKn, .inl v_2.2.2.2)), (aF, .inr (2, [.int w, .int ht, .int tn, .ref aFu, .ref aFk, .int kp])), (aFu, .inl (cFu, nFu, .inl fu)), (aFk, .inl (cFk, nFk, .inl fk)), (aW, .inr (4, [.ref aMv, .ref aPl, .int v_1.1, .int v_1.2.1, .int v_1.2.2])), (aMv, .inl (cMv, nMv, .inl mv)), (aPl, .inl (cPl, nPl, .inl pl))] H := hP
      have hD : va_D A [(aP, .inr (5, [.ref aF, .ref aC, .ref aS, .ref aW, .int plc, .int hom, .int gol, .long stp, .int (1 : Int32), .int hld, .double err])), (aS, .inr (3, [.ref aC, .ref aCo, .ref aQu, .int v_2.1])), (aCo, .inl (cCo, nCo, .inr (.inl v_2.2.1))), (aQu, .inl (cQu, nQu, .inl v_2.2.2.1)), (aC, .inr (1, [.ref aF, .ref aKn, .int ln, .int wd, .int rd])), (aKn, .inl (cKn, nKn, .inl v_2.2.2.2)), (aF, .inr (2, [.int w, .int ht, .int tn, .ref aFu, .ref aFk, .int kp])), (aFu, .inl (cFu, nFu, .inl fu)), (aFk, .inl (cFk, nFk, .inl fk)), (aW, .inr (4, [.ref aMv, .ref aPl, .int v_1.1, .int v_1.2.1, .int v_1.2.2])), (aMv, .inl (cMv, nMv, .inl mv)), (aPl, .inl (cPl, nPl, .inl pl))] := hD
      refine lv_aload_n hx hb dX4_plan_87 rfl (lv_at hl 1 rfl) ?_
      refine va_get (D := D) (ci := 5) (v := .ref aW) (C := RX4) (T := TX4) (N := 11) hx hb hts iX4 hown hK hP 0 rfl rfl 3 (by decide) k_1 (fun _ h9 => h9) rfl dX4_plan_88 ?_
      refine lv_aload_n hx hb dX4_plan_91 rfl (lv_at hl 1 rfl) ?_
      refine va_get (D := D) (ci := 5) (v := .int (1 : Int32)) (C := RX4) (T := TX4) (N := 11) hx hb hts iX4 hown hK hP 0 rfl rfl 8 (by decide) k_6 (fun _ h9 => h9) rfl dX4_plan_92 ?_
      refine lv_if_eq (tgt := 106) hx hb dX4_plan_95 (by decide) (fun c_54 => absurd c_54 (by decide)) (fun c_54 => ?_)
      refine lv_iload_n hx hb dX4_plan_98 rfl (lv_at hl 0 rfl) ?_
      refine lv_if_eq (tgt := 106) hx hb dX4_plan_99 (by decide) (fun c_55 => ?_) (fun c_55 => ?_)
      · have hJ := j_t c_55 hJ
        refine lv_iconst (v := 0) hx hb dX4_plan_106 (by decide) ?_
        refine va_putN (D := D) (ci := 4) (v := .int (0 : Int32)) (ty := .boolean) (C := RX3) (T := TX3) (N := 5) hx hb hts iX3 tyX3 tyX3_ok nmX3 hown hK hP hD hS 9 rfl rfl 4 (by decide) (va_Nw.use rfl (hST.1.2.2.2.1)) (fun _ h9 => h9) rfl (by decide +kernel) rfl rfl (Nat.le_of_ble_eq_true rfl) dX4_plan_107 (fun H locs hP hD hS => ?_)
        have hP : va_P D vwCl [(aP, .inr (5, [.ref aF, .ref aC, .ref aS, .ref aW, .int plc, .int hom, .int gol, .long stp, .int (1 : Int32), .int hld, .double err])), (aS, .inr (3, [.ref aC, .ref aCo, .ref aQu, .int v_2.1])), (aCo, .inl (cCo, nCo, .inr (.inl v_2.2.1))), (aQu, .inl (cQu, nQu, .inl v_2.2.2.1)), (aC, .inr (1, [.ref aF, .ref aKn, .int ln, .int wd, .int rd])), (aKn, .inl (cKn, nKn, .inl v_2.2.2.2)), (aF, .inr (2, [.int w, .int ht, .int tn, .ref aFu, .ref aFk, .int kp])), (aFu, .inl (cFu, nFu, .inl fu)), (aFk, .inl (cFk, nFk, .inl fk)), (aW, .inr (4, [.ref aMv, .ref aPl, .int v_1.1, .int v_1.2.1, .int (0 : Int32)])), (aMv, .inl (cMv, nMv, .inl mv)), (aPl, .inl (cPl, nPl, .inl pl))] H := hP
        have hD : va_D A [(aP, .inr (5, [.ref aF, .ref aC, .ref aS, .ref aW, .int plc, .int hom, .int gol, .long stp, .int (1 : Int32), .int hld, .double err])), (aS, .inr (3, [.ref aC, .ref aCo, .ref aQu, .int v_2.1])), (aCo, .inl (cCo, nCo, .inr (.inl v_2.2.1))), (aQu, .inl (cQu, nQu, .inl v_2.2.2.1)), (aC, .inr (1, [.ref aF, .ref aKn, .int ln, .int wd, .int rd])), (aKn, .inl (cKn, nKn, .inl v_2.2.2.2)), (aF, .inr (2, [.int w, .int ht, .int tn, .ref aFu, .ref aFk, .int kp])), (aFu, .inl (cFu, nFu, .inl fu)), (aFk, .inl (cFk, nFk, .inl fk)), (aW, .inr (4, [.ref aMv, .ref aPl, .int v_1.1, .int v_1.2.1, .int (0 : Int32)])), (aMv, .inl (cMv, nMv, .inl mv)), (aPl, .inl (cPl, nPl, .inl pl))] := hD
        refine lv_aload_n hx hb dX4_plan_110 rfl (lv_at hl 1 rfl) ?_
        refine va_get (D := D) (ci := 5) (v := .int plc) (C := RX4) (T := TX4) (N := 11) hx hb hts iX4 hown hK hP 0 rfl rfl 4 (by decide) k_4 (fun _ h9 => h9) rfl dX4_plan_111 ?_
        refine lv_istore_n (lv' := [(2, .int plc), (1, .int v_3), (0, .ref aP)]) hx hb dX4_plan_114 rfl hl (by decide) rfl (fun ls hl => ?_)
        refine lv_iconst (v := 0) hx hb dX4_plan_115 (by decide) ?_
        refine lv_istore_n (lv' := [(3, .int (0 : Int32)), (2, .int plc), (1, .int v_3), (0, .ref aP)]) hx hb dX4_plan_116 rfl hl (by decide) rfl (fun ls hl => ?_)
        refine L_117 (1 : Int32) v_2.1 v_2.2.1 v_2.2.2.1 v_1.2.1 (0 : Int32) _ ?_ F H locs plc (0 : Int32) v_2.2.2.2 v_1.1 mv pl ls hJ hP hD hS (lv_sub hl [3, 1, 0] rfl)
        · intro H locs x2_56 x3_57 xkn_58 xcnt_59 xmv_60 xpl_61 ls hJ hP hD hS hl
          have ho := Option.some.inj hJ
          exact W.vret hx hb hr (fun t ht hW => ⟨⟨(), rfl, trivial, (by rw [ht, ← ho]; exact hP), (by rw [← ho]; exact hD)⟩, hS.F ht⟩) hS.2.2 dX4_plan_183
      · have hJ := j_f c_55 hJ
        refine lv_iconst (v := 1) hx hb dX4_plan_102 (by decide) ?_
        refine lv_goto (tgt := 107) hx hb dX4_plan_103 (by decide) ?_
        refine va_putN (D := D) (ci := 4) (v := .int (1 : Int32)) (ty := .boolean) (C := RX3) (T := TX3) (N := 5) hx hb hts iX3 tyX3 tyX3_ok nmX3 hown hK hP hD hS 9 rfl rfl 4 (by decide) (va_Nw.use rfl (hST.1.2.2.2.1)) (fun _ h9 => h9) rfl (by decide +kernel) rfl rfl (Nat.le_of_ble_eq_true rfl) dX4_plan_107 (fun H locs hP hD hS => ?_)
        have hP : va_P D vwCl [(aP, .inr (5, [.ref aF, .ref aC, .ref aS, .ref aW, .int plc, .int hom, .int gol, .long stp, .int (1 : Int32), .int hld, .double err])), (aS, .inr (3, [.ref aC, .ref aCo, .ref aQu, .int v_2.1])), (aCo, .inl (cCo, nCo, .inr (.inl v_2.2.1))), (aQu, .inl (cQu, nQu, .inl v_2.2.2.1)), (aC, .inr (1, [.ref aF, .ref aKn, .int ln, .int wd, .int rd])), (aKn, .inl (cKn, nKn, .inl v_2.2.2.2)), (aF, .inr (2, [.int w, .int ht, .int tn, .ref aFu, .ref aFk, .int kp])), (aFu, .inl (cFu, nFu, .inl fu)), (aFk, .inl (cFk, nFk, .inl fk)), (aW, .inr (4, [.ref aMv, .ref aPl, .int v_1.1, .int v_1.2.1, .int (1 : Int32)])), (aMv, .inl (cMv, nMv, .inl mv)), (aPl, .inl (cPl, nPl, .inl pl))] H := hP
        have hD : va_D A [(aP, .inr (5, [.ref aF, .ref aC, .ref aS, .ref aW, .int plc, .int hom, .int gol, .long stp, .int (1 : Int32), .int hld, .double err])), (aS, .inr (3, [.ref aC, .ref aCo, .ref aQu, .int v_2.1])), (aCo, .inl (cCo, nCo, .inr (.inl v_2.2.1))), (aQu, .inl (cQu, nQu, .inl v_2.2.2.1)), (aC, .inr (1, [.ref aF, .ref aKn, .int ln, .int wd, .int rd])), (aKn, .inl (cKn, nKn, .inl v_2.2.2.2)), (aF, .inr (2, [.int w, .int ht, .int tn, .ref aFu, .ref aFk, .int kp])), (aFu, .inl (cFu, nFu, .inl fu)), (aFk, .inl (cFk, nFk, .inl fk)), (aW, .inr (4, [.ref aMv, .ref aPl, .int v_1.1, .int v_1.2.1, .int (1 : Int32)])), (aMv, .inl (cMv, nMv, .inl mv)), (aPl, .inl (cPl, nPl, .inl pl))] := hD
        refine lv_aload_n hx hb dX4_plan_110 rfl (lv_at hl 1 rfl) ?_
        refine va_get (D := D) (ci := 5) (v := .int plc) (C := RX4) (T := TX4) (N := 11) hx hb hts iX4 hown hK hP 0 rfl rfl 4 (by decide) k_4 (fun _ h9 => h9) rfl dX4_plan_111 ?_
        refine lv_istore_n (lv' := [(2, .int plc), (1, .int v_3), (0, .ref aP)]) hx hb dX4_plan_114 rfl hl (by decide) rfl (fun ls hl => ?_)
        refine lv_iconst (v := 0) hx hb dX4_plan_115 (by decide) ?_
        refine lv_istore_n (lv' := [(3, .int (0 : Int32)), (2, .int plc), (1, .int v_3), (0, .ref aP)]) hx hb dX4_plan_116 rfl hl (by decide) rfl (fun ls hl => ?_)
        refine L_117 (1 : Int32) v_2.1 v_2.2.1 v_2.2.2.1 v_1.2.1 (1 : Int32) _ ?_ F H locs plc (0 : Int32) v_2.2.2.2 v_1.1 mv pl ls hJ hP hD hS (lv_sub hl [3, 1, 0] rfl)
        · intro H locs x2_62 x3_63 xkn_64 xcnt_65 xmv_66 xpl_67 ls hJ hP hD hS hl
          have ho := Option.some.inj hJ
          exact W.vret hx hb hr (fun t ht hW => ⟨⟨(), rfl, trivial, (by rw [ht, ← ho]; exact hP), (by rw [← ho]; exact hD)⟩, hS.F ht⟩) hS.2.2 dX4_plan_183
set_option maxHeartbeats 4000000 in
set_option maxRecDepth 100000 in
theorem c_X4_car (l : Launch) (D : va_G) (aP aS aCo aQu aC aKn aF aFu aFk aW aMv aPl : Nat) (cCo cQu cKn cFu cFk cMv cPl : ClassId) (plc : Int32) (hom : Int32) (gol : Int32) (stp : Int64) (exa : Int32) (hld : Int32) (err : UInt64) (rch : Int32) (nCo : Nat) (co : Nat → Int64) (nQu : Nat) (qu : Nat → Int32) (ln : Int32) (wd : Int32) (rd : Int32) (nKn : Nat) (kn : Nat → Int32) (w : Int32) (ht : Int32) (tn : Int32) (kp : Int32) (nFu : Nat) (fu : Nat → Int32) (nFk : Nat) (fk : Nat → Int32) (cnt : Int32) (mde : Int32) (stn : Int32) (nMv : Nat) (mv : Nat → Int32) (nPl : Nat) (pl : Nat → Int32) (p0 : Int32) (p1 : Int32) (p2 : Int32) (tX tY sz F : Nat) (o : Int32 × Int32 × Int32 × Int32 × (Nat → Int32) × Int32 × Int32 × Int32) (hJ : J_X4_car F ln wd rd nKn kn cnt mde stn p0 p1 p2 = some o) : Met l yX4_car wsX4_car rmX4_car (va_Pc [.ref aP, .int p0, .int p1, .int p2] (pcW D [(aP, .inr (5, [.ref aF, .ref aC, .ref aS, .ref aW, .int plc, .int hom, .int gol, .long stp, .int exa, .int hld, .double err])), (aS, .inr (3, [.ref aC, .ref aCo, .ref aQu, .int rch])), (aCo, .inl (cCo, nCo, .inr (.inl co))), (aQu, .inl (cQu, nQu, .inl qu)), (aC, .inr (1, [.ref aF, .ref aKn, .int ln, .int wd, .int rd])), (aKn, .inl (cKn, nKn, .inl kn)), (aF, .inr (2, [.int w, .int ht, .int tn, .ref aFu, .ref aFk, .int kp])), (aFu, .inl (cFu, nFu, .inl fu)), (aFk, .inl (cFk, nFk, .inl fk)), (aW, .inr (4, [.ref aMv, .ref aPl, .int cnt, .int mde, .int stn])), (aMv, .inl (cMv, nMv, .inl mv)), (aPl, .inl (cPl, nPl, .inl pl))] [(cCo, .long), (cQu, .int), (cKn, .int), (cFu, .boolean), (cFk, .int), (cMv, .int), (cPl, .int)] sz tX tY)) (qWi D o.1 [(aP, .inr (5, [.ref aF, .ref aC, .ref aS, .ref aW, .int plc, .int hom, .int gol, .long stp, .int exa, .int hld, .double err])), (aS, .inr (3, [.ref aC, .ref aCo, .ref aQu, .int rch])), (aCo, .inl (cCo, nCo, .inr (.inl co))), (aQu, .inl (cQu, nQu, .inl qu)), (aC, .inr (1, [.ref aF, .ref aKn, .int o.2.1, .int o.2.2.1, .int o.2.2.2.1])), (aKn, .inl (cKn, nKn, .inl o.2.2.2.2.1)), (aF, .inr (2, [.int w, .int ht, .int tn, .ref aFu, .ref aFk, .int kp])), (aFu, .inl (cFu, nFu, .inl fu)), (aFk, .inl (cFk, nFk, .inl fk)), (aW, .inr (4, [.ref aMv, .ref aPl, .int o.2.2.2.2.2.1, .int o.2.2.2.2.2.2.1, .int o.2.2.2.2.2.2.2])), (aMv, .inl (cMv, nMv, .inl mv)), (aPl, .inl (cPl, nPl, .inl pl))] (va_A [(aP, .inr (5, [.ref aF, .ref aC, .ref aS, .ref aW, .int plc, .int hom, .int gol, .long stp, .int exa, .int hld, .double err])), (aS, .inr (3, [.ref aC, .ref aCo, .ref aQu, .int rch])), (aCo, .inl (cCo, nCo, .inr (.inl co))), (aQu, .inl (cQu, nQu, .inl qu)), (aC, .inr (1, [.ref aF, .ref aKn, .int ln, .int wd, .int rd])), (aKn, .inl (cKn, nKn, .inl kn)), (aF, .inr (2, [.int w, .int ht, .int tn, .ref aFu, .ref aFk, .int kp])), (aFu, .inl (cFu, nFu, .inl fu)), (aFk, .inl (cFk, nFk, .inl fk)), (aW, .inr (4, [.ref aMv, .ref aPl, .int cnt, .int mde, .int stn])), (aMv, .inl (cMv, nMv, .inl mv)), (aPl, .inl (cPl, nPl, .inl pl))] sz)) 0 0 (va_A [(aP, .inr (5, [.ref aF, .ref aC, .ref aS, .ref aW, .int plc, .int hom, .int gol, .long stp, .int exa, .int hld, .double err])), (aS, .inr (3, [.ref aC, .ref aCo, .ref aQu, .int rch])), (aCo, .inl (cCo, nCo, .inr (.inl co))), (aQu, .inl (cQu, nQu, .inl qu)), (aC, .inr (1, [.ref aF, .ref aKn, .int ln, .int wd, .int rd])), (aKn, .inl (cKn, nKn, .inl kn)), (aF, .inr (2, [.int w, .int ht, .int tn, .ref aFu, .ref aFk, .int kp])), (aFu, .inl (cFu, nFu, .inl fu)), (aFk, .inl (cFk, nFk, .inl fk)), (aW, .inr (4, [.ref aMv, .ref aPl, .int cnt, .int mde, .int stn])), (aMv, .inl (cMv, nMv, .inl mv)), (aPl, .inl (cPl, nPl, .inl pl))] sz) := by
  refine Met.ofW (cc := cX4_car) (maxL := 4) (ret := (some .int)) (by decide) rfl ?_
  intro p e s m args below meth c s₁ B hml hv
  obtain ⟨rfl, hsz, hP, hK, hD0, hST⟩ := hv
  have hx := B.exec
  have hb := B.bytes
  have hr := B.returns
  have hts := atoms_spec (ws := wsX4_car) B.pre
  have hown : s.vm.findClass RX4 = some m.cls := findClass_of_methodNamed B.named
  have hlocks := B.notSynchronized
  subst hsz
  have hD := hD0.self (sz := s.heap.size)
  generalize hAe : va_A [(aP, .inr (5, [.ref aF, .ref aC, .ref aS, .ref aW, .int plc, .int hom, .int gol, .long stp, .int exa, .int hld, .double err])), (aS, .inr (3, [.ref aC, .ref aCo, .ref aQu, .int rch])), (aCo, .inl (cCo, nCo, .inr (.inl co))), (aQu, .inl (cQu, nQu, .inl qu)), (aC, .inr (1, [.ref aF, .ref aKn, .int ln, .int wd, .int rd])), (aKn, .inl (cKn, nKn, .inl kn)), (aF, .inr (2, [.int w, .int ht, .int tn, .ref aFu, .ref aFk, .int kp])), (aFu, .inl (cFu, nFu, .inl fu)), (aFk, .inl (cFk, nFk, .inl fk)), (aW, .inr (4, [.ref aMv, .ref aPl, .int cnt, .int mde, .int stn])), (aMv, .inl (cMv, nMv, .inl mv)), (aPl, .inl (cPl, nPl, .inl pl))] s.heap.size = A at hD hST ⊢
  have hA : ∀ q : Nat, s.heap.size ≤ q → A q := fun q h => by rw [← hAe]; exact Or.inr h
  have hS : va_S A s.heap s.heap [] := va_S.rf
  have hl := lv_entry ([.ref aP, .int p0, .int p1, .int p2]) (n := 4) (Nat.le_of_ble_eq_true rfl)
  rw [lg_entry_eq]
  generalize (lg_sl ([.ref aP, .int p0, .int p1, .int p2]) ++ List.replicate (4 - (lg_sl ([.ref aP, .int p0, .int p1, .int p2])).length) Slot.unset).toArray = ls at hl ⊢
  have hl : lv_has ls 4 [(0, .ref aP), (1, .int p0), (2, .int p1), (3, .int p2)] := hl
  have iX4 : ∀ w ∈ wsX40, w ∈ wsX4_car := fun w h => List.mem_cons_of_mem _ (List.mem_append_left _ (List.mem_append_left _ (List.mem_append_right _ h)))
  have k_1 := hts (.fieldLink RX4 31 "ParkWays" "car" "LParkWays$Car;") (List.mem_of_getElem? (i := 1) rfl)
  have k_2 := hts (.fieldLink RX4 53 "ParkWays" "way" "LParkWays$Way;") (List.mem_of_getElem? (i := 2) rfl)
  unfold J_X4_car at hJ
  refine lv_iconst (v := 1) hx hb dX4_car_0 (by decide) ?_
  refine lv_iload_n hx hb dX4_car_1 rfl (lv_at hl 1 rfl) ?_
  refine lv_bipush (v := 7) hx hb dX4_car_2 (by decide) ?_
  obtain ⟨v_1, hv_1, hJ⟩ := j_b hJ
  refine ro_i (va_runS (As := [.int (1 : Int32), .int p0, .int (7 : Int32)]) (rest := []) ⟨hx, hb, hml, hown, hts⟩ (c_X4_isFrom l D (1 : Int32) p0 (7 : Int32) tX tY s.heap.size F v_1 hv_1) (va_cwS 3 hts gX4_car_X4_isFrom rfl rfl rfl (by decide +kernel) ⟨Nat.le_of_ble_eq_true rfl, Nat.le_of_ble_eq_true rfl⟩) (preRS [.int (1 : Int32), .int p0, .int (7 : Int32)] hP hK hS hA hST [] rfl [] rfl) rfl rfl hl.1 rfl (lv_room (Nat.le_of_ble_eq_true rfl)) dX4_car_4 ⟨Nat.zero_le _, Nat.zero_le _⟩) hP hS hA (fun H locs hP hS => ?_)
  refine lv_if_eq (tgt := 28) hx hb dX4_car_7 (by decide) (fun c_2 => ?_) (fun c_2 => ?_)
  · have hJ := j_t c_2 hJ
    refine lv_iconst (v := 0) hx hb dX4_car_28 (by decide) ?_
    have ho := Option.some.inj hJ
    exact W.iret (v := (0 : Int32)) hx hb hr (fun t ht hW => ⟨⟨_, (), rfl, (by rw [← ho]), (by rw [ht, ← ho]; exact hP), (by rw [← ho]; exact hD)⟩, hS.F ht⟩) hS.2.2 dX4_car_29
  · have hJ := j_f c_2 hJ
    refine lv_iconst (v := 1) hx hb dX4_car_10 (by decide) ?_
    refine lv_iload_n hx hb dX4_car_11 rfl (lv_at hl 2 rfl) ?_
    refine lv_iconst (v := 5) hx hb dX4_car_12 (by decide) ?_
    obtain ⟨v_3, hv_3, hJ⟩ := j_b hJ
    refine ro_i (va_runS (As := [.int (1 : Int32), .int p1, .int (5 : Int32)]) (rest := []) ⟨hx, hb, hml, hown, hts⟩ (c_X4_isFrom l D (1 : Int32) p1 (5 : Int32) tX tY H.size F v_3 hv_3) (va_cwS 3 hts gX4_car_X4_isFrom rfl rfl rfl (by decide +kernel) ⟨Nat.le_of_ble_eq_true rfl, Nat.le_of_ble_eq_true rfl⟩) (preRS [.int (1 : Int32), .int p1, .int (5 : Int32)] hP hK hS hA hST [] rfl [] rfl) rfl rfl hl.1 rfl (lv_room (Nat.le_of_ble_eq_true rfl)) dX4_car_13 ⟨Nat.zero_le _, Nat.zero_le _⟩) hP hS hA (fun H locs hP hS => ?_)
    refine lv_if_eq (tgt := 28) hx hb dX4_car_16 (by decide) (fun c_4 => ?_) (fun c_4 => ?_)
    · have hJ := j_t c_4 hJ
      refine lv_iconst (v := 0) hx hb dX4_car_28 (by decide) ?_
      have ho := Option.some.inj hJ
      exact W.iret (v := (0 : Int32)) hx hb hr (fun t ht hW => ⟨⟨_, (), rfl, (by rw [← ho]), (by rw [ht, ← ho]; exact hP), (by rw [← ho]; exact hD)⟩, hS.F ht⟩) hS.2.2 dX4_car_29
    · have hJ := j_f c_4 hJ
      refine lv_iconst (v := 1) hx hb dX4_car_19 (by decide) ?_
      refine lv_iload_n hx hb dX4_car_20 rfl (lv_at hl 3 rfl) ?_
      refine lv_iconst (v := 4) hx hb dX4_car_21 (by decide) ?_
      obtain ⟨v_5, hv_5, hJ⟩ := j_b hJ
      refine ro_i (va_runS (As := [.int (1 : Int32), .int p2, .int (4 : Int32)]) (rest := []) ⟨hx, hb, hml, hown, hts⟩ (c_X4_isFrom l D (1 : Int32) p2 (4 : Int32) tX tY H.size F v_5 hv_5) (va_cwS 3 hts gX4_car_X4_isFrom rfl rfl rfl (by decide +kernel) ⟨Nat.le_of_ble_eq_true rfl, Nat.le_of_ble_eq_true rfl⟩) (preRS [.int (1 : Int32), .int p2, .int (4 : Int32)] hP hK hS hA hST [] rfl [] rfl) rfl rfl hl.1 rfl (lv_room (Nat.le_of_ble_eq_true rfl)) dX4_car_22 ⟨Nat.zero_le _, Nat.zero_le _⟩) hP hS hA (fun H locs hP hS => ?_)
      refine lv_if_ne (tgt := 30) hx hb dX4_car_25 (by decide) (fun c_6 => ?_) (fun c_6 => ?_)
      · have hJ := j_f c_6 hJ
        refine lv_aload_n hx hb dX4_car_30 rfl (lv_at hl 0 rfl) ?_
        refine va_get (D := D) (ci := 5) (v := .ref aC) (C := RX4) (T := TX4) (N := 11) hx hb hts iX4 hown hK hP 0 rfl rfl 1 (by decide) k_1 (fun _ h9 => h9) rfl dX4_car_31 ?_
        refine lv_iload_n hx hb dX4_car_34 rfl (lv_at hl 1 rfl) ?_
        refine lv_iload_n hx hb dX4_car_35 rfl (lv_at hl 2 rfl) ?_
        refine lv_iload_n hx hb dX4_car_36 rfl (lv_at hl 3 rfl) ?_
        obtain ⟨v_7, hv_7, hJ⟩ := j_b hJ
        refine wr_v (wr := [(aP, .inr (5, [.ref aF, .ref aC, .ref aS, .ref aW, .int plc, .int hom, .int gol, .long stp, .int exa, .int hld, .double err])), (aS, .inr (3, [.ref aC, .ref aCo, .ref aQu, .int rch])), (aCo, .inl (cCo, nCo, .inr (.inl co))), (aQu, .inl (cQu, nQu, .inl qu)), (aW, .inr (4, [.ref aMv, .ref aPl, .int cnt, .int mde, .int stn])), (aMv, .inl (cMv, nMv, .inl mv)), (aPl, .inl (cPl, nPl, .inl pl))]) (wn := [(aP, .inr (5, [.ref aF, .ref aC, .ref aS, .ref aW, .int plc, .int hom, .int gol, .long stp, .int exa, .int hld, .double err])), (aS, .inr (3, [.ref aC, .ref aCo, .ref aQu, .int rch])), (aCo, .inl (cCo, nCo, .inr (.inl co))), (aQu, .inl (cQu, nQu, .inl qu)), (aC, .inr (1, [.ref aF, .ref aKn, .int v_7.1, .int v_7.2.1, .int v_7.2.2.1])), (aKn, .inl (cKn, nKn, .inl v_7.2.2.2)), (aF, .inr (2, [.int w, .int ht, .int tn, .ref aFu, .ref aFk, .int kp])), (aFu, .inl (cFu, nFu, .inl fu)), (aFk, .inl (cFk, nFk, .inl fk)), (aW, .inr (4, [.ref aMv, .ref aPl, .int cnt, .int mde, .int stn])), (aMv, .inl (cMv, nMv, .inl mv)), (aPl, .inl (cPl, nPl, .inl pl))]) (va_runV (As := [.int p0, .int p1, .int p2]) (rest := []) ⟨hx, hb, hml, hown, hts⟩ (c_X0_build l D aC aKn aF aFu aFk cKn cFu cFk ln wd rd nKn kn w ht tn kp nFu fu nFk fk p0 p1 p2 tX tY H.size F v_7 hv_7) (cwV 3 hts gX4_car_X0_build rfl rfl rfl (by decide +kernel) ⟨Nat.le_of_ble_eq_true rfl, Nat.le_of_ble_eq_true rfl⟩) (preWV [.int p0, .int p1, .int p2] hP hD hK hS hA hST [4, 5, 6, 7, 8] rfl rfl rfl [2, 3, 4] rfl (ci := 1) (q0 := 4) rfl rfl) rfl rfl hl.1 rfl (lv_room (Nat.le_of_ble_eq_true rfl)) dX4_car_37 ⟨Nat.zero_le _, Nat.zero_le _⟩) hP hD hS hA [4, 5, 6, 7, 8] [0, 1, 2, 3, 9, 10, 11] rfl rfl rfl (by decide) [0, 1, 2, 3, 7, 8, 9, 10, 11, 4, 5, 6] rfl rfl rfl (fun H locs hP hD hS => ?_)
        refine lv_aload_n hx hb dX4_car_40 rfl (lv_at hl 0 rfl) ?_
        refine va_get (D := D) (ci := 5) (v := .ref aW) (C := RX4) (T := TX4) (N := 11) hx hb hts iX4 hown hK hP 0 rfl rfl 3 (by decide) k_2 (fun _ h9 => h9) rfl dX4_car_41 ?_
        obtain ⟨v_8, hv_8, hJ⟩ := j_b hJ
        refine wr_v (wr := [(aP, .inr (5, [.ref aF, .ref aC, .ref aS, .ref aW, .int plc, .int hom, .int gol, .long stp, .int exa, .int hld, .double err])), (aS, .inr (3, [.ref aC, .ref aCo, .ref aQu, .int rch])), (aCo, .inl (cCo, nCo, .inr (.inl co))), (aQu, .inl (cQu, nQu, .inl qu)), (aC, .inr (1, [.ref aF, .ref aKn, .int v_7.1, .int v_7.2.1, .int v_7.2.2.1])), (aKn, .inl (cKn, nKn, .inl v_7.2.2.2)), (aF, .inr (2, [.int w, .int ht, .int tn, .ref aFu, .ref aFk, .int kp])), (aFu, .inl (cFu, nFu, .inl fu)), (aFk, .inl (cFk, nFk, .inl fk))]) (wn := [(aP, .inr (5, [.ref aF, .ref aC, .ref aS, .ref aW, .int plc, .int hom, .int gol, .long stp, .int exa, .int hld, .double err])), (aS, .inr (3, [.ref aC, .ref aCo, .ref aQu, .int rch])), (aCo, .inl (cCo, nCo, .inr (.inl co))), (aQu, .inl (cQu, nQu, .inl qu)), (aC, .inr (1, [.ref aF, .ref aKn, .int v_7.1, .int v_7.2.1, .int v_7.2.2.1])), (aKn, .inl (cKn, nKn, .inl v_7.2.2.2)), (aF, .inr (2, [.int w, .int ht, .int tn, .ref aFu, .ref aFk, .int kp])), (aFu, .inl (cFu, nFu, .inl fu)), (aFk, .inl (cFk, nFk, .inl fk)), (aW, .inr (4, [.ref aMv, .ref aPl, .int v_8.1, .int v_8.2.1, .int v_8.2.2])), (aMv, .inl (cMv, nMv, .inl mv)), (aPl, .inl (cPl, nPl, .inl pl))]) (va_runV (As := []) (rest := []) ⟨hx, hb, hml, hown, hts⟩ (c_X3_drop l D aW aMv aPl cMv cPl cnt mde stn nMv mv nPl pl tX tY H.size F v_8 hv_8) (cwV 0 hts gX4_car_X3_drop rfl rfl rfl (by decide +kernel) ⟨Nat.le_of_ble_eq_true rfl, Nat.le_of_ble_eq_true rfl⟩) (preWV [] hP hD hK hS hA hST [9, 10, 11] rfl rfl rfl [5, 6] rfl (ci := 4) (q0 := 9) rfl rfl) rfl rfl hl.1 rfl (lv_room (Nat.le_of_ble_eq_true rfl)) dX4_car_44 ⟨Nat.zero_le _, Nat.zero_le _⟩) hP hD hS hA [9, 10, 11] [0, 1, 2, 3, 4, 5, 6, 7, 8] rfl rfl rfl (by decide) [0, 1, 2, 3, 4, 5, 6, 7, 8, 9, 10, 11] rfl rfl rfl (fun H locs hP hD hS => ?_)
        refine lv_iconst (v := 1) hx hb dX4_car_47 (by decide) ?_
        have ho := Option.some.inj hJ
        exact W.iret (v := (1 : Int32)) hx hb hr (fun t ht hW => ⟨⟨_, (), rfl, (by rw [← ho]), (by rw [ht, ← ho]; exact hP), (by rw [← ho]; exact hD)⟩, hS.F ht⟩) hS.2.2 dX4_car_48
      · have hJ := j_t c_6 hJ
        refine lv_iconst (v := 0) hx hb dX4_car_28 (by decide) ?_
        have ho := Option.some.inj hJ
        exact W.iret (v := (0 : Int32)) hx hb hr (fun t ht hW => ⟨⟨_, (), rfl, (by rw [← ho]), (by rw [ht, ← ho]; exact hP), (by rw [← ho]; exact hD)⟩, hS.F ht⟩) hS.2.2 dX4_car_29
set_option maxHeartbeats 4000000 in
set_option maxRecDepth 100000 in
theorem c_X4_keep (l : Launch) (D : va_G) (aP aS aCo aQu aC aKn aF aFu aFk aW aMv aPl : Nat) (cCo cQu cKn cFu cFk cMv cPl : ClassId) (plc : Int32) (hom : Int32) (gol : Int32) (stp : Int64) (exa : Int32) (hld : Int32) (err : UInt64) (rch : Int32) (nCo : Nat) (co : Nat → Int64) (nQu : Nat) (qu : Nat → Int32) (ln : Int32) (wd : Int32) (rd : Int32) (nKn : Nat) (kn : Nat → Int32) (w : Int32) (ht : Int32) (tn : Int32) (kp : Int32) (nFu : Nat) (fu : Nat → Int32) (nFk : Nat) (fk : Nat → Int32) (cnt : Int32) (mde : Int32) (stn : Int32) (nMv : Nat) (mv : Nat → Int32) (nPl : Nat) (pl : Nat → Int32) (p0 : Int32) (tX tY sz F : Nat) (o : Int32 × (Nat → Int32) × Int32 × (Nat → Int32) × Int32 × Int32 × Int32) (hJ : J_X4_keep F nKn kn w ht kp nFu fu nFk fk cnt mde stn p0 = some o) : Met l yX4_keep wsX4_keep rmX4_keep (va_Pc [.ref aP, .int p0] (pcW D [(aP, .inr (5, [.ref aF, .ref aC, .ref aS, .ref aW, .int plc, .int hom, .int gol, .long stp, .int exa, .int hld, .double err])), (aS, .inr (3, [.ref aC, .ref aCo, .ref aQu, .int rch])), (aCo, .inl (cCo, nCo, .inr (.inl co))), (aQu, .inl (cQu, nQu, .inl qu)), (aC, .inr (1, [.ref aF, .ref aKn, .int ln, .int wd, .int rd])), (aKn, .inl (cKn, nKn, .inl kn)), (aF, .inr (2, [.int w, .int ht, .int tn, .ref aFu, .ref aFk, .int kp])), (aFu, .inl (cFu, nFu, .inl fu)), (aFk, .inl (cFk, nFk, .inl fk)), (aW, .inr (4, [.ref aMv, .ref aPl, .int cnt, .int mde, .int stn])), (aMv, .inl (cMv, nMv, .inl mv)), (aPl, .inl (cPl, nPl, .inl pl))] [(cCo, .long), (cQu, .int), (cKn, .int), (cFu, .boolean), (cFk, .int), (cMv, .int), (cPl, .int)] sz tX tY)) (qWi D o.1 [(aP, .inr (5, [.ref aF, .ref aC, .ref aS, .ref aW, .int plc, .int hom, .int gol, .long stp, .int exa, .int hld, .double err])), (aS, .inr (3, [.ref aC, .ref aCo, .ref aQu, .int rch])), (aCo, .inl (cCo, nCo, .inr (.inl co))), (aQu, .inl (cQu, nQu, .inl qu)), (aC, .inr (1, [.ref aF, .ref aKn, .int ln, .int wd, .int rd])), (aKn, .inl (cKn, nKn, .inl o.2.1)), (aF, .inr (2, [.int w, .int ht, .int tn, .ref aFu, .ref aFk, .int o.2.2.1])), (aFu, .inl (cFu, nFu, .inl fu)), (aFk, .inl (cFk, nFk, .inl o.2.2.2.1)), (aW, .inr (4, [.ref aMv, .ref aPl, .int o.2.2.2.2.1, .int o.2.2.2.2.2.1, .int o.2.2.2.2.2.2])), (aMv, .inl (cMv, nMv, .inl mv)), (aPl, .inl (cPl, nPl, .inl pl))] (va_A [(aP, .inr (5, [.ref aF, .ref aC, .ref aS, .ref aW, .int plc, .int hom, .int gol, .long stp, .int exa, .int hld, .double err])), (aS, .inr (3, [.ref aC, .ref aCo, .ref aQu, .int rch])), (aCo, .inl (cCo, nCo, .inr (.inl co))), (aQu, .inl (cQu, nQu, .inl qu)), (aC, .inr (1, [.ref aF, .ref aKn, .int ln, .int wd, .int rd])), (aKn, .inl (cKn, nKn, .inl kn)), (aF, .inr (2, [.int w, .int ht, .int tn, .ref aFu, .ref aFk, .int kp])), (aFu, .inl (cFu, nFu, .inl fu)), (aFk, .inl (cFk, nFk, .inl fk)), (aW, .inr (4, [.ref aMv, .ref aPl, .int cnt, .int mde, .int stn])), (aMv, .inl (cMv, nMv, .inl mv)), (aPl, .inl (cPl, nPl, .inl pl))] sz)) 0 0 (va_A [(aP, .inr (5, [.ref aF, .ref aC, .ref aS, .ref aW, .int plc, .int hom, .int gol, .long stp, .int exa, .int hld, .double err])), (aS, .inr (3, [.ref aC, .ref aCo, .ref aQu, .int rch])), (aCo, .inl (cCo, nCo, .inr (.inl co))), (aQu, .inl (cQu, nQu, .inl qu)), (aC, .inr (1, [.ref aF, .ref aKn, .int ln, .int wd, .int rd])), (aKn, .inl (cKn, nKn, .inl kn)), (aF, .inr (2, [.int w, .int ht, .int tn, .ref aFu, .ref aFk, .int kp])), (aFu, .inl (cFu, nFu, .inl fu)), (aFk, .inl (cFk, nFk, .inl fk)), (aW, .inr (4, [.ref aMv, .ref aPl, .int cnt, .int mde, .int stn])), (aMv, .inl (cMv, nMv, .inl mv)), (aPl, .inl (cPl, nPl, .inl pl))] sz) := by
  refine Met.ofW (cc := cX4_keep) (maxL := 3) (ret := (some .int)) (by decide) rfl ?_
  intro p e s m args below meth c s₁ B hml hv
  obtain ⟨rfl, hsz, hP, hK, hD0, hST⟩ := hv
  have hx := B.exec
  have hb := B.bytes
  have hr := B.returns
  have hts := atoms_spec (ws := wsX4_keep) B.pre
  have hown : s.vm.findClass RX4 = some m.cls := findClass_of_methodNamed B.named
  have hlocks := B.notSynchronized
  subst hsz
  have hD := hD0.self (sz := s.heap.size)
  generalize hAe : va_A [(aP, .inr (5, [.ref aF, .ref aC, .ref aS, .ref aW, .int plc, .int hom, .int gol, .long stp, .int exa, .int hld, .double err])), (aS, .inr (3, [.ref aC, .ref aCo, .ref aQu, .int rch])), (aCo, .inl (cCo, nCo, .inr (.inl co))), (aQu, .inl (cQu, nQu, .inl qu)), (aC, .inr (1, [.ref aF, .ref aKn, .int ln, .int wd, .int rd])), (aKn, .inl (cKn, nKn, .inl kn)), (aF, .inr (2, [.int w, .int ht, .int tn, .ref aFu, .ref aFk, .int kp])), (aFu, .inl (cFu, nFu, .inl fu)), (aFk, .inl (cFk, nFk, .inl fk)), (aW, .inr (4, [.ref aMv, .ref aPl, .int cnt, .int mde, .int stn])), (aMv, .inl (cMv, nMv, .inl mv)), (aPl, .inl (cPl, nPl, .inl pl))] s.heap.size = A at hD hST ⊢
  have hA : ∀ q : Nat, s.heap.size ≤ q → A q := fun q h => by rw [← hAe]; exact Or.inr h
  have hS : va_S A s.heap s.heap [] := va_S.rf
  have hl := lv_entry ([.ref aP, .int p0]) (n := 3) (Nat.le_of_ble_eq_true rfl)
  rw [lg_entry_eq]
  generalize (lg_sl ([.ref aP, .int p0]) ++ List.replicate (3 - (lg_sl ([.ref aP, .int p0])).length) Slot.unset).toArray = ls at hl ⊢
  have hl : lv_has ls 3 [(0, .ref aP), (1, .int p0)] := hl
  have iX1 : ∀ w ∈ wsX10, w ∈ wsX4_keep := fun w h => List.mem_cons_of_mem _ (List.mem_append_left _ (List.mem_append_left _ (List.mem_append_right _ h)))
  have iX4 : ∀ w ∈ wsX40, w ∈ wsX4_keep := fun w h => List.mem_cons_of_mem _ (List.mem_append_left _ (List.mem_append_left _ (List.mem_append_left _ (List.mem_append_right _ h))))
  have k_1 := hts (.fieldLink RX4 22 "ParkWays" "field" "LParkWays$Field;") (List.mem_of_getElem? (i := 1) rfl)
  have k_2 := hts (.fieldLink RX4 31 "ParkWays" "car" "LParkWays$Car;") (List.mem_of_getElem? (i := 2) rfl)
  have k_3 := hts (.fieldLink RX4 53 "ParkWays" "way" "LParkWays$Way;") (List.mem_of_getElem? (i := 3) rfl)
  unfold J_X4_keep at hJ
  refine lv_iconst (v := 0) hx hb dX4_keep_0 (by decide) ?_
  refine lv_iload_n hx hb dX4_keep_1 rfl (lv_at hl 1 rfl) ?_
  refine lv_iconst (v := 3) hx hb dX4_keep_2 (by decide) ?_
  obtain ⟨v_1, hv_1, hJ⟩ := j_b hJ
  refine ro_i (va_runS (As := [.int (0 : Int32), .int p0, .int (3 : Int32)]) (rest := []) ⟨hx, hb, hml, hown, hts⟩ (c_X4_isFrom l D (0 : Int32) p0 (3 : Int32) tX tY s.heap.size F v_1 hv_1) (va_cwS 3 hts gX4_keep_X4_isFrom rfl rfl rfl (by decide +kernel) ⟨Nat.le_of_ble_eq_true rfl, Nat.le_of_ble_eq_true rfl⟩) (preRS [.int (0 : Int32), .int p0, .int (3 : Int32)] hP hK hS hA hST [] rfl [] rfl) rfl rfl hl.1 rfl (lv_room (Nat.le_of_ble_eq_true rfl)) dX4_keep_3 ⟨Nat.zero_le _, Nat.zero_le _⟩) hP hS hA (fun H locs hP hS => ?_)
  refine lv_if_ne (tgt := 12) hx hb dX4_keep_6 (by decide) (fun c_2 => ?_) (fun c_2 => ?_)
  · have hJ := j_f c_2 hJ
    refine lv_aload_n hx hb dX4_keep_12 rfl (lv_at hl 0 rfl) ?_
    refine va_get (D := D) (ci := 5) (v := .ref aF) (C := RX4) (T := TX4) (N := 11) hx hb hts iX4 hown hK hP 0 rfl rfl 0 (by decide) k_1 (fun _ h9 => h9) rfl dX4_keep_13 ?_
    refine va_getN (D := D) (ci := 2) (v := .int kp) (C := RX1) (T := TX1) (N := 6) hx hb hts iX1 hown hK hP 6 rfl rfl 5 (by decide) (va_Nw.use rfl (hST.1.2.2.2.2.2.2.1)) (fun _ h9 => h9) rfl dX4_keep_16 ?_
    refine lv_istore_n (lv' := [(2, .int kp), (0, .ref aP), (1, .int p0)]) hx hb dX4_keep_19 rfl hl (by decide) rfl (fun ls hl => ?_)
    refine lv_aload_n hx hb dX4_keep_20 rfl (lv_at hl 1 rfl) ?_
    refine va_get (D := D) (ci := 5) (v := .ref aF) (C := RX4) (T := TX4) (N := 11) hx hb hts iX4 hown hK hP 0 rfl rfl 0 (by decide) k_1 (fun _ h9 => h9) rfl dX4_keep_21 ?_
    refine lv_iload_n hx hb dX4_keep_24 rfl (lv_at hl 2 rfl) ?_
    obtain ⟨v_3, hv_3, hJ⟩ := j_b hJ
    refine wr_v (wr := [(aP, .inr (5, [.ref aF, .ref aC, .ref aS, .ref aW, .int plc, .int hom, .int gol, .long stp, .int exa, .int hld, .double err])), (aS, .inr (3, [.ref aC, .ref aCo, .ref aQu, .int rch])), (aCo, .inl (cCo, nCo, .inr (.inl co))), (aQu, .inl (cQu, nQu, .inl qu)), (aC, .inr (1, [.ref aF, .ref aKn, .int ln, .int wd, .int rd])), (aKn, .inl (cKn, nKn, .inl kn)), (aW, .inr (4, [.ref aMv, .ref aPl, .int cnt, .int mde, .int stn])), (aMv, .inl (cMv, nMv, .inl mv)), (aPl, .inl (cPl, nPl, .inl pl))]) (wn := [(aP, .inr (5, [.ref aF, .ref aC, .ref aS, .ref aW, .int plc, .int hom, .int gol, .long stp, .int exa, .int hld, .double err])), (aS, .inr (3, [.ref aC, .ref aCo, .ref aQu, .int rch])), (aCo, .inl (cCo, nCo, .inr (.inl co))), (aQu, .inl (cQu, nQu, .inl qu)), (aC, .inr (1, [.ref aF, .ref aKn, .int ln, .int wd, .int rd])), (aKn, .inl (cKn, nKn, .inl kn)), (aF, .inr (2, [.int w, .int ht, .int tn, .ref aFu, .ref aFk, .int v_3.1])), (aFu, .inl (cFu, nFu, .inl fu)), (aFk, .inl (cFk, nFk, .inl v_3.2)), (aW, .inr (4, [.ref aMv, .ref aPl, .int cnt, .int mde, .int stn])), (aMv, .inl (cMv, nMv, .inl mv)), (aPl, .inl (cPl, nPl, .inl pl))]) (va_runV (As := [.int p0]) (rest := []) ⟨hx, hb, hml, hown, hts⟩ (c_X1_setKeep l D aF aFu aFk cFu cFk w ht tn kp nFu fu nFk fk p0 tX tY H.size F v_3 hv_3) (cwV 1 hts gX4_keep_X1_setKeep rfl rfl rfl (by decide +kernel) ⟨Nat.le_of_ble_eq_true rfl, Nat.le_of_ble_eq_true rfl⟩) (preWV [.int p0] hP hD hK hS hA hST [6, 7, 8] rfl rfl rfl [3, 4] rfl (ci := 2) (q0 := 6) rfl rfl) rfl rfl hl.1 rfl (lv_room (Nat.le_of_ble_eq_true rfl)) dX4_keep_25 ⟨Nat.zero_le _, Nat.zero_le _⟩) hP hD hS hA [6, 7, 8] [0, 1, 2, 3, 4, 5, 9, 10, 11] rfl rfl rfl (by decide) [0, 1, 2, 3, 4, 5, 9, 10, 11, 6, 7, 8] rfl rfl rfl (fun H locs hP hD hS => ?_)
    refine lv_aload_n hx hb dX4_keep_28 rfl (lv_at hl 1 rfl) ?_
    refine va_get (D := D) (ci := 5) (v := .ref aC) (C := RX4) (T := TX4) (N := 11) hx hb hts iX4 hown hK hP 0 rfl rfl 1 (by decide) k_2 (fun _ h9 => h9) rfl dX4_keep_29 ?_
    obtain ⟨v_4, hv_4, hJ⟩ := j_b hJ
    refine wr_v (wr := [(aP, .inr (5, [.ref aF, .ref aC, .ref aS, .ref aW, .int plc, .int hom, .int gol, .long stp, .int exa, .int hld, .double err])), (aS, .inr (3, [.ref aC, .ref aCo, .ref aQu, .int rch])), (aCo, .inl (cCo, nCo, .inr (.inl co))), (aQu, .inl (cQu, nQu, .inl qu)), (aW, .inr (4, [.ref aMv, .ref aPl, .int cnt, .int mde, .int stn])), (aMv, .inl (cMv, nMv, .inl mv)), (aPl, .inl (cPl, nPl, .inl pl))]) (wn := [(aP, .inr (5, [.ref aF, .ref aC, .ref aS, .ref aW, .int plc, .int hom, .int gol, .long stp, .int exa, .int hld, .double err])), (aS, .inr (3, [.ref aC, .ref aCo, .ref aQu, .int rch])), (aCo, .inl (cCo, nCo, .inr (.inl co))), (aQu, .inl (cQu, nQu, .inl qu)), (aC, .inr (1, [.ref aF, .ref aKn, .int ln, .int wd, .int rd])), (aKn, .inl (cKn, nKn, .inl v_4)), (aF, .inr (2, [.int w, .int ht, .int tn, .ref aFu, .ref aFk, .int v_3.1])), (aFu, .inl (cFu, nFu, .inl fu)), (aFk, .inl (cFk, nFk, .inl v_3.2)), (aW, .inr (4, [.ref aMv, .ref aPl, .int cnt, .int mde, .int stn])), (aMv, .inl (cMv, nMv, .inl mv)), (aPl, .inl (cPl, nPl, .inl pl))]) (va_runV (As := []) (rest := []) ⟨hx, hb, hml, hown, hts⟩ (c_X0_forget l D aC aKn aF aFu aFk cKn cFu cFk ln wd rd nKn kn w ht tn v_3.1 nFu fu nFk v_3.2 tX tY H.size F v_4 hv_4) (cwV 0 hts gX4_keep_X0_forget rfl rfl rfl (by decide +kernel) ⟨Nat.le_of_ble_eq_true rfl, Nat.le_of_ble_eq_true rfl⟩) (preWV [] hP hD hK hS hA hST [4, 5, 6, 7, 8] rfl rfl rfl [2, 3, 4] rfl (ci := 1) (q0 := 4) rfl rfl) rfl rfl hl.1 rfl (lv_room (Nat.le_of_ble_eq_true rfl)) dX4_keep_32 ⟨Nat.zero_le _, Nat.zero_le _⟩) hP hD hS hA [4, 5, 6, 7, 8] [0, 1, 2, 3, 9, 10, 11] rfl rfl rfl (by decide) [0, 1, 2, 3, 7, 8, 9, 10, 11, 4, 5, 6] rfl rfl rfl (fun H locs hP hD hS => ?_)
    refine lv_aload_n hx hb dX4_keep_35 rfl (lv_at hl 1 rfl) ?_
    refine va_get (D := D) (ci := 5) (v := .ref aW) (C := RX4) (T := TX4) (N := 11) hx hb hts iX4 hown hK hP 0 rfl rfl 3 (by decide) k_3 (fun _ h9 => h9) rfl dX4_keep_36 ?_
    obtain ⟨v_5, hv_5, hJ⟩ := j_b hJ
    refine wr_v (wr := [(aP, .inr (5, [.ref aF, .ref aC, .ref aS, .ref aW, .int plc, .int hom, .int gol, .long stp, .int exa, .int hld, .double err])), (aS, .inr (3, [.ref aC, .ref aCo, .ref aQu, .int rch])), (aCo, .inl (cCo, nCo, .inr (.inl co))), (aQu, .inl (cQu, nQu, .inl qu)), (aC, .inr (1, [.ref aF, .ref aKn, .int ln, .int wd, .int rd])), (aKn, .inl (cKn, nKn, .inl v_4)), (aF, .inr (2, [.int w, .int ht, .int tn, .ref aFu, .ref aFk, .int v_3.1])), (aFu, .inl (cFu, nFu, .inl fu)), (aFk, .inl (cFk, nFk, .inl v_3.2))]) (wn := [(aP, .inr (5, [.ref aF, .ref aC, .ref aS, .ref aW, .int plc, .int hom, .int gol, .long stp, .int exa, .int hld, .double err])), (aS, .inr (3, [.ref aC, .ref aCo, .ref aQu, .int rch])), (aCo, .inl (cCo, nCo, .inr (.inl co))), (aQu, .inl (cQu, nQu, .inl qu)), (aC, .inr (1, [.ref aF, .ref aKn, .int ln, .int wd, .int rd])), (aKn, .inl (cKn, nKn, .inl v_4)), (aF, .inr (2, [.int w, .int ht, .int tn, .ref aFu, .ref aFk, .int v_3.1])), (aFu, .inl (cFu, nFu, .inl fu)), (aFk, .inl (cFk, nFk, .inl v_3.2)), (aW, .inr (4, [.ref aMv, .ref aPl, .int v_5.1, .int v_5.2.1, .int v_5.2.2])), (aMv, .inl (cMv, nMv, .inl mv)), (aPl, .inl (cPl, nPl, .inl pl))]) (va_runV (As := []) (rest := []) ⟨hx, hb, hml, hown, hts⟩ (c_X3_drop l D aW aMv aPl cMv cPl cnt mde stn nMv mv nPl pl tX tY H.size F v_5 hv_5) (cwV 0 hts gX4_keep_X3_drop rfl rfl rfl (by decide +kernel) ⟨Nat.le_of_ble_eq_true rfl, Nat.le_of_ble_eq_true rfl⟩) (preWV [] hP hD hK hS hA hST [9, 10, 11] rfl rfl rfl [5, 6] rfl (ci := 4) (q0 := 9) rfl rfl) rfl rfl hl.1 rfl (lv_room (Nat.le_of_ble_eq_true rfl)) dX4_keep_39 ⟨Nat.zero_le _, Nat.zero_le _⟩) hP hD hS hA [9, 10, 11] [0, 1, 2, 3, 4, 5, 6, 7, 8] rfl rfl rfl (by decide) [0, 1, 2, 3, 4, 5, 6, 7, 8, 9, 10, 11] rfl rfl rfl (fun H locs hP hD hS => ?_)
    refine lv_iload_n hx hb dX4_keep_42 rfl (lv_at hl 0 rfl) ?_
    have ho := Option.some.inj hJ
    exact W.iret (v := kp) hx hb hr (fun t ht hW => ⟨⟨_, (), rfl, (by rw [← ho]), (by rw [ht, ← ho]; exact hP), (by rw [← ho]; exact hD)⟩, hS.F ht⟩) hS.2.2 dX4_keep_43
  · have hJ := j_t c_2 hJ
    refine lv_bipush (v := (-2)) hx hb dX4_keep_9 (by decide) ?_
    have ho := Option.some.inj hJ
    exact W.iret (v := (-2 : Int32)) hx hb hr (fun t ht hW => ⟨⟨_, (), rfl, (by rw [← ho]), (by rw [ht, ← ho]; exact hP), (by rw [← ho]; exact hD)⟩, hS.F ht⟩) hS.2.2 dX4_keep_11
set_option maxHeartbeats 4000000 in
set_option maxRecDepth 100000 in
theorem c_X4_stand (l : Launch) (D : va_G) (aP aS aCo aQu aC aKn aF aFu aFk aW aMv aPl : Nat) (cCo cQu cKn cFu cFk cMv cPl : ClassId) (plc : Int32) (hom : Int32) (gol : Int32) (stp : Int64) (exa : Int32) (hld : Int32) (err : UInt64) (rch : Int32) (nCo : Nat) (co : Nat → Int64) (nQu : Nat) (qu : Nat → Int32) (ln : Int32) (wd : Int32) (rd : Int32) (nKn : Nat) (kn : Nat → Int32) (w : Int32) (ht : Int32) (tn : Int32) (kp : Int32) (nFu : Nat) (fu : Nat → Int32) (nFk : Nat) (fk : Nat → Int32) (cnt : Int32) (mde : Int32) (stn : Int32) (nMv : Nat) (mv : Nat → Int32) (nPl : Nat) (pl : Nat → Int32) (p0 : Int32) (p1 : Int32) (p2 : Int32) (tX tY sz F : Nat) (o : Int32 × Int32 × Int32 × (Nat → Int32) × Int32 × Int32 × Int32) (hJ : J_X4_stand F plc hom ln wd nKn kn w ht tn nFk fk cnt mde stn p0 p1 p2 = some o) : Met l yX4_stand wsX4_stand rmX4_stand (va_Pc [.ref aP, .int p0, .int p1, .int p2] (pcW D [(aP, .inr (5, [.ref aF, .ref aC, .ref aS, .ref aW, .int plc, .int hom, .int gol, .long stp, .int exa, .int hld, .double err])), (aS, .inr (3, [.ref aC, .ref aCo, .ref aQu, .int rch])), (aCo, .inl (cCo, nCo, .inr (.inl co))), (aQu, .inl (cQu, nQu, .inl qu)), (aC, .inr (1, [.ref aF, .ref aKn, .int ln, .int wd, .int rd])), (aKn, .inl (cKn, nKn, .inl kn)), (aF, .inr (2, [.int w, .int ht, .int tn, .ref aFu, .ref aFk, .int kp])), (aFu, .inl (cFu, nFu, .inl fu)), (aFk, .inl (cFk, nFk, .inl fk)), (aW, .inr (4, [.ref aMv, .ref aPl, .int cnt, .int mde, .int stn])), (aMv, .inl (cMv, nMv, .inl mv)), (aPl, .inl (cPl, nPl, .inl pl))] [(cCo, .long), (cQu, .int), (cKn, .int), (cFu, .boolean), (cFk, .int), (cMv, .int), (cPl, .int)] sz tX tY)) (qWi D o.1 [(aP, .inr (5, [.ref aF, .ref aC, .ref aS, .ref aW, .int o.2.1, .int o.2.2.1, .int gol, .long stp, .int exa, .int hld, .double err])), (aS, .inr (3, [.ref aC, .ref aCo, .ref aQu, .int rch])), (aCo, .inl (cCo, nCo, .inr (.inl co))), (aQu, .inl (cQu, nQu, .inl qu)), (aC, .inr (1, [.ref aF, .ref aKn, .int ln, .int wd, .int rd])), (aKn, .inl (cKn, nKn, .inl o.2.2.2.1)), (aF, .inr (2, [.int w, .int ht, .int tn, .ref aFu, .ref aFk, .int kp])), (aFu, .inl (cFu, nFu, .inl fu)), (aFk, .inl (cFk, nFk, .inl fk)), (aW, .inr (4, [.ref aMv, .ref aPl, .int o.2.2.2.2.1, .int o.2.2.2.2.2.1, .int o.2.2.2.2.2.2])), (aMv, .inl (cMv, nMv, .inl mv)), (aPl, .inl (cPl, nPl, .inl pl))] (va_A [(aP, .inr (5, [.ref aF, .ref aC, .ref aS, .ref aW, .int plc, .int hom, .int gol, .long stp, .int exa, .int hld, .double err])), (aS, .inr (3, [.ref aC, .ref aCo, .ref aQu, .int rch])), (aCo, .inl (cCo, nCo, .inr (.inl co))), (aQu, .inl (cQu, nQu, .inl qu)), (aC, .inr (1, [.ref aF, .ref aKn, .int ln, .int wd, .int rd])), (aKn, .inl (cKn, nKn, .inl kn)), (aF, .inr (2, [.int w, .int ht, .int tn, .ref aFu, .ref aFk, .int kp])), (aFu, .inl (cFu, nFu, .inl fu)), (aFk, .inl (cFk, nFk, .inl fk)), (aW, .inr (4, [.ref aMv, .ref aPl, .int cnt, .int mde, .int stn])), (aMv, .inl (cMv, nMv, .inl mv)), (aPl, .inl (cPl, nPl, .inl pl))] sz)) 0 0 (va_A [(aP, .inr (5, [.ref aF, .ref aC, .ref aS, .ref aW, .int plc, .int hom, .int gol, .long stp, .int exa, .int hld, .double err])), (aS, .inr (3, [.ref aC, .ref aCo, .ref aQu, .int rch])), (aCo, .inl (cCo, nCo, .inr (.inl co))), (aQu, .inl (cQu, nQu, .inl qu)), (aC, .inr (1, [.ref aF, .ref aKn, .int ln, .int wd, .int rd])), (aKn, .inl (cKn, nKn, .inl kn)), (aF, .inr (2, [.int w, .int ht, .int tn, .ref aFu, .ref aFk, .int kp])), (aFu, .inl (cFu, nFu, .inl fu)), (aFk, .inl (cFk, nFk, .inl fk)), (aW, .inr (4, [.ref aMv, .ref aPl, .int cnt, .int mde, .int stn])), (aMv, .inl (cMv, nMv, .inl mv)), (aPl, .inl (cPl, nPl, .inl pl))] sz) := by
  refine Met.ofW (cc := cX4_stand) (maxL := 5) (ret := (some .int)) (by decide) rfl ?_
  intro p e s m args below meth c s₁ B hml hv
  obtain ⟨rfl, hsz, hP, hK, hD0, hST⟩ := hv
  have hx := B.exec
  have hb := B.bytes
  have hr := B.returns
  have hts := atoms_spec (ws := wsX4_stand) B.pre
  have hown : s.vm.findClass RX4 = some m.cls := findClass_of_methodNamed B.named
  have hlocks := B.notSynchronized
  subst hsz
  have hD := hD0.self (sz := s.heap.size)
  generalize hAe : va_A [(aP, .inr (5, [.ref aF, .ref aC, .ref aS, .ref aW, .int plc, .int hom, .int gol, .long stp, .int exa, .int hld, .double err])), (aS, .inr (3, [.ref aC, .ref aCo, .ref aQu, .int rch])), (aCo, .inl (cCo, nCo, .inr (.inl co))), (aQu, .inl (cQu, nQu, .inl qu)), (aC, .inr (1, [.ref aF, .ref aKn, .int ln, .int wd, .int rd])), (aKn, .inl (cKn, nKn, .inl kn)), (aF, .inr (2, [.int w, .int ht, .int tn, .ref aFu, .ref aFk, .int kp])), (aFu, .inl (cFu, nFu, .inl fu)), (aFk, .inl (cFk, nFk, .inl fk)), (aW, .inr (4, [.ref aMv, .ref aPl, .int cnt, .int mde, .int stn])), (aMv, .inl (cMv, nMv, .inl mv)), (aPl, .inl (cPl, nPl, .inl pl))] s.heap.size = A at hD hST ⊢
  have hA : ∀ q : Nat, s.heap.size ≤ q → A q := fun q h => by rw [← hAe]; exact Or.inr h
  have hS : va_S A s.heap s.heap [] := va_S.rf
  have hl := lv_entry ([.ref aP, .int p0, .int p1, .int p2]) (n := 5) (Nat.le_of_ble_eq_true rfl)
  rw [lg_entry_eq]
  generalize (lg_sl ([.ref aP, .int p0, .int p1, .int p2]) ++ List.replicate (5 - (lg_sl ([.ref aP, .int p0, .int p1, .int p2])).length) Slot.unset).toArray = ls at hl ⊢
  have hl : lv_has ls 5 [(0, .ref aP), (1, .int p0), (2, .int p1), (3, .int p2)] := hl
  have iX4 : ∀ w ∈ wsX40, w ∈ wsX4_stand := fun w h => List.mem_cons_of_mem _ (List.mem_append_left _ (List.mem_append_left _ (List.mem_append_left _ (List.mem_append_right _ h))))
  have k_1 := hts (.fieldLink RX4 22 "ParkWays" "field" "LParkWays$Field;") (List.mem_of_getElem? (i := 1) rfl)
  have k_2 := hts (.fieldLink RX4 31 "ParkWays" "car" "LParkWays$Car;") (List.mem_of_getElem? (i := 2) rfl)
  have k_3 := hts (.fieldLink RX4 103 "ParkWays" "place" "I") (List.mem_of_getElem? (i := 3) rfl)
  have k_4 := hts (.fieldLink RX4 106 "ParkWays" "home" "I") (List.mem_of_getElem? (i := 4) rfl)
  have k_5 := hts (.fieldLink RX4 53 "ParkWays" "way" "LParkWays$Way;") (List.mem_of_getElem? (i := 5) rfl)
  unfold J_X4_stand at hJ
  refine lv_aload_n hx hb dX4_stand_0 rfl (lv_at hl 0 rfl) ?_
  refine va_get (D := D) (ci := 5) (v := .ref aF) (C := RX4) (T := TX4) (N := 11) hx hb hts iX4 hown hK hP 0 rfl rfl 0 (by decide) k_1 (fun _ h9 => h9) rfl dX4_stand_1 ?_
  refine lv_iload_n hx hb dX4_stand_4 rfl (lv_at hl 1 rfl) ?_
  refine lv_iload_n hx hb dX4_stand_5 rfl (lv_at hl 2 rfl) ?_
  obtain ⟨v_1, hv_1, hJ⟩ := j_b hJ
  refine ro_i (va_runV (As := [.int p0, .int p1]) (rest := []) ⟨hx, hb, hml, hown, hts⟩ (c_X1_hasCell l D aF aFu aFk cFu cFk w ht tn kp nFu fu nFk fk p0 p1 tX tY s.heap.size F v_1 hv_1) (cwV 2 hts gX4_stand_X1_hasCell rfl rfl rfl (by decide +kernel) ⟨Nat.le_of_ble_eq_true rfl, Nat.le_of_ble_eq_true rfl⟩) (preRV [.int p0, .int p1] hP hK hS hA hST [6, 7, 8] rfl [3, 4] rfl (ci := 2) (q0 := 6) rfl rfl) rfl rfl hl.1 rfl (lv_room (Nat.le_of_ble_eq_true rfl)) dX4_stand_6 ⟨Nat.zero_le _, Nat.zero_le _⟩) hP hS hA (fun H locs hP hS => ?_)
  refine lv_if_eq (tgt := 23) hx hb dX4_stand_9 (by decide) (fun c_2 => ?_) (fun c_2 => ?_)
  · have hJ := j_t c_2 hJ
    refine lv_bipush (v := (-2)) hx hb dX4_stand_23 (by decide) ?_
    have ho := Option.some.inj hJ
    exact W.iret (v := (-2 : Int32)) hx hb hr (fun t ht hW => ⟨⟨_, (), rfl, (by rw [← ho]), (by rw [ht, ← ho]; exact hP), (by rw [← ho]; exact hD)⟩, hS.F ht⟩) hS.2.2 dX4_stand_25
  · have hJ := j_f c_2 hJ
    refine lv_aload_n hx hb dX4_stand_12 rfl (lv_at hl 0 rfl) ?_
    refine va_get (D := D) (ci := 5) (v := .ref aF) (C := RX4) (T := TX4) (N := 11) hx hb hts iX4 hown hK hP 0 rfl rfl 0 (by decide) k_1 (fun _ h9 => h9) rfl dX4_stand_13 ?_
    refine lv_iload_n hx hb dX4_stand_16 rfl (lv_at hl 3 rfl) ?_
    obtain ⟨v_3, hv_3, hJ⟩ := j_b hJ
    refine ro_i (va_runV (As := [.int p2]) (rest := []) ⟨hx, hb, hml, hown, hts⟩ (c_X1_hasHeading l D aF aFu aFk cFu cFk w ht tn kp nFu fu nFk fk p2 tX tY H.size F v_3 hv_3) (cwV 1 hts gX4_stand_X1_hasHeading rfl rfl rfl (by decide +kernel) ⟨Nat.le_of_ble_eq_true rfl, Nat.le_of_ble_eq_true rfl⟩) (preRV [.int p2] hP hK hS hA hST [6, 7, 8] rfl [3, 4] rfl (ci := 2) (q0 := 6) rfl rfl) rfl rfl hl.1 rfl (lv_room (Nat.le_of_ble_eq_true rfl)) dX4_stand_17 ⟨Nat.zero_le _, Nat.zero_le _⟩) hP hS hA (fun H locs hP hS => ?_)
    refine lv_if_ne (tgt := 26) hx hb dX4_stand_20 (by decide) (fun c_4 => ?_) (fun c_4 => ?_)
    · have hJ := j_f c_4 hJ
      refine lv_iload_n hx hb dX4_stand_26 rfl (lv_at hl 1 rfl) ?_
      refine lv_iload_n hx hb dX4_stand_27 rfl (lv_at hl 2 rfl) ?_
      refine lv_iload_n hx hb dX4_stand_28 rfl (lv_at hl 3 rfl) ?_
      obtain ⟨v_5, hv_5, hJ⟩ := j_b hJ
      refine ro_i (va_runS (As := [.int p0, .int p1, .int p2]) (rest := []) ⟨hx, hb, hml, hown, hts⟩ (c_X4_placeAt l D p0 p1 p2 tX tY H.size F v_5 hv_5) (va_cwS 3 hts gX4_stand_X4_placeAt rfl rfl rfl (by decide +kernel) ⟨Nat.le_of_ble_eq_true rfl, Nat.le_of_ble_eq_true rfl⟩) (preRS [.int p0, .int p1, .int p2] hP hK hS hA hST [] rfl [] rfl) rfl rfl hl.1 rfl (lv_room (Nat.le_of_ble_eq_true rfl)) dX4_stand_29 ⟨Nat.zero_le _, Nat.zero_le _⟩) hP hS hA (fun H locs hP hS => ?_)
      refine lv_istore (lv' := [(4, .int v_5), (0, .ref aP), (1, .int p0), (2, .int p1), (3, .int p2)]) hx hb dX4_stand_32 hl (by decide) rfl (fun ls hl => ?_)
      refine lv_aload_n hx hb dX4_stand_34 rfl (lv_at hl 1 rfl) ?_
      refine va_get (D := D) (ci := 5) (v := .ref aC) (C := RX4) (T := TX4) (N := 11) hx hb hts iX4 hown hK hP 0 rfl rfl 1 (by decide) k_2 (fun _ h9 => h9) rfl dX4_stand_35 ?_
      refine lv_iload hx hb dX4_stand_38 (lv_at hl 0 rfl) ?_
      obtain ⟨v_6, hv_6, hJ⟩ := j_b hJ
      refine wr_i (wr := [(aP, .inr (5, [.ref aF, .ref aC, .ref aS, .ref aW, .int plc, .int hom, .int gol, .long stp, .int exa, .int hld, .double err])), (aS, .inr (3, [.ref aC, .ref aCo, .ref aQu, .int rch])), (aCo, .inl (cCo, nCo, .inr (.inl co))), (aQu, .inl (cQu, nQu, .inl qu)), (aW, .inr (4, [.ref aMv, .ref aPl, .int cnt, .int mde, .int stn])), (aMv, .inl (cMv, nMv, .inl mv)), (aPl, .inl (cPl, nPl, .inl pl))]) (wn := [(aP, .inr (5, [.ref aF, .ref aC, .ref aS, .ref aW, .int plc, .int hom, .int gol, .long stp, .int exa, .int hld, .double err])), (aS, .inr (3, [.ref aC, .ref aCo, .ref aQu, .int rch])), (aCo, .inl (cCo, nCo, .inr (.inl co))), (aQu, .inl (cQu, nQu, .inl qu)), (aC, .inr (1, [.ref aF, .ref aKn, .int ln, .int wd, .int rd])), (aKn, .inl (cKn, nKn, .inl v_6.2)), (aF, .inr (2, [.int w, .int ht, .int tn, .ref aFu, .ref aFk, .int kp])), (aFu, .inl (cFu, nFu, .inl fu)), (aFk, .inl (cFk, nFk, .inl fk)), (aW, .inr (4, [.ref aMv, .ref aPl, .int cnt, .int mde, .int stn])), (aMv, .inl (cMv, nMv, .inl mv)), (aPl, .inl (cPl, nPl, .inl pl))]) (va_runV (As := [.int v_5]) (rest := []) ⟨hx, hb, hml, hown, hts⟩ (c_X0_isFree l D aC aKn aF aFu aFk cKn cFu cFk ln wd rd nKn kn w ht tn kp nFu fu nFk fk v_5 tX tY H.size F v_6 hv_6) (cwV 1 hts gX4_stand_X0_isFree rfl rfl rfl (by decide +kernel) ⟨Nat.le_of_ble_eq_true rfl, Nat.le_of_ble_eq_true rfl⟩) (preWV [.int v_5] hP hD hK hS hA hST [4, 5, 6, 7, 8] rfl rfl rfl [2, 3, 4] rfl (ci := 1) (q0 := 4) rfl rfl) rfl rfl hl.1 rfl (lv_room (Nat.le_of_ble_eq_true rfl)) dX4_stand_40 ⟨Nat.zero_le _, Nat.zero_le _⟩) hP hD hS hA [4, 5, 6, 7, 8] [0, 1, 2, 3, 9, 10, 11] rfl rfl rfl (by decide) [0, 1, 2, 3, 7, 8, 9, 10, 11, 4, 5, 6] rfl rfl rfl (fun H locs hP hD hS => ?_)
      refine lv_if_ne (tgt := 49) hx hb dX4_stand_43 (by decide) (fun c_7 => ?_) (fun c_7 => ?_)
      · have hJ := j_f c_7 hJ
        refine lv_aload_n hx hb dX4_stand_49 rfl (lv_at hl 1 rfl) ?_
        refine lv_iload hx hb dX4_stand_50 (lv_at hl 0 rfl) ?_
        refine va_put (D := D) (ci := 5) (v := .int v_5) (ty := .int) (C := RX4) (T := TX4) (N := 11) hx hb hts iX4 tyX4 tyX4_ok nmX4 hown hK hP hD hS 0 rfl rfl 4 (by decide) k_3 (fun _ h9 => h9) rfl (by decide +kernel) rfl rfl (Nat.le_of_ble_eq_true rfl) dX4_stand_52 (fun H locs hP hD hS => ?_)
        have hP : va_P D vwCl [(aP, .inr (5, [.ref aF, .ref aC, .ref aS, .ref aW, .int v_5, .int hom, .int gol, .long stp, .int exa, .int hld, .double err])), (aS, .inr (3, [.ref aC, .ref aCo, .ref aQu, .int rch])), (aCo, .inl (cCo, nCo, .inr (.inl co))), (aQu, .inl (cQu, nQu, .inl qu)), (aC, .inr (1, [.ref aF, .ref aKn, .int ln, .int wd, .int rd])), (aKn, .inl (cKn, nKn, .inl v_6.2)), (aF, .inr (2, [.int w, .int ht, .int tn, .ref aFu, .ref aFk, .int kp])), (aFu, .inl (cFu, nFu, .inl fu)), (aFk, .inl (cFk, nFk, .inl fk)), (aW, .inr (4, [.ref aMv, .ref aPl, .int cnt, .int mde, .int stn])), (aMv, .inl (cMv, nMv, .inl mv)), (aPl, .inl (cPl, nPl, .inl pl))] H := hP
        have hD : va_D A [(aP, .inr (5, [.ref aF, .ref aC, .ref aS, .ref aW, .int v_5, .int hom, .int gol, .long stp, .int exa, .int hld, .double err])), (aS, .inr (3, [.ref aC, .ref aCo, .ref aQu, .int rch])), (aCo, .inl (cCo, nCo, .inr (.inl co))), (aQu, .inl (cQu, nQu, .inl qu)), (aC, .inr (1, [.ref aF, .ref aKn, .int ln, .int wd, .int rd])), (aKn, .inl (cKn, nKn, .inl v_6.2)), (aF, .inr (2, [.int w, .int ht, .int tn, .ref aFu, .ref aFk, .int kp])), (aFu, .inl (cFu, nFu, .inl fu)), (aFk, .inl (cFk, nFk, .inl fk)), (aW, .inr (4, [.ref aMv, .ref aPl, .int cnt, .int mde, .int stn])), (aMv, .inl (cMv, nMv, .inl mv)), (aPl, .inl (cPl, nPl, .inl pl))] := hD
        refine lv_aload_n hx hb dX4_stand_55 rfl (lv_at hl 1 rfl) ?_
        refine lv_iload hx hb dX4_stand_56 (lv_at hl 0 rfl) ?_
        refine va_put (D := D) (ci := 5) (v := .int v_5) (ty := .int) (C := RX4) (T := TX4) (N := 11) hx hb hts iX4 tyX4 tyX4_ok nmX4 hown hK hP hD hS 0 rfl rfl 5 (by decide) k_4 (fun _ h9 => h9) rfl (by decide +kernel) rfl rfl (Nat.le_of_ble_eq_true rfl) dX4_stand_58 (fun H locs hP hD hS => ?_)
        have hP : va_P D vwCl [(aP, .inr (5, [.ref aF, .ref aC, .ref aS, .ref aW, .int v_5, .int v_5, .int gol, .long stp, .int exa, .int hld, .double err])), (aS, .inr (3, [.ref aC, .ref aCo, .ref aQu, .int rch])), (aCo, .inl (cCo, nCo, .inr (.inl co))), (aQu, .inl (cQu, nQu, .inl qu)), (aC, .inr (1, [.ref aF, .ref aKn, .int ln, .int wd, .int rd])), (aKn, .inl (cKn, nKn, .inl v_6.2)), (aF, .inr (2, [.int w, .int ht, .int tn, .ref aFu, .ref aFk, .int kp])), (aFu, .inl (cFu, nFu, .inl fu)), (aFk, .inl (cFk, nFk, .inl fk)), (aW, .inr (4, [.ref aMv, .ref aPl, .int cnt, .int mde, .int stn])), (aMv, .inl (cMv, nMv, .inl mv)), (aPl, .inl (cPl, nPl, .inl pl))] H := hP
        have hD : va_D A [(aP, .inr (5, [.ref aF, .ref aC, .ref aS, .ref aW, .int v_5, .int v_5, .int gol, .long stp, .int exa, .int hld, .double err])), (aS, .inr (3, [.ref aC, .ref aCo, .ref aQu, .int rch])), (aCo, .inl (cCo, nCo, .inr (.inl co))), (aQu, .inl (cQu, nQu, .inl qu)), (aC, .inr (1, [.ref aF, .ref aKn, .int ln, .int wd, .int rd])), (aKn, .inl (cKn, nKn, .inl v_6.2)), (aF, .inr (2, [.int w, .int ht, .int tn, .ref aFu, .ref aFk, .int kp])), (aFu, .inl (cFu, nFu, .inl fu)), (aFk, .inl (cFk, nFk, .inl fk)), (aW, .inr (4, [.ref aMv, .ref aPl, .int cnt, .int mde, .int stn])), (aMv, .inl (cMv, nMv, .inl mv)), (aPl, .inl (cPl, nPl, .inl pl))] := hD
        refine lv_aload_n hx hb dX4_stand_61 rfl (lv_at hl 1 rfl) ?_
        refine va_get (D := D) (ci := 5) (v := .ref aW) (C := RX4) (T := TX4) (N := 11) hx hb hts iX4 hown hK hP 0 rfl rfl 3 (by decide) k_5 (fun _ h9 => h9) rfl dX4_stand_62 ?_
        obtain ⟨v_8, hv_8, hJ⟩ := j_b hJ
        refine wr_v (wr := [(aP, .inr (5, [.ref aF, .ref aC, .ref aS, .ref aW, .int v_5, .int v_5, .int gol, .long stp, .int exa, .int hld, .double err])), (aS, .inr (3, [.ref aC, .ref aCo, .ref aQu, .int rch])), (aCo, .inl (cCo, nCo, .inr (.inl co))), (aQu, .inl (cQu, nQu, .inl qu)), (aC, .inr (1, [.ref aF, .ref aKn, .int ln, .int wd, .int rd])), (aKn, .inl (cKn, nKn, .inl v_6.2)), (aF, .inr (2, [.int w, .int ht, .int tn, .ref aFu, .ref aFk, .int kp])), (aFu, .inl (cFu, nFu, .inl fu)), (aFk, .inl (cFk, nFk, .inl fk))]) (wn := [(aP, .inr (5, [.ref aF, .ref aC, .ref aS, .ref aW, .int v_5, .int v_5, .int gol, .long stp, .int exa, .int hld, .double err])), (aS, .inr (3, [.ref aC, .ref aCo, .ref aQu, .int rch])), (aCo, .inl (cCo, nCo, .inr (.inl co))), (aQu, .inl (cQu, nQu, .inl qu)), (aC, .inr (1, [.ref aF, .ref aKn, .int ln, .int wd, .int rd])), (aKn, .inl (cKn, nKn, .inl v_6.2)), (aF, .inr (2, [.int w, .int ht, .int tn, .ref aFu, .ref aFk, .int kp])), (aFu, .inl (cFu, nFu, .inl fu)), (aFk, .inl (cFk, nFk, .inl fk)), (aW, .inr (4, [.ref aMv, .ref aPl, .int v_8.1, .int v_8.2.1, .int v_8.2.2])), (aMv, .inl (cMv, nMv, .inl mv)), (aPl, .inl (cPl, nPl, .inl pl))]) (va_runV (As := []) (rest := []) ⟨hx, hb, hml, hown, hts⟩ (c_X3_drop l D aW aMv aPl cMv cPl cnt mde stn nMv mv nPl pl tX tY H.size F v_8 hv_8) (cwV 0 hts gX4_stand_X3_drop rfl rfl rfl (by decide +kernel) ⟨Nat.le_of_ble_eq_true rfl, Nat.le_of_ble_eq_true rfl⟩) (preWV [] hP hD hK hS hA hST [9, 10, 11] rfl rfl rfl [5, 6] rfl (ci := 4) (q0 := 9) rfl rfl) rfl rfl hl.1 rfl (lv_room (Nat.le_of_ble_eq_true rfl)) dX4_stand_65 ⟨Nat.zero_le _, Nat.zero_le _⟩) hP hD hS hA [9, 10, 11] [0, 1, 2, 3, 4, 5, 6, 7, 8] rfl rfl rfl (by decide) [0, 1, 2, 3, 4, 5, 6, 7, 8, 9, 10, 11] rfl rfl rfl (fun H locs hP hD hS => ?_)
        refine lv_iconst (v := 1) hx hb dX4_stand_68 (by decide) ?_
        have ho := Option.some.inj hJ
        exact W.iret (v := (1 : Int32)) hx hb hr (fun t ht hW => ⟨⟨_, (), rfl, (by rw [← ho]), (by rw [ht, ← ho]; exact hP), (by rw [← ho]; exact hD)⟩, hS.F ht⟩) hS.2.2 dX4_stand_69
      · have hJ := j_t c_7 hJ
        refine lv_bipush (v := (-3)) hx hb dX4_stand_46 (by decide) ?_
        have ho := Option.some.inj hJ
        exact W.iret (v := (-3 : Int32)) hx hb hr (fun t ht hW => ⟨⟨_, (), rfl, (by rw [← ho]), (by rw [ht, ← ho]; exact hP), (by rw [← ho]; exact hD)⟩, hS.F ht⟩) hS.2.2 dX4_stand_48
    · have hJ := j_t c_4 hJ
      refine lv_bipush (v := (-2)) hx hb dX4_stand_23 (by decide) ?_
      have ho := Option.some.inj hJ
      exact W.iret (v := (-2 : Int32)) hx hb hr (fun t ht hW => ⟨⟨_, (), rfl, (by rw [← ho]), (by rw [ht, ← ho]; exact hP), (by rw [← ho]; exact hD)⟩, hS.F ht⟩) hS.2.2 dX4_stand_25
set_option maxHeartbeats 4000000 in
set_option maxRecDepth 100000 in
theorem c_X4_space (l : Launch) (D : va_G) (aP aS aCo aQu aC aKn aF aFu aFk aW aMv aPl : Nat) (cCo cQu cKn cFu cFk cMv cPl : ClassId) (plc : Int32) (hom : Int32) (gol : Int32) (stp : Int64) (exa : Int32) (hld : Int32) (err : UInt64) (rch : Int32) (nCo : Nat) (co : Nat → Int64) (nQu : Nat) (qu : Nat → Int32) (ln : Int32) (wd : Int32) (rd : Int32) (nKn : Nat) (kn : Nat → Int32) (w : Int32) (ht : Int32) (tn : Int32) (kp : Int32) (nFu : Nat) (fu : Nat → Int32) (nFk : Nat) (fk : Nat → Int32) (cnt : Int32) (mde : Int32) (stn : Int32) (nMv : Nat) (mv : Nat → Int32) (nPl : Nat) (pl : Nat → Int32) (p0 : Int32) (p1 : Int32) (tX tY sz F : Nat) (o : Int32 × Int32 × Int32 × Int32 × Int32) (hJ : J_X4_space F gol w ht nFu fu cnt mde stn p0 p1 = some o) : Met l yX4_space wsX4_space rmX4_space (va_Pc [.ref aP, .int p0, .int p1] (pcW D [(aP, .inr (5, [.ref aF, .ref aC, .ref aS, .ref aW, .int plc, .int hom, .int gol, .long stp, .int exa, .int hld, .double err])), (aS, .inr (3, [.ref aC, .ref aCo, .ref aQu, .int rch])), (aCo, .inl (cCo, nCo, .inr (.inl co))), (aQu, .inl (cQu, nQu, .inl qu)), (aC, .inr (1, [.ref aF, .ref aKn, .int ln, .int wd, .int rd])), (aKn, .inl (cKn, nKn, .inl kn)), (aF, .inr (2, [.int w, .int ht, .int tn, .ref aFu, .ref aFk, .int kp])), (aFu, .inl (cFu, nFu, .inl fu)), (aFk, .inl (cFk, nFk, .inl fk)), (aW, .inr (4, [.ref aMv, .ref aPl, .int cnt, .int mde, .int stn])), (aMv, .inl (cMv, nMv, .inl mv)), (aPl, .inl (cPl, nPl, .inl pl))] [(cCo, .long), (cQu, .int), (cKn, .int), (cFu, .boolean), (cFk, .int), (cMv, .int), (cPl, .int)] sz tX tY)) (qWi D o.1 [(aP, .inr (5, [.ref aF, .ref aC, .ref aS, .ref aW, .int plc, .int hom, .int o.2.1, .long stp, .int exa, .int hld, .double err])), (aS, .inr (3, [.ref aC, .ref aCo, .ref aQu, .int rch])), (aCo, .inl (cCo, nCo, .inr (.inl co))), (aQu, .inl (cQu, nQu, .inl qu)), (aC, .inr (1, [.ref aF, .ref aKn, .int ln, .int wd, .int rd])), (aKn, .inl (cKn, nKn, .inl kn)), (aF, .inr (2, [.int w, .int ht, .int tn, .ref aFu, .ref aFk, .int kp])), (aFu, .inl (cFu, nFu, .inl fu)), (aFk, .inl (cFk, nFk, .inl fk)), (aW, .inr (4, [.ref aMv, .ref aPl, .int o.2.2.1, .int o.2.2.2.1, .int o.2.2.2.2])), (aMv, .inl (cMv, nMv, .inl mv)), (aPl, .inl (cPl, nPl, .inl pl))] (va_A [(aP, .inr (5, [.ref aF, .ref aC, .ref aS, .ref aW, .int plc, .int hom, .int gol, .long stp, .int exa, .int hld, .double err])), (aS, .inr (3, [.ref aC, .ref aCo, .ref aQu, .int rch])), (aCo, .inl (cCo, nCo, .inr (.inl co))), (aQu, .inl (cQu, nQu, .inl qu)), (aC, .inr (1, [.ref aF, .ref aKn, .int ln, .int wd, .int rd])), (aKn, .inl (cKn, nKn, .inl kn)), (aF, .inr (2, [.int w, .int ht, .int tn, .ref aFu, .ref aFk, .int kp])), (aFu, .inl (cFu, nFu, .inl fu)), (aFk, .inl (cFk, nFk, .inl fk)), (aW, .inr (4, [.ref aMv, .ref aPl, .int cnt, .int mde, .int stn])), (aMv, .inl (cMv, nMv, .inl mv)), (aPl, .inl (cPl, nPl, .inl pl))] sz)) 0 0 (va_A [(aP, .inr (5, [.ref aF, .ref aC, .ref aS, .ref aW, .int plc, .int hom, .int gol, .long stp, .int exa, .int hld, .double err])), (aS, .inr (3, [.ref aC, .ref aCo, .ref aQu, .int rch])), (aCo, .inl (cCo, nCo, .inr (.inl co))), (aQu, .inl (cQu, nQu, .inl qu)), (aC, .inr (1, [.ref aF, .ref aKn, .int ln, .int wd, .int rd])), (aKn, .inl (cKn, nKn, .inl kn)), (aF, .inr (2, [.int w, .int ht, .int tn, .ref aFu, .ref aFk, .int kp])), (aFu, .inl (cFu, nFu, .inl fu)), (aFk, .inl (cFk, nFk, .inl fk)), (aW, .inr (4, [.ref aMv, .ref aPl, .int cnt, .int mde, .int stn])), (aMv, .inl (cMv, nMv, .inl mv)), (aPl, .inl (cPl, nPl, .inl pl))] sz) := by
  refine Met.ofW (cc := cX4_space) (maxL := 5) (ret := (some .int)) (by decide) rfl ?_
  intro p e s m args below meth c s₁ B hml hv
  obtain ⟨rfl, hsz, hP, hK, hD0, hST⟩ := hv
  have hx := B.exec
  have hb := B.bytes
  have hr := B.returns
  have hts := atoms_spec (ws := wsX4_space) B.pre
  have hown : s.vm.findClass RX4 = some m.cls := findClass_of_methodNamed B.named
  have hlocks := B.notSynchronized
  subst hsz
  have hD := hD0.self (sz := s.heap.size)
  generalize hAe : va_A [(aP, .inr (5, [.ref aF, .ref aC, .ref aS, .ref aW, .int plc, .int hom, .int gol, .long stp, .int exa, .int hld, .double err])), (aS, .inr (3, [.ref aC, .ref aCo, .ref aQu, .int rch])), (aCo, .inl (cCo, nCo, .inr (.inl co))), (aQu, .inl (cQu, nQu, .inl qu)), (aC, .inr (1, [.ref aF, .ref aKn, .int ln, .int wd, .int rd])), (aKn, .inl (cKn, nKn, .inl kn)), (aF, .inr (2, [.int w, .int ht, .int tn, .ref aFu, .ref aFk, .int kp])), (aFu, .inl (cFu, nFu, .inl fu)), (aFk, .inl (cFk, nFk, .inl fk)), (aW, .inr (4, [.ref aMv, .ref aPl, .int cnt, .int mde, .int stn])), (aMv, .inl (cMv, nMv, .inl mv)), (aPl, .inl (cPl, nPl, .inl pl))] s.heap.size = A at hD hST ⊢
  have hA : ∀ q : Nat, s.heap.size ≤ q → A q := fun q h => by rw [← hAe]; exact Or.inr h
  have hS : va_S A s.heap s.heap [] := va_S.rf
  have hl := lv_entry ([.ref aP, .int p0, .int p1]) (n := 5) (Nat.le_of_ble_eq_true rfl)
  rw [lg_entry_eq]
  generalize (lg_sl ([.ref aP, .int p0, .int p1]) ++ List.replicate (5 - (lg_sl ([.ref aP, .int p0, .int p1])).length) Slot.unset).toArray = ls at hl ⊢
  have hl : lv_has ls 5 [(0, .ref aP), (1, .int p0), (2, .int p1)] := hl
  have iX1 : ∀ w ∈ wsX10, w ∈ wsX4_space := fun w h => List.mem_cons_of_mem _ (List.mem_append_left _ (List.mem_append_right _ h))
  have iX4 : ∀ w ∈ wsX40, w ∈ wsX4_space := fun w h => List.mem_cons_of_mem _ (List.mem_append_left _ (List.mem_append_left _ (List.mem_append_right _ h)))
  have k_1 := hts (.fieldLink RX4 22 "ParkWays" "field" "LParkWays$Field;") (List.mem_of_getElem? (i := 1) rfl)
  have k_2 := hts (.fieldLink RX4 122 "ParkWays" "goal" "I") (List.mem_of_getElem? (i := 2) rfl)
  have k_3 := hts (.fieldLink RX4 53 "ParkWays" "way" "LParkWays$Way;") (List.mem_of_getElem? (i := 3) rfl)
  unfold J_X4_space at hJ
  refine lv_iconst (v := 1) hx hb dX4_space_0 (by decide) ?_
  refine lv_iload_n hx hb dX4_space_1 rfl (lv_at hl 2 rfl) ?_
  refine lv_aload_n hx hb dX4_space_2 rfl (lv_at hl 0 rfl) ?_
  refine va_get (D := D) (ci := 5) (v := .ref aF) (C := RX4) (T := TX4) (N := 11) hx hb hts iX4 hown hK hP 0 rfl rfl 0 (by decide) k_1 (fun _ h9 => h9) rfl dX4_space_3 ?_
  refine va_getN (D := D) (ci := 2) (v := .int w) (C := RX1) (T := TX1) (N := 6) hx hb hts iX1 hown hK hP 6 rfl rfl 0 (by decide) (va_Nw.use rfl (hST.1.1)) (fun _ h9 => h9) rfl dX4_space_6 ?_
  obtain ⟨v_1, hv_1, hJ⟩ := j_b hJ
  refine ro_i (va_runS (As := [.int (1 : Int32), .int p1, .int w]) (rest := []) ⟨hx, hb, hml, hown, hts⟩ (c_X4_isFrom l D (1 : Int32) p1 w tX tY s.heap.size F v_1 hv_1) (va_cwS 3 hts gX4_space_X4_isFrom rfl rfl rfl (by decide +kernel) ⟨Nat.le_of_ble_eq_true rfl, Nat.le_of_ble_eq_true rfl⟩) (preRS [.int (1 : Int32), .int p1, .int w] hP hK hS hA hST [] rfl [] rfl) rfl rfl hl.1 rfl (lv_room (Nat.le_of_ble_eq_true rfl)) dX4_space_9 ⟨Nat.zero_le _, Nat.zero_le _⟩) hP hS hA (fun H locs hP hS => ?_)
  refine lv_if_ne (tgt := 18) hx hb dX4_space_12 (by decide) (fun c_2 => ?_) (fun c_2 => ?_)
  · have hJ := j_f c_2 hJ
    refine lv_iload_n hx hb dX4_space_18 rfl (lv_at hl 1 rfl) ?_
    refine lv_if_ne (tgt := 26) hx hb dX4_space_19 (by decide) (fun c_3 => ?_) (fun c_3 => ?_)
    · have hJ := j_f c_3 hJ
      refine lv_aload_n hx hb dX4_space_26 rfl (lv_at hl 0 rfl) ?_
      refine va_get (D := D) (ci := 5) (v := .ref aF) (C := RX4) (T := TX4) (N := 11) hx hb hts iX4 hown hK hP 0 rfl rfl 0 (by decide) k_1 (fun _ h9 => h9) rfl dX4_space_27 ?_
      refine va_getN (D := D) (ci := 2) (v := .int ht) (C := RX1) (T := TX1) (N := 6) hx hb hts iX1 hown hK hP 6 rfl rfl 1 (by decide) (va_Nw.use rfl (hST.1.2.1)) (fun _ h9 => h9) rfl dX4_space_30 ?_
      refine lv_iconst (v := 1) hx hb dX4_space_33 (by decide) ?_
      refine lv_isub hx hb dX4_space_34 ?_
      refine lv_istore_n (lv' := [(3, .int (ht - (1 : Int32))), (0, .ref aP), (1, .int p0), (2, .int p1)]) hx hb dX4_space_35 rfl hl (by decide) rfl (fun ls hl => ?_)
      refine lv_aload_n hx hb dX4_space_36 rfl (lv_at hl 1 rfl) ?_
      refine va_get (D := D) (ci := 5) (v := .ref aF) (C := RX4) (T := TX4) (N := 11) hx hb hts iX4 hown hK hP 0 rfl rfl 0 (by decide) k_1 (fun _ h9 => h9) rfl dX4_space_37 ?_
      refine lv_iload_n hx hb dX4_space_40 rfl (lv_at hl 0 rfl) ?_
      refine lv_iload_n hx hb dX4_space_41 rfl (lv_at hl 3 rfl) ?_
      obtain ⟨v_4, hv_4, hJ⟩ := j_b hJ
      refine ro_i (va_runV (As := [.int (ht - (1 : Int32)), .int p1]) (rest := []) ⟨hx, hb, hml, hown, hts⟩ (c_X1_firstRun l D aF aFu aFk cFu cFk w ht tn kp nFu fu nFk fk (ht - (1 : Int32)) p1 tX tY H.size F v_4 hv_4) (cwV 2 hts gX4_space_X1_firstRun rfl rfl rfl (by decide +kernel) ⟨Nat.le_of_ble_eq_true rfl, Nat.le_of_ble_eq_true rfl⟩) (preRV [.int (ht - (1 : Int32)), .int p1] hP hK hS hA hST [6, 7, 8] rfl [3, 4] rfl (ci := 2) (q0 := 6) rfl rfl) rfl rfl hl.1 rfl (lv_room (Nat.le_of_ble_eq_true rfl)) dX4_space_42 ⟨Nat.zero_le _, Nat.zero_le _⟩) hP hS hA (fun H locs hP hS => ?_)
      refine lv_istore (lv' := [(4, .int v_4), (3, .int (ht - (1 : Int32))), (0, .ref aP), (1, .int p0), (2, .int p1)]) hx hb dX4_space_45 hl (by decide) rfl (fun ls hl => ?_)
      refine lv_iload hx hb dX4_space_47 (lv_at hl 0 rfl) ?_
      refine lv_if_ge (tgt := 54) hx hb dX4_space_49 (by decide) (fun c_5 => ?_) (fun c_5 => ?_)
      · have hJ := j_t c_5 hJ
        refine lv_aload_n hx hb dX4_space_54 rfl (lv_at hl 2 rfl) ?_
        refine lv_iload hx hb dX4_space_55 (lv_at hl 0 rfl) ?_
        refine lv_aload_n hx hb dX4_space_57 rfl (lv_at hl 2 rfl) ?_
        refine va_get (D := D) (ci := 5) (v := .ref aF) (C := RX4) (T := TX4) (N := 11) hx hb hts iX4 hown hK hP 0 rfl rfl 0 (by decide) k_1 (fun _ h9 => h9) rfl dX4_space_58 ?_
        refine lv_iload hx hb dX4_space_61 (lv_at hl 0 rfl) ?_
        refine lv_iload_n hx hb dX4_space_63 rfl (lv_at hl 1 rfl) ?_
        obtain ⟨v_6, hv_6, hJ⟩ := j_b hJ
        refine ro_i (va_runV (As := [.int v_4, .int (ht - (1 : Int32))]) (rest := [.int v_4, .ref aP]) ⟨hx, hb, hml, hown, hts⟩ (c_X1_runLength l D aF aFu aFk cFu cFk w ht tn kp nFu fu nFk fk v_4 (ht - (1 : Int32)) tX tY H.size F v_6 hv_6) (cwV 2 hts gX4_space_X1_runLength rfl rfl rfl (by decide +kernel) ⟨Nat.le_of_ble_eq_true rfl, Nat.le_of_ble_eq_true rfl⟩) (preRV [.int v_4, .int (ht - (1 : Int32))] hP hK hS hA hST [6, 7, 8] rfl [3, 4] rfl (ci := 2) (q0 := 6) rfl rfl) rfl rfl hl.1 rfl (lv_room (Nat.le_of_ble_eq_true rfl)) dX4_space_64 ⟨Nat.zero_le _, Nat.zero_le _⟩) hP hS hA (fun H locs hP hS => ?_)
        refine lv_iconst (v := 1) hx hb dX4_space_67 (by decide) ?_
        refine lv_isub hx hb dX4_space_68 ?_
        refine lv_iconst (v := 2) hx hb dX4_space_69 (by decide) ?_
        refine lv_idiv hx hb dX4_space_70 (by decide) ?_
        refine lv_iadd hx hb dX4_space_71 ?_
        refine lv_iload_n hx hb dX4_space_72 rfl (lv_at hl 1 rfl) ?_
        refine lv_iconst (v := 0) hx hb dX4_space_73 (by decide) ?_
        obtain ⟨v_7, hv_7, hJ⟩ := j_b hJ
        refine ro_i (va_runS (As := [.int (v_4 + ((v_6 - (1 : Int32)) / (2 : Int32))), .int (ht - (1 : Int32)), .int (0 : Int32)]) (rest := [.ref aP]) ⟨hx, hb, hml, hown, hts⟩ (c_X4_placeAt l D (v_4 + ((v_6 - (1 : Int32)) / (2 : Int32))) (ht - (1 : Int32)) (0 : Int32) tX tY H.size F v_7 hv_7) (va_cwS 3 hts gX4_space_X4_placeAt rfl rfl rfl (by decide +kernel) ⟨Nat.le_of_ble_eq_true rfl, Nat.le_of_ble_eq_true rfl⟩) (preRS [.int (v_4 + ((v_6 - (1 : Int32)) / (2 : Int32))), .int (ht - (1 : Int32)), .int (0 : Int32)] hP hK hS hA hST [] rfl [] rfl) rfl rfl hl.1 rfl (lv_room (Nat.le_of_ble_eq_true rfl)) dX4_space_74 ⟨Nat.zero_le _, Nat.zero_le _⟩) hP hS hA (fun H locs hP hS => ?_)
        refine va_put (D := D) (ci := 5) (v := .int v_7) (ty := .int) (C := RX4) (T := TX4) (N := 11) hx hb hts iX4 tyX4 tyX4_ok nmX4 hown hK hP hD hS 0 rfl rfl 6 (by decide) k_2 (fun _ h9 => h9) rfl (by decide +kernel) rfl rfl (Nat.le_of_ble_eq_true rfl) dX4_space_77 (fun H locs hP hD hS => ?_)
        have hP : va_P D vwCl [(aP, .inr (5, [.ref aF, .ref aC, .ref aS, .ref aW, .int plc, .int hom, .int v_7, .long stp, .int exa, .int hld, .double err])), (aS, .inr (3, [.ref aC, .ref aCo, .ref aQu, .int rch])), (aCo, .inl (cCo, nCo, .inr (.inl co))), (aQu, .inl (cQu, nQu, .inl qu)), (aC, .inr (1, [.ref aF, .ref aKn, .int ln, .int wd, .int rd])), (aKn, .inl (cKn, nKn, .inl kn)), (aF, .inr (2, [.int w, .int ht, .int tn, .ref aFu, .ref aFk, .int kp])), (aFu, .inl (cFu, nFu, .inl fu)), (aFk, .inl (cFk, nFk, .inl fk)), (aW, .inr (4, [.ref aMv, .ref aPl, .int cnt, .int mde, .int stn])), (aMv, .inl (cMv, nMv, .inl mv)), (aPl, .inl (cPl, nPl, .inl pl))] H := hP
        have hD : va_D A [(aP, .inr (5, [.ref aF, .ref aC, .ref aS, .ref aW, .int plc, .int hom, .int v_7, .long stp, .int exa, .int hld, .double err])), (aS, .inr (3, [.ref aC, .ref aCo, .ref aQu, .int rch])), (aCo, .inl (cCo, nCo, .inr (.inl co))), (aQu, .inl (cQu, nQu, .inl qu)), (aC, .inr (1, [.ref aF, .ref aKn, .int ln, .int wd, .int rd])), (aKn, .inl (cKn, nKn, .inl kn)), (aF, .inr (2, [.int w, .int ht, .int tn, .ref aFu, .ref aFk, .int kp])), (aFu, .inl (cFu, nFu, .inl fu)), (aFk, .inl (cFk, nFk, .inl fk)), (aW, .inr (4, [.ref aMv, .ref aPl, .int cnt, .int mde, .int stn])), (aMv, .inl (cMv, nMv, .inl mv)), (aPl, .inl (cPl, nPl, .inl pl))] := hD
        refine lv_aload_n hx hb dX4_space_80 rfl (lv_at hl 2 rfl) ?_
        refine va_get (D := D) (ci := 5) (v := .ref aW) (C := RX4) (T := TX4) (N := 11) hx hb hts iX4 hown hK hP 0 rfl rfl 3 (by decide) k_3 (fun _ h9 => h9) rfl dX4_space_81 ?_
        obtain ⟨v_8, hv_8, hJ⟩ := j_b hJ
        refine wr_v (wr := [(aP, .inr (5, [.ref aF, .ref aC, .ref aS, .ref aW, .int plc, .int hom, .int v_7, .long stp, .int exa, .int hld, .double err])), (aS, .inr (3, [.ref aC, .ref aCo, .ref aQu, .int rch])), (aCo, .inl (cCo, nCo, .inr (.inl co))), (aQu, .inl (cQu, nQu, .inl qu)), (aC, .inr (1, [.ref aF, .ref aKn, .int ln, .int wd, .int rd])), (aKn, .inl (cKn, nKn, .inl kn)), (aF, .inr (2, [.int w, .int ht, .int tn, .ref aFu, .ref aFk, .int kp])), (aFu, .inl (cFu, nFu, .inl fu)), (aFk, .inl (cFk, nFk, .inl fk))]) (wn := [(aP, .inr (5, [.ref aF, .ref aC, .ref aS, .ref aW, .int plc, .int hom, .int v_7, .long stp, .int exa, .int hld, .double err])), (aS, .inr (3, [.ref aC, .ref aCo, .ref aQu, .int rch])), (aCo, .inl (cCo, nCo, .inr (.inl co))), (aQu, .inl (cQu, nQu, .inl qu)), (aC, .inr (1, [.ref aF, .ref aKn, .int ln, .int wd, .int rd])), (aKn, .inl (cKn, nKn, .inl kn)), (aF, .inr (2, [.int w, .int ht, .int tn, .ref aFu, .ref aFk, .int kp])), (aFu, .inl (cFu, nFu, .inl fu)), (aFk, .inl (cFk, nFk, .inl fk)), (aW, .inr (4, [.ref aMv, .ref aPl, .int v_8.1, .int v_8.2.1, .int v_8.2.2])), (aMv, .inl (cMv, nMv, .inl mv)), (aPl, .inl (cPl, nPl, .inl pl))]) (va_runV (As := []) (rest := []) ⟨hx, hb, hml, hown, hts⟩ (c_X3_drop l D aW aMv aPl cMv cPl cnt mde stn nMv mv nPl pl tX tY H.size F v_8 hv_8) (cwV 0 hts gX4_space_X3_drop rfl rfl rfl (by decide +kernel) ⟨Nat.le_of_ble_eq_true rfl, Nat.le_of_ble_eq_true rfl⟩) (preWV [] hP hD hK hS hA hST [9, 10, 11] rfl rfl rfl [5, 6] rfl (ci := 4) (q0 := 9) rfl rfl) rfl rfl hl.1 rfl (lv_room (Nat.le_of_ble_eq_true rfl)) dX4_space_84 ⟨Nat.zero_le _, Nat.zero_le _⟩) hP hD hS hA [9, 10, 11] [0, 1, 2, 3, 4, 5, 6, 7, 8] rfl rfl rfl (by decide) [0, 1, 2, 3, 4, 5, 6, 7, 8, 9, 10, 11] rfl rfl rfl (fun H locs hP hD hS => ?_)
        refine lv_iload hx hb dX4_space_87 (lv_at hl 0 rfl) ?_
        refine lv_iconst (v := 1) hx hb dX4_space_89 (by decide) ?_
        refine lv_iadd hx hb dX4_space_90 ?_
        have ho := Option.some.inj hJ
        exact W.iret (v := (v_4 + (1 : Int32))) hx hb hr (fun t ht hW => ⟨⟨_, (), rfl, (by rw [← ho]), (by rw [ht, ← ho]; exact hP), (by rw [← ho]; exact hD)⟩, hS.F ht⟩) hS.2.2 dX4_space_91
      · have hJ := j_f c_5 hJ
        refine lv_iconst (v := 0) hx hb dX4_space_52 (by decide) ?_
        have ho := Option.some.inj hJ
        exact W.iret (v := (0 : Int32)) hx hb hr (fun t ht hW => ⟨⟨_, (), rfl, (by rw [← ho]), (by rw [ht, ← ho]; exact hP), (by rw [← ho]; exact hD)⟩, hS.F ht⟩) hS.2.2 dX4_space_53
    · have hJ := j_t c_3 hJ
      refine lv_iconst (v := 0) hx hb dX4_space_22 (by decide) ?_
      refine lv_goto (tgt := 35) hx hb dX4_space_23 (by decide) ?_
      refine lv_istore_n (lv' := [(3, .int (0 : Int32)), (0, .ref aP), (1, .int p0), (2, .int p1)]) hx hb dX4_space_35 rfl hl (by decide) rfl (fun ls hl => ?_)
      refine lv_aload_n hx hb dX4_space_36 rfl (lv_at hl 1 rfl) ?_
      refine va_get (D := D) (ci := 5) (v := .ref aF) (C := RX4) (T := TX4) (N := 11) hx hb hts iX4 hown hK hP 0 rfl rfl 0 (by decide) k_1 (fun _ h9 => h9) rfl dX4_space_37 ?_
      refine lv_iload_n hx hb dX4_space_40 rfl (lv_at hl 0 rfl) ?_
      refine lv_iload_n hx hb dX4_space_41 rfl (lv_at hl 3 rfl) ?_
      obtain ⟨v_9, hv_9, hJ⟩ := j_b hJ
      refine ro_i (va_runV (As := [.int (0 : Int32), .int p1]) (rest := []) ⟨hx, hb, hml, hown, hts⟩ (c_X1_firstRun l D aF aFu aFk cFu cFk w ht tn kp nFu fu nFk fk (0 : Int32) p1 tX tY H.size F v_9 hv_9) (cwV 2 hts gX4_space_X1_firstRun rfl rfl rfl (by decide +kernel) ⟨Nat.le_of_ble_eq_true rfl, Nat.le_of_ble_eq_true rfl⟩) (preRV [.int (0 : Int32), .int p1] hP hK hS hA hST [6, 7, 8] rfl [3, 4] rfl (ci := 2) (q0 := 6) rfl rfl) rfl rfl hl.1 rfl (lv_room (Nat.le_of_ble_eq_true rfl)) dX4_space_42 ⟨Nat.zero_le _, Nat.zero_le _⟩) hP hS hA (fun H locs hP hS => ?_)
      refine lv_istore (lv' := [(4, .int v_9), (3, .int (0 : Int32)), (0, .ref aP), (1, .int p0), (2, .int p1)]) hx hb dX4_space_45 hl (by decide) rfl (fun ls hl => ?_)
      refine lv_iload hx hb dX4_space_47 (lv_at hl 0 rfl) ?_
      refine lv_if_ge (tgt := 54) hx hb dX4_space_49 (by decide) (fun c_10 => ?_) (fun c_10 => ?_)
      · have hJ := j_t c_10 hJ
        refine lv_aload_n hx hb dX4_space_54 rfl (lv_at hl 2 rfl) ?_
        refine lv_iload hx hb dX4_space_55 (lv_at hl 0 rfl) ?_
        refine lv_aload_n hx hb dX4_space_57 rfl (lv_at hl 2 rfl) ?_
        refine va_get (D := D) (ci := 5) (v := .ref aF) (C := RX4) (T := TX4) (N := 11) hx hb hts iX4 hown hK hP 0 rfl rfl 0 (by decide) k_1 (fun _ h9 => h9) rfl dX4_space_58 ?_
        refine lv_iload hx hb dX4_space_61 (lv_at hl 0 rfl) ?_
        refine lv_iload_n hx hb dX4_space_63 rfl (lv_at hl 1 rfl) ?_
        obtain ⟨v_11, hv_11, hJ⟩ := j_b hJ
        refine ro_i (va_runV (As := [.int v_9, .int (0 : Int32)]) (rest := [.int v_9, .ref aP]) ⟨hx, hb, hml, hown, hts⟩ (c_X1_runLength l D aF aFu aFk cFu cFk w ht tn kp nFu fu nFk fk v_9 (0 : Int32) tX tY H.size F v_11 hv_11) (cwV 2 hts gX4_space_X1_runLength rfl rfl rfl (by decide +kernel) ⟨Nat.le_of_ble_eq_true rfl, Nat.le_of_ble_eq_true rfl⟩) (preRV [.int v_9, .int (0 : Int32)] hP hK hS hA hST [6, 7, 8] rfl [3, 4] rfl (ci := 2) (q0 := 6) rfl rfl) rfl rfl hl.1 rfl (lv_room (Nat.le_of_ble_eq_true rfl)) dX4_space_64 ⟨Nat.zero_le _, Nat.zero_le _⟩) hP hS hA (fun H locs hP hS => ?_)
        refine lv_iconst (v := 1) hx hb dX4_space_67 (by decide) ?_
        refine lv_isub hx hb dX4_space_68 ?_
        refine lv_iconst (v := 2) hx hb dX4_space_69 (by decide) ?_
        refine lv_idiv hx hb dX4_space_70 (by decide) ?_
        refine lv_iadd hx hb dX4_space_71 ?_
        refine lv_iload_n hx hb dX4_space_72 rfl (lv_at hl 1 rfl) ?_
        refine lv_iconst (v := 0) hx hb dX4_space_73 (by decide) ?_
        obtain ⟨v_12, hv_12, hJ⟩ := j_b hJ
        refine ro_i (va_runS (As := [.int (v_9 + ((v_11 - (1 : Int32)) / (2 : Int32))), .int (0 : Int32), .int (0 : Int32)]) (rest := [.ref aP]) ⟨hx, hb, hml, hown, hts⟩ (c_X4_placeAt l D (v_9 + ((v_11 - (1 : Int32)) / (2 : Int32))) (0 : Int32) (0 : Int32) tX tY H.size F v_12 hv_12) (va_cwS 3 hts gX4_space_X4_placeAt rfl rfl rfl (by decide +kernel) ⟨Nat.le_of_ble_eq_true rfl, Nat.le_of_ble_eq_true rfl⟩) (preRS [.int (v_9 + ((v_11 - (1 : Int32)) / (2 : Int32))), .int (0 : Int32), .int (0 : Int32)] hP hK hS hA hST [] rfl [] rfl) rfl rfl hl.1 rfl (lv_room (Nat.le_of_ble_eq_true rfl)) dX4_space_74 ⟨Nat.zero_le _, Nat.zero_le _⟩) hP hS hA (fun H locs hP hS => ?_)
        refine va_put (D := D) (ci := 5) (v := .int v_12) (ty := .int) (C := RX4) (T := TX4) (N := 11) hx hb hts iX4 tyX4 tyX4_ok nmX4 hown hK hP hD hS 0 rfl rfl 6 (by decide) k_2 (fun _ h9 => h9) rfl (by decide +kernel) rfl rfl (Nat.le_of_ble_eq_true rfl) dX4_space_77 (fun H locs hP hD hS => ?_)
        have hP : va_P D vwCl [(aP, .inr (5, [.ref aF, .ref aC, .ref aS, .ref aW, .int plc, .int hom, .int v_12, .long stp, .int exa, .int hld, .double err])), (aS, .inr (3, [.ref aC, .ref aCo, .ref aQu, .int rch])), (aCo, .inl (cCo, nCo, .inr (.inl co))), (aQu, .inl (cQu, nQu, .inl qu)), (aC, .inr (1, [.ref aF, .ref aKn, .int ln, .int wd, .int rd])), (aKn, .inl (cKn, nKn, .inl kn)), (aF, .inr (2, [.int w, .int ht, .int tn, .ref aFu, .ref aFk, .int kp])), (aFu, .inl (cFu, nFu, .inl fu)), (aFk, .inl (cFk, nFk, .inl fk)), (aW, .inr (4, [.ref aMv, .ref aPl, .int cnt, .int mde, .int stn])), (aMv, .inl (cMv, nMv, .inl mv)), (aPl, .inl (cPl, nPl, .inl pl))] H := hP
        have hD : va_D A [(aP, .inr (5, [.ref aF, .ref aC, .ref aS, .ref aW, .int plc, .int hom, .int v_12, .long stp, .int exa, .int hld, .double err])), (aS, .inr (3, [.ref aC, .ref aCo, .ref aQu, .int rch])), (aCo, .inl (cCo, nCo, .inr (.inl co))), (aQu, .inl (cQu, nQu, .inl qu)), (aC, .inr (1, [.ref aF, .ref aKn, .int ln, .int wd, .int rd])), (aKn, .inl (cKn, nKn, .inl kn)), (aF, .inr (2, [.int w, .int ht, .int tn, .ref aFu, .ref aFk, .int kp])), (aFu, .inl (cFu, nFu, .inl fu)), (aFk, .inl (cFk, nFk, .inl fk)), (aW, .inr (4, [.ref aMv, .ref aPl, .int cnt, .int mde, .int stn])), (aMv, .inl (cMv, nMv, .inl mv)), (aPl, .inl (cPl, nPl, .inl pl))] := hD
        refine lv_aload_n hx hb dX4_space_80 rfl (lv_at hl 2 rfl) ?_
        refine va_get (D := D) (ci := 5) (v := .ref aW) (C := RX4) (T := TX4) (N := 11) hx hb hts iX4 hown hK hP 0 rfl rfl 3 (by decide) k_3 (fun _ h9 => h9) rfl dX4_space_81 ?_
        obtain ⟨v_13, hv_13, hJ⟩ := j_b hJ
        refine wr_v (wr := [(aP, .inr (5, [.ref aF, .ref aC, .ref aS, .ref aW, .int plc, .int hom, .int v_12, .long stp, .int exa, .int hld, .double err])), (aS, .inr (3, [.ref aC, .ref aCo, .ref aQu, .int rch])), (aCo, .inl (cCo, nCo, .inr (.inl co))), (aQu, .inl (cQu, nQu, .inl qu)), (aC, .inr (1, [.ref aF, .ref aKn, .int ln, .int wd, .int rd])), (aKn, .inl (cKn, nKn, .inl kn)), (aF, .inr (2, [.int w, .int ht, .int tn, .ref aFu, .ref aFk, .int kp])), (aFu, .inl (cFu, nFu, .inl fu)), (aFk, .inl (cFk, nFk, .inl fk))]) (wn := [(aP, .inr (5, [.ref aF, .ref aC, .ref aS, .ref aW, .int plc, .int hom, .int v_12, .long stp, .int exa, .int hld, .double err])), (aS, .inr (3, [.ref aC, .ref aCo, .ref aQu, .int rch])), (aCo, .inl (cCo, nCo, .inr (.inl co))), (aQu, .inl (cQu, nQu, .inl qu)), (aC, .inr (1, [.ref aF, .ref aKn, .int ln, .int wd, .int rd])), (aKn, .inl (cKn, nKn, .inl kn)), (aF, .inr (2, [.int w, .int ht, .int tn, .ref aFu, .ref aFk, .int kp])), (aFu, .inl (cFu, nFu, .inl fu)), (aFk, .inl (cFk, nFk, .inl fk)), (aW, .inr (4, [.ref aMv, .ref aPl, .int v_13.1, .int v_13.2.1, .int v_13.2.2])), (aMv, .inl (cMv, nMv, .inl mv)), (aPl, .inl (cPl, nPl, .inl pl))]) (va_runV (As := []) (rest := []) ⟨hx, hb, hml, hown, hts⟩ (c_X3_drop l D aW aMv aPl cMv cPl cnt mde stn nMv mv nPl pl tX tY H.size F v_13 hv_13) (cwV 0 hts gX4_space_X3_drop rfl rfl rfl (by decide +kernel) ⟨Nat.le_of_ble_eq_true rfl, Nat.le_of_ble_eq_true rfl⟩) (preWV [] hP hD hK hS hA hST [9, 10, 11] rfl rfl rfl [5, 6] rfl (ci := 4) (q0 := 9) rfl rfl) rfl rfl hl.1 rfl (lv_room (Nat.le_of_ble_eq_true rfl)) dX4_space_84 ⟨Nat.zero_le _, Nat.zero_le _⟩) hP hD hS hA [9, 10, 11] [0, 1, 2, 3, 4, 5, 6, 7, 8] rfl rfl rfl (by decide) [0, 1, 2, 3, 4, 5, 6, 7, 8, 9, 10, 11] rfl rfl rfl (fun H locs hP hD hS => ?_)
        refine lv_iload hx hb dX4_space_87 (lv_at hl 0 rfl) ?_
        refine lv_iconst (v := 1) hx hb dX4_space_89 (by decide) ?_
        refine lv_iadd hx hb dX4_space_90 ?_
        have ho := Option.some.inj hJ
        exact W.iret (v := (v_9 + (1 : Int32))) hx hb hr (fun t ht hW => ⟨⟨_, (), rfl, (by rw [← ho]), (by rw [ht, ← ho]; exact hP), (by rw [← ho]; exact hD)⟩, hS.F ht⟩) hS.2.2 dX4_space_91
      · have hJ := j_f c_10 hJ
        refine lv_iconst (v := 0) hx hb dX4_space_52 (by decide) ?_
        have ho := Option.some.inj hJ
        exact W.iret (v := (0 : Int32)) hx hb hr (fun t ht hW => ⟨⟨_, (), rfl, (by rw [← ho]), (by rw [ht, ← ho]; exact hP), (by rw [← ho]; exact hD)⟩, hS.F ht⟩) hS.2.2 dX4_space_53
  · have hJ := j_t c_2 hJ
    refine lv_bipush (v := (-2)) hx hb dX4_space_15 (by decide) ?_
    have ho := Option.some.inj hJ
    exact W.iret (v := (-2 : Int32)) hx hb hr (fun t ht hW => ⟨⟨_, (), rfl, (by rw [← ho]), (by rw [ht, ← ho]; exact hP), (by rw [← ho]; exact hD)⟩, hS.F ht⟩) hS.2.2 dX4_space_17
set_option maxHeartbeats 4000000 in
set_option maxRecDepth 100000 in
theorem c_X4_out (l : Launch) (D : va_G) (aP aS aCo aQu aC aKn aF aFu aFk aW aMv aPl : Nat) (cCo cQu cKn cFu cFk cMv cPl : ClassId) (plc : Int32) (hom : Int32) (gol : Int32) (stp : Int64) (exa : Int32) (hld : Int32) (err : UInt64) (rch : Int32) (nCo : Nat) (co : Nat → Int64) (nQu : Nat) (qu : Nat → Int32) (ln : Int32) (wd : Int32) (rd : Int32) (nKn : Nat) (kn : Nat → Int32) (w : Int32) (ht : Int32) (tn : Int32) (kp : Int32) (nFu : Nat) (fu : Nat → Int32) (nFk : Nat) (fk : Nat → Int32) (cnt : Int32) (mde : Int32) (stn : Int32) (nMv : Nat) (mv : Nat → Int32) (nPl : Nat) (pl : Nat → Int32) (tX tY sz F : Nat) (o : Int32 × Int32 × Int32 × Int32 × Int32) (hJ : J_X4_out F hom gol cnt mde stn = some o) : Met l yX4_out wsX4_out rmX4_out (va_Pc [.ref aP] (pcW D [(aP, .inr (5, [.ref aF, .ref aC, .ref aS, .ref aW, .int plc, .int hom, .int gol, .long stp, .int exa, .int hld, .double err])), (aS, .inr (3, [.ref aC, .ref aCo, .ref aQu, .int rch])), (aCo, .inl (cCo, nCo, .inr (.inl co))), (aQu, .inl (cQu, nQu, .inl qu)), (aC, .inr (1, [.ref aF, .ref aKn, .int ln, .int wd, .int rd])), (aKn, .inl (cKn, nKn, .inl kn)), (aF, .inr (2, [.int w, .int ht, .int tn, .ref aFu, .ref aFk, .int kp])), (aFu, .inl (cFu, nFu, .inl fu)), (aFk, .inl (cFk, nFk, .inl fk)), (aW, .inr (4, [.ref aMv, .ref aPl, .int cnt, .int mde, .int stn])), (aMv, .inl (cMv, nMv, .inl mv)), (aPl, .inl (cPl, nPl, .inl pl))] [(cCo, .long), (cQu, .int), (cKn, .int), (cFu, .boolean), (cFk, .int), (cMv, .int), (cPl, .int)] sz tX tY)) (qWi D o.1 [(aP, .inr (5, [.ref aF, .ref aC, .ref aS, .ref aW, .int plc, .int hom, .int o.2.1, .long stp, .int exa, .int hld, .double err])), (aS, .inr (3, [.ref aC, .ref aCo, .ref aQu, .int rch])), (aCo, .inl (cCo, nCo, .inr (.inl co))), (aQu, .inl (cQu, nQu, .inl qu)), (aC, .inr (1, [.ref aF, .ref aKn, .int ln, .int wd, .int rd])), (aKn, .inl (cKn, nKn, .inl kn)), (aF, .inr (2, [.int w, .int ht, .int tn, .ref aFu, .ref aFk, .int kp])), (aFu, .inl (cFu, nFu, .inl fu)), (aFk, .inl (cFk, nFk, .inl fk)), (aW, .inr (4, [.ref aMv, .ref aPl, .int o.2.2.1, .int o.2.2.2.1, .int o.2.2.2.2])), (aMv, .inl (cMv, nMv, .inl mv)), (aPl, .inl (cPl, nPl, .inl pl))] (va_A [(aP, .inr (5, [.ref aF, .ref aC, .ref aS, .ref aW, .int plc, .int hom, .int gol, .long stp, .int exa, .int hld, .double err])), (aS, .inr (3, [.ref aC, .ref aCo, .ref aQu, .int rch])), (aCo, .inl (cCo, nCo, .inr (.inl co))), (aQu, .inl (cQu, nQu, .inl qu)), (aC, .inr (1, [.ref aF, .ref aKn, .int ln, .int wd, .int rd])), (aKn, .inl (cKn, nKn, .inl kn)), (aF, .inr (2, [.int w, .int ht, .int tn, .ref aFu, .ref aFk, .int kp])), (aFu, .inl (cFu, nFu, .inl fu)), (aFk, .inl (cFk, nFk, .inl fk)), (aW, .inr (4, [.ref aMv, .ref aPl, .int cnt, .int mde, .int stn])), (aMv, .inl (cMv, nMv, .inl mv)), (aPl, .inl (cPl, nPl, .inl pl))] sz)) 0 0 (va_A [(aP, .inr (5, [.ref aF, .ref aC, .ref aS, .ref aW, .int plc, .int hom, .int gol, .long stp, .int exa, .int hld, .double err])), (aS, .inr (3, [.ref aC, .ref aCo, .ref aQu, .int rch])), (aCo, .inl (cCo, nCo, .inr (.inl co))), (aQu, .inl (cQu, nQu, .inl qu)), (aC, .inr (1, [.ref aF, .ref aKn, .int ln, .int wd, .int rd])), (aKn, .inl (cKn, nKn, .inl kn)), (aF, .inr (2, [.int w, .int ht, .int tn, .ref aFu, .ref aFk, .int kp])), (aFu, .inl (cFu, nFu, .inl fu)), (aFk, .inl (cFk, nFk, .inl fk)), (aW, .inr (4, [.ref aMv, .ref aPl, .int cnt, .int mde, .int stn])), (aMv, .inl (cMv, nMv, .inl mv)), (aPl, .inl (cPl, nPl, .inl pl))] sz) := by
  refine Met.ofW (cc := cX4_out) (maxL := 1) (ret := (some .int)) (by decide) rfl ?_
  intro p e s m args below meth c s₁ B hml hv
  obtain ⟨rfl, hsz, hP, hK, hD0, hST⟩ := hv
  have hx := B.exec
  have hb := B.bytes
  have hr := B.returns
  have hts := atoms_spec (ws := wsX4_out) B.pre
  have hown : s.vm.findClass RX4 = some m.cls := findClass_of_methodNamed B.named
  have hlocks := B.notSynchronized
  subst hsz
  have hD := hD0.self (sz := s.heap.size)
  generalize hAe : va_A [(aP, .inr (5, [.ref aF, .ref aC, .ref aS, .ref aW, .int plc, .int hom, .int gol, .long stp, .int exa, .int hld, .double err])), (aS, .inr (3, [.ref aC, .ref aCo, .ref aQu, .int rch])), (aCo, .inl (cCo, nCo, .inr (.inl co))), (aQu, .inl (cQu, nQu, .inl qu)), (aC, .inr (1, [.ref aF, .ref aKn, .int ln, .int wd, .int rd])), (aKn, .inl (cKn, nKn, .inl kn)), (aF, .inr (2, [.int w, .int ht, .int tn, .ref aFu, .ref aFk, .int kp])), (aFu, .inl (cFu, nFu, .inl fu)), (aFk, .inl (cFk, nFk, .inl fk)), (aW, .inr (4, [.ref aMv, .ref aPl, .int cnt, .int mde, .int stn])), (aMv, .inl (cMv, nMv, .inl mv)), (aPl, .inl (cPl, nPl, .inl pl))] s.heap.size = A at hD hST ⊢
  have hA : ∀ q : Nat, s.heap.size ≤ q → A q := fun q h => by rw [← hAe]; exact Or.inr h
  have hS : va_S A s.heap s.heap [] := va_S.rf
  have hl := lv_entry ([.ref aP]) (n := 1) (Nat.le_of_ble_eq_true rfl)
  rw [lg_entry_eq]
  generalize (lg_sl ([.ref aP]) ++ List.replicate (1 - (lg_sl ([.ref aP])).length) Slot.unset).toArray = ls at hl ⊢
  have hl : lv_has ls 1 [(0, .ref aP)] := hl
  have iX4 : ∀ w ∈ wsX40, w ∈ wsX4_out := fun w h => List.mem_cons_of_mem _ (List.mem_append_left _ (List.mem_append_right _ h))
  have k_1 := hts (.fieldLink RX4 122 "ParkWays" "goal" "I") (List.mem_of_getElem? (i := 1) rfl)
  have k_2 := hts (.fieldLink RX4 106 "ParkWays" "home" "I") (List.mem_of_getElem? (i := 2) rfl)
  have k_3 := hts (.fieldLink RX4 53 "ParkWays" "way" "LParkWays$Way;") (List.mem_of_getElem? (i := 3) rfl)
  unfold J_X4_out at hJ
  refine lv_aload_n hx hb dX4_out_0 rfl (lv_at hl 0 rfl) ?_
  refine va_get (D := D) (ci := 5) (v := .int gol) (C := RX4) (T := TX4) (N := 11) hx hb hts iX4 hown hK hP 0 rfl rfl 6 (by decide) k_1 (fun _ h9 => h9) rfl dX4_out_1 ?_
  refine lv_aload_n hx hb dX4_out_4 rfl (lv_at hl 0 rfl) ?_
  refine va_get (D := D) (ci := 5) (v := .int hom) (C := RX4) (T := TX4) (N := 11) hx hb hts iX4 hown hK hP 0 rfl rfl 5 (by decide) k_2 (fun _ h9 => h9) rfl dX4_out_5 ?_
  refine lv_icmp_ne (tgt := 13) hx hb dX4_out_8 (by decide) (fun c_1 => ?_) (fun c_1 => ?_)
  · have hJ := j_f c_1 hJ
    refine lv_aload_n hx hb dX4_out_13 rfl (lv_at hl 0 rfl) ?_
    refine lv_aload_n hx hb dX4_out_14 rfl (lv_at hl 0 rfl) ?_
    refine va_get (D := D) (ci := 5) (v := .int hom) (C := RX4) (T := TX4) (N := 11) hx hb hts iX4 hown hK hP 0 rfl rfl 5 (by decide) k_2 (fun _ h9 => h9) rfl dX4_out_15 ?_
    refine va_put (D := D) (ci := 5) (v := .int hom) (ty := .int) (C := RX4) (T := TX4) (N := 11) hx hb hts iX4 tyX4 tyX4_ok nmX4 hown hK hP hD hS 0 rfl rfl 6 (by decide) k_1 (fun _ h9 => h9) rfl (by decide +kernel) rfl rfl (Nat.le_of_ble_eq_true rfl) dX4_out_18 (fun H locs hP hD hS => ?_)
    have hP : va_P D vwCl [(aP, .inr (5, [.ref aF, .ref aC, .ref aS, .ref aW, .int plc, .int hom, .int hom, .long stp, .int exa, .int hld, .double err])), (aS, .inr (3, [.ref aC, .ref aCo, .ref aQu, .int rch])), (aCo, .inl (cCo, nCo, .inr (.inl co))), (aQu, .inl (cQu, nQu, .inl qu)), (aC, .inr (1, [.ref aF, .ref aKn, .int ln, .int wd, .int rd])), (aKn, .inl (cKn, nKn, .inl kn)), (aF, .inr (2, [.int w, .int ht, .int tn, .ref aFu, .ref aFk, .int kp])), (aFu, .inl (cFu, nFu, .inl fu)), (aFk, .inl (cFk, nFk, .inl fk)), (aW, .inr (4, [.ref aMv, .ref aPl, .int cnt, .int mde, .int stn])), (aMv, .inl (cMv, nMv, .inl mv)), (aPl, .inl (cPl, nPl, .inl pl))] H := hP
    have hD : va_D A [(aP, .inr (5, [.ref aF, .ref aC, .ref aS, .ref aW, .int plc, .int hom, .int hom, .long stp, .int exa, .int hld, .double err])), (aS, .inr (3, [.ref aC, .ref aCo, .ref aQu, .int rch])), (aCo, .inl (cCo, nCo, .inr (.inl co))), (aQu, .inl (cQu, nQu, .inl qu)), (aC, .inr (1, [.ref aF, .ref aKn, .int ln, .int wd, .int rd])), (aKn, .inl (cKn, nKn, .inl kn)), (aF, .inr (2, [.int w, .int ht, .int tn, .ref aFu, .ref aFk, .int kp])), (aFu, .inl (cFu, nFu, .inl fu)), (aFk, .inl (cFk, nFk, .inl fk)), (aW, .inr (4, [.ref aMv, .ref aPl, .int cnt, .int mde, .int stn])), (aMv, .inl (cMv, nMv, .inl mv)), (aPl, .inl (cPl, nPl, .inl pl))] := hD
    refine lv_aload_n hx hb dX4_out_21 rfl (lv_at hl 0 rfl) ?_
    refine va_get (D := D) (ci := 5) (v := .ref aW) (C := RX4) (T := TX4) (N := 11) hx hb hts iX4 hown hK hP 0 rfl rfl 3 (by decide) k_3 (fun _ h9 => h9) rfl dX4_out_22 ?_
    obtain ⟨v_2, hv_2, hJ⟩ := j_b hJ
    refine wr_v (wr := [(aP, .inr (5, [.ref aF, .ref aC, .ref aS, .ref aW, .int plc, .int hom, .int hom, .long stp, .int exa, .int hld, .double err])), (aS, .inr (3, [.ref aC, .ref aCo, .ref aQu, .int rch])), (aCo, .inl (cCo, nCo, .inr (.inl co))), (aQu, .inl (cQu, nQu, .inl qu)), (aC, .inr (1, [.ref aF, .ref aKn, .int ln, .int wd, .int rd])), (aKn, .inl (cKn, nKn, .inl kn)), (aF, .inr (2, [.int w, .int ht, .int tn, .ref aFu, .ref aFk, .int kp])), (aFu, .inl (cFu, nFu, .inl fu)), (aFk, .inl (cFk, nFk, .inl fk))]) (wn := [(aP, .inr (5, [.ref aF, .ref aC, .ref aS, .ref aW, .int plc, .int hom, .int hom, .long stp, .int exa, .int hld, .double err])), (aS, .inr (3, [.ref aC, .ref aCo, .ref aQu, .int rch])), (aCo, .inl (cCo, nCo, .inr (.inl co))), (aQu, .inl (cQu, nQu, .inl qu)), (aC, .inr (1, [.ref aF, .ref aKn, .int ln, .int wd, .int rd])), (aKn, .inl (cKn, nKn, .inl kn)), (aF, .inr (2, [.int w, .int ht, .int tn, .ref aFu, .ref aFk, .int kp])), (aFu, .inl (cFu, nFu, .inl fu)), (aFk, .inl (cFk, nFk, .inl fk)), (aW, .inr (4, [.ref aMv, .ref aPl, .int v_2.1, .int v_2.2.1, .int v_2.2.2])), (aMv, .inl (cMv, nMv, .inl mv)), (aPl, .inl (cPl, nPl, .inl pl))]) (va_runV (As := []) (rest := []) ⟨hx, hb, hml, hown, hts⟩ (c_X3_drop l D aW aMv aPl cMv cPl cnt mde stn nMv mv nPl pl tX tY H.size F v_2 hv_2) (cwV 0 hts gX4_out_X3_drop rfl rfl rfl (by decide +kernel) ⟨Nat.le_of_ble_eq_true rfl, Nat.le_of_ble_eq_true rfl⟩) (preWV [] hP hD hK hS hA hST [9, 10, 11] rfl rfl rfl [5, 6] rfl (ci := 4) (q0 := 9) rfl rfl) rfl rfl hl.1 rfl (lv_room (Nat.le_of_ble_eq_true rfl)) dX4_out_25 ⟨Nat.zero_le _, Nat.zero_le _⟩) hP hD hS hA [9, 10, 11] [0, 1, 2, 3, 4, 5, 6, 7, 8] rfl rfl rfl (by decide) [0, 1, 2, 3, 4, 5, 6, 7, 8, 9, 10, 11] rfl rfl rfl (fun H locs hP hD hS => ?_)
    refine lv_iconst (v := 1) hx hb dX4_out_28 (by decide) ?_
    have ho := Option.some.inj hJ
    exact W.iret (v := (1 : Int32)) hx hb hr (fun t ht hW => ⟨⟨_, (), rfl, (by rw [← ho]), (by rw [ht, ← ho]; exact hP), (by rw [← ho]; exact hD)⟩, hS.F ht⟩) hS.2.2 dX4_out_29
  · have hJ := j_t c_1 hJ
    refine lv_iconst (v := 0) hx hb dX4_out_11 (by decide) ?_
    have ho := Option.some.inj hJ
    exact W.iret (v := (0 : Int32)) hx hb hr (fun t ht hW => ⟨⟨_, (), rfl, (by rw [← ho]), (by rw [ht, ← ho]; exact hP), (by rw [← ho]; exact hD)⟩, hS.F ht⟩) hS.2.2 dX4_out_12
set_option maxHeartbeats 4000000 in
set_option maxRecDepth 100000 in
theorem c_X4_way (l : Launch) (D : va_G) (aP aS aCo aQu aC aKn aF aFu aFk aW aMv aPl : Nat) (cCo cQu cKn cFu cFk cMv cPl : ClassId) (plc : Int32) (hom : Int32) (gol : Int32) (stp : Int64) (exa : Int32) (hld : Int32) (err : UInt64) (rch : Int32) (nCo : Nat) (co : Nat → Int64) (nQu : Nat) (qu : Nat → Int32) (ln : Int32) (wd : Int32) (rd : Int32) (nKn : Nat) (kn : Nat → Int32) (w : Int32) (ht : Int32) (tn : Int32) (kp : Int32) (nFu : Nat) (fu : Nat → Int32) (nFk : Nat) (fk : Nat → Int32) (cnt : Int32) (mde : Int32) (stn : Int32) (nMv : Nat) (mv : Nat → Int32) (nPl : Nat) (pl : Nat → Int32) (p0 : Int64) (tX tY sz F : Nat) (o : Int32 × Int64 × Int32 × Int32 × (Nat → Int64) × (Nat → Int32) × (Nat → Int32) × Int32 × Int32 × Int32 × (Nat → Int32) × (Nat → Int32)) (hJ : J_X4_way F plc gol stp exa rch nCo co nQu qu ln wd rd nKn kn w ht tn nFk fk cnt mde stn nMv mv nPl pl p0 = some o) : Met l yX4_way wsX4_way rmX4_way (va_Pc [.ref aP, .long p0] (pcW D [(aP, .inr (5, [.ref aF, .ref aC, .ref aS, .ref aW, .int plc, .int hom, .int gol, .long stp, .int exa, .int hld, .double err])), (aS, .inr (3, [.ref aC, .ref aCo, .ref aQu, .int rch])), (aCo, .inl (cCo, nCo, .inr (.inl co))), (aQu, .inl (cQu, nQu, .inl qu)), (aC, .inr (1, [.ref aF, .ref aKn, .int ln, .int wd, .int rd])), (aKn, .inl (cKn, nKn, .inl kn)), (aF, .inr (2, [.int w, .int ht, .int tn, .ref aFu, .ref aFk, .int kp])), (aFu, .inl (cFu, nFu, .inl fu)), (aFk, .inl (cFk, nFk, .inl fk)), (aW, .inr (4, [.ref aMv, .ref aPl, .int cnt, .int mde, .int stn])), (aMv, .inl (cMv, nMv, .inl mv)), (aPl, .inl (cPl, nPl, .inl pl))] [(cCo, .long), (cQu, .int), (cKn, .int), (cFu, .boolean), (cFk, .int), (cMv, .int), (cPl, .int)] sz tX tY)) (qWi D o.1 [(aP, .inr (5, [.ref aF, .ref aC, .ref aS, .ref aW, .int plc, .int hom, .int gol, .long o.2.1, .int o.2.2.1, .int hld, .double err])), (aS, .inr (3, [.ref aC, .ref aCo, .ref aQu, .int o.2.2.2.1])), (aCo, .inl (cCo, nCo, .inr (.inl o.2.2.2.2.1))), (aQu, .inl (cQu, nQu, .inl o.2.2.2.2.2.1)), (aC, .inr (1, [.ref aF, .ref aKn, .int ln, .int wd, .int rd])), (aKn, .inl (cKn, nKn, .inl o.2.2.2.2.2.2.1)), (aF, .inr (2, [.int w, .int ht, .int tn, .ref aFu, .ref aFk, .int kp])), (aFu, .inl (cFu, nFu, .inl fu)), (aFk, .inl (cFk, nFk, .inl fk)), (aW, .inr (4, [.ref aMv, .ref aPl, .int o.2.2.2.2.2.2.2.1, .int o.2.2.2.2.2.2.2.2.1, .int o.2.2.2.2.2.2.2.2.2.1])), (aMv, .inl (cMv, nMv, .inl o.2.2.2.2.2.2.2.2.2.2.1)), (aPl, .inl (cPl, nPl, .inl o.2.2.2.2.2.2.2.2.2.2.2))] (va_A [(aP, .inr (5, [.ref aF, .ref aC, .ref aS, .ref aW, .int plc, .int hom, .int gol, .long stp, .int exa, .int hld, .double err])), (aS, .inr (3, [.ref aC, .ref aCo, .ref aQu, .int rch])), (aCo, .inl (cCo, nCo, .inr (.inl co))), (aQu, .inl (cQu, nQu, .inl qu)), (aC, .inr (1, [.ref aF, .ref aKn, .int ln, .int wd, .int rd])), (aKn, .inl (cKn, nKn, .inl kn)), (aF, .inr (2, [.int w, .int ht, .int tn, .ref aFu, .ref aFk, .int kp])), (aFu, .inl (cFu, nFu, .inl fu)), (aFk, .inl (cFk, nFk, .inl fk)), (aW, .inr (4, [.ref aMv, .ref aPl, .int cnt, .int mde, .int stn])), (aMv, .inl (cMv, nMv, .inl mv)), (aPl, .inl (cPl, nPl, .inl pl))] sz)) 0 0 (va_A [(aP, .inr (5, [.ref aF, .ref aC, .ref aS, .ref aW, .int plc, .int hom, .int gol, .long stp, .int exa, .int hld, .double err])), (aS, .inr (3, [.ref aC, .ref aCo, .ref aQu, .int rch])), (aCo, .inl (cCo, nCo, .inr (.inl co))), (aQu, .inl (cQu, nQu, .inl qu)), (aC, .inr (1, [.ref aF, .ref aKn, .int ln, .int wd, .int rd])), (aKn, .inl (cKn, nKn, .inl kn)), (aF, .inr (2, [.int w, .int ht, .int tn, .ref aFu, .ref aFk, .int kp])), (aFu, .inl (cFu, nFu, .inl fu)), (aFk, .inl (cFk, nFk, .inl fk)), (aW, .inr (4, [.ref aMv, .ref aPl, .int cnt, .int mde, .int stn])), (aMv, .inl (cMv, nMv, .inl mv)), (aPl, .inl (cPl, nPl, .inl pl))] sz) := by
  refine Met.ofW (cc := cX4_way) (maxL := 3) (ret := (some .int)) (by decide) rfl ?_
  intro p e s m args below meth c s₁ B hml hv
  obtain ⟨rfl, hsz, hP, hK, hD0, hST⟩ := hv
  have hx := B.exec
  have hb := B.bytes
  have hr := B.returns
  have hts := atoms_spec (ws := wsX4_way) B.pre
  have hown : s.vm.findClass RX4 = some m.cls := findClass_of_methodNamed B.named
  have hlocks := B.notSynchronized
  subst hsz
  have hD := hD0.self (sz := s.heap.size)
  generalize hAe : va_A [(aP, .inr (5, [.ref aF, .ref aC, .ref aS, .ref aW, .int plc, .int hom, .int gol, .long stp, .int exa, .int hld, .double err])), (aS, .inr (3, [.ref aC, .ref aCo, .ref aQu, .int rch])), (aCo, .inl (cCo, nCo, .inr (.inl co))), (aQu, .inl (cQu, nQu, .inl qu)), (aC, .inr (1, [.ref aF, .ref aKn, .int ln, .int wd, .int rd])), (aKn, .inl (cKn, nKn, .inl kn)), (aF, .inr (2, [.int w, .int ht, .int tn, .ref aFu, .ref aFk, .int kp])), (aFu, .inl (cFu, nFu, .inl fu)), (aFk, .inl (cFk, nFk, .inl fk)), (aW, .inr (4, [.ref aMv, .ref aPl, .int cnt, .int mde, .int stn])), (aMv, .inl (cMv, nMv, .inl mv)), (aPl, .inl (cPl, nPl, .inl pl))] s.heap.size = A at hD hST ⊢
  have hA : ∀ q : Nat, s.heap.size ≤ q → A q := fun q h => by rw [← hAe]; exact Or.inr h
  have hS : va_S A s.heap s.heap [] := va_S.rf
  have hl := lv_entry ([.ref aP, .long p0]) (n := 3) (Nat.le_of_ble_eq_true rfl)
  rw [lg_entry_eq]
  generalize (lg_sl ([.ref aP, .long p0]) ++ List.replicate (3 - (lg_sl ([.ref aP, .long p0])).length) Slot.unset).toArray = ls at hl ⊢
  have hl : lv_has ls 3 [(0, .ref aP), (1, .long p0)] := hl
  have iX3 : ∀ w ∈ wsX30, w ∈ wsX4_way := fun w h => List.mem_cons_of_mem _ (List.mem_append_left _ (List.mem_append_left _ (List.mem_append_left _ (List.mem_append_right _ h))))
  have iX4 : ∀ w ∈ wsX40, w ∈ wsX4_way := fun w h => List.mem_cons_of_mem _ (List.mem_append_left _ (List.mem_append_left _ (List.mem_append_left _ (List.mem_append_left _ (List.mem_append_right _ h)))))
  have k_1 := hts (.fieldLink RX4 125 "ParkWays" "steps" "J") (List.mem_of_getElem? (i := 1) rfl)
  have k_2 := hts (.fieldLink RX4 132 "ParkWays" "exact" "Z") (List.mem_of_getElem? (i := 2) rfl)
  have k_3 := hts (.fieldLink RX4 53 "ParkWays" "way" "LParkWays$Way;") (List.mem_of_getElem? (i := 3) rfl)
  unfold J_X4_way at hJ
  refine lv_lload_n hx hb dX4_way_0 rfl (lv_at hl 1 rfl) ?_
  refine lv_lconst (v := 0) hx hb dX4_way_1 (by decide) ?_
  refine W.lcmp hx hb dX4_way_2 ?_
  refine lv_if_ge (tgt := 9) hx hb dX4_way_3 (by decide) (fun c_1 => ?_) (fun c_1 => ?_)
  · have hJ := j_t c_1 hJ
    refine lv_aload_n hx hb dX4_way_9 rfl (lv_at hl 0 rfl) ?_
    refine lv_lload_n hx hb dX4_way_10 rfl (lv_at hl 1 rfl) ?_
    refine va_put (D := D) (ci := 5) (v := .long p0) (ty := .long) (C := RX4) (T := TX4) (N := 11) hx hb hts iX4 tyX4 tyX4_ok nmX4 hown hK hP hD hS 0 rfl rfl 7 (by decide) k_1 (fun _ h9 => h9) rfl (by decide +kernel) rfl rfl (Nat.le_of_ble_eq_true rfl) dX4_way_11 (fun H locs hP hD hS => ?_)
    have hP : va_P D vwCl [(aP, .inr (5, [.ref aF, .ref aC, .ref aS, .ref aW, .int plc, .int hom, .int gol, .long p0, .int exa, .int hld, .double err])), (aS, .inr (3, [.ref aC, .ref aCo, .ref aQu, .int rch])), (aCo, .inl (cCo, nCo, .inr (.inl co))), (aQu, .inl (cQu, nQu, .inl qu)), (aC, .inr (1, [.ref aF, .ref aKn, .int ln, .int wd, .int rd])), (aKn, .inl (cKn, nKn, .inl kn)), (aF, .inr (2, [.int w, .int ht, .int tn, .ref aFu, .ref aFk, .int kp])), (aFu, .inl (cFu, nFu, .inl fu)), (aFk, .inl (cFk, nFk, .inl fk)), (aW, .inr (4, [.ref aMv, .ref aPl, .int cnt, .int mde, .int stn])), (aMv, .inl (cMv, nMv, .inl mv)), (aPl, .inl (cPl, nPl, .inl pl))] H := hP
    have hD : va_D A [(aP, .inr (5, [.ref aF, .ref aC, .ref aS, .ref aW, .int plc, .int hom, .int gol, .long p0, .int exa, .int hld, .double err])), (aS, .inr (3, [.ref aC, .ref aCo, .ref aQu, .int rch])), (aCo, .inl (cCo, nCo, .inr (.inl co))), (aQu, .inl (cQu, nQu, .inl qu)), (aC, .inr (1, [.ref aF, .ref aKn, .int ln, .int wd, .int rd])), (aKn, .inl (cKn, nKn, .inl kn)), (aF, .inr (2, [.int w, .int ht, .int tn, .ref aFu, .ref aFk, .int kp])), (aFu, .inl (cFu, nFu, .inl fu)), (aFk, .inl (cFk, nFk, .inl fk)), (aW, .inr (4, [.ref aMv, .ref aPl, .int cnt, .int mde, .int stn])), (aMv, .inl (cMv, nMv, .inl mv)), (aPl, .inl (cPl, nPl, .inl pl))] := hD
    refine lv_aload_n hx hb dX4_way_14 rfl (lv_at hl 0 rfl) ?_
    obtain ⟨v_2, hv_2, hJ⟩ := j_b hJ
    refine wr_v (wr := []) (wn := [(aP, .inr (5, [.ref aF, .ref aC, .ref aS, .ref aW, .int plc, .int hom, .int gol, .long p0, .int v_2.1, .int hld, .double err])), (aS, .inr (3, [.ref aC, .ref aCo, .ref aQu, .int v_2.2.1])), (aCo, .inl (cCo, nCo, .inr (.inl v_2.2.2.1))), (aQu, .inl (cQu, nQu, .inl v_2.2.2.2.1)), (aC, .inr (1, [.ref aF, .ref aKn, .int ln, .int wd, .int rd])), (aKn, .inl (cKn, nKn, .inl v_2.2.2.2.2.1)), (aF, .inr (2, [.int w, .int ht, .int tn, .ref aFu, .ref aFk, .int kp])), (aFu, .inl (cFu, nFu, .inl fu)), (aFk, .inl (cFk, nFk, .inl fk)), (aW, .inr (4, [.ref aMv, .ref aPl, .int v_2.2.2.2.2.2.1, .int v_2.2.2.2.2.2.2.1, .int v_2.2.2.2.2.2.2.2.1])), (aMv, .inl (cMv, nMv, .inl v_2.2.2.2.2.2.2.2.2.1)), (aPl, .inl (cPl, nPl, .inl v_2.2.2.2.2.2.2.2.2.2))]) (va_runV (As := []) (rest := []) ⟨hx, hb, hml, hown, hts⟩ (c_X4_plan l D aP aS aCo aQu aC aKn aF aFu aFk aW aMv aPl cCo cQu cKn cFu cFk cMv cPl plc hom gol p0 exa hld err rch nCo co nQu qu ln wd rd nKn kn w ht tn kp nFu fu nFk fk cnt mde stn nMv mv nPl pl tX tY H.size F v_2 hv_2) (cwV 0 hts gX4_way_X4_plan rfl rfl rfl (by decide +kernel) ⟨Nat.le_of_ble_eq_true rfl, Nat.le_of_ble_eq_true rfl⟩) (preWV [] hP hD hK hS hA hST [0, 1, 2, 3, 4, 5, 6, 7, 8, 9, 10, 11] rfl rfl rfl [0, 1, 2, 3, 4, 5, 6] rfl (ci := 5) (q0 := 0) rfl rfl) rfl rfl hl.1 rfl (lv_room (Nat.le_of_ble_eq_true rfl)) dX4_way_15 ⟨Nat.zero_le _, Nat.zero_le _⟩) hP hD hS hA [0, 1, 2, 3, 4, 5, 6, 7, 8, 9, 10, 11] [] rfl rfl rfl (by decide) [0, 1, 2, 3, 4, 5, 6, 7, 8, 9, 10, 11] rfl rfl rfl (fun H locs hP hD hS => ?_)
    refine lv_aload_n hx hb dX4_way_18 rfl (lv_at hl 0 rfl) ?_
    refine va_get (D := D) (ci := 5) (v := .int v_2.1) (C := RX4) (T := TX4) (N := 11) hx hb hts iX4 hown hK hP 0 rfl rfl 8 (by decide) k_2 (fun _ h9 => h9) rfl dX4_way_19 ?_
    refine lv_if_eq (tgt := 35) hx hb dX4_way_22 (by decide) (fun c_3 => ?_) (fun c_3 => ?_)
    · have hJ := j_t c_3 hJ
      refine lv_iconst (v := (-1)) hx hb dX4_way_35 (by decide) ?_
      have ho := Option.some.inj hJ
      exact W.iret (v := (-1 : Int32)) hx hb hr (fun t ht hW => ⟨⟨_, (), rfl, (by rw [← ho]), (by rw [ht, ← ho]; exact hP), (by rw [← ho]; exact hD)⟩, hS.F ht⟩) hS.2.2 dX4_way_36
    · have hJ := j_f c_3 hJ
      refine lv_aload_n hx hb dX4_way_25 rfl (lv_at hl 0 rfl) ?_
      refine va_get (D := D) (ci := 5) (v := .ref aW) (C := RX4) (T := TX4) (N := 11) hx hb hts iX4 hown hK hP 0 rfl rfl 3 (by decide) k_3 (fun _ h9 => h9) rfl dX4_way_26 ?_
      refine va_getN (D := D) (ci := 4) (v := .int v_2.2.2.2.2.2.1) (C := RX3) (T := TX3) (N := 5) hx hb hts iX3 hown hK hP 9 rfl rfl 2 (by decide) (va_Nw.use rfl (hST.1.2.2.1)) (fun _ h9 => h9) rfl dX4_way_29 ?_
      refine lv_goto (tgt := 36) hx hb dX4_way_32 (by decide) ?_
      have ho := Option.some.inj hJ
      exact W.iret (v := v_2.2.2.2.2.2.1) hx hb hr (fun t ht hW => ⟨⟨_, (), rfl, (by rw [← ho]), (by rw [ht, ← ho]; exact hP), (by rw [← ho]; exact hD)⟩, hS.F ht⟩) hS.2.2 dX4_way_36
  · have hJ := j_f c_1 hJ
    refine lv_bipush (v := (-2)) hx hb dX4_way_6 (by decide) ?_
    have ho := Option.some.inj hJ
    exact W.iret (v := (-2 : Int32)) hx hb hr (fun t ht hW => ⟨⟨_, (), rfl, (by rw [← ho]), (by rw [ht, ← ho]; exact hP), (by rw [← ho]; exact hD)⟩, hS.F ht⟩) hS.2.2 dX4_way_8
set_option maxHeartbeats 4000000 in
set_option maxRecDepth 100000 in
theorem c_X4_move (l : Launch) (D : va_G) (aP aS aCo aQu aC aKn aF aFu aFk aW aMv aPl : Nat) (cCo cQu cKn cFu cFk cMv cPl : ClassId) (plc : Int32) (hom : Int32) (gol : Int32) (stp : Int64) (exa : Int32) (hld : Int32) (err : UInt64) (rch : Int32) (nCo : Nat) (co : Nat → Int64) (nQu : Nat) (qu : Nat → Int32) (ln : Int32) (wd : Int32) (rd : Int32) (nKn : Nat) (kn : Nat → Int32) (w : Int32) (ht : Int32) (tn : Int32) (kp : Int32) (nFu : Nat) (fu : Nat → Int32) (nFk : Nat) (fk : Nat → Int32) (cnt : Int32) (mde : Int32) (stn : Int32) (nMv : Nat) (mv : Nat → Int32) (nPl : Nat) (pl : Nat → Int32) (p0 : Int32) (p1 : Int32) (tX tY sz F : Nat) (o : Int32) (hJ : J_X4_move F cnt nMv mv nPl pl p0 p1 = some o) : Met l yX4_move wsX4_move rmX4_move (va_Pc [.ref aP, .int p0, .int p1] (pcR D [(aP, .inr (5, [.ref aF, .ref aC, .ref aS, .ref aW, .int plc, .int hom, .int gol, .long stp, .int exa, .int hld, .double err])), (aS, .inr (3, [.ref aC, .ref aCo, .ref aQu, .int rch])), (aCo, .inl (cCo, nCo, .inr (.inl co))), (aQu, .inl (cQu, nQu, .inl qu)), (aC, .inr (1, [.ref aF, .ref aKn, .int ln, .int wd, .int rd])), (aKn, .inl (cKn, nKn, .inl kn)), (aF, .inr (2, [.int w, .int ht, .int tn, .ref aFu, .ref aFk, .int kp])), (aFu, .inl (cFu, nFu, .inl fu)), (aFk, .inl (cFk, nFk, .inl fk)), (aW, .inr (4, [.ref aMv, .ref aPl, .int cnt, .int mde, .int stn])), (aMv, .inl (cMv, nMv, .inl mv)), (aPl, .inl (cPl, nPl, .inl pl))] [(cCo, .long), (cQu, .int), (cKn, .int), (cFu, .boolean), (cFk, .int), (cMv, .int), (cPl, .int)] sz tX tY)) (qRi o (va_A [] sz)) 0 0 (va_A [] sz) := by
  refine Met.ofW (cc := cX4_move) (maxL := 4) (ret := (some .int)) (by decide) rfl ?_
  intro p e s m args below meth c s₁ B hml hv
  obtain ⟨rfl, hsz, hP, hK, hST⟩ := hv
  have hx := B.exec
  have hb := B.bytes
  have hr := B.returns
  have hts := atoms_spec (ws := wsX4_move) B.pre
  have hown : s.vm.findClass RX4 = some m.cls := findClass_of_methodNamed B.named
  have hlocks := B.notSynchronized
  subst hsz
  generalize hAe : va_A [] s.heap.size = A at hST ⊢
  have hA : ∀ q : Nat, s.heap.size ≤ q → A q := fun q h => by rw [← hAe]; exact Or.inr h
  have hS : va_S A s.heap s.heap [] := va_S.rf
  have hl := lv_entry ([.ref aP, .int p0, .int p1]) (n := 4) (Nat.le_of_ble_eq_true rfl)
  rw [lg_entry_eq]
  generalize (lg_sl ([.ref aP, .int p0, .int p1]) ++ List.replicate (4 - (lg_sl ([.ref aP, .int p0, .int p1])).length) Slot.unset).toArray = ls at hl ⊢
  have hl : lv_has ls 4 [(0, .ref aP), (1, .int p0), (2, .int p1)] := hl
  have iX4 : ∀ w ∈ wsX40, w ∈ wsX4_move := fun w h => List.mem_cons_of_mem _ (List.mem_append_left _ (List.mem_append_right _ h))
  have k_1 := hts (.fieldLink RX4 53 "ParkWays" "way" "LParkWays$Way;") (List.mem_of_getElem? (i := 1) rfl)
  unfold J_X4_move at hJ
  refine lv_aload_n hx hb dX4_move_0 rfl (lv_at hl 0 rfl) ?_
  refine va_get (D := D) (ci := 5) (v := .ref aW) (C := RX4) (T := TX4) (N := 11) hx hb hts iX4 hown hK hP 0 rfl rfl 3 (by decide) k_1 (fun _ h9 => h9) rfl dX4_move_1 ?_
  refine lv_iload_n hx hb dX4_move_4 rfl (lv_at hl 1 rfl) ?_
  obtain ⟨v_1, hv_1, hJ⟩ := j_b hJ
  refine ro_i (va_runV (As := [.int p0]) (rest := []) ⟨hx, hb, hml, hown, hts⟩ (c_X3_hasMove l D aW aMv aPl cMv cPl cnt mde stn nMv mv nPl pl p0 tX tY s.heap.size F v_1 hv_1) (cwV 1 hts gX4_move_X3_hasMove rfl rfl rfl (by decide +kernel) ⟨Nat.le_of_ble_eq_true rfl, Nat.le_of_ble_eq_true rfl⟩) (preRV [.int p0] hP hK hS hA hST [9, 10, 11] rfl [5, 6] rfl (ci := 4) (q0 := 9) rfl rfl) rfl rfl hl.1 rfl (lv_room (Nat.le_of_ble_eq_true rfl)) dX4_move_5 ⟨Nat.zero_le _, Nat.zero_le _⟩) hP hS hA (fun H locs hP hS => ?_)
  refine lv_if_ne (tgt := 13) hx hb dX4_move_8 (by decide) (fun c_2 => ?_) (fun c_2 => ?_)
  · have hJ := j_f c_2 hJ
    refine lv_aload_n hx hb dX4_move_13 rfl (lv_at hl 0 rfl) ?_
    refine va_get (D := D) (ci := 5) (v := .ref aW) (C := RX4) (T := TX4) (N := 11) hx hb hts iX4 hown hK hP 0 rfl rfl 3 (by decide) k_1 (fun _ h9 => h9) rfl dX4_move_14 ?_
    refine lv_iload_n hx hb dX4_move_17 rfl (lv_at hl 1 rfl) ?_
    obtain ⟨v_3, hv_3, hJ⟩ := j_b hJ
    refine ro_i (va_runV (As := [.int p0]) (rest := []) ⟨hx, hb, hml, hown, hts⟩ (c_X3_placeBehind l D aW aMv aPl cMv cPl cnt mde stn nMv mv nPl pl p0 tX tY H.size F v_3 hv_3) (cwV 1 hts gX4_move_X3_placeBehind rfl rfl rfl (by decide +kernel) ⟨Nat.le_of_ble_eq_true rfl, Nat.le_of_ble_eq_true rfl⟩) (preRV [.int p0] hP hK hS hA hST [9, 10, 11] rfl [5, 6] rfl (ci := 4) (q0 := 9) rfl rfl) rfl rfl hl.1 rfl (lv_room (Nat.le_of_ble_eq_true rfl)) dX4_move_18 ⟨Nat.zero_le _, Nat.zero_le _⟩) hP hS hA (fun H locs hP hS => ?_)
    refine lv_istore_n (lv' := [(3, .int v_3), (0, .ref aP), (1, .int p0), (2, .int p1)]) hx hb dX4_move_21 rfl hl (by decide) rfl (fun ls hl => ?_)
    refine lv_iload_n hx hb dX4_move_22 rfl (lv_at hl 3 rfl) ?_
    by_cases c_9 : p1 = (0 : Int32)
    · have hJ := j_t c_9 hJ
      refine lv_tableIn (off := 29) (tgt := 52) hx hb dX4_move_23 (by rw [c_9]; decide) (by rw [c_9]; decide) (by rw [c_9]; rfl) (by decide) ?_
      refine lv_aload_n hx hb dX4_move_52 rfl (lv_at hl 1 rfl) ?_
      refine va_get (D := D) (ci := 5) (v := .ref aW) (C := RX4) (T := TX4) (N := 11) hx hb hts iX4 hown hK hP 0 rfl rfl 3 (by decide) k_1 (fun _ h9 => h9) rfl dX4_move_53 ?_
      refine lv_iload_n hx hb dX4_move_56 rfl (lv_at hl 2 rfl) ?_
      obtain ⟨v_5, hv_5, hJ⟩ := j_b hJ
      refine ro_i (va_runV (As := [.int p0]) (rest := []) ⟨hx, hb, hml, hown, hts⟩ (c_X3_moveAt l D aW aMv aPl cMv cPl cnt mde stn nMv mv nPl pl p0 tX tY H.size F v_5 hv_5) (cwV 1 hts gX4_move_X3_moveAt rfl rfl rfl (by decide +kernel) ⟨Nat.le_of_ble_eq_true rfl, Nat.le_of_ble_eq_true rfl⟩) (preRV [.int p0] hP hK hS hA hST [9, 10, 11] rfl [5, 6] rfl (ci := 4) (q0 := 9) rfl rfl) rfl rfl hl.1 rfl (lv_room (Nat.le_of_ble_eq_true rfl)) dX4_move_57 ⟨Nat.zero_le _, Nat.zero_le _⟩) hP hS hA (fun H locs hP hS => ?_)
      have ho := Option.some.inj hJ
      exact W.iret (v := v_5) hx hb hr (fun t ht hW => ⟨⟨_, (), rfl, ho, trivial⟩, hS.F ht⟩) hS.2.2 dX4_move_60
    have hJ := j_f c_9 hJ
    by_cases c_10 : p1 = (1 : Int32)
    · have hJ := j_t c_10 hJ
      refine lv_tableIn (off := 38) (tgt := 61) hx hb dX4_move_23 (by rw [c_10]; decide) (by rw [c_10]; decide) (by rw [c_10]; rfl) (by decide) ?_
      refine lv_iload_n hx hb dX4_move_61 rfl (lv_at hl 0 rfl) ?_
      obtain ⟨v_6, hv_6, hJ⟩ := j_b hJ
      refine ro_i (va_runS (As := [.int v_3]) (rest := []) ⟨hx, hb, hml, hown, hts⟩ (c_X4_xOf l D v_3 tX tY H.size F v_6 hv_6) (va_cwS 1 hts gX4_move_X4_xOf rfl rfl rfl (by decide +kernel) ⟨Nat.le_of_ble_eq_true rfl, Nat.le_of_ble_eq_true rfl⟩) (preRS [.int v_3] hP hK hS hA hST [] rfl [] rfl) rfl rfl hl.1 rfl (lv_room (Nat.le_of_ble_eq_true rfl)) dX4_move_62 ⟨Nat.zero_le _, Nat.zero_le _⟩) hP hS hA (fun H locs hP hS => ?_)
      have ho := Option.some.inj hJ
      exact W.iret (v := v_6) hx hb hr (fun t ht hW => ⟨⟨_, (), rfl, ho, trivial⟩, hS.F ht⟩) hS.2.2 dX4_move_65
    have hJ := j_f c_10 hJ
    by_cases c_11 : p1 = (2 : Int32)
    · have hJ := j_t c_11 hJ
      refine lv_tableIn (off := 43) (tgt := 66) hx hb dX4_move_23 (by rw [c_11]; decide) (by rw [c_11]; decide) (by rw [c_11]; rfl) (by decide) ?_
      refine lv_iload_n hx hb dX4_move_66 rfl (lv_at hl 0 rfl) ?_
      obtain ⟨v_7, hv_7, hJ⟩ := j_b hJ
      refine ro_i (va_runS (As := [.int v_3]) (rest := []) ⟨hx, hb, hml, hown, hts⟩ (c_X4_yOf l D v_3 tX tY H.size F v_7 hv_7) (va_cwS 1 hts gX4_move_X4_yOf rfl rfl rfl (by decide +kernel) ⟨Nat.le_of_ble_eq_true rfl, Nat.le_of_ble_eq_true rfl⟩) (preRS [.int v_3] hP hK hS hA hST [] rfl [] rfl) rfl rfl hl.1 rfl (lv_room (Nat.le_of_ble_eq_true rfl)) dX4_move_67 ⟨Nat.zero_le _, Nat.zero_le _⟩) hP hS hA (fun H locs hP hS => ?_)
      have ho := Option.some.inj hJ
      exact W.iret (v := v_7) hx hb hr (fun t ht hW => ⟨⟨_, (), rfl, ho, trivial⟩, hS.F ht⟩) hS.2.2 dX4_move_70
    have hJ := j_f c_11 hJ
    by_cases c_12 : p1 = (3 : Int32)
    · have hJ := j_t c_12 hJ
      refine lv_tableIn (off := 48) (tgt := 71) hx hb dX4_move_23 (by rw [c_12]; decide) (by rw [c_12]; decide) (by rw [c_12]; rfl) (by decide) ?_
      refine lv_iload_n hx hb dX4_move_71 rfl (lv_at hl 0 rfl) ?_
      obtain ⟨v_8, hv_8, hJ⟩ := j_b hJ
      refine ro_i (va_runS (As := [.int v_3]) (rest := []) ⟨hx, hb, hml, hown, hts⟩ (c_X4_headingOf l D v_3 tX tY H.size F v_8 hv_8) (va_cwS 1 hts gX4_move_X4_headingOf rfl rfl rfl (by decide +kernel) ⟨Nat.le_of_ble_eq_true rfl, Nat.le_of_ble_eq_true rfl⟩) (preRS [.int v_3] hP hK hS hA hST [] rfl [] rfl) rfl rfl hl.1 rfl (lv_room (Nat.le_of_ble_eq_true rfl)) dX4_move_72 ⟨Nat.zero_le _, Nat.zero_le _⟩) hP hS hA (fun H locs hP hS => ?_)
      have ho := Option.some.inj hJ
      exact W.iret (v := v_8) hx hb hr (fun t ht hW => ⟨⟨_, (), rfl, ho, trivial⟩, hS.F ht⟩) hS.2.2 dX4_move_75
    have hJ := j_f c_12 hJ
    refine lv_tableOut (tgt := 76) hx hb dX4_move_23 (tsw_out3 c_9 c_10 c_11 c_12) (by decide) ?_
    refine lv_bipush (v := (-2)) hx hb dX4_move_76 (by decide) ?_
    have ho := Option.some.inj hJ
    exact W.iret (v := (-2 : Int32)) hx hb hr (fun t ht hW => ⟨⟨_, (), rfl, ho, trivial⟩, hS.F ht⟩) hS.2.2 dX4_move_78
  · have hJ := j_t c_2 hJ
    refine lv_iconst (v := (-1)) hx hb dX4_move_11 (by decide) ?_
    have ho := Option.some.inj hJ
    exact W.iret (v := (-1 : Int32)) hx hb hr (fun t ht hW => ⟨⟨_, (), rfl, ho, trivial⟩, hS.F ht⟩) hS.2.2 dX4_move_12
set_option maxHeartbeats 4000000 in
set_option maxRecDepth 100000 in
theorem c_X4_exact (l : Launch) (D : va_G) (aP aS aCo aQu aC aKn aF aFu aFk aW aMv aPl : Nat) (cCo cQu cKn cFu cFk cMv cPl : ClassId) (plc : Int32) (hom : Int32) (gol : Int32) (stp : Int64) (exa : Int32) (hld : Int32) (err : UInt64) (rch : Int32) (nCo : Nat) (co : Nat → Int64) (nQu : Nat) (qu : Nat → Int32) (ln : Int32) (wd : Int32) (rd : Int32) (nKn : Nat) (kn : Nat → Int32) (w : Int32) (ht : Int32) (tn : Int32) (kp : Int32) (nFu : Nat) (fu : Nat → Int32) (nFk : Nat) (fk : Nat → Int32) (cnt : Int32) (mde : Int32) (stn : Int32) (nMv : Nat) (mv : Nat → Int32) (nPl : Nat) (pl : Nat → Int32) (tX tY sz F : Nat) (o : Int32) (hJ : J_X4_exact F exa = some o) : Met l yX4_exact wsX4_exact rmX4_exact (va_Pc [.ref aP] (pcR D [(aP, .inr (5, [.ref aF, .ref aC, .ref aS, .ref aW, .int plc, .int hom, .int gol, .long stp, .int exa, .int hld, .double err])), (aS, .inr (3, [.ref aC, .ref aCo, .ref aQu, .int rch])), (aCo, .inl (cCo, nCo, .inr (.inl co))), (aQu, .inl (cQu, nQu, .inl qu)), (aC, .inr (1, [.ref aF, .ref aKn, .int ln, .int wd, .int rd])), (aKn, .inl (cKn, nKn, .inl kn)), (aF, .inr (2, [.int w, .int ht, .int tn, .ref aFu, .ref aFk, .int kp])), (aFu, .inl (cFu, nFu, .inl fu)), (aFk, .inl (cFk, nFk, .inl fk)), (aW, .inr (4, [.ref aMv, .ref aPl, .int cnt, .int mde, .int stn])), (aMv, .inl (cMv, nMv, .inl mv)), (aPl, .inl (cPl, nPl, .inl pl))] [(cCo, .long), (cQu, .int), (cKn, .int), (cFu, .boolean), (cFk, .int), (cMv, .int), (cPl, .int)] sz tX tY)) (qRi o (va_A [] sz)) 0 0 (va_A [] sz) := by
  refine Met.ofW (cc := cX4_exact) (maxL := 1) (ret := (some .boolean)) (by decide) rfl ?_
  intro p e s m args below meth c s₁ B hml hv
  obtain ⟨rfl, hsz, hP, hK, hST⟩ := hv
  have hx := B.exec
  have hb := B.bytes
  have hr := B.returns
  have hts := atoms_spec (ws := wsX4_exact) B.pre
  have hown : s.vm.findClass RX4 = some m.cls := findClass_of_methodNamed B.named
  have hlocks := B.notSynchronized
  subst hsz
  generalize hAe : va_A [] s.heap.size = A at hST ⊢
  have hA : ∀ q : Nat, s.heap.size ≤ q → A q := fun q h => by rw [← hAe]; exact Or.inr h
  have hS : va_S A s.heap s.heap [] := va_S.rf
  have hl := lv_entry ([.ref aP]) (n := 1) (Nat.le_of_ble_eq_true rfl)
  rw [lg_entry_eq]
  generalize (lg_sl ([.ref aP]) ++ List.replicate (1 - (lg_sl ([.ref aP])).length) Slot.unset).toArray = ls at hl ⊢
  have hl : lv_has ls 1 [(0, .ref aP)] := hl
  have iX4 : ∀ w ∈ wsX40, w ∈ wsX4_exact := fun w h => List.mem_cons_of_mem _ (List.mem_append_right _ h)
  have k_1 := hts (.fieldLink RX4 132 "ParkWays" "exact" "Z") (List.mem_of_getElem? (i := 1) rfl)
  unfold J_X4_exact at hJ
  refine lv_aload_n hx hb dX4_exact_0 rfl (lv_at hl 0 rfl) ?_
  refine va_get (D := D) (ci := 5) (v := .int exa) (C := RX4) (T := TX4) (N := 11) hx hb hts iX4 hown hK hP 0 rfl rfl 8 (by decide) k_1 (fun _ h9 => h9) rfl dX4_exact_1 ?_
  obtain ⟨z_1, hJ⟩ := gd_some hJ
  have ho := Option.some.inj hJ
  exact W.zret (v := exa) hx hb hr (isZ_nar z_1) (fun t ht hW => ⟨⟨_, (), rfl, ho, trivial⟩, hS.F ht⟩) hS.2.2 dX4_exact_4
set_option maxHeartbeats 4000000 in
set_option maxRecDepth 100000 in
theorem c_X4_follow (l : Launch) (D : va_G) (aP aS aCo aQu aC aKn aF aFu aFk aW aMv aPl : Nat) (cCo cQu cKn cFu cFk cMv cPl : ClassId) (plc : Int32) (hom : Int32) (gol : Int32) (stp : Int64) (exa : Int32) (hld : Int32) (err : UInt64) (rch : Int32) (nCo : Nat) (co : Nat → Int64) (nQu : Nat) (qu : Nat → Int32) (ln : Int32) (wd : Int32) (rd : Int32) (nKn : Nat) (kn : Nat → Int32) (w : Int32) (ht : Int32) (tn : Int32) (kp : Int32) (nFu : Nat) (fu : Nat → Int32) (nFk : Nat) (fk : Nat → Int32) (cnt : Int32) (mde : Int32) (stn : Int32) (nMv : Nat) (mv : Nat → Int32) (nPl : Nat) (pl : Nat → Int32) (p0 : Int32) (p1 : UInt64) (tX tY sz F : Nat) (o : Int32 × Int32 × UInt64 × Int32) (hJ : J_X4_follow F plc hld err cnt mde stn nPl pl p0 p1 = some o) : Met l yX4_follow wsX4_follow rmX4_follow (va_Pc [.ref aP, .int p0, .double p1] (pcW D [(aP, .inr (5, [.ref aF, .ref aC, .ref aS, .ref aW, .int plc, .int hom, .int gol, .long stp, .int exa, .int hld, .double err])), (aS, .inr (3, [.ref aC, .ref aCo, .ref aQu, .int rch])), (aCo, .inl (cCo, nCo, .inr (.inl co))), (aQu, .inl (cQu, nQu, .inl qu)), (aC, .inr (1, [.ref aF, .ref aKn, .int ln, .int wd, .int rd])), (aKn, .inl (cKn, nKn, .inl kn)), (aF, .inr (2, [.int w, .int ht, .int tn, .ref aFu, .ref aFk, .int kp])), (aFu, .inl (cFu, nFu, .inl fu)), (aFk, .inl (cFk, nFk, .inl fk)), (aW, .inr (4, [.ref aMv, .ref aPl, .int cnt, .int mde, .int stn])), (aMv, .inl (cMv, nMv, .inl mv)), (aPl, .inl (cPl, nPl, .inl pl))] [(cCo, .long), (cQu, .int), (cKn, .int), (cFu, .boolean), (cFk, .int), (cMv, .int), (cPl, .int)] sz tX tY)) (qWi D o.1 [(aP, .inr (5, [.ref aF, .ref aC, .ref aS, .ref aW, .int o.2.1, .int hom, .int gol, .long stp, .int exa, .int hld, .double o.2.2.1])), (aS, .inr (3, [.ref aC, .ref aCo, .ref aQu, .int rch])), (aCo, .inl (cCo, nCo, .inr (.inl co))), (aQu, .inl (cQu, nQu, .inl qu)), (aC, .inr (1, [.ref aF, .ref aKn, .int ln, .int wd, .int rd])), (aKn, .inl (cKn, nKn, .inl kn)), (aF, .inr (2, [.int w, .int ht, .int tn, .ref aFu, .ref aFk, .int kp])), (aFu, .inl (cFu, nFu, .inl fu)), (aFk, .inl (cFk, nFk, .inl fk)), (aW, .inr (4, [.ref aMv, .ref aPl, .int cnt, .int o.2.2.2, .int stn])), (aMv, .inl (cMv, nMv, .inl mv)), (aPl, .inl (cPl, nPl, .inl pl))] (va_A [(aP, .inr (5, [.ref aF, .ref aC, .ref aS, .ref aW, .int plc, .int hom, .int gol, .long stp, .int exa, .int hld, .double err])), (aS, .inr (3, [.ref aC, .ref aCo, .ref aQu, .int rch])), (aCo, .inl (cCo, nCo, .inr (.inl co))), (aQu, .inl (cQu, nQu, .inl qu)), (aC, .inr (1, [.ref aF, .ref aKn, .int ln, .int wd, .int rd])), (aKn, .inl (cKn, nKn, .inl kn)), (aF, .inr (2, [.int w, .int ht, .int tn, .ref aFu, .ref aFk, .int kp])), (aFu, .inl (cFu, nFu, .inl fu)), (aFk, .inl (cFk, nFk, .inl fk)), (aW, .inr (4, [.ref aMv, .ref aPl, .int cnt, .int mde, .int stn])), (aMv, .inl (cMv, nMv, .inl mv)), (aPl, .inl (cPl, nPl, .inl pl))] sz)) 0 0 (va_A [(aP, .inr (5, [.ref aF, .ref aC, .ref aS, .ref aW, .int plc, .int hom, .int gol, .long stp, .int exa, .int hld, .double err])), (aS, .inr (3, [.ref aC, .ref aCo, .ref aQu, .int rch])), (aCo, .inl (cCo, nCo, .inr (.inl co))), (aQu, .inl (cQu, nQu, .inl qu)), (aC, .inr (1, [.ref aF, .ref aKn, .int ln, .int wd, .int rd])), (aKn, .inl (cKn, nKn, .inl kn)), (aF, .inr (2, [.int w, .int ht, .int tn, .ref aFu, .ref aFk, .int kp])), (aFu, .inl (cFu, nFu, .inl fu)), (aFk, .inl (cFk, nFk, .inl fk)), (aW, .inr (4, [.ref aMv, .ref aPl, .int cnt, .int mde, .int stn])), (aMv, .inl (cMv, nMv, .inl mv)), (aPl, .inl (cPl, nPl, .inl pl))] sz) := by
  refine Met.ofW (cc := cX4_follow) (maxL := 6) (ret := (some .int)) (by decide) rfl ?_
  intro p e s m args below meth c s₁ B hml hv
  obtain ⟨rfl, hsz, hP, hK, hD0, hST⟩ := hv
  have hx := B.exec
  have hb := B.bytes
  have hr := B.returns
  have hts := atoms_spec (ws := wsX4_follow) B.pre
  have hown : s.vm.findClass RX4 = some m.cls := findClass_of_methodNamed B.named
  have hlocks := B.notSynchronized
  subst hsz
  have hD := hD0.self (sz := s.heap.size)
  generalize hAe : va_A [(aP, .inr (5, [.ref aF, .ref aC, .ref aS, .ref aW, .int plc, .int hom, .int gol, .long stp, .int exa, .int hld, .double err])), (aS, .inr (3, [.ref aC, .ref aCo, .ref aQu, .int rch])), (aCo, .inl (cCo, nCo, .inr (.inl co))), (aQu, .inl (cQu, nQu, .inl qu)), (aC, .inr (1, [.ref aF, .ref aKn, .int ln, .int wd, .int rd])), (aKn, .inl (cKn, nKn, .inl kn)), (aF, .inr (2, [.int w, .int ht, .int tn, .ref aFu, .ref aFk, .int kp])), (aFu, .inl (cFu, nFu, .inl fu)), (aFk, .inl (cFk, nFk, .inl fk)), (aW, .inr (4, [.ref aMv, .ref aPl, .int cnt, .int mde, .int stn])), (aMv, .inl (cMv, nMv, .inl mv)), (aPl, .inl (cPl, nPl, .inl pl))] s.heap.size = A at hD hST ⊢
  have hA : ∀ q : Nat, s.heap.size ≤ q → A q := fun q h => by rw [← hAe]; exact Or.inr h
  have hS : va_S A s.heap s.heap [] := va_S.rf
  have hl := lv_entry ([.ref aP, .int p0, .double p1]) (n := 6) (Nat.le_of_ble_eq_true rfl)
  rw [lg_entry_eq]
  generalize (lg_sl ([.ref aP, .int p0, .double p1]) ++ List.replicate (6 - (lg_sl ([.ref aP, .int p0, .double p1])).length) Slot.unset).toArray = ls at hl ⊢
  have hl : lv_has ls 6 [(0, .ref aP), (1, .int p0), (2, .double p1)] := hl
  have iX3 : ∀ w ∈ wsX30, w ∈ wsX4_follow := fun w h => List.mem_cons_of_mem _ (List.mem_append_right _ h)
  have iX4 : ∀ w ∈ wsX40, w ∈ wsX4_follow := fun w h => List.mem_cons_of_mem _ (List.mem_append_left _ (List.mem_append_right _ h))
  have k_1 := hts (.constantDouble RX4 156 (13830554455654793216)) (List.mem_of_getElem? (i := 1) rfl)
  have k_2 := hts (.fieldLink RX4 53 "ParkWays" "way" "LParkWays$Way;") (List.mem_of_getElem? (i := 2) rfl)
  have k_3 := hts (.fieldLink RX4 7 "ParkWays" "held" "Z") (List.mem_of_getElem? (i := 3) rfl)
  have k_4 := hts (.fieldLink RX4 103 "ParkWays" "place" "I") (List.mem_of_getElem? (i := 4) rfl)
  have L_55 : ∀ (y1_13 : Int32) (y2_14 : UInt64) (kk_129 : Int32 → Int32 → UInt64 → Int32 → Option (Int32 × Int32 × UInt64 × Int32)) (hkk_129 : ∀ (H : Heap) (locs : List Loc) (x5_15 : Int32) (xplc_16 : Int32) (xerr_17 : UInt64) (xmde_18 : Int32) (ls : Array Slot), kk_129 x5_15 xplc_16 xerr_17 xmde_18 = some o → va_P D vwCl [(aP, .inr (5, [.ref aF, .ref aC, .ref aS, .ref aW, .int xplc_16, .int hom, .int gol, .long stp, .int exa, .int hld, .double xerr_17])), (aS, .inr (3, [.ref aC, .ref aCo, .ref aQu, .int rch])), (aCo, .inl (cCo, nCo, .inr (.inl co))), (aQu, .inl (cQu, nQu, .inl qu)), (aC, .inr (1, [.ref aF, .ref aKn, .int ln, .int wd, .int rd])), (aKn, .inl (cKn, nKn, .inl kn)), (aF, .inr (2, [.int w, .int ht, .int tn, .ref aFu, .ref aFk, .int kp])), (aFu, .inl (cFu, nFu, .inl fu)), (aFk, .inl (cFk, nFk, .inl fk)), (aW, .inr (4, [.ref aMv, .ref aPl, .int cnt, .int xmde_18, .int stn])), (aMv, .inl (cMv, nMv, .inl mv)), (aPl, .inl (cPl, nPl, .inl pl))] H → va_D A [(aP, .inr (5, [.ref aF, .ref aC, .ref aS, .ref aW, .int xplc_16, .int hom, .int gol, .long stp, .int exa, .int hld, .double xerr_17])), (aS, .inr (3, [.ref aC, .ref aCo, .ref aQu, .int rch])), (aCo, .inl (cCo, nCo, .inr (.inl co))), (aQu, .inl (cQu, nQu, .inl qu)), (aC, .inr (1, [.ref aF, .ref aKn, .int ln, .int wd, .int rd])), (aKn, .inl (cKn, nKn, .inl kn)), (aF, .inr (2, [.int w, .int ht, .int tn, .ref aFu, .ref aFk, .int kp])), (aFu, .inl (cFu, nFu, .inl fu)), (aFk, .inl (cFk, nFk, .inl fk)), (aW, .inr (4, [.ref aMv, .ref aPl, .int cnt, .int xmde_18, .int stn])), (aMv, .inl (cMv, nMv, .inl mv)), (aPl, .inl (cPl, nPl, .inl pl))] → va_S A s.heap H locs → lv_has ls 6 [] → W p l e (headSpec wsX4_follow rmX4_follow).room s m [.ref aP, .int p0, .double p1].toArray below meth c H locs 0 0 (MQ below (qWi D o.1 [(aP, .inr (5, [.ref aF, .ref aC, .ref aS, .ref aW, .int o.2.1, .int hom, .int gol, .long stp, .int exa, .int hld, .double o.2.2.1])), (aS, .inr (3, [.ref aC, .ref aCo, .ref aQu, .int rch])), (aCo, .inl (cCo, nCo, .inr (.inl co))), (aQu, .inl (cQu, nQu, .inl qu)), (aC, .inr (1, [.ref aF, .ref aKn, .int ln, .int wd, .int rd])), (aKn, .inl (cKn, nKn, .inl kn)), (aF, .inr (2, [.int w, .int ht, .int tn, .ref aFu, .ref aFk, .int kp])), (aFu, .inl (cFu, nFu, .inl fu)), (aFk, .inl (cFk, nFk, .inl fk)), (aW, .inr (4, [.ref aMv, .ref aPl, .int cnt, .int o.2.2.2, .int stn])), (aMv, .inl (cMv, nMv, .inl mv)), (aPl, .inl (cPl, nPl, .inl pl))] A) [.ref aP, .int p0, .double p1].toArray s 0 0 A) (F0 m 129 ls [])) (fz : Nat) (H : Heap) (locs : List Loc) (x5_15 : Int32) (xplc_16 : Int32) (xerr_17 : UInt64) (xmde_18 : Int32) (ls : Array Slot), J_X4_follow_L55 F hld cnt nPl pl y1_13 y2_14 kk_129 fz x5_15 xplc_16 xerr_17 xmde_18 = some o → va_P D vwCl [(aP, .inr (5, [.ref aF, .ref aC, .ref aS, .ref aW, .int xplc_16, .int hom, .int gol, .long stp, .int exa, .int hld, .double xerr_17])), (aS, .inr (3, [.ref aC, .ref aCo, .ref aQu, .int rch])), (aCo, .inl (cCo, nCo, .inr (.inl co))), (aQu, .inl (cQu, nQu, .inl qu)), (aC, .inr (1, [.ref aF, .ref aKn, .int ln, .int wd, .int rd])), (aKn, .inl (cKn, nKn, .inl kn)), (aF, .inr (2, [.int w, .int ht, .int tn, .ref aFu, .ref aFk, .int kp])), (aFu, .inl (cFu, nFu, .inl fu)), (aFk, .inl (cFk, nFk, .inl fk)), (aW, .inr (4, [.ref aMv, .ref aPl, .int cnt, .int xmde_18, .int stn])), (aMv, .inl (cMv, nMv, .inl mv)), (aPl, .inl (cPl, nPl, .inl pl))] H → va_D A [(aP, .inr (5, [.ref aF, .ref aC, .ref aS, .ref aW, .int xplc_16, .int hom, .int gol, .long stp, .int exa, .int hld, .double xerr_17])), (aS, .inr (3, [.ref aC, .ref aCo, .ref aQu, .int rch])), (aCo, .inl (cCo, nCo, .inr (.inl co))), (aQu, .inl (cQu, nQu, .inl qu)), (aC, .inr (1, [.ref aF, .ref aKn, .int ln, .int wd, .int rd])), (aKn, .inl (cKn, nKn, .inl kn)), (aF, .inr (2, [.int w, .int ht, .int tn, .ref aFu, .ref aFk, .int kp])), (aFu, .inl (cFu, nFu, .inl fu)), (aFk, .inl (cFk, nFk, .inl fk)), (aW, .inr (4, [.ref aMv, .ref aPl, .int cnt, .int xmde_18, .int stn])), (aMv, .inl (cMv, nMv, .inl mv)), (aPl, .inl (cPl, nPl, .inl pl))] → va_S A s.heap H locs → lv_has ls 6 [(0, .ref aP), (1, .int y1_13), (2, .double y2_14), (5, .int x5_15)] → W p l e (headSpec wsX4_follow rmX4_follow).room s m [.ref aP, .int p0, .double p1].toArray below meth c H locs 0 0 (MQ below (qWi D o.1 [(aP, .inr (5, [.ref aF, .ref aC, .ref aS, .ref aW, .int o.2.1, .int hom, .int gol, .long stp, .int exa, .int hld, .double o.2.2.1])), (aS, .inr (3, [.ref aC, .ref aCo, .ref aQu, .int rch])), (aCo, .inl (cCo, nCo, .inr (.inl co))), (aQu, .inl (cQu, nQu, .inl qu)), (aC, .inr (1, [.ref aF, .ref aKn, .int ln, .int wd, .int rd])), (aKn, .inl (cKn, nKn, .inl kn)), (aF, .inr (2, [.int w, .int ht, .int tn, .ref aFu, .ref aFk, .int kp])), (aFu, .inl (cFu, nFu, .inl fu)), (aFk, .inl (cFk, nFk, .inl fk)), (aW, .inr (4, [.ref aMv, .ref aPl, .int cnt, .int o.2.2.2, .int stn])), (aMv, .inl (cMv, nMv, .inl mv)), (aPl, .inl (cPl, nPl, .inl pl))] A) [.ref aP, .int p0, .double p1].toArray s 0 0 A) (F0 m 55 ls []) := by
    intro y1_13 y2_14 kk_129 hkk_129 fz
    induction fz with
    | zero =>
      intro H locs x5_15 xplc_16 xerr_17 xmde_18 ls hJ
      rw [J_X4_follow_L55] at hJ
      cases hJ
    | succ fz ih =>
      intro H locs x5_15 xplc_16 xerr_17 xmde_18 ls hJ hP hD hS hl
      rw [J_X4_follow_L55] at hJ
      refine lv_iload hx hb dX4_follow_55 (lv_at hl 3 rfl) ?_
      refine lv_iload_n hx hb dX4_follow_57 rfl (lv_at hl 1 rfl) ?_
      refine lv_icmp_ge (tgt := 129) hx hb dX4_follow_58 (by decide) (fun c_19 => ?_) (fun c_19 => ?_)
      · have hJ := j_t c_19 hJ
        exact hkk_129 H locs x5_15 xplc_16 xerr_17 xmde_18 ls hJ hP hD hS (lv_sub hl [] rfl)
      · have hJ := j_f c_19 hJ
        refine lv_aload_n hx hb dX4_follow_61 rfl (lv_at hl 0 rfl) ?_
        refine va_get (D := D) (ci := 5) (v := .ref aW) (C := RX4) (T := TX4) (N := 11) hx hb hts iX4 hown hK hP 0 rfl rfl 3 (by decide) k_2 (fun _ h9 => h9) rfl dX4_follow_62 ?_
        refine lv_aload_n hx hb dX4_follow_65 rfl (lv_at hl 0 rfl) ?_
        refine va_get (D := D) (ci := 5) (v := .ref aW) (C := RX4) (T := TX4) (N := 11) hx hb hts iX4 hown hK hP 0 rfl rfl 3 (by decide) k_2 (fun _ h9 => h9) rfl dX4_follow_66 ?_
        refine va_getN (D := D) (ci := 4) (v := .int xmde_18) (C := RX3) (T := TX3) (N := 5) hx hb hts iX3 hown hK hP 9 rfl rfl 3 (by decide) (va_Nw.use rfl (hST.1.2.2.2.2.1)) (fun _ h9 => h9) rfl dX4_follow_69 ?_
        obtain ⟨v_20, hv_20, hJ⟩ := j_b hJ
        refine ro_i (va_runV (As := [.int xmde_18]) (rest := []) ⟨hx, hb, hml, hown, hts⟩ (c_X3_hasMove l D aW aMv aPl cMv cPl cnt xmde_18 stn nMv mv nPl pl xmde_18 tX tY H.size F v_20 hv_20) (cwV 1 hts gX4_follow_X3_hasMove rfl rfl rfl (by decide +kernel) ⟨Nat.le_of_ble_eq_true rfl, Nat.le_of_ble_eq_true rfl⟩) (preRV [.int xmde_18] hP hK hS hA hST [9, 10, 11] rfl [5, 6] rfl (ci := 4) (q0 := 9) rfl rfl) rfl rfl hl.1 rfl (lv_room (Nat.le_of_ble_eq_true rfl)) dX4_follow_72 ⟨Nat.zero_le _, Nat.zero_le _⟩) hP hS hA (fun H locs hP hS => ?_)
        refine lv_if_eq (tgt := 129) hx hb dX4_follow_75 (by decide) (fun c_21 => ?_) (fun c_21 => ?_)
        · have hJ := j_t c_21 hJ
          exact hkk_129 H locs x5_15 xplc_16 xerr_17 xmde_18 ls hJ hP hD hS (lv_sub hl [] rfl)
        · have hJ := j_f c_21 hJ
          refine lv_aload_n hx hb dX4_follow_78 rfl (lv_at hl 0 rfl) ?_
          refine va_get (D := D) (ci := 5) (v := .int hld) (C := RX4) (T := TX4) (N := 11) hx hb hts iX4 hown hK hP 0 rfl rfl 9 (by decide) k_3 (fun _ h9 => h9) rfl dX4_follow_79 ?_
          refine lv_if_ne (tgt := 87) hx hb dX4_follow_82 (by decide) (fun c_22 => ?_) (fun c_22 => ?_)
          · have hJ := j_f c_22 hJ
            refine lv_aload_n hx hb dX4_follow_87 rfl (lv_at hl 0 rfl) ?_
            refine lv_aload_n hx hb dX4_follow_88 rfl (lv_at hl 0 rfl) ?_
            refine va_get (D := D) (ci := 5) (v := .ref aW) (C := RX4) (T := TX4) (N := 11) hx hb hts iX4 hown hK hP 0 rfl rfl 3 (by decide) k_2 (fun _ h9 => h9) rfl dX4_follow_89 ?_
            refine lv_aload_n hx hb dX4_follow_92 rfl (lv_at hl 0 rfl) ?_
            refine va_get (D := D) (ci := 5) (v := .ref aW) (C := RX4) (T := TX4) (N := 11) hx hb hts iX4 hown hK hP 0 rfl rfl 3 (by decide) k_2 (fun _ h9 => h9) rfl dX4_follow_93 ?_
            refine va_getN (D := D) (ci := 4) (v := .int xmde_18) (C := RX3) (T := TX3) (N := 5) hx hb hts iX3 hown hK hP 9 rfl rfl 3 (by decide) (va_Nw.use rfl (hST.1.2.2.2.2.1)) (fun _ h9 => h9) rfl dX4_follow_96 ?_
            obtain ⟨v_23, hv_23, hJ⟩ := j_b hJ
            refine ro_i (va_runV (As := [.int xmde_18]) (rest := [.ref aP]) ⟨hx, hb, hml, hown, hts⟩ (c_X3_placeBehind l D aW aMv aPl cMv cPl cnt xmde_18 stn nMv mv nPl pl xmde_18 tX tY H.size F v_23 hv_23) (cwV 1 hts gX4_follow_X3_placeBehind rfl rfl rfl (by decide +kernel) ⟨Nat.le_of_ble_eq_true rfl, Nat.le_of_ble_eq_true rfl⟩) (preRV [.int xmde_18] hP hK hS hA hST [9, 10, 11] rfl [5, 6] rfl (ci := 4) (q0 := 9) rfl rfl) rfl rfl hl.1 rfl (lv_room (Nat.le_of_ble_eq_true rfl)) dX4_follow_99 ⟨Nat.zero_le _, Nat.zero_le _⟩) hP hS hA (fun H locs hP hS => ?_)
            refine va_put (D := D) (ci := 5) (v := .int v_23) (ty := .int) (C := RX4) (T := TX4) (N := 11) hx hb hts iX4 tyX4 tyX4_ok nmX4 hown hK hP hD hS 0 rfl rfl 4 (by decide) k_4 (fun _ h9 => h9) rfl (by decide +kernel) rfl rfl (Nat.le_of_ble_eq_true rfl) dX4_follow_102 (fun H locs hP hD hS => ?_)
            have hP : va_P D vwCl [(aP, .inr (5, [.ref aF, .ref aC, .ref aS, .ref aW, .int v_23, .int hom, .int gol, .long stp, .int exa, .int hld, .double xerr_17])), (aS, .inr (3, [.ref aC, .ref aCo, .ref aQu, .int rch])), (aCo, .inl (cCo, nCo, .inr (.inl co))), (aQu, .inl (cQu, nQu, .inl qu)), (aC, .inr (1, [.ref aF, .ref aKn, .int ln, .int wd, .int rd])), (aKn, .inl (cKn, nKn, .inl kn)), (aF, .inr (2, [.int w, .int ht, .int tn, .ref aFu, .ref aFk, .int kp])), (aFu, .inl (cFu, nFu, .inl fu)), (aFk, .inl (cFk, nFk, .inl fk)), (aW, .inr (4, [.ref aMv, .ref aPl, .int cnt, .int xmde_18, .int stn])), (aMv, .inl (cMv, nMv, .inl mv)), (aPl, .inl (cPl, nPl, .inl pl))] H := hP
            have hD : va_D A [(aP, .inr (5, [.ref aF, .ref aC, .ref aS, .ref aW, .int v_23, .int hom, .int gol, .long stp, .int exa, .int hld, .double xerr_17])), (aS, .inr (3, [.ref aC, .ref aCo, .ref aQu, .int rch])), (aCo, .inl (cCo, nCo, .inr (.inl co))), (aQu, .inl (cQu, nQu, .inl qu)), (aC, .inr (1, [.ref aF, .ref aKn, .int ln, .int wd, .int rd])), (aKn, .inl (cKn, nKn, .inl kn)), (aF, .inr (2, [.int w, .int ht, .int tn, .ref aFu, .ref aFk, .int kp])), (aFu, .inl (cFu, nFu, .inl fu)), (aFk, .inl (cFk, nFk, .inl fk)), (aW, .inr (4, [.ref aMv, .ref aPl, .int cnt, .int xmde_18, .int stn])), (aMv, .inl (cMv, nMv, .inl mv)), (aPl, .inl (cPl, nPl, .inl pl))] := hD
            refine lv_aload_n hx hb dX4_follow_105 rfl (lv_at hl 0 rfl) ?_
            refine va_get (D := D) (ci := 5) (v := .ref aW) (C := RX4) (T := TX4) (N := 11) hx hb hts iX4 hown hK hP 0 rfl rfl 3 (by decide) k_2 (fun _ h9 => h9) rfl dX4_follow_106 ?_
            refine lv_dup hx hb dX4_follow_109 rfl ?_
            refine va_getN (D := D) (ci := 4) (v := .int xmde_18) (C := RX3) (T := TX3) (N := 5) hx hb hts iX3 hown hK hP 9 rfl rfl 3 (by decide) (va_Nw.use rfl (hST.1.2.2.2.2.1)) (fun _ h9 => h9) rfl dX4_follow_110 ?_
            refine lv_iconst (v := 1) hx hb dX4_follow_113 (by decide) ?_
            refine lv_iadd hx hb dX4_follow_114 ?_
            refine va_putN (D := D) (ci := 4) (v := .int (xmde_18 + (1 : Int32))) (ty := .int) (C := RX3) (T := TX3) (N := 5) hx hb hts iX3 tyX3 tyX3_ok nmX3 hown hK hP hD hS 9 rfl rfl 3 (by decide) (va_Nw.use rfl (hST.1.2.2.2.2.1)) (fun _ h9 => h9) rfl (by decide +kernel) rfl rfl (Nat.le_of_ble_eq_true rfl) dX4_follow_115 (fun H locs hP hD hS => ?_)
            have hP : va_P D vwCl [(aP, .inr (5, [.ref aF, .ref aC, .ref aS, .ref aW, .int v_23, .int hom, .int gol, .long stp, .int exa, .int hld, .double xerr_17])), (aS, .inr (3, [.ref aC, .ref aCo, .ref aQu, .int rch])), (aCo, .inl (cCo, nCo, .inr (.inl co))), (aQu, .inl (cQu, nQu, .inl qu)), (aC, .inr (1, [.ref aF, .ref aKn, .int ln, .int wd, .int rd])), (aKn, .inl (cKn, nKn, .inl kn)), (aF, .inr (2, [.int w, .int ht, .int tn, .ref aFu, .ref aFk, .int kp])), (aFu, .inl (cFu, nFu, .inl fu)), (aFk, .inl (cFk, nFk, .inl fk)), (aW, .inr (4, [.ref aMv, .ref aPl, .int cnt, .int (xmde_18 + (1 : Int32)), .int stn])), (aMv, .inl (cMv, nMv, .inl mv)), (aPl, .inl (cPl, nPl, .inl pl))] H := hP
            have hD : va_D A [(aP, .inr (5, [.ref aF, .ref aC, .ref aS, .ref aW, .int v_23, .int hom, .int gol, .long stp, .int exa, .int hld, .double xerr_17])), (aS, .inr (3, [.ref aC, .ref aCo, .ref aQu, .int rch])), (aCo, .inl (cCo, nCo, .inr (.inl co))), (aQu, .inl (cQu, nQu, .inl qu)), (aC, .inr (1, [.ref aF, .ref aKn, .int ln, .int wd, .int rd])), (aKn, .inl (cKn, nKn, .inl kn)), (aF, .inr (2, [.int w, .int ht, .int tn, .ref aFu, .ref aFk, .int kp])), (aFu, .inl (cFu, nFu, .inl fu)), (aFk, .inl (cFk, nFk, .inl fk)), (aW, .inr (4, [.ref aMv, .ref aPl, .int cnt, .int (xmde_18 + (1 : Int32)), .int stn])), (aMv, .inl (cMv, nMv, .inl mv)), (aPl, .inl (cPl, nPl, .inl pl))] := hD
            refine lv_aload_n hx hb dX4_follow_118 rfl (lv_at hl 0 rfl) ?_
            refine lv_dload_n hx hb dX4_follow_119 rfl (lv_at hl 2 rfl) ?_
            obtain ⟨v_24, hv_24, hJ⟩ := j_b hJ
            refine wr_v (wr := []) (wn := [(aP, .inr (5, [.ref aF, .ref aC, .ref aS, .ref aW, .int v_23, .int hom, .int gol, .long stp, .int exa, .int hld, .double v_24])), (aS, .inr (3, [.ref aC, .ref aCo, .ref aQu, .int rch])), (aCo, .inl (cCo, nCo, .inr (.inl co))), (aQu, .inl (cQu, nQu, .inl qu)), (aC, .inr (1, [.ref aF, .ref aKn, .int ln, .int wd, .int rd])), (aKn, .inl (cKn, nKn, .inl kn)), (aF, .inr (2, [.int w, .int ht, .int tn, .ref aFu, .ref aFk, .int kp])), (aFu, .inl (cFu, nFu, .inl fu)), (aFk, .inl (cFk, nFk, .inl fk)), (aW, .inr (4, [.ref aMv, .ref aPl, .int cnt, .int (xmde_18 + (1 : Int32)), .int stn])), (aMv, .inl (cMv, nMv, .inl mv)), (aPl, .inl (cPl, nPl, .inl pl))]) (va_runV (As := [.double y2_14]) (rest := []) ⟨hx, hb, hml, hown, hts⟩ (c_X4_addToError l D aP aS aCo aQu aC aKn aF aFu aFk aW aMv aPl cCo cQu cKn cFu cFk cMv cPl v_23 hom gol stp exa hld xerr_17 rch nCo co nQu qu ln wd rd nKn kn w ht tn kp nFu fu nFk fk cnt (xmde_18 + (1 : Int32)) stn nMv mv nPl pl y2_14 tX tY H.size F v_24 hv_24) (cwV 1 hts gX4_follow_X4_addToError rfl rfl rfl (by decide +kernel) ⟨Nat.le_of_ble_eq_true rfl, Nat.le_of_ble_eq_true rfl⟩) (preWV [.double y2_14] hP hD hK hS hA hST [0, 1, 2, 3, 4, 5, 6, 7, 8, 9, 10, 11] rfl rfl rfl [0, 1, 2, 3, 4, 5, 6] rfl (ci := 5) (q0 := 0) rfl rfl) rfl rfl hl.1 rfl (lv_room (Nat.le_of_ble_eq_true rfl)) dX4_follow_120 ⟨Nat.zero_le _, Nat.zero_le _⟩) hP hD hS hA [0, 1, 2, 3, 4, 5, 6, 7, 8, 9, 10, 11] [] rfl rfl rfl (by decide) [0, 1, 2, 3, 4, 5, 6, 7, 8, 9, 10, 11] rfl rfl rfl (fun H locs hP hD hS => ?_)
            refine lv_iinc (v := (x5_15 + (1 : Int32))) (lv' := [(5, .int (x5_15 + (1 : Int32))), (0, .ref aP), (1, .int y1_13), (2, .double y2_14)]) hx hb dX4_follow_123 hl (k := 3) rfl rfl (by decide) rfl (fun ls hl => ?_)
            refine lv_goto (tgt := 55) hx hb dX4_follow_126 (by decide) ?_
            exact ih H locs (x5_15 + (1 : Int32)) v_23 v_24 (xmde_18 + (1 : Int32)) ls hJ hP hD hS (lv_sub hl [1, 2, 3, 0] rfl)
          · have hJ := j_t c_22 hJ
            refine lv_iconst (v := 2) hx hb dX4_follow_85 (by decide) ?_
            have ho := Option.some.inj hJ
            exact W.iret (v := (2 : Int32)) hx hb hr (fun t ht hW => ⟨⟨_, (), rfl, (by rw [← ho]), (by rw [ht, ← ho]; exact hP), (by rw [← ho]; exact hD)⟩, hS.F ht⟩) hS.2.2 dX4_follow_86
  unfold J_X4_follow at hJ
  refine lv_dload_n hx hb dX4_follow_0 rfl (lv_at hl 2 rfl) ?_
  refine lv_ldc2d (v := 13830554455654793216) hx hb hown k_1 dX4_follow_1 ?_
  refine lv_dcmp hx hb dX4_follow_4 ?_
  refine lv_if_lt (tgt := 18) hx hb dX4_follow_5 (by decide) (fun c_1 => ?_) (fun c_1 => ?_)
  · have hJ := j_t c_1 hJ
    refine lv_iconst (v := 0) hx hb dX4_follow_18 (by decide) ?_
    refine lv_istore (lv' := [(4, .int (0 : Int32)), (0, .ref aP), (1, .int p0), (2, .double p1)]) hx hb dX4_follow_19 hl (by decide) rfl (fun ls hl => ?_)
    refine lv_iconst (v := 1) hx hb dX4_follow_21 (by decide) ?_
    refine lv_iload_n hx hb dX4_follow_22 rfl (lv_at hl 2 rfl) ?_
    refine lv_sipush (v := 1000) hx hb dX4_follow_23 (by decide) ?_
    obtain ⟨v_2, hv_2, hJ⟩ := j_b hJ
    refine ro_i (va_runS (As := [.int (1 : Int32), .int p0, .int (1000 : Int32)]) (rest := []) ⟨hx, hb, hml, hown, hts⟩ (c_X4_isFrom l D (1 : Int32) p0 (1000 : Int32) tX tY s.heap.size F v_2 hv_2) (va_cwS 3 hts gX4_follow_X4_isFrom rfl rfl rfl (by decide +kernel) ⟨Nat.le_of_ble_eq_true rfl, Nat.le_of_ble_eq_true rfl⟩) (preRS [.int (1 : Int32), .int p0, .int (1000 : Int32)] hP hK hS hA hST [] rfl [] rfl) rfl rfl hl.1 rfl (lv_room (Nat.le_of_ble_eq_true rfl)) dX4_follow_26 ⟨Nat.zero_le _, Nat.zero_le _⟩) hP hS hA (fun H locs hP hS => ?_)
    refine lv_if_eq (tgt := 37) hx hb dX4_follow_29 (by decide) (fun c_3 => ?_) (fun c_3 => ?_)
    · have hJ := j_t c_3 hJ
      refine lv_bipush (v := (-2)) hx hb dX4_follow_37 (by decide) ?_
      have ho := Option.some.inj hJ
      exact W.iret (v := (-2 : Int32)) hx hb hr (fun t ht hW => ⟨⟨_, (), rfl, (by rw [← ho]), (by rw [ht, ← ho]; exact hP), (by rw [← ho]; exact hD)⟩, hS.F ht⟩) hS.2.2 dX4_follow_39
    · have hJ := j_f c_3 hJ
      refine lv_iload hx hb dX4_follow_32 (lv_at hl 0 rfl) ?_
      refine lv_if_ne (tgt := 40) hx hb dX4_follow_34 (by decide) (fun c_4 => absurd (by decide) c_4) (fun c_4 => ?_)
      refine lv_bipush (v := (-2)) hx hb dX4_follow_37 (by decide) ?_
      have ho := Option.some.inj hJ
      exact W.iret (v := (-2 : Int32)) hx hb hr (fun t ht hW => ⟨⟨_, (), rfl, (by rw [← ho]), (by rw [ht, ← ho]; exact hP), (by rw [← ho]; exact hD)⟩, hS.F ht⟩) hS.2.2 dX4_follow_39
  · have hJ := j_f c_1 hJ
    refine lv_dload_n hx hb dX4_follow_8 rfl (lv_at hl 2 rfl) ?_
    refine lv_dconst1 hx hb dX4_follow_9 ?_
    refine lv_dcmp hx hb dX4_follow_10 ?_
    refine lv_if_gt (tgt := 18) hx hb dX4_follow_11 (by decide) (fun c_5 => ?_) (fun c_5 => ?_)
    · have hJ := j_t c_5 hJ
      refine lv_iconst (v := 0) hx hb dX4_follow_18 (by decide) ?_
      refine lv_istore (lv' := [(4, .int (0 : Int32)), (0, .ref aP), (1, .int p0), (2, .double p1)]) hx hb dX4_follow_19 hl (by decide) rfl (fun ls hl => ?_)
      refine lv_iconst (v := 1) hx hb dX4_follow_21 (by decide) ?_
      refine lv_iload_n hx hb dX4_follow_22 rfl (lv_at hl 2 rfl) ?_
      refine lv_sipush (v := 1000) hx hb dX4_follow_23 (by decide) ?_
      obtain ⟨v_6, hv_6, hJ⟩ := j_b hJ
      refine ro_i (va_runS (As := [.int (1 : Int32), .int p0, .int (1000 : Int32)]) (rest := []) ⟨hx, hb, hml, hown, hts⟩ (c_X4_isFrom l D (1 : Int32) p0 (1000 : Int32) tX tY s.heap.size F v_6 hv_6) (va_cwS 3 hts gX4_follow_X4_isFrom rfl rfl rfl (by decide +kernel) ⟨Nat.le_of_ble_eq_true rfl, Nat.le_of_ble_eq_true rfl⟩) (preRS [.int (1 : Int32), .int p0, .int (1000 : Int32)] hP hK hS hA hST [] rfl [] rfl) rfl rfl hl.1 rfl (lv_room (Nat.le_of_ble_eq_true rfl)) dX4_follow_26 ⟨Nat.zero_le _, Nat.zero_le _⟩) hP hS hA (fun H locs hP hS => ?_)
      refine lv_if_eq (tgt := 37) hx hb dX4_follow_29 (by decide) (fun c_7 => ?_) (fun c_7 => ?_)
      · have hJ := j_t c_7 hJ
        refine lv_bipush (v := (-2)) hx hb dX4_follow_37 (by decide) ?_
        have ho := Option.some.inj hJ
        exact W.iret (v := (-2 : Int32)) hx hb hr (fun t ht hW => ⟨⟨_, (), rfl, (by rw [← ho]), (by rw [ht, ← ho]; exact hP), (by rw [← ho]; exact hD)⟩, hS.F ht⟩) hS.2.2 dX4_follow_39
      · have hJ := j_f c_7 hJ
        refine lv_iload hx hb dX4_follow_32 (lv_at hl 0 rfl) ?_
        refine lv_if_ne (tgt := 40) hx hb dX4_follow_34 (by decide) (fun c_8 => absurd (by decide) c_8) (fun c_8 => ?_)
        refine lv_bipush (v := (-2)) hx hb dX4_follow_37 (by decide) ?_
        have ho := Option.some.inj hJ
        exact W.iret (v := (-2 : Int32)) hx hb hr (fun t ht hW => ⟨⟨_, (), rfl, (by rw [← ho]), (by rw [ht, ← ho]; exact hP), (by rw [← ho]; exact hD)⟩, hS.F ht⟩) hS.2.2 dX4_follow_39
    · have hJ := j_f c_5 hJ
      refine lv_iconst (v := 1) hx hb dX4_follow_14 (by decide) ?_
      refine lv_goto (tgt := 19) hx hb dX4_follow_15 (by decide) ?_
      refine lv_istore (lv' := [(4, .int (1 : Int32)), (0, .ref aP), (1, .int p0), (2, .double p1)]) hx hb dX4_follow_19 hl (by decide) rfl (fun ls hl => ?_)
      refine lv_iconst (v := 1) hx hb dX4_follow_21 (by decide) ?_
      refine lv_iload_n hx hb dX4_follow_22 rfl (lv_at hl 2 rfl) ?_
      refine lv_sipush (v := 1000) hx hb dX4_follow_23 (by decide) ?_
      obtain ⟨v_9, hv_9, hJ⟩ := j_b hJ
      refine ro_i (va_runS (As := [.int (1 : Int32), .int p0, .int (1000 : Int32)]) (rest := []) ⟨hx, hb, hml, hown, hts⟩ (c_X4_isFrom l D (1 : Int32) p0 (1000 : Int32) tX tY s.heap.size F v_9 hv_9) (va_cwS 3 hts gX4_follow_X4_isFrom rfl rfl rfl (by decide +kernel) ⟨Nat.le_of_ble_eq_true rfl, Nat.le_of_ble_eq_true rfl⟩) (preRS [.int (1 : Int32), .int p0, .int (1000 : Int32)] hP hK hS hA hST [] rfl [] rfl) rfl rfl hl.1 rfl (lv_room (Nat.le_of_ble_eq_true rfl)) dX4_follow_26 ⟨Nat.zero_le _, Nat.zero_le _⟩) hP hS hA (fun H locs hP hS => ?_)
      refine lv_if_eq (tgt := 37) hx hb dX4_follow_29 (by decide) (fun c_10 => ?_) (fun c_10 => ?_)
      · have hJ := j_t c_10 hJ
        refine lv_bipush (v := (-2)) hx hb dX4_follow_37 (by decide) ?_
        have ho := Option.some.inj hJ
        exact W.iret (v := (-2 : Int32)) hx hb hr (fun t ht hW => ⟨⟨_, (), rfl, (by rw [← ho]), (by rw [ht, ← ho]; exact hP), (by rw [← ho]; exact hD)⟩, hS.F ht⟩) hS.2.2 dX4_follow_39
      · have hJ := j_f c_10 hJ
        refine lv_iload hx hb dX4_follow_32 (lv_at hl 0 rfl) ?_
        refine lv_if_ne (tgt := 40) hx hb dX4_follow_34 (by decide) (fun c_11 => ?_) (fun c_11 => absurd c_11 (by decide))
        refine lv_aload_n hx hb dX4_follow_40 rfl (lv_at hl 1 rfl) ?_
        refine va_get (D := D) (ci := 5) (v := .ref aW) (C := RX4) (T := TX4) (N := 11) hx hb hts iX4 hown hK hP 0 rfl rfl 3 (by decide) k_2 (fun _ h9 => h9) rfl dX4_follow_41 ?_
        refine va_getN (D := D) (ci := 4) (v := .int stn) (C := RX3) (T := TX3) (N := 5) hx hb hts iX3 hown hK hP 9 rfl rfl 4 (by decide) (va_Nw.use rfl (hST.1.2.2.2.1)) (fun _ h9 => h9) rfl dX4_follow_44 ?_
        refine lv_if_ne (tgt := 52) hx hb dX4_follow_47 (by decide) (fun c_12 => ?_) (fun c_12 => ?_)
        · have hJ := j_f c_12 hJ
          refine lv_iconst (v := 0) hx hb dX4_follow_52 (by decide) ?_
          refine lv_istore (lv' := [(5, .int (0 : Int32)), (4, .int (1 : Int32)), (0, .ref aP), (1, .int p0), (2, .double p1)]) hx hb dX4_follow_53 hl (by decide) rfl (fun ls hl => ?_)
          refine L_55 p0 p1 _ ?_ F H locs (0 : Int32) plc err mde ls hJ hP hD hS (lv_sub hl [2, 3, 4, 0] rfl)
          · intro H locs x5_25 xplc_26 xerr_27 xmde_28 ls hJ hP hD hS hl
            refine lv_iconst (v := 1) hx hb dX4_follow_129 (by decide) ?_
            have ho := Option.some.inj hJ
            exact W.iret (v := (1 : Int32)) hx hb hr (fun t ht hW => ⟨⟨_, (), rfl, (by rw [← ho]), (by rw [ht, ← ho]; exact hP), (by rw [← ho]; exact hD)⟩, hS.F ht⟩) hS.2.2 dX4_follow_130
        · have hJ := j_t c_12 hJ
          refine lv_iconst (v := 0) hx hb dX4_follow_50 (by decide) ?_
          have ho := Option.some.inj hJ
          exact W.iret (v := (0 : Int32)) hx hb hr (fun t ht hW => ⟨⟨_, (), rfl, (by rw [← ho]), (by rw [ht, ← ho]; exact hP), (by rw [← ho]; exact hD)⟩, hS.F ht⟩) hS.2.2 dX4_follow_51
set_option maxHeartbeats 4000000 in
set_option maxRecDepth 100000 in
theorem c_X4_error (l : Launch) (D : va_G) (aP aS aCo aQu aC aKn aF aFu aFk aW aMv aPl : Nat) (cCo cQu cKn cFu cFk cMv cPl : ClassId) (plc : Int32) (hom : Int32) (gol : Int32) (stp : Int64) (exa : Int32) (hld : Int32) (err : UInt64) (rch : Int32) (nCo : Nat) (co : Nat → Int64) (nQu : Nat) (qu : Nat → Int32) (ln : Int32) (wd : Int32) (rd : Int32) (nKn : Nat) (kn : Nat → Int32) (w : Int32) (ht : Int32) (tn : Int32) (kp : Int32) (nFu : Nat) (fu : Nat → Int32) (nFk : Nat) (fk : Nat → Int32) (cnt : Int32) (mde : Int32) (stn : Int32) (nMv : Nat) (mv : Nat → Int32) (nPl : Nat) (pl : Nat → Int32) (tX tY sz F : Nat) (o : UInt64) (hJ : J_X4_error F err = some o) : Met l yX4_error wsX4_error rmX4_error (va_Pc [.ref aP] (pcR D [(aP, .inr (5, [.ref aF, .ref aC, .ref aS, .ref aW, .int plc, .int hom, .int gol, .long stp, .int exa, .int hld, .double err])), (aS, .inr (3, [.ref aC, .ref aCo, .ref aQu, .int rch])), (aCo, .inl (cCo, nCo, .inr (.inl co))), (aQu, .inl (cQu, nQu, .inl qu)), (aC, .inr (1, [.ref aF, .ref aKn, .int ln, .int wd, .int rd])), (aKn, .inl (cKn, nKn, .inl kn)), (aF, .inr (2, [.int w, .int ht, .int tn, .ref aFu, .ref aFk, .int kp])), (aFu, .inl (cFu, nFu, .inl fu)), (aFk, .inl (cFk, nFk, .inl fk)), (aW, .inr (4, [.ref aMv, .ref aPl, .int cnt, .int mde, .int stn])), (aMv, .inl (cMv, nMv, .inl mv)), (aPl, .inl (cPl, nPl, .inl pl))] [(cCo, .long), (cQu, .int), (cKn, .int), (cFu, .boolean), (cFk, .int), (cMv, .int), (cPl, .int)] sz tX tY)) (qRd o (va_A [] sz)) 0 0 (va_A [] sz) := by
  refine Met.ofW (cc := cX4_error) (maxL := 1) (ret := (some .double)) (by decide) rfl ?_
  intro p e s m args below meth c s₁ B hml hv
  obtain ⟨rfl, hsz, hP, hK, hST⟩ := hv
  have hx := B.exec
  have hb := B.bytes
  have hr := B.returns
  have hts := atoms_spec (ws := wsX4_error) B.pre
  have hown : s.vm.findClass RX4 = some m.cls := findClass_of_methodNamed B.named
  have hlocks := B.notSynchronized
  subst hsz
  generalize hAe : va_A [] s.heap.size = A at hST ⊢
  have hA : ∀ q : Nat, s.heap.size ≤ q → A q := fun q h => by rw [← hAe]; exact Or.inr h
  have hS : va_S A s.heap s.heap [] := va_S.rf
  have hl := lv_entry ([.ref aP]) (n := 1) (Nat.le_of_ble_eq_true rfl)
  rw [lg_entry_eq]
  generalize (lg_sl ([.ref aP]) ++ List.replicate (1 - (lg_sl ([.ref aP])).length) Slot.unset).toArray = ls at hl ⊢
  have hl : lv_has ls 1 [(0, .ref aP)] := hl
  have iX4 : ∀ w ∈ wsX40, w ∈ wsX4_error := fun w h => List.mem_cons_of_mem _ (List.mem_append_right _ h)
  have k_1 := hts (.fieldLink RX4 168 "ParkWays" "error" "D") (List.mem_of_getElem? (i := 1) rfl)
  unfold J_X4_error at hJ
  refine lv_aload_n hx hb dX4_error_0 rfl (lv_at hl 0 rfl) ?_
  refine va_get (D := D) (ci := 5) (v := .double err) (C := RX4) (T := TX4) (N := 11) hx hb hts iX4 hown hK hP 0 rfl rfl 10 (by decide) k_1 (fun _ h9 => h9) rfl dX4_error_1 ?_
  have ho := Option.some.inj hJ
  exact W.dret (v := err) hx hb hr (fun t ht hW => ⟨⟨_, (), rfl, ho, trivial⟩, hS.F ht⟩) hS.2.2 dX4_error_4
set_option maxHeartbeats 4000000 in
set_option maxRecDepth 100000 in
theorem c_X4_release (l : Launch) (D : va_G) (aP aS aCo aQu aC aKn aF aFu aFk aW aMv aPl : Nat) (cCo cQu cKn cFu cFk cMv cPl : ClassId) (plc : Int32) (hom : Int32) (gol : Int32) (stp : Int64) (exa : Int32) (hld : Int32) (err : UInt64) (rch : Int32) (nCo : Nat) (co : Nat → Int64) (nQu : Nat) (qu : Nat → Int32) (ln : Int32) (wd : Int32) (rd : Int32) (nKn : Nat) (kn : Nat → Int32) (w : Int32) (ht : Int32) (tn : Int32) (kp : Int32) (nFu : Nat) (fu : Nat → Int32) (nFk : Nat) (fk : Nat → Int32) (cnt : Int32) (mde : Int32) (stn : Int32) (nMv : Nat) (mv : Nat → Int32) (nPl : Nat) (pl : Nat → Int32) (p0 : Int32) (tX tY sz F : Nat) (o : Int32 × Int32) (hJ : J_X4_release F hld p0 = some o) : Met l yX4_release wsX4_release rmX4_release (va_Pc [.ref aP, .int p0] (pcW D [(aP, .inr (5, [.ref aF, .ref aC, .ref aS, .ref aW, .int plc, .int hom, .int gol, .long stp, .int exa, .int hld, .double err])), (aS, .inr (3, [.ref aC, .ref aCo, .ref aQu, .int rch])), (aCo, .inl (cCo, nCo, .inr (.inl co))), (aQu, .inl (cQu, nQu, .inl qu)), (aC, .inr (1, [.ref aF, .ref aKn, .int ln, .int wd, .int rd])), (aKn, .inl (cKn, nKn, .inl kn)), (aF, .inr (2, [.int w, .int ht, .int tn, .ref aFu, .ref aFk, .int kp])), (aFu, .inl (cFu, nFu, .inl fu)), (aFk, .inl (cFk, nFk, .inl fk)), (aW, .inr (4, [.ref aMv, .ref aPl, .int cnt, .int mde, .int stn])), (aMv, .inl (cMv, nMv, .inl mv)), (aPl, .inl (cPl, nPl, .inl pl))] [(cCo, .long), (cQu, .int), (cKn, .int), (cFu, .boolean), (cFk, .int), (cMv, .int), (cPl, .int)] sz tX tY)) (qWi D o.1 [(aP, .inr (5, [.ref aF, .ref aC, .ref aS, .ref aW, .int plc, .int hom, .int gol, .long stp, .int exa, .int o.2, .double err])), (aS, .inr (3, [.ref aC, .ref aCo, .ref aQu, .int rch])), (aCo, .inl (cCo, nCo, .inr (.inl co))), (aQu, .inl (cQu, nQu, .inl qu)), (aC, .inr (1, [.ref aF, .ref aKn, .int ln, .int wd, .int rd])), (aKn, .inl (cKn, nKn, .inl kn)), (aF, .inr (2, [.int w, .int ht, .int tn, .ref aFu, .ref aFk, .int kp])), (aFu, .inl (cFu, nFu, .inl fu)), (aFk, .inl (cFk, nFk, .inl fk)), (aW, .inr (4, [.ref aMv, .ref aPl, .int cnt, .int mde, .int stn])), (aMv, .inl (cMv, nMv, .inl mv)), (aPl, .inl (cPl, nPl, .inl pl))] (va_A [(aP, .inr (5, [.ref aF, .ref aC, .ref aS, .ref aW, .int plc, .int hom, .int gol, .long stp, .int exa, .int hld, .double err])), (aS, .inr (3, [.ref aC, .ref aCo, .ref aQu, .int rch])), (aCo, .inl (cCo, nCo, .inr (.inl co))), (aQu, .inl (cQu, nQu, .inl qu)), (aC, .inr (1, [.ref aF, .ref aKn, .int ln, .int wd, .int rd])), (aKn, .inl (cKn, nKn, .inl kn)), (aF, .inr (2, [.int w, .int ht, .int tn, .ref aFu, .ref aFk, .int kp])), (aFu, .inl (cFu, nFu, .inl fu)), (aFk, .inl (cFk, nFk, .inl fk)), (aW, .inr (4, [.ref aMv, .ref aPl, .int cnt, .int mde, .int stn])), (aMv, .inl (cMv, nMv, .inl mv)), (aPl, .inl (cPl, nPl, .inl pl))] sz)) 0 0 (va_A [(aP, .inr (5, [.ref aF, .ref aC, .ref aS, .ref aW, .int plc, .int hom, .int gol, .long stp, .int exa, .int hld, .double err])), (aS, .inr (3, [.ref aC, .ref aCo, .ref aQu, .int rch])), (aCo, .inl (cCo, nCo, .inr (.inl co))), (aQu, .inl (cQu, nQu, .inl qu)), (aC, .inr (1, [.ref aF, .ref aKn, .int ln, .int wd, .int rd])), (aKn, .inl (cKn, nKn, .inl kn)), (aF, .inr (2, [.int w, .int ht, .int tn, .ref aFu, .ref aFk, .int kp])), (aFu, .inl (cFu, nFu, .inl fu)), (aFk, .inl (cFk, nFk, .inl fk)), (aW, .inr (4, [.ref aMv, .ref aPl, .int cnt, .int mde, .int stn])), (aMv, .inl (cMv, nMv, .inl mv)), (aPl, .inl (cPl, nPl, .inl pl))] sz) := by
  refine Met.ofW (cc := cX4_release) (maxL := 3) (ret := (some .int)) (by decide) rfl ?_
  intro p e s m args below meth c s₁ B hml hv
  obtain ⟨rfl, hsz, hP, hK, hD0, hST⟩ := hv
  have hx := B.exec
  have hb := B.bytes
  have hr := B.returns
  have hts := atoms_spec (ws := wsX4_release) B.pre
  have hown : s.vm.findClass RX4 = some m.cls := findClass_of_methodNamed B.named
  have hlocks := B.notSynchronized
  subst hsz
  have hD := hD0.self (sz := s.heap.size)
  generalize hAe : va_A [(aP, .inr (5, [.ref aF, .ref aC, .ref aS, .ref aW, .int plc, .int hom, .int gol, .long stp, .int exa, .int hld, .double err])), (aS, .inr (3, [.ref aC, .ref aCo, .ref aQu, .int rch])), (aCo, .inl (cCo, nCo, .inr (.inl co))), (aQu, .inl (cQu, nQu, .inl qu)), (aC, .inr (1, [.ref aF, .ref aKn, .int ln, .int wd, .int rd])), (aKn, .inl (cKn, nKn, .inl kn)), (aF, .inr (2, [.int w, .int ht, .int tn, .ref aFu, .ref aFk, .int kp])), (aFu, .inl (cFu, nFu, .inl fu)), (aFk, .inl (cFk, nFk, .inl fk)), (aW, .inr (4, [.ref aMv, .ref aPl, .int cnt, .int mde, .int stn])), (aMv, .inl (cMv, nMv, .inl mv)), (aPl, .inl (cPl, nPl, .inl pl))] s.heap.size = A at hD hST ⊢
  have hA : ∀ q : Nat, s.heap.size ≤ q → A q := fun q h => by rw [← hAe]; exact Or.inr h
  have hS : va_S A s.heap s.heap [] := va_S.rf
  have hl := lv_entry ([.ref aP, .int p0]) (n := 3) (Nat.le_of_ble_eq_true rfl)
  rw [lg_entry_eq]
  generalize (lg_sl ([.ref aP, .int p0]) ++ List.replicate (3 - (lg_sl ([.ref aP, .int p0])).length) Slot.unset).toArray = ls at hl ⊢
  have hl : lv_has ls 3 [(0, .ref aP), (1, .int p0)] := hl
  have iX4 : ∀ w ∈ wsX40, w ∈ wsX4_release := fun w h => List.mem_cons_of_mem _ (List.mem_append_right _ h)
  have k_1 := hts (.fieldLink RX4 7 "ParkWays" "held" "Z") (List.mem_of_getElem? (i := 1) rfl)
  unfold J_X4_release at hJ
  refine lv_aload_n hx hb dX4_release_0 rfl (lv_at hl 0 rfl) ?_
  refine va_get (D := D) (ci := 5) (v := .int hld) (C := RX4) (T := TX4) (N := 11) hx hb hts iX4 hown hK hP 0 rfl rfl 9 (by decide) k_1 (fun _ h9 => h9) rfl dX4_release_1 ?_
  refine lv_iload_n hx hb dX4_release_4 rfl (lv_at hl 1 rfl) ?_
  refine lv_icmp_eq (tgt := 12) hx hb dX4_release_5 (by decide) (fun c_1 => ?_) (fun c_1 => ?_)
  · have hJ := j_t c_1 hJ
    refine lv_iconst (v := 0) hx hb dX4_release_12 (by decide) ?_
    refine lv_istore_n (lv' := [(2, .int (0 : Int32)), (0, .ref aP), (1, .int p0)]) hx hb dX4_release_13 rfl hl (by decide) rfl (fun ls hl => ?_)
    refine lv_aload_n hx hb dX4_release_14 rfl (lv_at hl 1 rfl) ?_
    refine lv_iload_n hx hb dX4_release_15 rfl (lv_at hl 2 rfl) ?_
    obtain ⟨z_2, hJ⟩ := gd_some hJ
    refine va_put (D := D) (ci := 5) (v := .int p0) (ty := .boolean) (C := RX4) (T := TX4) (N := 11) hx hb hts iX4 tyX4 tyX4_ok nmX4 hown hK hP hD hS 0 rfl rfl 9 (by decide) k_1 (fun _ h9 => h9) rfl (by decide +kernel) (isZ_nar z_2) (isZ_fit z_2) (Nat.le_of_ble_eq_true rfl) dX4_release_16 (fun H locs hP hD hS => ?_)
    have hP : va_P D vwCl [(aP, .inr (5, [.ref aF, .ref aC, .ref aS, .ref aW, .int plc, .int hom, .int gol, .long stp, .int exa, .int p0, .double err])), (aS, .inr (3, [.ref aC, .ref aCo, .ref aQu, .int rch])), (aCo, .inl (cCo, nCo, .inr (.inl co))), (aQu, .inl (cQu, nQu, .inl qu)), (aC, .inr (1, [.ref aF, .ref aKn, .int ln, .int wd, .int rd])), (aKn, .inl (cKn, nKn, .inl kn)), (aF, .inr (2, [.int w, .int ht, .int tn, .ref aFu, .ref aFk, .int kp])), (aFu, .inl (cFu, nFu, .inl fu)), (aFk, .inl (cFk, nFk, .inl fk)), (aW, .inr (4, [.ref aMv, .ref aPl, .int cnt, .int mde, .int stn])), (aMv, .inl (cMv, nMv, .inl mv)), (aPl, .inl (cPl, nPl, .inl pl))] H := hP
    have hD : va_D A [(aP, .inr (5, [.ref aF, .ref aC, .ref aS, .ref aW, .int plc, .int hom, .int gol, .long stp, .int exa, .int p0, .double err])), (aS, .inr (3, [.ref aC, .ref aCo, .ref aQu, .int rch])), (aCo, .inl (cCo, nCo, .inr (.inl co))), (aQu, .inl (cQu, nQu, .inl qu)), (aC, .inr (1, [.ref aF, .ref aKn, .int ln, .int wd, .int rd])), (aKn, .inl (cKn, nKn, .inl kn)), (aF, .inr (2, [.int w, .int ht, .int tn, .ref aFu, .ref aFk, .int kp])), (aFu, .inl (cFu, nFu, .inl fu)), (aFk, .inl (cFk, nFk, .inl fk)), (aW, .inr (4, [.ref aMv, .ref aPl, .int cnt, .int mde, .int stn])), (aMv, .inl (cMv, nMv, .inl mv)), (aPl, .inl (cPl, nPl, .inl pl))] := hD
    refine lv_iload_n hx hb dX4_release_19 rfl (lv_at hl 0 rfl) ?_
    refine lv_if_eq (tgt := 27) hx hb dX4_release_20 (by decide) (fun c_3 => ?_) (fun c_3 => absurd (by decide) c_3)
    refine lv_iconst (v := 0) hx hb dX4_release_27 (by decide) ?_
    have ho := Option.some.inj hJ
    exact W.iret (v := (0 : Int32)) hx hb hr (fun t ht hW => ⟨⟨_, (), rfl, (by rw [← ho]), (by rw [ht, ← ho]; exact hP), (by rw [← ho]; exact hD)⟩, hS.F ht⟩) hS.2.2 dX4_release_28
  · have hJ := j_f c_1 hJ
    refine lv_iconst (v := 1) hx hb dX4_release_8 (by decide) ?_
    refine lv_goto (tgt := 13) hx hb dX4_release_9 (by decide) ?_
    refine lv_istore_n (lv' := [(2, .int (1 : Int32)), (0, .ref aP), (1, .int p0)]) hx hb dX4_release_13 rfl hl (by decide) rfl (fun ls hl => ?_)
    refine lv_aload_n hx hb dX4_release_14 rfl (lv_at hl 1 rfl) ?_
    refine lv_iload_n hx hb dX4_release_15 rfl (lv_at hl 2 rfl) ?_
    obtain ⟨z_4, hJ⟩ := gd_some hJ
    refine va_put (D := D) (ci := 5) (v := .int p0) (ty := .boolean) (C := RX4) (T := TX4) (N := 11) hx hb hts iX4 tyX4 tyX4_ok nmX4 hown hK hP hD hS 0 rfl rfl 9 (by decide) k_1 (fun _ h9 => h9) rfl (by decide +kernel) (isZ_nar z_4) (isZ_fit z_4) (Nat.le_of_ble_eq_true rfl) dX4_release_16 (fun H locs hP hD hS => ?_)
    have hP : va_P D vwCl [(aP, .inr (5, [.ref aF, .ref aC, .ref aS, .ref aW, .int plc, .int hom, .int gol, .long stp, .int exa, .int p0, .double err])), (aS, .inr (3, [.ref aC, .ref aCo, .ref aQu, .int rch])), (aCo, .inl (cCo, nCo, .inr (.inl co))), (aQu, .inl (cQu, nQu, .inl qu)), (aC, .inr (1, [.ref aF, .ref aKn, .int ln, .int wd, .int rd])), (aKn, .inl (cKn, nKn, .inl kn)), (aF, .inr (2, [.int w, .int ht, .int tn, .ref aFu, .ref aFk, .int kp])), (aFu, .inl (cFu, nFu, .inl fu)), (aFk, .inl (cFk, nFk, .inl fk)), (aW, .inr (4, [.ref aMv, .ref aPl, .int cnt, .int mde, .int stn])), (aMv, .inl (cMv, nMv, .inl mv)), (aPl, .inl (cPl, nPl, .inl pl))] H := hP
    have hD : va_D A [(aP, .inr (5, [.ref aF, .ref aC, .ref aS, .ref aW, .int plc, .int hom, .int gol, .long stp, .int exa, .int p0, .double err])), (aS, .inr (3, [.ref aC, .ref aCo, .ref aQu, .int rch])), (aCo, .inl (cCo, nCo, .inr (.inl co))), (aQu, .inl (cQu, nQu, .inl qu)), (aC, .inr (1, [.ref aF, .ref aKn, .int ln, .int wd, .int rd])), (aKn, .inl (cKn, nKn, .inl kn)), (aF, .inr (2, [.int w, .int ht, .int tn, .ref aFu, .ref aFk, .int kp])), (aFu, .inl (cFu, nFu, .inl fu)), (aFk, .inl (cFk, nFk, .inl fk)), (aW, .inr (4, [.ref aMv, .ref aPl, .int cnt, .int mde, .int stn])), (aMv, .inl (cMv, nMv, .inl mv)), (aPl, .inl (cPl, nPl, .inl pl))] := hD
    refine lv_iload_n hx hb dX4_release_19 rfl (lv_at hl 0 rfl) ?_
    refine lv_if_eq (tgt := 27) hx hb dX4_release_20 (by decide) (fun c_5 => absurd c_5 (by decide)) (fun c_5 => ?_)
    refine lv_iconst (v := 1) hx hb dX4_release_23 (by decide) ?_
    refine lv_goto (tgt := 28) hx hb dX4_release_24 (by decide) ?_
    have ho := Option.some.inj hJ
    exact W.iret (v := (1 : Int32)) hx hb hr (fun t ht hW => ⟨⟨_, (), rfl, (by rw [← ho]), (by rw [ht, ← ho]; exact hP), (by rw [← ho]; exact hD)⟩, hS.F ht⟩) hS.2.2 dX4_release_28
set_option maxHeartbeats 4000000 in
set_option maxRecDepth 100000 in
theorem c_X4_margin (l : Launch) (D : va_G) (aP aS aCo aQu aC aKn aF aFu aFk aW aMv aPl : Nat) (cCo cQu cKn cFu cFk cMv cPl : ClassId) (plc : Int32) (hom : Int32) (gol : Int32) (stp : Int64) (exa : Int32) (hld : Int32) (err : UInt64) (rch : Int32) (nCo : Nat) (co : Nat → Int64) (nQu : Nat) (qu : Nat → Int32) (ln : Int32) (wd : Int32) (rd : Int32) (nKn : Nat) (kn : Nat → Int32) (w : Int32) (ht : Int32) (tn : Int32) (kp : Int32) (nFu : Nat) (fu : Nat → Int32) (nFk : Nat) (fk : Nat → Int32) (cnt : Int32) (mde : Int32) (stn : Int32) (nMv : Nat) (mv : Nat → Int32) (nPl : Nat) (pl : Nat → Int32) (p0 : Int32) (tX tY sz F : Nat) (o : Int32) (hJ : J_X4_margin F ln wd w ht nFu fu cnt nPl pl p0 = some o) : Met l yX4_margin wsX4_margin rmX4_margin (va_Pc [.ref aP, .int p0] (pcR D [(aP, .inr (5, [.ref aF, .ref aC, .ref aS, .ref aW, .int plc, .int hom, .int gol, .long stp, .int exa, .int hld, .double err])), (aS, .inr (3, [.ref aC, .ref aCo, .ref aQu, .int rch])), (aCo, .inl (cCo, nCo, .inr (.inl co))), (aQu, .inl (cQu, nQu, .inl qu)), (aC, .inr (1, [.ref aF, .ref aKn, .int ln, .int wd, .int rd])), (aKn, .inl (cKn, nKn, .inl kn)), (aF, .inr (2, [.int w, .int ht, .int tn, .ref aFu, .ref aFk, .int kp])), (aFu, .inl (cFu, nFu, .inl fu)), (aFk, .inl (cFk, nFk, .inl fk)), (aW, .inr (4, [.ref aMv, .ref aPl, .int cnt, .int mde, .int stn])), (aMv, .inl (cMv, nMv, .inl mv)), (aPl, .inl (cPl, nPl, .inl pl))] [(cCo, .long), (cQu, .int), (cKn, .int), (cFu, .boolean), (cFk, .int), (cMv, .int), (cPl, .int)] sz tX tY)) (qRi o (va_A [] sz)) 0 0 (va_A [] sz) := by
  refine Met.ofW (cc := cX4_margin) (maxL := 2) (ret := (some .int)) (by decide) rfl ?_
  intro p e s m args below meth c s₁ B hml hv
  obtain ⟨rfl, hsz, hP, hK, hST⟩ := hv
  have hx := B.exec
  have hb := B.bytes
  have hr := B.returns
  have hts := atoms_spec (ws := wsX4_margin) B.pre
  have hown : s.vm.findClass RX4 = some m.cls := findClass_of_methodNamed B.named
  have hlocks := B.notSynchronized
  subst hsz
  generalize hAe : va_A [] s.heap.size = A at hST ⊢
  have hA : ∀ q : Nat, s.heap.size ≤ q → A q := fun q h => by rw [← hAe]; exact Or.inr h
  have hS : va_S A s.heap s.heap [] := va_S.rf
  have hl := lv_entry ([.ref aP, .int p0]) (n := 2) (Nat.le_of_ble_eq_true rfl)
  rw [lg_entry_eq]
  generalize (lg_sl ([.ref aP, .int p0]) ++ List.replicate (2 - (lg_sl ([.ref aP, .int p0])).length) Slot.unset).toArray = ls at hl ⊢
  have hl : lv_has ls 2 [(0, .ref aP), (1, .int p0)] := hl
  have iX4 : ∀ w ∈ wsX40, w ∈ wsX4_margin := fun w h => List.mem_cons_of_mem _ (List.mem_append_left _ (List.mem_append_left _ (List.mem_append_left _ (List.mem_append_right _ h))))
  have k_1 := hts (.fieldLink RX4 53 "ParkWays" "way" "LParkWays$Way;") (List.mem_of_getElem? (i := 1) rfl)
  have k_2 := hts (.fieldLink RX4 31 "ParkWays" "car" "LParkWays$Car;") (List.mem_of_getElem? (i := 2) rfl)
  unfold J_X4_margin at hJ
  refine lv_aload_n hx hb dX4_margin_0 rfl (lv_at hl 0 rfl) ?_
  refine va_get (D := D) (ci := 5) (v := .ref aW) (C := RX4) (T := TX4) (N := 11) hx hb hts iX4 hown hK hP 0 rfl rfl 3 (by decide) k_1 (fun _ h9 => h9) rfl dX4_margin_1 ?_
  refine lv_iload_n hx hb dX4_margin_4 rfl (lv_at hl 1 rfl) ?_
  obtain ⟨v_1, hv_1, hJ⟩ := j_b hJ
  refine ro_i (va_runV (As := [.int p0]) (rest := []) ⟨hx, hb, hml, hown, hts⟩ (c_X3_hasMove l D aW aMv aPl cMv cPl cnt mde stn nMv mv nPl pl p0 tX tY s.heap.size F v_1 hv_1) (cwV 1 hts gX4_margin_X3_hasMove rfl rfl rfl (by decide +kernel) ⟨Nat.le_of_ble_eq_true rfl, Nat.le_of_ble_eq_true rfl⟩) (preRV [.int p0] hP hK hS hA hST [9, 10, 11] rfl [5, 6] rfl (ci := 4) (q0 := 9) rfl rfl) rfl rfl hl.1 rfl (lv_room (Nat.le_of_ble_eq_true rfl)) dX4_margin_5 ⟨Nat.zero_le _, Nat.zero_le _⟩) hP hS hA (fun H locs hP hS => ?_)
  refine lv_if_eq (tgt := 29) hx hb dX4_margin_8 (by decide) (fun c_2 => ?_) (fun c_2 => ?_)
  · have hJ := j_t c_2 hJ
    refine lv_iconst (v := (-1)) hx hb dX4_margin_29 (by decide) ?_
    have ho := Option.some.inj hJ
    exact W.iret (v := (-1 : Int32)) hx hb hr (fun t ht hW => ⟨⟨_, (), rfl, ho, trivial⟩, hS.F ht⟩) hS.2.2 dX4_margin_30
  · have hJ := j_f c_2 hJ
    refine lv_aload_n hx hb dX4_margin_11 rfl (lv_at hl 0 rfl) ?_
    refine va_get (D := D) (ci := 5) (v := .ref aC) (C := RX4) (T := TX4) (N := 11) hx hb hts iX4 hown hK hP 0 rfl rfl 1 (by decide) k_2 (fun _ h9 => h9) rfl dX4_margin_12 ?_
    refine lv_aload_n hx hb dX4_margin_15 rfl (lv_at hl 0 rfl) ?_
    refine va_get (D := D) (ci := 5) (v := .ref aW) (C := RX4) (T := TX4) (N := 11) hx hb hts iX4 hown hK hP 0 rfl rfl 3 (by decide) k_1 (fun _ h9 => h9) rfl dX4_margin_16 ?_
    refine lv_iload_n hx hb dX4_margin_19 rfl (lv_at hl 1 rfl) ?_
    obtain ⟨v_3, hv_3, hJ⟩ := j_b hJ
    refine ro_i (va_runV (As := [.int p0]) (rest := [.ref aC]) ⟨hx, hb, hml, hown, hts⟩ (c_X3_placeBehind l D aW aMv aPl cMv cPl cnt mde stn nMv mv nPl pl p0 tX tY H.size F v_3 hv_3) (cwV 1 hts gX4_margin_X3_placeBehind rfl rfl rfl (by decide +kernel) ⟨Nat.le_of_ble_eq_true rfl, Nat.le_of_ble_eq_true rfl⟩) (preRV [.int p0] hP hK hS hA hST [9, 10, 11] rfl [5, 6] rfl (ci := 4) (q0 := 9) rfl rfl) rfl rfl hl.1 rfl (lv_room (Nat.le_of_ble_eq_true rfl)) dX4_margin_20 ⟨Nat.zero_le _, Nat.zero_le _⟩) hP hS hA (fun H locs hP hS => ?_)
    obtain ⟨v_4, hv_4, hJ⟩ := j_b hJ
    refine ro_i (va_runV (As := [.int v_3]) (rest := []) ⟨hx, hb, hml, hown, hts⟩ (c_X0_marginAt l D aC aKn aF aFu aFk cKn cFu cFk ln wd rd nKn kn w ht tn kp nFu fu nFk fk v_3 tX tY H.size F v_4 hv_4) (cwV 1 hts gX4_margin_X0_marginAt rfl rfl rfl (by decide +kernel) ⟨Nat.le_of_ble_eq_true rfl, Nat.le_of_ble_eq_true rfl⟩) (preRV [.int v_3] hP hK hS hA hST [4, 5, 6, 7, 8] rfl [2, 3, 4] rfl (ci := 1) (q0 := 4) rfl rfl) rfl rfl hl.1 rfl (lv_room (Nat.le_of_ble_eq_true rfl)) dX4_margin_23 ⟨Nat.zero_le _, Nat.zero_le _⟩) hP hS hA (fun H locs hP hS => ?_)
    refine lv_goto (tgt := 30) hx hb dX4_margin_26 (by decide) ?_
    have ho := Option.some.inj hJ
    exact W.iret (v := v_4) hx hb hr (fun t ht hW => ⟨⟨_, (), rfl, ho, trivial⟩, hS.F ht⟩) hS.2.2 dX4_margin_30
