set_option maxRecDepth 100000 in
theorem start_K {p : Program} {s : State} {m : MethodId} {meth : Method} {c : Code} {b L : Nat} {xs : Nat → Int32} (C0 : lw_At p s m meth c b L xs) : ∃ D : va_G, va_K D vwCl [] s := by
  obtain ⟨hx, hb, hr, hml, hown, hts, hX, hbl, hlocks, hgv⟩ := id C0
  obtain ⟨c0, iS0, hKn0⟩ := u_known (C := RJx00060) (T := TJx00060) (N := 6) (n := 6) hts wsJx000600_in (hts (.instantiable RJx00060 6) (List.mem_of_getElem? (i := 458) rfl))
  obtain ⟨c1, iS1, hKn1⟩ := u_known (C := RX0) (T := TX0) (N := 5) (n := 5) hts wsX00_in (hts (.instantiable RX0 5) (List.mem_of_getElem? (i := 86) rfl))
  obtain ⟨c2, iS2, hKn2⟩ := u_known (C := RX1) (T := TX1) (N := 6) (n := 6) hts wsX10_in (hts (.instantiable RX1 6) (List.mem_of_getElem? (i := 49) rfl))
  obtain ⟨c3, iS3, hKn3⟩ := u_known (C := RX2) (T := TX2) (N := 4) (n := 4) hts wsX20_in (hts (.instantiable RX2 4) (List.mem_of_getElem? (i := 112) rfl))
  obtain ⟨c4, iS4, hKn4⟩ := u_known (C := RX3) (T := TX3) (N := 5) (n := 5) hts wsX30_in (hts (.instantiable RX3 5) (List.mem_of_getElem? (i := 134) rfl))
  obtain ⟨c5, iS5, hKn5⟩ := u_known (C := RX4) (T := TX4) (N := 11) (n := 11) hts wsX40_in (hts (.instantiable RX4 11) (List.mem_of_getElem? (i := 41) rfl))
  obtain ⟨c6, iS6, hKn6⟩ := u_known (C := RX5) (T := TX5) (N := 26) (n := 26) hts wsX50_in (hts (.instantiable RX5 26) (List.mem_of_getElem? (i := 559) rfl))
  refine ⟨(fun k => if k = 0 then c0 else if k = 1 then c1 else if k = 2 then c2 else if k = 3 then c3 else if k = 4 then c4 else if k = 5 then c5 else c6, fun k => if k = 0 then iS0 else if k = 1 then iS1 else if k = 2 then iS2 else if k = 3 then iS3 else if k = 4 then iS4 else if k = 5 then iS5 else iS6), ?_, fun k q h => by simp at h⟩
  intro k q hq
  match k, hq with
  | 0, hq => cases hq; exact hKn0
  | 1, hq => cases hq; exact hKn1
  | 2, hq => cases hq; exact hKn2
  | 3, hq => cases hq; exact hKn3
  | 4, hq => cases hq; exact hKn4
  | 5, hq => cases hq; exact hKn5
  | 6, hq => cases hq; exact hKn6
  | k + 7, hq => simp [vwCl] at hq
set_option maxRecDepth 100000 in
set_option maxHeartbeats 4000000 in
theorem start_ST {p : Program} {s : State} {m : MethodId} {meth : Method} {c : Code} {b L : Nat} {xs : Nat → Int32} (C0 : lw_At p s m meth c b L xs) : ∃ tX tY : Nat, ST tX tY (fun q : Nat => s.heap.size ≤ q) s := by
  obtain ⟨hx, hb, hr, hml, hown, hts, hX, hbl, hlocks, hgv⟩ := id C0
  have hs := flat_of_before _ hgv
  have hA : ∀ a : Nat, a < s.heap.size → ¬ (fun q : Nat => s.heap.size ≤ q) a := fun a h => Nat.not_le.mpr h
  have haX : (Cond.arrayOf (.static "ParkWays" "STEP_X" "[I") .int).before #[Value.ref b] s = true := hs _ (by decide +kernel)
  have hnX : (Cond.eq (.length (.static "ParkWays" "STEP_X" "[I")) (.int 8)).before #[Value.ref b] s = true := hs _ (by decide +kernel)
  have eX0 : (Cond.eq (.elem (.static "ParkWays" "STEP_X" "[I") (.int 0)) (.int (1))).before #[Value.ref b] s = true := hs _ (by decide +kernel)
  have eX1 : (Cond.eq (.elem (.static "ParkWays" "STEP_X" "[I") (.int 1)) (.int (1))).before #[Value.ref b] s = true := hs _ (by decide +kernel)
  have eX2 : (Cond.eq (.elem (.static "ParkWays" "STEP_X" "[I") (.int 2)) (.int (0))).before #[Value.ref b] s = true := hs _ (by decide +kernel)
  have eX3 : (Cond.eq (.elem (.static "ParkWays" "STEP_X" "[I") (.int 3)) (.int (-1))).before #[Value.ref b] s = true := hs _ (by decide +kernel)
  have eX4 : (Cond.eq (.elem (.static "ParkWays" "STEP_X" "[I") (.int 4)) (.int (-1))).before #[Value.ref b] s = true := hs _ (by decide +kernel)
  have eX5 : (Cond.eq (.elem (.static "ParkWays" "STEP_X" "[I") (.int 5)) (.int (-1))).before #[Value.ref b] s = true := hs _ (by decide +kernel)
  have eX6 : (Cond.eq (.elem (.static "ParkWays" "STEP_X" "[I") (.int 6)) (.int (0))).before #[Value.ref b] s = true := hs _ (by decide +kernel)
  have eX7 : (Cond.eq (.elem (.static "ParkWays" "STEP_X" "[I") (.int 7)) (.int (1))).before #[Value.ref b] s = true := hs _ (by decide +kernel)
  obtain ⟨tX, htX, hTX⟩ := va_Tof (tm := (.static "ParkWays" "STEP_X" "[I")) (N := 8) (f := fun j => .int (sxI j)) (A := fun q : Nat => s.heap.size ≤ q) (by decide) haX (va_eqt hnX) (fun j hj => by
    rcases (show j = 0 ∨ j = 1 ∨ j = 2 ∨ j = 3 ∨ j = 4 ∨ j = 5 ∨ j = 6 ∨ j = 7 by omega) with rfl | rfl | rfl | rfl | rfl | rfl | rfl | rfl
    · exact va_eqt eX0
    · exact va_eqt eX1
    · exact va_eqt eX2
    · exact va_eqt eX3
    · exact va_eqt eX4
    · exact va_eqt eX5
    · exact va_eqt eX6
    · exact va_eqt eX7) hA
  have hZX := va_Zref (hts (.laysStatic RX4 "STEP_X" "[I") (List.mem_of_getElem? (i := 271) rfl)) (hts (.initialized RX4) (List.mem_of_getElem? (i := 27) rfl)) htX hA
  have haY : (Cond.arrayOf (.static "ParkWays" "STEP_Y" "[I") .int).before #[Value.ref b] s = true := hs _ (by decide +kernel)
  have hnY : (Cond.eq (.length (.static "ParkWays" "STEP_Y" "[I")) (.int 8)).before #[Value.ref b] s = true := hs _ (by decide +kernel)
  have eY0 : (Cond.eq (.elem (.static "ParkWays" "STEP_Y" "[I") (.int 0)) (.int (0))).before #[Value.ref b] s = true := hs _ (by decide +kernel)
  have eY1 : (Cond.eq (.elem (.static "ParkWays" "STEP_Y" "[I") (.int 1)) (.int (1))).before #[Value.ref b] s = true := hs _ (by decide +kernel)
  have eY2 : (Cond.eq (.elem (.static "ParkWays" "STEP_Y" "[I") (.int 2)) (.int (1))).before #[Value.ref b] s = true := hs _ (by decide +kernel)
  have eY3 : (Cond.eq (.elem (.static "ParkWays" "STEP_Y" "[I") (.int 3)) (.int (1))).before #[Value.ref b] s = true := hs _ (by decide +kernel)
  have eY4 : (Cond.eq (.elem (.static "ParkWays" "STEP_Y" "[I") (.int 4)) (.int (0))).before #[Value.ref b] s = true := hs _ (by decide +kernel)
  have eY5 : (Cond.eq (.elem (.static "ParkWays" "STEP_Y" "[I") (.int 5)) (.int (-1))).before #[Value.ref b] s = true := hs _ (by decide +kernel)
  have eY6 : (Cond.eq (.elem (.static "ParkWays" "STEP_Y" "[I") (.int 6)) (.int (-1))).before #[Value.ref b] s = true := hs _ (by decide +kernel)
  have eY7 : (Cond.eq (.elem (.static "ParkWays" "STEP_Y" "[I") (.int 7)) (.int (-1))).before #[Value.ref b] s = true := hs _ (by decide +kernel)
  obtain ⟨tY, htY, hTY⟩ := va_Tof (tm := (.static "ParkWays" "STEP_Y" "[I")) (N := 8) (f := fun j => .int (syI j)) (A := fun q : Nat => s.heap.size ≤ q) (by decide) haY (va_eqt hnY) (fun j hj => by
    rcases (show j = 0 ∨ j = 1 ∨ j = 2 ∨ j = 3 ∨ j = 4 ∨ j = 5 ∨ j = 6 ∨ j = 7 by omega) with rfl | rfl | rfl | rfl | rfl | rfl | rfl | rfl
    · exact va_eqt eY0
    · exact va_eqt eY1
    · exact va_eqt eY2
    · exact va_eqt eY3
    · exact va_eqt eY4
    · exact va_eqt eY5
    · exact va_eqt eY6
    · exact va_eqt eY7) hA
  have hZY := va_Zref (hts (.laysStatic RX4 "STEP_Y" "[I") (List.mem_of_getElem? (i := 282) rfl)) (hts (.initialized RX4) (List.mem_of_getElem? (i := 27) rfl)) htY hA
  refine ⟨tX, tY, ⟨va_Nw.of rfl (hts (.fieldLinkNest RX4 109 "ParkWays$Field" "width" "I" RX4) (List.mem_of_getElem? (i := 61) rfl)), va_Nw.of rfl (hts (.fieldLinkNest RX4 112 "ParkWays$Field" "height" "I" RX4) (List.mem_of_getElem? (i := 63) rfl)), va_Nw.of rfl (hts (.fieldLinkNest RX4 135 "ParkWays$Way" "count" "I" RX4) (List.mem_of_getElem? (i := 142) rfl)), va_Nw.of rfl (hts (.fieldLinkNest RX4 158 "ParkWays$Way" "stands" "Z" RX4) (List.mem_of_getElem? (i := 146) rfl)), va_Nw.of rfl (hts (.fieldLinkNest RX4 161 "ParkWays$Way" "made" "I" RX4) (List.mem_of_getElem? (i := 144) rfl)), va_Nw.of rfl (hts (.fieldLinkNest RX4 206 "ParkWays$Search" "reached" "I" RX4) (List.mem_of_getElem? (i := 122) rfl)), va_Nw.of rfl (hts (.fieldLinkNest RX4 82 "ParkWays$Field" "keep" "I" RX4) (List.mem_of_getElem? (i := 68) rfl)), va_Nw.of rfl (hts (.fieldLinkNest RX0 100 "ParkWays$Field" "turn" "I" RX4) (List.mem_of_getElem? (i := 65) rfl)), va_Nw.of rfl (hts (.methodLinkNest RX0 62 yX4_headingOf RX4) (List.mem_of_getElem? (i := 261) rfl)), va_Nw.of rfl (hts (.methodLinkNest RX0 66 yX4_xOf RX4) (List.mem_of_getElem? (i := 264) rfl)), va_Nw.of rfl (hts (.methodLinkNest RX0 69 yX4_stepX RX4) (List.mem_of_getElem? (i := 267) rfl)), va_Nw.of rfl (hts (.methodLinkNest RX0 72 yX4_yOf RX4) (List.mem_of_getElem? (i := 275) rfl)), va_Nw.of rfl (hts (.methodLinkNest RX0 75 yX4_stepY RX4) (List.mem_of_getElem? (i := 278) rfl)), va_Nw.of rfl (hts (.methodLinkNest RX0 97 yX4_placeAt RX4) (List.mem_of_getElem? (i := 340) rfl)), va_Nw.of rfl (hts (.methodLinkNest RX1 29 yX4_isFrom RX4) (List.mem_of_getElem? (i := 245) rfl)), va_Nw.of rfl (hts (.methodLinkNest RX1 37 yX4_cellAt RX4) (List.mem_of_getElem? (i := 228) rfl))⟩, ⟨hZX, hTX⟩, hZY, hTY⟩
theorem XL_tbl : ∀ w ∈ XL, w ∈ lw_tbl := by decide +kernel
set_option maxRecDepth 100000 in
set_option maxHeartbeats 4000000 in
theorem start_XT {p : Program} {s : State} {m : MethodId} {meth : Method} {c : Code} {b L : Nat} {xs : Nat → Int32} (C0 : lw_At p s m meth c b L xs) : ∃ sa sb : Nat, XT sa sb (fun q : Nat => s.heap.size ≤ q) s := by
  obtain ⟨hx, hb, hr, hml, hown, hts, hX, hbl, hlocks, hgv⟩ := id C0
  have hs := flat_of_before _ hgv
  have hA : ∀ a : Nat, a < s.heap.size → ¬ (fun q : Nat => s.heap.size ≤ q) a := fun a h => Nat.not_le.mpr h
  have x0 : (Cond.exactly (.string "ParkWays" 63) "java/lang/String").before #[Value.ref b] s = true := hs _ (by decide +kernel)
  obtain ⟨s0, _, _, _, hv0, _⟩ := Cond.exactly_spec x0
  have x1 : (Cond.exactly (.string "ParkWays" 179) "java/lang/String").before #[Value.ref b] s = true := hs _ (by decide +kernel)
  obtain ⟨s1, _, _, _, hv1, _⟩ := Cond.exactly_spec x1
  have i0 : (Cond.isRef (.static Bundle.tN "UNASSIGNED_STACK" Bundle.steD)).before #[Value.ref b] s = true := hs _ (by decide +kernel)
  have i1 : (Cond.isRef (.static Bundle.tN "SUPPRESSED_SENTINEL" Bundle.listD)).before #[Value.ref b] s = true := hs _ (by decide +kernel)
  refine ⟨s0, s1, fun w hw => va_Nw.of (XL_on w hw) (hts w (XL_tbl w hw)), ⟨vk_R.of (hts (.stringRef RX4 63 "no such cell") (List.mem_of_getElem? (i := 498) rfl)) hv0, vk_R.of (hts (.stringRef RX4 179 "no such heading") (List.mem_of_getElem? (i := 555) rfl)) hv1⟩, vx_Zqof (hts (.laysStatic Bundle.tN "UNASSIGNED_STACK" Bundle.steD) (List.mem_of_getElem? (i := 486) rfl)) (hts (.initialized Bundle.tN) (List.mem_of_getElem? (i := 33) rfl)) i0 hA, vx_Zqof (hts (.laysStatic Bundle.tN "SUPPRESSED_SENTINEL" Bundle.listD) (List.mem_of_getElem? (i := 488) rfl)) (hts (.initialized Bundle.tN) (List.mem_of_getElem? (i := 33) rfl)) i1 hA⟩
