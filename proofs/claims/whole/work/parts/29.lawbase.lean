/-! the law's own help: reading the script, what holds at its entry -/
theorem wr_ia {p : Program} {l : Launch} {e : Env} {R : Room} {s : State} {m : MethodId} {args : Array Value} {below : List Frame} {meth : Method} {c : Code} {H : Heap} {locs : List Loc} {cells slots mc ms : Nat} {Q : State → Prop}
    {pc : Nat} {ls : Array Slot} {rest st0 : List Value} {a : Array Value} {A : Nat → Prop} {D : va_G} {w wc wr w1 wn : va_W}
    {r0 : Int32} (hr : va_Run p l e R s m args below meth c H locs cells slots mc ms (F0 m pc ls st0) rest (qWi D r0 w1 (va_A wc H.size) a) (va_A wc H.size)) (hP : va_P D vwCl w H) (hD : va_D A w) (hS : va_S A s.heap H locs) (hA : ∀ q : Nat, s.heap.size ≤ q → A q) (isC isR : List Nat) (hC : isC.map (fun i => w[i]?) = wc.map some) (hR : isR.map (fun i => w[i]?) = wr.map some) (hn : va_nd isR = true) (hdis : ∀ i ∈ isR, i ∉ isC) (pm : List Nat) (hpm : pm.filterMap (fun i => (wr ++ w1)[i]?) = wn) (hpn : va_nd pm = true) (hpx : pm.map (fun i => (wr ++ w1)[i]?) = wn.map some)
    (kk : ∀ (H1 : Heap) (locs1 : List Loc), va_P D vwCl wn H1 → va_D A wn → va_S A s.heap H1 locs1 → W p l e R s m args below meth c H1 locs1 (cells + mc) (slots + ms) Q (F0 m (pc + 3) ls (.int r0 :: rest))) : W p l e R s m args below meth c H locs cells slots Q (F0 m pc ls st0) := by
  have hF := va_free (wc := wc) hD hS hA isC hC
  refine va_calli hr hS (fun q _ h => hF q h) hF (fun r u t H1 locs1 ht _ hp hB _ hk hS1 => ?_)
  subst hp
  obtain ⟨hP1, hD1⟩ := hB
  rw [ht] at hP1
  obtain ⟨hP2, hD2⟩ := va_join hP hD isC isR hC hR hn hdis hk hF hP1 hD1
  exact kk H1 locs1 (hP2.sub pm hpm) (hD2.sub pm hpn hpx) hS1
theorem tsw_out14 {x : Int32} (h0 : ¬ x = (0 : Int32)) (h1 : ¬ x = (1 : Int32)) (h2 : ¬ x = (2 : Int32)) (h3 : ¬ x = (3 : Int32)) (h4 : ¬ x = (4 : Int32)) (h5 : ¬ x = (5 : Int32)) (h6 : ¬ x = (6 : Int32)) (h7 : ¬ x = (7 : Int32)) (h8 : ¬ x = (8 : Int32)) (h9 : ¬ x = (9 : Int32)) (h10 : ¬ x = (10 : Int32)) (h11 : ¬ x = (11 : Int32)) (h12 : ¬ x = (12 : Int32)) (h13 : ¬ x = (13 : Int32)) (h14 : ¬ x = (14 : Int32)) : x.toInt < 0 ∨ 14 < x.toInt := by
  have g0 : x.toInt ≠ 0 := fun h => h0 (i32_eq h)
  have g1 : x.toInt ≠ 1 := fun h => h1 (i32_eq h)
  have g2 : x.toInt ≠ 2 := fun h => h2 (i32_eq h)
  have g3 : x.toInt ≠ 3 := fun h => h3 (i32_eq h)
  have g4 : x.toInt ≠ 4 := fun h => h4 (i32_eq h)
  have g5 : x.toInt ≠ 5 := fun h => h5 (i32_eq h)
  have g6 : x.toInt ≠ 6 := fun h => h6 (i32_eq h)
  have g7 : x.toInt ≠ 7 := fun h => h7 (i32_eq h)
  have g8 : x.toInt ≠ 8 := fun h => h8 (i32_eq h)
  have g9 : x.toInt ≠ 9 := fun h => h9 (i32_eq h)
  have g10 : x.toInt ≠ 10 := fun h => h10 (i32_eq h)
  have g11 : x.toInt ≠ 11 := fun h => h11 (i32_eq h)
  have g12 : x.toInt ≠ 12 := fun h => h12 (i32_eq h)
  have g13 : x.toInt ≠ 13 := fun h => h13 (i32_eq h)
  have g14 : x.toInt ≠ 14 := fun h => h14 (i32_eq h)
  omega
abbrev rmL_cell : Room := ({ frames := 0, cells := 0, slots := 0, locals := 0 })
def J_L_cell (L : Nat) (xs : Nat → Int32) (k : Int32) : Option Int32 :=
  (if (Int32.ofNat L) ≤ k then
    (some (0 : Int32))
  else
    (gd (inB k L)
      (some (xs k.toNatClampNeg))))
def pcS (b L : Nat) (xs : Nat → Int32) (sz : Nat) : State → Prop := fun U => U.heap.size = sz ∧ va_X b L xs U U.heap ∧ b < sz
set_option maxHeartbeats 4000000 in
set_option maxRecDepth 100000 in
theorem c_L_cell (l : Launch) (b L : Nat) (xs : Nat → Int32) (k : Int32) (sz : Nat) (o : Int32) (hJ : J_L_cell L xs k = some o) : Met l yL_cell wsL_cell rmL_cell (va_Pc [.ref b, .int k] (pcS b L xs sz)) (qRi o (va_A [] sz)) 0 0 (va_A [] sz) := by
  refine Met.ofW (cc := cL_cell) (maxL := 2) (ret := (some .int)) (by decide) rfl ?_
  intro p e s m args below meth c s₁ B hml hv
  obtain ⟨rfl, hsz, hX, hbl⟩ := hv
  have hx := B.exec
  have hb := B.bytes
  have hr := B.returns
  have hts := atoms_spec (ws := wsL_cell) B.pre
  have hlocks := B.notSynchronized
  subst hsz
  have hbA : ¬ va_A [] s.heap.size b := by
    intro z
    rcases z with ⟨k, e, h⟩ | h
    · simp at h
    · exact absurd hbl (Nat.not_lt.mpr h)
  generalize hAe : va_A [] s.heap.size = A at hbA ⊢
  have hS : va_S A s.heap s.heap [] := va_S.rf
  have hl := lv_entry ([.ref b, .int k]) (n := 2) (Nat.le_of_ble_eq_true rfl)
  rw [lg_entry_eq]
  generalize (lg_sl ([.ref b, .int k]) ++ List.replicate (2 - (lg_sl ([.ref b, .int k])).length) Slot.unset).toArray = ls at hl ⊢
  have hl : lv_has ls 2 [(0, .ref b), (1, .int k)] := hl
  unfold J_L_cell at hJ
  refine lv_iload_n hx hb dL_cell_0 rfl (lv_at hl 1 rfl) ?_
  refine lv_aload_n hx hb dL_cell_1 rfl (lv_at hl 0 rfl) ?_
  refine va_slen hx hb hX hbl hbA hS dL_cell_2 ?_
  refine lv_icmp_ge (tgt := 12) hx hb dL_cell_3 (by decide) (fun c_1 => ?_) (fun c_1 => ?_)
  · have hJ := j_t c_1 hJ
    have ho := Option.some.inj hJ
    refine lv_iconst (v := 0) hx hb dL_cell_12 (by decide) ?_
    exact W.iret (v := (0 : Int32)) hx hb hr (fun t ht hW => ⟨⟨_, (), rfl, ho, trivial⟩, hS.F ht⟩) hS.2.2 dL_cell_13
  · have hJ := j_f c_1 hJ
    obtain ⟨h_2, hJ⟩ := g_in hJ
    have ho := Option.some.inj hJ
    refine lv_aload_n hx hb dL_cell_6 rfl (lv_at hl 0 rfl) ?_
    refine lv_iload_n hx hb dL_cell_7 rfl (lv_at hl 1 rfl) ?_
    refine va_sld hx hb hX hbl hbA hS h_2 dL_cell_8 ?_
    refine lv_goto (tgt := 13) hx hb dL_cell_9 (by decide) ?_
    exact W.iret (v := (xs k.toNatClampNeg)) hx hb hr (fun t ht hW => ⟨⟨_, (), rfl, ho, trivial⟩, hS.F ht⟩) hS.2.2 dL_cell_13
theorem pcS_blind {b L : Nat} {xs : Nat → Int32} {sz : Nat} (av : List Value) : FrameBlind (va_Pc av (pcS b L xs sz)) := by
  intro a U g mk q
  obtain ⟨h0, h1, h2, h3⟩ := q
  exact ⟨h0, h1, va_X.moved (u := U) (U := U.calling g mk a) (Vm.Alike.refl U.vm) h2, h3⟩
theorem preS_cell {s : State} {H : Heap} {locs : List Loc} {A : Nat → Prop} {b L : Nat} {xs : Nat → Int32} (k : Int32) (hX : va_X b L xs s s.heap) (hbl : b < s.heap.size) (hbA : ¬ A b) (hS : va_S A s.heap H locs) : PreS s H (va_Pc [.ref b, .int k] (pcS b L xs H.size)) [.ref b, .int k] :=
  ⟨pcS_blind _, fun U hU hW => ⟨rfl, by rw [hU], by rw [hU]; exact (va_X.moved hW.alike hX).kept (hS.2.1 b hbl hbA), Nat.lt_of_lt_of_le hbl hS.1⟩⟩
