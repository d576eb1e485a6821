/-! what a throw needs, and its catching by the law's own handlers -/
def nm3 : List String := ["java/lang/IndexOutOfBoundsException", "java/lang/RuntimeException", "java/lang/Exception"]
def XL : List Cond := .classLink RL 13 RJx00060 :: .castable RJx00060 RJx00060 :: vx_atS RX4 65 RJx00060 nm3
def XB : List Cond := [.declares (Bundle.initS "java/lang/IndexOutOfBoundsException"), .declares (Bundle.initS "java/lang/RuntimeException"), .declares (Bundle.initS "java/lang/Exception"), .declares (Bundle.initS Bundle.tN), .castable RJx00060 RJx00060]
theorem XL_bad : ∀ w ∈ XL.filter (fun w => !goodWord w), w ∈ XB := by decide +kernel
theorem XL_on : ∀ w ∈ XL, w.onTables = true := by decide +kernel
theorem XL_ot : ∀ w ∈ Cond.classLink RX4 61 RJx00060 :: Cond.initialized RJx00060 :: vx_atS RX4 65 RJx00060 nm3, vx_ot w = true := by decide +kernel
theorem XL_warm {s U : State} (hW : s.WarmedH U.vm) (h : ∀ w ∈ XL, va_Nw w s) : ∀ w ∈ XL, va_Nw w U := by
  intro w hw
  have hz := h w hw
  by_cases g : goodWord w = true
  · exact word_at hW (good_of_word g) hz
  · have hm := XL_bad w (List.mem_filter.mpr ⟨hw, by simpa using g⟩)
    simp only [XB, List.mem_cons, List.not_mem_nil, or_false] at hm
    rcases hm with e | e | e | e | e
    · subst e
      exact va_Nw.warmD hW hz
    · subst e
      exact va_Nw.warmD hW hz
    · subst e
      exact va_Nw.warmD hW hz
    · subst e
      exact va_Nw.warmD hW hz
    · subst e
      exact va_Nw.warmC hW hz
def XT (sa sb : Nat) (A : Nat → Prop) (U : State) : Prop := (∀ w ∈ XL, va_Nw w U) ∧ (vk_R RX4 63 "no such cell" sa U ∧ vk_R RX4 179 "no such heading" sb U) ∧
  vx_Zq Bundle.tN "UNASSIGNED_STACK" Bundle.steD A U U.heap ∧ vx_Zq Bundle.tN "SUPPRESSED_SENTINEL" Bundle.listD A U U.heap
theorem XT.blind {sa sb : Nat} {A : Nat → Prop} {U : State} {g : JFrame} {mk : MethodId} {a : Array Value} (h : XT sa sb A U) : XT sa sb A (U.calling g mk a) := by
  obtain ⟨h1, ⟨h2, h3⟩, h4, h5⟩ := h
  have hv : U.vm.Alike (U.calling g mk a).vm := Vm.Alike.refl U.vm
  exact ⟨fun w hw => va_Nw.same (u := U) (U := U.calling g mk a) (XL_on w hw) rfl (h1 w hw), ⟨vk_R.same (u := U) rfl h2, vk_R.same (u := U) rfl h3⟩, vx_Zq.moved hv h4, vx_Zq.moved hv h5⟩
theorem XT.call {sa sb : Nat} {A B : Nat → Prop} {s U : State} {H : Heap} {locs : List Loc} (h : XT sa sb A s) (hS : va_S A s.heap H locs) (hB : ∀ q, B q → A q) (hU : U.heap = H) (hW : s.WarmedH U.vm) : XT sa sb B U := by
  obtain ⟨h1, ⟨h2, h3⟩, h4, h5⟩ := h
  have hk : ∀ a : Nat, a < s.heap.size → ¬ A a → U.heap[a]? = s.heap[a]? := fun a x y => by rw [hU]; exact hS.2.1 a x y
  exact ⟨XL_warm hW h1, ⟨vk_R.warm hW h2, vk_R.warm hW h3⟩, vx_Zq.moved hW.alike ((h4.kept hk).narrow hB), vx_Zq.moved hW.alike ((h5.kept hk).narrow hB)⟩
def pcX (D : va_G) (ws : va_W) (tys : List (ClassId × FieldType)) (sz tX tY sa sb : Nat) : State → Prop := fun U => pcW D ws tys sz tX tY U ∧ XT sa sb (va_A ws sz) U
theorem pcX_blind {D : va_G} {ws : va_W} {tys : List (ClassId × FieldType)} {sz tX tY sa sb : Nat} (av : List Value) : FrameBlind (va_Pc av (pcX D ws tys sz tX tY sa sb)) := by
  intro a U g mk q
  obtain ⟨h0, ⟨h1, h2, h3, h4, h5⟩, h6⟩ := q
  exact ⟨h0, ⟨h1, h2, va_K.moved (u := U) (U := U.calling g mk a) (Vm.Alike.refl U.vm) h3, h4, h5.blind⟩, h6.blind⟩
theorem preXV {s : State} {H : Heap} {locs : List Loc} {A : Nat → Prop} {D : va_G} {w wc : va_W} {tys tys' : List (ClassId × FieldType)} {tX tY sa sb : Nat} {b q0 ci : Nat} {q : vw_C} {fs : List Value} (As : List Value) (hP : va_P D vwCl w H) (hD : va_D A w) (hK : va_K D vwCl tys s) (hS : va_S A s.heap H locs) (hA : ∀ q : Nat, s.heap.size ≤ q → A q) (hST : ST tX tY A s) (hXT : XT sa sb A s) (is : List Nat) (his : is.filterMap (fun i => w[i]?) = wc) (hnd : va_nd is = true) (hm : is.map (fun i => w[i]?) = wc.map some) (ts : List Nat) (hts : ts.filterMap (fun i => tys[i]?) = tys') (hc : vwCl[ci]? = some q) (he : w[q0]? = some (b, .inr (ci, fs))) : PreV s H q.1 b (va_Pc (.ref b :: As) (pcX D wc tys' H.size tX tY sa sb)) As :=
  ⟨pcX_blind _, va_recv hK hP hc he, fun U hU hW => ⟨rfl, ⟨by rw [hU], by rw [hU]; exact hP.sub is his, va_K.moved hW.alike (hK.sub ts hts), (hD.sub is hnd hm).weaken (fun _ _ _ _ => trivial), hST.call hS (va_free hD hS hA is hm) hU hW⟩, hXT.call hS (va_free hD hS hA is hm) hU hW⟩⟩
theorem preXS {s : State} {H : Heap} {locs : List Loc} {A : Nat → Prop} {D : va_G} {w wc : va_W} {tys tys' : List (ClassId × FieldType)} {tX tY sa sb : Nat} (As : List Value) (hP : va_P D vwCl w H) (hD : va_D A w) (hK : va_K D vwCl tys s) (hS : va_S A s.heap H locs) (hA : ∀ q : Nat, s.heap.size ≤ q → A q) (hST : ST tX tY A s) (hXT : XT sa sb A s) (is : List Nat) (his : is.filterMap (fun i => w[i]?) = wc) (hnd : va_nd is = true) (hm : is.map (fun i => w[i]?) = wc.map some) (ts : List Nat) (hts : ts.filterMap (fun i => tys[i]?) = tys') : PreS s H (va_Pc As (pcX D wc tys' H.size tX tY sa sb)) As :=
  ⟨pcX_blind _, fun U hU hW => ⟨rfl, ⟨by rw [hU], by rw [hU]; exact hP.sub is his, va_K.moved hW.alike (hK.sub ts hts), (hD.sub is hnd hm).weaken (fun _ _ _ _ => trivial), hST.call hS (va_free hD hS hA is hm) hU hW⟩, hXT.call hS (va_free hD hS hA is hm) hU hW⟩⟩
/-- a method's end that returns or throws: oo says which -/
def qTi {S : Type} (D : va_G) (oo : Option S) (r : S → Int32) (w1 : S → va_W) (A : Nat → Prop) : Array Value → State → Outcome → State → Prop := va_Qi (S := S) (fun x u => oo = some u ∧ x = r u) (fun u t => va_P D vwCl (w1 u) t.heap ∧ va_D A (w1 u)) A
def xTi {S : Type} (D : va_G) (oo : Option S) (w0 : va_W) (A : Nat → Prop) : String → State → State → Prop := vx_X (S := Unit) (fun _ => oo = none) (fun E _ t => E = RJx00060 ∧ va_P D vwCl w0 t.heap ∧ va_D A w0) A
theorem thrown {S : Type} {D : va_G} {oo : Option S} {w0 : va_W} {A : Nat → Prop} {s : State} {H : Heap} {locs : List Loc} (ho : oo = none) (hP : va_P D vwCl w0 H) (hD : va_D A w0) (hS : va_S A s.heap H locs) (t : State) (hz : H.size ≤ t.heap.size) (hk : ∀ q : Nat, q < H.size → t.heap[q]? = H[q]?) : xTi D oo w0 A RJx00060 s t :=
  ⟨(), ho, ⟨rfl, hP.kept (fun k q hq => hk q.1 (hP k q hq).lt), hD⟩, Nat.le_trans hS.1 hz, fun q h1 h2 => (hk q (Nat.lt_of_lt_of_le h1 hS.1)).trans (hS.2.1 q h1 h2)⟩
/-- a call that may throw, whose throw this method catches -/
theorem tr_i {p : Program} {l : Launch} {e : Env} {R : Room} {s : State} {m : MethodId} {args : Array Value} {below : List Frame} {meth : Method} {c : Code} {H : Heap} {locs : List Loc} {cells slots mc ms : Nat} {Q : State → Prop}
    {pc : Nat} {ls : Array Slot} {rest st0 : List Value} {a : Array Value} {A : Nat → Prop} {D : va_G} {w wc wr : va_W} {S : Type} {oo : Option S} {r : S → Int32} {w1 wn : S → va_W}
    (hr : vx_Run p l e R s m args below meth c H locs cells slots mc ms (F0 m pc ls st0) rest (qTi D oo r w1 (va_A wc H.size) a) (xTi D oo wc (va_A wc H.size)) (va_A wc H.size)) (hP : va_P D vwCl w H) (hD : va_D A w) (hS : va_S A s.heap H locs) (hA : ∀ q : Nat, s.heap.size ≤ q → A q) (isC isR : List Nat) (hC : isC.map (fun i => w[i]?) = wc.map some) (hR : isR.map (fun i => w[i]?) = wr.map some) (hn : va_nd isR = true) (hdis : ∀ i ∈ isR, i ∉ isC) (pm : List Nat) (hpn : va_nd pm = true)
    (hpm : ∀ u, pm.filterMap (fun i => (wr ++ w1 u)[i]?) = wn u) (hpx : ∀ u, pm.map (fun i => (wr ++ w1 u)[i]?) = (wn u).map some)
    (hpm0 : pm.filterMap (fun i => (wr ++ wc)[i]?) = w) (hpx0 : pm.map (fun i => (wr ++ wc)[i]?) = w.map some)
    (kx : ∀ (ce : Cell) (q9 : Addr) (H1 : Heap) (locs1 : List Loc), oo = none → va_P D vwCl w H1 → va_D A w → va_S A s.heap H1 locs1 → H1[q9]? = some ce → ce.vm = .none → s.vm.findClass RJx00060 = some ce.cls → vx_W p l e R s m args below meth c H1 locs1 (cells + mc) (slots + ms) Q (F0 m pc ls rest) q9)
    (kk : ∀ (u : S) (H1 : Heap) (locs1 : List Loc), oo = some u → va_P D vwCl (wn u) H1 → va_D A (wn u) → va_S A s.heap H1 locs1 → W p l e R s m args below meth c H1 locs1 (cells + mc) (slots + ms) Q (F0 m (pc + 3) ls (.int (r u) :: rest))) : W p l e R s m args below meth c H locs cells slots Q (F0 m pc ls st0) := by
  have hF := va_free (wc := wc) hD hS hA isC hC
  refine vx_calli hr hS (fun q _ h => hF q h) hF (fun q _ h => hF q h) (fun E ce q9 u t H1 locs1 ht _ hp hB _ hk hS1 hce hcv hcl => ?_) (fun x u t H1 locs1 ht _ hp hB _ hk hS1 => ?_)
  · obtain ⟨rfl, hP1, hD1⟩ := hB
    rw [ht] at hP1
    obtain ⟨hP2, hD2⟩ := va_join hP hD isC isR hC hR hn hdis hk hF hP1 hD1
    exact kx ce q9 H1 locs1 hp (hP2.sub pm hpm0) (hD2.sub pm hpn hpx0) hS1 hce hcv hcl
  · obtain ⟨h1, rfl⟩ := hp
    obtain ⟨hP1, hD1⟩ := hB
    rw [ht] at hP1
    obtain ⟨hP2, hD2⟩ := va_join hP hD isC isR hC hR hn hdis hk hF hP1 hD1
    exact kk u H1 locs1 h1 (hP2.sub pm (hpm u)) (hD2.sub pm hpn (hpx u)) hS1
theorem in01 : vp_in (0 : Int32) 1 := (g_in (i := 0) (n := 1) (k := some ()) (o := ()) (by decide)).1
abbrev rmX4_cell : Room := ({ frames := 7, cells := 1, slots := 6, locals := 103 })
def J_X4_cell (F : Nat) (nKn : Nat) (kn : Nat → Int32) (w : Int32) (ht : Int32) (kp : Int32) (nFu : Nat) (fu : Nat → Int32) (nFk : Nat) (fk : Nat → Int32) (p0 : Int32) (p1 : Int32) (p2 : Int32) : Option (Option (Int32 × (Nat → Int32) × (Nat → Int32) × (Nat → Int32) × Int32 × Int32 × Int32)) :=
  (Option.bind (J_X1_hasCell F w ht p0 p1) fun v_1 =>
    (if v_1 = (0 : Int32) then
      (some none)
    else
      (Option.bind (J_X3_drop F) fun v_3 =>
        (Option.bind (J_X4_setCell F nKn kn w ht kp nFu fu nFk fk p0 p1 p2) fun v_4 =>
          (if v_4.1 = (0 : Int32) then
            (some (some ((0 : Int32), v_4.2.1, v_4.2.2.1, v_4.2.2.2, v_3.1, v_3.2.1, v_3.2.2)))
          else
            (some (some ((1 : Int32), v_4.2.1, v_4.2.2.1, v_4.2.2.2, v_3.1, v_3.2.1, v_3.2.2))))))))
abbrev rmX4_change : Room := ({ frames := 7, cells := 1, slots := 6, locals := 165 })
def J_X4_change (F : Nat) (plc : Int32) (gol : Int32) (stp : Int64) (exa : Int32) (rch : Int32) (nCo : Nat) (co : Nat → Int64) (nQu : Nat) (qu : Nat → Int32) (ln : Int32) (wd : Int32) (rd : Int32) (nKn : Nat) (kn : Nat → Int32) (w : Int32) (ht : Int32) (tn : Int32) (kp : Int32) (nFu : Nat) (fu : Nat → Int32) (nFk : Nat) (fk : Nat → Int32) (cnt : Int32) (mde : Int32) (stn : Int32) (nMv : Nat) (mv : Nat → Int32) (nPl : Nat) (pl : Nat → Int32) (p0 : Int32) (p1 : Int32) (p2 : Int32) : Option (Option (Int32 × Int32 × Int32 × (Nat → Int64) × (Nat → Int32) × (Nat → Int32) × (Nat → Int32) × (Nat → Int32) × Int32 × Int32 × Int32 × (Nat → Int32) × (Nat → Int32))) :=
  (Option.bind (J_X1_hasCell F w ht p0 p1) fun v_1 =>
    (if v_1 = (0 : Int32) then
      (some none)
    else
      (Option.bind (J_X4_setCell F nKn kn w ht kp nFu fu nFk fk p0 p1 p2) fun v_3 =>
        (if stn = (0 : Int32) then
          (some (some ((0 : Int32), exa, rch, co, qu, v_3.2.1, v_3.2.2.1, v_3.2.2.2, cnt, mde, stn, mv, pl)))
        else
          (Option.bind (J_X4_movesLeftMayBeMade F plc ln wd rd nKn v_3.2.1 w ht tn nFk v_3.2.2.2 cnt mde nMv mv nPl pl) fun v_5 =>
            (if v_5.1 = (0 : Int32) then
              (Option.bind (J_X4_plan F plc gol stp nCo co nQu qu ln wd rd nKn v_5.2 w ht tn nFk v_3.2.2.2 nMv mv nPl pl) fun v_7 =>
                (if v_7.2.2.2.2.2.2.2.1 = (0 : Int32) then
                  (some (some ((2 : Int32), v_7.1, v_7.2.1, v_7.2.2.1, v_7.2.2.2.1, v_7.2.2.2.2.1, v_3.2.2.1, v_3.2.2.2, v_7.2.2.2.2.2.1, v_7.2.2.2.2.2.2.1, v_7.2.2.2.2.2.2.2.1, v_7.2.2.2.2.2.2.2.2.1, v_7.2.2.2.2.2.2.2.2.2)))
                else
                  (some (some ((1 : Int32), v_7.1, v_7.2.1, v_7.2.2.1, v_7.2.2.2.1, v_7.2.2.2.2.1, v_3.2.2.1, v_3.2.2.2, v_7.2.2.2.2.2.1, v_7.2.2.2.2.2.2.1, v_7.2.2.2.2.2.2.2.1, v_7.2.2.2.2.2.2.2.2.1, v_7.2.2.2.2.2.2.2.2.2)))))
            else
              (some (some ((0 : Int32), exa, rch, co, qu, v_5.2, v_3.2.2.1, v_3.2.2.2, cnt, mde, stn, mv, pl)))))))))
abbrev rmX4_heading : Room := ({ frames := 7, cells := 1, slots := 6, locals := 103 })
def J_X4_heading (F : Nat) (p0 : Int32) : Option (Option (Int32)) :=
  (Option.bind (J_X4_isFrom F (0 : Int32) p0 (7 : Int32)) fun v_1 =>
    (if v_1 = (0 : Int32) then
      (some none)
    else
      (Option.bind (J_X4_stepX F p0) fun v_3 =>
        (Option.bind (J_X4_stepY F p0) fun v_4 =>
          (some (some ((((3 : Int32) * (v_3 + (1 : Int32))) + v_4) + (1 : Int32))))))))
set_option maxHeartbeats 4000000 in
set_option maxRecDepth 100000 in
theorem c_X4_cell (l : Launch) (hlt : l.stackTraces = false) (D : va_G) (aP aS aCo aQu aC aKn aF aFu aFk aW aMv aPl : Nat) (cCo cQu cKn cFu cFk cMv cPl : ClassId) (plc : Int32) (hom : Int32) (gol : Int32) (stp : Int64) (exa : Int32) (hld : Int32) (err : UInt64) (rch : Int32) (nCo : Nat) (co : Nat → Int64) (nQu : Nat) (qu : Nat → Int32) (ln : Int32) (wd : Int32) (rd : Int32) (nKn : Nat) (kn : Nat → Int32) (w : Int32) (ht : Int32) (tn : Int32) (kp : Int32) (nFu : Nat) (fu : Nat → Int32) (nFk : Nat) (fk : Nat → Int32) (cnt : Int32) (mde : Int32) (stn : Int32) (nMv : Nat) (mv : Nat → Int32) (nPl : Nat) (pl : Nat → Int32) (p0 : Int32) (p1 : Int32) (p2 : Int32) (tX tY sa sb sz F : Nat) (oo : Option (Int32 × (Nat → Int32) × (Nat → Int32) × (Nat → Int32) × Int32 × Int32 × Int32)) (hJ : J_X4_cell F nKn kn w ht kp nFu fu nFk fk p0 p1 p2 = some oo) : vx_Met l yX4_cell wsX4_cell rmX4_cell (va_Pc [.ref aP, .int p0, .int p1, .int p2] (pcX D [(aP, .inr (5, [.ref aF, .ref aC, .ref aS, .ref aW, .int plc, .int hom, .int gol, .long stp, .int exa, .int hld, .double err])), (aS, .inr (3, [.ref aC, .ref aCo, .ref aQu, .int rch])), (aCo, .inl (cCo, nCo, .inr (.inl co))), (aQu, .inl (cQu, nQu, .inl qu)), (aC, .inr (1, [.ref aF, .ref aKn, .int ln, .int wd, .int rd])), (aKn, .inl (cKn, nKn, .inl kn)), (aF, .inr (2, [.int w, .int ht, .int tn, .ref aFu, .ref aFk, .int kp])), (aFu, .inl (cFu, nFu, .inl fu)), (aFk, .inl (cFk, nFk, .inl fk)), (aW, .inr (4, [.ref aMv, .ref aPl, .int cnt, .int mde, .int stn])), (aMv, .inl (cMv, nMv, .inl mv)), (aPl, .inl (cPl, nPl, .inl pl))] [(cCo, .long), (cQu, .int), (cKn, .int), (cFu, .boolean), (cFk, .int), (cMv, .int), (cPl, .int)] sz tX tY sa sb)) (qTi D oo (fun u : Int32 × (Nat → Int32) × (Nat → Int32) × (Nat → Int32) × Int32 × Int32 × Int32 => u.1) (fun u : Int32 × (Nat → Int32) × (Nat → Int32) × (Nat → Int32) × Int32 × Int32 × Int32 => [(aP, .inr (5, [.ref aF, .ref aC, .ref aS, .ref aW, .int plc, .int hom, .int gol, .long stp, .int exa, .int hld, .double err])), (aS, .inr (3, [.ref aC, .ref aCo, .ref aQu, .int rch])), (aCo, .inl (cCo, nCo, .inr (.inl co))), (aQu, .inl (cQu, nQu, .inl qu)), (aC, .inr (1, [.ref aF, .ref aKn, .int ln, .int wd, .int rd])), (aKn, .inl (cKn, nKn, .inl u.2.1)), (aF, .inr (2, [.int w, .int ht, .int tn, .ref aFu, .ref aFk, .int kp])), (aFu, .inl (cFu, nFu, .inl u.2.2.1)), (aFk, .inl (cFk, nFk, .inl u.2.2.2.1)), (aW, .inr (4, [.ref aMv, .ref aPl, .int u.2.2.2.2.1, .int u.2.2.2.2.2.1, .int u.2.2.2.2.2.2])), (aMv, .inl (cMv, nMv, .inl mv)), (aPl, .inl (cPl, nPl, .inl pl))]) (va_A [(aP, .inr (5, [.ref aF, .ref aC, .ref aS, .ref aW, .int plc, .int hom, .int gol, .long stp, .int exa, .int hld, .double err])), (aS, .inr (3, [.ref aC, .ref aCo, .ref aQu, .int rch])), (aCo, .inl (cCo, nCo, .inr (.inl co))), (aQu, .inl (cQu, nQu, .inl qu)), (aC, .inr (1, [.ref aF, .ref aKn, .int ln, .int wd, .int rd])), (aKn, .inl (cKn, nKn, .inl kn)), (aF, .inr (2, [.int w, .int ht, .int tn, .ref aFu, .ref aFk, .int kp])), (aFu, .inl (cFu, nFu, .inl fu)), (aFk, .inl (cFk, nFk, .inl fk)), (aW, .inr (4, [.ref aMv, .ref aPl, .int cnt, .int mde, .int stn])), (aMv, .inl (cMv, nMv, .inl mv)), (aPl, .inl (cPl, nPl, .inl pl))] sz)) (xTi D oo [(aP, .inr (5, [.ref aF, .ref aC, .ref aS, .ref aW, .int plc, .int hom, .int gol, .long stp, .int exa, .int hld, .double err])), (aS, .inr (3, [.ref aC, .ref aCo, .ref aQu, .int rch])), (aCo, .inl (cCo, nCo, .inr (.inl co))), (aQu, .inl (cQu, nQu, .inl qu)), (aC, .inr (1, [.ref aF, .ref aKn, .int ln, .int wd, .int rd])), (aKn, .inl (cKn, nKn, .inl kn)), (aF, .inr (2, [.int w, .int ht, .int tn, .ref aFu, .ref aFk, .int kp])), (aFu, .inl (cFu, nFu, .inl fu)), (aFk, .inl (cFk, nFk, .inl fk)), (aW, .inr (4, [.ref aMv, .ref aPl, .int cnt, .int mde, .int stn])), (aMv, .inl (cMv, nMv, .inl mv)), (aPl, .inl (cPl, nPl, .inl pl))] (va_A [(aP, .inr (5, [.ref aF, .ref aC, .ref aS, .ref aW, .int plc, .int hom, .int gol, .long stp, .int exa, .int hld, .double err])), (aS, .inr (3, [.ref aC, .ref aCo, .ref aQu, .int rch])), (aCo, .inl (cCo, nCo, .inr (.inl co))), (aQu, .inl (cQu, nQu, .inl qu)), (aC, .inr (1, [.ref aF, .ref aKn, .int ln, .int wd, .int rd])), (aKn, .inl (cKn, nKn, .inl kn)), (aF, .inr (2, [.int w, .int ht, .int tn, .ref aFu, .ref aFk, .int kp])), (aFu, .inl (cFu, nFu, .inl fu)), (aFk, .inl (cFk, nFk, .inl fk)), (aW, .inr (4, [.ref aMv, .ref aPl, .int cnt, .int mde, .int stn])), (aMv, .inl (cMv, nMv, .inl mv)), (aPl, .inl (cPl, nPl, .inl pl))] sz)) 1 6 (va_A [(aP, .inr (5, [.ref aF, .ref aC, .ref aS, .ref aW, .int plc, .int hom, .int gol, .long stp, .int exa, .int hld, .double err])), (aS, .inr (3, [.ref aC, .ref aCo, .ref aQu, .int rch])), (aCo, .inl (cCo, nCo, .inr (.inl co))), (aQu, .inl (cQu, nQu, .inl qu)), (aC, .inr (1, [.ref aF, .ref aKn, .int ln, .int wd, .int rd])), (aKn, .inl (cKn, nKn, .inl kn)), (aF, .inr (2, [.int w, .int ht, .int tn, .ref aFu, .ref aFk, .int kp])), (aFu, .inl (cFu, nFu, .inl fu)), (aFk, .inl (cFk, nFk, .inl fk)), (aW, .inr (4, [.ref aMv, .ref aPl, .int cnt, .int mde, .int stn])), (aMv, .inl (cMv, nMv, .inl mv)), (aPl, .inl (cPl, nPl, .inl pl))] sz) := by
  refine vx_ofW (cc := cX4_cell) (maxL := 4) (ret := (some .int)) (by decide) rfl ?_
  intro p e s m args below meth c s₁ B hml htb hv
  obtain ⟨rfl, ⟨hsz, hP, hK, hD0, hST⟩, hXT⟩ := hv
  have hx := B.exec
  have hb := B.bytes
  have hr := B.returns
  have hts := atoms_spec (ws := wsX4_cell) B.pre
  have hown : s.vm.findClass RX4 = some m.cls := findClass_of_methodNamed B.named
  have hlocks := B.notSynchronized
  subst hsz
  have hD := hD0.self (sz := s.heap.size)
  generalize hAe : va_A [(aP, .inr (5, [.ref aF, .ref aC, .ref aS, .ref aW, .int plc, .int hom, .int gol, .long stp, .int exa, .int hld, .double err])), (aS, .inr (3, [.ref aC, .ref aCo, .ref aQu, .int rch])), (aCo, .inl (cCo, nCo, .inr (.inl co))), (aQu, .inl (cQu, nQu, .inl qu)), (aC, .inr (1, [.ref aF, .ref aKn, .int ln, .int wd, .int rd])), (aKn, .inl (cKn, nKn, .inl kn)), (aF, .inr (2, [.int w, .int ht, .int tn, .ref aFu, .ref aFk, .int kp])), (aFu, .inl (cFu, nFu, .inl fu)), (aFk, .inl (cFk, nFk, .inl fk)), (aW, .inr (4, [.ref aMv, .ref aPl, .int cnt, .int mde, .int stn])), (aMv, .inl (cMv, nMv, .inl mv)), (aPl, .inl (cPl, nPl, .inl pl))] s.heap.size = A at hD hST hXT ⊢
  have hA : ∀ q : Nat, s.heap.size ≤ q → A q := fun q h => by rw [← hAe]; exact Or.inr h
  have hS : va_S A s.heap s.heap [] := va_S.rf
  have hl := lv_entry ([.ref aP, .int p0, .int p1, .int p2]) (n := 4) (Nat.le_of_ble_eq_true rfl)
  rw [lg_entry_eq]
  generalize (lg_sl ([.ref aP, .int p0, .int p1, .int p2]) ++ List.replicate (4 - (lg_sl ([.ref aP, .int p0, .int p1, .int p2])).length) Slot.unset).toArray = ls at hl ⊢
  have hl : lv_has ls 4 [(0, .ref aP), (1, .int p0), (2, .int p1), (3, .int p2)] := hl
  have iX4 : ∀ w ∈ wsX40, w ∈ wsX4_cell := fun w h => List.mem_cons_of_mem _ (List.mem_append_left _ (List.mem_append_left _ (List.mem_append_left _ (List.mem_append_left _ (List.mem_append_right _ h)))))
  have k_1 := hts (.fieldLink RX4 22 "ParkWays" "field" "LParkWays$Field;") (List.mem_of_getElem? (i := 1) rfl)
  have k_5 := hts (.fieldLink RX4 53 "ParkWays" "way" "LParkWays$Way;") (List.mem_of_getElem? (i := 5) rfl)
  have k_2 := hts (.classLink RX4 61 RJx00060) (List.mem_of_getElem? (i := 2) rfl)
  have k_4 := hts (.initialized RJx00060) (List.mem_of_getElem? (i := 4) rfl)
  unfold J_X4_cell at hJ
  refine lv_aload_n hx hb dX4_cell_0 rfl (lv_at hl 0 rfl) ?_
  refine va_get (D := D) (ci := 5) (v := .ref aF) (C := RX4) (T := TX4) (N := 11) hx hb hts iX4 hown hK hP 0 rfl rfl 0 (by decide) k_1 (fun _ h9 => h9) rfl dX4_cell_1 ?_
  refine lv_iload_n hx hb dX4_cell_4 rfl (lv_at hl 1 rfl) ?_
  refine lv_iload_n hx hb dX4_cell_5 rfl (lv_at hl 2 rfl) ?_
  obtain ⟨v_1, hv_1, hJ⟩ := j_b hJ
  refine ro_i (va_runV (As := [.int p0, .int p1]) (rest := []) ⟨hx, hb, hml, hown, hts⟩ (c_X1_hasCell l D aF aFu aFk cFu cFk w ht tn kp nFu fu nFk fk p0 p1 tX tY s.heap.size F v_1 hv_1) (cwV 2 hts gX4_cell_X1_hasCell rfl rfl rfl (by decide +kernel) ⟨Nat.le_of_ble_eq_true rfl, Nat.le_of_ble_eq_true rfl⟩) (preRV [.int p0, .int p1] hP hK hS hA hST [6, 7, 8] rfl [3, 4] rfl (ci := 2) (q0 := 6) rfl rfl) rfl rfl hl.1 rfl (lv_room (Nat.le_of_ble_eq_true rfl)) dX4_cell_6 ⟨Nat.zero_le _, Nat.zero_le _⟩) hP hS hA (fun H locs hP hS => ?_)
  refine lv_if_ne (tgt := 22) hx hb dX4_cell_9 (by decide) (fun c_2 => ?_) (fun c_2 => ?_)
  · have hJ := j_f c_2 hJ
    refine lv_aload_n hx hb dX4_cell_22 rfl (lv_at hl 0 rfl) ?_
    refine va_get (D := D) (ci := 5) (v := .ref aW) (C := RX4) (T := TX4) (N := 11) hx hb hts iX4 hown hK hP 0 rfl rfl 3 (by decide) k_5 (fun _ h9 => h9) rfl dX4_cell_23 ?_
    obtain ⟨v_3, hv_3, hJ⟩ := j_b hJ
    refine wr_v (wr := [(aP, .inr (5, [.ref aF, .ref aC, .ref aS, .ref aW, .int plc, .int hom, .int gol, .long stp, .int exa, .int hld, .double err])), (aS, .inr (3, [.ref aC, .ref aCo, .ref aQu, .int rch])), (aCo, .inl (cCo, nCo, .inr (.inl co))), (aQu, .inl (cQu, nQu, .inl qu)), (aC, .inr (1, [.ref aF, .ref aKn, .int ln, .int wd, .int rd])), (aKn, .inl (cKn, nKn, .inl kn)), (aF, .inr (2, [.int w, .int ht, .int tn, .ref aFu, .ref aFk, .int kp])), (aFu, .inl (cFu, nFu, .inl fu)), (aFk, .inl (cFk, nFk, .inl fk))]) (wn := [(aP, .inr (5, [.ref aF, .ref aC, .ref aS, .ref aW, .int plc, .int hom, .int gol, .long stp, .int exa, .int hld, .double err])), (aS, .inr (3, [.ref aC, .ref aCo, .ref aQu, .int rch])), (aCo, .inl (cCo, nCo, .inr (.inl co))), (aQu, .inl (cQu, nQu, .inl qu)), (aC, .inr (1, [.ref aF, .ref aKn, .int ln, .int wd, .int rd])), (aKn, .inl (cKn, nKn, .inl kn)), (aF, .inr (2, [.int w, .int ht, .int tn, .ref aFu, .ref aFk, .int kp])), (aFu, .inl (cFu, nFu, .inl fu)), (aFk, .inl (cFk, nFk, .inl fk)), (aW, .inr (4, [.ref aMv, .ref aPl, .int v_3.1, .int v_3.2.1, .int v_3.2.2])), (aMv, .inl (cMv, nMv, .inl mv)), (aPl, .inl (cPl, nPl, .inl pl))]) (va_runV (As := []) (rest := []) ⟨hx, hb, hml, hown, hts⟩ (c_X3_drop l D aW aMv aPl cMv cPl cnt mde stn nMv mv nPl pl tX tY H.size F v_3 hv_3) (cwV 0 hts gX4_cell_X3_drop rfl rfl rfl (by decide +kernel) ⟨Nat.le_of_ble_eq_true rfl, Nat.le_of_ble_eq_true rfl⟩) (preWV [] hP hD hK hS hA hST [9, 10, 11] rfl rfl rfl [5, 6] rfl (ci := 4) (q0 := 9) rfl rfl) rfl rfl hl.1 rfl (lv_room (Nat.le_of_ble_eq_true rfl)) dX4_cell_26 ⟨Nat.zero_le _, Nat.zero_le _⟩) hP hD hS hA [9, 10, 11] [0, 1, 2, 3, 4, 5, 6, 7, 8] rfl rfl rfl (by decide) [0, 1, 2, 3, 4, 5, 6, 7, 8, 9, 10, 11] rfl rfl rfl (fun H locs hP hD hS => ?_)
    refine lv_aload_n hx hb dX4_cell_29 rfl (lv_at hl 0 rfl) ?_
    refine lv_iload_n hx hb dX4_cell_30 rfl (lv_at hl 1 rfl) ?_
    refine lv_iload_n hx hb dX4_cell_31 rfl (lv_at hl 2 rfl) ?_
    refine lv_iload_n hx hb dX4_cell_32 rfl (lv_at hl 3 rfl) ?_
    obtain ⟨v_4, hv_4, hJ⟩ := j_b hJ
    refine wr_i (wr := []) (wn := [(aP, .inr (5, [.ref aF, .ref aC, .ref aS, .ref aW, .int plc, .int hom, .int gol, .long stp, .int exa, .int hld, .double err])), (aS, .inr (3, [.ref aC, .ref aCo, .ref aQu, .int rch])), (aCo, .inl (cCo, nCo, .inr (.inl co))), (aQu, .inl (cQu, nQu, .inl qu)), (aC, .inr (1, [.ref aF, .ref aKn, .int ln, .int wd, .int rd])), (aKn, .inl (cKn, nKn, .inl v_4.2.1)), (aF, .inr (2, [.int w, .int ht, .int tn, .ref aFu, .ref aFk, .int kp])), (aFu, .inl (cFu, nFu, .inl v_4.2.2.1)), (aFk, .inl (cFk, nFk, .inl v_4.2.2.2)), (aW, .inr (4, [.ref aMv, .ref aPl, .int v_3.1, .int v_3.2.1, .int v_3.2.2])), (aMv, .inl (cMv, nMv, .inl mv)), (aPl, .inl (cPl, nPl, .inl pl))]) (va_runV (As := [.int p0, .int p1, .int p2]) (rest := []) ⟨hx, hb, hml, hown, hts⟩ (c_X4_setCell l D aP aS aCo aQu aC aKn aF aFu aFk aW aMv aPl cCo cQu cKn cFu cFk cMv cPl plc hom gol stp exa hld err rch nCo co nQu qu ln wd rd nKn kn w ht tn kp nFu fu nFk fk v_3.1 v_3.2.1 v_3.2.2 nMv mv nPl pl p0 p1 p2 tX tY H.size F v_4 hv_4) (cwV 3 hts gX4_cell_X4_setCell rfl rfl rfl (by decide +kernel) ⟨Nat.le_of_ble_eq_true rfl, Nat.le_of_ble_eq_true rfl⟩) (preWV [.int p0, .int p1, .int p2] hP hD hK hS hA hST [0, 1, 2, 3, 4, 5, 6, 7, 8, 9, 10, 11] rfl rfl rfl [0, 1, 2, 3, 4, 5, 6] rfl (ci := 5) (q0 := 0) rfl rfl) rfl rfl hl.1 rfl (lv_room (Nat.le_of_ble_eq_true rfl)) dX4_cell_33 ⟨Nat.zero_le _, Nat.zero_le _⟩) hP hD hS hA [0, 1, 2, 3, 4, 5, 6, 7, 8, 9, 10, 11] [] rfl rfl rfl (by decide) [0, 1, 2, 3, 4, 5, 6, 7, 8, 9, 10, 11] rfl rfl rfl (fun H locs hP hD hS => ?_)
    refine lv_if_eq (tgt := 43) hx hb dX4_cell_36 (by decide) (fun c_5 => ?_) (fun c_5 => ?_)
    · have hJ := j_t c_5 hJ
      refine lv_iconst (v := 0) hx hb dX4_cell_43 (by decide) ?_
      have ho := Option.some.inj hJ
      exact vx_ret (W.widen (k := 1) (n := 6) (Nat.zero_le _) (Nat.zero_le _) (W.iret (v := (0 : Int32)) hx hb hr (fun t ht hW => ⟨⟨_, ((0 : Int32), v_4.2.1, v_4.2.2.1, v_4.2.2.2, v_3.1, v_3.2.1, v_3.2.2), rfl, ⟨ho.symm, rfl⟩, by rw [ht]; exact hP, hD⟩, hS.F ht⟩) hS.2.2 dX4_cell_44))
    · have hJ := j_f c_5 hJ
      refine lv_iconst (v := 1) hx hb dX4_cell_39 (by decide) ?_
      refine lv_goto (tgt := 44) hx hb dX4_cell_40 (by decide) ?_
      have ho := Option.some.inj hJ
      exact vx_ret (W.widen (k := 1) (n := 6) (Nat.zero_le _) (Nat.zero_le _) (W.iret (v := (1 : Int32)) hx hb hr (fun t ht hW => ⟨⟨_, ((1 : Int32), v_4.2.1, v_4.2.2.1, v_4.2.2.2, v_3.1, v_3.2.1, v_3.2.2), rfl, ⟨ho.symm, rfl⟩, by rw [ht]; exact hP, hD⟩, hS.F ht⟩) hS.2.2 dX4_cell_44))
  · have hJ := j_t c_2 hJ
    have ho := Option.some.inj hJ
    exact vx_throwS (cls := RJx00060) (names := nm3) (text := "no such cell") (A := A) hx hb hlt hown (by decide +kernel) (by decide +kernel) k_2 k_4 hXT.2.1.1 (fun w hw => va_Nw.use (XL_on w (List.mem_cons_of_mem _ (List.mem_cons_of_mem _ hw))) (hXT.1 w (List.mem_cons_of_mem _ (List.mem_cons_of_mem _ hw)))) XL_ot hXT.2.2.1 hXT.2.2.2 hS (hl.1.trans hml.symm) dX4_cell_12 dX4_cell_15 dX4_cell_16 dX4_cell_18 dX4_cell_21 (fun x hx => (htb x hx).elim) (Nat.le_of_ble_eq_true rfl) (Nat.le_of_ble_eq_true rfl) (Nat.le_of_ble_eq_true rfl) (Nat.le_of_ble_eq_true rfl) hlocks (fun t _ hz hk => thrown ho.symm hP hD hS t hz hk) hS.2.2 (Nat.le_of_ble_eq_true rfl) (Nat.le_of_ble_eq_true rfl)
set_option maxHeartbeats 4000000 in
set_option maxRecDepth 100000 in
theorem c_X4_change (l : Launch) (hlt : l.stackTraces = false) (D : va_G) (aP aS aCo aQu aC aKn aF aFu aFk aW aMv aPl : Nat) (cCo cQu cKn cFu cFk cMv cPl : ClassId) (plc : Int32) (hom : Int32) (gol : Int32) (stp : Int64) (exa : Int32) (hld : Int32) (err : UInt64) (rch : Int32) (nCo : Nat) (co : Nat → Int64) (nQu : Nat) (qu : Nat → Int32) (ln : Int32) (wd : Int32) (rd : Int32) (nKn : Nat) (kn : Nat → Int32) (w : Int32) (ht : Int32) (tn : Int32) (kp : Int32) (nFu : Nat) (fu : Nat → Int32) (nFk : Nat) (fk : Nat → Int32) (cnt : Int32) (mde : Int32) (stn : Int32) (nMv : Nat) (mv : Nat → Int32) (nPl : Nat) (pl : Nat → Int32) (p0 : Int32) (p1 : Int32) (p2 : Int32) (tX tY sa sb sz F : Nat) (oo : Option (Int32 × Int32 × Int32 × (Nat → Int64) × (Nat → Int32) × (Nat → Int32) × (Nat → Int32) × (Nat → Int32) × Int32 × Int32 × Int32 × (Nat → Int32) × (Nat → Int32))) (hJ : J_X4_change F plc gol stp exa rch nCo co nQu qu ln wd rd nKn kn w ht tn kp nFu fu nFk fk cnt mde stn nMv mv nPl pl p0 p1 p2 = some oo) : vx_Met l yX4_change wsX4_change rmX4_change (va_Pc [.ref aP, .int p0, .int p1, .int p2] (pcX D [(aP, .inr (5, [.ref aF, .ref aC, .ref aS, .ref aW, .int plc, .int hom, .int gol, .long stp, .int exa, .int hld, .double err])), (aS, .inr (3, [.ref aC, .ref aCo, .ref aQu, .int rch])), (aCo, .inl (cCo, nCo, .inr (.inl co))), (aQu, .inl (cQu, nQu, .inl qu)), (aC, .inr (1, [.ref aF, .ref aKn, .int ln, .int wd, .int rd])), (aKn, .inl (cKn, nKn, .inl kn)), (aF, .inr (2, [.int w, .int ht, .int tn, .ref aFu, .ref aFk, .int kp])), (aFu, .inl (cFu, nFu, .inl fu)), (aFk, .inl (cFk, nFk, .inl fk)), (aW, .inr (4, [.ref aMv, .ref aPl, .int cnt, .int mde, .int stn])), (aMv, .inl (cMv, nMv, .inl mv)), (aPl, .inl (cPl, nPl, .inl pl))] [(cCo, .long), (cQu, .int), (cKn, .int), (cFu, .boolean), (cFk, .int), (cMv, .int), (cPl, .int)] sz tX tY sa sb)) (qTi D oo (fun u : Int32 × Int32 × Int32 × (Nat → Int64) × (Nat → Int32) × (Nat → Int32) × (Nat → Int32) × (Nat → Int32) × Int32 × Int32 × Int32 × (Nat → Int32) × (Nat → Int32) => u.1) (fun u : Int32 × Int32 × Int32 × (Nat → Int64) × (Nat → Int32) × (Nat → Int32) × (Nat → Int32) × (Nat → Int32) × Int32 × Int32 × Int32 × (Nat → Int32) × (Nat → Int32) => [(aP, .inr (5, [.ref aF, .ref aC, .ref aS, .ref aW, .int plc, .int hom, .int gol, .long stp, .int u.2.1, .int hld, .double err])), (aS, .inr (3, [.ref aC, .ref aCo, .ref aQu, .int u.2.2.1])), (aCo, .inl (cCo, nCo, .inr (.inl u.2.2.2.1))), (aQu, .inl (cQu, nQu, .inl u.2.2.2.2.1)), (aC, .inr (1, [.ref aF, .ref aKn, .int ln, .int wd, .int rd])), (aKn, .inl (cKn, nKn, .inl u.2.2.2.2.2.1)), (aF, .inr (2, [.int w, .int ht, .int tn, .ref aFu, .ref aFk, .int kp])), (aFu, .inl (cFu, nFu, .inl u.2.2.2.2.2.2.1)), (aFk, .inl (cFk, nFk, .inl u.2.2.2.2.2.2.2.1)), (aW, .inr (4, [.ref aMv, .ref aPl, .int u.2.2.2.2.2.2.2.2.1, .int u.2.2.2.2.2.2.2.2.2.1, .int u.2.2.2.2.2.2.2.2.2.2.1])), (aMv, .inl (cMv, nMv, .inl u.2.2.2.2.2.2.2.2.2.2.2.1)), (aPl, .inl (cPl, nPl, .inl u.2.2.2.2.2.2.2.2.2.2.2.2))]) (va_A [(aP, .inr (5, [.ref aF, .ref aC, .ref aS, .ref aW, .int plc, .int hom, .int gol, .long stp, .int exa, .int hld, .double err])), (aS, .inr (3, [.ref aC, .ref aCo, .ref aQu, .int rch])), (aCo, .inl (cCo, nCo, .inr (.inl co))), (aQu, .inl (cQu, nQu, .inl qu)), (aC, .inr (1, [.ref aF, .ref aKn, .int ln, .int wd, .int rd])), (aKn, .inl (cKn, nKn, .inl kn)), (aF, .inr (2, [.int w, .int ht, .int tn, .ref aFu, .ref aFk, .int kp])), (aFu, .inl (cFu, nFu, .inl fu)), (aFk, .inl (cFk, nFk, .inl fk)), (aW, .inr (4, [.ref aMv, .ref aPl, .int cnt, .int mde, .int stn])), (aMv, .inl (cMv, nMv, .inl mv)), (aPl, .inl (cPl, nPl, .inl pl))] sz)) (xTi D oo [(aP, .inr (5, [.ref aF, .ref aC, .ref aS, .ref aW, .int plc, .int hom, .int gol, .long stp, .int exa, .int hld, .double err])), (aS, .inr (3, [.ref aC, .ref aCo, .ref aQu, .int rch])), (aCo, .inl (cCo, nCo, .inr (.inl co))), (aQu, .inl (cQu, nQu, .inl qu)), (aC, .inr (1, [.ref aF, .ref aKn, .int ln, .int wd, .int rd])), (aKn, .inl (cKn, nKn, .inl kn)), (aF, .inr (2, [.int w, .int ht, .int tn, .ref aFu, .ref aFk, .int kp])), (aFu, .inl (cFu, nFu, .inl fu)), (aFk, .inl (cFk, nFk, .inl fk)), (aW, .inr (4, [.ref aMv, .ref aPl, .int cnt, .int mde, .int stn])), (aMv, .inl (cMv, nMv, .inl mv)), (aPl, .inl (cPl, nPl, .inl pl))] (va_A [(aP, .inr (5, [.ref aF, .ref aC, .ref aS, .ref aW, .int plc, .int hom, .int gol, .long stp, .int exa, .int hld, .double err])), (aS, .inr (3, [.ref aC, .ref aCo, .ref aQu, .int rch])), (aCo, .inl (cCo, nCo, .inr (.inl co))), (aQu, .inl (cQu, nQu, .inl qu)), (aC, .inr (1, [.ref aF, .ref aKn, .int ln, .int wd, .int rd])), (aKn, .inl (cKn, nKn, .inl kn)), (aF, .inr (2, [.int w, .int ht, .int tn, .ref aFu, .ref aFk, .int kp])), (aFu, .inl (cFu, nFu, .inl fu)), (aFk, .inl (cFk, nFk, .inl fk)), (aW, .inr (4, [.ref aMv, .ref aPl, .int cnt, .int mde, .int stn])), (aMv, .inl (cMv, nMv, .inl mv)), (aPl, .inl (cPl, nPl, .inl pl))] sz)) 1 6 (va_A [(aP, .inr (5, [.ref aF, .ref aC, .ref aS, .ref aW, .int plc, .int hom, .int gol, .long stp, .int exa, .int hld, .double err])), (aS, .inr (3, [.ref aC, .ref aCo, .ref aQu, .int rch])), (aCo, .inl (cCo, nCo, .inr (.inl co))), (aQu, .inl (cQu, nQu, .inl qu)), (aC, .inr (1, [.ref aF, .ref aKn, .int ln, .int wd, .int rd])), (aKn, .inl (cKn, nKn, .inl kn)), (aF, .inr (2, [.int w, .int ht, .int tn, .ref aFu, .ref aFk, .int kp])), (aFu, .inl (cFu, nFu, .inl fu)), (aFk, .inl (cFk, nFk, .inl fk)), (aW, .inr (4, [.ref aMv, .ref aPl, .int cnt, .int mde, .int stn])), (aMv, .inl (cMv, nMv, .inl mv)), (aPl, .inl (cPl, nPl, .inl pl))] sz) := by
  refine vx_ofW (cc := cX4_change) (maxL := 4) (ret := (some .int)) (by decide) rfl ?_
  intro p e s m args below meth c s₁ B hml htb hv
  obtain ⟨rfl, ⟨hsz, hP, hK, hD0, hST⟩, hXT⟩ := hv
  have hx := B.exec
  have hb := B.bytes
  have hr := B.returns
  have hts := atoms_spec (ws := wsX4_change) B.pre
  have hown : s.vm.findClass RX4 = some m.cls := findClass_of_methodNamed B.named
  have hlocks := B.notSynchronized
  subst hsz
  have hD := hD0.self (sz := s.heap.size)
  generalize hAe : va_A [(aP, .inr (5, [.ref aF, .ref aC, .ref aS, .ref aW, .int plc, .int hom, .int gol, .long stp, .int exa, .int hld, .double err])), (aS, .inr (3, [.ref aC, .ref aCo, .ref aQu, .int rch])), (aCo, .inl (cCo, nCo, .inr (.inl co))), (aQu, .inl (cQu, nQu, .inl qu)), (aC, .inr (1, [.ref aF, .ref aKn, .int ln, .int wd, .int rd])), (aKn, .inl (cKn, nKn, .inl kn)), (aF, .inr (2, [.int w, .int ht, .int tn, .ref aFu, .ref aFk, .int kp])), (aFu, .inl (cFu, nFu, .inl fu)), (aFk, .inl (cFk, nFk, .inl fk)), (aW, .inr (4, [.ref aMv, .ref aPl, .int cnt, .int mde, .int stn])), (aMv, .inl (cMv, nMv, .inl mv)), (aPl, .inl (cPl, nPl, .inl pl))] s.heap.size = A at hD hST hXT ⊢
  have hA : ∀ q : Nat, s.heap.size ≤ q → A q := fun q h => by rw [← hAe]; exact Or.inr h
  have hS : va_S A s.heap s.heap [] := va_S.rf
  have hl := lv_entry ([.ref aP, .int p0, .int p1, .int p2]) (n := 4) (Nat.le_of_ble_eq_true rfl)
  rw [lg_entry_eq]
  generalize (lg_sl ([.ref aP, .int p0, .int p1, .int p2]) ++ List.replicate (4 - (lg_sl ([.ref aP, .int p0, .int p1, .int p2])).length) Slot.unset).toArray = ls at hl ⊢
  have hl : lv_has ls 4 [(0, .ref aP), (1, .int p0), (2, .int p1), (3, .int p2)] := hl
  have iX3 : ∀ w ∈ wsX30, w ∈ wsX4_change := fun w h => List.mem_cons_of_mem _ (List.mem_append_left _ (List.mem_append_left _ (List.mem_append_left _ (List.mem_append_right _ h))))
  have iX4 : ∀ w ∈ wsX40, w ∈ wsX4_change := fun w h => List.mem_cons_of_mem _ (List.mem_append_left _ (List.mem_append_left _ (List.mem_append_left _ (List.mem_append_left _ (List.mem_append_left _ (List.mem_append_right _ h))))))
  have k_1 := hts (.fieldLink RX4 22 "ParkWays" "field" "LParkWays$Field;") (List.mem_of_getElem? (i := 1) rfl)
  have k_5 := hts (.fieldLink RX4 53 "ParkWays" "way" "LParkWays$Way;") (List.mem_of_getElem? (i := 5) rfl)
  have k_2 := hts (.classLink RX4 61 RJx00060) (List.mem_of_getElem? (i := 2) rfl)
  have k_4 := hts (.initialized RJx00060) (List.mem_of_getElem? (i := 4) rfl)
  unfold J_X4_change at hJ
  refine lv_aload_n hx hb dX4_change_0 rfl (lv_at hl 0 rfl) ?_
  refine va_get (D := D) (ci := 5) (v := .ref aF) (C := RX4) (T := TX4) (N := 11) hx hb hts iX4 hown hK hP 0 rfl rfl 0 (by decide) k_1 (fun _ h9 => h9) rfl dX4_change_1 ?_
  refine lv_iload_n hx hb dX4_change_4 rfl (lv_at hl 1 rfl) ?_
  refine lv_iload_n hx hb dX4_change_5 rfl (lv_at hl 2 rfl) ?_
  obtain ⟨v_1, hv_1, hJ⟩ := j_b hJ
  refine ro_i (va_runV (As := [.int p0, .int p1]) (rest := []) ⟨hx, hb, hml, hown, hts⟩ (c_X1_hasCell l D aF aFu aFk cFu cFk w ht tn kp nFu fu nFk fk p0 p1 tX tY s.heap.size F v_1 hv_1) (cwV 2 hts gX4_change_X1_hasCell rfl rfl rfl (by decide +kernel) ⟨Nat.le_of_ble_eq_true rfl, Nat.le_of_ble_eq_true rfl⟩) (preRV [.int p0, .int p1] hP hK hS hA hST [6, 7, 8] rfl [3, 4] rfl (ci := 2) (q0 := 6) rfl rfl) rfl rfl hl.1 rfl (lv_room (Nat.le_of_ble_eq_true rfl)) dX4_change_6 ⟨Nat.zero_le _, Nat.zero_le _⟩) hP hS hA (fun H locs hP hS => ?_)
  refine lv_if_ne (tgt := 22) hx hb dX4_change_9 (by decide) (fun c_2 => ?_) (fun c_2 => ?_)
  · have hJ := j_f c_2 hJ
    refine lv_aload_n hx hb dX4_change_22 rfl (lv_at hl 0 rfl) ?_
    refine lv_iload_n hx hb dX4_change_23 rfl (lv_at hl 1 rfl) ?_
    refine lv_iload_n hx hb dX4_change_24 rfl (lv_at hl 2 rfl) ?_
    refine lv_iload_n hx hb dX4_change_25 rfl (lv_at hl 3 rfl) ?_
    obtain ⟨v_3, hv_3, hJ⟩ := j_b hJ
    refine wr_i (wr := []) (wn := [(aP, .inr (5, [.ref aF, .ref aC, .ref aS, .ref aW, .int plc, .int hom, .int gol, .long stp, .int exa, .int hld, .double err])), (aS, .inr (3, [.ref aC, .ref aCo, .ref aQu, .int rch])), (aCo, .inl (cCo, nCo, .inr (.inl co))), (aQu, .inl (cQu, nQu, .inl qu)), (aC, .inr (1, [.ref aF, .ref aKn, .int ln, .int wd, .int rd])), (aKn, .inl (cKn, nKn, .inl v_3.2.1)), (aF, .inr (2, [.int w, .int ht, .int tn, .ref aFu, .ref aFk, .int kp])), (aFu, .inl (cFu, nFu, .inl v_3.2.2.1)), (aFk, .inl (cFk, nFk, .inl v_3.2.2.2)), (aW, .inr (4, [.ref aMv, .ref aPl, .int cnt, .int mde, .int stn])), (aMv, .inl (cMv, nMv, .inl mv)), (aPl, .inl (cPl, nPl, .inl pl))]) (va_runV (As := [.int p0, .int p1, .int p2]) (rest := []) ⟨hx, hb, hml, hown, hts⟩ (c_X4_setCell l D aP aS aCo aQu aC aKn aF aFu aFk aW aMv aPl cCo cQu cKn cFu cFk cMv cPl plc hom gol stp exa hld err rch nCo co nQu qu ln wd rd nKn kn w ht tn kp nFu fu nFk fk cnt mde stn nMv mv nPl pl p0 p1 p2 tX tY H.size F v_3 hv_3) (cwV 3 hts gX4_change_X4_setCell rfl rfl rfl (by decide +kernel) ⟨Nat.le_of_ble_eq_true rfl, Nat.le_of_ble_eq_true rfl⟩) (preWV [.int p0, .int p1, .int p2] hP hD hK hS hA hST [0, 1, 2, 3, 4, 5, 6, 7, 8, 9, 10, 11] rfl rfl rfl [0, 1, 2, 3, 4, 5, 6] rfl (ci := 5) (q0 := 0) rfl rfl) rfl rfl hl.1 rfl (lv_room (Nat.le_of_ble_eq_true rfl)) dX4_change_26 ⟨Nat.zero_le _, Nat.zero_le _⟩) hP hD hS hA [0, 1, 2, 3, 4, 5, 6, 7, 8, 9, 10, 11] [] rfl rfl rfl (by decide) [0, 1, 2, 3, 4, 5, 6, 7, 8, 9, 10, 11] rfl rfl rfl (fun H locs hP hD hS => ?_)
    refine lv_pop hx hb dX4_change_29 rfl ?_
    refine lv_aload_n hx hb dX4_change_30 rfl (lv_at hl 0 rfl) ?_
    refine va_get (D := D) (ci := 5) (v := .ref aW) (C := RX4) (T := TX4) (N := 11) hx hb hts iX4 hown hK hP 0 rfl rfl 3 (by decide) k_5 (fun _ h9 => h9) rfl dX4_change_31 ?_
    refine va_getN (D := D) (ci := 4) (v := .int stn) (C := RX3) (T := TX3) (N := 5) hx hb hts iX3 hown hK hP 9 rfl rfl 4 (by decide) (va_Nw.use rfl (hST.1.2.2.2.1)) (fun _ h9 => h9) rfl dX4_change_34 ?_
    refine lv_if_eq (tgt := 47) hx hb dX4_change_37 (by decide) (fun c_4 => ?_) (fun c_4 => ?_)
    · have hJ := j_t c_4 hJ
      refine lv_iconst (v := 0) hx hb dX4_change_47 (by decide) ?_
      have ho := Option.some.inj hJ
      exact vx_ret (W.widen (k := 1) (n := 6) (Nat.zero_le _) (Nat.zero_le _) (W.iret (v := (0 : Int32)) hx hb hr (fun t ht hW => ⟨⟨_, ((0 : Int32), exa, rch, co, qu, v_3.2.1, v_3.2.2.1, v_3.2.2.2, cnt, mde, stn, mv, pl), rfl, ⟨ho.symm, rfl⟩, by rw [ht]; exact hP, hD⟩, hS.F ht⟩) hS.2.2 dX4_change_48))
    · have hJ := j_f c_4 hJ
      refine lv_aload_n hx hb dX4_change_40 rfl (lv_at hl 0 rfl) ?_
      obtain ⟨v_5, hv_5, hJ⟩ := j_b hJ
      refine wr_i (wr := []) (wn := [(aP, .inr (5, [.ref aF, .ref aC, .ref aS, .ref aW, .int plc, .int hom, .int gol, .long stp, .int exa, .int hld, .double err])), (aS, .inr (3, [.ref aC, .ref aCo, .ref aQu, .int rch])), (aCo, .inl (cCo, nCo, .inr (.inl co))), (aQu, .inl (cQu, nQu, .inl qu)), (aC, .inr (1, [.ref aF, .ref aKn, .int ln, .int wd, .int rd])), (aKn, .inl (cKn, nKn, .inl v_5.2)), (aF, .inr (2, [.int w, .int ht, .int tn, .ref aFu, .ref aFk, .int kp])), (aFu, .inl (cFu, nFu, .inl v_3.2.2.1)), (aFk, .inl (cFk, nFk, .inl v_3.2.2.2)), (aW, .inr (4, [.ref aMv, .ref aPl, .int cnt, .int mde, .int stn])), (aMv, .inl (cMv, nMv, .inl mv)), (aPl, .inl (cPl, nPl, .inl pl))]) (va_runV (As := []) (rest := []) ⟨hx, hb, hml, hown, hts⟩ (c_X4_movesLeftMayBeMade l D aP aS aCo aQu aC aKn aF aFu aFk aW aMv aPl cCo cQu cKn cFu cFk cMv cPl plc hom gol stp exa hld err rch nCo co nQu qu ln wd rd nKn v_3.2.1 w ht tn kp nFu v_3.2.2.1 nFk v_3.2.2.2 cnt mde stn nMv mv nPl pl tX tY H.size F v_5 hv_5) (cwV 0 hts gX4_change_X4_movesLeftMayBeMade rfl rfl rfl (by decide +kernel) ⟨Nat.le_of_ble_eq_true rfl, Nat.le_of_ble_eq_true rfl⟩) (preWV [] hP hD hK hS hA hST [0, 1, 2, 3, 4, 5, 6, 7, 8, 9, 10, 11] rfl rfl rfl [0, 1, 2, 3, 4, 5, 6] rfl (ci := 5) (q0 := 0) rfl rfl) rfl rfl hl.1 rfl (lv_room (Nat.le_of_ble_eq_true rfl)) dX4_change_41 ⟨Nat.zero_le _, Nat.zero_le _⟩) hP hD hS hA [0, 1, 2, 3, 4, 5, 6, 7, 8, 9, 10, 11] [] rfl rfl rfl (by decide) [0, 1, 2, 3, 4, 5, 6, 7, 8, 9, 10, 11] rfl rfl rfl (fun H locs hP hD hS => ?_)
      refine lv_if_eq (tgt := 49) hx hb dX4_change_44 (by decide) (fun c_6 => ?_) (fun c_6 => ?_)
      · have hJ := j_t c_6 hJ
        refine lv_aload_n hx hb dX4_change_49 rfl (lv_at hl 0 rfl) ?_
        obtain ⟨v_7, hv_7, hJ⟩ := j_b hJ
        refine wr_v (wr := []) (wn := [(aP, .inr (5, [.ref aF, .ref aC, .ref aS, .ref aW, .int plc, .int hom, .int gol, .long stp, .int v_7.1, .int hld, .double err])), (aS, .inr (3, [.ref aC, .ref aCo, .ref aQu, .int v_7.2.1])), (aCo, .inl (cCo, nCo, .inr (.inl v_7.2.2.1))), (aQu, .inl (cQu, nQu, .inl v_7.2.2.2.1)), (aC, .inr (1, [.ref aF, .ref aKn, .int ln, .int wd, .int rd])), (aKn, .inl (cKn, nKn, .inl v_7.2.2.2.2.1)), (aF, .inr (2, [.int w, .int ht, .int tn, .ref aFu, .ref aFk, .int kp])), (aFu, .inl (cFu, nFu, .inl v_3.2.2.1)), (aFk, .inl (cFk, nFk, .inl v_3.2.2.2)), (aW, .inr (4, [.ref aMv, .ref aPl, .int v_7.2.2.2.2.2.1, .int v_7.2.2.2.2.2.2.1, .int v_7.2.2.2.2.2.2.2.1])), (aMv, .inl (cMv, nMv, .inl v_7.2.2.2.2.2.2.2.2.1)), (aPl, .inl (cPl, nPl, .inl v_7.2.2.2.2.2.2.2.2.2))]) (va_runV (As := []) (rest := []) ⟨hx, hb, hml, hown, hts⟩ (c_X4_plan l D aP aS aCo aQu aC aKn aF aFu aFk aW aMv aPl cCo cQu cKn cFu cFk cMv cPl plc hom gol stp exa hld err rch nCo co nQu qu ln wd rd nKn v_5.2 w ht tn kp nFu v_3.2.2.1 nFk v_3.2.2.2 cnt mde stn nMv mv nPl pl tX tY H.size F v_7 hv_7) (cwV 0 hts gX4_change_X4_plan rfl rfl rfl (by decide +kernel) ⟨Nat.le_of_ble_eq_true rfl, Nat.le_of_ble_eq_true rfl⟩) (preWV [] hP hD hK hS hA hST [0, 1, 2, 3, 4, 5, 6, 7, 8, 9, 10, 11] rfl rfl rfl [0, 1, 2, 3, 4, 5, 6] rfl (ci := 5) (q0 := 0) rfl rfl) rfl rfl hl.1 rfl (lv_room (Nat.le_of_ble_eq_true rfl)) dX4_change_50 ⟨Nat.zero_le _, Nat.zero_le _⟩) hP hD hS hA [0, 1, 2, 3, 4, 5, 6, 7, 8, 9, 10, 11] [] rfl rfl rfl (by decide) [0, 1, 2, 3, 4, 5, 6, 7, 8, 9, 10, 11] rfl rfl rfl (fun H locs hP hD hS => ?_)
        refine lv_aload_n hx hb dX4_change_53 rfl (lv_at hl 0 rfl) ?_
        refine va_get (D := D) (ci := 5) (v := .ref aW) (C := RX4) (T := TX4) (N := 11) hx hb hts iX4 hown hK hP 0 rfl rfl 3 (by decide) k_5 (fun _ h9 => h9) rfl dX4_change_54 ?_
        refine va_getN (D := D) (ci := 4) (v := .int v_7.2.2.2.2.2.2.2.1) (C := RX3) (T := TX3) (N := 5) hx hb hts iX3 hown hK hP 9 rfl rfl 4 (by decide) (va_Nw.use rfl (hST.1.2.2.2.1)) (fun _ h9 => h9) rfl dX4_change_57 ?_
        refine lv_if_eq (tgt := 67) hx hb dX4_change_60 (by decide) (fun c_8 => ?_) (fun c_8 => ?_)
        · have hJ := j_t c_8 hJ
          refine lv_iconst (v := 2) hx hb dX4_change_67 (by decide) ?_
          have ho := Option.some.inj hJ
          exact vx_ret (W.widen (k := 1) (n := 6) (Nat.zero_le _) (Nat.zero_le _) (W.iret (v := (2 : Int32)) hx hb hr (fun t ht hW => ⟨⟨_, ((2 : Int32), v_7.1, v_7.2.1, v_7.2.2.1, v_7.2.2.2.1, v_7.2.2.2.2.1, v_3.2.2.1, v_3.2.2.2, v_7.2.2.2.2.2.1, v_7.2.2.2.2.2.2.1, v_7.2.2.2.2.2.2.2.1, v_7.2.2.2.2.2.2.2.2.1, v_7.2.2.2.2.2.2.2.2.2), rfl, ⟨ho.symm, rfl⟩, by rw [ht]; exact hP, hD⟩, hS.F ht⟩) hS.2.2 dX4_change_68))
        · have hJ := j_f c_8 hJ
          refine lv_iconst (v := 1) hx hb dX4_change_63 (by decide) ?_
          refine lv_goto (tgt := 68) hx hb dX4_change_64 (by decide) ?_
          have ho := Option.some.inj hJ
          exact vx_ret (W.widen (k := 1) (n := 6) (Nat.zero_le _) (Nat.zero_le _) (W.iret (v := (1 : Int32)) hx hb hr (fun t ht hW => ⟨⟨_, ((1 : Int32), v_7.1, v_7.2.1, v_7.2.2.1, v_7.2.2.2.1, v_7.2.2.2.2.1, v_3.2.2.1, v_3.2.2.2, v_7.2.2.2.2.2.1, v_7.2.2.2.2.2.2.1, v_7.2.2.2.2.2.2.2.1, v_7.2.2.2.2.2.2.2.2.1, v_7.2.2.2.2.2.2.2.2.2), rfl, ⟨ho.symm, rfl⟩, by rw [ht]; exact hP, hD⟩, hS.F ht⟩) hS.2.2 dX4_change_68))
      · have hJ := j_f c_6 hJ
        refine lv_iconst (v := 0) hx hb dX4_change_47 (by decide) ?_
        have ho := Option.some.inj hJ
        exact vx_ret (W.widen (k := 1) (n := 6) (Nat.zero_le _) (Nat.zero_le _) (W.iret (v := (0 : Int32)) hx hb hr (fun t ht hW => ⟨⟨_, ((0 : Int32), exa, rch, co, qu, v_5.2, v_3.2.2.1, v_3.2.2.2, cnt, mde, stn, mv, pl), rfl, ⟨ho.symm, rfl⟩, by rw [ht]; exact hP, hD⟩, hS.F ht⟩) hS.2.2 dX4_change_48))
  · have hJ := j_t c_2 hJ
    have ho := Option.some.inj hJ
    exact vx_throwS (cls := RJx00060) (names := nm3) (text := "no such cell") (A := A) hx hb hlt hown (by decide +kernel) (by decide +kernel) k_2 k_4 hXT.2.1.1 (fun w hw => va_Nw.use (XL_on w (List.mem_cons_of_mem _ (List.mem_cons_of_mem _ hw))) (hXT.1 w (List.mem_cons_of_mem _ (List.mem_cons_of_mem _ hw)))) XL_ot hXT.2.2.1 hXT.2.2.2 hS (hl.1.trans hml.symm) dX4_change_12 dX4_change_15 dX4_change_16 dX4_change_18 dX4_change_21 (fun x hx => (htb x hx).elim) (Nat.le_of_ble_eq_true rfl) (Nat.le_of_ble_eq_true rfl) (Nat.le_of_ble_eq_true rfl) (Nat.le_of_ble_eq_true rfl) hlocks (fun t _ hz hk => thrown ho.symm hP hD hS t hz hk) hS.2.2 (Nat.le_of_ble_eq_true rfl) (Nat.le_of_ble_eq_true rfl)
set_option maxHeartbeats 4000000 in
set_option maxRecDepth 100000 in
theorem c_X4_heading (l : Launch) (hlt : l.stackTraces = false) (D : va_G) (aP aS aCo aQu aC aKn aF aFu aFk aW aMv aPl : Nat) (cCo cQu cKn cFu cFk cMv cPl : ClassId) (plc : Int32) (hom : Int32) (gol : Int32) (stp : Int64) (exa : Int32) (hld : Int32) (err : UInt64) (rch : Int32) (nCo : Nat) (co : Nat → Int64) (nQu : Nat) (qu : Nat → Int32) (ln : Int32) (wd : Int32) (rd : Int32) (nKn : Nat) (kn : Nat → Int32) (w : Int32) (ht : Int32) (tn : Int32) (kp : Int32) (nFu : Nat) (fu : Nat → Int32) (nFk : Nat) (fk : Nat → Int32) (cnt : Int32) (mde : Int32) (stn : Int32) (nMv : Nat) (mv : Nat → Int32) (nPl : Nat) (pl : Nat → Int32) (p0 : Int32) (tX tY sa sb sz F : Nat) (oo : Option (Int32)) (hJ : J_X4_heading F p0 = some oo) : vx_Met l yX4_heading wsX4_heading rmX4_heading (va_Pc [.ref aP, .int p0] (pcX D [(aP, .inr (5, [.ref aF, .ref aC, .ref aS, .ref aW, .int plc, .int hom, .int gol, .long stp, .int exa, .int hld, .double err])), (aS, .inr (3, [.ref aC, .ref aCo, .ref aQu, .int rch])), (aCo, .inl (cCo, nCo, .inr (.inl co))), (aQu, .inl (cQu, nQu, .inl qu)), (aC, .inr (1, [.ref aF, .ref aKn, .int ln, .int wd, .int rd])), (aKn, .inl (cKn, nKn, .inl kn)), (aF, .inr (2, [.int w, .int ht, .int tn, .ref aFu, .ref aFk, .int kp])), (aFu, .inl (cFu, nFu, .inl fu)), (aFk, .inl (cFk, nFk, .inl fk)), (aW, .inr (4, [.ref aMv, .ref aPl, .int cnt, .int mde, .int stn])), (aMv, .inl (cMv, nMv, .inl mv)), (aPl, .inl (cPl, nPl, .inl pl))] [(cCo, .long), (cQu, .int), (cKn, .int), (cFu, .boolean), (cFk, .int), (cMv, .int), (cPl, .int)] sz tX tY sa sb)) (qTi D oo (fun u : Int32 => u) (fun u : Int32 => [(aP, .inr (5, [.ref aF, .ref aC, .ref aS, .ref aW, .int plc, .int hom, .int gol, .long stp, .int exa, .int hld, .double err])), (aS, .inr (3, [.ref aC, .ref aCo, .ref aQu, .int rch])), (aCo, .inl (cCo, nCo, .inr (.inl co))), (aQu, .inl (cQu, nQu, .inl qu)), (aC, .inr (1, [.ref aF, .ref aKn, .int ln, .int wd, .int rd])), (aKn, .inl (cKn, nKn, .inl kn)), (aF, .inr (2, [.int w, .int ht, .int tn, .ref aFu, .ref aFk, .int kp])), (aFu, .inl (cFu, nFu, .inl fu)), (aFk, .inl (cFk, nFk, .inl fk)), (aW, .inr (4, [.ref aMv, .ref aPl, .int cnt, .int mde, .int stn])), (aMv, .inl (cMv, nMv, .inl mv)), (aPl, .inl (cPl, nPl, .inl pl))]) (va_A [(aP, .inr (5, [.ref aF, .ref aC, .ref aS, .ref aW, .int plc, .int hom, .int gol, .long stp, .int exa, .int hld, .double err])), (aS, .inr (3, [.ref aC, .ref aCo, .ref aQu, .int rch])), (aCo, .inl (cCo, nCo, .inr (.inl co))), (aQu, .inl (cQu, nQu, .inl qu)), (aC, .inr (1, [.ref aF, .ref aKn, .int ln, .int wd, .int rd])), (aKn, .inl (cKn, nKn, .inl kn)), (aF, .inr (2, [.int w, .int ht, .int tn, .ref aFu, .ref aFk, .int kp])), (aFu, .inl (cFu, nFu, .inl fu)), (aFk, .inl (cFk, nFk, .inl fk)), (aW, .inr (4, [.ref aMv, .ref aPl, .int cnt, .int mde, .int stn])), (aMv, .inl (cMv, nMv, .inl mv)), (aPl, .inl (cPl, nPl, .inl pl))] sz)) (xTi D oo [(aP, .inr (5, [.ref aF, .ref aC, .ref aS, .ref aW, .int plc, .int hom, .int gol, .long stp, .int exa, .int hld, .double err])), (aS, .inr (3, [.ref aC, .ref aCo, .ref aQu, .int rch])), (aCo, .inl (cCo, nCo, .inr (.inl co))), (aQu, .inl (cQu, nQu, .inl qu)), (aC, .inr (1, [.ref aF, .ref aKn, .int ln, .int wd, .int rd])), (aKn, .inl (cKn, nKn, .inl kn)), (aF, .inr (2, [.int w, .int ht, .int tn, .ref aFu, .ref aFk, .int kp])), (aFu, .inl (cFu, nFu, .inl fu)), (aFk, .inl (cFk, nFk, .inl fk)), (aW, .inr (4, [.ref aMv, .ref aPl, .int cnt, .int mde, .int stn])), (aMv, .inl (cMv, nMv, .inl mv)), (aPl, .inl (cPl, nPl, .inl pl))] (va_A [(aP, .inr (5, [.ref aF, .ref aC, .ref aS, .ref aW, .int plc, .int hom, .int gol, .long stp, .int exa, .int hld, .double err])), (aS, .inr (3, [.ref aC, .ref aCo, .ref aQu, .int rch])), (aCo, .inl (cCo, nCo, .inr (.inl co))), (aQu, .inl (cQu, nQu, .inl qu)), (aC, .inr (1, [.ref aF, .ref aKn, .int ln, .int wd, .int rd])), (aKn, .inl (cKn, nKn, .inl kn)), (aF, .inr (2, [.int w, .int ht, .int tn, .ref aFu, .ref aFk, .int kp])), (aFu, .inl (cFu, nFu, .inl fu)), (aFk, .inl (cFk, nFk, .inl fk)), (aW, .inr (4, [.ref aMv, .ref aPl, .int cnt, .int mde, .int stn])), (aMv, .inl (cMv, nMv, .inl mv)), (aPl, .inl (cPl, nPl, .inl pl))] sz)) 1 6 (va_A [(aP, .inr (5, [.ref aF, .ref aC, .ref aS, .ref aW, .int plc, .int hom, .int gol, .long stp, .int exa, .int hld, .double err])), (aS, .inr (3, [.ref aC, .ref aCo, .ref aQu, .int rch])), (aCo, .inl (cCo, nCo, .inr (.inl co))), (aQu, .inl (cQu, nQu, .inl qu)), (aC, .inr (1, [.ref aF, .ref aKn, .int ln, .int wd, .int rd])), (aKn, .inl (cKn, nKn, .inl kn)), (aF, .inr (2, [.int w, .int ht, .int tn, .ref aFu, .ref aFk, .int kp])), (aFu, .inl (cFu, nFu, .inl fu)), (aFk, .inl (cFk, nFk, .inl fk)), (aW, .inr (4, [.ref aMv, .ref aPl, .int cnt, .int mde, .int stn])), (aMv, .inl (cMv, nMv, .inl mv)), (aPl, .inl (cPl, nPl, .inl pl))] sz) := by
  refine vx_ofW (cc := cX4_heading) (maxL := 2) (ret := (some .int)) (by decide) rfl ?_
  intro p e s m args below meth c s₁ B hml htb hv
  obtain ⟨rfl, ⟨hsz, hP, hK, hD0, hST⟩, hXT⟩ := hv
  have hx := B.exec
  have hb := B.bytes
  have hr := B.returns
  have hts := atoms_spec (ws := wsX4_heading) B.pre
  have hown : s.vm.findClass RX4 = some m.cls := findClass_of_methodNamed B.named
  have hlocks := B.notSynchronized
  subst hsz
  have hD := hD0.self (sz := s.heap.size)
  generalize hAe : va_A [(aP, .inr (5, [.ref aF, .ref aC, .ref aS, .ref aW, .int plc, .int hom, .int gol, .long stp, .int exa, .int hld, .double err])), (aS, .inr (3, [.ref aC, .ref aCo, .ref aQu, .int rch])), (aCo, .inl (cCo, nCo, .inr (.inl co))), (aQu, .inl (cQu, nQu, .inl qu)), (aC, .inr (1, [.ref aF, .ref aKn, .int ln, .int wd, .int rd])), (aKn, .inl (cKn, nKn, .inl kn)), (aF, .inr (2, [.int w, .int ht, .int tn, .ref aFu, .ref aFk, .int kp])), (aFu, .inl (cFu, nFu, .inl fu)), (aFk, .inl (cFk, nFk, .inl fk)), (aW, .inr (4, [.ref aMv, .ref aPl, .int cnt, .int mde, .int stn])), (aMv, .inl (cMv, nMv, .inl mv)), (aPl, .inl (cPl, nPl, .inl pl))] s.heap.size = A at hD hST hXT ⊢
  have hA : ∀ q : Nat, s.heap.size ≤ q → A q := fun q h => by rw [← hAe]; exact Or.inr h
  have hS : va_S A s.heap s.heap [] := va_S.rf
  have hl := lv_entry ([.ref aP, .int p0]) (n := 2) (Nat.le_of_ble_eq_true rfl)
  rw [lg_entry_eq]
  generalize (lg_sl ([.ref aP, .int p0]) ++ List.replicate (2 - (lg_sl ([.ref aP, .int p0])).length) Slot.unset).toArray = ls at hl ⊢
  have hl : lv_has ls 2 [(0, .ref aP), (1, .int p0)] := hl
  have k_1 := hts (.classLink RX4 61 RJx00060) (List.mem_of_getElem? (i := 1) rfl)
  have k_3 := hts (.initialized RJx00060) (List.mem_of_getElem? (i := 3) rfl)
  unfold J_X4_heading at hJ
  refine lv_iconst (v := 0) hx hb dX4_heading_0 (by decide) ?_
  refine lv_iload_n hx hb dX4_heading_1 rfl (lv_at hl 1 rfl) ?_
  refine lv_bipush (v := 7) hx hb dX4_heading_2 (by decide) ?_
  obtain ⟨v_1, hv_1, hJ⟩ := j_b hJ
  refine ro_i (va_runS (As := [.int (0 : Int32), .int p0, .int (7 : Int32)]) (rest := []) ⟨hx, hb, hml, hown, hts⟩ (c_X4_isFrom l D (0 : Int32) p0 (7 : Int32) tX tY s.heap.size F v_1 hv_1) (va_cwS 3 hts gX4_heading_X4_isFrom rfl rfl rfl (by decide +kernel) ⟨Nat.le_of_ble_eq_true rfl, Nat.le_of_ble_eq_true rfl⟩) (preRS [.int (0 : Int32), .int p0, .int (7 : Int32)] hP hK hS hA hST [] rfl [] rfl) rfl rfl hl.1 rfl (lv_room (Nat.le_of_ble_eq_true rfl)) dX4_heading_4 ⟨Nat.zero_le _, Nat.zero_le _⟩) hP hS hA (fun H locs hP hS => ?_)
  refine lv_if_ne (tgt := 20) hx hb dX4_heading_7 (by decide) (fun c_2 => ?_) (fun c_2 => ?_)
  · have hJ := j_f c_2 hJ
    refine lv_iconst (v := 3) hx hb dX4_heading_20 (by decide) ?_
    refine lv_iload_n hx hb dX4_heading_21 rfl (lv_at hl 1 rfl) ?_
    obtain ⟨v_3, hv_3, hJ⟩ := j_b hJ
    refine ro_i (va_runS (As := [.int p0]) (rest := [.int (3 : Int32)]) ⟨hx, hb, hml, hown, hts⟩ (c_X4_stepX l D p0 tX tY H.size F v_3 hv_3) (va_cwS 1 hts gX4_heading_X4_stepX rfl rfl rfl (by decide +kernel) ⟨Nat.le_of_ble_eq_true rfl, Nat.le_of_ble_eq_true rfl⟩) (preRS [.int p0] hP hK hS hA hST [] rfl [] rfl) rfl rfl hl.1 rfl (lv_room (Nat.le_of_ble_eq_true rfl)) dX4_heading_22 ⟨Nat.zero_le _, Nat.zero_le _⟩) hP hS hA (fun H locs hP hS => ?_)
    refine lv_iconst (v := 1) hx hb dX4_heading_25 (by decide) ?_
    refine lv_iadd hx hb dX4_heading_26 ?_
    refine lv_imul hx hb dX4_heading_27 ?_
    refine lv_iload_n hx hb dX4_heading_28 rfl (lv_at hl 1 rfl) ?_
    obtain ⟨v_4, hv_4, hJ⟩ := j_b hJ
    refine ro_i (va_runS (As := [.int p0]) (rest := [.int ((3 : Int32) * (v_3 + (1 : Int32)))]) ⟨hx, hb, hml, hown, hts⟩ (c_X4_stepY l D p0 tX tY H.size F v_4 hv_4) (va_cwS 1 hts gX4_heading_X4_stepY rfl rfl rfl (by decide +kernel) ⟨Nat.le_of_ble_eq_true rfl, Nat.le_of_ble_eq_true rfl⟩) (preRS [.int p0] hP hK hS hA hST [] rfl [] rfl) rfl rfl hl.1 rfl (lv_room (Nat.le_of_ble_eq_true rfl)) dX4_heading_29 ⟨Nat.zero_le _, Nat.zero_le _⟩) hP hS hA (fun H locs hP hS => ?_)
    refine lv_iadd hx hb dX4_heading_32 ?_
    refine lv_iconst (v := 1) hx hb dX4_heading_33 (by decide) ?_
    refine lv_iadd hx hb dX4_heading_34 ?_
    have ho := Option.some.inj hJ
    exact vx_ret (W.widen (k := 1) (n := 6) (Nat.zero_le _) (Nat.zero_le _) (W.iret (v := ((((3 : Int32) * (v_3 + (1 : Int32))) + v_4) + (1 : Int32))) hx hb hr (fun t ht hW => ⟨⟨_, ((((3 : Int32) * (v_3 + (1 : Int32))) + v_4) + (1 : Int32)), rfl, ⟨ho.symm, rfl⟩, by rw [ht]; exact hP, hD⟩, hS.F ht⟩) hS.2.2 dX4_heading_35))
  · have hJ := j_t c_2 hJ
    have ho := Option.some.inj hJ
    exact vx_throwS (cls := RJx00060) (names := nm3) (text := "no such heading") (A := A) hx hb hlt hown (by decide +kernel) (by decide +kernel) k_1 k_3 hXT.2.1.2 (fun w hw => va_Nw.use (XL_on w (List.mem_cons_of_mem _ (List.mem_cons_of_mem _ hw))) (hXT.1 w (List.mem_cons_of_mem _ (List.mem_cons_of_mem _ hw)))) XL_ot hXT.2.2.1 hXT.2.2.2 hS (hl.1.trans hml.symm) dX4_heading_10 dX4_heading_13 dX4_heading_14 dX4_heading_16 dX4_heading_19 (fun x hx => (htb x hx).elim) (Nat.le_of_ble_eq_true rfl) (Nat.le_of_ble_eq_true rfl) (Nat.le_of_ble_eq_true rfl) (Nat.le_of_ble_eq_true rfl) hlocks (fun t _ hz hk => thrown ho.symm hP hD hS t hz hk) hS.2.2 (Nat.le_of_ble_eq_true rfl) (Nat.le_of_ble_eq_true rfl)
