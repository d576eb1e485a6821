/-! guards of the functional pictures -/
def inB (i : Int32) (n : Nat) : Bool := !(decide (i < 0) || decide (n ≤ i.toNatClampNeg))
def isZ (v : Int32) : Bool := decide (v = 0) || decide (v = 1)
def gd {α : Type} (b : Bool) (k : Option α) : Option α := match b with
  | true => k
  | false => none
theorem gd_some {α : Type} {b : Bool} {k : Option α} {o : α} (h : gd b k = some o) : b = true ∧ k = some o := by
  cases b with
  | true => exact ⟨rfl, h⟩
  | false => cases h
theorem g_in {α : Type} {i : Int32} {n : Nat} {k : Option α} {o : α} (h : gd (inB i n) k = some o) : vp_in i n ∧ k = some o := by
  obtain ⟨h1, h2⟩ := gd_some h
  refine ⟨?_, h2⟩
  intro q
  unfold inB at h1
  rcases q with q | q <;> simp [q] at h1
theorem isZ_cases {v : Int32} (h : isZ v = true) : v = 0 ∨ v = 1 := by
  simpa [isZ] using h
theorem isZ_nar {v : Int32} (h : isZ v = true) : narrow .boolean (.int v) = .int v := by
  rcases isZ_cases h with rfl | rfl <;> rfl
theorem isZ_fit {v : Int32} (h : isZ v = true) : fits .boolean (.int v) = true := by
  rcases isZ_cases h with rfl | rfl <;> rfl
theorem j_t {α : Type} {c : Prop} {hd : Decidable c} {a b : Option α} {o : α} (h : c) (hJ : (@ite _ c hd a b) = some o) : a = some o := by
  rw [if_pos h] at hJ
  exact hJ
theorem j_f {α : Type} {c : Prop} {hd : Decidable c} {a b : Option α} {o : α} (h : ¬ c) (hJ : (@ite _ c hd a b) = some o) : b = some o := by
  rw [if_neg h] at hJ
  exact hJ
theorem j_b {α β : Type} {x : Option α} {f : α → Option β} {o : β} (h : Option.bind x f = some o) : ∃ v, x = some v ∧ f v = some o := by
  cases x with
  | none => cases h
  | some v => exact ⟨v, rfl, h⟩
def nfD (x : UInt64) : Bool := decide (x &&& 0x7fffffffffffffff ≤ 0x7ff0000000000000)
theorem g_nf {α : Type} {x : UInt64} {k : Option α} {o : α} (h : gd (nfD x) k = some o) : vf_n64 x ∧ k = some o := by
  obtain ⟨h1, h2⟩ := gd_some h
  have h1' : decide (x &&& 0x7fffffffffffffff ≤ 0x7ff0000000000000) = true := h1
  have h3 := of_decide_eq_true h1'
  exact ⟨h3, h2⟩
theorem i32_eq {x : Int32} {n : Int} (h : x.toInt = n) : x = Int32.ofInt n := by
  rw [← h, Int32.ofInt_toInt]
theorem tsw_out3 {x : Int32} (h0 : ¬ x = (0 : Int32)) (h1 : ¬ x = (1 : Int32)) (h2 : ¬ x = (2 : Int32)) (h3 : ¬ x = (3 : Int32)) : x.toInt < 0 ∨ 3 < x.toInt := by
  have g0 : x.toInt ≠ 0 := fun h => h0 (i32_eq h)
  have g1 : x.toInt ≠ 1 := fun h => h1 (i32_eq h)
  have g2 : x.toInt ≠ 2 := fun h => h2 (i32_eq h)
  have g3 : x.toInt ≠ 3 := fun h => h3 (i32_eq h)
  omega
/-! what stays through a whole run: the nest's words, the two tables of steps -/
def sxI : Nat → Int32 := fun j => match j with
  | 0 => 1
  | 1 => 1
  | 2 => 0
  | 3 => -1
  | 4 => -1
  | 5 => -1
  | 6 => 0
  | _ => 1
def syI : Nat → Int32 := fun j => match j with
  | 0 => 0
  | 1 => 1
  | 2 => 1
  | 3 => 1
  | 4 => 0
  | 5 => -1
  | 6 => -1
  | _ => -1
def NW (U : State) : Prop :=
  va_Nw (.fieldLinkNest RX4 109 "ParkWays$Field" "width" "I" RX4) U ∧
  va_Nw (.fieldLinkNest RX4 112 "ParkWays$Field" "height" "I" RX4) U ∧
  va_Nw (.fieldLinkNest RX4 135 "ParkWays$Way" "count" "I" RX4) U ∧
  va_Nw (.fieldLinkNest RX4 158 "ParkWays$Way" "stands" "Z" RX4) U ∧
  va_Nw (.fieldLinkNest RX4 161 "ParkWays$Way" "made" "I" RX4) U ∧
  va_Nw (.fieldLinkNest RX4 206 "ParkWays$Search" "reached" "I" RX4) U ∧
  va_Nw (.fieldLinkNest RX4 82 "ParkWays$Field" "keep" "I" RX4) U ∧
  va_Nw (.fieldLinkNest RX0 100 "ParkWays$Field" "turn" "I" RX4) U ∧
  va_Nw (.methodLinkNest RX0 62 yX4_headingOf RX4) U ∧
  va_Nw (.methodLinkNest RX0 66 yX4_xOf RX4) U ∧
  va_Nw (.methodLinkNest RX0 69 yX4_stepX RX4) U ∧
  va_Nw (.methodLinkNest RX0 72 yX4_yOf RX4) U ∧
  va_Nw (.methodLinkNest RX0 75 yX4_stepY RX4) U ∧
  va_Nw (.methodLinkNest RX0 97 yX4_placeAt RX4) U ∧
  va_Nw (.methodLinkNest RX1 29 yX4_isFrom RX4) U ∧
  va_Nw (.methodLinkNest RX1 37 yX4_cellAt RX4) U
theorem NW.warm {s U : State} (hW : s.WarmedH U.vm) (h : NW s) : NW U := by
  obtain ⟨h1, h2, h3, h4, h5, h6, h7, h8, h9, h10, h11, h12, h13, h14, h15, h16⟩ := h
  exact ⟨va_Nw.warmF hW h1, va_Nw.warmF hW h2, va_Nw.warmF hW h3, va_Nw.warmF hW h4, va_Nw.warmF hW h5, va_Nw.warmF hW h6, va_Nw.warmF hW h7, va_Nw.warmF hW h8, va_Nw.warmM hW h9, va_Nw.warmM hW h10, va_Nw.warmM hW h11, va_Nw.warmM hW h12, va_Nw.warmM hW h13, va_Nw.warmM hW h14, va_Nw.warmM hW h15, va_Nw.warmM hW h16⟩
theorem NW.same {s U : State} (hv : s.vm = U.vm) (h : NW s) : NW U := by
  obtain ⟨h1, h2, h3, h4, h5, h6, h7, h8, h9, h10, h11, h12, h13, h14, h15, h16⟩ := h
  exact ⟨va_Nw.same rfl hv h1, va_Nw.same rfl hv h2, va_Nw.same rfl hv h3, va_Nw.same rfl hv h4, va_Nw.same rfl hv h5, va_Nw.same rfl hv h6, va_Nw.same rfl hv h7, va_Nw.same rfl hv h8, va_Nw.same rfl hv h9, va_Nw.same rfl hv h10, va_Nw.same rfl hv h11, va_Nw.same rfl hv h12, va_Nw.same rfl hv h13, va_Nw.same rfl hv h14, va_Nw.same rfl hv h15, va_Nw.same rfl hv h16⟩
def ST (tX tY : Nat) (A : Nat → Prop) (U : State) : Prop := NW U ∧
  (va_Z RX4 "STEP_X" "[I" (.ref tX) A U U.heap ∧ va_T .int tX 8 (fun j => .int (sxI j)) A U U.heap) ∧
  (va_Z RX4 "STEP_Y" "[I" (.ref tY) A U U.heap ∧ va_T .int tY 8 (fun j => .int (syI j)) A U U.heap)
theorem ST.blind {tX tY : Nat} {A : Nat → Prop} {U : State} {g : JFrame} {mk : MethodId} {a : Array Value} (h : ST tX tY A U) : ST tX tY A (U.calling g mk a) := by
  obtain ⟨h1, ⟨h2, h3⟩, h4, h5⟩ := h
  have hv : U.vm.Alike (U.calling g mk a).vm := Vm.Alike.refl U.vm
  exact ⟨h1.same rfl, ⟨va_Z.moved hv h2, va_T.moved hv h3⟩, va_Z.moved hv h4, va_T.moved hv h5⟩
theorem ST.call {tX tY : Nat} {A B : Nat → Prop} {s U : State} {H : Heap} {locs : List Loc} (h : ST tX tY A s) (hS : va_S A s.heap H locs) (hB : ∀ q, B q → A q) (hU : U.heap = H) (hW : s.WarmedH U.vm) : ST tX tY B U := by
  obtain ⟨h1, ⟨h2, h3⟩, h4, h5⟩ := h
  have hk : ∀ a : Nat, a < s.heap.size → ¬ A a → U.heap[a]? = s.heap[a]? := fun a x y => by rw [hU]; exact hS.2.1 a x y
  exact ⟨h1.warm hW, ⟨va_Z.moved hW.alike ((h2.kept hk).narrow hB), va_T.moved hW.alike ((h3.kept hk).narrow hB)⟩, va_Z.moved hW.alike ((h4.kept hk).narrow hB), va_T.moved hW.alike ((h5.kept hk).narrow hB)⟩
/-! a method's start: it reads its world, or writes it -/
def pcR (D : va_G) (ws : va_W) (tys : List (ClassId × FieldType)) (sz tX tY : Nat) : State → Prop := fun U => U.heap.size = sz ∧ va_P D vwCl ws U.heap ∧ va_K D vwCl tys U ∧ ST tX tY (va_A [] sz) U
def pcW (D : va_G) (ws : va_W) (tys : List (ClassId × FieldType)) (sz tX tY : Nat) : State → Prop := fun U => U.heap.size = sz ∧ va_P D vwCl ws U.heap ∧ va_K D vwCl tys U ∧ va_D (fun _ => True) ws ∧ ST tX tY (va_A ws sz) U
theorem pcR_blind {D : va_G} {ws : va_W} {tys : List (ClassId × FieldType)} {sz tX tY : Nat} (av : List Value) : FrameBlind (va_Pc av (pcR D ws tys sz tX tY)) := by
  intro a U g mk q
  obtain ⟨h0, h1, h2, h3, h4⟩ := q
  exact ⟨h0, h1, h2, va_K.moved (u := U) (U := U.calling g mk a) (Vm.Alike.refl U.vm) h3, h4.blind⟩
theorem pcW_blind {D : va_G} {ws : va_W} {tys : List (ClassId × FieldType)} {sz tX tY : Nat} (av : List Value) : FrameBlind (va_Pc av (pcW D ws tys sz tX tY)) := by
  intro a U g mk q
  obtain ⟨h0, h1, h2, h3, h4, h5⟩ := q
  exact ⟨h0, h1, h2, va_K.moved (u := U) (U := U.calling g mk a) (Vm.Alike.refl U.vm) h3, h4, h5.blind⟩
/-! a method's end -/
def qRi (r0 : Int32) (A : Nat → Prop) : Array Value → State → Outcome → State → Prop := va_Qi (S := Unit) (fun r _ => r = r0) (fun _ _ => True) A
def qRl (r0 : Int64) (A : Nat → Prop) : Array Value → State → Outcome → State → Prop := va_Ql (S := Unit) (fun r _ => r = r0) (fun _ _ => True) A
def qRd (r0 : UInt64) (A : Nat → Prop) : Array Value → State → Outcome → State → Prop := va_Qd (S := Unit) (fun r _ => r = r0) (fun _ _ => True) A
def qWi (D : va_G) (r0 : Int32) (w1 : va_W) (A : Nat → Prop) : Array Value → State → Outcome → State → Prop := va_Qi (S := Unit) (fun r _ => r = r0) (fun _ t => va_P D vwCl w1 t.heap ∧ va_D A w1) A
def qWv (D : va_G) (w1 : va_W) (A : Nat → Prop) : Array Value → State → Outcome → State → Prop := va_Qv (S := Unit) (fun _ => True) (fun _ t => va_P D vwCl w1 t.heap ∧ va_D A w1) A
theorem aN_new {A : Nat → Prop} {H0 H : Heap} {locs : List Loc} (hS : va_S A H0 H locs) (hA : ∀ q : Nat, H0.size ≤ q → A q) : ∀ q, va_A [] H.size q → A q := by
  intro q h
  rcases h with ⟨k, e, h⟩ | h
  · simp at h
  · exact hA q (Nat.le_trans hS.1 h)
theorem roP {D : va_G} {w : va_W} {H H1 : Heap} (hP : va_P D vwCl w H) (hk : ∀ q : Nat, q < H.size → ¬ va_A [] H.size q → H1[q]? = H[q]?) : va_P D vwCl w H1 := by
  refine hP.kept (fun k q hq => ?_)
  have hl := (hP k q hq).lt
  refine hk q.1 hl (fun z => ?_)
  rcases z with ⟨k, e, h⟩ | h
  · simp at h
  · omega
section ROW
variable {p : Program} {l : Launch} {e : Env} {R : Room} {s : State} {m : MethodId} {args : Array Value} {below : List Frame} {meth : Method} {c : Code} {H : Heap} {locs : List Loc} {cells slots : Nat} {Q : State → Prop}
variable {pc : Nat} {ls : Array Slot} {rest st0 : List Value} {a : Array Value} {A : Nat → Prop} {D : va_G} {w wc wr w1 wn : va_W} {tys tys' : List (ClassId × FieldType)} {tX tY : Nat}
theorem preRV {b q0 ci : Nat} {q : vw_C} {fs : List Value} (As : List Value) (hP : va_P D vwCl w H) (hK : va_K D vwCl tys s) (hS : va_S A s.heap H locs) (hA : ∀ q : Nat, s.heap.size ≤ q → A q) (hST : ST tX tY A s) (is : List Nat) (his : is.filterMap (fun i => w[i]?) = wc) (ts : List Nat) (hts : ts.filterMap (fun i => tys[i]?) = tys') (hc : vwCl[ci]? = some q) (he : w[q0]? = some (b, .inr (ci, fs))) : PreV s H q.1 b (va_Pc (.ref b :: As) (pcR D wc tys' H.size tX tY)) As :=
  ⟨pcR_blind _, va_recv hK hP hc he, fun U hU hW => ⟨rfl, by rw [hU], by rw [hU]; exact hP.sub is his, va_K.moved hW.alike (hK.sub ts hts), hST.call hS (aN_new hS hA) hU hW⟩⟩
theorem preRS (As : List Value) (hP : va_P D vwCl w H) (hK : va_K D vwCl tys s) (hS : va_S A s.heap H locs) (hA : ∀ q : Nat, s.heap.size ≤ q → A q) (hST : ST tX tY A s) (is : List Nat) (his : is.filterMap (fun i => w[i]?) = wc) (ts : List Nat) (hts : ts.filterMap (fun i => tys[i]?) = tys') : PreS s H (va_Pc As (pcR D wc tys' H.size tX tY)) As :=
  ⟨pcR_blind _, fun U hU hW => ⟨rfl, by rw [hU], by rw [hU]; exact hP.sub is his, va_K.moved hW.alike (hK.sub ts hts), hST.call hS (aN_new hS hA) hU hW⟩⟩
theorem preWV {b q0 ci : Nat} {q : vw_C} {fs : List Value} (As : List Value) (hP : va_P D vwCl w H) (hD : va_D A w) (hK : va_K D vwCl tys s) (hS : va_S A s.heap H locs) (hA : ∀ q : Nat, s.heap.size ≤ q → A q) (hST : ST tX tY A s) (is : List Nat) (his : is.filterMap (fun i => w[i]?) = wc) (hnd : va_nd is = true) (hm : is.map (fun i => w[i]?) = wc.map some) (ts : List Nat) (hts : ts.filterMap (fun i => tys[i]?) = tys') (hc : vwCl[ci]? = some q) (he : w[q0]? = some (b, .inr (ci, fs))) : PreV s H q.1 b (va_Pc (.ref b :: As) (pcW D wc tys' H.size tX tY)) As :=
  ⟨pcW_blind _, va_recv hK hP hc he, fun U hU hW => ⟨rfl, by rw [hU], by rw [hU]; exact hP.sub is his, va_K.moved hW.alike (hK.sub ts hts), (hD.sub is hnd hm).weaken (fun _ _ _ _ => trivial), hST.call hS (va_free hD hS hA is hm) hU hW⟩⟩
theorem preWS (As : List Value) (hP : va_P D vwCl w H) (hD : va_D A w) (hK : va_K D vwCl tys s) (hS : va_S A s.heap H locs) (hA : ∀ q : Nat, s.heap.size ≤ q → A q) (hST : ST tX tY A s) (is : List Nat) (his : is.filterMap (fun i => w[i]?) = wc) (hnd : va_nd is = true) (hm : is.map (fun i => w[i]?) = wc.map some) (ts : List Nat) (hts : ts.filterMap (fun i => tys[i]?) = tys') : PreS s H (va_Pc As (pcW D wc tys' H.size tX tY)) As :=
  ⟨pcW_blind _, fun U hU hW => ⟨rfl, by rw [hU], by rw [hU]; exact hP.sub is his, va_K.moved hW.alike (hK.sub ts hts), (hD.sub is hnd hm).weaken (fun _ _ _ _ => trivial), hST.call hS (va_free hD hS hA is hm) hU hW⟩⟩
theorem ro_i {r0 : Int32} (hr : va_Run p l e R s m args below meth c H locs cells slots 0 0 (F0 m pc ls st0) rest (qRi r0 (va_A [] H.size) a) (va_A [] H.size)) (hP : va_P D vwCl w H) (hS : va_S A s.heap H locs) (hA : ∀ q : Nat, s.heap.size ≤ q → A q)
    (kk : ∀ (H1 : Heap) (locs1 : List Loc), va_P D vwCl w H1 → va_S A s.heap H1 locs1 → W p l e R s m args below meth c H1 locs1 cells slots Q (F0 m (pc + 3) ls (.int r0 :: rest))) : W p l e R s m args below meth c H locs cells slots Q (F0 m pc ls st0) := by
  refine va_calli hr hS (fun q _ h => aN_new hS hA q h) (fun q h => aN_new hS hA q h) (fun r u t H1 locs1 _ _ hp _ _ hk hS1 => ?_)
  subst hp
  exact kk H1 locs1 (roP hP hk) hS1
theorem ro_l {r0 : Int64} (hr : va_Run p l e R s m args below meth c H locs cells slots 0 0 (F0 m pc ls st0) rest (qRl r0 (va_A [] H.size) a) (va_A [] H.size)) (hP : va_P D vwCl w H) (hS : va_S A s.heap H locs) (hA : ∀ q : Nat, s.heap.size ≤ q → A q)
    (kk : ∀ (H1 : Heap) (locs1 : List Loc), va_P D vwCl w H1 → va_S A s.heap H1 locs1 → W p l e R s m args below meth c H1 locs1 cells slots Q (F0 m (pc + 3) ls (.long r0 :: rest))) : W p l e R s m args below meth c H locs cells slots Q (F0 m pc ls st0) := by
  refine va_calll hr hS (fun q _ h => aN_new hS hA q h) (fun q h => aN_new hS hA q h) (fun r u t H1 locs1 _ _ hp _ _ hk hS1 => ?_)
  subst hp
  exact kk H1 locs1 (roP hP hk) hS1
theorem ro_d {r0 : UInt64} (hr : va_Run p l e R s m args below meth c H locs cells slots 0 0 (F0 m pc ls st0) rest (qRd r0 (va_A [] H.size) a) (va_A [] H.size)) (hP : va_P D vwCl w H) (hS : va_S A s.heap H locs) (hA : ∀ q : Nat, s.heap.size ≤ q → A q)
    (kk : ∀ (H1 : Heap) (locs1 : List Loc), va_P D vwCl w H1 → va_S A s.heap H1 locs1 → W p l e R s m args below meth c H1 locs1 cells slots Q (F0 m (pc + 3) ls (.double r0 :: rest))) : W p l e R s m args below meth c H locs cells slots Q (F0 m pc ls st0) := by
  refine va_calld hr hS (fun q _ h => aN_new hS hA q h) (fun q h => aN_new hS hA q h) (fun r u t H1 locs1 _ _ hp _ _ hk hS1 => ?_)
  subst hp
  exact kk H1 locs1 (roP hP hk) hS1
theorem wr_i {r0 : Int32} (hr : va_Run p l e R s m args below meth c H locs cells slots 0 0 (F0 m pc ls st0) rest (qWi D r0 w1 (va_A wc H.size) a) (va_A wc H.size)) (hP : va_P D vwCl w H) (hD : va_D A w) (hS : va_S A s.heap H locs) (hA : ∀ q : Nat, s.heap.size ≤ q → A q) (isC isR : List Nat) (hC : isC.map (fun i => w[i]?) = wc.map some) (hR : isR.map (fun i => w[i]?) = wr.map some) (hn : va_nd isR = true) (hdis : ∀ i ∈ isR, i ∉ isC) (pm : List Nat) (hpm : pm.filterMap (fun i => (wr ++ w1)[i]?) = wn) (hpn : va_nd pm = true) (hpx : pm.map (fun i => (wr ++ w1)[i]?) = wn.map some)
    (kk : ∀ (H1 : Heap) (locs1 : List Loc), va_P D vwCl wn H1 → va_D A wn → va_S A s.heap H1 locs1 → W p l e R s m args below meth c H1 locs1 cells slots Q (F0 m (pc + 3) ls (.int r0 :: rest))) : W p l e R s m args below meth c H locs cells slots Q (F0 m pc ls st0) := by
  have hF := va_free (wc := wc) hD hS hA isC hC
  refine va_calli hr hS (fun q _ h => hF q h) hF (fun r u t H1 locs1 ht _ hp hB _ hk hS1 => ?_)
  subst hp
  obtain ⟨hP1, hD1⟩ := hB
  rw [ht] at hP1
  obtain ⟨hP2, hD2⟩ := va_join hP hD isC isR hC hR hn hdis hk hF hP1 hD1
  exact kk H1 locs1 (hP2.sub pm hpm) (hD2.sub pm hpn hpx) hS1
theorem wr_v (hr : va_Run p l e R s m args below meth c H locs cells slots 0 0 (F0 m pc ls st0) rest (qWv D w1 (va_A wc H.size) a) (va_A wc H.size)) (hP : va_P D vwCl w H) (hD : va_D A w) (hS : va_S A s.heap H locs) (hA : ∀ q : Nat, s.heap.size ≤ q → A q) (isC isR : List Nat) (hC : isC.map (fun i => w[i]?) = wc.map some) (hR : isR.map (fun i => w[i]?) = wr.map some) (hn : va_nd isR = true) (hdis : ∀ i ∈ isR, i ∉ isC) (pm : List Nat) (hpm : pm.filterMap (fun i => (wr ++ w1)[i]?) = wn) (hpn : va_nd pm = true) (hpx : pm.map (fun i => (wr ++ w1)[i]?) = wn.map some)
    (kk : ∀ (H1 : Heap) (locs1 : List Loc), va_P D vwCl wn H1 → va_D A wn → va_S A s.heap H1 locs1 → W p l e R s m args below meth c H1 locs1 cells slots Q (F0 m (pc + 3) ls rest)) : W p l e R s m args below meth c H locs cells slots Q (F0 m pc ls st0) := by
  have hF := va_free (wc := wc) hD hS hA isC hC
  refine va_callv hr hS (fun q _ h => hF q h) hF (fun u t H1 locs1 ht _ hp hB _ hk hS1 => ?_)
  obtain ⟨hP1, hD1⟩ := hB
  rw [ht] at hP1
  obtain ⟨hP2, hD2⟩ := va_join hP hD isC isR hC hR hn hdis hk hF hP1 hD1
  exact kk H1 locs1 (hP2.sub pm hpm) (hD2.sub pm hpn hpx) hS1
end ROW
