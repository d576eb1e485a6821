/-! the class's search and the model's find the same -/
theorem Best.lv_eq {mv : Nat → Nat → Option Nat} {wl wa : Nat → Nat} {g K1 K2 : Nat} {lv1 lv2 : Nat → Option Nat} {cs1 cs2 : Nat → Nat} (h1 : Best mv wl wa g K1 lv1 cs1) (h2 : Best mv wl wa g K2 lv2 cs2) (p : Nat) : lv1 p = lv2 p := by
  have go : ∀ {K1 K2 : Nat} {lv1 lv2 : Nat → Option Nat} {cs1 cs2 : Nat → Nat}, Best mv wl wa g K1 lv1 cs1 → Best mv wl wa g K2 lv2 cs2 → ∀ d, lv1 p = some d → ∃ e, lv2 p = some e ∧ e ≤ d := by
    intro K1 K2 lv1 lv2 cs1 cs2 b1 b2 d hd
    obtain ⟨L, A, hW, -⟩ := b1.1 p d hd
    obtain ⟨e, he, h⟩ := b2.2 d L A p hW
    exact ⟨e, he, by omega⟩
  cases e1 : lv1 p with
  | none =>
    cases e2 : lv2 p with
    | none => rfl
    | some d =>
      obtain ⟨e, he, -⟩ := go h2 h1 d e2
      rw [e1] at he
      cases he
  | some d =>
    obtain ⟨e, he, h3⟩ := go h1 h2 d e1
    obtain ⟨f, hf, h4⟩ := go h2 h1 e he
    rw [e1] at hf
    cases hf
    rw [he]
    congr 1
    omega
theorem Best.min {mv : Nat → Nat → Option Nat} {wl wa : Nat → Nat} {g K : Nat} {lv : Nat → Option Nat} {cs : Nat → Nat} (hB : Best mv wl wa g K lv cs) {p d : Nat} (hp : lv p = some d) : ∀ j L A, Wk mv wl wa g j L A p → d ≤ j := by
  intro j L A hW
  obtain ⟨e, he, h⟩ := hB.2 j L A p hW
  rw [hp] at he
  cases he
  omega
/-- both costs are those of one way: its lengths and its arcs -/
theorem two_costs {w h r tn : Int} {ok : Int → Int → Int → Bool} (hw : w ≤ 24) (hh : h ≤ 24) (r0 : 1 ≤ r) (ht : tn = 1 ∨ tn = 2) {g : Nat} {lv : Nat → Option Nat} {cc cm : Nat → Nat} (h1 : Best (mvN w h r tn ok) (wlN r) waN g 1048576 lv cc) (h2 : Best (mvN w h r tn ok) (wlN r) waN g 100000 lv cm) {p d : Nat} (hp : lv p = some d) :
    ∃ L A, A ≤ 2400 ∧ cc p = 1048576 * L + A ∧ cm p = 100000 * L + A := by
  obtain ⟨L1, A1, w1, e1⟩ := h1.1 p d hp
  obtain ⟨L2, A2, w2, e2⟩ := h2.1 p d hp
  have b1 := arcsN hw hh r0 ht w1 (h1.min hp)
  have b2 := arcsN hw hh r0 ht w2 (h1.min hp)
  obtain ⟨d1, f1, g1⟩ := h1.2 d L2 A2 p w2
  obtain ⟨d2, f2, g2⟩ := h2.2 d L1 A1 p w1
  rw [hp] at f1 f2
  cases f1
  cases f2
  have : L1 = L2 := by omega
  subst this
  exact ⟨L1, A1, b1, e1, by omega⟩
theorem cnt_list {P : Nat → Bool} : ∀ (c i : Nat), cntN c P i = ((List.range' i c).filter P).length := by
  intro c
  induction c with
  | zero =>
    intro i
    rfl
  | succ c ih =>
    intro i
    rw [cntN, ih, List.range'_succ, List.filter_cons]
    cases P i with
    | true =>
      rw [if_pos rfl, if_pos rfl, List.length_cons]
      omega
    | false =>
      rw [if_neg (by decide), if_neg (by decide)]
      omega
theorem cnt_le_inj {P R : Nat → Bool} {Q : Nat → Nat} {n N : Nat} (hQ : ∀ i, i < n → P i = true → Q i < N ∧ R (Q i) = true) (hi : ∀ i j, i < n → j < n → Q i = Q j → i = j) : cntN n P 0 ≤ cntN N R 0 := by
  rw [cnt_list, cnt_list, ← List.length_map (f := Q)]
  refine List.Nodup.length_le_of_subset ?_ ?_
  · rw [List.nodup_iff_pairwise_ne, List.pairwise_map]
    refine List.Pairwise.imp_of_mem ?_ ((List.nodup_iff_pairwise_ne.mp (List.nodup_range' (step := 1))).filter P)
    intro a b ha hb hab e
    have ha' := List.mem_range'_1.mp (List.mem_filter.mp ha).1
    have hb' := List.mem_range'_1.mp (List.mem_filter.mp hb).1
    exact hab (hi a b (by omega) (by omega) e)
  · intro x hx
    obtain ⟨i, h1, rfl⟩ := List.mem_map.mp hx
    obtain ⟨h2, h3⟩ := List.mem_filter.mp h1
    have h2' := List.mem_range'_1.mp h2
    obtain ⟨a, b⟩ := hQ i (by omega) h3
    exact List.mem_filter.mpr ⟨List.mem_range'_1.mpr ⟨by omega, by omega⟩, b⟩
theorem cnt_inj {P R : Nat → Bool} {Q : Nat → Nat} {n N : Nat} (hQ : ∀ i, i < n → Q i < N) (hi : ∀ i j, i < n → j < n → Q i = Q j → i = j) (hPR : ∀ i, i < n → P i = R (Q i)) (hR : ∀ x, x < N → R x = true → ∃ i, i < n ∧ Q i = x) : cntN n P 0 = cntN N R 0 := by
  refine Nat.le_antisymm (cnt_le_inj (fun i h1 h2 => ⟨hQ i h1, by rw [← hPR i h1]; exact h2⟩) hi) ?_
  have hS : ∀ x, ∃ i, x < N → R x = true → i < n ∧ Q i = x := by
    intro x
    by_cases h : x < N ∧ R x = true
    · obtain ⟨i, h1, h2⟩ := hR x h.1 h.2
      exact ⟨i, fun _ _ => ⟨h1, h2⟩⟩
    · exact ⟨0, fun a b => absurd ⟨a, b⟩ h⟩
  have hS2 : ∃ S : Nat → Nat, ∀ x, x < N → R x = true → S x < n ∧ Q (S x) = x := ⟨fun x => (hS x).choose, fun x => (hS x).choose_spec⟩
  obtain ⟨S, hS3⟩ := hS2
  have : cntN N R 0 ≤ cntN n P 0 := by
    rw [cnt_list, cnt_list, ← List.length_map (f := S)]
    refine List.Nodup.length_le_of_subset ?_ ?_
    · rw [List.nodup_iff_pairwise_ne, List.pairwise_map]
      refine List.Pairwise.imp_of_mem ?_ ((List.nodup_iff_pairwise_ne.mp (List.nodup_range' (step := 1))).filter R)
      intro a b ha hb hab e
      have ha1 := List.mem_filter.mp ha
      have hb1 := List.mem_filter.mp hb
      have ha' := List.mem_range'_1.mp ha1.1
      have hb' := List.mem_range'_1.mp hb1.1
      have h1 := (hS3 a (by omega) ha1.2).2
      have h2 := (hS3 b (by omega) hb1.2).2
      rw [e] at h1
      exact hab (h1.symm.trans h2)
    · intro x hx
      obtain ⟨i, h1, rfl⟩ := List.mem_map.mp hx
      obtain ⟨h2, h3⟩ := List.mem_filter.mp h1
      have h2' := List.mem_range'_1.mp h2
      obtain ⟨a, b⟩ := hS3 i (by omega) h3
      exact List.mem_filter.mpr ⟨List.mem_range'_1.mpr ⟨by omega, by omega⟩, by rw [hPR _ a, b]; exact h3⟩
  exact this
section AGREE
variable {w h r tn : Int} {ok : Int → Int → Int → Bool} {g : Nat} {Q : Nat → Nat} {nn : Nat} {lv lw : Nat → Option Nat} {cc cm : Nat → Nat}
theorem ag_lv (hD : DC w h r tn ok g Q nn lv cc) (hM : DM w h r tn ok g lw cm) : lw = lv := by
  funext p
  cases e : gO w h ok (nX g) (nY g) (nD g) with
  | true => exact (hM.2.2.1 e).lv_eq (hD.2.2.2.2.2.2.1 e) p
  | false => rw [hM.2.2.2 e p, hD.2.2.2.2.2.2.2 e p]
theorem ag_cost (hw : w ≤ 24) (hh : h ≤ 24) (r0 : 1 ≤ r) (ht : tn = 1 ∨ tn = 2) (hD : DC w h r tn ok g Q nn lv cc) (hM : DM w h r tn ok g lv cm) {p d : Nat} (hp : lv p = some d) : ∃ L A, A ≤ 2400 ∧ cc p = 1048576 * L + A ∧ cm p = 100000 * L + A := by
  cases e : gO w h ok (nX g) (nY g) (nD g) with
  | true => exact two_costs hw hh r0 ht (hD.2.2.2.2.2.2.1 e) (hM.2.2.1 e) hp
  | false =>
    rw [hM.2.2.2 e p] at hp
    cases hp
theorem ag_cnt (hw : w ≤ 24) (hh : h ≤ 24) (r0 : 1 ≤ r) (ht : tn = 1 ∨ tn = 2) (hD : DC w h r tn ok g Q nn lv cc) (hM : DM w h r tn ok g lv cm) (c : Nat) : cntN nn (befC Q lv cc c) 0 = cntN 4608 (befM lv cm c) 0 ∧ (lv c = none → nn = cntN 4608 (befM lv cm c) 0) := by
  have hsz := hD.2.2.2.2.1
  have hQN : ∀ i, i < nn → Q i < 4608 := by
    intro i hi
    have := inF_lt (hD.1 i hi).1
    omega
  have hR : ∀ x, x < 4608 → befM lv cm c x = true → ∃ i, i < nn ∧ Q i = x := by
    intro x _ hx
    refine hD.2.2.2.1 x ?_
    intro e
    unfold befM at hx
    rw [e] at hx
    cases hx
  have hbe : ∀ i, i < nn → befC Q lv cc c i = befM lv cm c (Q i) := by
    intro i hi
    cases e : lv (Q i) with
    | none => exact absurd e (hD.2.2.1 i hi)
    | some d =>
      obtain ⟨L1, A1, a1, a2, a3⟩ := ag_cost hw hh r0 ht hD hM e
      have hb1 := hD.2.2.2.2.2.1 _ _ e
      have hM1 := hM.2.1 _ _ e
      unfold befC befM
      rw [e]
      dsimp only
      rw [ccI_s e, decide_eq_decide]
      cases ec : lv c with
      | none =>
        rw [ccI_n ec, faV_n ec]
        have hne : Q i ≠ c := fun q => by rw [q, ec] at e; cases e
        constructor
        · intro _
          exact ⟨hne, Or.inl (by omega)⟩
        · intro _
          exact Or.inl (by omega)
      | some dc =>
        obtain ⟨L2, A2, b1, b2, b3⟩ := ag_cost hw hh r0 ht hD hM ec
        have hb2 := hD.2.2.2.2.2.1 _ _ ec
        rw [ccI_s ec, faV_s ec]
        have hne : Q i = c → (d = dc ∧ L1 = L2 ∧ A1 = A2) := by
          intro q
          rw [q, ec] at e
          cases e
          rw [q] at a2
          exact ⟨rfl, by omega, by omega⟩
        constructor
        · intro q
          refine ⟨fun z => ?_, ?_⟩
          · have := hne z
            omega
          · omega
        · intro q
          have := q.2
          omega
  have h1 := cnt_inj hQN hD.2.1 hbe hR
  refine ⟨h1, fun hn => ?_⟩
  have h2 : cntN nn (fun _ => true) 0 = cntN 4608 (befM lv cm c) 0 := by
    refine cnt_inj hQN hD.2.1 (fun i hi => ?_) hR
    rw [← hbe i hi]
    cases e : lv (Q i) with
    | none => exact absurd e (hD.2.2.1 i hi)
    | some d =>
      have hb1 := hD.2.2.2.2.2.1 _ _ e
      unfold befC
      rw [ccI_s e, ccI_n hn]
      exact (decide_eq_true (Or.inl (by omega))).symm
  have h3 : ∀ c i, cntN c (fun _ => true) i = c := by
    intro c
    induction c with
    | zero =>
      intro i
      rfl
    | succ c ih =>
      intro i
      rw [cntN, ih, if_pos rfl]
      omega
  rw [h3] at h2
  exact h2
theorem ag_ld (hw : w ≤ 24) (hh : h ≤ 24) (r0 : 1 ≤ r) (r4 : r ≤ 4) (ht : tn = 1 ∨ tn = 2) (hD : DC w h r tn ok g Q nn lv cc) (hM : DM w h r tn ok g lv cm) {p d m : Nat} (hp : lv p = some d) : ldC w h r tn ok lv cc p m = ldM w h r tn ok lv cm p m := by
  obtain ⟨L1, A1, a1, a2, a3⟩ := ag_cost hw hh r0 ht hD hM hp
  have hsz := hD.2.2.2.2.1
  have hb1 := hD.2.2.2.2.2.1 _ _ hp
  have hM1 := hM.2.1 _ _ hp
  have hwm := wl_b r4 m
  unfold ldC ldM
  cases hmv : mvN w h r tn ok p m with
  | none => rfl
  | some q =>
    dsimp only
    rw [ccI_s hp, faV_s hp, decide_eq_decide]
    cases hq : lv q with
    | none =>
      rw [ccI_n hq, faV_n hq]
      constructor <;> intro z <;> omega
    | some e =>
      obtain ⟨L2, A2, b1, b2, b3⟩ := ag_cost hw hh r0 ht hD hM hq
      have hb2 := hD.2.2.2.2.2.1 _ _ hq
      rw [ccI_s hq, faV_s hq]
      generalize hwl : wlN r m = wl at hwm ⊢
      generalize hwa : waN m = wa at hwm ⊢
      constructor <;> intro z <;> omega
theorem fsM_congr {b1 b2 : Nat → Bool} (hb : ∀ m, b1 m = b2 m) : ∀ c m, fsM c b1 m = fsM c b2 m := by
  intro c
  induction c with
  | zero =>
    intro m
    rfl
  | succ c ih =>
    intro m
    rw [fsM, fsM, hb, ih]
theorem ag_way (hw : w ≤ 24) (hh : h ≤ 24) (r0 : 1 ≤ r) (r4 : r ≤ 4) (ht : tn = 1 ∨ tn = 2) (hD : DC w h r tn ok g Q nn lv cc) (hM : DM w h r tn ok g lv cm) {c d : Nat} {P M : Nat → Nat} (hc : lv c = some d) (hW : WayN w h r tn ok (ldC w h r tn ok lv cc) c g d P M) :
    (∀ i, i ≤ d → lv (P i) = some (d - i)) ∧ WayN w h r tn ok (ldM w h r tn ok lv cm) c g d P M := by
  obtain ⟨w1, w2, w3, w4⟩ := hW
  have hsz := hD.2.2.2.2.1
  have hgo : gO w h ok (nX g) (nY g) (nD g) = true := by
    cases e : gO w h ok (nX g) (nY g) (nD g) with
    | true => rfl
    | false =>
      rw [hM.2.2.2 e c] at hc
      cases hc
  obtain ⟨-, l2⟩ := lds_ok hw r0 r4 (hD.2.2.2.2.2.2.1 hgo) (fun p d hp => by have := hD.2.2.2.2.2.1 p d hp; omega)
  have hl : ∀ i, i ≤ d → lv (P i) = some (d - i) := by
    intro i
    induction i with
    | zero =>
      intro _
      rw [w1]
      exact hc
    | succ i ih =>
      intro hi
      have h1 := ih (by omega)
      obtain ⟨hfs, hmv⟩ := w4 i (by omega)
      obtain ⟨-, -, hb⟩ := fsM_some 6 0 (M i) hfs
      rw [show d - i = (d - (i + 1)) + 1 by omega] at h1
      obtain ⟨q, q1, q2, -⟩ := l2 (P i) _ (M i) h1 hb
      rw [hmv] at q1
      cases q1
      exact q2
  refine ⟨hl, w1, w2, w3, fun i hi => ⟨?_, (w4 i hi).2⟩⟩
  rw [← (w4 i hi).1]
  exact (fsM_congr (fun m => ag_ld hw hh r0 r4 ht hD hM (hl i (by omega))) 6 0).symm
end AGREE
