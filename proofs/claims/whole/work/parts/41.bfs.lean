/-! breadth-first search over a graph of six moves, each undone by another of the same weight -/
def tIv (m : Nat) : Nat := if m < 2 then 1 - m else 7 - m
theorem tIv_lt {m : Nat} (h : m < 6) : tIv m < 6 := by
  unfold tIv
  split <;> omega
theorem tIv_inv {m : Nat} (h : m < 6) : tIv (tIv m) = m := by
  unfold tIv
  split <;> split <;> omega
/-- a walk to the goal g: how many moves, their lengths' sum, how many arcs, from where -/
def Wk (mv : Nat → Nat → Option Nat) (wl wa : Nat → Nat) (g : Nat) : Nat → Nat → Nat → Nat → Prop
  | 0, L, A, p => p = g ∧ L = 0 ∧ A = 0
  | k + 1, L, A, p => ∃ (m q L1 A1 : Nat), m < 6 ∧ mv p m = some q ∧ Wk mv wl wa g k L1 A1 q ∧ L = L1 + wl m ∧ A = A1 + wa m
/-- what holds while place number k of the row Q (of n places) is looked at, its moves dn done -/
def BInv (mv : Nat → Nat → Option Nat) (wl wa : Nat → Nat) (g K N : Nat) (Q : Nat → Nat) (n k : Nat) (dn : Nat → Prop) (lv : Nat → Option Nat) (cs : Nat → Nat) : Prop :=
  (k ≤ n ∧ 0 < n ∧ Q 0 = g ∧ lv g = some 0) ∧
  (∀ i, i < n → Q i < N ∧ ∃ d, lv (Q i) = some d ∧ d ≤ i) ∧
  (∀ i j, i < n → j < n → Q i = Q j → i = j) ∧
  (∀ p d, lv p = some d → ∃ i, i < n ∧ Q i = p) ∧
  (∀ i j d e, i ≤ j → j < n → lv (Q i) = some d → lv (Q j) = some e → d ≤ e) ∧
  (∀ j d e, j < n → k < n → lv (Q k) = some d → lv (Q j) = some e → e ≤ d + 1) ∧
  (∀ p d, lv p = some d → ∃ L A, Wk mv wl wa g d L A p ∧ cs p = K * L + A) ∧
  (∀ i m p d, (i < k ∨ (i = k ∧ k < n ∧ dn m)) → m < 6 → mv (Q i) m = some p → lv (Q i) = some d → ∃ e, lv p = some e ∧ e ≤ d + 1 ∧ (e = d + 1 → cs p ≤ cs (Q i) + (K * wl m + wa m)))
/-- the least moves and the least weight among those -/
def Best (mv : Nat → Nat → Option Nat) (wl wa : Nat → Nat) (g K : Nat) (lv : Nat → Option Nat) (cs : Nat → Nat) : Prop :=
  (∀ p d, lv p = some d → ∃ L A, Wk mv wl wa g d L A p ∧ cs p = K * L + A) ∧
  (∀ k L A p, Wk mv wl wa g k L A p → ∃ d, lv p = some d ∧ (d < k ∨ (d = k ∧ cs p ≤ K * L + A)))
section BFS
variable {mv : Nat → Nat → Option Nat} {wl wa : Nat → Nat} {g K N : Nat} {Q : Nat → Nat} {n k : Nat} {dn : Nat → Prop} {lv : Nat → Option Nat} {cs : Nat → Nat}
theorem BInv.start (hg : g < N) : BInv mv wl wa g K N (fun _ => g) 1 0 (fun _ => False) (fun x => if x = g then some 0 else none) (fun _ => 0) := by
  refine ⟨⟨by omega, by omega, rfl, by simp⟩, ?_, ?_, ?_, ?_, ?_, ?_, ?_⟩
  · intro i _
    exact ⟨hg, 0, by simp, by omega⟩
  · intro i j hi hj _
    omega
  · intro p d h
    refine ⟨0, by omega, ?_⟩
    by_cases hp : p = g
    · exact hp.symm
    · dsimp only at h
      rw [if_neg hp] at h
      cases h
  · intro i j d e _ _ h1 h2
    simp at h1 h2
    omega
  · intro j d e _ _ h1 h2
    simp at h1 h2
    omega
  · intro p d h
    by_cases hp : p = g
    · dsimp only at h
      rw [if_pos hp] at h
      cases h
      exact ⟨0, 0, ⟨hp, rfl, rfl⟩, by simp⟩
    · dsimp only at h
      rw [if_neg hp] at h
      cases h
  · intro i m p d h
    rcases h with h | ⟨_, _, h⟩
    · omega
    · exact h.elim
theorem BInv.level (hI : BInv mv wl wa g K N Q n k dn lv cs) {i : Nat} (hi : i < n) : ∃ d, lv (Q i) = some d ∧ d ≤ i := (hI.2.1 i hi).2
/-- a move that can't be made -/
theorem BInv.skip (hI : BInv mv wl wa g K N Q n k dn lv cs) {m : Nat} (hmv : mv (Q k) m = none) : BInv mv wl wa g K N Q n k (fun x => dn x ∨ x = m) lv cs := by
  obtain ⟨h1, h2, h3, h4, h5, h6, h7, h8⟩ := hI
  refine ⟨h1, h2, h3, h4, h5, h6, h7, ?_⟩
  intro i x p d h hx hp hd
  rcases h with h | ⟨rfl, hk, h | rfl⟩
  · exact h8 i x p d (Or.inl h) hx hp hd
  · exact h8 i x p d (Or.inr ⟨rfl, hk, h⟩) hx hp hd
  · rw [hmv] at hp
    cases hp
/-- a move to a place that was had before, with no more moves -/
theorem BInv.old (hI : BInv mv wl wa g K N Q n k dn lv cs) {m p d e : Nat} (hmv : mv (Q k) m = some p) (hd : lv (Q k) = some d) (he : lv p = some e) (hle : e ≤ d) : BInv mv wl wa g K N Q n k (fun x => dn x ∨ x = m) lv cs := by
  obtain ⟨h1, h2, h3, h4, h5, h6, h7, h8⟩ := hI
  refine ⟨h1, h2, h3, h4, h5, h6, h7, ?_⟩
  intro i x q d' h hx hq hd'
  rcases h with h | ⟨rfl, hk, h | rfl⟩
  · exact h8 i x q d' (Or.inl h) hx hq hd'
  · exact h8 i x q d' (Or.inr ⟨rfl, hk, h⟩) hx hq hd'
  · rw [hmv] at hq
    cases hq
    rw [hd] at hd'
    cases hd'
    exact ⟨e, he, by omega, by omega⟩
/-- a move to a new place -/
theorem BInv.new (hsym : ∀ p m q, m < 6 → mv p m = some q → mv q (tIv m) = some p) (hwl : ∀ m, m < 6 → wl (tIv m) = wl m) (hwa : ∀ m, m < 6 → wa (tIv m) = wa m)
    (hI : BInv mv wl wa g K N Q n k dn lv cs) (hk : k < n) {m p d : Nat} (hm : m < 6) (hmv : mv (Q k) m = some p) (hd : lv (Q k) = some d) (hp : lv p = none) (hN : p < N) :
    BInv mv wl wa g K N (fun i => if i = n then p else Q i) (n + 1) k (fun x => dn x ∨ x = m) (fun x => if x = p then some (d + 1) else lv x) (fun x => if x = p then cs (Q k) + (K * wl m + wa m) else cs x) := by
  obtain ⟨h1, h2, h3, h4, h5, h6, h7, h8⟩ := hI
  have hdk : d ≤ k := by
    obtain ⟨d', e1, e2⟩ := (h2 k hk).2
    rw [hd] at e1
    cases e1
    exact e2
  have hQp : ∀ i, i < n → Q i ≠ p := by
    intro i hi e
    obtain ⟨d', e1, _⟩ := (h2 i hi).2
    rw [e, hp] at e1
    cases e1
  have hgp : g ≠ p := by
    intro e
    rw [← e, h1.2.2.2] at hp
    cases hp
  have hQ : ∀ i, i < n → (if i = n then p else Q i) = Q i := fun i hi => if_neg (by omega)
  have hlo : ∀ i, i < n → (if Q i = p then some (d + 1) else lv (Q i)) = lv (Q i) := fun i hi => if_neg (hQp i hi)
  refine ⟨⟨by omega, by omega, ?_, ?_⟩, ?_, ?_, ?_, ?_, ?_, ?_, ?_⟩
  · show (if 0 = n then p else Q 0) = g
    rw [hQ 0 (by omega)]
    exact h1.2.2.1
  · show (if g = p then some (d + 1) else lv g) = some 0
    rw [if_neg hgp]
    exact h1.2.2.2
  · intro i hi
    show (if i = n then p else Q i) < N ∧ ∃ d', (if (if i = n then p else Q i) = p then some (d + 1) else lv (if i = n then p else Q i)) = some d' ∧ d' ≤ i
    by_cases e : i = n
    · rw [if_pos e, if_pos rfl]
      exact ⟨hN, d + 1, rfl, by omega⟩
    · have hi' : i < n := by omega
      rw [hQ i hi', hlo i hi']
      exact h2 i hi'
  · intro i j hi hj
    show (if i = n then p else Q i) = (if j = n then p else Q j) → i = j
    by_cases e1 : i = n <;> by_cases e2 : j = n
    · intro _
      omega
    · rw [if_pos e1, if_neg e2]
      intro e
      exact absurd e.symm (hQp j (by omega))
    · rw [if_neg e1, if_pos e2]
      intro e
      exact absurd e (hQp i (by omega))
    · rw [if_neg e1, if_neg e2]
      exact h3 i j (by omega) (by omega)
  · intro q d'
    show (if q = p then some (d + 1) else lv q) = some d' → ∃ i, i < n + 1 ∧ (if i = n then p else Q i) = q
    by_cases e : q = p
    · intro _
      exact ⟨n, by omega, by rw [if_pos rfl, e]⟩
    · rw [if_neg e]
      intro h
      obtain ⟨i, hi, hq⟩ := h4 q d' h
      exact ⟨i, by omega, by rw [hQ i hi, hq]⟩
  · intro i j d1 e1 hij hj
    show (if (if i = n then p else Q i) = p then some (d + 1) else lv (if i = n then p else Q i)) = some d1 → (if (if j = n then p else Q j) = p then some (d + 1) else lv (if j = n then p else Q j)) = some e1 → d1 ≤ e1
    by_cases ej : j = n
    · rw [if_pos ej, if_pos rfl]
      by_cases ei : i = n
      · rw [if_pos ei, if_pos rfl]
        intro a b
        cases a
        cases b
        omega
      · have hi : i < n := by omega
        rw [hQ i hi, hlo i hi]
        intro a b
        cases b
        exact h6 i d d1 hi hk hd a
    · have hj' : j < n := by omega
      have hi' : i < n := by omega
      rw [hQ i hi', hlo i hi', hQ j hj', hlo j hj']
      exact h5 i j d1 e1 hij hj'
  · intro j d1 e1 hj _
    show (if (if k = n then p else Q k) = p then some (d + 1) else lv (if k = n then p else Q k)) = some d1 → (if (if j = n then p else Q j) = p then some (d + 1) else lv (if j = n then p else Q j)) = some e1 → e1 ≤ d1 + 1
    rw [hQ k hk, hlo k hk, hd]
    by_cases ej : j = n
    · rw [if_pos ej, if_pos rfl]
      intro a b
      cases a
      cases b
      omega
    · have hj' : j < n := by omega
      rw [hQ j hj', hlo j hj']
      intro a b
      cases a
      exact h6 j d e1 hj' hk hd b
  · intro q d'
    show (if q = p then some (d + 1) else lv q) = some d' → ∃ L A, Wk mv wl wa g d' L A q ∧ (if q = p then cs (Q k) + (K * wl m + wa m) else cs q) = K * L + A
    by_cases e : q = p
    · rw [if_pos e, if_pos e]
      intro h
      cases h
      obtain ⟨L, A, w1, w2⟩ := h7 (Q k) d hd
      refine ⟨L + wl m, A + wa m, ?_, ?_⟩
      · rw [e]
        exact ⟨tIv m, Q k, L, A, tIv_lt hm, hsym _ _ _ hm hmv, w1, by rw [hwl m hm], by rw [hwa m hm]⟩
      · rw [w2, Nat.mul_add]
        omega
    · rw [if_neg e, if_neg e]
      exact h7 q d'
  · intro i x q d' h hx
    show mv (if i = n then p else Q i) x = some q → (if (if i = n then p else Q i) = p then some (d + 1) else lv (if i = n then p else Q i)) = some d' → ∃ e, (if q = p then some (d + 1) else lv q) = some e ∧ e ≤ d' + 1 ∧ (e = d' + 1 → (if q = p then cs (Q k) + (K * wl m + wa m) else cs q) ≤ (if (if i = n then p else Q i) = p then cs (Q k) + (K * wl m + wa m) else cs (if i = n then p else Q i)) + (K * wl x + wa x))
    have hi : i < n := by
      rcases h with h | ⟨h, _, _⟩ <;> omega
    rw [hQ i hi, hlo i hi, if_neg (hQp i hi)]
    intro hq hd'
    by_cases hnew : i = k ∧ x = m
    · obtain ⟨rfl, rfl⟩ := hnew
      rw [hmv] at hq
      cases hq
      rw [hd] at hd'
      cases hd'
      refine ⟨d + 1, by rw [if_pos rfl], by omega, fun _ => ?_⟩
      rw [if_pos rfl]
      exact Nat.le_refl _
    · have hold : i < k ∨ (i = k ∧ k < n ∧ dn x) := by
        rcases h with h | ⟨h, _, h' | h'⟩
        · exact Or.inl h
        · exact Or.inr ⟨h, hk, h'⟩
        · exact absurd ⟨h, h'⟩ hnew
      obtain ⟨e, a1, a2, a3⟩ := h8 i x q d' hold hx hq hd'
      have hqp : q ≠ p := by
        intro e'
        rw [e', hp] at a1
        cases a1
      rw [if_neg hqp, if_neg hqp]
      exact ⟨e, a1, a2, a3⟩
/-- a move to a place of the next level: the less weight stays -/
theorem BInv.low (hsym : ∀ p m q, m < 6 → mv p m = some q → mv q (tIv m) = some p) (hwl : ∀ m, m < 6 → wl (tIv m) = wl m) (hwa : ∀ m, m < 6 → wa (tIv m) = wa m)
    (hI : BInv mv wl wa g K N Q n k dn lv cs) (hk : k < n) {m p d : Nat} (hm : m < 6) (hmv : mv (Q k) m = some p) (hd : lv (Q k) = some d) (hp : lv p = some (d + 1)) {c : Nat} (hc : c = cs (Q k) + (K * wl m + wa m)) :
    BInv mv wl wa g K N Q n k (fun x => dn x ∨ x = m) lv (fun x => if x = p then (if c < cs p then c else cs p) else cs x) := by
  obtain ⟨h1, h2, h3, h4, h5, h6, h7, h8⟩ := hI
  have hkp : ∀ i d', i ≤ k → lv (Q i) = some d' → Q i ≠ p := by
    intro i d' hi hd' e
    have := h5 i k d' d hi hk hd' hd
    rw [e, hp] at hd'
    cases hd'
    omega
  refine ⟨h1, h2, h3, h4, h5, h6, ?_, ?_⟩
  · intro q d' hq
    show ∃ L A, Wk mv wl wa g d' L A q ∧ (if q = p then (if c < cs p then c else cs p) else cs q) = K * L + A
    by_cases e : q = p
    · rw [if_pos e]
      by_cases hcc : c < cs p
      · rw [if_pos hcc]
        obtain ⟨L, A, w1, w2⟩ := h7 (Q k) d hd
        rw [e, hp] at hq
        cases hq
        refine ⟨L + wl m, A + wa m, ?_, ?_⟩
        · rw [e]
          exact ⟨tIv m, Q k, L, A, tIv_lt hm, hsym _ _ _ hm hmv, w1, by rw [hwl m hm], by rw [hwa m hm]⟩
        · rw [hc, w2, Nat.mul_add]
          omega
      · rw [if_neg hcc]
        subst e
        exact h7 q d' hq
    · rw [if_neg e]
      exact h7 q d' hq
  · intro i x q d' h hx hq hd'
    show ∃ e, lv q = some e ∧ e ≤ d' + 1 ∧ (e = d' + 1 → (if q = p then (if c < cs p then c else cs p) else cs q) ≤ (if Q i = p then (if c < cs p then c else cs p) else cs (Q i)) + (K * wl x + wa x))
    have hik : i ≤ k := by
      rcases h with h | ⟨h, _, _⟩ <;> omega
    rw [if_neg (hkp i d' hik hd')]
    by_cases hnew : i = k ∧ x = m
    · obtain ⟨rfl, rfl⟩ := hnew
      rw [hmv] at hq
      cases hq
      rw [hd] at hd'
      cases hd'
      refine ⟨d + 1, hp, by omega, fun _ => ?_⟩
      rw [if_pos rfl, ← hc]
      split <;> omega
    · have hold : i < k ∨ (i = k ∧ k < n ∧ dn x) := by
        rcases h with h | ⟨h, _, h' | h'⟩
        · exact Or.inl h
        · exact Or.inr ⟨h, hk, h'⟩
        · exact absurd ⟨h, h'⟩ hnew
      obtain ⟨e, a1, a2, a3⟩ := h8 i x q d' hold hx hq hd'
      refine ⟨e, a1, a2, fun h => ?_⟩
      have h3 := a3 h
      by_cases hqp : q = p
      · rw [if_pos hqp]
        rw [hqp] at h3
        split <;> omega
      · rw [if_neg hqp]
        exact h3
theorem BInv.next (hI : BInv mv wl wa g K N Q n k dn lv cs) (hk : k < n) (hdn : ∀ m, m < 6 → dn m) (dn' : Nat → Prop) (hdn' : ∀ m, ¬ dn' m) : BInv mv wl wa g K N Q n (k + 1) dn' lv cs := by
  obtain ⟨h1, h2, h3, h4, h5, h6, h7, h8⟩ := hI
  refine ⟨⟨by omega, h1.2⟩, h2, h3, h4, h5, ?_, h7, ?_⟩
  · intro j d e hj hk1 hd he
    obtain ⟨dk, a1, _⟩ := (h2 k hk).2
    have b1 := h6 j dk e hj hk a1 he
    have b2 := h5 k (k + 1) dk d (by omega) hk1 a1 hd
    omega
  · intro i m p d h hm
    rcases h with h | ⟨_, _, h⟩
    · by_cases e : i = k
      · exact h8 i m p d (Or.inr ⟨e, hk, hdn m hm⟩) hm
      · exact h8 i m p d (Or.inl (by omega)) hm
    · exact absurd h (hdn' m)
/-- no way with at most the level's moves is missed -/
theorem BInv.reach (hsym : ∀ p m q, m < 6 → mv p m = some q → mv q (tIv m) = some p) (hI : BInv mv wl wa g K N Q n k dn lv cs) (hk : k < n) {d : Nat} (hd : lv (Q k) = some d) :
    ∀ j L A x, Wk mv wl wa g j L A x → j ≤ d → ∃ e, lv x = some e ∧ e ≤ j := by
  obtain ⟨h1, h2, h3, h4, h5, h6, h7, h8⟩ := hI
  intro j
  induction j with
  | zero =>
    intro L A x hW _
    exact ⟨0, by rw [hW.1]; exact h1.2.2.2, by omega⟩
  | succ j ih =>
    intro L A x hW hj
    obtain ⟨m, q, L1, A1, hm, hmv, hW', -, -⟩ := hW
    obtain ⟨e, a1, a2⟩ := ih L1 A1 q hW' (by omega)
    obtain ⟨i, hi, rfl⟩ := h4 q e a1
    have hik : i < k := by
      rcases Nat.lt_or_ge i k with h | h
      · exact h
      · have := h5 k i d e h hi hd a1
        omega
    obtain ⟨e', b1, b2, -⟩ := h8 i (tIv m) x e (Or.inl hik) (tIv_lt hm) (hsym _ _ _ hm hmv) a1
    exact ⟨e', b1, by omega⟩
theorem BInv.geod (hsym : ∀ p m q, m < 6 → mv p m = some q → mv q (tIv m) = some p) (hI : BInv mv wl wa g K N Q n k dn lv cs) (hk : k < n) {d p : Nat} (hd : lv (Q k) = some d) (hp : ∀ e, lv p = some e → d < e) :
    ∀ j L A, Wk mv wl wa g j L A p → d + 1 ≤ j := by
  intro j L A hW
  rcases Nat.lt_or_ge d j with h | h
  · exact h
  · obtain ⟨e, a1, a2⟩ := hI.reach hsym hk hd j L A p hW h
    have := hp e a1
    omega
theorem BInv.best (hsym : ∀ p m q, m < 6 → mv p m = some q → mv q (tIv m) = some p) (hwl : ∀ m, m < 6 → wl (tIv m) = wl m) (hwa : ∀ m, m < 6 → wa (tIv m) = wa m) (hI : BInv mv wl wa g K N Q n n dn lv cs) : Best mv wl wa g K lv cs := by
  obtain ⟨h1, h2, h3, h4, h5, h6, h7, h8⟩ := hI
  refine ⟨h7, ?_⟩
  intro j
  induction j with
  | zero =>
    intro L A p hW
    obtain ⟨rfl, rfl, rfl⟩ := hW
    obtain ⟨L, A, w1, w2⟩ := h7 p 0 h1.2.2.2
    obtain ⟨-, rfl, rfl⟩ := w1
    exact ⟨0, h1.2.2.2, Or.inr ⟨rfl, by omega⟩⟩
  | succ j ih =>
    intro L A p hW
    obtain ⟨m, q, L1, A1, hm, hmv, hW', hL, hA⟩ := hW
    obtain ⟨d, a1, a2⟩ := ih L1 A1 q hW'
    obtain ⟨i, hi, rfl⟩ := h4 q d a1
    obtain ⟨e, b1, b2, b3⟩ := h8 i (tIv m) p d (Or.inl hi) (tIv_lt hm) (hsym _ _ _ hm hmv) a1
    refine ⟨e, b1, ?_⟩
    rcases a2 with a2 | ⟨a2, a3⟩
    · exact Or.inl (by omega)
    · rcases Nat.lt_or_ge e (j + 1) with h | h
      · exact Or.inl h
      · have he : e = d + 1 := by omega
        have b4 := b3 he
        rw [hwl m hm, hwa m hm] at b4
        refine Or.inr ⟨by omega, ?_⟩
        rw [hL, hA, Nat.mul_add]
        omega
theorem inj_le {Q : Nat → Nat} {n N : Nat} (hN : ∀ i, i < n → Q i < N) (hi : ∀ i j, i < n → j < n → Q i = Q j → i = j) : n ≤ N := by
  have hnd : ((List.range n).map Q).Nodup := by
    rw [List.nodup_iff_pairwise_ne, List.pairwise_map]
    refine List.Pairwise.imp_of_mem ?_ (List.nodup_iff_pairwise_ne.mp List.nodup_range)
    intro a b ha hb hab e
    exact hab (hi a b (List.mem_range.mp ha) (List.mem_range.mp hb) e)
  have hsub : ((List.range n).map Q) ⊆ List.range N := by
    intro x hx
    obtain ⟨i, h1, rfl⟩ := List.mem_map.mp hx
    exact List.mem_range.mpr (hN i (List.mem_range.mp h1))
  have := hnd.length_le_of_subset hsub
  simpa using this
theorem BInv.size (hI : BInv mv wl wa g K N Q n k dn lv cs) : n ≤ N := inj_le (fun i hi => (hI.2.1 i hi).1) hI.2.2.1
/-- the levels are below the number of places -/
theorem BInv.lvlt (hI : BInv mv wl wa g K N Q n k dn lv cs) {p d : Nat} (h : lv p = some d) : d < n := by
  obtain ⟨i, hi, rfl⟩ := hI.2.2.2.1 p d h
  obtain ⟨e, a1, a2⟩ := hI.level hi
  rw [h] at a1
  cases a1
  omega
end BFS
/-! a way with the fewest moves has no two arcs that begin at one key -/
section ARCS
variable {mv : Nat → Nat → Option Nat} {wl wa : Nat → Nat} {g : Nat}
def Geod (mv : Nat → Nat → Option Nat) (wl wa : Nat → Nat) (g d p : Nat) : Prop := (∃ L A, Wk mv wl wa g d L A p) ∧ ∀ j L A, Wk mv wl wa g j L A p → d ≤ j
theorem arcs_keys (key : Nat → Nat) (hwa : ∀ m, m < 6 → wa m = if m < 2 then 0 else 1)
    (hkey : ∀ p q m1 m2 r1 r2, p ≠ q → key p = key q → m1 < 6 → m2 < 6 → mv p m1 = some r1 → mv q m2 = some r2 → ∃ m, m < 2 ∧ mv p m = some q)
    (harc : ∀ p q m m2, m < 2 → 2 ≤ m2 → m2 < 6 → mv p m = some q → mv p m2 = some q → False) :
    ∀ d L A p, Wk mv wl wa g d L A p → (∀ j L' A', Wk mv wl wa g j L' A' p → d ≤ j) →
      ∃ l : List Nat, l.length = A ∧ (l.map key).Nodup ∧ ∀ x ∈ l, ∃ i, i ≤ d ∧ Geod mv wl wa g i x ∧ (i = d → x = p) ∧ ∃ m r, m < 6 ∧ mv x m = some r := by
  intro d
  induction d with
  | zero =>
    intro L A p hW _
    obtain ⟨-, -, rfl⟩ := hW
    exact ⟨[], rfl, by simp, by simp⟩
  | succ d ih =>
    intro L A p hW hmin
    obtain ⟨m, q, L1, A1, hm, hmv, hW', hL, hA⟩ := id hW
    have hminq : ∀ j L' A', Wk mv wl wa g j L' A' q → d ≤ j := by
      intro j L' A' h
      have := hmin (j + 1) (L' + wl m) (A' + wa m) ⟨m, q, L', A', hm, hmv, h, rfl, rfl⟩
      omega
    obtain ⟨l, l1, l2, l3⟩ := ih L1 A1 q hW' hminq
    have hgp : Geod mv wl wa g (d + 1) p := ⟨⟨L, A, hW⟩, hmin⟩
    by_cases h2 : m < 2
    · refine ⟨l, by rw [l1, hA, hwa m hm, if_pos h2]; omega, l2, ?_⟩
      intro x hx
      obtain ⟨i, a1, a2, -, a4⟩ := l3 x hx
      exact ⟨i, by omega, a2, by omega, a4⟩
    · refine ⟨p :: l, by rw [List.length_cons, l1, hA, hwa m hm, if_neg h2], ?_, ?_⟩
      · rw [List.map_cons, List.nodup_cons]
        refine ⟨?_, l2⟩
        intro hin
        obtain ⟨x, hx, hkx⟩ := List.mem_map.mp hin
        obtain ⟨i, a1, a2, a3, m', r, b1, b2⟩ := l3 x hx
        have hpx : p ≠ x := by
          intro e
          subst e
          obtain ⟨⟨L', A', w⟩, -⟩ := a2
          have := hmin i L' A' w
          omega
        obtain ⟨m1, c1, c2⟩ := hkey p x m m' q r hpx hkx.symm hm b1 hmv b2
        obtain ⟨⟨L', A', w⟩, -⟩ := a2
        have hle := hmin (i + 1) (L' + wl m1) (A' + wa m1) ⟨m1, x, L', A', by omega, c2, w, rfl, rfl⟩
        have hid : i = d := by omega
        have hxq := a3 hid
        subst hxq
        exact harc p x m1 m c1 (by omega) hm c2 hmv
      · intro x hx
        rcases List.mem_cons.mp hx with rfl | hx
        · exact ⟨d + 1, by omega, hgp, fun _ => rfl, m, q, hm, hmv⟩
        · obtain ⟨i, a1, a2, -, a4⟩ := l3 x hx
          exact ⟨i, by omega, a2, by omega, a4⟩
theorem arcs_le (key : Nat → Nat) (B : Nat) (hwa : ∀ m, m < 6 → wa m = if m < 2 then 0 else 1)
    (hkB : ∀ p m r, m < 6 → mv p m = some r → key p < B)
    (hkey : ∀ p q m1 m2 r1 r2, p ≠ q → key p = key q → m1 < 6 → m2 < 6 → mv p m1 = some r1 → mv q m2 = some r2 → ∃ m, m < 2 ∧ mv p m = some q)
    (harc : ∀ p q m m2, m < 2 → 2 ≤ m2 → m2 < 6 → mv p m = some q → mv p m2 = some q → False)
    {d L A p : Nat} (hW : Wk mv wl wa g d L A p) (hmin : ∀ j L' A', Wk mv wl wa g j L' A' p → d ≤ j) : A ≤ B := by
  obtain ⟨l, l1, l2, l3⟩ := arcs_keys key hwa hkey harc d L A p hW hmin
  have hsub : l.map key ⊆ List.range B := by
    intro x hx
    obtain ⟨y, hy, rfl⟩ := List.mem_map.mp hx
    obtain ⟨i, -, -, -, m, r, b1, b2⟩ := l3 y hy
    exact List.mem_range.mpr (hkB y m r b1 b2)
  have := l2.length_le_of_subset hsub
  rw [List.length_map, List.length_range, l1] at this
  exact this
theorem walk_len (r : Nat) (hwl : ∀ m, m < 6 → wl m = if m < 2 then 1 else 2 * r) (hwa : ∀ m, m < 6 → wa m = if m < 2 then 0 else 1) :
    ∀ d L A p, Wk mv wl wa g d L A p → A ≤ d ∧ L + A = d + 2 * r * A := by
  intro d
  induction d with
  | zero =>
    intro L A p hW
    obtain ⟨-, rfl, rfl⟩ := hW
    omega
  | succ d ih =>
    intro L A p hW
    obtain ⟨m, q, L1, A1, hm, -, hW', hL, hA⟩ := hW
    obtain ⟨a1, a2⟩ := ih L1 A1 q hW'
    rw [hwl m hm] at hL
    rw [hwa m hm] at hA
    by_cases h2 : m < 2
    · rw [if_pos h2] at hL hA
      subst hL
      subst hA
      refine ⟨by omega, ?_⟩
      rw [Nat.add_zero]
      omega
    · rw [if_neg h2] at hL hA
      subst hL
      subst hA
      refine ⟨by omega, ?_⟩
      rw [Nat.mul_add, Nat.mul_one]
      omega
end ARCS
