/-! plan and search, side by side -/
section PSEARCH
variable {F : Nat} {w h l wd r tn kp : Int} {n nk : Nat} {fl : Int → Int → Bool} {fk kn mf : Nat → Int32}
/-- class and model on one way -/
def WY (w h tn l wd : Int) (c d m : Nat) (P M : Nat → Nat) (mv pl nm be : Nat → Int32) : Prop :=
  d < (192 * h).toNat ∧ m ≤ d ∧ c = P m ∧ (∀ j, j ≤ d → vN w h tn (P j)) ∧ (∀ j, j < d → M j < 6 ∧ mv j = iI (M j) ∧ nm j = iI (M j) ∧ pl j = iI (pN (P (j + 1))) ∧ be j = iI (P (j + 1)) ∧ inP w h l wd (nX (P (j + 1))) (nY (P (j + 1))) (nD (P (j + 1))) = true)
theorem okP_inP {cl : Int → Int → Bool} {x y d : Int} (hk : okP w h cl l wd x y d = true) : inP w h l wd x y d = true := by
  rw [inP_iff]
  unfold okP at hk
  simp only [allB_iff, Bool.and_eq_true] at hk
  exact fun i i0 i1 j j0 j1 => (hk i i0 i1 j j0 j1).1
theorem plan_search {nCo nQu nMv nPl : Nat} (hC : CX F w h l wd r tn n nk fk (clF w h kp fl)) (hm : Mf w h fl mf) (k0 : 0 ≤ kp) (k1 : kp ≤ 3) (hn1 : nCo = (h * 256).toNat) (hn2 : nQu = (h * 256).toNat) (hn3 : nMv = (h * 256).toNat) (hn4 : nPl = (h * 256).toNat) {c g : Nat} (hc : vN w h tn c) (hg : vN w h tn g) (co : Nat → Int64) (qu : Nat → Int32) (hK : Kn w h (okP w h (clF w h kp fl) l wd) kn) (stp : Int64) (mv pl : Nat → Int32) (mvs mde : Int32) (nm be fa cm fr ro ne : Nat → Int32) :
    (∃ (eb : Bool) (rch : Int32) (co' : Nat → Int64) (qu' kn' fa' cm' fr' ro' ne' : Nat → Int32), Kn w h (okP w h (clF w h kp fl) l wd) kn' ∧
      J_X4_plan F (iI (pN c)) (iI (pN g)) stp nCo co nQu qu (iI l) (iI wd) (iI r) nk kn (iI w) (iI h) (iI tn) n fk nMv mv nPl pl = some (bI eb, rch, co', qu', kn', 0, 0, 0, mv, pl) ∧
      J_X5_search F (iI w) (iI h) (bI (decide (tn = 2))) (iI l) (iI wd) (iI r) (iI kp) (iI c) (iI g) mvs mde mf nm be fa cm fr ro ne stp = some (if eb = true then 0 else -1, 0, mvs, mde, bI eb, stp, nm, be, fa', cm', fr', ro', ne')) ∨
    (∃ (d : Nat) (P M : Nat → Nat) (rch : Int32) (co' : Nat → Int64) (qu' kn' mv' pl' nm' be' fa' cm' fr' ro' ne' : Nat → Int32), Kn w h (okP w h (clF w h kp fl) l wd) kn' ∧ WY w h tn l wd c d 0 P M mv' pl' nm' be' ∧
      J_X4_plan F (iI (pN c)) (iI (pN g)) stp nCo co nQu qu (iI l) (iI wd) (iI r) nk kn (iI w) (iI h) (iI tn) n fk nMv mv nPl pl = some (1, rch, co', qu', kn', iI d, 0, 1, mv', pl') ∧
      J_X5_search F (iI w) (iI h) (bI (decide (tn = 2))) (iI l) (iI wd) (iI r) (iI kp) (iI c) (iI g) mvs mde mf nm be fa cm fr ro ne stp = some (1, 1, iI d, 0, 1, stp, nm', be', fa', cm', fr', ro', ne')) := by
  obtain ⟨⟨a1, a2, a3, a4⟩, ⟨b1, b2, b3, b4, b5, b6⟩, c1, ⟨d1, d2⟩, e1, f1⟩ := id hC
  obtain ⟨Q, nn, lv, cc, hD, hP⟩ := plan_eq hC hn1 hn2 hn3 hn4 hc hg co qu hK stp mv pl
  obtain ⟨lw', cs, hM, hs1, hs2, hs3⟩ := search_eq (F := F) a2 a4 a1 a3 f1 hm c1 k0 k1 b3 b4 b1 b2 b5 b6 hc hg mvs mde nm be fa cm fr ro ne stp
  have hlw := ag_lv hD hM
  subst hlw
  obtain ⟨hcn, hcn2⟩ := ag_cnt a2 a4 b5 c1 hD hM c
  rcases hP with ⟨hl, co', qu', kn', hK', hp⟩ | ⟨d, hl, hst, co', qu', kn', hK', hp⟩ | ⟨d, P, M, hl, hst, hd, hW, hPv, co', qu', kn', mv', pl', hK', hj, hp⟩
  · left
    obtain ⟨fa', cm', fr', ro', ne', hs⟩ := hs1 hl
    have hnn := hcn2 hl
    rw [← hnn] at hs
    refine ⟨decide (lI nn ≤ stp), _, co', qu', kn', fa', cm', fr', ro', ne', hK', hp, ?_⟩
    rw [hs]
    by_cases q : lI (nn : Int) ≤ stp
    · rw [if_pos q, if_pos (decide_eq_true q)]
    · rw [if_neg q, if_neg (by rw [decide_eq_true_iff]; exact q)]
  · left
    rw [hcn] at hst
    obtain ⟨fa', cm', fr', ro', ne', hs⟩ := hs2 d hl hst
    exact ⟨false, _, co', qu', kn', fa', cm', fr', ro', ne', hK', hp, hs⟩
  · right
    rw [hcn] at hst
    obtain ⟨hlP, hWM⟩ := ag_way a2 a4 b5 b6 c1 hD hM hl hW
    obtain ⟨nm', be', fa', cm', fr', ro', ne', hjm, hs⟩ := hs3 d P M hl hst hWM hPv (fun i hi => by rw [hlP i hi]; exact fun q => by cases q)
    refine ⟨d, P, M, _, co', qu', kn', mv', pl', nm', be', fa', cm', fr', ro', ne', hK', ⟨hd, by omega, hW.1.symm, hPv, ?_⟩, hp, hs⟩
    intro j hj'
    obtain ⟨q1, q2, q3⟩ := hj j hj'
    obtain ⟨q4, q5⟩ := hjm j hj'
    refine ⟨q3, q1, q4, q2, q5, ?_⟩
    obtain ⟨-, -, hg2, -⟩ := mvN_at a2 b5 (hW.2.2.2 j hj').2
    exact okP_inP (Bool.and_eq_true_iff.mp hg2).2
end PSEARCH
