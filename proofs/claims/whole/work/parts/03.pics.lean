abbrev rmX4_isFrom : Room := ({ frames := 0, cells := 0, slots := 0, locals := 0 })
def J_X4_isFrom (F : Nat) (p0 : Int32) (p1 : Int32) (p2 : Int32) : Option (Int32) :=
  (if p1 < p0 then
    (some (0 : Int32))
  else
    (if p2 < p1 then
      (some (0 : Int32))
    else
      (some (1 : Int32))))
abbrev rmX4_sideOf : Room := ({ frames := 1, cells := 0, slots := 0, locals := 22 })
def J_X4_sideOf (F : Nat) (p0 : Int32) : Option (Int32) :=
  (Option.bind (J_X4_isFrom F (1 : Int32) p0 (24 : Int32)) fun v_1 =>
    (if v_1 = (0 : Int32) then
      (some (16 : Int32))
    else
      (some p0)))
abbrev rmX4_cellAt : Room := ({ frames := 0, cells := 0, slots := 0, locals := 0 })
def J_X4_cellAt (F : Nat) (p0 : Int32) (p1 : Int32) : Option (Int32) :=
  (some ((p1 <<< ((5 : Int32) &&& 31)) + p0))
abbrev rmX4_placeAt : Room := ({ frames := 1, cells := 0, slots := 0, locals := 21 })
def J_X4_placeAt (F : Nat) (p0 : Int32) (p1 : Int32) (p2 : Int32) : Option (Int32) :=
  (Option.bind (J_X4_cellAt F p0 p1) fun v_1 =>
    (some ((v_1 <<< ((3 : Int32) &&& 31)) + p2)))
abbrev rmX4_xOf : Room := ({ frames := 0, cells := 0, slots := 0, locals := 0 })
def J_X4_xOf (F : Nat) (p0 : Int32) : Option (Int32) :=
  (some ((p0 >>> ((3 : Int32) &&& 31)) &&& (31 : Int32)))
abbrev rmX4_yOf : Room := ({ frames := 0, cells := 0, slots := 0, locals := 0 })
def J_X4_yOf (F : Nat) (p0 : Int32) : Option (Int32) :=
  (some (p0 >>> ((8 : Int32) &&& 31)))
abbrev rmX4_headingOf : Room := ({ frames := 0, cells := 0, slots := 0, locals := 0 })
def J_X4_headingOf (F : Nat) (p0 : Int32) : Option (Int32) :=
  (some (p0 &&& (7 : Int32)))
abbrev rmX4_stepX : Room := ({ frames := 0, cells := 0, slots := 0, locals := 0 })
def J_X4_stepX (F : Nat) (p0 : Int32) : Option (Int32) :=
  (gd (inB (p0 &&& (7 : Int32)) 8)
    (some (sxI (p0 &&& (7 : Int32)).toNatClampNeg)))
abbrev rmX4_stepY : Room := ({ frames := 0, cells := 0, slots := 0, locals := 0 })
def J_X4_stepY (F : Nat) (p0 : Int32) : Option (Int32) :=
  (gd (inB (p0 &&& (7 : Int32)) 8)
    (some (syI (p0 &&& (7 : Int32)).toNatClampNeg)))
abbrev rmJ7_fill_53178 : Room := ({ frames := 0, cells := 0, slots := 0, locals := 0 })
def J_J7_fill_53178_L5 (F : Nat) (nAr : Nat) (y1_1 : Int32) (y3_3 : Int32) (kk_20 : Int32 → (Nat → Int32) → Option ((Nat → Int32))) : Nat → Int32 → (Nat → Int32) → Option ((Nat → Int32))
  | 0, _, _ => none
  | fz + 1, x2_2, xar_4 =>
    (if y3_3 ≤ x2_2 then
      (kk_20 x2_2 xar_4)
    else
      (gd (inB x2_2 nAr)
        (J_J7_fill_53178_L5 F nAr y1_1 y3_3 kk_20 fz (x2_2 + (1 : Int32)) (upd xar_4 x2_2.toNatClampNeg y1_1))))
def J_J7_fill_53178 (F : Nat) (nAr : Nat) (ar : Nat → Int32) (p1 : Int32) : Option ((Nat → Int32)) :=
  (J_J7_fill_53178_L5 F nAr p1 (nI nAr)
    (fun x2_7 xar_8 =>
      (some xar_8))
    F (0 : Int32) ar)
abbrev rmJ7_fill_d0a16 : Room := ({ frames := 0, cells := 0, slots := 0, locals := 0 })
def J_J7_fill_d0a16_L6 (F : Nat) (nAr : Nat) (y1_1 : Int64) (y4_3 : Int32) (kk_22 : Int32 → (Nat → Int64) → Option ((Nat → Int64))) : Nat → Int32 → (Nat → Int64) → Option ((Nat → Int64))
  | 0, _, _ => none
  | fz + 1, x3_2, xar_4 =>
    (if y4_3 ≤ x3_2 then
      (kk_22 x3_2 xar_4)
    else
      (gd (inB x3_2 nAr)
        (J_J7_fill_d0a16_L6 F nAr y1_1 y4_3 kk_22 fz (x3_2 + (1 : Int32)) (vp_updL xar_4 x3_2.toNatClampNeg y1_1))))
def J_J7_fill_d0a16 (F : Nat) (nAr : Nat) (ar : Nat → Int64) (p1 : Int64) : Option ((Nat → Int64)) :=
  (J_J7_fill_d0a16_L6 F nAr p1 (nI nAr)
    (fun x3_7 xar_8 =>
      (some xar_8))
    F (0 : Int32) ar)
abbrev rmX1_placeRoom : Room := ({ frames := 0, cells := 0, slots := 0, locals := 0 })
def J_X1_placeRoom (F : Nat) (ht : Int32) : Option (Int32) :=
  (some (ht <<< ((8 : Int32) &&& 31)))
abbrev rmX1_hasCell : Room := ({ frames := 0, cells := 0, slots := 0, locals := 0 })
def J_X1_hasCell (F : Nat) (w : Int32) (ht : Int32) (p0 : Int32) (p1 : Int32) : Option (Int32) :=
  (if p0 < (0 : Int32) then
    (some (0 : Int32))
  else
    (if w ≤ p0 then
      (some (0 : Int32))
    else
      (if p1 < (0 : Int32) then
        (some (0 : Int32))
      else
        (if ht ≤ p1 then
          (some (0 : Int32))
        else
          (some (1 : Int32))))))
abbrev rmX1_hasHeading : Room := ({ frames := 1, cells := 0, slots := 0, locals := 22 })
def J_X1_hasHeading (F : Nat) (tn : Int32) (p0 : Int32) : Option (Int32) :=
  (Option.bind (J_X4_isFrom F (0 : Int32) p0 (7 : Int32)) fun v_1 =>
    (if v_1 = (0 : Int32) then
      (some (0 : Int32))
    else
      (if tn = (1 : Int32) then
        (some (1 : Int32))
      else
        (if (p0 &&& (1 : Int32)) = (0 : Int32) then
          (some (1 : Int32))
        else
          (some (0 : Int32))))))
abbrev rmX1_isFull : Room := ({ frames := 1, cells := 0, slots := 0, locals := 22 })
def J_X1_isFull (F : Nat) (w : Int32) (ht : Int32) (nFu : Nat) (fu : Nat → Int32) (p0 : Int32) (p1 : Int32) : Option (Int32) :=
  (Option.bind (J_X1_hasCell F w ht p0 p1) fun v_1 =>
    (if v_1 = (0 : Int32) then
      (some (0 : Int32))
    else
      (Option.bind (J_X4_cellAt F p0 p1) fun v_3 =>
        (gd (inB v_3 nFu)
          (if (fu v_3.toNatClampNeg) = (0 : Int32) then
            (some (0 : Int32))
          else
            (some (1 : Int32)))))))
abbrev rmX1_isKeptClear : Room := ({ frames := 1, cells := 0, slots := 0, locals := 22 })
def J_X1_isKeptClear (F : Nat) (w : Int32) (ht : Int32) (nFk : Nat) (fk : Nat → Int32) (p0 : Int32) (p1 : Int32) : Option (Int32) :=
  (Option.bind (J_X1_hasCell F w ht p0 p1) fun v_1 =>
    (if v_1 = (0 : Int32) then
      (some (0 : Int32))
    else
      (Option.bind (J_X4_cellAt F p0 p1) fun v_3 =>
        (gd (inB v_3 nFk)
          (if (fk v_3.toNatClampNeg) = (0 : Int32) then
            (some (1 : Int32))
          else
            (some (0 : Int32)))))))
abbrev rmX1_countAround : Room := ({ frames := 1, cells := 0, slots := 0, locals := 22 })
def J_X1_countAround_L27 (F : Nat) (w : Int32) (ht : Int32) (kp : Int32) (nFk : Nat) (y1_7 : Int32) (y3_9 : Int32) (y4_10 : Int32) (kk_71 : Int32 → (Nat → Int32) → Option ((Nat → Int32))) : Nat → Int32 → (Nat → Int32) → Option ((Nat → Int32))
  | 0, _, _ => none
  | fz + 1, x5_11, xfk_12 =>
    (if (y1_7 + kp) < x5_11 then
      (kk_71 x5_11 xfk_12)
    else
      (Option.bind (J_X1_hasCell F w ht x5_11 y4_10) fun v_14 =>
        (if v_14 = (0 : Int32) then
          (J_X1_countAround_L27 F w ht kp nFk y1_7 y3_9 y4_10 kk_71 fz (x5_11 + (1 : Int32)) xfk_12)
        else
          (Option.bind (J_X4_cellAt F x5_11 y4_10) fun v_16 =>
            (gd (inB v_16 nFk)
              (gd (inB v_16 nFk)
                (J_X1_countAround_L27 F w ht kp nFk y1_7 y3_9 y4_10 kk_71 fz (x5_11 + (1 : Int32)) (upd xfk_12 v_16.toNatClampNeg ((xfk_12 v_16.toNatClampNeg) + y3_9)))))))))
def J_X1_countAround_L8 (F : Nat) (w : Int32) (ht : Int32) (kp : Int32) (nFk : Nat) (y1_1 : Int32) (y2_2 : Int32) (y3_3 : Int32) (kk_77 : Int32 → (Nat → Int32) → Option ((Nat → Int32))) : Nat → Int32 → (Nat → Int32) → Option ((Nat → Int32))
  | 0, _, _ => none
  | fz + 1, x4_4, xfk_5 =>
    (if (y2_2 + kp) < x4_4 then
      (kk_77 x4_4 xfk_5)
    else
      (J_X1_countAround_L27 F w ht kp nFk y1_1 y3_3 x4_4
        (fun x5_19 xfk_20 =>
          (J_X1_countAround_L8 F w ht kp nFk y1_1 y2_2 y3_3 kk_77 fz (x4_4 + (1 : Int32)) xfk_20))
        F (y1_1 - kp) xfk_5))
def J_X1_countAround (F : Nat) (w : Int32) (ht : Int32) (kp : Int32) (nFk : Nat) (fk : Nat → Int32) (p0 : Int32) (p1 : Int32) (p2 : Int32) : Option ((Nat → Int32)) :=
  (J_X1_countAround_L8 F w ht kp nFk p0 p1 p2
    (fun x4_21 xfk_22 =>
      (some xfk_22))
    F (p1 - kp) fk)
abbrev rmX1_setFull : Room := ({ frames := 2, cells := 0, slots := 0, locals := 47 })
def J_X1_setFull (F : Nat) (w : Int32) (ht : Int32) (kp : Int32) (nFu : Nat) (fu : Nat → Int32) (nFk : Nat) (fk : Nat → Int32) (p0 : Int32) (p1 : Int32) (p2 : Int32) : Option (Int32 × (Nat → Int32) × (Nat → Int32)) :=
  (Option.bind (J_X1_hasCell F w ht p0 p1) fun v_1 =>
    (if v_1 = (0 : Int32) then
      (some ((0 : Int32), fu, fk))
    else
      (Option.bind (J_X4_cellAt F p0 p1) fun v_3 =>
        (gd (inB v_3 nFu)
          (if (fu v_3.toNatClampNeg) = p2 then
            (some ((0 : Int32), fu, fk))
          else
            (Option.bind (J_X4_cellAt F p0 p1) fun v_6 =>
              (gd (inB v_6 nFu)
                (if p2 = (0 : Int32) then
                  (Option.bind (J_X1_countAround F w ht kp nFk fk p0 p1 (-1 : Int32)) fun v_9 =>
                    (some ((1 : Int32), (upd fu v_6.toNatClampNeg (vp_nar .boolean p2)), v_9)))
                else
                  (Option.bind (J_X1_countAround F w ht kp nFk fk p0 p1 (1 : Int32)) fun v_10 =>
                    (some ((1 : Int32), (upd fu v_6.toNatClampNeg (vp_nar .boolean p2)), v_10)))))))))))
abbrev rmX1_setKeep : Room := ({ frames := 2, cells := 0, slots := 0, locals := 47 })
def J_X1_setKeep_L25 (F : Nat) (w : Int32) (ht : Int32) (nFu : Nat) (fu : Nat → Int32) (nFk : Nat) (y2_6 : Int32) (ykp_8 : Int32) (kk_55 : Int32 → (Nat → Int32) → Option (Int32 × (Nat → Int32))) : Nat → Int32 → (Nat → Int32) → Option (Int32 × (Nat → Int32))
  | 0, _, _ => none
  | fz + 1, x3_7, xfk_9 =>
    (if w ≤ x3_7 then
      (kk_55 x3_7 xfk_9)
    else
      (Option.bind (J_X1_isFull F w ht nFu fu x3_7 y2_6) fun v_11 =>
        (if v_11 = (0 : Int32) then
          (J_X1_setKeep_L25 F w ht nFu fu nFk y2_6 ykp_8 kk_55 fz (x3_7 + (1 : Int32)) xfk_9)
        else
          (Option.bind (J_X1_countAround F w ht ykp_8 nFk xfk_9 x3_7 y2_6 (1 : Int32)) fun v_13 =>
            (J_X1_setKeep_L25 F w ht nFu fu nFk y2_6 ykp_8 kk_55 fz (x3_7 + (1 : Int32)) v_13)))))
def J_X1_setKeep_L15 (F : Nat) (w : Int32) (ht : Int32) (nFu : Nat) (fu : Nat → Int32) (nFk : Nat) (ykp_3 : Int32) (kk_61 : Int32 → (Nat → Int32) → Option (Int32 × (Nat → Int32))) : Nat → Int32 → (Nat → Int32) → Option (Int32 × (Nat → Int32))
  | 0, _, _ => none
  | fz + 1, x2_2, xfk_4 =>
    (if ht ≤ x2_2 then
      (kk_61 x2_2 xfk_4)
    else
      (J_X1_setKeep_L25 F w ht nFu fu nFk x2_2 ykp_3
        (fun x3_14 xfk_15 =>
          (J_X1_setKeep_L15 F w ht nFu fu nFk ykp_3 kk_61 fz (x2_2 + (1 : Int32)) xfk_15))
        F (0 : Int32) xfk_4))
def J_X1_setKeep (F : Nat) (w : Int32) (ht : Int32) (nFu : Nat) (fu : Nat → Int32) (nFk : Nat) (fk : Nat → Int32) (p0 : Int32) : Option (Int32 × (Nat → Int32)) :=
  (Option.bind (J_J7_fill_53178 F nFk fk (0 : Int32)) fun v_1 =>
    (J_X1_setKeep_L15 F w ht nFu fu nFk p0
      (fun x2_16 xfk_17 =>
        (some (p0, xfk_17)))
      F (0 : Int32) v_1))
abbrev rmX1_runLength : Room := ({ frames := 2, cells := 0, slots := 0, locals := 44 })
def J_X1_runLength_L5 (F : Nat) (w : Int32) (ht : Int32) (nFu : Nat) (fu : Nat → Int32) (y2_1 : Int32) (kk_33 : Int32 → Int32 → Option (Int32)) : Nat → Int32 → Int32 → Option (Int32)
  | 0, _, _ => none
  | fz + 1, x3_2, x4_3 =>
    (if w ≤ x4_3 then
      (kk_33 x3_2 x4_3)
    else
      (Option.bind (J_X1_isFull F w ht nFu fu x4_3 y2_1) fun v_5 =>
        (if v_5 = (0 : Int32) then
          (J_X1_runLength_L5 F w ht nFu fu y2_1 kk_33 fz (x3_2 + (1 : Int32)) (x4_3 + (1 : Int32)))
        else
          (kk_33 x3_2 x4_3))))
def J_X1_runLength (F : Nat) (w : Int32) (ht : Int32) (nFu : Nat) (fu : Nat → Int32) (p0 : Int32) (p1 : Int32) : Option (Int32) :=
  (J_X1_runLength_L5 F w ht nFu fu p1
    (fun x3_7 x4_8 =>
      (some x3_7))
    F (0 : Int32) p0)
abbrev rmX1_firstRun : Room := ({ frames := 3, cells := 0, slots := 0, locals := 68 })
def J_X1_firstRun_L2 (F : Nat) (w : Int32) (ht : Int32) (nFu : Nat) (fu : Nat → Int32) (y1_1 : Int32) (y2_2 : Int32) (kk_28 : Int32 → Option (Int32)) : Nat → Int32 → Option (Int32)
  | 0, _ => none
  | fz + 1, x3_3 =>
    (if w ≤ x3_3 then
      (kk_28 x3_3)
    else
      (Option.bind (J_X1_runLength F w ht nFu fu x3_3 y1_1) fun v_5 =>
        (if v_5 < y2_2 then
          (J_X1_firstRun_L2 F w ht nFu fu y1_1 y2_2 kk_28 fz (x3_3 + (1 : Int32)))
        else
          (some x3_3))))
def J_X1_firstRun (F : Nat) (w : Int32) (ht : Int32) (nFu : Nat) (fu : Nat → Int32) (p0 : Int32) (p1 : Int32) : Option (Int32) :=
  (J_X1_firstRun_L2 F w ht nFu fu p0 p1
    (fun x3_7 =>
      (some (-1 : Int32)))
    F (0 : Int32))
abbrev rmX1_distanceToFull : Room := ({ frames := 2, cells := 0, slots := 0, locals := 44 })
def J_X1_distanceToFull_L21 (F : Nat) (w : Int32) (ht : Int32) (nFu : Nat) (fu : Nat → Int32) (y1_7 : Int32) (y2_8 : Int32) (y3_9 : Int32) (y5_11 : Int32) (kk_70 : Int32 → Int32 → Option (Int32)) : Nat → Int32 → Int32 → Option (Int32)
  | 0, _, _ => none
  | fz + 1, x4_10, x6_12 =>
    (if (y1_7 + y3_9) < x6_12 then
      (kk_70 x4_10 x6_12)
    else
      (Option.bind (J_X1_isFull F w ht nFu fu x6_12 y5_11) fun v_14 =>
        (if v_14 = (0 : Int32) then
          (J_X1_distanceToFull_L21 F w ht nFu fu y1_7 y2_8 y3_9 y5_11 kk_70 fz x4_10 (x6_12 + (1 : Int32)))
        else
          (Option.bind (some (if (0 : Int32) ≤ (x6_12 - y1_7) then (x6_12 - y1_7) else (0 : Int32) - (x6_12 - y1_7))) fun v_16 =>
            (Option.bind (some (if (0 : Int32) ≤ (y5_11 - y2_8) then (y5_11 - y2_8) else (0 : Int32) - (y5_11 - y2_8))) fun v_17 =>
              (Option.bind (some (if v_16 < v_17 then v_17 else v_16)) fun v_18 =>
                (Option.bind (some (if v_18 < x4_10 then v_18 else x4_10)) fun v_19 =>
                  (J_X1_distanceToFull_L21 F w ht nFu fu y1_7 y2_8 y3_9 y5_11 kk_70 fz v_19 (x6_12 + (1 : Int32))))))))))
def J_X1_distanceToFull_L8 (F : Nat) (w : Int32) (ht : Int32) (nFu : Nat) (fu : Nat → Int32) (y1_1 : Int32) (y2_2 : Int32) (y3_3 : Int32) (kk_76 : Int32 → Int32 → Option (Int32)) : Nat → Int32 → Int32 → Option (Int32)
  | 0, _, _ => none
  | fz + 1, x4_4, x5_5 =>
    (if (y2_2 + y3_3) < x5_5 then
      (kk_76 x4_4 x5_5)
    else
      (J_X1_distanceToFull_L21 F w ht nFu fu y1_1 y2_2 y3_3 x5_5
        (fun x4_20 x6_21 =>
          (J_X1_distanceToFull_L8 F w ht nFu fu y1_1 y2_2 y3_3 kk_76 fz x4_20 (x5_5 + (1 : Int32))))
        F x4_4 (y1_1 - y3_3)))
def J_X1_distanceToFull (F : Nat) (w : Int32) (ht : Int32) (nFu : Nat) (fu : Nat → Int32) (p0 : Int32) (p1 : Int32) (p2 : Int32) : Option (Int32) :=
  (J_X1_distanceToFull_L8 F w ht nFu fu p0 p1 p2
    (fun x4_22 x5_23 =>
      (some x4_22))
    F p2 (p1 - p2))
abbrev rmX0_isArc : Room := ({ frames := 0, cells := 0, slots := 0, locals := 0 })
def J_X0_isArc (F : Nat) (p0 : Int32) : Option (Int32) :=
  (if p0 < (2 : Int32) then
    (some (0 : Int32))
  else
    (some (1 : Int32)))
abbrev rmX0_senseOf : Room := ({ frames := 0, cells := 0, slots := 0, locals := 0 })
def J_X0_senseOf (F : Nat) (p0 : Int32) : Option (Int32) :=
  (if p0 = (0 : Int32) then
    (some (1 : Int32))
  else
    (if p0 = (2 : Int32) then
      (some (1 : Int32))
    else
      (if p0 = (3 : Int32) then
        (some (1 : Int32))
      else
        (some (-1 : Int32)))))
abbrev rmX0_lengthOf : Room := ({ frames := 1, cells := 0, slots := 0, locals := 20 })
def J_X0_lengthOf (F : Nat) (rd : Int32) (p0 : Int32) : Option (Int32) :=
  (Option.bind (J_X0_isArc F p0) fun v_1 =>
    (if v_1 = (0 : Int32) then
      (some (1 : Int32))
    else
      (some ((2 : Int32) * rd))))
abbrev rmX0_coveredX : Room := ({ frames := 1, cells := 0, slots := 0, locals := 20 })
def J_X0_coveredX (F : Nat) (p0 : Int32) (p1 : Int32) (p2 : Int32) : Option (Int32) :=
  (Option.bind (J_X4_headingOf F p0) fun v_1 =>
    (Option.bind (J_X4_xOf F p0) fun v_2 =>
      (Option.bind (J_X4_stepX F v_1) fun v_3 =>
        (Option.bind (J_X4_stepX F (v_1 + (2 : Int32))) fun v_4 =>
          (some ((v_2 + (p1 * v_3)) + (p2 * v_4)))))))
abbrev rmX0_coveredY : Room := ({ frames := 1, cells := 0, slots := 0, locals := 20 })
def J_X0_coveredY (F : Nat) (p0 : Int32) (p1 : Int32) (p2 : Int32) : Option (Int32) :=
  (Option.bind (J_X4_headingOf F p0) fun v_1 =>
    (Option.bind (J_X4_yOf F p0) fun v_2 =>
      (Option.bind (J_X4_stepY F v_1) fun v_3 =>
        (Option.bind (J_X4_stepY F (v_1 + (2 : Int32))) fun v_4 =>
          (some ((v_2 + (p1 * v_3)) + (p2 * v_4)))))))
abbrev rmX0_forget : Room := ({ frames := 1, cells := 0, slots := 0, locals := 23 })
def J_X0_forget (F : Nat) (nKn : Nat) (kn : Nat → Int32) : Option ((Nat → Int32)) :=
  (Option.bind (J_J7_fill_53178 F nKn kn (0 : Int32)) fun v_1 =>
    (some v_1))
abbrev rmX0_build : Room := ({ frames := 2, cells := 0, slots := 0, locals := 43 })
def J_X0_build (F : Nat) (nKn : Nat) (kn : Nat → Int32) (p0 : Int32) (p1 : Int32) (p2 : Int32) : Option (Int32 × Int32 × Int32 × (Nat → Int32)) :=
  (Option.bind (J_X0_forget F nKn kn) fun v_1 =>
    (some (p0, p1, p2, v_1)))
abbrev rmX0_coversClearCells : Room := ({ frames := 2, cells := 0, slots := 0, locals := 44 })
def J_X0_coversClearCells_L30 (F : Nat) (wd : Int32) (w : Int32) (ht : Int32) (nFk : Nat) (fk : Nat → Int32) (y1_4 : Int32) (y2_5 : Int32) (kk_70 : Int32 → Option (Int32)) : Nat → Int32 → Option (Int32)
  | 0, _ => none
  | fz + 1, x3_6 =>
    (if (wd / (2 : Int32)) < x3_6 then
      (kk_70 x3_6)
    else
      (Option.bind (J_X0_coveredX F y1_4 y2_5 x3_6) fun v_8 =>
        (Option.bind (J_X0_coveredY F y1_4 y2_5 x3_6) fun v_9 =>
          (Option.bind (J_X1_isKeptClear F w ht nFk fk v_8 v_9) fun v_10 =>
            (if v_10 = (0 : Int32) then
              (some (0 : Int32))
            else
              (J_X0_coversClearCells_L30 F wd w ht nFk fk y1_4 y2_5 kk_70 fz (x3_6 + (1 : Int32))))))))
def J_X0_coversClearCells_L10 (F : Nat) (ln : Int32) (wd : Int32) (w : Int32) (ht : Int32) (nFk : Nat) (fk : Nat → Int32) (y1_1 : Int32) (kk_76 : Int32 → Option (Int32)) : Nat → Int32 → Option (Int32)
  | 0, _ => none
  | fz + 1, x2_2 =>
    (if (ln / (2 : Int32)) < x2_2 then
      (kk_76 x2_2)
    else
      (J_X0_coversClearCells_L30 F wd w ht nFk fk y1_1 x2_2
        (fun x3_12 =>
          (J_X0_coversClearCells_L10 F ln wd w ht nFk fk y1_1 kk_76 fz (x2_2 + (1 : Int32))))
        F (-((wd - (1 : Int32)) / (2 : Int32)))))
def J_X0_coversClearCells (F : Nat) (ln : Int32) (wd : Int32) (w : Int32) (ht : Int32) (nFk : Nat) (fk : Nat → Int32) (p0 : Int32) : Option (Int32) :=
  (J_X0_coversClearCells_L10 F ln wd w ht nFk fk p0
    (fun x2_13 =>
      (some (1 : Int32)))
    F (-((ln - (1 : Int32)) / (2 : Int32))))
abbrev rmX0_isFree : Room := ({ frames := 3, cells := 0, slots := 0, locals := 67 })
def J_X0_isFree (F : Nat) (ln : Int32) (wd : Int32) (nKn : Nat) (kn : Nat → Int32) (w : Int32) (ht : Int32) (nFk : Nat) (fk : Nat → Int32) (p0 : Int32) : Option (Int32 × (Nat → Int32)) :=
  (if p0 < (0 : Int32) then
    (some ((0 : Int32), kn))
  else
    (if p0 < (nI nKn) then
      (gd (inB p0 nKn)
        (if (kn p0.toNatClampNeg) = (0 : Int32) then
          (Option.bind (J_X0_coversClearCells F ln wd w ht nFk fk p0) fun v_7 =>
            (if v_7 = (0 : Int32) then
              (gd (inB p0 nKn)
                (gd (inB p0 nKn)
                  (if ((upd kn p0.toNatClampNeg (2 : Int32)) p0.toNatClampNeg) = (1 : Int32) then
                    (some ((1 : Int32), (upd kn p0.toNatClampNeg (2 : Int32))))
                  else
                    (some ((0 : Int32), (upd kn p0.toNatClampNeg (2 : Int32)))))))
            else
              (gd (inB p0 nKn)
                (gd (inB p0 nKn)
                  (if ((upd kn p0.toNatClampNeg (1 : Int32)) p0.toNatClampNeg) = (1 : Int32) then
                    (some ((1 : Int32), (upd kn p0.toNatClampNeg (1 : Int32))))
                  else
                    (some ((0 : Int32), (upd kn p0.toNatClampNeg (1 : Int32)))))))))
        else
          (gd (inB p0 nKn)
            (if (kn p0.toNatClampNeg) = (1 : Int32) then
              (some ((1 : Int32), kn))
            else
              (some ((0 : Int32), kn))))))
    else
      (some ((0 : Int32), kn))))
abbrev rmX0_marginAt : Room := ({ frames := 3, cells := 0, slots := 0, locals := 70 })
def J_X0_marginAt_L34 (F : Nat) (wd : Int32) (w : Int32) (ht : Int32) (nFu : Nat) (fu : Nat → Int32) (y1_5 : Int32) (y3_7 : Int32) (kk_74 : Int32 → Int32 → Option (Int32)) : Nat → Int32 → Int32 → Option (Int32)
  | 0, _, _ => none
  | fz + 1, x2_6, x4_8 =>
    (if (wd / (2 : Int32)) < x4_8 then
      (kk_74 x2_6 x4_8)
    else
      (Option.bind (J_X0_coveredX F y1_5 y3_7 x4_8) fun v_10 =>
        (Option.bind (J_X0_coveredY F y1_5 y3_7 x4_8) fun v_11 =>
          (Option.bind (J_X1_distanceToFull F w ht nFu fu v_10 v_11 x2_6) fun v_12 =>
            (J_X0_marginAt_L34 F wd w ht nFu fu y1_5 y3_7 kk_74 fz v_12 (x4_8 + (1 : Int32)))))))
def J_X0_marginAt_L13 (F : Nat) (ln : Int32) (wd : Int32) (w : Int32) (ht : Int32) (nFu : Nat) (fu : Nat → Int32) (y1_1 : Int32) (kk_80 : Int32 → Int32 → Option (Int32)) : Nat → Int32 → Int32 → Option (Int32)
  | 0, _, _ => none
  | fz + 1, x2_2, x3_3 =>
    (if (ln / (2 : Int32)) < x3_3 then
      (kk_80 x2_2 x3_3)
    else
      (J_X0_marginAt_L34 F wd w ht nFu fu y1_1 x3_3
        (fun x2_13 x4_14 =>
          (J_X0_marginAt_L13 F ln wd w ht nFu fu y1_1 kk_80 fz x2_13 (x3_3 + (1 : Int32))))
        F x2_2 (-((wd - (1 : Int32)) / (2 : Int32)))))
def J_X0_marginAt (F : Nat) (ln : Int32) (wd : Int32) (w : Int32) (ht : Int32) (nFu : Nat) (fu : Nat → Int32) (p0 : Int32) : Option (Int32) :=
  (J_X0_marginAt_L13 F ln wd w ht nFu fu p0
    (fun x2_15 x3_16 =>
      (some x2_15))
    F (9 : Int32) (-((ln - (1 : Int32)) / (2 : Int32))))
abbrev rmX0_shifted : Room := ({ frames := 2, cells := 0, slots := 0, locals := 43 })
def J_X0_shifted (F : Nat) (w : Int32) (ht : Int32) (p0 : Int32) (p1 : Int32) : Option (Int32) :=
  (if (0 : Int32) ≤ p0 then
    (Option.bind (J_X4_headingOf F p0) fun v_2 =>
      (Option.bind (J_X4_xOf F p0) fun v_3 =>
        (Option.bind (J_X4_stepX F v_2) fun v_4 =>
          (Option.bind (J_X4_yOf F p0) fun v_5 =>
            (Option.bind (J_X4_stepY F v_2) fun v_6 =>
              (Option.bind (J_X1_hasCell F w ht (v_3 + (p1 * v_4)) (v_5 + (p1 * v_6))) fun v_7 =>
                (if v_7 = (0 : Int32) then
                  (some (-1 : Int32))
                else
                  (Option.bind (J_X4_placeAt F (v_3 + (p1 * v_4)) (v_5 + (p1 * v_6)) v_2) fun v_9 =>
                    (some v_9)))))))))
  else
    (some (-1 : Int32)))
abbrev rmX0_turned : Room := ({ frames := 2, cells := 0, slots := 0, locals := 43 })
def J_X0_turned (F : Nat) (tn : Int32) (p0 : Int32) (p1 : Int32) : Option (Int32) :=
  (if (0 : Int32) ≤ p0 then
    (if (p1 &&& (1 : Int32)) = (0 : Int32) then
      (Option.bind (J_X4_xOf F p0) fun v_7 =>
        (Option.bind (J_X4_yOf F p0) fun v_8 =>
          (Option.bind (J_X4_headingOf F p0) fun v_9 =>
            (Option.bind (J_X4_placeAt F v_7 v_8 ((v_9 + tn) &&& (7 : Int32))) fun v_10 =>
              (some v_10)))))
    else
      (Option.bind (J_X4_xOf F p0) fun v_3 =>
        (Option.bind (J_X4_yOf F p0) fun v_4 =>
          (Option.bind (J_X4_headingOf F p0) fun v_5 =>
            (Option.bind (J_X4_placeAt F v_3 v_4 ((v_5 + (-tn)) &&& (7 : Int32))) fun v_6 =>
              (some v_6))))))
  else
    (some (-1 : Int32)))
abbrev rmX0_landing : Room := ({ frames := 3, cells := 0, slots := 0, locals := 68 })
def J_X0_landing (F : Nat) (rd : Int32) (w : Int32) (ht : Int32) (tn : Int32) (p0 : Int32) (p1 : Int32) : Option (Int32) :=
  (Option.bind (J_X0_senseOf F p1) fun v_1 =>
    (Option.bind (J_X0_isArc F p1) fun v_2 =>
      (if v_2 = (0 : Int32) then
        (Option.bind (J_X0_shifted F w ht p0 v_1) fun v_7 =>
          (some v_7))
      else
        (Option.bind (J_X0_shifted F w ht p0 (v_1 * rd)) fun v_4 =>
          (Option.bind (J_X0_turned F tn v_4 p1) fun v_5 =>
            (Option.bind (J_X0_shifted F w ht v_5 (v_1 * rd)) fun v_6 =>
              (some v_6)))))))
abbrev rmX0_mayMake : Room := ({ frames := 4, cells := 0, slots := 0, locals := 88 })
def J_X0_mayMake_L54 (F : Nat) (ln : Int32) (wd : Int32) (nKn : Nat) (w : Int32) (ht : Int32) (nFk : Nat) (fk : Nat → Int32) (y1_6 : Int32) (y3_7 : Int32) (y4_8 : Int32) (y5_9 : Int32) (kk_102 : Int32 → (Nat → Int32) → Option (Int32 × (Nat → Int32))) : Nat → Int32 → (Nat → Int32) → Option (Int32 × (Nat → Int32))
  | 0, _, _ => none
  | fz + 1, x6_10, xkn_11 =>
    (if y4_8 < x6_10 then
      (kk_102 x6_10 xkn_11)
    else
      (Option.bind (J_X0_shifted F w ht y1_6 (y3_7 * x6_10)) fun v_13 =>
        (Option.bind (J_X0_isFree F ln wd nKn xkn_11 w ht nFk fk v_13) fun v_14 =>
          (if v_14.1 = (0 : Int32) then
            (some ((0 : Int32), v_14.2))
          else
            (Option.bind (J_X0_shifted F w ht y5_9 (y3_7 * x6_10)) fun v_16 =>
              (Option.bind (J_X0_isFree F ln wd nKn v_14.2 w ht nFk fk v_16) fun v_17 =>
                (if v_17.1 = (0 : Int32) then
                  (some ((0 : Int32), v_17.2))
                else
                  (J_X0_mayMake_L54 F ln wd nKn w ht nFk fk y1_6 y3_7 y4_8 y5_9 kk_102 fz (x6_10 + (1 : Int32)) v_17.2))))))))
def J_X0_mayMake (F : Nat) (ln : Int32) (wd : Int32) (rd : Int32) (nKn : Nat) (kn : Nat → Int32) (w : Int32) (ht : Int32) (tn : Int32) (nFk : Nat) (fk : Nat → Int32) (p0 : Int32) (p1 : Int32) : Option (Int32 × (Nat → Int32)) :=
  (Option.bind (J_X0_senseOf F p1) fun v_1 =>
    (Option.bind (J_X0_isArc F p1) fun v_2 =>
      (if v_2 = (0 : Int32) then
        (Option.bind (J_X0_isArc F p1) fun v_4 =>
          (if v_4 = (0 : Int32) then
            (J_X0_mayMake_L54 F ln wd nKn w ht nFk fk p0 v_1 (1 : Int32) p0
              (fun x6_19 xkn_20 =>
                (some ((1 : Int32), xkn_20)))
              F (0 : Int32) kn)
          else
            (Option.bind (J_X0_shifted F w ht p0 (v_1 * rd)) fun v_21 =>
              (Option.bind (J_X0_turned F tn v_21 p1) fun v_22 =>
                (J_X0_mayMake_L54 F ln wd nKn w ht nFk fk p0 v_1 (1 : Int32) v_22
                  (fun x6_23 xkn_24 =>
                    (some ((1 : Int32), xkn_24)))
                  F (0 : Int32) kn)))))
      else
        (Option.bind (J_X0_isArc F p1) fun v_25 =>
          (if v_25 = (0 : Int32) then
            (J_X0_mayMake_L54 F ln wd nKn w ht nFk fk p0 v_1 rd p0
              (fun x6_27 xkn_28 =>
                (some ((1 : Int32), xkn_28)))
              F (0 : Int32) kn)
          else
            (Option.bind (J_X0_shifted F w ht p0 (v_1 * rd)) fun v_29 =>
              (Option.bind (J_X0_turned F tn v_29 p1) fun v_30 =>
                (J_X0_mayMake_L54 F ln wd nKn w ht nFk fk p0 v_1 rd v_30
                  (fun x6_31 xkn_32 =>
                    (some ((1 : Int32), xkn_32)))
                  F (0 : Int32) kn))))))))
abbrev rmX2_costAt : Room := ({ frames := 0, cells := 0, slots := 0, locals := 0 })
def J_X2_costAt (F : Nat) (nCo : Nat) (co : Nat → Int64) (p0 : Int32) : Option (Int64) :=
  (if p0 < (0 : Int32) then
    (some (1152921504606846976 : Int64))
  else
    (if (nI nCo) ≤ p0 then
      (some (1152921504606846976 : Int64))
    else
      (gd (inB p0 nCo)
        (some (co p0.toNatClampNeg)))))
abbrev rmX2_costOf : Room := ({ frames := 2, cells := 0, slots := 0, locals := 41 })
def J_X2_costOf (F : Nat) (rd : Int32) (p0 : Int32) : Option (Int64) :=
  (Option.bind (J_X0_lengthOf F rd p0) fun v_1 =>
    (Option.bind (J_X0_isArc F p0) fun v_2 =>
      (if v_2 = (0 : Int32) then
        (some (((1099511627776 : Int64) + (v_1.toInt64 * (1048576 : Int64))) + (0 : Int64)))
      else
        (some (((1099511627776 : Int64) + (v_1.toInt64 * (1048576 : Int64))) + (1 : Int64))))))
abbrev rmX2_hasReached : Room := ({ frames := 1, cells := 0, slots := 0, locals := 21 })
def J_X2_hasReached (F : Nat) (nCo : Nat) (co : Nat → Int64) (p0 : Int32) : Option (Int32) :=
  (Option.bind (J_X2_costAt F nCo co p0) fun v_1 =>
    (if (0 : Int32) ≤ (lg_cmp v_1 (1152921504606846976 : Int64)) then
      (some (0 : Int32))
    else
      (some (1 : Int32))))
abbrev rmX2_reach : Room := ({ frames := 0, cells := 0, slots := 0, locals := 0 })
def J_X2_reach (F : Nat) (rch : Int32) (nCo : Nat) (co : Nat → Int64) (nQu : Nat) (qu : Nat → Int32) (p0 : Int32) (p1 : Int64) : Option (Int32 × (Nat → Int64) × (Nat → Int32)) :=
  (if p0 < (0 : Int32) then
    (some (rch, co, qu))
  else
    (if p0 < (nI nCo) then
      (gd (inB p0 nCo)
        (if (lg_cmp (co p0.toNatClampNeg) (1152921504606846976 : Int64)) = (0 : Int32) then
          (if (nI nQu) ≤ rch then
            (gd (inB p0 nCo)
              (some (rch, (vp_updL co p0.toNatClampNeg p1), qu)))
          else
            (gd (inB rch nQu)
              (gd (inB p0 nCo)
                (some ((rch + (1 : Int32)), (vp_updL co p0.toNatClampNeg p1), (upd qu rch.toNatClampNeg p0))))))
        else
          (gd (inB p0 nCo)
            (some (rch, (vp_updL co p0.toNatClampNeg p1), qu)))))
    else
      (some (rch, co, qu))))
abbrev rmX2_takenBefore : Room := ({ frames := 1, cells := 0, slots := 0, locals := 21 })
def J_X2_takenBefore_L12 (F : Nat) (rch : Int32) (nCo : Nat) (co : Nat → Int64) (nQu : Nat) (qu : Nat → Int32) (y1_2 : Int32) (y2_3 : Int64) (kk_78 : Int32 → Int32 → Option (Int32)) : Nat → Int32 → Int32 → Option (Int32)
  | 0, _, _ => none
  | fz + 1, x4_4, x5_5 =>
    (if rch ≤ x5_5 then
      (kk_78 x4_4 x5_5)
    else
      (if (nI nQu) ≤ x5_5 then
        (kk_78 x4_4 x5_5)
      else
        (gd (inB x5_5 nQu)
          (Option.bind (J_X2_costAt F nCo co (qu x5_5.toNatClampNeg)) fun v_9 =>
            (if (lg_cmp v_9 y2_3) < (0 : Int32) then
              (J_X2_takenBefore_L12 F rch nCo co nQu qu y1_2 y2_3 kk_78 fz (x4_4 + (1 : Int32)) (x5_5 + (1 : Int32)))
            else
              (if (lg_cmp v_9 y2_3) = (0 : Int32) then
                (gd (inB x5_5 nQu)
                  (if y1_2 ≤ (qu x5_5.toNatClampNeg) then
                    (J_X2_takenBefore_L12 F rch nCo co nQu qu y1_2 y2_3 kk_78 fz x4_4 (x5_5 + (1 : Int32)))
                  else
                    (J_X2_takenBefore_L12 F rch nCo co nQu qu y1_2 y2_3 kk_78 fz (x4_4 + (1 : Int32)) (x5_5 + (1 : Int32)))))
              else
                (J_X2_takenBefore_L12 F rch nCo co nQu qu y1_2 y2_3 kk_78 fz x4_4 (x5_5 + (1 : Int32)))))))))
def J_X2_takenBefore (F : Nat) (rch : Int32) (nCo : Nat) (co : Nat → Int64) (nQu : Nat) (qu : Nat → Int32) (p0 : Int32) : Option (Int32) :=
  (Option.bind (J_X2_costAt F nCo co p0) fun v_1 =>
    (J_X2_takenBefore_L12 F rch nCo co nQu qu p0 v_1
      (fun x4_14 x5_15 =>
        (some x4_14))
      F (0 : Int32) (0 : Int32)))
abbrev rmX2_firstMoveFrom : Room := ({ frames := 5, cells := 0, slots := 0, locals := 114 })
def J_X2_firstMoveFrom_L2 (F : Nat) (nCo : Nat) (co : Nat → Int64) (ln : Int32) (wd : Int32) (rd : Int32) (nKn : Nat) (w : Int32) (ht : Int32) (tn : Int32) (nFk : Nat) (fk : Nat → Int32) (y1_1 : Int32) (kk_66 : Int32 → (Nat → Int32) → Option (Int32 × (Nat → Int32))) : Nat → Int32 → (Nat → Int32) → Option (Int32 × (Nat → Int32))
  | 0, _, _ => none
  | fz + 1, x2_2, xkn_3 =>
    (if (6 : Int32) ≤ x2_2 then
      (kk_66 x2_2 xkn_3)
    else
      (Option.bind (J_X0_landing F rd w ht tn y1_1 x2_2) fun v_5 =>
        (Option.bind (J_X2_costAt F nCo co v_5) fun v_6 =>
          (Option.bind (J_X2_costOf F rd x2_2) fun v_7 =>
            (Option.bind (J_X2_costAt F nCo co y1_1) fun v_8 =>
              (if (lg_cmp (v_6 + v_7) v_8) = (0 : Int32) then
                (Option.bind (J_X0_mayMake F ln wd rd nKn xkn_3 w ht tn nFk fk y1_1 x2_2) fun v_12 =>
                  (if v_12.1 = (0 : Int32) then
                    (J_X2_firstMoveFrom_L2 F nCo co ln wd rd nKn w ht tn nFk fk y1_1 kk_66 fz (x2_2 + (1 : Int32)) v_12.2)
                  else
                    (some (x2_2, v_12.2))))
              else
                (J_X2_firstMoveFrom_L2 F nCo co ln wd rd nKn w ht tn nFk fk y1_1 kk_66 fz (x2_2 + (1 : Int32)) xkn_3)))))))
def J_X2_firstMoveFrom (F : Nat) (nCo : Nat) (co : Nat → Int64) (ln : Int32) (wd : Int32) (rd : Int32) (nKn : Nat) (kn : Nat → Int32) (w : Int32) (ht : Int32) (tn : Int32) (nFk : Nat) (fk : Nat → Int32) (p0 : Int32) : Option (Int32 × (Nat → Int32)) :=
  (J_X2_firstMoveFrom_L2 F nCo co ln wd rd nKn w ht tn nFk fk p0
    (fun x2_14 xkn_15 =>
      (some ((-1 : Int32), xkn_15)))
    F (0 : Int32) kn)
abbrev rmX2_spreadFrom : Room := ({ frames := 5, cells := 0, slots := 0, locals := 114 })
def J_X2_spreadFrom_L62 (F : Nat) (nCo : Nat) (nQu : Nat) (ln : Int32) (wd : Int32) (rd : Int32) (nKn : Nat) (w : Int32) (ht : Int32) (tn : Int32) (nFk : Nat) (fk : Nat → Int32) (y3_14 : Int32) (kk_134 : Int32 → Int32 → (Nat → Int64) → (Nat → Int32) → (Nat → Int32) → Option (Int32 × (Nat → Int64) × (Nat → Int32) × (Nat → Int32))) : Nat → Int32 → Int32 → (Nat → Int64) → (Nat → Int32) → (Nat → Int32) → Option (Int32 × (Nat → Int64) × (Nat → Int32) × (Nat → Int32))
  | 0, _, _, _, _, _ => none
  | fz + 1, x4_15, xrch_16, xco_17, xqu_18, xkn_19 =>
    (if (6 : Int32) ≤ x4_15 then
      (kk_134 x4_15 xrch_16 xco_17 xqu_18 xkn_19)
    else
      (Option.bind (J_X0_landing F rd w ht tn y3_14 x4_15) fun v_21 =>
        (Option.bind (J_X2_costAt F nCo xco_17 y3_14) fun v_22 =>
          (Option.bind (J_X2_costOf F rd x4_15) fun v_23 =>
            (Option.bind (J_X2_costAt F nCo xco_17 v_21) fun v_24 =>
              (if (0 : Int32) ≤ (lg_cmp (v_22 + v_23) v_24) then
                (J_X2_spreadFrom_L62 F nCo nQu ln wd rd nKn w ht tn nFk fk y3_14 kk_134 fz (x4_15 + (1 : Int32)) xrch_16 xco_17 xqu_18 xkn_19)
              else
                (Option.bind (J_X0_mayMake F ln wd rd nKn xkn_19 w ht tn nFk fk y3_14 x4_15) fun v_26 =>
                  (if v_26.1 = (0 : Int32) then
                    (J_X2_spreadFrom_L62 F nCo nQu ln wd rd nKn w ht tn nFk fk y3_14 kk_134 fz (x4_15 + (1 : Int32)) xrch_16 xco_17 xqu_18 v_26.2)
                  else
                    (Option.bind (J_X2_reach F xrch_16 nCo xco_17 nQu xqu_18 v_21 (v_22 + v_23)) fun v_28 =>
                      (J_X2_spreadFrom_L62 F nCo nQu ln wd rd nKn w ht tn nFk fk y3_14 kk_134 fz (x4_15 + (1 : Int32)) v_28.1 v_28.2.1 v_28.2.2 v_26.2))))))))))
def J_X2_spreadFrom_L35 (F : Nat) (nCo : Nat) (nQu : Nat) (ln : Int32) (wd : Int32) (rd : Int32) (nKn : Nat) (w : Int32) (ht : Int32) (tn : Int32) (nFk : Nat) (fk : Nat → Int32) (kk_140 : Int32 → Int32 → (Nat → Int64) → (Nat → Int32) → (Nat → Int32) → Option (Int32 × (Nat → Int64) × (Nat → Int32) × (Nat → Int32))) : Nat → Int32 → Int32 → (Nat → Int64) → (Nat → Int32) → (Nat → Int32) → Option (Int32 × (Nat → Int64) × (Nat → Int32) × (Nat → Int32))
  | 0, _, _, _, _, _ => none
  | fz + 1, x2_5, xrch_6, xco_7, xqu_8, xkn_9 =>
    (if xrch_6 ≤ x2_5 then
      (kk_140 x2_5 xrch_6 xco_7 xqu_8 xkn_9)
    else
      (if (nI nQu) ≤ x2_5 then
        (kk_140 x2_5 xrch_6 xco_7 xqu_8 xkn_9)
      else
        (gd (inB x2_5 nQu)
          (J_X2_spreadFrom_L62 F nCo nQu ln wd rd nKn w ht tn nFk fk (xqu_8 x2_5.toNatClampNeg)
            (fun x4_29 xrch_30 xco_31 xqu_32 xkn_33 =>
              (J_X2_spreadFrom_L35 F nCo nQu ln wd rd nKn w ht tn nFk fk kk_140 fz (x2_5 + (1 : Int32)) xrch_30 xco_31 xqu_32 xkn_33))
            F (0 : Int32) xrch_6 xco_7 xqu_8 xkn_9))))
def J_X2_spreadFrom (F : Nat) (nCo : Nat) (co : Nat → Int64) (nQu : Nat) (qu : Nat → Int32) (ln : Int32) (wd : Int32) (rd : Int32) (nKn : Nat) (kn : Nat → Int32) (w : Int32) (ht : Int32) (tn : Int32) (nFk : Nat) (fk : Nat → Int32) (p0 : Int32) : Option (Int32 × (Nat → Int64) × (Nat → Int32) × (Nat → Int32)) :=
  (Option.bind (J_J7_fill_d0a16 F nCo co (1152921504606846976 : Int64)) fun v_1 =>
    (Option.bind (J_X0_isFree F ln wd nKn kn w ht nFk fk p0) fun v_2 =>
      (if v_2.1 = (0 : Int32) then
        (some ((0 : Int32), v_1, qu, v_2.2))
      else
        (Option.bind (J_X2_reach F (0 : Int32) nCo v_1 nQu qu p0 (0 : Int64)) fun v_4 =>
          (J_X2_spreadFrom_L35 F nCo nQu ln wd rd nKn w ht tn nFk fk
            (fun x2_34 xrch_35 xco_36 xqu_37 xkn_38 =>
              (some (xrch_35, xco_36, xqu_37, xkn_38)))
            F (0 : Int32) v_4.1 v_4.2.1 v_4.2.2 v_2.2)))))
abbrev rmX3_drop : Room := ({ frames := 0, cells := 0, slots := 0, locals := 0 })
def J_X3_drop (F : Nat) : Option (Int32 × Int32 × Int32) :=
  (some ((0 : Int32), (0 : Int32), (0 : Int32)))
abbrev rmX3_add : Room := ({ frames := 0, cells := 0, slots := 0, locals := 0 })
def J_X3_add (F : Nat) (cnt : Int32) (nMv : Nat) (mv : Nat → Int32) (nPl : Nat) (pl : Nat → Int32) (p0 : Int32) (p1 : Int32) : Option (Int32 × (Nat → Int32) × (Nat → Int32)) :=
  (if (nI nMv) ≤ cnt then
    (some (cnt, mv, pl))
  else
    (if (nI nPl) ≤ cnt then
      (some (cnt, mv, pl))
    else
      (gd (inB cnt nMv)
        (gd (inB cnt nPl)
          (some ((cnt + (1 : Int32)), (upd mv cnt.toNatClampNeg p0), (upd pl cnt.toNatClampNeg p1)))))))
abbrev rmX3_hasMove : Room := ({ frames := 0, cells := 0, slots := 0, locals := 0 })
def J_X3_hasMove (F : Nat) (cnt : Int32) (p0 : Int32) : Option (Int32) :=
  (if p0 < (0 : Int32) then
    (some (0 : Int32))
  else
    (if cnt ≤ p0 then
      (some (0 : Int32))
    else
      (some (1 : Int32))))
abbrev rmX3_moveAt : Room := ({ frames := 1, cells := 0, slots := 0, locals := 21 })
def J_X3_moveAt (F : Nat) (cnt : Int32) (nMv : Nat) (mv : Nat → Int32) (p0 : Int32) : Option (Int32) :=
  (Option.bind (J_X3_hasMove F cnt p0) fun v_1 =>
    (if v_1 = (0 : Int32) then
      (some (-1 : Int32))
    else
      (if (nI nMv) ≤ p0 then
        (some (-1 : Int32))
      else
        (gd (inB p0 nMv)
          (some (mv p0.toNatClampNeg))))))
abbrev rmX3_placeBehind : Room := ({ frames := 1, cells := 0, slots := 0, locals := 21 })
def J_X3_placeBehind (F : Nat) (cnt : Int32) (nPl : Nat) (pl : Nat → Int32) (p0 : Int32) : Option (Int32) :=
  (Option.bind (J_X3_hasMove F cnt p0) fun v_1 =>
    (if v_1 = (0 : Int32) then
      (some (-1 : Int32))
    else
      (if (nI nPl) ≤ p0 then
        (some (-1 : Int32))
      else
        (gd (inB p0 nPl)
          (some (pl p0.toNatClampNeg))))))
abbrev rmX4_setCell : Room := ({ frames := 3, cells := 0, slots := 0, locals := 70 })
def J_X4_setCell (F : Nat) (nKn : Nat) (kn : Nat → Int32) (w : Int32) (ht : Int32) (kp : Int32) (nFu : Nat) (fu : Nat → Int32) (nFk : Nat) (fk : Nat → Int32) (p0 : Int32) (p1 : Int32) (p2 : Int32) : Option (Int32 × (Nat → Int32) × (Nat → Int32) × (Nat → Int32)) :=
  (Option.bind (J_X1_setFull F w ht kp nFu fu nFk fk p0 p1 p2) fun v_1 =>
    (if v_1.1 = (0 : Int32) then
      (gd (isZ v_1.1)
        (some (v_1.1, kn, v_1.2.1, v_1.2.2)))
    else
      (Option.bind (J_X0_forget F nKn kn) fun v_4 =>
        (gd (isZ v_1.1)
          (some (v_1.1, v_4, v_1.2.1, v_1.2.2))))))
abbrev rmX4_addToError : Room := ({ frames := 0, cells := 0, slots := 0, locals := 0 })
def J_X4_addToError (F : Nat) (err : UInt64) (p0 : UInt64) : Option (UInt64) :=
  (gd (nfD (FP.dadd err p0))
    (if (Op.cmpValue (FP.dcmp (FP.dadd err p0) (4602678819172646912 : UInt64)) .l) ≤ (0 : Int32) then
      (if (0 : Int32) ≤ (Op.cmpValue (FP.dcmp (FP.dadd err p0) (13826050856027422720 : UInt64)) .g) then
        (some (FP.dadd err p0))
      else
        (gd (nfD (FP.dadd (FP.dadd err p0) FP.dconst1))
          (some (FP.dadd (FP.dadd err p0) FP.dconst1))))
    else
      (gd (nfD (FP.dsub (FP.dadd err p0) FP.dconst1))
        (some (FP.dsub (FP.dadd err p0) FP.dconst1)))))
abbrev rmX4_movesLeftMayBeMade : Room := ({ frames := 5, cells := 0, slots := 0, locals := 114 })
def J_X4_movesLeftMayBeMade_L13 (F : Nat) (ln : Int32) (wd : Int32) (rd : Int32) (nKn : Nat) (w : Int32) (ht : Int32) (tn : Int32) (nFk : Nat) (fk : Nat → Int32) (cnt : Int32) (nMv : Nat) (mv : Nat → Int32) (nPl : Nat) (pl : Nat → Int32) (kk_60 : Int32 → Int32 → (Nat → Int32) → Option (Int32 × (Nat → Int32))) : Nat → Int32 → Int32 → (Nat → Int32) → Option (Int32 × (Nat → Int32))
  | 0, _, _, _ => none
  | fz + 1, x1_1, x2_2, xkn_3 =>
    (if cnt ≤ x2_2 then
      (kk_60 x1_1 x2_2 xkn_3)
    else
      (Option.bind (J_X3_moveAt F cnt nMv mv x2_2) fun v_5 =>
        (Option.bind (J_X0_mayMake F ln wd rd nKn xkn_3 w ht tn nFk fk x1_1 v_5) fun v_6 =>
          (if v_6.1 = (0 : Int32) then
            (some ((0 : Int32), v_6.2))
          else
            (Option.bind (J_X3_placeBehind F cnt nPl pl x2_2) fun v_8 =>
              (J_X4_movesLeftMayBeMade_L13 F ln wd rd nKn w ht tn nFk fk cnt nMv mv nPl pl kk_60 fz v_8 (x2_2 + (1 : Int32)) v_6.2))))))
def J_X4_movesLeftMayBeMade (F : Nat) (plc : Int32) (ln : Int32) (wd : Int32) (rd : Int32) (nKn : Nat) (kn : Nat → Int32) (w : Int32) (ht : Int32) (tn : Int32) (nFk : Nat) (fk : Nat → Int32) (cnt : Int32) (mde : Int32) (nMv : Nat) (mv : Nat → Int32) (nPl : Nat) (pl : Nat → Int32) : Option (Int32 × (Nat → Int32)) :=
  (J_X4_movesLeftMayBeMade_L13 F ln wd rd nKn w ht tn nFk fk cnt nMv mv nPl pl
    (fun x1_9 x2_10 xkn_11 =>
      (some ((1 : Int32), xkn_11)))
    F plc mde kn)
abbrev rmX4_plan : Room := ({ frames := 6, cells := 0, slots := 0, locals := 141 })
def J_X4_plan_L117 (F : Nat) (gol : Int32) (nCo : Nat) (ln : Int32) (wd : Int32) (rd : Int32) (nKn : Nat) (w : Int32) (ht : Int32) (tn : Int32) (nFk : Nat) (fk : Nat → Int32) (nMv : Nat) (nPl : Nat) (yrch_10 : Int32) (yco_11 : Nat → Int64) (ystn_16 : Int32) (kk_183 : Int32 → Int32 → (Nat → Int32) → Int32 → (Nat → Int32) → (Nat → Int32) → Option (Int32 × Int32 × (Nat → Int64) × (Nat → Int32) × (Nat → Int32) × Int32 × Int32 × Int32 × (Nat → Int32) × (Nat → Int32))) : Nat → Int32 → Int32 → (Nat → Int32) → Int32 → (Nat → Int32) → (Nat → Int32) → Option (Int32 × Int32 × (Nat → Int64) × (Nat → Int32) × (Nat → Int32) × Int32 × Int32 × Int32 × (Nat → Int32) × (Nat → Int32))
  | 0, _, _, _, _, _, _ => none
  | fz + 1, x2_7, x3_8, xkn_13, xcnt_14, xmv_17, xpl_18 =>
    (if ystn_16 = (0 : Int32) then
      (kk_183 x2_7 x3_8 xkn_13 xcnt_14 xmv_17 xpl_18)
    else
      (if yrch_10 ≤ x3_8 then
        (kk_183 x2_7 x3_8 xkn_13 xcnt_14 xmv_17 xpl_18)
      else
        (if x2_7 = gol then
          (kk_183 x2_7 x3_8 xkn_13 xcnt_14 xmv_17 xpl_18)
        else
          (Option.bind (J_X2_firstMoveFrom F nCo yco_11 ln wd rd nKn xkn_13 w ht tn nFk fk x2_7) fun v_22 =>
            (Option.bind (J_X0_landing F rd w ht tn x2_7 v_22.1) fun v_23 =>
              (Option.bind (J_X3_add F xcnt_14 nMv xmv_17 nPl xpl_18 v_22.1 v_23) fun v_24 =>
                (J_X4_plan_L117 F gol nCo ln wd rd nKn w ht tn nFk fk nMv nPl yrch_10 yco_11 ystn_16 kk_183 fz v_23 (x3_8 + (1 : Int32)) v_22.2 v_24.1 v_24.2.1 v_24.2.2)))))))
def J_X4_plan (F : Nat) (plc : Int32) (gol : Int32) (stp : Int64) (nCo : Nat) (co : Nat → Int64) (nQu : Nat) (qu : Nat → Int32) (ln : Int32) (wd : Int32) (rd : Int32) (nKn : Nat) (kn : Nat → Int32) (w : Int32) (ht : Int32) (tn : Int32) (nFk : Nat) (fk : Nat → Int32) (nMv : Nat) (mv : Nat → Int32) (nPl : Nat) (pl : Nat → Int32) : Option (Int32 × Int32 × (Nat → Int64) × (Nat → Int32) × (Nat → Int32) × Int32 × Int32 × Int32 × (Nat → Int32) × (Nat → Int32)) :=
  (Option.bind (J_X3_drop F) fun v_1 =>
    (Option.bind (J_X2_spreadFrom F nCo co nQu qu ln wd rd nKn kn w ht tn nFk fk gol) fun v_2 =>
      (Option.bind (J_X2_hasReached F nCo v_2.2.1 plc) fun v_3 =>
        (if v_3 = (0 : Int32) then
          (if (0 : Int32) < (lg_cmp v_2.1.toInt64 stp) then
            (J_X4_plan_L117 F gol nCo ln wd rd nKn w ht tn nFk fk nMv nPl v_2.1 v_2.2.1 (0 : Int32)
              (fun x2_25 x3_26 xkn_27 xcnt_28 xmv_29 xpl_30 =>
                (some ((0 : Int32), v_2.1, v_2.2.1, v_2.2.2.1, xkn_27, xcnt_28, v_1.2.1, (0 : Int32), xmv_29, xpl_30)))
              F plc (0 : Int32) v_2.2.2.2 v_1.1 mv pl)
          else
            (if v_3 = (0 : Int32) then
              (J_X4_plan_L117 F gol nCo ln wd rd nKn w ht tn nFk fk nMv nPl v_2.1 v_2.2.1 (0 : Int32)
                (fun x2_33 x3_34 xkn_35 xcnt_36 xmv_37 xpl_38 =>
                  (some ((1 : Int32), v_2.1, v_2.2.1, v_2.2.2.1, xkn_35, xcnt_36, v_1.2.1, (0 : Int32), xmv_37, xpl_38)))
                F plc (0 : Int32) v_2.2.2.2 v_1.1 mv pl)
            else
              (J_X4_plan_L117 F gol nCo ln wd rd nKn w ht tn nFk fk nMv nPl v_2.1 v_2.2.1 (1 : Int32)
                (fun x2_39 x3_40 xkn_41 xcnt_42 xmv_43 xpl_44 =>
                  (some ((1 : Int32), v_2.1, v_2.2.1, v_2.2.2.1, xkn_41, xcnt_42, v_1.2.1, (1 : Int32), xmv_43, xpl_44)))
                F plc (0 : Int32) v_2.2.2.2 v_1.1 mv pl)))
        else
          (Option.bind (J_X2_takenBefore F v_2.1 nCo v_2.2.1 nQu v_2.2.2.1 plc) fun v_45 =>
            (if (0 : Int32) ≤ (lg_cmp v_45.toInt64 stp) then
              (J_X4_plan_L117 F gol nCo ln wd rd nKn w ht tn nFk fk nMv nPl v_2.1 v_2.2.1 (0 : Int32)
                (fun x2_48 x3_49 xkn_50 xcnt_51 xmv_52 xpl_53 =>
                  (some ((0 : Int32), v_2.1, v_2.2.1, v_2.2.2.1, xkn_50, xcnt_51, v_1.2.1, (0 : Int32), xmv_52, xpl_53)))
                F plc (0 : Int32) v_2.2.2.2 v_1.1 mv pl)
            else
              (if v_3 = (0 : Int32) then
                (J_X4_plan_L117 F gol nCo ln wd rd nKn w ht tn nFk fk nMv nPl v_2.1 v_2.2.1 (0 : Int32)
                  (fun x2_56 x3_57 xkn_58 xcnt_59 xmv_60 xpl_61 =>
                    (some ((1 : Int32), v_2.1, v_2.2.1, v_2.2.2.1, xkn_58, xcnt_59, v_1.2.1, (0 : Int32), xmv_60, xpl_61)))
                  F plc (0 : Int32) v_2.2.2.2 v_1.1 mv pl)
              else
                (J_X4_plan_L117 F gol nCo ln wd rd nKn w ht tn nFk fk nMv nPl v_2.1 v_2.2.1 (1 : Int32)
                  (fun x2_62 x3_63 xkn_64 xcnt_65 xmv_66 xpl_67 =>
                    (some ((1 : Int32), v_2.1, v_2.2.1, v_2.2.2.1, xkn_64, xcnt_65, v_1.2.1, (1 : Int32), xmv_66, xpl_67)))
                  F plc (0 : Int32) v_2.2.2.2 v_1.1 mv pl))))))))
abbrev rmX4_car : Room := ({ frames := 3, cells := 0, slots := 0, locals := 66 })
def J_X4_car (F : Nat) (ln : Int32) (wd : Int32) (rd : Int32) (nKn : Nat) (kn : Nat → Int32) (cnt : Int32) (mde : Int32) (stn : Int32) (p0 : Int32) (p1 : Int32) (p2 : Int32) : Option (Int32 × Int32 × Int32 × Int32 × (Nat → Int32) × Int32 × Int32 × Int32) :=
  (Option.bind (J_X4_isFrom F (1 : Int32) p0 (7 : Int32)) fun v_1 =>
    (if v_1 = (0 : Int32) then
      (some ((0 : Int32), ln, wd, rd, kn, cnt, mde, stn))
    else
      (Option.bind (J_X4_isFrom F (1 : Int32) p1 (5 : Int32)) fun v_3 =>
        (if v_3 = (0 : Int32) then
          (some ((0 : Int32), ln, wd, rd, kn, cnt, mde, stn))
        else
          (Option.bind (J_X4_isFrom F (1 : Int32) p2 (4 : Int32)) fun v_5 =>
            (if v_5 = (0 : Int32) then
              (some ((0 : Int32), ln, wd, rd, kn, cnt, mde, stn))
            else
              (Option.bind (J_X0_build F nKn kn p0 p1 p2) fun v_7 =>
                (Option.bind (J_X3_drop F) fun v_8 =>
                  (some ((1 : Int32), v_7.1, v_7.2.1, v_7.2.2.1, v_7.2.2.2, v_8.1, v_8.2.1, v_8.2.2))))))))))
abbrev rmX4_keep : Room := ({ frames := 3, cells := 0, slots := 0, locals := 70 })
def J_X4_keep (F : Nat) (nKn : Nat) (kn : Nat → Int32) (w : Int32) (ht : Int32) (kp : Int32) (nFu : Nat) (fu : Nat → Int32) (nFk : Nat) (fk : Nat → Int32) (cnt : Int32) (mde : Int32) (stn : Int32) (p0 : Int32) : Option (Int32 × (Nat → Int32) × Int32 × (Nat → Int32) × Int32 × Int32 × Int32) :=
  (Option.bind (J_X4_isFrom F (0 : Int32) p0 (3 : Int32)) fun v_1 =>
    (if v_1 = (0 : Int32) then
      (some ((-2 : Int32), kn, kp, fk, cnt, mde, stn))
    else
      (Option.bind (J_X1_setKeep F w ht nFu fu nFk fk p0) fun v_3 =>
        (Option.bind (J_X0_forget F nKn kn) fun v_4 =>
          (Option.bind (J_X3_drop F) fun v_5 =>
            (some (kp, v_4, v_3.1, v_3.2, v_5.1, v_5.2.1, v_5.2.2)))))))
abbrev rmX4_stand : Room := ({ frames := 4, cells := 0, slots := 0, locals := 88 })
def J_X4_stand (F : Nat) (plc : Int32) (hom : Int32) (ln : Int32) (wd : Int32) (nKn : Nat) (kn : Nat → Int32) (w : Int32) (ht : Int32) (tn : Int32) (nFk : Nat) (fk : Nat → Int32) (cnt : Int32) (mde : Int32) (stn : Int32) (p0 : Int32) (p1 : Int32) (p2 : Int32) : Option (Int32 × Int32 × Int32 × (Nat → Int32) × Int32 × Int32 × Int32) :=
  (Option.bind (J_X1_hasCell F w ht p0 p1) fun v_1 =>
    (if v_1 = (0 : Int32) then
      (some ((-2 : Int32), plc, hom, kn, cnt, mde, stn))
    else
      (Option.bind (J_X1_hasHeading F tn p2) fun v_3 =>
        (if v_3 = (0 : Int32) then
          (some ((-2 : Int32), plc, hom, kn, cnt, mde, stn))
        else
          (Option.bind (J_X4_placeAt F p0 p1 p2) fun v_5 =>
            (Option.bind (J_X0_isFree F ln wd nKn kn w ht nFk fk v_5) fun v_6 =>
              (if v_6.1 = (0 : Int32) then
                (some ((-3 : Int32), plc, hom, v_6.2, cnt, mde, stn))
              else
                (Option.bind (J_X3_drop F) fun v_8 =>
                  (some ((1 : Int32), v_5, v_5, v_6.2, v_8.1, v_8.2.1, v_8.2.2))))))))))
abbrev rmX4_space : Room := ({ frames := 4, cells := 0, slots := 0, locals := 91 })
def J_X4_space (F : Nat) (gol : Int32) (w : Int32) (ht : Int32) (nFu : Nat) (fu : Nat → Int32) (cnt : Int32) (mde : Int32) (stn : Int32) (p0 : Int32) (p1 : Int32) : Option (Int32 × Int32 × Int32 × Int32 × Int32) :=
  (Option.bind (J_X4_isFrom F (1 : Int32) p1 w) fun v_1 =>
    (if v_1 = (0 : Int32) then
      (some ((-2 : Int32), gol, cnt, mde, stn))
    else
      (if p0 = (0 : Int32) then
        (Option.bind (J_X1_firstRun F w ht nFu fu (0 : Int32) p1) fun v_9 =>
          (if (0 : Int32) ≤ v_9 then
            (Option.bind (J_X1_runLength F w ht nFu fu v_9 (0 : Int32)) fun v_11 =>
              (Option.bind (J_X4_placeAt F (v_9 + ((v_11 - (1 : Int32)) / (2 : Int32))) (0 : Int32) (0 : Int32)) fun v_12 =>
                (Option.bind (J_X3_drop F) fun v_13 =>
                  (some ((v_9 + (1 : Int32)), v_12, v_13.1, v_13.2.1, v_13.2.2)))))
          else
            (some ((0 : Int32), gol, cnt, mde, stn))))
      else
        (Option.bind (J_X1_firstRun F w ht nFu fu (ht - (1 : Int32)) p1) fun v_4 =>
          (if (0 : Int32) ≤ v_4 then
            (Option.bind (J_X1_runLength F w ht nFu fu v_4 (ht - (1 : Int32))) fun v_6 =>
              (Option.bind (J_X4_placeAt F (v_4 + ((v_6 - (1 : Int32)) / (2 : Int32))) (ht - (1 : Int32)) (0 : Int32)) fun v_7 =>
                (Option.bind (J_X3_drop F) fun v_8 =>
                  (some ((v_4 + (1 : Int32)), v_7, v_8.1, v_8.2.1, v_8.2.2)))))
          else
            (some ((0 : Int32), gol, cnt, mde, stn)))))))
abbrev rmX4_out : Room := ({ frames := 1, cells := 0, slots := 0, locals := 20 })
def J_X4_out (F : Nat) (hom : Int32) (gol : Int32) (cnt : Int32) (mde : Int32) (stn : Int32) : Option (Int32 × Int32 × Int32 × Int32 × Int32) :=
  (if gol = hom then
    (some ((0 : Int32), gol, cnt, mde, stn))
  else
    (Option.bind (J_X3_drop F) fun v_2 =>
      (some ((1 : Int32), hom, v_2.1, v_2.2.1, v_2.2.2))))
abbrev rmX4_way : Room := ({ frames := 7, cells := 0, slots := 0, locals := 165 })
def J_X4_way (F : Nat) (plc : Int32) (gol : Int32) (stp : Int64) (exa : Int32) (rch : Int32) (nCo : Nat) (co : Nat → Int64) (nQu : Nat) (qu : Nat → Int32) (ln : Int32) (wd : Int32) (rd : Int32) (nKn : Nat) (kn : Nat → Int32) (w : Int32) (ht : Int32) (tn : Int32) (nFk : Nat) (fk : Nat → Int32) (cnt : Int32) (mde : Int32) (stn : Int32) (nMv : Nat) (mv : Nat → Int32) (nPl : Nat) (pl : Nat → Int32) (p0 : Int64) : Option (Int32 × Int64 × Int32 × Int32 × (Nat → Int64) × (Nat → Int32) × (Nat → Int32) × Int32 × Int32 × Int32 × (Nat → Int32) × (Nat → Int32)) :=
  (if (0 : Int32) ≤ (lg_cmp p0 (0 : Int64)) then
    (Option.bind (J_X4_plan F plc gol p0 nCo co nQu qu ln wd rd nKn kn w ht tn nFk fk nMv mv nPl pl) fun v_2 =>
      (if v_2.1 = (0 : Int32) then
        (some ((-1 : Int32), p0, v_2.1, v_2.2.1, v_2.2.2.1, v_2.2.2.2.1, v_2.2.2.2.2.1, v_2.2.2.2.2.2.1, v_2.2.2.2.2.2.2.1, v_2.2.2.2.2.2.2.2.1, v_2.2.2.2.2.2.2.2.2.1, v_2.2.2.2.2.2.2.2.2.2))
      else
        (some (v_2.2.2.2.2.2.1, p0, v_2.1, v_2.2.1, v_2.2.2.1, v_2.2.2.2.1, v_2.2.2.2.2.1, v_2.2.2.2.2.2.1, v_2.2.2.2.2.2.2.1, v_2.2.2.2.2.2.2.2.1, v_2.2.2.2.2.2.2.2.2.1, v_2.2.2.2.2.2.2.2.2.2))))
  else
    (some ((-2 : Int32), stp, exa, rch, co, qu, kn, cnt, mde, stn, mv, pl)))
abbrev rmX4_move : Room := ({ frames := 2, cells := 0, slots := 0, locals := 42 })
def J_X4_move (F : Nat) (cnt : Int32) (nMv : Nat) (mv : Nat → Int32) (nPl : Nat) (pl : Nat → Int32) (p0 : Int32) (p1 : Int32) : Option (Int32) :=
  (Option.bind (J_X3_hasMove F cnt p0) fun v_1 =>
    (if v_1 = (0 : Int32) then
      (some (-1 : Int32))
    else
      (Option.bind (J_X3_placeBehind F cnt nPl pl p0) fun v_3 =>
        (if p1 = (0 : Int32) then
          (Option.bind (J_X3_moveAt F cnt nMv mv p0) fun v_5 =>
            (some v_5))
        else
          (if p1 = (1 : Int32) then
            (Option.bind (J_X4_xOf F v_3) fun v_6 =>
              (some v_6))
          else
            (if p1 = (2 : Int32) then
              (Option.bind (J_X4_yOf F v_3) fun v_7 =>
                (some v_7))
            else
              (if p1 = (3 : Int32) then
                (Option.bind (J_X4_headingOf F v_3) fun v_8 =>
                  (some v_8))
              else
                (some (-2 : Int32)))))))))
abbrev rmX4_exact : Room := ({ frames := 0, cells := 0, slots := 0, locals := 0 })
def J_X4_exact (F : Nat) (exa : Int32) : Option (Int32) :=
  (gd (isZ exa)
    (some exa))
abbrev rmX4_follow : Room := ({ frames := 2, cells := 0, slots := 0, locals := 42 })
def J_X4_follow_L55 (F : Nat) (hld : Int32) (cnt : Int32) (nPl : Nat) (pl : Nat → Int32) (y1_13 : Int32) (y2_14 : UInt64) (kk_129 : Int32 → Int32 → UInt64 → Int32 → Option (Int32 × Int32 × UInt64 × Int32)) : Nat → Int32 → Int32 → UInt64 → Int32 → Option (Int32 × Int32 × UInt64 × Int32)
  | 0, _, _, _, _ => none
  | fz + 1, x5_15, xplc_16, xerr_17, xmde_18 =>
    (if y1_13 ≤ x5_15 then
      (kk_129 x5_15 xplc_16 xerr_17 xmde_18)
    else
      (Option.bind (J_X3_hasMove F cnt xmde_18) fun v_20 =>
        (if v_20 = (0 : Int32) then
          (kk_129 x5_15 xplc_16 xerr_17 xmde_18)
        else
          (if hld = (0 : Int32) then
            (some ((2 : Int32), xplc_16, xerr_17, xmde_18))
          else
            (Option.bind (J_X3_placeBehind F cnt nPl pl xmde_18) fun v_23 =>
              (Option.bind (J_X4_addToError F xerr_17 y2_14) fun v_24 =>
                (J_X4_follow_L55 F hld cnt nPl pl y1_13 y2_14 kk_129 fz (x5_15 + (1 : Int32)) v_23 v_24 (xmde_18 + (1 : Int32)))))))))
def J_X4_follow (F : Nat) (plc : Int32) (hld : Int32) (err : UInt64) (cnt : Int32) (mde : Int32) (stn : Int32) (nPl : Nat) (pl : Nat → Int32) (p0 : Int32) (p1 : UInt64) : Option (Int32 × Int32 × UInt64 × Int32) :=
  (if (Op.cmpValue (FP.dcmp p1 (13830554455654793216 : UInt64)) .l) < (0 : Int32) then
    (Option.bind (J_X4_isFrom F (1 : Int32) p0 (1000 : Int32)) fun v_2 =>
      (if v_2 = (0 : Int32) then
        (some ((-2 : Int32), plc, err, mde))
      else
        (some ((-2 : Int32), plc, err, mde))))
  else
    (if (0 : Int32) < (Op.cmpValue (FP.dcmp p1 FP.dconst1) .g) then
      (Option.bind (J_X4_isFrom F (1 : Int32) p0 (1000 : Int32)) fun v_6 =>
        (if v_6 = (0 : Int32) then
          (some ((-2 : Int32), plc, err, mde))
        else
          (some ((-2 : Int32), plc, err, mde))))
    else
      (Option.bind (J_X4_isFrom F (1 : Int32) p0 (1000 : Int32)) fun v_9 =>
        (if v_9 = (0 : Int32) then
          (some ((-2 : Int32), plc, err, mde))
        else
          (if stn = (0 : Int32) then
            (some ((0 : Int32), plc, err, mde))
          else
            (J_X4_follow_L55 F hld cnt nPl pl p0 p1
              (fun x5_25 xplc_26 xerr_27 xmde_28 =>
                (some ((1 : Int32), xplc_26, xerr_27, xmde_28)))
              F (0 : Int32) plc err mde))))))
abbrev rmX4_error : Room := ({ frames := 0, cells := 0, slots := 0, locals := 0 })
def J_X4_error (F : Nat) (err : UInt64) : Option (UInt64) :=
  (some err)
abbrev rmX4_release : Room := ({ frames := 0, cells := 0, slots := 0, locals := 0 })
def J_X4_release (F : Nat) (hld : Int32) (p0 : Int32) : Option (Int32 × Int32) :=
  (if hld = p0 then
    (gd (isZ p0)
      (some ((0 : Int32), p0)))
  else
    (gd (isZ p0)
      (some ((1 : Int32), p0))))
abbrev rmX4_margin : Room := ({ frames := 4, cells := 0, slots := 0, locals := 94 })
def J_X4_margin (F : Nat) (ln : Int32) (wd : Int32) (w : Int32) (ht : Int32) (nFu : Nat) (fu : Nat → Int32) (cnt : Int32) (nPl : Nat) (pl : Nat → Int32) (p0 : Int32) : Option (Int32) :=
  (Option.bind (J_X3_hasMove F cnt p0) fun v_1 =>
    (if v_1 = (0 : Int32) then
      (some (-1 : Int32))
    else
      (Option.bind (J_X3_placeBehind F cnt nPl pl p0) fun v_3 =>
        (Option.bind (J_X0_marginAt F ln wd w ht nFu fu v_3) fun v_4 =>
          (some v_4)))))
abbrev rmX5_thrown : Room := ({ frames := 0, cells := 0, slots := 0, locals := 0 })
def J_X5_thrown (F : Nat) (cod : Int32) : Option (Int32) :=
  (some cod)
abbrev rmX5_isCell : Room := ({ frames := 0, cells := 0, slots := 0, locals := 0 })
def J_X5_isCell (F : Nat) (w : Int32) (ht : Int32) (p0 : Int32) (p1 : Int32) : Option (Int32) :=
  (if p0 < (0 : Int32) then
    (some (0 : Int32))
  else
    (if w ≤ p0 then
      (some (0 : Int32))
    else
      (if p1 < (0 : Int32) then
        (some (0 : Int32))
      else
        (if ht ≤ p1 then
          (some (0 : Int32))
        else
          (some (1 : Int32))))))
abbrev rmX5_dx : Room := ({ frames := 0, cells := 0, slots := 0, locals := 0 })
def J_X5_dx (F : Nat) (p0 : Int32) : Option (Int32) :=
  (if p0 = (0 : Int32) then
    (some (1 : Int32))
  else
    (if p0 = (1 : Int32) then
      (some (1 : Int32))
    else
      (if p0 = (7 : Int32) then
        (some (1 : Int32))
      else
        (if p0 = (2 : Int32) then
          (some (0 : Int32))
        else
          (if p0 = (6 : Int32) then
            (some (0 : Int32))
          else
            (some (-1 : Int32)))))))
abbrev rmX5_dy : Room := ({ frames := 0, cells := 0, slots := 0, locals := 0 })
def J_X5_dy (F : Nat) (p0 : Int32) : Option (Int32) :=
  (if p0 < (1 : Int32) then
    (if p0 = (0 : Int32) then
      (some (0 : Int32))
    else
      (if p0 = (4 : Int32) then
        (some (0 : Int32))
      else
        (some (-1 : Int32))))
  else
    (if (3 : Int32) < p0 then
      (if p0 = (0 : Int32) then
        (some (0 : Int32))
      else
        (if p0 = (4 : Int32) then
          (some (0 : Int32))
        else
          (some (-1 : Int32))))
    else
      (some (1 : Int32))))
abbrev rmX5_place : Room := ({ frames := 0, cells := 0, slots := 0, locals := 0 })
def J_X5_place (F : Nat) (p0 : Int32) (p1 : Int32) (p2 : Int32) : Option (Int32) :=
  (some (((8 : Int32) * (((24 : Int32) * p1) + p0)) + p2))
abbrev rmX5_xOf : Room := ({ frames := 0, cells := 0, slots := 0, locals := 0 })
def J_X5_xOf (F : Nat) (p0 : Int32) : Option (Int32) :=
  (some ((p0 / (8 : Int32)) - (p0 / (8 : Int32)) / (24 : Int32) * (24 : Int32)))
abbrev rmX5_yOf : Room := ({ frames := 0, cells := 0, slots := 0, locals := 0 })
def J_X5_yOf (F : Nat) (p0 : Int32) : Option (Int32) :=
  (some (p0 / (192 : Int32)))
abbrev rmX5_distance : Room := ({ frames := 1, cells := 0, slots := 0, locals := 22 })
def J_X5_distance_L24 (F : Nat) (w : Int32) (ht : Int32) (mf : Nat → Int32) (y1_6 : Int32) (y2_7 : Int32) (y4_9 : Int32) (kk_136 : Int32 → Int32 → Option (Int32)) : Nat → Int32 → Int32 → Option (Int32)
  | 0, _, _ => none
  | fz + 1, x3_8, x5_10 =>
    (if (y1_6 + (8 : Int32)) < x5_10 then
      (kk_136 x3_8 x5_10)
    else
      (Option.bind (J_X5_isCell F w ht x5_10 y4_9) fun v_12 =>
        (if v_12 = (0 : Int32) then
          (J_X5_distance_L24 F w ht mf y1_6 y2_7 y4_9 kk_136 fz x3_8 (x5_10 + (1 : Int32)))
        else
          (gd (inB (((24 : Int32) * y4_9) + x5_10) 576)
            (if (mf (((24 : Int32) * y4_9) + x5_10).toNatClampNeg) = (0 : Int32) then
              (J_X5_distance_L24 F w ht mf y1_6 y2_7 y4_9 kk_136 fz x3_8 (x5_10 + (1 : Int32)))
            else
              (if y1_6 ≤ x5_10 then
                (if y2_7 ≤ y4_9 then
                  (if (x5_10 - y1_6) ≤ (y4_9 - y2_7) then
                    (if x3_8 ≤ (y4_9 - y2_7) then
                      (J_X5_distance_L24 F w ht mf y1_6 y2_7 y4_9 kk_136 fz x3_8 (x5_10 + (1 : Int32)))
                    else
                      (J_X5_distance_L24 F w ht mf y1_6 y2_7 y4_9 kk_136 fz (y4_9 - y2_7) (x5_10 + (1 : Int32))))
                  else
                    (if x3_8 ≤ (x5_10 - y1_6) then
                      (J_X5_distance_L24 F w ht mf y1_6 y2_7 y4_9 kk_136 fz x3_8 (x5_10 + (1 : Int32)))
                    else
                      (J_X5_distance_L24 F w ht mf y1_6 y2_7 y4_9 kk_136 fz (x5_10 - y1_6) (x5_10 + (1 : Int32)))))
                else
                  (if (x5_10 - y1_6) ≤ (y2_7 - y4_9) then
                    (if x3_8 ≤ (y2_7 - y4_9) then
                      (J_X5_distance_L24 F w ht mf y1_6 y2_7 y4_9 kk_136 fz x3_8 (x5_10 + (1 : Int32)))
                    else
                      (J_X5_distance_L24 F w ht mf y1_6 y2_7 y4_9 kk_136 fz (y2_7 - y4_9) (x5_10 + (1 : Int32))))
                  else
                    (if x3_8 ≤ (x5_10 - y1_6) then
                      (J_X5_distance_L24 F w ht mf y1_6 y2_7 y4_9 kk_136 fz x3_8 (x5_10 + (1 : Int32)))
                    else
                      (J_X5_distance_L24 F w ht mf y1_6 y2_7 y4_9 kk_136 fz (x5_10 - y1_6) (x5_10 + (1 : Int32))))))
              else
                (if y2_7 ≤ y4_9 then
                  (if (y1_6 - x5_10) ≤ (y4_9 - y2_7) then
                    (if x3_8 ≤ (y4_9 - y2_7) then
                      (J_X5_distance_L24 F w ht mf y1_6 y2_7 y4_9 kk_136 fz x3_8 (x5_10 + (1 : Int32)))
                    else
                      (J_X5_distance_L24 F w ht mf y1_6 y2_7 y4_9 kk_136 fz (y4_9 - y2_7) (x5_10 + (1 : Int32))))
                  else
                    (if x3_8 ≤ (y1_6 - x5_10) then
                      (J_X5_distance_L24 F w ht mf y1_6 y2_7 y4_9 kk_136 fz x3_8 (x5_10 + (1 : Int32)))
                    else
                      (J_X5_distance_L24 F w ht mf y1_6 y2_7 y4_9 kk_136 fz (y1_6 - x5_10) (x5_10 + (1 : Int32)))))
                else
                  (if (y1_6 - x5_10) ≤ (y2_7 - y4_9) then
                    (if x3_8 ≤ (y2_7 - y4_9) then
                      (J_X5_distance_L24 F w ht mf y1_6 y2_7 y4_9 kk_136 fz x3_8 (x5_10 + (1 : Int32)))
                    else
                      (J_X5_distance_L24 F w ht mf y1_6 y2_7 y4_9 kk_136 fz (y2_7 - y4_9) (x5_10 + (1 : Int32))))
                  else
                    (if x3_8 ≤ (y1_6 - x5_10) then
                      (J_X5_distance_L24 F w ht mf y1_6 y2_7 y4_9 kk_136 fz x3_8 (x5_10 + (1 : Int32)))
                    else
                      (J_X5_distance_L24 F w ht mf y1_6 y2_7 y4_9 kk_136 fz (y1_6 - x5_10) (x5_10 + (1 : Int32))))))))))))
def J_X5_distance_L9 (F : Nat) (w : Int32) (ht : Int32) (mf : Nat → Int32) (y1_1 : Int32) (y2_2 : Int32) (kk_142 : Int32 → Int32 → Option (Int32)) : Nat → Int32 → Int32 → Option (Int32)
  | 0, _, _ => none
  | fz + 1, x3_3, x4_4 =>
    (if (y2_2 + (8 : Int32)) < x4_4 then
      (kk_142 x3_3 x4_4)
    else
      (J_X5_distance_L24 F w ht mf y1_1 y2_2 x4_4
        (fun x3_31 x5_32 =>
          (J_X5_distance_L9 F w ht mf y1_1 y2_2 kk_142 fz x3_31 (x4_4 + (1 : Int32))))
        F x3_3 (y1_1 - (8 : Int32))))
def J_X5_distance (F : Nat) (w : Int32) (ht : Int32) (mf : Nat → Int32) (p0 : Int32) (p1 : Int32) : Option (Int32) :=
  (J_X5_distance_L9 F w ht mf p0 p1
    (fun x3_33 x4_34 =>
      (some x3_33))
    F (9 : Int32) (p1 - (8 : Int32)))
abbrev rmX5_findNear : Room := ({ frames := 2, cells := 0, slots := 0, locals := 50 })
def J_X5_findNear_L12 (F : Nat) (w : Int32) (ht : Int32) (mf : Nat → Int32) (y1_4 : Int32) (kk_43 : Int32 → (Nat → Int32) → Option ((Nat → Int32))) : Nat → Int32 → (Nat → Int32) → Option ((Nat → Int32))
  | 0, _, _ => none
  | fz + 1, x2_5, xne_6 =>
    (if w ≤ x2_5 then
      (kk_43 x2_5 xne_6)
    else
      (Option.bind (J_X5_distance F w ht mf x2_5 y1_4) fun v_8 =>
        (gd (inB (((24 : Int32) * y1_4) + x2_5) 576)
          (J_X5_findNear_L12 F w ht mf y1_4 kk_43 fz (x2_5 + (1 : Int32)) (upd xne_6 (((24 : Int32) * y1_4) + x2_5).toNatClampNeg v_8)))))
def J_X5_findNear_L2 (F : Nat) (w : Int32) (ht : Int32) (mf : Nat → Int32) (kk_49 : Int32 → (Nat → Int32) → Option ((Nat → Int32))) : Nat → Int32 → (Nat → Int32) → Option ((Nat → Int32))
  | 0, _, _ => none
  | fz + 1, x1_1, xne_2 =>
    (if ht ≤ x1_1 then
      (kk_49 x1_1 xne_2)
    else
      (J_X5_findNear_L12 F w ht mf x1_1
        (fun x2_10 xne_11 =>
          (J_X5_findNear_L2 F w ht mf kk_49 fz (x1_1 + (1 : Int32)) xne_11))
        F (0 : Int32) xne_2))
def J_X5_findNear (F : Nat) (w : Int32) (ht : Int32) (mf : Nat → Int32) (ne : Nat → Int32) : Option ((Nat → Int32)) :=
  (J_X5_findNear_L2 F w ht mf
    (fun x1_12 xne_13 =>
      (some xne_13))
    F (0 : Int32) ne)
abbrev rmX5_clear : Room := ({ frames := 1, cells := 0, slots := 0, locals := 22 })
def J_X5_clear_L45 (F : Nat) (w : Int32) (ht : Int32) (wd : Int32) (ne : Nat → Int32) (y1_8 : Int32) (y2_9 : Int32) (y3_10 : Int32) (y5_12 : Int32) (y6_13 : Int32) (kk_146 : Int32 → Int32 → Option (Int32)) : Nat → Int32 → Int32 → Option (Int32)
  | 0, _, _ => none
  | fz + 1, x4_11, x7_14 =>
    (if (wd / (2 : Int32)) < x7_14 then
      (kk_146 x4_11 x7_14)
    else
      (Option.bind (J_X5_dx F y3_10) fun v_16 =>
        (Option.bind (J_X5_dx F y5_12) fun v_17 =>
          (Option.bind (J_X5_dy F y3_10) fun v_18 =>
            (Option.bind (J_X5_dy F y5_12) fun v_19 =>
              (Option.bind (J_X5_isCell F w ht ((y1_8 + (y6_13 * v_16)) + (x7_14 * v_17)) ((y2_9 + (y6_13 * v_18)) + (x7_14 * v_19))) fun v_20 =>
                (if v_20 = (0 : Int32) then
                  (some (-1 : Int32))
                else
                  (gd (inB (((24 : Int32) * ((y2_9 + (y6_13 * v_18)) + (x7_14 * v_19))) + ((y1_8 + (y6_13 * v_16)) + (x7_14 * v_17))) 576)
                    (if x4_11 ≤ (ne (((24 : Int32) * ((y2_9 + (y6_13 * v_18)) + (x7_14 * v_19))) + ((y1_8 + (y6_13 * v_16)) + (x7_14 * v_17))).toNatClampNeg) then
                      (J_X5_clear_L45 F w ht wd ne y1_8 y2_9 y3_10 y5_12 y6_13 kk_146 fz x4_11 (x7_14 + (1 : Int32)))
                    else
                      (J_X5_clear_L45 F w ht wd ne y1_8 y2_9 y3_10 y5_12 y6_13 kk_146 fz (ne (((24 : Int32) * ((y2_9 + (y6_13 * v_18)) + (x7_14 * v_19))) + ((y1_8 + (y6_13 * v_16)) + (x7_14 * v_17))).toNatClampNeg) (x7_14 + (1 : Int32))))))))))))
def J_X5_clear_L23 (F : Nat) (w : Int32) (ht : Int32) (ln : Int32) (wd : Int32) (ne : Nat → Int32) (y1_1 : Int32) (y2_2 : Int32) (y3_3 : Int32) (y5_5 : Int32) (kk_152 : Int32 → Int32 → Option (Int32)) : Nat → Int32 → Int32 → Option (Int32)
  | 0, _, _ => none
  | fz + 1, x4_4, x6_6 =>
    (if (ln / (2 : Int32)) < x6_6 then
      (kk_152 x4_4 x6_6)
    else
      (J_X5_clear_L45 F w ht wd ne y1_1 y2_2 y3_3 y5_5 x6_6
        (fun x4_24 x7_25 =>
          (J_X5_clear_L23 F w ht ln wd ne y1_1 y2_2 y3_3 y5_5 kk_152 fz x4_24 (x6_6 + (1 : Int32))))
        F x4_4 (-((wd - (1 : Int32)) / (2 : Int32)))))
def J_X5_clear (F : Nat) (w : Int32) (ht : Int32) (ln : Int32) (wd : Int32) (ne : Nat → Int32) (p0 : Int32) (p1 : Int32) (p2 : Int32) : Option (Int32) :=
  (J_X5_clear_L23 F w ht ln wd ne p0 p1 p2 ((p2 + (2 : Int32)) - (p2 + (2 : Int32)) / (8 : Int32) * (8 : Int32))
    (fun x4_26 x6_27 =>
      (some x4_26))
    F (9 : Int32) (-((ln - (1 : Int32)) / (2 : Int32))))
abbrev rmX5_isFree : Room := ({ frames := 2, cells := 0, slots := 0, locals := 52 })
def J_X5_isFree (F : Nat) (w : Int32) (ht : Int32) (ln : Int32) (wd : Int32) (kp : Int32) (ne : Nat → Int32) (p0 : Int32) (p1 : Int32) (p2 : Int32) : Option (Int32) :=
  (Option.bind (J_X5_isCell F w ht p0 p1) fun v_1 =>
    (if v_1 = (0 : Int32) then
      (some (0 : Int32))
    else
      (Option.bind (J_X5_clear F w ht ln wd ne p0 p1 p2) fun v_3 =>
        (if v_3 ≤ kp then
          (some (0 : Int32))
        else
          (some (1 : Int32))))))
abbrev rmX5_isHeading : Room := ({ frames := 0, cells := 0, slots := 0, locals := 0 })
def J_X5_isHeading (F : Nat) (fou : Int32) (p0 : Int32) : Option (Int32) :=
  (if p0 < (0 : Int32) then
    (some (0 : Int32))
  else
    (if (8 : Int32) ≤ p0 then
      (some (0 : Int32))
    else
      (if fou = (0 : Int32) then
        (some (1 : Int32))
      else
        (if (p0 - p0 / (2 : Int32) * (2 : Int32)) = (0 : Int32) then
          (some (1 : Int32))
        else
          (some (0 : Int32))))))
abbrev rmX5_moved : Room := ({ frames := 1, cells := 0, slots := 0, locals := 22 })
def J_X5_moved_L63 (F : Nat) (w : Int32) (ht : Int32) (fr : Nat → Int32) (y5_10 : Int32) (y6_11 : Int32) (y7_12 : Int32) (kk_128 : Int32 → Int32 → Int32 → Option (Int32)) : Nat → Int32 → Int32 → Int32 → Option (Int32)
  | 0, _, _, _ => none
  | fz + 1, x3_8, x4_9, x8_13 =>
    (if y7_12 ≤ x8_13 then
      (kk_128 x3_8 x4_9 x8_13)
    else
      (Option.bind (J_X5_dx F y5_10) fun v_15 =>
        (Option.bind (J_X5_dy F y5_10) fun v_16 =>
          (Option.bind (J_X5_isCell F w ht (x3_8 + (y6_11 * v_15)) (x4_9 + (y6_11 * v_16))) fun v_17 =>
            (if v_17 = (0 : Int32) then
              (some (-1 : Int32))
            else
              (Option.bind (J_X5_place F (x3_8 + (y6_11 * v_15)) (x4_9 + (y6_11 * v_16)) y5_10) fun v_19 =>
                (gd (inB v_19 4608)
                  (if (fr v_19.toNatClampNeg) = (0 : Int32) then
                    (some (-1 : Int32))
                  else
                    (J_X5_moved_L63 F w ht fr y5_10 y6_11 y7_12 kk_128 fz (x3_8 + (y6_11 * v_15)) (x4_9 + (y6_11 * v_16)) (x8_13 + (1 : Int32)))))))))))
def J_X5_moved_L204 (F : Nat) (w : Int32) (ht : Int32) (fr : Nat → Int32) (y5_33 : Int32) (y6_34 : Int32) (y7_35 : Int32) (kk_269 : Int32 → Int32 → Int32 → Option (Int32)) : Nat → Int32 → Int32 → Int32 → Option (Int32)
  | 0, _, _, _ => none
  | fz + 1, x3_31, x4_32, x9_36 =>
    (if y7_35 ≤ x9_36 then
      (kk_269 x3_31 x4_32 x9_36)
    else
      (Option.bind (J_X5_dx F y5_33) fun v_38 =>
        (Option.bind (J_X5_dy F y5_33) fun v_39 =>
          (Option.bind (J_X5_isCell F w ht (x3_31 + (y6_34 * v_38)) (x4_32 + (y6_34 * v_39))) fun v_40 =>
            (if v_40 = (0 : Int32) then
              (some (-1 : Int32))
            else
              (Option.bind (J_X5_place F (x3_31 + (y6_34 * v_38)) (x4_32 + (y6_34 * v_39)) y5_33) fun v_42 =>
                (gd (inB v_42 4608)
                  (if (fr v_42.toNatClampNeg) = (0 : Int32) then
                    (some (-1 : Int32))
                  else
                    (J_X5_moved_L204 F w ht fr y5_33 y6_34 y7_35 kk_269 fz (x3_31 + (y6_34 * v_38)) (x4_32 + (y6_34 * v_39)) (x9_36 + (1 : Int32)))))))))))
def J_X5_moved (F : Nat) (w : Int32) (ht : Int32) (fou : Int32) (rd : Int32) (fr : Nat → Int32) (p0 : Int32) (p1 : Int32) : Option (Int32) :=
  (gd (inB p0 4608)
    (if (fr p0.toNatClampNeg) = (0 : Int32) then
      (some (-1 : Int32))
    else
      (Option.bind (J_X5_xOf F p0) fun v_3 =>
        (Option.bind (J_X5_yOf F p0) fun v_4 =>
          (if p1 = (1 : Int32) then
            (if (2 : Int32) ≤ p1 then
              (J_X5_moved_L63 F w ht fr (p0 - p0 / (8 : Int32) * (8 : Int32)) (-1 : Int32) rd
                (fun x3_22 x4_23 x8_24 =>
                  (if (2 : Int32) ≤ p1 then
                    (if fou = (0 : Int32) then
                      (if (p1 - p1 / (2 : Int32) * (2 : Int32)) = (0 : Int32) then
                        (Option.bind (J_X5_place F x3_22 x4_23 (((p0 - p0 / (8 : Int32) * (8 : Int32)) + (1 : Int32)) - ((p0 - p0 / (8 : Int32) * (8 : Int32)) + (1 : Int32)) / (8 : Int32) * (8 : Int32))) fun v_49 =>
                          (gd (inB v_49 4608)
                            (if (fr v_49.toNatClampNeg) = (0 : Int32) then
                              (some (-1 : Int32))
                            else
                              (J_X5_moved_L204 F w ht fr (((p0 - p0 / (8 : Int32) * (8 : Int32)) + (1 : Int32)) - ((p0 - p0 / (8 : Int32) * (8 : Int32)) + (1 : Int32)) / (8 : Int32) * (8 : Int32)) (-1 : Int32) rd
                                (fun x3_52 x4_53 x9_54 =>
                                  (Option.bind (J_X5_place F x3_52 x4_53 (((p0 - p0 / (8 : Int32) * (8 : Int32)) + (1 : Int32)) - ((p0 - p0 / (8 : Int32) * (8 : Int32)) + (1 : Int32)) / (8 : Int32) * (8 : Int32))) fun v_55 =>
                                    (some v_55)))
                                F x3_22 x4_23 (0 : Int32)))))
                      else
                        (Option.bind (J_X5_place F x3_22 x4_23 ((((p0 - p0 / (8 : Int32) * (8 : Int32)) + (8 : Int32)) - (1 : Int32)) - (((p0 - p0 / (8 : Int32) * (8 : Int32)) + (8 : Int32)) - (1 : Int32)) / (8 : Int32) * (8 : Int32))) fun v_28 =>
                          (gd (inB v_28 4608)
                            (if (fr v_28.toNatClampNeg) = (0 : Int32) then
                              (some (-1 : Int32))
                            else
                              (J_X5_moved_L204 F w ht fr ((((p0 - p0 / (8 : Int32) * (8 : Int32)) + (8 : Int32)) - (1 : Int32)) - (((p0 - p0 / (8 : Int32) * (8 : Int32)) + (8 : Int32)) - (1 : Int32)) / (8 : Int32) * (8 : Int32)) (-1 : Int32) rd
                                (fun x3_45 x4_46 x9_47 =>
                                  (Option.bind (J_X5_place F x3_45 x4_46 ((((p0 - p0 / (8 : Int32) * (8 : Int32)) + (8 : Int32)) - (1 : Int32)) - (((p0 - p0 / (8 : Int32) * (8 : Int32)) + (8 : Int32)) - (1 : Int32)) / (8 : Int32) * (8 : Int32))) fun v_48 =>
                                    (some v_48)))
                                F x3_22 x4_23 (0 : Int32))))))
                    else
                      (if (p1 - p1 / (2 : Int32) * (2 : Int32)) = (0 : Int32) then
                        (Option.bind (J_X5_place F x3_22 x4_23 (((p0 - p0 / (8 : Int32) * (8 : Int32)) + (2 : Int32)) - ((p0 - p0 / (8 : Int32) * (8 : Int32)) + (2 : Int32)) / (8 : Int32) * (8 : Int32))) fun v_64 =>
                          (gd (inB v_64 4608)
                            (if (fr v_64.toNatClampNeg) = (0 : Int32) then
                              (some (-1 : Int32))
                            else
                              (J_X5_moved_L204 F w ht fr (((p0 - p0 / (8 : Int32) * (8 : Int32)) + (2 : Int32)) - ((p0 - p0 / (8 : Int32) * (8 : Int32)) + (2 : Int32)) / (8 : Int32) * (8 : Int32)) (-1 : Int32) rd
                                (fun x3_67 x4_68 x9_69 =>
                                  (Option.bind (J_X5_place F x3_67 x4_68 (((p0 - p0 / (8 : Int32) * (8 : Int32)) + (2 : Int32)) - ((p0 - p0 / (8 : Int32) * (8 : Int32)) + (2 : Int32)) / (8 : Int32) * (8 : Int32))) fun v_70 =>
                                    (some v_70)))
                                F x3_22 x4_23 (0 : Int32)))))
                      else
                        (Option.bind (J_X5_place F x3_22 x4_23 ((((p0 - p0 / (8 : Int32) * (8 : Int32)) + (8 : Int32)) - (2 : Int32)) - (((p0 - p0 / (8 : Int32) * (8 : Int32)) + (8 : Int32)) - (2 : Int32)) / (8 : Int32) * (8 : Int32))) fun v_57 =>
                          (gd (inB v_57 4608)
                            (if (fr v_57.toNatClampNeg) = (0 : Int32) then
                              (some (-1 : Int32))
                            else
                              (J_X5_moved_L204 F w ht fr ((((p0 - p0 / (8 : Int32) * (8 : Int32)) + (8 : Int32)) - (2 : Int32)) - (((p0 - p0 / (8 : Int32) * (8 : Int32)) + (8 : Int32)) - (2 : Int32)) / (8 : Int32) * (8 : Int32)) (-1 : Int32) rd
                                (fun x3_60 x4_61 x9_62 =>
                                  (Option.bind (J_X5_place F x3_60 x4_61 ((((p0 - p0 / (8 : Int32) * (8 : Int32)) + (8 : Int32)) - (2 : Int32)) - (((p0 - p0 / (8 : Int32) * (8 : Int32)) + (8 : Int32)) - (2 : Int32)) / (8 : Int32) * (8 : Int32))) fun v_63 =>
                                    (some v_63)))
                                F x3_22 x4_23 (0 : Int32)))))))
                  else
                    (Option.bind (J_X5_place F x3_22 x4_23 (p0 - p0 / (8 : Int32) * (8 : Int32))) fun v_71 =>
                      (some v_71))))
                F v_3 v_4 (0 : Int32))
            else
              (J_X5_moved_L63 F w ht fr (p0 - p0 / (8 : Int32) * (8 : Int32)) (-1 : Int32) (1 : Int32)
                (fun x3_72 x4_73 x8_74 =>
                  (if (2 : Int32) ≤ p1 then
                    (if fou = (0 : Int32) then
                      (if (p1 - p1 / (2 : Int32) * (2 : Int32)) = (0 : Int32) then
                        (Option.bind (J_X5_place F x3_72 x4_73 (((p0 - p0 / (8 : Int32) * (8 : Int32)) + (1 : Int32)) - ((p0 - p0 / (8 : Int32) * (8 : Int32)) + (1 : Int32)) / (8 : Int32) * (8 : Int32))) fun v_85 =>
                          (gd (inB v_85 4608)
                            (if (fr v_85.toNatClampNeg) = (0 : Int32) then
                              (some (-1 : Int32))
                            else
                              (J_X5_moved_L204 F w ht fr (((p0 - p0 / (8 : Int32) * (8 : Int32)) + (1 : Int32)) - ((p0 - p0 / (8 : Int32) * (8 : Int32)) + (1 : Int32)) / (8 : Int32) * (8 : Int32)) (-1 : Int32) (1 : Int32)
                                (fun x3_88 x4_89 x9_90 =>
                                  (Option.bind (J_X5_place F x3_88 x4_89 (((p0 - p0 / (8 : Int32) * (8 : Int32)) + (1 : Int32)) - ((p0 - p0 / (8 : Int32) * (8 : Int32)) + (1 : Int32)) / (8 : Int32) * (8 : Int32))) fun v_91 =>
                                    (some v_91)))
                                F x3_72 x4_73 (0 : Int32)))))
                      else
                        (Option.bind (J_X5_place F x3_72 x4_73 ((((p0 - p0 / (8 : Int32) * (8 : Int32)) + (8 : Int32)) - (1 : Int32)) - (((p0 - p0 / (8 : Int32) * (8 : Int32)) + (8 : Int32)) - (1 : Int32)) / (8 : Int32) * (8 : Int32))) fun v_78 =>
                          (gd (inB v_78 4608)
                            (if (fr v_78.toNatClampNeg) = (0 : Int32) then
                              (some (-1 : Int32))
                            else
                              (J_X5_moved_L204 F w ht fr ((((p0 - p0 / (8 : Int32) * (8 : Int32)) + (8 : Int32)) - (1 : Int32)) - (((p0 - p0 / (8 : Int32) * (8 : Int32)) + (8 : Int32)) - (1 : Int32)) / (8 : Int32) * (8 : Int32)) (-1 : Int32) (1 : Int32)
                                (fun x3_81 x4_82 x9_83 =>
                                  (Option.bind (J_X5_place F x3_81 x4_82 ((((p0 - p0 / (8 : Int32) * (8 : Int32)) + (8 : Int32)) - (1 : Int32)) - (((p0 - p0 / (8 : Int32) * (8 : Int32)) + (8 : Int32)) - (1 : Int32)) / (8 : Int32) * (8 : Int32))) fun v_84 =>
                                    (some v_84)))
                                F x3_72 x4_73 (0 : Int32))))))
                    else
                      (if (p1 - p1 / (2 : Int32) * (2 : Int32)) = (0 : Int32) then
                        (Option.bind (J_X5_place F x3_72 x4_73 (((p0 - p0 / (8 : Int32) * (8 : Int32)) + (2 : Int32)) - ((p0 - p0 / (8 : Int32) * (8 : Int32)) + (2 : Int32)) / (8 : Int32) * (8 : Int32))) fun v_100 =>
                          (gd (inB v_100 4608)
                            (if (fr v_100.toNatClampNeg) = (0 : Int32) then
                              (some (-1 : Int32))
                            else
                              (J_X5_moved_L204 F w ht fr (((p0 - p0 / (8 : Int32) * (8 : Int32)) + (2 : Int32)) - ((p0 - p0 / (8 : Int32) * (8 : Int32)) + (2 : Int32)) / (8 : Int32) * (8 : Int32)) (-1 : Int32) (1 : Int32)
                                (fun x3_103 x4_104 x9_105 =>
                                  (Option.bind (J_X5_place F x3_103 x4_104 (((p0 - p0 / (8 : Int32) * (8 : Int32)) + (2 : Int32)) - ((p0 - p0 / (8 : Int32) * (8 : Int32)) + (2 : Int32)) / (8 : Int32) * (8 : Int32))) fun v_106 =>
                                    (some v_106)))
                                F x3_72 x4_73 (0 : Int32)))))
                      else
                        (Option.bind (J_X5_place F x3_72 x4_73 ((((p0 - p0 / (8 : Int32) * (8 : Int32)) + (8 : Int32)) - (2 : Int32)) - (((p0 - p0 / (8 : Int32) * (8 : Int32)) + (8 : Int32)) - (2 : Int32)) / (8 : Int32) * (8 : Int32))) fun v_93 =>
                          (gd (inB v_93 4608)
                            (if (fr v_93.toNatClampNeg) = (0 : Int32) then
                              (some (-1 : Int32))
                            else
                              (J_X5_moved_L204 F w ht fr ((((p0 - p0 / (8 : Int32) * (8 : Int32)) + (8 : Int32)) - (2 : Int32)) - (((p0 - p0 / (8 : Int32) * (8 : Int32)) + (8 : Int32)) - (2 : Int32)) / (8 : Int32) * (8 : Int32)) (-1 : Int32) (1 : Int32)
                                (fun x3_96 x4_97 x9_98 =>
                                  (Option.bind (J_X5_place F x3_96 x4_97 ((((p0 - p0 / (8 : Int32) * (8 : Int32)) + (8 : Int32)) - (2 : Int32)) - (((p0 - p0 / (8 : Int32) * (8 : Int32)) + (8 : Int32)) - (2 : Int32)) / (8 : Int32) * (8 : Int32))) fun v_99 =>
                                    (some v_99)))
                                F x3_72 x4_73 (0 : Int32)))))))
                  else
                    (Option.bind (J_X5_place F x3_72 x4_73 (p0 - p0 / (8 : Int32) * (8 : Int32))) fun v_107 =>
                      (some v_107))))
                F v_3 v_4 (0 : Int32)))
          else
            (if p1 ≤ (3 : Int32) then
              (if (2 : Int32) ≤ p1 then
                (J_X5_moved_L63 F w ht fr (p0 - p0 / (8 : Int32) * (8 : Int32)) (1 : Int32) rd
                  (fun x3_110 x4_111 x8_112 =>
                    (if (2 : Int32) ≤ p1 then
                      (if fou = (0 : Int32) then
                        (if (p1 - p1 / (2 : Int32) * (2 : Int32)) = (0 : Int32) then
                          (Option.bind (J_X5_place F x3_110 x4_111 (((p0 - p0 / (8 : Int32) * (8 : Int32)) + (1 : Int32)) - ((p0 - p0 / (8 : Int32) * (8 : Int32)) + (1 : Int32)) / (8 : Int32) * (8 : Int32))) fun v_123 =>
                            (gd (inB v_123 4608)
                              (if (fr v_123.toNatClampNeg) = (0 : Int32) then
                                (some (-1 : Int32))
                              else
                                (J_X5_moved_L204 F w ht fr (((p0 - p0 / (8 : Int32) * (8 : Int32)) + (1 : Int32)) - ((p0 - p0 / (8 : Int32) * (8 : Int32)) + (1 : Int32)) / (8 : Int32) * (8 : Int32)) (1 : Int32) rd
                                  (fun x3_126 x4_127 x9_128 =>
                                    (Option.bind (J_X5_place F x3_126 x4_127 (((p0 - p0 / (8 : Int32) * (8 : Int32)) + (1 : Int32)) - ((p0 - p0 / (8 : Int32) * (8 : Int32)) + (1 : Int32)) / (8 : Int32) * (8 : Int32))) fun v_129 =>
                                      (some v_129)))
                                  F x3_110 x4_111 (0 : Int32)))))
                        else
                          (Option.bind (J_X5_place F x3_110 x4_111 ((((p0 - p0 / (8 : Int32) * (8 : Int32)) + (8 : Int32)) - (1 : Int32)) - (((p0 - p0 / (8 : Int32) * (8 : Int32)) + (8 : Int32)) - (1 : Int32)) / (8 : Int32) * (8 : Int32))) fun v_116 =>
                            (gd (inB v_116 4608)
                              (if (fr v_116.toNatClampNeg) = (0 : Int32) then
                                (some (-1 : Int32))
                              else
                                (J_X5_moved_L204 F w ht fr ((((p0 - p0 / (8 : Int32) * (8 : Int32)) + (8 : Int32)) - (1 : Int32)) - (((p0 - p0 / (8 : Int32) * (8 : Int32)) + (8 : Int32)) - (1 : Int32)) / (8 : Int32) * (8 : Int32)) (1 : Int32) rd
                                  (fun x3_119 x4_120 x9_121 =>
                                    (Option.bind (J_X5_place F x3_119 x4_120 ((((p0 - p0 / (8 : Int32) * (8 : Int32)) + (8 : Int32)) - (1 : Int32)) - (((p0 - p0 / (8 : Int32) * (8 : Int32)) + (8 : Int32)) - (1 : Int32)) / (8 : Int32) * (8 : Int32))) fun v_122 =>
                                      (some v_122)))
                                  F x3_110 x4_111 (0 : Int32))))))
                      else
                        (if (p1 - p1 / (2 : Int32) * (2 : Int32)) = (0 : Int32) then
                          (Option.bind (J_X5_place F x3_110 x4_111 (((p0 - p0 / (8 : Int32) * (8 : Int32)) + (2 : Int32)) - ((p0 - p0 / (8 : Int32) * (8 : Int32)) + (2 : Int32)) / (8 : Int32) * (8 : Int32))) fun v_138 =>
                            (gd (inB v_138 4608)
                              (if (fr v_138.toNatClampNeg) = (0 : Int32) then
                                (some (-1 : Int32))
                              else
                                (J_X5_moved_L204 F w ht fr (((p0 - p0 / (8 : Int32) * (8 : Int32)) + (2 : Int32)) - ((p0 - p0 / (8 : Int32) * (8 : Int32)) + (2 : Int32)) / (8 : Int32) * (8 : Int32)) (1 : Int32) rd
                                  (fun x3_141 x4_142 x9_143 =>
                                    (Option.bind (J_X5_place F x3_141 x4_142 (((p0 - p0 / (8 : Int32) * (8 : Int32)) + (2 : Int32)) - ((p0 - p0 / (8 : Int32) * (8 : Int32)) + (2 : Int32)) / (8 : Int32) * (8 : Int32))) fun v_144 =>
                                      (some v_144)))
                                  F x3_110 x4_111 (0 : Int32)))))
                        else
                          (Option.bind (J_X5_place F x3_110 x4_111 ((((p0 - p0 / (8 : Int32) * (8 : Int32)) + (8 : Int32)) - (2 : Int32)) - (((p0 - p0 / (8 : Int32) * (8 : Int32)) + (8 : Int32)) - (2 : Int32)) / (8 : Int32) * (8 : Int32))) fun v_131 =>
                            (gd (inB v_131 4608)
                              (if (fr v_131.toNatClampNeg) = (0 : Int32) then
                                (some (-1 : Int32))
                              else
                                (J_X5_moved_L204 F w ht fr ((((p0 - p0 / (8 : Int32) * (8 : Int32)) + (8 : Int32)) - (2 : Int32)) - (((p0 - p0 / (8 : Int32) * (8 : Int32)) + (8 : Int32)) - (2 : Int32)) / (8 : Int32) * (8 : Int32)) (1 : Int32) rd
                                  (fun x3_134 x4_135 x9_136 =>
                                    (Option.bind (J_X5_place F x3_134 x4_135 ((((p0 - p0 / (8 : Int32) * (8 : Int32)) + (8 : Int32)) - (2 : Int32)) - (((p0 - p0 / (8 : Int32) * (8 : Int32)) + (8 : Int32)) - (2 : Int32)) / (8 : Int32) * (8 : Int32))) fun v_137 =>
                                      (some v_137)))
                                  F x3_110 x4_111 (0 : Int32)))))))
                    else
                      (Option.bind (J_X5_place F x3_110 x4_111 (p0 - p0 / (8 : Int32) * (8 : Int32))) fun v_145 =>
                        (some v_145))))
                  F v_3 v_4 (0 : Int32))
              else
                (J_X5_moved_L63 F w ht fr (p0 - p0 / (8 : Int32) * (8 : Int32)) (1 : Int32) (1 : Int32)
                  (fun x3_146 x4_147 x8_148 =>
                    (if (2 : Int32) ≤ p1 then
                      (if fou = (0 : Int32) then
                        (if (p1 - p1 / (2 : Int32) * (2 : Int32)) = (0 : Int32) then
                          (Option.bind (J_X5_place F x3_146 x4_147 (((p0 - p0 / (8 : Int32) * (8 : Int32)) + (1 : Int32)) - ((p0 - p0 / (8 : Int32) * (8 : Int32)) + (1 : Int32)) / (8 : Int32) * (8 : Int32))) fun v_159 =>
                            (gd (inB v_159 4608)
                              (if (fr v_159.toNatClampNeg) = (0 : Int32) then
                                (some (-1 : Int32))
                              else
                                (J_X5_moved_L204 F w ht fr (((p0 - p0 / (8 : Int32) * (8 : Int32)) + (1 : Int32)) - ((p0 - p0 / (8 : Int32) * (8 : Int32)) + (1 : Int32)) / (8 : Int32) * (8 : Int32)) (1 : Int32) (1 : Int32)
                                  (fun x3_162 x4_163 x9_164 =>
                                    (Option.bind (J_X5_place F x3_162 x4_163 (((p0 - p0 / (8 : Int32) * (8 : Int32)) + (1 : Int32)) - ((p0 - p0 / (8 : Int32) * (8 : Int32)) + (1 : Int32)) / (8 : Int32) * (8 : Int32))) fun v_165 =>
                                      (some v_165)))
                                  F x3_146 x4_147 (0 : Int32)))))
                        else
                          (Option.bind (J_X5_place F x3_146 x4_147 ((((p0 - p0 / (8 : Int32) * (8 : Int32)) + (8 : Int32)) - (1 : Int32)) - (((p0 - p0 / (8 : Int32) * (8 : Int32)) + (8 : Int32)) - (1 : Int32)) / (8 : Int32) * (8 : Int32))) fun v_152 =>
                            (gd (inB v_152 4608)
                              (if (fr v_152.toNatClampNeg) = (0 : Int32) then
                                (some (-1 : Int32))
                              else
                                (J_X5_moved_L204 F w ht fr ((((p0 - p0 / (8 : Int32) * (8 : Int32)) + (8 : Int32)) - (1 : Int32)) - (((p0 - p0 / (8 : Int32) * (8 : Int32)) + (8 : Int32)) - (1 : Int32)) / (8 : Int32) * (8 : Int32)) (1 : Int32) (1 : Int32)
                                  (fun x3_155 x4_156 x9_157 =>
                                    (Option.bind (J_X5_place F x3_155 x4_156 ((((p0 - p0 / (8 : Int32) * (8 : Int32)) + (8 : Int32)) - (1 : Int32)) - (((p0 - p0 / (8 : Int32) * (8 : Int32)) + (8 : Int32)) - (1 : Int32)) / (8 : Int32) * (8 : Int32))) fun v_158 =>
                                      (some v_158)))
                                  F x3_146 x4_147 (0 : Int32))))))
                      else
                        (if (p1 - p1 / (2 : Int32) * (2 : Int32)) = (0 : Int32) then
                          (Option.bind (J_X5_place F x3_146 x4_147 (((p0 - p0 / (8 : Int32) * (8 : Int32)) + (2 : Int32)) - ((p0 - p0 / (8 : Int32) * (8 : Int32)) + (2 : Int32)) / (8 : Int32) * (8 : Int32))) fun v_174 =>
                            (gd (inB v_174 4608)
                              (if (fr v_174.toNatClampNeg) = (0 : Int32) then
                                (some (-1 : Int32))
                              else
                                (J_X5_moved_L204 F w ht fr (((p0 - p0 / (8 : Int32) * (8 : Int32)) + (2 : Int32)) - ((p0 - p0 / (8 : Int32) * (8 : Int32)) + (2 : Int32)) / (8 : Int32) * (8 : Int32)) (1 : Int32) (1 : Int32)
                                  (fun x3_177 x4_178 x9_179 =>
                                    (Option.bind (J_X5_place F x3_177 x4_178 (((p0 - p0 / (8 : Int32) * (8 : Int32)) + (2 : Int32)) - ((p0 - p0 / (8 : Int32) * (8 : Int32)) + (2 : Int32)) / (8 : Int32) * (8 : Int32))) fun v_180 =>
                                      (some v_180)))
                                  F x3_146 x4_147 (0 : Int32)))))
                        else
                          (Option.bind (J_X5_place F x3_146 x4_147 ((((p0 - p0 / (8 : Int32) * (8 : Int32)) + (8 : Int32)) - (2 : Int32)) - (((p0 - p0 / (8 : Int32) * (8 : Int32)) + (8 : Int32)) - (2 : Int32)) / (8 : Int32) * (8 : Int32))) fun v_167 =>
                            (gd (inB v_167 4608)
                              (if (fr v_167.toNatClampNeg) = (0 : Int32) then
                                (some (-1 : Int32))
                              else
                                (J_X5_moved_L204 F w ht fr ((((p0 - p0 / (8 : Int32) * (8 : Int32)) + (8 : Int32)) - (2 : Int32)) - (((p0 - p0 / (8 : Int32) * (8 : Int32)) + (8 : Int32)) - (2 : Int32)) / (8 : Int32) * (8 : Int32)) (1 : Int32) (1 : Int32)
                                  (fun x3_170 x4_171 x9_172 =>
                                    (Option.bind (J_X5_place F x3_170 x4_171 ((((p0 - p0 / (8 : Int32) * (8 : Int32)) + (8 : Int32)) - (2 : Int32)) - (((p0 - p0 / (8 : Int32) * (8 : Int32)) + (8 : Int32)) - (2 : Int32)) / (8 : Int32) * (8 : Int32))) fun v_173 =>
                                      (some v_173)))
                                  F x3_146 x4_147 (0 : Int32)))))))
                    else
                      (Option.bind (J_X5_place F x3_146 x4_147 (p0 - p0 / (8 : Int32) * (8 : Int32))) fun v_181 =>
                        (some v_181))))
                  F v_3 v_4 (0 : Int32)))
            else
              (if (2 : Int32) ≤ p1 then
                (J_X5_moved_L63 F w ht fr (p0 - p0 / (8 : Int32) * (8 : Int32)) (-1 : Int32) rd
                  (fun x3_183 x4_184 x8_185 =>
                    (if (2 : Int32) ≤ p1 then
                      (if fou = (0 : Int32) then
                        (if (p1 - p1 / (2 : Int32) * (2 : Int32)) = (0 : Int32) then
                          (Option.bind (J_X5_place F x3_183 x4_184 (((p0 - p0 / (8 : Int32) * (8 : Int32)) + (1 : Int32)) - ((p0 - p0 / (8 : Int32) * (8 : Int32)) + (1 : Int32)) / (8 : Int32) * (8 : Int32))) fun v_196 =>
                            (gd (inB v_196 4608)
                              (if (fr v_196.toNatClampNeg) = (0 : Int32) then
                                (some (-1 : Int32))
                              else
                                (J_X5_moved_L204 F w ht fr (((p0 - p0 / (8 : Int32) * (8 : Int32)) + (1 : Int32)) - ((p0 - p0 / (8 : Int32) * (8 : Int32)) + (1 : Int32)) / (8 : Int32) * (8 : Int32)) (-1 : Int32) rd
                                  (fun x3_199 x4_200 x9_201 =>
                                    (Option.bind (J_X5_place F x3_199 x4_200 (((p0 - p0 / (8 : Int32) * (8 : Int32)) + (1 : Int32)) - ((p0 - p0 / (8 : Int32) * (8 : Int32)) + (1 : Int32)) / (8 : Int32) * (8 : Int32))) fun v_202 =>
                                      (some v_202)))
                                  F x3_183 x4_184 (0 : Int32)))))
                        else
                          (Option.bind (J_X5_place F x3_183 x4_184 ((((p0 - p0 / (8 : Int32) * (8 : Int32)) + (8 : Int32)) - (1 : Int32)) - (((p0 - p0 / (8 : Int32) * (8 : Int32)) + (8 : Int32)) - (1 : Int32)) / (8 : Int32) * (8 : Int32))) fun v_189 =>
                            (gd (inB v_189 4608)
                              (if (fr v_189.toNatClampNeg) = (0 : Int32) then
                                (some (-1 : Int32))
                              else
                                (J_X5_moved_L204 F w ht fr ((((p0 - p0 / (8 : Int32) * (8 : Int32)) + (8 : Int32)) - (1 : Int32)) - (((p0 - p0 / (8 : Int32) * (8 : Int32)) + (8 : Int32)) - (1 : Int32)) / (8 : Int32) * (8 : Int32)) (-1 : Int32) rd
                                  (fun x3_192 x4_193 x9_194 =>
                                    (Option.bind (J_X5_place F x3_192 x4_193 ((((p0 - p0 / (8 : Int32) * (8 : Int32)) + (8 : Int32)) - (1 : Int32)) - (((p0 - p0 / (8 : Int32) * (8 : Int32)) + (8 : Int32)) - (1 : Int32)) / (8 : Int32) * (8 : Int32))) fun v_195 =>
                                      (some v_195)))
                                  F x3_183 x4_184 (0 : Int32))))))
                      else
                        (if (p1 - p1 / (2 : Int32) * (2 : Int32)) = (0 : Int32) then
                          (Option.bind (J_X5_place F x3_183 x4_184 (((p0 - p0 / (8 : Int32) * (8 : Int32)) + (2 : Int32)) - ((p0 - p0 / (8 : Int32) * (8 : Int32)) + (2 : Int32)) / (8 : Int32) * (8 : Int32))) fun v_211 =>
                            (gd (inB v_211 4608)
                              (if (fr v_211.toNatClampNeg) = (0 : Int32) then
                                (some (-1 : Int32))
                              else
                                (J_X5_moved_L204 F w ht fr (((p0 - p0 / (8 : Int32) * (8 : Int32)) + (2 : Int32)) - ((p0 - p0 / (8 : Int32) * (8 : Int32)) + (2 : Int32)) / (8 : Int32) * (8 : Int32)) (-1 : Int32) rd
                                  (fun x3_214 x4_215 x9_216 =>
                                    (Option.bind (J_X5_place F x3_214 x4_215 (((p0 - p0 / (8 : Int32) * (8 : Int32)) + (2 : Int32)) - ((p0 - p0 / (8 : Int32) * (8 : Int32)) + (2 : Int32)) / (8 : Int32) * (8 : Int32))) fun v_217 =>
                                      (some v_217)))
                                  F x3_183 x4_184 (0 : Int32)))))
                        else
                          (Option.bind (J_X5_place F x3_183 x4_184 ((((p0 - p0 / (8 : Int32) * (8 : Int32)) + (8 : Int32)) - (2 : Int32)) - (((p0 - p0 / (8 : Int32) * (8 : Int32)) + (8 : Int32)) - (2 : Int32)) / (8 : Int32) * (8 : Int32))) fun v_204 =>
                            (gd (inB v_204 4608)
                              (if (fr v_204.toNatClampNeg) = (0 : Int32) then
                                (some (-1 : Int32))
                              else
                                (J_X5_moved_L204 F w ht fr ((((p0 - p0 / (8 : Int32) * (8 : Int32)) + (8 : Int32)) - (2 : Int32)) - (((p0 - p0 / (8 : Int32) * (8 : Int32)) + (8 : Int32)) - (2 : Int32)) / (8 : Int32) * (8 : Int32)) (-1 : Int32) rd
                                  (fun x3_207 x4_208 x9_209 =>
                                    (Option.bind (J_X5_place F x3_207 x4_208 ((((p0 - p0 / (8 : Int32) * (8 : Int32)) + (8 : Int32)) - (2 : Int32)) - (((p0 - p0 / (8 : Int32) * (8 : Int32)) + (8 : Int32)) - (2 : Int32)) / (8 : Int32) * (8 : Int32))) fun v_210 =>
                                      (some v_210)))
                                  F x3_183 x4_184 (0 : Int32)))))))
                    else
                      (Option.bind (J_X5_place F x3_183 x4_184 (p0 - p0 / (8 : Int32) * (8 : Int32))) fun v_218 =>
                        (some v_218))))
                  F v_3 v_4 (0 : Int32))
              else
                (J_X5_moved_L63 F w ht fr (p0 - p0 / (8 : Int32) * (8 : Int32)) (-1 : Int32) (1 : Int32)
                  (fun x3_219 x4_220 x8_221 =>
                    (if (2 : Int32) ≤ p1 then
                      (if fou = (0 : Int32) then
                        (if (p1 - p1 / (2 : Int32) * (2 : Int32)) = (0 : Int32) then
                          (Option.bind (J_X5_place F x3_219 x4_220 (((p0 - p0 / (8 : Int32) * (8 : Int32)) + (1 : Int32)) - ((p0 - p0 / (8 : Int32) * (8 : Int32)) + (1 : Int32)) / (8 : Int32) * (8 : Int32))) fun v_232 =>
                            (gd (inB v_232 4608)
                              (if (fr v_232.toNatClampNeg) = (0 : Int32) then
                                (some (-1 : Int32))
                              else
                                (J_X5_moved_L204 F w ht fr (((p0 - p0 / (8 : Int32) * (8 : Int32)) + (1 : Int32)) - ((p0 - p0 / (8 : Int32) * (8 : Int32)) + (1 : Int32)) / (8 : Int32) * (8 : Int32)) (-1 : Int32) (1 : Int32)
                                  (fun x3_235 x4_236 x9_237 =>
                                    (Option.bind (J_X5_place F x3_235 x4_236 (((p0 - p0 / (8 : Int32) * (8 : Int32)) + (1 : Int32)) - ((p0 - p0 / (8 : Int32) * (8 : Int32)) + (1 : Int32)) / (8 : Int32) * (8 : Int32))) fun v_238 =>
                                      (some v_238)))
                                  F x3_219 x4_220 (0 : Int32)))))
                        else
                          (Option.bind (J_X5_place F x3_219 x4_220 ((((p0 - p0 / (8 : Int32) * (8 : Int32)) + (8 : Int32)) - (1 : Int32)) - (((p0 - p0 / (8 : Int32) * (8 : Int32)) + (8 : Int32)) - (1 : Int32)) / (8 : Int32) * (8 : Int32))) fun v_225 =>
                            (gd (inB v_225 4608)
                              (if (fr v_225.toNatClampNeg) = (0 : Int32) then
                                (some (-1 : Int32))
                              else
                                (J_X5_moved_L204 F w ht fr ((((p0 - p0 / (8 : Int32) * (8 : Int32)) + (8 : Int32)) - (1 : Int32)) - (((p0 - p0 / (8 : Int32) * (8 : Int32)) + (8 : Int32)) - (1 : Int32)) / (8 : Int32) * (8 : Int32)) (-1 : Int32) (1 : Int32)
                                  (fun x3_228 x4_229 x9_230 =>
                                    (Option.bind (J_X5_place F x3_228 x4_229 ((((p0 - p0 / (8 : Int32) * (8 : Int32)) + (8 : Int32)) - (1 : Int32)) - (((p0 - p0 / (8 : Int32) * (8 : Int32)) + (8 : Int32)) - (1 : Int32)) / (8 : Int32) * (8 : Int32))) fun v_231 =>
                                      (some v_231)))
                                  F x3_219 x4_220 (0 : Int32))))))
                      else
                        (if (p1 - p1 / (2 : Int32) * (2 : Int32)) = (0 : Int32) then
                          (Option.bind (J_X5_place F x3_219 x4_220 (((p0 - p0 / (8 : Int32) * (8 : Int32)) + (2 : Int32)) - ((p0 - p0 / (8 : Int32) * (8 : Int32)) + (2 : Int32)) / (8 : Int32) * (8 : Int32))) fun v_247 =>
                            (gd (inB v_247 4608)
                              (if (fr v_247.toNatClampNeg) = (0 : Int32) then
                                (some (-1 : Int32))
                              else
                                (J_X5_moved_L204 F w ht fr (((p0 - p0 / (8 : Int32) * (8 : Int32)) + (2 : Int32)) - ((p0 - p0 / (8 : Int32) * (8 : Int32)) + (2 : Int32)) / (8 : Int32) * (8 : Int32)) (-1 : Int32) (1 : Int32)
                                  (fun x3_250 x4_251 x9_252 =>
                                    (Option.bind (J_X5_place F x3_250 x4_251 (((p0 - p0 / (8 : Int32) * (8 : Int32)) + (2 : Int32)) - ((p0 - p0 / (8 : Int32) * (8 : Int32)) + (2 : Int32)) / (8 : Int32) * (8 : Int32))) fun v_253 =>
                                      (some v_253)))
                                  F x3_219 x4_220 (0 : Int32)))))
                        else
                          (Option.bind (J_X5_place F x3_219 x4_220 ((((p0 - p0 / (8 : Int32) * (8 : Int32)) + (8 : Int32)) - (2 : Int32)) - (((p0 - p0 / (8 : Int32) * (8 : Int32)) + (8 : Int32)) - (2 : Int32)) / (8 : Int32) * (8 : Int32))) fun v_240 =>
                            (gd (inB v_240 4608)
                              (if (fr v_240.toNatClampNeg) = (0 : Int32) then
                                (some (-1 : Int32))
                              else
                                (J_X5_moved_L204 F w ht fr ((((p0 - p0 / (8 : Int32) * (8 : Int32)) + (8 : Int32)) - (2 : Int32)) - (((p0 - p0 / (8 : Int32) * (8 : Int32)) + (8 : Int32)) - (2 : Int32)) / (8 : Int32) * (8 : Int32)) (-1 : Int32) (1 : Int32)
                                  (fun x3_243 x4_244 x9_245 =>
                                    (Option.bind (J_X5_place F x3_243 x4_244 ((((p0 - p0 / (8 : Int32) * (8 : Int32)) + (8 : Int32)) - (2 : Int32)) - (((p0 - p0 / (8 : Int32) * (8 : Int32)) + (8 : Int32)) - (2 : Int32)) / (8 : Int32) * (8 : Int32))) fun v_246 =>
                                      (some v_246)))
                                  F x3_219 x4_220 (0 : Int32)))))))
                    else
                      (Option.bind (J_X5_place F x3_219 x4_220 (p0 - p0 / (8 : Int32) * (8 : Int32))) fun v_254 =>
                        (some v_254))))
                  F v_3 v_4 (0 : Int32)))))))))
abbrev rmX5_findFree : Room := ({ frames := 3, cells := 0, slots := 0, locals := 75 })
def J_X5_findFree_L26 (F : Nat) (w : Int32) (ht : Int32) (fou : Int32) (ln : Int32) (wd : Int32) (kp : Int32) (y1_11 : Int32) (y2_12 : Int32) (yne_15 : Nat → Int32) (kk_72 : Int32 → (Nat → Int32) → Option ((Nat → Int32) × (Nat → Int32))) : Nat → Int32 → (Nat → Int32) → Option ((Nat → Int32) × (Nat → Int32))
  | 0, _, _ => none
  | fz + 1, x3_13, xfr_14 =>
    (if (8 : Int32) ≤ x3_13 then
      (kk_72 x3_13 xfr_14)
    else
      (Option.bind (J_X5_place F y2_12 y1_11 x3_13) fun v_17 =>
        (Option.bind (J_X5_isHeading F fou x3_13) fun v_18 =>
          (if v_18 = (0 : Int32) then
            (gd (inB v_17 4608)
              (J_X5_findFree_L26 F w ht fou ln wd kp y1_11 y2_12 yne_15 kk_72 fz (x3_13 + (1 : Int32)) (upd xfr_14 v_17.toNatClampNeg (vp_nar .boolean (0 : Int32)))))
          else
            (Option.bind (J_X5_isFree F w ht ln wd kp yne_15 y2_12 y1_11 x3_13) fun v_21 =>
              (if v_21 = (0 : Int32) then
                (gd (inB v_17 4608)
                  (J_X5_findFree_L26 F w ht fou ln wd kp y1_11 y2_12 yne_15 kk_72 fz (x3_13 + (1 : Int32)) (upd xfr_14 v_17.toNatClampNeg (vp_nar .boolean (0 : Int32)))))
              else
                (gd (inB v_17 4608)
                  (J_X5_findFree_L26 F w ht fou ln wd kp y1_11 y2_12 yne_15 kk_72 fz (x3_13 + (1 : Int32)) (upd xfr_14 v_17.toNatClampNeg (vp_nar .boolean (1 : Int32)))))))))))
def J_X5_findFree_L16 (F : Nat) (w : Int32) (ht : Int32) (fou : Int32) (ln : Int32) (wd : Int32) (kp : Int32) (y1_6 : Int32) (yne_9 : Nat → Int32) (kk_78 : Int32 → (Nat → Int32) → Option ((Nat → Int32) × (Nat → Int32))) : Nat → Int32 → (Nat → Int32) → Option ((Nat → Int32) × (Nat → Int32))
  | 0, _, _ => none
  | fz + 1, x2_7, xfr_8 =>
    (if w ≤ x2_7 then
      (kk_78 x2_7 xfr_8)
    else
      (J_X5_findFree_L26 F w ht fou ln wd kp y1_6 x2_7 yne_9
        (fun x3_25 xfr_26 =>
          (J_X5_findFree_L16 F w ht fou ln wd kp y1_6 yne_9 kk_78 fz (x2_7 + (1 : Int32)) xfr_26))
        F (0 : Int32) xfr_8))
def J_X5_findFree_L6 (F : Nat) (w : Int32) (ht : Int32) (fou : Int32) (ln : Int32) (wd : Int32) (kp : Int32) (yne_4 : Nat → Int32) (kk_84 : Int32 → (Nat → Int32) → Option ((Nat → Int32) × (Nat → Int32))) : Nat → Int32 → (Nat → Int32) → Option ((Nat → Int32) × (Nat → Int32))
  | 0, _, _ => none
  | fz + 1, x1_2, xfr_3 =>
    (if ht ≤ x1_2 then
      (kk_84 x1_2 xfr_3)
    else
      (J_X5_findFree_L16 F w ht fou ln wd kp x1_2 yne_4
        (fun x2_27 xfr_28 =>
          (J_X5_findFree_L6 F w ht fou ln wd kp yne_4 kk_84 fz (x1_2 + (1 : Int32)) xfr_28))
        F (0 : Int32) xfr_3))
def J_X5_findFree (F : Nat) (w : Int32) (ht : Int32) (fou : Int32) (ln : Int32) (wd : Int32) (kp : Int32) (mf : Nat → Int32) (fr : Nat → Int32) (ne : Nat → Int32) : Option ((Nat → Int32) × (Nat → Int32)) :=
  (Option.bind (J_X5_findNear F w ht mf ne) fun v_1 =>
    (J_X5_findFree_L6 F w ht fou ln wd kp v_1
      (fun x1_29 xfr_30 =>
        (some (xfr_30, v_1)))
      F (0 : Int32) fr))
abbrev rmX5_more : Room := ({ frames := 0, cells := 0, slots := 0, locals := 0 })
def J_X5_more (F : Nat) (rd : Int32) (p0 : Int32) : Option (Int32) :=
  (if (2 : Int32) ≤ p0 then
    (some (((200000 : Int32) * rd) + (1 : Int32)))
  else
    (some (100000 : Int32)))
abbrev rmX5_findCosts : Room := ({ frames := 4, cells := 0, slots := 0, locals := 98 })
def J_X5_findCosts_L6 (F : Nat) (kk_27 : Int32 → (Nat → Int32) → Option ((Nat → Int32) × (Nat → Int32) × (Nat → Int32) × (Nat → Int32) × (Nat → Int32))) : Nat → Int32 → (Nat → Int32) → Option ((Nat → Int32) × (Nat → Int32) × (Nat → Int32) × (Nat → Int32) × (Nat → Int32))
  | 0, _, _ => none
  | fz + 1, x1_2, xfa_3 =>
    (if (4608 : Int32) ≤ x1_2 then
      (kk_27 x1_2 xfa_3)
    else
      (gd (inB x1_2 4608)
        (J_X5_findCosts_L6 F kk_27 fz (x1_2 + (1 : Int32)) (upd xfa_3 x1_2.toNatClampNeg (1000000000 : Int32)))))
def J_X5_findCosts_L89 (F : Nat) (w : Int32) (ht : Int32) (fou : Int32) (rd : Int32) (y3_28 : Int32) (yfr_32 : Nat → Int32) (kk_244 : Int32 → Int32 → (Nat → Int32) → (Nat → Int32) → (Nat → Int32) → Option ((Nat → Int32) × (Nat → Int32) × (Nat → Int32) × (Nat → Int32) × (Nat → Int32))) : Nat → Int32 → Int32 → (Nat → Int32) → (Nat → Int32) → (Nat → Int32) → Option ((Nat → Int32) × (Nat → Int32) × (Nat → Int32) × (Nat → Int32) × (Nat → Int32))
  | 0, _, _, _, _, _ => none
  | fz + 1, x1_26, x4_29, xfa_30, xcs_31, xro_33 =>
    (if (6 : Int32) ≤ x4_29 then
      (kk_244 x1_26 x4_29 xfa_30 xcs_31 xro_33)
    else
      (if (2 : Int32) ≤ x4_29 then
        (Option.bind (J_X5_moved F w ht fou rd yfr_32 y3_28 ((7 : Int32) - x4_29)) fun v_37 =>
          (if v_37 < (0 : Int32) then
            (J_X5_findCosts_L89 F w ht fou rd y3_28 yfr_32 kk_244 fz x1_26 (x4_29 + (1 : Int32)) xfa_30 xcs_31 xro_33)
          else
            (gd (inB v_37 4608)
              (gd (inB y3_28 4608)
                (if (xfa_30 y3_28.toNatClampNeg) < (xfa_30 v_37.toNatClampNeg) then
                  (gd (inB y3_28 4608)
                    (Option.bind (J_X5_more F rd x4_29) fun v_43 =>
                      (gd (inB v_37 4608)
                        (if (xfa_30 v_37.toNatClampNeg) = (1000000000 : Int32) then
                          (gd (inB x1_26 4608)
                            (gd (inB v_37 4608)
                              (gd (inB y3_28 4608)
                                (gd (inB v_37 4608)
                                  (gd (inB v_37 4608)
                                    (if ((upd xcs_31 v_37.toNatClampNeg ((xcs_31 y3_28.toNatClampNeg) + v_43)) v_37.toNatClampNeg) ≤ ((xcs_31 y3_28.toNatClampNeg) + v_43) then
                                      (gd (inB v_37 4608)
                                        (gd (inB v_37 4608)
                                          (J_X5_findCosts_L89 F w ht fou rd y3_28 yfr_32 kk_244 fz (x1_26 + (1 : Int32)) (x4_29 + (1 : Int32)) (upd xfa_30 v_37.toNatClampNeg ((xfa_30 y3_28.toNatClampNeg) + (1 : Int32))) (upd (upd xcs_31 v_37.toNatClampNeg ((xcs_31 y3_28.toNatClampNeg) + v_43)) v_37.toNatClampNeg ((upd xcs_31 v_37.toNatClampNeg ((xcs_31 y3_28.toNatClampNeg) + v_43)) v_37.toNatClampNeg)) (upd xro_33 x1_26.toNatClampNeg v_37))))
                                    else
                                      (gd (inB v_37 4608)
                                        (J_X5_findCosts_L89 F w ht fou rd y3_28 yfr_32 kk_244 fz (x1_26 + (1 : Int32)) (x4_29 + (1 : Int32)) (upd xfa_30 v_37.toNatClampNeg ((xfa_30 y3_28.toNatClampNeg) + (1 : Int32))) (upd (upd xcs_31 v_37.toNatClampNeg ((xcs_31 y3_28.toNatClampNeg) + v_43)) v_37.toNatClampNeg ((xcs_31 y3_28.toNatClampNeg) + v_43)) (upd xro_33 x1_26.toNatClampNeg v_37)))))))))
                        else
                          (gd (inB y3_28 4608)
                            (gd (inB v_37 4608)
                              (gd (inB v_37 4608)
                                (if (xcs_31 v_37.toNatClampNeg) ≤ ((xcs_31 y3_28.toNatClampNeg) + v_43) then
                                  (gd (inB v_37 4608)
                                    (gd (inB v_37 4608)
                                      (J_X5_findCosts_L89 F w ht fou rd y3_28 yfr_32 kk_244 fz x1_26 (x4_29 + (1 : Int32)) (upd xfa_30 v_37.toNatClampNeg ((xfa_30 y3_28.toNatClampNeg) + (1 : Int32))) (upd xcs_31 v_37.toNatClampNeg (xcs_31 v_37.toNatClampNeg)) xro_33)))
                                else
                                  (gd (inB v_37 4608)
                                    (J_X5_findCosts_L89 F w ht fou rd y3_28 yfr_32 kk_244 fz x1_26 (x4_29 + (1 : Int32)) (upd xfa_30 v_37.toNatClampNeg ((xfa_30 y3_28.toNatClampNeg) + (1 : Int32))) (upd xcs_31 v_37.toNatClampNeg ((xcs_31 y3_28.toNatClampNeg) + v_43)) xro_33))))))))))
                else
                  (J_X5_findCosts_L89 F w ht fou rd y3_28 yfr_32 kk_244 fz x1_26 (x4_29 + (1 : Int32)) xfa_30 xcs_31 xro_33))))))
      else
        (Option.bind (J_X5_moved F w ht fou rd yfr_32 y3_28 ((1 : Int32) - x4_29)) fun v_62 =>
          (if v_62 < (0 : Int32) then
            (J_X5_findCosts_L89 F w ht fou rd y3_28 yfr_32 kk_244 fz x1_26 (x4_29 + (1 : Int32)) xfa_30 xcs_31 xro_33)
          else
            (gd (inB v_62 4608)
              (gd (inB y3_28 4608)
                (if (xfa_30 y3_28.toNatClampNeg) < (xfa_30 v_62.toNatClampNeg) then
                  (gd (inB y3_28 4608)
                    (Option.bind (J_X5_more F rd x4_29) fun v_68 =>
                      (gd (inB v_62 4608)
                        (if (xfa_30 v_62.toNatClampNeg) = (1000000000 : Int32) then
                          (gd (inB x1_26 4608)
                            (gd (inB v_62 4608)
                              (gd (inB y3_28 4608)
                                (gd (inB v_62 4608)
                                  (gd (inB v_62 4608)
                                    (if ((upd xcs_31 v_62.toNatClampNeg ((xcs_31 y3_28.toNatClampNeg) + v_68)) v_62.toNatClampNeg) ≤ ((xcs_31 y3_28.toNatClampNeg) + v_68) then
                                      (gd (inB v_62 4608)
                                        (gd (inB v_62 4608)
                                          (J_X5_findCosts_L89 F w ht fou rd y3_28 yfr_32 kk_244 fz (x1_26 + (1 : Int32)) (x4_29 + (1 : Int32)) (upd xfa_30 v_62.toNatClampNeg ((xfa_30 y3_28.toNatClampNeg) + (1 : Int32))) (upd (upd xcs_31 v_62.toNatClampNeg ((xcs_31 y3_28.toNatClampNeg) + v_68)) v_62.toNatClampNeg ((upd xcs_31 v_62.toNatClampNeg ((xcs_31 y3_28.toNatClampNeg) + v_68)) v_62.toNatClampNeg)) (upd xro_33 x1_26.toNatClampNeg v_62))))
                                    else
                                      (gd (inB v_62 4608)
                                        (J_X5_findCosts_L89 F w ht fou rd y3_28 yfr_32 kk_244 fz (x1_26 + (1 : Int32)) (x4_29 + (1 : Int32)) (upd xfa_30 v_62.toNatClampNeg ((xfa_30 y3_28.toNatClampNeg) + (1 : Int32))) (upd (upd xcs_31 v_62.toNatClampNeg ((xcs_31 y3_28.toNatClampNeg) + v_68)) v_62.toNatClampNeg ((xcs_31 y3_28.toNatClampNeg) + v_68)) (upd xro_33 x1_26.toNatClampNeg v_62)))))))))
                        else
                          (gd (inB y3_28 4608)
                            (gd (inB v_62 4608)
                              (gd (inB v_62 4608)
                                (if (xcs_31 v_62.toNatClampNeg) ≤ ((xcs_31 y3_28.toNatClampNeg) + v_68) then
                                  (gd (inB v_62 4608)
                                    (gd (inB v_62 4608)
                                      (J_X5_findCosts_L89 F w ht fou rd y3_28 yfr_32 kk_244 fz x1_26 (x4_29 + (1 : Int32)) (upd xfa_30 v_62.toNatClampNeg ((xfa_30 y3_28.toNatClampNeg) + (1 : Int32))) (upd xcs_31 v_62.toNatClampNeg (xcs_31 v_62.toNatClampNeg)) xro_33)))
                                else
                                  (gd (inB v_62 4608)
                                    (J_X5_findCosts_L89 F w ht fou rd y3_28 yfr_32 kk_244 fz x1_26 (x4_29 + (1 : Int32)) (upd xfa_30 v_62.toNatClampNeg ((xfa_30 y3_28.toNatClampNeg) + (1 : Int32))) (upd xcs_31 v_62.toNatClampNeg ((xcs_31 y3_28.toNatClampNeg) + v_68)) xro_33))))))))))
                else
                  (J_X5_findCosts_L89 F w ht fou rd y3_28 yfr_32 kk_244 fz x1_26 (x4_29 + (1 : Int32)) xfa_30 xcs_31 xro_33))))))))
def J_X5_findCosts_L74 (F : Nat) (w : Int32) (ht : Int32) (fou : Int32) (rd : Int32) (yfr_21 : Nat → Int32) (kk_250 : Int32 → Int32 → (Nat → Int32) → (Nat → Int32) → (Nat → Int32) → Option ((Nat → Int32) × (Nat → Int32) × (Nat → Int32) × (Nat → Int32) × (Nat → Int32))) : Nat → Int32 → Int32 → (Nat → Int32) → (Nat → Int32) → (Nat → Int32) → Option ((Nat → Int32) × (Nat → Int32) × (Nat → Int32) × (Nat → Int32) × (Nat → Int32))
  | 0, _, _, _, _, _ => none
  | fz + 1, x1_17, x2_18, xfa_19, xcs_20, xro_22 =>
    (if x1_17 ≤ x2_18 then
      (kk_250 x1_17 x2_18 xfa_19 xcs_20 xro_22)
    else
      (gd (inB x2_18 4608)
        (J_X5_findCosts_L89 F w ht fou rd (xro_22 x2_18.toNatClampNeg) yfr_21
          (fun x1_87 x4_88 xfa_89 xcs_90 xro_91 =>
            (J_X5_findCosts_L74 F w ht fou rd yfr_21 kk_250 fz x1_87 (x2_18 + (1 : Int32)) xfa_89 xcs_90 xro_91))
          F x1_17 (0 : Int32) xfa_19 xcs_20 xro_22)))
def J_X5_findCosts (F : Nat) (w : Int32) (ht : Int32) (fou : Int32) (ln : Int32) (wd : Int32) (rd : Int32) (kp : Int32) (gol : Int32) (mf : Nat → Int32) (fa : Nat → Int32) (cs : Nat → Int32) (fr : Nat → Int32) (ro : Nat → Int32) (ne : Nat → Int32) : Option ((Nat → Int32) × (Nat → Int32) × (Nat → Int32) × (Nat → Int32) × (Nat → Int32)) :=
  (Option.bind (J_X5_findFree F w ht fou ln wd kp mf fr ne) fun v_1 =>
    (J_X5_findCosts_L6 F
      (fun x1_10 xfa_11 =>
        (gd (inB gol 4608)
          (if (v_1.1 gol.toNatClampNeg) = (0 : Int32) then
            (some (xfa_11, cs, v_1.1, ro, v_1.2))
          else
            (gd (inB gol 4608)
              (gd (inB gol 4608)
                (gd (inB (0 : Int32) 4608)
                  (J_X5_findCosts_L74 F w ht fou rd v_1.1
                    (fun x1_92 x2_93 xfa_94 xcs_95 xro_96 =>
                      (some (xfa_94, xcs_95, v_1.1, xro_96, v_1.2)))
                    F (1 : Int32) (0 : Int32) (upd xfa_11 gol.toNatClampNeg (0 : Int32)) (upd cs gol.toNatClampNeg (0 : Int32)) (upd ro (0 : Int32).toNatClampNeg gol))))))))
      F (0 : Int32) fa))
abbrev rmX5_before : Room := ({ frames := 0, cells := 0, slots := 0, locals := 0 })
def J_X5_before_L4 (F : Nat) (fa : Nat → Int32) (cs : Nat → Int32) (y1_1 : Int32) (kk_121 : Int32 → Int32 → Option (Int32)) : Nat → Int32 → Int32 → Option (Int32)
  | 0, _, _ => none
  | fz + 1, x2_2, x3_3 =>
    (if (4608 : Int32) ≤ x3_3 then
      (kk_121 x2_2 x3_3)
    else
      (gd (inB x3_3 4608)
        (if (fa x3_3.toNatClampNeg) = (1000000000 : Int32) then
          (J_X5_before_L4 F fa cs y1_1 kk_121 fz x2_2 (x3_3 + (1 : Int32)))
        else
          (if x3_3 = y1_1 then
            (J_X5_before_L4 F fa cs y1_1 kk_121 fz x2_2 (x3_3 + (1 : Int32)))
          else
            (gd (inB x3_3 4608)
              (gd (inB y1_1 4608)
                (if (fa x3_3.toNatClampNeg) < (fa y1_1.toNatClampNeg) then
                  (J_X5_before_L4 F fa cs y1_1 kk_121 fz (x2_2 + (1 : Int32)) (x3_3 + (1 : Int32)))
                else
                  (gd (inB x3_3 4608)
                    (gd (inB y1_1 4608)
                      (if (fa x3_3.toNatClampNeg) = (fa y1_1.toNatClampNeg) then
                        (gd (inB x3_3 4608)
                          (gd (inB y1_1 4608)
                            (if (cs x3_3.toNatClampNeg) < (cs y1_1.toNatClampNeg) then
                              (J_X5_before_L4 F fa cs y1_1 kk_121 fz (x2_2 + (1 : Int32)) (x3_3 + (1 : Int32)))
                            else
                              (gd (inB x3_3 4608)
                                (gd (inB y1_1 4608)
                                  (if (cs x3_3.toNatClampNeg) = (cs y1_1.toNatClampNeg) then
                                    (if y1_1 ≤ x3_3 then
                                      (J_X5_before_L4 F fa cs y1_1 kk_121 fz x2_2 (x3_3 + (1 : Int32)))
                                    else
                                      (J_X5_before_L4 F fa cs y1_1 kk_121 fz (x2_2 + (1 : Int32)) (x3_3 + (1 : Int32))))
                                  else
                                    (J_X5_before_L4 F fa cs y1_1 kk_121 fz x2_2 (x3_3 + (1 : Int32)))))))))
                      else
                        (J_X5_before_L4 F fa cs y1_1 kk_121 fz x2_2 (x3_3 + (1 : Int32)))))))))))))
def J_X5_before (F : Nat) (fa : Nat → Int32) (cs : Nat → Int32) (p0 : Int32) : Option (Int32) :=
  (J_X5_before_L4 F fa cs p0
    (fun x2_27 x3_28 =>
      (some x2_27))
    F (0 : Int32) (0 : Int32))
abbrev rmX5_leads : Room := ({ frames := 2, cells := 0, slots := 0, locals := 51 })
def J_X5_leads (F : Nat) (w : Int32) (ht : Int32) (fou : Int32) (rd : Int32) (fa : Nat → Int32) (cs : Nat → Int32) (fr : Nat → Int32) (p0 : Int32) (p1 : Int32) : Option (Int32) :=
  (Option.bind (J_X5_moved F w ht fou rd fr p0 p1) fun v_1 =>
    (if v_1 < (0 : Int32) then
      (some (0 : Int32))
    else
      (gd (inB v_1 4608)
        (gd (inB p0 4608)
          (if (fa v_1.toNatClampNeg) = ((fa p0.toNatClampNeg) - (1 : Int32)) then
            (gd (inB v_1 4608)
              (Option.bind (J_X5_more F rd p1) fun v_7 =>
                (gd (inB p0 4608)
                  (if ((cs v_1.toNatClampNeg) + v_7) = (cs p0.toNatClampNeg) then
                    (some (1 : Int32))
                  else
                    (some (0 : Int32))))))
          else
            (some (0 : Int32)))))))
abbrev rmX5_search : Room := ({ frames := 5, cells := 0, slots := 0, locals := 124 })
def J_X5_search_L129 (F : Nat) (w : Int32) (ht : Int32) (fou : Int32) (rd : Int32) (y5_29 : Int32) (yfa_38 : Nat → Int32) (ycs_39 : Nat → Int32) (yfr_40 : Nat → Int32) (kk_146 : Int32 → Option (Int32 × Int32 × Int32 × Int32 × Int32 × Int64 × (Nat → Int32) × (Nat → Int32) × (Nat → Int32) × (Nat → Int32) × (Nat → Int32) × (Nat → Int32) × (Nat → Int32))) : Nat → Int32 → Option (Int32 × Int32 × Int32 × Int32 × Int32 × Int64 × (Nat → Int32) × (Nat → Int32) × (Nat → Int32) × (Nat → Int32) × (Nat → Int32) × (Nat → Int32) × (Nat → Int32))
  | 0, _ => none
  | fz + 1, x6_30 =>
    (Option.bind (J_X5_leads F w ht fou rd yfa_38 ycs_39 yfr_40 y5_29 x6_30) fun v_43 =>
      (if v_43 = (0 : Int32) then
        (J_X5_search_L129 F w ht fou rd y5_29 yfa_38 ycs_39 yfr_40 kk_146 fz (x6_30 + (1 : Int32)))
      else
        (kk_146 x6_30)))
def J_X5_search_L117 (F : Nat) (w : Int32) (ht : Int32) (fou : Int32) (rd : Int32) (gol : Int32) (yfa_23 : Nat → Int32) (ycs_24 : Nat → Int32) (yfr_25 : Nat → Int32) (kk_191 : Int32 → Int32 → (Nat → Int32) → (Nat → Int32) → Option (Int32 × Int32 × Int32 × Int32 × Int32 × Int64 × (Nat → Int32) × (Nat → Int32) × (Nat → Int32) × (Nat → Int32) × (Nat → Int32) × (Nat → Int32) × (Nat → Int32))) : Nat → Int32 → Int32 → (Nat → Int32) → (Nat → Int32) → Option (Int32 × Int32 × Int32 × Int32 × Int32 × Int64 × (Nat → Int32) × (Nat → Int32) × (Nat → Int32) × (Nat → Int32) × (Nat → Int32) × (Nat → Int32) × (Nat → Int32))
  | 0, _, _, _, _ => none
  | fz + 1, x5_15, xmvs_17, xnm_21, xbe_22 =>
    (if x5_15 = gol then
      (kk_191 x5_15 xmvs_17 xnm_21 xbe_22)
    else
      (J_X5_search_L129 F w ht fou rd x5_15 yfa_23 ycs_24 yfr_25
        (fun x6_45 =>
          (Option.bind (J_X5_moved F w ht fou rd yfr_25 x5_15 x6_45) fun v_46 =>
            (gd (inB xmvs_17 4608)
              (gd (inB xmvs_17 4608)
                (J_X5_search_L117 F w ht fou rd gol yfa_23 ycs_24 yfr_25 kk_191 fz v_46 (xmvs_17 + (1 : Int32)) (upd xnm_21 xmvs_17.toNatClampNeg x6_45) (upd xbe_22 xmvs_17.toNatClampNeg v_46))))))
        F (0 : Int32)))
def J_X5_search (F : Nat) (w : Int32) (ht : Int32) (fou : Int32) (ln : Int32) (wd : Int32) (rd : Int32) (kp : Int32) (car : Int32) (gol : Int32) (mvs : Int32) (mde : Int32) (mf : Nat → Int32) (nm : Nat → Int32) (be : Nat → Int32) (fa : Nat → Int32) (cs : Nat → Int32) (fr : Nat → Int32) (ro : Nat → Int32) (ne : Nat → Int32) (p0 : Int64) : Option (Int32 × Int32 × Int32 × Int32 × Int32 × Int64 × (Nat → Int32) × (Nat → Int32) × (Nat → Int32) × (Nat → Int32) × (Nat → Int32) × (Nat → Int32) × (Nat → Int32)) :=
  (Option.bind (J_X5_findCosts F w ht fou ln wd rd kp gol mf fa cs fr ro ne) fun v_1 =>
    (Option.bind (J_X5_before F v_1.1 v_1.2.1 car) fun v_2 =>
      (gd (inB car 4608)
        (if (1000000000 : Int32) ≤ (v_1.1 car.toNatClampNeg) then
          (if (0 : Int32) < (lg_cmp v_2.toInt64 p0) then
            (some ((-1 : Int32), (0 : Int32), mvs, mde, (0 : Int32), p0, nm, be, v_1.1, v_1.2.1, v_1.2.2.1, v_1.2.2.2.1, v_1.2.2.2.2))
          else
            (some ((0 : Int32), (0 : Int32), mvs, mde, (1 : Int32), p0, nm, be, v_1.1, v_1.2.1, v_1.2.2.1, v_1.2.2.2.1, v_1.2.2.2.2)))
        else
          (if (0 : Int32) ≤ (lg_cmp v_2.toInt64 p0) then
            (some ((-1 : Int32), (0 : Int32), mvs, mde, (0 : Int32), p0, nm, be, v_1.1, v_1.2.1, v_1.2.2.1, v_1.2.2.2.1, v_1.2.2.2.2))
          else
            (J_X5_search_L117 F w ht fou rd gol v_1.1 v_1.2.1 v_1.2.2.1
              (fun x5_49 xmvs_50 xnm_51 xbe_52 =>
                (some ((1 : Int32), (1 : Int32), xmvs_50, (0 : Int32), (1 : Int32), p0, xnm_51, xbe_52, v_1.1, v_1.2.1, v_1.2.2.1, v_1.2.2.2.1, v_1.2.2.2.2)))
              F car (0 : Int32) nm be))))))
abbrev rmX5_set : Room := ({ frames := 1, cells := 0, slots := 0, locals := 22 })
def J_X5_set (F : Nat) (w : Int32) (ht : Int32) (mf : Nat → Int32) (p0 : Int32) (p1 : Int32) (p2 : Int32) : Option (Int32 × Int32 × (Nat → Int32)) :=
  (Option.bind (J_X5_isCell F w ht p0 p1) fun v_1 =>
    (if v_1 = (0 : Int32) then
      (some ((0 : Int32), (1 : Int32), mf))
    else
      (gd (inB (((24 : Int32) * p1) + p0) 576)
        (if (mf (((24 : Int32) * p1) + p0).toNatClampNeg) = p2 then
          (gd (inB (((24 : Int32) * p1) + p0) 576)
            (some ((0 : Int32), (0 : Int32), (upd mf (((24 : Int32) * p1) + p0).toNatClampNeg (vp_nar .boolean p2)))))
        else
          (gd (inB (((24 : Int32) * p1) + p0) 576)
            (some ((1 : Int32), (0 : Int32), (upd mf (((24 : Int32) * p1) + p0).toNatClampNeg (vp_nar .boolean p2)))))))))
abbrev rmX5_cell : Room := ({ frames := 2, cells := 0, slots := 0, locals := 46 })
def J_X5_cell (F : Nat) (w : Int32) (ht : Int32) (isw : Int32) (mf : Nat → Int32) (p0 : Int32) (p1 : Int32) (p2 : Int32) : Option (Int32 × Int32 × Int32 × (Nat → Int32)) :=
  (Option.bind (J_X5_set F w ht mf p0 p1 p2) fun v_1 =>
    (if v_1.2.1 = (0 : Int32) then
      (if v_1.1 = (0 : Int32) then
        (some ((0 : Int32), v_1.2.1, (0 : Int32), v_1.2.2))
      else
        (some ((1 : Int32), v_1.2.1, (0 : Int32), v_1.2.2)))
    else
      (if v_1.1 = (0 : Int32) then
        (some ((0 : Int32), v_1.2.1, isw, v_1.2.2))
      else
        (some ((1 : Int32), v_1.2.1, isw, v_1.2.2)))))
abbrev rmX5_car : Room := ({ frames := 0, cells := 0, slots := 0, locals := 0 })
def J_X5_car (F : Nat) (ln : Int32) (wd : Int32) (rd : Int32) (isw : Int32) (p0 : Int32) (p1 : Int32) (p2 : Int32) : Option (Int32 × Int32 × Int32 × Int32 × Int32 × Int32) :=
  (if p0 < (1 : Int32) then
    (some ((0 : Int32), (0 : Int32), ln, wd, rd, isw))
  else
    (if (7 : Int32) < p0 then
      (some ((0 : Int32), (0 : Int32), ln, wd, rd, isw))
    else
      (if p1 < (1 : Int32) then
        (some ((0 : Int32), (0 : Int32), ln, wd, rd, isw))
      else
        (if (5 : Int32) < p1 then
          (some ((0 : Int32), (0 : Int32), ln, wd, rd, isw))
        else
          (if p2 < (1 : Int32) then
            (some ((0 : Int32), (0 : Int32), ln, wd, rd, isw))
          else
            (if p2 ≤ (4 : Int32) then
              (some ((1 : Int32), (0 : Int32), p0, p1, p2, (0 : Int32)))
            else
              (some ((0 : Int32), (0 : Int32), ln, wd, rd, isw))))))))
abbrev rmX5_keep : Room := ({ frames := 0, cells := 0, slots := 0, locals := 0 })
def J_X5_keep (F : Nat) (kp : Int32) (isw : Int32) (p0 : Int32) : Option (Int32 × Int32 × Int32 × Int32) :=
  (if p0 < (0 : Int32) then
    (some ((-2 : Int32), (0 : Int32), kp, isw))
  else
    (if p0 ≤ (3 : Int32) then
      (some (kp, (0 : Int32), p0, (0 : Int32)))
    else
      (some ((-2 : Int32), (0 : Int32), kp, isw))))
abbrev rmX5_stand : Room := ({ frames := 3, cells := 0, slots := 0, locals := 75 })
def J_X5_stand (F : Nat) (w : Int32) (ht : Int32) (fou : Int32) (ln : Int32) (wd : Int32) (kp : Int32) (car : Int32) (hom : Int32) (isw : Int32) (mf : Nat → Int32) (ne : Nat → Int32) (p0 : Int32) (p1 : Int32) (p2 : Int32) : Option (Int32 × Int32 × Int32 × Int32 × Int32 × (Nat → Int32)) :=
  (Option.bind (J_X5_isCell F w ht p0 p1) fun v_1 =>
    (if v_1 = (0 : Int32) then
      (some ((-2 : Int32), (0 : Int32), car, hom, isw, ne))
    else
      (Option.bind (J_X5_isHeading F fou p2) fun v_3 =>
        (if v_3 = (0 : Int32) then
          (some ((-2 : Int32), (0 : Int32), car, hom, isw, ne))
        else
          (Option.bind (J_X5_findNear F w ht mf ne) fun v_5 =>
            (Option.bind (J_X5_isFree F w ht ln wd kp v_5 p0 p1 p2) fun v_6 =>
              (if v_6 = (0 : Int32) then
                (some ((-3 : Int32), (0 : Int32), car, hom, isw, v_5))
              else
                (Option.bind (J_X5_place F p0 p1 p2) fun v_8 =>
                  (some ((1 : Int32), (0 : Int32), v_8, v_8, (0 : Int32), v_5))))))))))
abbrev rmX5_space : Room := ({ frames := 1, cells := 0, slots := 0, locals := 22 })
def J_X5_space_L51 (F : Nat) (w : Int32) (mf : Nat → Int32) (y3_12 : Int32) (y4_13 : Int32) (kk_87 : Int32 → Option (Int32 × Int32 × Int32 × Int32)) : Nat → Int32 → Option (Int32 × Int32 × Int32 × Int32)
  | 0, _ => none
  | fz + 1, x5_14 =>
    (if w ≤ (y4_13 + x5_14) then
      (kk_87 x5_14)
    else
      (gd (inB ((((24 : Int32) * y3_12) + y4_13) + x5_14) 576)
        (if (mf ((((24 : Int32) * y3_12) + y4_13) + x5_14).toNatClampNeg) = (0 : Int32) then
          (J_X5_space_L51 F w mf y3_12 y4_13 kk_87 fz (x5_14 + (1 : Int32)))
        else
          (kk_87 x5_14))))
def J_X5_space_L39 (F : Nat) (w : Int32) (mf : Nat → Int32) (y2_4 : Int32) (y3_5 : Int32) (ycod_7 : Int32) (kk_133 : Int32 → Int32 → Int32 → Option (Int32 × Int32 × Int32 × Int32)) : Nat → Int32 → Int32 → Int32 → Option (Int32 × Int32 × Int32 × Int32)
  | 0, _, _, _ => none
  | fz + 1, x4_6, xgol_8, xisw_9 =>
    (if w ≤ x4_6 then
      (kk_133 x4_6 xgol_8 xisw_9)
    else
      (J_X5_space_L51 F w mf y3_5 x4_6
        (fun x5_21 =>
          (if x5_21 < y2_4 then
            (J_X5_space_L39 F w mf y2_4 y3_5 ycod_7 kk_133 fz (x4_6 + (x5_21 + (1 : Int32))) xgol_8 xisw_9)
          else
            (Option.bind (J_X5_place F (x4_6 + ((x5_21 - (1 : Int32)) / (2 : Int32))) y3_5 (0 : Int32)) fun v_23 =>
              (some ((x4_6 + (1 : Int32)), ycod_7, v_23, (0 : Int32))))))
        F (0 : Int32)))
def J_X5_space (F : Nat) (w : Int32) (ht : Int32) (gol : Int32) (isw : Int32) (mf : Nat → Int32) (p0 : Int32) (p1 : Int32) : Option (Int32 × Int32 × Int32 × Int32) :=
  (if p1 < (1 : Int32) then
    (some ((-2 : Int32), (0 : Int32), gol, isw))
  else
    (if p1 ≤ w then
      (if p0 = (0 : Int32) then
        (J_X5_space_L39 F w mf p1 (0 : Int32) (0 : Int32)
          (fun x4_27 xgol_28 xisw_29 =>
            (some ((0 : Int32), (0 : Int32), xgol_28, xisw_29)))
          F (0 : Int32) gol isw)
      else
        (J_X5_space_L39 F w mf p1 (ht - (1 : Int32)) (0 : Int32)
          (fun x4_24 xgol_25 xisw_26 =>
            (some ((0 : Int32), (0 : Int32), xgol_25, xisw_26)))
          F (0 : Int32) gol isw))
    else
      (some ((-2 : Int32), (0 : Int32), gol, isw))))
abbrev rmX5_out : Room := ({ frames := 0, cells := 0, slots := 0, locals := 0 })
def J_X5_out (F : Nat) (hom : Int32) (gol : Int32) (isw : Int32) : Option (Int32 × Int32 × Int32 × Int32) :=
  (if gol = hom then
    (some ((0 : Int32), (0 : Int32), gol, isw))
  else
    (some ((1 : Int32), (0 : Int32), hom, (0 : Int32))))
abbrev rmX5_way : Room := ({ frames := 6, cells := 0, slots := 0, locals := 150 })
def J_X5_way (F : Nat) (w : Int32) (ht : Int32) (fou : Int32) (ln : Int32) (wd : Int32) (rd : Int32) (kp : Int32) (car : Int32) (gol : Int32) (isw : Int32) (mvs : Int32) (mde : Int32) (exa : Int32) (lst : Int64) (mf : Nat → Int32) (nm : Nat → Int32) (be : Nat → Int32) (fa : Nat → Int32) (cs : Nat → Int32) (fr : Nat → Int32) (ro : Nat → Int32) (ne : Nat → Int32) (p0 : Int64) : Option (Int32 × Int32 × Int32 × Int32 × Int32 × Int32 × Int64 × (Nat → Int32) × (Nat → Int32) × (Nat → Int32) × (Nat → Int32) × (Nat → Int32) × (Nat → Int32) × (Nat → Int32)) :=
  (if (0 : Int32) ≤ (lg_cmp p0 (0 : Int64)) then
    (Option.bind (J_X5_search F w ht fou ln wd rd kp car gol mvs mde mf nm be fa cs fr ro ne p0) fun v_2 =>
      (if (1 : Int32) ≤ v_2.1 then
        (some (v_2.2.2.1, (0 : Int32), v_2.2.1, v_2.2.2.1, v_2.2.2.2.1, v_2.2.2.2.2.1, v_2.2.2.2.2.2.1, v_2.2.2.2.2.2.2.1, v_2.2.2.2.2.2.2.2.1, v_2.2.2.2.2.2.2.2.2.1, v_2.2.2.2.2.2.2.2.2.2.1, v_2.2.2.2.2.2.2.2.2.2.2.1, v_2.2.2.2.2.2.2.2.2.2.2.2.1, v_2.2.2.2.2.2.2.2.2.2.2.2.2))
      else
        (some (v_2.1, (0 : Int32), v_2.2.1, v_2.2.2.1, v_2.2.2.2.1, v_2.2.2.2.2.1, v_2.2.2.2.2.2.1, v_2.2.2.2.2.2.2.1, v_2.2.2.2.2.2.2.2.1, v_2.2.2.2.2.2.2.2.2.1, v_2.2.2.2.2.2.2.2.2.2.1, v_2.2.2.2.2.2.2.2.2.2.2.1, v_2.2.2.2.2.2.2.2.2.2.2.2.1, v_2.2.2.2.2.2.2.2.2.2.2.2.2))))
  else
    (some ((-2 : Int32), (0 : Int32), isw, mvs, mde, exa, lst, nm, be, fa, cs, fr, ro, ne)))
abbrev rmX5_move : Room := ({ frames := 1, cells := 0, slots := 0, locals := 20 })
def J_X5_move (F : Nat) (isw : Int32) (mvs : Int32) (nm : Nat → Int32) (be : Nat → Int32) (p0 : Int32) (p1 : Int32) : Option (Int32 × Int32) :=
  (if isw = (0 : Int32) then
    (some ((-1 : Int32), (0 : Int32)))
  else
    (if p0 < (0 : Int32) then
      (some ((-1 : Int32), (0 : Int32)))
    else
      (if p0 < mvs then
        (if p1 < (0 : Int32) then
          (some ((-2 : Int32), (0 : Int32)))
        else
          (if p1 ≤ (3 : Int32) then
            (gd (inB p0 4608)
              (if p1 = (0 : Int32) then
                (gd (inB p0 4608)
                  (some ((nm p0.toNatClampNeg), (0 : Int32))))
              else
                (if p1 = (1 : Int32) then
                  (Option.bind (J_X5_xOf F (be p0.toNatClampNeg)) fun v_11 =>
                    (some (v_11, (0 : Int32))))
                else
                  (if p1 = (2 : Int32) then
                    (Option.bind (J_X5_yOf F (be p0.toNatClampNeg)) fun v_10 =>
                      (some (v_10, (0 : Int32))))
                  else
                    (some (((be p0.toNatClampNeg) - (be p0.toNatClampNeg) / (8 : Int32) * (8 : Int32)), (0 : Int32)))))))
          else
            (some ((-2 : Int32), (0 : Int32)))))
      else
        (some ((-1 : Int32), (0 : Int32))))))
abbrev rmX5_exact : Room := ({ frames := 0, cells := 0, slots := 0, locals := 0 })
def J_X5_exact (F : Nat) (exa : Int32) : Option (Int32 × Int32) :=
  (gd (isZ exa)
    (some (exa, (0 : Int32))))
abbrev rmX5_follow : Room := ({ frames := 0, cells := 0, slots := 0, locals := 0 })
def J_X5_follow_L46 (F : Nat) (hld : Int32) (mvs : Int32) (be : Nat → Int32) (y1_6 : Int32) (y2_7 : UInt64) (ycod_9 : Int32) (kk_156 : Int32 → Int32 → UInt64 → Int32 → Option (Int32 × Int32 × Int32 × UInt64 × Int32)) : Nat → Int32 → Int32 → UInt64 → Int32 → Option (Int32 × Int32 × Int32 × UInt64 × Int32)
  | 0, _, _, _, _ => none
  | fz + 1, x4_8, xcar_10, xerr_11, xmde_12 =>
    (if y1_6 ≤ x4_8 then
      (kk_156 x4_8 xcar_10 xerr_11 xmde_12)
    else
      (if mvs ≤ xmde_12 then
        (kk_156 x4_8 xcar_10 xerr_11 xmde_12)
      else
        (if hld = (0 : Int32) then
          (some ((2 : Int32), ycod_9, xcar_10, xerr_11, xmde_12))
        else
          (gd (inB xmde_12 4608)
            (gd (nfD (FP.dadd xerr_11 y2_7))
              (if (Op.cmpValue (FP.dcmp (FP.dadd xerr_11 y2_7) (4602678819172646912 : UInt64)) .l) ≤ (0 : Int32) then
                (if (0 : Int32) ≤ (Op.cmpValue (FP.dcmp (FP.dadd xerr_11 y2_7) (13826050856027422720 : UInt64)) .g) then
                  (J_X5_follow_L46 F hld mvs be y1_6 y2_7 ycod_9 kk_156 fz (x4_8 + (1 : Int32)) (be xmde_12.toNatClampNeg) (FP.dadd xerr_11 y2_7) (xmde_12 + (1 : Int32)))
                else
                  (gd (nfD (FP.dadd (FP.dadd xerr_11 y2_7) FP.dconst1))
                    (J_X5_follow_L46 F hld mvs be y1_6 y2_7 ycod_9 kk_156 fz (x4_8 + (1 : Int32)) (be xmde_12.toNatClampNeg) (FP.dadd (FP.dadd xerr_11 y2_7) FP.dconst1) (xmde_12 + (1 : Int32)))))
              else
                (gd (nfD (FP.dsub (FP.dadd xerr_11 y2_7) FP.dconst1))
                  (J_X5_follow_L46 F hld mvs be y1_6 y2_7 ycod_9 kk_156 fz (x4_8 + (1 : Int32)) (be xmde_12.toNatClampNeg) (FP.dsub (FP.dadd xerr_11 y2_7) FP.dconst1) (xmde_12 + (1 : Int32))))))))))
def J_X5_follow (F : Nat) (car : Int32) (hld : Int32) (err : UInt64) (isw : Int32) (mvs : Int32) (mde : Int32) (be : Nat → Int32) (p0 : Int32) (p1 : UInt64) : Option (Int32 × Int32 × Int32 × UInt64 × Int32) :=
  (if p0 < (1 : Int32) then
    (some ((-2 : Int32), (0 : Int32), car, err, mde))
  else
    (if (1000 : Int32) < p0 then
      (some ((-2 : Int32), (0 : Int32), car, err, mde))
    else
      (if (Op.cmpValue (FP.dcmp p1 (13830554455654793216 : UInt64)) .l) < (0 : Int32) then
        (some ((-2 : Int32), (0 : Int32), car, err, mde))
      else
        (if (Op.cmpValue (FP.dcmp p1 FP.dconst1) .g) ≤ (0 : Int32) then
          (if isw = (0 : Int32) then
            (some ((0 : Int32), (0 : Int32), car, err, mde))
          else
            (J_X5_follow_L46 F hld mvs be p0 p1 (0 : Int32)
              (fun x4_22 xcar_23 xerr_24 xmde_25 =>
                (some ((1 : Int32), (0 : Int32), xcar_23, xerr_24, xmde_25)))
              F (0 : Int32) car err mde))
        else
          (some ((-2 : Int32), (0 : Int32), car, err, mde))))))
abbrev rmX5_error : Room := ({ frames := 0, cells := 0, slots := 0, locals := 0 })
def J_X5_error (F : Nat) (err : UInt64) : Option (UInt64 × Int32) :=
  (some (err, (0 : Int32)))
abbrev rmX5_change : Room := ({ frames := 6, cells := 0, slots := 0, locals := 150 })
def J_X5_change_L44 (F : Nat) (w : Int32) (ht : Int32) (fou : Int32) (rd : Int32) (ymvs_10 : Int32) (ynm_15 : Nat → Int32) (ybe_16 : Nat → Int32) (yfr_19 : Nat → Int32) (kk_96 : Int32 → Int32 → Int32 → Option (Int32 × Int32 × Int32 × Int32 × Int32 × Int32 × Int64 × (Nat → Int32) × (Nat → Int32) × (Nat → Int32) × (Nat → Int32) × (Nat → Int32) × (Nat → Int32) × (Nat → Int32) × (Nat → Int32))) : Nat → Int32 → Int32 → Int32 → Option (Int32 × Int32 × Int32 × Int32 × Int32 × Int32 × Int64 × (Nat → Int32) × (Nat → Int32) × (Nat → Int32) × (Nat → Int32) × (Nat → Int32) × (Nat → Int32) × (Nat → Int32) × (Nat → Int32))
  | 0, _, _, _ => none
  | fz + 1, x5_5, x6_6, x7_7 =>
    (if ymvs_10 ≤ x7_7 then
      (kk_96 x5_5 x6_6 x7_7)
    else
      (if x5_5 = (0 : Int32) then
        (kk_96 x5_5 x6_6 x7_7)
      else
        (gd (inB x7_7 4608)
          (Option.bind (J_X5_moved F w ht fou rd yfr_19 x6_6 (ynm_15 x7_7.toNatClampNeg)) fun v_25 =>
            (if v_25 < (0 : Int32) then
              (gd (inB x7_7 4608)
                (J_X5_change_L44 F w ht fou rd ymvs_10 ynm_15 ybe_16 yfr_19 kk_96 fz (0 : Int32) (ybe_16 x7_7.toNatClampNeg) (x7_7 + (1 : Int32))))
            else
              (gd (inB x7_7 4608)
                (J_X5_change_L44 F w ht fou rd ymvs_10 ynm_15 ybe_16 yfr_19 kk_96 fz (1 : Int32) (ybe_16 x7_7.toNatClampNeg) (x7_7 + (1 : Int32)))))))))
def J_X5_change (F : Nat) (w : Int32) (ht : Int32) (fou : Int32) (ln : Int32) (wd : Int32) (rd : Int32) (kp : Int32) (car : Int32) (gol : Int32) (isw : Int32) (mvs : Int32) (mde : Int32) (exa : Int32) (lst : Int64) (mf : Nat → Int32) (nm : Nat → Int32) (be : Nat → Int32) (fa : Nat → Int32) (cs : Nat → Int32) (fr : Nat → Int32) (ro : Nat → Int32) (ne : Nat → Int32) (p0 : Int32) (p1 : Int32) (p2 : Int32) : Option (Int32 × Int32 × Int32 × Int32 × Int32 × Int32 × Int64 × (Nat → Int32) × (Nat → Int32) × (Nat → Int32) × (Nat → Int32) × (Nat → Int32) × (Nat → Int32) × (Nat → Int32) × (Nat → Int32)) :=
  (Option.bind (J_X5_set F w ht mf p0 p1 p2) fun v_1 =>
    (if (0 : Int32) < v_1.2.1 then
      (some ((0 : Int32), v_1.2.1, isw, mvs, mde, exa, lst, v_1.2.2, nm, be, fa, cs, fr, ro, ne))
    else
      (if isw = (0 : Int32) then
        (some ((0 : Int32), v_1.2.1, isw, mvs, mde, exa, lst, v_1.2.2, nm, be, fa, cs, fr, ro, ne))
      else
        (Option.bind (J_X5_findFree F w ht fou ln wd kp v_1.2.2 fr ne) fun v_4 =>
          (J_X5_change_L44 F w ht fou rd mvs nm be v_4.1
            (fun x5_29 x6_30 x7_31 =>
              (if x5_29 = (0 : Int32) then
                (Option.bind (J_X5_search F w ht fou ln wd rd kp car gol mvs mde v_1.2.2 nm be fa cs v_4.1 ro v_4.2 lst) fun v_33 =>
                  (if v_33.1 = (1 : Int32) then
                    (some ((1 : Int32), v_1.2.1, v_33.2.1, v_33.2.2.1, v_33.2.2.2.1, v_33.2.2.2.2.1, v_33.2.2.2.2.2.1, v_1.2.2, v_33.2.2.2.2.2.2.1, v_33.2.2.2.2.2.2.2.1, v_33.2.2.2.2.2.2.2.2.1, v_33.2.2.2.2.2.2.2.2.2.1, v_33.2.2.2.2.2.2.2.2.2.2.1, v_33.2.2.2.2.2.2.2.2.2.2.2.1, v_33.2.2.2.2.2.2.2.2.2.2.2.2))
                  else
                    (some ((2 : Int32), v_1.2.1, v_33.2.1, v_33.2.2.1, v_33.2.2.2.1, v_33.2.2.2.2.1, v_33.2.2.2.2.2.1, v_1.2.2, v_33.2.2.2.2.2.2.1, v_33.2.2.2.2.2.2.2.1, v_33.2.2.2.2.2.2.2.2.1, v_33.2.2.2.2.2.2.2.2.2.1, v_33.2.2.2.2.2.2.2.2.2.2.1, v_33.2.2.2.2.2.2.2.2.2.2.2.1, v_33.2.2.2.2.2.2.2.2.2.2.2.2))))
              else
                (some ((0 : Int32), v_1.2.1, isw, mvs, mde, exa, lst, v_1.2.2, nm, be, fa, cs, v_4.1, ro, v_4.2))))
            F (1 : Int32) car mde)))))
abbrev rmX5_release : Room := ({ frames := 0, cells := 0, slots := 0, locals := 0 })
def J_X5_release (F : Nat) (hld : Int32) (p0 : Int32) : Option (Int32 × Int32 × Int32) :=
  (if hld = p0 then
    (gd (isZ p0)
      (some ((0 : Int32), (0 : Int32), p0)))
  else
    (gd (isZ p0)
      (some ((1 : Int32), (0 : Int32), p0))))
abbrev rmX5_margin : Room := ({ frames := 3, cells := 0, slots := 0, locals := 72 })
def J_X5_margin (F : Nat) (w : Int32) (ht : Int32) (ln : Int32) (wd : Int32) (isw : Int32) (mvs : Int32) (mf : Nat → Int32) (be : Nat → Int32) (ne : Nat → Int32) (p0 : Int32) : Option (Int32 × Int32 × (Nat → Int32)) :=
  (if isw = (0 : Int32) then
    (some ((-1 : Int32), (0 : Int32), ne))
  else
    (if p0 < (0 : Int32) then
      (some ((-1 : Int32), (0 : Int32), ne))
    else
      (if p0 < mvs then
        (gd (inB p0 4608)
          (Option.bind (J_X5_findNear F w ht mf ne) fun v_5 =>
            (Option.bind (J_X5_xOf F (be p0.toNatClampNeg)) fun v_6 =>
              (Option.bind (J_X5_yOf F (be p0.toNatClampNeg)) fun v_7 =>
                (Option.bind (J_X5_clear F w ht ln wd v_5 v_6 v_7 ((be p0.toNatClampNeg) - (be p0.toNatClampNeg) / (8 : Int32) * (8 : Int32))) fun v_8 =>
                  (some (v_8, (0 : Int32), v_5)))))))
      else
        (some ((-1 : Int32), (0 : Int32), ne)))))
abbrev rmX5_heading : Room := ({ frames := 1, cells := 0, slots := 0, locals := 20 })
def J_X5_heading (F : Nat) (p0 : Int32) : Option (Int32 × Int32) :=
  (if p0 < (0 : Int32) then
    (some ((0 : Int32), (1 : Int32)))
  else
    (if p0 ≤ (7 : Int32) then
      (Option.bind (J_X5_dx F p0) fun v_5 =>
        (Option.bind (J_X5_dy F p0) fun v_6 =>
          (some (((((3 : Int32) * (v_5 + (1 : Int32))) + v_6) + (1 : Int32)), (0 : Int32)))))
    else
      (some ((0 : Int32), (1 : Int32)))))
