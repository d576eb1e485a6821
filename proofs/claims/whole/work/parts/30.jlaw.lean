def J_law_L53 (F L : Nat) (xs : Nat → Int32) (nCo : Nat) (nQu : Nat) (nKn : Nat) (w : Int32) (ht : Int32) (tn : Int32) (nFu : Nat) (nFk : Nat) (nMv : Nat) (nPl : Nat) (m_w : Int32) (m_ht : Int32) (m_fou : Int32) : Nat → Int32 → Int32 → Int32 → Int32 → Int64 → Int32 → Int32 → UInt64 → Int32 → (Nat → Int64) → (Nat → Int32) → Int32 → Int32 → Int32 → (Nat → Int32) → Int32 → (Nat → Int32) → (Nat → Int32) → Int32 → Int32 → Int32 → (Nat → Int32) → (Nat → Int32) → Int32 → Int32 → Int32 → Int32 → Int32 → Int32 → Int32 → Int32 → Int32 → UInt64 → Int32 → Int32 → Int32 → Int32 → Int64 → (Nat → Int32) → (Nat → Int32) → (Nat → Int32) → (Nat → Int32) → (Nat → Int32) → (Nat → Int32) → (Nat → Int32) → (Nat → Int32) → (Nat → Int64) → Option Int32
  | 0, _, _, _, _, _, _, _, _, _, _, _, _, _, _, _, _, _, _, _, _, _, _, _, _, _, _, _, _, _, _, _, _, _, _, _, _, _, _, _, _, _, _, _, _, _, _, _ => none
  | fz + 1, i, plc, hom, gol, stp, exa, hld, err, rch, co, qu, ln, wd, rd, kn, kp, fu, fk, cnt, mde, stn, mv, pl, m_cod, m_ln, m_wd, m_rd, m_kp, m_car, m_hom, m_gol, m_hld, m_err, m_isw, m_mvs, m_mde, m_exa, m_lst, m_mf, m_nm, m_be, m_fa, m_cs, m_fr, m_ro, m_ne, ou =>
    (if ((Int32.ofNat L) - (4 : Int32)) < i then
      (some (1 : Int32))
    else
      (gd (inB i L)
        (if ((xs i.toNatClampNeg) &&& (15 : Int32)) = (0 : Int32) then
          (gd (inB (i + (1 : Int32)) L)
            (gd (inB (i + (2 : Int32)) L)
              (gd (inB (i + (3 : Int32)) L)
                (if (xs (i + (3 : Int32)).toNatClampNeg) = (0 : Int32) then
                  (Option.bind (J_L_cell_ F nKn kn w ht kp nFu fu nFk fk cnt mde stn ou (xs (i + (1 : Int32)).toNatClampNeg) (xs (i + (2 : Int32)).toNatClampNeg) (0 : Int32)) fun v_8 =>
                    (gd (inB (i + (1 : Int32)) L)
                      (gd (inB (i + (2 : Int32)) L)
                        (gd (inB (i + (3 : Int32)) L)
                          (if (xs (i + (3 : Int32)).toNatClampNeg) = (0 : Int32) then
                            (Option.bind (J_X5_cell F m_w m_ht m_isw m_mf (xs (i + (1 : Int32)).toNatClampNeg) (xs (i + (2 : Int32)).toNatClampNeg) (0 : Int32)) fun v_13 =>
                              (Option.bind (J_X5_thrown F v_13.2.1) fun v_14 =>
                                (if v_14 = v_8.1 then
                                  (if v_8.1 = (0 : Int32) then
                                    (gd (inB (0 : Int32) 1)
                                      (if (lg_cmp (v_8.2.2.2.2.2.2.2 (0 : Int32).toNatClampNeg) v_13.1.toInt64) = (0 : Int32) then
                                        (J_law_L53 F L xs nCo nQu nKn w ht tn nFu nFk nMv nPl m_w m_ht m_fou fz (i + (4 : Int32)) plc hom gol stp exa hld err rch co qu ln wd rd v_8.2.1 kp v_8.2.2.1 v_8.2.2.2.1 v_8.2.2.2.2.1 v_8.2.2.2.2.2.1 v_8.2.2.2.2.2.2.1 mv pl v_13.2.1 m_ln m_wd m_rd m_kp m_car m_hom m_gol m_hld m_err v_13.2.2.1 m_mvs m_mde m_exa m_lst v_13.2.2.2 m_nm m_be m_fa m_cs m_fr m_ro m_ne v_8.2.2.2.2.2.2.2)
                                      else
                                        (some (0 : Int32))))
                                  else
                                    (J_law_L53 F L xs nCo nQu nKn w ht tn nFu nFk nMv nPl m_w m_ht m_fou fz (i + (4 : Int32)) plc hom gol stp exa hld err rch co qu ln wd rd v_8.2.1 kp v_8.2.2.1 v_8.2.2.2.1 v_8.2.2.2.2.1 v_8.2.2.2.2.2.1 v_8.2.2.2.2.2.2.1 mv pl v_13.2.1 m_ln m_wd m_rd m_kp m_car m_hom m_gol m_hld m_err v_13.2.2.1 m_mvs m_mde m_exa m_lst v_13.2.2.2 m_nm m_be m_fa m_cs m_fr m_ro m_ne v_8.2.2.2.2.2.2.2))
                                else
                                  (some (0 : Int32)))))
                          else
                            (Option.bind (J_X5_cell F m_w m_ht m_isw m_mf (xs (i + (1 : Int32)).toNatClampNeg) (xs (i + (2 : Int32)).toNatClampNeg) (1 : Int32)) fun v_19 =>
                              (Option.bind (J_X5_thrown F v_19.2.1) fun v_20 =>
                                (if v_20 = v_8.1 then
                                  (if v_8.1 = (0 : Int32) then
                                    (gd (inB (0 : Int32) 1)
                                      (if (lg_cmp (v_8.2.2.2.2.2.2.2 (0 : Int32).toNatClampNeg) v_19.1.toInt64) = (0 : Int32) then
                                        (J_law_L53 F L xs nCo nQu nKn w ht tn nFu nFk nMv nPl m_w m_ht m_fou fz (i + (4 : Int32)) plc hom gol stp exa hld err rch co qu ln wd rd v_8.2.1 kp v_8.2.2.1 v_8.2.2.2.1 v_8.2.2.2.2.1 v_8.2.2.2.2.2.1 v_8.2.2.2.2.2.2.1 mv pl v_19.2.1 m_ln m_wd m_rd m_kp m_car m_hom m_gol m_hld m_err v_19.2.2.1 m_mvs m_mde m_exa m_lst v_19.2.2.2 m_nm m_be m_fa m_cs m_fr m_ro m_ne v_8.2.2.2.2.2.2.2)
                                      else
                                        (some (0 : Int32))))
                                  else
                                    (J_law_L53 F L xs nCo nQu nKn w ht tn nFu nFk nMv nPl m_w m_ht m_fou fz (i + (4 : Int32)) plc hom gol stp exa hld err rch co qu ln wd rd v_8.2.1 kp v_8.2.2.1 v_8.2.2.2.1 v_8.2.2.2.2.1 v_8.2.2.2.2.2.1 v_8.2.2.2.2.2.2.1 mv pl v_19.2.1 m_ln m_wd m_rd m_kp m_car m_hom m_gol m_hld m_err v_19.2.2.1 m_mvs m_mde m_exa m_lst v_19.2.2.2 m_nm m_be m_fa m_cs m_fr m_ro m_ne v_8.2.2.2.2.2.2.2))
                                else
                                  (some (0 : Int32))))))))))
                else
                  (Option.bind (J_L_cell_ F nKn kn w ht kp nFu fu nFk fk cnt mde stn ou (xs (i + (1 : Int32)).toNatClampNeg) (xs (i + (2 : Int32)).toNatClampNeg) (1 : Int32)) fun v_25 =>
                    (gd (inB (i + (1 : Int32)) L)
                      (gd (inB (i + (2 : Int32)) L)
                        (gd (inB (i + (3 : Int32)) L)
                          (if (xs (i + (3 : Int32)).toNatClampNeg) = (0 : Int32) then
                            (Option.bind (J_X5_cell F m_w m_ht m_isw m_mf (xs (i + (1 : Int32)).toNatClampNeg) (xs (i + (2 : Int32)).toNatClampNeg) (0 : Int32)) fun v_30 =>
                              (Option.bind (J_X5_thrown F v_30.2.1) fun v_31 =>
                                (if v_31 = v_25.1 then
                                  (if v_25.1 = (0 : Int32) then
                                    (gd (inB (0 : Int32) 1)
                                      (if (lg_cmp (v_25.2.2.2.2.2.2.2 (0 : Int32).toNatClampNeg) v_30.1.toInt64) = (0 : Int32) then
                                        (J_law_L53 F L xs nCo nQu nKn w ht tn nFu nFk nMv nPl m_w m_ht m_fou fz (i + (4 : Int32)) plc hom gol stp exa hld err rch co qu ln wd rd v_25.2.1 kp v_25.2.2.1 v_25.2.2.2.1 v_25.2.2.2.2.1 v_25.2.2.2.2.2.1 v_25.2.2.2.2.2.2.1 mv pl v_30.2.1 m_ln m_wd m_rd m_kp m_car m_hom m_gol m_hld m_err v_30.2.2.1 m_mvs m_mde m_exa m_lst v_30.2.2.2 m_nm m_be m_fa m_cs m_fr m_ro m_ne v_25.2.2.2.2.2.2.2)
                                      else
                                        (some (0 : Int32))))
                                  else
                                    (J_law_L53 F L xs nCo nQu nKn w ht tn nFu nFk nMv nPl m_w m_ht m_fou fz (i + (4 : Int32)) plc hom gol stp exa hld err rch co qu ln wd rd v_25.2.1 kp v_25.2.2.1 v_25.2.2.2.1 v_25.2.2.2.2.1 v_25.2.2.2.2.2.1 v_25.2.2.2.2.2.2.1 mv pl v_30.2.1 m_ln m_wd m_rd m_kp m_car m_hom m_gol m_hld m_err v_30.2.2.1 m_mvs m_mde m_exa m_lst v_30.2.2.2 m_nm m_be m_fa m_cs m_fr m_ro m_ne v_25.2.2.2.2.2.2.2))
                                else
                                  (some (0 : Int32)))))
                          else
                            (Option.bind (J_X5_cell F m_w m_ht m_isw m_mf (xs (i + (1 : Int32)).toNatClampNeg) (xs (i + (2 : Int32)).toNatClampNeg) (1 : Int32)) fun v_36 =>
                              (Option.bind (J_X5_thrown F v_36.2.1) fun v_37 =>
                                (if v_37 = v_25.1 then
                                  (if v_25.1 = (0 : Int32) then
                                    (gd (inB (0 : Int32) 1)
                                      (if (lg_cmp (v_25.2.2.2.2.2.2.2 (0 : Int32).toNatClampNeg) v_36.1.toInt64) = (0 : Int32) then
                                        (J_law_L53 F L xs nCo nQu nKn w ht tn nFu nFk nMv nPl m_w m_ht m_fou fz (i + (4 : Int32)) plc hom gol stp exa hld err rch co qu ln wd rd v_25.2.1 kp v_25.2.2.1 v_25.2.2.2.1 v_25.2.2.2.2.1 v_25.2.2.2.2.2.1 v_25.2.2.2.2.2.2.1 mv pl v_36.2.1 m_ln m_wd m_rd m_kp m_car m_hom m_gol m_hld m_err v_36.2.2.1 m_mvs m_mde m_exa m_lst v_36.2.2.2 m_nm m_be m_fa m_cs m_fr m_ro m_ne v_25.2.2.2.2.2.2.2)
                                      else
                                        (some (0 : Int32))))
                                  else
                                    (J_law_L53 F L xs nCo nQu nKn w ht tn nFu nFk nMv nPl m_w m_ht m_fou fz (i + (4 : Int32)) plc hom gol stp exa hld err rch co qu ln wd rd v_25.2.1 kp v_25.2.2.1 v_25.2.2.2.1 v_25.2.2.2.2.1 v_25.2.2.2.2.2.1 v_25.2.2.2.2.2.2.1 mv pl v_36.2.1 m_ln m_wd m_rd m_kp m_car m_hom m_gol m_hld m_err v_36.2.2.1 m_mvs m_mde m_exa m_lst v_36.2.2.2 m_nm m_be m_fa m_cs m_fr m_ro m_ne v_25.2.2.2.2.2.2.2))
                                else
                                  (some (0 : Int32))))))))))))))
        else
          (if ((xs i.toNatClampNeg) &&& (15 : Int32)) = (1 : Int32) then
            (gd (inB (i + (1 : Int32)) L)
              (gd (inB (i + (2 : Int32)) L)
                (gd (inB (i + (3 : Int32)) L)
                  (Option.bind (J_X4_car F ln wd rd nKn kn cnt mde stn (xs (i + (1 : Int32)).toNatClampNeg) (xs (i + (2 : Int32)).toNatClampNeg) (xs (i + (3 : Int32)).toNatClampNeg)) fun v_45 =>
                    (gd (inB (i + (1 : Int32)) L)
                      (gd (inB (i + (2 : Int32)) L)
                        (gd (inB (i + (3 : Int32)) L)
                          (Option.bind (J_X5_car F m_ln m_wd m_rd m_isw (xs (i + (1 : Int32)).toNatClampNeg) (xs (i + (2 : Int32)).toNatClampNeg) (xs (i + (3 : Int32)).toNatClampNeg)) fun v_49 =>
                            (if v_45.1 = v_49.1 then
                              (J_law_L53 F L xs nCo nQu nKn w ht tn nFu nFk nMv nPl m_w m_ht m_fou fz (i + (4 : Int32)) plc hom gol stp exa hld err rch co qu v_45.2.1 v_45.2.2.1 v_45.2.2.2.1 v_45.2.2.2.2.1 kp fu fk v_45.2.2.2.2.2.1 v_45.2.2.2.2.2.2.1 v_45.2.2.2.2.2.2.2 mv pl v_49.2.1 v_49.2.2.1 v_49.2.2.2.1 v_49.2.2.2.2.1 m_kp m_car m_hom m_gol m_hld m_err v_49.2.2.2.2.2 m_mvs m_mde m_exa m_lst m_mf m_nm m_be m_fa m_cs m_fr m_ro m_ne ou)
                            else
                              (some (0 : Int32)))))))))))
          else
            (if ((xs i.toNatClampNeg) &&& (15 : Int32)) = (2 : Int32) then
              (gd (inB (i + (1 : Int32)) L)
                (Option.bind (J_X4_keep F nKn kn w ht kp nFu fu nFk fk cnt mde stn (xs (i + (1 : Int32)).toNatClampNeg)) fun v_52 =>
                  (gd (inB (i + (1 : Int32)) L)
                    (Option.bind (J_X5_keep F m_kp m_isw (xs (i + (1 : Int32)).toNatClampNeg)) fun v_54 =>
                      (if v_52.1 = v_54.1 then
                        (J_law_L53 F L xs nCo nQu nKn w ht tn nFu nFk nMv nPl m_w m_ht m_fou fz (i + (4 : Int32)) plc hom gol stp exa hld err rch co qu ln wd rd v_52.2.1 v_52.2.2.1 fu v_52.2.2.2.1 v_52.2.2.2.2.1 v_52.2.2.2.2.2.1 v_52.2.2.2.2.2.2 mv pl v_54.2.1 m_ln m_wd m_rd v_54.2.2.1 m_car m_hom m_gol m_hld m_err v_54.2.2.2 m_mvs m_mde m_exa m_lst m_mf m_nm m_be m_fa m_cs m_fr m_ro m_ne ou)
                      else
                        (some (0 : Int32)))))))
            else
              (if ((xs i.toNatClampNeg) &&& (15 : Int32)) = (3 : Int32) then
                (gd (inB (i + (1 : Int32)) L)
                  (gd (inB (i + (2 : Int32)) L)
                    (gd (inB (i + (3 : Int32)) L)
                      (Option.bind (J_X4_stand F plc hom ln wd nKn kn w ht tn nFk fk cnt mde stn (xs (i + (1 : Int32)).toNatClampNeg) (xs (i + (2 : Int32)).toNatClampNeg) (xs (i + (3 : Int32)).toNatClampNeg)) fun v_59 =>
                        (gd (inB (i + (1 : Int32)) L)
                          (gd (inB (i + (2 : Int32)) L)
                            (gd (inB (i + (3 : Int32)) L)
                              (Option.bind (J_X5_stand F m_w m_ht m_fou m_ln m_wd m_kp m_car m_hom m_isw m_mf m_ne (xs (i + (1 : Int32)).toNatClampNeg) (xs (i + (2 : Int32)).toNatClampNeg) (xs (i + (3 : Int32)).toNatClampNeg)) fun v_63 =>
                                (if v_59.1 = v_63.1 then
                                  (J_law_L53 F L xs nCo nQu nKn w ht tn nFu nFk nMv nPl m_w m_ht m_fou fz (i + (4 : Int32)) v_59.2.1 v_59.2.2.1 gol stp exa hld err rch co qu ln wd rd v_59.2.2.2.1 kp fu fk v_59.2.2.2.2.1 v_59.2.2.2.2.2.1 v_59.2.2.2.2.2.2 mv pl v_63.2.1 m_ln m_wd m_rd m_kp v_63.2.2.1 v_63.2.2.2.1 m_gol m_hld m_err v_63.2.2.2.2.1 m_mvs m_mde m_exa m_lst m_mf m_nm m_be m_fa m_cs m_fr m_ro v_63.2.2.2.2.2 ou)
                                else
                                  (some (0 : Int32)))))))))))
              else
                (if ((xs i.toNatClampNeg) &&& (15 : Int32)) = (4 : Int32) then
                  (gd (inB (i + (1 : Int32)) L)
                    (gd (inB (i + (2 : Int32)) L)
                      (Option.bind (J_X4_space F gol w ht nFu fu cnt mde stn (xs (i + (1 : Int32)).toNatClampNeg) (xs (i + (2 : Int32)).toNatClampNeg)) fun v_67 =>
                        (gd (inB (i + (1 : Int32)) L)
                          (gd (inB (i + (2 : Int32)) L)
                            (Option.bind (J_X5_space F m_w m_ht m_gol m_isw m_mf (xs (i + (1 : Int32)).toNatClampNeg) (xs (i + (2 : Int32)).toNatClampNeg)) fun v_70 =>
                              (if v_67.1 = v_70.1 then
                                (J_law_L53 F L xs nCo nQu nKn w ht tn nFu nFk nMv nPl m_w m_ht m_fou fz (i + (4 : Int32)) plc hom v_67.2.1 stp exa hld err rch co qu ln wd rd kn kp fu fk v_67.2.2.1 v_67.2.2.2.1 v_67.2.2.2.2 mv pl v_70.2.1 m_ln m_wd m_rd m_kp m_car m_hom v_70.2.2.1 m_hld m_err v_70.2.2.2 m_mvs m_mde m_exa m_lst m_mf m_nm m_be m_fa m_cs m_fr m_ro m_ne ou)
                              else
                                (some (0 : Int32)))))))))
                else
                  (if ((xs i.toNatClampNeg) &&& (15 : Int32)) = (5 : Int32) then
                    (Option.bind (J_X4_out F hom gol cnt mde stn) fun v_72 =>
                      (Option.bind (J_X5_out F m_hom m_gol m_isw) fun v_73 =>
                        (if v_72.1 = v_73.1 then
                          (J_law_L53 F L xs nCo nQu nKn w ht tn nFu nFk nMv nPl m_w m_ht m_fou fz (i + (4 : Int32)) plc hom v_72.2.1 stp exa hld err rch co qu ln wd rd kn kp fu fk v_72.2.2.1 v_72.2.2.2.1 v_72.2.2.2.2 mv pl v_73.2.1 m_ln m_wd m_rd m_kp m_car m_hom v_73.2.2.1 m_hld m_err v_73.2.2.2 m_mvs m_mde m_exa m_lst m_mf m_nm m_be m_fa m_cs m_fr m_ro m_ne ou)
                        else
                          (some (0 : Int32)))))
                  else
                    (if ((xs i.toNatClampNeg) &&& (15 : Int32)) = (6 : Int32) then
                      (gd (inB (i + (1 : Int32)) L)
                        (gd (inB (i + (2 : Int32)) L)
                          (Option.bind (J_X4_way F plc gol stp exa rch nCo co nQu qu ln wd rd nKn kn w ht tn nFk fk cnt mde stn nMv mv nPl pl (((xs (i + (1 : Int32)).toNatClampNeg).toInt64 <<< ((32 : Int32).toInt64 &&& 63)) ||| ((xs (i + (2 : Int32)).toNatClampNeg).toInt64 &&& (4294967295 : Int64)))) fun v_77 =>
                            (gd (inB (i + (1 : Int32)) L)
                              (gd (inB (i + (2 : Int32)) L)
                                (Option.bind (J_X5_way F m_w m_ht m_fou m_ln m_wd m_rd m_kp m_car m_gol m_isw m_mvs m_mde m_exa m_lst m_mf m_nm m_be m_fa m_cs m_fr m_ro m_ne (((xs (i + (1 : Int32)).toNatClampNeg).toInt64 <<< ((32 : Int32).toInt64 &&& 63)) ||| ((xs (i + (2 : Int32)).toNatClampNeg).toInt64 &&& (4294967295 : Int64)))) fun v_80 =>
                                  (if v_77.1 = v_80.1 then
                                    (J_law_L53 F L xs nCo nQu nKn w ht tn nFu nFk nMv nPl m_w m_ht m_fou fz (i + (4 : Int32)) plc hom gol v_77.2.1 v_77.2.2.1 hld err v_77.2.2.2.1 v_77.2.2.2.2.1 v_77.2.2.2.2.2.1 ln wd rd v_77.2.2.2.2.2.2.1 kp fu fk v_77.2.2.2.2.2.2.2.1 v_77.2.2.2.2.2.2.2.2.1 v_77.2.2.2.2.2.2.2.2.2.1 v_77.2.2.2.2.2.2.2.2.2.2.1 v_77.2.2.2.2.2.2.2.2.2.2.2 v_80.2.1 m_ln m_wd m_rd m_kp m_car m_hom m_gol m_hld m_err v_80.2.2.1 v_80.2.2.2.1 v_80.2.2.2.2.1 v_80.2.2.2.2.2.1 v_80.2.2.2.2.2.2.1 m_mf v_80.2.2.2.2.2.2.2.1 v_80.2.2.2.2.2.2.2.2.1 v_80.2.2.2.2.2.2.2.2.2.1 v_80.2.2.2.2.2.2.2.2.2.2.1 v_80.2.2.2.2.2.2.2.2.2.2.2.1 v_80.2.2.2.2.2.2.2.2.2.2.2.2.1 v_80.2.2.2.2.2.2.2.2.2.2.2.2.2 ou)
                                  else
                                    (some (0 : Int32)))))))))
                    else
                      (if ((xs i.toNatClampNeg) &&& (15 : Int32)) = (7 : Int32) then
                        (gd (inB (i + (1 : Int32)) L)
                          (gd (inB (i + (2 : Int32)) L)
                            (Option.bind (J_X4_move F cnt nMv mv nPl pl (xs (i + (1 : Int32)).toNatClampNeg) (xs (i + (2 : Int32)).toNatClampNeg)) fun v_84 =>
                              (gd (inB (i + (1 : Int32)) L)
                                (gd (inB (i + (2 : Int32)) L)
                                  (Option.bind (J_X5_move F m_isw m_mvs m_nm m_be (xs (i + (1 : Int32)).toNatClampNeg) (xs (i + (2 : Int32)).toNatClampNeg)) fun v_87 =>
                                    (if v_84 = v_87.1 then
                                      (J_law_L53 F L xs nCo nQu nKn w ht tn nFu nFk nMv nPl m_w m_ht m_fou fz (i + (4 : Int32)) plc hom gol stp exa hld err rch co qu ln wd rd kn kp fu fk cnt mde stn mv pl v_87.2 m_ln m_wd m_rd m_kp m_car m_hom m_gol m_hld m_err m_isw m_mvs m_mde m_exa m_lst m_mf m_nm m_be m_fa m_cs m_fr m_ro m_ne ou)
                                    else
                                      (some (0 : Int32)))))))))
                      else
                        (if ((xs i.toNatClampNeg) &&& (15 : Int32)) = (8 : Int32) then
                          (Option.bind (J_X4_exact F exa) fun v_89 =>
                            (Option.bind (J_X5_exact F m_exa) fun v_90 =>
                              (if v_89 = v_90.1 then
                                (J_law_L53 F L xs nCo nQu nKn w ht tn nFu nFk nMv nPl m_w m_ht m_fou fz (i + (4 : Int32)) plc hom gol stp exa hld err rch co qu ln wd rd kn kp fu fk cnt mde stn mv pl v_90.2 m_ln m_wd m_rd m_kp m_car m_hom m_gol m_hld m_err m_isw m_mvs m_mde m_exa m_lst m_mf m_nm m_be m_fa m_cs m_fr m_ro m_ne ou)
                              else
                                (some (0 : Int32)))))
                        else
                          (if ((xs i.toNatClampNeg) &&& (15 : Int32)) = (9 : Int32) then
                            (gd (inB (i + (1 : Int32)) L)
                              (gd (inB (i + (2 : Int32)) L)
                                (gd (nfD (FP.dmul (FP.i2d (xs (i + (2 : Int32)).toNatClampNeg)) (4593671619917905920 : UInt64)))
                                  (Option.bind (J_X4_follow F plc hld err cnt mde stn nPl pl (xs (i + (1 : Int32)).toNatClampNeg) (FP.dmul (FP.i2d (xs (i + (2 : Int32)).toNatClampNeg)) (4593671619917905920 : UInt64))) fun v_95 =>
                                    (gd (inB (i + (1 : Int32)) L)
                                      (gd (inB (i + (2 : Int32)) L)
                                        (gd (nfD (FP.dmul (FP.i2d (xs (i + (2 : Int32)).toNatClampNeg)) (4593671619917905920 : UInt64)))
                                          (Option.bind (J_X5_follow F m_car m_hld m_err m_isw m_mvs m_mde m_be (xs (i + (1 : Int32)).toNatClampNeg) (FP.dmul (FP.i2d (xs (i + (2 : Int32)).toNatClampNeg)) (4593671619917905920 : UInt64))) fun v_99 =>
                                            (if v_95.1 = v_99.1 then
                                              (J_law_L53 F L xs nCo nQu nKn w ht tn nFu nFk nMv nPl m_w m_ht m_fou fz (i + (4 : Int32)) v_95.2.1 hom gol stp exa hld v_95.2.2.1 rch co qu ln wd rd kn kp fu fk cnt v_95.2.2.2 stn mv pl v_99.2.1 m_ln m_wd m_rd m_kp v_99.2.2.1 m_hom m_gol m_hld v_99.2.2.2.1 m_isw m_mvs v_99.2.2.2.2 m_exa m_lst m_mf m_nm m_be m_fa m_cs m_fr m_ro m_ne ou)
                                            else
                                              (some (0 : Int32)))))))))))
                          else
                            (if ((xs i.toNatClampNeg) &&& (15 : Int32)) = (10 : Int32) then
                              (Option.bind (J_X4_error F err) fun v_101 =>
                                (Option.bind (J_X5_error F m_err) fun v_102 =>
                                  (if (Op.cmpValue (FP.dcmp v_101 v_102.1) .l) = (0 : Int32) then
                                    (J_law_L53 F L xs nCo nQu nKn w ht tn nFu nFk nMv nPl m_w m_ht m_fou fz (i + (4 : Int32)) plc hom gol stp exa hld err rch co qu ln wd rd kn kp fu fk cnt mde stn mv pl v_102.2 m_ln m_wd m_rd m_kp m_car m_hom m_gol m_hld m_err m_isw m_mvs m_mde m_exa m_lst m_mf m_nm m_be m_fa m_cs m_fr m_ro m_ne ou)
                                  else
                                    (if (Op.cmpValue (FP.dcmp v_101 v_101) .l) = (0 : Int32) then
                                      (some (0 : Int32))
                                    else
                                      (if (Op.cmpValue (FP.dcmp v_102.1 v_102.1) .l) = (0 : Int32) then
                                        (some (0 : Int32))
                                      else
                                        (J_law_L53 F L xs nCo nQu nKn w ht tn nFu nFk nMv nPl m_w m_ht m_fou fz (i + (4 : Int32)) plc hom gol stp exa hld err rch co qu ln wd rd kn kp fu fk cnt mde stn mv pl v_102.2 m_ln m_wd m_rd m_kp m_car m_hom m_gol m_hld m_err m_isw m_mvs m_mde m_exa m_lst m_mf m_nm m_be m_fa m_cs m_fr m_ro m_ne ou))))))
                            else
                              (if ((xs i.toNatClampNeg) &&& (15 : Int32)) = (11 : Int32) then
                                (gd (inB (i + (1 : Int32)) L)
                                  (gd (inB (i + (2 : Int32)) L)
                                    (gd (inB (i + (3 : Int32)) L)
                                      (if (xs (i + (3 : Int32)).toNatClampNeg) = (0 : Int32) then
                                        (Option.bind (J_L_change F plc gol stp exa rch nCo co nQu qu ln wd rd nKn kn w ht tn kp nFu fu nFk fk cnt mde stn nMv mv nPl pl ou (xs (i + (1 : Int32)).toNatClampNeg) (xs (i + (2 : Int32)).toNatClampNeg) (0 : Int32)) fun v_110 =>
                                          (gd (inB (i + (1 : Int32)) L)
                                            (gd (inB (i + (2 : Int32)) L)
                                              (gd (inB (i + (3 : Int32)) L)
                                                (if (xs (i + (3 : Int32)).toNatClampNeg) = (0 : Int32) then
                                                  (Option.bind (J_X5_change F m_w m_ht m_fou m_ln m_wd m_rd m_kp m_car m_gol m_isw m_mvs m_mde m_exa m_lst m_mf m_nm m_be m_fa m_cs m_fr m_ro m_ne (xs (i + (1 : Int32)).toNatClampNeg) (xs (i + (2 : Int32)).toNatClampNeg) (0 : Int32)) fun v_115 =>
                                                    (Option.bind (J_X5_thrown F v_115.2.1) fun v_116 =>
                                                      (if v_116 = v_110.1 then
                                                        (if v_110.1 = (0 : Int32) then
                                                          (gd (inB (0 : Int32) 1)
                                                            (if (lg_cmp (v_110.2.2.2.2.2.2.2.2.2.2.2.2.2 (0 : Int32).toNatClampNeg) v_115.1.toInt64) = (0 : Int32) then
                                                              (J_law_L53 F L xs nCo nQu nKn w ht tn nFu nFk nMv nPl m_w m_ht m_fou fz (i + (4 : Int32)) plc hom gol stp v_110.2.1 hld err v_110.2.2.1 v_110.2.2.2.1 v_110.2.2.2.2.1 ln wd rd v_110.2.2.2.2.2.1 kp v_110.2.2.2.2.2.2.1 v_110.2.2.2.2.2.2.2.1 v_110.2.2.2.2.2.2.2.2.1 v_110.2.2.2.2.2.2.2.2.2.1 v_110.2.2.2.2.2.2.2.2.2.2.1 v_110.2.2.2.2.2.2.2.2.2.2.2.1 v_110.2.2.2.2.2.2.2.2.2.2.2.2.1 v_115.2.1 m_ln m_wd m_rd m_kp m_car m_hom m_gol m_hld m_err v_115.2.2.1 v_115.2.2.2.1 v_115.2.2.2.2.1 v_115.2.2.2.2.2.1 v_115.2.2.2.2.2.2.1 v_115.2.2.2.2.2.2.2.1 v_115.2.2.2.2.2.2.2.2.1 v_115.2.2.2.2.2.2.2.2.2.1 v_115.2.2.2.2.2.2.2.2.2.2.1 v_115.2.2.2.2.2.2.2.2.2.2.2.1 v_115.2.2.2.2.2.2.2.2.2.2.2.2.1 v_115.2.2.2.2.2.2.2.2.2.2.2.2.2.1 v_115.2.2.2.2.2.2.2.2.2.2.2.2.2.2 v_110.2.2.2.2.2.2.2.2.2.2.2.2.2)
                                                            else
                                                              (some (0 : Int32))))
                                                        else
                                                          (J_law_L53 F L xs nCo nQu nKn w ht tn nFu nFk nMv nPl m_w m_ht m_fou fz (i + (4 : Int32)) plc hom gol stp v_110.2.1 hld err v_110.2.2.1 v_110.2.2.2.1 v_110.2.2.2.2.1 ln wd rd v_110.2.2.2.2.2.1 kp v_110.2.2.2.2.2.2.1 v_110.2.2.2.2.2.2.2.1 v_110.2.2.2.2.2.2.2.2.1 v_110.2.2.2.2.2.2.2.2.2.1 v_110.2.2.2.2.2.2.2.2.2.2.1 v_110.2.2.2.2.2.2.2.2.2.2.2.1 v_110.2.2.2.2.2.2.2.2.2.2.2.2.1 v_115.2.1 m_ln m_wd m_rd m_kp m_car m_hom m_gol m_hld m_err v_115.2.2.1 v_115.2.2.2.1 v_115.2.2.2.2.1 v_115.2.2.2.2.2.1 v_115.2.2.2.2.2.2.1 v_115.2.2.2.2.2.2.2.1 v_115.2.2.2.2.2.2.2.2.1 v_115.2.2.2.2.2.2.2.2.2.1 v_115.2.2.2.2.2.2.2.2.2.2.1 v_115.2.2.2.2.2.2.2.2.2.2.2.1 v_115.2.2.2.2.2.2.2.2.2.2.2.2.1 v_115.2.2.2.2.2.2.2.2.2.2.2.2.2.1 v_115.2.2.2.2.2.2.2.2.2.2.2.2.2.2 v_110.2.2.2.2.2.2.2.2.2.2.2.2.2))
                                                      else
                                                        (some (0 : Int32)))))
                                                else
                                                  (Option.bind (J_X5_change F m_w m_ht m_fou m_ln m_wd m_rd m_kp m_car m_gol m_isw m_mvs m_mde m_exa m_lst m_mf m_nm m_be m_fa m_cs m_fr m_ro m_ne (xs (i + (1 : Int32)).toNatClampNeg) (xs (i + (2 : Int32)).toNatClampNeg) (1 : Int32)) fun v_121 =>
                                                    (Option.bind (J_X5_thrown F v_121.2.1) fun v_122 =>
                                                      (if v_122 = v_110.1 then
                                                        (if v_110.1 = (0 : Int32) then
                                                          (gd (inB (0 : Int32) 1)
                                                            (if (lg_cmp (v_110.2.2.2.2.2.2.2.2.2.2.2.2.2 (0 : Int32).toNatClampNeg) v_121.1.toInt64) = (0 : Int32) then
                                                              (J_law_L53 F L xs nCo nQu nKn w ht tn nFu nFk nMv nPl m_w m_ht m_fou fz (i + (4 : Int32)) plc hom gol stp v_110.2.1 hld err v_110.2.2.1 v_110.2.2.2.1 v_110.2.2.2.2.1 ln wd rd v_110.2.2.2.2.2.1 kp v_110.2.2.2.2.2.2.1 v_110.2.2.2.2.2.2.2.1 v_110.2.2.2.2.2.2.2.2.1 v_110.2.2.2.2.2.2.2.2.2.1 v_110.2.2.2.2.2.2.2.2.2.2.1 v_110.2.2.2.2.2.2.2.2.2.2.2.1 v_110.2.2.2.2.2.2.2.2.2.2.2.2.1 v_121.2.1 m_ln m_wd m_rd m_kp m_car m_hom m_gol m_hld m_err v_121.2.2.1 v_121.2.2.2.1 v_121.2.2.2.2.1 v_121.2.2.2.2.2.1 v_121.2.2.2.2.2.2.1 v_121.2.2.2.2.2.2.2.1 v_121.2.2.2.2.2.2.2.2.1 v_121.2.2.2.2.2.2.2.2.2.1 v_121.2.2.2.2.2.2.2.2.2.2.1 v_121.2.2.2.2.2.2.2.2.2.2.2.1 v_121.2.2.2.2.2.2.2.2.2.2.2.2.1 v_121.2.2.2.2.2.2.2.2.2.2.2.2.2.1 v_121.2.2.2.2.2.2.2.2.2.2.2.2.2.2 v_110.2.2.2.2.2.2.2.2.2.2.2.2.2)
                                                            else
                                                              (some (0 : Int32))))
                                                        else
                                                          (J_law_L53 F L xs nCo nQu nKn w ht tn nFu nFk nMv nPl m_w m_ht m_fou fz (i + (4 : Int32)) plc hom gol stp v_110.2.1 hld err v_110.2.2.1 v_110.2.2.2.1 v_110.2.2.2.2.1 ln wd rd v_110.2.2.2.2.2.1 kp v_110.2.2.2.2.2.2.1 v_110.2.2.2.2.2.2.2.1 v_110.2.2.2.2.2.2.2.2.1 v_110.2.2.2.2.2.2.2.2.2.1 v_110.2.2.2.2.2.2.2.2.2.2.1 v_110.2.2.2.2.2.2.2.2.2.2.2.1 v_110.2.2.2.2.2.2.2.2.2.2.2.2.1 v_121.2.1 m_ln m_wd m_rd m_kp m_car m_hom m_gol m_hld m_err v_121.2.2.1 v_121.2.2.2.1 v_121.2.2.2.2.1 v_121.2.2.2.2.2.1 v_121.2.2.2.2.2.2.1 v_121.2.2.2.2.2.2.2.1 v_121.2.2.2.2.2.2.2.2.1 v_121.2.2.2.2.2.2.2.2.2.1 v_121.2.2.2.2.2.2.2.2.2.2.1 v_121.2.2.2.2.2.2.2.2.2.2.2.1 v_121.2.2.2.2.2.2.2.2.2.2.2.2.1 v_121.2.2.2.2.2.2.2.2.2.2.2.2.2.1 v_121.2.2.2.2.2.2.2.2.2.2.2.2.2.2 v_110.2.2.2.2.2.2.2.2.2.2.2.2.2))
                                                      else
                                                        (some (0 : Int32))))))))))
                                      else
                                        (Option.bind (J_L_change F plc gol stp exa rch nCo co nQu qu ln wd rd nKn kn w ht tn kp nFu fu nFk fk cnt mde stn nMv mv nPl pl ou (xs (i + (1 : Int32)).toNatClampNeg) (xs (i + (2 : Int32)).toNatClampNeg) (1 : Int32)) fun v_127 =>
                                          (gd (inB (i + (1 : Int32)) L)
                                            (gd (inB (i + (2 : Int32)) L)
                                              (gd (inB (i + (3 : Int32)) L)
                                                (if (xs (i + (3 : Int32)).toNatClampNeg) = (0 : Int32) then
                                                  (Option.bind (J_X5_change F m_w m_ht m_fou m_ln m_wd m_rd m_kp m_car m_gol m_isw m_mvs m_mde m_exa m_lst m_mf m_nm m_be m_fa m_cs m_fr m_ro m_ne (xs (i + (1 : Int32)).toNatClampNeg) (xs (i + (2 : Int32)).toNatClampNeg) (0 : Int32)) fun v_132 =>
                                                    (Option.bind (J_X5_thrown F v_132.2.1) fun v_133 =>
                                                      (if v_133 = v_127.1 then
                                                        (if v_127.1 = (0 : Int32) then
                                                          (gd (inB (0 : Int32) 1)
                                                            (if (lg_cmp (v_127.2.2.2.2.2.2.2.2.2.2.2.2.2 (0 : Int32).toNatClampNeg) v_132.1.toInt64) = (0 : Int32) then
                                                              (J_law_L53 F L xs nCo nQu nKn w ht tn nFu nFk nMv nPl m_w m_ht m_fou fz (i + (4 : Int32)) plc hom gol stp v_127.2.1 hld err v_127.2.2.1 v_127.2.2.2.1 v_127.2.2.2.2.1 ln wd rd v_127.2.2.2.2.2.1 kp v_127.2.2.2.2.2.2.1 v_127.2.2.2.2.2.2.2.1 v_127.2.2.2.2.2.2.2.2.1 v_127.2.2.2.2.2.2.2.2.2.1 v_127.2.2.2.2.2.2.2.2.2.2.1 v_127.2.2.2.2.2.2.2.2.2.2.2.1 v_127.2.2.2.2.2.2.2.2.2.2.2.2.1 v_132.2.1 m_ln m_wd m_rd m_kp m_car m_hom m_gol m_hld m_err v_132.2.2.1 v_132.2.2.2.1 v_132.2.2.2.2.1 v_132.2.2.2.2.2.1 v_132.2.2.2.2.2.2.1 v_132.2.2.2.2.2.2.2.1 v_132.2.2.2.2.2.2.2.2.1 v_132.2.2.2.2.2.2.2.2.2.1 v_132.2.2.2.2.2.2.2.2.2.2.1 v_132.2.2.2.2.2.2.2.2.2.2.2.1 v_132.2.2.2.2.2.2.2.2.2.2.2.2.1 v_132.2.2.2.2.2.2.2.2.2.2.2.2.2.1 v_132.2.2.2.2.2.2.2.2.2.2.2.2.2.2 v_127.2.2.2.2.2.2.2.2.2.2.2.2.2)
                                                            else
                                                              (some (0 : Int32))))
                                                        else
                                                          (J_law_L53 F L xs nCo nQu nKn w ht tn nFu nFk nMv nPl m_w m_ht m_fou fz (i + (4 : Int32)) plc hom gol stp v_127.2.1 hld err v_127.2.2.1 v_127.2.2.2.1 v_127.2.2.2.2.1 ln wd rd v_127.2.2.2.2.2.1 kp v_127.2.2.2.2.2.2.1 v_127.2.2.2.2.2.2.2.1 v_127.2.2.2.2.2.2.2.2.1 v_127.2.2.2.2.2.2.2.2.2.1 v_127.2.2.2.2.2.2.2.2.2.2.1 v_127.2.2.2.2.2.2.2.2.2.2.2.1 v_127.2.2.2.2.2.2.2.2.2.2.2.2.1 v_132.2.1 m_ln m_wd m_rd m_kp m_car m_hom m_gol m_hld m_err v_132.2.2.1 v_132.2.2.2.1 v_132.2.2.2.2.1 v_132.2.2.2.2.2.1 v_132.2.2.2.2.2.2.1 v_132.2.2.2.2.2.2.2.1 v_132.2.2.2.2.2.2.2.2.1 v_132.2.2.2.2.2.2.2.2.2.1 v_132.2.2.2.2.2.2.2.2.2.2.1 v_132.2.2.2.2.2.2.2.2.2.2.2.1 v_132.2.2.2.2.2.2.2.2.2.2.2.2.1 v_132.2.2.2.2.2.2.2.2.2.2.2.2.2.1 v_132.2.2.2.2.2.2.2.2.2.2.2.2.2.2 v_127.2.2.2.2.2.2.2.2.2.2.2.2.2))
                                                      else
                                                        (some (0 : Int32)))))
                                                else
                                                  (Option.bind (J_X5_change F m_w m_ht m_fou m_ln m_wd m_rd m_kp m_car m_gol m_isw m_mvs m_mde m_exa m_lst m_mf m_nm m_be m_fa m_cs m_fr m_ro m_ne (xs (i + (1 : Int32)).toNatClampNeg) (xs (i + (2 : Int32)).toNatClampNeg) (1 : Int32)) fun v_138 =>
                                                    (Option.bind (J_X5_thrown F v_138.2.1) fun v_139 =>
                                                      (if v_139 = v_127.1 then
                                                        (if v_127.1 = (0 : Int32) then
                                                          (gd (inB (0 : Int32) 1)
                                                            (if (lg_cmp (v_127.2.2.2.2.2.2.2.2.2.2.2.2.2 (0 : Int32).toNatClampNeg) v_138.1.toInt64) = (0 : Int32) then
                                                              (J_law_L53 F L xs nCo nQu nKn w ht tn nFu nFk nMv nPl m_w m_ht m_fou fz (i + (4 : Int32)) plc hom gol stp v_127.2.1 hld err v_127.2.2.1 v_127.2.2.2.1 v_127.2.2.2.2.1 ln wd rd v_127.2.2.2.2.2.1 kp v_127.2.2.2.2.2.2.1 v_127.2.2.2.2.2.2.2.1 v_127.2.2.2.2.2.2.2.2.1 v_127.2.2.2.2.2.2.2.2.2.1 v_127.2.2.2.2.2.2.2.2.2.2.1 v_127.2.2.2.2.2.2.2.2.2.2.2.1 v_127.2.2.2.2.2.2.2.2.2.2.2.2.1 v_138.2.1 m_ln m_wd m_rd m_kp m_car m_hom m_gol m_hld m_err v_138.2.2.1 v_138.2.2.2.1 v_138.2.2.2.2.1 v_138.2.2.2.2.2.1 v_138.2.2.2.2.2.2.1 v_138.2.2.2.2.2.2.2.1 v_138.2.2.2.2.2.2.2.2.1 v_138.2.2.2.2.2.2.2.2.2.1 v_138.2.2.2.2.2.2.2.2.2.2.1 v_138.2.2.2.2.2.2.2.2.2.2.2.1 v_138.2.2.2.2.2.2.2.2.2.2.2.2.1 v_138.2.2.2.2.2.2.2.2.2.2.2.2.2.1 v_138.2.2.2.2.2.2.2.2.2.2.2.2.2.2 v_127.2.2.2.2.2.2.2.2.2.2.2.2.2)
                                                            else
                                                              (some (0 : Int32))))
                                                        else
                                                          (J_law_L53 F L xs nCo nQu nKn w ht tn nFu nFk nMv nPl m_w m_ht m_fou fz (i + (4 : Int32)) plc hom gol stp v_127.2.1 hld err v_127.2.2.1 v_127.2.2.2.1 v_127.2.2.2.2.1 ln wd rd v_127.2.2.2.2.2.1 kp v_127.2.2.2.2.2.2.1 v_127.2.2.2.2.2.2.2.1 v_127.2.2.2.2.2.2.2.2.1 v_127.2.2.2.2.2.2.2.2.2.1 v_127.2.2.2.2.2.2.2.2.2.2.1 v_127.2.2.2.2.2.2.2.2.2.2.2.1 v_127.2.2.2.2.2.2.2.2.2.2.2.2.1 v_138.2.1 m_ln m_wd m_rd m_kp m_car m_hom m_gol m_hld m_err v_138.2.2.1 v_138.2.2.2.1 v_138.2.2.2.2.1 v_138.2.2.2.2.2.1 v_138.2.2.2.2.2.2.1 v_138.2.2.2.2.2.2.2.1 v_138.2.2.2.2.2.2.2.2.1 v_138.2.2.2.2.2.2.2.2.2.1 v_138.2.2.2.2.2.2.2.2.2.2.1 v_138.2.2.2.2.2.2.2.2.2.2.2.1 v_138.2.2.2.2.2.2.2.2.2.2.2.2.1 v_138.2.2.2.2.2.2.2.2.2.2.2.2.2.1 v_138.2.2.2.2.2.2.2.2.2.2.2.2.2.2 v_127.2.2.2.2.2.2.2.2.2.2.2.2.2))
                                                      else
                                                        (some (0 : Int32))))))))))))))
                              else
                                (if ((xs i.toNatClampNeg) &&& (15 : Int32)) = (12 : Int32) then
                                  (gd (inB (i + (1 : Int32)) L)
                                    (if (xs (i + (1 : Int32)).toNatClampNeg) = (0 : Int32) then
                                      (Option.bind (J_X4_release F hld (0 : Int32)) fun v_146 =>
                                        (gd (inB (i + (1 : Int32)) L)
                                          (if (xs (i + (1 : Int32)).toNatClampNeg) = (0 : Int32) then
                                            (Option.bind (J_X5_release F m_hld (0 : Int32)) fun v_149 =>
                                              (if v_146.1 = v_149.1 then
                                                (J_law_L53 F L xs nCo nQu nKn w ht tn nFu nFk nMv nPl m_w m_ht m_fou fz (i + (4 : Int32)) plc hom gol stp exa v_146.2 err rch co qu ln wd rd kn kp fu fk cnt mde stn mv pl v_149.2.1 m_ln m_wd m_rd m_kp m_car m_hom m_gol v_149.2.2 m_err m_isw m_mvs m_mde m_exa m_lst m_mf m_nm m_be m_fa m_cs m_fr m_ro m_ne ou)
                                              else
                                                (some (0 : Int32))))
                                          else
                                            (Option.bind (J_X5_release F m_hld (1 : Int32)) fun v_151 =>
                                              (if v_146.1 = v_151.1 then
                                                (J_law_L53 F L xs nCo nQu nKn w ht tn nFu nFk nMv nPl m_w m_ht m_fou fz (i + (4 : Int32)) plc hom gol stp exa v_146.2 err rch co qu ln wd rd kn kp fu fk cnt mde stn mv pl v_151.2.1 m_ln m_wd m_rd m_kp m_car m_hom m_gol v_151.2.2 m_err m_isw m_mvs m_mde m_exa m_lst m_mf m_nm m_be m_fa m_cs m_fr m_ro m_ne ou)
                                              else
                                                (some (0 : Int32)))))))
                                    else
                                      (Option.bind (J_X4_release F hld (1 : Int32)) fun v_153 =>
                                        (gd (inB (i + (1 : Int32)) L)
                                          (if (xs (i + (1 : Int32)).toNatClampNeg) = (0 : Int32) then
                                            (Option.bind (J_X5_release F m_hld (0 : Int32)) fun v_156 =>
                                              (if v_153.1 = v_156.1 then
                                                (J_law_L53 F L xs nCo nQu nKn w ht tn nFu nFk nMv nPl m_w m_ht m_fou fz (i + (4 : Int32)) plc hom gol stp exa v_153.2 err rch co qu ln wd rd kn kp fu fk cnt mde stn mv pl v_156.2.1 m_ln m_wd m_rd m_kp m_car m_hom m_gol v_156.2.2 m_err m_isw m_mvs m_mde m_exa m_lst m_mf m_nm m_be m_fa m_cs m_fr m_ro m_ne ou)
                                              else
                                                (some (0 : Int32))))
                                          else
                                            (Option.bind (J_X5_release F m_hld (1 : Int32)) fun v_158 =>
                                              (if v_153.1 = v_158.1 then
                                                (J_law_L53 F L xs nCo nQu nKn w ht tn nFu nFk nMv nPl m_w m_ht m_fou fz (i + (4 : Int32)) plc hom gol stp exa v_153.2 err rch co qu ln wd rd kn kp fu fk cnt mde stn mv pl v_158.2.1 m_ln m_wd m_rd m_kp m_car m_hom m_gol v_158.2.2 m_err m_isw m_mvs m_mde m_exa m_lst m_mf m_nm m_be m_fa m_cs m_fr m_ro m_ne ou)
                                              else
                                                (some (0 : Int32)))))))))
                                else
                                  (if ((xs i.toNatClampNeg) &&& (15 : Int32)) = (13 : Int32) then
                                    (gd (inB (i + (1 : Int32)) L)
                                      (Option.bind (J_X4_margin F ln wd w ht nFu fu cnt nPl pl (xs (i + (1 : Int32)).toNatClampNeg)) fun v_161 =>
                                        (gd (inB (i + (1 : Int32)) L)
                                          (Option.bind (J_X5_margin F m_w m_ht m_ln m_wd m_isw m_mvs m_mf m_be m_ne (xs (i + (1 : Int32)).toNatClampNeg)) fun v_163 =>
                                            (if v_161 = v_163.1 then
                                              (J_law_L53 F L xs nCo nQu nKn w ht tn nFu nFk nMv nPl m_w m_ht m_fou fz (i + (4 : Int32)) plc hom gol stp exa hld err rch co qu ln wd rd kn kp fu fk cnt mde stn mv pl v_163.2.1 m_ln m_wd m_rd m_kp m_car m_hom m_gol m_hld m_err m_isw m_mvs m_mde m_exa m_lst m_mf m_nm m_be m_fa m_cs m_fr m_ro v_163.2.2 ou)
                                            else
                                              (some (0 : Int32)))))))
                                  else
                                    (if ((xs i.toNatClampNeg) &&& (15 : Int32)) = (14 : Int32) then
                                      (gd (inB (i + (1 : Int32)) L)
                                        (Option.bind (J_L_heading F ou (xs (i + (1 : Int32)).toNatClampNeg)) fun v_166 =>
                                          (gd (inB (i + (1 : Int32)) L)
                                            (Option.bind (J_X5_heading F (xs (i + (1 : Int32)).toNatClampNeg)) fun v_168 =>
                                              (Option.bind (J_X5_thrown F v_168.2) fun v_169 =>
                                                (if v_169 = v_166.1 then
                                                  (if v_166.1 = (0 : Int32) then
                                                    (gd (inB (0 : Int32) 1)
                                                      (if (lg_cmp (v_166.2 (0 : Int32).toNatClampNeg) v_168.1.toInt64) = (0 : Int32) then
                                                        (J_law_L53 F L xs nCo nQu nKn w ht tn nFu nFk nMv nPl m_w m_ht m_fou fz (i + (4 : Int32)) plc hom gol stp exa hld err rch co qu ln wd rd kn kp fu fk cnt mde stn mv pl v_168.2 m_ln m_wd m_rd m_kp m_car m_hom m_gol m_hld m_err m_isw m_mvs m_mde m_exa m_lst m_mf m_nm m_be m_fa m_cs m_fr m_ro m_ne v_166.2)
                                                      else
                                                        (some (0 : Int32))))
                                                  else
                                                    (J_law_L53 F L xs nCo nQu nKn w ht tn nFu nFk nMv nPl m_w m_ht m_fou fz (i + (4 : Int32)) plc hom gol stp exa hld err rch co qu ln wd rd kn kp fu fk cnt mde stn mv pl v_168.2 m_ln m_wd m_rd m_kp m_car m_hom m_gol m_hld m_err m_isw m_mvs m_mde m_exa m_lst m_mf m_nm m_be m_fa m_cs m_fr m_ro m_ne v_166.2))
                                                else
                                                  (some (0 : Int32))))))))
                                    else
                                      (J_law_L53 F L xs nCo nQu nKn w ht tn nFu nFk nMv nPl m_w m_ht m_fou fz (i + (4 : Int32)) plc hom gol stp exa hld err rch co qu ln wd rd kn kp fu fk cnt mde stn mv pl m_cod m_ln m_wd m_rd m_kp m_car m_hom m_gol m_hld m_err m_isw m_mvs m_mde m_exa m_lst m_mf m_nm m_be m_fa m_cs m_fr m_ro m_ne ou))))))))))))))))))
