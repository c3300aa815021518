set_option maxHeartbeats 2000000 in
set_option maxRecDepth 20000 in
theorem k_ok_1_3 {g : mG} {L : Int} {xs : Int → Int} : kOK g (kM0 L xs) 3 4 1 3 18 qX2_init 1 5 [.int (Int32.ofInt 0), .int (Int32.ofInt 0), .null, .null, .null] := by
  refine kOK_of rfl fun F0 Q hQ => ?_
  refine K_this dX2_init_0 ?_
  refine K_obj dX2_init_1 (mTbl_at 133 (by decide +kernel) rfl) k_oi2 k_oi3 (by omega) ?_
  refine K_this dX2_init_4 ?_
  refine K_bipush dX2_init_5 (by decide) ?_
  refine K_putI dX2_init_7 fl_X2_9 fw_1_0 (vp_nar_int _) rfl (Nat.le_of_ble_eq_true rfl) (fs2 := [.int (Int32.ofInt 30), .int (Int32.ofInt 0), .null, .null, .null]) rfl ?_
  refine K_this dX2_init_10 ?_
  refine K_iconst dX2_init_11 ?_
  refine K_putI dX2_init_12 fl_X2_15 fw_1_1 (vp_nar_int _) rfl (Nat.le_of_ble_eq_true rfl) (fs2 := [.int (Int32.ofInt 30), .int (Int32.ofInt 0), .null, .null, .null]) rfl ?_
  refine K_this dX2_init_15 ?_
  refine K_bipush dX2_init_16 (by decide) ?_
  refine K_newI (l0 := 6) (kc' := 2) (ks' := 12) dX2_init_18 rfl (kM0_z (by decide)) (by decide +kernel) (by decide +kernel) (Nat.le_of_ble_eq_true rfl) (Nat.le_of_ble_eq_true rfl) (Nat.le_of_ble_eq_true rfl) (n2 := 5) rfl ?_
  refine K_putR dX2_init_20 fl_X2_18 k_ff1_2 rfl (Nat.le_of_ble_eq_true rfl) (fs2 := [.int (Int32.ofInt 30), .int (Int32.ofInt 0), .ref (g.1 + 4), .null, .null]) rfl ?_
  refine K_this dX2_init_23 ?_
  refine K_bipush dX2_init_24 (by decide) ?_
  refine K_newI (l0 := 6) (kc' := 1) (ks' := 6) dX2_init_26 rfl (kM0_z (by decide)) (by decide +kernel) (by decide +kernel) (Nat.le_of_ble_eq_true rfl) (Nat.le_of_ble_eq_true rfl) (Nat.le_of_ble_eq_true rfl) (n2 := 6) rfl ?_
  refine K_putR dX2_init_28 fl_X2_22 k_ff1_3 rfl (Nat.le_of_ble_eq_true rfl) (fs2 := [.int (Int32.ofInt 30), .int (Int32.ofInt 0), .ref (g.1 + 4), .ref (g.1 + 5), .null]) rfl ?_
  refine K_this dX2_init_31 ?_
  refine K_bipush dX2_init_32 (by decide) ?_
  refine K_newI (l0 := 6) (kc' := 0) (ks' := 0) dX2_init_34 rfl (kM0_z (by decide)) (by decide +kernel) (by decide +kernel) (Nat.le_of_ble_eq_true rfl) (Nat.le_of_ble_eq_true rfl) (Nat.le_of_ble_eq_true rfl) (n2 := 7) rfl ?_
  refine K_putR dX2_init_36 fl_X2_25 k_ff1_4 rfl (Nat.le_of_ble_eq_true rfl) (fs2 := [.int (Int32.ofInt 30), .int (Int32.ofInt 0), .ref (g.1 + 4), .ref (g.1 + 5), .ref (g.1 + 6)]) rfl ?_
  exact K_ret (cnt := 4) dX2_init_39 rfl rfl rfl hQ
set_option maxHeartbeats 2000000 in
set_option maxRecDepth 20000 in
theorem k_ok_4_2 {g : mG} {L : Int} {xs : Int → Int} : kOK g (kM0 L xs) 2 6 2 5 37 qX6_init 4 8 [.null, .null, .int (Int32.ofInt 0), .int (Int32.ofInt 0), .int (Int32.ofInt 0), .int (Int32.ofInt 0), .int (Int32.ofInt 0), .int (Int32.ofInt 0)] := by
  refine kOK_of rfl fun F0 Q hQ => ?_
  refine K_this dX6_init_0 ?_
  refine K_obj dX6_init_1 (mTbl_at 127 (by decide +kernel) rfl) k_oi2 k_oi3 (by omega) ?_
  refine K_this dX6_init_4 ?_
  refine K_newC (cnt := 4) (d' := 1) (kc' := 3) (ks' := 18) (kc'' := 1) (ks'' := 14) (host := "BinProver") dX6_init_5 dX6_init_8 dX6_init_9 k_nw_X6_9 (List.mem_of_getElem? (i := 130) (by decide +kernel)) k_cm1 (k_ok_1_3 (L := L) (xs := xs)) (by omega) (Nat.le_of_ble_eq_true rfl) (Nat.le_of_ble_eq_true rfl) (Nat.le_of_ble_eq_true rfl) (n2 := 7) rfl ?_
  refine K_putR dX6_init_12 fl_X6_12 k_ff4_0 rfl (Nat.le_of_ble_eq_true rfl) (fs2 := [.ref (g.1 + 3), .null, .int (Int32.ofInt 0), .int (Int32.ofInt 0), .int (Int32.ofInt 0), .int (Int32.ofInt 0), .int (Int32.ofInt 0), .int (Int32.ofInt 0)]) rfl ?_
  refine K_this dX6_init_15 ?_
  refine K_bipush dX6_init_16 (by decide) ?_
  refine K_newL (l0 := 14) (kc' := 0) (ks' := 0) dX6_init_18 rfl (kM0_z (by decide)) (by decide +kernel) (by decide +kernel) (Nat.le_of_ble_eq_true rfl) (Nat.le_of_ble_eq_true rfl) (Nat.le_of_ble_eq_true rfl) (n2 := 8) rfl ?_
  refine K_putR dX6_init_20 fl_X6_20 k_ff4_1 rfl (Nat.le_of_ble_eq_true rfl) (fs2 := [.ref (g.1 + 3), .ref (g.1 + 7), .int (Int32.ofInt 0), .int (Int32.ofInt 0), .int (Int32.ofInt 0), .int (Int32.ofInt 0), .int (Int32.ofInt 0), .int (Int32.ofInt 0)]) rfl ?_
  refine K_this dX6_init_23 ?_
  refine K_iconst dX6_init_24 ?_
  refine K_putI dX6_init_25 fl_X6_24 fw_4_2 (vp_nar_int _) rfl (Nat.le_of_ble_eq_true rfl) (fs2 := [.ref (g.1 + 3), .ref (g.1 + 7), .int (Int32.ofInt (-1)), .int (Int32.ofInt 0), .int (Int32.ofInt 0), .int (Int32.ofInt 0), .int (Int32.ofInt 0), .int (Int32.ofInt 0)]) rfl ?_
  refine K_this dX6_init_28 ?_
  refine K_iconst dX6_init_29 ?_
  refine K_putI dX6_init_30 fl_X6_28 fw_4_3 (vp_nar_int _) rfl (Nat.le_of_ble_eq_true rfl) (fs2 := [.ref (g.1 + 3), .ref (g.1 + 7), .int (Int32.ofInt (-1)), .int (Int32.ofInt 0), .int (Int32.ofInt 0), .int (Int32.ofInt 0), .int (Int32.ofInt 0), .int (Int32.ofInt 0)]) rfl ?_
  refine K_this dX6_init_33 ?_
  refine K_iconst dX6_init_34 ?_
  refine K_putI dX6_init_35 fl_X6_31 fw_4_4 (vp_nar_int _) rfl (Nat.le_of_ble_eq_true rfl) (fs2 := [.ref (g.1 + 3), .ref (g.1 + 7), .int (Int32.ofInt (-1)), .int (Int32.ofInt 0), .int (Int32.ofInt 0), .int (Int32.ofInt 0), .int (Int32.ofInt 0), .int (Int32.ofInt 0)]) rfl ?_
  refine K_this dX6_init_38 ?_
  refine K_iconst dX6_init_39 ?_
  refine K_putI dX6_init_40 fl_X6_34 fw_4_5 (vp_nar_int _) rfl (Nat.le_of_ble_eq_true rfl) (fs2 := [.ref (g.1 + 3), .ref (g.1 + 7), .int (Int32.ofInt (-1)), .int (Int32.ofInt 0), .int (Int32.ofInt 0), .int (Int32.ofInt 0), .int (Int32.ofInt 0), .int (Int32.ofInt 0)]) rfl ?_
  refine K_this dX6_init_43 ?_
  refine K_iconst dX6_init_44 ?_
  refine K_putI dX6_init_45 fl_X6_37 fw_4_6 (vp_nar_int _) rfl (Nat.le_of_ble_eq_true rfl) (fs2 := [.ref (g.1 + 3), .ref (g.1 + 7), .int (Int32.ofInt (-1)), .int (Int32.ofInt 0), .int (Int32.ofInt 0), .int (Int32.ofInt 0), .int (Int32.ofInt 0), .int (Int32.ofInt 0)]) rfl ?_
  refine K_this dX6_init_48 ?_
  refine K_iconst dX6_init_49 ?_
  refine K_putI dX6_init_50 fl_X6_40 fw_4_7 (vp_nar_int _) rfl (Nat.le_of_ble_eq_true rfl) (fs2 := [.ref (g.1 + 3), .ref (g.1 + 7), .int (Int32.ofInt (-1)), .int (Int32.ofInt 0), .int (Int32.ofInt 0), .int (Int32.ofInt 0), .int (Int32.ofInt 0), .int (Int32.ofInt 0)]) rfl ?_
  exact K_ret (cnt := 6) dX6_init_53 rfl rfl rfl hQ
set_option maxHeartbeats 2000000 in
set_option maxRecDepth 20000 in
theorem k_ok_1_8 {g : mG} {L : Int} {xs : Int → Int} : kOK g (kM0 L xs) 8 4 1 3 18 qX2_init 1 5 [.int (Int32.ofInt 0), .int (Int32.ofInt 0), .null, .null, .null] := by
  refine kOK_of rfl fun F0 Q hQ => ?_
  refine K_this dX2_init_0 ?_
  refine K_obj dX2_init_1 (mTbl_at 133 (by decide +kernel) rfl) k_oi2 k_oi3 (by omega) ?_
  refine K_this dX2_init_4 ?_
  refine K_bipush dX2_init_5 (by decide) ?_
  refine K_putI dX2_init_7 fl_X2_9 fw_1_0 (vp_nar_int _) rfl (Nat.le_of_ble_eq_true rfl) (fs2 := [.int (Int32.ofInt 30), .int (Int32.ofInt 0), .null, .null, .null]) rfl ?_
  refine K_this dX2_init_10 ?_
  refine K_iconst dX2_init_11 ?_
  refine K_putI dX2_init_12 fl_X2_15 fw_1_1 (vp_nar_int _) rfl (Nat.le_of_ble_eq_true rfl) (fs2 := [.int (Int32.ofInt 30), .int (Int32.ofInt 0), .null, .null, .null]) rfl ?_
  refine K_this dX2_init_15 ?_
  refine K_bipush dX2_init_16 (by decide) ?_
  refine K_newI (l0 := 6) (kc' := 2) (ks' := 12) dX2_init_18 rfl (kM0_z (by decide)) (by decide +kernel) (by decide +kernel) (Nat.le_of_ble_eq_true rfl) (Nat.le_of_ble_eq_true rfl) (Nat.le_of_ble_eq_true rfl) (n2 := 10) rfl ?_
  refine K_putR dX2_init_20 fl_X2_18 k_ff1_2 rfl (Nat.le_of_ble_eq_true rfl) (fs2 := [.int (Int32.ofInt 30), .int (Int32.ofInt 0), .ref (g.1 + 9), .null, .null]) rfl ?_
  refine K_this dX2_init_23 ?_
  refine K_bipush dX2_init_24 (by decide) ?_
  refine K_newI (l0 := 6) (kc' := 1) (ks' := 6) dX2_init_26 rfl (kM0_z (by decide)) (by decide +kernel) (by decide +kernel) (Nat.le_of_ble_eq_true rfl) (Nat.le_of_ble_eq_true rfl) (Nat.le_of_ble_eq_true rfl) (n2 := 11) rfl ?_
  refine K_putR dX2_init_28 fl_X2_22 k_ff1_3 rfl (Nat.le_of_ble_eq_true rfl) (fs2 := [.int (Int32.ofInt 30), .int (Int32.ofInt 0), .ref (g.1 + 9), .ref (g.1 + 10), .null]) rfl ?_
  refine K_this dX2_init_31 ?_
  refine K_bipush dX2_init_32 (by decide) ?_
  refine K_newI (l0 := 6) (kc' := 0) (ks' := 0) dX2_init_34 rfl (kM0_z (by decide)) (by decide +kernel) (by decide +kernel) (Nat.le_of_ble_eq_true rfl) (Nat.le_of_ble_eq_true rfl) (Nat.le_of_ble_eq_true rfl) (n2 := 12) rfl ?_
  refine K_putR dX2_init_36 fl_X2_25 k_ff1_4 rfl (Nat.le_of_ble_eq_true rfl) (fs2 := [.int (Int32.ofInt 30), .int (Int32.ofInt 0), .ref (g.1 + 9), .ref (g.1 + 10), .ref (g.1 + 11)]) rfl ?_
  exact K_ret (cnt := 4) dX2_init_39 rfl rfl rfl hQ
set_option maxHeartbeats 2000000 in
set_option maxRecDepth 20000 in
theorem k_ok_1_12 {g : mG} {L : Int} {xs : Int → Int} : kOK g (kM0 L xs) 12 4 1 3 18 qX2_init 1 5 [.int (Int32.ofInt 0), .int (Int32.ofInt 0), .null, .null, .null] := by
  refine kOK_of rfl fun F0 Q hQ => ?_
  refine K_this dX2_init_0 ?_
  refine K_obj dX2_init_1 (mTbl_at 133 (by decide +kernel) rfl) k_oi2 k_oi3 (by omega) ?_
  refine K_this dX2_init_4 ?_
  refine K_bipush dX2_init_5 (by decide) ?_
  refine K_putI dX2_init_7 fl_X2_9 fw_1_0 (vp_nar_int _) rfl (Nat.le_of_ble_eq_true rfl) (fs2 := [.int (Int32.ofInt 30), .int (Int32.ofInt 0), .null, .null, .null]) rfl ?_
  refine K_this dX2_init_10 ?_
  refine K_iconst dX2_init_11 ?_
  refine K_putI dX2_init_12 fl_X2_15 fw_1_1 (vp_nar_int _) rfl (Nat.le_of_ble_eq_true rfl) (fs2 := [.int (Int32.ofInt 30), .int (Int32.ofInt 0), .null, .null, .null]) rfl ?_
  refine K_this dX2_init_15 ?_
  refine K_bipush dX2_init_16 (by decide) ?_
  refine K_newI (l0 := 6) (kc' := 2) (ks' := 12) dX2_init_18 rfl (kM0_z (by decide)) (by decide +kernel) (by decide +kernel) (Nat.le_of_ble_eq_true rfl) (Nat.le_of_ble_eq_true rfl) (Nat.le_of_ble_eq_true rfl) (n2 := 14) rfl ?_
  refine K_putR dX2_init_20 fl_X2_18 k_ff1_2 rfl (Nat.le_of_ble_eq_true rfl) (fs2 := [.int (Int32.ofInt 30), .int (Int32.ofInt 0), .ref (g.1 + 13), .null, .null]) rfl ?_
  refine K_this dX2_init_23 ?_
  refine K_bipush dX2_init_24 (by decide) ?_
  refine K_newI (l0 := 6) (kc' := 1) (ks' := 6) dX2_init_26 rfl (kM0_z (by decide)) (by decide +kernel) (by decide +kernel) (Nat.le_of_ble_eq_true rfl) (Nat.le_of_ble_eq_true rfl) (Nat.le_of_ble_eq_true rfl) (n2 := 15) rfl ?_
  refine K_putR dX2_init_28 fl_X2_22 k_ff1_3 rfl (Nat.le_of_ble_eq_true rfl) (fs2 := [.int (Int32.ofInt 30), .int (Int32.ofInt 0), .ref (g.1 + 13), .ref (g.1 + 14), .null]) rfl ?_
  refine K_this dX2_init_31 ?_
  refine K_bipush dX2_init_32 (by decide) ?_
  refine K_newI (l0 := 6) (kc' := 0) (ks' := 0) dX2_init_34 rfl (kM0_z (by decide)) (by decide +kernel) (by decide +kernel) (Nat.le_of_ble_eq_true rfl) (Nat.le_of_ble_eq_true rfl) (Nat.le_of_ble_eq_true rfl) (n2 := 16) rfl ?_
  refine K_putR dX2_init_36 fl_X2_25 k_ff1_4 rfl (Nat.le_of_ble_eq_true rfl) (fs2 := [.int (Int32.ofInt 30), .int (Int32.ofInt 0), .ref (g.1 + 13), .ref (g.1 + 14), .ref (g.1 + 15)]) rfl ?_
  exact K_ret (cnt := 4) dX2_init_39 rfl rfl rfl hQ
set_option maxHeartbeats 2000000 in
set_option maxRecDepth 20000 in
theorem k_ok_5_16 {g : mG} {L : Int} {xs : Int → Int} : kOK g (kM0 L xs) 16 6 1 5 593 qX7_init 5 7 [.null, .null, .int (Int32.ofInt 0), .int (Int32.ofInt 0), .null, .null, .null] := by
  refine kOK_of rfl fun F0 Q hQ => ?_
  refine K_this dX7_init_0 ?_
  refine K_obj dX7_init_1 (mTbl_at 219 (by decide +kernel) rfl) k_oi2 k_oi3 (by omega) ?_
  refine K_this dX7_init_4 ?_
  refine K_bipush dX7_init_5 (by decide) ?_
  refine K_newL (l0 := 14) (kc' := 4) (ks' := 579) dX7_init_7 rfl (kM0_z (by decide)) (by decide +kernel) (by decide +kernel) (Nat.le_of_ble_eq_true rfl) (Nat.le_of_ble_eq_true rfl) (Nat.le_of_ble_eq_true rfl) (n2 := 18) rfl ?_
  refine K_putR dX7_init_9 fl_X7_11 k_ff5_0 rfl (Nat.le_of_ble_eq_true rfl) (fs2 := [.ref (g.1 + 17), .null, .int (Int32.ofInt 0), .int (Int32.ofInt 0), .null, .null, .null]) rfl ?_
  refine K_this dX7_init_12 ?_
  refine K_iconst dX7_init_13 ?_
  refine K_newI (l0 := 3) (kc' := 3) (ks' := 576) dX7_init_14 rfl (kM0_z (by decide)) (by decide +kernel) (by decide +kernel) (Nat.le_of_ble_eq_true rfl) (Nat.le_of_ble_eq_true rfl) (Nat.le_of_ble_eq_true rfl) (n2 := 19) rfl ?_
  refine K_putR dX7_init_16 fl_X7_15 k_ff5_1 rfl (Nat.le_of_ble_eq_true rfl) (fs2 := [.ref (g.1 + 17), .ref (g.1 + 18), .int (Int32.ofInt 0), .int (Int32.ofInt 0), .null, .null, .null]) rfl ?_
  refine K_this dX7_init_19 ?_
  refine K_iconst dX7_init_20 ?_
  refine K_putI dX7_init_21 fl_X7_19 fw_5_2 (vp_nar_int _) rfl (Nat.le_of_ble_eq_true rfl) (fs2 := [.ref (g.1 + 17), .ref (g.1 + 18), .int (Int32.ofInt 0), .int (Int32.ofInt 0), .null, .null, .null]) rfl ?_
  refine K_this dX7_init_24 ?_
  refine K_iconst dX7_init_25 ?_
  refine K_putI dX7_init_26 fl_X7_23 fw_5_3 (vp_nar_int _) rfl (Nat.le_of_ble_eq_true rfl) (fs2 := [.ref (g.1 + 17), .ref (g.1 + 18), .int (Int32.ofInt 0), .int (Int32.ofInt 0), .null, .null, .null]) rfl ?_
  refine K_this dX7_init_29 ?_
  refine K_sipush dX7_init_30 (by decide) ?_
  refine K_newL (l0 := 560) (kc' := 2) (ks' := 16) dX7_init_33 rfl (kM0_z (by decide)) (by decide +kernel) (by decide +kernel) (Nat.le_of_ble_eq_true rfl) (Nat.le_of_ble_eq_true rfl) (Nat.le_of_ble_eq_true rfl) (n2 := 20) rfl ?_
  refine K_putR dX7_init_35 fl_X7_26 k_ff5_4 rfl (Nat.le_of_ble_eq_true rfl) (fs2 := [.ref (g.1 + 17), .ref (g.1 + 18), .int (Int32.ofInt 0), .int (Int32.ofInt 0), .ref (g.1 + 19), .null, .null]) rfl ?_
  refine K_this dX7_init_38 ?_
  refine K_bipush dX7_init_39 (by decide) ?_
  refine K_newI (l0 := 8) (kc' := 1) (ks' := 8) dX7_init_41 rfl (kM0_z (by decide)) (by decide +kernel) (by decide +kernel) (Nat.le_of_ble_eq_true rfl) (Nat.le_of_ble_eq_true rfl) (Nat.le_of_ble_eq_true rfl) (n2 := 21) rfl ?_
  refine K_putR dX7_init_43 fl_X7_29 k_ff5_5 rfl (Nat.le_of_ble_eq_true rfl) (fs2 := [.ref (g.1 + 17), .ref (g.1 + 18), .int (Int32.ofInt 0), .int (Int32.ofInt 0), .ref (g.1 + 19), .ref (g.1 + 20), .null]) rfl ?_
  refine K_this dX7_init_46 ?_
  refine K_bipush dX7_init_47 (by decide) ?_
  refine K_newI (l0 := 8) (kc' := 0) (ks' := 0) dX7_init_49 rfl (kM0_z (by decide)) (by decide +kernel) (by decide +kernel) (Nat.le_of_ble_eq_true rfl) (Nat.le_of_ble_eq_true rfl) (Nat.le_of_ble_eq_true rfl) (n2 := 22) rfl ?_
  refine K_putR dX7_init_51 fl_X7_32 k_ff5_6 rfl (Nat.le_of_ble_eq_true rfl) (fs2 := [.ref (g.1 + 17), .ref (g.1 + 18), .int (Int32.ofInt 0), .int (Int32.ofInt 0), .ref (g.1 + 19), .ref (g.1 + 20), .ref (g.1 + 21)]) rfl ?_
  exact K_ret (cnt := 6) dX7_init_54 rfl rfl rfl hQ
set_option maxHeartbeats 2000000 in
set_option maxRecDepth 20000 in
theorem k_ok_5_22 {g : mG} {L : Int} {xs : Int → Int} : kOK g (kM0 L xs) 22 6 1 5 593 qX7_init 5 7 [.null, .null, .int (Int32.ofInt 0), .int (Int32.ofInt 0), .null, .null, .null] := by
  refine kOK_of rfl fun F0 Q hQ => ?_
  refine K_this dX7_init_0 ?_
  refine K_obj dX7_init_1 (mTbl_at 219 (by decide +kernel) rfl) k_oi2 k_oi3 (by omega) ?_
  refine K_this dX7_init_4 ?_
  refine K_bipush dX7_init_5 (by decide) ?_
  refine K_newL (l0 := 14) (kc' := 4) (ks' := 579) dX7_init_7 rfl (kM0_z (by decide)) (by decide +kernel) (by decide +kernel) (Nat.le_of_ble_eq_true rfl) (Nat.le_of_ble_eq_true rfl) (Nat.le_of_ble_eq_true rfl) (n2 := 24) rfl ?_
  refine K_putR dX7_init_9 fl_X7_11 k_ff5_0 rfl (Nat.le_of_ble_eq_true rfl) (fs2 := [.ref (g.1 + 23), .null, .int (Int32.ofInt 0), .int (Int32.ofInt 0), .null, .null, .null]) rfl ?_
  refine K_this dX7_init_12 ?_
  refine K_iconst dX7_init_13 ?_
  refine K_newI (l0 := 3) (kc' := 3) (ks' := 576) dX7_init_14 rfl (kM0_z (by decide)) (by decide +kernel) (by decide +kernel) (Nat.le_of_ble_eq_true rfl) (Nat.le_of_ble_eq_true rfl) (Nat.le_of_ble_eq_true rfl) (n2 := 25) rfl ?_
  refine K_putR dX7_init_16 fl_X7_15 k_ff5_1 rfl (Nat.le_of_ble_eq_true rfl) (fs2 := [.ref (g.1 + 23), .ref (g.1 + 24), .int (Int32.ofInt 0), .int (Int32.ofInt 0), .null, .null, .null]) rfl ?_
  refine K_this dX7_init_19 ?_
  refine K_iconst dX7_init_20 ?_
  refine K_putI dX7_init_21 fl_X7_19 fw_5_2 (vp_nar_int _) rfl (Nat.le_of_ble_eq_true rfl) (fs2 := [.ref (g.1 + 23), .ref (g.1 + 24), .int (Int32.ofInt 0), .int (Int32.ofInt 0), .null, .null, .null]) rfl ?_
  refine K_this dX7_init_24 ?_
  refine K_iconst dX7_init_25 ?_
  refine K_putI dX7_init_26 fl_X7_23 fw_5_3 (vp_nar_int _) rfl (Nat.le_of_ble_eq_true rfl) (fs2 := [.ref (g.1 + 23), .ref (g.1 + 24), .int (Int32.ofInt 0), .int (Int32.ofInt 0), .null, .null, .null]) rfl ?_
  refine K_this dX7_init_29 ?_
  refine K_sipush dX7_init_30 (by decide) ?_
  refine K_newL (l0 := 560) (kc' := 2) (ks' := 16) dX7_init_33 rfl (kM0_z (by decide)) (by decide +kernel) (by decide +kernel) (Nat.le_of_ble_eq_true rfl) (Nat.le_of_ble_eq_true rfl) (Nat.le_of_ble_eq_true rfl) (n2 := 26) rfl ?_
  refine K_putR dX7_init_35 fl_X7_26 k_ff5_4 rfl (Nat.le_of_ble_eq_true rfl) (fs2 := [.ref (g.1 + 23), .ref (g.1 + 24), .int (Int32.ofInt 0), .int (Int32.ofInt 0), .ref (g.1 + 25), .null, .null]) rfl ?_
  refine K_this dX7_init_38 ?_
  refine K_bipush dX7_init_39 (by decide) ?_
  refine K_newI (l0 := 8) (kc' := 1) (ks' := 8) dX7_init_41 rfl (kM0_z (by decide)) (by decide +kernel) (by decide +kernel) (Nat.le_of_ble_eq_true rfl) (Nat.le_of_ble_eq_true rfl) (Nat.le_of_ble_eq_true rfl) (n2 := 27) rfl ?_
  refine K_putR dX7_init_43 fl_X7_29 k_ff5_5 rfl (Nat.le_of_ble_eq_true rfl) (fs2 := [.ref (g.1 + 23), .ref (g.1 + 24), .int (Int32.ofInt 0), .int (Int32.ofInt 0), .ref (g.1 + 25), .ref (g.1 + 26), .null]) rfl ?_
  refine K_this dX7_init_46 ?_
  refine K_bipush dX7_init_47 (by decide) ?_
  refine K_newI (l0 := 8) (kc' := 0) (ks' := 0) dX7_init_49 rfl (kM0_z (by decide)) (by decide +kernel) (by decide +kernel) (Nat.le_of_ble_eq_true rfl) (Nat.le_of_ble_eq_true rfl) (Nat.le_of_ble_eq_true rfl) (n2 := 28) rfl ?_
  refine K_putR dX7_init_51 fl_X7_32 k_ff5_6 rfl (Nat.le_of_ble_eq_true rfl) (fs2 := [.ref (g.1 + 23), .ref (g.1 + 24), .int (Int32.ofInt 0), .int (Int32.ofInt 0), .ref (g.1 + 25), .ref (g.1 + 26), .ref (g.1 + 27)]) rfl ?_
  exact K_ret (cnt := 6) dX7_init_54 rfl rfl rfl hQ
set_option maxHeartbeats 2000000 in
set_option maxRecDepth 20000 in
theorem k_ok_3_28 {g : mG} {L : Int} {xs : Int → Int} : kOK g (kM0 L xs) 28 4 1 3 192 qX4_init 3 5 [.null, .null, .int (Int32.ofInt 0), .int (Int32.ofInt 0), .null] := by
  refine kOK_of rfl fun F0 Q hQ => ?_
  refine K_this dX4_init_0 ?_
  refine K_obj dX4_init_1 (mTbl_at 252 (by decide +kernel) rfl) k_oi2 k_oi3 (by omega) ?_
  refine K_this dX4_init_4 ?_
  refine K_bipush dX4_init_5 (by decide) ?_
  refine K_newI (l0 := 24) (kc' := 2) (ks' := 168) dX4_init_7 rfl (kM0_z (by decide)) (by decide +kernel) (by decide +kernel) (Nat.le_of_ble_eq_true rfl) (Nat.le_of_ble_eq_true rfl) (Nat.le_of_ble_eq_true rfl) (n2 := 30) rfl ?_
  refine K_putR dX4_init_9 fl_X4_9 k_ff3_0 rfl (Nat.le_of_ble_eq_true rfl) (fs2 := [.ref (g.1 + 29), .null, .int (Int32.ofInt 0), .int (Int32.ofInt 0), .null]) rfl ?_
  refine K_this dX4_init_12 ?_
  refine K_sipush dX4_init_13 (by decide) ?_
  refine K_newI (l0 := 144) (kc' := 1) (ks' := 24) dX4_init_16 rfl (kM0_z (by decide)) (by decide +kernel) (by decide +kernel) (Nat.le_of_ble_eq_true rfl) (Nat.le_of_ble_eq_true rfl) (Nat.le_of_ble_eq_true rfl) (n2 := 31) rfl ?_
  refine K_putR dX4_init_18 fl_X4_15 k_ff3_1 rfl (Nat.le_of_ble_eq_true rfl) (fs2 := [.ref (g.1 + 29), .ref (g.1 + 30), .int (Int32.ofInt 0), .int (Int32.ofInt 0), .null]) rfl ?_
  refine K_this dX4_init_21 ?_
  refine K_iconst dX4_init_22 ?_
  refine K_putI dX4_init_23 fl_X4_18 fw_3_2 (vp_nar_int _) rfl (Nat.le_of_ble_eq_true rfl) (fs2 := [.ref (g.1 + 29), .ref (g.1 + 30), .int (Int32.ofInt 0), .int (Int32.ofInt 0), .null]) rfl ?_
  refine K_this dX4_init_26 ?_
  refine K_iconst dX4_init_27 ?_
  refine K_putI dX4_init_28 fl_X4_22 fw_3_3 (vp_nar_int _) rfl (Nat.le_of_ble_eq_true rfl) (fs2 := [.ref (g.1 + 29), .ref (g.1 + 30), .int (Int32.ofInt 0), .int (Int32.ofInt 0), .null]) rfl ?_
  refine K_this dX4_init_31 ?_
  refine K_bipush dX4_init_32 (by decide) ?_
  refine K_newI (l0 := 24) (kc' := 0) (ks' := 0) dX4_init_34 rfl (kM0_z (by decide)) (by decide +kernel) (by decide +kernel) (Nat.le_of_ble_eq_true rfl) (Nat.le_of_ble_eq_true rfl) (Nat.le_of_ble_eq_true rfl) (n2 := 32) rfl ?_
  refine K_putR dX4_init_36 fl_X4_25 k_ff3_4 rfl (Nat.le_of_ble_eq_true rfl) (fs2 := [.ref (g.1 + 29), .ref (g.1 + 30), .int (Int32.ofInt 0), .int (Int32.ofInt 0), .ref (g.1 + 31)]) rfl ?_
  exact K_ret (cnt := 4) dX4_init_39 rfl rfl rfl hQ
set_option maxHeartbeats 2000000 in
set_option maxRecDepth 20000 in
theorem k_ok_3_34 {g : mG} {L : Int} {xs : Int → Int} : kOK g (kM0 L xs) 34 4 1 3 192 qX4_init 3 5 [.null, .null, .int (Int32.ofInt 0), .int (Int32.ofInt 0), .null] := by
  refine kOK_of rfl fun F0 Q hQ => ?_
  refine K_this dX4_init_0 ?_
  refine K_obj dX4_init_1 (mTbl_at 252 (by decide +kernel) rfl) k_oi2 k_oi3 (by omega) ?_
  refine K_this dX4_init_4 ?_
  refine K_bipush dX4_init_5 (by decide) ?_
  refine K_newI (l0 := 24) (kc' := 2) (ks' := 168) dX4_init_7 rfl (kM0_z (by decide)) (by decide +kernel) (by decide +kernel) (Nat.le_of_ble_eq_true rfl) (Nat.le_of_ble_eq_true rfl) (Nat.le_of_ble_eq_true rfl) (n2 := 36) rfl ?_
  refine K_putR dX4_init_9 fl_X4_9 k_ff3_0 rfl (Nat.le_of_ble_eq_true rfl) (fs2 := [.ref (g.1 + 35), .null, .int (Int32.ofInt 0), .int (Int32.ofInt 0), .null]) rfl ?_
  refine K_this dX4_init_12 ?_
  refine K_sipush dX4_init_13 (by decide) ?_
  refine K_newI (l0 := 144) (kc' := 1) (ks' := 24) dX4_init_16 rfl (kM0_z (by decide)) (by decide +kernel) (by decide +kernel) (Nat.le_of_ble_eq_true rfl) (Nat.le_of_ble_eq_true rfl) (Nat.le_of_ble_eq_true rfl) (n2 := 37) rfl ?_
  refine K_putR dX4_init_18 fl_X4_15 k_ff3_1 rfl (Nat.le_of_ble_eq_true rfl) (fs2 := [.ref (g.1 + 35), .ref (g.1 + 36), .int (Int32.ofInt 0), .int (Int32.ofInt 0), .null]) rfl ?_
  refine K_this dX4_init_21 ?_
  refine K_iconst dX4_init_22 ?_
  refine K_putI dX4_init_23 fl_X4_18 fw_3_2 (vp_nar_int _) rfl (Nat.le_of_ble_eq_true rfl) (fs2 := [.ref (g.1 + 35), .ref (g.1 + 36), .int (Int32.ofInt 0), .int (Int32.ofInt 0), .null]) rfl ?_
  refine K_this dX4_init_26 ?_
  refine K_iconst dX4_init_27 ?_
  refine K_putI dX4_init_28 fl_X4_22 fw_3_3 (vp_nar_int _) rfl (Nat.le_of_ble_eq_true rfl) (fs2 := [.ref (g.1 + 35), .ref (g.1 + 36), .int (Int32.ofInt 0), .int (Int32.ofInt 0), .null]) rfl ?_
  refine K_this dX4_init_31 ?_
  refine K_bipush dX4_init_32 (by decide) ?_
  refine K_newI (l0 := 24) (kc' := 0) (ks' := 0) dX4_init_34 rfl (kM0_z (by decide)) (by decide +kernel) (by decide +kernel) (Nat.le_of_ble_eq_true rfl) (Nat.le_of_ble_eq_true rfl) (Nat.le_of_ble_eq_true rfl) (n2 := 38) rfl ?_
  refine K_putR dX4_init_36 fl_X4_25 k_ff3_4 rfl (Nat.le_of_ble_eq_true rfl) (fs2 := [.ref (g.1 + 35), .ref (g.1 + 36), .int (Int32.ofInt 0), .int (Int32.ofInt 0), .ref (g.1 + 37)]) rfl ?_
  exact K_ret (cnt := 4) dX4_init_39 rfl rfl rfl hQ
set_option maxHeartbeats 2000000 in
set_option maxRecDepth 20000 in
theorem k_ok_6_32 {g : mG} {L : Int} {xs : Int → Int} : kOK g (kM0 L xs) 32 58 2 57 691 qX8_init 6 10 [.null, .int (Int32.ofInt 0), .int (Int32.ofInt 0), .int (Int32.ofInt 0), .int (Int32.ofInt 0), .int (Int32.ofInt 0), .int (Int32.ofInt 0), .null, .null, .null] := by
  refine kOK_of rfl fun F0 Q hQ => ?_
  refine K_this dX8_init_0 ?_
  refine K_obj dX8_init_1 (mTbl_at 277 (by decide +kernel) rfl) k_oi2 k_oi3 (by omega) ?_
  refine K_this dX8_init_4 ?_
  refine K_sipush dX8_init_5 (by decide) ?_
  refine K_newI (l0 := 144) (kc' := 56) (ks' := 547) dX8_init_8 rfl (kM0_z (by decide)) (by decide +kernel) (by decide +kernel) (Nat.le_of_ble_eq_true rfl) (Nat.le_of_ble_eq_true rfl) (Nat.le_of_ble_eq_true rfl) (n2 := 34) rfl ?_
  refine K_putR dX8_init_10 fl_X8_9 k_ff6_0 rfl (Nat.le_of_ble_eq_true rfl) (fs2 := [.ref (g.1 + 33), .int (Int32.ofInt 0), .int (Int32.ofInt 0), .int (Int32.ofInt 0), .int (Int32.ofInt 0), .int (Int32.ofInt 0), .int (Int32.ofInt 0), .null, .null, .null]) rfl ?_
  refine K_this dX8_init_13 ?_
  refine K_iconst dX8_init_14 ?_
  refine K_putI dX8_init_15 fl_X8_15 fw_6_1 (vp_nar_int _) rfl (Nat.le_of_ble_eq_true rfl) (fs2 := [.ref (g.1 + 33), .int (Int32.ofInt 0), .int (Int32.ofInt 0), .int (Int32.ofInt 0), .int (Int32.ofInt 0), .int (Int32.ofInt 0), .int (Int32.ofInt 0), .null, .null, .null]) rfl ?_
  refine K_this dX8_init_18 ?_
  refine K_iconst dX8_init_19 ?_
  refine K_putI dX8_init_20 fl_X8_19 fw_6_2 (vp_nar_int _) rfl (Nat.le_of_ble_eq_true rfl) (fs2 := [.ref (g.1 + 33), .int (Int32.ofInt 0), .int (Int32.ofInt 0), .int (Int32.ofInt 0), .int (Int32.ofInt 0), .int (Int32.ofInt 0), .int (Int32.ofInt 0), .null, .null, .null]) rfl ?_
  refine K_this dX8_init_23 ?_
  refine K_iconst dX8_init_24 ?_
  refine K_putI dX8_init_25 fl_X8_22 fw_6_3 (vp_nar_int _) rfl (Nat.le_of_ble_eq_true rfl) (fs2 := [.ref (g.1 + 33), .int (Int32.ofInt 0), .int (Int32.ofInt 0), .int (Int32.ofInt 0), .int (Int32.ofInt 0), .int (Int32.ofInt 0), .int (Int32.ofInt 0), .null, .null, .null]) rfl ?_
  refine K_this dX8_init_28 ?_
  refine K_iconst dX8_init_29 ?_
  refine K_putI dX8_init_30 fl_X8_25 fw_6_4 (vp_nar_int _) rfl (Nat.le_of_ble_eq_true rfl) (fs2 := [.ref (g.1 + 33), .int (Int32.ofInt 0), .int (Int32.ofInt 0), .int (Int32.ofInt 0), .int (Int32.ofInt 0), .int (Int32.ofInt 0), .int (Int32.ofInt 0), .null, .null, .null]) rfl ?_
  refine K_this dX8_init_33 ?_
  refine K_iconst dX8_init_34 ?_
  refine K_putI dX8_init_35 fl_X8_28 fw_6_5 (vp_nar_int _) rfl (Nat.le_of_ble_eq_true rfl) (fs2 := [.ref (g.1 + 33), .int (Int32.ofInt 0), .int (Int32.ofInt 0), .int (Int32.ofInt 0), .int (Int32.ofInt 0), .int (Int32.ofInt 0), .int (Int32.ofInt 0), .null, .null, .null]) rfl ?_
  refine K_this dX8_init_38 ?_
  refine K_iconst dX8_init_39 ?_
  refine K_putI dX8_init_40 fl_X8_31 fw_6_6 rfl rfl (Nat.le_of_ble_eq_true rfl) (fs2 := [.ref (g.1 + 33), .int (Int32.ofInt 0), .int (Int32.ofInt 0), .int (Int32.ofInt 0), .int (Int32.ofInt 0), .int (Int32.ofInt 0), .int (Int32.ofInt 0), .null, .null, .null]) rfl ?_
  refine K_this dX8_init_43 ?_
  refine K_newC (cnt := 4) (d' := 1) (kc' := 3) (ks' := 192) (kc'' := 52) (ks'' := 350) (host := "BinProver") dX8_init_44 dX8_init_47 dX8_init_48 k_nw_X8_35 (List.mem_of_getElem? (i := 279) (by decide +kernel)) k_cm3 (k_ok_3_34 (L := L) (xs := xs)) (by omega) (Nat.le_of_ble_eq_true rfl) (Nat.le_of_ble_eq_true rfl) (Nat.le_of_ble_eq_true rfl) (n2 := 38) rfl ?_
  refine K_putR dX8_init_51 fl_X8_38 k_ff6_7 rfl (Nat.le_of_ble_eq_true rfl) (fs2 := [.ref (g.1 + 33), .int (Int32.ofInt 0), .int (Int32.ofInt 0), .int (Int32.ofInt 0), .int (Int32.ofInt 0), .int (Int32.ofInt 0), .int (Int32.ofInt 0), .ref (g.1 + 34), .null, .null]) rfl ?_
  refine K_this dX8_init_54 ?_
  refine K_bipush dX8_init_55 (by decide) ?_
  refine K_bipush dX8_init_57 (by decide) ?_
  refine K_mna (N' := 25) (K' := 6) (kc' := 26) (ks' := 175) dX8_init_59 (mTbl_at 280 (by decide +kernel) rfl) (by decide +kernel) (by decide +kernel) (by decide +kernel) (by decide +kernel) (Nat.le_of_ble_eq_true rfl) (Nat.le_of_ble_eq_true rfl) (Nat.le_of_ble_eq_true rfl) (Nat.le_of_ble_eq_true rfl) rfl (by decide) (fun j hj i => kM0_z (by omega) i) (n2 := 64) rfl ?_
  refine K_putR dX8_init_63 fl_X8_44 k_ff6_8 rfl (Nat.le_of_ble_eq_true rfl) (fs2 := [.ref (g.1 + 33), .int (Int32.ofInt 0), .int (Int32.ofInt 0), .int (Int32.ofInt 0), .int (Int32.ofInt 0), .int (Int32.ofInt 0), .int (Int32.ofInt 0), .ref (g.1 + 34), .ref (g.1 + 38), .null]) rfl ?_
  refine K_this dX8_init_66 ?_
  refine K_bipush dX8_init_67 (by decide) ?_
  refine K_bipush dX8_init_69 (by decide) ?_
  refine K_mna (N' := 25) (K' := 6) (kc' := 0) (ks' := 0) dX8_init_71 (mTbl_at 280 (by decide +kernel) rfl) (by decide +kernel) (by decide +kernel) (by decide +kernel) (by decide +kernel) (Nat.le_of_ble_eq_true rfl) (Nat.le_of_ble_eq_true rfl) (Nat.le_of_ble_eq_true rfl) (Nat.le_of_ble_eq_true rfl) rfl (by decide) (fun j hj i => kM0_z (by omega) i) (n2 := 90) rfl ?_
  refine K_putR dX8_init_75 fl_X8_47 k_ff6_9 rfl (Nat.le_of_ble_eq_true rfl) (fs2 := [.ref (g.1 + 33), .int (Int32.ofInt 0), .int (Int32.ofInt 0), .int (Int32.ofInt 0), .int (Int32.ofInt 0), .int (Int32.ofInt 0), .int (Int32.ofInt 0), .ref (g.1 + 34), .ref (g.1 + 38), .ref (g.1 + 64)]) rfl ?_
  exact K_ret (cnt := 58) dX8_init_78 rfl rfl rfl hQ
set_option maxHeartbeats 2000000 in
set_option maxRecDepth 20000 in
theorem k_ok_2_90 {g : mG} {L : Int} {xs : Int → Int} : kOK g (kM0 L xs) 90 18 1 17 1420 qX3_init 2 4 [.null, .null, .null, .int (Int32.ofInt 0)] := by
  refine kOK_of rfl fun F0 Q hQ => ?_
  refine K_this dX3_init_0 ?_
  refine K_obj dX3_init_1 (mTbl_at 325 (by decide +kernel) rfl) k_oi2 k_oi3 (by omega) ?_
  refine K_this dX3_init_4 ?_
  refine K_bipush dX3_init_5 (by decide) ?_
  refine K_bipush dX3_init_7 (by decide) ?_
  refine K_mna (N' := 7) (K' := 100) (kc' := 9) (ks' := 713) dX3_init_9 (mTbl_at 326 (by decide +kernel) rfl) (by decide +kernel) (by decide +kernel) (by decide +kernel) (by decide +kernel) (Nat.le_of_ble_eq_true rfl) (Nat.le_of_ble_eq_true rfl) (Nat.le_of_ble_eq_true rfl) (Nat.le_of_ble_eq_true rfl) rfl (by decide) (fun j hj i => kM0_z (by omega) i) (n2 := 99) rfl ?_
  refine K_putR dX3_init_13 fl_X3_11 k_ff2_0 rfl (Nat.le_of_ble_eq_true rfl) (fs2 := [.ref (g.1 + 91), .null, .null, .int (Int32.ofInt 0)]) rfl ?_
  refine K_this dX3_init_16 ?_
  refine K_bipush dX3_init_17 (by decide) ?_
  refine K_bipush dX3_init_19 (by decide) ?_
  refine K_mna (N' := 7) (K' := 100) (kc' := 1) (ks' := 6) dX3_init_21 (mTbl_at 326 (by decide +kernel) rfl) (by decide +kernel) (by decide +kernel) (by decide +kernel) (by decide +kernel) (Nat.le_of_ble_eq_true rfl) (Nat.le_of_ble_eq_true rfl) (Nat.le_of_ble_eq_true rfl) (Nat.le_of_ble_eq_true rfl) rfl (by decide) (fun j hj i => kM0_z (by omega) i) (n2 := 107) rfl ?_
  refine K_putR dX3_init_25 fl_X3_16 k_ff2_1 rfl (Nat.le_of_ble_eq_true rfl) (fs2 := [.ref (g.1 + 91), .ref (g.1 + 99), .null, .int (Int32.ofInt 0)]) rfl ?_
  refine K_this dX3_init_28 ?_
  refine K_bipush dX3_init_29 (by decide) ?_
  refine K_newI (l0 := 6) (kc' := 0) (ks' := 0) dX3_init_31 rfl (kM0_z (by decide)) (by decide +kernel) (by decide +kernel) (Nat.le_of_ble_eq_true rfl) (Nat.le_of_ble_eq_true rfl) (Nat.le_of_ble_eq_true rfl) (n2 := 108) rfl ?_
  refine K_putR dX3_init_33 fl_X3_19 k_ff2_2 rfl (Nat.le_of_ble_eq_true rfl) (fs2 := [.ref (g.1 + 91), .ref (g.1 + 99), .ref (g.1 + 107), .int (Int32.ofInt 0)]) rfl ?_
  refine K_this dX3_init_36 ?_
  refine K_iconst dX3_init_37 ?_
  refine K_putI dX3_init_38 fl_X3_23 fw_2_3 (vp_nar_int _) rfl (Nat.le_of_ble_eq_true rfl) (fs2 := [.ref (g.1 + 91), .ref (g.1 + 99), .ref (g.1 + 107), .int (Int32.ofInt 0)]) rfl ?_
  exact K_ret (cnt := 18) dX3_init_41 rfl rfl rfl hQ
set_option maxHeartbeats 2000000 in
set_option maxRecDepth 20000 in
theorem k_ok_0_108 {g : mG} {L : Int} {xs : Int → Int} : kOK g (kM0 L xs) 108 2 1 1 8 qX1_init 0 3 [.int (Int32.ofInt 0), .int (Int32.ofInt 0), .null] := by
  refine kOK_of rfl fun F0 Q hQ => ?_
  refine K_this dX1_init_0 ?_
  refine K_obj dX1_init_1 (mTbl_at 345 (by decide +kernel) rfl) k_oi2 k_oi3 (by omega) ?_
  refine K_this dX1_init_4 ?_
  refine K_iconst dX1_init_5 ?_
  refine K_putI dX1_init_6 fl_X1_9 fw_0_0 (vp_nar_int _) rfl (Nat.le_of_ble_eq_true rfl) (fs2 := [.int (Int32.ofInt 0), .int (Int32.ofInt 0), .null]) rfl ?_
  refine K_this dX1_init_9 ?_
  refine K_iconst dX1_init_10 ?_
  refine K_putI dX1_init_11 fl_X1_15 fw_0_1 (vp_nar_int _) rfl (Nat.le_of_ble_eq_true rfl) (fs2 := [.int (Int32.ofInt 0), .int (Int32.ofInt (-1)), .null]) rfl ?_
  refine K_this dX1_init_14 ?_
  refine K_bipush dX1_init_15 (by decide) ?_
  refine K_newI (l0 := 8) (kc' := 0) (ks' := 0) dX1_init_17 rfl (kM0_z (by decide)) (by decide +kernel) (by decide +kernel) (Nat.le_of_ble_eq_true rfl) (Nat.le_of_ble_eq_true rfl) (Nat.le_of_ble_eq_true rfl) (n2 := 110) rfl ?_
  refine K_putR dX1_init_19 fl_X1_18 k_ff0_2 rfl (Nat.le_of_ble_eq_true rfl) (fs2 := [.int (Int32.ofInt 0), .int (Int32.ofInt (-1)), .ref (g.1 + 109)]) rfl ?_
  exact K_ret (cnt := 2) dX1_init_22 rfl rfl rfl hQ
set_option maxHeartbeats 2000000 in
set_option maxRecDepth 20000 in
theorem k_ok_7_0 {g : mG} {L : Int} {xs : Int → Int} : kOK g (kM0 L xs) 0 112 3 111 4402 qX9_init 7 15 [.null, .int (Int32.ofInt 0), .int (Int32.ofInt 0), .int (Int32.ofInt 0), .null, .null, .null, .null, .null, .null, .null, .null, .null, .null, .null] := by
  refine kOK_of rfl fun F0 Q hQ => ?_
  refine K_this dX9_init_0 ?_
  refine K_obj dX9_init_1 (mTbl_at 119 (by decide +kernel) rfl) k_oi2 k_oi3 (by omega) ?_
  refine K_this dX9_init_4 ?_
  refine K_sipush dX9_init_5 (by decide) ?_
  refine K_newB (l0 := 700) (kc' := 110) (ks' := 3702) dX9_init_8 rfl (kM0_z (by decide)) (by decide +kernel) (by decide +kernel) (Nat.le_of_ble_eq_true rfl) (Nat.le_of_ble_eq_true rfl) (Nat.le_of_ble_eq_true rfl) (n2 := 2) rfl ?_
  refine K_putR dX9_init_10 fl_X9_9 k_ff7_0 rfl (Nat.le_of_ble_eq_true rfl) (fs2 := [.ref (g.1 + 1), .int (Int32.ofInt 0), .int (Int32.ofInt 0), .int (Int32.ofInt 0), .null, .null, .null, .null, .null, .null, .null, .null, .null, .null, .null]) rfl ?_
  refine K_this dX9_init_13 ?_
  refine K_iconst dX9_init_14 ?_
  refine K_putI dX9_init_15 fl_X9_13 fw_7_1 (vp_nar_int _) rfl (Nat.le_of_ble_eq_true rfl) (fs2 := [.ref (g.1 + 1), .int (Int32.ofInt 0), .int (Int32.ofInt 0), .int (Int32.ofInt 0), .null, .null, .null, .null, .null, .null, .null, .null, .null, .null, .null]) rfl ?_
  refine K_this dX9_init_18 ?_
  refine K_iconst dX9_init_19 ?_
  refine K_putI dX9_init_20 fl_X9_17 fw_7_2 (vp_nar_int _) rfl (Nat.le_of_ble_eq_true rfl) (fs2 := [.ref (g.1 + 1), .int (Int32.ofInt 0), .int (Int32.ofInt (-1)), .int (Int32.ofInt 0), .null, .null, .null, .null, .null, .null, .null, .null, .null, .null, .null]) rfl ?_
  refine K_this dX9_init_23 ?_
  refine K_iconst dX9_init_24 ?_
  refine K_putI dX9_init_25 fl_X9_20 fw_7_3 rfl rfl (Nat.le_of_ble_eq_true rfl) (fs2 := [.ref (g.1 + 1), .int (Int32.ofInt 0), .int (Int32.ofInt (-1)), .int (Int32.ofInt 0), .null, .null, .null, .null, .null, .null, .null, .null, .null, .null, .null]) rfl ?_
  refine K_this dX9_init_28 ?_
  refine K_newC (cnt := 6) (d' := 2) (kc' := 5) (ks' := 37) (kc'' := 104) (ks'' := 3657) (host := "BinProver") dX9_init_29 dX9_init_32 dX9_init_33 k_nw_X9_24 (List.mem_of_getElem? (i := 124) (by decide +kernel)) k_cm4 (k_ok_4_2 (L := L) (xs := xs)) (by omega) (Nat.le_of_ble_eq_true rfl) (Nat.le_of_ble_eq_true rfl) (Nat.le_of_ble_eq_true rfl) (n2 := 8) rfl ?_
  refine K_putR dX9_init_36 fl_X9_27 k_ff7_4 rfl (Nat.le_of_ble_eq_true rfl) (fs2 := [.ref (g.1 + 1), .int (Int32.ofInt 0), .int (Int32.ofInt (-1)), .int (Int32.ofInt 0), .ref (g.1 + 2), .null, .null, .null, .null, .null, .null, .null, .null, .null, .null]) rfl ?_
  refine K_this dX9_init_39 ?_
  refine K_newC (cnt := 4) (d' := 1) (kc' := 3) (ks' := 18) (kc'' := 100) (ks'' := 3634) (host := "BinProver") dX9_init_40 dX9_init_43 dX9_init_44 k_nw_X9_31 (List.mem_of_getElem? (i := 213) (by decide +kernel)) k_cm1 (k_ok_1_8 (L := L) (xs := xs)) (by omega) (Nat.le_of_ble_eq_true rfl) (Nat.le_of_ble_eq_true rfl) (Nat.le_of_ble_eq_true rfl) (n2 := 12) rfl ?_
  refine K_putR dX9_init_47 fl_X9_34 k_ff7_5 rfl (Nat.le_of_ble_eq_true rfl) (fs2 := [.ref (g.1 + 1), .int (Int32.ofInt 0), .int (Int32.ofInt (-1)), .int (Int32.ofInt 0), .ref (g.1 + 2), .ref (g.1 + 8), .null, .null, .null, .null, .null, .null, .null, .null, .null]) rfl ?_
  refine K_this dX9_init_50 ?_
  refine K_newC (cnt := 4) (d' := 1) (kc' := 3) (ks' := 18) (kc'' := 96) (ks'' := 3611) (host := "BinProver") dX9_init_51 dX9_init_54 dX9_init_55 k_nw_X9_31 (List.mem_of_getElem? (i := 213) (by decide +kernel)) k_cm1 (k_ok_1_12 (L := L) (xs := xs)) (by omega) (Nat.le_of_ble_eq_true rfl) (Nat.le_of_ble_eq_true rfl) (Nat.le_of_ble_eq_true rfl) (n2 := 16) rfl ?_
  refine K_putR dX9_init_58 fl_X9_38 k_ff7_6 rfl (Nat.le_of_ble_eq_true rfl) (fs2 := [.ref (g.1 + 1), .int (Int32.ofInt 0), .int (Int32.ofInt (-1)), .int (Int32.ofInt 0), .ref (g.1 + 2), .ref (g.1 + 8), .ref (g.1 + 12), .null, .null, .null, .null, .null, .null, .null, .null]) rfl ?_
  refine K_this dX9_init_61 ?_
  refine K_newC (cnt := 6) (d' := 1) (kc' := 5) (ks' := 593) (kc'' := 90) (ks'' := 3011) (host := "BinProver") dX9_init_62 dX9_init_65 dX9_init_66 k_nw_X9_41 (List.mem_of_getElem? (i := 216) (by decide +kernel)) k_cm5 (k_ok_5_16 (L := L) (xs := xs)) (by omega) (Nat.le_of_ble_eq_true rfl) (Nat.le_of_ble_eq_true rfl) (Nat.le_of_ble_eq_true rfl) (n2 := 22) rfl ?_
  refine K_putR dX9_init_69 fl_X9_44 k_ff7_7 rfl (Nat.le_of_ble_eq_true rfl) (fs2 := [.ref (g.1 + 1), .int (Int32.ofInt 0), .int (Int32.ofInt (-1)), .int (Int32.ofInt 0), .ref (g.1 + 2), .ref (g.1 + 8), .ref (g.1 + 12), .ref (g.1 + 16), .null, .null, .null, .null, .null, .null, .null]) rfl ?_
  refine K_this dX9_init_72 ?_
  refine K_newC (cnt := 6) (d' := 1) (kc' := 5) (ks' := 593) (kc'' := 84) (ks'' := 2411) (host := "BinProver") dX9_init_73 dX9_init_76 dX9_init_77 k_nw_X9_41 (List.mem_of_getElem? (i := 216) (by decide +kernel)) k_cm5 (k_ok_5_22 (L := L) (xs := xs)) (by omega) (Nat.le_of_ble_eq_true rfl) (Nat.le_of_ble_eq_true rfl) (Nat.le_of_ble_eq_true rfl) (n2 := 28) rfl ?_
  refine K_putR dX9_init_80 fl_X9_48 k_ff7_8 rfl (Nat.le_of_ble_eq_true rfl) (fs2 := [.ref (g.1 + 1), .int (Int32.ofInt 0), .int (Int32.ofInt (-1)), .int (Int32.ofInt 0), .ref (g.1 + 2), .ref (g.1 + 8), .ref (g.1 + 12), .ref (g.1 + 16), .ref (g.1 + 22), .null, .null, .null, .null, .null, .null]) rfl ?_
  refine K_this dX9_init_83 ?_
  refine K_newC (cnt := 4) (d' := 1) (kc' := 3) (ks' := 192) (kc'' := 80) (ks'' := 2214) (host := "BinProver") dX9_init_84 dX9_init_87 dX9_init_88 k_nw_X9_51 (List.mem_of_getElem? (i := 249) (by decide +kernel)) k_cm3 (k_ok_3_28 (L := L) (xs := xs)) (by omega) (Nat.le_of_ble_eq_true rfl) (Nat.le_of_ble_eq_true rfl) (Nat.le_of_ble_eq_true rfl) (n2 := 32) rfl ?_
  refine K_putR dX9_init_91 fl_X9_54 k_ff7_9 rfl (Nat.le_of_ble_eq_true rfl) (fs2 := [.ref (g.1 + 1), .int (Int32.ofInt 0), .int (Int32.ofInt (-1)), .int (Int32.ofInt 0), .ref (g.1 + 2), .ref (g.1 + 8), .ref (g.1 + 12), .ref (g.1 + 16), .ref (g.1 + 22), .ref (g.1 + 28), .null, .null, .null, .null, .null]) rfl ?_
  refine K_this dX9_init_94 ?_
  refine K_newC (cnt := 58) (d' := 2) (kc' := 57) (ks' := 691) (kc'' := 22) (ks'' := 1513) (host := "BinProver") dX9_init_95 dX9_init_98 dX9_init_99 k_nw_X9_58 (List.mem_of_getElem? (i := 274) (by decide +kernel)) k_cm6 (k_ok_6_32 (L := L) (xs := xs)) (by omega) (Nat.le_of_ble_eq_true rfl) (Nat.le_of_ble_eq_true rfl) (Nat.le_of_ble_eq_true rfl) (n2 := 90) rfl ?_
  refine K_putR dX9_init_102 fl_X9_61 k_ff7_10 rfl (Nat.le_of_ble_eq_true rfl) (fs2 := [.ref (g.1 + 1), .int (Int32.ofInt 0), .int (Int32.ofInt (-1)), .int (Int32.ofInt 0), .ref (g.1 + 2), .ref (g.1 + 8), .ref (g.1 + 12), .ref (g.1 + 16), .ref (g.1 + 22), .ref (g.1 + 28), .ref (g.1 + 32), .null, .null, .null, .null]) rfl ?_
  refine K_this dX9_init_105 ?_
  refine K_newC (cnt := 18) (d' := 1) (kc' := 17) (ks' := 1420) (kc'' := 4) (ks'' := 89) (host := "BinProver") dX9_init_106 dX9_init_109 dX9_init_110 k_nw_X9_65 (List.mem_of_getElem? (i := 322) (by decide +kernel)) k_cm2 (k_ok_2_90 (L := L) (xs := xs)) (by omega) (Nat.le_of_ble_eq_true rfl) (Nat.le_of_ble_eq_true rfl) (Nat.le_of_ble_eq_true rfl) (n2 := 108) rfl ?_
  refine K_putR dX9_init_113 fl_X9_68 k_ff7_11 rfl (Nat.le_of_ble_eq_true rfl) (fs2 := [.ref (g.1 + 1), .int (Int32.ofInt 0), .int (Int32.ofInt (-1)), .int (Int32.ofInt 0), .ref (g.1 + 2), .ref (g.1 + 8), .ref (g.1 + 12), .ref (g.1 + 16), .ref (g.1 + 22), .ref (g.1 + 28), .ref (g.1 + 32), .ref (g.1 + 90), .null, .null, .null]) rfl ?_
  refine K_this dX9_init_116 ?_
  refine K_newC (cnt := 2) (d' := 1) (kc' := 1) (ks' := 8) (kc'' := 2) (ks'' := 78) (host := "BinProver") dX9_init_117 dX9_init_120 dX9_init_121 k_nw_X9_72 (List.mem_of_getElem? (i := 342) (by decide +kernel)) k_cm0 (k_ok_0_108 (L := L) (xs := xs)) (by omega) (Nat.le_of_ble_eq_true rfl) (Nat.le_of_ble_eq_true rfl) (Nat.le_of_ble_eq_true rfl) (n2 := 110) rfl ?_
  refine K_putR dX9_init_124 fl_X9_75 k_ff7_12 rfl (Nat.le_of_ble_eq_true rfl) (fs2 := [.ref (g.1 + 1), .int (Int32.ofInt 0), .int (Int32.ofInt (-1)), .int (Int32.ofInt 0), .ref (g.1 + 2), .ref (g.1 + 8), .ref (g.1 + 12), .ref (g.1 + 16), .ref (g.1 + 22), .ref (g.1 + 28), .ref (g.1 + 32), .ref (g.1 + 90), .ref (g.1 + 108), .null, .null]) rfl ?_
  refine K_this dX9_init_127 ?_
  refine K_bipush dX9_init_128 (by decide) ?_
  refine K_newI (l0 := 6) (kc' := 1) (ks' := 72) dX9_init_130 rfl (kM0_z (by decide)) (by decide +kernel) (by decide +kernel) (Nat.le_of_ble_eq_true rfl) (Nat.le_of_ble_eq_true rfl) (Nat.le_of_ble_eq_true rfl) (n2 := 111) rfl ?_
  refine K_putR dX9_init_132 fl_X9_79 k_ff7_13 rfl (Nat.le_of_ble_eq_true rfl) (fs2 := [.ref (g.1 + 1), .int (Int32.ofInt 0), .int (Int32.ofInt (-1)), .int (Int32.ofInt 0), .ref (g.1 + 2), .ref (g.1 + 8), .ref (g.1 + 12), .ref (g.1 + 16), .ref (g.1 + 22), .ref (g.1 + 28), .ref (g.1 + 32), .ref (g.1 + 90), .ref (g.1 + 108), .ref (g.1 + 110), .null]) rfl ?_
  refine K_this dX9_init_135 ?_
  refine K_bipush dX9_init_136 (by decide) ?_
  refine K_newI (l0 := 72) (kc' := 0) (ks' := 0) dX9_init_138 rfl (kM0_z (by decide)) (by decide +kernel) (by decide +kernel) (Nat.le_of_ble_eq_true rfl) (Nat.le_of_ble_eq_true rfl) (Nat.le_of_ble_eq_true rfl) (n2 := 112) rfl ?_
  refine K_putR dX9_init_140 fl_X9_83 k_ff7_14 rfl (Nat.le_of_ble_eq_true rfl) (fs2 := [.ref (g.1 + 1), .int (Int32.ofInt 0), .int (Int32.ofInt (-1)), .int (Int32.ofInt 0), .ref (g.1 + 2), .ref (g.1 + 8), .ref (g.1 + 12), .ref (g.1 + 16), .ref (g.1 + 22), .ref (g.1 + 28), .ref (g.1 + 32), .ref (g.1 + 90), .ref (g.1 + 108), .ref (g.1 + 110), .ref (g.1 + 111)]) rfl ?_
  exact K_ret (cnt := 112) dX9_init_143 rfl rfl rfl hQ
set_option maxHeartbeats 2000000 in
set_option maxRecDepth 20000 in
theorem k_ok_8_112 {g : mG} {L : Int} {xs : Int → Int} : kOK g (kM0 L xs) 112 25 1 24 15223 qX10_init 8 58 [.null, .null, .null, .null, .null, .int (Int32.ofInt 0), .int (Int32.ofInt 0), .int (Int32.ofInt 0), .int (Int32.ofInt 0), .int (Int32.ofInt 0), .int (Int32.ofInt 0), .int (Int32.ofInt 0), .int (Int32.ofInt 0), .int (Int32.ofInt 0), .int (Int32.ofInt 0), .null, .int (Int32.ofInt 0), .int (Int32.ofInt 0), .int (Int32.ofInt 0), .int (Int32.ofInt 0), .int (Int32.ofInt 0), .int (Int32.ofInt 0), .int (Int32.ofInt 0), .int (Int32.ofInt 0), .int (Int32.ofInt 0), .null, .null, .int (Int32.ofInt 0), .int (Int32.ofInt 0), .int (Int32.ofInt 0), .null, .null, .null, .int (Int32.ofInt 0), .null, .null, .null, .int (Int32.ofInt 0), .int (Int32.ofInt 0), .null, .int (Int32.ofInt 0), .null, .null, .null, .int (Int32.ofInt 0), .int (Int32.ofInt 0), .int (Int32.ofInt 0), .int (Int32.ofInt 0), .int (Int32.ofInt 0), .int (Int32.ofInt 0), .null, .null, .null, .int (Int32.ofInt 0), .null, .null, .null, .int (Int32.ofInt 0)] := by
  refine kOK_of rfl fun F0 Q hQ => ?_
  refine K_this dX10_init_0 ?_
  refine K_obj dX10_init_1 (mTbl_at 1192 (by decide +kernel) rfl) k_oi2 k_oi3 (by omega) ?_
  refine K_this dX10_init_4 ?_
  refine K_sipush dX10_init_5 (by decide) ?_
  refine K_newI (l0 := 6800) (kc' := 23) (ks' := 8423) dX10_init_8 rfl (kM0_z (by decide)) (by decide +kernel) (by decide +kernel) (Nat.le_of_ble_eq_true rfl) (Nat.le_of_ble_eq_true rfl) (Nat.le_of_ble_eq_true rfl) (n2 := 114) rfl ?_
  refine K_putR dX10_init_10 fl_X10_9 k_ff8_0 rfl (Nat.le_of_ble_eq_true rfl) (fs2 := [.ref (g.1 + 113), .null, .null, .null, .null, .int (Int32.ofInt 0), .int (Int32.ofInt 0), .int (Int32.ofInt 0), .int (Int32.ofInt 0), .int (Int32.ofInt 0), .int (Int32.ofInt 0), .int (Int32.ofInt 0), .int (Int32.ofInt 0), .int (Int32.ofInt 0), .int (Int32.ofInt 0), .null, .int (Int32.ofInt 0), .int (Int32.ofInt 0), .int (Int32.ofInt 0), .int (Int32.ofInt 0), .int (Int32.ofInt 0), .int (Int32.ofInt 0), .int (Int32.ofInt 0), .int (Int32.ofInt 0), .int (Int32.ofInt 0), .null, .null, .int (Int32.ofInt 0), .int (Int32.ofInt 0), .int (Int32.ofInt 0), .null, .null, .null, .int (Int32.ofInt 0), .null, .null, .null, .int (Int32.ofInt 0), .int (Int32.ofInt 0), .null, .int (Int32.ofInt 0), .null, .null, .null, .int (Int32.ofInt 0), .int (Int32.ofInt 0), .int (Int32.ofInt 0), .int (Int32.ofInt 0), .int (Int32.ofInt 0), .int (Int32.ofInt 0), .null, .null, .null, .int (Int32.ofInt 0), .null, .null, .null, .int (Int32.ofInt 0)]) rfl ?_
  refine K_this dX10_init_13 ?_
  refine K_bipush dX10_init_14 (by decide) ?_
  refine K_newI (l0 := 6) (kc' := 22) (ks' := 8417) dX10_init_16 rfl (kM0_z (by decide)) (by decide +kernel) (by decide +kernel) (Nat.le_of_ble_eq_true rfl) (Nat.le_of_ble_eq_true rfl) (Nat.le_of_ble_eq_true rfl) (n2 := 115) rfl ?_
  refine K_putR dX10_init_18 fl_X10_13 k_ff8_1 rfl (Nat.le_of_ble_eq_true rfl) (fs2 := [.ref (g.1 + 113), .ref (g.1 + 114), .null, .null, .null, .int (Int32.ofInt 0), .int (Int32.ofInt 0), .int (Int32.ofInt 0), .int (Int32.ofInt 0), .int (Int32.ofInt 0), .int (Int32.ofInt 0), .int (Int32.ofInt 0), .int (Int32.ofInt 0), .int (Int32.ofInt 0), .int (Int32.ofInt 0), .null, .int (Int32.ofInt 0), .int (Int32.ofInt 0), .int (Int32.ofInt 0), .int (Int32.ofInt 0), .int (Int32.ofInt 0), .int (Int32.ofInt 0), .int (Int32.ofInt 0), .int (Int32.ofInt 0), .int (Int32.ofInt 0), .null, .null, .int (Int32.ofInt 0), .int (Int32.ofInt 0), .int (Int32.ofInt 0), .null, .null, .null, .int (Int32.ofInt 0), .null, .null, .null, .int (Int32.ofInt 0), .int (Int32.ofInt 0), .null, .int (Int32.ofInt 0), .null, .null, .null, .int (Int32.ofInt 0), .int (Int32.ofInt 0), .int (Int32.ofInt 0), .int (Int32.ofInt 0), .int (Int32.ofInt 0), .int (Int32.ofInt 0), .null, .null, .null, .int (Int32.ofInt 0), .null, .null, .null, .int (Int32.ofInt 0)]) rfl ?_
  refine K_this dX10_init_21 ?_
  refine K_bipush dX10_init_22 (by decide) ?_
  refine K_newI (l0 := 16) (kc' := 21) (ks' := 8401) dX10_init_24 rfl (kM0_z (by decide)) (by decide +kernel) (by decide +kernel) (Nat.le_of_ble_eq_true rfl) (Nat.le_of_ble_eq_true rfl) (Nat.le_of_ble_eq_true rfl) (n2 := 116) rfl ?_
  refine K_putR dX10_init_26 fl_X10_16 k_ff8_2 rfl (Nat.le_of_ble_eq_true rfl) (fs2 := [.ref (g.1 + 113), .ref (g.1 + 114), .ref (g.1 + 115), .null, .null, .int (Int32.ofInt 0), .int (Int32.ofInt 0), .int (Int32.ofInt 0), .int (Int32.ofInt 0), .int (Int32.ofInt 0), .int (Int32.ofInt 0), .int (Int32.ofInt 0), .int (Int32.ofInt 0), .int (Int32.ofInt 0), .int (Int32.ofInt 0), .null, .int (Int32.ofInt 0), .int (Int32.ofInt 0), .int (Int32.ofInt 0), .int (Int32.ofInt 0), .int (Int32.ofInt 0), .int (Int32.ofInt 0), .int (Int32.ofInt 0), .int (Int32.ofInt 0), .int (Int32.ofInt 0), .null, .null, .int (Int32.ofInt 0), .int (Int32.ofInt 0), .int (Int32.ofInt 0), .null, .null, .null, .int (Int32.ofInt 0), .null, .null, .null, .int (Int32.ofInt 0), .int (Int32.ofInt 0), .null, .int (Int32.ofInt 0), .null, .null, .null, .int (Int32.ofInt 0), .int (Int32.ofInt 0), .int (Int32.ofInt 0), .int (Int32.ofInt 0), .int (Int32.ofInt 0), .int (Int32.ofInt 0), .null, .null, .null, .int (Int32.ofInt 0), .null, .null, .null, .int (Int32.ofInt 0)]) rfl ?_
  refine K_this dX10_init_29 ?_
  refine K_bipush dX10_init_30 (by decide) ?_
  refine K_newI (l0 := 16) (kc' := 20) (ks' := 8385) dX10_init_32 rfl (kM0_z (by decide)) (by decide +kernel) (by decide +kernel) (Nat.le_of_ble_eq_true rfl) (Nat.le_of_ble_eq_true rfl) (Nat.le_of_ble_eq_true rfl) (n2 := 117) rfl ?_
  refine K_putR dX10_init_34 fl_X10_19 k_ff8_3 rfl (Nat.le_of_ble_eq_true rfl) (fs2 := [.ref (g.1 + 113), .ref (g.1 + 114), .ref (g.1 + 115), .ref (g.1 + 116), .null, .int (Int32.ofInt 0), .int (Int32.ofInt 0), .int (Int32.ofInt 0), .int (Int32.ofInt 0), .int (Int32.ofInt 0), .int (Int32.ofInt 0), .int (Int32.ofInt 0), .int (Int32.ofInt 0), .int (Int32.ofInt 0), .int (Int32.ofInt 0), .null, .int (Int32.ofInt 0), .int (Int32.ofInt 0), .int (Int32.ofInt 0), .int (Int32.ofInt 0), .int (Int32.ofInt 0), .int (Int32.ofInt 0), .int (Int32.ofInt 0), .int (Int32.ofInt 0), .int (Int32.ofInt 0), .null, .null, .int (Int32.ofInt 0), .int (Int32.ofInt 0), .int (Int32.ofInt 0), .null, .null, .null, .int (Int32.ofInt 0), .null, .null, .null, .int (Int32.ofInt 0), .int (Int32.ofInt 0), .null, .int (Int32.ofInt 0), .null, .null, .null, .int (Int32.ofInt 0), .int (Int32.ofInt 0), .int (Int32.ofInt 0), .int (Int32.ofInt 0), .int (Int32.ofInt 0), .int (Int32.ofInt 0), .null, .null, .null, .int (Int32.ofInt 0), .null, .null, .null, .int (Int32.ofInt 0)]) rfl ?_
  refine K_this dX10_init_37 ?_
  refine K_bipush dX10_init_38 (by decide) ?_
  refine K_newI (l0 := 6) (kc' := 19) (ks' := 8379) dX10_init_40 rfl (kM0_z (by decide)) (by decide +kernel) (by decide +kernel) (Nat.le_of_ble_eq_true rfl) (Nat.le_of_ble_eq_true rfl) (Nat.le_of_ble_eq_true rfl) (n2 := 118) rfl ?_
  refine K_putR dX10_init_42 fl_X10_22 k_ff8_4 rfl (Nat.le_of_ble_eq_true rfl) (fs2 := [.ref (g.1 + 113), .ref (g.1 + 114), .ref (g.1 + 115), .ref (g.1 + 116), .ref (g.1 + 117), .int (Int32.ofInt 0), .int (Int32.ofInt 0), .int (Int32.ofInt 0), .int (Int32.ofInt 0), .int (Int32.ofInt 0), .int (Int32.ofInt 0), .int (Int32.ofInt 0), .int (Int32.ofInt 0), .int (Int32.ofInt 0), .int (Int32.ofInt 0), .null, .int (Int32.ofInt 0), .int (Int32.ofInt 0), .int (Int32.ofInt 0), .int (Int32.ofInt 0), .int (Int32.ofInt 0), .int (Int32.ofInt 0), .int (Int32.ofInt 0), .int (Int32.ofInt 0), .int (Int32.ofInt 0), .null, .null, .int (Int32.ofInt 0), .int (Int32.ofInt 0), .int (Int32.ofInt 0), .null, .null, .null, .int (Int32.ofInt 0), .null, .null, .null, .int (Int32.ofInt 0), .int (Int32.ofInt 0), .null, .int (Int32.ofInt 0), .null, .null, .null, .int (Int32.ofInt 0), .int (Int32.ofInt 0), .int (Int32.ofInt 0), .int (Int32.ofInt 0), .int (Int32.ofInt 0), .int (Int32.ofInt 0), .null, .null, .null, .int (Int32.ofInt 0), .null, .null, .null, .int (Int32.ofInt 0)]) rfl ?_
  refine K_this dX10_init_45 ?_
  refine K_bipush dX10_init_46 (by decide) ?_
  refine K_putI dX10_init_48 fl_X10_25 fw_8_6 (vp_nar_int _) rfl (Nat.le_of_ble_eq_true rfl) (fs2 := [.ref (g.1 + 113), .ref (g.1 + 114), .ref (g.1 + 115), .ref (g.1 + 116), .ref (g.1 + 117), .int (Int32.ofInt 0), .int (Int32.ofInt 30), .int (Int32.ofInt 0), .int (Int32.ofInt 0), .int (Int32.ofInt 0), .int (Int32.ofInt 0), .int (Int32.ofInt 0), .int (Int32.ofInt 0), .int (Int32.ofInt 0), .int (Int32.ofInt 0), .null, .int (Int32.ofInt 0), .int (Int32.ofInt 0), .int (Int32.ofInt 0), .int (Int32.ofInt 0), .int (Int32.ofInt 0), .int (Int32.ofInt 0), .int (Int32.ofInt 0), .int (Int32.ofInt 0), .int (Int32.ofInt 0), .null, .null, .int (Int32.ofInt 0), .int (Int32.ofInt 0), .int (Int32.ofInt 0), .null, .null, .null, .int (Int32.ofInt 0), .null, .null, .null, .int (Int32.ofInt 0), .int (Int32.ofInt 0), .null, .int (Int32.ofInt 0), .null, .null, .null, .int (Int32.ofInt 0), .int (Int32.ofInt 0), .int (Int32.ofInt 0), .int (Int32.ofInt 0), .int (Int32.ofInt 0), .int (Int32.ofInt 0), .null, .null, .null, .int (Int32.ofInt 0), .null, .null, .null, .int (Int32.ofInt 0)]) rfl ?_
  refine K_this dX10_init_51 ?_
  refine K_sipush dX10_init_52 (by decide) ?_
  refine K_newI (l0 := 700) (kc' := 18) (ks' := 7679) dX10_init_55 rfl (kM0_z (by decide)) (by decide +kernel) (by decide +kernel) (Nat.le_of_ble_eq_true rfl) (Nat.le_of_ble_eq_true rfl) (Nat.le_of_ble_eq_true rfl) (n2 := 119) rfl ?_
  refine K_putR dX10_init_57 fl_X10_29 k_ff8_15 rfl (Nat.le_of_ble_eq_true rfl) (fs2 := [.ref (g.1 + 113), .ref (g.1 + 114), .ref (g.1 + 115), .ref (g.1 + 116), .ref (g.1 + 117), .int (Int32.ofInt 0), .int (Int32.ofInt 30), .int (Int32.ofInt 0), .int (Int32.ofInt 0), .int (Int32.ofInt 0), .int (Int32.ofInt 0), .int (Int32.ofInt 0), .int (Int32.ofInt 0), .int (Int32.ofInt 0), .int (Int32.ofInt 0), .ref (g.1 + 118), .int (Int32.ofInt 0), .int (Int32.ofInt 0), .int (Int32.ofInt 0), .int (Int32.ofInt 0), .int (Int32.ofInt 0), .int (Int32.ofInt 0), .int (Int32.ofInt 0), .int (Int32.ofInt 0), .int (Int32.ofInt 0), .null, .null, .int (Int32.ofInt 0), .int (Int32.ofInt 0), .int (Int32.ofInt 0), .null, .null, .null, .int (Int32.ofInt 0), .null, .null, .null, .int (Int32.ofInt 0), .int (Int32.ofInt 0), .null, .int (Int32.ofInt 0), .null, .null, .null, .int (Int32.ofInt 0), .int (Int32.ofInt 0), .int (Int32.ofInt 0), .int (Int32.ofInt 0), .int (Int32.ofInt 0), .int (Int32.ofInt 0), .null, .null, .null, .int (Int32.ofInt 0), .null, .null, .null, .int (Int32.ofInt 0)]) rfl ?_
  refine K_this dX10_init_60 ?_
  refine K_iconst dX10_init_61 ?_
  refine K_putI dX10_init_62 fl_X10_32 fw_8_17 (vp_nar_int _) rfl (Nat.le_of_ble_eq_true rfl) (fs2 := [.ref (g.1 + 113), .ref (g.1 + 114), .ref (g.1 + 115), .ref (g.1 + 116), .ref (g.1 + 117), .int (Int32.ofInt 0), .int (Int32.ofInt 30), .int (Int32.ofInt 0), .int (Int32.ofInt 0), .int (Int32.ofInt 0), .int (Int32.ofInt 0), .int (Int32.ofInt 0), .int (Int32.ofInt 0), .int (Int32.ofInt 0), .int (Int32.ofInt 0), .ref (g.1 + 118), .int (Int32.ofInt 0), .int (Int32.ofInt (-1)), .int (Int32.ofInt 0), .int (Int32.ofInt 0), .int (Int32.ofInt 0), .int (Int32.ofInt 0), .int (Int32.ofInt 0), .int (Int32.ofInt 0), .int (Int32.ofInt 0), .null, .null, .int (Int32.ofInt 0), .int (Int32.ofInt 0), .int (Int32.ofInt 0), .null, .null, .null, .int (Int32.ofInt 0), .null, .null, .null, .int (Int32.ofInt 0), .int (Int32.ofInt 0), .null, .int (Int32.ofInt 0), .null, .null, .null, .int (Int32.ofInt 0), .int (Int32.ofInt 0), .int (Int32.ofInt 0), .int (Int32.ofInt 0), .int (Int32.ofInt 0), .int (Int32.ofInt 0), .null, .null, .null, .int (Int32.ofInt 0), .null, .null, .null, .int (Int32.ofInt 0)]) rfl ?_
  refine K_this dX10_init_65 ?_
  refine K_bipush dX10_init_66 (by decide) ?_
  refine K_newI (l0 := 6) (kc' := 17) (ks' := 7673) dX10_init_68 rfl (kM0_z (by decide)) (by decide +kernel) (by decide +kernel) (Nat.le_of_ble_eq_true rfl) (Nat.le_of_ble_eq_true rfl) (Nat.le_of_ble_eq_true rfl) (n2 := 120) rfl ?_
  refine K_putR dX10_init_70 fl_X10_35 k_ff8_25 rfl (Nat.le_of_ble_eq_true rfl) (fs2 := [.ref (g.1 + 113), .ref (g.1 + 114), .ref (g.1 + 115), .ref (g.1 + 116), .ref (g.1 + 117), .int (Int32.ofInt 0), .int (Int32.ofInt 30), .int (Int32.ofInt 0), .int (Int32.ofInt 0), .int (Int32.ofInt 0), .int (Int32.ofInt 0), .int (Int32.ofInt 0), .int (Int32.ofInt 0), .int (Int32.ofInt 0), .int (Int32.ofInt 0), .ref (g.1 + 118), .int (Int32.ofInt 0), .int (Int32.ofInt (-1)), .int (Int32.ofInt 0), .int (Int32.ofInt 0), .int (Int32.ofInt 0), .int (Int32.ofInt 0), .int (Int32.ofInt 0), .int (Int32.ofInt 0), .int (Int32.ofInt 0), .ref (g.1 + 119), .null, .int (Int32.ofInt 0), .int (Int32.ofInt 0), .int (Int32.ofInt 0), .null, .null, .null, .int (Int32.ofInt 0), .null, .null, .null, .int (Int32.ofInt 0), .int (Int32.ofInt 0), .null, .int (Int32.ofInt 0), .null, .null, .null, .int (Int32.ofInt 0), .int (Int32.ofInt 0), .int (Int32.ofInt 0), .int (Int32.ofInt 0), .int (Int32.ofInt 0), .int (Int32.ofInt 0), .null, .null, .null, .int (Int32.ofInt 0), .null, .null, .null, .int (Int32.ofInt 0)]) rfl ?_
  refine K_this dX10_init_73 ?_
  refine K_bipush dX10_init_74 (by decide) ?_
  refine K_newI (l0 := 80) (kc' := 16) (ks' := 7593) dX10_init_76 rfl (kM0_z (by decide)) (by decide +kernel) (by decide +kernel) (Nat.le_of_ble_eq_true rfl) (Nat.le_of_ble_eq_true rfl) (Nat.le_of_ble_eq_true rfl) (n2 := 121) rfl ?_
  refine K_putR dX10_init_78 fl_X10_38 k_ff8_26 rfl (Nat.le_of_ble_eq_true rfl) (fs2 := [.ref (g.1 + 113), .ref (g.1 + 114), .ref (g.1 + 115), .ref (g.1 + 116), .ref (g.1 + 117), .int (Int32.ofInt 0), .int (Int32.ofInt 30), .int (Int32.ofInt 0), .int (Int32.ofInt 0), .int (Int32.ofInt 0), .int (Int32.ofInt 0), .int (Int32.ofInt 0), .int (Int32.ofInt 0), .int (Int32.ofInt 0), .int (Int32.ofInt 0), .ref (g.1 + 118), .int (Int32.ofInt 0), .int (Int32.ofInt (-1)), .int (Int32.ofInt 0), .int (Int32.ofInt 0), .int (Int32.ofInt 0), .int (Int32.ofInt 0), .int (Int32.ofInt 0), .int (Int32.ofInt 0), .int (Int32.ofInt 0), .ref (g.1 + 119), .ref (g.1 + 120), .int (Int32.ofInt 0), .int (Int32.ofInt 0), .int (Int32.ofInt 0), .null, .null, .null, .int (Int32.ofInt 0), .null, .null, .null, .int (Int32.ofInt 0), .int (Int32.ofInt 0), .null, .int (Int32.ofInt 0), .null, .null, .null, .int (Int32.ofInt 0), .int (Int32.ofInt 0), .int (Int32.ofInt 0), .int (Int32.ofInt 0), .int (Int32.ofInt 0), .int (Int32.ofInt 0), .null, .null, .null, .int (Int32.ofInt 0), .null, .null, .null, .int (Int32.ofInt 0)]) rfl ?_
  refine K_this dX10_init_81 ?_
  refine K_bipush dX10_init_82 (by decide) ?_
  refine K_newI (l0 := 6) (kc' := 15) (ks' := 7587) dX10_init_84 rfl (kM0_z (by decide)) (by decide +kernel) (by decide +kernel) (Nat.le_of_ble_eq_true rfl) (Nat.le_of_ble_eq_true rfl) (Nat.le_of_ble_eq_true rfl) (n2 := 122) rfl ?_
  refine K_putR dX10_init_86 fl_X10_41 k_ff8_30 rfl (Nat.le_of_ble_eq_true rfl) (fs2 := [.ref (g.1 + 113), .ref (g.1 + 114), .ref (g.1 + 115), .ref (g.1 + 116), .ref (g.1 + 117), .int (Int32.ofInt 0), .int (Int32.ofInt 30), .int (Int32.ofInt 0), .int (Int32.ofInt 0), .int (Int32.ofInt 0), .int (Int32.ofInt 0), .int (Int32.ofInt 0), .int (Int32.ofInt 0), .int (Int32.ofInt 0), .int (Int32.ofInt 0), .ref (g.1 + 118), .int (Int32.ofInt 0), .int (Int32.ofInt (-1)), .int (Int32.ofInt 0), .int (Int32.ofInt 0), .int (Int32.ofInt 0), .int (Int32.ofInt 0), .int (Int32.ofInt 0), .int (Int32.ofInt 0), .int (Int32.ofInt 0), .ref (g.1 + 119), .ref (g.1 + 120), .int (Int32.ofInt 0), .int (Int32.ofInt 0), .int (Int32.ofInt 0), .ref (g.1 + 121), .null, .null, .int (Int32.ofInt 0), .null, .null, .null, .int (Int32.ofInt 0), .int (Int32.ofInt 0), .null, .int (Int32.ofInt 0), .null, .null, .null, .int (Int32.ofInt 0), .int (Int32.ofInt 0), .int (Int32.ofInt 0), .int (Int32.ofInt 0), .int (Int32.ofInt 0), .int (Int32.ofInt 0), .null, .null, .null, .int (Int32.ofInt 0), .null, .null, .null, .int (Int32.ofInt 0)]) rfl ?_
  refine K_this dX10_init_89 ?_
  refine K_bipush dX10_init_90 (by decide) ?_
  refine K_newI (l0 := 6) (kc' := 14) (ks' := 7581) dX10_init_92 rfl (kM0_z (by decide)) (by decide +kernel) (by decide +kernel) (Nat.le_of_ble_eq_true rfl) (Nat.le_of_ble_eq_true rfl) (Nat.le_of_ble_eq_true rfl) (n2 := 123) rfl ?_
  refine K_putR dX10_init_94 fl_X10_44 k_ff8_31 rfl (Nat.le_of_ble_eq_true rfl) (fs2 := [.ref (g.1 + 113), .ref (g.1 + 114), .ref (g.1 + 115), .ref (g.1 + 116), .ref (g.1 + 117), .int (Int32.ofInt 0), .int (Int32.ofInt 30), .int (Int32.ofInt 0), .int (Int32.ofInt 0), .int (Int32.ofInt 0), .int (Int32.ofInt 0), .int (Int32.ofInt 0), .int (Int32.ofInt 0), .int (Int32.ofInt 0), .int (Int32.ofInt 0), .ref (g.1 + 118), .int (Int32.ofInt 0), .int (Int32.ofInt (-1)), .int (Int32.ofInt 0), .int (Int32.ofInt 0), .int (Int32.ofInt 0), .int (Int32.ofInt 0), .int (Int32.ofInt 0), .int (Int32.ofInt 0), .int (Int32.ofInt 0), .ref (g.1 + 119), .ref (g.1 + 120), .int (Int32.ofInt 0), .int (Int32.ofInt 0), .int (Int32.ofInt 0), .ref (g.1 + 121), .ref (g.1 + 122), .null, .int (Int32.ofInt 0), .null, .null, .null, .int (Int32.ofInt 0), .int (Int32.ofInt 0), .null, .int (Int32.ofInt 0), .null, .null, .null, .int (Int32.ofInt 0), .int (Int32.ofInt 0), .int (Int32.ofInt 0), .int (Int32.ofInt 0), .int (Int32.ofInt 0), .int (Int32.ofInt 0), .null, .null, .null, .int (Int32.ofInt 0), .null, .null, .null, .int (Int32.ofInt 0)]) rfl ?_
  refine K_this dX10_init_97 ?_
  refine K_bipush dX10_init_98 (by decide) ?_
  refine K_newI (l0 := 6) (kc' := 13) (ks' := 7575) dX10_init_100 rfl (kM0_z (by decide)) (by decide +kernel) (by decide +kernel) (Nat.le_of_ble_eq_true rfl) (Nat.le_of_ble_eq_true rfl) (Nat.le_of_ble_eq_true rfl) (n2 := 124) rfl ?_
  refine K_putR dX10_init_102 fl_X10_47 k_ff8_32 rfl (Nat.le_of_ble_eq_true rfl) (fs2 := [.ref (g.1 + 113), .ref (g.1 + 114), .ref (g.1 + 115), .ref (g.1 + 116), .ref (g.1 + 117), .int (Int32.ofInt 0), .int (Int32.ofInt 30), .int (Int32.ofInt 0), .int (Int32.ofInt 0), .int (Int32.ofInt 0), .int (Int32.ofInt 0), .int (Int32.ofInt 0), .int (Int32.ofInt 0), .int (Int32.ofInt 0), .int (Int32.ofInt 0), .ref (g.1 + 118), .int (Int32.ofInt 0), .int (Int32.ofInt (-1)), .int (Int32.ofInt 0), .int (Int32.ofInt 0), .int (Int32.ofInt 0), .int (Int32.ofInt 0), .int (Int32.ofInt 0), .int (Int32.ofInt 0), .int (Int32.ofInt 0), .ref (g.1 + 119), .ref (g.1 + 120), .int (Int32.ofInt 0), .int (Int32.ofInt 0), .int (Int32.ofInt 0), .ref (g.1 + 121), .ref (g.1 + 122), .ref (g.1 + 123), .int (Int32.ofInt 0), .null, .null, .null, .int (Int32.ofInt 0), .int (Int32.ofInt 0), .null, .int (Int32.ofInt 0), .null, .null, .null, .int (Int32.ofInt 0), .int (Int32.ofInt 0), .int (Int32.ofInt 0), .int (Int32.ofInt 0), .int (Int32.ofInt 0), .int (Int32.ofInt 0), .null, .null, .null, .int (Int32.ofInt 0), .null, .null, .null, .int (Int32.ofInt 0)]) rfl ?_
  refine K_this dX10_init_105 ?_
  refine K_bipush dX10_init_106 (by decide) ?_
  refine K_newI (l0 := 24) (kc' := 12) (ks' := 7551) dX10_init_108 rfl (kM0_z (by decide)) (by decide +kernel) (by decide +kernel) (Nat.le_of_ble_eq_true rfl) (Nat.le_of_ble_eq_true rfl) (Nat.le_of_ble_eq_true rfl) (n2 := 125) rfl ?_
  refine K_putR dX10_init_110 fl_X10_50 k_ff8_34 rfl (Nat.le_of_ble_eq_true rfl) (fs2 := [.ref (g.1 + 113), .ref (g.1 + 114), .ref (g.1 + 115), .ref (g.1 + 116), .ref (g.1 + 117), .int (Int32.ofInt 0), .int (Int32.ofInt 30), .int (Int32.ofInt 0), .int (Int32.ofInt 0), .int (Int32.ofInt 0), .int (Int32.ofInt 0), .int (Int32.ofInt 0), .int (Int32.ofInt 0), .int (Int32.ofInt 0), .int (Int32.ofInt 0), .ref (g.1 + 118), .int (Int32.ofInt 0), .int (Int32.ofInt (-1)), .int (Int32.ofInt 0), .int (Int32.ofInt 0), .int (Int32.ofInt 0), .int (Int32.ofInt 0), .int (Int32.ofInt 0), .int (Int32.ofInt 0), .int (Int32.ofInt 0), .ref (g.1 + 119), .ref (g.1 + 120), .int (Int32.ofInt 0), .int (Int32.ofInt 0), .int (Int32.ofInt 0), .ref (g.1 + 121), .ref (g.1 + 122), .ref (g.1 + 123), .int (Int32.ofInt 0), .ref (g.1 + 124), .null, .null, .int (Int32.ofInt 0), .int (Int32.ofInt 0), .null, .int (Int32.ofInt 0), .null, .null, .null, .int (Int32.ofInt 0), .int (Int32.ofInt 0), .int (Int32.ofInt 0), .int (Int32.ofInt 0), .int (Int32.ofInt 0), .int (Int32.ofInt 0), .null, .null, .null, .int (Int32.ofInt 0), .null, .null, .null, .int (Int32.ofInt 0)]) rfl ?_
  refine K_this dX10_init_113 ?_
  refine K_bipush dX10_init_114 (by decide) ?_
  refine K_newI (l0 := 24) (kc' := 11) (ks' := 7527) dX10_init_116 rfl (kM0_z (by decide)) (by decide +kernel) (by decide +kernel) (Nat.le_of_ble_eq_true rfl) (Nat.le_of_ble_eq_true rfl) (Nat.le_of_ble_eq_true rfl) (n2 := 126) rfl ?_
  refine K_putR dX10_init_118 fl_X10_53 k_ff8_35 rfl (Nat.le_of_ble_eq_true rfl) (fs2 := [.ref (g.1 + 113), .ref (g.1 + 114), .ref (g.1 + 115), .ref (g.1 + 116), .ref (g.1 + 117), .int (Int32.ofInt 0), .int (Int32.ofInt 30), .int (Int32.ofInt 0), .int (Int32.ofInt 0), .int (Int32.ofInt 0), .int (Int32.ofInt 0), .int (Int32.ofInt 0), .int (Int32.ofInt 0), .int (Int32.ofInt 0), .int (Int32.ofInt 0), .ref (g.1 + 118), .int (Int32.ofInt 0), .int (Int32.ofInt (-1)), .int (Int32.ofInt 0), .int (Int32.ofInt 0), .int (Int32.ofInt 0), .int (Int32.ofInt 0), .int (Int32.ofInt 0), .int (Int32.ofInt 0), .int (Int32.ofInt 0), .ref (g.1 + 119), .ref (g.1 + 120), .int (Int32.ofInt 0), .int (Int32.ofInt 0), .int (Int32.ofInt 0), .ref (g.1 + 121), .ref (g.1 + 122), .ref (g.1 + 123), .int (Int32.ofInt 0), .ref (g.1 + 124), .ref (g.1 + 125), .null, .int (Int32.ofInt 0), .int (Int32.ofInt 0), .null, .int (Int32.ofInt 0), .null, .null, .null, .int (Int32.ofInt 0), .int (Int32.ofInt 0), .int (Int32.ofInt 0), .int (Int32.ofInt 0), .int (Int32.ofInt 0), .int (Int32.ofInt 0), .null, .null, .null, .int (Int32.ofInt 0), .null, .null, .null, .int (Int32.ofInt 0)]) rfl ?_
  refine K_this dX10_init_121 ?_
  refine K_bipush dX10_init_122 (by decide) ?_
  refine K_newI (l0 := 100) (kc' := 10) (ks' := 7427) dX10_init_124 rfl (kM0_z (by decide)) (by decide +kernel) (by decide +kernel) (Nat.le_of_ble_eq_true rfl) (Nat.le_of_ble_eq_true rfl) (Nat.le_of_ble_eq_true rfl) (n2 := 127) rfl ?_
  refine K_putR dX10_init_126 fl_X10_56 k_ff8_36 rfl (Nat.le_of_ble_eq_true rfl) (fs2 := [.ref (g.1 + 113), .ref (g.1 + 114), .ref (g.1 + 115), .ref (g.1 + 116), .ref (g.1 + 117), .int (Int32.ofInt 0), .int (Int32.ofInt 30), .int (Int32.ofInt 0), .int (Int32.ofInt 0), .int (Int32.ofInt 0), .int (Int32.ofInt 0), .int (Int32.ofInt 0), .int (Int32.ofInt 0), .int (Int32.ofInt 0), .int (Int32.ofInt 0), .ref (g.1 + 118), .int (Int32.ofInt 0), .int (Int32.ofInt (-1)), .int (Int32.ofInt 0), .int (Int32.ofInt 0), .int (Int32.ofInt 0), .int (Int32.ofInt 0), .int (Int32.ofInt 0), .int (Int32.ofInt 0), .int (Int32.ofInt 0), .ref (g.1 + 119), .ref (g.1 + 120), .int (Int32.ofInt 0), .int (Int32.ofInt 0), .int (Int32.ofInt 0), .ref (g.1 + 121), .ref (g.1 + 122), .ref (g.1 + 123), .int (Int32.ofInt 0), .ref (g.1 + 124), .ref (g.1 + 125), .ref (g.1 + 126), .int (Int32.ofInt 0), .int (Int32.ofInt 0), .null, .int (Int32.ofInt 0), .null, .null, .null, .int (Int32.ofInt 0), .int (Int32.ofInt 0), .int (Int32.ofInt 0), .int (Int32.ofInt 0), .int (Int32.ofInt 0), .int (Int32.ofInt 0), .null, .null, .null, .int (Int32.ofInt 0), .null, .null, .null, .int (Int32.ofInt 0)]) rfl ?_
  refine K_this dX10_init_129 ?_
  refine K_sipush dX10_init_130 (by decide) ?_
  refine K_newI (l0 := 168) (kc' := 9) (ks' := 7259) dX10_init_133 rfl (kM0_z (by decide)) (by decide +kernel) (by decide +kernel) (Nat.le_of_ble_eq_true rfl) (Nat.le_of_ble_eq_true rfl) (Nat.le_of_ble_eq_true rfl) (n2 := 128) rfl ?_
  refine K_putR dX10_init_135 fl_X10_59 k_ff8_39 rfl (Nat.le_of_ble_eq_true rfl) (fs2 := [.ref (g.1 + 113), .ref (g.1 + 114), .ref (g.1 + 115), .ref (g.1 + 116), .ref (g.1 + 117), .int (Int32.ofInt 0), .int (Int32.ofInt 30), .int (Int32.ofInt 0), .int (Int32.ofInt 0), .int (Int32.ofInt 0), .int (Int32.ofInt 0), .int (Int32.ofInt 0), .int (Int32.ofInt 0), .int (Int32.ofInt 0), .int (Int32.ofInt 0), .ref (g.1 + 118), .int (Int32.ofInt 0), .int (Int32.ofInt (-1)), .int (Int32.ofInt 0), .int (Int32.ofInt 0), .int (Int32.ofInt 0), .int (Int32.ofInt 0), .int (Int32.ofInt 0), .int (Int32.ofInt 0), .int (Int32.ofInt 0), .ref (g.1 + 119), .ref (g.1 + 120), .int (Int32.ofInt 0), .int (Int32.ofInt 0), .int (Int32.ofInt 0), .ref (g.1 + 121), .ref (g.1 + 122), .ref (g.1 + 123), .int (Int32.ofInt 0), .ref (g.1 + 124), .ref (g.1 + 125), .ref (g.1 + 126), .int (Int32.ofInt 0), .int (Int32.ofInt 0), .ref (g.1 + 127), .int (Int32.ofInt 0), .null, .null, .null, .int (Int32.ofInt 0), .int (Int32.ofInt 0), .int (Int32.ofInt 0), .int (Int32.ofInt 0), .int (Int32.ofInt 0), .int (Int32.ofInt 0), .null, .null, .null, .int (Int32.ofInt 0), .null, .null, .null, .int (Int32.ofInt 0)]) rfl ?_
  refine K_this dX10_init_138 ?_
  refine K_sipush dX10_init_139 (by decide) ?_
  refine K_newI (l0 := 168) (kc' := 8) (ks' := 7091) dX10_init_142 rfl (kM0_z (by decide)) (by decide +kernel) (by decide +kernel) (Nat.le_of_ble_eq_true rfl) (Nat.le_of_ble_eq_true rfl) (Nat.le_of_ble_eq_true rfl) (n2 := 129) rfl ?_
  refine K_putR dX10_init_144 fl_X10_62 k_ff8_41 rfl (Nat.le_of_ble_eq_true rfl) (fs2 := [.ref (g.1 + 113), .ref (g.1 + 114), .ref (g.1 + 115), .ref (g.1 + 116), .ref (g.1 + 117), .int (Int32.ofInt 0), .int (Int32.ofInt 30), .int (Int32.ofInt 0), .int (Int32.ofInt 0), .int (Int32.ofInt 0), .int (Int32.ofInt 0), .int (Int32.ofInt 0), .int (Int32.ofInt 0), .int (Int32.ofInt 0), .int (Int32.ofInt 0), .ref (g.1 + 118), .int (Int32.ofInt 0), .int (Int32.ofInt (-1)), .int (Int32.ofInt 0), .int (Int32.ofInt 0), .int (Int32.ofInt 0), .int (Int32.ofInt 0), .int (Int32.ofInt 0), .int (Int32.ofInt 0), .int (Int32.ofInt 0), .ref (g.1 + 119), .ref (g.1 + 120), .int (Int32.ofInt 0), .int (Int32.ofInt 0), .int (Int32.ofInt 0), .ref (g.1 + 121), .ref (g.1 + 122), .ref (g.1 + 123), .int (Int32.ofInt 0), .ref (g.1 + 124), .ref (g.1 + 125), .ref (g.1 + 126), .int (Int32.ofInt 0), .int (Int32.ofInt 0), .ref (g.1 + 127), .int (Int32.ofInt 0), .ref (g.1 + 128), .null, .null, .int (Int32.ofInt 0), .int (Int32.ofInt 0), .int (Int32.ofInt 0), .int (Int32.ofInt 0), .int (Int32.ofInt 0), .int (Int32.ofInt 0), .null, .null, .null, .int (Int32.ofInt 0), .null, .null, .null, .int (Int32.ofInt 0)]) rfl ?_
  refine K_this dX10_init_147 ?_
  refine K_sipush dX10_init_148 (by decide) ?_
  refine K_newI (l0 := 150) (kc' := 7) (ks' := 6941) dX10_init_151 rfl (kM0_z (by decide)) (by decide +kernel) (by decide +kernel) (Nat.le_of_ble_eq_true rfl) (Nat.le_of_ble_eq_true rfl) (Nat.le_of_ble_eq_true rfl) (n2 := 130) rfl ?_
  refine K_putR dX10_init_153 fl_X10_65 k_ff8_42 rfl (Nat.le_of_ble_eq_true rfl) (fs2 := [.ref (g.1 + 113), .ref (g.1 + 114), .ref (g.1 + 115), .ref (g.1 + 116), .ref (g.1 + 117), .int (Int32.ofInt 0), .int (Int32.ofInt 30), .int (Int32.ofInt 0), .int (Int32.ofInt 0), .int (Int32.ofInt 0), .int (Int32.ofInt 0), .int (Int32.ofInt 0), .int (Int32.ofInt 0), .int (Int32.ofInt 0), .int (Int32.ofInt 0), .ref (g.1 + 118), .int (Int32.ofInt 0), .int (Int32.ofInt (-1)), .int (Int32.ofInt 0), .int (Int32.ofInt 0), .int (Int32.ofInt 0), .int (Int32.ofInt 0), .int (Int32.ofInt 0), .int (Int32.ofInt 0), .int (Int32.ofInt 0), .ref (g.1 + 119), .ref (g.1 + 120), .int (Int32.ofInt 0), .int (Int32.ofInt 0), .int (Int32.ofInt 0), .ref (g.1 + 121), .ref (g.1 + 122), .ref (g.1 + 123), .int (Int32.ofInt 0), .ref (g.1 + 124), .ref (g.1 + 125), .ref (g.1 + 126), .int (Int32.ofInt 0), .int (Int32.ofInt 0), .ref (g.1 + 127), .int (Int32.ofInt 0), .ref (g.1 + 128), .ref (g.1 + 129), .null, .int (Int32.ofInt 0), .int (Int32.ofInt 0), .int (Int32.ofInt 0), .int (Int32.ofInt 0), .int (Int32.ofInt 0), .int (Int32.ofInt 0), .null, .null, .null, .int (Int32.ofInt 0), .null, .null, .null, .int (Int32.ofInt 0)]) rfl ?_
  refine K_this dX10_init_156 ?_
  refine K_bipush dX10_init_157 (by decide) ?_
  refine K_newZ (l0 := 28) (kc' := 6) (ks' := 6913) dX10_init_159 rfl (kM0_z (by decide)) (by decide +kernel) (by decide +kernel) (Nat.le_of_ble_eq_true rfl) (Nat.le_of_ble_eq_true rfl) (Nat.le_of_ble_eq_true rfl) (n2 := 131) rfl ?_
  refine K_putR dX10_init_161 fl_X10_68 k_ff8_43 rfl (Nat.le_of_ble_eq_true rfl) (fs2 := [.ref (g.1 + 113), .ref (g.1 + 114), .ref (g.1 + 115), .ref (g.1 + 116), .ref (g.1 + 117), .int (Int32.ofInt 0), .int (Int32.ofInt 30), .int (Int32.ofInt 0), .int (Int32.ofInt 0), .int (Int32.ofInt 0), .int (Int32.ofInt 0), .int (Int32.ofInt 0), .int (Int32.ofInt 0), .int (Int32.ofInt 0), .int (Int32.ofInt 0), .ref (g.1 + 118), .int (Int32.ofInt 0), .int (Int32.ofInt (-1)), .int (Int32.ofInt 0), .int (Int32.ofInt 0), .int (Int32.ofInt 0), .int (Int32.ofInt 0), .int (Int32.ofInt 0), .int (Int32.ofInt 0), .int (Int32.ofInt 0), .ref (g.1 + 119), .ref (g.1 + 120), .int (Int32.ofInt 0), .int (Int32.ofInt 0), .int (Int32.ofInt 0), .ref (g.1 + 121), .ref (g.1 + 122), .ref (g.1 + 123), .int (Int32.ofInt 0), .ref (g.1 + 124), .ref (g.1 + 125), .ref (g.1 + 126), .int (Int32.ofInt 0), .int (Int32.ofInt 0), .ref (g.1 + 127), .int (Int32.ofInt 0), .ref (g.1 + 128), .ref (g.1 + 129), .ref (g.1 + 130), .int (Int32.ofInt 0), .int (Int32.ofInt 0), .int (Int32.ofInt 0), .int (Int32.ofInt 0), .int (Int32.ofInt 0), .int (Int32.ofInt 0), .null, .null, .null, .int (Int32.ofInt 0), .null, .null, .null, .int (Int32.ofInt 0)]) rfl ?_
  refine K_this dX10_init_164 ?_
  refine K_bipush dX10_init_165 (by decide) ?_
  refine K_newI (l0 := 7) (kc' := 5) (ks' := 6906) dX10_init_167 rfl (kM0_z (by decide)) (by decide +kernel) (by decide +kernel) (Nat.le_of_ble_eq_true rfl) (Nat.le_of_ble_eq_true rfl) (Nat.le_of_ble_eq_true rfl) (n2 := 132) rfl ?_
  refine K_putR dX10_init_169 fl_X10_72 k_ff8_50 rfl (Nat.le_of_ble_eq_true rfl) (fs2 := [.ref (g.1 + 113), .ref (g.1 + 114), .ref (g.1 + 115), .ref (g.1 + 116), .ref (g.1 + 117), .int (Int32.ofInt 0), .int (Int32.ofInt 30), .int (Int32.ofInt 0), .int (Int32.ofInt 0), .int (Int32.ofInt 0), .int (Int32.ofInt 0), .int (Int32.ofInt 0), .int (Int32.ofInt 0), .int (Int32.ofInt 0), .int (Int32.ofInt 0), .ref (g.1 + 118), .int (Int32.ofInt 0), .int (Int32.ofInt (-1)), .int (Int32.ofInt 0), .int (Int32.ofInt 0), .int (Int32.ofInt 0), .int (Int32.ofInt 0), .int (Int32.ofInt 0), .int (Int32.ofInt 0), .int (Int32.ofInt 0), .ref (g.1 + 119), .ref (g.1 + 120), .int (Int32.ofInt 0), .int (Int32.ofInt 0), .int (Int32.ofInt 0), .ref (g.1 + 121), .ref (g.1 + 122), .ref (g.1 + 123), .int (Int32.ofInt 0), .ref (g.1 + 124), .ref (g.1 + 125), .ref (g.1 + 126), .int (Int32.ofInt 0), .int (Int32.ofInt 0), .ref (g.1 + 127), .int (Int32.ofInt 0), .ref (g.1 + 128), .ref (g.1 + 129), .ref (g.1 + 130), .int (Int32.ofInt 0), .int (Int32.ofInt 0), .int (Int32.ofInt 0), .int (Int32.ofInt 0), .int (Int32.ofInt 0), .int (Int32.ofInt 0), .ref (g.1 + 131), .null, .null, .int (Int32.ofInt 0), .null, .null, .null, .int (Int32.ofInt 0)]) rfl ?_
  refine K_this dX10_init_172 ?_
  refine K_sipush dX10_init_173 (by decide) ?_
  refine K_newI (l0 := 700) (kc' := 4) (ks' := 6206) dX10_init_176 rfl (kM0_z (by decide)) (by decide +kernel) (by decide +kernel) (Nat.le_of_ble_eq_true rfl) (Nat.le_of_ble_eq_true rfl) (Nat.le_of_ble_eq_true rfl) (n2 := 133) rfl ?_
  refine K_putR dX10_init_178 fl_X10_75 k_ff8_51 rfl (Nat.le_of_ble_eq_true rfl) (fs2 := [.ref (g.1 + 113), .ref (g.1 + 114), .ref (g.1 + 115), .ref (g.1 + 116), .ref (g.1 + 117), .int (Int32.ofInt 0), .int (Int32.ofInt 30), .int (Int32.ofInt 0), .int (Int32.ofInt 0), .int (Int32.ofInt 0), .int (Int32.ofInt 0), .int (Int32.ofInt 0), .int (Int32.ofInt 0), .int (Int32.ofInt 0), .int (Int32.ofInt 0), .ref (g.1 + 118), .int (Int32.ofInt 0), .int (Int32.ofInt (-1)), .int (Int32.ofInt 0), .int (Int32.ofInt 0), .int (Int32.ofInt 0), .int (Int32.ofInt 0), .int (Int32.ofInt 0), .int (Int32.ofInt 0), .int (Int32.ofInt 0), .ref (g.1 + 119), .ref (g.1 + 120), .int (Int32.ofInt 0), .int (Int32.ofInt 0), .int (Int32.ofInt 0), .ref (g.1 + 121), .ref (g.1 + 122), .ref (g.1 + 123), .int (Int32.ofInt 0), .ref (g.1 + 124), .ref (g.1 + 125), .ref (g.1 + 126), .int (Int32.ofInt 0), .int (Int32.ofInt 0), .ref (g.1 + 127), .int (Int32.ofInt 0), .ref (g.1 + 128), .ref (g.1 + 129), .ref (g.1 + 130), .int (Int32.ofInt 0), .int (Int32.ofInt 0), .int (Int32.ofInt 0), .int (Int32.ofInt 0), .int (Int32.ofInt 0), .int (Int32.ofInt 0), .ref (g.1 + 131), .ref (g.1 + 132), .null, .int (Int32.ofInt 0), .null, .null, .null, .int (Int32.ofInt 0)]) rfl ?_
  refine K_this dX10_init_181 ?_
  refine K_sipush dX10_init_182 (by decide) ?_
  refine K_newI (l0 := 700) (kc' := 3) (ks' := 5506) dX10_init_185 rfl (kM0_z (by decide)) (by decide +kernel) (by decide +kernel) (Nat.le_of_ble_eq_true rfl) (Nat.le_of_ble_eq_true rfl) (Nat.le_of_ble_eq_true rfl) (n2 := 134) rfl ?_
  refine K_putR dX10_init_187 fl_X10_78 k_ff8_52 rfl (Nat.le_of_ble_eq_true rfl) (fs2 := [.ref (g.1 + 113), .ref (g.1 + 114), .ref (g.1 + 115), .ref (g.1 + 116), .ref (g.1 + 117), .int (Int32.ofInt 0), .int (Int32.ofInt 30), .int (Int32.ofInt 0), .int (Int32.ofInt 0), .int (Int32.ofInt 0), .int (Int32.ofInt 0), .int (Int32.ofInt 0), .int (Int32.ofInt 0), .int (Int32.ofInt 0), .int (Int32.ofInt 0), .ref (g.1 + 118), .int (Int32.ofInt 0), .int (Int32.ofInt (-1)), .int (Int32.ofInt 0), .int (Int32.ofInt 0), .int (Int32.ofInt 0), .int (Int32.ofInt 0), .int (Int32.ofInt 0), .int (Int32.ofInt 0), .int (Int32.ofInt 0), .ref (g.1 + 119), .ref (g.1 + 120), .int (Int32.ofInt 0), .int (Int32.ofInt 0), .int (Int32.ofInt 0), .ref (g.1 + 121), .ref (g.1 + 122), .ref (g.1 + 123), .int (Int32.ofInt 0), .ref (g.1 + 124), .ref (g.1 + 125), .ref (g.1 + 126), .int (Int32.ofInt 0), .int (Int32.ofInt 0), .ref (g.1 + 127), .int (Int32.ofInt 0), .ref (g.1 + 128), .ref (g.1 + 129), .ref (g.1 + 130), .int (Int32.ofInt 0), .int (Int32.ofInt 0), .int (Int32.ofInt 0), .int (Int32.ofInt 0), .int (Int32.ofInt 0), .int (Int32.ofInt 0), .ref (g.1 + 131), .ref (g.1 + 132), .ref (g.1 + 133), .int (Int32.ofInt 0), .null, .null, .null, .int (Int32.ofInt 0)]) rfl ?_
  refine K_this dX10_init_190 ?_
  refine K_sipush dX10_init_191 (by decide) ?_
  refine K_newI (l0 := 700) (kc' := 2) (ks' := 4806) dX10_init_194 rfl (kM0_z (by decide)) (by decide +kernel) (by decide +kernel) (Nat.le_of_ble_eq_true rfl) (Nat.le_of_ble_eq_true rfl) (Nat.le_of_ble_eq_true rfl) (n2 := 135) rfl ?_
  refine K_putR dX10_init_196 fl_X10_81 k_ff8_54 rfl (Nat.le_of_ble_eq_true rfl) (fs2 := [.ref (g.1 + 113), .ref (g.1 + 114), .ref (g.1 + 115), .ref (g.1 + 116), .ref (g.1 + 117), .int (Int32.ofInt 0), .int (Int32.ofInt 30), .int (Int32.ofInt 0), .int (Int32.ofInt 0), .int (Int32.ofInt 0), .int (Int32.ofInt 0), .int (Int32.ofInt 0), .int (Int32.ofInt 0), .int (Int32.ofInt 0), .int (Int32.ofInt 0), .ref (g.1 + 118), .int (Int32.ofInt 0), .int (Int32.ofInt (-1)), .int (Int32.ofInt 0), .int (Int32.ofInt 0), .int (Int32.ofInt 0), .int (Int32.ofInt 0), .int (Int32.ofInt 0), .int (Int32.ofInt 0), .int (Int32.ofInt 0), .ref (g.1 + 119), .ref (g.1 + 120), .int (Int32.ofInt 0), .int (Int32.ofInt 0), .int (Int32.ofInt 0), .ref (g.1 + 121), .ref (g.1 + 122), .ref (g.1 + 123), .int (Int32.ofInt 0), .ref (g.1 + 124), .ref (g.1 + 125), .ref (g.1 + 126), .int (Int32.ofInt 0), .int (Int32.ofInt 0), .ref (g.1 + 127), .int (Int32.ofInt 0), .ref (g.1 + 128), .ref (g.1 + 129), .ref (g.1 + 130), .int (Int32.ofInt 0), .int (Int32.ofInt 0), .int (Int32.ofInt 0), .int (Int32.ofInt 0), .int (Int32.ofInt 0), .int (Int32.ofInt 0), .ref (g.1 + 131), .ref (g.1 + 132), .ref (g.1 + 133), .int (Int32.ofInt 0), .ref (g.1 + 134), .null, .null, .int (Int32.ofInt 0)]) rfl ?_
  refine K_this dX10_init_199 ?_
  refine K_bipush dX10_init_200 (by decide) ?_
  refine K_newI (l0 := 6) (kc' := 1) (ks' := 4800) dX10_init_202 rfl (kM0_z (by decide)) (by decide +kernel) (by decide +kernel) (Nat.le_of_ble_eq_true rfl) (Nat.le_of_ble_eq_true rfl) (Nat.le_of_ble_eq_true rfl) (n2 := 136) rfl ?_
  refine K_putR dX10_init_204 fl_X10_84 k_ff8_55 rfl (Nat.le_of_ble_eq_true rfl) (fs2 := [.ref (g.1 + 113), .ref (g.1 + 114), .ref (g.1 + 115), .ref (g.1 + 116), .ref (g.1 + 117), .int (Int32.ofInt 0), .int (Int32.ofInt 30), .int (Int32.ofInt 0), .int (Int32.ofInt 0), .int (Int32.ofInt 0), .int (Int32.ofInt 0), .int (Int32.ofInt 0), .int (Int32.ofInt 0), .int (Int32.ofInt 0), .int (Int32.ofInt 0), .ref (g.1 + 118), .int (Int32.ofInt 0), .int (Int32.ofInt (-1)), .int (Int32.ofInt 0), .int (Int32.ofInt 0), .int (Int32.ofInt 0), .int (Int32.ofInt 0), .int (Int32.ofInt 0), .int (Int32.ofInt 0), .int (Int32.ofInt 0), .ref (g.1 + 119), .ref (g.1 + 120), .int (Int32.ofInt 0), .int (Int32.ofInt 0), .int (Int32.ofInt 0), .ref (g.1 + 121), .ref (g.1 + 122), .ref (g.1 + 123), .int (Int32.ofInt 0), .ref (g.1 + 124), .ref (g.1 + 125), .ref (g.1 + 126), .int (Int32.ofInt 0), .int (Int32.ofInt 0), .ref (g.1 + 127), .int (Int32.ofInt 0), .ref (g.1 + 128), .ref (g.1 + 129), .ref (g.1 + 130), .int (Int32.ofInt 0), .int (Int32.ofInt 0), .int (Int32.ofInt 0), .int (Int32.ofInt 0), .int (Int32.ofInt 0), .int (Int32.ofInt 0), .ref (g.1 + 131), .ref (g.1 + 132), .ref (g.1 + 133), .int (Int32.ofInt 0), .ref (g.1 + 134), .ref (g.1 + 135), .null, .int (Int32.ofInt 0)]) rfl ?_
  refine K_this dX10_init_207 ?_
  refine K_sipush dX10_init_208 (by decide) ?_
  refine K_newI (l0 := 4800) (kc' := 0) (ks' := 0) dX10_init_211 rfl (kM0_z (by decide)) (by decide +kernel) (by decide +kernel) (Nat.le_of_ble_eq_true rfl) (Nat.le_of_ble_eq_true rfl) (Nat.le_of_ble_eq_true rfl) (n2 := 137) rfl ?_
  refine K_putR dX10_init_213 fl_X10_87 k_ff8_56 rfl (Nat.le_of_ble_eq_true rfl) (fs2 := [.ref (g.1 + 113), .ref (g.1 + 114), .ref (g.1 + 115), .ref (g.1 + 116), .ref (g.1 + 117), .int (Int32.ofInt 0), .int (Int32.ofInt 30), .int (Int32.ofInt 0), .int (Int32.ofInt 0), .int (Int32.ofInt 0), .int (Int32.ofInt 0), .int (Int32.ofInt 0), .int (Int32.ofInt 0), .int (Int32.ofInt 0), .int (Int32.ofInt 0), .ref (g.1 + 118), .int (Int32.ofInt 0), .int (Int32.ofInt (-1)), .int (Int32.ofInt 0), .int (Int32.ofInt 0), .int (Int32.ofInt 0), .int (Int32.ofInt 0), .int (Int32.ofInt 0), .int (Int32.ofInt 0), .int (Int32.ofInt 0), .ref (g.1 + 119), .ref (g.1 + 120), .int (Int32.ofInt 0), .int (Int32.ofInt 0), .int (Int32.ofInt 0), .ref (g.1 + 121), .ref (g.1 + 122), .ref (g.1 + 123), .int (Int32.ofInt 0), .ref (g.1 + 124), .ref (g.1 + 125), .ref (g.1 + 126), .int (Int32.ofInt 0), .int (Int32.ofInt 0), .ref (g.1 + 127), .int (Int32.ofInt 0), .ref (g.1 + 128), .ref (g.1 + 129), .ref (g.1 + 130), .int (Int32.ofInt 0), .int (Int32.ofInt 0), .int (Int32.ofInt 0), .int (Int32.ofInt 0), .int (Int32.ofInt 0), .int (Int32.ofInt 0), .ref (g.1 + 131), .ref (g.1 + 132), .ref (g.1 + 133), .int (Int32.ofInt 0), .ref (g.1 + 134), .ref (g.1 + 135), .ref (g.1 + 136), .int (Int32.ofInt 0)]) rfl ?_
  exact K_ret (cnt := 25) dX10_init_216 rfl rfl rfl hQ
