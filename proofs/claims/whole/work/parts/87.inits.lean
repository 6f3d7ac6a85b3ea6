/-! ===== words that making needs ===== -/
theorem mo_inst : Cond.instanceMethod Lib.objectInit ∈ fb_tb := fb_mem 65 (by decide +kernel) rfl
theorem mo_code : Cond.code Lib.objectInit ⟨#[0xb1]⟩ 1 none ∈ fb_tb := fb_mem 66 (by decide +kernel) rfl
theorem ma_int : Cond.arrayClass .int ∈ fb_tb := fb_mem 108 (by decide +kernel) rfl
theorem ma_bool : Cond.arrayClass .boolean ∈ fb_tb := fb_mem 661 (by decide +kernel) rfl
theorem mi_code_X0 : Cond.code yX0_init cX0_init 1 none ∈ fb_tb := fb_mem 130 (by decide +kernel) rfl
theorem mi_inst_X0 : Cond.instanceMethod yX0_init ∈ fb_tb := fb_mem 129 (by decide +kernel) rfl
theorem mi_ini_X0 : Cond.initialized RX0 ∈ fb_tb := fb_mem 51 (by decide +kernel) rfl
theorem mi_obj_X0 : Cond.methodLink RX0 3 Lib.objectInit ∈ fb_tb := fb_mem 131 (by decide +kernel) rfl
theorem mi_tm_X0 : Cond.instantiable RX0 5 ∈ fb_tb := fb_mem 127 (by decide +kernel) rfl
theorem mi_code_X1 : Cond.code yX1_init cX1_init 1 none ∈ fb_tb := fb_mem 223 (by decide +kernel) rfl
theorem mi_inst_X1 : Cond.instanceMethod yX1_init ∈ fb_tb := fb_mem 222 (by decide +kernel) rfl
theorem mi_ini_X1 : Cond.initialized RX1 ∈ fb_tb := fb_mem 54 (by decide +kernel) rfl
theorem mi_obj_X1 : Cond.methodLink RX1 3 Lib.objectInit ∈ fb_tb := fb_mem 224 (by decide +kernel) rfl
theorem mi_tm_X1 : Cond.instantiable RX1 7 ∈ fb_tb := fb_mem 220 (by decide +kernel) rfl
theorem mi_code_X2 : Cond.code yX2_init cX2_init 1 none ∈ fb_tb := fb_mem 136 (by decide +kernel) rfl
theorem mi_inst_X2 : Cond.instanceMethod yX2_init ∈ fb_tb := fb_mem 135 (by decide +kernel) rfl
theorem mi_ini_X2 : Cond.initialized RX2 ∈ fb_tb := fb_mem 52 (by decide +kernel) rfl
theorem mi_obj_X2 : Cond.methodLink RX2 3 Lib.objectInit ∈ fb_tb := fb_mem 137 (by decide +kernel) rfl
theorem mi_tm_X2 : Cond.instantiable RX2 4 ∈ fb_tb := fb_mem 133 (by decide +kernel) rfl
theorem mi_code_X3 : Cond.code yX3_init cX3_init 1 none ∈ fb_tb := fb_mem 174 (by decide +kernel) rfl
theorem mi_inst_X3 : Cond.instanceMethod yX3_init ∈ fb_tb := fb_mem 173 (by decide +kernel) rfl
theorem mi_ini_X3 : Cond.initialized RX3 ∈ fb_tb := fb_mem 53 (by decide +kernel) rfl
theorem mi_obj_X3 : Cond.methodLink RX3 3 Lib.objectInit ∈ fb_tb := fb_mem 175 (by decide +kernel) rfl
theorem mi_tm_X3 : Cond.instantiable RX3 12 ∈ fb_tb := fb_mem 171 (by decide +kernel) rfl
theorem mi_code_X4 : Cond.code yX4_init cX4_init 1 none ∈ fb_tb := fb_mem 113 (by decide +kernel) rfl
theorem mi_inst_X4 : Cond.instanceMethod yX4_init ∈ fb_tb := fb_mem 112 (by decide +kernel) rfl
theorem mi_ini_X4 : Cond.initialized RX4 ∈ fb_tb := fb_mem 50 (by decide +kernel) rfl
theorem mi_obj_X4 : Cond.methodLink RX4 3 Lib.objectInit ∈ fb_tb := fb_mem 114 (by decide +kernel) rfl
theorem mi_tm_X4 : Cond.instantiable RX4 3 ∈ fb_tb := fb_mem 110 (by decide +kernel) rfl
theorem mi_code_X5 : Cond.code yX5_init cX5_init 1 none ∈ fb_tb := fb_mem 71 (by decide +kernel) rfl
theorem mi_inst_X5 : Cond.instanceMethod yX5_init ∈ fb_tb := fb_mem 70 (by decide +kernel) rfl
theorem mi_ini_X5 : Cond.initialized RX5 ∈ fb_tb := fb_mem 49 (by decide +kernel) rfl
theorem mi_obj_X5 : Cond.methodLink RX5 3 Lib.objectInit ∈ fb_tb := fb_mem 72 (by decide +kernel) rfl
theorem mi_tm_X5 : Cond.instantiable RX5 6 ∈ fb_tb := fb_mem 68 (by decide +kernel) rfl
theorem mi_code_X6 : Cond.code yX6_init cX6_init 1 none ∈ fb_tb := fb_mem 63 (by decide +kernel) rfl
theorem mi_inst_X6 : Cond.instanceMethod yX6_init ∈ fb_tb := fb_mem 62 (by decide +kernel) rfl
theorem mi_ini_X6 : Cond.initialized RX6 ∈ fb_tb := fb_mem 48 (by decide +kernel) rfl
theorem mi_obj_X6 : Cond.methodLink RX6 1 Lib.objectInit ∈ fb_tb := fb_mem 64 (by decide +kernel) rfl
theorem mi_tm_X6 : Cond.instantiable RX6 11 ∈ fb_tb := fb_mem 60 (by decide +kernel) rfl
theorem mi_code_X7 : Cond.code yX7_init cX7_init 1 none ∈ fb_tb := fb_mem 598 (by decide +kernel) rfl
theorem mi_inst_X7 : Cond.instanceMethod yX7_init ∈ fb_tb := fb_mem 597 (by decide +kernel) rfl
theorem mi_ini_X7 : Cond.initialized RX7 ∈ fb_tb := fb_mem 55 (by decide +kernel) rfl
theorem mi_obj_X7 : Cond.methodLink RX7 1 Lib.objectInit ∈ fb_tb := fb_mem 599 (by decide +kernel) rfl
theorem mi_tm_X7 : Cond.instantiable RX7 20 ∈ fb_tb := fb_mem 595 (by decide +kernel) rfl
theorem mk_X6_7 : Cond.classLink RX6 7 RX5 ∈ fb_tb := fb_mem 67 (by decide +kernel) rfl
theorem mk_X6_16 : Cond.classLink RX6 16 RX4 ∈ fb_tb := fb_mem 109 (by decide +kernel) rfl
theorem mk_X6_23 : Cond.classLink RX6 23 RX0 ∈ fb_tb := fb_mem 126 (by decide +kernel) rfl
theorem mk_X0_24 : Cond.classLink RX0 24 RX2 ∈ fb_tb := fb_mem 132 (by decide +kernel) rfl
theorem mk_X6_30 : Cond.classLink RX6 30 RX3 ∈ fb_tb := fb_mem 170 (by decide +kernel) rfl
theorem mk_X6_40 : Cond.classLink RX6 40 RX1 ∈ fb_tb := fb_mem 218 (by decide +kernel) rfl
def wkX2 (cI : ClassId) (u : Nat → Nat) : va_W := [(u 0, .inr (2, [.ref (u 1), .ref (u 2), .ref (u 3), fb_z])), (u 1, zI cI 100), (u 2, zI cI 100), (u 3, zI cI 144)]
theorem dfX2 : ∀ j, j < 4 → defaultValue (tyX2 j) = vp_V [.null, .null, .null, fb_z] j := fun j hj => match j, hj with
  | 0, _ => rfl
  | 1, _ => rfl
  | 2, _ => rfl
  | 3, _ => rfl
  | n + 4, h => absurd h (by omega)
set_option maxHeartbeats 4000000 in
theorem ci_X2 (l : Launch) (D : fb_D0) (h0 : Nat) : cc_M l D yX2_init cX2_init { frames := 1, cells := 3, slots := 344, locals := 12 } h0 2 [.null, .null, .null, fb_z] wkX2 3 344 := by
  refine cc_ofW (by decide) rfl rfl ?_
  intro p e s m args below meth c ls C hl w
  refine lv_aload_n C.1.1 C.1.2.1 dX2_init_0 rfl (lv_at hl 0 rfl) ?_
  refine cc_obj C mi_obj_X2 mo_inst mo_code hl.1 dX2_init_1 ⟨Nat.le_of_ble_eq_true rfl, Nat.le_of_ble_eq_true rfl⟩ ?_
  refine lv_aload_n C.1.1 C.1.2.1 dX2_init_4 rfl (lv_at hl 0 rfl) ?_
  refine lv_bipush (v := fb_I (100 : Nat)) C.1.1 C.1.2.1 dX2_init_5 (by decide) ?_
  refine cc_newI C w cc_hA 100 ma_int rfl (cells' := 1) (slots' := 100) rfl rfl ⟨Nat.le_of_ble_eq_true rfl, Nat.le_of_ble_eq_true rfl⟩ dX2_init_7 (fun q1 H w => ?_)
  refine cc_putF (ws' := [(h0, .inr (2, [.ref q1, .null, .null, fb_z])), (q1, zI D.2.1 100)]) C w rfl fl_X2_9 tyX2_ok nmX2 rfl rfl rfl rfl (Nat.le_of_ble_eq_true rfl) rfl dX2_init_9 (fun H locs w => ?_)
  refine lv_aload_n C.1.1 C.1.2.1 dX2_init_12 rfl (lv_at hl 0 rfl) ?_
  refine lv_bipush (v := fb_I (100 : Nat)) C.1.1 C.1.2.1 dX2_init_13 (by decide) ?_
  refine cc_newI C w cc_hA 100 ma_int rfl (cells' := 2) (slots' := 200) rfl rfl ⟨Nat.le_of_ble_eq_true rfl, Nat.le_of_ble_eq_true rfl⟩ dX2_init_15 (fun q2 H w => ?_)
  refine cc_putF (ws' := [(h0, .inr (2, [.ref q1, .ref q2, .null, fb_z])), (q1, zI D.2.1 100), (q2, zI D.2.1 100)]) C w rfl fl_X2_15 tyX2_ok nmX2 rfl rfl rfl rfl (Nat.le_of_ble_eq_true rfl) rfl dX2_init_17 (fun H locs w => ?_)
  refine lv_aload_n C.1.1 C.1.2.1 dX2_init_20 rfl (lv_at hl 0 rfl) ?_
  refine lv_sipush (v := fb_I (144 : Nat)) C.1.1 C.1.2.1 dX2_init_21 (by decide) ?_
  refine cc_newI C w cc_hA 144 ma_int rfl (cells' := 3) (slots' := 344) rfl rfl ⟨Nat.le_of_ble_eq_true rfl, Nat.le_of_ble_eq_true rfl⟩ dX2_init_24 (fun q3 H w => ?_)
  refine cc_putF (ws' := [(h0, .inr (2, [.ref q1, .ref q2, .ref q3, fb_z])), (q1, zI D.2.1 100), (q2, zI D.2.1 100), (q3, zI D.2.1 144)]) C w rfl fl_X2_18 tyX2_ok nmX2 rfl rfl rfl rfl (Nat.le_of_ble_eq_true rfl) rfl dX2_init_26 (fun H locs w => ?_)
  refine lv_aload_n C.1.1 C.1.2.1 dX2_init_29 rfl (lv_at hl 0 rfl) ?_
  refine lv_iconst (v := fb_I 0) C.1.1 C.1.2.1 dX2_init_30 (by decide) ?_
  refine cc_put (ws' := [(h0, .inr (2, [.ref q1, .ref q2, .ref q3, fb_z])), (q1, zI D.2.1 100), (q2, zI D.2.1 100), (q3, zI D.2.1 144)]) C w rfl fl_X2_21 tyX2_ok nmX2 rfl rfl rfl (Nat.le_of_ble_eq_true rfl) rfl dX2_init_31 (fun H locs w => ?_)
  exact cc_ret (wX := wkX2) C w (fun k => ([h0, q1, q2, q3] : List Nat).getD k 0) rfl rfl dX2_init_34
def wkX0 (cI : ClassId) (u : Nat → Nat) : va_W := [(u 0, .inr (0, [.ref (u 1), .ref (u 2), .ref (u 3), .ref (u 4), .ref (u 5)])), (u 1, zI cI 144), (u 2, zI cI 144), (u 3, zI cI 144), (u 4, zI cI 100), (u 5, .inr (2, [.ref (u 6), .ref (u 7), .ref (u 8), fb_z])), (u 6, zI cI 100), (u 7, zI cI 100), (u 8, zI cI 144)]
theorem dfX0 : ∀ j, j < 5 → defaultValue (tyX0 j) = vp_V [.null, .null, .null, .null, .null] j := fun j hj => match j, hj with
  | 0, _ => rfl
  | 1, _ => rfl
  | 2, _ => rfl
  | 3, _ => rfl
  | 4, _ => rfl
  | n + 5, h => absurd h (by omega)
set_option maxHeartbeats 4000000 in
theorem ci_X0 (l : Launch) (D : fb_D0) (h0 : Nat) : cc_M l D yX0_init cX0_init { frames := 2, cells := 8, slots := 880, locals := 32 } h0 0 [.null, .null, .null, .null, .null] wkX0 8 880 := by
  refine cc_ofW (by decide) rfl rfl ?_
  intro p e s m args below meth c ls C hl w
  refine lv_aload_n C.1.1 C.1.2.1 dX0_init_0 rfl (lv_at hl 0 rfl) ?_
  refine cc_obj C mi_obj_X0 mo_inst mo_code hl.1 dX0_init_1 ⟨Nat.le_of_ble_eq_true rfl, Nat.le_of_ble_eq_true rfl⟩ ?_
  refine lv_aload_n C.1.1 C.1.2.1 dX0_init_4 rfl (lv_at hl 0 rfl) ?_
  refine lv_sipush (v := fb_I (144 : Nat)) C.1.1 C.1.2.1 dX0_init_5 (by decide) ?_
  refine cc_newI C w cc_hA 144 ma_int rfl (cells' := 1) (slots' := 144) rfl rfl ⟨Nat.le_of_ble_eq_true rfl, Nat.le_of_ble_eq_true rfl⟩ dX0_init_8 (fun q1 H w => ?_)
  refine cc_putF (ws' := [(h0, .inr (0, [.ref q1, .null, .null, .null, .null])), (q1, zI D.2.1 144)]) C w rfl fl_X0_9 tyX0_ok nmX0 rfl rfl rfl rfl (Nat.le_of_ble_eq_true rfl) rfl dX0_init_10 (fun H locs w => ?_)
  refine lv_aload_n C.1.1 C.1.2.1 dX0_init_13 rfl (lv_at hl 0 rfl) ?_
  refine lv_sipush (v := fb_I (144 : Nat)) C.1.1 C.1.2.1 dX0_init_14 (by decide) ?_
  refine cc_newI C w cc_hA 144 ma_int rfl (cells' := 2) (slots' := 288) rfl rfl ⟨Nat.le_of_ble_eq_true rfl, Nat.le_of_ble_eq_true rfl⟩ dX0_init_17 (fun q2 H w => ?_)
  refine cc_putF (ws' := [(h0, .inr (0, [.ref q1, .ref q2, .null, .null, .null])), (q1, zI D.2.1 144), (q2, zI D.2.1 144)]) C w rfl fl_X0_15 tyX0_ok nmX0 rfl rfl rfl rfl (Nat.le_of_ble_eq_true rfl) rfl dX0_init_19 (fun H locs w => ?_)
  refine lv_aload_n C.1.1 C.1.2.1 dX0_init_22 rfl (lv_at hl 0 rfl) ?_
  refine lv_sipush (v := fb_I (144 : Nat)) C.1.1 C.1.2.1 dX0_init_23 (by decide) ?_
  refine cc_newI C w cc_hA 144 ma_int rfl (cells' := 3) (slots' := 432) rfl rfl ⟨Nat.le_of_ble_eq_true rfl, Nat.le_of_ble_eq_true rfl⟩ dX0_init_26 (fun q3 H w => ?_)
  refine cc_putF (ws' := [(h0, .inr (0, [.ref q1, .ref q2, .ref q3, .null, .null])), (q1, zI D.2.1 144), (q2, zI D.2.1 144), (q3, zI D.2.1 144)]) C w rfl fl_X0_18 tyX0_ok nmX0 rfl rfl rfl rfl (Nat.le_of_ble_eq_true rfl) rfl dX0_init_28 (fun H locs w => ?_)
  refine lv_aload_n C.1.1 C.1.2.1 dX0_init_31 rfl (lv_at hl 0 rfl) ?_
  refine lv_bipush (v := fb_I (100 : Nat)) C.1.1 C.1.2.1 dX0_init_32 (by decide) ?_
  refine cc_newI C w cc_hA 100 ma_int rfl (cells' := 4) (slots' := 532) rfl rfl ⟨Nat.le_of_ble_eq_true rfl, Nat.le_of_ble_eq_true rfl⟩ dX0_init_34 (fun q4 H w => ?_)
  refine cc_putF (ws' := [(h0, .inr (0, [.ref q1, .ref q2, .ref q3, .ref q4, .null])), (q1, zI D.2.1 144), (q2, zI D.2.1 144), (q3, zI D.2.1 144), (q4, zI D.2.1 100)]) C w rfl fl_X0_21 tyX0_ok nmX0 rfl rfl rfl rfl (Nat.le_of_ble_eq_true rfl) rfl dX0_init_36 (fun H locs w => ?_)
  refine lv_aload_n C.1.1 C.1.2.1 dX0_init_39 rfl (lv_at hl 0 rfl) ?_
  refine cc_new C w cc_hA (cells' := 5) (slots' := 536) fb_u2 tyX2_ok mk_X0_24 mi_tm_X2 mi_ini_X2 (fs := [.null, .null, .null, fb_z]) (ci := 2) rfl dfX2 rfl rfl ⟨Nat.le_of_ble_eq_true rfl, Nat.le_of_ble_eq_true rfl⟩ dX0_init_40 (fun q5 H w => ?_)
  refine lv_dup C.1.1 C.1.2.1 dX0_init_43 rfl ?_
  refine cc_call (wr := [(h0, .inr (0, [.ref q1, .ref q2, .ref q3, .ref q4, .null])), (q1, zI D.2.1 144), (q2, zI D.2.1 144), (q3, zI D.2.1 144), (q4, zI D.2.1 100)]) (a := q5) C w cc_hA (cells' := 8) (slots' := 880) (ci_X2 l D q5) C.2.2.2.1.2.2.2.2.2 mi_code_X2 mi_inst_X2 mi_ini_X2 rfl (by decide +kernel) ⟨rfl, rfl⟩ [0, 1, 2, 3, 4] rfl rfl hl.1 rfl rfl ⟨Nat.le_of_ble_eq_true rfl, Nat.le_of_ble_eq_true rfl, Nat.le_of_ble_eq_true rfl, Nat.le_of_ble_eq_true rfl⟩ (Nat.le_of_ble_eq_true rfl) dX0_init_44 (fun u H locs hu w2 => ?_)
  clear w
  subst hu
  have w := w2
  clear w2
  refine cc_putF (ws' := [(h0, .inr (0, [.ref q1, .ref q2, .ref q3, .ref q4, .ref (u 0)])), (q1, zI D.2.1 144), (q2, zI D.2.1 144), (q3, zI D.2.1 144), (q4, zI D.2.1 100)] ++ wkX2 D.2.1 u) C w rfl fl_X0_27 tyX0_ok nmX0 rfl rfl rfl rfl (Nat.le_of_ble_eq_true rfl) rfl dX0_init_47 (fun H locs w => ?_)
  exact cc_ret (wX := wkX0) C w (fun k => ([h0, q1, q2, q3, q4, u 0, u 1, u 2, u 3] : List Nat).getD k 0) rfl rfl dX0_init_50
def wkX1 (cI : ClassId) (u : Nat → Nat) : va_W := [(u 0, .inr (1, [fb_z, fb_z, fb_z, fb_z, fb_z, .ref (u 1), .ref (u 2)])), (u 1, zI cI 144), (u 2, zI cI 144)]
theorem dfX1 : ∀ j, j < 7 → defaultValue (tyX1 j) = vp_V [fb_z, fb_z, fb_z, fb_z, fb_z, .null, .null] j := fun j hj => match j, hj with
  | 0, _ => rfl
  | 1, _ => rfl
  | 2, _ => rfl
  | 3, _ => rfl
  | 4, _ => rfl
  | 5, _ => rfl
  | 6, _ => rfl
  | n + 7, h => absurd h (by omega)
set_option maxHeartbeats 4000000 in
theorem ci_X1 (l : Launch) (D : fb_D0) (h0 : Nat) : cc_M l D yX1_init cX1_init { frames := 1, cells := 2, slots := 288, locals := 12 } h0 1 [fb_z, fb_z, fb_z, fb_z, fb_z, .null, .null] wkX1 2 288 := by
  refine cc_ofW (by decide) rfl rfl ?_
  intro p e s m args below meth c ls C hl w
  refine lv_aload_n C.1.1 C.1.2.1 dX1_init_0 rfl (lv_at hl 0 rfl) ?_
  refine cc_obj C mi_obj_X1 mo_inst mo_code hl.1 dX1_init_1 ⟨Nat.le_of_ble_eq_true rfl, Nat.le_of_ble_eq_true rfl⟩ ?_
  refine lv_aload_n C.1.1 C.1.2.1 dX1_init_4 rfl (lv_at hl 0 rfl) ?_
  refine lv_iconst (v := fb_I 0) C.1.1 C.1.2.1 dX1_init_5 (by decide) ?_
  refine cc_put (ws' := [(h0, .inr (1, [fb_z, fb_z, fb_z, fb_z, fb_z, .null, .null]))]) C w rfl fl_X1_9 tyX1_ok nmX1 rfl rfl rfl (Nat.le_of_ble_eq_true rfl) rfl dX1_init_6 (fun H locs w => ?_)
  refine lv_aload_n C.1.1 C.1.2.1 dX1_init_9 rfl (lv_at hl 0 rfl) ?_
  refine lv_iconst (v := fb_I 0) C.1.1 C.1.2.1 dX1_init_10 (by decide) ?_
  refine cc_put (ws' := [(h0, .inr (1, [fb_z, fb_z, fb_z, fb_z, fb_z, .null, .null]))]) C w rfl fl_X1_15 tyX1_ok nmX1 rfl rfl rfl (Nat.le_of_ble_eq_true rfl) rfl dX1_init_11 (fun H locs w => ?_)
  refine lv_aload_n C.1.1 C.1.2.1 dX1_init_14 rfl (lv_at hl 0 rfl) ?_
  refine lv_iconst (v := fb_I 0) C.1.1 C.1.2.1 dX1_init_15 (by decide) ?_
  refine cc_put (ws' := [(h0, .inr (1, [fb_z, fb_z, fb_z, fb_z, fb_z, .null, .null]))]) C w rfl fl_X1_19 tyX1_ok nmX1 rfl rfl rfl (Nat.le_of_ble_eq_true rfl) rfl dX1_init_16 (fun H locs w => ?_)
  refine lv_aload_n C.1.1 C.1.2.1 dX1_init_19 rfl (lv_at hl 0 rfl) ?_
  refine lv_iconst (v := fb_I 0) C.1.1 C.1.2.1 dX1_init_20 (by decide) ?_
  refine cc_put (ws' := [(h0, .inr (1, [fb_z, fb_z, fb_z, fb_z, fb_z, .null, .null]))]) C w rfl fl_X1_22 tyX1_ok nmX1 rfl rfl rfl (Nat.le_of_ble_eq_true rfl) rfl dX1_init_21 (fun H locs w => ?_)
  refine lv_aload_n C.1.1 C.1.2.1 dX1_init_24 rfl (lv_at hl 0 rfl) ?_
  refine lv_iconst (v := fb_I 0) C.1.1 C.1.2.1 dX1_init_25 (by decide) ?_
  refine cc_put (ws' := [(h0, .inr (1, [fb_z, fb_z, fb_z, fb_z, fb_z, .null, .null]))]) C w rfl fl_X1_25 tyX1_ok nmX1 rfl rfl rfl (Nat.le_of_ble_eq_true rfl) rfl dX1_init_26 (fun H locs w => ?_)
  refine lv_aload_n C.1.1 C.1.2.1 dX1_init_29 rfl (lv_at hl 0 rfl) ?_
  refine lv_sipush (v := fb_I (144 : Nat)) C.1.1 C.1.2.1 dX1_init_30 (by decide) ?_
  refine cc_newI C w cc_hA 144 ma_int rfl (cells' := 1) (slots' := 144) rfl rfl ⟨Nat.le_of_ble_eq_true rfl, Nat.le_of_ble_eq_true rfl⟩ dX1_init_33 (fun q1 H w => ?_)
  refine cc_putF (ws' := [(h0, .inr (1, [fb_z, fb_z, fb_z, fb_z, fb_z, .ref q1, .null])), (q1, zI D.2.1 144)]) C w rfl fl_X1_28 tyX1_ok nmX1 rfl rfl rfl rfl (Nat.le_of_ble_eq_true rfl) rfl dX1_init_35 (fun H locs w => ?_)
  refine lv_aload_n C.1.1 C.1.2.1 dX1_init_38 rfl (lv_at hl 0 rfl) ?_
  refine lv_sipush (v := fb_I (144 : Nat)) C.1.1 C.1.2.1 dX1_init_39 (by decide) ?_
  refine cc_newI C w cc_hA 144 ma_int rfl (cells' := 2) (slots' := 288) rfl rfl ⟨Nat.le_of_ble_eq_true rfl, Nat.le_of_ble_eq_true rfl⟩ dX1_init_42 (fun q2 H w => ?_)
  refine cc_putF (ws' := [(h0, .inr (1, [fb_z, fb_z, fb_z, fb_z, fb_z, .ref q1, .ref q2])), (q1, zI D.2.1 144), (q2, zI D.2.1 144)]) C w rfl fl_X1_32 tyX1_ok nmX1 rfl rfl rfl rfl (Nat.le_of_ble_eq_true rfl) rfl dX1_init_44 (fun H locs w => ?_)
  exact cc_ret (wX := wkX1) C w (fun k => ([h0, q1, q2] : List Nat).getD k 0) rfl rfl dX1_init_47
def wkX3 (cI : ClassId) (u : Nat → Nat) : va_W := [(u 0, .inr (3, [fb_z, .ref (u 1), .ref (u 2), .ref (u 3), .ref (u 4), .ref (u 5), .ref (u 6), .ref (u 7), .ref (u 8), .ref (u 9), .ref (u 10), .ref (u 11)])), (u 1, zI cI 144), (u 2, zI cI 100), (u 3, zI cI 100), (u 4, zI cI 100), (u 5, zI cI 100), (u 6, zI cI 100), (u 7, zI cI 99), (u 8, zI cI 99), (u 9, zI cI 99), (u 10, zI cI 99), (u 11, zI cI 144)]
theorem dfX3 : ∀ j, j < 12 → defaultValue (tyX3 j) = vp_V [fb_z, .null, .null, .null, .null, .null, .null, .null, .null, .null, .null, .null] j := fun j hj => match j, hj with
  | 0, _ => rfl
  | 1, _ => rfl
  | 2, _ => rfl
  | 3, _ => rfl
  | 4, _ => rfl
  | 5, _ => rfl
  | 6, _ => rfl
  | 7, _ => rfl
  | 8, _ => rfl
  | 9, _ => rfl
  | 10, _ => rfl
  | 11, _ => rfl
  | n + 12, h => absurd h (by omega)
set_option maxHeartbeats 4000000 in
theorem ci_X3 (l : Launch) (D : fb_D0) (h0 : Nat) : cc_M l D yX3_init cX3_init { frames := 1, cells := 11, slots := 1184, locals := 12 } h0 3 [fb_z, .null, .null, .null, .null, .null, .null, .null, .null, .null, .null, .null] wkX3 11 1184 := by
  refine cc_ofW (by decide) rfl rfl ?_
  intro p e s m args below meth c ls C hl w
  refine lv_aload_n C.1.1 C.1.2.1 dX3_init_0 rfl (lv_at hl 0 rfl) ?_
  refine cc_obj C mi_obj_X3 mo_inst mo_code hl.1 dX3_init_1 ⟨Nat.le_of_ble_eq_true rfl, Nat.le_of_ble_eq_true rfl⟩ ?_
  refine lv_aload_n C.1.1 C.1.2.1 dX3_init_4 rfl (lv_at hl 0 rfl) ?_
  refine lv_iconst (v := fb_I 0) C.1.1 C.1.2.1 dX3_init_5 (by decide) ?_
  refine cc_put (ws' := [(h0, .inr (3, [fb_z, .null, .null, .null, .null, .null, .null, .null, .null, .null, .null, .null]))]) C w rfl fl_X3_9 tyX3_ok nmX3 rfl rfl rfl (Nat.le_of_ble_eq_true rfl) rfl dX3_init_6 (fun H locs w => ?_)
  refine lv_aload_n C.1.1 C.1.2.1 dX3_init_9 rfl (lv_at hl 0 rfl) ?_
  refine lv_sipush (v := fb_I (144 : Nat)) C.1.1 C.1.2.1 dX3_init_10 (by decide) ?_
  refine cc_newI C w cc_hA 144 ma_int rfl (cells' := 1) (slots' := 144) rfl rfl ⟨Nat.le_of_ble_eq_true rfl, Nat.le_of_ble_eq_true rfl⟩ dX3_init_13 (fun q1 H w => ?_)
  refine cc_putF (ws' := [(h0, .inr (3, [fb_z, .ref q1, .null, .null, .null, .null, .null, .null, .null, .null, .null, .null])), (q1, zI D.2.1 144)]) C w rfl fl_X3_15 tyX3_ok nmX3 rfl rfl rfl rfl (Nat.le_of_ble_eq_true rfl) rfl dX3_init_15 (fun H locs w => ?_)
  refine lv_aload_n C.1.1 C.1.2.1 dX3_init_18 rfl (lv_at hl 0 rfl) ?_
  refine lv_bipush (v := fb_I (100 : Nat)) C.1.1 C.1.2.1 dX3_init_19 (by decide) ?_
  refine cc_newI C w cc_hA 100 ma_int rfl (cells' := 2) (slots' := 244) rfl rfl ⟨Nat.le_of_ble_eq_true rfl, Nat.le_of_ble_eq_true rfl⟩ dX3_init_21 (fun q2 H w => ?_)
  refine cc_putF (ws' := [(h0, .inr (3, [fb_z, .ref q1, .ref q2, .null, .null, .null, .null, .null, .null, .null, .null, .null])), (q1, zI D.2.1 144), (q2, zI D.2.1 100)]) C w rfl fl_X3_19 tyX3_ok nmX3 rfl rfl rfl rfl (Nat.le_of_ble_eq_true rfl) rfl dX3_init_23 (fun H locs w => ?_)
  refine lv_aload_n C.1.1 C.1.2.1 dX3_init_26 rfl (lv_at hl 0 rfl) ?_
  refine lv_bipush (v := fb_I (100 : Nat)) C.1.1 C.1.2.1 dX3_init_27 (by decide) ?_
  refine cc_newI C w cc_hA 100 ma_int rfl (cells' := 3) (slots' := 344) rfl rfl ⟨Nat.le_of_ble_eq_true rfl, Nat.le_of_ble_eq_true rfl⟩ dX3_init_29 (fun q3 H w => ?_)
  refine cc_putF (ws' := [(h0, .inr (3, [fb_z, .ref q1, .ref q2, .ref q3, .null, .null, .null, .null, .null, .null, .null, .null])), (q1, zI D.2.1 144), (q2, zI D.2.1 100), (q3, zI D.2.1 100)]) C w rfl fl_X3_22 tyX3_ok nmX3 rfl rfl rfl rfl (Nat.le_of_ble_eq_true rfl) rfl dX3_init_31 (fun H locs w => ?_)
  refine lv_aload_n C.1.1 C.1.2.1 dX3_init_34 rfl (lv_at hl 0 rfl) ?_
  refine lv_bipush (v := fb_I (100 : Nat)) C.1.1 C.1.2.1 dX3_init_35 (by decide) ?_
  refine cc_newI C w cc_hA 100 ma_int rfl (cells' := 4) (slots' := 444) rfl rfl ⟨Nat.le_of_ble_eq_true rfl, Nat.le_of_ble_eq_true rfl⟩ dX3_init_37 (fun q4 H w => ?_)
  refine cc_putF (ws' := [(h0, .inr (3, [fb_z, .ref q1, .ref q2, .ref q3, .ref q4, .null, .null, .null, .null, .null, .null, .null])), (q1, zI D.2.1 144), (q2, zI D.2.1 100), (q3, zI D.2.1 100), (q4, zI D.2.1 100)]) C w rfl fl_X3_25 tyX3_ok nmX3 rfl rfl rfl rfl (Nat.le_of_ble_eq_true rfl) rfl dX3_init_39 (fun H locs w => ?_)
  refine lv_aload_n C.1.1 C.1.2.1 dX3_init_42 rfl (lv_at hl 0 rfl) ?_
  refine lv_bipush (v := fb_I (100 : Nat)) C.1.1 C.1.2.1 dX3_init_43 (by decide) ?_
  refine cc_newI C w cc_hA 100 ma_int rfl (cells' := 5) (slots' := 544) rfl rfl ⟨Nat.le_of_ble_eq_true rfl, Nat.le_of_ble_eq_true rfl⟩ dX3_init_45 (fun q5 H w => ?_)
  refine cc_putF (ws' := [(h0, .inr (3, [fb_z, .ref q1, .ref q2, .ref q3, .ref q4, .ref q5, .null, .null, .null, .null, .null, .null])), (q1, zI D.2.1 144), (q2, zI D.2.1 100), (q3, zI D.2.1 100), (q4, zI D.2.1 100), (q5, zI D.2.1 100)]) C w rfl fl_X3_28 tyX3_ok nmX3 rfl rfl rfl rfl (Nat.le_of_ble_eq_true rfl) rfl dX3_init_47 (fun H locs w => ?_)
  refine lv_aload_n C.1.1 C.1.2.1 dX3_init_50 rfl (lv_at hl 0 rfl) ?_
  refine lv_bipush (v := fb_I (100 : Nat)) C.1.1 C.1.2.1 dX3_init_51 (by decide) ?_
  refine cc_newI C w cc_hA 100 ma_int rfl (cells' := 6) (slots' := 644) rfl rfl ⟨Nat.le_of_ble_eq_true rfl, Nat.le_of_ble_eq_true rfl⟩ dX3_init_53 (fun q6 H w => ?_)
  refine cc_putF (ws' := [(h0, .inr (3, [fb_z, .ref q1, .ref q2, .ref q3, .ref q4, .ref q5, .ref q6, .null, .null, .null, .null, .null])), (q1, zI D.2.1 144), (q2, zI D.2.1 100), (q3, zI D.2.1 100), (q4, zI D.2.1 100), (q5, zI D.2.1 100), (q6, zI D.2.1 100)]) C w rfl fl_X3_31 tyX3_ok nmX3 rfl rfl rfl rfl (Nat.le_of_ble_eq_true rfl) rfl dX3_init_55 (fun H locs w => ?_)
  refine lv_aload_n C.1.1 C.1.2.1 dX3_init_58 rfl (lv_at hl 0 rfl) ?_
  refine lv_bipush (v := fb_I (99 : Nat)) C.1.1 C.1.2.1 dX3_init_59 (by decide) ?_
  refine cc_newI C w cc_hA 99 ma_int rfl (cells' := 7) (slots' := 743) rfl rfl ⟨Nat.le_of_ble_eq_true rfl, Nat.le_of_ble_eq_true rfl⟩ dX3_init_61 (fun q7 H w => ?_)
  refine cc_putF (ws' := [(h0, .inr (3, [fb_z, .ref q1, .ref q2, .ref q3, .ref q4, .ref q5, .ref q6, .ref q7, .null, .null, .null, .null])), (q1, zI D.2.1 144), (q2, zI D.2.1 100), (q3, zI D.2.1 100), (q4, zI D.2.1 100), (q5, zI D.2.1 100), (q6, zI D.2.1 100), (q7, zI D.2.1 99)]) C w rfl fl_X3_34 tyX3_ok nmX3 rfl rfl rfl rfl (Nat.le_of_ble_eq_true rfl) rfl dX3_init_63 (fun H locs w => ?_)
  refine lv_aload_n C.1.1 C.1.2.1 dX3_init_66 rfl (lv_at hl 0 rfl) ?_
  refine lv_bipush (v := fb_I (99 : Nat)) C.1.1 C.1.2.1 dX3_init_67 (by decide) ?_
  refine cc_newI C w cc_hA 99 ma_int rfl (cells' := 8) (slots' := 842) rfl rfl ⟨Nat.le_of_ble_eq_true rfl, Nat.le_of_ble_eq_true rfl⟩ dX3_init_69 (fun q8 H w => ?_)
  refine cc_putF (ws' := [(h0, .inr (3, [fb_z, .ref q1, .ref q2, .ref q3, .ref q4, .ref q5, .ref q6, .ref q7, .ref q8, .null, .null, .null])), (q1, zI D.2.1 144), (q2, zI D.2.1 100), (q3, zI D.2.1 100), (q4, zI D.2.1 100), (q5, zI D.2.1 100), (q6, zI D.2.1 100), (q7, zI D.2.1 99), (q8, zI D.2.1 99)]) C w rfl fl_X3_37 tyX3_ok nmX3 rfl rfl rfl rfl (Nat.le_of_ble_eq_true rfl) rfl dX3_init_71 (fun H locs w => ?_)
  refine lv_aload_n C.1.1 C.1.2.1 dX3_init_74 rfl (lv_at hl 0 rfl) ?_
  refine lv_bipush (v := fb_I (99 : Nat)) C.1.1 C.1.2.1 dX3_init_75 (by decide) ?_
  refine cc_newI C w cc_hA 99 ma_int rfl (cells' := 9) (slots' := 941) rfl rfl ⟨Nat.le_of_ble_eq_true rfl, Nat.le_of_ble_eq_true rfl⟩ dX3_init_77 (fun q9 H w => ?_)
  refine cc_putF (ws' := [(h0, .inr (3, [fb_z, .ref q1, .ref q2, .ref q3, .ref q4, .ref q5, .ref q6, .ref q7, .ref q8, .ref q9, .null, .null])), (q1, zI D.2.1 144), (q2, zI D.2.1 100), (q3, zI D.2.1 100), (q4, zI D.2.1 100), (q5, zI D.2.1 100), (q6, zI D.2.1 100), (q7, zI D.2.1 99), (q8, zI D.2.1 99), (q9, zI D.2.1 99)]) C w rfl fl_X3_40 tyX3_ok nmX3 rfl rfl rfl rfl (Nat.le_of_ble_eq_true rfl) rfl dX3_init_79 (fun H locs w => ?_)
  refine lv_aload_n C.1.1 C.1.2.1 dX3_init_82 rfl (lv_at hl 0 rfl) ?_
  refine lv_bipush (v := fb_I (99 : Nat)) C.1.1 C.1.2.1 dX3_init_83 (by decide) ?_
  refine cc_newI C w cc_hA 99 ma_int rfl (cells' := 10) (slots' := 1040) rfl rfl ⟨Nat.le_of_ble_eq_true rfl, Nat.le_of_ble_eq_true rfl⟩ dX3_init_85 (fun q10 H w => ?_)
  refine cc_putF (ws' := [(h0, .inr (3, [fb_z, .ref q1, .ref q2, .ref q3, .ref q4, .ref q5, .ref q6, .ref q7, .ref q8, .ref q9, .ref q10, .null])), (q1, zI D.2.1 144), (q2, zI D.2.1 100), (q3, zI D.2.1 100), (q4, zI D.2.1 100), (q5, zI D.2.1 100), (q6, zI D.2.1 100), (q7, zI D.2.1 99), (q8, zI D.2.1 99), (q9, zI D.2.1 99), (q10, zI D.2.1 99)]) C w rfl fl_X3_43 tyX3_ok nmX3 rfl rfl rfl rfl (Nat.le_of_ble_eq_true rfl) rfl dX3_init_87 (fun H locs w => ?_)
  refine lv_aload_n C.1.1 C.1.2.1 dX3_init_90 rfl (lv_at hl 0 rfl) ?_
  refine lv_sipush (v := fb_I (144 : Nat)) C.1.1 C.1.2.1 dX3_init_91 (by decide) ?_
  refine cc_newI C w cc_hA 144 ma_int rfl (cells' := 11) (slots' := 1184) rfl rfl ⟨Nat.le_of_ble_eq_true rfl, Nat.le_of_ble_eq_true rfl⟩ dX3_init_94 (fun q11 H w => ?_)
  refine cc_putF (ws' := [(h0, .inr (3, [fb_z, .ref q1, .ref q2, .ref q3, .ref q4, .ref q5, .ref q6, .ref q7, .ref q8, .ref q9, .ref q10, .ref q11])), (q1, zI D.2.1 144), (q2, zI D.2.1 100), (q3, zI D.2.1 100), (q4, zI D.2.1 100), (q5, zI D.2.1 100), (q6, zI D.2.1 100), (q7, zI D.2.1 99), (q8, zI D.2.1 99), (q9, zI D.2.1 99), (q10, zI D.2.1 99), (q11, zI D.2.1 144)]) C w rfl fl_X3_46 tyX3_ok nmX3 rfl rfl rfl rfl (Nat.le_of_ble_eq_true rfl) rfl dX3_init_96 (fun H locs w => ?_)
  exact cc_ret (wX := wkX3) C w (fun k => ([h0, q1, q2, q3, q4, q5, q6, q7, q8, q9, q10, q11] : List Nat).getD k 0) rfl rfl dX3_init_99
def wkX4 (cI : ClassId) (u : Nat → Nat) : va_W := [(u 0, .inr (4, [fb_z, .ref (u 1), .ref (u 2)])), (u 1, zI cI 144), (u 2, zI cI 144)]
theorem dfX4 : ∀ j, j < 3 → defaultValue (tyX4 j) = vp_V [fb_z, .null, .null] j := fun j hj => match j, hj with
  | 0, _ => rfl
  | 1, _ => rfl
  | 2, _ => rfl
  | n + 3, h => absurd h (by omega)
set_option maxHeartbeats 4000000 in
theorem ci_X4 (l : Launch) (D : fb_D0) (h0 : Nat) : cc_M l D yX4_init cX4_init { frames := 1, cells := 2, slots := 288, locals := 12 } h0 4 [fb_z, .null, .null] wkX4 2 288 := by
  refine cc_ofW (by decide) rfl rfl ?_
  intro p e s m args below meth c ls C hl w
  refine lv_aload_n C.1.1 C.1.2.1 dX4_init_0 rfl (lv_at hl 0 rfl) ?_
  refine cc_obj C mi_obj_X4 mo_inst mo_code hl.1 dX4_init_1 ⟨Nat.le_of_ble_eq_true rfl, Nat.le_of_ble_eq_true rfl⟩ ?_
  refine lv_aload_n C.1.1 C.1.2.1 dX4_init_4 rfl (lv_at hl 0 rfl) ?_
  refine lv_iconst (v := fb_I 0) C.1.1 C.1.2.1 dX4_init_5 (by decide) ?_
  refine cc_put (ws' := [(h0, .inr (4, [fb_z, .null, .null]))]) C w rfl fl_X4_9 tyX4_ok nmX4 rfl rfl rfl (Nat.le_of_ble_eq_true rfl) rfl dX4_init_6 (fun H locs w => ?_)
  refine lv_aload_n C.1.1 C.1.2.1 dX4_init_9 rfl (lv_at hl 0 rfl) ?_
  refine lv_sipush (v := fb_I (144 : Nat)) C.1.1 C.1.2.1 dX4_init_10 (by decide) ?_
  refine cc_newI C w cc_hA 144 ma_int rfl (cells' := 1) (slots' := 144) rfl rfl ⟨Nat.le_of_ble_eq_true rfl, Nat.le_of_ble_eq_true rfl⟩ dX4_init_13 (fun q1 H w => ?_)
  refine cc_putF (ws' := [(h0, .inr (4, [fb_z, .ref q1, .null])), (q1, zI D.2.1 144)]) C w rfl fl_X4_15 tyX4_ok nmX4 rfl rfl rfl rfl (Nat.le_of_ble_eq_true rfl) rfl dX4_init_15 (fun H locs w => ?_)
  refine lv_aload_n C.1.1 C.1.2.1 dX4_init_18 rfl (lv_at hl 0 rfl) ?_
  refine lv_sipush (v := fb_I (144 : Nat)) C.1.1 C.1.2.1 dX4_init_19 (by decide) ?_
  refine cc_newI C w cc_hA 144 ma_int rfl (cells' := 2) (slots' := 288) rfl rfl ⟨Nat.le_of_ble_eq_true rfl, Nat.le_of_ble_eq_true rfl⟩ dX4_init_22 (fun q2 H w => ?_)
  refine cc_putF (ws' := [(h0, .inr (4, [fb_z, .ref q1, .ref q2])), (q1, zI D.2.1 144), (q2, zI D.2.1 144)]) C w rfl fl_X4_19 tyX4_ok nmX4 rfl rfl rfl rfl (Nat.le_of_ble_eq_true rfl) rfl dX4_init_24 (fun H locs w => ?_)
  exact cc_ret (wX := wkX4) C w (fun k => ([h0, q1, q2] : List Nat).getD k 0) rfl rfl dX4_init_27
def wkX5 (cI : ClassId) (u : Nat → Nat) : va_W := [(u 0, .inr (5, [fb_z, fb_z, fb_z, .ref (u 1), .ref (u 2), .ref (u 3)])), (u 1, zI cI 144), (u 2, zI cI 144), (u 3, zI cI 576)]
theorem dfX5 : ∀ j, j < 6 → defaultValue (tyX5 j) = vp_V [fb_z, fb_z, fb_z, .null, .null, .null] j := fun j hj => match j, hj with
  | 0, _ => rfl
  | 1, _ => rfl
  | 2, _ => rfl
  | 3, _ => rfl
  | 4, _ => rfl
  | 5, _ => rfl
  | n + 6, h => absurd h (by omega)
set_option maxHeartbeats 4000000 in
theorem ci_X5 (l : Launch) (D : fb_D0) (h0 : Nat) : cc_M l D yX5_init cX5_init { frames := 1, cells := 3, slots := 864, locals := 12 } h0 5 [fb_z, fb_z, fb_z, .null, .null, .null] wkX5 3 864 := by
  refine cc_ofW (by decide) rfl rfl ?_
  intro p e s m args below meth c ls C hl w
  refine lv_aload_n C.1.1 C.1.2.1 dX5_init_0 rfl (lv_at hl 0 rfl) ?_
  refine cc_obj C mi_obj_X5 mo_inst mo_code hl.1 dX5_init_1 ⟨Nat.le_of_ble_eq_true rfl, Nat.le_of_ble_eq_true rfl⟩ ?_
  refine lv_aload_n C.1.1 C.1.2.1 dX5_init_4 rfl (lv_at hl 0 rfl) ?_
  refine lv_iconst (v := fb_I 0) C.1.1 C.1.2.1 dX5_init_5 (by decide) ?_
  refine cc_put (ws' := [(h0, .inr (5, [fb_z, fb_z, fb_z, .null, .null, .null]))]) C w rfl fl_X5_9 tyX5_ok nmX5 rfl rfl rfl (Nat.le_of_ble_eq_true rfl) rfl dX5_init_6 (fun H locs w => ?_)
  refine lv_aload_n C.1.1 C.1.2.1 dX5_init_9 rfl (lv_at hl 0 rfl) ?_
  refine lv_iconst (v := fb_I 0) C.1.1 C.1.2.1 dX5_init_10 (by decide) ?_
  refine cc_put (ws' := [(h0, .inr (5, [fb_z, fb_z, fb_z, .null, .null, .null]))]) C w rfl fl_X5_15 tyX5_ok nmX5 rfl rfl rfl (Nat.le_of_ble_eq_true rfl) rfl dX5_init_11 (fun H locs w => ?_)
  refine lv_aload_n C.1.1 C.1.2.1 dX5_init_14 rfl (lv_at hl 0 rfl) ?_
  refine lv_iconst (v := fb_I 0) C.1.1 C.1.2.1 dX5_init_15 (by decide) ?_
  refine cc_put (ws' := [(h0, .inr (5, [fb_z, fb_z, fb_z, .null, .null, .null]))]) C w rfl fl_X5_18 tyX5_ok nmX5 rfl rfl rfl (Nat.le_of_ble_eq_true rfl) rfl dX5_init_16 (fun H locs w => ?_)
  refine lv_aload_n C.1.1 C.1.2.1 dX5_init_19 rfl (lv_at hl 0 rfl) ?_
  refine lv_sipush (v := fb_I (144 : Nat)) C.1.1 C.1.2.1 dX5_init_20 (by decide) ?_
  refine cc_newI C w cc_hA 144 ma_int rfl (cells' := 1) (slots' := 144) rfl rfl ⟨Nat.le_of_ble_eq_true rfl, Nat.le_of_ble_eq_true rfl⟩ dX5_init_23 (fun q1 H w => ?_)
  refine cc_putF (ws' := [(h0, .inr (5, [fb_z, fb_z, fb_z, .ref q1, .null, .null])), (q1, zI D.2.1 144)]) C w rfl fl_X5_21 tyX5_ok nmX5 rfl rfl rfl rfl (Nat.le_of_ble_eq_true rfl) rfl dX5_init_25 (fun H locs w => ?_)
  refine lv_aload_n C.1.1 C.1.2.1 dX5_init_28 rfl (lv_at hl 0 rfl) ?_
  refine lv_sipush (v := fb_I (144 : Nat)) C.1.1 C.1.2.1 dX5_init_29 (by decide) ?_
  refine cc_newI C w cc_hA 144 ma_int rfl (cells' := 2) (slots' := 288) rfl rfl ⟨Nat.le_of_ble_eq_true rfl, Nat.le_of_ble_eq_true rfl⟩ dX5_init_32 (fun q2 H w => ?_)
  refine cc_putF (ws' := [(h0, .inr (5, [fb_z, fb_z, fb_z, .ref q1, .ref q2, .null])), (q1, zI D.2.1 144), (q2, zI D.2.1 144)]) C w rfl fl_X5_25 tyX5_ok nmX5 rfl rfl rfl rfl (Nat.le_of_ble_eq_true rfl) rfl dX5_init_34 (fun H locs w => ?_)
  refine lv_aload_n C.1.1 C.1.2.1 dX5_init_37 rfl (lv_at hl 0 rfl) ?_
  refine lv_sipush (v := fb_I (576 : Nat)) C.1.1 C.1.2.1 dX5_init_38 (by decide) ?_
  refine cc_newI C w cc_hA 576 ma_int rfl (cells' := 3) (slots' := 864) rfl rfl ⟨Nat.le_of_ble_eq_true rfl, Nat.le_of_ble_eq_true rfl⟩ dX5_init_41 (fun q3 H w => ?_)
  refine cc_putF (ws' := [(h0, .inr (5, [fb_z, fb_z, fb_z, .ref q1, .ref q2, .ref q3])), (q1, zI D.2.1 144), (q2, zI D.2.1 144), (q3, zI D.2.1 576)]) C w rfl fl_X5_28 tyX5_ok nmX5 rfl rfl rfl rfl (Nat.le_of_ble_eq_true rfl) rfl dX5_init_43 (fun H locs w => ?_)
  exact cc_ret (wX := wkX5) C w (fun k => ([h0, q1, q2, q3] : List Nat).getD k 0) rfl rfl dX5_init_46
def md0_ : Int → Int := fun q => if q = 289 then 8 else if q = 288 then 8 else 0
def wkX7 (cZ cI : ClassId) (u : Nat → Nat) : va_W := [(u 0, .inr (7, [.ref (u 1), .ref (u 2), .ref (u 3), .ref (u 4), .ref (u 5), .ref (u 6), .ref (u 7), .ref (u 8), .ref (u 9), .ref (u 10), .ref (u 11), fb_z, .ref (u 12), .ref (u 13), .ref (u 14), .ref (u 15), .ref (u 16), fb_z, .ref (u 17), .ref (u 18)])), (u 1, .inl (cI, 292, .inl fun j => fb_I (md0_ (j : Int)))), (u 2, zI cI 584), (u 3, zI cZ 2), (u 4, zI cI 144), (u 5, zI cI 144), (u 6, zI cZ 144), (u 7, zI cI 144), (u 8, zI cI 144), (u 9, zI cI 144), (u 10, zI cI 144), (u 11, zI cZ 144), (u 12, zI cI 144), (u 13, zI cI 100), (u 14, zI cI 100), (u 15, zI cI 100), (u 16, zI cI 100), (u 17, zI cI 100), (u 18, zI cI 144)]
theorem dfX7 : ∀ j, j < 20 → defaultValue (tyX7 j) = vp_V [.null, .null, .null, .null, .null, .null, .null, .null, .null, .null, .null, fb_z, .null, .null, .null, .null, .null, fb_z, .null, .null] j := fun j hj => match j, hj with
  | 0, _ => rfl
  | 1, _ => rfl
  | 2, _ => rfl
  | 3, _ => rfl
  | 4, _ => rfl
  | 5, _ => rfl
  | 6, _ => rfl
  | 7, _ => rfl
  | 8, _ => rfl
  | 9, _ => rfl
  | 10, _ => rfl
  | 11, _ => rfl
  | 12, _ => rfl
  | 13, _ => rfl
  | 14, _ => rfl
  | 15, _ => rfl
  | 16, _ => rfl
  | 17, _ => rfl
  | 18, _ => rfl
  | 19, _ => rfl
  | n + 20, h => absurd h (by omega)
set_option maxHeartbeats 4000000 in
theorem ci_X7 (l : Launch) (D : fb_D0) (h0 : Nat) : cc_M l D yX7_init cX7_init { frames := 1, cells := 18, slots := 2818, locals := 12 } h0 7 [.null, .null, .null, .null, .null, .null, .null, .null, .null, .null, .null, fb_z, .null, .null, .null, .null, .null, fb_z, .null, .null] (wkX7 D.2.2.1) 18 2818 := by
  refine cc_ofW (by decide) rfl rfl ?_
  intro p e s m args below meth c ls C hl w
  refine lv_aload_n C.1.1 C.1.2.1 dX7_init_0 rfl (lv_at hl 0 rfl) ?_
  refine cc_obj C mi_obj_X7 mo_inst mo_code hl.1 dX7_init_1 ⟨Nat.le_of_ble_eq_true rfl, Nat.le_of_ble_eq_true rfl⟩ ?_
  refine lv_aload_n C.1.1 C.1.2.1 dX7_init_4 rfl (lv_at hl 0 rfl) ?_
  refine lv_sipush (v := fb_I (292 : Nat)) C.1.1 C.1.2.1 dX7_init_5 (by decide) ?_
  refine cc_newI C w cc_hA 292 ma_int rfl (cells' := 1) (slots' := 292) rfl rfl ⟨Nat.le_of_ble_eq_true rfl, Nat.le_of_ble_eq_true rfl⟩ dX7_init_8 (fun q1 H w => ?_)
  refine cc_putF (ws' := [(h0, .inr (7, [.ref q1, .null, .null, .null, .null, .null, .null, .null, .null, .null, .null, fb_z, .null, .null, .null, .null, .null, fb_z, .null, .null])), (q1, zI D.2.1 292)]) C w rfl fl_X7_7 tyX7_ok nmX7 rfl rfl rfl rfl (Nat.le_of_ble_eq_true rfl) rfl dX7_init_10 (fun H locs w => ?_)
  refine lv_aload_n C.1.1 C.1.2.1 dX7_init_13 rfl (lv_at hl 0 rfl) ?_
  refine lv_sipush (v := fb_I (584 : Nat)) C.1.1 C.1.2.1 dX7_init_14 (by decide) ?_
  refine cc_newI C w cc_hA 584 ma_int rfl (cells' := 2) (slots' := 876) rfl rfl ⟨Nat.le_of_ble_eq_true rfl, Nat.le_of_ble_eq_true rfl⟩ dX7_init_17 (fun q2 H w => ?_)
  refine cc_putF (ws' := [(h0, .inr (7, [.ref q1, .ref q2, .null, .null, .null, .null, .null, .null, .null, .null, .null, fb_z, .null, .null, .null, .null, .null, fb_z, .null, .null])), (q1, zI D.2.1 292), (q2, zI D.2.1 584)]) C w rfl fl_X7_13 tyX7_ok nmX7 rfl rfl rfl rfl (Nat.le_of_ble_eq_true rfl) rfl dX7_init_19 (fun H locs w => ?_)
  refine lv_aload_n C.1.1 C.1.2.1 dX7_init_22 rfl (lv_at hl 0 rfl) ?_
  refine lv_iconst (v := fb_I (2 : Nat)) C.1.1 C.1.2.1 dX7_init_23 (by decide) ?_
  refine cc_newZ C w cc_hA 2 ma_bool rfl (cells' := 3) (slots' := 878) rfl rfl ⟨Nat.le_of_ble_eq_true rfl, Nat.le_of_ble_eq_true rfl⟩ dX7_init_24 (fun q3 H w => ?_)
  refine cc_putF (ws' := [(h0, .inr (7, [.ref q1, .ref q2, .ref q3, .null, .null, .null, .null, .null, .null, .null, .null, fb_z, .null, .null, .null, .null, .null, fb_z, .null, .null])), (q1, zI D.2.1 292), (q2, zI D.2.1 584), (q3, zI D.2.2.1 2)]) C w rfl fl_X7_16 tyX7_ok nmX7 rfl rfl rfl rfl (Nat.le_of_ble_eq_true rfl) rfl dX7_init_26 (fun H locs w => ?_)
  refine lv_aload_n C.1.1 C.1.2.1 dX7_init_29 rfl (lv_at hl 0 rfl) ?_
  refine lv_sipush (v := fb_I (144 : Nat)) C.1.1 C.1.2.1 dX7_init_30 (by decide) ?_
  refine cc_newI C w cc_hA 144 ma_int rfl (cells' := 4) (slots' := 1022) rfl rfl ⟨Nat.le_of_ble_eq_true rfl, Nat.le_of_ble_eq_true rfl⟩ dX7_init_33 (fun q4 H w => ?_)
  refine cc_putF (ws' := [(h0, .inr (7, [.ref q1, .ref q2, .ref q3, .ref q4, .null, .null, .null, .null, .null, .null, .null, fb_z, .null, .null, .null, .null, .null, fb_z, .null, .null])), (q1, zI D.2.1 292), (q2, zI D.2.1 584), (q3, zI D.2.2.1 2), (q4, zI D.2.1 144)]) C w rfl fl_X7_20 tyX7_ok nmX7 rfl rfl rfl rfl (Nat.le_of_ble_eq_true rfl) rfl dX7_init_35 (fun H locs w => ?_)
  refine lv_aload_n C.1.1 C.1.2.1 dX7_init_38 rfl (lv_at hl 0 rfl) ?_
  refine lv_sipush (v := fb_I (144 : Nat)) C.1.1 C.1.2.1 dX7_init_39 (by decide) ?_
  refine cc_newI C w cc_hA 144 ma_int rfl (cells' := 5) (slots' := 1166) rfl rfl ⟨Nat.le_of_ble_eq_true rfl, Nat.le_of_ble_eq_true rfl⟩ dX7_init_42 (fun q5 H w => ?_)
  refine cc_putF (ws' := [(h0, .inr (7, [.ref q1, .ref q2, .ref q3, .ref q4, .ref q5, .null, .null, .null, .null, .null, .null, fb_z, .null, .null, .null, .null, .null, fb_z, .null, .null])), (q1, zI D.2.1 292), (q2, zI D.2.1 584), (q3, zI D.2.2.1 2), (q4, zI D.2.1 144), (q5, zI D.2.1 144)]) C w rfl fl_X7_23 tyX7_ok nmX7 rfl rfl rfl rfl (Nat.le_of_ble_eq_true rfl) rfl dX7_init_44 (fun H locs w => ?_)
  refine lv_aload_n C.1.1 C.1.2.1 dX7_init_47 rfl (lv_at hl 0 rfl) ?_
  refine lv_sipush (v := fb_I (144 : Nat)) C.1.1 C.1.2.1 dX7_init_48 (by decide) ?_
  refine cc_newZ C w cc_hA 144 ma_bool rfl (cells' := 6) (slots' := 1310) rfl rfl ⟨Nat.le_of_ble_eq_true rfl, Nat.le_of_ble_eq_true rfl⟩ dX7_init_51 (fun q6 H w => ?_)
  refine cc_putF (ws' := [(h0, .inr (7, [.ref q1, .ref q2, .ref q3, .ref q4, .ref q5, .ref q6, .null, .null, .null, .null, .null, fb_z, .null, .null, .null, .null, .null, fb_z, .null, .null])), (q1, zI D.2.1 292), (q2, zI D.2.1 584), (q3, zI D.2.2.1 2), (q4, zI D.2.1 144), (q5, zI D.2.1 144), (q6, zI D.2.2.1 144)]) C w rfl fl_X7_26 tyX7_ok nmX7 rfl rfl rfl rfl (Nat.le_of_ble_eq_true rfl) rfl dX7_init_53 (fun H locs w => ?_)
  refine lv_aload_n C.1.1 C.1.2.1 dX7_init_56 rfl (lv_at hl 0 rfl) ?_
  refine lv_sipush (v := fb_I (144 : Nat)) C.1.1 C.1.2.1 dX7_init_57 (by decide) ?_
  refine cc_newI C w cc_hA 144 ma_int rfl (cells' := 7) (slots' := 1454) rfl rfl ⟨Nat.le_of_ble_eq_true rfl, Nat.le_of_ble_eq_true rfl⟩ dX7_init_60 (fun q7 H w => ?_)
  refine cc_putF (ws' := [(h0, .inr (7, [.ref q1, .ref q2, .ref q3, .ref q4, .ref q5, .ref q6, .ref q7, .null, .null, .null, .null, fb_z, .null, .null, .null, .null, .null, fb_z, .null, .null])), (q1, zI D.2.1 292), (q2, zI D.2.1 584), (q3, zI D.2.2.1 2), (q4, zI D.2.1 144), (q5, zI D.2.1 144), (q6, zI D.2.2.1 144), (q7, zI D.2.1 144)]) C w rfl fl_X7_29 tyX7_ok nmX7 rfl rfl rfl rfl (Nat.le_of_ble_eq_true rfl) rfl dX7_init_62 (fun H locs w => ?_)
  refine lv_aload_n C.1.1 C.1.2.1 dX7_init_65 rfl (lv_at hl 0 rfl) ?_
  refine lv_sipush (v := fb_I (144 : Nat)) C.1.1 C.1.2.1 dX7_init_66 (by decide) ?_
  refine cc_newI C w cc_hA 144 ma_int rfl (cells' := 8) (slots' := 1598) rfl rfl ⟨Nat.le_of_ble_eq_true rfl, Nat.le_of_ble_eq_true rfl⟩ dX7_init_69 (fun q8 H w => ?_)
  refine cc_putF (ws' := [(h0, .inr (7, [.ref q1, .ref q2, .ref q3, .ref q4, .ref q5, .ref q6, .ref q7, .ref q8, .null, .null, .null, fb_z, .null, .null, .null, .null, .null, fb_z, .null, .null])), (q1, zI D.2.1 292), (q2, zI D.2.1 584), (q3, zI D.2.2.1 2), (q4, zI D.2.1 144), (q5, zI D.2.1 144), (q6, zI D.2.2.1 144), (q7, zI D.2.1 144), (q8, zI D.2.1 144)]) C w rfl fl_X7_32 tyX7_ok nmX7 rfl rfl rfl rfl (Nat.le_of_ble_eq_true rfl) rfl dX7_init_71 (fun H locs w => ?_)
  refine lv_aload_n C.1.1 C.1.2.1 dX7_init_74 rfl (lv_at hl 0 rfl) ?_
  refine lv_sipush (v := fb_I (144 : Nat)) C.1.1 C.1.2.1 dX7_init_75 (by decide) ?_
  refine cc_newI C w cc_hA 144 ma_int rfl (cells' := 9) (slots' := 1742) rfl rfl ⟨Nat.le_of_ble_eq_true rfl, Nat.le_of_ble_eq_true rfl⟩ dX7_init_78 (fun q9 H w => ?_)
  refine cc_putF (ws' := [(h0, .inr (7, [.ref q1, .ref q2, .ref q3, .ref q4, .ref q5, .ref q6, .ref q7, .ref q8, .ref q9, .null, .null, fb_z, .null, .null, .null, .null, .null, fb_z, .null, .null])), (q1, zI D.2.1 292), (q2, zI D.2.1 584), (q3, zI D.2.2.1 2), (q4, zI D.2.1 144), (q5, zI D.2.1 144), (q6, zI D.2.2.1 144), (q7, zI D.2.1 144), (q8, zI D.2.1 144), (q9, zI D.2.1 144)]) C w rfl fl_X7_35 tyX7_ok nmX7 rfl rfl rfl rfl (Nat.le_of_ble_eq_true rfl) rfl dX7_init_80 (fun H locs w => ?_)
  refine lv_aload_n C.1.1 C.1.2.1 dX7_init_83 rfl (lv_at hl 0 rfl) ?_
  refine lv_sipush (v := fb_I (144 : Nat)) C.1.1 C.1.2.1 dX7_init_84 (by decide) ?_
  refine cc_newI C w cc_hA 144 ma_int rfl (cells' := 10) (slots' := 1886) rfl rfl ⟨Nat.le_of_ble_eq_true rfl, Nat.le_of_ble_eq_true rfl⟩ dX7_init_87 (fun q10 H w => ?_)
  refine cc_putF (ws' := [(h0, .inr (7, [.ref q1, .ref q2, .ref q3, .ref q4, .ref q5, .ref q6, .ref q7, .ref q8, .ref q9, .ref q10, .null, fb_z, .null, .null, .null, .null, .null, fb_z, .null, .null])), (q1, zI D.2.1 292), (q2, zI D.2.1 584), (q3, zI D.2.2.1 2), (q4, zI D.2.1 144), (q5, zI D.2.1 144), (q6, zI D.2.2.1 144), (q7, zI D.2.1 144), (q8, zI D.2.1 144), (q9, zI D.2.1 144), (q10, zI D.2.1 144)]) C w rfl fl_X7_38 tyX7_ok nmX7 rfl rfl rfl rfl (Nat.le_of_ble_eq_true rfl) rfl dX7_init_89 (fun H locs w => ?_)
  refine lv_aload_n C.1.1 C.1.2.1 dX7_init_92 rfl (lv_at hl 0 rfl) ?_
  refine lv_sipush (v := fb_I (144 : Nat)) C.1.1 C.1.2.1 dX7_init_93 (by decide) ?_
  refine cc_newZ C w cc_hA 144 ma_bool rfl (cells' := 11) (slots' := 2030) rfl rfl ⟨Nat.le_of_ble_eq_true rfl, Nat.le_of_ble_eq_true rfl⟩ dX7_init_96 (fun q11 H w => ?_)
  refine cc_putF (ws' := [(h0, .inr (7, [.ref q1, .ref q2, .ref q3, .ref q4, .ref q5, .ref q6, .ref q7, .ref q8, .ref q9, .ref q10, .ref q11, fb_z, .null, .null, .null, .null, .null, fb_z, .null, .null])), (q1, zI D.2.1 292), (q2, zI D.2.1 584), (q3, zI D.2.2.1 2), (q4, zI D.2.1 144), (q5, zI D.2.1 144), (q6, zI D.2.2.1 144), (q7, zI D.2.1 144), (q8, zI D.2.1 144), (q9, zI D.2.1 144), (q10, zI D.2.1 144), (q11, zI D.2.2.1 144)]) C w rfl fl_X7_41 tyX7_ok nmX7 rfl rfl rfl rfl (Nat.le_of_ble_eq_true rfl) rfl dX7_init_98 (fun H locs w => ?_)
  refine lv_aload_n C.1.1 C.1.2.1 dX7_init_101 rfl (lv_at hl 0 rfl) ?_
  refine lv_sipush (v := fb_I (144 : Nat)) C.1.1 C.1.2.1 dX7_init_102 (by decide) ?_
  refine cc_newI C w cc_hA 144 ma_int rfl (cells' := 12) (slots' := 2174) rfl rfl ⟨Nat.le_of_ble_eq_true rfl, Nat.le_of_ble_eq_true rfl⟩ dX7_init_105 (fun q12 H w => ?_)
  refine cc_putF (ws' := [(h0, .inr (7, [.ref q1, .ref q2, .ref q3, .ref q4, .ref q5, .ref q6, .ref q7, .ref q8, .ref q9, .ref q10, .ref q11, fb_z, .ref q12, .null, .null, .null, .null, fb_z, .null, .null])), (q1, zI D.2.1 292), (q2, zI D.2.1 584), (q3, zI D.2.2.1 2), (q4, zI D.2.1 144), (q5, zI D.2.1 144), (q6, zI D.2.2.1 144), (q7, zI D.2.1 144), (q8, zI D.2.1 144), (q9, zI D.2.1 144), (q10, zI D.2.1 144), (q11, zI D.2.2.1 144), (q12, zI D.2.1 144)]) C w rfl fl_X7_44 tyX7_ok nmX7 rfl rfl rfl rfl (Nat.le_of_ble_eq_true rfl) rfl dX7_init_107 (fun H locs w => ?_)
  refine lv_aload_n C.1.1 C.1.2.1 dX7_init_110 rfl (lv_at hl 0 rfl) ?_
  refine lv_bipush (v := fb_I (100 : Nat)) C.1.1 C.1.2.1 dX7_init_111 (by decide) ?_
  refine cc_newI C w cc_hA 100 ma_int rfl (cells' := 13) (slots' := 2274) rfl rfl ⟨Nat.le_of_ble_eq_true rfl, Nat.le_of_ble_eq_true rfl⟩ dX7_init_113 (fun q13 H w => ?_)
  refine cc_putF (ws' := [(h0, .inr (7, [.ref q1, .ref q2, .ref q3, .ref q4, .ref q5, .ref q6, .ref q7, .ref q8, .ref q9, .ref q10, .ref q11, fb_z, .ref q12, .ref q13, .null, .null, .null, fb_z, .null, .null])), (q1, zI D.2.1 292), (q2, zI D.2.1 584), (q3, zI D.2.2.1 2), (q4, zI D.2.1 144), (q5, zI D.2.1 144), (q6, zI D.2.2.1 144), (q7, zI D.2.1 144), (q8, zI D.2.1 144), (q9, zI D.2.1 144), (q10, zI D.2.1 144), (q11, zI D.2.2.1 144), (q12, zI D.2.1 144), (q13, zI D.2.1 100)]) C w rfl fl_X7_47 tyX7_ok nmX7 rfl rfl rfl rfl (Nat.le_of_ble_eq_true rfl) rfl dX7_init_115 (fun H locs w => ?_)
  refine lv_aload_n C.1.1 C.1.2.1 dX7_init_118 rfl (lv_at hl 0 rfl) ?_
  refine lv_bipush (v := fb_I (100 : Nat)) C.1.1 C.1.2.1 dX7_init_119 (by decide) ?_
  refine cc_newI C w cc_hA 100 ma_int rfl (cells' := 14) (slots' := 2374) rfl rfl ⟨Nat.le_of_ble_eq_true rfl, Nat.le_of_ble_eq_true rfl⟩ dX7_init_121 (fun q14 H w => ?_)
  refine cc_putF (ws' := [(h0, .inr (7, [.ref q1, .ref q2, .ref q3, .ref q4, .ref q5, .ref q6, .ref q7, .ref q8, .ref q9, .ref q10, .ref q11, fb_z, .ref q12, .ref q13, .ref q14, .null, .null, fb_z, .null, .null])), (q1, zI D.2.1 292), (q2, zI D.2.1 584), (q3, zI D.2.2.1 2), (q4, zI D.2.1 144), (q5, zI D.2.1 144), (q6, zI D.2.2.1 144), (q7, zI D.2.1 144), (q8, zI D.2.1 144), (q9, zI D.2.1 144), (q10, zI D.2.1 144), (q11, zI D.2.2.1 144), (q12, zI D.2.1 144), (q13, zI D.2.1 100), (q14, zI D.2.1 100)]) C w rfl fl_X7_50 tyX7_ok nmX7 rfl rfl rfl rfl (Nat.le_of_ble_eq_true rfl) rfl dX7_init_123 (fun H locs w => ?_)
  refine lv_aload_n C.1.1 C.1.2.1 dX7_init_126 rfl (lv_at hl 0 rfl) ?_
  refine lv_bipush (v := fb_I (100 : Nat)) C.1.1 C.1.2.1 dX7_init_127 (by decide) ?_
  refine cc_newI C w cc_hA 100 ma_int rfl (cells' := 15) (slots' := 2474) rfl rfl ⟨Nat.le_of_ble_eq_true rfl, Nat.le_of_ble_eq_true rfl⟩ dX7_init_129 (fun q15 H w => ?_)
  refine cc_putF (ws' := [(h0, .inr (7, [.ref q1, .ref q2, .ref q3, .ref q4, .ref q5, .ref q6, .ref q7, .ref q8, .ref q9, .ref q10, .ref q11, fb_z, .ref q12, .ref q13, .ref q14, .ref q15, .null, fb_z, .null, .null])), (q1, zI D.2.1 292), (q2, zI D.2.1 584), (q3, zI D.2.2.1 2), (q4, zI D.2.1 144), (q5, zI D.2.1 144), (q6, zI D.2.2.1 144), (q7, zI D.2.1 144), (q8, zI D.2.1 144), (q9, zI D.2.1 144), (q10, zI D.2.1 144), (q11, zI D.2.2.1 144), (q12, zI D.2.1 144), (q13, zI D.2.1 100), (q14, zI D.2.1 100), (q15, zI D.2.1 100)]) C w rfl fl_X7_53 tyX7_ok nmX7 rfl rfl rfl rfl (Nat.le_of_ble_eq_true rfl) rfl dX7_init_131 (fun H locs w => ?_)
  refine lv_aload_n C.1.1 C.1.2.1 dX7_init_134 rfl (lv_at hl 0 rfl) ?_
  refine lv_bipush (v := fb_I (100 : Nat)) C.1.1 C.1.2.1 dX7_init_135 (by decide) ?_
  refine cc_newI C w cc_hA 100 ma_int rfl (cells' := 16) (slots' := 2574) rfl rfl ⟨Nat.le_of_ble_eq_true rfl, Nat.le_of_ble_eq_true rfl⟩ dX7_init_137 (fun q16 H w => ?_)
  refine cc_putF (ws' := [(h0, .inr (7, [.ref q1, .ref q2, .ref q3, .ref q4, .ref q5, .ref q6, .ref q7, .ref q8, .ref q9, .ref q10, .ref q11, fb_z, .ref q12, .ref q13, .ref q14, .ref q15, .ref q16, fb_z, .null, .null])), (q1, zI D.2.1 292), (q2, zI D.2.1 584), (q3, zI D.2.2.1 2), (q4, zI D.2.1 144), (q5, zI D.2.1 144), (q6, zI D.2.2.1 144), (q7, zI D.2.1 144), (q8, zI D.2.1 144), (q9, zI D.2.1 144), (q10, zI D.2.1 144), (q11, zI D.2.2.1 144), (q12, zI D.2.1 144), (q13, zI D.2.1 100), (q14, zI D.2.1 100), (q15, zI D.2.1 100), (q16, zI D.2.1 100)]) C w rfl fl_X7_56 tyX7_ok nmX7 rfl rfl rfl rfl (Nat.le_of_ble_eq_true rfl) rfl dX7_init_139 (fun H locs w => ?_)
  refine lv_aload_n C.1.1 C.1.2.1 dX7_init_142 rfl (lv_at hl 0 rfl) ?_
  refine lv_bipush (v := fb_I (100 : Nat)) C.1.1 C.1.2.1 dX7_init_143 (by decide) ?_
  refine cc_newI C w cc_hA 100 ma_int rfl (cells' := 17) (slots' := 2674) rfl rfl ⟨Nat.le_of_ble_eq_true rfl, Nat.le_of_ble_eq_true rfl⟩ dX7_init_145 (fun q17 H w => ?_)
  refine cc_putF (ws' := [(h0, .inr (7, [.ref q1, .ref q2, .ref q3, .ref q4, .ref q5, .ref q6, .ref q7, .ref q8, .ref q9, .ref q10, .ref q11, fb_z, .ref q12, .ref q13, .ref q14, .ref q15, .ref q16, fb_z, .ref q17, .null])), (q1, zI D.2.1 292), (q2, zI D.2.1 584), (q3, zI D.2.2.1 2), (q4, zI D.2.1 144), (q5, zI D.2.1 144), (q6, zI D.2.2.1 144), (q7, zI D.2.1 144), (q8, zI D.2.1 144), (q9, zI D.2.1 144), (q10, zI D.2.1 144), (q11, zI D.2.2.1 144), (q12, zI D.2.1 144), (q13, zI D.2.1 100), (q14, zI D.2.1 100), (q15, zI D.2.1 100), (q16, zI D.2.1 100), (q17, zI D.2.1 100)]) C w rfl fl_X7_59 tyX7_ok nmX7 rfl rfl rfl rfl (Nat.le_of_ble_eq_true rfl) rfl dX7_init_147 (fun H locs w => ?_)
  refine lv_aload_n C.1.1 C.1.2.1 dX7_init_150 rfl (lv_at hl 0 rfl) ?_
  refine lv_sipush (v := fb_I (144 : Nat)) C.1.1 C.1.2.1 dX7_init_151 (by decide) ?_
  refine cc_newI C w cc_hA 144 ma_int rfl (cells' := 18) (slots' := 2818) rfl rfl ⟨Nat.le_of_ble_eq_true rfl, Nat.le_of_ble_eq_true rfl⟩ dX7_init_154 (fun q18 H w => ?_)
  refine cc_putF (ws' := [(h0, .inr (7, [.ref q1, .ref q2, .ref q3, .ref q4, .ref q5, .ref q6, .ref q7, .ref q8, .ref q9, .ref q10, .ref q11, fb_z, .ref q12, .ref q13, .ref q14, .ref q15, .ref q16, fb_z, .ref q17, .ref q18])), (q1, zI D.2.1 292), (q2, zI D.2.1 584), (q3, zI D.2.2.1 2), (q4, zI D.2.1 144), (q5, zI D.2.1 144), (q6, zI D.2.2.1 144), (q7, zI D.2.1 144), (q8, zI D.2.1 144), (q9, zI D.2.1 144), (q10, zI D.2.1 144), (q11, zI D.2.2.1 144), (q12, zI D.2.1 144), (q13, zI D.2.1 100), (q14, zI D.2.1 100), (q15, zI D.2.1 100), (q16, zI D.2.1 100), (q17, zI D.2.1 100), (q18, zI D.2.1 144)]) C w rfl fl_X7_62 tyX7_ok nmX7 rfl rfl rfl rfl (Nat.le_of_ble_eq_true rfl) rfl dX7_init_156 (fun H locs w => ?_)
  refine lv_aload_n C.1.1 C.1.2.1 dX7_init_159 rfl (lv_at hl 0 rfl) ?_
  refine va_get (v := .ref q1) C.1.1 C.1.2.1 C.1.2.2.2.2 fl_X7_7.1 C.1.2.2.2.1 C.2.2.1 w.1 0 rfl rfl 0 (Nat.le_of_ble_eq_true rfl) (C.1.2.2.2.2 _ fl_X7_7.2.2.2) (fun _ h => h) rfl dX7_init_160 ?_
  refine lv_sipush (v := fb_I 288) C.1.1 C.1.2.1 dX7_init_163 (by decide) ?_
  refine lv_bipush (v := fb_I 8) C.1.1 C.1.2.1 dX7_init_166 (by decide) ?_
  refine va_iast C.1.1 C.1.2.1 C.2.2.1 w.1 w.2.1 w.2.2 1 0 rfl rfl (fb_I_ix (n := 292) (by decide) (by decide) (by decide)) dX7_init_168 (fun H locs a1 a2 a3 => ?_)
  have hu288 : upd (fun j : Nat => fb_I ((fun _ : Int => (0 : Int)) (j : Int))) (fb_I 288).toNatClampNeg (fb_I 8) = fun j : Nat => fb_I ((fun q : Int => if q = 288 then (8 : Int) else 0) (j : Int)) := by rw [fb_I_nat (by decide) (by decide)]; exact fb_upd (fun _ : Int => (0 : Int)) (by decide)
  have w : fb_WW D (cc_A h0 7 [.null, .null, .null, .null, .null, .null, .null, .null, .null, .null, .null, fb_z, .null, .null, .null, .null, .null, fb_z, .null, .null] s.heap.size) s [(h0, .inr (7, [.ref q1, .ref q2, .ref q3, .ref q4, .ref q5, .ref q6, .ref q7, .ref q8, .ref q9, .ref q10, .ref q11, fb_z, .ref q12, .ref q13, .ref q14, .ref q15, .ref q16, fb_z, .ref q17, .ref q18])), (q1, .inl (D.2.1, 292, .inl (fun j : Nat => fb_I ((fun q : Int => if q = 288 then (8 : Int) else 0) (j : Int))))), (q2, zI D.2.1 584), (q3, zI D.2.2.1 2), (q4, zI D.2.1 144), (q5, zI D.2.1 144), (q6, zI D.2.2.1 144), (q7, zI D.2.1 144), (q8, zI D.2.1 144), (q9, zI D.2.1 144), (q10, zI D.2.1 144), (q11, zI D.2.2.1 144), (q12, zI D.2.1 144), (q13, zI D.2.1 100), (q14, zI D.2.1 100), (q15, zI D.2.1 100), (q16, zI D.2.1 100), (q17, zI D.2.1 100), (q18, zI D.2.1 144)] H locs := by
    rw [← hu288]
    exact ⟨a1, a2, a3⟩
  refine lv_aload_n C.1.1 C.1.2.1 dX7_init_169 rfl (lv_at hl 0 rfl) ?_
  refine va_get (v := .ref q1) C.1.1 C.1.2.1 C.1.2.2.2.2 fl_X7_7.1 C.1.2.2.2.1 C.2.2.1 w.1 0 rfl rfl 0 (Nat.le_of_ble_eq_true rfl) (C.1.2.2.2.2 _ fl_X7_7.2.2.2) (fun _ h => h) rfl dX7_init_170 ?_
  refine lv_sipush (v := fb_I 289) C.1.1 C.1.2.1 dX7_init_173 (by decide) ?_
  refine lv_bipush (v := fb_I 8) C.1.1 C.1.2.1 dX7_init_176 (by decide) ?_
  refine va_iast C.1.1 C.1.2.1 C.2.2.1 w.1 w.2.1 w.2.2 1 0 rfl rfl (fb_I_ix (n := 292) (by decide) (by decide) (by decide)) dX7_init_178 (fun H locs a1 a2 a3 => ?_)
  have hu289 : upd (fun j : Nat => fb_I ((fun q : Int => if q = 288 then (8 : Int) else 0) (j : Int))) (fb_I 289).toNatClampNeg (fb_I 8) = fun j : Nat => fb_I ((fun q : Int => if q = 289 then (8 : Int) else (if q = 288 then 8 else 0)) (j : Int)) := by rw [fb_I_nat (by decide) (by decide)]; exact fb_upd (fun q : Int => if q = 288 then (8 : Int) else 0) (by decide)
  have w : fb_WW D (cc_A h0 7 [.null, .null, .null, .null, .null, .null, .null, .null, .null, .null, .null, fb_z, .null, .null, .null, .null, .null, fb_z, .null, .null] s.heap.size) s [(h0, .inr (7, [.ref q1, .ref q2, .ref q3, .ref q4, .ref q5, .ref q6, .ref q7, .ref q8, .ref q9, .ref q10, .ref q11, fb_z, .ref q12, .ref q13, .ref q14, .ref q15, .ref q16, fb_z, .ref q17, .ref q18])), (q1, .inl (D.2.1, 292, .inl (fun j : Nat => fb_I ((fun q : Int => if q = 289 then (8 : Int) else (if q = 288 then 8 else 0)) (j : Int))))), (q2, zI D.2.1 584), (q3, zI D.2.2.1 2), (q4, zI D.2.1 144), (q5, zI D.2.1 144), (q6, zI D.2.2.1 144), (q7, zI D.2.1 144), (q8, zI D.2.1 144), (q9, zI D.2.1 144), (q10, zI D.2.1 144), (q11, zI D.2.2.1 144), (q12, zI D.2.1 144), (q13, zI D.2.1 100), (q14, zI D.2.1 100), (q15, zI D.2.1 100), (q16, zI D.2.1 100), (q17, zI D.2.1 100), (q18, zI D.2.1 144)] H locs := by
    rw [← hu289]
    exact ⟨a1, a2, a3⟩
  exact cc_ret (wX := wkX7 D.2.2.1) C w (fun k => ([h0, q1, q2, q3, q4, q5, q6, q7, q8, q9, q10, q11, q12, q13, q14, q15, q16, q17, q18] : List Nat).getD k 0) rfl rfl dX7_init_179
