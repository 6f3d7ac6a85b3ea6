section S_X7_pourAsTold
variable {p : Program} {l : Launch} {e : Env} {s : State} {m : MethodId} {args : Array Value} {below : List Frame} {meth : Method} {c : Code} {Qm : State → Prop} {G : fb_G} {Q : Int → fb_St → Prop}
abbrev TT_X7_pourAsTold_0 (p : Program) (l : Launch) (e : Env) (s : State) (m : MethodId) (args : Array Value) (below : List Frame) (meth : Method) (c : Code) (Qm : State → Prop) (G : fb_G) (r : fb_St → Prop) : Prop := ∀ (σ : fb_St) (H : Heap) (locs : List Loc) (ls : Array Slot), fb_Wd G s σ H locs → lv_has ls 1 [(0, .ref (fb_ad G 48))] → r σ → W p l e rm_X7_pourAsTold s m args below meth c H locs 0 0 Qm (F0 m 0 ls [])
set_option maxRecDepth 100000 in
set_option maxHeartbeats 4000000 in
theorem tw_X7_pourAsTold_0 (C : fb_C p s m args meth c G RX7 cX7_pourAsTold 1) (hret : fb_RV p l e rm_X7_pourAsTold s m args below meth c G cX7_pourAsTold Qm Q) : TT_X7_pourAsTold_0 p l e s m args below meth c Qm G (fun σ => wp_X7_pourAsTold σ Q) := by
  intro σ H locs ls w hl h
  unfold wp_X7_pourAsTold at h
  refine lv_aload_n C.1.1 C.1.2.1 dX7_pourAsTold_0 rfl (lv_at hl 0 rfl) ?_
  refine lv_aload_n C.1.1 C.1.2.1 dX7_pourAsTold_1 rfl (lv_at hl 0 rfl) ?_
  refine fb_getr (k2 := 49) C w (fb_k48 C) rfl fl_X7_7 dX7_pourAsTold_2 ?_
  refine fb_sipush C dX7_pourAsTold_5 (by decide) ?_
  refine fb_al C w 292 (fb_k49 C) rfl rfl (by decide) (by decide) dX7_pourAsTold_8 ?_
  have i1 := w.2.2.2 49 290
  refine lv_aload_n C.1.1 C.1.2.1 dX7_pourAsTold_9 rfl (lv_at hl 0 rfl) ?_
  refine fb_getr (k2 := 49) C w (fb_k48 C) rfl fl_X7_7 dX7_pourAsTold_10 ?_
  refine fb_sipush C dX7_pourAsTold_13 (by decide) ?_
  refine fb_al C w 292 (fb_k49 C) rfl rfl (by decide) (by decide) dX7_pourAsTold_16 ?_
  have i2 := w.2.2.2 49 291
  refine fb_callVv (As := [.int (fb_I (σ 49 290)), .int (fb_I (σ 49 291))]) (rest := []) C w (ct_X7_pour l G i1 i2 h) mv_X7_147 (fb_k48 C) rfl ⟨rfl, rfl, Nat.le_of_ble_eq_true rfl, Nat.le_of_ble_eq_true rfl, Nat.zero_le _, Nat.zero_le _⟩ rfl hl.1 rfl (Nat.le_of_ble_eq_true rfl) dX7_pourAsTold_17 (fun σ3 H locs h w => ?_)
  exact hret _ _ _ _ _ h w dX7_pourAsTold_20
theorem ct_X7_pourAsTold (l : Launch) (G : fb_G) {σ : fb_St} (h : wp_X7_pourAsTold σ Q) : fb_MV l G yX7_pourAsTold cX7_pourAsTold 1 rm_X7_pourAsTold [.ref (fb_ad G 48)] σ Q := by
  refine fb_ofW (own := RX7) (by decide) (Nat.le_of_ble_eq_true rfl) rfl (fun p e s m args below meth c ls C hr hl w => ?_)
  exact tw_X7_pourAsTold_0 C (fb_retv C hr) _ _ _ _ w hl h
end S_X7_pourAsTold
section S_X7_dot
variable {p : Program} {l : Launch} {e : Env} {s : State} {m : MethodId} {args : Array Value} {below : List Frame} {meth : Method} {c : Code} {Qm : State → Prop} {G : fb_G} {Q : Int → fb_St → Prop}
abbrev TT_X7_dot_18 (p : Program) (l : Launch) (e : Env) (s : State) (m : MethodId) (args : Array Value) (below : List Frame) (meth : Method) (c : Code) (Qm : State → Prop) (G : fb_G) (r : fb_St → Prop) : Prop := ∀ (σ : fb_St) (H : Heap) (locs : List Loc) (ls : Array Slot), fb_Wd G s σ H locs → lv_has ls 5 [] → r σ → W p l e rm_X7_dot s m args below meth c H locs 0 0 Qm (F0 m 18 ls [])
abbrev TT_X7_dot_0 (p : Program) (l : Launch) (e : Env) (s : State) (m : MethodId) (args : Array Value) (below : List Frame) (meth : Method) (c : Code) (Qm : State → Prop) (G : fb_G) (r : Int → Int → Int → fb_St → Prop) : Prop := ∀ (x1 x2 x3 : Int) (σ : fb_St) (H : Heap) (locs : List Loc) (ls : Array Slot), fb_Wd G s σ H locs → lv_has ls 5 [(0, .ref (fb_ad G 48)), (1, .int (fb_I x1)), (2, .int (fb_I x2)), (3, .int (fb_I x3))] → fb_in x1 → fb_in x2 → fb_in x3 → r x1 x2 x3 σ → W p l e rm_X7_dot s m args below meth c H locs 0 0 Qm (F0 m 0 ls [])
set_option maxRecDepth 100000 in
set_option maxHeartbeats 4000000 in
theorem tw_X7_dot_18 (C : fb_C p s m args meth c G RX7 cX7_dot 5) (hret : fb_RI p l e rm_X7_dot s m args below meth c G cX7_dot Qm Q) : TT_X7_dot_18 p l e s m args below meth c Qm G (wj_X7_dot_18 Q) := by
  intro σ H locs ls w hl h
  unfold wj_X7_dot_18 at h
  refine fb_bipush C dX7_dot_18 (by decide) ?_
  exact hret _ _ _ _ _ _ (by decide) h w dX7_dot_20
set_option maxRecDepth 100000 in
set_option maxHeartbeats 4000000 in
theorem tw_X7_dot_0 (C : fb_C p s m args meth c G RX7 cX7_dot 5) (hret : fb_RI p l e rm_X7_dot s m args below meth c G cX7_dot Qm Q) : TT_X7_dot_0 p l e s m args below meth c Qm G (fun x1 x2 x3 σ => wp_X7_dot x1 x2 x3 σ Q) := by
  intro x1 x2 x3 σ H locs ls w hl ix1 ix2 ix3 h
  unfold wp_X7_dot at h
  refine lv_aload_n C.1.1 C.1.2.1 dX7_dot_0 rfl (lv_at hl 0 rfl) ?_
  refine lv_iload_n C.1.1 C.1.2.1 dX7_dot_1 rfl (lv_at hl 1 rfl) ?_
  refine lv_iload_n C.1.1 C.1.2.1 dX7_dot_2 rfl (lv_at hl 2 rfl) ?_
  refine fb_callVi (As := [.int (fb_I x1), .int (fb_I x2)]) (rest := []) C w (ct_X7_isDot l G ix1 ix2 h) mv_X7_69 (fb_k48 C) rfl ⟨rfl, rfl, Nat.le_of_ble_eq_true rfl, Nat.le_of_ble_eq_true rfl, Nat.zero_le _, Nat.zero_le _⟩ rfl hl.1 rfl (Nat.le_of_ble_eq_true rfl) dX7_dot_3 (fun a1 σ1 H locs h ia1 w => ?_)
  refine fb_if_eq (tgt := 18) C ia1 dX7_dot_6 (by decide) (fun c2 => ?_) (fun c2 => ?_)
  · have h := h.1 c2
    exact tw_X7_dot_18 C hret _ _ _ _ w (lv_sub hl [] rfl) h
  · have h := h.2 c2
    refine lv_iload_n C.1.1 C.1.2.1 dX7_dot_9 rfl (lv_at hl 3 rfl) ?_
    refine fb_iconst C dX7_dot_10 ?_
    refine fb_iconst C dX7_dot_11 ?_
    refine fb_callSi (As := [.int (fb_I x3), .int (fb_I 0), .int (fb_I 5)]) (rest := []) C w (ct_X7_in l G ix3 (by decide) (by decide) h) ms_X7_65 ⟨rfl, rfl, Nat.le_of_ble_eq_true rfl, Nat.le_of_ble_eq_true rfl, Nat.zero_le _, Nat.zero_le _⟩ rfl hl.1 rfl (Nat.le_of_ble_eq_true rfl) dX7_dot_12 (fun a3 σ3 H locs h ia3 w => ?_)
    refine fb_if_ne (tgt := 21) C ia3 dX7_dot_15 (by decide) (fun c4 => ?_) (fun c4 => ?_)
    · have h := h.2 c4
      refine lv_aload_n C.1.1 C.1.2.1 dX7_dot_21 rfl (lv_at hl 0 rfl) ?_
      refine lv_iload_n C.1.1 C.1.2.1 dX7_dot_22 rfl (lv_at hl 1 rfl) ?_
      refine lv_iload_n C.1.1 C.1.2.1 dX7_dot_23 rfl (lv_at hl 2 rfl) ?_
      refine fb_callVi (As := [.int (fb_I x1), .int (fb_I x2)]) (rest := []) C w (ct_X7_at l G ix1 ix2 h) mv_X7_73 (fb_k48 C) rfl ⟨rfl, rfl, Nat.le_of_ble_eq_true rfl, Nat.le_of_ble_eq_true rfl, Nat.zero_le _, Nat.zero_le _⟩ rfl hl.1 rfl (Nat.le_of_ble_eq_true rfl) dX7_dot_24 (fun a5 σ5 H locs h ia5 w => ?_)
      refine lv_istore (lv' := [(4, .int (fb_I a5)), (0, .ref (fb_ad G 48)), (1, .int (fb_I x1)), (2, .int (fb_I x2)), (3, .int (fb_I x3))]) C.1.1 C.1.2.1 dX7_dot_27 hl (by decide) rfl (fun ls hl => ?_)
      refine lv_aload_n C.1.1 C.1.2.1 dX7_dot_29 rfl (lv_at hl 1 rfl) ?_
      refine fb_callVv (As := []) (rest := []) C w (ct_X7_pourAsTold l G h) mv_X7_151 (fb_k48 C) rfl ⟨rfl, rfl, Nat.le_of_ble_eq_true rfl, Nat.le_of_ble_eq_true rfl, Nat.zero_le _, Nat.zero_le _⟩ rfl hl.1 rfl (Nat.le_of_ble_eq_true rfl) dX7_dot_30 (fun σ6 H locs h w => ?_)
      refine lv_iload_n C.1.1 C.1.2.1 dX7_dot_33 rfl (lv_at hl 4 rfl) ?_
      by_cases c7 : x3 = 0
      · have h := h.1 c7
        refine fb_tableIn (tgt := 68) (j := 0) C ix3 dX7_dot_34 c7 (by decide) rfl (by decide) ?_
        refine lv_aload_n C.1.1 C.1.2.1 dX7_dot_68 rfl (lv_at hl 1 rfl) ?_
        refine fb_getr (k2 := 49) C w (fb_k48 C) rfl fl_X7_7 dX7_dot_69 ?_
        refine lv_iload C.1.1 C.1.2.1 dX7_dot_72 (lv_at hl 0 rfl) ?_
        obtain ⟨z8, z9, h⟩ := h
        refine fb_al C w 292 (fb_k49 C) rfl rfl z8 z9 dX7_dot_74 ?_
        have i10 := w.2.2.2 49 a5
        exact hret _ _ _ _ _ _ i10 h w dX7_dot_75
      by_cases c11 : x3 = 1
      · have h := h.2.1 c11
        refine fb_tableIn (tgt := 76) (j := 1) C ix3 dX7_dot_34 c11 (by decide) rfl (by decide) ?_
        refine lv_aload_n C.1.1 C.1.2.1 dX7_dot_76 rfl (lv_at hl 1 rfl) ?_
        refine fb_getr (k2 := 49) C w (fb_k48 C) rfl fl_X7_7 dX7_dot_77 ?_
        refine fb_sipush C dX7_dot_80 (by decide) ?_
        refine lv_iload C.1.1 C.1.2.1 dX7_dot_83 (lv_at hl 0 rfl) ?_
        obtain ⟨i12, h⟩ := h
        refine fb_iadd C dX7_dot_85 ?_
        obtain ⟨z13, z14, h⟩ := h
        refine fb_al C w 292 (fb_k49 C) rfl rfl z13 z14 dX7_dot_86 ?_
        have i15 := w.2.2.2 49 (144 + a5)
        exact hret _ _ _ _ _ _ i15 h w dX7_dot_87
      by_cases c16 : x3 = 2
      · have h := h.2.2.1 c16
        refine fb_tableIn (tgt := 88) (j := 2) C ix3 dX7_dot_34 c16 (by decide) rfl (by decide) ?_
        refine lv_aload_n C.1.1 C.1.2.1 dX7_dot_88 rfl (lv_at hl 1 rfl) ?_
        refine fb_getr (k2 := 55) C w (fb_k48 C) rfl fl_X7_29 dX7_dot_89 ?_
        refine lv_iload C.1.1 C.1.2.1 dX7_dot_92 (lv_at hl 0 rfl) ?_
        obtain ⟨z17, z18, h⟩ := h
        refine fb_al C w 144 (fb_k55 C) rfl rfl z17 z18 dX7_dot_94 ?_
        have i19 := w.2.2.2 55 a5
        exact hret _ _ _ _ _ _ i19 h w dX7_dot_95
      by_cases c20 : x3 = 3
      · have h := h.2.2.2.1 c20
        refine fb_tableIn (tgt := 96) (j := 3) C ix3 dX7_dot_34 c20 (by decide) rfl (by decide) ?_
        refine lv_aload_n C.1.1 C.1.2.1 dX7_dot_96 rfl (lv_at hl 1 rfl) ?_
        refine fb_getr (k2 := 56) C w (fb_k48 C) rfl fl_X7_32 dX7_dot_97 ?_
        refine lv_iload C.1.1 C.1.2.1 dX7_dot_100 (lv_at hl 0 rfl) ?_
        obtain ⟨z21, z22, h⟩ := h
        refine fb_al C w 144 (fb_k56 C) rfl rfl z21 z22 dX7_dot_102 ?_
        have i23 := w.2.2.2 56 a5
        exact hret _ _ _ _ _ _ i23 h w dX7_dot_103
      by_cases c24 : x3 = 4
      · have h := h.2.2.2.2.1 c24
        refine fb_tableIn (tgt := 104) (j := 4) C ix3 dX7_dot_34 c24 (by decide) rfl (by decide) ?_
        refine lv_aload_n C.1.1 C.1.2.1 dX7_dot_104 rfl (lv_at hl 1 rfl) ?_
        refine fb_getr (k2 := 57) C w (fb_k48 C) rfl fl_X7_35 dX7_dot_105 ?_
        refine lv_iload C.1.1 C.1.2.1 dX7_dot_108 (lv_at hl 0 rfl) ?_
        obtain ⟨z25, z26, h⟩ := h
        refine fb_al C w 144 (fb_k57 C) rfl rfl z25 z26 dX7_dot_110 ?_
        have i27 := w.2.2.2 57 a5
        exact hret _ _ _ _ _ _ i27 h w dX7_dot_111
      have c31 : x3 < 0 ∨ 4 < x3 := by omega
      have h := h.2.2.2.2.2 c31
      refine fb_tableOut (tgt := 112) C ix3 dX7_dot_34 c31 (by decide) ?_
      refine lv_aload_n C.1.1 C.1.2.1 dX7_dot_112 rfl (lv_at hl 1 rfl) ?_
      refine fb_getr (k2 := 60) C w (fb_k48 C) rfl fl_X7_44 dX7_dot_113 ?_
      refine lv_iload C.1.1 C.1.2.1 dX7_dot_116 (lv_at hl 0 rfl) ?_
      obtain ⟨z28, z29, h⟩ := h
      refine fb_al C w 144 (fb_k60 C) rfl rfl z28 z29 dX7_dot_118 ?_
      have i30 := w.2.2.2 60 a5
      exact hret _ _ _ _ _ _ i30 h w dX7_dot_119
    · have h := h.1 c4
      exact tw_X7_dot_18 C hret _ _ _ _ w (lv_sub hl [] rfl) h
theorem ct_X7_dot (l : Launch) (G : fb_G) {x1 : Int} {x2 : Int} {x3 : Int} {σ : fb_St} (ix1 : fb_in x1) (ix2 : fb_in x2) (ix3 : fb_in x3) (h : wp_X7_dot x1 x2 x3 σ Q) : fb_MI l G yX7_dot cX7_dot 5 (some .int) rm_X7_dot [.ref (fb_ad G 48), .int (fb_I x1), .int (fb_I x2), .int (fb_I x3)] σ Q := by
  refine fb_ofW (own := RX7) (by decide) (Nat.le_of_ble_eq_true rfl) rfl (fun p e s m args below meth c ls C hr hl w => ?_)
  exact tw_X7_dot_0 C (fb_reti C hr) _ _ _ _ _ _ _ w hl ix1 ix2 ix3 h
end S_X7_dot
section S_X7_bound
variable {p : Program} {l : Launch} {e : Env} {s : State} {m : MethodId} {args : Array Value} {below : List Frame} {meth : Method} {c : Code} {Qm : State → Prop} {G : fb_G} {Q : Int → fb_St → Prop}
abbrev TT_X7_bound_20 (p : Program) (l : Launch) (e : Env) (s : State) (m : MethodId) (args : Array Value) (below : List Frame) (meth : Method) (c : Code) (Qm : State → Prop) (G : fb_G) (r : fb_St → Prop) : Prop := ∀ (σ : fb_St) (H : Heap) (locs : List Loc) (ls : Array Slot), fb_Wd G s σ H locs → lv_has ls 3 [] → r σ → W p l e rm_X7_bound s m args below meth c H locs 0 0 Qm (F0 m 20 ls [])
abbrev TT_X7_bound_0 (p : Program) (l : Launch) (e : Env) (s : State) (m : MethodId) (args : Array Value) (below : List Frame) (meth : Method) (c : Code) (Qm : State → Prop) (G : fb_G) (r : Int → Int → fb_St → Prop) : Prop := ∀ (x1 x2 : Int) (σ : fb_St) (H : Heap) (locs : List Loc) (ls : Array Slot), fb_Wd G s σ H locs → lv_has ls 3 [(0, .ref (fb_ad G 48)), (1, .int (fb_I x1)), (2, .int (fb_I x2))] → fb_in x1 → fb_in x2 → r x1 x2 σ → W p l e rm_X7_bound s m args below meth c H locs 0 0 Qm (F0 m 0 ls [])
set_option maxRecDepth 100000 in
set_option maxHeartbeats 4000000 in
theorem tw_X7_bound_20 (C : fb_C p s m args meth c G RX7 cX7_bound 3) (hret : fb_RI p l e rm_X7_bound s m args below meth c G cX7_bound Qm Q) : TT_X7_bound_20 p l e s m args below meth c Qm G (wj_X7_bound_20 Q) := by
  intro σ H locs ls w hl h
  unfold wj_X7_bound_20 at h
  refine fb_bipush C dX7_bound_20 (by decide) ?_
  exact hret _ _ _ _ _ _ (by decide) h w dX7_bound_22
set_option maxRecDepth 100000 in
set_option maxHeartbeats 4000000 in
theorem tw_X7_bound_0 (C : fb_C p s m args meth c G RX7 cX7_bound 3) (hret : fb_RI p l e rm_X7_bound s m args below meth c G cX7_bound Qm Q) : TT_X7_bound_0 p l e s m args below meth c Qm G (fun x1 x2 σ => wp_X7_bound x1 x2 σ Q) := by
  intro x1 x2 σ H locs ls w hl ix1 ix2 h
  unfold wp_X7_bound at h
  refine lv_iload_n C.1.1 C.1.2.1 dX7_bound_0 rfl (lv_at hl 1 rfl) ?_
  refine fb_iconst C dX7_bound_1 ?_
  refine fb_iconst C dX7_bound_2 ?_
  refine fb_callSi (As := [.int (fb_I x1), .int (fb_I 0), .int (fb_I 2)]) (rest := []) C w (ct_X7_in l G ix1 (by decide) (by decide) h) ms_X7_65 ⟨rfl, rfl, Nat.le_of_ble_eq_true rfl, Nat.le_of_ble_eq_true rfl, Nat.zero_le _, Nat.zero_le _⟩ rfl hl.1 rfl (Nat.le_of_ble_eq_true rfl) dX7_bound_3 (fun a1 σ1 H locs h ia1 w => ?_)
  refine fb_if_eq (tgt := 20) C ia1 dX7_bound_6 (by decide) (fun c2 => ?_) (fun c2 => ?_)
  · have h := h.1 c2
    exact tw_X7_bound_20 C hret _ _ _ _ w (lv_sub hl [] rfl) h
  · have h := h.2 c2
    refine lv_iload_n C.1.1 C.1.2.1 dX7_bound_9 rfl (lv_at hl 2 rfl) ?_
    refine fb_iconst C dX7_bound_10 ?_
    refine fb_sipush C dX7_bound_11 (by decide) ?_
    refine fb_callSi (As := [.int (fb_I x2), .int (fb_I 0), .int (fb_I 2000)]) (rest := []) C w (ct_X7_in l G ix2 (by decide) (by decide) h) ms_X7_65 ⟨rfl, rfl, Nat.le_of_ble_eq_true rfl, Nat.le_of_ble_eq_true rfl, Nat.zero_le _, Nat.zero_le _⟩ rfl hl.1 rfl (Nat.le_of_ble_eq_true rfl) dX7_bound_14 (fun a3 σ3 H locs h ia3 w => ?_)
    refine fb_if_ne (tgt := 23) C ia3 dX7_bound_17 (by decide) (fun c4 => ?_) (fun c4 => ?_)
    · have h := h.2 c4
      refine lv_aload_n C.1.1 C.1.2.1 dX7_bound_23 rfl (lv_at hl 0 rfl) ?_
      refine fb_getr (k2 := 49) C w (fb_k48 C) rfl fl_X7_7 dX7_bound_24 ?_
      refine fb_sipush C dX7_bound_27 (by decide) ?_
      refine lv_iload_n C.1.1 C.1.2.1 dX7_bound_30 rfl (lv_at hl 1 rfl) ?_
      refine fb_as C w 292 (fb_k49 C) rfl rfl ix1 (by decide) (by decide) dX7_bound_31 (fun σ5 H locs eσ5 w => ?_)
      have h := h σ5 eσ5
      refine lv_aload_n C.1.1 C.1.2.1 dX7_bound_32 rfl (lv_at hl 0 rfl) ?_
      refine fb_getr (k2 := 49) C w (fb_k48 C) rfl fl_X7_7 dX7_bound_33 ?_
      refine fb_sipush C dX7_bound_36 (by decide) ?_
      refine lv_iload_n C.1.1 C.1.2.1 dX7_bound_39 rfl (lv_at hl 2 rfl) ?_
      refine fb_as C w 292 (fb_k49 C) rfl rfl ix2 (by decide) (by decide) dX7_bound_40 (fun σ6 H locs eσ6 w => ?_)
      have h := h σ6 eσ6
      refine lv_aload_n C.1.1 C.1.2.1 dX7_bound_41 rfl (lv_at hl 0 rfl) ?_
      refine fb_callVv (As := []) (rest := []) C w (ct_X7_pourAsTold l G h) mv_X7_151 (fb_k48 C) rfl ⟨rfl, rfl, Nat.le_of_ble_eq_true rfl, Nat.le_of_ble_eq_true rfl, Nat.zero_le _, Nat.zero_le _⟩ rfl hl.1 rfl (Nat.le_of_ble_eq_true rfl) dX7_bound_42 (fun σ7 H locs h w => ?_)
      refine lv_aload_n C.1.1 C.1.2.1 dX7_bound_45 rfl (lv_at hl 0 rfl) ?_
      refine fb_gi C w 17 (fb_k48 C) rfl rfl fl_X7_134 dX7_bound_46 ?_
      have i8 := w.2.2.2 48 17
      exact hret _ _ _ _ _ _ i8 h w dX7_bound_49
    · have h := h.1 c4
      exact tw_X7_bound_20 C hret _ _ _ _ w (lv_sub hl [] rfl) h
theorem ct_X7_bound (l : Launch) (G : fb_G) {x1 : Int} {x2 : Int} {σ : fb_St} (ix1 : fb_in x1) (ix2 : fb_in x2) (h : wp_X7_bound x1 x2 σ Q) : fb_MI l G yX7_bound cX7_bound 3 (some .int) rm_X7_bound [.ref (fb_ad G 48), .int (fb_I x1), .int (fb_I x2)] σ Q := by
  refine fb_ofW (own := RX7) (by decide) (Nat.le_of_ble_eq_true rfl) rfl (fun p e s m args below meth c ls C hr hl w => ?_)
  exact tw_X7_bound_0 C (fb_reti C hr) _ _ _ _ _ _ w hl ix1 ix2 h
end S_X7_bound
section S_X7_isBasin
variable {p : Program} {l : Launch} {e : Env} {s : State} {m : MethodId} {args : Array Value} {below : List Frame} {meth : Method} {c : Code} {Qm : State → Prop} {G : fb_G} {Q : Int → fb_St → Prop}
abbrev TT_X7_isBasin_27 (p : Program) (l : Launch) (e : Env) (s : State) (m : MethodId) (args : Array Value) (below : List Frame) (meth : Method) (c : Code) (Qm : State → Prop) (G : fb_G) (r : Int → fb_St → Prop) : Prop := ∀ (s0 : Int) (σ : fb_St) (H : Heap) (locs : List Loc) (ls : Array Slot), fb_Wd G s σ H locs → lv_has ls 2 [] → fb_in s0 → r s0 σ → W p l e rm_X7_isBasin s m args below meth c H locs 0 0 Qm (F0 m 27 ls [.int (fb_I s0)])
abbrev TT_X7_isBasin_26 (p : Program) (l : Launch) (e : Env) (s : State) (m : MethodId) (args : Array Value) (below : List Frame) (meth : Method) (c : Code) (Qm : State → Prop) (G : fb_G) (r : fb_St → Prop) : Prop := ∀ (σ : fb_St) (H : Heap) (locs : List Loc) (ls : Array Slot), fb_Wd G s σ H locs → lv_has ls 2 [] → r σ → W p l e rm_X7_isBasin s m args below meth c H locs 0 0 Qm (F0 m 26 ls [])
abbrev TT_X7_isBasin_0 (p : Program) (l : Launch) (e : Env) (s : State) (m : MethodId) (args : Array Value) (below : List Frame) (meth : Method) (c : Code) (Qm : State → Prop) (G : fb_G) (r : Int → fb_St → Prop) : Prop := ∀ (x1 : Int) (σ : fb_St) (H : Heap) (locs : List Loc) (ls : Array Slot), fb_Wd G s σ H locs → lv_has ls 2 [(0, .ref (fb_ad G 48)), (1, .int (fb_I x1))] → fb_in x1 → r x1 σ → W p l e rm_X7_isBasin s m args below meth c H locs 0 0 Qm (F0 m 0 ls [])
set_option maxRecDepth 100000 in
set_option maxHeartbeats 4000000 in
theorem tw_X7_isBasin_27 (C : fb_C p s m args meth c G RX7 cX7_isBasin 2) (hret : fb_RZ p l e rm_X7_isBasin s m args below meth c G cX7_isBasin Qm Q) : TT_X7_isBasin_27 p l e s m args below meth c Qm G (wj_X7_isBasin_27 Q) := by
  intro s0 σ H locs ls w hl is0 h
  unfold wj_X7_isBasin_27 at h
  obtain ⟨z5, h⟩ := h
  exact hret _ _ _ _ _ _ is0 z5 h w dX7_isBasin_27
set_option maxRecDepth 100000 in
set_option maxHeartbeats 4000000 in
theorem tw_X7_isBasin_26 (C : fb_C p s m args meth c G RX7 cX7_isBasin 2) (hret : fb_RZ p l e rm_X7_isBasin s m args below meth c G cX7_isBasin Qm Q) : TT_X7_isBasin_26 p l e s m args below meth c Qm G (wj_X7_isBasin_26 Q) := by
  intro σ H locs ls w hl h
  unfold wj_X7_isBasin_26 at h
  refine fb_iconst C dX7_isBasin_26 ?_
  exact tw_X7_isBasin_27 C hret 0 _ _ _ _ w (lv_sub hl [] rfl) (by decide) h
set_option maxRecDepth 100000 in
set_option maxHeartbeats 4000000 in
theorem tw_X7_isBasin_0 (C : fb_C p s m args meth c G RX7 cX7_isBasin 2) (hret : fb_RZ p l e rm_X7_isBasin s m args below meth c G cX7_isBasin Qm Q) : TT_X7_isBasin_0 p l e s m args below meth c Qm G (fun x1 σ => wp_X7_isBasin x1 σ Q) := by
  intro x1 σ H locs ls w hl ix1 h
  unfold wp_X7_isBasin at h
  refine lv_iload_n C.1.1 C.1.2.1 dX7_isBasin_0 rfl (lv_at hl 1 rfl) ?_
  refine fb_iconst C dX7_isBasin_1 ?_
  refine fb_bipush C dX7_isBasin_2 (by decide) ?_
  refine fb_callSi (As := [.int (fb_I x1), .int (fb_I 1), .int (fb_I 99)]) (rest := []) C w (ct_X7_in l G ix1 (by decide) (by decide) h) ms_X7_65 ⟨rfl, rfl, Nat.le_of_ble_eq_true rfl, Nat.le_of_ble_eq_true rfl, Nat.zero_le _, Nat.zero_le _⟩ rfl hl.1 rfl (Nat.le_of_ble_eq_true rfl) dX7_isBasin_4 (fun a1 σ1 H locs h ia1 w => ?_)
  refine fb_if_eq (tgt := 26) C ia1 dX7_isBasin_7 (by decide) (fun c2 => ?_) (fun c2 => ?_)
  · have h := h.1 c2
    exact tw_X7_isBasin_26 C hret _ _ _ _ w (lv_sub hl [] rfl) h
  · have h := h.2 c2
    refine lv_aload_n C.1.1 C.1.2.1 dX7_isBasin_10 rfl (lv_at hl 0 rfl) ?_
    refine lv_aload_n C.1.1 C.1.2.1 dX7_isBasin_11 rfl (lv_at hl 0 rfl) ?_
    refine fb_getr (k2 := 60) C w (fb_k48 C) rfl fl_X7_44 dX7_isBasin_12 ?_
    refine lv_iload_n C.1.1 C.1.2.1 dX7_isBasin_15 rfl (lv_at hl 1 rfl) ?_
    refine fb_callVi (As := [.ref (fb_ad G 60), .int (fb_I x1)]) (rest := []) C w (ct_X7_dotsOf l G (fb_k60 C) ix1 h) mv_X7_125 (fb_k48 C) rfl ⟨rfl, rfl, Nat.le_of_ble_eq_true rfl, Nat.le_of_ble_eq_true rfl, Nat.zero_le _, Nat.zero_le _⟩ rfl hl.1 rfl (Nat.le_of_ble_eq_true rfl) dX7_isBasin_16 (fun a3 σ3 H locs h ia3 w => ?_)
    refine fb_if_le (tgt := 26) C ia3 dX7_isBasin_19 (by decide) (fun c4 => ?_) (fun c4 => ?_)
    · have h := h.2 c4
      exact tw_X7_isBasin_26 C hret _ _ _ _ w (lv_sub hl [] rfl) h
    · have h := h.1 c4
      refine fb_iconst C dX7_isBasin_22 ?_
      refine lv_goto (tgt := 27) C.1.1 C.1.2.1 dX7_isBasin_23 (by decide) ?_
      exact tw_X7_isBasin_27 C hret 1 _ _ _ _ w (lv_sub hl [] rfl) (by decide) h
theorem ct_X7_isBasin (l : Launch) (G : fb_G) {x1 : Int} {σ : fb_St} (ix1 : fb_in x1) (h : wp_X7_isBasin x1 σ Q) : fb_MI l G yX7_isBasin cX7_isBasin 2 (some .boolean) rm_X7_isBasin [.ref (fb_ad G 48), .int (fb_I x1)] σ Q := by
  refine fb_ofW (own := RX7) (by decide) (Nat.le_of_ble_eq_true rfl) rfl (fun p e s m args below meth c ls C hr hl w => ?_)
  exact tw_X7_isBasin_0 C (fb_retz C hr) _ _ _ _ _ w hl ix1 h
end S_X7_isBasin
section S_X7_basin
variable {p : Program} {l : Launch} {e : Env} {s : State} {m : MethodId} {args : Array Value} {below : List Frame} {meth : Method} {c : Code} {Qm : State → Prop} {G : fb_G} {Q : Int → fb_St → Prop}
abbrev TT_X7_basin_89 (p : Program) (l : Launch) (e : Env) (s : State) (m : MethodId) (args : Array Value) (below : List Frame) (meth : Method) (c : Code) (Qm : State → Prop) (G : fb_G) (r : Int → fb_St → Prop) : Prop := ∀ (s0 : Int) (σ : fb_St) (H : Heap) (locs : List Loc) (ls : Array Slot), fb_Wd G s σ H locs → lv_has ls 5 [] → fb_in s0 → r s0 σ → W p l e rm_X7_basin s m args below meth c H locs 0 0 Qm (F0 m 89 ls [.int (fb_I s0)])
abbrev TT_X7_basin_47 (p : Program) (l : Launch) (e : Env) (s : State) (m : MethodId) (args : Array Value) (below : List Frame) (meth : Method) (c : Code) (Qm : State → Prop) (G : fb_G) (r : Int → Int → Int → Int → fb_St → Prop) : Prop := ∀ (x1 x2 x3 s0 : Int) (σ : fb_St) (H : Heap) (locs : List Loc) (ls : Array Slot), fb_Wd G s σ H locs → lv_has ls 5 [(0, .ref (fb_ad G 48)), (1, .int (fb_I x1)), (2, .int (fb_I x2)), (3, .int (fb_I x3))] → fb_in x1 → fb_in x2 → fb_in x3 → fb_in s0 → r x1 x2 x3 s0 σ → W p l e rm_X7_basin s m args below meth c H locs 0 0 Qm (F0 m 47 ls [.int (fb_I s0)])
abbrev TT_X7_basin_0 (p : Program) (l : Launch) (e : Env) (s : State) (m : MethodId) (args : Array Value) (below : List Frame) (meth : Method) (c : Code) (Qm : State → Prop) (G : fb_G) (r : Int → Int → fb_St → Prop) : Prop := ∀ (x1 x2 : Int) (σ : fb_St) (H : Heap) (locs : List Loc) (ls : Array Slot), fb_Wd G s σ H locs → lv_has ls 5 [(0, .ref (fb_ad G 48)), (1, .int (fb_I x1)), (2, .int (fb_I x2))] → fb_in x1 → fb_in x2 → r x1 x2 σ → W p l e rm_X7_basin s m args below meth c H locs 0 0 Qm (F0 m 0 ls [])
set_option maxRecDepth 100000 in
set_option maxHeartbeats 4000000 in
theorem tw_X7_basin_89 (C : fb_C p s m args meth c G RX7 cX7_basin 5) (hret : fb_RI p l e rm_X7_basin s m args below meth c G cX7_basin Qm Q) : TT_X7_basin_89 p l e s m args below meth c Qm G (wj_X7_basin_89 Q) := by
  intro s0 σ H locs ls w hl is0 h
  unfold wj_X7_basin_89 at h
  exact hret _ _ _ _ _ _ is0 h w dX7_basin_89
set_option maxRecDepth 100000 in
set_option maxHeartbeats 4000000 in
theorem tw_X7_basin_47 (C : fb_C p s m args meth c G RX7 cX7_basin 5) (hret : fb_RI p l e rm_X7_basin s m args below meth c G cX7_basin Qm Q) : TT_X7_basin_47 p l e s m args below meth c Qm G (wj_X7_basin_47 Q) := by
  intro x1 x2 x3 s0 σ H locs ls w hl ix1 ix2 ix3 is0 h
  unfold wj_X7_basin_47 at h
  refine lv_istore (lv' := [(4, .int (fb_I s0)), (0, .ref (fb_ad G 48)), (1, .int (fb_I x1)), (2, .int (fb_I x2)), (3, .int (fb_I x3))]) C.1.1 C.1.2.1 dX7_basin_47 hl (by decide) rfl (fun ls hl => ?_)
  refine lv_iload_n C.1.1 C.1.2.1 dX7_basin_49 rfl (lv_at hl 3 rfl) ?_
  refine fb_iconst C dX7_basin_50 ?_
  refine fb_icmp_ge (tgt := 65) C ix2 (by decide) dX7_basin_51 (by decide) (fun c11 => ?_) (fun c11 => ?_)
  · have h := h.2 c11
    refine lv_iload_n C.1.1 C.1.2.1 dX7_basin_65 rfl (lv_at hl 3 rfl) ?_
    refine fb_iconst C dX7_basin_66 ?_
    refine fb_icmp_ne (tgt := 78) C ix2 (by decide) dX7_basin_67 (by decide) (fun c12 => ?_) (fun c12 => ?_)
    · have h := h.2 c12
      refine lv_iload_n C.1.1 C.1.2.1 dX7_basin_78 rfl (lv_at hl 3 rfl) ?_
      refine fb_iconst C dX7_basin_79 ?_
      refine fb_icmp_ne (tgt := 88) C ix2 (by decide) dX7_basin_80 (by decide) (fun c13 => ?_) (fun c13 => ?_)
      · have h := h.2 c13
        refine lv_iload_n C.1.1 C.1.2.1 dX7_basin_88 rfl (lv_at hl 4 rfl) ?_
        exact tw_X7_basin_89 C hret x3 _ _ _ _ w (lv_sub hl [] rfl) ix3 h
      · have h := h.1 c13
        refine lv_iload C.1.1 C.1.2.1 dX7_basin_83 (lv_at hl 0 rfl) ?_
        refine lv_goto (tgt := 89) C.1.1 C.1.2.1 dX7_basin_85 (by decide) ?_
        exact tw_X7_basin_89 C hret s0 _ _ _ _ w (lv_sub hl [] rfl) is0 h
    · have h := h.1 c12
      refine lv_aload_n C.1.1 C.1.2.1 dX7_basin_70 rfl (lv_at hl 1 rfl) ?_
      refine lv_iload_n C.1.1 C.1.2.1 dX7_basin_71 rfl (lv_at hl 2 rfl) ?_
      refine fb_callVi (As := [.int (fb_I x1)]) (rest := []) C w (ct_X7_leastHeight l G ix1 h) mv_X7_128 (fb_k48 C) rfl ⟨rfl, rfl, Nat.le_of_ble_eq_true rfl, Nat.le_of_ble_eq_true rfl, Nat.zero_le _, Nat.zero_le _⟩ rfl hl.1 rfl (Nat.le_of_ble_eq_true rfl) dX7_basin_72 (fun a14 σ14 H locs h ia14 w => ?_)
      refine lv_goto (tgt := 89) C.1.1 C.1.2.1 dX7_basin_75 (by decide) ?_
      exact tw_X7_basin_89 C hret a14 _ _ _ _ w (lv_sub hl [] rfl) ia14 h
  · have h := h.1 c11
    refine lv_aload_n C.1.1 C.1.2.1 dX7_basin_54 rfl (lv_at hl 1 rfl) ?_
    refine lv_iload_n C.1.1 C.1.2.1 dX7_basin_55 rfl (lv_at hl 2 rfl) ?_
    refine lv_iload_n C.1.1 C.1.2.1 dX7_basin_56 rfl (lv_at hl 3 rfl) ?_
    refine lv_iload C.1.1 C.1.2.1 dX7_basin_57 (lv_at hl 0 rfl) ?_
    refine fb_callVi (As := [.int (fb_I x1), .int (fb_I x2), .int (fb_I s0)]) (rest := []) C w (ct_X7_sizeOf l G ix1 ix2 is0 h) mv_X7_140 (fb_k48 C) rfl ⟨rfl, rfl, Nat.le_of_ble_eq_true rfl, Nat.le_of_ble_eq_true rfl, Nat.zero_le _, Nat.zero_le _⟩ rfl hl.1 rfl (Nat.le_of_ble_eq_true rfl) dX7_basin_59 (fun a15 σ15 H locs h ia15 w => ?_)
    refine lv_goto (tgt := 89) C.1.1 C.1.2.1 dX7_basin_62 (by decide) ?_
    exact tw_X7_basin_89 C hret a15 _ _ _ _ w (lv_sub hl [] rfl) ia15 h
set_option maxRecDepth 100000 in
set_option maxHeartbeats 4000000 in
theorem tw_X7_basin_0 (C : fb_C p s m args meth c G RX7 cX7_basin 5) (hret : fb_RI p l e rm_X7_basin s m args below meth c G cX7_basin Qm Q) : TT_X7_basin_0 p l e s m args below meth c Qm G (fun x1 x2 σ => wp_X7_basin x1 x2 σ Q) := by
  intro x1 x2 σ H locs ls w hl ix1 ix2 h
  unfold wp_X7_basin at h
  refine lv_aload_n C.1.1 C.1.2.1 dX7_basin_0 rfl (lv_at hl 0 rfl) ?_
  refine fb_callVv (As := []) (rest := []) C w (ct_X7_pourAsTold l G h) mv_X7_151 (fb_k48 C) rfl ⟨rfl, rfl, Nat.le_of_ble_eq_true rfl, Nat.le_of_ble_eq_true rfl, Nat.zero_le _, Nat.zero_le _⟩ rfl hl.1 rfl (Nat.le_of_ble_eq_true rfl) dX7_basin_1 (fun σ1 H locs h w => ?_)
  refine lv_aload_n C.1.1 C.1.2.1 dX7_basin_4 rfl (lv_at hl 0 rfl) ?_
  refine lv_iload_n C.1.1 C.1.2.1 dX7_basin_5 rfl (lv_at hl 1 rfl) ?_
  refine fb_callVi (As := [.int (fb_I x1)]) (rest := []) C w (ct_X7_isBasin l G ix1 h) mv_X7_154 (fb_k48 C) rfl ⟨rfl, rfl, Nat.le_of_ble_eq_true rfl, Nat.le_of_ble_eq_true rfl, Nat.zero_le _, Nat.zero_le _⟩ rfl hl.1 rfl (Nat.le_of_ble_eq_true rfl) dX7_basin_6 (fun a2 σ2 H locs h ia2 w => ?_)
  refine fb_if_ne (tgt := 14) C ia2 dX7_basin_9 (by decide) (fun c3 => ?_) (fun c3 => ?_)
  · have h := h.2 c3
    refine lv_iload_n C.1.1 C.1.2.1 dX7_basin_14 rfl (lv_at hl 2 rfl) ?_
    refine fb_iconst C dX7_basin_15 ?_
    refine fb_iconst C dX7_basin_16 ?_
    refine fb_callSi (As := [.int (fb_I x2), .int (fb_I 0), .int (fb_I 5)]) (rest := []) C w (ct_X7_in l G ix2 (by decide) (by decide) h) ms_X7_65 ⟨rfl, rfl, Nat.le_of_ble_eq_true rfl, Nat.le_of_ble_eq_true rfl, Nat.zero_le _, Nat.zero_le _⟩ rfl hl.1 rfl (Nat.le_of_ble_eq_true rfl) dX7_basin_17 (fun a4 σ4 H locs h ia4 w => ?_)
    refine fb_if_ne (tgt := 26) C ia4 dX7_basin_20 (by decide) (fun c5 => ?_) (fun c5 => ?_)
    · have h := h.2 c5
      refine lv_aload_n C.1.1 C.1.2.1 dX7_basin_26 rfl (lv_at hl 0 rfl) ?_
      refine lv_iload_n C.1.1 C.1.2.1 dX7_basin_27 rfl (lv_at hl 1 rfl) ?_
      refine fb_callVi (As := [.int (fb_I x1)]) (rest := []) C w (ct_X7_wayOut l G ix1 h) mv_X7_137 (fb_k48 C) rfl ⟨rfl, rfl, Nat.le_of_ble_eq_true rfl, Nat.le_of_ble_eq_true rfl, Nat.zero_le _, Nat.zero_le _⟩ rfl hl.1 rfl (Nat.le_of_ble_eq_true rfl) dX7_basin_28 (fun a6 σ6 H locs h ia6 w => ?_)
      refine lv_istore_n (lv' := [(3, .int (fb_I a6)), (0, .ref (fb_ad G 48)), (1, .int (fb_I x1)), (2, .int (fb_I x2))]) C.1.1 C.1.2.1 dX7_basin_31 rfl hl (by decide) rfl (fun ls hl => ?_)
      refine lv_iload_n C.1.1 C.1.2.1 dX7_basin_32 rfl (lv_at hl 0 rfl) ?_
      refine fb_if_ge (tgt := 41) C ia6 dX7_basin_33 (by decide) (fun c7 => ?_) (fun c7 => ?_)
      · have h := h.2 c7
        refine lv_aload_n C.1.1 C.1.2.1 dX7_basin_41 rfl (lv_at hl 1 rfl) ?_
        refine fb_getr (k2 := 65) C w (fb_k48 C) rfl fl_X7_59 dX7_basin_42 ?_
        refine lv_iload_n C.1.1 C.1.2.1 dX7_basin_45 rfl (lv_at hl 0 rfl) ?_
        obtain ⟨z8, z9, h⟩ := h
        refine fb_al C w 100 (fb_k65 C) rfl rfl z8 z9 dX7_basin_46 ?_
        have i10 := w.2.2.2 65 a6
        exact tw_X7_basin_47 C hret x1 x2 a6 (σ6 65 a6) _ _ _ _ w (lv_sub hl [1, 2, 3, 0] rfl) ix1 ix2 ia6 i10 h
      · have h := h.1 c7
        refine fb_bipush C dX7_basin_36 (by decide) ?_
        refine lv_goto (tgt := 47) C.1.1 C.1.2.1 dX7_basin_38 (by decide) ?_
        exact tw_X7_basin_47 C hret x1 x2 a6 (-6) _ _ _ _ w (lv_sub hl [1, 2, 3, 0] rfl) ix1 ix2 ia6 (by decide) h
    · have h := h.1 c5
      refine fb_bipush C dX7_basin_23 (by decide) ?_
      exact hret _ _ _ _ _ _ (by decide) h w dX7_basin_25
  · have h := h.1 c3
    refine fb_iconst C dX7_basin_12 ?_
    exact hret _ _ _ _ _ _ (by decide) h w dX7_basin_13
theorem ct_X7_basin (l : Launch) (G : fb_G) {x1 : Int} {x2 : Int} {σ : fb_St} (ix1 : fb_in x1) (ix2 : fb_in x2) (h : wp_X7_basin x1 x2 σ Q) : fb_MI l G yX7_basin cX7_basin 5 (some .int) rm_X7_basin [.ref (fb_ad G 48), .int (fb_I x1), .int (fb_I x2)] σ Q := by
  refine fb_ofW (own := RX7) (by decide) (Nat.le_of_ble_eq_true rfl) rfl (fun p e s m args below meth c ls C hr hl w => ?_)
  exact tw_X7_basin_0 C (fb_reti C hr) _ _ _ _ _ _ w hl ix1 ix2 h
end S_X7_basin
section S_X7_pass
variable {p : Program} {l : Launch} {e : Env} {s : State} {m : MethodId} {args : Array Value} {below : List Frame} {meth : Method} {c : Code} {Qm : State → Prop} {G : fb_G} {Q : Int → fb_St → Prop}
abbrev TT_X7_pass_20 (p : Program) (l : Launch) (e : Env) (s : State) (m : MethodId) (args : Array Value) (below : List Frame) (meth : Method) (c : Code) (Qm : State → Prop) (G : fb_G) (r : fb_St → Prop) : Prop := ∀ (σ : fb_St) (H : Heap) (locs : List Loc) (ls : Array Slot), fb_Wd G s σ H locs → lv_has ls 3 [] → r σ → W p l e rm_X7_pass s m args below meth c H locs 0 0 Qm (F0 m 20 ls [])
abbrev TT_X7_pass_38 (p : Program) (l : Launch) (e : Env) (s : State) (m : MethodId) (args : Array Value) (below : List Frame) (meth : Method) (c : Code) (Qm : State → Prop) (G : fb_G) (r : Int → fb_St → Prop) : Prop := ∀ (s0 : Int) (σ : fb_St) (H : Heap) (locs : List Loc) (ls : Array Slot), fb_Wd G s σ H locs → lv_has ls 3 [] → fb_in s0 → r s0 σ → W p l e rm_X7_pass s m args below meth c H locs 0 0 Qm (F0 m 38 ls [.int (fb_I s0)])
abbrev TT_X7_pass_0 (p : Program) (l : Launch) (e : Env) (s : State) (m : MethodId) (args : Array Value) (below : List Frame) (meth : Method) (c : Code) (Qm : State → Prop) (G : fb_G) (r : Int → Int → fb_St → Prop) : Prop := ∀ (x1 x2 : Int) (σ : fb_St) (H : Heap) (locs : List Loc) (ls : Array Slot), fb_Wd G s σ H locs → lv_has ls 3 [(0, .ref (fb_ad G 48)), (1, .int (fb_I x1)), (2, .int (fb_I x2))] → fb_in x1 → fb_in x2 → r x1 x2 σ → W p l e rm_X7_pass s m args below meth c H locs 0 0 Qm (F0 m 0 ls [])
set_option maxRecDepth 100000 in
set_option maxHeartbeats 4000000 in
theorem tw_X7_pass_20 (C : fb_C p s m args meth c G RX7 cX7_pass 3) (hret : fb_RI p l e rm_X7_pass s m args below meth c G cX7_pass Qm Q) : TT_X7_pass_20 p l e s m args below meth c Qm G (wj_X7_pass_20 Q) := by
  intro σ H locs ls w hl h
  unfold wj_X7_pass_20 at h
  refine fb_iconst C dX7_pass_20 ?_
  exact hret _ _ _ _ _ _ (by decide) h w dX7_pass_21
set_option maxRecDepth 100000 in
set_option maxHeartbeats 4000000 in
theorem tw_X7_pass_38 (C : fb_C p s m args meth c G RX7 cX7_pass 3) (hret : fb_RI p l e rm_X7_pass s m args below meth c G cX7_pass Qm Q) : TT_X7_pass_38 p l e s m args below meth c Qm G (wj_X7_pass_38 Q) := by
  intro s0 σ H locs ls w hl is0 h
  unfold wj_X7_pass_38 at h
  exact hret _ _ _ _ _ _ is0 h w dX7_pass_38
set_option maxRecDepth 100000 in
set_option maxHeartbeats 4000000 in
theorem tw_X7_pass_0 (C : fb_C p s m args meth c G RX7 cX7_pass 3) (hret : fb_RI p l e rm_X7_pass s m args below meth c G cX7_pass Qm Q) : TT_X7_pass_0 p l e s m args below meth c Qm G (fun x1 x2 σ => wp_X7_pass x1 x2 σ Q) := by
  intro x1 x2 σ H locs ls w hl ix1 ix2 h
  unfold wp_X7_pass at h
  refine lv_aload_n C.1.1 C.1.2.1 dX7_pass_0 rfl (lv_at hl 0 rfl) ?_
  refine fb_callVv (As := []) (rest := []) C w (ct_X7_pourAsTold l G h) mv_X7_151 (fb_k48 C) rfl ⟨rfl, rfl, Nat.le_of_ble_eq_true rfl, Nat.le_of_ble_eq_true rfl, Nat.zero_le _, Nat.zero_le _⟩ rfl hl.1 rfl (Nat.le_of_ble_eq_true rfl) dX7_pass_1 (fun σ1 H locs h w => ?_)
  refine lv_aload_n C.1.1 C.1.2.1 dX7_pass_4 rfl (lv_at hl 0 rfl) ?_
  refine lv_iload_n C.1.1 C.1.2.1 dX7_pass_5 rfl (lv_at hl 1 rfl) ?_
  refine fb_callVi (As := [.int (fb_I x1)]) (rest := []) C w (ct_X7_isBasin l G ix1 h) mv_X7_154 (fb_k48 C) rfl ⟨rfl, rfl, Nat.le_of_ble_eq_true rfl, Nat.le_of_ble_eq_true rfl, Nat.zero_le _, Nat.zero_le _⟩ rfl hl.1 rfl (Nat.le_of_ble_eq_true rfl) dX7_pass_6 (fun a2 σ2 H locs h ia2 w => ?_)
  refine fb_if_eq (tgt := 20) C ia2 dX7_pass_9 (by decide) (fun c3 => ?_) (fun c3 => ?_)
  · have h := h.1 c3
    exact tw_X7_pass_20 C hret _ _ _ _ w (lv_sub hl [] rfl) h
  · have h := h.2 c3
    refine lv_aload_n C.1.1 C.1.2.1 dX7_pass_12 rfl (lv_at hl 0 rfl) ?_
    refine lv_iload_n C.1.1 C.1.2.1 dX7_pass_13 rfl (lv_at hl 2 rfl) ?_
    refine fb_callVi (As := [.int (fb_I x2)]) (rest := []) C w (ct_X7_isBasin l G ix2 h) mv_X7_154 (fb_k48 C) rfl ⟨rfl, rfl, Nat.le_of_ble_eq_true rfl, Nat.le_of_ble_eq_true rfl, Nat.zero_le _, Nat.zero_le _⟩ rfl hl.1 rfl (Nat.le_of_ble_eq_true rfl) dX7_pass_14 (fun a4 σ4 H locs h ia4 w => ?_)
    refine fb_if_ne (tgt := 22) C ia4 dX7_pass_17 (by decide) (fun c5 => ?_) (fun c5 => ?_)
    · have h := h.2 c5
      refine lv_iload_n C.1.1 C.1.2.1 dX7_pass_22 rfl (lv_at hl 1 rfl) ?_
      refine lv_iload_n C.1.1 C.1.2.1 dX7_pass_23 rfl (lv_at hl 2 rfl) ?_
      refine fb_icmp_ne (tgt := 32) C ix1 ix2 dX7_pass_24 (by decide) (fun c6 => ?_) (fun c6 => ?_)
      · have h := h.2 c6
        refine lv_aload_n C.1.1 C.1.2.1 dX7_pass_32 rfl (lv_at hl 0 rfl) ?_
        refine lv_iload_n C.1.1 C.1.2.1 dX7_pass_33 rfl (lv_at hl 1 rfl) ?_
        refine lv_iload_n C.1.1 C.1.2.1 dX7_pass_34 rfl (lv_at hl 2 rfl) ?_
        refine fb_callVi (As := [.int (fb_I x1), .int (fb_I x2)]) (rest := []) C w (ct_X7_passOf l G ix1 ix2 h) mv_X7_158 (fb_k48 C) rfl ⟨rfl, rfl, Nat.le_of_ble_eq_true rfl, Nat.le_of_ble_eq_true rfl, Nat.zero_le _, Nat.zero_le _⟩ rfl hl.1 rfl (Nat.le_of_ble_eq_true rfl) dX7_pass_35 (fun a7 σ7 H locs h ia7 w => ?_)
        exact tw_X7_pass_38 C hret a7 _ _ _ _ w (lv_sub hl [] rfl) ia7 h
      · have h := h.1 c6
        refine fb_bipush C dX7_pass_27 (by decide) ?_
        refine lv_goto (tgt := 38) C.1.1 C.1.2.1 dX7_pass_29 (by decide) ?_
        exact tw_X7_pass_38 C hret (-2) _ _ _ _ w (lv_sub hl [] rfl) (by decide) h
    · have h := h.1 c5
      exact tw_X7_pass_20 C hret _ _ _ _ w (lv_sub hl [] rfl) h
theorem ct_X7_pass (l : Launch) (G : fb_G) {x1 : Int} {x2 : Int} {σ : fb_St} (ix1 : fb_in x1) (ix2 : fb_in x2) (h : wp_X7_pass x1 x2 σ Q) : fb_MI l G yX7_pass cX7_pass 3 (some .int) rm_X7_pass [.ref (fb_ad G 48), .int (fb_I x1), .int (fb_I x2)] σ Q := by
  refine fb_ofW (own := RX7) (by decide) (Nat.le_of_ble_eq_true rfl) rfl (fun p e s m args below meth c ls C hr hl w => ?_)
  exact tw_X7_pass_0 C (fb_reti C hr) _ _ _ _ _ _ w hl ix1 ix2 h
end S_X7_pass
section S_X7_told
variable {p : Program} {l : Launch} {e : Env} {s : State} {m : MethodId} {args : Array Value} {below : List Frame} {meth : Method} {c : Code} {Qm : State → Prop} {G : fb_G} {Q : Int → fb_St → Prop}
abbrev TT_X7_told_64 (p : Program) (l : Launch) (e : Env) (s : State) (m : MethodId) (args : Array Value) (below : List Frame) (meth : Method) (c : Code) (Qm : State → Prop) (G : fb_G) (r : Int → fb_St → Prop) : Prop := ∀ (s0 : Int) (σ : fb_St) (H : Heap) (locs : List Loc) (ls : Array Slot), fb_Wd G s σ H locs → lv_has ls 3 [] → fb_in s0 → r s0 σ → W p l e rm_X7_told s m args below meth c H locs 0 0 Qm (F0 m 64 ls [.int (fb_I s0)])
abbrev TT_X7_told_0 (p : Program) (l : Launch) (e : Env) (s : State) (m : MethodId) (args : Array Value) (below : List Frame) (meth : Method) (c : Code) (Qm : State → Prop) (G : fb_G) (r : Int → Int → fb_St → Prop) : Prop := ∀ (x1 x2 : Int) (σ : fb_St) (H : Heap) (locs : List Loc) (ls : Array Slot), fb_Wd G s σ H locs → lv_has ls 3 [(0, .ref (fb_ad G 48)), (1, .int (fb_I x1)), (2, .int (fb_I x2))] → fb_in x1 → fb_in x2 → r x1 x2 σ → W p l e rm_X7_told s m args below meth c H locs 0 0 Qm (F0 m 0 ls [])
set_option maxRecDepth 100000 in
set_option maxHeartbeats 4000000 in
theorem tw_X7_told_64 (C : fb_C p s m args meth c G RX7 cX7_told 3) (hret : fb_RI p l e rm_X7_told s m args below meth c G cX7_told Qm Q) : TT_X7_told_64 p l e s m args below meth c Qm G (wj_X7_told_64 Q) := by
  intro s0 σ H locs ls w hl is0 h
  unfold wj_X7_told_64 at h
  exact hret _ _ _ _ _ _ is0 h w dX7_told_64
set_option maxRecDepth 100000 in
set_option maxHeartbeats 4000000 in
theorem tw_X7_told_0 (C : fb_C p s m args meth c G RX7 cX7_told 3) (hret : fb_RI p l e rm_X7_told s m args below meth c G cX7_told Qm Q) : TT_X7_told_0 p l e s m args below meth c Qm G (fun x1 x2 σ => wp_X7_told x1 x2 σ Q) := by
  intro x1 x2 σ H locs ls w hl ix1 ix2 h
  unfold wp_X7_told at h
  refine lv_iload_n C.1.1 C.1.2.1 dX7_told_0 rfl (lv_at hl 1 rfl) ?_
  refine fb_iconst C dX7_told_1 ?_
  refine lv_aload_n C.1.1 C.1.2.1 dX7_told_2 rfl (lv_at hl 0 rfl) ?_
  refine fb_gi C w 17 (fb_k48 C) rfl rfl fl_X7_134 dX7_told_3 ?_
  have i1 := w.2.2.2 48 17
  refine fb_iconst C dX7_told_6 ?_
  obtain ⟨i2, h⟩ := h
  refine fb_isub C dX7_told_7 ?_
  refine fb_callSi (As := [.int (fb_I x1), .int (fb_I 0), .int (fb_I ((σ 48 17) - 1))]) (rest := []) C w (ct_X7_in l G ix1 (by decide) i2 h) ms_X7_65 ⟨rfl, rfl, Nat.le_of_ble_eq_true rfl, Nat.le_of_ble_eq_true rfl, Nat.zero_le _, Nat.zero_le _⟩ rfl hl.1 rfl (Nat.le_of_ble_eq_true rfl) dX7_told_8 (fun a3 σ3 H locs h ia3 w => ?_)
  refine fb_if_ne (tgt := 17) C ia3 dX7_told_11 (by decide) (fun c4 => ?_) (fun c4 => ?_)
  · have h := h.2 c4
    refine lv_iload_n C.1.1 C.1.2.1 dX7_told_17 rfl (lv_at hl 2 rfl) ?_
    refine fb_if_ne (tgt := 30) C ix2 dX7_told_18 (by decide) (fun c5 => ?_) (fun c5 => ?_)
    · have h := h.2 c5
      refine lv_iload_n C.1.1 C.1.2.1 dX7_told_30 rfl (lv_at hl 2 rfl) ?_
      refine fb_iconst C dX7_told_31 ?_
      refine fb_icmp_ne (tgt := 44) C ix2 (by decide) dX7_told_32 (by decide) (fun c6 => ?_) (fun c6 => ?_)
      · have h := h.2 c6
        refine lv_iload_n C.1.1 C.1.2.1 dX7_told_44 rfl (lv_at hl 2 rfl) ?_
        refine fb_iconst C dX7_told_45 ?_
        refine fb_icmp_ne (tgt := 58) C ix2 (by decide) dX7_told_46 (by decide) (fun c7 => ?_) (fun c7 => ?_)
        · have h := h.2 c7
          refine lv_aload_n C.1.1 C.1.2.1 dX7_told_58 rfl (lv_at hl 0 rfl) ?_
          refine fb_getr (k2 := 64) C w (fb_k48 C) rfl fl_X7_56 dX7_told_59 ?_
          refine lv_iload_n C.1.1 C.1.2.1 dX7_told_62 rfl (lv_at hl 1 rfl) ?_
          obtain ⟨z8, z9, h⟩ := h
          refine fb_al C w 100 (fb_k64 C) rfl rfl z8 z9 dX7_told_63 ?_
          have i10 := w.2.2.2 64 x1
          exact tw_X7_told_64 C hret (σ3 64 x1) _ _ _ _ w (lv_sub hl [] rfl) i10 h
        · have h := h.1 c7
          refine lv_aload_n C.1.1 C.1.2.1 dX7_told_49 rfl (lv_at hl 0 rfl) ?_
          refine fb_getr (k2 := 63) C w (fb_k48 C) rfl fl_X7_53 dX7_told_50 ?_
          refine lv_iload_n C.1.1 C.1.2.1 dX7_told_53 rfl (lv_at hl 1 rfl) ?_
          obtain ⟨z11, z12, h⟩ := h
          refine fb_al C w 100 (fb_k63 C) rfl rfl z11 z12 dX7_told_54 ?_
          have i13 := w.2.2.2 63 x1
          refine lv_goto (tgt := 64) C.1.1 C.1.2.1 dX7_told_55 (by decide) ?_
          exact tw_X7_told_64 C hret (σ3 63 x1) _ _ _ _ w (lv_sub hl [] rfl) i13 h
      · have h := h.1 c6
        refine lv_aload_n C.1.1 C.1.2.1 dX7_told_35 rfl (lv_at hl 0 rfl) ?_
        refine fb_getr (k2 := 62) C w (fb_k48 C) rfl fl_X7_50 dX7_told_36 ?_
        refine lv_iload_n C.1.1 C.1.2.1 dX7_told_39 rfl (lv_at hl 1 rfl) ?_
        obtain ⟨z14, z15, h⟩ := h
        refine fb_al C w 100 (fb_k62 C) rfl rfl z14 z15 dX7_told_40 ?_
        have i16 := w.2.2.2 62 x1
        refine lv_goto (tgt := 64) C.1.1 C.1.2.1 dX7_told_41 (by decide) ?_
        exact tw_X7_told_64 C hret (σ3 62 x1) _ _ _ _ w (lv_sub hl [] rfl) i16 h
    · have h := h.1 c5
      refine lv_aload_n C.1.1 C.1.2.1 dX7_told_21 rfl (lv_at hl 0 rfl) ?_
      refine fb_getr (k2 := 61) C w (fb_k48 C) rfl fl_X7_47 dX7_told_22 ?_
      refine lv_iload_n C.1.1 C.1.2.1 dX7_told_25 rfl (lv_at hl 1 rfl) ?_
      obtain ⟨z17, z18, h⟩ := h
      refine fb_al C w 100 (fb_k61 C) rfl rfl z17 z18 dX7_told_26 ?_
      have i19 := w.2.2.2 61 x1
      refine lv_goto (tgt := 64) C.1.1 C.1.2.1 dX7_told_27 (by decide) ?_
      exact tw_X7_told_64 C hret (σ3 61 x1) _ _ _ _ w (lv_sub hl [] rfl) i19 h
  · have h := h.1 c4
    refine fb_bipush C dX7_told_14 (by decide) ?_
    exact hret _ _ _ _ _ _ (by decide) h w dX7_told_16
theorem ct_X7_told (l : Launch) (G : fb_G) {x1 : Int} {x2 : Int} {σ : fb_St} (ix1 : fb_in x1) (ix2 : fb_in x2) (h : wp_X7_told x1 x2 σ Q) : fb_MI l G yX7_told cX7_told 3 (some .int) rm_X7_told [.ref (fb_ad G 48), .int (fb_I x1), .int (fb_I x2)] σ Q := by
  refine fb_ofW (own := RX7) (by decide) (Nat.le_of_ble_eq_true rfl) rfl (fun p e s m args below meth c ls C hr hl w => ?_)
  exact tw_X7_told_0 C (fb_reti C hr) _ _ _ _ _ _ w hl ix1 ix2 h
end S_X7_told
section S_X7_poured
variable {p : Program} {l : Launch} {e : Env} {s : State} {m : MethodId} {args : Array Value} {below : List Frame} {meth : Method} {c : Code} {Qm : State → Prop} {G : fb_G} {Q : Int → fb_St → Prop}
abbrev TT_X7_poured_0 (p : Program) (l : Launch) (e : Env) (s : State) (m : MethodId) (args : Array Value) (below : List Frame) (meth : Method) (c : Code) (Qm : State → Prop) (G : fb_G) (r : Int → Int → fb_St → Prop) : Prop := ∀ (x1 x2 : Int) (σ : fb_St) (H : Heap) (locs : List Loc) (ls : Array Slot), fb_Wd G s σ H locs → lv_has ls 3 [(0, .ref (fb_ad G 48)), (1, .int (fb_I x1)), (2, .int (fb_I x2))] → fb_in x1 → fb_in x2 → r x1 x2 σ → W p l e rm_X7_poured s m args below meth c H locs 0 0 Qm (F0 m 0 ls [])
set_option maxRecDepth 100000 in
set_option maxHeartbeats 4000000 in
theorem tw_X7_poured_0 (C : fb_C p s m args meth c G RX7 cX7_poured 3) (hret : fb_RI p l e rm_X7_poured s m args below meth c G cX7_poured Qm Q) : TT_X7_poured_0 p l e s m args below meth c Qm G (fun x1 x2 σ => wp_X7_poured x1 x2 σ Q) := by
  intro x1 x2 σ H locs ls w hl ix1 ix2 h
  unfold wp_X7_poured at h
  refine lv_iload_n C.1.1 C.1.2.1 dX7_poured_0 rfl (lv_at hl 2 rfl) ?_
  refine fb_iconst C dX7_poured_1 ?_
  refine fb_iconst C dX7_poured_2 ?_
  refine fb_callSi (As := [.int (fb_I x2), .int (fb_I 0), .int (fb_I 3)]) (rest := []) C w (ct_X7_in l G ix2 (by decide) (by decide) h) ms_X7_65 ⟨rfl, rfl, Nat.le_of_ble_eq_true rfl, Nat.le_of_ble_eq_true rfl, Nat.zero_le _, Nat.zero_le _⟩ rfl hl.1 rfl (Nat.le_of_ble_eq_true rfl) dX7_poured_3 (fun a1 σ1 H locs h ia1 w => ?_)
  refine fb_if_ne (tgt := 12) C ia1 dX7_poured_6 (by decide) (fun c2 => ?_) (fun c2 => ?_)
  · have h := h.2 c2
    refine lv_aload_n C.1.1 C.1.2.1 dX7_poured_12 rfl (lv_at hl 0 rfl) ?_
    refine fb_callVv (As := []) (rest := []) C w (ct_X7_pourAsTold l G h) mv_X7_151 (fb_k48 C) rfl ⟨rfl, rfl, Nat.le_of_ble_eq_true rfl, Nat.le_of_ble_eq_true rfl, Nat.zero_le _, Nat.zero_le _⟩ rfl hl.1 rfl (Nat.le_of_ble_eq_true rfl) dX7_poured_13 (fun σ3 H locs h w => ?_)
    refine lv_aload_n C.1.1 C.1.2.1 dX7_poured_16 rfl (lv_at hl 0 rfl) ?_
    refine lv_iload_n C.1.1 C.1.2.1 dX7_poured_17 rfl (lv_at hl 1 rfl) ?_
    refine lv_iload_n C.1.1 C.1.2.1 dX7_poured_18 rfl (lv_at hl 2 rfl) ?_
    refine fb_callVi (As := [.int (fb_I x1), .int (fb_I x2)]) (rest := []) C w (ct_X7_told l G ix1 ix2 h) mv_X7_161 (fb_k48 C) rfl ⟨rfl, rfl, Nat.le_of_ble_eq_true rfl, Nat.le_of_ble_eq_true rfl, Nat.zero_le _, Nat.zero_le _⟩ rfl hl.1 rfl (Nat.le_of_ble_eq_true rfl) dX7_poured_19 (fun a4 σ4 H locs h ia4 w => ?_)
    exact hret _ _ _ _ _ _ ia4 h w dX7_poured_22
  · have h := h.1 c2
    refine fb_bipush C dX7_poured_9 (by decide) ?_
    exact hret _ _ _ _ _ _ (by decide) h w dX7_poured_11
theorem ct_X7_poured (l : Launch) (G : fb_G) {x1 : Int} {x2 : Int} {σ : fb_St} (ix1 : fb_in x1) (ix2 : fb_in x2) (h : wp_X7_poured x1 x2 σ Q) : fb_MI l G yX7_poured cX7_poured 3 (some .int) rm_X7_poured [.ref (fb_ad G 48), .int (fb_I x1), .int (fb_I x2)] σ Q := by
  refine fb_ofW (own := RX7) (by decide) (Nat.le_of_ble_eq_true rfl) rfl (fun p e s m args below meth c ls C hr hl w => ?_)
  exact tw_X7_poured_0 C (fb_reti C hr) _ _ _ _ _ _ w hl ix1 ix2 h
end S_X7_poured
section S_X7_tree
variable {p : Program} {l : Launch} {e : Env} {s : State} {m : MethodId} {args : Array Value} {below : List Frame} {meth : Method} {c : Code} {Qm : State → Prop} {G : fb_G} {Q : Int → fb_St → Prop}
abbrev TT_X7_tree_0 (p : Program) (l : Launch) (e : Env) (s : State) (m : MethodId) (args : Array Value) (below : List Frame) (meth : Method) (c : Code) (Qm : State → Prop) (G : fb_G) (r : Int → Int → fb_St → Prop) : Prop := ∀ (x1 x2 : Int) (σ : fb_St) (H : Heap) (locs : List Loc) (ls : Array Slot), fb_Wd G s σ H locs → lv_has ls 3 [(0, .ref (fb_ad G 48)), (1, .int (fb_I x1)), (2, .int (fb_I x2))] → fb_in x1 → fb_in x2 → r x1 x2 σ → W p l e rm_X7_tree s m args below meth c H locs 0 0 Qm (F0 m 0 ls [])
set_option maxRecDepth 100000 in
set_option maxHeartbeats 4000000 in
theorem tw_X7_tree_0 (C : fb_C p s m args meth c G RX7 cX7_tree 3) (hret : fb_RI p l e rm_X7_tree s m args below meth c G cX7_tree Qm Q) : TT_X7_tree_0 p l e s m args below meth c Qm G (fun x1 x2 σ => wp_X7_tree x1 x2 σ Q) := by
  intro x1 x2 σ H locs ls w hl ix1 ix2 h
  unfold wp_X7_tree at h
  refine lv_iload_n C.1.1 C.1.2.1 dX7_tree_0 rfl (lv_at hl 2 rfl) ?_
  refine fb_iconst C dX7_tree_1 ?_
  refine fb_iconst C dX7_tree_2 ?_
  refine fb_callSi (As := [.int (fb_I x2), .int (fb_I 0), .int (fb_I 3)]) (rest := []) C w (ct_X7_in l G ix2 (by decide) (by decide) h) ms_X7_65 ⟨rfl, rfl, Nat.le_of_ble_eq_true rfl, Nat.le_of_ble_eq_true rfl, Nat.zero_le _, Nat.zero_le _⟩ rfl hl.1 rfl (Nat.le_of_ble_eq_true rfl) dX7_tree_3 (fun a1 σ1 H locs h ia1 w => ?_)
  refine fb_if_ne (tgt := 12) C ia1 dX7_tree_6 (by decide) (fun c2 => ?_) (fun c2 => ?_)
  · have h := h.2 c2
    refine lv_aload_n C.1.1 C.1.2.1 dX7_tree_12 rfl (lv_at hl 0 rfl) ?_
    refine fb_iconst C dX7_tree_13 ?_
    refine fb_bipush C dX7_tree_14 (by decide) ?_
    refine fb_callVv (As := [.int (fb_I 0), .int (fb_I (-6))]) (rest := []) C w (ct_X7_pour l G (by decide) (by decide) h) mv_X7_147 (fb_k48 C) rfl ⟨rfl, rfl, Nat.le_of_ble_eq_true rfl, Nat.le_of_ble_eq_true rfl, Nat.zero_le _, Nat.zero_le _⟩ rfl hl.1 rfl (Nat.le_of_ble_eq_true rfl) dX7_tree_16 (fun σ3 H locs h w => ?_)
    refine lv_aload_n C.1.1 C.1.2.1 dX7_tree_19 rfl (lv_at hl 0 rfl) ?_
    refine lv_iload_n C.1.1 C.1.2.1 dX7_tree_20 rfl (lv_at hl 1 rfl) ?_
    refine lv_iload_n C.1.1 C.1.2.1 dX7_tree_21 rfl (lv_at hl 2 rfl) ?_
    refine fb_callVi (As := [.int (fb_I x1), .int (fb_I x2)]) (rest := []) C w (ct_X7_told l G ix1 ix2 h) mv_X7_161 (fb_k48 C) rfl ⟨rfl, rfl, Nat.le_of_ble_eq_true rfl, Nat.le_of_ble_eq_true rfl, Nat.zero_le _, Nat.zero_le _⟩ rfl hl.1 rfl (Nat.le_of_ble_eq_true rfl) dX7_tree_22 (fun a4 σ4 H locs h ia4 w => ?_)
    exact hret _ _ _ _ _ _ ia4 h w dX7_tree_25
  · have h := h.1 c2
    refine fb_bipush C dX7_tree_9 (by decide) ?_
    exact hret _ _ _ _ _ _ (by decide) h w dX7_tree_11
theorem ct_X7_tree (l : Launch) (G : fb_G) {x1 : Int} {x2 : Int} {σ : fb_St} (ix1 : fb_in x1) (ix2 : fb_in x2) (h : wp_X7_tree x1 x2 σ Q) : fb_MI l G yX7_tree cX7_tree 3 (some .int) rm_X7_tree [.ref (fb_ad G 48), .int (fb_I x1), .int (fb_I x2)] σ Q := by
  refine fb_ofW (own := RX7) (by decide) (Nat.le_of_ble_eq_true rfl) rfl (fun p e s m args below meth c ls C hr hl w => ?_)
  exact tw_X7_tree_0 C (fb_reti C hr) _ _ _ _ _ _ w hl ix1 ix2 h
end S_X7_tree
section S_X7_over
variable {p : Program} {l : Launch} {e : Env} {s : State} {m : MethodId} {args : Array Value} {below : List Frame} {meth : Method} {c : Code} {Qm : State → Prop} {G : fb_G} {Q : Int → fb_St → Prop}
abbrev TT_X7_over_19 (p : Program) (l : Launch) (e : Env) (s : State) (m : MethodId) (args : Array Value) (below : List Frame) (meth : Method) (c : Code) (Qm : State → Prop) (G : fb_G) (r : fb_St → Prop) : Prop := ∀ (σ : fb_St) (H : Heap) (locs : List Loc) (ls : Array Slot), fb_Wd G s σ H locs → lv_has ls 8 [] → r σ → W p l e rm_X7_over s m args below meth c H locs 0 0 Qm (F0 m 19 ls [])
abbrev TT_X7_over_68 (p : Program) (l : Launch) (e : Env) (s : State) (m : MethodId) (args : Array Value) (below : List Frame) (meth : Method) (c : Code) (Qm : State → Prop) (G : fb_G) (r : Int → Int → Int → fb_St → Prop) : Prop := ∀ (x5 x6 x7 : Int) (σ : fb_St) (H : Heap) (locs : List Loc) (ls : Array Slot), fb_Wd G s σ H locs → lv_has ls 8 [(0, .ref (fb_ad G 48)), (5, .int (fb_I x5)), (6, .int (fb_I x6)), (7, .int (fb_I x7))] → fb_in x5 → fb_in x6 → fb_in x7 → r x5 x6 x7 σ → W p l e rm_X7_over s m args below meth c H locs 0 0 Qm (F0 m 68 ls [])
abbrev TT_X7_over_0 (p : Program) (l : Launch) (e : Env) (s : State) (m : MethodId) (args : Array Value) (below : List Frame) (meth : Method) (c : Code) (Qm : State → Prop) (G : fb_G) (r : Int → Int → Int → Int → fb_St → Prop) : Prop := ∀ (x1 x2 x3 x4 : Int) (σ : fb_St) (H : Heap) (locs : List Loc) (ls : Array Slot), fb_Wd G s σ H locs → lv_has ls 8 [(0, .ref (fb_ad G 48)), (1, .int (fb_I x1)), (2, .int (fb_I x2)), (3, .int (fb_I x3)), (4, .int (fb_I x4))] → fb_in x1 → fb_in x2 → fb_in x3 → fb_in x4 → r x1 x2 x3 x4 σ → W p l e rm_X7_over s m args below meth c H locs 0 0 Qm (F0 m 0 ls [])
set_option maxRecDepth 100000 in
set_option maxHeartbeats 4000000 in
theorem tw_X7_over_19 (C : fb_C p s m args meth c G RX7 cX7_over 8) (hret : fb_RI p l e rm_X7_over s m args below meth c G cX7_over Qm Q) : TT_X7_over_19 p l e s m args below meth c Qm G (wj_X7_over_19 Q) := by
  intro σ H locs ls w hl h
  unfold wj_X7_over_19 at h
  refine fb_bipush C dX7_over_19 (by decide) ?_
  exact hret _ _ _ _ _ _ (by decide) h w dX7_over_21
set_option maxRecDepth 100000 in
set_option maxHeartbeats 4000000 in
theorem tw_X7_over_68 (C : fb_C p s m args meth c G RX7 cX7_over 8) (hret : fb_RI p l e rm_X7_over s m args below meth c G cX7_over Qm Q) {r68 : Int → Int → Int → fb_St → Prop} (h68 : TT_X7_over_68 p l e s m args below meth c Qm G r68) : TT_X7_over_68 p l e s m args below meth c Qm G (wb_X7_over_68 r68 Q) := by
  intro x5 x6 x7 σ H locs ls w hl ix5 ix6 ix7 h
  unfold wb_X7_over_68 at h
  refine lv_aload_n C.1.1 C.1.2.1 dX7_over_68 rfl (lv_at hl 0 rfl) ?_
  refine fb_getr (k2 := 54) C w (fb_k48 C) rfl fl_X7_26 dX7_over_69 ?_
  refine lv_iload C.1.1 C.1.2.1 dX7_over_72 (lv_at hl 2 rfl) ?_
  obtain ⟨z15, z16, h⟩ := h
  refine fb_zl C w 144 (fb_k54 C) rfl rfl z15 z16 dX7_over_74 ?_
  have i17 := w.2.2.2 54 x6
  refine fb_if_ne (tgt := 94) C i17 dX7_over_75 (by decide) (fun c18 => ?_) (fun c18 => ?_)
  · have h := h.2 c18
    refine lv_iload C.1.1 C.1.2.1 dX7_over_94 (lv_at hl 3 rfl) ?_
    exact hret _ _ _ _ _ _ ix7 h w dX7_over_96
  · have h := h.1 c18
    obtain ⟨i19, h⟩ := h
    refine fb_iinc (b := x7 + 1) (k := 3) (lv' := [(7, .int (fb_I (x7 + 1))), (0, .ref (fb_ad G 48)), (5, .int (fb_I x5)), (6, .int (fb_I x6))]) C dX7_over_78 hl rfl rfl (by decide) rfl (fun ls hl => ?_)
    refine lv_aload_n C.1.1 C.1.2.1 dX7_over_81 rfl (lv_at hl 1 rfl) ?_
    refine lv_iload C.1.1 C.1.2.1 dX7_over_82 (lv_at hl 2 rfl) ?_
    refine lv_iload C.1.1 C.1.2.1 dX7_over_84 (lv_at hl 0 rfl) ?_
    refine fb_iconst C dX7_over_86 ?_
    refine fb_callVi (As := [.int (fb_I x5), .int (fb_I (x7 + 1)), .int (fb_I 0)]) (rest := []) C w (ct_X7_spread l G ix5 i19 (by decide) h) mv_X7_84 (fb_k48 C) rfl ⟨rfl, rfl, Nat.le_of_ble_eq_true rfl, Nat.le_of_ble_eq_true rfl, Nat.zero_le _, Nat.zero_le _⟩ rfl hl.1 rfl (Nat.le_of_ble_eq_true rfl) dX7_over_87 (fun a20 σ20 H locs h ia20 w => ?_)
    refine lv_pop C.1.1 C.1.2.1 dX7_over_90 rfl ?_
    refine lv_goto (tgt := 68) C.1.1 C.1.2.1 dX7_over_91 (by decide) ?_
    exact h68 x5 x6 (x7 + 1) _ _ _ _ w (lv_sub hl [1, 2, 3, 0] rfl) ix5 ix6 i19 h
theorem tl_X7_over_68 (C : fb_C p s m args meth c G RX7 cX7_over 8) (hret : fb_RI p l e rm_X7_over s m args below meth c G cX7_over Qm Q) : ∀ n : Nat, TT_X7_over_68 p l e s m args below meth c Qm G (wl_X7_over_68 Q n) := by
  intro n
  induction n with
  | zero => intro x5 x6 x7 σ H locs ls w hl ix5 ix6 ix7 h; exact h.elim
  | succ n ih => exact tw_X7_over_68 C hret ih
set_option maxRecDepth 100000 in
set_option maxHeartbeats 4000000 in
theorem tw_X7_over_0 (C : fb_C p s m args meth c G RX7 cX7_over 8) (hret : fb_RI p l e rm_X7_over s m args below meth c G cX7_over Qm Q) : TT_X7_over_0 p l e s m args below meth c Qm G (fun x1 x2 x3 x4 σ => wp_X7_over x1 x2 x3 x4 σ Q) := by
  intro x1 x2 x3 x4 σ H locs ls w hl ix1 ix2 ix3 ix4 h
  unfold wp_X7_over at h
  refine lv_aload_n C.1.1 C.1.2.1 dX7_over_0 rfl (lv_at hl 0 rfl) ?_
  refine lv_iload_n C.1.1 C.1.2.1 dX7_over_1 rfl (lv_at hl 1 rfl) ?_
  refine lv_iload_n C.1.1 C.1.2.1 dX7_over_2 rfl (lv_at hl 2 rfl) ?_
  refine fb_callVi (As := [.int (fb_I x1), .int (fb_I x2)]) (rest := []) C w (ct_X7_isDot l G ix1 ix2 h) mv_X7_69 (fb_k48 C) rfl ⟨rfl, rfl, Nat.le_of_ble_eq_true rfl, Nat.le_of_ble_eq_true rfl, Nat.zero_le _, Nat.zero_le _⟩ rfl hl.1 rfl (Nat.le_of_ble_eq_true rfl) dX7_over_3 (fun a1 σ1 H locs h ia1 w => ?_)
  refine fb_if_eq (tgt := 19) C ia1 dX7_over_6 (by decide) (fun c2 => ?_) (fun c2 => ?_)
  · have h := h.1 c2
    exact tw_X7_over_19 C hret _ _ _ _ w (lv_sub hl [] rfl) h
  · have h := h.2 c2
    refine lv_aload_n C.1.1 C.1.2.1 dX7_over_9 rfl (lv_at hl 0 rfl) ?_
    refine lv_iload_n C.1.1 C.1.2.1 dX7_over_10 rfl (lv_at hl 3 rfl) ?_
    refine lv_iload C.1.1 C.1.2.1 dX7_over_11 (lv_at hl 4 rfl) ?_
    refine fb_callVi (As := [.int (fb_I x3), .int (fb_I x4)]) (rest := []) C w (ct_X7_isDot l G ix3 ix4 h) mv_X7_69 (fb_k48 C) rfl ⟨rfl, rfl, Nat.le_of_ble_eq_true rfl, Nat.le_of_ble_eq_true rfl, Nat.zero_le _, Nat.zero_le _⟩ rfl hl.1 rfl (Nat.le_of_ble_eq_true rfl) dX7_over_13 (fun a3 σ3 H locs h ia3 w => ?_)
    refine fb_if_ne (tgt := 22) C ia3 dX7_over_16 (by decide) (fun c4 => ?_) (fun c4 => ?_)
    · have h := h.2 c4
      refine lv_aload_n C.1.1 C.1.2.1 dX7_over_22 rfl (lv_at hl 0 rfl) ?_
      refine lv_iload_n C.1.1 C.1.2.1 dX7_over_23 rfl (lv_at hl 1 rfl) ?_
      refine lv_iload_n C.1.1 C.1.2.1 dX7_over_24 rfl (lv_at hl 2 rfl) ?_
      refine fb_callVi (As := [.int (fb_I x1), .int (fb_I x2)]) (rest := []) C w (ct_X7_at l G ix1 ix2 h) mv_X7_73 (fb_k48 C) rfl ⟨rfl, rfl, Nat.le_of_ble_eq_true rfl, Nat.le_of_ble_eq_true rfl, Nat.zero_le _, Nat.zero_le _⟩ rfl hl.1 rfl (Nat.le_of_ble_eq_true rfl) dX7_over_25 (fun a5 σ5 H locs h ia5 w => ?_)
      refine lv_istore (lv' := [(5, .int (fb_I a5)), (0, .ref (fb_ad G 48)), (1, .int (fb_I x1)), (2, .int (fb_I x2)), (3, .int (fb_I x3)), (4, .int (fb_I x4))]) C.1.1 C.1.2.1 dX7_over_28 hl (by decide) rfl (fun ls hl => ?_)
      refine lv_aload_n C.1.1 C.1.2.1 dX7_over_30 rfl (lv_at hl 1 rfl) ?_
      refine lv_iload_n C.1.1 C.1.2.1 dX7_over_31 rfl (lv_at hl 4 rfl) ?_
      refine lv_iload C.1.1 C.1.2.1 dX7_over_32 (lv_at hl 5 rfl) ?_
      refine fb_callVi (As := [.int (fb_I x3), .int (fb_I x4)]) (rest := []) C w (ct_X7_at l G ix3 ix4 h) mv_X7_73 (fb_k48 C) rfl ⟨rfl, rfl, Nat.le_of_ble_eq_true rfl, Nat.le_of_ble_eq_true rfl, Nat.zero_le _, Nat.zero_le _⟩ rfl hl.1 rfl (Nat.le_of_ble_eq_true rfl) dX7_over_34 (fun a6 σ6 H locs h ia6 w => ?_)
      refine lv_istore (lv' := [(6, .int (fb_I a6)), (5, .int (fb_I a5)), (0, .ref (fb_ad G 48)), (1, .int (fb_I x1)), (2, .int (fb_I x2)), (3, .int (fb_I x3)), (4, .int (fb_I x4))]) C.1.1 C.1.2.1 dX7_over_37 hl (by decide) rfl (fun ls hl => ?_)
      refine lv_aload_n C.1.1 C.1.2.1 dX7_over_39 rfl (lv_at hl 2 rfl) ?_
      refine fb_getr (k2 := 49) C w (fb_k48 C) rfl fl_X7_7 dX7_over_40 ?_
      refine lv_iload C.1.1 C.1.2.1 dX7_over_43 (lv_at hl 1 rfl) ?_
      obtain ⟨z7, z8, h⟩ := h
      refine fb_al C w 292 (fb_k49 C) rfl rfl z7 z8 dX7_over_45 ?_
      have i9 := w.2.2.2 49 a5
      refine lv_aload_n C.1.1 C.1.2.1 dX7_over_46 rfl (lv_at hl 2 rfl) ?_
      refine fb_getr (k2 := 49) C w (fb_k48 C) rfl fl_X7_7 dX7_over_47 ?_
      refine lv_iload C.1.1 C.1.2.1 dX7_over_50 (lv_at hl 0 rfl) ?_
      obtain ⟨z10, z11, h⟩ := h
      refine fb_al C w 292 (fb_k49 C) rfl rfl z10 z11 dX7_over_52 ?_
      have i12 := w.2.2.2 49 a6
      refine fb_callSi (As := [.int (fb_I (σ6 49 a5)), .int (fb_I (σ6 49 a6))]) (rest := []) C w (ct_X7_greater l G i9 i12 h) ms_X7_98 ⟨rfl, rfl, Nat.le_of_ble_eq_true rfl, Nat.le_of_ble_eq_true rfl, Nat.zero_le _, Nat.zero_le _⟩ rfl hl.1 rfl (Nat.le_of_ble_eq_true rfl) dX7_over_53 (fun a13 σ13 H locs h ia13 w => ?_)
      refine lv_istore (lv' := [(7, .int (fb_I a13)), (6, .int (fb_I a6)), (5, .int (fb_I a5)), (0, .ref (fb_ad G 48)), (1, .int (fb_I x1)), (2, .int (fb_I x2)), (3, .int (fb_I x3)), (4, .int (fb_I x4))]) C.1.1 C.1.2.1 dX7_over_56 hl (by decide) rfl (fun ls hl => ?_)
      refine lv_aload_n C.1.1 C.1.2.1 dX7_over_58 rfl (lv_at hl 3 rfl) ?_
      refine lv_iload C.1.1 C.1.2.1 dX7_over_59 (lv_at hl 2 rfl) ?_
      refine lv_iload C.1.1 C.1.2.1 dX7_over_61 (lv_at hl 0 rfl) ?_
      refine fb_iconst C dX7_over_63 ?_
      refine fb_callVi (As := [.int (fb_I a5), .int (fb_I a13), .int (fb_I 0)]) (rest := []) C w (ct_X7_spread l G ia5 ia13 (by decide) h) mv_X7_84 (fb_k48 C) rfl ⟨rfl, rfl, Nat.le_of_ble_eq_true rfl, Nat.le_of_ble_eq_true rfl, Nat.zero_le _, Nat.zero_le _⟩ rfl hl.1 rfl (Nat.le_of_ble_eq_true rfl) dX7_over_64 (fun a14 σ14 H locs h ia14 w => ?_)
      refine lv_pop C.1.1 C.1.2.1 dX7_over_67 rfl ?_
      obtain ⟨n, h⟩ := h
      exact tl_X7_over_68 C hret n a5 a6 a13 _ _ _ _ w (lv_sub hl [3, 2, 1, 0] rfl) ia5 ia6 ia13 h
    · have h := h.1 c4
      exact tw_X7_over_19 C hret _ _ _ _ w (lv_sub hl [] rfl) h
theorem ct_X7_over (l : Launch) (G : fb_G) {x1 : Int} {x2 : Int} {x3 : Int} {x4 : Int} {σ : fb_St} (ix1 : fb_in x1) (ix2 : fb_in x2) (ix3 : fb_in x3) (ix4 : fb_in x4) (h : wp_X7_over x1 x2 x3 x4 σ Q) : fb_MI l G yX7_over cX7_over 8 (some .int) rm_X7_over [.ref (fb_ad G 48), .int (fb_I x1), .int (fb_I x2), .int (fb_I x3), .int (fb_I x4)] σ Q := by
  refine fb_ofW (own := RX7) (by decide) (Nat.le_of_ble_eq_true rfl) rfl (fun p e s m args below meth c ls C hr hl w => ?_)
  exact tw_X7_over_0 C (fb_reti C hr) _ _ _ _ _ _ _ _ w hl ix1 ix2 ix3 ix4 h
end S_X7_over
section S_X7_wet
variable {p : Program} {l : Launch} {e : Env} {s : State} {m : MethodId} {args : Array Value} {below : List Frame} {meth : Method} {c : Code} {Qm : State → Prop} {G : fb_G} {Q : Int → fb_St → Prop}
abbrev TT_X7_wet_29 (p : Program) (l : Launch) (e : Env) (s : State) (m : MethodId) (args : Array Value) (below : List Frame) (meth : Method) (c : Code) (Qm : State → Prop) (G : fb_G) (r : fb_St → Prop) : Prop := ∀ (σ : fb_St) (H : Heap) (locs : List Loc) (ls : Array Slot), fb_Wd G s σ H locs → lv_has ls 9 [] → r σ → W p l e rm_X7_wet s m args below meth c H locs 0 0 Qm (F0 m 29 ls [])
abbrev TT_X7_wet_63 (p : Program) (l : Launch) (e : Env) (s : State) (m : MethodId) (args : Array Value) (below : List Frame) (meth : Method) (c : Code) (Qm : State → Prop) (G : fb_G) (r : Int → fb_St → Prop) : Prop := ∀ (s0 : Int) (σ : fb_St) (H : Heap) (locs : List Loc) (ls : Array Slot), fb_Wd G s σ H locs → lv_has ls 9 [] → fb_in s0 → r s0 σ → W p l e rm_X7_wet s m args below meth c H locs 0 0 Qm (F0 m 63 ls [.int (fb_I s0)])
abbrev TT_X7_wet_137 (p : Program) (l : Launch) (e : Env) (s : State) (m : MethodId) (args : Array Value) (below : List Frame) (meth : Method) (c : Code) (Qm : State → Prop) (G : fb_G) (r : Int → fb_St → Prop) : Prop := ∀ (s0 : Int) (σ : fb_St) (H : Heap) (locs : List Loc) (ls : Array Slot), fb_Wd G s σ H locs → lv_has ls 9 [] → fb_in s0 → r s0 σ → W p l e rm_X7_wet s m args below meth c H locs 0 0 Qm (F0 m 137 ls [.int (fb_I s0)])
abbrev TT_X7_wet_93 (p : Program) (l : Launch) (e : Env) (s : State) (m : MethodId) (args : Array Value) (below : List Frame) (meth : Method) (c : Code) (Qm : State → Prop) (G : fb_G) (r : Int → Int → Int → Int → Int → fb_St → Prop) : Prop := ∀ (x3 x4 x6 x7 x8 : Int) (σ : fb_St) (H : Heap) (locs : List Loc) (ls : Array Slot), fb_Wd G s σ H locs → lv_has ls 9 [(0, .ref (fb_ad G 48)), (3, .int (fb_I x3)), (4, .int (fb_I x4)), (6, .int (fb_I x6)), (7, .int (fb_I x7)), (8, .int (fb_I x8))] → fb_in x3 → fb_in x4 → fb_in x6 → fb_in x7 → fb_in x8 → r x3 x4 x6 x7 x8 σ → W p l e rm_X7_wet s m args below meth c H locs 0 0 Qm (F0 m 93 ls [])
abbrev TT_X7_wet_0 (p : Program) (l : Launch) (e : Env) (s : State) (m : MethodId) (args : Array Value) (below : List Frame) (meth : Method) (c : Code) (Qm : State → Prop) (G : fb_G) (r : Int → Int → Int → Int → fb_St → Prop) : Prop := ∀ (x1 x2 x3 x4 : Int) (σ : fb_St) (H : Heap) (locs : List Loc) (ls : Array Slot), fb_Wd G s σ H locs → lv_has ls 9 [(0, .ref (fb_ad G 48)), (1, .int (fb_I x1)), (2, .int (fb_I x2)), (3, .int (fb_I x3)), (4, .int (fb_I x4))] → fb_in x1 → fb_in x2 → fb_in x3 → fb_in x4 → r x1 x2 x3 x4 σ → W p l e rm_X7_wet s m args below meth c H locs 0 0 Qm (F0 m 0 ls [])
set_option maxRecDepth 100000 in
set_option maxHeartbeats 4000000 in
theorem tw_X7_wet_29 (C : fb_C p s m args meth c G RX7 cX7_wet 9) (hret : fb_RI p l e rm_X7_wet s m args below meth c G cX7_wet Qm Q) : TT_X7_wet_29 p l e s m args below meth c Qm G (wj_X7_wet_29 Q) := by
  intro σ H locs ls w hl h
  unfold wj_X7_wet_29 at h
  refine fb_bipush C dX7_wet_29 (by decide) ?_
  exact hret _ _ _ _ _ _ (by decide) h w dX7_wet_31
set_option maxRecDepth 100000 in
set_option maxHeartbeats 4000000 in
theorem tw_X7_wet_63 (C : fb_C p s m args meth c G RX7 cX7_wet 9) (hret : fb_RI p l e rm_X7_wet s m args below meth c G cX7_wet Qm Q) : TT_X7_wet_63 p l e s m args below meth c Qm G (wj_X7_wet_63 Q) := by
  intro s0 σ H locs ls w hl is0 h
  unfold wj_X7_wet_63 at h
  exact hret _ _ _ _ _ _ is0 h w dX7_wet_63
set_option maxRecDepth 100000 in
set_option maxHeartbeats 4000000 in
theorem tw_X7_wet_137 (C : fb_C p s m args meth c G RX7 cX7_wet 9) (hret : fb_RI p l e rm_X7_wet s m args below meth c G cX7_wet Qm Q) : TT_X7_wet_137 p l e s m args below meth c Qm G (wj_X7_wet_137 Q) := by
  intro s0 σ H locs ls w hl is0 h
  unfold wj_X7_wet_137 at h
  exact hret _ _ _ _ _ _ is0 h w dX7_wet_137
set_option maxRecDepth 100000 in
set_option maxHeartbeats 4000000 in
theorem tw_X7_wet_93 (C : fb_C p s m args meth c G RX7 cX7_wet 9) (hret : fb_RI p l e rm_X7_wet s m args below meth c G cX7_wet Qm Q) {r93 : Int → Int → Int → Int → Int → fb_St → Prop} (h93 : TT_X7_wet_93 p l e s m args below meth c Qm G r93) : TT_X7_wet_93 p l e s m args below meth c Qm G (wb_X7_wet_93 r93 Q) := by
  intro x3 x4 x6 x7 x8 σ H locs ls w hl ix3 ix4 ix6 ix7 ix8 h
  unfold wb_X7_wet_93 at h
  refine lv_iload C.1.1 C.1.2.1 dX7_wet_93 (lv_at hl 5 rfl) ?_
  refine lv_iload C.1.1 C.1.2.1 dX7_wet_95 (lv_at hl 3 rfl) ?_
  refine fb_icmp_ge (tgt := 125) C ix8 ix6 dX7_wet_97 (by decide) (fun c16 => ?_) (fun c16 => ?_)
  · have h := h.2 c16
    refine lv_iload C.1.1 C.1.2.1 dX7_wet_125 (lv_at hl 2 rfl) ?_
    refine fb_if_ne (tgt := 135) C ix4 dX7_wet_127 (by decide) (fun c17 => ?_) (fun c17 => ?_)
    · have h := h.2 c17
      refine lv_iload C.1.1 C.1.2.1 dX7_wet_135 (lv_at hl 4 rfl) ?_
      exact tw_X7_wet_137 C hret x7 _ _ _ _ w (lv_sub hl [] rfl) ix7 h
    · have h := h.1 c17
      refine lv_iload C.1.1 C.1.2.1 dX7_wet_130 (lv_at hl 3 rfl) ?_
      refine lv_goto (tgt := 137) C.1.1 C.1.2.1 dX7_wet_132 (by decide) ?_
      exact tw_X7_wet_137 C hret x6 _ _ _ _ w (lv_sub hl [] rfl) ix6 h
  · have h := h.1 c16
    refine lv_iload C.1.1 C.1.2.1 dX7_wet_100 (lv_at hl 4 rfl) ?_
    refine lv_iload_n C.1.1 C.1.2.1 dX7_wet_102 rfl (lv_at hl 1 rfl) ?_
    refine lv_aload_n C.1.1 C.1.2.1 dX7_wet_103 rfl (lv_at hl 0 rfl) ?_
    refine fb_getr (k2 := 49) C w (fb_k48 C) rfl fl_X7_7 dX7_wet_104 ?_
    refine lv_aload_n C.1.1 C.1.2.1 dX7_wet_107 rfl (lv_at hl 0 rfl) ?_
    refine fb_getr (k2 := 53) C w (fb_k48 C) rfl fl_X7_23 dX7_wet_108 ?_
    refine lv_iload C.1.1 C.1.2.1 dX7_wet_111 (lv_at hl 5 rfl) ?_
    obtain ⟨z18, z19, h⟩ := h
    refine fb_al C w 144 (fb_k53 C) rfl rfl z18 z19 dX7_wet_113 ?_
    have i20 := w.2.2.2 53 x8
    obtain ⟨z21, z22, h⟩ := h
    refine fb_al C w 292 (fb_k49 C) rfl rfl z21 z22 dX7_wet_114 ?_
    have i23 := w.2.2.2 49 (σ 53 x8)
    obtain ⟨i24, h⟩ := h
    refine fb_isub C dX7_wet_115 ?_
    obtain ⟨i25, h⟩ := h
    refine fb_iadd C dX7_wet_116 ?_
    refine fb_top (fun v26 ev26 => ?_)
    have h := h v26 ev26
    have iv26 := fb_ie ev26 i25
    refine lv_istore (lv' := [(7, .int (fb_I v26)), (0, .ref (fb_ad G 48)), (3, .int (fb_I x3)), (4, .int (fb_I x4)), (6, .int (fb_I x6)), (8, .int (fb_I x8))]) C.1.1 C.1.2.1 dX7_wet_117 hl (by decide) rfl (fun ls hl => ?_)
    obtain ⟨i27, h⟩ := h
    refine fb_iinc (b := x8 + 1) (k := 5) (lv' := [(8, .int (fb_I (x8 + 1))), (7, .int (fb_I v26)), (0, .ref (fb_ad G 48)), (3, .int (fb_I x3)), (4, .int (fb_I x4)), (6, .int (fb_I x6))]) C dX7_wet_119 hl rfl rfl (by decide) rfl (fun ls hl => ?_)
    refine lv_goto (tgt := 93) C.1.1 C.1.2.1 dX7_wet_122 (by decide) ?_
    exact h93 x3 x4 x6 v26 (x8 + 1) _ _ _ _ w (lv_sub hl [2, 3, 4, 5, 1, 0] rfl) ix3 ix4 ix6 iv26 i27 h
theorem tl_X7_wet_93 (C : fb_C p s m args meth c G RX7 cX7_wet 9) (hret : fb_RI p l e rm_X7_wet s m args below meth c G cX7_wet Qm Q) : ∀ n : Nat, TT_X7_wet_93 p l e s m args below meth c Qm G (wl_X7_wet_93 Q n) := by
  intro n
  induction n with
  | zero => intro x3 x4 x6 x7 x8 σ H locs ls w hl ix3 ix4 ix6 ix7 ix8 h; exact h.elim
  | succ n ih => exact tw_X7_wet_93 C hret ih
set_option maxRecDepth 100000 in
set_option maxHeartbeats 4000000 in
theorem tw_X7_wet_0 (C : fb_C p s m args meth c G RX7 cX7_wet 9) (hret : fb_RI p l e rm_X7_wet s m args below meth c G cX7_wet Qm Q) : TT_X7_wet_0 p l e s m args below meth c Qm G (fun x1 x2 x3 x4 σ => wp_X7_wet x1 x2 x3 x4 σ Q) := by
  intro x1 x2 x3 x4 σ H locs ls w hl ix1 ix2 ix3 ix4 h
  unfold wp_X7_wet at h
  refine lv_aload_n C.1.1 C.1.2.1 dX7_wet_0 rfl (lv_at hl 0 rfl) ?_
  refine lv_iload_n C.1.1 C.1.2.1 dX7_wet_1 rfl (lv_at hl 1 rfl) ?_
  refine lv_iload_n C.1.1 C.1.2.1 dX7_wet_2 rfl (lv_at hl 2 rfl) ?_
  refine fb_callVi (As := [.int (fb_I x1), .int (fb_I x2)]) (rest := []) C w (ct_X7_isDot l G ix1 ix2 h) mv_X7_69 (fb_k48 C) rfl ⟨rfl, rfl, Nat.le_of_ble_eq_true rfl, Nat.le_of_ble_eq_true rfl, Nat.zero_le _, Nat.zero_le _⟩ rfl hl.1 rfl (Nat.le_of_ble_eq_true rfl) dX7_wet_3 (fun a1 σ1 H locs h ia1 w => ?_)
  refine fb_if_eq (tgt := 29) C ia1 dX7_wet_6 (by decide) (fun c2 => ?_) (fun c2 => ?_)
  · have h := h.1 c2
    exact tw_X7_wet_29 C hret _ _ _ _ w (lv_sub hl [] rfl) h
  · have h := h.2 c2
    refine lv_iload_n C.1.1 C.1.2.1 dX7_wet_9 rfl (lv_at hl 3 rfl) ?_
    refine fb_iconst C dX7_wet_10 ?_
    refine fb_bipush C dX7_wet_11 (by decide) ?_
    refine fb_callSi (As := [.int (fb_I x3), .int (fb_I 0), .int (fb_I 99)]) (rest := []) C w (ct_X7_in l G ix3 (by decide) (by decide) h) ms_X7_65 ⟨rfl, rfl, Nat.le_of_ble_eq_true rfl, Nat.le_of_ble_eq_true rfl, Nat.zero_le _, Nat.zero_le _⟩ rfl hl.1 rfl (Nat.le_of_ble_eq_true rfl) dX7_wet_13 (fun a3 σ3 H locs h ia3 w => ?_)
    refine fb_if_eq (tgt := 29) C ia3 dX7_wet_16 (by decide) (fun c4 => ?_) (fun c4 => ?_)
    · have h := h.1 c4
      exact tw_X7_wet_29 C hret _ _ _ _ w (lv_sub hl [] rfl) h
    · have h := h.2 c4
      refine lv_iload C.1.1 C.1.2.1 dX7_wet_19 (lv_at hl 4 rfl) ?_
      refine fb_iconst C dX7_wet_21 ?_
      refine fb_iconst C dX7_wet_22 ?_
      refine fb_callSi (As := [.int (fb_I x4), .int (fb_I 0), .int (fb_I 2)]) (rest := []) C w (ct_X7_in l G ix4 (by decide) (by decide) h) ms_X7_65 ⟨rfl, rfl, Nat.le_of_ble_eq_true rfl, Nat.le_of_ble_eq_true rfl, Nat.zero_le _, Nat.zero_le _⟩ rfl hl.1 rfl (Nat.le_of_ble_eq_true rfl) dX7_wet_23 (fun a5 σ5 H locs h ia5 w => ?_)
      refine fb_if_ne (tgt := 32) C ia5 dX7_wet_26 (by decide) (fun c6 => ?_) (fun c6 => ?_)
      · have h := h.2 c6
        refine lv_aload_n C.1.1 C.1.2.1 dX7_wet_32 rfl (lv_at hl 0 rfl) ?_
        refine lv_iload_n C.1.1 C.1.2.1 dX7_wet_33 rfl (lv_at hl 1 rfl) ?_
        refine lv_iload_n C.1.1 C.1.2.1 dX7_wet_34 rfl (lv_at hl 2 rfl) ?_
        refine fb_callVi (As := [.int (fb_I x1), .int (fb_I x2)]) (rest := []) C w (ct_X7_at l G ix1 ix2 h) mv_X7_73 (fb_k48 C) rfl ⟨rfl, rfl, Nat.le_of_ble_eq_true rfl, Nat.le_of_ble_eq_true rfl, Nat.zero_le _, Nat.zero_le _⟩ rfl hl.1 rfl (Nat.le_of_ble_eq_true rfl) dX7_wet_35 (fun a7 σ7 H locs h ia7 w => ?_)
        refine lv_istore (lv' := [(5, .int (fb_I a7)), (0, .ref (fb_ad G 48)), (1, .int (fb_I x1)), (2, .int (fb_I x2)), (3, .int (fb_I x3)), (4, .int (fb_I x4))]) C.1.1 C.1.2.1 dX7_wet_38 hl (by decide) rfl (fun ls hl => ?_)
        refine lv_aload_n C.1.1 C.1.2.1 dX7_wet_40 rfl (lv_at hl 1 rfl) ?_
        refine fb_getr (k2 := 49) C w (fb_k48 C) rfl fl_X7_7 dX7_wet_41 ?_
        refine lv_iload C.1.1 C.1.2.1 dX7_wet_44 (lv_at hl 0 rfl) ?_
        obtain ⟨z8, z9, h⟩ := h
        refine fb_al C w 292 (fb_k49 C) rfl rfl z8 z9 dX7_wet_46 ?_
        have i10 := w.2.2.2 49 a7
        refine lv_iload_n C.1.1 C.1.2.1 dX7_wet_47 rfl (lv_at hl 4 rfl) ?_
        refine fb_icmp_le (tgt := 64) C i10 ix3 dX7_wet_48 (by decide) (fun c11 => ?_) (fun c11 => ?_)
        · have h := h.2 c11
          refine lv_aload_n C.1.1 C.1.2.1 dX7_wet_64 rfl (lv_at hl 1 rfl) ?_
          refine lv_iload C.1.1 C.1.2.1 dX7_wet_65 (lv_at hl 0 rfl) ?_
          refine lv_iload_n C.1.1 C.1.2.1 dX7_wet_67 rfl (lv_at hl 4 rfl) ?_
          refine fb_iconst C dX7_wet_68 ?_
          refine fb_callVi (As := [.int (fb_I a7), .int (fb_I x3), .int (fb_I 0)]) (rest := []) C w (ct_X7_spread l G ia7 ix3 (by decide) h) mv_X7_84 (fb_k48 C) rfl ⟨rfl, rfl, Nat.le_of_ble_eq_true rfl, Nat.le_of_ble_eq_true rfl, Nat.zero_le _, Nat.zero_le _⟩ rfl hl.1 rfl (Nat.le_of_ble_eq_true rfl) dX7_wet_69 (fun a12 σ12 H locs h ia12 w => ?_)
          refine lv_istore (lv' := [(6, .int (fb_I a12)), (5, .int (fb_I a7)), (0, .ref (fb_ad G 48)), (1, .int (fb_I x1)), (2, .int (fb_I x2)), (3, .int (fb_I x3)), (4, .int (fb_I x4))]) C.1.1 C.1.2.1 dX7_wet_72 hl (by decide) rfl (fun ls hl => ?_)
          refine lv_iload C.1.1 C.1.2.1 dX7_wet_74 (lv_at hl 6 rfl) ?_
          refine fb_iconst C dX7_wet_76 ?_
          refine fb_icmp_ne (tgt := 87) C ix4 (by decide) dX7_wet_77 (by decide) (fun c13 => ?_) (fun c13 => ?_)
          · have h := h.2 c13
            refine fb_iconst C dX7_wet_87 ?_
            refine lv_istore (lv' := [(7, .int (fb_I 0)), (6, .int (fb_I a12)), (5, .int (fb_I a7)), (0, .ref (fb_ad G 48)), (1, .int (fb_I x1)), (2, .int (fb_I x2)), (3, .int (fb_I x3)), (4, .int (fb_I x4))]) C.1.1 C.1.2.1 dX7_wet_88 hl (by decide) rfl (fun ls hl => ?_)
            refine fb_iconst C dX7_wet_90 ?_
            refine lv_istore (lv' := [(8, .int (fb_I 0)), (7, .int (fb_I 0)), (6, .int (fb_I a12)), (5, .int (fb_I a7)), (0, .ref (fb_ad G 48)), (1, .int (fb_I x1)), (2, .int (fb_I x2)), (3, .int (fb_I x3)), (4, .int (fb_I x4))]) C.1.1 C.1.2.1 dX7_wet_91 hl (by decide) rfl (fun ls hl => ?_)
            obtain ⟨n, h⟩ := h
            exact tl_X7_wet_93 C hret n x3 x4 a12 0 0 _ _ _ _ w (lv_sub hl [4, 7, 8, 2, 1, 0] rfl) ix3 ix4 ia12 (by decide) (by decide) h
          · have h := h.1 c13
            refine lv_aload_n C.1.1 C.1.2.1 dX7_wet_80 rfl (lv_at hl 2 rfl) ?_
            refine lv_iload C.1.1 C.1.2.1 dX7_wet_81 (lv_at hl 0 rfl) ?_
            refine fb_callVi (As := [.int (fb_I a12)]) (rest := []) C w (ct_X7_leastBeside l G ia12 h) mv_X7_88 (fb_k48 C) rfl ⟨rfl, rfl, Nat.le_of_ble_eq_true rfl, Nat.le_of_ble_eq_true rfl, Nat.zero_le _, Nat.zero_le _⟩ rfl hl.1 rfl (Nat.le_of_ble_eq_true rfl) dX7_wet_83 (fun a14 σ14 H locs h ia14 w => ?_)
            exact hret _ _ _ _ _ _ ia14 h w dX7_wet_86
        · have h := h.1 c11
          refine lv_iload C.1.1 C.1.2.1 dX7_wet_51 (lv_at hl 5 rfl) ?_
          refine fb_iconst C dX7_wet_53 ?_
          refine fb_icmp_ne (tgt := 62) C ix4 (by decide) dX7_wet_54 (by decide) (fun c15 => ?_) (fun c15 => ?_)
          · have h := h.2 c15
            refine fb_iconst C dX7_wet_62 ?_
            exact tw_X7_wet_63 C hret 0 _ _ _ _ w (lv_sub hl [] rfl) (by decide) h
          · have h := h.1 c15
            refine fb_bipush C dX7_wet_57 (by decide) ?_
            refine lv_goto (tgt := 63) C.1.1 C.1.2.1 dX7_wet_59 (by decide) ?_
            exact tw_X7_wet_63 C hret (-6) _ _ _ _ w (lv_sub hl [] rfl) (by decide) h
      · have h := h.1 c6
        exact tw_X7_wet_29 C hret _ _ _ _ w (lv_sub hl [] rfl) h
theorem ct_X7_wet (l : Launch) (G : fb_G) {x1 : Int} {x2 : Int} {x3 : Int} {x4 : Int} {σ : fb_St} (ix1 : fb_in x1) (ix2 : fb_in x2) (ix3 : fb_in x3) (ix4 : fb_in x4) (h : wp_X7_wet x1 x2 x3 x4 σ Q) : fb_MI l G yX7_wet cX7_wet 9 (some .int) rm_X7_wet [.ref (fb_ad G 48), .int (fb_I x1), .int (fb_I x2), .int (fb_I x3), .int (fb_I x4)] σ Q := by
  refine fb_ofW (own := RX7) (by decide) (Nat.le_of_ble_eq_true rfl) rfl (fun p e s m args below meth c ls C hr hl w => ?_)
  exact tw_X7_wet_0 C (fb_reti C hr) _ _ _ _ _ _ _ _ w hl ix1 ix2 ix3 ix4 h
end S_X7_wet
section S_X7_basins
variable {p : Program} {l : Launch} {e : Env} {s : State} {m : MethodId} {args : Array Value} {below : List Frame} {meth : Method} {c : Code} {Qm : State → Prop} {G : fb_G} {Q : Int → fb_St → Prop} {oo : Nat}
abbrev TT_X7_basins_25 (p : Program) (l : Launch) (e : Env) (s : State) (m : MethodId) (args : Array Value) (below : List Frame) (meth : Method) (c : Code) (Qm : State → Prop) (G : fb_G) (oo : Nat) (r : Int → Int → Int → fb_St → Prop) : Prop := ∀ (x3 s0 s1 : Int) (σ : fb_St) (H : Heap) (locs : List Loc) (ls : Array Slot), fb_Wd G s σ H locs → lv_has ls 4 [(0, .ref (fb_ad G 48)), (1, .ref (fb_ad G oo)), (3, .int (fb_I x3))] → fb_in x3 → fb_in s0 → fb_in s1 → r x3 s0 s1 σ → W p l e rm_X7_basins s m args below meth c H locs 0 0 Qm (F0 m 25 ls [.int (fb_I s0), .int (fb_I s1)])
abbrev TT_X7_basins_4 (p : Program) (l : Launch) (e : Env) (s : State) (m : MethodId) (args : Array Value) (below : List Frame) (meth : Method) (c : Code) (Qm : State → Prop) (G : fb_G) (oo : Nat) (r : Int → Int → fb_St → Prop) : Prop := ∀ (x2 x3 : Int) (σ : fb_St) (H : Heap) (locs : List Loc) (ls : Array Slot), fb_Wd G s σ H locs → lv_has ls 4 [(0, .ref (fb_ad G 48)), (1, .ref (fb_ad G oo)), (2, .int (fb_I x2)), (3, .int (fb_I x3))] → fb_in x2 → fb_in x3 → r x2 x3 σ → W p l e rm_X7_basins s m args below meth c H locs 0 0 Qm (F0 m 4 ls [])
abbrev TT_X7_basins_0 (p : Program) (l : Launch) (e : Env) (s : State) (m : MethodId) (args : Array Value) (below : List Frame) (meth : Method) (c : Code) (Qm : State → Prop) (G : fb_G) (oo : Nat) (r : fb_St → Prop) : Prop := ∀ (σ : fb_St) (H : Heap) (locs : List Loc) (ls : Array Slot), fb_Wd G s σ H locs → lv_has ls 4 [(0, .ref (fb_ad G 48)), (1, .ref (fb_ad G oo))] → r σ → W p l e rm_X7_basins s m args below meth c H locs 0 0 Qm (F0 m 0 ls [])
set_option maxRecDepth 100000 in
set_option maxHeartbeats 4000000 in
theorem tw_X7_basins_25 (hoo : (fb_cl G)[oo]? = some (fb_arI G 144)) (C : fb_C p s m args meth c G RX7 cX7_basins 4) (hret : fb_RI p l e rm_X7_basins s m args below meth c G cX7_basins Qm Q) {r4 : Int → Int → fb_St → Prop} (h4 : TT_X7_basins_4 p l e s m args below meth c Qm G oo r4) : TT_X7_basins_25 p l e s m args below meth c Qm G oo (wj_X7_basins_25 oo r4 Q) := by
  intro x3 s0 s1 σ H locs ls w hl ix3 is0 is1 h
  unfold wj_X7_basins_25 at h
  obtain ⟨i4, h⟩ := h
  refine fb_iadd C dX7_basins_25 ?_
  refine fb_top (fun v5 ev5 => ?_)
  have h := h v5 ev5
  have iv5 := fb_ie ev5 i4
  refine lv_istore_n (lv' := [(2, .int (fb_I v5)), (0, .ref (fb_ad G 48)), (1, .ref (fb_ad G oo)), (3, .int (fb_I x3))]) C.1.1 C.1.2.1 dX7_basins_26 rfl hl (by decide) rfl (fun ls hl => ?_)
  obtain ⟨i6, h⟩ := h
  refine fb_iinc (b := x3 + 1) (k := 3) (lv' := [(3, .int (fb_I (x3 + 1))), (2, .int (fb_I v5)), (0, .ref (fb_ad G 48)), (1, .ref (fb_ad G oo))]) C dX7_basins_27 hl rfl rfl (by decide) rfl (fun ls hl => ?_)
  refine lv_goto (tgt := 4) C.1.1 C.1.2.1 dX7_basins_30 (by decide) ?_
  exact h4 v5 (x3 + 1) _ _ _ _ w (lv_sub hl [2, 3, 1, 0] rfl) iv5 i6 h
set_option maxRecDepth 100000 in
set_option maxHeartbeats 4000000 in
theorem tw_X7_basins_4 (hoo : (fb_cl G)[oo]? = some (fb_arI G 144)) (C : fb_C p s m args meth c G RX7 cX7_basins 4) (hret : fb_RI p l e rm_X7_basins s m args below meth c G cX7_basins Qm Q) {r4 : Int → Int → fb_St → Prop} (h4 : TT_X7_basins_4 p l e s m args below meth c Qm G oo r4) : TT_X7_basins_4 p l e s m args below meth c Qm G oo (wb_X7_basins_4 oo r4 Q) := by
  intro x2 x3 σ H locs ls w hl ix2 ix3 h
  unfold wb_X7_basins_4 at h
  refine lv_iload_n C.1.1 C.1.2.1 dX7_basins_4 rfl (lv_at hl 3 rfl) ?_
  refine fb_bipush C dX7_basins_5 (by decide) ?_
  refine fb_icmp_ge (tgt := 33) C ix3 (by decide) dX7_basins_7 (by decide) (fun c1 => ?_) (fun c1 => ?_)
  · have h := h.2 c1
    refine lv_iload_n C.1.1 C.1.2.1 dX7_basins_33 rfl (lv_at hl 2 rfl) ?_
    exact hret _ _ _ _ _ _ ix2 h w dX7_basins_34
  · have h := h.1 c1
    refine lv_iload_n C.1.1 C.1.2.1 dX7_basins_10 rfl (lv_at hl 2 rfl) ?_
    refine lv_aload_n C.1.1 C.1.2.1 dX7_basins_11 rfl (lv_at hl 0 rfl) ?_
    refine lv_aload_n C.1.1 C.1.2.1 dX7_basins_12 rfl (lv_at hl 1 rfl) ?_
    refine lv_iload_n C.1.1 C.1.2.1 dX7_basins_13 rfl (lv_at hl 3 rfl) ?_
    refine fb_callVi (As := [.ref (fb_ad G oo), .int (fb_I x3)]) (rest := [.int (fb_I x2)]) C w (ct_X7_dotsOf l G hoo ix3 h) mv_X7_125 (fb_k48 C) rfl ⟨rfl, rfl, Nat.le_of_ble_eq_true rfl, Nat.le_of_ble_eq_true rfl, Nat.zero_le _, Nat.zero_le _⟩ rfl hl.1 rfl (Nat.le_of_ble_eq_true rfl) dX7_basins_14 (fun a2 σ2 H locs h ia2 w => ?_)
    refine fb_if_le (tgt := 24) C ia2 dX7_basins_17 (by decide) (fun c3 => ?_) (fun c3 => ?_)
    · have h := h.2 c3
      refine fb_iconst C dX7_basins_24 ?_
      exact tw_X7_basins_25 hoo C hret h4 x3 0 x2 _ _ _ _ w (lv_sub hl [0, 1, 3] rfl) ix3 (by decide) ix2 h
    · have h := h.1 c3
      refine fb_iconst C dX7_basins_20 ?_
      refine lv_goto (tgt := 25) C.1.1 C.1.2.1 dX7_basins_21 (by decide) ?_
      exact tw_X7_basins_25 hoo C hret h4 x3 1 x2 _ _ _ _ w (lv_sub hl [0, 1, 3] rfl) ix3 (by decide) ix2 h
theorem tl_X7_basins_4 (hoo : (fb_cl G)[oo]? = some (fb_arI G 144)) (C : fb_C p s m args meth c G RX7 cX7_basins 4) (hret : fb_RI p l e rm_X7_basins s m args below meth c G cX7_basins Qm Q) : ∀ n : Nat, TT_X7_basins_4 p l e s m args below meth c Qm G oo (wl_X7_basins_4 oo Q n) := by
  intro n
  induction n with
  | zero => intro x2 x3 σ H locs ls w hl ix2 ix3 h; exact h.elim
  | succ n ih => exact tw_X7_basins_4 hoo C hret ih
set_option maxRecDepth 100000 in
set_option maxHeartbeats 4000000 in
theorem tw_X7_basins_0 (hoo : (fb_cl G)[oo]? = some (fb_arI G 144)) (C : fb_C p s m args meth c G RX7 cX7_basins 4) (hret : fb_RI p l e rm_X7_basins s m args below meth c G cX7_basins Qm Q) : TT_X7_basins_0 p l e s m args below meth c Qm G oo (fun σ => wp_X7_basins oo σ Q) := by
  intro σ H locs ls w hl h
  unfold wp_X7_basins at h
  refine fb_iconst C dX7_basins_0 ?_
  refine lv_istore_n (lv' := [(2, .int (fb_I 0)), (0, .ref (fb_ad G 48)), (1, .ref (fb_ad G oo))]) C.1.1 C.1.2.1 dX7_basins_1 rfl hl (by decide) rfl (fun ls hl => ?_)
  refine fb_iconst C dX7_basins_2 ?_
  refine lv_istore_n (lv' := [(3, .int (fb_I 1)), (2, .int (fb_I 0)), (0, .ref (fb_ad G 48)), (1, .ref (fb_ad G oo))]) C.1.1 C.1.2.1 dX7_basins_3 rfl hl (by decide) rfl (fun ls hl => ?_)
  obtain ⟨n, h⟩ := h
  exact tl_X7_basins_4 hoo C hret n 0 1 _ _ _ _ w (lv_sub hl [2, 3, 1, 0] rfl) (by decide) (by decide) h
theorem ct_X7_basins (l : Launch) (G : fb_G) (hoo : (fb_cl G)[oo]? = some (fb_arI G 144)) {σ : fb_St} (h : wp_X7_basins oo σ Q) : fb_MI l G yX7_basins cX7_basins 4 (some .int) rm_X7_basins [.ref (fb_ad G 48), .ref (fb_ad G oo)] σ Q := by
  refine fb_ofW (own := RX7) (by decide) (Nat.le_of_ble_eq_true rfl) rfl (fun p e s m args below meth c ls C hr hl w => ?_)
  exact tw_X7_basins_0 hoo C (fb_reti C hr) _ _ _ _ w hl h
end S_X7_basins
section S_X7_greatestLevel
variable {p : Program} {l : Launch} {e : Env} {s : State} {m : MethodId} {args : Array Value} {below : List Frame} {meth : Method} {c : Code} {Qm : State → Prop} {G : fb_G} {Q : Int → fb_St → Prop}
abbrev TT_X7_greatestLevel_5 (p : Program) (l : Launch) (e : Env) (s : State) (m : MethodId) (args : Array Value) (below : List Frame) (meth : Method) (c : Code) (Qm : State → Prop) (G : fb_G) (r : Int → Int → fb_St → Prop) : Prop := ∀ (x1 x2 : Int) (σ : fb_St) (H : Heap) (locs : List Loc) (ls : Array Slot), fb_Wd G s σ H locs → lv_has ls 3 [(0, .ref (fb_ad G 48)), (1, .int (fb_I x1)), (2, .int (fb_I x2))] → fb_in x1 → fb_in x2 → r x1 x2 σ → W p l e rm_X7_greatestLevel s m args below meth c H locs 0 0 Qm (F0 m 5 ls [])
abbrev TT_X7_greatestLevel_0 (p : Program) (l : Launch) (e : Env) (s : State) (m : MethodId) (args : Array Value) (below : List Frame) (meth : Method) (c : Code) (Qm : State → Prop) (G : fb_G) (r : fb_St → Prop) : Prop := ∀ (σ : fb_St) (H : Heap) (locs : List Loc) (ls : Array Slot), fb_Wd G s σ H locs → lv_has ls 3 [(0, .ref (fb_ad G 48))] → r σ → W p l e rm_X7_greatestLevel s m args below meth c H locs 0 0 Qm (F0 m 0 ls [])
set_option maxRecDepth 100000 in
set_option maxHeartbeats 4000000 in
theorem tw_X7_greatestLevel_5 (C : fb_C p s m args meth c G RX7 cX7_greatestLevel 3) (hret : fb_RI p l e rm_X7_greatestLevel s m args below meth c G cX7_greatestLevel Qm Q) {r5 : Int → Int → fb_St → Prop} (h5 : TT_X7_greatestLevel_5 p l e s m args below meth c Qm G r5) : TT_X7_greatestLevel_5 p l e s m args below meth c Qm G (wb_X7_greatestLevel_5 r5 Q) := by
  intro x1 x2 σ H locs ls w hl ix1 ix2 h
  unfold wb_X7_greatestLevel_5 at h
  refine lv_iload_n C.1.1 C.1.2.1 dX7_greatestLevel_5 rfl (lv_at hl 2 rfl) ?_
  refine lv_aload_n C.1.1 C.1.2.1 dX7_greatestLevel_6 rfl (lv_at hl 0 rfl) ?_
  refine fb_callVi (As := []) (rest := [.int (fb_I x2)]) C w (ct_X7_dots l G h) mv_X7_80 (fb_k48 C) rfl ⟨rfl, rfl, Nat.le_of_ble_eq_true rfl, Nat.le_of_ble_eq_true rfl, Nat.zero_le _, Nat.zero_le _⟩ rfl hl.1 rfl (Nat.le_of_ble_eq_true rfl) dX7_greatestLevel_7 (fun a1 σ1 H locs h ia1 w => ?_)
  refine fb_icmp_ge (tgt := 30) C ix2 ia1 dX7_greatestLevel_10 (by decide) (fun c2 => ?_) (fun c2 => ?_)
  · have h := h.2 c2
    refine lv_iload_n C.1.1 C.1.2.1 dX7_greatestLevel_30 rfl (lv_at hl 1 rfl) ?_
    exact hret _ _ _ _ _ _ ix1 h w dX7_greatestLevel_31
  · have h := h.1 c2
    refine lv_iload_n C.1.1 C.1.2.1 dX7_greatestLevel_13 rfl (lv_at hl 1 rfl) ?_
    refine lv_aload_n C.1.1 C.1.2.1 dX7_greatestLevel_14 rfl (lv_at hl 0 rfl) ?_
    refine fb_getr (k2 := 56) C w (fb_k48 C) rfl fl_X7_32 dX7_greatestLevel_15 ?_
    refine lv_iload_n C.1.1 C.1.2.1 dX7_greatestLevel_18 rfl (lv_at hl 2 rfl) ?_
    obtain ⟨z3, z4, h⟩ := h
    refine fb_al C w 144 (fb_k56 C) rfl rfl z3 z4 dX7_greatestLevel_19 ?_
    have i5 := w.2.2.2 56 x2
    refine fb_callSi (As := [.int (fb_I x1), .int (fb_I (σ1 56 x2))]) (rest := []) C w (ct_X7_greater l G ix1 i5 h) ms_X7_98 ⟨rfl, rfl, Nat.le_of_ble_eq_true rfl, Nat.le_of_ble_eq_true rfl, Nat.zero_le _, Nat.zero_le _⟩ rfl hl.1 rfl (Nat.le_of_ble_eq_true rfl) dX7_greatestLevel_20 (fun a6 σ6 H locs h ia6 w => ?_)
    refine lv_istore_n (lv' := [(1, .int (fb_I a6)), (0, .ref (fb_ad G 48)), (2, .int (fb_I x2))]) C.1.1 C.1.2.1 dX7_greatestLevel_23 rfl hl (by decide) rfl (fun ls hl => ?_)
    obtain ⟨i7, h⟩ := h
    refine fb_iinc (b := x2 + 1) (k := 2) (lv' := [(2, .int (fb_I (x2 + 1))), (1, .int (fb_I a6)), (0, .ref (fb_ad G 48))]) C dX7_greatestLevel_24 hl rfl rfl (by decide) rfl (fun ls hl => ?_)
    refine lv_goto (tgt := 5) C.1.1 C.1.2.1 dX7_greatestLevel_27 (by decide) ?_
    exact h5 a6 (x2 + 1) _ _ _ _ w (lv_sub hl [2, 1, 0] rfl) ia6 i7 h
theorem tl_X7_greatestLevel_5 (C : fb_C p s m args meth c G RX7 cX7_greatestLevel 3) (hret : fb_RI p l e rm_X7_greatestLevel s m args below meth c G cX7_greatestLevel Qm Q) : ∀ n : Nat, TT_X7_greatestLevel_5 p l e s m args below meth c Qm G (wl_X7_greatestLevel_5 Q n) := by
  intro n
  induction n with
  | zero => intro x1 x2 σ H locs ls w hl ix1 ix2 h; exact h.elim
  | succ n ih => exact tw_X7_greatestLevel_5 C hret ih
set_option maxRecDepth 100000 in
set_option maxHeartbeats 4000000 in
theorem tw_X7_greatestLevel_0 (C : fb_C p s m args meth c G RX7 cX7_greatestLevel 3) (hret : fb_RI p l e rm_X7_greatestLevel s m args below meth c G cX7_greatestLevel Qm Q) : TT_X7_greatestLevel_0 p l e s m args below meth c Qm G (fun σ => wp_X7_greatestLevel σ Q) := by
  intro σ H locs ls w hl h
  unfold wp_X7_greatestLevel at h
  refine fb_bipush C dX7_greatestLevel_0 (by decide) ?_
  refine lv_istore_n (lv' := [(1, .int (fb_I (-6))), (0, .ref (fb_ad G 48))]) C.1.1 C.1.2.1 dX7_greatestLevel_2 rfl hl (by decide) rfl (fun ls hl => ?_)
  refine fb_iconst C dX7_greatestLevel_3 ?_
  refine lv_istore_n (lv' := [(2, .int (fb_I 0)), (1, .int (fb_I (-6))), (0, .ref (fb_ad G 48))]) C.1.1 C.1.2.1 dX7_greatestLevel_4 rfl hl (by decide) rfl (fun ls hl => ?_)
  obtain ⟨n, h⟩ := h
  exact tl_X7_greatestLevel_5 C hret n (-6) 0 _ _ _ _ w (lv_sub hl [2, 1, 0] rfl) (by decide) (by decide) h
theorem ct_X7_greatestLevel (l : Launch) (G : fb_G) {σ : fb_St} (h : wp_X7_greatestLevel σ Q) : fb_MI l G yX7_greatestLevel cX7_greatestLevel 3 (some .int) rm_X7_greatestLevel [.ref (fb_ad G 48)] σ Q := by
  refine fb_ofW (own := RX7) (by decide) (Nat.le_of_ble_eq_true rfl) rfl (fun p e s m args below meth c ls C hr hl w => ?_)
  exact tw_X7_greatestLevel_0 C (fb_reti C hr) _ _ _ _ w hl h
end S_X7_greatestLevel
section S_X7_treeSize
variable {p : Program} {l : Launch} {e : Env} {s : State} {m : MethodId} {args : Array Value} {below : List Frame} {meth : Method} {c : Code} {Qm : State → Prop} {G : fb_G} {Q : Int → fb_St → Prop}
abbrev TT_X7_treeSize_0 (p : Program) (l : Launch) (e : Env) (s : State) (m : MethodId) (args : Array Value) (below : List Frame) (meth : Method) (c : Code) (Qm : State → Prop) (G : fb_G) (r : fb_St → Prop) : Prop := ∀ (σ : fb_St) (H : Heap) (locs : List Loc) (ls : Array Slot), fb_Wd G s σ H locs → lv_has ls 1 [(0, .ref (fb_ad G 48))] → r σ → W p l e rm_X7_treeSize s m args below meth c H locs 0 0 Qm (F0 m 0 ls [])
set_option maxRecDepth 100000 in
set_option maxHeartbeats 4000000 in
theorem tw_X7_treeSize_0 (C : fb_C p s m args meth c G RX7 cX7_treeSize 1) (hret : fb_RI p l e rm_X7_treeSize s m args below meth c G cX7_treeSize Qm Q) : TT_X7_treeSize_0 p l e s m args below meth c Qm G (fun σ => wp_X7_treeSize σ Q) := by
  intro σ H locs ls w hl h
  unfold wp_X7_treeSize at h
  refine lv_aload_n C.1.1 C.1.2.1 dX7_treeSize_0 rfl (lv_at hl 0 rfl) ?_
  refine fb_iconst C dX7_treeSize_1 ?_
  refine fb_bipush C dX7_treeSize_2 (by decide) ?_
  refine fb_callVv (As := [.int (fb_I 0), .int (fb_I (-6))]) (rest := []) C w (ct_X7_pour l G (by decide) (by decide) h) mv_X7_147 (fb_k48 C) rfl ⟨rfl, rfl, Nat.le_of_ble_eq_true rfl, Nat.le_of_ble_eq_true rfl, Nat.zero_le _, Nat.zero_le _⟩ rfl hl.1 rfl (Nat.le_of_ble_eq_true rfl) dX7_treeSize_4 (fun σ1 H locs h w => ?_)
  refine lv_aload_n C.1.1 C.1.2.1 dX7_treeSize_7 rfl (lv_at hl 0 rfl) ?_
  refine fb_gi C w 17 (fb_k48 C) rfl rfl fl_X7_134 dX7_treeSize_8 ?_
  have i2 := w.2.2.2 48 17
  exact hret _ _ _ _ _ _ i2 h w dX7_treeSize_11
theorem ct_X7_treeSize (l : Launch) (G : fb_G) {σ : fb_St} (h : wp_X7_treeSize σ Q) : fb_MI l G yX7_treeSize cX7_treeSize 1 (some .int) rm_X7_treeSize [.ref (fb_ad G 48)] σ Q := by
  refine fb_ofW (own := RX7) (by decide) (Nat.le_of_ble_eq_true rfl) rfl (fun p e s m args below meth c ls C hr hl w => ?_)
  exact tw_X7_treeSize_0 C (fb_reti C hr) _ _ _ _ w hl h
end S_X7_treeSize
section S_X7_marked
variable {p : Program} {l : Launch} {e : Env} {s : State} {m : MethodId} {args : Array Value} {below : List Frame} {meth : Method} {c : Code} {Qm : State → Prop} {G : fb_G} {Q : Int → fb_St → Prop}
abbrev TT_X7_marked_31 (p : Program) (l : Launch) (e : Env) (s : State) (m : MethodId) (args : Array Value) (below : List Frame) (meth : Method) (c : Code) (Qm : State → Prop) (G : fb_G) (r : Int → Int → Int → fb_St → Prop) : Prop := ∀ (x2 s0 s1 : Int) (σ : fb_St) (H : Heap) (locs : List Loc) (ls : Array Slot), fb_Wd G s σ H locs → lv_has ls 3 [(0, .ref (fb_ad G 48)), (2, .int (fb_I x2))] → fb_in x2 → fb_in s0 → fb_in s1 → r x2 s0 s1 σ → W p l e rm_X7_marked s m args below meth c H locs 0 0 Qm (F0 m 31 ls [.int (fb_I s0), .int (fb_I s1)])
abbrev TT_X7_marked_4 (p : Program) (l : Launch) (e : Env) (s : State) (m : MethodId) (args : Array Value) (below : List Frame) (meth : Method) (c : Code) (Qm : State → Prop) (G : fb_G) (r : Int → Int → fb_St → Prop) : Prop := ∀ (x1 x2 : Int) (σ : fb_St) (H : Heap) (locs : List Loc) (ls : Array Slot), fb_Wd G s σ H locs → lv_has ls 3 [(0, .ref (fb_ad G 48)), (1, .int (fb_I x1)), (2, .int (fb_I x2))] → fb_in x1 → fb_in x2 → r x1 x2 σ → W p l e rm_X7_marked s m args below meth c H locs 0 0 Qm (F0 m 4 ls [])
abbrev TT_X7_marked_0 (p : Program) (l : Launch) (e : Env) (s : State) (m : MethodId) (args : Array Value) (below : List Frame) (meth : Method) (c : Code) (Qm : State → Prop) (G : fb_G) (r : fb_St → Prop) : Prop := ∀ (σ : fb_St) (H : Heap) (locs : List Loc) (ls : Array Slot), fb_Wd G s σ H locs → lv_has ls 3 [(0, .ref (fb_ad G 48))] → r σ → W p l e rm_X7_marked s m args below meth c H locs 0 0 Qm (F0 m 0 ls [])
set_option maxRecDepth 100000 in
set_option maxHeartbeats 4000000 in
theorem tw_X7_marked_31 (C : fb_C p s m args meth c G RX7 cX7_marked 3) (hret : fb_RI p l e rm_X7_marked s m args below meth c G cX7_marked Qm Q) {r4 : Int → Int → fb_St → Prop} (h4 : TT_X7_marked_4 p l e s m args below meth c Qm G r4) : TT_X7_marked_31 p l e s m args below meth c Qm G (wj_X7_marked_31 r4 Q) := by
  intro x2 s0 s1 σ H locs ls w hl ix2 is0 is1 h
  unfold wj_X7_marked_31 at h
  obtain ⟨i8, h⟩ := h
  refine fb_iadd C dX7_marked_31 ?_
  refine fb_top (fun v9 ev9 => ?_)
  have h := h v9 ev9
  have iv9 := fb_ie ev9 i8
  refine lv_istore_n (lv' := [(1, .int (fb_I v9)), (0, .ref (fb_ad G 48)), (2, .int (fb_I x2))]) C.1.1 C.1.2.1 dX7_marked_32 rfl hl (by decide) rfl (fun ls hl => ?_)
  obtain ⟨i10, h⟩ := h
  refine fb_iinc (b := x2 + 1) (k := 2) (lv' := [(2, .int (fb_I (x2 + 1))), (1, .int (fb_I v9)), (0, .ref (fb_ad G 48))]) C dX7_marked_33 hl rfl rfl (by decide) rfl (fun ls hl => ?_)
  refine lv_goto (tgt := 4) C.1.1 C.1.2.1 dX7_marked_36 (by decide) ?_
  exact h4 v9 (x2 + 1) _ _ _ _ w (lv_sub hl [2, 1, 0] rfl) iv9 i10 h
set_option maxRecDepth 100000 in
set_option maxHeartbeats 4000000 in
theorem tw_X7_marked_4 (C : fb_C p s m args meth c G RX7 cX7_marked 3) (hret : fb_RI p l e rm_X7_marked s m args below meth c G cX7_marked Qm Q) {r4 : Int → Int → fb_St → Prop} (h4 : TT_X7_marked_4 p l e s m args below meth c Qm G r4) : TT_X7_marked_4 p l e s m args below meth c Qm G (wb_X7_marked_4 r4 Q) := by
  intro x1 x2 σ H locs ls w hl ix1 ix2 h
  unfold wb_X7_marked_4 at h
  refine lv_iload_n C.1.1 C.1.2.1 dX7_marked_4 rfl (lv_at hl 2 rfl) ?_
  refine lv_aload_n C.1.1 C.1.2.1 dX7_marked_5 rfl (lv_at hl 0 rfl) ?_
  refine fb_callVi (As := []) (rest := [.int (fb_I x2)]) C w (ct_X7_dots l G h) mv_X7_80 (fb_k48 C) rfl ⟨rfl, rfl, Nat.le_of_ble_eq_true rfl, Nat.le_of_ble_eq_true rfl, Nat.zero_le _, Nat.zero_le _⟩ rfl hl.1 rfl (Nat.le_of_ble_eq_true rfl) dX7_marked_6 (fun a1 σ1 H locs h ia1 w => ?_)
  refine fb_icmp_ge (tgt := 39) C ix2 ia1 dX7_marked_9 (by decide) (fun c2 => ?_) (fun c2 => ?_)
  · have h := h.2 c2
    refine lv_iload_n C.1.1 C.1.2.1 dX7_marked_39 rfl (lv_at hl 1 rfl) ?_
    exact hret _ _ _ _ _ _ ix1 h w dX7_marked_40
  · have h := h.1 c2
    refine lv_iload_n C.1.1 C.1.2.1 dX7_marked_12 rfl (lv_at hl 1 rfl) ?_
    refine lv_aload_n C.1.1 C.1.2.1 dX7_marked_13 rfl (lv_at hl 0 rfl) ?_
    refine fb_getr (k2 := 49) C w (fb_k48 C) rfl fl_X7_7 dX7_marked_14 ?_
    refine fb_sipush C dX7_marked_17 (by decide) ?_
    refine lv_iload_n C.1.1 C.1.2.1 dX7_marked_20 rfl (lv_at hl 2 rfl) ?_
    obtain ⟨i3, h⟩ := h
    refine fb_iadd C dX7_marked_21 ?_
    obtain ⟨z4, z5, h⟩ := h
    refine fb_al C w 292 (fb_k49 C) rfl rfl z4 z5 dX7_marked_22 ?_
    have i6 := w.2.2.2 49 (144 + x2)
    refine fb_if_le (tgt := 30) C i6 dX7_marked_23 (by decide) (fun c7 => ?_) (fun c7 => ?_)
    · have h := h.2 c7
      refine fb_iconst C dX7_marked_30 ?_
      exact tw_X7_marked_31 C hret h4 x2 0 x1 _ _ _ _ w (lv_sub hl [0, 2] rfl) ix2 (by decide) ix1 h
    · have h := h.1 c7
      refine fb_iconst C dX7_marked_26 ?_
      refine lv_goto (tgt := 31) C.1.1 C.1.2.1 dX7_marked_27 (by decide) ?_
      exact tw_X7_marked_31 C hret h4 x2 1 x1 _ _ _ _ w (lv_sub hl [0, 2] rfl) ix2 (by decide) ix1 h
theorem tl_X7_marked_4 (C : fb_C p s m args meth c G RX7 cX7_marked 3) (hret : fb_RI p l e rm_X7_marked s m args below meth c G cX7_marked Qm Q) : ∀ n : Nat, TT_X7_marked_4 p l e s m args below meth c Qm G (wl_X7_marked_4 Q n) := by
  intro n
  induction n with
  | zero => intro x1 x2 σ H locs ls w hl ix1 ix2 h; exact h.elim
  | succ n ih => exact tw_X7_marked_4 C hret ih
set_option maxRecDepth 100000 in
set_option maxHeartbeats 4000000 in
theorem tw_X7_marked_0 (C : fb_C p s m args meth c G RX7 cX7_marked 3) (hret : fb_RI p l e rm_X7_marked s m args below meth c G cX7_marked Qm Q) : TT_X7_marked_0 p l e s m args below meth c Qm G (fun σ => wp_X7_marked σ Q) := by
  intro σ H locs ls w hl h
  unfold wp_X7_marked at h
  refine fb_iconst C dX7_marked_0 ?_
  refine lv_istore_n (lv' := [(1, .int (fb_I 0)), (0, .ref (fb_ad G 48))]) C.1.1 C.1.2.1 dX7_marked_1 rfl hl (by decide) rfl (fun ls hl => ?_)
  refine fb_iconst C dX7_marked_2 ?_
  refine lv_istore_n (lv' := [(2, .int (fb_I 0)), (1, .int (fb_I 0)), (0, .ref (fb_ad G 48))]) C.1.1 C.1.2.1 dX7_marked_3 rfl hl (by decide) rfl (fun ls hl => ?_)
  obtain ⟨n, h⟩ := h
  exact tl_X7_marked_4 C hret n 0 0 _ _ _ _ w (lv_sub hl [2, 1, 0] rfl) (by decide) (by decide) h
theorem ct_X7_marked (l : Launch) (G : fb_G) {σ : fb_St} (h : wp_X7_marked σ Q) : fb_MI l G yX7_marked cX7_marked 3 (some .int) rm_X7_marked [.ref (fb_ad G 48)] σ Q := by
  refine fb_ofW (own := RX7) (by decide) (Nat.le_of_ble_eq_true rfl) rfl (fun p e s m args below meth c ls C hr hl w => ?_)
  exact tw_X7_marked_0 C (fb_reti C hr) _ _ _ _ w hl h
end S_X7_marked
section S_X7_count
variable {p : Program} {l : Launch} {e : Env} {s : State} {m : MethodId} {args : Array Value} {below : List Frame} {meth : Method} {c : Code} {Qm : State → Prop} {G : fb_G} {Q : Int → fb_St → Prop}
abbrev TT_X7_count_194 (p : Program) (l : Launch) (e : Env) (s : State) (m : MethodId) (args : Array Value) (below : List Frame) (meth : Method) (c : Code) (Qm : State → Prop) (G : fb_G) (r : Int → Int → fb_St → Prop) : Prop := ∀ (s0 s1 : Int) (σ : fb_St) (H : Heap) (locs : List Loc) (ls : Array Slot), fb_Wd G s σ H locs → lv_has ls 2 [] → fb_in s0 → fb_in s1 → r s0 s1 σ → W p l e rm_X7_count s m args below meth c H locs 0 0 Qm (F0 m 194 ls [.int (fb_I s0), .int (fb_I s1)])
abbrev TT_X7_count_180 (p : Program) (l : Launch) (e : Env) (s : State) (m : MethodId) (args : Array Value) (below : List Frame) (meth : Method) (c : Code) (Qm : State → Prop) (G : fb_G) (r : Int → fb_St → Prop) : Prop := ∀ (s0 : Int) (σ : fb_St) (H : Heap) (locs : List Loc) (ls : Array Slot), fb_Wd G s σ H locs → lv_has ls 2 [(0, .ref (fb_ad G 48))] → fb_in s0 → r s0 σ → W p l e rm_X7_count s m args below meth c H locs 0 0 Qm (F0 m 180 ls [.int (fb_I s0)])
abbrev TT_X7_count_0 (p : Program) (l : Launch) (e : Env) (s : State) (m : MethodId) (args : Array Value) (below : List Frame) (meth : Method) (c : Code) (Qm : State → Prop) (G : fb_G) (r : Int → fb_St → Prop) : Prop := ∀ (x1 : Int) (σ : fb_St) (H : Heap) (locs : List Loc) (ls : Array Slot), fb_Wd G s σ H locs → lv_has ls 2 [(0, .ref (fb_ad G 48)), (1, .int (fb_I x1))] → fb_in x1 → r x1 σ → W p l e rm_X7_count s m args below meth c H locs 0 0 Qm (F0 m 0 ls [])
set_option maxRecDepth 100000 in
set_option maxHeartbeats 4000000 in
theorem tw_X7_count_194 (C : fb_C p s m args meth c G RX7 cX7_count 2) (hret : fb_RI p l e rm_X7_count s m args below meth c G cX7_count Qm Q) : TT_X7_count_194 p l e s m args below meth c Qm G (wj_X7_count_194 Q) := by
  intro s0 s1 σ H locs ls w hl is0 is1 h
  unfold wj_X7_count_194 at h
  obtain ⟨i32, h⟩ := h
  refine fb_iadd C dX7_count_194 ?_
  exact hret _ _ _ _ _ _ i32 h w dX7_count_195
set_option maxRecDepth 100000 in
set_option maxHeartbeats 4000000 in
theorem tw_X7_count_180 (C : fb_C p s m args meth c G RX7 cX7_count 2) (hret : fb_RI p l e rm_X7_count s m args below meth c G cX7_count Qm Q) : TT_X7_count_180 p l e s m args below meth c Qm G (wj_X7_count_180 Q) := by
  intro s0 σ H locs ls w hl is0 h
  unfold wj_X7_count_180 at h
  refine lv_aload_n C.1.1 C.1.2.1 dX7_count_180 rfl (lv_at hl 0 rfl) ?_
  refine fb_getr (k2 := 51) C w (fb_k48 C) rfl fl_X7_16 dX7_count_181 ?_
  refine fb_iconst C dX7_count_184 ?_
  refine fb_zl C w 2 (fb_k51 C) rfl rfl (by decide) (by decide) dX7_count_185 ?_
  have i30 := w.2.2.2 51 1
  refine fb_if_eq (tgt := 193) C i30 dX7_count_186 (by decide) (fun c31 => ?_) (fun c31 => ?_)
  · have h := h.1 c31
    refine fb_iconst C dX7_count_193 ?_
    exact tw_X7_count_194 C hret 0 s0 _ _ _ _ w (lv_sub hl [] rfl) (by decide) is0 h
  · have h := h.2 c31
    refine fb_iconst C dX7_count_189 ?_
    refine lv_goto (tgt := 194) C.1.1 C.1.2.1 dX7_count_190 (by decide) ?_
    exact tw_X7_count_194 C hret 2 s0 _ _ _ _ w (lv_sub hl [] rfl) (by decide) is0 h
set_option maxRecDepth 100000 in
set_option maxHeartbeats 4000000 in
theorem tw_X7_count_0 (C : fb_C p s m args meth c G RX7 cX7_count 2) (hret : fb_RI p l e rm_X7_count s m args below meth c G cX7_count Qm Q) : TT_X7_count_0 p l e s m args below meth c Qm G (fun x1 σ => wp_X7_count x1 σ Q) := by
  intro x1 σ H locs ls w hl ix1 h
  unfold wp_X7_count at h
  refine lv_aload_n C.1.1 C.1.2.1 dX7_count_0 rfl (lv_at hl 0 rfl) ?_
  refine fb_callVv (As := []) (rest := []) C w (ct_X7_pourAsTold l G h) mv_X7_151 (fb_k48 C) rfl ⟨rfl, rfl, Nat.le_of_ble_eq_true rfl, Nat.le_of_ble_eq_true rfl, Nat.zero_le _, Nat.zero_le _⟩ rfl hl.1 rfl (Nat.le_of_ble_eq_true rfl) dX7_count_1 (fun σ1 H locs h w => ?_)
  refine lv_iload_n C.1.1 C.1.2.1 dX7_count_4 rfl (lv_at hl 1 rfl) ?_
  by_cases c2 : x1 = 0
  · have h := h.1 c2
    refine fb_tableIn (tgt := 72) (j := 0) C ix1 dX7_count_5 c2 (by decide) rfl (by decide) ?_
    refine lv_aload_n C.1.1 C.1.2.1 dX7_count_72 rfl (lv_at hl 0 rfl) ?_
    refine fb_getr (k2 := 49) C w (fb_k48 C) rfl fl_X7_7 dX7_count_73 ?_
    refine fb_sipush C dX7_count_76 (by decide) ?_
    refine fb_al C w 292 (fb_k49 C) rfl rfl (by decide) (by decide) dX7_count_79 ?_
    have i3 := w.2.2.2 49 288
    exact hret _ _ _ _ _ _ i3 h w dX7_count_80
  by_cases c4 : x1 = 1
  · have h := h.2.1 c4
    refine fb_tableIn (tgt := 81) (j := 1) C ix1 dX7_count_5 c4 (by decide) rfl (by decide) ?_
    refine lv_aload_n C.1.1 C.1.2.1 dX7_count_81 rfl (lv_at hl 0 rfl) ?_
    refine fb_getr (k2 := 49) C w (fb_k48 C) rfl fl_X7_7 dX7_count_82 ?_
    refine fb_sipush C dX7_count_85 (by decide) ?_
    refine fb_al C w 292 (fb_k49 C) rfl rfl (by decide) (by decide) dX7_count_88 ?_
    have i5 := w.2.2.2 49 289
    exact hret _ _ _ _ _ _ i5 h w dX7_count_89
  by_cases c6 : x1 = 2
  · have h := h.2.2.1 c6
    refine fb_tableIn (tgt := 90) (j := 2) C ix1 dX7_count_5 c6 (by decide) rfl (by decide) ?_
    refine lv_aload_n C.1.1 C.1.2.1 dX7_count_90 rfl (lv_at hl 0 rfl) ?_
    refine fb_callVi (As := []) (rest := []) C w (ct_X7_layPits l G h) mv_X7_92 (fb_k48 C) rfl ⟨rfl, rfl, Nat.le_of_ble_eq_true rfl, Nat.le_of_ble_eq_true rfl, Nat.zero_le _, Nat.zero_le _⟩ rfl hl.1 rfl (Nat.le_of_ble_eq_true rfl) dX7_count_91 (fun a7 σ7 H locs h ia7 w => ?_)
    exact hret _ _ _ _ _ _ ia7 h w dX7_count_94
  by_cases c8 : x1 = 3
  · have h := h.2.2.2.1 c8
    refine fb_tableIn (tgt := 95) (j := 3) C ix1 dX7_count_5 c8 (by decide) rfl (by decide) ?_
    refine lv_aload_n C.1.1 C.1.2.1 dX7_count_95 rfl (lv_at hl 0 rfl) ?_
    refine fb_callVi (As := []) (rest := []) C w (ct_X7_marked l G h) mv_X7_164 (fb_k48 C) rfl ⟨rfl, rfl, Nat.le_of_ble_eq_true rfl, Nat.le_of_ble_eq_true rfl, Nat.zero_le _, Nat.zero_le _⟩ rfl hl.1 rfl (Nat.le_of_ble_eq_true rfl) dX7_count_96 (fun a9 σ9 H locs h ia9 w => ?_)
    exact hret _ _ _ _ _ _ ia9 h w dX7_count_99
  by_cases c10 : x1 = 4
  · have h := h.2.2.2.2.1 c10
    refine fb_tableIn (tgt := 100) (j := 4) C ix1 dX7_count_5 c10 (by decide) rfl (by decide) ?_
    refine lv_aload_n C.1.1 C.1.2.1 dX7_count_100 rfl (lv_at hl 0 rfl) ?_
    refine lv_aload_n C.1.1 C.1.2.1 dX7_count_101 rfl (lv_at hl 0 rfl) ?_
    refine fb_getr (k2 := 55) C w (fb_k48 C) rfl fl_X7_29 dX7_count_102 ?_
    refine fb_callVi (As := [.ref (fb_ad G 55)]) (rest := []) C w (ct_X7_basins l G (fb_k55 C) h) mv_X7_167 (fb_k48 C) rfl ⟨rfl, rfl, Nat.le_of_ble_eq_true rfl, Nat.le_of_ble_eq_true rfl, Nat.zero_le _, Nat.zero_le _⟩ rfl hl.1 rfl (Nat.le_of_ble_eq_true rfl) dX7_count_105 (fun a11 σ11 H locs h ia11 w => ?_)
    exact hret _ _ _ _ _ _ ia11 h w dX7_count_108
  by_cases c12 : x1 = 5
  · have h := h.2.2.2.2.2.1 c12
    refine fb_tableIn (tgt := 109) (j := 5) C ix1 dX7_count_5 c12 (by decide) rfl (by decide) ?_
    refine lv_aload_n C.1.1 C.1.2.1 dX7_count_109 rfl (lv_at hl 0 rfl) ?_
    refine lv_aload_n C.1.1 C.1.2.1 dX7_count_110 rfl (lv_at hl 0 rfl) ?_
    refine fb_getr (k2 := 60) C w (fb_k48 C) rfl fl_X7_44 dX7_count_111 ?_
    refine fb_callVi (As := [.ref (fb_ad G 60)]) (rest := []) C w (ct_X7_basins l G (fb_k60 C) h) mv_X7_167 (fb_k48 C) rfl ⟨rfl, rfl, Nat.le_of_ble_eq_true rfl, Nat.le_of_ble_eq_true rfl, Nat.zero_le _, Nat.zero_le _⟩ rfl hl.1 rfl (Nat.le_of_ble_eq_true rfl) dX7_count_114 (fun a13 σ13 H locs h ia13 w => ?_)
    exact hret _ _ _ _ _ _ ia13 h w dX7_count_117
  by_cases c14 : x1 = 6
  · have h := h.2.2.2.2.2.2.1 c14
    refine fb_tableIn (tgt := 118) (j := 6) C ix1 dX7_count_5 c14 (by decide) rfl (by decide) ?_
    refine lv_aload_n C.1.1 C.1.2.1 dX7_count_118 rfl (lv_at hl 0 rfl) ?_
    refine lv_aload_n C.1.1 C.1.2.1 dX7_count_119 rfl (lv_at hl 0 rfl) ?_
    refine fb_getr (k2 := 55) C w (fb_k48 C) rfl fl_X7_29 dX7_count_120 ?_
    refine fb_iconst C dX7_count_123 ?_
    refine fb_callVi (As := [.ref (fb_ad G 55), .int (fb_I 0)]) (rest := []) C w (ct_X7_dotsOf l G (fb_k55 C) (by decide) h) mv_X7_125 (fb_k48 C) rfl ⟨rfl, rfl, Nat.le_of_ble_eq_true rfl, Nat.le_of_ble_eq_true rfl, Nat.zero_le _, Nat.zero_le _⟩ rfl hl.1 rfl (Nat.le_of_ble_eq_true rfl) dX7_count_124 (fun a15 σ15 H locs h ia15 w => ?_)
    exact hret _ _ _ _ _ _ ia15 h w dX7_count_127
  by_cases c16 : x1 = 7
  · have h := h.2.2.2.2.2.2.2.1 c16
    refine fb_tableIn (tgt := 128) (j := 7) C ix1 dX7_count_5 c16 (by decide) rfl (by decide) ?_
    refine lv_aload_n C.1.1 C.1.2.1 dX7_count_128 rfl (lv_at hl 0 rfl) ?_
    refine lv_aload_n C.1.1 C.1.2.1 dX7_count_129 rfl (lv_at hl 0 rfl) ?_
    refine fb_getr (k2 := 60) C w (fb_k48 C) rfl fl_X7_44 dX7_count_130 ?_
    refine fb_iconst C dX7_count_133 ?_
    refine fb_callVi (As := [.ref (fb_ad G 60), .int (fb_I 0)]) (rest := []) C w (ct_X7_dotsOf l G (fb_k60 C) (by decide) h) mv_X7_125 (fb_k48 C) rfl ⟨rfl, rfl, Nat.le_of_ble_eq_true rfl, Nat.le_of_ble_eq_true rfl, Nat.zero_le _, Nat.zero_le _⟩ rfl hl.1 rfl (Nat.le_of_ble_eq_true rfl) dX7_count_134 (fun a17 σ17 H locs h ia17 w => ?_)
    exact hret _ _ _ _ _ _ ia17 h w dX7_count_137
  by_cases c18 : x1 = 8
  · have h := h.2.2.2.2.2.2.2.2.1 c18
    refine fb_tableIn (tgt := 138) (j := 8) C ix1 dX7_count_5 c18 (by decide) rfl (by decide) ?_
    refine lv_aload_n C.1.1 C.1.2.1 dX7_count_138 rfl (lv_at hl 0 rfl) ?_
    refine fb_callVi (As := []) (rest := []) C w (ct_X7_greatestLevel l G h) mv_X7_171 (fb_k48 C) rfl ⟨rfl, rfl, Nat.le_of_ble_eq_true rfl, Nat.le_of_ble_eq_true rfl, Nat.zero_le _, Nat.zero_le _⟩ rfl hl.1 rfl (Nat.le_of_ble_eq_true rfl) dX7_count_139 (fun a19 σ19 H locs h ia19 w => ?_)
    exact hret _ _ _ _ _ _ ia19 h w dX7_count_142
  by_cases c20 : x1 = 9
  · have h := h.2.2.2.2.2.2.2.2.2.1 c20
    refine fb_tableIn (tgt := 143) (j := 9) C ix1 dX7_count_5 c20 (by decide) rfl (by decide) ?_
    refine lv_aload_n C.1.1 C.1.2.1 dX7_count_143 rfl (lv_at hl 0 rfl) ?_
    refine fb_getr (k2 := 49) C w (fb_k48 C) rfl fl_X7_7 dX7_count_144 ?_
    refine fb_sipush C dX7_count_147 (by decide) ?_
    refine fb_al C w 292 (fb_k49 C) rfl rfl (by decide) (by decide) dX7_count_150 ?_
    have i21 := w.2.2.2 49 290
    exact hret _ _ _ _ _ _ i21 h w dX7_count_151
  by_cases c22 : x1 = 10
  · have h := h.2.2.2.2.2.2.2.2.2.2.1 c22
    refine fb_tableIn (tgt := 152) (j := 10) C ix1 dX7_count_5 c22 (by decide) rfl (by decide) ?_
    refine lv_aload_n C.1.1 C.1.2.1 dX7_count_152 rfl (lv_at hl 0 rfl) ?_
    refine fb_getr (k2 := 49) C w (fb_k48 C) rfl fl_X7_7 dX7_count_153 ?_
    refine fb_sipush C dX7_count_156 (by decide) ?_
    refine fb_al C w 292 (fb_k49 C) rfl rfl (by decide) (by decide) dX7_count_159 ?_
    have i23 := w.2.2.2 49 291
    exact hret _ _ _ _ _ _ i23 h w dX7_count_160
  by_cases c24 : x1 = 11
  · have h := h.2.2.2.2.2.2.2.2.2.2.2.1 c24
    refine fb_tableIn (tgt := 161) (j := 11) C ix1 dX7_count_5 c24 (by decide) rfl (by decide) ?_
    refine lv_aload_n C.1.1 C.1.2.1 dX7_count_161 rfl (lv_at hl 0 rfl) ?_
    refine fb_callVi (As := []) (rest := []) C w (ct_X7_treeSize l G h) mv_X7_174 (fb_k48 C) rfl ⟨rfl, rfl, Nat.le_of_ble_eq_true rfl, Nat.le_of_ble_eq_true rfl, Nat.zero_le _, Nat.zero_le _⟩ rfl hl.1 rfl (Nat.le_of_ble_eq_true rfl) dX7_count_162 (fun a25 σ25 H locs h ia25 w => ?_)
    exact hret _ _ _ _ _ _ ia25 h w dX7_count_165
  by_cases c26 : x1 = 12
  · have h := h.2.2.2.2.2.2.2.2.2.2.2.2.1 c26
    refine fb_tableIn (tgt := 166) (j := 12) C ix1 dX7_count_5 c26 (by decide) rfl (by decide) ?_
    refine lv_aload_n C.1.1 C.1.2.1 dX7_count_166 rfl (lv_at hl 0 rfl) ?_
    refine fb_getr (k2 := 51) C w (fb_k48 C) rfl fl_X7_16 dX7_count_167 ?_
    refine fb_iconst C dX7_count_170 ?_
    refine fb_zl C w 2 (fb_k51 C) rfl rfl (by decide) (by decide) dX7_count_171 ?_
    have i27 := w.2.2.2 51 0
    refine fb_if_eq (tgt := 179) C i27 dX7_count_172 (by decide) (fun c28 => ?_) (fun c28 => ?_)
    · have h := h.1 c28
      refine fb_iconst C dX7_count_179 ?_
      exact tw_X7_count_180 C hret 0 _ _ _ _ w (lv_sub hl [0] rfl) (by decide) h
    · have h := h.2 c28
      refine fb_iconst C dX7_count_175 ?_
      refine lv_goto (tgt := 180) C.1.1 C.1.2.1 dX7_count_176 (by decide) ?_
      exact tw_X7_count_180 C hret 1 _ _ _ _ w (lv_sub hl [0] rfl) (by decide) h
  have c29 : x1 < 0 ∨ 12 < x1 := by omega
  have h := h.2.2.2.2.2.2.2.2.2.2.2.2.2 c29
  refine fb_tableOut (tgt := 196) C ix1 dX7_count_5 c29 (by decide) ?_
  refine fb_bipush C dX7_count_196 (by decide) ?_
  exact hret _ _ _ _ _ _ (by decide) h w dX7_count_198
theorem ct_X7_count (l : Launch) (G : fb_G) {x1 : Int} {σ : fb_St} (ix1 : fb_in x1) (h : wp_X7_count x1 σ Q) : fb_MI l G yX7_count cX7_count 2 (some .int) rm_X7_count [.ref (fb_ad G 48), .int (fb_I x1)] σ Q := by
  refine fb_ofW (own := RX7) (by decide) (Nat.le_of_ble_eq_true rfl) rfl (fun p e s m args below meth c ls C hr hl w => ?_)
  exact tw_X7_count_0 C (fb_reti C hr) _ _ _ _ _ w hl ix1 h
end S_X7_count
section S_X7_image
variable {p : Program} {l : Launch} {e : Env} {s : State} {m : MethodId} {args : Array Value} {below : List Frame} {meth : Method} {c : Code} {Qm : State → Prop} {G : fb_G} {Q : Int → fb_St → Prop}
abbrev TT_X7_image_14 (p : Program) (l : Launch) (e : Env) (s : State) (m : MethodId) (args : Array Value) (below : List Frame) (meth : Method) (c : Code) (Qm : State → Prop) (G : fb_G) (r : Int → Int → fb_St → Prop) : Prop := ∀ (x1 x2 : Int) (σ : fb_St) (H : Heap) (locs : List Loc) (ls : Array Slot), fb_Wd G s σ H locs → lv_has ls 3 [(0, .ref (fb_ad G 48)), (1, .int (fb_I x1)), (2, .int (fb_I x2))] → fb_in x1 → fb_in x2 → r x1 x2 σ → W p l e rm_X7_image s m args below meth c H locs 0 0 Qm (F0 m 14 ls [])
abbrev TT_X7_image_0 (p : Program) (l : Launch) (e : Env) (s : State) (m : MethodId) (args : Array Value) (below : List Frame) (meth : Method) (c : Code) (Qm : State → Prop) (G : fb_G) (r : Int → fb_St → Prop) : Prop := ∀ (x1 : Int) (σ : fb_St) (H : Heap) (locs : List Loc) (ls : Array Slot), fb_Wd G s σ H locs → lv_has ls 3 [(0, .ref (fb_ad G 48)), (1, .int (fb_I x1))] → fb_in x1 → r x1 σ → W p l e rm_X7_image s m args below meth c H locs 0 0 Qm (F0 m 0 ls [])
set_option maxRecDepth 100000 in
set_option maxHeartbeats 4000000 in
theorem tw_X7_image_14 (C : fb_C p s m args meth c G RX7 cX7_image 3) (hret : fb_RI p l e rm_X7_image s m args below meth c G cX7_image Qm Q) {r14 : Int → Int → fb_St → Prop} (h14 : TT_X7_image_14 p l e s m args below meth c Qm G r14) : TT_X7_image_14 p l e s m args below meth c Qm G (wb_X7_image_14 r14 Q) := by
  intro x1 x2 σ H locs ls w hl ix1 ix2 h
  unfold wb_X7_image_14 at h
  refine lv_iload_n C.1.1 C.1.2.1 dX7_image_14 rfl (lv_at hl 2 rfl) ?_
  refine fb_sipush C dX7_image_15 (by decide) ?_
  refine fb_icmp_ge (tgt := 45) C ix2 (by decide) dX7_image_18 (by decide) (fun c3 => ?_) (fun c3 => ?_)
  · have h := h.2 c3
    refine lv_aload_n C.1.1 C.1.2.1 dX7_image_45 rfl (lv_at hl 0 rfl) ?_
    refine fb_getr (k2 := 51) C w (fb_k48 C) rfl fl_X7_16 dX7_image_46 ?_
    refine lv_iload_n C.1.1 C.1.2.1 dX7_image_49 rfl (lv_at hl 1 rfl) ?_
    refine fb_iconst C dX7_image_50 ?_
    obtain ⟨z4, z5, h⟩ := h
    refine fb_zs C w 2 (fb_k51 C) rfl rfl (by decide) (by decide) z4 z5 dX7_image_51 (fun σ6 H locs eσ6 w => ?_)
    have h := h σ6 eσ6
    refine fb_iconst C dX7_image_52 ?_
    exact hret _ _ _ _ _ _ (by decide) h w dX7_image_53
  · have h := h.1 c3
    refine lv_aload_n C.1.1 C.1.2.1 dX7_image_21 rfl (lv_at hl 0 rfl) ?_
    refine fb_getr (k2 := 50) C w (fb_k48 C) rfl fl_X7_13 dX7_image_22 ?_
    refine fb_sipush C dX7_image_25 (by decide) ?_
    refine lv_iload_n C.1.1 C.1.2.1 dX7_image_28 rfl (lv_at hl 1 rfl) ?_
    obtain ⟨i7, h⟩ := h
    refine fb_imul C dX7_image_29 ?_
    refine lv_iload_n C.1.1 C.1.2.1 dX7_image_30 rfl (lv_at hl 2 rfl) ?_
    obtain ⟨i8, h⟩ := h
    refine fb_iadd C dX7_image_31 ?_
    refine lv_aload_n C.1.1 C.1.2.1 dX7_image_32 rfl (lv_at hl 0 rfl) ?_
    refine fb_getr (k2 := 49) C w (fb_k48 C) rfl fl_X7_7 dX7_image_33 ?_
    refine lv_iload_n C.1.1 C.1.2.1 dX7_image_36 rfl (lv_at hl 2 rfl) ?_
    obtain ⟨z9, z10, h⟩ := h
    refine fb_al C w 292 (fb_k49 C) rfl rfl z9 z10 dX7_image_37 ?_
    have i11 := w.2.2.2 49 x2
    obtain ⟨z12, z13, h⟩ := h
    refine fb_as C w 584 (fb_k50 C) rfl rfl i11 z12 z13 dX7_image_38 (fun σ14 H locs eσ14 w => ?_)
    have h := h σ14 eσ14
    obtain ⟨i15, h⟩ := h
    refine fb_iinc (b := x2 + 1) (k := 2) (lv' := [(2, .int (fb_I (x2 + 1))), (0, .ref (fb_ad G 48)), (1, .int (fb_I x1))]) C dX7_image_39 hl rfl rfl (by decide) rfl (fun ls hl => ?_)
    refine lv_goto (tgt := 14) C.1.1 C.1.2.1 dX7_image_42 (by decide) ?_
    exact h14 x1 (x2 + 1) _ _ _ _ w (lv_sub hl [1, 2, 0] rfl) ix1 i15 h
theorem tl_X7_image_14 (C : fb_C p s m args meth c G RX7 cX7_image 3) (hret : fb_RI p l e rm_X7_image s m args below meth c G cX7_image Qm Q) : ∀ n : Nat, TT_X7_image_14 p l e s m args below meth c Qm G (wl_X7_image_14 Q n) := by
  intro n
  induction n with
  | zero => intro x1 x2 σ H locs ls w hl ix1 ix2 h; exact h.elim
  | succ n ih => exact tw_X7_image_14 C hret ih
set_option maxRecDepth 100000 in
set_option maxHeartbeats 4000000 in
theorem tw_X7_image_0 (C : fb_C p s m args meth c G RX7 cX7_image 3) (hret : fb_RI p l e rm_X7_image s m args below meth c G cX7_image Qm Q) : TT_X7_image_0 p l e s m args below meth c Qm G (fun x1 σ => wp_X7_image x1 σ Q) := by
  intro x1 σ H locs ls w hl ix1 h
  unfold wp_X7_image at h
  refine lv_iload_n C.1.1 C.1.2.1 dX7_image_0 rfl (lv_at hl 1 rfl) ?_
  refine fb_iconst C dX7_image_1 ?_
  refine fb_iconst C dX7_image_2 ?_
  refine fb_callSi (As := [.int (fb_I x1), .int (fb_I 0), .int (fb_I 1)]) (rest := []) C w (ct_X7_in l G ix1 (by decide) (by decide) h) ms_X7_65 ⟨rfl, rfl, Nat.le_of_ble_eq_true rfl, Nat.le_of_ble_eq_true rfl, Nat.zero_le _, Nat.zero_le _⟩ rfl hl.1 rfl (Nat.le_of_ble_eq_true rfl) dX7_image_3 (fun a1 σ1 H locs h ia1 w => ?_)
  refine fb_if_ne (tgt := 12) C ia1 dX7_image_6 (by decide) (fun c2 => ?_) (fun c2 => ?_)
  · have h := h.2 c2
    refine fb_iconst C dX7_image_12 ?_
    refine lv_istore_n (lv' := [(2, .int (fb_I 0)), (0, .ref (fb_ad G 48)), (1, .int (fb_I x1))]) C.1.1 C.1.2.1 dX7_image_13 rfl hl (by decide) rfl (fun ls hl => ?_)
    obtain ⟨n, h⟩ := h
    exact tl_X7_image_14 C hret n x1 0 _ _ _ _ w (lv_sub hl [1, 2, 0] rfl) ix1 (by decide) h
  · have h := h.1 c2
    refine fb_bipush C dX7_image_9 (by decide) ?_
    exact hret _ _ _ _ _ _ (by decide) h w dX7_image_11
theorem ct_X7_image (l : Launch) (G : fb_G) {x1 : Int} {σ : fb_St} (ix1 : fb_in x1) (h : wp_X7_image x1 σ Q) : fb_MI l G yX7_image cX7_image 3 (some .int) rm_X7_image [.ref (fb_ad G 48), .int (fb_I x1)] σ Q := by
  refine fb_ofW (own := RX7) (by decide) (Nat.le_of_ble_eq_true rfl) rfl (fun p e s m args below meth c ls C hr hl w => ?_)
  exact tw_X7_image_0 C (fb_reti C hr) _ _ _ _ _ w hl ix1 h
end S_X7_image
section S_X7_restore
variable {p : Program} {l : Launch} {e : Env} {s : State} {m : MethodId} {args : Array Value} {below : List Frame} {meth : Method} {c : Code} {Qm : State → Prop} {G : fb_G} {Q : Int → fb_St → Prop}
abbrev TT_X7_restore_26 (p : Program) (l : Launch) (e : Env) (s : State) (m : MethodId) (args : Array Value) (below : List Frame) (meth : Method) (c : Code) (Qm : State → Prop) (G : fb_G) (r : Int → Int → fb_St → Prop) : Prop := ∀ (x1 x2 : Int) (σ : fb_St) (H : Heap) (locs : List Loc) (ls : Array Slot), fb_Wd G s σ H locs → lv_has ls 3 [(0, .ref (fb_ad G 48)), (1, .int (fb_I x1)), (2, .int (fb_I x2))] → fb_in x1 → fb_in x2 → r x1 x2 σ → W p l e rm_X7_restore s m args below meth c H locs 0 0 Qm (F0 m 26 ls [])
abbrev TT_X7_restore_0 (p : Program) (l : Launch) (e : Env) (s : State) (m : MethodId) (args : Array Value) (below : List Frame) (meth : Method) (c : Code) (Qm : State → Prop) (G : fb_G) (r : Int → fb_St → Prop) : Prop := ∀ (x1 : Int) (σ : fb_St) (H : Heap) (locs : List Loc) (ls : Array Slot), fb_Wd G s σ H locs → lv_has ls 3 [(0, .ref (fb_ad G 48)), (1, .int (fb_I x1))] → fb_in x1 → r x1 σ → W p l e rm_X7_restore s m args below meth c H locs 0 0 Qm (F0 m 0 ls [])
set_option maxRecDepth 100000 in
set_option maxHeartbeats 4000000 in
theorem tw_X7_restore_26 (C : fb_C p s m args meth c G RX7 cX7_restore 3) (hret : fb_RI p l e rm_X7_restore s m args below meth c G cX7_restore Qm Q) {r26 : Int → Int → fb_St → Prop} (h26 : TT_X7_restore_26 p l e s m args below meth c Qm G r26) : TT_X7_restore_26 p l e s m args below meth c Qm G (wb_X7_restore_26 r26 Q) := by
  intro x1 x2 σ H locs ls w hl ix1 ix2 h
  unfold wb_X7_restore_26 at h
  refine lv_iload_n C.1.1 C.1.2.1 dX7_restore_26 rfl (lv_at hl 2 rfl) ?_
  refine fb_sipush C dX7_restore_27 (by decide) ?_
  refine fb_icmp_ge (tgt := 57) C ix2 (by decide) dX7_restore_30 (by decide) (fun c7 => ?_) (fun c7 => ?_)
  · have h := h.2 c7
    refine fb_iconst C dX7_restore_57 ?_
    exact hret _ _ _ _ _ _ (by decide) h w dX7_restore_58
  · have h := h.1 c7
    refine lv_aload_n C.1.1 C.1.2.1 dX7_restore_33 rfl (lv_at hl 0 rfl) ?_
    refine fb_getr (k2 := 49) C w (fb_k48 C) rfl fl_X7_7 dX7_restore_34 ?_
    refine lv_iload_n C.1.1 C.1.2.1 dX7_restore_37 rfl (lv_at hl 2 rfl) ?_
    refine lv_aload_n C.1.1 C.1.2.1 dX7_restore_38 rfl (lv_at hl 0 rfl) ?_
    refine fb_getr (k2 := 50) C w (fb_k48 C) rfl fl_X7_13 dX7_restore_39 ?_
    refine fb_sipush C dX7_restore_42 (by decide) ?_
    refine lv_iload_n C.1.1 C.1.2.1 dX7_restore_45 rfl (lv_at hl 1 rfl) ?_
    obtain ⟨i8, h⟩ := h
    refine fb_imul C dX7_restore_46 ?_
    refine lv_iload_n C.1.1 C.1.2.1 dX7_restore_47 rfl (lv_at hl 2 rfl) ?_
    obtain ⟨i9, h⟩ := h
    refine fb_iadd C dX7_restore_48 ?_
    obtain ⟨z10, z11, h⟩ := h
    refine fb_al C w 584 (fb_k50 C) rfl rfl z10 z11 dX7_restore_49 ?_
    have i12 := w.2.2.2 50 ((292 * x1) + x2)
    obtain ⟨z13, z14, h⟩ := h
    refine fb_as C w 292 (fb_k49 C) rfl rfl i12 z13 z14 dX7_restore_50 (fun σ15 H locs eσ15 w => ?_)
    have h := h σ15 eσ15
    obtain ⟨i16, h⟩ := h
    refine fb_iinc (b := x2 + 1) (k := 2) (lv' := [(2, .int (fb_I (x2 + 1))), (0, .ref (fb_ad G 48)), (1, .int (fb_I x1))]) C dX7_restore_51 hl rfl rfl (by decide) rfl (fun ls hl => ?_)
    refine lv_goto (tgt := 26) C.1.1 C.1.2.1 dX7_restore_54 (by decide) ?_
    exact h26 x1 (x2 + 1) _ _ _ _ w (lv_sub hl [1, 2, 0] rfl) ix1 i16 h
theorem tl_X7_restore_26 (C : fb_C p s m args meth c G RX7 cX7_restore 3) (hret : fb_RI p l e rm_X7_restore s m args below meth c G cX7_restore Qm Q) : ∀ n : Nat, TT_X7_restore_26 p l e s m args below meth c Qm G (wl_X7_restore_26 Q n) := by
  intro n
  induction n with
  | zero => intro x1 x2 σ H locs ls w hl ix1 ix2 h; exact h.elim
  | succ n ih => exact tw_X7_restore_26 C hret ih
set_option maxRecDepth 100000 in
set_option maxHeartbeats 4000000 in
theorem tw_X7_restore_0 (C : fb_C p s m args meth c G RX7 cX7_restore 3) (hret : fb_RI p l e rm_X7_restore s m args below meth c G cX7_restore Qm Q) : TT_X7_restore_0 p l e s m args below meth c Qm G (fun x1 σ => wp_X7_restore x1 σ Q) := by
  intro x1 σ H locs ls w hl ix1 h
  unfold wp_X7_restore at h
  refine lv_iload_n C.1.1 C.1.2.1 dX7_restore_0 rfl (lv_at hl 1 rfl) ?_
  refine fb_iconst C dX7_restore_1 ?_
  refine fb_iconst C dX7_restore_2 ?_
  refine fb_callSi (As := [.int (fb_I x1), .int (fb_I 0), .int (fb_I 1)]) (rest := []) C w (ct_X7_in l G ix1 (by decide) (by decide) h) ms_X7_65 ⟨rfl, rfl, Nat.le_of_ble_eq_true rfl, Nat.le_of_ble_eq_true rfl, Nat.zero_le _, Nat.zero_le _⟩ rfl hl.1 rfl (Nat.le_of_ble_eq_true rfl) dX7_restore_3 (fun a1 σ1 H locs h ia1 w => ?_)
  refine fb_if_ne (tgt := 12) C ia1 dX7_restore_6 (by decide) (fun c2 => ?_) (fun c2 => ?_)
  · have h := h.2 c2
    refine lv_aload_n C.1.1 C.1.2.1 dX7_restore_12 rfl (lv_at hl 0 rfl) ?_
    refine fb_getr (k2 := 51) C w (fb_k48 C) rfl fl_X7_16 dX7_restore_13 ?_
    refine lv_iload_n C.1.1 C.1.2.1 dX7_restore_16 rfl (lv_at hl 1 rfl) ?_
    obtain ⟨z3, z4, h⟩ := h
    refine fb_zl C w 2 (fb_k51 C) rfl rfl z3 z4 dX7_restore_17 ?_
    have i5 := w.2.2.2 51 x1
    refine fb_if_ne (tgt := 24) C i5 dX7_restore_18 (by decide) (fun c6 => ?_) (fun c6 => ?_)
    · have h := h.2 c6
      refine fb_iconst C dX7_restore_24 ?_
      refine lv_istore_n (lv' := [(2, .int (fb_I 0)), (0, .ref (fb_ad G 48)), (1, .int (fb_I x1))]) C.1.1 C.1.2.1 dX7_restore_25 rfl hl (by decide) rfl (fun ls hl => ?_)
      obtain ⟨n, h⟩ := h
      exact tl_X7_restore_26 C hret n x1 0 _ _ _ _ w (lv_sub hl [1, 2, 0] rfl) ix1 (by decide) h
    · have h := h.1 c6
      refine fb_bipush C dX7_restore_21 (by decide) ?_
      exact hret _ _ _ _ _ _ (by decide) h w dX7_restore_23
  · have h := h.1 c2
    refine fb_bipush C dX7_restore_9 (by decide) ?_
    exact hret _ _ _ _ _ _ (by decide) h w dX7_restore_11
theorem ct_X7_restore (l : Launch) (G : fb_G) {x1 : Int} {σ : fb_St} (ix1 : fb_in x1) (h : wp_X7_restore x1 σ Q) : fb_MI l G yX7_restore cX7_restore 3 (some .int) rm_X7_restore [.ref (fb_ad G 48), .int (fb_I x1)] σ Q := by
  refine fb_ofW (own := RX7) (by decide) (Nat.le_of_ble_eq_true rfl) rfl (fun p e s m args below meth c ls C hr hl w => ?_)
  exact tw_X7_restore_0 C (fb_reti C hr) _ _ _ _ _ w hl ix1 h
end S_X7_restore
