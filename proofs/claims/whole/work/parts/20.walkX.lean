section S_X6_within
variable {p : Program} {l : Launch} {e : Env} {s : State} {m : MethodId} {args : Array Value} {below : List Frame} {meth : Method} {c : Code} {Qm : State → Prop} {G : fb_G} {Q : Int → fb_St → Prop}
abbrev TT_X6_within_15 (p : Program) (l : Launch) (e : Env) (s : State) (m : MethodId) (args : Array Value) (below : List Frame) (meth : Method) (c : Code) (Qm : State → Prop) (G : fb_G) (r : Int → fb_St → Prop) : Prop := ∀ (s0 : Int) (σ : fb_St) (H : Heap) (locs : List Loc) (ls : Array Slot), fb_Wd G s σ H locs → lv_has ls 3 [] → fb_in s0 → r s0 σ → W p l e rm_X6_within s m args below meth c H locs 0 0 Qm (F0 m 15 ls [.int (fb_I s0)])
abbrev TT_X6_within_14 (p : Program) (l : Launch) (e : Env) (s : State) (m : MethodId) (args : Array Value) (below : List Frame) (meth : Method) (c : Code) (Qm : State → Prop) (G : fb_G) (r : fb_St → Prop) : Prop := ∀ (σ : fb_St) (H : Heap) (locs : List Loc) (ls : Array Slot), fb_Wd G s σ H locs → lv_has ls 3 [] → r σ → W p l e rm_X6_within s m args below meth c H locs 0 0 Qm (F0 m 14 ls [])
abbrev TT_X6_within_0 (p : Program) (l : Launch) (e : Env) (s : State) (m : MethodId) (args : Array Value) (below : List Frame) (meth : Method) (c : Code) (Qm : State → Prop) (G : fb_G) (r : Int → Int → Int → fb_St → Prop) : Prop := ∀ (x0 x1 x2 : Int) (σ : fb_St) (H : Heap) (locs : List Loc) (ls : Array Slot), fb_Wd G s σ H locs → lv_has ls 3 [(0, .int (fb_I x0)), (1, .int (fb_I x1)), (2, .int (fb_I x2))] → fb_in x0 → fb_in x1 → fb_in x2 → r x0 x1 x2 σ → W p l e rm_X6_within s m args below meth c H locs 0 0 Qm (F0 m 0 ls [])
set_option maxRecDepth 100000 in
set_option maxHeartbeats 4000000 in
theorem tw_X6_within_15 (C : fb_C p s m args meth c G RX6 cX6_within 3) (hret : fb_RZ p l e rm_X6_within s m args below meth c G cX6_within Qm Q) : TT_X6_within_15 p l e s m args below meth c Qm G (wj_X6_within_15 Q) := by
  intro s0 σ H locs ls w hl is0 h
  unfold wj_X6_within_15 at h
  obtain ⟨z3, h⟩ := h
  exact hret _ _ _ _ _ _ is0 z3 h w dX6_within_15
set_option maxRecDepth 100000 in
set_option maxHeartbeats 4000000 in
theorem tw_X6_within_14 (C : fb_C p s m args meth c G RX6 cX6_within 3) (hret : fb_RZ p l e rm_X6_within s m args below meth c G cX6_within Qm Q) : TT_X6_within_14 p l e s m args below meth c Qm G (wj_X6_within_14 Q) := by
  intro σ H locs ls w hl h
  unfold wj_X6_within_14 at h
  refine fb_iconst C dX6_within_14 ?_
  exact tw_X6_within_15 C hret 0 _ _ _ _ w (lv_sub hl [] rfl) (by decide) h
set_option maxRecDepth 100000 in
set_option maxHeartbeats 4000000 in
theorem tw_X6_within_0 (C : fb_C p s m args meth c G RX6 cX6_within 3) (hret : fb_RZ p l e rm_X6_within s m args below meth c G cX6_within Qm Q) : TT_X6_within_0 p l e s m args below meth c Qm G (fun x0 x1 x2 σ => wp_X6_within x0 x1 x2 σ Q) := by
  intro x0 x1 x2 σ H locs ls w hl ix0 ix1 ix2 h
  unfold wp_X6_within at h
  refine lv_iload_n C.1.1 C.1.2.1 dX6_within_0 rfl (lv_at hl 0 rfl) ?_
  refine lv_iload_n C.1.1 C.1.2.1 dX6_within_1 rfl (lv_at hl 1 rfl) ?_
  refine fb_icmp_lt (tgt := 14) C ix0 ix1 dX6_within_2 (by decide) (fun c1 => ?_) (fun c1 => ?_)
  · have h := h.1 c1
    exact tw_X6_within_14 C hret _ _ _ _ w (lv_sub hl [] rfl) h
  · have h := h.2 c1
    refine lv_iload_n C.1.1 C.1.2.1 dX6_within_5 rfl (lv_at hl 0 rfl) ?_
    refine lv_iload_n C.1.1 C.1.2.1 dX6_within_6 rfl (lv_at hl 2 rfl) ?_
    refine fb_icmp_gt (tgt := 14) C ix0 ix2 dX6_within_7 (by decide) (fun c2 => ?_) (fun c2 => ?_)
    · have h := h.1 c2
      exact tw_X6_within_14 C hret _ _ _ _ w (lv_sub hl [] rfl) h
    · have h := h.2 c2
      refine fb_iconst C dX6_within_10 ?_
      refine lv_goto (tgt := 15) C.1.1 C.1.2.1 dX6_within_11 (by decide) ?_
      exact tw_X6_within_15 C hret 1 _ _ _ _ w (lv_sub hl [] rfl) (by decide) h
theorem ct_X6_within (l : Launch) (G : fb_G) {x0 : Int} {x1 : Int} {x2 : Int} {σ : fb_St} (ix0 : fb_in x0) (ix1 : fb_in x1) (ix2 : fb_in x2) (h : wp_X6_within x0 x1 x2 σ Q) : fb_MI l G yX6_within cX6_within 3 (some .boolean) rm_X6_within [.int (fb_I x0), .int (fb_I x1), .int (fb_I x2)] σ Q := by
  refine fb_ofW (own := RX6) (by decide) (Nat.le_of_ble_eq_true rfl) rfl (fun p e s m args below meth c ls C hr hl w => ?_)
  exact tw_X6_within_0 C (fb_retz C hr) _ _ _ _ _ _ _ w hl ix0 ix1 ix2 h
end S_X6_within
section S_X5_dotAt
variable {p : Program} {l : Launch} {e : Env} {s : State} {m : MethodId} {args : Array Value} {below : List Frame} {meth : Method} {c : Code} {Qm : State → Prop} {G : fb_G} {Q : Int → fb_St → Prop}
abbrev TT_X5_dotAt_40 (p : Program) (l : Launch) (e : Env) (s : State) (m : MethodId) (args : Array Value) (below : List Frame) (meth : Method) (c : Code) (Qm : State → Prop) (G : fb_G) (r : Int → fb_St → Prop) : Prop := ∀ (s0 : Int) (σ : fb_St) (H : Heap) (locs : List Loc) (ls : Array Slot), fb_Wd G s σ H locs → lv_has ls 3 [] → fb_in s0 → r s0 σ → W p l e rm_X5_dotAt s m args below meth c H locs 0 0 Qm (F0 m 40 ls [.int (fb_I s0)])
abbrev TT_X5_dotAt_39 (p : Program) (l : Launch) (e : Env) (s : State) (m : MethodId) (args : Array Value) (below : List Frame) (meth : Method) (c : Code) (Qm : State → Prop) (G : fb_G) (r : fb_St → Prop) : Prop := ∀ (σ : fb_St) (H : Heap) (locs : List Loc) (ls : Array Slot), fb_Wd G s σ H locs → lv_has ls 3 [] → r σ → W p l e rm_X5_dotAt s m args below meth c H locs 0 0 Qm (F0 m 39 ls [])
abbrev TT_X5_dotAt_0 (p : Program) (l : Launch) (e : Env) (s : State) (m : MethodId) (args : Array Value) (below : List Frame) (meth : Method) (c : Code) (Qm : State → Prop) (G : fb_G) (r : Int → Int → fb_St → Prop) : Prop := ∀ (x1 x2 : Int) (σ : fb_St) (H : Heap) (locs : List Loc) (ls : Array Slot), fb_Wd G s σ H locs → lv_has ls 3 [(0, .ref (fb_ad G 1)), (1, .int (fb_I x1)), (2, .int (fb_I x2))] → fb_in x1 → fb_in x2 → r x1 x2 σ → W p l e rm_X5_dotAt s m args below meth c H locs 0 0 Qm (F0 m 0 ls [])
set_option maxRecDepth 100000 in
set_option maxHeartbeats 4000000 in
theorem tw_X5_dotAt_40 (C : fb_C p s m args meth c G RX5 cX5_dotAt 3) (hret : fb_RI p l e rm_X5_dotAt s m args below meth c G cX5_dotAt Qm Q) : TT_X5_dotAt_40 p l e s m args below meth c Qm G (wj_X5_dotAt_40 Q) := by
  intro s0 σ H locs ls w hl is0 h
  unfold wj_X5_dotAt_40 at h
  exact hret _ _ _ _ _ _ is0 h w dX5_dotAt_40
set_option maxRecDepth 100000 in
set_option maxHeartbeats 4000000 in
theorem tw_X5_dotAt_39 (C : fb_C p s m args meth c G RX5 cX5_dotAt 3) (hret : fb_RI p l e rm_X5_dotAt s m args below meth c G cX5_dotAt Qm Q) : TT_X5_dotAt_39 p l e s m args below meth c Qm G (wj_X5_dotAt_39 Q) := by
  intro σ H locs ls w hl h
  unfold wj_X5_dotAt_39 at h
  refine fb_iconst C dX5_dotAt_39 ?_
  exact tw_X5_dotAt_40 C hret (-1) _ _ _ _ w (lv_sub hl [] rfl) (by decide) h
set_option maxRecDepth 100000 in
set_option maxHeartbeats 4000000 in
theorem tw_X5_dotAt_0 (C : fb_C p s m args meth c G RX5 cX5_dotAt 3) (hret : fb_RI p l e rm_X5_dotAt s m args below meth c G cX5_dotAt Qm Q) : TT_X5_dotAt_0 p l e s m args below meth c Qm G (fun x1 x2 σ => wp_X5_dotAt x1 x2 σ Q) := by
  intro x1 x2 σ H locs ls w hl ix1 ix2 h
  unfold wp_X5_dotAt at h
  refine lv_iload_n C.1.1 C.1.2.1 dX5_dotAt_0 rfl (lv_at hl 1 rfl) ?_
  refine fb_iconst C dX5_dotAt_1 ?_
  refine lv_aload_n C.1.1 C.1.2.1 dX5_dotAt_2 rfl (lv_at hl 0 rfl) ?_
  refine fb_gi C w 0 (fb_k1 C) rfl rfl fl_X5_9 dX5_dotAt_3 ?_
  have i1 := w.2.2.2 1 0
  refine fb_iconst C dX5_dotAt_6 ?_
  obtain ⟨i2, h⟩ := h
  refine fb_isub C dX5_dotAt_7 ?_
  refine fb_callNi (As := [.int (fb_I x1), .int (fb_I 0), .int (fb_I ((σ 1 0) - 1))]) (rest := []) C w C.2.1.1.2.1 (ct_X6_within l G ix1 (by decide) i2 h) (mn_X6_within _) ⟨rfl, rfl, Nat.le_of_ble_eq_true rfl, Nat.le_of_ble_eq_true rfl, Nat.zero_le _, Nat.zero_le _⟩ rfl hl.1 rfl (Nat.le_of_ble_eq_true rfl) dX5_dotAt_8 (fun a3 σ3 H locs h ia3 w => ?_)
  refine fb_if_eq (tgt := 39) C ia3 dX5_dotAt_11 (by decide) (fun c4 => ?_) (fun c4 => ?_)
  · have h := h.1 c4
    exact tw_X5_dotAt_39 C hret _ _ _ _ w (lv_sub hl [] rfl) h
  · have h := h.2 c4
    refine lv_iload_n C.1.1 C.1.2.1 dX5_dotAt_14 rfl (lv_at hl 2 rfl) ?_
    refine fb_iconst C dX5_dotAt_15 ?_
    refine lv_aload_n C.1.1 C.1.2.1 dX5_dotAt_16 rfl (lv_at hl 0 rfl) ?_
    refine fb_gi C w 1 (fb_k1 C) rfl rfl fl_X5_15 dX5_dotAt_17 ?_
    have i5 := w.2.2.2 1 1
    refine fb_iconst C dX5_dotAt_20 ?_
    obtain ⟨i6, h⟩ := h
    refine fb_isub C dX5_dotAt_21 ?_
    refine fb_callNi (As := [.int (fb_I x2), .int (fb_I 0), .int (fb_I ((σ3 1 1) - 1))]) (rest := []) C w C.2.1.1.2.1 (ct_X6_within l G ix2 (by decide) i6 h) (mn_X6_within _) ⟨rfl, rfl, Nat.le_of_ble_eq_true rfl, Nat.le_of_ble_eq_true rfl, Nat.zero_le _, Nat.zero_le _⟩ rfl hl.1 rfl (Nat.le_of_ble_eq_true rfl) dX5_dotAt_22 (fun a7 σ7 H locs h ia7 w => ?_)
    refine fb_if_eq (tgt := 39) C ia7 dX5_dotAt_25 (by decide) (fun c8 => ?_) (fun c8 => ?_)
    · have h := h.1 c8
      exact tw_X5_dotAt_39 C hret _ _ _ _ w (lv_sub hl [] rfl) h
    · have h := h.2 c8
      refine lv_iload_n C.1.1 C.1.2.1 dX5_dotAt_28 rfl (lv_at hl 2 rfl) ?_
      refine lv_aload_n C.1.1 C.1.2.1 dX5_dotAt_29 rfl (lv_at hl 0 rfl) ?_
      refine fb_gi C w 0 (fb_k1 C) rfl rfl fl_X5_9 dX5_dotAt_30 ?_
      have i9 := w.2.2.2 1 0
      obtain ⟨i10, h⟩ := h
      refine fb_imul C dX5_dotAt_33 ?_
      refine lv_iload_n C.1.1 C.1.2.1 dX5_dotAt_34 rfl (lv_at hl 1 rfl) ?_
      obtain ⟨i11, h⟩ := h
      refine fb_iadd C dX5_dotAt_35 ?_
      refine lv_goto (tgt := 40) C.1.1 C.1.2.1 dX5_dotAt_36 (by decide) ?_
      exact tw_X5_dotAt_40 C hret ((x2 * (σ7 1 0)) + x1) _ _ _ _ w (lv_sub hl [] rfl) i11 h
theorem ct_X5_dotAt (l : Launch) (G : fb_G) {x1 : Int} {x2 : Int} {σ : fb_St} (ix1 : fb_in x1) (ix2 : fb_in x2) (h : wp_X5_dotAt x1 x2 σ Q) : fb_MI l G yX5_dotAt cX5_dotAt 3 (some .int) rm_X5_dotAt [.ref (fb_ad G 1), .int (fb_I x1), .int (fb_I x2)] σ Q := by
  refine fb_ofW (own := RX5) (by decide) (Nat.le_of_ble_eq_true rfl) rfl (fun p e s m args below meth c ls C hr hl w => ?_)
  exact tw_X5_dotAt_0 C (fb_reti C hr) _ _ _ _ _ _ w hl ix1 ix2 h
end S_X5_dotAt
section S_X5_shape
variable {p : Program} {l : Launch} {e : Env} {s : State} {m : MethodId} {args : Array Value} {below : List Frame} {meth : Method} {c : Code} {Qm : State → Prop} {G : fb_G} {Q : Int → fb_St → Prop}
abbrev TT_X5_shape_30 (p : Program) (l : Launch) (e : Env) (s : State) (m : MethodId) (args : Array Value) (below : List Frame) (meth : Method) (c : Code) (Qm : State → Prop) (G : fb_G) (r : Int → Int → fb_St → Prop) : Prop := ∀ (x3 x4 : Int) (σ : fb_St) (H : Heap) (locs : List Loc) (ls : Array Slot), fb_Wd G s σ H locs → lv_has ls 6 [(0, .ref (fb_ad G 1)), (3, .int (fb_I x3)), (4, .int (fb_I x4))] → fb_in x3 → fb_in x4 → r x3 x4 σ → W p l e rm_X5_shape s m args below meth c H locs 0 0 Qm (F0 m 30 ls [])
abbrev TT_X5_shape_19 (p : Program) (l : Launch) (e : Env) (s : State) (m : MethodId) (args : Array Value) (below : List Frame) (meth : Method) (c : Code) (Qm : State → Prop) (G : fb_G) (r : Int → fb_St → Prop) : Prop := ∀ (x3 : Int) (σ : fb_St) (H : Heap) (locs : List Loc) (ls : Array Slot), fb_Wd G s σ H locs → lv_has ls 6 [(0, .ref (fb_ad G 1)), (3, .int (fb_I x3))] → fb_in x3 → r x3 σ → W p l e rm_X5_shape s m args below meth c H locs 0 0 Qm (F0 m 19 ls [])
abbrev TT_X5_shape_0 (p : Program) (l : Launch) (e : Env) (s : State) (m : MethodId) (args : Array Value) (below : List Frame) (meth : Method) (c : Code) (Qm : State → Prop) (G : fb_G) (r : Int → Int → fb_St → Prop) : Prop := ∀ (x1 x2 : Int) (σ : fb_St) (H : Heap) (locs : List Loc) (ls : Array Slot), fb_Wd G s σ H locs → lv_has ls 6 [(0, .ref (fb_ad G 1)), (1, .int (fb_I x1)), (2, .int (fb_I x2))] → fb_in x1 → fb_in x2 → r x1 x2 σ → W p l e rm_X5_shape s m args below meth c H locs 0 0 Qm (F0 m 0 ls [])
set_option maxRecDepth 100000 in
set_option maxHeartbeats 4000000 in
theorem tw_X5_shape_30 (C : fb_C p s m args meth c G RX5 cX5_shape 6) (hret : fb_RV p l e rm_X5_shape s m args below meth c G cX5_shape Qm Q) {r19 : Int → fb_St → Prop} (h19 : TT_X5_shape_19 p l e s m args below meth c Qm G r19) {r30 : Int → Int → fb_St → Prop} (h30 : TT_X5_shape_30 p l e s m args below meth c Qm G r30) : TT_X5_shape_30 p l e s m args below meth c Qm G (wb_X5_shape_30 r19 r30 Q) := by
  intro x3 x4 σ H locs ls w hl ix3 ix4 h
  unfold wb_X5_shape_30 at h
  refine lv_iload C.1.1 C.1.2.1 dX5_shape_30 (lv_at hl 2 rfl) ?_
  refine lv_aload_n C.1.1 C.1.2.1 dX5_shape_32 rfl (lv_at hl 0 rfl) ?_
  refine fb_gi C w 0 (fb_k1 C) rfl rfl fl_X5_9 dX5_shape_33 ?_
  have i7 := w.2.2.2 1 0
  refine fb_icmp_ge (tgt := 128) C ix4 i7 dX5_shape_36 (by decide) (fun c8 => ?_) (fun c8 => ?_)
  · have h := h.2 c8
    obtain ⟨i9, h⟩ := h
    refine fb_iinc (b := x3 + 1) (k := 1) (lv' := [(3, .int (fb_I (x3 + 1))), (0, .ref (fb_ad G 1)), (4, .int (fb_I x4))]) C dX5_shape_128 hl rfl rfl (by decide) rfl (fun ls hl => ?_)
    refine lv_goto (tgt := 19) C.1.1 C.1.2.1 dX5_shape_131 (by decide) ?_
    exact h19 (x3 + 1) _ _ _ _ w (lv_sub hl [1, 0] rfl) i9 h
  · have h := h.1 c8
    refine lv_iload_n C.1.1 C.1.2.1 dX5_shape_39 rfl (lv_at hl 1 rfl) ?_
    refine lv_aload_n C.1.1 C.1.2.1 dX5_shape_40 rfl (lv_at hl 0 rfl) ?_
    refine fb_gi C w 0 (fb_k1 C) rfl rfl fl_X5_9 dX5_shape_41 ?_
    have i10 := w.2.2.2 1 0
    obtain ⟨i11, h⟩ := h
    refine fb_imul C dX5_shape_44 ?_
    refine lv_iload C.1.1 C.1.2.1 dX5_shape_45 (lv_at hl 2 rfl) ?_
    obtain ⟨i12, h⟩ := h
    refine fb_iadd C dX5_shape_47 ?_
    refine fb_iconst C dX5_shape_48 ?_
    obtain ⟨i13, h⟩ := h
    refine fb_imul C dX5_shape_49 ?_
    refine fb_top (fun v14 ev14 => ?_)
    have h := h v14 ev14
    have iv14 := fb_ie ev14 i13
    refine lv_istore (lv' := [(5, .int (fb_I v14)), (0, .ref (fb_ad G 1)), (3, .int (fb_I x3)), (4, .int (fb_I x4))]) C.1.1 C.1.2.1 dX5_shape_50 hl (by decide) rfl (fun ls hl => ?_)
    refine lv_aload_n C.1.1 C.1.2.1 dX5_shape_52 rfl (lv_at hl 1 rfl) ?_
    refine fb_getr (k2 := 4) C w (fb_k1 C) rfl fl_X5_28 dX5_shape_53 ?_
    refine lv_iload C.1.1 C.1.2.1 dX5_shape_56 (lv_at hl 0 rfl) ?_
    refine lv_aload_n C.1.1 C.1.2.1 dX5_shape_58 rfl (lv_at hl 1 rfl) ?_
    refine lv_iload C.1.1 C.1.2.1 dX5_shape_59 (lv_at hl 3 rfl) ?_
    refine fb_iconst C dX5_shape_61 ?_
    obtain ⟨i15, h⟩ := h
    refine fb_iadd C dX5_shape_62 ?_
    refine lv_iload_n C.1.1 C.1.2.1 dX5_shape_63 rfl (lv_at hl 2 rfl) ?_
    refine fb_callVi (As := [.int (fb_I (x4 + 1)), .int (fb_I x3)]) (rest := [.int (fb_I v14), .ref (fb_ad G 4)]) C w (ct_X5_dotAt l G i15 ix3 h) mv_X5_31 (fb_k1 C) rfl ⟨rfl, rfl, Nat.le_of_ble_eq_true rfl, Nat.le_of_ble_eq_true rfl, Nat.zero_le _, Nat.zero_le _⟩ rfl hl.1 rfl (Nat.le_of_ble_eq_true rfl) dX5_shape_64 (fun a16 σ16 H locs h ia16 w => ?_)
    obtain ⟨z17, z18, h⟩ := h
    refine fb_as C w 576 (fb_k4 C) rfl rfl ia16 z17 z18 dX5_shape_67 (fun σ19 H locs eσ19 w => ?_)
    have h := h σ19 eσ19
    refine lv_aload_n C.1.1 C.1.2.1 dX5_shape_68 rfl (lv_at hl 1 rfl) ?_
    refine fb_getr (k2 := 4) C w (fb_k1 C) rfl fl_X5_28 dX5_shape_69 ?_
    refine lv_iload C.1.1 C.1.2.1 dX5_shape_72 (lv_at hl 0 rfl) ?_
    refine fb_iconst C dX5_shape_74 ?_
    obtain ⟨i20, h⟩ := h
    refine fb_iadd C dX5_shape_75 ?_
    refine lv_aload_n C.1.1 C.1.2.1 dX5_shape_76 rfl (lv_at hl 1 rfl) ?_
    refine lv_iload C.1.1 C.1.2.1 dX5_shape_77 (lv_at hl 3 rfl) ?_
    refine lv_iload_n C.1.1 C.1.2.1 dX5_shape_79 rfl (lv_at hl 2 rfl) ?_
    refine fb_iconst C dX5_shape_80 ?_
    obtain ⟨i21, h⟩ := h
    refine fb_iadd C dX5_shape_81 ?_
    refine fb_callVi (As := [.int (fb_I x4), .int (fb_I (x3 + 1))]) (rest := [.int (fb_I (v14 + 1)), .ref (fb_ad G 4)]) C w (ct_X5_dotAt l G ix4 i21 h) mv_X5_31 (fb_k1 C) rfl ⟨rfl, rfl, Nat.le_of_ble_eq_true rfl, Nat.le_of_ble_eq_true rfl, Nat.zero_le _, Nat.zero_le _⟩ rfl hl.1 rfl (Nat.le_of_ble_eq_true rfl) dX5_shape_82 (fun a22 σ22 H locs h ia22 w => ?_)
    obtain ⟨z23, z24, h⟩ := h
    refine fb_as C w 576 (fb_k4 C) rfl rfl ia22 z23 z24 dX5_shape_85 (fun σ25 H locs eσ25 w => ?_)
    have h := h σ25 eσ25
    refine lv_aload_n C.1.1 C.1.2.1 dX5_shape_86 rfl (lv_at hl 1 rfl) ?_
    refine fb_getr (k2 := 4) C w (fb_k1 C) rfl fl_X5_28 dX5_shape_87 ?_
    refine lv_iload C.1.1 C.1.2.1 dX5_shape_90 (lv_at hl 0 rfl) ?_
    refine fb_iconst C dX5_shape_92 ?_
    obtain ⟨i26, h⟩ := h
    refine fb_iadd C dX5_shape_93 ?_
    refine lv_aload_n C.1.1 C.1.2.1 dX5_shape_94 rfl (lv_at hl 1 rfl) ?_
    refine lv_iload C.1.1 C.1.2.1 dX5_shape_95 (lv_at hl 3 rfl) ?_
    refine fb_iconst C dX5_shape_97 ?_
    obtain ⟨i27, h⟩ := h
    refine fb_isub C dX5_shape_98 ?_
    refine lv_iload_n C.1.1 C.1.2.1 dX5_shape_99 rfl (lv_at hl 2 rfl) ?_
    refine fb_callVi (As := [.int (fb_I (x4 - 1)), .int (fb_I x3)]) (rest := [.int (fb_I (v14 + 2)), .ref (fb_ad G 4)]) C w (ct_X5_dotAt l G i27 ix3 h) mv_X5_31 (fb_k1 C) rfl ⟨rfl, rfl, Nat.le_of_ble_eq_true rfl, Nat.le_of_ble_eq_true rfl, Nat.zero_le _, Nat.zero_le _⟩ rfl hl.1 rfl (Nat.le_of_ble_eq_true rfl) dX5_shape_100 (fun a28 σ28 H locs h ia28 w => ?_)
    obtain ⟨z29, z30, h⟩ := h
    refine fb_as C w 576 (fb_k4 C) rfl rfl ia28 z29 z30 dX5_shape_103 (fun σ31 H locs eσ31 w => ?_)
    have h := h σ31 eσ31
    refine lv_aload_n C.1.1 C.1.2.1 dX5_shape_104 rfl (lv_at hl 1 rfl) ?_
    refine fb_getr (k2 := 4) C w (fb_k1 C) rfl fl_X5_28 dX5_shape_105 ?_
    refine lv_iload C.1.1 C.1.2.1 dX5_shape_108 (lv_at hl 0 rfl) ?_
    refine fb_iconst C dX5_shape_110 ?_
    obtain ⟨i32, h⟩ := h
    refine fb_iadd C dX5_shape_111 ?_
    refine lv_aload_n C.1.1 C.1.2.1 dX5_shape_112 rfl (lv_at hl 1 rfl) ?_
    refine lv_iload C.1.1 C.1.2.1 dX5_shape_113 (lv_at hl 3 rfl) ?_
    refine lv_iload_n C.1.1 C.1.2.1 dX5_shape_115 rfl (lv_at hl 2 rfl) ?_
    refine fb_iconst C dX5_shape_116 ?_
    obtain ⟨i33, h⟩ := h
    refine fb_isub C dX5_shape_117 ?_
    refine fb_callVi (As := [.int (fb_I x4), .int (fb_I (x3 - 1))]) (rest := [.int (fb_I (v14 + 3)), .ref (fb_ad G 4)]) C w (ct_X5_dotAt l G ix4 i33 h) mv_X5_31 (fb_k1 C) rfl ⟨rfl, rfl, Nat.le_of_ble_eq_true rfl, Nat.le_of_ble_eq_true rfl, Nat.zero_le _, Nat.zero_le _⟩ rfl hl.1 rfl (Nat.le_of_ble_eq_true rfl) dX5_shape_118 (fun a34 σ34 H locs h ia34 w => ?_)
    obtain ⟨z35, z36, h⟩ := h
    refine fb_as C w 576 (fb_k4 C) rfl rfl ia34 z35 z36 dX5_shape_121 (fun σ37 H locs eσ37 w => ?_)
    have h := h σ37 eσ37
    obtain ⟨i38, h⟩ := h
    refine fb_iinc (b := x4 + 1) (k := 3) (lv' := [(4, .int (fb_I (x4 + 1))), (5, .int (fb_I v14)), (0, .ref (fb_ad G 1)), (3, .int (fb_I x3))]) C dX5_shape_122 hl rfl rfl (by decide) rfl (fun ls hl => ?_)
    refine lv_goto (tgt := 30) C.1.1 C.1.2.1 dX5_shape_125 (by decide) ?_
    exact h30 x3 (x4 + 1) _ _ _ _ w (lv_sub hl [2, 3, 0] rfl) ix3 i38 h
theorem tl_X5_shape_30 (C : fb_C p s m args meth c G RX5 cX5_shape 6) (hret : fb_RV p l e rm_X5_shape s m args below meth c G cX5_shape Qm Q) {r19 : Int → fb_St → Prop} (h19 : TT_X5_shape_19 p l e s m args below meth c Qm G r19) : ∀ n : Nat, TT_X5_shape_30 p l e s m args below meth c Qm G (wl_X5_shape_30 r19 Q n) := by
  intro n
  induction n with
  | zero => intro x3 x4 σ H locs ls w hl ix3 ix4 h; exact h.elim
  | succ n ih => exact tw_X5_shape_30 C hret h19 ih
set_option maxRecDepth 100000 in
set_option maxHeartbeats 4000000 in
theorem tw_X5_shape_19 (C : fb_C p s m args meth c G RX5 cX5_shape 6) (hret : fb_RV p l e rm_X5_shape s m args below meth c G cX5_shape Qm Q) {r19 : Int → fb_St → Prop} (h19 : TT_X5_shape_19 p l e s m args below meth c Qm G r19) : TT_X5_shape_19 p l e s m args below meth c Qm G (wb_X5_shape_19 r19 Q) := by
  intro x3 σ H locs ls w hl ix3 h
  unfold wb_X5_shape_19 at h
  refine lv_iload_n C.1.1 C.1.2.1 dX5_shape_19 rfl (lv_at hl 1 rfl) ?_
  refine lv_aload_n C.1.1 C.1.2.1 dX5_shape_20 rfl (lv_at hl 0 rfl) ?_
  refine fb_gi C w 1 (fb_k1 C) rfl rfl fl_X5_15 dX5_shape_21 ?_
  have i5 := w.2.2.2 1 1
  refine fb_icmp_ge (tgt := 134) C ix3 i5 dX5_shape_24 (by decide) (fun c6 => ?_) (fun c6 => ?_)
  · have h := h.2 c6
    exact hret _ _ _ _ _ h w dX5_shape_134
  · have h := h.1 c6
    refine fb_iconst C dX5_shape_27 ?_
    refine lv_istore (lv' := [(4, .int (fb_I 0)), (0, .ref (fb_ad G 1)), (3, .int (fb_I x3))]) C.1.1 C.1.2.1 dX5_shape_28 hl (by decide) rfl (fun ls hl => ?_)
    obtain ⟨n, h⟩ := h
    exact tl_X5_shape_30 C hret h19 n x3 0 _ _ _ _ w (lv_sub hl [1, 2, 0] rfl) ix3 (by decide) h
theorem tl_X5_shape_19 (C : fb_C p s m args meth c G RX5 cX5_shape 6) (hret : fb_RV p l e rm_X5_shape s m args below meth c G cX5_shape Qm Q) : ∀ n : Nat, TT_X5_shape_19 p l e s m args below meth c Qm G (wl_X5_shape_19 Q n) := by
  intro n
  induction n with
  | zero => intro x3 σ H locs ls w hl ix3 h; exact h.elim
  | succ n ih => exact tw_X5_shape_19 C hret ih
set_option maxRecDepth 100000 in
set_option maxHeartbeats 4000000 in
theorem tw_X5_shape_0 (C : fb_C p s m args meth c G RX5 cX5_shape 6) (hret : fb_RV p l e rm_X5_shape s m args below meth c G cX5_shape Qm Q) : TT_X5_shape_0 p l e s m args below meth c Qm G (fun x1 x2 σ => wp_X5_shape x1 x2 σ Q) := by
  intro x1 x2 σ H locs ls w hl ix1 ix2 h
  unfold wp_X5_shape at h
  refine lv_aload_n C.1.1 C.1.2.1 dX5_shape_0 rfl (lv_at hl 0 rfl) ?_
  refine lv_iload_n C.1.1 C.1.2.1 dX5_shape_1 rfl (lv_at hl 1 rfl) ?_
  refine fb_pi C w 0 (fb_k1 C) rfl rfl fl_X5_9 tyX5_ok nmX5 rfl ix1 rfl rfl dX5_shape_2 (fun σ1 H locs eσ1 w => ?_)
  have h := h σ1 eσ1
  refine lv_aload_n C.1.1 C.1.2.1 dX5_shape_5 rfl (lv_at hl 0 rfl) ?_
  refine lv_iload_n C.1.1 C.1.2.1 dX5_shape_6 rfl (lv_at hl 2 rfl) ?_
  refine fb_pi C w 1 (fb_k1 C) rfl rfl fl_X5_15 tyX5_ok nmX5 rfl ix2 rfl rfl dX5_shape_7 (fun σ2 H locs eσ2 w => ?_)
  have h := h σ2 eσ2
  refine lv_aload_n C.1.1 C.1.2.1 dX5_shape_10 rfl (lv_at hl 0 rfl) ?_
  refine lv_iload_n C.1.1 C.1.2.1 dX5_shape_11 rfl (lv_at hl 1 rfl) ?_
  refine lv_iload_n C.1.1 C.1.2.1 dX5_shape_12 rfl (lv_at hl 2 rfl) ?_
  obtain ⟨i3, h⟩ := h
  refine fb_imul C dX5_shape_13 ?_
  refine fb_pi C w 2 (fb_k1 C) rfl rfl fl_X5_18 tyX5_ok nmX5 rfl i3 rfl rfl dX5_shape_14 (fun σ4 H locs eσ4 w => ?_)
  have h := h σ4 eσ4
  refine fb_iconst C dX5_shape_17 ?_
  refine lv_istore_n (lv' := [(3, .int (fb_I 0)), (0, .ref (fb_ad G 1)), (1, .int (fb_I x1)), (2, .int (fb_I x2))]) C.1.1 C.1.2.1 dX5_shape_18 rfl hl (by decide) rfl (fun ls hl => ?_)
  obtain ⟨n, h⟩ := h
  exact tl_X5_shape_19 C hret n 0 _ _ _ _ w (lv_sub hl [1, 0] rfl) (by decide) h
theorem ct_X5_shape (l : Launch) (G : fb_G) {x1 : Int} {x2 : Int} {σ : fb_St} (ix1 : fb_in x1) (ix2 : fb_in x2) (h : wp_X5_shape x1 x2 σ Q) : fb_MV l G yX5_shape cX5_shape 6 rm_X5_shape [.ref (fb_ad G 1), .int (fb_I x1), .int (fb_I x2)] σ Q := by
  refine fb_ofW (own := RX5) (by decide) (Nat.le_of_ble_eq_true rfl) rfl (fun p e s m args below meth c ls C hr hl w => ?_)
  exact tw_X5_shape_0 C (fb_retv C hr) _ _ _ _ _ _ w hl ix1 ix2 h
end S_X5_shape
section S_X5_clear
variable {p : Program} {l : Launch} {e : Env} {s : State} {m : MethodId} {args : Array Value} {below : List Frame} {meth : Method} {c : Code} {Qm : State → Prop} {G : fb_G} {Q : Int → fb_St → Prop}
abbrev TT_X5_clear_0 (p : Program) (l : Launch) (e : Env) (s : State) (m : MethodId) (args : Array Value) (below : List Frame) (meth : Method) (c : Code) (Qm : State → Prop) (G : fb_G) (r : fb_St → Prop) : Prop := ∀ (σ : fb_St) (H : Heap) (locs : List Loc) (ls : Array Slot), fb_Wd G s σ H locs → lv_has ls 1 [(0, .ref (fb_ad G 1))] → r σ → W p l e rm_X5_clear s m args below meth c H locs 0 0 Qm (F0 m 0 ls [])
set_option maxRecDepth 100000 in
set_option maxHeartbeats 4000000 in
theorem tw_X5_clear_0 (C : fb_C p s m args meth c G RX5 cX5_clear 1) (hret : fb_RV p l e rm_X5_clear s m args below meth c G cX5_clear Qm Q) : TT_X5_clear_0 p l e s m args below meth c Qm G (fun σ => wp_X5_clear σ Q) := by
  intro σ H locs ls w hl h
  unfold wp_X5_clear at h
  refine lv_aload_n C.1.1 C.1.2.1 dX5_clear_0 rfl (lv_at hl 0 rfl) ?_
  refine fb_getr (k2 := 2) C w (fb_k1 C) rfl fl_X5_21 dX5_clear_1 ?_
  refine fb_iconst C dX5_clear_4 ?_
  refine fb_callSv (rest := []) C w (fb_fillM l G (Qp := fun _ q => q = fb_fill σ 2 0) (fb_k2 C) (Nat.le_of_ble_eq_true rfl) (by decide) rfl) ms_X5_35 ⟨rfl, rfl, Nat.le_of_ble_eq_true rfl, Nat.le_of_ble_eq_true rfl, Nat.zero_le _, Nat.zero_le _⟩ rfl hl.1 rfl (Nat.le_of_ble_eq_true rfl) dX5_clear_5 (fun σ1 H locs eσ1 w => ?_)
  have h := h σ1 eσ1
  refine lv_aload_n C.1.1 C.1.2.1 dX5_clear_8 rfl (lv_at hl 0 rfl) ?_
  refine fb_getr (k2 := 3) C w (fb_k1 C) rfl fl_X5_25 dX5_clear_9 ?_
  refine fb_iconst C dX5_clear_12 ?_
  refine fb_callSv (rest := []) C w (fb_fillM l G (Qp := fun _ q => q = fb_fill σ1 3 0) (fb_k3 C) (Nat.le_of_ble_eq_true rfl) (by decide) rfl) ms_X5_35 ⟨rfl, rfl, Nat.le_of_ble_eq_true rfl, Nat.le_of_ble_eq_true rfl, Nat.zero_le _, Nat.zero_le _⟩ rfl hl.1 rfl (Nat.le_of_ble_eq_true rfl) dX5_clear_13 (fun σ2 H locs eσ2 w => ?_)
  have h := h σ2 eσ2
  exact hret _ _ _ _ _ h w dX5_clear_16
theorem ct_X5_clear (l : Launch) (G : fb_G) {σ : fb_St} (h : wp_X5_clear σ Q) : fb_MV l G yX5_clear cX5_clear 1 rm_X5_clear [.ref (fb_ad G 1)] σ Q := by
  refine fb_ofW (own := RX5) (by decide) (Nat.le_of_ble_eq_true rfl) rfl (fun p e s m args below meth c ls C hr hl w => ?_)
  exact tw_X5_clear_0 C (fb_retv C hr) _ _ _ _ w hl h
end S_X5_clear
section S_X6_nothingStands
variable {p : Program} {l : Launch} {e : Env} {s : State} {m : MethodId} {args : Array Value} {below : List Frame} {meth : Method} {c : Code} {Qm : State → Prop} {G : fb_G} {Q : Int → fb_St → Prop}
abbrev TT_X6_nothingStands_0 (p : Program) (l : Launch) (e : Env) (s : State) (m : MethodId) (args : Array Value) (below : List Frame) (meth : Method) (c : Code) (Qm : State → Prop) (G : fb_G) (r : fb_St → Prop) : Prop := ∀ (σ : fb_St) (H : Heap) (locs : List Loc) (ls : Array Slot), fb_Wd G s σ H locs → lv_has ls 1 [(0, .ref (fb_ad G 0))] → r σ → W p l e rm_X6_nothingStands s m args below meth c H locs 0 0 Qm (F0 m 0 ls [])
set_option maxRecDepth 100000 in
set_option maxHeartbeats 4000000 in
theorem tw_X6_nothingStands_0 (C : fb_C p s m args meth c G RX6 cX6_nothingStands 1) (hret : fb_RV p l e rm_X6_nothingStands s m args below meth c G cX6_nothingStands Qm Q) : TT_X6_nothingStands_0 p l e s m args below meth c Qm G (fun σ => wp_X6_nothingStands σ Q) := by
  intro σ H locs ls w hl h
  unfold wp_X6_nothingStands at h
  refine lv_aload_n C.1.1 C.1.2.1 dX6_nothingStands_0 rfl (lv_at hl 0 rfl) ?_
  refine fb_iconst C dX6_nothingStands_1 ?_
  refine fb_pi C w 8 (fb_k0 C) rfl rfl fl_X6_54 tyX6_ok nmX6 rfl (by decide) (fb_nzb (by decide)) (fb_fzb (by decide)) dX6_nothingStands_2 (fun σ1 H locs eσ1 w => ?_)
  have h := h σ1 eσ1
  refine lv_aload_n C.1.1 C.1.2.1 dX6_nothingStands_5 rfl (lv_at hl 0 rfl) ?_
  refine fb_iconst C dX6_nothingStands_6 ?_
  refine fb_pi C w 9 (fb_k0 C) rfl rfl fl_X6_58 tyX6_ok nmX6 rfl (by decide) (fb_nzb (by decide)) (fb_fzb (by decide)) dX6_nothingStands_7 (fun σ2 H locs eσ2 w => ?_)
  have h := h σ2 eσ2
  refine lv_aload_n C.1.1 C.1.2.1 dX6_nothingStands_10 rfl (lv_at hl 0 rfl) ?_
  refine fb_iconst C dX6_nothingStands_11 ?_
  refine fb_pi C w 10 (fb_k0 C) rfl rfl fl_X6_61 tyX6_ok nmX6 rfl (by decide) (fb_nzb (by decide)) (fb_fzb (by decide)) dX6_nothingStands_12 (fun σ3 H locs eσ3 w => ?_)
  have h := h σ3 eσ3
  exact hret _ _ _ _ _ h w dX6_nothingStands_15
theorem ct_X6_nothingStands (l : Launch) (G : fb_G) {σ : fb_St} (h : wp_X6_nothingStands σ Q) : fb_MV l G yX6_nothingStands cX6_nothingStands 1 rm_X6_nothingStands [.ref (fb_ad G 0)] σ Q := by
  refine fb_ofW (own := RX6) (by decide) (Nat.le_of_ble_eq_true rfl) rfl (fun p e s m args below meth c ls C hr hl w => ?_)
  exact tw_X6_nothingStands_0 C (fb_retv C hr) _ _ _ _ w hl h
end S_X6_nothingStands
section S_X4_forget
variable {p : Program} {l : Launch} {e : Env} {s : State} {m : MethodId} {args : Array Value} {below : List Frame} {meth : Method} {c : Code} {Qm : State → Prop} {G : fb_G} {Q : Int → fb_St → Prop}
abbrev TT_X4_forget_0 (p : Program) (l : Launch) (e : Env) (s : State) (m : MethodId) (args : Array Value) (below : List Frame) (meth : Method) (c : Code) (Qm : State → Prop) (G : fb_G) (r : fb_St → Prop) : Prop := ∀ (σ : fb_St) (H : Heap) (locs : List Loc) (ls : Array Slot), fb_Wd G s σ H locs → lv_has ls 1 [(0, .ref (fb_ad G 5))] → r σ → W p l e rm_X4_forget s m args below meth c H locs 0 0 Qm (F0 m 0 ls [])
set_option maxRecDepth 100000 in
set_option maxHeartbeats 4000000 in
theorem tw_X4_forget_0 (C : fb_C p s m args meth c G RX4 cX4_forget 1) (hret : fb_RV p l e rm_X4_forget s m args below meth c G cX4_forget Qm Q) : TT_X4_forget_0 p l e s m args below meth c Qm G (fun σ => wp_X4_forget σ Q) := by
  intro σ H locs ls w hl h
  unfold wp_X4_forget at h
  refine lv_aload_n C.1.1 C.1.2.1 dX4_forget_0 rfl (lv_at hl 0 rfl) ?_
  refine fb_getr (k2 := 7) C w (fb_k5 C) rfl fl_X4_19 dX4_forget_1 ?_
  refine fb_iconst C dX4_forget_4 ?_
  refine fb_callSv (rest := []) C w (fb_fillM l G (Qp := fun _ q => q = fb_fill σ 7 0) (fb_k7 C) (Nat.le_of_ble_eq_true rfl) (by decide) rfl) ms_X4_22 ⟨rfl, rfl, Nat.le_of_ble_eq_true rfl, Nat.le_of_ble_eq_true rfl, Nat.zero_le _, Nat.zero_le _⟩ rfl hl.1 rfl (Nat.le_of_ble_eq_true rfl) dX4_forget_5 (fun σ1 H locs eσ1 w => ?_)
  have h := h σ1 eσ1
  exact hret _ _ _ _ _ h w dX4_forget_8
theorem ct_X4_forget (l : Launch) (G : fb_G) {σ : fb_St} (h : wp_X4_forget σ Q) : fb_MV l G yX4_forget cX4_forget 1 rm_X4_forget [.ref (fb_ad G 5)] σ Q := by
  refine fb_ofW (own := RX4) (by decide) (Nat.le_of_ble_eq_true rfl) rfl (fun p e s m args below meth c ls C hr hl w => ?_)
  exact tw_X4_forget_0 C (fb_retv C hr) _ _ _ _ w hl h
end S_X4_forget
section S_X4_cameTo
variable {p : Program} {l : Launch} {e : Env} {s : State} {m : MethodId} {args : Array Value} {below : List Frame} {meth : Method} {c : Code} {Qm : State → Prop} {G : fb_G} {Q : Int → fb_St → Prop}
abbrev TT_X4_cameTo_14 (p : Program) (l : Launch) (e : Env) (s : State) (m : MethodId) (args : Array Value) (below : List Frame) (meth : Method) (c : Code) (Qm : State → Prop) (G : fb_G) (r : Int → fb_St → Prop) : Prop := ∀ (s0 : Int) (σ : fb_St) (H : Heap) (locs : List Loc) (ls : Array Slot), fb_Wd G s σ H locs → lv_has ls 2 [] → fb_in s0 → r s0 σ → W p l e rm_X4_cameTo s m args below meth c H locs 0 0 Qm (F0 m 14 ls [.int (fb_I s0)])
abbrev TT_X4_cameTo_0 (p : Program) (l : Launch) (e : Env) (s : State) (m : MethodId) (args : Array Value) (below : List Frame) (meth : Method) (c : Code) (Qm : State → Prop) (G : fb_G) (r : Int → fb_St → Prop) : Prop := ∀ (x1 : Int) (σ : fb_St) (H : Heap) (locs : List Loc) (ls : Array Slot), fb_Wd G s σ H locs → lv_has ls 2 [(0, .ref (fb_ad G 5)), (1, .int (fb_I x1))] → fb_in x1 → r x1 σ → W p l e rm_X4_cameTo s m args below meth c H locs 0 0 Qm (F0 m 0 ls [])
set_option maxRecDepth 100000 in
set_option maxHeartbeats 4000000 in
theorem tw_X4_cameTo_14 (C : fb_C p s m args meth c G RX4 cX4_cameTo 2) (hret : fb_RZ p l e rm_X4_cameTo s m args below meth c G cX4_cameTo Qm Q) : TT_X4_cameTo_14 p l e s m args below meth c Qm G (wj_X4_cameTo_14 Q) := by
  intro s0 σ H locs ls w hl is0 h
  unfold wj_X4_cameTo_14 at h
  obtain ⟨z5, h⟩ := h
  exact hret _ _ _ _ _ _ is0 z5 h w dX4_cameTo_14
set_option maxRecDepth 100000 in
set_option maxHeartbeats 4000000 in
theorem tw_X4_cameTo_0 (C : fb_C p s m args meth c G RX4 cX4_cameTo 2) (hret : fb_RZ p l e rm_X4_cameTo s m args below meth c G cX4_cameTo Qm Q) : TT_X4_cameTo_0 p l e s m args below meth c Qm G (fun x1 σ => wp_X4_cameTo x1 σ Q) := by
  intro x1 σ H locs ls w hl ix1 h
  unfold wp_X4_cameTo at h
  refine lv_aload_n C.1.1 C.1.2.1 dX4_cameTo_0 rfl (lv_at hl 0 rfl) ?_
  refine fb_getr (k2 := 7) C w (fb_k5 C) rfl fl_X4_19 dX4_cameTo_1 ?_
  refine lv_iload_n C.1.1 C.1.2.1 dX4_cameTo_4 rfl (lv_at hl 1 rfl) ?_
  obtain ⟨z1, z2, h⟩ := h
  refine fb_al C w 144 (fb_k7 C) rfl rfl z1 z2 dX4_cameTo_5 ?_
  have i3 := w.2.2.2 7 x1
  refine fb_if_eq (tgt := 13) C i3 dX4_cameTo_6 (by decide) (fun c4 => ?_) (fun c4 => ?_)
  · have h := h.1 c4
    refine fb_iconst C dX4_cameTo_13 ?_
    exact tw_X4_cameTo_14 C hret 0 _ _ _ _ w (lv_sub hl [] rfl) (by decide) h
  · have h := h.2 c4
    refine fb_iconst C dX4_cameTo_9 ?_
    refine lv_goto (tgt := 14) C.1.1 C.1.2.1 dX4_cameTo_10 (by decide) ?_
    exact tw_X4_cameTo_14 C hret 1 _ _ _ _ w (lv_sub hl [] rfl) (by decide) h
theorem ct_X4_cameTo (l : Launch) (G : fb_G) {x1 : Int} {σ : fb_St} (ix1 : fb_in x1) (h : wp_X4_cameTo x1 σ Q) : fb_MI l G yX4_cameTo cX4_cameTo 2 (some .boolean) rm_X4_cameTo [.ref (fb_ad G 5), .int (fb_I x1)] σ Q := by
  refine fb_ofW (own := RX4) (by decide) (Nat.le_of_ble_eq_true rfl) rfl (fun p e s m args below meth c ls C hr hl w => ?_)
  exact tw_X4_cameTo_0 C (fb_retz C hr) _ _ _ _ _ w hl ix1 h
end S_X4_cameTo
section S_X4_reach
variable {p : Program} {l : Launch} {e : Env} {s : State} {m : MethodId} {args : Array Value} {below : List Frame} {meth : Method} {c : Code} {Qm : State → Prop} {G : fb_G} {Q : Int → fb_St → Prop}
abbrev TT_X4_reach_24 (p : Program) (l : Launch) (e : Env) (s : State) (m : MethodId) (args : Array Value) (below : List Frame) (meth : Method) (c : Code) (Qm : State → Prop) (G : fb_G) (r : fb_St → Prop) : Prop := ∀ (σ : fb_St) (H : Heap) (locs : List Loc) (ls : Array Slot), fb_Wd G s σ H locs → lv_has ls 5 [] → r σ → W p l e rm_X4_reach s m args below meth c H locs 0 0 Qm (F0 m 24 ls [])
abbrev TT_X4_reach_67 (p : Program) (l : Launch) (e : Env) (s : State) (m : MethodId) (args : Array Value) (below : List Frame) (meth : Method) (c : Code) (Qm : State → Prop) (G : fb_G) (r : fb_St → Prop) : Prop := ∀ (σ : fb_St) (H : Heap) (locs : List Loc) (ls : Array Slot), fb_Wd G s σ H locs → lv_has ls 5 [] → r σ → W p l e rm_X4_reach s m args below meth c H locs 0 0 Qm (F0 m 67 ls [])
abbrev TT_X4_reach_0 (p : Program) (l : Launch) (e : Env) (s : State) (m : MethodId) (args : Array Value) (below : List Frame) (meth : Method) (c : Code) (Qm : State → Prop) (G : fb_G) (r : Int → Int → Int → fb_St → Prop) : Prop := ∀ (x2 x3 x4 : Int) (σ : fb_St) (H : Heap) (locs : List Loc) (ls : Array Slot), fb_Wd G s σ H locs → lv_has ls 5 [(0, .ref (fb_ad G 5)), (1, .ref (fb_ad G 1)), (2, .int (fb_I x2)), (3, .int (fb_I x3)), (4, .int (fb_I x4))] → fb_in x2 → fb_in x3 → fb_in x4 → r x2 x3 x4 σ → W p l e rm_X4_reach s m args below meth c H locs 0 0 Qm (F0 m 0 ls [])
set_option maxRecDepth 100000 in
set_option maxHeartbeats 4000000 in
theorem tw_X4_reach_24 (C : fb_C p s m args meth c G RX4 cX4_reach 5) (hret : fb_RV p l e rm_X4_reach s m args below meth c G cX4_reach Qm Q) : TT_X4_reach_24 p l e s m args below meth c Qm G (wj_X4_reach_24 Q) := by
  intro σ H locs ls w hl h
  unfold wj_X4_reach_24 at h
  exact hret _ _ _ _ _ h w dX4_reach_24
set_option maxRecDepth 100000 in
set_option maxHeartbeats 4000000 in
theorem tw_X4_reach_67 (C : fb_C p s m args meth c G RX4 cX4_reach 5) (hret : fb_RV p l e rm_X4_reach s m args below meth c G cX4_reach Qm Q) : TT_X4_reach_67 p l e s m args below meth c Qm G (wj_X4_reach_67 Q) := by
  intro σ H locs ls w hl h
  unfold wj_X4_reach_67 at h
  exact hret _ _ _ _ _ h w dX4_reach_67
set_option maxRecDepth 100000 in
set_option maxHeartbeats 4000000 in
theorem tw_X4_reach_0 (C : fb_C p s m args meth c G RX4 cX4_reach 5) (hret : fb_RV p l e rm_X4_reach s m args below meth c G cX4_reach Qm Q) : TT_X4_reach_0 p l e s m args below meth c Qm G (fun x2 x3 x4 σ => wp_X4_reach x2 x3 x4 σ Q) := by
  intro x2 x3 x4 σ H locs ls w hl ix2 ix3 ix4 h
  unfold wp_X4_reach at h
  refine lv_iload_n C.1.1 C.1.2.1 dX4_reach_0 rfl (lv_at hl 2 rfl) ?_
  refine fb_iconst C dX4_reach_1 ?_
  refine fb_icmp_eq (tgt := 24) C ix2 (by decide) dX4_reach_2 (by decide) (fun c1 => ?_) (fun c1 => ?_)
  · have h := h.1 c1
    exact tw_X4_reach_24 C hret _ _ _ _ w (lv_sub hl [] rfl) h
  · have h := h.2 c1
    refine lv_aload_n C.1.1 C.1.2.1 dX4_reach_5 rfl (lv_at hl 0 rfl) ?_
    refine fb_getr (k2 := 7) C w (fb_k5 C) rfl fl_X4_19 dX4_reach_6 ?_
    refine lv_iload_n C.1.1 C.1.2.1 dX4_reach_9 rfl (lv_at hl 2 rfl) ?_
    obtain ⟨z2, z3, h⟩ := h
    refine fb_al C w 144 (fb_k7 C) rfl rfl z2 z3 dX4_reach_10 ?_
    have i4 := w.2.2.2 7 x2
    refine fb_if_ne (tgt := 24) C i4 dX4_reach_11 (by decide) (fun c5 => ?_) (fun c5 => ?_)
    · have h := h.2 c5
      exact tw_X4_reach_24 C hret _ _ _ _ w (lv_sub hl [] rfl) h
    · have h := h.1 c5
      refine lv_aload_n C.1.1 C.1.2.1 dX4_reach_14 rfl (lv_at hl 0 rfl) ?_
      refine fb_gi C w 0 (fb_k5 C) rfl rfl fl_X4_9 dX4_reach_15 ?_
      have i6 := w.2.2.2 5 0
      refine fb_sipush C dX4_reach_18 (by decide) ?_
      refine fb_icmp_lt (tgt := 25) C i6 (by decide) dX4_reach_21 (by decide) (fun c7 => ?_) (fun c7 => ?_)
      · have h := h.1 c7
        refine lv_aload_n C.1.1 C.1.2.1 dX4_reach_25 rfl (lv_at hl 1 rfl) ?_
        refine fb_getr (k2 := 2) C w (fb_k1 C) rfl fl_X4_38 dX4_reach_26 ?_
        refine lv_iload_n C.1.1 C.1.2.1 dX4_reach_29 rfl (lv_at hl 2 rfl) ?_
        obtain ⟨z8, z9, h⟩ := h
        refine fb_al C w 144 (fb_k2 C) rfl rfl z8 z9 dX4_reach_30 ?_
        have i10 := w.2.2.2 2 x2
        refine lv_iload_n C.1.1 C.1.2.1 dX4_reach_31 rfl (lv_at hl 3 rfl) ?_
        refine lv_iload C.1.1 C.1.2.1 dX4_reach_32 (lv_at hl 4 rfl) ?_
        refine fb_callNi (As := [.int (fb_I (σ 2 x2)), .int (fb_I x3), .int (fb_I x4)]) (rest := []) C w C.2.1.1.2.2.1 (ct_X6_within l G i10 ix3 ix4 h) (mn_X6_within _) ⟨rfl, rfl, Nat.le_of_ble_eq_true rfl, Nat.le_of_ble_eq_true rfl, Nat.zero_le _, Nat.zero_le _⟩ rfl hl.1 rfl (Nat.le_of_ble_eq_true rfl) dX4_reach_34 (fun a11 σ11 H locs h ia11 w => ?_)
        refine fb_if_eq (tgt := 67) C ia11 dX4_reach_37 (by decide) (fun c12 => ?_) (fun c12 => ?_)
        · have h := h.1 c12
          exact tw_X4_reach_67 C hret _ _ _ _ w (lv_sub hl [] rfl) h
        · have h := h.2 c12
          refine lv_aload_n C.1.1 C.1.2.1 dX4_reach_40 rfl (lv_at hl 0 rfl) ?_
          refine fb_getr (k2 := 7) C w (fb_k5 C) rfl fl_X4_19 dX4_reach_41 ?_
          refine lv_iload_n C.1.1 C.1.2.1 dX4_reach_44 rfl (lv_at hl 2 rfl) ?_
          refine fb_iconst C dX4_reach_45 ?_
          obtain ⟨z13, z14, h⟩ := h
          refine fb_as C w 144 (fb_k7 C) rfl rfl (by decide) z13 z14 dX4_reach_46 (fun σ15 H locs eσ15 w => ?_)
          have h := h σ15 eσ15
          refine lv_aload_n C.1.1 C.1.2.1 dX4_reach_47 rfl (lv_at hl 0 rfl) ?_
          refine fb_getr (k2 := 6) C w (fb_k5 C) rfl fl_X4_15 dX4_reach_48 ?_
          refine lv_aload_n C.1.1 C.1.2.1 dX4_reach_51 rfl (lv_at hl 0 rfl) ?_
          refine fb_gi C w 0 (fb_k5 C) rfl rfl fl_X4_9 dX4_reach_52 ?_
          have i16 := w.2.2.2 5 0
          refine lv_iload_n C.1.1 C.1.2.1 dX4_reach_55 rfl (lv_at hl 2 rfl) ?_
          obtain ⟨z17, z18, h⟩ := h
          refine fb_as C w 144 (fb_k6 C) rfl rfl ix2 z17 z18 dX4_reach_56 (fun σ19 H locs eσ19 w => ?_)
          have h := h σ19 eσ19
          refine lv_aload_n C.1.1 C.1.2.1 dX4_reach_57 rfl (lv_at hl 0 rfl) ?_
          refine lv_dup C.1.1 C.1.2.1 dX4_reach_58 rfl ?_
          refine fb_gi C w 0 (fb_k5 C) rfl rfl fl_X4_9 dX4_reach_59 ?_
          have i20 := w.2.2.2 5 0
          refine fb_iconst C dX4_reach_62 ?_
          obtain ⟨i21, h⟩ := h
          refine fb_iadd C dX4_reach_63 ?_
          refine fb_pi C w 0 (fb_k5 C) rfl rfl fl_X4_9 tyX4_ok nmX4 rfl i21 rfl rfl dX4_reach_64 (fun σ22 H locs eσ22 w => ?_)
          have h := h σ22 eσ22
          exact tw_X4_reach_67 C hret _ _ _ _ w (lv_sub hl [] rfl) h
      · have h := h.2 c7
        exact tw_X4_reach_24 C hret _ _ _ _ w (lv_sub hl [] rfl) h
theorem ct_X4_reach (l : Launch) (G : fb_G) {x2 : Int} {x3 : Int} {x4 : Int} {σ : fb_St} (ix2 : fb_in x2) (ix3 : fb_in x3) (ix4 : fb_in x4) (h : wp_X4_reach x2 x3 x4 σ Q) : fb_MV l G yX4_reach cX4_reach 5 rm_X4_reach [.ref (fb_ad G 5), .ref (fb_ad G 1), .int (fb_I x2), .int (fb_I x3), .int (fb_I x4)] σ Q := by
  refine fb_ofW (own := RX4) (by decide) (Nat.le_of_ble_eq_true rfl) rfl (fun p e s m args below meth c ls C hr hl w => ?_)
  exact tw_X4_reach_0 C (fb_retv C hr) _ _ _ _ _ _ _ w hl ix2 ix3 ix4 h
end S_X4_reach
section S_X5_neighbour
variable {p : Program} {l : Launch} {e : Env} {s : State} {m : MethodId} {args : Array Value} {below : List Frame} {meth : Method} {c : Code} {Qm : State → Prop} {G : fb_G} {Q : Int → fb_St → Prop}
abbrev TT_X5_neighbour_0 (p : Program) (l : Launch) (e : Env) (s : State) (m : MethodId) (args : Array Value) (below : List Frame) (meth : Method) (c : Code) (Qm : State → Prop) (G : fb_G) (r : Int → Int → fb_St → Prop) : Prop := ∀ (x1 x2 : Int) (σ : fb_St) (H : Heap) (locs : List Loc) (ls : Array Slot), fb_Wd G s σ H locs → lv_has ls 3 [(0, .ref (fb_ad G 1)), (1, .int (fb_I x1)), (2, .int (fb_I x2))] → fb_in x1 → fb_in x2 → r x1 x2 σ → W p l e rm_X5_neighbour s m args below meth c H locs 0 0 Qm (F0 m 0 ls [])
set_option maxRecDepth 100000 in
set_option maxHeartbeats 4000000 in
theorem tw_X5_neighbour_0 (C : fb_C p s m args meth c G RX5 cX5_neighbour 3) (hret : fb_RI p l e rm_X5_neighbour s m args below meth c G cX5_neighbour Qm Q) : TT_X5_neighbour_0 p l e s m args below meth c Qm G (fun x1 x2 σ => wp_X5_neighbour x1 x2 σ Q) := by
  intro x1 x2 σ H locs ls w hl ix1 ix2 h
  unfold wp_X5_neighbour at h
  refine lv_aload_n C.1.1 C.1.2.1 dX5_neighbour_0 rfl (lv_at hl 0 rfl) ?_
  refine fb_getr (k2 := 4) C w (fb_k1 C) rfl fl_X5_28 dX5_neighbour_1 ?_
  refine lv_iload_n C.1.1 C.1.2.1 dX5_neighbour_4 rfl (lv_at hl 1 rfl) ?_
  refine fb_iconst C dX5_neighbour_5 ?_
  obtain ⟨i1, h⟩ := h
  refine fb_imul C dX5_neighbour_6 ?_
  refine lv_iload_n C.1.1 C.1.2.1 dX5_neighbour_7 rfl (lv_at hl 2 rfl) ?_
  obtain ⟨i2, h⟩ := h
  refine fb_iadd C dX5_neighbour_8 ?_
  obtain ⟨z3, z4, h⟩ := h
  refine fb_al C w 576 (fb_k4 C) rfl rfl z3 z4 dX5_neighbour_9 ?_
  have i5 := w.2.2.2 4 ((x1 * 4) + x2)
  exact hret _ _ _ _ _ _ i5 h w dX5_neighbour_10
theorem ct_X5_neighbour (l : Launch) (G : fb_G) {x1 : Int} {x2 : Int} {σ : fb_St} (ix1 : fb_in x1) (ix2 : fb_in x2) (h : wp_X5_neighbour x1 x2 σ Q) : fb_MI l G yX5_neighbour cX5_neighbour 3 (some .int) rm_X5_neighbour [.ref (fb_ad G 1), .int (fb_I x1), .int (fb_I x2)] σ Q := by
  refine fb_ofW (own := RX5) (by decide) (Nat.le_of_ble_eq_true rfl) rfl (fun p e s m args below meth c ls C hr hl w => ?_)
  exact tw_X5_neighbour_0 C (fb_reti C hr) _ _ _ _ _ _ w hl ix1 ix2 h
end S_X5_neighbour
section S_X4_from
variable {p : Program} {l : Launch} {e : Env} {s : State} {m : MethodId} {args : Array Value} {below : List Frame} {meth : Method} {c : Code} {Qm : State → Prop} {G : fb_G} {Q : Int → fb_St → Prop}
abbrev TT_X4_from_37 (p : Program) (l : Launch) (e : Env) (s : State) (m : MethodId) (args : Array Value) (below : List Frame) (meth : Method) (c : Code) (Qm : State → Prop) (G : fb_G) (r : Int → Int → Int → Int → fb_St → Prop) : Prop := ∀ (x3 x4 x5 x6 : Int) (σ : fb_St) (H : Heap) (locs : List Loc) (ls : Array Slot), fb_Wd G s σ H locs → lv_has ls 7 [(0, .ref (fb_ad G 5)), (1, .ref (fb_ad G 1)), (3, .int (fb_I x3)), (4, .int (fb_I x4)), (5, .int (fb_I x5)), (6, .int (fb_I x6))] → fb_in x3 → fb_in x4 → fb_in x5 → fb_in x6 → r x3 x4 x5 x6 σ → W p l e rm_X4_from s m args below meth c H locs 0 0 Qm (F0 m 37 ls [])
abbrev TT_X4_from_76 (p : Program) (l : Launch) (e : Env) (s : State) (m : MethodId) (args : Array Value) (below : List Frame) (meth : Method) (c : Code) (Qm : State → Prop) (G : fb_G) (r : fb_St → Prop) : Prop := ∀ (σ : fb_St) (H : Heap) (locs : List Loc) (ls : Array Slot), fb_Wd G s σ H locs → lv_has ls 7 [] → r σ → W p l e rm_X4_from s m args below meth c H locs 0 0 Qm (F0 m 76 ls [])
abbrev TT_X4_from_17 (p : Program) (l : Launch) (e : Env) (s : State) (m : MethodId) (args : Array Value) (below : List Frame) (meth : Method) (c : Code) (Qm : State → Prop) (G : fb_G) (r : Int → Int → Int → fb_St → Prop) : Prop := ∀ (x3 x4 x5 : Int) (σ : fb_St) (H : Heap) (locs : List Loc) (ls : Array Slot), fb_Wd G s σ H locs → lv_has ls 7 [(0, .ref (fb_ad G 5)), (1, .ref (fb_ad G 1)), (3, .int (fb_I x3)), (4, .int (fb_I x4)), (5, .int (fb_I x5))] → fb_in x3 → fb_in x4 → fb_in x5 → r x3 x4 x5 σ → W p l e rm_X4_from s m args below meth c H locs 0 0 Qm (F0 m 17 ls [])
abbrev TT_X4_from_0 (p : Program) (l : Launch) (e : Env) (s : State) (m : MethodId) (args : Array Value) (below : List Frame) (meth : Method) (c : Code) (Qm : State → Prop) (G : fb_G) (r : Int → Int → Int → fb_St → Prop) : Prop := ∀ (x2 x3 x4 : Int) (σ : fb_St) (H : Heap) (locs : List Loc) (ls : Array Slot), fb_Wd G s σ H locs → lv_has ls 7 [(0, .ref (fb_ad G 5)), (1, .ref (fb_ad G 1)), (2, .int (fb_I x2)), (3, .int (fb_I x3)), (4, .int (fb_I x4))] → fb_in x2 → fb_in x3 → fb_in x4 → r x2 x3 x4 σ → W p l e rm_X4_from s m args below meth c H locs 0 0 Qm (F0 m 0 ls [])
set_option maxRecDepth 100000 in
set_option maxHeartbeats 4000000 in
theorem tw_X4_from_37 (C : fb_C p s m args meth c G RX4 cX4_from 7) (hret : fb_RV p l e rm_X4_from s m args below meth c G cX4_from Qm Q) {r17 : Int → Int → Int → fb_St → Prop} (h17 : TT_X4_from_17 p l e s m args below meth c Qm G r17) {r37 : Int → Int → Int → Int → fb_St → Prop} (h37 : TT_X4_from_37 p l e s m args below meth c Qm G r37) : TT_X4_from_37 p l e s m args below meth c Qm G (wb_X4_from_37 r17 r37 Q) := by
  intro x3 x4 x5 x6 σ H locs ls w hl ix3 ix4 ix5 ix6 h
  unfold wb_X4_from_37 at h
  refine lv_iload C.1.1 C.1.2.1 dX4_from_37 (lv_at hl 5 rfl) ?_
  refine fb_iconst C dX4_from_39 ?_
  refine fb_icmp_ge (tgt := 70) C ix6 (by decide) dX4_from_40 (by decide) (fun c6 => ?_) (fun c6 => ?_)
  · have h := h.2 c6
    obtain ⟨i7, h⟩ := h
    refine fb_iinc (b := x5 + 1) (k := 4) (lv' := [(5, .int (fb_I (x5 + 1))), (0, .ref (fb_ad G 5)), (1, .ref (fb_ad G 1)), (3, .int (fb_I x3)), (4, .int (fb_I x4)), (6, .int (fb_I x6))]) C dX4_from_70 hl rfl rfl (by decide) rfl (fun ls hl => ?_)
    refine lv_goto (tgt := 17) C.1.1 C.1.2.1 dX4_from_73 (by decide) ?_
    exact h17 x3 x4 (x5 + 1) _ _ _ _ w (lv_sub hl [1, 2, 3, 4, 0] rfl) ix3 ix4 i7 h
  · have h := h.1 c6
    refine lv_aload_n C.1.1 C.1.2.1 dX4_from_43 rfl (lv_at hl 0 rfl) ?_
    refine lv_aload_n C.1.1 C.1.2.1 dX4_from_44 rfl (lv_at hl 1 rfl) ?_
    refine lv_aload_n C.1.1 C.1.2.1 dX4_from_45 rfl (lv_at hl 1 rfl) ?_
    refine lv_aload_n C.1.1 C.1.2.1 dX4_from_46 rfl (lv_at hl 0 rfl) ?_
    refine fb_getr (k2 := 6) C w (fb_k5 C) rfl fl_X4_15 dX4_from_47 ?_
    refine lv_iload C.1.1 C.1.2.1 dX4_from_50 (lv_at hl 4 rfl) ?_
    obtain ⟨z8, z9, h⟩ := h
    refine fb_al C w 144 (fb_k6 C) rfl rfl z8 z9 dX4_from_52 ?_
    have i10 := w.2.2.2 6 x5
    refine lv_iload C.1.1 C.1.2.1 dX4_from_53 (lv_at hl 5 rfl) ?_
    refine fb_callVi (As := [.int (fb_I (σ 6 x5)), .int (fb_I x6)]) (rest := [.ref (fb_ad G 1), .ref (fb_ad G 5)]) C w (ct_X5_neighbour l G i10 ix6 h) mv_X4_32 (fb_k1 C) rfl ⟨rfl, rfl, Nat.le_of_ble_eq_true rfl, Nat.le_of_ble_eq_true rfl, Nat.zero_le _, Nat.zero_le _⟩ rfl hl.1 rfl (Nat.le_of_ble_eq_true rfl) dX4_from_55 (fun a11 σ11 H locs h ia11 w => ?_)
    refine lv_iload_n C.1.1 C.1.2.1 dX4_from_58 rfl (lv_at hl 2 rfl) ?_
    refine lv_iload C.1.1 C.1.2.1 dX4_from_59 (lv_at hl 3 rfl) ?_
    refine fb_callVv (As := [.ref (fb_ad G 1), .int (fb_I a11), .int (fb_I x3), .int (fb_I x4)]) (rest := []) C w (ct_X4_reach l G ia11 ix3 ix4 h) mv_X4_28 (fb_k5 C) rfl ⟨rfl, rfl, Nat.le_of_ble_eq_true rfl, Nat.le_of_ble_eq_true rfl, Nat.zero_le _, Nat.zero_le _⟩ rfl hl.1 rfl (Nat.le_of_ble_eq_true rfl) dX4_from_61 (fun σ12 H locs h w => ?_)
    obtain ⟨i13, h⟩ := h
    refine fb_iinc (b := x6 + 1) (k := 5) (lv' := [(6, .int (fb_I (x6 + 1))), (0, .ref (fb_ad G 5)), (1, .ref (fb_ad G 1)), (3, .int (fb_I x3)), (4, .int (fb_I x4)), (5, .int (fb_I x5))]) C dX4_from_64 hl rfl rfl (by decide) rfl (fun ls hl => ?_)
    refine lv_goto (tgt := 37) C.1.1 C.1.2.1 dX4_from_67 (by decide) ?_
    exact h37 x3 x4 x5 (x6 + 1) _ _ _ _ w (lv_sub hl [1, 2, 3, 4, 5, 0] rfl) ix3 ix4 ix5 i13 h
theorem tl_X4_from_37 (C : fb_C p s m args meth c G RX4 cX4_from 7) (hret : fb_RV p l e rm_X4_from s m args below meth c G cX4_from Qm Q) {r17 : Int → Int → Int → fb_St → Prop} (h17 : TT_X4_from_17 p l e s m args below meth c Qm G r17) : ∀ n : Nat, TT_X4_from_37 p l e s m args below meth c Qm G (wl_X4_from_37 r17 Q n) := by
  intro n
  induction n with
  | zero => intro x3 x4 x5 x6 σ H locs ls w hl ix3 ix4 ix5 ix6 h; exact h.elim
  | succ n ih => exact tw_X4_from_37 C hret h17 ih
set_option maxRecDepth 100000 in
set_option maxHeartbeats 4000000 in
theorem tw_X4_from_76 (C : fb_C p s m args meth c G RX4 cX4_from 7) (hret : fb_RV p l e rm_X4_from s m args below meth c G cX4_from Qm Q) : TT_X4_from_76 p l e s m args below meth c Qm G (wj_X4_from_76 Q) := by
  intro σ H locs ls w hl h
  unfold wj_X4_from_76 at h
  exact hret _ _ _ _ _ h w dX4_from_76
set_option maxRecDepth 100000 in
set_option maxHeartbeats 4000000 in
theorem tw_X4_from_17 (C : fb_C p s m args meth c G RX4 cX4_from 7) (hret : fb_RV p l e rm_X4_from s m args below meth c G cX4_from Qm Q) {r17 : Int → Int → Int → fb_St → Prop} (h17 : TT_X4_from_17 p l e s m args below meth c Qm G r17) : TT_X4_from_17 p l e s m args below meth c Qm G (wb_X4_from_17 r17 Q) := by
  intro x3 x4 x5 σ H locs ls w hl ix3 ix4 ix5 h
  unfold wb_X4_from_17 at h
  refine lv_iload C.1.1 C.1.2.1 dX4_from_17 (lv_at hl 4 rfl) ?_
  refine lv_aload_n C.1.1 C.1.2.1 dX4_from_19 rfl (lv_at hl 0 rfl) ?_
  refine fb_gi C w 0 (fb_k5 C) rfl rfl fl_X4_9 dX4_from_20 ?_
  have i3 := w.2.2.2 5 0
  refine fb_icmp_ge (tgt := 76) C ix5 i3 dX4_from_23 (by decide) (fun c4 => ?_) (fun c4 => ?_)
  · have h := h.2 c4
    exact tw_X4_from_76 C hret _ _ _ _ w (lv_sub hl [] rfl) h
  · have h := h.1 c4
    refine lv_iload C.1.1 C.1.2.1 dX4_from_26 (lv_at hl 4 rfl) ?_
    refine fb_sipush C dX4_from_28 (by decide) ?_
    refine fb_icmp_ge (tgt := 76) C ix5 (by decide) dX4_from_31 (by decide) (fun c5 => ?_) (fun c5 => ?_)
    · have h := h.2 c5
      exact tw_X4_from_76 C hret _ _ _ _ w (lv_sub hl [] rfl) h
    · have h := h.1 c5
      refine fb_iconst C dX4_from_34 ?_
      refine lv_istore (lv' := [(6, .int (fb_I 0)), (0, .ref (fb_ad G 5)), (1, .ref (fb_ad G 1)), (3, .int (fb_I x3)), (4, .int (fb_I x4)), (5, .int (fb_I x5))]) C.1.1 C.1.2.1 dX4_from_35 hl (by decide) rfl (fun ls hl => ?_)
      obtain ⟨n, h⟩ := h
      exact tl_X4_from_37 C hret h17 n x3 x4 x5 0 _ _ _ _ w (lv_sub hl [1, 2, 3, 4, 5, 0] rfl) ix3 ix4 ix5 (by decide) h
theorem tl_X4_from_17 (C : fb_C p s m args meth c G RX4 cX4_from 7) (hret : fb_RV p l e rm_X4_from s m args below meth c G cX4_from Qm Q) : ∀ n : Nat, TT_X4_from_17 p l e s m args below meth c Qm G (wl_X4_from_17 Q n) := by
  intro n
  induction n with
  | zero => intro x3 x4 x5 σ H locs ls w hl ix3 ix4 ix5 h; exact h.elim
  | succ n ih => exact tw_X4_from_17 C hret ih
set_option maxRecDepth 100000 in
set_option maxHeartbeats 4000000 in
theorem tw_X4_from_0 (C : fb_C p s m args meth c G RX4 cX4_from 7) (hret : fb_RV p l e rm_X4_from s m args below meth c G cX4_from Qm Q) : TT_X4_from_0 p l e s m args below meth c Qm G (fun x2 x3 x4 σ => wp_X4_from x2 x3 x4 σ Q) := by
  intro x2 x3 x4 σ H locs ls w hl ix2 ix3 ix4 h
  unfold wp_X4_from at h
  refine lv_aload_n C.1.1 C.1.2.1 dX4_from_0 rfl (lv_at hl 0 rfl) ?_
  refine fb_iconst C dX4_from_1 ?_
  refine fb_pi C w 0 (fb_k5 C) rfl rfl fl_X4_9 tyX4_ok nmX4 rfl (by decide) rfl rfl dX4_from_2 (fun σ1 H locs eσ1 w => ?_)
  have h := h σ1 eσ1
  refine lv_aload_n C.1.1 C.1.2.1 dX4_from_5 rfl (lv_at hl 0 rfl) ?_
  refine lv_aload_n C.1.1 C.1.2.1 dX4_from_6 rfl (lv_at hl 1 rfl) ?_
  refine lv_iload_n C.1.1 C.1.2.1 dX4_from_7 rfl (lv_at hl 2 rfl) ?_
  refine lv_iload_n C.1.1 C.1.2.1 dX4_from_8 rfl (lv_at hl 3 rfl) ?_
  refine lv_iload C.1.1 C.1.2.1 dX4_from_9 (lv_at hl 4 rfl) ?_
  refine fb_callVv (As := [.ref (fb_ad G 1), .int (fb_I x2), .int (fb_I x3), .int (fb_I x4)]) (rest := []) C w (ct_X4_reach l G ix2 ix3 ix4 h) mv_X4_28 (fb_k5 C) rfl ⟨rfl, rfl, Nat.le_of_ble_eq_true rfl, Nat.le_of_ble_eq_true rfl, Nat.zero_le _, Nat.zero_le _⟩ rfl hl.1 rfl (Nat.le_of_ble_eq_true rfl) dX4_from_11 (fun σ2 H locs h w => ?_)
  refine fb_iconst C dX4_from_14 ?_
  refine lv_istore (lv' := [(5, .int (fb_I 0)), (0, .ref (fb_ad G 5)), (1, .ref (fb_ad G 1)), (2, .int (fb_I x2)), (3, .int (fb_I x3)), (4, .int (fb_I x4))]) C.1.1 C.1.2.1 dX4_from_15 hl (by decide) rfl (fun ls hl => ?_)
  obtain ⟨n, h⟩ := h
  exact tl_X4_from_17 C hret n x3 x4 0 _ _ _ _ w (lv_sub hl [1, 2, 4, 5, 0] rfl) ix3 ix4 (by decide) h
theorem ct_X4_from (l : Launch) (G : fb_G) {x2 : Int} {x3 : Int} {x4 : Int} {σ : fb_St} (ix2 : fb_in x2) (ix3 : fb_in x3) (ix4 : fb_in x4) (h : wp_X4_from x2 x3 x4 σ Q) : fb_MV l G yX4_from cX4_from 7 rm_X4_from [.ref (fb_ad G 5), .ref (fb_ad G 1), .int (fb_I x2), .int (fb_I x3), .int (fb_I x4)] σ Q := by
  refine fb_ofW (own := RX4) (by decide) (Nat.le_of_ble_eq_true rfl) rfl (fun p e s m args below meth c ls C hr hl w => ?_)
  exact tw_X4_from_0 C (fb_retv C hr) _ _ _ _ _ _ _ w hl ix2 ix3 ix4 h
end S_X4_from
section S_X4_lowestAround
variable {p : Program} {l : Launch} {e : Env} {s : State} {m : MethodId} {args : Array Value} {below : List Frame} {meth : Method} {c : Code} {Qm : State → Prop} {G : fb_G} {Q : Int → fb_St → Prop}
abbrev TT_X4_lowestAround_75 (p : Program) (l : Launch) (e : Env) (s : State) (m : MethodId) (args : Array Value) (below : List Frame) (meth : Method) (c : Code) (Qm : State → Prop) (G : fb_G) (r : Int → Int → Int → Int → Int → fb_St → Prop) : Prop := ∀ (x2 x3 x4 x5 x6 : Int) (σ : fb_St) (H : Heap) (locs : List Loc) (ls : Array Slot), fb_Wd G s σ H locs → lv_has ls 8 [(0, .ref (fb_ad G 5)), (1, .ref (fb_ad G 1)), (2, .int (fb_I x2)), (3, .int (fb_I x3)), (4, .int (fb_I x4)), (5, .int (fb_I x5)), (6, .int (fb_I x6))] → fb_in x2 → fb_in x3 → fb_in x4 → fb_in x5 → fb_in x6 → r x2 x3 x4 x5 x6 σ → W p l e rm_X4_lowestAround s m args below meth c H locs 0 0 Qm (F0 m 75 ls [])
abbrev TT_X4_lowestAround_19 (p : Program) (l : Launch) (e : Env) (s : State) (m : MethodId) (args : Array Value) (below : List Frame) (meth : Method) (c : Code) (Qm : State → Prop) (G : fb_G) (r : Int → Int → Int → Int → Int → fb_St → Prop) : Prop := ∀ (x2 x3 x4 x5 x6 : Int) (σ : fb_St) (H : Heap) (locs : List Loc) (ls : Array Slot), fb_Wd G s σ H locs → lv_has ls 8 [(0, .ref (fb_ad G 5)), (1, .ref (fb_ad G 1)), (2, .int (fb_I x2)), (3, .int (fb_I x3)), (4, .int (fb_I x4)), (5, .int (fb_I x5)), (6, .int (fb_I x6))] → fb_in x2 → fb_in x3 → fb_in x4 → fb_in x5 → fb_in x6 → r x2 x3 x4 x5 x6 σ → W p l e rm_X4_lowestAround s m args below meth c H locs 0 0 Qm (F0 m 19 ls [])
abbrev TT_X4_lowestAround_7 (p : Program) (l : Launch) (e : Env) (s : State) (m : MethodId) (args : Array Value) (below : List Frame) (meth : Method) (c : Code) (Qm : State → Prop) (G : fb_G) (r : Int → Int → Int → Int → fb_St → Prop) : Prop := ∀ (x2 x3 x4 x5 : Int) (σ : fb_St) (H : Heap) (locs : List Loc) (ls : Array Slot), fb_Wd G s σ H locs → lv_has ls 8 [(0, .ref (fb_ad G 5)), (1, .ref (fb_ad G 1)), (2, .int (fb_I x2)), (3, .int (fb_I x3)), (4, .int (fb_I x4)), (5, .int (fb_I x5))] → fb_in x2 → fb_in x3 → fb_in x4 → fb_in x5 → r x2 x3 x4 x5 σ → W p l e rm_X4_lowestAround s m args below meth c H locs 0 0 Qm (F0 m 7 ls [])
abbrev TT_X4_lowestAround_0 (p : Program) (l : Launch) (e : Env) (s : State) (m : MethodId) (args : Array Value) (below : List Frame) (meth : Method) (c : Code) (Qm : State → Prop) (G : fb_G) (r : Int → Int → fb_St → Prop) : Prop := ∀ (x2 x3 : Int) (σ : fb_St) (H : Heap) (locs : List Loc) (ls : Array Slot), fb_Wd G s σ H locs → lv_has ls 8 [(0, .ref (fb_ad G 5)), (1, .ref (fb_ad G 1)), (2, .int (fb_I x2)), (3, .int (fb_I x3))] → fb_in x2 → fb_in x3 → r x2 x3 σ → W p l e rm_X4_lowestAround s m args below meth c H locs 0 0 Qm (F0 m 0 ls [])
set_option maxRecDepth 100000 in
set_option maxHeartbeats 4000000 in
theorem tw_X4_lowestAround_75 (C : fb_C p s m args meth c G RX4 cX4_lowestAround 8) (hret : fb_RI p l e rm_X4_lowestAround s m args below meth c G cX4_lowestAround Qm Q) {r7 : Int → Int → Int → Int → fb_St → Prop} (h7 : TT_X4_lowestAround_7 p l e s m args below meth c Qm G r7) {r19 : Int → Int → Int → Int → Int → fb_St → Prop} (h19 : TT_X4_lowestAround_19 p l e s m args below meth c Qm G r19) : TT_X4_lowestAround_75 p l e s m args below meth c Qm G (wj_X4_lowestAround_75 r7 r19 Q) := by
  intro x2 x3 x4 x5 x6 σ H locs ls w hl ix2 ix3 ix4 ix5 ix6 h
  unfold wj_X4_lowestAround_75 at h
  obtain ⟨i19, h⟩ := h
  refine fb_iinc (b := x6 + 1) (k := 6) (lv' := [(6, .int (fb_I (x6 + 1))), (0, .ref (fb_ad G 5)), (1, .ref (fb_ad G 1)), (2, .int (fb_I x2)), (3, .int (fb_I x3)), (4, .int (fb_I x4)), (5, .int (fb_I x5))]) C dX4_lowestAround_75 hl rfl rfl (by decide) rfl (fun ls hl => ?_)
  refine lv_goto (tgt := 19) C.1.1 C.1.2.1 dX4_lowestAround_78 (by decide) ?_
  exact h19 x2 x3 x4 x5 (x6 + 1) _ _ _ _ w (lv_sub hl [1, 2, 3, 4, 5, 6, 0] rfl) ix2 ix3 ix4 ix5 i19 h
set_option maxRecDepth 100000 in
set_option maxHeartbeats 4000000 in
theorem tw_X4_lowestAround_19 (C : fb_C p s m args meth c G RX4 cX4_lowestAround 8) (hret : fb_RI p l e rm_X4_lowestAround s m args below meth c G cX4_lowestAround Qm Q) {r7 : Int → Int → Int → Int → fb_St → Prop} (h7 : TT_X4_lowestAround_7 p l e s m args below meth c Qm G r7) {r19 : Int → Int → Int → Int → Int → fb_St → Prop} (h19 : TT_X4_lowestAround_19 p l e s m args below meth c Qm G r19) : TT_X4_lowestAround_19 p l e s m args below meth c Qm G (wb_X4_lowestAround_19 r7 r19 Q) := by
  intro x2 x3 x4 x5 x6 σ H locs ls w hl ix2 ix3 ix4 ix5 ix6 h
  unfold wb_X4_lowestAround_19 at h
  refine lv_iload C.1.1 C.1.2.1 dX4_lowestAround_19 (lv_at hl 6 rfl) ?_
  refine fb_iconst C dX4_lowestAround_21 ?_
  refine fb_icmp_ge (tgt := 81) C ix6 (by decide) dX4_lowestAround_22 (by decide) (fun c3 => ?_) (fun c3 => ?_)
  · have h := h.2 c3
    obtain ⟨i4, h⟩ := h
    refine fb_iinc (b := x5 + 1) (k := 5) (lv' := [(5, .int (fb_I (x5 + 1))), (0, .ref (fb_ad G 5)), (1, .ref (fb_ad G 1)), (2, .int (fb_I x2)), (3, .int (fb_I x3)), (4, .int (fb_I x4)), (6, .int (fb_I x6))]) C dX4_lowestAround_81 hl rfl rfl (by decide) rfl (fun ls hl => ?_)
    refine lv_goto (tgt := 7) C.1.1 C.1.2.1 dX4_lowestAround_84 (by decide) ?_
    exact h7 x2 x3 x4 (x5 + 1) _ _ _ _ w (lv_sub hl [1, 2, 3, 4, 5, 0] rfl) ix2 ix3 ix4 i4 h
  · have h := h.1 c3
    refine lv_aload_n C.1.1 C.1.2.1 dX4_lowestAround_25 rfl (lv_at hl 1 rfl) ?_
    refine lv_aload_n C.1.1 C.1.2.1 dX4_lowestAround_26 rfl (lv_at hl 0 rfl) ?_
    refine fb_getr (k2 := 6) C w (fb_k5 C) rfl fl_X4_15 dX4_lowestAround_27 ?_
    refine lv_iload C.1.1 C.1.2.1 dX4_lowestAround_30 (lv_at hl 5 rfl) ?_
    obtain ⟨z5, z6, h⟩ := h
    refine fb_al C w 144 (fb_k6 C) rfl rfl z5 z6 dX4_lowestAround_32 ?_
    have i7 := w.2.2.2 6 x5
    refine lv_iload C.1.1 C.1.2.1 dX4_lowestAround_33 (lv_at hl 6 rfl) ?_
    refine fb_callVi (As := [.int (fb_I (σ 6 x5)), .int (fb_I x6)]) (rest := []) C w (ct_X5_neighbour l G i7 ix6 h) mv_X4_32 (fb_k1 C) rfl ⟨rfl, rfl, Nat.le_of_ble_eq_true rfl, Nat.le_of_ble_eq_true rfl, Nat.zero_le _, Nat.zero_le _⟩ rfl hl.1 rfl (Nat.le_of_ble_eq_true rfl) dX4_lowestAround_35 (fun a8 σ8 H locs h ia8 w => ?_)
    refine lv_istore (lv' := [(7, .int (fb_I a8)), (0, .ref (fb_ad G 5)), (1, .ref (fb_ad G 1)), (2, .int (fb_I x2)), (3, .int (fb_I x3)), (4, .int (fb_I x4)), (5, .int (fb_I x5)), (6, .int (fb_I x6))]) C.1.1 C.1.2.1 dX4_lowestAround_38 hl (by decide) rfl (fun ls hl => ?_)
    refine lv_iload C.1.1 C.1.2.1 dX4_lowestAround_40 (lv_at hl 0 rfl) ?_
    refine fb_iconst C dX4_lowestAround_42 ?_
    refine fb_icmp_eq (tgt := 75) C ia8 (by decide) dX4_lowestAround_43 (by decide) (fun c9 => ?_) (fun c9 => ?_)
    · have h := h.1 c9
      exact tw_X4_lowestAround_75 C hret h7 h19 x2 x3 x4 x5 x6 _ _ _ _ w (lv_sub hl [1, 2, 3, 4, 5, 6, 7] rfl) ix2 ix3 ix4 ix5 ix6 h
    · have h := h.2 c9
      refine lv_aload_n C.1.1 C.1.2.1 dX4_lowestAround_46 rfl (lv_at hl 2 rfl) ?_
      refine fb_getr (k2 := 2) C w (fb_k1 C) rfl fl_X4_38 dX4_lowestAround_47 ?_
      refine lv_iload C.1.1 C.1.2.1 dX4_lowestAround_50 (lv_at hl 0 rfl) ?_
      obtain ⟨z10, z11, h⟩ := h
      refine fb_al C w 144 (fb_k2 C) rfl rfl z10 z11 dX4_lowestAround_52 ?_
      have i12 := w.2.2.2 2 a8
      refine lv_iload_n C.1.1 C.1.2.1 dX4_lowestAround_53 rfl (lv_at hl 3 rfl) ?_
      refine lv_iload_n C.1.1 C.1.2.1 dX4_lowestAround_54 rfl (lv_at hl 4 rfl) ?_
      refine fb_callNi (As := [.int (fb_I (σ8 2 a8)), .int (fb_I x2), .int (fb_I x3)]) (rest := []) C w C.2.1.1.2.2.1 (ct_X6_within l G i12 ix2 ix3 h) (mn_X6_within _) ⟨rfl, rfl, Nat.le_of_ble_eq_true rfl, Nat.le_of_ble_eq_true rfl, Nat.zero_le _, Nat.zero_le _⟩ rfl hl.1 rfl (Nat.le_of_ble_eq_true rfl) dX4_lowestAround_55 (fun a13 σ13 H locs h ia13 w => ?_)
      refine fb_if_ne (tgt := 75) C ia13 dX4_lowestAround_58 (by decide) (fun c14 => ?_) (fun c14 => ?_)
      · have h := h.2 c14
        exact tw_X4_lowestAround_75 C hret h7 h19 x2 x3 x4 x5 x6 _ _ _ _ w (lv_sub hl [1, 2, 3, 4, 5, 6, 7] rfl) ix2 ix3 ix4 ix5 ix6 h
      · have h := h.1 c14
        refine lv_iload C.1.1 C.1.2.1 dX4_lowestAround_61 (lv_at hl 5 rfl) ?_
        refine lv_aload_n C.1.1 C.1.2.1 dX4_lowestAround_63 rfl (lv_at hl 2 rfl) ?_
        refine fb_getr (k2 := 2) C w (fb_k1 C) rfl fl_X4_38 dX4_lowestAround_64 ?_
        refine lv_iload C.1.1 C.1.2.1 dX4_lowestAround_67 (lv_at hl 0 rfl) ?_
        obtain ⟨z15, z16, h⟩ := h
        refine fb_al C w 144 (fb_k2 C) rfl rfl z15 z16 dX4_lowestAround_69 ?_
        have i17 := w.2.2.2 2 a8
        refine fb_mmin C ix4 i17 ml_X4_48 ⟨Nat.le_of_ble_eq_true rfl, Nat.le_of_ble_eq_true rfl, Nat.zero_le _, Nat.zero_le _⟩ hl.1 dX4_lowestAround_70 ?_
        refine fb_top (fun v18 ev18 => ?_)
        have h := h v18 ev18
        have iv18 := fb_ie ev18 (fb_in_min ix4 i17)
        refine lv_istore (lv' := [(4, .int (fb_I v18)), (7, .int (fb_I a8)), (0, .ref (fb_ad G 5)), (1, .ref (fb_ad G 1)), (2, .int (fb_I x2)), (3, .int (fb_I x3)), (5, .int (fb_I x5)), (6, .int (fb_I x6))]) C.1.1 C.1.2.1 dX4_lowestAround_73 hl (by decide) rfl (fun ls hl => ?_)
        exact tw_X4_lowestAround_75 C hret h7 h19 x2 x3 v18 x5 x6 _ _ _ _ w (lv_sub hl [2, 3, 4, 5, 0, 6, 7] rfl) ix2 ix3 iv18 ix5 ix6 h
theorem tl_X4_lowestAround_19 (C : fb_C p s m args meth c G RX4 cX4_lowestAround 8) (hret : fb_RI p l e rm_X4_lowestAround s m args below meth c G cX4_lowestAround Qm Q) {r7 : Int → Int → Int → Int → fb_St → Prop} (h7 : TT_X4_lowestAround_7 p l e s m args below meth c Qm G r7) : ∀ n : Nat, TT_X4_lowestAround_19 p l e s m args below meth c Qm G (wl_X4_lowestAround_19 r7 Q n) := by
  intro n
  induction n with
  | zero => intro x2 x3 x4 x5 x6 σ H locs ls w hl ix2 ix3 ix4 ix5 ix6 h; exact h.elim
  | succ n ih => exact tw_X4_lowestAround_19 C hret h7 ih
set_option maxRecDepth 100000 in
set_option maxHeartbeats 4000000 in
theorem tw_X4_lowestAround_7 (C : fb_C p s m args meth c G RX4 cX4_lowestAround 8) (hret : fb_RI p l e rm_X4_lowestAround s m args below meth c G cX4_lowestAround Qm Q) {r7 : Int → Int → Int → Int → fb_St → Prop} (h7 : TT_X4_lowestAround_7 p l e s m args below meth c Qm G r7) : TT_X4_lowestAround_7 p l e s m args below meth c Qm G (wb_X4_lowestAround_7 r7 Q) := by
  intro x2 x3 x4 x5 σ H locs ls w hl ix2 ix3 ix4 ix5 h
  unfold wb_X4_lowestAround_7 at h
  refine lv_iload C.1.1 C.1.2.1 dX4_lowestAround_7 (lv_at hl 5 rfl) ?_
  refine lv_aload_n C.1.1 C.1.2.1 dX4_lowestAround_9 rfl (lv_at hl 0 rfl) ?_
  refine fb_gi C w 0 (fb_k5 C) rfl rfl fl_X4_9 dX4_lowestAround_10 ?_
  have i1 := w.2.2.2 5 0
  refine fb_icmp_ge (tgt := 87) C ix5 i1 dX4_lowestAround_13 (by decide) (fun c2 => ?_) (fun c2 => ?_)
  · have h := h.2 c2
    refine lv_iload C.1.1 C.1.2.1 dX4_lowestAround_87 (lv_at hl 4 rfl) ?_
    exact hret _ _ _ _ _ _ ix4 h w dX4_lowestAround_89
  · have h := h.1 c2
    refine fb_iconst C dX4_lowestAround_16 ?_
    refine lv_istore (lv' := [(6, .int (fb_I 0)), (0, .ref (fb_ad G 5)), (1, .ref (fb_ad G 1)), (2, .int (fb_I x2)), (3, .int (fb_I x3)), (4, .int (fb_I x4)), (5, .int (fb_I x5))]) C.1.1 C.1.2.1 dX4_lowestAround_17 hl (by decide) rfl (fun ls hl => ?_)
    obtain ⟨n, h⟩ := h
    exact tl_X4_lowestAround_19 C hret h7 n x2 x3 x4 x5 0 _ _ _ _ w (lv_sub hl [1, 2, 3, 4, 5, 6, 0] rfl) ix2 ix3 ix4 ix5 (by decide) h
theorem tl_X4_lowestAround_7 (C : fb_C p s m args meth c G RX4 cX4_lowestAround 8) (hret : fb_RI p l e rm_X4_lowestAround s m args below meth c G cX4_lowestAround Qm Q) : ∀ n : Nat, TT_X4_lowestAround_7 p l e s m args below meth c Qm G (wl_X4_lowestAround_7 Q n) := by
  intro n
  induction n with
  | zero => intro x2 x3 x4 x5 σ H locs ls w hl ix2 ix3 ix4 ix5 h; exact h.elim
  | succ n ih => exact tw_X4_lowestAround_7 C hret ih
set_option maxRecDepth 100000 in
set_option maxHeartbeats 4000000 in
theorem tw_X4_lowestAround_0 (C : fb_C p s m args meth c G RX4 cX4_lowestAround 8) (hret : fb_RI p l e rm_X4_lowestAround s m args below meth c G cX4_lowestAround Qm Q) : TT_X4_lowestAround_0 p l e s m args below meth c Qm G (fun x2 x3 σ => wp_X4_lowestAround x2 x3 σ Q) := by
  intro x2 x3 σ H locs ls w hl ix2 ix3 h
  unfold wp_X4_lowestAround at h
  refine fb_bipush C dX4_lowestAround_0 (by decide) ?_
  refine lv_istore (lv' := [(4, .int (fb_I 100)), (0, .ref (fb_ad G 5)), (1, .ref (fb_ad G 1)), (2, .int (fb_I x2)), (3, .int (fb_I x3))]) C.1.1 C.1.2.1 dX4_lowestAround_2 hl (by decide) rfl (fun ls hl => ?_)
  refine fb_iconst C dX4_lowestAround_4 ?_
  refine lv_istore (lv' := [(5, .int (fb_I 0)), (4, .int (fb_I 100)), (0, .ref (fb_ad G 5)), (1, .ref (fb_ad G 1)), (2, .int (fb_I x2)), (3, .int (fb_I x3))]) C.1.1 C.1.2.1 dX4_lowestAround_5 hl (by decide) rfl (fun ls hl => ?_)
  obtain ⟨n, h⟩ := h
  exact tl_X4_lowestAround_7 C hret n x2 x3 100 0 _ _ _ _ w (lv_sub hl [2, 3, 4, 5, 1, 0] rfl) ix2 ix3 (by decide) (by decide) h
theorem ct_X4_lowestAround (l : Launch) (G : fb_G) {x2 : Int} {x3 : Int} {σ : fb_St} (ix2 : fb_in x2) (ix3 : fb_in x3) (h : wp_X4_lowestAround x2 x3 σ Q) : fb_MI l G yX4_lowestAround cX4_lowestAround 8 (some .int) rm_X4_lowestAround [.ref (fb_ad G 5), .ref (fb_ad G 1), .int (fb_I x2), .int (fb_I x3)] σ Q := by
  refine fb_ofW (own := RX4) (by decide) (Nat.le_of_ble_eq_true rfl) rfl (fun p e s m args below meth c ls C hr hl w => ?_)
  exact tw_X4_lowestAround_0 C (fb_reti C hr) _ _ _ _ _ _ w hl ix2 ix3 h
end S_X4_lowestAround
section S_X4_markAll
variable {p : Program} {l : Launch} {e : Env} {s : State} {m : MethodId} {args : Array Value} {below : List Frame} {meth : Method} {c : Code} {Qm : State → Prop} {G : fb_G} {Q : Int → fb_St → Prop}
abbrev TT_X4_markAll_2 (p : Program) (l : Launch) (e : Env) (s : State) (m : MethodId) (args : Array Value) (below : List Frame) (meth : Method) (c : Code) (Qm : State → Prop) (G : fb_G) (r : Int → Int → fb_St → Prop) : Prop := ∀ (x2 x3 : Int) (σ : fb_St) (H : Heap) (locs : List Loc) (ls : Array Slot), fb_Wd G s σ H locs → lv_has ls 4 [(0, .ref (fb_ad G 5)), (1, .ref (fb_ad G 1)), (2, .int (fb_I x2)), (3, .int (fb_I x3))] → fb_in x2 → fb_in x3 → r x2 x3 σ → W p l e rm_X4_markAll s m args below meth c H locs 0 0 Qm (F0 m 2 ls [])
abbrev TT_X4_markAll_0 (p : Program) (l : Launch) (e : Env) (s : State) (m : MethodId) (args : Array Value) (below : List Frame) (meth : Method) (c : Code) (Qm : State → Prop) (G : fb_G) (r : Int → fb_St → Prop) : Prop := ∀ (x2 : Int) (σ : fb_St) (H : Heap) (locs : List Loc) (ls : Array Slot), fb_Wd G s σ H locs → lv_has ls 4 [(0, .ref (fb_ad G 5)), (1, .ref (fb_ad G 1)), (2, .int (fb_I x2))] → fb_in x2 → r x2 σ → W p l e rm_X4_markAll s m args below meth c H locs 0 0 Qm (F0 m 0 ls [])
set_option maxRecDepth 100000 in
set_option maxHeartbeats 4000000 in
theorem tw_X4_markAll_2 (C : fb_C p s m args meth c G RX4 cX4_markAll 4) (hret : fb_RV p l e rm_X4_markAll s m args below meth c G cX4_markAll Qm Q) {r2 : Int → Int → fb_St → Prop} (h2 : TT_X4_markAll_2 p l e s m args below meth c Qm G r2) : TT_X4_markAll_2 p l e s m args below meth c Qm G (wb_X4_markAll_2 r2 Q) := by
  intro x2 x3 σ H locs ls w hl ix2 ix3 h
  unfold wb_X4_markAll_2 at h
  refine lv_iload_n C.1.1 C.1.2.1 dX4_markAll_2 rfl (lv_at hl 3 rfl) ?_
  refine lv_aload_n C.1.1 C.1.2.1 dX4_markAll_3 rfl (lv_at hl 0 rfl) ?_
  refine fb_gi C w 0 (fb_k5 C) rfl rfl fl_X4_9 dX4_markAll_4 ?_
  have i1 := w.2.2.2 5 0
  refine fb_icmp_ge (tgt := 28) C ix3 i1 dX4_markAll_7 (by decide) (fun c2 => ?_) (fun c2 => ?_)
  · have h := h.2 c2
    exact hret _ _ _ _ _ h w dX4_markAll_28
  · have h := h.1 c2
    refine lv_aload_n C.1.1 C.1.2.1 dX4_markAll_10 rfl (lv_at hl 1 rfl) ?_
    refine fb_getr (k2 := 3) C w (fb_k1 C) rfl fl_X4_45 dX4_markAll_11 ?_
    refine lv_aload_n C.1.1 C.1.2.1 dX4_markAll_14 rfl (lv_at hl 0 rfl) ?_
    refine fb_getr (k2 := 6) C w (fb_k5 C) rfl fl_X4_15 dX4_markAll_15 ?_
    refine lv_iload_n C.1.1 C.1.2.1 dX4_markAll_18 rfl (lv_at hl 3 rfl) ?_
    obtain ⟨z3, z4, h⟩ := h
    refine fb_al C w 144 (fb_k6 C) rfl rfl z3 z4 dX4_markAll_19 ?_
    have i5 := w.2.2.2 6 x3
    refine lv_iload_n C.1.1 C.1.2.1 dX4_markAll_20 rfl (lv_at hl 2 rfl) ?_
    obtain ⟨z6, z7, h⟩ := h
    refine fb_as C w 144 (fb_k3 C) rfl rfl ix2 z6 z7 dX4_markAll_21 (fun σ8 H locs eσ8 w => ?_)
    have h := h σ8 eσ8
    obtain ⟨i9, h⟩ := h
    refine fb_iinc (b := x3 + 1) (k := 3) (lv' := [(3, .int (fb_I (x3 + 1))), (0, .ref (fb_ad G 5)), (1, .ref (fb_ad G 1)), (2, .int (fb_I x2))]) C dX4_markAll_22 hl rfl rfl (by decide) rfl (fun ls hl => ?_)
    refine lv_goto (tgt := 2) C.1.1 C.1.2.1 dX4_markAll_25 (by decide) ?_
    exact h2 x2 (x3 + 1) _ _ _ _ w (lv_sub hl [1, 2, 3, 0] rfl) ix2 i9 h
theorem tl_X4_markAll_2 (C : fb_C p s m args meth c G RX4 cX4_markAll 4) (hret : fb_RV p l e rm_X4_markAll s m args below meth c G cX4_markAll Qm Q) : ∀ n : Nat, TT_X4_markAll_2 p l e s m args below meth c Qm G (wl_X4_markAll_2 Q n) := by
  intro n
  induction n with
  | zero => intro x2 x3 σ H locs ls w hl ix2 ix3 h; exact h.elim
  | succ n ih => exact tw_X4_markAll_2 C hret ih
set_option maxRecDepth 100000 in
set_option maxHeartbeats 4000000 in
theorem tw_X4_markAll_0 (C : fb_C p s m args meth c G RX4 cX4_markAll 4) (hret : fb_RV p l e rm_X4_markAll s m args below meth c G cX4_markAll Qm Q) : TT_X4_markAll_0 p l e s m args below meth c Qm G (fun x2 σ => wp_X4_markAll x2 σ Q) := by
  intro x2 σ H locs ls w hl ix2 h
  unfold wp_X4_markAll at h
  refine fb_iconst C dX4_markAll_0 ?_
  refine lv_istore_n (lv' := [(3, .int (fb_I 0)), (0, .ref (fb_ad G 5)), (1, .ref (fb_ad G 1)), (2, .int (fb_I x2))]) C.1.1 C.1.2.1 dX4_markAll_1 rfl hl (by decide) rfl (fun ls hl => ?_)
  obtain ⟨n, h⟩ := h
  exact tl_X4_markAll_2 C hret n x2 0 _ _ _ _ w (lv_sub hl [1, 2, 3, 0] rfl) ix2 (by decide) h
theorem ct_X4_markAll (l : Launch) (G : fb_G) {x2 : Int} {σ : fb_St} (ix2 : fb_in x2) (h : wp_X4_markAll x2 σ Q) : fb_MV l G yX4_markAll cX4_markAll 4 rm_X4_markAll [.ref (fb_ad G 5), .ref (fb_ad G 1), .int (fb_I x2)] σ Q := by
  refine fb_ofW (own := RX4) (by decide) (Nat.le_of_ble_eq_true rfl) rfl (fun p e s m args below meth c ls C hr hl w => ?_)
  exact tw_X4_markAll_0 C (fb_retv C hr) _ _ _ _ _ w hl ix2 h
end S_X4_markAll
section S_X6_findPits
variable {p : Program} {l : Launch} {e : Env} {s : State} {m : MethodId} {args : Array Value} {below : List Frame} {meth : Method} {c : Code} {Qm : State → Prop} {G : fb_G} {Q : Int → fb_St → Prop}
abbrev TT_X6_findPits_105 (p : Program) (l : Launch) (e : Env) (s : State) (m : MethodId) (args : Array Value) (below : List Frame) (meth : Method) (c : Code) (Qm : State → Prop) (G : fb_G) (r : Int → Int → Int → fb_St → Prop) : Prop := ∀ (x1 x2 x3 : Int) (σ : fb_St) (H : Heap) (locs : List Loc) (ls : Array Slot), fb_Wd G s σ H locs → lv_has ls 5 [(0, .ref (fb_ad G 0)), (1, .int (fb_I x1)), (2, .int (fb_I x2)), (3, .int (fb_I x3))] → fb_in x1 → fb_in x2 → fb_in x3 → r x1 x2 x3 σ → W p l e rm_X6_findPits s m args below meth c H locs 0 0 Qm (F0 m 105 ls [])
abbrev TT_X6_findPits_11 (p : Program) (l : Launch) (e : Env) (s : State) (m : MethodId) (args : Array Value) (below : List Frame) (meth : Method) (c : Code) (Qm : State → Prop) (G : fb_G) (r : Int → Int → Int → fb_St → Prop) : Prop := ∀ (x1 x2 x3 : Int) (σ : fb_St) (H : Heap) (locs : List Loc) (ls : Array Slot), fb_Wd G s σ H locs → lv_has ls 5 [(0, .ref (fb_ad G 0)), (1, .int (fb_I x1)), (2, .int (fb_I x2)), (3, .int (fb_I x3))] → fb_in x1 → fb_in x2 → fb_in x3 → r x1 x2 x3 σ → W p l e rm_X6_findPits s m args below meth c H locs 0 0 Qm (F0 m 11 ls [])
abbrev TT_X6_findPits_0 (p : Program) (l : Launch) (e : Env) (s : State) (m : MethodId) (args : Array Value) (below : List Frame) (meth : Method) (c : Code) (Qm : State → Prop) (G : fb_G) (r : Int → fb_St → Prop) : Prop := ∀ (x1 : Int) (σ : fb_St) (H : Heap) (locs : List Loc) (ls : Array Slot), fb_Wd G s σ H locs → lv_has ls 5 [(0, .ref (fb_ad G 0)), (1, .int (fb_I x1))] → fb_in x1 → r x1 σ → W p l e rm_X6_findPits s m args below meth c H locs 0 0 Qm (F0 m 0 ls [])
set_option maxRecDepth 100000 in
set_option maxHeartbeats 4000000 in
theorem tw_X6_findPits_105 (C : fb_C p s m args meth c G RX6 cX6_findPits 5) (hret : fb_RI p l e rm_X6_findPits s m args below meth c G cX6_findPits Qm Q) {r11 : Int → Int → Int → fb_St → Prop} (h11 : TT_X6_findPits_11 p l e s m args below meth c Qm G r11) : TT_X6_findPits_105 p l e s m args below meth c Qm G (wj_X6_findPits_105 r11 Q) := by
  intro x1 x2 x3 σ H locs ls w hl ix1 ix2 ix3 h
  unfold wj_X6_findPits_105 at h
  obtain ⟨i16, h⟩ := h
  refine fb_iinc (b := x3 + 1) (k := 3) (lv' := [(3, .int (fb_I (x3 + 1))), (0, .ref (fb_ad G 0)), (1, .int (fb_I x1)), (2, .int (fb_I x2))]) C dX6_findPits_105 hl rfl rfl (by decide) rfl (fun ls hl => ?_)
  refine lv_goto (tgt := 11) C.1.1 C.1.2.1 dX6_findPits_108 (by decide) ?_
  exact h11 x1 x2 (x3 + 1) _ _ _ _ w (lv_sub hl [1, 2, 3, 0] rfl) ix1 ix2 i16 h
set_option maxRecDepth 100000 in
set_option maxHeartbeats 4000000 in
theorem tw_X6_findPits_11 (C : fb_C p s m args meth c G RX6 cX6_findPits 5) (hret : fb_RI p l e rm_X6_findPits s m args below meth c G cX6_findPits Qm Q) {r11 : Int → Int → Int → fb_St → Prop} (h11 : TT_X6_findPits_11 p l e s m args below meth c Qm G r11) : TT_X6_findPits_11 p l e s m args below meth c Qm G (wb_X6_findPits_11 r11 Q) := by
  intro x1 x2 x3 σ H locs ls w hl ix1 ix2 ix3 h
  unfold wb_X6_findPits_11 at h
  refine lv_iload_n C.1.1 C.1.2.1 dX6_findPits_11 rfl (lv_at hl 3 rfl) ?_
  refine lv_aload_n C.1.1 C.1.2.1 dX6_findPits_12 rfl (lv_at hl 0 rfl) ?_
  refine fb_getr (k2 := 1) C w (fb_k0 C) rfl fl_X6_10 dX6_findPits_13 ?_
  refine fb_gi C w 2 (fb_k1 C) rfl rfl fl_X6_227 dX6_findPits_16 ?_
  have i2 := w.2.2.2 1 2
  refine fb_icmp_ge (tgt := 111) C ix3 i2 dX6_findPits_19 (by decide) (fun c3 => ?_) (fun c3 => ?_)
  · have h := h.2 c3
    refine lv_iload_n C.1.1 C.1.2.1 dX6_findPits_111 rfl (lv_at hl 2 rfl) ?_
    exact hret _ _ _ _ _ _ ix2 h w dX6_findPits_112
  · have h := h.1 c3
    refine lv_aload_n C.1.1 C.1.2.1 dX6_findPits_22 rfl (lv_at hl 0 rfl) ?_
    refine fb_getr (k2 := 5) C w (fb_k0 C) rfl fl_X6_19 dX6_findPits_23 ?_
    refine lv_iload_n C.1.1 C.1.2.1 dX6_findPits_26 rfl (lv_at hl 3 rfl) ?_
    refine fb_callVi (As := [.int (fb_I x3)]) (rest := []) C w (ct_X4_cameTo l G ix3 h) mv_X6_230 (fb_k5 C) rfl ⟨rfl, rfl, Nat.le_of_ble_eq_true rfl, Nat.le_of_ble_eq_true rfl, Nat.zero_le _, Nat.zero_le _⟩ rfl hl.1 rfl (Nat.le_of_ble_eq_true rfl) dX6_findPits_27 (fun a4 σ4 H locs h ia4 w => ?_)
    refine fb_if_eq (tgt := 36) C ia4 dX6_findPits_30 (by decide) (fun c5 => ?_) (fun c5 => ?_)
    · have h := h.1 c5
      refine lv_aload_n C.1.1 C.1.2.1 dX6_findPits_36 rfl (lv_at hl 0 rfl) ?_
      refine fb_getr (k2 := 1) C w (fb_k0 C) rfl fl_X6_10 dX6_findPits_37 ?_
      refine fb_getr (k2 := 2) C w (fb_k1 C) rfl fl_X6_90 dX6_findPits_40 ?_
      refine lv_iload_n C.1.1 C.1.2.1 dX6_findPits_43 rfl (lv_at hl 3 rfl) ?_
      obtain ⟨z6, z7, h⟩ := h
      refine fb_al C w 144 (fb_k2 C) rfl rfl z6 z7 dX6_findPits_44 ?_
      have i8 := w.2.2.2 2 x3
      refine fb_top (fun v9 ev9 => ?_)
      have h := h v9 ev9
      have iv9 := fb_ie ev9 i8
      refine lv_istore (lv' := [(4, .int (fb_I v9)), (0, .ref (fb_ad G 0)), (1, .int (fb_I x1)), (2, .int (fb_I x2)), (3, .int (fb_I x3))]) C.1.1 C.1.2.1 dX6_findPits_45 hl (by decide) rfl (fun ls hl => ?_)
      refine lv_aload_n C.1.1 C.1.2.1 dX6_findPits_47 rfl (lv_at hl 1 rfl) ?_
      refine fb_getr (k2 := 5) C w (fb_k0 C) rfl fl_X6_19 dX6_findPits_48 ?_
      refine lv_aload_n C.1.1 C.1.2.1 dX6_findPits_51 rfl (lv_at hl 1 rfl) ?_
      refine fb_getr (k2 := 1) C w (fb_k0 C) rfl fl_X6_10 dX6_findPits_52 ?_
      refine lv_iload_n C.1.1 C.1.2.1 dX6_findPits_55 rfl (lv_at hl 4 rfl) ?_
      refine lv_iload C.1.1 C.1.2.1 dX6_findPits_56 (lv_at hl 0 rfl) ?_
      refine lv_iload C.1.1 C.1.2.1 dX6_findPits_58 (lv_at hl 0 rfl) ?_
      refine fb_callVv (As := [.ref (fb_ad G 1), .int (fb_I x3), .int (fb_I v9), .int (fb_I v9)]) (rest := []) C w (ct_X4_from l G ix3 iv9 iv9 h) mv_X6_167 (fb_k5 C) rfl ⟨rfl, rfl, Nat.le_of_ble_eq_true rfl, Nat.le_of_ble_eq_true rfl, Nat.zero_le _, Nat.zero_le _⟩ rfl hl.1 rfl (Nat.le_of_ble_eq_true rfl) dX6_findPits_60 (fun σ10 H locs h w => ?_)
      refine lv_aload_n C.1.1 C.1.2.1 dX6_findPits_63 rfl (lv_at hl 1 rfl) ?_
      refine fb_getr (k2 := 5) C w (fb_k0 C) rfl fl_X6_19 dX6_findPits_64 ?_
      refine lv_aload_n C.1.1 C.1.2.1 dX6_findPits_67 rfl (lv_at hl 1 rfl) ?_
      refine fb_getr (k2 := 1) C w (fb_k0 C) rfl fl_X6_10 dX6_findPits_68 ?_
      refine lv_iload C.1.1 C.1.2.1 dX6_findPits_71 (lv_at hl 0 rfl) ?_
      refine lv_iload C.1.1 C.1.2.1 dX6_findPits_73 (lv_at hl 0 rfl) ?_
      refine fb_callVi (As := [.ref (fb_ad G 1), .int (fb_I v9), .int (fb_I v9)]) (rest := []) C w (ct_X4_lowestAround l G iv9 iv9 h) mv_X6_178 (fb_k5 C) rfl ⟨rfl, rfl, Nat.le_of_ble_eq_true rfl, Nat.le_of_ble_eq_true rfl, Nat.zero_le _, Nat.zero_le _⟩ rfl hl.1 rfl (Nat.le_of_ble_eq_true rfl) dX6_findPits_75 (fun a11 σ11 H locs h ia11 w => ?_)
      refine lv_iload C.1.1 C.1.2.1 dX6_findPits_78 (lv_at hl 0 rfl) ?_
      refine fb_icmp_ge (tgt := 86) C ia11 iv9 dX6_findPits_80 (by decide) (fun c12 => ?_) (fun c12 => ?_)
      · have h := h.2 c12
        obtain ⟨i13, h⟩ := h
        refine fb_iinc (b := x2 + 1) (k := 3) (lv' := [(2, .int (fb_I (x2 + 1))), (4, .int (fb_I v9)), (0, .ref (fb_ad G 0)), (1, .int (fb_I x1)), (3, .int (fb_I x3))]) C dX6_findPits_86 hl rfl rfl (by decide) rfl (fun ls hl => ?_)
        refine lv_iload_n C.1.1 C.1.2.1 dX6_findPits_89 rfl (lv_at hl 3 rfl) ?_
        refine fb_if_eq (tgt := 105) C ix1 dX6_findPits_90 (by decide) (fun c14 => ?_) (fun c14 => ?_)
        · have h := h.1 c14
          exact tw_X6_findPits_105 C hret h11 x1 (x2 + 1) x3 _ _ _ _ w (lv_sub hl [2, 3, 0, 4] rfl) ix1 i13 ix3 h
        · have h := h.2 c14
          refine lv_aload_n C.1.1 C.1.2.1 dX6_findPits_93 rfl (lv_at hl 2 rfl) ?_
          refine fb_getr (k2 := 5) C w (fb_k0 C) rfl fl_X6_19 dX6_findPits_94 ?_
          refine lv_aload_n C.1.1 C.1.2.1 dX6_findPits_97 rfl (lv_at hl 2 rfl) ?_
          refine fb_getr (k2 := 1) C w (fb_k0 C) rfl fl_X6_10 dX6_findPits_98 ?_
          refine lv_iload_n C.1.1 C.1.2.1 dX6_findPits_101 rfl (lv_at hl 0 rfl) ?_
          refine fb_callVv (As := [.ref (fb_ad G 1), .int (fb_I (x2 + 1))]) (rest := []) C w (ct_X4_markAll l G i13 h) mv_X6_233 (fb_k5 C) rfl ⟨rfl, rfl, Nat.le_of_ble_eq_true rfl, Nat.le_of_ble_eq_true rfl, Nat.zero_le _, Nat.zero_le _⟩ rfl hl.1 rfl (Nat.le_of_ble_eq_true rfl) dX6_findPits_102 (fun σ15 H locs h w => ?_)
          exact tw_X6_findPits_105 C hret h11 x1 (x2 + 1) x3 _ _ _ _ w (lv_sub hl [2, 3, 0, 4] rfl) ix1 i13 ix3 h
      · have h := h.1 c12
        refine lv_goto (tgt := 105) C.1.1 C.1.2.1 dX6_findPits_83 (by decide) ?_
        exact tw_X6_findPits_105 C hret h11 x1 x2 x3 _ _ _ _ w (lv_sub hl [1, 2, 3, 4] rfl) ix1 ix2 ix3 h
    · have h := h.2 c5
      refine lv_goto (tgt := 105) C.1.1 C.1.2.1 dX6_findPits_33 (by decide) ?_
      exact tw_X6_findPits_105 C hret h11 x1 x2 x3 _ _ _ _ w (lv_sub hl [0, 1, 2, 3] rfl) ix1 ix2 ix3 h
theorem tl_X6_findPits_11 (C : fb_C p s m args meth c G RX6 cX6_findPits 5) (hret : fb_RI p l e rm_X6_findPits s m args below meth c G cX6_findPits Qm Q) : ∀ n : Nat, TT_X6_findPits_11 p l e s m args below meth c Qm G (wl_X6_findPits_11 Q n) := by
  intro n
  induction n with
  | zero => intro x1 x2 x3 σ H locs ls w hl ix1 ix2 ix3 h; exact h.elim
  | succ n ih => exact tw_X6_findPits_11 C hret ih
set_option maxRecDepth 100000 in
set_option maxHeartbeats 4000000 in
theorem tw_X6_findPits_0 (C : fb_C p s m args meth c G RX6 cX6_findPits 5) (hret : fb_RI p l e rm_X6_findPits s m args below meth c G cX6_findPits Qm Q) : TT_X6_findPits_0 p l e s m args below meth c Qm G (fun x1 σ => wp_X6_findPits x1 σ Q) := by
  intro x1 σ H locs ls w hl ix1 h
  unfold wp_X6_findPits at h
  refine fb_iconst C dX6_findPits_0 ?_
  refine lv_istore_n (lv' := [(2, .int (fb_I 0)), (0, .ref (fb_ad G 0)), (1, .int (fb_I x1))]) C.1.1 C.1.2.1 dX6_findPits_1 rfl hl (by decide) rfl (fun ls hl => ?_)
  refine lv_aload_n C.1.1 C.1.2.1 dX6_findPits_2 rfl (lv_at hl 1 rfl) ?_
  refine fb_getr (k2 := 5) C w (fb_k0 C) rfl fl_X6_19 dX6_findPits_3 ?_
  refine fb_callVv (As := []) (rest := []) C w (ct_X4_forget l G h) mv_X6_164 (fb_k5 C) rfl ⟨rfl, rfl, Nat.le_of_ble_eq_true rfl, Nat.le_of_ble_eq_true rfl, Nat.zero_le _, Nat.zero_le _⟩ rfl hl.1 rfl (Nat.le_of_ble_eq_true rfl) dX6_findPits_6 (fun σ1 H locs h w => ?_)
  refine fb_iconst C dX6_findPits_9 ?_
  refine lv_istore_n (lv' := [(3, .int (fb_I 0)), (2, .int (fb_I 0)), (0, .ref (fb_ad G 0)), (1, .int (fb_I x1))]) C.1.1 C.1.2.1 dX6_findPits_10 rfl hl (by decide) rfl (fun ls hl => ?_)
  obtain ⟨n, h⟩ := h
  exact tl_X6_findPits_11 C hret n x1 0 0 _ _ _ _ w (lv_sub hl [2, 3, 1, 0] rfl) ix1 (by decide) (by decide) h
theorem ct_X6_findPits (l : Launch) (G : fb_G) {x1 : Int} {σ : fb_St} (ix1 : fb_in x1) (h : wp_X6_findPits x1 σ Q) : fb_MI l G yX6_findPits cX6_findPits 5 (some .int) rm_X6_findPits [.ref (fb_ad G 0), .int (fb_I x1)] σ Q := by
  refine fb_ofW (own := RX6) (by decide) (Nat.le_of_ble_eq_true rfl) rfl (fun p e s m args below meth c ls C hr hl w => ?_)
  exact tw_X6_findPits_0 C (fb_reti C hr) _ _ _ _ _ w hl ix1 h
end S_X6_findPits
section S_X6_pitsAfterChange
variable {p : Program} {l : Launch} {e : Env} {s : State} {m : MethodId} {args : Array Value} {below : List Frame} {meth : Method} {c : Code} {Qm : State → Prop} {G : fb_G} {Q : Int → fb_St → Prop}
abbrev TT_X6_pitsAfterChange_0 (p : Program) (l : Launch) (e : Env) (s : State) (m : MethodId) (args : Array Value) (below : List Frame) (meth : Method) (c : Code) (Qm : State → Prop) (G : fb_G) (r : fb_St → Prop) : Prop := ∀ (σ : fb_St) (H : Heap) (locs : List Loc) (ls : Array Slot), fb_Wd G s σ H locs → lv_has ls 1 [(0, .ref (fb_ad G 0))] → r σ → W p l e rm_X6_pitsAfterChange s m args below meth c H locs 0 0 Qm (F0 m 0 ls [])
set_option maxRecDepth 100000 in
set_option maxHeartbeats 4000000 in
theorem tw_X6_pitsAfterChange_0 (C : fb_C p s m args meth c G RX6 cX6_pitsAfterChange 1) (hret : fb_RI p l e rm_X6_pitsAfterChange s m args below meth c G cX6_pitsAfterChange Qm Q) : TT_X6_pitsAfterChange_0 p l e s m args below meth c Qm G (fun σ => wp_X6_pitsAfterChange σ Q) := by
  intro σ H locs ls w hl h
  unfold wp_X6_pitsAfterChange at h
  refine lv_aload_n C.1.1 C.1.2.1 dX6_pitsAfterChange_0 rfl (lv_at hl 0 rfl) ?_
  refine fb_callVv (As := []) (rest := []) C w (ct_X6_nothingStands l G h) mv_X6_97 (fb_k0 C) rfl ⟨rfl, rfl, Nat.le_of_ble_eq_true rfl, Nat.le_of_ble_eq_true rfl, Nat.zero_le _, Nat.zero_le _⟩ rfl hl.1 rfl (Nat.le_of_ble_eq_true rfl) dX6_pitsAfterChange_1 (fun σ1 H locs h w => ?_)
  refine lv_aload_n C.1.1 C.1.2.1 dX6_pitsAfterChange_4 rfl (lv_at hl 0 rfl) ?_
  refine fb_iconst C dX6_pitsAfterChange_5 ?_
  refine fb_callVi (As := [.int (fb_I 0)]) (rest := []) C w (ct_X6_findPits l G (by decide) h) mv_X6_106 (fb_k0 C) rfl ⟨rfl, rfl, Nat.le_of_ble_eq_true rfl, Nat.le_of_ble_eq_true rfl, Nat.zero_le _, Nat.zero_le _⟩ rfl hl.1 rfl (Nat.le_of_ble_eq_true rfl) dX6_pitsAfterChange_6 (fun a2 σ2 H locs h ia2 w => ?_)
  exact hret _ _ _ _ _ _ ia2 h w dX6_pitsAfterChange_9
theorem ct_X6_pitsAfterChange (l : Launch) (G : fb_G) {σ : fb_St} (h : wp_X6_pitsAfterChange σ Q) : fb_MI l G yX6_pitsAfterChange cX6_pitsAfterChange 1 (some .int) rm_X6_pitsAfterChange [.ref (fb_ad G 0)] σ Q := by
  refine fb_ofW (own := RX6) (by decide) (Nat.le_of_ble_eq_true rfl) rfl (fun p e s m args below meth c ls C hr hl w => ?_)
  exact tw_X6_pitsAfterChange_0 C (fb_reti C hr) _ _ _ _ w hl h
end S_X6_pitsAfterChange
section S_X6_land
variable {p : Program} {l : Launch} {e : Env} {s : State} {m : MethodId} {args : Array Value} {below : List Frame} {meth : Method} {c : Code} {Qm : State → Prop} {G : fb_G} {Q : Int → fb_St → Prop}
abbrev TT_X6_land_20 (p : Program) (l : Launch) (e : Env) (s : State) (m : MethodId) (args : Array Value) (below : List Frame) (meth : Method) (c : Code) (Qm : State → Prop) (G : fb_G) (r : fb_St → Prop) : Prop := ∀ (σ : fb_St) (H : Heap) (locs : List Loc) (ls : Array Slot), fb_Wd G s σ H locs → lv_has ls 3 [] → r σ → W p l e rm_X6_land s m args below meth c H locs 0 0 Qm (F0 m 20 ls [])
abbrev TT_X6_land_0 (p : Program) (l : Launch) (e : Env) (s : State) (m : MethodId) (args : Array Value) (below : List Frame) (meth : Method) (c : Code) (Qm : State → Prop) (G : fb_G) (r : Int → Int → fb_St → Prop) : Prop := ∀ (x1 x2 : Int) (σ : fb_St) (H : Heap) (locs : List Loc) (ls : Array Slot), fb_Wd G s σ H locs → lv_has ls 3 [(0, .ref (fb_ad G 0)), (1, .int (fb_I x1)), (2, .int (fb_I x2))] → fb_in x1 → fb_in x2 → r x1 x2 σ → W p l e rm_X6_land s m args below meth c H locs 0 0 Qm (F0 m 0 ls [])
set_option maxRecDepth 100000 in
set_option maxHeartbeats 4000000 in
theorem tw_X6_land_20 (C : fb_C p s m args meth c G RX6 cX6_land 3) (hret : fb_RI p l e rm_X6_land s m args below meth c G cX6_land Qm Q) : TT_X6_land_20 p l e s m args below meth c Qm G (wj_X6_land_20 Q) := by
  intro σ H locs ls w hl h
  unfold wj_X6_land_20 at h
  refine fb_bipush C dX6_land_20 (by decide) ?_
  exact hret _ _ _ _ _ _ (by decide) h w dX6_land_22
set_option maxRecDepth 100000 in
set_option maxHeartbeats 4000000 in
theorem tw_X6_land_0 (C : fb_C p s m args meth c G RX6 cX6_land 3) (hret : fb_RI p l e rm_X6_land s m args below meth c G cX6_land Qm Q) : TT_X6_land_0 p l e s m args below meth c Qm G (fun x1 x2 σ => wp_X6_land x1 x2 σ Q) := by
  intro x1 x2 σ H locs ls w hl ix1 ix2 h
  unfold wp_X6_land at h
  refine lv_iload_n C.1.1 C.1.2.1 dX6_land_0 rfl (lv_at hl 1 rfl) ?_
  refine fb_iconst C dX6_land_1 ?_
  refine fb_bipush C dX6_land_2 (by decide) ?_
  refine fb_callSi (As := [.int (fb_I x1), .int (fb_I 1), .int (fb_I 12)]) (rest := []) C w (ct_X6_within l G ix1 (by decide) (by decide) h) ms_X6_68 ⟨rfl, rfl, Nat.le_of_ble_eq_true rfl, Nat.le_of_ble_eq_true rfl, Nat.zero_le _, Nat.zero_le _⟩ rfl hl.1 rfl (Nat.le_of_ble_eq_true rfl) dX6_land_4 (fun a1 σ1 H locs h ia1 w => ?_)
  refine fb_if_eq (tgt := 20) C ia1 dX6_land_7 (by decide) (fun c2 => ?_) (fun c2 => ?_)
  · have h := h.1 c2
    exact tw_X6_land_20 C hret _ _ _ _ w (lv_sub hl [] rfl) h
  · have h := h.2 c2
    refine lv_iload_n C.1.1 C.1.2.1 dX6_land_10 rfl (lv_at hl 2 rfl) ?_
    refine fb_iconst C dX6_land_11 ?_
    refine fb_bipush C dX6_land_12 (by decide) ?_
    refine fb_callSi (As := [.int (fb_I x2), .int (fb_I 1), .int (fb_I 12)]) (rest := []) C w (ct_X6_within l G ix2 (by decide) (by decide) h) ms_X6_68 ⟨rfl, rfl, Nat.le_of_ble_eq_true rfl, Nat.le_of_ble_eq_true rfl, Nat.zero_le _, Nat.zero_le _⟩ rfl hl.1 rfl (Nat.le_of_ble_eq_true rfl) dX6_land_14 (fun a3 σ3 H locs h ia3 w => ?_)
    refine fb_if_ne (tgt := 23) C ia3 dX6_land_17 (by decide) (fun c4 => ?_) (fun c4 => ?_)
    · have h := h.2 c4
      refine lv_aload_n C.1.1 C.1.2.1 dX6_land_23 rfl (lv_at hl 0 rfl) ?_
      refine fb_getr (k2 := 1) C w (fb_k0 C) rfl fl_X6_10 dX6_land_24 ?_
      refine lv_iload_n C.1.1 C.1.2.1 dX6_land_27 rfl (lv_at hl 1 rfl) ?_
      refine lv_iload_n C.1.1 C.1.2.1 dX6_land_28 rfl (lv_at hl 2 rfl) ?_
      refine fb_callVv (As := [.int (fb_I x1), .int (fb_I x2)]) (rest := []) C w (ct_X5_shape l G ix1 ix2 h) mv_X6_64 (fb_k1 C) rfl ⟨rfl, rfl, Nat.le_of_ble_eq_true rfl, Nat.le_of_ble_eq_true rfl, Nat.zero_le _, Nat.zero_le _⟩ rfl hl.1 rfl (Nat.le_of_ble_eq_true rfl) dX6_land_29 (fun σ5 H locs h w => ?_)
      refine lv_aload_n C.1.1 C.1.2.1 dX6_land_32 rfl (lv_at hl 0 rfl) ?_
      refine fb_getr (k2 := 1) C w (fb_k0 C) rfl fl_X6_10 dX6_land_33 ?_
      refine fb_callVv (As := []) (rest := []) C w (ct_X5_clear l G h) mv_X6_72 (fb_k1 C) rfl ⟨rfl, rfl, Nat.le_of_ble_eq_true rfl, Nat.le_of_ble_eq_true rfl, Nat.zero_le _, Nat.zero_le _⟩ rfl hl.1 rfl (Nat.le_of_ble_eq_true rfl) dX6_land_36 (fun σ6 H locs h w => ?_)
      refine lv_aload_n C.1.1 C.1.2.1 dX6_land_39 rfl (lv_at hl 0 rfl) ?_
      refine fb_callVi (As := []) (rest := []) C w (ct_X6_pitsAfterChange l G h) mv_X6_75 (fb_k0 C) rfl ⟨rfl, rfl, Nat.le_of_ble_eq_true rfl, Nat.le_of_ble_eq_true rfl, Nat.zero_le _, Nat.zero_le _⟩ rfl hl.1 rfl (Nat.le_of_ble_eq_true rfl) dX6_land_40 (fun a7 σ7 H locs h ia7 w => ?_)
      exact hret _ _ _ _ _ _ ia7 h w dX6_land_43
    · have h := h.1 c4
      exact tw_X6_land_20 C hret _ _ _ _ w (lv_sub hl [] rfl) h
theorem ct_X6_land (l : Launch) (G : fb_G) {x1 : Int} {x2 : Int} {σ : fb_St} (ix1 : fb_in x1) (ix2 : fb_in x2) (h : wp_X6_land x1 x2 σ Q) : fb_MI l G yX6_land cX6_land 3 (some .int) rm_X6_land [.ref (fb_ad G 0), .int (fb_I x1), .int (fb_I x2)] σ Q := by
  refine fb_ofW (own := RX6) (by decide) (Nat.le_of_ble_eq_true rfl) rfl (fun p e s m args below meth c ls C hr hl w => ?_)
  exact tw_X6_land_0 C (fb_reti C hr) _ _ _ _ _ _ w hl ix1 ix2 h
end S_X6_land
section S_X5_ripple
variable {p : Program} {l : Launch} {e : Env} {s : State} {m : MethodId} {args : Array Value} {below : List Frame} {meth : Method} {c : Code} {Qm : State → Prop} {G : fb_G} {Q : Int → fb_St → Prop}
abbrev TT_X5_ripple_15 (p : Program) (l : Launch) (e : Env) (s : State) (m : MethodId) (args : Array Value) (below : List Frame) (meth : Method) (c : Code) (Qm : State → Prop) (G : fb_G) (r : Int → Int → Int → Int → Int → Int → fb_St → Prop) : Prop := ∀ (x1 x2 x3 x4 x5 x6 : Int) (σ : fb_St) (H : Heap) (locs : List Loc) (ls : Array Slot), fb_Wd G s σ H locs → lv_has ls 7 [(0, .ref (fb_ad G 1)), (1, .int (fb_I x1)), (2, .int (fb_I x2)), (3, .int (fb_I x3)), (4, .int (fb_I x4)), (5, .int (fb_I x5)), (6, .int (fb_I x6))] → fb_in x1 → fb_in x2 → fb_in x3 → fb_in x4 → fb_in x5 → fb_in x6 → r x1 x2 x3 x4 x5 x6 σ → W p l e rm_X5_ripple s m args below meth c H locs 0 0 Qm (F0 m 15 ls [])
abbrev TT_X5_ripple_3 (p : Program) (l : Launch) (e : Env) (s : State) (m : MethodId) (args : Array Value) (below : List Frame) (meth : Method) (c : Code) (Qm : State → Prop) (G : fb_G) (r : Int → Int → Int → Int → Int → fb_St → Prop) : Prop := ∀ (x1 x2 x3 x4 x5 : Int) (σ : fb_St) (H : Heap) (locs : List Loc) (ls : Array Slot), fb_Wd G s σ H locs → lv_has ls 7 [(0, .ref (fb_ad G 1)), (1, .int (fb_I x1)), (2, .int (fb_I x2)), (3, .int (fb_I x3)), (4, .int (fb_I x4)), (5, .int (fb_I x5))] → fb_in x1 → fb_in x2 → fb_in x3 → fb_in x4 → fb_in x5 → r x1 x2 x3 x4 x5 σ → W p l e rm_X5_ripple s m args below meth c H locs 0 0 Qm (F0 m 3 ls [])
abbrev TT_X5_ripple_0 (p : Program) (l : Launch) (e : Env) (s : State) (m : MethodId) (args : Array Value) (below : List Frame) (meth : Method) (c : Code) (Qm : State → Prop) (G : fb_G) (r : Int → Int → Int → Int → fb_St → Prop) : Prop := ∀ (x1 x2 x3 x4 : Int) (σ : fb_St) (H : Heap) (locs : List Loc) (ls : Array Slot), fb_Wd G s σ H locs → lv_has ls 7 [(0, .ref (fb_ad G 1)), (1, .int (fb_I x1)), (2, .int (fb_I x2)), (3, .int (fb_I x3)), (4, .int (fb_I x4))] → fb_in x1 → fb_in x2 → fb_in x3 → fb_in x4 → r x1 x2 x3 x4 σ → W p l e rm_X5_ripple s m args below meth c H locs 0 0 Qm (F0 m 0 ls [])
set_option maxRecDepth 100000 in
set_option maxHeartbeats 4000000 in
theorem tw_X5_ripple_15 (C : fb_C p s m args meth c G RX5 cX5_ripple 7) (hret : fb_RV p l e rm_X5_ripple s m args below meth c G cX5_ripple Qm Q) {r3 : Int → Int → Int → Int → Int → fb_St → Prop} (h3 : TT_X5_ripple_3 p l e s m args below meth c Qm G r3) {r15 : Int → Int → Int → Int → Int → Int → fb_St → Prop} (h15 : TT_X5_ripple_15 p l e s m args below meth c Qm G r15) : TT_X5_ripple_15 p l e s m args below meth c Qm G (wb_X5_ripple_15 r3 r15 Q) := by
  intro x1 x2 x3 x4 x5 x6 σ H locs ls w hl ix1 ix2 ix3 ix4 ix5 ix6 h
  unfold wb_X5_ripple_15 at h
  refine lv_iload C.1.1 C.1.2.1 dX5_ripple_15 (lv_at hl 6 rfl) ?_
  refine lv_aload_n C.1.1 C.1.2.1 dX5_ripple_17 rfl (lv_at hl 0 rfl) ?_
  refine fb_gi C w 0 (fb_k1 C) rfl rfl fl_X5_9 dX5_ripple_18 ?_
  have i3 := w.2.2.2 1 0
  refine fb_icmp_ge (tgt := 65) C ix6 i3 dX5_ripple_21 (by decide) (fun c4 => ?_) (fun c4 => ?_)
  · have h := h.2 c4
    obtain ⟨i5, h⟩ := h
    refine fb_iinc (b := x5 + 1) (k := 5) (lv' := [(5, .int (fb_I (x5 + 1))), (0, .ref (fb_ad G 1)), (1, .int (fb_I x1)), (2, .int (fb_I x2)), (3, .int (fb_I x3)), (4, .int (fb_I x4)), (6, .int (fb_I x6))]) C dX5_ripple_65 hl rfl rfl (by decide) rfl (fun ls hl => ?_)
    refine lv_goto (tgt := 3) C.1.1 C.1.2.1 dX5_ripple_68 (by decide) ?_
    exact h3 x1 x2 x3 x4 (x5 + 1) _ _ _ _ w (lv_sub hl [1, 2, 3, 4, 5, 0] rfl) ix1 ix2 ix3 ix4 i5 h
  · have h := h.1 c4
    refine lv_aload_n C.1.1 C.1.2.1 dX5_ripple_24 rfl (lv_at hl 0 rfl) ?_
    refine fb_getr (k2 := 2) C w (fb_k1 C) rfl fl_X5_21 dX5_ripple_25 ?_
    refine lv_iload C.1.1 C.1.2.1 dX5_ripple_28 (lv_at hl 5 rfl) ?_
    refine lv_aload_n C.1.1 C.1.2.1 dX5_ripple_30 rfl (lv_at hl 0 rfl) ?_
    refine fb_gi C w 0 (fb_k1 C) rfl rfl fl_X5_9 dX5_ripple_31 ?_
    have i6 := w.2.2.2 1 0
    obtain ⟨i7, h⟩ := h
    refine fb_imul C dX5_ripple_34 ?_
    refine lv_iload C.1.1 C.1.2.1 dX5_ripple_35 (lv_at hl 6 rfl) ?_
    obtain ⟨i8, h⟩ := h
    refine fb_iadd C dX5_ripple_37 ?_
    refine lv_iload_n C.1.1 C.1.2.1 dX5_ripple_38 rfl (lv_at hl 1 rfl) ?_
    refine lv_iload C.1.1 C.1.2.1 dX5_ripple_39 (lv_at hl 6 rfl) ?_
    obtain ⟨i9, h⟩ := h
    refine fb_imul C dX5_ripple_41 ?_
    refine lv_iload_n C.1.1 C.1.2.1 dX5_ripple_42 rfl (lv_at hl 2 rfl) ?_
    refine lv_iload C.1.1 C.1.2.1 dX5_ripple_43 (lv_at hl 5 rfl) ?_
    obtain ⟨i10, h⟩ := h
    refine fb_imul C dX5_ripple_45 ?_
    obtain ⟨i11, h⟩ := h
    refine fb_iadd C dX5_ripple_46 ?_
    refine lv_iload_n C.1.1 C.1.2.1 dX5_ripple_47 rfl (lv_at hl 3 rfl) ?_
    refine lv_iload C.1.1 C.1.2.1 dX5_ripple_48 (lv_at hl 6 rfl) ?_
    obtain ⟨i12, h⟩ := h
    refine fb_imul C dX5_ripple_50 ?_
    refine lv_iload C.1.1 C.1.2.1 dX5_ripple_51 (lv_at hl 5 rfl) ?_
    obtain ⟨i13, h⟩ := h
    refine fb_imul C dX5_ripple_53 ?_
    obtain ⟨i14, h⟩ := h
    refine fb_iadd C dX5_ripple_54 ?_
    refine lv_iload C.1.1 C.1.2.1 dX5_ripple_55 (lv_at hl 4 rfl) ?_
    obtain ⟨z16, z17, i15, h⟩ := h
    refine fb_irem C i14 ix4 z16 z17 dX5_ripple_57 ?_
    obtain ⟨z18, z19, h⟩ := h
    refine fb_as C w 144 (fb_k2 C) rfl rfl i15 z18 z19 dX5_ripple_58 (fun σ20 H locs eσ20 w => ?_)
    have h := h σ20 eσ20
    obtain ⟨i21, h⟩ := h
    refine fb_iinc (b := x6 + 1) (k := 6) (lv' := [(6, .int (fb_I (x6 + 1))), (0, .ref (fb_ad G 1)), (1, .int (fb_I x1)), (2, .int (fb_I x2)), (3, .int (fb_I x3)), (4, .int (fb_I x4)), (5, .int (fb_I x5))]) C dX5_ripple_59 hl rfl rfl (by decide) rfl (fun ls hl => ?_)
    refine lv_goto (tgt := 15) C.1.1 C.1.2.1 dX5_ripple_62 (by decide) ?_
    exact h15 x1 x2 x3 x4 x5 (x6 + 1) _ _ _ _ w (lv_sub hl [1, 2, 3, 4, 5, 6, 0] rfl) ix1 ix2 ix3 ix4 ix5 i21 h
theorem tl_X5_ripple_15 (C : fb_C p s m args meth c G RX5 cX5_ripple 7) (hret : fb_RV p l e rm_X5_ripple s m args below meth c G cX5_ripple Qm Q) {r3 : Int → Int → Int → Int → Int → fb_St → Prop} (h3 : TT_X5_ripple_3 p l e s m args below meth c Qm G r3) : ∀ n : Nat, TT_X5_ripple_15 p l e s m args below meth c Qm G (wl_X5_ripple_15 r3 Q n) := by
  intro n
  induction n with
  | zero => intro x1 x2 x3 x4 x5 x6 σ H locs ls w hl ix1 ix2 ix3 ix4 ix5 ix6 h; exact h.elim
  | succ n ih => exact tw_X5_ripple_15 C hret h3 ih
set_option maxRecDepth 100000 in
set_option maxHeartbeats 4000000 in
theorem tw_X5_ripple_3 (C : fb_C p s m args meth c G RX5 cX5_ripple 7) (hret : fb_RV p l e rm_X5_ripple s m args below meth c G cX5_ripple Qm Q) {r3 : Int → Int → Int → Int → Int → fb_St → Prop} (h3 : TT_X5_ripple_3 p l e s m args below meth c Qm G r3) : TT_X5_ripple_3 p l e s m args below meth c Qm G (wb_X5_ripple_3 r3 Q) := by
  intro x1 x2 x3 x4 x5 σ H locs ls w hl ix1 ix2 ix3 ix4 ix5 h
  unfold wb_X5_ripple_3 at h
  refine lv_iload C.1.1 C.1.2.1 dX5_ripple_3 (lv_at hl 5 rfl) ?_
  refine lv_aload_n C.1.1 C.1.2.1 dX5_ripple_5 rfl (lv_at hl 0 rfl) ?_
  refine fb_gi C w 1 (fb_k1 C) rfl rfl fl_X5_15 dX5_ripple_6 ?_
  have i1 := w.2.2.2 1 1
  refine fb_icmp_ge (tgt := 71) C ix5 i1 dX5_ripple_9 (by decide) (fun c2 => ?_) (fun c2 => ?_)
  · have h := h.2 c2
    exact hret _ _ _ _ _ h w dX5_ripple_71
  · have h := h.1 c2
    refine fb_iconst C dX5_ripple_12 ?_
    refine lv_istore (lv' := [(6, .int (fb_I 0)), (0, .ref (fb_ad G 1)), (1, .int (fb_I x1)), (2, .int (fb_I x2)), (3, .int (fb_I x3)), (4, .int (fb_I x4)), (5, .int (fb_I x5))]) C.1.1 C.1.2.1 dX5_ripple_13 hl (by decide) rfl (fun ls hl => ?_)
    obtain ⟨n, h⟩ := h
    exact tl_X5_ripple_15 C hret h3 n x1 x2 x3 x4 x5 0 _ _ _ _ w (lv_sub hl [1, 2, 3, 4, 5, 6, 0] rfl) ix1 ix2 ix3 ix4 ix5 (by decide) h
theorem tl_X5_ripple_3 (C : fb_C p s m args meth c G RX5 cX5_ripple 7) (hret : fb_RV p l e rm_X5_ripple s m args below meth c G cX5_ripple Qm Q) : ∀ n : Nat, TT_X5_ripple_3 p l e s m args below meth c Qm G (wl_X5_ripple_3 Q n) := by
  intro n
  induction n with
  | zero => intro x1 x2 x3 x4 x5 σ H locs ls w hl ix1 ix2 ix3 ix4 ix5 h; exact h.elim
  | succ n ih => exact tw_X5_ripple_3 C hret ih
set_option maxRecDepth 100000 in
set_option maxHeartbeats 4000000 in
theorem tw_X5_ripple_0 (C : fb_C p s m args meth c G RX5 cX5_ripple 7) (hret : fb_RV p l e rm_X5_ripple s m args below meth c G cX5_ripple Qm Q) : TT_X5_ripple_0 p l e s m args below meth c Qm G (fun x1 x2 x3 x4 σ => wp_X5_ripple x1 x2 x3 x4 σ Q) := by
  intro x1 x2 x3 x4 σ H locs ls w hl ix1 ix2 ix3 ix4 h
  unfold wp_X5_ripple at h
  refine fb_iconst C dX5_ripple_0 ?_
  refine lv_istore (lv' := [(5, .int (fb_I 0)), (0, .ref (fb_ad G 1)), (1, .int (fb_I x1)), (2, .int (fb_I x2)), (3, .int (fb_I x3)), (4, .int (fb_I x4))]) C.1.1 C.1.2.1 dX5_ripple_1 hl (by decide) rfl (fun ls hl => ?_)
  obtain ⟨n, h⟩ := h
  exact tl_X5_ripple_3 C hret n x1 x2 x3 x4 0 _ _ _ _ w (lv_sub hl [1, 2, 3, 4, 5, 0] rfl) ix1 ix2 ix3 ix4 (by decide) h
theorem ct_X5_ripple (l : Launch) (G : fb_G) {x1 : Int} {x2 : Int} {x3 : Int} {x4 : Int} {σ : fb_St} (ix1 : fb_in x1) (ix2 : fb_in x2) (ix3 : fb_in x3) (ix4 : fb_in x4) (h : wp_X5_ripple x1 x2 x3 x4 σ Q) : fb_MV l G yX5_ripple cX5_ripple 7 rm_X5_ripple [.ref (fb_ad G 1), .int (fb_I x1), .int (fb_I x2), .int (fb_I x3), .int (fb_I x4)] σ Q := by
  refine fb_ofW (own := RX5) (by decide) (Nat.le_of_ble_eq_true rfl) rfl (fun p e s m args below meth c ls C hr hl w => ?_)
  exact tw_X5_ripple_0 C (fb_retv C hr) _ _ _ _ _ _ _ _ w hl ix1 ix2 ix3 ix4 h
end S_X5_ripple
section S_X6_wave
variable {p : Program} {l : Launch} {e : Env} {s : State} {m : MethodId} {args : Array Value} {below : List Frame} {meth : Method} {c : Code} {Qm : State → Prop} {G : fb_G} {Q : Int → fb_St → Prop}
abbrev TT_X6_wave_53 (p : Program) (l : Launch) (e : Env) (s : State) (m : MethodId) (args : Array Value) (below : List Frame) (meth : Method) (c : Code) (Qm : State → Prop) (G : fb_G) (r : fb_St → Prop) : Prop := ∀ (σ : fb_St) (H : Heap) (locs : List Loc) (ls : Array Slot), fb_Wd G s σ H locs → lv_has ls 6 [] → r σ → W p l e rm_X6_wave s m args below meth c H locs 0 0 Qm (F0 m 53 ls [])
abbrev TT_X6_wave_35 (p : Program) (l : Launch) (e : Env) (s : State) (m : MethodId) (args : Array Value) (below : List Frame) (meth : Method) (c : Code) (Qm : State → Prop) (G : fb_G) (r : Int → Int → Int → Int → Int → fb_St → Prop) : Prop := ∀ (x1 x2 x3 x4 s0 : Int) (σ : fb_St) (H : Heap) (locs : List Loc) (ls : Array Slot), fb_Wd G s σ H locs → lv_has ls 6 [(0, .ref (fb_ad G 0)), (1, .int (fb_I x1)), (2, .int (fb_I x2)), (3, .int (fb_I x3)), (4, .int (fb_I x4))] → fb_in x1 → fb_in x2 → fb_in x3 → fb_in x4 → fb_in s0 → r x1 x2 x3 x4 s0 σ → W p l e rm_X6_wave s m args below meth c H locs 0 0 Qm (F0 m 35 ls [.int (fb_I s0)])
abbrev TT_X6_wave_34 (p : Program) (l : Launch) (e : Env) (s : State) (m : MethodId) (args : Array Value) (below : List Frame) (meth : Method) (c : Code) (Qm : State → Prop) (G : fb_G) (r : Int → Int → Int → Int → fb_St → Prop) : Prop := ∀ (x1 x2 x3 x4 : Int) (σ : fb_St) (H : Heap) (locs : List Loc) (ls : Array Slot), fb_Wd G s σ H locs → lv_has ls 6 [(0, .ref (fb_ad G 0)), (1, .int (fb_I x1)), (2, .int (fb_I x2)), (3, .int (fb_I x3)), (4, .int (fb_I x4))] → fb_in x1 → fb_in x2 → fb_in x3 → fb_in x4 → r x1 x2 x3 x4 σ → W p l e rm_X6_wave s m args below meth c H locs 0 0 Qm (F0 m 34 ls [])
abbrev TT_X6_wave_0 (p : Program) (l : Launch) (e : Env) (s : State) (m : MethodId) (args : Array Value) (below : List Frame) (meth : Method) (c : Code) (Qm : State → Prop) (G : fb_G) (r : Int → Int → Int → Int → fb_St → Prop) : Prop := ∀ (x1 x2 x3 x4 : Int) (σ : fb_St) (H : Heap) (locs : List Loc) (ls : Array Slot), fb_Wd G s σ H locs → lv_has ls 6 [(0, .ref (fb_ad G 0)), (1, .int (fb_I x1)), (2, .int (fb_I x2)), (3, .int (fb_I x3)), (4, .int (fb_I x4))] → fb_in x1 → fb_in x2 → fb_in x3 → fb_in x4 → r x1 x2 x3 x4 σ → W p l e rm_X6_wave s m args below meth c H locs 0 0 Qm (F0 m 0 ls [])
set_option maxRecDepth 100000 in
set_option maxHeartbeats 4000000 in
theorem tw_X6_wave_53 (C : fb_C p s m args meth c G RX6 cX6_wave 6) (hret : fb_RI p l e rm_X6_wave s m args below meth c G cX6_wave Qm Q) : TT_X6_wave_53 p l e s m args below meth c Qm G (wj_X6_wave_53 Q) := by
  intro σ H locs ls w hl h
  unfold wj_X6_wave_53 at h
  refine fb_bipush C dX6_wave_53 (by decide) ?_
  exact hret _ _ _ _ _ _ (by decide) h w dX6_wave_55
set_option maxRecDepth 100000 in
set_option maxHeartbeats 4000000 in
theorem tw_X6_wave_35 (C : fb_C p s m args meth c G RX6 cX6_wave 6) (hret : fb_RI p l e rm_X6_wave s m args below meth c G cX6_wave Qm Q) : TT_X6_wave_35 p l e s m args below meth c Qm G (wj_X6_wave_35 Q) := by
  intro x1 x2 x3 x4 s0 σ H locs ls w hl ix1 ix2 ix3 ix4 is0 h
  unfold wj_X6_wave_35 at h
  refine lv_istore (lv' := [(5, .int (fb_I s0)), (0, .ref (fb_ad G 0)), (1, .int (fb_I x1)), (2, .int (fb_I x2)), (3, .int (fb_I x3)), (4, .int (fb_I x4))]) C.1.1 C.1.2.1 dX6_wave_35 hl (by decide) rfl (fun ls hl => ?_)
  refine lv_iload C.1.1 C.1.2.1 dX6_wave_37 (lv_at hl 0 rfl) ?_
  refine fb_if_eq (tgt := 53) C is0 dX6_wave_39 (by decide) (fun c7 => ?_) (fun c7 => ?_)
  · have h := h.1 c7
    exact tw_X6_wave_53 C hret _ _ _ _ w (lv_sub hl [] rfl) h
  · have h := h.2 c7
    refine lv_iload C.1.1 C.1.2.1 dX6_wave_42 (lv_at hl 5 rfl) ?_
    refine fb_iconst C dX6_wave_44 ?_
    refine fb_bipush C dX6_wave_45 (by decide) ?_
    refine fb_callSi (As := [.int (fb_I x4), .int (fb_I 1), .int (fb_I 100)]) (rest := []) C w (ct_X6_within l G ix4 (by decide) (by decide) h) ms_X6_68 ⟨rfl, rfl, Nat.le_of_ble_eq_true rfl, Nat.le_of_ble_eq_true rfl, Nat.zero_le _, Nat.zero_le _⟩ rfl hl.1 rfl (Nat.le_of_ble_eq_true rfl) dX6_wave_47 (fun a8 σ8 H locs h ia8 w => ?_)
    refine fb_if_ne (tgt := 56) C ia8 dX6_wave_50 (by decide) (fun c9 => ?_) (fun c9 => ?_)
    · have h := h.2 c9
      refine lv_aload_n C.1.1 C.1.2.1 dX6_wave_56 rfl (lv_at hl 1 rfl) ?_
      refine fb_getr (k2 := 1) C w (fb_k0 C) rfl fl_X6_10 dX6_wave_57 ?_
      refine lv_iload_n C.1.1 C.1.2.1 dX6_wave_60 rfl (lv_at hl 2 rfl) ?_
      refine lv_iload_n C.1.1 C.1.2.1 dX6_wave_61 rfl (lv_at hl 3 rfl) ?_
      refine lv_iload_n C.1.1 C.1.2.1 dX6_wave_62 rfl (lv_at hl 4 rfl) ?_
      refine lv_iload C.1.1 C.1.2.1 dX6_wave_63 (lv_at hl 5 rfl) ?_
      refine fb_callVv (As := [.int (fb_I x1), .int (fb_I x2), .int (fb_I x3), .int (fb_I x4)]) (rest := []) C w (ct_X5_ripple l G ix1 ix2 ix3 ix4 h) mv_X6_79 (fb_k1 C) rfl ⟨rfl, rfl, Nat.le_of_ble_eq_true rfl, Nat.le_of_ble_eq_true rfl, Nat.zero_le _, Nat.zero_le _⟩ rfl hl.1 rfl (Nat.le_of_ble_eq_true rfl) dX6_wave_65 (fun σ10 H locs h w => ?_)
      refine lv_aload_n C.1.1 C.1.2.1 dX6_wave_68 rfl (lv_at hl 1 rfl) ?_
      refine fb_callVi (As := []) (rest := []) C w (ct_X6_pitsAfterChange l G h) mv_X6_75 (fb_k0 C) rfl ⟨rfl, rfl, Nat.le_of_ble_eq_true rfl, Nat.le_of_ble_eq_true rfl, Nat.zero_le _, Nat.zero_le _⟩ rfl hl.1 rfl (Nat.le_of_ble_eq_true rfl) dX6_wave_69 (fun a11 σ11 H locs h ia11 w => ?_)
      exact hret _ _ _ _ _ _ ia11 h w dX6_wave_72
    · have h := h.1 c9
      exact tw_X6_wave_53 C hret _ _ _ _ w (lv_sub hl [] rfl) h
set_option maxRecDepth 100000 in
set_option maxHeartbeats 4000000 in
theorem tw_X6_wave_34 (C : fb_C p s m args meth c G RX6 cX6_wave 6) (hret : fb_RI p l e rm_X6_wave s m args below meth c G cX6_wave Qm Q) : TT_X6_wave_34 p l e s m args below meth c Qm G (wj_X6_wave_34 Q) := by
  intro x1 x2 x3 x4 σ H locs ls w hl ix1 ix2 ix3 ix4 h
  unfold wj_X6_wave_34 at h
  refine fb_iconst C dX6_wave_34 ?_
  exact tw_X6_wave_35 C hret x1 x2 x3 x4 0 _ _ _ _ w (lv_sub hl [0, 1, 2, 3, 4] rfl) ix1 ix2 ix3 ix4 (by decide) h
set_option maxRecDepth 100000 in
set_option maxHeartbeats 4000000 in
theorem tw_X6_wave_0 (C : fb_C p s m args meth c G RX6 cX6_wave 6) (hret : fb_RI p l e rm_X6_wave s m args below meth c G cX6_wave Qm Q) : TT_X6_wave_0 p l e s m args below meth c Qm G (fun x1 x2 x3 x4 σ => wp_X6_wave x1 x2 x3 x4 σ Q) := by
  intro x1 x2 x3 x4 σ H locs ls w hl ix1 ix2 ix3 ix4 h
  unfold wp_X6_wave at h
  refine lv_iload_n C.1.1 C.1.2.1 dX6_wave_0 rfl (lv_at hl 1 rfl) ?_
  refine fb_iconst C dX6_wave_1 ?_
  refine fb_bipush C dX6_wave_2 (by decide) ?_
  refine fb_callSi (As := [.int (fb_I x1), .int (fb_I 0), .int (fb_I 50)]) (rest := []) C w (ct_X6_within l G ix1 (by decide) (by decide) h) ms_X6_68 ⟨rfl, rfl, Nat.le_of_ble_eq_true rfl, Nat.le_of_ble_eq_true rfl, Nat.zero_le _, Nat.zero_le _⟩ rfl hl.1 rfl (Nat.le_of_ble_eq_true rfl) dX6_wave_4 (fun a1 σ1 H locs h ia1 w => ?_)
  refine fb_if_eq (tgt := 34) C ia1 dX6_wave_7 (by decide) (fun c2 => ?_) (fun c2 => ?_)
  · have h := h.1 c2
    exact tw_X6_wave_34 C hret x1 x2 x3 x4 _ _ _ _ w (lv_sub hl [0, 1, 2, 3, 4] rfl) ix1 ix2 ix3 ix4 h
  · have h := h.2 c2
    refine lv_iload_n C.1.1 C.1.2.1 dX6_wave_10 rfl (lv_at hl 2 rfl) ?_
    refine fb_iconst C dX6_wave_11 ?_
    refine fb_bipush C dX6_wave_12 (by decide) ?_
    refine fb_callSi (As := [.int (fb_I x2), .int (fb_I 0), .int (fb_I 50)]) (rest := []) C w (ct_X6_within l G ix2 (by decide) (by decide) h) ms_X6_68 ⟨rfl, rfl, Nat.le_of_ble_eq_true rfl, Nat.le_of_ble_eq_true rfl, Nat.zero_le _, Nat.zero_le _⟩ rfl hl.1 rfl (Nat.le_of_ble_eq_true rfl) dX6_wave_14 (fun a3 σ3 H locs h ia3 w => ?_)
    refine fb_if_eq (tgt := 34) C ia3 dX6_wave_17 (by decide) (fun c4 => ?_) (fun c4 => ?_)
    · have h := h.1 c4
      exact tw_X6_wave_34 C hret x1 x2 x3 x4 _ _ _ _ w (lv_sub hl [0, 1, 2, 3, 4] rfl) ix1 ix2 ix3 ix4 h
    · have h := h.2 c4
      refine lv_iload_n C.1.1 C.1.2.1 dX6_wave_20 rfl (lv_at hl 3 rfl) ?_
      refine fb_iconst C dX6_wave_21 ?_
      refine fb_bipush C dX6_wave_22 (by decide) ?_
      refine fb_callSi (As := [.int (fb_I x3), .int (fb_I 0), .int (fb_I 50)]) (rest := []) C w (ct_X6_within l G ix3 (by decide) (by decide) h) ms_X6_68 ⟨rfl, rfl, Nat.le_of_ble_eq_true rfl, Nat.le_of_ble_eq_true rfl, Nat.zero_le _, Nat.zero_le _⟩ rfl hl.1 rfl (Nat.le_of_ble_eq_true rfl) dX6_wave_24 (fun a5 σ5 H locs h ia5 w => ?_)
      refine fb_if_eq (tgt := 34) C ia5 dX6_wave_27 (by decide) (fun c6 => ?_) (fun c6 => ?_)
      · have h := h.1 c6
        exact tw_X6_wave_34 C hret x1 x2 x3 x4 _ _ _ _ w (lv_sub hl [0, 1, 2, 3, 4] rfl) ix1 ix2 ix3 ix4 h
      · have h := h.2 c6
        refine fb_iconst C dX6_wave_30 ?_
        refine lv_goto (tgt := 35) C.1.1 C.1.2.1 dX6_wave_31 (by decide) ?_
        exact tw_X6_wave_35 C hret x1 x2 x3 x4 1 _ _ _ _ w (lv_sub hl [0, 1, 2, 3, 4] rfl) ix1 ix2 ix3 ix4 (by decide) h
theorem ct_X6_wave (l : Launch) (G : fb_G) {x1 : Int} {x2 : Int} {x3 : Int} {x4 : Int} {σ : fb_St} (ix1 : fb_in x1) (ix2 : fb_in x2) (ix3 : fb_in x3) (ix4 : fb_in x4) (h : wp_X6_wave x1 x2 x3 x4 σ Q) : fb_MI l G yX6_wave cX6_wave 6 (some .int) rm_X6_wave [.ref (fb_ad G 0), .int (fb_I x1), .int (fb_I x2), .int (fb_I x3), .int (fb_I x4)] σ Q := by
  refine fb_ofW (own := RX6) (by decide) (Nat.le_of_ble_eq_true rfl) rfl (fun p e s m args below meth c ls C hr hl w => ?_)
  exact tw_X6_wave_0 C (fb_reti C hr) _ _ _ _ _ _ _ _ w hl ix1 ix2 ix3 ix4 h
end S_X6_wave
section S_X5_raise
variable {p : Program} {l : Launch} {e : Env} {s : State} {m : MethodId} {args : Array Value} {below : List Frame} {meth : Method} {c : Code} {Qm : State → Prop} {G : fb_G} {Q : Int → fb_St → Prop}
abbrev TT_X5_raise_96 (p : Program) (l : Launch) (e : Env) (s : State) (m : MethodId) (args : Array Value) (below : List Frame) (meth : Method) (c : Code) (Qm : State → Prop) (G : fb_G) (r : Int → Int → Int → Int → Int → Int → Int → Int → fb_St → Prop) : Prop := ∀ (x1 x2 x3 x4 x5 x6 x9 s0 : Int) (σ : fb_St) (H : Heap) (locs : List Loc) (ls : Array Slot), fb_Wd G s σ H locs → lv_has ls 11 [(0, .ref (fb_ad G 1)), (1, .int (fb_I x1)), (2, .int (fb_I x2)), (3, .int (fb_I x3)), (4, .int (fb_I x4)), (5, .int (fb_I x5)), (6, .int (fb_I x6)), (9, .int (fb_I x9))] → fb_in x1 → fb_in x2 → fb_in x3 → fb_in x4 → fb_in x5 → fb_in x6 → fb_in x9 → fb_in s0 → r x1 x2 x3 x4 x5 x6 x9 s0 σ → W p l e rm_X5_raise s m args below meth c H locs 0 0 Qm (F0 m 96 ls [.int (fb_I s0)])
abbrev TT_X5_raise_15 (p : Program) (l : Launch) (e : Env) (s : State) (m : MethodId) (args : Array Value) (below : List Frame) (meth : Method) (c : Code) (Qm : State → Prop) (G : fb_G) (r : Int → Int → Int → Int → Int → Int → fb_St → Prop) : Prop := ∀ (x1 x2 x3 x4 x5 x6 : Int) (σ : fb_St) (H : Heap) (locs : List Loc) (ls : Array Slot), fb_Wd G s σ H locs → lv_has ls 11 [(0, .ref (fb_ad G 1)), (1, .int (fb_I x1)), (2, .int (fb_I x2)), (3, .int (fb_I x3)), (4, .int (fb_I x4)), (5, .int (fb_I x5)), (6, .int (fb_I x6))] → fb_in x1 → fb_in x2 → fb_in x3 → fb_in x4 → fb_in x5 → fb_in x6 → r x1 x2 x3 x4 x5 x6 σ → W p l e rm_X5_raise s m args below meth c H locs 0 0 Qm (F0 m 15 ls [])
abbrev TT_X5_raise_3 (p : Program) (l : Launch) (e : Env) (s : State) (m : MethodId) (args : Array Value) (below : List Frame) (meth : Method) (c : Code) (Qm : State → Prop) (G : fb_G) (r : Int → Int → Int → Int → Int → fb_St → Prop) : Prop := ∀ (x1 x2 x3 x4 x5 : Int) (σ : fb_St) (H : Heap) (locs : List Loc) (ls : Array Slot), fb_Wd G s σ H locs → lv_has ls 11 [(0, .ref (fb_ad G 1)), (1, .int (fb_I x1)), (2, .int (fb_I x2)), (3, .int (fb_I x3)), (4, .int (fb_I x4)), (5, .int (fb_I x5))] → fb_in x1 → fb_in x2 → fb_in x3 → fb_in x4 → fb_in x5 → r x1 x2 x3 x4 x5 σ → W p l e rm_X5_raise s m args below meth c H locs 0 0 Qm (F0 m 3 ls [])
abbrev TT_X5_raise_0 (p : Program) (l : Launch) (e : Env) (s : State) (m : MethodId) (args : Array Value) (below : List Frame) (meth : Method) (c : Code) (Qm : State → Prop) (G : fb_G) (r : Int → Int → Int → Int → fb_St → Prop) : Prop := ∀ (x1 x2 x3 x4 : Int) (σ : fb_St) (H : Heap) (locs : List Loc) (ls : Array Slot), fb_Wd G s σ H locs → lv_has ls 11 [(0, .ref (fb_ad G 1)), (1, .int (fb_I x1)), (2, .int (fb_I x2)), (3, .int (fb_I x3)), (4, .int (fb_I x4))] → fb_in x1 → fb_in x2 → fb_in x3 → fb_in x4 → r x1 x2 x3 x4 σ → W p l e rm_X5_raise s m args below meth c H locs 0 0 Qm (F0 m 0 ls [])
set_option maxRecDepth 100000 in
set_option maxHeartbeats 4000000 in
theorem tw_X5_raise_96 (C : fb_C p s m args meth c G RX5 cX5_raise 11) (hret : fb_RV p l e rm_X5_raise s m args below meth c G cX5_raise Qm Q) {r3 : Int → Int → Int → Int → Int → fb_St → Prop} (h3 : TT_X5_raise_3 p l e s m args below meth c Qm G r3) {r15 : Int → Int → Int → Int → Int → Int → fb_St → Prop} (h15 : TT_X5_raise_15 p l e s m args below meth c Qm G r15) : TT_X5_raise_96 p l e s m args below meth c Qm G (wj_X5_raise_96 r3 r15 Q) := by
  intro x1 x2 x3 x4 x5 x6 x9 s0 σ H locs ls w hl ix1 ix2 ix3 ix4 ix5 ix6 ix9 is0 h
  unfold wj_X5_raise_96 at h
  refine lv_istore (lv' := [(10, .int (fb_I s0)), (0, .ref (fb_ad G 1)), (1, .int (fb_I x1)), (2, .int (fb_I x2)), (3, .int (fb_I x3)), (4, .int (fb_I x4)), (5, .int (fb_I x5)), (6, .int (fb_I x6)), (9, .int (fb_I x9))]) C.1.1 C.1.2.1 dX5_raise_96 hl (by decide) rfl (fun ls hl => ?_)
  refine lv_aload_n C.1.1 C.1.2.1 dX5_raise_98 rfl (lv_at hl 1 rfl) ?_
  refine fb_getr (k2 := 2) C w (fb_k1 C) rfl fl_X5_21 dX5_raise_99 ?_
  refine lv_iload C.1.1 C.1.2.1 dX5_raise_102 (lv_at hl 8 rfl) ?_
  refine lv_iload C.1.1 C.1.2.1 dX5_raise_104 (lv_at hl 0 rfl) ?_
  refine fb_iconst C dX5_raise_106 ?_
  refine fb_mmax C is0 (by decide) ml_X5_51 ⟨Nat.le_of_ble_eq_true rfl, Nat.le_of_ble_eq_true rfl, Nat.zero_le _, Nat.zero_le _⟩ hl.1 dX5_raise_107 ?_
  refine fb_bipush C dX5_raise_110 (by decide) ?_
  refine fb_mmin C (fb_in_max is0 (by decide)) (by decide) ml_X5_54 ⟨Nat.le_of_ble_eq_true rfl, Nat.le_of_ble_eq_true rfl, Nat.zero_le _, Nat.zero_le _⟩ hl.1 dX5_raise_112 ?_
  obtain ⟨z29, z30, h⟩ := h
  refine fb_as C w 144 (fb_k2 C) rfl rfl (fb_in_min (fb_in_max is0 (by decide)) (by decide)) z29 z30 dX5_raise_115 (fun σ31 H locs eσ31 w => ?_)
  have h := h σ31 eσ31
  obtain ⟨i32, h⟩ := h
  refine fb_iinc (b := x6 + 1) (k := 7) (lv' := [(6, .int (fb_I (x6 + 1))), (10, .int (fb_I s0)), (0, .ref (fb_ad G 1)), (1, .int (fb_I x1)), (2, .int (fb_I x2)), (3, .int (fb_I x3)), (4, .int (fb_I x4)), (5, .int (fb_I x5)), (9, .int (fb_I x9))]) C dX5_raise_116 hl rfl rfl (by decide) rfl (fun ls hl => ?_)
  refine lv_goto (tgt := 15) C.1.1 C.1.2.1 dX5_raise_119 (by decide) ?_
  exact h15 x1 x2 x3 x4 x5 (x6 + 1) _ _ _ _ w (lv_sub hl [2, 3, 4, 5, 6, 7, 0] rfl) ix1 ix2 ix3 ix4 ix5 i32 h
set_option maxRecDepth 100000 in
set_option maxHeartbeats 4000000 in
theorem tw_X5_raise_15 (C : fb_C p s m args meth c G RX5 cX5_raise 11) (hret : fb_RV p l e rm_X5_raise s m args below meth c G cX5_raise Qm Q) {r3 : Int → Int → Int → Int → Int → fb_St → Prop} (h3 : TT_X5_raise_3 p l e s m args below meth c Qm G r3) {r15 : Int → Int → Int → Int → Int → Int → fb_St → Prop} (h15 : TT_X5_raise_15 p l e s m args below meth c Qm G r15) : TT_X5_raise_15 p l e s m args below meth c Qm G (wb_X5_raise_15 r3 r15 Q) := by
  intro x1 x2 x3 x4 x5 x6 σ H locs ls w hl ix1 ix2 ix3 ix4 ix5 ix6 h
  unfold wb_X5_raise_15 at h
  refine lv_iload C.1.1 C.1.2.1 dX5_raise_15 (lv_at hl 6 rfl) ?_
  refine lv_aload_n C.1.1 C.1.2.1 dX5_raise_17 rfl (lv_at hl 0 rfl) ?_
  refine fb_gi C w 0 (fb_k1 C) rfl rfl fl_X5_9 dX5_raise_18 ?_
  have i3 := w.2.2.2 1 0
  refine fb_icmp_ge (tgt := 122) C ix6 i3 dX5_raise_21 (by decide) (fun c4 => ?_) (fun c4 => ?_)
  · have h := h.2 c4
    obtain ⟨i5, h⟩ := h
    refine fb_iinc (b := x5 + 1) (k := 5) (lv' := [(5, .int (fb_I (x5 + 1))), (0, .ref (fb_ad G 1)), (1, .int (fb_I x1)), (2, .int (fb_I x2)), (3, .int (fb_I x3)), (4, .int (fb_I x4)), (6, .int (fb_I x6))]) C dX5_raise_122 hl rfl rfl (by decide) rfl (fun ls hl => ?_)
    refine lv_goto (tgt := 3) C.1.1 C.1.2.1 dX5_raise_125 (by decide) ?_
    exact h3 x1 x2 x3 x4 (x5 + 1) _ _ _ _ w (lv_sub hl [1, 2, 3, 4, 5, 0] rfl) ix1 ix2 ix3 ix4 i5 h
  · have h := h.1 c4
    refine lv_iload C.1.1 C.1.2.1 dX5_raise_24 (lv_at hl 6 rfl) ?_
    refine lv_iload_n C.1.1 C.1.2.1 dX5_raise_26 rfl (lv_at hl 1 rfl) ?_
    obtain ⟨i6, h⟩ := h
    refine fb_isub C dX5_raise_27 ?_
    obtain ⟨i7, h⟩ := h
    refine fb_mabs C i6 ml_X5_45 ⟨Nat.le_of_ble_eq_true rfl, Nat.le_of_ble_eq_true rfl, Nat.zero_le _, Nat.zero_le _⟩ hl.1 dX5_raise_28 ?_
    refine lv_iload C.1.1 C.1.2.1 dX5_raise_31 (lv_at hl 5 rfl) ?_
    refine lv_iload_n C.1.1 C.1.2.1 dX5_raise_33 rfl (lv_at hl 2 rfl) ?_
    obtain ⟨i8, h⟩ := h
    refine fb_isub C dX5_raise_34 ?_
    obtain ⟨i9, h⟩ := h
    refine fb_mabs C i8 ml_X5_45 ⟨Nat.le_of_ble_eq_true rfl, Nat.le_of_ble_eq_true rfl, Nat.zero_le _, Nat.zero_le _⟩ hl.1 dX5_raise_35 ?_
    obtain ⟨i10, h⟩ := h
    refine fb_iadd C dX5_raise_38 ?_
    refine fb_top (fun v11 ev11 => ?_)
    have h := h v11 ev11
    have iv11 := fb_ie ev11 i10
    refine lv_istore (lv' := [(7, .int (fb_I v11)), (0, .ref (fb_ad G 1)), (1, .int (fb_I x1)), (2, .int (fb_I x2)), (3, .int (fb_I x3)), (4, .int (fb_I x4)), (5, .int (fb_I x5)), (6, .int (fb_I x6))]) C.1.1 C.1.2.1 dX5_raise_39 hl (by decide) rfl (fun ls hl => ?_)
    refine lv_iload_n C.1.1 C.1.2.1 dX5_raise_41 rfl (lv_at hl 4 rfl) ?_
    obtain ⟨i12, h⟩ := h
    refine fb_mabs C ix3 ml_X5_45 ⟨Nat.le_of_ble_eq_true rfl, Nat.le_of_ble_eq_true rfl, Nat.zero_le _, Nat.zero_le _⟩ hl.1 dX5_raise_42 ?_
    refine lv_iload C.1.1 C.1.2.1 dX5_raise_45 (lv_at hl 5 rfl) ?_
    refine lv_iload C.1.1 C.1.2.1 dX5_raise_47 (lv_at hl 0 rfl) ?_
    obtain ⟨i13, h⟩ := h
    refine fb_imul C dX5_raise_49 ?_
    obtain ⟨i14, h⟩ := h
    refine fb_isub C dX5_raise_50 ?_
    refine fb_iconst C dX5_raise_51 ?_
    refine fb_mmax C i14 (by decide) ml_X5_51 ⟨Nat.le_of_ble_eq_true rfl, Nat.le_of_ble_eq_true rfl, Nat.zero_le _, Nat.zero_le _⟩ hl.1 dX5_raise_52 ?_
    refine fb_top (fun v15 ev15 => ?_)
    have h := h v15 ev15
    have iv15 := fb_ie ev15 (fb_in_max i14 (by decide))
    refine lv_istore (lv' := [(8, .int (fb_I v15)), (7, .int (fb_I v11)), (0, .ref (fb_ad G 1)), (1, .int (fb_I x1)), (2, .int (fb_I x2)), (3, .int (fb_I x3)), (4, .int (fb_I x4)), (5, .int (fb_I x5)), (6, .int (fb_I x6))]) C.1.1 C.1.2.1 dX5_raise_55 hl (by decide) rfl (fun ls hl => ?_)
    refine lv_iload C.1.1 C.1.2.1 dX5_raise_57 (lv_at hl 7 rfl) ?_
    refine lv_aload_n C.1.1 C.1.2.1 dX5_raise_59 rfl (lv_at hl 2 rfl) ?_
    refine fb_gi C w 0 (fb_k1 C) rfl rfl fl_X5_9 dX5_raise_60 ?_
    have i16 := w.2.2.2 1 0
    obtain ⟨i17, h⟩ := h
    refine fb_imul C dX5_raise_63 ?_
    refine lv_iload C.1.1 C.1.2.1 dX5_raise_64 (lv_at hl 8 rfl) ?_
    obtain ⟨i18, h⟩ := h
    refine fb_iadd C dX5_raise_66 ?_
    refine fb_top (fun v19 ev19 => ?_)
    have h := h v19 ev19
    have iv19 := fb_ie ev19 i18
    refine lv_istore (lv' := [(9, .int (fb_I v19)), (8, .int (fb_I v15)), (7, .int (fb_I v11)), (0, .ref (fb_ad G 1)), (1, .int (fb_I x1)), (2, .int (fb_I x2)), (3, .int (fb_I x3)), (4, .int (fb_I x4)), (5, .int (fb_I x5)), (6, .int (fb_I x6))]) C.1.1 C.1.2.1 dX5_raise_67 hl (by decide) rfl (fun ls hl => ?_)
    refine lv_iload_n C.1.1 C.1.2.1 dX5_raise_69 rfl (lv_at hl 6 rfl) ?_
    refine fb_if_ge (tgt := 86) C ix3 dX5_raise_70 (by decide) (fun c20 => ?_) (fun c20 => ?_)
    · have h := h.2 c20
      refine lv_aload_n C.1.1 C.1.2.1 dX5_raise_86 rfl (lv_at hl 3 rfl) ?_
      refine fb_getr (k2 := 2) C w (fb_k1 C) rfl fl_X5_21 dX5_raise_87 ?_
      refine lv_iload C.1.1 C.1.2.1 dX5_raise_90 (lv_at hl 0 rfl) ?_
      obtain ⟨z21, z22, h⟩ := h
      refine fb_al C w 144 (fb_k2 C) rfl rfl z21 z22 dX5_raise_92 ?_
      have i23 := w.2.2.2 2 v19
      refine lv_iload C.1.1 C.1.2.1 dX5_raise_93 (lv_at hl 1 rfl) ?_
      obtain ⟨i24, h⟩ := h
      refine fb_iadd C dX5_raise_95 ?_
      exact tw_X5_raise_96 C hret h3 h15 x1 x2 x3 x4 x5 x6 v19 ((σ 2 v19) + v15) _ _ _ _ w (lv_sub hl [3, 4, 5, 6, 7, 8, 9, 0] rfl) ix1 ix2 ix3 ix4 ix5 ix6 iv19 i24 h
    · have h := h.1 c20
      refine lv_aload_n C.1.1 C.1.2.1 dX5_raise_73 rfl (lv_at hl 3 rfl) ?_
      refine fb_getr (k2 := 2) C w (fb_k1 C) rfl fl_X5_21 dX5_raise_74 ?_
      refine lv_iload C.1.1 C.1.2.1 dX5_raise_77 (lv_at hl 0 rfl) ?_
      obtain ⟨z25, z26, h⟩ := h
      refine fb_al C w 144 (fb_k2 C) rfl rfl z25 z26 dX5_raise_79 ?_
      have i27 := w.2.2.2 2 v19
      refine lv_iload C.1.1 C.1.2.1 dX5_raise_80 (lv_at hl 1 rfl) ?_
      obtain ⟨i28, h⟩ := h
      refine fb_isub C dX5_raise_82 ?_
      refine lv_goto (tgt := 96) C.1.1 C.1.2.1 dX5_raise_83 (by decide) ?_
      exact tw_X5_raise_96 C hret h3 h15 x1 x2 x3 x4 x5 x6 v19 ((σ 2 v19) - v15) _ _ _ _ w (lv_sub hl [3, 4, 5, 6, 7, 8, 9, 0] rfl) ix1 ix2 ix3 ix4 ix5 ix6 iv19 i28 h
theorem tl_X5_raise_15 (C : fb_C p s m args meth c G RX5 cX5_raise 11) (hret : fb_RV p l e rm_X5_raise s m args below meth c G cX5_raise Qm Q) {r3 : Int → Int → Int → Int → Int → fb_St → Prop} (h3 : TT_X5_raise_3 p l e s m args below meth c Qm G r3) : ∀ n : Nat, TT_X5_raise_15 p l e s m args below meth c Qm G (wl_X5_raise_15 r3 Q n) := by
  intro n
  induction n with
  | zero => intro x1 x2 x3 x4 x5 x6 σ H locs ls w hl ix1 ix2 ix3 ix4 ix5 ix6 h; exact h.elim
  | succ n ih => exact tw_X5_raise_15 C hret h3 ih
set_option maxRecDepth 100000 in
set_option maxHeartbeats 4000000 in
theorem tw_X5_raise_3 (C : fb_C p s m args meth c G RX5 cX5_raise 11) (hret : fb_RV p l e rm_X5_raise s m args below meth c G cX5_raise Qm Q) {r3 : Int → Int → Int → Int → Int → fb_St → Prop} (h3 : TT_X5_raise_3 p l e s m args below meth c Qm G r3) : TT_X5_raise_3 p l e s m args below meth c Qm G (wb_X5_raise_3 r3 Q) := by
  intro x1 x2 x3 x4 x5 σ H locs ls w hl ix1 ix2 ix3 ix4 ix5 h
  unfold wb_X5_raise_3 at h
  refine lv_iload C.1.1 C.1.2.1 dX5_raise_3 (lv_at hl 5 rfl) ?_
  refine lv_aload_n C.1.1 C.1.2.1 dX5_raise_5 rfl (lv_at hl 0 rfl) ?_
  refine fb_gi C w 1 (fb_k1 C) rfl rfl fl_X5_15 dX5_raise_6 ?_
  have i1 := w.2.2.2 1 1
  refine fb_icmp_ge (tgt := 128) C ix5 i1 dX5_raise_9 (by decide) (fun c2 => ?_) (fun c2 => ?_)
  · have h := h.2 c2
    exact hret _ _ _ _ _ h w dX5_raise_128
  · have h := h.1 c2
    refine fb_iconst C dX5_raise_12 ?_
    refine lv_istore (lv' := [(6, .int (fb_I 0)), (0, .ref (fb_ad G 1)), (1, .int (fb_I x1)), (2, .int (fb_I x2)), (3, .int (fb_I x3)), (4, .int (fb_I x4)), (5, .int (fb_I x5))]) C.1.1 C.1.2.1 dX5_raise_13 hl (by decide) rfl (fun ls hl => ?_)
    obtain ⟨n, h⟩ := h
    exact tl_X5_raise_15 C hret h3 n x1 x2 x3 x4 x5 0 _ _ _ _ w (lv_sub hl [1, 2, 3, 4, 5, 6, 0] rfl) ix1 ix2 ix3 ix4 ix5 (by decide) h
theorem tl_X5_raise_3 (C : fb_C p s m args meth c G RX5 cX5_raise 11) (hret : fb_RV p l e rm_X5_raise s m args below meth c G cX5_raise Qm Q) : ∀ n : Nat, TT_X5_raise_3 p l e s m args below meth c Qm G (wl_X5_raise_3 Q n) := by
  intro n
  induction n with
  | zero => intro x1 x2 x3 x4 x5 σ H locs ls w hl ix1 ix2 ix3 ix4 ix5 h; exact h.elim
  | succ n ih => exact tw_X5_raise_3 C hret ih
set_option maxRecDepth 100000 in
set_option maxHeartbeats 4000000 in
theorem tw_X5_raise_0 (C : fb_C p s m args meth c G RX5 cX5_raise 11) (hret : fb_RV p l e rm_X5_raise s m args below meth c G cX5_raise Qm Q) : TT_X5_raise_0 p l e s m args below meth c Qm G (fun x1 x2 x3 x4 σ => wp_X5_raise x1 x2 x3 x4 σ Q) := by
  intro x1 x2 x3 x4 σ H locs ls w hl ix1 ix2 ix3 ix4 h
  unfold wp_X5_raise at h
  refine fb_iconst C dX5_raise_0 ?_
  refine lv_istore (lv' := [(5, .int (fb_I 0)), (0, .ref (fb_ad G 1)), (1, .int (fb_I x1)), (2, .int (fb_I x2)), (3, .int (fb_I x3)), (4, .int (fb_I x4))]) C.1.1 C.1.2.1 dX5_raise_1 hl (by decide) rfl (fun ls hl => ?_)
  obtain ⟨n, h⟩ := h
  exact tl_X5_raise_3 C hret n x1 x2 x3 x4 0 _ _ _ _ w (lv_sub hl [1, 2, 3, 4, 5, 0] rfl) ix1 ix2 ix3 ix4 (by decide) h
theorem ct_X5_raise (l : Launch) (G : fb_G) {x1 : Int} {x2 : Int} {x3 : Int} {x4 : Int} {σ : fb_St} (ix1 : fb_in x1) (ix2 : fb_in x2) (ix3 : fb_in x3) (ix4 : fb_in x4) (h : wp_X5_raise x1 x2 x3 x4 σ Q) : fb_MV l G yX5_raise cX5_raise 11 rm_X5_raise [.ref (fb_ad G 1), .int (fb_I x1), .int (fb_I x2), .int (fb_I x3), .int (fb_I x4)] σ Q := by
  refine fb_ofW (own := RX5) (by decide) (Nat.le_of_ble_eq_true rfl) rfl (fun p e s m args below meth c ls C hr hl w => ?_)
  exact tw_X5_raise_0 C (fb_retv C hr) _ _ _ _ _ _ _ _ w hl ix1 ix2 ix3 ix4 h
end S_X5_raise
section S_X6_heap
variable {p : Program} {l : Launch} {e : Env} {s : State} {m : MethodId} {args : Array Value} {below : List Frame} {meth : Method} {c : Code} {Qm : State → Prop} {G : fb_G} {Q : Int → fb_St → Prop}
abbrev TT_X6_heap_47 (p : Program) (l : Launch) (e : Env) (s : State) (m : MethodId) (args : Array Value) (below : List Frame) (meth : Method) (c : Code) (Qm : State → Prop) (G : fb_G) (r : fb_St → Prop) : Prop := ∀ (σ : fb_St) (H : Heap) (locs : List Loc) (ls : Array Slot), fb_Wd G s σ H locs → lv_has ls 6 [] → r σ → W p l e rm_X6_heap s m args below meth c H locs 0 0 Qm (F0 m 47 ls [])
abbrev TT_X6_heap_27 (p : Program) (l : Launch) (e : Env) (s : State) (m : MethodId) (args : Array Value) (below : List Frame) (meth : Method) (c : Code) (Qm : State → Prop) (G : fb_G) (r : Int → Int → Int → Int → Int → fb_St → Prop) : Prop := ∀ (x1 x2 x3 x4 s0 : Int) (σ : fb_St) (H : Heap) (locs : List Loc) (ls : Array Slot), fb_Wd G s σ H locs → lv_has ls 6 [(0, .ref (fb_ad G 0)), (1, .int (fb_I x1)), (2, .int (fb_I x2)), (3, .int (fb_I x3)), (4, .int (fb_I x4))] → fb_in x1 → fb_in x2 → fb_in x3 → fb_in x4 → fb_in s0 → r x1 x2 x3 x4 s0 σ → W p l e rm_X6_heap s m args below meth c H locs 0 0 Qm (F0 m 27 ls [.int (fb_I s0)])
abbrev TT_X6_heap_26 (p : Program) (l : Launch) (e : Env) (s : State) (m : MethodId) (args : Array Value) (below : List Frame) (meth : Method) (c : Code) (Qm : State → Prop) (G : fb_G) (r : Int → Int → Int → Int → fb_St → Prop) : Prop := ∀ (x1 x2 x3 x4 : Int) (σ : fb_St) (H : Heap) (locs : List Loc) (ls : Array Slot), fb_Wd G s σ H locs → lv_has ls 6 [(0, .ref (fb_ad G 0)), (1, .int (fb_I x1)), (2, .int (fb_I x2)), (3, .int (fb_I x3)), (4, .int (fb_I x4))] → fb_in x1 → fb_in x2 → fb_in x3 → fb_in x4 → r x1 x2 x3 x4 σ → W p l e rm_X6_heap s m args below meth c H locs 0 0 Qm (F0 m 26 ls [])
abbrev TT_X6_heap_0 (p : Program) (l : Launch) (e : Env) (s : State) (m : MethodId) (args : Array Value) (below : List Frame) (meth : Method) (c : Code) (Qm : State → Prop) (G : fb_G) (r : Int → Int → Int → Int → fb_St → Prop) : Prop := ∀ (x1 x2 x3 x4 : Int) (σ : fb_St) (H : Heap) (locs : List Loc) (ls : Array Slot), fb_Wd G s σ H locs → lv_has ls 6 [(0, .ref (fb_ad G 0)), (1, .int (fb_I x1)), (2, .int (fb_I x2)), (3, .int (fb_I x3)), (4, .int (fb_I x4))] → fb_in x1 → fb_in x2 → fb_in x3 → fb_in x4 → r x1 x2 x3 x4 σ → W p l e rm_X6_heap s m args below meth c H locs 0 0 Qm (F0 m 0 ls [])
set_option maxRecDepth 100000 in
set_option maxHeartbeats 4000000 in
theorem tw_X6_heap_47 (C : fb_C p s m args meth c G RX6 cX6_heap 6) (hret : fb_RI p l e rm_X6_heap s m args below meth c G cX6_heap Qm Q) : TT_X6_heap_47 p l e s m args below meth c Qm G (wj_X6_heap_47 Q) := by
  intro σ H locs ls w hl h
  unfold wj_X6_heap_47 at h
  refine fb_bipush C dX6_heap_47 (by decide) ?_
  exact hret _ _ _ _ _ _ (by decide) h w dX6_heap_49
set_option maxRecDepth 100000 in
set_option maxHeartbeats 4000000 in
theorem tw_X6_heap_27 (C : fb_C p s m args meth c G RX6 cX6_heap 6) (hret : fb_RI p l e rm_X6_heap s m args below meth c G cX6_heap Qm Q) : TT_X6_heap_27 p l e s m args below meth c Qm G (wj_X6_heap_27 Q) := by
  intro x1 x2 x3 x4 s0 σ H locs ls w hl ix1 ix2 ix3 ix4 is0 h
  unfold wj_X6_heap_27 at h
  refine lv_istore (lv' := [(5, .int (fb_I s0)), (0, .ref (fb_ad G 0)), (1, .int (fb_I x1)), (2, .int (fb_I x2)), (3, .int (fb_I x3)), (4, .int (fb_I x4))]) C.1.1 C.1.2.1 dX6_heap_27 hl (by decide) rfl (fun ls hl => ?_)
  refine lv_aload_n C.1.1 C.1.2.1 dX6_heap_29 rfl (lv_at hl 1 rfl) ?_
  refine fb_getr (k2 := 1) C w (fb_k0 C) rfl fl_X6_10 dX6_heap_30 ?_
  refine lv_iload_n C.1.1 C.1.2.1 dX6_heap_33 rfl (lv_at hl 2 rfl) ?_
  refine lv_iload_n C.1.1 C.1.2.1 dX6_heap_34 rfl (lv_at hl 3 rfl) ?_
  refine fb_callVi (As := [.int (fb_I x1), .int (fb_I x2)]) (rest := []) C w (ct_X5_dotAt l G ix1 ix2 h) mv_X6_83 (fb_k1 C) rfl ⟨rfl, rfl, Nat.le_of_ble_eq_true rfl, Nat.le_of_ble_eq_true rfl, Nat.zero_le _, Nat.zero_le _⟩ rfl hl.1 rfl (Nat.le_of_ble_eq_true rfl) dX6_heap_35 (fun a5 σ5 H locs h ia5 w => ?_)
  refine fb_iconst C dX6_heap_38 ?_
  refine fb_icmp_eq (tgt := 47) C ia5 (by decide) dX6_heap_39 (by decide) (fun c6 => ?_) (fun c6 => ?_)
  · have h := h.1 c6
    exact tw_X6_heap_47 C hret _ _ _ _ w (lv_sub hl [] rfl) h
  · have h := h.2 c6
    refine lv_iload C.1.1 C.1.2.1 dX6_heap_42 (lv_at hl 0 rfl) ?_
    refine fb_if_ne (tgt := 50) C is0 dX6_heap_44 (by decide) (fun c7 => ?_) (fun c7 => ?_)
    · have h := h.2 c7
      refine lv_aload_n C.1.1 C.1.2.1 dX6_heap_50 rfl (lv_at hl 1 rfl) ?_
      refine fb_getr (k2 := 1) C w (fb_k0 C) rfl fl_X6_10 dX6_heap_51 ?_
      refine lv_iload_n C.1.1 C.1.2.1 dX6_heap_54 rfl (lv_at hl 2 rfl) ?_
      refine lv_iload_n C.1.1 C.1.2.1 dX6_heap_55 rfl (lv_at hl 3 rfl) ?_
      refine lv_iload_n C.1.1 C.1.2.1 dX6_heap_56 rfl (lv_at hl 4 rfl) ?_
      refine lv_iload C.1.1 C.1.2.1 dX6_heap_57 (lv_at hl 5 rfl) ?_
      refine fb_callVv (As := [.int (fb_I x1), .int (fb_I x2), .int (fb_I x3), .int (fb_I x4)]) (rest := []) C w (ct_X5_raise l G ix1 ix2 ix3 ix4 h) mv_X6_87 (fb_k1 C) rfl ⟨rfl, rfl, Nat.le_of_ble_eq_true rfl, Nat.le_of_ble_eq_true rfl, Nat.zero_le _, Nat.zero_le _⟩ rfl hl.1 rfl (Nat.le_of_ble_eq_true rfl) dX6_heap_59 (fun σ8 H locs h w => ?_)
      refine lv_aload_n C.1.1 C.1.2.1 dX6_heap_62 rfl (lv_at hl 1 rfl) ?_
      refine fb_callVi (As := []) (rest := []) C w (ct_X6_pitsAfterChange l G h) mv_X6_75 (fb_k0 C) rfl ⟨rfl, rfl, Nat.le_of_ble_eq_true rfl, Nat.le_of_ble_eq_true rfl, Nat.zero_le _, Nat.zero_le _⟩ rfl hl.1 rfl (Nat.le_of_ble_eq_true rfl) dX6_heap_63 (fun a9 σ9 H locs h ia9 w => ?_)
      exact hret _ _ _ _ _ _ ia9 h w dX6_heap_66
    · have h := h.1 c7
      exact tw_X6_heap_47 C hret _ _ _ _ w (lv_sub hl [] rfl) h
set_option maxRecDepth 100000 in
set_option maxHeartbeats 4000000 in
theorem tw_X6_heap_26 (C : fb_C p s m args meth c G RX6 cX6_heap 6) (hret : fb_RI p l e rm_X6_heap s m args below meth c G cX6_heap Qm Q) : TT_X6_heap_26 p l e s m args below meth c Qm G (wj_X6_heap_26 Q) := by
  intro x1 x2 x3 x4 σ H locs ls w hl ix1 ix2 ix3 ix4 h
  unfold wj_X6_heap_26 at h
  refine fb_iconst C dX6_heap_26 ?_
  exact tw_X6_heap_27 C hret x1 x2 x3 x4 0 _ _ _ _ w (lv_sub hl [0, 1, 2, 3, 4] rfl) ix1 ix2 ix3 ix4 (by decide) h
set_option maxRecDepth 100000 in
set_option maxHeartbeats 4000000 in
theorem tw_X6_heap_0 (C : fb_C p s m args meth c G RX6 cX6_heap 6) (hret : fb_RI p l e rm_X6_heap s m args below meth c G cX6_heap Qm Q) : TT_X6_heap_0 p l e s m args below meth c Qm G (fun x1 x2 x3 x4 σ => wp_X6_heap x1 x2 x3 x4 σ Q) := by
  intro x1 x2 x3 x4 σ H locs ls w hl ix1 ix2 ix3 ix4 h
  unfold wp_X6_heap at h
  refine lv_iload_n C.1.1 C.1.2.1 dX6_heap_0 rfl (lv_at hl 3 rfl) ?_
  refine fb_bipush C dX6_heap_1 (by decide) ?_
  refine fb_bipush C dX6_heap_3 (by decide) ?_
  refine fb_callSi (As := [.int (fb_I x3), .int (fb_I (-99)), .int (fb_I 99)]) (rest := []) C w (ct_X6_within l G ix3 (by decide) (by decide) h) ms_X6_68 ⟨rfl, rfl, Nat.le_of_ble_eq_true rfl, Nat.le_of_ble_eq_true rfl, Nat.zero_le _, Nat.zero_le _⟩ rfl hl.1 rfl (Nat.le_of_ble_eq_true rfl) dX6_heap_5 (fun a1 σ1 H locs h ia1 w => ?_)
  refine fb_if_eq (tgt := 26) C ia1 dX6_heap_8 (by decide) (fun c2 => ?_) (fun c2 => ?_)
  · have h := h.1 c2
    exact tw_X6_heap_26 C hret x1 x2 x3 x4 _ _ _ _ w (lv_sub hl [0, 1, 2, 3, 4] rfl) ix1 ix2 ix3 ix4 h
  · have h := h.2 c2
    refine lv_iload C.1.1 C.1.2.1 dX6_heap_11 (lv_at hl 4 rfl) ?_
    refine fb_iconst C dX6_heap_13 ?_
    refine fb_bipush C dX6_heap_14 (by decide) ?_
    refine fb_callSi (As := [.int (fb_I x4), .int (fb_I 0), .int (fb_I 50)]) (rest := []) C w (ct_X6_within l G ix4 (by decide) (by decide) h) ms_X6_68 ⟨rfl, rfl, Nat.le_of_ble_eq_true rfl, Nat.le_of_ble_eq_true rfl, Nat.zero_le _, Nat.zero_le _⟩ rfl hl.1 rfl (Nat.le_of_ble_eq_true rfl) dX6_heap_16 (fun a3 σ3 H locs h ia3 w => ?_)
    refine fb_if_eq (tgt := 26) C ia3 dX6_heap_19 (by decide) (fun c4 => ?_) (fun c4 => ?_)
    · have h := h.1 c4
      exact tw_X6_heap_26 C hret x1 x2 x3 x4 _ _ _ _ w (lv_sub hl [0, 1, 2, 3, 4] rfl) ix1 ix2 ix3 ix4 h
    · have h := h.2 c4
      refine fb_iconst C dX6_heap_22 ?_
      refine lv_goto (tgt := 27) C.1.1 C.1.2.1 dX6_heap_23 (by decide) ?_
      exact tw_X6_heap_27 C hret x1 x2 x3 x4 1 _ _ _ _ w (lv_sub hl [0, 1, 2, 3, 4] rfl) ix1 ix2 ix3 ix4 (by decide) h
theorem ct_X6_heap (l : Launch) (G : fb_G) {x1 : Int} {x2 : Int} {x3 : Int} {x4 : Int} {σ : fb_St} (ix1 : fb_in x1) (ix2 : fb_in x2) (ix3 : fb_in x3) (ix4 : fb_in x4) (h : wp_X6_heap x1 x2 x3 x4 σ Q) : fb_MI l G yX6_heap cX6_heap 6 (some .int) rm_X6_heap [.ref (fb_ad G 0), .int (fb_I x1), .int (fb_I x2), .int (fb_I x3), .int (fb_I x4)] σ Q := by
  refine fb_ofW (own := RX6) (by decide) (Nat.le_of_ble_eq_true rfl) rfl (fun p e s m args below meth c ls C hr hl w => ?_)
  exact tw_X6_heap_0 C (fb_reti C hr) _ _ _ _ _ _ _ _ w hl ix1 ix2 ix3 ix4 h
end S_X6_heap
section S_X6_put
variable {p : Program} {l : Launch} {e : Env} {s : State} {m : MethodId} {args : Array Value} {below : List Frame} {meth : Method} {c : Code} {Qm : State → Prop} {G : fb_G} {Q : Int → fb_St → Prop}
abbrev TT_X6_put_27 (p : Program) (l : Launch) (e : Env) (s : State) (m : MethodId) (args : Array Value) (below : List Frame) (meth : Method) (c : Code) (Qm : State → Prop) (G : fb_G) (r : fb_St → Prop) : Prop := ∀ (σ : fb_St) (H : Heap) (locs : List Loc) (ls : Array Slot), fb_Wd G s σ H locs → lv_has ls 5 [] → r σ → W p l e rm_X6_put s m args below meth c H locs 0 0 Qm (F0 m 27 ls [])
abbrev TT_X6_put_0 (p : Program) (l : Launch) (e : Env) (s : State) (m : MethodId) (args : Array Value) (below : List Frame) (meth : Method) (c : Code) (Qm : State → Prop) (G : fb_G) (r : Int → Int → Int → fb_St → Prop) : Prop := ∀ (x1 x2 x3 : Int) (σ : fb_St) (H : Heap) (locs : List Loc) (ls : Array Slot), fb_Wd G s σ H locs → lv_has ls 5 [(0, .ref (fb_ad G 0)), (1, .int (fb_I x1)), (2, .int (fb_I x2)), (3, .int (fb_I x3))] → fb_in x1 → fb_in x2 → fb_in x3 → r x1 x2 x3 σ → W p l e rm_X6_put s m args below meth c H locs 0 0 Qm (F0 m 0 ls [])
set_option maxRecDepth 100000 in
set_option maxHeartbeats 4000000 in
theorem tw_X6_put_27 (C : fb_C p s m args meth c G RX6 cX6_put 5) (hret : fb_RI p l e rm_X6_put s m args below meth c G cX6_put Qm Q) : TT_X6_put_27 p l e s m args below meth c Qm G (wj_X6_put_27 Q) := by
  intro σ H locs ls w hl h
  unfold wj_X6_put_27 at h
  refine fb_bipush C dX6_put_27 (by decide) ?_
  exact hret _ _ _ _ _ _ (by decide) h w dX6_put_29
set_option maxRecDepth 100000 in
set_option maxHeartbeats 4000000 in
theorem tw_X6_put_0 (C : fb_C p s m args meth c G RX6 cX6_put 5) (hret : fb_RI p l e rm_X6_put s m args below meth c G cX6_put Qm Q) : TT_X6_put_0 p l e s m args below meth c Qm G (fun x1 x2 x3 σ => wp_X6_put x1 x2 x3 σ Q) := by
  intro x1 x2 x3 σ H locs ls w hl ix1 ix2 ix3 h
  unfold wp_X6_put at h
  refine lv_aload_n C.1.1 C.1.2.1 dX6_put_0 rfl (lv_at hl 0 rfl) ?_
  refine fb_getr (k2 := 1) C w (fb_k0 C) rfl fl_X6_10 dX6_put_1 ?_
  refine lv_iload_n C.1.1 C.1.2.1 dX6_put_4 rfl (lv_at hl 1 rfl) ?_
  refine lv_iload_n C.1.1 C.1.2.1 dX6_put_5 rfl (lv_at hl 2 rfl) ?_
  refine fb_callVi (As := [.int (fb_I x1), .int (fb_I x2)]) (rest := []) C w (ct_X5_dotAt l G ix1 ix2 h) mv_X6_83 (fb_k1 C) rfl ⟨rfl, rfl, Nat.le_of_ble_eq_true rfl, Nat.le_of_ble_eq_true rfl, Nat.zero_le _, Nat.zero_le _⟩ rfl hl.1 rfl (Nat.le_of_ble_eq_true rfl) dX6_put_6 (fun a1 σ1 H locs h ia1 w => ?_)
  refine lv_istore (lv' := [(4, .int (fb_I a1)), (0, .ref (fb_ad G 0)), (1, .int (fb_I x1)), (2, .int (fb_I x2)), (3, .int (fb_I x3))]) C.1.1 C.1.2.1 dX6_put_9 hl (by decide) rfl (fun ls hl => ?_)
  refine lv_iload C.1.1 C.1.2.1 dX6_put_11 (lv_at hl 0 rfl) ?_
  refine fb_iconst C dX6_put_13 ?_
  refine fb_icmp_eq (tgt := 27) C ia1 (by decide) dX6_put_14 (by decide) (fun c2 => ?_) (fun c2 => ?_)
  · have h := h.1 c2
    exact tw_X6_put_27 C hret _ _ _ _ w (lv_sub hl [] rfl) h
  · have h := h.2 c2
    refine lv_iload_n C.1.1 C.1.2.1 dX6_put_17 rfl (lv_at hl 4 rfl) ?_
    refine fb_iconst C dX6_put_18 ?_
    refine fb_bipush C dX6_put_19 (by decide) ?_
    refine fb_callSi (As := [.int (fb_I x3), .int (fb_I 0), .int (fb_I 99)]) (rest := []) C w (ct_X6_within l G ix3 (by decide) (by decide) h) ms_X6_68 ⟨rfl, rfl, Nat.le_of_ble_eq_true rfl, Nat.le_of_ble_eq_true rfl, Nat.zero_le _, Nat.zero_le _⟩ rfl hl.1 rfl (Nat.le_of_ble_eq_true rfl) dX6_put_21 (fun a3 σ3 H locs h ia3 w => ?_)
    refine fb_if_ne (tgt := 30) C ia3 dX6_put_24 (by decide) (fun c4 => ?_) (fun c4 => ?_)
    · have h := h.2 c4
      refine lv_aload_n C.1.1 C.1.2.1 dX6_put_30 rfl (lv_at hl 1 rfl) ?_
      refine fb_getr (k2 := 1) C w (fb_k0 C) rfl fl_X6_10 dX6_put_31 ?_
      refine fb_getr (k2 := 2) C w (fb_k1 C) rfl fl_X6_90 dX6_put_34 ?_
      refine lv_iload C.1.1 C.1.2.1 dX6_put_37 (lv_at hl 0 rfl) ?_
      refine lv_iload_n C.1.1 C.1.2.1 dX6_put_39 rfl (lv_at hl 4 rfl) ?_
      obtain ⟨z5, z6, h⟩ := h
      refine fb_as C w 144 (fb_k2 C) rfl rfl ix3 z5 z6 dX6_put_40 (fun σ7 H locs eσ7 w => ?_)
      have h := h σ7 eσ7
      refine lv_aload_n C.1.1 C.1.2.1 dX6_put_41 rfl (lv_at hl 1 rfl) ?_
      refine fb_callVi (As := []) (rest := []) C w (ct_X6_pitsAfterChange l G h) mv_X6_75 (fb_k0 C) rfl ⟨rfl, rfl, Nat.le_of_ble_eq_true rfl, Nat.le_of_ble_eq_true rfl, Nat.zero_le _, Nat.zero_le _⟩ rfl hl.1 rfl (Nat.le_of_ble_eq_true rfl) dX6_put_42 (fun a8 σ8 H locs h ia8 w => ?_)
      exact hret _ _ _ _ _ _ ia8 h w dX6_put_45
    · have h := h.1 c4
      exact tw_X6_put_27 C hret _ _ _ _ w (lv_sub hl [] rfl) h
theorem ct_X6_put (l : Launch) (G : fb_G) {x1 : Int} {x2 : Int} {x3 : Int} {σ : fb_St} (ix1 : fb_in x1) (ix2 : fb_in x2) (ix3 : fb_in x3) (h : wp_X6_put x1 x2 x3 σ Q) : fb_MI l G yX6_put cX6_put 5 (some .int) rm_X6_put [.ref (fb_ad G 0), .int (fb_I x1), .int (fb_I x2), .int (fb_I x3)] σ Q := by
  refine fb_ofW (own := RX6) (by decide) (Nat.le_of_ble_eq_true rfl) rfl (fun p e s m args below meth c ls C hr hl w => ?_)
  exact tw_X6_put_0 C (fb_reti C hr) _ _ _ _ _ _ _ w hl ix1 ix2 ix3 h
end S_X6_put
section S_X6_mark
variable {p : Program} {l : Launch} {e : Env} {s : State} {m : MethodId} {args : Array Value} {below : List Frame} {meth : Method} {c : Code} {Qm : State → Prop} {G : fb_G} {Q : Int → fb_St → Prop}
abbrev TT_X6_mark_27 (p : Program) (l : Launch) (e : Env) (s : State) (m : MethodId) (args : Array Value) (below : List Frame) (meth : Method) (c : Code) (Qm : State → Prop) (G : fb_G) (r : fb_St → Prop) : Prop := ∀ (σ : fb_St) (H : Heap) (locs : List Loc) (ls : Array Slot), fb_Wd G s σ H locs → lv_has ls 6 [] → r σ → W p l e rm_X6_mark s m args below meth c H locs 0 0 Qm (F0 m 27 ls [])
abbrev TT_X6_mark_0 (p : Program) (l : Launch) (e : Env) (s : State) (m : MethodId) (args : Array Value) (below : List Frame) (meth : Method) (c : Code) (Qm : State → Prop) (G : fb_G) (r : Int → Int → Int → fb_St → Prop) : Prop := ∀ (x1 x2 x3 : Int) (σ : fb_St) (H : Heap) (locs : List Loc) (ls : Array Slot), fb_Wd G s σ H locs → lv_has ls 6 [(0, .ref (fb_ad G 0)), (1, .int (fb_I x1)), (2, .int (fb_I x2)), (3, .int (fb_I x3))] → fb_in x1 → fb_in x2 → fb_in x3 → r x1 x2 x3 σ → W p l e rm_X6_mark s m args below meth c H locs 0 0 Qm (F0 m 0 ls [])
set_option maxRecDepth 100000 in
set_option maxHeartbeats 4000000 in
theorem tw_X6_mark_27 (C : fb_C p s m args meth c G RX6 cX6_mark 6) (hret : fb_RI p l e rm_X6_mark s m args below meth c G cX6_mark Qm Q) : TT_X6_mark_27 p l e s m args below meth c Qm G (wj_X6_mark_27 Q) := by
  intro σ H locs ls w hl h
  unfold wj_X6_mark_27 at h
  refine fb_bipush C dX6_mark_27 (by decide) ?_
  exact hret _ _ _ _ _ _ (by decide) h w dX6_mark_29
set_option maxRecDepth 100000 in
set_option maxHeartbeats 4000000 in
theorem tw_X6_mark_0 (C : fb_C p s m args meth c G RX6 cX6_mark 6) (hret : fb_RI p l e rm_X6_mark s m args below meth c G cX6_mark Qm Q) : TT_X6_mark_0 p l e s m args below meth c Qm G (fun x1 x2 x3 σ => wp_X6_mark x1 x2 x3 σ Q) := by
  intro x1 x2 x3 σ H locs ls w hl ix1 ix2 ix3 h
  unfold wp_X6_mark at h
  refine lv_aload_n C.1.1 C.1.2.1 dX6_mark_0 rfl (lv_at hl 0 rfl) ?_
  refine fb_getr (k2 := 1) C w (fb_k0 C) rfl fl_X6_10 dX6_mark_1 ?_
  refine lv_iload_n C.1.1 C.1.2.1 dX6_mark_4 rfl (lv_at hl 1 rfl) ?_
  refine lv_iload_n C.1.1 C.1.2.1 dX6_mark_5 rfl (lv_at hl 2 rfl) ?_
  refine fb_callVi (As := [.int (fb_I x1), .int (fb_I x2)]) (rest := []) C w (ct_X5_dotAt l G ix1 ix2 h) mv_X6_83 (fb_k1 C) rfl ⟨rfl, rfl, Nat.le_of_ble_eq_true rfl, Nat.le_of_ble_eq_true rfl, Nat.zero_le _, Nat.zero_le _⟩ rfl hl.1 rfl (Nat.le_of_ble_eq_true rfl) dX6_mark_6 (fun a1 σ1 H locs h ia1 w => ?_)
  refine lv_istore (lv' := [(4, .int (fb_I a1)), (0, .ref (fb_ad G 0)), (1, .int (fb_I x1)), (2, .int (fb_I x2)), (3, .int (fb_I x3))]) C.1.1 C.1.2.1 dX6_mark_9 hl (by decide) rfl (fun ls hl => ?_)
  refine lv_iload C.1.1 C.1.2.1 dX6_mark_11 (lv_at hl 0 rfl) ?_
  refine fb_iconst C dX6_mark_13 ?_
  refine fb_icmp_eq (tgt := 27) C ia1 (by decide) dX6_mark_14 (by decide) (fun c2 => ?_) (fun c2 => ?_)
  · have h := h.1 c2
    exact tw_X6_mark_27 C hret _ _ _ _ w (lv_sub hl [] rfl) h
  · have h := h.2 c2
    refine lv_iload_n C.1.1 C.1.2.1 dX6_mark_17 rfl (lv_at hl 4 rfl) ?_
    refine fb_iconst C dX6_mark_18 ?_
    refine fb_bipush C dX6_mark_19 (by decide) ?_
    refine fb_callSi (As := [.int (fb_I x3), .int (fb_I 0), .int (fb_I 99)]) (rest := []) C w (ct_X6_within l G ix3 (by decide) (by decide) h) ms_X6_68 ⟨rfl, rfl, Nat.le_of_ble_eq_true rfl, Nat.le_of_ble_eq_true rfl, Nat.zero_le _, Nat.zero_le _⟩ rfl hl.1 rfl (Nat.le_of_ble_eq_true rfl) dX6_mark_21 (fun a3 σ3 H locs h ia3 w => ?_)
    refine fb_if_ne (tgt := 30) C ia3 dX6_mark_24 (by decide) (fun c4 => ?_) (fun c4 => ?_)
    · have h := h.2 c4
      refine lv_aload_n C.1.1 C.1.2.1 dX6_mark_30 rfl (lv_at hl 1 rfl) ?_
      refine fb_getr (k2 := 1) C w (fb_k0 C) rfl fl_X6_10 dX6_mark_31 ?_
      refine fb_getr (k2 := 3) C w (fb_k1 C) rfl fl_X6_94 dX6_mark_34 ?_
      refine lv_iload C.1.1 C.1.2.1 dX6_mark_37 (lv_at hl 0 rfl) ?_
      obtain ⟨z5, z6, h⟩ := h
      refine fb_al C w 144 (fb_k3 C) rfl rfl z5 z6 dX6_mark_39 ?_
      have i7 := w.2.2.2 3 a1
      refine fb_top (fun v8 ev8 => ?_)
      have h := h v8 ev8
      have iv8 := fb_ie ev8 i7
      refine lv_istore (lv' := [(5, .int (fb_I v8)), (4, .int (fb_I a1)), (0, .ref (fb_ad G 0)), (1, .int (fb_I x1)), (2, .int (fb_I x2)), (3, .int (fb_I x3))]) C.1.1 C.1.2.1 dX6_mark_40 hl (by decide) rfl (fun ls hl => ?_)
      refine lv_aload_n C.1.1 C.1.2.1 dX6_mark_42 rfl (lv_at hl 2 rfl) ?_
      refine fb_getr (k2 := 1) C w (fb_k0 C) rfl fl_X6_10 dX6_mark_43 ?_
      refine fb_getr (k2 := 3) C w (fb_k1 C) rfl fl_X6_94 dX6_mark_46 ?_
      refine lv_iload C.1.1 C.1.2.1 dX6_mark_49 (lv_at hl 1 rfl) ?_
      refine lv_iload_n C.1.1 C.1.2.1 dX6_mark_51 rfl (lv_at hl 5 rfl) ?_
      obtain ⟨z9, z10, h⟩ := h
      refine fb_as C w 144 (fb_k3 C) rfl rfl ix3 z9 z10 dX6_mark_52 (fun σ11 H locs eσ11 w => ?_)
      have h := h σ11 eσ11
      refine lv_aload_n C.1.1 C.1.2.1 dX6_mark_53 rfl (lv_at hl 2 rfl) ?_
      refine fb_callVv (As := []) (rest := []) C w (ct_X6_nothingStands l G h) mv_X6_97 (fb_k0 C) rfl ⟨rfl, rfl, Nat.le_of_ble_eq_true rfl, Nat.le_of_ble_eq_true rfl, Nat.zero_le _, Nat.zero_le _⟩ rfl hl.1 rfl (Nat.le_of_ble_eq_true rfl) dX6_mark_54 (fun σ12 H locs h w => ?_)
      refine lv_iload C.1.1 C.1.2.1 dX6_mark_57 (lv_at hl 0 rfl) ?_
      exact hret _ _ _ _ _ _ iv8 h w dX6_mark_59
    · have h := h.1 c4
      exact tw_X6_mark_27 C hret _ _ _ _ w (lv_sub hl [] rfl) h
theorem ct_X6_mark (l : Launch) (G : fb_G) {x1 : Int} {x2 : Int} {x3 : Int} {σ : fb_St} (ix1 : fb_in x1) (ix2 : fb_in x2) (ix3 : fb_in x3) (h : wp_X6_mark x1 x2 x3 σ Q) : fb_MI l G yX6_mark cX6_mark 6 (some .int) rm_X6_mark [.ref (fb_ad G 0), .int (fb_I x1), .int (fb_I x2), .int (fb_I x3)] σ Q := by
  refine fb_ofW (own := RX6) (by decide) (Nat.le_of_ble_eq_true rfl) rfl (fun p e s m args below meth c ls C hr hl w => ?_)
  exact tw_X6_mark_0 C (fb_reti C hr) _ _ _ _ _ _ _ w hl ix1 ix2 ix3 h
end S_X6_mark
section S_X6_pits
variable {p : Program} {l : Launch} {e : Env} {s : State} {m : MethodId} {args : Array Value} {below : List Frame} {meth : Method} {c : Code} {Qm : State → Prop} {G : fb_G} {Q : Int → fb_St → Prop}
abbrev TT_X6_pits_0 (p : Program) (l : Launch) (e : Env) (s : State) (m : MethodId) (args : Array Value) (below : List Frame) (meth : Method) (c : Code) (Qm : State → Prop) (G : fb_G) (r : fb_St → Prop) : Prop := ∀ (σ : fb_St) (H : Heap) (locs : List Loc) (ls : Array Slot), fb_Wd G s σ H locs → lv_has ls 1 [(0, .ref (fb_ad G 0))] → r σ → W p l e rm_X6_pits s m args below meth c H locs 0 0 Qm (F0 m 0 ls [])
set_option maxRecDepth 100000 in
set_option maxHeartbeats 4000000 in
theorem tw_X6_pits_0 (C : fb_C p s m args meth c G RX6 cX6_pits 1) (hret : fb_RI p l e rm_X6_pits s m args below meth c G cX6_pits Qm Q) : TT_X6_pits_0 p l e s m args below meth c Qm G (fun σ => wp_X6_pits σ Q) := by
  intro σ H locs ls w hl h
  unfold wp_X6_pits at h
  refine lv_aload_n C.1.1 C.1.2.1 dX6_pits_0 rfl (lv_at hl 0 rfl) ?_
  refine fb_getr (k2 := 1) C w (fb_k0 C) rfl fl_X6_10 dX6_pits_1 ?_
  refine fb_getr (k2 := 3) C w (fb_k1 C) rfl fl_X6_94 dX6_pits_4 ?_
  refine fb_iconst C dX6_pits_7 ?_
  refine fb_callSv (rest := []) C w (fb_fillM l G (Qp := fun _ q => q = fb_fill σ 3 0) (fb_k3 C) (Nat.le_of_ble_eq_true rfl) (by decide) rfl) ms_X6_100 ⟨rfl, rfl, Nat.le_of_ble_eq_true rfl, Nat.le_of_ble_eq_true rfl, Nat.zero_le _, Nat.zero_le _⟩ rfl hl.1 rfl (Nat.le_of_ble_eq_true rfl) dX6_pits_8 (fun σ1 H locs eσ1 w => ?_)
  have h := h σ1 eσ1
  refine lv_aload_n C.1.1 C.1.2.1 dX6_pits_11 rfl (lv_at hl 0 rfl) ?_
  refine fb_callVv (As := []) (rest := []) C w (ct_X6_nothingStands l G h) mv_X6_97 (fb_k0 C) rfl ⟨rfl, rfl, Nat.le_of_ble_eq_true rfl, Nat.le_of_ble_eq_true rfl, Nat.zero_le _, Nat.zero_le _⟩ rfl hl.1 rfl (Nat.le_of_ble_eq_true rfl) dX6_pits_12 (fun σ2 H locs h w => ?_)
  refine lv_aload_n C.1.1 C.1.2.1 dX6_pits_15 rfl (lv_at hl 0 rfl) ?_
  refine fb_iconst C dX6_pits_16 ?_
  refine fb_callVi (As := [.int (fb_I 1)]) (rest := []) C w (ct_X6_findPits l G (by decide) h) mv_X6_106 (fb_k0 C) rfl ⟨rfl, rfl, Nat.le_of_ble_eq_true rfl, Nat.le_of_ble_eq_true rfl, Nat.zero_le _, Nat.zero_le _⟩ rfl hl.1 rfl (Nat.le_of_ble_eq_true rfl) dX6_pits_17 (fun a3 σ3 H locs h ia3 w => ?_)
  exact hret _ _ _ _ _ _ ia3 h w dX6_pits_20
theorem ct_X6_pits (l : Launch) (G : fb_G) {σ : fb_St} (h : wp_X6_pits σ Q) : fb_MI l G yX6_pits cX6_pits 1 (some .int) rm_X6_pits [.ref (fb_ad G 0)] σ Q := by
  refine fb_ofW (own := RX6) (by decide) (Nat.le_of_ble_eq_true rfl) rfl (fun p e s m args below meth c ls C hr hl w => ?_)
  exact tw_X6_pits_0 C (fb_reti C hr) _ _ _ _ w hl h
end S_X6_pits
section S_X2_empty
variable {p : Program} {l : Launch} {e : Env} {s : State} {m : MethodId} {args : Array Value} {below : List Frame} {meth : Method} {c : Code} {Qm : State → Prop} {G : fb_G} {Q : Int → fb_St → Prop}
abbrev TT_X2_empty_0 (p : Program) (l : Launch) (e : Env) (s : State) (m : MethodId) (args : Array Value) (below : List Frame) (meth : Method) (c : Code) (Qm : State → Prop) (G : fb_G) (r : fb_St → Prop) : Prop := ∀ (σ : fb_St) (H : Heap) (locs : List Loc) (ls : Array Slot), fb_Wd G s σ H locs → lv_has ls 1 [(0, .ref (fb_ad G 13))] → r σ → W p l e rm_X2_empty s m args below meth c H locs 0 0 Qm (F0 m 0 ls [])
set_option maxRecDepth 100000 in
set_option maxHeartbeats 4000000 in
theorem tw_X2_empty_0 (C : fb_C p s m args meth c G RX2 cX2_empty 1) (hret : fb_RV p l e rm_X2_empty s m args below meth c G cX2_empty Qm Q) : TT_X2_empty_0 p l e s m args below meth c Qm G (fun σ => wp_X2_empty σ Q) := by
  intro σ H locs ls w hl h
  unfold wp_X2_empty at h
  refine lv_aload_n C.1.1 C.1.2.1 dX2_empty_0 rfl (lv_at hl 0 rfl) ?_
  refine fb_getr (k2 := 14) C w (fb_k13 C) rfl fl_X2_9 dX2_empty_1 ?_
  refine fb_iconst C dX2_empty_4 ?_
  refine fb_callSv (rest := []) C w (fb_fillM l G (Qp := fun _ q => q = fb_fill σ 14 (-1)) (fb_k14 C) (Nat.le_of_ble_eq_true rfl) (by decide) rfl) ms_X2_25 ⟨rfl, rfl, Nat.le_of_ble_eq_true rfl, Nat.le_of_ble_eq_true rfl, Nat.zero_le _, Nat.zero_le _⟩ rfl hl.1 rfl (Nat.le_of_ble_eq_true rfl) dX2_empty_5 (fun σ1 H locs eσ1 w => ?_)
  have h := h σ1 eσ1
  refine lv_aload_n C.1.1 C.1.2.1 dX2_empty_8 rfl (lv_at hl 0 rfl) ?_
  refine fb_getr (k2 := 15) C w (fb_k13 C) rfl fl_X2_15 dX2_empty_9 ?_
  refine fb_iconst C dX2_empty_12 ?_
  refine fb_callSv (rest := []) C w (fb_fillM l G (Qp := fun _ q => q = fb_fill σ1 15 (-1)) (fb_k15 C) (Nat.le_of_ble_eq_true rfl) (by decide) rfl) ms_X2_25 ⟨rfl, rfl, Nat.le_of_ble_eq_true rfl, Nat.le_of_ble_eq_true rfl, Nat.zero_le _, Nat.zero_le _⟩ rfl hl.1 rfl (Nat.le_of_ble_eq_true rfl) dX2_empty_13 (fun σ2 H locs eσ2 w => ?_)
  have h := h σ2 eσ2
  refine lv_aload_n C.1.1 C.1.2.1 dX2_empty_16 rfl (lv_at hl 0 rfl) ?_
  refine fb_iconst C dX2_empty_17 ?_
  refine fb_pi C w 3 (fb_k13 C) rfl rfl fl_X2_21 tyX2_ok nmX2 rfl (by decide) rfl rfl dX2_empty_18 (fun σ3 H locs eσ3 w => ?_)
  have h := h σ3 eσ3
  exact hret _ _ _ _ _ h w dX2_empty_21
theorem ct_X2_empty (l : Launch) (G : fb_G) {σ : fb_St} (h : wp_X2_empty σ Q) : fb_MV l G yX2_empty cX2_empty 1 rm_X2_empty [.ref (fb_ad G 13)] σ Q := by
  refine fb_ofW (own := RX2) (by decide) (Nat.le_of_ble_eq_true rfl) rfl (fun p e s m args below meth c ls C hr hl w => ?_)
  exact tw_X2_empty_0 C (fb_retv C hr) _ _ _ _ w hl h
end S_X2_empty
section S_X0_startAtMarks
variable {p : Program} {l : Launch} {e : Env} {s : State} {m : MethodId} {args : Array Value} {below : List Frame} {meth : Method} {c : Code} {Qm : State → Prop} {G : fb_G} {Q : Int → fb_St → Prop}
abbrev TT_X0_startAtMarks_82 (p : Program) (l : Launch) (e : Env) (s : State) (m : MethodId) (args : Array Value) (below : List Frame) (meth : Method) (c : Code) (Qm : State → Prop) (G : fb_G) (r : Int → Int → Int → fb_St → Prop) : Prop := ∀ (x2 s0 s1 : Int) (σ : fb_St) (H : Heap) (locs : List Loc) (ls : Array Slot), fb_Wd G s σ H locs → lv_has ls 4 [(0, .ref (fb_ad G 8)), (1, .ref (fb_ad G 1)), (2, .int (fb_I x2))] → fb_in x2 → fb_in s0 → fb_in s1 → r x2 s0 s1 σ → W p l e rm_X0_startAtMarks s m args below meth c H locs 0 0 Qm (F0 m 82 ls [.int (fb_I s0), .int (fb_I s1), .ref (fb_ad G 11)])
abbrev TT_X0_startAtMarks_66 (p : Program) (l : Launch) (e : Env) (s : State) (m : MethodId) (args : Array Value) (below : List Frame) (meth : Method) (c : Code) (Qm : State → Prop) (G : fb_G) (r : Int → Int → Int → Int → fb_St → Prop) : Prop := ∀ (x2 x3 s0 s1 : Int) (σ : fb_St) (H : Heap) (locs : List Loc) (ls : Array Slot), fb_Wd G s σ H locs → lv_has ls 4 [(0, .ref (fb_ad G 8)), (1, .ref (fb_ad G 1)), (2, .int (fb_I x2)), (3, .int (fb_I x3))] → fb_in x2 → fb_in x3 → fb_in s0 → fb_in s1 → r x2 x3 s0 s1 σ → W p l e rm_X0_startAtMarks s m args below meth c H locs 0 0 Qm (F0 m 66 ls [.int (fb_I s0), .int (fb_I s1), .ref (fb_ad G 10)])
abbrev TT_X0_startAtMarks_45 (p : Program) (l : Launch) (e : Env) (s : State) (m : MethodId) (args : Array Value) (below : List Frame) (meth : Method) (c : Code) (Qm : State → Prop) (G : fb_G) (r : Int → Int → Int → Int → fb_St → Prop) : Prop := ∀ (x2 x3 s0 s1 : Int) (σ : fb_St) (H : Heap) (locs : List Loc) (ls : Array Slot), fb_Wd G s σ H locs → lv_has ls 4 [(0, .ref (fb_ad G 8)), (1, .ref (fb_ad G 1)), (2, .int (fb_I x2)), (3, .int (fb_I x3))] → fb_in x2 → fb_in x3 → fb_in s0 → fb_in s1 → r x2 x3 s0 s1 σ → W p l e rm_X0_startAtMarks s m args below meth c H locs 0 0 Qm (F0 m 45 ls [.int (fb_I s0), .int (fb_I s1), .ref (fb_ad G 9)])
abbrev TT_X0_startAtMarks_24 (p : Program) (l : Launch) (e : Env) (s : State) (m : MethodId) (args : Array Value) (below : List Frame) (meth : Method) (c : Code) (Qm : State → Prop) (G : fb_G) (r : Int → Int → fb_St → Prop) : Prop := ∀ (x2 s0 : Int) (σ : fb_St) (H : Heap) (locs : List Loc) (ls : Array Slot), fb_Wd G s σ H locs → lv_has ls 4 [(0, .ref (fb_ad G 8)), (1, .ref (fb_ad G 1)), (2, .int (fb_I x2))] → fb_in x2 → fb_in s0 → r x2 s0 σ → W p l e rm_X0_startAtMarks s m args below meth c H locs 0 0 Qm (F0 m 24 ls [.int (fb_I s0)])
abbrev TT_X0_startAtMarks_2 (p : Program) (l : Launch) (e : Env) (s : State) (m : MethodId) (args : Array Value) (below : List Frame) (meth : Method) (c : Code) (Qm : State → Prop) (G : fb_G) (r : Int → fb_St → Prop) : Prop := ∀ (x2 : Int) (σ : fb_St) (H : Heap) (locs : List Loc) (ls : Array Slot), fb_Wd G s σ H locs → lv_has ls 4 [(0, .ref (fb_ad G 8)), (1, .ref (fb_ad G 1)), (2, .int (fb_I x2))] → fb_in x2 → r x2 σ → W p l e rm_X0_startAtMarks s m args below meth c H locs 0 0 Qm (F0 m 2 ls [])
abbrev TT_X0_startAtMarks_0 (p : Program) (l : Launch) (e : Env) (s : State) (m : MethodId) (args : Array Value) (below : List Frame) (meth : Method) (c : Code) (Qm : State → Prop) (G : fb_G) (r : fb_St → Prop) : Prop := ∀ (σ : fb_St) (H : Heap) (locs : List Loc) (ls : Array Slot), fb_Wd G s σ H locs → lv_has ls 4 [(0, .ref (fb_ad G 8)), (1, .ref (fb_ad G 1))] → r σ → W p l e rm_X0_startAtMarks s m args below meth c H locs 0 0 Qm (F0 m 0 ls [])
set_option maxRecDepth 100000 in
set_option maxHeartbeats 4000000 in
theorem tw_X0_startAtMarks_82 (C : fb_C p s m args meth c G RX0 cX0_startAtMarks 4) (hret : fb_RV p l e rm_X0_startAtMarks s m args below meth c G cX0_startAtMarks Qm Q) {r2 : Int → fb_St → Prop} (h2 : TT_X0_startAtMarks_2 p l e s m args below meth c Qm G r2) : TT_X0_startAtMarks_82 p l e s m args below meth c Qm G (wj_X0_startAtMarks_82 r2 Q) := by
  intro x2 s0 s1 σ H locs ls w hl ix2 is0 is1 h
  unfold wj_X0_startAtMarks_82 at h
  obtain ⟨z22, z23, h⟩ := h
  refine fb_as C w 144 (fb_k11 C) rfl rfl is0 z22 z23 dX0_startAtMarks_82 (fun σ24 H locs eσ24 w => ?_)
  have h := h σ24 eσ24
  obtain ⟨i25, h⟩ := h
  refine fb_iinc (b := x2 + 1) (k := 2) (lv' := [(2, .int (fb_I (x2 + 1))), (0, .ref (fb_ad G 8)), (1, .ref (fb_ad G 1))]) C dX0_startAtMarks_83 hl rfl rfl (by decide) rfl (fun ls hl => ?_)
  refine lv_goto (tgt := 2) C.1.1 C.1.2.1 dX0_startAtMarks_86 (by decide) ?_
  exact h2 (x2 + 1) _ _ _ _ w (lv_sub hl [1, 2, 0] rfl) i25 h
set_option maxRecDepth 100000 in
set_option maxHeartbeats 4000000 in
theorem tw_X0_startAtMarks_66 (C : fb_C p s m args meth c G RX0 cX0_startAtMarks 4) (hret : fb_RV p l e rm_X0_startAtMarks s m args below meth c G cX0_startAtMarks Qm Q) {r2 : Int → fb_St → Prop} (h2 : TT_X0_startAtMarks_2 p l e s m args below meth c Qm G r2) : TT_X0_startAtMarks_66 p l e s m args below meth c Qm G (wj_X0_startAtMarks_66 r2 Q) := by
  intro x2 x3 s0 s1 σ H locs ls w hl ix2 ix3 is0 is1 h
  unfold wj_X0_startAtMarks_66 at h
  obtain ⟨z18, z19, h⟩ := h
  refine fb_as C w 144 (fb_k10 C) rfl rfl is0 z18 z19 dX0_startAtMarks_66 (fun σ20 H locs eσ20 w => ?_)
  have h := h σ20 eσ20
  refine lv_aload_n C.1.1 C.1.2.1 dX0_startAtMarks_67 rfl (lv_at hl 0 rfl) ?_
  refine fb_getr (k2 := 11) C w (fb_k8 C) rfl fl_X0_18 dX0_startAtMarks_68 ?_
  refine lv_iload_n C.1.1 C.1.2.1 dX0_startAtMarks_71 rfl (lv_at hl 2 rfl) ?_
  refine lv_iload_n C.1.1 C.1.2.1 dX0_startAtMarks_72 rfl (lv_at hl 3 rfl) ?_
  refine fb_if_eq (tgt := 80) C ix3 dX0_startAtMarks_73 (by decide) (fun c21 => ?_) (fun c21 => ?_)
  · have h := h.1 c21
    refine fb_bipush C dX0_startAtMarks_80 (by decide) ?_
    exact tw_X0_startAtMarks_82 C hret h2 x2 (-6) x2 _ _ _ _ w (lv_sub hl [0, 1, 2] rfl) ix2 (by decide) ix2 h
  · have h := h.2 c21
    refine fb_iconst C dX0_startAtMarks_76 ?_
    refine lv_goto (tgt := 82) C.1.1 C.1.2.1 dX0_startAtMarks_77 (by decide) ?_
    exact tw_X0_startAtMarks_82 C hret h2 x2 0 x2 _ _ _ _ w (lv_sub hl [0, 1, 2] rfl) ix2 (by decide) ix2 h
set_option maxRecDepth 100000 in
set_option maxHeartbeats 4000000 in
theorem tw_X0_startAtMarks_45 (C : fb_C p s m args meth c G RX0 cX0_startAtMarks 4) (hret : fb_RV p l e rm_X0_startAtMarks s m args below meth c G cX0_startAtMarks Qm Q) {r2 : Int → fb_St → Prop} (h2 : TT_X0_startAtMarks_2 p l e s m args below meth c Qm G r2) : TT_X0_startAtMarks_45 p l e s m args below meth c Qm G (wj_X0_startAtMarks_45 r2 Q) := by
  intro x2 x3 s0 s1 σ H locs ls w hl ix2 ix3 is0 is1 h
  unfold wj_X0_startAtMarks_45 at h
  obtain ⟨z11, z12, h⟩ := h
  refine fb_as C w 144 (fb_k9 C) rfl rfl is0 z11 z12 dX0_startAtMarks_45 (fun σ13 H locs eσ13 w => ?_)
  have h := h σ13 eσ13
  refine lv_aload_n C.1.1 C.1.2.1 dX0_startAtMarks_46 rfl (lv_at hl 0 rfl) ?_
  refine fb_getr (k2 := 10) C w (fb_k8 C) rfl fl_X0_15 dX0_startAtMarks_47 ?_
  refine lv_iload_n C.1.1 C.1.2.1 dX0_startAtMarks_50 rfl (lv_at hl 2 rfl) ?_
  refine lv_iload_n C.1.1 C.1.2.1 dX0_startAtMarks_51 rfl (lv_at hl 3 rfl) ?_
  refine fb_if_eq (tgt := 64) C ix3 dX0_startAtMarks_52 (by decide) (fun c14 => ?_) (fun c14 => ?_)
  · have h := h.1 c14
    refine fb_bipush C dX0_startAtMarks_64 (by decide) ?_
    exact tw_X0_startAtMarks_66 C hret h2 x2 x3 (-6) x2 _ _ _ _ w (lv_sub hl [0, 1, 2, 3] rfl) ix2 ix3 (by decide) ix2 h
  · have h := h.2 c14
    refine lv_aload_n C.1.1 C.1.2.1 dX0_startAtMarks_55 rfl (lv_at hl 1 rfl) ?_
    refine fb_getr (k2 := 2) C w (fb_k1 C) rfl fl_X0_59 dX0_startAtMarks_56 ?_
    refine lv_iload_n C.1.1 C.1.2.1 dX0_startAtMarks_59 rfl (lv_at hl 2 rfl) ?_
    obtain ⟨z15, z16, h⟩ := h
    refine fb_al C w 144 (fb_k2 C) rfl rfl z15 z16 dX0_startAtMarks_60 ?_
    have i17 := w.2.2.2 2 x2
    refine lv_goto (tgt := 66) C.1.1 C.1.2.1 dX0_startAtMarks_61 (by decide) ?_
    exact tw_X0_startAtMarks_66 C hret h2 x2 x3 (σ13 2 x2) x2 _ _ _ _ w (lv_sub hl [0, 1, 2, 3] rfl) ix2 ix3 i17 ix2 h
set_option maxRecDepth 100000 in
set_option maxHeartbeats 4000000 in
theorem tw_X0_startAtMarks_24 (C : fb_C p s m args meth c G RX0 cX0_startAtMarks 4) (hret : fb_RV p l e rm_X0_startAtMarks s m args below meth c G cX0_startAtMarks Qm Q) {r2 : Int → fb_St → Prop} (h2 : TT_X0_startAtMarks_2 p l e s m args below meth c Qm G r2) : TT_X0_startAtMarks_24 p l e s m args below meth c Qm G (wj_X0_startAtMarks_24 r2 Q) := by
  intro x2 s0 σ H locs ls w hl ix2 is0 h
  unfold wj_X0_startAtMarks_24 at h
  refine lv_istore_n (lv' := [(3, .int (fb_I s0)), (0, .ref (fb_ad G 8)), (1, .ref (fb_ad G 1)), (2, .int (fb_I x2))]) C.1.1 C.1.2.1 dX0_startAtMarks_24 rfl hl (by decide) rfl (fun ls hl => ?_)
  refine lv_aload_n C.1.1 C.1.2.1 dX0_startAtMarks_25 rfl (lv_at hl 1 rfl) ?_
  refine fb_getr (k2 := 9) C w (fb_k8 C) rfl fl_X0_9 dX0_startAtMarks_26 ?_
  refine lv_iload_n C.1.1 C.1.2.1 dX0_startAtMarks_29 rfl (lv_at hl 3 rfl) ?_
  refine lv_iload_n C.1.1 C.1.2.1 dX0_startAtMarks_30 rfl (lv_at hl 0 rfl) ?_
  refine fb_if_eq (tgt := 43) C is0 dX0_startAtMarks_31 (by decide) (fun c7 => ?_) (fun c7 => ?_)
  · have h := h.1 c7
    refine fb_bipush C dX0_startAtMarks_43 (by decide) ?_
    exact tw_X0_startAtMarks_45 C hret h2 x2 s0 (-6) x2 _ _ _ _ w (lv_sub hl [1, 2, 3, 0] rfl) ix2 is0 (by decide) ix2 h
  · have h := h.2 c7
    refine lv_aload_n C.1.1 C.1.2.1 dX0_startAtMarks_34 rfl (lv_at hl 2 rfl) ?_
    refine fb_getr (k2 := 3) C w (fb_k1 C) rfl fl_X0_44 dX0_startAtMarks_35 ?_
    refine lv_iload_n C.1.1 C.1.2.1 dX0_startAtMarks_38 rfl (lv_at hl 3 rfl) ?_
    obtain ⟨z8, z9, h⟩ := h
    refine fb_al C w 144 (fb_k3 C) rfl rfl z8 z9 dX0_startAtMarks_39 ?_
    have i10 := w.2.2.2 3 x2
    refine lv_goto (tgt := 45) C.1.1 C.1.2.1 dX0_startAtMarks_40 (by decide) ?_
    exact tw_X0_startAtMarks_45 C hret h2 x2 s0 (σ 3 x2) x2 _ _ _ _ w (lv_sub hl [1, 2, 3, 0] rfl) ix2 is0 i10 ix2 h
set_option maxRecDepth 100000 in
set_option maxHeartbeats 4000000 in
theorem tw_X0_startAtMarks_2 (C : fb_C p s m args meth c G RX0 cX0_startAtMarks 4) (hret : fb_RV p l e rm_X0_startAtMarks s m args below meth c G cX0_startAtMarks Qm Q) {r2 : Int → fb_St → Prop} (h2 : TT_X0_startAtMarks_2 p l e s m args below meth c Qm G r2) : TT_X0_startAtMarks_2 p l e s m args below meth c Qm G (wb_X0_startAtMarks_2 r2 Q) := by
  intro x2 σ H locs ls w hl ix2 h
  unfold wb_X0_startAtMarks_2 at h
  refine lv_iload_n C.1.1 C.1.2.1 dX0_startAtMarks_2 rfl (lv_at hl 2 rfl) ?_
  refine lv_aload_n C.1.1 C.1.2.1 dX0_startAtMarks_3 rfl (lv_at hl 1 rfl) ?_
  refine fb_gi C w 2 (fb_k1 C) rfl rfl fl_X0_38 dX0_startAtMarks_4 ?_
  have i1 := w.2.2.2 1 2
  refine fb_icmp_ge (tgt := 89) C ix2 i1 dX0_startAtMarks_7 (by decide) (fun c2 => ?_) (fun c2 => ?_)
  · have h := h.2 c2
    exact hret _ _ _ _ _ h w dX0_startAtMarks_89
  · have h := h.1 c2
    refine lv_aload_n C.1.1 C.1.2.1 dX0_startAtMarks_10 rfl (lv_at hl 1 rfl) ?_
    refine fb_getr (k2 := 3) C w (fb_k1 C) rfl fl_X0_44 dX0_startAtMarks_11 ?_
    refine lv_iload_n C.1.1 C.1.2.1 dX0_startAtMarks_14 rfl (lv_at hl 2 rfl) ?_
    obtain ⟨z3, z4, h⟩ := h
    refine fb_al C w 144 (fb_k3 C) rfl rfl z3 z4 dX0_startAtMarks_15 ?_
    have i5 := w.2.2.2 3 x2
    refine fb_if_le (tgt := 23) C i5 dX0_startAtMarks_16 (by decide) (fun c6 => ?_) (fun c6 => ?_)
    · have h := h.2 c6
      refine fb_iconst C dX0_startAtMarks_23 ?_
      exact tw_X0_startAtMarks_24 C hret h2 x2 0 _ _ _ _ w (lv_sub hl [0, 1, 2] rfl) ix2 (by decide) h
    · have h := h.1 c6
      refine fb_iconst C dX0_startAtMarks_19 ?_
      refine lv_goto (tgt := 24) C.1.1 C.1.2.1 dX0_startAtMarks_20 (by decide) ?_
      exact tw_X0_startAtMarks_24 C hret h2 x2 1 _ _ _ _ w (lv_sub hl [0, 1, 2] rfl) ix2 (by decide) h
theorem tl_X0_startAtMarks_2 (C : fb_C p s m args meth c G RX0 cX0_startAtMarks 4) (hret : fb_RV p l e rm_X0_startAtMarks s m args below meth c G cX0_startAtMarks Qm Q) : ∀ n : Nat, TT_X0_startAtMarks_2 p l e s m args below meth c Qm G (wl_X0_startAtMarks_2 Q n) := by
  intro n
  induction n with
  | zero => intro x2 σ H locs ls w hl ix2 h; exact h.elim
  | succ n ih => exact tw_X0_startAtMarks_2 C hret ih
set_option maxRecDepth 100000 in
set_option maxHeartbeats 4000000 in
theorem tw_X0_startAtMarks_0 (C : fb_C p s m args meth c G RX0 cX0_startAtMarks 4) (hret : fb_RV p l e rm_X0_startAtMarks s m args below meth c G cX0_startAtMarks Qm Q) : TT_X0_startAtMarks_0 p l e s m args below meth c Qm G (fun σ => wp_X0_startAtMarks σ Q) := by
  intro σ H locs ls w hl h
  unfold wp_X0_startAtMarks at h
  refine fb_iconst C dX0_startAtMarks_0 ?_
  refine lv_istore_n (lv' := [(2, .int (fb_I 0)), (0, .ref (fb_ad G 8)), (1, .ref (fb_ad G 1))]) C.1.1 C.1.2.1 dX0_startAtMarks_1 rfl hl (by decide) rfl (fun ls hl => ?_)
  obtain ⟨n, h⟩ := h
  exact tl_X0_startAtMarks_2 C hret n 0 _ _ _ _ w (lv_sub hl [1, 2, 0] rfl) (by decide) h
theorem ct_X0_startAtMarks (l : Launch) (G : fb_G) {σ : fb_St} (h : wp_X0_startAtMarks σ Q) : fb_MV l G yX0_startAtMarks cX0_startAtMarks 4 rm_X0_startAtMarks [.ref (fb_ad G 8), .ref (fb_ad G 1)] σ Q := by
  refine fb_ofW (own := RX0) (by decide) (Nat.le_of_ble_eq_true rfl) rfl (fun p e s m args below meth c ls C hr hl w => ?_)
  exact tw_X0_startAtMarks_0 C (fb_retv C hr) _ _ _ _ w hl h
end S_X0_startAtMarks
section S_X2_add
variable {p : Program} {l : Launch} {e : Env} {s : State} {m : MethodId} {args : Array Value} {below : List Frame} {meth : Method} {c : Code} {Qm : State → Prop} {G : fb_G} {Q : Int → fb_St → Prop}
abbrev TT_X2_add_39 (p : Program) (l : Launch) (e : Env) (s : State) (m : MethodId) (args : Array Value) (below : List Frame) (meth : Method) (c : Code) (Qm : State → Prop) (G : fb_G) (r : Int → Int → fb_St → Prop) : Prop := ∀ (x1 x2 : Int) (σ : fb_St) (H : Heap) (locs : List Loc) (ls : Array Slot), fb_Wd G s σ H locs → lv_has ls 3 [(0, .ref (fb_ad G 13)), (1, .int (fb_I x1)), (2, .int (fb_I x2))] → fb_in x1 → fb_in x2 → r x1 x2 σ → W p l e rm_X2_add s m args below meth c H locs 0 0 Qm (F0 m 39 ls [])
abbrev TT_X2_add_0 (p : Program) (l : Launch) (e : Env) (s : State) (m : MethodId) (args : Array Value) (below : List Frame) (meth : Method) (c : Code) (Qm : State → Prop) (G : fb_G) (r : Int → Int → fb_St → Prop) : Prop := ∀ (x1 x2 : Int) (σ : fb_St) (H : Heap) (locs : List Loc) (ls : Array Slot), fb_Wd G s σ H locs → lv_has ls 3 [(0, .ref (fb_ad G 13)), (1, .int (fb_I x1)), (2, .int (fb_I x2))] → fb_in x1 → fb_in x2 → r x1 x2 σ → W p l e rm_X2_add s m args below meth c H locs 0 0 Qm (F0 m 0 ls [])
set_option maxRecDepth 100000 in
set_option maxHeartbeats 4000000 in
theorem tw_X2_add_39 (C : fb_C p s m args meth c G RX2 cX2_add 3) (hret : fb_RV p l e rm_X2_add s m args below meth c G cX2_add Qm Q) : TT_X2_add_39 p l e s m args below meth c Qm G (wj_X2_add_39 Q) := by
  intro x1 x2 σ H locs ls w hl ix1 ix2 h
  unfold wj_X2_add_39 at h
  refine lv_aload_n C.1.1 C.1.2.1 dX2_add_39 rfl (lv_at hl 0 rfl) ?_
  refine fb_getr (k2 := 15) C w (fb_k13 C) rfl fl_X2_15 dX2_add_40 ?_
  refine lv_iload_n C.1.1 C.1.2.1 dX2_add_43 rfl (lv_at hl 2 rfl) ?_
  refine lv_iload_n C.1.1 C.1.2.1 dX2_add_44 rfl (lv_at hl 1 rfl) ?_
  obtain ⟨z17, z18, h⟩ := h
  refine fb_as C w 100 (fb_k15 C) rfl rfl ix1 z17 z18 dX2_add_45 (fun σ19 H locs eσ19 w => ?_)
  have h := h σ19 eσ19
  exact hret _ _ _ _ _ h w dX2_add_46
set_option maxRecDepth 100000 in
set_option maxHeartbeats 4000000 in
theorem tw_X2_add_0 (C : fb_C p s m args meth c G RX2 cX2_add 3) (hret : fb_RV p l e rm_X2_add s m args below meth c G cX2_add Qm Q) : TT_X2_add_0 p l e s m args below meth c Qm G (fun x1 x2 σ => wp_X2_add x1 x2 σ Q) := by
  intro x1 x2 σ H locs ls w hl ix1 ix2 h
  unfold wp_X2_add at h
  refine lv_aload_n C.1.1 C.1.2.1 dX2_add_0 rfl (lv_at hl 0 rfl) ?_
  refine fb_getr (k2 := 16) C w (fb_k13 C) rfl fl_X2_18 dX2_add_1 ?_
  refine lv_iload_n C.1.1 C.1.2.1 dX2_add_4 rfl (lv_at hl 1 rfl) ?_
  refine fb_iconst C dX2_add_5 ?_
  obtain ⟨z1, z2, h⟩ := h
  refine fb_as C w 144 (fb_k16 C) rfl rfl (by decide) z1 z2 dX2_add_6 (fun σ3 H locs eσ3 w => ?_)
  have h := h σ3 eσ3
  refine lv_aload_n C.1.1 C.1.2.1 dX2_add_7 rfl (lv_at hl 0 rfl) ?_
  refine fb_getr (k2 := 14) C w (fb_k13 C) rfl fl_X2_9 dX2_add_8 ?_
  refine lv_iload_n C.1.1 C.1.2.1 dX2_add_11 rfl (lv_at hl 2 rfl) ?_
  obtain ⟨z4, z5, h⟩ := h
  refine fb_al C w 100 (fb_k14 C) rfl rfl z4 z5 dX2_add_12 ?_
  have i6 := w.2.2.2 14 x2
  refine fb_iconst C dX2_add_13 ?_
  refine fb_icmp_ne (tgt := 27) C i6 (by decide) dX2_add_14 (by decide) (fun c7 => ?_) (fun c7 => ?_)
  · have h := h.2 c7
    refine lv_aload_n C.1.1 C.1.2.1 dX2_add_27 rfl (lv_at hl 0 rfl) ?_
    refine fb_getr (k2 := 16) C w (fb_k13 C) rfl fl_X2_18 dX2_add_28 ?_
    refine lv_aload_n C.1.1 C.1.2.1 dX2_add_31 rfl (lv_at hl 0 rfl) ?_
    refine fb_getr (k2 := 15) C w (fb_k13 C) rfl fl_X2_15 dX2_add_32 ?_
    refine lv_iload_n C.1.1 C.1.2.1 dX2_add_35 rfl (lv_at hl 2 rfl) ?_
    obtain ⟨z8, z9, h⟩ := h
    refine fb_al C w 100 (fb_k15 C) rfl rfl z8 z9 dX2_add_36 ?_
    have i10 := w.2.2.2 15 x2
    refine lv_iload_n C.1.1 C.1.2.1 dX2_add_37 rfl (lv_at hl 1 rfl) ?_
    obtain ⟨z11, z12, h⟩ := h
    refine fb_as C w 144 (fb_k16 C) rfl rfl ix1 z11 z12 dX2_add_38 (fun σ13 H locs eσ13 w => ?_)
    have h := h σ13 eσ13
    exact tw_X2_add_39 C hret x1 x2 _ _ _ _ w (lv_sub hl [0, 1, 2] rfl) ix1 ix2 h
  · have h := h.1 c7
    refine lv_aload_n C.1.1 C.1.2.1 dX2_add_17 rfl (lv_at hl 0 rfl) ?_
    refine fb_getr (k2 := 14) C w (fb_k13 C) rfl fl_X2_9 dX2_add_18 ?_
    refine lv_iload_n C.1.1 C.1.2.1 dX2_add_21 rfl (lv_at hl 2 rfl) ?_
    refine lv_iload_n C.1.1 C.1.2.1 dX2_add_22 rfl (lv_at hl 1 rfl) ?_
    obtain ⟨z14, z15, h⟩ := h
    refine fb_as C w 100 (fb_k14 C) rfl rfl ix1 z14 z15 dX2_add_23 (fun σ16 H locs eσ16 w => ?_)
    have h := h σ16 eσ16
    refine lv_goto (tgt := 39) C.1.1 C.1.2.1 dX2_add_24 (by decide) ?_
    exact tw_X2_add_39 C hret x1 x2 _ _ _ _ w (lv_sub hl [0, 1, 2] rfl) ix1 ix2 h
theorem ct_X2_add (l : Launch) (G : fb_G) {x1 : Int} {x2 : Int} {σ : fb_St} (ix1 : fb_in x1) (ix2 : fb_in x2) (h : wp_X2_add x1 x2 σ Q) : fb_MV l G yX2_add cX2_add 3 rm_X2_add [.ref (fb_ad G 13), .int (fb_I x1), .int (fb_I x2)] σ Q := by
  refine fb_ofW (own := RX2) (by decide) (Nat.le_of_ble_eq_true rfl) rfl (fun p e s m args below meth c ls C hr hl w => ?_)
  exact tw_X2_add_0 C (fb_retv C hr) _ _ _ _ _ _ w hl ix1 ix2 h
end S_X2_add
