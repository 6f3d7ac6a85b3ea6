section S_X7_in
variable {p : Program} {l : Launch} {e : Env} {s : State} {m : MethodId} {args : Array Value} {below : List Frame} {meth : Method} {c : Code} {Qm : State → Prop} {G : fb_G} {Q : Int → fb_St → Prop}
abbrev TT_X7_in_15 (p : Program) (l : Launch) (e : Env) (s : State) (m : MethodId) (args : Array Value) (below : List Frame) (meth : Method) (c : Code) (Qm : State → Prop) (G : fb_G) (r : Int → fb_St → Prop) : Prop := ∀ (s0 : Int) (σ : fb_St) (H : Heap) (locs : List Loc) (ls : Array Slot), fb_Wd G s σ H locs → lv_has ls 3 [] → fb_in s0 → r s0 σ → W p l e rm_X7_in s m args below meth c H locs 0 0 Qm (F0 m 15 ls [.int (fb_I s0)])
abbrev TT_X7_in_14 (p : Program) (l : Launch) (e : Env) (s : State) (m : MethodId) (args : Array Value) (below : List Frame) (meth : Method) (c : Code) (Qm : State → Prop) (G : fb_G) (r : fb_St → Prop) : Prop := ∀ (σ : fb_St) (H : Heap) (locs : List Loc) (ls : Array Slot), fb_Wd G s σ H locs → lv_has ls 3 [] → r σ → W p l e rm_X7_in s m args below meth c H locs 0 0 Qm (F0 m 14 ls [])
abbrev TT_X7_in_0 (p : Program) (l : Launch) (e : Env) (s : State) (m : MethodId) (args : Array Value) (below : List Frame) (meth : Method) (c : Code) (Qm : State → Prop) (G : fb_G) (r : Int → Int → Int → fb_St → Prop) : Prop := ∀ (x0 x1 x2 : Int) (σ : fb_St) (H : Heap) (locs : List Loc) (ls : Array Slot), fb_Wd G s σ H locs → lv_has ls 3 [(0, .int (fb_I x0)), (1, .int (fb_I x1)), (2, .int (fb_I x2))] → fb_in x0 → fb_in x1 → fb_in x2 → r x0 x1 x2 σ → W p l e rm_X7_in s m args below meth c H locs 0 0 Qm (F0 m 0 ls [])
set_option maxRecDepth 100000 in
set_option maxHeartbeats 4000000 in
theorem tw_X7_in_15 (C : fb_C p s m args meth c G RX7 cX7_in 3) (hret : fb_RZ p l e rm_X7_in s m args below meth c G cX7_in Qm Q) : TT_X7_in_15 p l e s m args below meth c Qm G (wj_X7_in_15 Q) := by
  intro s0 σ H locs ls w hl is0 h
  unfold wj_X7_in_15 at h
  obtain ⟨z3, h⟩ := h
  exact hret _ _ _ _ _ _ is0 z3 h w dX7_in_15
set_option maxRecDepth 100000 in
set_option maxHeartbeats 4000000 in
theorem tw_X7_in_14 (C : fb_C p s m args meth c G RX7 cX7_in 3) (hret : fb_RZ p l e rm_X7_in s m args below meth c G cX7_in Qm Q) : TT_X7_in_14 p l e s m args below meth c Qm G (wj_X7_in_14 Q) := by
  intro σ H locs ls w hl h
  unfold wj_X7_in_14 at h
  refine fb_iconst C dX7_in_14 ?_
  exact tw_X7_in_15 C hret 0 _ _ _ _ w (lv_sub hl [] rfl) (by decide) h
set_option maxRecDepth 100000 in
set_option maxHeartbeats 4000000 in
theorem tw_X7_in_0 (C : fb_C p s m args meth c G RX7 cX7_in 3) (hret : fb_RZ p l e rm_X7_in s m args below meth c G cX7_in Qm Q) : TT_X7_in_0 p l e s m args below meth c Qm G (fun x0 x1 x2 σ => wp_X7_in x0 x1 x2 σ Q) := by
  intro x0 x1 x2 σ H locs ls w hl ix0 ix1 ix2 h
  unfold wp_X7_in at h
  refine lv_iload_n C.1.1 C.1.2.1 dX7_in_0 rfl (lv_at hl 0 rfl) ?_
  refine lv_iload_n C.1.1 C.1.2.1 dX7_in_1 rfl (lv_at hl 1 rfl) ?_
  refine fb_icmp_lt (tgt := 14) C ix0 ix1 dX7_in_2 (by decide) (fun c1 => ?_) (fun c1 => ?_)
  · have h := h.1 c1
    exact tw_X7_in_14 C hret _ _ _ _ w (lv_sub hl [] rfl) h
  · have h := h.2 c1
    refine lv_iload_n C.1.1 C.1.2.1 dX7_in_5 rfl (lv_at hl 0 rfl) ?_
    refine lv_iload_n C.1.1 C.1.2.1 dX7_in_6 rfl (lv_at hl 2 rfl) ?_
    refine fb_icmp_gt (tgt := 14) C ix0 ix2 dX7_in_7 (by decide) (fun c2 => ?_) (fun c2 => ?_)
    · have h := h.1 c2
      exact tw_X7_in_14 C hret _ _ _ _ w (lv_sub hl [] rfl) h
    · have h := h.2 c2
      refine fb_iconst C dX7_in_10 ?_
      refine lv_goto (tgt := 15) C.1.1 C.1.2.1 dX7_in_11 (by decide) ?_
      exact tw_X7_in_15 C hret 1 _ _ _ _ w (lv_sub hl [] rfl) (by decide) h
theorem ct_X7_in (l : Launch) (G : fb_G) {x0 : Int} {x1 : Int} {x2 : Int} {σ : fb_St} (ix0 : fb_in x0) (ix1 : fb_in x1) (ix2 : fb_in x2) (h : wp_X7_in x0 x1 x2 σ Q) : fb_MI l G yX7_in cX7_in 3 (some .boolean) rm_X7_in [.int (fb_I x0), .int (fb_I x1), .int (fb_I x2)] σ Q := by
  refine fb_ofW (own := RX7) (by decide) (Nat.le_of_ble_eq_true rfl) rfl (fun p e s m args below meth c ls C hr hl w => ?_)
  exact tw_X7_in_0 C (fb_retz C hr) _ _ _ _ _ _ _ w hl ix0 ix1 ix2 h
end S_X7_in
section S_X7_isDot
variable {p : Program} {l : Launch} {e : Env} {s : State} {m : MethodId} {args : Array Value} {below : List Frame} {meth : Method} {c : Code} {Qm : State → Prop} {G : fb_G} {Q : Int → fb_St → Prop}
abbrev TT_X7_isDot_41 (p : Program) (l : Launch) (e : Env) (s : State) (m : MethodId) (args : Array Value) (below : List Frame) (meth : Method) (c : Code) (Qm : State → Prop) (G : fb_G) (r : Int → fb_St → Prop) : Prop := ∀ (s0 : Int) (σ : fb_St) (H : Heap) (locs : List Loc) (ls : Array Slot), fb_Wd G s σ H locs → lv_has ls 3 [] → fb_in s0 → r s0 σ → W p l e rm_X7_isDot s m args below meth c H locs 0 0 Qm (F0 m 41 ls [.int (fb_I s0)])
abbrev TT_X7_isDot_40 (p : Program) (l : Launch) (e : Env) (s : State) (m : MethodId) (args : Array Value) (below : List Frame) (meth : Method) (c : Code) (Qm : State → Prop) (G : fb_G) (r : fb_St → Prop) : Prop := ∀ (σ : fb_St) (H : Heap) (locs : List Loc) (ls : Array Slot), fb_Wd G s σ H locs → lv_has ls 3 [] → r σ → W p l e rm_X7_isDot s m args below meth c H locs 0 0 Qm (F0 m 40 ls [])
abbrev TT_X7_isDot_0 (p : Program) (l : Launch) (e : Env) (s : State) (m : MethodId) (args : Array Value) (below : List Frame) (meth : Method) (c : Code) (Qm : State → Prop) (G : fb_G) (r : Int → Int → fb_St → Prop) : Prop := ∀ (x1 x2 : Int) (σ : fb_St) (H : Heap) (locs : List Loc) (ls : Array Slot), fb_Wd G s σ H locs → lv_has ls 3 [(0, .ref (fb_ad G 48)), (1, .int (fb_I x1)), (2, .int (fb_I x2))] → fb_in x1 → fb_in x2 → r x1 x2 σ → W p l e rm_X7_isDot s m args below meth c H locs 0 0 Qm (F0 m 0 ls [])
set_option maxRecDepth 100000 in
set_option maxHeartbeats 4000000 in
theorem tw_X7_isDot_41 (C : fb_C p s m args meth c G RX7 cX7_isDot 3) (hret : fb_RZ p l e rm_X7_isDot s m args below meth c G cX7_isDot Qm Q) : TT_X7_isDot_41 p l e s m args below meth c Qm G (wj_X7_isDot_41 Q) := by
  intro s0 σ H locs ls w hl is0 h
  unfold wj_X7_isDot_41 at h
  obtain ⟨z9, h⟩ := h
  exact hret _ _ _ _ _ _ is0 z9 h w dX7_isDot_41
set_option maxRecDepth 100000 in
set_option maxHeartbeats 4000000 in
theorem tw_X7_isDot_40 (C : fb_C p s m args meth c G RX7 cX7_isDot 3) (hret : fb_RZ p l e rm_X7_isDot s m args below meth c G cX7_isDot Qm Q) : TT_X7_isDot_40 p l e s m args below meth c Qm G (wj_X7_isDot_40 Q) := by
  intro σ H locs ls w hl h
  unfold wj_X7_isDot_40 at h
  refine fb_iconst C dX7_isDot_40 ?_
  exact tw_X7_isDot_41 C hret 0 _ _ _ _ w (lv_sub hl [] rfl) (by decide) h
set_option maxRecDepth 100000 in
set_option maxHeartbeats 4000000 in
theorem tw_X7_isDot_0 (C : fb_C p s m args meth c G RX7 cX7_isDot 3) (hret : fb_RZ p l e rm_X7_isDot s m args below meth c G cX7_isDot Qm Q) : TT_X7_isDot_0 p l e s m args below meth c Qm G (fun x1 x2 σ => wp_X7_isDot x1 x2 σ Q) := by
  intro x1 x2 σ H locs ls w hl ix1 ix2 h
  unfold wp_X7_isDot at h
  refine lv_iload_n C.1.1 C.1.2.1 dX7_isDot_0 rfl (lv_at hl 1 rfl) ?_
  refine fb_iconst C dX7_isDot_1 ?_
  refine lv_aload_n C.1.1 C.1.2.1 dX7_isDot_2 rfl (lv_at hl 0 rfl) ?_
  refine fb_getr (k2 := 49) C w (fb_k48 C) rfl fl_X7_7 dX7_isDot_3 ?_
  refine fb_sipush C dX7_isDot_6 (by decide) ?_
  refine fb_al C w 292 (fb_k49 C) rfl rfl (by decide) (by decide) dX7_isDot_9 ?_
  have i1 := w.2.2.2 49 288
  refine fb_iconst C dX7_isDot_10 ?_
  obtain ⟨i2, h⟩ := h
  refine fb_isub C dX7_isDot_11 ?_
  refine fb_callSi (As := [.int (fb_I x1), .int (fb_I 0), .int (fb_I ((σ 49 288) - 1))]) (rest := []) C w (ct_X7_in l G ix1 (by decide) i2 h) ms_X7_65 ⟨rfl, rfl, Nat.le_of_ble_eq_true rfl, Nat.le_of_ble_eq_true rfl, Nat.zero_le _, Nat.zero_le _⟩ rfl hl.1 rfl (Nat.le_of_ble_eq_true rfl) dX7_isDot_12 (fun a3 σ3 H locs h ia3 w => ?_)
  refine fb_if_eq (tgt := 40) C ia3 dX7_isDot_15 (by decide) (fun c4 => ?_) (fun c4 => ?_)
  · have h := h.1 c4
    exact tw_X7_isDot_40 C hret _ _ _ _ w (lv_sub hl [] rfl) h
  · have h := h.2 c4
    refine lv_iload_n C.1.1 C.1.2.1 dX7_isDot_18 rfl (lv_at hl 2 rfl) ?_
    refine fb_iconst C dX7_isDot_19 ?_
    refine lv_aload_n C.1.1 C.1.2.1 dX7_isDot_20 rfl (lv_at hl 0 rfl) ?_
    refine fb_getr (k2 := 49) C w (fb_k48 C) rfl fl_X7_7 dX7_isDot_21 ?_
    refine fb_sipush C dX7_isDot_24 (by decide) ?_
    refine fb_al C w 292 (fb_k49 C) rfl rfl (by decide) (by decide) dX7_isDot_27 ?_
    have i5 := w.2.2.2 49 289
    refine fb_iconst C dX7_isDot_28 ?_
    obtain ⟨i6, h⟩ := h
    refine fb_isub C dX7_isDot_29 ?_
    refine fb_callSi (As := [.int (fb_I x2), .int (fb_I 0), .int (fb_I ((σ3 49 289) - 1))]) (rest := []) C w (ct_X7_in l G ix2 (by decide) i6 h) ms_X7_65 ⟨rfl, rfl, Nat.le_of_ble_eq_true rfl, Nat.le_of_ble_eq_true rfl, Nat.zero_le _, Nat.zero_le _⟩ rfl hl.1 rfl (Nat.le_of_ble_eq_true rfl) dX7_isDot_30 (fun a7 σ7 H locs h ia7 w => ?_)
    refine fb_if_eq (tgt := 40) C ia7 dX7_isDot_33 (by decide) (fun c8 => ?_) (fun c8 => ?_)
    · have h := h.1 c8
      exact tw_X7_isDot_40 C hret _ _ _ _ w (lv_sub hl [] rfl) h
    · have h := h.2 c8
      refine fb_iconst C dX7_isDot_36 ?_
      refine lv_goto (tgt := 41) C.1.1 C.1.2.1 dX7_isDot_37 (by decide) ?_
      exact tw_X7_isDot_41 C hret 1 _ _ _ _ w (lv_sub hl [] rfl) (by decide) h
theorem ct_X7_isDot (l : Launch) (G : fb_G) {x1 : Int} {x2 : Int} {σ : fb_St} (ix1 : fb_in x1) (ix2 : fb_in x2) (h : wp_X7_isDot x1 x2 σ Q) : fb_MI l G yX7_isDot cX7_isDot 3 (some .boolean) rm_X7_isDot [.ref (fb_ad G 48), .int (fb_I x1), .int (fb_I x2)] σ Q := by
  refine fb_ofW (own := RX7) (by decide) (Nat.le_of_ble_eq_true rfl) rfl (fun p e s m args below meth c ls C hr hl w => ?_)
  exact tw_X7_isDot_0 C (fb_retz C hr) _ _ _ _ _ _ w hl ix1 ix2 h
end S_X7_isDot
section S_X7_dots
variable {p : Program} {l : Launch} {e : Env} {s : State} {m : MethodId} {args : Array Value} {below : List Frame} {meth : Method} {c : Code} {Qm : State → Prop} {G : fb_G} {Q : Int → fb_St → Prop}
abbrev TT_X7_dots_0 (p : Program) (l : Launch) (e : Env) (s : State) (m : MethodId) (args : Array Value) (below : List Frame) (meth : Method) (c : Code) (Qm : State → Prop) (G : fb_G) (r : fb_St → Prop) : Prop := ∀ (σ : fb_St) (H : Heap) (locs : List Loc) (ls : Array Slot), fb_Wd G s σ H locs → lv_has ls 1 [(0, .ref (fb_ad G 48))] → r σ → W p l e rm_X7_dots s m args below meth c H locs 0 0 Qm (F0 m 0 ls [])
set_option maxRecDepth 100000 in
set_option maxHeartbeats 4000000 in
theorem tw_X7_dots_0 (C : fb_C p s m args meth c G RX7 cX7_dots 1) (hret : fb_RI p l e rm_X7_dots s m args below meth c G cX7_dots Qm Q) : TT_X7_dots_0 p l e s m args below meth c Qm G (fun σ => wp_X7_dots σ Q) := by
  intro σ H locs ls w hl h
  unfold wp_X7_dots at h
  refine lv_aload_n C.1.1 C.1.2.1 dX7_dots_0 rfl (lv_at hl 0 rfl) ?_
  refine fb_getr (k2 := 49) C w (fb_k48 C) rfl fl_X7_7 dX7_dots_1 ?_
  refine fb_sipush C dX7_dots_4 (by decide) ?_
  refine fb_al C w 292 (fb_k49 C) rfl rfl (by decide) (by decide) dX7_dots_7 ?_
  have i1 := w.2.2.2 49 288
  refine lv_aload_n C.1.1 C.1.2.1 dX7_dots_8 rfl (lv_at hl 0 rfl) ?_
  refine fb_getr (k2 := 49) C w (fb_k48 C) rfl fl_X7_7 dX7_dots_9 ?_
  refine fb_sipush C dX7_dots_12 (by decide) ?_
  refine fb_al C w 292 (fb_k49 C) rfl rfl (by decide) (by decide) dX7_dots_15 ?_
  have i2 := w.2.2.2 49 289
  obtain ⟨i3, h⟩ := h
  refine fb_imul C dX7_dots_16 ?_
  exact hret _ _ _ _ _ _ i3 h w dX7_dots_17
theorem ct_X7_dots (l : Launch) (G : fb_G) {σ : fb_St} (h : wp_X7_dots σ Q) : fb_MI l G yX7_dots cX7_dots 1 (some .int) rm_X7_dots [.ref (fb_ad G 48)] σ Q := by
  refine fb_ofW (own := RX7) (by decide) (Nat.le_of_ble_eq_true rfl) rfl (fun p e s m args below meth c ls C hr hl w => ?_)
  exact tw_X7_dots_0 C (fb_reti C hr) _ _ _ _ w hl h
end S_X7_dots
section S_X7_at
variable {p : Program} {l : Launch} {e : Env} {s : State} {m : MethodId} {args : Array Value} {below : List Frame} {meth : Method} {c : Code} {Qm : State → Prop} {G : fb_G} {Q : Int → fb_St → Prop}
abbrev TT_X7_at_0 (p : Program) (l : Launch) (e : Env) (s : State) (m : MethodId) (args : Array Value) (below : List Frame) (meth : Method) (c : Code) (Qm : State → Prop) (G : fb_G) (r : Int → Int → fb_St → Prop) : Prop := ∀ (x1 x2 : Int) (σ : fb_St) (H : Heap) (locs : List Loc) (ls : Array Slot), fb_Wd G s σ H locs → lv_has ls 3 [(0, .ref (fb_ad G 48)), (1, .int (fb_I x1)), (2, .int (fb_I x2))] → fb_in x1 → fb_in x2 → r x1 x2 σ → W p l e rm_X7_at s m args below meth c H locs 0 0 Qm (F0 m 0 ls [])
set_option maxRecDepth 100000 in
set_option maxHeartbeats 4000000 in
theorem tw_X7_at_0 (C : fb_C p s m args meth c G RX7 cX7_at 3) (hret : fb_RI p l e rm_X7_at s m args below meth c G cX7_at Qm Q) : TT_X7_at_0 p l e s m args below meth c Qm G (fun x1 x2 σ => wp_X7_at x1 x2 σ Q) := by
  intro x1 x2 σ H locs ls w hl ix1 ix2 h
  unfold wp_X7_at at h
  refine lv_aload_n C.1.1 C.1.2.1 dX7_at_0 rfl (lv_at hl 0 rfl) ?_
  refine fb_getr (k2 := 49) C w (fb_k48 C) rfl fl_X7_7 dX7_at_1 ?_
  refine fb_sipush C dX7_at_4 (by decide) ?_
  refine fb_al C w 292 (fb_k49 C) rfl rfl (by decide) (by decide) dX7_at_7 ?_
  have i1 := w.2.2.2 49 288
  refine lv_iload_n C.1.1 C.1.2.1 dX7_at_8 rfl (lv_at hl 2 rfl) ?_
  obtain ⟨i2, h⟩ := h
  refine fb_imul C dX7_at_9 ?_
  refine lv_iload_n C.1.1 C.1.2.1 dX7_at_10 rfl (lv_at hl 1 rfl) ?_
  obtain ⟨i3, h⟩ := h
  refine fb_iadd C dX7_at_11 ?_
  exact hret _ _ _ _ _ _ i3 h w dX7_at_12
theorem ct_X7_at (l : Launch) (G : fb_G) {x1 : Int} {x2 : Int} {σ : fb_St} (ix1 : fb_in x1) (ix2 : fb_in x2) (h : wp_X7_at x1 x2 σ Q) : fb_MI l G yX7_at cX7_at 3 (some .int) rm_X7_at [.ref (fb_ad G 48), .int (fb_I x1), .int (fb_I x2)] σ Q := by
  refine fb_ofW (own := RX7) (by decide) (Nat.le_of_ble_eq_true rfl) rfl (fun p e s m args below meth c ls C hr hl w => ?_)
  exact tw_X7_at_0 C (fb_reti C hr) _ _ _ _ _ _ w hl ix1 ix2 h
end S_X7_at
section S_X7_beside
variable {p : Program} {l : Launch} {e : Env} {s : State} {m : MethodId} {args : Array Value} {below : List Frame} {meth : Method} {c : Code} {Qm : State → Prop} {G : fb_G} {Q : Int → fb_St → Prop}
abbrev TT_X7_beside_84 (p : Program) (l : Launch) (e : Env) (s : State) (m : MethodId) (args : Array Value) (below : List Frame) (meth : Method) (c : Code) (Qm : State → Prop) (G : fb_G) (r : Int → fb_St → Prop) : Prop := ∀ (s0 : Int) (σ : fb_St) (H : Heap) (locs : List Loc) (ls : Array Slot), fb_Wd G s σ H locs → lv_has ls 5 [] → fb_in s0 → r s0 σ → W p l e rm_X7_beside s m args below meth c H locs 0 0 Qm (F0 m 84 ls [.int (fb_I s0)])
abbrev TT_X7_beside_59 (p : Program) (l : Launch) (e : Env) (s : State) (m : MethodId) (args : Array Value) (below : List Frame) (meth : Method) (c : Code) (Qm : State → Prop) (G : fb_G) (r : Int → Int → Int → fb_St → Prop) : Prop := ∀ (x3 s0 s1 : Int) (σ : fb_St) (H : Heap) (locs : List Loc) (ls : Array Slot), fb_Wd G s σ H locs → lv_has ls 5 [(0, .ref (fb_ad G 48)), (3, .int (fb_I x3))] → fb_in x3 → fb_in s0 → fb_in s1 → r x3 s0 s1 σ → W p l e rm_X7_beside s m args below meth c H locs 0 0 Qm (F0 m 59 ls [.int (fb_I s0), .int (fb_I s1)])
abbrev TT_X7_beside_28 (p : Program) (l : Launch) (e : Env) (s : State) (m : MethodId) (args : Array Value) (below : List Frame) (meth : Method) (c : Code) (Qm : State → Prop) (G : fb_G) (r : Int → Int → Int → Int → fb_St → Prop) : Prop := ∀ (x1 x2 s0 s1 : Int) (σ : fb_St) (H : Heap) (locs : List Loc) (ls : Array Slot), fb_Wd G s σ H locs → lv_has ls 5 [(0, .ref (fb_ad G 48)), (1, .int (fb_I x1)), (2, .int (fb_I x2))] → fb_in x1 → fb_in x2 → fb_in s0 → fb_in s1 → r x1 x2 s0 s1 σ → W p l e rm_X7_beside s m args below meth c H locs 0 0 Qm (F0 m 28 ls [.int (fb_I s0), .int (fb_I s1)])
abbrev TT_X7_beside_0 (p : Program) (l : Launch) (e : Env) (s : State) (m : MethodId) (args : Array Value) (below : List Frame) (meth : Method) (c : Code) (Qm : State → Prop) (G : fb_G) (r : Int → Int → fb_St → Prop) : Prop := ∀ (x1 x2 : Int) (σ : fb_St) (H : Heap) (locs : List Loc) (ls : Array Slot), fb_Wd G s σ H locs → lv_has ls 5 [(0, .ref (fb_ad G 48)), (1, .int (fb_I x1)), (2, .int (fb_I x2))] → fb_in x1 → fb_in x2 → r x1 x2 σ → W p l e rm_X7_beside s m args below meth c H locs 0 0 Qm (F0 m 0 ls [])
set_option maxRecDepth 100000 in
set_option maxHeartbeats 4000000 in
theorem tw_X7_beside_84 (C : fb_C p s m args meth c G RX7 cX7_beside 5) (hret : fb_RI p l e rm_X7_beside s m args below meth c G cX7_beside Qm Q) : TT_X7_beside_84 p l e s m args below meth c Qm G (wj_X7_beside_84 Q) := by
  intro s0 σ H locs ls w hl is0 h
  unfold wj_X7_beside_84 at h
  exact hret _ _ _ _ _ _ is0 h w dX7_beside_84
set_option maxRecDepth 100000 in
set_option maxHeartbeats 4000000 in
theorem tw_X7_beside_59 (C : fb_C p s m args meth c G RX7 cX7_beside 5) (hret : fb_RI p l e rm_X7_beside s m args below meth c G cX7_beside Qm Q) : TT_X7_beside_59 p l e s m args below meth c Qm G (wj_X7_beside_59 Q) := by
  intro x3 s0 s1 σ H locs ls w hl ix3 is0 is1 h
  unfold wj_X7_beside_59 at h
  obtain ⟨i15, h⟩ := h
  refine fb_iadd C dX7_beside_59 ?_
  refine fb_top (fun v16 ev16 => ?_)
  have h := h v16 ev16
  have iv16 := fb_ie ev16 i15
  refine lv_istore (lv' := [(4, .int (fb_I v16)), (0, .ref (fb_ad G 48)), (3, .int (fb_I x3))]) C.1.1 C.1.2.1 dX7_beside_60 hl (by decide) rfl (fun ls hl => ?_)
  refine lv_aload_n C.1.1 C.1.2.1 dX7_beside_62 rfl (lv_at hl 1 rfl) ?_
  refine lv_iload_n C.1.1 C.1.2.1 dX7_beside_63 rfl (lv_at hl 2 rfl) ?_
  refine lv_iload C.1.1 C.1.2.1 dX7_beside_64 (lv_at hl 0 rfl) ?_
  refine fb_callVi (As := [.int (fb_I x3), .int (fb_I v16)]) (rest := []) C w (ct_X7_isDot l G ix3 iv16 h) mv_X7_69 (fb_k48 C) rfl ⟨rfl, rfl, Nat.le_of_ble_eq_true rfl, Nat.le_of_ble_eq_true rfl, Nat.zero_le _, Nat.zero_le _⟩ rfl hl.1 rfl (Nat.le_of_ble_eq_true rfl) dX7_beside_66 (fun a17 σ17 H locs h ia17 w => ?_)
  refine fb_if_eq (tgt := 82) C ia17 dX7_beside_69 (by decide) (fun c18 => ?_) (fun c18 => ?_)
  · have h := h.1 c18
    refine fb_bipush C dX7_beside_82 (by decide) ?_
    exact tw_X7_beside_84 C hret (-6) _ _ _ _ w (lv_sub hl [] rfl) (by decide) h
  · have h := h.2 c18
    refine lv_aload_n C.1.1 C.1.2.1 dX7_beside_72 rfl (lv_at hl 1 rfl) ?_
    refine lv_iload_n C.1.1 C.1.2.1 dX7_beside_73 rfl (lv_at hl 2 rfl) ?_
    refine lv_iload C.1.1 C.1.2.1 dX7_beside_74 (lv_at hl 0 rfl) ?_
    refine fb_callVi (As := [.int (fb_I x3), .int (fb_I v16)]) (rest := []) C w (ct_X7_at l G ix3 iv16 h) mv_X7_73 (fb_k48 C) rfl ⟨rfl, rfl, Nat.le_of_ble_eq_true rfl, Nat.le_of_ble_eq_true rfl, Nat.zero_le _, Nat.zero_le _⟩ rfl hl.1 rfl (Nat.le_of_ble_eq_true rfl) dX7_beside_76 (fun a19 σ19 H locs h ia19 w => ?_)
    refine lv_goto (tgt := 84) C.1.1 C.1.2.1 dX7_beside_79 (by decide) ?_
    exact tw_X7_beside_84 C hret a19 _ _ _ _ w (lv_sub hl [] rfl) ia19 h
set_option maxRecDepth 100000 in
set_option maxHeartbeats 4000000 in
theorem tw_X7_beside_28 (C : fb_C p s m args meth c G RX7 cX7_beside 5) (hret : fb_RI p l e rm_X7_beside s m args below meth c G cX7_beside Qm Q) : TT_X7_beside_28 p l e s m args below meth c Qm G (wj_X7_beside_28 Q) := by
  intro x1 x2 s0 s1 σ H locs ls w hl ix1 ix2 is0 is1 h
  unfold wj_X7_beside_28 at h
  obtain ⟨i7, h⟩ := h
  refine fb_iadd C dX7_beside_28 ?_
  refine fb_top (fun v8 ev8 => ?_)
  have h := h v8 ev8
  have iv8 := fb_ie ev8 i7
  refine lv_istore_n (lv' := [(3, .int (fb_I v8)), (0, .ref (fb_ad G 48)), (1, .int (fb_I x1)), (2, .int (fb_I x2))]) C.1.1 C.1.2.1 dX7_beside_29 rfl hl (by decide) rfl (fun ls hl => ?_)
  refine lv_iload_n C.1.1 C.1.2.1 dX7_beside_30 rfl (lv_at hl 2 rfl) ?_
  refine lv_aload_n C.1.1 C.1.2.1 dX7_beside_31 rfl (lv_at hl 1 rfl) ?_
  refine fb_getr (k2 := 49) C w (fb_k48 C) rfl fl_X7_7 dX7_beside_32 ?_
  refine fb_sipush C dX7_beside_35 (by decide) ?_
  refine fb_al C w 292 (fb_k49 C) rfl rfl (by decide) (by decide) dX7_beside_38 ?_
  have i9 := w.2.2.2 49 288
  obtain ⟨z11, z12, i10, h⟩ := h
  refine fb_idiv C ix1 i9 z11 z12 dX7_beside_39 ?_
  refine lv_iload_n C.1.1 C.1.2.1 dX7_beside_40 rfl (lv_at hl 3 rfl) ?_
  refine fb_iconst C dX7_beside_41 ?_
  refine fb_icmp_ne (tgt := 49) C ix2 (by decide) dX7_beside_42 (by decide) (fun c13 => ?_) (fun c13 => ?_)
  · have h := h.2 c13
    refine lv_iload_n C.1.1 C.1.2.1 dX7_beside_49 rfl (lv_at hl 3 rfl) ?_
    refine fb_iconst C dX7_beside_50 ?_
    refine fb_icmp_ne (tgt := 58) C ix2 (by decide) dX7_beside_51 (by decide) (fun c14 => ?_) (fun c14 => ?_)
    · have h := h.2 c14
      refine fb_iconst C dX7_beside_58 ?_
      exact tw_X7_beside_59 C hret v8 0 (x1 / (σ 49 288)) _ _ _ _ w (lv_sub hl [1, 0] rfl) iv8 (by decide) i10 h
    · have h := h.1 c14
      refine fb_iconst C dX7_beside_54 ?_
      refine lv_goto (tgt := 59) C.1.1 C.1.2.1 dX7_beside_55 (by decide) ?_
      exact tw_X7_beside_59 C hret v8 (-1) (x1 / (σ 49 288)) _ _ _ _ w (lv_sub hl [1, 0] rfl) iv8 (by decide) i10 h
  · have h := h.1 c13
    refine fb_iconst C dX7_beside_45 ?_
    refine lv_goto (tgt := 59) C.1.1 C.1.2.1 dX7_beside_46 (by decide) ?_
    exact tw_X7_beside_59 C hret v8 1 (x1 / (σ 49 288)) _ _ _ _ w (lv_sub hl [1, 0] rfl) iv8 (by decide) i10 h
set_option maxRecDepth 100000 in
set_option maxHeartbeats 4000000 in
theorem tw_X7_beside_0 (C : fb_C p s m args meth c G RX7 cX7_beside 5) (hret : fb_RI p l e rm_X7_beside s m args below meth c G cX7_beside Qm Q) : TT_X7_beside_0 p l e s m args below meth c Qm G (fun x1 x2 σ => wp_X7_beside x1 x2 σ Q) := by
  intro x1 x2 σ H locs ls w hl ix1 ix2 h
  unfold wp_X7_beside at h
  refine lv_iload_n C.1.1 C.1.2.1 dX7_beside_0 rfl (lv_at hl 1 rfl) ?_
  refine lv_aload_n C.1.1 C.1.2.1 dX7_beside_1 rfl (lv_at hl 0 rfl) ?_
  refine fb_getr (k2 := 49) C w (fb_k48 C) rfl fl_X7_7 dX7_beside_2 ?_
  refine fb_sipush C dX7_beside_5 (by decide) ?_
  refine fb_al C w 292 (fb_k49 C) rfl rfl (by decide) (by decide) dX7_beside_8 ?_
  have i1 := w.2.2.2 49 288
  obtain ⟨z3, z4, i2, h⟩ := h
  refine fb_irem C ix1 i1 z3 z4 dX7_beside_9 ?_
  refine lv_iload_n C.1.1 C.1.2.1 dX7_beside_10 rfl (lv_at hl 2 rfl) ?_
  refine fb_if_ne (tgt := 18) C ix2 dX7_beside_11 (by decide) (fun c5 => ?_) (fun c5 => ?_)
  · have h := h.2 c5
    refine lv_iload_n C.1.1 C.1.2.1 dX7_beside_18 rfl (lv_at hl 2 rfl) ?_
    refine fb_iconst C dX7_beside_19 ?_
    refine fb_icmp_ne (tgt := 27) C ix2 (by decide) dX7_beside_20 (by decide) (fun c6 => ?_) (fun c6 => ?_)
    · have h := h.2 c6
      refine fb_iconst C dX7_beside_27 ?_
      exact tw_X7_beside_28 C hret x1 x2 0 (x1 % (σ 49 288)) _ _ _ _ w (lv_sub hl [0, 1, 2] rfl) ix1 ix2 (by decide) i2 h
    · have h := h.1 c6
      refine fb_iconst C dX7_beside_23 ?_
      refine lv_goto (tgt := 28) C.1.1 C.1.2.1 dX7_beside_24 (by decide) ?_
      exact tw_X7_beside_28 C hret x1 x2 (-1) (x1 % (σ 49 288)) _ _ _ _ w (lv_sub hl [0, 1, 2] rfl) ix1 ix2 (by decide) i2 h
  · have h := h.1 c5
    refine fb_iconst C dX7_beside_14 ?_
    refine lv_goto (tgt := 28) C.1.1 C.1.2.1 dX7_beside_15 (by decide) ?_
    exact tw_X7_beside_28 C hret x1 x2 1 (x1 % (σ 49 288)) _ _ _ _ w (lv_sub hl [0, 1, 2] rfl) ix1 ix2 (by decide) i2 h
theorem ct_X7_beside (l : Launch) (G : fb_G) {x1 : Int} {x2 : Int} {σ : fb_St} (ix1 : fb_in x1) (ix2 : fb_in x2) (h : wp_X7_beside x1 x2 σ Q) : fb_MI l G yX7_beside cX7_beside 5 (some .int) rm_X7_beside [.ref (fb_ad G 48), .int (fb_I x1), .int (fb_I x2)] σ Q := by
  refine fb_ofW (own := RX7) (by decide) (Nat.le_of_ble_eq_true rfl) rfl (fun p e s m args below meth c ls C hr hl w => ?_)
  exact tw_X7_beside_0 C (fb_reti C hr) _ _ _ _ _ _ w hl ix1 ix2 h
end S_X7_beside
section S_X7_greater
variable {p : Program} {l : Launch} {e : Env} {s : State} {m : MethodId} {args : Array Value} {below : List Frame} {meth : Method} {c : Code} {Qm : State → Prop} {G : fb_G} {Q : Int → fb_St → Prop}
abbrev TT_X7_greater_10 (p : Program) (l : Launch) (e : Env) (s : State) (m : MethodId) (args : Array Value) (below : List Frame) (meth : Method) (c : Code) (Qm : State → Prop) (G : fb_G) (r : Int → fb_St → Prop) : Prop := ∀ (s0 : Int) (σ : fb_St) (H : Heap) (locs : List Loc) (ls : Array Slot), fb_Wd G s σ H locs → lv_has ls 2 [] → fb_in s0 → r s0 σ → W p l e rm_X7_greater s m args below meth c H locs 0 0 Qm (F0 m 10 ls [.int (fb_I s0)])
abbrev TT_X7_greater_0 (p : Program) (l : Launch) (e : Env) (s : State) (m : MethodId) (args : Array Value) (below : List Frame) (meth : Method) (c : Code) (Qm : State → Prop) (G : fb_G) (r : Int → Int → fb_St → Prop) : Prop := ∀ (x0 x1 : Int) (σ : fb_St) (H : Heap) (locs : List Loc) (ls : Array Slot), fb_Wd G s σ H locs → lv_has ls 2 [(0, .int (fb_I x0)), (1, .int (fb_I x1))] → fb_in x0 → fb_in x1 → r x0 x1 σ → W p l e rm_X7_greater s m args below meth c H locs 0 0 Qm (F0 m 0 ls [])
set_option maxRecDepth 100000 in
set_option maxHeartbeats 4000000 in
theorem tw_X7_greater_10 (C : fb_C p s m args meth c G RX7 cX7_greater 2) (hret : fb_RI p l e rm_X7_greater s m args below meth c G cX7_greater Qm Q) : TT_X7_greater_10 p l e s m args below meth c Qm G (wj_X7_greater_10 Q) := by
  intro s0 σ H locs ls w hl is0 h
  unfold wj_X7_greater_10 at h
  exact hret _ _ _ _ _ _ is0 h w dX7_greater_10
set_option maxRecDepth 100000 in
set_option maxHeartbeats 4000000 in
theorem tw_X7_greater_0 (C : fb_C p s m args meth c G RX7 cX7_greater 2) (hret : fb_RI p l e rm_X7_greater s m args below meth c G cX7_greater Qm Q) : TT_X7_greater_0 p l e s m args below meth c Qm G (fun x0 x1 σ => wp_X7_greater x0 x1 σ Q) := by
  intro x0 x1 σ H locs ls w hl ix0 ix1 h
  unfold wp_X7_greater at h
  refine lv_iload_n C.1.1 C.1.2.1 dX7_greater_0 rfl (lv_at hl 0 rfl) ?_
  refine lv_iload_n C.1.1 C.1.2.1 dX7_greater_1 rfl (lv_at hl 1 rfl) ?_
  refine fb_icmp_le (tgt := 9) C ix0 ix1 dX7_greater_2 (by decide) (fun c1 => ?_) (fun c1 => ?_)
  · have h := h.2 c1
    refine lv_iload_n C.1.1 C.1.2.1 dX7_greater_9 rfl (lv_at hl 1 rfl) ?_
    exact tw_X7_greater_10 C hret x1 _ _ _ _ w (lv_sub hl [] rfl) ix1 h
  · have h := h.1 c1
    refine lv_iload_n C.1.1 C.1.2.1 dX7_greater_5 rfl (lv_at hl 0 rfl) ?_
    refine lv_goto (tgt := 10) C.1.1 C.1.2.1 dX7_greater_6 (by decide) ?_
    exact tw_X7_greater_10 C hret x0 _ _ _ _ w (lv_sub hl [] rfl) ix0 h
theorem ct_X7_greater (l : Launch) (G : fb_G) {x0 : Int} {x1 : Int} {σ : fb_St} (ix0 : fb_in x0) (ix1 : fb_in x1) (h : wp_X7_greater x0 x1 σ Q) : fb_MI l G yX7_greater cX7_greater 2 (some .int) rm_X7_greater [.int (fb_I x0), .int (fb_I x1)] σ Q := by
  refine fb_ofW (own := RX7) (by decide) (Nat.le_of_ble_eq_true rfl) rfl (fun p e s m args below meth c ls C hr hl w => ?_)
  exact tw_X7_greater_0 C (fb_reti C hr) _ _ _ _ _ _ w hl ix0 ix1 h
end S_X7_greater
section S_X7_size
variable {p : Program} {l : Launch} {e : Env} {s : State} {m : MethodId} {args : Array Value} {below : List Frame} {meth : Method} {c : Code} {Qm : State → Prop} {G : fb_G} {Q : Int → fb_St → Prop}
abbrev TT_X7_size_10 (p : Program) (l : Launch) (e : Env) (s : State) (m : MethodId) (args : Array Value) (below : List Frame) (meth : Method) (c : Code) (Qm : State → Prop) (G : fb_G) (r : Int → fb_St → Prop) : Prop := ∀ (s0 : Int) (σ : fb_St) (H : Heap) (locs : List Loc) (ls : Array Slot), fb_Wd G s σ H locs → lv_has ls 1 [] → fb_in s0 → r s0 σ → W p l e rm_X7_size s m args below meth c H locs 0 0 Qm (F0 m 10 ls [.int (fb_I s0)])
abbrev TT_X7_size_0 (p : Program) (l : Launch) (e : Env) (s : State) (m : MethodId) (args : Array Value) (below : List Frame) (meth : Method) (c : Code) (Qm : State → Prop) (G : fb_G) (r : Int → fb_St → Prop) : Prop := ∀ (x0 : Int) (σ : fb_St) (H : Heap) (locs : List Loc) (ls : Array Slot), fb_Wd G s σ H locs → lv_has ls 1 [(0, .int (fb_I x0))] → fb_in x0 → r x0 σ → W p l e rm_X7_size s m args below meth c H locs 0 0 Qm (F0 m 0 ls [])
set_option maxRecDepth 100000 in
set_option maxHeartbeats 4000000 in
theorem tw_X7_size_10 (C : fb_C p s m args meth c G RX7 cX7_size 1) (hret : fb_RI p l e rm_X7_size s m args below meth c G cX7_size Qm Q) : TT_X7_size_10 p l e s m args below meth c Qm G (wj_X7_size_10 Q) := by
  intro s0 σ H locs ls w hl is0 h
  unfold wj_X7_size_10 at h
  exact hret _ _ _ _ _ _ is0 h w dX7_size_10
set_option maxRecDepth 100000 in
set_option maxHeartbeats 4000000 in
theorem tw_X7_size_0 (C : fb_C p s m args meth c G RX7 cX7_size 1) (hret : fb_RI p l e rm_X7_size s m args below meth c G cX7_size Qm Q) : TT_X7_size_0 p l e s m args below meth c Qm G (fun x0 σ => wp_X7_size x0 σ Q) := by
  intro x0 σ H locs ls w hl ix0 h
  unfold wp_X7_size at h
  refine lv_iload_n C.1.1 C.1.2.1 dX7_size_0 rfl (lv_at hl 0 rfl) ?_
  refine fb_if_ge (tgt := 9) C ix0 dX7_size_1 (by decide) (fun c1 => ?_) (fun c1 => ?_)
  · have h := h.2 c1
    refine lv_iload_n C.1.1 C.1.2.1 dX7_size_9 rfl (lv_at hl 0 rfl) ?_
    exact tw_X7_size_10 C hret x0 _ _ _ _ w (lv_sub hl [] rfl) ix0 h
  · have h := h.1 c1
    refine lv_iload_n C.1.1 C.1.2.1 dX7_size_4 rfl (lv_at hl 0 rfl) ?_
    obtain ⟨i2, h⟩ := h
    refine fb_ineg C dX7_size_5 ?_
    refine lv_goto (tgt := 10) C.1.1 C.1.2.1 dX7_size_6 (by decide) ?_
    exact tw_X7_size_10 C hret (-x0) _ _ _ _ w (lv_sub hl [] rfl) i2 h
theorem ct_X7_size (l : Launch) (G : fb_G) {x0 : Int} {σ : fb_St} (ix0 : fb_in x0) (h : wp_X7_size x0 σ Q) : fb_MI l G yX7_size cX7_size 1 (some .int) rm_X7_size [.int (fb_I x0)] σ Q := by
  refine fb_ofW (own := RX7) (by decide) (Nat.le_of_ble_eq_true rfl) rfl (fun p e s m args below meth c ls C hr hl w => ?_)
  exact tw_X7_size_0 C (fb_reti C hr) _ _ _ _ _ w hl ix0 h
end S_X7_size
section S_X7_spread
variable {p : Program} {l : Launch} {e : Env} {s : State} {m : MethodId} {args : Array Value} {below : List Frame} {meth : Method} {c : Code} {Qm : State → Prop} {G : fb_G} {Q : Int → fb_St → Prop}
abbrev TT_X7_spread_140 (p : Program) (l : Launch) (e : Env) (s : State) (m : MethodId) (args : Array Value) (below : List Frame) (meth : Method) (c : Code) (Qm : State → Prop) (G : fb_G) (r : Int → Int → Int → Int → Int → fb_St → Prop) : Prop := ∀ (x2 x3 x4 x5 x6 : Int) (σ : fb_St) (H : Heap) (locs : List Loc) (ls : Array Slot), fb_Wd G s σ H locs → lv_has ls 8 [(0, .ref (fb_ad G 48)), (2, .int (fb_I x2)), (3, .int (fb_I x3)), (4, .int (fb_I x4)), (5, .int (fb_I x5)), (6, .int (fb_I x6))] → fb_in x2 → fb_in x3 → fb_in x4 → fb_in x5 → fb_in x6 → r x2 x3 x4 x5 x6 σ → W p l e rm_X7_spread s m args below meth c H locs 0 0 Qm (F0 m 140 ls [])
abbrev TT_X7_spread_120 (p : Program) (l : Launch) (e : Env) (s : State) (m : MethodId) (args : Array Value) (below : List Frame) (meth : Method) (c : Code) (Qm : State → Prop) (G : fb_G) (r : Int → Int → Int → Int → Int → Int → fb_St → Prop) : Prop := ∀ (x2 x3 x4 x5 x6 x7 : Int) (σ : fb_St) (H : Heap) (locs : List Loc) (ls : Array Slot), fb_Wd G s σ H locs → lv_has ls 8 [(0, .ref (fb_ad G 48)), (2, .int (fb_I x2)), (3, .int (fb_I x3)), (4, .int (fb_I x4)), (5, .int (fb_I x5)), (6, .int (fb_I x6)), (7, .int (fb_I x7))] → fb_in x2 → fb_in x3 → fb_in x4 → fb_in x5 → fb_in x6 → fb_in x7 → r x2 x3 x4 x5 x6 x7 σ → W p l e rm_X7_spread s m args below meth c H locs 0 0 Qm (F0 m 120 ls [])
abbrev TT_X7_spread_55 (p : Program) (l : Launch) (e : Env) (s : State) (m : MethodId) (args : Array Value) (below : List Frame) (meth : Method) (c : Code) (Qm : State → Prop) (G : fb_G) (r : Int → Int → Int → Int → Int → fb_St → Prop) : Prop := ∀ (x2 x3 x4 x5 x6 : Int) (σ : fb_St) (H : Heap) (locs : List Loc) (ls : Array Slot), fb_Wd G s σ H locs → lv_has ls 8 [(0, .ref (fb_ad G 48)), (2, .int (fb_I x2)), (3, .int (fb_I x3)), (4, .int (fb_I x4)), (5, .int (fb_I x5)), (6, .int (fb_I x6))] → fb_in x2 → fb_in x3 → fb_in x4 → fb_in x5 → fb_in x6 → r x2 x3 x4 x5 x6 σ → W p l e rm_X7_spread s m args below meth c H locs 0 0 Qm (F0 m 55 ls [])
abbrev TT_X7_spread_45 (p : Program) (l : Launch) (e : Env) (s : State) (m : MethodId) (args : Array Value) (below : List Frame) (meth : Method) (c : Code) (Qm : State → Prop) (G : fb_G) (r : Int → Int → Int → Int → fb_St → Prop) : Prop := ∀ (x2 x3 x4 x5 : Int) (σ : fb_St) (H : Heap) (locs : List Loc) (ls : Array Slot), fb_Wd G s σ H locs → lv_has ls 8 [(0, .ref (fb_ad G 48)), (2, .int (fb_I x2)), (3, .int (fb_I x3)), (4, .int (fb_I x4)), (5, .int (fb_I x5))] → fb_in x2 → fb_in x3 → fb_in x4 → fb_in x5 → r x2 x3 x4 x5 σ → W p l e rm_X7_spread s m args below meth c H locs 0 0 Qm (F0 m 45 ls [])
abbrev TT_X7_spread_3 (p : Program) (l : Launch) (e : Env) (s : State) (m : MethodId) (args : Array Value) (below : List Frame) (meth : Method) (c : Code) (Qm : State → Prop) (G : fb_G) (r : Int → Int → Int → Int → fb_St → Prop) : Prop := ∀ (x1 x2 x3 x4 : Int) (σ : fb_St) (H : Heap) (locs : List Loc) (ls : Array Slot), fb_Wd G s σ H locs → lv_has ls 8 [(0, .ref (fb_ad G 48)), (1, .int (fb_I x1)), (2, .int (fb_I x2)), (3, .int (fb_I x3)), (4, .int (fb_I x4))] → fb_in x1 → fb_in x2 → fb_in x3 → fb_in x4 → r x1 x2 x3 x4 σ → W p l e rm_X7_spread s m args below meth c H locs 0 0 Qm (F0 m 3 ls [])
abbrev TT_X7_spread_0 (p : Program) (l : Launch) (e : Env) (s : State) (m : MethodId) (args : Array Value) (below : List Frame) (meth : Method) (c : Code) (Qm : State → Prop) (G : fb_G) (r : Int → Int → Int → fb_St → Prop) : Prop := ∀ (x1 x2 x3 : Int) (σ : fb_St) (H : Heap) (locs : List Loc) (ls : Array Slot), fb_Wd G s σ H locs → lv_has ls 8 [(0, .ref (fb_ad G 48)), (1, .int (fb_I x1)), (2, .int (fb_I x2)), (3, .int (fb_I x3))] → fb_in x1 → fb_in x2 → fb_in x3 → r x1 x2 x3 σ → W p l e rm_X7_spread s m args below meth c H locs 0 0 Qm (F0 m 0 ls [])
set_option maxRecDepth 100000 in
set_option maxHeartbeats 4000000 in
theorem tw_X7_spread_140 (C : fb_C p s m args meth c G RX7 cX7_spread 8) (hret : fb_RI p l e rm_X7_spread s m args below meth c G cX7_spread Qm Q) {r45 : Int → Int → Int → Int → fb_St → Prop} (h45 : TT_X7_spread_45 p l e s m args below meth c Qm G r45) {r55 : Int → Int → Int → Int → Int → fb_St → Prop} (h55 : TT_X7_spread_55 p l e s m args below meth c Qm G r55) : TT_X7_spread_140 p l e s m args below meth c Qm G (wj_X7_spread_140 r45 r55 Q) := by
  intro x2 x3 x4 x5 x6 σ H locs ls w hl ix2 ix3 ix4 ix5 ix6 h
  unfold wj_X7_spread_140 at h
  obtain ⟨i31, h⟩ := h
  refine fb_iinc (b := x6 + 1) (k := 5) (lv' := [(6, .int (fb_I (x6 + 1))), (0, .ref (fb_ad G 48)), (2, .int (fb_I x2)), (3, .int (fb_I x3)), (4, .int (fb_I x4)), (5, .int (fb_I x5))]) C dX7_spread_140 hl rfl rfl (by decide) rfl (fun ls hl => ?_)
  refine lv_goto (tgt := 55) C.1.1 C.1.2.1 dX7_spread_143 (by decide) ?_
  exact h55 x2 x3 x4 x5 (x6 + 1) _ _ _ _ w (lv_sub hl [1, 2, 3, 4, 5, 0] rfl) ix2 ix3 ix4 ix5 i31 h
set_option maxRecDepth 100000 in
set_option maxHeartbeats 4000000 in
theorem tw_X7_spread_120 (C : fb_C p s m args meth c G RX7 cX7_spread 8) (hret : fb_RI p l e rm_X7_spread s m args below meth c G cX7_spread Qm Q) {r45 : Int → Int → Int → Int → fb_St → Prop} (h45 : TT_X7_spread_45 p l e s m args below meth c Qm G r45) {r55 : Int → Int → Int → Int → Int → fb_St → Prop} (h55 : TT_X7_spread_55 p l e s m args below meth c Qm G r55) : TT_X7_spread_120 p l e s m args below meth c Qm G (wj_X7_spread_120 r45 r55 Q) := by
  intro x2 x3 x4 x5 x6 x7 σ H locs ls w hl ix2 ix3 ix4 ix5 ix6 ix7 h
  unfold wj_X7_spread_120 at h
  refine lv_aload_n C.1.1 C.1.2.1 dX7_spread_120 rfl (lv_at hl 0 rfl) ?_
  refine fb_getr (k2 := 54) C w (fb_k48 C) rfl fl_X7_26 dX7_spread_121 ?_
  refine lv_iload C.1.1 C.1.2.1 dX7_spread_124 (lv_at hl 6 rfl) ?_
  refine fb_iconst C dX7_spread_126 ?_
  obtain ⟨z32, z33, h⟩ := h
  refine fb_zs C w 144 (fb_k54 C) rfl rfl (by decide) (by decide) z32 z33 dX7_spread_127 (fun σ34 H locs eσ34 w => ?_)
  have h := h σ34 eσ34
  refine lv_aload_n C.1.1 C.1.2.1 dX7_spread_128 rfl (lv_at hl 0 rfl) ?_
  refine fb_getr (k2 := 53) C w (fb_k48 C) rfl fl_X7_23 dX7_spread_129 ?_
  refine lv_iload C.1.1 C.1.2.1 dX7_spread_132 (lv_at hl 3 rfl) ?_
  refine lv_iload C.1.1 C.1.2.1 dX7_spread_134 (lv_at hl 6 rfl) ?_
  obtain ⟨z35, z36, h⟩ := h
  refine fb_as C w 144 (fb_k53 C) rfl rfl ix7 z35 z36 dX7_spread_136 (fun σ37 H locs eσ37 w => ?_)
  have h := h σ37 eσ37
  obtain ⟨i38, h⟩ := h
  refine fb_iinc (b := x4 + 1) (k := 3) (lv' := [(4, .int (fb_I (x4 + 1))), (0, .ref (fb_ad G 48)), (2, .int (fb_I x2)), (3, .int (fb_I x3)), (5, .int (fb_I x5)), (6, .int (fb_I x6)), (7, .int (fb_I x7))]) C dX7_spread_137 hl rfl rfl (by decide) rfl (fun ls hl => ?_)
  exact tw_X7_spread_140 C hret h45 h55 x2 x3 (x4 + 1) x5 x6 _ _ _ _ w (lv_sub hl [1, 2, 3, 0, 4, 5] rfl) ix2 ix3 i38 ix5 ix6 h
set_option maxRecDepth 100000 in
set_option maxHeartbeats 4000000 in
theorem tw_X7_spread_55 (C : fb_C p s m args meth c G RX7 cX7_spread 8) (hret : fb_RI p l e rm_X7_spread s m args below meth c G cX7_spread Qm Q) {r45 : Int → Int → Int → Int → fb_St → Prop} (h45 : TT_X7_spread_45 p l e s m args below meth c Qm G r45) {r55 : Int → Int → Int → Int → Int → fb_St → Prop} (h55 : TT_X7_spread_55 p l e s m args below meth c Qm G r55) : TT_X7_spread_55 p l e s m args below meth c Qm G (wb_X7_spread_55 r45 r55 Q) := by
  intro x2 x3 x4 x5 x6 σ H locs ls w hl ix2 ix3 ix4 ix5 ix6 h
  unfold wb_X7_spread_55 at h
  refine lv_iload C.1.1 C.1.2.1 dX7_spread_55 (lv_at hl 5 rfl) ?_
  refine fb_iconst C dX7_spread_57 ?_
  refine fb_icmp_ge (tgt := 146) C ix6 (by decide) dX7_spread_58 (by decide) (fun c11 => ?_) (fun c11 => ?_)
  · have h := h.2 c11
    obtain ⟨i12, h⟩ := h
    refine fb_iinc (b := x5 + 1) (k := 4) (lv' := [(5, .int (fb_I (x5 + 1))), (0, .ref (fb_ad G 48)), (2, .int (fb_I x2)), (3, .int (fb_I x3)), (4, .int (fb_I x4)), (6, .int (fb_I x6))]) C dX7_spread_146 hl rfl rfl (by decide) rfl (fun ls hl => ?_)
    refine lv_goto (tgt := 45) C.1.1 C.1.2.1 dX7_spread_149 (by decide) ?_
    exact h45 x2 x3 x4 (x5 + 1) _ _ _ _ w (lv_sub hl [1, 2, 3, 4, 0] rfl) ix2 ix3 ix4 i12 h
  · have h := h.1 c11
    refine lv_aload_n C.1.1 C.1.2.1 dX7_spread_61 rfl (lv_at hl 0 rfl) ?_
    refine lv_aload_n C.1.1 C.1.2.1 dX7_spread_62 rfl (lv_at hl 0 rfl) ?_
    refine fb_getr (k2 := 53) C w (fb_k48 C) rfl fl_X7_23 dX7_spread_63 ?_
    refine lv_iload C.1.1 C.1.2.1 dX7_spread_66 (lv_at hl 4 rfl) ?_
    obtain ⟨z13, z14, h⟩ := h
    refine fb_al C w 144 (fb_k53 C) rfl rfl z13 z14 dX7_spread_68 ?_
    have i15 := w.2.2.2 53 x5
    refine lv_iload C.1.1 C.1.2.1 dX7_spread_69 (lv_at hl 5 rfl) ?_
    refine fb_callVi (As := [.int (fb_I (σ 53 x5)), .int (fb_I x6)]) (rest := []) C w (ct_X7_beside l G i15 ix6 h) mv_X7_77 (fb_k48 C) rfl ⟨rfl, rfl, Nat.le_of_ble_eq_true rfl, Nat.le_of_ble_eq_true rfl, Nat.zero_le _, Nat.zero_le _⟩ rfl hl.1 rfl (Nat.le_of_ble_eq_true rfl) dX7_spread_71 (fun a16 σ16 H locs h ia16 w => ?_)
    refine lv_istore (lv' := [(7, .int (fb_I a16)), (0, .ref (fb_ad G 48)), (2, .int (fb_I x2)), (3, .int (fb_I x3)), (4, .int (fb_I x4)), (5, .int (fb_I x5)), (6, .int (fb_I x6))]) C.1.1 C.1.2.1 dX7_spread_74 hl (by decide) rfl (fun ls hl => ?_)
    refine lv_iload C.1.1 C.1.2.1 dX7_spread_76 (lv_at hl 0 rfl) ?_
    refine fb_if_lt (tgt := 140) C ia16 dX7_spread_78 (by decide) (fun c17 => ?_) (fun c17 => ?_)
    · have h := h.1 c17
      exact tw_X7_spread_140 C hret h45 h55 x2 x3 x4 x5 x6 _ _ _ _ w (lv_sub hl [1, 2, 3, 4, 5, 6] rfl) ix2 ix3 ix4 ix5 ix6 h
    · have h := h.2 c17
      refine lv_aload_n C.1.1 C.1.2.1 dX7_spread_81 rfl (lv_at hl 1 rfl) ?_
      refine fb_getr (k2 := 54) C w (fb_k48 C) rfl fl_X7_26 dX7_spread_82 ?_
      refine lv_iload C.1.1 C.1.2.1 dX7_spread_85 (lv_at hl 0 rfl) ?_
      obtain ⟨z18, z19, h⟩ := h
      refine fb_zl C w 144 (fb_k54 C) rfl rfl z18 z19 dX7_spread_87 ?_
      have i20 := w.2.2.2 54 a16
      refine fb_if_ne (tgt := 140) C i20 dX7_spread_88 (by decide) (fun c21 => ?_) (fun c21 => ?_)
      · have h := h.2 c21
        exact tw_X7_spread_140 C hret h45 h55 x2 x3 x4 x5 x6 _ _ _ _ w (lv_sub hl [1, 2, 3, 4, 5, 6] rfl) ix2 ix3 ix4 ix5 ix6 h
      · have h := h.1 c21
        refine lv_iload_n C.1.1 C.1.2.1 dX7_spread_91 rfl (lv_at hl 3 rfl) ?_
        refine fb_if_eq (tgt := 109) C ix3 dX7_spread_92 (by decide) (fun c22 => ?_) (fun c22 => ?_)
        · have h := h.1 c22
          refine lv_aload_n C.1.1 C.1.2.1 dX7_spread_109 rfl (lv_at hl 1 rfl) ?_
          refine fb_getr (k2 := 49) C w (fb_k48 C) rfl fl_X7_7 dX7_spread_110 ?_
          refine lv_iload C.1.1 C.1.2.1 dX7_spread_113 (lv_at hl 0 rfl) ?_
          obtain ⟨z23, z24, h⟩ := h
          refine fb_al C w 292 (fb_k49 C) rfl rfl z23 z24 dX7_spread_115 ?_
          have i25 := w.2.2.2 49 a16
          refine lv_iload_n C.1.1 C.1.2.1 dX7_spread_116 rfl (lv_at hl 2 rfl) ?_
          refine fb_icmp_gt (tgt := 140) C i25 ix2 dX7_spread_117 (by decide) (fun c26 => ?_) (fun c26 => ?_)
          · have h := h.1 c26
            exact tw_X7_spread_140 C hret h45 h55 x2 x3 x4 x5 x6 _ _ _ _ w (lv_sub hl [1, 2, 3, 4, 5, 6] rfl) ix2 ix3 ix4 ix5 ix6 h
          · have h := h.2 c26
            exact tw_X7_spread_120 C hret h45 h55 x2 x3 x4 x5 x6 a16 _ _ _ _ w (lv_sub hl [1, 2, 3, 4, 5, 6, 0] rfl) ix2 ix3 ix4 ix5 ix6 ia16 h
        · have h := h.2 c22
          refine lv_aload_n C.1.1 C.1.2.1 dX7_spread_95 rfl (lv_at hl 1 rfl) ?_
          refine fb_getr (k2 := 49) C w (fb_k48 C) rfl fl_X7_7 dX7_spread_96 ?_
          refine lv_iload C.1.1 C.1.2.1 dX7_spread_99 (lv_at hl 0 rfl) ?_
          obtain ⟨z27, z28, h⟩ := h
          refine fb_al C w 292 (fb_k49 C) rfl rfl z27 z28 dX7_spread_101 ?_
          have i29 := w.2.2.2 49 a16
          refine lv_iload_n C.1.1 C.1.2.1 dX7_spread_102 rfl (lv_at hl 2 rfl) ?_
          refine fb_icmp_ne (tgt := 140) C i29 ix2 dX7_spread_103 (by decide) (fun c30 => ?_) (fun c30 => ?_)
          · have h := h.2 c30
            exact tw_X7_spread_140 C hret h45 h55 x2 x3 x4 x5 x6 _ _ _ _ w (lv_sub hl [1, 2, 3, 4, 5, 6] rfl) ix2 ix3 ix4 ix5 ix6 h
          · have h := h.1 c30
            refine lv_goto (tgt := 120) C.1.1 C.1.2.1 dX7_spread_106 (by decide) ?_
            exact tw_X7_spread_120 C hret h45 h55 x2 x3 x4 x5 x6 a16 _ _ _ _ w (lv_sub hl [1, 2, 3, 4, 5, 6, 0] rfl) ix2 ix3 ix4 ix5 ix6 ia16 h
theorem tl_X7_spread_55 (C : fb_C p s m args meth c G RX7 cX7_spread 8) (hret : fb_RI p l e rm_X7_spread s m args below meth c G cX7_spread Qm Q) {r45 : Int → Int → Int → Int → fb_St → Prop} (h45 : TT_X7_spread_45 p l e s m args below meth c Qm G r45) : ∀ n : Nat, TT_X7_spread_55 p l e s m args below meth c Qm G (wl_X7_spread_55 r45 Q n) := by
  intro n
  induction n with
  | zero => intro x2 x3 x4 x5 x6 σ H locs ls w hl ix2 ix3 ix4 ix5 ix6 h; exact h.elim
  | succ n ih => exact tw_X7_spread_55 C hret h45 ih
set_option maxRecDepth 100000 in
set_option maxHeartbeats 4000000 in
theorem tw_X7_spread_45 (C : fb_C p s m args meth c G RX7 cX7_spread 8) (hret : fb_RI p l e rm_X7_spread s m args below meth c G cX7_spread Qm Q) {r45 : Int → Int → Int → Int → fb_St → Prop} (h45 : TT_X7_spread_45 p l e s m args below meth c Qm G r45) : TT_X7_spread_45 p l e s m args below meth c Qm G (wb_X7_spread_45 r45 Q) := by
  intro x2 x3 x4 x5 σ H locs ls w hl ix2 ix3 ix4 ix5 h
  unfold wb_X7_spread_45 at h
  refine lv_iload C.1.1 C.1.2.1 dX7_spread_45 (lv_at hl 4 rfl) ?_
  refine lv_iload C.1.1 C.1.2.1 dX7_spread_47 (lv_at hl 3 rfl) ?_
  refine fb_icmp_ge (tgt := 152) C ix5 ix4 dX7_spread_49 (by decide) (fun c10 => ?_) (fun c10 => ?_)
  · have h := h.2 c10
    refine lv_iload C.1.1 C.1.2.1 dX7_spread_152 (lv_at hl 3 rfl) ?_
    exact hret _ _ _ _ _ _ ix4 h w dX7_spread_154
  · have h := h.1 c10
    refine fb_iconst C dX7_spread_52 ?_
    refine lv_istore (lv' := [(6, .int (fb_I 0)), (0, .ref (fb_ad G 48)), (2, .int (fb_I x2)), (3, .int (fb_I x3)), (4, .int (fb_I x4)), (5, .int (fb_I x5))]) C.1.1 C.1.2.1 dX7_spread_53 hl (by decide) rfl (fun ls hl => ?_)
    obtain ⟨n, h⟩ := h
    exact tl_X7_spread_55 C hret h45 n x2 x3 x4 x5 0 _ _ _ _ w (lv_sub hl [1, 2, 3, 4, 5, 0] rfl) ix2 ix3 ix4 ix5 (by decide) h
theorem tl_X7_spread_45 (C : fb_C p s m args meth c G RX7 cX7_spread 8) (hret : fb_RI p l e rm_X7_spread s m args below meth c G cX7_spread Qm Q) : ∀ n : Nat, TT_X7_spread_45 p l e s m args below meth c Qm G (wl_X7_spread_45 Q n) := by
  intro n
  induction n with
  | zero => intro x2 x3 x4 x5 σ H locs ls w hl ix2 ix3 ix4 ix5 h; exact h.elim
  | succ n ih => exact tw_X7_spread_45 C hret ih
set_option maxRecDepth 100000 in
set_option maxHeartbeats 4000000 in
theorem tw_X7_spread_3 (C : fb_C p s m args meth c G RX7 cX7_spread 8) (hret : fb_RI p l e rm_X7_spread s m args below meth c G cX7_spread Qm Q) {r3 : Int → Int → Int → Int → fb_St → Prop} (h3 : TT_X7_spread_3 p l e s m args below meth c Qm G r3) : TT_X7_spread_3 p l e s m args below meth c Qm G (wb_X7_spread_3 r3 Q) := by
  intro x1 x2 x3 x4 σ H locs ls w hl ix1 ix2 ix3 ix4 h
  unfold wb_X7_spread_3 at h
  refine lv_iload C.1.1 C.1.2.1 dX7_spread_3 (lv_at hl 4 rfl) ?_
  refine fb_sipush C dX7_spread_5 (by decide) ?_
  refine fb_icmp_ge (tgt := 25) C ix4 (by decide) dX7_spread_8 (by decide) (fun c1 => ?_) (fun c1 => ?_)
  · have h := h.2 c1
    refine fb_iconst C dX7_spread_25 ?_
    refine lv_istore (lv' := [(4, .int (fb_I 1)), (0, .ref (fb_ad G 48)), (1, .int (fb_I x1)), (2, .int (fb_I x2)), (3, .int (fb_I x3))]) C.1.1 C.1.2.1 dX7_spread_26 hl (by decide) rfl (fun ls hl => ?_)
    refine lv_aload_n C.1.1 C.1.2.1 dX7_spread_28 rfl (lv_at hl 1 rfl) ?_
    refine fb_getr (k2 := 53) C w (fb_k48 C) rfl fl_X7_23 dX7_spread_29 ?_
    refine fb_iconst C dX7_spread_32 ?_
    refine lv_iload_n C.1.1 C.1.2.1 dX7_spread_33 rfl (lv_at hl 2 rfl) ?_
    refine fb_as C w 144 (fb_k53 C) rfl rfl ix1 (by decide) (by decide) dX7_spread_34 (fun σ2 H locs eσ2 w => ?_)
    have h := h σ2 eσ2
    refine lv_aload_n C.1.1 C.1.2.1 dX7_spread_35 rfl (lv_at hl 1 rfl) ?_
    refine fb_getr (k2 := 54) C w (fb_k48 C) rfl fl_X7_26 dX7_spread_36 ?_
    refine lv_iload_n C.1.1 C.1.2.1 dX7_spread_39 rfl (lv_at hl 2 rfl) ?_
    refine fb_iconst C dX7_spread_40 ?_
    obtain ⟨z3, z4, h⟩ := h
    refine fb_zs C w 144 (fb_k54 C) rfl rfl (by decide) (by decide) z3 z4 dX7_spread_41 (fun σ5 H locs eσ5 w => ?_)
    have h := h σ5 eσ5
    refine fb_iconst C dX7_spread_42 ?_
    refine lv_istore (lv' := [(5, .int (fb_I 0)), (4, .int (fb_I 1)), (0, .ref (fb_ad G 48)), (1, .int (fb_I x1)), (2, .int (fb_I x2)), (3, .int (fb_I x3))]) C.1.1 C.1.2.1 dX7_spread_43 hl (by decide) rfl (fun ls hl => ?_)
    obtain ⟨n, h⟩ := h
    exact tl_X7_spread_45 C hret n x2 x3 1 0 _ _ _ _ w (lv_sub hl [2, 4, 5, 1, 0] rfl) ix2 ix3 (by decide) (by decide) h
  · have h := h.1 c1
    refine lv_aload_n C.1.1 C.1.2.1 dX7_spread_11 rfl (lv_at hl 0 rfl) ?_
    refine fb_getr (k2 := 54) C w (fb_k48 C) rfl fl_X7_26 dX7_spread_12 ?_
    refine lv_iload C.1.1 C.1.2.1 dX7_spread_15 (lv_at hl 4 rfl) ?_
    refine fb_iconst C dX7_spread_17 ?_
    obtain ⟨z6, z7, h⟩ := h
    refine fb_zs C w 144 (fb_k54 C) rfl rfl (by decide) (by decide) z6 z7 dX7_spread_18 (fun σ8 H locs eσ8 w => ?_)
    have h := h σ8 eσ8
    obtain ⟨i9, h⟩ := h
    refine fb_iinc (b := x4 + 1) (k := 4) (lv' := [(4, .int (fb_I (x4 + 1))), (0, .ref (fb_ad G 48)), (1, .int (fb_I x1)), (2, .int (fb_I x2)), (3, .int (fb_I x3))]) C dX7_spread_19 hl rfl rfl (by decide) rfl (fun ls hl => ?_)
    refine lv_goto (tgt := 3) C.1.1 C.1.2.1 dX7_spread_22 (by decide) ?_
    exact h3 x1 x2 x3 (x4 + 1) _ _ _ _ w (lv_sub hl [1, 2, 3, 4, 0] rfl) ix1 ix2 ix3 i9 h
theorem tl_X7_spread_3 (C : fb_C p s m args meth c G RX7 cX7_spread 8) (hret : fb_RI p l e rm_X7_spread s m args below meth c G cX7_spread Qm Q) : ∀ n : Nat, TT_X7_spread_3 p l e s m args below meth c Qm G (wl_X7_spread_3 Q n) := by
  intro n
  induction n with
  | zero => intro x1 x2 x3 x4 σ H locs ls w hl ix1 ix2 ix3 ix4 h; exact h.elim
  | succ n ih => exact tw_X7_spread_3 C hret ih
set_option maxRecDepth 100000 in
set_option maxHeartbeats 4000000 in
theorem tw_X7_spread_0 (C : fb_C p s m args meth c G RX7 cX7_spread 8) (hret : fb_RI p l e rm_X7_spread s m args below meth c G cX7_spread Qm Q) : TT_X7_spread_0 p l e s m args below meth c Qm G (fun x1 x2 x3 σ => wp_X7_spread x1 x2 x3 σ Q) := by
  intro x1 x2 x3 σ H locs ls w hl ix1 ix2 ix3 h
  unfold wp_X7_spread at h
  refine fb_iconst C dX7_spread_0 ?_
  refine lv_istore (lv' := [(4, .int (fb_I 0)), (0, .ref (fb_ad G 48)), (1, .int (fb_I x1)), (2, .int (fb_I x2)), (3, .int (fb_I x3))]) C.1.1 C.1.2.1 dX7_spread_1 hl (by decide) rfl (fun ls hl => ?_)
  obtain ⟨n, h⟩ := h
  exact tl_X7_spread_3 C hret n x1 x2 x3 0 _ _ _ _ w (lv_sub hl [1, 2, 3, 4, 0] rfl) ix1 ix2 ix3 (by decide) h
theorem ct_X7_spread (l : Launch) (G : fb_G) {x1 : Int} {x2 : Int} {x3 : Int} {σ : fb_St} (ix1 : fb_in x1) (ix2 : fb_in x2) (ix3 : fb_in x3) (h : wp_X7_spread x1 x2 x3 σ Q) : fb_MI l G yX7_spread cX7_spread 8 (some .int) rm_X7_spread [.ref (fb_ad G 48), .int (fb_I x1), .int (fb_I x2), .int (fb_I x3)] σ Q := by
  refine fb_ofW (own := RX7) (by decide) (Nat.le_of_ble_eq_true rfl) rfl (fun p e s m args below meth c ls C hr hl w => ?_)
  exact tw_X7_spread_0 C (fb_reti C hr) _ _ _ _ _ _ _ w hl ix1 ix2 ix3 h
end S_X7_spread
section S_X7_leastBeside
variable {p : Program} {l : Launch} {e : Env} {s : State} {m : MethodId} {args : Array Value} {below : List Frame} {meth : Method} {c : Code} {Qm : State → Prop} {G : fb_G} {Q : Int → fb_St → Prop}
abbrev TT_X7_leastBeside_71 (p : Program) (l : Launch) (e : Env) (s : State) (m : MethodId) (args : Array Value) (below : List Frame) (meth : Method) (c : Code) (Qm : State → Prop) (G : fb_G) (r : Int → Int → Int → Int → fb_St → Prop) : Prop := ∀ (x1 x2 x3 x4 : Int) (σ : fb_St) (H : Heap) (locs : List Loc) (ls : Array Slot), fb_Wd G s σ H locs → lv_has ls 6 [(0, .ref (fb_ad G 48)), (1, .int (fb_I x1)), (2, .int (fb_I x2)), (3, .int (fb_I x3)), (4, .int (fb_I x4))] → fb_in x1 → fb_in x2 → fb_in x3 → fb_in x4 → r x1 x2 x3 x4 σ → W p l e rm_X7_leastBeside s m args below meth c H locs 0 0 Qm (F0 m 71 ls [])
abbrev TT_X7_leastBeside_63 (p : Program) (l : Launch) (e : Env) (s : State) (m : MethodId) (args : Array Value) (below : List Frame) (meth : Method) (c : Code) (Qm : State → Prop) (G : fb_G) (r : Int → Int → Int → Int → fb_St → Prop) : Prop := ∀ (x1 x3 x4 x5 : Int) (σ : fb_St) (H : Heap) (locs : List Loc) (ls : Array Slot), fb_Wd G s σ H locs → lv_has ls 6 [(0, .ref (fb_ad G 48)), (1, .int (fb_I x1)), (3, .int (fb_I x3)), (4, .int (fb_I x4)), (5, .int (fb_I x5))] → fb_in x1 → fb_in x3 → fb_in x4 → fb_in x5 → r x1 x3 x4 x5 σ → W p l e rm_X7_leastBeside s m args below meth c H locs 0 0 Qm (F0 m 63 ls [])
abbrev TT_X7_leastBeside_13 (p : Program) (l : Launch) (e : Env) (s : State) (m : MethodId) (args : Array Value) (below : List Frame) (meth : Method) (c : Code) (Qm : State → Prop) (G : fb_G) (r : Int → Int → Int → Int → fb_St → Prop) : Prop := ∀ (x1 x2 x3 x4 : Int) (σ : fb_St) (H : Heap) (locs : List Loc) (ls : Array Slot), fb_Wd G s σ H locs → lv_has ls 6 [(0, .ref (fb_ad G 48)), (1, .int (fb_I x1)), (2, .int (fb_I x2)), (3, .int (fb_I x3)), (4, .int (fb_I x4))] → fb_in x1 → fb_in x2 → fb_in x3 → fb_in x4 → r x1 x2 x3 x4 σ → W p l e rm_X7_leastBeside s m args below meth c H locs 0 0 Qm (F0 m 13 ls [])
abbrev TT_X7_leastBeside_5 (p : Program) (l : Launch) (e : Env) (s : State) (m : MethodId) (args : Array Value) (below : List Frame) (meth : Method) (c : Code) (Qm : State → Prop) (G : fb_G) (r : Int → Int → Int → fb_St → Prop) : Prop := ∀ (x1 x2 x3 : Int) (σ : fb_St) (H : Heap) (locs : List Loc) (ls : Array Slot), fb_Wd G s σ H locs → lv_has ls 6 [(0, .ref (fb_ad G 48)), (1, .int (fb_I x1)), (2, .int (fb_I x2)), (3, .int (fb_I x3))] → fb_in x1 → fb_in x2 → fb_in x3 → r x1 x2 x3 σ → W p l e rm_X7_leastBeside s m args below meth c H locs 0 0 Qm (F0 m 5 ls [])
abbrev TT_X7_leastBeside_0 (p : Program) (l : Launch) (e : Env) (s : State) (m : MethodId) (args : Array Value) (below : List Frame) (meth : Method) (c : Code) (Qm : State → Prop) (G : fb_G) (r : Int → fb_St → Prop) : Prop := ∀ (x1 : Int) (σ : fb_St) (H : Heap) (locs : List Loc) (ls : Array Slot), fb_Wd G s σ H locs → lv_has ls 6 [(0, .ref (fb_ad G 48)), (1, .int (fb_I x1))] → fb_in x1 → r x1 σ → W p l e rm_X7_leastBeside s m args below meth c H locs 0 0 Qm (F0 m 0 ls [])
set_option maxRecDepth 100000 in
set_option maxHeartbeats 4000000 in
theorem tw_X7_leastBeside_71 (C : fb_C p s m args meth c G RX7 cX7_leastBeside 6) (hret : fb_RI p l e rm_X7_leastBeside s m args below meth c G cX7_leastBeside Qm Q) {r5 : Int → Int → Int → fb_St → Prop} (h5 : TT_X7_leastBeside_5 p l e s m args below meth c Qm G r5) {r13 : Int → Int → Int → Int → fb_St → Prop} (h13 : TT_X7_leastBeside_13 p l e s m args below meth c Qm G r13) : TT_X7_leastBeside_71 p l e s m args below meth c Qm G (wj_X7_leastBeside_71 r5 r13 Q) := by
  intro x1 x2 x3 x4 σ H locs ls w hl ix1 ix2 ix3 ix4 h
  unfold wj_X7_leastBeside_71 at h
  obtain ⟨i18, h⟩ := h
  refine fb_iinc (b := x4 + 1) (k := 4) (lv' := [(4, .int (fb_I (x4 + 1))), (0, .ref (fb_ad G 48)), (1, .int (fb_I x1)), (2, .int (fb_I x2)), (3, .int (fb_I x3))]) C dX7_leastBeside_71 hl rfl rfl (by decide) rfl (fun ls hl => ?_)
  refine lv_goto (tgt := 13) C.1.1 C.1.2.1 dX7_leastBeside_74 (by decide) ?_
  exact h13 x1 x2 x3 (x4 + 1) _ _ _ _ w (lv_sub hl [1, 2, 3, 4, 0] rfl) ix1 ix2 ix3 i18 h
set_option maxRecDepth 100000 in
set_option maxHeartbeats 4000000 in
theorem tw_X7_leastBeside_63 (C : fb_C p s m args meth c G RX7 cX7_leastBeside 6) (hret : fb_RI p l e rm_X7_leastBeside s m args below meth c G cX7_leastBeside Qm Q) {r5 : Int → Int → Int → fb_St → Prop} (h5 : TT_X7_leastBeside_5 p l e s m args below meth c Qm G r5) {r13 : Int → Int → Int → Int → fb_St → Prop} (h13 : TT_X7_leastBeside_13 p l e s m args below meth c Qm G r13) : TT_X7_leastBeside_63 p l e s m args below meth c Qm G (wj_X7_leastBeside_63 r5 r13 Q) := by
  intro x1 x3 x4 x5 σ H locs ls w hl ix1 ix3 ix4 ix5 h
  unfold wj_X7_leastBeside_63 at h
  refine lv_aload_n C.1.1 C.1.2.1 dX7_leastBeside_63 rfl (lv_at hl 0 rfl) ?_
  refine fb_getr (k2 := 49) C w (fb_k48 C) rfl fl_X7_7 dX7_leastBeside_64 ?_
  refine lv_iload C.1.1 C.1.2.1 dX7_leastBeside_67 (lv_at hl 4 rfl) ?_
  obtain ⟨z19, z20, h⟩ := h
  refine fb_al C w 292 (fb_k49 C) rfl rfl z19 z20 dX7_leastBeside_69 ?_
  have i21 := w.2.2.2 49 x5
  refine fb_top (fun v22 ev22 => ?_)
  have h := h v22 ev22
  have iv22 := fb_ie ev22 i21
  refine lv_istore_n (lv' := [(2, .int (fb_I v22)), (0, .ref (fb_ad G 48)), (1, .int (fb_I x1)), (3, .int (fb_I x3)), (4, .int (fb_I x4)), (5, .int (fb_I x5))]) C.1.1 C.1.2.1 dX7_leastBeside_70 rfl hl (by decide) rfl (fun ls hl => ?_)
  exact tw_X7_leastBeside_71 C hret h5 h13 x1 v22 x3 x4 _ _ _ _ w (lv_sub hl [1, 2, 0, 3, 4] rfl) ix1 iv22 ix3 ix4 h
set_option maxRecDepth 100000 in
set_option maxHeartbeats 4000000 in
theorem tw_X7_leastBeside_13 (C : fb_C p s m args meth c G RX7 cX7_leastBeside 6) (hret : fb_RI p l e rm_X7_leastBeside s m args below meth c G cX7_leastBeside Qm Q) {r5 : Int → Int → Int → fb_St → Prop} (h5 : TT_X7_leastBeside_5 p l e s m args below meth c Qm G r5) {r13 : Int → Int → Int → Int → fb_St → Prop} (h13 : TT_X7_leastBeside_13 p l e s m args below meth c Qm G r13) : TT_X7_leastBeside_13 p l e s m args below meth c Qm G (wb_X7_leastBeside_13 r5 r13 Q) := by
  intro x1 x2 x3 x4 σ H locs ls w hl ix1 ix2 ix3 ix4 h
  unfold wb_X7_leastBeside_13 at h
  refine lv_iload C.1.1 C.1.2.1 dX7_leastBeside_13 (lv_at hl 4 rfl) ?_
  refine fb_iconst C dX7_leastBeside_15 ?_
  refine fb_icmp_ge (tgt := 77) C ix4 (by decide) dX7_leastBeside_16 (by decide) (fun c2 => ?_) (fun c2 => ?_)
  · have h := h.2 c2
    obtain ⟨i3, h⟩ := h
    refine fb_iinc (b := x3 + 1) (k := 3) (lv' := [(3, .int (fb_I (x3 + 1))), (0, .ref (fb_ad G 48)), (1, .int (fb_I x1)), (2, .int (fb_I x2)), (4, .int (fb_I x4))]) C dX7_leastBeside_77 hl rfl rfl (by decide) rfl (fun ls hl => ?_)
    refine lv_goto (tgt := 5) C.1.1 C.1.2.1 dX7_leastBeside_80 (by decide) ?_
    exact h5 x1 x2 (x3 + 1) _ _ _ _ w (lv_sub hl [1, 2, 3, 0] rfl) ix1 ix2 i3 h
  · have h := h.1 c2
    refine lv_aload_n C.1.1 C.1.2.1 dX7_leastBeside_19 rfl (lv_at hl 0 rfl) ?_
    refine lv_aload_n C.1.1 C.1.2.1 dX7_leastBeside_20 rfl (lv_at hl 0 rfl) ?_
    refine fb_getr (k2 := 53) C w (fb_k48 C) rfl fl_X7_23 dX7_leastBeside_21 ?_
    refine lv_iload_n C.1.1 C.1.2.1 dX7_leastBeside_24 rfl (lv_at hl 3 rfl) ?_
    obtain ⟨z4, z5, h⟩ := h
    refine fb_al C w 144 (fb_k53 C) rfl rfl z4 z5 dX7_leastBeside_25 ?_
    have i6 := w.2.2.2 53 x3
    refine lv_iload C.1.1 C.1.2.1 dX7_leastBeside_26 (lv_at hl 4 rfl) ?_
    refine fb_callVi (As := [.int (fb_I (σ 53 x3)), .int (fb_I x4)]) (rest := []) C w (ct_X7_beside l G i6 ix4 h) mv_X7_77 (fb_k48 C) rfl ⟨rfl, rfl, Nat.le_of_ble_eq_true rfl, Nat.le_of_ble_eq_true rfl, Nat.zero_le _, Nat.zero_le _⟩ rfl hl.1 rfl (Nat.le_of_ble_eq_true rfl) dX7_leastBeside_28 (fun a7 σ7 H locs h ia7 w => ?_)
    refine lv_istore (lv' := [(5, .int (fb_I a7)), (0, .ref (fb_ad G 48)), (1, .int (fb_I x1)), (2, .int (fb_I x2)), (3, .int (fb_I x3)), (4, .int (fb_I x4))]) C.1.1 C.1.2.1 dX7_leastBeside_31 hl (by decide) rfl (fun ls hl => ?_)
    refine lv_iload C.1.1 C.1.2.1 dX7_leastBeside_33 (lv_at hl 0 rfl) ?_
    refine fb_if_lt (tgt := 71) C ia7 dX7_leastBeside_35 (by decide) (fun c8 => ?_) (fun c8 => ?_)
    · have h := h.1 c8
      exact tw_X7_leastBeside_71 C hret h5 h13 x1 x2 x3 x4 _ _ _ _ w (lv_sub hl [1, 2, 3, 4, 5] rfl) ix1 ix2 ix3 ix4 h
    · have h := h.2 c8
      refine lv_aload_n C.1.1 C.1.2.1 dX7_leastBeside_38 rfl (lv_at hl 1 rfl) ?_
      refine fb_getr (k2 := 54) C w (fb_k48 C) rfl fl_X7_26 dX7_leastBeside_39 ?_
      refine lv_iload C.1.1 C.1.2.1 dX7_leastBeside_42 (lv_at hl 0 rfl) ?_
      obtain ⟨z9, z10, h⟩ := h
      refine fb_zl C w 144 (fb_k54 C) rfl rfl z9 z10 dX7_leastBeside_44 ?_
      have i11 := w.2.2.2 54 a7
      refine fb_if_ne (tgt := 71) C i11 dX7_leastBeside_45 (by decide) (fun c12 => ?_) (fun c12 => ?_)
      · have h := h.2 c12
        exact tw_X7_leastBeside_71 C hret h5 h13 x1 x2 x3 x4 _ _ _ _ w (lv_sub hl [1, 2, 3, 4, 5] rfl) ix1 ix2 ix3 ix4 h
      · have h := h.1 c12
        refine lv_iload_n C.1.1 C.1.2.1 dX7_leastBeside_48 rfl (lv_at hl 3 rfl) ?_
        refine fb_if_lt (tgt := 63) C ix2 dX7_leastBeside_49 (by decide) (fun c13 => ?_) (fun c13 => ?_)
        · have h := h.1 c13
          exact tw_X7_leastBeside_63 C hret h5 h13 x1 x3 x4 a7 _ _ _ _ w (lv_sub hl [1, 2, 4, 5, 0] rfl) ix1 ix3 ix4 ia7 h
        · have h := h.2 c13
          refine lv_aload_n C.1.1 C.1.2.1 dX7_leastBeside_52 rfl (lv_at hl 1 rfl) ?_
          refine fb_getr (k2 := 49) C w (fb_k48 C) rfl fl_X7_7 dX7_leastBeside_53 ?_
          refine lv_iload C.1.1 C.1.2.1 dX7_leastBeside_56 (lv_at hl 0 rfl) ?_
          obtain ⟨z14, z15, h⟩ := h
          refine fb_al C w 292 (fb_k49 C) rfl rfl z14 z15 dX7_leastBeside_58 ?_
          have i16 := w.2.2.2 49 a7
          refine lv_iload_n C.1.1 C.1.2.1 dX7_leastBeside_59 rfl (lv_at hl 3 rfl) ?_
          refine fb_icmp_ge (tgt := 71) C i16 ix2 dX7_leastBeside_60 (by decide) (fun c17 => ?_) (fun c17 => ?_)
          · have h := h.2 c17
            exact tw_X7_leastBeside_71 C hret h5 h13 x1 x2 x3 x4 _ _ _ _ w (lv_sub hl [1, 2, 3, 4, 5] rfl) ix1 ix2 ix3 ix4 h
          · have h := h.1 c17
            exact tw_X7_leastBeside_63 C hret h5 h13 x1 x3 x4 a7 _ _ _ _ w (lv_sub hl [1, 2, 4, 5, 0] rfl) ix1 ix3 ix4 ia7 h
theorem tl_X7_leastBeside_13 (C : fb_C p s m args meth c G RX7 cX7_leastBeside 6) (hret : fb_RI p l e rm_X7_leastBeside s m args below meth c G cX7_leastBeside Qm Q) {r5 : Int → Int → Int → fb_St → Prop} (h5 : TT_X7_leastBeside_5 p l e s m args below meth c Qm G r5) : ∀ n : Nat, TT_X7_leastBeside_13 p l e s m args below meth c Qm G (wl_X7_leastBeside_13 r5 Q n) := by
  intro n
  induction n with
  | zero => intro x1 x2 x3 x4 σ H locs ls w hl ix1 ix2 ix3 ix4 h; exact h.elim
  | succ n ih => exact tw_X7_leastBeside_13 C hret h5 ih
set_option maxRecDepth 100000 in
set_option maxHeartbeats 4000000 in
theorem tw_X7_leastBeside_5 (C : fb_C p s m args meth c G RX7 cX7_leastBeside 6) (hret : fb_RI p l e rm_X7_leastBeside s m args below meth c G cX7_leastBeside Qm Q) {r5 : Int → Int → Int → fb_St → Prop} (h5 : TT_X7_leastBeside_5 p l e s m args below meth c Qm G r5) : TT_X7_leastBeside_5 p l e s m args below meth c Qm G (wb_X7_leastBeside_5 r5 Q) := by
  intro x1 x2 x3 σ H locs ls w hl ix1 ix2 ix3 h
  unfold wb_X7_leastBeside_5 at h
  refine lv_iload_n C.1.1 C.1.2.1 dX7_leastBeside_5 rfl (lv_at hl 3 rfl) ?_
  refine lv_iload_n C.1.1 C.1.2.1 dX7_leastBeside_6 rfl (lv_at hl 1 rfl) ?_
  refine fb_icmp_ge (tgt := 83) C ix3 ix1 dX7_leastBeside_7 (by decide) (fun c1 => ?_) (fun c1 => ?_)
  · have h := h.2 c1
    refine lv_iload_n C.1.1 C.1.2.1 dX7_leastBeside_83 rfl (lv_at hl 2 rfl) ?_
    exact hret _ _ _ _ _ _ ix2 h w dX7_leastBeside_84
  · have h := h.1 c1
    refine fb_iconst C dX7_leastBeside_10 ?_
    refine lv_istore (lv' := [(4, .int (fb_I 0)), (0, .ref (fb_ad G 48)), (1, .int (fb_I x1)), (2, .int (fb_I x2)), (3, .int (fb_I x3))]) C.1.1 C.1.2.1 dX7_leastBeside_11 hl (by decide) rfl (fun ls hl => ?_)
    obtain ⟨n, h⟩ := h
    exact tl_X7_leastBeside_13 C hret h5 n x1 x2 x3 0 _ _ _ _ w (lv_sub hl [1, 2, 3, 4, 0] rfl) ix1 ix2 ix3 (by decide) h
theorem tl_X7_leastBeside_5 (C : fb_C p s m args meth c G RX7 cX7_leastBeside 6) (hret : fb_RI p l e rm_X7_leastBeside s m args below meth c G cX7_leastBeside Qm Q) : ∀ n : Nat, TT_X7_leastBeside_5 p l e s m args below meth c Qm G (wl_X7_leastBeside_5 Q n) := by
  intro n
  induction n with
  | zero => intro x1 x2 x3 σ H locs ls w hl ix1 ix2 ix3 h; exact h.elim
  | succ n ih => exact tw_X7_leastBeside_5 C hret ih
set_option maxRecDepth 100000 in
set_option maxHeartbeats 4000000 in
theorem tw_X7_leastBeside_0 (C : fb_C p s m args meth c G RX7 cX7_leastBeside 6) (hret : fb_RI p l e rm_X7_leastBeside s m args below meth c G cX7_leastBeside Qm Q) : TT_X7_leastBeside_0 p l e s m args below meth c Qm G (fun x1 σ => wp_X7_leastBeside x1 σ Q) := by
  intro x1 σ H locs ls w hl ix1 h
  unfold wp_X7_leastBeside at h
  refine fb_bipush C dX7_leastBeside_0 (by decide) ?_
  refine lv_istore_n (lv' := [(2, .int (fb_I (-6))), (0, .ref (fb_ad G 48)), (1, .int (fb_I x1))]) C.1.1 C.1.2.1 dX7_leastBeside_2 rfl hl (by decide) rfl (fun ls hl => ?_)
  refine fb_iconst C dX7_leastBeside_3 ?_
  refine lv_istore_n (lv' := [(3, .int (fb_I 0)), (2, .int (fb_I (-6))), (0, .ref (fb_ad G 48)), (1, .int (fb_I x1))]) C.1.1 C.1.2.1 dX7_leastBeside_4 rfl hl (by decide) rfl (fun ls hl => ?_)
  obtain ⟨n, h⟩ := h
  exact tl_X7_leastBeside_5 C hret n x1 (-6) 0 _ _ _ _ w (lv_sub hl [2, 3, 1, 0] rfl) ix1 (by decide) (by decide) h
theorem ct_X7_leastBeside (l : Launch) (G : fb_G) {x1 : Int} {σ : fb_St} (ix1 : fb_in x1) (h : wp_X7_leastBeside x1 σ Q) : fb_MI l G yX7_leastBeside cX7_leastBeside 6 (some .int) rm_X7_leastBeside [.ref (fb_ad G 48), .int (fb_I x1)] σ Q := by
  refine fb_ofW (own := RX7) (by decide) (Nat.le_of_ble_eq_true rfl) rfl (fun p e s m args below meth c ls C hr hl w => ?_)
  exact tw_X7_leastBeside_0 C (fb_reti C hr) _ _ _ _ _ w hl ix1 h
end S_X7_leastBeside
section S_X7_layPits
variable {p : Program} {l : Launch} {e : Env} {s : State} {m : MethodId} {args : Array Value} {below : List Frame} {meth : Method} {c : Code} {Qm : State → Prop} {G : fb_G} {Q : Int → fb_St → Prop}
abbrev TT_X7_layPits_113 (p : Program) (l : Launch) (e : Env) (s : State) (m : MethodId) (args : Array Value) (below : List Frame) (meth : Method) (c : Code) (Qm : State → Prop) (G : fb_G) (r : Int → Int → fb_St → Prop) : Prop := ∀ (x1 x2 : Int) (σ : fb_St) (H : Heap) (locs : List Loc) (ls : Array Slot), fb_Wd G s σ H locs → lv_has ls 6 [(0, .ref (fb_ad G 48)), (1, .int (fb_I x1)), (2, .int (fb_I x2))] → fb_in x1 → fb_in x2 → r x1 x2 σ → W p l e rm_X7_layPits s m args below meth c H locs 0 0 Qm (F0 m 113 ls [])
abbrev TT_X7_layPits_85 (p : Program) (l : Launch) (e : Env) (s : State) (m : MethodId) (args : Array Value) (below : List Frame) (meth : Method) (c : Code) (Qm : State → Prop) (G : fb_G) (r : Int → Int → Int → Int → fb_St → Prop) : Prop := ∀ (x1 x2 x3 x5 : Int) (σ : fb_St) (H : Heap) (locs : List Loc) (ls : Array Slot), fb_Wd G s σ H locs → lv_has ls 6 [(0, .ref (fb_ad G 48)), (1, .int (fb_I x1)), (2, .int (fb_I x2)), (3, .int (fb_I x3)), (5, .int (fb_I x5))] → fb_in x1 → fb_in x2 → fb_in x3 → fb_in x5 → r x1 x2 x3 x5 σ → W p l e rm_X7_layPits s m args below meth c H locs 0 0 Qm (F0 m 85 ls [])
abbrev TT_X7_layPits_82 (p : Program) (l : Launch) (e : Env) (s : State) (m : MethodId) (args : Array Value) (below : List Frame) (meth : Method) (c : Code) (Qm : State → Prop) (G : fb_G) (r : Int → Int → Int → fb_St → Prop) : Prop := ∀ (x1 x2 x3 : Int) (σ : fb_St) (H : Heap) (locs : List Loc) (ls : Array Slot), fb_Wd G s σ H locs → lv_has ls 6 [(0, .ref (fb_ad G 48)), (1, .int (fb_I x1)), (2, .int (fb_I x2)), (3, .int (fb_I x3))] → fb_in x1 → fb_in x2 → fb_in x3 → r x1 x2 x3 σ → W p l e rm_X7_layPits s m args below meth c H locs 0 0 Qm (F0 m 82 ls [])
abbrev TT_X7_layPits_27 (p : Program) (l : Launch) (e : Env) (s : State) (m : MethodId) (args : Array Value) (below : List Frame) (meth : Method) (c : Code) (Qm : State → Prop) (G : fb_G) (r : Int → Int → fb_St → Prop) : Prop := ∀ (x1 x2 : Int) (σ : fb_St) (H : Heap) (locs : List Loc) (ls : Array Slot), fb_Wd G s σ H locs → lv_has ls 6 [(0, .ref (fb_ad G 48)), (1, .int (fb_I x1)), (2, .int (fb_I x2))] → fb_in x1 → fb_in x2 → r x1 x2 σ → W p l e rm_X7_layPits s m args below meth c H locs 0 0 Qm (F0 m 27 ls [])
abbrev TT_X7_layPits_2 (p : Program) (l : Launch) (e : Env) (s : State) (m : MethodId) (args : Array Value) (below : List Frame) (meth : Method) (c : Code) (Qm : State → Prop) (G : fb_G) (r : Int → fb_St → Prop) : Prop := ∀ (x1 : Int) (σ : fb_St) (H : Heap) (locs : List Loc) (ls : Array Slot), fb_Wd G s σ H locs → lv_has ls 6 [(0, .ref (fb_ad G 48)), (1, .int (fb_I x1))] → fb_in x1 → r x1 σ → W p l e rm_X7_layPits s m args below meth c H locs 0 0 Qm (F0 m 2 ls [])
abbrev TT_X7_layPits_0 (p : Program) (l : Launch) (e : Env) (s : State) (m : MethodId) (args : Array Value) (below : List Frame) (meth : Method) (c : Code) (Qm : State → Prop) (G : fb_G) (r : fb_St → Prop) : Prop := ∀ (σ : fb_St) (H : Heap) (locs : List Loc) (ls : Array Slot), fb_Wd G s σ H locs → lv_has ls 6 [(0, .ref (fb_ad G 48))] → r σ → W p l e rm_X7_layPits s m args below meth c H locs 0 0 Qm (F0 m 0 ls [])
set_option maxRecDepth 100000 in
set_option maxHeartbeats 4000000 in
theorem tw_X7_layPits_113 (C : fb_C p s m args meth c G RX7 cX7_layPits 6) (hret : fb_RI p l e rm_X7_layPits s m args below meth c G cX7_layPits Qm Q) {r27 : Int → Int → fb_St → Prop} (h27 : TT_X7_layPits_27 p l e s m args below meth c Qm G r27) : TT_X7_layPits_113 p l e s m args below meth c Qm G (wj_X7_layPits_113 r27 Q) := by
  intro x1 x2 σ H locs ls w hl ix1 ix2 h
  unfold wj_X7_layPits_113 at h
  obtain ⟨i22, h⟩ := h
  refine fb_iinc (b := x2 + 1) (k := 2) (lv' := [(2, .int (fb_I (x2 + 1))), (0, .ref (fb_ad G 48)), (1, .int (fb_I x1))]) C dX7_layPits_113 hl rfl rfl (by decide) rfl (fun ls hl => ?_)
  refine lv_goto (tgt := 27) C.1.1 C.1.2.1 dX7_layPits_116 (by decide) ?_
  exact h27 x1 (x2 + 1) _ _ _ _ w (lv_sub hl [1, 2, 0] rfl) ix1 i22 h
set_option maxRecDepth 100000 in
set_option maxHeartbeats 4000000 in
theorem tw_X7_layPits_85 (C : fb_C p s m args meth c G RX7 cX7_layPits 6) (hret : fb_RI p l e rm_X7_layPits s m args below meth c G cX7_layPits Qm Q) {r27 : Int → Int → fb_St → Prop} (h27 : TT_X7_layPits_27 p l e s m args below meth c Qm G r27) {r85 : Int → Int → Int → Int → fb_St → Prop} (h85 : TT_X7_layPits_85 p l e s m args below meth c Qm G r85) : TT_X7_layPits_85 p l e s m args below meth c Qm G (wb_X7_layPits_85 r27 r85 Q) := by
  intro x1 x2 x3 x5 σ H locs ls w hl ix1 ix2 ix3 ix5 h
  unfold wb_X7_layPits_85 at h
  refine lv_iload C.1.1 C.1.2.1 dX7_layPits_85 (lv_at hl 4 rfl) ?_
  refine lv_iload_n C.1.1 C.1.2.1 dX7_layPits_87 rfl (lv_at hl 3 rfl) ?_
  refine fb_icmp_ge (tgt := 110) C ix5 ix3 dX7_layPits_88 (by decide) (fun c23 => ?_) (fun c23 => ?_)
  · have h := h.2 c23
    obtain ⟨i24, h⟩ := h
    refine fb_iinc (b := x1 + 1) (k := 1) (lv' := [(1, .int (fb_I (x1 + 1))), (0, .ref (fb_ad G 48)), (2, .int (fb_I x2)), (3, .int (fb_I x3)), (5, .int (fb_I x5))]) C dX7_layPits_110 hl rfl rfl (by decide) rfl (fun ls hl => ?_)
    exact tw_X7_layPits_113 C hret h27 (x1 + 1) x2 _ _ _ _ w (lv_sub hl [1, 0, 2] rfl) i24 ix2 h
  · have h := h.1 c23
    refine lv_aload_n C.1.1 C.1.2.1 dX7_layPits_91 rfl (lv_at hl 0 rfl) ?_
    refine fb_getr (k2 := 52) C w (fb_k48 C) rfl fl_X7_20 dX7_layPits_92 ?_
    refine lv_aload_n C.1.1 C.1.2.1 dX7_layPits_95 rfl (lv_at hl 0 rfl) ?_
    refine fb_getr (k2 := 53) C w (fb_k48 C) rfl fl_X7_23 dX7_layPits_96 ?_
    refine lv_iload C.1.1 C.1.2.1 dX7_layPits_99 (lv_at hl 4 rfl) ?_
    obtain ⟨z25, z26, h⟩ := h
    refine fb_al C w 144 (fb_k53 C) rfl rfl z25 z26 dX7_layPits_101 ?_
    have i27 := w.2.2.2 53 x5
    refine lv_iload_n C.1.1 C.1.2.1 dX7_layPits_102 rfl (lv_at hl 1 rfl) ?_
    obtain ⟨z28, z29, h⟩ := h
    refine fb_as C w 144 (fb_k52 C) rfl rfl ix1 z28 z29 dX7_layPits_103 (fun σ30 H locs eσ30 w => ?_)
    have h := h σ30 eσ30
    obtain ⟨i31, h⟩ := h
    refine fb_iinc (b := x5 + 1) (k := 4) (lv' := [(5, .int (fb_I (x5 + 1))), (0, .ref (fb_ad G 48)), (1, .int (fb_I x1)), (2, .int (fb_I x2)), (3, .int (fb_I x3))]) C dX7_layPits_104 hl rfl rfl (by decide) rfl (fun ls hl => ?_)
    refine lv_goto (tgt := 85) C.1.1 C.1.2.1 dX7_layPits_107 (by decide) ?_
    exact h85 x1 x2 x3 (x5 + 1) _ _ _ _ w (lv_sub hl [1, 2, 3, 4, 0] rfl) ix1 ix2 ix3 i31 h
theorem tl_X7_layPits_85 (C : fb_C p s m args meth c G RX7 cX7_layPits 6) (hret : fb_RI p l e rm_X7_layPits s m args below meth c G cX7_layPits Qm Q) {r27 : Int → Int → fb_St → Prop} (h27 : TT_X7_layPits_27 p l e s m args below meth c Qm G r27) : ∀ n : Nat, TT_X7_layPits_85 p l e s m args below meth c Qm G (wl_X7_layPits_85 r27 Q n) := by
  intro n
  induction n with
  | zero => intro x1 x2 x3 x5 σ H locs ls w hl ix1 ix2 ix3 ix5 h; exact h.elim
  | succ n ih => exact tw_X7_layPits_85 C hret h27 ih
set_option maxRecDepth 100000 in
set_option maxHeartbeats 4000000 in
theorem tw_X7_layPits_82 (C : fb_C p s m args meth c G RX7 cX7_layPits 6) (hret : fb_RI p l e rm_X7_layPits s m args below meth c G cX7_layPits Qm Q) {r27 : Int → Int → fb_St → Prop} (h27 : TT_X7_layPits_27 p l e s m args below meth c Qm G r27) : TT_X7_layPits_82 p l e s m args below meth c Qm G (wj_X7_layPits_82 r27 Q) := by
  intro x1 x2 x3 σ H locs ls w hl ix1 ix2 ix3 h
  unfold wj_X7_layPits_82 at h
  refine fb_iconst C dX7_layPits_82 ?_
  refine lv_istore (lv' := [(5, .int (fb_I 0)), (0, .ref (fb_ad G 48)), (1, .int (fb_I x1)), (2, .int (fb_I x2)), (3, .int (fb_I x3))]) C.1.1 C.1.2.1 dX7_layPits_83 hl (by decide) rfl (fun ls hl => ?_)
  obtain ⟨n, h⟩ := h
  exact tl_X7_layPits_85 C hret h27 n x1 x2 x3 0 _ _ _ _ w (lv_sub hl [1, 2, 3, 4, 0] rfl) ix1 ix2 ix3 (by decide) h
set_option maxRecDepth 100000 in
set_option maxHeartbeats 4000000 in
theorem tw_X7_layPits_27 (C : fb_C p s m args meth c G RX7 cX7_layPits 6) (hret : fb_RI p l e rm_X7_layPits s m args below meth c G cX7_layPits Qm Q) {r27 : Int → Int → fb_St → Prop} (h27 : TT_X7_layPits_27 p l e s m args below meth c Qm G r27) : TT_X7_layPits_27 p l e s m args below meth c Qm G (wb_X7_layPits_27 r27 Q) := by
  intro x1 x2 σ H locs ls w hl ix1 ix2 h
  unfold wb_X7_layPits_27 at h
  refine lv_iload_n C.1.1 C.1.2.1 dX7_layPits_27 rfl (lv_at hl 2 rfl) ?_
  refine lv_aload_n C.1.1 C.1.2.1 dX7_layPits_28 rfl (lv_at hl 0 rfl) ?_
  refine fb_callVi (As := []) (rest := [.int (fb_I x2)]) C w (ct_X7_dots l G h) mv_X7_80 (fb_k48 C) rfl ⟨rfl, rfl, Nat.le_of_ble_eq_true rfl, Nat.le_of_ble_eq_true rfl, Nat.zero_le _, Nat.zero_le _⟩ rfl hl.1 rfl (Nat.le_of_ble_eq_true rfl) dX7_layPits_29 (fun a6 σ6 H locs h ia6 w => ?_)
  refine fb_icmp_ge (tgt := 119) C ix2 ia6 dX7_layPits_32 (by decide) (fun c7 => ?_) (fun c7 => ?_)
  · have h := h.2 c7
    refine lv_iload_n C.1.1 C.1.2.1 dX7_layPits_119 rfl (lv_at hl 1 rfl) ?_
    exact hret _ _ _ _ _ _ ix1 h w dX7_layPits_120
  · have h := h.1 c7
    refine lv_aload_n C.1.1 C.1.2.1 dX7_layPits_35 rfl (lv_at hl 0 rfl) ?_
    refine fb_getr (k2 := 52) C w (fb_k48 C) rfl fl_X7_20 dX7_layPits_36 ?_
    refine lv_iload_n C.1.1 C.1.2.1 dX7_layPits_39 rfl (lv_at hl 2 rfl) ?_
    obtain ⟨z8, z9, h⟩ := h
    refine fb_al C w 144 (fb_k52 C) rfl rfl z8 z9 dX7_layPits_40 ?_
    have i10 := w.2.2.2 52 x2
    refine fb_bipush C dX7_layPits_41 (by decide) ?_
    refine fb_icmp_ne (tgt := 113) C i10 (by decide) dX7_layPits_43 (by decide) (fun c11 => ?_) (fun c11 => ?_)
    · have h := h.2 c11
      exact tw_X7_layPits_113 C hret h27 x1 x2 _ _ _ _ w (lv_sub hl [0, 1, 2] rfl) ix1 ix2 h
    · have h := h.1 c11
      refine lv_aload_n C.1.1 C.1.2.1 dX7_layPits_46 rfl (lv_at hl 0 rfl) ?_
      refine lv_iload_n C.1.1 C.1.2.1 dX7_layPits_47 rfl (lv_at hl 2 rfl) ?_
      refine lv_aload_n C.1.1 C.1.2.1 dX7_layPits_48 rfl (lv_at hl 0 rfl) ?_
      refine fb_getr (k2 := 49) C w (fb_k48 C) rfl fl_X7_7 dX7_layPits_49 ?_
      refine lv_iload_n C.1.1 C.1.2.1 dX7_layPits_52 rfl (lv_at hl 2 rfl) ?_
      obtain ⟨z12, z13, h⟩ := h
      refine fb_al C w 292 (fb_k49 C) rfl rfl z12 z13 dX7_layPits_53 ?_
      have i14 := w.2.2.2 49 x2
      refine fb_iconst C dX7_layPits_54 ?_
      refine fb_callVi (As := [.int (fb_I x2), .int (fb_I (σ6 49 x2)), .int (fb_I 1)]) (rest := []) C w (ct_X7_spread l G ix2 i14 (by decide) h) mv_X7_84 (fb_k48 C) rfl ⟨rfl, rfl, Nat.le_of_ble_eq_true rfl, Nat.le_of_ble_eq_true rfl, Nat.zero_le _, Nat.zero_le _⟩ rfl hl.1 rfl (Nat.le_of_ble_eq_true rfl) dX7_layPits_55 (fun a15 σ15 H locs h ia15 w => ?_)
      refine lv_istore_n (lv' := [(3, .int (fb_I a15)), (0, .ref (fb_ad G 48)), (1, .int (fb_I x1)), (2, .int (fb_I x2))]) C.1.1 C.1.2.1 dX7_layPits_58 rfl hl (by decide) rfl (fun ls hl => ?_)
      refine lv_aload_n C.1.1 C.1.2.1 dX7_layPits_59 rfl (lv_at hl 1 rfl) ?_
      refine lv_iload_n C.1.1 C.1.2.1 dX7_layPits_60 rfl (lv_at hl 0 rfl) ?_
      refine fb_callVi (As := [.int (fb_I a15)]) (rest := []) C w (ct_X7_leastBeside l G ia15 h) mv_X7_88 (fb_k48 C) rfl ⟨rfl, rfl, Nat.le_of_ble_eq_true rfl, Nat.le_of_ble_eq_true rfl, Nat.zero_le _, Nat.zero_le _⟩ rfl hl.1 rfl (Nat.le_of_ble_eq_true rfl) dX7_layPits_61 (fun a16 σ16 H locs h ia16 w => ?_)
      refine lv_istore (lv' := [(4, .int (fb_I a16)), (3, .int (fb_I a15)), (0, .ref (fb_ad G 48)), (1, .int (fb_I x1)), (2, .int (fb_I x2))]) C.1.1 C.1.2.1 dX7_layPits_64 hl (by decide) rfl (fun ls hl => ?_)
      refine lv_iload C.1.1 C.1.2.1 dX7_layPits_66 (lv_at hl 0 rfl) ?_
      refine fb_if_lt (tgt := 82) C ia16 dX7_layPits_68 (by decide) (fun c17 => ?_) (fun c17 => ?_)
      · have h := h.1 c17
        exact tw_X7_layPits_82 C hret h27 x1 x2 a15 _ _ _ _ w (lv_sub hl [2, 3, 4, 1] rfl) ix1 ix2 ia15 h
      · have h := h.2 c17
        refine lv_iload C.1.1 C.1.2.1 dX7_layPits_71 (lv_at hl 0 rfl) ?_
        refine lv_aload_n C.1.1 C.1.2.1 dX7_layPits_73 rfl (lv_at hl 2 rfl) ?_
        refine fb_getr (k2 := 49) C w (fb_k48 C) rfl fl_X7_7 dX7_layPits_74 ?_
        refine lv_iload_n C.1.1 C.1.2.1 dX7_layPits_77 rfl (lv_at hl 4 rfl) ?_
        obtain ⟨z18, z19, h⟩ := h
        refine fb_al C w 292 (fb_k49 C) rfl rfl z18 z19 dX7_layPits_78 ?_
        have i20 := w.2.2.2 49 x2
        refine fb_icmp_le (tgt := 113) C ia16 i20 dX7_layPits_79 (by decide) (fun c21 => ?_) (fun c21 => ?_)
        · have h := h.2 c21
          exact tw_X7_layPits_113 C hret h27 x1 x2 _ _ _ _ w (lv_sub hl [2, 3, 4] rfl) ix1 ix2 h
        · have h := h.1 c21
          exact tw_X7_layPits_82 C hret h27 x1 x2 a15 _ _ _ _ w (lv_sub hl [2, 3, 4, 1] rfl) ix1 ix2 ia15 h
theorem tl_X7_layPits_27 (C : fb_C p s m args meth c G RX7 cX7_layPits 6) (hret : fb_RI p l e rm_X7_layPits s m args below meth c G cX7_layPits Qm Q) : ∀ n : Nat, TT_X7_layPits_27 p l e s m args below meth c Qm G (wl_X7_layPits_27 Q n) := by
  intro n
  induction n with
  | zero => intro x1 x2 σ H locs ls w hl ix1 ix2 h; exact h.elim
  | succ n ih => exact tw_X7_layPits_27 C hret ih
set_option maxRecDepth 100000 in
set_option maxHeartbeats 4000000 in
theorem tw_X7_layPits_2 (C : fb_C p s m args meth c G RX7 cX7_layPits 6) (hret : fb_RI p l e rm_X7_layPits s m args below meth c G cX7_layPits Qm Q) {r2 : Int → fb_St → Prop} (h2 : TT_X7_layPits_2 p l e s m args below meth c Qm G r2) : TT_X7_layPits_2 p l e s m args below meth c Qm G (wb_X7_layPits_2 r2 Q) := by
  intro x1 σ H locs ls w hl ix1 h
  unfold wb_X7_layPits_2 at h
  refine lv_iload_n C.1.1 C.1.2.1 dX7_layPits_2 rfl (lv_at hl 1 rfl) ?_
  refine fb_sipush C dX7_layPits_3 (by decide) ?_
  refine fb_icmp_ge (tgt := 23) C ix1 (by decide) dX7_layPits_6 (by decide) (fun c1 => ?_) (fun c1 => ?_)
  · have h := h.2 c1
    refine fb_iconst C dX7_layPits_23 ?_
    refine lv_istore_n (lv' := [(1, .int (fb_I 0)), (0, .ref (fb_ad G 48))]) C.1.1 C.1.2.1 dX7_layPits_24 rfl hl (by decide) rfl (fun ls hl => ?_)
    refine fb_iconst C dX7_layPits_25 ?_
    refine lv_istore_n (lv' := [(2, .int (fb_I 0)), (1, .int (fb_I 0)), (0, .ref (fb_ad G 48))]) C.1.1 C.1.2.1 dX7_layPits_26 rfl hl (by decide) rfl (fun ls hl => ?_)
    obtain ⟨n, h⟩ := h
    exact tl_X7_layPits_27 C hret n 0 0 _ _ _ _ w (lv_sub hl [2, 1, 0] rfl) (by decide) (by decide) h
  · have h := h.1 c1
    refine lv_aload_n C.1.1 C.1.2.1 dX7_layPits_9 rfl (lv_at hl 0 rfl) ?_
    refine fb_getr (k2 := 52) C w (fb_k48 C) rfl fl_X7_20 dX7_layPits_10 ?_
    refine lv_iload_n C.1.1 C.1.2.1 dX7_layPits_13 rfl (lv_at hl 1 rfl) ?_
    refine fb_bipush C dX7_layPits_14 (by decide) ?_
    obtain ⟨z2, z3, h⟩ := h
    refine fb_as C w 144 (fb_k52 C) rfl rfl (by decide) z2 z3 dX7_layPits_16 (fun σ4 H locs eσ4 w => ?_)
    have h := h σ4 eσ4
    obtain ⟨i5, h⟩ := h
    refine fb_iinc (b := x1 + 1) (k := 1) (lv' := [(1, .int (fb_I (x1 + 1))), (0, .ref (fb_ad G 48))]) C dX7_layPits_17 hl rfl rfl (by decide) rfl (fun ls hl => ?_)
    refine lv_goto (tgt := 2) C.1.1 C.1.2.1 dX7_layPits_20 (by decide) ?_
    exact h2 (x1 + 1) _ _ _ _ w (lv_sub hl [1, 0] rfl) i5 h
theorem tl_X7_layPits_2 (C : fb_C p s m args meth c G RX7 cX7_layPits 6) (hret : fb_RI p l e rm_X7_layPits s m args below meth c G cX7_layPits Qm Q) : ∀ n : Nat, TT_X7_layPits_2 p l e s m args below meth c Qm G (wl_X7_layPits_2 Q n) := by
  intro n
  induction n with
  | zero => intro x1 σ H locs ls w hl ix1 h; exact h.elim
  | succ n ih => exact tw_X7_layPits_2 C hret ih
set_option maxRecDepth 100000 in
set_option maxHeartbeats 4000000 in
theorem tw_X7_layPits_0 (C : fb_C p s m args meth c G RX7 cX7_layPits 6) (hret : fb_RI p l e rm_X7_layPits s m args below meth c G cX7_layPits Qm Q) : TT_X7_layPits_0 p l e s m args below meth c Qm G (fun σ => wp_X7_layPits σ Q) := by
  intro σ H locs ls w hl h
  unfold wp_X7_layPits at h
  refine fb_iconst C dX7_layPits_0 ?_
  refine lv_istore_n (lv' := [(1, .int (fb_I 0)), (0, .ref (fb_ad G 48))]) C.1.1 C.1.2.1 dX7_layPits_1 rfl hl (by decide) rfl (fun ls hl => ?_)
  obtain ⟨n, h⟩ := h
  exact tl_X7_layPits_2 C hret n 0 _ _ _ _ w (lv_sub hl [1, 0] rfl) (by decide) h
theorem ct_X7_layPits (l : Launch) (G : fb_G) {σ : fb_St} (h : wp_X7_layPits σ Q) : fb_MI l G yX7_layPits cX7_layPits 6 (some .int) rm_X7_layPits [.ref (fb_ad G 48)] σ Q := by
  refine fb_ofW (own := RX7) (by decide) (Nat.le_of_ble_eq_true rfl) rfl (fun p e s m args below meth c ls C hr hl w => ?_)
  exact tw_X7_layPits_0 C (fb_reti C hr) _ _ _ _ w hl h
end S_X7_layPits
section S_X7_land
variable {p : Program} {l : Launch} {e : Env} {s : State} {m : MethodId} {args : Array Value} {below : List Frame} {meth : Method} {c : Code} {Qm : State → Prop} {G : fb_G} {Q : Int → fb_St → Prop}
abbrev TT_X7_land_20 (p : Program) (l : Launch) (e : Env) (s : State) (m : MethodId) (args : Array Value) (below : List Frame) (meth : Method) (c : Code) (Qm : State → Prop) (G : fb_G) (r : fb_St → Prop) : Prop := ∀ (σ : fb_St) (H : Heap) (locs : List Loc) (ls : Array Slot), fb_Wd G s σ H locs → lv_has ls 4 [] → r σ → W p l e rm_X7_land s m args below meth c H locs 0 0 Qm (F0 m 20 ls [])
abbrev TT_X7_land_25 (p : Program) (l : Launch) (e : Env) (s : State) (m : MethodId) (args : Array Value) (below : List Frame) (meth : Method) (c : Code) (Qm : State → Prop) (G : fb_G) (r : Int → Int → Int → fb_St → Prop) : Prop := ∀ (x1 x2 x3 : Int) (σ : fb_St) (H : Heap) (locs : List Loc) (ls : Array Slot), fb_Wd G s σ H locs → lv_has ls 4 [(0, .ref (fb_ad G 48)), (1, .int (fb_I x1)), (2, .int (fb_I x2)), (3, .int (fb_I x3))] → fb_in x1 → fb_in x2 → fb_in x3 → r x1 x2 x3 σ → W p l e rm_X7_land s m args below meth c H locs 0 0 Qm (F0 m 25 ls [])
abbrev TT_X7_land_0 (p : Program) (l : Launch) (e : Env) (s : State) (m : MethodId) (args : Array Value) (below : List Frame) (meth : Method) (c : Code) (Qm : State → Prop) (G : fb_G) (r : Int → Int → fb_St → Prop) : Prop := ∀ (x1 x2 : Int) (σ : fb_St) (H : Heap) (locs : List Loc) (ls : Array Slot), fb_Wd G s σ H locs → lv_has ls 4 [(0, .ref (fb_ad G 48)), (1, .int (fb_I x1)), (2, .int (fb_I x2))] → fb_in x1 → fb_in x2 → r x1 x2 σ → W p l e rm_X7_land s m args below meth c H locs 0 0 Qm (F0 m 0 ls [])
set_option maxRecDepth 100000 in
set_option maxHeartbeats 4000000 in
theorem tw_X7_land_20 (C : fb_C p s m args meth c G RX7 cX7_land 4) (hret : fb_RI p l e rm_X7_land s m args below meth c G cX7_land Qm Q) : TT_X7_land_20 p l e s m args below meth c Qm G (wj_X7_land_20 Q) := by
  intro σ H locs ls w hl h
  unfold wj_X7_land_20 at h
  refine fb_bipush C dX7_land_20 (by decide) ?_
  exact hret _ _ _ _ _ _ (by decide) h w dX7_land_22
set_option maxRecDepth 100000 in
set_option maxHeartbeats 4000000 in
theorem tw_X7_land_25 (C : fb_C p s m args meth c G RX7 cX7_land 4) (hret : fb_RI p l e rm_X7_land s m args below meth c G cX7_land Qm Q) {r25 : Int → Int → Int → fb_St → Prop} (h25 : TT_X7_land_25 p l e s m args below meth c Qm G r25) : TT_X7_land_25 p l e s m args below meth c Qm G (wb_X7_land_25 r25 Q) := by
  intro x1 x2 x3 σ H locs ls w hl ix1 ix2 ix3 h
  unfold wb_X7_land_25 at h
  refine lv_iload_n C.1.1 C.1.2.1 dX7_land_25 rfl (lv_at hl 3 rfl) ?_
  refine fb_sipush C dX7_land_26 (by decide) ?_
  refine fb_icmp_ge (tgt := 56) C ix3 (by decide) dX7_land_29 (by decide) (fun c5 => ?_) (fun c5 => ?_)
  · have h := h.2 c5
    refine lv_aload_n C.1.1 C.1.2.1 dX7_land_56 rfl (lv_at hl 0 rfl) ?_
    refine fb_getr (k2 := 49) C w (fb_k48 C) rfl fl_X7_7 dX7_land_57 ?_
    refine fb_sipush C dX7_land_60 (by decide) ?_
    refine lv_iload_n C.1.1 C.1.2.1 dX7_land_63 rfl (lv_at hl 1 rfl) ?_
    refine fb_as C w 292 (fb_k49 C) rfl rfl ix1 (by decide) (by decide) dX7_land_64 (fun σ6 H locs eσ6 w => ?_)
    have h := h σ6 eσ6
    refine lv_aload_n C.1.1 C.1.2.1 dX7_land_65 rfl (lv_at hl 0 rfl) ?_
    refine fb_getr (k2 := 49) C w (fb_k48 C) rfl fl_X7_7 dX7_land_66 ?_
    refine fb_sipush C dX7_land_69 (by decide) ?_
    refine lv_iload_n C.1.1 C.1.2.1 dX7_land_72 rfl (lv_at hl 2 rfl) ?_
    refine fb_as C w 292 (fb_k49 C) rfl rfl ix2 (by decide) (by decide) dX7_land_73 (fun σ7 H locs eσ7 w => ?_)
    have h := h σ7 eσ7
    refine lv_aload_n C.1.1 C.1.2.1 dX7_land_74 rfl (lv_at hl 0 rfl) ?_
    refine fb_callVi (As := []) (rest := []) C w (ct_X7_layPits l G h) mv_X7_92 (fb_k48 C) rfl ⟨rfl, rfl, Nat.le_of_ble_eq_true rfl, Nat.le_of_ble_eq_true rfl, Nat.zero_le _, Nat.zero_le _⟩ rfl hl.1 rfl (Nat.le_of_ble_eq_true rfl) dX7_land_75 (fun a8 σ8 H locs h ia8 w => ?_)
    exact hret _ _ _ _ _ _ ia8 h w dX7_land_78
  · have h := h.1 c5
    refine lv_aload_n C.1.1 C.1.2.1 dX7_land_32 rfl (lv_at hl 0 rfl) ?_
    refine fb_getr (k2 := 49) C w (fb_k48 C) rfl fl_X7_7 dX7_land_33 ?_
    refine lv_iload_n C.1.1 C.1.2.1 dX7_land_36 rfl (lv_at hl 3 rfl) ?_
    refine fb_iconst C dX7_land_37 ?_
    obtain ⟨z9, z10, h⟩ := h
    refine fb_as C w 292 (fb_k49 C) rfl rfl (by decide) z9 z10 dX7_land_38 (fun σ11 H locs eσ11 w => ?_)
    have h := h σ11 eσ11
    refine lv_aload_n C.1.1 C.1.2.1 dX7_land_39 rfl (lv_at hl 0 rfl) ?_
    refine fb_getr (k2 := 49) C w (fb_k48 C) rfl fl_X7_7 dX7_land_40 ?_
    refine fb_sipush C dX7_land_43 (by decide) ?_
    refine lv_iload_n C.1.1 C.1.2.1 dX7_land_46 rfl (lv_at hl 3 rfl) ?_
    obtain ⟨i12, h⟩ := h
    refine fb_iadd C dX7_land_47 ?_
    refine fb_iconst C dX7_land_48 ?_
    obtain ⟨z13, z14, h⟩ := h
    refine fb_as C w 292 (fb_k49 C) rfl rfl (by decide) z13 z14 dX7_land_49 (fun σ15 H locs eσ15 w => ?_)
    have h := h σ15 eσ15
    obtain ⟨i16, h⟩ := h
    refine fb_iinc (b := x3 + 1) (k := 3) (lv' := [(3, .int (fb_I (x3 + 1))), (0, .ref (fb_ad G 48)), (1, .int (fb_I x1)), (2, .int (fb_I x2))]) C dX7_land_50 hl rfl rfl (by decide) rfl (fun ls hl => ?_)
    refine lv_goto (tgt := 25) C.1.1 C.1.2.1 dX7_land_53 (by decide) ?_
    exact h25 x1 x2 (x3 + 1) _ _ _ _ w (lv_sub hl [1, 2, 3, 0] rfl) ix1 ix2 i16 h
theorem tl_X7_land_25 (C : fb_C p s m args meth c G RX7 cX7_land 4) (hret : fb_RI p l e rm_X7_land s m args below meth c G cX7_land Qm Q) : ∀ n : Nat, TT_X7_land_25 p l e s m args below meth c Qm G (wl_X7_land_25 Q n) := by
  intro n
  induction n with
  | zero => intro x1 x2 x3 σ H locs ls w hl ix1 ix2 ix3 h; exact h.elim
  | succ n ih => exact tw_X7_land_25 C hret ih
set_option maxRecDepth 100000 in
set_option maxHeartbeats 4000000 in
theorem tw_X7_land_0 (C : fb_C p s m args meth c G RX7 cX7_land 4) (hret : fb_RI p l e rm_X7_land s m args below meth c G cX7_land Qm Q) : TT_X7_land_0 p l e s m args below meth c Qm G (fun x1 x2 σ => wp_X7_land x1 x2 σ Q) := by
  intro x1 x2 σ H locs ls w hl ix1 ix2 h
  unfold wp_X7_land at h
  refine lv_iload_n C.1.1 C.1.2.1 dX7_land_0 rfl (lv_at hl 1 rfl) ?_
  refine fb_iconst C dX7_land_1 ?_
  refine fb_bipush C dX7_land_2 (by decide) ?_
  refine fb_callSi (As := [.int (fb_I x1), .int (fb_I 1), .int (fb_I 12)]) (rest := []) C w (ct_X7_in l G ix1 (by decide) (by decide) h) ms_X7_65 ⟨rfl, rfl, Nat.le_of_ble_eq_true rfl, Nat.le_of_ble_eq_true rfl, Nat.zero_le _, Nat.zero_le _⟩ rfl hl.1 rfl (Nat.le_of_ble_eq_true rfl) dX7_land_4 (fun a1 σ1 H locs h ia1 w => ?_)
  refine fb_if_eq (tgt := 20) C ia1 dX7_land_7 (by decide) (fun c2 => ?_) (fun c2 => ?_)
  · have h := h.1 c2
    exact tw_X7_land_20 C hret _ _ _ _ w (lv_sub hl [] rfl) h
  · have h := h.2 c2
    refine lv_iload_n C.1.1 C.1.2.1 dX7_land_10 rfl (lv_at hl 2 rfl) ?_
    refine fb_iconst C dX7_land_11 ?_
    refine fb_bipush C dX7_land_12 (by decide) ?_
    refine fb_callSi (As := [.int (fb_I x2), .int (fb_I 1), .int (fb_I 12)]) (rest := []) C w (ct_X7_in l G ix2 (by decide) (by decide) h) ms_X7_65 ⟨rfl, rfl, Nat.le_of_ble_eq_true rfl, Nat.le_of_ble_eq_true rfl, Nat.zero_le _, Nat.zero_le _⟩ rfl hl.1 rfl (Nat.le_of_ble_eq_true rfl) dX7_land_14 (fun a3 σ3 H locs h ia3 w => ?_)
    refine fb_if_ne (tgt := 23) C ia3 dX7_land_17 (by decide) (fun c4 => ?_) (fun c4 => ?_)
    · have h := h.2 c4
      refine fb_iconst C dX7_land_23 ?_
      refine lv_istore_n (lv' := [(3, .int (fb_I 0)), (0, .ref (fb_ad G 48)), (1, .int (fb_I x1)), (2, .int (fb_I x2))]) C.1.1 C.1.2.1 dX7_land_24 rfl hl (by decide) rfl (fun ls hl => ?_)
      obtain ⟨n, h⟩ := h
      exact tl_X7_land_25 C hret n x1 x2 0 _ _ _ _ w (lv_sub hl [1, 2, 3, 0] rfl) ix1 ix2 (by decide) h
    · have h := h.1 c4
      exact tw_X7_land_20 C hret _ _ _ _ w (lv_sub hl [] rfl) h
theorem ct_X7_land (l : Launch) (G : fb_G) {x1 : Int} {x2 : Int} {σ : fb_St} (ix1 : fb_in x1) (ix2 : fb_in x2) (h : wp_X7_land x1 x2 σ Q) : fb_MI l G yX7_land cX7_land 4 (some .int) rm_X7_land [.ref (fb_ad G 48), .int (fb_I x1), .int (fb_I x2)] σ Q := by
  refine fb_ofW (own := RX7) (by decide) (Nat.le_of_ble_eq_true rfl) rfl (fun p e s m args below meth c ls C hr hl w => ?_)
  exact tw_X7_land_0 C (fb_reti C hr) _ _ _ _ _ _ w hl ix1 ix2 h
end S_X7_land
section S_X7_wave
variable {p : Program} {l : Launch} {e : Env} {s : State} {m : MethodId} {args : Array Value} {below : List Frame} {meth : Method} {c : Code} {Qm : State → Prop} {G : fb_G} {Q : Int → fb_St → Prop}
abbrev TT_X7_wave_41 (p : Program) (l : Launch) (e : Env) (s : State) (m : MethodId) (args : Array Value) (below : List Frame) (meth : Method) (c : Code) (Qm : State → Prop) (G : fb_G) (r : fb_St → Prop) : Prop := ∀ (σ : fb_St) (H : Heap) (locs : List Loc) (ls : Array Slot), fb_Wd G s σ H locs → lv_has ls 8 [] → r σ → W p l e rm_X7_wave s m args below meth c H locs 0 0 Qm (F0 m 41 ls [])
abbrev TT_X7_wave_47 (p : Program) (l : Launch) (e : Env) (s : State) (m : MethodId) (args : Array Value) (below : List Frame) (meth : Method) (c : Code) (Qm : State → Prop) (G : fb_G) (r : Int → Int → Int → Int → Int → fb_St → Prop) : Prop := ∀ (x1 x2 x3 x4 x5 : Int) (σ : fb_St) (H : Heap) (locs : List Loc) (ls : Array Slot), fb_Wd G s σ H locs → lv_has ls 8 [(0, .ref (fb_ad G 48)), (1, .int (fb_I x1)), (2, .int (fb_I x2)), (3, .int (fb_I x3)), (4, .int (fb_I x4)), (5, .int (fb_I x5))] → fb_in x1 → fb_in x2 → fb_in x3 → fb_in x4 → fb_in x5 → r x1 x2 x3 x4 x5 σ → W p l e rm_X7_wave s m args below meth c H locs 0 0 Qm (F0 m 47 ls [])
abbrev TT_X7_wave_0 (p : Program) (l : Launch) (e : Env) (s : State) (m : MethodId) (args : Array Value) (below : List Frame) (meth : Method) (c : Code) (Qm : State → Prop) (G : fb_G) (r : Int → Int → Int → Int → fb_St → Prop) : Prop := ∀ (x1 x2 x3 x4 : Int) (σ : fb_St) (H : Heap) (locs : List Loc) (ls : Array Slot), fb_Wd G s σ H locs → lv_has ls 8 [(0, .ref (fb_ad G 48)), (1, .int (fb_I x1)), (2, .int (fb_I x2)), (3, .int (fb_I x3)), (4, .int (fb_I x4))] → fb_in x1 → fb_in x2 → fb_in x3 → fb_in x4 → r x1 x2 x3 x4 σ → W p l e rm_X7_wave s m args below meth c H locs 0 0 Qm (F0 m 0 ls [])
set_option maxRecDepth 100000 in
set_option maxHeartbeats 4000000 in
theorem tw_X7_wave_41 (C : fb_C p s m args meth c G RX7 cX7_wave 8) (hret : fb_RI p l e rm_X7_wave s m args below meth c G cX7_wave Qm Q) : TT_X7_wave_41 p l e s m args below meth c Qm G (wj_X7_wave_41 Q) := by
  intro σ H locs ls w hl h
  unfold wj_X7_wave_41 at h
  refine fb_bipush C dX7_wave_41 (by decide) ?_
  exact hret _ _ _ _ _ _ (by decide) h w dX7_wave_43
set_option maxRecDepth 100000 in
set_option maxHeartbeats 4000000 in
theorem tw_X7_wave_47 (C : fb_C p s m args meth c G RX7 cX7_wave 8) (hret : fb_RI p l e rm_X7_wave s m args below meth c G cX7_wave Qm Q) {r47 : Int → Int → Int → Int → Int → fb_St → Prop} (h47 : TT_X7_wave_47 p l e s m args below meth c Qm G r47) : TT_X7_wave_47 p l e s m args below meth c Qm G (wb_X7_wave_47 r47 Q) := by
  intro x1 x2 x3 x4 x5 σ H locs ls w hl ix1 ix2 ix3 ix4 ix5 h
  unfold wb_X7_wave_47 at h
  refine lv_iload C.1.1 C.1.2.1 dX7_wave_47 (lv_at hl 5 rfl) ?_
  refine lv_aload_n C.1.1 C.1.2.1 dX7_wave_49 rfl (lv_at hl 0 rfl) ?_
  refine fb_callVi (As := []) (rest := [.int (fb_I x5)]) C w (ct_X7_dots l G h) mv_X7_80 (fb_k48 C) rfl ⟨rfl, rfl, Nat.le_of_ble_eq_true rfl, Nat.le_of_ble_eq_true rfl, Nat.zero_le _, Nat.zero_le _⟩ rfl hl.1 rfl (Nat.le_of_ble_eq_true rfl) dX7_wave_50 (fun a9 σ9 H locs h ia9 w => ?_)
  refine fb_icmp_ge (tgt := 115) C ix5 ia9 dX7_wave_53 (by decide) (fun c10 => ?_) (fun c10 => ?_)
  · have h := h.2 c10
    refine lv_aload_n C.1.1 C.1.2.1 dX7_wave_115 rfl (lv_at hl 0 rfl) ?_
    refine fb_callVi (As := []) (rest := []) C w (ct_X7_layPits l G h) mv_X7_92 (fb_k48 C) rfl ⟨rfl, rfl, Nat.le_of_ble_eq_true rfl, Nat.le_of_ble_eq_true rfl, Nat.zero_le _, Nat.zero_le _⟩ rfl hl.1 rfl (Nat.le_of_ble_eq_true rfl) dX7_wave_116 (fun a11 σ11 H locs h ia11 w => ?_)
    exact hret _ _ _ _ _ _ ia11 h w dX7_wave_119
  · have h := h.1 c10
    refine lv_iload C.1.1 C.1.2.1 dX7_wave_56 (lv_at hl 5 rfl) ?_
    refine lv_aload_n C.1.1 C.1.2.1 dX7_wave_58 rfl (lv_at hl 0 rfl) ?_
    refine fb_getr (k2 := 49) C w (fb_k48 C) rfl fl_X7_7 dX7_wave_59 ?_
    refine fb_sipush C dX7_wave_62 (by decide) ?_
    refine fb_al C w 292 (fb_k49 C) rfl rfl (by decide) (by decide) dX7_wave_65 ?_
    have i12 := w.2.2.2 49 288
    obtain ⟨z14, z15, i13, h⟩ := h
    refine fb_irem C ix5 i12 z14 z15 dX7_wave_66 ?_
    refine fb_top (fun v16 ev16 => ?_)
    have h := h v16 ev16
    have iv16 := fb_ie ev16 i13
    refine lv_istore (lv' := [(6, .int (fb_I v16)), (0, .ref (fb_ad G 48)), (1, .int (fb_I x1)), (2, .int (fb_I x2)), (3, .int (fb_I x3)), (4, .int (fb_I x4)), (5, .int (fb_I x5))]) C.1.1 C.1.2.1 dX7_wave_67 hl (by decide) rfl (fun ls hl => ?_)
    refine lv_iload C.1.1 C.1.2.1 dX7_wave_69 (lv_at hl 6 rfl) ?_
    refine lv_aload_n C.1.1 C.1.2.1 dX7_wave_71 rfl (lv_at hl 1 rfl) ?_
    refine fb_getr (k2 := 49) C w (fb_k48 C) rfl fl_X7_7 dX7_wave_72 ?_
    refine fb_sipush C dX7_wave_75 (by decide) ?_
    refine fb_al C w 292 (fb_k49 C) rfl rfl (by decide) (by decide) dX7_wave_78 ?_
    have i17 := w.2.2.2 49 288
    obtain ⟨z19, z20, i18, h⟩ := h
    refine fb_idiv C ix5 i17 z19 z20 dX7_wave_79 ?_
    refine fb_top (fun v21 ev21 => ?_)
    have h := h v21 ev21
    have iv21 := fb_ie ev21 i18
    refine lv_istore (lv' := [(7, .int (fb_I v21)), (6, .int (fb_I v16)), (0, .ref (fb_ad G 48)), (1, .int (fb_I x1)), (2, .int (fb_I x2)), (3, .int (fb_I x3)), (4, .int (fb_I x4)), (5, .int (fb_I x5))]) C.1.1 C.1.2.1 dX7_wave_80 hl (by decide) rfl (fun ls hl => ?_)
    refine lv_aload_n C.1.1 C.1.2.1 dX7_wave_82 rfl (lv_at hl 2 rfl) ?_
    refine fb_getr (k2 := 49) C w (fb_k48 C) rfl fl_X7_7 dX7_wave_83 ?_
    refine lv_iload C.1.1 C.1.2.1 dX7_wave_86 (lv_at hl 7 rfl) ?_
    refine lv_iload_n C.1.1 C.1.2.1 dX7_wave_88 rfl (lv_at hl 3 rfl) ?_
    refine lv_iload C.1.1 C.1.2.1 dX7_wave_89 (lv_at hl 1 rfl) ?_
    obtain ⟨i22, h⟩ := h
    refine fb_imul C dX7_wave_91 ?_
    refine lv_iload_n C.1.1 C.1.2.1 dX7_wave_92 rfl (lv_at hl 4 rfl) ?_
    refine lv_iload C.1.1 C.1.2.1 dX7_wave_93 (lv_at hl 0 rfl) ?_
    obtain ⟨i23, h⟩ := h
    refine fb_imul C dX7_wave_95 ?_
    obtain ⟨i24, h⟩ := h
    refine fb_iadd C dX7_wave_96 ?_
    refine lv_iload_n C.1.1 C.1.2.1 dX7_wave_97 rfl (lv_at hl 5 rfl) ?_
    refine lv_iload C.1.1 C.1.2.1 dX7_wave_98 (lv_at hl 1 rfl) ?_
    obtain ⟨i25, h⟩ := h
    refine fb_imul C dX7_wave_100 ?_
    refine lv_iload C.1.1 C.1.2.1 dX7_wave_101 (lv_at hl 0 rfl) ?_
    obtain ⟨i26, h⟩ := h
    refine fb_imul C dX7_wave_103 ?_
    obtain ⟨i27, h⟩ := h
    refine fb_iadd C dX7_wave_104 ?_
    refine lv_iload C.1.1 C.1.2.1 dX7_wave_105 (lv_at hl 6 rfl) ?_
    obtain ⟨z29, z30, i28, h⟩ := h
    refine fb_irem C i27 ix4 z29 z30 dX7_wave_107 ?_
    obtain ⟨z31, z32, h⟩ := h
    refine fb_as C w 292 (fb_k49 C) rfl rfl i28 z31 z32 dX7_wave_108 (fun σ33 H locs eσ33 w => ?_)
    have h := h σ33 eσ33
    obtain ⟨i34, h⟩ := h
    refine fb_iinc (b := x5 + 1) (k := 7) (lv' := [(5, .int (fb_I (x5 + 1))), (7, .int (fb_I v21)), (6, .int (fb_I v16)), (0, .ref (fb_ad G 48)), (1, .int (fb_I x1)), (2, .int (fb_I x2)), (3, .int (fb_I x3)), (4, .int (fb_I x4))]) C dX7_wave_109 hl rfl rfl (by decide) rfl (fun ls hl => ?_)
    refine lv_goto (tgt := 47) C.1.1 C.1.2.1 dX7_wave_112 (by decide) ?_
    exact h47 x1 x2 x3 x4 (x5 + 1) _ _ _ _ w (lv_sub hl [3, 4, 5, 6, 7, 0] rfl) ix1 ix2 ix3 ix4 i34 h
theorem tl_X7_wave_47 (C : fb_C p s m args meth c G RX7 cX7_wave 8) (hret : fb_RI p l e rm_X7_wave s m args below meth c G cX7_wave Qm Q) : ∀ n : Nat, TT_X7_wave_47 p l e s m args below meth c Qm G (wl_X7_wave_47 Q n) := by
  intro n
  induction n with
  | zero => intro x1 x2 x3 x4 x5 σ H locs ls w hl ix1 ix2 ix3 ix4 ix5 h; exact h.elim
  | succ n ih => exact tw_X7_wave_47 C hret ih
set_option maxRecDepth 100000 in
set_option maxHeartbeats 4000000 in
theorem tw_X7_wave_0 (C : fb_C p s m args meth c G RX7 cX7_wave 8) (hret : fb_RI p l e rm_X7_wave s m args below meth c G cX7_wave Qm Q) : TT_X7_wave_0 p l e s m args below meth c Qm G (fun x1 x2 x3 x4 σ => wp_X7_wave x1 x2 x3 x4 σ Q) := by
  intro x1 x2 x3 x4 σ H locs ls w hl ix1 ix2 ix3 ix4 h
  unfold wp_X7_wave at h
  refine lv_iload_n C.1.1 C.1.2.1 dX7_wave_0 rfl (lv_at hl 1 rfl) ?_
  refine fb_iconst C dX7_wave_1 ?_
  refine fb_bipush C dX7_wave_2 (by decide) ?_
  refine fb_callSi (As := [.int (fb_I x1), .int (fb_I 0), .int (fb_I 50)]) (rest := []) C w (ct_X7_in l G ix1 (by decide) (by decide) h) ms_X7_65 ⟨rfl, rfl, Nat.le_of_ble_eq_true rfl, Nat.le_of_ble_eq_true rfl, Nat.zero_le _, Nat.zero_le _⟩ rfl hl.1 rfl (Nat.le_of_ble_eq_true rfl) dX7_wave_4 (fun a1 σ1 H locs h ia1 w => ?_)
  refine fb_if_eq (tgt := 41) C ia1 dX7_wave_7 (by decide) (fun c2 => ?_) (fun c2 => ?_)
  · have h := h.1 c2
    exact tw_X7_wave_41 C hret _ _ _ _ w (lv_sub hl [] rfl) h
  · have h := h.2 c2
    refine lv_iload_n C.1.1 C.1.2.1 dX7_wave_10 rfl (lv_at hl 2 rfl) ?_
    refine fb_iconst C dX7_wave_11 ?_
    refine fb_bipush C dX7_wave_12 (by decide) ?_
    refine fb_callSi (As := [.int (fb_I x2), .int (fb_I 0), .int (fb_I 50)]) (rest := []) C w (ct_X7_in l G ix2 (by decide) (by decide) h) ms_X7_65 ⟨rfl, rfl, Nat.le_of_ble_eq_true rfl, Nat.le_of_ble_eq_true rfl, Nat.zero_le _, Nat.zero_le _⟩ rfl hl.1 rfl (Nat.le_of_ble_eq_true rfl) dX7_wave_14 (fun a3 σ3 H locs h ia3 w => ?_)
    refine fb_if_eq (tgt := 41) C ia3 dX7_wave_17 (by decide) (fun c4 => ?_) (fun c4 => ?_)
    · have h := h.1 c4
      exact tw_X7_wave_41 C hret _ _ _ _ w (lv_sub hl [] rfl) h
    · have h := h.2 c4
      refine lv_iload_n C.1.1 C.1.2.1 dX7_wave_20 rfl (lv_at hl 3 rfl) ?_
      refine fb_iconst C dX7_wave_21 ?_
      refine fb_bipush C dX7_wave_22 (by decide) ?_
      refine fb_callSi (As := [.int (fb_I x3), .int (fb_I 0), .int (fb_I 50)]) (rest := []) C w (ct_X7_in l G ix3 (by decide) (by decide) h) ms_X7_65 ⟨rfl, rfl, Nat.le_of_ble_eq_true rfl, Nat.le_of_ble_eq_true rfl, Nat.zero_le _, Nat.zero_le _⟩ rfl hl.1 rfl (Nat.le_of_ble_eq_true rfl) dX7_wave_24 (fun a5 σ5 H locs h ia5 w => ?_)
      refine fb_if_eq (tgt := 41) C ia5 dX7_wave_27 (by decide) (fun c6 => ?_) (fun c6 => ?_)
      · have h := h.1 c6
        exact tw_X7_wave_41 C hret _ _ _ _ w (lv_sub hl [] rfl) h
      · have h := h.2 c6
        refine lv_iload C.1.1 C.1.2.1 dX7_wave_30 (lv_at hl 4 rfl) ?_
        refine fb_iconst C dX7_wave_32 ?_
        refine fb_bipush C dX7_wave_33 (by decide) ?_
        refine fb_callSi (As := [.int (fb_I x4), .int (fb_I 1), .int (fb_I 100)]) (rest := []) C w (ct_X7_in l G ix4 (by decide) (by decide) h) ms_X7_65 ⟨rfl, rfl, Nat.le_of_ble_eq_true rfl, Nat.le_of_ble_eq_true rfl, Nat.zero_le _, Nat.zero_le _⟩ rfl hl.1 rfl (Nat.le_of_ble_eq_true rfl) dX7_wave_35 (fun a7 σ7 H locs h ia7 w => ?_)
        refine fb_if_ne (tgt := 44) C ia7 dX7_wave_38 (by decide) (fun c8 => ?_) (fun c8 => ?_)
        · have h := h.2 c8
          refine fb_iconst C dX7_wave_44 ?_
          refine lv_istore (lv' := [(5, .int (fb_I 0)), (0, .ref (fb_ad G 48)), (1, .int (fb_I x1)), (2, .int (fb_I x2)), (3, .int (fb_I x3)), (4, .int (fb_I x4))]) C.1.1 C.1.2.1 dX7_wave_45 hl (by decide) rfl (fun ls hl => ?_)
          obtain ⟨n, h⟩ := h
          exact tl_X7_wave_47 C hret n x1 x2 x3 x4 0 _ _ _ _ w (lv_sub hl [1, 2, 3, 4, 5, 0] rfl) ix1 ix2 ix3 ix4 (by decide) h
        · have h := h.1 c8
          exact tw_X7_wave_41 C hret _ _ _ _ w (lv_sub hl [] rfl) h
theorem ct_X7_wave (l : Launch) (G : fb_G) {x1 : Int} {x2 : Int} {x3 : Int} {x4 : Int} {σ : fb_St} (ix1 : fb_in x1) (ix2 : fb_in x2) (ix3 : fb_in x3) (ix4 : fb_in x4) (h : wp_X7_wave x1 x2 x3 x4 σ Q) : fb_MI l G yX7_wave cX7_wave 8 (some .int) rm_X7_wave [.ref (fb_ad G 48), .int (fb_I x1), .int (fb_I x2), .int (fb_I x3), .int (fb_I x4)] σ Q := by
  refine fb_ofW (own := RX7) (by decide) (Nat.le_of_ble_eq_true rfl) rfl (fun p e s m args below meth c ls C hr hl w => ?_)
  exact tw_X7_wave_0 C (fb_reti C hr) _ _ _ _ _ _ _ _ w hl ix1 ix2 ix3 ix4 h
end S_X7_wave
section S_X7_heap
variable {p : Program} {l : Launch} {e : Env} {s : State} {m : MethodId} {args : Array Value} {below : List Frame} {meth : Method} {c : Code} {Qm : State → Prop} {G : fb_G} {Q : Int → fb_St → Prop}
abbrev TT_X7_heap_31 (p : Program) (l : Launch) (e : Env) (s : State) (m : MethodId) (args : Array Value) (below : List Frame) (meth : Method) (c : Code) (Qm : State → Prop) (G : fb_G) (r : fb_St → Prop) : Prop := ∀ (σ : fb_St) (H : Heap) (locs : List Loc) (ls : Array Slot), fb_Wd G s σ H locs → lv_has ls 9 [] → r σ → W p l e rm_X7_heap s m args below meth c H locs 0 0 Qm (F0 m 31 ls [])
abbrev TT_X7_heap_148 (p : Program) (l : Launch) (e : Env) (s : State) (m : MethodId) (args : Array Value) (below : List Frame) (meth : Method) (c : Code) (Qm : State → Prop) (G : fb_G) (r : Int → Int → Int → Int → Int → Int → Int → fb_St → Prop) : Prop := ∀ (x1 x2 x3 x4 x5 s0 s1 : Int) (σ : fb_St) (H : Heap) (locs : List Loc) (ls : Array Slot), fb_Wd G s σ H locs → lv_has ls 9 [(0, .ref (fb_ad G 48)), (1, .int (fb_I x1)), (2, .int (fb_I x2)), (3, .int (fb_I x3)), (4, .int (fb_I x4)), (5, .int (fb_I x5))] → fb_in x1 → fb_in x2 → fb_in x3 → fb_in x4 → fb_in x5 → fb_in s0 → fb_in s1 → r x1 x2 x3 x4 x5 s0 s1 σ → W p l e rm_X7_heap s m args below meth c H locs 0 0 Qm (F0 m 148 ls [.int (fb_I s0), .int (fb_I s1), .ref (fb_ad G 49)])
abbrev TT_X7_heap_116 (p : Program) (l : Launch) (e : Env) (s : State) (m : MethodId) (args : Array Value) (below : List Frame) (meth : Method) (c : Code) (Qm : State → Prop) (G : fb_G) (r : Int → Int → Int → Int → Int → Int → Int → fb_St → Prop) : Prop := ∀ (x1 x2 x3 x4 x5 s0 s1 : Int) (σ : fb_St) (H : Heap) (locs : List Loc) (ls : Array Slot), fb_Wd G s σ H locs → lv_has ls 9 [(0, .ref (fb_ad G 48)), (1, .int (fb_I x1)), (2, .int (fb_I x2)), (3, .int (fb_I x3)), (4, .int (fb_I x4)), (5, .int (fb_I x5))] → fb_in x1 → fb_in x2 → fb_in x3 → fb_in x4 → fb_in x5 → fb_in s0 → fb_in s1 → r x1 x2 x3 x4 x5 s0 s1 σ → W p l e rm_X7_heap s m args below meth c H locs 0 0 Qm (F0 m 116 ls [.int (fb_I s0), .int (fb_I s1)])
abbrev TT_X7_heap_37 (p : Program) (l : Launch) (e : Env) (s : State) (m : MethodId) (args : Array Value) (below : List Frame) (meth : Method) (c : Code) (Qm : State → Prop) (G : fb_G) (r : Int → Int → Int → Int → Int → fb_St → Prop) : Prop := ∀ (x1 x2 x3 x4 x5 : Int) (σ : fb_St) (H : Heap) (locs : List Loc) (ls : Array Slot), fb_Wd G s σ H locs → lv_has ls 9 [(0, .ref (fb_ad G 48)), (1, .int (fb_I x1)), (2, .int (fb_I x2)), (3, .int (fb_I x3)), (4, .int (fb_I x4)), (5, .int (fb_I x5))] → fb_in x1 → fb_in x2 → fb_in x3 → fb_in x4 → fb_in x5 → r x1 x2 x3 x4 x5 σ → W p l e rm_X7_heap s m args below meth c H locs 0 0 Qm (F0 m 37 ls [])
abbrev TT_X7_heap_0 (p : Program) (l : Launch) (e : Env) (s : State) (m : MethodId) (args : Array Value) (below : List Frame) (meth : Method) (c : Code) (Qm : State → Prop) (G : fb_G) (r : Int → Int → Int → Int → fb_St → Prop) : Prop := ∀ (x1 x2 x3 x4 : Int) (σ : fb_St) (H : Heap) (locs : List Loc) (ls : Array Slot), fb_Wd G s σ H locs → lv_has ls 9 [(0, .ref (fb_ad G 48)), (1, .int (fb_I x1)), (2, .int (fb_I x2)), (3, .int (fb_I x3)), (4, .int (fb_I x4))] → fb_in x1 → fb_in x2 → fb_in x3 → fb_in x4 → r x1 x2 x3 x4 σ → W p l e rm_X7_heap s m args below meth c H locs 0 0 Qm (F0 m 0 ls [])
set_option maxRecDepth 100000 in
set_option maxHeartbeats 4000000 in
theorem tw_X7_heap_31 (C : fb_C p s m args meth c G RX7 cX7_heap 9) (hret : fb_RI p l e rm_X7_heap s m args below meth c G cX7_heap Qm Q) : TT_X7_heap_31 p l e s m args below meth c Qm G (wj_X7_heap_31 Q) := by
  intro σ H locs ls w hl h
  unfold wj_X7_heap_31 at h
  refine fb_bipush C dX7_heap_31 (by decide) ?_
  exact hret _ _ _ _ _ _ (by decide) h w dX7_heap_33
set_option maxRecDepth 100000 in
set_option maxHeartbeats 4000000 in
theorem tw_X7_heap_148 (C : fb_C p s m args meth c G RX7 cX7_heap 9) (hret : fb_RI p l e rm_X7_heap s m args below meth c G cX7_heap Qm Q) {r37 : Int → Int → Int → Int → Int → fb_St → Prop} (h37 : TT_X7_heap_37 p l e s m args below meth c Qm G r37) : TT_X7_heap_148 p l e s m args below meth c Qm G (wj_X7_heap_148 r37 Q) := by
  intro x1 x2 x3 x4 x5 s0 s1 σ H locs ls w hl ix1 ix2 ix3 ix4 ix5 is0 is1 h
  unfold wj_X7_heap_148 at h
  obtain ⟨z37, z38, h⟩ := h
  refine fb_as C w 292 (fb_k49 C) rfl rfl is0 z37 z38 dX7_heap_148 (fun σ39 H locs eσ39 w => ?_)
  have h := h σ39 eσ39
  obtain ⟨i40, h⟩ := h
  refine fb_iinc (b := x5 + 1) (k := 5) (lv' := [(5, .int (fb_I (x5 + 1))), (0, .ref (fb_ad G 48)), (1, .int (fb_I x1)), (2, .int (fb_I x2)), (3, .int (fb_I x3)), (4, .int (fb_I x4))]) C dX7_heap_149 hl rfl rfl (by decide) rfl (fun ls hl => ?_)
  refine lv_goto (tgt := 37) C.1.1 C.1.2.1 dX7_heap_152 (by decide) ?_
  exact h37 x1 x2 x3 x4 (x5 + 1) _ _ _ _ w (lv_sub hl [1, 2, 3, 4, 5, 0] rfl) ix1 ix2 ix3 ix4 i40 h
set_option maxRecDepth 100000 in
set_option maxHeartbeats 4000000 in
theorem tw_X7_heap_116 (C : fb_C p s m args meth c G RX7 cX7_heap 9) (hret : fb_RI p l e rm_X7_heap s m args below meth c G cX7_heap Qm Q) {r37 : Int → Int → Int → Int → Int → fb_St → Prop} (h37 : TT_X7_heap_37 p l e s m args below meth c Qm G r37) : TT_X7_heap_116 p l e s m args below meth c Qm G (wj_X7_heap_116 r37 Q) := by
  intro x1 x2 x3 x4 x5 s0 s1 σ H locs ls w hl ix1 ix2 ix3 ix4 ix5 is0 is1 h
  unfold wj_X7_heap_116 at h
  obtain ⟨i33, h⟩ := h
  refine fb_iadd C dX7_heap_116 ?_
  refine fb_top (fun v34 ev34 => ?_)
  have h := h v34 ev34
  have iv34 := fb_ie ev34 i33
  refine lv_istore (lv' := [(8, .int (fb_I v34)), (0, .ref (fb_ad G 48)), (1, .int (fb_I x1)), (2, .int (fb_I x2)), (3, .int (fb_I x3)), (4, .int (fb_I x4)), (5, .int (fb_I x5))]) C.1.1 C.1.2.1 dX7_heap_117 hl (by decide) rfl (fun ls hl => ?_)
  refine lv_aload_n C.1.1 C.1.2.1 dX7_heap_119 rfl (lv_at hl 1 rfl) ?_
  refine fb_getr (k2 := 49) C w (fb_k48 C) rfl fl_X7_7 dX7_heap_120 ?_
  refine lv_iload C.1.1 C.1.2.1 dX7_heap_123 (lv_at hl 6 rfl) ?_
  refine lv_iload C.1.1 C.1.2.1 dX7_heap_125 (lv_at hl 0 rfl) ?_
  refine fb_if_ge (tgt := 134) C iv34 dX7_heap_127 (by decide) (fun c35 => ?_) (fun c35 => ?_)
  · have h := h.2 c35
    refine lv_iload C.1.1 C.1.2.1 dX7_heap_134 (lv_at hl 0 rfl) ?_
    refine fb_bipush C dX7_heap_136 (by decide) ?_
    refine fb_icmp_le (tgt := 146) C iv34 (by decide) dX7_heap_138 (by decide) (fun c36 => ?_) (fun c36 => ?_)
    · have h := h.2 c36
      refine lv_iload C.1.1 C.1.2.1 dX7_heap_146 (lv_at hl 0 rfl) ?_
      exact tw_X7_heap_148 C hret h37 x1 x2 x3 x4 x5 v34 x5 _ _ _ _ w (lv_sub hl [1, 2, 3, 4, 5, 6] rfl) ix1 ix2 ix3 ix4 ix5 iv34 ix5 h
    · have h := h.1 c36
      refine fb_bipush C dX7_heap_141 (by decide) ?_
      refine lv_goto (tgt := 148) C.1.1 C.1.2.1 dX7_heap_143 (by decide) ?_
      exact tw_X7_heap_148 C hret h37 x1 x2 x3 x4 x5 99 x5 _ _ _ _ w (lv_sub hl [1, 2, 3, 4, 5, 6] rfl) ix1 ix2 ix3 ix4 ix5 (by decide) ix5 h
  · have h := h.1 c35
    refine fb_iconst C dX7_heap_130 ?_
    refine lv_goto (tgt := 148) C.1.1 C.1.2.1 dX7_heap_131 (by decide) ?_
    exact tw_X7_heap_148 C hret h37 x1 x2 x3 x4 x5 0 x5 _ _ _ _ w (lv_sub hl [1, 2, 3, 4, 5, 6] rfl) ix1 ix2 ix3 ix4 ix5 (by decide) ix5 h
set_option maxRecDepth 100000 in
set_option maxHeartbeats 4000000 in
theorem tw_X7_heap_37 (C : fb_C p s m args meth c G RX7 cX7_heap 9) (hret : fb_RI p l e rm_X7_heap s m args below meth c G cX7_heap Qm Q) {r37 : Int → Int → Int → Int → Int → fb_St → Prop} (h37 : TT_X7_heap_37 p l e s m args below meth c Qm G r37) : TT_X7_heap_37 p l e s m args below meth c Qm G (wb_X7_heap_37 r37 Q) := by
  intro x1 x2 x3 x4 x5 σ H locs ls w hl ix1 ix2 ix3 ix4 ix5 h
  unfold wb_X7_heap_37 at h
  refine lv_iload C.1.1 C.1.2.1 dX7_heap_37 (lv_at hl 5 rfl) ?_
  refine lv_aload_n C.1.1 C.1.2.1 dX7_heap_39 rfl (lv_at hl 0 rfl) ?_
  refine fb_callVi (As := []) (rest := [.int (fb_I x5)]) C w (ct_X7_dots l G h) mv_X7_80 (fb_k48 C) rfl ⟨rfl, rfl, Nat.le_of_ble_eq_true rfl, Nat.le_of_ble_eq_true rfl, Nat.zero_le _, Nat.zero_le _⟩ rfl hl.1 rfl (Nat.le_of_ble_eq_true rfl) dX7_heap_40 (fun a7 σ7 H locs h ia7 w => ?_)
  refine fb_icmp_ge (tgt := 155) C ix5 ia7 dX7_heap_43 (by decide) (fun c8 => ?_) (fun c8 => ?_)
  · have h := h.2 c8
    refine lv_aload_n C.1.1 C.1.2.1 dX7_heap_155 rfl (lv_at hl 0 rfl) ?_
    refine fb_callVi (As := []) (rest := []) C w (ct_X7_layPits l G h) mv_X7_92 (fb_k48 C) rfl ⟨rfl, rfl, Nat.le_of_ble_eq_true rfl, Nat.le_of_ble_eq_true rfl, Nat.zero_le _, Nat.zero_le _⟩ rfl hl.1 rfl (Nat.le_of_ble_eq_true rfl) dX7_heap_156 (fun a9 σ9 H locs h ia9 w => ?_)
    exact hret _ _ _ _ _ _ ia9 h w dX7_heap_159
  · have h := h.1 c8
    refine lv_iload C.1.1 C.1.2.1 dX7_heap_46 (lv_at hl 5 rfl) ?_
    refine lv_aload_n C.1.1 C.1.2.1 dX7_heap_48 rfl (lv_at hl 0 rfl) ?_
    refine fb_getr (k2 := 49) C w (fb_k48 C) rfl fl_X7_7 dX7_heap_49 ?_
    refine fb_sipush C dX7_heap_52 (by decide) ?_
    refine fb_al C w 292 (fb_k49 C) rfl rfl (by decide) (by decide) dX7_heap_55 ?_
    have i10 := w.2.2.2 49 288
    obtain ⟨z12, z13, i11, h⟩ := h
    refine fb_irem C ix5 i10 z12 z13 dX7_heap_56 ?_
    refine lv_iload_n C.1.1 C.1.2.1 dX7_heap_57 rfl (lv_at hl 1 rfl) ?_
    obtain ⟨i14, h⟩ := h
    refine fb_isub C dX7_heap_58 ?_
    refine fb_callSi (As := [.int (fb_I ((x5 % (σ7 49 288)) - x1))]) (rest := []) C w (ct_X7_size l G i14 h) ms_X7_95 ⟨rfl, rfl, Nat.le_of_ble_eq_true rfl, Nat.le_of_ble_eq_true rfl, Nat.zero_le _, Nat.zero_le _⟩ rfl hl.1 rfl (Nat.le_of_ble_eq_true rfl) dX7_heap_59 (fun a15 σ15 H locs h ia15 w => ?_)
    refine lv_iload C.1.1 C.1.2.1 dX7_heap_62 (lv_at hl 5 rfl) ?_
    refine lv_aload_n C.1.1 C.1.2.1 dX7_heap_64 rfl (lv_at hl 0 rfl) ?_
    refine fb_getr (k2 := 49) C w (fb_k48 C) rfl fl_X7_7 dX7_heap_65 ?_
    refine fb_sipush C dX7_heap_68 (by decide) ?_
    refine fb_al C w 292 (fb_k49 C) rfl rfl (by decide) (by decide) dX7_heap_71 ?_
    have i16 := w.2.2.2 49 288
    obtain ⟨z18, z19, i17, h⟩ := h
    refine fb_idiv C ix5 i16 z18 z19 dX7_heap_72 ?_
    refine lv_iload_n C.1.1 C.1.2.1 dX7_heap_73 rfl (lv_at hl 2 rfl) ?_
    obtain ⟨i20, h⟩ := h
    refine fb_isub C dX7_heap_74 ?_
    refine fb_callSi (As := [.int (fb_I ((x5 / (σ15 49 288)) - x2))]) (rest := [.int (fb_I a15)]) C w (ct_X7_size l G i20 h) ms_X7_95 ⟨rfl, rfl, Nat.le_of_ble_eq_true rfl, Nat.le_of_ble_eq_true rfl, Nat.zero_le _, Nat.zero_le _⟩ rfl hl.1 rfl (Nat.le_of_ble_eq_true rfl) dX7_heap_75 (fun a21 σ21 H locs h ia21 w => ?_)
    obtain ⟨i22, h⟩ := h
    refine fb_iadd C dX7_heap_78 ?_
    refine fb_top (fun v23 ev23 => ?_)
    have h := h v23 ev23
    have iv23 := fb_ie ev23 i22
    refine lv_istore (lv' := [(6, .int (fb_I v23)), (0, .ref (fb_ad G 48)), (1, .int (fb_I x1)), (2, .int (fb_I x2)), (3, .int (fb_I x3)), (4, .int (fb_I x4)), (5, .int (fb_I x5))]) C.1.1 C.1.2.1 dX7_heap_79 hl (by decide) rfl (fun ls hl => ?_)
    refine lv_iload_n C.1.1 C.1.2.1 dX7_heap_81 rfl (lv_at hl 4 rfl) ?_
    refine fb_callSi (As := [.int (fb_I x3)]) (rest := []) C w (ct_X7_size l G ix3 h) ms_X7_95 ⟨rfl, rfl, Nat.le_of_ble_eq_true rfl, Nat.le_of_ble_eq_true rfl, Nat.zero_le _, Nat.zero_le _⟩ rfl hl.1 rfl (Nat.le_of_ble_eq_true rfl) dX7_heap_82 (fun a24 σ24 H locs h ia24 w => ?_)
    refine lv_iload C.1.1 C.1.2.1 dX7_heap_85 (lv_at hl 5 rfl) ?_
    refine lv_iload C.1.1 C.1.2.1 dX7_heap_87 (lv_at hl 0 rfl) ?_
    obtain ⟨i25, h⟩ := h
    refine fb_imul C dX7_heap_89 ?_
    obtain ⟨i26, h⟩ := h
    refine fb_isub C dX7_heap_90 ?_
    refine fb_iconst C dX7_heap_91 ?_
    refine fb_callSi (As := [.int (fb_I (a24 - (x4 * v23))), .int (fb_I 0)]) (rest := []) C w (ct_X7_greater l G i26 (by decide) h) ms_X7_98 ⟨rfl, rfl, Nat.le_of_ble_eq_true rfl, Nat.le_of_ble_eq_true rfl, Nat.zero_le _, Nat.zero_le _⟩ rfl hl.1 rfl (Nat.le_of_ble_eq_true rfl) dX7_heap_92 (fun a27 σ27 H locs h ia27 w => ?_)
    refine lv_istore (lv' := [(7, .int (fb_I a27)), (6, .int (fb_I v23)), (0, .ref (fb_ad G 48)), (1, .int (fb_I x1)), (2, .int (fb_I x2)), (3, .int (fb_I x3)), (4, .int (fb_I x4)), (5, .int (fb_I x5))]) C.1.1 C.1.2.1 dX7_heap_95 hl (by decide) rfl (fun ls hl => ?_)
    refine lv_aload_n C.1.1 C.1.2.1 dX7_heap_97 rfl (lv_at hl 2 rfl) ?_
    refine fb_getr (k2 := 49) C w (fb_k48 C) rfl fl_X7_7 dX7_heap_98 ?_
    refine lv_iload C.1.1 C.1.2.1 dX7_heap_101 (lv_at hl 7 rfl) ?_
    obtain ⟨z28, z29, h⟩ := h
    refine fb_al C w 292 (fb_k49 C) rfl rfl z28 z29 dX7_heap_103 ?_
    have i30 := w.2.2.2 49 x5
    refine lv_iload_n C.1.1 C.1.2.1 dX7_heap_104 rfl (lv_at hl 5 rfl) ?_
    refine fb_if_ge (tgt := 114) C ix3 dX7_heap_105 (by decide) (fun c31 => ?_) (fun c31 => ?_)
    · have h := h.2 c31
      refine lv_iload C.1.1 C.1.2.1 dX7_heap_114 (lv_at hl 0 rfl) ?_
      exact tw_X7_heap_116 C hret h37 x1 x2 x3 x4 x5 a27 (σ27 49 x5) _ _ _ _ w (lv_sub hl [2, 3, 4, 5, 6, 7] rfl) ix1 ix2 ix3 ix4 ix5 ia27 i30 h
    · have h := h.1 c31
      refine lv_iload C.1.1 C.1.2.1 dX7_heap_108 (lv_at hl 0 rfl) ?_
      obtain ⟨i32, h⟩ := h
      refine fb_ineg C dX7_heap_110 ?_
      refine lv_goto (tgt := 116) C.1.1 C.1.2.1 dX7_heap_111 (by decide) ?_
      exact tw_X7_heap_116 C hret h37 x1 x2 x3 x4 x5 (-a27) (σ27 49 x5) _ _ _ _ w (lv_sub hl [2, 3, 4, 5, 6, 7] rfl) ix1 ix2 ix3 ix4 ix5 i32 i30 h
theorem tl_X7_heap_37 (C : fb_C p s m args meth c G RX7 cX7_heap 9) (hret : fb_RI p l e rm_X7_heap s m args below meth c G cX7_heap Qm Q) : ∀ n : Nat, TT_X7_heap_37 p l e s m args below meth c Qm G (wl_X7_heap_37 Q n) := by
  intro n
  induction n with
  | zero => intro x1 x2 x3 x4 x5 σ H locs ls w hl ix1 ix2 ix3 ix4 ix5 h; exact h.elim
  | succ n ih => exact tw_X7_heap_37 C hret ih
set_option maxRecDepth 100000 in
set_option maxHeartbeats 4000000 in
theorem tw_X7_heap_0 (C : fb_C p s m args meth c G RX7 cX7_heap 9) (hret : fb_RI p l e rm_X7_heap s m args below meth c G cX7_heap Qm Q) : TT_X7_heap_0 p l e s m args below meth c Qm G (fun x1 x2 x3 x4 σ => wp_X7_heap x1 x2 x3 x4 σ Q) := by
  intro x1 x2 x3 x4 σ H locs ls w hl ix1 ix2 ix3 ix4 h
  unfold wp_X7_heap at h
  refine lv_aload_n C.1.1 C.1.2.1 dX7_heap_0 rfl (lv_at hl 0 rfl) ?_
  refine lv_iload_n C.1.1 C.1.2.1 dX7_heap_1 rfl (lv_at hl 1 rfl) ?_
  refine lv_iload_n C.1.1 C.1.2.1 dX7_heap_2 rfl (lv_at hl 2 rfl) ?_
  refine fb_callVi (As := [.int (fb_I x1), .int (fb_I x2)]) (rest := []) C w (ct_X7_isDot l G ix1 ix2 h) mv_X7_69 (fb_k48 C) rfl ⟨rfl, rfl, Nat.le_of_ble_eq_true rfl, Nat.le_of_ble_eq_true rfl, Nat.zero_le _, Nat.zero_le _⟩ rfl hl.1 rfl (Nat.le_of_ble_eq_true rfl) dX7_heap_3 (fun a1 σ1 H locs h ia1 w => ?_)
  refine fb_if_eq (tgt := 31) C ia1 dX7_heap_6 (by decide) (fun c2 => ?_) (fun c2 => ?_)
  · have h := h.1 c2
    exact tw_X7_heap_31 C hret _ _ _ _ w (lv_sub hl [] rfl) h
  · have h := h.2 c2
    refine lv_iload_n C.1.1 C.1.2.1 dX7_heap_9 rfl (lv_at hl 3 rfl) ?_
    refine fb_bipush C dX7_heap_10 (by decide) ?_
    refine fb_bipush C dX7_heap_12 (by decide) ?_
    refine fb_callSi (As := [.int (fb_I x3), .int (fb_I (-99)), .int (fb_I 99)]) (rest := []) C w (ct_X7_in l G ix3 (by decide) (by decide) h) ms_X7_65 ⟨rfl, rfl, Nat.le_of_ble_eq_true rfl, Nat.le_of_ble_eq_true rfl, Nat.zero_le _, Nat.zero_le _⟩ rfl hl.1 rfl (Nat.le_of_ble_eq_true rfl) dX7_heap_14 (fun a3 σ3 H locs h ia3 w => ?_)
    refine fb_if_eq (tgt := 31) C ia3 dX7_heap_17 (by decide) (fun c4 => ?_) (fun c4 => ?_)
    · have h := h.1 c4
      exact tw_X7_heap_31 C hret _ _ _ _ w (lv_sub hl [] rfl) h
    · have h := h.2 c4
      refine lv_iload C.1.1 C.1.2.1 dX7_heap_20 (lv_at hl 4 rfl) ?_
      refine fb_iconst C dX7_heap_22 ?_
      refine fb_bipush C dX7_heap_23 (by decide) ?_
      refine fb_callSi (As := [.int (fb_I x4), .int (fb_I 0), .int (fb_I 50)]) (rest := []) C w (ct_X7_in l G ix4 (by decide) (by decide) h) ms_X7_65 ⟨rfl, rfl, Nat.le_of_ble_eq_true rfl, Nat.le_of_ble_eq_true rfl, Nat.zero_le _, Nat.zero_le _⟩ rfl hl.1 rfl (Nat.le_of_ble_eq_true rfl) dX7_heap_25 (fun a5 σ5 H locs h ia5 w => ?_)
      refine fb_if_ne (tgt := 34) C ia5 dX7_heap_28 (by decide) (fun c6 => ?_) (fun c6 => ?_)
      · have h := h.2 c6
        refine fb_iconst C dX7_heap_34 ?_
        refine lv_istore (lv' := [(5, .int (fb_I 0)), (0, .ref (fb_ad G 48)), (1, .int (fb_I x1)), (2, .int (fb_I x2)), (3, .int (fb_I x3)), (4, .int (fb_I x4))]) C.1.1 C.1.2.1 dX7_heap_35 hl (by decide) rfl (fun ls hl => ?_)
        obtain ⟨n, h⟩ := h
        exact tl_X7_heap_37 C hret n x1 x2 x3 x4 0 _ _ _ _ w (lv_sub hl [1, 2, 3, 4, 5, 0] rfl) ix1 ix2 ix3 ix4 (by decide) h
      · have h := h.1 c6
        exact tw_X7_heap_31 C hret _ _ _ _ w (lv_sub hl [] rfl) h
theorem ct_X7_heap (l : Launch) (G : fb_G) {x1 : Int} {x2 : Int} {x3 : Int} {x4 : Int} {σ : fb_St} (ix1 : fb_in x1) (ix2 : fb_in x2) (ix3 : fb_in x3) (ix4 : fb_in x4) (h : wp_X7_heap x1 x2 x3 x4 σ Q) : fb_MI l G yX7_heap cX7_heap 9 (some .int) rm_X7_heap [.ref (fb_ad G 48), .int (fb_I x1), .int (fb_I x2), .int (fb_I x3), .int (fb_I x4)] σ Q := by
  refine fb_ofW (own := RX7) (by decide) (Nat.le_of_ble_eq_true rfl) rfl (fun p e s m args below meth c ls C hr hl w => ?_)
  exact tw_X7_heap_0 C (fb_reti C hr) _ _ _ _ _ _ _ _ w hl ix1 ix2 ix3 ix4 h
end S_X7_heap
section S_X7_put
variable {p : Program} {l : Launch} {e : Env} {s : State} {m : MethodId} {args : Array Value} {below : List Frame} {meth : Method} {c : Code} {Qm : State → Prop} {G : fb_G} {Q : Int → fb_St → Prop}
abbrev TT_X7_put_19 (p : Program) (l : Launch) (e : Env) (s : State) (m : MethodId) (args : Array Value) (below : List Frame) (meth : Method) (c : Code) (Qm : State → Prop) (G : fb_G) (r : fb_St → Prop) : Prop := ∀ (σ : fb_St) (H : Heap) (locs : List Loc) (ls : Array Slot), fb_Wd G s σ H locs → lv_has ls 4 [] → r σ → W p l e rm_X7_put s m args below meth c H locs 0 0 Qm (F0 m 19 ls [])
abbrev TT_X7_put_0 (p : Program) (l : Launch) (e : Env) (s : State) (m : MethodId) (args : Array Value) (below : List Frame) (meth : Method) (c : Code) (Qm : State → Prop) (G : fb_G) (r : Int → Int → Int → fb_St → Prop) : Prop := ∀ (x1 x2 x3 : Int) (σ : fb_St) (H : Heap) (locs : List Loc) (ls : Array Slot), fb_Wd G s σ H locs → lv_has ls 4 [(0, .ref (fb_ad G 48)), (1, .int (fb_I x1)), (2, .int (fb_I x2)), (3, .int (fb_I x3))] → fb_in x1 → fb_in x2 → fb_in x3 → r x1 x2 x3 σ → W p l e rm_X7_put s m args below meth c H locs 0 0 Qm (F0 m 0 ls [])
set_option maxRecDepth 100000 in
set_option maxHeartbeats 4000000 in
theorem tw_X7_put_19 (C : fb_C p s m args meth c G RX7 cX7_put 4) (hret : fb_RI p l e rm_X7_put s m args below meth c G cX7_put Qm Q) : TT_X7_put_19 p l e s m args below meth c Qm G (wj_X7_put_19 Q) := by
  intro σ H locs ls w hl h
  unfold wj_X7_put_19 at h
  refine fb_bipush C dX7_put_19 (by decide) ?_
  exact hret _ _ _ _ _ _ (by decide) h w dX7_put_21
set_option maxRecDepth 100000 in
set_option maxHeartbeats 4000000 in
theorem tw_X7_put_0 (C : fb_C p s m args meth c G RX7 cX7_put 4) (hret : fb_RI p l e rm_X7_put s m args below meth c G cX7_put Qm Q) : TT_X7_put_0 p l e s m args below meth c Qm G (fun x1 x2 x3 σ => wp_X7_put x1 x2 x3 σ Q) := by
  intro x1 x2 x3 σ H locs ls w hl ix1 ix2 ix3 h
  unfold wp_X7_put at h
  refine lv_aload_n C.1.1 C.1.2.1 dX7_put_0 rfl (lv_at hl 0 rfl) ?_
  refine lv_iload_n C.1.1 C.1.2.1 dX7_put_1 rfl (lv_at hl 1 rfl) ?_
  refine lv_iload_n C.1.1 C.1.2.1 dX7_put_2 rfl (lv_at hl 2 rfl) ?_
  refine fb_callVi (As := [.int (fb_I x1), .int (fb_I x2)]) (rest := []) C w (ct_X7_isDot l G ix1 ix2 h) mv_X7_69 (fb_k48 C) rfl ⟨rfl, rfl, Nat.le_of_ble_eq_true rfl, Nat.le_of_ble_eq_true rfl, Nat.zero_le _, Nat.zero_le _⟩ rfl hl.1 rfl (Nat.le_of_ble_eq_true rfl) dX7_put_3 (fun a1 σ1 H locs h ia1 w => ?_)
  refine fb_if_eq (tgt := 19) C ia1 dX7_put_6 (by decide) (fun c2 => ?_) (fun c2 => ?_)
  · have h := h.1 c2
    exact tw_X7_put_19 C hret _ _ _ _ w (lv_sub hl [] rfl) h
  · have h := h.2 c2
    refine lv_iload_n C.1.1 C.1.2.1 dX7_put_9 rfl (lv_at hl 3 rfl) ?_
    refine fb_iconst C dX7_put_10 ?_
    refine fb_bipush C dX7_put_11 (by decide) ?_
    refine fb_callSi (As := [.int (fb_I x3), .int (fb_I 0), .int (fb_I 99)]) (rest := []) C w (ct_X7_in l G ix3 (by decide) (by decide) h) ms_X7_65 ⟨rfl, rfl, Nat.le_of_ble_eq_true rfl, Nat.le_of_ble_eq_true rfl, Nat.zero_le _, Nat.zero_le _⟩ rfl hl.1 rfl (Nat.le_of_ble_eq_true rfl) dX7_put_13 (fun a3 σ3 H locs h ia3 w => ?_)
    refine fb_if_ne (tgt := 22) C ia3 dX7_put_16 (by decide) (fun c4 => ?_) (fun c4 => ?_)
    · have h := h.2 c4
      refine lv_aload_n C.1.1 C.1.2.1 dX7_put_22 rfl (lv_at hl 0 rfl) ?_
      refine fb_getr (k2 := 49) C w (fb_k48 C) rfl fl_X7_7 dX7_put_23 ?_
      refine lv_aload_n C.1.1 C.1.2.1 dX7_put_26 rfl (lv_at hl 0 rfl) ?_
      refine lv_iload_n C.1.1 C.1.2.1 dX7_put_27 rfl (lv_at hl 1 rfl) ?_
      refine lv_iload_n C.1.1 C.1.2.1 dX7_put_28 rfl (lv_at hl 2 rfl) ?_
      refine fb_callVi (As := [.int (fb_I x1), .int (fb_I x2)]) (rest := [.ref (fb_ad G 49)]) C w (ct_X7_at l G ix1 ix2 h) mv_X7_73 (fb_k48 C) rfl ⟨rfl, rfl, Nat.le_of_ble_eq_true rfl, Nat.le_of_ble_eq_true rfl, Nat.zero_le _, Nat.zero_le _⟩ rfl hl.1 rfl (Nat.le_of_ble_eq_true rfl) dX7_put_29 (fun a5 σ5 H locs h ia5 w => ?_)
      refine lv_iload_n C.1.1 C.1.2.1 dX7_put_32 rfl (lv_at hl 3 rfl) ?_
      obtain ⟨z6, z7, h⟩ := h
      refine fb_as C w 292 (fb_k49 C) rfl rfl ix3 z6 z7 dX7_put_33 (fun σ8 H locs eσ8 w => ?_)
      have h := h σ8 eσ8
      refine lv_aload_n C.1.1 C.1.2.1 dX7_put_34 rfl (lv_at hl 0 rfl) ?_
      refine fb_callVi (As := []) (rest := []) C w (ct_X7_layPits l G h) mv_X7_92 (fb_k48 C) rfl ⟨rfl, rfl, Nat.le_of_ble_eq_true rfl, Nat.le_of_ble_eq_true rfl, Nat.zero_le _, Nat.zero_le _⟩ rfl hl.1 rfl (Nat.le_of_ble_eq_true rfl) dX7_put_35 (fun a9 σ9 H locs h ia9 w => ?_)
      exact hret _ _ _ _ _ _ ia9 h w dX7_put_38
    · have h := h.1 c4
      exact tw_X7_put_19 C hret _ _ _ _ w (lv_sub hl [] rfl) h
theorem ct_X7_put (l : Launch) (G : fb_G) {x1 : Int} {x2 : Int} {x3 : Int} {σ : fb_St} (ix1 : fb_in x1) (ix2 : fb_in x2) (ix3 : fb_in x3) (h : wp_X7_put x1 x2 x3 σ Q) : fb_MI l G yX7_put cX7_put 4 (some .int) rm_X7_put [.ref (fb_ad G 48), .int (fb_I x1), .int (fb_I x2), .int (fb_I x3)] σ Q := by
  refine fb_ofW (own := RX7) (by decide) (Nat.le_of_ble_eq_true rfl) rfl (fun p e s m args below meth c ls C hr hl w => ?_)
  exact tw_X7_put_0 C (fb_reti C hr) _ _ _ _ _ _ _ w hl ix1 ix2 ix3 h
end S_X7_put
section S_X7_mark
variable {p : Program} {l : Launch} {e : Env} {s : State} {m : MethodId} {args : Array Value} {below : List Frame} {meth : Method} {c : Code} {Qm : State → Prop} {G : fb_G} {Q : Int → fb_St → Prop}
abbrev TT_X7_mark_19 (p : Program) (l : Launch) (e : Env) (s : State) (m : MethodId) (args : Array Value) (below : List Frame) (meth : Method) (c : Code) (Qm : State → Prop) (G : fb_G) (r : fb_St → Prop) : Prop := ∀ (σ : fb_St) (H : Heap) (locs : List Loc) (ls : Array Slot), fb_Wd G s σ H locs → lv_has ls 5 [] → r σ → W p l e rm_X7_mark s m args below meth c H locs 0 0 Qm (F0 m 19 ls [])
abbrev TT_X7_mark_0 (p : Program) (l : Launch) (e : Env) (s : State) (m : MethodId) (args : Array Value) (below : List Frame) (meth : Method) (c : Code) (Qm : State → Prop) (G : fb_G) (r : Int → Int → Int → fb_St → Prop) : Prop := ∀ (x1 x2 x3 : Int) (σ : fb_St) (H : Heap) (locs : List Loc) (ls : Array Slot), fb_Wd G s σ H locs → lv_has ls 5 [(0, .ref (fb_ad G 48)), (1, .int (fb_I x1)), (2, .int (fb_I x2)), (3, .int (fb_I x3))] → fb_in x1 → fb_in x2 → fb_in x3 → r x1 x2 x3 σ → W p l e rm_X7_mark s m args below meth c H locs 0 0 Qm (F0 m 0 ls [])
set_option maxRecDepth 100000 in
set_option maxHeartbeats 4000000 in
theorem tw_X7_mark_19 (C : fb_C p s m args meth c G RX7 cX7_mark 5) (hret : fb_RI p l e rm_X7_mark s m args below meth c G cX7_mark Qm Q) : TT_X7_mark_19 p l e s m args below meth c Qm G (wj_X7_mark_19 Q) := by
  intro σ H locs ls w hl h
  unfold wj_X7_mark_19 at h
  refine fb_bipush C dX7_mark_19 (by decide) ?_
  exact hret _ _ _ _ _ _ (by decide) h w dX7_mark_21
set_option maxRecDepth 100000 in
set_option maxHeartbeats 4000000 in
theorem tw_X7_mark_0 (C : fb_C p s m args meth c G RX7 cX7_mark 5) (hret : fb_RI p l e rm_X7_mark s m args below meth c G cX7_mark Qm Q) : TT_X7_mark_0 p l e s m args below meth c Qm G (fun x1 x2 x3 σ => wp_X7_mark x1 x2 x3 σ Q) := by
  intro x1 x2 x3 σ H locs ls w hl ix1 ix2 ix3 h
  unfold wp_X7_mark at h
  refine lv_aload_n C.1.1 C.1.2.1 dX7_mark_0 rfl (lv_at hl 0 rfl) ?_
  refine lv_iload_n C.1.1 C.1.2.1 dX7_mark_1 rfl (lv_at hl 1 rfl) ?_
  refine lv_iload_n C.1.1 C.1.2.1 dX7_mark_2 rfl (lv_at hl 2 rfl) ?_
  refine fb_callVi (As := [.int (fb_I x1), .int (fb_I x2)]) (rest := []) C w (ct_X7_isDot l G ix1 ix2 h) mv_X7_69 (fb_k48 C) rfl ⟨rfl, rfl, Nat.le_of_ble_eq_true rfl, Nat.le_of_ble_eq_true rfl, Nat.zero_le _, Nat.zero_le _⟩ rfl hl.1 rfl (Nat.le_of_ble_eq_true rfl) dX7_mark_3 (fun a1 σ1 H locs h ia1 w => ?_)
  refine fb_if_eq (tgt := 19) C ia1 dX7_mark_6 (by decide) (fun c2 => ?_) (fun c2 => ?_)
  · have h := h.1 c2
    exact tw_X7_mark_19 C hret _ _ _ _ w (lv_sub hl [] rfl) h
  · have h := h.2 c2
    refine lv_iload_n C.1.1 C.1.2.1 dX7_mark_9 rfl (lv_at hl 3 rfl) ?_
    refine fb_iconst C dX7_mark_10 ?_
    refine fb_bipush C dX7_mark_11 (by decide) ?_
    refine fb_callSi (As := [.int (fb_I x3), .int (fb_I 0), .int (fb_I 99)]) (rest := []) C w (ct_X7_in l G ix3 (by decide) (by decide) h) ms_X7_65 ⟨rfl, rfl, Nat.le_of_ble_eq_true rfl, Nat.le_of_ble_eq_true rfl, Nat.zero_le _, Nat.zero_le _⟩ rfl hl.1 rfl (Nat.le_of_ble_eq_true rfl) dX7_mark_13 (fun a3 σ3 H locs h ia3 w => ?_)
    refine fb_if_ne (tgt := 22) C ia3 dX7_mark_16 (by decide) (fun c4 => ?_) (fun c4 => ?_)
    · have h := h.2 c4
      refine lv_aload_n C.1.1 C.1.2.1 dX7_mark_22 rfl (lv_at hl 0 rfl) ?_
      refine fb_getr (k2 := 49) C w (fb_k48 C) rfl fl_X7_7 dX7_mark_23 ?_
      refine fb_sipush C dX7_mark_26 (by decide) ?_
      refine lv_aload_n C.1.1 C.1.2.1 dX7_mark_29 rfl (lv_at hl 0 rfl) ?_
      refine lv_iload_n C.1.1 C.1.2.1 dX7_mark_30 rfl (lv_at hl 1 rfl) ?_
      refine lv_iload_n C.1.1 C.1.2.1 dX7_mark_31 rfl (lv_at hl 2 rfl) ?_
      refine fb_callVi (As := [.int (fb_I x1), .int (fb_I x2)]) (rest := [.int (fb_I 144), .ref (fb_ad G 49)]) C w (ct_X7_at l G ix1 ix2 h) mv_X7_73 (fb_k48 C) rfl ⟨rfl, rfl, Nat.le_of_ble_eq_true rfl, Nat.le_of_ble_eq_true rfl, Nat.zero_le _, Nat.zero_le _⟩ rfl hl.1 rfl (Nat.le_of_ble_eq_true rfl) dX7_mark_32 (fun a5 σ5 H locs h ia5 w => ?_)
      obtain ⟨i6, h⟩ := h
      refine fb_iadd C dX7_mark_35 ?_
      obtain ⟨z7, z8, h⟩ := h
      refine fb_al C w 292 (fb_k49 C) rfl rfl z7 z8 dX7_mark_36 ?_
      have i9 := w.2.2.2 49 (144 + a5)
      refine fb_top (fun v10 ev10 => ?_)
      have h := h v10 ev10
      have iv10 := fb_ie ev10 i9
      refine lv_istore (lv' := [(4, .int (fb_I v10)), (0, .ref (fb_ad G 48)), (1, .int (fb_I x1)), (2, .int (fb_I x2)), (3, .int (fb_I x3))]) C.1.1 C.1.2.1 dX7_mark_37 hl (by decide) rfl (fun ls hl => ?_)
      refine lv_aload_n C.1.1 C.1.2.1 dX7_mark_39 rfl (lv_at hl 1 rfl) ?_
      refine fb_getr (k2 := 49) C w (fb_k48 C) rfl fl_X7_7 dX7_mark_40 ?_
      refine fb_sipush C dX7_mark_43 (by decide) ?_
      refine lv_aload_n C.1.1 C.1.2.1 dX7_mark_46 rfl (lv_at hl 1 rfl) ?_
      refine lv_iload_n C.1.1 C.1.2.1 dX7_mark_47 rfl (lv_at hl 2 rfl) ?_
      refine lv_iload_n C.1.1 C.1.2.1 dX7_mark_48 rfl (lv_at hl 3 rfl) ?_
      refine fb_callVi (As := [.int (fb_I x1), .int (fb_I x2)]) (rest := [.int (fb_I 144), .ref (fb_ad G 49)]) C w (ct_X7_at l G ix1 ix2 h) mv_X7_73 (fb_k48 C) rfl ⟨rfl, rfl, Nat.le_of_ble_eq_true rfl, Nat.le_of_ble_eq_true rfl, Nat.zero_le _, Nat.zero_le _⟩ rfl hl.1 rfl (Nat.le_of_ble_eq_true rfl) dX7_mark_49 (fun a11 σ11 H locs h ia11 w => ?_)
      obtain ⟨i12, h⟩ := h
      refine fb_iadd C dX7_mark_52 ?_
      refine lv_iload_n C.1.1 C.1.2.1 dX7_mark_53 rfl (lv_at hl 4 rfl) ?_
      obtain ⟨z13, z14, h⟩ := h
      refine fb_as C w 292 (fb_k49 C) rfl rfl ix3 z13 z14 dX7_mark_54 (fun σ15 H locs eσ15 w => ?_)
      have h := h σ15 eσ15
      refine lv_iload C.1.1 C.1.2.1 dX7_mark_55 (lv_at hl 0 rfl) ?_
      exact hret _ _ _ _ _ _ iv10 h w dX7_mark_57
    · have h := h.1 c4
      exact tw_X7_mark_19 C hret _ _ _ _ w (lv_sub hl [] rfl) h
theorem ct_X7_mark (l : Launch) (G : fb_G) {x1 : Int} {x2 : Int} {x3 : Int} {σ : fb_St} (ix1 : fb_in x1) (ix2 : fb_in x2) (ix3 : fb_in x3) (h : wp_X7_mark x1 x2 x3 σ Q) : fb_MI l G yX7_mark cX7_mark 5 (some .int) rm_X7_mark [.ref (fb_ad G 48), .int (fb_I x1), .int (fb_I x2), .int (fb_I x3)] σ Q := by
  refine fb_ofW (own := RX7) (by decide) (Nat.le_of_ble_eq_true rfl) rfl (fun p e s m args below meth c ls C hr hl w => ?_)
  exact tw_X7_mark_0 C (fb_reti C hr) _ _ _ _ _ _ _ w hl ix1 ix2 ix3 h
end S_X7_mark
section S_X7_pits
variable {p : Program} {l : Launch} {e : Env} {s : State} {m : MethodId} {args : Array Value} {below : List Frame} {meth : Method} {c : Code} {Qm : State → Prop} {G : fb_G} {Q : Int → fb_St → Prop}
abbrev TT_X7_pits_46 (p : Program) (l : Launch) (e : Env) (s : State) (m : MethodId) (args : Array Value) (below : List Frame) (meth : Method) (c : Code) (Qm : State → Prop) (G : fb_G) (r : Int → Int → Int → Int → fb_St → Prop) : Prop := ∀ (x1 x2 s0 s1 : Int) (σ : fb_St) (H : Heap) (locs : List Loc) (ls : Array Slot), fb_Wd G s σ H locs → lv_has ls 3 [(0, .ref (fb_ad G 48)), (1, .int (fb_I x1)), (2, .int (fb_I x2))] → fb_in x1 → fb_in x2 → fb_in s0 → fb_in s1 → r x1 x2 s0 s1 σ → W p l e rm_X7_pits s m args below meth c H locs 0 0 Qm (F0 m 46 ls [.int (fb_I s0), .int (fb_I s1), .ref (fb_ad G 49)])
abbrev TT_X7_pits_7 (p : Program) (l : Launch) (e : Env) (s : State) (m : MethodId) (args : Array Value) (below : List Frame) (meth : Method) (c : Code) (Qm : State → Prop) (G : fb_G) (r : Int → Int → fb_St → Prop) : Prop := ∀ (x1 x2 : Int) (σ : fb_St) (H : Heap) (locs : List Loc) (ls : Array Slot), fb_Wd G s σ H locs → lv_has ls 3 [(0, .ref (fb_ad G 48)), (1, .int (fb_I x1)), (2, .int (fb_I x2))] → fb_in x1 → fb_in x2 → r x1 x2 σ → W p l e rm_X7_pits s m args below meth c H locs 0 0 Qm (F0 m 7 ls [])
abbrev TT_X7_pits_0 (p : Program) (l : Launch) (e : Env) (s : State) (m : MethodId) (args : Array Value) (below : List Frame) (meth : Method) (c : Code) (Qm : State → Prop) (G : fb_G) (r : fb_St → Prop) : Prop := ∀ (σ : fb_St) (H : Heap) (locs : List Loc) (ls : Array Slot), fb_Wd G s σ H locs → lv_has ls 3 [(0, .ref (fb_ad G 48))] → r σ → W p l e rm_X7_pits s m args below meth c H locs 0 0 Qm (F0 m 0 ls [])
set_option maxRecDepth 100000 in
set_option maxHeartbeats 4000000 in
theorem tw_X7_pits_46 (C : fb_C p s m args meth c G RX7 cX7_pits 3) (hret : fb_RI p l e rm_X7_pits s m args below meth c G cX7_pits Qm Q) {r7 : Int → Int → fb_St → Prop} (h7 : TT_X7_pits_7 p l e s m args below meth c Qm G r7) : TT_X7_pits_46 p l e s m args below meth c Qm G (wj_X7_pits_46 r7 Q) := by
  intro x1 x2 s0 s1 σ H locs ls w hl ix1 ix2 is0 is1 h
  unfold wj_X7_pits_46 at h
  obtain ⟨z12, z13, h⟩ := h
  refine fb_as C w 292 (fb_k49 C) rfl rfl is0 z12 z13 dX7_pits_46 (fun σ14 H locs eσ14 w => ?_)
  have h := h σ14 eσ14
  obtain ⟨i15, h⟩ := h
  refine fb_iinc (b := x2 + 1) (k := 2) (lv' := [(2, .int (fb_I (x2 + 1))), (0, .ref (fb_ad G 48)), (1, .int (fb_I x1))]) C dX7_pits_47 hl rfl rfl (by decide) rfl (fun ls hl => ?_)
  refine lv_goto (tgt := 7) C.1.1 C.1.2.1 dX7_pits_50 (by decide) ?_
  exact h7 x1 (x2 + 1) _ _ _ _ w (lv_sub hl [1, 2, 0] rfl) ix1 i15 h
set_option maxRecDepth 100000 in
set_option maxHeartbeats 4000000 in
theorem tw_X7_pits_7 (C : fb_C p s m args meth c G RX7 cX7_pits 3) (hret : fb_RI p l e rm_X7_pits s m args below meth c G cX7_pits Qm Q) {r7 : Int → Int → fb_St → Prop} (h7 : TT_X7_pits_7 p l e s m args below meth c Qm G r7) : TT_X7_pits_7 p l e s m args below meth c Qm G (wb_X7_pits_7 r7 Q) := by
  intro x1 x2 σ H locs ls w hl ix1 ix2 h
  unfold wb_X7_pits_7 at h
  refine lv_iload_n C.1.1 C.1.2.1 dX7_pits_7 rfl (lv_at hl 2 rfl) ?_
  refine fb_sipush C dX7_pits_8 (by decide) ?_
  refine fb_icmp_ge (tgt := 53) C ix2 (by decide) dX7_pits_11 (by decide) (fun c2 => ?_) (fun c2 => ?_)
  · have h := h.2 c2
    refine lv_iload_n C.1.1 C.1.2.1 dX7_pits_53 rfl (lv_at hl 1 rfl) ?_
    exact hret _ _ _ _ _ _ ix1 h w dX7_pits_54
  · have h := h.1 c2
    refine lv_aload_n C.1.1 C.1.2.1 dX7_pits_14 rfl (lv_at hl 0 rfl) ?_
    refine fb_getr (k2 := 49) C w (fb_k48 C) rfl fl_X7_7 dX7_pits_15 ?_
    refine fb_sipush C dX7_pits_18 (by decide) ?_
    refine lv_iload_n C.1.1 C.1.2.1 dX7_pits_21 rfl (lv_at hl 2 rfl) ?_
    obtain ⟨i3, h⟩ := h
    refine fb_iadd C dX7_pits_22 ?_
    refine lv_aload_n C.1.1 C.1.2.1 dX7_pits_23 rfl (lv_at hl 0 rfl) ?_
    refine fb_getr (k2 := 52) C w (fb_k48 C) rfl fl_X7_20 dX7_pits_24 ?_
    refine lv_iload_n C.1.1 C.1.2.1 dX7_pits_27 rfl (lv_at hl 2 rfl) ?_
    obtain ⟨z4, z5, h⟩ := h
    refine fb_al C w 144 (fb_k52 C) rfl rfl z4 z5 dX7_pits_28 ?_
    have i6 := w.2.2.2 52 x2
    refine fb_bipush C dX7_pits_29 (by decide) ?_
    refine fb_icmp_ne (tgt := 38) C i6 (by decide) dX7_pits_31 (by decide) (fun c7 => ?_) (fun c7 => ?_)
    · have h := h.2 c7
      refine lv_aload_n C.1.1 C.1.2.1 dX7_pits_38 rfl (lv_at hl 0 rfl) ?_
      refine fb_getr (k2 := 52) C w (fb_k48 C) rfl fl_X7_20 dX7_pits_39 ?_
      refine lv_iload_n C.1.1 C.1.2.1 dX7_pits_42 rfl (lv_at hl 2 rfl) ?_
      obtain ⟨z8, z9, h⟩ := h
      refine fb_al C w 144 (fb_k52 C) rfl rfl z8 z9 dX7_pits_43 ?_
      have i10 := w.2.2.2 52 x2
      refine fb_iconst C dX7_pits_44 ?_
      obtain ⟨i11, h⟩ := h
      refine fb_iadd C dX7_pits_45 ?_
      exact tw_X7_pits_46 C hret h7 x1 x2 ((σ 52 x2) + 1) (144 + x2) _ _ _ _ w (lv_sub hl [0, 1, 2] rfl) ix1 ix2 i11 i3 h
    · have h := h.1 c7
      refine fb_iconst C dX7_pits_34 ?_
      refine lv_goto (tgt := 46) C.1.1 C.1.2.1 dX7_pits_35 (by decide) ?_
      exact tw_X7_pits_46 C hret h7 x1 x2 0 (144 + x2) _ _ _ _ w (lv_sub hl [0, 1, 2] rfl) ix1 ix2 (by decide) i3 h
theorem tl_X7_pits_7 (C : fb_C p s m args meth c G RX7 cX7_pits 3) (hret : fb_RI p l e rm_X7_pits s m args below meth c G cX7_pits Qm Q) : ∀ n : Nat, TT_X7_pits_7 p l e s m args below meth c Qm G (wl_X7_pits_7 Q n) := by
  intro n
  induction n with
  | zero => intro x1 x2 σ H locs ls w hl ix1 ix2 h; exact h.elim
  | succ n ih => exact tw_X7_pits_7 C hret ih
set_option maxRecDepth 100000 in
set_option maxHeartbeats 4000000 in
theorem tw_X7_pits_0 (C : fb_C p s m args meth c G RX7 cX7_pits 3) (hret : fb_RI p l e rm_X7_pits s m args below meth c G cX7_pits Qm Q) : TT_X7_pits_0 p l e s m args below meth c Qm G (fun σ => wp_X7_pits σ Q) := by
  intro σ H locs ls w hl h
  unfold wp_X7_pits at h
  refine lv_aload_n C.1.1 C.1.2.1 dX7_pits_0 rfl (lv_at hl 0 rfl) ?_
  refine fb_callVi (As := []) (rest := []) C w (ct_X7_layPits l G h) mv_X7_92 (fb_k48 C) rfl ⟨rfl, rfl, Nat.le_of_ble_eq_true rfl, Nat.le_of_ble_eq_true rfl, Nat.zero_le _, Nat.zero_le _⟩ rfl hl.1 rfl (Nat.le_of_ble_eq_true rfl) dX7_pits_1 (fun a1 σ1 H locs h ia1 w => ?_)
  refine lv_istore_n (lv' := [(1, .int (fb_I a1)), (0, .ref (fb_ad G 48))]) C.1.1 C.1.2.1 dX7_pits_4 rfl hl (by decide) rfl (fun ls hl => ?_)
  refine fb_iconst C dX7_pits_5 ?_
  refine lv_istore_n (lv' := [(2, .int (fb_I 0)), (1, .int (fb_I a1)), (0, .ref (fb_ad G 48))]) C.1.1 C.1.2.1 dX7_pits_6 rfl hl (by decide) rfl (fun ls hl => ?_)
  obtain ⟨n, h⟩ := h
  exact tl_X7_pits_7 C hret n a1 0 _ _ _ _ w (lv_sub hl [2, 1, 0] rfl) ia1 (by decide) h
theorem ct_X7_pits (l : Launch) (G : fb_G) {σ : fb_St} (h : wp_X7_pits σ Q) : fb_MI l G yX7_pits cX7_pits 3 (some .int) rm_X7_pits [.ref (fb_ad G 48)] σ Q := by
  refine fb_ofW (own := RX7) (by decide) (Nat.le_of_ble_eq_true rfl) rfl (fun p e s m args below meth c ls C hr hl w => ?_)
  exact tw_X7_pits_0 C (fb_reti C hr) _ _ _ _ w hl h
end S_X7_pits
section S_X7_spill
variable {p : Program} {l : Launch} {e : Env} {s : State} {m : MethodId} {args : Array Value} {below : List Frame} {meth : Method} {c : Code} {Qm : State → Prop} {G : fb_G} {Q : Int → fb_St → Prop}
abbrev TT_X7_spill_91 (p : Program) (l : Launch) (e : Env) (s : State) (m : MethodId) (args : Array Value) (below : List Frame) (meth : Method) (c : Code) (Qm : State → Prop) (G : fb_G) (r : Int → Int → fb_St → Prop) : Prop := ∀ (x1 x2 : Int) (σ : fb_St) (H : Heap) (locs : List Loc) (ls : Array Slot), fb_Wd G s σ H locs → lv_has ls 4 [(0, .ref (fb_ad G 48)), (1, .int (fb_I x1)), (2, .int (fb_I x2))] → fb_in x1 → fb_in x2 → r x1 x2 σ → W p l e rm_X7_spill s m args below meth c H locs 0 0 Qm (F0 m 91 ls [])
abbrev TT_X7_spill_2 (p : Program) (l : Launch) (e : Env) (s : State) (m : MethodId) (args : Array Value) (below : List Frame) (meth : Method) (c : Code) (Qm : State → Prop) (G : fb_G) (r : Int → Int → fb_St → Prop) : Prop := ∀ (x1 x2 : Int) (σ : fb_St) (H : Heap) (locs : List Loc) (ls : Array Slot), fb_Wd G s σ H locs → lv_has ls 4 [(0, .ref (fb_ad G 48)), (1, .int (fb_I x1)), (2, .int (fb_I x2))] → fb_in x1 → fb_in x2 → r x1 x2 σ → W p l e rm_X7_spill s m args below meth c H locs 0 0 Qm (F0 m 2 ls [])
abbrev TT_X7_spill_0 (p : Program) (l : Launch) (e : Env) (s : State) (m : MethodId) (args : Array Value) (below : List Frame) (meth : Method) (c : Code) (Qm : State → Prop) (G : fb_G) (r : Int → fb_St → Prop) : Prop := ∀ (x1 : Int) (σ : fb_St) (H : Heap) (locs : List Loc) (ls : Array Slot), fb_Wd G s σ H locs → lv_has ls 4 [(0, .ref (fb_ad G 48)), (1, .int (fb_I x1))] → fb_in x1 → r x1 σ → W p l e rm_X7_spill s m args below meth c H locs 0 0 Qm (F0 m 0 ls [])
set_option maxRecDepth 100000 in
set_option maxHeartbeats 4000000 in
theorem tw_X7_spill_91 (C : fb_C p s m args meth c G RX7 cX7_spill 4) (hret : fb_RV p l e rm_X7_spill s m args below meth c G cX7_spill Qm Q) {r2 : Int → Int → fb_St → Prop} (h2 : TT_X7_spill_2 p l e s m args below meth c Qm G r2) : TT_X7_spill_91 p l e s m args below meth c Qm G (wj_X7_spill_91 r2 Q) := by
  intro x1 x2 σ H locs ls w hl ix1 ix2 h
  unfold wj_X7_spill_91 at h
  obtain ⟨i33, h⟩ := h
  refine fb_iinc (b := x2 + 1) (k := 2) (lv' := [(2, .int (fb_I (x2 + 1))), (0, .ref (fb_ad G 48)), (1, .int (fb_I x1))]) C dX7_spill_91 hl rfl rfl (by decide) rfl (fun ls hl => ?_)
  refine lv_goto (tgt := 2) C.1.1 C.1.2.1 dX7_spill_94 (by decide) ?_
  exact h2 x1 (x2 + 1) _ _ _ _ w (lv_sub hl [1, 2, 0] rfl) ix1 i33 h
set_option maxRecDepth 100000 in
set_option maxHeartbeats 4000000 in
theorem tw_X7_spill_2 (C : fb_C p s m args meth c G RX7 cX7_spill 4) (hret : fb_RV p l e rm_X7_spill s m args below meth c G cX7_spill Qm Q) {r2 : Int → Int → fb_St → Prop} (h2 : TT_X7_spill_2 p l e s m args below meth c Qm G r2) : TT_X7_spill_2 p l e s m args below meth c Qm G (wb_X7_spill_2 r2 Q) := by
  intro x1 x2 σ H locs ls w hl ix1 ix2 h
  unfold wb_X7_spill_2 at h
  refine lv_iload_n C.1.1 C.1.2.1 dX7_spill_2 rfl (lv_at hl 2 rfl) ?_
  refine fb_iconst C dX7_spill_3 ?_
  refine fb_icmp_ge (tgt := 97) C ix2 (by decide) dX7_spill_4 (by decide) (fun c1 => ?_) (fun c1 => ?_)
  · have h := h.2 c1
    exact hret _ _ _ _ _ h w dX7_spill_97
  · have h := h.1 c1
    refine lv_aload_n C.1.1 C.1.2.1 dX7_spill_7 rfl (lv_at hl 0 rfl) ?_
    refine lv_iload_n C.1.1 C.1.2.1 dX7_spill_8 rfl (lv_at hl 1 rfl) ?_
    refine lv_iload_n C.1.1 C.1.2.1 dX7_spill_9 rfl (lv_at hl 2 rfl) ?_
    refine fb_callVi (As := [.int (fb_I x1), .int (fb_I x2)]) (rest := []) C w (ct_X7_beside l G ix1 ix2 h) mv_X7_77 (fb_k48 C) rfl ⟨rfl, rfl, Nat.le_of_ble_eq_true rfl, Nat.le_of_ble_eq_true rfl, Nat.zero_le _, Nat.zero_le _⟩ rfl hl.1 rfl (Nat.le_of_ble_eq_true rfl) dX7_spill_10 (fun a2 σ2 H locs h ia2 w => ?_)
    refine lv_istore_n (lv' := [(3, .int (fb_I a2)), (0, .ref (fb_ad G 48)), (1, .int (fb_I x1)), (2, .int (fb_I x2))]) C.1.1 C.1.2.1 dX7_spill_13 rfl hl (by decide) rfl (fun ls hl => ?_)
    refine lv_iload_n C.1.1 C.1.2.1 dX7_spill_14 rfl (lv_at hl 0 rfl) ?_
    refine fb_if_lt (tgt := 91) C ia2 dX7_spill_15 (by decide) (fun c3 => ?_) (fun c3 => ?_)
    · have h := h.1 c3
      exact tw_X7_spill_91 C hret h2 x1 x2 _ _ _ _ w (lv_sub hl [1, 2, 3] rfl) ix1 ix2 h
    · have h := h.2 c3
      refine lv_aload_n C.1.1 C.1.2.1 dX7_spill_18 rfl (lv_at hl 1 rfl) ?_
      refine fb_getr (k2 := 55) C w (fb_k48 C) rfl fl_X7_29 dX7_spill_19 ?_
      refine lv_iload_n C.1.1 C.1.2.1 dX7_spill_22 rfl (lv_at hl 0 rfl) ?_
      obtain ⟨z4, z5, h⟩ := h
      refine fb_al C w 144 (fb_k55 C) rfl rfl z4 z5 dX7_spill_23 ?_
      have i6 := w.2.2.2 55 a2
      refine fb_bipush C dX7_spill_24 (by decide) ?_
      refine fb_icmp_ne (tgt := 91) C i6 (by decide) dX7_spill_26 (by decide) (fun c7 => ?_) (fun c7 => ?_)
      · have h := h.2 c7
        exact tw_X7_spill_91 C hret h2 x1 x2 _ _ _ _ w (lv_sub hl [1, 2, 3] rfl) ix1 ix2 h
      · have h := h.1 c7
        refine lv_aload_n C.1.1 C.1.2.1 dX7_spill_29 rfl (lv_at hl 1 rfl) ?_
        refine fb_getr (k2 := 56) C w (fb_k48 C) rfl fl_X7_32 dX7_spill_30 ?_
        refine lv_iload_n C.1.1 C.1.2.1 dX7_spill_33 rfl (lv_at hl 0 rfl) ?_
        obtain ⟨z8, z9, h⟩ := h
        refine fb_al C w 144 (fb_k56 C) rfl rfl z8 z9 dX7_spill_34 ?_
        have i10 := w.2.2.2 56 a2
        refine fb_bipush C dX7_spill_35 (by decide) ?_
        refine fb_icmp_ne (tgt := 91) C i10 (by decide) dX7_spill_37 (by decide) (fun c11 => ?_) (fun c11 => ?_)
        · have h := h.2 c11
          exact tw_X7_spill_91 C hret h2 x1 x2 _ _ _ _ w (lv_sub hl [1, 2, 3] rfl) ix1 ix2 h
        · have h := h.1 c11
          refine lv_aload_n C.1.1 C.1.2.1 dX7_spill_40 rfl (lv_at hl 1 rfl) ?_
          refine fb_getr (k2 := 56) C w (fb_k48 C) rfl fl_X7_32 dX7_spill_41 ?_
          refine lv_iload_n C.1.1 C.1.2.1 dX7_spill_44 rfl (lv_at hl 0 rfl) ?_
          refine lv_aload_n C.1.1 C.1.2.1 dX7_spill_45 rfl (lv_at hl 1 rfl) ?_
          refine fb_getr (k2 := 49) C w (fb_k48 C) rfl fl_X7_7 dX7_spill_46 ?_
          refine lv_iload_n C.1.1 C.1.2.1 dX7_spill_49 rfl (lv_at hl 0 rfl) ?_
          obtain ⟨z12, z13, h⟩ := h
          refine fb_al C w 292 (fb_k49 C) rfl rfl z12 z13 dX7_spill_50 ?_
          have i14 := w.2.2.2 49 a2
          refine lv_aload_n C.1.1 C.1.2.1 dX7_spill_51 rfl (lv_at hl 1 rfl) ?_
          refine fb_getr (k2 := 56) C w (fb_k48 C) rfl fl_X7_32 dX7_spill_52 ?_
          refine lv_iload_n C.1.1 C.1.2.1 dX7_spill_55 rfl (lv_at hl 2 rfl) ?_
          obtain ⟨z15, z16, h⟩ := h
          refine fb_al C w 144 (fb_k56 C) rfl rfl z15 z16 dX7_spill_56 ?_
          have i17 := w.2.2.2 56 x1
          refine fb_callSi (As := [.int (fb_I (σ2 49 a2)), .int (fb_I (σ2 56 x1))]) (rest := [.int (fb_I a2), .ref (fb_ad G 56)]) C w (ct_X7_greater l G i14 i17 h) ms_X7_98 ⟨rfl, rfl, Nat.le_of_ble_eq_true rfl, Nat.le_of_ble_eq_true rfl, Nat.zero_le _, Nat.zero_le _⟩ rfl hl.1 rfl (Nat.le_of_ble_eq_true rfl) dX7_spill_57 (fun a18 σ18 H locs h ia18 w => ?_)
          obtain ⟨z19, z20, h⟩ := h
          refine fb_as C w 144 (fb_k56 C) rfl rfl ia18 z19 z20 dX7_spill_60 (fun σ21 H locs eσ21 w => ?_)
          have h := h σ21 eσ21
          refine lv_aload_n C.1.1 C.1.2.1 dX7_spill_61 rfl (lv_at hl 1 rfl) ?_
          refine fb_getr (k2 := 58) C w (fb_k48 C) rfl fl_X7_38 dX7_spill_62 ?_
          refine lv_aload_n C.1.1 C.1.2.1 dX7_spill_65 rfl (lv_at hl 1 rfl) ?_
          refine fb_gi C w 11 (fb_k48 C) rfl rfl fl_X7_101 dX7_spill_66 ?_
          have i22 := w.2.2.2 48 11
          refine lv_iload_n C.1.1 C.1.2.1 dX7_spill_69 rfl (lv_at hl 0 rfl) ?_
          obtain ⟨z23, z24, h⟩ := h
          refine fb_as C w 144 (fb_k58 C) rfl rfl ia2 z23 z24 dX7_spill_70 (fun σ25 H locs eσ25 w => ?_)
          have h := h σ25 eσ25
          refine lv_aload_n C.1.1 C.1.2.1 dX7_spill_71 rfl (lv_at hl 1 rfl) ?_
          refine fb_getr (k2 := 59) C w (fb_k48 C) rfl fl_X7_41 dX7_spill_72 ?_
          refine lv_aload_n C.1.1 C.1.2.1 dX7_spill_75 rfl (lv_at hl 1 rfl) ?_
          refine fb_gi C w 11 (fb_k48 C) rfl rfl fl_X7_101 dX7_spill_76 ?_
          have i26 := w.2.2.2 48 11
          refine fb_iconst C dX7_spill_79 ?_
          obtain ⟨z27, z28, h⟩ := h
          refine fb_zs C w 144 (fb_k59 C) rfl rfl (by decide) (by decide) z27 z28 dX7_spill_80 (fun σ29 H locs eσ29 w => ?_)
          have h := h σ29 eσ29
          refine lv_aload_n C.1.1 C.1.2.1 dX7_spill_81 rfl (lv_at hl 1 rfl) ?_
          refine lv_dup C.1.1 C.1.2.1 dX7_spill_82 rfl ?_
          refine fb_gi C w 11 (fb_k48 C) rfl rfl fl_X7_101 dX7_spill_83 ?_
          have i30 := w.2.2.2 48 11
          refine fb_iconst C dX7_spill_86 ?_
          obtain ⟨i31, h⟩ := h
          refine fb_iadd C dX7_spill_87 ?_
          refine fb_pi C w 11 (fb_k48 C) rfl rfl fl_X7_101 tyX7_ok nmX7 rfl i31 rfl rfl dX7_spill_88 (fun σ32 H locs eσ32 w => ?_)
          have h := h σ32 eσ32
          exact tw_X7_spill_91 C hret h2 x1 x2 _ _ _ _ w (lv_sub hl [1, 2, 3] rfl) ix1 ix2 h
theorem tl_X7_spill_2 (C : fb_C p s m args meth c G RX7 cX7_spill 4) (hret : fb_RV p l e rm_X7_spill s m args below meth c G cX7_spill Qm Q) : ∀ n : Nat, TT_X7_spill_2 p l e s m args below meth c Qm G (wl_X7_spill_2 Q n) := by
  intro n
  induction n with
  | zero => intro x1 x2 σ H locs ls w hl ix1 ix2 h; exact h.elim
  | succ n ih => exact tw_X7_spill_2 C hret ih
set_option maxRecDepth 100000 in
set_option maxHeartbeats 4000000 in
theorem tw_X7_spill_0 (C : fb_C p s m args meth c G RX7 cX7_spill 4) (hret : fb_RV p l e rm_X7_spill s m args below meth c G cX7_spill Qm Q) : TT_X7_spill_0 p l e s m args below meth c Qm G (fun x1 σ => wp_X7_spill x1 σ Q) := by
  intro x1 σ H locs ls w hl ix1 h
  unfold wp_X7_spill at h
  refine fb_iconst C dX7_spill_0 ?_
  refine lv_istore_n (lv' := [(2, .int (fb_I 0)), (0, .ref (fb_ad G 48)), (1, .int (fb_I x1))]) C.1.1 C.1.2.1 dX7_spill_1 rfl hl (by decide) rfl (fun ls hl => ?_)
  obtain ⟨n, h⟩ := h
  exact tl_X7_spill_2 C hret n x1 0 _ _ _ _ w (lv_sub hl [1, 2, 0] rfl) ix1 (by decide) h
theorem ct_X7_spill (l : Launch) (G : fb_G) {x1 : Int} {σ : fb_St} (ix1 : fb_in x1) (h : wp_X7_spill x1 σ Q) : fb_MV l G yX7_spill cX7_spill 4 rm_X7_spill [.ref (fb_ad G 48), .int (fb_I x1)] σ Q := by
  refine fb_ofW (own := RX7) (by decide) (Nat.le_of_ble_eq_true rfl) rfl (fun p e s m args below meth c ls C hr hl w => ?_)
  exact tw_X7_spill_0 C (fb_retv C hr) _ _ _ _ _ w hl ix1 h
end S_X7_spill
section S_X7_first
variable {p : Program} {l : Launch} {e : Env} {s : State} {m : MethodId} {args : Array Value} {below : List Frame} {meth : Method} {c : Code} {Qm : State → Prop} {G : fb_G} {Q : Int → fb_St → Prop}
abbrev TT_X7_first_53 (p : Program) (l : Launch) (e : Env) (s : State) (m : MethodId) (args : Array Value) (below : List Frame) (meth : Method) (c : Code) (Qm : State → Prop) (G : fb_G) (r : Int → Int → fb_St → Prop) : Prop := ∀ (x1 x2 : Int) (σ : fb_St) (H : Heap) (locs : List Loc) (ls : Array Slot), fb_Wd G s σ H locs → lv_has ls 3 [(0, .ref (fb_ad G 48)), (1, .int (fb_I x1)), (2, .int (fb_I x2))] → fb_in x1 → fb_in x2 → r x1 x2 σ → W p l e rm_X7_first s m args below meth c H locs 0 0 Qm (F0 m 53 ls [])
abbrev TT_X7_first_51 (p : Program) (l : Launch) (e : Env) (s : State) (m : MethodId) (args : Array Value) (below : List Frame) (meth : Method) (c : Code) (Qm : State → Prop) (G : fb_G) (r : Int → fb_St → Prop) : Prop := ∀ (x2 : Int) (σ : fb_St) (H : Heap) (locs : List Loc) (ls : Array Slot), fb_Wd G s σ H locs → lv_has ls 3 [(0, .ref (fb_ad G 48)), (2, .int (fb_I x2))] → fb_in x2 → r x2 σ → W p l e rm_X7_first s m args below meth c H locs 0 0 Qm (F0 m 51 ls [])
abbrev TT_X7_first_5 (p : Program) (l : Launch) (e : Env) (s : State) (m : MethodId) (args : Array Value) (below : List Frame) (meth : Method) (c : Code) (Qm : State → Prop) (G : fb_G) (r : Int → Int → fb_St → Prop) : Prop := ∀ (x1 x2 : Int) (σ : fb_St) (H : Heap) (locs : List Loc) (ls : Array Slot), fb_Wd G s σ H locs → lv_has ls 3 [(0, .ref (fb_ad G 48)), (1, .int (fb_I x1)), (2, .int (fb_I x2))] → fb_in x1 → fb_in x2 → r x1 x2 σ → W p l e rm_X7_first s m args below meth c H locs 0 0 Qm (F0 m 5 ls [])
abbrev TT_X7_first_0 (p : Program) (l : Launch) (e : Env) (s : State) (m : MethodId) (args : Array Value) (below : List Frame) (meth : Method) (c : Code) (Qm : State → Prop) (G : fb_G) (r : fb_St → Prop) : Prop := ∀ (σ : fb_St) (H : Heap) (locs : List Loc) (ls : Array Slot), fb_Wd G s σ H locs → lv_has ls 3 [(0, .ref (fb_ad G 48))] → r σ → W p l e rm_X7_first s m args below meth c H locs 0 0 Qm (F0 m 0 ls [])
set_option maxRecDepth 100000 in
set_option maxHeartbeats 4000000 in
theorem tw_X7_first_53 (C : fb_C p s m args meth c G RX7 cX7_first 3) (hret : fb_RI p l e rm_X7_first s m args below meth c G cX7_first Qm Q) {r5 : Int → Int → fb_St → Prop} (h5 : TT_X7_first_5 p l e s m args below meth c Qm G r5) : TT_X7_first_53 p l e s m args below meth c Qm G (wj_X7_first_53 r5 Q) := by
  intro x1 x2 σ H locs ls w hl ix1 ix2 h
  unfold wj_X7_first_53 at h
  obtain ⟨i21, h⟩ := h
  refine fb_iinc (b := x2 + 1) (k := 2) (lv' := [(2, .int (fb_I (x2 + 1))), (0, .ref (fb_ad G 48)), (1, .int (fb_I x1))]) C dX7_first_53 hl rfl rfl (by decide) rfl (fun ls hl => ?_)
  refine lv_goto (tgt := 5) C.1.1 C.1.2.1 dX7_first_56 (by decide) ?_
  exact h5 x1 (x2 + 1) _ _ _ _ w (lv_sub hl [1, 2, 0] rfl) ix1 i21 h
set_option maxRecDepth 100000 in
set_option maxHeartbeats 4000000 in
theorem tw_X7_first_51 (C : fb_C p s m args meth c G RX7 cX7_first 3) (hret : fb_RI p l e rm_X7_first s m args below meth c G cX7_first Qm Q) {r5 : Int → Int → fb_St → Prop} (h5 : TT_X7_first_5 p l e s m args below meth c Qm G r5) : TT_X7_first_51 p l e s m args below meth c Qm G (wj_X7_first_51 r5 Q) := by
  intro x2 σ H locs ls w hl ix2 h
  unfold wj_X7_first_51 at h
  refine lv_iload_n C.1.1 C.1.2.1 dX7_first_51 rfl (lv_at hl 1 rfl) ?_
  refine lv_istore_n (lv' := [(1, .int (fb_I x2)), (0, .ref (fb_ad G 48)), (2, .int (fb_I x2))]) C.1.1 C.1.2.1 dX7_first_52 rfl hl (by decide) rfl (fun ls hl => ?_)
  exact tw_X7_first_53 C hret h5 x2 x2 _ _ _ _ w (lv_sub hl [1, 0, 2] rfl) ix2 ix2 h
set_option maxRecDepth 100000 in
set_option maxHeartbeats 4000000 in
theorem tw_X7_first_5 (C : fb_C p s m args meth c G RX7 cX7_first 3) (hret : fb_RI p l e rm_X7_first s m args below meth c G cX7_first Qm Q) {r5 : Int → Int → fb_St → Prop} (h5 : TT_X7_first_5 p l e s m args below meth c Qm G r5) : TT_X7_first_5 p l e s m args below meth c Qm G (wb_X7_first_5 r5 Q) := by
  intro x1 x2 σ H locs ls w hl ix1 ix2 h
  unfold wb_X7_first_5 at h
  refine lv_iload_n C.1.1 C.1.2.1 dX7_first_5 rfl (lv_at hl 2 rfl) ?_
  refine lv_aload_n C.1.1 C.1.2.1 dX7_first_6 rfl (lv_at hl 0 rfl) ?_
  refine fb_gi C w 11 (fb_k48 C) rfl rfl fl_X7_101 dX7_first_7 ?_
  have i1 := w.2.2.2 48 11
  refine fb_icmp_ge (tgt := 59) C ix2 i1 dX7_first_10 (by decide) (fun c2 => ?_) (fun c2 => ?_)
  · have h := h.2 c2
    refine lv_iload_n C.1.1 C.1.2.1 dX7_first_59 rfl (lv_at hl 1 rfl) ?_
    exact hret _ _ _ _ _ _ ix1 h w dX7_first_60
  · have h := h.1 c2
    refine lv_aload_n C.1.1 C.1.2.1 dX7_first_13 rfl (lv_at hl 0 rfl) ?_
    refine fb_getr (k2 := 59) C w (fb_k48 C) rfl fl_X7_41 dX7_first_14 ?_
    refine lv_iload_n C.1.1 C.1.2.1 dX7_first_17 rfl (lv_at hl 2 rfl) ?_
    obtain ⟨z3, z4, h⟩ := h
    refine fb_zl C w 144 (fb_k59 C) rfl rfl z3 z4 dX7_first_18 ?_
    have i5 := w.2.2.2 59 x2
    refine fb_if_ne (tgt := 53) C i5 dX7_first_19 (by decide) (fun c6 => ?_) (fun c6 => ?_)
    · have h := h.2 c6
      exact tw_X7_first_53 C hret h5 x1 x2 _ _ _ _ w (lv_sub hl [0, 1, 2] rfl) ix1 ix2 h
    · have h := h.1 c6
      refine lv_iload_n C.1.1 C.1.2.1 dX7_first_22 rfl (lv_at hl 1 rfl) ?_
      refine fb_if_lt (tgt := 51) C ix1 dX7_first_23 (by decide) (fun c7 => ?_) (fun c7 => ?_)
      · have h := h.1 c7
        exact tw_X7_first_51 C hret h5 x2 _ _ _ _ w (lv_sub hl [0, 2] rfl) ix2 h
      · have h := h.2 c7
        refine lv_aload_n C.1.1 C.1.2.1 dX7_first_26 rfl (lv_at hl 0 rfl) ?_
        refine fb_getr (k2 := 56) C w (fb_k48 C) rfl fl_X7_32 dX7_first_27 ?_
        refine lv_aload_n C.1.1 C.1.2.1 dX7_first_30 rfl (lv_at hl 0 rfl) ?_
        refine fb_getr (k2 := 58) C w (fb_k48 C) rfl fl_X7_38 dX7_first_31 ?_
        refine lv_iload_n C.1.1 C.1.2.1 dX7_first_34 rfl (lv_at hl 2 rfl) ?_
        obtain ⟨z8, z9, h⟩ := h
        refine fb_al C w 144 (fb_k58 C) rfl rfl z8 z9 dX7_first_35 ?_
        have i10 := w.2.2.2 58 x2
        obtain ⟨z11, z12, h⟩ := h
        refine fb_al C w 144 (fb_k56 C) rfl rfl z11 z12 dX7_first_36 ?_
        have i13 := w.2.2.2 56 (σ 58 x2)
        refine lv_aload_n C.1.1 C.1.2.1 dX7_first_37 rfl (lv_at hl 0 rfl) ?_
        refine fb_getr (k2 := 56) C w (fb_k48 C) rfl fl_X7_32 dX7_first_38 ?_
        refine lv_aload_n C.1.1 C.1.2.1 dX7_first_41 rfl (lv_at hl 0 rfl) ?_
        refine fb_getr (k2 := 58) C w (fb_k48 C) rfl fl_X7_38 dX7_first_42 ?_
        refine lv_iload_n C.1.1 C.1.2.1 dX7_first_45 rfl (lv_at hl 1 rfl) ?_
        obtain ⟨z14, z15, h⟩ := h
        refine fb_al C w 144 (fb_k58 C) rfl rfl z14 z15 dX7_first_46 ?_
        have i16 := w.2.2.2 58 x1
        obtain ⟨z17, z18, h⟩ := h
        refine fb_al C w 144 (fb_k56 C) rfl rfl z17 z18 dX7_first_47 ?_
        have i19 := w.2.2.2 56 (σ 58 x1)
        refine fb_icmp_ge (tgt := 53) C i13 i19 dX7_first_48 (by decide) (fun c20 => ?_) (fun c20 => ?_)
        · have h := h.2 c20
          exact tw_X7_first_53 C hret h5 x1 x2 _ _ _ _ w (lv_sub hl [0, 1, 2] rfl) ix1 ix2 h
        · have h := h.1 c20
          exact tw_X7_first_51 C hret h5 x2 _ _ _ _ w (lv_sub hl [0, 2] rfl) ix2 h
theorem tl_X7_first_5 (C : fb_C p s m args meth c G RX7 cX7_first 3) (hret : fb_RI p l e rm_X7_first s m args below meth c G cX7_first Qm Q) : ∀ n : Nat, TT_X7_first_5 p l e s m args below meth c Qm G (wl_X7_first_5 Q n) := by
  intro n
  induction n with
  | zero => intro x1 x2 σ H locs ls w hl ix1 ix2 h; exact h.elim
  | succ n ih => exact tw_X7_first_5 C hret ih
set_option maxRecDepth 100000 in
set_option maxHeartbeats 4000000 in
theorem tw_X7_first_0 (C : fb_C p s m args meth c G RX7 cX7_first 3) (hret : fb_RI p l e rm_X7_first s m args below meth c G cX7_first Qm Q) : TT_X7_first_0 p l e s m args below meth c Qm G (fun σ => wp_X7_first σ Q) := by
  intro σ H locs ls w hl h
  unfold wp_X7_first at h
  refine fb_bipush C dX7_first_0 (by decide) ?_
  refine lv_istore_n (lv' := [(1, .int (fb_I (-6))), (0, .ref (fb_ad G 48))]) C.1.1 C.1.2.1 dX7_first_2 rfl hl (by decide) rfl (fun ls hl => ?_)
  refine fb_iconst C dX7_first_3 ?_
  refine lv_istore_n (lv' := [(2, .int (fb_I 0)), (1, .int (fb_I (-6))), (0, .ref (fb_ad G 48))]) C.1.1 C.1.2.1 dX7_first_4 rfl hl (by decide) rfl (fun ls hl => ?_)
  obtain ⟨n, h⟩ := h
  exact tl_X7_first_5 C hret n (-6) 0 _ _ _ _ w (lv_sub hl [2, 1, 0] rfl) (by decide) (by decide) h
theorem ct_X7_first (l : Launch) (G : fb_G) {σ : fb_St} (h : wp_X7_first σ Q) : fb_MI l G yX7_first cX7_first 3 (some .int) rm_X7_first [.ref (fb_ad G 48)] σ Q := by
  refine fb_ofW (own := RX7) (by decide) (Nat.le_of_ble_eq_true rfl) rfl (fun p e s m args below meth c ls C hr hl w => ?_)
  exact tw_X7_first_0 C (fb_reti C hr) _ _ _ _ w hl h
end S_X7_first
