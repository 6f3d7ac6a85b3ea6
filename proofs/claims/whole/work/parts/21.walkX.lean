section S_X0_lineUpAround
variable {p : Program} {l : Launch} {e : Env} {s : State} {m : MethodId} {args : Array Value} {below : List Frame} {meth : Method} {c : Code} {Qm : State → Prop} {G : fb_G} {Q : Int → fb_St → Prop}
abbrev TT_X0_lineUpAround_72 (p : Program) (l : Launch) (e : Env) (s : State) (m : MethodId) (args : Array Value) (below : List Frame) (meth : Method) (c : Code) (Qm : State → Prop) (G : fb_G) (r : Int → Int → fb_St → Prop) : Prop := ∀ (x2 x3 : Int) (σ : fb_St) (H : Heap) (locs : List Loc) (ls : Array Slot), fb_Wd G s σ H locs → lv_has ls 5 [(0, .ref (fb_ad G 8)), (1, .ref (fb_ad G 1)), (2, .int (fb_I x2)), (3, .int (fb_I x3))] → fb_in x2 → fb_in x3 → r x2 x3 σ → W p l e rm_X0_lineUpAround s m args below meth c H locs 0 0 Qm (F0 m 72 ls [])
abbrev TT_X0_lineUpAround_2 (p : Program) (l : Launch) (e : Env) (s : State) (m : MethodId) (args : Array Value) (below : List Frame) (meth : Method) (c : Code) (Qm : State → Prop) (G : fb_G) (r : Int → Int → fb_St → Prop) : Prop := ∀ (x2 x3 : Int) (σ : fb_St) (H : Heap) (locs : List Loc) (ls : Array Slot), fb_Wd G s σ H locs → lv_has ls 5 [(0, .ref (fb_ad G 8)), (1, .ref (fb_ad G 1)), (2, .int (fb_I x2)), (3, .int (fb_I x3))] → fb_in x2 → fb_in x3 → r x2 x3 σ → W p l e rm_X0_lineUpAround s m args below meth c H locs 0 0 Qm (F0 m 2 ls [])
abbrev TT_X0_lineUpAround_0 (p : Program) (l : Launch) (e : Env) (s : State) (m : MethodId) (args : Array Value) (below : List Frame) (meth : Method) (c : Code) (Qm : State → Prop) (G : fb_G) (r : Int → fb_St → Prop) : Prop := ∀ (x2 : Int) (σ : fb_St) (H : Heap) (locs : List Loc) (ls : Array Slot), fb_Wd G s σ H locs → lv_has ls 5 [(0, .ref (fb_ad G 8)), (1, .ref (fb_ad G 1)), (2, .int (fb_I x2))] → fb_in x2 → r x2 σ → W p l e rm_X0_lineUpAround s m args below meth c H locs 0 0 Qm (F0 m 0 ls [])
set_option maxRecDepth 100000 in
set_option maxHeartbeats 4000000 in
theorem tw_X0_lineUpAround_72 (C : fb_C p s m args meth c G RX0 cX0_lineUpAround 5) (hret : fb_RV p l e rm_X0_lineUpAround s m args below meth c G cX0_lineUpAround Qm Q) {r2 : Int → Int → fb_St → Prop} (h2 : TT_X0_lineUpAround_2 p l e s m args below meth c Qm G r2) : TT_X0_lineUpAround_72 p l e s m args below meth c Qm G (wj_X0_lineUpAround_72 r2 Q) := by
  intro x2 x3 σ H locs ls w hl ix2 ix3 h
  unfold wj_X0_lineUpAround_72 at h
  obtain ⟨i21, h⟩ := h
  refine fb_iinc (b := x3 + 1) (k := 3) (lv' := [(3, .int (fb_I (x3 + 1))), (0, .ref (fb_ad G 8)), (1, .ref (fb_ad G 1)), (2, .int (fb_I x2))]) C dX0_lineUpAround_72 hl rfl rfl (by decide) rfl (fun ls hl => ?_)
  refine lv_goto (tgt := 2) C.1.1 C.1.2.1 dX0_lineUpAround_75 (by decide) ?_
  exact h2 x2 (x3 + 1) _ _ _ _ w (lv_sub hl [1, 2, 3, 0] rfl) ix2 i21 h
set_option maxRecDepth 100000 in
set_option maxHeartbeats 4000000 in
theorem tw_X0_lineUpAround_2 (C : fb_C p s m args meth c G RX0 cX0_lineUpAround 5) (hret : fb_RV p l e rm_X0_lineUpAround s m args below meth c G cX0_lineUpAround Qm Q) {r2 : Int → Int → fb_St → Prop} (h2 : TT_X0_lineUpAround_2 p l e s m args below meth c Qm G r2) : TT_X0_lineUpAround_2 p l e s m args below meth c Qm G (wb_X0_lineUpAround_2 r2 Q) := by
  intro x2 x3 σ H locs ls w hl ix2 ix3 h
  unfold wb_X0_lineUpAround_2 at h
  refine lv_iload_n C.1.1 C.1.2.1 dX0_lineUpAround_2 rfl (lv_at hl 3 rfl) ?_
  refine fb_iconst C dX0_lineUpAround_3 ?_
  refine fb_icmp_ge (tgt := 78) C ix3 (by decide) dX0_lineUpAround_4 (by decide) (fun c1 => ?_) (fun c1 => ?_)
  · have h := h.2 c1
    exact hret _ _ _ _ _ h w dX0_lineUpAround_78
  · have h := h.1 c1
    refine lv_aload_n C.1.1 C.1.2.1 dX0_lineUpAround_7 rfl (lv_at hl 1 rfl) ?_
    refine lv_iload_n C.1.1 C.1.2.1 dX0_lineUpAround_8 rfl (lv_at hl 2 rfl) ?_
    refine lv_iload_n C.1.1 C.1.2.1 dX0_lineUpAround_9 rfl (lv_at hl 3 rfl) ?_
    refine fb_callVi (As := [.int (fb_I x2), .int (fb_I x3)]) (rest := []) C w (ct_X5_neighbour l G ix2 ix3 h) mv_X0_62 (fb_k1 C) rfl ⟨rfl, rfl, Nat.le_of_ble_eq_true rfl, Nat.le_of_ble_eq_true rfl, Nat.zero_le _, Nat.zero_le _⟩ rfl hl.1 rfl (Nat.le_of_ble_eq_true rfl) dX0_lineUpAround_10 (fun a2 σ2 H locs h ia2 w => ?_)
    refine lv_istore (lv' := [(4, .int (fb_I a2)), (0, .ref (fb_ad G 8)), (1, .ref (fb_ad G 1)), (2, .int (fb_I x2)), (3, .int (fb_I x3))]) C.1.1 C.1.2.1 dX0_lineUpAround_13 hl (by decide) rfl (fun ls hl => ?_)
    refine lv_iload C.1.1 C.1.2.1 dX0_lineUpAround_15 (lv_at hl 0 rfl) ?_
    refine fb_iconst C dX0_lineUpAround_17 ?_
    refine fb_icmp_eq (tgt := 72) C ia2 (by decide) dX0_lineUpAround_18 (by decide) (fun c3 => ?_) (fun c3 => ?_)
    · have h := h.1 c3
      exact tw_X0_lineUpAround_72 C hret h2 x2 x3 _ _ _ _ w (lv_sub hl [1, 2, 3, 4] rfl) ix2 ix3 h
    · have h := h.2 c3
      refine lv_aload_n C.1.1 C.1.2.1 dX0_lineUpAround_21 rfl (lv_at hl 1 rfl) ?_
      refine fb_getr (k2 := 10) C w (fb_k8 C) rfl fl_X0_15 dX0_lineUpAround_22 ?_
      refine lv_iload C.1.1 C.1.2.1 dX0_lineUpAround_25 (lv_at hl 0 rfl) ?_
      obtain ⟨z4, z5, h⟩ := h
      refine fb_al C w 144 (fb_k10 C) rfl rfl z4 z5 dX0_lineUpAround_27 ?_
      have i6 := w.2.2.2 10 a2
      refine fb_bipush C dX0_lineUpAround_28 (by decide) ?_
      refine fb_icmp_ne (tgt := 72) C i6 (by decide) dX0_lineUpAround_30 (by decide) (fun c7 => ?_) (fun c7 => ?_)
      · have h := h.2 c7
        exact tw_X0_lineUpAround_72 C hret h2 x2 x3 _ _ _ _ w (lv_sub hl [1, 2, 3, 4] rfl) ix2 ix3 h
      · have h := h.1 c7
        refine lv_aload_n C.1.1 C.1.2.1 dX0_lineUpAround_33 rfl (lv_at hl 1 rfl) ?_
        refine fb_getr (k2 := 10) C w (fb_k8 C) rfl fl_X0_15 dX0_lineUpAround_34 ?_
        refine lv_iload C.1.1 C.1.2.1 dX0_lineUpAround_37 (lv_at hl 0 rfl) ?_
        refine lv_aload_n C.1.1 C.1.2.1 dX0_lineUpAround_39 rfl (lv_at hl 2 rfl) ?_
        refine fb_getr (k2 := 2) C w (fb_k1 C) rfl fl_X0_59 dX0_lineUpAround_40 ?_
        refine lv_iload C.1.1 C.1.2.1 dX0_lineUpAround_43 (lv_at hl 0 rfl) ?_
        obtain ⟨z8, z9, h⟩ := h
        refine fb_al C w 144 (fb_k2 C) rfl rfl z8 z9 dX0_lineUpAround_45 ?_
        have i10 := w.2.2.2 2 a2
        refine lv_aload_n C.1.1 C.1.2.1 dX0_lineUpAround_46 rfl (lv_at hl 1 rfl) ?_
        refine fb_getr (k2 := 10) C w (fb_k8 C) rfl fl_X0_15 dX0_lineUpAround_47 ?_
        refine lv_iload_n C.1.1 C.1.2.1 dX0_lineUpAround_50 rfl (lv_at hl 3 rfl) ?_
        obtain ⟨z11, z12, h⟩ := h
        refine fb_al C w 144 (fb_k10 C) rfl rfl z11 z12 dX0_lineUpAround_51 ?_
        have i13 := w.2.2.2 10 x2
        refine fb_mmax C i10 i13 ml_X0_66 ⟨Nat.le_of_ble_eq_true rfl, Nat.le_of_ble_eq_true rfl, Nat.zero_le _, Nat.zero_le _⟩ hl.1 dX0_lineUpAround_52 ?_
        obtain ⟨z14, z15, h⟩ := h
        refine fb_as C w 144 (fb_k10 C) rfl rfl (fb_in_max i10 i13) z14 z15 dX0_lineUpAround_55 (fun σ16 H locs eσ16 w => ?_)
        have h := h σ16 eσ16
        refine lv_aload_n C.1.1 C.1.2.1 dX0_lineUpAround_56 rfl (lv_at hl 1 rfl) ?_
        refine fb_getr (k2 := 13) C w (fb_k8 C) rfl fl_X0_27 dX0_lineUpAround_57 ?_
        refine lv_iload C.1.1 C.1.2.1 dX0_lineUpAround_60 (lv_at hl 0 rfl) ?_
        refine lv_aload_n C.1.1 C.1.2.1 dX0_lineUpAround_62 rfl (lv_at hl 1 rfl) ?_
        refine fb_getr (k2 := 10) C w (fb_k8 C) rfl fl_X0_15 dX0_lineUpAround_63 ?_
        refine lv_iload C.1.1 C.1.2.1 dX0_lineUpAround_66 (lv_at hl 0 rfl) ?_
        obtain ⟨z17, z18, h⟩ := h
        refine fb_al C w 144 (fb_k10 C) rfl rfl z17 z18 dX0_lineUpAround_68 ?_
        have i19 := w.2.2.2 10 a2
        refine fb_callVv (As := [.int (fb_I a2), .int (fb_I (σ16 10 a2))]) (rest := []) C w (ct_X2_add l G ia2 i19 h) mv_X0_71 (fb_k13 C) rfl ⟨rfl, rfl, Nat.le_of_ble_eq_true rfl, Nat.le_of_ble_eq_true rfl, Nat.zero_le _, Nat.zero_le _⟩ rfl hl.1 rfl (Nat.le_of_ble_eq_true rfl) dX0_lineUpAround_69 (fun σ20 H locs h w => ?_)
        exact tw_X0_lineUpAround_72 C hret h2 x2 x3 _ _ _ _ w (lv_sub hl [1, 2, 3, 4] rfl) ix2 ix3 h
theorem tl_X0_lineUpAround_2 (C : fb_C p s m args meth c G RX0 cX0_lineUpAround 5) (hret : fb_RV p l e rm_X0_lineUpAround s m args below meth c G cX0_lineUpAround Qm Q) : ∀ n : Nat, TT_X0_lineUpAround_2 p l e s m args below meth c Qm G (wl_X0_lineUpAround_2 Q n) := by
  intro n
  induction n with
  | zero => intro x2 x3 σ H locs ls w hl ix2 ix3 h; exact h.elim
  | succ n ih => exact tw_X0_lineUpAround_2 C hret ih
set_option maxRecDepth 100000 in
set_option maxHeartbeats 4000000 in
theorem tw_X0_lineUpAround_0 (C : fb_C p s m args meth c G RX0 cX0_lineUpAround 5) (hret : fb_RV p l e rm_X0_lineUpAround s m args below meth c G cX0_lineUpAround Qm Q) : TT_X0_lineUpAround_0 p l e s m args below meth c Qm G (fun x2 σ => wp_X0_lineUpAround x2 σ Q) := by
  intro x2 σ H locs ls w hl ix2 h
  unfold wp_X0_lineUpAround at h
  refine fb_iconst C dX0_lineUpAround_0 ?_
  refine lv_istore_n (lv' := [(3, .int (fb_I 0)), (0, .ref (fb_ad G 8)), (1, .ref (fb_ad G 1)), (2, .int (fb_I x2))]) C.1.1 C.1.2.1 dX0_lineUpAround_1 rfl hl (by decide) rfl (fun ls hl => ?_)
  obtain ⟨n, h⟩ := h
  exact tl_X0_lineUpAround_2 C hret n x2 0 _ _ _ _ w (lv_sub hl [1, 2, 3, 0] rfl) ix2 (by decide) h
theorem ct_X0_lineUpAround (l : Launch) (G : fb_G) {x2 : Int} {σ : fb_St} (ix2 : fb_in x2) (h : wp_X0_lineUpAround x2 σ Q) : fb_MV l G yX0_lineUpAround cX0_lineUpAround 5 rm_X0_lineUpAround [.ref (fb_ad G 8), .ref (fb_ad G 1), .int (fb_I x2)] σ Q := by
  refine fb_ofW (own := RX0) (by decide) (Nat.le_of_ble_eq_true rfl) rfl (fun p e s m args below meth c ls C hr hl w => ?_)
  exact tw_X0_lineUpAround_0 C (fb_retv C hr) _ _ _ _ _ w hl ix2 h
end S_X0_lineUpAround
section S_X2_take
variable {p : Program} {l : Launch} {e : Env} {s : State} {m : MethodId} {args : Array Value} {below : List Frame} {meth : Method} {c : Code} {Qm : State → Prop} {G : fb_G} {Q : Int → fb_St → Prop}
abbrev TT_X2_take_65 (p : Program) (l : Launch) (e : Env) (s : State) (m : MethodId) (args : Array Value) (below : List Frame) (meth : Method) (c : Code) (Qm : State → Prop) (G : fb_G) (r : Int → fb_St → Prop) : Prop := ∀ (x1 : Int) (σ : fb_St) (H : Heap) (locs : List Loc) (ls : Array Slot), fb_Wd G s σ H locs → lv_has ls 2 [(1, .int (fb_I x1))] → fb_in x1 → r x1 σ → W p l e rm_X2_take s m args below meth c H locs 0 0 Qm (F0 m 65 ls [])
abbrev TT_X2_take_35 (p : Program) (l : Launch) (e : Env) (s : State) (m : MethodId) (args : Array Value) (below : List Frame) (meth : Method) (c : Code) (Qm : State → Prop) (G : fb_G) (r : fb_St → Prop) : Prop := ∀ (σ : fb_St) (H : Heap) (locs : List Loc) (ls : Array Slot), fb_Wd G s σ H locs → lv_has ls 2 [(0, .ref (fb_ad G 13))] → r σ → W p l e rm_X2_take s m args below meth c H locs 0 0 Qm (F0 m 35 ls [])
abbrev TT_X2_take_0 (p : Program) (l : Launch) (e : Env) (s : State) (m : MethodId) (args : Array Value) (below : List Frame) (meth : Method) (c : Code) (Qm : State → Prop) (G : fb_G) (r : fb_St → Prop) : Prop := ∀ (σ : fb_St) (H : Heap) (locs : List Loc) (ls : Array Slot), fb_Wd G s σ H locs → lv_has ls 2 [(0, .ref (fb_ad G 13))] → r σ → W p l e rm_X2_take s m args below meth c H locs 0 0 Qm (F0 m 0 ls [])
abbrev TT_X2_take_E (p : Program) (l : Launch) (e : Env) (s : State) (m : MethodId) (args : Array Value) (below : List Frame) (meth : Method) (c : Code) (Qm : State → Prop) (G : fb_G) (r : fb_St → Prop) : Prop := ∀ (σ : fb_St) (H : Heap) (locs : List Loc) (ls : Array Slot), fb_Wd G s σ H locs → lv_has ls 2 [(0, .ref (fb_ad G 13))] → r σ → W p l e rm_X2_take s m args below meth c H locs 0 0 Qm (F0 m 0 ls [])
set_option maxRecDepth 100000 in
set_option maxHeartbeats 4000000 in
theorem tw_X2_take_65 (C : fb_C p s m args meth c G RX2 cX2_take 2) (hret : fb_RI p l e rm_X2_take s m args below meth c G cX2_take Qm Q) : TT_X2_take_65 p l e s m args below meth c Qm G (wj_X2_take_65 Q) := by
  intro x1 σ H locs ls w hl ix1 h
  unfold wj_X2_take_65 at h
  refine lv_iload_n C.1.1 C.1.2.1 dX2_take_65 rfl (lv_at hl 0 rfl) ?_
  exact hret _ _ _ _ _ _ ix1 h w dX2_take_66
set_option maxRecDepth 100000 in
set_option maxHeartbeats 4000000 in
theorem tw_X2_take_35 (C : fb_C p s m args meth c G RX2 cX2_take 2) (hret : fb_RI p l e rm_X2_take s m args below meth c G cX2_take Qm Q) : TT_X2_take_35 p l e s m args below meth c Qm G (wj_X2_take_35 Q) := by
  intro σ H locs ls w hl h
  unfold wj_X2_take_35 at h
  refine lv_aload_n C.1.1 C.1.2.1 dX2_take_35 rfl (lv_at hl 0 rfl) ?_
  refine fb_getr (k2 := 14) C w (fb_k13 C) rfl fl_X2_9 dX2_take_36 ?_
  refine lv_aload_n C.1.1 C.1.2.1 dX2_take_39 rfl (lv_at hl 0 rfl) ?_
  refine fb_gi C w 3 (fb_k13 C) rfl rfl fl_X2_21 dX2_take_40 ?_
  have i11 := w.2.2.2 13 3
  obtain ⟨z12, z13, h⟩ := h
  refine fb_al C w 100 (fb_k14 C) rfl rfl z12 z13 dX2_take_43 ?_
  have i14 := w.2.2.2 14 (σ 13 3)
  refine fb_top (fun v15 ev15 => ?_)
  have h := h v15 ev15
  have iv15 := fb_ie ev15 i14
  refine lv_istore_n (lv' := [(1, .int (fb_I v15)), (0, .ref (fb_ad G 13))]) C.1.1 C.1.2.1 dX2_take_44 rfl hl (by decide) rfl (fun ls hl => ?_)
  refine lv_iload_n C.1.1 C.1.2.1 dX2_take_45 rfl (lv_at hl 0 rfl) ?_
  refine fb_iconst C dX2_take_46 ?_
  refine fb_icmp_eq (tgt := 65) C iv15 (by decide) dX2_take_47 (by decide) (fun c16 => ?_) (fun c16 => ?_)
  · have h := h.1 c16
    exact tw_X2_take_65 C hret v15 _ _ _ _ w (lv_sub hl [0] rfl) iv15 h
  · have h := h.2 c16
    refine lv_aload_n C.1.1 C.1.2.1 dX2_take_50 rfl (lv_at hl 1 rfl) ?_
    refine fb_getr (k2 := 14) C w (fb_k13 C) rfl fl_X2_9 dX2_take_51 ?_
    refine lv_aload_n C.1.1 C.1.2.1 dX2_take_54 rfl (lv_at hl 1 rfl) ?_
    refine fb_gi C w 3 (fb_k13 C) rfl rfl fl_X2_21 dX2_take_55 ?_
    have i17 := w.2.2.2 13 3
    refine lv_aload_n C.1.1 C.1.2.1 dX2_take_58 rfl (lv_at hl 1 rfl) ?_
    refine fb_getr (k2 := 16) C w (fb_k13 C) rfl fl_X2_18 dX2_take_59 ?_
    refine lv_iload_n C.1.1 C.1.2.1 dX2_take_62 rfl (lv_at hl 0 rfl) ?_
    obtain ⟨z18, z19, h⟩ := h
    refine fb_al C w 144 (fb_k16 C) rfl rfl z18 z19 dX2_take_63 ?_
    have i20 := w.2.2.2 16 v15
    obtain ⟨z21, z22, h⟩ := h
    refine fb_as C w 100 (fb_k14 C) rfl rfl i20 z21 z22 dX2_take_64 (fun σ23 H locs eσ23 w => ?_)
    have h := h σ23 eσ23
    exact tw_X2_take_65 C hret v15 _ _ _ _ w (lv_sub hl [0] rfl) iv15 h
set_option maxRecDepth 100000 in
set_option maxHeartbeats 4000000 in
theorem tw_X2_take_0 (C : fb_C p s m args meth c G RX2 cX2_take 2) (hret : fb_RI p l e rm_X2_take s m args below meth c G cX2_take Qm Q) {r0 : fb_St → Prop} (h0 : TT_X2_take_0 p l e s m args below meth c Qm G r0) : TT_X2_take_0 p l e s m args below meth c Qm G (wb_X2_take_0 r0 Q) := by
  intro σ H locs ls w hl h
  unfold wb_X2_take_0 at h
  refine lv_aload_n C.1.1 C.1.2.1 dX2_take_0 rfl (lv_at hl 0 rfl) ?_
  refine fb_gi C w 3 (fb_k13 C) rfl rfl fl_X2_21 dX2_take_1 ?_
  have i1 := w.2.2.2 13 3
  refine fb_bipush C dX2_take_4 (by decide) ?_
  refine fb_icmp_ge (tgt := 35) C i1 (by decide) dX2_take_6 (by decide) (fun c2 => ?_) (fun c2 => ?_)
  · have h := h.2 c2
    exact tw_X2_take_35 C hret _ _ _ _ w (lv_sub hl [0] rfl) h
  · have h := h.1 c2
    refine lv_aload_n C.1.1 C.1.2.1 dX2_take_9 rfl (lv_at hl 0 rfl) ?_
    refine fb_getr (k2 := 14) C w (fb_k13 C) rfl fl_X2_9 dX2_take_10 ?_
    refine lv_aload_n C.1.1 C.1.2.1 dX2_take_13 rfl (lv_at hl 0 rfl) ?_
    refine fb_gi C w 3 (fb_k13 C) rfl rfl fl_X2_21 dX2_take_14 ?_
    have i3 := w.2.2.2 13 3
    obtain ⟨z4, z5, h⟩ := h
    refine fb_al C w 100 (fb_k14 C) rfl rfl z4 z5 dX2_take_17 ?_
    have i6 := w.2.2.2 14 (σ 13 3)
    refine fb_iconst C dX2_take_18 ?_
    refine fb_icmp_ne (tgt := 35) C i6 (by decide) dX2_take_19 (by decide) (fun c7 => ?_) (fun c7 => ?_)
    · have h := h.2 c7
      exact tw_X2_take_35 C hret _ _ _ _ w (lv_sub hl [0] rfl) h
    · have h := h.1 c7
      refine lv_aload_n C.1.1 C.1.2.1 dX2_take_22 rfl (lv_at hl 0 rfl) ?_
      refine lv_dup C.1.1 C.1.2.1 dX2_take_23 rfl ?_
      refine fb_gi C w 3 (fb_k13 C) rfl rfl fl_X2_21 dX2_take_24 ?_
      have i8 := w.2.2.2 13 3
      refine fb_iconst C dX2_take_27 ?_
      obtain ⟨i9, h⟩ := h
      refine fb_iadd C dX2_take_28 ?_
      refine fb_pi C w 3 (fb_k13 C) rfl rfl fl_X2_21 tyX2_ok nmX2 rfl i9 rfl rfl dX2_take_29 (fun σ10 H locs eσ10 w => ?_)
      have h := h σ10 eσ10
      refine lv_goto (tgt := 0) C.1.1 C.1.2.1 dX2_take_32 (by decide) ?_
      exact h0 _ _ _ _ w (lv_sub hl [0] rfl) h
theorem tl_X2_take_0 (C : fb_C p s m args meth c G RX2 cX2_take 2) (hret : fb_RI p l e rm_X2_take s m args below meth c G cX2_take Qm Q) : ∀ n : Nat, TT_X2_take_0 p l e s m args below meth c Qm G (wl_X2_take_0 Q n) := by
  intro n
  induction n with
  | zero => intro σ H locs ls w hl h; exact h.elim
  | succ n ih => exact tw_X2_take_0 C hret ih
set_option maxRecDepth 100000 in
set_option maxHeartbeats 4000000 in
theorem tw_X2_take_E (C : fb_C p s m args meth c G RX2 cX2_take 2) (hret : fb_RI p l e rm_X2_take s m args below meth c G cX2_take Qm Q) : TT_X2_take_E p l e s m args below meth c Qm G (fun σ => wp_X2_take σ Q) := by
  intro σ H locs ls w hl h
  unfold wp_X2_take at h
  obtain ⟨n, h⟩ := h
  exact tl_X2_take_0 C hret n _ _ _ _ w (lv_sub hl [0] rfl) h
theorem ct_X2_take (l : Launch) (G : fb_G) {σ : fb_St} (h : wp_X2_take σ Q) : fb_MI l G yX2_take cX2_take 2 (some .int) rm_X2_take [.ref (fb_ad G 13)] σ Q := by
  refine fb_ofW (own := RX2) (by decide) (Nat.le_of_ble_eq_true rfl) rfl (fun p e s m args below meth c ls C hr hl w => ?_)
  exact tw_X2_take_E C (fb_reti C hr) _ _ _ _ w hl h
end S_X2_take
section S_X5_basinBeside
variable {p : Program} {l : Launch} {e : Env} {s : State} {m : MethodId} {args : Array Value} {below : List Frame} {meth : Method} {c : Code} {Qm : State → Prop} {G : fb_G} {Q : Int → fb_St → Prop} {oo : Nat}
abbrev TT_X5_basinBeside_34 (p : Program) (l : Launch) (e : Env) (s : State) (m : MethodId) (args : Array Value) (below : List Frame) (meth : Method) (c : Code) (Qm : State → Prop) (G : fb_G) (oo : Nat) (r : Int → fb_St → Prop) : Prop := ∀ (s0 : Int) (σ : fb_St) (H : Heap) (locs : List Loc) (ls : Array Slot), fb_Wd G s σ H locs → lv_has ls 5 [] → fb_in s0 → r s0 σ → W p l e rm_X5_basinBeside s m args below meth c H locs 0 0 Qm (F0 m 34 ls [.int (fb_I s0)])
abbrev TT_X5_basinBeside_32 (p : Program) (l : Launch) (e : Env) (s : State) (m : MethodId) (args : Array Value) (below : List Frame) (meth : Method) (c : Code) (Qm : State → Prop) (G : fb_G) (oo : Nat) (r : fb_St → Prop) : Prop := ∀ (σ : fb_St) (H : Heap) (locs : List Loc) (ls : Array Slot), fb_Wd G s σ H locs → lv_has ls 5 [] → r σ → W p l e rm_X5_basinBeside s m args below meth c H locs 0 0 Qm (F0 m 32 ls [])
abbrev TT_X5_basinBeside_0 (p : Program) (l : Launch) (e : Env) (s : State) (m : MethodId) (args : Array Value) (below : List Frame) (meth : Method) (c : Code) (Qm : State → Prop) (G : fb_G) (oo : Nat) (r : Int → Int → fb_St → Prop) : Prop := ∀ (x1 x2 : Int) (σ : fb_St) (H : Heap) (locs : List Loc) (ls : Array Slot), fb_Wd G s σ H locs → lv_has ls 5 [(0, .ref (fb_ad G 1)), (1, .int (fb_I x1)), (2, .int (fb_I x2)), (3, .ref (fb_ad G oo))] → fb_in x1 → fb_in x2 → r x1 x2 σ → W p l e rm_X5_basinBeside s m args below meth c H locs 0 0 Qm (F0 m 0 ls [])
set_option maxRecDepth 100000 in
set_option maxHeartbeats 4000000 in
theorem tw_X5_basinBeside_34 (hoo : (fb_cl G)[oo]? = some (fb_arI G 144)) (C : fb_C p s m args meth c G RX5 cX5_basinBeside 5) (hret : fb_RI p l e rm_X5_basinBeside s m args below meth c G cX5_basinBeside Qm Q) : TT_X5_basinBeside_34 p l e s m args below meth c Qm G oo (wj_X5_basinBeside_34 oo Q) := by
  intro s0 σ H locs ls w hl is0 h
  unfold wj_X5_basinBeside_34 at h
  exact hret _ _ _ _ _ _ is0 h w dX5_basinBeside_34
set_option maxRecDepth 100000 in
set_option maxHeartbeats 4000000 in
theorem tw_X5_basinBeside_32 (hoo : (fb_cl G)[oo]? = some (fb_arI G 144)) (C : fb_C p s m args meth c G RX5 cX5_basinBeside 5) (hret : fb_RI p l e rm_X5_basinBeside s m args below meth c G cX5_basinBeside Qm Q) : TT_X5_basinBeside_32 p l e s m args below meth c Qm G oo (wj_X5_basinBeside_32 oo Q) := by
  intro σ H locs ls w hl h
  unfold wj_X5_basinBeside_32 at h
  refine fb_bipush C dX5_basinBeside_32 (by decide) ?_
  exact tw_X5_basinBeside_34 hoo C hret (-6) _ _ _ _ w (lv_sub hl [] rfl) (by decide) h
set_option maxRecDepth 100000 in
set_option maxHeartbeats 4000000 in
theorem tw_X5_basinBeside_0 (hoo : (fb_cl G)[oo]? = some (fb_arI G 144)) (C : fb_C p s m args meth c G RX5 cX5_basinBeside 5) (hret : fb_RI p l e rm_X5_basinBeside s m args below meth c G cX5_basinBeside Qm Q) : TT_X5_basinBeside_0 p l e s m args below meth c Qm G oo (fun x1 x2 σ => wp_X5_basinBeside oo x1 x2 σ Q) := by
  intro x1 x2 σ H locs ls w hl ix1 ix2 h
  unfold wp_X5_basinBeside at h
  refine lv_aload_n C.1.1 C.1.2.1 dX5_basinBeside_0 rfl (lv_at hl 0 rfl) ?_
  refine fb_getr (k2 := 4) C w (fb_k1 C) rfl fl_X5_28 dX5_basinBeside_1 ?_
  refine lv_iload_n C.1.1 C.1.2.1 dX5_basinBeside_4 rfl (lv_at hl 1 rfl) ?_
  refine fb_iconst C dX5_basinBeside_5 ?_
  obtain ⟨i1, h⟩ := h
  refine fb_imul C dX5_basinBeside_6 ?_
  refine lv_iload_n C.1.1 C.1.2.1 dX5_basinBeside_7 rfl (lv_at hl 2 rfl) ?_
  obtain ⟨i2, h⟩ := h
  refine fb_iadd C dX5_basinBeside_8 ?_
  obtain ⟨z3, z4, h⟩ := h
  refine fb_al C w 576 (fb_k4 C) rfl rfl z3 z4 dX5_basinBeside_9 ?_
  have i5 := w.2.2.2 4 ((x1 * 4) + x2)
  refine fb_top (fun v6 ev6 => ?_)
  have h := h v6 ev6
  have iv6 := fb_ie ev6 i5
  refine lv_istore (lv' := [(4, .int (fb_I v6)), (0, .ref (fb_ad G 1)), (1, .int (fb_I x1)), (2, .int (fb_I x2)), (3, .ref (fb_ad G oo))]) C.1.1 C.1.2.1 dX5_basinBeside_10 hl (by decide) rfl (fun ls hl => ?_)
  refine lv_iload C.1.1 C.1.2.1 dX5_basinBeside_12 (lv_at hl 0 rfl) ?_
  refine fb_iconst C dX5_basinBeside_14 ?_
  refine fb_icmp_eq (tgt := 32) C iv6 (by decide) dX5_basinBeside_15 (by decide) (fun c7 => ?_) (fun c7 => ?_)
  · have h := h.1 c7
    exact tw_X5_basinBeside_32 hoo C hret _ _ _ _ w (lv_sub hl [] rfl) h
  · have h := h.2 c7
    refine lv_aload_n C.1.1 C.1.2.1 dX5_basinBeside_18 rfl (lv_at hl 4 rfl) ?_
    refine lv_iload C.1.1 C.1.2.1 dX5_basinBeside_19 (lv_at hl 0 rfl) ?_
    obtain ⟨z8, z9, h⟩ := h
    refine fb_al C w 144 hoo rfl rfl z8 z9 dX5_basinBeside_21 ?_
    have i10 := w.2.2.2 oo v6
    refine fb_if_le (tgt := 32) C i10 dX5_basinBeside_22 (by decide) (fun c11 => ?_) (fun c11 => ?_)
    · have h := h.2 c11
      exact tw_X5_basinBeside_32 hoo C hret _ _ _ _ w (lv_sub hl [] rfl) h
    · have h := h.1 c11
      refine lv_aload_n C.1.1 C.1.2.1 dX5_basinBeside_25 rfl (lv_at hl 4 rfl) ?_
      refine lv_iload C.1.1 C.1.2.1 dX5_basinBeside_26 (lv_at hl 0 rfl) ?_
      obtain ⟨z12, z13, h⟩ := h
      refine fb_al C w 144 hoo rfl rfl z12 z13 dX5_basinBeside_28 ?_
      have i14 := w.2.2.2 oo v6
      refine lv_goto (tgt := 34) C.1.1 C.1.2.1 dX5_basinBeside_29 (by decide) ?_
      exact tw_X5_basinBeside_34 hoo C hret (σ oo v6) _ _ _ _ w (lv_sub hl [] rfl) i14 h
theorem ct_X5_basinBeside (l : Launch) (G : fb_G) (hoo : (fb_cl G)[oo]? = some (fb_arI G 144)) {x1 : Int} {x2 : Int} {σ : fb_St} (ix1 : fb_in x1) (ix2 : fb_in x2) (h : wp_X5_basinBeside oo x1 x2 σ Q) : fb_MI l G yX5_basinBeside cX5_basinBeside 5 (some .int) rm_X5_basinBeside [.ref (fb_ad G 1), .int (fb_I x1), .int (fb_I x2), .ref (fb_ad G oo)] σ Q := by
  refine fb_ofW (own := RX5) (by decide) (Nat.le_of_ble_eq_true rfl) rfl (fun p e s m args below meth c ls C hr hl w => ?_)
  exact tw_X5_basinBeside_0 hoo C (fb_reti C hr) _ _ _ _ _ _ w hl ix1 ix2 h
end S_X5_basinBeside
section S_X5_onlyBasinAround
variable {p : Program} {l : Launch} {e : Env} {s : State} {m : MethodId} {args : Array Value} {below : List Frame} {meth : Method} {c : Code} {Qm : State → Prop} {G : fb_G} {Q : Int → fb_St → Prop} {oo : Nat}
abbrev TT_X5_onlyBasinAround_49 (p : Program) (l : Launch) (e : Env) (s : State) (m : MethodId) (args : Array Value) (below : List Frame) (meth : Method) (c : Code) (Qm : State → Prop) (G : fb_G) (oo : Nat) (r : Int → Int → Int → fb_St → Prop) : Prop := ∀ (x1 x3 x4 : Int) (σ : fb_St) (H : Heap) (locs : List Loc) (ls : Array Slot), fb_Wd G s σ H locs → lv_has ls 6 [(0, .ref (fb_ad G 1)), (1, .int (fb_I x1)), (2, .ref (fb_ad G oo)), (3, .int (fb_I x3)), (4, .int (fb_I x4))] → fb_in x1 → fb_in x3 → fb_in x4 → r x1 x3 x4 σ → W p l e rm_X5_onlyBasinAround s m args below meth c H locs 0 0 Qm (F0 m 49 ls [])
abbrev TT_X5_onlyBasinAround_6 (p : Program) (l : Launch) (e : Env) (s : State) (m : MethodId) (args : Array Value) (below : List Frame) (meth : Method) (c : Code) (Qm : State → Prop) (G : fb_G) (oo : Nat) (r : Int → Int → Int → fb_St → Prop) : Prop := ∀ (x1 x3 x4 : Int) (σ : fb_St) (H : Heap) (locs : List Loc) (ls : Array Slot), fb_Wd G s σ H locs → lv_has ls 6 [(0, .ref (fb_ad G 1)), (1, .int (fb_I x1)), (2, .ref (fb_ad G oo)), (3, .int (fb_I x3)), (4, .int (fb_I x4))] → fb_in x1 → fb_in x3 → fb_in x4 → r x1 x3 x4 σ → W p l e rm_X5_onlyBasinAround s m args below meth c H locs 0 0 Qm (F0 m 6 ls [])
abbrev TT_X5_onlyBasinAround_0 (p : Program) (l : Launch) (e : Env) (s : State) (m : MethodId) (args : Array Value) (below : List Frame) (meth : Method) (c : Code) (Qm : State → Prop) (G : fb_G) (oo : Nat) (r : Int → fb_St → Prop) : Prop := ∀ (x1 : Int) (σ : fb_St) (H : Heap) (locs : List Loc) (ls : Array Slot), fb_Wd G s σ H locs → lv_has ls 6 [(0, .ref (fb_ad G 1)), (1, .int (fb_I x1)), (2, .ref (fb_ad G oo))] → fb_in x1 → r x1 σ → W p l e rm_X5_onlyBasinAround s m args below meth c H locs 0 0 Qm (F0 m 0 ls [])
set_option maxRecDepth 100000 in
set_option maxHeartbeats 4000000 in
theorem tw_X5_onlyBasinAround_49 (hoo : (fb_cl G)[oo]? = some (fb_arI G 144)) (C : fb_C p s m args meth c G RX5 cX5_onlyBasinAround 6) (hret : fb_RI p l e rm_X5_onlyBasinAround s m args below meth c G cX5_onlyBasinAround Qm Q) {r6 : Int → Int → Int → fb_St → Prop} (h6 : TT_X5_onlyBasinAround_6 p l e s m args below meth c Qm G oo r6) : TT_X5_onlyBasinAround_49 p l e s m args below meth c Qm G oo (wj_X5_onlyBasinAround_49 oo r6 Q) := by
  intro x1 x3 x4 σ H locs ls w hl ix1 ix3 ix4 h
  unfold wj_X5_onlyBasinAround_49 at h
  obtain ⟨i6, h⟩ := h
  refine fb_iinc (b := x4 + 1) (k := 4) (lv' := [(4, .int (fb_I (x4 + 1))), (0, .ref (fb_ad G 1)), (1, .int (fb_I x1)), (2, .ref (fb_ad G oo)), (3, .int (fb_I x3))]) C dX5_onlyBasinAround_49 hl rfl rfl (by decide) rfl (fun ls hl => ?_)
  refine lv_goto (tgt := 6) C.1.1 C.1.2.1 dX5_onlyBasinAround_52 (by decide) ?_
  exact h6 x1 x3 (x4 + 1) _ _ _ _ w (lv_sub hl [1, 2, 3, 4, 0] rfl) ix1 ix3 i6 h
set_option maxRecDepth 100000 in
set_option maxHeartbeats 4000000 in
theorem tw_X5_onlyBasinAround_6 (hoo : (fb_cl G)[oo]? = some (fb_arI G 144)) (C : fb_C p s m args meth c G RX5 cX5_onlyBasinAround 6) (hret : fb_RI p l e rm_X5_onlyBasinAround s m args below meth c G cX5_onlyBasinAround Qm Q) {r6 : Int → Int → Int → fb_St → Prop} (h6 : TT_X5_onlyBasinAround_6 p l e s m args below meth c Qm G oo r6) : TT_X5_onlyBasinAround_6 p l e s m args below meth c Qm G oo (wb_X5_onlyBasinAround_6 oo r6 Q) := by
  intro x1 x3 x4 σ H locs ls w hl ix1 ix3 ix4 h
  unfold wb_X5_onlyBasinAround_6 at h
  refine lv_iload C.1.1 C.1.2.1 dX5_onlyBasinAround_6 (lv_at hl 4 rfl) ?_
  refine fb_iconst C dX5_onlyBasinAround_8 ?_
  refine fb_icmp_ge (tgt := 55) C ix4 (by decide) dX5_onlyBasinAround_9 (by decide) (fun c1 => ?_) (fun c1 => ?_)
  · have h := h.2 c1
    refine lv_iload_n C.1.1 C.1.2.1 dX5_onlyBasinAround_55 rfl (lv_at hl 3 rfl) ?_
    exact hret _ _ _ _ _ _ ix3 h w dX5_onlyBasinAround_56
  · have h := h.1 c1
    refine lv_aload_n C.1.1 C.1.2.1 dX5_onlyBasinAround_12 rfl (lv_at hl 0 rfl) ?_
    refine lv_iload_n C.1.1 C.1.2.1 dX5_onlyBasinAround_13 rfl (lv_at hl 1 rfl) ?_
    refine lv_iload C.1.1 C.1.2.1 dX5_onlyBasinAround_14 (lv_at hl 4 rfl) ?_
    refine lv_aload_n C.1.1 C.1.2.1 dX5_onlyBasinAround_16 rfl (lv_at hl 2 rfl) ?_
    refine fb_callVi (As := [.int (fb_I x1), .int (fb_I x4), .ref (fb_ad G oo)]) (rest := []) C w (ct_X5_basinBeside l G hoo ix1 ix4 h) mv_X5_57 (fb_k1 C) rfl ⟨rfl, rfl, Nat.le_of_ble_eq_true rfl, Nat.le_of_ble_eq_true rfl, Nat.zero_le _, Nat.zero_le _⟩ rfl hl.1 rfl (Nat.le_of_ble_eq_true rfl) dX5_onlyBasinAround_17 (fun a2 σ2 H locs h ia2 w => ?_)
    refine lv_istore (lv' := [(5, .int (fb_I a2)), (0, .ref (fb_ad G 1)), (1, .int (fb_I x1)), (2, .ref (fb_ad G oo)), (3, .int (fb_I x3)), (4, .int (fb_I x4))]) C.1.1 C.1.2.1 dX5_onlyBasinAround_20 hl (by decide) rfl (fun ls hl => ?_)
    refine lv_iload C.1.1 C.1.2.1 dX5_onlyBasinAround_22 (lv_at hl 0 rfl) ?_
    refine fb_bipush C dX5_onlyBasinAround_24 (by decide) ?_
    refine fb_icmp_eq (tgt := 49) C ia2 (by decide) dX5_onlyBasinAround_26 (by decide) (fun c3 => ?_) (fun c3 => ?_)
    · have h := h.1 c3
      exact tw_X5_onlyBasinAround_49 hoo C hret h6 x1 x3 x4 _ _ _ _ w (lv_sub hl [1, 2, 3, 4, 5] rfl) ix1 ix3 ix4 h
    · have h := h.2 c3
      refine lv_iload C.1.1 C.1.2.1 dX5_onlyBasinAround_29 (lv_at hl 0 rfl) ?_
      refine lv_iload_n C.1.1 C.1.2.1 dX5_onlyBasinAround_31 rfl (lv_at hl 4 rfl) ?_
      refine fb_icmp_ne (tgt := 38) C ia2 ix3 dX5_onlyBasinAround_32 (by decide) (fun c4 => ?_) (fun c4 => ?_)
      · have h := h.2 c4
        refine lv_iload_n C.1.1 C.1.2.1 dX5_onlyBasinAround_38 rfl (lv_at hl 4 rfl) ?_
        refine fb_bipush C dX5_onlyBasinAround_39 (by decide) ?_
        refine fb_icmp_eq (tgt := 46) C ix3 (by decide) dX5_onlyBasinAround_41 (by decide) (fun c5 => ?_) (fun c5 => ?_)
        · have h := h.1 c5
          refine lv_iload C.1.1 C.1.2.1 dX5_onlyBasinAround_46 (lv_at hl 0 rfl) ?_
          refine lv_istore_n (lv' := [(3, .int (fb_I a2)), (5, .int (fb_I a2)), (0, .ref (fb_ad G 1)), (1, .int (fb_I x1)), (2, .ref (fb_ad G oo)), (4, .int (fb_I x4))]) C.1.1 C.1.2.1 dX5_onlyBasinAround_48 rfl hl (by decide) rfl (fun ls hl => ?_)
          exact tw_X5_onlyBasinAround_49 hoo C hret h6 x1 a2 x4 _ _ _ _ w (lv_sub hl [2, 3, 4, 0, 5] rfl) ix1 ia2 ix4 h
        · have h := h.2 c5
          refine fb_iconst C dX5_onlyBasinAround_44 ?_
          exact hret _ _ _ _ _ _ (by decide) h w dX5_onlyBasinAround_45
      · have h := h.1 c4
        refine lv_goto (tgt := 49) C.1.1 C.1.2.1 dX5_onlyBasinAround_35 (by decide) ?_
        exact tw_X5_onlyBasinAround_49 hoo C hret h6 x1 x3 x4 _ _ _ _ w (lv_sub hl [1, 2, 3, 4, 5] rfl) ix1 ix3 ix4 h
theorem tl_X5_onlyBasinAround_6 (hoo : (fb_cl G)[oo]? = some (fb_arI G 144)) (C : fb_C p s m args meth c G RX5 cX5_onlyBasinAround 6) (hret : fb_RI p l e rm_X5_onlyBasinAround s m args below meth c G cX5_onlyBasinAround Qm Q) : ∀ n : Nat, TT_X5_onlyBasinAround_6 p l e s m args below meth c Qm G oo (wl_X5_onlyBasinAround_6 oo Q n) := by
  intro n
  induction n with
  | zero => intro x1 x3 x4 σ H locs ls w hl ix1 ix3 ix4 h; exact h.elim
  | succ n ih => exact tw_X5_onlyBasinAround_6 hoo C hret ih
set_option maxRecDepth 100000 in
set_option maxHeartbeats 4000000 in
theorem tw_X5_onlyBasinAround_0 (hoo : (fb_cl G)[oo]? = some (fb_arI G 144)) (C : fb_C p s m args meth c G RX5 cX5_onlyBasinAround 6) (hret : fb_RI p l e rm_X5_onlyBasinAround s m args below meth c G cX5_onlyBasinAround Qm Q) : TT_X5_onlyBasinAround_0 p l e s m args below meth c Qm G oo (fun x1 σ => wp_X5_onlyBasinAround oo x1 σ Q) := by
  intro x1 σ H locs ls w hl ix1 h
  unfold wp_X5_onlyBasinAround at h
  refine fb_bipush C dX5_onlyBasinAround_0 (by decide) ?_
  refine lv_istore_n (lv' := [(3, .int (fb_I (-6))), (0, .ref (fb_ad G 1)), (1, .int (fb_I x1)), (2, .ref (fb_ad G oo))]) C.1.1 C.1.2.1 dX5_onlyBasinAround_2 rfl hl (by decide) rfl (fun ls hl => ?_)
  refine fb_iconst C dX5_onlyBasinAround_3 ?_
  refine lv_istore (lv' := [(4, .int (fb_I 0)), (3, .int (fb_I (-6))), (0, .ref (fb_ad G 1)), (1, .int (fb_I x1)), (2, .ref (fb_ad G oo))]) C.1.1 C.1.2.1 dX5_onlyBasinAround_4 hl (by decide) rfl (fun ls hl => ?_)
  obtain ⟨n, h⟩ := h
  exact tl_X5_onlyBasinAround_6 hoo C hret n x1 (-6) 0 _ _ _ _ w (lv_sub hl [2, 3, 4, 1, 0] rfl) ix1 (by decide) (by decide) h
theorem ct_X5_onlyBasinAround (l : Launch) (G : fb_G) (hoo : (fb_cl G)[oo]? = some (fb_arI G 144)) {x1 : Int} {σ : fb_St} (ix1 : fb_in x1) (h : wp_X5_onlyBasinAround oo x1 σ Q) : fb_MI l G yX5_onlyBasinAround cX5_onlyBasinAround 6 (some .int) rm_X5_onlyBasinAround [.ref (fb_ad G 1), .int (fb_I x1), .ref (fb_ad G oo)] σ Q := by
  refine fb_ofW (own := RX5) (by decide) (Nat.le_of_ble_eq_true rfl) rfl (fun p e s m args below meth c ls C hr hl w => ?_)
  exact tw_X5_onlyBasinAround_0 hoo C (fb_reti C hr) _ _ _ _ _ w hl ix1 h
end S_X5_onlyBasinAround
section S_X0_rise
variable {p : Program} {l : Launch} {e : Env} {s : State} {m : MethodId} {args : Array Value} {below : List Frame} {meth : Method} {c : Code} {Qm : State → Prop} {G : fb_G} {Q : Int → fb_St → Prop}
abbrev TT_X0_rise_37 (p : Program) (l : Launch) (e : Env) (s : State) (m : MethodId) (args : Array Value) (below : List Frame) (meth : Method) (c : Code) (Qm : State → Prop) (G : fb_G) (r : Int → fb_St → Prop) : Prop := ∀ (x2 : Int) (σ : fb_St) (H : Heap) (locs : List Loc) (ls : Array Slot), fb_Wd G s σ H locs → lv_has ls 4 [(0, .ref (fb_ad G 8)), (1, .ref (fb_ad G 1)), (2, .int (fb_I x2))] → fb_in x2 → r x2 σ → W p l e rm_X0_rise s m args below meth c H locs 0 0 Qm (F0 m 37 ls [])
abbrev TT_X0_rise_104 (p : Program) (l : Launch) (e : Env) (s : State) (m : MethodId) (args : Array Value) (below : List Frame) (meth : Method) (c : Code) (Qm : State → Prop) (G : fb_G) (r : Int → fb_St → Prop) : Prop := ∀ (x2 : Int) (σ : fb_St) (H : Heap) (locs : List Loc) (ls : Array Slot), fb_Wd G s σ H locs → lv_has ls 4 [(0, .ref (fb_ad G 8)), (1, .ref (fb_ad G 1)), (2, .int (fb_I x2))] → fb_in x2 → r x2 σ → W p l e rm_X0_rise s m args below meth c H locs 0 0 Qm (F0 m 104 ls [])
abbrev TT_X0_rise_45 (p : Program) (l : Launch) (e : Env) (s : State) (m : MethodId) (args : Array Value) (below : List Frame) (meth : Method) (c : Code) (Qm : State → Prop) (G : fb_G) (r : Int → fb_St → Prop) : Prop := ∀ (x2 : Int) (σ : fb_St) (H : Heap) (locs : List Loc) (ls : Array Slot), fb_Wd G s σ H locs → lv_has ls 4 [(0, .ref (fb_ad G 8)), (1, .ref (fb_ad G 1)), (2, .int (fb_I x2))] → fb_in x2 → r x2 σ → W p l e rm_X0_rise s m args below meth c H locs 0 0 Qm (F0 m 45 ls [])
abbrev TT_X0_rise_14 (p : Program) (l : Launch) (e : Env) (s : State) (m : MethodId) (args : Array Value) (below : List Frame) (meth : Method) (c : Code) (Qm : State → Prop) (G : fb_G) (r : Int → fb_St → Prop) : Prop := ∀ (x2 : Int) (σ : fb_St) (H : Heap) (locs : List Loc) (ls : Array Slot), fb_Wd G s σ H locs → lv_has ls 4 [(0, .ref (fb_ad G 8)), (1, .ref (fb_ad G 1)), (2, .int (fb_I x2))] → fb_in x2 → r x2 σ → W p l e rm_X0_rise s m args below meth c H locs 0 0 Qm (F0 m 14 ls [])
abbrev TT_X0_rise_0 (p : Program) (l : Launch) (e : Env) (s : State) (m : MethodId) (args : Array Value) (below : List Frame) (meth : Method) (c : Code) (Qm : State → Prop) (G : fb_G) (r : fb_St → Prop) : Prop := ∀ (σ : fb_St) (H : Heap) (locs : List Loc) (ls : Array Slot), fb_Wd G s σ H locs → lv_has ls 4 [(0, .ref (fb_ad G 8)), (1, .ref (fb_ad G 1))] → r σ → W p l e rm_X0_rise s m args below meth c H locs 0 0 Qm (F0 m 0 ls [])
set_option maxRecDepth 100000 in
set_option maxHeartbeats 4000000 in
theorem tw_X0_rise_37 (C : fb_C p s m args meth c G RX0 cX0_rise 4) (hret : fb_RV p l e rm_X0_rise s m args below meth c G cX0_rise Qm Q) {r14 : Int → fb_St → Prop} (h14 : TT_X0_rise_14 p l e s m args below meth c Qm G r14) : TT_X0_rise_37 p l e s m args below meth c Qm G (wj_X0_rise_37 r14 Q) := by
  intro x2 σ H locs ls w hl ix2 h
  unfold wj_X0_rise_37 at h
  obtain ⟨i26, h⟩ := h
  refine fb_iinc (b := x2 + 1) (k := 2) (lv' := [(2, .int (fb_I (x2 + 1))), (0, .ref (fb_ad G 8)), (1, .ref (fb_ad G 1))]) C dX0_rise_37 hl rfl rfl (by decide) rfl (fun ls hl => ?_)
  refine lv_goto (tgt := 14) C.1.1 C.1.2.1 dX0_rise_40 (by decide) ?_
  exact h14 (x2 + 1) _ _ _ _ w (lv_sub hl [1, 2, 0] rfl) i26 h
set_option maxRecDepth 100000 in
set_option maxHeartbeats 4000000 in
theorem tw_X0_rise_104 (C : fb_C p s m args meth c G RX0 cX0_rise 4) (hret : fb_RV p l e rm_X0_rise s m args below meth c G cX0_rise Qm Q) {r45 : Int → fb_St → Prop} (h45 : TT_X0_rise_45 p l e s m args below meth c Qm G r45) : TT_X0_rise_104 p l e s m args below meth c Qm G (wj_X0_rise_104 r45 Q) := by
  intro x2 σ H locs ls w hl ix2 h
  unfold wj_X0_rise_104 at h
  obtain ⟨i27, h⟩ := h
  refine fb_iinc (b := x2 + 1) (k := 2) (lv' := [(2, .int (fb_I (x2 + 1))), (0, .ref (fb_ad G 8)), (1, .ref (fb_ad G 1))]) C dX0_rise_104 hl rfl rfl (by decide) rfl (fun ls hl => ?_)
  refine lv_goto (tgt := 45) C.1.1 C.1.2.1 dX0_rise_107 (by decide) ?_
  exact h45 (x2 + 1) _ _ _ _ w (lv_sub hl [1, 2, 0] rfl) i27 h
set_option maxRecDepth 100000 in
set_option maxHeartbeats 4000000 in
theorem tw_X0_rise_45 (C : fb_C p s m args meth c G RX0 cX0_rise 4) (hret : fb_RV p l e rm_X0_rise s m args below meth c G cX0_rise Qm Q) {r45 : Int → fb_St → Prop} (h45 : TT_X0_rise_45 p l e s m args below meth c Qm G r45) : TT_X0_rise_45 p l e s m args below meth c Qm G (wb_X0_rise_45 r45 Q) := by
  intro x2 σ H locs ls w hl ix2 h
  unfold wb_X0_rise_45 at h
  refine lv_iload_n C.1.1 C.1.2.1 dX0_rise_45 rfl (lv_at hl 2 rfl) ?_
  refine lv_aload_n C.1.1 C.1.2.1 dX0_rise_46 rfl (lv_at hl 1 rfl) ?_
  refine fb_gi C w 2 (fb_k1 C) rfl rfl fl_X0_38 dX0_rise_47 ?_
  have i10 := w.2.2.2 1 2
  refine fb_icmp_gt (tgt := 110) C ix2 i10 dX0_rise_50 (by decide) (fun c11 => ?_) (fun c11 => ?_)
  · have h := h.1 c11
    exact hret _ _ _ _ _ h w dX0_rise_110
  · have h := h.2 c11
    refine lv_aload_n C.1.1 C.1.2.1 dX0_rise_53 rfl (lv_at hl 0 rfl) ?_
    refine fb_getr (k2 := 13) C w (fb_k8 C) rfl fl_X0_27 dX0_rise_54 ?_
    refine fb_callVi (As := []) (rest := []) C w (ct_X2_take l G h) mv_X0_51 (fb_k13 C) rfl ⟨rfl, rfl, Nat.le_of_ble_eq_true rfl, Nat.le_of_ble_eq_true rfl, Nat.zero_le _, Nat.zero_le _⟩ rfl hl.1 rfl (Nat.le_of_ble_eq_true rfl) dX0_rise_57 (fun a12 σ12 H locs h ia12 w => ?_)
    refine lv_istore_n (lv' := [(3, .int (fb_I a12)), (0, .ref (fb_ad G 8)), (1, .ref (fb_ad G 1)), (2, .int (fb_I x2))]) C.1.1 C.1.2.1 dX0_rise_60 rfl hl (by decide) rfl (fun ls hl => ?_)
    refine lv_iload_n C.1.1 C.1.2.1 dX0_rise_61 rfl (lv_at hl 0 rfl) ?_
    refine fb_iconst C dX0_rise_62 ?_
    refine fb_icmp_ne (tgt := 67) C ia12 (by decide) dX0_rise_63 (by decide) (fun c13 => ?_) (fun c13 => ?_)
    · have h := h.2 c13
      refine lv_aload_n C.1.1 C.1.2.1 dX0_rise_67 rfl (lv_at hl 1 rfl) ?_
      refine fb_getr (k2 := 11) C w (fb_k8 C) rfl fl_X0_18 dX0_rise_68 ?_
      refine lv_iload_n C.1.1 C.1.2.1 dX0_rise_71 rfl (lv_at hl 0 rfl) ?_
      refine lv_iload_n C.1.1 C.1.2.1 dX0_rise_72 rfl (lv_at hl 3 rfl) ?_
      obtain ⟨z14, z15, h⟩ := h
      refine fb_as C w 144 (fb_k11 C) rfl rfl ix2 z14 z15 dX0_rise_73 (fun σ16 H locs eσ16 w => ?_)
      have h := h σ16 eσ16
      refine lv_aload_n C.1.1 C.1.2.1 dX0_rise_74 rfl (lv_at hl 1 rfl) ?_
      refine fb_getr (k2 := 9) C w (fb_k8 C) rfl fl_X0_9 dX0_rise_75 ?_
      refine lv_iload_n C.1.1 C.1.2.1 dX0_rise_78 rfl (lv_at hl 0 rfl) ?_
      refine lv_aload_n C.1.1 C.1.2.1 dX0_rise_79 rfl (lv_at hl 2 rfl) ?_
      refine lv_iload_n C.1.1 C.1.2.1 dX0_rise_80 rfl (lv_at hl 0 rfl) ?_
      refine lv_aload_n C.1.1 C.1.2.1 dX0_rise_81 rfl (lv_at hl 1 rfl) ?_
      refine fb_getr (k2 := 9) C w (fb_k8 C) rfl fl_X0_9 dX0_rise_82 ?_
      refine fb_callVi (As := [.int (fb_I a12), .ref (fb_ad G 9)]) (rest := [.int (fb_I a12), .ref (fb_ad G 9)]) C w (ct_X5_onlyBasinAround l G (fb_k9 C) ia12 h) mv_X0_55 (fb_k1 C) rfl ⟨rfl, rfl, Nat.le_of_ble_eq_true rfl, Nat.le_of_ble_eq_true rfl, Nat.zero_le _, Nat.zero_le _⟩ rfl hl.1 rfl (Nat.le_of_ble_eq_true rfl) dX0_rise_85 (fun a17 σ17 H locs h ia17 w => ?_)
      obtain ⟨z18, z19, h⟩ := h
      refine fb_as C w 144 (fb_k9 C) rfl rfl ia17 z18 z19 dX0_rise_88 (fun σ20 H locs eσ20 w => ?_)
      have h := h σ20 eσ20
      refine lv_aload_n C.1.1 C.1.2.1 dX0_rise_89 rfl (lv_at hl 1 rfl) ?_
      refine fb_getr (k2 := 9) C w (fb_k8 C) rfl fl_X0_9 dX0_rise_90 ?_
      refine lv_iload_n C.1.1 C.1.2.1 dX0_rise_93 rfl (lv_at hl 0 rfl) ?_
      obtain ⟨z21, z22, h⟩ := h
      refine fb_al C w 144 (fb_k9 C) rfl rfl z21 z22 dX0_rise_94 ?_
      have i23 := w.2.2.2 9 a12
      refine fb_if_le (tgt := 104) C i23 dX0_rise_95 (by decide) (fun c24 => ?_) (fun c24 => ?_)
      · have h := h.2 c24
        exact tw_X0_rise_104 C hret h45 x2 _ _ _ _ w (lv_sub hl [1, 2, 3] rfl) ix2 h
      · have h := h.1 c24
        refine lv_aload_n C.1.1 C.1.2.1 dX0_rise_98 rfl (lv_at hl 1 rfl) ?_
        refine lv_aload_n C.1.1 C.1.2.1 dX0_rise_99 rfl (lv_at hl 2 rfl) ?_
        refine lv_iload_n C.1.1 C.1.2.1 dX0_rise_100 rfl (lv_at hl 0 rfl) ?_
        refine fb_callVv (As := [.ref (fb_ad G 1), .int (fb_I a12)]) (rest := []) C w (ct_X0_lineUpAround l G ia12 h) mv_X0_47 (fb_k8 C) rfl ⟨rfl, rfl, Nat.le_of_ble_eq_true rfl, Nat.le_of_ble_eq_true rfl, Nat.zero_le _, Nat.zero_le _⟩ rfl hl.1 rfl (Nat.le_of_ble_eq_true rfl) dX0_rise_101 (fun σ25 H locs h w => ?_)
        exact tw_X0_rise_104 C hret h45 x2 _ _ _ _ w (lv_sub hl [1, 2, 3] rfl) ix2 h
    · have h := h.1 c13
      exact hret _ _ _ _ _ h w dX0_rise_66
theorem tl_X0_rise_45 (C : fb_C p s m args meth c G RX0 cX0_rise 4) (hret : fb_RV p l e rm_X0_rise s m args below meth c G cX0_rise Qm Q) : ∀ n : Nat, TT_X0_rise_45 p l e s m args below meth c Qm G (wl_X0_rise_45 Q n) := by
  intro n
  induction n with
  | zero => intro x2 σ H locs ls w hl ix2 h; exact h.elim
  | succ n ih => exact tw_X0_rise_45 C hret ih
set_option maxRecDepth 100000 in
set_option maxHeartbeats 4000000 in
theorem tw_X0_rise_14 (C : fb_C p s m args meth c G RX0 cX0_rise 4) (hret : fb_RV p l e rm_X0_rise s m args below meth c G cX0_rise Qm Q) {r14 : Int → fb_St → Prop} (h14 : TT_X0_rise_14 p l e s m args below meth c Qm G r14) : TT_X0_rise_14 p l e s m args below meth c Qm G (wb_X0_rise_14 r14 Q) := by
  intro x2 σ H locs ls w hl ix2 h
  unfold wb_X0_rise_14 at h
  refine lv_iload_n C.1.1 C.1.2.1 dX0_rise_14 rfl (lv_at hl 2 rfl) ?_
  refine lv_aload_n C.1.1 C.1.2.1 dX0_rise_15 rfl (lv_at hl 1 rfl) ?_
  refine fb_gi C w 2 (fb_k1 C) rfl rfl fl_X0_38 dX0_rise_16 ?_
  have i3 := w.2.2.2 1 2
  refine fb_icmp_ge (tgt := 43) C ix2 i3 dX0_rise_19 (by decide) (fun c4 => ?_) (fun c4 => ?_)
  · have h := h.2 c4
    refine fb_iconst C dX0_rise_43 ?_
    refine lv_istore_n (lv' := [(2, .int (fb_I 1)), (0, .ref (fb_ad G 8)), (1, .ref (fb_ad G 1))]) C.1.1 C.1.2.1 dX0_rise_44 rfl hl (by decide) rfl (fun ls hl => ?_)
    obtain ⟨n, h⟩ := h
    exact tl_X0_rise_45 C hret n 1 _ _ _ _ w (lv_sub hl [1, 2, 0] rfl) (by decide) h
  · have h := h.1 c4
    refine lv_aload_n C.1.1 C.1.2.1 dX0_rise_22 rfl (lv_at hl 1 rfl) ?_
    refine fb_getr (k2 := 3) C w (fb_k1 C) rfl fl_X0_44 dX0_rise_23 ?_
    refine lv_iload_n C.1.1 C.1.2.1 dX0_rise_26 rfl (lv_at hl 2 rfl) ?_
    obtain ⟨z5, z6, h⟩ := h
    refine fb_al C w 144 (fb_k3 C) rfl rfl z5 z6 dX0_rise_27 ?_
    have i7 := w.2.2.2 3 x2
    refine fb_if_le (tgt := 37) C i7 dX0_rise_28 (by decide) (fun c8 => ?_) (fun c8 => ?_)
    · have h := h.2 c8
      exact tw_X0_rise_37 C hret h14 x2 _ _ _ _ w (lv_sub hl [0, 1, 2] rfl) ix2 h
    · have h := h.1 c8
      refine lv_aload_n C.1.1 C.1.2.1 dX0_rise_31 rfl (lv_at hl 0 rfl) ?_
      refine lv_aload_n C.1.1 C.1.2.1 dX0_rise_32 rfl (lv_at hl 1 rfl) ?_
      refine lv_iload_n C.1.1 C.1.2.1 dX0_rise_33 rfl (lv_at hl 2 rfl) ?_
      refine fb_callVv (As := [.ref (fb_ad G 1), .int (fb_I x2)]) (rest := []) C w (ct_X0_lineUpAround l G ix2 h) mv_X0_47 (fb_k8 C) rfl ⟨rfl, rfl, Nat.le_of_ble_eq_true rfl, Nat.le_of_ble_eq_true rfl, Nat.zero_le _, Nat.zero_le _⟩ rfl hl.1 rfl (Nat.le_of_ble_eq_true rfl) dX0_rise_34 (fun σ9 H locs h w => ?_)
      exact tw_X0_rise_37 C hret h14 x2 _ _ _ _ w (lv_sub hl [0, 1, 2] rfl) ix2 h
theorem tl_X0_rise_14 (C : fb_C p s m args meth c G RX0 cX0_rise 4) (hret : fb_RV p l e rm_X0_rise s m args below meth c G cX0_rise Qm Q) : ∀ n : Nat, TT_X0_rise_14 p l e s m args below meth c Qm G (wl_X0_rise_14 Q n) := by
  intro n
  induction n with
  | zero => intro x2 σ H locs ls w hl ix2 h; exact h.elim
  | succ n ih => exact tw_X0_rise_14 C hret ih
set_option maxRecDepth 100000 in
set_option maxHeartbeats 4000000 in
theorem tw_X0_rise_0 (C : fb_C p s m args meth c G RX0 cX0_rise 4) (hret : fb_RV p l e rm_X0_rise s m args below meth c G cX0_rise Qm Q) : TT_X0_rise_0 p l e s m args below meth c Qm G (fun σ => wp_X0_rise σ Q) := by
  intro σ H locs ls w hl h
  unfold wp_X0_rise at h
  refine lv_aload_n C.1.1 C.1.2.1 dX0_rise_0 rfl (lv_at hl 0 rfl) ?_
  refine fb_getr (k2 := 13) C w (fb_k8 C) rfl fl_X0_27 dX0_rise_1 ?_
  refine fb_callVv (As := []) (rest := []) C w (ct_X2_empty l G h) mv_X0_31 (fb_k13 C) rfl ⟨rfl, rfl, Nat.le_of_ble_eq_true rfl, Nat.le_of_ble_eq_true rfl, Nat.zero_le _, Nat.zero_le _⟩ rfl hl.1 rfl (Nat.le_of_ble_eq_true rfl) dX0_rise_4 (fun σ1 H locs h w => ?_)
  refine lv_aload_n C.1.1 C.1.2.1 dX0_rise_7 rfl (lv_at hl 0 rfl) ?_
  refine lv_aload_n C.1.1 C.1.2.1 dX0_rise_8 rfl (lv_at hl 1 rfl) ?_
  refine fb_callVv (As := [.ref (fb_ad G 1)]) (rest := []) C w (ct_X0_startAtMarks l G h) mv_X0_34 (fb_k8 C) rfl ⟨rfl, rfl, Nat.le_of_ble_eq_true rfl, Nat.le_of_ble_eq_true rfl, Nat.zero_le _, Nat.zero_le _⟩ rfl hl.1 rfl (Nat.le_of_ble_eq_true rfl) dX0_rise_9 (fun σ2 H locs h w => ?_)
  refine fb_iconst C dX0_rise_12 ?_
  refine lv_istore_n (lv' := [(2, .int (fb_I 0)), (0, .ref (fb_ad G 8)), (1, .ref (fb_ad G 1))]) C.1.1 C.1.2.1 dX0_rise_13 rfl hl (by decide) rfl (fun ls hl => ?_)
  obtain ⟨n, h⟩ := h
  exact tl_X0_rise_14 C hret n 0 _ _ _ _ w (lv_sub hl [1, 2, 0] rfl) (by decide) h
theorem ct_X0_rise (l : Launch) (G : fb_G) {σ : fb_St} (h : wp_X0_rise σ Q) : fb_MV l G yX0_rise cX0_rise 4 rm_X0_rise [.ref (fb_ad G 8), .ref (fb_ad G 1)] σ Q := by
  refine fb_ofW (own := RX0) (by decide) (Nat.le_of_ble_eq_true rfl) rfl (fun p e s m args below meth c ls C hr hl w => ?_)
  exact tw_X0_rise_0 C (fb_retv C hr) _ _ _ _ w hl h
end S_X0_rise
section S_X6_standingFlood
variable {p : Program} {l : Launch} {e : Env} {s : State} {m : MethodId} {args : Array Value} {below : List Frame} {meth : Method} {c : Code} {Qm : State → Prop} {G : fb_G} {Q : Int → fb_St → Prop}
abbrev TT_X6_standingFlood_23 (p : Program) (l : Launch) (e : Env) (s : State) (m : MethodId) (args : Array Value) (below : List Frame) (meth : Method) (c : Code) (Qm : State → Prop) (G : fb_G) (r : fb_St → Prop) : Prop := ∀ (σ : fb_St) (H : Heap) (locs : List Loc) (ls : Array Slot), fb_Wd G s σ H locs → lv_has ls 1 [(0, .ref (fb_ad G 0))] → r σ → W p l e rm_X6_standingFlood s m args below meth c H locs 0 0 Qm (F0 m 23 ls [])
abbrev TT_X6_standingFlood_0 (p : Program) (l : Launch) (e : Env) (s : State) (m : MethodId) (args : Array Value) (below : List Frame) (meth : Method) (c : Code) (Qm : State → Prop) (G : fb_G) (r : fb_St → Prop) : Prop := ∀ (σ : fb_St) (H : Heap) (locs : List Loc) (ls : Array Slot), fb_Wd G s σ H locs → lv_has ls 1 [(0, .ref (fb_ad G 0))] → r σ → W p l e rm_X6_standingFlood s m args below meth c H locs 0 0 Qm (F0 m 0 ls [])
set_option maxRecDepth 100000 in
set_option maxHeartbeats 4000000 in
theorem tw_X6_standingFlood_23 (C : fb_C p s m args meth c G RX6 cX6_standingFlood 1) (hret : fb_RR p l e rm_X6_standingFlood s m args below meth c G cX6_standingFlood Qm 8 Q) : TT_X6_standingFlood_23 p l e s m args below meth c Qm G (wj_X6_standingFlood_23 Q) := by
  intro σ H locs ls w hl h
  unfold wj_X6_standingFlood_23 at h
  refine lv_aload_n C.1.1 C.1.2.1 dX6_standingFlood_23 rfl (lv_at hl 0 rfl) ?_
  refine fb_getr (k2 := 8) C w (fb_k0 C) rfl fl_X6_26 dX6_standingFlood_24 ?_
  exact hret _ _ _ _ _ h w dX6_standingFlood_27
set_option maxRecDepth 100000 in
set_option maxHeartbeats 4000000 in
theorem tw_X6_standingFlood_0 (C : fb_C p s m args meth c G RX6 cX6_standingFlood 1) (hret : fb_RR p l e rm_X6_standingFlood s m args below meth c G cX6_standingFlood Qm 8 Q) : TT_X6_standingFlood_0 p l e s m args below meth c Qm G (fun σ => wp_X6_standingFlood σ Q) := by
  intro σ H locs ls w hl h
  unfold wp_X6_standingFlood at h
  refine lv_aload_n C.1.1 C.1.2.1 dX6_standingFlood_0 rfl (lv_at hl 0 rfl) ?_
  refine fb_gi C w 8 (fb_k0 C) rfl rfl fl_X6_54 dX6_standingFlood_1 ?_
  have i1 := w.2.2.2 0 8
  refine fb_if_ne (tgt := 23) C i1 dX6_standingFlood_4 (by decide) (fun c2 => ?_) (fun c2 => ?_)
  · have h := h.2 c2
    exact tw_X6_standingFlood_23 C hret _ _ _ _ w (lv_sub hl [0] rfl) h
  · have h := h.1 c2
    refine lv_aload_n C.1.1 C.1.2.1 dX6_standingFlood_7 rfl (lv_at hl 0 rfl) ?_
    refine fb_getr (k2 := 8) C w (fb_k0 C) rfl fl_X6_26 dX6_standingFlood_8 ?_
    refine lv_aload_n C.1.1 C.1.2.1 dX6_standingFlood_11 rfl (lv_at hl 0 rfl) ?_
    refine fb_getr (k2 := 1) C w (fb_k0 C) rfl fl_X6_10 dX6_standingFlood_12 ?_
    refine fb_callVv (As := [.ref (fb_ad G 1)]) (rest := []) C w (ct_X0_rise l G h) mv_X6_220 (fb_k8 C) rfl ⟨rfl, rfl, Nat.le_of_ble_eq_true rfl, Nat.le_of_ble_eq_true rfl, Nat.zero_le _, Nat.zero_le _⟩ rfl hl.1 rfl (Nat.le_of_ble_eq_true rfl) dX6_standingFlood_15 (fun σ3 H locs h w => ?_)
    refine lv_aload_n C.1.1 C.1.2.1 dX6_standingFlood_18 rfl (lv_at hl 0 rfl) ?_
    refine fb_iconst C dX6_standingFlood_19 ?_
    refine fb_pi C w 8 (fb_k0 C) rfl rfl fl_X6_54 tyX6_ok nmX6 rfl (by decide) (fb_nzb (by decide)) (fb_fzb (by decide)) dX6_standingFlood_20 (fun σ4 H locs eσ4 w => ?_)
    have h := h σ4 eσ4
    exact tw_X6_standingFlood_23 C hret _ _ _ _ w (lv_sub hl [0] rfl) h
theorem ct_X6_standingFlood (l : Launch) (G : fb_G) {σ : fb_St} (h : wp_X6_standingFlood σ Q) : fb_MR l G yX6_standingFlood cX6_standingFlood 1 (some (.object "FloodBasins$Flood")) rm_X6_standingFlood 8 [.ref (fb_ad G 0)] σ Q := by
  refine fb_ofW (own := RX6) (by decide) (Nat.le_of_ble_eq_true rfl) rfl (fun p e s m args below meth c ls C hr hl w => ?_)
  exact tw_X6_standingFlood_0 C (fb_retr C hr (Or.inl ⟨_, rfl⟩)) _ _ _ _ w hl h
end S_X6_standingFlood
section S_X3_noteWayOut
variable {p : Program} {l : Launch} {e : Env} {s : State} {m : MethodId} {args : Array Value} {below : List Frame} {meth : Method} {c : Code} {Qm : State → Prop} {G : fb_G} {Q : Int → fb_St → Prop} {pp : Nat}
abbrev TT_X3_noteWayOut_56 (p : Program) (l : Launch) (e : Env) (s : State) (m : MethodId) (args : Array Value) (below : List Frame) (meth : Method) (c : Code) (Qm : State → Prop) (G : fb_G) (pp : Nat) (r : fb_St → Prop) : Prop := ∀ (σ : fb_St) (H : Heap) (locs : List Loc) (ls : Array Slot), fb_Wd G s σ H locs → lv_has ls 5 [] → r σ → W p l e rm_X3_noteWayOut s m args below meth c H locs 0 0 Qm (F0 m 56 ls [])
abbrev TT_X3_noteWayOut_42 (p : Program) (l : Launch) (e : Env) (s : State) (m : MethodId) (args : Array Value) (below : List Frame) (meth : Method) (c : Code) (Qm : State → Prop) (G : fb_G) (pp : Nat) (r : Int → Int → Int → fb_St → Prop) : Prop := ∀ (x1 x2 x3 : Int) (σ : fb_St) (H : Heap) (locs : List Loc) (ls : Array Slot), fb_Wd G s σ H locs → lv_has ls 5 [(0, .ref (fb_ad G pp)), (1, .int (fb_I x1)), (2, .int (fb_I x2)), (3, .int (fb_I x3))] → fb_in x1 → fb_in x2 → fb_in x3 → r x1 x2 x3 σ → W p l e rm_X3_noteWayOut s m args below meth c H locs 0 0 Qm (F0 m 42 ls [])
abbrev TT_X3_noteWayOut_15 (p : Program) (l : Launch) (e : Env) (s : State) (m : MethodId) (args : Array Value) (below : List Frame) (meth : Method) (c : Code) (Qm : State → Prop) (G : fb_G) (pp : Nat) (r : Int → Int → Int → Int → fb_St → Prop) : Prop := ∀ (x1 x2 x3 s0 : Int) (σ : fb_St) (H : Heap) (locs : List Loc) (ls : Array Slot), fb_Wd G s σ H locs → lv_has ls 5 [(0, .ref (fb_ad G pp)), (1, .int (fb_I x1)), (2, .int (fb_I x2)), (3, .int (fb_I x3))] → fb_in x1 → fb_in x2 → fb_in x3 → fb_in s0 → r x1 x2 x3 s0 σ → W p l e rm_X3_noteWayOut s m args below meth c H locs 0 0 Qm (F0 m 15 ls [.int (fb_I s0)])
abbrev TT_X3_noteWayOut_0 (p : Program) (l : Launch) (e : Env) (s : State) (m : MethodId) (args : Array Value) (below : List Frame) (meth : Method) (c : Code) (Qm : State → Prop) (G : fb_G) (pp : Nat) (r : Int → Int → Int → fb_St → Prop) : Prop := ∀ (x1 x2 x3 : Int) (σ : fb_St) (H : Heap) (locs : List Loc) (ls : Array Slot), fb_Wd G s σ H locs → lv_has ls 5 [(0, .ref (fb_ad G pp)), (1, .int (fb_I x1)), (2, .int (fb_I x2)), (3, .int (fb_I x3))] → fb_in x1 → fb_in x2 → fb_in x3 → r x1 x2 x3 σ → W p l e rm_X3_noteWayOut s m args below meth c H locs 0 0 Qm (F0 m 0 ls [])
set_option maxRecDepth 100000 in
set_option maxHeartbeats 4000000 in
theorem tw_X3_noteWayOut_56 (hpp : pp = 17 ∨ pp = 29) (C : fb_C p s m args meth c G RX3 cX3_noteWayOut 5) (hret : fb_RV p l e rm_X3_noteWayOut s m args below meth c G cX3_noteWayOut Qm Q) : TT_X3_noteWayOut_56 p l e s m args below meth c Qm G pp (wj_X3_noteWayOut_56 pp Q) := by
  intro σ H locs ls w hl h
  unfold wj_X3_noteWayOut_56 at h
  exact hret _ _ _ _ _ h w dX3_noteWayOut_56
set_option maxRecDepth 100000 in
set_option maxHeartbeats 4000000 in
theorem tw_X3_noteWayOut_42 (hpp : pp = 17 ∨ pp = 29) (C : fb_C p s m args meth c G RX3 cX3_noteWayOut 5) (hret : fb_RV p l e rm_X3_noteWayOut s m args below meth c G cX3_noteWayOut Qm Q) : TT_X3_noteWayOut_42 p l e s m args below meth c Qm G pp (wj_X3_noteWayOut_42 pp Q) := by
  intro x1 x2 x3 σ H locs ls w hl ix1 ix2 ix3 h
  unfold wj_X3_noteWayOut_42 at h
  refine lv_aload_n C.1.1 C.1.2.1 dX3_noteWayOut_42 rfl (lv_at hl 0 rfl) ?_
  refine fb_getr (k2 := (pp+3)) C w (fb_pk0 C hpp) rfl fl_X3_22 dX3_noteWayOut_43 ?_
  refine lv_iload_n C.1.1 C.1.2.1 dX3_noteWayOut_46 rfl (lv_at hl 1 rfl) ?_
  refine lv_iload_n C.1.1 C.1.2.1 dX3_noteWayOut_47 rfl (lv_at hl 3 rfl) ?_
  obtain ⟨z14, z15, h⟩ := h
  refine fb_as C w 100 (fb_pk3 C hpp) rfl rfl ix3 z14 z15 dX3_noteWayOut_48 (fun σ16 H locs eσ16 w => ?_)
  have h := h σ16 eσ16
  refine lv_aload_n C.1.1 C.1.2.1 dX3_noteWayOut_49 rfl (lv_at hl 0 rfl) ?_
  refine fb_getr (k2 := (pp+4)) C w (fb_pk0 C hpp) rfl fl_X3_25 dX3_noteWayOut_50 ?_
  refine lv_iload_n C.1.1 C.1.2.1 dX3_noteWayOut_53 rfl (lv_at hl 1 rfl) ?_
  refine lv_iload_n C.1.1 C.1.2.1 dX3_noteWayOut_54 rfl (lv_at hl 2 rfl) ?_
  obtain ⟨z17, z18, h⟩ := h
  refine fb_as C w 100 (fb_pk4 C hpp) rfl rfl ix2 z17 z18 dX3_noteWayOut_55 (fun σ19 H locs eσ19 w => ?_)
  have h := h σ19 eσ19
  exact tw_X3_noteWayOut_56 hpp C hret _ _ _ _ w (lv_sub hl [] rfl) h
set_option maxRecDepth 100000 in
set_option maxHeartbeats 4000000 in
theorem tw_X3_noteWayOut_15 (hpp : pp = 17 ∨ pp = 29) (C : fb_C p s m args meth c G RX3 cX3_noteWayOut 5) (hret : fb_RV p l e rm_X3_noteWayOut s m args below meth c G cX3_noteWayOut Qm Q) : TT_X3_noteWayOut_15 p l e s m args below meth c Qm G pp (wj_X3_noteWayOut_15 pp Q) := by
  intro x1 x2 x3 s0 σ H locs ls w hl ix1 ix2 ix3 is0 h
  unfold wj_X3_noteWayOut_15 at h
  refine lv_istore (lv' := [(4, .int (fb_I s0)), (0, .ref (fb_ad G pp)), (1, .int (fb_I x1)), (2, .int (fb_I x2)), (3, .int (fb_I x3))]) C.1.1 C.1.2.1 dX3_noteWayOut_15 hl (by decide) rfl (fun ls hl => ?_)
  refine lv_iload C.1.1 C.1.2.1 dX3_noteWayOut_17 (lv_at hl 0 rfl) ?_
  refine fb_if_ne (tgt := 42) C is0 dX3_noteWayOut_19 (by decide) (fun c5 => ?_) (fun c5 => ?_)
  · have h := h.2 c5
    exact tw_X3_noteWayOut_42 hpp C hret x1 x2 x3 _ _ _ _ w (lv_sub hl [1, 2, 3, 4] rfl) ix1 ix2 ix3 h
  · have h := h.1 c5
    refine lv_iload_n C.1.1 C.1.2.1 dX3_noteWayOut_22 rfl (lv_at hl 4 rfl) ?_
    refine lv_aload_n C.1.1 C.1.2.1 dX3_noteWayOut_23 rfl (lv_at hl 1 rfl) ?_
    refine fb_getr (k2 := (pp+3)) C w (fb_pk0 C hpp) rfl fl_X3_22 dX3_noteWayOut_24 ?_
    refine lv_iload_n C.1.1 C.1.2.1 dX3_noteWayOut_27 rfl (lv_at hl 2 rfl) ?_
    obtain ⟨z6, z7, h⟩ := h
    refine fb_al C w 100 (fb_pk3 C hpp) rfl rfl z6 z7 dX3_noteWayOut_28 ?_
    have i8 := w.2.2.2 (pp+3) x1
    refine fb_icmp_ne (tgt := 56) C ix3 i8 dX3_noteWayOut_29 (by decide) (fun c9 => ?_) (fun c9 => ?_)
    · have h := h.2 c9
      exact tw_X3_noteWayOut_56 hpp C hret _ _ _ _ w (lv_sub hl [] rfl) h
    · have h := h.1 c9
      refine lv_iload_n C.1.1 C.1.2.1 dX3_noteWayOut_32 rfl (lv_at hl 3 rfl) ?_
      refine lv_aload_n C.1.1 C.1.2.1 dX3_noteWayOut_33 rfl (lv_at hl 1 rfl) ?_
      refine fb_getr (k2 := (pp+4)) C w (fb_pk0 C hpp) rfl fl_X3_25 dX3_noteWayOut_34 ?_
      refine lv_iload_n C.1.1 C.1.2.1 dX3_noteWayOut_37 rfl (lv_at hl 2 rfl) ?_
      obtain ⟨z10, z11, h⟩ := h
      refine fb_al C w 100 (fb_pk4 C hpp) rfl rfl z10 z11 dX3_noteWayOut_38 ?_
      have i12 := w.2.2.2 (pp+4) x1
      refine fb_icmp_ge (tgt := 56) C ix2 i12 dX3_noteWayOut_39 (by decide) (fun c13 => ?_) (fun c13 => ?_)
      · have h := h.2 c13
        exact tw_X3_noteWayOut_56 hpp C hret _ _ _ _ w (lv_sub hl [] rfl) h
      · have h := h.1 c13
        exact tw_X3_noteWayOut_42 hpp C hret x1 x2 x3 _ _ _ _ w (lv_sub hl [1, 2, 3, 4] rfl) ix1 ix2 ix3 h
set_option maxRecDepth 100000 in
set_option maxHeartbeats 4000000 in
theorem tw_X3_noteWayOut_0 (hpp : pp = 17 ∨ pp = 29) (C : fb_C p s m args meth c G RX3 cX3_noteWayOut 5) (hret : fb_RV p l e rm_X3_noteWayOut s m args below meth c G cX3_noteWayOut Qm Q) : TT_X3_noteWayOut_0 p l e s m args below meth c Qm G pp (fun x1 x2 x3 σ => wp_X3_noteWayOut pp x1 x2 x3 σ Q) := by
  intro x1 x2 x3 σ H locs ls w hl ix1 ix2 ix3 h
  unfold wp_X3_noteWayOut at h
  refine lv_iload_n C.1.1 C.1.2.1 dX3_noteWayOut_0 rfl (lv_at hl 3 rfl) ?_
  refine lv_aload_n C.1.1 C.1.2.1 dX3_noteWayOut_1 rfl (lv_at hl 0 rfl) ?_
  refine fb_getr (k2 := (pp+3)) C w (fb_pk0 C hpp) rfl fl_X3_22 dX3_noteWayOut_2 ?_
  refine lv_iload_n C.1.1 C.1.2.1 dX3_noteWayOut_5 rfl (lv_at hl 1 rfl) ?_
  obtain ⟨z1, z2, h⟩ := h
  refine fb_al C w 100 (fb_pk3 C hpp) rfl rfl z1 z2 dX3_noteWayOut_6 ?_
  have i3 := w.2.2.2 (pp+3) x1
  refine fb_icmp_ge (tgt := 14) C ix3 i3 dX3_noteWayOut_7 (by decide) (fun c4 => ?_) (fun c4 => ?_)
  · have h := h.2 c4
    refine fb_iconst C dX3_noteWayOut_14 ?_
    exact tw_X3_noteWayOut_15 hpp C hret x1 x2 x3 0 _ _ _ _ w (lv_sub hl [0, 1, 2, 3] rfl) ix1 ix2 ix3 (by decide) h
  · have h := h.1 c4
    refine fb_iconst C dX3_noteWayOut_10 ?_
    refine lv_goto (tgt := 15) C.1.1 C.1.2.1 dX3_noteWayOut_11 (by decide) ?_
    exact tw_X3_noteWayOut_15 hpp C hret x1 x2 x3 1 _ _ _ _ w (lv_sub hl [0, 1, 2, 3] rfl) ix1 ix2 ix3 (by decide) h
theorem ct_X3_noteWayOut (l : Launch) (G : fb_G) (hpp : pp = 17 ∨ pp = 29) {x1 : Int} {x2 : Int} {x3 : Int} {σ : fb_St} (ix1 : fb_in x1) (ix2 : fb_in x2) (ix3 : fb_in x3) (h : wp_X3_noteWayOut pp x1 x2 x3 σ Q) : fb_MV l G yX3_noteWayOut cX3_noteWayOut 5 rm_X3_noteWayOut [.ref (fb_ad G pp), .int (fb_I x1), .int (fb_I x2), .int (fb_I x3)] σ Q := by
  refine fb_ofW (own := RX3) (by decide) (Nat.le_of_ble_eq_true rfl) rfl (fun p e s m args below meth c ls C hr hl w => ?_)
  exact tw_X3_noteWayOut_0 hpp C (fb_retv C hr) _ _ _ _ _ _ _ w hl ix1 ix2 ix3 h
end S_X3_noteWayOut
section S_X3_notePass
variable {p : Program} {l : Launch} {e : Env} {s : State} {m : MethodId} {args : Array Value} {below : List Frame} {meth : Method} {c : Code} {Qm : State → Prop} {G : fb_G} {Q : Int → fb_St → Prop} {pp : Nat}
abbrev TT_X3_notePass_27 (p : Program) (l : Launch) (e : Env) (s : State) (m : MethodId) (args : Array Value) (below : List Frame) (meth : Method) (c : Code) (Qm : State → Prop) (G : fb_G) (pp : Nat) (r : fb_St → Prop) : Prop := ∀ (σ : fb_St) (H : Heap) (locs : List Loc) (ls : Array Slot), fb_Wd G s σ H locs → lv_has ls 4 [] → r σ → W p l e rm_X3_notePass s m args below meth c H locs 0 0 Qm (F0 m 27 ls [])
abbrev TT_X3_notePass_0 (p : Program) (l : Launch) (e : Env) (s : State) (m : MethodId) (args : Array Value) (below : List Frame) (meth : Method) (c : Code) (Qm : State → Prop) (G : fb_G) (pp : Nat) (r : Int → Int → Int → fb_St → Prop) : Prop := ∀ (x1 x2 x3 : Int) (σ : fb_St) (H : Heap) (locs : List Loc) (ls : Array Slot), fb_Wd G s σ H locs → lv_has ls 4 [(0, .ref (fb_ad G pp)), (1, .int (fb_I x1)), (2, .int (fb_I x2)), (3, .int (fb_I x3))] → fb_in x1 → fb_in x2 → fb_in x3 → r x1 x2 x3 σ → W p l e rm_X3_notePass s m args below meth c H locs 0 0 Qm (F0 m 0 ls [])
set_option maxRecDepth 100000 in
set_option maxHeartbeats 4000000 in
theorem tw_X3_notePass_27 (hpp : pp = 17 ∨ pp = 29) (C : fb_C p s m args meth c G RX3 cX3_notePass 4) (hret : fb_RV p l e rm_X3_notePass s m args below meth c G cX3_notePass Qm Q) : TT_X3_notePass_27 p l e s m args below meth c Qm G pp (wj_X3_notePass_27 pp Q) := by
  intro σ H locs ls w hl h
  unfold wj_X3_notePass_27 at h
  exact hret _ _ _ _ _ h w dX3_notePass_27
set_option maxRecDepth 100000 in
set_option maxHeartbeats 4000000 in
theorem tw_X3_notePass_0 (hpp : pp = 17 ∨ pp = 29) (C : fb_C p s m args meth c G RX3 cX3_notePass 4) (hret : fb_RV p l e rm_X3_notePass s m args below meth c G cX3_notePass Qm Q) : TT_X3_notePass_0 p l e s m args below meth c Qm G pp (fun x1 x2 x3 σ => wp_X3_notePass pp x1 x2 x3 σ Q) := by
  intro x1 x2 x3 σ H locs ls w hl ix1 ix2 ix3 h
  unfold wp_X3_notePass at h
  refine lv_iload_n C.1.1 C.1.2.1 dX3_notePass_0 rfl (lv_at hl 1 rfl) ?_
  refine fb_if_le (tgt := 27) C ix1 dX3_notePass_1 (by decide) (fun c1 => ?_) (fun c1 => ?_)
  · have h := h.2 c1
    exact tw_X3_notePass_27 hpp C hret _ _ _ _ w (lv_sub hl [] rfl) h
  · have h := h.1 c1
    refine lv_iload_n C.1.1 C.1.2.1 dX3_notePass_4 rfl (lv_at hl 2 rfl) ?_
    refine fb_if_le (tgt := 27) C ix2 dX3_notePass_5 (by decide) (fun c2 => ?_) (fun c2 => ?_)
    · have h := h.2 c2
      exact tw_X3_notePass_27 hpp C hret _ _ _ _ w (lv_sub hl [] rfl) h
    · have h := h.1 c2
      refine lv_iload_n C.1.1 C.1.2.1 dX3_notePass_8 rfl (lv_at hl 1 rfl) ?_
      refine lv_iload_n C.1.1 C.1.2.1 dX3_notePass_9 rfl (lv_at hl 2 rfl) ?_
      refine fb_icmp_eq (tgt := 27) C ix1 ix2 dX3_notePass_10 (by decide) (fun c3 => ?_) (fun c3 => ?_)
      · have h := h.1 c3
        exact tw_X3_notePass_27 hpp C hret _ _ _ _ w (lv_sub hl [] rfl) h
      · have h := h.2 c3
        refine lv_aload_n C.1.1 C.1.2.1 dX3_notePass_13 rfl (lv_at hl 0 rfl) ?_
        refine lv_iload_n C.1.1 C.1.2.1 dX3_notePass_14 rfl (lv_at hl 1 rfl) ?_
        refine lv_iload_n C.1.1 C.1.2.1 dX3_notePass_15 rfl (lv_at hl 2 rfl) ?_
        refine lv_iload_n C.1.1 C.1.2.1 dX3_notePass_16 rfl (lv_at hl 3 rfl) ?_
        refine fb_callVv (As := [.int (fb_I x1), .int (fb_I x2), .int (fb_I x3)]) (rest := []) C w (ct_X3_noteWayOut l G hpp ix1 ix2 ix3 h) mv_X3_121 (fb_pk0 C hpp) rfl ⟨rfl, rfl, Nat.le_of_ble_eq_true rfl, Nat.le_of_ble_eq_true rfl, Nat.zero_le _, Nat.zero_le _⟩ rfl hl.1 rfl (Nat.le_of_ble_eq_true rfl) dX3_notePass_17 (fun σ4 H locs h w => ?_)
        refine lv_aload_n C.1.1 C.1.2.1 dX3_notePass_20 rfl (lv_at hl 0 rfl) ?_
        refine lv_iload_n C.1.1 C.1.2.1 dX3_notePass_21 rfl (lv_at hl 2 rfl) ?_
        refine lv_iload_n C.1.1 C.1.2.1 dX3_notePass_22 rfl (lv_at hl 1 rfl) ?_
        refine lv_iload_n C.1.1 C.1.2.1 dX3_notePass_23 rfl (lv_at hl 3 rfl) ?_
        refine fb_callVv (As := [.int (fb_I x2), .int (fb_I x1), .int (fb_I x3)]) (rest := []) C w (ct_X3_noteWayOut l G hpp ix2 ix1 ix3 h) mv_X3_121 (fb_pk0 C hpp) rfl ⟨rfl, rfl, Nat.le_of_ble_eq_true rfl, Nat.le_of_ble_eq_true rfl, Nat.zero_le _, Nat.zero_le _⟩ rfl hl.1 rfl (Nat.le_of_ble_eq_true rfl) dX3_notePass_24 (fun σ5 H locs h w => ?_)
        exact tw_X3_notePass_27 hpp C hret _ _ _ _ w (lv_sub hl [] rfl) h
theorem ct_X3_notePass (l : Launch) (G : fb_G) (hpp : pp = 17 ∨ pp = 29) {x1 : Int} {x2 : Int} {x3 : Int} {σ : fb_St} (ix1 : fb_in x1) (ix2 : fb_in x2) (ix3 : fb_in x3) (h : wp_X3_notePass pp x1 x2 x3 σ Q) : fb_MV l G yX3_notePass cX3_notePass 4 rm_X3_notePass [.ref (fb_ad G pp), .int (fb_I x1), .int (fb_I x2), .int (fb_I x3)] σ Q := by
  refine fb_ofW (own := RX3) (by decide) (Nat.le_of_ble_eq_true rfl) rfl (fun p e s m args below meth c ls C hr hl w => ?_)
  exact tw_X3_notePass_0 hpp C (fb_retv C hr) _ _ _ _ _ _ _ w hl ix1 ix2 ix3 h
end S_X3_notePass
section S_X3_passesOverDam
variable {p : Program} {l : Launch} {e : Env} {s : State} {m : MethodId} {args : Array Value} {below : List Frame} {meth : Method} {c : Code} {Qm : State → Prop} {G : fb_G} {Q : Int → fb_St → Prop} {pp : Nat}
abbrev TT_X3_passesOverDam_72 (p : Program) (l : Launch) (e : Env) (s : State) (m : MethodId) (args : Array Value) (below : List Frame) (meth : Method) (c : Code) (Qm : State → Prop) (G : fb_G) (pp : Nat) (r : Int → Int → Int → fb_St → Prop) : Prop := ∀ (x2 x3 x4 : Int) (σ : fb_St) (H : Heap) (locs : List Loc) (ls : Array Slot), fb_Wd G s σ H locs → lv_has ls 7 [(0, .ref (fb_ad G pp)), (1, .ref (fb_ad G 1)), (2, .int (fb_I x2)), (3, .int (fb_I x3)), (4, .int (fb_I x4))] → fb_in x2 → fb_in x3 → fb_in x4 → r x2 x3 x4 σ → W p l e rm_X3_passesOverDam s m args below meth c H locs 0 0 Qm (F0 m 72 ls [])
abbrev TT_X3_passesOverDam_35 (p : Program) (l : Launch) (e : Env) (s : State) (m : MethodId) (args : Array Value) (below : List Frame) (meth : Method) (c : Code) (Qm : State → Prop) (G : fb_G) (pp : Nat) (r : Int → Int → Int → Int → Int → fb_St → Prop) : Prop := ∀ (x2 x3 x4 x5 x6 : Int) (σ : fb_St) (H : Heap) (locs : List Loc) (ls : Array Slot), fb_Wd G s σ H locs → lv_has ls 7 [(0, .ref (fb_ad G pp)), (1, .ref (fb_ad G 1)), (2, .int (fb_I x2)), (3, .int (fb_I x3)), (4, .int (fb_I x4)), (5, .int (fb_I x5)), (6, .int (fb_I x6))] → fb_in x2 → fb_in x3 → fb_in x4 → fb_in x5 → fb_in x6 → r x2 x3 x4 x5 x6 σ → W p l e rm_X3_passesOverDam s m args below meth c H locs 0 0 Qm (F0 m 35 ls [])
abbrev TT_X3_passesOverDam_10 (p : Program) (l : Launch) (e : Env) (s : State) (m : MethodId) (args : Array Value) (below : List Frame) (meth : Method) (c : Code) (Qm : State → Prop) (G : fb_G) (pp : Nat) (r : Int → Int → Int → fb_St → Prop) : Prop := ∀ (x2 x3 x4 : Int) (σ : fb_St) (H : Heap) (locs : List Loc) (ls : Array Slot), fb_Wd G s σ H locs → lv_has ls 7 [(0, .ref (fb_ad G pp)), (1, .ref (fb_ad G 1)), (2, .int (fb_I x2)), (3, .int (fb_I x3)), (4, .int (fb_I x4))] → fb_in x2 → fb_in x3 → fb_in x4 → r x2 x3 x4 σ → W p l e rm_X3_passesOverDam s m args below meth c H locs 0 0 Qm (F0 m 10 ls [])
abbrev TT_X3_passesOverDam_0 (p : Program) (l : Launch) (e : Env) (s : State) (m : MethodId) (args : Array Value) (below : List Frame) (meth : Method) (c : Code) (Qm : State → Prop) (G : fb_G) (pp : Nat) (r : Int → fb_St → Prop) : Prop := ∀ (x2 : Int) (σ : fb_St) (H : Heap) (locs : List Loc) (ls : Array Slot), fb_Wd G s σ H locs → lv_has ls 7 [(0, .ref (fb_ad G pp)), (1, .ref (fb_ad G 1)), (2, .int (fb_I x2))] → fb_in x2 → r x2 σ → W p l e rm_X3_passesOverDam s m args below meth c H locs 0 0 Qm (F0 m 0 ls [])
set_option maxRecDepth 100000 in
set_option maxHeartbeats 4000000 in
theorem tw_X3_passesOverDam_72 (hpp : pp = 17 ∨ pp = 29) (C : fb_C p s m args meth c G RX3 cX3_passesOverDam 7) (hret : fb_RV p l e rm_X3_passesOverDam s m args below meth c G cX3_passesOverDam Qm Q) {r10 : Int → Int → Int → fb_St → Prop} (h10 : TT_X3_passesOverDam_10 p l e s m args below meth c Qm G pp r10) : TT_X3_passesOverDam_72 p l e s m args below meth c Qm G pp (wj_X3_passesOverDam_72 pp r10 Q) := by
  intro x2 x3 x4 σ H locs ls w hl ix2 ix3 ix4 h
  unfold wj_X3_passesOverDam_72 at h
  obtain ⟨i13, h⟩ := h
  refine fb_iinc (b := x4 + 1) (k := 4) (lv' := [(4, .int (fb_I (x4 + 1))), (0, .ref (fb_ad G pp)), (1, .ref (fb_ad G 1)), (2, .int (fb_I x2)), (3, .int (fb_I x3))]) C dX3_passesOverDam_72 hl rfl rfl (by decide) rfl (fun ls hl => ?_)
  refine lv_goto (tgt := 10) C.1.1 C.1.2.1 dX3_passesOverDam_75 (by decide) ?_
  exact h10 x2 x3 (x4 + 1) _ _ _ _ w (lv_sub hl [1, 2, 3, 4, 0] rfl) ix2 ix3 i13 h
set_option maxRecDepth 100000 in
set_option maxHeartbeats 4000000 in
theorem tw_X3_passesOverDam_35 (hpp : pp = 17 ∨ pp = 29) (C : fb_C p s m args meth c G RX3 cX3_passesOverDam 7) (hret : fb_RV p l e rm_X3_passesOverDam s m args below meth c G cX3_passesOverDam Qm Q) {r10 : Int → Int → Int → fb_St → Prop} (h10 : TT_X3_passesOverDam_10 p l e s m args below meth c Qm G pp r10) {r35 : Int → Int → Int → Int → Int → fb_St → Prop} (h35 : TT_X3_passesOverDam_35 p l e s m args below meth c Qm G pp r35) : TT_X3_passesOverDam_35 p l e s m args below meth c Qm G pp (wb_X3_passesOverDam_35 pp r10 r35 Q) := by
  intro x2 x3 x4 x5 x6 σ H locs ls w hl ix2 ix3 ix4 ix5 ix6 h
  unfold wb_X3_passesOverDam_35 at h
  refine lv_iload C.1.1 C.1.2.1 dX3_passesOverDam_35 (lv_at hl 5 rfl) ?_
  refine fb_bipush C dX3_passesOverDam_37 (by decide) ?_
  refine fb_icmp_eq (tgt := 72) C ix5 (by decide) dX3_passesOverDam_39 (by decide) (fun c8 => ?_) (fun c8 => ?_)
  · have h := h.1 c8
    exact tw_X3_passesOverDam_72 hpp C hret h10 x2 x3 x4 _ _ _ _ w (lv_sub hl [0, 1, 2, 3, 4] rfl) ix2 ix3 ix4 h
  · have h := h.2 c8
    refine lv_iload C.1.1 C.1.2.1 dX3_passesOverDam_42 (lv_at hl 6 rfl) ?_
    refine fb_iconst C dX3_passesOverDam_44 ?_
    refine fb_icmp_ge (tgt := 72) C ix6 (by decide) dX3_passesOverDam_45 (by decide) (fun c9 => ?_) (fun c9 => ?_)
    · have h := h.2 c9
      exact tw_X3_passesOverDam_72 hpp C hret h10 x2 x3 x4 _ _ _ _ w (lv_sub hl [0, 1, 2, 3, 4] rfl) ix2 ix3 ix4 h
    · have h := h.1 c9
      refine lv_aload_n C.1.1 C.1.2.1 dX3_passesOverDam_48 rfl (lv_at hl 0 rfl) ?_
      refine lv_iload C.1.1 C.1.2.1 dX3_passesOverDam_49 (lv_at hl 5 rfl) ?_
      refine lv_aload_n C.1.1 C.1.2.1 dX3_passesOverDam_51 rfl (lv_at hl 1 rfl) ?_
      refine lv_iload_n C.1.1 C.1.2.1 dX3_passesOverDam_52 rfl (lv_at hl 2 rfl) ?_
      refine lv_iload C.1.1 C.1.2.1 dX3_passesOverDam_53 (lv_at hl 6 rfl) ?_
      refine lv_aload_n C.1.1 C.1.2.1 dX3_passesOverDam_55 rfl (lv_at hl 0 rfl) ?_
      refine fb_getr (k2 := (pp+1)) C w (fb_pk0 C hpp) rfl fl_X3_15 dX3_passesOverDam_56 ?_
      refine fb_callVi (As := [.int (fb_I x2), .int (fb_I x6), .ref (fb_ad G (pp+1))]) (rest := [.int (fb_I x5), .ref (fb_ad G pp)]) C w (ct_X5_basinBeside l G (fb_pk1 C hpp) ix2 ix6 h) mv_X3_98 (fb_k1 C) rfl ⟨rfl, rfl, Nat.le_of_ble_eq_true rfl, Nat.le_of_ble_eq_true rfl, Nat.zero_le _, Nat.zero_le _⟩ rfl hl.1 rfl (Nat.le_of_ble_eq_true rfl) dX3_passesOverDam_59 (fun a10 σ10 H locs h ia10 w => ?_)
      refine lv_iload_n C.1.1 C.1.2.1 dX3_passesOverDam_62 rfl (lv_at hl 3 rfl) ?_
      refine fb_callVv (As := [.int (fb_I x5), .int (fb_I a10), .int (fb_I x3)]) (rest := []) C w (ct_X3_notePass l G hpp ix5 ia10 ix3 h) mv_X3_117 (fb_pk0 C hpp) rfl ⟨rfl, rfl, Nat.le_of_ble_eq_true rfl, Nat.le_of_ble_eq_true rfl, Nat.zero_le _, Nat.zero_le _⟩ rfl hl.1 rfl (Nat.le_of_ble_eq_true rfl) dX3_passesOverDam_63 (fun σ11 H locs h w => ?_)
      obtain ⟨i12, h⟩ := h
      refine fb_iinc (b := x6 + 1) (k := 6) (lv' := [(6, .int (fb_I (x6 + 1))), (0, .ref (fb_ad G pp)), (1, .ref (fb_ad G 1)), (2, .int (fb_I x2)), (3, .int (fb_I x3)), (4, .int (fb_I x4)), (5, .int (fb_I x5))]) C dX3_passesOverDam_66 hl rfl rfl (by decide) rfl (fun ls hl => ?_)
      refine lv_goto (tgt := 35) C.1.1 C.1.2.1 dX3_passesOverDam_69 (by decide) ?_
      exact h35 x2 x3 x4 x5 (x6 + 1) _ _ _ _ w (lv_sub hl [1, 2, 3, 4, 5, 6, 0] rfl) ix2 ix3 ix4 ix5 i12 h
theorem tl_X3_passesOverDam_35 (hpp : pp = 17 ∨ pp = 29) (C : fb_C p s m args meth c G RX3 cX3_passesOverDam 7) (hret : fb_RV p l e rm_X3_passesOverDam s m args below meth c G cX3_passesOverDam Qm Q) {r10 : Int → Int → Int → fb_St → Prop} (h10 : TT_X3_passesOverDam_10 p l e s m args below meth c Qm G pp r10) : ∀ n : Nat, TT_X3_passesOverDam_35 p l e s m args below meth c Qm G pp (wl_X3_passesOverDam_35 pp r10 Q n) := by
  intro n
  induction n with
  | zero => intro x2 x3 x4 x5 x6 σ H locs ls w hl ix2 ix3 ix4 ix5 ix6 h; exact h.elim
  | succ n ih => exact tw_X3_passesOverDam_35 hpp C hret h10 ih
set_option maxRecDepth 100000 in
set_option maxHeartbeats 4000000 in
theorem tw_X3_passesOverDam_10 (hpp : pp = 17 ∨ pp = 29) (C : fb_C p s m args meth c G RX3 cX3_passesOverDam 7) (hret : fb_RV p l e rm_X3_passesOverDam s m args below meth c G cX3_passesOverDam Qm Q) {r10 : Int → Int → Int → fb_St → Prop} (h10 : TT_X3_passesOverDam_10 p l e s m args below meth c Qm G pp r10) : TT_X3_passesOverDam_10 p l e s m args below meth c Qm G pp (wb_X3_passesOverDam_10 pp r10 Q) := by
  intro x2 x3 x4 σ H locs ls w hl ix2 ix3 ix4 h
  unfold wb_X3_passesOverDam_10 at h
  refine lv_iload C.1.1 C.1.2.1 dX3_passesOverDam_10 (lv_at hl 4 rfl) ?_
  refine fb_iconst C dX3_passesOverDam_12 ?_
  refine fb_icmp_ge (tgt := 78) C ix4 (by decide) dX3_passesOverDam_13 (by decide) (fun c5 => ?_) (fun c5 => ?_)
  · have h := h.2 c5
    exact hret _ _ _ _ _ h w dX3_passesOverDam_78
  · have h := h.1 c5
    refine lv_aload_n C.1.1 C.1.2.1 dX3_passesOverDam_16 rfl (lv_at hl 1 rfl) ?_
    refine lv_iload_n C.1.1 C.1.2.1 dX3_passesOverDam_17 rfl (lv_at hl 2 rfl) ?_
    refine lv_iload C.1.1 C.1.2.1 dX3_passesOverDam_18 (lv_at hl 4 rfl) ?_
    refine lv_aload_n C.1.1 C.1.2.1 dX3_passesOverDam_20 rfl (lv_at hl 0 rfl) ?_
    refine fb_getr (k2 := (pp+1)) C w (fb_pk0 C hpp) rfl fl_X3_15 dX3_passesOverDam_21 ?_
    refine fb_callVi (As := [.int (fb_I x2), .int (fb_I x4), .ref (fb_ad G (pp+1))]) (rest := []) C w (ct_X5_basinBeside l G (fb_pk1 C hpp) ix2 ix4 h) mv_X3_98 (fb_k1 C) rfl ⟨rfl, rfl, Nat.le_of_ble_eq_true rfl, Nat.le_of_ble_eq_true rfl, Nat.zero_le _, Nat.zero_le _⟩ rfl hl.1 rfl (Nat.le_of_ble_eq_true rfl) dX3_passesOverDam_24 (fun a6 σ6 H locs h ia6 w => ?_)
    refine lv_istore (lv' := [(5, .int (fb_I a6)), (0, .ref (fb_ad G pp)), (1, .ref (fb_ad G 1)), (2, .int (fb_I x2)), (3, .int (fb_I x3)), (4, .int (fb_I x4))]) C.1.1 C.1.2.1 dX3_passesOverDam_27 hl (by decide) rfl (fun ls hl => ?_)
    refine lv_iload C.1.1 C.1.2.1 dX3_passesOverDam_29 (lv_at hl 5 rfl) ?_
    refine fb_iconst C dX3_passesOverDam_31 ?_
    obtain ⟨i7, h⟩ := h
    refine fb_iadd C dX3_passesOverDam_32 ?_
    refine lv_istore (lv' := [(6, .int (fb_I (x4 + 1))), (5, .int (fb_I a6)), (0, .ref (fb_ad G pp)), (1, .ref (fb_ad G 1)), (2, .int (fb_I x2)), (3, .int (fb_I x3)), (4, .int (fb_I x4))]) C.1.1 C.1.2.1 dX3_passesOverDam_33 hl (by decide) rfl (fun ls hl => ?_)
    obtain ⟨n, h⟩ := h
    exact tl_X3_passesOverDam_35 hpp C hret h10 n x2 x3 x4 a6 (x4 + 1) _ _ _ _ w (lv_sub hl [2, 3, 4, 5, 6, 1, 0] rfl) ix2 ix3 ix4 ia6 i7 h
theorem tl_X3_passesOverDam_10 (hpp : pp = 17 ∨ pp = 29) (C : fb_C p s m args meth c G RX3 cX3_passesOverDam 7) (hret : fb_RV p l e rm_X3_passesOverDam s m args below meth c G cX3_passesOverDam Qm Q) : ∀ n : Nat, TT_X3_passesOverDam_10 p l e s m args below meth c Qm G pp (wl_X3_passesOverDam_10 pp Q n) := by
  intro n
  induction n with
  | zero => intro x2 x3 x4 σ H locs ls w hl ix2 ix3 ix4 h; exact h.elim
  | succ n ih => exact tw_X3_passesOverDam_10 hpp C hret ih
set_option maxRecDepth 100000 in
set_option maxHeartbeats 4000000 in
theorem tw_X3_passesOverDam_0 (hpp : pp = 17 ∨ pp = 29) (C : fb_C p s m args meth c G RX3 cX3_passesOverDam 7) (hret : fb_RV p l e rm_X3_passesOverDam s m args below meth c G cX3_passesOverDam Qm Q) : TT_X3_passesOverDam_0 p l e s m args below meth c Qm G pp (fun x2 σ => wp_X3_passesOverDam pp x2 σ Q) := by
  intro x2 σ H locs ls w hl ix2 h
  unfold wp_X3_passesOverDam at h
  refine lv_aload_n C.1.1 C.1.2.1 dX3_passesOverDam_0 rfl (lv_at hl 1 rfl) ?_
  refine fb_getr (k2 := 2) C w (fb_k1 C) rfl fl_X3_85 dX3_passesOverDam_1 ?_
  refine lv_iload_n C.1.1 C.1.2.1 dX3_passesOverDam_4 rfl (lv_at hl 2 rfl) ?_
  obtain ⟨z1, z2, h⟩ := h
  refine fb_al C w 144 (fb_k2 C) rfl rfl z1 z2 dX3_passesOverDam_5 ?_
  have i3 := w.2.2.2 2 x2
  refine fb_top (fun v4 ev4 => ?_)
  have h := h v4 ev4
  have iv4 := fb_ie ev4 i3
  refine lv_istore_n (lv' := [(3, .int (fb_I v4)), (0, .ref (fb_ad G pp)), (1, .ref (fb_ad G 1)), (2, .int (fb_I x2))]) C.1.1 C.1.2.1 dX3_passesOverDam_6 rfl hl (by decide) rfl (fun ls hl => ?_)
  refine fb_iconst C dX3_passesOverDam_7 ?_
  refine lv_istore (lv' := [(4, .int (fb_I 0)), (3, .int (fb_I v4)), (0, .ref (fb_ad G pp)), (1, .ref (fb_ad G 1)), (2, .int (fb_I x2))]) C.1.1 C.1.2.1 dX3_passesOverDam_8 hl (by decide) rfl (fun ls hl => ?_)
  obtain ⟨n, h⟩ := h
  exact tl_X3_passesOverDam_10 hpp C hret n x2 v4 0 _ _ _ _ w (lv_sub hl [2, 3, 4, 1, 0] rfl) ix2 iv4 (by decide) h
theorem ct_X3_passesOverDam (l : Launch) (G : fb_G) (hpp : pp = 17 ∨ pp = 29) {x2 : Int} {σ : fb_St} (ix2 : fb_in x2) (h : wp_X3_passesOverDam pp x2 σ Q) : fb_MV l G yX3_passesOverDam cX3_passesOverDam 7 rm_X3_passesOverDam [.ref (fb_ad G pp), .ref (fb_ad G 1), .int (fb_I x2)] σ Q := by
  refine fb_ofW (own := RX3) (by decide) (Nat.le_of_ble_eq_true rfl) rfl (fun p e s m args below meth c ls C hr hl w => ?_)
  exact tw_X3_passesOverDam_0 hpp C (fb_retv C hr) _ _ _ _ _ w hl ix2 h
end S_X3_passesOverDam
section S_X3_passesBeside
variable {p : Program} {l : Launch} {e : Env} {s : State} {m : MethodId} {args : Array Value} {below : List Frame} {meth : Method} {c : Code} {Qm : State → Prop} {G : fb_G} {Q : Int → fb_St → Prop} {pp : Nat}
abbrev TT_X3_passesBeside_58 (p : Program) (l : Launch) (e : Env) (s : State) (m : MethodId) (args : Array Value) (below : List Frame) (meth : Method) (c : Code) (Qm : State → Prop) (G : fb_G) (pp : Nat) (r : Int → Int → fb_St → Prop) : Prop := ∀ (x2 x3 : Int) (σ : fb_St) (H : Heap) (locs : List Loc) (ls : Array Slot), fb_Wd G s σ H locs → lv_has ls 6 [(0, .ref (fb_ad G pp)), (1, .ref (fb_ad G 1)), (2, .int (fb_I x2)), (3, .int (fb_I x3))] → fb_in x2 → fb_in x3 → r x2 x3 σ → W p l e rm_X3_passesBeside s m args below meth c H locs 0 0 Qm (F0 m 58 ls [])
abbrev TT_X3_passesBeside_2 (p : Program) (l : Launch) (e : Env) (s : State) (m : MethodId) (args : Array Value) (below : List Frame) (meth : Method) (c : Code) (Qm : State → Prop) (G : fb_G) (pp : Nat) (r : Int → Int → fb_St → Prop) : Prop := ∀ (x2 x3 : Int) (σ : fb_St) (H : Heap) (locs : List Loc) (ls : Array Slot), fb_Wd G s σ H locs → lv_has ls 6 [(0, .ref (fb_ad G pp)), (1, .ref (fb_ad G 1)), (2, .int (fb_I x2)), (3, .int (fb_I x3))] → fb_in x2 → fb_in x3 → r x2 x3 σ → W p l e rm_X3_passesBeside s m args below meth c H locs 0 0 Qm (F0 m 2 ls [])
abbrev TT_X3_passesBeside_0 (p : Program) (l : Launch) (e : Env) (s : State) (m : MethodId) (args : Array Value) (below : List Frame) (meth : Method) (c : Code) (Qm : State → Prop) (G : fb_G) (pp : Nat) (r : Int → fb_St → Prop) : Prop := ∀ (x2 : Int) (σ : fb_St) (H : Heap) (locs : List Loc) (ls : Array Slot), fb_Wd G s σ H locs → lv_has ls 6 [(0, .ref (fb_ad G pp)), (1, .ref (fb_ad G 1)), (2, .int (fb_I x2))] → fb_in x2 → r x2 σ → W p l e rm_X3_passesBeside s m args below meth c H locs 0 0 Qm (F0 m 0 ls [])
set_option maxRecDepth 100000 in
set_option maxHeartbeats 4000000 in
theorem tw_X3_passesBeside_58 (hpp : pp = 17 ∨ pp = 29) (C : fb_C p s m args meth c G RX3 cX3_passesBeside 6) (hret : fb_RV p l e rm_X3_passesBeside s m args below meth c G cX3_passesBeside Qm Q) {r2 : Int → Int → fb_St → Prop} (h2 : TT_X3_passesBeside_2 p l e s m args below meth c Qm G pp r2) : TT_X3_passesBeside_58 p l e s m args below meth c Qm G pp (wj_X3_passesBeside_58 pp r2 Q) := by
  intro x2 x3 σ H locs ls w hl ix2 ix3 h
  unfold wj_X3_passesBeside_58 at h
  obtain ⟨i18, h⟩ := h
  refine fb_iinc (b := x3 + 1) (k := 3) (lv' := [(3, .int (fb_I (x3 + 1))), (0, .ref (fb_ad G pp)), (1, .ref (fb_ad G 1)), (2, .int (fb_I x2))]) C dX3_passesBeside_58 hl rfl rfl (by decide) rfl (fun ls hl => ?_)
  refine lv_goto (tgt := 2) C.1.1 C.1.2.1 dX3_passesBeside_61 (by decide) ?_
  exact h2 x2 (x3 + 1) _ _ _ _ w (lv_sub hl [1, 2, 3, 0] rfl) ix2 i18 h
set_option maxRecDepth 100000 in
set_option maxHeartbeats 4000000 in
theorem tw_X3_passesBeside_2 (hpp : pp = 17 ∨ pp = 29) (C : fb_C p s m args meth c G RX3 cX3_passesBeside 6) (hret : fb_RV p l e rm_X3_passesBeside s m args below meth c G cX3_passesBeside Qm Q) {r2 : Int → Int → fb_St → Prop} (h2 : TT_X3_passesBeside_2 p l e s m args below meth c Qm G pp r2) : TT_X3_passesBeside_2 p l e s m args below meth c Qm G pp (wb_X3_passesBeside_2 pp r2 Q) := by
  intro x2 x3 σ H locs ls w hl ix2 ix3 h
  unfold wb_X3_passesBeside_2 at h
  refine lv_iload_n C.1.1 C.1.2.1 dX3_passesBeside_2 rfl (lv_at hl 3 rfl) ?_
  refine fb_iconst C dX3_passesBeside_3 ?_
  refine fb_icmp_ge (tgt := 64) C ix3 (by decide) dX3_passesBeside_4 (by decide) (fun c1 => ?_) (fun c1 => ?_)
  · have h := h.2 c1
    exact hret _ _ _ _ _ h w dX3_passesBeside_64
  · have h := h.1 c1
    refine lv_aload_n C.1.1 C.1.2.1 dX3_passesBeside_7 rfl (lv_at hl 1 rfl) ?_
    refine lv_iload_n C.1.1 C.1.2.1 dX3_passesBeside_8 rfl (lv_at hl 2 rfl) ?_
    refine lv_iload_n C.1.1 C.1.2.1 dX3_passesBeside_9 rfl (lv_at hl 3 rfl) ?_
    refine fb_callVi (As := [.int (fb_I x2), .int (fb_I x3)]) (rest := []) C w (ct_X5_neighbour l G ix2 ix3 h) mv_X3_95 (fb_k1 C) rfl ⟨rfl, rfl, Nat.le_of_ble_eq_true rfl, Nat.le_of_ble_eq_true rfl, Nat.zero_le _, Nat.zero_le _⟩ rfl hl.1 rfl (Nat.le_of_ble_eq_true rfl) dX3_passesBeside_10 (fun a2 σ2 H locs h ia2 w => ?_)
    refine lv_istore (lv' := [(4, .int (fb_I a2)), (0, .ref (fb_ad G pp)), (1, .ref (fb_ad G 1)), (2, .int (fb_I x2)), (3, .int (fb_I x3))]) C.1.1 C.1.2.1 dX3_passesBeside_13 hl (by decide) rfl (fun ls hl => ?_)
    refine lv_iload C.1.1 C.1.2.1 dX3_passesBeside_15 (lv_at hl 0 rfl) ?_
    refine fb_iconst C dX3_passesBeside_17 ?_
    refine fb_icmp_eq (tgt := 58) C ia2 (by decide) dX3_passesBeside_18 (by decide) (fun c3 => ?_) (fun c3 => ?_)
    · have h := h.1 c3
      exact tw_X3_passesBeside_58 hpp C hret h2 x2 x3 _ _ _ _ w (lv_sub hl [1, 2, 3, 4] rfl) ix2 ix3 h
    · have h := h.2 c3
      refine lv_aload_n C.1.1 C.1.2.1 dX3_passesBeside_21 rfl (lv_at hl 2 rfl) ?_
      refine fb_getr (k2 := 2) C w (fb_k1 C) rfl fl_X3_85 dX3_passesBeside_22 ?_
      refine lv_iload_n C.1.1 C.1.2.1 dX3_passesBeside_25 rfl (lv_at hl 3 rfl) ?_
      obtain ⟨z4, z5, h⟩ := h
      refine fb_al C w 144 (fb_k2 C) rfl rfl z4 z5 dX3_passesBeside_26 ?_
      have i6 := w.2.2.2 2 x2
      refine lv_aload_n C.1.1 C.1.2.1 dX3_passesBeside_27 rfl (lv_at hl 2 rfl) ?_
      refine fb_getr (k2 := 2) C w (fb_k1 C) rfl fl_X3_85 dX3_passesBeside_28 ?_
      refine lv_iload C.1.1 C.1.2.1 dX3_passesBeside_31 (lv_at hl 0 rfl) ?_
      obtain ⟨z7, z8, h⟩ := h
      refine fb_al C w 144 (fb_k2 C) rfl rfl z7 z8 dX3_passesBeside_33 ?_
      have i9 := w.2.2.2 2 a2
      refine fb_mmax C i6 i9 ml_X3_75 ⟨Nat.le_of_ble_eq_true rfl, Nat.le_of_ble_eq_true rfl, Nat.zero_le _, Nat.zero_le _⟩ hl.1 dX3_passesBeside_34 ?_
      refine fb_top (fun v10 ev10 => ?_)
      have h := h v10 ev10
      have iv10 := fb_ie ev10 (fb_in_max i6 i9)
      refine lv_istore (lv' := [(5, .int (fb_I v10)), (4, .int (fb_I a2)), (0, .ref (fb_ad G pp)), (1, .ref (fb_ad G 1)), (2, .int (fb_I x2)), (3, .int (fb_I x3))]) C.1.1 C.1.2.1 dX3_passesBeside_37 hl (by decide) rfl (fun ls hl => ?_)
      refine lv_aload_n C.1.1 C.1.2.1 dX3_passesBeside_39 rfl (lv_at hl 2 rfl) ?_
      refine lv_aload_n C.1.1 C.1.2.1 dX3_passesBeside_40 rfl (lv_at hl 2 rfl) ?_
      refine fb_getr (k2 := (pp+1)) C w (fb_pk0 C hpp) rfl fl_X3_15 dX3_passesBeside_41 ?_
      refine lv_iload_n C.1.1 C.1.2.1 dX3_passesBeside_44 rfl (lv_at hl 4 rfl) ?_
      obtain ⟨z11, z12, h⟩ := h
      refine fb_al C w 144 (fb_pk1 C hpp) rfl rfl z11 z12 dX3_passesBeside_45 ?_
      have i13 := w.2.2.2 (pp+1) x2
      refine lv_aload_n C.1.1 C.1.2.1 dX3_passesBeside_46 rfl (lv_at hl 2 rfl) ?_
      refine fb_getr (k2 := (pp+1)) C w (fb_pk0 C hpp) rfl fl_X3_15 dX3_passesBeside_47 ?_
      refine lv_iload C.1.1 C.1.2.1 dX3_passesBeside_50 (lv_at hl 1 rfl) ?_
      obtain ⟨z14, z15, h⟩ := h
      refine fb_al C w 144 (fb_pk1 C hpp) rfl rfl z14 z15 dX3_passesBeside_52 ?_
      have i16 := w.2.2.2 (pp+1) a2
      refine lv_iload C.1.1 C.1.2.1 dX3_passesBeside_53 (lv_at hl 0 rfl) ?_
      refine fb_callVv (As := [.int (fb_I (σ2 (pp+1) x2)), .int (fb_I (σ2 (pp+1) a2)), .int (fb_I v10)]) (rest := []) C w (ct_X3_notePass l G hpp i13 i16 iv10 h) mv_X3_117 (fb_pk0 C hpp) rfl ⟨rfl, rfl, Nat.le_of_ble_eq_true rfl, Nat.le_of_ble_eq_true rfl, Nat.zero_le _, Nat.zero_le _⟩ rfl hl.1 rfl (Nat.le_of_ble_eq_true rfl) dX3_passesBeside_55 (fun σ17 H locs h w => ?_)
      exact tw_X3_passesBeside_58 hpp C hret h2 x2 x3 _ _ _ _ w (lv_sub hl [2, 3, 4, 5] rfl) ix2 ix3 h
theorem tl_X3_passesBeside_2 (hpp : pp = 17 ∨ pp = 29) (C : fb_C p s m args meth c G RX3 cX3_passesBeside 6) (hret : fb_RV p l e rm_X3_passesBeside s m args below meth c G cX3_passesBeside Qm Q) : ∀ n : Nat, TT_X3_passesBeside_2 p l e s m args below meth c Qm G pp (wl_X3_passesBeside_2 pp Q n) := by
  intro n
  induction n with
  | zero => intro x2 x3 σ H locs ls w hl ix2 ix3 h; exact h.elim
  | succ n ih => exact tw_X3_passesBeside_2 hpp C hret ih
set_option maxRecDepth 100000 in
set_option maxHeartbeats 4000000 in
theorem tw_X3_passesBeside_0 (hpp : pp = 17 ∨ pp = 29) (C : fb_C p s m args meth c G RX3 cX3_passesBeside 6) (hret : fb_RV p l e rm_X3_passesBeside s m args below meth c G cX3_passesBeside Qm Q) : TT_X3_passesBeside_0 p l e s m args below meth c Qm G pp (fun x2 σ => wp_X3_passesBeside pp x2 σ Q) := by
  intro x2 σ H locs ls w hl ix2 h
  unfold wp_X3_passesBeside at h
  refine fb_iconst C dX3_passesBeside_0 ?_
  refine lv_istore_n (lv' := [(3, .int (fb_I 0)), (0, .ref (fb_ad G pp)), (1, .ref (fb_ad G 1)), (2, .int (fb_I x2))]) C.1.1 C.1.2.1 dX3_passesBeside_1 rfl hl (by decide) rfl (fun ls hl => ?_)
  obtain ⟨n, h⟩ := h
  exact tl_X3_passesBeside_2 hpp C hret n x2 0 _ _ _ _ w (lv_sub hl [1, 2, 3, 0] rfl) ix2 (by decide) h
theorem ct_X3_passesBeside (l : Launch) (G : fb_G) (hpp : pp = 17 ∨ pp = 29) {x2 : Int} {σ : fb_St} (ix2 : fb_in x2) (h : wp_X3_passesBeside pp x2 σ Q) : fb_MV l G yX3_passesBeside cX3_passesBeside 6 rm_X3_passesBeside [.ref (fb_ad G pp), .ref (fb_ad G 1), .int (fb_I x2)] σ Q := by
  refine fb_ofW (own := RX3) (by decide) (Nat.le_of_ble_eq_true rfl) rfl (fun p e s m args below meth c ls C hr hl w => ?_)
  exact tw_X3_passesBeside_0 hpp C (fb_retv C hr) _ _ _ _ _ w hl ix2 h
end S_X3_passesBeside
section S_X3_fillWaters
variable {p : Program} {l : Launch} {e : Env} {s : State} {m : MethodId} {args : Array Value} {below : List Frame} {meth : Method} {c : Code} {Qm : State → Prop} {G : fb_G} {Q : Int → fb_St → Prop} {pp : Nat}
abbrev TT_X3_fillWaters_58 (p : Program) (l : Launch) (e : Env) (s : State) (m : MethodId) (args : Array Value) (below : List Frame) (meth : Method) (c : Code) (Qm : State → Prop) (G : fb_G) (pp : Nat) (r : Int → fb_St → Prop) : Prop := ∀ (x2 : Int) (σ : fb_St) (H : Heap) (locs : List Loc) (ls : Array Slot), fb_Wd G s σ H locs → lv_has ls 4 [(0, .ref (fb_ad G pp)), (1, .ref (fb_ad G 1)), (2, .int (fb_I x2))] → fb_in x2 → r x2 σ → W p l e rm_X3_fillWaters s m args below meth c H locs 0 0 Qm (F0 m 58 ls [])
abbrev TT_X3_fillWaters_2 (p : Program) (l : Launch) (e : Env) (s : State) (m : MethodId) (args : Array Value) (below : List Frame) (meth : Method) (c : Code) (Qm : State → Prop) (G : fb_G) (pp : Nat) (r : Int → fb_St → Prop) : Prop := ∀ (x2 : Int) (σ : fb_St) (H : Heap) (locs : List Loc) (ls : Array Slot), fb_Wd G s σ H locs → lv_has ls 4 [(0, .ref (fb_ad G pp)), (1, .ref (fb_ad G 1)), (2, .int (fb_I x2))] → fb_in x2 → r x2 σ → W p l e rm_X3_fillWaters s m args below meth c H locs 0 0 Qm (F0 m 2 ls [])
abbrev TT_X3_fillWaters_0 (p : Program) (l : Launch) (e : Env) (s : State) (m : MethodId) (args : Array Value) (below : List Frame) (meth : Method) (c : Code) (Qm : State → Prop) (G : fb_G) (pp : Nat) (r : fb_St → Prop) : Prop := ∀ (σ : fb_St) (H : Heap) (locs : List Loc) (ls : Array Slot), fb_Wd G s σ H locs → lv_has ls 4 [(0, .ref (fb_ad G pp)), (1, .ref (fb_ad G 1))] → r σ → W p l e rm_X3_fillWaters s m args below meth c H locs 0 0 Qm (F0 m 0 ls [])
set_option maxRecDepth 100000 in
set_option maxHeartbeats 4000000 in
theorem tw_X3_fillWaters_58 (hpp : pp = 17 ∨ pp = 29) (C : fb_C p s m args meth c G RX3 cX3_fillWaters 4) (hret : fb_RV p l e rm_X3_fillWaters s m args below meth c G cX3_fillWaters Qm Q) {r2 : Int → fb_St → Prop} (h2 : TT_X3_fillWaters_2 p l e s m args below meth c Qm G pp r2) : TT_X3_fillWaters_58 p l e s m args below meth c Qm G pp (wj_X3_fillWaters_58 pp r2 Q) := by
  intro x2 σ H locs ls w hl ix2 h
  unfold wj_X3_fillWaters_58 at h
  obtain ⟨i26, h⟩ := h
  refine fb_iinc (b := x2 + 1) (k := 2) (lv' := [(2, .int (fb_I (x2 + 1))), (0, .ref (fb_ad G pp)), (1, .ref (fb_ad G 1))]) C dX3_fillWaters_58 hl rfl rfl (by decide) rfl (fun ls hl => ?_)
  refine lv_goto (tgt := 2) C.1.1 C.1.2.1 dX3_fillWaters_61 (by decide) ?_
  exact h2 (x2 + 1) _ _ _ _ w (lv_sub hl [1, 2, 0] rfl) i26 h
set_option maxRecDepth 100000 in
set_option maxHeartbeats 4000000 in
theorem tw_X3_fillWaters_2 (hpp : pp = 17 ∨ pp = 29) (C : fb_C p s m args meth c G RX3 cX3_fillWaters 4) (hret : fb_RV p l e rm_X3_fillWaters s m args below meth c G cX3_fillWaters Qm Q) {r2 : Int → fb_St → Prop} (h2 : TT_X3_fillWaters_2 p l e s m args below meth c Qm G pp r2) : TT_X3_fillWaters_2 p l e s m args below meth c Qm G pp (wb_X3_fillWaters_2 pp r2 Q) := by
  intro x2 σ H locs ls w hl ix2 h
  unfold wb_X3_fillWaters_2 at h
  refine lv_iload_n C.1.1 C.1.2.1 dX3_fillWaters_2 rfl (lv_at hl 2 rfl) ?_
  refine lv_aload_n C.1.1 C.1.2.1 dX3_fillWaters_3 rfl (lv_at hl 1 rfl) ?_
  refine fb_gi C w 2 (fb_k1 C) rfl rfl fl_X3_80 dX3_fillWaters_4 ?_
  have i1 := w.2.2.2 1 2
  refine fb_icmp_ge (tgt := 64) C ix2 i1 dX3_fillWaters_7 (by decide) (fun c2 => ?_) (fun c2 => ?_)
  · have h := h.2 c2
    exact hret _ _ _ _ _ h w dX3_fillWaters_64
  · have h := h.1 c2
    refine lv_aload_n C.1.1 C.1.2.1 dX3_fillWaters_10 rfl (lv_at hl 0 rfl) ?_
    refine fb_getr (k2 := (pp+1)) C w (fb_pk0 C hpp) rfl fl_X3_15 dX3_fillWaters_11 ?_
    refine lv_iload_n C.1.1 C.1.2.1 dX3_fillWaters_14 rfl (lv_at hl 2 rfl) ?_
    obtain ⟨z3, z4, h⟩ := h
    refine fb_al C w 144 (fb_pk1 C hpp) rfl rfl z3 z4 dX3_fillWaters_15 ?_
    have i5 := w.2.2.2 (pp+1) x2
    refine fb_top (fun v6 ev6 => ?_)
    have h := h v6 ev6
    have iv6 := fb_ie ev6 i5
    refine lv_istore_n (lv' := [(3, .int (fb_I v6)), (0, .ref (fb_ad G pp)), (1, .ref (fb_ad G 1)), (2, .int (fb_I x2))]) C.1.1 C.1.2.1 dX3_fillWaters_16 rfl hl (by decide) rfl (fun ls hl => ?_)
    refine lv_iload_n C.1.1 C.1.2.1 dX3_fillWaters_17 rfl (lv_at hl 0 rfl) ?_
    refine fb_if_le (tgt := 58) C iv6 dX3_fillWaters_18 (by decide) (fun c7 => ?_) (fun c7 => ?_)
    · have h := h.2 c7
      exact tw_X3_fillWaters_58 hpp C hret h2 x2 _ _ _ _ w (lv_sub hl [1, 2, 3] rfl) ix2 h
    · have h := h.1 c7
      refine lv_aload_n C.1.1 C.1.2.1 dX3_fillWaters_21 rfl (lv_at hl 1 rfl) ?_
      refine fb_getr (k2 := (pp+3)) C w (fb_pk0 C hpp) rfl fl_X3_22 dX3_fillWaters_22 ?_
      refine lv_iload_n C.1.1 C.1.2.1 dX3_fillWaters_25 rfl (lv_at hl 0 rfl) ?_
      obtain ⟨z8, z9, h⟩ := h
      refine fb_al C w 100 (fb_pk3 C hpp) rfl rfl z8 z9 dX3_fillWaters_26 ?_
      have i10 := w.2.2.2 (pp+3) v6
      refine fb_bipush C dX3_fillWaters_27 (by decide) ?_
      refine fb_icmp_eq (tgt := 58) C i10 (by decide) dX3_fillWaters_29 (by decide) (fun c11 => ?_) (fun c11 => ?_)
      · have h := h.1 c11
        exact tw_X3_fillWaters_58 hpp C hret h2 x2 _ _ _ _ w (lv_sub hl [1, 2, 3] rfl) ix2 h
      · have h := h.2 c11
        refine lv_aload_n C.1.1 C.1.2.1 dX3_fillWaters_32 rfl (lv_at hl 1 rfl) ?_
        refine fb_getr (k2 := (pp+6)) C w (fb_pk0 C hpp) rfl fl_X3_31 dX3_fillWaters_33 ?_
        refine lv_iload_n C.1.1 C.1.2.1 dX3_fillWaters_36 rfl (lv_at hl 0 rfl) ?_
        refine lv_dup2_11 C.1.1 C.1.2.1 dX3_fillWaters_37 rfl rfl ?_
        obtain ⟨z12, z13, h⟩ := h
        refine fb_al C w 100 (fb_pk6 C hpp) rfl rfl z12 z13 dX3_fillWaters_38 ?_
        have i14 := w.2.2.2 (pp+6) v6
        refine lv_aload_n C.1.1 C.1.2.1 dX3_fillWaters_39 rfl (lv_at hl 1 rfl) ?_
        refine fb_getr (k2 := (pp+3)) C w (fb_pk0 C hpp) rfl fl_X3_22 dX3_fillWaters_40 ?_
        refine lv_iload_n C.1.1 C.1.2.1 dX3_fillWaters_43 rfl (lv_at hl 0 rfl) ?_
        obtain ⟨z15, z16, h⟩ := h
        refine fb_al C w 100 (fb_pk3 C hpp) rfl rfl z15 z16 dX3_fillWaters_44 ?_
        have i17 := w.2.2.2 (pp+3) v6
        refine lv_aload_n C.1.1 C.1.2.1 dX3_fillWaters_45 rfl (lv_at hl 2 rfl) ?_
        refine fb_getr (k2 := 2) C w (fb_k1 C) rfl fl_X3_85 dX3_fillWaters_46 ?_
        refine lv_iload_n C.1.1 C.1.2.1 dX3_fillWaters_49 rfl (lv_at hl 3 rfl) ?_
        obtain ⟨z18, z19, h⟩ := h
        refine fb_al C w 144 (fb_k2 C) rfl rfl z18 z19 dX3_fillWaters_50 ?_
        have i20 := w.2.2.2 2 x2
        obtain ⟨i21, h⟩ := h
        refine fb_isub C dX3_fillWaters_51 ?_
        refine fb_iconst C dX3_fillWaters_52 ?_
        refine fb_mmax C i21 (by decide) ml_X3_75 ⟨Nat.le_of_ble_eq_true rfl, Nat.le_of_ble_eq_true rfl, Nat.zero_le _, Nat.zero_le _⟩ hl.1 dX3_fillWaters_53 ?_
        obtain ⟨i22, h⟩ := h
        refine fb_iadd C dX3_fillWaters_56 ?_
        obtain ⟨z23, z24, h⟩ := h
        refine fb_as C w 100 (fb_pk6 C hpp) rfl rfl i22 z23 z24 dX3_fillWaters_57 (fun σ25 H locs eσ25 w => ?_)
        have h := h σ25 eσ25
        exact tw_X3_fillWaters_58 hpp C hret h2 x2 _ _ _ _ w (lv_sub hl [1, 2, 3] rfl) ix2 h
theorem tl_X3_fillWaters_2 (hpp : pp = 17 ∨ pp = 29) (C : fb_C p s m args meth c G RX3 cX3_fillWaters 4) (hret : fb_RV p l e rm_X3_fillWaters s m args below meth c G cX3_fillWaters Qm Q) : ∀ n : Nat, TT_X3_fillWaters_2 p l e s m args below meth c Qm G pp (wl_X3_fillWaters_2 pp Q n) := by
  intro n
  induction n with
  | zero => intro x2 σ H locs ls w hl ix2 h; exact h.elim
  | succ n ih => exact tw_X3_fillWaters_2 hpp C hret ih
set_option maxRecDepth 100000 in
set_option maxHeartbeats 4000000 in
theorem tw_X3_fillWaters_0 (hpp : pp = 17 ∨ pp = 29) (C : fb_C p s m args meth c G RX3 cX3_fillWaters 4) (hret : fb_RV p l e rm_X3_fillWaters s m args below meth c G cX3_fillWaters Qm Q) : TT_X3_fillWaters_0 p l e s m args below meth c Qm G pp (fun σ => wp_X3_fillWaters pp σ Q) := by
  intro σ H locs ls w hl h
  unfold wp_X3_fillWaters at h
  refine fb_iconst C dX3_fillWaters_0 ?_
  refine lv_istore_n (lv' := [(2, .int (fb_I 0)), (0, .ref (fb_ad G pp)), (1, .ref (fb_ad G 1))]) C.1.1 C.1.2.1 dX3_fillWaters_1 rfl hl (by decide) rfl (fun ls hl => ?_)
  obtain ⟨n, h⟩ := h
  exact tl_X3_fillWaters_2 hpp C hret n 0 _ _ _ _ w (lv_sub hl [1, 2, 0] rfl) (by decide) h
theorem ct_X3_fillWaters (l : Launch) (G : fb_G) (hpp : pp = 17 ∨ pp = 29) {σ : fb_St} (h : wp_X3_fillWaters pp σ Q) : fb_MV l G yX3_fillWaters cX3_fillWaters 4 rm_X3_fillWaters [.ref (fb_ad G pp), .ref (fb_ad G 1)] σ Q := by
  refine fb_ofW (own := RX3) (by decide) (Nat.le_of_ble_eq_true rfl) rfl (fun p e s m args below meth c ls C hr hl w => ?_)
  exact tw_X3_fillWaters_0 hpp C (fb_retv C hr) _ _ _ _ w hl h
end S_X3_fillWaters
section S_X3_measure
variable {p : Program} {l : Launch} {e : Env} {s : State} {m : MethodId} {args : Array Value} {below : List Frame} {meth : Method} {c : Code} {Qm : State → Prop} {G : fb_G} {Q : Int → fb_St → Prop} {pp : Nat}
abbrev TT_X3_measure_114 (p : Program) (l : Launch) (e : Env) (s : State) (m : MethodId) (args : Array Value) (below : List Frame) (meth : Method) (c : Code) (Qm : State → Prop) (G : fb_G) (pp : Nat) (r : Int → fb_St → Prop) : Prop := ∀ (x2 : Int) (σ : fb_St) (H : Heap) (locs : List Loc) (ls : Array Slot), fb_Wd G s σ H locs → lv_has ls 4 [(0, .ref (fb_ad G pp)), (1, .ref (fb_ad G 1)), (2, .int (fb_I x2))] → fb_in x2 → r x2 σ → W p l e rm_X3_measure s m args below meth c H locs 0 0 Qm (F0 m 114 ls [])
abbrev TT_X3_measure_45 (p : Program) (l : Launch) (e : Env) (s : State) (m : MethodId) (args : Array Value) (below : List Frame) (meth : Method) (c : Code) (Qm : State → Prop) (G : fb_G) (pp : Nat) (r : Int → fb_St → Prop) : Prop := ∀ (x2 : Int) (σ : fb_St) (H : Heap) (locs : List Loc) (ls : Array Slot), fb_Wd G s σ H locs → lv_has ls 4 [(0, .ref (fb_ad G pp)), (1, .ref (fb_ad G 1)), (2, .int (fb_I x2))] → fb_in x2 → r x2 σ → W p l e rm_X3_measure s m args below meth c H locs 0 0 Qm (F0 m 45 ls [])
abbrev TT_X3_measure_0 (p : Program) (l : Launch) (e : Env) (s : State) (m : MethodId) (args : Array Value) (below : List Frame) (meth : Method) (c : Code) (Qm : State → Prop) (G : fb_G) (pp : Nat) (r : fb_St → Prop) : Prop := ∀ (σ : fb_St) (H : Heap) (locs : List Loc) (ls : Array Slot), fb_Wd G s σ H locs → lv_has ls 4 [(0, .ref (fb_ad G pp)), (1, .ref (fb_ad G 1))] → r σ → W p l e rm_X3_measure s m args below meth c H locs 0 0 Qm (F0 m 0 ls [])
set_option maxRecDepth 100000 in
set_option maxHeartbeats 4000000 in
theorem tw_X3_measure_114 (hpp : pp = 17 ∨ pp = 29) (C : fb_C p s m args meth c G RX3 cX3_measure 4) (hret : fb_RV p l e rm_X3_measure s m args below meth c G cX3_measure Qm Q) {r45 : Int → fb_St → Prop} (h45 : TT_X3_measure_45 p l e s m args below meth c Qm G pp r45) : TT_X3_measure_114 p l e s m args below meth c Qm G pp (wj_X3_measure_114 pp r45 Q) := by
  intro x2 σ H locs ls w hl ix2 h
  unfold wj_X3_measure_114 at h
  obtain ⟨i33, h⟩ := h
  refine fb_iinc (b := x2 + 1) (k := 2) (lv' := [(2, .int (fb_I (x2 + 1))), (0, .ref (fb_ad G pp)), (1, .ref (fb_ad G 1))]) C dX3_measure_114 hl rfl rfl (by decide) rfl (fun ls hl => ?_)
  refine lv_goto (tgt := 45) C.1.1 C.1.2.1 dX3_measure_117 (by decide) ?_
  exact h45 (x2 + 1) _ _ _ _ w (lv_sub hl [1, 2, 0] rfl) i33 h
set_option maxRecDepth 100000 in
set_option maxHeartbeats 4000000 in
theorem tw_X3_measure_45 (hpp : pp = 17 ∨ pp = 29) (C : fb_C p s m args meth c G RX3 cX3_measure 4) (hret : fb_RV p l e rm_X3_measure s m args below meth c G cX3_measure Qm Q) {r45 : Int → fb_St → Prop} (h45 : TT_X3_measure_45 p l e s m args below meth c Qm G pp r45) : TT_X3_measure_45 p l e s m args below meth c Qm G pp (wb_X3_measure_45 pp r45 Q) := by
  intro x2 σ H locs ls w hl ix2 h
  unfold wb_X3_measure_45 at h
  refine lv_iload_n C.1.1 C.1.2.1 dX3_measure_45 rfl (lv_at hl 2 rfl) ?_
  refine lv_aload_n C.1.1 C.1.2.1 dX3_measure_46 rfl (lv_at hl 1 rfl) ?_
  refine fb_gi C w 2 (fb_k1 C) rfl rfl fl_X3_80 dX3_measure_47 ?_
  have i6 := w.2.2.2 1 2
  refine fb_icmp_ge (tgt := 120) C ix2 i6 dX3_measure_50 (by decide) (fun c7 => ?_) (fun c7 => ?_)
  · have h := h.2 c7
    refine lv_aload_n C.1.1 C.1.2.1 dX3_measure_120 rfl (lv_at hl 0 rfl) ?_
    refine lv_aload_n C.1.1 C.1.2.1 dX3_measure_121 rfl (lv_at hl 1 rfl) ?_
    refine fb_callVv (As := [.ref (fb_ad G 1)]) (rest := []) C w (ct_X3_fillWaters l G hpp h) mv_X3_114 (fb_pk0 C hpp) rfl ⟨rfl, rfl, Nat.le_of_ble_eq_true rfl, Nat.le_of_ble_eq_true rfl, Nat.zero_le _, Nat.zero_le _⟩ rfl hl.1 rfl (Nat.le_of_ble_eq_true rfl) dX3_measure_122 (fun σ8 H locs h w => ?_)
    exact hret _ _ _ _ _ h w dX3_measure_125
  · have h := h.1 c7
    refine lv_aload_n C.1.1 C.1.2.1 dX3_measure_53 rfl (lv_at hl 0 rfl) ?_
    refine fb_getr (k2 := (pp+1)) C w (fb_pk0 C hpp) rfl fl_X3_15 dX3_measure_54 ?_
    refine lv_iload_n C.1.1 C.1.2.1 dX3_measure_57 rfl (lv_at hl 2 rfl) ?_
    obtain ⟨z9, z10, h⟩ := h
    refine fb_al C w 144 (fb_pk1 C hpp) rfl rfl z9 z10 dX3_measure_58 ?_
    have i11 := w.2.2.2 (pp+1) x2
    refine fb_top (fun v12 ev12 => ?_)
    have h := h v12 ev12
    have iv12 := fb_ie ev12 i11
    refine lv_istore_n (lv' := [(3, .int (fb_I v12)), (0, .ref (fb_ad G pp)), (1, .ref (fb_ad G 1)), (2, .int (fb_I x2))]) C.1.1 C.1.2.1 dX3_measure_59 rfl hl (by decide) rfl (fun ls hl => ?_)
    refine lv_iload_n C.1.1 C.1.2.1 dX3_measure_60 rfl (lv_at hl 0 rfl) ?_
    refine fb_if_ne (tgt := 73) C iv12 dX3_measure_61 (by decide) (fun c13 => ?_) (fun c13 => ?_)
    · have h := h.2 c13
      refine lv_iload_n C.1.1 C.1.2.1 dX3_measure_73 rfl (lv_at hl 0 rfl) ?_
      refine fb_if_le (tgt := 114) C iv12 dX3_measure_74 (by decide) (fun c14 => ?_) (fun c14 => ?_)
      · have h := h.2 c14
        exact tw_X3_measure_114 hpp C hret h45 x2 _ _ _ _ w (lv_sub hl [1, 2, 3] rfl) ix2 h
      · have h := h.1 c14
        refine lv_aload_n C.1.1 C.1.2.1 dX3_measure_77 rfl (lv_at hl 1 rfl) ?_
        refine fb_getr (k2 := (pp+5)) C w (fb_pk0 C hpp) rfl fl_X3_28 dX3_measure_78 ?_
        refine lv_iload_n C.1.1 C.1.2.1 dX3_measure_81 rfl (lv_at hl 0 rfl) ?_
        refine lv_dup2_11 C.1.1 C.1.2.1 dX3_measure_82 rfl rfl ?_
        obtain ⟨z15, z16, h⟩ := h
        refine fb_al C w 100 (fb_pk5 C hpp) rfl rfl z15 z16 dX3_measure_83 ?_
        have i17 := w.2.2.2 (pp+5) v12
        refine fb_iconst C dX3_measure_84 ?_
        obtain ⟨i18, h⟩ := h
        refine fb_iadd C dX3_measure_85 ?_
        obtain ⟨z19, z20, h⟩ := h
        refine fb_as C w 100 (fb_pk5 C hpp) rfl rfl i18 z19 z20 dX3_measure_86 (fun σ21 H locs eσ21 w => ?_)
        have h := h σ21 eσ21
        refine lv_aload_n C.1.1 C.1.2.1 dX3_measure_87 rfl (lv_at hl 1 rfl) ?_
        refine fb_getr (k2 := (pp+2)) C w (fb_pk0 C hpp) rfl fl_X3_19 dX3_measure_88 ?_
        refine lv_iload_n C.1.1 C.1.2.1 dX3_measure_91 rfl (lv_at hl 0 rfl) ?_
        refine lv_aload_n C.1.1 C.1.2.1 dX3_measure_92 rfl (lv_at hl 1 rfl) ?_
        refine fb_getr (k2 := (pp+2)) C w (fb_pk0 C hpp) rfl fl_X3_19 dX3_measure_93 ?_
        refine lv_iload_n C.1.1 C.1.2.1 dX3_measure_96 rfl (lv_at hl 0 rfl) ?_
        obtain ⟨z22, z23, h⟩ := h
        refine fb_al C w 100 (fb_pk2 C hpp) rfl rfl z22 z23 dX3_measure_97 ?_
        have i24 := w.2.2.2 (pp+2) v12
        refine lv_aload_n C.1.1 C.1.2.1 dX3_measure_98 rfl (lv_at hl 2 rfl) ?_
        refine fb_getr (k2 := 2) C w (fb_k1 C) rfl fl_X3_85 dX3_measure_99 ?_
        refine lv_iload_n C.1.1 C.1.2.1 dX3_measure_102 rfl (lv_at hl 3 rfl) ?_
        obtain ⟨z25, z26, h⟩ := h
        refine fb_al C w 144 (fb_k2 C) rfl rfl z25 z26 dX3_measure_103 ?_
        have i27 := w.2.2.2 2 x2
        refine fb_mmin C i24 i27 ml_X3_92 ⟨Nat.le_of_ble_eq_true rfl, Nat.le_of_ble_eq_true rfl, Nat.zero_le _, Nat.zero_le _⟩ hl.1 dX3_measure_104 ?_
        obtain ⟨z28, z29, h⟩ := h
        refine fb_as C w 100 (fb_pk2 C hpp) rfl rfl (fb_in_min i24 i27) z28 z29 dX3_measure_107 (fun σ30 H locs eσ30 w => ?_)
        have h := h σ30 eσ30
        refine lv_aload_n C.1.1 C.1.2.1 dX3_measure_108 rfl (lv_at hl 1 rfl) ?_
        refine lv_aload_n C.1.1 C.1.2.1 dX3_measure_109 rfl (lv_at hl 2 rfl) ?_
        refine lv_iload_n C.1.1 C.1.2.1 dX3_measure_110 rfl (lv_at hl 3 rfl) ?_
        refine fb_callVv (As := [.ref (fb_ad G 1), .int (fb_I x2)]) (rest := []) C w (ct_X3_passesBeside l G hpp ix2 h) mv_X3_111 (fb_pk0 C hpp) rfl ⟨rfl, rfl, Nat.le_of_ble_eq_true rfl, Nat.le_of_ble_eq_true rfl, Nat.zero_le _, Nat.zero_le _⟩ rfl hl.1 rfl (Nat.le_of_ble_eq_true rfl) dX3_measure_111 (fun σ31 H locs h w => ?_)
        exact tw_X3_measure_114 hpp C hret h45 x2 _ _ _ _ w (lv_sub hl [1, 2, 3] rfl) ix2 h
    · have h := h.1 c13
      refine lv_aload_n C.1.1 C.1.2.1 dX3_measure_64 rfl (lv_at hl 1 rfl) ?_
      refine lv_aload_n C.1.1 C.1.2.1 dX3_measure_65 rfl (lv_at hl 2 rfl) ?_
      refine lv_iload_n C.1.1 C.1.2.1 dX3_measure_66 rfl (lv_at hl 3 rfl) ?_
      refine fb_callVv (As := [.ref (fb_ad G 1), .int (fb_I x2)]) (rest := []) C w (ct_X3_passesOverDam l G hpp ix2 h) mv_X3_108 (fb_pk0 C hpp) rfl ⟨rfl, rfl, Nat.le_of_ble_eq_true rfl, Nat.le_of_ble_eq_true rfl, Nat.zero_le _, Nat.zero_le _⟩ rfl hl.1 rfl (Nat.le_of_ble_eq_true rfl) dX3_measure_67 (fun σ32 H locs h w => ?_)
      refine lv_goto (tgt := 114) C.1.1 C.1.2.1 dX3_measure_70 (by decide) ?_
      exact tw_X3_measure_114 hpp C hret h45 x2 _ _ _ _ w (lv_sub hl [1, 2, 3] rfl) ix2 h
theorem tl_X3_measure_45 (hpp : pp = 17 ∨ pp = 29) (C : fb_C p s m args meth c G RX3 cX3_measure 4) (hret : fb_RV p l e rm_X3_measure s m args below meth c G cX3_measure Qm Q) : ∀ n : Nat, TT_X3_measure_45 p l e s m args below meth c Qm G pp (wl_X3_measure_45 pp Q n) := by
  intro n
  induction n with
  | zero => intro x2 σ H locs ls w hl ix2 h; exact h.elim
  | succ n ih => exact tw_X3_measure_45 hpp C hret ih
set_option maxRecDepth 100000 in
set_option maxHeartbeats 4000000 in
theorem tw_X3_measure_0 (hpp : pp = 17 ∨ pp = 29) (C : fb_C p s m args meth c G RX3 cX3_measure 4) (hret : fb_RV p l e rm_X3_measure s m args below meth c G cX3_measure Qm Q) : TT_X3_measure_0 p l e s m args below meth c Qm G pp (fun σ => wp_X3_measure pp σ Q) := by
  intro σ H locs ls w hl h
  unfold wp_X3_measure at h
  refine lv_aload_n C.1.1 C.1.2.1 dX3_measure_0 rfl (lv_at hl 0 rfl) ?_
  refine fb_getr (k2 := (pp+5)) C w (fb_pk0 C hpp) rfl fl_X3_28 dX3_measure_1 ?_
  refine fb_iconst C dX3_measure_4 ?_
  refine fb_callSv (rest := []) C w (fb_fillM l G (Qp := fun _ q => q = fb_fill σ (pp+5) 0) (fb_pk5 C hpp) (Nat.le_of_ble_eq_true rfl) (by decide) rfl) ms_X3_102 ⟨rfl, rfl, Nat.le_of_ble_eq_true rfl, Nat.le_of_ble_eq_true rfl, Nat.zero_le _, Nat.zero_le _⟩ rfl hl.1 rfl (Nat.le_of_ble_eq_true rfl) dX3_measure_5 (fun σ1 H locs eσ1 w => ?_)
  have h := h σ1 eσ1
  refine lv_aload_n C.1.1 C.1.2.1 dX3_measure_8 rfl (lv_at hl 0 rfl) ?_
  refine fb_getr (k2 := (pp+6)) C w (fb_pk0 C hpp) rfl fl_X3_31 dX3_measure_9 ?_
  refine fb_iconst C dX3_measure_12 ?_
  refine fb_callSv (rest := []) C w (fb_fillM l G (Qp := fun _ q => q = fb_fill σ1 (pp+6) 0) (fb_pk6 C hpp) (Nat.le_of_ble_eq_true rfl) (by decide) rfl) ms_X3_102 ⟨rfl, rfl, Nat.le_of_ble_eq_true rfl, Nat.le_of_ble_eq_true rfl, Nat.zero_le _, Nat.zero_le _⟩ rfl hl.1 rfl (Nat.le_of_ble_eq_true rfl) dX3_measure_13 (fun σ2 H locs eσ2 w => ?_)
  have h := h σ2 eσ2
  refine lv_aload_n C.1.1 C.1.2.1 dX3_measure_16 rfl (lv_at hl 0 rfl) ?_
  refine fb_getr (k2 := (pp+2)) C w (fb_pk0 C hpp) rfl fl_X3_19 dX3_measure_17 ?_
  refine fb_bipush C dX3_measure_20 (by decide) ?_
  refine fb_callSv (rest := []) C w (fb_fillM l G (Qp := fun _ q => q = fb_fill σ2 (pp+2) 100) (fb_pk2 C hpp) (Nat.le_of_ble_eq_true rfl) (by decide) rfl) ms_X3_102 ⟨rfl, rfl, Nat.le_of_ble_eq_true rfl, Nat.le_of_ble_eq_true rfl, Nat.zero_le _, Nat.zero_le _⟩ rfl hl.1 rfl (Nat.le_of_ble_eq_true rfl) dX3_measure_22 (fun σ3 H locs eσ3 w => ?_)
  have h := h σ3 eσ3
  refine lv_aload_n C.1.1 C.1.2.1 dX3_measure_25 rfl (lv_at hl 0 rfl) ?_
  refine fb_getr (k2 := (pp+3)) C w (fb_pk0 C hpp) rfl fl_X3_22 dX3_measure_26 ?_
  refine fb_bipush C dX3_measure_29 (by decide) ?_
  refine fb_callSv (rest := []) C w (fb_fillM l G (Qp := fun _ q => q = fb_fill σ3 (pp+3) 100) (fb_pk3 C hpp) (Nat.le_of_ble_eq_true rfl) (by decide) rfl) ms_X3_102 ⟨rfl, rfl, Nat.le_of_ble_eq_true rfl, Nat.le_of_ble_eq_true rfl, Nat.zero_le _, Nat.zero_le _⟩ rfl hl.1 rfl (Nat.le_of_ble_eq_true rfl) dX3_measure_31 (fun σ4 H locs eσ4 w => ?_)
  have h := h σ4 eσ4
  refine lv_aload_n C.1.1 C.1.2.1 dX3_measure_34 rfl (lv_at hl 0 rfl) ?_
  refine fb_getr (k2 := (pp+4)) C w (fb_pk0 C hpp) rfl fl_X3_25 dX3_measure_35 ?_
  refine fb_bipush C dX3_measure_38 (by decide) ?_
  refine fb_callSv (rest := []) C w (fb_fillM l G (Qp := fun _ q => q = fb_fill σ4 (pp+4) (-6)) (fb_pk4 C hpp) (Nat.le_of_ble_eq_true rfl) (by decide) rfl) ms_X3_102 ⟨rfl, rfl, Nat.le_of_ble_eq_true rfl, Nat.le_of_ble_eq_true rfl, Nat.zero_le _, Nat.zero_le _⟩ rfl hl.1 rfl (Nat.le_of_ble_eq_true rfl) dX3_measure_40 (fun σ5 H locs eσ5 w => ?_)
  have h := h σ5 eσ5
  refine fb_iconst C dX3_measure_43 ?_
  refine lv_istore_n (lv' := [(2, .int (fb_I 0)), (0, .ref (fb_ad G pp)), (1, .ref (fb_ad G 1))]) C.1.1 C.1.2.1 dX3_measure_44 rfl hl (by decide) rfl (fun ls hl => ?_)
  obtain ⟨n, h⟩ := h
  exact tl_X3_measure_45 hpp C hret n 0 _ _ _ _ w (lv_sub hl [1, 2, 0] rfl) (by decide) h
theorem ct_X3_measure (l : Launch) (G : fb_G) (hpp : pp = 17 ∨ pp = 29) {σ : fb_St} (h : wp_X3_measure pp σ Q) : fb_MV l G yX3_measure cX3_measure 4 rm_X3_measure [.ref (fb_ad G pp), .ref (fb_ad G 1)] σ Q := by
  refine fb_ofW (own := RX3) (by decide) (Nat.le_of_ble_eq_true rfl) rfl (fun p e s m args below meth c ls C hr hl w => ?_)
  exact tw_X3_measure_0 hpp C (fb_retv C hr) _ _ _ _ w hl h
end S_X3_measure
section S_X3_sizeOf
variable {p : Program} {l : Launch} {e : Env} {s : State} {m : MethodId} {args : Array Value} {below : List Frame} {meth : Method} {c : Code} {Qm : State → Prop} {G : fb_G} {Q : Int → fb_St → Prop} {pp : Nat}
abbrev TT_X3_sizeOf_55 (p : Program) (l : Launch) (e : Env) (s : State) (m : MethodId) (args : Array Value) (below : List Frame) (meth : Method) (c : Code) (Qm : State → Prop) (G : fb_G) (pp : Nat) (r : Int → fb_St → Prop) : Prop := ∀ (s0 : Int) (σ : fb_St) (H : Heap) (locs : List Loc) (ls : Array Slot), fb_Wd G s σ H locs → lv_has ls 3 [] → fb_in s0 → r s0 σ → W p l e rm_X3_sizeOf s m args below meth c H locs 0 0 Qm (F0 m 55 ls [.int (fb_I s0)])
abbrev TT_X3_sizeOf_0 (p : Program) (l : Launch) (e : Env) (s : State) (m : MethodId) (args : Array Value) (below : List Frame) (meth : Method) (c : Code) (Qm : State → Prop) (G : fb_G) (pp : Nat) (r : Int → Int → fb_St → Prop) : Prop := ∀ (x1 x2 : Int) (σ : fb_St) (H : Heap) (locs : List Loc) (ls : Array Slot), fb_Wd G s σ H locs → lv_has ls 3 [(0, .ref (fb_ad G pp)), (1, .int (fb_I x1)), (2, .int (fb_I x2))] → fb_in x1 → fb_in x2 → r x1 x2 σ → W p l e rm_X3_sizeOf s m args below meth c H locs 0 0 Qm (F0 m 0 ls [])
set_option maxRecDepth 100000 in
set_option maxHeartbeats 4000000 in
theorem tw_X3_sizeOf_55 (hpp : pp = 17 ∨ pp = 29) (C : fb_C p s m args meth c G RX3 cX3_sizeOf 3) (hret : fb_RI p l e rm_X3_sizeOf s m args below meth c G cX3_sizeOf Qm Q) : TT_X3_sizeOf_55 p l e s m args below meth c Qm G pp (wj_X3_sizeOf_55 pp Q) := by
  intro s0 σ H locs ls w hl is0 h
  unfold wj_X3_sizeOf_55 at h
  exact hret _ _ _ _ _ _ is0 h w dX3_sizeOf_55
set_option maxRecDepth 100000 in
set_option maxHeartbeats 4000000 in
theorem tw_X3_sizeOf_0 (hpp : pp = 17 ∨ pp = 29) (C : fb_C p s m args meth c G RX3 cX3_sizeOf 3) (hret : fb_RI p l e rm_X3_sizeOf s m args below meth c G cX3_sizeOf Qm Q) : TT_X3_sizeOf_0 p l e s m args below meth c Qm G pp (fun x1 x2 σ => wp_X3_sizeOf pp x1 x2 σ Q) := by
  intro x1 x2 σ H locs ls w hl ix1 ix2 h
  unfold wp_X3_sizeOf at h
  refine lv_iload_n C.1.1 C.1.2.1 dX3_sizeOf_0 rfl (lv_at hl 2 rfl) ?_
  refine fb_if_ne (tgt := 11) C ix2 dX3_sizeOf_1 (by decide) (fun c1 => ?_) (fun c1 => ?_)
  · have h := h.2 c1
    refine lv_aload_n C.1.1 C.1.2.1 dX3_sizeOf_11 rfl (lv_at hl 0 rfl) ?_
    refine fb_getr (k2 := (pp+3)) C w (fb_pk0 C hpp) rfl fl_X3_22 dX3_sizeOf_12 ?_
    refine lv_iload_n C.1.1 C.1.2.1 dX3_sizeOf_15 rfl (lv_at hl 1 rfl) ?_
    obtain ⟨z2, z3, h⟩ := h
    refine fb_al C w 100 (fb_pk3 C hpp) rfl rfl z2 z3 dX3_sizeOf_16 ?_
    have i4 := w.2.2.2 (pp+3) x1
    refine fb_bipush C dX3_sizeOf_17 (by decide) ?_
    refine fb_icmp_ne (tgt := 24) C i4 (by decide) dX3_sizeOf_19 (by decide) (fun c5 => ?_) (fun c5 => ?_)
    · have h := h.2 c5
      refine lv_iload_n C.1.1 C.1.2.1 dX3_sizeOf_24 rfl (lv_at hl 2 rfl) ?_
      refine fb_iconst C dX3_sizeOf_25 ?_
      refine fb_icmp_ne (tgt := 49) C ix2 (by decide) dX3_sizeOf_26 (by decide) (fun c6 => ?_) (fun c6 => ?_)
      · have h := h.2 c6
        refine lv_aload_n C.1.1 C.1.2.1 dX3_sizeOf_49 rfl (lv_at hl 0 rfl) ?_
        refine fb_getr (k2 := (pp+6)) C w (fb_pk0 C hpp) rfl fl_X3_31 dX3_sizeOf_50 ?_
        refine lv_iload_n C.1.1 C.1.2.1 dX3_sizeOf_53 rfl (lv_at hl 1 rfl) ?_
        obtain ⟨z7, z8, h⟩ := h
        refine fb_al C w 100 (fb_pk6 C hpp) rfl rfl z7 z8 dX3_sizeOf_54 ?_
        have i9 := w.2.2.2 (pp+6) x1
        exact tw_X3_sizeOf_55 hpp C hret (σ (pp+6) x1) _ _ _ _ w (lv_sub hl [] rfl) i9 h
      · have h := h.1 c6
        refine lv_aload_n C.1.1 C.1.2.1 dX3_sizeOf_29 rfl (lv_at hl 0 rfl) ?_
        refine fb_getr (k2 := (pp+3)) C w (fb_pk0 C hpp) rfl fl_X3_22 dX3_sizeOf_30 ?_
        refine lv_iload_n C.1.1 C.1.2.1 dX3_sizeOf_33 rfl (lv_at hl 1 rfl) ?_
        obtain ⟨z10, z11, h⟩ := h
        refine fb_al C w 100 (fb_pk3 C hpp) rfl rfl z10 z11 dX3_sizeOf_34 ?_
        have i12 := w.2.2.2 (pp+3) x1
        refine lv_aload_n C.1.1 C.1.2.1 dX3_sizeOf_35 rfl (lv_at hl 0 rfl) ?_
        refine fb_getr (k2 := (pp+2)) C w (fb_pk0 C hpp) rfl fl_X3_19 dX3_sizeOf_36 ?_
        refine lv_iload_n C.1.1 C.1.2.1 dX3_sizeOf_39 rfl (lv_at hl 1 rfl) ?_
        obtain ⟨z13, z14, h⟩ := h
        refine fb_al C w 100 (fb_pk2 C hpp) rfl rfl z13 z14 dX3_sizeOf_40 ?_
        have i15 := w.2.2.2 (pp+2) x1
        obtain ⟨i16, h⟩ := h
        refine fb_isub C dX3_sizeOf_41 ?_
        refine fb_iconst C dX3_sizeOf_42 ?_
        refine fb_mmax C i16 (by decide) ml_X3_75 ⟨Nat.le_of_ble_eq_true rfl, Nat.le_of_ble_eq_true rfl, Nat.zero_le _, Nat.zero_le _⟩ hl.1 dX3_sizeOf_43 ?_
        refine lv_goto (tgt := 55) C.1.1 C.1.2.1 dX3_sizeOf_46 (by decide) ?_
        exact tw_X3_sizeOf_55 hpp C hret (max ((σ (pp+3) x1) - (σ (pp+2) x1)) 0) _ _ _ _ w (lv_sub hl [] rfl) (fb_in_max i16 (by decide)) h
    · have h := h.1 c5
      refine fb_iconst C dX3_sizeOf_22 ?_
      exact hret _ _ _ _ _ _ (by decide) h w dX3_sizeOf_23
  · have h := h.1 c1
    refine lv_aload_n C.1.1 C.1.2.1 dX3_sizeOf_4 rfl (lv_at hl 0 rfl) ?_
    refine fb_getr (k2 := (pp+5)) C w (fb_pk0 C hpp) rfl fl_X3_28 dX3_sizeOf_5 ?_
    refine lv_iload_n C.1.1 C.1.2.1 dX3_sizeOf_8 rfl (lv_at hl 1 rfl) ?_
    obtain ⟨z17, z18, h⟩ := h
    refine fb_al C w 100 (fb_pk5 C hpp) rfl rfl z17 z18 dX3_sizeOf_9 ?_
    have i19 := w.2.2.2 (pp+5) x1
    exact hret _ _ _ _ _ _ i19 h w dX3_sizeOf_10
theorem ct_X3_sizeOf (l : Launch) (G : fb_G) (hpp : pp = 17 ∨ pp = 29) {x1 : Int} {x2 : Int} {σ : fb_St} (ix1 : fb_in x1) (ix2 : fb_in x2) (h : wp_X3_sizeOf pp x1 x2 σ Q) : fb_MI l G yX3_sizeOf cX3_sizeOf 3 (some .int) rm_X3_sizeOf [.ref (fb_ad G pp), .int (fb_I x1), .int (fb_I x2)] σ Q := by
  refine fb_ofW (own := RX3) (by decide) (Nat.le_of_ble_eq_true rfl) rfl (fun p e s m args below meth c ls C hr hl w => ?_)
  exact tw_X3_sizeOf_0 hpp C (fb_reti C hr) _ _ _ _ _ _ w hl ix1 ix2 h
end S_X3_sizeOf
section S_X3_nextToPour
variable {p : Program} {l : Launch} {e : Env} {s : State} {m : MethodId} {args : Array Value} {below : List Frame} {meth : Method} {c : Code} {Qm : State → Prop} {G : fb_G} {Q : Int → fb_St → Prop} {pp : Nat}
abbrev TT_X3_nextToPour_52 (p : Program) (l : Launch) (e : Env) (s : State) (m : MethodId) (args : Array Value) (below : List Frame) (meth : Method) (c : Code) (Qm : State → Prop) (G : fb_G) (pp : Nat) (r : Int → Int → Int → Int → Int → fb_St → Prop) : Prop := ∀ (x1 x2 x3 x4 x5 : Int) (σ : fb_St) (H : Heap) (locs : List Loc) (ls : Array Slot), fb_Wd G s σ H locs → lv_has ls 6 [(0, .ref (fb_ad G pp)), (1, .int (fb_I x1)), (2, .int (fb_I x2)), (3, .int (fb_I x3)), (4, .int (fb_I x4)), (5, .int (fb_I x5))] → fb_in x1 → fb_in x2 → fb_in x3 → fb_in x4 → fb_in x5 → r x1 x2 x3 x4 x5 σ → W p l e rm_X3_nextToPour s m args below meth c H locs 0 0 Qm (F0 m 52 ls [])
abbrev TT_X3_nextToPour_10 (p : Program) (l : Launch) (e : Env) (s : State) (m : MethodId) (args : Array Value) (below : List Frame) (meth : Method) (c : Code) (Qm : State → Prop) (G : fb_G) (pp : Nat) (r : Int → Int → Int → Int → Int → fb_St → Prop) : Prop := ∀ (x1 x2 x3 x4 x5 : Int) (σ : fb_St) (H : Heap) (locs : List Loc) (ls : Array Slot), fb_Wd G s σ H locs → lv_has ls 6 [(0, .ref (fb_ad G pp)), (1, .int (fb_I x1)), (2, .int (fb_I x2)), (3, .int (fb_I x3)), (4, .int (fb_I x4)), (5, .int (fb_I x5))] → fb_in x1 → fb_in x2 → fb_in x3 → fb_in x4 → fb_in x5 → r x1 x2 x3 x4 x5 σ → W p l e rm_X3_nextToPour s m args below meth c H locs 0 0 Qm (F0 m 10 ls [])
abbrev TT_X3_nextToPour_0 (p : Program) (l : Launch) (e : Env) (s : State) (m : MethodId) (args : Array Value) (below : List Frame) (meth : Method) (c : Code) (Qm : State → Prop) (G : fb_G) (pp : Nat) (r : Int → Int → fb_St → Prop) : Prop := ∀ (x1 x2 : Int) (σ : fb_St) (H : Heap) (locs : List Loc) (ls : Array Slot), fb_Wd G s σ H locs → lv_has ls 6 [(0, .ref (fb_ad G pp)), (1, .int (fb_I x1)), (2, .int (fb_I x2))] → fb_in x1 → fb_in x2 → r x1 x2 σ → W p l e rm_X3_nextToPour s m args below meth c H locs 0 0 Qm (F0 m 0 ls [])
set_option maxRecDepth 100000 in
set_option maxHeartbeats 4000000 in
theorem tw_X3_nextToPour_52 (hpp : pp = 17 ∨ pp = 29) (C : fb_C p s m args meth c G RX3 cX3_nextToPour 6) (hret : fb_RI p l e rm_X3_nextToPour s m args below meth c G cX3_nextToPour Qm Q) {r10 : Int → Int → Int → Int → Int → fb_St → Prop} (h10 : TT_X3_nextToPour_10 p l e s m args below meth c Qm G pp r10) : TT_X3_nextToPour_52 p l e s m args below meth c Qm G pp (wj_X3_nextToPour_52 pp r10 Q) := by
  intro x1 x2 x3 x4 x5 σ H locs ls w hl ix1 ix2 ix3 ix4 ix5 h
  unfold wj_X3_nextToPour_52 at h
  obtain ⟨i12, h⟩ := h
  refine fb_iinc (b := x5 + 1) (k := 5) (lv' := [(5, .int (fb_I (x5 + 1))), (0, .ref (fb_ad G pp)), (1, .int (fb_I x1)), (2, .int (fb_I x2)), (3, .int (fb_I x3)), (4, .int (fb_I x4))]) C dX3_nextToPour_52 hl rfl rfl (by decide) rfl (fun ls hl => ?_)
  refine lv_goto (tgt := 10) C.1.1 C.1.2.1 dX3_nextToPour_55 (by decide) ?_
  exact h10 x1 x2 x3 x4 (x5 + 1) _ _ _ _ w (lv_sub hl [1, 2, 3, 4, 5, 0] rfl) ix1 ix2 ix3 ix4 i12 h
set_option maxRecDepth 100000 in
set_option maxHeartbeats 4000000 in
theorem tw_X3_nextToPour_10 (hpp : pp = 17 ∨ pp = 29) (C : fb_C p s m args meth c G RX3 cX3_nextToPour 6) (hret : fb_RI p l e rm_X3_nextToPour s m args below meth c G cX3_nextToPour Qm Q) {r10 : Int → Int → Int → Int → Int → fb_St → Prop} (h10 : TT_X3_nextToPour_10 p l e s m args below meth c Qm G pp r10) : TT_X3_nextToPour_10 p l e s m args below meth c Qm G pp (wb_X3_nextToPour_10 pp r10 Q) := by
  intro x1 x2 x3 x4 x5 σ H locs ls w hl ix1 ix2 ix3 ix4 ix5 h
  unfold wb_X3_nextToPour_10 at h
  refine lv_iload C.1.1 C.1.2.1 dX3_nextToPour_10 (lv_at hl 5 rfl) ?_
  refine fb_bipush C dX3_nextToPour_12 (by decide) ?_
  refine fb_icmp_gt (tgt := 58) C ix5 (by decide) dX3_nextToPour_14 (by decide) (fun c1 => ?_) (fun c1 => ?_)
  · have h := h.1 c1
    refine lv_iload_n C.1.1 C.1.2.1 dX3_nextToPour_58 rfl (lv_at hl 3 rfl) ?_
    exact hret _ _ _ _ _ _ ix3 h w dX3_nextToPour_59
  · have h := h.2 c1
    refine lv_aload_n C.1.1 C.1.2.1 dX3_nextToPour_17 rfl (lv_at hl 0 rfl) ?_
    refine fb_getr (k2 := (pp+3)) C w (fb_pk0 C hpp) rfl fl_X3_22 dX3_nextToPour_18 ?_
    refine lv_iload C.1.1 C.1.2.1 dX3_nextToPour_21 (lv_at hl 5 rfl) ?_
    obtain ⟨z2, z3, h⟩ := h
    refine fb_al C w 100 (fb_pk3 C hpp) rfl rfl z2 z3 dX3_nextToPour_23 ?_
    have i4 := w.2.2.2 (pp+3) x5
    refine lv_iload C.1.1 C.1.2.1 dX3_nextToPour_24 (lv_at hl 4 rfl) ?_
    refine fb_icmp_ge (tgt := 52) C i4 ix4 dX3_nextToPour_26 (by decide) (fun c5 => ?_) (fun c5 => ?_)
    · have h := h.2 c5
      exact tw_X3_nextToPour_52 hpp C hret h10 x1 x2 x3 x4 x5 _ _ _ _ w (lv_sub hl [0, 1, 2, 3, 4, 5] rfl) ix1 ix2 ix3 ix4 ix5 h
    · have h := h.1 c5
      refine lv_aload_n C.1.1 C.1.2.1 dX3_nextToPour_29 rfl (lv_at hl 0 rfl) ?_
      refine lv_iload C.1.1 C.1.2.1 dX3_nextToPour_30 (lv_at hl 5 rfl) ?_
      refine lv_iload_n C.1.1 C.1.2.1 dX3_nextToPour_32 rfl (lv_at hl 1 rfl) ?_
      refine fb_callVi (As := [.int (fb_I x5), .int (fb_I x1)]) (rest := []) C w (ct_X3_sizeOf l G hpp ix5 ix1 h) mv_X3_124 (fb_pk0 C hpp) rfl ⟨rfl, rfl, Nat.le_of_ble_eq_true rfl, Nat.le_of_ble_eq_true rfl, Nat.zero_le _, Nat.zero_le _⟩ rfl hl.1 rfl (Nat.le_of_ble_eq_true rfl) dX3_nextToPour_33 (fun a6 σ6 H locs h ia6 w => ?_)
      refine lv_iload_n C.1.1 C.1.2.1 dX3_nextToPour_36 rfl (lv_at hl 2 rfl) ?_
      refine fb_icmp_ge (tgt := 52) C ia6 ix2 dX3_nextToPour_37 (by decide) (fun c7 => ?_) (fun c7 => ?_)
      · have h := h.2 c7
        exact tw_X3_nextToPour_52 hpp C hret h10 x1 x2 x3 x4 x5 _ _ _ _ w (lv_sub hl [0, 1, 2, 3, 4, 5] rfl) ix1 ix2 ix3 ix4 ix5 h
      · have h := h.1 c7
        refine lv_aload_n C.1.1 C.1.2.1 dX3_nextToPour_40 rfl (lv_at hl 0 rfl) ?_
        refine fb_getr (k2 := (pp+3)) C w (fb_pk0 C hpp) rfl fl_X3_22 dX3_nextToPour_41 ?_
        refine lv_iload C.1.1 C.1.2.1 dX3_nextToPour_44 (lv_at hl 5 rfl) ?_
        obtain ⟨z8, z9, h⟩ := h
        refine fb_al C w 100 (fb_pk3 C hpp) rfl rfl z8 z9 dX3_nextToPour_46 ?_
        have i10 := w.2.2.2 (pp+3) x5
        refine fb_top (fun v11 ev11 => ?_)
        have h := h v11 ev11
        have iv11 := fb_ie ev11 i10
        refine lv_istore (lv' := [(4, .int (fb_I v11)), (0, .ref (fb_ad G pp)), (1, .int (fb_I x1)), (2, .int (fb_I x2)), (3, .int (fb_I x3)), (5, .int (fb_I x5))]) C.1.1 C.1.2.1 dX3_nextToPour_47 hl (by decide) rfl (fun ls hl => ?_)
        refine lv_iload C.1.1 C.1.2.1 dX3_nextToPour_49 (lv_at hl 5 rfl) ?_
        refine lv_istore_n (lv' := [(3, .int (fb_I x5)), (4, .int (fb_I v11)), (0, .ref (fb_ad G pp)), (1, .int (fb_I x1)), (2, .int (fb_I x2)), (5, .int (fb_I x5))]) C.1.1 C.1.2.1 dX3_nextToPour_51 rfl hl (by decide) rfl (fun ls hl => ?_)
        exact tw_X3_nextToPour_52 hpp C hret h10 x1 x2 x5 v11 x5 _ _ _ _ w (lv_sub hl [2, 3, 4, 0, 1, 5] rfl) ix1 ix2 ix5 iv11 ix5 h
theorem tl_X3_nextToPour_10 (hpp : pp = 17 ∨ pp = 29) (C : fb_C p s m args meth c G RX3 cX3_nextToPour 6) (hret : fb_RI p l e rm_X3_nextToPour s m args below meth c G cX3_nextToPour Qm Q) : ∀ n : Nat, TT_X3_nextToPour_10 p l e s m args below meth c Qm G pp (wl_X3_nextToPour_10 pp Q n) := by
  intro n
  induction n with
  | zero => intro x1 x2 x3 x4 x5 σ H locs ls w hl ix1 ix2 ix3 ix4 ix5 h; exact h.elim
  | succ n ih => exact tw_X3_nextToPour_10 hpp C hret ih
set_option maxRecDepth 100000 in
set_option maxHeartbeats 4000000 in
theorem tw_X3_nextToPour_0 (hpp : pp = 17 ∨ pp = 29) (C : fb_C p s m args meth c G RX3 cX3_nextToPour 6) (hret : fb_RI p l e rm_X3_nextToPour s m args below meth c G cX3_nextToPour Qm Q) : TT_X3_nextToPour_0 p l e s m args below meth c Qm G pp (fun x1 x2 σ => wp_X3_nextToPour pp x1 x2 σ Q) := by
  intro x1 x2 σ H locs ls w hl ix1 ix2 h
  unfold wp_X3_nextToPour at h
  refine fb_bipush C dX3_nextToPour_0 (by decide) ?_
  refine lv_istore_n (lv' := [(3, .int (fb_I (-6))), (0, .ref (fb_ad G pp)), (1, .int (fb_I x1)), (2, .int (fb_I x2))]) C.1.1 C.1.2.1 dX3_nextToPour_2 rfl hl (by decide) rfl (fun ls hl => ?_)
  refine fb_bipush C dX3_nextToPour_3 (by decide) ?_
  refine lv_istore (lv' := [(4, .int (fb_I 100)), (3, .int (fb_I (-6))), (0, .ref (fb_ad G pp)), (1, .int (fb_I x1)), (2, .int (fb_I x2))]) C.1.1 C.1.2.1 dX3_nextToPour_5 hl (by decide) rfl (fun ls hl => ?_)
  refine fb_iconst C dX3_nextToPour_7 ?_
  refine lv_istore (lv' := [(5, .int (fb_I 1)), (4, .int (fb_I 100)), (3, .int (fb_I (-6))), (0, .ref (fb_ad G pp)), (1, .int (fb_I x1)), (2, .int (fb_I x2))]) C.1.1 C.1.2.1 dX3_nextToPour_8 hl (by decide) rfl (fun ls hl => ?_)
  obtain ⟨n, h⟩ := h
  exact tl_X3_nextToPour_10 hpp C hret n x1 x2 (-6) 100 1 _ _ _ _ w (lv_sub hl [3, 4, 5, 2, 1, 0] rfl) ix1 ix2 (by decide) (by decide) (by decide) h
theorem ct_X3_nextToPour (l : Launch) (G : fb_G) (hpp : pp = 17 ∨ pp = 29) {x1 : Int} {x2 : Int} {σ : fb_St} (ix1 : fb_in x1) (ix2 : fb_in x2) (h : wp_X3_nextToPour pp x1 x2 σ Q) : fb_MI l G yX3_nextToPour cX3_nextToPour 6 (some .int) rm_X3_nextToPour [.ref (fb_ad G pp), .int (fb_I x1), .int (fb_I x2)] σ Q := by
  refine fb_ofW (own := RX3) (by decide) (Nat.le_of_ble_eq_true rfl) rfl (fun p e s m args below meth c ls C hr hl w => ?_)
  exact tw_X3_nextToPour_0 hpp C (fb_reti C hr) _ _ _ _ _ _ w hl ix1 ix2 h
end S_X3_nextToPour
section S_X3_pourOut
variable {p : Program} {l : Launch} {e : Env} {s : State} {m : MethodId} {args : Array Value} {below : List Frame} {meth : Method} {c : Code} {Qm : State → Prop} {G : fb_G} {Q : Int → fb_St → Prop} {pp : Nat}
abbrev TT_X3_pourOut_38 (p : Program) (l : Launch) (e : Env) (s : State) (m : MethodId) (args : Array Value) (below : List Frame) (meth : Method) (c : Code) (Qm : State → Prop) (G : fb_G) (pp : Nat) (r : Int → Int → Int → fb_St → Prop) : Prop := ∀ (x2 x3 x4 : Int) (σ : fb_St) (H : Heap) (locs : List Loc) (ls : Array Slot), fb_Wd G s σ H locs → lv_has ls 5 [(0, .ref (fb_ad G pp)), (1, .ref (fb_ad G 1)), (2, .int (fb_I x2)), (3, .int (fb_I x3)), (4, .int (fb_I x4))] → fb_in x2 → fb_in x3 → fb_in x4 → r x2 x3 x4 σ → W p l e rm_X3_pourOut s m args below meth c H locs 0 0 Qm (F0 m 38 ls [])
abbrev TT_X3_pourOut_10 (p : Program) (l : Launch) (e : Env) (s : State) (m : MethodId) (args : Array Value) (below : List Frame) (meth : Method) (c : Code) (Qm : State → Prop) (G : fb_G) (pp : Nat) (r : Int → Int → Int → fb_St → Prop) : Prop := ∀ (x2 x3 x4 : Int) (σ : fb_St) (H : Heap) (locs : List Loc) (ls : Array Slot), fb_Wd G s σ H locs → lv_has ls 5 [(0, .ref (fb_ad G pp)), (1, .ref (fb_ad G 1)), (2, .int (fb_I x2)), (3, .int (fb_I x3)), (4, .int (fb_I x4))] → fb_in x2 → fb_in x3 → fb_in x4 → r x2 x3 x4 σ → W p l e rm_X3_pourOut s m args below meth c H locs 0 0 Qm (F0 m 10 ls [])
abbrev TT_X3_pourOut_0 (p : Program) (l : Launch) (e : Env) (s : State) (m : MethodId) (args : Array Value) (below : List Frame) (meth : Method) (c : Code) (Qm : State → Prop) (G : fb_G) (pp : Nat) (r : Int → fb_St → Prop) : Prop := ∀ (x2 : Int) (σ : fb_St) (H : Heap) (locs : List Loc) (ls : Array Slot), fb_Wd G s σ H locs → lv_has ls 5 [(0, .ref (fb_ad G pp)), (1, .ref (fb_ad G 1)), (2, .int (fb_I x2))] → fb_in x2 → r x2 σ → W p l e rm_X3_pourOut s m args below meth c H locs 0 0 Qm (F0 m 0 ls [])
set_option maxRecDepth 100000 in
set_option maxHeartbeats 4000000 in
theorem tw_X3_pourOut_38 (hpp : pp = 17 ∨ pp = 29) (C : fb_C p s m args meth c G RX3 cX3_pourOut 5) (hret : fb_RV p l e rm_X3_pourOut s m args below meth c G cX3_pourOut Qm Q) {r10 : Int → Int → Int → fb_St → Prop} (h10 : TT_X3_pourOut_10 p l e s m args below meth c Qm G pp r10) : TT_X3_pourOut_38 p l e s m args below meth c Qm G pp (wj_X3_pourOut_38 pp r10 Q) := by
  intro x2 x3 x4 σ H locs ls w hl ix2 ix3 ix4 h
  unfold wj_X3_pourOut_38 at h
  obtain ⟨i29, h⟩ := h
  refine fb_iinc (b := x4 + 1) (k := 4) (lv' := [(4, .int (fb_I (x4 + 1))), (0, .ref (fb_ad G pp)), (1, .ref (fb_ad G 1)), (2, .int (fb_I x2)), (3, .int (fb_I x3))]) C dX3_pourOut_38 hl rfl rfl (by decide) rfl (fun ls hl => ?_)
  refine lv_goto (tgt := 10) C.1.1 C.1.2.1 dX3_pourOut_41 (by decide) ?_
  exact h10 x2 x3 (x4 + 1) _ _ _ _ w (lv_sub hl [1, 2, 3, 4, 0] rfl) ix2 ix3 i29 h
set_option maxRecDepth 100000 in
set_option maxHeartbeats 4000000 in
theorem tw_X3_pourOut_10 (hpp : pp = 17 ∨ pp = 29) (C : fb_C p s m args meth c G RX3 cX3_pourOut 5) (hret : fb_RV p l e rm_X3_pourOut s m args below meth c G cX3_pourOut Qm Q) {r10 : Int → Int → Int → fb_St → Prop} (h10 : TT_X3_pourOut_10 p l e s m args below meth c Qm G pp r10) : TT_X3_pourOut_10 p l e s m args below meth c Qm G pp (wb_X3_pourOut_10 pp r10 Q) := by
  intro x2 x3 x4 σ H locs ls w hl ix2 ix3 ix4 h
  unfold wb_X3_pourOut_10 at h
  refine lv_iload C.1.1 C.1.2.1 dX3_pourOut_10 (lv_at hl 4 rfl) ?_
  refine lv_aload_n C.1.1 C.1.2.1 dX3_pourOut_12 rfl (lv_at hl 1 rfl) ?_
  refine fb_gi C w 2 (fb_k1 C) rfl rfl fl_X3_80 dX3_pourOut_13 ?_
  have i5 := w.2.2.2 1 2
  refine fb_icmp_ge (tgt := 44) C ix4 i5 dX3_pourOut_16 (by decide) (fun c6 => ?_) (fun c6 => ?_)
  · have h := h.2 c6
    refine lv_aload_n C.1.1 C.1.2.1 dX3_pourOut_44 rfl (lv_at hl 0 rfl) ?_
    refine fb_getr (k2 := (pp+7)) C w (fb_pk0 C hpp) rfl fl_X3_34 dX3_pourOut_45 ?_
    refine lv_aload_n C.1.1 C.1.2.1 dX3_pourOut_48 rfl (lv_at hl 0 rfl) ?_
    refine fb_gi C w 0 (fb_pk0 C hpp) rfl rfl fl_X3_9 dX3_pourOut_49 ?_
    have i7 := w.2.2.2 pp 0
    refine lv_iload_n C.1.1 C.1.2.1 dX3_pourOut_52 rfl (lv_at hl 2 rfl) ?_
    obtain ⟨z8, z9, h⟩ := h
    refine fb_as C w 99 (fb_pk7 C hpp) rfl rfl ix2 z8 z9 dX3_pourOut_53 (fun σ10 H locs eσ10 w => ?_)
    have h := h σ10 eσ10
    refine lv_aload_n C.1.1 C.1.2.1 dX3_pourOut_54 rfl (lv_at hl 0 rfl) ?_
    refine fb_getr (k2 := (pp+8)) C w (fb_pk0 C hpp) rfl fl_X3_37 dX3_pourOut_55 ?_
    refine lv_aload_n C.1.1 C.1.2.1 dX3_pourOut_58 rfl (lv_at hl 0 rfl) ?_
    refine fb_gi C w 0 (fb_pk0 C hpp) rfl rfl fl_X3_9 dX3_pourOut_59 ?_
    have i11 := w.2.2.2 pp 0
    refine lv_iload_n C.1.1 C.1.2.1 dX3_pourOut_62 rfl (lv_at hl 3 rfl) ?_
    obtain ⟨z12, z13, h⟩ := h
    refine fb_as C w 99 (fb_pk8 C hpp) rfl rfl ix3 z12 z13 dX3_pourOut_63 (fun σ14 H locs eσ14 w => ?_)
    have h := h σ14 eσ14
    refine lv_aload_n C.1.1 C.1.2.1 dX3_pourOut_64 rfl (lv_at hl 0 rfl) ?_
    refine fb_getr (k2 := (pp+9)) C w (fb_pk0 C hpp) rfl fl_X3_40 dX3_pourOut_65 ?_
    refine lv_aload_n C.1.1 C.1.2.1 dX3_pourOut_68 rfl (lv_at hl 0 rfl) ?_
    refine fb_gi C w 0 (fb_pk0 C hpp) rfl rfl fl_X3_9 dX3_pourOut_69 ?_
    have i15 := w.2.2.2 pp 0
    refine lv_aload_n C.1.1 C.1.2.1 dX3_pourOut_72 rfl (lv_at hl 0 rfl) ?_
    refine fb_getr (k2 := (pp+3)) C w (fb_pk0 C hpp) rfl fl_X3_22 dX3_pourOut_73 ?_
    refine lv_iload_n C.1.1 C.1.2.1 dX3_pourOut_76 rfl (lv_at hl 2 rfl) ?_
    obtain ⟨z16, z17, h⟩ := h
    refine fb_al C w 100 (fb_pk3 C hpp) rfl rfl z16 z17 dX3_pourOut_77 ?_
    have i18 := w.2.2.2 (pp+3) x2
    obtain ⟨z19, z20, h⟩ := h
    refine fb_as C w 99 (fb_pk9 C hpp) rfl rfl i18 z19 z20 dX3_pourOut_78 (fun σ21 H locs eσ21 w => ?_)
    have h := h σ21 eσ21
    exact hret _ _ _ _ _ h w dX3_pourOut_79
  · have h := h.1 c6
    refine lv_aload_n C.1.1 C.1.2.1 dX3_pourOut_19 rfl (lv_at hl 0 rfl) ?_
    refine fb_getr (k2 := (pp+1)) C w (fb_pk0 C hpp) rfl fl_X3_15 dX3_pourOut_20 ?_
    refine lv_iload C.1.1 C.1.2.1 dX3_pourOut_23 (lv_at hl 4 rfl) ?_
    obtain ⟨z22, z23, h⟩ := h
    refine fb_al C w 144 (fb_pk1 C hpp) rfl rfl z22 z23 dX3_pourOut_25 ?_
    have i24 := w.2.2.2 (pp+1) x4
    refine lv_iload_n C.1.1 C.1.2.1 dX3_pourOut_26 rfl (lv_at hl 2 rfl) ?_
    refine fb_icmp_ne (tgt := 38) C i24 ix2 dX3_pourOut_27 (by decide) (fun c25 => ?_) (fun c25 => ?_)
    · have h := h.2 c25
      exact tw_X3_pourOut_38 hpp C hret h10 x2 x3 x4 _ _ _ _ w (lv_sub hl [0, 1, 2, 3, 4] rfl) ix2 ix3 ix4 h
    · have h := h.1 c25
      refine lv_aload_n C.1.1 C.1.2.1 dX3_pourOut_30 rfl (lv_at hl 0 rfl) ?_
      refine fb_getr (k2 := (pp+1)) C w (fb_pk0 C hpp) rfl fl_X3_15 dX3_pourOut_31 ?_
      refine lv_iload C.1.1 C.1.2.1 dX3_pourOut_34 (lv_at hl 4 rfl) ?_
      refine lv_iload_n C.1.1 C.1.2.1 dX3_pourOut_36 rfl (lv_at hl 3 rfl) ?_
      obtain ⟨z26, z27, h⟩ := h
      refine fb_as C w 144 (fb_pk1 C hpp) rfl rfl ix3 z26 z27 dX3_pourOut_37 (fun σ28 H locs eσ28 w => ?_)
      have h := h σ28 eσ28
      exact tw_X3_pourOut_38 hpp C hret h10 x2 x3 x4 _ _ _ _ w (lv_sub hl [0, 1, 2, 3, 4] rfl) ix2 ix3 ix4 h
theorem tl_X3_pourOut_10 (hpp : pp = 17 ∨ pp = 29) (C : fb_C p s m args meth c G RX3 cX3_pourOut 5) (hret : fb_RV p l e rm_X3_pourOut s m args below meth c G cX3_pourOut Qm Q) : ∀ n : Nat, TT_X3_pourOut_10 p l e s m args below meth c Qm G pp (wl_X3_pourOut_10 pp Q n) := by
  intro n
  induction n with
  | zero => intro x2 x3 x4 σ H locs ls w hl ix2 ix3 ix4 h; exact h.elim
  | succ n ih => exact tw_X3_pourOut_10 hpp C hret ih
set_option maxRecDepth 100000 in
set_option maxHeartbeats 4000000 in
theorem tw_X3_pourOut_0 (hpp : pp = 17 ∨ pp = 29) (C : fb_C p s m args meth c G RX3 cX3_pourOut 5) (hret : fb_RV p l e rm_X3_pourOut s m args below meth c G cX3_pourOut Qm Q) : TT_X3_pourOut_0 p l e s m args below meth c Qm G pp (fun x2 σ => wp_X3_pourOut pp x2 σ Q) := by
  intro x2 σ H locs ls w hl ix2 h
  unfold wp_X3_pourOut at h
  refine lv_aload_n C.1.1 C.1.2.1 dX3_pourOut_0 rfl (lv_at hl 0 rfl) ?_
  refine fb_getr (k2 := (pp+4)) C w (fb_pk0 C hpp) rfl fl_X3_25 dX3_pourOut_1 ?_
  refine lv_iload_n C.1.1 C.1.2.1 dX3_pourOut_4 rfl (lv_at hl 2 rfl) ?_
  obtain ⟨z1, z2, h⟩ := h
  refine fb_al C w 100 (fb_pk4 C hpp) rfl rfl z1 z2 dX3_pourOut_5 ?_
  have i3 := w.2.2.2 (pp+4) x2
  refine fb_top (fun v4 ev4 => ?_)
  have h := h v4 ev4
  have iv4 := fb_ie ev4 i3
  refine lv_istore_n (lv' := [(3, .int (fb_I v4)), (0, .ref (fb_ad G pp)), (1, .ref (fb_ad G 1)), (2, .int (fb_I x2))]) C.1.1 C.1.2.1 dX3_pourOut_6 rfl hl (by decide) rfl (fun ls hl => ?_)
  refine fb_iconst C dX3_pourOut_7 ?_
  refine lv_istore (lv' := [(4, .int (fb_I 0)), (3, .int (fb_I v4)), (0, .ref (fb_ad G pp)), (1, .ref (fb_ad G 1)), (2, .int (fb_I x2))]) C.1.1 C.1.2.1 dX3_pourOut_8 hl (by decide) rfl (fun ls hl => ?_)
  obtain ⟨n, h⟩ := h
  exact tl_X3_pourOut_10 hpp C hret n x2 v4 0 _ _ _ _ w (lv_sub hl [2, 3, 4, 1, 0] rfl) ix2 iv4 (by decide) h
theorem ct_X3_pourOut (l : Launch) (G : fb_G) (hpp : pp = 17 ∨ pp = 29) {x2 : Int} {σ : fb_St} (ix2 : fb_in x2) (h : wp_X3_pourOut pp x2 σ Q) : fb_MV l G yX3_pourOut cX3_pourOut 5 rm_X3_pourOut [.ref (fb_ad G pp), .ref (fb_ad G 1), .int (fb_I x2)] σ Q := by
  refine fb_ofW (own := RX3) (by decide) (Nat.le_of_ble_eq_true rfl) rfl (fun p e s m args below meth c ls C hr hl w => ?_)
  exact tw_X3_pourOut_0 hpp C (fb_retv C hr) _ _ _ _ _ w hl ix2 h
end S_X3_pourOut
section S_X3_breakDams
variable {p : Program} {l : Launch} {e : Env} {s : State} {m : MethodId} {args : Array Value} {below : List Frame} {meth : Method} {c : Code} {Qm : State → Prop} {G : fb_G} {Q : Int → fb_St → Prop} {pp : Nat}
abbrev TT_X3_breakDams_60 (p : Program) (l : Launch) (e : Env) (s : State) (m : MethodId) (args : Array Value) (below : List Frame) (meth : Method) (c : Code) (Qm : State → Prop) (G : fb_G) (pp : Nat) (r : Int → Int → fb_St → Prop) : Prop := ∀ (x2 x3 : Int) (σ : fb_St) (H : Heap) (locs : List Loc) (ls : Array Slot), fb_Wd G s σ H locs → lv_has ls 5 [(0, .ref (fb_ad G pp)), (1, .ref (fb_ad G 1)), (2, .int (fb_I x2)), (3, .int (fb_I x3))] → fb_in x2 → fb_in x3 → r x2 x3 σ → W p l e rm_X3_breakDams s m args below meth c H locs 0 0 Qm (F0 m 60 ls [])
abbrev TT_X3_breakDams_4 (p : Program) (l : Launch) (e : Env) (s : State) (m : MethodId) (args : Array Value) (below : List Frame) (meth : Method) (c : Code) (Qm : State → Prop) (G : fb_G) (pp : Nat) (r : Int → Int → fb_St → Prop) : Prop := ∀ (x2 x3 : Int) (σ : fb_St) (H : Heap) (locs : List Loc) (ls : Array Slot), fb_Wd G s σ H locs → lv_has ls 5 [(0, .ref (fb_ad G pp)), (1, .ref (fb_ad G 1)), (2, .int (fb_I x2)), (3, .int (fb_I x3))] → fb_in x2 → fb_in x3 → r x2 x3 σ → W p l e rm_X3_breakDams s m args below meth c H locs 0 0 Qm (F0 m 4 ls [])
abbrev TT_X3_breakDams_0 (p : Program) (l : Launch) (e : Env) (s : State) (m : MethodId) (args : Array Value) (below : List Frame) (meth : Method) (c : Code) (Qm : State → Prop) (G : fb_G) (pp : Nat) (r : fb_St → Prop) : Prop := ∀ (σ : fb_St) (H : Heap) (locs : List Loc) (ls : Array Slot), fb_Wd G s σ H locs → lv_has ls 5 [(0, .ref (fb_ad G pp)), (1, .ref (fb_ad G 1))] → r σ → W p l e rm_X3_breakDams s m args below meth c H locs 0 0 Qm (F0 m 0 ls [])
set_option maxRecDepth 100000 in
set_option maxHeartbeats 4000000 in
theorem tw_X3_breakDams_60 (hpp : pp = 17 ∨ pp = 29) (C : fb_C p s m args meth c G RX3 cX3_breakDams 5) (hret : fb_RI p l e rm_X3_breakDams s m args below meth c G cX3_breakDams Qm Q) {r4 : Int → Int → fb_St → Prop} (h4 : TT_X3_breakDams_4 p l e s m args below meth c Qm G pp r4) : TT_X3_breakDams_60 p l e s m args below meth c Qm G pp (wj_X3_breakDams_60 pp r4 Q) := by
  intro x2 x3 σ H locs ls w hl ix2 ix3 h
  unfold wj_X3_breakDams_60 at h
  obtain ⟨i24, h⟩ := h
  refine fb_iinc (b := x3 + 1) (k := 3) (lv' := [(3, .int (fb_I (x3 + 1))), (0, .ref (fb_ad G pp)), (1, .ref (fb_ad G 1)), (2, .int (fb_I x2))]) C dX3_breakDams_60 hl rfl rfl (by decide) rfl (fun ls hl => ?_)
  refine lv_goto (tgt := 4) C.1.1 C.1.2.1 dX3_breakDams_63 (by decide) ?_
  exact h4 x2 (x3 + 1) _ _ _ _ w (lv_sub hl [1, 2, 3, 0] rfl) ix2 i24 h
set_option maxRecDepth 100000 in
set_option maxHeartbeats 4000000 in
theorem tw_X3_breakDams_4 (hpp : pp = 17 ∨ pp = 29) (C : fb_C p s m args meth c G RX3 cX3_breakDams 5) (hret : fb_RI p l e rm_X3_breakDams s m args below meth c G cX3_breakDams Qm Q) {r4 : Int → Int → fb_St → Prop} (h4 : TT_X3_breakDams_4 p l e s m args below meth c Qm G pp r4) : TT_X3_breakDams_4 p l e s m args below meth c Qm G pp (wb_X3_breakDams_4 pp r4 Q) := by
  intro x2 x3 σ H locs ls w hl ix2 ix3 h
  unfold wb_X3_breakDams_4 at h
  refine lv_iload_n C.1.1 C.1.2.1 dX3_breakDams_4 rfl (lv_at hl 3 rfl) ?_
  refine lv_aload_n C.1.1 C.1.2.1 dX3_breakDams_5 rfl (lv_at hl 1 rfl) ?_
  refine fb_gi C w 2 (fb_k1 C) rfl rfl fl_X3_80 dX3_breakDams_6 ?_
  have i1 := w.2.2.2 1 2
  refine fb_icmp_ge (tgt := 66) C ix3 i1 dX3_breakDams_9 (by decide) (fun c2 => ?_) (fun c2 => ?_)
  · have h := h.2 c2
    refine lv_aload_n C.1.1 C.1.2.1 dX3_breakDams_66 rfl (lv_at hl 0 rfl) ?_
    refine fb_getr (k2 := (pp+11)) C w (fb_pk0 C hpp) rfl fl_X3_46 dX3_breakDams_67 ?_
    refine fb_iconst C dX3_breakDams_70 ?_
    refine lv_aload_n C.1.1 C.1.2.1 dX3_breakDams_71 rfl (lv_at hl 0 rfl) ?_
    refine fb_getr (k2 := (pp+1)) C w (fb_pk0 C hpp) rfl fl_X3_15 dX3_breakDams_72 ?_
    refine fb_iconst C dX3_breakDams_75 ?_
    refine lv_aload_n C.1.1 C.1.2.1 dX3_breakDams_76 rfl (lv_at hl 1 rfl) ?_
    refine fb_gi C w 2 (fb_k1 C) rfl rfl fl_X3_80 dX3_breakDams_77 ?_
    have i3 := w.2.2.2 1 2
    obtain ⟨z4, z5, z6, h⟩ := h
    refine fb_cy C w 144 144 (fb_pk11 C hpp) (fb_pk1 C hpp) rfl rfl rfl z4 z5 z6 mc_X3_49 ⟨Nat.le_of_ble_eq_true rfl, Nat.le_of_ble_eq_true rfl⟩ hl.1 dX3_breakDams_80 (fun σ7 H locs eσ7 w => ?_)
    have h := h σ7 eσ7
    refine lv_iload_n C.1.1 C.1.2.1 dX3_breakDams_83 rfl (lv_at hl 2 rfl) ?_
    exact hret _ _ _ _ _ _ ix2 h w dX3_breakDams_84
  · have h := h.1 c2
    refine lv_aload_n C.1.1 C.1.2.1 dX3_breakDams_12 rfl (lv_at hl 0 rfl) ?_
    refine fb_getr (k2 := (pp+11)) C w (fb_pk0 C hpp) rfl fl_X3_46 dX3_breakDams_13 ?_
    refine lv_iload_n C.1.1 C.1.2.1 dX3_breakDams_16 rfl (lv_at hl 3 rfl) ?_
    refine lv_aload_n C.1.1 C.1.2.1 dX3_breakDams_17 rfl (lv_at hl 0 rfl) ?_
    refine fb_getr (k2 := (pp+1)) C w (fb_pk0 C hpp) rfl fl_X3_15 dX3_breakDams_18 ?_
    refine lv_iload_n C.1.1 C.1.2.1 dX3_breakDams_21 rfl (lv_at hl 3 rfl) ?_
    obtain ⟨z8, z9, h⟩ := h
    refine fb_al C w 144 (fb_pk1 C hpp) rfl rfl z8 z9 dX3_breakDams_22 ?_
    have i10 := w.2.2.2 (pp+1) x3
    obtain ⟨z11, z12, h⟩ := h
    refine fb_as C w 144 (fb_pk11 C hpp) rfl rfl i10 z11 z12 dX3_breakDams_23 (fun σ13 H locs eσ13 w => ?_)
    have h := h σ13 eσ13
    refine lv_aload_n C.1.1 C.1.2.1 dX3_breakDams_24 rfl (lv_at hl 0 rfl) ?_
    refine fb_getr (k2 := (pp+1)) C w (fb_pk0 C hpp) rfl fl_X3_15 dX3_breakDams_25 ?_
    refine lv_iload_n C.1.1 C.1.2.1 dX3_breakDams_28 rfl (lv_at hl 3 rfl) ?_
    obtain ⟨z14, z15, h⟩ := h
    refine fb_al C w 144 (fb_pk1 C hpp) rfl rfl z14 z15 dX3_breakDams_29 ?_
    have i16 := w.2.2.2 (pp+1) x3
    refine fb_if_ne (tgt := 60) C i16 dX3_breakDams_30 (by decide) (fun c17 => ?_) (fun c17 => ?_)
    · have h := h.2 c17
      exact tw_X3_breakDams_60 hpp C hret h4 x2 x3 _ _ _ _ w (lv_sub hl [0, 1, 2, 3] rfl) ix2 ix3 h
    · have h := h.1 c17
      refine lv_aload_n C.1.1 C.1.2.1 dX3_breakDams_33 rfl (lv_at hl 1 rfl) ?_
      refine lv_iload_n C.1.1 C.1.2.1 dX3_breakDams_34 rfl (lv_at hl 3 rfl) ?_
      refine lv_aload_n C.1.1 C.1.2.1 dX3_breakDams_35 rfl (lv_at hl 0 rfl) ?_
      refine fb_getr (k2 := (pp+1)) C w (fb_pk0 C hpp) rfl fl_X3_15 dX3_breakDams_36 ?_
      refine fb_callVi (As := [.int (fb_I x3), .ref (fb_ad G (pp+1))]) (rest := []) C w (ct_X5_onlyBasinAround l G (fb_pk1 C hpp) ix3 h) mv_X3_127 (fb_k1 C) rfl ⟨rfl, rfl, Nat.le_of_ble_eq_true rfl, Nat.le_of_ble_eq_true rfl, Nat.zero_le _, Nat.zero_le _⟩ rfl hl.1 rfl (Nat.le_of_ble_eq_true rfl) dX3_breakDams_39 (fun a18 σ18 H locs h ia18 w => ?_)
      refine lv_istore (lv' := [(4, .int (fb_I a18)), (0, .ref (fb_ad G pp)), (1, .ref (fb_ad G 1)), (2, .int (fb_I x2)), (3, .int (fb_I x3))]) C.1.1 C.1.2.1 dX3_breakDams_42 hl (by decide) rfl (fun ls hl => ?_)
      refine lv_iload C.1.1 C.1.2.1 dX3_breakDams_44 (lv_at hl 0 rfl) ?_
      refine fb_if_le (tgt := 60) C ia18 dX3_breakDams_46 (by decide) (fun c19 => ?_) (fun c19 => ?_)
      · have h := h.2 c19
        exact tw_X3_breakDams_60 hpp C hret h4 x2 x3 _ _ _ _ w (lv_sub hl [1, 2, 3, 4] rfl) ix2 ix3 h
      · have h := h.1 c19
        refine lv_aload_n C.1.1 C.1.2.1 dX3_breakDams_49 rfl (lv_at hl 1 rfl) ?_
        refine fb_getr (k2 := (pp+11)) C w (fb_pk0 C hpp) rfl fl_X3_46 dX3_breakDams_50 ?_
        refine lv_iload_n C.1.1 C.1.2.1 dX3_breakDams_53 rfl (lv_at hl 4 rfl) ?_
        refine lv_iload C.1.1 C.1.2.1 dX3_breakDams_54 (lv_at hl 0 rfl) ?_
        obtain ⟨z20, z21, h⟩ := h
        refine fb_as C w 144 (fb_pk11 C hpp) rfl rfl ia18 z20 z21 dX3_breakDams_56 (fun σ22 H locs eσ22 w => ?_)
        have h := h σ22 eσ22
        obtain ⟨i23, h⟩ := h
        refine fb_iinc (b := x2 + 1) (k := 3) (lv' := [(2, .int (fb_I (x2 + 1))), (4, .int (fb_I a18)), (0, .ref (fb_ad G pp)), (1, .ref (fb_ad G 1)), (3, .int (fb_I x3))]) C dX3_breakDams_57 hl rfl rfl (by decide) rfl (fun ls hl => ?_)
        exact tw_X3_breakDams_60 hpp C hret h4 (x2 + 1) x3 _ _ _ _ w (lv_sub hl [2, 3, 0, 4] rfl) i23 ix3 h
theorem tl_X3_breakDams_4 (hpp : pp = 17 ∨ pp = 29) (C : fb_C p s m args meth c G RX3 cX3_breakDams 5) (hret : fb_RI p l e rm_X3_breakDams s m args below meth c G cX3_breakDams Qm Q) : ∀ n : Nat, TT_X3_breakDams_4 p l e s m args below meth c Qm G pp (wl_X3_breakDams_4 pp Q n) := by
  intro n
  induction n with
  | zero => intro x2 x3 σ H locs ls w hl ix2 ix3 h; exact h.elim
  | succ n ih => exact tw_X3_breakDams_4 hpp C hret ih
set_option maxRecDepth 100000 in
set_option maxHeartbeats 4000000 in
theorem tw_X3_breakDams_0 (hpp : pp = 17 ∨ pp = 29) (C : fb_C p s m args meth c G RX3 cX3_breakDams 5) (hret : fb_RI p l e rm_X3_breakDams s m args below meth c G cX3_breakDams Qm Q) : TT_X3_breakDams_0 p l e s m args below meth c Qm G pp (fun σ => wp_X3_breakDams pp σ Q) := by
  intro σ H locs ls w hl h
  unfold wp_X3_breakDams at h
  refine fb_iconst C dX3_breakDams_0 ?_
  refine lv_istore_n (lv' := [(2, .int (fb_I 0)), (0, .ref (fb_ad G pp)), (1, .ref (fb_ad G 1))]) C.1.1 C.1.2.1 dX3_breakDams_1 rfl hl (by decide) rfl (fun ls hl => ?_)
  refine fb_iconst C dX3_breakDams_2 ?_
  refine lv_istore_n (lv' := [(3, .int (fb_I 0)), (2, .int (fb_I 0)), (0, .ref (fb_ad G pp)), (1, .ref (fb_ad G 1))]) C.1.1 C.1.2.1 dX3_breakDams_3 rfl hl (by decide) rfl (fun ls hl => ?_)
  obtain ⟨n, h⟩ := h
  exact tl_X3_breakDams_4 hpp C hret n 0 0 _ _ _ _ w (lv_sub hl [2, 3, 1, 0] rfl) (by decide) (by decide) h
theorem ct_X3_breakDams (l : Launch) (G : fb_G) (hpp : pp = 17 ∨ pp = 29) {σ : fb_St} (h : wp_X3_breakDams pp σ Q) : fb_MI l G yX3_breakDams cX3_breakDams 5 (some .int) rm_X3_breakDams [.ref (fb_ad G pp), .ref (fb_ad G 1)] σ Q := by
  refine fb_ofW (own := RX3) (by decide) (Nat.le_of_ble_eq_true rfl) rfl (fun p e s m args below meth c ls C hr hl w => ?_)
  exact tw_X3_breakDams_0 hpp C (fb_reti C hr) _ _ _ _ w hl h
end S_X3_breakDams
section S_X3_run
variable {p : Program} {l : Launch} {e : Env} {s : State} {m : MethodId} {args : Array Value} {below : List Frame} {meth : Method} {c : Code} {Qm : State → Prop} {G : fb_G} {Q : Int → fb_St → Prop} {pp : Nat}
abbrev TT_X3_run_21 (p : Program) (l : Launch) (e : Env) (s : State) (m : MethodId) (args : Array Value) (below : List Frame) (meth : Method) (c : Code) (Qm : State → Prop) (G : fb_G) (pp : Nat) (r : Int → Int → Int → fb_St → Prop) : Prop := ∀ (x3 x4 x5 : Int) (σ : fb_St) (H : Heap) (locs : List Loc) (ls : Array Slot), fb_Wd G s σ H locs → lv_has ls 7 [(0, .ref (fb_ad G pp)), (1, .ref (fb_ad G 1)), (3, .int (fb_I x3)), (4, .int (fb_I x4)), (5, .int (fb_I x5))] → fb_in x3 → fb_in x4 → fb_in x5 → r x3 x4 x5 σ → W p l e rm_X3_run s m args below meth c H locs 0 0 Qm (F0 m 21 ls [])
abbrev TT_X3_run_0 (p : Program) (l : Launch) (e : Env) (s : State) (m : MethodId) (args : Array Value) (below : List Frame) (meth : Method) (c : Code) (Qm : State → Prop) (G : fb_G) (pp : Nat) (r : Int → Int → fb_St → Prop) : Prop := ∀ (x3 x4 : Int) (σ : fb_St) (H : Heap) (locs : List Loc) (ls : Array Slot), fb_Wd G s σ H locs → lv_has ls 7 [(0, .ref (fb_ad G pp)), (1, .ref (fb_ad G 1)), (2, .ref (fb_ad G 9)), (3, .int (fb_I x3)), (4, .int (fb_I x4))] → fb_in x3 → fb_in x4 → r x3 x4 σ → W p l e rm_X3_run s m args below meth c H locs 0 0 Qm (F0 m 0 ls [])
set_option maxRecDepth 100000 in
set_option maxHeartbeats 4000000 in
theorem tw_X3_run_21 (hpp : pp = 17 ∨ pp = 29) (C : fb_C p s m args meth c G RX3 cX3_run 7) (hret : fb_RV p l e rm_X3_run s m args below meth c G cX3_run Qm Q) {r21 : Int → Int → Int → fb_St → Prop} (h21 : TT_X3_run_21 p l e s m args below meth c Qm G pp r21) : TT_X3_run_21 p l e s m args below meth c Qm G pp (wb_X3_run_21 pp r21 Q) := by
  intro x3 x4 x5 σ H locs ls w hl ix3 ix4 ix5 h
  unfold wb_X3_run_21 at h
  refine lv_iload C.1.1 C.1.2.1 dX3_run_21 (lv_at hl 4 rfl) ?_
  refine fb_bipush C dX3_run_23 (by decide) ?_
  refine fb_icmp_ge (tgt := 87) C ix5 (by decide) dX3_run_25 (by decide) (fun c3 => ?_) (fun c3 => ?_)
  · have h := h.2 c3
    exact hret _ _ _ _ _ h w dX3_run_87
  · have h := h.1 c3
    refine lv_aload_n C.1.1 C.1.2.1 dX3_run_28 rfl (lv_at hl 0 rfl) ?_
    refine lv_aload_n C.1.1 C.1.2.1 dX3_run_29 rfl (lv_at hl 1 rfl) ?_
    refine fb_callVv (As := [.ref (fb_ad G 1)]) (rest := []) C w (ct_X3_measure l G hpp h) mv_X3_55 (fb_pk0 C hpp) rfl ⟨rfl, rfl, Nat.le_of_ble_eq_true rfl, Nat.le_of_ble_eq_true rfl, Nat.zero_le _, Nat.zero_le _⟩ rfl hl.1 rfl (Nat.le_of_ble_eq_true rfl) dX3_run_30 (fun σ4 H locs h w => ?_)
    refine lv_aload_n C.1.1 C.1.2.1 dX3_run_33 rfl (lv_at hl 0 rfl) ?_
    refine lv_iload_n C.1.1 C.1.2.1 dX3_run_34 rfl (lv_at hl 2 rfl) ?_
    refine lv_iload C.1.1 C.1.2.1 dX3_run_35 (lv_at hl 3 rfl) ?_
    refine fb_callVi (As := [.int (fb_I x3), .int (fb_I x4)]) (rest := []) C w (ct_X3_nextToPour l G hpp ix3 ix4 h) mv_X3_59 (fb_pk0 C hpp) rfl ⟨rfl, rfl, Nat.le_of_ble_eq_true rfl, Nat.le_of_ble_eq_true rfl, Nat.zero_le _, Nat.zero_le _⟩ rfl hl.1 rfl (Nat.le_of_ble_eq_true rfl) dX3_run_37 (fun a5 σ5 H locs h ia5 w => ?_)
    refine lv_istore (lv' := [(6, .int (fb_I a5)), (0, .ref (fb_ad G pp)), (1, .ref (fb_ad G 1)), (3, .int (fb_I x3)), (4, .int (fb_I x4)), (5, .int (fb_I x5))]) C.1.1 C.1.2.1 dX3_run_40 hl (by decide) rfl (fun ls hl => ?_)
    refine lv_iload C.1.1 C.1.2.1 dX3_run_42 (lv_at hl 0 rfl) ?_
    refine fb_bipush C dX3_run_44 (by decide) ?_
    refine fb_icmp_ne (tgt := 50) C ia5 (by decide) dX3_run_46 (by decide) (fun c6 => ?_) (fun c6 => ?_)
    · have h := h.2 c6
      refine lv_aload_n C.1.1 C.1.2.1 dX3_run_50 rfl (lv_at hl 1 rfl) ?_
      refine lv_aload_n C.1.1 C.1.2.1 dX3_run_51 rfl (lv_at hl 2 rfl) ?_
      refine lv_iload C.1.1 C.1.2.1 dX3_run_52 (lv_at hl 0 rfl) ?_
      refine fb_callVv (As := [.ref (fb_ad G 1), .int (fb_I a5)]) (rest := []) C w (ct_X3_pourOut l G hpp ia5 h) mv_X3_63 (fb_pk0 C hpp) rfl ⟨rfl, rfl, Nat.le_of_ble_eq_true rfl, Nat.le_of_ble_eq_true rfl, Nat.zero_le _, Nat.zero_le _⟩ rfl hl.1 rfl (Nat.le_of_ble_eq_true rfl) dX3_run_54 (fun σ7 H locs h w => ?_)
      refine lv_aload_n C.1.1 C.1.2.1 dX3_run_57 rfl (lv_at hl 1 rfl) ?_
      refine fb_getr (k2 := (pp+10)) C w (fb_pk0 C hpp) rfl fl_X3_43 dX3_run_58 ?_
      refine lv_aload_n C.1.1 C.1.2.1 dX3_run_61 rfl (lv_at hl 1 rfl) ?_
      refine fb_gi C w 0 (fb_pk0 C hpp) rfl rfl fl_X3_9 dX3_run_62 ?_
      have i8 := w.2.2.2 pp 0
      refine lv_aload_n C.1.1 C.1.2.1 dX3_run_65 rfl (lv_at hl 1 rfl) ?_
      refine lv_aload_n C.1.1 C.1.2.1 dX3_run_66 rfl (lv_at hl 2 rfl) ?_
      refine fb_callVi (As := [.ref (fb_ad G 1)]) (rest := [.int (fb_I (σ7 pp 0)), .ref (fb_ad G (pp+10))]) C w (ct_X3_breakDams l G hpp h) mv_X3_67 (fb_pk0 C hpp) rfl ⟨rfl, rfl, Nat.le_of_ble_eq_true rfl, Nat.le_of_ble_eq_true rfl, Nat.zero_le _, Nat.zero_le _⟩ rfl hl.1 rfl (Nat.le_of_ble_eq_true rfl) dX3_run_67 (fun a9 σ9 H locs h ia9 w => ?_)
      obtain ⟨z10, z11, h⟩ := h
      refine fb_as C w 99 (fb_pk10 C hpp) rfl rfl ia9 z10 z11 dX3_run_70 (fun σ12 H locs eσ12 w => ?_)
      have h := h σ12 eσ12
      refine lv_aload_n C.1.1 C.1.2.1 dX3_run_71 rfl (lv_at hl 1 rfl) ?_
      refine lv_dup C.1.1 C.1.2.1 dX3_run_72 rfl ?_
      refine fb_gi C w 0 (fb_pk0 C hpp) rfl rfl fl_X3_9 dX3_run_73 ?_
      have i13 := w.2.2.2 pp 0
      refine fb_iconst C dX3_run_76 ?_
      obtain ⟨i14, h⟩ := h
      refine fb_iadd C dX3_run_77 ?_
      refine fb_pi C w 0 (fb_pk0 C hpp) rfl rfl fl_X3_9 tyX3_ok nmX3 rfl i14 rfl rfl dX3_run_78 (fun σ15 H locs eσ15 w => ?_)
      have h := h σ15 eσ15
      obtain ⟨i16, h⟩ := h
      refine fb_iinc (b := x5 + 1) (k := 5) (lv' := [(5, .int (fb_I (x5 + 1))), (6, .int (fb_I a5)), (0, .ref (fb_ad G pp)), (1, .ref (fb_ad G 1)), (3, .int (fb_I x3)), (4, .int (fb_I x4))]) C dX3_run_81 hl rfl rfl (by decide) rfl (fun ls hl => ?_)
      refine lv_goto (tgt := 21) C.1.1 C.1.2.1 dX3_run_84 (by decide) ?_
      exact h21 x3 x4 (x5 + 1) _ _ _ _ w (lv_sub hl [2, 3, 4, 5, 0] rfl) ix3 ix4 i16 h
    · have h := h.1 c6
      exact hret _ _ _ _ _ h w dX3_run_49
theorem tl_X3_run_21 (hpp : pp = 17 ∨ pp = 29) (C : fb_C p s m args meth c G RX3 cX3_run 7) (hret : fb_RV p l e rm_X3_run s m args below meth c G cX3_run Qm Q) : ∀ n : Nat, TT_X3_run_21 p l e s m args below meth c Qm G pp (wl_X3_run_21 pp Q n) := by
  intro n
  induction n with
  | zero => intro x3 x4 x5 σ H locs ls w hl ix3 ix4 ix5 h; exact h.elim
  | succ n ih => exact tw_X3_run_21 hpp C hret ih
set_option maxRecDepth 100000 in
set_option maxHeartbeats 4000000 in
theorem tw_X3_run_0 (hpp : pp = 17 ∨ pp = 29) (C : fb_C p s m args meth c G RX3 cX3_run 7) (hret : fb_RV p l e rm_X3_run s m args below meth c G cX3_run Qm Q) : TT_X3_run_0 p l e s m args below meth c Qm G pp (fun x3 x4 σ => wp_X3_run pp x3 x4 σ Q) := by
  intro x3 x4 σ H locs ls w hl ix3 ix4 h
  unfold wp_X3_run at h
  refine lv_aload_n C.1.1 C.1.2.1 dX3_run_0 rfl (lv_at hl 2 rfl) ?_
  refine fb_iconst C dX3_run_1 ?_
  refine lv_aload_n C.1.1 C.1.2.1 dX3_run_2 rfl (lv_at hl 0 rfl) ?_
  refine fb_getr (k2 := (pp+1)) C w (fb_pk0 C hpp) rfl fl_X3_15 dX3_run_3 ?_
  refine fb_iconst C dX3_run_6 ?_
  refine fb_sipush C dX3_run_7 (by decide) ?_
  refine fb_cy C w 144 144 (fb_k9 C) (fb_pk1 C hpp) rfl rfl rfl (by decide) (by decide) (by decide) mc_X3_49 ⟨Nat.le_of_ble_eq_true rfl, Nat.le_of_ble_eq_true rfl⟩ hl.1 dX3_run_10 (fun σ1 H locs eσ1 w => ?_)
  have h := h σ1 eσ1
  refine lv_aload_n C.1.1 C.1.2.1 dX3_run_13 rfl (lv_at hl 0 rfl) ?_
  refine fb_iconst C dX3_run_14 ?_
  refine fb_pi C w 0 (fb_pk0 C hpp) rfl rfl fl_X3_9 tyX3_ok nmX3 rfl (by decide) rfl rfl dX3_run_15 (fun σ2 H locs eσ2 w => ?_)
  have h := h σ2 eσ2
  refine fb_iconst C dX3_run_18 ?_
  refine lv_istore (lv' := [(5, .int (fb_I 0)), (0, .ref (fb_ad G pp)), (1, .ref (fb_ad G 1)), (2, .ref (fb_ad G 9)), (3, .int (fb_I x3)), (4, .int (fb_I x4))]) C.1.1 C.1.2.1 dX3_run_19 hl (by decide) rfl (fun ls hl => ?_)
  obtain ⟨n, h⟩ := h
  exact tl_X3_run_21 hpp C hret n x3 x4 0 _ _ _ _ w (lv_sub hl [1, 2, 4, 5, 0] rfl) ix3 ix4 (by decide) h
theorem ct_X3_run (l : Launch) (G : fb_G) (hpp : pp = 17 ∨ pp = 29) {x3 : Int} {x4 : Int} {σ : fb_St} (ix3 : fb_in x3) (ix4 : fb_in x4) (h : wp_X3_run pp x3 x4 σ Q) : fb_MV l G yX3_run cX3_run 7 rm_X3_run [.ref (fb_ad G pp), .ref (fb_ad G 1), .ref (fb_ad G 9), .int (fb_I x3), .int (fb_I x4)] σ Q := by
  refine fb_ofW (own := RX3) (by decide) (Nat.le_of_ble_eq_true rfl) rfl (fun p e s m args below meth c ls C hr hl w => ?_)
  exact tw_X3_run_0 hpp C (fb_retv C hr) _ _ _ _ _ _ w hl ix3 ix4 h
end S_X3_run
section S_X6_standingPour
variable {p : Program} {l : Launch} {e : Env} {s : State} {m : MethodId} {args : Array Value} {below : List Frame} {meth : Method} {c : Code} {Qm : State → Prop} {G : fb_G} {Q : Int → fb_St → Prop}
abbrev TT_X6_standingPour_38 (p : Program) (l : Launch) (e : Env) (s : State) (m : MethodId) (args : Array Value) (below : List Frame) (meth : Method) (c : Code) (Qm : State → Prop) (G : fb_G) (r : fb_St → Prop) : Prop := ∀ (σ : fb_St) (H : Heap) (locs : List Loc) (ls : Array Slot), fb_Wd G s σ H locs → lv_has ls 1 [(0, .ref (fb_ad G 0))] → r σ → W p l e rm_X6_standingPour s m args below meth c H locs 0 0 Qm (F0 m 38 ls [])
abbrev TT_X6_standingPour_0 (p : Program) (l : Launch) (e : Env) (s : State) (m : MethodId) (args : Array Value) (below : List Frame) (meth : Method) (c : Code) (Qm : State → Prop) (G : fb_G) (r : fb_St → Prop) : Prop := ∀ (σ : fb_St) (H : Heap) (locs : List Loc) (ls : Array Slot), fb_Wd G s σ H locs → lv_has ls 1 [(0, .ref (fb_ad G 0))] → r σ → W p l e rm_X6_standingPour s m args below meth c H locs 0 0 Qm (F0 m 0 ls [])
set_option maxRecDepth 100000 in
set_option maxHeartbeats 4000000 in
theorem tw_X6_standingPour_38 (C : fb_C p s m args meth c G RX6 cX6_standingPour 1) (hret : fb_RR p l e rm_X6_standingPour s m args below meth c G cX6_standingPour Qm 17 Q) : TT_X6_standingPour_38 p l e s m args below meth c Qm G (wj_X6_standingPour_38 Q) := by
  intro σ H locs ls w hl h
  unfold wj_X6_standingPour_38 at h
  refine lv_aload_n C.1.1 C.1.2.1 dX6_standingPour_38 rfl (lv_at hl 0 rfl) ?_
  refine fb_getr (k2 := 17) C w (fb_k0 C) rfl fl_X6_33 dX6_standingPour_39 ?_
  exact hret _ _ _ _ _ h w dX6_standingPour_42
set_option maxRecDepth 100000 in
set_option maxHeartbeats 4000000 in
theorem tw_X6_standingPour_0 (C : fb_C p s m args meth c G RX6 cX6_standingPour 1) (hret : fb_RR p l e rm_X6_standingPour s m args below meth c G cX6_standingPour Qm 17 Q) : TT_X6_standingPour_0 p l e s m args below meth c Qm G (fun σ => wp_X6_standingPour σ Q) := by
  intro σ H locs ls w hl h
  unfold wp_X6_standingPour at h
  refine lv_aload_n C.1.1 C.1.2.1 dX6_standingPour_0 rfl (lv_at hl 0 rfl) ?_
  refine fb_gi C w 9 (fb_k0 C) rfl rfl fl_X6_58 dX6_standingPour_1 ?_
  have i1 := w.2.2.2 0 9
  refine fb_if_ne (tgt := 38) C i1 dX6_standingPour_4 (by decide) (fun c2 => ?_) (fun c2 => ?_)
  · have h := h.2 c2
    exact tw_X6_standingPour_38 C hret _ _ _ _ w (lv_sub hl [0] rfl) h
  · have h := h.1 c2
    refine lv_aload_n C.1.1 C.1.2.1 dX6_standingPour_7 rfl (lv_at hl 0 rfl) ?_
    refine fb_getr (k2 := 17) C w (fb_k0 C) rfl fl_X6_33 dX6_standingPour_8 ?_
    refine lv_aload_n C.1.1 C.1.2.1 dX6_standingPour_11 rfl (lv_at hl 0 rfl) ?_
    refine fb_getr (k2 := 1) C w (fb_k0 C) rfl fl_X6_10 dX6_standingPour_12 ?_
    refine lv_aload_n C.1.1 C.1.2.1 dX6_standingPour_15 rfl (lv_at hl 0 rfl) ?_
    refine fb_callVr (As := []) (rest := [.ref (fb_ad G 1), .ref (fb_ad G 17)]) C w (ct_X6_standingFlood l G h) mv_X6_110 (fb_k0 C) rfl ⟨rfl, rfl, Nat.le_of_ble_eq_true rfl, Nat.le_of_ble_eq_true rfl, Nat.zero_le _, Nat.zero_le _⟩ rfl hl.1 rfl (Nat.le_of_ble_eq_true rfl) dX6_standingPour_16 (fun σ3 H locs h w => ?_)
    refine fb_getr (k2 := 9) C w (fb_k8 C) rfl fl_X6_114 dX6_standingPour_19 ?_
    refine lv_aload_n C.1.1 C.1.2.1 dX6_standingPour_22 rfl (lv_at hl 0 rfl) ?_
    refine fb_gi C w 6 (fb_k0 C) rfl rfl fl_X6_47 dX6_standingPour_23 ?_
    have i4 := w.2.2.2 0 6
    refine lv_aload_n C.1.1 C.1.2.1 dX6_standingPour_26 rfl (lv_at hl 0 rfl) ?_
    refine fb_gi C w 7 (fb_k0 C) rfl rfl fl_X6_51 dX6_standingPour_27 ?_
    have i5 := w.2.2.2 0 7
    refine fb_callVv (As := [.ref (fb_ad G 1), .ref (fb_ad G 9), .int (fb_I (σ3 0 6)), .int (fb_I (σ3 0 7))]) (rest := []) C w (ct_X3_run l G (Or.inl rfl) i4 i5 h) mv_X6_223 (fb_k17 C) rfl ⟨rfl, rfl, Nat.le_of_ble_eq_true rfl, Nat.le_of_ble_eq_true rfl, Nat.zero_le _, Nat.zero_le _⟩ rfl hl.1 rfl (Nat.le_of_ble_eq_true rfl) dX6_standingPour_30 (fun σ6 H locs h w => ?_)
    refine lv_aload_n C.1.1 C.1.2.1 dX6_standingPour_33 rfl (lv_at hl 0 rfl) ?_
    refine fb_iconst C dX6_standingPour_34 ?_
    refine fb_pi C w 9 (fb_k0 C) rfl rfl fl_X6_58 tyX6_ok nmX6 rfl (by decide) (fb_nzb (by decide)) (fb_fzb (by decide)) dX6_standingPour_35 (fun σ7 H locs eσ7 w => ?_)
    have h := h σ7 eσ7
    exact tw_X6_standingPour_38 C hret _ _ _ _ w (lv_sub hl [0] rfl) h
theorem ct_X6_standingPour (l : Launch) (G : fb_G) {σ : fb_St} (h : wp_X6_standingPour σ Q) : fb_MR l G yX6_standingPour cX6_standingPour 1 (some (.object "FloodBasins$Pour")) rm_X6_standingPour 17 [.ref (fb_ad G 0)] σ Q := by
  refine fb_ofW (own := RX6) (by decide) (Nat.le_of_ble_eq_true rfl) rfl (fun p e s m args below meth c ls C hr hl w => ?_)
  exact tw_X6_standingPour_0 C (fb_retr C hr (Or.inl ⟨_, rfl⟩)) _ _ _ _ w hl h
end S_X6_standingPour
section S_X6_dot
variable {p : Program} {l : Launch} {e : Env} {s : State} {m : MethodId} {args : Array Value} {below : List Frame} {meth : Method} {c : Code} {Qm : State → Prop} {G : fb_G} {Q : Int → fb_St → Prop}
abbrev TT_X6_dot_0 (p : Program) (l : Launch) (e : Env) (s : State) (m : MethodId) (args : Array Value) (below : List Frame) (meth : Method) (c : Code) (Qm : State → Prop) (G : fb_G) (r : Int → Int → Int → fb_St → Prop) : Prop := ∀ (x1 x2 x3 : Int) (σ : fb_St) (H : Heap) (locs : List Loc) (ls : Array Slot), fb_Wd G s σ H locs → lv_has ls 5 [(0, .ref (fb_ad G 0)), (1, .int (fb_I x1)), (2, .int (fb_I x2)), (3, .int (fb_I x3))] → fb_in x1 → fb_in x2 → fb_in x3 → r x1 x2 x3 σ → W p l e rm_X6_dot s m args below meth c H locs 0 0 Qm (F0 m 0 ls [])
set_option maxRecDepth 100000 in
set_option maxHeartbeats 4000000 in
theorem tw_X6_dot_0 (C : fb_C p s m args meth c G RX6 cX6_dot 5) (hret : fb_RI p l e rm_X6_dot s m args below meth c G cX6_dot Qm Q) : TT_X6_dot_0 p l e s m args below meth c Qm G (fun x1 x2 x3 σ => wp_X6_dot x1 x2 x3 σ Q) := by
  intro x1 x2 x3 σ H locs ls w hl ix1 ix2 ix3 h
  unfold wp_X6_dot at h
  refine lv_aload_n C.1.1 C.1.2.1 dX6_dot_0 rfl (lv_at hl 0 rfl) ?_
  refine fb_getr (k2 := 1) C w (fb_k0 C) rfl fl_X6_10 dX6_dot_1 ?_
  refine lv_iload_n C.1.1 C.1.2.1 dX6_dot_4 rfl (lv_at hl 1 rfl) ?_
  refine lv_iload_n C.1.1 C.1.2.1 dX6_dot_5 rfl (lv_at hl 2 rfl) ?_
  refine fb_callVi (As := [.int (fb_I x1), .int (fb_I x2)]) (rest := []) C w (ct_X5_dotAt l G ix1 ix2 h) mv_X6_83 (fb_k1 C) rfl ⟨rfl, rfl, Nat.le_of_ble_eq_true rfl, Nat.le_of_ble_eq_true rfl, Nat.zero_le _, Nat.zero_le _⟩ rfl hl.1 rfl (Nat.le_of_ble_eq_true rfl) dX6_dot_6 (fun a1 σ1 H locs h ia1 w => ?_)
  refine lv_istore (lv' := [(4, .int (fb_I a1)), (0, .ref (fb_ad G 0)), (1, .int (fb_I x1)), (2, .int (fb_I x2)), (3, .int (fb_I x3))]) C.1.1 C.1.2.1 dX6_dot_9 hl (by decide) rfl (fun ls hl => ?_)
  refine lv_iload C.1.1 C.1.2.1 dX6_dot_11 (lv_at hl 0 rfl) ?_
  refine fb_iconst C dX6_dot_13 ?_
  refine fb_icmp_ne (tgt := 20) C ia1 (by decide) dX6_dot_14 (by decide) (fun c2 => ?_) (fun c2 => ?_)
  · have h := h.2 c2
    refine lv_iload_n C.1.1 C.1.2.1 dX6_dot_20 rfl (lv_at hl 4 rfl) ?_
    by_cases c3 : x3 = 0
    · have h := h.1 c3
      refine fb_tableIn (tgt := 60) (j := 0) C ix3 dX6_dot_21 c3 (by decide) rfl (by decide) ?_
      refine lv_aload_n C.1.1 C.1.2.1 dX6_dot_60 rfl (lv_at hl 1 rfl) ?_
      refine fb_getr (k2 := 1) C w (fb_k0 C) rfl fl_X6_10 dX6_dot_61 ?_
      refine fb_getr (k2 := 2) C w (fb_k1 C) rfl fl_X6_90 dX6_dot_64 ?_
      refine lv_iload C.1.1 C.1.2.1 dX6_dot_67 (lv_at hl 0 rfl) ?_
      obtain ⟨z4, z5, h⟩ := h
      refine fb_al C w 144 (fb_k2 C) rfl rfl z4 z5 dX6_dot_69 ?_
      have i6 := w.2.2.2 2 a1
      exact hret _ _ _ _ _ _ i6 h w dX6_dot_70
    by_cases c7 : x3 = 1
    · have h := h.2.1 c7
      refine fb_tableIn (tgt := 71) (j := 1) C ix3 dX6_dot_21 c7 (by decide) rfl (by decide) ?_
      refine lv_aload_n C.1.1 C.1.2.1 dX6_dot_71 rfl (lv_at hl 1 rfl) ?_
      refine fb_getr (k2 := 1) C w (fb_k0 C) rfl fl_X6_10 dX6_dot_72 ?_
      refine fb_getr (k2 := 3) C w (fb_k1 C) rfl fl_X6_94 dX6_dot_75 ?_
      refine lv_iload C.1.1 C.1.2.1 dX6_dot_78 (lv_at hl 0 rfl) ?_
      obtain ⟨z8, z9, h⟩ := h
      refine fb_al C w 144 (fb_k3 C) rfl rfl z8 z9 dX6_dot_80 ?_
      have i10 := w.2.2.2 3 a1
      exact hret _ _ _ _ _ _ i10 h w dX6_dot_81
    by_cases c11 : x3 = 2
    · have h := h.2.2.1 c11
      refine fb_tableIn (tgt := 82) (j := 2) C ix3 dX6_dot_21 c11 (by decide) rfl (by decide) ?_
      refine lv_aload_n C.1.1 C.1.2.1 dX6_dot_82 rfl (lv_at hl 1 rfl) ?_
      refine fb_callVr (As := []) (rest := []) C w (ct_X6_standingFlood l G h) mv_X6_110 (fb_k0 C) rfl ⟨rfl, rfl, Nat.le_of_ble_eq_true rfl, Nat.le_of_ble_eq_true rfl, Nat.zero_le _, Nat.zero_le _⟩ rfl hl.1 rfl (Nat.le_of_ble_eq_true rfl) dX6_dot_83 (fun σ12 H locs h w => ?_)
      refine fb_getr (k2 := 9) C w (fb_k8 C) rfl fl_X6_114 dX6_dot_86 ?_
      refine lv_iload C.1.1 C.1.2.1 dX6_dot_89 (lv_at hl 0 rfl) ?_
      obtain ⟨z13, z14, h⟩ := h
      refine fb_al C w 144 (fb_k9 C) rfl rfl z13 z14 dX6_dot_91 ?_
      have i15 := w.2.2.2 9 a1
      exact hret _ _ _ _ _ _ i15 h w dX6_dot_92
    by_cases c16 : x3 = 3
    · have h := h.2.2.2.1 c16
      refine fb_tableIn (tgt := 93) (j := 3) C ix3 dX6_dot_21 c16 (by decide) rfl (by decide) ?_
      refine lv_aload_n C.1.1 C.1.2.1 dX6_dot_93 rfl (lv_at hl 1 rfl) ?_
      refine fb_callVr (As := []) (rest := []) C w (ct_X6_standingFlood l G h) mv_X6_110 (fb_k0 C) rfl ⟨rfl, rfl, Nat.le_of_ble_eq_true rfl, Nat.le_of_ble_eq_true rfl, Nat.zero_le _, Nat.zero_le _⟩ rfl hl.1 rfl (Nat.le_of_ble_eq_true rfl) dX6_dot_94 (fun σ17 H locs h w => ?_)
      refine fb_getr (k2 := 10) C w (fb_k8 C) rfl fl_X6_117 dX6_dot_97 ?_
      refine lv_iload C.1.1 C.1.2.1 dX6_dot_100 (lv_at hl 0 rfl) ?_
      obtain ⟨z18, z19, h⟩ := h
      refine fb_al C w 144 (fb_k10 C) rfl rfl z18 z19 dX6_dot_102 ?_
      have i20 := w.2.2.2 10 a1
      exact hret _ _ _ _ _ _ i20 h w dX6_dot_103
    by_cases c21 : x3 = 4
    · have h := h.2.2.2.2.1 c21
      refine fb_tableIn (tgt := 104) (j := 4) C ix3 dX6_dot_21 c21 (by decide) rfl (by decide) ?_
      refine lv_aload_n C.1.1 C.1.2.1 dX6_dot_104 rfl (lv_at hl 1 rfl) ?_
      refine fb_callVr (As := []) (rest := []) C w (ct_X6_standingFlood l G h) mv_X6_110 (fb_k0 C) rfl ⟨rfl, rfl, Nat.le_of_ble_eq_true rfl, Nat.le_of_ble_eq_true rfl, Nat.zero_le _, Nat.zero_le _⟩ rfl hl.1 rfl (Nat.le_of_ble_eq_true rfl) dX6_dot_105 (fun σ22 H locs h w => ?_)
      refine fb_getr (k2 := 11) C w (fb_k8 C) rfl fl_X6_120 dX6_dot_108 ?_
      refine lv_iload C.1.1 C.1.2.1 dX6_dot_111 (lv_at hl 0 rfl) ?_
      obtain ⟨z23, z24, h⟩ := h
      refine fb_al C w 144 (fb_k11 C) rfl rfl z23 z24 dX6_dot_113 ?_
      have i25 := w.2.2.2 11 a1
      exact hret _ _ _ _ _ _ i25 h w dX6_dot_114
    by_cases c26 : x3 = 5
    · have h := h.2.2.2.2.2.1 c26
      refine fb_tableIn (tgt := 115) (j := 5) C ix3 dX6_dot_21 c26 (by decide) rfl (by decide) ?_
      refine lv_aload_n C.1.1 C.1.2.1 dX6_dot_115 rfl (lv_at hl 1 rfl) ?_
      refine fb_callVr (As := []) (rest := []) C w (ct_X6_standingPour l G h) mv_X6_123 (fb_k0 C) rfl ⟨rfl, rfl, Nat.le_of_ble_eq_true rfl, Nat.le_of_ble_eq_true rfl, Nat.zero_le _, Nat.zero_le _⟩ rfl hl.1 rfl (Nat.le_of_ble_eq_true rfl) dX6_dot_116 (fun σ27 H locs h w => ?_)
      refine fb_getr (k2 := 18) C w (fb_k17 C) rfl fl_X6_127 dX6_dot_119 ?_
      refine lv_iload C.1.1 C.1.2.1 dX6_dot_122 (lv_at hl 0 rfl) ?_
      obtain ⟨z28, z29, h⟩ := h
      refine fb_al C w 144 (fb_k18 C) rfl rfl z28 z29 dX6_dot_124 ?_
      have i30 := w.2.2.2 18 a1
      exact hret _ _ _ _ _ _ i30 h w dX6_dot_125
    have c31 : x3 < 0 ∨ 5 < x3 := by omega
    have h := h.2.2.2.2.2.2 c31
    refine fb_tableOut (tgt := 126) C ix3 dX6_dot_21 c31 (by decide) ?_
    refine fb_bipush C dX6_dot_126 (by decide) ?_
    exact hret _ _ _ _ _ _ (by decide) h w dX6_dot_128
  · have h := h.1 c2
    refine fb_bipush C dX6_dot_17 (by decide) ?_
    exact hret _ _ _ _ _ _ (by decide) h w dX6_dot_19
theorem ct_X6_dot (l : Launch) (G : fb_G) {x1 : Int} {x2 : Int} {x3 : Int} {σ : fb_St} (ix1 : fb_in x1) (ix2 : fb_in x2) (ix3 : fb_in x3) (h : wp_X6_dot x1 x2 x3 σ Q) : fb_MI l G yX6_dot cX6_dot 5 (some .int) rm_X6_dot [.ref (fb_ad G 0), .int (fb_I x1), .int (fb_I x2), .int (fb_I x3)] σ Q := by
  refine fb_ofW (own := RX6) (by decide) (Nat.le_of_ble_eq_true rfl) rfl (fun p e s m args below meth c ls C hr hl w => ?_)
  exact tw_X6_dot_0 C (fb_reti C hr) _ _ _ _ _ _ _ w hl ix1 ix2 ix3 h
end S_X6_dot
section S_X6_bound
variable {p : Program} {l : Launch} {e : Env} {s : State} {m : MethodId} {args : Array Value} {below : List Frame} {meth : Method} {c : Code} {Qm : State → Prop} {G : fb_G} {Q : Int → fb_St → Prop}
abbrev TT_X6_bound_20 (p : Program) (l : Launch) (e : Env) (s : State) (m : MethodId) (args : Array Value) (below : List Frame) (meth : Method) (c : Code) (Qm : State → Prop) (G : fb_G) (r : fb_St → Prop) : Prop := ∀ (σ : fb_St) (H : Heap) (locs : List Loc) (ls : Array Slot), fb_Wd G s σ H locs → lv_has ls 3 [] → r σ → W p l e rm_X6_bound s m args below meth c H locs 0 0 Qm (F0 m 20 ls [])
abbrev TT_X6_bound_0 (p : Program) (l : Launch) (e : Env) (s : State) (m : MethodId) (args : Array Value) (below : List Frame) (meth : Method) (c : Code) (Qm : State → Prop) (G : fb_G) (r : Int → Int → fb_St → Prop) : Prop := ∀ (x1 x2 : Int) (σ : fb_St) (H : Heap) (locs : List Loc) (ls : Array Slot), fb_Wd G s σ H locs → lv_has ls 3 [(0, .ref (fb_ad G 0)), (1, .int (fb_I x1)), (2, .int (fb_I x2))] → fb_in x1 → fb_in x2 → r x1 x2 σ → W p l e rm_X6_bound s m args below meth c H locs 0 0 Qm (F0 m 0 ls [])
set_option maxRecDepth 100000 in
set_option maxHeartbeats 4000000 in
theorem tw_X6_bound_20 (C : fb_C p s m args meth c G RX6 cX6_bound 3) (hret : fb_RI p l e rm_X6_bound s m args below meth c G cX6_bound Qm Q) : TT_X6_bound_20 p l e s m args below meth c Qm G (wj_X6_bound_20 Q) := by
  intro σ H locs ls w hl h
  unfold wj_X6_bound_20 at h
  refine fb_bipush C dX6_bound_20 (by decide) ?_
  exact hret _ _ _ _ _ _ (by decide) h w dX6_bound_22
set_option maxRecDepth 100000 in
set_option maxHeartbeats 4000000 in
theorem tw_X6_bound_0 (C : fb_C p s m args meth c G RX6 cX6_bound 3) (hret : fb_RI p l e rm_X6_bound s m args below meth c G cX6_bound Qm Q) : TT_X6_bound_0 p l e s m args below meth c Qm G (fun x1 x2 σ => wp_X6_bound x1 x2 σ Q) := by
  intro x1 x2 σ H locs ls w hl ix1 ix2 h
  unfold wp_X6_bound at h
  refine lv_iload_n C.1.1 C.1.2.1 dX6_bound_0 rfl (lv_at hl 1 rfl) ?_
  refine fb_iconst C dX6_bound_1 ?_
  refine fb_iconst C dX6_bound_2 ?_
  refine fb_callSi (As := [.int (fb_I x1), .int (fb_I 0), .int (fb_I 2)]) (rest := []) C w (ct_X6_within l G ix1 (by decide) (by decide) h) ms_X6_68 ⟨rfl, rfl, Nat.le_of_ble_eq_true rfl, Nat.le_of_ble_eq_true rfl, Nat.zero_le _, Nat.zero_le _⟩ rfl hl.1 rfl (Nat.le_of_ble_eq_true rfl) dX6_bound_3 (fun a1 σ1 H locs h ia1 w => ?_)
  refine fb_if_eq (tgt := 20) C ia1 dX6_bound_6 (by decide) (fun c2 => ?_) (fun c2 => ?_)
  · have h := h.1 c2
    exact tw_X6_bound_20 C hret _ _ _ _ w (lv_sub hl [] rfl) h
  · have h := h.2 c2
    refine lv_iload_n C.1.1 C.1.2.1 dX6_bound_9 rfl (lv_at hl 2 rfl) ?_
    refine fb_iconst C dX6_bound_10 ?_
    refine fb_sipush C dX6_bound_11 (by decide) ?_
    refine fb_callSi (As := [.int (fb_I x2), .int (fb_I 0), .int (fb_I 2000)]) (rest := []) C w (ct_X6_within l G ix2 (by decide) (by decide) h) ms_X6_68 ⟨rfl, rfl, Nat.le_of_ble_eq_true rfl, Nat.le_of_ble_eq_true rfl, Nat.zero_le _, Nat.zero_le _⟩ rfl hl.1 rfl (Nat.le_of_ble_eq_true rfl) dX6_bound_14 (fun a3 σ3 H locs h ia3 w => ?_)
    refine fb_if_ne (tgt := 23) C ia3 dX6_bound_17 (by decide) (fun c4 => ?_) (fun c4 => ?_)
    · have h := h.2 c4
      refine lv_aload_n C.1.1 C.1.2.1 dX6_bound_23 rfl (lv_at hl 0 rfl) ?_
      refine lv_iload_n C.1.1 C.1.2.1 dX6_bound_24 rfl (lv_at hl 1 rfl) ?_
      refine fb_pi C w 6 (fb_k0 C) rfl rfl fl_X6_47 tyX6_ok nmX6 rfl ix1 rfl rfl dX6_bound_25 (fun σ5 H locs eσ5 w => ?_)
      have h := h σ5 eσ5
      refine lv_aload_n C.1.1 C.1.2.1 dX6_bound_28 rfl (lv_at hl 0 rfl) ?_
      refine lv_iload_n C.1.1 C.1.2.1 dX6_bound_29 rfl (lv_at hl 2 rfl) ?_
      refine fb_pi C w 7 (fb_k0 C) rfl rfl fl_X6_51 tyX6_ok nmX6 rfl ix2 rfl rfl dX6_bound_30 (fun σ6 H locs eσ6 w => ?_)
      have h := h σ6 eσ6
      refine lv_aload_n C.1.1 C.1.2.1 dX6_bound_33 rfl (lv_at hl 0 rfl) ?_
      refine fb_iconst C dX6_bound_34 ?_
      refine fb_pi C w 9 (fb_k0 C) rfl rfl fl_X6_58 tyX6_ok nmX6 rfl (by decide) (fb_nzb (by decide)) (fb_fzb (by decide)) dX6_bound_35 (fun σ7 H locs eσ7 w => ?_)
      have h := h σ7 eσ7
      refine lv_aload_n C.1.1 C.1.2.1 dX6_bound_38 rfl (lv_at hl 0 rfl) ?_
      refine fb_callVr (As := []) (rest := []) C w (ct_X6_standingPour l G h) mv_X6_123 (fb_k0 C) rfl ⟨rfl, rfl, Nat.le_of_ble_eq_true rfl, Nat.le_of_ble_eq_true rfl, Nat.zero_le _, Nat.zero_le _⟩ rfl hl.1 rfl (Nat.le_of_ble_eq_true rfl) dX6_bound_39 (fun σ8 H locs h w => ?_)
      refine fb_gi C w 0 (fb_k17 C) rfl rfl fl_X6_128 dX6_bound_42 ?_
      have i9 := w.2.2.2 17 0
      exact hret _ _ _ _ _ _ i9 h w dX6_bound_45
    · have h := h.1 c4
      exact tw_X6_bound_20 C hret _ _ _ _ w (lv_sub hl [] rfl) h
theorem ct_X6_bound (l : Launch) (G : fb_G) {x1 : Int} {x2 : Int} {σ : fb_St} (ix1 : fb_in x1) (ix2 : fb_in x2) (h : wp_X6_bound x1 x2 σ Q) : fb_MI l G yX6_bound cX6_bound 3 (some .int) rm_X6_bound [.ref (fb_ad G 0), .int (fb_I x1), .int (fb_I x2)] σ Q := by
  refine fb_ofW (own := RX6) (by decide) (Nat.le_of_ble_eq_true rfl) rfl (fun p e s m args below meth c ls C hr hl w => ?_)
  exact tw_X6_bound_0 C (fb_reti C hr) _ _ _ _ _ _ w hl ix1 ix2 h
end S_X6_bound
