section S_X3_hasBasin
variable {p : Program} {l : Launch} {e : Env} {s : State} {m : MethodId} {args : Array Value} {below : List Frame} {meth : Method} {c : Code} {Qm : State → Prop} {G : fb_G} {Q : Int → fb_St → Prop} {pp : Nat}
abbrev TT_X3_hasBasin_24 (p : Program) (l : Launch) (e : Env) (s : State) (m : MethodId) (args : Array Value) (below : List Frame) (meth : Method) (c : Code) (Qm : State → Prop) (G : fb_G) (pp : Nat) (r : Int → fb_St → Prop) : Prop := ∀ (s0 : Int) (σ : fb_St) (H : Heap) (locs : List Loc) (ls : Array Slot), fb_Wd G s σ H locs → lv_has ls 2 [] → fb_in s0 → r s0 σ → W p l e rm_X3_hasBasin s m args below meth c H locs 0 0 Qm (F0 m 24 ls [.int (fb_I s0)])
abbrev TT_X3_hasBasin_23 (p : Program) (l : Launch) (e : Env) (s : State) (m : MethodId) (args : Array Value) (below : List Frame) (meth : Method) (c : Code) (Qm : State → Prop) (G : fb_G) (pp : Nat) (r : fb_St → Prop) : Prop := ∀ (σ : fb_St) (H : Heap) (locs : List Loc) (ls : Array Slot), fb_Wd G s σ H locs → lv_has ls 2 [] → r σ → W p l e rm_X3_hasBasin s m args below meth c H locs 0 0 Qm (F0 m 23 ls [])
abbrev TT_X3_hasBasin_0 (p : Program) (l : Launch) (e : Env) (s : State) (m : MethodId) (args : Array Value) (below : List Frame) (meth : Method) (c : Code) (Qm : State → Prop) (G : fb_G) (pp : Nat) (r : Int → fb_St → Prop) : Prop := ∀ (x1 : Int) (σ : fb_St) (H : Heap) (locs : List Loc) (ls : Array Slot), fb_Wd G s σ H locs → lv_has ls 2 [(0, .ref (fb_ad G pp)), (1, .int (fb_I x1))] → fb_in x1 → r x1 σ → W p l e rm_X3_hasBasin s m args below meth c H locs 0 0 Qm (F0 m 0 ls [])
set_option maxRecDepth 100000 in
set_option maxHeartbeats 4000000 in
theorem tw_X3_hasBasin_24 (hpp : pp = 17 ∨ pp = 29) (C : fb_C p s m args meth c G RX3 cX3_hasBasin 2) (hret : fb_RZ p l e rm_X3_hasBasin s m args below meth c G cX3_hasBasin Qm Q) : TT_X3_hasBasin_24 p l e s m args below meth c Qm G pp (wj_X3_hasBasin_24 pp Q) := by
  intro s0 σ H locs ls w hl is0 h
  unfold wj_X3_hasBasin_24 at h
  obtain ⟨z7, h⟩ := h
  exact hret _ _ _ _ _ _ is0 z7 h w dX3_hasBasin_24
set_option maxRecDepth 100000 in
set_option maxHeartbeats 4000000 in
theorem tw_X3_hasBasin_23 (hpp : pp = 17 ∨ pp = 29) (C : fb_C p s m args meth c G RX3 cX3_hasBasin 2) (hret : fb_RZ p l e rm_X3_hasBasin s m args below meth c G cX3_hasBasin Qm Q) : TT_X3_hasBasin_23 p l e s m args below meth c Qm G pp (wj_X3_hasBasin_23 pp Q) := by
  intro σ H locs ls w hl h
  unfold wj_X3_hasBasin_23 at h
  refine fb_iconst C dX3_hasBasin_23 ?_
  exact tw_X3_hasBasin_24 hpp C hret 0 _ _ _ _ w (lv_sub hl [] rfl) (by decide) h
set_option maxRecDepth 100000 in
set_option maxHeartbeats 4000000 in
theorem tw_X3_hasBasin_0 (hpp : pp = 17 ∨ pp = 29) (C : fb_C p s m args meth c G RX3 cX3_hasBasin 2) (hret : fb_RZ p l e rm_X3_hasBasin s m args below meth c G cX3_hasBasin Qm Q) : TT_X3_hasBasin_0 p l e s m args below meth c Qm G pp (fun x1 σ => wp_X3_hasBasin pp x1 σ Q) := by
  intro x1 σ H locs ls w hl ix1 h
  unfold wp_X3_hasBasin at h
  refine lv_iload_n C.1.1 C.1.2.1 dX3_hasBasin_0 rfl (lv_at hl 1 rfl) ?_
  refine fb_iconst C dX3_hasBasin_1 ?_
  refine fb_bipush C dX3_hasBasin_2 (by decide) ?_
  refine fb_callNi (As := [.int (fb_I x1), .int (fb_I 1), .int (fb_I 99)]) (rest := []) C w C.2.1.1.2.2.2 (ct_X6_within l G ix1 (by decide) (by decide) h) (mn_X6_within _) ⟨rfl, rfl, Nat.le_of_ble_eq_true rfl, Nat.le_of_ble_eq_true rfl, Nat.zero_le _, Nat.zero_le _⟩ rfl hl.1 rfl (Nat.le_of_ble_eq_true rfl) dX3_hasBasin_4 (fun a1 σ1 H locs h ia1 w => ?_)
  refine fb_if_eq (tgt := 23) C ia1 dX3_hasBasin_7 (by decide) (fun c2 => ?_) (fun c2 => ?_)
  · have h := h.1 c2
    exact tw_X3_hasBasin_23 hpp C hret _ _ _ _ w (lv_sub hl [] rfl) h
  · have h := h.2 c2
    refine lv_aload_n C.1.1 C.1.2.1 dX3_hasBasin_10 rfl (lv_at hl 0 rfl) ?_
    refine fb_getr (k2 := (pp+5)) C w (fb_pk0 C hpp) rfl fl_X3_28 dX3_hasBasin_11 ?_
    refine lv_iload_n C.1.1 C.1.2.1 dX3_hasBasin_14 rfl (lv_at hl 1 rfl) ?_
    obtain ⟨z3, z4, h⟩ := h
    refine fb_al C w 100 (fb_pk5 C hpp) rfl rfl z3 z4 dX3_hasBasin_15 ?_
    have i5 := w.2.2.2 (pp+5) x1
    refine fb_if_le (tgt := 23) C i5 dX3_hasBasin_16 (by decide) (fun c6 => ?_) (fun c6 => ?_)
    · have h := h.2 c6
      exact tw_X3_hasBasin_23 hpp C hret _ _ _ _ w (lv_sub hl [] rfl) h
    · have h := h.1 c6
      refine fb_iconst C dX3_hasBasin_19 ?_
      refine lv_goto (tgt := 24) C.1.1 C.1.2.1 dX3_hasBasin_20 (by decide) ?_
      exact tw_X3_hasBasin_24 hpp C hret 1 _ _ _ _ w (lv_sub hl [] rfl) (by decide) h
theorem ct_X3_hasBasin (l : Launch) (G : fb_G) (hpp : pp = 17 ∨ pp = 29) {x1 : Int} {σ : fb_St} (ix1 : fb_in x1) (h : wp_X3_hasBasin pp x1 σ Q) : fb_MI l G yX3_hasBasin cX3_hasBasin 2 (some .boolean) rm_X3_hasBasin [.ref (fb_ad G pp), .int (fb_I x1)] σ Q := by
  refine fb_ofW (own := RX3) (by decide) (Nat.le_of_ble_eq_true rfl) rfl (fun p e s m args below meth c ls C hr hl w => ?_)
  exact tw_X3_hasBasin_0 hpp C (fb_retz C hr) _ _ _ _ _ w hl ix1 h
end S_X3_hasBasin
section S_X6_heightOrNone
variable {p : Program} {l : Launch} {e : Env} {s : State} {m : MethodId} {args : Array Value} {below : List Frame} {meth : Method} {c : Code} {Qm : State → Prop} {G : fb_G} {Q : Int → fb_St → Prop}
abbrev TT_X6_heightOrNone_12 (p : Program) (l : Launch) (e : Env) (s : State) (m : MethodId) (args : Array Value) (below : List Frame) (meth : Method) (c : Code) (Qm : State → Prop) (G : fb_G) (r : Int → fb_St → Prop) : Prop := ∀ (s0 : Int) (σ : fb_St) (H : Heap) (locs : List Loc) (ls : Array Slot), fb_Wd G s σ H locs → lv_has ls 1 [] → fb_in s0 → r s0 σ → W p l e rm_X6_heightOrNone s m args below meth c H locs 0 0 Qm (F0 m 12 ls [.int (fb_I s0)])
abbrev TT_X6_heightOrNone_0 (p : Program) (l : Launch) (e : Env) (s : State) (m : MethodId) (args : Array Value) (below : List Frame) (meth : Method) (c : Code) (Qm : State → Prop) (G : fb_G) (r : Int → fb_St → Prop) : Prop := ∀ (x0 : Int) (σ : fb_St) (H : Heap) (locs : List Loc) (ls : Array Slot), fb_Wd G s σ H locs → lv_has ls 1 [(0, .int (fb_I x0))] → fb_in x0 → r x0 σ → W p l e rm_X6_heightOrNone s m args below meth c H locs 0 0 Qm (F0 m 0 ls [])
set_option maxRecDepth 100000 in
set_option maxHeartbeats 4000000 in
theorem tw_X6_heightOrNone_12 (C : fb_C p s m args meth c G RX6 cX6_heightOrNone 1) (hret : fb_RI p l e rm_X6_heightOrNone s m args below meth c G cX6_heightOrNone Qm Q) : TT_X6_heightOrNone_12 p l e s m args below meth c Qm G (wj_X6_heightOrNone_12 Q) := by
  intro s0 σ H locs ls w hl is0 h
  unfold wj_X6_heightOrNone_12 at h
  exact hret _ _ _ _ _ _ is0 h w dX6_heightOrNone_12
set_option maxRecDepth 100000 in
set_option maxHeartbeats 4000000 in
theorem tw_X6_heightOrNone_0 (C : fb_C p s m args meth c G RX6 cX6_heightOrNone 1) (hret : fb_RI p l e rm_X6_heightOrNone s m args below meth c G cX6_heightOrNone Qm Q) : TT_X6_heightOrNone_0 p l e s m args below meth c Qm G (fun x0 σ => wp_X6_heightOrNone x0 σ Q) := by
  intro x0 σ H locs ls w hl ix0 h
  unfold wp_X6_heightOrNone at h
  refine lv_iload_n C.1.1 C.1.2.1 dX6_heightOrNone_0 rfl (lv_at hl 0 rfl) ?_
  refine fb_bipush C dX6_heightOrNone_1 (by decide) ?_
  refine fb_icmp_ne (tgt := 11) C ix0 (by decide) dX6_heightOrNone_3 (by decide) (fun c1 => ?_) (fun c1 => ?_)
  · have h := h.2 c1
    refine lv_iload_n C.1.1 C.1.2.1 dX6_heightOrNone_11 rfl (lv_at hl 0 rfl) ?_
    exact tw_X6_heightOrNone_12 C hret x0 _ _ _ _ w (lv_sub hl [] rfl) ix0 h
  · have h := h.1 c1
    refine fb_bipush C dX6_heightOrNone_6 (by decide) ?_
    refine lv_goto (tgt := 12) C.1.1 C.1.2.1 dX6_heightOrNone_8 (by decide) ?_
    exact tw_X6_heightOrNone_12 C hret (-6) _ _ _ _ w (lv_sub hl [] rfl) (by decide) h
theorem ct_X6_heightOrNone (l : Launch) (G : fb_G) {x0 : Int} {σ : fb_St} (ix0 : fb_in x0) (h : wp_X6_heightOrNone x0 σ Q) : fb_MI l G yX6_heightOrNone cX6_heightOrNone 1 (some .int) rm_X6_heightOrNone [.int (fb_I x0)] σ Q := by
  refine fb_ofW (own := RX6) (by decide) (Nat.le_of_ble_eq_true rfl) rfl (fun p e s m args below meth c ls C hr hl w => ?_)
  exact tw_X6_heightOrNone_0 C (fb_reti C hr) _ _ _ _ _ w hl ix0 h
end S_X6_heightOrNone
section S_X6_basin
variable {p : Program} {l : Launch} {e : Env} {s : State} {m : MethodId} {args : Array Value} {below : List Frame} {meth : Method} {c : Code} {Qm : State → Prop} {G : fb_G} {Q : Int → fb_St → Prop}
abbrev TT_X6_basin_0 (p : Program) (l : Launch) (e : Env) (s : State) (m : MethodId) (args : Array Value) (below : List Frame) (meth : Method) (c : Code) (Qm : State → Prop) (G : fb_G) (r : Int → Int → fb_St → Prop) : Prop := ∀ (x1 x2 : Int) (σ : fb_St) (H : Heap) (locs : List Loc) (ls : Array Slot), fb_Wd G s σ H locs → lv_has ls 4 [(0, .ref (fb_ad G 0)), (1, .int (fb_I x1)), (2, .int (fb_I x2))] → fb_in x1 → fb_in x2 → r x1 x2 σ → W p l e rm_X6_basin s m args below meth c H locs 0 0 Qm (F0 m 0 ls [])
set_option maxRecDepth 100000 in
set_option maxHeartbeats 4000000 in
theorem tw_X6_basin_0 (C : fb_C p s m args meth c G RX6 cX6_basin 4) (hret : fb_RI p l e rm_X6_basin s m args below meth c G cX6_basin Qm Q) : TT_X6_basin_0 p l e s m args below meth c Qm G (fun x1 x2 σ => wp_X6_basin x1 x2 σ Q) := by
  intro x1 x2 σ H locs ls w hl ix1 ix2 h
  unfold wp_X6_basin at h
  refine lv_aload_n C.1.1 C.1.2.1 dX6_basin_0 rfl (lv_at hl 0 rfl) ?_
  refine fb_callVr (As := []) (rest := []) C w (ct_X6_standingPour l G h) mv_X6_123 (fb_k0 C) rfl ⟨rfl, rfl, Nat.le_of_ble_eq_true rfl, Nat.le_of_ble_eq_true rfl, Nat.zero_le _, Nat.zero_le _⟩ rfl hl.1 rfl (Nat.le_of_ble_eq_true rfl) dX6_basin_1 (fun σ1 H locs h w => ?_)
  refine lv_astore_n (lv' := [(3, .ref (fb_ad G 17)), (0, .ref (fb_ad G 0)), (1, .int (fb_I x1)), (2, .int (fb_I x2))]) C.1.1 C.1.2.1 dX6_basin_4 rfl hl (by decide) rfl (fun ls hl => ?_)
  refine lv_aload_n C.1.1 C.1.2.1 dX6_basin_5 rfl (lv_at hl 0 rfl) ?_
  refine lv_iload_n C.1.1 C.1.2.1 dX6_basin_6 rfl (lv_at hl 2 rfl) ?_
  refine fb_callVi (As := [.int (fb_I x1)]) (rest := []) C w (ct_X3_hasBasin l G (Or.inl rfl) ix1 h) mv_X6_131 (fb_k17 C) rfl ⟨rfl, rfl, Nat.le_of_ble_eq_true rfl, Nat.le_of_ble_eq_true rfl, Nat.zero_le _, Nat.zero_le _⟩ rfl hl.1 rfl (Nat.le_of_ble_eq_true rfl) dX6_basin_7 (fun a2 σ2 H locs h ia2 w => ?_)
  refine fb_if_ne (tgt := 15) C ia2 dX6_basin_10 (by decide) (fun c3 => ?_) (fun c3 => ?_)
  · have h := h.2 c3
    refine lv_iload_n C.1.1 C.1.2.1 dX6_basin_15 rfl (lv_at hl 3 rfl) ?_
    by_cases c4 : x2 = 0
    · have h := h.1 c4
      refine fb_tableIn (tgt := 56) (j := 0) C ix2 dX6_basin_16 c4 (by decide) rfl (by decide) ?_
      refine lv_aload_n C.1.1 C.1.2.1 dX6_basin_56 rfl (lv_at hl 0 rfl) ?_
      refine lv_iload_n C.1.1 C.1.2.1 dX6_basin_57 rfl (lv_at hl 2 rfl) ?_
      refine lv_iload_n C.1.1 C.1.2.1 dX6_basin_58 rfl (lv_at hl 3 rfl) ?_
      refine fb_callVi (As := [.int (fb_I x1), .int (fb_I x2)]) (rest := []) C w (ct_X3_sizeOf l G (Or.inl rfl) ix1 ix2 h) mv_X6_135 (fb_k17 C) rfl ⟨rfl, rfl, Nat.le_of_ble_eq_true rfl, Nat.le_of_ble_eq_true rfl, Nat.zero_le _, Nat.zero_le _⟩ rfl hl.1 rfl (Nat.le_of_ble_eq_true rfl) dX6_basin_59 (fun a5 σ5 H locs h ia5 w => ?_)
      exact hret _ _ _ _ _ _ ia5 h w dX6_basin_62
    by_cases c6 : x2 = 1
    · have h := h.2.1 c6
      refine fb_tableIn (tgt := 56) (j := 1) C ix2 dX6_basin_16 c6 (by decide) rfl (by decide) ?_
      refine lv_aload_n C.1.1 C.1.2.1 dX6_basin_56 rfl (lv_at hl 0 rfl) ?_
      refine lv_iload_n C.1.1 C.1.2.1 dX6_basin_57 rfl (lv_at hl 2 rfl) ?_
      refine lv_iload_n C.1.1 C.1.2.1 dX6_basin_58 rfl (lv_at hl 3 rfl) ?_
      refine fb_callVi (As := [.int (fb_I x1), .int (fb_I x2)]) (rest := []) C w (ct_X3_sizeOf l G (Or.inl rfl) ix1 ix2 h) mv_X6_135 (fb_k17 C) rfl ⟨rfl, rfl, Nat.le_of_ble_eq_true rfl, Nat.le_of_ble_eq_true rfl, Nat.zero_le _, Nat.zero_le _⟩ rfl hl.1 rfl (Nat.le_of_ble_eq_true rfl) dX6_basin_59 (fun a7 σ7 H locs h ia7 w => ?_)
      exact hret _ _ _ _ _ _ ia7 h w dX6_basin_62
    by_cases c8 : x2 = 2
    · have h := h.2.2.1 c8
      refine fb_tableIn (tgt := 56) (j := 2) C ix2 dX6_basin_16 c8 (by decide) rfl (by decide) ?_
      refine lv_aload_n C.1.1 C.1.2.1 dX6_basin_56 rfl (lv_at hl 0 rfl) ?_
      refine lv_iload_n C.1.1 C.1.2.1 dX6_basin_57 rfl (lv_at hl 2 rfl) ?_
      refine lv_iload_n C.1.1 C.1.2.1 dX6_basin_58 rfl (lv_at hl 3 rfl) ?_
      refine fb_callVi (As := [.int (fb_I x1), .int (fb_I x2)]) (rest := []) C w (ct_X3_sizeOf l G (Or.inl rfl) ix1 ix2 h) mv_X6_135 (fb_k17 C) rfl ⟨rfl, rfl, Nat.le_of_ble_eq_true rfl, Nat.le_of_ble_eq_true rfl, Nat.zero_le _, Nat.zero_le _⟩ rfl hl.1 rfl (Nat.le_of_ble_eq_true rfl) dX6_basin_59 (fun a9 σ9 H locs h ia9 w => ?_)
      exact hret _ _ _ _ _ _ ia9 h w dX6_basin_62
    by_cases c10 : x2 = 3
    · have h := h.2.2.2.1 c10
      refine fb_tableIn (tgt := 63) (j := 3) C ix2 dX6_basin_16 c10 (by decide) rfl (by decide) ?_
      refine lv_aload_n C.1.1 C.1.2.1 dX6_basin_63 rfl (lv_at hl 0 rfl) ?_
      refine fb_getr (k2 := 19) C w (fb_k17 C) rfl fl_X6_138 dX6_basin_64 ?_
      refine lv_iload_n C.1.1 C.1.2.1 dX6_basin_67 rfl (lv_at hl 2 rfl) ?_
      obtain ⟨z11, z12, h⟩ := h
      refine fb_al C w 100 (fb_k19 C) rfl rfl z11 z12 dX6_basin_68 ?_
      have i13 := w.2.2.2 19 x1
      exact hret _ _ _ _ _ _ i13 h w dX6_basin_69
    by_cases c14 : x2 = 4
    · have h := h.2.2.2.2.1 c14
      refine fb_tableIn (tgt := 70) (j := 4) C ix2 dX6_basin_16 c14 (by decide) rfl (by decide) ?_
      refine lv_aload_n C.1.1 C.1.2.1 dX6_basin_70 rfl (lv_at hl 0 rfl) ?_
      refine fb_getr (k2 := 20) C w (fb_k17 C) rfl fl_X6_141 dX6_basin_71 ?_
      refine lv_iload_n C.1.1 C.1.2.1 dX6_basin_74 rfl (lv_at hl 2 rfl) ?_
      obtain ⟨z15, z16, h⟩ := h
      refine fb_al C w 100 (fb_k20 C) rfl rfl z15 z16 dX6_basin_75 ?_
      have i17 := w.2.2.2 20 x1
      refine fb_callSi (As := [.int (fb_I (σ2 20 x1))]) (rest := []) C w (ct_X6_heightOrNone l G i17 h) ms_X6_144 ⟨rfl, rfl, Nat.le_of_ble_eq_true rfl, Nat.le_of_ble_eq_true rfl, Nat.zero_le _, Nat.zero_le _⟩ rfl hl.1 rfl (Nat.le_of_ble_eq_true rfl) dX6_basin_76 (fun a18 σ18 H locs h ia18 w => ?_)
      exact hret _ _ _ _ _ _ ia18 h w dX6_basin_79
    by_cases c19 : x2 = 5
    · have h := h.2.2.2.2.2.1 c19
      refine fb_tableIn (tgt := 80) (j := 5) C ix2 dX6_basin_16 c19 (by decide) rfl (by decide) ?_
      refine lv_aload_n C.1.1 C.1.2.1 dX6_basin_80 rfl (lv_at hl 0 rfl) ?_
      refine fb_getr (k2 := 21) C w (fb_k17 C) rfl fl_X6_148 dX6_basin_81 ?_
      refine lv_iload_n C.1.1 C.1.2.1 dX6_basin_84 rfl (lv_at hl 2 rfl) ?_
      obtain ⟨z20, z21, h⟩ := h
      refine fb_al C w 100 (fb_k21 C) rfl rfl z20 z21 dX6_basin_85 ?_
      have i22 := w.2.2.2 21 x1
      exact hret _ _ _ _ _ _ i22 h w dX6_basin_86
    have c23 : x2 < 0 ∨ 5 < x2 := by omega
    have h := h.2.2.2.2.2.2 c23
    refine fb_tableOut (tgt := 87) C ix2 dX6_basin_16 c23 (by decide) ?_
    refine fb_bipush C dX6_basin_87 (by decide) ?_
    exact hret _ _ _ _ _ _ (by decide) h w dX6_basin_89
  · have h := h.1 c3
    refine fb_iconst C dX6_basin_13 ?_
    exact hret _ _ _ _ _ _ (by decide) h w dX6_basin_14
theorem ct_X6_basin (l : Launch) (G : fb_G) {x1 : Int} {x2 : Int} {σ : fb_St} (ix1 : fb_in x1) (ix2 : fb_in x2) (h : wp_X6_basin x1 x2 σ Q) : fb_MI l G yX6_basin cX6_basin 4 (some .int) rm_X6_basin [.ref (fb_ad G 0), .int (fb_I x1), .int (fb_I x2)] σ Q := by
  refine fb_ofW (own := RX6) (by decide) (Nat.le_of_ble_eq_true rfl) rfl (fun p e s m args below meth c ls C hr hl w => ?_)
  exact tw_X6_basin_0 C (fb_reti C hr) _ _ _ _ _ _ w hl ix1 ix2 h
end S_X6_basin
section S_X3_touches
variable {p : Program} {l : Launch} {e : Env} {s : State} {m : MethodId} {args : Array Value} {below : List Frame} {meth : Method} {c : Code} {Qm : State → Prop} {G : fb_G} {Q : Int → fb_St → Prop} {pp : Nat}
abbrev TT_X3_touches_3 (p : Program) (l : Launch) (e : Env) (s : State) (m : MethodId) (args : Array Value) (below : List Frame) (meth : Method) (c : Code) (Qm : State → Prop) (G : fb_G) (pp : Nat) (r : Int → Int → Int → fb_St → Prop) : Prop := ∀ (x2 x3 x4 : Int) (σ : fb_St) (H : Heap) (locs : List Loc) (ls : Array Slot), fb_Wd G s σ H locs → lv_has ls 5 [(0, .ref (fb_ad G pp)), (1, .ref (fb_ad G 1)), (2, .int (fb_I x2)), (3, .int (fb_I x3)), (4, .int (fb_I x4))] → fb_in x2 → fb_in x3 → fb_in x4 → r x2 x3 x4 σ → W p l e rm_X3_touches s m args below meth c H locs 0 0 Qm (F0 m 3 ls [])
abbrev TT_X3_touches_0 (p : Program) (l : Launch) (e : Env) (s : State) (m : MethodId) (args : Array Value) (below : List Frame) (meth : Method) (c : Code) (Qm : State → Prop) (G : fb_G) (pp : Nat) (r : Int → Int → fb_St → Prop) : Prop := ∀ (x2 x3 : Int) (σ : fb_St) (H : Heap) (locs : List Loc) (ls : Array Slot), fb_Wd G s σ H locs → lv_has ls 5 [(0, .ref (fb_ad G pp)), (1, .ref (fb_ad G 1)), (2, .int (fb_I x2)), (3, .int (fb_I x3))] → fb_in x2 → fb_in x3 → r x2 x3 σ → W p l e rm_X3_touches s m args below meth c H locs 0 0 Qm (F0 m 0 ls [])
set_option maxRecDepth 100000 in
set_option maxHeartbeats 4000000 in
theorem tw_X3_touches_3 (hpp : pp = 17 ∨ pp = 29) (C : fb_C p s m args meth c G RX3 cX3_touches 5) (hret : fb_RZ p l e rm_X3_touches s m args below meth c G cX3_touches Qm Q) {r3 : Int → Int → Int → fb_St → Prop} (h3 : TT_X3_touches_3 p l e s m args below meth c Qm G pp r3) : TT_X3_touches_3 p l e s m args below meth c Qm G pp (wb_X3_touches_3 pp r3 Q) := by
  intro x2 x3 x4 σ H locs ls w hl ix2 ix3 ix4 h
  unfold wb_X3_touches_3 at h
  refine lv_iload C.1.1 C.1.2.1 dX3_touches_3 (lv_at hl 4 rfl) ?_
  refine fb_iconst C dX3_touches_5 ?_
  refine fb_icmp_ge (tgt := 32) C ix4 (by decide) dX3_touches_6 (by decide) (fun c1 => ?_) (fun c1 => ?_)
  · have h := h.2 c1
    refine fb_iconst C dX3_touches_32 ?_
    exact hret _ _ _ _ _ _ (by decide) (by decide) h w dX3_touches_33
  · have h := h.1 c1
    refine lv_aload_n C.1.1 C.1.2.1 dX3_touches_9 rfl (lv_at hl 1 rfl) ?_
    refine lv_iload_n C.1.1 C.1.2.1 dX3_touches_10 rfl (lv_at hl 2 rfl) ?_
    refine lv_iload C.1.1 C.1.2.1 dX3_touches_11 (lv_at hl 4 rfl) ?_
    refine lv_aload_n C.1.1 C.1.2.1 dX3_touches_13 rfl (lv_at hl 0 rfl) ?_
    refine fb_getr (k2 := (pp+1)) C w (fb_pk0 C hpp) rfl fl_X3_15 dX3_touches_14 ?_
    refine fb_callVi (As := [.int (fb_I x2), .int (fb_I x4), .ref (fb_ad G (pp+1))]) (rest := []) C w (ct_X5_basinBeside l G (fb_pk1 C hpp) ix2 ix4 h) mv_X3_98 (fb_k1 C) rfl ⟨rfl, rfl, Nat.le_of_ble_eq_true rfl, Nat.le_of_ble_eq_true rfl, Nat.zero_le _, Nat.zero_le _⟩ rfl hl.1 rfl (Nat.le_of_ble_eq_true rfl) dX3_touches_17 (fun a2 σ2 H locs h ia2 w => ?_)
    refine lv_iload_n C.1.1 C.1.2.1 dX3_touches_20 rfl (lv_at hl 3 rfl) ?_
    refine fb_icmp_ne (tgt := 26) C ia2 ix3 dX3_touches_21 (by decide) (fun c3 => ?_) (fun c3 => ?_)
    · have h := h.2 c3
      obtain ⟨i4, h⟩ := h
      refine fb_iinc (b := x4 + 1) (k := 4) (lv' := [(4, .int (fb_I (x4 + 1))), (0, .ref (fb_ad G pp)), (1, .ref (fb_ad G 1)), (2, .int (fb_I x2)), (3, .int (fb_I x3))]) C dX3_touches_26 hl rfl rfl (by decide) rfl (fun ls hl => ?_)
      refine lv_goto (tgt := 3) C.1.1 C.1.2.1 dX3_touches_29 (by decide) ?_
      exact h3 x2 x3 (x4 + 1) _ _ _ _ w (lv_sub hl [1, 2, 3, 4, 0] rfl) ix2 ix3 i4 h
    · have h := h.1 c3
      refine fb_iconst C dX3_touches_24 ?_
      exact hret _ _ _ _ _ _ (by decide) (by decide) h w dX3_touches_25
theorem tl_X3_touches_3 (hpp : pp = 17 ∨ pp = 29) (C : fb_C p s m args meth c G RX3 cX3_touches 5) (hret : fb_RZ p l e rm_X3_touches s m args below meth c G cX3_touches Qm Q) : ∀ n : Nat, TT_X3_touches_3 p l e s m args below meth c Qm G pp (wl_X3_touches_3 pp Q n) := by
  intro n
  induction n with
  | zero => intro x2 x3 x4 σ H locs ls w hl ix2 ix3 ix4 h; exact h.elim
  | succ n ih => exact tw_X3_touches_3 hpp C hret ih
set_option maxRecDepth 100000 in
set_option maxHeartbeats 4000000 in
theorem tw_X3_touches_0 (hpp : pp = 17 ∨ pp = 29) (C : fb_C p s m args meth c G RX3 cX3_touches 5) (hret : fb_RZ p l e rm_X3_touches s m args below meth c G cX3_touches Qm Q) : TT_X3_touches_0 p l e s m args below meth c Qm G pp (fun x2 x3 σ => wp_X3_touches pp x2 x3 σ Q) := by
  intro x2 x3 σ H locs ls w hl ix2 ix3 h
  unfold wp_X3_touches at h
  refine fb_iconst C dX3_touches_0 ?_
  refine lv_istore (lv' := [(4, .int (fb_I 0)), (0, .ref (fb_ad G pp)), (1, .ref (fb_ad G 1)), (2, .int (fb_I x2)), (3, .int (fb_I x3))]) C.1.1 C.1.2.1 dX3_touches_1 hl (by decide) rfl (fun ls hl => ?_)
  obtain ⟨n, h⟩ := h
  exact tl_X3_touches_3 hpp C hret n x2 x3 0 _ _ _ _ w (lv_sub hl [1, 2, 3, 4, 0] rfl) ix2 ix3 (by decide) h
theorem ct_X3_touches (l : Launch) (G : fb_G) (hpp : pp = 17 ∨ pp = 29) {x2 : Int} {x3 : Int} {σ : fb_St} (ix2 : fb_in x2) (ix3 : fb_in x3) (h : wp_X3_touches pp x2 x3 σ Q) : fb_MI l G yX3_touches cX3_touches 5 (some .boolean) rm_X3_touches [.ref (fb_ad G pp), .ref (fb_ad G 1), .int (fb_I x2), .int (fb_I x3)] σ Q := by
  refine fb_ofW (own := RX3) (by decide) (Nat.le_of_ble_eq_true rfl) rfl (fun p e s m args below meth c ls C hr hl w => ?_)
  exact tw_X3_touches_0 hpp C (fb_retz C hr) _ _ _ _ _ _ w hl ix2 ix3 h
end S_X3_touches
section S_X3_passBetween
variable {p : Program} {l : Launch} {e : Env} {s : State} {m : MethodId} {args : Array Value} {below : List Frame} {meth : Method} {c : Code} {Qm : State → Prop} {G : fb_G} {Q : Int → fb_St → Prop} {pp : Nat}
abbrev TT_X3_passBetween_135 (p : Program) (l : Launch) (e : Env) (s : State) (m : MethodId) (args : Array Value) (below : List Frame) (meth : Method) (c : Code) (Qm : State → Prop) (G : fb_G) (pp : Nat) (r : Int → Int → Int → Int → Int → Int → fb_St → Prop) : Prop := ∀ (x2 x3 x4 x5 x6 x7 : Int) (σ : fb_St) (H : Heap) (locs : List Loc) (ls : Array Slot), fb_Wd G s σ H locs → lv_has ls 9 [(0, .ref (fb_ad G pp)), (1, .ref (fb_ad G 1)), (2, .int (fb_I x2)), (3, .int (fb_I x3)), (4, .int (fb_I x4)), (5, .int (fb_I x5)), (6, .int (fb_I x6)), (7, .int (fb_I x7))] → fb_in x2 → fb_in x3 → fb_in x4 → fb_in x5 → fb_in x6 → fb_in x7 → r x2 x3 x4 x5 x6 x7 σ → W p l e rm_X3_passBetween s m args below meth c H locs 0 0 Qm (F0 m 135 ls [])
abbrev TT_X3_passBetween_141 (p : Program) (l : Launch) (e : Env) (s : State) (m : MethodId) (args : Array Value) (below : List Frame) (meth : Method) (c : Code) (Qm : State → Prop) (G : fb_G) (pp : Nat) (r : Int → Int → Int → Int → fb_St → Prop) : Prop := ∀ (x2 x3 x4 x5 : Int) (σ : fb_St) (H : Heap) (locs : List Loc) (ls : Array Slot), fb_Wd G s σ H locs → lv_has ls 9 [(0, .ref (fb_ad G pp)), (1, .ref (fb_ad G 1)), (2, .int (fb_I x2)), (3, .int (fb_I x3)), (4, .int (fb_I x4)), (5, .int (fb_I x5))] → fb_in x2 → fb_in x3 → fb_in x4 → fb_in x5 → r x2 x3 x4 x5 σ → W p l e rm_X3_passBetween s m args below meth c H locs 0 0 Qm (F0 m 141 ls [])
abbrev TT_X3_passBetween_83 (p : Program) (l : Launch) (e : Env) (s : State) (m : MethodId) (args : Array Value) (below : List Frame) (meth : Method) (c : Code) (Qm : State → Prop) (G : fb_G) (pp : Nat) (r : Int → Int → Int → Int → Int → Int → fb_St → Prop) : Prop := ∀ (x2 x3 x4 x5 x6 x7 : Int) (σ : fb_St) (H : Heap) (locs : List Loc) (ls : Array Slot), fb_Wd G s σ H locs → lv_has ls 9 [(0, .ref (fb_ad G pp)), (1, .ref (fb_ad G 1)), (2, .int (fb_I x2)), (3, .int (fb_I x3)), (4, .int (fb_I x4)), (5, .int (fb_I x5)), (6, .int (fb_I x6)), (7, .int (fb_I x7))] → fb_in x2 → fb_in x3 → fb_in x4 → fb_in x5 → fb_in x6 → fb_in x7 → r x2 x3 x4 x5 x6 x7 σ → W p l e rm_X3_passBetween s m args below meth c H locs 0 0 Qm (F0 m 83 ls [])
abbrev TT_X3_passBetween_7 (p : Program) (l : Launch) (e : Env) (s : State) (m : MethodId) (args : Array Value) (below : List Frame) (meth : Method) (c : Code) (Qm : State → Prop) (G : fb_G) (pp : Nat) (r : Int → Int → Int → Int → fb_St → Prop) : Prop := ∀ (x2 x3 x4 x5 : Int) (σ : fb_St) (H : Heap) (locs : List Loc) (ls : Array Slot), fb_Wd G s σ H locs → lv_has ls 9 [(0, .ref (fb_ad G pp)), (1, .ref (fb_ad G 1)), (2, .int (fb_I x2)), (3, .int (fb_I x3)), (4, .int (fb_I x4)), (5, .int (fb_I x5))] → fb_in x2 → fb_in x3 → fb_in x4 → fb_in x5 → r x2 x3 x4 x5 σ → W p l e rm_X3_passBetween s m args below meth c H locs 0 0 Qm (F0 m 7 ls [])
abbrev TT_X3_passBetween_0 (p : Program) (l : Launch) (e : Env) (s : State) (m : MethodId) (args : Array Value) (below : List Frame) (meth : Method) (c : Code) (Qm : State → Prop) (G : fb_G) (pp : Nat) (r : Int → Int → fb_St → Prop) : Prop := ∀ (x2 x3 : Int) (σ : fb_St) (H : Heap) (locs : List Loc) (ls : Array Slot), fb_Wd G s σ H locs → lv_has ls 9 [(0, .ref (fb_ad G pp)), (1, .ref (fb_ad G 1)), (2, .int (fb_I x2)), (3, .int (fb_I x3))] → fb_in x2 → fb_in x3 → r x2 x3 σ → W p l e rm_X3_passBetween s m args below meth c H locs 0 0 Qm (F0 m 0 ls [])
set_option maxRecDepth 100000 in
set_option maxHeartbeats 4000000 in
theorem tw_X3_passBetween_135 (hpp : pp = 17 ∨ pp = 29) (C : fb_C p s m args meth c G RX3 cX3_passBetween 9) (hret : fb_RI p l e rm_X3_passBetween s m args below meth c G cX3_passBetween Qm Q) {r7 : Int → Int → Int → Int → fb_St → Prop} (h7 : TT_X3_passBetween_7 p l e s m args below meth c Qm G pp r7) {r83 : Int → Int → Int → Int → Int → Int → fb_St → Prop} (h83 : TT_X3_passBetween_83 p l e s m args below meth c Qm G pp r83) : TT_X3_passBetween_135 p l e s m args below meth c Qm G pp (wj_X3_passBetween_135 pp r7 r83 Q) := by
  intro x2 x3 x4 x5 x6 x7 σ H locs ls w hl ix2 ix3 ix4 ix5 ix6 ix7 h
  unfold wj_X3_passBetween_135 at h
  obtain ⟨i32, h⟩ := h
  refine fb_iinc (b := x7 + 1) (k := 7) (lv' := [(7, .int (fb_I (x7 + 1))), (0, .ref (fb_ad G pp)), (1, .ref (fb_ad G 1)), (2, .int (fb_I x2)), (3, .int (fb_I x3)), (4, .int (fb_I x4)), (5, .int (fb_I x5)), (6, .int (fb_I x6))]) C dX3_passBetween_135 hl rfl rfl (by decide) rfl (fun ls hl => ?_)
  refine lv_goto (tgt := 83) C.1.1 C.1.2.1 dX3_passBetween_138 (by decide) ?_
  exact h83 x2 x3 x4 x5 x6 (x7 + 1) _ _ _ _ w (lv_sub hl [1, 2, 3, 4, 5, 6, 7, 0] rfl) ix2 ix3 ix4 ix5 ix6 i32 h
set_option maxRecDepth 100000 in
set_option maxHeartbeats 4000000 in
theorem tw_X3_passBetween_141 (hpp : pp = 17 ∨ pp = 29) (C : fb_C p s m args meth c G RX3 cX3_passBetween 9) (hret : fb_RI p l e rm_X3_passBetween s m args below meth c G cX3_passBetween Qm Q) {r7 : Int → Int → Int → Int → fb_St → Prop} (h7 : TT_X3_passBetween_7 p l e s m args below meth c Qm G pp r7) : TT_X3_passBetween_141 p l e s m args below meth c Qm G pp (wj_X3_passBetween_141 pp r7 Q) := by
  intro x2 x3 x4 x5 σ H locs ls w hl ix2 ix3 ix4 ix5 h
  unfold wj_X3_passBetween_141 at h
  obtain ⟨i20, h⟩ := h
  refine fb_iinc (b := x5 + 1) (k := 5) (lv' := [(5, .int (fb_I (x5 + 1))), (0, .ref (fb_ad G pp)), (1, .ref (fb_ad G 1)), (2, .int (fb_I x2)), (3, .int (fb_I x3)), (4, .int (fb_I x4))]) C dX3_passBetween_141 hl rfl rfl (by decide) rfl (fun ls hl => ?_)
  refine lv_goto (tgt := 7) C.1.1 C.1.2.1 dX3_passBetween_144 (by decide) ?_
  exact h7 x2 x3 x4 (x5 + 1) _ _ _ _ w (lv_sub hl [1, 2, 3, 4, 5, 0] rfl) ix2 ix3 ix4 i20 h
set_option maxRecDepth 100000 in
set_option maxHeartbeats 4000000 in
theorem tw_X3_passBetween_83 (hpp : pp = 17 ∨ pp = 29) (C : fb_C p s m args meth c G RX3 cX3_passBetween 9) (hret : fb_RI p l e rm_X3_passBetween s m args below meth c G cX3_passBetween Qm Q) {r7 : Int → Int → Int → Int → fb_St → Prop} (h7 : TT_X3_passBetween_7 p l e s m args below meth c Qm G pp r7) {r83 : Int → Int → Int → Int → Int → Int → fb_St → Prop} (h83 : TT_X3_passBetween_83 p l e s m args below meth c Qm G pp r83) : TT_X3_passBetween_83 p l e s m args below meth c Qm G pp (wb_X3_passBetween_83 pp r7 r83 Q) := by
  intro x2 x3 x4 x5 x6 x7 σ H locs ls w hl ix2 ix3 ix4 ix5 ix6 ix7 h
  unfold wb_X3_passBetween_83 at h
  refine lv_iload C.1.1 C.1.2.1 dX3_passBetween_83 (lv_at hl 7 rfl) ?_
  refine fb_iconst C dX3_passBetween_85 ?_
  refine fb_icmp_ge (tgt := 141) C ix7 (by decide) dX3_passBetween_86 (by decide) (fun c21 => ?_) (fun c21 => ?_)
  · have h := h.2 c21
    exact tw_X3_passBetween_141 hpp C hret h7 x2 x3 x4 x5 _ _ _ _ w (lv_sub hl [0, 1, 2, 3, 4, 5] rfl) ix2 ix3 ix4 ix5 h
  · have h := h.1 c21
    refine lv_aload_n C.1.1 C.1.2.1 dX3_passBetween_89 rfl (lv_at hl 1 rfl) ?_
    refine lv_iload C.1.1 C.1.2.1 dX3_passBetween_90 (lv_at hl 5 rfl) ?_
    refine lv_iload C.1.1 C.1.2.1 dX3_passBetween_92 (lv_at hl 7 rfl) ?_
    refine fb_callVi (As := [.int (fb_I x5), .int (fb_I x7)]) (rest := []) C w (ct_X5_neighbour l G ix5 ix7 h) mv_X3_95 (fb_k1 C) rfl ⟨rfl, rfl, Nat.le_of_ble_eq_true rfl, Nat.le_of_ble_eq_true rfl, Nat.zero_le _, Nat.zero_le _⟩ rfl hl.1 rfl (Nat.le_of_ble_eq_true rfl) dX3_passBetween_94 (fun a22 σ22 H locs h ia22 w => ?_)
    refine lv_istore (lv' := [(8, .int (fb_I a22)), (0, .ref (fb_ad G pp)), (1, .ref (fb_ad G 1)), (2, .int (fb_I x2)), (3, .int (fb_I x3)), (4, .int (fb_I x4)), (5, .int (fb_I x5)), (6, .int (fb_I x6)), (7, .int (fb_I x7))]) C.1.1 C.1.2.1 dX3_passBetween_97 hl (by decide) rfl (fun ls hl => ?_)
    refine lv_iload C.1.1 C.1.2.1 dX3_passBetween_99 (lv_at hl 0 rfl) ?_
    refine fb_iconst C dX3_passBetween_101 ?_
    refine fb_icmp_eq (tgt := 135) C ia22 (by decide) dX3_passBetween_102 (by decide) (fun c23 => ?_) (fun c23 => ?_)
    · have h := h.1 c23
      exact tw_X3_passBetween_135 hpp C hret h7 h83 x2 x3 x4 x5 x6 x7 _ _ _ _ w (lv_sub hl [1, 2, 3, 4, 5, 6, 7, 8] rfl) ix2 ix3 ix4 ix5 ix6 ix7 h
    · have h := h.2 c23
      refine lv_aload_n C.1.1 C.1.2.1 dX3_passBetween_105 rfl (lv_at hl 1 rfl) ?_
      refine fb_getr (k2 := (pp+1)) C w (fb_pk0 C hpp) rfl fl_X3_15 dX3_passBetween_106 ?_
      refine lv_iload C.1.1 C.1.2.1 dX3_passBetween_109 (lv_at hl 0 rfl) ?_
      obtain ⟨z24, z25, h⟩ := h
      refine fb_al C w 144 (fb_pk1 C hpp) rfl rfl z24 z25 dX3_passBetween_111 ?_
      have i26 := w.2.2.2 (pp+1) a22
      refine lv_iload_n C.1.1 C.1.2.1 dX3_passBetween_112 rfl (lv_at hl 4 rfl) ?_
      refine fb_icmp_ne (tgt := 135) C i26 ix3 dX3_passBetween_113 (by decide) (fun c27 => ?_) (fun c27 => ?_)
      · have h := h.2 c27
        exact tw_X3_passBetween_135 hpp C hret h7 h83 x2 x3 x4 x5 x6 x7 _ _ _ _ w (lv_sub hl [1, 2, 3, 4, 5, 6, 7, 8] rfl) ix2 ix3 ix4 ix5 ix6 ix7 h
      · have h := h.1 c27
        refine lv_iload C.1.1 C.1.2.1 dX3_passBetween_116 (lv_at hl 5 rfl) ?_
        refine lv_iload C.1.1 C.1.2.1 dX3_passBetween_118 (lv_at hl 7 rfl) ?_
        refine lv_aload_n C.1.1 C.1.2.1 dX3_passBetween_120 rfl (lv_at hl 2 rfl) ?_
        refine fb_getr (k2 := 2) C w (fb_k1 C) rfl fl_X3_85 dX3_passBetween_121 ?_
        refine lv_iload C.1.1 C.1.2.1 dX3_passBetween_124 (lv_at hl 0 rfl) ?_
        obtain ⟨z28, z29, h⟩ := h
        refine fb_al C w 144 (fb_k2 C) rfl rfl z28 z29 dX3_passBetween_126 ?_
        have i30 := w.2.2.2 2 a22
        refine fb_mmax C ix6 i30 ml_X3_75 ⟨Nat.le_of_ble_eq_true rfl, Nat.le_of_ble_eq_true rfl, Nat.zero_le _, Nat.zero_le _⟩ hl.1 dX3_passBetween_127 ?_
        refine fb_mmin C ix4 (fb_in_max ix6 i30) ml_X3_92 ⟨Nat.le_of_ble_eq_true rfl, Nat.le_of_ble_eq_true rfl, Nat.zero_le _, Nat.zero_le _⟩ hl.1 dX3_passBetween_130 ?_
        refine fb_top (fun v31 ev31 => ?_)
        have h := h v31 ev31
        have iv31 := fb_ie ev31 (fb_in_min ix4 (fb_in_max ix6 i30))
        refine lv_istore (lv' := [(4, .int (fb_I v31)), (8, .int (fb_I a22)), (0, .ref (fb_ad G pp)), (1, .ref (fb_ad G 1)), (2, .int (fb_I x2)), (3, .int (fb_I x3)), (5, .int (fb_I x5)), (6, .int (fb_I x6)), (7, .int (fb_I x7))]) C.1.1 C.1.2.1 dX3_passBetween_133 hl (by decide) rfl (fun ls hl => ?_)
        exact tw_X3_passBetween_135 hpp C hret h7 h83 x2 x3 v31 x5 x6 x7 _ _ _ _ w (lv_sub hl [2, 3, 4, 5, 0, 6, 7, 8] rfl) ix2 ix3 iv31 ix5 ix6 ix7 h
theorem tl_X3_passBetween_83 (hpp : pp = 17 ∨ pp = 29) (C : fb_C p s m args meth c G RX3 cX3_passBetween 9) (hret : fb_RI p l e rm_X3_passBetween s m args below meth c G cX3_passBetween Qm Q) {r7 : Int → Int → Int → Int → fb_St → Prop} (h7 : TT_X3_passBetween_7 p l e s m args below meth c Qm G pp r7) : ∀ n : Nat, TT_X3_passBetween_83 p l e s m args below meth c Qm G pp (wl_X3_passBetween_83 pp r7 Q n) := by
  intro n
  induction n with
  | zero => intro x2 x3 x4 x5 x6 x7 σ H locs ls w hl ix2 ix3 ix4 ix5 ix6 ix7 h; exact h.elim
  | succ n ih => exact tw_X3_passBetween_83 hpp C hret h7 ih
set_option maxRecDepth 100000 in
set_option maxHeartbeats 4000000 in
theorem tw_X3_passBetween_7 (hpp : pp = 17 ∨ pp = 29) (C : fb_C p s m args meth c G RX3 cX3_passBetween 9) (hret : fb_RI p l e rm_X3_passBetween s m args below meth c G cX3_passBetween Qm Q) {r7 : Int → Int → Int → Int → fb_St → Prop} (h7 : TT_X3_passBetween_7 p l e s m args below meth c Qm G pp r7) : TT_X3_passBetween_7 p l e s m args below meth c Qm G pp (wb_X3_passBetween_7 pp r7 Q) := by
  intro x2 x3 x4 x5 σ H locs ls w hl ix2 ix3 ix4 ix5 h
  unfold wb_X3_passBetween_7 at h
  refine lv_iload C.1.1 C.1.2.1 dX3_passBetween_7 (lv_at hl 5 rfl) ?_
  refine lv_aload_n C.1.1 C.1.2.1 dX3_passBetween_9 rfl (lv_at hl 1 rfl) ?_
  refine fb_gi C w 2 (fb_k1 C) rfl rfl fl_X3_80 dX3_passBetween_10 ?_
  have i1 := w.2.2.2 1 2
  refine fb_icmp_ge (tgt := 147) C ix5 i1 dX3_passBetween_13 (by decide) (fun c2 => ?_) (fun c2 => ?_)
  · have h := h.2 c2
    refine lv_iload C.1.1 C.1.2.1 dX3_passBetween_147 (lv_at hl 4 rfl) ?_
    exact hret _ _ _ _ _ _ ix4 h w dX3_passBetween_149
  · have h := h.1 c2
    refine lv_aload_n C.1.1 C.1.2.1 dX3_passBetween_16 rfl (lv_at hl 1 rfl) ?_
    refine fb_getr (k2 := 2) C w (fb_k1 C) rfl fl_X3_85 dX3_passBetween_17 ?_
    refine lv_iload C.1.1 C.1.2.1 dX3_passBetween_20 (lv_at hl 5 rfl) ?_
    obtain ⟨z3, z4, h⟩ := h
    refine fb_al C w 144 (fb_k2 C) rfl rfl z3 z4 dX3_passBetween_22 ?_
    have i5 := w.2.2.2 2 x5
    refine fb_top (fun v6 ev6 => ?_)
    have h := h v6 ev6
    have iv6 := fb_ie ev6 i5
    refine lv_istore (lv' := [(6, .int (fb_I v6)), (0, .ref (fb_ad G pp)), (1, .ref (fb_ad G 1)), (2, .int (fb_I x2)), (3, .int (fb_I x3)), (4, .int (fb_I x4)), (5, .int (fb_I x5))]) C.1.1 C.1.2.1 dX3_passBetween_23 hl (by decide) rfl (fun ls hl => ?_)
    refine lv_aload_n C.1.1 C.1.2.1 dX3_passBetween_25 rfl (lv_at hl 1 rfl) ?_
    refine fb_getr (k2 := (pp+1)) C w (fb_pk0 C hpp) rfl fl_X3_15 dX3_passBetween_26 ?_
    refine lv_iload C.1.1 C.1.2.1 dX3_passBetween_29 (lv_at hl 6 rfl) ?_
    obtain ⟨z7, z8, h⟩ := h
    refine fb_al C w 144 (fb_pk1 C hpp) rfl rfl z7 z8 dX3_passBetween_31 ?_
    have i9 := w.2.2.2 (pp+1) x5
    refine fb_if_ne (tgt := 69) C i9 dX3_passBetween_32 (by decide) (fun c10 => ?_) (fun c10 => ?_)
    · have h := h.2 c10
      refine lv_aload_n C.1.1 C.1.2.1 dX3_passBetween_69 rfl (lv_at hl 1 rfl) ?_
      refine fb_getr (k2 := (pp+1)) C w (fb_pk0 C hpp) rfl fl_X3_15 dX3_passBetween_70 ?_
      refine lv_iload C.1.1 C.1.2.1 dX3_passBetween_73 (lv_at hl 6 rfl) ?_
      obtain ⟨z11, z12, h⟩ := h
      refine fb_al C w 144 (fb_pk1 C hpp) rfl rfl z11 z12 dX3_passBetween_75 ?_
      have i13 := w.2.2.2 (pp+1) x5
      refine lv_iload_n C.1.1 C.1.2.1 dX3_passBetween_76 rfl (lv_at hl 3 rfl) ?_
      refine fb_icmp_ne (tgt := 141) C i13 ix2 dX3_passBetween_77 (by decide) (fun c14 => ?_) (fun c14 => ?_)
      · have h := h.2 c14
        exact tw_X3_passBetween_141 hpp C hret h7 x2 x3 x4 x5 _ _ _ _ w (lv_sub hl [1, 2, 3, 4, 5, 6] rfl) ix2 ix3 ix4 ix5 h
      · have h := h.1 c14
        refine fb_iconst C dX3_passBetween_80 ?_
        refine lv_istore (lv' := [(7, .int (fb_I 0)), (6, .int (fb_I v6)), (0, .ref (fb_ad G pp)), (1, .ref (fb_ad G 1)), (2, .int (fb_I x2)), (3, .int (fb_I x3)), (4, .int (fb_I x4)), (5, .int (fb_I x5))]) C.1.1 C.1.2.1 dX3_passBetween_81 hl (by decide) rfl (fun ls hl => ?_)
        obtain ⟨n, h⟩ := h
        exact tl_X3_passBetween_83 hpp C hret h7 n x2 x3 x4 x5 v6 0 _ _ _ _ w (lv_sub hl [2, 3, 4, 5, 6, 7, 1, 0] rfl) ix2 ix3 ix4 ix5 iv6 (by decide) h
    · have h := h.1 c10
      refine lv_aload_n C.1.1 C.1.2.1 dX3_passBetween_35 rfl (lv_at hl 1 rfl) ?_
      refine lv_aload_n C.1.1 C.1.2.1 dX3_passBetween_36 rfl (lv_at hl 2 rfl) ?_
      refine lv_iload C.1.1 C.1.2.1 dX3_passBetween_37 (lv_at hl 6 rfl) ?_
      refine lv_iload_n C.1.1 C.1.2.1 dX3_passBetween_39 rfl (lv_at hl 3 rfl) ?_
      refine fb_callVi (As := [.ref (fb_ad G 1), .int (fb_I x5), .int (fb_I x2)]) (rest := []) C w (ct_X3_touches l G hpp ix5 ix2 h) mv_X3_88 (fb_pk0 C hpp) rfl ⟨rfl, rfl, Nat.le_of_ble_eq_true rfl, Nat.le_of_ble_eq_true rfl, Nat.zero_le _, Nat.zero_le _⟩ rfl hl.1 rfl (Nat.le_of_ble_eq_true rfl) dX3_passBetween_40 (fun a15 σ15 H locs h ia15 w => ?_)
      refine fb_if_eq (tgt := 141) C ia15 dX3_passBetween_43 (by decide) (fun c16 => ?_) (fun c16 => ?_)
      · have h := h.1 c16
        exact tw_X3_passBetween_141 hpp C hret h7 x2 x3 x4 x5 _ _ _ _ w (lv_sub hl [1, 2, 3, 4, 5, 6] rfl) ix2 ix3 ix4 ix5 h
      · have h := h.2 c16
        refine lv_aload_n C.1.1 C.1.2.1 dX3_passBetween_46 rfl (lv_at hl 1 rfl) ?_
        refine lv_aload_n C.1.1 C.1.2.1 dX3_passBetween_47 rfl (lv_at hl 2 rfl) ?_
        refine lv_iload C.1.1 C.1.2.1 dX3_passBetween_48 (lv_at hl 6 rfl) ?_
        refine lv_iload_n C.1.1 C.1.2.1 dX3_passBetween_50 rfl (lv_at hl 4 rfl) ?_
        refine fb_callVi (As := [.ref (fb_ad G 1), .int (fb_I x5), .int (fb_I x3)]) (rest := []) C w (ct_X3_touches l G hpp ix5 ix3 h) mv_X3_88 (fb_pk0 C hpp) rfl ⟨rfl, rfl, Nat.le_of_ble_eq_true rfl, Nat.le_of_ble_eq_true rfl, Nat.zero_le _, Nat.zero_le _⟩ rfl hl.1 rfl (Nat.le_of_ble_eq_true rfl) dX3_passBetween_51 (fun a17 σ17 H locs h ia17 w => ?_)
        refine fb_if_eq (tgt := 141) C ia17 dX3_passBetween_54 (by decide) (fun c18 => ?_) (fun c18 => ?_)
        · have h := h.1 c18
          exact tw_X3_passBetween_141 hpp C hret h7 x2 x3 x4 x5 _ _ _ _ w (lv_sub hl [1, 2, 3, 4, 5, 6] rfl) ix2 ix3 ix4 ix5 h
        · have h := h.2 c18
          refine lv_iload C.1.1 C.1.2.1 dX3_passBetween_57 (lv_at hl 5 rfl) ?_
          refine lv_iload C.1.1 C.1.2.1 dX3_passBetween_59 (lv_at hl 0 rfl) ?_
          refine fb_mmin C ix4 iv6 ml_X3_92 ⟨Nat.le_of_ble_eq_true rfl, Nat.le_of_ble_eq_true rfl, Nat.zero_le _, Nat.zero_le _⟩ hl.1 dX3_passBetween_61 ?_
          refine fb_top (fun v19 ev19 => ?_)
          have h := h v19 ev19
          have iv19 := fb_ie ev19 (fb_in_min ix4 iv6)
          refine lv_istore (lv' := [(4, .int (fb_I v19)), (6, .int (fb_I v6)), (0, .ref (fb_ad G pp)), (1, .ref (fb_ad G 1)), (2, .int (fb_I x2)), (3, .int (fb_I x3)), (5, .int (fb_I x5))]) C.1.1 C.1.2.1 dX3_passBetween_64 hl (by decide) rfl (fun ls hl => ?_)
          refine lv_goto (tgt := 141) C.1.1 C.1.2.1 dX3_passBetween_66 (by decide) ?_
          exact tw_X3_passBetween_141 hpp C hret h7 x2 x3 v19 x5 _ _ _ _ w (lv_sub hl [2, 3, 4, 5, 0, 6] rfl) ix2 ix3 iv19 ix5 h
theorem tl_X3_passBetween_7 (hpp : pp = 17 ∨ pp = 29) (C : fb_C p s m args meth c G RX3 cX3_passBetween 9) (hret : fb_RI p l e rm_X3_passBetween s m args below meth c G cX3_passBetween Qm Q) : ∀ n : Nat, TT_X3_passBetween_7 p l e s m args below meth c Qm G pp (wl_X3_passBetween_7 pp Q n) := by
  intro n
  induction n with
  | zero => intro x2 x3 x4 x5 σ H locs ls w hl ix2 ix3 ix4 ix5 h; exact h.elim
  | succ n ih => exact tw_X3_passBetween_7 hpp C hret ih
set_option maxRecDepth 100000 in
set_option maxHeartbeats 4000000 in
theorem tw_X3_passBetween_0 (hpp : pp = 17 ∨ pp = 29) (C : fb_C p s m args meth c G RX3 cX3_passBetween 9) (hret : fb_RI p l e rm_X3_passBetween s m args below meth c G cX3_passBetween Qm Q) : TT_X3_passBetween_0 p l e s m args below meth c Qm G pp (fun x2 x3 σ => wp_X3_passBetween pp x2 x3 σ Q) := by
  intro x2 x3 σ H locs ls w hl ix2 ix3 h
  unfold wp_X3_passBetween at h
  refine fb_bipush C dX3_passBetween_0 (by decide) ?_
  refine lv_istore (lv' := [(4, .int (fb_I 100)), (0, .ref (fb_ad G pp)), (1, .ref (fb_ad G 1)), (2, .int (fb_I x2)), (3, .int (fb_I x3))]) C.1.1 C.1.2.1 dX3_passBetween_2 hl (by decide) rfl (fun ls hl => ?_)
  refine fb_iconst C dX3_passBetween_4 ?_
  refine lv_istore (lv' := [(5, .int (fb_I 0)), (4, .int (fb_I 100)), (0, .ref (fb_ad G pp)), (1, .ref (fb_ad G 1)), (2, .int (fb_I x2)), (3, .int (fb_I x3))]) C.1.1 C.1.2.1 dX3_passBetween_5 hl (by decide) rfl (fun ls hl => ?_)
  obtain ⟨n, h⟩ := h
  exact tl_X3_passBetween_7 hpp C hret n x2 x3 100 0 _ _ _ _ w (lv_sub hl [2, 3, 4, 5, 1, 0] rfl) ix2 ix3 (by decide) (by decide) h
theorem ct_X3_passBetween (l : Launch) (G : fb_G) (hpp : pp = 17 ∨ pp = 29) {x2 : Int} {x3 : Int} {σ : fb_St} (ix2 : fb_in x2) (ix3 : fb_in x3) (h : wp_X3_passBetween pp x2 x3 σ Q) : fb_MI l G yX3_passBetween cX3_passBetween 9 (some .int) rm_X3_passBetween [.ref (fb_ad G pp), .ref (fb_ad G 1), .int (fb_I x2), .int (fb_I x3)] σ Q := by
  refine fb_ofW (own := RX3) (by decide) (Nat.le_of_ble_eq_true rfl) rfl (fun p e s m args below meth c ls C hr hl w => ?_)
  exact tw_X3_passBetween_0 hpp C (fb_reti C hr) _ _ _ _ _ _ w hl ix2 ix3 h
end S_X3_passBetween
section S_X6_pass
variable {p : Program} {l : Launch} {e : Env} {s : State} {m : MethodId} {args : Array Value} {below : List Frame} {meth : Method} {c : Code} {Qm : State → Prop} {G : fb_G} {Q : Int → fb_St → Prop}
abbrev TT_X6_pass_21 (p : Program) (l : Launch) (e : Env) (s : State) (m : MethodId) (args : Array Value) (below : List Frame) (meth : Method) (c : Code) (Qm : State → Prop) (G : fb_G) (r : fb_St → Prop) : Prop := ∀ (σ : fb_St) (H : Heap) (locs : List Loc) (ls : Array Slot), fb_Wd G s σ H locs → lv_has ls 4 [] → r σ → W p l e rm_X6_pass s m args below meth c H locs 0 0 Qm (F0 m 21 ls [])
abbrev TT_X6_pass_0 (p : Program) (l : Launch) (e : Env) (s : State) (m : MethodId) (args : Array Value) (below : List Frame) (meth : Method) (c : Code) (Qm : State → Prop) (G : fb_G) (r : Int → Int → fb_St → Prop) : Prop := ∀ (x1 x2 : Int) (σ : fb_St) (H : Heap) (locs : List Loc) (ls : Array Slot), fb_Wd G s σ H locs → lv_has ls 4 [(0, .ref (fb_ad G 0)), (1, .int (fb_I x1)), (2, .int (fb_I x2))] → fb_in x1 → fb_in x2 → r x1 x2 σ → W p l e rm_X6_pass s m args below meth c H locs 0 0 Qm (F0 m 0 ls [])
set_option maxRecDepth 100000 in
set_option maxHeartbeats 4000000 in
theorem tw_X6_pass_21 (C : fb_C p s m args meth c G RX6 cX6_pass 4) (hret : fb_RI p l e rm_X6_pass s m args below meth c G cX6_pass Qm Q) : TT_X6_pass_21 p l e s m args below meth c Qm G (wj_X6_pass_21 Q) := by
  intro σ H locs ls w hl h
  unfold wj_X6_pass_21 at h
  refine fb_iconst C dX6_pass_21 ?_
  exact hret _ _ _ _ _ _ (by decide) h w dX6_pass_22
set_option maxRecDepth 100000 in
set_option maxHeartbeats 4000000 in
theorem tw_X6_pass_0 (C : fb_C p s m args meth c G RX6 cX6_pass 4) (hret : fb_RI p l e rm_X6_pass s m args below meth c G cX6_pass Qm Q) : TT_X6_pass_0 p l e s m args below meth c Qm G (fun x1 x2 σ => wp_X6_pass x1 x2 σ Q) := by
  intro x1 x2 σ H locs ls w hl ix1 ix2 h
  unfold wp_X6_pass at h
  refine lv_aload_n C.1.1 C.1.2.1 dX6_pass_0 rfl (lv_at hl 0 rfl) ?_
  refine fb_callVr (As := []) (rest := []) C w (ct_X6_standingPour l G h) mv_X6_123 (fb_k0 C) rfl ⟨rfl, rfl, Nat.le_of_ble_eq_true rfl, Nat.le_of_ble_eq_true rfl, Nat.zero_le _, Nat.zero_le _⟩ rfl hl.1 rfl (Nat.le_of_ble_eq_true rfl) dX6_pass_1 (fun σ1 H locs h w => ?_)
  refine lv_astore_n (lv' := [(3, .ref (fb_ad G 17)), (0, .ref (fb_ad G 0)), (1, .int (fb_I x1)), (2, .int (fb_I x2))]) C.1.1 C.1.2.1 dX6_pass_4 rfl hl (by decide) rfl (fun ls hl => ?_)
  refine lv_aload_n C.1.1 C.1.2.1 dX6_pass_5 rfl (lv_at hl 0 rfl) ?_
  refine lv_iload_n C.1.1 C.1.2.1 dX6_pass_6 rfl (lv_at hl 2 rfl) ?_
  refine fb_callVi (As := [.int (fb_I x1)]) (rest := []) C w (ct_X3_hasBasin l G (Or.inl rfl) ix1 h) mv_X6_131 (fb_k17 C) rfl ⟨rfl, rfl, Nat.le_of_ble_eq_true rfl, Nat.le_of_ble_eq_true rfl, Nat.zero_le _, Nat.zero_le _⟩ rfl hl.1 rfl (Nat.le_of_ble_eq_true rfl) dX6_pass_7 (fun a2 σ2 H locs h ia2 w => ?_)
  refine fb_if_eq (tgt := 21) C ia2 dX6_pass_10 (by decide) (fun c3 => ?_) (fun c3 => ?_)
  · have h := h.1 c3
    exact tw_X6_pass_21 C hret _ _ _ _ w (lv_sub hl [] rfl) h
  · have h := h.2 c3
    refine lv_aload_n C.1.1 C.1.2.1 dX6_pass_13 rfl (lv_at hl 0 rfl) ?_
    refine lv_iload_n C.1.1 C.1.2.1 dX6_pass_14 rfl (lv_at hl 3 rfl) ?_
    refine fb_callVi (As := [.int (fb_I x2)]) (rest := []) C w (ct_X3_hasBasin l G (Or.inl rfl) ix2 h) mv_X6_131 (fb_k17 C) rfl ⟨rfl, rfl, Nat.le_of_ble_eq_true rfl, Nat.le_of_ble_eq_true rfl, Nat.zero_le _, Nat.zero_le _⟩ rfl hl.1 rfl (Nat.le_of_ble_eq_true rfl) dX6_pass_15 (fun a4 σ4 H locs h ia4 w => ?_)
    refine fb_if_ne (tgt := 23) C ia4 dX6_pass_18 (by decide) (fun c5 => ?_) (fun c5 => ?_)
    · have h := h.2 c5
      refine lv_iload_n C.1.1 C.1.2.1 dX6_pass_23 rfl (lv_at hl 2 rfl) ?_
      refine lv_iload_n C.1.1 C.1.2.1 dX6_pass_24 rfl (lv_at hl 3 rfl) ?_
      refine fb_icmp_ne (tgt := 31) C ix1 ix2 dX6_pass_25 (by decide) (fun c6 => ?_) (fun c6 => ?_)
      · have h := h.2 c6
        refine lv_aload_n C.1.1 C.1.2.1 dX6_pass_31 rfl (lv_at hl 0 rfl) ?_
        refine lv_aload_n C.1.1 C.1.2.1 dX6_pass_32 rfl (lv_at hl 1 rfl) ?_
        refine fb_getr (k2 := 1) C w (fb_k0 C) rfl fl_X6_10 dX6_pass_33 ?_
        refine lv_iload_n C.1.1 C.1.2.1 dX6_pass_36 rfl (lv_at hl 2 rfl) ?_
        refine lv_iload_n C.1.1 C.1.2.1 dX6_pass_37 rfl (lv_at hl 3 rfl) ?_
        refine fb_callVi (As := [.ref (fb_ad G 1), .int (fb_I x1), .int (fb_I x2)]) (rest := []) C w (ct_X3_passBetween l G (Or.inl rfl) ix1 ix2 h) mv_X6_151 (fb_k17 C) rfl ⟨rfl, rfl, Nat.le_of_ble_eq_true rfl, Nat.le_of_ble_eq_true rfl, Nat.zero_le _, Nat.zero_le _⟩ rfl hl.1 rfl (Nat.le_of_ble_eq_true rfl) dX6_pass_38 (fun a7 σ7 H locs h ia7 w => ?_)
        refine fb_callSi (As := [.int (fb_I a7)]) (rest := []) C w (ct_X6_heightOrNone l G ia7 h) ms_X6_144 ⟨rfl, rfl, Nat.le_of_ble_eq_true rfl, Nat.le_of_ble_eq_true rfl, Nat.zero_le _, Nat.zero_le _⟩ rfl hl.1 rfl (Nat.le_of_ble_eq_true rfl) dX6_pass_41 (fun a8 σ8 H locs h ia8 w => ?_)
        exact hret _ _ _ _ _ _ ia8 h w dX6_pass_44
      · have h := h.1 c6
        refine fb_bipush C dX6_pass_28 (by decide) ?_
        exact hret _ _ _ _ _ _ (by decide) h w dX6_pass_30
    · have h := h.1 c5
      exact tw_X6_pass_21 C hret _ _ _ _ w (lv_sub hl [] rfl) h
theorem ct_X6_pass (l : Launch) (G : fb_G) {x1 : Int} {x2 : Int} {σ : fb_St} (ix1 : fb_in x1) (ix2 : fb_in x2) (h : wp_X6_pass x1 x2 σ Q) : fb_MI l G yX6_pass cX6_pass 4 (some .int) rm_X6_pass [.ref (fb_ad G 0), .int (fb_I x1), .int (fb_I x2)] σ Q := by
  refine fb_ofW (own := RX6) (by decide) (Nat.le_of_ble_eq_true rfl) rfl (fun p e s m args below meth c ls C hr hl w => ?_)
  exact tw_X6_pass_0 C (fb_reti C hr) _ _ _ _ _ _ w hl ix1 ix2 h
end S_X6_pass
section S_X3_told
variable {p : Program} {l : Launch} {e : Env} {s : State} {m : MethodId} {args : Array Value} {below : List Frame} {meth : Method} {c : Code} {Qm : State → Prop} {G : fb_G} {Q : Int → fb_St → Prop} {pp : Nat}
abbrev TT_X3_told_0 (p : Program) (l : Launch) (e : Env) (s : State) (m : MethodId) (args : Array Value) (below : List Frame) (meth : Method) (c : Code) (Qm : State → Prop) (G : fb_G) (pp : Nat) (r : Int → Int → fb_St → Prop) : Prop := ∀ (x1 x2 : Int) (σ : fb_St) (H : Heap) (locs : List Loc) (ls : Array Slot), fb_Wd G s σ H locs → lv_has ls 3 [(0, .ref (fb_ad G pp)), (1, .int (fb_I x1)), (2, .int (fb_I x2))] → fb_in x1 → fb_in x2 → r x1 x2 σ → W p l e rm_X3_told s m args below meth c H locs 0 0 Qm (F0 m 0 ls [])
set_option maxRecDepth 100000 in
set_option maxHeartbeats 4000000 in
theorem tw_X3_told_0 (hpp : pp = 17 ∨ pp = 29) (C : fb_C p s m args meth c G RX3 cX3_told 3) (hret : fb_RI p l e rm_X3_told s m args below meth c G cX3_told Qm Q) : TT_X3_told_0 p l e s m args below meth c Qm G pp (fun x1 x2 σ => wp_X3_told pp x1 x2 σ Q) := by
  intro x1 x2 σ H locs ls w hl ix1 ix2 h
  unfold wp_X3_told at h
  refine lv_iload_n C.1.1 C.1.2.1 dX3_told_0 rfl (lv_at hl 2 rfl) ?_
  refine fb_iconst C dX3_told_1 ?_
  refine fb_iconst C dX3_told_2 ?_
  refine fb_callNi (As := [.int (fb_I x2), .int (fb_I 0), .int (fb_I 3)]) (rest := []) C w C.2.1.1.2.2.2 (ct_X6_within l G ix2 (by decide) (by decide) h) (mn_X6_within _) ⟨rfl, rfl, Nat.le_of_ble_eq_true rfl, Nat.le_of_ble_eq_true rfl, Nat.zero_le _, Nat.zero_le _⟩ rfl hl.1 rfl (Nat.le_of_ble_eq_true rfl) dX3_told_3 (fun a1 σ1 H locs h ia1 w => ?_)
  refine fb_if_ne (tgt := 12) C ia1 dX3_told_6 (by decide) (fun c2 => ?_) (fun c2 => ?_)
  · have h := h.2 c2
    refine lv_iload_n C.1.1 C.1.2.1 dX3_told_12 rfl (lv_at hl 1 rfl) ?_
    refine fb_iconst C dX3_told_13 ?_
    refine lv_aload_n C.1.1 C.1.2.1 dX3_told_14 rfl (lv_at hl 0 rfl) ?_
    refine fb_gi C w 0 (fb_pk0 C hpp) rfl rfl fl_X3_9 dX3_told_15 ?_
    have i3 := w.2.2.2 pp 0
    refine fb_iconst C dX3_told_18 ?_
    obtain ⟨i4, h⟩ := h
    refine fb_isub C dX3_told_19 ?_
    refine fb_callNi (As := [.int (fb_I x1), .int (fb_I 0), .int (fb_I ((σ1 pp 0) - 1))]) (rest := []) C w C.2.1.1.2.2.2 (ct_X6_within l G ix1 (by decide) i4 h) (mn_X6_within _) ⟨rfl, rfl, Nat.le_of_ble_eq_true rfl, Nat.le_of_ble_eq_true rfl, Nat.zero_le _, Nat.zero_le _⟩ rfl hl.1 rfl (Nat.le_of_ble_eq_true rfl) dX3_told_20 (fun a5 σ5 H locs h ia5 w => ?_)
    refine fb_if_ne (tgt := 29) C ia5 dX3_told_23 (by decide) (fun c6 => ?_) (fun c6 => ?_)
    · have h := h.2 c6
      refine lv_iload_n C.1.1 C.1.2.1 dX3_told_29 rfl (lv_at hl 2 rfl) ?_
      by_cases c7 : x2 = 0
      · have h := h.1 c7
        refine fb_tableIn (tgt := 56) (j := 0) C ix2 dX3_told_30 c7 (by decide) rfl (by decide) ?_
        refine lv_aload_n C.1.1 C.1.2.1 dX3_told_56 rfl (lv_at hl 0 rfl) ?_
        refine fb_getr (k2 := (pp+7)) C w (fb_pk0 C hpp) rfl fl_X3_34 dX3_told_57 ?_
        refine lv_iload_n C.1.1 C.1.2.1 dX3_told_60 rfl (lv_at hl 1 rfl) ?_
        obtain ⟨z8, z9, h⟩ := h
        refine fb_al C w 99 (fb_pk7 C hpp) rfl rfl z8 z9 dX3_told_61 ?_
        have i10 := w.2.2.2 (pp+7) x1
        exact hret _ _ _ _ _ _ i10 h w dX3_told_62
      by_cases c11 : x2 = 1
      · have h := h.2.1 c11
        refine fb_tableIn (tgt := 63) (j := 1) C ix2 dX3_told_30 c11 (by decide) rfl (by decide) ?_
        refine lv_aload_n C.1.1 C.1.2.1 dX3_told_63 rfl (lv_at hl 0 rfl) ?_
        refine fb_getr (k2 := (pp+8)) C w (fb_pk0 C hpp) rfl fl_X3_37 dX3_told_64 ?_
        refine lv_iload_n C.1.1 C.1.2.1 dX3_told_67 rfl (lv_at hl 1 rfl) ?_
        obtain ⟨z12, z13, h⟩ := h
        refine fb_al C w 99 (fb_pk8 C hpp) rfl rfl z12 z13 dX3_told_68 ?_
        have i14 := w.2.2.2 (pp+8) x1
        exact hret _ _ _ _ _ _ i14 h w dX3_told_69
      by_cases c15 : x2 = 2
      · have h := h.2.2.1 c15
        refine fb_tableIn (tgt := 70) (j := 2) C ix2 dX3_told_30 c15 (by decide) rfl (by decide) ?_
        refine lv_aload_n C.1.1 C.1.2.1 dX3_told_70 rfl (lv_at hl 0 rfl) ?_
        refine fb_getr (k2 := (pp+9)) C w (fb_pk0 C hpp) rfl fl_X3_40 dX3_told_71 ?_
        refine lv_iload_n C.1.1 C.1.2.1 dX3_told_74 rfl (lv_at hl 1 rfl) ?_
        obtain ⟨z16, z17, h⟩ := h
        refine fb_al C w 99 (fb_pk9 C hpp) rfl rfl z16 z17 dX3_told_75 ?_
        have i18 := w.2.2.2 (pp+9) x1
        exact hret _ _ _ _ _ _ i18 h w dX3_told_76
      have c22 : x2 < 0 ∨ 2 < x2 := by omega
      have h := h.2.2.2 c22
      refine fb_tableOut (tgt := 77) C ix2 dX3_told_30 c22 (by decide) ?_
      refine lv_aload_n C.1.1 C.1.2.1 dX3_told_77 rfl (lv_at hl 0 rfl) ?_
      refine fb_getr (k2 := (pp+10)) C w (fb_pk0 C hpp) rfl fl_X3_43 dX3_told_78 ?_
      refine lv_iload_n C.1.1 C.1.2.1 dX3_told_81 rfl (lv_at hl 1 rfl) ?_
      obtain ⟨z19, z20, h⟩ := h
      refine fb_al C w 99 (fb_pk10 C hpp) rfl rfl z19 z20 dX3_told_82 ?_
      have i21 := w.2.2.2 (pp+10) x1
      exact hret _ _ _ _ _ _ i21 h w dX3_told_83
    · have h := h.1 c6
      refine fb_bipush C dX3_told_26 (by decide) ?_
      exact hret _ _ _ _ _ _ (by decide) h w dX3_told_28
  · have h := h.1 c2
    refine fb_bipush C dX3_told_9 (by decide) ?_
    exact hret _ _ _ _ _ _ (by decide) h w dX3_told_11
theorem ct_X3_told (l : Launch) (G : fb_G) (hpp : pp = 17 ∨ pp = 29) {x1 : Int} {x2 : Int} {σ : fb_St} (ix1 : fb_in x1) (ix2 : fb_in x2) (h : wp_X3_told pp x1 x2 σ Q) : fb_MI l G yX3_told cX3_told 3 (some .int) rm_X3_told [.ref (fb_ad G pp), .int (fb_I x1), .int (fb_I x2)] σ Q := by
  refine fb_ofW (own := RX3) (by decide) (Nat.le_of_ble_eq_true rfl) rfl (fun p e s m args below meth c ls C hr hl w => ?_)
  exact tw_X3_told_0 hpp C (fb_reti C hr) _ _ _ _ _ _ w hl ix1 ix2 h
end S_X3_told
section S_X6_poured
variable {p : Program} {l : Launch} {e : Env} {s : State} {m : MethodId} {args : Array Value} {below : List Frame} {meth : Method} {c : Code} {Qm : State → Prop} {G : fb_G} {Q : Int → fb_St → Prop}
abbrev TT_X6_poured_0 (p : Program) (l : Launch) (e : Env) (s : State) (m : MethodId) (args : Array Value) (below : List Frame) (meth : Method) (c : Code) (Qm : State → Prop) (G : fb_G) (r : Int → Int → fb_St → Prop) : Prop := ∀ (x1 x2 : Int) (σ : fb_St) (H : Heap) (locs : List Loc) (ls : Array Slot), fb_Wd G s σ H locs → lv_has ls 3 [(0, .ref (fb_ad G 0)), (1, .int (fb_I x1)), (2, .int (fb_I x2))] → fb_in x1 → fb_in x2 → r x1 x2 σ → W p l e rm_X6_poured s m args below meth c H locs 0 0 Qm (F0 m 0 ls [])
set_option maxRecDepth 100000 in
set_option maxHeartbeats 4000000 in
theorem tw_X6_poured_0 (C : fb_C p s m args meth c G RX6 cX6_poured 3) (hret : fb_RI p l e rm_X6_poured s m args below meth c G cX6_poured Qm Q) : TT_X6_poured_0 p l e s m args below meth c Qm G (fun x1 x2 σ => wp_X6_poured x1 x2 σ Q) := by
  intro x1 x2 σ H locs ls w hl ix1 ix2 h
  unfold wp_X6_poured at h
  refine lv_aload_n C.1.1 C.1.2.1 dX6_poured_0 rfl (lv_at hl 0 rfl) ?_
  refine fb_callVr (As := []) (rest := []) C w (ct_X6_standingPour l G h) mv_X6_123 (fb_k0 C) rfl ⟨rfl, rfl, Nat.le_of_ble_eq_true rfl, Nat.le_of_ble_eq_true rfl, Nat.zero_le _, Nat.zero_le _⟩ rfl hl.1 rfl (Nat.le_of_ble_eq_true rfl) dX6_poured_1 (fun σ1 H locs h w => ?_)
  refine lv_iload_n C.1.1 C.1.2.1 dX6_poured_4 rfl (lv_at hl 1 rfl) ?_
  refine lv_iload_n C.1.1 C.1.2.1 dX6_poured_5 rfl (lv_at hl 2 rfl) ?_
  refine fb_callVi (As := [.int (fb_I x1), .int (fb_I x2)]) (rest := []) C w (ct_X3_told l G (Or.inl rfl) ix1 ix2 h) mv_X6_155 (fb_k17 C) rfl ⟨rfl, rfl, Nat.le_of_ble_eq_true rfl, Nat.le_of_ble_eq_true rfl, Nat.zero_le _, Nat.zero_le _⟩ rfl hl.1 rfl (Nat.le_of_ble_eq_true rfl) dX6_poured_6 (fun a2 σ2 H locs h ia2 w => ?_)
  exact hret _ _ _ _ _ _ ia2 h w dX6_poured_9
theorem ct_X6_poured (l : Launch) (G : fb_G) {x1 : Int} {x2 : Int} {σ : fb_St} (ix1 : fb_in x1) (ix2 : fb_in x2) (h : wp_X6_poured x1 x2 σ Q) : fb_MI l G yX6_poured cX6_poured 3 (some .int) rm_X6_poured [.ref (fb_ad G 0), .int (fb_I x1), .int (fb_I x2)] σ Q := by
  refine fb_ofW (own := RX6) (by decide) (Nat.le_of_ble_eq_true rfl) rfl (fun p e s m args below meth c ls C hr hl w => ?_)
  exact tw_X6_poured_0 C (fb_reti C hr) _ _ _ _ _ _ w hl ix1 ix2 h
end S_X6_poured
section S_X6_standingTree
variable {p : Program} {l : Launch} {e : Env} {s : State} {m : MethodId} {args : Array Value} {below : List Frame} {meth : Method} {c : Code} {Qm : State → Prop} {G : fb_G} {Q : Int → fb_St → Prop}
abbrev TT_X6_standingTree_34 (p : Program) (l : Launch) (e : Env) (s : State) (m : MethodId) (args : Array Value) (below : List Frame) (meth : Method) (c : Code) (Qm : State → Prop) (G : fb_G) (r : fb_St → Prop) : Prop := ∀ (σ : fb_St) (H : Heap) (locs : List Loc) (ls : Array Slot), fb_Wd G s σ H locs → lv_has ls 1 [(0, .ref (fb_ad G 0))] → r σ → W p l e rm_X6_standingTree s m args below meth c H locs 0 0 Qm (F0 m 34 ls [])
abbrev TT_X6_standingTree_0 (p : Program) (l : Launch) (e : Env) (s : State) (m : MethodId) (args : Array Value) (below : List Frame) (meth : Method) (c : Code) (Qm : State → Prop) (G : fb_G) (r : fb_St → Prop) : Prop := ∀ (σ : fb_St) (H : Heap) (locs : List Loc) (ls : Array Slot), fb_Wd G s σ H locs → lv_has ls 1 [(0, .ref (fb_ad G 0))] → r σ → W p l e rm_X6_standingTree s m args below meth c H locs 0 0 Qm (F0 m 0 ls [])
set_option maxRecDepth 100000 in
set_option maxHeartbeats 4000000 in
theorem tw_X6_standingTree_34 (C : fb_C p s m args meth c G RX6 cX6_standingTree 1) (hret : fb_RR p l e rm_X6_standingTree s m args below meth c G cX6_standingTree Qm 29 Q) : TT_X6_standingTree_34 p l e s m args below meth c Qm G (wj_X6_standingTree_34 Q) := by
  intro σ H locs ls w hl h
  unfold wj_X6_standingTree_34 at h
  refine lv_aload_n C.1.1 C.1.2.1 dX6_standingTree_34 rfl (lv_at hl 0 rfl) ?_
  refine fb_getr (k2 := 29) C w (fb_k0 C) rfl fl_X6_37 dX6_standingTree_35 ?_
  exact hret _ _ _ _ _ h w dX6_standingTree_38
set_option maxRecDepth 100000 in
set_option maxHeartbeats 4000000 in
theorem tw_X6_standingTree_0 (C : fb_C p s m args meth c G RX6 cX6_standingTree 1) (hret : fb_RR p l e rm_X6_standingTree s m args below meth c G cX6_standingTree Qm 29 Q) : TT_X6_standingTree_0 p l e s m args below meth c Qm G (fun σ => wp_X6_standingTree σ Q) := by
  intro σ H locs ls w hl h
  unfold wp_X6_standingTree at h
  refine lv_aload_n C.1.1 C.1.2.1 dX6_standingTree_0 rfl (lv_at hl 0 rfl) ?_
  refine fb_gi C w 10 (fb_k0 C) rfl rfl fl_X6_61 dX6_standingTree_1 ?_
  have i1 := w.2.2.2 0 10
  refine fb_if_ne (tgt := 34) C i1 dX6_standingTree_4 (by decide) (fun c2 => ?_) (fun c2 => ?_)
  · have h := h.2 c2
    exact tw_X6_standingTree_34 C hret _ _ _ _ w (lv_sub hl [0] rfl) h
  · have h := h.1 c2
    refine lv_aload_n C.1.1 C.1.2.1 dX6_standingTree_7 rfl (lv_at hl 0 rfl) ?_
    refine fb_getr (k2 := 29) C w (fb_k0 C) rfl fl_X6_37 dX6_standingTree_8 ?_
    refine lv_aload_n C.1.1 C.1.2.1 dX6_standingTree_11 rfl (lv_at hl 0 rfl) ?_
    refine fb_getr (k2 := 1) C w (fb_k0 C) rfl fl_X6_10 dX6_standingTree_12 ?_
    refine lv_aload_n C.1.1 C.1.2.1 dX6_standingTree_15 rfl (lv_at hl 0 rfl) ?_
    refine fb_callVr (As := []) (rest := [.ref (fb_ad G 1), .ref (fb_ad G 29)]) C w (ct_X6_standingFlood l G h) mv_X6_110 (fb_k0 C) rfl ⟨rfl, rfl, Nat.le_of_ble_eq_true rfl, Nat.le_of_ble_eq_true rfl, Nat.zero_le _, Nat.zero_le _⟩ rfl hl.1 rfl (Nat.le_of_ble_eq_true rfl) dX6_standingTree_16 (fun σ3 H locs h w => ?_)
    refine fb_getr (k2 := 9) C w (fb_k8 C) rfl fl_X6_114 dX6_standingTree_19 ?_
    refine fb_iconst C dX6_standingTree_22 ?_
    refine fb_sipush C dX6_standingTree_23 (by decide) ?_
    refine fb_callVv (As := [.ref (fb_ad G 1), .ref (fb_ad G 9), .int (fb_I 0), .int (fb_I 145)]) (rest := []) C w (ct_X3_run l G (Or.inr rfl) (by decide) (by decide) h) mv_X6_223 (fb_k29 C) rfl ⟨rfl, rfl, Nat.le_of_ble_eq_true rfl, Nat.le_of_ble_eq_true rfl, Nat.zero_le _, Nat.zero_le _⟩ rfl hl.1 rfl (Nat.le_of_ble_eq_true rfl) dX6_standingTree_26 (fun σ4 H locs h w => ?_)
    refine lv_aload_n C.1.1 C.1.2.1 dX6_standingTree_29 rfl (lv_at hl 0 rfl) ?_
    refine fb_iconst C dX6_standingTree_30 ?_
    refine fb_pi C w 10 (fb_k0 C) rfl rfl fl_X6_61 tyX6_ok nmX6 rfl (by decide) (fb_nzb (by decide)) (fb_fzb (by decide)) dX6_standingTree_31 (fun σ5 H locs eσ5 w => ?_)
    have h := h σ5 eσ5
    exact tw_X6_standingTree_34 C hret _ _ _ _ w (lv_sub hl [0] rfl) h
theorem ct_X6_standingTree (l : Launch) (G : fb_G) {σ : fb_St} (h : wp_X6_standingTree σ Q) : fb_MR l G yX6_standingTree cX6_standingTree 1 (some (.object "FloodBasins$Pour")) rm_X6_standingTree 29 [.ref (fb_ad G 0)] σ Q := by
  refine fb_ofW (own := RX6) (by decide) (Nat.le_of_ble_eq_true rfl) rfl (fun p e s m args below meth c ls C hr hl w => ?_)
  exact tw_X6_standingTree_0 C (fb_retr C hr (Or.inl ⟨_, rfl⟩)) _ _ _ _ w hl h
end S_X6_standingTree
section S_X6_tree
variable {p : Program} {l : Launch} {e : Env} {s : State} {m : MethodId} {args : Array Value} {below : List Frame} {meth : Method} {c : Code} {Qm : State → Prop} {G : fb_G} {Q : Int → fb_St → Prop}
abbrev TT_X6_tree_0 (p : Program) (l : Launch) (e : Env) (s : State) (m : MethodId) (args : Array Value) (below : List Frame) (meth : Method) (c : Code) (Qm : State → Prop) (G : fb_G) (r : Int → Int → fb_St → Prop) : Prop := ∀ (x1 x2 : Int) (σ : fb_St) (H : Heap) (locs : List Loc) (ls : Array Slot), fb_Wd G s σ H locs → lv_has ls 3 [(0, .ref (fb_ad G 0)), (1, .int (fb_I x1)), (2, .int (fb_I x2))] → fb_in x1 → fb_in x2 → r x1 x2 σ → W p l e rm_X6_tree s m args below meth c H locs 0 0 Qm (F0 m 0 ls [])
set_option maxRecDepth 100000 in
set_option maxHeartbeats 4000000 in
theorem tw_X6_tree_0 (C : fb_C p s m args meth c G RX6 cX6_tree 3) (hret : fb_RI p l e rm_X6_tree s m args below meth c G cX6_tree Qm Q) : TT_X6_tree_0 p l e s m args below meth c Qm G (fun x1 x2 σ => wp_X6_tree x1 x2 σ Q) := by
  intro x1 x2 σ H locs ls w hl ix1 ix2 h
  unfold wp_X6_tree at h
  refine lv_aload_n C.1.1 C.1.2.1 dX6_tree_0 rfl (lv_at hl 0 rfl) ?_
  refine fb_callVr (As := []) (rest := []) C w (ct_X6_standingTree l G h) mv_X6_158 (fb_k0 C) rfl ⟨rfl, rfl, Nat.le_of_ble_eq_true rfl, Nat.le_of_ble_eq_true rfl, Nat.zero_le _, Nat.zero_le _⟩ rfl hl.1 rfl (Nat.le_of_ble_eq_true rfl) dX6_tree_1 (fun σ1 H locs h w => ?_)
  refine lv_iload_n C.1.1 C.1.2.1 dX6_tree_4 rfl (lv_at hl 1 rfl) ?_
  refine lv_iload_n C.1.1 C.1.2.1 dX6_tree_5 rfl (lv_at hl 2 rfl) ?_
  refine fb_callVi (As := [.int (fb_I x1), .int (fb_I x2)]) (rest := []) C w (ct_X3_told l G (Or.inr rfl) ix1 ix2 h) mv_X6_155 (fb_k29 C) rfl ⟨rfl, rfl, Nat.le_of_ble_eq_true rfl, Nat.le_of_ble_eq_true rfl, Nat.zero_le _, Nat.zero_le _⟩ rfl hl.1 rfl (Nat.le_of_ble_eq_true rfl) dX6_tree_6 (fun a2 σ2 H locs h ia2 w => ?_)
  exact hret _ _ _ _ _ _ ia2 h w dX6_tree_9
theorem ct_X6_tree (l : Launch) (G : fb_G) {x1 : Int} {x2 : Int} {σ : fb_St} (ix1 : fb_in x1) (ix2 : fb_in x2) (h : wp_X6_tree x1 x2 σ Q) : fb_MI l G yX6_tree cX6_tree 3 (some .int) rm_X6_tree [.ref (fb_ad G 0), .int (fb_I x1), .int (fb_I x2)] σ Q := by
  refine fb_ofW (own := RX6) (by decide) (Nat.le_of_ble_eq_true rfl) rfl (fun p e s m args below meth c ls C hr hl w => ?_)
  exact tw_X6_tree_0 C (fb_reti C hr) _ _ _ _ _ _ w hl ix1 ix2 h
end S_X6_tree
section S_X6_leastLevelBetween
variable {p : Program} {l : Launch} {e : Env} {s : State} {m : MethodId} {args : Array Value} {below : List Frame} {meth : Method} {c : Code} {Qm : State → Prop} {G : fb_G} {Q : Int → fb_St → Prop}
abbrev TT_X6_leastLevelBetween_95 (p : Program) (l : Launch) (e : Env) (s : State) (m : MethodId) (args : Array Value) (below : List Frame) (meth : Method) (c : Code) (Qm : State → Prop) (G : fb_G) (r : Int → Int → Int → Int → Int → fb_St → Prop) : Prop := ∀ (x1 x2 x3 x4 x5 : Int) (σ : fb_St) (H : Heap) (locs : List Loc) (ls : Array Slot), fb_Wd G s σ H locs → lv_has ls 7 [(0, .ref (fb_ad G 0)), (1, .int (fb_I x1)), (2, .int (fb_I x2)), (3, .int (fb_I x3)), (4, .int (fb_I x4)), (5, .int (fb_I x5))] → fb_in x1 → fb_in x2 → fb_in x3 → fb_in x4 → fb_in x5 → r x1 x2 x3 x4 x5 σ → W p l e rm_X6_leastLevelBetween s m args below meth c H locs 0 0 Qm (F0 m 95 ls [])
abbrev TT_X6_leastLevelBetween_101 (p : Program) (l : Launch) (e : Env) (s : State) (m : MethodId) (args : Array Value) (below : List Frame) (meth : Method) (c : Code) (Qm : State → Prop) (G : fb_G) (r : Int → fb_St → Prop) : Prop := ∀ (x3 : Int) (σ : fb_St) (H : Heap) (locs : List Loc) (ls : Array Slot), fb_Wd G s σ H locs → lv_has ls 7 [(3, .int (fb_I x3))] → fb_in x3 → r x3 σ → W p l e rm_X6_leastLevelBetween s m args below meth c H locs 0 0 Qm (F0 m 101 ls [])
abbrev TT_X6_leastLevelBetween_29 (p : Program) (l : Launch) (e : Env) (s : State) (m : MethodId) (args : Array Value) (below : List Frame) (meth : Method) (c : Code) (Qm : State → Prop) (G : fb_G) (r : Int → Int → Int → Int → Int → fb_St → Prop) : Prop := ∀ (x1 x2 x3 x4 x5 : Int) (σ : fb_St) (H : Heap) (locs : List Loc) (ls : Array Slot), fb_Wd G s σ H locs → lv_has ls 7 [(0, .ref (fb_ad G 0)), (1, .int (fb_I x1)), (2, .int (fb_I x2)), (3, .int (fb_I x3)), (4, .int (fb_I x4)), (5, .int (fb_I x5))] → fb_in x1 → fb_in x2 → fb_in x3 → fb_in x4 → fb_in x5 → r x1 x2 x3 x4 x5 σ → W p l e rm_X6_leastLevelBetween s m args below meth c H locs 0 0 Qm (F0 m 29 ls [])
abbrev TT_X6_leastLevelBetween_0 (p : Program) (l : Launch) (e : Env) (s : State) (m : MethodId) (args : Array Value) (below : List Frame) (meth : Method) (c : Code) (Qm : State → Prop) (G : fb_G) (r : Int → Int → fb_St → Prop) : Prop := ∀ (x1 x2 : Int) (σ : fb_St) (H : Heap) (locs : List Loc) (ls : Array Slot), fb_Wd G s σ H locs → lv_has ls 7 [(0, .ref (fb_ad G 0)), (1, .int (fb_I x1)), (2, .int (fb_I x2))] → fb_in x1 → fb_in x2 → r x1 x2 σ → W p l e rm_X6_leastLevelBetween s m args below meth c H locs 0 0 Qm (F0 m 0 ls [])
set_option maxRecDepth 100000 in
set_option maxHeartbeats 4000000 in
theorem tw_X6_leastLevelBetween_95 (C : fb_C p s m args meth c G RX6 cX6_leastLevelBetween 7) (hret : fb_RI p l e rm_X6_leastLevelBetween s m args below meth c G cX6_leastLevelBetween Qm Q) {r29 : Int → Int → Int → Int → Int → fb_St → Prop} (h29 : TT_X6_leastLevelBetween_29 p l e s m args below meth c Qm G r29) : TT_X6_leastLevelBetween_95 p l e s m args below meth c Qm G (wj_X6_leastLevelBetween_95 r29 Q) := by
  intro x1 x2 x3 x4 x5 σ H locs ls w hl ix1 ix2 ix3 ix4 ix5 h
  unfold wj_X6_leastLevelBetween_95 at h
  obtain ⟨i20, h⟩ := h
  refine fb_iinc (b := x5 + 1) (k := 5) (lv' := [(5, .int (fb_I (x5 + 1))), (0, .ref (fb_ad G 0)), (1, .int (fb_I x1)), (2, .int (fb_I x2)), (3, .int (fb_I x3)), (4, .int (fb_I x4))]) C dX6_leastLevelBetween_95 hl rfl rfl (by decide) rfl (fun ls hl => ?_)
  refine lv_goto (tgt := 29) C.1.1 C.1.2.1 dX6_leastLevelBetween_98 (by decide) ?_
  exact h29 x1 x2 x3 x4 (x5 + 1) _ _ _ _ w (lv_sub hl [1, 2, 3, 4, 5, 0] rfl) ix1 ix2 ix3 ix4 i20 h
set_option maxRecDepth 100000 in
set_option maxHeartbeats 4000000 in
theorem tw_X6_leastLevelBetween_101 (C : fb_C p s m args meth c G RX6 cX6_leastLevelBetween 7) (hret : fb_RI p l e rm_X6_leastLevelBetween s m args below meth c G cX6_leastLevelBetween Qm Q) : TT_X6_leastLevelBetween_101 p l e s m args below meth c Qm G (wj_X6_leastLevelBetween_101 Q) := by
  intro x3 σ H locs ls w hl ix3 h
  unfold wj_X6_leastLevelBetween_101 at h
  refine lv_iload_n C.1.1 C.1.2.1 dX6_leastLevelBetween_101 rfl (lv_at hl 0 rfl) ?_
  exact hret _ _ _ _ _ _ ix3 h w dX6_leastLevelBetween_102
set_option maxRecDepth 100000 in
set_option maxHeartbeats 4000000 in
theorem tw_X6_leastLevelBetween_29 (C : fb_C p s m args meth c G RX6 cX6_leastLevelBetween 7) (hret : fb_RI p l e rm_X6_leastLevelBetween s m args below meth c G cX6_leastLevelBetween Qm Q) {r29 : Int → Int → Int → Int → Int → fb_St → Prop} (h29 : TT_X6_leastLevelBetween_29 p l e s m args below meth c Qm G r29) : TT_X6_leastLevelBetween_29 p l e s m args below meth c Qm G (wb_X6_leastLevelBetween_29 r29 Q) := by
  intro x1 x2 x3 x4 x5 σ H locs ls w hl ix1 ix2 ix3 ix4 ix5 h
  unfold wb_X6_leastLevelBetween_29 at h
  refine lv_iload C.1.1 C.1.2.1 dX6_leastLevelBetween_29 (lv_at hl 5 rfl) ?_
  refine fb_bipush C dX6_leastLevelBetween_31 (by decide) ?_
  refine fb_icmp_ge (tgt := 101) C ix5 (by decide) dX6_leastLevelBetween_33 (by decide) (fun c8 => ?_) (fun c8 => ?_)
  · have h := h.2 c8
    exact tw_X6_leastLevelBetween_101 C hret x3 _ _ _ _ w (lv_sub hl [3] rfl) ix3 h
  · have h := h.1 c8
    refine lv_iload_n C.1.1 C.1.2.1 dX6_leastLevelBetween_36 rfl (lv_at hl 3 rfl) ?_
    refine lv_iload C.1.1 C.1.2.1 dX6_leastLevelBetween_37 (lv_at hl 4 rfl) ?_
    refine fb_icmp_ge (tgt := 101) C ix3 ix4 dX6_leastLevelBetween_39 (by decide) (fun c9 => ?_) (fun c9 => ?_)
    · have h := h.2 c9
      exact tw_X6_leastLevelBetween_101 C hret x3 _ _ _ _ w (lv_sub hl [3] rfl) ix3 h
    · have h := h.1 c9
      refine lv_iload_n C.1.1 C.1.2.1 dX6_leastLevelBetween_42 rfl (lv_at hl 3 rfl) ?_
      refine lv_iload C.1.1 C.1.2.1 dX6_leastLevelBetween_43 (lv_at hl 4 rfl) ?_
      obtain ⟨i10, h⟩ := h
      refine fb_iadd C dX6_leastLevelBetween_45 ?_
      refine fb_iconst C dX6_leastLevelBetween_46 ?_
      obtain ⟨z12, i11, h⟩ := h
      refine fb_idiv C i10 (by decide) z12 (by decide) dX6_leastLevelBetween_47 ?_
      refine fb_top (fun v14 ev14 => ?_)
      have h := h v14 ev14
      have iv14 := fb_ie ev14 i11
      refine lv_istore (lv' := [(6, .int (fb_I v14)), (0, .ref (fb_ad G 0)), (1, .int (fb_I x1)), (2, .int (fb_I x2)), (3, .int (fb_I x3)), (4, .int (fb_I x4)), (5, .int (fb_I x5))]) C.1.1 C.1.2.1 dX6_leastLevelBetween_48 hl (by decide) rfl (fun ls hl => ?_)
      refine lv_aload_n C.1.1 C.1.2.1 dX6_leastLevelBetween_50 rfl (lv_at hl 1 rfl) ?_
      refine fb_getr (k2 := 5) C w (fb_k0 C) rfl fl_X6_19 dX6_leastLevelBetween_51 ?_
      refine fb_callVv (As := []) (rest := []) C w (ct_X4_forget l G h) mv_X6_164 (fb_k5 C) rfl ⟨rfl, rfl, Nat.le_of_ble_eq_true rfl, Nat.le_of_ble_eq_true rfl, Nat.zero_le _, Nat.zero_le _⟩ rfl hl.1 rfl (Nat.le_of_ble_eq_true rfl) dX6_leastLevelBetween_54 (fun σ15 H locs h w => ?_)
      refine lv_aload_n C.1.1 C.1.2.1 dX6_leastLevelBetween_57 rfl (lv_at hl 1 rfl) ?_
      refine fb_getr (k2 := 5) C w (fb_k0 C) rfl fl_X6_19 dX6_leastLevelBetween_58 ?_
      refine lv_aload_n C.1.1 C.1.2.1 dX6_leastLevelBetween_61 rfl (lv_at hl 1 rfl) ?_
      refine fb_getr (k2 := 1) C w (fb_k0 C) rfl fl_X6_10 dX6_leastLevelBetween_62 ?_
      refine lv_iload_n C.1.1 C.1.2.1 dX6_leastLevelBetween_65 rfl (lv_at hl 2 rfl) ?_
      refine fb_iconst C dX6_leastLevelBetween_66 ?_
      refine lv_iload C.1.1 C.1.2.1 dX6_leastLevelBetween_67 (lv_at hl 0 rfl) ?_
      refine fb_callVv (As := [.ref (fb_ad G 1), .int (fb_I x1), .int (fb_I 0), .int (fb_I v14)]) (rest := []) C w (ct_X4_from l G ix1 (by decide) iv14 h) mv_X6_167 (fb_k5 C) rfl ⟨rfl, rfl, Nat.le_of_ble_eq_true rfl, Nat.le_of_ble_eq_true rfl, Nat.zero_le _, Nat.zero_le _⟩ rfl hl.1 rfl (Nat.le_of_ble_eq_true rfl) dX6_leastLevelBetween_69 (fun σ16 H locs h w => ?_)
      refine lv_aload_n C.1.1 C.1.2.1 dX6_leastLevelBetween_72 rfl (lv_at hl 1 rfl) ?_
      refine fb_getr (k2 := 5) C w (fb_k0 C) rfl fl_X6_19 dX6_leastLevelBetween_73 ?_
      refine lv_iload_n C.1.1 C.1.2.1 dX6_leastLevelBetween_76 rfl (lv_at hl 3 rfl) ?_
      refine fb_callVi (As := [.int (fb_I x2)]) (rest := []) C w (ct_X4_cameTo l G ix2 h) mv_X6_230 (fb_k5 C) rfl ⟨rfl, rfl, Nat.le_of_ble_eq_true rfl, Nat.le_of_ble_eq_true rfl, Nat.zero_le _, Nat.zero_le _⟩ rfl hl.1 rfl (Nat.le_of_ble_eq_true rfl) dX6_leastLevelBetween_77 (fun a17 σ17 H locs h ia17 w => ?_)
      refine fb_if_eq (tgt := 90) C ia17 dX6_leastLevelBetween_80 (by decide) (fun c18 => ?_) (fun c18 => ?_)
      · have h := h.1 c18
        refine lv_iload C.1.1 C.1.2.1 dX6_leastLevelBetween_90 (lv_at hl 0 rfl) ?_
        refine fb_iconst C dX6_leastLevelBetween_92 ?_
        obtain ⟨i19, h⟩ := h
        refine fb_iadd C dX6_leastLevelBetween_93 ?_
        refine lv_istore_n (lv' := [(3, .int (fb_I (v14 + 1))), (6, .int (fb_I v14)), (0, .ref (fb_ad G 0)), (1, .int (fb_I x1)), (2, .int (fb_I x2)), (4, .int (fb_I x4)), (5, .int (fb_I x5))]) C.1.1 C.1.2.1 dX6_leastLevelBetween_94 rfl hl (by decide) rfl (fun ls hl => ?_)
        exact tw_X6_leastLevelBetween_95 C hret h29 x1 x2 (v14 + 1) x4 x5 _ _ _ _ w (lv_sub hl [2, 3, 4, 0, 5, 6] rfl) ix1 ix2 i19 ix4 ix5 h
      · have h := h.2 c18
        refine lv_iload C.1.1 C.1.2.1 dX6_leastLevelBetween_83 (lv_at hl 0 rfl) ?_
        refine lv_istore (lv' := [(4, .int (fb_I v14)), (6, .int (fb_I v14)), (0, .ref (fb_ad G 0)), (1, .int (fb_I x1)), (2, .int (fb_I x2)), (3, .int (fb_I x3)), (5, .int (fb_I x5))]) C.1.1 C.1.2.1 dX6_leastLevelBetween_85 hl (by decide) rfl (fun ls hl => ?_)
        refine lv_goto (tgt := 95) C.1.1 C.1.2.1 dX6_leastLevelBetween_87 (by decide) ?_
        exact tw_X6_leastLevelBetween_95 C hret h29 x1 x2 x3 v14 x5 _ _ _ _ w (lv_sub hl [2, 3, 4, 5, 0, 6] rfl) ix1 ix2 ix3 iv14 ix5 h
theorem tl_X6_leastLevelBetween_29 (C : fb_C p s m args meth c G RX6 cX6_leastLevelBetween 7) (hret : fb_RI p l e rm_X6_leastLevelBetween s m args below meth c G cX6_leastLevelBetween Qm Q) : ∀ n : Nat, TT_X6_leastLevelBetween_29 p l e s m args below meth c Qm G (wl_X6_leastLevelBetween_29 Q n) := by
  intro n
  induction n with
  | zero => intro x1 x2 x3 x4 x5 σ H locs ls w hl ix1 ix2 ix3 ix4 ix5 h; exact h.elim
  | succ n ih => exact tw_X6_leastLevelBetween_29 C hret ih
set_option maxRecDepth 100000 in
set_option maxHeartbeats 4000000 in
theorem tw_X6_leastLevelBetween_0 (C : fb_C p s m args meth c G RX6 cX6_leastLevelBetween 7) (hret : fb_RI p l e rm_X6_leastLevelBetween s m args below meth c G cX6_leastLevelBetween Qm Q) : TT_X6_leastLevelBetween_0 p l e s m args below meth c Qm G (fun x1 x2 σ => wp_X6_leastLevelBetween x1 x2 σ Q) := by
  intro x1 x2 σ H locs ls w hl ix1 ix2 h
  unfold wp_X6_leastLevelBetween at h
  refine lv_aload_n C.1.1 C.1.2.1 dX6_leastLevelBetween_0 rfl (lv_at hl 0 rfl) ?_
  refine fb_getr (k2 := 1) C w (fb_k0 C) rfl fl_X6_10 dX6_leastLevelBetween_1 ?_
  refine fb_getr (k2 := 2) C w (fb_k1 C) rfl fl_X6_90 dX6_leastLevelBetween_4 ?_
  refine lv_iload_n C.1.1 C.1.2.1 dX6_leastLevelBetween_7 rfl (lv_at hl 1 rfl) ?_
  obtain ⟨z1, z2, h⟩ := h
  refine fb_al C w 144 (fb_k2 C) rfl rfl z1 z2 dX6_leastLevelBetween_8 ?_
  have i3 := w.2.2.2 2 x1
  refine lv_aload_n C.1.1 C.1.2.1 dX6_leastLevelBetween_9 rfl (lv_at hl 0 rfl) ?_
  refine fb_getr (k2 := 1) C w (fb_k0 C) rfl fl_X6_10 dX6_leastLevelBetween_10 ?_
  refine fb_getr (k2 := 2) C w (fb_k1 C) rfl fl_X6_90 dX6_leastLevelBetween_13 ?_
  refine lv_iload_n C.1.1 C.1.2.1 dX6_leastLevelBetween_16 rfl (lv_at hl 2 rfl) ?_
  obtain ⟨z4, z5, h⟩ := h
  refine fb_al C w 144 (fb_k2 C) rfl rfl z4 z5 dX6_leastLevelBetween_17 ?_
  have i6 := w.2.2.2 2 x2
  refine fb_mmax C i3 i6 ml_X6_237 ⟨Nat.le_of_ble_eq_true rfl, Nat.le_of_ble_eq_true rfl, Nat.zero_le _, Nat.zero_le _⟩ hl.1 dX6_leastLevelBetween_18 ?_
  refine fb_top (fun v7 ev7 => ?_)
  have h := h v7 ev7
  have iv7 := fb_ie ev7 (fb_in_max i3 i6)
  refine lv_istore_n (lv' := [(3, .int (fb_I v7)), (0, .ref (fb_ad G 0)), (1, .int (fb_I x1)), (2, .int (fb_I x2))]) C.1.1 C.1.2.1 dX6_leastLevelBetween_21 rfl hl (by decide) rfl (fun ls hl => ?_)
  refine fb_bipush C dX6_leastLevelBetween_22 (by decide) ?_
  refine lv_istore (lv' := [(4, .int (fb_I 99)), (3, .int (fb_I v7)), (0, .ref (fb_ad G 0)), (1, .int (fb_I x1)), (2, .int (fb_I x2))]) C.1.1 C.1.2.1 dX6_leastLevelBetween_24 hl (by decide) rfl (fun ls hl => ?_)
  refine fb_iconst C dX6_leastLevelBetween_26 ?_
  refine lv_istore (lv' := [(5, .int (fb_I 0)), (4, .int (fb_I 99)), (3, .int (fb_I v7)), (0, .ref (fb_ad G 0)), (1, .int (fb_I x1)), (2, .int (fb_I x2))]) C.1.1 C.1.2.1 dX6_leastLevelBetween_27 hl (by decide) rfl (fun ls hl => ?_)
  obtain ⟨n, h⟩ := h
  exact tl_X6_leastLevelBetween_29 C hret n x1 x2 v7 99 0 _ _ _ _ w (lv_sub hl [3, 4, 5, 2, 1, 0] rfl) ix1 ix2 iv7 (by decide) (by decide) h
theorem ct_X6_leastLevelBetween (l : Launch) (G : fb_G) {x1 : Int} {x2 : Int} {σ : fb_St} (ix1 : fb_in x1) (ix2 : fb_in x2) (h : wp_X6_leastLevelBetween x1 x2 σ Q) : fb_MI l G yX6_leastLevelBetween cX6_leastLevelBetween 7 (some .int) rm_X6_leastLevelBetween [.ref (fb_ad G 0), .int (fb_I x1), .int (fb_I x2)] σ Q := by
  refine fb_ofW (own := RX6) (by decide) (Nat.le_of_ble_eq_true rfl) rfl (fun p e s m args below meth c ls C hr hl w => ?_)
  exact tw_X6_leastLevelBetween_0 C (fb_reti C hr) _ _ _ _ _ _ w hl ix1 ix2 h
end S_X6_leastLevelBetween
section S_X6_over
variable {p : Program} {l : Launch} {e : Env} {s : State} {m : MethodId} {args : Array Value} {below : List Frame} {meth : Method} {c : Code} {Qm : State → Prop} {G : fb_G} {Q : Int → fb_St → Prop}
abbrev TT_X6_over_35 (p : Program) (l : Launch) (e : Env) (s : State) (m : MethodId) (args : Array Value) (below : List Frame) (meth : Method) (c : Code) (Qm : State → Prop) (G : fb_G) (r : fb_St → Prop) : Prop := ∀ (σ : fb_St) (H : Heap) (locs : List Loc) (ls : Array Slot), fb_Wd G s σ H locs → lv_has ls 7 [] → r σ → W p l e rm_X6_over s m args below meth c H locs 0 0 Qm (F0 m 35 ls [])
abbrev TT_X6_over_0 (p : Program) (l : Launch) (e : Env) (s : State) (m : MethodId) (args : Array Value) (below : List Frame) (meth : Method) (c : Code) (Qm : State → Prop) (G : fb_G) (r : Int → Int → Int → Int → fb_St → Prop) : Prop := ∀ (x1 x2 x3 x4 : Int) (σ : fb_St) (H : Heap) (locs : List Loc) (ls : Array Slot), fb_Wd G s σ H locs → lv_has ls 7 [(0, .ref (fb_ad G 0)), (1, .int (fb_I x1)), (2, .int (fb_I x2)), (3, .int (fb_I x3)), (4, .int (fb_I x4))] → fb_in x1 → fb_in x2 → fb_in x3 → fb_in x4 → r x1 x2 x3 x4 σ → W p l e rm_X6_over s m args below meth c H locs 0 0 Qm (F0 m 0 ls [])
set_option maxRecDepth 100000 in
set_option maxHeartbeats 4000000 in
theorem tw_X6_over_35 (C : fb_C p s m args meth c G RX6 cX6_over 7) (hret : fb_RI p l e rm_X6_over s m args below meth c G cX6_over Qm Q) : TT_X6_over_35 p l e s m args below meth c Qm G (wj_X6_over_35 Q) := by
  intro σ H locs ls w hl h
  unfold wj_X6_over_35 at h
  refine fb_bipush C dX6_over_35 (by decide) ?_
  exact hret _ _ _ _ _ _ (by decide) h w dX6_over_37
set_option maxRecDepth 100000 in
set_option maxHeartbeats 4000000 in
theorem tw_X6_over_0 (C : fb_C p s m args meth c G RX6 cX6_over 7) (hret : fb_RI p l e rm_X6_over s m args below meth c G cX6_over Qm Q) : TT_X6_over_0 p l e s m args below meth c Qm G (fun x1 x2 x3 x4 σ => wp_X6_over x1 x2 x3 x4 σ Q) := by
  intro x1 x2 x3 x4 σ H locs ls w hl ix1 ix2 ix3 ix4 h
  unfold wp_X6_over at h
  refine lv_aload_n C.1.1 C.1.2.1 dX6_over_0 rfl (lv_at hl 0 rfl) ?_
  refine fb_getr (k2 := 1) C w (fb_k0 C) rfl fl_X6_10 dX6_over_1 ?_
  refine lv_iload_n C.1.1 C.1.2.1 dX6_over_4 rfl (lv_at hl 1 rfl) ?_
  refine lv_iload_n C.1.1 C.1.2.1 dX6_over_5 rfl (lv_at hl 2 rfl) ?_
  refine fb_callVi (As := [.int (fb_I x1), .int (fb_I x2)]) (rest := []) C w (ct_X5_dotAt l G ix1 ix2 h) mv_X6_83 (fb_k1 C) rfl ⟨rfl, rfl, Nat.le_of_ble_eq_true rfl, Nat.le_of_ble_eq_true rfl, Nat.zero_le _, Nat.zero_le _⟩ rfl hl.1 rfl (Nat.le_of_ble_eq_true rfl) dX6_over_6 (fun a1 σ1 H locs h ia1 w => ?_)
  refine lv_istore (lv' := [(5, .int (fb_I a1)), (0, .ref (fb_ad G 0)), (1, .int (fb_I x1)), (2, .int (fb_I x2)), (3, .int (fb_I x3)), (4, .int (fb_I x4))]) C.1.1 C.1.2.1 dX6_over_9 hl (by decide) rfl (fun ls hl => ?_)
  refine lv_aload_n C.1.1 C.1.2.1 dX6_over_11 rfl (lv_at hl 1 rfl) ?_
  refine fb_getr (k2 := 1) C w (fb_k0 C) rfl fl_X6_10 dX6_over_12 ?_
  refine lv_iload_n C.1.1 C.1.2.1 dX6_over_15 rfl (lv_at hl 4 rfl) ?_
  refine lv_iload C.1.1 C.1.2.1 dX6_over_16 (lv_at hl 5 rfl) ?_
  refine fb_callVi (As := [.int (fb_I x3), .int (fb_I x4)]) (rest := []) C w (ct_X5_dotAt l G ix3 ix4 h) mv_X6_83 (fb_k1 C) rfl ⟨rfl, rfl, Nat.le_of_ble_eq_true rfl, Nat.le_of_ble_eq_true rfl, Nat.zero_le _, Nat.zero_le _⟩ rfl hl.1 rfl (Nat.le_of_ble_eq_true rfl) dX6_over_18 (fun a2 σ2 H locs h ia2 w => ?_)
  refine lv_istore (lv' := [(6, .int (fb_I a2)), (5, .int (fb_I a1)), (0, .ref (fb_ad G 0)), (1, .int (fb_I x1)), (2, .int (fb_I x2)), (3, .int (fb_I x3)), (4, .int (fb_I x4))]) C.1.1 C.1.2.1 dX6_over_21 hl (by decide) rfl (fun ls hl => ?_)
  refine lv_iload C.1.1 C.1.2.1 dX6_over_23 (lv_at hl 1 rfl) ?_
  refine fb_iconst C dX6_over_25 ?_
  refine fb_icmp_eq (tgt := 35) C ia1 (by decide) dX6_over_26 (by decide) (fun c3 => ?_) (fun c3 => ?_)
  · have h := h.1 c3
    exact tw_X6_over_35 C hret _ _ _ _ w (lv_sub hl [] rfl) h
  · have h := h.2 c3
    refine lv_iload C.1.1 C.1.2.1 dX6_over_29 (lv_at hl 0 rfl) ?_
    refine fb_iconst C dX6_over_31 ?_
    refine fb_icmp_ne (tgt := 38) C ia2 (by decide) dX6_over_32 (by decide) (fun c4 => ?_) (fun c4 => ?_)
    · have h := h.2 c4
      refine lv_aload_n C.1.1 C.1.2.1 dX6_over_38 rfl (lv_at hl 2 rfl) ?_
      refine lv_iload C.1.1 C.1.2.1 dX6_over_39 (lv_at hl 1 rfl) ?_
      refine lv_iload C.1.1 C.1.2.1 dX6_over_41 (lv_at hl 0 rfl) ?_
      refine fb_callVi (As := [.int (fb_I a1), .int (fb_I a2)]) (rest := []) C w (ct_X6_leastLevelBetween l G ia1 ia2 h) mv_X6_161 (fb_k0 C) rfl ⟨rfl, rfl, Nat.le_of_ble_eq_true rfl, Nat.le_of_ble_eq_true rfl, Nat.zero_le _, Nat.zero_le _⟩ rfl hl.1 rfl (Nat.le_of_ble_eq_true rfl) dX6_over_43 (fun a5 σ5 H locs h ia5 w => ?_)
      exact hret _ _ _ _ _ _ ia5 h w dX6_over_46
    · have h := h.1 c4
      exact tw_X6_over_35 C hret _ _ _ _ w (lv_sub hl [] rfl) h
theorem ct_X6_over (l : Launch) (G : fb_G) {x1 : Int} {x2 : Int} {x3 : Int} {x4 : Int} {σ : fb_St} (ix1 : fb_in x1) (ix2 : fb_in x2) (ix3 : fb_in x3) (ix4 : fb_in x4) (h : wp_X6_over x1 x2 x3 x4 σ Q) : fb_MI l G yX6_over cX6_over 7 (some .int) rm_X6_over [.ref (fb_ad G 0), .int (fb_I x1), .int (fb_I x2), .int (fb_I x3), .int (fb_I x4)] σ Q := by
  refine fb_ofW (own := RX6) (by decide) (Nat.le_of_ble_eq_true rfl) rfl (fun p e s m args below meth c ls C hr hl w => ?_)
  exact tw_X6_over_0 C (fb_reti C hr) _ _ _ _ _ _ _ _ w hl ix1 ix2 ix3 ix4 h
end S_X6_over
section S_X4_waterBelow
variable {p : Program} {l : Launch} {e : Env} {s : State} {m : MethodId} {args : Array Value} {below : List Frame} {meth : Method} {c : Code} {Qm : State → Prop} {G : fb_G} {Q : Int → fb_St → Prop}
abbrev TT_X4_waterBelow_5 (p : Program) (l : Launch) (e : Env) (s : State) (m : MethodId) (args : Array Value) (below : List Frame) (meth : Method) (c : Code) (Qm : State → Prop) (G : fb_G) (r : Int → Int → Int → fb_St → Prop) : Prop := ∀ (x2 x3 x4 : Int) (σ : fb_St) (H : Heap) (locs : List Loc) (ls : Array Slot), fb_Wd G s σ H locs → lv_has ls 5 [(0, .ref (fb_ad G 5)), (1, .ref (fb_ad G 1)), (2, .int (fb_I x2)), (3, .int (fb_I x3)), (4, .int (fb_I x4))] → fb_in x2 → fb_in x3 → fb_in x4 → r x2 x3 x4 σ → W p l e rm_X4_waterBelow s m args below meth c H locs 0 0 Qm (F0 m 5 ls [])
abbrev TT_X4_waterBelow_0 (p : Program) (l : Launch) (e : Env) (s : State) (m : MethodId) (args : Array Value) (below : List Frame) (meth : Method) (c : Code) (Qm : State → Prop) (G : fb_G) (r : Int → fb_St → Prop) : Prop := ∀ (x2 : Int) (σ : fb_St) (H : Heap) (locs : List Loc) (ls : Array Slot), fb_Wd G s σ H locs → lv_has ls 5 [(0, .ref (fb_ad G 5)), (1, .ref (fb_ad G 1)), (2, .int (fb_I x2))] → fb_in x2 → r x2 σ → W p l e rm_X4_waterBelow s m args below meth c H locs 0 0 Qm (F0 m 0 ls [])
set_option maxRecDepth 100000 in
set_option maxHeartbeats 4000000 in
theorem tw_X4_waterBelow_5 (C : fb_C p s m args meth c G RX4 cX4_waterBelow 5) (hret : fb_RI p l e rm_X4_waterBelow s m args below meth c G cX4_waterBelow Qm Q) {r5 : Int → Int → Int → fb_St → Prop} (h5 : TT_X4_waterBelow_5 p l e s m args below meth c Qm G r5) : TT_X4_waterBelow_5 p l e s m args below meth c Qm G (wb_X4_waterBelow_5 r5 Q) := by
  intro x2 x3 x4 σ H locs ls w hl ix2 ix3 ix4 h
  unfold wb_X4_waterBelow_5 at h
  refine lv_iload C.1.1 C.1.2.1 dX4_waterBelow_5 (lv_at hl 4 rfl) ?_
  refine lv_aload_n C.1.1 C.1.2.1 dX4_waterBelow_7 rfl (lv_at hl 0 rfl) ?_
  refine fb_gi C w 0 (fb_k5 C) rfl rfl fl_X4_9 dX4_waterBelow_8 ?_
  have i1 := w.2.2.2 5 0
  refine fb_icmp_ge (tgt := 37) C ix4 i1 dX4_waterBelow_11 (by decide) (fun c2 => ?_) (fun c2 => ?_)
  · have h := h.2 c2
    refine lv_iload_n C.1.1 C.1.2.1 dX4_waterBelow_37 rfl (lv_at hl 3 rfl) ?_
    exact hret _ _ _ _ _ _ ix3 h w dX4_waterBelow_38
  · have h := h.1 c2
    refine lv_iload_n C.1.1 C.1.2.1 dX4_waterBelow_14 rfl (lv_at hl 3 rfl) ?_
    refine lv_iload_n C.1.1 C.1.2.1 dX4_waterBelow_15 rfl (lv_at hl 2 rfl) ?_
    refine lv_aload_n C.1.1 C.1.2.1 dX4_waterBelow_16 rfl (lv_at hl 1 rfl) ?_
    refine fb_getr (k2 := 2) C w (fb_k1 C) rfl fl_X4_38 dX4_waterBelow_17 ?_
    refine lv_aload_n C.1.1 C.1.2.1 dX4_waterBelow_20 rfl (lv_at hl 0 rfl) ?_
    refine fb_getr (k2 := 6) C w (fb_k5 C) rfl fl_X4_15 dX4_waterBelow_21 ?_
    refine lv_iload C.1.1 C.1.2.1 dX4_waterBelow_24 (lv_at hl 4 rfl) ?_
    obtain ⟨z3, z4, h⟩ := h
    refine fb_al C w 144 (fb_k6 C) rfl rfl z3 z4 dX4_waterBelow_26 ?_
    have i5 := w.2.2.2 6 x4
    obtain ⟨z6, z7, h⟩ := h
    refine fb_al C w 144 (fb_k2 C) rfl rfl z6 z7 dX4_waterBelow_27 ?_
    have i8 := w.2.2.2 2 (σ 6 x4)
    obtain ⟨i9, h⟩ := h
    refine fb_isub C dX4_waterBelow_28 ?_
    obtain ⟨i10, h⟩ := h
    refine fb_iadd C dX4_waterBelow_29 ?_
    refine fb_top (fun v11 ev11 => ?_)
    have h := h v11 ev11
    have iv11 := fb_ie ev11 i10
    refine lv_istore_n (lv' := [(3, .int (fb_I v11)), (0, .ref (fb_ad G 5)), (1, .ref (fb_ad G 1)), (2, .int (fb_I x2)), (4, .int (fb_I x4))]) C.1.1 C.1.2.1 dX4_waterBelow_30 rfl hl (by decide) rfl (fun ls hl => ?_)
    obtain ⟨i12, h⟩ := h
    refine fb_iinc (b := x4 + 1) (k := 4) (lv' := [(4, .int (fb_I (x4 + 1))), (3, .int (fb_I v11)), (0, .ref (fb_ad G 5)), (1, .ref (fb_ad G 1)), (2, .int (fb_I x2))]) C dX4_waterBelow_31 hl rfl rfl (by decide) rfl (fun ls hl => ?_)
    refine lv_goto (tgt := 5) C.1.1 C.1.2.1 dX4_waterBelow_34 (by decide) ?_
    exact h5 x2 v11 (x4 + 1) _ _ _ _ w (lv_sub hl [2, 3, 4, 1, 0] rfl) ix2 iv11 i12 h
theorem tl_X4_waterBelow_5 (C : fb_C p s m args meth c G RX4 cX4_waterBelow 5) (hret : fb_RI p l e rm_X4_waterBelow s m args below meth c G cX4_waterBelow Qm Q) : ∀ n : Nat, TT_X4_waterBelow_5 p l e s m args below meth c Qm G (wl_X4_waterBelow_5 Q n) := by
  intro n
  induction n with
  | zero => intro x2 x3 x4 σ H locs ls w hl ix2 ix3 ix4 h; exact h.elim
  | succ n ih => exact tw_X4_waterBelow_5 C hret ih
set_option maxRecDepth 100000 in
set_option maxHeartbeats 4000000 in
theorem tw_X4_waterBelow_0 (C : fb_C p s m args meth c G RX4 cX4_waterBelow 5) (hret : fb_RI p l e rm_X4_waterBelow s m args below meth c G cX4_waterBelow Qm Q) : TT_X4_waterBelow_0 p l e s m args below meth c Qm G (fun x2 σ => wp_X4_waterBelow x2 σ Q) := by
  intro x2 σ H locs ls w hl ix2 h
  unfold wp_X4_waterBelow at h
  refine fb_iconst C dX4_waterBelow_0 ?_
  refine lv_istore_n (lv' := [(3, .int (fb_I 0)), (0, .ref (fb_ad G 5)), (1, .ref (fb_ad G 1)), (2, .int (fb_I x2))]) C.1.1 C.1.2.1 dX4_waterBelow_1 rfl hl (by decide) rfl (fun ls hl => ?_)
  refine fb_iconst C dX4_waterBelow_2 ?_
  refine lv_istore (lv' := [(4, .int (fb_I 0)), (3, .int (fb_I 0)), (0, .ref (fb_ad G 5)), (1, .ref (fb_ad G 1)), (2, .int (fb_I x2))]) C.1.1 C.1.2.1 dX4_waterBelow_3 hl (by decide) rfl (fun ls hl => ?_)
  obtain ⟨n, h⟩ := h
  exact tl_X4_waterBelow_5 C hret n x2 0 0 _ _ _ _ w (lv_sub hl [2, 3, 4, 1, 0] rfl) ix2 (by decide) (by decide) h
theorem ct_X4_waterBelow (l : Launch) (G : fb_G) {x2 : Int} {σ : fb_St} (ix2 : fb_in x2) (h : wp_X4_waterBelow x2 σ Q) : fb_MI l G yX4_waterBelow cX4_waterBelow 5 (some .int) rm_X4_waterBelow [.ref (fb_ad G 5), .ref (fb_ad G 1), .int (fb_I x2)] σ Q := by
  refine fb_ofW (own := RX4) (by decide) (Nat.le_of_ble_eq_true rfl) rfl (fun p e s m args below meth c ls C hr hl w => ?_)
  exact tw_X4_waterBelow_0 C (fb_reti C hr) _ _ _ _ _ w hl ix2 h
end S_X4_waterBelow
section S_X6_wet
variable {p : Program} {l : Launch} {e : Env} {s : State} {m : MethodId} {args : Array Value} {below : List Frame} {meth : Method} {c : Code} {Qm : State → Prop} {G : fb_G} {Q : Int → fb_St → Prop}
abbrev TT_X6_wet_37 (p : Program) (l : Launch) (e : Env) (s : State) (m : MethodId) (args : Array Value) (below : List Frame) (meth : Method) (c : Code) (Qm : State → Prop) (G : fb_G) (r : fb_St → Prop) : Prop := ∀ (σ : fb_St) (H : Heap) (locs : List Loc) (ls : Array Slot), fb_Wd G s σ H locs → lv_has ls 6 [] → r σ → W p l e rm_X6_wet s m args below meth c H locs 0 0 Qm (F0 m 37 ls [])
abbrev TT_X6_wet_0 (p : Program) (l : Launch) (e : Env) (s : State) (m : MethodId) (args : Array Value) (below : List Frame) (meth : Method) (c : Code) (Qm : State → Prop) (G : fb_G) (r : Int → Int → Int → Int → fb_St → Prop) : Prop := ∀ (x1 x2 x3 x4 : Int) (σ : fb_St) (H : Heap) (locs : List Loc) (ls : Array Slot), fb_Wd G s σ H locs → lv_has ls 6 [(0, .ref (fb_ad G 0)), (1, .int (fb_I x1)), (2, .int (fb_I x2)), (3, .int (fb_I x3)), (4, .int (fb_I x4))] → fb_in x1 → fb_in x2 → fb_in x3 → fb_in x4 → r x1 x2 x3 x4 σ → W p l e rm_X6_wet s m args below meth c H locs 0 0 Qm (F0 m 0 ls [])
set_option maxRecDepth 100000 in
set_option maxHeartbeats 4000000 in
theorem tw_X6_wet_37 (C : fb_C p s m args meth c G RX6 cX6_wet 6) (hret : fb_RI p l e rm_X6_wet s m args below meth c G cX6_wet Qm Q) : TT_X6_wet_37 p l e s m args below meth c Qm G (wj_X6_wet_37 Q) := by
  intro σ H locs ls w hl h
  unfold wj_X6_wet_37 at h
  refine fb_bipush C dX6_wet_37 (by decide) ?_
  exact hret _ _ _ _ _ _ (by decide) h w dX6_wet_39
set_option maxRecDepth 100000 in
set_option maxHeartbeats 4000000 in
theorem tw_X6_wet_0 (C : fb_C p s m args meth c G RX6 cX6_wet 6) (hret : fb_RI p l e rm_X6_wet s m args below meth c G cX6_wet Qm Q) : TT_X6_wet_0 p l e s m args below meth c Qm G (fun x1 x2 x3 x4 σ => wp_X6_wet x1 x2 x3 x4 σ Q) := by
  intro x1 x2 x3 x4 σ H locs ls w hl ix1 ix2 ix3 ix4 h
  unfold wp_X6_wet at h
  refine lv_aload_n C.1.1 C.1.2.1 dX6_wet_0 rfl (lv_at hl 0 rfl) ?_
  refine fb_getr (k2 := 1) C w (fb_k0 C) rfl fl_X6_10 dX6_wet_1 ?_
  refine lv_iload_n C.1.1 C.1.2.1 dX6_wet_4 rfl (lv_at hl 1 rfl) ?_
  refine lv_iload_n C.1.1 C.1.2.1 dX6_wet_5 rfl (lv_at hl 2 rfl) ?_
  refine fb_callVi (As := [.int (fb_I x1), .int (fb_I x2)]) (rest := []) C w (ct_X5_dotAt l G ix1 ix2 h) mv_X6_83 (fb_k1 C) rfl ⟨rfl, rfl, Nat.le_of_ble_eq_true rfl, Nat.le_of_ble_eq_true rfl, Nat.zero_le _, Nat.zero_le _⟩ rfl hl.1 rfl (Nat.le_of_ble_eq_true rfl) dX6_wet_6 (fun a1 σ1 H locs h ia1 w => ?_)
  refine lv_istore (lv' := [(5, .int (fb_I a1)), (0, .ref (fb_ad G 0)), (1, .int (fb_I x1)), (2, .int (fb_I x2)), (3, .int (fb_I x3)), (4, .int (fb_I x4))]) C.1.1 C.1.2.1 dX6_wet_9 hl (by decide) rfl (fun ls hl => ?_)
  refine lv_iload C.1.1 C.1.2.1 dX6_wet_11 (lv_at hl 0 rfl) ?_
  refine fb_iconst C dX6_wet_13 ?_
  refine fb_icmp_eq (tgt := 37) C ia1 (by decide) dX6_wet_14 (by decide) (fun c2 => ?_) (fun c2 => ?_)
  · have h := h.1 c2
    exact tw_X6_wet_37 C hret _ _ _ _ w (lv_sub hl [] rfl) h
  · have h := h.2 c2
    refine lv_iload_n C.1.1 C.1.2.1 dX6_wet_17 rfl (lv_at hl 4 rfl) ?_
    refine fb_iconst C dX6_wet_18 ?_
    refine fb_bipush C dX6_wet_19 (by decide) ?_
    refine fb_callSi (As := [.int (fb_I x3), .int (fb_I 0), .int (fb_I 99)]) (rest := []) C w (ct_X6_within l G ix3 (by decide) (by decide) h) ms_X6_68 ⟨rfl, rfl, Nat.le_of_ble_eq_true rfl, Nat.le_of_ble_eq_true rfl, Nat.zero_le _, Nat.zero_le _⟩ rfl hl.1 rfl (Nat.le_of_ble_eq_true rfl) dX6_wet_21 (fun a3 σ3 H locs h ia3 w => ?_)
    refine fb_if_eq (tgt := 37) C ia3 dX6_wet_24 (by decide) (fun c4 => ?_) (fun c4 => ?_)
    · have h := h.1 c4
      exact tw_X6_wet_37 C hret _ _ _ _ w (lv_sub hl [] rfl) h
    · have h := h.2 c4
      refine lv_iload C.1.1 C.1.2.1 dX6_wet_27 (lv_at hl 5 rfl) ?_
      refine fb_iconst C dX6_wet_29 ?_
      refine fb_iconst C dX6_wet_30 ?_
      refine fb_callSi (As := [.int (fb_I x4), .int (fb_I 0), .int (fb_I 2)]) (rest := []) C w (ct_X6_within l G ix4 (by decide) (by decide) h) ms_X6_68 ⟨rfl, rfl, Nat.le_of_ble_eq_true rfl, Nat.le_of_ble_eq_true rfl, Nat.zero_le _, Nat.zero_le _⟩ rfl hl.1 rfl (Nat.le_of_ble_eq_true rfl) dX6_wet_31 (fun a5 σ5 H locs h ia5 w => ?_)
      refine fb_if_ne (tgt := 40) C ia5 dX6_wet_34 (by decide) (fun c6 => ?_) (fun c6 => ?_)
      · have h := h.2 c6
        refine lv_aload_n C.1.1 C.1.2.1 dX6_wet_40 rfl (lv_at hl 1 rfl) ?_
        refine fb_getr (k2 := 5) C w (fb_k0 C) rfl fl_X6_19 dX6_wet_41 ?_
        refine fb_callVv (As := []) (rest := []) C w (ct_X4_forget l G h) mv_X6_164 (fb_k5 C) rfl ⟨rfl, rfl, Nat.le_of_ble_eq_true rfl, Nat.le_of_ble_eq_true rfl, Nat.zero_le _, Nat.zero_le _⟩ rfl hl.1 rfl (Nat.le_of_ble_eq_true rfl) dX6_wet_44 (fun σ7 H locs h w => ?_)
        refine lv_aload_n C.1.1 C.1.2.1 dX6_wet_47 rfl (lv_at hl 1 rfl) ?_
        refine fb_getr (k2 := 5) C w (fb_k0 C) rfl fl_X6_19 dX6_wet_48 ?_
        refine lv_aload_n C.1.1 C.1.2.1 dX6_wet_51 rfl (lv_at hl 1 rfl) ?_
        refine fb_getr (k2 := 1) C w (fb_k0 C) rfl fl_X6_10 dX6_wet_52 ?_
        refine lv_iload C.1.1 C.1.2.1 dX6_wet_55 (lv_at hl 0 rfl) ?_
        refine fb_iconst C dX6_wet_57 ?_
        refine lv_iload_n C.1.1 C.1.2.1 dX6_wet_58 rfl (lv_at hl 4 rfl) ?_
        refine fb_callVv (As := [.ref (fb_ad G 1), .int (fb_I a1), .int (fb_I 0), .int (fb_I x3)]) (rest := []) C w (ct_X4_from l G ia1 (by decide) ix3 h) mv_X6_167 (fb_k5 C) rfl ⟨rfl, rfl, Nat.le_of_ble_eq_true rfl, Nat.le_of_ble_eq_true rfl, Nat.zero_le _, Nat.zero_le _⟩ rfl hl.1 rfl (Nat.le_of_ble_eq_true rfl) dX6_wet_59 (fun σ8 H locs h w => ?_)
        refine lv_iload C.1.1 C.1.2.1 dX6_wet_62 (lv_at hl 5 rfl) ?_
        by_cases c9 : x4 = 0
        · have h := h.1 c9
          refine fb_lookup (tgt := 92) C ix4 dX6_wet_64 rfl (by rw [c9]) (by decide) ?_
          refine lv_aload_n C.1.1 C.1.2.1 dX6_wet_92 rfl (lv_at hl 1 rfl) ?_
          refine fb_getr (k2 := 5) C w (fb_k0 C) rfl fl_X6_19 dX6_wet_93 ?_
          refine fb_gi C w 0 (fb_k5 C) rfl rfl fl_X6_171 dX6_wet_96 ?_
          have i10 := w.2.2.2 5 0
          exact hret _ _ _ _ _ _ i10 h w dX6_wet_99
        by_cases c11 : x4 = 1
        · have h := h.2.1 c11
          refine fb_lookup (tgt := 100) C ix4 dX6_wet_64 rfl (by rw [c11]) (by decide) ?_
          refine lv_aload_n C.1.1 C.1.2.1 dX6_wet_100 rfl (lv_at hl 1 rfl) ?_
          refine fb_getr (k2 := 5) C w (fb_k0 C) rfl fl_X6_19 dX6_wet_101 ?_
          refine lv_aload_n C.1.1 C.1.2.1 dX6_wet_104 rfl (lv_at hl 1 rfl) ?_
          refine fb_getr (k2 := 1) C w (fb_k0 C) rfl fl_X6_10 dX6_wet_105 ?_
          refine lv_iload_n C.1.1 C.1.2.1 dX6_wet_108 rfl (lv_at hl 4 rfl) ?_
          refine fb_callVi (As := [.ref (fb_ad G 1), .int (fb_I x3)]) (rest := []) C w (ct_X4_waterBelow l G ix3 h) mv_X6_174 (fb_k5 C) rfl ⟨rfl, rfl, Nat.le_of_ble_eq_true rfl, Nat.le_of_ble_eq_true rfl, Nat.zero_le _, Nat.zero_le _⟩ rfl hl.1 rfl (Nat.le_of_ble_eq_true rfl) dX6_wet_109 (fun a12 σ12 H locs h ia12 w => ?_)
          exact hret _ _ _ _ _ _ ia12 h w dX6_wet_112
        have h := h.2.2 ⟨c9, c11⟩
        refine fb_lookup (tgt := 113) C ix4 dX6_wet_64 rfl (fb_lkD c9 c11) (by decide) ?_
        refine lv_aload_n C.1.1 C.1.2.1 dX6_wet_113 rfl (lv_at hl 1 rfl) ?_
        refine fb_getr (k2 := 5) C w (fb_k0 C) rfl fl_X6_19 dX6_wet_114 ?_
        refine lv_aload_n C.1.1 C.1.2.1 dX6_wet_117 rfl (lv_at hl 1 rfl) ?_
        refine fb_getr (k2 := 1) C w (fb_k0 C) rfl fl_X6_10 dX6_wet_118 ?_
        refine fb_iconst C dX6_wet_121 ?_
        refine lv_iload_n C.1.1 C.1.2.1 dX6_wet_122 rfl (lv_at hl 4 rfl) ?_
        refine fb_callVi (As := [.ref (fb_ad G 1), .int (fb_I 0), .int (fb_I x3)]) (rest := []) C w (ct_X4_lowestAround l G (by decide) ix3 h) mv_X6_178 (fb_k5 C) rfl ⟨rfl, rfl, Nat.le_of_ble_eq_true rfl, Nat.le_of_ble_eq_true rfl, Nat.zero_le _, Nat.zero_le _⟩ rfl hl.1 rfl (Nat.le_of_ble_eq_true rfl) dX6_wet_123 (fun a13 σ13 H locs h ia13 w => ?_)
        refine fb_callSi (As := [.int (fb_I a13)]) (rest := []) C w (ct_X6_heightOrNone l G ia13 h) ms_X6_144 ⟨rfl, rfl, Nat.le_of_ble_eq_true rfl, Nat.le_of_ble_eq_true rfl, Nat.zero_le _, Nat.zero_le _⟩ rfl hl.1 rfl (Nat.le_of_ble_eq_true rfl) dX6_wet_126 (fun a14 σ14 H locs h ia14 w => ?_)
        exact hret _ _ _ _ _ _ ia14 h w dX6_wet_129
      · have h := h.1 c6
        exact tw_X6_wet_37 C hret _ _ _ _ w (lv_sub hl [] rfl) h
theorem ct_X6_wet (l : Launch) (G : fb_G) {x1 : Int} {x2 : Int} {x3 : Int} {x4 : Int} {σ : fb_St} (ix1 : fb_in x1) (ix2 : fb_in x2) (ix3 : fb_in x3) (ix4 : fb_in x4) (h : wp_X6_wet x1 x2 x3 x4 σ Q) : fb_MI l G yX6_wet cX6_wet 6 (some .int) rm_X6_wet [.ref (fb_ad G 0), .int (fb_I x1), .int (fb_I x2), .int (fb_I x3), .int (fb_I x4)] σ Q := by
  refine fb_ofW (own := RX6) (by decide) (Nat.le_of_ble_eq_true rfl) rfl (fun p e s m args below meth c ls C hr hl w => ?_)
  exact tw_X6_wet_0 C (fb_reti C hr) _ _ _ _ _ _ _ _ w hl ix1 ix2 ix3 ix4 h
end S_X6_wet
section S_X5_countMarks
variable {p : Program} {l : Launch} {e : Env} {s : State} {m : MethodId} {args : Array Value} {below : List Frame} {meth : Method} {c : Code} {Qm : State → Prop} {G : fb_G} {Q : Int → fb_St → Prop}
abbrev TT_X5_countMarks_24 (p : Program) (l : Launch) (e : Env) (s : State) (m : MethodId) (args : Array Value) (below : List Frame) (meth : Method) (c : Code) (Qm : State → Prop) (G : fb_G) (r : Int → Int → fb_St → Prop) : Prop := ∀ (x1 x2 : Int) (σ : fb_St) (H : Heap) (locs : List Loc) (ls : Array Slot), fb_Wd G s σ H locs → lv_has ls 3 [(0, .ref (fb_ad G 1)), (1, .int (fb_I x1)), (2, .int (fb_I x2))] → fb_in x1 → fb_in x2 → r x1 x2 σ → W p l e rm_X5_countMarks s m args below meth c H locs 0 0 Qm (F0 m 24 ls [])
abbrev TT_X5_countMarks_4 (p : Program) (l : Launch) (e : Env) (s : State) (m : MethodId) (args : Array Value) (below : List Frame) (meth : Method) (c : Code) (Qm : State → Prop) (G : fb_G) (r : Int → Int → fb_St → Prop) : Prop := ∀ (x1 x2 : Int) (σ : fb_St) (H : Heap) (locs : List Loc) (ls : Array Slot), fb_Wd G s σ H locs → lv_has ls 3 [(0, .ref (fb_ad G 1)), (1, .int (fb_I x1)), (2, .int (fb_I x2))] → fb_in x1 → fb_in x2 → r x1 x2 σ → W p l e rm_X5_countMarks s m args below meth c H locs 0 0 Qm (F0 m 4 ls [])
abbrev TT_X5_countMarks_0 (p : Program) (l : Launch) (e : Env) (s : State) (m : MethodId) (args : Array Value) (below : List Frame) (meth : Method) (c : Code) (Qm : State → Prop) (G : fb_G) (r : fb_St → Prop) : Prop := ∀ (σ : fb_St) (H : Heap) (locs : List Loc) (ls : Array Slot), fb_Wd G s σ H locs → lv_has ls 3 [(0, .ref (fb_ad G 1))] → r σ → W p l e rm_X5_countMarks s m args below meth c H locs 0 0 Qm (F0 m 0 ls [])
set_option maxRecDepth 100000 in
set_option maxHeartbeats 4000000 in
theorem tw_X5_countMarks_24 (C : fb_C p s m args meth c G RX5 cX5_countMarks 3) (hret : fb_RI p l e rm_X5_countMarks s m args below meth c G cX5_countMarks Qm Q) {r4 : Int → Int → fb_St → Prop} (h4 : TT_X5_countMarks_4 p l e s m args below meth c Qm G r4) : TT_X5_countMarks_24 p l e s m args below meth c Qm G (wj_X5_countMarks_24 r4 Q) := by
  intro x1 x2 σ H locs ls w hl ix1 ix2 h
  unfold wj_X5_countMarks_24 at h
  obtain ⟨i8, h⟩ := h
  refine fb_iinc (b := x2 + 1) (k := 2) (lv' := [(2, .int (fb_I (x2 + 1))), (0, .ref (fb_ad G 1)), (1, .int (fb_I x1))]) C dX5_countMarks_24 hl rfl rfl (by decide) rfl (fun ls hl => ?_)
  refine lv_goto (tgt := 4) C.1.1 C.1.2.1 dX5_countMarks_27 (by decide) ?_
  exact h4 x1 (x2 + 1) _ _ _ _ w (lv_sub hl [1, 2, 0] rfl) ix1 i8 h
set_option maxRecDepth 100000 in
set_option maxHeartbeats 4000000 in
theorem tw_X5_countMarks_4 (C : fb_C p s m args meth c G RX5 cX5_countMarks 3) (hret : fb_RI p l e rm_X5_countMarks s m args below meth c G cX5_countMarks Qm Q) {r4 : Int → Int → fb_St → Prop} (h4 : TT_X5_countMarks_4 p l e s m args below meth c Qm G r4) : TT_X5_countMarks_4 p l e s m args below meth c Qm G (wb_X5_countMarks_4 r4 Q) := by
  intro x1 x2 σ H locs ls w hl ix1 ix2 h
  unfold wb_X5_countMarks_4 at h
  refine lv_iload_n C.1.1 C.1.2.1 dX5_countMarks_4 rfl (lv_at hl 2 rfl) ?_
  refine lv_aload_n C.1.1 C.1.2.1 dX5_countMarks_5 rfl (lv_at hl 0 rfl) ?_
  refine fb_gi C w 2 (fb_k1 C) rfl rfl fl_X5_18 dX5_countMarks_6 ?_
  have i1 := w.2.2.2 1 2
  refine fb_icmp_ge (tgt := 30) C ix2 i1 dX5_countMarks_9 (by decide) (fun c2 => ?_) (fun c2 => ?_)
  · have h := h.2 c2
    refine lv_iload_n C.1.1 C.1.2.1 dX5_countMarks_30 rfl (lv_at hl 1 rfl) ?_
    exact hret _ _ _ _ _ _ ix1 h w dX5_countMarks_31
  · have h := h.1 c2
    refine lv_aload_n C.1.1 C.1.2.1 dX5_countMarks_12 rfl (lv_at hl 0 rfl) ?_
    refine fb_getr (k2 := 3) C w (fb_k1 C) rfl fl_X5_25 dX5_countMarks_13 ?_
    refine lv_iload_n C.1.1 C.1.2.1 dX5_countMarks_16 rfl (lv_at hl 2 rfl) ?_
    obtain ⟨z3, z4, h⟩ := h
    refine fb_al C w 144 (fb_k3 C) rfl rfl z3 z4 dX5_countMarks_17 ?_
    have i5 := w.2.2.2 3 x2
    refine fb_if_le (tgt := 24) C i5 dX5_countMarks_18 (by decide) (fun c6 => ?_) (fun c6 => ?_)
    · have h := h.2 c6
      exact tw_X5_countMarks_24 C hret h4 x1 x2 _ _ _ _ w (lv_sub hl [0, 1, 2] rfl) ix1 ix2 h
    · have h := h.1 c6
      obtain ⟨i7, h⟩ := h
      refine fb_iinc (b := x1 + 1) (k := 1) (lv' := [(1, .int (fb_I (x1 + 1))), (0, .ref (fb_ad G 1)), (2, .int (fb_I x2))]) C dX5_countMarks_21 hl rfl rfl (by decide) rfl (fun ls hl => ?_)
      exact tw_X5_countMarks_24 C hret h4 (x1 + 1) x2 _ _ _ _ w (lv_sub hl [1, 0, 2] rfl) i7 ix2 h
theorem tl_X5_countMarks_4 (C : fb_C p s m args meth c G RX5 cX5_countMarks 3) (hret : fb_RI p l e rm_X5_countMarks s m args below meth c G cX5_countMarks Qm Q) : ∀ n : Nat, TT_X5_countMarks_4 p l e s m args below meth c Qm G (wl_X5_countMarks_4 Q n) := by
  intro n
  induction n with
  | zero => intro x1 x2 σ H locs ls w hl ix1 ix2 h; exact h.elim
  | succ n ih => exact tw_X5_countMarks_4 C hret ih
set_option maxRecDepth 100000 in
set_option maxHeartbeats 4000000 in
theorem tw_X5_countMarks_0 (C : fb_C p s m args meth c G RX5 cX5_countMarks 3) (hret : fb_RI p l e rm_X5_countMarks s m args below meth c G cX5_countMarks Qm Q) : TT_X5_countMarks_0 p l e s m args below meth c Qm G (fun σ => wp_X5_countMarks σ Q) := by
  intro σ H locs ls w hl h
  unfold wp_X5_countMarks at h
  refine fb_iconst C dX5_countMarks_0 ?_
  refine lv_istore_n (lv' := [(1, .int (fb_I 0)), (0, .ref (fb_ad G 1))]) C.1.1 C.1.2.1 dX5_countMarks_1 rfl hl (by decide) rfl (fun ls hl => ?_)
  refine fb_iconst C dX5_countMarks_2 ?_
  refine lv_istore_n (lv' := [(2, .int (fb_I 0)), (1, .int (fb_I 0)), (0, .ref (fb_ad G 1))]) C.1.1 C.1.2.1 dX5_countMarks_3 rfl hl (by decide) rfl (fun ls hl => ?_)
  obtain ⟨n, h⟩ := h
  exact tl_X5_countMarks_4 C hret n 0 0 _ _ _ _ w (lv_sub hl [2, 1, 0] rfl) (by decide) (by decide) h
theorem ct_X5_countMarks (l : Launch) (G : fb_G) {σ : fb_St} (h : wp_X5_countMarks σ Q) : fb_MI l G yX5_countMarks cX5_countMarks 3 (some .int) rm_X5_countMarks [.ref (fb_ad G 1)] σ Q := by
  refine fb_ofW (own := RX5) (by decide) (Nat.le_of_ble_eq_true rfl) rfl (fun p e s m args below meth c ls C hr hl w => ?_)
  exact tw_X5_countMarks_0 C (fb_reti C hr) _ _ _ _ w hl h
end S_X5_countMarks
section S_X0_countBasins
variable {p : Program} {l : Launch} {e : Env} {s : State} {m : MethodId} {args : Array Value} {below : List Frame} {meth : Method} {c : Code} {Qm : State → Prop} {G : fb_G} {Q : Int → fb_St → Prop}
abbrev TT_X0_countBasins_54 (p : Program) (l : Launch) (e : Env) (s : State) (m : MethodId) (args : Array Value) (below : List Frame) (meth : Method) (c : Code) (Qm : State → Prop) (G : fb_G) (r : Int → Int → fb_St → Prop) : Prop := ∀ (x2 x3 : Int) (σ : fb_St) (H : Heap) (locs : List Loc) (ls : Array Slot), fb_Wd G s σ H locs → lv_has ls 5 [(0, .ref (fb_ad G 8)), (1, .ref (fb_ad G 1)), (2, .int (fb_I x2)), (3, .int (fb_I x3))] → fb_in x2 → fb_in x3 → r x2 x3 σ → W p l e rm_X0_countBasins s m args below meth c H locs 0 0 Qm (F0 m 54 ls [])
abbrev TT_X0_countBasins_12 (p : Program) (l : Launch) (e : Env) (s : State) (m : MethodId) (args : Array Value) (below : List Frame) (meth : Method) (c : Code) (Qm : State → Prop) (G : fb_G) (r : Int → Int → fb_St → Prop) : Prop := ∀ (x2 x3 : Int) (σ : fb_St) (H : Heap) (locs : List Loc) (ls : Array Slot), fb_Wd G s σ H locs → lv_has ls 5 [(0, .ref (fb_ad G 8)), (1, .ref (fb_ad G 1)), (2, .int (fb_I x2)), (3, .int (fb_I x3))] → fb_in x2 → fb_in x3 → r x2 x3 σ → W p l e rm_X0_countBasins s m args below meth c H locs 0 0 Qm (F0 m 12 ls [])
abbrev TT_X0_countBasins_0 (p : Program) (l : Launch) (e : Env) (s : State) (m : MethodId) (args : Array Value) (below : List Frame) (meth : Method) (c : Code) (Qm : State → Prop) (G : fb_G) (r : fb_St → Prop) : Prop := ∀ (σ : fb_St) (H : Heap) (locs : List Loc) (ls : Array Slot), fb_Wd G s σ H locs → lv_has ls 5 [(0, .ref (fb_ad G 8)), (1, .ref (fb_ad G 1))] → r σ → W p l e rm_X0_countBasins s m args below meth c H locs 0 0 Qm (F0 m 0 ls [])
set_option maxRecDepth 100000 in
set_option maxHeartbeats 4000000 in
theorem tw_X0_countBasins_54 (C : fb_C p s m args meth c G RX0 cX0_countBasins 5) (hret : fb_RI p l e rm_X0_countBasins s m args below meth c G cX0_countBasins Qm Q) {r12 : Int → Int → fb_St → Prop} (h12 : TT_X0_countBasins_12 p l e s m args below meth c Qm G r12) : TT_X0_countBasins_54 p l e s m args below meth c Qm G (wj_X0_countBasins_54 r12 Q) := by
  intro x2 x3 σ H locs ls w hl ix2 ix3 h
  unfold wj_X0_countBasins_54 at h
  obtain ⟨i17, h⟩ := h
  refine fb_iinc (b := x3 + 1) (k := 3) (lv' := [(3, .int (fb_I (x3 + 1))), (0, .ref (fb_ad G 8)), (1, .ref (fb_ad G 1)), (2, .int (fb_I x2))]) C dX0_countBasins_54 hl rfl rfl (by decide) rfl (fun ls hl => ?_)
  refine lv_goto (tgt := 12) C.1.1 C.1.2.1 dX0_countBasins_57 (by decide) ?_
  exact h12 x2 (x3 + 1) _ _ _ _ w (lv_sub hl [1, 2, 3, 0] rfl) ix2 i17 h
set_option maxRecDepth 100000 in
set_option maxHeartbeats 4000000 in
theorem tw_X0_countBasins_12 (C : fb_C p s m args meth c G RX0 cX0_countBasins 5) (hret : fb_RI p l e rm_X0_countBasins s m args below meth c G cX0_countBasins Qm Q) {r12 : Int → Int → fb_St → Prop} (h12 : TT_X0_countBasins_12 p l e s m args below meth c Qm G r12) : TT_X0_countBasins_12 p l e s m args below meth c Qm G (wb_X0_countBasins_12 r12 Q) := by
  intro x2 x3 σ H locs ls w hl ix2 ix3 h
  unfold wb_X0_countBasins_12 at h
  refine lv_iload_n C.1.1 C.1.2.1 dX0_countBasins_12 rfl (lv_at hl 3 rfl) ?_
  refine lv_aload_n C.1.1 C.1.2.1 dX0_countBasins_13 rfl (lv_at hl 1 rfl) ?_
  refine fb_gi C w 2 (fb_k1 C) rfl rfl fl_X0_38 dX0_countBasins_14 ?_
  have i2 := w.2.2.2 1 2
  refine fb_icmp_ge (tgt := 60) C ix3 i2 dX0_countBasins_17 (by decide) (fun c3 => ?_) (fun c3 => ?_)
  · have h := h.2 c3
    refine lv_iload_n C.1.1 C.1.2.1 dX0_countBasins_60 rfl (lv_at hl 2 rfl) ?_
    exact hret _ _ _ _ _ _ ix2 h w dX0_countBasins_61
  · have h := h.1 c3
    refine lv_aload_n C.1.1 C.1.2.1 dX0_countBasins_20 rfl (lv_at hl 1 rfl) ?_
    refine fb_getr (k2 := 3) C w (fb_k1 C) rfl fl_X0_44 dX0_countBasins_21 ?_
    refine lv_iload_n C.1.1 C.1.2.1 dX0_countBasins_24 rfl (lv_at hl 3 rfl) ?_
    obtain ⟨z4, z5, h⟩ := h
    refine fb_al C w 144 (fb_k3 C) rfl rfl z4 z5 dX0_countBasins_25 ?_
    have i6 := w.2.2.2 3 x3
    refine fb_top (fun v7 ev7 => ?_)
    have h := h v7 ev7
    have iv7 := fb_ie ev7 i6
    refine lv_istore (lv' := [(4, .int (fb_I v7)), (0, .ref (fb_ad G 8)), (1, .ref (fb_ad G 1)), (2, .int (fb_I x2)), (3, .int (fb_I x3))]) C.1.1 C.1.2.1 dX0_countBasins_26 hl (by decide) rfl (fun ls hl => ?_)
    refine lv_iload C.1.1 C.1.2.1 dX0_countBasins_28 (lv_at hl 0 rfl) ?_
    refine fb_if_le (tgt := 54) C iv7 dX0_countBasins_30 (by decide) (fun c8 => ?_) (fun c8 => ?_)
    · have h := h.2 c8
      exact tw_X0_countBasins_54 C hret h12 x2 x3 _ _ _ _ w (lv_sub hl [1, 2, 3, 4] rfl) ix2 ix3 h
    · have h := h.1 c8
      refine lv_aload_n C.1.1 C.1.2.1 dX0_countBasins_33 rfl (lv_at hl 1 rfl) ?_
      refine fb_getr (k2 := 12) C w (fb_k8 C) rfl fl_X0_21 dX0_countBasins_34 ?_
      refine lv_iload C.1.1 C.1.2.1 dX0_countBasins_37 (lv_at hl 0 rfl) ?_
      obtain ⟨z9, z10, h⟩ := h
      refine fb_al C w 100 (fb_k12 C) rfl rfl z9 z10 dX0_countBasins_39 ?_
      have i11 := w.2.2.2 12 v7
      refine fb_if_ne (tgt := 54) C i11 dX0_countBasins_40 (by decide) (fun c12 => ?_) (fun c12 => ?_)
      · have h := h.2 c12
        exact tw_X0_countBasins_54 C hret h12 x2 x3 _ _ _ _ w (lv_sub hl [1, 2, 3, 4] rfl) ix2 ix3 h
      · have h := h.1 c12
        refine lv_aload_n C.1.1 C.1.2.1 dX0_countBasins_43 rfl (lv_at hl 1 rfl) ?_
        refine fb_getr (k2 := 12) C w (fb_k8 C) rfl fl_X0_21 dX0_countBasins_44 ?_
        refine lv_iload C.1.1 C.1.2.1 dX0_countBasins_47 (lv_at hl 0 rfl) ?_
        refine fb_iconst C dX0_countBasins_49 ?_
        obtain ⟨z13, z14, h⟩ := h
        refine fb_as C w 100 (fb_k12 C) rfl rfl (by decide) z13 z14 dX0_countBasins_50 (fun σ15 H locs eσ15 w => ?_)
        have h := h σ15 eσ15
        obtain ⟨i16, h⟩ := h
        refine fb_iinc (b := x2 + 1) (k := 3) (lv' := [(2, .int (fb_I (x2 + 1))), (4, .int (fb_I v7)), (0, .ref (fb_ad G 8)), (1, .ref (fb_ad G 1)), (3, .int (fb_I x3))]) C dX0_countBasins_51 hl rfl rfl (by decide) rfl (fun ls hl => ?_)
        exact tw_X0_countBasins_54 C hret h12 (x2 + 1) x3 _ _ _ _ w (lv_sub hl [2, 3, 0, 4] rfl) i16 ix3 h
theorem tl_X0_countBasins_12 (C : fb_C p s m args meth c G RX0 cX0_countBasins 5) (hret : fb_RI p l e rm_X0_countBasins s m args below meth c G cX0_countBasins Qm Q) : ∀ n : Nat, TT_X0_countBasins_12 p l e s m args below meth c Qm G (wl_X0_countBasins_12 Q n) := by
  intro n
  induction n with
  | zero => intro x2 x3 σ H locs ls w hl ix2 ix3 h; exact h.elim
  | succ n ih => exact tw_X0_countBasins_12 C hret ih
set_option maxRecDepth 100000 in
set_option maxHeartbeats 4000000 in
theorem tw_X0_countBasins_0 (C : fb_C p s m args meth c G RX0 cX0_countBasins 5) (hret : fb_RI p l e rm_X0_countBasins s m args below meth c G cX0_countBasins Qm Q) : TT_X0_countBasins_0 p l e s m args below meth c Qm G (fun σ => wp_X0_countBasins σ Q) := by
  intro σ H locs ls w hl h
  unfold wp_X0_countBasins at h
  refine fb_iconst C dX0_countBasins_0 ?_
  refine lv_istore_n (lv' := [(2, .int (fb_I 0)), (0, .ref (fb_ad G 8)), (1, .ref (fb_ad G 1))]) C.1.1 C.1.2.1 dX0_countBasins_1 rfl hl (by decide) rfl (fun ls hl => ?_)
  refine lv_aload_n C.1.1 C.1.2.1 dX0_countBasins_2 rfl (lv_at hl 1 rfl) ?_
  refine fb_getr (k2 := 12) C w (fb_k8 C) rfl fl_X0_21 dX0_countBasins_3 ?_
  refine fb_iconst C dX0_countBasins_6 ?_
  refine fb_callSv (rest := []) C w (fb_fillM l G (Qp := fun _ q => q = fb_fill σ 12 0) (fb_k12 C) (Nat.le_of_ble_eq_true rfl) (by decide) rfl) ms_X0_75 ⟨rfl, rfl, Nat.le_of_ble_eq_true rfl, Nat.le_of_ble_eq_true rfl, Nat.zero_le _, Nat.zero_le _⟩ rfl hl.1 rfl (Nat.le_of_ble_eq_true rfl) dX0_countBasins_7 (fun σ1 H locs eσ1 w => ?_)
  have h := h σ1 eσ1
  refine fb_iconst C dX0_countBasins_10 ?_
  refine lv_istore_n (lv' := [(3, .int (fb_I 0)), (2, .int (fb_I 0)), (0, .ref (fb_ad G 8)), (1, .ref (fb_ad G 1))]) C.1.1 C.1.2.1 dX0_countBasins_11 rfl hl (by decide) rfl (fun ls hl => ?_)
  obtain ⟨n, h⟩ := h
  exact tl_X0_countBasins_12 C hret n 0 0 _ _ _ _ w (lv_sub hl [2, 3, 1, 0] rfl) (by decide) (by decide) h
theorem ct_X0_countBasins (l : Launch) (G : fb_G) {σ : fb_St} (h : wp_X0_countBasins σ Q) : fb_MI l G yX0_countBasins cX0_countBasins 5 (some .int) rm_X0_countBasins [.ref (fb_ad G 8), .ref (fb_ad G 1)] σ Q := by
  refine fb_ofW (own := RX0) (by decide) (Nat.le_of_ble_eq_true rfl) rfl (fun p e s m args below meth c ls C hr hl w => ?_)
  exact tw_X0_countBasins_0 C (fb_reti C hr) _ _ _ _ w hl h
end S_X0_countBasins
section S_X3_countBasins
variable {p : Program} {l : Launch} {e : Env} {s : State} {m : MethodId} {args : Array Value} {below : List Frame} {meth : Method} {c : Code} {Qm : State → Prop} {G : fb_G} {Q : Int → fb_St → Prop} {pp : Nat}
abbrev TT_X3_countBasins_22 (p : Program) (l : Launch) (e : Env) (s : State) (m : MethodId) (args : Array Value) (below : List Frame) (meth : Method) (c : Code) (Qm : State → Prop) (G : fb_G) (pp : Nat) (r : Int → Int → fb_St → Prop) : Prop := ∀ (x1 x2 : Int) (σ : fb_St) (H : Heap) (locs : List Loc) (ls : Array Slot), fb_Wd G s σ H locs → lv_has ls 3 [(0, .ref (fb_ad G pp)), (1, .int (fb_I x1)), (2, .int (fb_I x2))] → fb_in x1 → fb_in x2 → r x1 x2 σ → W p l e rm_X3_countBasins s m args below meth c H locs 0 0 Qm (F0 m 22 ls [])
abbrev TT_X3_countBasins_4 (p : Program) (l : Launch) (e : Env) (s : State) (m : MethodId) (args : Array Value) (below : List Frame) (meth : Method) (c : Code) (Qm : State → Prop) (G : fb_G) (pp : Nat) (r : Int → Int → fb_St → Prop) : Prop := ∀ (x1 x2 : Int) (σ : fb_St) (H : Heap) (locs : List Loc) (ls : Array Slot), fb_Wd G s σ H locs → lv_has ls 3 [(0, .ref (fb_ad G pp)), (1, .int (fb_I x1)), (2, .int (fb_I x2))] → fb_in x1 → fb_in x2 → r x1 x2 σ → W p l e rm_X3_countBasins s m args below meth c H locs 0 0 Qm (F0 m 4 ls [])
abbrev TT_X3_countBasins_0 (p : Program) (l : Launch) (e : Env) (s : State) (m : MethodId) (args : Array Value) (below : List Frame) (meth : Method) (c : Code) (Qm : State → Prop) (G : fb_G) (pp : Nat) (r : fb_St → Prop) : Prop := ∀ (σ : fb_St) (H : Heap) (locs : List Loc) (ls : Array Slot), fb_Wd G s σ H locs → lv_has ls 3 [(0, .ref (fb_ad G pp))] → r σ → W p l e rm_X3_countBasins s m args below meth c H locs 0 0 Qm (F0 m 0 ls [])
set_option maxRecDepth 100000 in
set_option maxHeartbeats 4000000 in
theorem tw_X3_countBasins_22 (hpp : pp = 17 ∨ pp = 29) (C : fb_C p s m args meth c G RX3 cX3_countBasins 3) (hret : fb_RI p l e rm_X3_countBasins s m args below meth c G cX3_countBasins Qm Q) {r4 : Int → Int → fb_St → Prop} (h4 : TT_X3_countBasins_4 p l e s m args below meth c Qm G pp r4) : TT_X3_countBasins_22 p l e s m args below meth c Qm G pp (wj_X3_countBasins_22 pp r4 Q) := by
  intro x1 x2 σ H locs ls w hl ix1 ix2 h
  unfold wj_X3_countBasins_22 at h
  obtain ⟨i7, h⟩ := h
  refine fb_iinc (b := x2 + 1) (k := 2) (lv' := [(2, .int (fb_I (x2 + 1))), (0, .ref (fb_ad G pp)), (1, .int (fb_I x1))]) C dX3_countBasins_22 hl rfl rfl (by decide) rfl (fun ls hl => ?_)
  refine lv_goto (tgt := 4) C.1.1 C.1.2.1 dX3_countBasins_25 (by decide) ?_
  exact h4 x1 (x2 + 1) _ _ _ _ w (lv_sub hl [1, 2, 0] rfl) ix1 i7 h
set_option maxRecDepth 100000 in
set_option maxHeartbeats 4000000 in
theorem tw_X3_countBasins_4 (hpp : pp = 17 ∨ pp = 29) (C : fb_C p s m args meth c G RX3 cX3_countBasins 3) (hret : fb_RI p l e rm_X3_countBasins s m args below meth c G cX3_countBasins Qm Q) {r4 : Int → Int → fb_St → Prop} (h4 : TT_X3_countBasins_4 p l e s m args below meth c Qm G pp r4) : TT_X3_countBasins_4 p l e s m args below meth c Qm G pp (wb_X3_countBasins_4 pp r4 Q) := by
  intro x1 x2 σ H locs ls w hl ix1 ix2 h
  unfold wb_X3_countBasins_4 at h
  refine lv_iload_n C.1.1 C.1.2.1 dX3_countBasins_4 rfl (lv_at hl 2 rfl) ?_
  refine fb_bipush C dX3_countBasins_5 (by decide) ?_
  refine fb_icmp_gt (tgt := 28) C ix2 (by decide) dX3_countBasins_7 (by decide) (fun c1 => ?_) (fun c1 => ?_)
  · have h := h.1 c1
    refine lv_iload_n C.1.1 C.1.2.1 dX3_countBasins_28 rfl (lv_at hl 1 rfl) ?_
    exact hret _ _ _ _ _ _ ix1 h w dX3_countBasins_29
  · have h := h.2 c1
    refine lv_aload_n C.1.1 C.1.2.1 dX3_countBasins_10 rfl (lv_at hl 0 rfl) ?_
    refine fb_getr (k2 := (pp+5)) C w (fb_pk0 C hpp) rfl fl_X3_28 dX3_countBasins_11 ?_
    refine lv_iload_n C.1.1 C.1.2.1 dX3_countBasins_14 rfl (lv_at hl 2 rfl) ?_
    obtain ⟨z2, z3, h⟩ := h
    refine fb_al C w 100 (fb_pk5 C hpp) rfl rfl z2 z3 dX3_countBasins_15 ?_
    have i4 := w.2.2.2 (pp+5) x2
    refine fb_if_le (tgt := 22) C i4 dX3_countBasins_16 (by decide) (fun c5 => ?_) (fun c5 => ?_)
    · have h := h.2 c5
      exact tw_X3_countBasins_22 hpp C hret h4 x1 x2 _ _ _ _ w (lv_sub hl [0, 1, 2] rfl) ix1 ix2 h
    · have h := h.1 c5
      obtain ⟨i6, h⟩ := h
      refine fb_iinc (b := x1 + 1) (k := 1) (lv' := [(1, .int (fb_I (x1 + 1))), (0, .ref (fb_ad G pp)), (2, .int (fb_I x2))]) C dX3_countBasins_19 hl rfl rfl (by decide) rfl (fun ls hl => ?_)
      exact tw_X3_countBasins_22 hpp C hret h4 (x1 + 1) x2 _ _ _ _ w (lv_sub hl [1, 0, 2] rfl) i6 ix2 h
theorem tl_X3_countBasins_4 (hpp : pp = 17 ∨ pp = 29) (C : fb_C p s m args meth c G RX3 cX3_countBasins 3) (hret : fb_RI p l e rm_X3_countBasins s m args below meth c G cX3_countBasins Qm Q) : ∀ n : Nat, TT_X3_countBasins_4 p l e s m args below meth c Qm G pp (wl_X3_countBasins_4 pp Q n) := by
  intro n
  induction n with
  | zero => intro x1 x2 σ H locs ls w hl ix1 ix2 h; exact h.elim
  | succ n ih => exact tw_X3_countBasins_4 hpp C hret ih
set_option maxRecDepth 100000 in
set_option maxHeartbeats 4000000 in
theorem tw_X3_countBasins_0 (hpp : pp = 17 ∨ pp = 29) (C : fb_C p s m args meth c G RX3 cX3_countBasins 3) (hret : fb_RI p l e rm_X3_countBasins s m args below meth c G cX3_countBasins Qm Q) : TT_X3_countBasins_0 p l e s m args below meth c Qm G pp (fun σ => wp_X3_countBasins pp σ Q) := by
  intro σ H locs ls w hl h
  unfold wp_X3_countBasins at h
  refine fb_iconst C dX3_countBasins_0 ?_
  refine lv_istore_n (lv' := [(1, .int (fb_I 0)), (0, .ref (fb_ad G pp))]) C.1.1 C.1.2.1 dX3_countBasins_1 rfl hl (by decide) rfl (fun ls hl => ?_)
  refine fb_iconst C dX3_countBasins_2 ?_
  refine lv_istore_n (lv' := [(2, .int (fb_I 1)), (1, .int (fb_I 0)), (0, .ref (fb_ad G pp))]) C.1.1 C.1.2.1 dX3_countBasins_3 rfl hl (by decide) rfl (fun ls hl => ?_)
  obtain ⟨n, h⟩ := h
  exact tl_X3_countBasins_4 hpp C hret n 0 1 _ _ _ _ w (lv_sub hl [2, 1, 0] rfl) (by decide) (by decide) h
theorem ct_X3_countBasins (l : Launch) (G : fb_G) (hpp : pp = 17 ∨ pp = 29) {σ : fb_St} (h : wp_X3_countBasins pp σ Q) : fb_MI l G yX3_countBasins cX3_countBasins 3 (some .int) rm_X3_countBasins [.ref (fb_ad G pp)] σ Q := by
  refine fb_ofW (own := RX3) (by decide) (Nat.le_of_ble_eq_true rfl) rfl (fun p e s m args below meth c ls C hr hl w => ?_)
  exact tw_X3_countBasins_0 hpp C (fb_reti C hr) _ _ _ _ w hl h
end S_X3_countBasins
section S_X5_countDams
variable {p : Program} {l : Launch} {e : Env} {s : State} {m : MethodId} {args : Array Value} {below : List Frame} {meth : Method} {c : Code} {Qm : State → Prop} {G : fb_G} {Q : Int → fb_St → Prop} {oo : Nat}
abbrev TT_X5_countDams_21 (p : Program) (l : Launch) (e : Env) (s : State) (m : MethodId) (args : Array Value) (below : List Frame) (meth : Method) (c : Code) (Qm : State → Prop) (G : fb_G) (oo : Nat) (r : Int → Int → fb_St → Prop) : Prop := ∀ (x2 x3 : Int) (σ : fb_St) (H : Heap) (locs : List Loc) (ls : Array Slot), fb_Wd G s σ H locs → lv_has ls 4 [(0, .ref (fb_ad G 1)), (1, .ref (fb_ad G oo)), (2, .int (fb_I x2)), (3, .int (fb_I x3))] → fb_in x2 → fb_in x3 → r x2 x3 σ → W p l e rm_X5_countDams s m args below meth c H locs 0 0 Qm (F0 m 21 ls [])
abbrev TT_X5_countDams_4 (p : Program) (l : Launch) (e : Env) (s : State) (m : MethodId) (args : Array Value) (below : List Frame) (meth : Method) (c : Code) (Qm : State → Prop) (G : fb_G) (oo : Nat) (r : Int → Int → fb_St → Prop) : Prop := ∀ (x2 x3 : Int) (σ : fb_St) (H : Heap) (locs : List Loc) (ls : Array Slot), fb_Wd G s σ H locs → lv_has ls 4 [(0, .ref (fb_ad G 1)), (1, .ref (fb_ad G oo)), (2, .int (fb_I x2)), (3, .int (fb_I x3))] → fb_in x2 → fb_in x3 → r x2 x3 σ → W p l e rm_X5_countDams s m args below meth c H locs 0 0 Qm (F0 m 4 ls [])
abbrev TT_X5_countDams_0 (p : Program) (l : Launch) (e : Env) (s : State) (m : MethodId) (args : Array Value) (below : List Frame) (meth : Method) (c : Code) (Qm : State → Prop) (G : fb_G) (oo : Nat) (r : fb_St → Prop) : Prop := ∀ (σ : fb_St) (H : Heap) (locs : List Loc) (ls : Array Slot), fb_Wd G s σ H locs → lv_has ls 4 [(0, .ref (fb_ad G 1)), (1, .ref (fb_ad G oo))] → r σ → W p l e rm_X5_countDams s m args below meth c H locs 0 0 Qm (F0 m 0 ls [])
set_option maxRecDepth 100000 in
set_option maxHeartbeats 4000000 in
theorem tw_X5_countDams_21 (hoo : (fb_cl G)[oo]? = some (fb_arI G 144)) (C : fb_C p s m args meth c G RX5 cX5_countDams 4) (hret : fb_RI p l e rm_X5_countDams s m args below meth c G cX5_countDams Qm Q) {r4 : Int → Int → fb_St → Prop} (h4 : TT_X5_countDams_4 p l e s m args below meth c Qm G oo r4) : TT_X5_countDams_21 p l e s m args below meth c Qm G oo (wj_X5_countDams_21 oo r4 Q) := by
  intro x2 x3 σ H locs ls w hl ix2 ix3 h
  unfold wj_X5_countDams_21 at h
  obtain ⟨i8, h⟩ := h
  refine fb_iinc (b := x3 + 1) (k := 3) (lv' := [(3, .int (fb_I (x3 + 1))), (0, .ref (fb_ad G 1)), (1, .ref (fb_ad G oo)), (2, .int (fb_I x2))]) C dX5_countDams_21 hl rfl rfl (by decide) rfl (fun ls hl => ?_)
  refine lv_goto (tgt := 4) C.1.1 C.1.2.1 dX5_countDams_24 (by decide) ?_
  exact h4 x2 (x3 + 1) _ _ _ _ w (lv_sub hl [1, 2, 3, 0] rfl) ix2 i8 h
set_option maxRecDepth 100000 in
set_option maxHeartbeats 4000000 in
theorem tw_X5_countDams_4 (hoo : (fb_cl G)[oo]? = some (fb_arI G 144)) (C : fb_C p s m args meth c G RX5 cX5_countDams 4) (hret : fb_RI p l e rm_X5_countDams s m args below meth c G cX5_countDams Qm Q) {r4 : Int → Int → fb_St → Prop} (h4 : TT_X5_countDams_4 p l e s m args below meth c Qm G oo r4) : TT_X5_countDams_4 p l e s m args below meth c Qm G oo (wb_X5_countDams_4 oo r4 Q) := by
  intro x2 x3 σ H locs ls w hl ix2 ix3 h
  unfold wb_X5_countDams_4 at h
  refine lv_iload_n C.1.1 C.1.2.1 dX5_countDams_4 rfl (lv_at hl 3 rfl) ?_
  refine lv_aload_n C.1.1 C.1.2.1 dX5_countDams_5 rfl (lv_at hl 0 rfl) ?_
  refine fb_gi C w 2 (fb_k1 C) rfl rfl fl_X5_18 dX5_countDams_6 ?_
  have i1 := w.2.2.2 1 2
  refine fb_icmp_ge (tgt := 27) C ix3 i1 dX5_countDams_9 (by decide) (fun c2 => ?_) (fun c2 => ?_)
  · have h := h.2 c2
    refine lv_iload_n C.1.1 C.1.2.1 dX5_countDams_27 rfl (lv_at hl 2 rfl) ?_
    exact hret _ _ _ _ _ _ ix2 h w dX5_countDams_28
  · have h := h.1 c2
    refine lv_aload_n C.1.1 C.1.2.1 dX5_countDams_12 rfl (lv_at hl 1 rfl) ?_
    refine lv_iload_n C.1.1 C.1.2.1 dX5_countDams_13 rfl (lv_at hl 3 rfl) ?_
    obtain ⟨z3, z4, h⟩ := h
    refine fb_al C w 144 hoo rfl rfl z3 z4 dX5_countDams_14 ?_
    have i5 := w.2.2.2 oo x3
    refine fb_if_ne (tgt := 21) C i5 dX5_countDams_15 (by decide) (fun c6 => ?_) (fun c6 => ?_)
    · have h := h.2 c6
      exact tw_X5_countDams_21 hoo C hret h4 x2 x3 _ _ _ _ w (lv_sub hl [0, 1, 2, 3] rfl) ix2 ix3 h
    · have h := h.1 c6
      obtain ⟨i7, h⟩ := h
      refine fb_iinc (b := x2 + 1) (k := 2) (lv' := [(2, .int (fb_I (x2 + 1))), (0, .ref (fb_ad G 1)), (1, .ref (fb_ad G oo)), (3, .int (fb_I x3))]) C dX5_countDams_18 hl rfl rfl (by decide) rfl (fun ls hl => ?_)
      exact tw_X5_countDams_21 hoo C hret h4 (x2 + 1) x3 _ _ _ _ w (lv_sub hl [1, 2, 0, 3] rfl) i7 ix3 h
theorem tl_X5_countDams_4 (hoo : (fb_cl G)[oo]? = some (fb_arI G 144)) (C : fb_C p s m args meth c G RX5 cX5_countDams 4) (hret : fb_RI p l e rm_X5_countDams s m args below meth c G cX5_countDams Qm Q) : ∀ n : Nat, TT_X5_countDams_4 p l e s m args below meth c Qm G oo (wl_X5_countDams_4 oo Q n) := by
  intro n
  induction n with
  | zero => intro x2 x3 σ H locs ls w hl ix2 ix3 h; exact h.elim
  | succ n ih => exact tw_X5_countDams_4 hoo C hret ih
set_option maxRecDepth 100000 in
set_option maxHeartbeats 4000000 in
theorem tw_X5_countDams_0 (hoo : (fb_cl G)[oo]? = some (fb_arI G 144)) (C : fb_C p s m args meth c G RX5 cX5_countDams 4) (hret : fb_RI p l e rm_X5_countDams s m args below meth c G cX5_countDams Qm Q) : TT_X5_countDams_0 p l e s m args below meth c Qm G oo (fun σ => wp_X5_countDams oo σ Q) := by
  intro σ H locs ls w hl h
  unfold wp_X5_countDams at h
  refine fb_iconst C dX5_countDams_0 ?_
  refine lv_istore_n (lv' := [(2, .int (fb_I 0)), (0, .ref (fb_ad G 1)), (1, .ref (fb_ad G oo))]) C.1.1 C.1.2.1 dX5_countDams_1 rfl hl (by decide) rfl (fun ls hl => ?_)
  refine fb_iconst C dX5_countDams_2 ?_
  refine lv_istore_n (lv' := [(3, .int (fb_I 0)), (2, .int (fb_I 0)), (0, .ref (fb_ad G 1)), (1, .ref (fb_ad G oo))]) C.1.1 C.1.2.1 dX5_countDams_3 rfl hl (by decide) rfl (fun ls hl => ?_)
  obtain ⟨n, h⟩ := h
  exact tl_X5_countDams_4 hoo C hret n 0 0 _ _ _ _ w (lv_sub hl [2, 3, 1, 0] rfl) (by decide) (by decide) h
theorem ct_X5_countDams (l : Launch) (G : fb_G) (hoo : (fb_cl G)[oo]? = some (fb_arI G 144)) {σ : fb_St} (h : wp_X5_countDams oo σ Q) : fb_MI l G yX5_countDams cX5_countDams 4 (some .int) rm_X5_countDams [.ref (fb_ad G 1), .ref (fb_ad G oo)] σ Q := by
  refine fb_ofW (own := RX5) (by decide) (Nat.le_of_ble_eq_true rfl) rfl (fun p e s m args below meth c ls C hr hl w => ?_)
  exact tw_X5_countDams_0 hoo C (fb_reti C hr) _ _ _ _ w hl h
end S_X5_countDams
section S_X0_greatestLevel
variable {p : Program} {l : Launch} {e : Env} {s : State} {m : MethodId} {args : Array Value} {below : List Frame} {meth : Method} {c : Code} {Qm : State → Prop} {G : fb_G} {Q : Int → fb_St → Prop}
abbrev TT_X0_greatestLevel_5 (p : Program) (l : Launch) (e : Env) (s : State) (m : MethodId) (args : Array Value) (below : List Frame) (meth : Method) (c : Code) (Qm : State → Prop) (G : fb_G) (r : Int → Int → fb_St → Prop) : Prop := ∀ (x2 x3 : Int) (σ : fb_St) (H : Heap) (locs : List Loc) (ls : Array Slot), fb_Wd G s σ H locs → lv_has ls 4 [(0, .ref (fb_ad G 8)), (1, .ref (fb_ad G 1)), (2, .int (fb_I x2)), (3, .int (fb_I x3))] → fb_in x2 → fb_in x3 → r x2 x3 σ → W p l e rm_X0_greatestLevel s m args below meth c H locs 0 0 Qm (F0 m 5 ls [])
abbrev TT_X0_greatestLevel_0 (p : Program) (l : Launch) (e : Env) (s : State) (m : MethodId) (args : Array Value) (below : List Frame) (meth : Method) (c : Code) (Qm : State → Prop) (G : fb_G) (r : fb_St → Prop) : Prop := ∀ (σ : fb_St) (H : Heap) (locs : List Loc) (ls : Array Slot), fb_Wd G s σ H locs → lv_has ls 4 [(0, .ref (fb_ad G 8)), (1, .ref (fb_ad G 1))] → r σ → W p l e rm_X0_greatestLevel s m args below meth c H locs 0 0 Qm (F0 m 0 ls [])
set_option maxRecDepth 100000 in
set_option maxHeartbeats 4000000 in
theorem tw_X0_greatestLevel_5 (C : fb_C p s m args meth c G RX0 cX0_greatestLevel 4) (hret : fb_RI p l e rm_X0_greatestLevel s m args below meth c G cX0_greatestLevel Qm Q) {r5 : Int → Int → fb_St → Prop} (h5 : TT_X0_greatestLevel_5 p l e s m args below meth c Qm G r5) : TT_X0_greatestLevel_5 p l e s m args below meth c Qm G (wb_X0_greatestLevel_5 r5 Q) := by
  intro x2 x3 σ H locs ls w hl ix2 ix3 h
  unfold wb_X0_greatestLevel_5 at h
  refine lv_iload_n C.1.1 C.1.2.1 dX0_greatestLevel_5 rfl (lv_at hl 3 rfl) ?_
  refine lv_aload_n C.1.1 C.1.2.1 dX0_greatestLevel_6 rfl (lv_at hl 1 rfl) ?_
  refine fb_gi C w 2 (fb_k1 C) rfl rfl fl_X0_38 dX0_greatestLevel_7 ?_
  have i1 := w.2.2.2 1 2
  refine fb_icmp_ge (tgt := 30) C ix3 i1 dX0_greatestLevel_10 (by decide) (fun c2 => ?_) (fun c2 => ?_)
  · have h := h.2 c2
    refine lv_iload_n C.1.1 C.1.2.1 dX0_greatestLevel_30 rfl (lv_at hl 2 rfl) ?_
    exact hret _ _ _ _ _ _ ix2 h w dX0_greatestLevel_31
  · have h := h.1 c2
    refine lv_iload_n C.1.1 C.1.2.1 dX0_greatestLevel_13 rfl (lv_at hl 2 rfl) ?_
    refine lv_aload_n C.1.1 C.1.2.1 dX0_greatestLevel_14 rfl (lv_at hl 0 rfl) ?_
    refine fb_getr (k2 := 10) C w (fb_k8 C) rfl fl_X0_15 dX0_greatestLevel_15 ?_
    refine lv_iload_n C.1.1 C.1.2.1 dX0_greatestLevel_18 rfl (lv_at hl 3 rfl) ?_
    obtain ⟨z3, z4, h⟩ := h
    refine fb_al C w 144 (fb_k10 C) rfl rfl z3 z4 dX0_greatestLevel_19 ?_
    have i5 := w.2.2.2 10 x3
    refine fb_mmax C ix2 i5 ml_X0_66 ⟨Nat.le_of_ble_eq_true rfl, Nat.le_of_ble_eq_true rfl, Nat.zero_le _, Nat.zero_le _⟩ hl.1 dX0_greatestLevel_20 ?_
    refine fb_top (fun v6 ev6 => ?_)
    have h := h v6 ev6
    have iv6 := fb_ie ev6 (fb_in_max ix2 i5)
    refine lv_istore_n (lv' := [(2, .int (fb_I v6)), (0, .ref (fb_ad G 8)), (1, .ref (fb_ad G 1)), (3, .int (fb_I x3))]) C.1.1 C.1.2.1 dX0_greatestLevel_23 rfl hl (by decide) rfl (fun ls hl => ?_)
    obtain ⟨i7, h⟩ := h
    refine fb_iinc (b := x3 + 1) (k := 3) (lv' := [(3, .int (fb_I (x3 + 1))), (2, .int (fb_I v6)), (0, .ref (fb_ad G 8)), (1, .ref (fb_ad G 1))]) C dX0_greatestLevel_24 hl rfl rfl (by decide) rfl (fun ls hl => ?_)
    refine lv_goto (tgt := 5) C.1.1 C.1.2.1 dX0_greatestLevel_27 (by decide) ?_
    exact h5 v6 (x3 + 1) _ _ _ _ w (lv_sub hl [2, 3, 1, 0] rfl) iv6 i7 h
theorem tl_X0_greatestLevel_5 (C : fb_C p s m args meth c G RX0 cX0_greatestLevel 4) (hret : fb_RI p l e rm_X0_greatestLevel s m args below meth c G cX0_greatestLevel Qm Q) : ∀ n : Nat, TT_X0_greatestLevel_5 p l e s m args below meth c Qm G (wl_X0_greatestLevel_5 Q n) := by
  intro n
  induction n with
  | zero => intro x2 x3 σ H locs ls w hl ix2 ix3 h; exact h.elim
  | succ n ih => exact tw_X0_greatestLevel_5 C hret ih
set_option maxRecDepth 100000 in
set_option maxHeartbeats 4000000 in
theorem tw_X0_greatestLevel_0 (C : fb_C p s m args meth c G RX0 cX0_greatestLevel 4) (hret : fb_RI p l e rm_X0_greatestLevel s m args below meth c G cX0_greatestLevel Qm Q) : TT_X0_greatestLevel_0 p l e s m args below meth c Qm G (fun σ => wp_X0_greatestLevel σ Q) := by
  intro σ H locs ls w hl h
  unfold wp_X0_greatestLevel at h
  refine fb_bipush C dX0_greatestLevel_0 (by decide) ?_
  refine lv_istore_n (lv' := [(2, .int (fb_I (-6))), (0, .ref (fb_ad G 8)), (1, .ref (fb_ad G 1))]) C.1.1 C.1.2.1 dX0_greatestLevel_2 rfl hl (by decide) rfl (fun ls hl => ?_)
  refine fb_iconst C dX0_greatestLevel_3 ?_
  refine lv_istore_n (lv' := [(3, .int (fb_I 0)), (2, .int (fb_I (-6))), (0, .ref (fb_ad G 8)), (1, .ref (fb_ad G 1))]) C.1.1 C.1.2.1 dX0_greatestLevel_4 rfl hl (by decide) rfl (fun ls hl => ?_)
  obtain ⟨n, h⟩ := h
  exact tl_X0_greatestLevel_5 C hret n (-6) 0 _ _ _ _ w (lv_sub hl [2, 3, 1, 0] rfl) (by decide) (by decide) h
theorem ct_X0_greatestLevel (l : Launch) (G : fb_G) {σ : fb_St} (h : wp_X0_greatestLevel σ Q) : fb_MI l G yX0_greatestLevel cX0_greatestLevel 4 (some .int) rm_X0_greatestLevel [.ref (fb_ad G 8), .ref (fb_ad G 1)] σ Q := by
  refine fb_ofW (own := RX0) (by decide) (Nat.le_of_ble_eq_true rfl) rfl (fun p e s m args below meth c ls C hr hl w => ?_)
  exact tw_X0_greatestLevel_0 C (fb_reti C hr) _ _ _ _ w hl h
end S_X0_greatestLevel
section S_X6_count
variable {p : Program} {l : Launch} {e : Env} {s : State} {m : MethodId} {args : Array Value} {below : List Frame} {meth : Method} {c : Code} {Qm : State → Prop} {G : fb_G} {Q : Int → fb_St → Prop}
abbrev TT_X6_count_212 (p : Program) (l : Launch) (e : Env) (s : State) (m : MethodId) (args : Array Value) (below : List Frame) (meth : Method) (c : Code) (Qm : State → Prop) (G : fb_G) (r : Int → Int → fb_St → Prop) : Prop := ∀ (s0 s1 : Int) (σ : fb_St) (H : Heap) (locs : List Loc) (ls : Array Slot), fb_Wd G s σ H locs → lv_has ls 2 [] → fb_in s0 → fb_in s1 → r s0 s1 σ → W p l e rm_X6_count s m args below meth c H locs 0 0 Qm (F0 m 212 ls [.int (fb_I s0), .int (fb_I s1)])
abbrev TT_X6_count_195 (p : Program) (l : Launch) (e : Env) (s : State) (m : MethodId) (args : Array Value) (below : List Frame) (meth : Method) (c : Code) (Qm : State → Prop) (G : fb_G) (r : Int → fb_St → Prop) : Prop := ∀ (s0 : Int) (σ : fb_St) (H : Heap) (locs : List Loc) (ls : Array Slot), fb_Wd G s σ H locs → lv_has ls 2 [(0, .ref (fb_ad G 0))] → fb_in s0 → r s0 σ → W p l e rm_X6_count s m args below meth c H locs 0 0 Qm (F0 m 195 ls [.int (fb_I s0)])
abbrev TT_X6_count_0 (p : Program) (l : Launch) (e : Env) (s : State) (m : MethodId) (args : Array Value) (below : List Frame) (meth : Method) (c : Code) (Qm : State → Prop) (G : fb_G) (r : Int → fb_St → Prop) : Prop := ∀ (x1 : Int) (σ : fb_St) (H : Heap) (locs : List Loc) (ls : Array Slot), fb_Wd G s σ H locs → lv_has ls 2 [(0, .ref (fb_ad G 0)), (1, .int (fb_I x1))] → fb_in x1 → r x1 σ → W p l e rm_X6_count s m args below meth c H locs 0 0 Qm (F0 m 0 ls [])
set_option maxRecDepth 100000 in
set_option maxHeartbeats 4000000 in
theorem tw_X6_count_212 (C : fb_C p s m args meth c G RX6 cX6_count 2) (hret : fb_RI p l e rm_X6_count s m args below meth c G cX6_count Qm Q) : TT_X6_count_212 p l e s m args below meth c Qm G (wj_X6_count_212 Q) := by
  intro s0 s1 σ H locs ls w hl is0 is1 h
  unfold wj_X6_count_212 at h
  obtain ⟨i37, h⟩ := h
  refine fb_iadd C dX6_count_212 ?_
  exact hret _ _ _ _ _ _ i37 h w dX6_count_213
set_option maxRecDepth 100000 in
set_option maxHeartbeats 4000000 in
theorem tw_X6_count_195 (C : fb_C p s m args meth c G RX6 cX6_count 2) (hret : fb_RI p l e rm_X6_count s m args below meth c G cX6_count Qm Q) : TT_X6_count_195 p l e s m args below meth c Qm G (wj_X6_count_195 Q) := by
  intro s0 σ H locs ls w hl is0 h
  unfold wj_X6_count_195 at h
  refine lv_aload_n C.1.1 C.1.2.1 dX6_count_195 rfl (lv_at hl 0 rfl) ?_
  refine fb_getr (k2 := 41) C w (fb_k0 C) rfl fl_X6_43 dX6_count_196 ?_
  refine fb_iconst C dX6_count_199 ?_
  refine fb_q1 C w rfl dX6_count_200 ?_
  refine fb_gi C w 0 (fb_k45 C) rfl rfl fl_X6_203 dX6_count_201 ?_
  have i35 := w.2.2.2 45 0
  refine fb_if_eq (tgt := 211) C i35 dX6_count_204 (by decide) (fun c36 => ?_) (fun c36 => ?_)
  · have h := h.1 c36
    refine fb_iconst C dX6_count_211 ?_
    exact tw_X6_count_212 C hret 0 s0 _ _ _ _ w (lv_sub hl [] rfl) (by decide) is0 h
  · have h := h.2 c36
    refine fb_iconst C dX6_count_207 ?_
    refine lv_goto (tgt := 212) C.1.1 C.1.2.1 dX6_count_208 (by decide) ?_
    exact tw_X6_count_212 C hret 2 s0 _ _ _ _ w (lv_sub hl [] rfl) (by decide) is0 h
set_option maxRecDepth 100000 in
set_option maxHeartbeats 4000000 in
theorem tw_X6_count_0 (C : fb_C p s m args meth c G RX6 cX6_count 2) (hret : fb_RI p l e rm_X6_count s m args below meth c G cX6_count Qm Q) : TT_X6_count_0 p l e s m args below meth c Qm G (fun x1 σ => wp_X6_count x1 σ Q) := by
  intro x1 σ H locs ls w hl ix1 h
  unfold wp_X6_count at h
  refine lv_iload_n C.1.1 C.1.2.1 dX6_count_0 rfl (lv_at hl 1 rfl) ?_
  by_cases c1 : x1 = 0
  · have h := h.1 c1
    refine fb_tableIn (tgt := 68) (j := 0) C ix1 dX6_count_1 c1 (by decide) rfl (by decide) ?_
    refine lv_aload_n C.1.1 C.1.2.1 dX6_count_68 rfl (lv_at hl 0 rfl) ?_
    refine fb_getr (k2 := 1) C w (fb_k0 C) rfl fl_X6_10 dX6_count_69 ?_
    refine fb_gi C w 0 (fb_k1 C) rfl rfl fl_X6_181 dX6_count_72 ?_
    have i2 := w.2.2.2 1 0
    exact hret _ _ _ _ _ _ i2 h w dX6_count_75
  by_cases c3 : x1 = 1
  · have h := h.2.1 c3
    refine fb_tableIn (tgt := 76) (j := 1) C ix1 dX6_count_1 c3 (by decide) rfl (by decide) ?_
    refine lv_aload_n C.1.1 C.1.2.1 dX6_count_76 rfl (lv_at hl 0 rfl) ?_
    refine fb_getr (k2 := 1) C w (fb_k0 C) rfl fl_X6_10 dX6_count_77 ?_
    refine fb_gi C w 1 (fb_k1 C) rfl rfl fl_X6_184 dX6_count_80 ?_
    have i4 := w.2.2.2 1 1
    exact hret _ _ _ _ _ _ i4 h w dX6_count_83
  by_cases c5 : x1 = 2
  · have h := h.2.2.1 c5
    refine fb_tableIn (tgt := 84) (j := 2) C ix1 dX6_count_1 c5 (by decide) rfl (by decide) ?_
    refine lv_aload_n C.1.1 C.1.2.1 dX6_count_84 rfl (lv_at hl 0 rfl) ?_
    refine fb_iconst C dX6_count_85 ?_
    refine fb_callVi (As := [.int (fb_I 0)]) (rest := []) C w (ct_X6_findPits l G (by decide) h) mv_X6_106 (fb_k0 C) rfl ⟨rfl, rfl, Nat.le_of_ble_eq_true rfl, Nat.le_of_ble_eq_true rfl, Nat.zero_le _, Nat.zero_le _⟩ rfl hl.1 rfl (Nat.le_of_ble_eq_true rfl) dX6_count_86 (fun a6 σ6 H locs h ia6 w => ?_)
    exact hret _ _ _ _ _ _ ia6 h w dX6_count_89
  by_cases c7 : x1 = 3
  · have h := h.2.2.2.1 c7
    refine fb_tableIn (tgt := 90) (j := 3) C ix1 dX6_count_1 c7 (by decide) rfl (by decide) ?_
    refine lv_aload_n C.1.1 C.1.2.1 dX6_count_90 rfl (lv_at hl 0 rfl) ?_
    refine fb_getr (k2 := 1) C w (fb_k0 C) rfl fl_X6_10 dX6_count_91 ?_
    refine fb_callVi (As := []) (rest := []) C w (ct_X5_countMarks l G h) mv_X6_187 (fb_k1 C) rfl ⟨rfl, rfl, Nat.le_of_ble_eq_true rfl, Nat.le_of_ble_eq_true rfl, Nat.zero_le _, Nat.zero_le _⟩ rfl hl.1 rfl (Nat.le_of_ble_eq_true rfl) dX6_count_94 (fun a8 σ8 H locs h ia8 w => ?_)
    exact hret _ _ _ _ _ _ ia8 h w dX6_count_97
  by_cases c9 : x1 = 4
  · have h := h.2.2.2.2.1 c9
    refine fb_tableIn (tgt := 98) (j := 4) C ix1 dX6_count_1 c9 (by decide) rfl (by decide) ?_
    refine lv_aload_n C.1.1 C.1.2.1 dX6_count_98 rfl (lv_at hl 0 rfl) ?_
    refine fb_callVr (As := []) (rest := []) C w (ct_X6_standingFlood l G h) mv_X6_110 (fb_k0 C) rfl ⟨rfl, rfl, Nat.le_of_ble_eq_true rfl, Nat.le_of_ble_eq_true rfl, Nat.zero_le _, Nat.zero_le _⟩ rfl hl.1 rfl (Nat.le_of_ble_eq_true rfl) dX6_count_99 (fun σ10 H locs h w => ?_)
    refine lv_aload_n C.1.1 C.1.2.1 dX6_count_102 rfl (lv_at hl 0 rfl) ?_
    refine fb_getr (k2 := 1) C w (fb_k0 C) rfl fl_X6_10 dX6_count_103 ?_
    refine fb_callVi (As := [.ref (fb_ad G 1)]) (rest := []) C w (ct_X0_countBasins l G h) mv_X6_190 (fb_k8 C) rfl ⟨rfl, rfl, Nat.le_of_ble_eq_true rfl, Nat.le_of_ble_eq_true rfl, Nat.zero_le _, Nat.zero_le _⟩ rfl hl.1 rfl (Nat.le_of_ble_eq_true rfl) dX6_count_106 (fun a11 σ11 H locs h ia11 w => ?_)
    exact hret _ _ _ _ _ _ ia11 h w dX6_count_109
  by_cases c12 : x1 = 5
  · have h := h.2.2.2.2.2.1 c12
    refine fb_tableIn (tgt := 110) (j := 5) C ix1 dX6_count_1 c12 (by decide) rfl (by decide) ?_
    refine lv_aload_n C.1.1 C.1.2.1 dX6_count_110 rfl (lv_at hl 0 rfl) ?_
    refine fb_callVr (As := []) (rest := []) C w (ct_X6_standingPour l G h) mv_X6_123 (fb_k0 C) rfl ⟨rfl, rfl, Nat.le_of_ble_eq_true rfl, Nat.le_of_ble_eq_true rfl, Nat.zero_le _, Nat.zero_le _⟩ rfl hl.1 rfl (Nat.le_of_ble_eq_true rfl) dX6_count_111 (fun σ13 H locs h w => ?_)
    refine fb_callVi (As := []) (rest := []) C w (ct_X3_countBasins l G (Or.inl rfl) h) mv_X6_194 (fb_k17 C) rfl ⟨rfl, rfl, Nat.le_of_ble_eq_true rfl, Nat.le_of_ble_eq_true rfl, Nat.zero_le _, Nat.zero_le _⟩ rfl hl.1 rfl (Nat.le_of_ble_eq_true rfl) dX6_count_114 (fun a14 σ14 H locs h ia14 w => ?_)
    exact hret _ _ _ _ _ _ ia14 h w dX6_count_117
  by_cases c15 : x1 = 6
  · have h := h.2.2.2.2.2.2.1 c15
    refine fb_tableIn (tgt := 118) (j := 6) C ix1 dX6_count_1 c15 (by decide) rfl (by decide) ?_
    refine lv_aload_n C.1.1 C.1.2.1 dX6_count_118 rfl (lv_at hl 0 rfl) ?_
    refine fb_getr (k2 := 1) C w (fb_k0 C) rfl fl_X6_10 dX6_count_119 ?_
    refine lv_aload_n C.1.1 C.1.2.1 dX6_count_122 rfl (lv_at hl 0 rfl) ?_
    refine fb_callVr (As := []) (rest := [.ref (fb_ad G 1)]) C w (ct_X6_standingFlood l G h) mv_X6_110 (fb_k0 C) rfl ⟨rfl, rfl, Nat.le_of_ble_eq_true rfl, Nat.le_of_ble_eq_true rfl, Nat.zero_le _, Nat.zero_le _⟩ rfl hl.1 rfl (Nat.le_of_ble_eq_true rfl) dX6_count_123 (fun σ16 H locs h w => ?_)
    refine fb_getr (k2 := 9) C w (fb_k8 C) rfl fl_X6_114 dX6_count_126 ?_
    refine fb_callVi (As := [.ref (fb_ad G 9)]) (rest := []) C w (ct_X5_countDams l G (fb_k9 C) h) mv_X6_196 (fb_k1 C) rfl ⟨rfl, rfl, Nat.le_of_ble_eq_true rfl, Nat.le_of_ble_eq_true rfl, Nat.zero_le _, Nat.zero_le _⟩ rfl hl.1 rfl (Nat.le_of_ble_eq_true rfl) dX6_count_129 (fun a17 σ17 H locs h ia17 w => ?_)
    exact hret _ _ _ _ _ _ ia17 h w dX6_count_132
  by_cases c18 : x1 = 7
  · have h := h.2.2.2.2.2.2.2.1 c18
    refine fb_tableIn (tgt := 133) (j := 7) C ix1 dX6_count_1 c18 (by decide) rfl (by decide) ?_
    refine lv_aload_n C.1.1 C.1.2.1 dX6_count_133 rfl (lv_at hl 0 rfl) ?_
    refine fb_getr (k2 := 1) C w (fb_k0 C) rfl fl_X6_10 dX6_count_134 ?_
    refine lv_aload_n C.1.1 C.1.2.1 dX6_count_137 rfl (lv_at hl 0 rfl) ?_
    refine fb_callVr (As := []) (rest := [.ref (fb_ad G 1)]) C w (ct_X6_standingPour l G h) mv_X6_123 (fb_k0 C) rfl ⟨rfl, rfl, Nat.le_of_ble_eq_true rfl, Nat.le_of_ble_eq_true rfl, Nat.zero_le _, Nat.zero_le _⟩ rfl hl.1 rfl (Nat.le_of_ble_eq_true rfl) dX6_count_138 (fun σ19 H locs h w => ?_)
    refine fb_getr (k2 := 18) C w (fb_k17 C) rfl fl_X6_127 dX6_count_141 ?_
    refine fb_callVi (As := [.ref (fb_ad G 18)]) (rest := []) C w (ct_X5_countDams l G (fb_k18 C) h) mv_X6_196 (fb_k1 C) rfl ⟨rfl, rfl, Nat.le_of_ble_eq_true rfl, Nat.le_of_ble_eq_true rfl, Nat.zero_le _, Nat.zero_le _⟩ rfl hl.1 rfl (Nat.le_of_ble_eq_true rfl) dX6_count_144 (fun a20 σ20 H locs h ia20 w => ?_)
    exact hret _ _ _ _ _ _ ia20 h w dX6_count_147
  by_cases c21 : x1 = 8
  · have h := h.2.2.2.2.2.2.2.2.1 c21
    refine fb_tableIn (tgt := 148) (j := 8) C ix1 dX6_count_1 c21 (by decide) rfl (by decide) ?_
    refine lv_aload_n C.1.1 C.1.2.1 dX6_count_148 rfl (lv_at hl 0 rfl) ?_
    refine fb_callVr (As := []) (rest := []) C w (ct_X6_standingFlood l G h) mv_X6_110 (fb_k0 C) rfl ⟨rfl, rfl, Nat.le_of_ble_eq_true rfl, Nat.le_of_ble_eq_true rfl, Nat.zero_le _, Nat.zero_le _⟩ rfl hl.1 rfl (Nat.le_of_ble_eq_true rfl) dX6_count_149 (fun σ22 H locs h w => ?_)
    refine lv_aload_n C.1.1 C.1.2.1 dX6_count_152 rfl (lv_at hl 0 rfl) ?_
    refine fb_getr (k2 := 1) C w (fb_k0 C) rfl fl_X6_10 dX6_count_153 ?_
    refine fb_callVi (As := [.ref (fb_ad G 1)]) (rest := []) C w (ct_X0_greatestLevel l G h) mv_X6_200 (fb_k8 C) rfl ⟨rfl, rfl, Nat.le_of_ble_eq_true rfl, Nat.le_of_ble_eq_true rfl, Nat.zero_le _, Nat.zero_le _⟩ rfl hl.1 rfl (Nat.le_of_ble_eq_true rfl) dX6_count_156 (fun a23 σ23 H locs h ia23 w => ?_)
    exact hret _ _ _ _ _ _ ia23 h w dX6_count_159
  by_cases c24 : x1 = 9
  · have h := h.2.2.2.2.2.2.2.2.2.1 c24
    refine fb_tableIn (tgt := 160) (j := 9) C ix1 dX6_count_1 c24 (by decide) rfl (by decide) ?_
    refine lv_aload_n C.1.1 C.1.2.1 dX6_count_160 rfl (lv_at hl 0 rfl) ?_
    refine fb_gi C w 6 (fb_k0 C) rfl rfl fl_X6_47 dX6_count_161 ?_
    have i25 := w.2.2.2 0 6
    exact hret _ _ _ _ _ _ i25 h w dX6_count_164
  by_cases c26 : x1 = 10
  · have h := h.2.2.2.2.2.2.2.2.2.2.1 c26
    refine fb_tableIn (tgt := 165) (j := 10) C ix1 dX6_count_1 c26 (by decide) rfl (by decide) ?_
    refine lv_aload_n C.1.1 C.1.2.1 dX6_count_165 rfl (lv_at hl 0 rfl) ?_
    refine fb_gi C w 7 (fb_k0 C) rfl rfl fl_X6_51 dX6_count_166 ?_
    have i27 := w.2.2.2 0 7
    exact hret _ _ _ _ _ _ i27 h w dX6_count_169
  by_cases c28 : x1 = 11
  · have h := h.2.2.2.2.2.2.2.2.2.2.2.1 c28
    refine fb_tableIn (tgt := 170) (j := 11) C ix1 dX6_count_1 c28 (by decide) rfl (by decide) ?_
    refine lv_aload_n C.1.1 C.1.2.1 dX6_count_170 rfl (lv_at hl 0 rfl) ?_
    refine fb_callVr (As := []) (rest := []) C w (ct_X6_standingTree l G h) mv_X6_158 (fb_k0 C) rfl ⟨rfl, rfl, Nat.le_of_ble_eq_true rfl, Nat.le_of_ble_eq_true rfl, Nat.zero_le _, Nat.zero_le _⟩ rfl hl.1 rfl (Nat.le_of_ble_eq_true rfl) dX6_count_171 (fun σ29 H locs h w => ?_)
    refine fb_gi C w 0 (fb_k29 C) rfl rfl fl_X6_128 dX6_count_174 ?_
    have i30 := w.2.2.2 29 0
    exact hret _ _ _ _ _ _ i30 h w dX6_count_177
  by_cases c31 : x1 = 12
  · have h := h.2.2.2.2.2.2.2.2.2.2.2.2.1 c31
    refine fb_tableIn (tgt := 178) (j := 12) C ix1 dX6_count_1 c31 (by decide) rfl (by decide) ?_
    refine lv_aload_n C.1.1 C.1.2.1 dX6_count_178 rfl (lv_at hl 0 rfl) ?_
    refine fb_getr (k2 := 41) C w (fb_k0 C) rfl fl_X6_43 dX6_count_179 ?_
    refine fb_iconst C dX6_count_182 ?_
    refine fb_q0 C w rfl dX6_count_183 ?_
    refine fb_gi C w 0 (fb_k42 C) rfl rfl fl_X6_203 dX6_count_184 ?_
    have i32 := w.2.2.2 42 0
    refine fb_if_eq (tgt := 194) C i32 dX6_count_187 (by decide) (fun c33 => ?_) (fun c33 => ?_)
    · have h := h.1 c33
      refine fb_iconst C dX6_count_194 ?_
      exact tw_X6_count_195 C hret 0 _ _ _ _ w (lv_sub hl [0] rfl) (by decide) h
    · have h := h.2 c33
      refine fb_iconst C dX6_count_190 ?_
      refine lv_goto (tgt := 195) C.1.1 C.1.2.1 dX6_count_191 (by decide) ?_
      exact tw_X6_count_195 C hret 1 _ _ _ _ w (lv_sub hl [0] rfl) (by decide) h
  have c34 : x1 < 0 ∨ 12 < x1 := by omega
  have h := h.2.2.2.2.2.2.2.2.2.2.2.2.2 c34
  refine fb_tableOut (tgt := 214) C ix1 dX6_count_1 c34 (by decide) ?_
  refine fb_bipush C dX6_count_214 (by decide) ?_
  exact hret _ _ _ _ _ _ (by decide) h w dX6_count_216
theorem ct_X6_count (l : Launch) (G : fb_G) {x1 : Int} {σ : fb_St} (ix1 : fb_in x1) (h : wp_X6_count x1 σ Q) : fb_MI l G yX6_count cX6_count 2 (some .int) rm_X6_count [.ref (fb_ad G 0), .int (fb_I x1)] σ Q := by
  refine fb_ofW (own := RX6) (by decide) (Nat.le_of_ble_eq_true rfl) rfl (fun p e s m args below meth c ls C hr hl w => ?_)
  exact tw_X6_count_0 C (fb_reti C hr) _ _ _ _ _ w hl ix1 h
end S_X6_count
section S_X1_keep
variable {p : Program} {l : Launch} {e : Env} {s : State} {m : MethodId} {args : Array Value} {below : List Frame} {meth : Method} {c : Code} {Qm : State → Prop} {G : fb_G} {Q : Int → fb_St → Prop} {gg : Nat}
abbrev TT_X1_keep_0 (p : Program) (l : Launch) (e : Env) (s : State) (m : MethodId) (args : Array Value) (below : List Frame) (meth : Method) (c : Code) (Qm : State → Prop) (G : fb_G) (gg : Nat) (r : Int → Int → fb_St → Prop) : Prop := ∀ (x2 x3 : Int) (σ : fb_St) (H : Heap) (locs : List Loc) (ls : Array Slot), fb_Wd G s σ H locs → lv_has ls 4 [(0, .ref (fb_ad G gg)), (1, .ref (fb_ad G 1)), (2, .int (fb_I x2)), (3, .int (fb_I x3))] → fb_in x2 → fb_in x3 → r x2 x3 σ → W p l e rm_X1_keep s m args below meth c H locs 0 0 Qm (F0 m 0 ls [])
set_option maxRecDepth 100000 in
set_option maxHeartbeats 4000000 in
theorem tw_X1_keep_0 (hgg : gg = 42 ∨ gg = 45) (C : fb_C p s m args meth c G RX1 cX1_keep 4) (hret : fb_RV p l e rm_X1_keep s m args below meth c G cX1_keep Qm Q) : TT_X1_keep_0 p l e s m args below meth c Qm G gg (fun x2 x3 σ => wp_X1_keep gg x2 x3 σ Q) := by
  intro x2 x3 σ H locs ls w hl ix2 ix3 h
  unfold wp_X1_keep at h
  refine lv_aload_n C.1.1 C.1.2.1 dX1_keep_0 rfl (lv_at hl 0 rfl) ?_
  refine fb_iconst C dX1_keep_1 ?_
  refine fb_pi C w 0 (fb_gk0 C hgg) rfl rfl fl_X1_9 tyX1_ok nmX1 rfl (by decide) (fb_nzb (by decide)) (fb_fzb (by decide)) dX1_keep_2 (fun σ1 H locs eσ1 w => ?_)
  have h := h σ1 eσ1
  refine lv_aload_n C.1.1 C.1.2.1 dX1_keep_5 rfl (lv_at hl 0 rfl) ?_
  refine lv_iload_n C.1.1 C.1.2.1 dX1_keep_6 rfl (lv_at hl 2 rfl) ?_
  refine fb_pi C w 1 (fb_gk0 C hgg) rfl rfl fl_X1_15 tyX1_ok nmX1 rfl ix2 rfl rfl dX1_keep_7 (fun σ2 H locs eσ2 w => ?_)
  have h := h σ2 eσ2
  refine lv_aload_n C.1.1 C.1.2.1 dX1_keep_10 rfl (lv_at hl 0 rfl) ?_
  refine lv_iload_n C.1.1 C.1.2.1 dX1_keep_11 rfl (lv_at hl 3 rfl) ?_
  refine fb_pi C w 2 (fb_gk0 C hgg) rfl rfl fl_X1_19 tyX1_ok nmX1 rfl ix3 rfl rfl dX1_keep_12 (fun σ3 H locs eσ3 w => ?_)
  have h := h σ3 eσ3
  refine lv_aload_n C.1.1 C.1.2.1 dX1_keep_15 rfl (lv_at hl 0 rfl) ?_
  refine lv_aload_n C.1.1 C.1.2.1 dX1_keep_16 rfl (lv_at hl 1 rfl) ?_
  refine fb_gi C w 0 (fb_k1 C) rfl rfl fl_X1_35 dX1_keep_17 ?_
  have i4 := w.2.2.2 1 0
  refine fb_pi C w 3 (fb_gk0 C hgg) rfl rfl fl_X1_22 tyX1_ok nmX1 rfl i4 rfl rfl dX1_keep_20 (fun σ5 H locs eσ5 w => ?_)
  have h := h σ5 eσ5
  refine lv_aload_n C.1.1 C.1.2.1 dX1_keep_23 rfl (lv_at hl 0 rfl) ?_
  refine lv_aload_n C.1.1 C.1.2.1 dX1_keep_24 rfl (lv_at hl 1 rfl) ?_
  refine fb_gi C w 1 (fb_k1 C) rfl rfl fl_X1_38 dX1_keep_25 ?_
  have i6 := w.2.2.2 1 1
  refine fb_pi C w 4 (fb_gk0 C hgg) rfl rfl fl_X1_25 tyX1_ok nmX1 rfl i6 rfl rfl dX1_keep_28 (fun σ7 H locs eσ7 w => ?_)
  have h := h σ7 eσ7
  refine lv_aload_n C.1.1 C.1.2.1 dX1_keep_31 rfl (lv_at hl 1 rfl) ?_
  refine fb_getr (k2 := 2) C w (fb_k1 C) rfl fl_X1_39 dX1_keep_32 ?_
  refine fb_iconst C dX1_keep_35 ?_
  refine lv_aload_n C.1.1 C.1.2.1 dX1_keep_36 rfl (lv_at hl 0 rfl) ?_
  refine fb_getr (k2 := (gg+1)) C w (fb_gk0 C hgg) rfl fl_X1_28 dX1_keep_37 ?_
  refine fb_iconst C dX1_keep_40 ?_
  refine fb_sipush C dX1_keep_41 (by decide) ?_
  refine fb_cy C w 144 144 (fb_k2 C) (fb_gk1 C hgg) rfl rfl rfl (by decide) (by decide) (by decide) mc_X1_40 ⟨Nat.le_of_ble_eq_true rfl, Nat.le_of_ble_eq_true rfl⟩ hl.1 dX1_keep_44 (fun σ8 H locs eσ8 w => ?_)
  have h := h σ8 eσ8
  refine lv_aload_n C.1.1 C.1.2.1 dX1_keep_47 rfl (lv_at hl 1 rfl) ?_
  refine fb_getr (k2 := 3) C w (fb_k1 C) rfl fl_X1_46 dX1_keep_48 ?_
  refine fb_iconst C dX1_keep_51 ?_
  refine lv_aload_n C.1.1 C.1.2.1 dX1_keep_52 rfl (lv_at hl 0 rfl) ?_
  refine fb_getr (k2 := (gg+2)) C w (fb_gk0 C hgg) rfl fl_X1_32 dX1_keep_53 ?_
  refine fb_iconst C dX1_keep_56 ?_
  refine fb_sipush C dX1_keep_57 (by decide) ?_
  refine fb_cy C w 144 144 (fb_k3 C) (fb_gk2 C hgg) rfl rfl rfl (by decide) (by decide) (by decide) mc_X1_40 ⟨Nat.le_of_ble_eq_true rfl, Nat.le_of_ble_eq_true rfl⟩ hl.1 dX1_keep_60 (fun σ9 H locs eσ9 w => ?_)
  have h := h σ9 eσ9
  exact hret _ _ _ _ _ h w dX1_keep_63
theorem ct_X1_keep (l : Launch) (G : fb_G) (hgg : gg = 42 ∨ gg = 45) {x2 : Int} {x3 : Int} {σ : fb_St} (ix2 : fb_in x2) (ix3 : fb_in x3) (h : wp_X1_keep gg x2 x3 σ Q) : fb_MV l G yX1_keep cX1_keep 4 rm_X1_keep [.ref (fb_ad G gg), .ref (fb_ad G 1), .int (fb_I x2), .int (fb_I x3)] σ Q := by
  refine fb_ofW (own := RX1) (by decide) (Nat.le_of_ble_eq_true rfl) rfl (fun p e s m args below meth c ls C hr hl w => ?_)
  exact tw_X1_keep_0 hgg C (fb_retv C hr) _ _ _ _ _ _ w hl ix2 ix3 h
end S_X1_keep
section S_X6_image
variable {p : Program} {l : Launch} {e : Env} {s : State} {m : MethodId} {args : Array Value} {below : List Frame} {meth : Method} {c : Code} {Qm : State → Prop} {G : fb_G} {Q : Int → fb_St → Prop}
abbrev TT_X6_image_0 (p : Program) (l : Launch) (e : Env) (s : State) (m : MethodId) (args : Array Value) (below : List Frame) (meth : Method) (c : Code) (Qm : State → Prop) (G : fb_G) (r : Int → fb_St → Prop) : Prop := ∀ (x1 : Int) (σ : fb_St) (H : Heap) (locs : List Loc) (ls : Array Slot), fb_Wd G s σ H locs → lv_has ls 2 [(0, .ref (fb_ad G 0)), (1, .int (fb_I x1))] → fb_in x1 → r x1 σ → W p l e rm_X6_image s m args below meth c H locs 0 0 Qm (F0 m 0 ls [])
set_option maxRecDepth 100000 in
set_option maxHeartbeats 4000000 in
theorem tw_X6_image_0 (C : fb_C p s m args meth c G RX6 cX6_image 2) (hret : fb_RI p l e rm_X6_image s m args below meth c G cX6_image Qm Q) : TT_X6_image_0 p l e s m args below meth c Qm G (fun x1 σ => wp_X6_image x1 σ Q) := by
  intro x1 σ H locs ls w hl ix1 h
  unfold wp_X6_image at h
  refine lv_iload_n C.1.1 C.1.2.1 dX6_image_0 rfl (lv_at hl 1 rfl) ?_
  refine fb_iconst C dX6_image_1 ?_
  refine fb_iconst C dX6_image_2 ?_
  refine fb_callSi (As := [.int (fb_I x1), .int (fb_I 0), .int (fb_I 1)]) (rest := []) C w (ct_X6_within l G ix1 (by decide) (by decide) h) ms_X6_68 ⟨rfl, rfl, Nat.le_of_ble_eq_true rfl, Nat.le_of_ble_eq_true rfl, Nat.zero_le _, Nat.zero_le _⟩ rfl hl.1 rfl (Nat.le_of_ble_eq_true rfl) dX6_image_3 (fun a1 σ1 H locs h ia1 w => ?_)
  refine fb_if_ne (tgt := 12) C ia1 dX6_image_6 (by decide) (fun c2 => ?_) (fun c2 => ?_)
  · have h := h.2 c2
    refine lv_aload_n C.1.1 C.1.2.1 dX6_image_12 rfl (lv_at hl 0 rfl) ?_
    refine fb_getr (k2 := 41) C w (fb_k0 C) rfl fl_X6_43 dX6_image_13 ?_
    refine lv_iload_n C.1.1 C.1.2.1 dX6_image_16 rfl (lv_at hl 1 rfl) ?_
    obtain ⟨h0, h1, hr⟩ := h
    by_cases c3 : x1 = 0
    · have h := h0 c3
      refine fb_q0 C w c3 dX6_image_17 ?_
      refine lv_aload_n C.1.1 C.1.2.1 dX6_image_18 rfl (lv_at hl 0 rfl) ?_
      refine fb_getr (k2 := 1) C w (fb_k0 C) rfl fl_X6_10 dX6_image_19 ?_
      refine lv_aload_n C.1.1 C.1.2.1 dX6_image_22 rfl (lv_at hl 0 rfl) ?_
      refine fb_gi C w 6 (fb_k0 C) rfl rfl fl_X6_47 dX6_image_23 ?_
      have i4 := w.2.2.2 0 6
      refine lv_aload_n C.1.1 C.1.2.1 dX6_image_26 rfl (lv_at hl 0 rfl) ?_
      refine fb_gi C w 7 (fb_k0 C) rfl rfl fl_X6_51 dX6_image_27 ?_
      have i5 := w.2.2.2 0 7
      refine fb_callVv (As := [.ref (fb_ad G 1), .int (fb_I (σ1 0 6)), .int (fb_I (σ1 0 7))]) (rest := []) C w (ct_X1_keep l G (Or.inl rfl) i4 i5 h) mv_X6_206 (fb_k42 C) rfl ⟨rfl, rfl, Nat.le_of_ble_eq_true rfl, Nat.le_of_ble_eq_true rfl, Nat.zero_le _, Nat.zero_le _⟩ rfl hl.1 rfl (Nat.le_of_ble_eq_true rfl) dX6_image_30 (fun σ6 H locs h w => ?_)
      refine fb_iconst C dX6_image_33 ?_
      exact hret _ _ _ _ _ _ (by decide) h w dX6_image_34
    have c3_ : x1 = 1 := hr.resolve_left c3
    have h := h1 c3_
    refine fb_q1 C w c3_ dX6_image_17 ?_
    refine lv_aload_n C.1.1 C.1.2.1 dX6_image_18 rfl (lv_at hl 0 rfl) ?_
    refine fb_getr (k2 := 1) C w (fb_k0 C) rfl fl_X6_10 dX6_image_19 ?_
    refine lv_aload_n C.1.1 C.1.2.1 dX6_image_22 rfl (lv_at hl 0 rfl) ?_
    refine fb_gi C w 6 (fb_k0 C) rfl rfl fl_X6_47 dX6_image_23 ?_
    have i7 := w.2.2.2 0 6
    refine lv_aload_n C.1.1 C.1.2.1 dX6_image_26 rfl (lv_at hl 0 rfl) ?_
    refine fb_gi C w 7 (fb_k0 C) rfl rfl fl_X6_51 dX6_image_27 ?_
    have i8 := w.2.2.2 0 7
    refine fb_callVv (As := [.ref (fb_ad G 1), .int (fb_I (σ1 0 6)), .int (fb_I (σ1 0 7))]) (rest := []) C w (ct_X1_keep l G (Or.inr rfl) i7 i8 h) mv_X6_206 (fb_k45 C) rfl ⟨rfl, rfl, Nat.le_of_ble_eq_true rfl, Nat.le_of_ble_eq_true rfl, Nat.zero_le _, Nat.zero_le _⟩ rfl hl.1 rfl (Nat.le_of_ble_eq_true rfl) dX6_image_30 (fun σ9 H locs h w => ?_)
    refine fb_iconst C dX6_image_33 ?_
    exact hret _ _ _ _ _ _ (by decide) h w dX6_image_34
  · have h := h.1 c2
    refine fb_bipush C dX6_image_9 (by decide) ?_
    exact hret _ _ _ _ _ _ (by decide) h w dX6_image_11
theorem ct_X6_image (l : Launch) (G : fb_G) {x1 : Int} {σ : fb_St} (ix1 : fb_in x1) (h : wp_X6_image x1 σ Q) : fb_MI l G yX6_image cX6_image 2 (some .int) rm_X6_image [.ref (fb_ad G 0), .int (fb_I x1)] σ Q := by
  refine fb_ofW (own := RX6) (by decide) (Nat.le_of_ble_eq_true rfl) rfl (fun p e s m args below meth c ls C hr hl w => ?_)
  exact tw_X6_image_0 C (fb_reti C hr) _ _ _ _ _ w hl ix1 h
end S_X6_image
section S_X1_giveBack
variable {p : Program} {l : Launch} {e : Env} {s : State} {m : MethodId} {args : Array Value} {below : List Frame} {meth : Method} {c : Code} {Qm : State → Prop} {G : fb_G} {Q : Int → fb_St → Prop} {gg : Nat}
abbrev TT_X1_giveBack_0 (p : Program) (l : Launch) (e : Env) (s : State) (m : MethodId) (args : Array Value) (below : List Frame) (meth : Method) (c : Code) (Qm : State → Prop) (G : fb_G) (gg : Nat) (r : fb_St → Prop) : Prop := ∀ (σ : fb_St) (H : Heap) (locs : List Loc) (ls : Array Slot), fb_Wd G s σ H locs → lv_has ls 2 [(0, .ref (fb_ad G gg)), (1, .ref (fb_ad G 1))] → r σ → W p l e rm_X1_giveBack s m args below meth c H locs 0 0 Qm (F0 m 0 ls [])
set_option maxRecDepth 100000 in
set_option maxHeartbeats 4000000 in
theorem tw_X1_giveBack_0 (hgg : gg = 42 ∨ gg = 45) (C : fb_C p s m args meth c G RX1 cX1_giveBack 2) (hret : fb_RV p l e rm_X1_giveBack s m args below meth c G cX1_giveBack Qm Q) : TT_X1_giveBack_0 p l e s m args below meth c Qm G gg (fun σ => wp_X1_giveBack gg σ Q) := by
  intro σ H locs ls w hl h
  unfold wp_X1_giveBack at h
  refine lv_aload_n C.1.1 C.1.2.1 dX1_giveBack_0 rfl (lv_at hl 1 rfl) ?_
  refine lv_aload_n C.1.1 C.1.2.1 dX1_giveBack_1 rfl (lv_at hl 0 rfl) ?_
  refine fb_gi C w 3 (fb_gk0 C hgg) rfl rfl fl_X1_22 dX1_giveBack_2 ?_
  have i1 := w.2.2.2 gg 3
  refine lv_aload_n C.1.1 C.1.2.1 dX1_giveBack_5 rfl (lv_at hl 0 rfl) ?_
  refine fb_gi C w 4 (fb_gk0 C hgg) rfl rfl fl_X1_25 dX1_giveBack_6 ?_
  have i2 := w.2.2.2 gg 4
  refine fb_callVv (As := [.int (fb_I (σ gg 3)), .int (fb_I (σ gg 4))]) (rest := []) C w (ct_X5_shape l G i1 i2 h) mv_X1_47 (fb_k1 C) rfl ⟨rfl, rfl, Nat.le_of_ble_eq_true rfl, Nat.le_of_ble_eq_true rfl, Nat.zero_le _, Nat.zero_le _⟩ rfl hl.1 rfl (Nat.le_of_ble_eq_true rfl) dX1_giveBack_9 (fun σ3 H locs h w => ?_)
  refine lv_aload_n C.1.1 C.1.2.1 dX1_giveBack_12 rfl (lv_at hl 0 rfl) ?_
  refine fb_getr (k2 := (gg+1)) C w (fb_gk0 C hgg) rfl fl_X1_28 dX1_giveBack_13 ?_
  refine fb_iconst C dX1_giveBack_16 ?_
  refine lv_aload_n C.1.1 C.1.2.1 dX1_giveBack_17 rfl (lv_at hl 1 rfl) ?_
  refine fb_getr (k2 := 2) C w (fb_k1 C) rfl fl_X1_39 dX1_giveBack_18 ?_
  refine fb_iconst C dX1_giveBack_21 ?_
  refine fb_sipush C dX1_giveBack_22 (by decide) ?_
  refine fb_cy C w 144 144 (fb_gk1 C hgg) (fb_k2 C) rfl rfl rfl (by decide) (by decide) (by decide) mc_X1_40 ⟨Nat.le_of_ble_eq_true rfl, Nat.le_of_ble_eq_true rfl⟩ hl.1 dX1_giveBack_25 (fun σ4 H locs eσ4 w => ?_)
  have h := h σ4 eσ4
  refine lv_aload_n C.1.1 C.1.2.1 dX1_giveBack_28 rfl (lv_at hl 0 rfl) ?_
  refine fb_getr (k2 := (gg+2)) C w (fb_gk0 C hgg) rfl fl_X1_32 dX1_giveBack_29 ?_
  refine fb_iconst C dX1_giveBack_32 ?_
  refine lv_aload_n C.1.1 C.1.2.1 dX1_giveBack_33 rfl (lv_at hl 1 rfl) ?_
  refine fb_getr (k2 := 3) C w (fb_k1 C) rfl fl_X1_46 dX1_giveBack_34 ?_
  refine fb_iconst C dX1_giveBack_37 ?_
  refine fb_sipush C dX1_giveBack_38 (by decide) ?_
  refine fb_cy C w 144 144 (fb_gk2 C hgg) (fb_k3 C) rfl rfl rfl (by decide) (by decide) (by decide) mc_X1_40 ⟨Nat.le_of_ble_eq_true rfl, Nat.le_of_ble_eq_true rfl⟩ hl.1 dX1_giveBack_41 (fun σ5 H locs eσ5 w => ?_)
  have h := h σ5 eσ5
  exact hret _ _ _ _ _ h w dX1_giveBack_44
theorem ct_X1_giveBack (l : Launch) (G : fb_G) (hgg : gg = 42 ∨ gg = 45) {σ : fb_St} (h : wp_X1_giveBack gg σ Q) : fb_MV l G yX1_giveBack cX1_giveBack 2 rm_X1_giveBack [.ref (fb_ad G gg), .ref (fb_ad G 1)] σ Q := by
  refine fb_ofW (own := RX1) (by decide) (Nat.le_of_ble_eq_true rfl) rfl (fun p e s m args below meth c ls C hr hl w => ?_)
  exact tw_X1_giveBack_0 hgg C (fb_retv C hr) _ _ _ _ w hl h
end S_X1_giveBack
section S_X6_restore
variable {p : Program} {l : Launch} {e : Env} {s : State} {m : MethodId} {args : Array Value} {below : List Frame} {meth : Method} {c : Code} {Qm : State → Prop} {G : fb_G} {Q : Int → fb_St → Prop}
abbrev TT_X6_restore_0 (p : Program) (l : Launch) (e : Env) (s : State) (m : MethodId) (args : Array Value) (below : List Frame) (meth : Method) (c : Code) (Qm : State → Prop) (G : fb_G) (r : Int → fb_St → Prop) : Prop := ∀ (x1 : Int) (σ : fb_St) (H : Heap) (locs : List Loc) (ls : Array Slot), fb_Wd G s σ H locs → lv_has ls 3 [(0, .ref (fb_ad G 0)), (1, .int (fb_I x1))] → fb_in x1 → r x1 σ → W p l e rm_X6_restore s m args below meth c H locs 0 0 Qm (F0 m 0 ls [])
set_option maxRecDepth 100000 in
set_option maxHeartbeats 4000000 in
theorem tw_X6_restore_0 (C : fb_C p s m args meth c G RX6 cX6_restore 3) (hret : fb_RI p l e rm_X6_restore s m args below meth c G cX6_restore Qm Q) : TT_X6_restore_0 p l e s m args below meth c Qm G (fun x1 σ => wp_X6_restore x1 σ Q) := by
  intro x1 σ H locs ls w hl ix1 h
  unfold wp_X6_restore at h
  refine lv_iload_n C.1.1 C.1.2.1 dX6_restore_0 rfl (lv_at hl 1 rfl) ?_
  refine fb_iconst C dX6_restore_1 ?_
  refine fb_iconst C dX6_restore_2 ?_
  refine fb_callSi (As := [.int (fb_I x1), .int (fb_I 0), .int (fb_I 1)]) (rest := []) C w (ct_X6_within l G ix1 (by decide) (by decide) h) ms_X6_68 ⟨rfl, rfl, Nat.le_of_ble_eq_true rfl, Nat.le_of_ble_eq_true rfl, Nat.zero_le _, Nat.zero_le _⟩ rfl hl.1 rfl (Nat.le_of_ble_eq_true rfl) dX6_restore_3 (fun a1 σ1 H locs h ia1 w => ?_)
  refine fb_if_ne (tgt := 12) C ia1 dX6_restore_6 (by decide) (fun c2 => ?_) (fun c2 => ?_)
  · have h := h.2 c2
    refine lv_aload_n C.1.1 C.1.2.1 dX6_restore_12 rfl (lv_at hl 0 rfl) ?_
    refine fb_getr (k2 := 41) C w (fb_k0 C) rfl fl_X6_43 dX6_restore_13 ?_
    refine lv_iload_n C.1.1 C.1.2.1 dX6_restore_16 rfl (lv_at hl 1 rfl) ?_
    obtain ⟨h0, h1, hr⟩ := h
    by_cases c3 : x1 = 0
    · have h := h0 c3
      refine fb_q0 C w c3 dX6_restore_17 ?_
      refine lv_astore_n (lv' := [(2, .ref (fb_ad G 42)), (0, .ref (fb_ad G 0)), (1, .int (fb_I x1))]) C.1.1 C.1.2.1 dX6_restore_18 rfl hl (by decide) rfl (fun ls hl => ?_)
      refine lv_aload_n C.1.1 C.1.2.1 dX6_restore_19 rfl (lv_at hl 0 rfl) ?_
      refine fb_gi C w 0 (fb_k42 C) rfl rfl fl_X6_203 dX6_restore_20 ?_
      have i4 := w.2.2.2 42 0
      refine fb_if_ne (tgt := 29) C i4 dX6_restore_23 (by decide) (fun c5 => ?_) (fun c5 => ?_)
      · have h := h.2 c5
        refine lv_aload_n C.1.1 C.1.2.1 dX6_restore_29 rfl (lv_at hl 0 rfl) ?_
        refine lv_aload_n C.1.1 C.1.2.1 dX6_restore_30 rfl (lv_at hl 1 rfl) ?_
        refine fb_getr (k2 := 1) C w (fb_k0 C) rfl fl_X6_10 dX6_restore_31 ?_
        refine fb_callVv (As := [.ref (fb_ad G 1)]) (rest := []) C w (ct_X1_giveBack l G (Or.inl rfl) h) mv_X6_210 (fb_k42 C) rfl ⟨rfl, rfl, Nat.le_of_ble_eq_true rfl, Nat.le_of_ble_eq_true rfl, Nat.zero_le _, Nat.zero_le _⟩ rfl hl.1 rfl (Nat.le_of_ble_eq_true rfl) dX6_restore_34 (fun σ6 H locs h w => ?_)
        refine lv_aload_n C.1.1 C.1.2.1 dX6_restore_37 rfl (lv_at hl 1 rfl) ?_
        refine lv_aload_n C.1.1 C.1.2.1 dX6_restore_38 rfl (lv_at hl 0 rfl) ?_
        refine fb_gi C w 1 (fb_k42 C) rfl rfl fl_X6_214 dX6_restore_39 ?_
        have i7 := w.2.2.2 42 1
        refine fb_pi C w 6 (fb_k0 C) rfl rfl fl_X6_47 tyX6_ok nmX6 rfl i7 rfl rfl dX6_restore_42 (fun σ8 H locs eσ8 w => ?_)
        have h := h σ8 eσ8
        refine lv_aload_n C.1.1 C.1.2.1 dX6_restore_45 rfl (lv_at hl 1 rfl) ?_
        refine lv_aload_n C.1.1 C.1.2.1 dX6_restore_46 rfl (lv_at hl 0 rfl) ?_
        refine fb_gi C w 2 (fb_k42 C) rfl rfl fl_X6_217 dX6_restore_47 ?_
        have i9 := w.2.2.2 42 2
        refine fb_pi C w 7 (fb_k0 C) rfl rfl fl_X6_51 tyX6_ok nmX6 rfl i9 rfl rfl dX6_restore_50 (fun σ10 H locs eσ10 w => ?_)
        have h := h σ10 eσ10
        refine lv_aload_n C.1.1 C.1.2.1 dX6_restore_53 rfl (lv_at hl 1 rfl) ?_
        refine fb_callVv (As := []) (rest := []) C w (ct_X6_nothingStands l G h) mv_X6_97 (fb_k0 C) rfl ⟨rfl, rfl, Nat.le_of_ble_eq_true rfl, Nat.le_of_ble_eq_true rfl, Nat.zero_le _, Nat.zero_le _⟩ rfl hl.1 rfl (Nat.le_of_ble_eq_true rfl) dX6_restore_54 (fun σ11 H locs h w => ?_)
        refine fb_iconst C dX6_restore_57 ?_
        exact hret _ _ _ _ _ _ (by decide) h w dX6_restore_58
      · have h := h.1 c5
        refine fb_bipush C dX6_restore_26 (by decide) ?_
        exact hret _ _ _ _ _ _ (by decide) h w dX6_restore_28
    have c3_ : x1 = 1 := hr.resolve_left c3
    have h := h1 c3_
    refine fb_q1 C w c3_ dX6_restore_17 ?_
    refine lv_astore_n (lv' := [(2, .ref (fb_ad G 45)), (0, .ref (fb_ad G 0)), (1, .int (fb_I x1))]) C.1.1 C.1.2.1 dX6_restore_18 rfl hl (by decide) rfl (fun ls hl => ?_)
    refine lv_aload_n C.1.1 C.1.2.1 dX6_restore_19 rfl (lv_at hl 0 rfl) ?_
    refine fb_gi C w 0 (fb_k45 C) rfl rfl fl_X6_203 dX6_restore_20 ?_
    have i12 := w.2.2.2 45 0
    refine fb_if_ne (tgt := 29) C i12 dX6_restore_23 (by decide) (fun c13 => ?_) (fun c13 => ?_)
    · have h := h.2 c13
      refine lv_aload_n C.1.1 C.1.2.1 dX6_restore_29 rfl (lv_at hl 0 rfl) ?_
      refine lv_aload_n C.1.1 C.1.2.1 dX6_restore_30 rfl (lv_at hl 1 rfl) ?_
      refine fb_getr (k2 := 1) C w (fb_k0 C) rfl fl_X6_10 dX6_restore_31 ?_
      refine fb_callVv (As := [.ref (fb_ad G 1)]) (rest := []) C w (ct_X1_giveBack l G (Or.inr rfl) h) mv_X6_210 (fb_k45 C) rfl ⟨rfl, rfl, Nat.le_of_ble_eq_true rfl, Nat.le_of_ble_eq_true rfl, Nat.zero_le _, Nat.zero_le _⟩ rfl hl.1 rfl (Nat.le_of_ble_eq_true rfl) dX6_restore_34 (fun σ14 H locs h w => ?_)
      refine lv_aload_n C.1.1 C.1.2.1 dX6_restore_37 rfl (lv_at hl 1 rfl) ?_
      refine lv_aload_n C.1.1 C.1.2.1 dX6_restore_38 rfl (lv_at hl 0 rfl) ?_
      refine fb_gi C w 1 (fb_k45 C) rfl rfl fl_X6_214 dX6_restore_39 ?_
      have i15 := w.2.2.2 45 1
      refine fb_pi C w 6 (fb_k0 C) rfl rfl fl_X6_47 tyX6_ok nmX6 rfl i15 rfl rfl dX6_restore_42 (fun σ16 H locs eσ16 w => ?_)
      have h := h σ16 eσ16
      refine lv_aload_n C.1.1 C.1.2.1 dX6_restore_45 rfl (lv_at hl 1 rfl) ?_
      refine lv_aload_n C.1.1 C.1.2.1 dX6_restore_46 rfl (lv_at hl 0 rfl) ?_
      refine fb_gi C w 2 (fb_k45 C) rfl rfl fl_X6_217 dX6_restore_47 ?_
      have i17 := w.2.2.2 45 2
      refine fb_pi C w 7 (fb_k0 C) rfl rfl fl_X6_51 tyX6_ok nmX6 rfl i17 rfl rfl dX6_restore_50 (fun σ18 H locs eσ18 w => ?_)
      have h := h σ18 eσ18
      refine lv_aload_n C.1.1 C.1.2.1 dX6_restore_53 rfl (lv_at hl 1 rfl) ?_
      refine fb_callVv (As := []) (rest := []) C w (ct_X6_nothingStands l G h) mv_X6_97 (fb_k0 C) rfl ⟨rfl, rfl, Nat.le_of_ble_eq_true rfl, Nat.le_of_ble_eq_true rfl, Nat.zero_le _, Nat.zero_le _⟩ rfl hl.1 rfl (Nat.le_of_ble_eq_true rfl) dX6_restore_54 (fun σ19 H locs h w => ?_)
      refine fb_iconst C dX6_restore_57 ?_
      exact hret _ _ _ _ _ _ (by decide) h w dX6_restore_58
    · have h := h.1 c13
      refine fb_bipush C dX6_restore_26 (by decide) ?_
      exact hret _ _ _ _ _ _ (by decide) h w dX6_restore_28
  · have h := h.1 c2
    refine fb_bipush C dX6_restore_9 (by decide) ?_
    exact hret _ _ _ _ _ _ (by decide) h w dX6_restore_11
theorem ct_X6_restore (l : Launch) (G : fb_G) {x1 : Int} {σ : fb_St} (ix1 : fb_in x1) (h : wp_X6_restore x1 σ Q) : fb_MI l G yX6_restore cX6_restore 3 (some .int) rm_X6_restore [.ref (fb_ad G 0), .int (fb_I x1)] σ Q := by
  refine fb_ofW (own := RX6) (by decide) (Nat.le_of_ble_eq_true rfl) rfl (fun p e s m args below meth c ls C hr hl w => ?_)
  exact tw_X6_restore_0 C (fb_reti C hr) _ _ _ _ _ w hl ix1 h
end S_X6_restore
