section S_X7_basinBeside
variable {p : Program} {l : Launch} {e : Env} {s : State} {m : MethodId} {args : Array Value} {below : List Frame} {meth : Method} {c : Code} {Qm : State → Prop} {G : fb_G} {Q : Int → fb_St → Prop} {oo : Nat}
abbrev TT_X7_basinBeside_61 (p : Program) (l : Launch) (e : Env) (s : State) (m : MethodId) (args : Array Value) (below : List Frame) (meth : Method) (c : Code) (Qm : State → Prop) (G : fb_G) (oo : Nat) (r : Int → Int → Int → fb_St → Prop) : Prop := ∀ (x2 x3 x4 : Int) (σ : fb_St) (H : Heap) (locs : List Loc) (ls : Array Slot), fb_Wd G s σ H locs → lv_has ls 7 [(0, .ref (fb_ad G 48)), (1, .ref (fb_ad G oo)), (2, .int (fb_I x2)), (3, .int (fb_I x3)), (4, .int (fb_I x4))] → fb_in x2 → fb_in x3 → fb_in x4 → r x2 x3 x4 σ → W p l e rm_X7_basinBeside s m args below meth c H locs 0 0 Qm (F0 m 61 ls [])
abbrev TT_X7_basinBeside_60 (p : Program) (l : Launch) (e : Env) (s : State) (m : MethodId) (args : Array Value) (below : List Frame) (meth : Method) (c : Code) (Qm : State → Prop) (G : fb_G) (oo : Nat) (r : Int → Int → Int → fb_St → Prop) : Prop := ∀ (x2 x4 s0 : Int) (σ : fb_St) (H : Heap) (locs : List Loc) (ls : Array Slot), fb_Wd G s σ H locs → lv_has ls 7 [(0, .ref (fb_ad G 48)), (1, .ref (fb_ad G oo)), (2, .int (fb_I x2)), (4, .int (fb_I x4))] → fb_in x2 → fb_in x4 → fb_in s0 → r x2 x4 s0 σ → W p l e rm_X7_basinBeside s m args below meth c H locs 0 0 Qm (F0 m 60 ls [.int (fb_I s0)])
abbrev TT_X7_basinBeside_54 (p : Program) (l : Launch) (e : Env) (s : State) (m : MethodId) (args : Array Value) (below : List Frame) (meth : Method) (c : Code) (Qm : State → Prop) (G : fb_G) (oo : Nat) (r : Int → Int → Int → fb_St → Prop) : Prop := ∀ (x2 x4 x6 : Int) (σ : fb_St) (H : Heap) (locs : List Loc) (ls : Array Slot), fb_Wd G s σ H locs → lv_has ls 7 [(0, .ref (fb_ad G 48)), (1, .ref (fb_ad G oo)), (2, .int (fb_I x2)), (4, .int (fb_I x4)), (6, .int (fb_I x6))] → fb_in x2 → fb_in x4 → fb_in x6 → r x2 x4 x6 σ → W p l e rm_X7_basinBeside s m args below meth c H locs 0 0 Qm (F0 m 54 ls [])
abbrev TT_X7_basinBeside_35 (p : Program) (l : Launch) (e : Env) (s : State) (m : MethodId) (args : Array Value) (below : List Frame) (meth : Method) (c : Code) (Qm : State → Prop) (G : fb_G) (oo : Nat) (r : Int → Int → Int → Int → fb_St → Prop) : Prop := ∀ (x2 x3 x4 s0 : Int) (σ : fb_St) (H : Heap) (locs : List Loc) (ls : Array Slot), fb_Wd G s σ H locs → lv_has ls 7 [(0, .ref (fb_ad G 48)), (1, .ref (fb_ad G oo)), (2, .int (fb_I x2)), (3, .int (fb_I x3)), (4, .int (fb_I x4))] → fb_in x2 → fb_in x3 → fb_in x4 → fb_in s0 → r x2 x3 x4 s0 σ → W p l e rm_X7_basinBeside s m args below meth c H locs 0 0 Qm (F0 m 35 ls [.int (fb_I s0)])
abbrev TT_X7_basinBeside_6 (p : Program) (l : Launch) (e : Env) (s : State) (m : MethodId) (args : Array Value) (below : List Frame) (meth : Method) (c : Code) (Qm : State → Prop) (G : fb_G) (oo : Nat) (r : Int → Int → Int → fb_St → Prop) : Prop := ∀ (x2 x3 x4 : Int) (σ : fb_St) (H : Heap) (locs : List Loc) (ls : Array Slot), fb_Wd G s σ H locs → lv_has ls 7 [(0, .ref (fb_ad G 48)), (1, .ref (fb_ad G oo)), (2, .int (fb_I x2)), (3, .int (fb_I x3)), (4, .int (fb_I x4))] → fb_in x2 → fb_in x3 → fb_in x4 → r x2 x3 x4 σ → W p l e rm_X7_basinBeside s m args below meth c H locs 0 0 Qm (F0 m 6 ls [])
abbrev TT_X7_basinBeside_0 (p : Program) (l : Launch) (e : Env) (s : State) (m : MethodId) (args : Array Value) (below : List Frame) (meth : Method) (c : Code) (Qm : State → Prop) (G : fb_G) (oo : Nat) (r : Int → fb_St → Prop) : Prop := ∀ (x2 : Int) (σ : fb_St) (H : Heap) (locs : List Loc) (ls : Array Slot), fb_Wd G s σ H locs → lv_has ls 7 [(0, .ref (fb_ad G 48)), (1, .ref (fb_ad G oo)), (2, .int (fb_I x2))] → fb_in x2 → r x2 σ → W p l e rm_X7_basinBeside s m args below meth c H locs 0 0 Qm (F0 m 0 ls [])
set_option maxRecDepth 100000 in
set_option maxHeartbeats 4000000 in
theorem tw_X7_basinBeside_61 (hoo : (fb_cl G)[oo]? = some (fb_arI G 144)) (C : fb_C p s m args meth c G RX7 cX7_basinBeside 7) (hret : fb_RI p l e rm_X7_basinBeside s m args below meth c G cX7_basinBeside Qm Q) {r6 : Int → Int → Int → fb_St → Prop} (h6 : TT_X7_basinBeside_6 p l e s m args below meth c Qm G oo r6) : TT_X7_basinBeside_61 p l e s m args below meth c Qm G oo (wj_X7_basinBeside_61 oo r6 Q) := by
  intro x2 x3 x4 σ H locs ls w hl ix2 ix3 ix4 h
  unfold wj_X7_basinBeside_61 at h
  obtain ⟨i10, h⟩ := h
  refine fb_iinc (b := x4 + 1) (k := 4) (lv' := [(4, .int (fb_I (x4 + 1))), (0, .ref (fb_ad G 48)), (1, .ref (fb_ad G oo)), (2, .int (fb_I x2)), (3, .int (fb_I x3))]) C dX7_basinBeside_61 hl rfl rfl (by decide) rfl (fun ls hl => ?_)
  refine lv_goto (tgt := 6) C.1.1 C.1.2.1 dX7_basinBeside_64 (by decide) ?_
  exact h6 x2 x3 (x4 + 1) _ _ _ _ w (lv_sub hl [1, 2, 3, 4, 0] rfl) ix2 ix3 i10 h
set_option maxRecDepth 100000 in
set_option maxHeartbeats 4000000 in
theorem tw_X7_basinBeside_60 (hoo : (fb_cl G)[oo]? = some (fb_arI G 144)) (C : fb_C p s m args meth c G RX7 cX7_basinBeside 7) (hret : fb_RI p l e rm_X7_basinBeside s m args below meth c G cX7_basinBeside Qm Q) {r6 : Int → Int → Int → fb_St → Prop} (h6 : TT_X7_basinBeside_6 p l e s m args below meth c Qm G oo r6) : TT_X7_basinBeside_60 p l e s m args below meth c Qm G oo (wj_X7_basinBeside_60 oo r6 Q) := by
  intro x2 x4 s0 σ H locs ls w hl ix2 ix4 is0 h
  unfold wj_X7_basinBeside_60 at h
  refine lv_istore_n (lv' := [(3, .int (fb_I s0)), (0, .ref (fb_ad G 48)), (1, .ref (fb_ad G oo)), (2, .int (fb_I x2)), (4, .int (fb_I x4))]) C.1.1 C.1.2.1 dX7_basinBeside_60 rfl hl (by decide) rfl (fun ls hl => ?_)
  exact tw_X7_basinBeside_61 hoo C hret h6 x2 s0 x4 _ _ _ _ w (lv_sub hl [1, 2, 3, 0, 4] rfl) ix2 is0 ix4 h
set_option maxRecDepth 100000 in
set_option maxHeartbeats 4000000 in
theorem tw_X7_basinBeside_54 (hoo : (fb_cl G)[oo]? = some (fb_arI G 144)) (C : fb_C p s m args meth c G RX7 cX7_basinBeside 7) (hret : fb_RI p l e rm_X7_basinBeside s m args below meth c G cX7_basinBeside Qm Q) {r6 : Int → Int → Int → fb_St → Prop} (h6 : TT_X7_basinBeside_6 p l e s m args below meth c Qm G oo r6) : TT_X7_basinBeside_54 p l e s m args below meth c Qm G oo (wj_X7_basinBeside_54 oo r6 Q) := by
  intro x2 x4 x6 σ H locs ls w hl ix2 ix4 ix6 h
  unfold wj_X7_basinBeside_54 at h
  refine lv_iload C.1.1 C.1.2.1 dX7_basinBeside_54 (lv_at hl 4 rfl) ?_
  refine lv_goto (tgt := 60) C.1.1 C.1.2.1 dX7_basinBeside_56 (by decide) ?_
  exact tw_X7_basinBeside_60 hoo C hret h6 x2 x4 x6 _ _ _ _ w (lv_sub hl [0, 1, 2, 3] rfl) ix2 ix4 ix6 h
set_option maxRecDepth 100000 in
set_option maxHeartbeats 4000000 in
theorem tw_X7_basinBeside_35 (hoo : (fb_cl G)[oo]? = some (fb_arI G 144)) (C : fb_C p s m args meth c G RX7 cX7_basinBeside 7) (hret : fb_RI p l e rm_X7_basinBeside s m args below meth c G cX7_basinBeside Qm Q) {r6 : Int → Int → Int → fb_St → Prop} (h6 : TT_X7_basinBeside_6 p l e s m args below meth c Qm G oo r6) : TT_X7_basinBeside_35 p l e s m args below meth c Qm G oo (wj_X7_basinBeside_35 oo r6 Q) := by
  intro x2 x3 x4 s0 σ H locs ls w hl ix2 ix3 ix4 is0 h
  unfold wj_X7_basinBeside_35 at h
  refine lv_istore (lv' := [(6, .int (fb_I s0)), (0, .ref (fb_ad G 48)), (1, .ref (fb_ad G oo)), (2, .int (fb_I x2)), (3, .int (fb_I x3)), (4, .int (fb_I x4))]) C.1.1 C.1.2.1 dX7_basinBeside_35 hl (by decide) rfl (fun ls hl => ?_)
  refine lv_iload C.1.1 C.1.2.1 dX7_basinBeside_37 (lv_at hl 0 rfl) ?_
  refine fb_if_le (tgt := 61) C is0 dX7_basinBeside_39 (by decide) (fun c7 => ?_) (fun c7 => ?_)
  · have h := h.2 c7
    exact tw_X7_basinBeside_61 hoo C hret h6 x2 x3 x4 _ _ _ _ w (lv_sub hl [1, 2, 3, 4, 5] rfl) ix2 ix3 ix4 h
  · have h := h.1 c7
    refine lv_iload_n C.1.1 C.1.2.1 dX7_basinBeside_42 rfl (lv_at hl 4 rfl) ?_
    refine fb_bipush C dX7_basinBeside_43 (by decide) ?_
    refine fb_icmp_eq (tgt := 54) C ix3 (by decide) dX7_basinBeside_45 (by decide) (fun c8 => ?_) (fun c8 => ?_)
    · have h := h.1 c8
      exact tw_X7_basinBeside_54 hoo C hret h6 x2 x4 s0 _ _ _ _ w (lv_sub hl [1, 2, 3, 5, 0] rfl) ix2 ix4 is0 h
    · have h := h.2 c8
      refine lv_iload_n C.1.1 C.1.2.1 dX7_basinBeside_48 rfl (lv_at hl 4 rfl) ?_
      refine lv_iload C.1.1 C.1.2.1 dX7_basinBeside_49 (lv_at hl 0 rfl) ?_
      refine fb_icmp_ne (tgt := 59) C ix3 is0 dX7_basinBeside_51 (by decide) (fun c9 => ?_) (fun c9 => ?_)
      · have h := h.2 c9
        refine fb_iconst C dX7_basinBeside_59 ?_
        exact tw_X7_basinBeside_60 hoo C hret h6 x2 x4 0 _ _ _ _ w (lv_sub hl [1, 2, 3, 5] rfl) ix2 ix4 (by decide) h
      · have h := h.1 c9
        exact tw_X7_basinBeside_54 hoo C hret h6 x2 x4 s0 _ _ _ _ w (lv_sub hl [1, 2, 3, 5, 0] rfl) ix2 ix4 is0 h
set_option maxRecDepth 100000 in
set_option maxHeartbeats 4000000 in
theorem tw_X7_basinBeside_6 (hoo : (fb_cl G)[oo]? = some (fb_arI G 144)) (C : fb_C p s m args meth c G RX7 cX7_basinBeside 7) (hret : fb_RI p l e rm_X7_basinBeside s m args below meth c G cX7_basinBeside Qm Q) {r6 : Int → Int → Int → fb_St → Prop} (h6 : TT_X7_basinBeside_6 p l e s m args below meth c Qm G oo r6) : TT_X7_basinBeside_6 p l e s m args below meth c Qm G oo (wb_X7_basinBeside_6 oo r6 Q) := by
  intro x2 x3 x4 σ H locs ls w hl ix2 ix3 ix4 h
  unfold wb_X7_basinBeside_6 at h
  refine lv_iload C.1.1 C.1.2.1 dX7_basinBeside_6 (lv_at hl 4 rfl) ?_
  refine fb_iconst C dX7_basinBeside_8 ?_
  refine fb_icmp_ge (tgt := 67) C ix4 (by decide) dX7_basinBeside_9 (by decide) (fun c1 => ?_) (fun c1 => ?_)
  · have h := h.2 c1
    refine lv_iload_n C.1.1 C.1.2.1 dX7_basinBeside_67 rfl (lv_at hl 3 rfl) ?_
    exact hret _ _ _ _ _ _ ix3 h w dX7_basinBeside_68
  · have h := h.1 c1
    refine lv_aload_n C.1.1 C.1.2.1 dX7_basinBeside_12 rfl (lv_at hl 0 rfl) ?_
    refine lv_iload_n C.1.1 C.1.2.1 dX7_basinBeside_13 rfl (lv_at hl 2 rfl) ?_
    refine lv_iload C.1.1 C.1.2.1 dX7_basinBeside_14 (lv_at hl 4 rfl) ?_
    refine fb_callVi (As := [.int (fb_I x2), .int (fb_I x4)]) (rest := []) C w (ct_X7_beside l G ix2 ix4 h) mv_X7_77 (fb_k48 C) rfl ⟨rfl, rfl, Nat.le_of_ble_eq_true rfl, Nat.le_of_ble_eq_true rfl, Nat.zero_le _, Nat.zero_le _⟩ rfl hl.1 rfl (Nat.le_of_ble_eq_true rfl) dX7_basinBeside_16 (fun a2 σ2 H locs h ia2 w => ?_)
    refine lv_istore (lv' := [(5, .int (fb_I a2)), (0, .ref (fb_ad G 48)), (1, .ref (fb_ad G oo)), (2, .int (fb_I x2)), (3, .int (fb_I x3)), (4, .int (fb_I x4))]) C.1.1 C.1.2.1 dX7_basinBeside_19 hl (by decide) rfl (fun ls hl => ?_)
    refine lv_iload C.1.1 C.1.2.1 dX7_basinBeside_21 (lv_at hl 0 rfl) ?_
    refine fb_if_ge (tgt := 31) C ia2 dX7_basinBeside_23 (by decide) (fun c3 => ?_) (fun c3 => ?_)
    · have h := h.2 c3
      refine lv_aload_n C.1.1 C.1.2.1 dX7_basinBeside_31 rfl (lv_at hl 2 rfl) ?_
      refine lv_iload C.1.1 C.1.2.1 dX7_basinBeside_32 (lv_at hl 0 rfl) ?_
      obtain ⟨z4, z5, h⟩ := h
      refine fb_al C w 144 hoo rfl rfl z4 z5 dX7_basinBeside_34 ?_
      have i6 := w.2.2.2 oo a2
      exact tw_X7_basinBeside_35 hoo C hret h6 x2 x3 x4 (σ2 oo a2) _ _ _ _ w (lv_sub hl [1, 2, 3, 4, 5] rfl) ix2 ix3 ix4 i6 h
    · have h := h.1 c3
      refine fb_bipush C dX7_basinBeside_26 (by decide) ?_
      refine lv_goto (tgt := 35) C.1.1 C.1.2.1 dX7_basinBeside_28 (by decide) ?_
      exact tw_X7_basinBeside_35 hoo C hret h6 x2 x3 x4 (-6) _ _ _ _ w (lv_sub hl [1, 2, 3, 4, 5] rfl) ix2 ix3 ix4 (by decide) h
theorem tl_X7_basinBeside_6 (hoo : (fb_cl G)[oo]? = some (fb_arI G 144)) (C : fb_C p s m args meth c G RX7 cX7_basinBeside 7) (hret : fb_RI p l e rm_X7_basinBeside s m args below meth c G cX7_basinBeside Qm Q) : ∀ n : Nat, TT_X7_basinBeside_6 p l e s m args below meth c Qm G oo (wl_X7_basinBeside_6 oo Q n) := by
  intro n
  induction n with
  | zero => intro x2 x3 x4 σ H locs ls w hl ix2 ix3 ix4 h; exact h.elim
  | succ n ih => exact tw_X7_basinBeside_6 hoo C hret ih
set_option maxRecDepth 100000 in
set_option maxHeartbeats 4000000 in
theorem tw_X7_basinBeside_0 (hoo : (fb_cl G)[oo]? = some (fb_arI G 144)) (C : fb_C p s m args meth c G RX7 cX7_basinBeside 7) (hret : fb_RI p l e rm_X7_basinBeside s m args below meth c G cX7_basinBeside Qm Q) : TT_X7_basinBeside_0 p l e s m args below meth c Qm G oo (fun x2 σ => wp_X7_basinBeside oo x2 σ Q) := by
  intro x2 σ H locs ls w hl ix2 h
  unfold wp_X7_basinBeside at h
  refine fb_bipush C dX7_basinBeside_0 (by decide) ?_
  refine lv_istore_n (lv' := [(3, .int (fb_I (-6))), (0, .ref (fb_ad G 48)), (1, .ref (fb_ad G oo)), (2, .int (fb_I x2))]) C.1.1 C.1.2.1 dX7_basinBeside_2 rfl hl (by decide) rfl (fun ls hl => ?_)
  refine fb_iconst C dX7_basinBeside_3 ?_
  refine lv_istore (lv' := [(4, .int (fb_I 0)), (3, .int (fb_I (-6))), (0, .ref (fb_ad G 48)), (1, .ref (fb_ad G oo)), (2, .int (fb_I x2))]) C.1.1 C.1.2.1 dX7_basinBeside_4 hl (by decide) rfl (fun ls hl => ?_)
  obtain ⟨n, h⟩ := h
  exact tl_X7_basinBeside_6 hoo C hret n x2 (-6) 0 _ _ _ _ w (lv_sub hl [2, 3, 4, 1, 0] rfl) ix2 (by decide) (by decide) h
theorem ct_X7_basinBeside (l : Launch) (G : fb_G) (hoo : (fb_cl G)[oo]? = some (fb_arI G 144)) {x2 : Int} {σ : fb_St} (ix2 : fb_in x2) (h : wp_X7_basinBeside oo x2 σ Q) : fb_MI l G yX7_basinBeside cX7_basinBeside 7 (some .int) rm_X7_basinBeside [.ref (fb_ad G 48), .ref (fb_ad G oo), .int (fb_I x2)] σ Q := by
  refine fb_ofW (own := RX7) (by decide) (Nat.le_of_ble_eq_true rfl) rfl (fun p e s m args below meth c ls C hr hl w => ?_)
  exact tw_X7_basinBeside_0 hoo C (fb_reti C hr) _ _ _ _ _ w hl ix2 h
end S_X7_basinBeside
section S_X7_flood
variable {p : Program} {l : Launch} {e : Env} {s : State} {m : MethodId} {args : Array Value} {below : List Frame} {meth : Method} {c : Code} {Qm : State → Prop} {G : fb_G} {Q : Int → fb_St → Prop}
abbrev TT_X7_flood_102 (p : Program) (l : Launch) (e : Env) (s : State) (m : MethodId) (args : Array Value) (below : List Frame) (meth : Method) (c : Code) (Qm : State → Prop) (G : fb_G) (r : Int → Int → Int → fb_St → Prop) : Prop := ∀ (x1 s0 s1 : Int) (σ : fb_St) (H : Heap) (locs : List Loc) (ls : Array Slot), fb_Wd G s σ H locs → lv_has ls 4 [(0, .ref (fb_ad G 48)), (1, .int (fb_I x1))] → fb_in x1 → fb_in s0 → fb_in s1 → r x1 s0 s1 σ → W p l e rm_X7_flood s m args below meth c H locs 0 0 Qm (F0 m 102 ls [.int (fb_I s0), .int (fb_I s1), .ref (fb_ad G 57)])
abbrev TT_X7_flood_86 (p : Program) (l : Launch) (e : Env) (s : State) (m : MethodId) (args : Array Value) (below : List Frame) (meth : Method) (c : Code) (Qm : State → Prop) (G : fb_G) (r : Int → Int → Int → Int → fb_St → Prop) : Prop := ∀ (x1 x2 s0 s1 : Int) (σ : fb_St) (H : Heap) (locs : List Loc) (ls : Array Slot), fb_Wd G s σ H locs → lv_has ls 4 [(0, .ref (fb_ad G 48)), (1, .int (fb_I x1)), (2, .int (fb_I x2))] → fb_in x1 → fb_in x2 → fb_in s0 → fb_in s1 → r x1 x2 s0 s1 σ → W p l e rm_X7_flood s m args below meth c H locs 0 0 Qm (F0 m 86 ls [.int (fb_I s0), .int (fb_I s1), .ref (fb_ad G 56)])
abbrev TT_X7_flood_65 (p : Program) (l : Launch) (e : Env) (s : State) (m : MethodId) (args : Array Value) (below : List Frame) (meth : Method) (c : Code) (Qm : State → Prop) (G : fb_G) (r : Int → Int → Int → Int → fb_St → Prop) : Prop := ∀ (x1 x2 s0 s1 : Int) (σ : fb_St) (H : Heap) (locs : List Loc) (ls : Array Slot), fb_Wd G s σ H locs → lv_has ls 4 [(0, .ref (fb_ad G 48)), (1, .int (fb_I x1)), (2, .int (fb_I x2))] → fb_in x1 → fb_in x2 → fb_in s0 → fb_in s1 → r x1 x2 s0 s1 σ → W p l e rm_X7_flood s m args below meth c H locs 0 0 Qm (F0 m 65 ls [.int (fb_I s0), .int (fb_I s1), .ref (fb_ad G 55)])
abbrev TT_X7_flood_40 (p : Program) (l : Launch) (e : Env) (s : State) (m : MethodId) (args : Array Value) (below : List Frame) (meth : Method) (c : Code) (Qm : State → Prop) (G : fb_G) (r : Int → Int → fb_St → Prop) : Prop := ∀ (x1 s0 : Int) (σ : fb_St) (H : Heap) (locs : List Loc) (ls : Array Slot), fb_Wd G s σ H locs → lv_has ls 4 [(0, .ref (fb_ad G 48)), (1, .int (fb_I x1))] → fb_in x1 → fb_in s0 → r x1 s0 σ → W p l e rm_X7_flood s m args below meth c H locs 0 0 Qm (F0 m 40 ls [.int (fb_I s0)])
abbrev TT_X7_flood_39 (p : Program) (l : Launch) (e : Env) (s : State) (m : MethodId) (args : Array Value) (below : List Frame) (meth : Method) (c : Code) (Qm : State → Prop) (G : fb_G) (r : Int → fb_St → Prop) : Prop := ∀ (x1 : Int) (σ : fb_St) (H : Heap) (locs : List Loc) (ls : Array Slot), fb_Wd G s σ H locs → lv_has ls 4 [(0, .ref (fb_ad G 48)), (1, .int (fb_I x1))] → fb_in x1 → r x1 σ → W p l e rm_X7_flood s m args below meth c H locs 0 0 Qm (F0 m 39 ls [])
abbrev TT_X7_flood_137 (p : Program) (l : Launch) (e : Env) (s : State) (m : MethodId) (args : Array Value) (below : List Frame) (meth : Method) (c : Code) (Qm : State → Prop) (G : fb_G) (r : Int → fb_St → Prop) : Prop := ∀ (x1 : Int) (σ : fb_St) (H : Heap) (locs : List Loc) (ls : Array Slot), fb_Wd G s σ H locs → lv_has ls 4 [(0, .ref (fb_ad G 48)), (1, .int (fb_I x1))] → fb_in x1 → r x1 σ → W p l e rm_X7_flood s m args below meth c H locs 0 0 Qm (F0 m 137 ls [])
abbrev TT_X7_flood_207 (p : Program) (l : Launch) (e : Env) (s : State) (m : MethodId) (args : Array Value) (below : List Frame) (meth : Method) (c : Code) (Qm : State → Prop) (G : fb_G) (r : Int → fb_St → Prop) : Prop := ∀ (x2 : Int) (σ : fb_St) (H : Heap) (locs : List Loc) (ls : Array Slot), fb_Wd G s σ H locs → lv_has ls 4 [(0, .ref (fb_ad G 48)), (2, .int (fb_I x2))] → fb_in x2 → r x2 σ → W p l e rm_X7_flood s m args below meth c H locs 0 0 Qm (F0 m 207 ls [])
abbrev TT_X7_flood_150 (p : Program) (l : Launch) (e : Env) (s : State) (m : MethodId) (args : Array Value) (below : List Frame) (meth : Method) (c : Code) (Qm : State → Prop) (G : fb_G) (r : Int → Int → fb_St → Prop) : Prop := ∀ (x1 x2 : Int) (σ : fb_St) (H : Heap) (locs : List Loc) (ls : Array Slot), fb_Wd G s σ H locs → lv_has ls 4 [(0, .ref (fb_ad G 48)), (1, .int (fb_I x1)), (2, .int (fb_I x2))] → fb_in x1 → fb_in x2 → r x1 x2 σ → W p l e rm_X7_flood s m args below meth c H locs 0 0 Qm (F0 m 150 ls [])
abbrev TT_X7_flood_111 (p : Program) (l : Launch) (e : Env) (s : State) (m : MethodId) (args : Array Value) (below : List Frame) (meth : Method) (c : Code) (Qm : State → Prop) (G : fb_G) (r : Int → fb_St → Prop) : Prop := ∀ (x1 : Int) (σ : fb_St) (H : Heap) (locs : List Loc) (ls : Array Slot), fb_Wd G s σ H locs → lv_has ls 4 [(0, .ref (fb_ad G 48)), (1, .int (fb_I x1))] → fb_in x1 → r x1 σ → W p l e rm_X7_flood s m args below meth c H locs 0 0 Qm (F0 m 111 ls [])
abbrev TT_X7_flood_7 (p : Program) (l : Launch) (e : Env) (s : State) (m : MethodId) (args : Array Value) (below : List Frame) (meth : Method) (c : Code) (Qm : State → Prop) (G : fb_G) (r : Int → fb_St → Prop) : Prop := ∀ (x1 : Int) (σ : fb_St) (H : Heap) (locs : List Loc) (ls : Array Slot), fb_Wd G s σ H locs → lv_has ls 4 [(0, .ref (fb_ad G 48)), (1, .int (fb_I x1))] → fb_in x1 → r x1 σ → W p l e rm_X7_flood s m args below meth c H locs 0 0 Qm (F0 m 7 ls [])
abbrev TT_X7_flood_0 (p : Program) (l : Launch) (e : Env) (s : State) (m : MethodId) (args : Array Value) (below : List Frame) (meth : Method) (c : Code) (Qm : State → Prop) (G : fb_G) (r : fb_St → Prop) : Prop := ∀ (σ : fb_St) (H : Heap) (locs : List Loc) (ls : Array Slot), fb_Wd G s σ H locs → lv_has ls 4 [(0, .ref (fb_ad G 48))] → r σ → W p l e rm_X7_flood s m args below meth c H locs 0 0 Qm (F0 m 0 ls [])
set_option maxRecDepth 100000 in
set_option maxHeartbeats 4000000 in
theorem tw_X7_flood_102 (C : fb_C p s m args meth c G RX7 cX7_flood 4) (hret : fb_RV p l e rm_X7_flood s m args below meth c G cX7_flood Qm Q) {r7 : Int → fb_St → Prop} (h7 : TT_X7_flood_7 p l e s m args below meth c Qm G r7) : TT_X7_flood_102 p l e s m args below meth c Qm G (wj_X7_flood_102 r7 Q) := by
  intro x1 s0 s1 σ H locs ls w hl ix1 is0 is1 h
  unfold wj_X7_flood_102 at h
  obtain ⟨z58, z59, h⟩ := h
  refine fb_as C w 144 (fb_k57 C) rfl rfl is0 z58 z59 dX7_flood_102 (fun σ60 H locs eσ60 w => ?_)
  have h := h σ60 eσ60
  obtain ⟨i61, h⟩ := h
  refine fb_iinc (b := x1 + 1) (k := 1) (lv' := [(1, .int (fb_I (x1 + 1))), (0, .ref (fb_ad G 48))]) C dX7_flood_103 hl rfl rfl (by decide) rfl (fun ls hl => ?_)
  refine lv_goto (tgt := 7) C.1.1 C.1.2.1 dX7_flood_106 (by decide) ?_
  exact h7 (x1 + 1) _ _ _ _ w (lv_sub hl [1, 0] rfl) i61 h
set_option maxRecDepth 100000 in
set_option maxHeartbeats 4000000 in
theorem tw_X7_flood_86 (C : fb_C p s m args meth c G RX7 cX7_flood 4) (hret : fb_RV p l e rm_X7_flood s m args below meth c G cX7_flood Qm Q) {r7 : Int → fb_St → Prop} (h7 : TT_X7_flood_7 p l e s m args below meth c Qm G r7) : TT_X7_flood_86 p l e s m args below meth c Qm G (wj_X7_flood_86 r7 Q) := by
  intro x1 x2 s0 s1 σ H locs ls w hl ix1 ix2 is0 is1 h
  unfold wj_X7_flood_86 at h
  obtain ⟨z54, z55, h⟩ := h
  refine fb_as C w 144 (fb_k56 C) rfl rfl is0 z54 z55 dX7_flood_86 (fun σ56 H locs eσ56 w => ?_)
  have h := h σ56 eσ56
  refine lv_aload_n C.1.1 C.1.2.1 dX7_flood_87 rfl (lv_at hl 0 rfl) ?_
  refine fb_getr (k2 := 57) C w (fb_k48 C) rfl fl_X7_35 dX7_flood_88 ?_
  refine lv_iload_n C.1.1 C.1.2.1 dX7_flood_91 rfl (lv_at hl 1 rfl) ?_
  refine lv_iload_n C.1.1 C.1.2.1 dX7_flood_92 rfl (lv_at hl 2 rfl) ?_
  refine fb_if_eq (tgt := 100) C ix2 dX7_flood_93 (by decide) (fun c57 => ?_) (fun c57 => ?_)
  · have h := h.1 c57
    refine fb_bipush C dX7_flood_100 (by decide) ?_
    exact tw_X7_flood_102 C hret h7 x1 (-6) x1 _ _ _ _ w (lv_sub hl [0, 1] rfl) ix1 (by decide) ix1 h
  · have h := h.2 c57
    refine fb_iconst C dX7_flood_96 ?_
    refine lv_goto (tgt := 102) C.1.1 C.1.2.1 dX7_flood_97 (by decide) ?_
    exact tw_X7_flood_102 C hret h7 x1 0 x1 _ _ _ _ w (lv_sub hl [0, 1] rfl) ix1 (by decide) ix1 h
set_option maxRecDepth 100000 in
set_option maxHeartbeats 4000000 in
theorem tw_X7_flood_65 (C : fb_C p s m args meth c G RX7 cX7_flood 4) (hret : fb_RV p l e rm_X7_flood s m args below meth c G cX7_flood Qm Q) {r7 : Int → fb_St → Prop} (h7 : TT_X7_flood_7 p l e s m args below meth c Qm G r7) : TT_X7_flood_65 p l e s m args below meth c Qm G (wj_X7_flood_65 r7 Q) := by
  intro x1 x2 s0 s1 σ H locs ls w hl ix1 ix2 is0 is1 h
  unfold wj_X7_flood_65 at h
  obtain ⟨z46, z47, h⟩ := h
  refine fb_as C w 144 (fb_k55 C) rfl rfl is0 z46 z47 dX7_flood_65 (fun σ48 H locs eσ48 w => ?_)
  have h := h σ48 eσ48
  refine lv_aload_n C.1.1 C.1.2.1 dX7_flood_66 rfl (lv_at hl 0 rfl) ?_
  refine fb_getr (k2 := 56) C w (fb_k48 C) rfl fl_X7_32 dX7_flood_67 ?_
  refine lv_iload_n C.1.1 C.1.2.1 dX7_flood_70 rfl (lv_at hl 1 rfl) ?_
  refine lv_iload_n C.1.1 C.1.2.1 dX7_flood_71 rfl (lv_at hl 2 rfl) ?_
  refine fb_if_eq (tgt := 84) C ix2 dX7_flood_72 (by decide) (fun c49 => ?_) (fun c49 => ?_)
  · have h := h.1 c49
    refine fb_bipush C dX7_flood_84 (by decide) ?_
    exact tw_X7_flood_86 C hret h7 x1 x2 (-6) x1 _ _ _ _ w (lv_sub hl [0, 1, 2] rfl) ix1 ix2 (by decide) ix1 h
  · have h := h.2 c49
    refine lv_aload_n C.1.1 C.1.2.1 dX7_flood_75 rfl (lv_at hl 0 rfl) ?_
    refine fb_getr (k2 := 49) C w (fb_k48 C) rfl fl_X7_7 dX7_flood_76 ?_
    refine lv_iload_n C.1.1 C.1.2.1 dX7_flood_79 rfl (lv_at hl 1 rfl) ?_
    obtain ⟨z50, z51, h⟩ := h
    refine fb_al C w 292 (fb_k49 C) rfl rfl z50 z51 dX7_flood_80 ?_
    have i52 := w.2.2.2 49 x1
    refine lv_goto (tgt := 86) C.1.1 C.1.2.1 dX7_flood_81 (by decide) ?_
    exact tw_X7_flood_86 C hret h7 x1 x2 (σ48 49 x1) x1 _ _ _ _ w (lv_sub hl [0, 1, 2] rfl) ix1 ix2 i52 ix1 h
set_option maxRecDepth 100000 in
set_option maxHeartbeats 4000000 in
theorem tw_X7_flood_40 (C : fb_C p s m args meth c G RX7 cX7_flood 4) (hret : fb_RV p l e rm_X7_flood s m args below meth c G cX7_flood Qm Q) {r7 : Int → fb_St → Prop} (h7 : TT_X7_flood_7 p l e s m args below meth c Qm G r7) : TT_X7_flood_40 p l e s m args below meth c Qm G (wj_X7_flood_40 r7 Q) := by
  intro x1 s0 σ H locs ls w hl ix1 is0 h
  unfold wj_X7_flood_40 at h
  refine lv_istore_n (lv' := [(2, .int (fb_I s0)), (0, .ref (fb_ad G 48)), (1, .int (fb_I x1))]) C.1.1 C.1.2.1 dX7_flood_40 rfl hl (by decide) rfl (fun ls hl => ?_)
  refine lv_aload_n C.1.1 C.1.2.1 dX7_flood_41 rfl (lv_at hl 1 rfl) ?_
  refine fb_getr (k2 := 55) C w (fb_k48 C) rfl fl_X7_29 dX7_flood_42 ?_
  refine lv_iload_n C.1.1 C.1.2.1 dX7_flood_45 rfl (lv_at hl 2 rfl) ?_
  refine lv_iload_n C.1.1 C.1.2.1 dX7_flood_46 rfl (lv_at hl 0 rfl) ?_
  refine fb_if_eq (tgt := 63) C is0 dX7_flood_47 (by decide) (fun c19 => ?_) (fun c19 => ?_)
  · have h := h.1 c19
    refine fb_bipush C dX7_flood_63 (by decide) ?_
    exact tw_X7_flood_65 C hret h7 x1 s0 (-6) x1 _ _ _ _ w (lv_sub hl [1, 2, 0] rfl) ix1 is0 (by decide) ix1 h
  · have h := h.2 c19
    refine lv_aload_n C.1.1 C.1.2.1 dX7_flood_50 rfl (lv_at hl 1 rfl) ?_
    refine fb_getr (k2 := 49) C w (fb_k48 C) rfl fl_X7_7 dX7_flood_51 ?_
    refine fb_sipush C dX7_flood_54 (by decide) ?_
    refine lv_iload_n C.1.1 C.1.2.1 dX7_flood_57 rfl (lv_at hl 2 rfl) ?_
    obtain ⟨i20, h⟩ := h
    refine fb_iadd C dX7_flood_58 ?_
    obtain ⟨z21, z22, h⟩ := h
    refine fb_al C w 292 (fb_k49 C) rfl rfl z21 z22 dX7_flood_59 ?_
    have i23 := w.2.2.2 49 (144 + x1)
    refine lv_goto (tgt := 65) C.1.1 C.1.2.1 dX7_flood_60 (by decide) ?_
    exact tw_X7_flood_65 C hret h7 x1 s0 (σ 49 (144 + x1)) x1 _ _ _ _ w (lv_sub hl [1, 2, 0] rfl) ix1 is0 i23 ix1 h
set_option maxRecDepth 100000 in
set_option maxHeartbeats 4000000 in
theorem tw_X7_flood_39 (C : fb_C p s m args meth c G RX7 cX7_flood 4) (hret : fb_RV p l e rm_X7_flood s m args below meth c G cX7_flood Qm Q) {r7 : Int → fb_St → Prop} (h7 : TT_X7_flood_7 p l e s m args below meth c Qm G r7) : TT_X7_flood_39 p l e s m args below meth c Qm G (wj_X7_flood_39 r7 Q) := by
  intro x1 σ H locs ls w hl ix1 h
  unfold wj_X7_flood_39 at h
  refine fb_iconst C dX7_flood_39 ?_
  exact tw_X7_flood_40 C hret h7 x1 0 _ _ _ _ w (lv_sub hl [0, 1] rfl) ix1 (by decide) h
set_option maxRecDepth 100000 in
set_option maxHeartbeats 4000000 in
theorem tw_X7_flood_137 (C : fb_C p s m args meth c G RX7 cX7_flood 4) (hret : fb_RV p l e rm_X7_flood s m args below meth c G cX7_flood Qm Q) {r111 : Int → fb_St → Prop} (h111 : TT_X7_flood_111 p l e s m args below meth c Qm G r111) : TT_X7_flood_137 p l e s m args below meth c Qm G (wj_X7_flood_137 r111 Q) := by
  intro x1 σ H locs ls w hl ix1 h
  unfold wj_X7_flood_137 at h
  obtain ⟨i45, h⟩ := h
  refine fb_iinc (b := x1 + 1) (k := 1) (lv' := [(1, .int (fb_I (x1 + 1))), (0, .ref (fb_ad G 48))]) C dX7_flood_137 hl rfl rfl (by decide) rfl (fun ls hl => ?_)
  refine lv_goto (tgt := 111) C.1.1 C.1.2.1 dX7_flood_140 (by decide) ?_
  exact h111 (x1 + 1) _ _ _ _ w (lv_sub hl [1, 0] rfl) i45 h
set_option maxRecDepth 100000 in
set_option maxHeartbeats 4000000 in
theorem tw_X7_flood_207 (C : fb_C p s m args meth c G RX7 cX7_flood 4) (hret : fb_RV p l e rm_X7_flood s m args below meth c G cX7_flood Qm Q) {r150 : Int → Int → fb_St → Prop} (h150 : TT_X7_flood_150 p l e s m args below meth c Qm G r150) : TT_X7_flood_207 p l e s m args below meth c Qm G (wj_X7_flood_207 r150 Q) := by
  intro x2 σ H locs ls w hl ix2 h
  unfold wj_X7_flood_207 at h
  refine lv_aload_n C.1.1 C.1.2.1 dX7_flood_207 rfl (lv_at hl 0 rfl) ?_
  refine fb_callVi (As := []) (rest := []) C w (ct_X7_first l G h) mv_X7_109 (fb_k48 C) rfl ⟨rfl, rfl, Nat.le_of_ble_eq_true rfl, Nat.le_of_ble_eq_true rfl, Nat.zero_le _, Nat.zero_le _⟩ rfl hl.1 rfl (Nat.le_of_ble_eq_true rfl) dX7_flood_208 (fun a53 σ53 H locs h ia53 w => ?_)
  refine lv_istore_n (lv' := [(1, .int (fb_I a53)), (0, .ref (fb_ad G 48)), (2, .int (fb_I x2))]) C.1.1 C.1.2.1 dX7_flood_211 rfl hl (by decide) rfl (fun ls hl => ?_)
  refine lv_goto (tgt := 150) C.1.1 C.1.2.1 dX7_flood_212 (by decide) ?_
  exact h150 a53 x2 _ _ _ _ w (lv_sub hl [1, 0, 2] rfl) ia53 ix2 h
set_option maxRecDepth 100000 in
set_option maxHeartbeats 4000000 in
theorem tw_X7_flood_150 (C : fb_C p s m args meth c G RX7 cX7_flood 4) (hret : fb_RV p l e rm_X7_flood s m args below meth c G cX7_flood Qm Q) {r150 : Int → Int → fb_St → Prop} (h150 : TT_X7_flood_150 p l e s m args below meth c Qm G r150) : TT_X7_flood_150 p l e s m args below meth c Qm G (wb_X7_flood_150 r150 Q) := by
  intro x1 x2 σ H locs ls w hl ix1 ix2 h
  unfold wb_X7_flood_150 at h
  refine lv_iload_n C.1.1 C.1.2.1 dX7_flood_150 rfl (lv_at hl 1 rfl) ?_
  refine fb_if_lt (tgt := 215) C ix1 dX7_flood_151 (by decide) (fun c24 => ?_) (fun c24 => ?_)
  · have h := h.1 c24
    exact hret _ _ _ _ _ h w dX7_flood_215
  · have h := h.2 c24
    refine lv_aload_n C.1.1 C.1.2.1 dX7_flood_154 rfl (lv_at hl 0 rfl) ?_
    refine fb_getr (k2 := 59) C w (fb_k48 C) rfl fl_X7_41 dX7_flood_155 ?_
    refine lv_iload_n C.1.1 C.1.2.1 dX7_flood_158 rfl (lv_at hl 1 rfl) ?_
    refine fb_iconst C dX7_flood_159 ?_
    obtain ⟨z25, z26, h⟩ := h
    refine fb_zs C w 144 (fb_k59 C) rfl rfl (by decide) (by decide) z25 z26 dX7_flood_160 (fun σ27 H locs eσ27 w => ?_)
    have h := h σ27 eσ27
    obtain ⟨i28, h⟩ := h
    refine fb_iinc (b := x2 + 1) (k := 2) (lv' := [(2, .int (fb_I (x2 + 1))), (0, .ref (fb_ad G 48)), (1, .int (fb_I x1))]) C dX7_flood_161 hl rfl rfl (by decide) rfl (fun ls hl => ?_)
    refine lv_aload_n C.1.1 C.1.2.1 dX7_flood_164 rfl (lv_at hl 1 rfl) ?_
    refine fb_getr (k2 := 58) C w (fb_k48 C) rfl fl_X7_38 dX7_flood_165 ?_
    refine lv_iload_n C.1.1 C.1.2.1 dX7_flood_168 rfl (lv_at hl 2 rfl) ?_
    obtain ⟨z29, z30, h⟩ := h
    refine fb_al C w 144 (fb_k58 C) rfl rfl z29 z30 dX7_flood_169 ?_
    have i31 := w.2.2.2 58 x1
    refine fb_top (fun v32 ev32 => ?_)
    have h := h v32 ev32
    have iv32 := fb_ie ev32 i31
    refine lv_istore_n (lv' := [(3, .int (fb_I v32)), (2, .int (fb_I (x2 + 1))), (0, .ref (fb_ad G 48)), (1, .int (fb_I x1))]) C.1.1 C.1.2.1 dX7_flood_170 rfl hl (by decide) rfl (fun ls hl => ?_)
    refine lv_aload_n C.1.1 C.1.2.1 dX7_flood_171 rfl (lv_at hl 2 rfl) ?_
    refine fb_getr (k2 := 57) C w (fb_k48 C) rfl fl_X7_35 dX7_flood_172 ?_
    refine lv_iload_n C.1.1 C.1.2.1 dX7_flood_175 rfl (lv_at hl 0 rfl) ?_
    refine lv_iload_n C.1.1 C.1.2.1 dX7_flood_176 rfl (lv_at hl 1 rfl) ?_
    obtain ⟨z33, z34, h⟩ := h
    refine fb_as C w 144 (fb_k57 C) rfl rfl i28 z33 z34 dX7_flood_177 (fun σ35 H locs eσ35 w => ?_)
    have h := h σ35 eσ35
    refine lv_aload_n C.1.1 C.1.2.1 dX7_flood_178 rfl (lv_at hl 2 rfl) ?_
    refine fb_getr (k2 := 55) C w (fb_k48 C) rfl fl_X7_29 dX7_flood_179 ?_
    refine lv_iload_n C.1.1 C.1.2.1 dX7_flood_182 rfl (lv_at hl 0 rfl) ?_
    refine lv_aload_n C.1.1 C.1.2.1 dX7_flood_183 rfl (lv_at hl 2 rfl) ?_
    refine lv_aload_n C.1.1 C.1.2.1 dX7_flood_184 rfl (lv_at hl 2 rfl) ?_
    refine fb_getr (k2 := 55) C w (fb_k48 C) rfl fl_X7_29 dX7_flood_185 ?_
    refine lv_iload_n C.1.1 C.1.2.1 dX7_flood_188 rfl (lv_at hl 0 rfl) ?_
    refine fb_callVi (As := [.ref (fb_ad G 55), .int (fb_I v32)]) (rest := [.int (fb_I v32), .ref (fb_ad G 55)]) C w (ct_X7_basinBeside l G (fb_k55 C) iv32 h) mv_X7_112 (fb_k48 C) rfl ⟨rfl, rfl, Nat.le_of_ble_eq_true rfl, Nat.le_of_ble_eq_true rfl, Nat.zero_le _, Nat.zero_le _⟩ rfl hl.1 rfl (Nat.le_of_ble_eq_true rfl) dX7_flood_189 (fun a36 σ36 H locs h ia36 w => ?_)
    obtain ⟨z37, z38, h⟩ := h
    refine fb_as C w 144 (fb_k55 C) rfl rfl ia36 z37 z38 dX7_flood_192 (fun σ39 H locs eσ39 w => ?_)
    have h := h σ39 eσ39
    refine lv_aload_n C.1.1 C.1.2.1 dX7_flood_193 rfl (lv_at hl 2 rfl) ?_
    refine fb_getr (k2 := 55) C w (fb_k48 C) rfl fl_X7_29 dX7_flood_194 ?_
    refine lv_iload_n C.1.1 C.1.2.1 dX7_flood_197 rfl (lv_at hl 0 rfl) ?_
    obtain ⟨z40, z41, h⟩ := h
    refine fb_al C w 144 (fb_k55 C) rfl rfl z40 z41 dX7_flood_198 ?_
    have i42 := w.2.2.2 55 v32
    refine fb_if_le (tgt := 207) C i42 dX7_flood_199 (by decide) (fun c43 => ?_) (fun c43 => ?_)
    · have h := h.2 c43
      exact tw_X7_flood_207 C hret h150 (x2 + 1) _ _ _ _ w (lv_sub hl [2, 1] rfl) i28 h
    · have h := h.1 c43
      refine lv_aload_n C.1.1 C.1.2.1 dX7_flood_202 rfl (lv_at hl 2 rfl) ?_
      refine lv_iload_n C.1.1 C.1.2.1 dX7_flood_203 rfl (lv_at hl 0 rfl) ?_
      refine fb_callVv (As := [.int (fb_I v32)]) (rest := []) C w (ct_X7_spill l G iv32 h) mv_X7_105 (fb_k48 C) rfl ⟨rfl, rfl, Nat.le_of_ble_eq_true rfl, Nat.le_of_ble_eq_true rfl, Nat.zero_le _, Nat.zero_le _⟩ rfl hl.1 rfl (Nat.le_of_ble_eq_true rfl) dX7_flood_204 (fun σ44 H locs h w => ?_)
      exact tw_X7_flood_207 C hret h150 (x2 + 1) _ _ _ _ w (lv_sub hl [2, 1] rfl) i28 h
theorem tl_X7_flood_150 (C : fb_C p s m args meth c G RX7 cX7_flood 4) (hret : fb_RV p l e rm_X7_flood s m args below meth c G cX7_flood Qm Q) : ∀ n : Nat, TT_X7_flood_150 p l e s m args below meth c Qm G (wl_X7_flood_150 Q n) := by
  intro n
  induction n with
  | zero => intro x1 x2 σ H locs ls w hl ix1 ix2 h; exact h.elim
  | succ n ih => exact tw_X7_flood_150 C hret ih
set_option maxRecDepth 100000 in
set_option maxHeartbeats 4000000 in
theorem tw_X7_flood_111 (C : fb_C p s m args meth c G RX7 cX7_flood 4) (hret : fb_RV p l e rm_X7_flood s m args below meth c G cX7_flood Qm Q) {r111 : Int → fb_St → Prop} (h111 : TT_X7_flood_111 p l e s m args below meth c Qm G r111) : TT_X7_flood_111 p l e s m args below meth c Qm G (wb_X7_flood_111 r111 Q) := by
  intro x1 σ H locs ls w hl ix1 h
  unfold wb_X7_flood_111 at h
  refine lv_iload_n C.1.1 C.1.2.1 dX7_flood_111 rfl (lv_at hl 1 rfl) ?_
  refine lv_aload_n C.1.1 C.1.2.1 dX7_flood_112 rfl (lv_at hl 0 rfl) ?_
  refine fb_callVi (As := []) (rest := [.int (fb_I x1)]) C w (ct_X7_dots l G h) mv_X7_80 (fb_k48 C) rfl ⟨rfl, rfl, Nat.le_of_ble_eq_true rfl, Nat.le_of_ble_eq_true rfl, Nat.zero_le _, Nat.zero_le _⟩ rfl hl.1 rfl (Nat.le_of_ble_eq_true rfl) dX7_flood_113 (fun a10 σ10 H locs h ia10 w => ?_)
  refine fb_icmp_ge (tgt := 143) C ix1 ia10 dX7_flood_116 (by decide) (fun c11 => ?_) (fun c11 => ?_)
  · have h := h.2 c11
    refine lv_aload_n C.1.1 C.1.2.1 dX7_flood_143 rfl (lv_at hl 0 rfl) ?_
    refine fb_callVi (As := []) (rest := []) C w (ct_X7_first l G h) mv_X7_109 (fb_k48 C) rfl ⟨rfl, rfl, Nat.le_of_ble_eq_true rfl, Nat.le_of_ble_eq_true rfl, Nat.zero_le _, Nat.zero_le _⟩ rfl hl.1 rfl (Nat.le_of_ble_eq_true rfl) dX7_flood_144 (fun a12 σ12 H locs h ia12 w => ?_)
    refine lv_istore_n (lv' := [(1, .int (fb_I a12)), (0, .ref (fb_ad G 48))]) C.1.1 C.1.2.1 dX7_flood_147 rfl hl (by decide) rfl (fun ls hl => ?_)
    refine fb_iconst C dX7_flood_148 ?_
    refine lv_istore_n (lv' := [(2, .int (fb_I 0)), (1, .int (fb_I a12)), (0, .ref (fb_ad G 48))]) C.1.1 C.1.2.1 dX7_flood_149 rfl hl (by decide) rfl (fun ls hl => ?_)
    obtain ⟨n, h⟩ := h
    exact tl_X7_flood_150 C hret n a12 0 _ _ _ _ w (lv_sub hl [2, 1, 0] rfl) ia12 (by decide) h
  · have h := h.1 c11
    refine lv_aload_n C.1.1 C.1.2.1 dX7_flood_119 rfl (lv_at hl 0 rfl) ?_
    refine fb_getr (k2 := 49) C w (fb_k48 C) rfl fl_X7_7 dX7_flood_120 ?_
    refine fb_sipush C dX7_flood_123 (by decide) ?_
    refine lv_iload_n C.1.1 C.1.2.1 dX7_flood_126 rfl (lv_at hl 1 rfl) ?_
    obtain ⟨i13, h⟩ := h
    refine fb_iadd C dX7_flood_127 ?_
    obtain ⟨z14, z15, h⟩ := h
    refine fb_al C w 292 (fb_k49 C) rfl rfl z14 z15 dX7_flood_128 ?_
    have i16 := w.2.2.2 49 (144 + x1)
    refine fb_if_le (tgt := 137) C i16 dX7_flood_129 (by decide) (fun c17 => ?_) (fun c17 => ?_)
    · have h := h.2 c17
      exact tw_X7_flood_137 C hret h111 x1 _ _ _ _ w (lv_sub hl [0, 1] rfl) ix1 h
    · have h := h.1 c17
      refine lv_aload_n C.1.1 C.1.2.1 dX7_flood_132 rfl (lv_at hl 0 rfl) ?_
      refine lv_iload_n C.1.1 C.1.2.1 dX7_flood_133 rfl (lv_at hl 1 rfl) ?_
      refine fb_callVv (As := [.int (fb_I x1)]) (rest := []) C w (ct_X7_spill l G ix1 h) mv_X7_105 (fb_k48 C) rfl ⟨rfl, rfl, Nat.le_of_ble_eq_true rfl, Nat.le_of_ble_eq_true rfl, Nat.zero_le _, Nat.zero_le _⟩ rfl hl.1 rfl (Nat.le_of_ble_eq_true rfl) dX7_flood_134 (fun σ18 H locs h w => ?_)
      exact tw_X7_flood_137 C hret h111 x1 _ _ _ _ w (lv_sub hl [0, 1] rfl) ix1 h
theorem tl_X7_flood_111 (C : fb_C p s m args meth c G RX7 cX7_flood 4) (hret : fb_RV p l e rm_X7_flood s m args below meth c G cX7_flood Qm Q) : ∀ n : Nat, TT_X7_flood_111 p l e s m args below meth c Qm G (wl_X7_flood_111 Q n) := by
  intro n
  induction n with
  | zero => intro x1 σ H locs ls w hl ix1 h; exact h.elim
  | succ n ih => exact tw_X7_flood_111 C hret ih
set_option maxRecDepth 100000 in
set_option maxHeartbeats 4000000 in
theorem tw_X7_flood_7 (C : fb_C p s m args meth c G RX7 cX7_flood 4) (hret : fb_RV p l e rm_X7_flood s m args below meth c G cX7_flood Qm Q) {r7 : Int → fb_St → Prop} (h7 : TT_X7_flood_7 p l e s m args below meth c Qm G r7) : TT_X7_flood_7 p l e s m args below meth c Qm G (wb_X7_flood_7 r7 Q) := by
  intro x1 σ H locs ls w hl ix1 h
  unfold wb_X7_flood_7 at h
  refine lv_iload_n C.1.1 C.1.2.1 dX7_flood_7 rfl (lv_at hl 1 rfl) ?_
  refine fb_sipush C dX7_flood_8 (by decide) ?_
  refine fb_icmp_ge (tgt := 109) C ix1 (by decide) dX7_flood_11 (by decide) (fun c2 => ?_) (fun c2 => ?_)
  · have h := h.2 c2
    refine fb_iconst C dX7_flood_109 ?_
    refine lv_istore_n (lv' := [(1, .int (fb_I 0)), (0, .ref (fb_ad G 48))]) C.1.1 C.1.2.1 dX7_flood_110 rfl hl (by decide) rfl (fun ls hl => ?_)
    obtain ⟨n, h⟩ := h
    exact tl_X7_flood_111 C hret n 0 _ _ _ _ w (lv_sub hl [1, 0] rfl) (by decide) h
  · have h := h.1 c2
    refine lv_iload_n C.1.1 C.1.2.1 dX7_flood_14 rfl (lv_at hl 1 rfl) ?_
    refine lv_aload_n C.1.1 C.1.2.1 dX7_flood_15 rfl (lv_at hl 0 rfl) ?_
    refine fb_callVi (As := []) (rest := [.int (fb_I x1)]) C w (ct_X7_dots l G h) mv_X7_80 (fb_k48 C) rfl ⟨rfl, rfl, Nat.le_of_ble_eq_true rfl, Nat.le_of_ble_eq_true rfl, Nat.zero_le _, Nat.zero_le _⟩ rfl hl.1 rfl (Nat.le_of_ble_eq_true rfl) dX7_flood_16 (fun a3 σ3 H locs h ia3 w => ?_)
    refine fb_icmp_ge (tgt := 39) C ix1 ia3 dX7_flood_19 (by decide) (fun c4 => ?_) (fun c4 => ?_)
    · have h := h.2 c4
      exact tw_X7_flood_39 C hret h7 x1 _ _ _ _ w (lv_sub hl [0, 1] rfl) ix1 h
    · have h := h.1 c4
      refine lv_aload_n C.1.1 C.1.2.1 dX7_flood_22 rfl (lv_at hl 0 rfl) ?_
      refine fb_getr (k2 := 49) C w (fb_k48 C) rfl fl_X7_7 dX7_flood_23 ?_
      refine fb_sipush C dX7_flood_26 (by decide) ?_
      refine lv_iload_n C.1.1 C.1.2.1 dX7_flood_29 rfl (lv_at hl 1 rfl) ?_
      obtain ⟨i5, h⟩ := h
      refine fb_iadd C dX7_flood_30 ?_
      obtain ⟨z6, z7, h⟩ := h
      refine fb_al C w 292 (fb_k49 C) rfl rfl z6 z7 dX7_flood_31 ?_
      have i8 := w.2.2.2 49 (144 + x1)
      refine fb_if_le (tgt := 39) C i8 dX7_flood_32 (by decide) (fun c9 => ?_) (fun c9 => ?_)
      · have h := h.2 c9
        exact tw_X7_flood_39 C hret h7 x1 _ _ _ _ w (lv_sub hl [0, 1] rfl) ix1 h
      · have h := h.1 c9
        refine fb_iconst C dX7_flood_35 ?_
        refine lv_goto (tgt := 40) C.1.1 C.1.2.1 dX7_flood_36 (by decide) ?_
        exact tw_X7_flood_40 C hret h7 x1 1 _ _ _ _ w (lv_sub hl [0, 1] rfl) ix1 (by decide) h
theorem tl_X7_flood_7 (C : fb_C p s m args meth c G RX7 cX7_flood 4) (hret : fb_RV p l e rm_X7_flood s m args below meth c G cX7_flood Qm Q) : ∀ n : Nat, TT_X7_flood_7 p l e s m args below meth c Qm G (wl_X7_flood_7 Q n) := by
  intro n
  induction n with
  | zero => intro x1 σ H locs ls w hl ix1 h; exact h.elim
  | succ n ih => exact tw_X7_flood_7 C hret ih
set_option maxRecDepth 100000 in
set_option maxHeartbeats 4000000 in
theorem tw_X7_flood_0 (C : fb_C p s m args meth c G RX7 cX7_flood 4) (hret : fb_RV p l e rm_X7_flood s m args below meth c G cX7_flood Qm Q) : TT_X7_flood_0 p l e s m args below meth c Qm G (fun σ => wp_X7_flood σ Q) := by
  intro σ H locs ls w hl h
  unfold wp_X7_flood at h
  refine lv_aload_n C.1.1 C.1.2.1 dX7_flood_0 rfl (lv_at hl 0 rfl) ?_
  refine fb_iconst C dX7_flood_1 ?_
  refine fb_pi C w 11 (fb_k48 C) rfl rfl fl_X7_101 tyX7_ok nmX7 rfl (by decide) rfl rfl dX7_flood_2 (fun σ1 H locs eσ1 w => ?_)
  have h := h σ1 eσ1
  refine fb_iconst C dX7_flood_5 ?_
  refine lv_istore_n (lv' := [(1, .int (fb_I 0)), (0, .ref (fb_ad G 48))]) C.1.1 C.1.2.1 dX7_flood_6 rfl hl (by decide) rfl (fun ls hl => ?_)
  obtain ⟨n, h⟩ := h
  exact tl_X7_flood_7 C hret n 0 _ _ _ _ w (lv_sub hl [1, 0] rfl) (by decide) h
theorem ct_X7_flood (l : Launch) (G : fb_G) {σ : fb_St} (h : wp_X7_flood σ Q) : fb_MV l G yX7_flood cX7_flood 4 rm_X7_flood [.ref (fb_ad G 48)] σ Q := by
  refine fb_ofW (own := RX7) (by decide) (Nat.le_of_ble_eq_true rfl) rfl (fun p e s m args below meth c ls C hr hl w => ?_)
  exact tw_X7_flood_0 C (fb_retv C hr) _ _ _ _ w hl h
end S_X7_flood
section S_X7_dotsOf
variable {p : Program} {l : Launch} {e : Env} {s : State} {m : MethodId} {args : Array Value} {below : List Frame} {meth : Method} {c : Code} {Qm : State → Prop} {G : fb_G} {Q : Int → fb_St → Prop} {oo : Nat}
abbrev TT_X7_dotsOf_28 (p : Program) (l : Launch) (e : Env) (s : State) (m : MethodId) (args : Array Value) (below : List Frame) (meth : Method) (c : Code) (Qm : State → Prop) (G : fb_G) (oo : Nat) (r : Int → Int → Int → Int → fb_St → Prop) : Prop := ∀ (x2 x4 s0 s1 : Int) (σ : fb_St) (H : Heap) (locs : List Loc) (ls : Array Slot), fb_Wd G s σ H locs → lv_has ls 5 [(0, .ref (fb_ad G 48)), (1, .ref (fb_ad G oo)), (2, .int (fb_I x2)), (4, .int (fb_I x4))] → fb_in x2 → fb_in x4 → fb_in s0 → fb_in s1 → r x2 x4 s0 s1 σ → W p l e rm_X7_dotsOf s m args below meth c H locs 0 0 Qm (F0 m 28 ls [.int (fb_I s0), .int (fb_I s1)])
abbrev TT_X7_dotsOf_5 (p : Program) (l : Launch) (e : Env) (s : State) (m : MethodId) (args : Array Value) (below : List Frame) (meth : Method) (c : Code) (Qm : State → Prop) (G : fb_G) (oo : Nat) (r : Int → Int → Int → fb_St → Prop) : Prop := ∀ (x2 x3 x4 : Int) (σ : fb_St) (H : Heap) (locs : List Loc) (ls : Array Slot), fb_Wd G s σ H locs → lv_has ls 5 [(0, .ref (fb_ad G 48)), (1, .ref (fb_ad G oo)), (2, .int (fb_I x2)), (3, .int (fb_I x3)), (4, .int (fb_I x4))] → fb_in x2 → fb_in x3 → fb_in x4 → r x2 x3 x4 σ → W p l e rm_X7_dotsOf s m args below meth c H locs 0 0 Qm (F0 m 5 ls [])
abbrev TT_X7_dotsOf_0 (p : Program) (l : Launch) (e : Env) (s : State) (m : MethodId) (args : Array Value) (below : List Frame) (meth : Method) (c : Code) (Qm : State → Prop) (G : fb_G) (oo : Nat) (r : Int → fb_St → Prop) : Prop := ∀ (x2 : Int) (σ : fb_St) (H : Heap) (locs : List Loc) (ls : Array Slot), fb_Wd G s σ H locs → lv_has ls 5 [(0, .ref (fb_ad G 48)), (1, .ref (fb_ad G oo)), (2, .int (fb_I x2))] → fb_in x2 → r x2 σ → W p l e rm_X7_dotsOf s m args below meth c H locs 0 0 Qm (F0 m 0 ls [])
set_option maxRecDepth 100000 in
set_option maxHeartbeats 4000000 in
theorem tw_X7_dotsOf_28 (hoo : (fb_cl G)[oo]? = some (fb_arI G 144)) (C : fb_C p s m args meth c G RX7 cX7_dotsOf 5) (hret : fb_RI p l e rm_X7_dotsOf s m args below meth c G cX7_dotsOf Qm Q) {r5 : Int → Int → Int → fb_St → Prop} (h5 : TT_X7_dotsOf_5 p l e s m args below meth c Qm G oo r5) : TT_X7_dotsOf_28 p l e s m args below meth c Qm G oo (wj_X7_dotsOf_28 oo r5 Q) := by
  intro x2 x4 s0 s1 σ H locs ls w hl ix2 ix4 is0 is1 h
  unfold wj_X7_dotsOf_28 at h
  obtain ⟨i7, h⟩ := h
  refine fb_iadd C dX7_dotsOf_28 ?_
  refine fb_top (fun v8 ev8 => ?_)
  have h := h v8 ev8
  have iv8 := fb_ie ev8 i7
  refine lv_istore_n (lv' := [(3, .int (fb_I v8)), (0, .ref (fb_ad G 48)), (1, .ref (fb_ad G oo)), (2, .int (fb_I x2)), (4, .int (fb_I x4))]) C.1.1 C.1.2.1 dX7_dotsOf_29 rfl hl (by decide) rfl (fun ls hl => ?_)
  obtain ⟨i9, h⟩ := h
  refine fb_iinc (b := x4 + 1) (k := 4) (lv' := [(4, .int (fb_I (x4 + 1))), (3, .int (fb_I v8)), (0, .ref (fb_ad G 48)), (1, .ref (fb_ad G oo)), (2, .int (fb_I x2))]) C dX7_dotsOf_30 hl rfl rfl (by decide) rfl (fun ls hl => ?_)
  refine lv_goto (tgt := 5) C.1.1 C.1.2.1 dX7_dotsOf_33 (by decide) ?_
  exact h5 x2 v8 (x4 + 1) _ _ _ _ w (lv_sub hl [2, 3, 4, 1, 0] rfl) ix2 iv8 i9 h
set_option maxRecDepth 100000 in
set_option maxHeartbeats 4000000 in
theorem tw_X7_dotsOf_5 (hoo : (fb_cl G)[oo]? = some (fb_arI G 144)) (C : fb_C p s m args meth c G RX7 cX7_dotsOf 5) (hret : fb_RI p l e rm_X7_dotsOf s m args below meth c G cX7_dotsOf Qm Q) {r5 : Int → Int → Int → fb_St → Prop} (h5 : TT_X7_dotsOf_5 p l e s m args below meth c Qm G oo r5) : TT_X7_dotsOf_5 p l e s m args below meth c Qm G oo (wb_X7_dotsOf_5 oo r5 Q) := by
  intro x2 x3 x4 σ H locs ls w hl ix2 ix3 ix4 h
  unfold wb_X7_dotsOf_5 at h
  refine lv_iload C.1.1 C.1.2.1 dX7_dotsOf_5 (lv_at hl 4 rfl) ?_
  refine lv_aload_n C.1.1 C.1.2.1 dX7_dotsOf_7 rfl (lv_at hl 0 rfl) ?_
  refine fb_callVi (As := []) (rest := [.int (fb_I x4)]) C w (ct_X7_dots l G h) mv_X7_80 (fb_k48 C) rfl ⟨rfl, rfl, Nat.le_of_ble_eq_true rfl, Nat.le_of_ble_eq_true rfl, Nat.zero_le _, Nat.zero_le _⟩ rfl hl.1 rfl (Nat.le_of_ble_eq_true rfl) dX7_dotsOf_8 (fun a1 σ1 H locs h ia1 w => ?_)
  refine fb_icmp_ge (tgt := 36) C ix4 ia1 dX7_dotsOf_11 (by decide) (fun c2 => ?_) (fun c2 => ?_)
  · have h := h.2 c2
    refine lv_iload_n C.1.1 C.1.2.1 dX7_dotsOf_36 rfl (lv_at hl 3 rfl) ?_
    exact hret _ _ _ _ _ _ ix3 h w dX7_dotsOf_37
  · have h := h.1 c2
    refine lv_iload_n C.1.1 C.1.2.1 dX7_dotsOf_14 rfl (lv_at hl 3 rfl) ?_
    refine lv_aload_n C.1.1 C.1.2.1 dX7_dotsOf_15 rfl (lv_at hl 1 rfl) ?_
    refine lv_iload C.1.1 C.1.2.1 dX7_dotsOf_16 (lv_at hl 4 rfl) ?_
    obtain ⟨z3, z4, h⟩ := h
    refine fb_al C w 144 hoo rfl rfl z3 z4 dX7_dotsOf_18 ?_
    have i5 := w.2.2.2 oo x4
    refine lv_iload_n C.1.1 C.1.2.1 dX7_dotsOf_19 rfl (lv_at hl 2 rfl) ?_
    refine fb_icmp_ne (tgt := 27) C i5 ix2 dX7_dotsOf_20 (by decide) (fun c6 => ?_) (fun c6 => ?_)
    · have h := h.2 c6
      refine fb_iconst C dX7_dotsOf_27 ?_
      exact tw_X7_dotsOf_28 hoo C hret h5 x2 x4 0 x3 _ _ _ _ w (lv_sub hl [0, 1, 2, 4] rfl) ix2 ix4 (by decide) ix3 h
    · have h := h.1 c6
      refine fb_iconst C dX7_dotsOf_23 ?_
      refine lv_goto (tgt := 28) C.1.1 C.1.2.1 dX7_dotsOf_24 (by decide) ?_
      exact tw_X7_dotsOf_28 hoo C hret h5 x2 x4 1 x3 _ _ _ _ w (lv_sub hl [0, 1, 2, 4] rfl) ix2 ix4 (by decide) ix3 h
theorem tl_X7_dotsOf_5 (hoo : (fb_cl G)[oo]? = some (fb_arI G 144)) (C : fb_C p s m args meth c G RX7 cX7_dotsOf 5) (hret : fb_RI p l e rm_X7_dotsOf s m args below meth c G cX7_dotsOf Qm Q) : ∀ n : Nat, TT_X7_dotsOf_5 p l e s m args below meth c Qm G oo (wl_X7_dotsOf_5 oo Q n) := by
  intro n
  induction n with
  | zero => intro x2 x3 x4 σ H locs ls w hl ix2 ix3 ix4 h; exact h.elim
  | succ n ih => exact tw_X7_dotsOf_5 hoo C hret ih
set_option maxRecDepth 100000 in
set_option maxHeartbeats 4000000 in
theorem tw_X7_dotsOf_0 (hoo : (fb_cl G)[oo]? = some (fb_arI G 144)) (C : fb_C p s m args meth c G RX7 cX7_dotsOf 5) (hret : fb_RI p l e rm_X7_dotsOf s m args below meth c G cX7_dotsOf Qm Q) : TT_X7_dotsOf_0 p l e s m args below meth c Qm G oo (fun x2 σ => wp_X7_dotsOf oo x2 σ Q) := by
  intro x2 σ H locs ls w hl ix2 h
  unfold wp_X7_dotsOf at h
  refine fb_iconst C dX7_dotsOf_0 ?_
  refine lv_istore_n (lv' := [(3, .int (fb_I 0)), (0, .ref (fb_ad G 48)), (1, .ref (fb_ad G oo)), (2, .int (fb_I x2))]) C.1.1 C.1.2.1 dX7_dotsOf_1 rfl hl (by decide) rfl (fun ls hl => ?_)
  refine fb_iconst C dX7_dotsOf_2 ?_
  refine lv_istore (lv' := [(4, .int (fb_I 0)), (3, .int (fb_I 0)), (0, .ref (fb_ad G 48)), (1, .ref (fb_ad G oo)), (2, .int (fb_I x2))]) C.1.1 C.1.2.1 dX7_dotsOf_3 hl (by decide) rfl (fun ls hl => ?_)
  obtain ⟨n, h⟩ := h
  exact tl_X7_dotsOf_5 hoo C hret n x2 0 0 _ _ _ _ w (lv_sub hl [2, 3, 4, 1, 0] rfl) ix2 (by decide) (by decide) h
theorem ct_X7_dotsOf (l : Launch) (G : fb_G) (hoo : (fb_cl G)[oo]? = some (fb_arI G 144)) {x2 : Int} {σ : fb_St} (ix2 : fb_in x2) (h : wp_X7_dotsOf oo x2 σ Q) : fb_MI l G yX7_dotsOf cX7_dotsOf 5 (some .int) rm_X7_dotsOf [.ref (fb_ad G 48), .ref (fb_ad G oo), .int (fb_I x2)] σ Q := by
  refine fb_ofW (own := RX7) (by decide) (Nat.le_of_ble_eq_true rfl) rfl (fun p e s m args below meth c ls C hr hl w => ?_)
  exact tw_X7_dotsOf_0 hoo C (fb_reti C hr) _ _ _ _ _ w hl ix2 h
end S_X7_dotsOf
section S_X7_hasBeside
variable {p : Program} {l : Launch} {e : Env} {s : State} {m : MethodId} {args : Array Value} {below : List Frame} {meth : Method} {c : Code} {Qm : State → Prop} {G : fb_G} {Q : Int → fb_St → Prop}
abbrev TT_X7_hasBeside_45 (p : Program) (l : Launch) (e : Env) (s : State) (m : MethodId) (args : Array Value) (below : List Frame) (meth : Method) (c : Code) (Qm : State → Prop) (G : fb_G) (r : Int → Int → Int → Int → fb_St → Prop) : Prop := ∀ (x1 x2 x4 s0 : Int) (σ : fb_St) (H : Heap) (locs : List Loc) (ls : Array Slot), fb_Wd G s σ H locs → lv_has ls 6 [(0, .ref (fb_ad G 48)), (1, .int (fb_I x1)), (2, .int (fb_I x2)), (4, .int (fb_I x4))] → fb_in x1 → fb_in x2 → fb_in x4 → fb_in s0 → r x1 x2 x4 s0 σ → W p l e rm_X7_hasBeside s m args below meth c H locs 0 0 Qm (F0 m 45 ls [.int (fb_I s0)])
abbrev TT_X7_hasBeside_40 (p : Program) (l : Launch) (e : Env) (s : State) (m : MethodId) (args : Array Value) (below : List Frame) (meth : Method) (c : Code) (Qm : State → Prop) (G : fb_G) (r : Int → Int → Int → fb_St → Prop) : Prop := ∀ (x1 x2 x4 : Int) (σ : fb_St) (H : Heap) (locs : List Loc) (ls : Array Slot), fb_Wd G s σ H locs → lv_has ls 6 [(0, .ref (fb_ad G 48)), (1, .int (fb_I x1)), (2, .int (fb_I x2)), (4, .int (fb_I x4))] → fb_in x1 → fb_in x2 → fb_in x4 → r x1 x2 x4 σ → W p l e rm_X7_hasBeside s m args below meth c H locs 0 0 Qm (F0 m 40 ls [])
abbrev TT_X7_hasBeside_44 (p : Program) (l : Launch) (e : Env) (s : State) (m : MethodId) (args : Array Value) (below : List Frame) (meth : Method) (c : Code) (Qm : State → Prop) (G : fb_G) (r : Int → Int → Int → fb_St → Prop) : Prop := ∀ (x1 x2 x4 : Int) (σ : fb_St) (H : Heap) (locs : List Loc) (ls : Array Slot), fb_Wd G s σ H locs → lv_has ls 6 [(0, .ref (fb_ad G 48)), (1, .int (fb_I x1)), (2, .int (fb_I x2)), (4, .int (fb_I x4))] → fb_in x1 → fb_in x2 → fb_in x4 → r x1 x2 x4 σ → W p l e rm_X7_hasBeside s m args below meth c H locs 0 0 Qm (F0 m 44 ls [])
abbrev TT_X7_hasBeside_5 (p : Program) (l : Launch) (e : Env) (s : State) (m : MethodId) (args : Array Value) (below : List Frame) (meth : Method) (c : Code) (Qm : State → Prop) (G : fb_G) (r : Int → Int → Int → Int → fb_St → Prop) : Prop := ∀ (x1 x2 x3 x4 : Int) (σ : fb_St) (H : Heap) (locs : List Loc) (ls : Array Slot), fb_Wd G s σ H locs → lv_has ls 6 [(0, .ref (fb_ad G 48)), (1, .int (fb_I x1)), (2, .int (fb_I x2)), (3, .int (fb_I x3)), (4, .int (fb_I x4))] → fb_in x1 → fb_in x2 → fb_in x3 → fb_in x4 → r x1 x2 x3 x4 σ → W p l e rm_X7_hasBeside s m args below meth c H locs 0 0 Qm (F0 m 5 ls [])
abbrev TT_X7_hasBeside_0 (p : Program) (l : Launch) (e : Env) (s : State) (m : MethodId) (args : Array Value) (below : List Frame) (meth : Method) (c : Code) (Qm : State → Prop) (G : fb_G) (r : Int → Int → fb_St → Prop) : Prop := ∀ (x1 x2 : Int) (σ : fb_St) (H : Heap) (locs : List Loc) (ls : Array Slot), fb_Wd G s σ H locs → lv_has ls 6 [(0, .ref (fb_ad G 48)), (1, .int (fb_I x1)), (2, .int (fb_I x2))] → fb_in x1 → fb_in x2 → r x1 x2 σ → W p l e rm_X7_hasBeside s m args below meth c H locs 0 0 Qm (F0 m 0 ls [])
set_option maxRecDepth 100000 in
set_option maxHeartbeats 4000000 in
theorem tw_X7_hasBeside_45 (C : fb_C p s m args meth c G RX7 cX7_hasBeside 6) (hret : fb_RZ p l e rm_X7_hasBeside s m args below meth c G cX7_hasBeside Qm Q) {r5 : Int → Int → Int → Int → fb_St → Prop} (h5 : TT_X7_hasBeside_5 p l e s m args below meth c Qm G r5) : TT_X7_hasBeside_45 p l e s m args below meth c Qm G (wj_X7_hasBeside_45 r5 Q) := by
  intro x1 x2 x4 s0 σ H locs ls w hl ix1 ix2 ix4 is0 h
  unfold wj_X7_hasBeside_45 at h
  refine lv_istore_n (lv' := [(3, .int (fb_I s0)), (0, .ref (fb_ad G 48)), (1, .int (fb_I x1)), (2, .int (fb_I x2)), (4, .int (fb_I x4))]) C.1.1 C.1.2.1 dX7_hasBeside_45 rfl hl (by decide) rfl (fun ls hl => ?_)
  obtain ⟨i10, h⟩ := h
  refine fb_iinc (b := x4 + 1) (k := 4) (lv' := [(4, .int (fb_I (x4 + 1))), (3, .int (fb_I s0)), (0, .ref (fb_ad G 48)), (1, .int (fb_I x1)), (2, .int (fb_I x2))]) C dX7_hasBeside_46 hl rfl rfl (by decide) rfl (fun ls hl => ?_)
  refine lv_goto (tgt := 5) C.1.1 C.1.2.1 dX7_hasBeside_49 (by decide) ?_
  exact h5 x1 x2 s0 (x4 + 1) _ _ _ _ w (lv_sub hl [2, 3, 4, 1, 0] rfl) ix1 ix2 is0 i10 h
set_option maxRecDepth 100000 in
set_option maxHeartbeats 4000000 in
theorem tw_X7_hasBeside_40 (C : fb_C p s m args meth c G RX7 cX7_hasBeside 6) (hret : fb_RZ p l e rm_X7_hasBeside s m args below meth c G cX7_hasBeside Qm Q) {r5 : Int → Int → Int → Int → fb_St → Prop} (h5 : TT_X7_hasBeside_5 p l e s m args below meth c Qm G r5) : TT_X7_hasBeside_40 p l e s m args below meth c Qm G (wj_X7_hasBeside_40 r5 Q) := by
  intro x1 x2 x4 σ H locs ls w hl ix1 ix2 ix4 h
  unfold wj_X7_hasBeside_40 at h
  refine fb_iconst C dX7_hasBeside_40 ?_
  refine lv_goto (tgt := 45) C.1.1 C.1.2.1 dX7_hasBeside_41 (by decide) ?_
  exact tw_X7_hasBeside_45 C hret h5 x1 x2 x4 1 _ _ _ _ w (lv_sub hl [0, 1, 2, 3] rfl) ix1 ix2 ix4 (by decide) h
set_option maxRecDepth 100000 in
set_option maxHeartbeats 4000000 in
theorem tw_X7_hasBeside_44 (C : fb_C p s m args meth c G RX7 cX7_hasBeside 6) (hret : fb_RZ p l e rm_X7_hasBeside s m args below meth c G cX7_hasBeside Qm Q) {r5 : Int → Int → Int → Int → fb_St → Prop} (h5 : TT_X7_hasBeside_5 p l e s m args below meth c Qm G r5) : TT_X7_hasBeside_44 p l e s m args below meth c Qm G (wj_X7_hasBeside_44 r5 Q) := by
  intro x1 x2 x4 σ H locs ls w hl ix1 ix2 ix4 h
  unfold wj_X7_hasBeside_44 at h
  refine fb_iconst C dX7_hasBeside_44 ?_
  exact tw_X7_hasBeside_45 C hret h5 x1 x2 x4 0 _ _ _ _ w (lv_sub hl [0, 1, 2, 3] rfl) ix1 ix2 ix4 (by decide) h
set_option maxRecDepth 100000 in
set_option maxHeartbeats 4000000 in
theorem tw_X7_hasBeside_5 (C : fb_C p s m args meth c G RX7 cX7_hasBeside 6) (hret : fb_RZ p l e rm_X7_hasBeside s m args below meth c G cX7_hasBeside Qm Q) {r5 : Int → Int → Int → Int → fb_St → Prop} (h5 : TT_X7_hasBeside_5 p l e s m args below meth c Qm G r5) : TT_X7_hasBeside_5 p l e s m args below meth c Qm G (wb_X7_hasBeside_5 r5 Q) := by
  intro x1 x2 x3 x4 σ H locs ls w hl ix1 ix2 ix3 ix4 h
  unfold wb_X7_hasBeside_5 at h
  refine lv_iload C.1.1 C.1.2.1 dX7_hasBeside_5 (lv_at hl 4 rfl) ?_
  refine fb_iconst C dX7_hasBeside_7 ?_
  refine fb_icmp_ge (tgt := 52) C ix4 (by decide) dX7_hasBeside_8 (by decide) (fun c1 => ?_) (fun c1 => ?_)
  · have h := h.2 c1
    refine lv_iload_n C.1.1 C.1.2.1 dX7_hasBeside_52 rfl (lv_at hl 3 rfl) ?_
    obtain ⟨z2, h⟩ := h
    exact hret _ _ _ _ _ _ ix3 z2 h w dX7_hasBeside_53
  · have h := h.1 c1
    refine lv_aload_n C.1.1 C.1.2.1 dX7_hasBeside_11 rfl (lv_at hl 0 rfl) ?_
    refine lv_iload_n C.1.1 C.1.2.1 dX7_hasBeside_12 rfl (lv_at hl 1 rfl) ?_
    refine lv_iload C.1.1 C.1.2.1 dX7_hasBeside_13 (lv_at hl 4 rfl) ?_
    refine fb_callVi (As := [.int (fb_I x1), .int (fb_I x4)]) (rest := []) C w (ct_X7_beside l G ix1 ix4 h) mv_X7_77 (fb_k48 C) rfl ⟨rfl, rfl, Nat.le_of_ble_eq_true rfl, Nat.le_of_ble_eq_true rfl, Nat.zero_le _, Nat.zero_le _⟩ rfl hl.1 rfl (Nat.le_of_ble_eq_true rfl) dX7_hasBeside_15 (fun a3 σ3 H locs h ia3 w => ?_)
    refine lv_istore (lv' := [(5, .int (fb_I a3)), (0, .ref (fb_ad G 48)), (1, .int (fb_I x1)), (2, .int (fb_I x2)), (3, .int (fb_I x3)), (4, .int (fb_I x4))]) C.1.1 C.1.2.1 dX7_hasBeside_18 hl (by decide) rfl (fun ls hl => ?_)
    refine lv_iload_n C.1.1 C.1.2.1 dX7_hasBeside_20 rfl (lv_at hl 4 rfl) ?_
    refine fb_if_ne (tgt := 40) C ix3 dX7_hasBeside_21 (by decide) (fun c4 => ?_) (fun c4 => ?_)
    · have h := h.2 c4
      exact tw_X7_hasBeside_40 C hret h5 x1 x2 x4 _ _ _ _ w (lv_sub hl [1, 2, 3, 5] rfl) ix1 ix2 ix4 h
    · have h := h.1 c4
      refine lv_iload C.1.1 C.1.2.1 dX7_hasBeside_24 (lv_at hl 0 rfl) ?_
      refine fb_if_lt (tgt := 44) C ia3 dX7_hasBeside_26 (by decide) (fun c5 => ?_) (fun c5 => ?_)
      · have h := h.1 c5
        exact tw_X7_hasBeside_44 C hret h5 x1 x2 x4 _ _ _ _ w (lv_sub hl [1, 2, 3, 5] rfl) ix1 ix2 ix4 h
      · have h := h.2 c5
        refine lv_aload_n C.1.1 C.1.2.1 dX7_hasBeside_29 rfl (lv_at hl 1 rfl) ?_
        refine fb_getr (k2 := 60) C w (fb_k48 C) rfl fl_X7_44 dX7_hasBeside_30 ?_
        refine lv_iload C.1.1 C.1.2.1 dX7_hasBeside_33 (lv_at hl 0 rfl) ?_
        obtain ⟨z6, z7, h⟩ := h
        refine fb_al C w 144 (fb_k60 C) rfl rfl z6 z7 dX7_hasBeside_35 ?_
        have i8 := w.2.2.2 60 a3
        refine lv_iload_n C.1.1 C.1.2.1 dX7_hasBeside_36 rfl (lv_at hl 3 rfl) ?_
        refine fb_icmp_ne (tgt := 44) C i8 ix2 dX7_hasBeside_37 (by decide) (fun c9 => ?_) (fun c9 => ?_)
        · have h := h.2 c9
          exact tw_X7_hasBeside_44 C hret h5 x1 x2 x4 _ _ _ _ w (lv_sub hl [1, 2, 3, 5] rfl) ix1 ix2 ix4 h
        · have h := h.1 c9
          exact tw_X7_hasBeside_40 C hret h5 x1 x2 x4 _ _ _ _ w (lv_sub hl [1, 2, 3, 5] rfl) ix1 ix2 ix4 h
theorem tl_X7_hasBeside_5 (C : fb_C p s m args meth c G RX7 cX7_hasBeside 6) (hret : fb_RZ p l e rm_X7_hasBeside s m args below meth c G cX7_hasBeside Qm Q) : ∀ n : Nat, TT_X7_hasBeside_5 p l e s m args below meth c Qm G (wl_X7_hasBeside_5 Q n) := by
  intro n
  induction n with
  | zero => intro x1 x2 x3 x4 σ H locs ls w hl ix1 ix2 ix3 ix4 h; exact h.elim
  | succ n ih => exact tw_X7_hasBeside_5 C hret ih
set_option maxRecDepth 100000 in
set_option maxHeartbeats 4000000 in
theorem tw_X7_hasBeside_0 (C : fb_C p s m args meth c G RX7 cX7_hasBeside 6) (hret : fb_RZ p l e rm_X7_hasBeside s m args below meth c G cX7_hasBeside Qm Q) : TT_X7_hasBeside_0 p l e s m args below meth c Qm G (fun x1 x2 σ => wp_X7_hasBeside x1 x2 σ Q) := by
  intro x1 x2 σ H locs ls w hl ix1 ix2 h
  unfold wp_X7_hasBeside at h
  refine fb_iconst C dX7_hasBeside_0 ?_
  refine lv_istore_n (lv' := [(3, .int (fb_I 0)), (0, .ref (fb_ad G 48)), (1, .int (fb_I x1)), (2, .int (fb_I x2))]) C.1.1 C.1.2.1 dX7_hasBeside_1 rfl hl (by decide) rfl (fun ls hl => ?_)
  refine fb_iconst C dX7_hasBeside_2 ?_
  refine lv_istore (lv' := [(4, .int (fb_I 0)), (3, .int (fb_I 0)), (0, .ref (fb_ad G 48)), (1, .int (fb_I x1)), (2, .int (fb_I x2))]) C.1.1 C.1.2.1 dX7_hasBeside_3 hl (by decide) rfl (fun ls hl => ?_)
  obtain ⟨n, h⟩ := h
  exact tl_X7_hasBeside_5 C hret n x1 x2 0 0 _ _ _ _ w (lv_sub hl [2, 3, 4, 1, 0] rfl) ix1 ix2 (by decide) (by decide) h
theorem ct_X7_hasBeside (l : Launch) (G : fb_G) {x1 : Int} {x2 : Int} {σ : fb_St} (ix1 : fb_in x1) (ix2 : fb_in x2) (h : wp_X7_hasBeside x1 x2 σ Q) : fb_MI l G yX7_hasBeside cX7_hasBeside 6 (some .boolean) rm_X7_hasBeside [.ref (fb_ad G 48), .int (fb_I x1), .int (fb_I x2)] σ Q := by
  refine fb_ofW (own := RX7) (by decide) (Nat.le_of_ble_eq_true rfl) rfl (fun p e s m args below meth c ls C hr hl w => ?_)
  exact tw_X7_hasBeside_0 C (fb_retz C hr) _ _ _ _ _ _ w hl ix1 ix2 h
end S_X7_hasBeside
section S_X7_lesser
variable {p : Program} {l : Launch} {e : Env} {s : State} {m : MethodId} {args : Array Value} {below : List Frame} {meth : Method} {c : Code} {Qm : State → Prop} {G : fb_G} {Q : Int → fb_St → Prop}
abbrev TT_X7_lesser_18 (p : Program) (l : Launch) (e : Env) (s : State) (m : MethodId) (args : Array Value) (below : List Frame) (meth : Method) (c : Code) (Qm : State → Prop) (G : fb_G) (r : Int → fb_St → Prop) : Prop := ∀ (s0 : Int) (σ : fb_St) (H : Heap) (locs : List Loc) (ls : Array Slot), fb_Wd G s σ H locs → lv_has ls 2 [] → fb_in s0 → r s0 σ → W p l e rm_X7_lesser s m args below meth c H locs 0 0 Qm (F0 m 18 ls [.int (fb_I s0)])
abbrev TT_X7_lesser_13 (p : Program) (l : Launch) (e : Env) (s : State) (m : MethodId) (args : Array Value) (below : List Frame) (meth : Method) (c : Code) (Qm : State → Prop) (G : fb_G) (r : Int → fb_St → Prop) : Prop := ∀ (x1 : Int) (σ : fb_St) (H : Heap) (locs : List Loc) (ls : Array Slot), fb_Wd G s σ H locs → lv_has ls 2 [(1, .int (fb_I x1))] → fb_in x1 → r x1 σ → W p l e rm_X7_lesser s m args below meth c H locs 0 0 Qm (F0 m 13 ls [])
abbrev TT_X7_lesser_17 (p : Program) (l : Launch) (e : Env) (s : State) (m : MethodId) (args : Array Value) (below : List Frame) (meth : Method) (c : Code) (Qm : State → Prop) (G : fb_G) (r : Int → fb_St → Prop) : Prop := ∀ (x0 : Int) (σ : fb_St) (H : Heap) (locs : List Loc) (ls : Array Slot), fb_Wd G s σ H locs → lv_has ls 2 [(0, .int (fb_I x0))] → fb_in x0 → r x0 σ → W p l e rm_X7_lesser s m args below meth c H locs 0 0 Qm (F0 m 17 ls [])
abbrev TT_X7_lesser_0 (p : Program) (l : Launch) (e : Env) (s : State) (m : MethodId) (args : Array Value) (below : List Frame) (meth : Method) (c : Code) (Qm : State → Prop) (G : fb_G) (r : Int → Int → fb_St → Prop) : Prop := ∀ (x0 x1 : Int) (σ : fb_St) (H : Heap) (locs : List Loc) (ls : Array Slot), fb_Wd G s σ H locs → lv_has ls 2 [(0, .int (fb_I x0)), (1, .int (fb_I x1))] → fb_in x0 → fb_in x1 → r x0 x1 σ → W p l e rm_X7_lesser s m args below meth c H locs 0 0 Qm (F0 m 0 ls [])
set_option maxRecDepth 100000 in
set_option maxHeartbeats 4000000 in
theorem tw_X7_lesser_18 (C : fb_C p s m args meth c G RX7 cX7_lesser 2) (hret : fb_RI p l e rm_X7_lesser s m args below meth c G cX7_lesser Qm Q) : TT_X7_lesser_18 p l e s m args below meth c Qm G (wj_X7_lesser_18 Q) := by
  intro s0 σ H locs ls w hl is0 h
  unfold wj_X7_lesser_18 at h
  exact hret _ _ _ _ _ _ is0 h w dX7_lesser_18
set_option maxRecDepth 100000 in
set_option maxHeartbeats 4000000 in
theorem tw_X7_lesser_13 (C : fb_C p s m args meth c G RX7 cX7_lesser 2) (hret : fb_RI p l e rm_X7_lesser s m args below meth c G cX7_lesser Qm Q) : TT_X7_lesser_13 p l e s m args below meth c Qm G (wj_X7_lesser_13 Q) := by
  intro x1 σ H locs ls w hl ix1 h
  unfold wj_X7_lesser_13 at h
  refine lv_iload_n C.1.1 C.1.2.1 dX7_lesser_13 rfl (lv_at hl 0 rfl) ?_
  refine lv_goto (tgt := 18) C.1.1 C.1.2.1 dX7_lesser_14 (by decide) ?_
  exact tw_X7_lesser_18 C hret x1 _ _ _ _ w (lv_sub hl [] rfl) ix1 h
set_option maxRecDepth 100000 in
set_option maxHeartbeats 4000000 in
theorem tw_X7_lesser_17 (C : fb_C p s m args meth c G RX7 cX7_lesser 2) (hret : fb_RI p l e rm_X7_lesser s m args below meth c G cX7_lesser Qm Q) : TT_X7_lesser_17 p l e s m args below meth c Qm G (wj_X7_lesser_17 Q) := by
  intro x0 σ H locs ls w hl ix0 h
  unfold wj_X7_lesser_17 at h
  refine lv_iload_n C.1.1 C.1.2.1 dX7_lesser_17 rfl (lv_at hl 0 rfl) ?_
  exact tw_X7_lesser_18 C hret x0 _ _ _ _ w (lv_sub hl [] rfl) ix0 h
set_option maxRecDepth 100000 in
set_option maxHeartbeats 4000000 in
theorem tw_X7_lesser_0 (C : fb_C p s m args meth c G RX7 cX7_lesser 2) (hret : fb_RI p l e rm_X7_lesser s m args below meth c G cX7_lesser Qm Q) : TT_X7_lesser_0 p l e s m args below meth c Qm G (fun x0 x1 σ => wp_X7_lesser x0 x1 σ Q) := by
  intro x0 x1 σ H locs ls w hl ix0 ix1 h
  unfold wp_X7_lesser at h
  refine lv_iload_n C.1.1 C.1.2.1 dX7_lesser_0 rfl (lv_at hl 0 rfl) ?_
  refine fb_if_lt (tgt := 13) C ix0 dX7_lesser_1 (by decide) (fun c1 => ?_) (fun c1 => ?_)
  · have h := h.1 c1
    exact tw_X7_lesser_13 C hret x1 _ _ _ _ w (lv_sub hl [1] rfl) ix1 h
  · have h := h.2 c1
    refine lv_iload_n C.1.1 C.1.2.1 dX7_lesser_4 rfl (lv_at hl 1 rfl) ?_
    refine fb_if_lt (tgt := 17) C ix1 dX7_lesser_5 (by decide) (fun c2 => ?_) (fun c2 => ?_)
    · have h := h.1 c2
      exact tw_X7_lesser_17 C hret x0 _ _ _ _ w (lv_sub hl [0] rfl) ix0 h
    · have h := h.2 c2
      refine lv_iload_n C.1.1 C.1.2.1 dX7_lesser_8 rfl (lv_at hl 1 rfl) ?_
      refine lv_iload_n C.1.1 C.1.2.1 dX7_lesser_9 rfl (lv_at hl 0 rfl) ?_
      refine fb_icmp_ge (tgt := 17) C ix1 ix0 dX7_lesser_10 (by decide) (fun c3 => ?_) (fun c3 => ?_)
      · have h := h.2 c3
        exact tw_X7_lesser_17 C hret x0 _ _ _ _ w (lv_sub hl [0] rfl) ix0 h
      · have h := h.1 c3
        exact tw_X7_lesser_13 C hret x1 _ _ _ _ w (lv_sub hl [1] rfl) ix1 h
theorem ct_X7_lesser (l : Launch) (G : fb_G) {x0 : Int} {x1 : Int} {σ : fb_St} (ix0 : fb_in x0) (ix1 : fb_in x1) (h : wp_X7_lesser x0 x1 σ Q) : fb_MI l G yX7_lesser cX7_lesser 2 (some .int) rm_X7_lesser [.int (fb_I x0), .int (fb_I x1)] σ Q := by
  refine fb_ofW (own := RX7) (by decide) (Nat.le_of_ble_eq_true rfl) rfl (fun p e s m args below meth c ls C hr hl w => ?_)
  exact tw_X7_lesser_0 C (fb_reti C hr) _ _ _ _ _ _ w hl ix0 ix1 h
end S_X7_lesser
section S_X7_passOf
variable {p : Program} {l : Launch} {e : Env} {s : State} {m : MethodId} {args : Array Value} {below : List Frame} {meth : Method} {c : Code} {Qm : State → Prop} {G : fb_G} {Q : Int → fb_St → Prop}
abbrev TT_X7_passOf_125 (p : Program) (l : Launch) (e : Env) (s : State) (m : MethodId) (args : Array Value) (below : List Frame) (meth : Method) (c : Code) (Qm : State → Prop) (G : fb_G) (r : Int → Int → Int → Int → Int → fb_St → Prop) : Prop := ∀ (x1 x2 x3 x4 x5 : Int) (σ : fb_St) (H : Heap) (locs : List Loc) (ls : Array Slot), fb_Wd G s σ H locs → lv_has ls 7 [(0, .ref (fb_ad G 48)), (1, .int (fb_I x1)), (2, .int (fb_I x2)), (3, .int (fb_I x3)), (4, .int (fb_I x4)), (5, .int (fb_I x5))] → fb_in x1 → fb_in x2 → fb_in x3 → fb_in x4 → fb_in x5 → r x1 x2 x3 x4 x5 σ → W p l e rm_X7_passOf s m args below meth c H locs 0 0 Qm (F0 m 125 ls [])
abbrev TT_X7_passOf_131 (p : Program) (l : Launch) (e : Env) (s : State) (m : MethodId) (args : Array Value) (below : List Frame) (meth : Method) (c : Code) (Qm : State → Prop) (G : fb_G) (r : Int → Int → Int → Int → fb_St → Prop) : Prop := ∀ (x1 x2 x3 x4 : Int) (σ : fb_St) (H : Heap) (locs : List Loc) (ls : Array Slot), fb_Wd G s σ H locs → lv_has ls 7 [(0, .ref (fb_ad G 48)), (1, .int (fb_I x1)), (2, .int (fb_I x2)), (3, .int (fb_I x3)), (4, .int (fb_I x4))] → fb_in x1 → fb_in x2 → fb_in x3 → fb_in x4 → r x1 x2 x3 x4 σ → W p l e rm_X7_passOf s m args below meth c H locs 0 0 Qm (F0 m 131 ls [])
abbrev TT_X7_passOf_60 (p : Program) (l : Launch) (e : Env) (s : State) (m : MethodId) (args : Array Value) (below : List Frame) (meth : Method) (c : Code) (Qm : State → Prop) (G : fb_G) (r : Int → Int → Int → Int → Int → fb_St → Prop) : Prop := ∀ (x1 x2 x3 x4 x5 : Int) (σ : fb_St) (H : Heap) (locs : List Loc) (ls : Array Slot), fb_Wd G s σ H locs → lv_has ls 7 [(0, .ref (fb_ad G 48)), (1, .int (fb_I x1)), (2, .int (fb_I x2)), (3, .int (fb_I x3)), (4, .int (fb_I x4)), (5, .int (fb_I x5))] → fb_in x1 → fb_in x2 → fb_in x3 → fb_in x4 → fb_in x5 → r x1 x2 x3 x4 x5 σ → W p l e rm_X7_passOf s m args below meth c H locs 0 0 Qm (F0 m 60 ls [])
abbrev TT_X7_passOf_57 (p : Program) (l : Launch) (e : Env) (s : State) (m : MethodId) (args : Array Value) (below : List Frame) (meth : Method) (c : Code) (Qm : State → Prop) (G : fb_G) (r : Int → Int → Int → Int → fb_St → Prop) : Prop := ∀ (x1 x2 x3 x4 : Int) (σ : fb_St) (H : Heap) (locs : List Loc) (ls : Array Slot), fb_Wd G s σ H locs → lv_has ls 7 [(0, .ref (fb_ad G 48)), (1, .int (fb_I x1)), (2, .int (fb_I x2)), (3, .int (fb_I x3)), (4, .int (fb_I x4))] → fb_in x1 → fb_in x2 → fb_in x3 → fb_in x4 → r x1 x2 x3 x4 σ → W p l e rm_X7_passOf s m args below meth c H locs 0 0 Qm (F0 m 57 ls [])
abbrev TT_X7_passOf_6 (p : Program) (l : Launch) (e : Env) (s : State) (m : MethodId) (args : Array Value) (below : List Frame) (meth : Method) (c : Code) (Qm : State → Prop) (G : fb_G) (r : Int → Int → Int → Int → fb_St → Prop) : Prop := ∀ (x1 x2 x3 x4 : Int) (σ : fb_St) (H : Heap) (locs : List Loc) (ls : Array Slot), fb_Wd G s σ H locs → lv_has ls 7 [(0, .ref (fb_ad G 48)), (1, .int (fb_I x1)), (2, .int (fb_I x2)), (3, .int (fb_I x3)), (4, .int (fb_I x4))] → fb_in x1 → fb_in x2 → fb_in x3 → fb_in x4 → r x1 x2 x3 x4 σ → W p l e rm_X7_passOf s m args below meth c H locs 0 0 Qm (F0 m 6 ls [])
abbrev TT_X7_passOf_0 (p : Program) (l : Launch) (e : Env) (s : State) (m : MethodId) (args : Array Value) (below : List Frame) (meth : Method) (c : Code) (Qm : State → Prop) (G : fb_G) (r : Int → Int → fb_St → Prop) : Prop := ∀ (x1 x2 : Int) (σ : fb_St) (H : Heap) (locs : List Loc) (ls : Array Slot), fb_Wd G s σ H locs → lv_has ls 7 [(0, .ref (fb_ad G 48)), (1, .int (fb_I x1)), (2, .int (fb_I x2))] → fb_in x1 → fb_in x2 → r x1 x2 σ → W p l e rm_X7_passOf s m args below meth c H locs 0 0 Qm (F0 m 0 ls [])
set_option maxRecDepth 100000 in
set_option maxHeartbeats 4000000 in
theorem tw_X7_passOf_125 (C : fb_C p s m args meth c G RX7 cX7_passOf 7) (hret : fb_RI p l e rm_X7_passOf s m args below meth c G cX7_passOf Qm Q) {r6 : Int → Int → Int → Int → fb_St → Prop} (h6 : TT_X7_passOf_6 p l e s m args below meth c Qm G r6) {r60 : Int → Int → Int → Int → Int → fb_St → Prop} (h60 : TT_X7_passOf_60 p l e s m args below meth c Qm G r60) : TT_X7_passOf_125 p l e s m args below meth c Qm G (wj_X7_passOf_125 r6 r60 Q) := by
  intro x1 x2 x3 x4 x5 σ H locs ls w hl ix1 ix2 ix3 ix4 ix5 h
  unfold wj_X7_passOf_125 at h
  obtain ⟨i35, h⟩ := h
  refine fb_iinc (b := x5 + 1) (k := 5) (lv' := [(5, .int (fb_I (x5 + 1))), (0, .ref (fb_ad G 48)), (1, .int (fb_I x1)), (2, .int (fb_I x2)), (3, .int (fb_I x3)), (4, .int (fb_I x4))]) C dX7_passOf_125 hl rfl rfl (by decide) rfl (fun ls hl => ?_)
  refine lv_goto (tgt := 60) C.1.1 C.1.2.1 dX7_passOf_128 (by decide) ?_
  exact h60 x1 x2 x3 x4 (x5 + 1) _ _ _ _ w (lv_sub hl [1, 2, 3, 4, 5, 0] rfl) ix1 ix2 ix3 ix4 i35 h
set_option maxRecDepth 100000 in
set_option maxHeartbeats 4000000 in
theorem tw_X7_passOf_131 (C : fb_C p s m args meth c G RX7 cX7_passOf 7) (hret : fb_RI p l e rm_X7_passOf s m args below meth c G cX7_passOf Qm Q) {r6 : Int → Int → Int → Int → fb_St → Prop} (h6 : TT_X7_passOf_6 p l e s m args below meth c Qm G r6) : TT_X7_passOf_131 p l e s m args below meth c Qm G (wj_X7_passOf_131 r6 Q) := by
  intro x1 x2 x3 x4 σ H locs ls w hl ix1 ix2 ix3 ix4 h
  unfold wj_X7_passOf_131 at h
  obtain ⟨i34, h⟩ := h
  refine fb_iinc (b := x4 + 1) (k := 4) (lv' := [(4, .int (fb_I (x4 + 1))), (0, .ref (fb_ad G 48)), (1, .int (fb_I x1)), (2, .int (fb_I x2)), (3, .int (fb_I x3))]) C dX7_passOf_131 hl rfl rfl (by decide) rfl (fun ls hl => ?_)
  refine lv_goto (tgt := 6) C.1.1 C.1.2.1 dX7_passOf_134 (by decide) ?_
  exact h6 x1 x2 x3 (x4 + 1) _ _ _ _ w (lv_sub hl [1, 2, 3, 4, 0] rfl) ix1 ix2 ix3 i34 h
set_option maxRecDepth 100000 in
set_option maxHeartbeats 4000000 in
theorem tw_X7_passOf_60 (C : fb_C p s m args meth c G RX7 cX7_passOf 7) (hret : fb_RI p l e rm_X7_passOf s m args below meth c G cX7_passOf Qm Q) {r6 : Int → Int → Int → Int → fb_St → Prop} (h6 : TT_X7_passOf_6 p l e s m args below meth c Qm G r6) {r60 : Int → Int → Int → Int → Int → fb_St → Prop} (h60 : TT_X7_passOf_60 p l e s m args below meth c Qm G r60) : TT_X7_passOf_60 p l e s m args below meth c Qm G (wb_X7_passOf_60 r6 r60 Q) := by
  intro x1 x2 x3 x4 x5 σ H locs ls w hl ix1 ix2 ix3 ix4 ix5 h
  unfold wb_X7_passOf_60 at h
  refine lv_iload C.1.1 C.1.2.1 dX7_passOf_60 (lv_at hl 5 rfl) ?_
  refine fb_iconst C dX7_passOf_62 ?_
  refine fb_icmp_ge (tgt := 131) C ix5 (by decide) dX7_passOf_63 (by decide) (fun c15 => ?_) (fun c15 => ?_)
  · have h := h.2 c15
    exact tw_X7_passOf_131 C hret h6 x1 x2 x3 x4 _ _ _ _ w (lv_sub hl [0, 1, 2, 3, 4] rfl) ix1 ix2 ix3 ix4 h
  · have h := h.1 c15
    refine lv_aload_n C.1.1 C.1.2.1 dX7_passOf_66 rfl (lv_at hl 0 rfl) ?_
    refine fb_getr (k2 := 60) C w (fb_k48 C) rfl fl_X7_44 dX7_passOf_67 ?_
    refine lv_iload C.1.1 C.1.2.1 dX7_passOf_70 (lv_at hl 4 rfl) ?_
    obtain ⟨z16, z17, h⟩ := h
    refine fb_al C w 144 (fb_k60 C) rfl rfl z16 z17 dX7_passOf_72 ?_
    have i18 := w.2.2.2 60 x4
    refine lv_iload_n C.1.1 C.1.2.1 dX7_passOf_73 rfl (lv_at hl 1 rfl) ?_
    refine fb_icmp_ne (tgt := 131) C i18 ix1 dX7_passOf_74 (by decide) (fun c19 => ?_) (fun c19 => ?_)
    · have h := h.2 c19
      exact tw_X7_passOf_131 C hret h6 x1 x2 x3 x4 _ _ _ _ w (lv_sub hl [0, 1, 2, 3, 4] rfl) ix1 ix2 ix3 ix4 h
    · have h := h.1 c19
      refine lv_aload_n C.1.1 C.1.2.1 dX7_passOf_77 rfl (lv_at hl 0 rfl) ?_
      refine lv_iload C.1.1 C.1.2.1 dX7_passOf_78 (lv_at hl 4 rfl) ?_
      refine lv_iload C.1.1 C.1.2.1 dX7_passOf_80 (lv_at hl 5 rfl) ?_
      refine fb_callVi (As := [.int (fb_I x4), .int (fb_I x5)]) (rest := []) C w (ct_X7_beside l G ix4 ix5 h) mv_X7_77 (fb_k48 C) rfl ⟨rfl, rfl, Nat.le_of_ble_eq_true rfl, Nat.le_of_ble_eq_true rfl, Nat.zero_le _, Nat.zero_le _⟩ rfl hl.1 rfl (Nat.le_of_ble_eq_true rfl) dX7_passOf_82 (fun a20 σ20 H locs h ia20 w => ?_)
      refine lv_istore (lv' := [(6, .int (fb_I a20)), (0, .ref (fb_ad G 48)), (1, .int (fb_I x1)), (2, .int (fb_I x2)), (3, .int (fb_I x3)), (4, .int (fb_I x4)), (5, .int (fb_I x5))]) C.1.1 C.1.2.1 dX7_passOf_85 hl (by decide) rfl (fun ls hl => ?_)
      refine lv_iload C.1.1 C.1.2.1 dX7_passOf_87 (lv_at hl 0 rfl) ?_
      refine fb_if_lt (tgt := 125) C ia20 dX7_passOf_89 (by decide) (fun c21 => ?_) (fun c21 => ?_)
      · have h := h.1 c21
        exact tw_X7_passOf_125 C hret h6 h60 x1 x2 x3 x4 x5 _ _ _ _ w (lv_sub hl [1, 2, 3, 4, 5, 6] rfl) ix1 ix2 ix3 ix4 ix5 h
      · have h := h.2 c21
        refine lv_aload_n C.1.1 C.1.2.1 dX7_passOf_92 rfl (lv_at hl 1 rfl) ?_
        refine fb_getr (k2 := 60) C w (fb_k48 C) rfl fl_X7_44 dX7_passOf_93 ?_
        refine lv_iload C.1.1 C.1.2.1 dX7_passOf_96 (lv_at hl 0 rfl) ?_
        obtain ⟨z22, z23, h⟩ := h
        refine fb_al C w 144 (fb_k60 C) rfl rfl z22 z23 dX7_passOf_98 ?_
        have i24 := w.2.2.2 60 a20
        refine lv_iload_n C.1.1 C.1.2.1 dX7_passOf_99 rfl (lv_at hl 3 rfl) ?_
        refine fb_icmp_ne (tgt := 125) C i24 ix2 dX7_passOf_100 (by decide) (fun c25 => ?_) (fun c25 => ?_)
        · have h := h.2 c25
          exact tw_X7_passOf_125 C hret h6 h60 x1 x2 x3 x4 x5 _ _ _ _ w (lv_sub hl [1, 2, 3, 4, 5, 6] rfl) ix1 ix2 ix3 ix4 ix5 h
        · have h := h.1 c25
          refine lv_iload_n C.1.1 C.1.2.1 dX7_passOf_103 rfl (lv_at hl 4 rfl) ?_
          refine lv_aload_n C.1.1 C.1.2.1 dX7_passOf_104 rfl (lv_at hl 1 rfl) ?_
          refine fb_getr (k2 := 49) C w (fb_k48 C) rfl fl_X7_7 dX7_passOf_105 ?_
          refine lv_iload C.1.1 C.1.2.1 dX7_passOf_108 (lv_at hl 5 rfl) ?_
          obtain ⟨z26, z27, h⟩ := h
          refine fb_al C w 292 (fb_k49 C) rfl rfl z26 z27 dX7_passOf_110 ?_
          have i28 := w.2.2.2 49 x4
          refine lv_aload_n C.1.1 C.1.2.1 dX7_passOf_111 rfl (lv_at hl 1 rfl) ?_
          refine fb_getr (k2 := 49) C w (fb_k48 C) rfl fl_X7_7 dX7_passOf_112 ?_
          refine lv_iload C.1.1 C.1.2.1 dX7_passOf_115 (lv_at hl 0 rfl) ?_
          obtain ⟨z29, z30, h⟩ := h
          refine fb_al C w 292 (fb_k49 C) rfl rfl z29 z30 dX7_passOf_117 ?_
          have i31 := w.2.2.2 49 a20
          refine fb_callSi (As := [.int (fb_I (σ20 49 x4)), .int (fb_I (σ20 49 a20))]) (rest := [.int (fb_I x3)]) C w (ct_X7_greater l G i28 i31 h) ms_X7_98 ⟨rfl, rfl, Nat.le_of_ble_eq_true rfl, Nat.le_of_ble_eq_true rfl, Nat.zero_le _, Nat.zero_le _⟩ rfl hl.1 rfl (Nat.le_of_ble_eq_true rfl) dX7_passOf_118 (fun a32 σ32 H locs h ia32 w => ?_)
          refine fb_callSi (As := [.int (fb_I x3), .int (fb_I a32)]) (rest := []) C w (ct_X7_lesser l G ix3 ia32 h) ms_X7_119 ⟨rfl, rfl, Nat.le_of_ble_eq_true rfl, Nat.le_of_ble_eq_true rfl, Nat.zero_le _, Nat.zero_le _⟩ rfl hl.1 rfl (Nat.le_of_ble_eq_true rfl) dX7_passOf_121 (fun a33 σ33 H locs h ia33 w => ?_)
          refine lv_istore_n (lv' := [(3, .int (fb_I a33)), (6, .int (fb_I a20)), (0, .ref (fb_ad G 48)), (1, .int (fb_I x1)), (2, .int (fb_I x2)), (4, .int (fb_I x4)), (5, .int (fb_I x5))]) C.1.1 C.1.2.1 dX7_passOf_124 rfl hl (by decide) rfl (fun ls hl => ?_)
          exact tw_X7_passOf_125 C hret h6 h60 x1 x2 a33 x4 x5 _ _ _ _ w (lv_sub hl [2, 3, 4, 0, 5, 6] rfl) ix1 ix2 ia33 ix4 ix5 h
theorem tl_X7_passOf_60 (C : fb_C p s m args meth c G RX7 cX7_passOf 7) (hret : fb_RI p l e rm_X7_passOf s m args below meth c G cX7_passOf Qm Q) {r6 : Int → Int → Int → Int → fb_St → Prop} (h6 : TT_X7_passOf_6 p l e s m args below meth c Qm G r6) : ∀ n : Nat, TT_X7_passOf_60 p l e s m args below meth c Qm G (wl_X7_passOf_60 r6 Q n) := by
  intro n
  induction n with
  | zero => intro x1 x2 x3 x4 x5 σ H locs ls w hl ix1 ix2 ix3 ix4 ix5 h; exact h.elim
  | succ n ih => exact tw_X7_passOf_60 C hret h6 ih
set_option maxRecDepth 100000 in
set_option maxHeartbeats 4000000 in
theorem tw_X7_passOf_57 (C : fb_C p s m args meth c G RX7 cX7_passOf 7) (hret : fb_RI p l e rm_X7_passOf s m args below meth c G cX7_passOf Qm Q) {r6 : Int → Int → Int → Int → fb_St → Prop} (h6 : TT_X7_passOf_6 p l e s m args below meth c Qm G r6) : TT_X7_passOf_57 p l e s m args below meth c Qm G (wj_X7_passOf_57 r6 Q) := by
  intro x1 x2 x3 x4 σ H locs ls w hl ix1 ix2 ix3 ix4 h
  unfold wj_X7_passOf_57 at h
  refine fb_iconst C dX7_passOf_57 ?_
  refine lv_istore (lv' := [(5, .int (fb_I 0)), (0, .ref (fb_ad G 48)), (1, .int (fb_I x1)), (2, .int (fb_I x2)), (3, .int (fb_I x3)), (4, .int (fb_I x4))]) C.1.1 C.1.2.1 dX7_passOf_58 hl (by decide) rfl (fun ls hl => ?_)
  obtain ⟨n, h⟩ := h
  exact tl_X7_passOf_60 C hret h6 n x1 x2 x3 x4 0 _ _ _ _ w (lv_sub hl [1, 2, 3, 4, 5, 0] rfl) ix1 ix2 ix3 ix4 (by decide) h
set_option maxRecDepth 100000 in
set_option maxHeartbeats 4000000 in
theorem tw_X7_passOf_6 (C : fb_C p s m args meth c G RX7 cX7_passOf 7) (hret : fb_RI p l e rm_X7_passOf s m args below meth c G cX7_passOf Qm Q) {r6 : Int → Int → Int → Int → fb_St → Prop} (h6 : TT_X7_passOf_6 p l e s m args below meth c Qm G r6) : TT_X7_passOf_6 p l e s m args below meth c Qm G (wb_X7_passOf_6 r6 Q) := by
  intro x1 x2 x3 x4 σ H locs ls w hl ix1 ix2 ix3 ix4 h
  unfold wb_X7_passOf_6 at h
  refine lv_iload C.1.1 C.1.2.1 dX7_passOf_6 (lv_at hl 4 rfl) ?_
  refine lv_aload_n C.1.1 C.1.2.1 dX7_passOf_8 rfl (lv_at hl 0 rfl) ?_
  refine fb_callVi (As := []) (rest := [.int (fb_I x4)]) C w (ct_X7_dots l G h) mv_X7_80 (fb_k48 C) rfl ⟨rfl, rfl, Nat.le_of_ble_eq_true rfl, Nat.le_of_ble_eq_true rfl, Nat.zero_le _, Nat.zero_le _⟩ rfl hl.1 rfl (Nat.le_of_ble_eq_true rfl) dX7_passOf_9 (fun a1 σ1 H locs h ia1 w => ?_)
  refine fb_icmp_ge (tgt := 137) C ix4 ia1 dX7_passOf_12 (by decide) (fun c2 => ?_) (fun c2 => ?_)
  · have h := h.2 c2
    refine lv_iload_n C.1.1 C.1.2.1 dX7_passOf_137 rfl (lv_at hl 3 rfl) ?_
    exact hret _ _ _ _ _ _ ix3 h w dX7_passOf_138
  · have h := h.1 c2
    refine lv_aload_n C.1.1 C.1.2.1 dX7_passOf_15 rfl (lv_at hl 0 rfl) ?_
    refine fb_getr (k2 := 60) C w (fb_k48 C) rfl fl_X7_44 dX7_passOf_16 ?_
    refine lv_iload C.1.1 C.1.2.1 dX7_passOf_19 (lv_at hl 4 rfl) ?_
    obtain ⟨z3, z4, h⟩ := h
    refine fb_al C w 144 (fb_k60 C) rfl rfl z3 z4 dX7_passOf_21 ?_
    have i5 := w.2.2.2 60 x4
    refine fb_if_ne (tgt := 57) C i5 dX7_passOf_22 (by decide) (fun c6 => ?_) (fun c6 => ?_)
    · have h := h.2 c6
      exact tw_X7_passOf_57 C hret h6 x1 x2 x3 x4 _ _ _ _ w (lv_sub hl [0, 1, 2, 3, 4] rfl) ix1 ix2 ix3 ix4 h
    · have h := h.1 c6
      refine lv_aload_n C.1.1 C.1.2.1 dX7_passOf_25 rfl (lv_at hl 0 rfl) ?_
      refine lv_iload C.1.1 C.1.2.1 dX7_passOf_26 (lv_at hl 4 rfl) ?_
      refine lv_iload_n C.1.1 C.1.2.1 dX7_passOf_28 rfl (lv_at hl 1 rfl) ?_
      refine fb_callVi (As := [.int (fb_I x4), .int (fb_I x1)]) (rest := []) C w (ct_X7_hasBeside l G ix4 ix1 h) mv_X7_116 (fb_k48 C) rfl ⟨rfl, rfl, Nat.le_of_ble_eq_true rfl, Nat.le_of_ble_eq_true rfl, Nat.zero_le _, Nat.zero_le _⟩ rfl hl.1 rfl (Nat.le_of_ble_eq_true rfl) dX7_passOf_29 (fun a7 σ7 H locs h ia7 w => ?_)
      refine fb_if_eq (tgt := 57) C ia7 dX7_passOf_32 (by decide) (fun c8 => ?_) (fun c8 => ?_)
      · have h := h.1 c8
        exact tw_X7_passOf_57 C hret h6 x1 x2 x3 x4 _ _ _ _ w (lv_sub hl [0, 1, 2, 3, 4] rfl) ix1 ix2 ix3 ix4 h
      · have h := h.2 c8
        refine lv_aload_n C.1.1 C.1.2.1 dX7_passOf_35 rfl (lv_at hl 0 rfl) ?_
        refine lv_iload C.1.1 C.1.2.1 dX7_passOf_36 (lv_at hl 4 rfl) ?_
        refine lv_iload_n C.1.1 C.1.2.1 dX7_passOf_38 rfl (lv_at hl 2 rfl) ?_
        refine fb_callVi (As := [.int (fb_I x4), .int (fb_I x2)]) (rest := []) C w (ct_X7_hasBeside l G ix4 ix2 h) mv_X7_116 (fb_k48 C) rfl ⟨rfl, rfl, Nat.le_of_ble_eq_true rfl, Nat.le_of_ble_eq_true rfl, Nat.zero_le _, Nat.zero_le _⟩ rfl hl.1 rfl (Nat.le_of_ble_eq_true rfl) dX7_passOf_39 (fun a9 σ9 H locs h ia9 w => ?_)
        refine fb_if_eq (tgt := 57) C ia9 dX7_passOf_42 (by decide) (fun c10 => ?_) (fun c10 => ?_)
        · have h := h.1 c10
          exact tw_X7_passOf_57 C hret h6 x1 x2 x3 x4 _ _ _ _ w (lv_sub hl [0, 1, 2, 3, 4] rfl) ix1 ix2 ix3 ix4 h
        · have h := h.2 c10
          refine lv_iload_n C.1.1 C.1.2.1 dX7_passOf_45 rfl (lv_at hl 3 rfl) ?_
          refine lv_aload_n C.1.1 C.1.2.1 dX7_passOf_46 rfl (lv_at hl 0 rfl) ?_
          refine fb_getr (k2 := 49) C w (fb_k48 C) rfl fl_X7_7 dX7_passOf_47 ?_
          refine lv_iload C.1.1 C.1.2.1 dX7_passOf_50 (lv_at hl 4 rfl) ?_
          obtain ⟨z11, z12, h⟩ := h
          refine fb_al C w 292 (fb_k49 C) rfl rfl z11 z12 dX7_passOf_52 ?_
          have i13 := w.2.2.2 49 x4
          refine fb_callSi (As := [.int (fb_I x3), .int (fb_I (σ9 49 x4))]) (rest := []) C w (ct_X7_lesser l G ix3 i13 h) ms_X7_119 ⟨rfl, rfl, Nat.le_of_ble_eq_true rfl, Nat.le_of_ble_eq_true rfl, Nat.zero_le _, Nat.zero_le _⟩ rfl hl.1 rfl (Nat.le_of_ble_eq_true rfl) dX7_passOf_53 (fun a14 σ14 H locs h ia14 w => ?_)
          refine lv_istore_n (lv' := [(3, .int (fb_I a14)), (0, .ref (fb_ad G 48)), (1, .int (fb_I x1)), (2, .int (fb_I x2)), (4, .int (fb_I x4))]) C.1.1 C.1.2.1 dX7_passOf_56 rfl hl (by decide) rfl (fun ls hl => ?_)
          exact tw_X7_passOf_57 C hret h6 x1 x2 a14 x4 _ _ _ _ w (lv_sub hl [1, 2, 3, 0, 4] rfl) ix1 ix2 ia14 ix4 h
theorem tl_X7_passOf_6 (C : fb_C p s m args meth c G RX7 cX7_passOf 7) (hret : fb_RI p l e rm_X7_passOf s m args below meth c G cX7_passOf Qm Q) : ∀ n : Nat, TT_X7_passOf_6 p l e s m args below meth c Qm G (wl_X7_passOf_6 Q n) := by
  intro n
  induction n with
  | zero => intro x1 x2 x3 x4 σ H locs ls w hl ix1 ix2 ix3 ix4 h; exact h.elim
  | succ n ih => exact tw_X7_passOf_6 C hret ih
set_option maxRecDepth 100000 in
set_option maxHeartbeats 4000000 in
theorem tw_X7_passOf_0 (C : fb_C p s m args meth c G RX7 cX7_passOf 7) (hret : fb_RI p l e rm_X7_passOf s m args below meth c G cX7_passOf Qm Q) : TT_X7_passOf_0 p l e s m args below meth c Qm G (fun x1 x2 σ => wp_X7_passOf x1 x2 σ Q) := by
  intro x1 x2 σ H locs ls w hl ix1 ix2 h
  unfold wp_X7_passOf at h
  refine fb_bipush C dX7_passOf_0 (by decide) ?_
  refine lv_istore_n (lv' := [(3, .int (fb_I (-6))), (0, .ref (fb_ad G 48)), (1, .int (fb_I x1)), (2, .int (fb_I x2))]) C.1.1 C.1.2.1 dX7_passOf_2 rfl hl (by decide) rfl (fun ls hl => ?_)
  refine fb_iconst C dX7_passOf_3 ?_
  refine lv_istore (lv' := [(4, .int (fb_I 0)), (3, .int (fb_I (-6))), (0, .ref (fb_ad G 48)), (1, .int (fb_I x1)), (2, .int (fb_I x2))]) C.1.1 C.1.2.1 dX7_passOf_4 hl (by decide) rfl (fun ls hl => ?_)
  obtain ⟨n, h⟩ := h
  exact tl_X7_passOf_6 C hret n x1 x2 (-6) 0 _ _ _ _ w (lv_sub hl [2, 3, 4, 1, 0] rfl) ix1 ix2 (by decide) (by decide) h
theorem ct_X7_passOf (l : Launch) (G : fb_G) {x1 : Int} {x2 : Int} {σ : fb_St} (ix1 : fb_in x1) (ix2 : fb_in x2) (h : wp_X7_passOf x1 x2 σ Q) : fb_MI l G yX7_passOf cX7_passOf 7 (some .int) rm_X7_passOf [.ref (fb_ad G 48), .int (fb_I x1), .int (fb_I x2)] σ Q := by
  refine fb_ofW (own := RX7) (by decide) (Nat.le_of_ble_eq_true rfl) rfl (fun p e s m args below meth c ls C hr hl w => ?_)
  exact tw_X7_passOf_0 C (fb_reti C hr) _ _ _ _ _ _ w hl ix1 ix2 h
end S_X7_passOf
section S_X7_layPasses
variable {p : Program} {l : Launch} {e : Env} {s : State} {m : MethodId} {args : Array Value} {below : List Frame} {meth : Method} {c : Code} {Qm : State → Prop} {G : fb_G} {Q : Int → fb_St → Prop}
abbrev TT_X7_layPasses_170 (p : Program) (l : Launch) (e : Env) (s : State) (m : MethodId) (args : Array Value) (below : List Frame) (meth : Method) (c : Code) (Qm : State → Prop) (G : fb_G) (r : Int → Int → Int → Int → fb_St → Prop) : Prop := ∀ (x1 x2 x3 x4 : Int) (σ : fb_St) (H : Heap) (locs : List Loc) (ls : Array Slot), fb_Wd G s σ H locs → lv_has ls 6 [(0, .ref (fb_ad G 48)), (1, .int (fb_I x1)), (2, .int (fb_I x2)), (3, .int (fb_I x3)), (4, .int (fb_I x4))] → fb_in x1 → fb_in x2 → fb_in x3 → fb_in x4 → r x1 x2 x3 x4 σ → W p l e rm_X7_layPasses s m args below meth c H locs 0 0 Qm (F0 m 170 ls [])
abbrev TT_X7_layPasses_166 (p : Program) (l : Launch) (e : Env) (s : State) (m : MethodId) (args : Array Value) (below : List Frame) (meth : Method) (c : Code) (Qm : State → Prop) (G : fb_G) (r : Int → Int → Int → Int → Int → Int → Int → fb_St → Prop) : Prop := ∀ (x1 x2 x3 x4 s0 s1 s2 : Int) (σ : fb_St) (H : Heap) (locs : List Loc) (ls : Array Slot), fb_Wd G s σ H locs → lv_has ls 6 [(0, .ref (fb_ad G 48)), (1, .int (fb_I x1)), (2, .int (fb_I x2)), (3, .int (fb_I x3)), (4, .int (fb_I x4))] → fb_in x1 → fb_in x2 → fb_in x3 → fb_in x4 → fb_in s0 → fb_in s1 → fb_in s2 → r x1 x2 x3 x4 s0 s1 s2 σ → W p l e rm_X7_layPasses s m args below meth c H locs 0 0 Qm (F0 m 166 ls [.int (fb_I s0), .int (fb_I s1), .int (fb_I s2), .ref (fb_ad G 65)])
abbrev TT_X7_layPasses_79 (p : Program) (l : Launch) (e : Env) (s : State) (m : MethodId) (args : Array Value) (below : List Frame) (meth : Method) (c : Code) (Qm : State → Prop) (G : fb_G) (r : Int → Int → Int → Int → fb_St → Prop) : Prop := ∀ (x1 x2 x3 x4 : Int) (σ : fb_St) (H : Heap) (locs : List Loc) (ls : Array Slot), fb_Wd G s σ H locs → lv_has ls 6 [(0, .ref (fb_ad G 48)), (1, .int (fb_I x1)), (2, .int (fb_I x2)), (3, .int (fb_I x3)), (4, .int (fb_I x4))] → fb_in x1 → fb_in x2 → fb_in x3 → fb_in x4 → r x1 x2 x3 x4 σ → W p l e rm_X7_layPasses s m args below meth c H locs 0 0 Qm (F0 m 79 ls [])
abbrev TT_X7_layPasses_176 (p : Program) (l : Launch) (e : Env) (s : State) (m : MethodId) (args : Array Value) (below : List Frame) (meth : Method) (c : Code) (Qm : State → Prop) (G : fb_G) (r : Int → Int → fb_St → Prop) : Prop := ∀ (x1 x2 : Int) (σ : fb_St) (H : Heap) (locs : List Loc) (ls : Array Slot), fb_Wd G s σ H locs → lv_has ls 6 [(0, .ref (fb_ad G 48)), (1, .int (fb_I x1)), (2, .int (fb_I x2))] → fb_in x1 → fb_in x2 → r x1 x2 σ → W p l e rm_X7_layPasses s m args below meth c H locs 0 0 Qm (F0 m 176 ls [])
abbrev TT_X7_layPasses_59 (p : Program) (l : Launch) (e : Env) (s : State) (m : MethodId) (args : Array Value) (below : List Frame) (meth : Method) (c : Code) (Qm : State → Prop) (G : fb_G) (r : Int → Int → Int → Int → fb_St → Prop) : Prop := ∀ (x1 x2 x3 x4 : Int) (σ : fb_St) (H : Heap) (locs : List Loc) (ls : Array Slot), fb_Wd G s σ H locs → lv_has ls 6 [(0, .ref (fb_ad G 48)), (1, .int (fb_I x1)), (2, .int (fb_I x2)), (3, .int (fb_I x3)), (4, .int (fb_I x4))] → fb_in x1 → fb_in x2 → fb_in x3 → fb_in x4 → r x1 x2 x3 x4 σ → W p l e rm_X7_layPasses s m args below meth c H locs 0 0 Qm (F0 m 59 ls [])
abbrev TT_X7_layPasses_55 (p : Program) (l : Launch) (e : Env) (s : State) (m : MethodId) (args : Array Value) (below : List Frame) (meth : Method) (c : Code) (Qm : State → Prop) (G : fb_G) (r : Int → Int → Int → fb_St → Prop) : Prop := ∀ (x1 x2 s0 : Int) (σ : fb_St) (H : Heap) (locs : List Loc) (ls : Array Slot), fb_Wd G s σ H locs → lv_has ls 6 [(0, .ref (fb_ad G 48)), (1, .int (fb_I x1)), (2, .int (fb_I x2))] → fb_in x1 → fb_in x2 → fb_in s0 → r x1 x2 s0 σ → W p l e rm_X7_layPasses s m args below meth c H locs 0 0 Qm (F0 m 55 ls [.int (fb_I s0)])
abbrev TT_X7_layPasses_54 (p : Program) (l : Launch) (e : Env) (s : State) (m : MethodId) (args : Array Value) (below : List Frame) (meth : Method) (c : Code) (Qm : State → Prop) (G : fb_G) (r : Int → Int → fb_St → Prop) : Prop := ∀ (x1 x2 : Int) (σ : fb_St) (H : Heap) (locs : List Loc) (ls : Array Slot), fb_Wd G s σ H locs → lv_has ls 6 [(0, .ref (fb_ad G 48)), (1, .int (fb_I x1)), (2, .int (fb_I x2))] → fb_in x1 → fb_in x2 → r x1 x2 σ → W p l e rm_X7_layPasses s m args below meth c H locs 0 0 Qm (F0 m 54 ls [])
abbrev TT_X7_layPasses_24 (p : Program) (l : Launch) (e : Env) (s : State) (m : MethodId) (args : Array Value) (below : List Frame) (meth : Method) (c : Code) (Qm : State → Prop) (G : fb_G) (r : Int → Int → fb_St → Prop) : Prop := ∀ (x1 x2 : Int) (σ : fb_St) (H : Heap) (locs : List Loc) (ls : Array Slot), fb_Wd G s σ H locs → lv_has ls 6 [(0, .ref (fb_ad G 48)), (1, .int (fb_I x1)), (2, .int (fb_I x2))] → fb_in x1 → fb_in x2 → r x1 x2 σ → W p l e rm_X7_layPasses s m args below meth c H locs 0 0 Qm (F0 m 24 ls [])
abbrev TT_X7_layPasses_2 (p : Program) (l : Launch) (e : Env) (s : State) (m : MethodId) (args : Array Value) (below : List Frame) (meth : Method) (c : Code) (Qm : State → Prop) (G : fb_G) (r : Int → Int → fb_St → Prop) : Prop := ∀ (x1 x2 : Int) (σ : fb_St) (H : Heap) (locs : List Loc) (ls : Array Slot), fb_Wd G s σ H locs → lv_has ls 6 [(0, .ref (fb_ad G 48)), (1, .int (fb_I x1)), (2, .int (fb_I x2))] → fb_in x1 → fb_in x2 → r x1 x2 σ → W p l e rm_X7_layPasses s m args below meth c H locs 0 0 Qm (F0 m 2 ls [])
abbrev TT_X7_layPasses_0 (p : Program) (l : Launch) (e : Env) (s : State) (m : MethodId) (args : Array Value) (below : List Frame) (meth : Method) (c : Code) (Qm : State → Prop) (G : fb_G) (r : Int → fb_St → Prop) : Prop := ∀ (x1 : Int) (σ : fb_St) (H : Heap) (locs : List Loc) (ls : Array Slot), fb_Wd G s σ H locs → lv_has ls 6 [(0, .ref (fb_ad G 48)), (1, .int (fb_I x1))] → fb_in x1 → r x1 σ → W p l e rm_X7_layPasses s m args below meth c H locs 0 0 Qm (F0 m 0 ls [])
set_option maxRecDepth 100000 in
set_option maxHeartbeats 4000000 in
theorem tw_X7_layPasses_170 (C : fb_C p s m args meth c G RX7 cX7_layPasses 6) (hret : fb_RV p l e rm_X7_layPasses s m args below meth c G cX7_layPasses Qm Q) {r24 : Int → Int → fb_St → Prop} (h24 : TT_X7_layPasses_24 p l e s m args below meth c Qm G r24) {r59 : Int → Int → Int → Int → fb_St → Prop} (h59 : TT_X7_layPasses_59 p l e s m args below meth c Qm G r59) : TT_X7_layPasses_170 p l e s m args below meth c Qm G (wj_X7_layPasses_170 r24 r59 Q) := by
  intro x1 x2 x3 x4 σ H locs ls w hl ix1 ix2 ix3 ix4 h
  unfold wj_X7_layPasses_170 at h
  obtain ⟨i51, h⟩ := h
  refine fb_iinc (b := x4 + 1) (k := 4) (lv' := [(4, .int (fb_I (x4 + 1))), (0, .ref (fb_ad G 48)), (1, .int (fb_I x1)), (2, .int (fb_I x2)), (3, .int (fb_I x3))]) C dX7_layPasses_170 hl rfl rfl (by decide) rfl (fun ls hl => ?_)
  refine lv_goto (tgt := 59) C.1.1 C.1.2.1 dX7_layPasses_173 (by decide) ?_
  exact h59 x1 x2 x3 (x4 + 1) _ _ _ _ w (lv_sub hl [1, 2, 3, 4, 0] rfl) ix1 ix2 ix3 i51 h
set_option maxRecDepth 100000 in
set_option maxHeartbeats 4000000 in
theorem tw_X7_layPasses_166 (C : fb_C p s m args meth c G RX7 cX7_layPasses 6) (hret : fb_RV p l e rm_X7_layPasses s m args below meth c G cX7_layPasses Qm Q) {r24 : Int → Int → fb_St → Prop} (h24 : TT_X7_layPasses_24 p l e s m args below meth c Qm G r24) {r59 : Int → Int → Int → Int → fb_St → Prop} (h59 : TT_X7_layPasses_59 p l e s m args below meth c Qm G r59) : TT_X7_layPasses_166 p l e s m args below meth c Qm G (wj_X7_layPasses_166 r24 r59 Q) := by
  intro x1 x2 x3 x4 s0 s1 s2 σ H locs ls w hl ix1 ix2 ix3 ix4 is0 is1 is2 h
  unfold wj_X7_layPasses_166 at h
  refine fb_callSi (As := [.int (fb_I s1), .int (fb_I s0)]) (rest := [.int (fb_I s2), .ref (fb_ad G 65)]) C w (ct_X7_lesser l G is1 is0 h) ms_X7_119 ⟨rfl, rfl, Nat.le_of_ble_eq_true rfl, Nat.le_of_ble_eq_true rfl, Nat.zero_le _, Nat.zero_le _⟩ rfl hl.1 rfl (Nat.le_of_ble_eq_true rfl) dX7_layPasses_166 (fun a52 σ52 H locs h ia52 w => ?_)
  obtain ⟨z53, z54, h⟩ := h
  refine fb_as C w 100 (fb_k65 C) rfl rfl ia52 z53 z54 dX7_layPasses_169 (fun σ55 H locs eσ55 w => ?_)
  have h := h σ55 eσ55
  exact tw_X7_layPasses_170 C hret h24 h59 x1 x2 x3 x4 _ _ _ _ w (lv_sub hl [0, 1, 2, 3, 4] rfl) ix1 ix2 ix3 ix4 h
set_option maxRecDepth 100000 in
set_option maxHeartbeats 4000000 in
theorem tw_X7_layPasses_79 (C : fb_C p s m args meth c G RX7 cX7_layPasses 6) (hret : fb_RV p l e rm_X7_layPasses s m args below meth c G cX7_layPasses Qm Q) {r24 : Int → Int → fb_St → Prop} (h24 : TT_X7_layPasses_24 p l e s m args below meth c Qm G r24) {r59 : Int → Int → Int → Int → fb_St → Prop} (h59 : TT_X7_layPasses_59 p l e s m args below meth c Qm G r59) : TT_X7_layPasses_79 p l e s m args below meth c Qm G (wj_X7_layPasses_79 r24 r59 Q) := by
  intro x1 x2 x3 x4 σ H locs ls w hl ix1 ix2 ix3 ix4 h
  unfold wj_X7_layPasses_79 at h
  refine lv_aload_n C.1.1 C.1.2.1 dX7_layPasses_79 rfl (lv_at hl 0 rfl) ?_
  refine lv_iload_n C.1.1 C.1.2.1 dX7_layPasses_80 rfl (lv_at hl 2 rfl) ?_
  refine lv_iload C.1.1 C.1.2.1 dX7_layPasses_81 (lv_at hl 4 rfl) ?_
  refine fb_callVi (As := [.int (fb_I x2), .int (fb_I x4)]) (rest := []) C w (ct_X7_beside l G ix2 ix4 h) mv_X7_77 (fb_k48 C) rfl ⟨rfl, rfl, Nat.le_of_ble_eq_true rfl, Nat.le_of_ble_eq_true rfl, Nat.zero_le _, Nat.zero_le _⟩ rfl hl.1 rfl (Nat.le_of_ble_eq_true rfl) dX7_layPasses_83 (fun a21 σ21 H locs h ia21 w => ?_)
  refine lv_istore (lv' := [(5, .int (fb_I a21)), (0, .ref (fb_ad G 48)), (1, .int (fb_I x1)), (2, .int (fb_I x2)), (3, .int (fb_I x3)), (4, .int (fb_I x4))]) C.1.1 C.1.2.1 dX7_layPasses_86 hl (by decide) rfl (fun ls hl => ?_)
  refine lv_iload C.1.1 C.1.2.1 dX7_layPasses_88 (lv_at hl 0 rfl) ?_
  refine fb_if_lt (tgt := 170) C ia21 dX7_layPasses_90 (by decide) (fun c22 => ?_) (fun c22 => ?_)
  · have h := h.1 c22
    exact tw_X7_layPasses_170 C hret h24 h59 x1 x2 x3 x4 _ _ _ _ w (lv_sub hl [1, 2, 3, 4, 5] rfl) ix1 ix2 ix3 ix4 h
  · have h := h.2 c22
    refine lv_aload_n C.1.1 C.1.2.1 dX7_layPasses_93 rfl (lv_at hl 1 rfl) ?_
    refine fb_getr (k2 := 60) C w (fb_k48 C) rfl fl_X7_44 dX7_layPasses_94 ?_
    refine lv_iload C.1.1 C.1.2.1 dX7_layPasses_97 (lv_at hl 0 rfl) ?_
    obtain ⟨z23, z24, h⟩ := h
    refine fb_al C w 144 (fb_k60 C) rfl rfl z23 z24 dX7_layPasses_99 ?_
    have i25 := w.2.2.2 60 a21
    refine fb_if_le (tgt := 170) C i25 dX7_layPasses_100 (by decide) (fun c26 => ?_) (fun c26 => ?_)
    · have h := h.2 c26
      exact tw_X7_layPasses_170 C hret h24 h59 x1 x2 x3 x4 _ _ _ _ w (lv_sub hl [1, 2, 3, 4, 5] rfl) ix1 ix2 ix3 ix4 h
    · have h := h.1 c26
      refine lv_aload_n C.1.1 C.1.2.1 dX7_layPasses_103 rfl (lv_at hl 1 rfl) ?_
      refine fb_getr (k2 := 60) C w (fb_k48 C) rfl fl_X7_44 dX7_layPasses_104 ?_
      refine lv_iload C.1.1 C.1.2.1 dX7_layPasses_107 (lv_at hl 0 rfl) ?_
      obtain ⟨z27, z28, h⟩ := h
      refine fb_al C w 144 (fb_k60 C) rfl rfl z27 z28 dX7_layPasses_109 ?_
      have i29 := w.2.2.2 60 a21
      refine lv_iload_n C.1.1 C.1.2.1 dX7_layPasses_110 rfl (lv_at hl 2 rfl) ?_
      refine fb_icmp_eq (tgt := 170) C i29 ix1 dX7_layPasses_111 (by decide) (fun c30 => ?_) (fun c30 => ?_)
      · have h := h.1 c30
        exact tw_X7_layPasses_170 C hret h24 h59 x1 x2 x3 x4 _ _ _ _ w (lv_sub hl [1, 2, 3, 4, 5] rfl) ix1 ix2 ix3 ix4 h
      · have h := h.2 c30
        refine lv_aload_n C.1.1 C.1.2.1 dX7_layPasses_114 rfl (lv_at hl 1 rfl) ?_
        refine fb_getr (k2 := 65) C w (fb_k48 C) rfl fl_X7_59 dX7_layPasses_115 ?_
        refine lv_aload_n C.1.1 C.1.2.1 dX7_layPasses_118 rfl (lv_at hl 1 rfl) ?_
        refine fb_getr (k2 := 60) C w (fb_k48 C) rfl fl_X7_44 dX7_layPasses_119 ?_
        refine lv_iload C.1.1 C.1.2.1 dX7_layPasses_122 (lv_at hl 0 rfl) ?_
        obtain ⟨z31, z32, h⟩ := h
        refine fb_al C w 144 (fb_k60 C) rfl rfl z31 z32 dX7_layPasses_124 ?_
        have i33 := w.2.2.2 60 a21
        refine lv_aload_n C.1.1 C.1.2.1 dX7_layPasses_125 rfl (lv_at hl 1 rfl) ?_
        refine fb_getr (k2 := 65) C w (fb_k48 C) rfl fl_X7_59 dX7_layPasses_126 ?_
        refine lv_aload_n C.1.1 C.1.2.1 dX7_layPasses_129 rfl (lv_at hl 1 rfl) ?_
        refine fb_getr (k2 := 60) C w (fb_k48 C) rfl fl_X7_44 dX7_layPasses_130 ?_
        refine lv_iload C.1.1 C.1.2.1 dX7_layPasses_133 (lv_at hl 0 rfl) ?_
        obtain ⟨z34, z35, h⟩ := h
        refine fb_al C w 144 (fb_k60 C) rfl rfl z34 z35 dX7_layPasses_135 ?_
        have i36 := w.2.2.2 60 a21
        obtain ⟨z37, z38, h⟩ := h
        refine fb_al C w 100 (fb_k65 C) rfl rfl z37 z38 dX7_layPasses_136 ?_
        have i39 := w.2.2.2 65 (σ21 60 a21)
        refine lv_iload_n C.1.1 C.1.2.1 dX7_layPasses_137 rfl (lv_at hl 4 rfl) ?_
        refine fb_if_eq (tgt := 150) C ix3 dX7_layPasses_138 (by decide) (fun c40 => ?_) (fun c40 => ?_)
        · have h := h.1 c40
          refine lv_aload_n C.1.1 C.1.2.1 dX7_layPasses_150 rfl (lv_at hl 1 rfl) ?_
          refine fb_getr (k2 := 49) C w (fb_k48 C) rfl fl_X7_7 dX7_layPasses_151 ?_
          refine lv_iload_n C.1.1 C.1.2.1 dX7_layPasses_154 rfl (lv_at hl 3 rfl) ?_
          obtain ⟨z41, z42, h⟩ := h
          refine fb_al C w 292 (fb_k49 C) rfl rfl z41 z42 dX7_layPasses_155 ?_
          have i43 := w.2.2.2 49 x2
          refine lv_aload_n C.1.1 C.1.2.1 dX7_layPasses_156 rfl (lv_at hl 1 rfl) ?_
          refine fb_getr (k2 := 49) C w (fb_k48 C) rfl fl_X7_7 dX7_layPasses_157 ?_
          refine lv_iload C.1.1 C.1.2.1 dX7_layPasses_160 (lv_at hl 0 rfl) ?_
          obtain ⟨z44, z45, h⟩ := h
          refine fb_al C w 292 (fb_k49 C) rfl rfl z44 z45 dX7_layPasses_162 ?_
          have i46 := w.2.2.2 49 a21
          refine fb_callSi (As := [.int (fb_I (σ21 49 x2)), .int (fb_I (σ21 49 a21))]) (rest := [.int (fb_I (σ21 65 (σ21 60 a21))), .int (fb_I (σ21 60 a21)), .ref (fb_ad G 65)]) C w (ct_X7_greater l G i43 i46 h) ms_X7_98 ⟨rfl, rfl, Nat.le_of_ble_eq_true rfl, Nat.le_of_ble_eq_true rfl, Nat.zero_le _, Nat.zero_le _⟩ rfl hl.1 rfl (Nat.le_of_ble_eq_true rfl) dX7_layPasses_163 (fun a47 σ47 H locs h ia47 w => ?_)
          exact tw_X7_layPasses_166 C hret h24 h59 x1 x2 x3 x4 a47 (σ21 65 (σ21 60 a21)) (σ21 60 a21) _ _ _ _ w (lv_sub hl [1, 2, 3, 4, 5] rfl) ix1 ix2 ix3 ix4 ia47 i39 i33 h
        · have h := h.2 c40
          refine lv_aload_n C.1.1 C.1.2.1 dX7_layPasses_141 rfl (lv_at hl 1 rfl) ?_
          refine fb_getr (k2 := 49) C w (fb_k48 C) rfl fl_X7_7 dX7_layPasses_142 ?_
          refine lv_iload_n C.1.1 C.1.2.1 dX7_layPasses_145 rfl (lv_at hl 3 rfl) ?_
          obtain ⟨z48, z49, h⟩ := h
          refine fb_al C w 292 (fb_k49 C) rfl rfl z48 z49 dX7_layPasses_146 ?_
          have i50 := w.2.2.2 49 x2
          refine lv_goto (tgt := 166) C.1.1 C.1.2.1 dX7_layPasses_147 (by decide) ?_
          exact tw_X7_layPasses_166 C hret h24 h59 x1 x2 x3 x4 (σ21 49 x2) (σ21 65 (σ21 60 a21)) (σ21 60 a21) _ _ _ _ w (lv_sub hl [1, 2, 3, 4, 5] rfl) ix1 ix2 ix3 ix4 i50 i39 i33 h
set_option maxRecDepth 100000 in
set_option maxHeartbeats 4000000 in
theorem tw_X7_layPasses_176 (C : fb_C p s m args meth c G RX7 cX7_layPasses 6) (hret : fb_RV p l e rm_X7_layPasses s m args below meth c G cX7_layPasses Qm Q) {r24 : Int → Int → fb_St → Prop} (h24 : TT_X7_layPasses_24 p l e s m args below meth c Qm G r24) : TT_X7_layPasses_176 p l e s m args below meth c Qm G (wj_X7_layPasses_176 r24 Q) := by
  intro x1 x2 σ H locs ls w hl ix1 ix2 h
  unfold wj_X7_layPasses_176 at h
  obtain ⟨i20, h⟩ := h
  refine fb_iinc (b := x2 + 1) (k := 2) (lv' := [(2, .int (fb_I (x2 + 1))), (0, .ref (fb_ad G 48)), (1, .int (fb_I x1))]) C dX7_layPasses_176 hl rfl rfl (by decide) rfl (fun ls hl => ?_)
  refine lv_goto (tgt := 24) C.1.1 C.1.2.1 dX7_layPasses_179 (by decide) ?_
  exact h24 x1 (x2 + 1) _ _ _ _ w (lv_sub hl [1, 2, 0] rfl) ix1 i20 h
set_option maxRecDepth 100000 in
set_option maxHeartbeats 4000000 in
theorem tw_X7_layPasses_59 (C : fb_C p s m args meth c G RX7 cX7_layPasses 6) (hret : fb_RV p l e rm_X7_layPasses s m args below meth c G cX7_layPasses Qm Q) {r24 : Int → Int → fb_St → Prop} (h24 : TT_X7_layPasses_24 p l e s m args below meth c Qm G r24) {r59 : Int → Int → Int → Int → fb_St → Prop} (h59 : TT_X7_layPasses_59 p l e s m args below meth c Qm G r59) : TT_X7_layPasses_59 p l e s m args below meth c Qm G (wb_X7_layPasses_59 r24 r59 Q) := by
  intro x1 x2 x3 x4 σ H locs ls w hl ix1 ix2 ix3 ix4 h
  unfold wb_X7_layPasses_59 at h
  refine lv_iload C.1.1 C.1.2.1 dX7_layPasses_59 (lv_at hl 4 rfl) ?_
  refine fb_iconst C dX7_layPasses_61 ?_
  refine fb_icmp_ge (tgt := 176) C ix4 (by decide) dX7_layPasses_62 (by decide) (fun c14 => ?_) (fun c14 => ?_)
  · have h := h.2 c14
    exact tw_X7_layPasses_176 C hret h24 x1 x2 _ _ _ _ w (lv_sub hl [0, 1, 2] rfl) ix1 ix2 h
  · have h := h.1 c14
    refine lv_iload_n C.1.1 C.1.2.1 dX7_layPasses_65 rfl (lv_at hl 3 rfl) ?_
    refine fb_if_ne (tgt := 79) C ix3 dX7_layPasses_66 (by decide) (fun c15 => ?_) (fun c15 => ?_)
    · have h := h.2 c15
      exact tw_X7_layPasses_79 C hret h24 h59 x1 x2 x3 x4 _ _ _ _ w (lv_sub hl [0, 1, 2, 3, 4] rfl) ix1 ix2 ix3 ix4 h
    · have h := h.1 c15
      refine lv_aload_n C.1.1 C.1.2.1 dX7_layPasses_69 rfl (lv_at hl 0 rfl) ?_
      refine fb_getr (k2 := 60) C w (fb_k48 C) rfl fl_X7_44 dX7_layPasses_70 ?_
      refine lv_iload_n C.1.1 C.1.2.1 dX7_layPasses_73 rfl (lv_at hl 2 rfl) ?_
      obtain ⟨z16, z17, h⟩ := h
      refine fb_al C w 144 (fb_k60 C) rfl rfl z16 z17 dX7_layPasses_74 ?_
      have i18 := w.2.2.2 60 x2
      refine lv_iload_n C.1.1 C.1.2.1 dX7_layPasses_75 rfl (lv_at hl 1 rfl) ?_
      refine fb_icmp_ne (tgt := 176) C i18 ix1 dX7_layPasses_76 (by decide) (fun c19 => ?_) (fun c19 => ?_)
      · have h := h.2 c19
        exact tw_X7_layPasses_176 C hret h24 x1 x2 _ _ _ _ w (lv_sub hl [0, 1, 2] rfl) ix1 ix2 h
      · have h := h.1 c19
        exact tw_X7_layPasses_79 C hret h24 h59 x1 x2 x3 x4 _ _ _ _ w (lv_sub hl [0, 1, 2, 3, 4] rfl) ix1 ix2 ix3 ix4 h
theorem tl_X7_layPasses_59 (C : fb_C p s m args meth c G RX7 cX7_layPasses 6) (hret : fb_RV p l e rm_X7_layPasses s m args below meth c G cX7_layPasses Qm Q) {r24 : Int → Int → fb_St → Prop} (h24 : TT_X7_layPasses_24 p l e s m args below meth c Qm G r24) : ∀ n : Nat, TT_X7_layPasses_59 p l e s m args below meth c Qm G (wl_X7_layPasses_59 r24 Q n) := by
  intro n
  induction n with
  | zero => intro x1 x2 x3 x4 σ H locs ls w hl ix1 ix2 ix3 ix4 h; exact h.elim
  | succ n ih => exact tw_X7_layPasses_59 C hret h24 ih
set_option maxRecDepth 100000 in
set_option maxHeartbeats 4000000 in
theorem tw_X7_layPasses_55 (C : fb_C p s m args meth c G RX7 cX7_layPasses 6) (hret : fb_RV p l e rm_X7_layPasses s m args below meth c G cX7_layPasses Qm Q) {r24 : Int → Int → fb_St → Prop} (h24 : TT_X7_layPasses_24 p l e s m args below meth c Qm G r24) : TT_X7_layPasses_55 p l e s m args below meth c Qm G (wj_X7_layPasses_55 r24 Q) := by
  intro x1 x2 s0 σ H locs ls w hl ix1 ix2 is0 h
  unfold wj_X7_layPasses_55 at h
  refine lv_istore_n (lv' := [(3, .int (fb_I s0)), (0, .ref (fb_ad G 48)), (1, .int (fb_I x1)), (2, .int (fb_I x2))]) C.1.1 C.1.2.1 dX7_layPasses_55 rfl hl (by decide) rfl (fun ls hl => ?_)
  refine fb_iconst C dX7_layPasses_56 ?_
  refine lv_istore (lv' := [(4, .int (fb_I 0)), (3, .int (fb_I s0)), (0, .ref (fb_ad G 48)), (1, .int (fb_I x1)), (2, .int (fb_I x2))]) C.1.1 C.1.2.1 dX7_layPasses_57 hl (by decide) rfl (fun ls hl => ?_)
  obtain ⟨n, h⟩ := h
  exact tl_X7_layPasses_59 C hret h24 n x1 x2 s0 0 _ _ _ _ w (lv_sub hl [2, 3, 4, 1, 0] rfl) ix1 ix2 is0 (by decide) h
set_option maxRecDepth 100000 in
set_option maxHeartbeats 4000000 in
theorem tw_X7_layPasses_54 (C : fb_C p s m args meth c G RX7 cX7_layPasses 6) (hret : fb_RV p l e rm_X7_layPasses s m args below meth c G cX7_layPasses Qm Q) {r24 : Int → Int → fb_St → Prop} (h24 : TT_X7_layPasses_24 p l e s m args below meth c Qm G r24) : TT_X7_layPasses_54 p l e s m args below meth c Qm G (wj_X7_layPasses_54 r24 Q) := by
  intro x1 x2 σ H locs ls w hl ix1 ix2 h
  unfold wj_X7_layPasses_54 at h
  refine fb_iconst C dX7_layPasses_54 ?_
  exact tw_X7_layPasses_55 C hret h24 x1 x2 0 _ _ _ _ w (lv_sub hl [0, 1, 2] rfl) ix1 ix2 (by decide) h
set_option maxRecDepth 100000 in
set_option maxHeartbeats 4000000 in
theorem tw_X7_layPasses_24 (C : fb_C p s m args meth c G RX7 cX7_layPasses 6) (hret : fb_RV p l e rm_X7_layPasses s m args below meth c G cX7_layPasses Qm Q) {r24 : Int → Int → fb_St → Prop} (h24 : TT_X7_layPasses_24 p l e s m args below meth c Qm G r24) : TT_X7_layPasses_24 p l e s m args below meth c Qm G (wb_X7_layPasses_24 r24 Q) := by
  intro x1 x2 σ H locs ls w hl ix1 ix2 h
  unfold wb_X7_layPasses_24 at h
  refine lv_iload_n C.1.1 C.1.2.1 dX7_layPasses_24 rfl (lv_at hl 2 rfl) ?_
  refine lv_aload_n C.1.1 C.1.2.1 dX7_layPasses_25 rfl (lv_at hl 0 rfl) ?_
  refine fb_callVi (As := []) (rest := [.int (fb_I x2)]) C w (ct_X7_dots l G h) mv_X7_80 (fb_k48 C) rfl ⟨rfl, rfl, Nat.le_of_ble_eq_true rfl, Nat.le_of_ble_eq_true rfl, Nat.zero_le _, Nat.zero_le _⟩ rfl hl.1 rfl (Nat.le_of_ble_eq_true rfl) dX7_layPasses_26 (fun a6 σ6 H locs h ia6 w => ?_)
  refine fb_icmp_ge (tgt := 182) C ix2 ia6 dX7_layPasses_29 (by decide) (fun c7 => ?_) (fun c7 => ?_)
  · have h := h.2 c7
    exact hret _ _ _ _ _ h w dX7_layPasses_182
  · have h := h.1 c7
    refine lv_aload_n C.1.1 C.1.2.1 dX7_layPasses_32 rfl (lv_at hl 0 rfl) ?_
    refine fb_getr (k2 := 60) C w (fb_k48 C) rfl fl_X7_44 dX7_layPasses_33 ?_
    refine lv_iload_n C.1.1 C.1.2.1 dX7_layPasses_36 rfl (lv_at hl 2 rfl) ?_
    obtain ⟨z8, z9, h⟩ := h
    refine fb_al C w 144 (fb_k60 C) rfl rfl z8 z9 dX7_layPasses_37 ?_
    have i10 := w.2.2.2 60 x2
    refine fb_if_ne (tgt := 54) C i10 dX7_layPasses_38 (by decide) (fun c11 => ?_) (fun c11 => ?_)
    · have h := h.2 c11
      exact tw_X7_layPasses_54 C hret h24 x1 x2 _ _ _ _ w (lv_sub hl [0, 1, 2] rfl) ix1 ix2 h
    · have h := h.1 c11
      refine lv_aload_n C.1.1 C.1.2.1 dX7_layPasses_41 rfl (lv_at hl 0 rfl) ?_
      refine lv_iload_n C.1.1 C.1.2.1 dX7_layPasses_42 rfl (lv_at hl 2 rfl) ?_
      refine lv_iload_n C.1.1 C.1.2.1 dX7_layPasses_43 rfl (lv_at hl 1 rfl) ?_
      refine fb_callVi (As := [.int (fb_I x2), .int (fb_I x1)]) (rest := []) C w (ct_X7_hasBeside l G ix2 ix1 h) mv_X7_116 (fb_k48 C) rfl ⟨rfl, rfl, Nat.le_of_ble_eq_true rfl, Nat.le_of_ble_eq_true rfl, Nat.zero_le _, Nat.zero_le _⟩ rfl hl.1 rfl (Nat.le_of_ble_eq_true rfl) dX7_layPasses_44 (fun a12 σ12 H locs h ia12 w => ?_)
      refine fb_if_eq (tgt := 54) C ia12 dX7_layPasses_47 (by decide) (fun c13 => ?_) (fun c13 => ?_)
      · have h := h.1 c13
        exact tw_X7_layPasses_54 C hret h24 x1 x2 _ _ _ _ w (lv_sub hl [0, 1, 2] rfl) ix1 ix2 h
      · have h := h.2 c13
        refine fb_iconst C dX7_layPasses_50 ?_
        refine lv_goto (tgt := 55) C.1.1 C.1.2.1 dX7_layPasses_51 (by decide) ?_
        exact tw_X7_layPasses_55 C hret h24 x1 x2 1 _ _ _ _ w (lv_sub hl [0, 1, 2] rfl) ix1 ix2 (by decide) h
theorem tl_X7_layPasses_24 (C : fb_C p s m args meth c G RX7 cX7_layPasses 6) (hret : fb_RV p l e rm_X7_layPasses s m args below meth c G cX7_layPasses Qm Q) : ∀ n : Nat, TT_X7_layPasses_24 p l e s m args below meth c Qm G (wl_X7_layPasses_24 Q n) := by
  intro n
  induction n with
  | zero => intro x1 x2 σ H locs ls w hl ix1 ix2 h; exact h.elim
  | succ n ih => exact tw_X7_layPasses_24 C hret ih
set_option maxRecDepth 100000 in
set_option maxHeartbeats 4000000 in
theorem tw_X7_layPasses_2 (C : fb_C p s m args meth c G RX7 cX7_layPasses 6) (hret : fb_RV p l e rm_X7_layPasses s m args below meth c G cX7_layPasses Qm Q) {r2 : Int → Int → fb_St → Prop} (h2 : TT_X7_layPasses_2 p l e s m args below meth c Qm G r2) : TT_X7_layPasses_2 p l e s m args below meth c Qm G (wb_X7_layPasses_2 r2 Q) := by
  intro x1 x2 σ H locs ls w hl ix1 ix2 h
  unfold wb_X7_layPasses_2 at h
  refine lv_iload_n C.1.1 C.1.2.1 dX7_layPasses_2 rfl (lv_at hl 2 rfl) ?_
  refine fb_bipush C dX7_layPasses_3 (by decide) ?_
  refine fb_icmp_ge (tgt := 22) C ix2 (by decide) dX7_layPasses_5 (by decide) (fun c1 => ?_) (fun c1 => ?_)
  · have h := h.2 c1
    refine fb_iconst C dX7_layPasses_22 ?_
    refine lv_istore_n (lv' := [(2, .int (fb_I 0)), (0, .ref (fb_ad G 48)), (1, .int (fb_I x1))]) C.1.1 C.1.2.1 dX7_layPasses_23 rfl hl (by decide) rfl (fun ls hl => ?_)
    obtain ⟨n, h⟩ := h
    exact tl_X7_layPasses_24 C hret n x1 0 _ _ _ _ w (lv_sub hl [1, 2, 0] rfl) ix1 (by decide) h
  · have h := h.1 c1
    refine lv_aload_n C.1.1 C.1.2.1 dX7_layPasses_8 rfl (lv_at hl 0 rfl) ?_
    refine fb_getr (k2 := 65) C w (fb_k48 C) rfl fl_X7_59 dX7_layPasses_9 ?_
    refine lv_iload_n C.1.1 C.1.2.1 dX7_layPasses_12 rfl (lv_at hl 2 rfl) ?_
    refine fb_bipush C dX7_layPasses_13 (by decide) ?_
    obtain ⟨z2, z3, h⟩ := h
    refine fb_as C w 100 (fb_k65 C) rfl rfl (by decide) z2 z3 dX7_layPasses_15 (fun σ4 H locs eσ4 w => ?_)
    have h := h σ4 eσ4
    obtain ⟨i5, h⟩ := h
    refine fb_iinc (b := x2 + 1) (k := 2) (lv' := [(2, .int (fb_I (x2 + 1))), (0, .ref (fb_ad G 48)), (1, .int (fb_I x1))]) C dX7_layPasses_16 hl rfl rfl (by decide) rfl (fun ls hl => ?_)
    refine lv_goto (tgt := 2) C.1.1 C.1.2.1 dX7_layPasses_19 (by decide) ?_
    exact h2 x1 (x2 + 1) _ _ _ _ w (lv_sub hl [1, 2, 0] rfl) ix1 i5 h
theorem tl_X7_layPasses_2 (C : fb_C p s m args meth c G RX7 cX7_layPasses 6) (hret : fb_RV p l e rm_X7_layPasses s m args below meth c G cX7_layPasses Qm Q) : ∀ n : Nat, TT_X7_layPasses_2 p l e s m args below meth c Qm G (wl_X7_layPasses_2 Q n) := by
  intro n
  induction n with
  | zero => intro x1 x2 σ H locs ls w hl ix1 ix2 h; exact h.elim
  | succ n ih => exact tw_X7_layPasses_2 C hret ih
set_option maxRecDepth 100000 in
set_option maxHeartbeats 4000000 in
theorem tw_X7_layPasses_0 (C : fb_C p s m args meth c G RX7 cX7_layPasses 6) (hret : fb_RV p l e rm_X7_layPasses s m args below meth c G cX7_layPasses Qm Q) : TT_X7_layPasses_0 p l e s m args below meth c Qm G (fun x1 σ => wp_X7_layPasses x1 σ Q) := by
  intro x1 σ H locs ls w hl ix1 h
  unfold wp_X7_layPasses at h
  refine fb_iconst C dX7_layPasses_0 ?_
  refine lv_istore_n (lv' := [(2, .int (fb_I 1)), (0, .ref (fb_ad G 48)), (1, .int (fb_I x1))]) C.1.1 C.1.2.1 dX7_layPasses_1 rfl hl (by decide) rfl (fun ls hl => ?_)
  obtain ⟨n, h⟩ := h
  exact tl_X7_layPasses_2 C hret n x1 1 _ _ _ _ w (lv_sub hl [1, 2, 0] rfl) ix1 (by decide) h
theorem ct_X7_layPasses (l : Launch) (G : fb_G) {x1 : Int} {σ : fb_St} (ix1 : fb_in x1) (h : wp_X7_layPasses x1 σ Q) : fb_MV l G yX7_layPasses cX7_layPasses 6 rm_X7_layPasses [.ref (fb_ad G 48), .int (fb_I x1)] σ Q := by
  refine fb_ofW (own := RX7) (by decide) (Nat.le_of_ble_eq_true rfl) rfl (fun p e s m args below meth c ls C hr hl w => ?_)
  exact tw_X7_layPasses_0 C (fb_retv C hr) _ _ _ _ _ w hl ix1 h
end S_X7_layPasses
section S_X7_wayOut
variable {p : Program} {l : Launch} {e : Env} {s : State} {m : MethodId} {args : Array Value} {below : List Frame} {meth : Method} {c : Code} {Qm : State → Prop} {G : fb_G} {Q : Int → fb_St → Prop}
abbrev TT_X7_wayOut_49 (p : Program) (l : Launch) (e : Env) (s : State) (m : MethodId) (args : Array Value) (below : List Frame) (meth : Method) (c : Code) (Qm : State → Prop) (G : fb_G) (r : Int → Int → fb_St → Prop) : Prop := ∀ (x3 s0 : Int) (σ : fb_St) (H : Heap) (locs : List Loc) (ls : Array Slot), fb_Wd G s σ H locs → lv_has ls 4 [(0, .ref (fb_ad G 48)), (3, .int (fb_I x3))] → fb_in x3 → fb_in s0 → r x3 s0 σ → W p l e rm_X7_wayOut s m args below meth c H locs 0 0 Qm (F0 m 49 ls [.int (fb_I s0)])
abbrev TT_X7_wayOut_44 (p : Program) (l : Launch) (e : Env) (s : State) (m : MethodId) (args : Array Value) (below : List Frame) (meth : Method) (c : Code) (Qm : State → Prop) (G : fb_G) (r : Int → fb_St → Prop) : Prop := ∀ (x3 : Int) (σ : fb_St) (H : Heap) (locs : List Loc) (ls : Array Slot), fb_Wd G s σ H locs → lv_has ls 4 [(0, .ref (fb_ad G 48)), (3, .int (fb_I x3))] → fb_in x3 → r x3 σ → W p l e rm_X7_wayOut s m args below meth c H locs 0 0 Qm (F0 m 44 ls [])
abbrev TT_X7_wayOut_48 (p : Program) (l : Launch) (e : Env) (s : State) (m : MethodId) (args : Array Value) (below : List Frame) (meth : Method) (c : Code) (Qm : State → Prop) (G : fb_G) (r : Int → Int → fb_St → Prop) : Prop := ∀ (x2 x3 : Int) (σ : fb_St) (H : Heap) (locs : List Loc) (ls : Array Slot), fb_Wd G s σ H locs → lv_has ls 4 [(0, .ref (fb_ad G 48)), (2, .int (fb_I x2)), (3, .int (fb_I x3))] → fb_in x2 → fb_in x3 → r x2 x3 σ → W p l e rm_X7_wayOut s m args below meth c H locs 0 0 Qm (F0 m 48 ls [])
abbrev TT_X7_wayOut_10 (p : Program) (l : Launch) (e : Env) (s : State) (m : MethodId) (args : Array Value) (below : List Frame) (meth : Method) (c : Code) (Qm : State → Prop) (G : fb_G) (r : Int → Int → fb_St → Prop) : Prop := ∀ (x2 x3 : Int) (σ : fb_St) (H : Heap) (locs : List Loc) (ls : Array Slot), fb_Wd G s σ H locs → lv_has ls 4 [(0, .ref (fb_ad G 48)), (2, .int (fb_I x2)), (3, .int (fb_I x3))] → fb_in x2 → fb_in x3 → r x2 x3 σ → W p l e rm_X7_wayOut s m args below meth c H locs 0 0 Qm (F0 m 10 ls [])
abbrev TT_X7_wayOut_0 (p : Program) (l : Launch) (e : Env) (s : State) (m : MethodId) (args : Array Value) (below : List Frame) (meth : Method) (c : Code) (Qm : State → Prop) (G : fb_G) (r : Int → fb_St → Prop) : Prop := ∀ (x1 : Int) (σ : fb_St) (H : Heap) (locs : List Loc) (ls : Array Slot), fb_Wd G s σ H locs → lv_has ls 4 [(0, .ref (fb_ad G 48)), (1, .int (fb_I x1))] → fb_in x1 → r x1 σ → W p l e rm_X7_wayOut s m args below meth c H locs 0 0 Qm (F0 m 0 ls [])
set_option maxRecDepth 100000 in
set_option maxHeartbeats 4000000 in
theorem tw_X7_wayOut_49 (C : fb_C p s m args meth c G RX7 cX7_wayOut 4) (hret : fb_RI p l e rm_X7_wayOut s m args below meth c G cX7_wayOut Qm Q) {r10 : Int → Int → fb_St → Prop} (h10 : TT_X7_wayOut_10 p l e s m args below meth c Qm G r10) : TT_X7_wayOut_49 p l e s m args below meth c Qm G (wj_X7_wayOut_49 r10 Q) := by
  intro x3 s0 σ H locs ls w hl ix3 is0 h
  unfold wj_X7_wayOut_49 at h
  refine lv_istore_n (lv' := [(2, .int (fb_I s0)), (0, .ref (fb_ad G 48)), (3, .int (fb_I x3))]) C.1.1 C.1.2.1 dX7_wayOut_49 rfl hl (by decide) rfl (fun ls hl => ?_)
  obtain ⟨i15, h⟩ := h
  refine fb_iinc (b := x3 + 1) (k := 2) (lv' := [(3, .int (fb_I (x3 + 1))), (2, .int (fb_I s0)), (0, .ref (fb_ad G 48))]) C dX7_wayOut_50 hl rfl rfl (by decide) rfl (fun ls hl => ?_)
  refine lv_goto (tgt := 10) C.1.1 C.1.2.1 dX7_wayOut_53 (by decide) ?_
  exact h10 s0 (x3 + 1) _ _ _ _ w (lv_sub hl [2, 1, 0] rfl) is0 i15 h
set_option maxRecDepth 100000 in
set_option maxHeartbeats 4000000 in
theorem tw_X7_wayOut_44 (C : fb_C p s m args meth c G RX7 cX7_wayOut 4) (hret : fb_RI p l e rm_X7_wayOut s m args below meth c G cX7_wayOut Qm Q) {r10 : Int → Int → fb_St → Prop} (h10 : TT_X7_wayOut_10 p l e s m args below meth c Qm G r10) : TT_X7_wayOut_44 p l e s m args below meth c Qm G (wj_X7_wayOut_44 r10 Q) := by
  intro x3 σ H locs ls w hl ix3 h
  unfold wj_X7_wayOut_44 at h
  refine lv_iload_n C.1.1 C.1.2.1 dX7_wayOut_44 rfl (lv_at hl 1 rfl) ?_
  refine lv_goto (tgt := 49) C.1.1 C.1.2.1 dX7_wayOut_45 (by decide) ?_
  exact tw_X7_wayOut_49 C hret h10 x3 x3 _ _ _ _ w (lv_sub hl [0, 1] rfl) ix3 ix3 h
set_option maxRecDepth 100000 in
set_option maxHeartbeats 4000000 in
theorem tw_X7_wayOut_48 (C : fb_C p s m args meth c G RX7 cX7_wayOut 4) (hret : fb_RI p l e rm_X7_wayOut s m args below meth c G cX7_wayOut Qm Q) {r10 : Int → Int → fb_St → Prop} (h10 : TT_X7_wayOut_10 p l e s m args below meth c Qm G r10) : TT_X7_wayOut_48 p l e s m args below meth c Qm G (wj_X7_wayOut_48 r10 Q) := by
  intro x2 x3 σ H locs ls w hl ix2 ix3 h
  unfold wj_X7_wayOut_48 at h
  refine lv_iload_n C.1.1 C.1.2.1 dX7_wayOut_48 rfl (lv_at hl 1 rfl) ?_
  exact tw_X7_wayOut_49 C hret h10 x3 x2 _ _ _ _ w (lv_sub hl [0, 2] rfl) ix3 ix2 h
set_option maxRecDepth 100000 in
set_option maxHeartbeats 4000000 in
theorem tw_X7_wayOut_10 (C : fb_C p s m args meth c G RX7 cX7_wayOut 4) (hret : fb_RI p l e rm_X7_wayOut s m args below meth c G cX7_wayOut Qm Q) {r10 : Int → Int → fb_St → Prop} (h10 : TT_X7_wayOut_10 p l e s m args below meth c Qm G r10) : TT_X7_wayOut_10 p l e s m args below meth c Qm G (wb_X7_wayOut_10 r10 Q) := by
  intro x2 x3 σ H locs ls w hl ix2 ix3 h
  unfold wb_X7_wayOut_10 at h
  refine lv_iload_n C.1.1 C.1.2.1 dX7_wayOut_10 rfl (lv_at hl 2 rfl) ?_
  refine fb_bipush C dX7_wayOut_11 (by decide) ?_
  refine fb_icmp_ge (tgt := 56) C ix3 (by decide) dX7_wayOut_13 (by decide) (fun c2 => ?_) (fun c2 => ?_)
  · have h := h.2 c2
    refine lv_iload_n C.1.1 C.1.2.1 dX7_wayOut_56 rfl (lv_at hl 1 rfl) ?_
    exact hret _ _ _ _ _ _ ix2 h w dX7_wayOut_57
  · have h := h.1 c2
    refine lv_aload_n C.1.1 C.1.2.1 dX7_wayOut_16 rfl (lv_at hl 0 rfl) ?_
    refine fb_getr (k2 := 65) C w (fb_k48 C) rfl fl_X7_59 dX7_wayOut_17 ?_
    refine lv_iload_n C.1.1 C.1.2.1 dX7_wayOut_20 rfl (lv_at hl 2 rfl) ?_
    obtain ⟨z3, z4, h⟩ := h
    refine fb_al C w 100 (fb_k65 C) rfl rfl z3 z4 dX7_wayOut_21 ?_
    have i5 := w.2.2.2 65 x3
    refine fb_if_lt (tgt := 48) C i5 dX7_wayOut_22 (by decide) (fun c6 => ?_) (fun c6 => ?_)
    · have h := h.1 c6
      exact tw_X7_wayOut_48 C hret h10 x2 x3 _ _ _ _ w (lv_sub hl [0, 1, 2] rfl) ix2 ix3 h
    · have h := h.2 c6
      refine lv_iload_n C.1.1 C.1.2.1 dX7_wayOut_25 rfl (lv_at hl 1 rfl) ?_
      refine fb_if_lt (tgt := 44) C ix2 dX7_wayOut_26 (by decide) (fun c7 => ?_) (fun c7 => ?_)
      · have h := h.1 c7
        exact tw_X7_wayOut_44 C hret h10 x3 _ _ _ _ w (lv_sub hl [0, 2] rfl) ix3 h
      · have h := h.2 c7
        refine lv_aload_n C.1.1 C.1.2.1 dX7_wayOut_29 rfl (lv_at hl 0 rfl) ?_
        refine fb_getr (k2 := 65) C w (fb_k48 C) rfl fl_X7_59 dX7_wayOut_30 ?_
        refine lv_iload_n C.1.1 C.1.2.1 dX7_wayOut_33 rfl (lv_at hl 2 rfl) ?_
        obtain ⟨z8, z9, h⟩ := h
        refine fb_al C w 100 (fb_k65 C) rfl rfl z8 z9 dX7_wayOut_34 ?_
        have i10 := w.2.2.2 65 x3
        refine lv_aload_n C.1.1 C.1.2.1 dX7_wayOut_35 rfl (lv_at hl 0 rfl) ?_
        refine fb_getr (k2 := 65) C w (fb_k48 C) rfl fl_X7_59 dX7_wayOut_36 ?_
        refine lv_iload_n C.1.1 C.1.2.1 dX7_wayOut_39 rfl (lv_at hl 1 rfl) ?_
        obtain ⟨z11, z12, h⟩ := h
        refine fb_al C w 100 (fb_k65 C) rfl rfl z11 z12 dX7_wayOut_40 ?_
        have i13 := w.2.2.2 65 x2
        refine fb_icmp_ge (tgt := 48) C i10 i13 dX7_wayOut_41 (by decide) (fun c14 => ?_) (fun c14 => ?_)
        · have h := h.2 c14
          exact tw_X7_wayOut_48 C hret h10 x2 x3 _ _ _ _ w (lv_sub hl [0, 1, 2] rfl) ix2 ix3 h
        · have h := h.1 c14
          exact tw_X7_wayOut_44 C hret h10 x3 _ _ _ _ w (lv_sub hl [0, 2] rfl) ix3 h
theorem tl_X7_wayOut_10 (C : fb_C p s m args meth c G RX7 cX7_wayOut 4) (hret : fb_RI p l e rm_X7_wayOut s m args below meth c G cX7_wayOut Qm Q) : ∀ n : Nat, TT_X7_wayOut_10 p l e s m args below meth c Qm G (wl_X7_wayOut_10 Q n) := by
  intro n
  induction n with
  | zero => intro x2 x3 σ H locs ls w hl ix2 ix3 h; exact h.elim
  | succ n ih => exact tw_X7_wayOut_10 C hret ih
set_option maxRecDepth 100000 in
set_option maxHeartbeats 4000000 in
theorem tw_X7_wayOut_0 (C : fb_C p s m args meth c G RX7 cX7_wayOut 4) (hret : fb_RI p l e rm_X7_wayOut s m args below meth c G cX7_wayOut Qm Q) : TT_X7_wayOut_0 p l e s m args below meth c Qm G (fun x1 σ => wp_X7_wayOut x1 σ Q) := by
  intro x1 σ H locs ls w hl ix1 h
  unfold wp_X7_wayOut at h
  refine lv_aload_n C.1.1 C.1.2.1 dX7_wayOut_0 rfl (lv_at hl 0 rfl) ?_
  refine lv_iload_n C.1.1 C.1.2.1 dX7_wayOut_1 rfl (lv_at hl 1 rfl) ?_
  refine fb_callVv (As := [.int (fb_I x1)]) (rest := []) C w (ct_X7_layPasses l G ix1 h) mv_X7_122 (fb_k48 C) rfl ⟨rfl, rfl, Nat.le_of_ble_eq_true rfl, Nat.le_of_ble_eq_true rfl, Nat.zero_le _, Nat.zero_le _⟩ rfl hl.1 rfl (Nat.le_of_ble_eq_true rfl) dX7_wayOut_2 (fun σ1 H locs h w => ?_)
  refine fb_bipush C dX7_wayOut_5 (by decide) ?_
  refine lv_istore_n (lv' := [(2, .int (fb_I (-6))), (0, .ref (fb_ad G 48)), (1, .int (fb_I x1))]) C.1.1 C.1.2.1 dX7_wayOut_7 rfl hl (by decide) rfl (fun ls hl => ?_)
  refine fb_iconst C dX7_wayOut_8 ?_
  refine lv_istore_n (lv' := [(3, .int (fb_I 1)), (2, .int (fb_I (-6))), (0, .ref (fb_ad G 48)), (1, .int (fb_I x1))]) C.1.1 C.1.2.1 dX7_wayOut_9 rfl hl (by decide) rfl (fun ls hl => ?_)
  obtain ⟨n, h⟩ := h
  exact tl_X7_wayOut_10 C hret n (-6) 1 _ _ _ _ w (lv_sub hl [2, 1, 0] rfl) (by decide) (by decide) h
theorem ct_X7_wayOut (l : Launch) (G : fb_G) {x1 : Int} {σ : fb_St} (ix1 : fb_in x1) (h : wp_X7_wayOut x1 σ Q) : fb_MI l G yX7_wayOut cX7_wayOut 4 (some .int) rm_X7_wayOut [.ref (fb_ad G 48), .int (fb_I x1)] σ Q := by
  refine fb_ofW (own := RX7) (by decide) (Nat.le_of_ble_eq_true rfl) rfl (fun p e s m args below meth c ls C hr hl w => ?_)
  exact tw_X7_wayOut_0 C (fb_reti C hr) _ _ _ _ _ w hl ix1 h
end S_X7_wayOut
section S_X7_leastHeight
variable {p : Program} {l : Launch} {e : Env} {s : State} {m : MethodId} {args : Array Value} {below : List Frame} {meth : Method} {c : Code} {Qm : State → Prop} {G : fb_G} {Q : Int → fb_St → Prop}
abbrev TT_X7_leastHeight_37 (p : Program) (l : Launch) (e : Env) (s : State) (m : MethodId) (args : Array Value) (below : List Frame) (meth : Method) (c : Code) (Qm : State → Prop) (G : fb_G) (r : Int → Int → Int → fb_St → Prop) : Prop := ∀ (x1 x3 s0 : Int) (σ : fb_St) (H : Heap) (locs : List Loc) (ls : Array Slot), fb_Wd G s σ H locs → lv_has ls 4 [(0, .ref (fb_ad G 48)), (1, .int (fb_I x1)), (3, .int (fb_I x3))] → fb_in x1 → fb_in x3 → fb_in s0 → r x1 x3 s0 σ → W p l e rm_X7_leastHeight s m args below meth c H locs 0 0 Qm (F0 m 37 ls [.int (fb_I s0)])
abbrev TT_X7_leastHeight_5 (p : Program) (l : Launch) (e : Env) (s : State) (m : MethodId) (args : Array Value) (below : List Frame) (meth : Method) (c : Code) (Qm : State → Prop) (G : fb_G) (r : Int → Int → Int → fb_St → Prop) : Prop := ∀ (x1 x2 x3 : Int) (σ : fb_St) (H : Heap) (locs : List Loc) (ls : Array Slot), fb_Wd G s σ H locs → lv_has ls 4 [(0, .ref (fb_ad G 48)), (1, .int (fb_I x1)), (2, .int (fb_I x2)), (3, .int (fb_I x3))] → fb_in x1 → fb_in x2 → fb_in x3 → r x1 x2 x3 σ → W p l e rm_X7_leastHeight s m args below meth c H locs 0 0 Qm (F0 m 5 ls [])
abbrev TT_X7_leastHeight_0 (p : Program) (l : Launch) (e : Env) (s : State) (m : MethodId) (args : Array Value) (below : List Frame) (meth : Method) (c : Code) (Qm : State → Prop) (G : fb_G) (r : Int → fb_St → Prop) : Prop := ∀ (x1 : Int) (σ : fb_St) (H : Heap) (locs : List Loc) (ls : Array Slot), fb_Wd G s σ H locs → lv_has ls 4 [(0, .ref (fb_ad G 48)), (1, .int (fb_I x1))] → fb_in x1 → r x1 σ → W p l e rm_X7_leastHeight s m args below meth c H locs 0 0 Qm (F0 m 0 ls [])
set_option maxRecDepth 100000 in
set_option maxHeartbeats 4000000 in
theorem tw_X7_leastHeight_37 (C : fb_C p s m args meth c G RX7 cX7_leastHeight 4) (hret : fb_RI p l e rm_X7_leastHeight s m args below meth c G cX7_leastHeight Qm Q) {r5 : Int → Int → Int → fb_St → Prop} (h5 : TT_X7_leastHeight_5 p l e s m args below meth c Qm G r5) : TT_X7_leastHeight_37 p l e s m args below meth c Qm G (wj_X7_leastHeight_37 r5 Q) := by
  intro x1 x3 s0 σ H locs ls w hl ix1 ix3 is0 h
  unfold wj_X7_leastHeight_37 at h
  refine lv_istore_n (lv' := [(2, .int (fb_I s0)), (0, .ref (fb_ad G 48)), (1, .int (fb_I x1)), (3, .int (fb_I x3))]) C.1.1 C.1.2.1 dX7_leastHeight_37 rfl hl (by decide) rfl (fun ls hl => ?_)
  obtain ⟨i11, h⟩ := h
  refine fb_iinc (b := x3 + 1) (k := 3) (lv' := [(3, .int (fb_I (x3 + 1))), (2, .int (fb_I s0)), (0, .ref (fb_ad G 48)), (1, .int (fb_I x1))]) C dX7_leastHeight_38 hl rfl rfl (by decide) rfl (fun ls hl => ?_)
  refine lv_goto (tgt := 5) C.1.1 C.1.2.1 dX7_leastHeight_41 (by decide) ?_
  exact h5 x1 s0 (x3 + 1) _ _ _ _ w (lv_sub hl [2, 3, 1, 0] rfl) ix1 is0 i11 h
set_option maxRecDepth 100000 in
set_option maxHeartbeats 4000000 in
theorem tw_X7_leastHeight_5 (C : fb_C p s m args meth c G RX7 cX7_leastHeight 4) (hret : fb_RI p l e rm_X7_leastHeight s m args below meth c G cX7_leastHeight Qm Q) {r5 : Int → Int → Int → fb_St → Prop} (h5 : TT_X7_leastHeight_5 p l e s m args below meth c Qm G r5) : TT_X7_leastHeight_5 p l e s m args below meth c Qm G (wb_X7_leastHeight_5 r5 Q) := by
  intro x1 x2 x3 σ H locs ls w hl ix1 ix2 ix3 h
  unfold wb_X7_leastHeight_5 at h
  refine lv_iload_n C.1.1 C.1.2.1 dX7_leastHeight_5 rfl (lv_at hl 3 rfl) ?_
  refine lv_aload_n C.1.1 C.1.2.1 dX7_leastHeight_6 rfl (lv_at hl 0 rfl) ?_
  refine fb_callVi (As := []) (rest := [.int (fb_I x3)]) C w (ct_X7_dots l G h) mv_X7_80 (fb_k48 C) rfl ⟨rfl, rfl, Nat.le_of_ble_eq_true rfl, Nat.le_of_ble_eq_true rfl, Nat.zero_le _, Nat.zero_le _⟩ rfl hl.1 rfl (Nat.le_of_ble_eq_true rfl) dX7_leastHeight_7 (fun a1 σ1 H locs h ia1 w => ?_)
  refine fb_icmp_ge (tgt := 44) C ix3 ia1 dX7_leastHeight_10 (by decide) (fun c2 => ?_) (fun c2 => ?_)
  · have h := h.2 c2
    refine lv_iload_n C.1.1 C.1.2.1 dX7_leastHeight_44 rfl (lv_at hl 2 rfl) ?_
    exact hret _ _ _ _ _ _ ix2 h w dX7_leastHeight_45
  · have h := h.1 c2
    refine lv_aload_n C.1.1 C.1.2.1 dX7_leastHeight_13 rfl (lv_at hl 0 rfl) ?_
    refine fb_getr (k2 := 60) C w (fb_k48 C) rfl fl_X7_44 dX7_leastHeight_14 ?_
    refine lv_iload_n C.1.1 C.1.2.1 dX7_leastHeight_17 rfl (lv_at hl 3 rfl) ?_
    obtain ⟨z3, z4, h⟩ := h
    refine fb_al C w 144 (fb_k60 C) rfl rfl z3 z4 dX7_leastHeight_18 ?_
    have i5 := w.2.2.2 60 x3
    refine lv_iload_n C.1.1 C.1.2.1 dX7_leastHeight_19 rfl (lv_at hl 1 rfl) ?_
    refine fb_icmp_ne (tgt := 36) C i5 ix1 dX7_leastHeight_20 (by decide) (fun c6 => ?_) (fun c6 => ?_)
    · have h := h.2 c6
      refine lv_iload_n C.1.1 C.1.2.1 dX7_leastHeight_36 rfl (lv_at hl 2 rfl) ?_
      exact tw_X7_leastHeight_37 C hret h5 x1 x3 x2 _ _ _ _ w (lv_sub hl [0, 1, 3] rfl) ix1 ix3 ix2 h
    · have h := h.1 c6
      refine lv_iload_n C.1.1 C.1.2.1 dX7_leastHeight_23 rfl (lv_at hl 2 rfl) ?_
      refine lv_aload_n C.1.1 C.1.2.1 dX7_leastHeight_24 rfl (lv_at hl 0 rfl) ?_
      refine fb_getr (k2 := 49) C w (fb_k48 C) rfl fl_X7_7 dX7_leastHeight_25 ?_
      refine lv_iload_n C.1.1 C.1.2.1 dX7_leastHeight_28 rfl (lv_at hl 3 rfl) ?_
      obtain ⟨z7, z8, h⟩ := h
      refine fb_al C w 292 (fb_k49 C) rfl rfl z7 z8 dX7_leastHeight_29 ?_
      have i9 := w.2.2.2 49 x3
      refine fb_callSi (As := [.int (fb_I x2), .int (fb_I (σ1 49 x3))]) (rest := []) C w (ct_X7_lesser l G ix2 i9 h) ms_X7_119 ⟨rfl, rfl, Nat.le_of_ble_eq_true rfl, Nat.le_of_ble_eq_true rfl, Nat.zero_le _, Nat.zero_le _⟩ rfl hl.1 rfl (Nat.le_of_ble_eq_true rfl) dX7_leastHeight_30 (fun a10 σ10 H locs h ia10 w => ?_)
      refine lv_goto (tgt := 37) C.1.1 C.1.2.1 dX7_leastHeight_33 (by decide) ?_
      exact tw_X7_leastHeight_37 C hret h5 x1 x3 a10 _ _ _ _ w (lv_sub hl [0, 1, 3] rfl) ix1 ix3 ia10 h
theorem tl_X7_leastHeight_5 (C : fb_C p s m args meth c G RX7 cX7_leastHeight 4) (hret : fb_RI p l e rm_X7_leastHeight s m args below meth c G cX7_leastHeight Qm Q) : ∀ n : Nat, TT_X7_leastHeight_5 p l e s m args below meth c Qm G (wl_X7_leastHeight_5 Q n) := by
  intro n
  induction n with
  | zero => intro x1 x2 x3 σ H locs ls w hl ix1 ix2 ix3 h; exact h.elim
  | succ n ih => exact tw_X7_leastHeight_5 C hret ih
set_option maxRecDepth 100000 in
set_option maxHeartbeats 4000000 in
theorem tw_X7_leastHeight_0 (C : fb_C p s m args meth c G RX7 cX7_leastHeight 4) (hret : fb_RI p l e rm_X7_leastHeight s m args below meth c G cX7_leastHeight Qm Q) : TT_X7_leastHeight_0 p l e s m args below meth c Qm G (fun x1 σ => wp_X7_leastHeight x1 σ Q) := by
  intro x1 σ H locs ls w hl ix1 h
  unfold wp_X7_leastHeight at h
  refine fb_bipush C dX7_leastHeight_0 (by decide) ?_
  refine lv_istore_n (lv' := [(2, .int (fb_I (-6))), (0, .ref (fb_ad G 48)), (1, .int (fb_I x1))]) C.1.1 C.1.2.1 dX7_leastHeight_2 rfl hl (by decide) rfl (fun ls hl => ?_)
  refine fb_iconst C dX7_leastHeight_3 ?_
  refine lv_istore_n (lv' := [(3, .int (fb_I 0)), (2, .int (fb_I (-6))), (0, .ref (fb_ad G 48)), (1, .int (fb_I x1))]) C.1.1 C.1.2.1 dX7_leastHeight_4 rfl hl (by decide) rfl (fun ls hl => ?_)
  obtain ⟨n, h⟩ := h
  exact tl_X7_leastHeight_5 C hret n x1 (-6) 0 _ _ _ _ w (lv_sub hl [2, 3, 1, 0] rfl) ix1 (by decide) (by decide) h
theorem ct_X7_leastHeight (l : Launch) (G : fb_G) {x1 : Int} {σ : fb_St} (ix1 : fb_in x1) (h : wp_X7_leastHeight x1 σ Q) : fb_MI l G yX7_leastHeight cX7_leastHeight 4 (some .int) rm_X7_leastHeight [.ref (fb_ad G 48), .int (fb_I x1)] σ Q := by
  refine fb_ofW (own := RX7) (by decide) (Nat.le_of_ble_eq_true rfl) rfl (fun p e s m args below meth c ls C hr hl w => ?_)
  exact tw_X7_leastHeight_0 C (fb_reti C hr) _ _ _ _ _ w hl ix1 h
end S_X7_leastHeight
section S_X7_sizeOf
variable {p : Program} {l : Launch} {e : Env} {s : State} {m : MethodId} {args : Array Value} {below : List Frame} {meth : Method} {c : Code} {Qm : State → Prop} {G : fb_G} {Q : Int → fb_St → Prop}
abbrev TT_X7_sizeOf_82 (p : Program) (l : Launch) (e : Env) (s : State) (m : MethodId) (args : Array Value) (below : List Frame) (meth : Method) (c : Code) (Qm : State → Prop) (G : fb_G) (r : Int → Int → Int → Int → Int → fb_St → Prop) : Prop := ∀ (x1 x3 x5 s0 s1 : Int) (σ : fb_St) (H : Heap) (locs : List Loc) (ls : Array Slot), fb_Wd G s σ H locs → lv_has ls 6 [(0, .ref (fb_ad G 48)), (1, .int (fb_I x1)), (3, .int (fb_I x3)), (5, .int (fb_I x5))] → fb_in x1 → fb_in x3 → fb_in x5 → fb_in s0 → fb_in s1 → r x1 x3 x5 s0 s1 σ → W p l e rm_X7_sizeOf s m args below meth c H locs 0 0 Qm (F0 m 82 ls [.int (fb_I s0), .int (fb_I s1)])
abbrev TT_X7_sizeOf_43 (p : Program) (l : Launch) (e : Env) (s : State) (m : MethodId) (args : Array Value) (below : List Frame) (meth : Method) (c : Code) (Qm : State → Prop) (G : fb_G) (r : Int → Int → Int → Int → fb_St → Prop) : Prop := ∀ (x1 x3 x4 x5 : Int) (σ : fb_St) (H : Heap) (locs : List Loc) (ls : Array Slot), fb_Wd G s σ H locs → lv_has ls 6 [(0, .ref (fb_ad G 48)), (1, .int (fb_I x1)), (3, .int (fb_I x3)), (4, .int (fb_I x4)), (5, .int (fb_I x5))] → fb_in x1 → fb_in x3 → fb_in x4 → fb_in x5 → r x1 x3 x4 x5 σ → W p l e rm_X7_sizeOf s m args below meth c H locs 0 0 Qm (F0 m 43 ls [])
abbrev TT_X7_sizeOf_0 (p : Program) (l : Launch) (e : Env) (s : State) (m : MethodId) (args : Array Value) (below : List Frame) (meth : Method) (c : Code) (Qm : State → Prop) (G : fb_G) (r : Int → Int → Int → fb_St → Prop) : Prop := ∀ (x1 x2 x3 : Int) (σ : fb_St) (H : Heap) (locs : List Loc) (ls : Array Slot), fb_Wd G s σ H locs → lv_has ls 6 [(0, .ref (fb_ad G 48)), (1, .int (fb_I x1)), (2, .int (fb_I x2)), (3, .int (fb_I x3))] → fb_in x1 → fb_in x2 → fb_in x3 → r x1 x2 x3 σ → W p l e rm_X7_sizeOf s m args below meth c H locs 0 0 Qm (F0 m 0 ls [])
set_option maxRecDepth 100000 in
set_option maxHeartbeats 4000000 in
theorem tw_X7_sizeOf_82 (C : fb_C p s m args meth c G RX7 cX7_sizeOf 6) (hret : fb_RI p l e rm_X7_sizeOf s m args below meth c G cX7_sizeOf Qm Q) {r43 : Int → Int → Int → Int → fb_St → Prop} (h43 : TT_X7_sizeOf_43 p l e s m args below meth c Qm G r43) : TT_X7_sizeOf_82 p l e s m args below meth c Qm G (wj_X7_sizeOf_82 r43 Q) := by
  intro x1 x3 x5 s0 s1 σ H locs ls w hl ix1 ix3 ix5 is0 is1 h
  unfold wj_X7_sizeOf_82 at h
  obtain ⟨i19, h⟩ := h
  refine fb_iadd C dX7_sizeOf_82 ?_
  refine fb_top (fun v20 ev20 => ?_)
  have h := h v20 ev20
  have iv20 := fb_ie ev20 i19
  refine lv_istore (lv' := [(4, .int (fb_I v20)), (0, .ref (fb_ad G 48)), (1, .int (fb_I x1)), (3, .int (fb_I x3)), (5, .int (fb_I x5))]) C.1.1 C.1.2.1 dX7_sizeOf_83 hl (by decide) rfl (fun ls hl => ?_)
  obtain ⟨i21, h⟩ := h
  refine fb_iinc (b := x5 + 1) (k := 4) (lv' := [(5, .int (fb_I (x5 + 1))), (4, .int (fb_I v20)), (0, .ref (fb_ad G 48)), (1, .int (fb_I x1)), (3, .int (fb_I x3))]) C dX7_sizeOf_85 hl rfl rfl (by decide) rfl (fun ls hl => ?_)
  refine lv_goto (tgt := 43) C.1.1 C.1.2.1 dX7_sizeOf_88 (by decide) ?_
  exact h43 x1 x3 v20 (x5 + 1) _ _ _ _ w (lv_sub hl [2, 3, 4, 1, 0] rfl) ix1 ix3 iv20 i21 h
set_option maxRecDepth 100000 in
set_option maxHeartbeats 4000000 in
theorem tw_X7_sizeOf_43 (C : fb_C p s m args meth c G RX7 cX7_sizeOf 6) (hret : fb_RI p l e rm_X7_sizeOf s m args below meth c G cX7_sizeOf Qm Q) {r43 : Int → Int → Int → Int → fb_St → Prop} (h43 : TT_X7_sizeOf_43 p l e s m args below meth c Qm G r43) : TT_X7_sizeOf_43 p l e s m args below meth c Qm G (wb_X7_sizeOf_43 r43 Q) := by
  intro x1 x3 x4 x5 σ H locs ls w hl ix1 ix3 ix4 ix5 h
  unfold wb_X7_sizeOf_43 at h
  refine lv_iload C.1.1 C.1.2.1 dX7_sizeOf_43 (lv_at hl 4 rfl) ?_
  refine lv_aload_n C.1.1 C.1.2.1 dX7_sizeOf_45 rfl (lv_at hl 0 rfl) ?_
  refine fb_callVi (As := []) (rest := [.int (fb_I x5)]) C w (ct_X7_dots l G h) mv_X7_80 (fb_k48 C) rfl ⟨rfl, rfl, Nat.le_of_ble_eq_true rfl, Nat.le_of_ble_eq_true rfl, Nat.zero_le _, Nat.zero_le _⟩ rfl hl.1 rfl (Nat.le_of_ble_eq_true rfl) dX7_sizeOf_46 (fun a8 σ8 H locs h ia8 w => ?_)
  refine fb_icmp_ge (tgt := 91) C ix5 ia8 dX7_sizeOf_49 (by decide) (fun c9 => ?_) (fun c9 => ?_)
  · have h := h.2 c9
    refine lv_iload C.1.1 C.1.2.1 dX7_sizeOf_91 (lv_at hl 3 rfl) ?_
    exact hret _ _ _ _ _ _ ix4 h w dX7_sizeOf_93
  · have h := h.1 c9
    refine lv_iload C.1.1 C.1.2.1 dX7_sizeOf_52 (lv_at hl 3 rfl) ?_
    refine lv_aload_n C.1.1 C.1.2.1 dX7_sizeOf_54 rfl (lv_at hl 0 rfl) ?_
    refine fb_getr (k2 := 60) C w (fb_k48 C) rfl fl_X7_44 dX7_sizeOf_55 ?_
    refine lv_iload C.1.1 C.1.2.1 dX7_sizeOf_58 (lv_at hl 4 rfl) ?_
    obtain ⟨z10, z11, h⟩ := h
    refine fb_al C w 144 (fb_k60 C) rfl rfl z10 z11 dX7_sizeOf_60 ?_
    have i12 := w.2.2.2 60 x5
    refine lv_iload_n C.1.1 C.1.2.1 dX7_sizeOf_61 rfl (lv_at hl 1 rfl) ?_
    refine fb_icmp_ne (tgt := 81) C i12 ix1 dX7_sizeOf_62 (by decide) (fun c13 => ?_) (fun c13 => ?_)
    · have h := h.2 c13
      refine fb_iconst C dX7_sizeOf_81 ?_
      exact tw_X7_sizeOf_82 C hret h43 x1 x3 x5 0 x4 _ _ _ _ w (lv_sub hl [0, 1, 2, 4] rfl) ix1 ix3 ix5 (by decide) ix4 h
    · have h := h.1 c13
      refine lv_iload_n C.1.1 C.1.2.1 dX7_sizeOf_65 rfl (lv_at hl 2 rfl) ?_
      refine lv_aload_n C.1.1 C.1.2.1 dX7_sizeOf_66 rfl (lv_at hl 0 rfl) ?_
      refine fb_getr (k2 := 49) C w (fb_k48 C) rfl fl_X7_7 dX7_sizeOf_67 ?_
      refine lv_iload C.1.1 C.1.2.1 dX7_sizeOf_70 (lv_at hl 4 rfl) ?_
      obtain ⟨z14, z15, h⟩ := h
      refine fb_al C w 292 (fb_k49 C) rfl rfl z14 z15 dX7_sizeOf_72 ?_
      have i16 := w.2.2.2 49 x5
      obtain ⟨i17, h⟩ := h
      refine fb_isub C dX7_sizeOf_73 ?_
      refine fb_iconst C dX7_sizeOf_74 ?_
      refine fb_callSi (As := [.int (fb_I (x3 - (σ8 49 x5))), .int (fb_I 0)]) (rest := [.int (fb_I x4)]) C w (ct_X7_greater l G i17 (by decide) h) ms_X7_98 ⟨rfl, rfl, Nat.le_of_ble_eq_true rfl, Nat.le_of_ble_eq_true rfl, Nat.zero_le _, Nat.zero_le _⟩ rfl hl.1 rfl (Nat.le_of_ble_eq_true rfl) dX7_sizeOf_75 (fun a18 σ18 H locs h ia18 w => ?_)
      refine lv_goto (tgt := 82) C.1.1 C.1.2.1 dX7_sizeOf_78 (by decide) ?_
      exact tw_X7_sizeOf_82 C hret h43 x1 x3 x5 a18 x4 _ _ _ _ w (lv_sub hl [0, 1, 2, 4] rfl) ix1 ix3 ix5 ia18 ix4 h
theorem tl_X7_sizeOf_43 (C : fb_C p s m args meth c G RX7 cX7_sizeOf 6) (hret : fb_RI p l e rm_X7_sizeOf s m args below meth c G cX7_sizeOf Qm Q) : ∀ n : Nat, TT_X7_sizeOf_43 p l e s m args below meth c Qm G (wl_X7_sizeOf_43 Q n) := by
  intro n
  induction n with
  | zero => intro x1 x3 x4 x5 σ H locs ls w hl ix1 ix3 ix4 ix5 h; exact h.elim
  | succ n ih => exact tw_X7_sizeOf_43 C hret ih
set_option maxRecDepth 100000 in
set_option maxHeartbeats 4000000 in
theorem tw_X7_sizeOf_0 (C : fb_C p s m args meth c G RX7 cX7_sizeOf 6) (hret : fb_RI p l e rm_X7_sizeOf s m args below meth c G cX7_sizeOf Qm Q) : TT_X7_sizeOf_0 p l e s m args below meth c Qm G (fun x1 x2 x3 σ => wp_X7_sizeOf x1 x2 x3 σ Q) := by
  intro x1 x2 x3 σ H locs ls w hl ix1 ix2 ix3 h
  unfold wp_X7_sizeOf at h
  refine lv_iload_n C.1.1 C.1.2.1 dX7_sizeOf_0 rfl (lv_at hl 2 rfl) ?_
  refine fb_if_ne (tgt := 14) C ix2 dX7_sizeOf_1 (by decide) (fun c1 => ?_) (fun c1 => ?_)
  · have h := h.2 c1
    refine lv_iload_n C.1.1 C.1.2.1 dX7_sizeOf_14 rfl (lv_at hl 3 rfl) ?_
    refine fb_if_ge (tgt := 20) C ix3 dX7_sizeOf_15 (by decide) (fun c2 => ?_) (fun c2 => ?_)
    · have h := h.2 c2
      refine lv_iload_n C.1.1 C.1.2.1 dX7_sizeOf_20 rfl (lv_at hl 2 rfl) ?_
      refine fb_iconst C dX7_sizeOf_21 ?_
      refine fb_icmp_ne (tgt := 37) C ix2 (by decide) dX7_sizeOf_22 (by decide) (fun c3 => ?_) (fun c3 => ?_)
      · have h := h.2 c3
        refine fb_iconst C dX7_sizeOf_37 ?_
        refine lv_istore (lv' := [(4, .int (fb_I 0)), (0, .ref (fb_ad G 48)), (1, .int (fb_I x1)), (2, .int (fb_I x2)), (3, .int (fb_I x3))]) C.1.1 C.1.2.1 dX7_sizeOf_38 hl (by decide) rfl (fun ls hl => ?_)
        refine fb_iconst C dX7_sizeOf_40 ?_
        refine lv_istore (lv' := [(5, .int (fb_I 0)), (4, .int (fb_I 0)), (0, .ref (fb_ad G 48)), (1, .int (fb_I x1)), (2, .int (fb_I x2)), (3, .int (fb_I x3))]) C.1.1 C.1.2.1 dX7_sizeOf_41 hl (by decide) rfl (fun ls hl => ?_)
        obtain ⟨n, h⟩ := h
        exact tl_X7_sizeOf_43 C hret n x1 x3 0 0 _ _ _ _ w (lv_sub hl [2, 3, 5, 1, 0] rfl) ix1 ix3 (by decide) (by decide) h
      · have h := h.1 c3
        refine lv_iload_n C.1.1 C.1.2.1 dX7_sizeOf_25 rfl (lv_at hl 3 rfl) ?_
        refine lv_aload_n C.1.1 C.1.2.1 dX7_sizeOf_26 rfl (lv_at hl 0 rfl) ?_
        refine lv_iload_n C.1.1 C.1.2.1 dX7_sizeOf_27 rfl (lv_at hl 1 rfl) ?_
        refine fb_callVi (As := [.int (fb_I x1)]) (rest := [.int (fb_I x3)]) C w (ct_X7_leastHeight l G ix1 h) mv_X7_128 (fb_k48 C) rfl ⟨rfl, rfl, Nat.le_of_ble_eq_true rfl, Nat.le_of_ble_eq_true rfl, Nat.zero_le _, Nat.zero_le _⟩ rfl hl.1 rfl (Nat.le_of_ble_eq_true rfl) dX7_sizeOf_28 (fun a4 σ4 H locs h ia4 w => ?_)
        obtain ⟨i5, h⟩ := h
        refine fb_isub C dX7_sizeOf_31 ?_
        refine fb_iconst C dX7_sizeOf_32 ?_
        refine fb_callSi (As := [.int (fb_I (x3 - a4)), .int (fb_I 0)]) (rest := []) C w (ct_X7_greater l G i5 (by decide) h) ms_X7_98 ⟨rfl, rfl, Nat.le_of_ble_eq_true rfl, Nat.le_of_ble_eq_true rfl, Nat.zero_le _, Nat.zero_le _⟩ rfl hl.1 rfl (Nat.le_of_ble_eq_true rfl) dX7_sizeOf_33 (fun a6 σ6 H locs h ia6 w => ?_)
        exact hret _ _ _ _ _ _ ia6 h w dX7_sizeOf_36
    · have h := h.1 c2
      refine fb_iconst C dX7_sizeOf_18 ?_
      exact hret _ _ _ _ _ _ (by decide) h w dX7_sizeOf_19
  · have h := h.1 c1
    refine lv_aload_n C.1.1 C.1.2.1 dX7_sizeOf_4 rfl (lv_at hl 0 rfl) ?_
    refine lv_aload_n C.1.1 C.1.2.1 dX7_sizeOf_5 rfl (lv_at hl 0 rfl) ?_
    refine fb_getr (k2 := 60) C w (fb_k48 C) rfl fl_X7_44 dX7_sizeOf_6 ?_
    refine lv_iload_n C.1.1 C.1.2.1 dX7_sizeOf_9 rfl (lv_at hl 1 rfl) ?_
    refine fb_callVi (As := [.ref (fb_ad G 60), .int (fb_I x1)]) (rest := []) C w (ct_X7_dotsOf l G (fb_k60 C) ix1 h) mv_X7_125 (fb_k48 C) rfl ⟨rfl, rfl, Nat.le_of_ble_eq_true rfl, Nat.le_of_ble_eq_true rfl, Nat.zero_le _, Nat.zero_le _⟩ rfl hl.1 rfl (Nat.le_of_ble_eq_true rfl) dX7_sizeOf_10 (fun a7 σ7 H locs h ia7 w => ?_)
    exact hret _ _ _ _ _ _ ia7 h w dX7_sizeOf_13
theorem ct_X7_sizeOf (l : Launch) (G : fb_G) {x1 : Int} {x2 : Int} {x3 : Int} {σ : fb_St} (ix1 : fb_in x1) (ix2 : fb_in x2) (ix3 : fb_in x3) (h : wp_X7_sizeOf x1 x2 x3 σ Q) : fb_MI l G yX7_sizeOf cX7_sizeOf 6 (some .int) rm_X7_sizeOf [.ref (fb_ad G 48), .int (fb_I x1), .int (fb_I x2), .int (fb_I x3)] σ Q := by
  refine fb_ofW (own := RX7) (by decide) (Nat.le_of_ble_eq_true rfl) rfl (fun p e s m args below meth c ls C hr hl w => ?_)
  exact tw_X7_sizeOf_0 C (fb_reti C hr) _ _ _ _ _ _ _ w hl ix1 ix2 ix3 h
end S_X7_sizeOf
section S_X7_pourOne
variable {p : Program} {l : Launch} {e : Env} {s : State} {m : MethodId} {args : Array Value} {below : List Frame} {meth : Method} {c : Code} {Qm : State → Prop} {G : fb_G} {Q : Int → fb_St → Prop}
abbrev TT_X7_pourOne_35 (p : Program) (l : Launch) (e : Env) (s : State) (m : MethodId) (args : Array Value) (below : List Frame) (meth : Method) (c : Code) (Qm : State → Prop) (G : fb_G) (r : Int → Int → Int → Int → Int → fb_St → Prop) : Prop := ∀ (x1 x2 x3 s0 s1 : Int) (σ : fb_St) (H : Heap) (locs : List Loc) (ls : Array Slot), fb_Wd G s σ H locs → lv_has ls 5 [(0, .ref (fb_ad G 48)), (1, .int (fb_I x1)), (2, .int (fb_I x2)), (3, .int (fb_I x3))] → fb_in x1 → fb_in x2 → fb_in x3 → fb_in s0 → fb_in s1 → r x1 x2 x3 s0 s1 σ → W p l e rm_X7_pourOne s m args below meth c H locs 0 0 Qm (F0 m 35 ls [.int (fb_I s0), .int (fb_I s1), .ref (fb_ad G 60)])
abbrev TT_X7_pourOne_113 (p : Program) (l : Launch) (e : Env) (s : State) (m : MethodId) (args : Array Value) (below : List Frame) (meth : Method) (c : Code) (Qm : State → Prop) (G : fb_G) (r : Int → Int → fb_St → Prop) : Prop := ∀ (x3 x4 : Int) (σ : fb_St) (H : Heap) (locs : List Loc) (ls : Array Slot), fb_Wd G s σ H locs → lv_has ls 5 [(0, .ref (fb_ad G 48)), (3, .int (fb_I x3)), (4, .int (fb_I x4))] → fb_in x3 → fb_in x4 → r x3 x4 σ → W p l e rm_X7_pourOne s m args below meth c H locs 0 0 Qm (F0 m 113 ls [])
abbrev TT_X7_pourOne_122 (p : Program) (l : Launch) (e : Env) (s : State) (m : MethodId) (args : Array Value) (below : List Frame) (meth : Method) (c : Code) (Qm : State → Prop) (G : fb_G) (r : Int → Int → fb_St → Prop) : Prop := ∀ (x3 x4 : Int) (σ : fb_St) (H : Heap) (locs : List Loc) (ls : Array Slot), fb_Wd G s σ H locs → lv_has ls 5 [(0, .ref (fb_ad G 48)), (3, .int (fb_I x3)), (4, .int (fb_I x4))] → fb_in x3 → fb_in x4 → r x3 x4 σ → W p l e rm_X7_pourOne s m args below meth c H locs 0 0 Qm (F0 m 122 ls [])
abbrev TT_X7_pourOne_47 (p : Program) (l : Launch) (e : Env) (s : State) (m : MethodId) (args : Array Value) (below : List Frame) (meth : Method) (c : Code) (Qm : State → Prop) (G : fb_G) (r : Int → Int → fb_St → Prop) : Prop := ∀ (x3 x4 : Int) (σ : fb_St) (H : Heap) (locs : List Loc) (ls : Array Slot), fb_Wd G s σ H locs → lv_has ls 5 [(0, .ref (fb_ad G 48)), (3, .int (fb_I x3)), (4, .int (fb_I x4))] → fb_in x3 → fb_in x4 → r x3 x4 σ → W p l e rm_X7_pourOne s m args below meth c H locs 0 0 Qm (F0 m 47 ls [])
abbrev TT_X7_pourOne_2 (p : Program) (l : Launch) (e : Env) (s : State) (m : MethodId) (args : Array Value) (below : List Frame) (meth : Method) (c : Code) (Qm : State → Prop) (G : fb_G) (r : Int → Int → Int → fb_St → Prop) : Prop := ∀ (x1 x2 x3 : Int) (σ : fb_St) (H : Heap) (locs : List Loc) (ls : Array Slot), fb_Wd G s σ H locs → lv_has ls 5 [(0, .ref (fb_ad G 48)), (1, .int (fb_I x1)), (2, .int (fb_I x2)), (3, .int (fb_I x3))] → fb_in x1 → fb_in x2 → fb_in x3 → r x1 x2 x3 σ → W p l e rm_X7_pourOne s m args below meth c H locs 0 0 Qm (F0 m 2 ls [])
abbrev TT_X7_pourOne_0 (p : Program) (l : Launch) (e : Env) (s : State) (m : MethodId) (args : Array Value) (below : List Frame) (meth : Method) (c : Code) (Qm : State → Prop) (G : fb_G) (r : Int → Int → fb_St → Prop) : Prop := ∀ (x1 x2 : Int) (σ : fb_St) (H : Heap) (locs : List Loc) (ls : Array Slot), fb_Wd G s σ H locs → lv_has ls 5 [(0, .ref (fb_ad G 48)), (1, .int (fb_I x1)), (2, .int (fb_I x2))] → fb_in x1 → fb_in x2 → r x1 x2 σ → W p l e rm_X7_pourOne s m args below meth c H locs 0 0 Qm (F0 m 0 ls [])
set_option maxRecDepth 100000 in
set_option maxHeartbeats 4000000 in
theorem tw_X7_pourOne_35 (C : fb_C p s m args meth c G RX7 cX7_pourOne 5) (hret : fb_RI p l e rm_X7_pourOne s m args below meth c G cX7_pourOne Qm Q) {r2 : Int → Int → Int → fb_St → Prop} (h2 : TT_X7_pourOne_2 p l e s m args below meth c Qm G r2) : TT_X7_pourOne_35 p l e s m args below meth c Qm G (wj_X7_pourOne_35 r2 Q) := by
  intro x1 x2 x3 s0 s1 σ H locs ls w hl ix1 ix2 ix3 is0 is1 h
  unfold wj_X7_pourOne_35 at h
  obtain ⟨z29, z30, h⟩ := h
  refine fb_as C w 144 (fb_k60 C) rfl rfl is0 z29 z30 dX7_pourOne_35 (fun σ31 H locs eσ31 w => ?_)
  have h := h σ31 eσ31
  obtain ⟨i32, h⟩ := h
  refine fb_iinc (b := x3 + 1) (k := 3) (lv' := [(3, .int (fb_I (x3 + 1))), (0, .ref (fb_ad G 48)), (1, .int (fb_I x1)), (2, .int (fb_I x2))]) C dX7_pourOne_36 hl rfl rfl (by decide) rfl (fun ls hl => ?_)
  refine lv_goto (tgt := 2) C.1.1 C.1.2.1 dX7_pourOne_39 (by decide) ?_
  exact h2 x1 x2 (x3 + 1) _ _ _ _ w (lv_sub hl [1, 2, 3, 0] rfl) ix1 ix2 i32 h
set_option maxRecDepth 100000 in
set_option maxHeartbeats 4000000 in
theorem tw_X7_pourOne_113 (C : fb_C p s m args meth c G RX7 cX7_pourOne 5) (hret : fb_RI p l e rm_X7_pourOne s m args below meth c G cX7_pourOne Qm Q) {r47 : Int → Int → fb_St → Prop} (h47 : TT_X7_pourOne_47 p l e s m args below meth c Qm G r47) : TT_X7_pourOne_113 p l e s m args below meth c Qm G (wj_X7_pourOne_113 r47 Q) := by
  intro x3 x4 σ H locs ls w hl ix3 ix4 h
  unfold wj_X7_pourOne_113 at h
  obtain ⟨i42, h⟩ := h
  refine fb_iinc (b := x4 + 1) (k := 2) (lv' := [(4, .int (fb_I (x4 + 1))), (0, .ref (fb_ad G 48)), (3, .int (fb_I x3))]) C dX7_pourOne_113 hl rfl rfl (by decide) rfl (fun ls hl => ?_)
  refine lv_goto (tgt := 47) C.1.1 C.1.2.1 dX7_pourOne_116 (by decide) ?_
  exact h47 x3 (x4 + 1) _ _ _ _ w (lv_sub hl [1, 2, 0] rfl) ix3 i42 h
set_option maxRecDepth 100000 in
set_option maxHeartbeats 4000000 in
theorem tw_X7_pourOne_122 (C : fb_C p s m args meth c G RX7 cX7_pourOne 5) (hret : fb_RI p l e rm_X7_pourOne s m args below meth c G cX7_pourOne Qm Q) {r122 : Int → Int → fb_St → Prop} (h122 : TT_X7_pourOne_122 p l e s m args below meth c Qm G r122) : TT_X7_pourOne_122 p l e s m args below meth c Qm G (wb_X7_pourOne_122 r122 Q) := by
  intro x3 x4 σ H locs ls w hl ix3 ix4 h
  unfold wb_X7_pourOne_122 at h
  refine lv_iload C.1.1 C.1.2.1 dX7_pourOne_122 (lv_at hl 2 rfl) ?_
  refine lv_aload_n C.1.1 C.1.2.1 dX7_pourOne_124 rfl (lv_at hl 0 rfl) ?_
  refine fb_callVi (As := []) (rest := [.int (fb_I x4)]) C w (ct_X7_dots l G h) mv_X7_80 (fb_k48 C) rfl ⟨rfl, rfl, Nat.le_of_ble_eq_true rfl, Nat.le_of_ble_eq_true rfl, Nat.zero_le _, Nat.zero_le _⟩ rfl hl.1 rfl (Nat.le_of_ble_eq_true rfl) dX7_pourOne_125 (fun a33 σ33 H locs h ia33 w => ?_)
  refine fb_icmp_ge (tgt := 151) C ix4 ia33 dX7_pourOne_128 (by decide) (fun c34 => ?_) (fun c34 => ?_)
  · have h := h.2 c34
    refine lv_iload_n C.1.1 C.1.2.1 dX7_pourOne_151 rfl (lv_at hl 1 rfl) ?_
    exact hret _ _ _ _ _ _ ix3 h w dX7_pourOne_152
  · have h := h.1 c34
    refine lv_aload_n C.1.1 C.1.2.1 dX7_pourOne_131 rfl (lv_at hl 0 rfl) ?_
    refine fb_getr (k2 := 60) C w (fb_k48 C) rfl fl_X7_44 dX7_pourOne_132 ?_
    refine lv_iload C.1.1 C.1.2.1 dX7_pourOne_135 (lv_at hl 2 rfl) ?_
    refine lv_aload_n C.1.1 C.1.2.1 dX7_pourOne_137 rfl (lv_at hl 0 rfl) ?_
    refine fb_getr (k2 := 66) C w (fb_k48 C) rfl fl_X7_62 dX7_pourOne_138 ?_
    refine lv_iload C.1.1 C.1.2.1 dX7_pourOne_141 (lv_at hl 2 rfl) ?_
    obtain ⟨z35, z36, h⟩ := h
    refine fb_al C w 144 (fb_k66 C) rfl rfl z35 z36 dX7_pourOne_143 ?_
    have i37 := w.2.2.2 66 x4
    obtain ⟨z38, z39, h⟩ := h
    refine fb_as C w 144 (fb_k60 C) rfl rfl i37 z38 z39 dX7_pourOne_144 (fun σ40 H locs eσ40 w => ?_)
    have h := h σ40 eσ40
    obtain ⟨i41, h⟩ := h
    refine fb_iinc (b := x4 + 1) (k := 2) (lv' := [(4, .int (fb_I (x4 + 1))), (0, .ref (fb_ad G 48)), (3, .int (fb_I x3))]) C dX7_pourOne_145 hl rfl rfl (by decide) rfl (fun ls hl => ?_)
    refine lv_goto (tgt := 122) C.1.1 C.1.2.1 dX7_pourOne_148 (by decide) ?_
    exact h122 x3 (x4 + 1) _ _ _ _ w (lv_sub hl [1, 2, 0] rfl) ix3 i41 h
theorem tl_X7_pourOne_122 (C : fb_C p s m args meth c G RX7 cX7_pourOne 5) (hret : fb_RI p l e rm_X7_pourOne s m args below meth c G cX7_pourOne Qm Q) : ∀ n : Nat, TT_X7_pourOne_122 p l e s m args below meth c Qm G (wl_X7_pourOne_122 Q n) := by
  intro n
  induction n with
  | zero => intro x3 x4 σ H locs ls w hl ix3 ix4 h; exact h.elim
  | succ n ih => exact tw_X7_pourOne_122 C hret ih
set_option maxRecDepth 100000 in
set_option maxHeartbeats 4000000 in
theorem tw_X7_pourOne_47 (C : fb_C p s m args meth c G RX7 cX7_pourOne 5) (hret : fb_RI p l e rm_X7_pourOne s m args below meth c G cX7_pourOne Qm Q) {r47 : Int → Int → fb_St → Prop} (h47 : TT_X7_pourOne_47 p l e s m args below meth c Qm G r47) : TT_X7_pourOne_47 p l e s m args below meth c Qm G (wb_X7_pourOne_47 r47 Q) := by
  intro x3 x4 σ H locs ls w hl ix3 ix4 h
  unfold wb_X7_pourOne_47 at h
  refine lv_iload C.1.1 C.1.2.1 dX7_pourOne_47 (lv_at hl 2 rfl) ?_
  refine lv_aload_n C.1.1 C.1.2.1 dX7_pourOne_49 rfl (lv_at hl 0 rfl) ?_
  refine fb_callVi (As := []) (rest := [.int (fb_I x4)]) C w (ct_X7_dots l G h) mv_X7_80 (fb_k48 C) rfl ⟨rfl, rfl, Nat.le_of_ble_eq_true rfl, Nat.le_of_ble_eq_true rfl, Nat.zero_le _, Nat.zero_le _⟩ rfl hl.1 rfl (Nat.le_of_ble_eq_true rfl) dX7_pourOne_50 (fun a10 σ10 H locs h ia10 w => ?_)
  refine fb_icmp_ge (tgt := 119) C ix4 ia10 dX7_pourOne_53 (by decide) (fun c11 => ?_) (fun c11 => ?_)
  · have h := h.2 c11
    refine fb_iconst C dX7_pourOne_119 ?_
    refine lv_istore (lv' := [(4, .int (fb_I 0)), (0, .ref (fb_ad G 48)), (3, .int (fb_I x3))]) C.1.1 C.1.2.1 dX7_pourOne_120 hl (by decide) rfl (fun ls hl => ?_)
    obtain ⟨n, h⟩ := h
    exact tl_X7_pourOne_122 C hret n x3 0 _ _ _ _ w (lv_sub hl [1, 2, 0] rfl) ix3 (by decide) h
  · have h := h.1 c11
    refine lv_aload_n C.1.1 C.1.2.1 dX7_pourOne_56 rfl (lv_at hl 0 rfl) ?_
    refine fb_getr (k2 := 66) C w (fb_k48 C) rfl fl_X7_62 dX7_pourOne_57 ?_
    refine lv_iload C.1.1 C.1.2.1 dX7_pourOne_60 (lv_at hl 2 rfl) ?_
    refine lv_aload_n C.1.1 C.1.2.1 dX7_pourOne_62 rfl (lv_at hl 0 rfl) ?_
    refine fb_getr (k2 := 60) C w (fb_k48 C) rfl fl_X7_44 dX7_pourOne_63 ?_
    refine lv_iload C.1.1 C.1.2.1 dX7_pourOne_66 (lv_at hl 2 rfl) ?_
    obtain ⟨z12, z13, h⟩ := h
    refine fb_al C w 144 (fb_k60 C) rfl rfl z12 z13 dX7_pourOne_68 ?_
    have i14 := w.2.2.2 60 x4
    obtain ⟨z15, z16, h⟩ := h
    refine fb_as C w 144 (fb_k66 C) rfl rfl i14 z15 z16 dX7_pourOne_69 (fun σ17 H locs eσ17 w => ?_)
    have h := h σ17 eσ17
    refine lv_aload_n C.1.1 C.1.2.1 dX7_pourOne_70 rfl (lv_at hl 0 rfl) ?_
    refine fb_getr (k2 := 60) C w (fb_k48 C) rfl fl_X7_44 dX7_pourOne_71 ?_
    refine lv_iload C.1.1 C.1.2.1 dX7_pourOne_74 (lv_at hl 2 rfl) ?_
    obtain ⟨z18, z19, h⟩ := h
    refine fb_al C w 144 (fb_k60 C) rfl rfl z18 z19 dX7_pourOne_76 ?_
    have i20 := w.2.2.2 60 x4
    refine fb_if_ne (tgt := 113) C i20 dX7_pourOne_77 (by decide) (fun c21 => ?_) (fun c21 => ?_)
    · have h := h.2 c21
      exact tw_X7_pourOne_113 C hret h47 x3 x4 _ _ _ _ w (lv_sub hl [0, 1, 2] rfl) ix3 ix4 h
    · have h := h.1 c21
      refine lv_aload_n C.1.1 C.1.2.1 dX7_pourOne_80 rfl (lv_at hl 0 rfl) ?_
      refine lv_aload_n C.1.1 C.1.2.1 dX7_pourOne_81 rfl (lv_at hl 0 rfl) ?_
      refine fb_getr (k2 := 60) C w (fb_k48 C) rfl fl_X7_44 dX7_pourOne_82 ?_
      refine lv_iload C.1.1 C.1.2.1 dX7_pourOne_85 (lv_at hl 2 rfl) ?_
      refine fb_callVi (As := [.ref (fb_ad G 60), .int (fb_I x4)]) (rest := []) C w (ct_X7_basinBeside l G (fb_k60 C) ix4 h) mv_X7_112 (fb_k48 C) rfl ⟨rfl, rfl, Nat.le_of_ble_eq_true rfl, Nat.le_of_ble_eq_true rfl, Nat.zero_le _, Nat.zero_le _⟩ rfl hl.1 rfl (Nat.le_of_ble_eq_true rfl) dX7_pourOne_87 (fun a22 σ22 H locs h ia22 w => ?_)
      refine fb_if_le (tgt := 113) C ia22 dX7_pourOne_90 (by decide) (fun c23 => ?_) (fun c23 => ?_)
      · have h := h.2 c23
        exact tw_X7_pourOne_113 C hret h47 x3 x4 _ _ _ _ w (lv_sub hl [0, 1, 2] rfl) ix3 ix4 h
      · have h := h.1 c23
        refine lv_aload_n C.1.1 C.1.2.1 dX7_pourOne_93 rfl (lv_at hl 0 rfl) ?_
        refine fb_getr (k2 := 66) C w (fb_k48 C) rfl fl_X7_62 dX7_pourOne_94 ?_
        refine lv_iload C.1.1 C.1.2.1 dX7_pourOne_97 (lv_at hl 2 rfl) ?_
        refine lv_aload_n C.1.1 C.1.2.1 dX7_pourOne_99 rfl (lv_at hl 0 rfl) ?_
        refine lv_aload_n C.1.1 C.1.2.1 dX7_pourOne_100 rfl (lv_at hl 0 rfl) ?_
        refine fb_getr (k2 := 60) C w (fb_k48 C) rfl fl_X7_44 dX7_pourOne_101 ?_
        refine lv_iload C.1.1 C.1.2.1 dX7_pourOne_104 (lv_at hl 2 rfl) ?_
        refine fb_callVi (As := [.ref (fb_ad G 60), .int (fb_I x4)]) (rest := [.int (fb_I x4), .ref (fb_ad G 66)]) C w (ct_X7_basinBeside l G (fb_k60 C) ix4 h) mv_X7_112 (fb_k48 C) rfl ⟨rfl, rfl, Nat.le_of_ble_eq_true rfl, Nat.le_of_ble_eq_true rfl, Nat.zero_le _, Nat.zero_le _⟩ rfl hl.1 rfl (Nat.le_of_ble_eq_true rfl) dX7_pourOne_106 (fun a24 σ24 H locs h ia24 w => ?_)
        obtain ⟨z25, z26, h⟩ := h
        refine fb_as C w 144 (fb_k66 C) rfl rfl ia24 z25 z26 dX7_pourOne_109 (fun σ27 H locs eσ27 w => ?_)
        have h := h σ27 eσ27
        obtain ⟨i28, h⟩ := h
        refine fb_iinc (b := x3 + 1) (k := 1) (lv' := [(3, .int (fb_I (x3 + 1))), (0, .ref (fb_ad G 48)), (4, .int (fb_I x4))]) C dX7_pourOne_110 hl rfl rfl (by decide) rfl (fun ls hl => ?_)
        exact tw_X7_pourOne_113 C hret h47 (x3 + 1) x4 _ _ _ _ w (lv_sub hl [1, 0, 2] rfl) i28 ix4 h
theorem tl_X7_pourOne_47 (C : fb_C p s m args meth c G RX7 cX7_pourOne 5) (hret : fb_RI p l e rm_X7_pourOne s m args below meth c G cX7_pourOne Qm Q) : ∀ n : Nat, TT_X7_pourOne_47 p l e s m args below meth c Qm G (wl_X7_pourOne_47 Q n) := by
  intro n
  induction n with
  | zero => intro x3 x4 σ H locs ls w hl ix3 ix4 h; exact h.elim
  | succ n ih => exact tw_X7_pourOne_47 C hret ih
set_option maxRecDepth 100000 in
set_option maxHeartbeats 4000000 in
theorem tw_X7_pourOne_2 (C : fb_C p s m args meth c G RX7 cX7_pourOne 5) (hret : fb_RI p l e rm_X7_pourOne s m args below meth c G cX7_pourOne Qm Q) {r2 : Int → Int → Int → fb_St → Prop} (h2 : TT_X7_pourOne_2 p l e s m args below meth c Qm G r2) : TT_X7_pourOne_2 p l e s m args below meth c Qm G (wb_X7_pourOne_2 r2 Q) := by
  intro x1 x2 x3 σ H locs ls w hl ix1 ix2 ix3 h
  unfold wb_X7_pourOne_2 at h
  refine lv_iload_n C.1.1 C.1.2.1 dX7_pourOne_2 rfl (lv_at hl 3 rfl) ?_
  refine lv_aload_n C.1.1 C.1.2.1 dX7_pourOne_3 rfl (lv_at hl 0 rfl) ?_
  refine fb_callVi (As := []) (rest := [.int (fb_I x3)]) C w (ct_X7_dots l G h) mv_X7_80 (fb_k48 C) rfl ⟨rfl, rfl, Nat.le_of_ble_eq_true rfl, Nat.le_of_ble_eq_true rfl, Nat.zero_le _, Nat.zero_le _⟩ rfl hl.1 rfl (Nat.le_of_ble_eq_true rfl) dX7_pourOne_4 (fun a1 σ1 H locs h ia1 w => ?_)
  refine fb_icmp_ge (tgt := 42) C ix3 ia1 dX7_pourOne_7 (by decide) (fun c2 => ?_) (fun c2 => ?_)
  · have h := h.2 c2
    refine fb_iconst C dX7_pourOne_42 ?_
    refine lv_istore_n (lv' := [(3, .int (fb_I 0)), (0, .ref (fb_ad G 48)), (1, .int (fb_I x1)), (2, .int (fb_I x2))]) C.1.1 C.1.2.1 dX7_pourOne_43 rfl hl (by decide) rfl (fun ls hl => ?_)
    refine fb_iconst C dX7_pourOne_44 ?_
    refine lv_istore (lv' := [(4, .int (fb_I 0)), (3, .int (fb_I 0)), (0, .ref (fb_ad G 48)), (1, .int (fb_I x1)), (2, .int (fb_I x2))]) C.1.1 C.1.2.1 dX7_pourOne_45 hl (by decide) rfl (fun ls hl => ?_)
    obtain ⟨n, h⟩ := h
    exact tl_X7_pourOne_47 C hret n 0 0 _ _ _ _ w (lv_sub hl [2, 1, 0] rfl) (by decide) (by decide) h
  · have h := h.1 c2
    refine lv_aload_n C.1.1 C.1.2.1 dX7_pourOne_10 rfl (lv_at hl 0 rfl) ?_
    refine fb_getr (k2 := 60) C w (fb_k48 C) rfl fl_X7_44 dX7_pourOne_11 ?_
    refine lv_iload_n C.1.1 C.1.2.1 dX7_pourOne_14 rfl (lv_at hl 3 rfl) ?_
    refine lv_aload_n C.1.1 C.1.2.1 dX7_pourOne_15 rfl (lv_at hl 0 rfl) ?_
    refine fb_getr (k2 := 60) C w (fb_k48 C) rfl fl_X7_44 dX7_pourOne_16 ?_
    refine lv_iload_n C.1.1 C.1.2.1 dX7_pourOne_19 rfl (lv_at hl 3 rfl) ?_
    obtain ⟨z3, z4, h⟩ := h
    refine fb_al C w 144 (fb_k60 C) rfl rfl z3 z4 dX7_pourOne_20 ?_
    have i5 := w.2.2.2 60 x3
    refine lv_iload_n C.1.1 C.1.2.1 dX7_pourOne_21 rfl (lv_at hl 1 rfl) ?_
    refine fb_icmp_ne (tgt := 29) C i5 ix1 dX7_pourOne_22 (by decide) (fun c6 => ?_) (fun c6 => ?_)
    · have h := h.2 c6
      refine lv_aload_n C.1.1 C.1.2.1 dX7_pourOne_29 rfl (lv_at hl 0 rfl) ?_
      refine fb_getr (k2 := 60) C w (fb_k48 C) rfl fl_X7_44 dX7_pourOne_30 ?_
      refine lv_iload_n C.1.1 C.1.2.1 dX7_pourOne_33 rfl (lv_at hl 3 rfl) ?_
      obtain ⟨z7, z8, h⟩ := h
      refine fb_al C w 144 (fb_k60 C) rfl rfl z7 z8 dX7_pourOne_34 ?_
      have i9 := w.2.2.2 60 x3
      exact tw_X7_pourOne_35 C hret h2 x1 x2 x3 (σ1 60 x3) x3 _ _ _ _ w (lv_sub hl [0, 1, 2, 3] rfl) ix1 ix2 ix3 i9 ix3 h
    · have h := h.1 c6
      refine lv_iload_n C.1.1 C.1.2.1 dX7_pourOne_25 rfl (lv_at hl 2 rfl) ?_
      refine lv_goto (tgt := 35) C.1.1 C.1.2.1 dX7_pourOne_26 (by decide) ?_
      exact tw_X7_pourOne_35 C hret h2 x1 x2 x3 x2 x3 _ _ _ _ w (lv_sub hl [0, 1, 2, 3] rfl) ix1 ix2 ix3 ix2 ix3 h
theorem tl_X7_pourOne_2 (C : fb_C p s m args meth c G RX7 cX7_pourOne 5) (hret : fb_RI p l e rm_X7_pourOne s m args below meth c G cX7_pourOne Qm Q) : ∀ n : Nat, TT_X7_pourOne_2 p l e s m args below meth c Qm G (wl_X7_pourOne_2 Q n) := by
  intro n
  induction n with
  | zero => intro x1 x2 x3 σ H locs ls w hl ix1 ix2 ix3 h; exact h.elim
  | succ n ih => exact tw_X7_pourOne_2 C hret ih
set_option maxRecDepth 100000 in
set_option maxHeartbeats 4000000 in
theorem tw_X7_pourOne_0 (C : fb_C p s m args meth c G RX7 cX7_pourOne 5) (hret : fb_RI p l e rm_X7_pourOne s m args below meth c G cX7_pourOne Qm Q) : TT_X7_pourOne_0 p l e s m args below meth c Qm G (fun x1 x2 σ => wp_X7_pourOne x1 x2 σ Q) := by
  intro x1 x2 σ H locs ls w hl ix1 ix2 h
  unfold wp_X7_pourOne at h
  refine fb_iconst C dX7_pourOne_0 ?_
  refine lv_istore_n (lv' := [(3, .int (fb_I 0)), (0, .ref (fb_ad G 48)), (1, .int (fb_I x1)), (2, .int (fb_I x2))]) C.1.1 C.1.2.1 dX7_pourOne_1 rfl hl (by decide) rfl (fun ls hl => ?_)
  obtain ⟨n, h⟩ := h
  exact tl_X7_pourOne_2 C hret n x1 x2 0 _ _ _ _ w (lv_sub hl [1, 2, 3, 0] rfl) ix1 ix2 (by decide) h
theorem ct_X7_pourOne (l : Launch) (G : fb_G) {x1 : Int} {x2 : Int} {σ : fb_St} (ix1 : fb_in x1) (ix2 : fb_in x2) (h : wp_X7_pourOne x1 x2 σ Q) : fb_MI l G yX7_pourOne cX7_pourOne 5 (some .int) rm_X7_pourOne [.ref (fb_ad G 48), .int (fb_I x1), .int (fb_I x2)] σ Q := by
  refine fb_ofW (own := RX7) (by decide) (Nat.le_of_ble_eq_true rfl) rfl (fun p e s m args below meth c ls C hr hl w => ?_)
  exact tw_X7_pourOne_0 C (fb_reti C hr) _ _ _ _ _ _ w hl ix1 ix2 h
end S_X7_pourOne
section S_X7_pour
variable {p : Program} {l : Launch} {e : Env} {s : State} {m : MethodId} {args : Array Value} {below : List Frame} {meth : Method} {c : Code} {Qm : State → Prop} {G : fb_G} {Q : Int → fb_St → Prop}
abbrev TT_X7_pour_145 (p : Program) (l : Launch) (e : Env) (s : State) (m : MethodId) (args : Array Value) (below : List Frame) (meth : Method) (c : Code) (Qm : State → Prop) (G : fb_G) (r : Int → Int → Int → Int → Int → Int → fb_St → Prop) : Prop := ∀ (x1 x2 x4 x5 x6 x7 : Int) (σ : fb_St) (H : Heap) (locs : List Loc) (ls : Array Slot), fb_Wd G s σ H locs → lv_has ls 10 [(0, .ref (fb_ad G 48)), (1, .int (fb_I x1)), (2, .int (fb_I x2)), (4, .int (fb_I x4)), (5, .int (fb_I x5)), (6, .int (fb_I x6)), (7, .int (fb_I x7))] → fb_in x1 → fb_in x2 → fb_in x4 → fb_in x5 → fb_in x6 → fb_in x7 → r x1 x2 x4 x5 x6 x7 σ → W p l e rm_X7_pour s m args below meth c H locs 0 0 Qm (F0 m 145 ls [])
abbrev TT_X7_pour_133 (p : Program) (l : Launch) (e : Env) (s : State) (m : MethodId) (args : Array Value) (below : List Frame) (meth : Method) (c : Code) (Qm : State → Prop) (G : fb_G) (r : Int → Int → Int → Int → Int → fb_St → Prop) : Prop := ∀ (x1 x2 x7 x8 x9 : Int) (σ : fb_St) (H : Heap) (locs : List Loc) (ls : Array Slot), fb_Wd G s σ H locs → lv_has ls 10 [(0, .ref (fb_ad G 48)), (1, .int (fb_I x1)), (2, .int (fb_I x2)), (7, .int (fb_I x7)), (8, .int (fb_I x8)), (9, .int (fb_I x9))] → fb_in x1 → fb_in x2 → fb_in x7 → fb_in x8 → fb_in x9 → r x1 x2 x7 x8 x9 σ → W p l e rm_X7_pour s m args below meth c H locs 0 0 Qm (F0 m 133 ls [])
abbrev TT_X7_pour_121 (p : Program) (l : Launch) (e : Env) (s : State) (m : MethodId) (args : Array Value) (below : List Frame) (meth : Method) (c : Code) (Qm : State → Prop) (G : fb_G) (r : Int → Int → Int → Int → Int → Int → Int → Int → fb_St → Prop) : Prop := ∀ (x1 x2 x4 x5 x6 x7 x8 x9 : Int) (σ : fb_St) (H : Heap) (locs : List Loc) (ls : Array Slot), fb_Wd G s σ H locs → lv_has ls 10 [(0, .ref (fb_ad G 48)), (1, .int (fb_I x1)), (2, .int (fb_I x2)), (4, .int (fb_I x4)), (5, .int (fb_I x5)), (6, .int (fb_I x6)), (7, .int (fb_I x7)), (8, .int (fb_I x8)), (9, .int (fb_I x9))] → fb_in x1 → fb_in x2 → fb_in x4 → fb_in x5 → fb_in x6 → fb_in x7 → fb_in x8 → fb_in x9 → r x1 x2 x4 x5 x6 x7 x8 x9 σ → W p l e rm_X7_pour s m args below meth c H locs 0 0 Qm (F0 m 121 ls [])
abbrev TT_X7_pour_88 (p : Program) (l : Launch) (e : Env) (s : State) (m : MethodId) (args : Array Value) (below : List Frame) (meth : Method) (c : Code) (Qm : State → Prop) (G : fb_G) (r : Int → Int → Int → Int → Int → Int → Int → fb_St → Prop) : Prop := ∀ (x1 x2 x4 x5 x6 x7 s0 : Int) (σ : fb_St) (H : Heap) (locs : List Loc) (ls : Array Slot), fb_Wd G s σ H locs → lv_has ls 10 [(0, .ref (fb_ad G 48)), (1, .int (fb_I x1)), (2, .int (fb_I x2)), (4, .int (fb_I x4)), (5, .int (fb_I x5)), (6, .int (fb_I x6)), (7, .int (fb_I x7))] → fb_in x1 → fb_in x2 → fb_in x4 → fb_in x5 → fb_in x6 → fb_in x7 → fb_in s0 → r x1 x2 x4 x5 x6 x7 s0 σ → W p l e rm_X7_pour s m args below meth c H locs 0 0 Qm (F0 m 88 ls [.int (fb_I s0)])
abbrev TT_X7_pour_226 (p : Program) (l : Launch) (e : Env) (s : State) (m : MethodId) (args : Array Value) (below : List Frame) (meth : Method) (c : Code) (Qm : State → Prop) (G : fb_G) (r : Int → Int → Int → fb_St → Prop) : Prop := ∀ (x1 x2 x3 : Int) (σ : fb_St) (H : Heap) (locs : List Loc) (ls : Array Slot), fb_Wd G s σ H locs → lv_has ls 10 [(0, .ref (fb_ad G 48)), (1, .int (fb_I x1)), (2, .int (fb_I x2)), (3, .int (fb_I x3))] → fb_in x1 → fb_in x2 → fb_in x3 → r x1 x2 x3 σ → W p l e rm_X7_pour s m args below meth c H locs 0 0 Qm (F0 m 226 ls [])
abbrev TT_X7_pour_161 (p : Program) (l : Launch) (e : Env) (s : State) (m : MethodId) (args : Array Value) (below : List Frame) (meth : Method) (c : Code) (Qm : State → Prop) (G : fb_G) (r : Int → Int → Int → Int → Int → Int → fb_St → Prop) : Prop := ∀ (x1 x2 x4 x5 x6 s0 : Int) (σ : fb_St) (H : Heap) (locs : List Loc) (ls : Array Slot), fb_Wd G s σ H locs → lv_has ls 10 [(0, .ref (fb_ad G 48)), (1, .int (fb_I x1)), (2, .int (fb_I x2)), (4, .int (fb_I x4)), (5, .int (fb_I x5)), (6, .int (fb_I x6))] → fb_in x1 → fb_in x2 → fb_in x4 → fb_in x5 → fb_in x6 → fb_in s0 → r x1 x2 x4 x5 x6 s0 σ → W p l e rm_X7_pour s m args below meth c H locs 0 0 Qm (F0 m 161 ls [.int (fb_I s0)])
abbrev TT_X7_pour_57 (p : Program) (l : Launch) (e : Env) (s : State) (m : MethodId) (args : Array Value) (below : List Frame) (meth : Method) (c : Code) (Qm : State → Prop) (G : fb_G) (r : Int → Int → Int → Int → Int → Int → fb_St → Prop) : Prop := ∀ (x1 x2 x4 x5 x6 x7 : Int) (σ : fb_St) (H : Heap) (locs : List Loc) (ls : Array Slot), fb_Wd G s σ H locs → lv_has ls 10 [(0, .ref (fb_ad G 48)), (1, .int (fb_I x1)), (2, .int (fb_I x2)), (4, .int (fb_I x4)), (5, .int (fb_I x5)), (6, .int (fb_I x6)), (7, .int (fb_I x7))] → fb_in x1 → fb_in x2 → fb_in x4 → fb_in x5 → fb_in x6 → fb_in x7 → r x1 x2 x4 x5 x6 x7 σ → W p l e rm_X7_pour s m args below meth c H locs 0 0 Qm (F0 m 57 ls [])
abbrev TT_X7_pour_38 (p : Program) (l : Launch) (e : Env) (s : State) (m : MethodId) (args : Array Value) (below : List Frame) (meth : Method) (c : Code) (Qm : State → Prop) (G : fb_G) (r : Int → Int → Int → fb_St → Prop) : Prop := ∀ (x1 x2 x3 : Int) (σ : fb_St) (H : Heap) (locs : List Loc) (ls : Array Slot), fb_Wd G s σ H locs → lv_has ls 10 [(0, .ref (fb_ad G 48)), (1, .int (fb_I x1)), (2, .int (fb_I x2)), (3, .int (fb_I x3))] → fb_in x1 → fb_in x2 → fb_in x3 → r x1 x2 x3 σ → W p l e rm_X7_pour s m args below meth c H locs 0 0 Qm (F0 m 38 ls [])
abbrev TT_X7_pour_6 (p : Program) (l : Launch) (e : Env) (s : State) (m : MethodId) (args : Array Value) (below : List Frame) (meth : Method) (c : Code) (Qm : State → Prop) (G : fb_G) (r : Int → Int → Int → fb_St → Prop) : Prop := ∀ (x1 x2 x3 : Int) (σ : fb_St) (H : Heap) (locs : List Loc) (ls : Array Slot), fb_Wd G s σ H locs → lv_has ls 10 [(0, .ref (fb_ad G 48)), (1, .int (fb_I x1)), (2, .int (fb_I x2)), (3, .int (fb_I x3))] → fb_in x1 → fb_in x2 → fb_in x3 → r x1 x2 x3 σ → W p l e rm_X7_pour s m args below meth c H locs 0 0 Qm (F0 m 6 ls [])
abbrev TT_X7_pour_0 (p : Program) (l : Launch) (e : Env) (s : State) (m : MethodId) (args : Array Value) (below : List Frame) (meth : Method) (c : Code) (Qm : State → Prop) (G : fb_G) (r : Int → Int → fb_St → Prop) : Prop := ∀ (x1 x2 : Int) (σ : fb_St) (H : Heap) (locs : List Loc) (ls : Array Slot), fb_Wd G s σ H locs → lv_has ls 10 [(0, .ref (fb_ad G 48)), (1, .int (fb_I x1)), (2, .int (fb_I x2))] → fb_in x1 → fb_in x2 → r x1 x2 σ → W p l e rm_X7_pour s m args below meth c H locs 0 0 Qm (F0 m 0 ls [])
set_option maxRecDepth 100000 in
set_option maxHeartbeats 4000000 in
theorem tw_X7_pour_145 (C : fb_C p s m args meth c G RX7 cX7_pour 10) (hret : fb_RV p l e rm_X7_pour s m args below meth c G cX7_pour Qm Q) {r38 : Int → Int → Int → fb_St → Prop} (h38 : TT_X7_pour_38 p l e s m args below meth c Qm G r38) {r57 : Int → Int → Int → Int → Int → Int → fb_St → Prop} (h57 : TT_X7_pour_57 p l e s m args below meth c Qm G r57) : TT_X7_pour_145 p l e s m args below meth c Qm G (wj_X7_pour_145 r38 r57 Q) := by
  intro x1 x2 x4 x5 x6 x7 σ H locs ls w hl ix1 ix2 ix4 ix5 ix6 ix7 h
  unfold wj_X7_pour_145 at h
  obtain ⟨i46, h⟩ := h
  refine fb_iinc (b := x7 + 1) (k := 6) (lv' := [(7, .int (fb_I (x7 + 1))), (0, .ref (fb_ad G 48)), (1, .int (fb_I x1)), (2, .int (fb_I x2)), (4, .int (fb_I x4)), (5, .int (fb_I x5)), (6, .int (fb_I x6))]) C dX7_pour_145 hl rfl rfl (by decide) rfl (fun ls hl => ?_)
  refine lv_goto (tgt := 57) C.1.1 C.1.2.1 dX7_pour_148 (by decide) ?_
  exact h57 x1 x2 x4 x5 x6 (x7 + 1) _ _ _ _ w (lv_sub hl [1, 2, 3, 4, 5, 6, 0] rfl) ix1 ix2 ix4 ix5 ix6 i46 h
set_option maxRecDepth 100000 in
set_option maxHeartbeats 4000000 in
theorem tw_X7_pour_133 (C : fb_C p s m args meth c G RX7 cX7_pour 10) (hret : fb_RV p l e rm_X7_pour s m args below meth c G cX7_pour Qm Q) {r38 : Int → Int → Int → fb_St → Prop} (h38 : TT_X7_pour_38 p l e s m args below meth c Qm G r38) {r57 : Int → Int → Int → Int → Int → Int → fb_St → Prop} (h57 : TT_X7_pour_57 p l e s m args below meth c Qm G r57) : TT_X7_pour_133 p l e s m args below meth c Qm G (wj_X7_pour_133 r38 r57 Q) := by
  intro x1 x2 x7 x8 x9 σ H locs ls w hl ix1 ix2 ix7 ix8 ix9 h
  unfold wj_X7_pour_133 at h
  refine lv_iload C.1.1 C.1.2.1 dX7_pour_133 (lv_at hl 3 rfl) ?_
  refine lv_istore (lv' := [(4, .int (fb_I x7)), (0, .ref (fb_ad G 48)), (1, .int (fb_I x1)), (2, .int (fb_I x2)), (7, .int (fb_I x7)), (8, .int (fb_I x8)), (9, .int (fb_I x9))]) C.1.1 C.1.2.1 dX7_pour_135 hl (by decide) rfl (fun ls hl => ?_)
  refine lv_iload C.1.1 C.1.2.1 dX7_pour_137 (lv_at hl 5 rfl) ?_
  refine lv_istore (lv' := [(5, .int (fb_I x8)), (4, .int (fb_I x7)), (0, .ref (fb_ad G 48)), (1, .int (fb_I x1)), (2, .int (fb_I x2)), (7, .int (fb_I x7)), (8, .int (fb_I x8)), (9, .int (fb_I x9))]) C.1.1 C.1.2.1 dX7_pour_139 hl (by decide) rfl (fun ls hl => ?_)
  refine lv_iload C.1.1 C.1.2.1 dX7_pour_141 (lv_at hl 7 rfl) ?_
  refine lv_istore (lv' := [(6, .int (fb_I x9)), (5, .int (fb_I x8)), (4, .int (fb_I x7)), (0, .ref (fb_ad G 48)), (1, .int (fb_I x1)), (2, .int (fb_I x2)), (7, .int (fb_I x7)), (8, .int (fb_I x8)), (9, .int (fb_I x9))]) C.1.1 C.1.2.1 dX7_pour_143 hl (by decide) rfl (fun ls hl => ?_)
  exact tw_X7_pour_145 C hret h38 h57 x1 x2 x7 x8 x9 x7 _ _ _ _ w (lv_sub hl [3, 4, 5, 2, 1, 0, 6] rfl) ix1 ix2 ix7 ix8 ix9 ix7 h
set_option maxRecDepth 100000 in
set_option maxHeartbeats 4000000 in
theorem tw_X7_pour_121 (C : fb_C p s m args meth c G RX7 cX7_pour 10) (hret : fb_RV p l e rm_X7_pour s m args below meth c G cX7_pour Qm Q) {r38 : Int → Int → Int → fb_St → Prop} (h38 : TT_X7_pour_38 p l e s m args below meth c Qm G r38) {r57 : Int → Int → Int → Int → Int → Int → fb_St → Prop} (h57 : TT_X7_pour_57 p l e s m args below meth c Qm G r57) : TT_X7_pour_121 p l e s m args below meth c Qm G (wj_X7_pour_121 r38 r57 Q) := by
  intro x1 x2 x4 x5 x6 x7 x8 x9 σ H locs ls w hl ix1 ix2 ix4 ix5 ix6 ix7 ix8 ix9 h
  unfold wj_X7_pour_121 at h
  refine lv_iload C.1.1 C.1.2.1 dX7_pour_121 (lv_at hl 3 rfl) ?_
  refine fb_if_lt (tgt := 133) C ix4 dX7_pour_123 (by decide) (fun c47 => ?_) (fun c47 => ?_)
  · have h := h.1 c47
    exact tw_X7_pour_133 C hret h38 h57 x1 x2 x7 x8 x9 _ _ _ _ w (lv_sub hl [0, 1, 2, 6, 7, 8] rfl) ix1 ix2 ix7 ix8 ix9 h
  · have h := h.2 c47
    refine lv_iload C.1.1 C.1.2.1 dX7_pour_126 (lv_at hl 8 rfl) ?_
    refine lv_iload C.1.1 C.1.2.1 dX7_pour_128 (lv_at hl 5 rfl) ?_
    refine fb_icmp_ge (tgt := 145) C ix9 ix6 dX7_pour_130 (by decide) (fun c48 => ?_) (fun c48 => ?_)
    · have h := h.2 c48
      exact tw_X7_pour_145 C hret h38 h57 x1 x2 x4 x5 x6 x7 _ _ _ _ w (lv_sub hl [0, 1, 2, 3, 4, 5, 6] rfl) ix1 ix2 ix4 ix5 ix6 ix7 h
    · have h := h.1 c48
      exact tw_X7_pour_133 C hret h38 h57 x1 x2 x7 x8 x9 _ _ _ _ w (lv_sub hl [0, 1, 2, 6, 7, 8] rfl) ix1 ix2 ix7 ix8 ix9 h
set_option maxRecDepth 100000 in
set_option maxHeartbeats 4000000 in
theorem tw_X7_pour_88 (C : fb_C p s m args meth c G RX7 cX7_pour 10) (hret : fb_RV p l e rm_X7_pour s m args below meth c G cX7_pour Qm Q) {r38 : Int → Int → Int → fb_St → Prop} (h38 : TT_X7_pour_38 p l e s m args below meth c Qm G r38) {r57 : Int → Int → Int → Int → Int → Int → fb_St → Prop} (h57 : TT_X7_pour_57 p l e s m args below meth c Qm G r57) : TT_X7_pour_88 p l e s m args below meth c Qm G (wj_X7_pour_88 r38 r57 Q) := by
  intro x1 x2 x4 x5 x6 x7 s0 σ H locs ls w hl ix1 ix2 ix4 ix5 ix6 ix7 is0 h
  unfold wj_X7_pour_88 at h
  refine lv_istore (lv' := [(8, .int (fb_I s0)), (0, .ref (fb_ad G 48)), (1, .int (fb_I x1)), (2, .int (fb_I x2)), (4, .int (fb_I x4)), (5, .int (fb_I x5)), (6, .int (fb_I x6)), (7, .int (fb_I x7))]) C.1.1 C.1.2.1 dX7_pour_88 hl (by decide) rfl (fun ls hl => ?_)
  refine lv_iload C.1.1 C.1.2.1 dX7_pour_90 (lv_at hl 0 rfl) ?_
  refine fb_if_lt (tgt := 145) C is0 dX7_pour_92 (by decide) (fun c38 => ?_) (fun c38 => ?_)
  · have h := h.1 c38
    exact tw_X7_pour_145 C hret h38 h57 x1 x2 x4 x5 x6 x7 _ _ _ _ w (lv_sub hl [1, 2, 3, 4, 5, 6, 7] rfl) ix1 ix2 ix4 ix5 ix6 ix7 h
  · have h := h.2 c38
    refine lv_aload_n C.1.1 C.1.2.1 dX7_pour_95 rfl (lv_at hl 1 rfl) ?_
    refine fb_getr (k2 := 65) C w (fb_k48 C) rfl fl_X7_59 dX7_pour_96 ?_
    refine lv_iload C.1.1 C.1.2.1 dX7_pour_99 (lv_at hl 0 rfl) ?_
    obtain ⟨z39, z40, h⟩ := h
    refine fb_al C w 100 (fb_k65 C) rfl rfl z39 z40 dX7_pour_101 ?_
    have i41 := w.2.2.2 65 s0
    refine fb_top (fun v42 ev42 => ?_)
    have h := h v42 ev42
    have iv42 := fb_ie ev42 i41
    refine lv_istore (lv' := [(9, .int (fb_I v42)), (8, .int (fb_I s0)), (0, .ref (fb_ad G 48)), (1, .int (fb_I x1)), (2, .int (fb_I x2)), (4, .int (fb_I x4)), (5, .int (fb_I x5)), (6, .int (fb_I x6)), (7, .int (fb_I x7))]) C.1.1 C.1.2.1 dX7_pour_102 hl (by decide) rfl (fun ls hl => ?_)
    refine lv_iload_n C.1.1 C.1.2.1 dX7_pour_104 rfl (lv_at hl 4 rfl) ?_
    refine fb_if_lt (tgt := 121) C ix2 dX7_pour_105 (by decide) (fun c43 => ?_) (fun c43 => ?_)
    · have h := h.1 c43
      exact tw_X7_pour_121 C hret h38 h57 x1 x2 x4 x5 x6 x7 s0 v42 _ _ _ _ w (lv_sub hl [2, 3, 4, 5, 6, 7, 8, 1, 0] rfl) ix1 ix2 ix4 ix5 ix6 ix7 is0 iv42 h
    · have h := h.2 c43
      refine lv_aload_n C.1.1 C.1.2.1 dX7_pour_108 rfl (lv_at hl 2 rfl) ?_
      refine lv_iload C.1.1 C.1.2.1 dX7_pour_109 (lv_at hl 8 rfl) ?_
      refine lv_iload_n C.1.1 C.1.2.1 dX7_pour_111 rfl (lv_at hl 3 rfl) ?_
      refine lv_iload C.1.1 C.1.2.1 dX7_pour_112 (lv_at hl 0 rfl) ?_
      refine fb_callVi (As := [.int (fb_I x7), .int (fb_I x1), .int (fb_I v42)]) (rest := []) C w (ct_X7_sizeOf l G ix7 ix1 iv42 h) mv_X7_140 (fb_k48 C) rfl ⟨rfl, rfl, Nat.le_of_ble_eq_true rfl, Nat.le_of_ble_eq_true rfl, Nat.zero_le _, Nat.zero_le _⟩ rfl hl.1 rfl (Nat.le_of_ble_eq_true rfl) dX7_pour_114 (fun a44 σ44 H locs h ia44 w => ?_)
      refine lv_iload_n C.1.1 C.1.2.1 dX7_pour_117 rfl (lv_at hl 4 rfl) ?_
      refine fb_icmp_ge (tgt := 145) C ia44 ix2 dX7_pour_118 (by decide) (fun c45 => ?_) (fun c45 => ?_)
      · have h := h.2 c45
        exact tw_X7_pour_145 C hret h38 h57 x1 x2 x4 x5 x6 x7 _ _ _ _ w (lv_sub hl [2, 3, 4, 5, 6, 7, 8] rfl) ix1 ix2 ix4 ix5 ix6 ix7 h
      · have h := h.1 c45
        exact tw_X7_pour_121 C hret h38 h57 x1 x2 x4 x5 x6 x7 s0 v42 _ _ _ _ w (lv_sub hl [2, 3, 4, 5, 6, 7, 8, 1, 0] rfl) ix1 ix2 ix4 ix5 ix6 ix7 is0 iv42 h
set_option maxRecDepth 100000 in
set_option maxHeartbeats 4000000 in
theorem tw_X7_pour_226 (C : fb_C p s m args meth c G RX7 cX7_pour 10) (hret : fb_RV p l e rm_X7_pour s m args below meth c G cX7_pour Qm Q) {r38 : Int → Int → Int → fb_St → Prop} (h38 : TT_X7_pour_38 p l e s m args below meth c Qm G r38) : TT_X7_pour_226 p l e s m args below meth c Qm G (wj_X7_pour_226 r38 Q) := by
  intro x1 x2 x3 σ H locs ls w hl ix1 ix2 ix3 h
  unfold wj_X7_pour_226 at h
  refine lv_goto (tgt := 38) C.1.1 C.1.2.1 dX7_pour_226 (by decide) ?_
  exact h38 x1 x2 x3 _ _ _ _ w (lv_sub hl [0, 1, 2, 3] rfl) ix1 ix2 ix3 h
set_option maxRecDepth 100000 in
set_option maxHeartbeats 4000000 in
theorem tw_X7_pour_161 (C : fb_C p s m args meth c G RX7 cX7_pour 10) (hret : fb_RV p l e rm_X7_pour s m args below meth c G cX7_pour Qm Q) {r38 : Int → Int → Int → fb_St → Prop} (h38 : TT_X7_pour_38 p l e s m args below meth c Qm G r38) : TT_X7_pour_161 p l e s m args below meth c Qm G (wj_X7_pour_161 r38 Q) := by
  intro x1 x2 x4 x5 x6 s0 σ H locs ls w hl ix1 ix2 ix4 ix5 ix6 is0 h
  unfold wj_X7_pour_161 at h
  refine lv_istore_n (lv' := [(3, .int (fb_I s0)), (0, .ref (fb_ad G 48)), (1, .int (fb_I x1)), (2, .int (fb_I x2)), (4, .int (fb_I x4)), (5, .int (fb_I x5)), (6, .int (fb_I x6))]) C.1.1 C.1.2.1 dX7_pour_161 rfl hl (by decide) rfl (fun ls hl => ?_)
  refine lv_iload_n C.1.1 C.1.2.1 dX7_pour_162 rfl (lv_at hl 0 rfl) ?_
  refine fb_if_eq (tgt := 226) C is0 dX7_pour_163 (by decide) (fun c17 => ?_) (fun c17 => ?_)
  · have h := h.1 c17
    exact tw_X7_pour_226 C hret h38 x1 x2 s0 _ _ _ _ w (lv_sub hl [1, 2, 3, 0] rfl) ix1 ix2 is0 h
  · have h := h.2 c17
    refine lv_aload_n C.1.1 C.1.2.1 dX7_pour_166 rfl (lv_at hl 1 rfl) ?_
    refine fb_getr (k2 := 61) C w (fb_k48 C) rfl fl_X7_47 dX7_pour_167 ?_
    refine lv_aload_n C.1.1 C.1.2.1 dX7_pour_170 rfl (lv_at hl 1 rfl) ?_
    refine fb_gi C w 17 (fb_k48 C) rfl rfl fl_X7_134 dX7_pour_171 ?_
    have i18 := w.2.2.2 48 17
    refine lv_iload C.1.1 C.1.2.1 dX7_pour_174 (lv_at hl 4 rfl) ?_
    obtain ⟨z19, z20, h⟩ := h
    refine fb_as C w 100 (fb_k61 C) rfl rfl ix4 z19 z20 dX7_pour_176 (fun σ21 H locs eσ21 w => ?_)
    have h := h σ21 eσ21
    refine lv_aload_n C.1.1 C.1.2.1 dX7_pour_177 rfl (lv_at hl 1 rfl) ?_
    refine fb_getr (k2 := 62) C w (fb_k48 C) rfl fl_X7_50 dX7_pour_178 ?_
    refine lv_aload_n C.1.1 C.1.2.1 dX7_pour_181 rfl (lv_at hl 1 rfl) ?_
    refine fb_gi C w 17 (fb_k48 C) rfl rfl fl_X7_134 dX7_pour_182 ?_
    have i22 := w.2.2.2 48 17
    refine lv_iload C.1.1 C.1.2.1 dX7_pour_185 (lv_at hl 5 rfl) ?_
    obtain ⟨z23, z24, h⟩ := h
    refine fb_as C w 100 (fb_k62 C) rfl rfl ix5 z23 z24 dX7_pour_187 (fun σ25 H locs eσ25 w => ?_)
    have h := h σ25 eσ25
    refine lv_aload_n C.1.1 C.1.2.1 dX7_pour_188 rfl (lv_at hl 1 rfl) ?_
    refine fb_getr (k2 := 63) C w (fb_k48 C) rfl fl_X7_53 dX7_pour_189 ?_
    refine lv_aload_n C.1.1 C.1.2.1 dX7_pour_192 rfl (lv_at hl 1 rfl) ?_
    refine fb_gi C w 17 (fb_k48 C) rfl rfl fl_X7_134 dX7_pour_193 ?_
    have i26 := w.2.2.2 48 17
    refine lv_iload C.1.1 C.1.2.1 dX7_pour_196 (lv_at hl 6 rfl) ?_
    obtain ⟨z27, z28, h⟩ := h
    refine fb_as C w 100 (fb_k63 C) rfl rfl ix6 z27 z28 dX7_pour_198 (fun σ29 H locs eσ29 w => ?_)
    have h := h σ29 eσ29
    refine lv_aload_n C.1.1 C.1.2.1 dX7_pour_199 rfl (lv_at hl 1 rfl) ?_
    refine fb_getr (k2 := 64) C w (fb_k48 C) rfl fl_X7_56 dX7_pour_200 ?_
    refine lv_aload_n C.1.1 C.1.2.1 dX7_pour_203 rfl (lv_at hl 1 rfl) ?_
    refine fb_gi C w 17 (fb_k48 C) rfl rfl fl_X7_134 dX7_pour_204 ?_
    have i30 := w.2.2.2 48 17
    refine lv_aload_n C.1.1 C.1.2.1 dX7_pour_207 rfl (lv_at hl 1 rfl) ?_
    refine lv_iload C.1.1 C.1.2.1 dX7_pour_208 (lv_at hl 4 rfl) ?_
    refine lv_iload C.1.1 C.1.2.1 dX7_pour_210 (lv_at hl 5 rfl) ?_
    refine fb_callVi (As := [.int (fb_I x4), .int (fb_I x5)]) (rest := [.int (fb_I (σ29 48 17)), .ref (fb_ad G 64)]) C w (ct_X7_pourOne l G ix4 ix5 h) mv_X7_144 (fb_k48 C) rfl ⟨rfl, rfl, Nat.le_of_ble_eq_true rfl, Nat.le_of_ble_eq_true rfl, Nat.zero_le _, Nat.zero_le _⟩ rfl hl.1 rfl (Nat.le_of_ble_eq_true rfl) dX7_pour_212 (fun a31 σ31 H locs h ia31 w => ?_)
    obtain ⟨z32, z33, h⟩ := h
    refine fb_as C w 100 (fb_k64 C) rfl rfl ia31 z32 z33 dX7_pour_215 (fun σ34 H locs eσ34 w => ?_)
    have h := h σ34 eσ34
    refine lv_aload_n C.1.1 C.1.2.1 dX7_pour_216 rfl (lv_at hl 1 rfl) ?_
    refine lv_dup C.1.1 C.1.2.1 dX7_pour_217 rfl ?_
    refine fb_gi C w 17 (fb_k48 C) rfl rfl fl_X7_134 dX7_pour_218 ?_
    have i35 := w.2.2.2 48 17
    refine fb_iconst C dX7_pour_221 ?_
    obtain ⟨i36, h⟩ := h
    refine fb_iadd C dX7_pour_222 ?_
    refine fb_pi C w 17 (fb_k48 C) rfl rfl fl_X7_134 tyX7_ok nmX7 rfl i36 rfl rfl dX7_pour_223 (fun σ37 H locs eσ37 w => ?_)
    have h := h σ37 eσ37
    exact tw_X7_pour_226 C hret h38 x1 x2 s0 _ _ _ _ w (lv_sub hl [1, 2, 3, 0] rfl) ix1 ix2 is0 h
set_option maxRecDepth 100000 in
set_option maxHeartbeats 4000000 in
theorem tw_X7_pour_57 (C : fb_C p s m args meth c G RX7 cX7_pour 10) (hret : fb_RV p l e rm_X7_pour s m args below meth c G cX7_pour Qm Q) {r38 : Int → Int → Int → fb_St → Prop} (h38 : TT_X7_pour_38 p l e s m args below meth c Qm G r38) {r57 : Int → Int → Int → Int → Int → Int → fb_St → Prop} (h57 : TT_X7_pour_57 p l e s m args below meth c Qm G r57) : TT_X7_pour_57 p l e s m args below meth c Qm G (wb_X7_pour_57 r38 r57 Q) := by
  intro x1 x2 x4 x5 x6 x7 σ H locs ls w hl ix1 ix2 ix4 ix5 ix6 ix7 h
  unfold wb_X7_pour_57 at h
  refine lv_iload C.1.1 C.1.2.1 dX7_pour_57 (lv_at hl 6 rfl) ?_
  refine fb_bipush C dX7_pour_59 (by decide) ?_
  refine fb_icmp_ge (tgt := 151) C ix7 (by decide) dX7_pour_61 (by decide) (fun c12 => ?_) (fun c12 => ?_)
  · have h := h.2 c12
    refine lv_iload C.1.1 C.1.2.1 dX7_pour_151 (lv_at hl 3 rfl) ?_
    refine fb_if_lt (tgt := 160) C ix4 dX7_pour_153 (by decide) (fun c13 => ?_) (fun c13 => ?_)
    · have h := h.1 c13
      refine fb_iconst C dX7_pour_160 ?_
      exact tw_X7_pour_161 C hret h38 x1 x2 x4 x5 x6 0 _ _ _ _ w (lv_sub hl [0, 1, 2, 3, 4, 5] rfl) ix1 ix2 ix4 ix5 ix6 (by decide) h
    · have h := h.2 c13
      refine fb_iconst C dX7_pour_156 ?_
      refine lv_goto (tgt := 161) C.1.1 C.1.2.1 dX7_pour_157 (by decide) ?_
      exact tw_X7_pour_161 C hret h38 x1 x2 x4 x5 x6 1 _ _ _ _ w (lv_sub hl [0, 1, 2, 3, 4, 5] rfl) ix1 ix2 ix4 ix5 ix6 (by decide) h
  · have h := h.1 c12
    refine lv_aload_n C.1.1 C.1.2.1 dX7_pour_64 rfl (lv_at hl 0 rfl) ?_
    refine lv_aload_n C.1.1 C.1.2.1 dX7_pour_65 rfl (lv_at hl 0 rfl) ?_
    refine fb_getr (k2 := 60) C w (fb_k48 C) rfl fl_X7_44 dX7_pour_66 ?_
    refine lv_iload C.1.1 C.1.2.1 dX7_pour_69 (lv_at hl 6 rfl) ?_
    refine fb_callVi (As := [.ref (fb_ad G 60), .int (fb_I x7)]) (rest := []) C w (ct_X7_dotsOf l G (fb_k60 C) ix7 h) mv_X7_125 (fb_k48 C) rfl ⟨rfl, rfl, Nat.le_of_ble_eq_true rfl, Nat.le_of_ble_eq_true rfl, Nat.zero_le _, Nat.zero_le _⟩ rfl hl.1 rfl (Nat.le_of_ble_eq_true rfl) dX7_pour_71 (fun a14 σ14 H locs h ia14 w => ?_)
    refine fb_if_le (tgt := 86) C ia14 dX7_pour_74 (by decide) (fun c15 => ?_) (fun c15 => ?_)
    · have h := h.2 c15
      refine fb_bipush C dX7_pour_86 (by decide) ?_
      exact tw_X7_pour_88 C hret h38 h57 x1 x2 x4 x5 x6 x7 (-6) _ _ _ _ w (lv_sub hl [0, 1, 2, 3, 4, 5, 6] rfl) ix1 ix2 ix4 ix5 ix6 ix7 (by decide) h
    · have h := h.1 c15
      refine lv_aload_n C.1.1 C.1.2.1 dX7_pour_77 rfl (lv_at hl 0 rfl) ?_
      refine lv_iload C.1.1 C.1.2.1 dX7_pour_78 (lv_at hl 6 rfl) ?_
      refine fb_callVi (As := [.int (fb_I x7)]) (rest := []) C w (ct_X7_wayOut l G ix7 h) mv_X7_137 (fb_k48 C) rfl ⟨rfl, rfl, Nat.le_of_ble_eq_true rfl, Nat.le_of_ble_eq_true rfl, Nat.zero_le _, Nat.zero_le _⟩ rfl hl.1 rfl (Nat.le_of_ble_eq_true rfl) dX7_pour_80 (fun a16 σ16 H locs h ia16 w => ?_)
      refine lv_goto (tgt := 88) C.1.1 C.1.2.1 dX7_pour_83 (by decide) ?_
      exact tw_X7_pour_88 C hret h38 h57 x1 x2 x4 x5 x6 x7 a16 _ _ _ _ w (lv_sub hl [0, 1, 2, 3, 4, 5, 6] rfl) ix1 ix2 ix4 ix5 ix6 ix7 ia16 h
theorem tl_X7_pour_57 (C : fb_C p s m args meth c G RX7 cX7_pour 10) (hret : fb_RV p l e rm_X7_pour s m args below meth c G cX7_pour Qm Q) {r38 : Int → Int → Int → fb_St → Prop} (h38 : TT_X7_pour_38 p l e s m args below meth c Qm G r38) : ∀ n : Nat, TT_X7_pour_57 p l e s m args below meth c Qm G (wl_X7_pour_57 r38 Q n) := by
  intro n
  induction n with
  | zero => intro x1 x2 x4 x5 x6 x7 σ H locs ls w hl ix1 ix2 ix4 ix5 ix6 ix7 h; exact h.elim
  | succ n ih => exact tw_X7_pour_57 C hret h38 ih
set_option maxRecDepth 100000 in
set_option maxHeartbeats 4000000 in
theorem tw_X7_pour_38 (C : fb_C p s m args meth c G RX7 cX7_pour 10) (hret : fb_RV p l e rm_X7_pour s m args below meth c G cX7_pour Qm Q) {r38 : Int → Int → Int → fb_St → Prop} (h38 : TT_X7_pour_38 p l e s m args below meth c Qm G r38) : TT_X7_pour_38 p l e s m args below meth c Qm G (wb_X7_pour_38 r38 Q) := by
  intro x1 x2 x3 σ H locs ls w hl ix1 ix2 ix3 h
  unfold wb_X7_pour_38 at h
  refine lv_iload_n C.1.1 C.1.2.1 dX7_pour_38 rfl (lv_at hl 3 rfl) ?_
  refine fb_if_eq (tgt := 229) C ix3 dX7_pour_39 (by decide) (fun c11 => ?_) (fun c11 => ?_)
  · have h := h.1 c11
    exact hret _ _ _ _ _ h w dX7_pour_229
  · have h := h.2 c11
    refine fb_bipush C dX7_pour_42 (by decide) ?_
    refine lv_istore (lv' := [(4, .int (fb_I (-6))), (0, .ref (fb_ad G 48)), (1, .int (fb_I x1)), (2, .int (fb_I x2)), (3, .int (fb_I x3))]) C.1.1 C.1.2.1 dX7_pour_44 hl (by decide) rfl (fun ls hl => ?_)
    refine fb_bipush C dX7_pour_46 (by decide) ?_
    refine lv_istore (lv' := [(5, .int (fb_I (-6))), (4, .int (fb_I (-6))), (0, .ref (fb_ad G 48)), (1, .int (fb_I x1)), (2, .int (fb_I x2)), (3, .int (fb_I x3))]) C.1.1 C.1.2.1 dX7_pour_48 hl (by decide) rfl (fun ls hl => ?_)
    refine fb_bipush C dX7_pour_50 (by decide) ?_
    refine lv_istore (lv' := [(6, .int (fb_I (-6))), (5, .int (fb_I (-6))), (4, .int (fb_I (-6))), (0, .ref (fb_ad G 48)), (1, .int (fb_I x1)), (2, .int (fb_I x2)), (3, .int (fb_I x3))]) C.1.1 C.1.2.1 dX7_pour_52 hl (by decide) rfl (fun ls hl => ?_)
    refine fb_iconst C dX7_pour_54 ?_
    refine lv_istore (lv' := [(7, .int (fb_I 1)), (6, .int (fb_I (-6))), (5, .int (fb_I (-6))), (4, .int (fb_I (-6))), (0, .ref (fb_ad G 48)), (1, .int (fb_I x1)), (2, .int (fb_I x2)), (3, .int (fb_I x3))]) C.1.1 C.1.2.1 dX7_pour_55 hl (by decide) rfl (fun ls hl => ?_)
    obtain ⟨n, h⟩ := h
    exact tl_X7_pour_57 C hret h38 n x1 x2 (-6) (-6) (-6) 1 _ _ _ _ w (lv_sub hl [4, 5, 6, 3, 2, 1, 0] rfl) ix1 ix2 (by decide) (by decide) (by decide) (by decide) h
theorem tl_X7_pour_38 (C : fb_C p s m args meth c G RX7 cX7_pour 10) (hret : fb_RV p l e rm_X7_pour s m args below meth c G cX7_pour Qm Q) : ∀ n : Nat, TT_X7_pour_38 p l e s m args below meth c Qm G (wl_X7_pour_38 Q n) := by
  intro n
  induction n with
  | zero => intro x1 x2 x3 σ H locs ls w hl ix1 ix2 ix3 h; exact h.elim
  | succ n ih => exact tw_X7_pour_38 C hret ih
set_option maxRecDepth 100000 in
set_option maxHeartbeats 4000000 in
theorem tw_X7_pour_6 (C : fb_C p s m args meth c G RX7 cX7_pour 10) (hret : fb_RV p l e rm_X7_pour s m args below meth c G cX7_pour Qm Q) {r6 : Int → Int → Int → fb_St → Prop} (h6 : TT_X7_pour_6 p l e s m args below meth c Qm G r6) : TT_X7_pour_6 p l e s m args below meth c Qm G (wb_X7_pour_6 r6 Q) := by
  intro x1 x2 x3 σ H locs ls w hl ix1 ix2 ix3 h
  unfold wb_X7_pour_6 at h
  refine lv_iload_n C.1.1 C.1.2.1 dX7_pour_6 rfl (lv_at hl 3 rfl) ?_
  refine fb_sipush C dX7_pour_7 (by decide) ?_
  refine fb_icmp_ge (tgt := 31) C ix3 (by decide) dX7_pour_10 (by decide) (fun c2 => ?_) (fun c2 => ?_)
  · have h := h.2 c2
    refine lv_aload_n C.1.1 C.1.2.1 dX7_pour_31 rfl (lv_at hl 0 rfl) ?_
    refine fb_iconst C dX7_pour_32 ?_
    refine fb_pi C w 17 (fb_k48 C) rfl rfl fl_X7_134 tyX7_ok nmX7 rfl (by decide) rfl rfl dX7_pour_33 (fun σ3 H locs eσ3 w => ?_)
    have h := h σ3 eσ3
    refine fb_iconst C dX7_pour_36 ?_
    refine lv_istore_n (lv' := [(3, .int (fb_I 1)), (0, .ref (fb_ad G 48)), (1, .int (fb_I x1)), (2, .int (fb_I x2))]) C.1.1 C.1.2.1 dX7_pour_37 rfl hl (by decide) rfl (fun ls hl => ?_)
    obtain ⟨n, h⟩ := h
    exact tl_X7_pour_38 C hret n x1 x2 1 _ _ _ _ w (lv_sub hl [1, 2, 3, 0] rfl) ix1 ix2 (by decide) h
  · have h := h.1 c2
    refine lv_aload_n C.1.1 C.1.2.1 dX7_pour_13 rfl (lv_at hl 0 rfl) ?_
    refine fb_getr (k2 := 60) C w (fb_k48 C) rfl fl_X7_44 dX7_pour_14 ?_
    refine lv_iload_n C.1.1 C.1.2.1 dX7_pour_17 rfl (lv_at hl 3 rfl) ?_
    refine lv_aload_n C.1.1 C.1.2.1 dX7_pour_18 rfl (lv_at hl 0 rfl) ?_
    refine fb_getr (k2 := 55) C w (fb_k48 C) rfl fl_X7_29 dX7_pour_19 ?_
    refine lv_iload_n C.1.1 C.1.2.1 dX7_pour_22 rfl (lv_at hl 3 rfl) ?_
    obtain ⟨z4, z5, h⟩ := h
    refine fb_al C w 144 (fb_k55 C) rfl rfl z4 z5 dX7_pour_23 ?_
    have i6 := w.2.2.2 55 x3
    obtain ⟨z7, z8, h⟩ := h
    refine fb_as C w 144 (fb_k60 C) rfl rfl i6 z7 z8 dX7_pour_24 (fun σ9 H locs eσ9 w => ?_)
    have h := h σ9 eσ9
    obtain ⟨i10, h⟩ := h
    refine fb_iinc (b := x3 + 1) (k := 3) (lv' := [(3, .int (fb_I (x3 + 1))), (0, .ref (fb_ad G 48)), (1, .int (fb_I x1)), (2, .int (fb_I x2))]) C dX7_pour_25 hl rfl rfl (by decide) rfl (fun ls hl => ?_)
    refine lv_goto (tgt := 6) C.1.1 C.1.2.1 dX7_pour_28 (by decide) ?_
    exact h6 x1 x2 (x3 + 1) _ _ _ _ w (lv_sub hl [1, 2, 3, 0] rfl) ix1 ix2 i10 h
theorem tl_X7_pour_6 (C : fb_C p s m args meth c G RX7 cX7_pour 10) (hret : fb_RV p l e rm_X7_pour s m args below meth c G cX7_pour Qm Q) : ∀ n : Nat, TT_X7_pour_6 p l e s m args below meth c Qm G (wl_X7_pour_6 Q n) := by
  intro n
  induction n with
  | zero => intro x1 x2 x3 σ H locs ls w hl ix1 ix2 ix3 h; exact h.elim
  | succ n ih => exact tw_X7_pour_6 C hret ih
set_option maxRecDepth 100000 in
set_option maxHeartbeats 4000000 in
theorem tw_X7_pour_0 (C : fb_C p s m args meth c G RX7 cX7_pour 10) (hret : fb_RV p l e rm_X7_pour s m args below meth c G cX7_pour Qm Q) : TT_X7_pour_0 p l e s m args below meth c Qm G (fun x1 x2 σ => wp_X7_pour x1 x2 σ Q) := by
  intro x1 x2 σ H locs ls w hl ix1 ix2 h
  unfold wp_X7_pour at h
  refine lv_aload_n C.1.1 C.1.2.1 dX7_pour_0 rfl (lv_at hl 0 rfl) ?_
  refine fb_callVv (As := []) (rest := []) C w (ct_X7_flood l G h) mv_X7_131 (fb_k48 C) rfl ⟨rfl, rfl, Nat.le_of_ble_eq_true rfl, Nat.le_of_ble_eq_true rfl, Nat.zero_le _, Nat.zero_le _⟩ rfl hl.1 rfl (Nat.le_of_ble_eq_true rfl) dX7_pour_1 (fun σ1 H locs h w => ?_)
  refine fb_iconst C dX7_pour_4 ?_
  refine lv_istore_n (lv' := [(3, .int (fb_I 0)), (0, .ref (fb_ad G 48)), (1, .int (fb_I x1)), (2, .int (fb_I x2))]) C.1.1 C.1.2.1 dX7_pour_5 rfl hl (by decide) rfl (fun ls hl => ?_)
  obtain ⟨n, h⟩ := h
  exact tl_X7_pour_6 C hret n x1 x2 0 _ _ _ _ w (lv_sub hl [1, 2, 3, 0] rfl) ix1 ix2 (by decide) h
theorem ct_X7_pour (l : Launch) (G : fb_G) {x1 : Int} {x2 : Int} {σ : fb_St} (ix1 : fb_in x1) (ix2 : fb_in x2) (h : wp_X7_pour x1 x2 σ Q) : fb_MV l G yX7_pour cX7_pour 10 rm_X7_pour [.ref (fb_ad G 48), .int (fb_I x1), .int (fb_I x2)] σ Q := by
  refine fb_ofW (own := RX7) (by decide) (Nat.le_of_ble_eq_true rfl) rfl (fun p e s m args below meth c ls C hr hl w => ?_)
  exact tw_X7_pour_0 C (fb_retv C hr) _ _ _ _ _ _ w hl ix1 ix2 h
end S_X7_pour
