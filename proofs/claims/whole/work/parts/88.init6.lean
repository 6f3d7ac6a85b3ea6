/-! ===== FloodBasins() ===== -/
abbrev qA (cQ : ClassId) (f : Nat → Option Nat) : va_E := .inl (cQ, 2, .inr (.inr (.inr (.inr f))))
theorem fb_oneQ {D : va_G} {tys : List (ClassId × FieldType)} {U : State} {k : Nat} {a b : ClassId} {C : String} (hK : va_K D vwCl (tys ++ [(b, .object C)]) U) (hk : tys[k]? = some (a, .object C)) : b = a := by
  have h1 := (hK.2 k (a, .object C) (by rw [List.getElem?_append_left (List.getElem?_eq_some_iff.mp hk).1]; exact hk)).2
  have h2 := (hK.2 tys.length (b, .object C) (by rw [List.getElem?_append_right (Nat.le_refl _)]; simp)).2
  obtain ⟨k1, c1, -, -, -, e1⟩ := h1
  obtain ⟨k2, c2, -, -, -, e2⟩ := h2
  have := e1.symm.trans e2
  injection this with e
  exact e.symm
section CC6
variable {p : Program} {l : Launch} {e : Env} {R : Room} {s : State} {m : MethodId} {args : Array Value} {below : List Frame} {meth : Method} {c : Code} {H : Heap} {locs : List Loc} {cells slots : Nat} {Q : State → Prop}
variable {cc : ByteArray} {pc : Nat} {ls : Array Slot} {rest : List Value} {own : String} {D : fb_D0} {A : Nat → Prop} {ws : va_W}
theorem cc_newq (C : fb_CC p s m args meth c D own cc) (w : fb_WW D A s ws H locs) (hA : ∀ q, s.heap.size ≤ q → A q) {index cells' slots' : Nat} (h1 : Cond.classLink own index "FloodBasins$Image" ∈ fb_tb) (hc : cells + 1 = cells') (hs : slots + 2 = slots') (hR : cells' ≤ R.cells ∧ slots' ≤ R.slots) (hdg : decode cc pc = .ok (.anewarray index, 3))
    (kk : ∀ (q : Nat) (H1 : Heap), fb_WW D A s (ws ++ [(q, qA D.2.2.2 (fun _ => none))]) H1 locs → W p l e R s m args below meth c H1 locs cells' slots' Q (F0 m (pc + 3) ls (.ref q :: rest))) : W p l e R s m args below meth c H locs cells slots Q (F0 m pc ls (.int (fb_I (2 : Nat)) :: rest)) := by
  subst hc; subst hs
  refine va_newq (N' := 2) C.1.1 C.1.2.1 C.1.2.2.2.1 (C.1.2.2.2.2 _ h1) C.2.2.2.2.2 C.2.2.1 w.1 w.2.1 w.2.2 hA (by decide) (by decide) (by decide) hR.1 hR.2 hdg (fun q cA H1 hK hP hD hS => ?_)
  have := fb_oneQ (k := 2) hK rfl
  subst this
  exact kk q H1 ⟨hP, hD, hS⟩
theorem cc_astq (C : fb_CC p s m args meth c D own cc) (w : fb_WW D A s ws H locs) {ws' : va_W} (q0 qk i : Nat) {a v : Nat} {f : Nat → Option Nat} {vs : List Value} (ha : ws[q0]? = some (a, qA D.2.2.2 f)) (hv : ws[qk]? = some (v, .inr (1, vs))) (hi : i < 2) (hws : ws.set q0 (a, qA D.2.2.2 (va_up f i (some v))) = ws') (hdg : decode cc pc = .ok (.aastore, 1))
    (kk : ∀ (H1 : Heap) (locs1 : List Loc), fb_WW D A s ws' H1 locs1 → W p l e R s m args below meth c H1 locs1 cells slots Q (F0 m (pc + 1) ls rest)) : W p l e R s m args below meth c H locs cells slots Q (F0 m pc ls (.ref v :: .int (fb_I i) :: .ref a :: rest)) := by
  subst hws
  refine va_astq (r := (RX1, TX1, 7)) (i := fb_I i) C.1.1 C.1.2.1 C.2.2.1 w.1 w.2.1 w.2.2 q0 2 qk 1 ha rfl hv rfl (fb_I_ix (n := 2) (by omega) (by omega) (by decide)) hdg (fun H1 locs1 a1 a2 a3 => ?_)
  rw [fb_I_nat (by omega) (by omega), Int.toNat_natCast] at a1 a2
  exact kk H1 locs1 ⟨a1, a2, a3⟩
end CC6
theorem va_P_q {D : va_G} {ws : va_W} {H : Heap} {k a : Nat} {cQ : ClassId} {f g : Nat → Option Nat} (hP : va_P D vwCl ws H) (hk : ws[k]? = some (a, qA cQ f)) (h0 : f 0 = g 0) (h1 : f 1 = g 1) : va_P D vwCl (ws.set k (a, qA cQ g)) H := by
  intro i q hq
  rw [List.getElem?_set] at hq
  by_cases h : k = i
  · subst h
    rw [if_pos rfl] at hq
    split at hq
    · cases hq
      have h2 : H[a]? = some (vp_cell cQ (2, .inr (.inr (.inr (.inr f))))) := hP k _ hk
      have h3 : vp_cell cQ (2, .inr (.inr (.inr (.inr f)))) = vp_cell cQ (2, .inr (.inr (.inr (.inr g)))) := by
        rw [vp_cell_q, vp_cell_q]
        exact fb_arrV_cong (fun j hj => by
          rcases (show j = 0 ∨ j = 1 by omega) with rfl | rfl
          · rw [h0]
          · rw [h1])
      rw [h3] at h2
      exact h2
    · cases hq
  · rw [if_neg h] at hq
    exact hP i q hq
theorem va_S_w {A B : Nat → Prop} {H0 H : Heap} {locs : List Loc} (h : va_S A H0 H locs) (hAB : ∀ q, A q → B q) : va_S B H0 H locs := ⟨h.1, fun q h1 h2 => h.2.1 q h1 (fun z => h2 (hAB q z)), fun q hq => hAB _ (h.2.2 q hq)⟩
def s0z_ : fb_St := fun _ _ => 0
/-- the state as FloodBasins() leaves it -/
def n0_ (σ : fb_St) : Prop := fr_ [1, 4] s0z_ σ ∧ σ 1 0 = 8 ∧ σ 1 1 = 8 ∧ σ 1 2 = 8 * 8 ∧ ∀ i d, 0 ≤ i → i < 8 * 8 → 0 ≤ d → d < 4 → σ 4 (i * 4 + d) = nb_ 8 8 i d
def c6_Q (D : fb_D0) (h0 : Nat) (dfs : List Value) (sz : Nat) : Array Value → State → Outcome → State → Prop := va_Qv (S := (Nat → Nat) × fb_St) (fun u => u.1 0 = h0 ∧ n0_ u.2) (fun u t => va_P D.1 vwCl (fb_W (fb_G0 D u.1 48) u.2) t.heap ∧ va_D (cc_A h0 6 dfs sz) (fb_W (fb_G0 D u.1 48) u.2) ∧ ∀ k i, fb_in (u.2 k i)) (cc_A h0 6 dfs sz)
theorem fb_len48 (D : fb_D0) (ad : Nat → Nat) : (fb_cl (fb_G0 D ad 48)).length = 48 := rfl
/-- the cells of a new object are the class's cells -/
theorem c6_to (D : fb_D0) {A : Nat → Prop} {s : State} {H : Heap} {locs : List Loc} (h0 qa : Nat) (u1 u2 u3 u4 u5 u6 u7 : Nat → Nat) (w : fb_WW D A s ([(h0, .inr (6, [.ref (u1 0), .ref (u2 0), .ref (u3 0), .ref (u4 0), .ref (u5 0), .ref qa, fb_z, fb_z, fb_z, fb_z, fb_z]))] ++ wkX5 D.2.1 u1 ++ wkX4 D.2.1 u2 ++ wkX0 D.2.1 u3 ++ wkX3 D.2.1 u4 ++ wkX3 D.2.1 u5 ++ [(qa, qA D.2.2.2 (va_up (va_up (fun _ => none) 0 (some (u6 0))) 1 (some (u7 0))))] ++ wkX1 D.2.1 u6 ++ wkX1 D.2.1 u7) H locs) : ∃ ad : Nat → Nat, ad 0 = h0 ∧ va_P D.1 vwCl (fb_W (fb_G0 D ad 48) s0z_) H ∧ va_D A (fb_W (fb_G0 D ad 48) s0z_) := by
  refine ⟨fun k => ([h0, u1 0, u1 1, u1 2, u1 3, u2 0, u2 1, u2 2, u3 0, u3 1, u3 2, u3 3, u3 4, u3 5, u3 6, u3 7, u3 8, u4 0, u4 1, u4 2, u4 3, u4 4, u4 5, u4 6, u4 7, u4 8, u4 9, u4 10, u4 11, u5 0, u5 1, u5 2, u5 3, u5 4, u5 5, u5 6, u5 7, u5 8, u5 9, u5 10, u5 11, qa, u6 0, u6 1, u6 2, u7 0, u7 1, u7 2] : List Nat).getD k 0, rfl, ?_⟩
  have hP := va_P_q (k := 41) (g := fun j => some (if j = 0 then u6 0 else u7 0)) w.1 rfl rfl rfl
  have hD := w.2.1.set (p := 41) (a := qa) (e := qA D.2.2.2 (fun j => some (if j = 0 then u6 0 else u7 0))) (e0 := qA D.2.2.2 (va_up (va_up (fun _ => none) 0 (some (u6 0))) 1 (some (u7 0)))) rfl
  have e : fb_W (fb_G0 D (fun k => ([h0, u1 0, u1 1, u1 2, u1 3, u2 0, u2 1, u2 2, u3 0, u3 1, u3 2, u3 3, u3 4, u3 5, u3 6, u3 7, u3 8, u4 0, u4 1, u4 2, u4 3, u4 4, u4 5, u4 6, u4 7, u4 8, u4 9, u4 10, u4 11, u5 0, u5 1, u5 2, u5 3, u5 4, u5 5, u5 6, u5 7, u5 8, u5 9, u5 10, u5 11, qa, u6 0, u6 1, u6 2, u7 0, u7 1, u7 2] : List Nat).getD k 0) 48) s0z_ = [(h0, .inr (6, [.ref (u1 0), .ref (u2 0), .ref (u3 0), .ref (u4 0), .ref (u5 0), .ref qa, fb_z, fb_z, fb_z, fb_z, fb_z]))] ++ wkX5 D.2.1 u1 ++ wkX4 D.2.1 u2 ++ wkX0 D.2.1 u3 ++ wkX3 D.2.1 u4 ++ wkX3 D.2.1 u5 ++ [(qa, qA D.2.2.2 (fun j => some (if j = 0 then u6 0 else u7 0)))] ++ wkX1 D.2.1 u6 ++ wkX1 D.2.1 u7 := by
    have eq : (fun j : Nat => some (if j = 0 then u6 0 else u7 0)) = fun j => some (fb_ad (fb_G0 D (fun k => ([h0, u1 0, u1 1, u1 2, u1 3, u2 0, u2 1, u2 2, u3 0, u3 1, u3 2, u3 3, u3 4, u3 5, u3 6, u3 7, u3 8, u4 0, u4 1, u4 2, u4 3, u4 4, u4 5, u4 6, u4 7, u4 8, u4 9, u4 10, u4 11, u5 0, u5 1, u5 2, u5 3, u5 4, u5 5, u5 6, u5 7, u5 8, u5 9, u5 10, u5 11, qa, u6 0, u6 1, u6 2, u7 0, u7 1, u7 2] : List Nat).getD k 0) 48) (if j = 0 then 42 else 45)) := by funext j; split <;> rfl
    rw [fb_W_eq, eq]; unfold fb_cl fb_full; simp only [fb_ob_eq]; rfl
  rw [e]
  exact ⟨hP, hD⟩
set_option maxHeartbeats 4000000 in
theorem ci_X6 (l : Launch) (D : fb_D0) (h0 : Nat) : ∀ sz : Nat, Met l yX6_init (.code yX6_init cX6_init 1 none :: fb_tb) { frames := 3, cells := 47, slots := 5030, locals := 69 } (cc_Pc D h0 6 [.null, .null, .null, .null, .null, .null, fb_z, fb_z, fb_z, fb_z, fb_z] sz) (c6_Q D h0 [.null, .null, .null, .null, .null, .null, fb_z, fb_z, fb_z, fb_z, fb_z] sz) 47 5030 (cc_A h0 6 [.null, .null, .null, .null, .null, .null, fb_z, fb_z, fb_z, fb_z, fb_z] sz) := by
  refine cc_ofW (by decide) rfl rfl ?_
  intro p e s m args below meth c ls C hl w
  refine lv_aload_n C.1.1 C.1.2.1 dX6_init_0 rfl (lv_at hl 0 rfl) ?_
  refine cc_obj C mi_obj_X6 mo_inst mo_code hl.1 dX6_init_1 ⟨Nat.le_of_ble_eq_true rfl, Nat.le_of_ble_eq_true rfl⟩ ?_
  refine lv_aload_n C.1.1 C.1.2.1 dX6_init_4 rfl (lv_at hl 0 rfl) ?_
  refine cc_new C w cc_hA (cells' := 1) (slots' := 6) fb_u5 tyX5_ok mk_X6_7 mi_tm_X5 mi_ini_X5 (fs := [fb_z, fb_z, fb_z, .null, .null, .null]) (ci := 5) rfl dfX5 rfl rfl ⟨Nat.le_of_ble_eq_true rfl, Nat.le_of_ble_eq_true rfl⟩ dX6_init_5 (fun q1 H w => ?_)
  refine lv_dup C.1.1 C.1.2.1 dX6_init_8 rfl ?_
  refine cc_call (wr := [(h0, .inr (6, [.null, .null, .null, .null, .null, .null, fb_z, fb_z, fb_z, fb_z, fb_z]))]) (a := q1) C w cc_hA (cells' := 4) (slots' := 870) (ci_X5 l D q1) C.2.2.2.1.1 mi_code_X5 mi_inst_X5 mi_ini_X5 rfl (by decide +kernel) ⟨rfl, rfl⟩ [0] rfl rfl hl.1 rfl rfl ⟨Nat.le_of_ble_eq_true rfl, Nat.le_of_ble_eq_true rfl, Nat.le_of_ble_eq_true rfl, Nat.le_of_ble_eq_true rfl⟩ (Nat.le_of_ble_eq_true rfl) dX6_init_9 (fun u1 H locs hu w2 => ?_)
  clear w
  subst hu
  have w := w2
  clear w2
  refine cc_putF (ws' := [(h0, .inr (6, [.ref (u1 0), .null, .null, .null, .null, .null, fb_z, fb_z, fb_z, fb_z, fb_z]))] ++ wkX5 D.2.1 u1) C w rfl fl_X6_10 tyX6_ok nmX6 rfl rfl rfl rfl (Nat.le_of_ble_eq_true rfl) rfl dX6_init_12 (fun H locs w => ?_)
  refine lv_aload_n C.1.1 C.1.2.1 dX6_init_15 rfl (lv_at hl 0 rfl) ?_
  refine cc_new C w cc_hA (cells' := 5) (slots' := 873) fb_u4 tyX4_ok mk_X6_16 mi_tm_X4 mi_ini_X4 (fs := [fb_z, .null, .null]) (ci := 4) rfl dfX4 rfl rfl ⟨Nat.le_of_ble_eq_true rfl, Nat.le_of_ble_eq_true rfl⟩ dX6_init_16 (fun q2 H w => ?_)
  refine lv_dup C.1.1 C.1.2.1 dX6_init_19 rfl ?_
  refine cc_call (wr := [(h0, .inr (6, [.ref (u1 0), .null, .null, .null, .null, .null, fb_z, fb_z, fb_z, fb_z, fb_z]))] ++ wkX5 D.2.1 u1) (a := q2) C w cc_hA (cells' := 7) (slots' := 1161) (ci_X4 l D q2) C.2.2.2.1.2.1 mi_code_X4 mi_inst_X4 mi_ini_X4 rfl (by decide +kernel) ⟨rfl, rfl⟩ [0, 1, 2, 3, 4] rfl rfl hl.1 rfl rfl ⟨Nat.le_of_ble_eq_true rfl, Nat.le_of_ble_eq_true rfl, Nat.le_of_ble_eq_true rfl, Nat.le_of_ble_eq_true rfl⟩ (Nat.le_of_ble_eq_true rfl) dX6_init_20 (fun u2 H locs hu w2 => ?_)
  clear w
  subst hu
  have w := w2
  clear w2
  refine cc_putF (ws' := [(h0, .inr (6, [.ref (u1 0), .ref (u2 0), .null, .null, .null, .null, fb_z, fb_z, fb_z, fb_z, fb_z]))] ++ wkX5 D.2.1 u1 ++ wkX4 D.2.1 u2) C w rfl fl_X6_19 tyX6_ok nmX6 rfl rfl rfl rfl (Nat.le_of_ble_eq_true rfl) rfl dX6_init_23 (fun H locs w => ?_)
  refine lv_aload_n C.1.1 C.1.2.1 dX6_init_26 rfl (lv_at hl 0 rfl) ?_
  refine cc_new C w cc_hA (cells' := 8) (slots' := 1166) fb_u0 tyX0_ok mk_X6_23 mi_tm_X0 mi_ini_X0 (fs := [.null, .null, .null, .null, .null]) (ci := 0) rfl dfX0 rfl rfl ⟨Nat.le_of_ble_eq_true rfl, Nat.le_of_ble_eq_true rfl⟩ dX6_init_27 (fun q3 H w => ?_)
  refine lv_dup C.1.1 C.1.2.1 dX6_init_30 rfl ?_
  refine cc_call (wr := [(h0, .inr (6, [.ref (u1 0), .ref (u2 0), .null, .null, .null, .null, fb_z, fb_z, fb_z, fb_z, fb_z]))] ++ wkX5 D.2.1 u1 ++ wkX4 D.2.1 u2) (a := q3) C w cc_hA (cells' := 16) (slots' := 2046) (ci_X0 l D q3) C.2.2.2.1.2.2.1 mi_code_X0 mi_inst_X0 mi_ini_X0 rfl (by decide +kernel) ⟨rfl, rfl⟩ [0, 1, 2, 3, 4, 5, 6, 7] rfl rfl hl.1 rfl rfl ⟨Nat.le_of_ble_eq_true rfl, Nat.le_of_ble_eq_true rfl, Nat.le_of_ble_eq_true rfl, Nat.le_of_ble_eq_true rfl⟩ (Nat.le_of_ble_eq_true rfl) dX6_init_31 (fun u3 H locs hu w2 => ?_)
  clear w
  subst hu
  have w := w2
  clear w2
  refine cc_putF (ws' := [(h0, .inr (6, [.ref (u1 0), .ref (u2 0), .ref (u3 0), .null, .null, .null, fb_z, fb_z, fb_z, fb_z, fb_z]))] ++ wkX5 D.2.1 u1 ++ wkX4 D.2.1 u2 ++ wkX0 D.2.1 u3) C w rfl fl_X6_26 tyX6_ok nmX6 rfl rfl rfl rfl (Nat.le_of_ble_eq_true rfl) rfl dX6_init_34 (fun H locs w => ?_)
  refine lv_aload_n C.1.1 C.1.2.1 dX6_init_37 rfl (lv_at hl 0 rfl) ?_
  refine cc_new C w cc_hA (cells' := 17) (slots' := 2058) fb_u3 tyX3_ok mk_X6_30 mi_tm_X3 mi_ini_X3 (fs := [fb_z, .null, .null, .null, .null, .null, .null, .null, .null, .null, .null, .null]) (ci := 3) rfl dfX3 rfl rfl ⟨Nat.le_of_ble_eq_true rfl, Nat.le_of_ble_eq_true rfl⟩ dX6_init_38 (fun q4 H w => ?_)
  refine lv_dup C.1.1 C.1.2.1 dX6_init_41 rfl ?_
  refine cc_call (wr := [(h0, .inr (6, [.ref (u1 0), .ref (u2 0), .ref (u3 0), .null, .null, .null, fb_z, fb_z, fb_z, fb_z, fb_z]))] ++ wkX5 D.2.1 u1 ++ wkX4 D.2.1 u2 ++ wkX0 D.2.1 u3) (a := q4) C w cc_hA (cells' := 28) (slots' := 3242) (ci_X3 l D q4) C.2.2.2.1.2.2.2.1 mi_code_X3 mi_inst_X3 mi_ini_X3 rfl (by decide +kernel) ⟨rfl, rfl⟩ [0, 1, 2, 3, 4, 5, 6, 7, 8, 9, 10, 11, 12, 13, 14, 15, 16] rfl rfl hl.1 rfl rfl ⟨Nat.le_of_ble_eq_true rfl, Nat.le_of_ble_eq_true rfl, Nat.le_of_ble_eq_true rfl, Nat.le_of_ble_eq_true rfl⟩ (Nat.le_of_ble_eq_true rfl) dX6_init_42 (fun u4 H locs hu w2 => ?_)
  clear w
  subst hu
  have w := w2
  clear w2
  refine cc_putF (ws' := [(h0, .inr (6, [.ref (u1 0), .ref (u2 0), .ref (u3 0), .ref (u4 0), .null, .null, fb_z, fb_z, fb_z, fb_z, fb_z]))] ++ wkX5 D.2.1 u1 ++ wkX4 D.2.1 u2 ++ wkX0 D.2.1 u3 ++ wkX3 D.2.1 u4) C w rfl fl_X6_33 tyX6_ok nmX6 rfl rfl rfl rfl (Nat.le_of_ble_eq_true rfl) rfl dX6_init_45 (fun H locs w => ?_)
  refine lv_aload_n C.1.1 C.1.2.1 dX6_init_48 rfl (lv_at hl 0 rfl) ?_
  refine cc_new C w cc_hA (cells' := 29) (slots' := 3254) fb_u3 tyX3_ok mk_X6_30 mi_tm_X3 mi_ini_X3 (fs := [fb_z, .null, .null, .null, .null, .null, .null, .null, .null, .null, .null, .null]) (ci := 3) rfl dfX3 rfl rfl ⟨Nat.le_of_ble_eq_true rfl, Nat.le_of_ble_eq_true rfl⟩ dX6_init_49 (fun q5 H w => ?_)
  refine lv_dup C.1.1 C.1.2.1 dX6_init_52 rfl ?_
  refine cc_call (wr := [(h0, .inr (6, [.ref (u1 0), .ref (u2 0), .ref (u3 0), .ref (u4 0), .null, .null, fb_z, fb_z, fb_z, fb_z, fb_z]))] ++ wkX5 D.2.1 u1 ++ wkX4 D.2.1 u2 ++ wkX0 D.2.1 u3 ++ wkX3 D.2.1 u4) (a := q5) C w cc_hA (cells' := 40) (slots' := 4438) (ci_X3 l D q5) C.2.2.2.1.2.2.2.1 mi_code_X3 mi_inst_X3 mi_ini_X3 rfl (by decide +kernel) ⟨rfl, rfl⟩ [0, 1, 2, 3, 4, 5, 6, 7, 8, 9, 10, 11, 12, 13, 14, 15, 16, 17, 18, 19, 20, 21, 22, 23, 24, 25, 26, 27, 28] rfl rfl hl.1 rfl rfl ⟨Nat.le_of_ble_eq_true rfl, Nat.le_of_ble_eq_true rfl, Nat.le_of_ble_eq_true rfl, Nat.le_of_ble_eq_true rfl⟩ (Nat.le_of_ble_eq_true rfl) dX6_init_53 (fun u5 H locs hu w2 => ?_)
  clear w
  subst hu
  have w := w2
  clear w2
  refine cc_putF (ws' := [(h0, .inr (6, [.ref (u1 0), .ref (u2 0), .ref (u3 0), .ref (u4 0), .ref (u5 0), .null, fb_z, fb_z, fb_z, fb_z, fb_z]))] ++ wkX5 D.2.1 u1 ++ wkX4 D.2.1 u2 ++ wkX0 D.2.1 u3 ++ wkX3 D.2.1 u4 ++ wkX3 D.2.1 u5) C w rfl fl_X6_37 tyX6_ok nmX6 rfl rfl rfl rfl (Nat.le_of_ble_eq_true rfl) rfl dX6_init_56 (fun H locs w => ?_)
  refine lv_aload_n C.1.1 C.1.2.1 dX6_init_59 rfl (lv_at hl 0 rfl) ?_
  refine lv_iconst (v := fb_I (2 : Nat)) C.1.1 C.1.2.1 dX6_init_60 (by decide) ?_
  refine cc_newq C w cc_hA (cells' := 41) (slots' := 4440) mk_X6_40 rfl rfl ⟨Nat.le_of_ble_eq_true rfl, Nat.le_of_ble_eq_true rfl⟩ dX6_init_61 (fun qa H w => ?_)
  refine lv_dup C.1.1 C.1.2.1 dX6_init_64 rfl ?_
  refine lv_iconst (v := fb_I (0 : Nat)) C.1.1 C.1.2.1 dX6_init_65 (by decide) ?_
  refine cc_new C w cc_hA (cells' := 42) (slots' := 4447) fb_u1 tyX1_ok mk_X6_40 mi_tm_X1 mi_ini_X1 (fs := [fb_z, fb_z, fb_z, fb_z, fb_z, .null, .null]) (ci := 1) rfl dfX1 rfl rfl ⟨Nat.le_of_ble_eq_true rfl, Nat.le_of_ble_eq_true rfl⟩ dX6_init_66 (fun q6 H w => ?_)
  refine lv_dup C.1.1 C.1.2.1 dX6_init_69 rfl ?_
  refine cc_call (wr := [(h0, .inr (6, [.ref (u1 0), .ref (u2 0), .ref (u3 0), .ref (u4 0), .ref (u5 0), .null, fb_z, fb_z, fb_z, fb_z, fb_z]))] ++ wkX5 D.2.1 u1 ++ wkX4 D.2.1 u2 ++ wkX0 D.2.1 u3 ++ wkX3 D.2.1 u4 ++ wkX3 D.2.1 u5 ++ [(qa, qA D.2.2.2 (fun _ => none))]) (a := q6) C w cc_hA (cells' := 44) (slots' := 4735) (ci_X1 l D q6) C.2.2.2.1.2.2.2.2.1 mi_code_X1 mi_inst_X1 mi_ini_X1 rfl (by decide +kernel) ⟨rfl, rfl⟩ [0, 1, 2, 3, 4, 5, 6, 7, 8, 9, 10, 11, 12, 13, 14, 15, 16, 17, 18, 19, 20, 21, 22, 23, 24, 25, 26, 27, 28, 29, 30, 31, 32, 33, 34, 35, 36, 37, 38, 39, 40, 41] rfl rfl hl.1 rfl rfl ⟨Nat.le_of_ble_eq_true rfl, Nat.le_of_ble_eq_true rfl, Nat.le_of_ble_eq_true rfl, Nat.le_of_ble_eq_true rfl⟩ (Nat.le_of_ble_eq_true rfl) dX6_init_70 (fun u6 H locs hu w2 => ?_)
  clear w
  subst hu
  have w := w2
  clear w2
  refine cc_astq (ws' := [(h0, .inr (6, [.ref (u1 0), .ref (u2 0), .ref (u3 0), .ref (u4 0), .ref (u5 0), .null, fb_z, fb_z, fb_z, fb_z, fb_z]))] ++ wkX5 D.2.1 u1 ++ wkX4 D.2.1 u2 ++ wkX0 D.2.1 u3 ++ wkX3 D.2.1 u4 ++ wkX3 D.2.1 u5 ++ [(qa, qA D.2.2.2 (va_up (fun _ => none) 0 (some (u6 0))))] ++ wkX1 D.2.1 u6) C w 41 42 0 rfl rfl (by decide) rfl dX6_init_73 (fun H locs w => ?_)
  refine lv_dup C.1.1 C.1.2.1 dX6_init_74 rfl ?_
  refine lv_iconst (v := fb_I (1 : Nat)) C.1.1 C.1.2.1 dX6_init_75 (by decide) ?_
  refine cc_new C w cc_hA (cells' := 45) (slots' := 4742) fb_u1 tyX1_ok mk_X6_40 mi_tm_X1 mi_ini_X1 (fs := [fb_z, fb_z, fb_z, fb_z, fb_z, .null, .null]) (ci := 1) rfl dfX1 rfl rfl ⟨Nat.le_of_ble_eq_true rfl, Nat.le_of_ble_eq_true rfl⟩ dX6_init_76 (fun q7 H w => ?_)
  refine lv_dup C.1.1 C.1.2.1 dX6_init_79 rfl ?_
  refine cc_call (wr := [(h0, .inr (6, [.ref (u1 0), .ref (u2 0), .ref (u3 0), .ref (u4 0), .ref (u5 0), .null, fb_z, fb_z, fb_z, fb_z, fb_z]))] ++ wkX5 D.2.1 u1 ++ wkX4 D.2.1 u2 ++ wkX0 D.2.1 u3 ++ wkX3 D.2.1 u4 ++ wkX3 D.2.1 u5 ++ [(qa, qA D.2.2.2 (va_up (fun _ => none) 0 (some (u6 0))))] ++ wkX1 D.2.1 u6) (a := q7) C w cc_hA (cells' := 47) (slots' := 5030) (ci_X1 l D q7) C.2.2.2.1.2.2.2.2.1 mi_code_X1 mi_inst_X1 mi_ini_X1 rfl (by decide +kernel) ⟨rfl, rfl⟩ [0, 1, 2, 3, 4, 5, 6, 7, 8, 9, 10, 11, 12, 13, 14, 15, 16, 17, 18, 19, 20, 21, 22, 23, 24, 25, 26, 27, 28, 29, 30, 31, 32, 33, 34, 35, 36, 37, 38, 39, 40, 41, 42, 43, 44] rfl rfl hl.1 rfl rfl ⟨Nat.le_of_ble_eq_true rfl, Nat.le_of_ble_eq_true rfl, Nat.le_of_ble_eq_true rfl, Nat.le_of_ble_eq_true rfl⟩ (Nat.le_of_ble_eq_true rfl) dX6_init_80 (fun u7 H locs hu w2 => ?_)
  clear w
  subst hu
  have w := w2
  clear w2
  refine cc_astq (ws' := [(h0, .inr (6, [.ref (u1 0), .ref (u2 0), .ref (u3 0), .ref (u4 0), .ref (u5 0), .null, fb_z, fb_z, fb_z, fb_z, fb_z]))] ++ wkX5 D.2.1 u1 ++ wkX4 D.2.1 u2 ++ wkX0 D.2.1 u3 ++ wkX3 D.2.1 u4 ++ wkX3 D.2.1 u5 ++ [(qa, qA D.2.2.2 (va_up (va_up (fun _ => none) 0 (some (u6 0))) 1 (some (u7 0))))] ++ wkX1 D.2.1 u6 ++ wkX1 D.2.1 u7) C w 41 45 1 rfl rfl (by decide) rfl dX6_init_83 (fun H locs w => ?_)
  refine cc_putF (ws' := [(h0, .inr (6, [.ref (u1 0), .ref (u2 0), .ref (u3 0), .ref (u4 0), .ref (u5 0), .ref qa, fb_z, fb_z, fb_z, fb_z, fb_z]))] ++ wkX5 D.2.1 u1 ++ wkX4 D.2.1 u2 ++ wkX0 D.2.1 u3 ++ wkX3 D.2.1 u4 ++ wkX3 D.2.1 u5 ++ [(qa, qA D.2.2.2 (va_up (va_up (fun _ => none) 0 (some (u6 0))) 1 (some (u7 0))))] ++ wkX1 D.2.1 u6 ++ wkX1 D.2.1 u7) C w rfl fl_X6_43 tyX6_ok nmX6 rfl rfl rfl rfl (Nat.le_of_ble_eq_true rfl) rfl dX6_init_84 (fun H locs w => ?_)
  refine lv_aload_n C.1.1 C.1.2.1 dX6_init_87 rfl (lv_at hl 0 rfl) ?_
  refine lv_iconst (v := fb_I 0) C.1.1 C.1.2.1 dX6_init_88 (by decide) ?_
  refine cc_put (ws' := [(h0, .inr (6, [.ref (u1 0), .ref (u2 0), .ref (u3 0), .ref (u4 0), .ref (u5 0), .ref qa, fb_z, fb_z, fb_z, fb_z, fb_z]))] ++ wkX5 D.2.1 u1 ++ wkX4 D.2.1 u2 ++ wkX0 D.2.1 u3 ++ wkX3 D.2.1 u4 ++ wkX3 D.2.1 u5 ++ [(qa, qA D.2.2.2 (va_up (va_up (fun _ => none) 0 (some (u6 0))) 1 (some (u7 0))))] ++ wkX1 D.2.1 u6 ++ wkX1 D.2.1 u7) C w rfl fl_X6_47 tyX6_ok nmX6 rfl rfl rfl (Nat.le_of_ble_eq_true rfl) rfl dX6_init_89 (fun H locs w => ?_)
  refine lv_aload_n C.1.1 C.1.2.1 dX6_init_92 rfl (lv_at hl 0 rfl) ?_
  refine lv_iconst (v := fb_I 0) C.1.1 C.1.2.1 dX6_init_93 (by decide) ?_
  refine cc_put (ws' := [(h0, .inr (6, [.ref (u1 0), .ref (u2 0), .ref (u3 0), .ref (u4 0), .ref (u5 0), .ref qa, fb_z, fb_z, fb_z, fb_z, fb_z]))] ++ wkX5 D.2.1 u1 ++ wkX4 D.2.1 u2 ++ wkX0 D.2.1 u3 ++ wkX3 D.2.1 u4 ++ wkX3 D.2.1 u5 ++ [(qa, qA D.2.2.2 (va_up (va_up (fun _ => none) 0 (some (u6 0))) 1 (some (u7 0))))] ++ wkX1 D.2.1 u6 ++ wkX1 D.2.1 u7) C w rfl fl_X6_51 tyX6_ok nmX6 rfl rfl rfl (Nat.le_of_ble_eq_true rfl) rfl dX6_init_94 (fun H locs w => ?_)
  refine lv_aload_n C.1.1 C.1.2.1 dX6_init_97 rfl (lv_at hl 0 rfl) ?_
  refine lv_iconst (v := fb_I 0) C.1.1 C.1.2.1 dX6_init_98 (by decide) ?_
  refine cc_put (ws' := [(h0, .inr (6, [.ref (u1 0), .ref (u2 0), .ref (u3 0), .ref (u4 0), .ref (u5 0), .ref qa, fb_z, fb_z, fb_z, fb_z, fb_z]))] ++ wkX5 D.2.1 u1 ++ wkX4 D.2.1 u2 ++ wkX0 D.2.1 u3 ++ wkX3 D.2.1 u4 ++ wkX3 D.2.1 u5 ++ [(qa, qA D.2.2.2 (va_up (va_up (fun _ => none) 0 (some (u6 0))) 1 (some (u7 0))))] ++ wkX1 D.2.1 u6 ++ wkX1 D.2.1 u7) C w rfl fl_X6_54 tyX6_ok nmX6 rfl rfl rfl (Nat.le_of_ble_eq_true rfl) rfl dX6_init_99 (fun H locs w => ?_)
  refine lv_aload_n C.1.1 C.1.2.1 dX6_init_102 rfl (lv_at hl 0 rfl) ?_
  refine lv_iconst (v := fb_I 0) C.1.1 C.1.2.1 dX6_init_103 (by decide) ?_
  refine cc_put (ws' := [(h0, .inr (6, [.ref (u1 0), .ref (u2 0), .ref (u3 0), .ref (u4 0), .ref (u5 0), .ref qa, fb_z, fb_z, fb_z, fb_z, fb_z]))] ++ wkX5 D.2.1 u1 ++ wkX4 D.2.1 u2 ++ wkX0 D.2.1 u3 ++ wkX3 D.2.1 u4 ++ wkX3 D.2.1 u5 ++ [(qa, qA D.2.2.2 (va_up (va_up (fun _ => none) 0 (some (u6 0))) 1 (some (u7 0))))] ++ wkX1 D.2.1 u6 ++ wkX1 D.2.1 u7) C w rfl fl_X6_58 tyX6_ok nmX6 rfl rfl rfl (Nat.le_of_ble_eq_true rfl) rfl dX6_init_104 (fun H locs w => ?_)
  refine lv_aload_n C.1.1 C.1.2.1 dX6_init_107 rfl (lv_at hl 0 rfl) ?_
  refine lv_iconst (v := fb_I 0) C.1.1 C.1.2.1 dX6_init_108 (by decide) ?_
  refine cc_put (ws' := [(h0, .inr (6, [.ref (u1 0), .ref (u2 0), .ref (u3 0), .ref (u4 0), .ref (u5 0), .ref qa, fb_z, fb_z, fb_z, fb_z, fb_z]))] ++ wkX5 D.2.1 u1 ++ wkX4 D.2.1 u2 ++ wkX0 D.2.1 u3 ++ wkX3 D.2.1 u4 ++ wkX3 D.2.1 u5 ++ [(qa, qA D.2.2.2 (va_up (va_up (fun _ => none) 0 (some (u6 0))) 1 (some (u7 0))))] ++ wkX1 D.2.1 u6 ++ wkX1 D.2.1 u7) C w rfl fl_X6_61 tyX6_ok nmX6 rfl rfl rfl (Nat.le_of_ble_eq_true rfl) rfl dX6_init_109 (fun H locs w => ?_)
  have hSw := w.2.2
  obtain ⟨ad, had, hP, hD⟩ := c6_to D h0 qa u1 u2 u3 u4 u5 u6 u7 w
  clear w
  subst had
  have toA : ∀ q, fb_A (fb_G0 D ad 48) s.heap.size q → cc_A (ad 0) 6 [.null, .null, .null, .null, .null, .null, fb_z, fb_z, fb_z, fb_z, fb_z] s.heap.size q := fun q hq => by
    rcases hq with ⟨k, hk, rfl⟩ | hq
    · have hk2 : k < (fb_W (fb_G0 D ad 48) s0z_).length := by rw [fb_W_len]; exact hk
      obtain ⟨-, h2⟩ := fb_W_addr (List.getElem?_eq_getElem hk2)
      have := hD.2 k _ (List.getElem?_eq_getElem hk2)
      rw [h2] at this
      exact this
    · exact Or.inr hq
  have ofA : ∀ q, cc_A (ad 0) 6 [.null, .null, .null, .null, .null, .null, fb_z, fb_z, fb_z, fb_z, fb_z] s.heap.size q → fb_A (fb_G0 D ad 48) s.heap.size q := fun q hq => by
    rcases hq with ⟨k, e, hk⟩ | hq
    · have hz : k < 1 := (List.getElem?_eq_some_iff.mp hk).1
      rw [show k = 0 by omega] at hk
      cases hk
      exact Or.inl ⟨0, by rw [fb_len48]; decide, rfl⟩
    · exact Or.inr hq
  have w : fb_Wd (fb_G0 D ad 48) s s0z_ H locs := ⟨hP, fb_D_A hD _, va_S_w hSw ofA, fun _ _ => by show fb_in 0; decide⟩
  have C2 : fb_C p s m args meth c (fb_G0 D ad 48) RX6 cX6_init 1 := ⟨C.1, ⟨⟨C.2.1.1, C.2.2.2.2.1⟩, by show 48 ≤ 48; decide⟩, C.2.2.1⟩
  refine lv_aload_n C.1.1 C.1.2.1 dX6_init_112 rfl (lv_at hl 0 rfl) ?_
  refine fb_getr (k := 0) C2 w (fb_k0 C2) rfl fl_X6_10 dX6_init_113 ?_
  refine fb_bipush C2 dX6_init_116 (by decide) ?_
  refine fb_bipush C2 dX6_init_118 (by decide) ?_
  refine fb_callVv (As := [.int (fb_I 8), .int (fb_I 8)]) (rest := []) C2 w (ct_X5_shape (Q := fun _ σ => n0_ σ) l _ (by decide) (by decide) (sp_shape (by decide) (by decide) (fun σ1 f1 g0 g1 g2 g4 => ⟨f1, g0, g1, g2, g4⟩))) mv_X6_64 (fb_k1 C2) rfl ⟨rfl, rfl, Nat.le_of_ble_eq_true rfl, Nat.le_of_ble_eq_true rfl, Nat.le_of_ble_eq_true rfl, Nat.le_of_ble_eq_true rfl⟩ rfl hl.1 rfl (Nat.le_of_ble_eq_true rfl) dX6_init_120 (fun σ1 H1 locs1 hn w1 => ?_)
  exact W.vret C.1.1 C.1.2.1 C.2.1.2.2 (fun t ht hW => ⟨⟨(ad, σ1), rfl, ⟨rfl, hn⟩, by rw [ht]; exact w1.1, w1.2.1.weaken (fun _ _ _ h => toA _ h), w1.2.2.2⟩, (va_S_w w1.2.2.1 toA).F ht⟩) (va_S_w w1.2.2.1 toA).2.2 dX6_init_123 C.2.1.1
