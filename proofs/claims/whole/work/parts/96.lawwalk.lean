/-- what the law's start stands on -/
def lw_S (p : Program) (s : State) (m : MethodId) (meth : Method) (c : Code) (b L : Nat) (xs : Nat → Int32) (D : fb_D0) : Prop :=
  CallFix p m c cL_law 4 s #[Value.ref b] fb_tb RL ∧ meth.sig.returnType = ret ∧ meth.locks = false ∧ va_K D.1 vwCl (fb_ty0 D) s ∧ fb_NN s ∧ va_X b L xs s s.heap ∧ b < s.heap.size ∧ L ≤ 2560
theorem st2_in {σ : fb_St} (hin : ∀ k i, fb_in (σ k i)) : ∀ k i, fb_in (st2_ σ k i) := fun k i => by
  unfold st2_
  split
  · exact hin k i
  · split
    · unfold md0_; split
      · decide
      · split <;> decide
    · exact fb_in0
theorem lw_go {p : Program} {l : Launch} {e : Env} {s : State} {m : MethodId} {below : List Frame} {meth : Method} {c : Code} {b L : Nat} {xs : Nat → Int32} {D : fb_D0} (S : lw_S p s m meth c b L xs D) {ad u : Nat → Nat} {σ : fb_St} {H : Heap} {locs : List Loc} {ls : Array Slot} (hn0 : n0_ σ) (hin : ∀ k i, fb_in (σ k i)) (w : fb_WW D (fun q : Nat => s.heap.size ≤ q) s (fb_W (fb_G0 D (ad2_ ad u) 67) (st2_ σ)) H locs) (hl : lv_has ls 4 [(3, .int (fb_I 0)), (2, .ref (u 0)), (1, .ref (ad 0)), (0, .ref b)]) : lw_W p l e s m below meth c b H locs (F0 m 18 ls []) := by
  obtain ⟨F, hr, hlocks, hK, hNN, hX, hbl, hL⟩ := S
  have hAA : ∀ q, fb_A (fb_G0 D (ad2_ ad u) 67) s.heap.size q → s.heap.size ≤ q := fun q hq => by
    rcases hq with ⟨k, hk, rfl⟩ | hq
    · have hk2 : k < (fb_W (fb_G0 D (ad2_ ad u) 67) (st2_ σ)).length := by rw [fb_W_len]; exact hk
      obtain ⟨-, h2⟩ := fb_W_addr (List.getElem?_eq_getElem hk2)
      have := w.2.1.2 k _ (List.getElem?_eq_getElem hk2)
      rw [h2] at this
      exact this
    · exact hq
  have w2 : fb_Wd (fb_G0 D (ad2_ ad u) 67) s (st2_ σ) H locs := ⟨w.1, fb_D_A w.2.1 _, va_S_w w.2.2 (fun q h => Or.inr h), st2_in hin⟩
  have C : fb_C p s m #[Value.ref b] meth c (fb_G0 D (ad2_ ad u) 67) RL cL_law 4 := ⟨F, ⟨⟨hlocks, hNN.2.1⟩, Nat.le_of_ble_eq_true rfl⟩, hK⟩
  exact lw_loop ⟨C, hX, hbl, hAA, hL⟩ hr (L + 2) 0 (st2_ σ) H locs ls (Int.le_refl 0) (by omega) (by omega) (iv_0 hn0) w2 hl
set_option maxHeartbeats 2000000 in
theorem lw_two {p : Program} {l : Launch} {e : Env} {s : State} {m : MethodId} {below : List Frame} {meth : Method} {c : Code} {b L : Nat} {xs : Nat → Int32} {D : fb_D0} (S : lw_S p s m meth c b L xs D) {ad : Nat → Nat} {σ : fb_St} {H : Heap} {locs : List Loc} {ls : Array Slot} (hn0 : n0_ σ) (hin : ∀ k i, fb_in (σ k i)) (w : fb_WW D (fun q : Nat => s.heap.size ≤ q) s (fb_W (fb_G0 D ad 48) σ) H locs) (hl : lv_has ls 4 [(1, .ref (ad 0)), (0, .ref b)]) : W p l e room_1 s m #[Value.ref b] below meth c H locs 48 5041 (lw_Z below #[Value.ref b] s) (F0 m 8 ls []) := by
  obtain ⟨F, hr, hlocks, hK, hNN, hX, hbl, hL⟩ := id S
  have hA : ∀ q : Nat, s.heap.size ≤ q → (fun q : Nat => s.heap.size ≤ q) q := fun _ h => h
  refine va_new (ci := 7) (fs := [.null, .null, .null, .null, .null, .null, .null, .null, .null, .null, .null, fb_z, .null, .null, .null, .null, .null, fb_z, .null, .null]) (C := RX7) (T := TX7) (N := 20) F.1 F.2.1 F.2.2.2.2 fb_u7 tyX7 tyX7_ok F.2.2.2.1 (F.2.2.2.2 _ mk_XL_10) (F.2.2.2.2 _ mi_tm_X7) (F.2.2.2.2 _ mi_ini_X7) hK w.1 w.2.1 w.2.2 hA rfl dfX7 (Nat.le_of_ble_eq_true rfl) (Nat.le_of_ble_eq_true rfl) dL_law_8 (fun q H hP hD hS => ?_)
  refine lv_dup F.1 F.2.1 dL_law_11 rfl ?_
  refine lw_call (wr := fb_W (fb_G0 D ad 48) σ) (wY := fun u : Nat → Nat => wkX7 D.2.2.1 D.2.1 u) (post := fun u => u 0 = q) (B := fun _ _ => True) (cells' := 67) (slots' := 7879) F hK hNN ⟨hP, hD, hS⟩ hA (fun sz => lw_m7 (ci_X7 l D q sz)) mj_XL_12 mi_code_X7 mi_inst_X7 mi_ini_X7 rfl (by decide +kernel) ⟨rfl, rfl⟩ (List.range 48) (by decide +kernel) (by rw [fb_W_len, fb_len48]) hl.1 rfl rfl ⟨Nat.le_of_ble_eq_true rfl, Nat.le_of_ble_eq_true rfl, Nat.le_of_ble_eq_true rfl, Nat.le_of_ble_eq_true rfl⟩ (Nat.le_of_ble_eq_true rfl) dL_law_12 (fun u t2 H locs hu _ w => ?_)
  clear hP hD hS
  subst hu
  refine lv_astore_n (lv' := [(2, .ref (u 0)), (1, .ref (ad 0)), (0, .ref b)]) F.1 F.2.1 dL_law_15 rfl hl (by decide) rfl (fun ls hl => ?_)
  refine lv_iconst (v := fb_I 0) F.1 F.2.1 dL_law_16 (by decide) ?_
  refine lv_istore_n (lv' := [(3, .int (fb_I 0)), (2, .ref (u 0)), (1, .ref (ad 0)), (0, .ref b)]) F.1 F.2.1 dL_law_17 rfl hl (by decide) rfl (fun ls hl => ?_)
  exact lw_go S hn0 hin (by rw [fb_W67]; exact w) hl
theorem lw_m6 (l : Launch) (D : fb_D0) (h0 : Nat) : ∀ sz : Nat, Met l yX6_init (.code yX6_init cX6_init 1 none :: fb_tb) { frames := 3, cells := 47, slots := 5030, locals := 69 } (cc_Pc D h0 6 [.null, .null, .null, .null, .null, .null, fb_z, fb_z, fb_z, fb_z, fb_z] sz) (va_Qv (S := (Nat → Nat) × fb_St) (fun u => u.1 0 = h0 ∧ n0_ u.2) (fun u t => va_P D.1 vwCl (fb_W (fb_G0 D u.1 48) u.2) t.heap ∧ va_D (cc_A h0 6 [.null, .null, .null, .null, .null, .null, fb_z, fb_z, fb_z, fb_z, fb_z] sz) (fb_W (fb_G0 D u.1 48) u.2) ∧ ∀ k i, fb_in (u.2 k i)) (cc_A h0 6 [.null, .null, .null, .null, .null, .null, fb_z, fb_z, fb_z, fb_z, fb_z] sz)) 47 5030 (cc_A h0 6 [.null, .null, .null, .null, .null, .null, fb_z, fb_z, fb_z, fb_z, fb_z] sz) := ci_X6 l D h0
theorem lw_1b {p : Program} {l : Launch} {e : Env} {s : State} {m : MethodId} {below : List Frame} {meth : Method} {c : Code} {b L : Nat} {xs : Nat → Int32} {D : fb_D0} (S : lw_S p s m meth c b L xs D) {h0 : Nat} {u : (Nat → Nat) × fb_St} {H : Heap} {locs : List Loc} {ls : Array Slot} (hu : u.1 0 = h0 ∧ n0_ u.2) (hin : ∀ k i, fb_in (u.2 k i)) (w : fb_WW D (fun q : Nat => s.heap.size ≤ q) s ([] ++ fb_W (fb_G0 D u.1 48) u.2) H locs) (hl : lv_has ls 4 [(0, .ref b)]) : W p l e room_1 s m #[Value.ref b] below meth c H locs 48 5041 (lw_Z below #[Value.ref b] s) (F0 m 7 ls [.ref h0]) := by
  obtain ⟨F, hr, hlocks, hK, hNN, hX, hbl, hL⟩ := id S
  obtain ⟨ad, σ⟩ := u
  obtain ⟨had, hn0⟩ := hu
  have had : ad 0 = h0 := had
  subst had
  rw [List.nil_append] at w
  refine lv_astore_n (lv' := [(1, .ref (ad 0)), (0, .ref b)]) F.1 F.2.1 dL_law_7 rfl hl (by decide) rfl (fun ls hl => ?_)
  exact lw_two S hn0 hin w hl
set_option maxHeartbeats 400000 in
theorem lw_1a {p : Program} {l : Launch} {e : Env} {s : State} {m : MethodId} {below : List Frame} {meth : Method} {c : Code} {b L : Nat} {xs : Nat → Int32} {D : fb_D0} (S : lw_S p s m meth c b L xs D) {h0 : Nat} {H : Heap} {locs : List Loc} {ls : Array Slot} (w : fb_WW D (fun q : Nat => s.heap.size ≤ q) s (([] : va_W) ++ [(h0, .inr (6, [.null, .null, .null, .null, .null, .null, fb_z, fb_z, fb_z, fb_z, fb_z]))]) H locs) (hl : lv_has ls 4 [(0, .ref b)]) : W p l e room_1 s m #[Value.ref b] below meth c H locs 1 11 (lw_Z below #[Value.ref b] s) (F0 m 4 ls [.ref h0, .ref h0]) := by
  obtain ⟨F, hr, hlocks, hK, hNN, hX, hbl, hL⟩ := id S
  exact lw_call (wr := []) (S := (Nat → Nat) × fb_St) (post := fun u => u.1 0 = h0 ∧ n0_ u.2) (wY := fun u : (Nat → Nat) × fb_St => fb_W (fb_G0 D u.1 48) u.2) (B := fun u _ => ∀ k i, fb_in (u.2 k i)) (cells' := 48) (slots' := 5041) (rest := [.ref h0]) F hK hNN w (fun _ h => h) (lw_m6 l D h0) mj_XL_9 mi_code_X6 mi_inst_X6 mi_ini_X6 rfl (by decide +kernel) ⟨rfl, rfl⟩ [] rfl rfl hl.1 rfl rfl ⟨Nat.le_of_ble_eq_true rfl, Nat.le_of_ble_eq_true rfl, Nat.le_of_ble_eq_true rfl, Nat.le_of_ble_eq_true rfl⟩ (Nat.le_of_ble_eq_true rfl) dL_law_4 (fun u t H locs hu hin w => lw_1b S hu hin w hl)
set_option maxHeartbeats 400000 in
theorem lw_one {p : Program} {l : Launch} {e : Env} {s : State} {m : MethodId} {below : List Frame} {meth : Method} {c : Code} {b L : Nat} {xs : Nat → Int32} {D : fb_D0} (S : lw_S p s m meth c b L xs D) {ls : Array Slot} (hl : lv_has ls 4 [(0, .ref b)]) : W p l e room_1 s m #[Value.ref b] below meth c s.heap [] 0 0 (lw_Z below #[Value.ref b] s) (F0 m 0 ls []) := by
  obtain ⟨F, hr, hlocks, hK, hNN, hX, hbl, hL⟩ := id S
  have hP : va_P D.1 vwCl [] s.heap := fun k q h => by simp at h
  have hD : va_D (fun q : Nat => s.heap.size ≤ q) [] := ⟨fun i j p q h => by simp at h, fun k q h => by simp at h⟩
  refine va_new (ci := 6) (fs := [.null, .null, .null, .null, .null, .null, fb_z, fb_z, fb_z, fb_z, fb_z]) (C := RX6) (T := TX6) (N := 11) F.1 F.2.1 F.2.2.2.2 fb_u6 tyX6 tyX6_ok F.2.2.2.1 (F.2.2.2.2 _ mk_XL_7) (F.2.2.2.2 _ mi_tm_X6) (F.2.2.2.2 _ mi_ini_X6) hK hP hD va_S.rf (fun _ h => h) rfl dfX6 (Nat.le_of_ble_eq_true rfl) (Nat.le_of_ble_eq_true rfl) dL_law_0 (fun h0 H hP hD hS => ?_)
  refine lv_dup F.1 F.2.1 dL_law_3 rfl ?_
  exact lw_1a S ⟨hP, hD, hS⟩ hl
theorem whole_start {p : Program} {e : Env} {s : State} {m : MethodId} {below : List Frame} {meth : Method} {c : Code} (l : Launch) (_hflags : l.flags = flags0) {b L : Nat} {xs : Nat → Int32} (hL : L ≤ 2560) (C0 : lw_At p s m meth c b L xs) : W p l e room_1 s m #[Value.ref b] below meth c s.heap [] 0 0 (lw_Z below #[Value.ref b] s) (entryFrame m ([Value.ref b] : List Value).toArray 4) := by
  obtain ⟨hx, hb, hr, hml, hown, hts, hX, hbl, hlocks, hgv⟩ := C0
  have htb : ∀ w ∈ fb_tb, w.before #[Value.ref b] s = true := fun w hw => hts w (fb_sub w hw)
  obtain ⟨D, hK⟩ := lw_D hts
  have F : CallFix p m c cL_law 4 s #[Value.ref b] fb_tb RL := ⟨hx, hb, hml, hown, htb⟩
  have hl := lv_entry ([.ref b]) (n := 4) (Nat.le_of_ble_eq_true rfl)
  rw [lg_entry_eq]
  generalize (lg_sl ([.ref b]) ++ List.replicate (4 - (lg_sl ([.ref b])).length) Slot.unset).toArray = ls at hl ⊢
  exact lw_one ⟨F, hr, hlocks, hK, lw_NN hts, hX, hbl, hL⟩ hl
