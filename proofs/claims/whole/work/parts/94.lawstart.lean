/-! ===== the law, from its entry ===== -/
theorem fb_sub : ∀ w ∈ fb_tb, w ∈ lw_tbl := fun w hw => (List.mem_filter.mp hw).1
theorem fb_tyof {t : FieldType} {args : Array Value} {s : State} (ht : ∀ C, t ≠ .object C) (h : (Cond.arrayClass t).before args s = true) : ∃ cA : ClassId, ArrOfT s cA t ∧ va_RA s cA t := by
  obtain ⟨c, k, comp, h1, h2, h3⟩ := Cond.arrayClass_spec h
  refine ⟨c, fun n z => ⟨fun k h => by cases h, k, h2, comp, h3⟩, ?_⟩
  cases t <;> first | exact h1 | exact absurd rfl (ht _)
theorem fb_tyoq {C : String} {args : Array Value} {s : State} (h : (Cond.arrayOver (.object C)).before args s = true) : ∃ cA : ClassId, ArrOfT s cA (.object C) ∧ va_RA s cA (.object C) := by
  obtain ⟨comp, c, k, h1, -, h2, h3, h4⟩ := Cond.arrayOver_spec h
  exact ⟨c, fun n z => ⟨fun k h => by cases h, k, h2, comp, h3⟩, k, comp, h2, h3, h1, h4⟩
theorem dfX6 : ∀ j, j < 11 → defaultValue (tyX6 j) = vp_V [.null, .null, .null, .null, .null, .null, fb_z, fb_z, fb_z, fb_z, fb_z] j := fun j hj => match j, hj with
  | 0, _ => rfl
  | 1, _ => rfl
  | 2, _ => rfl
  | 3, _ => rfl
  | 4, _ => rfl
  | 5, _ => rfl
  | 6, _ => rfl
  | 7, _ => rfl
  | 8, _ => rfl
  | 9, _ => rfl
  | 10, _ => rfl
  | n + 11, h => absurd h (by omega)
/-- the cells of the two objects, side by side -/
def ad2_ (ad u : Nat → Nat) : Nat → Nat := fun k => if k < 48 then ad k else u (k - 48)
def st2_ (σ : fb_St) : fb_St := fun k => if k < 48 then σ k else if k = 49 then md0_ else fun _ => 0
theorem fb_W67 (D : fb_D0) (ad u : Nat → Nat) (σ : fb_St) : fb_W (fb_G0 D (ad2_ ad u) 67) (st2_ σ) = fb_W (fb_G0 D ad 48) σ ++ wkX7 D.2.2.1 D.2.1 u := by
  rw [fb_W_eq, fb_W_eq]; unfold fb_cl fb_full; simp only [fb_ob_eq]; rfl
theorem st2_lt (σ : fb_St) {k : Nat} (h : k < 48) : st2_ σ k = σ k := by unfold st2_; rw [if_pos h]
theorem iv_0 {σ : fb_St} (h : n0_ σ) : iv_ (st2_ σ) := by
  obtain ⟨hf, g0, g1, g2, g4⟩ := h
  have z : ∀ k, k < 48 → k ≠ 1 → k ≠ 4 → ∀ i, st2_ σ k i = 0 := fun k hk h1 h4 i => by
    rw [st2_lt σ hk, hf k (by simp only [List.mem_cons, List.not_mem_nil, or_false]; omega)]; rfl
  have m9 : st2_ σ 49 = md0_ := rfl
  have mz : ∀ i, i ≠ 288 → i ≠ 289 → st2_ σ 49 i = 0 := fun i h1 h2 => by rw [m9]; unfold md0_; rw [if_neg h2, if_neg h1]
  refine iv_mk (σ := st2_ σ) (W := 8) (H := 8) ⟨by rw [st2_lt σ (by decide)]; exact g0, by rw [st2_lt σ (by decide)]; exact g1, by rw [st2_lt σ (by decide)]; exact g2, by decide, by decide, fun i _ _ => by rw [z 2 (by decide) (by decide) (by decide)]; decide, by rw [st2_lt σ (by decide)]; exact g4⟩ ⟨rfl, rfl, by decide, by decide, fun i i0 i1 => by rw [mz i (by omega) (by omega)]; decide, fun i i0 i1 => by rw [mz _ (by omega) (by omega)]; decide⟩ (fun i i0 i1 => ?_) ?_ ⟨?_, ?_⟩ (fun k _ => rfl) ⟨z 0 (by decide) (by decide) (by decide) 8, z 0 (by decide) (by decide) (by decide) 9, z 0 (by decide) (by decide) (by decide) 10⟩
  · rw [mz i (by omega) (by omega), mz (144 + i) (by omega) (by omega), z 2 (by decide) (by decide) (by decide), z 3 (by decide) (by decide) (by decide)]
    exact ⟨rfl, rfl⟩
  · rw [z 0 (by decide) (by decide) (by decide), z 0 (by decide) (by decide) (by decide), mz 290 (by decide) (by decide), mz 291 (by decide) (by decide)]
    decide
  · unfold im_
    rw [z 42 (by decide) (by decide) (by decide) 0]
    exact ⟨Or.inl rfl, rfl, fun q => by omega⟩
  · unfold im_
    rw [z 45 (by decide) (by decide) (by decide) 0]
    exact ⟨Or.inl rfl, rfl, fun q => by omega⟩
theorem lw_m7 {l : Launch} {D : fb_D0} {y : MethodName} {ws : List Cond} {rm : Room} {h0 ci : Nat} {dfs : List Value} {wX : ClassId → (Nat → Nat) → va_W} {mc ms sz : Nat} {Pc : Array Value → State → Prop} (h : Met l y ws rm Pc (cc_Qc D h0 ci dfs wX sz) mc ms (cc_A h0 ci dfs sz)) : Met l y ws rm Pc (va_Qv (fun u : Nat → Nat => u 0 = h0) (fun u t => va_P D.1 vwCl (wX D.2.1 u) t.heap ∧ va_D (cc_A h0 ci dfs sz) (wX D.2.1 u) ∧ True) (cc_A h0 ci dfs sz)) mc ms (cc_A h0 ci dfs sz) := by
  have e : va_Qv (fun u : Nat → Nat => u 0 = h0) (fun u t => va_P D.1 vwCl (wX D.2.1 u) t.heap ∧ va_D (cc_A h0 ci dfs sz) (wX D.2.1 u) ∧ True) (cc_A h0 ci dfs sz) = cc_Qc D h0 ci dfs wX sz := by
    unfold cc_Qc
    congr 1
    funext u t
    simp
  rw [e]; exact h
set_option maxHeartbeats 4000000 in
theorem whole_start {p : Program} {e : Env} {s : State} {m : MethodId} {below : List Frame} {meth : Method} {c : Code} (l : Launch) (hflags : l.flags = flags0) {b L : Nat} {xs : Nat → Int32} (hL : L ≤ 2560) (C0 : lw_At p s m meth c b L xs) : W p l e room_1 s m #[Value.ref b] below meth c s.heap [] 0 0 (lw_Z below #[Value.ref b] s) (entryFrame m ([Value.ref b] : List Value).toArray 4) := by
  obtain ⟨hx, hb, hr, hml, hown, hts, hX, hbl, hlocks, hgv⟩ := id C0
  have htb : ∀ w ∈ fb_tb, w.before #[Value.ref b] s = true := fun w hw => hts w (fb_sub w hw)
  have hA : ∀ q : Nat, s.heap.size ≤ q → (fun q : Nat => s.heap.size ≤ q) q := fun _ h => h
  obtain ⟨c0, iS0, hKn0⟩ := u_known (C := RX0) (T := TX0) (N := 5) (n := 5) htb fb_u0 (htb _ mi_tm_X0)
  obtain ⟨c1, iS1, hKn1⟩ := u_known (C := RX1) (T := TX1) (N := 7) (n := 7) htb fb_u1 (htb _ mi_tm_X1)
  obtain ⟨c2, iS2, hKn2⟩ := u_known (C := RX2) (T := TX2) (N := 4) (n := 4) htb fb_u2 (htb _ mi_tm_X2)
  obtain ⟨c3, iS3, hKn3⟩ := u_known (C := RX3) (T := TX3) (N := 12) (n := 12) htb fb_u3 (htb _ mi_tm_X3)
  obtain ⟨c4, iS4, hKn4⟩ := u_known (C := RX4) (T := TX4) (N := 3) (n := 3) htb fb_u4 (htb _ mi_tm_X4)
  obtain ⟨c5, iS5, hKn5⟩ := u_known (C := RX5) (T := TX5) (N := 6) (n := 6) htb fb_u5 (htb _ mi_tm_X5)
  obtain ⟨c6, iS6, hKn6⟩ := u_known (C := RX6) (T := TX6) (N := 11) (n := 11) htb fb_u6 (htb _ mi_tm_X6)
  obtain ⟨c7, iS7, hKn7⟩ := u_known (C := RX7) (T := TX7) (N := 20) (n := 20) htb fb_u7 (htb _ mi_tm_X7)
  obtain ⟨dC, dI, hKc⟩ : ∃ (dC : Nat → ClassId) (dI : Nat → Nat → Nat), ∀ (k : Nat) (q : vw_C), vwCl[k]? = some q → u_Kn s q.1 q.2.1 q.2.2 (dC k) (dI k) := by
    refine ⟨fun k => match k with | 0 => c0 | 1 => c1 | 2 => c2 | 3 => c3 | 4 => c4 | 5 => c5 | 6 => c6 | _ => c7, fun k => match k with | 0 => iS0 | 1 => iS1 | 2 => iS2 | 3 => iS3 | 4 => iS4 | 5 => iS5 | 6 => iS6 | _ => iS7, ?_⟩
    intro k q hq
    match k, hq with
    | 0, hq => cases hq; exact hKn0
    | 1, hq => cases hq; exact hKn1
    | 2, hq => cases hq; exact hKn2
    | 3, hq => cases hq; exact hKn3
    | 4, hq => cases hq; exact hKn4
    | 5, hq => cases hq; exact hKn5
    | 6, hq => cases hq; exact hKn6
    | 7, hq => cases hq; exact hKn7
    | k + 8, hq => simp [vwCl] at hq
  obtain ⟨cI, aI, rI⟩ := fb_tyof (t := .int) (fun C h => by cases h) (htb _ ma_int)
  obtain ⟨cZ, aZ, rZ⟩ := fb_tyof (t := .boolean) (fun C h => by cases h) (htb _ ma_bool)
  have hover : (Cond.arrayOver (.object "FloodBasins$Image")).before #[Value.ref b] s = true := hts _ (List.mem_of_getElem? (i := 219) (by decide +kernel))
  obtain ⟨cQ, aQ, rQ⟩ := fb_tyoq hover
  obtain ⟨D, hD0⟩ : ∃ D : fb_D0, D = ((dC, dI), cI, cZ, cQ) := ⟨_, rfl⟩
  have hK : va_K D.1 vwCl (fb_ty0 D) s := by
    subst hD0
    refine ⟨hKc, fun k q hq => ?_⟩
    match k, hq with
    | 0, hq => cases hq; exact ⟨aI, rI⟩
    | 1, hq => cases hq; exact ⟨aZ, rZ⟩
    | 2, hq => cases hq; exact ⟨aQ, rQ⟩
    | k + 3, hq => simp at hq
  have hNN : fb_NN s := ⟨⟨va_Nw.of rfl (hts (.methodLinkNest RX6 9 yX5_init RX6) (List.mem_of_getElem? (i := 69) (by decide +kernel))), va_Nw.of rfl (hts (.methodLinkNest RX6 18 yX4_init RX6) (List.mem_of_getElem? (i := 111) (by decide +kernel))), va_Nw.of rfl (hts (.methodLinkNest RX6 25 yX0_init RX6) (List.mem_of_getElem? (i := 128) (by decide +kernel))), va_Nw.of rfl (hts (.methodLinkNest RX6 32 yX3_init RX6) (List.mem_of_getElem? (i := 172) (by decide +kernel))), va_Nw.of rfl (hts (.methodLinkNest RX6 42 yX1_init RX6) (List.mem_of_getElem? (i := 221) (by decide +kernel))), va_Nw.of rfl (hts (.methodLinkNest RX0 26 yX2_init RX6) (List.mem_of_getElem? (i := 134) (by decide +kernel)))⟩, ⟨va_Nw.of rfl (hts (.methodLinkNest RX5 41 yX6_within RX6) (List.mem_of_getElem? (i := 258) (by decide +kernel))), va_Nw.of rfl (hts (.methodLinkNest RX4 41 yX6_within RX6) (List.mem_of_getElem? (i := 336) (by decide +kernel))), va_Nw.of rfl (hts (.methodLinkNest RX3 71 yX6_within RX6) (List.mem_of_getElem? (i := 501) (by decide +kernel)))⟩, va_AO.of hover⟩
  have F : CallFix p m c cL_law 4 s #[Value.ref b] fb_tb RL := ⟨hx, hb, hml, hown, htb⟩
  have hP : va_P D.1 vwCl [] s.heap := fun k q h => by simp at h
  have hD : va_D (fun q : Nat => s.heap.size ≤ q) [] := ⟨fun i j p q h => by simp at h, fun k q h => by simp at h⟩
  have hl := lv_entry ([.ref b]) (n := 4) (Nat.le_of_ble_eq_true rfl)
  rw [lg_entry_eq]
  generalize (lg_sl ([.ref b]) ++ List.replicate (4 - (lg_sl ([.ref b])).length) Slot.unset).toArray = ls at hl ⊢
  have hl : lv_has ls 4 [(0, .ref b)] := hl
  refine va_new (ci := 6) (fs := [.null, .null, .null, .null, .null, .null, fb_z, fb_z, fb_z, fb_z, fb_z]) (C := RX6) (T := TX6) (N := 11) hx hb htb fb_u6 tyX6 tyX6_ok hown (htb _ mk_XL_7) (htb _ mi_tm_X6) (htb _ mi_ini_X6) hK hP hD va_S.rf hA rfl dfX6 (Nat.le_of_ble_eq_true rfl) (Nat.le_of_ble_eq_true rfl) dL_law_0 (fun h0 H hP hD hS => ?_)
  refine lv_dup hx hb dL_law_3 rfl ?_
  refine lw_call (wr := []) (wY := fun u : (Nat → Nat) × fb_St => fb_W (fb_G0 D u.1 48) u.2) (B := fun u _ => ∀ k i, fb_in (u.2 k i)) (cells' := 48) (slots' := 5041) F hK hNN ⟨hP, hD, hS⟩ hA (ci_X6 l D h0) mj_XL_9 mi_code_X6 mi_inst_X6 mi_ini_X6 rfl (by decide +kernel) ⟨rfl, rfl⟩ [] rfl rfl hl.1 rfl rfl ⟨Nat.le_of_ble_eq_true rfl, Nat.le_of_ble_eq_true rfl, Nat.le_of_ble_eq_true rfl, Nat.le_of_ble_eq_true rfl⟩ (Nat.le_of_ble_eq_true rfl) dL_law_4 (fun u t H locs hu hin w => ?_)
  obtain ⟨ad, σ⟩ := u
  obtain ⟨had, hn0⟩ := hu
  have had : ad 0 = h0 := had
  clear hP hD hS
  subst had
  have w : fb_WW D (fun q : Nat => s.heap.size ≤ q) s (fb_W (fb_G0 D ad 48) σ) H locs := w
  refine lv_astore_n (lv' := [(1, .ref (ad 0)), (0, .ref b)]) hx hb dL_law_7 rfl hl (by decide) rfl (fun ls hl => ?_)
  refine va_new (ci := 7) (fs := [.null, .null, .null, .null, .null, .null, .null, .null, .null, .null, .null, fb_z, .null, .null, .null, .null, .null, fb_z, .null, .null]) (C := RX7) (T := TX7) (N := 20) hx hb htb fb_u7 tyX7 tyX7_ok hown (htb _ mk_XL_10) (htb _ mi_tm_X7) (htb _ mi_ini_X7) hK w.1 w.2.1 w.2.2 hA rfl dfX7 (Nat.le_of_ble_eq_true rfl) (Nat.le_of_ble_eq_true rfl) dL_law_8 (fun q H hP hD hS => ?_)
  refine lv_dup hx hb dL_law_11 rfl ?_
  refine lw_call (wr := fb_W (fb_G0 D ad 48) σ) (wY := fun u : Nat → Nat => wkX7 D.2.2.1 D.2.1 u) (post := fun u => u 0 = q) (B := fun _ _ => True) (cells' := 67) (slots' := 7879) F hK hNN ⟨hP, hD, hS⟩ hA (fun sz => lw_m7 (ci_X7 l D q sz)) mj_XL_12 mi_code_X7 mi_inst_X7 mi_ini_X7 rfl (by decide +kernel) ⟨rfl, rfl⟩ (List.range 48) (by decide +kernel) (by rw [fb_W_len, fb_len48]) hl.1 rfl rfl ⟨Nat.le_of_ble_eq_true rfl, Nat.le_of_ble_eq_true rfl, Nat.le_of_ble_eq_true rfl, Nat.le_of_ble_eq_true rfl⟩ (Nat.le_of_ble_eq_true rfl) dL_law_12 (fun u t2 H locs hu _ w => ?_)
  clear hP hD hS
  subst hu
  refine lv_astore_n (lv' := [(2, .ref (u 0)), (1, .ref (ad 0)), (0, .ref b)]) hx hb dL_law_15 rfl hl (by decide) rfl (fun ls hl => ?_)
  refine lv_iconst (v := fb_I 0) hx hb dL_law_16 (by decide) ?_
  refine lv_istore_n (lv' := [(3, .int (fb_I 0)), (2, .ref (u 0)), (1, .ref (ad 0)), (0, .ref b)]) hx hb dL_law_17 rfl hl (by decide) rfl (fun ls hl => ?_)
  rw [← fb_W67] at w
  have hin2 : ∀ k i, fb_in (st2_ σ k i) := fun k i => by
    unfold st2_
    split
    · exact hin k i
    · split
      · unfold md0_; split
        · decide
        · split <;> decide
      · decide
  have hAA : ∀ q, fb_A (fb_G0 D (ad2_ ad u) 67) s.heap.size q → s.heap.size ≤ q := fun q hq => by
    rcases hq with ⟨k, hk, rfl⟩ | hq
    · have hk2 : k < (fb_W (fb_G0 D (ad2_ ad u) 67) (st2_ σ)).length := by rw [fb_W_len]; exact hk
      obtain ⟨-, h2⟩ := fb_W_addr (List.getElem?_eq_getElem hk2)
      have := w.2.1.2 k _ (List.getElem?_eq_getElem hk2)
      rw [h2] at this
      exact this
    · exact hq
  have w2 : fb_Wd (fb_G0 D (ad2_ ad u) 67) s (st2_ σ) H locs := ⟨w.1, fb_D_A w.2.1 _, va_S_w w.2.2 (fun q h => Or.inr h), hin2⟩
  have C : fb_C p s m #[Value.ref b] meth c (fb_G0 D (ad2_ ad u) 67) RL cL_law 4 := ⟨F, ⟨⟨hlocks, hNN.2.1⟩, by decide⟩, hK⟩
  exact lw_loop ⟨C, hX, hbl, hAA, hL⟩ hr (L + 2) 0 (st2_ σ) H locs ls (Int.le_refl 0) (by omega) (by omega) (iv_0 hn0) w2 hl
