/-! ===== the law, from its entry ===== -/
theorem fb_sub : ∀ w ∈ fb_tb, w ∈ lw_tbl := fun w hw => (List.mem_filter.mp hw).1
theorem fb_tyof {t : FieldType} {args : Array Value} {s : State} (ht : ∀ C, t ≠ .object C) (h : (Cond.arrayClass t).before args s = true) : ∃ cA : ClassId, ArrOfT s cA t ∧ va_RA s cA t := by
  obtain ⟨c, k, comp, h1, h2, h3⟩ := Cond.arrayClass_spec h
  refine ⟨c, fun n z => ⟨(fun k h => by cases h), k, h2, comp, h3⟩, ?_⟩
  cases t <;> first | exact h1 | exact absurd rfl (ht _)
theorem fb_tyoq {C : String} {args : Array Value} {s : State} (h : (Cond.arrayOver (.object C)).before args s = true) : ∃ cA : ClassId, ArrOfT s cA (.object C) ∧ va_RA s cA (.object C) := by
  obtain ⟨comp, c, k, h1, -, h2, h3, h4⟩ := Cond.arrayOver_spec h
  exact ⟨c, fun n z => ⟨(fun k h => by cases h), k, h2, comp, h3⟩, k, comp, h2, h3, h1, h4⟩
theorem dfX6 : ∀ j, j < 11 → defaultValue (tyX6 j) = vp_V [.null, .null, .null, .null, .null, .null, fb_z, fb_z, fb_z, fb_z, fb_z] j := fun j hj => match j, hj with
  | 0, _ => rfl
  | 1, _ => rfl
  | 2, _ => rfl
  | 3, _ => rfl
  | 4, _ => rfl
  | 5, _ => rfl
  | 6, _ => rfl
  | 7, _ => rfl
  | 8, _ => rfl
  | 9, _ => rfl
  | 10, _ => rfl
  | n + 11, h => absurd h (by omega)
/-- the cells of the two objects, side by side -/
def ad2_ (ad u : Nat → Nat) : Nat → Nat := fun k => if k < 48 then ad k else u (k - 48)
def st2_ (σ : fb_St) : fb_St := fun k => if k < 48 then σ k else if k = 49 then md0_ else fun _ => 0
theorem ad2_q (D : fb_D0) (ad u : Nat → Nat) : fb_arQ (fb_G0 D (ad2_ ad u) 67) = fb_arQ (fb_G0 D ad 48) := by
  have e : (fun j : Nat => some (ad2_ ad u (if j = 0 then 42 else 45))) = fun j => some (ad (if j = 0 then 42 else 45)) := by funext j; split <;> rfl
  exact congrArg (fun g : Nat → Option Nat => (fun _ : Int → Int => (.inl (D.2.2.2, 2, .inr (.inr (.inr (.inr g)))) : va_E))) e
theorem fb_W67 (D : fb_D0) (ad u : Nat → Nat) (σ : fb_St) : fb_W (fb_G0 D (ad2_ ad u) 67) (st2_ σ) = fb_W (fb_G0 D ad 48) σ ++ wkX7 D.2.2.1 D.2.1 u := by
  rw [fb_W_eq, fb_W_eq]; unfold fb_cl fb_full; simp only [fb_ob_eq, ad2_q]; rfl
theorem st2_lt (σ : fb_St) {k : Nat} (h : k < 48) : st2_ σ k = σ k := by unfold st2_; rw [if_pos h]
theorem iv_0 {σ : fb_St} (h : n0_ σ) : iv_ (st2_ σ) := by
  obtain ⟨hf, g0, g1, g2, g4⟩ := h
  have z : ∀ k, k < 48 → k ≠ 1 → k ≠ 4 → ∀ i, st2_ σ k i = 0 := fun k hk h1 h4 i => by
    rw [st2_lt σ hk, hf k (by simp only [List.mem_cons, List.not_mem_nil, or_false]; omega)]; rfl
  have m9 : st2_ σ 49 = md0_ := rfl
  have mz : ∀ i, i ≠ 288 → i ≠ 289 → st2_ σ 49 i = 0 := fun i h1 h2 => by rw [m9]; unfold md0_; rw [if_neg h2, if_neg h1]
  refine iv_mk (σ := st2_ σ) (W := 8) (H := 8) ⟨by rw [st2_lt σ (by decide)]; exact g0, by rw [st2_lt σ (by decide)]; exact g1, by rw [st2_lt σ (by decide)]; exact g2, by decide, by decide, fun i _ _ => by rw [z 2 (by decide) (by decide) (by decide)]; decide, by rw [st2_lt σ (by decide)]; exact g4⟩ ⟨rfl, rfl, by decide, by decide, fun i i0 i1 => by rw [mz i (by omega) (by omega)]; decide, fun i i0 i1 => by rw [mz _ (by omega) (by omega)]; decide⟩ (fun i i0 i1 => ?_) ?_ ⟨?_, ?_⟩ (fun k _ => rfl) ⟨z 0 (by decide) (by decide) (by decide) 8, z 0 (by decide) (by decide) (by decide) 9, z 0 (by decide) (by decide) (by decide) 10⟩
  · rw [mz i (by omega) (by omega), mz (144 + i) (by omega) (by omega), z 2 (by decide) (by decide) (by decide), z 3 (by decide) (by decide) (by decide)]
    exact ⟨rfl, rfl⟩
  · rw [z 0 (by decide) (by decide) (by decide), z 0 (by decide) (by decide) (by decide), mz 290 (by decide) (by decide), mz 291 (by decide) (by decide)]
    decide
  · unfold im_
    rw [z 42 (by decide) (by decide) (by decide) 0]
    exact ⟨Or.inl rfl, rfl, fun q => by omega⟩
  · unfold im_
    rw [z 45 (by decide) (by decide) (by decide) 0]
    exact ⟨Or.inl rfl, rfl, fun q => by omega⟩
theorem lw_m7 {l : Launch} {D : fb_D0} {y : MethodName} {ws : List Cond} {rm : Room} {h0 ci : Nat} {dfs : List Value} {wX : ClassId → (Nat → Nat) → va_W} {mc ms sz : Nat} {Pc : Array Value → State → Prop} (h : Met l y ws rm Pc (cc_Qc D h0 ci dfs wX sz) mc ms (cc_A h0 ci dfs sz)) : Met l y ws rm Pc (va_Qv (fun u : Nat → Nat => u 0 = h0) (fun u t => va_P D.1 vwCl (wX D.2.1 u) t.heap ∧ va_D (cc_A h0 ci dfs sz) (wX D.2.1 u) ∧ True) (cc_A h0 ci dfs sz)) mc ms (cc_A h0 ci dfs sz) := by
  have e : va_Qv (fun u : Nat → Nat => u 0 = h0) (fun u t => va_P D.1 vwCl (wX D.2.1 u) t.heap ∧ va_D (cc_A h0 ci dfs sz) (wX D.2.1 u) ∧ True) (cc_A h0 ci dfs sz) = cc_Qc D h0 ci dfs wX sz := by
    unfold cc_Qc
    congr 1
    funext u t
    simp
  rw [e]; exact h
