section LWL
variable {p : Program} {l : Launch} {e : Env} {s : State} {m : MethodId} {below : List Frame} {meth : Method} {c : Code} {G : fb_G} {b L : Nat} {xs : Nat → Int32}
/-- the law's loop -/
theorem lw_loop (I : lw_In p s m meth c G b L xs) (hr : meth.sig.returnType = ret) : ∀ (n : Nat) (i : Int) (σ : fb_St) (H : Heap) (locs : List Loc) (ls : Array Slot), 0 ≤ i → (L : Int) + 5 < i + 5 * n → i ≤ (L : Int) + 5 → iv_ σ → fb_Wd G s σ H locs → lw_L G b i ls → lw_W p l e s m below meth c b H locs (F0 m 18 ls []) := by
  obtain ⟨C, hX, hbl, hA, hL⟩ := id I
  have hb := lw_nb I
  intro n
  induction n with
  | zero => intro i σ H locs ls h0 h1 h2; omega
  | succ n ih =>
    intro i σ H locs ls h0 h1 h2 hiv w hl
    refine lv_iload_n C.1.1 C.1.2.1 dL_law_18 rfl (lv_at hl 0 rfl) ?_
    refine lv_aload_n C.1.1 C.1.2.1 dL_law_19 rfl (lv_at hl 3 rfl) ?_
    refine lw_len C w hX hbl hb dL_law_20 ?_
    refine fb_iconst C dL_law_21 ?_
    refine fb_isub C dL_law_22 ?_
    refine fb_icmp_gt (tgt := 743) C (by omega) (by omega) dL_law_23 (by decide) (fun q => ?_) (fun q => ?_)
    · refine lv_iconst (v := 1) C.1.1 C.1.2.1 dL_law_743 (by decide) ?_
      refine va_forget (fun q hq => hA _ (w.2.2.1.2.2 q hq)) ?_
      exact lw_ret C.1.1 C.1.2.1 hr C.2.1.1.1 dL_law_744
    · have h5 : i ≤ (L : Int) - 5 := by omega
      refine lv_aload_n C.1.1 C.1.2.1 dL_law_26 rfl (lv_at hl 3 rfl) ?_
      refine lv_iload_n C.1.1 C.1.2.1 dL_law_27 rfl (lv_at hl 0 rfl) ?_
      refine lw_ld C w hX hbl hb hL h0 (by omega) dL_law_28 ?_
      refine fb_bipush C dL_law_29 (by decide) ?_
      refine lv_iand C.1.1 C.1.2.1 dL_law_31 ?_
      have back : ∀ (σ : fb_St) (H : Heap) (locs : List Loc), iv_ σ → fb_Wd G s σ H locs → lw_W p l e s m below meth c b H locs (F0 m 737 ls []) := fun σ H locs hiv w => by
        refine fb_iinc (b := i + 5) (lv' := [(3, .int (fb_I (i + 5))), (2, .ref (fb_ad G 48)), (1, .ref (fb_ad G 0)), (0, .ref b)]) C dL_law_737 hl (k := 0) rfl rfl (by decide) rfl (fun ls hl => ?_)
        refine lv_goto (tgt := 18) C.1.1 C.1.2.1 dL_law_740 (by decide) ?_
        exact ih (i + 5) σ H locs ls (by omega) (by omega) (by omega) hiv w hl
      generalize ht : (fb_I (xs i.toNat).toInt &&& fb_I 31) = t
      have hc : t.toInt = 0 ∨ t.toInt = 1 ∨ t.toInt = 2 ∨ t.toInt = 3 ∨ t.toInt = 4 ∨ t.toInt = 5 ∨ t.toInt = 6 ∨ t.toInt = 7 ∨ t.toInt = 8 ∨ t.toInt = 9 ∨ t.toInt = 10 ∨ t.toInt = 11 ∨ t.toInt = 12 ∨ t.toInt = 13 ∨ t.toInt = 14 ∨ t.toInt = 15 ∨ t.toInt = 16 ∨ (t.toInt < 0 ∨ 16 < t.toInt) := by omega
      rcases hc with q | q | q | q | q | q | q | q | q | q | q | q | q | q | q | q | q | q
      · exact lv_tableIn (off := 84) (tgt := 116) C.1.1 C.1.2.1 dL_law_32 (by rw [q]; decide) (by rw [q]; decide) (by rw [q]; rfl) (by decide) (lk_land I w hiv h0 h5 hl back)
      · exact lv_tableIn (off := 117) (tgt := 149) C.1.1 C.1.2.1 dL_law_32 (by rw [q]; decide) (by rw [q]; decide) (by rw [q]; rfl) (by decide) (lk_wave I w hiv h0 h5 hl back)
      · exact lv_tableIn (off := 170) (tgt := 202) C.1.1 C.1.2.1 dL_law_32 (by rw [q]; decide) (by rw [q]; decide) (by rw [q]; rfl) (by decide) (lk_heap I w hiv h0 h5 hl back)
      · exact lv_tableIn (off := 223) (tgt := 255) C.1.1 C.1.2.1 dL_law_32 (by rw [q]; decide) (by rw [q]; decide) (by rw [q]; rfl) (by decide) (lk_put I w hiv h0 h5 hl back)
      · exact lv_tableIn (off := 266) (tgt := 298) C.1.1 C.1.2.1 dL_law_32 (by rw [q]; decide) (by rw [q]; decide) (by rw [q]; rfl) (by decide) (lk_mark I w hiv h0 h5 hl back)
      · exact lv_tableIn (off := 309) (tgt := 341) C.1.1 C.1.2.1 dL_law_32 (by rw [q]; decide) (by rw [q]; decide) (by rw [q]; rfl) (by decide) (lk_pits I w hiv h0 h5 hl back)
      · exact lv_tableIn (off := 322) (tgt := 354) C.1.1 C.1.2.1 dL_law_32 (by rw [q]; decide) (by rw [q]; decide) (by rw [q]; rfl) (by decide) (lk_dot I w hiv h0 h5 hl back)
      · exact lv_tableIn (off := 365) (tgt := 397) C.1.1 C.1.2.1 dL_law_32 (by rw [q]; decide) (by rw [q]; decide) (by rw [q]; rfl) (by decide) (lk_bound I w hiv h0 h5 hl back)
      · exact lv_tableIn (off := 398) (tgt := 430) C.1.1 C.1.2.1 dL_law_32 (by rw [q]; decide) (by rw [q]; decide) (by rw [q]; rfl) (by decide) (lk_basin I w hiv h0 h5 hl back)
      · exact lv_tableIn (off := 431) (tgt := 463) C.1.1 C.1.2.1 dL_law_32 (by rw [q]; decide) (by rw [q]; decide) (by rw [q]; rfl) (by decide) (lk_pass I w hiv h0 h5 hl back)
      · exact lv_tableIn (off := 464) (tgt := 496) C.1.1 C.1.2.1 dL_law_32 (by rw [q]; decide) (by rw [q]; decide) (by rw [q]; rfl) (by decide) (lk_poured I w hiv h0 h5 hl back)
      · exact lv_tableIn (off := 497) (tgt := 529) C.1.1 C.1.2.1 dL_law_32 (by rw [q]; decide) (by rw [q]; decide) (by rw [q]; rfl) (by decide) (lk_tree I w hiv h0 h5 hl back)
      · exact lv_tableIn (off := 530) (tgt := 562) C.1.1 C.1.2.1 dL_law_32 (by rw [q]; decide) (by rw [q]; decide) (by rw [q]; rfl) (by decide) (lk_over I w hiv h0 h5 hl back)
      · exact lv_tableIn (off := 583) (tgt := 615) C.1.1 C.1.2.1 dL_law_32 (by rw [q]; decide) (by rw [q]; decide) (by rw [q]; rfl) (by decide) (lk_wet I w hiv h0 h5 hl back)
      · exact lv_tableIn (off := 636) (tgt := 668) C.1.1 C.1.2.1 dL_law_32 (by rw [q]; decide) (by rw [q]; decide) (by rw [q]; rfl) (by decide) (lk_count I w hiv h0 h5 hl back)
      · exact lv_tableIn (off := 659) (tgt := 691) C.1.1 C.1.2.1 dL_law_32 (by rw [q]; decide) (by rw [q]; decide) (by rw [q]; rfl) (by decide) (lk_image I w hiv h0 h5 hl back)
      · exact lv_tableIn (off := 682) (tgt := 714) C.1.1 C.1.2.1 dL_law_32 (by rw [q]; decide) (by rw [q]; decide) (by rw [q]; rfl) (by decide) (lk_restore I w hiv h0 h5 hl back)
      · exact lv_tableOut (tgt := 737) C.1.1 C.1.2.1 dL_law_32 q (by decide) (back σ H locs hiv w)
end LWL
