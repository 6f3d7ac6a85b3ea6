/-! ===== Math, arraycopy, fill ===== -/
def fb_LM (own : String) (index : Nat) (y : MethodName) (cc : ByteArray) (nL : Nat) : Prop :=
  (Cond.methodLink own index y ∈ fb_tb) ∧ (Cond.static y ∈ fb_tb) ∧ (Cond.initialized "java/lang/Math" ∈ fb_tb) ∧ (Cond.code y cc nL (some .int) ∈ fb_tb)
def fb_LC (own : String) (index : Nat) : Prop :=
  (Cond.methodLink own index arraycopyName ∈ fb_tb) ∧ (Cond.native arraycopyName ∈ fb_tb) ∧ (Cond.static arraycopyName ∈ fb_tb) ∧ (Cond.initialized "java/lang/System" ∈ fb_tb)
theorem fb_arrV_cong {cI : ClassId} {N : Nat} {f g : Nat → Value} (h : ∀ j, j < N → f j = g j) : arrV cI N f = arrV cI N g := by
  have : (fun j : Fin N => f j.val) = fun j => g j.val := funext fun j => h j.val j.isLt
  unfold arrV
  rw [this]
theorem fb_Wd_cong {G : fb_G} {s : State} {σ : fb_St} {H : Heap} {locs : List Loc} {k n : Nat} {r r' : Int → Int} (hk : (fb_cl G)[k]? = some (fb_arI G n)) (he : ∀ j : Int, 0 ≤ j → j < n → r j = r' j) (hr : ∀ j, fb_in (r' j)) (w : fb_Wd G s (fb_row σ k r) H locs) (hs : ∀ k i, fb_in (σ k i)) : fb_Wd G s (fb_row σ k r') H locs := by
  have e1 := fb_W_set (σ := σ) hk r
  have e2 := fb_W_set (σ := σ) hk r'
  have hat := fb_W_at (σ := σ) hk
  obtain ⟨a1, a2, a3, a4⟩ := w
  rw [← e1] at a1 a2
  refine ⟨?_, ?_, a3, fb_row_in hs hr⟩
  · rw [← e2]
    intro q c hq
    rw [List.getElem?_set] at hq
    by_cases h : k = q
    · subst h
      rw [if_pos rfl] at hq
      split at hq
      · rename_i hl
        cases hq
        have h1 := a1 k (fb_ad G k, fb_arI G n r) (by rw [List.getElem?_set, if_pos rfl, if_pos hl])
        have h2 : H[fb_ad G k]? = some (vp_cell G.2.2.1 (n, .inl fun j => fb_I (r (j : Int)))) := h1
        have h3 : vp_cell G.2.2.1 (n, .inl fun j => fb_I (r (j : Int))) = vp_cell G.2.2.1 (n, .inl fun j => fb_I (r' (j : Int))) := by
          rw [vp_cell_i, vp_cell_i]
          exact fb_arrV_cong (fun j hj => by rw [he j (by omega) (by omega)])
        rw [h3] at h2
        exact h2
      · cases hq
    · rw [if_neg h] at hq
      exact a1 q c (by rw [List.getElem?_set, if_neg h]; exact hq)
  · rw [← e2]
    have hlen : k < (fb_W G σ).length := (List.getElem?_eq_some_iff.mp hat).1
    refine ⟨?_, ?_⟩
    · intro i j x y hx hy hxy
      obtain ⟨_, hx2⟩ := fb_W_addr (σ := fb_row σ k r') (by rw [← e2]; exact hx)
      obtain ⟨_, hy2⟩ := fb_W_addr (σ := fb_row σ k r') (by rw [← e2]; exact hy)
      have hg : ∀ (i : Nat) (x : Nat × va_E), ((fb_W G σ).set k (fb_ad G k, fb_arI G n r'))[i]? = some x → ∃ x', ((fb_W G σ).set k (fb_ad G k, fb_arI G n r))[i]? = some x' ∧ x'.1 = x.1 := by
        intro i x hx
        rw [List.getElem?_set] at hx
        rw [List.getElem?_set]
        by_cases h : k = i
        · rw [if_pos h] at hx ⊢
          split at hx
          · rename_i hl; rw [if_pos hl]; cases hx; exact ⟨_, rfl, rfl⟩
          · rename_i hl; exact absurd hlen hl
        · rw [if_neg h] at hx ⊢; exact ⟨x, hx, rfl⟩
      obtain ⟨x', h1, h2⟩ := hg i x hx
      obtain ⟨y', h3, h4⟩ := hg j y hy
      exact a2.1 i j x' y' h1 h3 (by rw [h2, h4]; exact hxy)
    · intro i x hx
      obtain ⟨h1, h2⟩ := fb_W_addr (σ := fb_row σ k r') (by rw [← e2]; exact hx)
      exact Or.inl ⟨i, h1, h2⟩
section FBJ
variable {p : Program} {l : Launch} {e : Env} {R : Room} {s : State} {m : MethodId} {args : Array Value} {below : List Frame} {meth : Method} {c : Code} {H : Heap} {locs : List Loc} {cells slots : Nat} {Q : State → Prop}
variable {cc : ByteArray} {pc nL : Nat} {ls : Array Slot} {rest : List Value} {own : String} {G : fb_G} {σ : fb_St}
theorem fb_mmax (C : fb_C p s m args meth c G own cc nL) {a b : Int} (ia : fb_in a) (ib : fb_in b) {index : Nat} (ml : fb_LM own index Lib.Math.max.name Lib.Math.max.code 2) (hR : 1 ≤ R.frames ∧ (rest.map fun v => v.category).sum + 13 ≤ R.locals ∧ cells ≤ R.cells ∧ slots ≤ R.slots) (hl : ls.size = nL) (hdg : decode cc pc = .ok (.invokestatic index, 3))
    (kk : W p l e R s m args below meth c H locs cells slots Q (F0 m (pc + 3) ls (.int (fb_I (max a b)) :: rest))) : W p l e R s m args below meth c H locs cells slots Q (F0 m pc ls (.int (fb_I b) :: .int (fb_I a) :: rest)) := by
  refine va_mmax C.1.1 C.1.2.1 (C.1.2.2.1.trans hl.symm) C.1.2.2.2.1 (C.1.2.2.2.2 _ ml.1) (C.1.2.2.2.2 _ ml.2.1) (C.1.2.2.2.2 _ ml.2.2.1) (C.1.2.2.2.2 _ ml.2.2.2) hR.1 hR.2.1 hR.2.2.1 hR.2.2.2 hdg ?_
  have e1 : (if fb_I a < fb_I b then fb_I b else fb_I a) = fb_I (max a b) := by
    by_cases h : a < b
    · rw [if_pos ((fb_I_lt ia ib).mpr h), show max a b = b by omega]
    · rw [if_neg (fun q => h ((fb_I_lt ia ib).mp q)), show max a b = a by omega]
  rw [e1]
  exact kk
theorem fb_mmin (C : fb_C p s m args meth c G own cc nL) {a b : Int} (ia : fb_in a) (ib : fb_in b) {index : Nat} (ml : fb_LM own index Lib.Math.min.name Lib.Math.min.code 2) (hR : 1 ≤ R.frames ∧ (rest.map fun v => v.category).sum + 13 ≤ R.locals ∧ cells ≤ R.cells ∧ slots ≤ R.slots) (hl : ls.size = nL) (hdg : decode cc pc = .ok (.invokestatic index, 3))
    (kk : W p l e R s m args below meth c H locs cells slots Q (F0 m (pc + 3) ls (.int (fb_I (min a b)) :: rest))) : W p l e R s m args below meth c H locs cells slots Q (F0 m pc ls (.int (fb_I b) :: .int (fb_I a) :: rest)) := by
  refine va_mmin C.1.1 C.1.2.1 (C.1.2.2.1.trans hl.symm) C.1.2.2.2.1 (C.1.2.2.2.2 _ ml.1) (C.1.2.2.2.2 _ ml.2.1) (C.1.2.2.2.2 _ ml.2.2.1) (C.1.2.2.2.2 _ ml.2.2.2) hR.1 hR.2.1 hR.2.2.1 hR.2.2.2 hdg ?_
  have e1 : (if fb_I b < fb_I a then fb_I b else fb_I a) = fb_I (min a b) := by
    by_cases h : b < a
    · rw [if_pos ((fb_I_lt ib ia).mpr h), show min a b = b by omega]
    · rw [if_neg (fun q => h ((fb_I_lt ib ia).mp q)), show min a b = a by omega]
  rw [e1]
  exact kk
theorem fb_mabs (C : fb_C p s m args meth c G own cc nL) {a : Int} (ia : fb_in a) {index : Nat} (ml : fb_LM own index Lib.Math.abs.name Lib.Math.abs.code 1) (hR : 1 ≤ R.frames ∧ (rest.map fun v => v.category).sum + 13 ≤ R.locals ∧ cells ≤ R.cells ∧ slots ≤ R.slots) (hl : ls.size = nL) (hdg : decode cc pc = .ok (.invokestatic index, 3))
    (kk : W p l e R s m args below meth c H locs cells slots Q (F0 m (pc + 3) ls (.int (fb_I (max a (-a))) :: rest))) : W p l e R s m args below meth c H locs cells slots Q (F0 m pc ls (.int (fb_I a) :: rest)) := by
  refine va_mabs C.1.1 C.1.2.1 (C.1.2.2.1.trans hl.symm) C.1.2.2.2.1 (C.1.2.2.2.2 _ ml.1) (C.1.2.2.2.2 _ ml.2.1) (C.1.2.2.2.2 _ ml.2.2.1) (C.1.2.2.2.2 _ ml.2.2.2) hR.1 hR.2.1 hR.2.2.1 hR.2.2.2 hdg ?_
  have e1 : (if (0 : Int32) ≤ fb_I a then fb_I a else 0 - fb_I a) = fb_I (max a (-a)) := by
    rw [fb_I_0]
    by_cases h : 0 ≤ a
    · rw [if_pos ((fb_I_le fb_in0 ia).mpr h), show max a (-a) = a by omega]
    · rw [if_neg (fun q => h ((fb_I_le fb_in0 ia).mp q)), fb_I_sub, show max a (-a) = 0 - a by omega]
  rw [e1]
  exact kk
theorem fb_copy (C : fb_C p s m args meth c G own cc nL) (w : fb_Wd G s σ H locs) {ka kb na nb : Nat} (hka : (fb_cl G)[ka]? = some (fb_arI G na)) (hkb : (fb_cl G)[kb]? = some (fb_arI G nb)) {n : Int} (h0 : 0 ≤ n) (h1 : n ≤ na) (h2 : n ≤ nb) (hn : na < 2147483648) {index : Nat} (ml : fb_LC own index)
    (hR : 1 ≤ R.frames ∧ (rest.map fun v => v.category).sum + (nativeFrameWords "java/lang/System" "arraycopy" 5 + 11) ≤ R.locals) (hl : ls.size = nL) (hdg : decode cc pc = .ok (.invokestatic index, 3))
    (kk : ∀ (H1 : Heap) (locs1 : List Loc), fb_Wd G s (fb_cp σ ka kb n) H1 locs1 → W p l e R s m args below meth c H1 locs1 cells slots Q (F0 m (pc + 3) ls rest)) : W p l e R s m args below meth c H locs cells slots Q (F0 m pc ls (.int (fb_I n) :: .int (fb_I 0) :: .ref (fb_ad G kb) :: .int (fb_I 0) :: .ref (fb_ad G ka) :: rest)) := by
  have hz : (fb_I 0).toNatClampNeg = 0 := by decide
  have hnn : (fb_I n).toNatClampNeg = n.toNat := fb_I_nat h0 (by omega)
  refine va_copyi (ty := .int) C.1.1 C.1.2.1 (C.1.2.2.1.trans hl.symm) C.1.2.2.2.1 (C.1.2.2.2.2 _ ml.1) (C.1.2.2.2.2 _ ml.2.1) (C.1.2.2.2.2 _ ml.2.2.1) (C.1.2.2.2.2 _ ml.2.2.2) C.2.2 w.1 w.2.1 w.2.2.1 ka kb 0 0 (fb_W_at hka) (fb_W_at hkb) rfl rfl rfl (by decide) (by decide) (by rw [fb_I_0, fb_I_lt ⟨by omega, by omega⟩ fb_in0]; omega) (by rw [hz, hnn]; omega) (by rw [hz, hnn]; omega) (fun i hi => rfl) hR.1 hR.2 hdg (fun H1 locs1 a1 a2 a3 => ?_)
  have hu : va_cpy (fun j : Nat => fb_I (σ ka (j : Int))) (fun j : Nat => fb_I (σ kb (j : Int))) (fb_I 0).toNatClampNeg (fb_I 0).toNatClampNeg (fb_I n).toNatClampNeg = fun j : Nat => fb_I ((fun q => if 0 ≤ q ∧ q < n then σ ka q else σ kb q) (j : Int)) := by
    rw [hz, hnn]
    funext j
    by_cases h : j < n.toNat
    · rw [pk_cpy_in (by omega) (by omega)]
      have : (0 ≤ (j : Int) ∧ (j : Int) < n) := by omega
      simp [this]
    · rw [pk_cpy_out (by omega)]
      have : ¬ (0 ≤ (j : Int) ∧ (j : Int) < n) := by omega
      simp only [this, if_false]
  have he : (fb_W G σ).set kb (fb_ad G kb, Sum.inl (G.2.2.1, nb, Sum.inl fun j : Nat => fb_I ((fun q => if 0 ≤ q ∧ q < n then σ ka q else σ kb q) (j : Int)))) = fb_W G (fb_cp σ ka kb n) := fb_W_set hkb (fun q => if 0 ≤ q ∧ q < n then σ ka q else σ kb q)
  rw [hu, he] at a1 a2
  exact kk H1 locs1 ⟨a1, a2, a3, fb_row_in w.2.2.2 (fun j => by split; exact w.2.2.2 ka j; exact w.2.2.2 kb j)⟩
end FBJ
def rm_fill : Room := { frames := 0, cells := 0, slots := 0, locals := 0 }
theorem fb_fill_loop {p : Program} {l : Launch} {e : Env} {s : State} {m : MethodId} {args : Array Value} {below : List Frame} {meth : Method} {c : Code} {Qm : State → Prop} {Qp : Int → fb_St → Prop} {G : fb_G} {k n : Nat} (C : fb_C p s m args meth c G RJ7 cJ7_fill_53178 4) (hret : fb_RV p l e rm_fill s m args below meth c G cJ7_fill_53178 Qm Qp) (hk : (fb_cl G)[k]? = some (fb_arI G n)) (hn : n < 2147483648) {v : Int} (iv : fb_in v) {σ : fb_St} (hq : Qp 0 (fb_fill σ k v)) (hs : ∀ k i, fb_in (σ k i)) :
    ∀ (d i : Nat), i ≤ n → n ≤ i + d → ∀ (H : Heap) (locs : List Loc) (ls : Array Slot), fb_Wd G s (fb_row σ k (fun j => if 0 ≤ j ∧ j < i then v else σ k j)) H locs → lv_has ls 4 [(0, .ref (fb_ad G k)), (1, .int (fb_I v)), (2, .int (fb_I i)), (3, .int (fb_I n))] → W p l e rm_fill s m args below meth c H locs 0 0 Qm (F0 m 5 ls []) := by
  intro d
  induction d with
  | zero =>
    intro i h1 h2 H locs ls w hl
    have : i = n := by omega
    subst this
    refine lv_iload_n C.1.1 C.1.2.1 dJ7_fill_53178_5 rfl (lv_at hl 2 rfl) ?_
    refine lv_iload_n C.1.1 C.1.2.1 dJ7_fill_53178_6 rfl (lv_at hl 3 rfl) ?_
    refine fb_icmp_ge (tgt := 20) C ⟨by omega, by omega⟩ ⟨by omega, by omega⟩ dJ7_fill_53178_7 (by decide) (fun c1 => ?_) (fun c1 => ?_)
    · exact hret _ _ _ _ _ hq (fb_Wd_cong hk (fun j h1 h2 => by rw [if_pos ⟨h1, h2⟩]) (fun _ => iv) w hs) dJ7_fill_53178_20
    · exact absurd c1 (by omega)
  | succ d ih =>
    intro i h1 h2 H locs ls w hl
    refine lv_iload_n C.1.1 C.1.2.1 dJ7_fill_53178_5 rfl (lv_at hl 2 rfl) ?_
    refine lv_iload_n C.1.1 C.1.2.1 dJ7_fill_53178_6 rfl (lv_at hl 3 rfl) ?_
    refine fb_icmp_ge (tgt := 20) C ⟨by omega, by omega⟩ ⟨by omega, by omega⟩ dJ7_fill_53178_7 (by decide) (fun c1 => ?_) (fun c1 => ?_)
    · exact hret _ _ _ _ _ hq (fb_Wd_cong hk (fun j h1 h2 => by rw [if_pos ⟨h1, by omega⟩]) (fun _ => iv) w hs) dJ7_fill_53178_20
    · refine lv_aload_n C.1.1 C.1.2.1 dJ7_fill_53178_10 rfl (lv_at hl 0 rfl) ?_
      refine lv_iload_n C.1.1 C.1.2.1 dJ7_fill_53178_11 rfl (lv_at hl 2 rfl) ?_
      refine lv_iload_n C.1.1 C.1.2.1 dJ7_fill_53178_12 rfl (lv_at hl 1 rfl) ?_
      refine fb_ast C w hk iv (by omega) (by omega) hn dJ7_fill_53178_13 (fun H1 locs1 w1 => ?_)
      refine fb_iinc (b := ((i + 1 : Nat) : Int)) (k := 2) (lv' := [(2, .int (fb_I ((i + 1 : Nat) : Int))), (0, .ref (fb_ad G k)), (1, .int (fb_I v)), (3, .int (fb_I n))]) C dJ7_fill_53178_14 hl rfl (by omega) (by decide) rfl (fun ls hl => ?_)
      refine lv_goto (tgt := 5) C.1.1 C.1.2.1 dJ7_fill_53178_17 (by decide) ?_
      refine ih (i + 1) (by omega) (by omega) H1 locs1 ls ?_ (lv_sub hl [1, 2, 0, 3] rfl)
      have e1 : fb_up (fb_row σ k (fun j => if 0 ≤ j ∧ j < (i : Int) then v else σ k j)) k i v = fb_row σ k (fun j => if 0 ≤ j ∧ j < ((i + 1 : Nat) : Int) then v else σ k j) := by
        funext k' j
        simp only [fb_up, fb_row]
        by_cases hk' : k' = k
        · simp only [hk', if_true]
          by_cases hj : j = (i : Int)
          · have : 0 ≤ j ∧ j < ((i + 1 : Nat) : Int) := by omega
            rw [if_pos hj, if_pos this]
          · rw [if_neg hj]
            by_cases h : 0 ≤ j ∧ j < (i : Int)
            · rw [if_pos h, if_pos (by omega)]
            · rw [if_neg h, if_neg (by omega)]
        · simp only [hk', if_false]
      rw [← e1]
      exact w1
theorem fb_fillM (l : Launch) (G : fb_G) {k n : Nat} (hk : (fb_cl G)[k]? = some (fb_arI G n)) (hn : n < 2147483648) {v : Int} (iv : fb_in v) {σ : fb_St} {Qp : Int → fb_St → Prop} (hq : Qp 0 (fb_fill σ k v)) : fb_MV l G yJ7_fill_53178 cJ7_fill_53178 4 rm_fill [.ref (fb_ad G k), .int (fb_I v)] σ Qp := by
  refine fb_ofW (own := RJ7) (by decide) (Nat.le_of_ble_eq_true rfl) rfl (fun p e s m args below meth c ls C hr hl w => ?_)
  have hret := fb_retv (p := p) (l := l) (e := e) (R := rm_fill) (below := below) (Qp := Qp) C hr
  refine fb_iconst C dJ7_fill_53178_0 ?_
  refine lv_istore_n (lv' := [(2, .int (fb_I 0)), (0, .ref (fb_ad G k)), (1, .int (fb_I v))]) C.1.1 C.1.2.1 dJ7_fill_53178_1 rfl hl (by decide) rfl (fun ls hl => ?_)
  refine lv_aload_n C.1.1 C.1.2.1 dJ7_fill_53178_2 rfl (lv_at hl 1 rfl) ?_
  refine va_alen (v := fb_I n) C.1.1 C.1.2.1 C.2.2 w.1 k 0 (fb_W_at hk) rfl (fb_I_ofNat n) dJ7_fill_53178_3 ?_
  refine lv_istore_n (lv' := [(3, .int (fb_I n)), (2, .int (fb_I 0)), (0, .ref (fb_ad G k)), (1, .int (fb_I v))]) C.1.1 C.1.2.1 dJ7_fill_53178_4 rfl hl (by decide) rfl (fun ls hl => ?_)
  refine fb_fill_loop C hret hk hn iv hq w.2.2.2 n 0 (Nat.zero_le n) (by omega) _ _ ls ?_ (lv_sub hl [2, 3, 1, 0] rfl)
  have e1 : fb_row σ k (fun j => if 0 ≤ j ∧ j < ((0 : Nat) : Int) then v else σ k j) = σ := by
    funext k' j
    simp only [fb_row]
    by_cases hk' : k' = k
    · rw [if_pos hk', if_neg (by omega), hk']
    · rw [if_neg hk']
  rw [e1]
  exact w
