def hp_ (n st px py x y s : Int) : Int := min (max (if n < 0 then s - max (max n (-n) - st * (max (x - px) (-(x - px)) + max (y - py) (-(y - py)))) 0 else s + max (max n (-n) - st * (max (x - px) (-(x - px)) + max (y - py) (-(y - py)))) 0) 0) 99
theorem hp_b {n st px py x y s : Int} : 0 ≤ hp_ n st px py x y s ∧ hp_ n st px py x y s ≤ 99 := by unfold hp_; omega
theorem sm_size {x : Int} {σ : fb_St} {Q : Int → fb_St → Prop} (hx : -1000 ≤ x ∧ x ≤ 1000) (h : Q (max x (-x)) σ) : wp_X7_size x σ Q := by
  unfold wp_X7_size wj_X7_size_10
  refine ⟨fun q => ⟨by omega, ?_⟩, fun q => ?_⟩
  · have : max x (-x) = -x := by omega
    rw [this] at h; exact h
  · have : max x (-x) = x := by omega
    rw [this] at h; exact h
section HEA
variable {W H : Int} {σ : fb_St}
theorem sp_raise {px py n st : Int} (ht : tv_ W H σ) (hp : 0 ≤ px ∧ px < W ∧ 0 ≤ py ∧ py < H) (hn : -99 ≤ n ∧ n ≤ 99) (hs : 0 ≤ st ∧ st ≤ 50) {Q : Int → fb_St → Prop}
    (hq : ∀ σ', fr_ [2] σ σ' → (∀ j, 0 ≤ j → j < W * H → σ' 2 j = hp_ n st px py (j % W) (j / W) (σ 2 j)) → (∀ j, W * H ≤ j → σ' 2 j = σ 2 j) → Q 0 σ') : wp_X5_raise px py n st σ Q := by
  obtain ⟨t0, t1, t2, hW, hH, t5, -⟩ := ht
  unfold wp_X5_raise
  refine fb_lp6 (fun a' b' c' m' y σ' => (px = a' ∧ py = b' ∧ n = c' ∧ st = m') ∧ 0 ≤ y ∧ y ≤ H ∧ fr_ [2] σ σ' ∧ (∀ j, 0 ≤ j → j < y * W → σ' 2 j = hp_ n st px py (j % W) (j / W) (σ 2 j)) ∧ ∀ j, y * W ≤ j → σ' 2 j = σ 2 j) (fun _ _ _ _ y _ => (200 - y).toNat) ?_ px py n st 0 σ ⟨⟨rfl, rfl, rfl, rfl⟩, Int.le_refl 0, by omega, fr_rf, fun j j0 j1 => by omega, fun _ _ => rfl⟩
  rintro a' b' c' m' y σ' ⟨⟨rfl, rfl, rfl, rfl⟩, y0, y1, hf, h1, h2⟩ r hr
  have e1 : σ' 1 = σ 1 := hf 1 (by decide)
  unfold wb_X5_raise_3
  rw [e1, t1]
  refine ⟨fun q => ?_, fun q => ?_⟩
  rotate_left
  · have : y = H := by omega
    subst this
    rw [Int.mul_comm y W] at h1 h2
    exact hq σ' hf h1 h2
  obtain ⟨n1, n2, n3⟩ := yx_ hW hH y0 q
  refine fb_lp7 (fun a' b' c' m' y' x σ'' => (px = a' ∧ py = b' ∧ n = c' ∧ st = m' ∧ y = y') ∧ 0 ≤ x ∧ x ≤ W ∧ fr_ [2] σ σ'' ∧ (∀ j, 0 ≤ j → j < y * W + x → σ'' 2 j = hp_ n st px py (j % W) (j / W) (σ 2 j)) ∧ ∀ j, y * W + x ≤ j → σ'' 2 j = σ 2 j) (fun _ _ _ _ _ x _ => (200 - x).toNat) ?_ px py n st y 0 σ' ⟨⟨rfl, rfl, rfl, rfl, rfl⟩, Int.le_refl 0, by omega, hf, fun j j0 j1 => h1 j j0 (by omega), fun j j0 => h2 j (by omega)⟩
  rintro a' b' c' m' y' x σ'' ⟨⟨rfl, rfl, rfl, rfl, rfl⟩, x0, x1, hf2, h3, h4⟩ r2 hr2
  have e2 : σ'' 1 = σ 1 := hf2 1 (by decide)
  unfold wb_X5_raise_15 wj_X5_raise_96
  rw [e2, t0]
  have hl : (y + 1) * W = y * W + W := by rw [Int.add_mul, Int.one_mul]
  refine ⟨fun q2 => ?_, fun q2 => ⟨by omega, hr _ _ _ _ _ _ ⟨⟨rfl, rfl, rfl, rfl⟩, by omega, by omega, hf2, fun j j0 j1 => h3 j j0 (by omega), fun j j0 => h4 j (by omega)⟩ (by omega)⟩⟩
  obtain ⟨d1, d2⟩ := dm_ (W := W) (x := x) (y := y) (by omega) x0 q2
  rw [Int.mul_comm W y] at d1 d2
  refine ⟨by omega, by omega, by omega, by omega, by omega, ?_⟩
  intro v hv
  have hv2 : 0 ≤ v ∧ v ≤ 22 := by omega
  have hm := mu_le (A := 50) (B := 22) hs.1 hv2.1 hs.2 hv2.2
  refine ⟨by omega, by omega, by omega, ?_⟩
  intro u hu
  have hu2 : 0 ≤ u ∧ u ≤ 99 := by omega
  refine ⟨by omega, by omega, ?_⟩
  intro w hw
  have hσ := t5 w (by omega) (by omega)
  have ew : σ'' 2 w = σ 2 w := h4 w (by omega)
  have fin : ∀ (g : Int), min (max g 0) 99 = hp_ n st px py x y (σ 2 w) → ∀ s : fb_St, s = fb_up σ'' 2 w (min (max g 0) 99) → fb_in (x + 1) ∧ r2 px py n st y (x + 1) s := fun g hg s hs' => by
    have e : ∀ j, s 2 j = if j = y * W + x then hp_ n st px py x y (σ 2 w) else σ'' 2 j := fun j => by rw [hs', up_eq, hg, hw]
    refine ⟨by omega, hr2 _ _ _ _ _ _ _ ⟨⟨rfl, rfl, rfl, rfl, rfl⟩, by omega, by omega, fr_tr hf2 (fr_u hs' (by decide)), fun j j0 j1 => ?_, fun j j0 => ?_⟩ (by omega)⟩
    · rw [e]
      by_cases hj : j = y * W + x
      · rw [if_pos hj, hj, d1, d2, hw]
      · rw [if_neg hj]; exact h3 j j0 (by omega)
    · rw [e, if_neg (by omega)]; exact h4 j (by omega)
  rw [ew]
  refine ⟨fun q3 => ⟨by omega, by omega, by omega, by omega, by omega, fin _ ?_⟩, fun q3 => ⟨by omega, by omega, by omega, by omega, by omega, fin _ ?_⟩⟩
  · unfold hp_; rw [if_pos q3, hu, hv]
  · unfold hp_; rw [if_neg q3, hu, hv]
theorem dt_is {x y : Int} (hW : 0 < W) : (dt_ W H x y = -1 ↔ ¬ (0 ≤ x ∧ x < W ∧ 0 ≤ y ∧ y < H)) ∧ (0 ≤ x ∧ x < W ∧ 0 ≤ y ∧ y < H → dt_ W H x y = y * W + x ∧ 0 ≤ y * W + x ∧ y * W + x < W * H) := by
  have key : 0 ≤ x ∧ x < W ∧ 0 ≤ y ∧ y < H → dt_ W H x y = y * W + x ∧ 0 ≤ y * W + x ∧ y * W + x < W * H := fun h => by
    have b := Int.mul_le_mul_of_nonneg_right (show y + 1 ≤ H by omega) (show 0 ≤ W by omega)
    have c := Int.mul_nonneg h.2.2.1 (show 0 ≤ W by omega)
    rw [Int.add_mul, Int.one_mul, Int.mul_comm H W] at b
    refine ⟨?_, by omega, by omega⟩
    unfold dt_; rw [if_pos h]
  refine ⟨⟨fun e h => ?_, fun h => ?_⟩, key⟩
  · have := key h; omega
  · unfold dt_; rw [if_neg h]
theorem op_heap {px py n st : Int} (h : iv_ σ) : wp_X6_heap px py n st σ (fun r σ1 => wp_X7_heap px py n st σ1 (fun r2 σ2 => r = r2 ∧ iv_ σ2)) := by
  obtain ⟨W, H, hb, hc⟩ := h
  have ht := hb.1
  have hm := hb.2.1
  have hw := tv_wh ht
  have no : ¬ ((0 ≤ px ∧ px < W ∧ 0 ≤ py ∧ py < H) ∧ (-99 ≤ n ∧ n ≤ 99) ∧ (0 ≤ st ∧ st ≤ 50)) → wp_X7_heap px py n st σ (fun r2 σ2 => (-2 : Int) = r2 ∧ iv_ σ2) := fun hn => by
    unfold wp_X7_heap wj_X7_heap_31
    have z : (-2 : Int) = -2 ∧ iv_ σ := ⟨rfl, W, H, hb, hc⟩
    exact sm_isDot hm (fun a1 => ⟨fun q => by omega, fun _ => sm_in (fun b1 b2 => ⟨fun q => by omega, fun _ => sm_in (fun c1 c2 => absurd ⟨a1, ⟨b1, b2⟩, c1, c2⟩ hn) (fun _ => ⟨fun _ => z, fun q => absurd rfl q⟩)⟩) (fun _ => ⟨fun _ => z, fun q => absurd rfl q⟩)⟩) (fun _ => ⟨fun _ => z, fun q => absurd rfl q⟩)
  unfold wp_X6_heap wj_X6_heap_26 wj_X6_heap_27 wj_X6_heap_47
  have low : ∀ s0 : Int, (s0 = 0 → ¬ ((-99 ≤ n ∧ n ≤ 99) ∧ (0 ≤ st ∧ st ≤ 50))) → (¬ s0 = 0 → (-99 ≤ n ∧ n ≤ 99) ∧ (0 ≤ st ∧ st ≤ 50)) → wj_X6_heap_27 (fun r σ1 => wp_X7_heap px py n st σ1 (fun r2 σ2 => r = r2 ∧ iv_ σ2)) px py n st s0 σ := fun s0 z1 z2 => by
    unfold wj_X6_heap_27 wj_X6_heap_47
    refine sp_dotAt2 ht.1 ht.2.1 ht.2.2.2.1 ht.2.2.2.2.1 ⟨fun q => no (fun z => (dt_is hw.1).1.mp q z.1), fun q => ⟨fun q2 => no (fun z => z1 q2 z.2), fun q2 => ?_⟩⟩
    clear no
    obtain ⟨hn, hs⟩ := z2 q2
    have hp : 0 ≤ px ∧ px < W ∧ 0 ≤ py ∧ py < H := Classical.byContradiction (fun z => q ((dt_is hw.1).1.mpr z))
    refine sp_raise ht hp hn hs (fun σ1 f1 g1 g2 => ?_)
    have hh : ∀ j, 0 ≤ j → j < 144 → 0 ≤ σ1 2 j ∧ σ1 2 j ≤ 99 := fun j j0 j1 => by
      by_cases q : j < W * H
      · rw [g1 j j0 q]; exact hp_b
      · rw [g2 j (by omega)]; exact ht.2.2.2.2.2.1 j j0 j1
    refine sp_pac (W := W) (H := H) ⟨by rw [f1 1 (by decide)]; exact ht.1, by rw [f1 1 (by decide)]; exact ht.2.1, by rw [f1 1 (by decide)]; exact ht.2.2.1, ht.2.2.2.1, ht.2.2.2.2.1, hh, by rw [f1 4 (by decide)]; exact ht.2.2.2.2.2.2⟩ (fun σ4 f4 c6 c7 c8 => ?_)
    have e49 : σ4 49 = σ 49 := by rw [f4 49 (by decide), f1 49 (by decide)]
    unfold wp_X7_heap wj_X7_heap_31
    refine sm_isDot (mv_eq hm e49) (fun _ => ⟨fun q => by omega, fun _ => sm_in (fun _ _ => ⟨fun q => by omega, fun _ => sm_in (fun _ _ => ⟨fun q => by omega, fun _ => ?_⟩) (fun z => absurd hs z)⟩) (fun z => absurd hn z)⟩) (fun z => absurd hp z)
    refine fb_lp6 (fun a' b' c' m' i σ' => (px = a' ∧ py = b' ∧ n = c' ∧ st = m') ∧ 0 ≤ i ∧ i ≤ W * H ∧ fr_ [49] σ4 σ' ∧ (∀ j, 0 ≤ j → j < i → σ' 49 j = hp_ n st px py (j % W) (j / W) (σ 2 j)) ∧ ∀ j, i ≤ j → σ' 49 j = σ 49 j) (fun _ _ _ _ i _ => (200 - i).toNat) ?_ px py n st 0 σ4 ⟨⟨rfl, rfl, rfl, rfl⟩, Int.le_refl 0, by omega, fr_rf, fun j j0 j1 => by omega, fun _ _ => by rw [e49]⟩
    rintro a' b' c' m' i σ' ⟨⟨rfl, rfl, rfl, rfl⟩, i0, i1, hf, h1, h2⟩ r hr
    have w0 : σ' 49 288 = W := by rw [h2 _ (by omega)]; exact hb.2.1.1
    have w1 : σ' 49 289 = H := by rw [h2 _ (by omega)]; exact hb.2.1.2.1
    unfold wb_X7_heap_37 wp_X7_dots
    rw [w0, w1]
    refine ⟨by omega, fun q => ?_, fun q => ?_⟩
    · obtain ⟨-, x0, x1, y0, y1⟩ := xy_ hw.1 i0 q
      have hW := ht.2.2.2.1
      have hH := ht.2.2.2.2.1
      have es : σ' 49 i = σ 2 i := by rw [h2 i (by omega)]; exact (hb.2.2.1 i i0 (by omega)).1
      have hσ := ht.2.2.2.2.2.1 i i0 (by omega)
      rw [w0]
      generalize hX : i % W = X at x0 x1 ⊢
      refine ⟨i0, hw.1, by omega, by omega, sm_size (by omega) ?_⟩
      rw [w0]
      generalize hY : i / W = Y at y0 y1 ⊢
      refine ⟨i0, hw.1, by omega, by omega, sm_size (by omega) ⟨by omega, ?_⟩⟩
      intro v hv
      have hv2 : 0 ≤ v ∧ v ≤ 22 := by omega
      have hmm := mu_le (A := 50) (B := 22) hs.1 hv2.1 hs.2 hv2.2
      refine sm_size (by omega) ⟨by omega, by omega, sm_greater ⟨by omega, by omega, ?_⟩⟩
      rw [es]
      have fin : ∀ g : Int, g = hp_ n st px py X Y (σ 2 i) → wj_X7_heap_148 r (fun r2 σ2 => pc_ W H (σ1 2) (W * H).toNat = r2 ∧ iv_ σ2) px py n st i g i σ' := fun g hg => by
        unfold wj_X7_heap_148
        refine ⟨by omega, by omega, ?_⟩
        intro s hs'
        have e : ∀ j, s 49 j = if j = i then hp_ n st px py X Y (σ 2 i) else σ' 49 j := fun j => by rw [hs', up_eq, hg]
        refine ⟨by omega, hr _ _ _ _ _ _ ⟨⟨rfl, rfl, rfl, rfl⟩, by omega, by omega, fr_tr hf (fr_u hs' (by decide)), fun j j0 j1 => ?_, fun j j0 => ?_⟩ (by omega)⟩
        · rw [e]
          by_cases hj : j = i
          · rw [if_pos hj, hj, hX, hY]
          · rw [if_neg hj]; exact h1 j j0 (by omega)
        · rw [e, if_neg (by omega)]; exact h2 j (by omega)
      unfold wj_X7_heap_116
      have hp0 : hp_ n st px py X Y (σ 2 i) = min (max (if n < 0 then σ 2 i - max (max n (-n) - st * v) 0 else σ 2 i + max (max n (-n) - st * v) 0) 0) 99 := by unfold hp_; rw [hv]
      refine ⟨fun q3 => ⟨by omega, by omega, ?_⟩, fun q3 => ⟨by omega, ?_⟩⟩
      · rw [if_pos q3] at hp0
        intro g hg
        exact ⟨fun c => fin _ (by omega), fun c => ⟨fun c2 => fin _ (by omega), fun c2 => fin _ (by omega)⟩⟩
      · rw [if_neg q3] at hp0
        intro g hg
        exact ⟨fun c => fin _ (by omega), fun c => ⟨fun c2 => fin _ (by omega), fun c2 => fin _ (by omega)⟩⟩
    · have hi : i = W * H := by omega
      subst hi
      refine op_tail (σc := σ1) hb f1 hh f4 c6 c7 c8 hf (fun j j0 j1 => ?_) (fun j j0 => h2 j (by omega))
      by_cases q : j < W * H
      · rw [h1 j j0 q, g1 j j0 q]
      · rw [h2 j (by omega), g2 j (by omega)]; exact (hb.2.2.1 j j0 j1).1
  exact sp_within (fun a1 a2 => ⟨fun q => by omega, fun _ => sp_within (fun b1 b2 => ⟨fun q => by omega, fun _ => low 1 (fun q => by omega) (fun _ => ⟨⟨a1, a2⟩, b1, b2⟩)⟩) (fun hn => ⟨fun _ => low 0 (fun _ q => hn q.2) (fun q => absurd rfl q), fun q => absurd rfl q⟩)⟩) (fun hn => ⟨fun _ => low 0 (fun _ q => hn q.1) (fun q => absurd rfl q), fun q => absurd rfl q⟩)
end HEA
