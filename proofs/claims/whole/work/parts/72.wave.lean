theorem op_tail {W H : Int} {σ σc σ4 s2 : fb_St} (hb : ba_ W H σ) (fc : fr_ [2] σ σc) (hh : ∀ j, 0 ≤ j → j < 144 → 0 ≤ σc 2 j ∧ σc 2 j ≤ 99) (f4 : fr_ [0, 5, 6, 7] σc σ4) (c6 : σ4 0 6 = σc 0 6) (c7 : σ4 0 7 = σc 0 7) (c8 : σ4 0 8 = 0 ∧ σ4 0 9 = 0 ∧ σ4 0 10 = 0)
    (fs : fr_ [49] σ4 s2) (he : ∀ j, 0 ≤ j → j < 144 → s2 49 j = σc 2 j) (he2 : ∀ j, 144 ≤ j → s2 49 j = σ 49 j) : wp_X7_layPits s2 (fun a σ' => pc_ W H (σc 2) (W * H).toNat = a ∧ iv_ σ') := by
  obtain ⟨ht, hm, hq, hk, hi⟩ := hb
  have hw := tv_wh ht
  have m2 : mv_ W H s2 := ⟨by rw [he2 _ (by omega), hm.1], by rw [he2 _ (by omega), hm.2.1], hm.2.2.1, hm.2.2.2.1, fun j j0 j1 => by rw [he j j0 j1]; exact hh j j0 j1, fun j j0 j1 => by rw [he2 _ (by omega)]; exact hm.2.2.2.2.2 j j0 j1⟩
  refine sm_layPits (h := σc 2) m2 (fun j j0 j1 => he j j0 (by omega)) (fun s3 f3 _ _ => ⟨rfl, ?_⟩)
  have E : ∀ k, k ∉ [0, 2, 5, 6, 7, 49, 52, 53, 54] → s3 k = σ k := fun k hk => by rw [f3 k (by simp only [List.mem_cons, List.not_mem_nil, or_false] at hk ⊢; omega), fs k (by simp only [List.mem_cons, List.not_mem_nil, or_false] at hk ⊢; omega), f4 k (by simp only [List.mem_cons, List.not_mem_nil, or_false] at hk ⊢; omega), fc k (by simp only [List.mem_cons, List.not_mem_nil, or_false] at hk ⊢; omega)]
  have E49 : s3 49 = s2 49 := f3 49 (by decide)
  have E0 : s3 0 = σ4 0 := by rw [f3 0 (by decide), fs 0 (by decide)]
  have E2 : s3 2 = σc 2 := by rw [f3 2 (by decide), fs 2 (by decide), f4 2 (by decide)]
  refine iv_mk (σ := σ) (W := W) (H := H) ⟨by rw [E 1 (by decide)]; exact ht.1, by rw [E 1 (by decide)]; exact ht.2.1, by rw [E 1 (by decide)]; exact ht.2.2.1, ht.2.2.2.1, ht.2.2.2.2.1, by rw [E2]; exact hh, by rw [E 4 (by decide)]; exact ht.2.2.2.2.2.2⟩ (mv_eq m2 E49) (fun j j0 j1 => ?_) ?_ hi (fun k hk => E k (by revert hk; revert k; decide)) (by rw [E0]; exact c8)
  · rw [E49, E2, E 3 (by decide), he j j0 j1, he2 _ (by omega)]
    exact ⟨rfl, (hq j j0 j1).2⟩
  · rw [E49, E0, he2 _ (by omega), he2 _ (by omega), c6, c7, fc 0 (by decide)]
    exact hk
def wv_ (a b c m x y : Int) : Int := (((a * x) + (b * y)) + ((c * x) * y)) % m
theorem wv_b {a b c m x y : Int} (ha : 0 ≤ a ∧ a ≤ 50) (hb : 0 ≤ b ∧ b ≤ 50) (hc : 0 ≤ c ∧ c ≤ 50) (hm : 1 ≤ m ∧ m ≤ 100) (hx : 0 ≤ x ∧ x ≤ 11) (hy : 0 ≤ y ∧ y ≤ 11) :
    (0 ≤ a * x ∧ a * x ≤ 550) ∧ (0 ≤ b * y ∧ b * y ≤ 550) ∧ (0 ≤ c * x ∧ c * x ≤ 550) ∧ (0 ≤ c * x * y ∧ c * x * y ≤ 6050) ∧ 0 ≤ wv_ a b c m x y ∧ wv_ a b c m x y ≤ 99 := by
  have h1 := mu_le (A := 50) (B := 11) ha.1 hx.1 ha.2 hx.2
  have h2 := mu_le (A := 50) (B := 11) hb.1 hy.1 hb.2 hy.2
  have h3 := mu_le (A := 50) (B := 11) hc.1 hx.1 hc.2 hx.2
  have h4 := mu_le (A := 550) (B := 11) h3.1 hy.1 (by omega) hy.2
  have h5 := Int.emod_nonneg (((a * x) + (b * y)) + ((c * x) * y)) (show m ≠ 0 by omega)
  have h6 := Int.emod_lt_of_pos (((a * x) + (b * y)) + ((c * x) * y)) (show 0 < m by omega)
  unfold wv_
  omega
section WAV
variable {W H : Int} {σ : fb_St}
theorem sp_ripple {a b c m : Int} (ht : tv_ W H σ) (ha : 0 ≤ a ∧ a ≤ 50) (hb : 0 ≤ b ∧ b ≤ 50) (hc : 0 ≤ c ∧ c ≤ 50) (hm : 1 ≤ m ∧ m ≤ 100) {Q : Int → fb_St → Prop}
    (hq : ∀ σ', fr_ [2] σ σ' → (∀ j, 0 ≤ j → j < W * H → σ' 2 j = wv_ a b c m (j % W) (j / W)) → (∀ j, W * H ≤ j → σ' 2 j = σ 2 j) → Q 0 σ') : wp_X5_ripple a b c m σ Q := by
  obtain ⟨t0, t1, t2, hW, hH, -, -⟩ := ht
  unfold wp_X5_ripple
  refine fb_lp6 (fun a' b' c' m' y σ' => (a = a' ∧ b = b' ∧ c = c' ∧ m = m') ∧ 0 ≤ y ∧ y ≤ H ∧ fr_ [2] σ σ' ∧ (∀ j, 0 ≤ j → j < y * W → σ' 2 j = wv_ a b c m (j % W) (j / W)) ∧ ∀ j, y * W ≤ j → σ' 2 j = σ 2 j) (fun _ _ _ _ y _ => (200 - y).toNat) ?_ a b c m 0 σ ⟨⟨rfl, rfl, rfl, rfl⟩, Int.le_refl 0, by omega, fr_rf, fun j j0 j1 => by omega, fun _ _ => rfl⟩
  rintro a' b' c' m' y σ' ⟨⟨rfl, rfl, rfl, rfl⟩, y0, y1, hf, h1, h2⟩ r hr
  have e1 : σ' 1 = σ 1 := hf 1 (by decide)
  unfold wb_X5_ripple_3
  rw [e1, t1]
  refine ⟨fun q => ?_, fun q => ?_⟩
  rotate_left
  · have : y = H := by omega
    subst this
    rw [Int.mul_comm y W] at h1 h2
    exact hq σ' hf h1 h2
  obtain ⟨n1, n2, n3⟩ := yx_ hW hH y0 q
  refine fb_lp7 (fun a' b' c' m' y' x σ'' => (a = a' ∧ b = b' ∧ c = c' ∧ m = m' ∧ y = y') ∧ 0 ≤ x ∧ x ≤ W ∧ fr_ [2] σ σ'' ∧ (∀ j, 0 ≤ j → j < y * W + x → σ'' 2 j = wv_ a b c m (j % W) (j / W)) ∧ ∀ j, y * W + x ≤ j → σ'' 2 j = σ 2 j) (fun _ _ _ _ _ x _ => (200 - x).toNat) ?_ a b c m y 0 σ' ⟨⟨rfl, rfl, rfl, rfl, rfl⟩, Int.le_refl 0, by omega, hf, fun j j0 j1 => h1 j j0 (by omega), fun j j0 => h2 j (by omega)⟩
  rintro a' b' c' m' y' x σ'' ⟨⟨rfl, rfl, rfl, rfl, rfl⟩, x0, x1, hf2, h3, h4⟩ r2 hr2
  have e2 : σ'' 1 = σ 1 := hf2 1 (by decide)
  unfold wb_X5_ripple_15
  rw [e2, t0]
  have hl : (y + 1) * W = y * W + W := by rw [Int.add_mul, Int.one_mul]
  refine ⟨fun q2 => ?_, fun q2 => ⟨by omega, hr _ _ _ _ _ _ ⟨⟨rfl, rfl, rfl, rfl⟩, by omega, by omega, hf2, fun j j0 j1 => h3 j j0 (by omega), fun j j0 => h4 j (by omega)⟩ (by omega)⟩⟩
  obtain ⟨b1, b2, b3, b4, b5⟩ := wv_b ha hb hc hm (x := x) (y := y) (by omega) (by omega)
  have b6 : fb_in (wv_ a b c m x y) := by omega
  refine ⟨by omega, by omega, by omega, by omega, by omega, by omega, by omega, by omega, by omega, by omega, b6, by omega, by omega, ?_⟩
  intro s hs
  obtain ⟨d1, d2⟩ := dm_ (W := W) (x := x) (y := y) (by omega) x0 q2
  rw [Int.mul_comm W y] at d1 d2
  have e : ∀ j, s 2 j = if j = y * W + x then wv_ a b c m x y else σ'' 2 j := fun j => by rw [hs, up_eq]; rfl
  refine ⟨by omega, hr2 _ _ _ _ _ _ _ ⟨⟨rfl, rfl, rfl, rfl, rfl⟩, by omega, by omega, fr_tr hf2 (fr_u hs (by decide)), fun j j0 j1 => ?_, fun j j0 => ?_⟩ (by omega)⟩
  · rw [e]
    by_cases hj : j = y * W + x
    · rw [if_pos hj, hj, d1, d2]
    · rw [if_neg hj]; exact h3 j j0 (by omega)
  · rw [e, if_neg (by omega)]; exact h4 j (by omega)
theorem op_wave {a b c m : Int} (h : iv_ σ) : wp_X6_wave a b c m σ (fun r σ1 => wp_X7_wave a b c m σ1 (fun r2 σ2 => r = r2 ∧ iv_ σ2)) := by
  obtain ⟨W, H, hb, hc⟩ := h
  have no : ¬ ((0 ≤ a ∧ a ≤ 50) ∧ (0 ≤ b ∧ b ≤ 50) ∧ (0 ≤ c ∧ c ≤ 50) ∧ (1 ≤ m ∧ m ≤ 100)) → wp_X7_wave a b c m σ (fun r2 σ2 => (-2 : Int) = r2 ∧ iv_ σ2) := fun hn => by
    unfold wp_X7_wave wj_X7_wave_41
    have z : (-2 : Int) = -2 ∧ iv_ σ := ⟨rfl, W, H, hb, hc⟩
    exact sm_in (fun a1 a2 => ⟨fun q => by omega, fun _ => sm_in (fun b1 b2 => ⟨fun q => by omega, fun _ => sm_in (fun c1 c2 => ⟨fun q => by omega, fun _ => sm_in (fun d1 d2 => absurd ⟨⟨a1, a2⟩, ⟨b1, b2⟩, ⟨c1, c2⟩, d1, d2⟩ hn) (fun _ => ⟨fun _ => z, fun q => absurd rfl q⟩)⟩) (fun _ => ⟨fun _ => z, fun q => absurd rfl q⟩)⟩) (fun _ => ⟨fun _ => z, fun q => absurd rfl q⟩)⟩) (fun _ => ⟨fun _ => z, fun q => absurd rfl q⟩)
  unfold wp_X6_wave wj_X6_wave_34 wj_X6_wave_35 wj_X6_wave_53
  refine sp_within (fun a1 a2 => ⟨fun q => by omega, fun _ => sp_within (fun b1 b2 => ⟨fun q => by omega, fun _ => sp_within (fun c1 c2 => ⟨fun q => by omega, fun _ => ⟨fun q => by omega, fun _ => sp_within (fun d1 d2 => ⟨fun q => by omega, fun _ => ?_⟩) (fun hn => ⟨fun _ => no (fun q => hn q.2.2.2), fun q => absurd rfl q⟩)⟩⟩)
    (fun hn => ⟨fun _ => ⟨fun _ => no (fun q => hn q.2.2.1), fun q => absurd rfl q⟩, fun q => absurd rfl q⟩)⟩) (fun hn => ⟨fun _ => ⟨fun _ => no (fun q => hn q.2.1), fun q => absurd rfl q⟩, fun q => absurd rfl q⟩)⟩) (fun hn => ⟨fun _ => ⟨fun _ => no (fun q => hn q.1), fun q => absurd rfl q⟩, fun q => absurd rfl q⟩)
  clear no
  have ht := hb.1
  have hw := tv_wh ht
  refine sp_ripple ht ⟨a1, a2⟩ ⟨b1, b2⟩ ⟨c1, c2⟩ ⟨d1, d2⟩ (fun σ1 f1 g1 g2 => ?_)
  have bd : ∀ j, 0 ≤ j → j < W * H → (0 ≤ j % W ∧ j % W ≤ 11) ∧ (0 ≤ j / W ∧ j / W ≤ 11) := fun j j0 j1 => by
    obtain ⟨-, x0, x1, y0, y1⟩ := xy_ hw.1 j0 j1
    have h1 := ht.2.2.2.1
    have h2 := ht.2.2.2.2.1
    generalize j % W = X at x0 x1 ⊢
    generalize j / W = Y at y0 y1 ⊢
    omega
  have hh : ∀ j, 0 ≤ j → j < 144 → 0 ≤ σ1 2 j ∧ σ1 2 j ≤ 99 := fun j j0 j1 => by
    by_cases q : j < W * H
    · rw [g1 j j0 q]; exact (wv_b ⟨a1, a2⟩ ⟨b1, b2⟩ ⟨c1, c2⟩ ⟨d1, d2⟩ (bd j j0 q).1 (bd j j0 q).2).2.2.2.2
    · rw [g2 j (by omega)]; exact ht.2.2.2.2.2.1 j j0 j1
  refine sp_pac (W := W) (H := H) ⟨by rw [f1 1 (by decide)]; exact ht.1, by rw [f1 1 (by decide)]; exact ht.2.1, by rw [f1 1 (by decide)]; exact ht.2.2.1, ht.2.2.2.1, ht.2.2.2.2.1, hh, by rw [f1 4 (by decide)]; exact ht.2.2.2.2.2.2⟩ (fun σ4 f4 c6 c7 c8 => ?_)
  have e49 : σ4 49 = σ 49 := by rw [f4 49 (by decide), f1 49 (by decide)]
  unfold wp_X7_wave wj_X7_wave_41
  refine sm_in (fun _ _ => ⟨fun q => by omega, fun _ => sm_in (fun _ _ => ⟨fun q => by omega, fun _ => sm_in (fun _ _ => ⟨fun q => by omega, fun _ => sm_in (fun _ _ => ⟨fun q => by omega, fun _ => ?_⟩) (fun hn => absurd ⟨d1, d2⟩ hn)⟩) (fun hn => absurd ⟨c1, c2⟩ hn)⟩) (fun hn => absurd ⟨b1, b2⟩ hn)⟩) (fun hn => absurd ⟨a1, a2⟩ hn)
  refine fb_lp6 (fun a' b' c' m' i σ' => (a = a' ∧ b = b' ∧ c = c' ∧ m = m') ∧ 0 ≤ i ∧ i ≤ W * H ∧ fr_ [49] σ4 σ' ∧ (∀ j, 0 ≤ j → j < i → σ' 49 j = wv_ a b c m (j % W) (j / W)) ∧ ∀ j, i ≤ j → σ' 49 j = σ 49 j) (fun _ _ _ _ i _ => (200 - i).toNat) ?_ a b c m 0 σ4 ⟨⟨rfl, rfl, rfl, rfl⟩, Int.le_refl 0, by omega, fr_rf, fun j j0 j1 => by omega, fun _ _ => by rw [e49]⟩
  rintro a' b' c' m' i σ' ⟨⟨rfl, rfl, rfl, rfl⟩, i0, i1, hf, h1, h2⟩ r hr
  have w0 : σ' 49 288 = W := by rw [h2 _ (by omega)]; exact hb.2.1.1
  have w1 : σ' 49 289 = H := by rw [h2 _ (by omega)]; exact hb.2.1.2.1
  unfold wb_X7_wave_47 wp_X7_dots
  rw [w0, w1]
  refine ⟨by omega, fun q => ?_, fun q => ?_⟩
  · have bi := bd i i0 q
    have := (xy_ hw.1 i0 q).2
    have hq0 : 0 ≤ i % W ∧ 0 ≤ i / W := ⟨bi.1.1, bi.2.1⟩
    have q1 : fb_in (i % W) := by generalize i % W = X at bi; omega
    have q2 : fb_in (i / W) := by generalize i / W = X at bi; omega
    rw [w0]
    refine ⟨i0, hw.1, q1, ?_⟩
    intro X hX
    refine ⟨i0, hw.1, q2, ?_⟩
    intro Y hY
    rw [← hX, ← hY] at bi
    obtain ⟨k1, k2, k3, k4, k5⟩ := wv_b ⟨a1, a2⟩ ⟨b1, b2⟩ ⟨c1, c2⟩ ⟨d1, d2⟩ bi.1 bi.2
    have k6 : fb_in (wv_ a b c m X Y) := by omega
    clear bi this hq0 q1 q2
    refine ⟨by omega, by omega, by omega, by omega, by omega, by omega, by omega, by omega, k6, by omega, by omega, ?_⟩
    intro s hs
    have e : ∀ j, s 49 j = if j = i then wv_ a b c m X Y else σ' 49 j := fun j => by rw [hs, up_eq]; rfl
    refine ⟨by omega, hr _ _ _ _ _ _ ⟨⟨rfl, rfl, rfl, rfl⟩, by omega, by omega, fr_tr hf (fr_u hs (by decide)), fun j j0 j1 => ?_, fun j j0 => ?_⟩ (by omega)⟩
    · rw [e]
      by_cases hj : j = i
      · rw [if_pos hj, hj, hX, hY]
      · rw [if_neg hj]; exact h1 j j0 (by omega)
    · rw [e, if_neg (by omega)]; exact h2 j (by omega)
  · have hi : i = W * H := by omega
    subst hi
    refine op_tail (σc := σ1) hb f1 hh f4 c6 c7 c8 hf (fun j j0 j1 => ?_) (fun j j0 => h2 j (by omega))
    by_cases q : j < W * H
    · rw [h1 j j0 q, g1 j j0 q]
    · rw [h2 j (by omega), g2 j (by omega)]; exact (hb.2.2.1 j j0 j1).1
end WAV
