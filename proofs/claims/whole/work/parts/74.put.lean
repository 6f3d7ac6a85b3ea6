section PUT
variable {W H : Int} {σ : fb_St}
theorem op_put {x y n : Int} (h : iv_ σ) : wp_X6_put x y n σ (fun r σ1 => wp_X7_put x y n σ1 (fun r2 σ2 => r = r2 ∧ iv_ σ2)) := by
  obtain ⟨W, H, hb, hc⟩ := h
  have ht := hb.1
  have hm := hb.2.1
  have hw := tv_wh ht
  have no : ¬ ((0 ≤ x ∧ x < W ∧ 0 ≤ y ∧ y < H) ∧ (0 ≤ n ∧ n ≤ 99)) → wp_X7_put x y n σ (fun r2 σ2 => (-2 : Int) = r2 ∧ iv_ σ2) := fun hn => by
    unfold wp_X7_put wj_X7_put_19
    have z : (-2 : Int) = -2 ∧ iv_ σ := ⟨rfl, W, H, hb, hc⟩
    exact sm_isDot hm (fun a1 => ⟨fun q => by omega, fun _ => sm_in (fun b1 b2 => absurd ⟨a1, b1, b2⟩ hn) (fun _ => ⟨fun _ => z, fun q => absurd rfl q⟩)⟩) (fun _ => ⟨fun _ => z, fun q => absurd rfl q⟩)
  unfold wp_X6_put wj_X6_put_27
  refine sp_dotAt2 ht.1 ht.2.1 ht.2.2.2.1 ht.2.2.2.2.1 ⟨fun q => no (fun z => (dt_is hw.1).1.mp q z.1), fun q => sp_within (fun n0 n1 => ⟨fun q2 => by omega, fun _ => ?_⟩) (fun hn => ⟨fun _ => no (fun z => hn z.2), fun q => absurd rfl q⟩)⟩
  clear no
  have hp : 0 ≤ x ∧ x < W ∧ 0 ≤ y ∧ y < H := Classical.byContradiction (fun z => q ((dt_is hw.1).1.mpr z))
  obtain ⟨d0, d1, d2⟩ := (dt_is (H := H) hw.1).2 hp
  rw [d0]
  refine ⟨by omega, by omega, ?_⟩
  intro σ1 h1
  have e : ∀ j, σ1 2 j = if j = y * W + x then n else σ 2 j := fun j => by rw [h1, up_eq]
  have f1 : fr_ [2] σ σ1 := fr_u h1 (by decide)
  have hh : ∀ j, 0 ≤ j → j < 144 → 0 ≤ σ1 2 j ∧ σ1 2 j ≤ 99 := fun j j0 j1 => by
    have := ht.2.2.2.2.2.1 j j0 j1
    rw [e]; split <;> omega
  refine sp_pac (W := W) (H := H) ⟨by rw [f1 1 (by decide)]; exact ht.1, by rw [f1 1 (by decide)]; exact ht.2.1, by rw [f1 1 (by decide)]; exact ht.2.2.1, ht.2.2.2.1, ht.2.2.2.2.1, hh, by rw [f1 4 (by decide)]; exact ht.2.2.2.2.2.2⟩ (fun σ4 f4 c6 c7 c8 => ?_)
  have e49 : σ4 49 = σ 49 := by rw [f4 49 (by decide), f1 49 (by decide)]
  unfold wp_X7_put wj_X7_put_19
  refine sm_isDot (mv_eq hm e49) (fun _ => ⟨fun q => by omega, fun _ => sm_in (fun _ _ => ⟨fun q => by omega, fun _ => sm_at (mv_eq hm e49) hp (fun a0 a1 => ⟨by omega, by omega, ?_⟩)⟩) (fun z => absurd ⟨n0, n1⟩ z)⟩) (fun z => absurd hp z)
  intro s hs
  have es : ∀ j, s 49 j = if j = y * W + x then n else σ 49 j := fun j => by rw [hs, up_eq, e49]
  refine op_tail (σc := σ1) hb f1 hh f4 c6 c7 c8 (fr_u hs (by decide)) (fun j j0 j1 => ?_) (fun j j0 => by rw [es, if_neg (by omega)])
  rw [es, e, (hb.2.2.1 j j0 j1).1]
theorem op_mark {x y n : Int} (h : iv_ σ) : wp_X6_mark x y n σ (fun r σ1 => wp_X7_mark x y n σ1 (fun r2 σ2 => r = r2 ∧ iv_ σ2)) := by
  obtain ⟨W, H, hb, hc⟩ := h
  have ht := hb.1
  have hm := hb.2.1
  have hw := tv_wh ht
  have no : ¬ ((0 ≤ x ∧ x < W ∧ 0 ≤ y ∧ y < H) ∧ (0 ≤ n ∧ n ≤ 99)) → wp_X7_mark x y n σ (fun r2 σ2 => (-2 : Int) = r2 ∧ iv_ σ2) := fun hn => by
    unfold wp_X7_mark wj_X7_mark_19
    have z : (-2 : Int) = -2 ∧ iv_ σ := ⟨rfl, W, H, hb, hc⟩
    exact sm_isDot hm (fun a1 => ⟨fun q => by omega, fun _ => sm_in (fun b1 b2 => absurd ⟨a1, b1, b2⟩ hn) (fun _ => ⟨fun _ => z, fun q => absurd rfl q⟩)⟩) (fun _ => ⟨fun _ => z, fun q => absurd rfl q⟩)
  unfold wp_X6_mark wj_X6_mark_27
  refine sp_dotAt2 ht.1 ht.2.1 ht.2.2.2.1 ht.2.2.2.2.1 ⟨fun q => no (fun z => (dt_is hw.1).1.mp q z.1), fun q => sp_within (fun n0 n1 => ⟨fun q2 => by omega, fun _ => ?_⟩) (fun hn => ⟨fun _ => no (fun z => hn z.2), fun q => absurd rfl q⟩)⟩
  clear no
  have hp : 0 ≤ x ∧ x < W ∧ 0 ≤ y ∧ y < H := Classical.byContradiction (fun z => q ((dt_is hw.1).1.mpr z))
  obtain ⟨d0, d1, d2⟩ := (dt_is (H := H) hw.1).2 hp
  rw [d0]
  refine ⟨by omega, by omega, ?_⟩
  intro v hv
  refine ⟨by omega, by omega, ?_⟩
  intro σ1 h1
  have e : ∀ j, σ1 3 j = if j = y * W + x then n else σ 3 j := fun j => by rw [h1, up_eq]
  have f1 : fr_ [3] σ σ1 := fr_u h1 (by decide)
  refine sp_nothing (fun σ4 f4 c6 c7 c8 => ?_)
  have e49 : σ4 49 = σ 49 := by rw [f4 49 (by decide), f1 49 (by decide)]
  unfold wp_X7_mark wj_X7_mark_19
  refine sm_isDot (mv_eq hm e49) (fun _ => ⟨fun q => by omega, fun _ => sm_in (fun _ _ => ⟨fun q => by omega, fun _ => sm_at (mv_eq hm e49) hp (fun a0 a1 => ⟨by omega, by omega, by omega, ?_⟩)⟩) (fun z => absurd ⟨n0, n1⟩ z)⟩) (fun z => absurd hp z)
  intro u hu
  refine sm_at (mv_eq hm e49) hp (fun a0 a1 => ⟨by omega, by omega, by omega, ?_⟩)
  intro s hs
  have es : ∀ j, s 49 j = if j = 144 + (y * W + x) then n else σ 49 j := fun j => by rw [hs, up_eq, e49]
  refine ⟨by rw [hv, hu, e49]; exact ((hb.2.2.1 _ a0 (by omega)).2).symm, ?_⟩
  have fs : fr_ [49] σ4 s := fr_u hs (by decide)
  have E : ∀ k, k ∉ [0, 3, 49] → s k = σ k := fun k hk => by rw [fs k (by simp only [List.mem_cons, List.not_mem_nil, or_false] at hk ⊢; omega), f4 k (by simp only [List.mem_cons, List.not_mem_nil, or_false] at hk ⊢; omega), f1 k (by simp only [List.mem_cons, List.not_mem_nil, or_false] at hk ⊢; omega)]
  have E3 : s 3 = σ1 3 := by rw [fs 3 (by decide), f4 3 (by decide)]
  have E0 : s 0 = σ4 0 := by rw [fs 0 (by decide)]
  obtain ⟨-, -, hq, hk, hi⟩ := hb
  refine iv_mk (σ := σ) (W := W) (H := H) (tv_eq ht (E 1 (by decide)) (E 2 (by decide)) (E 4 (by decide))) ⟨by rw [es, if_neg (by omega)]; exact hm.1, by rw [es, if_neg (by omega)]; exact hm.2.1, hm.2.2.1, hm.2.2.2.1, fun j j0 j1 => by rw [es, if_neg (by omega)]; exact hm.2.2.2.2.1 j j0 j1, fun j j0 j1 => ?_⟩ (fun j j0 j1 => ?_) ?_ hi (fun k hk => E k (by revert hk; revert k; decide)) (by rw [E0]; exact c8)
  · have := hm.2.2.2.2.2 j j0 j1
    rw [es]; split <;> omega
  · have := hq j j0 j1
    rw [es, es, E3, e, if_neg (by omega), E 2 (by decide)]
    refine ⟨this.1, ?_⟩
    split <;> split <;> omega
  · rw [es, es, if_neg (by omega), if_neg (by omega), E0, c6, c7, f1 0 (by decide)]
    exact hk
theorem pc_mono {h : Int → Int} (a b : Nat) : pc_ W H h a ≤ pc_ W H h (a + b) := by
  induction b with
  | zero => exact Int.le_refl _
  | succ b ih =>
    have : pc_ W H h (a + (b + 1)) = pc_ W H h (a + b) + in_ (pi_ W H h ((a + b : Nat) : Int) ∧ fi_ W H h ((a + b : Nat) : Int)) := rfl
    rw [this]
    by_cases q : pi_ W H h ((a + b : Nat) : Int) ∧ fi_ W H h ((a + b : Nat) : Int)
    · rw [in_pos q]; omega
    · rw [in_neg q]; omega
theorem mr_le (hW : 1 ≤ W ∧ W ≤ 12) (hH : 1 ≤ H ∧ H ≤ 12) {h : Int → Int} {j v : Int} (a : mr_ W H h (W * H) j v) : 0 ≤ v ∧ v ≤ 99 := by
  rcases a with ⟨k, k0, k1, p, f, -, rfl⟩ | ⟨rfl, -⟩
  · have h1 := pc_snoc (W := W) (H := H) (h := h) k0
    rw [in_pos ⟨p, f⟩] at h1
    have h2 := pc_72 hW hH (h := h)
    have h3 := pc_mono (W := W) (H := H) (h := h) (k + 1).toNat ((W * H).toNat - (k + 1).toNat)
    have h4 : (k + 1).toNat + ((W * H).toNat - (k + 1).toNat) = (W * H).toNat := by omega
    rw [h4] at h3
    have h5 := (pc_bd (W := W) (H := H) (h := h) k.toNat).1
    omega
  · omega
theorem op_pits (h : iv_ σ) : wp_X6_pits σ (fun r σ1 => wp_X7_pits σ1 (fun r2 σ2 => r = r2 ∧ iv_ σ2)) := by
  obtain ⟨W, H, hb, hc⟩ := h
  have ht := hb.1
  have hm := hb.2.1
  have hw := tv_wh ht
  unfold wp_X6_pits
  intro σ1 h1
  have f1 : fr_ [3] σ σ1 := fr_fl h1 (by decide)
  have z1 : ∀ j, σ1 3 j = 0 := fun j => by rw [h1]; simp [fb_fill_ap]
  refine sp_nothing (fun σ2 f2 c6 c7 c8 => ?_)
  refine sp_findPits (h := σ 2) (tv_eq ht (by rw [f2 1 (by decide), f1 1 (by decide)]) (by rw [f2 2 (by decide), f1 2 (by decide)]) (by rw [f2 4 (by decide), f1 4 (by decide)])) (fun j _ _ => by rw [f2 2 (by decide), f1 2 (by decide)]) (fun _ j _ _ => by rw [f2 3 (by decide), z1]) (fun σ3 f3 _ g3 => ?_)
  obtain ⟨g3, g4⟩ := g3 (by decide)
  have E : ∀ k, k ∉ [0, 3, 5, 6, 7] → σ3 k = σ k := fun k hk => by rw [f3 k (by simp only [List.mem_cons, List.not_mem_nil, or_false] at hk ⊢; omega), f2 k (by simp only [List.mem_cons, List.not_mem_nil, or_false] at hk ⊢; omega), f1 k (by simp only [List.mem_cons, List.not_mem_nil, or_false] at hk ⊢; omega)]
  unfold wp_X7_pits
  refine sm_layPits (h := σ 2) (mv_eq hm (E 49 (by decide))) (fun j j0 j1 => by rw [E 49 (by decide)]; exact (hb.2.2.1 j j0 (by omega)).1) (fun σ4 f4 g5 g6 => ?_)
  have e49 : σ4 49 = σ 49 := by rw [f4 49 (by decide), E 49 (by decide)]
  have E3 : σ4 3 = σ3 3 := f4 3 (by decide)
  have key : ∀ j, 0 ≤ j → j < 144 → pm_ (σ4 52 j) = σ3 3 j ∧ (0 ≤ σ3 3 j ∧ σ3 3 j ≤ 99) ∧ (σ4 52 j = -6 ∨ 0 ≤ σ4 52 j ∧ σ4 52 j < 144) := fun j j0 j1 => by
    by_cases q : j < W * H
    · exact ⟨mr_uniq hw.1 (g5 j j0 q).1 (g3 j j0 q), mr_le ht.2.2.2.1 ht.2.2.2.2.1 (g3 j j0 q), (g5 j j0 q).2⟩
    · have a := g4 j (by omega) j1
      have b := g6 j (by omega) j1
      rw [a, b]
      exact ⟨rfl, by omega, by omega⟩
  refine fb_lp3 (fun n i σ' => pc_ W H (σ 2) (W * H).toNat = n ∧ 0 ≤ i ∧ i ≤ 144 ∧ fr_ [49] σ4 σ' ∧ (∀ j, 0 ≤ j → j < i → σ' 49 (144 + j) = pm_ (σ4 52 j)) ∧ ∀ j, (j < 144 ∨ 144 + i ≤ j) → σ' 49 j = σ 49 j) (fun _ i _ => (200 - i).toNat) ?_ _ 0 σ4 ⟨rfl, Int.le_refl 0, by omega, fr_rf, fun j j0 j1 => by omega, fun j _ => by rw [e49]⟩
  rintro n i σ' ⟨rfl, i0, i1, hf, h2, h3⟩ r hr
  have e52 : σ' 52 = σ4 52 := hf 52 (by decide)
  unfold wb_X7_pits_7 wj_X7_pits_46
  refine ⟨fun q => ?_, fun q => ?_⟩
  · have fin : ∀ v : Int, v = pm_ (σ4 52 i) → ∀ s : fb_St, s = fb_up σ' 49 (144 + i) v → fb_in (i + 1) ∧ r (pc_ W H (σ 2) (W * H).toNat) (i + 1) s := fun v hv s hs => by
      have e : ∀ j, s 49 j = if j = 144 + i then pm_ (σ4 52 i) else σ' 49 j := fun j => by rw [hs, up_eq, hv]
      refine ⟨by omega, hr _ _ _ ⟨rfl, by omega, by omega, fr_tr hf (fr_u hs (by decide)), fun j j0 j1 => ?_, fun j j0 => ?_⟩ (by omega)⟩
      · rw [e]
        by_cases hj : j = i
        · rw [if_pos (by omega), hj]
        · rw [if_neg (by omega)]; exact h2 j j0 (by omega)
      · rw [e, if_neg (by omega)]; exact h3 j (by omega)
    have := (key i i0 q).2.2
    rw [e52]
    refine ⟨by omega, by omega, by omega, fun q2 => ⟨by omega, by omega, fin _ ?_⟩, fun q2 => ⟨by omega, by omega, by omega, by omega, by omega, fin _ ?_⟩⟩
    · unfold pm_; rw [if_pos q2]
    · unfold pm_; rw [if_neg q2]
  · have hi : i = 144 := by omega
    subst hi
    refine ⟨rfl, ?_⟩
    have E2 : ∀ k, k ∉ [0, 3, 5, 6, 7, 49, 52, 53, 54] → σ' k = σ k := fun k hk => by rw [hf k (by simp only [List.mem_cons, List.not_mem_nil, or_false] at hk ⊢; omega), f4 k (by simp only [List.mem_cons, List.not_mem_nil, or_false] at hk ⊢; omega), E k (by simp only [List.mem_cons, List.not_mem_nil, or_false] at hk ⊢; omega)]
    have F3 : σ' 3 = σ3 3 := by rw [hf 3 (by decide), E3]
    have F0 : σ' 0 = σ2 0 := by rw [hf 0 (by decide), f4 0 (by decide), f3 0 (by decide)]
    obtain ⟨-, -, hq, hk, him⟩ := hb
    refine iv_mk (σ := σ) (W := W) (H := H) (tv_eq ht (E2 1 (by decide)) (E2 2 (by decide)) (E2 4 (by decide))) ⟨by rw [h3 _ (by omega)]; exact hm.1, by rw [h3 _ (by omega)]; exact hm.2.1, hm.2.2.1, hm.2.2.2.1, fun j j0 j1 => by rw [h3 _ (by omega)]; exact hm.2.2.2.2.1 j j0 j1, fun j j0 j1 => ?_⟩ (fun j j0 j1 => ?_) ?_ him (fun k hk => E2 k (by revert hk; revert k; decide)) (by rw [F0]; exact c8)
    · rw [h2 j j0 j1, (key j j0 j1).1]; exact (key j j0 j1).2.1
    · rw [h3 j (by omega), h2 j j0 j1, F3, E2 2 (by decide)]
      exact ⟨(hq j j0 j1).1, (key j j0 j1).1⟩
    · rw [h3 _ (by omega), h3 _ (by omega), F0, c6, c7, f1 0 (by decide)]
      exact hk
end PUT
