/-! ===== the model: the land as it is held; searches ===== -/
def mv_ (W H : Int) (σ : fb_St) : Prop := σ 49 288 = W ∧ σ 49 289 = H ∧ (1 ≤ W ∧ W ≤ 12) ∧ (1 ≤ H ∧ H ≤ 12) ∧ (∀ i, 0 ≤ i → i < 144 → 0 ≤ σ 49 i ∧ σ 49 i ≤ 99) ∧ ∀ i, 0 ≤ i → i < 144 → 0 ≤ σ 49 (144 + i) ∧ σ 49 (144 + i) ≤ 99
theorem mv_eq {W H : Int} {σ σ' : fb_St} (h : mv_ W H σ) (e : σ' 49 = σ 49) : mv_ W H σ' := by
  unfold mv_ at h ⊢
  rw [e]
  exact h
theorem mv_wh {W H : Int} {σ : fb_St} (h : mv_ W H σ) : 0 < W ∧ 1 ≤ W * H ∧ W * H ≤ 144 := by
  have := wh_ h.2.2.1 h.2.2.2.1
  have := h.2.2.1
  omega
theorem sm_in {x lo hi : Int} {σ : fb_St} {Q : Int → fb_St → Prop} (h1 : lo ≤ x → x ≤ hi → Q 1 σ) (h0 : ¬ (lo ≤ x ∧ x ≤ hi) → Q 0 σ) : wp_X7_in x lo hi σ Q := by
  unfold wp_X7_in wj_X7_in_14 wj_X7_in_15
  grind
theorem sm_isDot {W H x y : Int} {σ : fb_St} {Q : Int → fb_St → Prop} (hm : mv_ W H σ) (h1 : 0 ≤ x ∧ x < W ∧ 0 ≤ y ∧ y < H → Q 1 σ) (h0 : ¬ (0 ≤ x ∧ x < W ∧ 0 ≤ y ∧ y < H) → Q 0 σ) : wp_X7_isDot x y σ Q := by
  unfold wp_X7_isDot wj_X7_isDot_40 wj_X7_isDot_41
  obtain ⟨e1, e2, w1, w2, -⟩ := hm
  rw [e1]
  refine ⟨by omega, sm_in (fun a1 a2 => ⟨fun q => by omega, fun _ => ?_⟩) (fun a => ⟨fun _ => ⟨by omega, h0 (by omega)⟩, fun q => absurd rfl q⟩)⟩
  rw [e2]
  exact ⟨by omega, sm_in (fun b1 b2 => ⟨fun q => by omega, fun _ => ⟨by omega, h1 (by omega)⟩⟩) (fun b => ⟨fun _ => ⟨by omega, h0 (by omega)⟩, fun q => absurd rfl q⟩)⟩
theorem sm_dots {W H : Int} {σ : fb_St} {Q : Int → fb_St → Prop} (hm : mv_ W H σ) (h : Q (W * H) σ) : wp_X7_dots σ Q := by
  have := mv_wh hm
  unfold wp_X7_dots
  rw [hm.1, hm.2.1]
  exact ⟨by omega, h⟩
theorem sm_at {W H x y : Int} {σ : fb_St} {Q : Int → fb_St → Prop} (hm : mv_ W H σ) (hd : 0 ≤ x ∧ x < W ∧ 0 ≤ y ∧ y < H) (h : 0 ≤ y * W + x → y * W + x < W * H → Q (y * W + x) σ) : wp_X7_at x y σ Q := by
  obtain ⟨e1, e2, w1, w2, -⟩ := hm
  have := mu_le (a := y) (b := W) (A := 11) (B := 12) (by omega) (by omega) (by omega) (by omega)
  have h2 := wl_ (W := W) (show 0 < W by omega) (show y + 1 ≤ H by omega)
  rw [Int.mul_add] at h2
  unfold wp_X7_at
  rw [e1, Int.mul_comm]
  rw [Int.mul_comm] at h2
  exact ⟨by omega, by omega, h (by omega) (by omega)⟩
/-- the model's neighbour: -6 if there is none -/
theorem sm_beside {W H i d : Int} {σ : fb_St} {Q : Int → fb_St → Prop} (hm : mv_ W H σ) (h0 : 0 ≤ i) (h1 : i < W * H) (hd : 0 ≤ d ∧ d < 4)
    (hn : nb_ W H i d = -1 → Q (-6) σ) (hs : 0 ≤ nb_ W H i d → nb_ W H i d < W * H → Q (nb_ W H i d) σ) : wp_X7_beside i d σ Q := by
  have hw := mv_wh hm
  obtain ⟨e, a, b, c, f⟩ := xy_ hw.1 h0 h1
  have hr := nb_rng d hw.1 h0 h1
  have w1 := hm.2.2.1
  have w2 := hm.2.2.2.1
  have fin : ∀ x y : Int, -1 ≤ x → x ≤ 12 → -1 ≤ y → y ≤ 12 → (0 ≤ x ∧ x < W ∧ 0 ≤ y ∧ y < H → nb_ W H i d = y * W + x) → (¬ (0 ≤ x ∧ x < W ∧ 0 ≤ y ∧ y < H) → nb_ W H i d = -1) → wp_X7_isDot x y σ (fun a17 σ17 => (a17 = 0 → Q (-6) σ17) ∧ (¬ a17 = 0 → wp_X7_at x y σ17 (fun a19 σ19 => Q a19 σ19))) := by
    intro x y _ _ _ _ hx hy
    refine sm_isDot hm (fun q => ⟨fun z => by omega, fun _ => sm_at hm q (fun z1 z2 => ?_)⟩) (fun q => ⟨fun _ => hn (hy q), fun z => absurd rfl z⟩)
    rw [← hx q]
    have := hx q
    exact hs (by omega) (by omega)
  unfold wp_X7_beside wj_X7_beside_28 wj_X7_beside_59 wj_X7_beside_84
  rw [hm.1]
  have ee : W * (i / W) = i / W * W := Int.mul_comm _ _
  have tail : ∀ s0 : Int, -1 ≤ s0 → s0 ≤ 1 → (∀ y, (0 ≤ i % W + s0 ∧ i % W + s0 < W ∧ 0 ≤ y ∧ y < H → (d = 1 → y = i / W + 1) → (d = 3 → y = i / W + -1) → (¬ d = 1 → ¬ d = 3 → y = i / W + 0) → nb_ W H i d = y * W + (i % W + s0)) ∧ (¬ (0 ≤ i % W + s0 ∧ i % W + s0 < W ∧ 0 ≤ y ∧ y < H) → (d = 1 → y = i / W + 1) → (d = 3 → y = i / W + -1) → (¬ d = 1 → ¬ d = 3 → y = i / W + 0) → nb_ W H i d = -1)) →
      (fb_in (i % W + s0) ∧ ∀ v8 : Int, v8 = i % W + s0 → 0 ≤ i ∧ 0 < W ∧ fb_in (i / W) ∧
      (d = 1 → fb_in (i / W + 1) ∧ ∀ v16 : Int, v16 = i / W + 1 → wp_X7_isDot v8 v16 σ (fun a17 σ17 => (a17 = 0 → Q (-6) σ17) ∧ (¬ a17 = 0 → wp_X7_at v8 v16 σ17 (fun a19 σ19 => Q a19 σ19)))) ∧
      (¬ d = 1 → (d = 3 → fb_in (i / W + -1) ∧ ∀ v16 : Int, v16 = i / W + -1 → wp_X7_isDot v8 v16 σ (fun a17 σ17 => (a17 = 0 → Q (-6) σ17) ∧ (¬ a17 = 0 → wp_X7_at v8 v16 σ17 (fun a19 σ19 => Q a19 σ19)))) ∧
        (¬ d = 3 → fb_in (i / W + 0) ∧ ∀ v16 : Int, v16 = i / W + 0 → wp_X7_isDot v8 v16 σ (fun a17 σ17 => (a17 = 0 → Q (-6) σ17) ∧ (¬ a17 = 0 → wp_X7_at v8 v16 σ17 (fun a19 σ19 => Q a19 σ19)))))) := by
    intro s0 s1 s2 hy
    refine ⟨by omega, fun v8 hv8 => ⟨h0, hw.1, by omega, fun e1 => ⟨by omega, fun v hv => ?_⟩, fun e1 => ⟨fun e3 => ⟨by omega, fun v hv => ?_⟩, fun e3 => ⟨by omega, fun v hv => ?_⟩⟩⟩⟩
    · subst hv8
      exact fin _ _ (by omega) (by omega) (by omega) (by omega) (fun q => (hy v).1 q (fun _ => hv) (fun z => by omega) (fun z => absurd e1 z)) (fun q => (hy v).2 q (fun _ => hv) (fun z => by omega) (fun z => absurd e1 z))
    · subst hv8
      exact fin _ _ (by omega) (by omega) (by omega) (by omega) (fun q => (hy v).1 q (fun z => by omega) (fun _ => hv) (fun _ z => absurd e3 z)) (fun q => (hy v).2 q (fun z => by omega) (fun _ => hv) (fun _ z => absurd e3 z))
    · subst hv8
      exact fin _ _ (by omega) (by omega) (by omega) (by omega) (fun q => (hy v).1 q (fun z => absurd z e1) (fun z => absurd z e3) (fun _ _ => hv)) (fun q => (hy v).2 q (fun z => absurd z e1) (fun z => absurd z e3) (fun _ _ => hv))
  refine ⟨h0, hw.1, by omega, fun d0 => ?_, fun d0 => ⟨fun d2 => ?_, fun d2 => ?_⟩⟩
  · refine tail 1 (by omega) (by omega) (fun y => ⟨fun q p1 p3 p0 => ?_, fun q p1 p3 p0 => ?_⟩)
    · have : y = i / W := by have := p0 (by omega) (by omega); omega
      rw [this]; unfold nb_; rw [if_pos d0, if_pos (by omega)]; omega
    · have : y = i / W := by have := p0 (by omega) (by omega); omega
      unfold nb_; rw [if_pos d0, if_neg (by omega)]
  · refine tail (-1) (by omega) (by omega) (fun y => ⟨fun q p1 p3 p0 => ?_, fun q p1 p3 p0 => ?_⟩)
    · have : y = i / W := by have := p0 (by omega) (by omega); omega
      rw [this]; unfold nb_; rw [if_neg d0, if_neg (by omega), if_pos d2, if_pos (by omega)]; omega
    · have : y = i / W := by have := p0 (by omega) (by omega); omega
      unfold nb_; rw [if_neg d0, if_neg (by omega), if_pos d2, if_neg (by omega)]
  · refine tail 0 (by omega) (by omega) (fun y => ⟨fun q p1 p3 p0 => ?_, fun q p1 p3 p0 => ?_⟩)
    · rcases (show d = 1 ∨ d = 3 by omega) with z | z
      · rw [p1 z]; unfold nb_; rw [if_neg d0, if_pos z, if_pos (by have := p1 z; omega), Int.add_mul]; omega
      · rw [p3 z]; unfold nb_; rw [if_neg d0, if_neg (by omega), if_neg d2, if_pos (by have := p3 z; omega), Int.add_mul]; omega
    · rcases (show d = 1 ∨ d = 3 by omega) with z | z
      · unfold nb_; rw [if_neg d0, if_pos z, if_neg (by have := p1 z; omega)]
      · unfold nb_; rw [if_neg d0, if_neg (by omega), if_neg d2, if_neg (by have := p3 z; omega)]
