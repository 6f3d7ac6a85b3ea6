section OVR
variable {W H : Int} {σ : fb_St} {h : Int → Int}
abbrev lo_ (h : Int → Int) (L : Int) : Int → Prop := fun b => h b ≤ L
theorem bo_cong (hW : 0 < W) {P P' : Int → Prop} {s N : Int} {z re se : Int → Int} (s0 : 0 ≤ s) (s1 : s < W * H) (hP : ∀ j, 0 ≤ j → j < W * H → (P j ↔ P' j)) (a : bo_ W H P s z N re se) : bo_ W H P' s z N re se := by
  obtain ⟨⟨b0, b1, b2, b3⟩, c⟩ := a
  exact ⟨⟨b0, fun k k0 k1 => ⟨(rc_cong hW s0 s1 hP _).mp (b1 k k0 k1).1, (b1 k k0 k1).2⟩, b2, b3⟩, fun j j0 j1 => (rc_cong hW s0 s1 hP j).symm.trans (c j j0 j1)⟩
theorem bo_sum (hW : 1 ≤ W * H) {P : Int → Prop} {s N N' : Int} {re se re' se' : Int → Int} (a : bo_ W H P s (fun _ => 0) N re se) (b : bo_ W H P s (fun _ => 0) N' re' se') : ∀ g : Int → Int, su_ (fun k => g (re k)) N.toNat = su_ (fun k => g (re' k)) N'.toNat := fun g => by
  rw [a.1.2.2.2 g, b.1.2.2.2 g]
  refine su_congr _ (fun j j0 j1 => ?_)
  have h1 := bo_se a j0 (by omega)
  have h2 := bo_se b j0 (by omega)
  have h3 : se j ≠ 0 ↔ se' j ≠ 0 := h1.trans h2.symm
  by_cases q : se j ≠ 0
  · rw [if_pos ⟨q, rfl⟩, if_pos ⟨h3.mp q, rfl⟩]
  · rw [if_neg (fun z => q z.1), if_neg (fun z => q (h3.mpr z.1))]
theorem bo_NN (hW : 1 ≤ W * H) {P : Int → Prop} {s N N' : Int} {re se re' se' : Int → Int} (a : bo_ W H P s (fun _ => 0) N re se) (b : bo_ W H P s (fun _ => 0) N' re' se') : N = N' := by
  have := bo_sum hW a b (fun _ => 1)
  rw [su_cst, su_cst] at this
  have := a.1.1
  have := b.1.1
  omega
theorem sp_from0 {L s : Int} (ht : tv_ W H σ) (hh : ∀ j, 0 ≤ j → j < W * H → σ 2 j = h j) (s0 : 0 ≤ s) (s1 : s < W * H) {Q : fb_St → Prop} (hq : ∀ σ', fr_ [5, 6, 7] σ σ' → bo_ W H (lo_ h L) s (fun _ => 0) (σ' 5 0) (σ' 6) (σ' 7) → Q σ') : wp_X4_forget σ (fun _ σ1 => wp_X4_from s 0 L σ1 (fun _ σ2 => Q σ2)) := by
  unfold wp_X4_forget
  intro σ1 h1
  have hw := tv_wh ht
  have f1 : fr_ [5, 6, 7] σ σ1 := fr_fl h1 (by decide)
  have e7 : σ1 7 = fun _ => 0 := by funext j; rw [h1]; simp [fb_fill_ap]
  refine sp_from (tv_eq ht (f1 1 (by decide)) (f1 2 (by decide)) (f1 4 (by decide))) s0 s1 (fun σ2 f2 b2 => hq σ2 (fr_tr f1 f2) ?_)
  rw [e7] at b2
  refine bo_cong hw.1 s0 s1 (fun j j0 j1 => ?_) b2
  have := ht.2.2.2.2.2.1 j j0 (by omega)
  have := hh j j0 j1
  dsimp only [pk_, lo_]
  rw [e7, f1 2 (by decide)]
  constructor
  · rintro ⟨a, b, -⟩; omega
  · intro a; exact ⟨by omega, by omega, rfl⟩
theorem sm_spread0 {L s : Int} (hm : mv_ W H σ) (hh : ∀ j, 0 ≤ j → j < W * H → σ 49 j = h j) (s0 : 0 ≤ s) (s1 : s < W * H) (hs : h s ≤ L) {Q : Int → fb_St → Prop} (hq : ∀ N σ', fr_ [53, 54] σ σ' → bo_ W H (lo_ h L) s (fun _ => 0) N (σ' 53) (σ' 54) → Q N σ') : wp_X7_spread s L 0 σ Q := by
  have hw := mv_wh hm
  refine sm_spread hm s0 s1 (by dsimp only [qk_]; rw [if_pos rfl, hh s s0 s1]; exact hs) (fun N σ' f b => hq N σ' f (bo_cong hw.1 s0 s1 (fun j j0 j1 => ?_) b))
  dsimp only [qk_, lo_]
  rw [if_pos rfl, hh j j0 j1]
/-- the least level by which one comes from dot to dot -/
def ov_ (W H : Int) (h : Int → Int) (a b L : Int) : Prop := rc_ W H (lo_ h L) a b ∧ ∀ L', max (h a) (h b) ≤ L' → L' < L → ¬ rc_ W H (lo_ h L') a b
set_option maxHeartbeats 4000000 in
theorem sp_least {a b : Int} (ht : tv_ W H σ) (ha : 0 ≤ a ∧ a < W * H) (hb : 0 ≤ b ∧ b < W * H) {Q : Int → fb_St → Prop} (hq : ∀ L σ', fr_ [5, 6, 7] σ σ' → (max (σ 2 a) (σ 2 b) ≤ L ∧ L ≤ 99) → ov_ W H (σ 2) a b L → Q L σ') : wp_X6_leastLevelBetween a b σ Q := by
  have hw := tv_wh ht
  have h1 := ht.2.2.2.2.2.1 a ha.1 (by omega)
  have h2 := ht.2.2.2.2.2.1 b hb.1 (by omega)
  unfold wp_X6_leastLevelBetween
  refine ⟨by omega, by omega, by omega, by omega, ?_⟩
  intro m hm
  refine fb_lp6 (fun a' b' lo hi t σ' => a = a' ∧ b = b' ∧ fr_ [5, 6, 7] σ σ' ∧ (0 ≤ t ∧ t ≤ 7) ∧ (m ≤ lo ∧ lo ≤ hi ∧ hi ≤ 99) ∧ ((t = 0 → hi - lo < 128) ∧ (t = 1 → hi - lo < 64) ∧ (t = 2 → hi - lo < 32) ∧ (t = 3 → hi - lo < 16) ∧ (t = 4 → hi - lo < 8) ∧ (t = 5 → hi - lo < 4) ∧ (t = 6 → hi - lo < 2) ∧ (t = 7 → hi - lo < 1)) ∧ rc_ W H (lo_ (σ 2) hi) a b ∧ ∀ L', m ≤ L' → L' < lo → ¬ rc_ W H (lo_ (σ 2) L') a b) (fun _ _ _ _ t _ => (10 - t).toNat) ?_ a b m 99 0 σ ⟨rfl, rfl, fr_rf, by omega, by omega, by omega, rc_all hw.1 (fun i i0 i1 => (ht.2.2.2.2.2.1 i i0 (by omega)).2) ha.1 ha.2 hb.1 hb.2, fun L' l0 l1 => by omega⟩
  rintro a' b' lo hi t σ' ⟨rfl, rfl, hf, t0, hl, hp, hr, hn⟩ r hr2
  unfold wb_X6_leastLevelBetween_29 wj_X6_leastLevelBetween_95 wj_X6_leastLevelBetween_101
  have fin : lo = hi → Q lo σ' := fun e => hq lo σ' hf (by omega) ⟨by rw [e]; exact hr, fun L' l0 l1 => hn L' (by omega) l1⟩
  refine ⟨fun q => ⟨fun q2 => ⟨by omega, by omega, by omega, ?_⟩, fun q2 => fin (by omega)⟩, fun q => fin (by omega)⟩
  intro v hv
  have hv2 : lo ≤ v ∧ v < hi := by omega
  refine sp_from0 (h := σ 2) (tv_eq ht (hf 1 (by decide)) (hf 2 (by decide)) (hf 4 (by decide))) (fun j _ _ => by rw [hf 2 (by decide)]) ha.1 ha.2 (fun σ2 f2 b2 => ?_)
  have hs := bo_se b2 hb.1 hb.2
  have f3 : fr_ [5, 6, 7] σ σ2 := fr_tr hf f2
  refine sp_cameTo hb.1 (by omega) (fun c => ⟨fun z => by omega, fun _ => ⟨by omega, hr2 _ _ _ _ _ _ ⟨rfl, rfl, f3, by omega, by omega, by omega, ?_, hn⟩ (by omega)⟩⟩) (fun c => ⟨fun _ => ⟨by omega, by omega, hr2 _ _ _ _ _ _ ⟨rfl, rfl, f3, by omega, by omega, by omega, hr, fun L' l0 l1 => ?_⟩ (by omega)⟩, fun z => absurd rfl z⟩)
  · exact (hs.mp c).elim (fun z => absurd rfl z) id
  · by_cases z : L' < lo
    · exact hn L' l0 z
    · exact fun y => (hs.mpr (Or.inr (rc_mono (P := lo_ (σ 2) L') (P' := lo_ (σ 2) v) (fun x hx => by dsimp only [lo_] at hx ⊢; omega) y))) c
theorem op_over {x y x2 y2 : Int} (h : iv_ σ) : wp_X6_over x y x2 y2 σ (fun r σ1 => wp_X7_over x y x2 y2 σ1 (fun r2 σ2 => r = r2 ∧ iv_ σ2)) := by
  obtain ⟨W, H, hb, hc⟩ := h
  have ht := hb.1
  have hm := hb.2.1
  have hw := tv_wh ht
  have no : ¬ ((0 ≤ x ∧ x < W ∧ 0 ≤ y ∧ y < H) ∧ (0 ≤ x2 ∧ x2 < W ∧ 0 ≤ y2 ∧ y2 < H)) → wp_X7_over x y x2 y2 σ (fun r2 σ2 => (-2 : Int) = r2 ∧ iv_ σ2) := fun hn => by
    unfold wp_X7_over wj_X7_over_19
    have z : (-2 : Int) = -2 ∧ iv_ σ := ⟨rfl, W, H, hb, hc⟩
    exact sm_isDot hm (fun a1 => ⟨fun q => by omega, fun _ => sm_isDot hm (fun a2 => absurd ⟨a1, a2⟩ hn) (fun _ => ⟨fun _ => z, fun q => absurd rfl q⟩)⟩) (fun _ => ⟨fun _ => z, fun q => absurd rfl q⟩)
  unfold wp_X6_over wj_X6_over_35
  refine sp_dotAt2 ht.1 ht.2.1 ht.2.2.2.1 ht.2.2.2.2.1 (sp_dotAt2 ht.1 ht.2.1 ht.2.2.2.1 ht.2.2.2.2.1 ⟨fun q => no (fun z => (dt_is hw.1).1.mp q z.1), fun q => ⟨fun q2 => no (fun z => (dt_is hw.1).1.mp q2 z.2), fun q2 => ?_⟩⟩)
  clear no
  have hp : 0 ≤ x ∧ x < W ∧ 0 ≤ y ∧ y < H := Classical.byContradiction (fun z => q ((dt_is hw.1).1.mpr z))
  have hp2 : 0 ≤ x2 ∧ x2 < W ∧ 0 ≤ y2 ∧ y2 < H := Classical.byContradiction (fun z => q2 ((dt_is hw.1).1.mpr z))
  obtain ⟨d0, d1, d2⟩ := (dt_is (H := H) hw.1).2 hp
  obtain ⟨g0, g1, g2⟩ := (dt_is (H := H) hw.1).2 hp2
  rw [d0, g0]
  clear d0 g0
  generalize ha : y * W + x = a at d1 d2 ⊢
  generalize hbb : y2 * W + x2 = b at g1 g2 ⊢
  refine sp_least ht ⟨d1, d2⟩ ⟨g1, g2⟩ (fun L σ1 f1 hL ho => ?_)
  have b1 : ba_ W H σ1 := ba_eq hb (fun k hk => f1 k (by revert hk; revert k; decide)) (by rw [f1 0 (by decide)]) (by rw [f1 0 (by decide)])
  have c1 : ca_ W H σ1 := ca_eq hc (f1 0 (by decide)) (fun k _ hk => f1 k (by simp only [List.mem_cons, List.not_mem_nil, or_false]; omega))
  have m1 := b1.2.1
  have e49 : ∀ j, 0 ≤ j → j < W * H → σ1 49 j = σ 2 j := fun j j0 j1 => by rw [f1 49 (by decide)]; exact (hb.2.2.1 j j0 (by omega)).1
  unfold wp_X7_over wj_X7_over_19
  refine sm_isDot m1 (fun _ => ⟨fun q => by omega, fun _ => sm_isDot m1 (fun _ => ⟨fun q => by omega, fun _ => sm_at m1 hp (fun _ _ => sm_at m1 hp2 (fun _ _ => ⟨by omega, by omega, by omega, by omega, sm_greater ?_⟩))⟩) (fun z => absurd hp2 z)⟩) (fun z => absurd hp z)
  rw [ha, hbb, e49 a d1 d2, e49 b g1 g2]
  refine sm_spread0 (h := σ 2) m1 e49 d1 d2 (by omega) (fun N σ2 f2 b2 => ?_)
  have hσa := ht.2.2.2.2.2.1 a d1 (by omega)
  refine fb_lp4 (fun a' b' l σ' => a = a' ∧ b = b' ∧ fr_ [53, 54] σ1 σ' ∧ (max (σ 2 a) (σ 2 b) ≤ l ∧ l ≤ L) ∧ (σ' 54 b ≠ 0 ↔ rc_ W H (lo_ (σ 2) l) a b)) (fun _ _ l _ => (200 - l).toNat) ?_ a b (max (σ 2 a) (σ 2 b)) σ2 ⟨rfl, rfl, f2, by omega, ?_⟩
  · rintro a' b' l σ' ⟨rfl, rfl, hf, hl, hi⟩ r hr
    unfold wb_X7_over_68
    refine ⟨by omega, by omega, fun z => ⟨by omega, ?_⟩, fun z => ⟨?_, iv_model b1 c1 (fun k hk => hf k (by simp only [List.mem_cons, List.not_mem_nil, or_false]; omega))⟩⟩
    · have hlt : l < L := by
        rcases Int.lt_or_le l L with q | q
        · exact q
        · have e : l = L := by omega
          rw [e] at hi
          exact absurd z (hi.mpr ho.1)
      refine sm_spread0 (h := σ 2) (mv_eq m1 (hf 49 (by decide))) (fun j j0 j1 => by rw [hf 49 (by decide)]; exact e49 j j0 j1) d1 d2 (by omega) (fun N' σ3 f3 b3 => ?_)
      refine hr _ _ _ _ ⟨rfl, rfl, fr_tr hf f3, by omega, ?_⟩ (by omega)
      have := bo_se b3 g1 g2
      exact ⟨fun c => (this.mp c).elim (fun z => absurd rfl z) id, fun c => this.mpr (Or.inr c)⟩
    · rcases Int.lt_or_le l L with q | q
      · exact absurd (hi.mp z) (ho.2 l hl.1 q)
      · omega
  · have := bo_se b2 g1 g2
    exact ⟨fun c => (this.mp c).elim (fun z => absurd rfl z) id, fun c => this.mpr (Or.inr c)⟩
theorem su_step {f : Int → Int} {i : Int} (i0 : 0 ≤ i) : su_ f (i + 1).toNat = su_ f i.toNat + f i := su_snoc i0
theorem op_wet {x y L w : Int} (h : iv_ σ) : wp_X6_wet x y L w σ (fun r σ1 => wp_X7_wet x y L w σ1 (fun r2 σ2 => r = r2 ∧ iv_ σ2)) := by
  obtain ⟨W, H, hb, hc⟩ := h
  have ht := hb.1
  have hm := hb.2.1
  have hw := tv_wh ht
  have no : ¬ ((0 ≤ x ∧ x < W ∧ 0 ≤ y ∧ y < H) ∧ (0 ≤ L ∧ L ≤ 99) ∧ (0 ≤ w ∧ w ≤ 2)) → wp_X7_wet x y L w σ (fun r2 σ2 => (-2 : Int) = r2 ∧ iv_ σ2) := fun hn => by
    unfold wp_X7_wet wj_X7_wet_29
    have z : (-2 : Int) = -2 ∧ iv_ σ := ⟨rfl, W, H, hb, hc⟩
    exact sm_isDot hm (fun a1 => ⟨fun q => by omega, fun _ => sm_in (fun a2 a3 => ⟨fun q => by omega, fun _ => sm_in (fun a4 a5 => absurd ⟨a1, ⟨a2, a3⟩, a4, a5⟩ hn) (fun _ => ⟨fun _ => z, fun q => absurd rfl q⟩)⟩) (fun _ => ⟨fun _ => z, fun q => absurd rfl q⟩)⟩) (fun _ => ⟨fun _ => z, fun q => absurd rfl q⟩)
  unfold wp_X6_wet wj_X6_wet_37
  refine sp_dotAt2 ht.1 ht.2.1 ht.2.2.2.1 ht.2.2.2.2.1 ⟨fun q => no (fun z => (dt_is hw.1).1.mp q z.1), fun q => sp_within (fun l0 l1 => ⟨fun q => by omega, fun _ => sp_within (fun w0 w1 => ⟨fun q => by omega, fun _ => ?_⟩) (fun hn => ⟨fun _ => no (fun z => hn z.2.2), fun q => absurd rfl q⟩)⟩) (fun hn => ⟨fun _ => no (fun z => hn z.2.1), fun q => absurd rfl q⟩)⟩
  clear no
  have hp : 0 ≤ x ∧ x < W ∧ 0 ≤ y ∧ y < H := Classical.byContradiction (fun z => q ((dt_is hw.1).1.mpr z))
  obtain ⟨d0, d1, d2⟩ := (dt_is (H := H) hw.1).2 hp
  rw [d0]
  clear d0
  generalize ha : y * W + x = a at d1 d2 ⊢
  refine sp_from0 (h := σ 2) (L := L) ht (fun _ _ _ => rfl) d1 d2 (fun s f1 bo => ?_)
  have b1 : ba_ W H s := ba_eq hb (fun k hk => f1 k (by revert hk; revert k; decide)) (by rw [f1 0 (by decide)]) (by rw [f1 0 (by decide)])
  have c1 : ca_ W H s := ca_eq hc (f1 0 (by decide)) (fun k _ hk => f1 k (by simp only [List.mem_cons, List.not_mem_nil, or_false]; omega))
  have m1 := b1.2.1
  have t1 := b1.1
  have e2 : s 2 = σ 2 := f1 2 (by decide)
  have e49 : ∀ j, 0 ≤ j → j < W * H → s 49 j = σ 2 j := fun j j0 j1 => by rw [f1 49 (by decide)]; exact (hb.2.2.1 j j0 (by omega)).1
  have hN : 0 ≤ s 5 0 ∧ s 5 0 ≤ 144 := ⟨bo.1.1, by have := bf_le (by omega) bo.1; omega⟩
  have hre : ∀ k, 0 ≤ k → k < s 5 0 → (0 ≤ s 6 k ∧ s 6 k < W * H) ∧ (0 ≤ σ 2 (s 6 k) ∧ σ 2 (s 6 k) ≤ L) := fun k k0 k1 => ⟨(bo.1.2.1 k k0 k1).2, (ht.2.2.2.2.2.1 _ (bo.1.2.1 k k0 k1).2.1 (by have := (bo.1.2.1 k k0 k1).2.2; omega)).1, (rc_P (bo.1.2.1 k k0 k1).1).1⟩
  have yes : ∀ r : Int, (¬ σ 2 a ≤ L → r = if w = 2 then -6 else 0) → (σ 2 a ≤ L → (w = 0 → r = s 5 0) ∧ (w = 1 → r = su_ (fun k => L - σ 2 (s 6 k)) (s 5 0).toNat) ∧ (w = 2 → ∃ v, ml_ (es_ W H (s 6) (fun b => ¬ (0 ≤ s 2 b ∧ s 2 b ≤ L)) (s 5 0) 0) (s 2) v ∧ r = en_ v)) → wp_X7_wet x y L w s (fun r2 σ2 => r = r2 ∧ iv_ σ2) := fun r r1 r2 => by
    unfold wp_X7_wet wj_X7_wet_29 wj_X7_wet_63
    refine sm_isDot m1 (fun _ => ⟨fun q => by omega, fun _ => sm_in (fun _ _ => ⟨fun q => by omega, fun _ => sm_in (fun _ _ => ⟨fun q => by omega, fun _ => sm_at m1 hp (fun _ _ => ⟨by omega, by omega, ?_⟩)⟩) (fun z => absurd ⟨w0, w1⟩ z)⟩) (fun z => absurd ⟨l0, l1⟩ z)⟩) (fun z => absurd hp z)
    rw [ha, e49 a d1 d2]
    have I : iv_ s := ⟨W, H, b1, c1⟩
    refine ⟨fun z => ⟨fun q => ⟨by rw [r1 (by omega), if_pos q], I⟩, fun q => ⟨by rw [r1 (by omega), if_neg q], I⟩⟩, fun z => ?_⟩
    obtain ⟨v0, v1, v2⟩ := r2 (by omega)
    clear r1 r2
    refine sm_spread0 (h := σ 2) m1 e49 d1 d2 (by omega) (fun N s' f2 bo2 => ?_)
    have eN := bo_NN hw.2.1 bo bo2
    have I2 : iv_ s' := iv_model b1 c1 (fun k hk => f2 k (by simp only [List.mem_cons, List.not_mem_nil, or_false]; omega))
    have f49 : ∀ j, 0 ≤ j → j < W * H → s' 49 j = σ 2 j := fun j j0 j1 => by rw [f2 49 (by decide)]; exact e49 j j0 j1
    have hre2 : ∀ k, 0 ≤ k → k < N → (0 ≤ s' 53 k ∧ s' 53 k < W * H) ∧ (0 ≤ σ 2 (s' 53 k) ∧ σ 2 (s' 53 k) ≤ L) := fun k k0 k1 => ⟨(bo2.1.2.1 k k0 k1).2, (ht.2.2.2.2.2.1 _ (bo2.1.2.1 k k0 k1).2.1 (by have := (bo2.1.2.1 k k0 k1).2.2; omega)).1, (rc_P (bo2.1.2.1 k k0 k1).1).1⟩
    refine ⟨fun q => sm_leastBeside (mv_eq m1 (f2 49 (by decide))) (by omega) (fun k k0 k1 => (hre2 k k0 k1).1) (fun u u0 u1 hu => ⟨?_, I2⟩), fun q => ?_⟩
    · obtain ⟨v, hv, rfl⟩ := v2 q
      congr 1
      have i1 : ∀ b, es_ W H (s 6) (fun b => ¬ (0 ≤ s 2 b ∧ s 2 b ≤ L)) (s 5 0) 0 b ↔ es_ W H (s' 53) (fun b => s' 54 b = 0) N 0 b := fun b => by
        rw [es_end hw.1 d1 d2 bo, es_end hw.1 d1 d2 bo2]
        constructor
        · rintro ⟨c, hc1, hc2, hc3⟩
          have hb2 := ad_lt hw.1 hc2
          refine ⟨c, hc1, hc2, Classical.byContradiction (fun z => hc3 ?_)⟩
          have := (bo_se bo2 hb2.1 hb2.2).mp z
          have h3 : σ 2 b ≤ L := this.elim (fun z => absurd rfl z) (fun z => (rc_P z).1)
          rw [e2]
          exact ⟨(ht.2.2.2.2.2.1 b hb2.1 (by omega)).1, h3⟩
        · rintro ⟨c, hc1, hc2, hc3⟩
          have hb2 := ad_lt hw.1 hc2
          refine ⟨c, hc1, hc2, fun z => ?_⟩
          rw [e2] at z
          exact (bo_se bo2 hb2.1 hb2.2).mpr (Or.inr (rc_step hc1 hc2 z.2)) hc3
      have rng : ∀ b, es_ W H (s 6) (fun b => ¬ (0 ≤ s 2 b ∧ s 2 b ≤ L)) (s 5 0) 0 b → 0 ≤ b ∧ b < W * H := fun b hb2 => by
        obtain ⟨c, hc1, hc2, -⟩ := (es_end hw.1 d1 d2 bo b).mp hb2
        exact ad_lt hw.1 hc2
      refine ml_uniq i1 (fun b hb2 => ?_) (fun b hb2 => ?_) hv hu
      · have := rng b hb2
        rw [e2, f49 b this.1 this.2]
      · have := rng b hb2
        rw [e2]; exact (ht.2.2.2.2.2.1 b this.1 (by omega)).2
    · refine fb_lp6 (fun L' w' N' u k σ' => (L = L' ∧ w = w' ∧ N = N' ∧ s' = σ') ∧ 0 ≤ k ∧ k ≤ N ∧ u = su_ (fun k => L - σ 2 (s' 53 k)) k.toNat) (fun _ _ _ _ k _ => (200 - k).toNat) ?_ L w N 0 0 s' ⟨⟨rfl, rfl, rfl, rfl⟩, Int.le_refl 0, by omega, rfl⟩
      rintro L' w' N' u k σ' ⟨⟨rfl, rfl, rfl, rfl⟩, k0, k1, hu⟩ rr hrr
      unfold wb_X7_wet_93 wj_X7_wet_137
      have bd := su_max (f := fun k => L - σ 2 (s' 53 k)) k.toNat (fun j j0 j1 => by have := (hre2 j j0 (by omega)).2; omega)
      rw [← hu] at bd
      refine ⟨fun c => ?_, fun c => ⟨fun z => ⟨by rw [v0 z, eN], I2⟩, fun z => ⟨?_, I2⟩⟩⟩
      · have hk := hre2 k k0 c
        rw [f49 _ hk.1.1 hk.1.2]
        refine ⟨by omega, by omega, by omega, by omega, by omega, by omega, ?_⟩
        intro v hv
        refine ⟨by omega, hrr _ _ _ _ _ _ ⟨⟨rfl, rfl, rfl, rfl⟩, by omega, by omega, ?_⟩ (by omega)⟩
        rw [su_step k0, hv, hu]
      · have ek : k = N := by omega
        rw [v1 (by omega), hu, ek]
        exact bo_sum hw.2.1 bo bo2 (fun j => L - σ 2 j)
  have emp : ¬ σ 2 a ≤ L → s 5 0 = 0 := fun z => by
    rcases Int.lt_or_le 0 (s 5 0) with q | q
    · exact absurd (rc_P (bo.1.2.1 0 (Int.le_refl 0) q).1).2 z
    · omega
  refine ⟨fun e => ?_, fun e => ?_, fun e => ?_⟩
  · exact yes _ (fun z => by rw [if_neg (by omega)]; exact emp z) (fun _ => ⟨fun _ => rfl, fun z => by omega, fun z => by omega⟩)
  · unfold wp_X4_waterBelow
    refine fb_lp4 (fun L' u k σ' => (L = L' ∧ s = σ') ∧ 0 ≤ k ∧ k ≤ s 5 0 ∧ u = su_ (fun k => L - σ 2 (s 6 k)) k.toNat) (fun _ _ k _ => (200 - k).toNat) ?_ L 0 0 s ⟨⟨rfl, rfl⟩, Int.le_refl 0, by omega, rfl⟩
    rintro L' u k σ' ⟨⟨rfl, rfl⟩, k0, k1, hu⟩ rr hrr
    unfold wb_X4_waterBelow_5
    have bd := su_max (f := fun k => L - σ 2 (s 6 k)) k.toNat (fun j j0 j1 => by have := (hre j j0 (by omega)).2; omega)
    rw [← hu] at bd
    refine ⟨fun c => ?_, fun c => ?_⟩
    · have hk := hre k k0 c
      rw [e2]
      refine ⟨by omega, by omega, by omega, by omega, by omega, by omega, ?_⟩
      intro v hv
      refine ⟨by omega, hrr _ _ _ _ ⟨⟨rfl, rfl⟩, by omega, by omega, ?_⟩ (by omega)⟩
      rw [su_step k0, hv, hu]
    · have ek : k = s 5 0 := by omega
      refine yes _ (fun z => ?_) (fun _ => ⟨fun z => by omega, fun _ => by rw [hu, ek], fun z => by omega⟩)
      rw [hu, ek, emp z, if_neg (by omega)]; rfl
  · refine sp_lowestAround t1 hN (fun k k0 k1 => (hre k k0 k1).1) (fun v hv => ?_)
    have hw2 : w = 2 := by omega
    have z100 : ¬ σ 2 a ≤ L → v = 100 := fun z => by
      rcases hv.2 with q | ⟨b, hb2, -⟩
      · exact q
      · rw [emp z] at hb2; exact absurd hb2 es_0
    unfold wp_X6_heightOrNone wj_X6_heightOrNone_12
    refine ⟨fun q => ?_, fun q => ?_⟩
    · exact yes _ (fun z => by rw [if_pos hw2]) (fun _ => ⟨fun z => by omega, fun z => by omega, fun _ => ⟨v, hv, by unfold en_; rw [if_pos q]⟩⟩)
    · exact yes _ (fun z => absurd (z100 z) q) (fun _ => ⟨fun z => by omega, fun z => by omega, fun _ => ⟨v, hv, by unfold en_; rw [if_neg q]⟩⟩)
end OVR
