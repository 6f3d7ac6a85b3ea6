section MPO
variable {W H : Int} {h ow : Int → Int} {σ : fb_St}
theorem pn_rng (hx : mx_ W H h ow σ) {b o x : Int} (a : pn_ W H h ow b o x) : (0 ≤ x ∧ x ≤ 99) ∧ 1 ≤ o ∧ o ≤ 99 := by
  have hw := mv_wh hx.1
  have hbs := pn_bs hw.1 a
  obtain ⟨j, hj, ej⟩ := hbs.2
  have h1 := (hx.2.2 j hj.1 hj.2).2
  obtain ⟨z, ⟨k, k0, -, e1, -⟩ | ⟨k, d, k0, d0, n0, e1, -⟩⟩ := a
  · have h2 := hx.2.1 k k0.1 k0.2
    exact ⟨by omega, by omega⟩
  · have hr := nb_rng d hw.1 k0.1 k0.2
    have h2 := hx.2.1 k k0.1 k0.2
    have h3 := hx.2.1 (nb_ W H k d) (by omega) (by omega)
    exact ⟨by omega, by omega⟩
theorem sm_wayOut {b : Int} (hx : mx_ W H h ow σ) (hb : 1 ≤ b ∧ b ≤ 99) {Q : Int → fb_St → Prop} (hq : ∀ σ' v o, fr_ [65] σ σ' → lm_ (pn_ W H h ow b) v o → (o ≠ -6 → σ' 65 o = v) → Q o σ') : wp_X7_wayOut b σ Q := by
  unfold wp_X7_wayOut
  refine sm_layPasses hx hb (fun σ1 hf1 hl1 => ?_)
  refine fb_lp3 (fun x2 x3 σ' => σ1 = σ' ∧ 1 ≤ x3 ∧ x3 ≤ 100 ∧ ∃ u, lm_ (fun o x => pn_ W H h ow b o x ∧ o < x3) u x2 ∧ (x2 ≠ -6 → σ1 65 x2 = u ∧ 1 ≤ x2 ∧ x2 < x3 ∧ 0 ≤ u ∧ u ≤ 99)) (fun _ x3 _ => (100 - x3).toNat) ?_ (-6) 1 σ1 ⟨rfl, by omega, by omega, 100, Or.inl ⟨rfl, rfl, fun o x q => ?_⟩, fun q => absurd rfl q⟩
  rotate_left
  · have := (pn_rng hx q.1).2; omega
  rintro x2 x3 σ' ⟨rfl, c0, c1, u, hu, hu2⟩ r10 hr10
  unfold wb_X7_wayOut_10 wj_X7_wayOut_44 wj_X7_wayOut_48 wj_X7_wayOut_49
  refine ⟨fun c => ⟨by omega, c, ?_⟩, fun c => hq σ1 u x2 hf1 (lm_same (fun o x => ⟨fun q => ⟨q, ?_⟩, fun q => q.1⟩) hu) (fun q => (hu2 q).1)⟩
  · obtain ⟨w, w0, w1, w2⟩ := hl1 x3 c0 (by omega)
    have hw9 : ∀ x, pn_ W H h ow b x3 x → x ≤ 99 := fun x q => (pn_rng hx q).1.2
    have ew : σ1 65 x3 < 0 ↔ w = 100 := by rw [w1]; unfold en_; split <;> omega
    have hx2 : x2 = -6 ∨ x2 ≠ -6 := by omega
    have keep : (∀ x, pn_ W H h ow b x3 x → x2 ≠ -6 ∧ u ≤ x) → fb_in (x3 + 1) ∧ r10 x2 (x3 + 1) σ1 := by
      intro z
      refine ⟨by omega, hr10 _ _ _ ⟨rfl, by omega, by omega, u, ?_, fun q => by have := hu2 q; omega⟩ (by omega)⟩
      rcases hu with ⟨a1, a2, a3⟩ | ⟨a1, a2, a3⟩
      · refine Or.inl ⟨a1, a2, fun o x q => ?_⟩
        by_cases eo : o = x3
        · rw [eo] at q; exact (z x q.1).1 a2
        · exact a3 o x ⟨q.1, by omega⟩
      · refine Or.inr ⟨⟨a1.1, by omega⟩, a2, fun o x q => ?_⟩
        by_cases eo : o = x3
        · rw [eo] at q
          have h1 := (z x q.1).2
          have h2 := a1.2
          omega
        · exact a3 o x ⟨q.1, by omega⟩
    have new : w ≠ 100 → (x2 ≠ -6 → w < u) → fb_in (x3 + 1) ∧ r10 x3 (x3 + 1) σ1 := by
      intro z1 z2
      have hp : pn_ W H h ow b x3 w := by
        rcases w2.2 with q | ⟨x, q1, q2⟩
        · exact absurd q z1
        · rw [← q2]; exact q1
      have hwr := (pn_rng hx hp).1
      refine ⟨by omega, hr10 _ _ _ ⟨rfl, by omega, by omega, w, Or.inr ⟨⟨hp, by omega⟩, hwr, fun o x q => ?_⟩, fun _ => ⟨by rw [w1]; unfold en_; rw [if_neg z1], by omega, by omega, hwr.1, hwr.2⟩⟩ (by omega)⟩
      by_cases eo : o = x3
      · rw [eo] at q
        have : w ≤ x := w2.1 x q.1
        omega
      · rcases hu with ⟨a1, a2, a3⟩ | ⟨a1, a2, a3⟩
        · exact absurd ⟨q.1, by omega⟩ (a3 o x)
        · have h1 := a3 o x ⟨q.1, by omega⟩
          have h2 : x2 ≠ -6 := by
            have := (pn_rng hx a1.1).2; omega
          have := z2 h2
          omega
    refine ⟨fun z => keep (fun x q => ?_), fun z => ⟨fun y => new (fun q => z (ew.mpr q)) (fun q => by have := hu2 q; omega), fun y => ?_⟩⟩
    · have h1 : w ≤ x := w2.1 x q
      have h2 := hw9 x q
      have h3 := ew.mp z
      omega
    · have h6 : x2 ≠ -6 := by omega
      obtain ⟨g1, g2, g3, g4, g5⟩ := hu2 h6
      have ew2 : σ1 65 x3 = w := by rw [w1]; unfold en_; rw [if_neg (fun q => z (ew.mpr q))]
      refine ⟨by omega, by omega, by omega, by omega, fun v => new (fun q => z (ew.mpr q)) (fun _ => by omega), fun v => keep (fun x q => ⟨h6, ?_⟩)⟩
      have h1 := w2.1 x q
      have h1' : w ≤ x := h1
      omega
  · have := (pn_rng hx q).2; omega
theorem sm_leastHeight {b : Int} (hx : mx_ W H h ow σ) {Q : Int → fb_St → Prop} (hq : ∀ v, (0 ≤ v ∧ v ≤ 100) → ml_ (fun j => (0 ≤ j ∧ j < W * H) ∧ ow j = b) h v → Q (en_ v) σ) : wp_X7_leastHeight b σ Q := by
  have hw := mv_wh hx.1
  unfold wp_X7_leastHeight
  refine fb_lp4 (fun x1 x2 i σ' => b = x1 ∧ σ = σ' ∧ 0 ≤ i ∧ i ≤ W * H ∧ ∃ v, (0 ≤ v ∧ v ≤ 100) ∧ x2 = en_ v ∧ ml_ (fun j => (0 ≤ j ∧ j < i) ∧ ow j = b) h v) (fun _ _ i _ => (200 - i).toNat) ?_ b (-6) 0 σ ⟨rfl, rfl, Int.le_refl 0, by omega, 100, by omega, rfl, fun j hj => by omega, Or.inl rfl⟩
  rintro x1 x2 i σ' ⟨rfl, rfl, i0, i1, v, v0, rfl, hv⟩ r5 hr5
  unfold wb_X7_leastHeight_5 wj_X7_leastHeight_37
  refine sm_dots hx.1 ⟨fun c => ⟨i0, by omega, ?_⟩, fun c => hq v v0 (by rw [show i = W * H by omega] at hv; exact hv)⟩
  have hoi := hx.2.2 i i0 c
  have hhi := hx.2.1 i i0 c
  rw [hoi.1, hhi.1]
  refine ⟨fun z => ⟨i0, by omega, sm_lesser v0 (by omega) ⟨by omega, hr5 _ _ _ _ ⟨rfl, rfl, by omega, by omega, min v (h i), by omega, rfl, ml_ins (b := i) (fun j => ⟨fun q => ?_, fun q => ?_⟩) hv⟩ (by omega)⟩⟩, fun z => ⟨by omega, hr5 _ _ _ _ ⟨rfl, rfl, by omega, by omega, v, v0, rfl, ml_same (fun j => ⟨fun q => ?_, fun q => ⟨by omega, q.2⟩⟩) hv⟩ (by omega)⟩⟩
  · by_cases e : j = i
    · exact Or.inr e
    · exact Or.inl ⟨by omega, q.2⟩
  · rcases q with q | q
    · exact ⟨by omega, q.2⟩
    · rw [q]; exact ⟨by omega, z⟩
  · refine ⟨?_, q.2⟩
    by_cases e : j = i
    · rw [e] at q; exact absurd q.2 z
    · omega
theorem sm_sizeOf {b kind v o : Int} (hx : mx_ W H h ow σ) (hl : lm_ (pn_ W H h ow b) v o) (hk : kind = 0 ∨ kind = 1 ∨ kind = 2) {Q : Int → fb_St → Prop} (hq : Q (sz_ W H h ow kind b) σ) : wp_X7_sizeOf b kind (en_ v) σ Q := by
  have hw := mv_wh hx.1
  have hr := lm_rng hl
  have ev : en_ v < 0 ↔ v = 100 := by unfold en_; split <;> omega
  have ev2 : v ≠ 100 → en_ v = v := fun z => by unfold en_; rw [if_neg z]
  unfold sz_ at hq
  rw [lq_eq hl] at hq
  dsimp only at hq
  unfold wp_X7_sizeOf
  refine ⟨fun z => sm_dotsOf hx.1 (fun j j0 j1 => (hx.2.2 j j0 j1).1) (by rw [if_pos z] at hq; exact hq), fun z => ⟨fun y => by rw [if_neg z, if_pos (ev.mp y)] at hq; exact hq, fun y => ?_⟩⟩
  have y' : v ≠ 100 := fun q => y (ev.mpr q)
  rw [if_neg z, if_neg y'] at hq
  rw [ev2 y']
  refine ⟨fun u => sm_leastHeight hx (fun m m0 hm => ?_), fun u => ?_⟩
  · rw [if_pos u, mh_eq (fun j j0 j1 => (hx.2.1 j j0 j1).2.2) hm] at hq
    have em : en_ m = m := by
      unfold en_
      rw [if_neg]
      intro e
      rcases hl with ⟨q, -⟩ | ⟨q, -⟩
      · exact y' q
      · obtain ⟨j, hj, ej⟩ := (pn_bs hw.1 q).1
        have h1 := hm.1 j ⟨hj, ej⟩
        have h2 := hx.2.1 j hj.1 hj.2
        omega
    rw [em]
    exact ⟨by omega, sm_greater hq⟩
  · rw [if_neg u] at hq
    refine fb_lp5 (fun x1 x3 s i σ' => b = x1 ∧ v = x3 ∧ σ = σ' ∧ 0 ≤ i ∧ i ≤ W * H ∧ s = wa_ h ow v b i.toNat) (fun _ _ _ i _ => (200 - i).toNat) ?_ b v 0 0 σ ⟨rfl, rfl, rfl, Int.le_refl 0, by omega, rfl⟩
    rintro x1 x3 s i σ' ⟨rfl, rfl, rfl, i0, i1, rfl⟩ r43 hr43
    have es : wa_ h ow v b (i + 1).toNat = wa_ h ow v b i.toNat + (if ow i = b then max (v - h i) 0 else 0) := su_snoc i0
    have hb : 0 ≤ wa_ h ow v b i.toNat ∧ wa_ h ow v b i.toNat ≤ 100 * i.toNat := su_max (f := fun j => if ow j = b then max (v - h j) 0 else 0) i.toNat (fun j j0 j1 => by
      have := hx.2.1 j j0 (by omega)
      split <;> omega)
    unfold wb_X7_sizeOf_43 wj_X7_sizeOf_82
    refine sm_dots hx.1 ⟨fun c => ⟨i0, by omega, ?_⟩, fun c => by rw [show i = W * H by omega]; exact hq⟩
    have hhi := hx.2.1 i i0 c
    rw [(hx.2.2 i i0 c).1, hhi.1]
    refine ⟨fun q => ⟨i0, by omega, by omega, sm_greater ⟨by omega, fun w hw => ⟨by omega, hr43 _ _ _ _ _ ⟨rfl, rfl, rfl, by omega, by omega, by rw [es, if_pos q]; exact hw⟩ (by omega)⟩⟩⟩, fun q => ⟨by omega, fun w hw => ⟨by omega, hr43 _ _ _ _ _ ⟨rfl, rfl, rfl, by omega, by omega, by rw [es, if_neg q]; exact hw⟩ (by omega)⟩⟩⟩
theorem sm_pourOne {b t : Int} (hx : mx_ W H h ow σ) (ht : 0 ≤ t ∧ t ≤ 99) {Q : Int → fb_St → Prop}
    (hq : ∀ σ', fr_ [60, 66] σ σ' → (∀ j, 0 ≤ j → j < W * H → σ' 60 j = wd_ W H (p1_ ow b t) j) → Q (dg_ W H (p1_ ow b t) (W * H).toNat) σ') : wp_X7_pourOne b t σ Q := by
  have hw := mv_wh hx.1
  unfold wp_X7_pourOne
  refine fb_lp4 (fun x1 x2 i σ' => b = x1 ∧ t = x2 ∧ 0 ≤ i ∧ i ≤ W * H ∧ fr_ [60] σ σ' ∧ (∀ j, 0 ≤ j → j < i → σ' 60 j = p1_ ow b t j) ∧ (∀ j, i ≤ j → j < W * H → σ' 60 j = ow j)) (fun _ _ i _ => (200 - i).toNat) ?_ b t 0 σ ⟨rfl, rfl, Int.le_refl 0, by omega, fr_rf, fun j j0 j1 => by omega, fun j j0 j1 => (hx.2.2 j j0 j1).1⟩
  rintro x1 x2 i σ1 ⟨rfl, rfl, i0, i1, hf1, ha, hb⟩ r2 hr2
  have hm1 : mv_ W H σ1 := mv_eq hx.1 (hf1 49 (by decide))
  unfold wb_X7_pourOne_2 wj_X7_pourOne_35
  refine sm_dots hm1 ⟨fun c => ⟨i0, by omega, ?_⟩, fun c => ?_⟩
  · rw [hb i (Int.le_refl i) c]
    have go : ∀ v, v = p1_ ow b t i → (0 ≤ i ∧ i < 144 ∧ ∀ σ31 : fb_St, σ31 = fb_up σ1 60 i v → fb_in (i + 1) ∧ r2 b t (i + 1) σ31) := by
      intro v hv
      refine ⟨i0, by omega, fun σ2 h2 => ⟨by omega, hr2 _ _ _ _ ⟨rfl, rfl, by omega, by omega, fr_tr hf1 (by rw [h2]; exact fr_up (by decide)), fun j j0 j1 => ?_, fun j j0 j1 => ?_⟩ (by omega)⟩⟩
      · rw [h2, up_eq]; dsimp only
        by_cases e : j = i
        · rw [if_pos e, e]; exact hv
        · rw [if_neg e]; exact ha j j0 (by omega)
      · rw [h2, up_eq]; dsimp only
        rw [if_neg (by omega)]; exact hb j (by omega) j1
    refine ⟨fun z => go _ (by unfold p1_; rw [if_pos z]), fun z => ?_⟩
    have := go (ow i) (by unfold p1_; rw [if_neg z])
    exact ⟨i0, by omega, this⟩
  have ei : i = W * H := by omega
  subst ei
  have hv : vo_ W H (p1_ ow b t) := p1_vo (fun j j0 j1 => (hx.2.2 j j0 j1).2) ht
  generalize hw1 : p1_ ow b t = ow1 at *
  refine fb_lp3 (fun g i σ' => 0 ≤ i ∧ i ≤ W * H ∧ g = dg_ W H ow1 i.toNat ∧ fr_ [66] σ1 σ' ∧ (∀ j, 0 ≤ j → j < i → σ' 66 j = wd_ W H ow1 j)) (fun _ i _ => (200 - i).toNat) ?_ 0 0 σ1 ⟨Int.le_refl 0, by omega, rfl, fr_rf, fun j j0 j1 => by omega⟩
  rintro g i σ2 ⟨i0, i1, rfl, hf2, hc⟩ r47 hr47
  have hm2 : mv_ W H σ2 := mv_eq hm1 (hf2 49 (by decide))
  have ho2 : ∀ j, 0 ≤ j → j < W * H → σ2 60 j = ow1 j := fun j j0 j1 => by rw [hf2 60 (by decide)]; exact ha j j0 j1
  have hgb : 0 ≤ dg_ W H ow1 i.toNat ∧ dg_ W H ow1 i.toNat ≤ i.toNat := su_bd (f := fun j => if ow1 j = 0 ∧ 0 < ar_ W H ow1 j then 1 else 0) i.toNat (fun j _ _ => by split <;> omega)
  have es : dg_ W H ow1 (i + 1).toNat = dg_ W H ow1 i.toNat + (if ow1 i = 0 ∧ 0 < ar_ W H ow1 i then 1 else 0) := su_snoc i0
  unfold wb_X7_pourOne_47 wj_X7_pourOne_113
  refine sm_dots hm2 ⟨fun c => ⟨i0, by omega, i0, by omega, fun σ3 h3 => ⟨i0, by omega, ?_⟩⟩, fun c => ?_⟩
  · rw [ho2 i i0 c] at h3
    have hf3 : fr_ [66] σ1 σ3 := fr_tr hf2 (by rw [h3]; exact fr_up (by decide))
    have hm3 : mv_ W H σ3 := mv_eq hm1 (hf3 49 (by decide))
    have ho3 : ∀ j, 0 ≤ j → j < W * H → σ3 60 j = ow1 j := fun j j0 j1 => by rw [hf3 60 (by decide)]; exact ha j j0 j1
    have k66 : σ3 66 = fun j => if j = i then ow1 i else σ2 66 j := by rw [h3, up_eq]
    have keep : ¬ (ow1 i = 0 ∧ 0 < ar_ W H ow1 i) → fb_in (i + 1) ∧ r47 (dg_ W H ow1 i.toNat) (i + 1) σ3 := fun z => ⟨by omega, hr47 _ _ _ ⟨by omega, by omega, by rw [es, if_neg z]; omega, hf3, fun j j0 j1 => by
      rw [k66]; dsimp only
      by_cases ej : j = i
      · rw [if_pos ej, ej]; unfold wd_; rw [if_neg z]
      · rw [if_neg ej]; exact hc j j0 (by omega)⟩ (by omega)⟩
    rw [ho3 i i0 c]
    refine ⟨fun z => sm_basinBeside (ow := ow1) hm3 ⟨i0, c⟩ ho3 ⟨fun y => sm_basinBeside (ow := ow1) hm3 ⟨i0, c⟩ ho3 ⟨i0, by omega, fun σ4 h4 => ⟨by omega, by omega, ?_⟩⟩, fun y => keep (fun q => y q.2)⟩, fun z => keep (fun q => z q.1)⟩
    refine hr47 _ _ _ ⟨by omega, by omega, by rw [es, if_pos ⟨z, y⟩], fr_tr hf3 (by rw [h4]; exact fr_up (by decide)), fun j j0 j1 => ?_⟩ (by omega)
    rw [h4, up_eq, k66]; dsimp only
    by_cases ej : j = i
    · rw [if_pos ej, ej]; unfold wd_; rw [if_pos ⟨z, y⟩]
    · rw [if_neg ej, if_neg ej]; exact hc j j0 (by omega)
  have ei : i = W * H := by omega
  subst ei
  refine fb_lp3 (fun g i σ' => g = dg_ W H ow1 (W * H).toNat ∧ 0 ≤ i ∧ i ≤ W * H ∧ fr_ [60] σ2 σ' ∧ ∀ j, 0 ≤ j → j < i → σ' 60 j = wd_ W H ow1 j) (fun _ i _ => (200 - i).toNat) ?_ _ 0 σ2 ⟨rfl, Int.le_refl 0, by omega, fr_rf, fun j j0 j1 => by omega⟩
  rintro g i σ3 ⟨rfl, j0, j1, hf3, hd⟩ r122 hr122
  have hm3 : mv_ W H σ3 := mv_eq hm2 (hf3 49 (by decide))
  unfold wb_X7_pourOne_122
  refine sm_dots hm3 ⟨fun c2 => ⟨j0, by omega, j0, by omega, fun σ4 h4 => ⟨by omega, ?_⟩⟩, fun c2 => ?_⟩
  · rw [hf3 66 (by decide), hc i j0 c2] at h4
    refine hr122 _ _ _ ⟨rfl, by omega, by omega, fr_tr hf3 (by rw [h4]; exact fr_up (by decide)), fun j q0 q1 => ?_⟩ (by omega)
    rw [h4, up_eq]; dsimp only
    by_cases ej : j = i
    · rw [if_pos ej, ej]
    · rw [if_neg ej]; exact hd j q0 (by omega)
  · exact hq σ3 (fr_tr (fr_wk hf1 (by decide)) (fr_tr (fr_wk hf2 (by decide)) (fr_wk hf3 (by decide)))) (fun j q0 q1 => hd j q0 (by omega))
end MPO
