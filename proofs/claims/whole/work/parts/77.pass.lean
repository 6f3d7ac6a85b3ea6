section PAS
variable {W H : Int} {σ : fb_St} {h ow : Int → Int}
def Pd_ (W H : Int) (h ow : Int → Int) (b o k v : Int) : Prop := ow k = 0 ∧ v = h k ∧ (∃ d, (0 ≤ d ∧ d < 4) ∧ ob_ W H ow k d = b) ∧ ∃ d, (0 ≤ d ∧ d < 4) ∧ ob_ W H ow k d = o
def Po_ (W H : Int) (h ow : Int → Int) (b o k e v : Int) : Prop := (0 ≤ e ∧ e < 4) ∧ nb_ W H k e ≠ -1 ∧ v = max (h k) (h (nb_ W H k e)) ∧ ow k = b ∧ ow (nb_ W H k e) = o
def ts_ (W H : Int) (h ow : Int → Int) (b o i d v : Int) : Prop := (∃ k, (0 ≤ k ∧ k < i) ∧ (Pd_ W H h ow b o k v ∨ ∃ e, Po_ W H h ow b o k e v)) ∨ ∃ e, e < d ∧ Po_ W H h ow b o i e v
theorem ts_0 {b o v : Int} : ¬ ts_ W H h ow b o 0 0 v := by
  rintro (⟨k, hk, -⟩ | ⟨e, he, hp⟩)
  · omega
  · have := hp.1; omega
theorem ts_next {b o i v : Int} (i0 : 0 ≤ i) : ts_ W H h ow b o (i + 1) 0 v ↔ ts_ W H h ow b o i 0 v ∨ Pd_ W H h ow b o i v ∨ ∃ e, Po_ W H h ow b o i e v := by
  constructor
  · rintro (⟨k, hk, hp⟩ | ⟨e, he, hp⟩)
    · by_cases q : k = i
      · subst q; exact Or.inr hp
      · exact Or.inl (Or.inl ⟨k, by omega, hp⟩)
    · have := hp.1; omega
  · rintro ((⟨k, hk, hp⟩ | ⟨e, he, hp⟩) | hp)
    · exact Or.inl ⟨k, by omega, hp⟩
    · have := hp.1; omega
    · exact Or.inl ⟨i, by omega, hp⟩
theorem ts_dam {b o i : Int} (i0 : 0 ≤ i) (hb : 0 < b) (hi : ow i = 0) (h1 : ∃ d, (0 ≤ d ∧ d < 4) ∧ ob_ W H ow i d = b) (h2 : ∃ d, (0 ≤ d ∧ d < 4) ∧ ob_ W H ow i d = o) (v : Int) : ts_ W H h ow b o (i + 1) 0 v ↔ ts_ W H h ow b o i 0 v ∨ v = h i := by
  rw [ts_next i0]
  constructor
  · rintro (q | q | ⟨e, q⟩)
    · exact Or.inl q
    · exact Or.inr q.2.1
    · have := q.2.2.2.1; omega
  · rintro (q | q)
    · exact Or.inl q
    · exact Or.inr (Or.inl ⟨hi, q, h1, h2⟩)
theorem ts_no {b o i : Int} (i0 : 0 ≤ i) (hi : ow i ≠ b) (hn : ¬ (ow i = 0 ∧ (∃ d, (0 ≤ d ∧ d < 4) ∧ ob_ W H ow i d = b) ∧ ∃ d, (0 ≤ d ∧ d < 4) ∧ ob_ W H ow i d = o)) (v : Int) : ts_ W H h ow b o (i + 1) 0 v ↔ ts_ W H h ow b o i 0 v := by
  rw [ts_next i0]
  constructor
  · rintro (q | q | ⟨e, q⟩)
    · exact q
    · exact absurd ⟨q.1, q.2.2.1, q.2.2.2⟩ hn
    · exact absurd q.2.2.2.1 hi
  · exact Or.inl
theorem ts_own {b o i : Int} (i0 : 0 ≤ i) (hb : 0 < b) (hi : ow i = b) (v : Int) : ts_ W H h ow b o (i + 1) 0 v ↔ ts_ W H h ow b o i 4 v := by
  rw [ts_next i0]
  constructor
  · rintro (q | q | ⟨e, q⟩)
    · rcases q with q | ⟨e, he, q⟩
      · exact Or.inl q
      · exact Or.inr ⟨e, by omega, q⟩
    · have := q.1; omega
    · exact Or.inr ⟨e, q.1.2, q⟩
  · rintro (q | ⟨e, he, q⟩)
    · exact Or.inl (Or.inl q)
    · exact Or.inr (Or.inr ⟨e, q⟩)
theorem ts_in {b o i d : Int} (hd : 0 ≤ d ∧ d < 4) (hi : ow i = b) (hn : nb_ W H i d ≠ -1) (ho : ow (nb_ W H i d) = o) (v : Int) : ts_ W H h ow b o i (d + 1) v ↔ ts_ W H h ow b o i d v ∨ v = max (h i) (h (nb_ W H i d)) := by
  constructor
  · rintro (q | ⟨e, he, q⟩)
    · exact Or.inl (Or.inl q)
    · by_cases z : e = d
      · subst z; exact Or.inr q.2.2.1
      · exact Or.inl (Or.inr ⟨e, by omega, q⟩)
  · rintro ((q | ⟨e, he, q⟩) | q)
    · exact Or.inl q
    · exact Or.inr ⟨e, by omega, q⟩
    · exact Or.inr ⟨d, by omega, hd, hn, q, hi, ho⟩
theorem ts_out {b o i d : Int} (hn : ¬ (nb_ W H i d ≠ -1 ∧ ow (nb_ W H i d) = o)) (v : Int) : ts_ W H h ow b o i (d + 1) v ↔ ts_ W H h ow b o i d v := by
  constructor
  · rintro (q | ⟨e, he, q⟩)
    · exact Or.inl q
    · by_cases z : e = d
      · subst z; exact absurd ⟨q.2.1, q.2.2.2.2⟩ hn
      · exact Or.inr ⟨e, by omega, q⟩
  · rintro (q | ⟨e, he, q⟩)
    · exact Or.inl q
    · exact Or.inr ⟨e, by omega, q⟩
theorem sp_touches {p : Nat} {i b : Int} {Q : Int → fb_St → Prop} (hx : px_ W H h ow p σ) (hi : 0 ≤ i ∧ i < W * H) (h1 : (∃ d, (0 ≤ d ∧ d < 4) ∧ ob_ W H ow i d = b) → Q 1 σ) (h0 : (¬ ∃ d, (0 ≤ d ∧ d < 4) ∧ ob_ W H ow i d = b) → Q 0 σ) : wp_X3_touches p i b σ Q := by
  unfold wp_X3_touches
  refine fb_lp4 (fun i' b' d σ' => i = i' ∧ b = b' ∧ σ = σ' ∧ 0 ≤ d ∧ d ≤ 4 ∧ ∀ e, 0 ≤ e → e < d → ob_ W H ow i e ≠ b) (fun _ _ d _ => (10 - d).toNat) ?_ i b 0 σ ⟨rfl, rfl, rfl, Int.le_refl 0, by omega, fun e e0 e1 => by omega⟩
  rintro i' b' d σ' ⟨rfl, rfl, rfl, d0, d1, hn⟩ r hr
  unfold wb_X3_touches_3
  refine ⟨fun q => sp_basinBeside hx.1 hi ⟨d0, q⟩ (fun j j0 j1 => (hx.2.2.2 j j0 j1).1) ⟨fun e => h1 ⟨d, ⟨d0, q⟩, e⟩, fun e => ⟨by omega, hr _ _ _ _ ⟨rfl, rfl, rfl, by omega, by omega, fun f f0 f1 => ?_⟩ (by omega)⟩⟩, fun q => h0 (fun ⟨e, e0, e1⟩ => hn e e0.1 (by omega) e1)⟩
  by_cases z : f = d
  · rw [z]; exact e
  · exact hn f f0 (by omega)
theorem sp_passBetween {p : Nat} {b o : Int} {Q : Int → fb_St → Prop} (hx : px_ W H h ow p σ) (hb : 0 < b) (ho : 0 < o) (hq : ∀ u, 0 ≤ u → u ≤ 100 → ml_ (ts_ W H h ow b o (W * H) 0) (fun v => v) u → Q u σ) : wp_X3_passBetween p b o σ Q := by
  have hw := tv_wh hx.1
  unfold wp_X3_passBetween
  refine fb_lp5 (fun b' o' u i σ' => b = b' ∧ o = o' ∧ σ = σ' ∧ 0 ≤ i ∧ i ≤ W * H ∧ (0 ≤ u ∧ u ≤ 100) ∧ ml_ (ts_ W H h ow b o i 0) (fun v => v) u) (fun _ _ _ i _ => (200 - i).toNat) ?_ b o 100 0 σ ⟨rfl, rfl, rfl, Int.le_refl 0, by omega, by omega, fun v hv => absurd hv ts_0, Or.inl rfl⟩
  rintro b' o' u i σ' ⟨rfl, rfl, rfl, i0, i1, hu, hm⟩ r hr
  unfold wb_X3_passBetween_7 wj_X3_passBetween_141
  rw [hx.1.2.2.1]
  refine ⟨fun q => ⟨by omega, by omega, ?_⟩, fun q => hq u hu.1 hu.2 (by rw [show i = W * H by omega] at hm; exact hm)⟩
  intro g hg
  obtain ⟨hh, hh0, hh1⟩ := hx.2.2.1 i i0 q
  obtain ⟨hoi, hor⟩ := hx.2.2.2 i i0 q
  rw [hh] at hg
  rw [hoi]
  refine ⟨by omega, by omega, fun z => ?_, fun z => ⟨by omega, by omega, fun z2 => ?_, fun z2 => ?_⟩⟩
  · refine sp_touches hx ⟨i0, q⟩ (fun t1 => ⟨fun n => by omega, fun _ => sp_touches hx ⟨i0, q⟩ (fun t2 => ⟨fun n => by omega, fun _ => ?_⟩) (fun t2 => ⟨fun _ => ⟨by omega, hr _ _ _ _ _ ⟨rfl, rfl, rfl, by omega, by omega, hu, ml_same (ts_no i0 (by omega) (fun y => t2 y.2.2)) hm⟩ (by omega)⟩, fun n => absurd rfl n⟩)⟩) (fun t1 => ⟨fun _ => ⟨by omega, hr _ _ _ _ _ ⟨rfl, rfl, rfl, by omega, by omega, hu, ml_same (ts_no i0 (by omega) (fun y => t1 y.2.1)) hm⟩ (by omega)⟩, fun n => absurd rfl n⟩)
    intro v hv
    refine ⟨by omega, hr _ _ _ _ _ ⟨rfl, rfl, rfl, by omega, by omega, by omega, ?_⟩ (by omega)⟩
    rw [hv, hg]
    exact ml_ins (ts_dam i0 hb z t1 t2) hm
  · refine fb_lp7 (fun b' o' u' i' g' d σ' => (b = b' ∧ o = o' ∧ i = i' ∧ g = g' ∧ σ = σ') ∧ 0 ≤ d ∧ d ≤ 4 ∧ (0 ≤ u' ∧ u' ≤ 100) ∧ ml_ (ts_ W H h ow b o i d) (fun v => v) u') (fun _ _ _ _ _ d _ => (10 - d).toNat) ?_ b o u i g 0 σ ⟨⟨rfl, rfl, rfl, rfl, rfl⟩, Int.le_refl 0, by omega, hu, hm⟩
    rintro b' o' u' i' g' d σ' ⟨⟨rfl, rfl, rfl, rfl, rfl⟩, d0, d1, hu', hm'⟩ r2 hr2
    unfold wb_X3_passBetween_83 wj_X3_passBetween_135 wj_X3_passBetween_141
    refine ⟨fun q2 => sp_neighbour (by omega) ⟨d0, q2⟩ ?_, fun q2 => ⟨by omega, hr _ _ _ _ _ ⟨rfl, rfl, rfl, by omega, by omega, hu', ml_same (ts_own i0 hb z2) (by rw [show d = 4 by omega] at hm'; exact hm')⟩ (by omega)⟩⟩
    rw [hx.1.2.2.2.2.2.2 i d i0 q d0 q2]
    have hr3 := nb_rng (W := W) (H := H) d hw.1 i0 q
    refine ⟨fun n => ⟨by omega, hr2 _ _ _ _ _ _ _ ⟨⟨rfl, rfl, rfl, rfl, rfl⟩, by omega, by omega, hu', ml_same (ts_out (fun y => y.1 n)) hm'⟩ (by omega)⟩, fun n => ?_⟩
    generalize hN : nb_ W H i d = N at hr3 n
    rw [(hx.2.2.2 N (by omega) (by omega)).1, (hx.2.2.1 N (by omega) (by omega)).1]
    have hNb := (hx.2.2.1 N (by omega) (by omega)).2
    refine ⟨by omega, by omega, fun y => ⟨by omega, by omega, ?_⟩, fun y => ⟨by omega, hr2 _ _ _ _ _ _ _ ⟨⟨rfl, rfl, rfl, rfl, rfl⟩, by omega, by omega, hu', ml_same (ts_out (fun y2 => y (by rw [← hN]; exact y2.2))) hm'⟩ (by omega)⟩⟩
    intro v hv
    refine ⟨by omega, hr2 _ _ _ _ _ _ _ ⟨⟨rfl, rfl, rfl, rfl, rfl⟩, by omega, by omega, by omega, ?_⟩ (by omega)⟩
    rw [hv, hg]
    have := ml_ins (ts_in (h := h) ⟨d0, q2⟩ z2 (by rw [hN]; exact n) (by rw [hN]; exact y)) hm'
    rw [hN] at this
    exact this
  · exact ⟨by omega, hr _ _ _ _ _ ⟨rfl, rfl, rfl, by omega, by omega, hu, ml_same (ts_no i0 z2 (fun y => z y.1)) hm⟩ (by omega)⟩
theorem sm_passOf {b o : Int} {Q : Int → fb_St → Prop} (hx : mx_ W H h ow σ) (hb : 0 < b) (ho : 0 < o) (hq : ∀ u, 0 ≤ u → u ≤ 100 → ml_ (ts_ W H h ow b o (W * H) 0) (fun v => v) u → Q (en_ u) σ) : wp_X7_passOf b o σ Q := by
  have hw := mv_wh hx.1
  unfold wp_X7_passOf
  refine fb_lp5 (fun b' o' w i σ' => b = b' ∧ o = o' ∧ σ = σ' ∧ 0 ≤ i ∧ i ≤ W * H ∧ ∃ u, (0 ≤ u ∧ u ≤ 100) ∧ w = en_ u ∧ ml_ (ts_ W H h ow b o i 0) (fun v => v) u) (fun _ _ _ i _ => (200 - i).toNat) ?_ b o (-6) 0 σ ⟨rfl, rfl, rfl, Int.le_refl 0, by omega, 100, by omega, rfl, fun v hv => absurd hv ts_0, Or.inl rfl⟩
  rintro b' o' w i σ' ⟨rfl, rfl, rfl, i0, i1, u, hu, rfl, hm⟩ r hr
  unfold wb_X7_passOf_6
  refine sm_dots hx.1 ⟨fun q => ?_, fun q => hq u hu.1 hu.2 (by rw [show i = W * H by omega] at hm; exact hm)⟩
  obtain ⟨hh, hh0, hh1⟩ := hx.2.1 i i0 q
  obtain ⟨hoi, hor⟩ := hx.2.2 i i0 q
  have low : ∀ u2 : Int, (0 ≤ u2 ∧ u2 ≤ 100) → (ow i = b → ml_ (ts_ W H h ow b o i 0) (fun v => v) u2) → (ow i ≠ b → ml_ (ts_ W H h ow b o (i + 1) 0) (fun v => v) u2) → wj_X7_passOf_57 r Q b o (en_ u2) i σ := fun u2 hu2 m1 m2 => by
    unfold wj_X7_passOf_57
    refine fb_lp6 (fun b' o' w i' d σ' => (b = b' ∧ o = o' ∧ i = i' ∧ σ = σ') ∧ 0 ≤ d ∧ d ≤ 4 ∧ ∃ u', (0 ≤ u' ∧ u' ≤ 100) ∧ w = en_ u' ∧ (ow i = b → ml_ (ts_ W H h ow b o i d) (fun v => v) u') ∧ (ow i ≠ b → ml_ (ts_ W H h ow b o (i + 1) 0) (fun v => v) u')) (fun _ _ _ _ d _ => (10 - d).toNat) ?_ b o (en_ u2) i 0 σ ⟨⟨rfl, rfl, rfl, rfl⟩, Int.le_refl 0, by omega, u2, hu2, rfl, m1, m2⟩
    rintro b' o' w i' d σ' ⟨⟨rfl, rfl, rfl, rfl⟩, d0, d1, u', hu', rfl, hm1, hm2⟩ r2 hr2
    unfold wb_X7_passOf_60 wj_X7_passOf_125 wj_X7_passOf_131
    rw [hoi]
    refine ⟨fun q2 => ⟨by omega, by omega, fun z => ?_, fun z => ⟨by omega, hr _ _ _ _ _ ⟨rfl, rfl, rfl, by omega, by omega, u', hu', rfl, hm2 z⟩ (by omega)⟩⟩, fun q2 => ⟨by omega, hr _ _ _ _ _ ⟨rfl, rfl, rfl, by omega, by omega, u', hu', rfl, ?_⟩ (by omega)⟩⟩
    rotate_left
    · have e4 : d = 4 := by omega
      subst e4
      by_cases z : ow i = b
      · exact ml_same (ts_own i0 hb z) (hm1 z)
      · exact hm2 z
    refine sm_beside hx.1 i0 q ⟨d0, q2⟩ (fun n => ⟨fun _ => ⟨by omega, hr2 _ _ _ _ _ _ ⟨⟨rfl, rfl, rfl, rfl⟩, by omega, by omega, u', hu', rfl, fun z => ml_same (ts_out (fun y => y.1 n)) (hm1 z), hm2⟩ (by omega)⟩, fun n2 => absurd (by decide) n2⟩) (fun n0 n1 => ?_)
    generalize hN : nb_ W H i d = N at n0 n1 ⊢
    refine ⟨fun n2 => by omega, fun n2 => ?_⟩
    rw [(hx.2.2 N (by omega) (by omega)).1, (hx.2.1 N (by omega) (by omega)).1, hh]
    have hNb := (hx.2.1 N (by omega) (by omega)).2
    refine ⟨by omega, by omega, fun y => ⟨by omega, by omega, by omega, by omega, sm_greater (sm_lesser hu' (by omega) ⟨by omega, hr2 _ _ _ _ _ _ ⟨⟨rfl, rfl, rfl, rfl⟩, by omega, by omega, _, ?_, rfl, fun _ => ?_, fun z2 => absurd z z2⟩ (by omega)⟩)⟩, fun y => ⟨by omega, hr2 _ _ _ _ _ _ ⟨⟨rfl, rfl, rfl, rfl⟩, by omega, by omega, u', hu', rfl, fun z => ml_same (ts_out (fun y2 => y (by rw [← hN]; exact y2.2))) (hm1 z), hm2⟩ (by omega)⟩⟩
    · omega
    · have := ml_ins (ts_in (h := h) ⟨d0, q2⟩ z (by rw [hN]; omega) (by rw [hN]; exact y)) (hm1 z)
      rw [hN] at this
      exact this
  rw [hoi]
  refine ⟨by omega, by omega, fun z => ?_, fun z => low u hu (fun _ => hm) (fun z2 => ml_same (ts_no i0 z2 (fun y => z y.1)) hm)⟩
  refine sm_hasBeside hx ⟨i0, q⟩ hb (fun t1 => ⟨fun n => by omega, fun _ => sm_hasBeside hx ⟨i0, q⟩ ho (fun t2 => ⟨fun n => by omega, fun _ => ⟨by omega, by omega, ?_⟩⟩) (fun t2 => ⟨fun _ => low u hu (fun _ => hm) (fun z2 => ml_same (ts_no i0 z2 (fun y => t2 y.2.2)) hm), fun n => absurd rfl n⟩)⟩) (fun t1 => ⟨fun _ => low u hu (fun _ => hm) (fun z2 => ml_same (ts_no i0 z2 (fun y => t1 y.2.1)) hm), fun n => absurd rfl n⟩)
  rw [hh]
  exact sm_lesser hu ⟨hh0, hh1⟩ (low _ (by omega) (fun z2 => by omega) (fun _ => ml_ins (ts_dam i0 hb z t1 t2) hm))
theorem ts_le {b o v : Int} (hW : 0 < W) (hh : ∀ j, 0 ≤ j → j < W * H → h j ≤ 99) (a : ts_ W H h ow b o (W * H) 0 v) : v ≤ 99 := by
  rcases a with ⟨k, hk, q | ⟨e, q⟩⟩ | ⟨e, he, q⟩
  · have := hh k hk.1 hk.2; have := q.2.1; omega
  · have := hh k hk.1 hk.2
    have hr := nb_rng (W := W) (H := H) e hW hk.1 hk.2
    have := q.2.1
    have h2 := hh (nb_ W H k e) (by omega) (by omega)
    have := q.2.2.1; omega
  · have := q.1; omega
theorem op_pass {b o : Int} (h : iv_ σ) : wp_X6_pass b o σ (fun r σ1 => wp_X7_pass b o σ1 (fun r2 σ2 => r = r2 ∧ iv_ σ2)) := by
  obtain ⟨W, H, hb, hc⟩ := h
  unfold wp_X6_pass wj_X6_pass_21
  refine sp_sPour hb hc (fun s b1 c1 p1 _ _ => ?_)
  have hw := tv_wh b1.1
  generalize hR : rp_ W H s = R at p1
  have hcn : ∀ c, 1 ≤ c → c ≤ 99 → s 22 c = cn_ R.1 c (W * H).toNat := fun c a d => (p1.2.1 c a d).1
  have hh : ∀ j, 0 ≤ j → j < W * H → s 2 j ≤ 99 := fun j j0 j1 => (p1.1.2.2.1 j j0 j1).2.2
  have no : ∀ r : Int, (¬ (((1 ≤ b ∧ b ≤ 99) ∧ 0 < s 22 b) ∧ ((1 ≤ o ∧ o ≤ 99) ∧ 0 < s 22 o)) → r = -1) → (b = o → (1 ≤ b ∧ b ≤ 99) ∧ 0 < s 22 b → r = -2) → (b ≠ o → (((1 ≤ b ∧ b ≤ 99) ∧ 0 < s 22 b) ∧ ((1 ≤ o ∧ o ≤ 99) ∧ 0 < s 22 o)) → ∀ u, ml_ (ts_ W H (s 2) R.1 b o (W * H) 0) (fun v => v) u → r = en_ u) → wp_X7_pass b o s (fun r2 σ2 => r = r2 ∧ iv_ σ2) := fun r r1 r2 r3 => by
    unfold wp_X7_pass wj_X7_pass_20 wj_X7_pass_38
    refine sm_told b1 (fun s' hf hm => ?_)
    rw [hR] at hm
    have I := iv_model b1 c1 hf
    refine sm_isBasin hm.1 (fun a c d => ⟨fun q => by omega, fun _ => sm_isBasin hm.1 (fun a' c' d' => ⟨fun q => by omega, fun _ => ?_⟩) (fun n => ⟨fun _ => ⟨r1 (fun z => n ⟨z.2.1, by rw [← hcn _ z.2.1.1 z.2.1.2]; exact z.2.2⟩), I⟩, fun q => absurd rfl q⟩)⟩) (fun n => ⟨fun _ => ⟨r1 (fun z => n ⟨z.1.1, by rw [← hcn _ z.1.1.1 z.1.1.2]; exact z.1.2⟩), I⟩, fun q => absurd rfl q⟩)
    rw [← hcn _ a c] at d
    rw [← hcn _ a' c'] at d'
    exact ⟨fun q => ⟨r2 q ⟨⟨a, c⟩, d⟩, I⟩, fun q => sm_passOf hm.1 (by omega) (by omega) (fun u _ _ hu => ⟨r3 q ⟨⟨⟨a, c⟩, d⟩, ⟨a', c'⟩, d'⟩ u hu, I⟩)⟩
  refine sp_hasBasin (fun a c d => ⟨fun q => by omega, fun _ => sp_hasBasin (fun a' c' d' => ⟨fun q => by omega, fun _ => ⟨fun e => ?_, fun e => ?_⟩⟩) (fun n => ⟨fun _ => no _ (fun _ => rfl) (fun q z => absurd (by rw [← q]; exact z) n) (fun _ z => absurd z.2 n), fun q => absurd rfl q⟩)⟩) (fun n => ⟨fun _ => no _ (fun _ => rfl) (fun _ z => absurd z n) (fun _ z => absurd z.1 n), fun q => absurd rfl q⟩)
  · exact no _ (fun q => absurd ⟨⟨⟨a, c⟩, d⟩, ⟨a', c'⟩, d'⟩ q) (fun _ _ => rfl) (fun q => absurd e q)
  · refine sp_passBetween p1.1 (by omega) (by omega) (fun u u0 u1 hu => ?_)
    have key : ∀ u', ml_ (ts_ W H (s 2) R.1 b o (W * H) 0) (fun v => v) u' → u = u' := fun u' hu' => ml_uniq (fun _ => Iff.rfl) (fun _ _ => rfl) (fun v hv => ts_le hw.1 hh hv) hu hu'
    unfold wp_X6_heightOrNone wj_X6_heightOrNone_12
    refine ⟨fun q => ?_, fun q => ?_⟩
    · exact no _ (fun q => absurd ⟨⟨⟨a, c⟩, d⟩, ⟨a', c'⟩, d'⟩ q) (fun q => absurd q e) (fun _ _ u' hu' => by rw [← key u' hu']; unfold en_; rw [if_pos q])
    · exact no _ (fun q => absurd ⟨⟨⟨a, c⟩, d⟩, ⟨a', c'⟩, d'⟩ q) (fun q => absurd q e) (fun _ _ u' hu' => by rw [← key u' hu']; unfold en_; rw [if_neg q])
end PAS
