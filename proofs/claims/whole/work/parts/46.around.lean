/-! ===== the least height around; pits ===== -/
def ml_ (S : Int → Prop) (h : Int → Int) (v : Int) : Prop := (∀ b, S b → v ≤ h b) ∧ (v = 100 ∨ ∃ b, S b ∧ h b = v)
theorem ml_uniq {S S' : Int → Prop} {h h' : Int → Int} {v v' : Int} (hS : ∀ b, S b ↔ S' b) (he : ∀ b, S b → h b = h' b) (hh : ∀ b, S b → h b ≤ 99) (a : ml_ S h v) (b : ml_ S' h' v') : v = v' := by
  obtain ⟨a1, a2⟩ := a
  obtain ⟨b1, b2⟩ := b
  rcases a2 with rfl | ⟨x, x1, x2⟩
  · rcases b2 with rfl | ⟨y, y1, y2⟩
    · rfl
    · have y0 := (hS y).mpr y1
      have := a1 y y0; have := hh y y0; omega
  · rcases b2 with rfl | ⟨y, y1, y2⟩
    · have := b1 x ((hS x).mp x1); have := hh x x1; have := he x x1; omega
    · have y0 := (hS y).mpr y1
      have := b1 x ((hS x).mp x1); have := a1 y y0; have := he x x1; have := he y y0; omega
theorem ml_ins {S S' : Int → Prop} {h : Int → Int} {v b : Int} (hs : ∀ x, S' x ↔ S x ∨ x = b) (a : ml_ S h v) : ml_ S' h (min v (h b)) := by
  obtain ⟨a1, a2⟩ := a
  refine ⟨fun x hx => ?_, ?_⟩
  · rcases (hs x).mp hx with q | rfl
    · have := a1 x q; omega
    · omega
  · by_cases q : v ≤ h b
    · rw [show min v (h b) = v by omega]
      exact a2.elim Or.inl (fun ⟨y, y1, y2⟩ => Or.inr ⟨y, (hs y).mpr (Or.inl y1), y2⟩)
    · rw [show min v (h b) = h b by omega]
      exact Or.inr ⟨b, (hs b).mpr (Or.inr rfl), rfl⟩
theorem ml_same {S S' : Int → Prop} {h : Int → Int} {v : Int} (hs : ∀ x, S' x ↔ S x) (a : ml_ S h v) : ml_ S' h v :=
  ⟨fun x hx => a.1 x ((hs x).mp hx), a.2.elim Or.inl (fun ⟨y, y1, y2⟩ => Or.inr ⟨y, (hs y).mpr y1, y2⟩)⟩
def es_ (W H : Int) (re : Int → Int) (C : Int → Prop) (i d b : Int) : Prop := ∃ k e, 0 ≤ k ∧ 0 ≤ e ∧ e < 4 ∧ (k < i ∨ k = i ∧ e < d) ∧ nb_ W H (re k) e = b ∧ b ≠ -1 ∧ C b
theorem es_0 {W H : Int} {re : Int → Int} {C : Int → Prop} {b : Int} : ¬ es_ W H re C 0 0 b := by
  rintro ⟨k, e, h1, h2, h3, h4, -⟩
  omega
theorem es_4 {W H : Int} {re : Int → Int} {C : Int → Prop} {i b : Int} : es_ W H re C (i + 1) 0 b ↔ es_ W H re C i 4 b := by
  constructor
  · rintro ⟨k, e, h1, h2, h3, h4, h5⟩
    exact ⟨k, e, h1, h2, h3, by omega, h5⟩
  · rintro ⟨k, e, h1, h2, h3, h4, h5⟩
    exact ⟨k, e, h1, h2, h3, by omega, h5⟩
theorem es_in {W H : Int} {re : Int → Int} {C : Int → Prop} {i d : Int} (hi : 0 ≤ i) (hd : 0 ≤ d ∧ d < 4) (hb : nb_ W H (re i) d ≠ -1) (hc : C (nb_ W H (re i) d)) (b : Int) : es_ W H re C i (d + 1) b ↔ es_ W H re C i d b ∨ b = nb_ W H (re i) d := by
  constructor
  · rintro ⟨k, e, h1, h2, h3, h4, h5, h6⟩
    by_cases q : k = i ∧ e = d
    · obtain ⟨rfl, rfl⟩ := q; exact Or.inr h5.symm
    · exact Or.inl ⟨k, e, h1, h2, h3, by omega, h5, h6⟩
  · rintro (⟨k, e, h1, h2, h3, h4, h5⟩ | rfl)
    · exact ⟨k, e, h1, h2, h3, by omega, h5⟩
    · exact ⟨i, d, hi, hd.1, hd.2, by omega, rfl, hb, hc⟩
theorem es_out {W H : Int} {re : Int → Int} {C : Int → Prop} {i d : Int} (hc : ¬ (nb_ W H (re i) d ≠ -1 ∧ C (nb_ W H (re i) d))) (b : Int) : es_ W H re C i (d + 1) b ↔ es_ W H re C i d b := by
  constructor
  · rintro ⟨k, e, h1, h2, h3, h4, h5, h6⟩
    by_cases q : k = i ∧ e = d
    · obtain ⟨rfl, rfl⟩ := q; rw [← h5] at h6; exact absurd h6 hc
    · exact ⟨k, e, h1, h2, h3, by omega, h5, h6⟩
  · rintro ⟨k, e, h1, h2, h3, h4, h5⟩
    exact ⟨k, e, h1, h2, h3, by omega, h5⟩
theorem es_end {W H : Int} (hW : 0 < W) {P C : Int → Prop} {s : Int} {se0 : Int → Int} {N : Int} {re se : Int → Int} (s0 : 0 ≤ s) (s1 : s < W * H) (h : bo_ W H P s se0 N re se) (b : Int) : es_ W H re C N 0 b ↔ ∃ a, rc_ W H P s a ∧ ad_ W H a b ∧ C b := by
  constructor
  · rintro ⟨k, e, h1, h2, h3, h4, h5, h6, h7⟩
    obtain ⟨q1, q2, q3⟩ := h.1.2.1 k h1 (by omega)
    have := nb_rng e hW q2 q3
    exact ⟨re k, q1, ⟨q2, q3, by omega, e, h2, h3, h5⟩, h7⟩
  · rintro ⟨a, ha, hab, hc⟩
    have ia := rc_in hW s0 s1 ha
    have ib := ad_lt hW hab
    obtain ⟨k, k0, k1, k2⟩ := (h.2 a ia.1 ia.2).mp ha
    obtain ⟨-, -, -, d, d0, d1, e⟩ := hab
    exact ⟨k, d, k0, d0, d1, Or.inl k1, by rw [k2, e], by omega, hc⟩
theorem sp_lowestAround {W H lo hi : Int} {σ : fb_St} (ht : tv_ W H σ) (hN : 0 ≤ σ 5 0 ∧ σ 5 0 ≤ 144) (hre : ∀ k, 0 ≤ k → k < σ 5 0 → 0 ≤ σ 6 k ∧ σ 6 k < W * H) {Q : Int → fb_St → Prop}
    (h : ∀ v, ml_ (es_ W H (σ 6) (fun b => ¬ (lo ≤ σ 2 b ∧ σ 2 b ≤ hi)) (σ 5 0) 0) (σ 2) v → Q v σ) : wp_X4_lowestAround lo hi σ Q := by
  have hw := tv_wh ht
  unfold wp_X4_lowestAround
  refine fb_lp5 (fun x2 x3 v i σ' => lo = x2 ∧ hi = x3 ∧ σ = σ' ∧ 0 ≤ i ∧ i ≤ σ 5 0 ∧ ml_ (es_ W H (σ 6) (fun b => ¬ (lo ≤ σ 2 b ∧ σ 2 b ≤ hi)) i 0) (σ 2) v) (fun _ _ _ i _ => (200 - i).toNat) ?_ lo hi 100 0 σ ⟨rfl, rfl, rfl, Int.le_refl 0, hN.1, fun b hb => absurd hb es_0, Or.inl rfl⟩
  rintro x2 x3 v i σ' ⟨rfl, rfl, rfl, i0, i1, hv⟩ r7 hr7
  unfold wb_X4_lowestAround_7
  refine ⟨fun c1 => ?_, fun c1 => h v (by rw [show i = σ 5 0 by omega] at hv; exact hv)⟩
  refine fb_lp6 (fun y2 y3 u y5 d σ' => lo = y2 ∧ hi = y3 ∧ i = y5 ∧ σ = σ' ∧ 0 ≤ d ∧ d ≤ 4 ∧ ml_ (es_ W H (σ 6) (fun b => ¬ (lo ≤ σ 2 b ∧ σ 2 b ≤ hi)) i d) (σ 2) u) (fun _ _ _ _ d _ => (4 - d).toNat) ?_ lo hi v i 0 σ ⟨rfl, rfl, rfl, rfl, Int.le_refl 0, by omega, hv⟩
  rintro y2 y3 u y5 d σ' ⟨rfl, rfl, rfl, rfl, d0, d1, hu⟩ r19 hr19
  unfold wb_X4_lowestAround_19 wj_X4_lowestAround_75
  refine ⟨fun c2 => ⟨i0, by omega, ?_⟩, fun c2 => ⟨by omega, hr7 _ _ _ _ _ ⟨rfl, rfl, rfl, by omega, by omega, ml_same (fun b => es_4) (by rw [show d = 4 by omega] at hu; exact hu)⟩ (by omega)⟩⟩
  obtain ⟨q2, q3⟩ := hre i i0 c1
  have hr := nb_rng d hw.1 q2 q3
  refine sp_neighbour (by omega) ⟨d0, c2⟩ ?_
  rw [ht.2.2.2.2.2.2 _ _ q2 q3 d0 c2]
  refine ⟨fun n1 => ⟨by omega, hr19 _ _ _ _ _ _ ⟨rfl, rfl, rfl, rfl, by omega, by omega, ml_same (es_out (fun z => z.1 n1)) hu⟩ (by omega)⟩, fun n1 => ⟨by omega, by omega, sp_within (fun a1 a2 => ⟨fun z => by omega, fun _ => ⟨by omega, hr19 _ _ _ _ _ _ ⟨rfl, rfl, rfl, rfl, by omega, by omega, ml_same (es_out (fun z => z.2 ⟨a1, a2⟩)) hu⟩ (by omega)⟩⟩) (fun a => ⟨fun _ => ⟨by omega, by omega, fun v18 hv18 => ⟨by omega, ?_⟩⟩, fun z => absurd rfl z⟩)⟩⟩
  subst hv18
  exact hr19 _ _ _ _ _ _ ⟨rfl, rfl, rfl, rfl, by omega, by omega, ml_ins (es_in i0 ⟨d0, c2⟩ n1 a) hu⟩ (by omega)
def en_ (v : Int) : Int := if v = 100 then -6 else v
theorem sm_leastBeside {W H N : Int} {σ : fb_St} (hm : mv_ W H σ) (hN : 0 ≤ N ∧ N ≤ 144) (hre : ∀ k, 0 ≤ k → k < N → 0 ≤ σ 53 k ∧ σ 53 k < W * H) {Q : Int → fb_St → Prop}
    (h : ∀ v, 0 ≤ v → v ≤ 100 → ml_ (es_ W H (σ 53) (fun b => σ 54 b = 0) N 0) (σ 49) v → Q (en_ v) σ) : wp_X7_leastBeside N σ Q := by
  have hw := mv_wh hm
  unfold wp_X7_leastBeside
  refine fb_lp4 (fun x1 x2 i σ' => N = x1 ∧ σ = σ' ∧ 0 ≤ i ∧ i ≤ N ∧ ∃ v, 0 ≤ v ∧ v ≤ 100 ∧ x2 = en_ v ∧ ml_ (es_ W H (σ 53) (fun b => σ 54 b = 0) i 0) (σ 49) v) (fun _ _ i _ => (200 - i).toNat) ?_ N (-6) 0 σ ⟨rfl, rfl, Int.le_refl 0, hN.1, 100, by omega, by omega, rfl, fun b hb => absurd hb es_0, Or.inl rfl⟩
  rintro x1 x2 i σ' ⟨rfl, rfl, i0, i1, v, v0, v1, rfl, hv⟩ r5 hr5
  unfold wb_X7_leastBeside_5
  refine ⟨fun c1 => ?_, fun c1 => h v v0 v1 (by rw [show i = N by omega] at hv; exact hv)⟩
  refine fb_lp5 (fun y1 y2 y3 d σ' => N = y1 ∧ i = y3 ∧ σ = σ' ∧ 0 ≤ d ∧ d ≤ 4 ∧ ∃ v, 0 ≤ v ∧ v ≤ 100 ∧ y2 = en_ v ∧ ml_ (es_ W H (σ 53) (fun b => σ 54 b = 0) i d) (σ 49) v) (fun _ _ _ d _ => (4 - d).toNat) ?_ N (en_ v) i 0 σ ⟨rfl, rfl, rfl, Int.le_refl 0, by omega, v, v0, v1, rfl, hv⟩
  rintro y1 y2 y3 d σ' ⟨rfl, rfl, rfl, d0, d1, u, u0, u1, rfl, hu⟩ r13 hr13
  unfold wb_X7_leastBeside_13 wj_X7_leastBeside_63 wj_X7_leastBeside_71
  refine ⟨fun c2 => ⟨i0, by omega, ?_⟩, fun c2 => ⟨by omega, hr5 _ _ _ _ ⟨rfl, rfl, by omega, by omega, u, u0, u1, rfl, ml_same (fun b => es_4) (by rw [show d = 4 by omega] at hu; exact hu)⟩ (by omega)⟩⟩
  obtain ⟨q2, q3⟩ := hre i i0 c1
  have old : ¬ (nb_ W H (σ 53 i) d ≠ -1 ∧ σ 54 (nb_ W H (σ 53 i) d) = 0) → r13 N (en_ u) i (d + 1) σ := fun z => hr13 _ _ _ _ _ ⟨rfl, rfl, rfl, by omega, by omega, u, u0, u1, rfl, ml_same (es_out z) hu⟩ (by omega)
  refine sm_beside hm q2 q3 ⟨d0, c2⟩ (fun n1 => ⟨fun _ => ⟨by omega, old (fun z => z.1 n1)⟩, fun z => by omega⟩) (fun n0 n1 => ⟨fun z => by omega, fun _ => ⟨n0, by omega, fun z5 => ?_, fun z5 => ⟨by omega, old (fun z => z5 z.2)⟩⟩⟩)
  have hh := hm.2.2.2.2.1 (nb_ W H (σ 53 i) d) n0 (by omega)
  have new := ml_ins (es_in (C := fun b => σ 54 b = 0) i0 ⟨d0, c2⟩ (by omega) z5) hu
  have eu : en_ u < 0 ↔ u = 100 := by unfold en_; split <;> omega
  have go : min u (σ 49 (nb_ W H (σ 53 i) d)) = σ 49 (nb_ W H (σ 53 i) d) → r13 N (σ 49 (nb_ W H (σ 53 i) d)) i (d + 1) σ := fun q => hr13 _ _ _ _ _ ⟨rfl, rfl, rfl, by omega, by omega, min u (σ 49 (nb_ W H (σ 53 i) d)), by omega, by omega, by unfold en_; rw [if_neg (by omega)]; exact q.symm, new⟩ (by omega)
  refine ⟨fun z => ⟨n0, by omega, fun w hw => ⟨by omega, hw ▸ go (by have := eu.mp z; omega)⟩⟩, fun z => ?_⟩
  have e2 : en_ u = u := by unfold en_; rw [if_neg (fun q => z (eu.mpr q))]
  rw [e2]
  refine ⟨n0, by omega, fun z2 => ⟨n0, by omega, fun w hw => ⟨by omega, hw ▸ go (by omega)⟩⟩, fun z2 => ⟨by omega, ?_⟩⟩
  exact hr13 _ _ _ _ _ ⟨rfl, rfl, rfl, by omega, by omega, u, u0, u1, e2.symm, by rw [show min u (σ 49 (nb_ W H (σ 53 i) d)) = u by omega] at new; exact new⟩ (by omega)
