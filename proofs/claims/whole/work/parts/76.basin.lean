section BAS
variable {W H : Int} {σ : fb_St}
/-- as sp_sFlood and sp_sPour, without the model beside -/
theorem sp_sFlood2 (ht : tv_ W H σ) (hc : ca_ W H σ) {Q : Int → fb_St → Prop} (hq : ∀ σ', ca_ W H σ' → fk_ W H σ' → (∀ i, i ≠ 8 → σ' 0 i = σ 0 i) → (∀ k, k ∉ [0, 9, 10, 11, 13, 14, 15, 16] → σ' k = σ k) → Q 0 σ') : wp_X6_standingFlood σ Q := by
  unfold wp_X6_standingFlood wj_X6_standingFlood_23
  refine ⟨fun z => ?_, fun z => hq σ hc (hc.1 z) (fun _ _ => rfl) (fun _ _ => rfl)⟩
  refine sp_rise (h := σ 2) (m := σ 3) ht (fun _ _ _ => rfl) (fun _ _ _ => rfl) (fun σ1 hf1 hj1 σ2 h2 => ?_)
  have e0 : ∀ i, i ≠ 8 → σ2 0 i = σ 0 i := fun i hi => by rw [h2, up_eq]; dsimp only; rw [if_neg hi, hf1 0 (by decide)]
  have er : ∀ k, k ≠ 0 → σ2 k = σ1 k := fun k hk => by rw [h2, up_ne _ _ _ hk]
  have ek : ∀ k, k ∉ [0, 9, 10, 11, 13, 14, 15, 16] → σ2 k = σ k := fun k hk => by
    rw [er k (fun e => hk (by rw [e]; decide))]
    exact hf1 k (fun q => hk (by simp only [List.mem_cons, List.not_mem_nil, or_false] at q ⊢; omega))
  have f2 : fk_ W H σ2 := by
    unfold fk_ fl_
    rw [er 9 (by decide), er 10 (by decide), er 11 (by decide), ek 2 (by decide), ek 3 (by decide)]
    exact hj1
  refine hq σ2 ⟨fun _ => f2, ?_, ?_⟩ f2 e0 ek
  · unfold rp_ fl_
    rw [e0 9 (by decide), e0 6 (by decide), e0 7 (by decide), ek 2 (by decide), ek 3 (by decide)]
    exact fun q => po_eq (hc.2.1 q) (fun j hj => ek _ (by simp only [List.mem_cons, List.not_mem_nil, or_false]; omega)) (ek 1 (by decide)) (ek 2 (by decide)) (ek 4 (by decide))
  · unfold rt_ fl_
    rw [e0 10 (by decide), ek 2 (by decide), ek 3 (by decide)]
    exact fun q => po_eq (hc.2.2 q) (fun j hj => ek _ (by simp only [List.mem_cons, List.not_mem_nil, or_false]; omega)) (ek 1 (by decide)) (ek 2 (by decide)) (ek 4 (by decide))
theorem sp_sPour2 (ht : tv_ W H σ) (hm : ∀ j, 0 ≤ j → j < W * H → σ 3 j ≤ 99) (hc : ca_ W H σ) {Q : Int → fb_St → Prop} (hq : ∀ σ', ca_ W H σ' → po_ W H (σ' 2) 17 σ' (rp_ W H σ') → (∀ i, i ≠ 8 → i ≠ 9 → σ' 0 i = σ 0 i) → (∀ k, k ≠ 0 → k < 9 ∨ 28 < k → σ' k = σ k) → Q 0 σ') : wp_X6_standingPour σ Q := by
  unfold wp_X6_standingPour wj_X6_standingPour_38
  refine ⟨fun z => sp_sFlood2 ht hc (fun σ1 c1 f1 e01 ek1 => ?_), fun z => hq σ hc (hc.2.1 z) (fun _ _ _ => rfl) (fun _ _ _ => rfl)⟩
  have t1 : tv_ W H σ1 := tv_eq ht (ek1 1 (by decide)) (ek1 2 (by decide)) (ek1 4 (by decide))
  refine sp_run (pp := 17) (h := σ1 2) (ow0 := (fl_ W H σ1).1) t1 (Or.inl rfl) (fun _ _ _ => rfl) (fun j j0 j1 => ⟨(f1 j j0 j1).1, fs_vo (tv_wh ht).1 (by rw [ek1 3 (by decide)]; exact hm) j j0 j1⟩) (fun σ2 hf2 hp2 σ3 h3 => ?_)
  have e0 : ∀ i, i ≠ 9 → σ3 0 i = σ1 0 i := fun i hi => by rw [h3, up_eq]; dsimp only; rw [if_neg hi, fp_lt hf2 (by decide)]
  have er : ∀ k, k ≠ 0 → σ3 k = σ2 k := fun k hk => by rw [h3, up_ne _ _ _ hk]
  have ek : ∀ k, k ≠ 0 → k < 17 ∨ 28 < k → σ3 k = σ1 k := fun k hk hk2 => by
    rw [er k hk]
    exact hf2 k (fun j hj => by simp only [List.mem_cons, List.not_mem_nil, or_false] at hj; omega)
  have e2 := ek 2 (by decide) (by decide)
  have e3' := ek 3 (by decide) (by decide)
  have p3 : po_ W H (σ3 2) 17 σ3 (rp_ W H σ3) := by
    unfold rp_ fl_
    rw [e2, e3', e0 6 (by decide), e0 7 (by decide)]
    exact po_eq hp2 (fun j hj => er _ (by omega)) (er 1 (by decide)) (er 2 (by decide)) (er 4 (by decide))
  refine hq σ3 ⟨?_, fun _ => p3, ?_⟩ p3 (fun i h8 h9 => by rw [e0 i h9, e01 i h8]) (fun k hk hk2 => ?_)
  · unfold fk_ fl_
    rw [e2, e3', ek 9 (by decide) (by decide), ek 10 (by decide) (by decide), ek 11 (by decide) (by decide)]
    exact fun _ => f1
  · unfold rt_ fl_
    rw [e2, e3', e0 10 (by decide)]
    exact fun q => po_eq (c1.2.2 q) (fun j hj => ek _ (by omega) (by omega)) (ek 1 (by decide) (by decide)) e2 (ek 4 (by decide) (by decide))
  · rw [ek k hk (by omega)]
    exact ek1 k (by simp only [List.mem_cons, List.not_mem_nil, or_false]; omega)
theorem op_bound {k n : Int} (h : iv_ σ) : wp_X6_bound k n σ (fun r σ1 => wp_X7_bound k n σ1 (fun r2 σ2 => r = r2 ∧ iv_ σ2)) := by
  obtain ⟨W, H, hb, hc⟩ := h
  have no : ¬ ((0 ≤ k ∧ k ≤ 2) ∧ (0 ≤ n ∧ n ≤ 2000)) → wp_X7_bound k n σ (fun r2 σ2 => (-2 : Int) = r2 ∧ iv_ σ2) := fun hn => by
    unfold wp_X7_bound wj_X7_bound_20
    have z : (-2 : Int) = -2 ∧ iv_ σ := ⟨rfl, W, H, hb, hc⟩
    exact sm_in (fun a1 a2 => ⟨fun q => by omega, fun _ => sm_in (fun b1 b2 => absurd ⟨⟨a1, a2⟩, b1, b2⟩ hn) (fun _ => ⟨fun _ => z, fun q => absurd rfl q⟩)⟩) (fun _ => ⟨fun _ => z, fun q => absurd rfl q⟩)
  unfold wp_X6_bound wj_X6_bound_20
  refine sp_within (fun k0 k1 => ⟨fun q => by omega, fun _ => sp_within (fun n0 n1 => ⟨fun q => by omega, fun _ => ?_⟩) (fun hn => ⟨fun _ => no (fun z => hn z.2), fun q => absurd rfl q⟩)⟩) (fun hn => ⟨fun _ => no (fun z => hn z.1), fun q => absurd rfl q⟩)
  clear no
  intro s1 h1 s2 h2 s3 h3
  have e0 : ∀ i, s3 0 i = if i = 9 then 0 else if i = 7 then n else if i = 6 then k else σ 0 i := fun i => by rw [h3, up_eq, h2, up_eq, h1, up_eq]
  have f3 : fr_ [0] σ s3 := fr_tr (fr_tr (fr_u h1 (by decide)) (fr_u h2 (by decide))) (fr_u h3 (by decide))
  have E : ∀ q, q ≠ 0 → s3 q = σ q := fun q hq => f3 q (by simp only [List.mem_cons, List.not_mem_nil, or_false]; exact hq)
  have c3 : ca_ W H s3 := by
    refine ⟨?_, fun q => absurd (by rw [e0]; rfl) q, ?_⟩
    · unfold fk_ fl_
      rw [e0, if_neg (by decide), if_neg (by decide), if_neg (by decide), E 2 (by decide), E 3 (by decide), E 9 (by decide), E 10 (by decide), E 11 (by decide)]
      exact hc.1
    · unfold rt_ fl_
      rw [e0, if_neg (by decide), if_neg (by decide), if_neg (by decide), E 2 (by decide), E 3 (by decide)]
      exact fun q => po_eq (hc.2.2 q) (fun j hj => E _ (by omega)) (E 1 (by decide)) (E 2 (by decide)) (E 4 (by decide))
  refine sp_sPour2 (tv_eq hb.1 (E 1 (by decide)) (E 2 (by decide)) (E 4 (by decide))) (by rw [E 3 (by decide)]; exact ba_m hb) c3 (fun s c1 p1 g0 gk => ?_)
  unfold wp_X7_bound wj_X7_bound_20
  refine sm_in (fun _ _ => ⟨fun q => by omega, fun _ => sm_in (fun _ _ => ⟨fun q => by omega, fun _ => ?_⟩) (fun z => absurd ⟨n0, n1⟩ z)⟩) (fun z => absurd ⟨k0, k1⟩ z)
  intro t1 i1 t2 i2
  have ft : fr_ [49] s t2 := fr_tr (fr_u i1 (by decide)) (fr_u i2 (by decide))
  have et : ∀ j, t2 49 j = if j = 291 then n else if j = 290 then k else σ 49 j := fun j => by rw [i2, up_eq, i1, up_eq, gk 49 (by decide) (by decide), E 49 (by decide)]
  have F : ∀ q, q ≠ 0 → q < 9 ∨ 28 < q → q ≠ 49 → t2 q = σ q := fun q a b c => by rw [ft q (by simp only [List.mem_cons, List.not_mem_nil, or_false]; exact c), gk q a b, E q a]
  have F0 : t2 0 = s 0 := ft 0 (by decide)
  have v6 : s 0 6 = k := by rw [g0 6 (by decide) (by decide), e0]; rfl
  have v7 : s 0 7 = n := by rw [g0 7 (by decide) (by decide), e0]; rfl
  obtain ⟨bt, bm, bq, bk, bi⟩ := hb
  have b2 : ba_ W H t2 := by
    refine ⟨tv_eq bt (F 1 (by decide) (by decide) (by decide)) (F 2 (by decide) (by decide) (by decide)) (F 4 (by decide) (by decide) (by decide)), ⟨by rw [et]; exact bm.1, by rw [et]; exact bm.2.1, bm.2.2.1, bm.2.2.2.1, fun j j0 j1 => by rw [et, if_neg (by omega), if_neg (by omega)]; exact bm.2.2.2.2.1 j j0 j1, fun j j0 j1 => by rw [et, if_neg (by omega), if_neg (by omega)]; exact bm.2.2.2.2.2 j j0 j1⟩, fun j j0 j1 => ?_, ?_, im_eq bi.1 (F 42 (by decide) (by decide) (by decide)) (F 43 (by decide) (by decide) (by decide)) (F 44 (by decide) (by decide) (by decide)) (F 50 (by decide) (by decide) (by decide)) (F 51 (by decide) (by decide) (by decide)), im_eq bi.2 (F 45 (by decide) (by decide) (by decide)) (F 46 (by decide) (by decide) (by decide)) (F 47 (by decide) (by decide) (by decide)) (F 50 (by decide) (by decide) (by decide)) (F 51 (by decide) (by decide) (by decide))⟩
    · rw [et, et, if_neg (by omega), if_neg (by omega), if_neg (by omega), if_neg (by omega), F 2 (by decide) (by decide) (by decide), F 3 (by decide) (by decide) (by decide)]
      exact bq j j0 j1
    · rw [F0, v6, v7, et, et]
      exact ⟨rfl, rfl, by omega, n0, n1⟩
  have c2 : ca_ W H t2 := ca_eq c1 F0 (fun q a b => ft q (by simp only [List.mem_cons, List.not_mem_nil, or_false]; omega))
  refine sm_told b2 (fun u fu mu => ⟨?_, iv_model b2 c2 fu⟩)
  have hr : rp_ W H t2 = rp_ W H s := by
    unfold rp_ fl_
    rw [F0, ft 2 (by decide), ft 3 (by decide)]
  rw [hr] at mu
  exact (ev_len p1.2.2.1 mu.2.2.1 (p1.2.2.2.2.symm.trans mu.2.2.2.2)).1
theorem cn_pos {ow : Int → Int} {b : Int} : ∀ n : Nat, 0 ≤ cn_ ow b n ∧ (0 < cn_ ow b n ↔ ∃ j : Int, (0 ≤ j ∧ j < n) ∧ ow j = b) := by
  intro n
  induction n with
  | zero => exact ⟨Int.le_refl 0, fun h => by unfold cn_ su_ at h; omega, fun ⟨j, h, _⟩ => by omega⟩
  | succ n ih =>
    have e : cn_ ow b (n + 1) = cn_ ow b n + if ow n = b then 1 else 0 := rfl
    rw [e]
    by_cases q : ow n = b
    · rw [if_pos q]
      exact ⟨by omega, fun _ => ⟨n, by omega, q⟩, fun _ => by omega⟩
    · rw [if_neg q]
      refine ⟨by omega, fun h => ?_, fun ⟨j, hj, hb⟩ => ?_⟩
      · obtain ⟨j, hj, hb⟩ := ih.2.mp (by omega)
        exact ⟨j, by omega, hb⟩
      · have : j ≠ n := fun z => q (by rw [← z]; exact hb)
        have := ih.2.mpr ⟨j, by omega, hb⟩
        omega
theorem sp_hasBasin {pp : Nat} {b : Int} {Q : Int → fb_St → Prop} (h1 : 1 ≤ b → b ≤ 99 → 0 < σ (pp + 5) b → Q 1 σ) (h0 : ¬ ((1 ≤ b ∧ b ≤ 99) ∧ 0 < σ (pp + 5) b) → Q 0 σ) : wp_X3_hasBasin pp b σ Q := by
  unfold wp_X3_hasBasin wj_X3_hasBasin_23 wj_X3_hasBasin_24
  exact sp_within (fun a c => ⟨fun q => by omega, fun _ => ⟨by omega, by omega, fun q => ⟨by decide, h1 a c q⟩, fun q => ⟨by decide, h0 (fun z => q z.2)⟩⟩⟩) (fun n => ⟨fun _ => ⟨by decide, h0 (fun z => n z.1)⟩, fun q => absurd rfl q⟩)
theorem sm_isBasin {h ow : Int → Int} {b : Int} {Q : Int → fb_St → Prop} (hx : mx_ W H h ow σ) (h1 : 1 ≤ b → b ≤ 99 → 0 < cn_ ow b (W * H).toNat → Q 1 σ) (h0 : ¬ ((1 ≤ b ∧ b ≤ 99) ∧ 0 < cn_ ow b (W * H).toNat) → Q 0 σ) : wp_X7_isBasin b σ Q := by
  unfold wp_X7_isBasin wj_X7_isBasin_26 wj_X7_isBasin_27
  exact sm_in (fun a c => ⟨fun q => by omega, fun _ => sm_dotsOf hx.1 (fun j j0 j1 => (hx.2.2 j j0 j1).1) ⟨fun q => ⟨by decide, h1 a c q⟩, fun q => ⟨by decide, h0 (fun z => q z.2)⟩⟩⟩) (fun n => ⟨fun _ => ⟨by decide, h0 (fun z => n z.1)⟩, fun q => absurd rfl q⟩)
theorem op_basin {b w : Int} (h : iv_ σ) : wp_X6_basin b w σ (fun r σ1 => wp_X7_basin b w σ1 (fun r2 σ2 => r = r2 ∧ iv_ σ2)) := by
  obtain ⟨W, H, hb, hc⟩ := h
  unfold wp_X6_basin
  refine sp_sPour hb hc (fun s b1 c1 p1 _ _ => ?_)
  generalize hR : rp_ W H s = R at p1
  have no : ∀ r : Int, (¬ ((1 ≤ b ∧ b ≤ 99) ∧ 0 < s 22 b) → r = -1) → ((1 ≤ b ∧ b ≤ 99) ∧ 0 < s 22 b → ¬ (0 ≤ w ∧ w ≤ 5) → r = -2) → ((1 ≤ b ∧ b ≤ 99) ∧ 0 < s 22 b → 0 ≤ w → w ≤ 5 → (w < 3 → r = sz_ W H (s 2) R.1 w b) ∧ (w = 3 → r = s 19 b) ∧ (w = 4 → r = en_ (s 20 b)) ∧ (w = 5 → r = s 21 b)) → wp_X7_basin b w s (fun r2 σ2 => r = r2 ∧ iv_ σ2) := fun r r1 r2 r3 => by
    unfold wp_X7_basin wj_X7_basin_47 wj_X7_basin_89
    refine sm_told b1 (fun s' hf hm => ?_)
    rw [hR] at hm
    have I := iv_model b1 c1 hf
    have hcn : 1 ≤ b → b ≤ 99 → s 22 b = cn_ R.1 b (W * H).toNat := fun a c => (p1.2.1 b a c).1
    refine sm_isBasin hm.1 (fun a c d => ⟨fun q => by omega, fun _ => ?_⟩) (fun n => ⟨fun _ => ⟨r1 (fun z => n ⟨z.1, by rw [← hcn z.1.1 z.1.2]; exact z.2⟩), I⟩, fun q => absurd rfl q⟩)
    have d2 := d
    rw [← hcn a c] at d
    refine sm_in (fun e f => ⟨fun q => by omega, fun _ => ?_⟩) (fun n => ⟨fun _ => ⟨r2 ⟨⟨a, c⟩, d⟩ n, I⟩, fun q => absurd rfl q⟩)
    obtain ⟨v0, v3, v4, v5⟩ := r3 ⟨⟨a, c⟩, d⟩ e f
    refine sm_wayOut hm.1 ⟨a, c⟩ (fun s2 v o hf2 hl ho => ?_)
    obtain ⟨e1, e2⟩ := lm_uniq (fun _ _ => Iff.rfl) hl (p1.2.1 b a c).2.2.1
    have hx2 : mx_ W H (s 2) R.1 s2 := mx_fr hm.1 hf2 (by decide) (by decide)
    have I2 : iv_ s2 := iv_model b1 c1 (fun k hk => by rw [hf2 k (by simp only [List.mem_cons, List.not_mem_nil, or_false]; omega), hf k hk])
    have fin : ∀ g : Int, g = en_ v → (w < 3 → wp_X7_sizeOf b w g s2 (fun a15 σ15 => r = a15 ∧ iv_ σ15)) ∧ (¬ w < 3 → (w = 3 → wp_X7_leastHeight b s2 (fun a14 σ14 => r = a14 ∧ iv_ σ14)) ∧ (¬ w = 3 → (w = 4 → r = g ∧ iv_ s2) ∧ (¬ w = 4 → r = o ∧ iv_ s2))) := fun g hg => by
      subst hg
      refine ⟨fun q => sm_sizeOf hx2 hl (by omega) ⟨v0 q, I2⟩, fun _ => ⟨fun q => sm_leastHeight hx2 (fun u hu hl2 => ⟨?_, I2⟩), fun n3 => ⟨fun q => ⟨by rw [v4 q, e1], I2⟩, fun q => ⟨by rw [v5 (by omega)]; exact e2.symm, I2⟩⟩⟩⟩
      have hu2 := ml_uniq (fun _ => Iff.rfl) (fun _ _ => rfl) (fun j hj => (hm.1.2.1 j hj.1.1 hj.1.2).2.2) hl2 (p1.2.1 b a c).2.1
      obtain ⟨j, j0, j1⟩ := (cn_pos (W * H).toNat).2.mp d2
      have hw := tv_wh b1.1
      have hj := hl2.1 j ⟨by omega, j1⟩
      have hj2 := (hm.1.2.1 j j0.1 (by omega)).2.2
      rw [v3 q, ← hu2]
      unfold en_
      rw [if_neg (by omega)]
    rcases hl with ⟨rfl, rfl, -⟩ | ⟨hs, hv, -⟩
    · exact ⟨fun _ => fin _ rfl, fun q => absurd (by decide) q⟩
    · have := (pn_rng hm.1 hs).2
      refine ⟨fun q => by omega, fun _ => ⟨by omega, by omega, fin _ ?_⟩⟩
      rw [ho (by omega)]
      unfold en_
      rw [if_neg (by omega)]
  refine sp_hasBasin (fun a c d => ⟨fun q => by omega, fun _ => ?_⟩) (fun n => ⟨fun _ => no _ (fun _ => rfl) (fun z => absurd z n) (fun z => absurd z n), fun q => absurd rfl q⟩)
  have hz : ∀ q : ¬ ((1 ≤ b ∧ b ≤ 99) ∧ 0 < s 22 b), False := fun q => q ⟨⟨a, c⟩, d⟩
  refine ⟨fun e => ?_, fun e => ?_, fun e => ?_, fun e => ⟨by omega, by omega, ?_⟩, fun e => ⟨by omega, by omega, ?_⟩, fun e => ⟨by omega, by omega, ?_⟩, fun e => ?_⟩
  · exact sp_sizeOf p1.1 p1.2.1 a c (no _ (fun q => (hz q).elim) (fun _ q => by omega) (fun _ _ _ => ⟨fun _ => rfl, fun q => by omega, fun q => by omega, fun q => by omega⟩))
  · exact sp_sizeOf p1.1 p1.2.1 a c (no _ (fun q => (hz q).elim) (fun _ q => by omega) (fun _ _ _ => ⟨fun _ => rfl, fun q => by omega, fun q => by omega, fun q => by omega⟩))
  · exact sp_sizeOf p1.1 p1.2.1 a c (no _ (fun q => (hz q).elim) (fun _ q => by omega) (fun _ _ _ => ⟨fun _ => rfl, fun q => by omega, fun q => by omega, fun q => by omega⟩))
  · exact no _ (fun q => (hz q).elim) (fun _ q => by omega) (fun _ _ _ => ⟨fun q => by omega, fun _ => rfl, fun q => by omega, fun q => by omega⟩)
  · unfold wp_X6_heightOrNone wj_X6_heightOrNone_12
    refine ⟨fun q => ?_, fun q => ?_⟩
    · exact no _ (fun q => (hz q).elim) (fun _ q => by omega) (fun _ _ _ => ⟨fun q => by omega, fun q => by omega, fun _ => by unfold en_; rw [if_pos q], fun q => by omega⟩)
    · exact no _ (fun q => (hz q).elim) (fun _ q => by omega) (fun _ _ _ => ⟨fun q => by omega, fun q => by omega, fun _ => by unfold en_; rw [if_neg q], fun q => by omega⟩)
  · exact no _ (fun q => (hz q).elim) (fun _ q => by omega) (fun _ _ _ => ⟨fun q => by omega, fun q => by omega, fun q => by omega, fun _ => rfl⟩)
  · exact no _ (fun q => (hz q).elim) (fun _ _ => rfl) (fun _ q1 q2 => by omega)
end BAS
