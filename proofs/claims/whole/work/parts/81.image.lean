section IMG
variable {W H : Int} {σ : fb_St}
theorem im_eq2 {g : Nat} {k : Int} {σ σ' : fb_St} (h : im_ g k σ) (e0 : σ' g = σ g) (e1 : σ' (g + 1) = σ (g + 1)) (e2 : σ' (g + 2) = σ (g + 2)) (e50 : ∀ j, 0 ≤ j → j < 292 → σ' 50 (292 * k + j) = σ 50 (292 * k + j)) (e51 : σ' 51 k = σ 51 k) : im_ g k σ' := by
  obtain ⟨a, b, c⟩ := h
  refine ⟨by rw [e0]; exact a, by rw [e51, e0]; exact b, fun q => ?_⟩
  rw [e0] at q
  obtain ⟨c1, c2, c3, c4, c5, c6, c7, c8, c9⟩ := c q
  rw [e0, e1, e2, e50 288 (by omega) (by omega), e50 289 (by omega) (by omega), e50 290 (by omega) (by omega), e50 291 (by omega) (by omega)]
  refine ⟨c1, c2, c3, c4, c5, c6, c7, c8, fun i i0 i1 => ?_⟩
  rw [e50 i (by omega) (by omega), e50 (144 + i) (by omega) (by omega)]
  exact c9 i i0 i1
theorem sp_keep {g : Nat} {a b : Int} (hg : 5 ≤ g) {Q : Int → fb_St → Prop} (hq : ∀ σ', (∀ k, k ≠ g → k ≠ g + 1 → k ≠ g + 2 → σ' k = σ k) → σ' g 0 = 1 → σ' g 1 = a → σ' g 2 = b → σ' g 3 = σ 1 0 → σ' g 4 = σ 1 1 → (∀ i, 0 ≤ i → i < 144 → σ' (g + 1) i = σ 2 i ∧ σ' (g + 2) i = σ 3 i) → Q 0 σ') : wp_X1_keep g a b σ Q := by
  unfold wp_X1_keep
  intro s1 h1 s2 h2 s3 h3 s4 h4 s5 h5 s6 h6 s7 h7
  have n1 : ∀ k, k ≠ g → s5 k = σ k := fun k hk => by rw [h5, up_ne _ _ _ hk, h4, up_ne _ _ _ hk, h3, up_ne _ _ _ hk, h2, up_ne _ _ _ hk, h1, up_ne _ _ _ hk]
  have n0 : s4 1 = σ 1 := by rw [h4, up_ne _ _ _ (by omega), h3, up_ne _ _ _ (by omega), h2, up_ne _ _ _ (by omega), h1, up_ne _ _ _ (by omega)]
  have n3 : s3 1 = σ 1 := by rw [h3, up_ne _ _ _ (by omega), h2, up_ne _ _ _ (by omega), h1, up_ne _ _ _ (by omega)]
  have c6 : ∀ k, k ≠ g + 1 → s6 k = s5 k := fun k hk => by rw [h6]; funext i; rw [fb_cp_ap, if_neg hk]
  have c7 : ∀ k, k ≠ g + 2 → s7 k = s6 k := fun k hk => by rw [h7]; funext i; rw [fb_cp_ap, if_neg hk]
  have eg : ∀ i, s7 g i = if i = 4 then σ 1 1 else if i = 3 then σ 1 0 else if i = 2 then b else if i = 1 then a else if i = 0 then 1 else σ g i := fun i => by
    rw [c7 g (by omega), c6 g (by omega), h5, up_eq, h4, up_eq]
    dsimp only
    rw [← h4, n0, n3, h3, up_eq, h2, up_eq, h1, up_eq]
  refine hq s7 (fun k k0 k1 k2 => by rw [c7 k k2, c6 k k1, n1 k k0]) (eg 0) (eg 1) (eg 2) (eg 3) (eg 4) (fun i i0 i1 => ⟨?_, ?_⟩)
  · rw [c7 _ (by omega), h6, fb_cp_ap, if_pos rfl, if_pos ⟨i0, i1⟩, n1 2 (by omega)]
  · rw [h7, fb_cp_ap, if_pos rfl, if_pos ⟨i0, i1⟩, c6 3 (by omega), n1 3 (by omega)]
theorem sm_image {k : Int} (hk : k = 0 ∨ k = 1) {Q : Int → fb_St → Prop} (hq : ∀ σ', fr_ [50, 51] σ σ' → (∀ i, 0 ≤ i → i < 292 → σ' 50 (292 * k + i) = σ 49 i) → (∀ j, ¬ (292 * k ≤ j ∧ j < 292 * k + 292) → σ' 50 j = σ 50 j) → σ' 51 k = 1 → (∀ j, j ≠ k → σ' 51 j = σ 51 j) → Q 1 σ') : wp_X7_image k σ Q := by
  unfold wp_X7_image
  refine sm_in (fun a b => ⟨fun q => by omega, fun _ => ?_⟩) (fun n => by omega)
  refine fb_lp3 (fun k' i σ' => k = k' ∧ 0 ≤ i ∧ i ≤ 292 ∧ fr_ [50] σ σ' ∧ (∀ j, 0 ≤ j → j < i → σ' 50 (292 * k + j) = σ 49 j) ∧ ∀ j, ¬ (292 * k ≤ j ∧ j < 292 * k + 292) → σ' 50 j = σ 50 j) (fun _ i _ => (300 - i).toNat) ?_ k 0 σ ⟨rfl, by omega, by omega, fr_rf, fun j j0 j1 => by omega, fun _ _ => rfl⟩
  rintro k' i σ' ⟨rfl, i0, i1, hf, h1, h2⟩ r hr
  unfold wb_X7_image_14
  refine ⟨fun q => ⟨by omega, by omega, by omega, by omega, by omega, by omega, ?_⟩, fun q => ⟨by omega, by omega, ?_⟩⟩
  · intro s hs
    have es : ∀ j, s 50 j = if j = 292 * k + i then σ 49 i else σ' 50 j := fun j => by rw [hs, up_eq, hf 49 (by decide)]
    refine ⟨by omega, hr _ _ _ ⟨rfl, by omega, by omega, fr_tr hf (fr_u hs (by decide)), fun j j0 j1 => ?_, fun j hj => ?_⟩ (by omega)⟩
    · rw [es]
      by_cases z : j = i
      · rw [if_pos (by omega), z]
      · rw [if_neg (by omega)]; exact h1 j j0 (by omega)
    · rw [es, if_neg (by omega)]; exact h2 j hj
  · intro s hs
    have e50 : s 50 = σ' 50 := by rw [hs, up_ne _ _ _ (by decide)]
    refine hq s (fr_tr (fr_wk hf (by decide)) (fr_u hs (by decide))) (fun j j0 j1 => by rw [e50]; exact h1 j j0 (by omega)) (fun j hj => by rw [e50]; exact h2 j hj) (by rw [hs, up_eq]; exact if_pos rfl) (fun j hj => ?_)
    rw [hs, up_eq]
    dsimp only
    rw [if_neg hj, hf 51 (by decide)]
theorem op_image {k : Int} (h : iv_ σ) : wp_X6_image k σ (fun r σ1 => wp_X7_image k σ1 (fun r2 σ2 => r = r2 ∧ iv_ σ2)) := by
  obtain ⟨W, H, hb, hc⟩ := h
  obtain ⟨bt, bm, bq, bk, bi⟩ := hb
  have yes : ∀ g g' : Nat, ∀ k' : Int, (g = 42 ∧ k = 0 ∧ g' = 45 ∧ k' = 1 ∨ g = 45 ∧ k = 1 ∧ g' = 42 ∧ k' = 0) → im_ g' k' σ → wp_X1_keep g (σ 0 6) (σ 0 7) σ (fun _ s => wp_X7_image k s (fun r2 σ2 => (1 : Int) = r2 ∧ iv_ σ2)) := fun g g' k' hg hi => by
    refine sp_keep (by omega) (fun s f1 g0 g1 g2 g3 g4 g5 => ?_)
    refine sm_image (by omega) (fun s' f2 m1 m2 m3 m4 => ⟨rfl, W, H, ?_, ?_⟩)
    · have F : ∀ q, q ≠ g → q ≠ g + 1 → q ≠ g + 2 → q ≠ 50 → q ≠ 51 → s' q = σ q := fun q a b c d e => by rw [f2 q (by simp only [List.mem_cons, List.not_mem_nil, or_false]; omega), f1 q a b c]
      have G : ∀ q, q ≠ 50 → q ≠ 51 → s' q = s q := fun q d e => f2 q (by simp only [List.mem_cons, List.not_mem_nil, or_false]; omega)
      have e49 : s' 49 = σ 49 := F 49 (by omega) (by omega) (by omega) (by omega) (by omega)
      have e0 : s' 0 = σ 0 := F 0 (by omega) (by omega) (by omega) (by omega) (by omega)
      have s49 : s 49 = σ 49 := f1 49 (by omega) (by omega) (by omega)
      have new : im_ g k s' := by
        have eg := G g (by omega) (by omega)
        refine ⟨by rw [eg, g0]; omega, by rw [eg, m3, g0], fun _ => ?_⟩
        rw [eg, g1, g2, g3, g4, G (g + 1) (by omega) (by omega), G (g + 2) (by omega) (by omega), m1 288 (by omega) (by omega), m1 289 (by omega) (by omega), m1 290 (by omega) (by omega), m1 291 (by omega) (by omega), s49, bt.1, bt.2.1]
        refine ⟨bt.2.2.2.1, bt.2.2.2.2.1, bk.2.2.1, bk.2.2.2, bm.1, bm.2.1, bk.1, bk.2.1, fun i i0 i1 => ?_⟩
        rw [m1 i (by omega) (by omega), m1 (144 + i) (by omega) (by omega), (g5 i i0 i1).1, (g5 i i0 i1).2, s49]
        have h1 := bq i i0 i1
        have h2 := bm.2.2.2.2.1 i i0 i1
        have h3 := bm.2.2.2.2.2 i i0 i1
        rw [h1.1] at h2
        rw [h1.2] at h3
        exact ⟨⟨h1.1, h2⟩, h1.2, h3⟩
      have old : im_ g' k' s' := im_eq2 hi (F g' (by omega) (by omega) (by omega) (by omega) (by omega)) (F (g' + 1) (by omega) (by omega) (by omega) (by omega) (by omega)) (F (g' + 2) (by omega) (by omega) (by omega) (by omega) (by omega)) (fun j j0 j1 => by rw [m2 _ (by omega), f1 50 (by omega) (by omega) (by omega)]) (by rw [m4 k' (by omega), f1 51 (by omega) (by omega) (by omega)])
      refine ⟨tv_eq bt (F 1 (by omega) (by omega) (by omega) (by omega) (by omega)) (F 2 (by omega) (by omega) (by omega) (by omega) (by omega)) (F 4 (by omega) (by omega) (by omega) (by omega) (by omega)), mv_eq bm e49, ?_, by rw [e49, e0]; exact bk, ?_⟩
      · rw [e49, F 2 (by omega) (by omega) (by omega) (by omega) (by omega), F 3 (by omega) (by omega) (by omega) (by omega) (by omega)]; exact bq
      · rcases hg with ⟨rfl, rfl, rfl, rfl⟩ | ⟨rfl, rfl, rfl, rfl⟩
        · exact ⟨new, old⟩
        · exact ⟨old, new⟩
    · refine ca_eq hc ?_ (fun q a b => ?_)
      · rw [f2 0 (by decide), f1 0 (by omega) (by omega) (by omega)]
      · rw [f2 q (by simp only [List.mem_cons, List.not_mem_nil, or_false]; omega), f1 q (by omega) (by omega) (by omega)]
  unfold wp_X6_image
  refine sp_within (fun a b => ⟨fun q => by omega, fun _ => ⟨fun e => yes 42 45 1 (by omega) bi.2, fun e => yes 45 42 0 (by omega) bi.1, by omega⟩⟩) (fun n => ⟨fun _ => ?_, fun q => absurd rfl q⟩)
  unfold wp_X7_image
  exact sm_in (fun a b => absurd ⟨a, b⟩ n) (fun _ => ⟨fun _ => ⟨rfl, W, H, ⟨bt, bm, bq, bk, bi⟩, hc⟩, fun q => absurd rfl q⟩)
theorem op_restore {k : Int} (h : iv_ σ) : wp_X6_restore k σ (fun r σ1 => wp_X7_restore k σ1 (fun r2 σ2 => r = r2 ∧ iv_ σ2)) := by
  obtain ⟨W, H, hb, hc⟩ := h
  have bi := hb.2.2.2.2
  have yes : ∀ g : Nat, (g = 42 ∧ k = 0 ∨ g = 45 ∧ k = 1) → im_ g k σ → (σ g 0 = 0 → wp_X7_restore k σ (fun r2 σ2 => (-3 : Int) = r2 ∧ iv_ σ2)) ∧ (¬ σ g 0 = 0 → wp_X1_giveBack g σ (fun _ σ6 => ∀ σ8 : fb_St, σ8 = fb_up σ6 0 6 (σ6 g 1) → ∀ σ10 : fb_St, σ10 = fb_up σ8 0 7 (σ8 g 2) → wp_X6_nothingStands σ10 (fun _ σ11 => wp_X7_restore k σ11 (fun r2 σ2 => (1 : Int) = r2 ∧ iv_ σ2)))) := fun g hg hi => by
    obtain ⟨i1, i2, i3⟩ := hi
    refine ⟨fun z => ?_, fun z => ?_⟩
    · unfold wp_X7_restore
      refine sm_in (fun a b => ⟨fun q => by omega, fun _ => ⟨by omega, by omega, fun _ => ⟨rfl, W, H, hb, hc⟩, fun q => absurd (i2.trans z) q⟩⟩) (fun n => by omega)
    · obtain ⟨hW, hH, hK, hB, m1, m2, m3, m4, m5⟩ := i3 (i1.resolve_left z)
      unfold wp_X1_giveBack
      refine sp_shape hW hH (fun s f1 g0 g1 g2 g4 => ?_)
      intro t1 h1 t2 h2 t3 h3 t4 h4
      have sg : ∀ q, q ≠ 1 → q ≠ 4 → s q = σ q := fun q a b => f1 q (by simp only [List.mem_cons, List.not_mem_nil, or_false]; omega)
      have n1 : ∀ q, q ≠ 2 → t1 q = s q := fun q hq => by rw [h1]; funext i; rw [fb_cp_ap, if_neg hq]
      have n2 : ∀ q, q ≠ 3 → t2 q = t1 q := fun q hq => by rw [h2]; funext i; rw [fb_cp_ap, if_neg hq]
      have n4 : ∀ q, q ≠ 0 → t4 q = t2 q := fun q hq => by rw [h4, up_ne _ _ _ hq, h3, up_ne _ _ _ hq]
      have eg : t2 g = σ g := by rw [n2 g (by omega), n1 g (by omega), sg g (by omega) (by omega)]
      have v2 : ∀ i, 0 ≤ i → i < 144 → t2 2 i = σ (g + 1) i := fun i i0 i1 => by rw [n2 2 (by omega), h1, fb_cp_ap, if_pos rfl, if_pos ⟨i0, i1⟩, sg (g + 1) (by omega) (by omega)]
      have v3 : ∀ i, 0 ≤ i → i < 144 → t2 3 i = σ (g + 2) i := fun i i0 i1 => by rw [h2, fb_cp_ap, if_pos rfl, if_pos ⟨i0, i1⟩, n1 (g + 2) (by omega), sg (g + 2) (by omega) (by omega)]
      have e06 : t4 0 6 = σ g 1 := by rw [h4, up_eq]; dsimp only; rw [if_neg (by decide), h3, up_eq]; dsimp only; rw [if_pos rfl, eg]
      have e07 : t4 0 7 = σ g 2 := by rw [h4, up_eq]; dsimp only; rw [if_pos rfl, h3, up_ne _ _ _ (by omega), eg]
      clear h1 h2 h3 h4
      refine sp_nothing (fun u f5 c6 c7 c8 => ?_)
      have un : ∀ q, q ≠ 0 → u q = t2 q := fun q hq => by rw [f5 q (by simp only [List.mem_cons, List.not_mem_nil, or_false]; exact hq), n4 q hq]
      have uo : ∀ q, q ≠ 0 → q ≠ 1 → q ≠ 2 → q ≠ 3 → q ≠ 4 → u q = σ q := fun q a b c d e => by rw [un q a, n2 q d, n1 q c, sg q b e]
      unfold wp_X7_restore
      refine sm_in (fun a b => ⟨fun q => by omega, fun _ => ⟨by omega, by omega, fun q => ?_, fun _ => ?_⟩⟩) (fun n => by omega)
      · rw [uo 51 (by omega) (by omega) (by omega) (by omega) (by omega), i2] at q
        exact absurd q z
      · refine fb_lp3 (fun k' i σ' => k = k' ∧ 0 ≤ i ∧ i ≤ 292 ∧ fr_ [49] u σ' ∧ ∀ j, 0 ≤ j → j < i → σ' 49 j = σ 50 (292 * k + j)) (fun _ i _ => (300 - i).toNat) ?_ k 0 u ⟨rfl, by omega, by omega, fr_rf, fun j j0 j1 => by omega⟩
        rintro k' i σ' ⟨rfl, i0, ii, hf, hv⟩ r hr
        have e50 : σ' 50 = σ 50 := by rw [hf 50 (by decide), uo 50 (by omega) (by omega) (by omega) (by omega) (by omega)]
        unfold wb_X7_restore_26
        refine ⟨fun q => ⟨by omega, by omega, by omega, by omega, by omega, by omega, ?_⟩, fun q => ⟨rfl, ?_⟩⟩
        · intro w hw
          have ew : ∀ j, w 49 j = if j = i then σ 50 (292 * k + i) else σ' 49 j := fun j => by rw [hw, up_eq, e50]
          refine ⟨by omega, hr _ _ _ ⟨rfl, by omega, by omega, fr_tr hf (fr_u hw (by decide)), fun j j0 j1 => ?_⟩ (by omega)⟩
          rw [ew]
          by_cases y : j = i
          · rw [if_pos y, y]
          · rw [if_neg y]; exact hv j j0 (by omega)
        · have E : ∀ q, q ≠ 49 → σ' q = u q := fun q hq => hf q (by simp only [List.mem_cons, List.not_mem_nil, or_false]; exact hq)
          have E1 : σ' 1 = s 1 := by rw [E 1 (by omega), un 1 (by omega), n2 1 (by omega), n1 1 (by omega)]
          have E4 : σ' 4 = s 4 := by rw [E 4 (by omega), un 4 (by omega), n2 4 (by omega), n1 4 (by omega)]
          have E2 : σ' 2 = t2 2 := by rw [E 2 (by omega), un 2 (by omega)]
          have E3 : σ' 3 = t2 3 := by rw [E 3 (by omega), un 3 (by omega)]
          have E0 : σ' 0 = u 0 := E 0 (by omega)
          refine iv_mk (σ := σ) (W := σ g 3) (H := σ g 4) ⟨by rw [E1, g0], by rw [E1, g1], by rw [E1, g2], hW, hH, fun j j0 j1 => ?_, by rw [E4]; exact g4⟩ ⟨?_, ?_, hW, hH, fun j j0 j1 => ?_, fun j j0 j1 => ?_⟩ (fun j j0 j1 => ?_) ?_ bi (fun q hq => ?_) (by rw [E0]; exact c8)
          · rw [E2, v2 j j0 j1]; exact (m5 j j0 j1).1.2
          · rw [hv 288 (by omega) (by omega)]; exact m1
          · rw [hv 289 (by omega) (by omega)]; exact m2
          · rw [hv j j0 (by omega), (m5 j j0 j1).1.1]; exact (m5 j j0 j1).1.2
          · rw [hv (144 + j) (by omega) (by omega), (m5 j j0 j1).2.1]; exact (m5 j j0 j1).2.2
          · rw [hv j j0 (by omega), hv (144 + j) (by omega) (by omega), E2, E3, v2 j j0 j1, v3 j j0 j1]
            exact ⟨(m5 j j0 j1).1.1, (m5 j j0 j1).2.1⟩
          · rw [hv 290 (by omega) (by omega), hv 291 (by omega) (by omega), E0, c6, c7, e06, e07]
            exact ⟨m3, m4, hK, hB⟩
          · have hq' := hq
            simp only [List.mem_cons, List.not_mem_nil, or_false] at hq'
            rw [E q (by omega), uo q (by omega) (by omega) (by omega) (by omega) (by omega)]
  unfold wp_X6_restore
  refine sp_within (fun a b => ⟨fun q => by omega, fun _ => ⟨fun e => yes 42 (by omega) (by rw [e]; exact bi.1), fun e => yes 45 (by omega) (by rw [e]; exact bi.2), by omega⟩⟩) (fun n => ⟨fun _ => ?_, fun q => absurd rfl q⟩)
  unfold wp_X7_restore
  exact sm_in (fun a b => absurd ⟨a, b⟩ n) (fun _ => ⟨fun _ => ⟨rfl, W, H, hb, hc⟩, fun q => absurd rfl q⟩)
end IMG
