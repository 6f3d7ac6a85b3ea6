section CN2
variable {W H : Int} {σ : fb_St}
theorem op_count {w : Int} (h : iv_ σ) : wp_X6_count w σ (fun r σ1 => wp_X7_count w σ1 (fun r2 σ2 => r = r2 ∧ iv_ σ2)) := by
  obtain ⟨W, H, hb, hc⟩ := h
  have hw := tv_wh hb.1
  have hq := hb.2.2.1
  unfold wp_X6_count
  refine ⟨fun e => ?_, fun e => ?_, fun e => ?_, fun e => ?_, fun e => ?_, fun e => ?_, fun e => ?_, fun e => ?_, fun e => ?_, fun e => ?_, fun e => ?_, fun e => ?_, fun e => ?_, fun e => ?_⟩
  · unfold wp_X7_count
    refine sm_told hb (fun s' hf hm => ?_)
    refine ⟨?_, ?_, ?_, ?_, ?_, ?_, ?_, ?_, ?_, ?_, ?_, ?_, ?_, ?_⟩ <;> intro q <;> first | (exfalso; omega) | skip
    exact ⟨by rw [hf 49 (by omega), hb.2.1.1]; exact hb.1.1, iv_model hb hc hf⟩
  · unfold wp_X7_count
    refine sm_told hb (fun s' hf hm => ?_)
    refine ⟨?_, ?_, ?_, ?_, ?_, ?_, ?_, ?_, ?_, ?_, ?_, ?_, ?_, ?_⟩ <;> intro q <;> first | (exfalso; omega) | skip
    exact ⟨by rw [hf 49 (by omega), hb.2.1.2.1]; exact hb.1.2.1, iv_model hb hc hf⟩
  · refine sp_findPits (h := σ 2) hb.1 (fun _ _ _ => rfl) (fun z => absurd rfl z) (fun s f1 g1 _ => ?_)
    have F : ∀ k, k ∉ [5, 6, 7] → s k = σ k := fun k hk => by
      by_cases q : k = 3
      · rw [q]; exact g1 rfl
      · exact f1 k (by simp only [List.mem_cons, List.not_mem_nil, or_false] at hk ⊢; omega)
    have b1 : ba_ W H s := ba_eq hb (fun k hk => F k (by revert hk; revert k; decide)) (by rw [F 0 (by decide)]) (by rw [F 0 (by decide)])
    have c1 : ca_ W H s := ca_eq hc (F 0 (by decide)) (fun k _ hk => F k (by simp only [List.mem_cons, List.not_mem_nil, or_false]; omega))
    unfold wp_X7_count
    refine sm_told b1 (fun s' hf hm => ?_)
    refine ⟨?_, ?_, ?_, ?_, ?_, ?_, ?_, ?_, ?_, ?_, ?_, ?_, ?_, ?_⟩ <;> intro q <;> first | (exfalso; omega) | skip
    refine sm_layPits (h := σ 2) (ba_model b1 hf).2.1 (fun j j0 j1 => by rw [hf 49 (by omega), F 49 (by decide)]; exact (hq j j0 (by omega)).1) (fun s2 f2 _ _ => ⟨rfl, iv_model b1 c1 (fun k hk => ?_)⟩)
    rw [f2 k (by simp only [List.mem_cons, List.not_mem_nil, or_false]; omega), hf k hk]
  · refine sp_countMarks hb.1 ?_
    unfold wp_X7_count
    refine sm_told hb (fun s' hf hm => ?_)
    refine ⟨?_, ?_, ?_, ?_, ?_, ?_, ?_, ?_, ?_, ?_, ?_, ?_, ?_, ?_⟩ <;> intro q <;> first | (exfalso; omega) | skip
    exact sm_marked (ba_model hb hf).2.1 (fun j j0 j1 => by rw [hf 49 (by omega)]; exact (hq j j0 (by omega)).2) ⟨rfl, iv_model hb hc hf⟩
  · refine sp_sFlood hb hc (fun s b1 c1 f1 _ _ => ?_)
    refine sp_countFlood (m := s 3) b1.1 (fun j j0 j1 => ⟨rfl, ba_m b1 j j0 j1⟩) (fun s1 g1 => ?_)
    have b2 : ba_ W H s1 := ba_eq b1 (fun k hk => g1 k (by revert hk; revert k; decide)) (by rw [g1 0 (by decide)]) (by rw [g1 0 (by decide)])
    have c2 : ca_ W H s1 := ca_eq c1 (g1 0 (by decide)) (fun k _ hk => g1 k (by simp only [List.mem_cons, List.not_mem_nil, or_false]; omega))
    unfold wp_X7_count
    refine sm_told b2 (fun s' hf hm => ?_)
    refine ⟨?_, ?_, ?_, ?_, ?_, ?_, ?_, ?_, ?_, ?_, ?_, ?_, ?_, ?_⟩ <;> intro q <;> first | (exfalso; omega) | skip
    refine sm_basins (ba_model b2 hf).2.1 (fun j j0 j1 => (hm.2.1 j j0 j1).1) ⟨bn_eq (fun c hc0 => ?_), iv_model b2 c2 hf⟩
    rw [fs_bs hw.1 (fun j j0 j1 => (b2.1.2.2.2.2.2.1 j j0 (by omega)).1) hc0, g1 3 (by decide)]
  · refine sp_sPour hb hc (fun s b1 c1 p1 _ _ => ?_)
    refine sp_countPour (W := W) (H := H) (ow := (rp_ W H s).1) (by omega) (fun b b0 b1 => (p1.2.1 b b0 b1).1) ?_
    unfold wp_X7_count
    refine sm_told b1 (fun s' hf hm => ?_)
    refine ⟨?_, ?_, ?_, ?_, ?_, ?_, ?_, ?_, ?_, ?_, ?_, ?_, ?_, ?_⟩ <;> intro q <;> first | (exfalso; omega) | skip
    exact sm_basins (ba_model b1 hf).2.1 (fun j j0 j1 => (hm.1.2.2 j j0 j1).1) ⟨rfl, iv_model b1 c1 hf⟩
  · refine sp_sFlood hb hc (fun s b1 c1 f1 _ _ => ?_)
    refine sp_countDams (ow := (fl_ W H s).1) b1.1 (fun j j0 j1 => (f1 j j0 j1).1) ?_
    unfold wp_X7_count
    refine sm_told b1 (fun s' hf hm => ?_)
    refine ⟨?_, ?_, ?_, ?_, ?_, ?_, ?_, ?_, ?_, ?_, ?_, ?_, ?_, ?_⟩ <;> intro q <;> first | (exfalso; omega) | skip
    exact sm_dotsOf (ba_model b1 hf).2.1 (fun j j0 j1 => (hm.2.1 j j0 j1).1) ⟨rfl, iv_model b1 c1 hf⟩
  · refine sp_sPour hb hc (fun s b1 c1 p1 _ _ => ?_)
    refine sp_countDams (ow := (rp_ W H s).1) b1.1 (fun j j0 j1 => (p1.1.2.2.2 j j0 j1).1) ?_
    unfold wp_X7_count
    refine sm_told b1 (fun s' hf hm => ?_)
    refine ⟨?_, ?_, ?_, ?_, ?_, ?_, ?_, ?_, ?_, ?_, ?_, ?_, ?_, ?_⟩ <;> intro q <;> first | (exfalso; omega) | skip
    exact sm_dotsOf (ba_model b1 hf).2.1 (fun j j0 j1 => (hm.1.2.2 j j0 j1).1) ⟨rfl, iv_model b1 c1 hf⟩
  · refine sp_sFlood hb hc (fun s b1 c1 f1 _ _ => ?_)
    refine sp_greatest (lv := (fl_ W H s).2.1) b1.1 (fun j j0 j1 => (f1 j j0 j1).2.1) ?_
    unfold wp_X7_count
    refine sm_told b1 (fun s' hf hm => ?_)
    refine ⟨?_, ?_, ?_, ?_, ?_, ?_, ?_, ?_, ?_, ?_, ?_, ?_, ?_, ?_⟩ <;> intro q <;> first | (exfalso; omega) | skip
    exact sm_greatest (ba_model b1 hf).2.1 (fun j j0 j1 => (hm.2.1 j j0 j1).2.1) ⟨rfl, iv_model b1 c1 hf⟩
  · unfold wp_X7_count
    refine sm_told hb (fun s' hf hm => ?_)
    refine ⟨?_, ?_, ?_, ?_, ?_, ?_, ?_, ?_, ?_, ?_, ?_, ?_, ?_, ?_⟩ <;> intro q <;> first | (exfalso; omega) | skip
    exact ⟨by rw [hf 49 (by omega)]; exact hb.2.2.2.1.1.symm, iv_model hb hc hf⟩
  · unfold wp_X7_count
    refine sm_told hb (fun s' hf hm => ?_)
    refine ⟨?_, ?_, ?_, ?_, ?_, ?_, ?_, ?_, ?_, ?_, ?_, ?_, ?_, ?_⟩ <;> intro q <;> first | (exfalso; omega) | skip
    exact ⟨by rw [hf 49 (by omega)]; exact hb.2.2.2.1.2.1.symm, iv_model hb hc hf⟩
  · refine sp_sTree hb hc (fun s b1 c1 p1 _ _ => ?_)
    unfold wp_X7_count
    refine sm_told b1 (fun s' hf hm => ?_)
    refine ⟨?_, ?_, ?_, ?_, ?_, ?_, ?_, ?_, ?_, ?_, ?_, ?_, ?_, ?_⟩ <;> intro q <;> first | (exfalso; omega) | skip
    unfold wp_X7_treeSize
    have b2 := ba_model b1 hf
    refine sm_tree b2 (fun s2 hf2 hm2 => ⟨?_, iv_model b2 (ca_model c1 hf) hf2⟩)
    have hr : rt_ W H s' = rt_ W H s := by
      unfold rt_ fl_
      rw [hf 2 (by omega), hf 3 (by omega)]
    rw [hr] at hm2
    exact (ev_len p1.2.2.1 hm2.2.2.1 (p1.2.2.2.2.symm.trans hm2.2.2.2.2)).1
  · have i0 := hb.2.2.2.2.1
    have i1 := hb.2.2.2.2.2
    unfold wj_X6_count_195 wj_X6_count_212
    have key : ∀ r : Int, r = σ 42 0 + 2 * σ 45 0 → wp_X7_count w σ (fun r2 σ2 => r = r2 ∧ iv_ σ2) := fun r hr => by
      unfold wp_X7_count
      refine sm_told hb (fun s' hf hm => ?_)
      refine ⟨?_, ?_, ?_, ?_, ?_, ?_, ?_, ?_, ?_, ?_, ?_, ?_, ?_, ?_⟩ <;> intro q <;> first | (exfalso; omega) | skip
      unfold wj_X7_count_180 wj_X7_count_194
      have I := iv_model hb hc hf
      rw [hf 51 (by omega), i0.2.1, i1.2.1]
      have j0 := i0.1
      have j1 := i1.1
      clear i0 i1 hq
      refine ⟨fun a => ⟨fun b => ⟨by omega, by omega, I⟩, fun b => ⟨by omega, by omega, I⟩⟩, fun a => ⟨fun b => ⟨by omega, by omega, I⟩, fun b => ⟨by omega, by omega, I⟩⟩⟩
    have j0 := i0.1
    have j1 := i1.1
    clear i0 i1 hq
    exact ⟨fun a => ⟨fun b => ⟨by omega, key _ (by omega)⟩, fun b => ⟨by omega, key _ (by omega)⟩⟩, fun a => ⟨fun b => ⟨by omega, key _ (by omega)⟩, fun b => ⟨by omega, key _ (by omega)⟩⟩⟩
  · unfold wp_X7_count
    refine sm_told hb (fun s' hf hm => ?_)
    refine ⟨?_, ?_, ?_, ?_, ?_, ?_, ?_, ?_, ?_, ?_, ?_, ?_, ?_, ?_⟩ <;> intro q <;> first | (exfalso; omega) | skip
    exact ⟨rfl, iv_model hb hc hf⟩
end CN2
