section MF2
variable {W H : Int} {σ : fb_St} {h m : Int → Int}
theorem sm_flood0 (hm : mv_ W H σ) (hh : ∀ j, 0 ≤ j → j < W * H → σ 49 j = h j) (hk : ∀ j, 0 ≤ j → j < W * H → σ 49 (144 + j) = m j) {r7 : Int → fb_St → Prop} {Q : Int → fb_St → Prop} {i : Int} {σ1 : fb_St} (i0 : 0 ≤ i) (i1 : i < 144) (e49 : σ1 49 = σ 49)
    (fin : ∀ a b c : Int, (i < W * H → a = (if 0 < m i then m i else -6) ∧ b = (if 0 < m i then h i else -6) ∧ c = (if 0 < m i then 0 else -6)) → r7 (i + 1) (fb_up (fb_up (fb_up σ1 55 i a) 56 i b) 57 i c)) :
    (i < W * H → fb_in (144 + i) ∧ 0 ≤ 144 + i ∧ 144 + i < 292 ∧ (0 < σ1 49 (144 + i) → wj_X7_flood_40 r7 Q i 1 σ1) ∧ (¬ 0 < σ1 49 (144 + i) → wj_X7_flood_39 r7 Q i σ1)) ∧ (¬ i < W * H → wj_X7_flood_39 r7 Q i σ1) := by
  have hm1 : mv_ W H σ1 := mv_eq hm e49
  unfold wj_X7_flood_39 wj_X7_flood_40 wj_X7_flood_65 wj_X7_flood_86 wj_X7_flood_102
  have none : (i < W * H → ¬ 0 < m i) → ((0 : Int) = 0 → 0 ≤ i ∧ i < 144 ∧ ∀ σ48 : fb_St, σ48 = fb_up σ1 55 i (-6) → ((0 : Int) = 0 → 0 ≤ i ∧ i < 144 ∧ ∀ σ56 : fb_St, σ56 = fb_up σ48 56 i (-6) → ((0 : Int) = 0 → 0 ≤ i ∧ i < 144 ∧ ∀ σ60 : fb_St, σ60 = fb_up σ56 57 i (-6) → fb_in (i + 1) ∧ r7 (i + 1) σ60) ∧ (¬ (0 : Int) = 0 → 0 ≤ i ∧ i < 144 ∧ ∀ σ60 : fb_St, σ60 = fb_up σ56 57 i 0 → fb_in (i + 1) ∧ r7 (i + 1) σ60)) ∧ (¬ (0 : Int) = 0 → 0 ≤ i ∧ i < 292 ∧ 0 ≤ i ∧ i < 144 ∧ ∀ σ56 : fb_St, σ56 = fb_up σ48 56 i (σ48 49 i) → ((0 : Int) = 0 → 0 ≤ i ∧ i < 144 ∧ ∀ σ60 : fb_St, σ60 = fb_up σ56 57 i (-6) → fb_in (i + 1) ∧ r7 (i + 1) σ60) ∧ (¬ (0 : Int) = 0 → 0 ≤ i ∧ i < 144 ∧ ∀ σ60 : fb_St, σ60 = fb_up σ56 57 i 0 → fb_in (i + 1) ∧ r7 (i + 1) σ60))) := by
    intro hn _
    refine ⟨i0, i1, fun σ2 h2 => ⟨fun _ => ⟨i0, i1, fun σ3 h3 => ⟨fun _ => ⟨i0, i1, fun σ4 h4 => ⟨by omega, ?_⟩⟩, fun z => absurd rfl z⟩⟩, fun z => absurd rfl z⟩⟩
    subst h4; subst h3; subst h2
    exact fin _ _ _ (fun z => by rw [if_neg (hn z), if_neg (hn z), if_neg (hn z)]; exact ⟨rfl, rfl, rfl⟩)
  refine ⟨fun c => ?_, fun c => ⟨none (fun z => absurd z c), fun z => absurd rfl z⟩⟩
  have e3 : σ1 49 (144 + i) = m i := by rw [e49]; exact hk i i0 c
  rw [e3]
  refine ⟨by omega, by omega, by omega, fun p => ⟨fun z => by omega, fun _ => ⟨by omega, by omega, by omega, i0, i1, fun σ2 h2 => ⟨fun z => by omega, fun _ => ⟨i0, by omega, i0, i1, fun σ3 h3 => ⟨fun z => by omega, fun _ => ⟨i0, i1, fun σ4 h4 => ⟨by omega, ?_⟩⟩⟩⟩⟩⟩⟩, fun p => ⟨none (fun _ => p), fun z => absurd rfl z⟩⟩
  have e22 : σ2 49 i = h i := by rw [h2, up_ne _ _ _ (by decide), e49]; exact hh i i0 c
  rw [e22] at h3
  subst h4; subst h3; subst h2
  exact fin _ _ _ (fun _ => by rw [if_pos p, if_pos p, if_pos p]; exact ⟨rfl, rfl, rfl⟩)
/-- the model's flood is the flood -/
theorem sm_flood (hm : mv_ W H σ) (hh : ∀ j, 0 ≤ j → j < W * H → σ 49 j = h j) (hk : ∀ j, 0 ≤ j → j < W * H → σ 49 (144 + j) = m j) {Q : Int → fb_St → Prop}
    (hq : ∀ σ', fr_ [48, 55, 56, 57, 58, 59] σ σ' → (∀ j, 0 ≤ j → j < W * H → σ' 55 j = (fs_ W H h m).1 j ∧ σ' 56 j = (fs_ W H h m).2.1 j ∧ σ' 57 j = (fs_ W H h m).2.2.1 j) → Q 0 σ') : wp_X7_flood σ Q := by
  have hw := mv_wh hm
  have hhb : ∀ j, 0 ≤ j → j < W * H → 0 ≤ h j := fun j j0 j1 => by have := hm.2.2.2.2.1 j j0 (by omega); have := hh j j0 j1; omega
  unfold wp_X7_flood
  intro σ1 h1
  have hf1 : fr_ [48, 55, 56, 57, 58, 59] σ σ1 := by rw [h1]; exact fr_up (by decide)
  have c1 : σ1 48 11 = 0 := by rw [h1, up_eq]; simp
  refine fb_lp2 (fun i σ' => 0 ≤ i ∧ i ≤ 144 ∧ fr_ [48, 55, 56, 57, 58, 59] σ σ' ∧ σ' 48 11 = 0 ∧ ∀ j, 0 ≤ j → j < i → j < W * H → σ' 55 j = (if 0 < m j then m j else -6) ∧ σ' 56 j = (if 0 < m j then h j else -6) ∧ σ' 57 j = (if 0 < m j then 0 else -6)) (fun i _ => (144 - i).toNat) ?_ 0 σ1 ⟨Int.le_refl 0, by omega, hf1, c1, fun j h0 h1 => by omega⟩
  clear hf1 c1 h1 σ1
  rintro i σ1 ⟨i0, i1, hf1, c48, hj⟩ r7 hr7
  have hm1 : mv_ W H σ1 := mv_eq hm (hf1 49 (by decide))
  unfold wb_X7_flood_7
  refine ⟨fun c => sm_dots hm1 (sm_flood0 hm hh hk i0 c (hf1 49 (by decide)) (fun a b cc habc => ?_)), fun c => ?_⟩
  · refine hr7 _ _ ⟨by omega, by omega, fr_tr hf1 (fr_tr (fr_up (k := 55) (by decide)) (fr_tr (fr_up (k := 56) (by decide)) (fr_up (k := 57) (by decide)))), by rw [up_ne _ _ _ (by decide), up_ne _ _ _ (by decide), up_ne _ _ _ (by decide)]; exact c48, fun j j0 j1 j2 => ?_⟩ (by omega)
    rw [up_ne _ _ _ (show 55 ≠ 57 by decide), up_ne _ _ _ (show 55 ≠ 56 by decide), up_eq, up_ne _ _ _ (show 56 ≠ 57 by decide), up_eq, up_ne _ _ _ (show 56 ≠ 55 by decide), up_eq, up_ne _ _ _ (show 57 ≠ 56 by decide), up_ne _ _ _ (show 57 ≠ 55 by decide)]
    dsimp only
    by_cases e : j = i
    · rw [if_pos e, if_pos e, if_pos e, e]; exact habc (by omega)
    · rw [if_neg e, if_neg e, if_neg e]; exact hj j j0 (by omega) j2
  have md0 : md_ W H σ1 (fun j => if 0 < m j then m j else -6) (fun j => if 0 < m j then h j else -6) (fun j => if 0 < m j then 0 else -6) [] := by
    refine ⟨fun j j0 j1 => hj j j0 (by omega) j1, by omega, by rw [c48]; rfl, fun k k0 k1 => by omega, fun a b a0 ab b1 => by omega, ?_, fun j j0 j1 z => ?_⟩
    · have := (su_bd (f := fun j => if (fun j => if 0 < m j then h j else -6) j = -6 then 1 else 0) (W * H).toNat (fun j _ _ => by split <;> omega)).2
      omega
    · dsimp only at z ⊢
      by_cases p : 0 < m j
      · rw [if_pos p] at z; have := hhb j j0 j1; omega
      · rw [if_neg p]
  refine fb_lp2 (fun i σ' => 0 ≤ i ∧ i ≤ W * H ∧ fr_ [48, 55, 56, 57, 58, 59] σ σ' ∧ (∀ j, 0 ≤ j → j < W * H → 0 < m j → (mk_ W H h m i.toNat (fun j => if 0 < m j then h j else -6, [])).1 j = h j) ∧ md_ W H σ' (fun j => if 0 < m j then m j else -6) (mk_ W H h m i.toNat (fun j => if 0 < m j then h j else -6, [])).1 (fun j => if 0 < m j then 0 else -6) (mk_ W H h m i.toNat (fun j => if 0 < m j then h j else -6, [])).2 ∧ 0 + ((mk_ W H h m i.toNat (fun j => if 0 < m j then h j else -6, [])).2).length ≤ σ' 48 11) (fun i _ => (200 - i).toNat) ?_ 0 σ1 ⟨Int.le_refl 0, by omega, hf1, fun j _ _ hj => by show (if 0 < m j then h j else -6) = _; rw [if_pos hj], md0, by show (0 : Int) + (([] : List Int).length : Int) ≤ _; rw [c48]; simp⟩
  clear md0 hj c48 hm1 hf1 hr7 c i0 i1 i σ1
  rintro i σ1 ⟨i0, i1, hf1, hmj, hd1, hl1⟩ r111 hr111
  have hm1 : mv_ W H σ1 := mv_eq hm (hf1 49 (by decide))
  have h149 : ∀ j, 0 ≤ j → j < W * H → σ1 49 j = h j := by rw [hf1 49 (by decide)]; exact hh
  have es : mk_ W H h m (i + 1).toNat (fun j => if 0 < m j then h j else -6, []) = if 0 < m i then spn_ W H h i 4 (mk_ W H h m i.toNat (fun j => if 0 < m j then h j else -6, [])) else mk_ W H h m i.toNat (fun j => if 0 < m j then h j else -6, []) := by
    rw [show (i + 1).toNat = i.toNat + 1 by omega]
    show (if 0 < m (i.toNat : Int) then spn_ W H h (i.toNat : Int) 4 _ else _) = _
    rw [Int.toNat_of_nonneg i0]
  unfold wb_X7_flood_111 wj_X7_flood_137
  refine sm_dots hm1 ⟨fun c1 => ?_, fun c1 => ?_⟩
  · have e3 : σ1 49 (144 + i) = m i := by rw [hf1 49 (by decide)]; exact hk i i0 c1
    rw [e3]
    refine ⟨by omega, by omega, by omega, fun p => ?_, fun p => ⟨by omega, hr111 _ _ ⟨by omega, by omega, hf1, by rw [es, if_neg p]; exact ⟨hmj, hd1, hl1⟩⟩ (by omega)⟩⟩
    refine sm_spill hm1 h149 ⟨i0, c1⟩ hd1 (by rw [hmj i i0 c1 p]; exact hhb i i0 c1) 0 hl1 (fun σ2 hf2 hd2 hl2 => ⟨by omega, ?_⟩)
    refine hr111 _ _ ⟨by omega, by omega, fr_tr hf1 (fr_wk hf2 (by decide)), ?_⟩ (by omega)
    rw [es, if_pos p]
    refine ⟨fun j j0 j1 hj => ?_, hd2, hl2⟩
    have keep : ∀ (n : Nat) (s : (Int → Int) × List Int), s.1 j ≠ -6 → (spn_ W H h i n s).1 j = s.1 j := by
      intro n s hs
      induction n with
      | zero => rfl
      | succ n ih =>
        show (sp1_ W H h i n (spn_ W H h i n s)).1 j = _
        unfold sp1_
        split
        · rename_i c
          dsimp only
          rw [if_neg (fun e => by rw [← e, ih] at c; exact hs c.2)]
          exact ih
        · exact ih
    rw [keep]
    · exact hmj j j0 j1 hj
    · rw [hmj j j0 j1 hj]; have := hhb j j0 j1; omega
  have ei : i = W * H := by omega
  subst ei
  have goal : ∀ (t : Int) (σ2 : fb_St) (ow lv tn : Int → Int) (q : List Int) (r : Int → Int → fb_St → Prop), 0 ≤ t → fr_ [48, 55, 56, 57, 58, 59] σ σ2 → md_ W H σ2 ow lv tn q → t + q.length ≤ σ2 48 11 → run_ W H h (W * H - t).toNat (t + 1) (ow, lv, tn, q) = fs_ W H h m → (∀ x, ((q = [] ∧ x = -6) ∨ (0 ≤ x ∧ x < σ2 48 11 ∧ σ2 59 x = 0 ∧ σ2 58 x = bst_ lv q ∧ q ≠ [])) → r x t σ2) → wp_X7_first σ2 (fun a σ' => r a t σ') := by
    intro t σ2 ow lv tn q r t0 hf2 hd2 hl2 hrun hr
    exact sm_first (mv_eq hm (hf2 49 (by decide))) hd2 (fun z => hr _ (Or.inl ⟨z, rfl⟩)) (fun x x0 x1 x2 x3 x4 => hr _ (Or.inr ⟨x0, x1, x2, x3, x4⟩))
  refine goal 0 σ1 _ _ _ _ (fun a t σ' => ∃ n, wl_X7_flood_150 Q n a t σ') (Int.le_refl 0) hf1 hd1 hl1 (by rw [show W * H - 0 = W * H by omega]; rfl) (fun x hx => ?_)
  refine fb_lp3 (fun x t σ' => 0 ≤ t ∧ fr_ [48, 55, 56, 57, 58, 59] σ σ' ∧ ∃ ow lv tn q, md_ W H σ' ow lv tn q ∧ t + (q.length : Int) ≤ σ' 48 11 ∧ run_ W H h (W * H - t).toNat (t + 1) (ow, lv, tn, q) = fs_ W H h m ∧ ((q = [] ∧ x = -6) ∨ (0 ≤ x ∧ x < σ' 48 11 ∧ σ' 59 x = 0 ∧ σ' 58 x = bst_ lv q ∧ q ≠ []))) (fun _ t _ => (W * H - t).toNat) ?_ x 0 σ1 ⟨Int.le_refl 0, hf1, _, _, _, _, hd1, hl1, by rw [show W * H - 0 = W * H by omega]; rfl, hx⟩
  clear hx x
  rintro x t σ2 ⟨t0, hf2, ow, lv, tn, q, hd2, hl2, hrun, hx⟩ r150 hr150
  have hm2 : mv_ W H σ2 := mv_eq hm (hf2 49 (by decide))
  have hN := md_N hw.2.1 hd2
  unfold wb_X7_flood_150
  rcases hx with ⟨hnil, rfl⟩ | ⟨x0, x1, x2, x3, x4⟩
  · refine ⟨fun _ => ?_, fun z => by omega⟩
    have hfin : run_ W H h (W * H - t).toNat (t + 1) (ow, lv, tn, q) = (ow, lv, tn, q) := by
      subst hnil
      cases (W * H - t).toNat with
      | zero => rfl
      | succ n => unfold run_; exact if_pos rfl
    rw [hfin] at hrun
    refine hq σ2 hf2 (fun j j0 j1 => ?_)
    rw [← hrun]
    exact hd2.1 j j0 j1
  · have hlen : 0 < q.length := List.length_pos_iff.mpr x4
    have ht : t < W * H := by omega
    rw [show (W * H - t).toNat = (W * H - (t + 1)).toNat + 1 by omega] at hrun
    unfold run_ at hrun
    dsimp only at hrun
    obtain ⟨ha, hn0, hql, hln, hinj, hct, how⟩ := id hd2
    have hkr := (hln x x0 x1)
    rw [x3] at hkr
    have hqp : ∀ y ∈ q, 0 ≤ y := fun y hy => by
      rw [hql] at hy
      obtain ⟨z, z0, z1, -, z3⟩ := (ql_mem _).mp hy
      rw [← z3]; exact (hln z z0 (by omega)).1.1
    rw [if_neg (by omega)] at hrun
    refine ⟨fun z => by omega, fun _ => ⟨x0, by omega, fun σ3 h3 => ⟨by omega, x0, by omega, fun k hk => ?_⟩⟩⟩
    have e3 : σ3 58 x = bst_ lv q := by rw [h3, up_ne _ _ _ (by decide)]; exact x3
    rw [e3] at hk
    rw [← hk] at hrun hkr x3
    have hkq : k ∈ q := by rw [hk]; exact bst_mem (by rw [← hk]; omega)
    refine ⟨by omega, by omega, fun σ4 h4 => ?_⟩
    have hf4 : fr_ [48, 55, 56, 57, 58, 59] σ σ4 := by
      subst h4; subst h3
      exact fr_tr hf2 (fr_tr (fr_up (k := 59) (by decide)) (fr_up (k := 57) (by decide)))
    have hm4 : mv_ W H σ4 := mv_eq hm (hf4 49 (by decide))
    have g55 : σ4 55 = σ2 55 := by rw [h4, up_ne _ _ _ (by decide), h3, up_ne _ _ _ (by decide)]
    refine sm_basinBeside (ow := ow) hm4 hkr.1 (fun j j0 j1 => by rw [g55]; exact (ha j j0 j1).1) ⟨by omega, by omega, fun σ5 h5 => ⟨by omega, by omega, ?_⟩⟩
    have hf5 : fr_ [48, 55, 56, 57, 58, 59] σ σ5 := fr_tr hf4 (by rw [h5]; exact fr_up (by decide))
    have hm5 : mv_ W H σ5 := mv_eq hm (hf5 49 (by decide))
    have h549 : ∀ j, 0 ≤ j → j < W * H → σ5 49 j = h j := by rw [hf5 49 (by decide)]; exact hh
    have k55 : σ5 55 = fun j => if j = k then ar_ W H ow k else σ2 55 j := by rw [h5, up_eq, g55]
    have k56 : σ5 56 = σ2 56 := by rw [h5, up_ne _ _ _ (by decide), h4, up_ne _ _ _ (by decide), h3, up_ne _ _ _ (by decide)]
    have k57 : σ5 57 = fun j => if j = k then t + 1 else σ2 57 j := by rw [h5, up_ne _ _ _ (by decide), h4, up_eq, h3, up_ne _ _ _ (by decide)]
    have k58 : σ5 58 = σ2 58 := by rw [h5, up_ne _ _ _ (by decide), h4, up_ne _ _ _ (by decide), h3, up_ne _ _ _ (by decide)]
    have k59 : σ5 59 = fun j => if j = x then 1 else σ2 59 j := by rw [h5, up_ne _ _ _ (by decide), h4, up_ne _ _ _ (by decide), h3, up_eq]
    have k48 : σ5 48 = σ2 48 := by rw [h5, up_ne _ _ _ (by decide), h4, up_ne _ _ _ (by decide), h3, up_ne _ _ _ (by decide)]
    have hd5 : md_ W H σ5 (fun j => if j = k then ar_ W H ow k else ow j) lv (fun j => if j = k then t + 1 else tn j) (q.filter (fun y => decide (y ≠ k))) := by
      refine ⟨fun j j0 j1 => ?_, by rw [k48]; exact hn0, ?_, by rw [k48, k58]; exact hln, by rw [k48, k58]; exact hinj, by rw [k48]; exact hct, fun j j0 j1 z => ?_⟩
      · rw [k55, k56, k57]
        obtain ⟨b1, b2, b3⟩ := ha j j0 j1
        refine ⟨?_, b2, ?_⟩
        · dsimp only; split
          · rfl
          · exact b1
        · dsimp only; split
          · rfl
          · exact b3
      · rw [k48, k58, k59, hql, ql_take x0 _ (by omega) (fun a b a0 ab b1 => hinj a b a0 ab (by omega)), x3]
      · dsimp only
        rw [if_neg (fun e => by have := hkr.2; rw [← e] at this; omega)]
        exact how j j0 j1 z
    have hl5 : t + 1 + ((q.filter (fun y => decide (y ≠ k))).length : Int) ≤ σ5 48 11 := by
      have : (q.filter (fun y => decide (y ≠ k))).length < q.length := List.length_filter_lt_length_iff_exists.mpr ⟨k, hkq, by simp⟩
      rw [k48]; omega
    have e5 : σ5 55 k = ar_ W H ow k := by rw [k55]; dsimp only; rw [if_pos rfl]
    unfold st_ at hrun
    dsimp only at hrun
    rw [e5]
    unfold wj_X7_flood_207
    have hlk : 0 ≤ lv k := hkr.2
    refine ⟨fun p => ?_, fun p => ?_⟩
    · rw [if_pos p] at hrun
      refine sm_spill hm5 h549 hkr.1 hd5 hlk (t + 1) hl5 (fun σ6 hf6 hd6 hl6 => ?_)
      have hf6' := fr_tr hf5 (fr_wk hf6 (show ∀ k, k ∈ [48, 56, 58, 59] → k ∈ [48, 55, 56, 57, 58, 59] by decide))
      exact goal (t + 1) σ6 _ _ _ _ r150 (by omega) hf6' hd6 hl6 hrun (fun y hy => hr150 _ _ _ ⟨by omega, hf6', _, _, _, _, hd6, hl6, hrun, hy⟩ (by omega))
    · rw [if_neg p] at hrun
      exact goal (t + 1) σ5 _ _ _ _ r150 (by omega) hf5 hd5 hl5 hrun (fun y hy => hr150 _ _ _ ⟨by omega, hf5, _, _, _, _, hd5, hl5, hrun, hy⟩ (by omega))
end MF2
