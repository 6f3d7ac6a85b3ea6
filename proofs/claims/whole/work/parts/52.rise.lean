/-! ===== the class's flood ===== -/
theorem lr_eq {W H : Int} {σ σ' : fb_St} {lv : Int → Int} {q : List Int} (h : lr_ W H σ lv q) (e13 : σ' 13 = σ 13) (e14 : σ' 14 = σ 14) (e15 : σ' 15 = σ 15) (e16 : σ' 16 = σ 16) : lr_ W H σ' lv q := by
  unfold lr_ at h ⊢
  rw [e13, e14, e15, e16]
  exact h
def fc_ (W H : Int) (σ : fb_St) (ow lv tn : Int → Int) (q : List Int) : Prop :=
  (∀ j, 0 ≤ j → j < W * H → σ 9 j = ow j ∧ σ 10 j = lv j ∧ σ 11 j = tn j) ∧ lr_ W H σ lv q ∧ ∀ j, 0 ≤ j → j < W * H → lv j = -6 ∨ 0 ≤ lv j ∧ lv j ≤ 99
theorem spn_snoc {W H i d : Int} {h : Int → Int} {s : (Int → Int) × List Int} (d0 : 0 ≤ d) : spn_ W H h i (d + 1).toNat s = sp1_ W H h i d (spn_ W H h i d.toNat s) := by
  rw [show (d + 1).toNat = d.toNat + 1 by omega]
  show sp1_ W H h i (d.toNat : Int) _ = _
  rw [Int.toNat_of_nonneg d0]
theorem spn_self {W H i : Int} {h : Int → Int} {s : (Int → Int) × List Int} (hi : s.1 i ≠ -6) : ∀ n : Nat, (spn_ W H h i n s).1 i = s.1 i := by
  intro n
  induction n with
  | zero => rfl
  | succ n ih =>
    show (sp1_ W H h i n (spn_ W H h i n s)).1 i = _
    unfold sp1_
    split
    · rename_i c
      dsimp only
      rw [if_neg (fun e => by rw [← e, ih] at c; exact hi c.2)]
      exact ih
    · exact ih
section RIS
variable {W H : Int} {σ : fb_St} {h m ow lv tn : Int → Int} {q : List Int}
theorem sp_lineUp {i : Int} (ht : tv_ W H σ) (hh : ∀ j, 0 ≤ j → j < W * H → σ 2 j = h j) (hi : 0 ≤ i ∧ i < W * H) (hf : fc_ W H σ ow lv tn q) (hlv : σ 13 3 ≤ lv i ∧ lv i ≤ 99) {Q : Int → fb_St → Prop}
    (hq : ∀ σ', fr_ [10, 14, 15, 16] σ σ' → fc_ W H σ' ow (spn_ W H h i 4 (lv, q)).1 tn (spn_ W H h i 4 (lv, q)).2 → Q 0 σ') : wp_X0_lineUpAround i σ Q := by
  have hw := tv_wh ht
  have hl0 : 0 ≤ lv i := by have := hf.2.1.2.1; omega
  unfold wp_X0_lineUpAround
  refine fb_lp3 (fun x2 d σ' => i = x2 ∧ 0 ≤ d ∧ d ≤ 4 ∧ fr_ [10, 14, 15, 16] σ σ' ∧ fc_ W H σ' ow (spn_ W H h i d.toNat (lv, q)).1 tn (spn_ W H h i d.toNat (lv, q)).2) (fun _ d _ => (4 - d).toNat) ?_ i 0 σ ⟨rfl, Int.le_refl 0, by omega, fr_rf, hf⟩
  rintro x2 d σ1 ⟨rfl, d0, d1, hf1, hc1⟩ r2 hr2
  have hself := spn_self (W := W) (H := H) (i := i) (h := h) (s := (lv, q)) (by dsimp only; omega) d.toNat
  have hsn := spn_snoc (W := W) (H := H) (i := i) (h := h) (s := (lv, q)) d0
  have tv1 : tv_ W H σ1 := tv_eq ht (hf1 1 (by decide)) (hf1 2 (by decide)) (hf1 4 (by decide))
  have e2 : σ1 2 = σ 2 := hf1 2 (by decide)
  have e13 : σ1 13 = σ 13 := hf1 13 (by decide)
  generalize hs : spn_ W H h i d.toNat (lv, q) = s at *
  obtain ⟨l1, q1⟩ := s
  dsimp only at hself hc1
  have hr := nb_rng d hw.1 hi.1 hi.2
  unfold wb_X0_lineUpAround_2 wj_X0_lineUpAround_72
  refine ⟨fun c1 => sp_neighbour (by omega) ⟨d0, c1⟩ ?_, fun c1 => ?_⟩
  · rw [tv1.2.2.2.2.2.2 i d hi.1 hi.2 d0 c1]
    have same : ¬ (nb_ W H i d ≠ -1 ∧ l1 (nb_ W H i d) = -6) → fb_in (d + 1) ∧ r2 i (d + 1) σ1 := fun z => ⟨by omega, hr2 _ _ _ ⟨rfl, by omega, by omega, hf1, by rw [hsn]; unfold sp1_; rw [if_neg z]; exact hc1⟩ (by omega)⟩
    refine ⟨fun z => same (fun y => y.1 z), fun z => ⟨by omega, by omega, fun z6 => ⟨by omega, by omega, by omega, by omega, by omega, by omega, fun σ2 hσ2 => ⟨by omega, by omega, ?_⟩⟩, fun z6 => same (fun y => z6 (((hc1.1 _ (by omega) (by omega)).2.1).trans y.2))⟩⟩
    have hk : 0 ≤ nb_ W H i d ∧ nb_ W H i d < W * H := by omega
    have hk6 : l1 (nb_ W H i d) = -6 := ((hc1.1 _ hk.1 hk.2).2.1).symm.trans z6
    have hhk := ht.2.2.2.2.2.1 (nb_ W H i d) hk.1 (by omega)
    have ev : max (σ1 2 (nb_ W H i d)) (σ1 10 i) = max (h (nb_ W H i d)) (l1 i) := by rw [e2, hh _ hk.1 hk.2, (hc1.1 i hi.1 hi.2).2.1]
    rw [ev] at hσ2
    have hhk2 := hh _ hk.1 hk.2
    have f10 : σ2 10 = fun j => if j = nb_ W H i d then max (h (nb_ W H i d)) (l1 i) else σ1 10 j := by rw [hσ2, up_eq]
    have hf2 : fr_ [10] σ1 σ2 := by rw [hσ2]; exact fr_up (by decide)
    have lr2 : lr_ W H σ2 l1 q1 := lr_eq hc1.2.1 (hf2 13 (by decide)) (hf2 14 (by decide)) (hf2 15 (by decide)) (hf2 16 (by decide))
    have e10 : σ2 10 (nb_ W H i d) = max (h (nb_ W H i d)) (l1 i) := by rw [f10]; dsimp only; rw [if_pos rfl]
    have e213 : σ2 13 3 = σ 13 3 := by rw [hf2 13 (by decide), e13]
    rw [e10]
    have hqpos : ∀ x ∈ q1, 0 ≤ l1 x := fun x hx => by have a := hc1.2.1.2.1; have b := (hc1.2.1.2.2.1 x hx).2; omega
    refine sp_add (lv := l1) (lv' := fun j => if j = nb_ W H i d then max (h (nb_ W H i d)) (l1 i) else l1 j) (q := q1) hw.2.2 lr2 hk (fun hm => by have := hqpos _ hm; omega) (by rw [e213]; omega) (by rw [if_pos rfl]) (fun x hx => by rw [if_neg (fun e => by have := hqpos _ hx; rw [e] at this; omega)]) (fun σ3 hf3 hl3 => ⟨by omega, ?_⟩)
    refine hr2 _ _ _ ⟨rfl, by omega, by omega, fr_tr hf1 (fr_tr (fr_wk hf2 (by decide)) (fr_wk hf3 (by decide))), ?_⟩ (by omega)
    rw [hsn]
    unfold sp1_
    rw [if_pos ⟨z, hk6⟩]
    dsimp only
    refine ⟨fun j j0 j1 => ?_, hl3, fun j j0 j1 => ?_⟩
    · rw [hf3 9 (by decide), hf2 9 (by decide), hf3 10 (by decide), f10, hf3 11 (by decide), hf2 11 (by decide)]
      obtain ⟨g1, g2, g3⟩ := hc1.1 j j0 j1
      refine ⟨g1, ?_, g3⟩
      dsimp only
      split
      · rfl
      · exact g2
    · dsimp only
      split
      · omega
      · exact hc1.2.2 j j0 j1
  · rw [show d.toNat = 4 by omega] at hs
    refine hq σ1 hf1 ?_
    rw [hs]
    exact hc1
theorem sp_start (ht : tv_ W H σ) (hh : ∀ j, 0 ≤ j → j < W * H → σ 2 j = h j) (hm : ∀ j, 0 ≤ j → j < W * H → σ 3 j = m j) {Q : Int → fb_St → Prop}
    (hq : ∀ σ', fr_ [9, 10, 11] σ σ' → (∀ j, 0 ≤ j → j < W * H → σ' 9 j = (if 0 < m j then m j else -6) ∧ σ' 10 j = (if 0 < m j then h j else -6) ∧ σ' 11 j = (if 0 < m j then 0 else -6)) → Q 0 σ') : wp_X0_startAtMarks σ Q := by
  have hw := tv_wh ht
  unfold wp_X0_startAtMarks
  refine fb_lp2 (fun i σ' => 0 ≤ i ∧ i ≤ W * H ∧ fr_ [9, 10, 11] σ σ' ∧ ∀ j, 0 ≤ j → j < i → σ' 9 j = (if 0 < m j then m j else -6) ∧ σ' 10 j = (if 0 < m j then h j else -6) ∧ σ' 11 j = (if 0 < m j then 0 else -6)) (fun i _ => (200 - i).toNat) ?_ 0 σ ⟨Int.le_refl 0, by omega, fr_rf, fun j h0 h1 => by omega⟩
  rintro i σ1 ⟨i0, i1, hf, hj⟩ r2 hr2
  unfold wb_X0_startAtMarks_2
  have e1 : σ1 1 2 = W * H := by rw [hf 1 (by decide)]; exact ht.2.2.1
  rw [e1]
  refine ⟨fun c1 => ⟨i0, by omega, ?_⟩, fun c1 => hq σ1 hf (fun j j0 j1 => hj j j0 (by omega))⟩
  have e3 : σ1 3 i = m i := by rw [hf 3 (by decide)]; exact hm i i0 c1
  have e2 : σ1 2 i = h i := by rw [hf 2 (by decide)]; exact hh i i0 c1
  have fin : ∀ a b c : Int, a = (if 0 < m i then m i else -6) → b = (if 0 < m i then h i else -6) → c = (if 0 < m i then 0 else -6) → r2 (i + 1) (fb_up (fb_up (fb_up σ1 9 i a) 10 i b) 11 i c) := by
    intro a b c ha hb hc
    refine hr2 _ _ ⟨by omega, by omega, fr_tr hf (fr_tr (fr_up (k := 9) (by decide)) (fr_tr (fr_up (k := 10) (by decide)) (fr_up (k := 11) (by decide)))), fun j j0 j1 => ?_⟩ (by omega)
    rw [up_ne _ _ _ (show 9 ≠ 11 by decide), up_ne _ _ _ (show 9 ≠ 10 by decide), up_eq, up_ne _ _ _ (show 10 ≠ 11 by decide), up_eq, up_ne _ _ _ (show 10 ≠ 9 by decide), up_eq, up_ne _ _ _ (show 11 ≠ 10 by decide), up_ne _ _ _ (show 11 ≠ 9 by decide)]
    dsimp only
    by_cases e : j = i
    · rw [if_pos e, if_pos e, if_pos e, e]; exact ⟨ha, hb, hc⟩
    · rw [if_neg e, if_neg e, if_neg e]; exact hj j j0 (by omega)
  unfold wj_X0_startAtMarks_24 wj_X0_startAtMarks_45 wj_X0_startAtMarks_66 wj_X0_startAtMarks_82
  rw [e3]
  refine ⟨fun p => ⟨fun z => by omega, fun _ => ⟨i0, by omega, i0, by omega, fun σ2 h2 => ⟨fun z => by omega, fun _ => ⟨i0, by omega, i0, by omega, fun σ3 h3 => ⟨fun z => by omega, fun _ => ⟨i0, by omega, fun σ4 h4 => ⟨by omega, ?_⟩⟩⟩⟩⟩⟩⟩, fun p => ⟨fun _ => ⟨i0, by omega, fun σ2 h2 => ⟨fun _ => ⟨i0, by omega, fun σ3 h3 => ⟨fun _ => ⟨i0, by omega, fun σ4 h4 => ⟨by omega, ?_⟩⟩, fun z => absurd rfl z⟩⟩, fun z => absurd rfl z⟩⟩, fun z => absurd rfl z⟩⟩
  · have e22 : σ2 2 i = h i := by rw [h2, up_ne _ _ _ (by decide)]; exact e2
    rw [e22] at h3
    subst h4; subst h3; subst h2
    exact fin _ _ _ (by rw [if_pos p]) (by rw [if_pos p]) (by rw [if_pos p])
  · subst h4; subst h3; subst h2
    exact fin _ _ _ (by rw [if_neg p]) (by rw [if_neg p]) (by rw [if_neg p])
/-- the class's flood is the flood -/
theorem sp_rise (ht : tv_ W H σ) (hh : ∀ j, 0 ≤ j → j < W * H → σ 2 j = h j) (hm : ∀ j, 0 ≤ j → j < W * H → σ 3 j = m j) {Q : Int → fb_St → Prop}
    (hq : ∀ σ', fr_ [9, 10, 11, 13, 14, 15, 16] σ σ' → (∀ j, 0 ≤ j → j < W * H → σ' 9 j = (fs_ W H h m).1 j ∧ σ' 10 j = (fs_ W H h m).2.1 j ∧ σ' 11 j = (fs_ W H h m).2.2.1 j) → Q 0 σ') : wp_X0_rise σ Q := by
  have hw := tv_wh ht
  have hhb : ∀ j, 0 ≤ j → j < W * H → 0 ≤ h j ∧ h j ≤ 99 := fun j j0 j1 => by have := ht.2.2.2.2.2.1 j j0 (by omega); have := hh j j0 j1; omega
  unfold wp_X0_rise wp_X2_empty
  intro σ1 h1 σ2 h2 σ3 h3
  have hf3 : fr_ [9, 10, 11, 13, 14, 15, 16] σ σ3 := by
    subst h3; subst h2; subst h1
    exact fr_tr (fr_fill (k := 14) (by decide)) (fr_tr (fr_fill (k := 15) (by decide)) (fr_up (k := 13) (by decide)))
  have tv3 : tv_ W H σ3 := tv_eq ht (hf3 1 (by decide)) (hf3 2 (by decide)) (hf3 4 (by decide))
  have h32 : ∀ j, 0 ≤ j → j < W * H → σ3 2 j = h j := by rw [hf3 2 (by decide)]; exact hh
  have h33 : ∀ j, 0 ≤ j → j < W * H → σ3 3 j = m j := by rw [hf3 3 (by decide)]; exact hm
  refine sp_start tv3 h32 h33 (fun σ4 hf4 hj4 => ?_)
  have hf4' : fr_ [9, 10, 11, 13, 14, 15, 16] σ σ4 := fr_tr hf3 (fr_wk hf4 (by decide))
  have lr4 : lr_ W H σ4 (fun j => if 0 < m j then h j else -6) [] := by
    have e13 : σ4 13 3 = 0 := by rw [hf4 13 (by decide), h3, up_eq]; simp
    refine ⟨List.nodup_nil, by omega, fun x hx => (by cases hx), fun v v0 v1 => ⟨?_, fun z hz => (by cases hz)⟩⟩
    show σ4 14 v = -1
    rw [hf4 14 (by decide), h3, up_ne _ _ _ (by decide), h2, fb_fill_ap, if_neg (by decide), h1, fb_fill_ap, if_pos rfl]
  refine fb_lp2 (fun i σ' => 0 ≤ i ∧ i ≤ W * H ∧ fr_ [9, 10, 11, 13, 14, 15, 16] σ σ' ∧ σ' 13 3 = 0 ∧ (∀ j, 0 ≤ j → j < W * H → 0 < m j → (mk_ W H h m i.toNat (fun j => if 0 < m j then h j else -6, [])).1 j = h j) ∧ fc_ W H σ' (fun j => if 0 < m j then m j else -6) (mk_ W H h m i.toNat (fun j => if 0 < m j then h j else -6, [])).1 (fun j => if 0 < m j then 0 else -6) (mk_ W H h m i.toNat (fun j => if 0 < m j then h j else -6, [])).2) (fun i _ => (200 - i).toNat) ?_ 0 σ4 ⟨Int.le_refl 0, by omega, hf4', by rw [hf4 13 (by decide), h3, up_eq]; simp, fun j _ _ hj => by show (if 0 < m j then h j else -6) = _; rw [if_pos hj], hj4, lr4, fun j j0 j1 => ?_⟩
  rotate_left
  · show (if 0 < m j then h j else -6) = -6 ∨ 0 ≤ (if 0 < m j then h j else -6) ∧ (if 0 < m j then h j else -6) ≤ 99
    split
    · exact Or.inr (hhb j j0 j1)
    · exact Or.inl rfl
  clear lr4 hj4 hf4 hf4' σ4 h33 h32 tv3 hf3 h3 h2 h1 σ1 σ2 σ3
  rintro i σ1 ⟨i0, i1, hf1, e13, hmj, hc1⟩ r14 hr14
  have tv1 : tv_ W H σ1 := tv_eq ht (hf1 1 (by decide)) (hf1 2 (by decide)) (hf1 4 (by decide))
  have h12 : ∀ j, 0 ≤ j → j < W * H → σ1 2 j = h j := by rw [hf1 2 (by decide)]; exact hh
  have es : mk_ W H h m (i + 1).toNat (fun j => if 0 < m j then h j else -6, []) = if 0 < m i then spn_ W H h i 4 (mk_ W H h m i.toNat (fun j => if 0 < m j then h j else -6, [])) else mk_ W H h m i.toNat (fun j => if 0 < m j then h j else -6, []) := by
    rw [show (i + 1).toNat = i.toNat + 1 by omega]
    show (if 0 < m (i.toNat : Int) then spn_ W H h (i.toNat : Int) 4 _ else _) = _
    rw [Int.toNat_of_nonneg i0]
  unfold wb_X0_rise_14 wj_X0_rise_37
  rw [tv1.2.2.1]
  refine ⟨fun c1 => ?_, fun c1 => ?_⟩
  · have e3 : σ1 3 i = m i := by rw [hf1 3 (by decide)]; exact hm i i0 c1
    rw [e3]
    refine ⟨i0, by omega, fun p => ?_, fun p => ⟨by omega, hr14 _ _ ⟨by omega, by omega, hf1, e13, by rw [es, if_neg p]; exact hmj, by rw [es, if_neg p]; exact hc1⟩ (by omega)⟩⟩
    refine sp_lineUp tv1 h12 ⟨i0, c1⟩ hc1 (by rw [e13, hmj i i0 c1 p]; exact hhb i i0 c1) (fun σ2 hf2 hc2 => ⟨by omega, ?_⟩)
    refine hr14 _ _ ⟨by omega, by omega, fr_tr hf1 (fr_wk hf2 (by decide)), by rw [hf2 13 (by decide)]; exact e13, fun j j0 j1 hj => ?_, by rw [es, if_pos p]; exact hc2⟩ (by omega)
    rw [es, if_pos p]
    have keep : ∀ (n : Nat) (s : (Int → Int) × List Int), s.1 j ≠ -6 → (spn_ W H h i n s).1 j = s.1 j := by
      intro n s hs
      induction n with
      | zero => rfl
      | succ n ih =>
        show (sp1_ W H h i n (spn_ W H h i n s)).1 j = _
        unfold sp1_
        split
        · rename_i c
          dsimp only
          rw [if_neg (fun e => by rw [← e, ih] at c; exact hs c.2)]
          exact ih
        · exact ih
    rw [keep]
    · exact hmj j j0 j1 hj
    · rw [hmj j j0 j1 hj]; have := hhb j j0 j1; omega
  · have ei : i = W * H := by omega
    subst ei
    refine fb_lp2 (fun t σ' => 1 ≤ t ∧ t ≤ W * H + 1 ∧ fr_ [9, 10, 11, 13, 14, 15, 16] σ σ' ∧ ∃ ow lv tn q, fc_ W H σ' ow lv tn q ∧ run_ W H h (W * H + 1 - t).toNat t (ow, lv, tn, q) = fs_ W H h m) (fun t _ => (200 - t).toNat) ?_ 1 σ1 ⟨by omega, by omega, hf1, _, _, _, _, hc1, by rw [show W * H + 1 - 1 = W * H by omega]; rfl⟩
    rintro t σ2 ⟨t0, t1, hf2, ow, lv, tn, q, hc2, hrun⟩ r45 hr45
    have tv2 : tv_ W H σ2 := tv_eq ht (hf2 1 (by decide)) (hf2 2 (by decide)) (hf2 4 (by decide))
    unfold wb_X0_rise_45 wj_X0_rise_104
    rw [tv2.2.2.1]
    refine ⟨fun c2 => ?_, fun c2 => ?_⟩
    · rw [show (W * H + 1 - t).toNat = 0 by omega] at hrun
      refine hq σ2 hf2 (fun j j0 j1 => ?_)
      rw [← hrun]
      exact hc2.1 j j0 j1
    · rw [show (W * H + 1 - t).toNat = (W * H + 1 - (t + 1)).toNat + 1 by omega] at hrun
      unfold run_ at hrun
      dsimp only at hrun
      have hqp : ∀ x ∈ q, 0 ≤ x := fun x hx => (hc2.2.1.2.2.1 x hx).1.1
      refine sp_take hw.2.2 hc2.2.1 (fun hnil σ3 hf3 => ⟨fun _ => ?_, fun z => absurd rfl z⟩) (fun k σ3 hk hk1 hkq hf3 e313 hl3 => ⟨fun z => absurd z hk1, fun _ => ?_⟩)
      · rw [if_pos ((bst_nil hqp).mpr hnil)] at hrun
        refine hq σ3 (fr_tr hf2 (fr_wk hf3 (by decide))) (fun j j0 j1 => ?_)
        rw [← hrun, hf3 9 (by decide), hf3 10 (by decide), hf3 11 (by decide)]
        exact hc2.1 j j0 j1
      · rw [if_neg (by rw [← hk]; exact hk1), ← hk] at hrun
        have hkr := (hc2.2.1.2.2.1 k hkq).1
        have hkl := (hc2.2.1.2.2.1 k hkq).2
        refine ⟨by omega, by omega, fun σ4 h4 => ?_⟩
        have hf4 : fr_ [9, 10, 11, 13, 14, 15, 16] σ σ4 := fr_tr hf2 (fr_tr (fr_wk hf3 (by decide)) (by rw [h4]; exact fr_up (by decide)))
        have tv4 : tv_ W H σ4 := tv_eq ht (hf4 1 (by decide)) (hf4 2 (by decide)) (hf4 4 (by decide))
        have e49 : σ4 9 = σ2 9 := by rw [h4, up_ne _ _ _ (by decide), hf3 9 (by decide)]
        have e410 : σ4 10 = σ2 10 := by rw [h4, up_ne _ _ _ (by decide), hf3 10 (by decide)]
        have e411 : σ4 11 = fun j => if j = k then t else σ2 11 j := by rw [h4, up_eq, hf3 11 (by decide)]
        refine sp_onlyBasinAround (ow := ow) tv4 hkr (fun j j0 j1 => by rw [e49]; exact (hc2.1 j j0 j1).1) ⟨by omega, by omega, fun σ5 h5 => ⟨by omega, by omega, ?_⟩⟩
        have hf5 : fr_ [9, 10, 11, 13, 14, 15, 16] σ σ5 := fr_tr hf4 (by rw [h5]; exact fr_up (by decide))
        have tv5 : tv_ W H σ5 := tv_eq ht (hf5 1 (by decide)) (hf5 2 (by decide)) (hf5 4 (by decide))
        have h52 : ∀ j, 0 ≤ j → j < W * H → σ5 2 j = h j := by rw [hf5 2 (by decide)]; exact hh
        have e59 : σ5 9 = fun j => if j = k then ar_ W H ow k else σ2 9 j := by rw [h5, up_eq, e49]
        have e5 : σ5 9 k = ar_ W H ow k := by rw [e59]; dsimp only; rw [if_pos rfl]
        have o5 : ∀ z, z ≠ 9 → σ5 z = σ4 z := fun z hz => by rw [h5, up_ne _ _ _ hz]
        have o4 : ∀ z, z ≠ 11 → σ4 z = σ3 z := fun z hz => by rw [h4, up_ne _ _ _ hz]
        have hc5 : fc_ W H σ5 (fun j => if j = k then ar_ W H ow k else ow j) lv (fun j => if j = k then t else tn j) (q.filter (fun x => decide (x ≠ k))) := by
          refine ⟨fun j j0 j1 => ?_, lr_eq hl3 ((o5 13 (by decide)).trans (o4 13 (by decide))) ((o5 14 (by decide)).trans (o4 14 (by decide))) ((o5 15 (by decide)).trans (o4 15 (by decide))) ((o5 16 (by decide)).trans (o4 16 (by decide))), hc2.2.2⟩
          obtain ⟨g1, g2, g3⟩ := hc2.1 j j0 j1
          rw [e59, o5 10 (by decide), e410, o5 11 (by decide), e411]
          refine ⟨?_, g2, ?_⟩
          · dsimp only; split
            · rfl
            · exact g1
          · dsimp only; split
            · rfl
            · exact g3
        unfold st_ at hrun
        dsimp only at hrun
        rw [e5]
        refine ⟨fun p => ?_, fun p => ⟨by omega, ?_⟩⟩
        · rw [if_pos p] at hrun
          refine sp_lineUp tv5 h52 hkr hc5 ⟨by rw [o5 13 (by decide), o4 13 (by decide), e313]; omega, hkl.2⟩ (fun σ6 hf6 hc6 => ⟨by omega, ?_⟩)
          exact hr45 _ _ ⟨by omega, by omega, fr_tr hf5 (fr_wk hf6 (by decide)), _, _, _, _, hc6, hrun⟩ (by omega)
        · rw [if_neg p] at hrun
          exact hr45 _ _ ⟨by omega, by omega, hf5, _, _, _, _, hc5, hrun⟩ (by omega)
end RIS
