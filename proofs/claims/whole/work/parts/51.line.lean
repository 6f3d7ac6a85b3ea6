section FLC
variable {W H : Int} {σ : fb_St} {ow : Int → Int}
theorem ob_or (i d : Int) : ob_ W H ow i d = -6 ∨ 0 < ob_ W H ow i d := by unfold ob_; split <;> omega
theorem sp_basinBeside {oo : Nat} {i d : Int} (ht : tv_ W H σ) (hi : 0 ≤ i ∧ i < W * H) (hd : 0 ≤ d ∧ d < 4) (ho : ∀ j, 0 ≤ j → j < W * H → σ oo j = ow j) {Q : Int → fb_St → Prop} (h : Q (ob_ W H ow i d) σ) : wp_X5_basinBeside oo i d σ Q := by
  have hw := tv_wh ht
  have hr := nb_rng d hw.1 hi.1 hi.2
  unfold wp_X5_basinBeside wj_X5_basinBeside_32 wj_X5_basinBeside_34
  rw [ht.2.2.2.2.2.2 i d hi.1 hi.2 hd.1 hd.2]
  refine ⟨by omega, by omega, by omega, by omega, fun v hv => ⟨fun e => ?_, fun e => ⟨by omega, by omega, fun p => ⟨by omega, by omega, ?_⟩, fun p => ?_⟩⟩⟩
  · have e1 : ob_ W H ow i d = -6 := by unfold ob_; rw [if_neg (by omega)]
    rw [e1] at h; exact h
  · subst hv
    rw [ho _ (by omega) (by omega)] at p ⊢
    have e1 : ob_ W H ow i d = ow (nb_ W H i d) := by unfold ob_; rw [if_pos ⟨e, p⟩]
    rw [e1] at h; exact h
  · subst hv
    rw [ho _ (by omega) (by omega)] at p
    have e1 : ob_ W H ow i d = -6 := by unfold ob_; rw [if_neg (fun q => p q.2)]
    rw [e1] at h; exact h
theorem ar_0 {i : Int} {n : Nat} (h : ar_n W H ow i n = 0) : ∀ k : Nat, ar_n W H ow i (n + k) = 0 := by
  intro k
  induction k with
  | zero => exact h
  | succ k ih =>
    show sb_1 (ar_n W H ow i (n + k)) _ = 0
    rw [ih]
    unfold sb_1
    split
    · rw [if_neg (by omega)]
    · rfl
theorem ar_or {i : Int} (n : Nat) : ar_n W H ow i n = -6 ∨ 0 ≤ ar_n W H ow i n := by
  induction n with
  | zero => exact Or.inl rfl
  | succ n ih =>
    show sb_1 _ _ = -6 ∨ 0 ≤ sb_1 _ _
    unfold sb_1
    split
    · split <;> omega
    · exact ih
theorem sp_onlyBasinAround {oo : Nat} {i : Int} (ht : tv_ W H σ) (hi : 0 ≤ i ∧ i < W * H) (ho : ∀ j, 0 ≤ j → j < W * H → σ oo j = ow j) {Q : Int → fb_St → Prop} (h : Q (ar_ W H ow i) σ) : wp_X5_onlyBasinAround oo i σ Q := by
  unfold wp_X5_onlyBasinAround
  refine fb_lp4 (fun x1 x3 d σ' => i = x1 ∧ σ = σ' ∧ 0 ≤ d ∧ d ≤ 4 ∧ x3 = ar_n W H ow i d.toNat ∧ x3 ≠ 0) (fun _ _ d _ => (4 - d).toNat) ?_ i (-6) 0 σ ⟨rfl, rfl, Int.le_refl 0, by omega, rfl, by omega⟩
  rintro x1 x3 d σ' ⟨rfl, rfl, d0, d1, e3, n3⟩ r6 hr6
  unfold wb_X5_onlyBasinAround_6 wj_X5_onlyBasinAround_49
  refine ⟨fun c1 => sp_basinBeside ht hi ⟨d0, c1⟩ ho ?_, fun c1 => ?_⟩
  · have es : ar_n W H ow i (d + 1).toNat = sb_1 x3 (ob_ W H ow i d) := by
      rw [show (d + 1).toNat = d.toNat + 1 by omega, e3]
      show sb_1 _ (ob_ W H ow i (d.toNat : Int)) = _
      rw [Int.toNat_of_nonneg d0]
    have hob := ob_or (W := W) (H := H) (ow := ow) i d
    refine ⟨fun z => ⟨by omega, hr6 _ _ _ _ ⟨rfl, rfl, by omega, by omega, ?_, n3⟩ (by omega)⟩, fun z => ⟨fun y => ⟨by omega, hr6 _ _ _ _ ⟨rfl, rfl, by omega, by omega, ?_, n3⟩ (by omega)⟩, fun y => ⟨fun u => ⟨by omega, hr6 _ _ _ _ ⟨rfl, rfl, by omega, by omega, ?_, by omega⟩ (by omega)⟩, fun u => ?_⟩⟩⟩
    · rw [es]; unfold sb_1; rw [if_neg (by omega)]
    · rw [es]; unfold sb_1; rw [if_pos (by omega), if_pos (Or.inr y.symm)]; exact y.symm
    · rw [es]; unfold sb_1; rw [if_pos (by omega), if_pos (Or.inl u)]
    · have e0 : ar_n W H ow i (d + 1).toNat = 0 := by rw [es]; unfold sb_1; rw [if_pos (by omega), if_neg (by omega)]
      have e4 := ar_0 e0 (4 - (d + 1).toNat)
      rw [show (d + 1).toNat + (4 - (d + 1).toNat) = 4 by omega] at e4
      have h' : Q (ar_n W H ow i 4) σ := h
      rw [e4] at h'; exact h'
  · rw [show d.toNat = 4 by omega] at e3
    rw [e3]; exact h
end FLC
/-! the line of the class: of each level a chain -/
def lr_ (W H : Int) (σ : fb_St) (lv : Int → Int) (q : List Int) : Prop :=
  q.Nodup ∧ (0 ≤ σ 13 3 ∧ σ 13 3 ≤ 99) ∧ (∀ x ∈ q, (0 ≤ x ∧ x < W * H) ∧ (σ 13 3 ≤ lv x ∧ lv x ≤ 99)) ∧
  ∀ v, 0 ≤ v → v < 100 → ch_ (σ 16) (q.filter (fun x => decide (lv x = v))) (σ 14 v) ∧ ∀ z, (q.filter (fun x => decide (lv x = v))).getLast? = some z → σ 15 v = z
theorem fl_lv {lv lv' : Int → Int} {q : List Int} {v : Int} (h : ∀ x ∈ q, lv' x = lv x) : q.filter (fun x => decide (lv' x = v)) = q.filter (fun x => decide (lv x = v)) :=
  List.filter_congr (fun x hx => by rw [h x hx])
theorem sp_add {W H : Int} {σ : fb_St} {lv lv' : Int → Int} {q : List Int} {k v : Int} (hw : W * H ≤ 144) (hl : lr_ W H σ lv q) (hk : 0 ≤ k ∧ k < W * H) (hkq : k ∉ q) (hv : σ 13 3 ≤ v ∧ v ≤ 99) (e1 : lv' k = v) (e2 : ∀ x ∈ q, lv' x = lv x) {Q : Int → fb_St → Prop}
    (h : ∀ σ', fr_ [14, 15, 16] σ σ' → lr_ W H σ' lv' (q ++ [k]) → Q 0 σ') : wp_X2_add k v σ Q := by
  obtain ⟨hn, hle, hx, hc⟩ := hl
  obtain ⟨c1, c2⟩ := hc v (by omega) (by omega)
  have hpos : ∀ u, ∀ x ∈ q.filter (fun x => decide (lv x = u)), 0 ≤ x := fun u x hx' => (hx x (List.mem_filter.mp hx').1).1.1
  have hkf : ∀ u, k ∉ q.filter (fun x => decide (lv x = u)) := fun u z => hkq (List.mem_filter.mp z).1
  have fv : ∀ u, (q ++ [k]).filter (fun x => decide (lv' x = u)) = if u = v then q.filter (fun x => decide (lv x = u)) ++ [k] else q.filter (fun x => decide (lv x = u)) := by
    intro u
    rw [List.filter_append, fl_lv e2]
    by_cases e : u = v
    · rw [if_pos e]; congr 1; simp [e1, e]
    · rw [if_neg e]
      have : ¬ lv' k = u := by omega
      simp [this]
  have nod : (q ++ [k]).Nodup := by
    rw [List.nodup_append]
    refine ⟨hn, by simp, fun a ha b hb => ?_⟩
    have : b = k := by simpa using hb
    rw [this]; exact fun e => hkq (e ▸ ha)
  have mem' : ∀ x ∈ q ++ [k], (0 ≤ x ∧ x < W * H) ∧ (σ 13 3 ≤ lv' x ∧ lv' x ≤ 99) := by
    intro x hx'
    rcases List.mem_append.mp hx' with z | z
    · rw [e2 x z]; exact hx x z
    · have : x = k := by simpa using z
      rw [this, e1]; exact ⟨hk, hv⟩
  unfold wp_X2_add wj_X2_add_39
  refine ⟨hk.1, by omega, fun σ1 hσ1 => ⟨by omega, by omega, fun z => ⟨by omega, by omega, fun σ2 hσ2 => ⟨by omega, by omega, fun σ3 hσ3 => ?_⟩⟩, fun z => ?_⟩⟩
  · -- the chain was empty
    have g14 : σ1 14 = σ 14 := by rw [hσ1, up_ne _ _ _ (by decide)]
    rw [g14] at z
    have hnil := (ch_nil (hpos v) c1).mp z
    have f16 : σ3 16 = fun j => if j = k then -1 else σ 16 j := by rw [hσ3, up_ne _ _ _ (by decide), hσ2, up_ne _ _ _ (by decide), hσ1, up_eq]
    have f14 : σ3 14 = fun j => if j = v then k else σ 14 j := by rw [hσ3, up_ne _ _ _ (by decide), hσ2, up_eq, g14]
    have f15 : σ3 15 = fun j => if j = v then k else σ 15 j := by rw [hσ3, up_eq, hσ2, up_ne _ _ _ (by decide), hσ1, up_ne _ _ _ (by decide)]
    have hf : fr_ [14, 15, 16] σ σ3 := by
      subst hσ3; subst hσ2; subst hσ1
      exact fr_tr (fr_up (k := 16) (by decide)) (fr_tr (fr_up (k := 14) (by decide)) (fr_up (k := 15) (by decide)))
    refine h σ3 hf ⟨nod, by rw [hf 13 (by decide)]; exact hle, by rw [hf 13 (by decide)]; exact mem', fun u u0 u1 => ?_⟩
    rw [fv u, f16, f14, f15]
    by_cases e : u = v
    · rw [if_pos e, e, hnil]
      dsimp only
      rw [if_pos rfl, if_pos rfl]
      refine ⟨⟨rfl, ?_⟩, fun z hz => by simpa using hz⟩
      show (if k = k then (-1 : Int) else σ 16 k) = -1
      rw [if_pos rfl]
    · rw [if_neg e]
      dsimp only
      rw [if_neg e, if_neg e]
      obtain ⟨a1, a2⟩ := hc u u0 u1
      exact ⟨ch_cong (fun x hx' => by rw [if_neg (fun (e' : x = k) => hkf u (e' ▸ hx'))]) a1, a2⟩
  · have g14 : σ1 14 = σ 14 := by rw [hσ1, up_ne _ _ _ (by decide)]
    have g15 : σ1 15 = σ 15 := by rw [hσ1, up_ne _ _ _ (by decide)]
    rw [g14] at z
    rw [g15]
    have hne : q.filter (fun x => decide (lv x = v)) ≠ [] := fun e => z ((ch_nil (hpos v) c1).mpr e)
    obtain ⟨y, hy⟩ : ∃ y, (q.filter (fun x => decide (lv x = v))).getLast? = some y := by
      cases hl : (q.filter (fun x => decide (lv x = v))).getLast? with
      | none => exact absurd (List.getLast?_eq_none_iff.mp hl) hne
      | some y => exact ⟨y, rfl⟩
    have hym := List.mem_of_getLast? hy
    have hyq := (List.mem_filter.mp hym).1
    have hyv : lv y = v := by simpa using (List.mem_filter.mp hym).2
    have hyr := (hx y hyq).1
    rw [c2 y hy]
    refine ⟨by omega, by omega, by omega, by omega, fun σ2 hσ2 => ⟨by omega, by omega, fun σ3 hσ3 => ?_⟩⟩
    have hyk : y ≠ k := fun e => hkq (e ▸ hyq)
    have f16 : σ3 16 = fun j => if j = y then k else if j = k then -1 else σ 16 j := by rw [hσ3, up_ne _ _ _ (by decide), hσ2, up_eq, hσ1, up_eq]
    have f14 : σ3 14 = σ 14 := by rw [hσ3, up_ne _ _ _ (by decide), hσ2, up_ne _ _ _ (by decide), g14]
    have f15 : σ3 15 = fun j => if j = v then k else σ 15 j := by rw [hσ3, up_eq, hσ2, up_ne _ _ _ (by decide), g15]
    have hf : fr_ [14, 15, 16] σ σ3 := by
      subst hσ3; subst hσ2; subst hσ1
      exact fr_tr (fr_up (k := 16) (by decide)) (fr_tr (fr_up (k := 16) (by decide)) (fr_up (k := 15) (by decide)))
    refine h σ3 hf ⟨nod, by rw [hf 13 (by decide)]; exact hle, by rw [hf 13 (by decide)]; exact mem', fun u u0 u1 => ?_⟩
    rw [fv u, f16, f14, f15]
    by_cases e : u = v
    · rw [if_pos e, e]
      dsimp only
      rw [if_pos rfl]
      exact ⟨ch_app (List.Pairwise.filter _ hn) (hkf v) hy c1, fun z hz => by simpa using hz⟩
    · rw [if_neg e]
      dsimp only
      rw [if_neg e]
      obtain ⟨a1, a2⟩ := hc u u0 u1
      refine ⟨ch_cong (fun x hx' => ?_) a1, a2⟩
      have hxu : lv x = u := by simpa using (List.mem_filter.mp hx').2
      rw [if_neg (fun (e' : x = y) => e (by rw [← hxu, e', hyv])), if_neg (fun (e' : x = k) => hkf u (e' ▸ hx'))]
theorem sp_take {W H : Int} {σ : fb_St} {lv : Int → Int} {q : List Int} (hw : W * H ≤ 144) (hl : lr_ W H σ lv q) {Q : Int → fb_St → Prop}
    (h0 : q = [] → ∀ σ', fr_ [13, 14] σ σ' → Q (-1) σ')
    (h1 : ∀ k σ', k = bst_ lv q → k ≠ -1 → k ∈ q → fr_ [13, 14] σ σ' → σ' 13 3 = lv k → lr_ W H σ' lv (q.filter (fun x => decide (x ≠ k))) → Q k σ') : wp_X2_take σ Q := by
  unfold wp_X2_take
  refine fb_lp1 (fun σ' => lr_ W H σ' lv q ∧ fr_ [13, 14] σ σ') (fun σ' => (99 - σ' 13 3).toNat) ?_ σ ⟨hl, fr_rf⟩
  rintro σ1 ⟨hl1, hf1⟩ r0 hr0
  obtain ⟨hn, hle, hx, hc⟩ := hl1
  have hpos : ∀ u, ∀ x ∈ q.filter (fun x => decide (lv x = u)), 0 ≤ x := fun u x hx' => (hx x (List.mem_filter.mp hx').1).1.1
  have last : (σ1 13 3 = 99 ∨ σ1 14 (σ1 13 3) ≠ -1) → wj_X2_take_35 Q σ1 := by
    intro hlast
    unfold wj_X2_take_35 wj_X2_take_65
    obtain ⟨c1, c2⟩ := hc (σ1 13 3) (by omega) (by omega)
    refine ⟨by omega, by omega, fun v hv => ⟨fun z => ?_, fun z => ?_⟩⟩
    · rw [z]
      rw [z] at hv
      have hnil := (ch_nil (hpos _) c1).mp hv.symm
      refine h0 ?_ σ1 hf1
      have h99 : σ1 13 3 = 99 := hlast.elim id (fun q => absurd hv.symm q)
      cases q with
      | nil => rfl
      | cons x q =>
        have hxx := hx x List.mem_cons_self
        have : lv x = σ1 13 3 := by omega
        rw [List.filter_cons_of_pos (by simpa using this)] at hnil
        cases hnil
    · cases hfl : q.filter (fun x => decide (lv x = σ1 13 3)) with
      | nil => rw [hfl] at c1; exact absurd (hv.trans c1) z
      | cons y l =>
        rw [hfl] at c1
        have hvy : v = y := hv.trans c1.1
        have hym : y ∈ q.filter (fun x => decide (lv x = σ1 13 3)) := by rw [hfl]; exact List.mem_cons_self
        have hyq := (List.mem_filter.mp hym).1
        have hyl : lv y = σ1 13 3 := by simpa using (List.mem_filter.mp hym).2
        have hyr := (hx y hyq).1
        refine ⟨by omega, by omega, by omega, by omega, fun σ2 hσ2 => ?_⟩
        have hf2 : fr_ [13, 14] σ σ2 := fr_tr hf1 (by rw [hσ2]; exact fr_up (by decide))
        have f13 : σ2 13 = σ1 13 := by rw [hσ2, up_ne _ _ _ (by decide)]
        have f14 : σ2 14 = fun j => if j = σ1 13 3 then σ1 16 v else σ1 14 j := by rw [hσ2, up_eq]
        have f15 : σ2 15 = σ1 15 := by rw [hσ2, up_ne _ _ _ (by decide)]
        have f16 : σ2 16 = σ1 16 := by rw [hσ2, up_ne _ _ _ (by decide)]
        rw [hvy] at f14 ⊢
        refine h1 y σ2 (bst_head (fun x hx' => ⟨(hx x hx').1.1, (hx x hx').2.1⟩) hfl).symm (by omega) hyq hf2 (by rw [f13, hyl]) ⟨List.Pairwise.filter _ hn, by rw [f13]; exact hle, fun x hx' => by rw [f13]; exact hx x (List.mem_filter.mp hx').1, fun u u0 u1 => ?_⟩
        have ff : (q.filter (fun x => decide (x ≠ y))).filter (fun x => decide (lv x = u)) = (q.filter (fun x => decide (lv x = u))).filter (fun x => decide (x ≠ y)) := by
          rw [List.filter_filter, List.filter_filter]
          exact List.filter_congr (fun x _ => Bool.and_comm _ _)
        rw [ff, f14, f15, f16]
        by_cases e : u = σ1 13 3
        · rw [e, hfl]
          have hnd : (y :: l).Nodup := by rw [← hfl]; exact List.Pairwise.filter _ hn
          have hyl' := (List.nodup_cons.mp hnd).1
          have e1 : (y :: l).filter (fun x => decide (x ≠ y)) = l := by
            rw [List.filter_cons_of_neg (by simp)]
            exact List.filter_eq_self.mpr (fun x hx' => by simpa using fun (e' : x = y) => hyl' (e' ▸ hx'))
          rw [e1]
          dsimp only
          rw [if_pos rfl]
          refine ⟨c1.2, fun z hz => c2 z ?_⟩
          rw [hfl]
          cases l with
          | nil => cases hz
          | cons w l => rw [List.getLast?_cons_cons]; exact hz
        · have e1 : (q.filter (fun x => decide (lv x = u))).filter (fun x => decide (x ≠ y)) = q.filter (fun x => decide (lv x = u)) := List.filter_eq_self.mpr (fun x hx' => by
            have hxu : lv x = u := by simpa using (List.mem_filter.mp hx').2
            simpa using fun (e' : x = y) => e (by rw [← hxu, e', hyl]))
          rw [e1]
          dsimp only
          rw [if_neg e]
          exact hc u u0 u1
  unfold wb_X2_take_0
  refine ⟨fun c1 => ⟨by omega, by omega, fun z => ⟨by omega, fun σ2 hσ2 => ?_⟩, fun z => last (Or.inr z)⟩, fun c1 => last (Or.inl (by omega))⟩
  have f13 : σ2 13 3 = σ1 13 3 + 1 := by rw [hσ2, up_eq]; simp
  have hnil := (ch_nil (hpos _) (hc (σ1 13 3) (by omega) (by omega)).1).mp z
  refine hr0 σ2 ⟨⟨hn, by omega, fun x hx' => ⟨(hx x hx').1, ?_, (hx x hx').2.2⟩, fun u u0 u1 => ?_⟩, fr_tr hf1 (by rw [hσ2]; exact fr_up (by decide))⟩ (by omega)
  · have h1 := (hx x hx').2.1
    by_cases e : lv x = σ1 13 3
    · have : x ∈ q.filter (fun x => decide (lv x = σ1 13 3)) := List.mem_filter.mpr ⟨hx', by simpa using e⟩
      rw [hnil] at this; cases this
    · omega
  · rw [show σ2 14 = σ1 14 by rw [hσ2, up_ne _ _ _ (by decide)], show σ2 15 = σ1 15 by rw [hσ2, up_ne _ _ _ (by decide)], show σ2 16 = σ1 16 by rw [hσ2, up_ne _ _ _ (by decide)]]
    exact hc u u0 u1
