/-! ===== class and model, side by side ===== -/
def im_ (g : Nat) (k : Int) (σ : fb_St) : Prop := (σ g 0 = 0 ∨ σ g 0 = 1) ∧ σ 51 k = σ g 0 ∧ (σ g 0 = 1 →
  (1 ≤ σ g 3 ∧ σ g 3 ≤ 12) ∧ (1 ≤ σ g 4 ∧ σ g 4 ≤ 12) ∧ (σ g 1 = 0 ∨ σ g 1 = 1 ∨ σ g 1 = 2) ∧ (0 ≤ σ g 2 ∧ σ g 2 ≤ 2000) ∧
  σ 50 (292 * k + 288) = σ g 3 ∧ σ 50 (292 * k + 289) = σ g 4 ∧ σ 50 (292 * k + 290) = σ g 1 ∧ σ 50 (292 * k + 291) = σ g 2 ∧
  ∀ i, 0 ≤ i → i < 144 → (σ 50 (292 * k + i) = σ (g + 1) i ∧ 0 ≤ σ (g + 1) i ∧ σ (g + 1) i ≤ 99) ∧ (σ 50 (292 * k + (144 + i)) = σ (g + 2) i ∧ 0 ≤ σ (g + 2) i ∧ σ (g + 2) i ≤ 99))
def ba_ (W H : Int) (σ : fb_St) : Prop := tv_ W H σ ∧ mv_ W H σ ∧ (∀ i, 0 ≤ i → i < 144 → σ 49 i = σ 2 i ∧ σ 49 (144 + i) = σ 3 i) ∧
  (σ 49 290 = σ 0 6 ∧ σ 49 291 = σ 0 7 ∧ (σ 0 6 = 0 ∨ σ 0 6 = 1 ∨ σ 0 6 = 2) ∧ 0 ≤ σ 0 7 ∧ σ 0 7 ≤ 2000) ∧ im_ 42 0 σ ∧ im_ 45 1 σ
abbrev fl_ (W H : Int) (σ : fb_St) : FS_ := fs_ W H (σ 2) (σ 3)
noncomputable abbrev rp_ (W H : Int) (σ : fb_St) : (Int → Int) × EV_ := pr_ W H (σ 2) (σ 0 6) (σ 0 7) 99 (fl_ W H σ).1 []
noncomputable abbrev rt_ (W H : Int) (σ : fb_St) : (Int → Int) × EV_ := pr_ W H (σ 2) 0 145 99 (fl_ W H σ).1 []
def fk_ (W H : Int) (σ : fb_St) : Prop := ∀ j, 0 ≤ j → j < W * H → σ 9 j = (fl_ W H σ).1 j ∧ σ 10 j = (fl_ W H σ).2.1 j ∧ σ 11 j = (fl_ W H σ).2.2.1 j
def ca_ (W H : Int) (σ : fb_St) : Prop := (σ 0 8 ≠ 0 → fk_ W H σ) ∧ (σ 0 9 ≠ 0 → po_ W H (σ 2) 17 σ (rp_ W H σ)) ∧ (σ 0 10 ≠ 0 → po_ W H (σ 2) 29 σ (rt_ W H σ))
def iv_ (σ : fb_St) : Prop := ∃ W H, ba_ W H σ ∧ ca_ W H σ
theorem im_eq {g : Nat} {k : Int} {σ σ' : fb_St} (h : im_ g k σ) (e0 : σ' g = σ g) (e1 : σ' (g + 1) = σ (g + 1)) (e2 : σ' (g + 2) = σ (g + 2)) (e50 : σ' 50 = σ 50) (e51 : σ' 51 = σ 51) : im_ g k σ' := by
  unfold im_ at h ⊢
  rw [e0, e1, e2, e50, e51]
  exact h
theorem ba_eq {W H : Int} {σ σ' : fb_St} (h : ba_ W H σ) (e : ∀ k, k ∈ [1, 2, 3, 4, 42, 43, 44, 45, 46, 47, 49, 50, 51] → σ' k = σ k) (e6 : σ' 0 6 = σ 0 6) (e7 : σ' 0 7 = σ 0 7) : ba_ W H σ' := by
  obtain ⟨a, b, c, d, f, g⟩ := h
  refine ⟨tv_eq a (e 1 (by decide)) (e 2 (by decide)) (e 4 (by decide)), mv_eq b (e 49 (by decide)), ?_, ?_, im_eq f (e 42 (by decide)) (e 43 (by decide)) (e 44 (by decide)) (e 50 (by decide)) (e 51 (by decide)), im_eq g (e 45 (by decide)) (e 46 (by decide)) (e 47 (by decide)) (e 50 (by decide)) (e 51 (by decide))⟩
  · rw [e 49 (by decide), e 2 (by decide), e 3 (by decide)]; exact c
  · rw [e 49 (by decide), e6, e7]; exact d
theorem ms_eq {W H : Int} {h ow : Int → Int} {p : Nat} {σ σ' : fb_St} (hm : ms_ W H h ow p σ) (e : ∀ j, j ≤ 11 → σ' (p + j) = σ (p + j)) : ms_ W H h ow p σ' := by
  unfold ms_ at hm ⊢
  rw [e 2 (by decide), e 3 (by decide), e 4 (by decide), e 5 (by decide), e 6 (by decide)]
  exact hm
theorem po_eq {W H : Int} {h : Int → Int} {p : Nat} {σ σ' : fb_St} {R : (Int → Int) × EV_} (hp : po_ W H h p σ R) (e : ∀ j, j ≤ 11 → σ' (p + j) = σ (p + j)) (e1 : σ' 1 = σ 1) (e2 : σ' 2 = σ 2) (e4 : σ' 4 = σ 4) : po_ W H h p σ' R := by
  obtain ⟨a, b, c, d, f⟩ := hp
  have e0 : σ' p = σ p := e 0 (by decide)
  refine ⟨⟨tv_eq a.1 e1 e2 e4, a.2.1, by rw [e2]; exact a.2.2.1, by rw [e 1 (by decide)]; exact a.2.2.2⟩, ms_eq b e, by rw [e0]; exact c, by rw [e0]; exact d, ?_⟩
  rw [e0, e 7 (by decide), e 8 (by decide), e 9 (by decide), e 10 (by decide)]; exact f
/-- caches stay, if what they hang on stays -/
theorem ca_eq {W H : Int} {σ σ' : fb_St} (h : ca_ W H σ) (e0 : σ' 0 = σ 0) (e : ∀ k, 1 ≤ k → k ≤ 4 ∨ 9 ≤ k ∧ k ≤ 11 ∨ 17 ≤ k ∧ k ≤ 40 → σ' k = σ k) : ca_ W H σ' := by
  have e1 := e 1 (by decide) (by decide)
  have e2 := e 2 (by decide) (by decide)
  have e3 := e 3 (by decide) (by decide)
  have e4 := e 4 (by decide) (by decide)
  obtain ⟨a, b, c⟩ := h
  refine ⟨?_, ?_, ?_⟩
  · unfold fk_ fl_ at a ⊢
    rw [e0, e2, e3, e 9 (by decide) (by decide), e 10 (by decide) (by decide), e 11 (by decide) (by decide)]; exact a
  · unfold rp_ fl_ at b ⊢
    rw [e0, e2, e3]
    exact fun q => po_eq (b q) (fun j hj => e (17 + j) (by omega) (by omega)) e1 e2 e4
  · unfold rt_ fl_ at c ⊢
    rw [e0, e2, e3]
    exact fun q => po_eq (c q) (fun j hj => e (29 + j) (by omega) (by omega)) e1 e2 e4
section STA
variable {W H : Int} {σ : fb_St}
theorem sp_sFlood (hb : ba_ W H σ) (hc : ca_ W H σ) {Q : Int → fb_St → Prop} (hq : ∀ σ', ba_ W H σ' → ca_ W H σ' → fk_ W H σ' → (∀ i, i ≠ 8 → σ' 0 i = σ 0 i) → (∀ k, k ∉ [0, 9, 10, 11, 13, 14, 15, 16] → σ' k = σ k) → Q 0 σ') : wp_X6_standingFlood σ Q := by
  unfold wp_X6_standingFlood wj_X6_standingFlood_23
  refine ⟨fun z => ?_, fun z => hq σ hb hc (hc.1 z) (fun _ _ => rfl) (fun _ _ => rfl)⟩
  refine sp_rise (h := σ 2) (m := σ 3) hb.1 (fun _ _ _ => rfl) (fun _ _ _ => rfl) (fun σ1 hf1 hj1 σ2 h2 => ?_)
  have e0 : ∀ i, i ≠ 8 → σ2 0 i = σ 0 i := fun i hi => by rw [h2, up_eq]; dsimp only; rw [if_neg hi, hf1 0 (by decide)]
  have er : ∀ k, k ≠ 0 → σ2 k = σ1 k := fun k hk => by rw [h2, up_ne _ _ _ hk]
  have ek : ∀ k, k ∉ [0, 9, 10, 11, 13, 14, 15, 16] → σ2 k = σ k := fun k hk => by
    rw [er k (fun e => hk (by rw [e]; decide))]
    exact hf1 k (fun q => hk (by simp only [List.mem_cons, List.not_mem_nil, or_false] at q ⊢; omega))
  have b2 : ba_ W H σ2 := ba_eq hb (fun k hk => ek k (by revert hk; revert k; decide)) (e0 6 (by decide)) (e0 7 (by decide))
  have f2 : fk_ W H σ2 := by
    unfold fk_ fl_
    rw [er 9 (by decide), er 10 (by decide), er 11 (by decide), ek 2 (by decide), ek 3 (by decide)]
    exact hj1
  refine hq σ2 b2 ⟨fun _ => f2, ?_, ?_⟩ f2 e0 ek
  · unfold rp_ fl_
    rw [e0 9 (by decide), e0 6 (by decide), e0 7 (by decide), ek 2 (by decide), ek 3 (by decide)]
    exact fun q => po_eq (hc.2.1 q) (fun j hj => ek _ (by simp only [List.mem_cons, List.not_mem_nil, or_false]; omega)) (ek 1 (by decide)) (ek 2 (by decide)) (ek 4 (by decide))
  · unfold rt_ fl_
    rw [e0 10 (by decide), ek 2 (by decide), ek 3 (by decide)]
    exact fun q => po_eq (hc.2.2 q) (fun j hj => ek _ (by simp only [List.mem_cons, List.not_mem_nil, or_false]; omega)) (ek 1 (by decide)) (ek 2 (by decide)) (ek 4 (by decide))
theorem ba_m (hb : ba_ W H σ) : ∀ j, 0 ≤ j → j < W * H → σ 3 j ≤ 99 := fun j j0 j1 => by
  have hw := tv_wh hb.1
  have := hb.2.1.2.2.2.2.2 j j0 (by omega)
  have := (hb.2.2.1 j j0 (by omega)).2
  omega
theorem fk_vo (hb : ba_ W H σ) : vo_ W H (fl_ W H σ).1 := fs_vo (tv_wh hb.1).1 (ba_m hb)
theorem sp_sPour (hb : ba_ W H σ) (hc : ca_ W H σ) {Q : Int → fb_St → Prop} (hq : ∀ σ', ba_ W H σ' → ca_ W H σ' → po_ W H (σ' 2) 17 σ' (rp_ W H σ') → (∀ i, i ≠ 8 → i ≠ 9 → σ' 0 i = σ 0 i) → (∀ k, k ≠ 0 → k < 9 ∨ 28 < k → σ' k = σ k) → Q 0 σ') : wp_X6_standingPour σ Q := by
  unfold wp_X6_standingPour wj_X6_standingPour_38
  refine ⟨fun z => sp_sFlood hb hc (fun σ1 b1 c1 f1 e01 ek1 => ?_), fun z => hq σ hb hc (hc.2.1 z) (fun _ _ _ => rfl) (fun _ _ _ => rfl)⟩
  refine sp_run (pp := 17) (h := σ1 2) (ow0 := (fl_ W H σ1).1) b1.1 (Or.inl rfl) (fun _ _ _ => rfl) (fun j j0 j1 => ⟨(f1 j j0 j1).1, fk_vo b1 j j0 j1⟩) (fun σ2 hf2 hp2 σ3 h3 => ?_)
  have e0 : ∀ i, i ≠ 9 → σ3 0 i = σ1 0 i := fun i hi => by rw [h3, up_eq]; dsimp only; rw [if_neg hi, fp_lt hf2 (by decide)]
  have er : ∀ k, k ≠ 0 → σ3 k = σ2 k := fun k hk => by rw [h3, up_ne _ _ _ hk]
  have ek : ∀ k, k ≠ 0 → k < 17 ∨ 28 < k → σ3 k = σ1 k := fun k hk hk2 => by
    rw [er k hk]
    exact hf2 k (fun j hj => by simp only [List.mem_cons, List.not_mem_nil, or_false] at hj; omega)
  have b3 : ba_ W H σ3 := ba_eq b1 (fun k hk => by
    simp only [List.mem_cons, List.not_mem_nil, or_false] at hk
    exact ek k (by omega) (by omega)) (e0 6 (by decide)) (e0 7 (by decide))
  have e2 := ek 2 (by decide) (by decide)
  have e3' := ek 3 (by decide) (by decide)
  have p3 : po_ W H (σ3 2) 17 σ3 (rp_ W H σ3) := by
    unfold rp_ fl_
    rw [e2, e3', e0 6 (by decide), e0 7 (by decide)]
    exact po_eq hp2 (fun j hj => er _ (by omega)) (er 1 (by decide)) (er 2 (by decide)) (er 4 (by decide))
  refine hq σ3 b3 ⟨?_, fun _ => p3, ?_⟩ p3 (fun i h8 h9 => by rw [e0 i h9, e01 i h8]) (fun k hk hk2 => ?_)
  · unfold fk_ fl_
    rw [e2, e3', ek 9 (by decide) (by decide), ek 10 (by decide) (by decide), ek 11 (by decide) (by decide)]
    exact fun _ => f1
  · unfold rt_ fl_
    rw [e2, e3', e0 10 (by decide)]
    exact fun q => po_eq (c1.2.2 q) (fun j hj => ek _ (by omega) (by omega)) (ek 1 (by decide) (by decide)) e2 (ek 4 (by decide) (by decide))
  · rw [ek k hk (by omega)]
    exact ek1 k (by simp only [List.mem_cons, List.not_mem_nil, or_false]; omega)
theorem sp_sTree (hb : ba_ W H σ) (hc : ca_ W H σ) {Q : Int → fb_St → Prop} (hq : ∀ σ', ba_ W H σ' → ca_ W H σ' → po_ W H (σ' 2) 29 σ' (rt_ W H σ') → (∀ i, i ≠ 8 → i ≠ 10 → σ' 0 i = σ 0 i) → (∀ k, k ≠ 0 → k < 9 ∨ 40 < k → σ' k = σ k) → Q 0 σ') : wp_X6_standingTree σ Q := by
  unfold wp_X6_standingTree wj_X6_standingTree_34
  refine ⟨fun z => sp_sFlood hb hc (fun σ1 b1 c1 f1 e01 ek1 => ?_), fun z => hq σ hb hc (hc.2.2 z) (fun _ _ _ => rfl) (fun _ _ _ => rfl)⟩
  refine sp_run (pp := 29) (h := σ1 2) (ow0 := (fl_ W H σ1).1) b1.1 (Or.inr rfl) (fun _ _ _ => rfl) (fun j j0 j1 => ⟨(f1 j j0 j1).1, fk_vo b1 j j0 j1⟩) (fun σ2 hf2 hp2 σ3 h3 => ?_)
  have e0 : ∀ i, i ≠ 10 → σ3 0 i = σ1 0 i := fun i hi => by rw [h3, up_eq]; dsimp only; rw [if_neg hi, fp_lt hf2 (by decide)]
  have er : ∀ k, k ≠ 0 → σ3 k = σ2 k := fun k hk => by rw [h3, up_ne _ _ _ hk]
  have ek : ∀ k, k ≠ 0 → k < 29 ∨ 40 < k → σ3 k = σ1 k := fun k hk hk2 => by
    rw [er k hk]
    exact hf2 k (fun j hj => by simp only [List.mem_cons, List.not_mem_nil, or_false] at hj; omega)
  have b3 : ba_ W H σ3 := ba_eq b1 (fun k hk => by
    simp only [List.mem_cons, List.not_mem_nil, or_false] at hk
    exact ek k (by omega) (by omega)) (e0 6 (by decide)) (e0 7 (by decide))
  have e2 := ek 2 (by decide) (by decide)
  have e3' := ek 3 (by decide) (by decide)
  have p3 : po_ W H (σ3 2) 29 σ3 (rt_ W H σ3) := by
    unfold rt_ fl_
    rw [e2, e3']
    exact po_eq hp2 (fun j hj => er _ (by omega)) (er 1 (by decide)) (er 2 (by decide)) (er 4 (by decide))
  refine hq σ3 b3 ⟨?_, ?_, fun _ => p3⟩ p3 (fun i h8 h9 => by rw [e0 i h9, e01 i h8]) (fun k hk hk2 => ?_)
  · unfold fk_ fl_
    rw [e2, e3', ek 9 (by decide) (by decide), ek 10 (by decide) (by decide), ek 11 (by decide) (by decide)]
    exact fun _ => f1
  · unfold rp_ fl_
    rw [e2, e3', e0 9 (by decide), e0 6 (by decide), e0 7 (by decide)]
    exact fun q => po_eq (c1.2.1 q) (fun j hj => ek _ (by omega) (by omega)) (ek 1 (by decide) (by decide)) e2 (ek 4 (by decide) (by decide))
  · rw [ek k hk (by omega)]
    exact ek1 k (by simp only [List.mem_cons, List.not_mem_nil, or_false]; omega)
/-- behind the model's part: only its own rows have changed -/
theorem iv_model {σ' : fb_St} (hb : ba_ W H σ) (hc : ca_ W H σ) (hf : ∀ k, k < 48 ∨ k = 49 ∨ k = 50 ∨ k = 51 → σ' k = σ k) : iv_ σ' :=
  ⟨W, H, ba_eq hb (fun k hk => by simp only [List.mem_cons, List.not_mem_nil, or_false] at hk; exact hf k (by omega)) (by rw [hf 0 (by omega)]) (by rw [hf 0 (by omega)]), ca_eq hc (hf 0 (by omega)) (fun k _ h2 => hf k (by omega))⟩
theorem sm_told {Q : Int → fb_St → Prop} (hb : ba_ W H σ) (hq : ∀ σ', (∀ k, k < 48 ∨ k = 49 ∨ k = 50 ∨ k = 51 → σ' k = σ k) → mo_ W H (σ 2) (σ 3) σ' (rp_ W H σ) → Q 0 σ') : wp_X7_pourAsTold σ Q := by
  have hw := tv_wh hb.1
  unfold wp_X7_pourAsTold
  refine sm_pour (h := σ 2) (m := σ 3) (bound := σ 0 7) hb.2.1 (fun j j0 j1 => (hb.2.2.1 j j0 (by omega)).1) (fun j j0 j1 => (hb.2.2.1 j j0 (by omega)).2) (by rw [hb.2.2.2.1.1]; exact hb.2.2.2.1.2.2.1) (Or.inl ⟨by rw [hb.2.2.2.1.2.1]; exact hb.2.2.2.1.2.2.2.1, hb.2.2.2.1.2.1.symm⟩) (fun σ' hf' hm' => hq σ' (fun k hk => hf' k (by simp only [List.mem_cons, List.not_mem_nil, or_false]; omega)) ?_)
  rw [hb.2.2.2.1.1] at hm'
  exact hm'
theorem sm_tree {Q : Int → fb_St → Prop} (hb : ba_ W H σ) (hq : ∀ σ', (∀ k, k < 48 ∨ k = 49 ∨ k = 50 ∨ k = 51 → σ' k = σ k) → mo_ W H (σ 2) (σ 3) σ' (rt_ W H σ) → Q 0 σ') : wp_X7_pour 0 (-6) σ Q := by
  have hw := tv_wh hb.1
  exact sm_pour (h := σ 2) (m := σ 3) (bound := 145) hb.2.1 (fun j j0 j1 => (hb.2.2.1 j j0 (by omega)).1) (fun j j0 j1 => (hb.2.2.1 j j0 (by omega)).2) (Or.inl rfl) (Or.inr ⟨by omega, rfl, rfl⟩) (fun σ' hf' hm' => hq σ' (fun k hk => hf' k (by simp only [List.mem_cons, List.not_mem_nil, or_false]; omega)) hm')
end STA
