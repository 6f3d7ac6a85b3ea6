/-! ===== pits ===== -/
noncomputable def in_ (p : Prop) : Int := @ite Int p (Classical.propDecidable p) 1 0
theorem in_pos {p : Prop} (h : p) : in_ p = 1 := by unfold in_; exact if_pos h
theorem in_neg {p : Prop} (h : ¬ p) : in_ p = 0 := by unfold in_; exact if_neg h
def pl_ (W H : Int) (h : Int → Int) (i j : Int) : Prop := rc_ W H (fun b => h b = h i) i j
def pi_ (W H : Int) (h : Int → Int) (i : Int) : Prop := ∀ a b, pl_ W H h i a → ad_ W H a b → ¬ h b < h i
def fi_ (W H : Int) (h : Int → Int) (i : Int) : Prop := ∀ k, 0 ≤ k → k < i → ¬ pl_ W H h k i
noncomputable def pc_ (W H : Int) (h : Int → Int) (n : Nat) : Int := su_ (fun j => in_ (pi_ W H h j ∧ fi_ W H h j)) n
theorem pl_rf {W H i : Int} {h : Int → Int} : pl_ W H h i i := rc_self rfl
theorem pl_h {W H i j : Int} {h : Int → Int} (q : pl_ W H h i j) : h j = h i := (rc_P q).1
theorem pl_sym {W H i j : Int} (hW : 0 < W) {h : Int → Int} (q : pl_ W H h i j) : pl_ W H h j i := by
  have := rc_sym hW q
  unfold pl_
  rw [pl_h q]
  exact this
theorem pl_tr {W H i j k : Int} {h : Int → Int} (q : pl_ W H h i j) (q2 : pl_ W H h j k) : pl_ W H h i k := by
  have e := pl_h q
  unfold pl_ at q2
  rw [e] at q2
  exact rc_trans q q2
theorem pl_in {W H i j : Int} (hW : 0 < W) {h : Int → Int} (h0 : 0 ≤ i) (h1 : i < W * H) (q : pl_ W H h i j) : 0 ≤ j ∧ j < W * H := rc_in hW h0 h1 q
theorem pi_tr {W H i j : Int} {h : Int → Int} (q : pl_ W H h i j) (p : pi_ W H h i) : pi_ W H h j := fun a b ha hab => by
  rw [pl_h q]
  exact p a b (pl_tr q ha) hab
/-- the first dot of a dot's plateau -/
theorem fi_ex {W H i k : Int} {h : Int → Int} (k0 : 0 ≤ k) (q : pl_ W H h k i) : ∃ k', 0 ≤ k' ∧ k' ≤ k ∧ fi_ W H h k' ∧ pl_ W H h k' i := by
  obtain ⟨n, ⟨hn, hn2⟩, hm⟩ := pk_least (fun n : Nat => (n : Int) ≤ k ∧ pl_ W H h n i) ⟨k.toNat, by omega, by rw [Int.toNat_of_nonneg k0]; exact q⟩
  refine ⟨n, by omega, hn, fun j j0 j1 hj => ?_, hn2⟩
  have := hm j.toNat (by omega)
  rw [Int.toNat_of_nonneg j0] at this
  exact this ⟨by omega, pl_tr hj hn2⟩
theorem pc_snoc {W H i : Int} {h : Int → Int} (i0 : 0 ≤ i) : pc_ W H h (i + 1).toNat = pc_ W H h i.toNat + in_ (pi_ W H h i ∧ fi_ W H h i) := su_snoc i0
theorem pc_bd {W H : Int} {h : Int → Int} (n : Nat) : 0 ≤ pc_ W H h n ∧ pc_ W H h n ≤ n := su_bd n (fun j _ _ => by
  by_cases q : pi_ W H h j ∧ fi_ W H h j
  · rw [in_pos q]; omega
  · rw [in_neg q]; omega)
theorem rc_cong {W H : Int} (hW : 0 < W) {P P' : Int → Prop} {s : Int} (s0 : 0 ≤ s) (s1 : s < W * H) (hP : ∀ j, 0 ≤ j → j < W * H → (P j ↔ P' j)) (j : Int) : rc_ W H P s j ↔ rc_ W H P' s j := by
  constructor
  · intro h
    exact (h (fun j => rc_ W H P' s j ∧ 0 ≤ j ∧ j < W * H) (fun q => ⟨rc_self ((hP s s0 s1).mp q), s0, s1⟩) (fun a b ha hab hb => have ib := ad_lt hW hab; ⟨rc_step ha.1 hab ((hP b ib.1 ib.2).mp hb), ib⟩)).1
  · intro h
    exact (h (fun j => rc_ W H P s j ∧ 0 ≤ j ∧ j < W * H) (fun q => ⟨rc_self ((hP s s0 s1).mpr q), s0, s1⟩) (fun a b ha hab hb => have ib := ad_lt hW hab; ⟨rc_step ha.1 hab ((hP b ib.1 ib.2).mpr hb), ib⟩)).1
/-- whose mark a dot has, when dots up to i are gone through -/
def mr_ (W H : Int) (h : Int → Int) (i j v : Int) : Prop := (∃ k, 0 ≤ k ∧ k < i ∧ pi_ W H h k ∧ fi_ W H h k ∧ pl_ W H h k j ∧ v = pc_ W H h k.toNat + 1) ∨ (v = 0 ∧ ∀ k, 0 ≤ k → k < i → pi_ W H h k → fi_ W H h k → ¬ pl_ W H h k j)
theorem mr_uniq {W H i j v v' : Int} (hW : 0 < W) {h : Int → Int} (a : mr_ W H h i j v) (b : mr_ W H h i j v') : v = v' := by
  rcases a with ⟨k, k0, k1, k2, k3, k4, k5⟩ | ⟨a1, a2⟩
  · rcases b with ⟨q, q0, q1, q2, q3, q4, q5⟩ | ⟨b1, b2⟩
    · have hkq := pl_tr k4 (pl_sym hW q4)
      have : ¬ k < q := fun z => q3 k k0 z hkq
      have : ¬ q < k := fun z => k3 q q0 z (pl_sym hW hkq)
      rw [k5, q5, show k = q by omega]
    · exact absurd k4 (b2 k k0 k1 k2 k3)
  · rcases b with ⟨q, q0, q1, q2, q3, q4, q5⟩ | ⟨b1, b2⟩
    · exact absurd q4 (a2 q q0 q1 q2 q3)
    · rw [a1, b1]
theorem mr_old {W H i j v : Int} {h : Int → Int} (hn : ¬ (pi_ W H h i ∧ fi_ W H h i ∧ pl_ W H h i j)) (a : mr_ W H h i j v) : mr_ W H h (i + 1) j v := by
  rcases a with ⟨k, k0, k1, k2⟩ | ⟨a1, a2⟩
  · exact Or.inl ⟨k, k0, by omega, k2⟩
  · refine Or.inr ⟨a1, fun k k0 k1 k2 k3 k4 => ?_⟩
    by_cases e : k = i
    · subst e; exact hn ⟨k2, k3, k4⟩
    · exact a2 k k0 (by omega) k2 k3 k4
section PIT
variable {W H : Int} {σ : fb_St} {h : Int → Int}
theorem sp_cameTo {k : Int} {Q : Int → fb_St → Prop} (k0 : 0 ≤ k) (k1 : k < 144) (h1 : σ 7 k ≠ 0 → Q 1 σ) (h0 : σ 7 k = 0 → Q 0 σ) : wp_X4_cameTo k σ Q := by
  unfold wp_X4_cameTo
  first | (unfold wj_X4_cameTo_14) | skip
  grind
theorem sp_markAll {m : Int} (hN : 0 ≤ σ 5 0 ∧ σ 5 0 ≤ 144) (hre : ∀ k, 0 ≤ k → k < σ 5 0 → 0 ≤ σ 6 k ∧ σ 6 k < 144) {Q : Int → fb_St → Prop}
    (hq : ∀ σ', fr_ [3] σ σ' → (∀ j, (∃ k, 0 ≤ k ∧ k < σ 5 0 ∧ σ 6 k = j) → σ' 3 j = m) → (∀ j, (¬ ∃ k, 0 ≤ k ∧ k < σ 5 0 ∧ σ 6 k = j) → σ' 3 j = σ 3 j) → Q 0 σ') : wp_X4_markAll m σ Q := by
  unfold wp_X4_markAll
  refine fb_lp3 (fun x2 i σ' => m = x2 ∧ 0 ≤ i ∧ i ≤ σ 5 0 ∧ fr_ [3] σ σ' ∧ (∀ j, (∃ k, 0 ≤ k ∧ k < i ∧ σ 6 k = j) → σ' 3 j = m) ∧ (∀ j, (¬ ∃ k, 0 ≤ k ∧ k < i ∧ σ 6 k = j) → σ' 3 j = σ 3 j)) (fun _ i _ => (200 - i).toNat) ?_ m 0 σ ⟨rfl, Int.le_refl 0, hN.1, fr_rf, fun j ⟨k, k0, k1, _⟩ => by omega, fun j _ => rfl⟩
  rintro x2 i σ' ⟨rfl, i0, i1, hf, ha, hb⟩ r2 hr2
  unfold wb_X4_markAll_2
  rw [hf 5 (by decide), hf 6 (by decide)]
  refine ⟨fun c1 => ⟨i0, by omega, (hre i i0 c1).1, (hre i i0 c1).2, fun σ8 hσ8 => ⟨by omega, ?_⟩⟩, fun c1 => ?_⟩
  · subst hσ8
    refine hr2 _ _ _ ⟨rfl, by omega, by omega, fr_tr hf (fr_up (by decide)), fun j ⟨k, k0, k1, k2⟩ => ?_, fun j hj => ?_⟩ (by omega)
    · rw [up_eq]
      dsimp only
      split
      · rfl
      · rename_i hne
        refine ha j ⟨k, k0, ?_, k2⟩
        by_cases e : k = i
        · rw [e] at k2; exact absurd k2.symm hne
        · omega
    · rw [up_eq]
      dsimp only
      split
      · rename_i he; exact absurd ⟨i, i0, by omega, he.symm⟩ hj
      · exact hb j (fun ⟨k, k0, k1, k2⟩ => hj ⟨k, k0, by omega, k2⟩)
  · rw [show i = σ 5 0 by omega] at ha hb
    exact hq σ' hf ha hb
/-- the class's pits: how many, and their marks -/
theorem sp_findPits {x1 : Int} (ht : tv_ W H σ) (hh : ∀ j, 0 ≤ j → j < W * H → σ 2 j = h j) (hz : x1 ≠ 0 → ∀ j, 0 ≤ j → j < 144 → σ 3 j = 0) {Q : Int → fb_St → Prop}
    (hq : ∀ σ', fr_ [3, 5, 6, 7] σ σ' → (x1 = 0 → σ' 3 = σ 3) → (x1 ≠ 0 → (∀ j, 0 ≤ j → j < W * H → mr_ W H h (W * H) j (σ' 3 j)) ∧ ∀ j, W * H ≤ j → j < 144 → σ' 3 j = 0) → Q (pc_ W H h (W * H).toNat) σ') : wp_X6_findPits x1 σ Q := by
  have hw := tv_wh ht
  have hhb : ∀ j, 0 ≤ j → j < W * H → h j ≤ 99 := fun j j0 j1 => by have := ht.2.2.2.2.2.1 j j0 (by omega); have := hh j j0 j1; omega
  unfold wp_X6_findPits wp_X4_forget
  intro σ0 hσ0
  refine fb_lp4 (fun y1 f i σ' => x1 = y1 ∧ 0 ≤ i ∧ i ≤ W * H ∧ f = pc_ W H h i.toNat ∧ fr_ [3, 5, 6, 7] σ σ' ∧ (x1 = 0 → σ' 3 = σ 3) ∧ (x1 ≠ 0 → (∀ j, 0 ≤ j → j < W * H → mr_ W H h i j (σ' 3 j)) ∧ ∀ j, W * H ≤ j → j < 144 → σ' 3 j = 0) ∧ ∀ j, 0 ≤ j → j < W * H → (σ' 7 j ≠ 0 ↔ ∃ k, 0 ≤ k ∧ k < i ∧ pl_ W H h k j)) (fun _ _ i _ => (200 - i).toNat) ?_ x1 0 0 σ0 ?_
  rotate_left
  · subst hσ0
    refine ⟨rfl, Int.le_refl 0, by omega, rfl, fr_fill (by decide), fun _ => by unfold fb_fill fb_row; rfl, fun hx => ⟨fun j j0 j1 => Or.inr ⟨?_, fun k k0 k1 => by omega⟩, fun j j0 j1 => ?_⟩, fun j j0 j1 => ?_⟩
    · exact hz hx j j0 (by omega)
    · exact hz hx j (by omega) j1
    · rw [fb_fill_ap]; simp only [if_true]
      exact ⟨fun q => absurd rfl q, fun ⟨k, k0, k1, _⟩ => by omega⟩
  rintro y1 f i σ1 ⟨rfl, i0, i1, rfl, hf, h3, hmk, hse⟩ r11 hr11
  have ht1 : ∀ {σ' : fb_St}, fr_ [5, 6, 7] σ1 σ' → σ' 1 = σ 1 ∧ σ' 2 = σ 2 ∧ σ' 4 = σ 4 := fun q => ⟨(q 1 (by decide)).trans (hf 1 (by decide)), (q 2 (by decide)).trans (hf 2 (by decide)), (q 4 (by decide)).trans (hf 4 (by decide))⟩
  have pb := pc_bd (W := W) (H := H) (h := h) i.toNat
  unfold wb_X6_findPits_11 wj_X6_findPits_105
  rw [hf 1 (by decide), ht.2.2.1]
  refine ⟨fun c1 => sp_cameTo i0 (by omega) (fun s7 => ⟨fun z => by omega, fun _ => ⟨by omega, ?_⟩⟩) (fun s7 => ⟨fun _ => ⟨i0, by omega, fun v9 hv9 => ?_⟩, fun z => absurd rfl z⟩), fun c1 => ?_⟩
  · -- seen already
    obtain ⟨k, k0, k1, k2⟩ := (hse i i0 c1).mp s7
    have nf : ¬ fi_ W H h i := fun q => q k k0 k1 k2
    refine hr11 _ _ _ _ ⟨rfl, by omega, by omega, by rw [pc_snoc i0, in_neg (fun q => nf q.2)]; omega, hf, h3, fun hx => ⟨fun j j0 j1 => mr_old (fun q => nf q.2.1) ((hmk hx).1 j j0 j1), (hmk hx).2⟩, fun j j0 j1 => (hse j j0 j1).trans ⟨fun ⟨q, q0, q1, q2⟩ => ⟨q, q0, by omega, q2⟩, fun ⟨q, q0, q1, q2⟩ => ?_⟩⟩ (by omega)
    by_cases e : q = i
    · subst e; exact ⟨k, k0, k1, pl_tr k2 q2⟩
    · exact ⟨q, q0, by omega, q2⟩
  · -- a new plateau
    have ff : fi_ W H h i := fun k k0 k1 k2 => absurd s7 ((hse i i0 c1).mpr ⟨k, k0, k1, k2⟩)
    have tv1 : tv_ W H σ1 := tv_eq ht (hf 1 (by decide)) (hf 2 (by decide)) (hf 4 (by decide))
    have e2 : σ1 2 = σ 2 := hf 2 (by decide)
    have hvi : v9 = h i := by rw [hv9, e2]; exact hh i i0 c1
    refine sp_from tv1 i0 c1 (fun σ2 hf2 hb2 => ?_)
    have tv2 : tv_ W H σ2 := tv_eq tv1 (hf2 1 (by decide)) (hf2 2 (by decide)) (hf2 4 (by decide))
    have e22 : σ2 2 = σ 2 := (hf2 2 (by decide)).trans e2
    have hN := hb2.1.1
    have hN2 := bf_le (by omega) hb2.1
    -- the search comes to the plateau
    have key : ∀ j, rc_ W H (pk_ σ1 v9 v9) i j ↔ pl_ W H h i j := by
      intro j
      constructor
      · intro q
        have q1 := rc_mono (P' := fun b => σ1 2 b = v9) (fun a ha => by have h1 := ha.1; have h2 := ha.2.1; omega) q
        exact (rc_cong hw.1 i0 c1 (fun b b0 b1 => by rw [e2, hh b b0 b1, hvi]) j).mp q1
      · intro q
        refine (q (fun j => rc_ W H (pk_ σ1 v9 v9) i j ∧ pl_ W H h i j) (fun _ => ⟨rc_self ⟨by rw [hv9]; omega, by rw [hv9]; omega, s7⟩, pl_rf⟩) (fun a b ha hab hb => ?_)).1
        have ib := ad_lt hw.1 hab
        have hpb : pl_ W H h i b := rc_step ha.2 hab hb
        refine ⟨rc_step ha.1 hab ⟨?_, ?_, ?_⟩, hpb⟩
        · rw [e2, hh b ib.1 ib.2, hvi, hb]; omega
        · rw [e2, hh b ib.1 ib.2, hvi, hb]; omega
        · by_cases z : σ1 7 b = 0
          · exact z
          · obtain ⟨k, k0, k1, k2⟩ := (hse b ib.1 ib.2).mp z
            exact absurd (pl_tr k2 (pl_sym hw.1 hpb)) (ff k k0 k1)
    have hse2 : ∀ j, 0 ≤ j → j < W * H → (σ2 7 j ≠ 0 ↔ ∃ k, 0 ≤ k ∧ k < i + 1 ∧ pl_ W H h k j) := by
      intro j j0 j1
      rw [bo_se hb2 j0 j1, hse j j0 j1, key j]
      constructor
      · rintro (⟨k, k0, k1, k2⟩ | q)
        · exact ⟨k, k0, by omega, k2⟩
        · exact ⟨i, i0, by omega, q⟩
      · rintro ⟨k, k0, k1, k2⟩
        by_cases e : k = i
        · subst e; exact Or.inr k2
        · exact Or.inl ⟨k, k0, by omega, k2⟩
    refine sp_lowestAround tv2 ⟨hN, by omega⟩ (fun k k0 k1 => (hb2.1.2.1 k k0 k1).2) (fun v hv => ?_)
    have hv2 := ml_same (fun b => (es_end hw.1 i0 c1 hb2 b).symm) hv
    have hpit : (v < v9) ↔ ¬ pi_ W H h i := by
      constructor
      · intro z q
        rcases hv2.2 with rfl | ⟨b, ⟨a, ha, hab, hc⟩, hb⟩
        · have := hhb i i0 c1; omega
        · have ib := ad_lt hw.1 hab
          rw [e22, hh b ib.1 ib.2] at hb
          exact q a b ((key a).mp ha) hab (by omega)
      · intro z
        refine Decidable.byContradiction (fun hn => z (fun a b ha hab hlt => hn ?_))
        have ib := ad_lt hw.1 hab
        have h1 := hv2.1 b ⟨a, (key a).mpr ha, hab, by rw [e22, hh b ib.1 ib.2]; omega⟩
        rw [e22, hh b ib.1 ib.2] at h1
        omega
    have hf3 : fr_ [3, 5, 6, 7] σ σ2 := fr_tr hf (fr_wk hf2 (by decide))
    refine ⟨fun z => ⟨by omega, ?_⟩, fun z => ⟨by omega, fun y0 => ⟨by omega, ?_⟩, fun y0 => ?_⟩⟩
    · have np := hpit.mp z
      refine hr11 _ _ _ _ ⟨rfl, by omega, by omega, by rw [pc_snoc i0, in_neg (fun q => np q.1)]; omega, hf3, fun q => (hf2 3 (by decide)).trans (h3 q), fun hx => ?_, hse2⟩ (by omega)
      rw [hf2 3 (by decide)]
      exact ⟨fun j j0 j1 => mr_old (fun q => np q.1) ((hmk hx).1 j j0 j1), (hmk hx).2⟩
    · have pp : pi_ W H h i := Classical.byContradiction (fun q => z (hpit.mpr q))
      exact hr11 _ _ _ _ ⟨rfl, by omega, by omega, by rw [pc_snoc i0, in_pos ⟨pp, ff⟩], hf3, fun q => (hf2 3 (by decide)).trans (h3 q), fun hx => absurd y0 hx, hse2⟩ (by omega)
    · have pp : pi_ W H h i := Classical.byContradiction (fun q => z (hpit.mpr q))
      refine sp_markAll ⟨hN, by omega⟩ (fun k k0 k1 => have := (hb2.1.2.1 k k0 k1).2; by omega) (fun σ3 hf4 ha hb => ⟨by omega, ?_⟩)
      have hin : ∀ j, 0 ≤ j → j < W * H → ((∃ k, 0 ≤ k ∧ k < σ2 5 0 ∧ σ2 6 k = j) ↔ pl_ W H h i j) := fun j j0 j1 => (hb2.2 j j0 j1).symm.trans (key j)
      refine hr11 _ _ _ _ ⟨rfl, by omega, by omega, by rw [pc_snoc i0, in_pos ⟨pp, ff⟩], fr_tr hf3 (fr_wk hf4 (by decide)), fun q => absurd q y0, fun hx => ⟨fun j j0 j1 => ?_, fun j j0 j1 => ?_⟩, by rw [hf4 7 (by decide)]; exact hse2⟩ (by omega)
      · by_cases q : pl_ W H h i j
        · rw [ha j ((hin j j0 j1).mpr q)]
          exact Or.inl ⟨i, i0, by omega, pp, ff, q, rfl⟩
        · rw [hb j (fun z => q ((hin j j0 j1).mp z)), hf2 3 (by decide)]
          exact mr_old (fun z => q z.2.2) ((hmk hx).1 j j0 j1)
      · rw [hb j (fun ⟨k, k0, k1, k2⟩ => by have := (hb2.1.2.1 k k0 k1).2.2; omega), hf2 3 (by decide)]
        exact (hmk hx).2 j j0 j1
  · have e : i = W * H := by omega
    rw [e] at hmk
    rw [e]
    exact hq σ1 hf h3 hmk
end PIT
