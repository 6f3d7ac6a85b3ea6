/-! ===== the class: the land as it is held; searches ===== -/
def tv_ (W H : Int) (σ : fb_St) : Prop := σ 1 0 = W ∧ σ 1 1 = H ∧ σ 1 2 = W * H ∧ (1 ≤ W ∧ W ≤ 12) ∧ (1 ≤ H ∧ H ≤ 12) ∧ (∀ i, 0 ≤ i → i < 144 → 0 ≤ σ 2 i ∧ σ 2 i ≤ 99) ∧ ∀ i d, 0 ≤ i → i < W * H → 0 ≤ d → d < 4 → σ 4 (i * 4 + d) = nb_ W H i d
theorem wh_ {W H : Int} (hW : 1 ≤ W ∧ W ≤ 12) (hH : 1 ≤ H ∧ H ≤ 12) : 1 ≤ W * H ∧ W * H ≤ 144 := by
  have h1 := Int.mul_le_mul hW.2 hH.2 (by omega) (by omega)
  have h2 := Int.mul_le_mul hW.1 hH.1 (by omega) (by omega)
  omega
theorem tv_eq {W H : Int} {σ σ' : fb_St} (h : tv_ W H σ) (e1 : σ' 1 = σ 1) (e2 : σ' 2 = σ 2) (e4 : σ' 4 = σ 4) : tv_ W H σ' := by
  unfold tv_ at h ⊢
  rw [e1, e2, e4]
  exact h
theorem tv_wh {W H : Int} {σ : fb_St} (h : tv_ W H σ) : 0 < W ∧ 1 ≤ W * H ∧ W * H ≤ 144 := by
  have := wh_ h.2.2.2.1 h.2.2.2.2.1
  have := h.2.2.2.1
  omega
theorem sp_reach {k lo hi : Int} {σ : fb_St} {Q : Int → fb_St → Prop} (hk : k = -1 ∨ 0 ≤ k ∧ k < 144) (hs : 0 ≤ σ 5 0)
    (h1 : ¬ (k = -1) → σ 7 k = 0 → σ 5 0 < 144 → lo ≤ σ 2 k → σ 2 k ≤ hi → Q 0 (fb_up (fb_up (fb_up σ 7 k 1) 6 (σ 5 0) k) 5 0 (σ 5 0 + 1)))
    (h0 : (k = -1 ∨ σ 7 k ≠ 0 ∨ 144 ≤ σ 5 0 ∨ ¬ (lo ≤ σ 2 k ∧ σ 2 k ≤ hi)) → Q 0 σ) : wp_X4_reach k lo hi σ Q := by
  unfold wp_X4_reach wj_X4_reach_24 wj_X4_reach_67
  refine ⟨fun e => h0 (Or.inl e), fun e => ⟨by omega, by omega, fun e7 => ⟨fun e5 => ⟨by omega, by omega, sp_within (fun a1 a2 => ⟨fun q => by omega, fun _ => ⟨by omega, by omega, fun σ1 hσ1 => ?_⟩⟩) (fun a => ⟨fun _ => h0 (Or.inr (Or.inr (Or.inr a))), fun q => absurd rfl q⟩)⟩, fun e5 => h0 (Or.inr (Or.inr (Or.inl (by omega))))⟩, fun e7 => h0 (Or.inr (Or.inl e7))⟩⟩
  subst hσ1
  have e5' : fb_up σ 7 k 1 5 0 = σ 5 0 := by rw [up_ne _ _ _ (by decide)]
  refine ⟨by omega, by omega, fun σ2 hσ2 => ?_⟩
  rw [e5'] at hσ2
  subst hσ2
  have e5'' : fb_up (fb_up σ 7 k 1) 6 (σ 5 0) k 5 0 = σ 5 0 := by rw [up_ne _ _ _ (by decide), up_ne _ _ _ (by decide)]
  rw [e5'']
  exact ⟨by omega, fun σ3 hσ3 => hσ3 ▸ h1 e e7 e5 a1 a2⟩
section SPR
variable {W H lo hi s : Int} {σ : fb_St}
/-- of which dots a search comes to -/
abbrev pk_ (σ : fb_St) (lo hi : Int) : Int → Prop := fun b => lo ≤ σ 2 b ∧ σ 2 b ≤ hi ∧ σ 7 b = 0
def sj_ (W H lo hi s : Int) (σ σ' : fb_St) : Prop := fr_ [5, 6, 7] σ σ' ∧ bf_ W H (pk_ σ lo hi) s (σ 7) (σ' 5 0) (σ' 6) (σ' 7)
theorem sp_reach2 (ht : tv_ W H σ) {σ' : fb_St} (hj : sj_ W H lo hi s σ σ') {k : Int} {Q : Int → fb_St → Prop} (hk : k = -1 ∨ 0 ≤ k ∧ k < W * H) (hr : k ≠ -1 → pk_ σ lo hi k → rc_ W H (pk_ σ lo hi) s k)
    (h : ∀ σ'', sj_ W H lo hi s σ σ'' → (∀ j, σ' 7 j ≠ 0 → σ'' 7 j ≠ 0) → σ' 5 0 ≤ σ'' 5 0 → (∀ q, q < σ' 5 0 → σ'' 6 q = σ' 6 q) → (k ≠ -1 → pk_ σ lo hi k → σ'' 7 k ≠ 0) → Q 0 σ'') : wp_X4_reach k lo hi σ' Q := by
  have hw := tv_wh ht
  obtain ⟨hf, hb⟩ := hj
  have e2 : σ' 2 = σ 2 := hf 2 (by decide)
  refine sp_reach (by omega) hb.1 (fun k1 k7 k5 a1 a2 => ?_) (fun hn => ?_)
  · rw [e2] at a1 a2
    have kk : 0 ≤ k ∧ k < W * H := by omega
    have k70 : σ 7 k = 0 := by
      by_cases q : σ 7 k = 0
      · exact q
      · exact absurd k7 ((hb.2.2.1 k kk.1 kk.2).mpr (Or.inl q))
    have hadd := bf_add hb kk.1 kk.2 k7 (hr k1 ⟨a1, a2, k70⟩)
    refine h _ ⟨fr_tr hf (fr_tr (fr_up (k := 7) (by decide)) (fr_tr (fr_up (k := 6) (by decide)) (fr_up (k := 5) (by decide)))), ?_⟩ ?_ ?_ ?_ ?_
    · have g5 : fb_up (fb_up (fb_up σ' 7 k 1) 6 (σ' 5 0) k) 5 0 (σ' 5 0 + 1) 5 0 = σ' 5 0 + 1 := by rw [up_eq]; simp
      have g6 : fb_up (fb_up (fb_up σ' 7 k 1) 6 (σ' 5 0) k) 5 0 (σ' 5 0 + 1) 6 = fun j => if j = σ' 5 0 then k else σ' 6 j := by
        rw [up_ne _ _ _ (by decide), up_eq, up_ne _ _ _ (by decide)]
      have g7 : fb_up (fb_up (fb_up σ' 7 k 1) 6 (σ' 5 0) k) 5 0 (σ' 5 0 + 1) 7 = fun j => if j = k then 1 else σ' 7 j := by
        rw [up_ne _ _ _ (by decide), up_ne _ _ _ (by decide), up_eq]
      rw [g5, g6, g7]
      exact hadd
    · intro j hj
      rw [up_ne _ _ _ (by decide), up_ne _ _ _ (by decide), up_eq]
      dsimp only
      split
      · decide
      · exact hj
    · rw [up_eq]; simp; omega
    · intro q hq
      rw [up_ne _ _ _ (by decide), up_eq, up_ne _ _ _ (by decide)]
      dsimp only
      rw [if_neg (by omega)]
    · intro _ _
      rw [up_ne _ _ _ (by decide), up_ne _ _ _ (by decide), up_eq]
      simp
  · refine h σ' ⟨hf, hb⟩ (fun _ q => q) (Int.le_refl _) (fun _ _ => rfl) (fun k1 kp => ?_)
    have kk : 0 ≤ k ∧ k < W * H := by omega
    intro k7
    have := bf_lt hb kk.1 kk.2 k7
    rw [e2] at hn
    have kp1 : lo ≤ σ 2 k ∧ σ 2 k ≤ hi ∧ σ 7 k = 0 := kp
    omega
theorem sp_from (ht : tv_ W H σ) (s0 : 0 ≤ s) (s1 : s < W * H) {Q : Int → fb_St → Prop} (h : ∀ σ', fr_ [5, 6, 7] σ σ' → bo_ W H (pk_ σ lo hi) s (σ 7) (σ' 5 0) (σ' 6) (σ' 7) → Q 0 σ') : wp_X4_from s lo hi σ Q := by
  have hw := tv_wh ht
  unfold wp_X4_from
  intro σ1 hσ1
  have hj1 : sj_ W H lo hi s σ σ1 := by
    subst hσ1
    refine ⟨fr_up (by decide), ?_⟩
    rw [up_ne _ _ _ (show 6 ≠ 5 by decide), up_ne _ _ _ (show 7 ≠ 5 by decide), up_eq]
    simp only [if_true]
    exact bf_0
  refine sp_reach2 ht hj1 (Or.inr ⟨s0, s1⟩) (fun _ hp => rc_self hp) (fun σ2 hj2 _ _ _ hs2 => ?_)
  refine fb_lp4 (fun x3 x4 x5 σ' => lo = x3 ∧ hi = x4 ∧ sj_ W H lo hi s σ σ' ∧ (pk_ σ lo hi s → σ' 7 s ≠ 0) ∧ 0 ≤ x5 ∧ x5 ≤ σ' 5 0 ∧ ∀ k, 0 ≤ k → k < x5 → ∀ d, 0 ≤ d → d < 4 → nb_ W H (σ' 6 k) d ≠ -1 → pk_ σ lo hi (nb_ W H (σ' 6 k) d) → σ' 7 (nb_ W H (σ' 6 k) d) ≠ 0) (fun _ _ x5 _ => (200 - x5).toNat) ?_ lo hi 0 σ2 ⟨rfl, rfl, hj2, hs2 (by omega), Int.le_refl 0, hj2.2.1, fun k k0 k1 => by omega⟩
  rintro x3 x4 i σ3 ⟨rfl, rfl, hj3, hs3, i0, iN, hc⟩ r17 hr17
  have hle := bf_le (by omega) hj3.2
  unfold wb_X4_from_17 wj_X4_from_76
  refine ⟨fun c1 => ⟨fun c2 => ?_, fun c2 => by omega⟩, fun c1 => ?_⟩
  · refine fb_lp5 (fun y3 y4 y5 d σ' => lo = y3 ∧ hi = y4 ∧ i = y5 ∧ sj_ W H lo hi s σ σ' ∧ (pk_ σ lo hi s → σ' 7 s ≠ 0) ∧ i < σ' 5 0 ∧ (∀ k, 0 ≤ k → k < i → ∀ d, 0 ≤ d → d < 4 → nb_ W H (σ' 6 k) d ≠ -1 → pk_ σ lo hi (nb_ W H (σ' 6 k) d) → σ' 7 (nb_ W H (σ' 6 k) d) ≠ 0) ∧ 0 ≤ d ∧ d ≤ 4 ∧ ∀ d', 0 ≤ d' → d' < d → nb_ W H (σ' 6 i) d' ≠ -1 → pk_ σ lo hi (nb_ W H (σ' 6 i) d') → σ' 7 (nb_ W H (σ' 6 i) d') ≠ 0) (fun _ _ _ d _ => (4 - d).toNat) ?_ lo hi i 0 σ3 ⟨rfl, rfl, rfl, hj3, hs3, c1, hc, Int.le_refl 0, by omega, fun d' h0 h1 => by omega⟩
    rintro y3 y4 y5 d σ4 ⟨rfl, rfl, rfl, hj4, hs4, i4, hc4, d0, d1, hd⟩ r37 hr37
    unfold wb_X4_from_37
    have hle4 := bf_le (by omega) hj4.2
    refine ⟨fun c3 => ⟨by omega, by omega, ?_⟩, fun c3 => ⟨by omega, ?_⟩⟩
    · obtain ⟨q1, q2, q3⟩ := hj4.2.2.1 i i0 i4
      have e4 : σ4 4 = σ 4 := hj4.1 4 (by decide)
      refine sp_neighbour (by omega) (by omega) ?_
      rw [e4, ht.2.2.2.2.2.2 _ _ q2 q3 d0 c3]
      refine sp_reach2 ht hj4 (nb_rng d hw.1 q2 q3) (fun n1 hp => rc_step q1 ⟨q2, q3, by have := nb_rng d hw.1 q2 q3; omega, d, d0, c3, rfl⟩ hp) (fun σ5 hj5 m7 m5 m6 hk5 => ⟨by omega, ?_⟩)
      refine hr37 _ _ _ _ _ ⟨rfl, rfl, rfl, hj5, fun hp => m7 _ (hs4 hp), by omega, fun k k0 k1 d' d0' d1' => ?_, by omega, by omega, fun d' d0' d1' => ?_⟩ (by omega)
      · rw [m6 k (by omega)]
        exact fun n1 hp => m7 _ (hc4 k k0 k1 d' d0' d1' n1 hp)
      · rw [m6 i (by omega)]
        by_cases e : d' = d
        · subst e; exact hk5
        · exact fun n1 hp => m7 _ (hd d' d0' (by omega) n1 hp)
    · refine hr17 _ _ _ _ ⟨rfl, rfl, hj4, hs4, by omega, by omega, fun k k0 k1 d' d0' d1' => ?_⟩ (by omega)
      by_cases e : k = i
      · rw [e]; exact hd d' d0' (by omega)
      · exact hc4 k k0 (by omega) d' d0' d1'
  · exact h σ3 hj3.1 (bf_end hw.1 hj3.2 (fun b hb => hb.2.2) s0 s1 hs3 (fun k k0 k1 => hc k k0 (by omega)))
end SPR
