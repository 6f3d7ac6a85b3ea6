section MPI
variable {W H : Int} {σ : fb_St} {h : Int → Int}
def pm_ (v : Int) : Int := if v = -6 then 0 else v + 1
theorem sm_layPits (hm : mv_ W H σ) (hh : ∀ j, 0 ≤ j → j < W * H → σ 49 j = h j) {Q : Int → fb_St → Prop}
    (hq : ∀ σ', fr_ [52, 53, 54] σ σ' → (∀ j, 0 ≤ j → j < W * H → mr_ W H h (W * H) j (pm_ (σ' 52 j)) ∧ (σ' 52 j = -6 ∨ 0 ≤ σ' 52 j ∧ σ' 52 j < 144)) → (∀ j, W * H ≤ j → j < 144 → σ' 52 j = -6) → Q (pc_ W H h (W * H).toNat) σ') : wp_X7_layPits σ Q := by
  have hw := mv_wh hm
  have hhb : ∀ j, 0 ≤ j → j < W * H → 0 ≤ h j ∧ h j ≤ 99 := fun j j0 j1 => by have := hm.2.2.2.2.1 j j0 (by omega); have := hh j j0 j1; omega
  unfold wp_X7_layPits
  refine fb_lp2 (fun i σ' => 0 ≤ i ∧ i ≤ 144 ∧ fr_ [52, 53, 54] σ σ' ∧ ∀ j, 0 ≤ j → j < i → σ' 52 j = -6) (fun i _ => (144 - i).toNat) ?_ 0 σ ⟨Int.le_refl 0, by omega, fr_rf, fun j h0 h1 => by omega⟩
  rintro i σ1 ⟨i0, i1, hf, hz⟩ r2 hr2
  unfold wb_X7_layPits_2
  refine ⟨fun c1 => ⟨i0, c1, fun σ2 hσ2 => ⟨by omega, ?_⟩⟩, fun c1 => ?_⟩
  · subst hσ2
    refine hr2 _ _ ⟨by omega, by omega, fr_tr hf (fr_up (by decide)), fun j h0 h1 => ?_⟩ (by omega)
    rw [up_eq]; dsimp only
    split
    · rfl
    · exact hz j h0 (by omega)
  refine fb_lp3 (fun f i σ' => 0 ≤ i ∧ i ≤ W * H ∧ f = pc_ W H h i.toNat ∧ fr_ [52, 53, 54] σ σ' ∧ (∀ j, 0 ≤ j → j < W * H → mr_ W H h i j (pm_ (σ' 52 j)) ∧ (σ' 52 j = -6 ∨ 0 ≤ σ' 52 j ∧ σ' 52 j < 144)) ∧ (∀ j, W * H ≤ j → j < 144 → σ' 52 j = -6)) (fun _ i _ => (200 - i).toNat) ?_ 0 0 σ1 ⟨Int.le_refl 0, by omega, rfl, hf, fun j j0 j1 => ?_, fun j j0 j1 => hz j (by omega) (by omega)⟩
  rotate_left
  · rw [hz j j0 (by omega)]
    exact ⟨Or.inr ⟨rfl, fun k k0 k1 => by omega⟩, Or.inl rfl⟩
  clear hz hf c1 hr2 i0 i1 i σ1
  rintro f i σ1 ⟨i0, i1, rfl, hf, hmk, hmo⟩ r27 hr27
  have pb := pc_bd (W := W) (H := H) (h := h) i.toNat
  have hm1 : mv_ W H σ1 := mv_eq hm (hf 49 (by decide))
  have e49 : σ1 49 = σ 49 := hf 49 (by decide)
  unfold wb_X7_layPits_27 wj_X7_layPits_113 wj_X7_layPits_82
  refine sm_dots hm1 ⟨fun c1 => ⟨i0, by omega, fun z6 => ⟨i0, by omega, ?_⟩, fun z6 => ⟨by omega, ?_⟩⟩, fun c1 => ?_⟩
  · have hvi : σ1 49 i = h i := by rw [e49]; exact hh i i0 c1
    refine sm_spread hm1 i0 c1 (by simp [qk_]) (fun N σ2 hf2 hb2 => ?_)
    have hm2 : mv_ W H σ2 := mv_eq hm1 (hf2 49 (by decide))
    have e249 : σ2 49 = σ 49 := (hf2 49 (by decide)).trans e49
    have hN := hb2.1.1
    have hN2 := bf_le (by omega) hb2.1
    have key : ∀ j, rc_ W H (qk_ σ1 (σ1 49 i) 1) i j ↔ pl_ W H h i j := fun j => rc_cong hw.1 i0 c1 (fun b b0 b1 => by simp only [qk_]; rw [if_neg (by decide), e49, hh b b0 b1, hh i i0 c1]) j
    refine sm_leastBeside hm2 ⟨hN, by omega⟩ (fun k k0 k1 => (hb2.1.2.1 k k0 k1).2) (fun v v0 v1 hv => ?_)
    have hv2 := ml_same (fun b => (es_end hw.1 i0 c1 hb2 b).symm) hv
    have edge : ∀ a b, pl_ W H h i a → ad_ W H a b → (σ2 54 b = 0 ↔ h b ≠ h i) := by
      intro a b ha hab
      have ib := ad_lt hw.1 hab
      have h1 := bo_se hb2 ib.1 ib.2
      rw [key b] at h1
      constructor
      · intro z hb
        exact absurd z (h1.mpr (Or.inr (rc_step ha hab hb)))
      · intro z
        refine Classical.byContradiction (fun q => ?_)
        rcases h1.mp q with y | y
        · exact y rfl
        · exact z (pl_h y)
    have hpit : (en_ v < 0 ∨ h i < en_ v) ↔ pi_ W H h i := by
      have hvv : (en_ v < 0 ∨ h i < en_ v) ↔ h i < v := by unfold en_; have := hhb i i0 c1; split <;> omega
      rw [hvv]
      constructor
      · intro z a b ha hab hlt
        have ib := ad_lt hw.1 hab
        have h1 := hv2.1 b ⟨a, (key a).mpr ha, hab, (edge a b ha hab).mpr (by omega)⟩
        rw [e249, hh b ib.1 ib.2] at h1
        omega
      · intro z
        rcases hv2.2 with rfl | ⟨b, ⟨a, ha, hab, hc⟩, hb⟩
        · have := hhb i i0 c1; omega
        · have ib := ad_lt hw.1 hab
          rw [e249, hh b ib.1 ib.2] at hb
          have h1 := z a b ((key a).mp ha) hab
          have h2 := (edge a b ((key a).mp ha) hab).mp hc
          omega
    have hf3 : fr_ [52, 53, 54] σ σ2 := fr_tr hf (fr_wk hf2 (by decide))
    have yes : pi_ W H h i → ∃ n, wl_X7_layPits_85 r27 Q n (pc_ W H h i.toNat) i N 0 σ2 := by
      intro pp
      have ff : fi_ W H h i := by
        intro k k0 k1 k2
        obtain ⟨k', q0, q1, q2, q3⟩ := fi_ex k0 k2
        rcases (hmk i i0 c1).1 with ⟨u, u0, u1, u2, u3, u4, u5⟩ | ⟨u1, u2⟩
        · rw [z6] at u5
          have := pc_bd (W := W) (H := H) (h := h) u.toNat
          simp only [pm_, if_true] at u5
          omega
        · exact u2 k' q0 (by omega) (pi_tr (pl_sym hw.1 q3) pp) q2 q3
      refine fb_lp5 (fun y1 y2 y3 k σ' => pc_ W H h i.toNat = y1 ∧ i = y2 ∧ N = y3 ∧ 0 ≤ k ∧ k ≤ N ∧ fr_ [52] σ2 σ' ∧ (∀ j, (∃ q, 0 ≤ q ∧ q < k ∧ σ2 53 q = j) → σ' 52 j = pc_ W H h i.toNat) ∧ (∀ j, (¬ ∃ q, 0 ≤ q ∧ q < k ∧ σ2 53 q = j) → σ' 52 j = σ2 52 j)) (fun _ _ _ k _ => (200 - k).toNat) ?_ _ i N 0 σ2 ⟨rfl, rfl, rfl, Int.le_refl 0, hN, fr_rf, fun j ⟨q, q0, q1, _⟩ => by omega, fun j _ => rfl⟩
      rintro y1 y2 y3 k σ3 ⟨rfl, rfl, rfl, k0, k1, hf4, ha, hb⟩ r85 hr85
      unfold wb_X7_layPits_85 wj_X7_layPits_113
      rw [hf4 53 (by decide)]
      refine ⟨fun c2 => ⟨k0, by omega, (hb2.1.2.1 k k0 c2).2.1, by have := (hb2.1.2.1 k k0 c2).2.2; omega, fun σ4 hσ4 => ⟨by omega, ?_⟩⟩, fun c2 => ⟨by omega, by omega, ?_⟩⟩
      · subst hσ4
        refine hr85 _ _ _ _ _ ⟨rfl, rfl, rfl, by omega, by omega, fr_tr hf4 (fr_up (by decide)), fun j ⟨q, q0, q1, q2⟩ => ?_, fun j hj => ?_⟩ (by omega)
        · rw [up_eq]; dsimp only
          split
          · rfl
          · rename_i hne
            refine ha j ⟨q, q0, ?_, q2⟩
            by_cases e : q = k
            · rw [e] at q2; exact absurd q2.symm hne
            · omega
        · rw [up_eq]; dsimp only
          split
          · rename_i he; exact absurd ⟨k, k0, by omega, he.symm⟩ hj
          · exact hb j (fun ⟨q, q0, q1, q2⟩ => hj ⟨q, q0, by omega, q2⟩)
      · have ek : k = N := by omega
        rw [ek] at ha hb
        have hin : ∀ j, 0 ≤ j → j < W * H → ((∃ q, 0 ≤ q ∧ q < N ∧ σ2 53 q = j) ↔ pl_ W H h i j) := fun j j0 j1 => (hb2.2 j j0 j1).symm.trans (key j)
        refine hr27 _ _ _ ⟨by omega, by omega, by rw [pc_snoc i0, in_pos ⟨pp, ff⟩], fr_tr hf3 (fr_wk hf4 (by decide)), fun j j0 j1 => ?_, fun j j0 j1 => ?_⟩ (by omega)
        · by_cases q : pl_ W H h i j
          · rw [ha j ((hin j j0 j1).mpr q)]
            refine ⟨Or.inl ⟨i, i0, by omega, pp, ff, q, ?_⟩, Or.inr (by omega)⟩
            unfold pm_; rw [if_neg (by omega)]
          · rw [hb j (fun z => q ((hin j j0 j1).mp z)), hf2 52 (by decide)]
            exact ⟨mr_old (fun z => q z.2.2) (hmk j j0 j1).1, (hmk j j0 j1).2⟩
        · rw [hb j (fun ⟨q, q0, q1, q2⟩ => by have := (hb2.1.2.1 q q0 q1).2.2; omega), hf2 52 (by decide)]
          exact hmo j j0 j1
    have hvi2 : σ2 49 i = h i := by rw [e249]; exact hh i i0 c1
    refine ⟨fun z => yes (hpit.mp (Or.inl z)), fun z => ⟨i0, by omega, fun z2 => yes (hpit.mp (Or.inr (by rw [hvi2] at z2; exact z2))), fun z2 => ⟨by omega, ?_⟩⟩⟩
    have np : ¬ pi_ W H h i := fun q => by
      rw [hvi2] at z2
      have := hpit.mpr q
      omega
    refine hr27 _ _ _ ⟨by omega, by omega, by rw [pc_snoc i0, in_neg (fun q => np q.1)]; omega, hf3, ?_, ?_⟩ (by omega)
    · rw [hf2 52 (by decide)]
      exact fun j j0 j1 => ⟨mr_old (fun q => np q.1) (hmk j j0 j1).1, (hmk j j0 j1).2⟩
    · rw [hf2 52 (by decide)]
      exact hmo
  · -- a dot of a pit that is known
    have nf : ¬ fi_ W H h i := by
      intro q
      rcases (hmk i i0 c1).1 with ⟨u, u0, u1, u2, u3, u4, u5⟩ | ⟨u1, u2⟩
      · exact q u u0 u1 u4
      · unfold pm_ at u1
        rw [if_neg z6] at u1
        have := (hmk i i0 c1).2
        omega
    exact hr27 _ _ _ ⟨by omega, by omega, by rw [pc_snoc i0, in_neg (fun q => nf q.2)]; omega, hf, fun j j0 j1 => ⟨mr_old (fun q => nf q.2.1) (hmk j j0 j1).1, (hmk j j0 j1).2⟩, hmo⟩ (by omega)
  · have e : i = W * H := by omega
    rw [e] at hmk
    rw [e]
    exact hq σ1 hf hmk hmo
end MPI
/-! no land has more than 72 pits -/
theorem pi_apart {W H i : Int} (hW : 0 < W) {h : Int → Int} (a : pi_ W H h i ∧ fi_ W H h i) (i0 : 0 ≤ i) (had : ad_ W H i (i + 1)) : ¬ (pi_ W H h (i + 1) ∧ fi_ W H h (i + 1)) := by
  rintro ⟨b1, b2⟩
  have h1 := a.1 i (i + 1) pl_rf had
  have h2 := b1 (i + 1) i pl_rf (ad_sym hW had)
  exact b2 i i0 (by omega) (rc_step (rc_self rfl) had (show h (i + 1) = h i by omega))
theorem pc_row {W H y : Int} (hW : 0 < W) {h : Int → Int} (y0 : 0 ≤ y) (y1 : y < H) : ∀ n : Nat, (n : Int) ≤ W → 2 * pc_ W H h (W * y + n).toNat ≤ 2 * pc_ W H h (W * y).toNat + n + 1 ∧ (∀ m : Int, m = W * y + n - 1 → 0 < n → ¬ (pi_ W H h m ∧ fi_ W H h m) → 2 * pc_ W H h (W * y + n).toNat ≤ 2 * pc_ W H h (W * y).toNat + n) := by
  have hy := Int.mul_nonneg (show 0 ≤ W by omega) y0
  intro n
  induction n with
  | zero => intro _; exact ⟨by simp; omega, fun m _ q => absurd q (by decide)⟩
  | succ n ih =>
    intro hn
    obtain ⟨i1, i2⟩ := ih (by omega)
    have es : pc_ W H h (W * y + ((n + 1 : Nat) : Int)).toNat = pc_ W H h (W * y + n).toNat + in_ (pi_ W H h (W * y + n) ∧ fi_ W H h (W * y + n)) := by
      rw [show W * y + ((n + 1 : Nat) : Int) = (W * y + n) + 1 by omega]
      exact pc_snoc (by omega)
    rw [es]
    by_cases q : pi_ W H h (W * y + n) ∧ fi_ W H h (W * y + n)
    · rw [in_pos q]
      refine ⟨?_, fun m hm _ hn => absurd (show pi_ W H h m ∧ fi_ W H h m by rw [show m = W * y + n by omega]; exact q) hn⟩
      by_cases z : n = 0
      · subst z
        simp only [Int.ofNat_zero, Int.add_zero] at i1 ⊢
        have e0 : ((0 : Nat) : Int) = 0 := rfl
        omega
      · have hg := wl_ (W := W) hW (show y + 1 ≤ H by omega)
        rw [Int.mul_add] at hg
        have had : ad_ W H (W * y + n - 1) ((W * y + n - 1) + 1) := by
          obtain ⟨-, d2⟩ := dm_ (W := W) (x := (n : Int) - 1) (y := y) hW (by omega) (by omega)
          refine ⟨by omega, by omega, by omega, 0, by omega, by omega, ?_⟩
          rw [show W * y + (n : Int) - 1 = W * y + ((n : Int) - 1) by omega]
          unfold nb_
          rw [if_pos rfl, d2, if_pos (by omega)]
        have := i2 _ rfl (by omega) (fun w => pi_apart hW w (by omega) had (by rw [show W * y + (n : Int) - 1 + 1 = W * y + n by omega]; exact q))
        omega
    · rw [in_neg q]
      refine ⟨by omega, fun m _ _ _ => by omega⟩
theorem pc_72 {W H : Int} (hW : 1 ≤ W ∧ W ≤ 12) (hH : 1 ≤ H ∧ H ≤ 12) {h : Int → Int} : pc_ W H h (W * H).toNat ≤ 78 := by
  have key : ∀ n : Nat, (n : Int) ≤ H → 2 * pc_ W H h (W * n).toNat ≤ 13 * n := by
    intro n
    induction n with
    | zero => intro _; simp [pc_, su_]
    | succ n ih =>
      intro hn
      have h1 := ih (by omega)
      have h2 := (pc_row (h := h) (H := H) (show 0 < W by omega) (show (0 : Int) ≤ n by omega) (by omega) W.toNat (by omega)).1
      rw [Int.toNat_of_nonneg (by omega)] at h2
      rw [show W * ((n + 1 : Nat) : Int) = W * n + W by rw [Int.natCast_add, Int.mul_add]; omega]
      omega
  have := key H.toNat (by omega)
  rw [Int.toNat_of_nonneg (by omega)] at this
  omega
