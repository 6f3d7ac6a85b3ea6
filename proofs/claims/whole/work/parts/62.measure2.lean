section ME2
variable {W H : Int} {h ow : Int → Int} {p : Nat} {σ : fb_St}
/-- what the measures are: of each basin -/
def ms_ (W H : Int) (h ow : Int → Int) (p : Nat) (σ : fb_St) : Prop := ∀ b, 1 ≤ b → b ≤ 99 →
  σ (p + 5) b = cn_ ow b (W * H).toNat ∧ ml_ (fun j => (0 ≤ j ∧ j < W * H) ∧ ow j = b) h (σ (p + 2) b) ∧ lm_ (pn_ W H h ow b) (σ (p + 3) b) (σ (p + 4) b) ∧
  σ (p + 6) b = if σ (p + 3) b = 100 then 0 else wa_ h ow (σ (p + 3) b) b (W * H).toNat
def ps_ (W H : Int) (h ow : Int → Int) (i b o v : Int) : Prop := (0 < b ∧ 0 < o ∧ b ≠ o) ∧
  ((∃ k, (0 ≤ k ∧ k < i) ∧ ow k = 0 ∧ v = h k ∧ ∃ d d', (0 ≤ d ∧ d < 4) ∧ (0 ≤ d' ∧ d' < 4) ∧ ob_ W H ow k d = b ∧ ob_ W H ow k d' = o) ∨
   ∃ k d, (0 ≤ k ∧ k < i) ∧ (0 ≤ d ∧ d < 2) ∧ nb_ W H k d ≠ -1 ∧ v = max (h k) (h (nb_ W H k d)) ∧ (ow k = b ∧ ow (nb_ W H k d) = o ∨ ow k = o ∧ ow (nb_ W H k d) = b))
theorem ps_end (hW : 0 < W) (b o v : Int) : pn_ W H h ow b o v ↔ ps_ W H h ow (W * H) b o v := by
  constructor
  · rintro ⟨z, q | ⟨k, d, k0, d0, n0, hv, e1, e2⟩⟩
    · exact ⟨z, Or.inl q⟩
    · refine ⟨z, Or.inr ?_⟩
      by_cases c : d < 2
      · exact ⟨k, d, k0, ⟨d0.1, c⟩, n0, hv, Or.inl ⟨e1, e2⟩⟩
      · obtain ⟨d', f1, f2, f3, f4⟩ := nb_back d0 hW k0.1 k0.2 n0
        have hr := nb_rng d hW k0.1 k0.2
        refine ⟨nb_ W H k d, d', by omega, by omega, by rw [f4]; omega, by rw [f4, hv]; omega, Or.inr ⟨e2, by rw [f4]; exact e1⟩⟩
  · rintro ⟨z, q | ⟨k, d, k0, d0, n0, hv, ⟨e1, e2⟩ | ⟨e1, e2⟩⟩⟩
    · exact ⟨z, Or.inl q⟩
    · exact ⟨z, Or.inr ⟨k, d, k0, by omega, n0, hv, e1, e2⟩⟩
    · obtain ⟨d', f1, f2, f3, f4⟩ := nb_back (show 0 ≤ d ∧ d < 4 by omega) hW k0.1 k0.2 n0
      have hr := nb_rng d hW k0.1 k0.2
      exact ⟨z, Or.inr ⟨nb_ W H k d, d', by omega, ⟨f1, f2⟩, by rw [f4]; omega, by rw [f4, hv]; omega, e2, by rw [f4]; exact e1⟩⟩
theorem ps_dam {i : Int} (i0 : 0 ≤ i) (hi : ow i = 0) (b o v : Int) : ps_ W H h ow (i + 1) b o v ↔ ps_ W H h ow i b o v ∨ ((0 < b ∧ 0 < o ∧ b ≠ o) ∧ v = h i ∧ ∃ d d', (0 ≤ d ∧ d < 4) ∧ (0 ≤ d' ∧ d' < 4) ∧ ob_ W H ow i d = b ∧ ob_ W H ow i d' = o) := by
  constructor
  · rintro ⟨z, ⟨k, k0, k1, k2, k3⟩ | ⟨k, d, k0, k1, k2, k3, k4⟩⟩
    · by_cases e : k = i
      · subst e; exact Or.inr ⟨z, k2, k3⟩
      · exact Or.inl ⟨z, Or.inl ⟨k, by omega, k1, k2, k3⟩⟩
    · refine Or.inl ⟨z, Or.inr ⟨k, d, ?_, k1, k2, k3, k4⟩⟩
      by_cases e : k = i
      · rw [e, hi] at k4; omega
      · omega
  · rintro (⟨z, ⟨k, k0, k1, k2, k3⟩ | ⟨k, d, k0, k1, k2, k3, k4⟩⟩ | ⟨z, z2, z3⟩)
    · exact ⟨z, Or.inl ⟨k, by omega, k1, k2, k3⟩⟩
    · exact ⟨z, Or.inr ⟨k, d, by omega, k1, k2, k3, k4⟩⟩
    · exact ⟨z, Or.inl ⟨i, by omega, hi, z2, z3⟩⟩
theorem ps_own {i : Int} (i0 : 0 ≤ i) (hi : ow i ≠ 0) (b o v : Int) : ps_ W H h ow (i + 1) b o v ↔ ps_ W H h ow i b o v ∨ ((0 < b ∧ 0 < o ∧ b ≠ o) ∧ ∃ d, (0 ≤ d ∧ d < 2) ∧ nb_ W H i d ≠ -1 ∧ v = max (h i) (h (nb_ W H i d)) ∧ (ow i = b ∧ ow (nb_ W H i d) = o ∨ ow i = o ∧ ow (nb_ W H i d) = b)) := by
  constructor
  · rintro ⟨z, ⟨k, k0, k1, k2, k3⟩ | ⟨k, d, k0, k1, k2, k3, k4⟩⟩
    · refine Or.inl ⟨z, Or.inl ⟨k, ?_, k1, k2, k3⟩⟩
      by_cases e : k = i
      · rw [e] at k1; exact absurd k1 hi
      · omega
    · by_cases e : k = i
      · subst e; exact Or.inr ⟨z, d, k1, k2, k3, k4⟩
      · exact Or.inl ⟨z, Or.inr ⟨k, d, by omega, k1, k2, k3, k4⟩⟩
  · rintro (⟨z, ⟨k, k0, k1, k2, k3⟩ | ⟨k, d, k0, k1, k2, k3, k4⟩⟩ | ⟨z, d, z2⟩)
    · exact ⟨z, Or.inl ⟨k, by omega, k1, k2, k3⟩⟩
    · exact ⟨z, Or.inr ⟨k, d, by omega, k1, k2, k3, k4⟩⟩
    · exact ⟨z, Or.inr ⟨i, d, by omega, z2⟩⟩
theorem ps_neg {i : Int} (i0 : 0 ≤ i) (hi : ¬ 0 ≤ ow i) (b o v : Int) : ps_ W H h ow (i + 1) b o v ↔ ps_ W H h ow i b o v := by
  rw [ps_own i0 (by omega)]
  refine ⟨fun q => q.elim id (fun ⟨z, d, _, _, _, z4⟩ => ?_), Or.inl⟩
  omega
theorem sp_measure (hx : px_ W H h ow p σ) {Q : Int → fb_St → Prop} (hq : ∀ σ', fp_ p [2, 3, 4, 5, 6] σ σ' → ms_ W H h ow p σ' → Q 0 σ') : wp_X3_measure p σ Q := by
  have hw := tv_wh hx.1
  unfold wp_X3_measure
  intro σ1 h1 σ2 h2 σ3 h3 σ4 h4 σ5 h5
  have hf5 : fp_ p [2, 3, 4, 5, 6] σ σ5 := by
    subst h5; subst h4; subst h3; subst h2; subst h1
    exact fp_tr (fp_fill (by decide)) (fp_tr (fp_fill (by decide)) (fp_tr (fp_fill (by decide)) (fp_tr (fp_fill (by decide)) (fp_fill (by decide)))))
  have g5 : ∀ b, σ5 (p + 5) b = 0 := fun b => by
    rw [h5, fb_fill_ap, if_neg (by omega), h4, fb_fill_ap, if_neg (by omega), h3, fb_fill_ap, if_neg (by omega), h2, fb_fill_ap, if_neg (by omega), h1, fb_fill_ap, if_pos rfl]
  have g6 : ∀ b, σ5 (p + 6) b = 0 := fun b => by
    rw [h5, fb_fill_ap, if_neg (by omega), h4, fb_fill_ap, if_neg (by omega), h3, fb_fill_ap, if_neg (by omega), h2, fb_fill_ap, if_pos rfl]
  have g2 : ∀ b, σ5 (p + 2) b = 100 := fun b => by
    rw [h5, fb_fill_ap, if_neg (by omega), h4, fb_fill_ap, if_neg (by omega), h3, fb_fill_ap, if_pos rfl]
  have g3 : ∀ b, σ5 (p + 3) b = 100 := fun b => by
    rw [h5, fb_fill_ap, if_neg (by omega), h4, fb_fill_ap, if_pos rfl]
  have g4 : ∀ b, σ5 (p + 4) b = -6 := fun b => by
    rw [h5, fb_fill_ap, if_pos rfl]
  refine fb_lp2 (fun i σ' => 0 ≤ i ∧ i ≤ W * H ∧ fp_ p [2, 3, 4, 5, 6] σ σ' ∧ (∀ b, 1 ≤ b → b ≤ 99 → σ' (p + 5) b = cn_ ow b i.toNat ∧ ml_ (fun j => (0 ≤ j ∧ j < i) ∧ ow j = b) h (σ' (p + 2) b) ∧ σ' (p + 6) b = 0) ∧ wo_ σ' p (ps_ W H h ow i)) (fun i _ => (200 - i).toNat) ?_ 0 σ5 ⟨Int.le_refl 0, by omega, hf5, fun b b0 b1 => ⟨g5 b, ⟨fun j hj => by omega, Or.inl (g2 b)⟩, g6 b⟩, fun b b0 b1 => Or.inl ⟨g3 b, g4 b, ?_⟩⟩
  rotate_left
  · rintro o' v' ⟨-, ⟨k, k0, -⟩ | ⟨k, d, k0, -⟩⟩ <;> omega
  clear g2 g3 g4 g5 g6 hf5 h5 h4 h3 h2 h1 σ1 σ2 σ3 σ4 σ5
  rintro i σ1 ⟨i0, i1, hf1, hb1, hw1⟩ r45 hr45
  have hx1 := px_fp hx hf1 (by decide)
  unfold wb_X3_measure_45 wj_X3_measure_114
  rw [hx1.1.2.2.1]
  refine ⟨fun c1 => ⟨i0, by omega, fun v hv => ?_⟩, fun c1 => ?_⟩
  · have hoi := hx1.2.2.2 i i0 c1
    rw [hoi.1] at hv
    have hhi := hx1.2.2.1 i i0 c1
    have ec : ∀ b, cn_ ow b (i + 1).toNat = cn_ ow b i.toNat + (if ow i = b then 1 else 0) := fun b => su_snoc i0
    have old : ∀ b, 1 ≤ b → b ≤ 99 → ow i ≠ b → ∀ σ' : fb_St, σ' (p + 5) b = σ1 (p + 5) b → σ' (p + 2) b = σ1 (p + 2) b → σ' (p + 6) b = σ1 (p + 6) b → σ' (p + 5) b = cn_ ow b (i + 1).toNat ∧ ml_ (fun j => (0 ≤ j ∧ j < i + 1) ∧ ow j = b) h (σ' (p + 2) b) ∧ σ' (p + 6) b = 0 := by
      intro b b0 b1 hn σ' e5 e2 e6
      obtain ⟨a1, a2, a3⟩ := hb1 b b0 b1
      refine ⟨by rw [e5, ec b, if_neg hn, a1]; omega, ?_, by rw [e6]; exact a3⟩
      rw [e2]
      refine ml_same (fun j => ⟨fun q => ?_, fun q => ⟨by omega, q.2⟩⟩) a2
      refine ⟨⟨q.1.1, ?_⟩, q.2⟩
      by_cases e : j = i
      · rw [e] at q; exact absurd q.2 hn
      · omega
    refine ⟨fun z => ?_, fun z => ⟨fun y => ?_, fun y => ⟨by omega, ?_⟩⟩⟩
    · refine sp_passesOverDam hx1 ⟨i0, c1⟩ hw1 (fun σ2 hf2 hs2 => ⟨by omega, ?_⟩)
      refine hr45 _ _ ⟨by omega, by omega, fp_tr hf1 (fp_wk hf2 (by decide)), fun b b0 b1 => old b b0 b1 (by omega) σ2 (by rw [fp_at hf2 5 (by decide)]) (by rw [fp_at hf2 2 (by decide)]) (by rw [fp_at hf2 6 (by decide)]), wo_same (fun b o v => ps_dam i0 (by omega) b o v) hs2⟩ (by omega)
    · have hcb := hb1 v (by omega) (by omega)
      have hcn := su_bd (f := fun j => if ow j = v then 1 else 0) i.toNat (fun j _ _ => by split <;> omega)
      have hcn' : 0 ≤ cn_ ow v i.toNat ∧ cn_ ow v i.toNat ≤ i.toNat := hcn
      refine ⟨by omega, by omega, by omega, by omega, by omega, fun σ2 h2 => ⟨by omega, by omega, i0, by omega, by omega, by omega, fun σ3 h3 => ?_⟩⟩
      have e22 : σ2 (p + 2) = σ1 (p + 2) := by rw [h2, up_at _ _ _ _ _ _ (by decide)]
      have e2h : σ2 2 = σ1 2 := by rw [h2, up_ne _ _ _ (by have := hx.2.1; omega)]
      rw [e22, e2h, hhi.1] at h3
      have hf3 : fp_ p [2, 5] σ1 σ3 := by
        rw [h3]
        refine fp_tr ?_ (fp_up (by decide))
        rw [h2]; exact fp_up (by decide)
      have k5 : σ3 (p + 5) = fun j => if j = v then σ1 (p + 5) v + 1 else σ1 (p + 5) j := by rw [h3, up_at _ _ _ _ _ _ (by decide), h2, up_eq]
      have k2 : σ3 (p + 2) = fun j => if j = v then min (σ1 (p + 2) v) (h i) else σ1 (p + 2) j := by rw [h3, up_eq, e22]
      have hx3 := px_fp hx1 hf3 (by decide)
      have hw3 : wo_ σ3 p (ps_ W H h ow i) := fun b b0 b1 => by rw [fp_at hf3 3 (by decide), fp_at hf3 4 (by decide)]; exact hw1 b b0 b1
      refine sp_passesBeside hx3 ⟨i0, c1⟩ hw3 (fun σ4 hf4 hs4 => ⟨by omega, ?_⟩)
      refine hr45 _ _ ⟨by omega, by omega, fp_tr hf1 (fp_tr (fp_wk hf3 (by decide)) (fp_wk hf4 (by decide))), fun b b0 b1 => ?_, wo_same (fun b o v => ps_own i0 (by omega) b o v) hs4⟩ (by omega)
      have q5 : σ4 (p + 5) b = σ3 (p + 5) b := by rw [fp_at hf4 5 (by decide)]
      have q2 : σ4 (p + 2) b = σ3 (p + 2) b := by rw [fp_at hf4 2 (by decide)]
      have q6 : σ4 (p + 6) b = σ1 (p + 6) b := by rw [fp_at hf4 6 (by decide), fp_at hf3 6 (by decide)]
      by_cases e : b = v
      · rw [q5, q2, q6, k5, k2]
        dsimp only
        rw [if_pos e, if_pos e, ec b, if_pos (by omega)]
        obtain ⟨a1, a2, a3⟩ := hb1 b b0 b1
        rw [← e]
        refine ⟨by omega, ml_ins (b := i) (fun j => ⟨fun q => ?_, fun q => ?_⟩) a2, a3⟩
        · by_cases ej : j = i
          · exact Or.inr ej
          · exact Or.inl ⟨by omega, q.2⟩
        · rcases q with q | q
          · exact ⟨by omega, q.2⟩
          · rw [q]; exact ⟨by omega, by omega⟩
      · refine old b b0 b1 (fun q => e (by omega)) σ4 ?_ ?_ q6
        · rw [q5, k5]; dsimp only; rw [if_neg e]
        · rw [q2, k2]; dsimp only; rw [if_neg e]
    · exact hr45 _ _ ⟨by omega, by omega, hf1, fun b b0 b1 => old b b0 b1 (by omega) σ1 rfl rfl rfl, wo_same (fun b o v => ps_neg i0 (by omega) b o v) hw1⟩ (by omega)
  · have ei : i = W * H := by omega
    subst ei
    refine sp_fillWaters hx1 (fun b b0 b1 => by have := lm_rng (hw1 b b0 b1); omega) (fun b b0 b1 => (hb1 b b0 b1).2.2) (fun σ2 hf2 h6 => ?_)
    refine hq σ2 (fp_tr hf1 (fp_wk hf2 (by decide))) (fun b b0 b1 => ?_)
    rw [h6 b b0 b1, fp_at hf2 5 (by decide), fp_at hf2 2 (by decide), fp_at hf2 3 (by decide), fp_at hf2 4 (by decide)]
    exact ⟨(hb1 b b0 b1).1, (hb1 b b0 b1).2.1, lm_same (ps_end hw.1 b) (hw1 b b0 b1), rfl⟩
end ME2
