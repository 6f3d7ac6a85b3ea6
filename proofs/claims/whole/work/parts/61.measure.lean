/-! ===== the class measures its basins ===== -/
def px_ (W H : Int) (h ow : Int → Int) (p : Nat) (σ : fb_St) : Prop := tv_ W H σ ∧ 17 ≤ p ∧ (∀ j, 0 ≤ j → j < W * H → σ 2 j = h j ∧ 0 ≤ h j ∧ h j ≤ 99) ∧ ∀ j, 0 ≤ j → j < W * H → σ (p + 1) j = ow j ∧ (ow j = -6 ∨ 0 ≤ ow j ∧ ow j ≤ 99)
theorem px_fp {W H : Int} {h ow : Int → Int} {p : Nat} {σ σ' : fb_St} {S : List Nat} (hx : px_ W H h ow p σ) (hf : fp_ p S σ σ') (h1 : 1 ∉ S) : px_ W H h ow p σ' := by
  obtain ⟨a, b, c, d⟩ := hx
  refine ⟨tv_eq a (fp_lt hf (by omega)) (fp_lt hf (by omega)) (fp_lt hf (by omega)), b, ?_, ?_⟩
  · rw [fp_lt hf (show 2 < p by omega)]; exact c
  · rw [fp_at hf 1 h1]; exact d
section MEA
variable {W H : Int} {h ow : Int → Int} {p : Nat} {σ : fb_St} {S : Int → Int → Int → Prop}
theorem ob_le (hx : px_ W H h ow p σ) {i d : Int} (hi : 0 ≤ i ∧ i < W * H) : ob_ W H ow i d ≤ 99 := by
  have hw := tv_wh hx.1
  unfold ob_
  split
  · rename_i c
    have hr := nb_rng d hw.1 hi.1 hi.2
    have := (hx.2.2.2 (nb_ W H i d) (by omega) (by omega)).2
    omega
  · omega
theorem sp_passesOverDam {i : Int} (hx : px_ W H h ow p σ) (hi : 0 ≤ i ∧ i < W * H) (hs : wo_ σ p S) {Q : Int → fb_St → Prop}
    (hq : ∀ σ', fp_ p [3, 4] σ σ' → wo_ σ' p (fun b o v => S b o v ∨ ((0 < b ∧ 0 < o ∧ b ≠ o) ∧ v = h i ∧ ∃ d d', (0 ≤ d ∧ d < 4) ∧ (0 ≤ d' ∧ d' < 4) ∧ ob_ W H ow i d = b ∧ ob_ W H ow i d' = o)) → Q 0 σ') : wp_X3_passesOverDam p i σ Q := by
  have hw := tv_wh hx.1
  have hhi := hx.2.2.1 i hi.1 hi.2
  let D : Int → Int → Int → Int → Int → Prop := fun s l b o v => (0 < b ∧ 0 < o ∧ b ≠ o) ∧ v = h i ∧ ∃ d d', 0 ≤ d ∧ d < d' ∧ d' < 4 ∧ (d < s ∨ d = s ∧ d' < l) ∧ (ob_ W H ow i d = b ∧ ob_ W H ow i d' = o ∨ ob_ W H ow i d = o ∧ ob_ W H ow i d' = b)
  have Dend : ∀ b o v, D 4 0 b o v ↔ ((0 < b ∧ 0 < o ∧ b ≠ o) ∧ v = h i ∧ ∃ d d', (0 ≤ d ∧ d < 4) ∧ (0 ≤ d' ∧ d' < 4) ∧ ob_ W H ow i d = b ∧ ob_ W H ow i d' = o) := by
    intro b o v
    constructor
    · rintro ⟨z1, z2, d, d', q0, q1, q2, -, q3 | q3⟩
      · exact ⟨z1, z2, d, d', by omega, by omega, q3.1, q3.2⟩
      · exact ⟨z1, z2, d', d, by omega, by omega, q3.2, q3.1⟩
    · rintro ⟨z1, z2, d, d', q0, q1, q2, q3⟩
      have hne : d ≠ d' := fun e => z1.2.2 (by rw [← q2, ← q3, e])
      by_cases e : d < d'
      · exact ⟨z1, z2, d, d', q0.1, e, q1.2, by omega, Or.inl ⟨q2, q3⟩⟩
      · exact ⟨z1, z2, d', d, q1.1, by omega, q0.2, by omega, Or.inr ⟨q3, q2⟩⟩
  unfold wp_X3_passesOverDam
  refine ⟨hi.1, by omega, fun v4 hv4 => ?_⟩
  rw [hhi.1] at hv4
  subst hv4
  refine fb_lp4 (fun x2 x3 s σ' => i = x2 ∧ h i = x3 ∧ 0 ≤ s ∧ s ≤ 4 ∧ fp_ p [3, 4] σ σ' ∧ wo_ σ' p (fun b o v => S b o v ∨ D s 0 b o v)) (fun _ _ s _ => (4 - s).toNat) ?_ i (h i) 0 σ ⟨rfl, rfl, Int.le_refl 0, by omega, fp_rf, wo_same (fun b o v => ⟨fun q => q.elim id (fun ⟨_, _, d, d', q0, q1, q2, q3, _⟩ => by omega), Or.inl⟩) hs⟩
  rintro x2 x3 s σ1 ⟨rfl, rfl, s0, s1, hf1, hs1⟩ r10 hr10
  have hx1 := px_fp hx hf1 (by decide)
  unfold wb_X3_passesOverDam_10
  refine ⟨fun c1 => sp_basinBeside (ow := ow) hx1.1 hi ⟨s0, c1⟩ (fun j j0 j1 => (hx1.2.2.2 j j0 j1).1) ⟨by omega, ?_⟩, fun c1 => ?_⟩
  · have hos := ob_or (W := W) (H := H) (ow := ow) i s
    have hol := ob_le hx (d := s) hi
    refine fb_lp6 (fun y2 y3 y4 y5 l σ' => i = y2 ∧ h i = y3 ∧ s = y4 ∧ ob_ W H ow i s = y5 ∧ s < l ∧ l ≤ 4 ∧ fp_ p [3, 4] σ σ' ∧ wo_ σ' p (fun b o v => S b o v ∨ D s l b o v)) (fun _ _ _ _ l _ => (4 - l).toNat) ?_ i (h i) s _ (s + 1) σ1 ⟨rfl, rfl, rfl, rfl, by omega, by omega, hf1, wo_same (fun b o v => or_congr Iff.rfl ⟨fun ⟨z1, z2, d, d', q0, q1, q2, q3, q4⟩ => ⟨z1, z2, d, d', q0, q1, q2, by omega, q4⟩, fun ⟨z1, z2, d, d', q0, q1, q2, q3, q4⟩ => ⟨z1, z2, d, d', q0, q1, q2, by omega, q4⟩⟩) hs1⟩
    rintro y2 y3 y4 y5 l σ2 ⟨rfl, rfl, rfl, rfl, l0, l1, hf2, hs2⟩ r35 hr35
    have hx2 := px_fp hx hf2 (by decide)
    unfold wb_X3_passesOverDam_35 wj_X3_passesOverDam_72
    have nxt : (ob_ W H ow i s = -6 ∨ l = 4) → fb_in (s + 1) ∧ r10 i (h i) (s + 1) σ2 := by
      intro z
      refine ⟨by omega, hr10 _ _ _ _ ⟨rfl, rfl, by omega, by omega, hf2, wo_same (fun b o v => or_congr Iff.rfl ⟨fun hD => ?_, fun hD => ?_⟩) hs2⟩ (by omega)⟩
      · obtain ⟨z1, z2, d, d', q0, q1, q2, q3, q4⟩ := hD
        refine ⟨z1, z2, d, d', q0, q1, q2, ?_, q4⟩
        rcases z with z | z
        · by_cases e : d = s
          · rw [e] at q4
            exfalso
            rcases q4 with ⟨q, -⟩ | ⟨q, -⟩
            · have := z1.1; omega
            · have := z1.2.1; omega
          · omega
        · omega
      · obtain ⟨z1, z2, d, d', q0, q1, q2, q3, q4⟩ := hD
        exact ⟨z1, z2, d, d', q0, q1, q2, by omega, q4⟩
    refine ⟨fun z => nxt (Or.inl z), fun z => ⟨fun c2 => sp_basinBeside (ow := ow) hx2.1 hi ⟨by omega, c2⟩ (fun j j0 j1 => (hx2.2.2.2 j j0 j1).1) ?_, fun c2 => nxt (Or.inr (by omega))⟩⟩
    have hol2 := ob_le hx (d := l) hi
    refine sp_notePass hs2 hol hol2 ⟨hhi.2.1, hhi.2.2⟩ (fun σ3 hf3 hs3 => ⟨by omega, ?_⟩)
    refine hr35 _ _ _ _ _ _ ⟨rfl, rfl, rfl, rfl, by omega, by omega, fp_tr hf2 hf3, wo_same (fun b o v => ?_) hs3⟩ (by omega)
    constructor
    · rintro (q | ⟨z1, z2, d, d', q0, q1, q2, q3, q4⟩)
      · exact Or.inl (Or.inl q)
      · by_cases e : d = s ∧ d' = l
        · obtain ⟨rfl, rfl⟩ := e
          rcases q4 with ⟨e1, e2⟩ | ⟨e1, e2⟩
          · exact Or.inr ⟨by rw [e1, e2]; exact z1, z2, Or.inl ⟨e1.symm, e2.symm⟩⟩
          · exact Or.inr ⟨by rw [e1, e2]; exact ⟨z1.2.1, z1.1, fun q => z1.2.2 q.symm⟩, z2, Or.inr ⟨e2.symm, e1.symm⟩⟩
        · exact Or.inl (Or.inr ⟨z1, z2, d, d', q0, q1, q2, by omega, q4⟩)
    · rintro ((q | ⟨z1, z2, d, d', q0, q1, q2, q3, q4⟩) | ⟨z1, z2, ⟨e1, e2⟩ | ⟨e1, e2⟩⟩)
      · exact Or.inl q
      · exact Or.inr ⟨z1, z2, d, d', q0, q1, q2, by omega, q4⟩
      · exact Or.inr ⟨by rw [e1, e2]; exact z1, z2, s, l, s0, l0, c2, by omega, Or.inl ⟨e1.symm, e2.symm⟩⟩
      · exact Or.inr ⟨by rw [e1, e2]; exact ⟨z1.2.1, z1.1, fun q => z1.2.2 q.symm⟩, z2, s, l, s0, l0, c2, by omega, Or.inr ⟨e2.symm, e1.symm⟩⟩
  · refine hq σ1 hf1 (wo_same (fun b o v => ?_) hs1)
    rw [show s = 4 by omega]
    exact or_congr Iff.rfl (Dend b o v).symm
theorem sp_passesBeside {i : Int} (hx : px_ W H h ow p σ) (hi : 0 ≤ i ∧ i < W * H) (hs : wo_ σ p S) {Q : Int → fb_St → Prop}
    (hq : ∀ σ', fp_ p [3, 4] σ σ' → wo_ σ' p (fun b o v => S b o v ∨ ((0 < b ∧ 0 < o ∧ b ≠ o) ∧ ∃ d, (0 ≤ d ∧ d < 2) ∧ nb_ W H i d ≠ -1 ∧ v = max (h i) (h (nb_ W H i d)) ∧ (ow i = b ∧ ow (nb_ W H i d) = o ∨ ow i = o ∧ ow (nb_ W H i d) = b))) → Q 0 σ') : wp_X3_passesBeside p i σ Q := by
  have hw := tv_wh hx.1
  let D : Int → Int → Int → Int → Prop := fun s b o v => (0 < b ∧ 0 < o ∧ b ≠ o) ∧ ∃ d, (0 ≤ d ∧ d < s) ∧ nb_ W H i d ≠ -1 ∧ v = max (h i) (h (nb_ W H i d)) ∧ (ow i = b ∧ ow (nb_ W H i d) = o ∨ ow i = o ∧ ow (nb_ W H i d) = b)
  unfold wp_X3_passesBeside
  refine fb_lp3 (fun x2 s σ' => i = x2 ∧ 0 ≤ s ∧ s ≤ 2 ∧ fp_ p [3, 4] σ σ' ∧ wo_ σ' p (fun b o v => S b o v ∨ D s b o v)) (fun _ s _ => (4 - s).toNat) ?_ i 0 σ ⟨rfl, Int.le_refl 0, by omega, fp_rf, wo_same (fun b o v => ⟨fun q => q.elim id (fun ⟨_, d, q0, _⟩ => by omega), Or.inl⟩) hs⟩
  rintro x2 s σ1 ⟨rfl, s0, s1, hf1, hs1⟩ r2 hr2
  have hx1 := px_fp hx hf1 (by decide)
  have hr := nb_rng s hw.1 hi.1 hi.2
  unfold wb_X3_passesBeside_2 wj_X3_passesBeside_58
  refine ⟨fun c1 => sp_neighbour (by omega) (by omega) ?_, fun c1 => hq σ1 hf1 (by rw [show s = 2 by omega] at hs1; exact hs1)⟩
  rw [hx1.1.2.2.2.2.2.2 i s hi.1 hi.2 s0 (by omega)]
  refine ⟨fun z => ⟨by omega, hr2 _ _ _ ⟨rfl, by omega, by omega, hf1, wo_same (fun b o v => or_congr Iff.rfl ⟨fun hD => ?_, fun hD => ?_⟩) hs1⟩ (by omega)⟩, fun z => ⟨hi.1, by omega, by omega, by omega, fun v10 hv10 => ⟨hi.1, by omega, by omega, by omega, ?_⟩⟩⟩
  · obtain ⟨z1, d, q0, q1, q2⟩ := hD
    refine ⟨z1, d, ⟨q0.1, ?_⟩, q1, q2⟩
    by_cases e : d = s
    · rw [e] at q1; exact absurd z q1
    · omega
  · obtain ⟨z1, d, q0, q1, q2⟩ := hD
    exact ⟨z1, d, by omega, q1, q2⟩
  · have h1 := hx1.2.2.1 i hi.1 hi.2
    have h2 := hx1.2.2.1 (nb_ W H i s) (by omega) (by omega)
    have o1 := hx1.2.2.2 i hi.1 hi.2
    have o2 := hx1.2.2.2 (nb_ W H i s) (by omega) (by omega)
    rw [h1.1, h2.1] at hv10
    rw [o1.1, o2.1]
    refine sp_notePass hs1 (by omega) (by omega) (by omega) (fun σ2 hf2 hs2 => ⟨by omega, ?_⟩)
    refine hr2 _ _ _ ⟨rfl, by omega, by omega, fp_tr hf1 hf2, wo_same (fun b o v => ?_) hs2⟩ (by omega)
    constructor
    · rintro (q | ⟨z1, d, q0, q1, q2, q3⟩)
      · exact Or.inl (Or.inl q)
      · by_cases e : d = s
        · subst e
          rcases q3 with ⟨e1, e2⟩ | ⟨e1, e2⟩
          · exact Or.inr ⟨by rw [e1, e2]; exact z1, by rw [hv10]; exact q2, Or.inl ⟨e1.symm, e2.symm⟩⟩
          · exact Or.inr ⟨by rw [e1, e2]; exact ⟨z1.2.1, z1.1, fun q => z1.2.2 q.symm⟩, by rw [hv10]; exact q2, Or.inr ⟨e2.symm, e1.symm⟩⟩
        · exact Or.inl (Or.inr ⟨z1, d, by omega, q1, q2, q3⟩)
    · rintro ((q | ⟨z1, d, q0, q1, q2, q3⟩) | ⟨z1, z2, ⟨e1, e2⟩ | ⟨e1, e2⟩⟩)
      · exact Or.inl q
      · exact Or.inr ⟨z1, d, by omega, q1, q2, q3⟩
      · exact Or.inr ⟨by rw [e1, e2]; exact z1, s, by omega, z, by rw [z2, hv10], Or.inl ⟨e1.symm, e2.symm⟩⟩
      · exact Or.inr ⟨by rw [e1, e2]; exact ⟨z1.2.1, z1.1, fun q => z1.2.2 q.symm⟩, s, by omega, z, by rw [z2, hv10], Or.inr ⟨e2.symm, e1.symm⟩⟩
theorem su_max {f : Int → Int} : ∀ n : Nat, (∀ j : Int, 0 ≤ j → j < n → 0 ≤ f j ∧ f j ≤ 100) → 0 ≤ su_ f n ∧ su_ f n ≤ 100 * n := by
  intro n
  induction n with
  | zero => intro _; exact ⟨Int.le_refl 0, Int.le_refl 0⟩
  | succ n ih =>
    intro hf
    have h1 := ih (fun j q0 q1 => hf j q0 (by omega))
    have h2 := hf n (by omega) (by omega)
    show 0 ≤ su_ f n + f n ∧ su_ f n + f n ≤ 100 * ((n + 1 : Nat) : Int)
    omega
theorem sp_fillWaters (hx : px_ W H h ow p σ) (hl : ∀ b, 1 ≤ b → b ≤ 99 → 0 ≤ σ (p + 3) b ∧ σ (p + 3) b ≤ 100) (h6 : ∀ b, 1 ≤ b → b ≤ 99 → σ (p + 6) b = 0) {Q : Int → fb_St → Prop}
    (hq : ∀ σ', fp_ p [6] σ σ' → (∀ b, 1 ≤ b → b ≤ 99 → σ' (p + 6) b = if σ (p + 3) b = 100 then 0 else wa_ h ow (σ (p + 3) b) b (W * H).toNat) → Q 0 σ') : wp_X3_fillWaters p σ Q := by
  have hw := tv_wh hx.1
  unfold wp_X3_fillWaters
  refine fb_lp2 (fun i σ' => 0 ≤ i ∧ i ≤ W * H ∧ fp_ p [6] σ σ' ∧ ∀ b, 1 ≤ b → b ≤ 99 → σ' (p + 6) b = if σ (p + 3) b = 100 then 0 else wa_ h ow (σ (p + 3) b) b i.toNat) (fun i _ => (200 - i).toNat) ?_ 0 σ ⟨Int.le_refl 0, by omega, fp_rf, fun b b0 b1 => by rw [h6 b b0 b1]; split <;> rfl⟩
  rintro i σ1 ⟨i0, i1, hf1, hb1⟩ r2 hr2
  have hx1 := px_fp hx hf1 (by decide)
  unfold wb_X3_fillWaters_2 wj_X3_fillWaters_58
  rw [hx1.1.2.2.1]
  refine ⟨fun c1 => ⟨i0, by omega, fun v6 hv6 => ?_⟩, fun c1 => hq σ1 hf1 (by rw [show i = W * H by omega] at hb1; exact hb1)⟩
  have hoi := hx1.2.2.2 i i0 c1
  rw [hoi.1] at hv6
  have hhi := hx1.2.2.1 i i0 c1
  have es : ∀ b, wa_ h ow (σ (p + 3) b) b (i + 1).toNat = wa_ h ow (σ (p + 3) b) b i.toNat + (if ow i = b then max (σ (p + 3) b - h i) 0 else 0) := fun b => su_snoc i0
  have same : (∀ b, 1 ≤ b → b ≤ 99 → ow i = b → σ (p + 3) b = 100) → fb_in (i + 1) ∧ r2 (i + 1) σ1 := fun z => ⟨by omega, hr2 _ _ ⟨by omega, by omega, hf1, fun b b0 b1 => by
    rw [hb1 b b0 b1]
    by_cases e : σ (p + 3) b = 100
    · rw [if_pos e, if_pos e]
    · rw [if_neg e, if_neg e, es b, if_neg (fun q => e (z b b0 b1 q))]; omega⟩ (by omega)⟩
  rw [fp_at hf1 3 (by decide)]
  refine ⟨fun z => ⟨by omega, by omega, fun y => same (fun b b0 b1 e => by rw [← e, ← hv6]; exact y), fun y => ?_⟩, fun z => same (fun b b0 b1 e => by omega)⟩
  have hlb := hl v6 (by omega) (by omega)
  have h6b := hb1 v6 (by omega) (by omega)
  rw [if_neg y] at h6b
  have hmx := su_max (f := fun j => if ow j = v6 then max (σ (p + 3) v6 - h j) 0 else 0) i.toNat (fun j j0 j1 => by
    have := hx1.2.2.1 j j0 (by omega)
    split <;> omega)
  have hmx' : 0 ≤ wa_ h ow (σ (p + 3) v6) v6 i.toNat ∧ wa_ h ow (σ (p + 3) v6) v6 i.toNat ≤ 100 * i.toNat := hmx
  rw [hhi.1]
  refine ⟨by omega, by omega, by omega, by omega, i0, by omega, by omega, by omega, by omega, by omega, fun σ2 h2 => ⟨by omega, ?_⟩⟩
  refine hr2 _ _ ⟨by omega, by omega, fp_tr hf1 (by rw [h2]; exact fp_up (by decide)), fun b b0 b1 => ?_⟩ (by omega)
  rw [h2, up_eq]
  dsimp only
  by_cases e : b = v6
  · rw [if_pos e, e, if_neg y, es v6, if_pos hv6.symm, h6b]
  · rw [if_neg e, hb1 b b0 b1]
    have en : ¬ ow i = b := fun q => e (by rw [hv6]; exact q.symm)
    split
    · rfl
    · rw [es b, if_neg en]; omega
end MEA
