/-! ===== the model looks at its basins ===== -/
def mx_ (W H : Int) (h ow : Int → Int) (σ : fb_St) : Prop := mv_ W H σ ∧ (∀ j, 0 ≤ j → j < W * H → σ 49 j = h j ∧ 0 ≤ h j ∧ h j ≤ 99) ∧ ∀ j, 0 ≤ j → j < W * H → σ 60 j = ow j ∧ (ow j = -6 ∨ 0 ≤ ow j ∧ ow j ≤ 99)
theorem mx_fr {W H : Int} {h ow : Int → Int} {σ σ' : fb_St} {S : List Nat} (hx : mx_ W H h ow σ) (hf : fr_ S σ σ') (h1 : 49 ∉ S) (h2 : 60 ∉ S) : mx_ W H h ow σ' := by
  obtain ⟨a, b, c⟩ := hx
  refine ⟨mv_eq a (hf 49 h1), ?_, ?_⟩
  · rw [hf 49 h1]; exact b
  · rw [hf 60 h2]; exact c
section MPA
variable {W H : Int} {h ow : Int → Int} {σ : fb_St}
theorem sm_dotsOf {oo : Nat} {b : Int} (hm : mv_ W H σ) (ho : ∀ j, 0 ≤ j → j < W * H → σ oo j = ow j) {Q : Int → fb_St → Prop} (hq : Q (cn_ ow b (W * H).toNat) σ) : wp_X7_dotsOf oo b σ Q := by
  have hw := mv_wh hm
  unfold wp_X7_dotsOf
  refine fb_lp4 (fun x2 n i σ' => b = x2 ∧ σ = σ' ∧ 0 ≤ i ∧ i ≤ W * H ∧ n = cn_ ow b i.toNat) (fun _ _ i _ => (200 - i).toNat) ?_ b 0 0 σ ⟨rfl, rfl, Int.le_refl 0, by omega, rfl⟩
  rintro x2 n i σ' ⟨rfl, rfl, i0, i1, rfl⟩ r5 hr5
  have es : cn_ ow b (i + 1).toNat = cn_ ow b i.toNat + (if ow i = b then 1 else 0) := su_snoc i0
  have hb : 0 ≤ cn_ ow b i.toNat ∧ cn_ ow b i.toNat ≤ i.toNat := su_bd (f := fun j => if ow j = b then 1 else 0) i.toNat (fun j _ _ => by split <;> omega)
  unfold wb_X7_dotsOf_5 wj_X7_dotsOf_28
  refine sm_dots hm ⟨fun c => ⟨i0, by omega, ?_⟩, fun c => by rw [show i = W * H by omega]; exact hq⟩
  rw [ho i i0 c]
  refine ⟨fun z => ⟨by omega, fun v hv => ⟨by omega, hr5 _ _ _ _ ⟨rfl, rfl, by omega, by omega, by rw [es, if_pos z]; exact hv⟩ (by omega)⟩⟩, fun z => ⟨by omega, fun v hv => ⟨by omega, hr5 _ _ _ _ ⟨rfl, rfl, by omega, by omega, by rw [es, if_neg z]; exact hv⟩ (by omega)⟩⟩⟩
theorem ob_is {i d b : Int} (hb : 0 < b) : ob_ W H ow i d = b ↔ nb_ W H i d ≠ -1 ∧ ow (nb_ W H i d) = b := by
  unfold ob_
  constructor
  · intro q; split at q
    · rename_i c; exact ⟨c.1, q⟩
    · omega
  · intro q; rw [if_pos ⟨q.1, by omega⟩]; exact q.2
theorem sm_hasBeside {i b : Int} (hx : mx_ W H h ow σ) (hi : 0 ≤ i ∧ i < W * H) (hb : 0 < b) {Q : Int → fb_St → Prop} (h1 : (∃ d, (0 ≤ d ∧ d < 4) ∧ ob_ W H ow i d = b) → Q 1 σ) (h0 : (¬ ∃ d, (0 ≤ d ∧ d < 4) ∧ ob_ W H ow i d = b) → Q 0 σ) : wp_X7_hasBeside i b σ Q := by
  have hw := mv_wh hx.1
  unfold wp_X7_hasBeside
  refine fb_lp5 (fun x1 x2 x3 d σ' => i = x1 ∧ b = x2 ∧ σ = σ' ∧ 0 ≤ d ∧ d ≤ 4 ∧ (x3 = 0 ∨ x3 = 1) ∧ (x3 = 1 ↔ ∃ e, (0 ≤ e ∧ e < d) ∧ ob_ W H ow i e = b)) (fun _ _ _ d _ => (4 - d).toNat) ?_ i b 0 0 σ ⟨rfl, rfl, rfl, Int.le_refl 0, by omega, Or.inl rfl, ⟨fun q => by omega, fun ⟨e, q, _⟩ => by omega⟩⟩
  rintro x1 x2 x3 d σ' ⟨rfl, rfl, rfl, d0, d1, hB, hi3⟩ r5 hr5
  unfold wb_X7_hasBeside_5 wj_X7_hasBeside_44 wj_X7_hasBeside_40 wj_X7_hasBeside_45
  refine ⟨fun c => ?_, fun c => ⟨hB, ?_⟩⟩
  · have yes : (x3 = 1 ∨ ob_ W H ow i d = b) → fb_in (d + 1) ∧ r5 i b 1 (d + 1) σ := fun z => ⟨by omega, hr5 _ _ _ _ _ ⟨rfl, rfl, rfl, by omega, by omega, Or.inr rfl, ⟨fun _ => by
      rcases z with z | z
      · obtain ⟨e, e0, e1⟩ := hi3.mp z; exact ⟨e, by omega, e1⟩
      · exact ⟨d, by omega, z⟩, fun _ => rfl⟩⟩ (by omega)⟩
    have no : x3 = 0 → ob_ W H ow i d ≠ b → fb_in (d + 1) ∧ r5 i b 0 (d + 1) σ := fun z y => ⟨by omega, hr5 _ _ _ _ _ ⟨rfl, rfl, rfl, by omega, by omega, Or.inl rfl, ⟨fun q => by omega, fun ⟨e, e0, e1⟩ => by
      by_cases ee : e = d
      · rw [ee] at e1; exact absurd e1 y
      · have := hi3.mpr ⟨e, by omega, e1⟩; omega⟩⟩ (by omega)⟩
    refine sm_beside hx.1 hi.1 hi.2 ⟨d0, c⟩ (fun n1 => ⟨fun z => ⟨fun _ => no z (fun q => ((ob_is hb).mp q).1 n1), fun z => by omega⟩, fun z => yes (Or.inl (by omega))⟩) (fun n0 n1 => ⟨fun z => ⟨fun y => by omega, fun _ => ⟨n0, by omega, ?_⟩⟩, fun z => yes (Or.inl (by omega))⟩)
    rw [(hx.2.2 _ n0 n1).1]
    exact ⟨fun y => yes (Or.inr ((ob_is hb).mpr ⟨by omega, y⟩)), fun y => no z (fun q => y ((ob_is hb).mp q).2)⟩
  · rw [show d = 4 by omega] at hi3
    rcases hB with z | z
    · rw [z]; exact h0 (fun q => by have := hi3.mpr q; omega)
    · rw [z]; exact h1 (hi3.mp z)
theorem sm_lesser {u x : Int} (hu : 0 ≤ u ∧ u ≤ 100) (hx : 0 ≤ x ∧ x ≤ 99) {Q : Int → fb_St → Prop} (hq : Q (en_ (min u x)) σ) : wp_X7_lesser (en_ u) x σ Q := by
  have e1 : en_ (min u x) = min u x := by unfold en_; rw [if_neg (by omega)]
  rw [e1] at hq
  have eu : en_ u < 0 ↔ u = 100 := by unfold en_; split <;> omega
  have eu2 : u ≠ 100 → en_ u = u := fun z => by unfold en_; rw [if_neg z]
  unfold wp_X7_lesser wj_X7_lesser_13 wj_X7_lesser_17 wj_X7_lesser_18
  refine ⟨fun z => ?_, fun z => ?_⟩
  · rw [show min u x = x by have := eu.mp z; omega] at hq; exact hq
  · have e2 := eu2 (fun q => z (eu.mpr q))
    rw [e2]
    refine ⟨fun y => by omega, fun _ => ⟨fun y => ?_, fun y => ?_⟩⟩
    · rw [show min u x = x by omega] at hq; exact hq
    · rw [show min u x = u by omega] at hq; exact hq
/-- passes of one basin, while they are laid -/
def pq_ (W H : Int) (h ow : Int → Int) (b i d o x : Int) : Prop := (0 < b ∧ 0 < o ∧ b ≠ o) ∧ ∃ k e, (0 ≤ k ∧ k < W * H) ∧ (0 ≤ e ∧ e < 4) ∧ (k < i ∨ k = i ∧ e < d) ∧ ob_ W H ow k e = o ∧ ((ow k = 0 ∧ (∃ d1, (0 ≤ d1 ∧ d1 < 4) ∧ ob_ W H ow k d1 = b) ∧ x = h k) ∨ (ow k = b ∧ x = max (h k) (h (nb_ W H k e))))
theorem pq_end (b o x : Int) : pn_ W H h ow b o x ↔ pq_ W H h ow b (W * H) 0 o x := by
  constructor
  · rintro ⟨z, ⟨k, k0, e0, e1, d, d', d0, d1, e2, e3⟩ | ⟨k, d, k0, d0, n0, e1, e2, e3⟩⟩
    · exact ⟨z, k, d', k0, d1, Or.inl k0.2, e3, Or.inl ⟨e0, ⟨d, d0, e2⟩, e1⟩⟩
    · exact ⟨z, k, d, k0, d0, Or.inl k0.2, (ob_is z.2.1).mpr ⟨n0, e3⟩, Or.inr ⟨e2, e1⟩⟩
  · rintro ⟨z, k, e, k0, e0, -, e1, ⟨f1, ⟨d1, f2, f3⟩, f4⟩ | ⟨f1, f2⟩⟩
    · exact ⟨z, Or.inl ⟨k, k0, f1, f4, d1, e, f2, e0, f3, e1⟩⟩
    · have := (ob_is z.2.1).mp e1
      exact ⟨z, Or.inr ⟨k, e, k0, e0, this.1, f2, f1, this.2⟩⟩
def lp_ (σ : fb_St) (S : Int → Int → Prop) : Prop := ∀ o, 1 ≤ o → o ≤ 99 → ∃ u, (0 ≤ u ∧ u ≤ 100) ∧ σ 65 o = en_ u ∧ ml_ (fun x => S o x) (fun x => x) u
theorem lp_same {S S' : Int → Int → Prop} (hS : ∀ o x, S' o x ↔ S o x) (a : lp_ σ S) : lp_ σ S' := fun o o0 o1 => by
  obtain ⟨u, u0, u1, u2⟩ := a o o0 o1
  exact ⟨u, u0, u1, ml_same (hS o) u2⟩
theorem sm_layPasses {b : Int} (hx : mx_ W H h ow σ) (hb : 1 ≤ b ∧ b ≤ 99) {Q : Int → fb_St → Prop} (hq : ∀ σ', fr_ [65] σ σ' → lp_ σ' (pn_ W H h ow b) → Q 0 σ') : wp_X7_layPasses b σ Q := by
  have hw := mv_wh hx.1
  unfold wp_X7_layPasses
  refine fb_lp3 (fun x1 o σ' => b = x1 ∧ 1 ≤ o ∧ o ≤ 100 ∧ fr_ [65] σ σ' ∧ ∀ q, 1 ≤ q → q < o → σ' 65 q = -6) (fun _ o _ => (100 - o).toNat) ?_ b 1 σ ⟨rfl, by omega, by omega, fr_rf, fun q q0 q1 => by omega⟩
  rintro x1 o σ1 ⟨rfl, o0, o1, hf1, hz⟩ r2 hr2
  unfold wb_X7_layPasses_2
  refine ⟨fun c => ⟨by omega, c, fun σ2 h2 => ⟨by omega, ?_⟩⟩, fun c => ?_⟩
  · refine hr2 _ _ _ ⟨rfl, by omega, by omega, fr_tr hf1 (by rw [h2]; exact fr_up (by decide)), fun q q0 q1 => ?_⟩ (by omega)
    rw [h2, up_eq]; dsimp only
    split
    · rfl
    · exact hz q q0 (by omega)
  refine fb_lp3 (fun x1 i σ' => b = x1 ∧ 0 ≤ i ∧ i ≤ W * H ∧ fr_ [65] σ σ' ∧ lp_ σ' (pq_ W H h ow b i 0)) (fun _ i _ => (200 - i).toNat) ?_ b 0 σ1 ⟨rfl, Int.le_refl 0, by omega, hf1, fun q q0 q1 => ⟨100, by omega, hz q q0 (by omega), fun x ⟨_, k, e, k0, e0, k1, _⟩ => by omega, Or.inl rfl⟩⟩
  clear hz hf1 c hr2 o0 o1 o σ1
  rintro x1 i σ1 ⟨rfl, i0, i1, hf1, hl1⟩ r24 hr24
  have hx1 := mx_fr hx hf1 (by decide) (by decide)
  unfold wb_X7_layPasses_24 wj_X7_layPasses_54 wj_X7_layPasses_55
  refine sm_dots hx1.1 ⟨fun c => ?_, fun c => ?_⟩
  · have hoi := hx1.2.2 i i0 c
    -- the loop over sides: dam is 1 if the dot is a dam beside b
    have inner : ∀ dam : Int, (dam = 0 ∨ dam = 1) → (dam = 1 → ow i = 0 ∧ ∃ d1, (0 ≤ d1 ∧ d1 < 4) ∧ ob_ W H ow i d1 = b) → (dam = 0 → ¬ (ow i = 0 ∧ ∃ d1, (0 ≤ d1 ∧ d1 < 4) ∧ ob_ W H ow i d1 = b)) → ∃ n, wl_X7_layPasses_59 r24 Q n b i dam 0 σ1 := by
      intro dam hd hd1 hd0
      refine fb_lp5 (fun y1 y2 y3 d σ' => b = y1 ∧ i = y2 ∧ dam = y3 ∧ 0 ≤ d ∧ d ≤ 4 ∧ fr_ [65] σ σ' ∧ lp_ σ' (pq_ W H h ow b i d)) (fun _ _ _ d _ => (4 - d).toNat) ?_ b i dam 0 σ1 ⟨rfl, rfl, rfl, Int.le_refl 0, by omega, hf1, hl1⟩
      rintro y1 y2 y3 d σ2 ⟨rfl, rfl, rfl, d0, d1, hf2, hl2⟩ r59 hr59
      have hx2 := mx_fr hx hf2 (by decide) (by decide)
      have hoi2 := hx2.2.2 i i0 c
      have none : (¬ (ow i = 0 ∧ ∃ d1, (0 ≤ d1 ∧ d1 < 4) ∧ ob_ W H ow i d1 = b) ∧ ow i ≠ b ∨ d = 4) → wj_X7_layPasses_176 r24 Q b i σ2 := by
        intro z
        unfold wj_X7_layPasses_176
        refine ⟨by omega, hr24 _ _ _ ⟨rfl, by omega, by omega, hf2, lp_same (fun o x => ⟨fun hD => ?_, fun hD => ?_⟩) hl2⟩ (by omega)⟩
        · obtain ⟨q0, k, e, q1, q2, q3, q4, q5⟩ := hD
          refine ⟨q0, k, e, q1, q2, ?_, q4, q5⟩
          rcases z with z | z
          · by_cases ek : k = i
            · rw [ek] at q5; exact absurd q5 (fun q => q.elim (fun y => z.1 ⟨y.1, y.2.1⟩) (fun y => z.2 y.1))
            · clear q5; omega
          · clear q5; omega
        · obtain ⟨q0, k, e, q1, q2, q3, q4⟩ := hD
          exact ⟨q0, k, e, q1, q2, (by clear q4; omega), q4⟩
      have step : d < 4 → (dam = 1 ∨ ow i = b) → wj_X7_layPasses_79 r24 r59 Q b i dam d σ2 := by
        intro c2 hcase
        unfold wj_X7_layPasses_79 wj_X7_layPasses_166 wj_X7_layPasses_170
        have same : ¬ (0 < ob_ W H ow i d ∧ ob_ W H ow i d ≠ b) → fb_in (d + 1) ∧ r59 b i dam (d + 1) σ2 := by
          intro z
          refine ⟨by omega, hr59 _ _ _ _ _ ⟨rfl, rfl, rfl, by omega, by omega, hf2, lp_same (fun o x => ⟨fun hD => ?_, fun hD => ?_⟩) hl2⟩ (by omega)⟩
          · obtain ⟨q0, k, e, q1, q2, q3, q4, q5⟩ := hD
            refine ⟨q0, k, e, q1, q2, ?_, q4, q5⟩
            by_cases ek : k = i ∧ e = d
            · rw [ek.1, ek.2] at q4; exact absurd ⟨(by clear q5; omega), fun q => q0.2.2 (by rw [← q, q4])⟩ z
            · clear q5; omega
          · obtain ⟨q0, k, e, q1, q2, q3, q4⟩ := hD
            exact ⟨q0, k, e, q1, q2, (by clear q4; omega), q4⟩
        have hr := nb_rng d hw.1 i0 c
        refine sm_beside hx2.1 i0 c ⟨d0, c2⟩ (fun n1 => ⟨fun _ => same (fun q => ?_), fun z => by omega⟩) (fun n0 n1 => ⟨fun z => by omega, fun _ => ⟨n0, by omega, ?_⟩⟩)
        · have : ob_ W H ow i d = -6 := by unfold ob_; rw [if_neg (by omega)]
          omega
        · have hon := hx2.2.2 _ n0 n1
          rw [hon.1]
          have hob : 0 < ow (nb_ W H i d) → ob_ W H ow i d = ow (nb_ W H i d) := fun q => by unfold ob_; rw [if_pos ⟨by omega, q⟩]
          refine ⟨fun p => ⟨n0, by omega, fun e => same (fun q => q.2 (by rw [hob p]; exact e)), fun e => ⟨n0, by omega, n0, by omega, by omega, by omega, ?_⟩⟩, fun p => same (fun q => ?_)⟩
          · obtain ⟨u, u0, u1, u2⟩ := hl2 (ow (nb_ W H i d)) (by omega) (by omega)
            rw [u1]
            have fin : ∀ xv, 0 ≤ xv ∧ xv ≤ 99 → (dam = 1 → xv = h i) → (dam = 0 → xv = max (h i) (h (nb_ W H i d))) → wp_X7_lesser (en_ u) xv σ2 (fun a52 σ52 => 0 ≤ ow (nb_ W H i d) ∧ ow (nb_ W H i d) < 100 ∧ ∀ σ55 : fb_St, σ55 = fb_up σ52 65 (ow (nb_ W H i d)) a52 → fb_in (d + 1) ∧ r59 b i dam (d + 1) σ55) := by
              intro xv hxv hv1 hv0
              refine sm_lesser u0 hxv ⟨by omega, by omega, fun σ3 h3 => ⟨by omega, ?_⟩⟩
              refine hr59 _ _ _ _ _ ⟨rfl, rfl, rfl, by omega, by omega, fr_tr hf2 (by rw [h3]; exact fr_up (by decide)), fun o oo0 oo1 => ?_⟩ (by omega)
              rw [h3, up_eq]
              dsimp only
              by_cases eo : o = ow (nb_ W H i d)
              · rw [if_pos eo]
                refine ⟨min u xv, by omega, rfl, ml_ins (b := xv) (fun x => ⟨fun hD => ?_, fun hD => ?_⟩) (show ml_ (fun x => pq_ W H h ow b i d o x) (fun x => x) u by rw [eo]; exact u2)⟩
                · obtain ⟨q0, k, e', q1, q2, q3, q4, q5⟩ := hD
                  by_cases ek : k = i ∧ e' = d
                  · right
                    rw [ek.1, ek.2] at q5
                    rcases q5 with ⟨f1, f2, f3⟩ | ⟨f1, f2⟩
                    · rw [f3]; exact (hv1 (by
                        rcases hd with z | z
                        · exact absurd ⟨f1, f2⟩ (hd0 z)
                        · exact z)).symm
                    · rw [f2]; exact (hv0 (by
                        rcases hd with z | z
                        · exact z
                        · have := (hd1 z).1; omega)).symm
                  · exact Or.inl ⟨q0, k, e', q1, q2, (by clear q5; omega), q4, q5⟩
                · rcases hD with hD | hD
                  · obtain ⟨q0, k, e', q1, q2, q3, q4⟩ := hD
                    exact ⟨q0, k, e', q1, q2, (by clear q4; omega), q4⟩
                  · refine ⟨⟨by omega, by omega, fun q => e (by omega)⟩, i, d, ⟨i0, c⟩, ⟨d0, c2⟩, by omega, by rw [eo]; exact hob p, ?_⟩
                    rcases hd with z | z
                    · exact Or.inr ⟨hcase.elim (fun q => by omega) id, by rw [hD, hv0 z]⟩
                    · exact Or.inl ⟨(hd1 z).1, (hd1 z).2, by rw [hD, hv1 z]⟩
              · rw [if_neg eo]
                obtain ⟨w, w0, w1, w2⟩ := hl2 o oo0 oo1
                refine ⟨w, w0, w1, ml_same (fun x => ⟨fun hD => ?_, fun hD => ?_⟩) w2⟩
                · obtain ⟨q0, k, e', q1, q2, q3, q4, q5⟩ := hD
                  refine ⟨q0, k, e', q1, q2, ?_, q4, q5⟩
                  by_cases ek : k = i ∧ e' = d
                  · rw [ek.1, ek.2, hob p] at q4; exact absurd q4.symm eo
                  · clear q5; omega
                · obtain ⟨q0, k, e', q1, q2, q3, q4⟩ := hD
                  exact ⟨q0, k, e', q1, q2, (by clear q4; omega), q4⟩
            have hhi := hx2.2.1 i i0 c
            have hhn := hx2.2.1 _ n0 n1
            rw [hhi.1, hhn.1]
            refine ⟨fun z => ⟨i0, by omega, n0, by omega, sm_greater (fin _ (by omega) (fun y => by omega) (fun _ => rfl))⟩, fun z => ⟨i0, by omega, fin _ (by omega) (fun _ => rfl) (fun y => absurd y z)⟩⟩
          · have : ob_ W H ow i d = -6 := by unfold ob_; rw [if_neg (fun z => p z.2)]
            omega
      unfold wb_X7_layPasses_59
      refine ⟨fun c2 => ⟨fun z => ⟨i0, by omega, ?_⟩, fun z => step c2 (Or.inl (hd.resolve_left z))⟩, fun c2 => none (Or.inr (by clear hd1 hd0; omega))⟩
      rw [hoi2.1]
      exact ⟨fun y => step c2 (Or.inr y), fun y => none (Or.inl ⟨hd0 z, y⟩)⟩
    refine ⟨i0, by omega, ?_⟩
    rw [hoi.1]
    refine ⟨fun z => sm_hasBeside hx1 ⟨i0, c⟩ (by omega) (fun y => ⟨fun u => by omega, fun _ => inner 1 (Or.inr rfl) (fun _ => ⟨z, y⟩) (fun u => by omega)⟩) (fun y => ⟨fun _ => inner 0 (Or.inl rfl) (fun u => by omega) (fun _ q => y q.2), fun u => absurd rfl u⟩), fun z => inner 0 (Or.inl rfl) (fun u => by omega) (fun _ q => z q.1)⟩
  · rw [show i = W * H by omega] at hl1
    exact hq σ1 hf1 (lp_same (fun o x => pq_end b o x) hl1)
end MPA
