section MP2
variable {W H : Int} {h m : Int → Int} {σ : fb_St}
theorem ar_vo (hW : 0 < W) {ow : Int → Int} (hv : vo_ W H ow) {i : Int} (hi : 0 ≤ i ∧ i < W * H) : ar_ W H ow i = -6 ∨ 0 ≤ ar_ W H ow i ∧ ar_ W H ow i ≤ 99 := by
  have h1 := ar_le hW hv hi
  have h2 := ar_or (W := W) (H := H) (ow := ow) (i := i) 4
  rcases h2 with h2 | h2
  · exact Or.inl h2
  · exact Or.inr ⟨h2, h1⟩
/-- the flood leaves a valid state -/
theorem fs_vo (hW : 0 < W) (hm : ∀ j, 0 ≤ j → j < W * H → m j ≤ 99) : vo_ W H (fs_ W H h m).1 := by
  have run : ∀ (n : Nat) (t : Int) (S : FS_), vo_ W H S.1 → vo_ W H (run_ W H h n t S).1 := by
    intro n
    induction n with
    | zero => intro t S hS; exact hS
    | succ n ih =>
      intro t S hS
      unfold run_
      split
      · exact hS
      · refine ih _ _ (fun j j0 j1 => ?_)
        show (if j = bst_ S.2.1 S.2.2.2 then ar_ W H S.1 (bst_ S.2.1 S.2.2.2) else S.1 j) = -6 ∨ _
        by_cases e : j = bst_ S.2.1 S.2.2.2
        · have := ar_vo hW hS ⟨j0, j1⟩
          rw [e] at this
          have e2 : (st_ W H h t (bst_ S.2.1 S.2.2.2) S).1 j = ar_ W H S.1 (bst_ S.2.1 S.2.2.2) := by unfold st_; exact if_pos e
          rw [e2, if_pos e]; exact this
        · have e2 : (st_ W H h t (bst_ S.2.1 S.2.2.2) S).1 j = S.1 j := by unfold st_; exact if_neg e
          rw [e2, if_neg e]; exact hS j j0 j1
  refine run _ _ _ (fun j j0 j1 => ?_)
  show (if 0 < m j then m j else -6) = -6 ∨ 0 ≤ (if 0 < m j then m j else -6) ∧ (if 0 < m j then m j else -6) ≤ 99
  split
  · have := hm j j0 j1; omega
  · exact Or.inl rfl
/-- a pour that is over, as the model holds it -/
def mo_ (W H : Int) (h m : Int → Int) (σ : fb_St) (R : (Int → Int) × EV_) : Prop :=
  mx_ W H h R.1 σ ∧ (∀ j, 0 ≤ j → j < W * H → σ 55 j = (fs_ W H h m).1 j ∧ σ 56 j = (fs_ W H h m).2.1 j ∧ σ 57 j = (fs_ W H h m).2.2.1 j) ∧ 0 ≤ σ 48 17 ∧ σ 48 17 ≤ 98 ∧ R.2 = el_ (σ 61) (σ 62) (σ 63) (σ 64) (σ 48 17).toNat
/-- all passes of a model's state are there -/
theorem lm_ex {ow : Int → Int} (hx : mx_ W H h ow σ) {b : Int} : ∃ v o, lm_ (pn_ W H h ow b) v o := by
  by_cases q : ∃ v : Nat, ∃ o : Int, pn_ W H h ow b o v
  · obtain ⟨v, ⟨⟨o, ho⟩, hv⟩⟩ := pk_least (fun v : Nat => ∃ o : Int, pn_ W H h ow b o v) q
    obtain ⟨c, hc, hc2⟩ := pk_least (fun c : Nat => pn_ W H h ow b (c : Int) v) ⟨o.toNat, by rw [Int.toNat_of_nonneg (by have := (pn_rng hx ho).2; omega)]; exact ho⟩
    refine ⟨v, c, Or.inr ⟨hc, by have := (pn_rng hx hc).1; omega, fun o' v' q' => ?_⟩⟩
    have hr := pn_rng hx q'
    by_cases e : v' < v
    · exact absurd ⟨o', by rw [Int.toNat_of_nonneg hr.1.1]; exact q'⟩ (hv v'.toNat (by omega))
    · by_cases e2 : v' = v
      · rw [e2] at q'
        by_cases e3 : o' < c
        · exact absurd (by rw [Int.toNat_of_nonneg (by omega)]; exact q') (hc2 o'.toNat (by omega))
        · omega
      · omega
  · refine ⟨100, -6, Or.inl ⟨rfl, rfl, fun o v q' => q ⟨v.toNat, o, ?_⟩⟩⟩
    rw [Int.toNat_of_nonneg (pn_rng hx q').1.1]; exact q'
theorem sm_pour {kind bd bound : Int} (hm : mv_ W H σ) (hh : ∀ j, 0 ≤ j → j < W * H → σ 49 j = h j) (hk : ∀ j, 0 ≤ j → j < W * H → σ 49 (144 + j) = m j) (hkd : kind = 0 ∨ kind = 1 ∨ kind = 2) (hbd : (0 ≤ bd ∧ bound = bd) ∨ (bd < 0 ∧ kind = 0 ∧ bound = 145)) {Q : Int → fb_St → Prop}
    (hq : ∀ σ', fr_ [48, 55, 56, 57, 58, 59, 60, 61, 62, 63, 64, 65, 66] σ σ' → mo_ W H h m σ' (pr_ W H h kind bound 99 (fs_ W H h m).1 []) → Q 0 σ') : wp_X7_pour kind bd σ Q := by
  have hw := mv_wh hm
  unfold wp_X7_pour
  refine sm_flood hm hh hk (fun σ1 hf1 hfl => ?_)
  have hvo : vo_ W H (fs_ W H h m).1 := fs_vo hw.1 (fun j j0 j1 => by have := hm.2.2.2.2.2 j j0 (by omega); have := hk j j0 j1; omega)
  generalize hR : pr_ W H h kind bound 99 (fs_ W H h m).1 [] = R at hq
  refine fb_lp4 (fun x1 x2 i σ' => kind = x1 ∧ bd = x2 ∧ 0 ≤ i ∧ i ≤ 144 ∧ fr_ [60] σ1 σ' ∧ ∀ j, 0 ≤ j → j < i → σ' 60 j = σ1 55 j) (fun _ _ i _ => (144 - i).toNat) ?_ kind bd 0 σ1 ⟨rfl, rfl, Int.le_refl 0, by omega, fr_rf, fun j j0 j1 => by omega⟩
  rintro x1 x2 i σ2 ⟨rfl, rfl, i0, i1, hf2, ho2⟩ r6 hr6
  unfold wb_X7_pour_6
  refine ⟨fun c => ⟨i0, c, i0, c, fun σ3 h3 => ⟨by omega, ?_⟩⟩, fun c σ3 h3 => ?_⟩
  · rw [hf2 55 (by decide)] at h3
    refine hr6 _ _ _ _ ⟨rfl, rfl, by omega, by omega, fr_tr hf2 (by rw [h3]; exact fr_up (by decide)), fun j j0 j1 => ?_⟩ (by omega)
    rw [h3, up_eq]; dsimp only
    by_cases e : j = i
    · rw [if_pos e, e]
    · rw [if_neg e]; exact ho2 j j0 (by omega)
  have hf3 : fr_ [48, 55, 56, 57, 58, 59, 60, 61, 62, 63, 64, 65, 66] σ σ3 := fr_tr (fr_wk hf1 (by decide)) (fr_tr (fr_wk hf2 (by decide)) (by rw [h3]; exact fr_up (by decide)))
  have o3 : ∀ k, k ≠ 48 → k ≠ 60 → σ3 k = σ1 k := fun k a b => by rw [h3, up_ne _ _ _ a, hf2 k (by simpa using b)]
  have hx3 : mx_ W H h (fs_ W H h m).1 σ3 := by
    refine ⟨mv_eq hm (hf3 49 (by decide)), fun j j0 j1 => ?_, fun j j0 j1 => ⟨?_, hvo j j0 j1⟩⟩
    · rw [hf3 49 (by decide)]
      have := hm.2.2.2.2.1 j j0 (by omega)
      have := hh j j0 j1
      exact ⟨this, by omega, by omega⟩
    · rw [h3, up_ne _ _ _ (by decide), ho2 j j0 (by omega)]
      exact (hfl j j0 j1).1
  have fl3 : ∀ j, 0 ≤ j → j < W * H → σ3 55 j = (fs_ W H h m).1 j ∧ σ3 56 j = (fs_ W H h m).2.1 j ∧ σ3 57 j = (fs_ W H h m).2.2.1 j := by
    rw [o3 55 (by decide) (by decide), o3 56 (by decide) (by decide), o3 57 (by decide) (by decide)]; exact hfl
  refine fb_lp4 (fun x1 x2 x3 σ' => kind = x1 ∧ bd = x2 ∧ fr_ [48, 55, 56, 57, 58, 59, 60, 61, 62, 63, 64, 65, 66] σ σ' ∧ ∃ ow t, mx_ W H h ow σ' ∧ (∀ j, 0 ≤ j → j < W * H → σ' 55 j = (fs_ W H h m).1 j ∧ σ' 56 j = (fs_ W H h m).2.1 j ∧ σ' 57 j = (fs_ W H h m).2.2.1 j) ∧ 0 ≤ t ∧ t ≤ 98 ∧ σ' 48 17 = t ∧ bn_ W H ow ≤ 99 - t ∧ pr_ W H h kind bound (99 - t).toNat ow (el_ (σ' 61) (σ' 62) (σ' 63) (σ' 64) t.toNat) = R ∧ (x3 = 0 → R = (ow, el_ (σ' 61) (σ' 62) (σ' 63) (σ' 64) t.toNat)) ∧ (x3 = 0 ∨ x3 = 1)) (fun _ _ x3 σ' => (2 * (100 - σ' 48 17) + x3).toNat) ?_ kind bd 1 σ3 ⟨rfl, rfl, hf3, _, 0, hx3, fl3, Int.le_refl 0, by omega, by rw [h3, up_eq]; simp, by have := bn_le (W := W) (H := H) (ow := (fs_ W H h m).1); omega, hR, fun z => by omega, Or.inr rfl⟩
  clear hR fl3 hx3 o3 hf3 h3 c hr6 ho2 hf2 i0 i1 i σ2 σ3 hfl hf1 σ1
  rintro x1 x2 x3 σ1 ⟨rfl, rfl, hf1, ow, t, hx1, fl1, t0, t1, e48, hbn, hrun, hx30, hB⟩ r38 hr38
  have hv : vo_ W H ow := fun j j0 j1 => (hx1.2.2 j j0 j1).2
  unfold wb_X7_pour_38
  refine ⟨fun z => ?_, fun z => ?_⟩
  · refine hq σ1 hf1 ?_
    rw [hx30 z]
    exact ⟨hx1, fl1, by omega, by omega, by rw [e48]⟩
  have hlex := fun b => lm_ex hx1 (b := b)
  refine fb_lp7 (fun y1 y2 x4 x5 x6 b σ' => kind = y1 ∧ bd = y2 ∧ 1 ≤ b ∧ b ≤ 100 ∧ fr_ [65] σ1 σ' ∧ x4 = (nx_ W H h ow kind bound (b - 1).toNat).1 ∧ ((x4 = -6 ∧ (nx_ W H h ow kind bound (b - 1).toNat).2 = 100) ∨ (0 < x4 ∧ x5 = (lq_ W H h ow x4).2 ∧ x6 = (lq_ W H h ow x4).1 ∧ x6 = (nx_ W H h ow kind bound (b - 1).toNat).2))) (fun _ _ _ _ _ b _ => (100 - b).toNat) ?_ kind bd (-6) (-6) (-6) 1 σ1 ⟨rfl, rfl, by omega, by omega, fr_rf, rfl, Or.inl ⟨rfl, rfl⟩⟩
  rintro y1 y2 x4 x5 x6 b σ2 ⟨rfl, rfl, b0, b1, hf2, e4, h456⟩ r57 hr57
  have hx2 := mx_fr hx1 hf2 (by decide) (by decide)
  unfold wb_X7_pour_57
  refine ⟨fun c => ?_, fun c => ?_⟩
  · have es := nx_snoc (W := W) (H := H) (h := h) (ow := ow) (kind := kind) (bound := bound) b0
    have keep : ∀ σ', fr_ [65] σ1 σ' → ¬ ((lq_ W H h ow b).1 < (nx_ W H h ow kind bound (b - 1).toNat).2 ∧ sz_ W H h ow kind b < bound) → wj_X7_pour_145 r38 r57 Q kind bd x4 x5 x6 b σ' := by
      intro σ' hf' z
      unfold wj_X7_pour_145
      rw [if_neg z] at es
      exact ⟨by omega, hr57 _ _ _ _ _ _ _ ⟨rfl, rfl, by omega, by omega, hf', by rw [show b + 1 - 1 = b by omega, es]; exact e4, by rw [show b + 1 - 1 = b by omega, es]; exact h456⟩ (by omega)⟩
    obtain ⟨v, o, hl⟩ := hlex b
    have elq := lq_eq hl
    have hlr := lm_rng hl
    have n100 : (nx_ W H h ow kind bound (b - 1).toNat).2 ≤ 100 := by
      rcases nx_spec (W := W) (H := H) (h := h) (ow := ow) kind bound (b - 1).toNat with ⟨q1, q2⟩ | ⟨q1, q2, q3, q4⟩
      · omega
      · omega
    refine sm_dotsOf hx2.1 (fun j j0 j1 => (hx2.2.2 j j0 j1).1) ⟨fun z => sm_wayOut hx2 ⟨b0, by omega⟩ (fun σ3 v' o' hf3 hl' h65 => ?_), fun z => ?_⟩
    · obtain ⟨ev, eo⟩ := lm_uniq (fun _ _ => Iff.rfl) hl' hl
      subst ev; subst eo
      have hf3' := fr_tr hf2 hf3
      have hx3 := mx_fr hx1 hf3' (by decide) (by decide)
      unfold wj_X7_pour_88
      refine ⟨fun y => keep σ3 hf3' (fun q => ?_), fun y => ?_⟩
      · rw [elq] at q
        have hv100 : v' = 100 := by
          rcases hl with ⟨q1, -⟩ | ⟨q1, -⟩
          · exact q1
          · have := (pn_rng hx1 q1).2; omega
        have := q.1
        dsimp only at this
        omega
      · have ho6 : o' ≠ -6 := by omega
        have hpn : pn_ W H h ow b o' v' ∧ v' ≤ 99 := by
          rcases hl with ⟨-, q1, -⟩ | ⟨q1, q2, -⟩
          · exact absurd q1 ho6
          · exact ⟨q1, q2.2⟩
        have hor := pn_rng hx1 hpn.1
        have e65 := h65 ho6
        refine ⟨by omega, by omega, fun w hw => ?_⟩
        rw [e65] at hw
        have take : ∀ σ', fr_ [65] σ1 σ' → sz_ W H h ow kind b < bound → wj_X7_pour_121 r38 r57 Q kind bd x4 x5 x6 b o' w σ' := by
          intro σ' hf' hsz
          have new : (lq_ W H h ow b).1 < (nx_ W H h ow kind bound (b - 1).toNat).2 → wj_X7_pour_145 r38 r57 Q kind bd b o' w b σ' := by
            intro hlt
            unfold wj_X7_pour_145
            rw [if_pos ⟨hlt, hsz⟩] at es
            refine ⟨by omega, hr57 _ _ _ _ _ _ _ ⟨rfl, rfl, by omega, by omega, hf', by rw [show b + 1 - 1 = b by omega, es], Or.inr ⟨by omega, by rw [elq], by rw [elq]; exact hw, by rw [show b + 1 - 1 = b by omega, es, elq]; exact hw⟩⟩ (by omega)⟩
          unfold wj_X7_pour_121 wj_X7_pour_133
          rw [elq] at new
          dsimp only at new
          rcases h456 with ⟨q1, q2⟩ | ⟨q1, q2, q3, q4⟩
          · exact ⟨fun _ => new (by omega), fun u => by omega⟩
          · refine ⟨fun u => by omega, fun _ => ⟨fun u => new (by omega), fun u => keep σ' hf' (fun q => ?_)⟩⟩
            rw [elq] at q
            have := q.1
            dsimp only at this
            omega
        refine ⟨fun u => take σ3 hf3' ?_, fun u => ?_⟩
        · rcases hbd with q | ⟨q1, q2, q3⟩
          · omega
          · unfold sz_
            rw [if_pos q2, q3]
            have := (su_bd (f := fun j => if ow j = b then 1 else 0) (W * H).toNat (fun j _ _ => by split <;> omega)).2
            have hcn : cn_ ow b (W * H).toNat ≤ (W * H).toNat := this
            omega
        · have ebd : bound = bd := by omega
          have ew : w = en_ v' := by unfold en_; rw [if_neg (by omega)]; exact hw
          rw [ew]
          refine sm_sizeOf hx3 hl hkd ⟨fun y2 => ?_, fun y2 => keep σ3 hf3' (fun q => by omega)⟩
          rw [← ew]
          exact take σ3 hf3' (by omega)
    · unfold wj_X7_pour_88
      refine ⟨fun _ => keep σ2 hf2 (fun q => ?_), fun y => by omega⟩
      rw [elq] at q
      have := q.1
      dsimp only at this
      rcases hl with ⟨q1, -⟩ | ⟨q1, -⟩
      · omega
      · obtain ⟨j, hj, ej⟩ := (pn_bs hw.1 q1).1
        have hone := su_less (f := fun _ => 0) (g := fun j => if ow j = b then (1 : Int) else 0) hj.1 (W * H).toNat (by omega) (fun j _ _ => by split <;> omega) (by rw [if_pos ej]; omega)
        have hzero : ∀ n : Nat, su_ (fun _ => 0) n = 0 := by
          intro n
          induction n with
          | zero => rfl
          | succ n ih => show su_ _ n + 0 = 0; rw [ih]; rfl
        rw [hzero] at hone
        have : 0 + 1 ≤ cn_ ow b (W * H).toNat := hone
        omega
  have eb : (b - 1).toNat = 99 := by omega
  rw [eb] at e4 h456
  have ebe : x4 = be_ W H h ow kind bound := e4
  rw [show (99 - t).toNat = (99 - (t + 1)).toNat + 1 by omega] at hrun
  unfold pr_ at hrun
  have g48 : σ2 48 = σ1 48 := hf2 48 (by decide)
  have g61 : σ2 61 = σ1 61 := hf2 61 (by decide)
  have g62 : σ2 62 = σ1 62 := hf2 62 (by decide)
  have g63 : σ2 63 = σ1 63 := hf2 63 (by decide)
  have g64 : σ2 64 = σ1 64 := hf2 64 (by decide)
  have hf2' := fr_tr hf1 (fr_wk hf2 (show ∀ k, k ∈ [65] → k ∈ [48, 55, 56, 57, 58, 59, 60, 61, 62, 63, 64, 65, 66] by decide))
  unfold wj_X7_pour_161 wj_X7_pour_226
  refine ⟨fun u => ⟨fun _ => ?_, fun q => absurd rfl q⟩, fun u => ⟨fun q => by omega, fun _ => ?_⟩⟩
  · have e6 : be_ W H h ow kind bound = -6 := by
      rcases h456 with q | q
      · omega
      · omega
    rw [if_pos e6] at hrun
    have hB1 : x3 = 1 := by omega
    refine hr38 _ _ _ _ ⟨rfl, rfl, hf2', ow, t, hx2, by rw [hf2 55 (by decide), hf2 56 (by decide), hf2 57 (by decide)]; exact fl1, t0, t1, by rw [g48]; exact e48, hbn, ?_, fun _ => ?_, Or.inl rfl⟩ (by rw [g48]; omega)
    · rw [g61, g62, g63, g64, show (99 - t).toNat = (99 - (t + 1)).toNat + 1 by omega]
      unfold pr_
      rw [if_pos e6]; exact hrun
    · rw [g61, g62, g63, g64]; exact hrun.symm
  · have h6 : be_ W H h ow kind bound ≠ -6 := by omega
    rw [if_neg h6] at hrun
    obtain ⟨s1, s2, s3, s4, s5, s6⟩ := be_spec hw.1 hv (fun b _ _ => hlex b) h6
    have h56 : x5 = (lq_ W H h ow x4).2 ∧ x6 = (lq_ W H h ow x4).1 := by
      rcases h456 with q | q
      · omega
      · exact ⟨q.2.1, q.2.2.1⟩
    rw [← ebe] at hrun s1 s2 s3 s4 s5 s6
    rw [← h56.1, ← h56.2] at hrun
    rw [← h56.1] at s2 s3 s5
    have hbp := bn_pour hw.1 s1 s3 s4 s5
    have hb2 := bn_two s1 s2 s3 s4 s5
    rw [g48, e48]
    refine ⟨t0, by omega, fun σ3 h3 => ?_⟩
    have k3 : ∀ k, k ≠ 61 → σ3 k = σ2 k := fun k a => by rw [h3, up_ne _ _ _ a]
    rw [k3 48 (by decide), g48, e48]
    refine ⟨t0, by omega, fun σ4 h4 => ?_⟩
    have k4 : ∀ k, k ≠ 62 → σ4 k = σ3 k := fun k a => by rw [h4, up_ne _ _ _ a]
    rw [k4 48 (by decide), k3 48 (by decide), g48, e48]
    refine ⟨t0, by omega, fun σ5 h5 => ?_⟩
    have k5 : ∀ k, k ≠ 63 → σ5 k = σ4 k := fun k a => by rw [h5, up_ne _ _ _ a]
    have k5' : ∀ k, k ≠ 61 → k ≠ 62 → k ≠ 63 → σ5 k = σ2 k := fun k a b c => by rw [k5 k c, k4 k b, k3 k a]
    have hx5 : mx_ W H h ow σ5 := by
      refine ⟨mv_eq hx2.1 (k5' 49 (by decide) (by decide) (by decide)), ?_, ?_⟩
      · rw [k5' 49 (by decide) (by decide) (by decide)]; exact hx2.2.1
      · rw [k5' 60 (by decide) (by decide) (by decide)]; exact hx2.2.2
    refine sm_pourOne hx5 (by omega) (fun σ6 hf6 o6 => ?_)
    rw [k5' 48 (by decide) (by decide) (by decide), g48, e48]
    refine ⟨t0, by omega, fun σ7 h7 => ?_⟩
    have e7 : σ7 48 17 = t := by rw [h7, up_ne _ _ _ (by decide), hf6 48 (by decide), k5' 48 (by decide) (by decide) (by decide), g48]; exact e48
    rw [e7]
    refine ⟨by omega, fun σ8 h8 => ?_⟩
    have k8 : ∀ k, k ≠ 48 → k ≠ 64 → k ≠ 60 → k ≠ 66 → σ8 k = σ5 k := fun k a b c d => by rw [h8, up_ne _ _ _ a, h7, up_ne _ _ _ b, hf6 k (by simp [c, d])]
    have hf8 : fr_ [48, 55, 56, 57, 58, 59, 60, 61, 62, 63, 64, 65, 66] σ σ8 := by
      subst h8; subst h7
      refine fr_tr hf2' (fr_tr ?_ (fr_tr (fr_wk hf6 (by decide)) (fr_tr (fr_up (k := 64) (by decide)) (fr_up (k := 48) (by decide)))))
      subst h5; subst h4; subst h3
      exact fr_tr (fr_up (k := 61) (by decide)) (fr_tr (fr_up (k := 62) (by decide)) (fr_up (k := 63) (by decide)))
    have r61 : σ8 61 = fun j => if j = t then x4 else σ1 61 j := by rw [k8 61 (by decide) (by decide) (by decide) (by decide), k5 61 (by decide), k4 61 (by decide), h3, up_eq, g61]
    have r62 : σ8 62 = fun j => if j = t then x5 else σ1 62 j := by rw [k8 62 (by decide) (by decide) (by decide) (by decide), k5 62 (by decide), h4, up_eq, k3 62 (by decide), g62]
    have r63 : σ8 63 = fun j => if j = t then x6 else σ1 63 j := by rw [k8 63 (by decide) (by decide) (by decide) (by decide), h5, up_eq, k4 63 (by decide), k3 63 (by decide), g63]
    have r64 : σ8 64 = fun j => if j = t then dg_ W H (p1_ ow x4 x5) (W * H).toNat else σ1 64 j := by rw [h8, up_ne _ _ _ (by decide), h7, up_eq, hf6 64 (by decide), k5' 64 (by decide) (by decide) (by decide), g64]
    refine hr38 _ _ _ _ ⟨rfl, rfl, hf8, wd_ W H (p1_ ow x4 x5), t + 1, ⟨mv_eq hm (hf8 49 (by decide)), ?_, fun j j0 j1 => ⟨?_, wd_vo hw.1 (p1_vo hv (by omega)) j j0 j1⟩⟩, ?_, by omega, by omega, by rw [h8, up_eq]; simp, by omega, ?_, fun q => absurd q (by omega), Or.inr rfl⟩ (by rw [show σ8 48 17 = t + 1 by rw [h8, up_eq]; simp]; omega)
    · rw [k8 49 (by decide) (by decide) (by decide) (by decide)]; exact hx5.2.1
    · rw [h8, up_ne _ _ _ (by decide), h7, up_ne _ _ _ (by decide)]; exact o6 j j0 j1
    · rw [k8 55 (by decide) (by decide) (by decide) (by decide), k8 56 (by decide) (by decide) (by decide) (by decide), k8 57 (by decide) (by decide) (by decide) (by decide), k5' 55 (by decide) (by decide) (by decide), k5' 56 (by decide) (by decide) (by decide), k5' 57 (by decide) (by decide) (by decide), hf2 55 (by decide), hf2 56 (by decide), hf2 57 (by decide)]; exact fl1
    · rw [← hrun]
      congr 1
      rw [show (t + 1).toNat = t.toNat + 1 by omega]
      show el_ _ _ _ _ t.toNat ++ [(σ8 61 (t.toNat : Int), σ8 62 (t.toNat : Int), σ8 63 (t.toNat : Int), σ8 64 (t.toNat : Int))] = _
      rw [Int.toNat_of_nonneg t0, el_cong (a := σ1 61) (b := σ1 62) (c := σ1 63) (d := σ1 64) t.toNat (fun k k0 k1 => by rw [r61, r62, r63, r64]; dsimp only; rw [if_neg (by omega), if_neg (by omega), if_neg (by omega), if_neg (by omega)]; exact ⟨rfl, rfl, rfl, rfl⟩)]
      congr 1
      rw [r61, r62, r63, r64]
      dsimp only
      rw [if_pos rfl, if_pos rfl, if_pos rfl, if_pos rfl]
end MP2
