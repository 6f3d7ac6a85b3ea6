def el_ (a b c d : Int → Int) : Nat → EV_
  | 0 => []
  | n + 1 => el_ a b c d n ++ [(a n, b n, c n, d n)]
theorem el_cong {a b c d a' b' c' d' : Int → Int} : ∀ n : Nat, (∀ k : Int, 0 ≤ k → k < n → a' k = a k ∧ b' k = b k ∧ c' k = c k ∧ d' k = d k) → el_ a' b' c' d' n = el_ a b c d n := by
  intro n
  induction n with
  | zero => intro _; rfl
  | succ n ih =>
    intro h
    unfold el_
    obtain ⟨h1, h2, h3, h4⟩ := h n (by omega) (by omega)
    rw [ih (fun k k0 k1 => h k k0 (by omega)), h1, h2, h3, h4]
theorem el_len {a b c d : Int → Int} : ∀ n : Nat, (el_ a b c d n).length = n := by
  intro n
  induction n with
  | zero => rfl
  | succ n ih => unfold el_; rw [List.length_append, ih]; rfl
theorem el_get {a b c d : Int → Int} {k : Nat} : ∀ n : Nat, k < n → (el_ a b c d n)[k]? = some (a k, b k, c k, d k) := by
  intro n
  induction n with
  | zero => intro h; omega
  | succ n ih =>
    intro hk
    unfold el_
    by_cases e : k = n
    · rw [List.getElem?_append_right (by rw [el_len]; omega), el_len, e]; simp
    · rw [List.getElem?_append_left (by rw [el_len]; omega)]; exact ih (by omega)
section RUN
variable {W H : Int} {h ow : Int → Int} {p : Nat} {σ : fb_St}
theorem ms_lq (hm : ms_ W H h ow p σ) {b : Int} (b0 : 1 ≤ b) (b1 : b ≤ 99) : lq_ W H h ow b = (σ (p + 3) b, σ (p + 4) b) := lq_eq (hm b b0 b1).2.2.1
theorem ms_mh (hx : px_ W H h ow p σ) (hm : ms_ W H h ow p σ) {b : Int} (b0 : 1 ≤ b) (b1 : b ≤ 99) : mh_ W H h ow b = σ (p + 2) b := mh_eq (fun j j0 j1 => (hx.2.2.1 j j0 j1).2.2) (hm b b0 b1).2.1
theorem sp_sizeOf (hx : px_ W H h ow p σ) (hm : ms_ W H h ow p σ) {b kind : Int} (b0 : 1 ≤ b) (b1 : b ≤ 99) {Q : Int → fb_St → Prop} (hq : Q (sz_ W H h ow kind b) σ) : wp_X3_sizeOf p b kind σ Q := by
  obtain ⟨m1, m2, m3, m4⟩ := hm b b0 b1
  have e1 := ms_lq hm b0 b1
  have e2 := ms_mh hx hm b0 b1
  have hr := lm_rng m3
  have hmb : 0 ≤ σ (p + 2) b ∧ σ (p + 2) b ≤ 100 := by
    rcases m2.2 with z | ⟨j, hj, z⟩
    · omega
    · have := hx.2.2.1 j hj.1.1 hj.1.2; omega
  unfold sz_ at hq
  rw [e1, e2] at hq
  dsimp only at hq
  unfold wp_X3_sizeOf wj_X3_sizeOf_55
  refine ⟨fun z => ⟨by omega, by omega, ?_⟩, fun z => ⟨by omega, by omega, fun y => ?_, fun y => ⟨fun u => ⟨by omega, by omega, by omega, by omega, by omega, ?_⟩, fun u => ⟨by omega, by omega, ?_⟩⟩⟩⟩
  · rw [if_pos z] at hq; rw [m1]; exact hq
  · rw [if_neg z, if_pos y] at hq; exact hq
  · rw [if_neg z, if_neg y, if_pos u] at hq; exact hq
  · rw [if_neg z, if_neg y, if_neg u] at hq; rw [m4, if_neg y]; exact hq
theorem nx_snoc {kind bound b : Int} (b0 : 1 ≤ b) : nx_ W H h ow kind bound b.toNat = if (lq_ W H h ow b).1 < (nx_ W H h ow kind bound (b - 1).toNat).2 ∧ sz_ W H h ow kind b < bound then (b, (lq_ W H h ow b).1) else nx_ W H h ow kind bound (b - 1).toNat := by
  have e : b.toNat = (b - 1).toNat + 1 := by omega
  rw [e]
  show (if (lq_ W H h ow (((b - 1).toNat : Int) + 1)).1 < _ ∧ sz_ W H h ow kind (((b - 1).toNat : Int) + 1) < bound then _ else _) = _
  rw [show (((b - 1).toNat : Int) + 1) = b by omega]
theorem sp_nextToPour (hx : px_ W H h ow p σ) (hm : ms_ W H h ow p σ) {kind bound : Int} {Q : Int → fb_St → Prop} (hq : Q (be_ W H h ow kind bound) σ) : wp_X3_nextToPour p kind bound σ Q := by
  unfold wp_X3_nextToPour
  refine fb_lp6 (fun x1 x2 x3 x4 b σ' => kind = x1 ∧ bound = x2 ∧ σ = σ' ∧ 1 ≤ b ∧ b ≤ 100 ∧ x3 = (nx_ W H h ow kind bound (b - 1).toNat).1 ∧ x4 = (nx_ W H h ow kind bound (b - 1).toNat).2) (fun _ _ _ _ b _ => (100 - b).toNat) ?_ kind bound (-6) 100 1 σ ⟨rfl, rfl, rfl, by omega, by omega, rfl, rfl⟩
  rintro x1 x2 x3 x4 b σ' ⟨rfl, rfl, rfl, b0, b1, e3, e4⟩ r10 hr10
  unfold wb_X3_nextToPour_10 wj_X3_nextToPour_52
  refine ⟨fun c => ?_, fun c => ?_⟩
  · rw [show (b - 1).toNat = 99 by omega] at e3
    rw [e3]; exact hq
  · have es := nx_snoc (W := W) (H := H) (h := h) (ow := ow) (kind := kind) (bound := bound) b0
    have e1 := ms_lq hm b0 (by omega)
    rw [e1] at es
    dsimp only at es
    have old : ¬ (σ (p + 3) b < x4 ∧ sz_ W H h ow kind b < bound) → fb_in (b + 1) ∧ r10 kind bound x3 x4 (b + 1) σ := fun z => ⟨by omega, hr10 _ _ _ _ _ _ ⟨rfl, rfl, rfl, by omega, by omega, by rw [show b + 1 - 1 = b by omega, es, if_neg (by rw [← e4]; exact z)]; exact e3, by rw [show b + 1 - 1 = b by omega, es, if_neg (by rw [← e4]; exact z)]; exact e4⟩ (by omega)⟩
    refine ⟨by omega, by omega, fun z => sp_sizeOf hx hm b0 (by omega) ⟨fun y => ⟨by omega, by omega, fun v hv => ⟨by omega, ?_⟩⟩, fun y => old (fun q => y q.2)⟩, fun z => old (fun q => z q.1)⟩
    exact hr10 _ _ _ _ _ _ ⟨rfl, rfl, rfl, by omega, by omega, by rw [show b + 1 - 1 = b by omega, es, if_pos (by rw [← e4]; exact ⟨z, y⟩)], by rw [show b + 1 - 1 = b by omega, es, if_pos (by rw [← e4]; exact ⟨z, y⟩)]; exact hv⟩ (by omega)
theorem sp_pourOut (hx : px_ W H h ow p σ) {b : Int} (b0 : 1 ≤ b ∧ b ≤ 99) (ht : 0 ≤ σ (p + 4) b ∧ σ (p + 4) b ≤ 99) (hbt : b ≠ σ (p + 4) b) (hE : 0 ≤ σ p 0 ∧ σ p 0 < 99) {Q : Int → fb_St → Prop}
    (hq : ∀ σ', fp_ p [1, 7, 8, 9] σ σ' → (∀ j, 0 ≤ j → j < W * H → σ' (p + 1) j = p1_ ow b (σ (p + 4) b) j) → σ' (p + 7) = (fun j => if j = σ p 0 then b else σ (p + 7) j) → σ' (p + 8) = (fun j => if j = σ p 0 then σ (p + 4) b else σ (p + 8) j) → σ' (p + 9) = (fun j => if j = σ p 0 then σ (p + 3) b else σ (p + 9) j) → Q 0 σ') : wp_X3_pourOut p b σ Q := by
  have hw := tv_wh hx.1
  have hp := hx.2.1
  unfold wp_X3_pourOut
  refine ⟨by omega, by omega, fun t het => ?_⟩
  refine fb_lp4 (fun x2 x3 i σ' => b = x2 ∧ t = x3 ∧ 0 ≤ i ∧ i ≤ W * H ∧ fp_ p [1] σ σ' ∧ (∀ j, 0 ≤ j → j < i → σ' (p + 1) j = p1_ ow b t j) ∧ (∀ j, i ≤ j → j < W * H → σ' (p + 1) j = ow j)) (fun _ _ i _ => (200 - i).toNat) ?_ b t 0 σ ⟨rfl, rfl, Int.le_refl 0, by omega, fp_rf, fun j j0 j1 => by omega, fun j j0 j1 => (hx.2.2.2 j j0 j1).1⟩
  rintro x2 x3 i σ1 ⟨rfl, rfl, i0, i1, hf1, ha, hb⟩ r10 hr10
  have e12 : σ1 1 2 = W * H := by rw [fp_lt hf1 (by omega)]; exact hx.1.2.2.1
  unfold wb_X3_pourOut_10 wj_X3_pourOut_38
  rw [e12]
  refine ⟨fun c => ⟨i0, by omega, fun z => ⟨i0, by omega, fun σ2 h2 => ⟨by omega, ?_⟩⟩, fun z => ⟨by omega, ?_⟩⟩, fun c => ?_⟩
  · rw [hb i (Int.le_refl i) c] at z
    refine hr10 _ _ _ _ ⟨rfl, rfl, by omega, by omega, fp_tr hf1 (by rw [h2]; exact fp_up (by decide)), fun j j0 j1 => ?_, fun j j0 j1 => ?_⟩ (by omega)
    · rw [h2, up_eq]; dsimp only
      by_cases e : j = i
      · rw [if_pos e, e]; unfold p1_; rw [if_pos z]
      · rw [if_neg e]; exact ha j j0 (by omega)
    · rw [h2, up_eq]; dsimp only
      rw [if_neg (by omega)]; exact hb j (by omega) j1
  · rw [hb i (Int.le_refl i) c] at z
    refine hr10 _ _ _ _ ⟨rfl, rfl, by omega, by omega, hf1, fun j j0 j1 => ?_, fun j j0 j1 => hb j (by omega) j1⟩ (by omega)
    by_cases e : j = i
    · rw [e, hb i (Int.le_refl i) c]; unfold p1_; rw [if_neg z]
    · exact ha j j0 (by omega)
  · have g0 : σ1 p = σ p := fp_at hf1 0 (by decide)
    rw [g0]
    refine ⟨hE.1, hE.2, fun σ2 h2 => ?_⟩
    have g2 : σ2 p = σ p := by rw [h2]; exact (up_at σ1 p 7 0 _ _ (by decide)).trans g0
    rw [g2]
    refine ⟨hE.1, hE.2, fun σ3 h3 => ?_⟩
    have g3 : σ3 p = σ p := by rw [h3]; exact (up_at σ2 p 8 0 _ _ (by decide)).trans g2
    have g33 : σ3 (p + 3) = σ (p + 3) := by rw [h3, up_at _ _ _ _ _ _ (by decide), h2, up_at _ _ _ _ _ _ (by decide), fp_at hf1 3 (by decide)]
    rw [g3, g33]
    refine ⟨by omega, by omega, hE.1, hE.2, fun σ4 h4 => ?_⟩
    subst het
    refine hq σ4 ?_ (fun j j0 j1 => ?_) ?_ ?_ ?_
    · subst h4; subst h3; subst h2
      exact fp_tr (fp_wk hf1 (by decide)) (fp_tr (fp_up (by decide)) (fp_tr (fp_up (by decide)) (fp_up (by decide))))
    · rw [h4, up_at _ _ _ _ _ _ (by decide), h3, up_at _ _ _ _ _ _ (by decide), h2, up_at _ _ _ _ _ _ (by decide)]
      exact ha j j0 (by omega)
    · rw [h4, up_at _ _ _ _ _ _ (by decide), h3, up_at _ _ _ _ _ _ (by decide), h2, up_eq, fp_at hf1 7 (by decide)]
    · rw [h4, up_at _ _ _ _ _ _ (by decide), h3, up_eq, h2, up_at _ _ _ _ _ _ (by decide), fp_at hf1 8 (by decide)]
    · rw [h4, up_eq, h3, up_at _ _ _ _ _ _ (by decide), h2, up_at _ _ _ _ _ _ (by decide), fp_at hf1 9 (by decide)]
theorem sp_breakDams (hx : px_ W H h ow p σ) {Q : Int → fb_St → Prop}
    (hq : ∀ σ', fp_ p [1, 11] σ σ' → (∀ j, 0 ≤ j → j < W * H → σ' (p + 1) j = wd_ W H ow j) → Q (dg_ W H ow (W * H).toNat) σ') : wp_X3_breakDams p σ Q := by
  have hw := tv_wh hx.1
  have hp := hx.2.1
  unfold wp_X3_breakDams
  refine fb_lp3 (fun g i σ' => 0 ≤ i ∧ i ≤ W * H ∧ g = dg_ W H ow i.toNat ∧ fp_ p [11] σ σ' ∧ (∀ j, 0 ≤ j → j < i → σ' (p + 11) j = wd_ W H ow j)) (fun _ i _ => (200 - i).toNat) ?_ 0 0 σ ⟨Int.le_refl 0, by omega, rfl, fp_rf, fun j j0 j1 => by omega⟩
  rintro g i σ1 ⟨i0, i1, rfl, hf1, ha⟩ r4 hr4
  have hx1 := px_fp hx hf1 (by decide)
  have hgb : 0 ≤ dg_ W H ow i.toNat ∧ dg_ W H ow i.toNat ≤ i.toNat := su_bd (f := fun j => if ow j = 0 ∧ 0 < ar_ W H ow j then 1 else 0) i.toNat (fun j _ _ => by split <;> omega)
  have es : dg_ W H ow (i + 1).toNat = dg_ W H ow i.toNat + (if ow i = 0 ∧ 0 < ar_ W H ow i then 1 else 0) := su_snoc i0
  unfold wb_X3_breakDams_4 wj_X3_breakDams_60
  rw [hx1.1.2.2.1]
  refine ⟨fun c => ⟨i0, by omega, i0, by omega, fun σ2 h2 => ⟨i0, by omega, ?_⟩⟩, fun c => ⟨by omega, hw.2.2, hw.2.2, fun σ2 h2 => ?_⟩⟩
  · have hoi := (hx1.2.2.2 i i0 c).1
    rw [hoi] at h2
    have hf2 : fp_ p [11] σ σ2 := fp_tr hf1 (by rw [h2]; exact fp_up (by decide))
    have hx2 := px_fp hx hf2 (by decide)
    have k11 : σ2 (p + 11) = fun j => if j = i then ow i else σ1 (p + 11) j := by rw [h2, up_eq]
    have keep : wd_ W H ow i = ow i → ¬ (ow i = 0 ∧ 0 < ar_ W H ow i) → fb_in (i + 1) ∧ r4 (dg_ W H ow i.toNat) (i + 1) σ2 := fun e z => ⟨by omega, hr4 _ _ _ ⟨by omega, by omega, by rw [es, if_neg z]; omega, hf2, fun j j0 j1 => by
      rw [k11]; dsimp only
      by_cases ej : j = i
      · rw [if_pos ej, ej, e]
      · rw [if_neg ej]; exact ha j j0 (by omega)⟩ (by omega)⟩
    rw [(hx2.2.2.2 i i0 c).1]
    refine ⟨fun z => sp_onlyBasinAround (ow := ow) hx2.1 ⟨i0, c⟩ (fun j j0 j1 => (hx2.2.2.2 j j0 j1).1) ⟨fun y => ⟨i0, by omega, fun σ3 h3 => ⟨by omega, by omega, ?_⟩⟩, fun y => ?_⟩, fun z => ?_⟩
    · refine hr4 _ _ _ ⟨by omega, by omega, by rw [es, if_pos ⟨z, y⟩], fp_tr hf2 (by rw [h3]; exact fp_up (by decide)), fun j j0 j1 => ?_⟩ (by omega)
      rw [h3, up_eq, k11]; dsimp only
      by_cases ej : j = i
      · rw [if_pos ej, ej]; unfold wd_; rw [if_pos ⟨z, y⟩]
      · rw [if_neg ej, if_neg ej]; exact ha j j0 (by omega)
    · have q : ¬ (ow i = 0 ∧ 0 < ar_ W H ow i) := fun q => y q.2
      exact keep (by unfold wd_; rw [if_neg q]) q
    · have q : ¬ (ow i = 0 ∧ 0 < ar_ W H ow i) := fun q => z q.1
      exact keep (by unfold wd_; rw [if_neg q]) q
  · have e : i = W * H := by omega
    subst e
    refine hq σ2 (fp_tr (fp_wk hf1 (by decide)) (by rw [h2]; exact fp_cp (by decide))) (fun j j0 j1 => ?_)
    rw [h2, fb_cp_ap, if_pos rfl, if_pos ⟨j0, j1⟩]
    exact ha j j0 j1
/-- a pour that is over, as the class holds it -/
def po_ (W H : Int) (h : Int → Int) (p : Nat) (σ : fb_St) (R : (Int → Int) × EV_) : Prop :=
  px_ W H h R.1 p σ ∧ ms_ W H h R.1 p σ ∧ 0 ≤ σ p 0 ∧ σ p 0 ≤ 98 ∧ R.2 = el_ (σ (p + 7)) (σ (p + 8)) (σ (p + 9)) (σ (p + 10)) (σ p 0).toNat
theorem sp_run {pp : Nat} {ow0 : Int → Int} {kind bound : Int} (ht : tv_ W H σ) (hp : pp = 17 ∨ pp = 29) (hh : ∀ j, 0 ≤ j → j < W * H → σ 2 j = h j) (ho : ∀ j, 0 ≤ j → j < W * H → σ 9 j = ow0 j ∧ (ow0 j = -6 ∨ 0 ≤ ow0 j ∧ ow0 j ≤ 99)) {Q : Int → fb_St → Prop}
    (hq : ∀ σ', fp_ pp [0, 1, 2, 3, 4, 5, 6, 7, 8, 9, 10, 11] σ σ' → po_ W H h pp σ' (pr_ W H h kind bound 99 ow0 []) → Q 0 σ') : wp_X3_run pp kind bound σ Q := by
  have hw := tv_wh ht
  have hp17 : 17 ≤ pp := by omega
  unfold wp_X3_run
  generalize hR : pr_ W H h kind bound 99 ow0 [] = R at hq
  intro σ1 h1 σ2 h2
  have hf2 : fp_ pp [0, 1, 2, 3, 4, 5, 6, 7, 8, 9, 10, 11] σ σ2 := by
    rw [h2]
    refine fp_tr ?_ (fp_up (j := 0) (by decide))
    rw [h1]; exact fp_cp (by decide)
  have hx2 : px_ W H h ow0 pp σ2 := by
    refine ⟨tv_eq ht (fp_lt hf2 (by omega)) (fp_lt hf2 (by omega)) (fp_lt hf2 (by omega)), hp17, fun j j0 j1 => ?_, fun j j0 j1 => ⟨?_, (ho j j0 j1).2⟩⟩
    · rw [fp_lt hf2 (show 2 < pp by omega)]
      have := ht.2.2.2.2.2.1 j j0 (by omega)
      have := hh j j0 j1
      exact ⟨this, by omega, by omega⟩
    · rw [h2]
      have : fb_up σ1 pp 0 0 (pp + 1) = σ1 (pp + 1) := up_at σ1 pp 0 1 _ _ (by decide)
      rw [this, h1, fb_cp_ap, if_pos rfl, if_pos ⟨j0, by omega⟩]
      exact (ho j j0 j1).1
  have g0 : σ2 pp 0 = 0 := by rw [h2, up_eq]; simp
  refine fb_lp4 (fun x3 x4 t σ' => kind = x3 ∧ bound = x4 ∧ 0 ≤ t ∧ t ≤ 98 ∧ fp_ pp [0, 1, 2, 3, 4, 5, 6, 7, 8, 9, 10, 11] σ σ' ∧ σ' pp 0 = t ∧ ∃ ow, px_ W H h ow pp σ' ∧ bn_ W H ow ≤ 99 - t ∧ pr_ W H h kind bound (99 - t).toNat ow (el_ (σ' (pp + 7)) (σ' (pp + 8)) (σ' (pp + 9)) (σ' (pp + 10)) t.toNat) = R) (fun _ _ t _ => (99 - t).toNat) ?_ kind bound 0 σ2 ⟨rfl, rfl, Int.le_refl 0, by omega, hf2, g0, ow0, hx2, by have := bn_le (W := W) (H := H) (ow := ow0); omega, hR⟩
  clear hR g0 hx2 hf2 h2 h1 σ1 σ2
  rintro x3 x4 t σ1 ⟨rfl, rfl, t0, t1, hf1, e0, ow, hx1, hbn, hrun⟩ r21 hr21
  unfold wb_X3_run_21
  refine ⟨fun c => ?_, fun c => by omega⟩
  refine sp_measure hx1 (fun σ2 hf2 hm2 => ?_)
  have hx2 := px_fp hx1 hf2 (by decide)
  have hv : vo_ W H ow := fun j j0 j1 => (hx1.2.2.2 j j0 j1).2
  rw [show (99 - t).toNat = (99 - (t + 1)).toNat + 1 by omega] at hrun
  unfold pr_ at hrun
  have k0 : σ2 pp = σ1 pp := fp_at hf2 0 (by decide)
  have k7 := fp_at hf2 7 (by decide)
  have k8 := fp_at hf2 8 (by decide)
  have k9 := fp_at hf2 9 (by decide)
  have k10 := fp_at hf2 10 (by decide)
  refine sp_nextToPour hx2 hm2 ⟨fun z => ?_, fun z => ?_⟩
  · rw [if_pos z] at hrun
    refine hq σ2 (fp_tr hf1 (fp_wk hf2 (by decide))) ?_
    rw [← hrun]
    refine ⟨hx2, hm2, by rw [k0, e0]; exact t0, by rw [k0, e0]; exact t1, ?_⟩
    rw [k0, e0, k7, k8, k9, k10]
  · rw [if_neg z] at hrun
    obtain ⟨s1, s2, s3, s4, s5, s6⟩ := be_spec hw.1 hv (fun b b0 b1 => ⟨_, _, (hm2 b b0 b1).2.2.1⟩) z
    generalize be_ W H h ow kind bound = b at *
    have el := ms_lq hm2 s1.1 s1.2
    rw [el] at s2 s3 s5 s6 hrun
    dsimp only at s2 s3 s5 s6 hrun
    have hbp := bn_pour hw.1 s1 s3 s4 s5
    have hb2 := bn_two s1 s2 s3 s4 s5
    refine sp_pourOut hx2 s1 (by omega) s3 (by rw [k0, e0]; omega) (fun σ3 hf3 o3 q7 q8 q9 => ?_)
    have hx3 : px_ W H h (p1_ ow b (σ2 (pp + 4) b)) pp σ3 := ⟨tv_eq hx2.1 (fp_lt hf3 (by omega)) (fp_lt hf3 (by omega)) (fp_lt hf3 (by omega)), hp17, by rw [fp_lt hf3 (show 2 < pp by omega)]; exact hx2.2.2.1, fun j j0 j1 => ⟨o3 j j0 j1, p1_vo hv (by omega) j j0 j1⟩⟩
    refine sp_breakDams hx3 (fun σ4 hf4 o4 => ?_)
    have m0 : σ3 pp = σ1 pp := (fp_at hf3 0 (by decide)).trans k0
    rw [m0, e0]
    refine ⟨t0, by omega, fun σ5 h5 => ?_⟩
    have n0 : σ5 pp 0 = t := by
      rw [h5]
      have : fb_up σ4 (pp + 10) t (dg_ W H (p1_ ow b (σ2 (pp + 4) b)) (W * H).toNat) pp = σ4 pp := up_at σ4 pp 10 0 _ _ (by decide)
      rw [this, show σ4 pp = σ3 pp from fp_at hf4 0 (by decide), m0]; exact e0
    rw [n0]
    refine ⟨by omega, fun σ6 h6 => ⟨by omega, ?_⟩⟩
    have hf6 : fp_ pp [0, 1, 2, 3, 4, 5, 6, 7, 8, 9, 10, 11] σ σ6 := by
      rw [h6]
      refine fp_tr ?_ (fp_up (j := 0) (by decide))
      rw [h5]
      exact fp_tr hf1 (fp_tr (fp_wk hf2 (by decide)) (fp_tr (fp_wk hf3 (by decide)) (fp_tr (fp_wk hf4 (by decide)) (fp_up (by decide)))))
    have r0 : ∀ a, a ≠ 0 → a ≠ 10 → σ6 (pp + a) = σ4 (pp + a) := by
      intro a a0 a1
      rw [h6]
      have : fb_up σ5 pp 0 (t + 1) (pp + a) = σ5 (pp + a) := up_at σ5 pp 0 a _ _ (fun e => a0 e.symm)
      rw [this, h5, up_at _ _ _ _ _ _ (fun e => a1 e.symm)]
    have r10 : σ6 (pp + 10) = fun j => if j = t then dg_ W H (p1_ ow b (σ2 (pp + 4) b)) (W * H).toNat else σ1 (pp + 10) j := by
      rw [h6]
      have : fb_up σ5 pp 0 (t + 1) (pp + 10) = σ5 (pp + 10) := up_at σ5 pp 0 10 _ _ (by decide)
      rw [this, h5, up_eq, fp_at hf4 10 (by decide), fp_at hf3 10 (by decide), k10]
    have r7 : σ6 (pp + 7) = fun j => if j = t then b else σ1 (pp + 7) j := by rw [r0 7 (by decide) (by decide), fp_at hf4 7 (by decide), q7, k0, e0, k7]
    have r8 : σ6 (pp + 8) = fun j => if j = t then σ2 (pp + 4) b else σ1 (pp + 8) j := by rw [r0 8 (by decide) (by decide), fp_at hf4 8 (by decide), q8, k0, e0, k8]
    have r9 : σ6 (pp + 9) = fun j => if j = t then σ2 (pp + 3) b else σ1 (pp + 9) j := by rw [r0 9 (by decide) (by decide), fp_at hf4 9 (by decide), q9, k0, e0, k9]
    refine hr21 _ _ _ _ ⟨rfl, rfl, by omega, by omega, hf6, by rw [h6, up_eq]; simp, wd_ W H (p1_ ow b (σ2 (pp + 4) b)), ⟨tv_eq ht (fp_lt hf6 (by omega)) (fp_lt hf6 (by omega)) (fp_lt hf6 (by omega)), hp17, by rw [fp_lt hf6 (show 2 < pp by omega), ← fp_lt hf1 (show 2 < pp by omega)]; exact hx1.2.2.1, fun j j0 j1 => ⟨by rw [r0 1 (by decide) (by decide)]; exact o4 j j0 j1, wd_vo hw.1 (p1_vo hv (by omega)) j j0 j1⟩⟩, by omega, ?_⟩ (by omega)
    rw [← hrun]
    congr 1
    rw [show (t + 1).toNat = t.toNat + 1 by omega]
    show el_ _ _ _ _ t.toNat ++ [(σ6 (pp + 7) (t.toNat : Int), σ6 (pp + 8) (t.toNat : Int), σ6 (pp + 9) (t.toNat : Int), σ6 (pp + 10) (t.toNat : Int))] = _
    rw [Int.toNat_of_nonneg t0, el_cong (a := σ1 (pp + 7)) (b := σ1 (pp + 8)) (c := σ1 (pp + 9)) (d := σ1 (pp + 10)) t.toNat (fun k k0 k1 => by rw [r7, r8, r9, r10]; dsimp only; rw [if_neg (by omega), if_neg (by omega), if_neg (by omega), if_neg (by omega)]; exact ⟨rfl, rfl, rfl, rfl⟩)]
    congr 1
    rw [r7, r8, r9, r10]
    dsimp only
    rw [if_pos rfl, if_pos rfl, if_pos rfl, if_pos rfl]
end RUN
