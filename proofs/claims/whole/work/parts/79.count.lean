section CNT
variable {W H : Int} {σ : fb_St} {h m ow : Int → Int}
/-- of a flood under way: no dot of the line is of a basin -/
def kf_ (W H : Int) (ow : Int → Int) (s : (Int → Int) × List Int) : Prop := (∀ x ∈ s.2, (0 ≤ x ∧ x < W * H) ∧ ow x = -6 ∧ s.1 x ≠ -6) ∧ ∀ j, 0 ≤ j → j < W * H → ow j ≠ -6 → s.1 j ≠ -6
theorem kf_1 (hW : 0 < W) (hh : ∀ j, 0 ≤ j → j < W * H → 0 ≤ h j) {i d : Int} (hi : 0 ≤ i ∧ i < W * H) {s : (Int → Int) × List Int} (a : kf_ W H ow s) : kf_ W H ow (sp1_ W H h i d s) := by
  unfold sp1_
  split
  · rename_i c
    have hr := nb_rng (W := W) (H := H) d hW hi.1 hi.2
    generalize nb_ W H i d = N at c hr
    have hN : 0 ≤ N ∧ N < W * H := by omega
    have hhN := hh N hN.1 hN.2
    have hoN : ow N = -6 := Classical.byContradiction (fun z => a.2 N hN.1 hN.2 z c.2)
    refine ⟨fun x hx => ?_, fun j j0 j1 hj => ?_⟩
    · dsimp only at hx ⊢
      rw [List.mem_append, List.mem_singleton] at hx
      by_cases e : x = N
      · rw [if_pos e, e]; exact ⟨hN, hoN, by omega⟩
      · rw [if_neg e]; exact a.1 x (hx.resolve_right e)
    · dsimp only
      by_cases e : j = N
      · rw [if_pos e]; omega
      · rw [if_neg e]; exact a.2 j j0 j1 hj
  · exact a
theorem kf_n (hW : 0 < W) (hh : ∀ j, 0 ≤ j → j < W * H → 0 ≤ h j) {i : Int} (hi : 0 ≤ i ∧ i < W * H) {s : (Int → Int) × List Int} (a : kf_ W H ow s) : ∀ n : Nat, kf_ W H ow (spn_ W H h i n s) := by
  intro n
  induction n with
  | zero => exact a
  | succ n ih => exact kf_1 hW hh hi ih
theorem kf_mk (hW : 0 < W) (hh : ∀ j, 0 ≤ j → j < W * H → 0 ≤ h j) {s : (Int → Int) × List Int} (a : kf_ W H ow s) : ∀ n : Nat, (n : Int) ≤ W * H → kf_ W H ow (mk_ W H h m n s) := by
  intro n
  induction n with
  | zero => intro _; exact a
  | succ n ih =>
    intro hn
    show kf_ W H ow (if 0 < m n then spn_ W H h n 4 (mk_ W H h m n s) else mk_ W H h m n s)
    split
    · exact kf_n hW hh (by omega) (ih (by omega)) 4
    · exact ih (by omega)
theorem kf_run (hW : 0 < W) (hh : ∀ j, 0 ≤ j → j < W * H → 0 ≤ h j) : ∀ (n : Nat) (t : Int) (S : FS_), kf_ W H S.1 (S.2.1, S.2.2.2) → ∀ b, 0 < b → (bs_ W H (run_ W H h n t S).1 b ↔ bs_ W H S.1 b) := by
  intro n
  induction n with
  | zero => intro t S _ b _; exact Iff.rfl
  | succ n ih =>
    intro t S a b hb
    unfold run_
    split
    · exact Iff.rfl
    · rename_i c
      generalize hk : bst_ S.2.1 S.2.2.2 = k at c
      have hm := bst_mem (lv := S.2.1) (q := S.2.2.2) (by rw [hk]; exact c)
      rw [hk] at hm
      obtain ⟨kr, ko, kl⟩ := a.1 k hm
      have e1 : ∀ j, (st_ W H h t k S).1 j = if j = k then ar_ W H S.1 k else S.1 j := fun j => rfl
      have base : kf_ W H (st_ W H h t k S).1 (S.2.1, S.2.2.2.filter (fun x => decide (x ≠ k))) := by
        refine ⟨fun x hx => ?_, fun j j0 j1 hj => ?_⟩
        · dsimp only at hx ⊢
          rw [List.mem_filter, decide_eq_true_eq] at hx
          rw [e1, if_neg hx.2]
          exact a.1 x hx.1
        · dsimp only
          rw [e1] at hj
          by_cases e : j = k
          · rw [e]; exact kl
          · rw [if_neg e] at hj; exact a.2 j j0 j1 hj
      have step : kf_ W H (st_ W H h t k S).1 ((st_ W H h t k S).2.1, (st_ W H h t k S).2.2.2) := by
        show kf_ W H (st_ W H h t k S).1 ((if 0 < ar_ W H S.1 k then spn_ W H h k 4 (S.2.1, S.2.2.2.filter (fun x => decide (x ≠ k))) else (S.2.1, S.2.2.2.filter (fun x => decide (x ≠ k)))).1, (if 0 < ar_ W H S.1 k then spn_ W H h k 4 (S.2.1, S.2.2.2.filter (fun x => decide (x ≠ k))) else (S.2.1, S.2.2.2.filter (fun x => decide (x ≠ k)))).2)
        split
        · exact kf_n hW hh kr base 4
        · exact base
      rw [ih _ _ step b hb]
      constructor
      · rintro ⟨j, hj, e⟩
        rw [e1] at e
        by_cases z : j = k
        · rw [if_pos z] at e
          rw [← e]
          exact ar_bs hW kr 4 (by show 0 < ar_ W H S.1 k; omega)
        · rw [if_neg z] at e; exact ⟨j, hj, e⟩
      · rintro ⟨j, hj, e⟩
        refine ⟨j, hj, ?_⟩
        rw [e1, if_neg (fun z => by rw [z] at e; omega)]
        exact e
/-- each mark is a basin of the flood, and there are no others -/
theorem fs_bs (hW : 0 < W) (hh : ∀ j, 0 ≤ j → j < W * H → 0 ≤ h j) {b : Int} (hb : 0 < b) : bs_ W H (fs_ W H h m).1 b ↔ bs_ W H m b := by
  unfold fs_
  rw [kf_run hW hh _ _ _ ?_ b hb]
  · constructor
    · rintro ⟨j, hj, e⟩
      have e' : (if 0 < m j then m j else -6) = b := e
      split at e'
      · exact ⟨j, hj, e'⟩
      · omega
    · rintro ⟨j, hj, e⟩
      refine ⟨j, hj, ?_⟩
      show (if 0 < m j then m j else -6) = b
      rw [if_pos (by omega)]; exact e
  · by_cases q : 0 ≤ W * H
    · refine kf_mk hW hh ⟨fun x hx => ?_, fun j j0 j1 hj => ?_⟩ _ (by omega)
      · exact absurd hx (by simp)
      · have hj' : (if 0 < m j then m j else -6) ≠ -6 := hj
        show (if 0 < m j then h j else -6) ≠ -6
        have := hh j j0 j1
        by_cases c : 0 < m j
        · rw [if_pos c]; omega
        · rw [if_neg c] at hj'; exact absurd rfl hj'
    · have : (W * H).toNat = 0 := by omega
      unfold s0_
      rw [this]
      exact ⟨fun x hx => absurd hx (by simp [mk_]), fun j j0 j1 => by omega⟩
theorem bn_eq {a b : Int → Int} (hab : ∀ c, 0 < c → (bs_ W H a c ↔ bs_ W H b c)) : bn_ W H a = bn_ W H b := by
  refine su_congr _ (fun j j0 _ => ?_)
  by_cases q : bs_ W H a (j + 1)
  · rw [in_pos q, in_pos ((hab _ (by omega)).mp q)]
  · rw [in_neg q, in_neg (fun z => q ((hab _ (by omega)).mpr z))]
theorem in_01 (p : Prop) : 0 ≤ in_ p ∧ in_ p ≤ 1 := by
  by_cases q : p
  · rw [in_pos q]; omega
  · rw [in_neg q]; omega
theorem cn_bs (hw : 0 ≤ W * H) {b : Int} : 0 < cn_ ow b (W * H).toNat ↔ bs_ W H ow b := by
  rw [(cn_pos (W * H).toNat).2]
  constructor
  · rintro ⟨j, hj, e⟩; exact ⟨j, by omega, e⟩
  · rintro ⟨j, hj, e⟩; exact ⟨j, by omega, e⟩
theorem su_zero : ∀ n : Nat, su_ (fun _ => 0) n = 0 := by
  intro n
  induction n with
  | zero => rfl
  | succ n ih => show su_ (fun _ => 0) n + 0 = 0; rw [ih]; rfl
theorem sp_countFlood (ht : tv_ W H σ) (hm : ∀ j, 0 ≤ j → j < W * H → σ 3 j = m j ∧ m j ≤ 99) {Q : Int → fb_St → Prop} (hq : ∀ σ', fr_ [12] σ σ' → Q (bn_ W H m) σ') : wp_X0_countBasins σ Q := by
  have hw := tv_wh ht
  unfold wp_X0_countBasins
  intro σ1 h1
  have f1 : fr_ [12] σ σ1 := fr_fl h1 (by decide)
  have z1 : ∀ j, σ1 12 j = 0 := fun j => by rw [h1]; simp [fb_fill_ap]
  refine fb_lp3 (fun n i σ' => fr_ [12] σ σ' ∧ 0 ≤ i ∧ i ≤ W * H ∧ (∀ b, 1 ≤ b → b ≤ 99 → (σ' 12 b ≠ 0 ↔ ∃ j, (0 ≤ j ∧ j < i) ∧ m j = b)) ∧ n = su_ (fun b => in_ (σ' 12 (b + 1) ≠ 0)) 99) (fun _ i _ => (200 - i).toNat) ?_ 0 0 σ1 ⟨f1, Int.le_refl 0, by omega, fun b _ _ => ⟨fun z => absurd (z1 b) z, fun ⟨j, hj, _⟩ => by omega⟩, ?_⟩
  rotate_left
  · have : su_ (fun b => in_ (σ1 12 (b + 1) ≠ 0)) 99 = su_ (fun _ => 0) 99 := su_congr _ (fun j _ _ => in_neg (fun z => z (z1 _)))
    rw [this, su_zero]
  rintro n i σ' ⟨hf, i0, i1, hp, hn⟩ r hr
  have bd := su_bd (f := fun b => in_ (σ' 12 (b + 1) ≠ 0)) 99 (fun j _ _ => in_01 _)
  rw [← hn] at bd
  unfold wb_X0_countBasins_12 wj_X0_countBasins_54
  rw [hf 1 (by decide), ht.2.2.1, hf 3 (by decide)]
  refine ⟨fun q => ⟨by omega, by omega, ?_⟩, fun q => ?_⟩
  · intro v hv
    obtain ⟨e1, e2⟩ := hm i i0 q
    rw [e1] at hv
    have same : (¬ 0 < v ∨ σ' 12 v ≠ 0) → ∀ b, 1 ≤ b → b ≤ 99 → (σ' 12 b ≠ 0 ↔ ∃ j, (0 ≤ j ∧ j < i + 1) ∧ m j = b) := fun c b b0 b1 => by
      rw [hp b b0 b1]
      constructor
      · rintro ⟨j, hj, e⟩; exact ⟨j, by omega, e⟩
      · rintro ⟨j, hj, e⟩
        by_cases z : j = i
        · subst z
          rcases c with c | c
          · omega
          · obtain ⟨j', hj', e'⟩ := (hp v (by omega) (by omega)).mp c
            exact ⟨j', hj', by omega⟩
        · exact ⟨j, by omega, e⟩
    refine ⟨fun c => ⟨by omega, by omega, fun c2 => ⟨by omega, by omega, ?_⟩, fun c2 => ⟨by omega, hr _ _ _ ⟨hf, by omega, by omega, same (Or.inr c2), hn⟩ (by omega)⟩⟩, fun c => ⟨by omega, hr _ _ _ ⟨hf, by omega, by omega, same (Or.inl c), hn⟩ (by omega)⟩⟩
    intro s hs
    have es : ∀ b, s 12 b = if b = v then 1 else σ' 12 b := fun b => by rw [hs, up_eq]
    refine ⟨by omega, by omega, hr _ _ _ ⟨fr_tr hf (fr_u hs (by decide)), by omega, by omega, fun b b0 b1 => ?_, ?_⟩ (by omega)⟩
    · rw [es]
      by_cases z : b = v
      · rw [if_pos z]
        exact ⟨fun _ => ⟨i, by omega, by omega⟩, fun _ => by decide⟩
      · rw [if_neg z, hp b b0 b1]
        constructor
        · rintro ⟨j, hj, e⟩; exact ⟨j, by omega, e⟩
        · rintro ⟨j, hj, e⟩
          exact ⟨j, by
            have : j ≠ i := fun y => by rw [y] at e; omega
            omega, e⟩
    · have := su_one (f := fun b => in_ (s 12 (b + 1) ≠ 0)) (g := fun b => in_ (σ' 12 (b + 1) ≠ 0)) (b := v - 1) (by omega) 99 (by omega) (fun j j0 j1 jn => by
        rw [es, if_neg (by omega)])
      rw [this, ← hn]
      rw [in_pos (p := s 12 (v - 1 + 1) ≠ 0) (by rw [es, if_pos (by omega)]; decide), in_neg (p := σ' 12 (v - 1 + 1) ≠ 0) (by rw [show v - 1 + 1 = v by omega]; exact fun z => z c2)]
      omega
  · have ei : i = W * H := by omega
    subst ei
    have : n = bn_ W H m := by
      rw [hn]
      refine su_congr _ (fun b b0 b1 => ?_)
      have e := hp (b + 1) (by omega) (by omega)
      by_cases z : σ' 12 (b + 1) ≠ 0
      · rw [in_pos z, in_pos (p := bs_ W H m (b + 1)) (e.mp z)]
      · rw [in_neg z, in_neg (p := bs_ W H m (b + 1)) (fun y => z (e.mpr y))]
    rw [this]
    exact hq σ' hf
theorem bn_part {n : Int} (n0 : 1 ≤ n) : su_ (fun b => in_ (bs_ W H ow (b + 1))) n.toNat = su_ (fun b => in_ (bs_ W H ow (b + 1))) (n - 1).toNat + in_ (bs_ W H ow n) := by
  have := su_snoc (f := fun b => in_ (bs_ W H ow (b + 1))) (N := n - 1) (by omega)
  rw [show n - 1 + 1 = n by omega] at this
  rw [this]
theorem sp_countPour {p : Nat} (hw : 0 ≤ W * H) (hms : ∀ b, 1 ≤ b → b ≤ 99 → σ (p + 5) b = cn_ ow b (W * H).toNat) {Q : Int → fb_St → Prop} (hq : Q (bn_ W H ow) σ) : wp_X3_countBasins p σ Q := by
  unfold wp_X3_countBasins
  refine fb_lp3 (fun n b σ' => σ = σ' ∧ 1 ≤ b ∧ b ≤ 100 ∧ n = su_ (fun b => in_ (bs_ W H ow (b + 1))) (b - 1).toNat) (fun _ b _ => (200 - b).toNat) ?_ 0 1 σ ⟨rfl, by omega, by omega, rfl⟩
  rintro n b σ' ⟨rfl, b0, b1, hn⟩ r hr
  have bd := su_bd (f := fun b => in_ (bs_ W H ow (b + 1))) (b - 1).toNat (fun j _ _ => in_01 _)
  rw [← hn] at bd
  unfold wb_X3_countBasins_4 wj_X3_countBasins_22
  refine ⟨fun q => ?_, fun q => ⟨by omega, by omega, fun c => ⟨by omega, by omega, hr _ _ _ ⟨rfl, by omega, by omega, ?_⟩ (by omega)⟩, fun c => ⟨by omega, hr _ _ _ ⟨rfl, by omega, by omega, ?_⟩ (by omega)⟩⟩⟩
  · have : b = 100 := by omega
    subst this
    rw [hn]; exact hq
  · rw [hms b b0 (by omega), cn_bs hw] at c
    rw [show b + 1 - 1 = b by omega, bn_part b0, in_pos c, hn]
  · rw [hms b b0 (by omega), cn_bs hw] at c
    rw [show b + 1 - 1 = b by omega, bn_part b0, in_neg c, hn]; omega
theorem sm_basins {oo : Nat} (hm : mv_ W H σ) (ho : ∀ j, 0 ≤ j → j < W * H → σ oo j = ow j) {Q : Int → fb_St → Prop} (hq : Q (bn_ W H ow) σ) : wp_X7_basins oo σ Q := by
  have hw := mv_wh hm
  unfold wp_X7_basins
  refine fb_lp3 (fun n b σ' => σ = σ' ∧ 1 ≤ b ∧ b ≤ 100 ∧ n = su_ (fun b => in_ (bs_ W H ow (b + 1))) (b - 1).toNat) (fun _ b _ => (200 - b).toNat) ?_ 0 1 σ ⟨rfl, by omega, by omega, rfl⟩
  rintro n b σ' ⟨rfl, b0, b1, hn⟩ r hr
  have bd := su_bd (f := fun b => in_ (bs_ W H ow (b + 1))) (b - 1).toNat (fun j _ _ => in_01 _)
  rw [← hn] at bd
  unfold wb_X7_basins_4 wj_X7_basins_25
  refine ⟨fun q => sm_dotsOf hm ho ?_, fun q => ?_⟩
  · rw [cn_bs (by omega)]
    refine ⟨fun c => ⟨by omega, ?_⟩, fun c => ⟨by omega, ?_⟩⟩
    · intro v hv
      refine ⟨by omega, hr _ _ _ ⟨rfl, by omega, by omega, ?_⟩ (by omega)⟩
      rw [show b + 1 - 1 = b by omega, bn_part b0, in_pos c, hv, hn]
    · intro v hv
      refine ⟨by omega, hr _ _ _ ⟨rfl, by omega, by omega, ?_⟩ (by omega)⟩
      rw [show b + 1 - 1 = b by omega, bn_part b0, in_neg c, hv, hn]
  · have : b = 100 := by omega
    subst this
    rw [hn]; exact hq
theorem sp_countDams {oo : Nat} (ht : tv_ W H σ) (ho : ∀ j, 0 ≤ j → j < W * H → σ oo j = ow j) {Q : Int → fb_St → Prop} (hq : Q (cn_ ow 0 (W * H).toNat) σ) : wp_X5_countDams oo σ Q := by
  have hw := tv_wh ht
  unfold wp_X5_countDams
  refine fb_lp3 (fun n i σ' => σ = σ' ∧ 0 ≤ i ∧ i ≤ W * H ∧ n = cn_ ow 0 i.toNat) (fun _ i _ => (200 - i).toNat) ?_ 0 0 σ ⟨rfl, by omega, by omega, rfl⟩
  rintro n i σ' ⟨rfl, i0, i1, hn⟩ r hr
  have bd := su_bd (f := fun j => if ow j = 0 then 1 else 0) i.toNat (fun j _ _ => by split <;> omega)
  have bd2 : n = su_ (fun j => if ow j = 0 then 1 else 0) i.toNat := hn
  rw [← bd2] at bd
  unfold wb_X5_countDams_4 wj_X5_countDams_21
  rw [ht.2.2.1]
  have st : cn_ ow 0 (i + 1).toNat = cn_ ow 0 i.toNat + if ow i = 0 then 1 else 0 := su_snoc i0
  refine ⟨fun q => ?_, fun q => by rw [hn, show i = W * H by omega]; exact hq⟩
  rw [ho i i0 q]
  refine ⟨by omega, by omega, fun c => ⟨by omega, by omega, hr _ _ _ ⟨rfl, by omega, by omega, ?_⟩ (by omega)⟩, fun c => ⟨by omega, hr _ _ _ ⟨rfl, by omega, by omega, ?_⟩ (by omega)⟩⟩
  · rw [st, if_pos c, hn]
  · rw [st, if_neg c, hn]; omega
def cm_ (m : Int → Int) (n : Nat) : Int := su_ (fun j => if 0 < m j then 1 else 0) n
theorem cm_step {i : Int} (i0 : 0 ≤ i) : cm_ m (i + 1).toNat = cm_ m i.toNat + if 0 < m i then 1 else 0 := su_snoc i0
theorem cm_bd (n : Nat) : 0 ≤ cm_ m n ∧ cm_ m n ≤ n := su_bd (f := fun j => if 0 < m j then 1 else 0) n (fun j _ _ => by split <;> omega)
theorem sp_countMarks (ht : tv_ W H σ) {Q : Int → fb_St → Prop} (hq : Q (cm_ (σ 3) (W * H).toNat) σ) : wp_X5_countMarks σ Q := by
  have hw := tv_wh ht
  unfold wp_X5_countMarks
  refine fb_lp3 (fun n i σ' => σ = σ' ∧ 0 ≤ i ∧ i ≤ W * H ∧ n = cm_ (σ 3) i.toNat) (fun _ i _ => (200 - i).toNat) ?_ 0 0 σ ⟨rfl, by omega, by omega, rfl⟩
  rintro n i σ' ⟨rfl, i0, i1, hn⟩ r hr
  have bd := cm_bd (m := σ 3) i.toNat
  rw [← hn] at bd
  have st := cm_step (m := σ 3) i0
  unfold wb_X5_countMarks_4 wj_X5_countMarks_24
  rw [ht.2.2.1]
  refine ⟨fun q => ⟨by omega, by omega, fun c => ⟨by omega, by omega, hr _ _ _ ⟨rfl, by omega, by omega, ?_⟩ (by omega)⟩, fun c => ⟨by omega, hr _ _ _ ⟨rfl, by omega, by omega, ?_⟩ (by omega)⟩⟩, fun q => by rw [hn, show i = W * H by omega]; exact hq⟩
  · rw [st, if_pos c, hn]
  · rw [st, if_neg c, hn]; omega
theorem sm_marked (hm : mv_ W H σ) (hk : ∀ j, 0 ≤ j → j < W * H → σ 49 (144 + j) = m j) {Q : Int → fb_St → Prop} (hq : Q (cm_ m (W * H).toNat) σ) : wp_X7_marked σ Q := by
  have hw := mv_wh hm
  unfold wp_X7_marked
  refine fb_lp3 (fun n i σ' => σ = σ' ∧ 0 ≤ i ∧ i ≤ W * H ∧ n = cm_ m i.toNat) (fun _ i _ => (200 - i).toNat) ?_ 0 0 σ ⟨rfl, by omega, by omega, rfl⟩
  rintro n i σ' ⟨rfl, i0, i1, hn⟩ r hr
  have bd := cm_bd (m := m) i.toNat
  rw [← hn] at bd
  have st := cm_step (m := m) i0
  unfold wb_X7_marked_4 wj_X7_marked_31
  refine sm_dots hm ⟨fun q => ?_, fun q => by rw [hn, show i = W * H by omega]; exact hq⟩
  rw [hk i i0 q]
  refine ⟨by omega, by omega, by omega, fun c => ⟨by omega, ?_⟩, fun c => ⟨by omega, ?_⟩⟩
  · intro v hv
    refine ⟨by omega, hr _ _ _ ⟨rfl, by omega, by omega, ?_⟩ (by omega)⟩
    rw [st, if_pos c, hv, hn]
  · intro v hv
    refine ⟨by omega, hr _ _ _ ⟨rfl, by omega, by omega, ?_⟩ (by omega)⟩
    rw [st, if_neg c, hv, hn]
def gm_ (lv : Int → Int) : Nat → Int
  | 0 => -6
  | n + 1 => max (gm_ lv n) (lv n)
theorem gm_step {lv : Int → Int} {i : Int} (i0 : 0 ≤ i) : gm_ lv (i + 1).toNat = max (gm_ lv i.toNat) (lv i) := by
  rw [show (i + 1).toNat = i.toNat + 1 by omega]
  show max (gm_ lv i.toNat) (lv (i.toNat : Int)) = _
  rw [Int.toNat_of_nonneg i0]
theorem sp_greatest {lv : Int → Int} (ht : tv_ W H σ) (hl : ∀ j, 0 ≤ j → j < W * H → σ 10 j = lv j) {Q : Int → fb_St → Prop} (hq : Q (gm_ lv (W * H).toNat) σ) : wp_X0_greatestLevel σ Q := by
  have hw := tv_wh ht
  unfold wp_X0_greatestLevel
  refine fb_lp3 (fun n i σ' => σ = σ' ∧ 0 ≤ i ∧ i ≤ W * H ∧ n = gm_ lv i.toNat) (fun _ i _ => (200 - i).toNat) ?_ (-6) 0 σ ⟨rfl, by omega, by omega, rfl⟩
  rintro n i σ' ⟨rfl, i0, i1, hn⟩ r hr
  unfold wb_X0_greatestLevel_5
  rw [ht.2.2.1]
  refine ⟨fun q => ⟨by omega, by omega, ?_⟩, fun q => by rw [hn, show i = W * H by omega]; exact hq⟩
  intro v hv
  refine ⟨by omega, hr _ _ _ ⟨rfl, by omega, by omega, ?_⟩ (by omega)⟩
  rw [gm_step i0, hv, hn, hl i i0 q]
theorem sm_greatest {lv : Int → Int} (hm : mv_ W H σ) (hl : ∀ j, 0 ≤ j → j < W * H → σ 56 j = lv j) {Q : Int → fb_St → Prop} (hq : Q (gm_ lv (W * H).toNat) σ) : wp_X7_greatestLevel σ Q := by
  have hw := mv_wh hm
  unfold wp_X7_greatestLevel
  refine fb_lp3 (fun n i σ' => σ = σ' ∧ 0 ≤ i ∧ i ≤ W * H ∧ n = gm_ lv i.toNat) (fun _ i _ => (200 - i).toNat) ?_ (-6) 0 σ ⟨rfl, by omega, by omega, rfl⟩
  rintro n i σ' ⟨rfl, i0, i1, hn⟩ r hr
  unfold wb_X7_greatestLevel_5
  refine sm_dots hm ⟨fun q => ⟨by omega, by omega, sm_greater ⟨by omega, hr _ _ _ ⟨rfl, by omega, by omega, ?_⟩ (by omega)⟩⟩, fun q => by rw [hn, show i = W * H by omega]; exact hq⟩
  rw [gm_step i0, hn, hl i i0 q]
theorem ba_model {σ' : fb_St} (hb : ba_ W H σ) (hf : ∀ k, k < 48 ∨ k = 49 ∨ k = 50 ∨ k = 51 → σ' k = σ k) : ba_ W H σ' := ba_eq hb (fun k hk => by simp only [List.mem_cons, List.not_mem_nil, or_false] at hk; exact hf k (by omega)) (by rw [hf 0 (by omega)]) (by rw [hf 0 (by omega)])
theorem ca_model {σ' : fb_St} (hc : ca_ W H σ) (hf : ∀ k, k < 48 ∨ k = 49 ∨ k = 50 ∨ k = 51 → σ' k = σ k) : ca_ W H σ' := ca_eq hc (hf 0 (by omega)) (fun k _ h2 => hf k (by omega))
end CNT
