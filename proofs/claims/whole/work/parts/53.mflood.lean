/-! ===== the model's flood ===== -/
theorem sm_basinBeside {W H : Int} {σ : fb_St} {ow : Int → Int} {oo : Nat} {i : Int} (hm : mv_ W H σ) (hi : 0 ≤ i ∧ i < W * H) (ho : ∀ j, 0 ≤ j → j < W * H → σ oo j = ow j) {Q : Int → fb_St → Prop} (h : Q (ar_ W H ow i) σ) : wp_X7_basinBeside oo i σ Q := by
  have hw := mv_wh hm
  unfold wp_X7_basinBeside
  refine fb_lp4 (fun x2 x3 d σ' => i = x2 ∧ σ = σ' ∧ 0 ≤ d ∧ d ≤ 4 ∧ x3 = ar_n W H ow i d.toNat) (fun _ _ d _ => (4 - d).toNat) ?_ i (-6) 0 σ ⟨rfl, rfl, Int.le_refl 0, by omega, rfl⟩
  rintro x2 x3 d σ' ⟨rfl, rfl, d0, d1, e3⟩ r6 hr6
  unfold wb_X7_basinBeside_6
  refine ⟨fun c1 => ?_, fun c1 => by rw [show d.toNat = 4 by omega] at e3; rw [e3]; exact h⟩
  have es : ar_n W H ow i (d + 1).toNat = sb_1 x3 (ob_ W H ow i d) := by
    rw [show (d + 1).toNat = d.toNat + 1 by omega, e3]
    show sb_1 _ (ob_ W H ow i (d.toNat : Int)) = _
    rw [Int.toNat_of_nonneg d0]
  have tail : ∀ s0, sb_1 x3 s0 = sb_1 x3 (ob_ W H ow i d) → wj_X7_basinBeside_35 oo r6 Q i x3 d s0 σ := by
    intro s0 hs
    have go : ∀ v, v = sb_1 x3 s0 → fb_in (d + 1) ∧ r6 i v (d + 1) σ := fun v hv => ⟨by omega, hr6 _ _ _ _ ⟨rfl, rfl, by omega, by omega, by rw [es, hv, hs]⟩ (by omega)⟩
    unfold wj_X7_basinBeside_35 wj_X7_basinBeside_54 wj_X7_basinBeside_60 wj_X7_basinBeside_61
    refine ⟨fun p => ⟨fun z => go _ (by unfold sb_1; rw [if_pos p, if_pos (Or.inl z)]), fun z => ⟨fun y => go _ (by unfold sb_1; rw [if_pos p, if_pos (Or.inr y)]), fun y => go _ (by unfold sb_1; rw [if_pos p, if_neg (by omega)])⟩⟩, fun p => go _ (by unfold sb_1; rw [if_neg p])⟩
  refine sm_beside hm hi.1 hi.2 ⟨d0, c1⟩ (fun n1 => ⟨fun _ => tail _ ?_, fun z => by omega⟩) (fun n0 n1 => ⟨fun z => by omega, fun _ => ⟨n0, by omega, tail _ ?_⟩⟩)
  · have : ob_ W H ow i d = -6 := by unfold ob_; rw [if_neg (by omega)]
    rw [this]
  · rw [ho _ n0 n1]
    by_cases p : 0 < ow (nb_ W H i d)
    · have : ob_ W H ow i d = ow (nb_ W H i d) := by unfold ob_; rw [if_pos ⟨by omega, p⟩]
      rw [this]
    · have : ob_ W H ow i d = -6 := by unfold ob_; rw [if_neg (fun q => p q.2)]
      rw [this]; unfold sb_1; rw [if_neg p, if_neg (by omega)]
theorem sm_greater {a b : Int} {σ : fb_St} {Q : Int → fb_St → Prop} (h : Q (max a b) σ) : wp_X7_greater a b σ Q := by
  unfold wp_X7_greater wj_X7_greater_10
  refine ⟨fun z => ?_, fun z => ?_⟩
  · rw [show max a b = a by omega] at h; exact h
  · rw [show max a b = b by omega] at h; exact h
/-- the line of the model -/
def ql_ (ln tk : Int → Int) : Nat → List Int
  | 0 => []
  | n + 1 => if tk n = 0 then ql_ ln tk n ++ [ln n] else ql_ ln tk n
theorem ql_cong {ln tk ln' tk' : Int → Int} : ∀ n : Nat, (∀ k : Int, 0 ≤ k → k < n → ln' k = ln k ∧ tk' k = tk k) → ql_ ln' tk' n = ql_ ln tk n := by
  intro n
  induction n with
  | zero => intro _; rfl
  | succ n ih =>
    intro h
    unfold ql_
    rw [ih (fun k h0 h1 => h k h0 (by omega)), (h n (by omega) (by omega)).1, (h n (by omega) (by omega)).2]
theorem ql_mem {ln tk : Int → Int} {x : Int} : ∀ n : Nat, x ∈ ql_ ln tk n ↔ ∃ k : Int, 0 ≤ k ∧ k < n ∧ tk k = 0 ∧ ln k = x := by
  intro n
  induction n with
  | zero => exact ⟨fun h => (by cases h), fun ⟨k, h0, h1, _⟩ => (by omega)⟩
  | succ n ih =>
    unfold ql_
    by_cases e : tk n = 0
    · rw [if_pos e, List.mem_append, ih]
      constructor
      · rintro (⟨k, k0, k1, k2⟩ | h)
        · exact ⟨k, k0, by omega, k2⟩
        · have h' : x = ln n := by simpa using h
          exact ⟨n, by omega, by omega, e, h'.symm⟩
      · rintro ⟨k, k0, k1, k2, k3⟩
        by_cases ek : k = n
        · rw [ek] at k3; exact Or.inr (by simpa using k3.symm)
        · exact Or.inl ⟨k, k0, by omega, k2, k3⟩
    · rw [if_neg e, ih]
      constructor
      · rintro ⟨k, k0, k1, k2⟩; exact ⟨k, k0, by omega, k2⟩
      · rintro ⟨k, k0, k1, k2, k3⟩
        by_cases ek : k = n
        · rw [ek] at k2; exact absurd k2 e
        · exact ⟨k, k0, by omega, k2, k3⟩
theorem ql_take {ln tk : Int → Int} {x : Int} (x0 : 0 ≤ x) : ∀ n : Nat, x < n → (∀ a b : Int, 0 ≤ a → a < b → b < n → ln a ≠ ln b) → ql_ ln (fun j => if j = x then 1 else tk j) n = (ql_ ln tk n).filter (fun y => decide (y ≠ ln x)) := by
  have out : ∀ n : Nat, (n : Int) ≤ x → (∀ a : Int, 0 ≤ a → a < n → ln a ≠ ln x) → ql_ ln (fun j => if j = x then 1 else tk j) n = (ql_ ln tk n).filter (fun y => decide (y ≠ ln x)) := by
    intro n hn ha
    rw [ql_cong (ln := ln) (tk := tk) n (fun k k0 k1 => ⟨rfl, by rw [if_neg (by omega)]⟩)]
    refine (List.filter_eq_self.mpr (fun y hy => ?_)).symm
    obtain ⟨k, k0, k1, k2, k3⟩ := (ql_mem n).mp hy
    rw [← k3]
    simpa using ha k k0 k1
  intro n
  induction n with
  | zero => intro h; omega
  | succ n ih =>
    intro hx hinj
    unfold ql_
    by_cases e : x = n
    · rw [if_pos e.symm, if_neg (by decide), out n (by omega) (fun a a0 a1 => hinj a x a0 (by omega) (by omega))]
      by_cases t : tk n = 0
      · rw [if_pos t, List.filter_append, e]; simp
      · rw [if_neg t]
    · rw [show (if (n : Int) = x then (1 : Int) else tk n) = tk n from if_neg (fun q => e q.symm), ih (by omega) (fun a b a0 a1 a2 => hinj a b a0 a1 (by omega))]
      by_cases t : tk n = 0
      · rw [if_pos t, if_pos t, List.filter_append]
        have : ¬ ln n = ln x := fun q => hinj x n x0 (by omega) (by omega) q.symm
        simp [this]
      · rw [if_neg t, if_neg t]
theorem bst_snoc {lv : Int → Int} {y : Int} : ∀ {q : List Int}, (∀ x ∈ q, 0 ≤ x) → 0 ≤ y → bst_ lv (q ++ [y]) = if q = [] then y else if lv y < lv (bst_ lv q) then y else bst_ lv q := by
  intro q
  induction q with
  | nil =>
    intro _ _
    show (if bst_ lv [] ≠ -1 ∧ _ then _ else y) = _
    rw [if_neg (fun q => q.1 rfl), if_pos rfl]
  | cons x q ih =>
    intro hq hy
    have hq' : ∀ x ∈ q, 0 ≤ x := fun z hz => hq z (List.mem_cons_of_mem _ hz)
    have hx := hq x List.mem_cons_self
    have h1 := ih hq' hy
    rw [if_neg (by simp)]
    show (if bst_ lv (q ++ [y]) ≠ -1 ∧ lv (bst_ lv (q ++ [y])) < lv x then bst_ lv (q ++ [y]) else x) = _
    rw [h1]
    show _ = if lv y < lv (if bst_ lv q ≠ -1 ∧ lv (bst_ lv q) < lv x then bst_ lv q else x) then y else (if bst_ lv q ≠ -1 ∧ lv (bst_ lv q) < lv x then bst_ lv q else x)
    by_cases e : q = []
    · rw [if_pos e, e]
      have : bst_ lv [] = -1 := rfl
      rw [this, if_neg (show ¬ ((-1 : Int) ≠ -1 ∧ lv (-1) < lv x) from fun q => q.1 rfl)]
      by_cases c : lv y < lv x
      · rw [if_pos ⟨by omega, c⟩, if_pos c]
      · rw [if_neg (fun q => c q.2), if_neg c]
    · rw [if_neg e]
      have hb : bst_ lv q ≠ -1 := fun z => e ((bst_nil hq').mp z)
      by_cases c : lv y < lv (bst_ lv q)
      · rw [if_pos c]
        by_cases c2 : lv (bst_ lv q) < lv x
        · rw [if_pos (show bst_ lv q ≠ -1 ∧ lv (bst_ lv q) < lv x from ⟨hb, c2⟩), if_pos c, if_pos ⟨by omega, by omega⟩]
        · rw [if_neg (show ¬ (bst_ lv q ≠ -1 ∧ lv (bst_ lv q) < lv x) from fun q => c2 q.2)]
          by_cases c3 : lv y < lv x
          · rw [if_pos ⟨by omega, c3⟩, if_pos c3]
          · rw [if_neg (fun q => c3 q.2), if_neg c3]
      · rw [if_neg c]
        by_cases c2 : lv (bst_ lv q) < lv x
        · rw [if_pos ⟨hb, c2⟩, if_neg c]
        · rw [if_neg (fun q => c2 q.2), if_neg (by omega)]
/-- the model's flood under way -/
def md_ (W H : Int) (σ : fb_St) (ow lv tn : Int → Int) (q : List Int) : Prop :=
  (∀ j, 0 ≤ j → j < W * H → σ 55 j = ow j ∧ σ 56 j = lv j ∧ σ 57 j = tn j) ∧ 0 ≤ σ 48 11 ∧ q = ql_ (σ 58) (σ 59) (σ 48 11).toNat ∧
  (∀ k, 0 ≤ k → k < σ 48 11 → (0 ≤ σ 58 k ∧ σ 58 k < W * H) ∧ 0 ≤ lv (σ 58 k)) ∧ (∀ a b, 0 ≤ a → a < b → b < σ 48 11 → σ 58 a ≠ σ 58 b) ∧
  σ 48 11 + su_ (fun j => if lv j = -6 then 1 else 0) (W * H).toNat ≤ W * H ∧ (∀ j, 0 ≤ j → j < W * H → lv j = -6 → ow j = -6)
section MFL
variable {W H : Int} {σ : fb_St} {h m ow lv tn : Int → Int} {q : List Int}
theorem md_N (hw : 1 ≤ W * H) (hd : md_ W H σ ow lv tn q) : σ 48 11 ≤ W * H := by
  have := (su_bd (f := fun j => if lv j = -6 then 1 else 0) (W * H).toNat (fun j _ _ => by split <;> omega)).1
  have := hd.2.2.2.2.2.1
  omega
theorem sm_first (hm : mv_ W H σ) (hd : md_ W H σ ow lv tn q) {Q : Int → fb_St → Prop} (h0 : q = [] → Q (-6) σ) (h1 : ∀ x, 0 ≤ x → x < σ 48 11 → σ 59 x = 0 → σ 58 x = bst_ lv q → q ≠ [] → Q x σ) : wp_X7_first σ Q := by
  have hw := mv_wh hm
  have hN := md_N hw.2.1 hd
  obtain ⟨ha, hn0, rfl, hln, hinj, hct, how⟩ := hd
  unfold wp_X7_first
  refine fb_lp3 (fun x k σ' => σ = σ' ∧ 0 ≤ k ∧ k ≤ σ 48 11 ∧ ((ql_ (σ 58) (σ 59) k.toNat = [] ∧ x = -6) ∨ (0 ≤ x ∧ x < k ∧ σ 59 x = 0 ∧ σ 58 x = bst_ lv (ql_ (σ 58) (σ 59) k.toNat) ∧ ql_ (σ 58) (σ 59) k.toNat ≠ []))) (fun _ k _ => (200 - k).toNat) ?_ (-6) 0 σ ⟨rfl, Int.le_refl 0, hn0, Or.inl ⟨rfl, rfl⟩⟩
  rintro x k σ' ⟨rfl, k0, k1, hx⟩ r5 hr5
  unfold wb_X7_first_5 wj_X7_first_51 wj_X7_first_53
  refine ⟨fun c1 => ⟨k0, by omega, fun t => ?_, fun t => ⟨by omega, hr5 _ _ _ ⟨rfl, by omega, by omega, ?_⟩ (by omega)⟩⟩, fun c1 => ?_⟩
  · have es : ql_ (σ 58) (σ 59) (k + 1).toNat = ql_ (σ 58) (σ 59) k.toNat ++ [σ 58 k] := by
      rw [show (k + 1).toNat = k.toNat + 1 by omega]
      show (if σ 59 (k.toNat : Int) = 0 then _ else _) = _
      rw [Int.toNat_of_nonneg k0, if_pos t]
    have hk := hln k k0 c1
    have hpos : ∀ y ∈ ql_ (σ 58) (σ 59) k.toNat, 0 ≤ y := fun y hy => by
      obtain ⟨z, z0, z1, -, z3⟩ := (ql_mem _).mp hy
      rw [← z3]; exact (hln z z0 (by omega)).1.1
    have hb := bst_snoc (lv := lv) (y := σ 58 k) hpos hk.1.1
    have newk : (ql_ (σ 58) (σ 59) k.toNat = [] ∨ lv (σ 58 k) < lv (bst_ lv (ql_ (σ 58) (σ 59) k.toNat))) → fb_in (k + 1) ∧ r5 k (k + 1) σ := fun z => ⟨by omega, hr5 _ _ _ ⟨rfl, by omega, by omega, Or.inr ⟨k0, by omega, t, by
      rw [es, hb]
      rcases z with z | z
      · rw [if_pos z]
      · split
        · rfl
        · first | rfl | rw [if_pos z], by rw [es]; simp⟩⟩ (by omega)⟩
    rcases hx with ⟨x1, x2⟩ | ⟨x0, x1, x2, x3, x4⟩
    · exact ⟨fun _ => newk (Or.inl x1), fun z => by omega⟩
    · have hxr := hln x x0 (by omega)
      refine ⟨fun z => by omega, fun _ => ⟨k0, by omega, hk.1.1, by omega, x0, by omega, hxr.1.1, by omega, ?_⟩⟩
      rw [(ha _ hk.1.1 hk.1.2).2.1, (ha _ hxr.1.1 hxr.1.2).2.1, x3]
      refine ⟨fun z => newk (Or.inr z), fun z => ⟨by omega, hr5 _ _ _ ⟨rfl, by omega, by omega, Or.inr ⟨x0, by omega, x2, by rw [es, hb, if_neg x4, if_neg z]; exact x3, by rw [es]; simp⟩⟩ (by omega)⟩⟩
  · have es : ql_ (σ 58) (σ 59) (k + 1).toNat = ql_ (σ 58) (σ 59) k.toNat := by
      rw [show (k + 1).toNat = k.toNat + 1 by omega]
      show (if σ 59 (k.toNat : Int) = 0 then _ else _) = _
      rw [Int.toNat_of_nonneg k0, if_neg t]
    rw [es]
    exact hx.imp id (fun ⟨a, b, c⟩ => ⟨a, by omega, c⟩)
  · rw [show k = σ 48 11 by omega] at hx
    rcases hx with ⟨x1, x2⟩ | ⟨x0, x1, x2, x3, x4⟩
    · rw [x2]; exact h0 x1
    · exact h1 x x0 x1 x2 x3 x4
theorem sm_spill {i : Int} (hm : mv_ W H σ) (hh : ∀ j, 0 ≤ j → j < W * H → σ 49 j = h j) (hi : 0 ≤ i ∧ i < W * H) (hd : md_ W H σ ow lv tn q) (hlv : 0 ≤ lv i) (ht : Int) (hlen : ht + q.length ≤ σ 48 11) {Q : Int → fb_St → Prop}
    (hq : ∀ σ', fr_ [48, 56, 58, 59] σ σ' → md_ W H σ' ow (spn_ W H h i 4 (lv, q)).1 tn (spn_ W H h i 4 (lv, q)).2 → ht + ((spn_ W H h i 4 (lv, q)).2).length ≤ σ' 48 11 → Q 0 σ') : wp_X7_spill i σ Q := by
  have hw := mv_wh hm
  unfold wp_X7_spill
  refine fb_lp3 (fun x1 d σ' => i = x1 ∧ 0 ≤ d ∧ d ≤ 4 ∧ fr_ [48, 56, 58, 59] σ σ' ∧ md_ W H σ' ow (spn_ W H h i d.toNat (lv, q)).1 tn (spn_ W H h i d.toNat (lv, q)).2 ∧ ht + ((spn_ W H h i d.toNat (lv, q)).2).length ≤ σ' 48 11) (fun _ d _ => (4 - d).toNat) ?_ i 0 σ ⟨rfl, Int.le_refl 0, by omega, fr_rf, hd, hlen⟩
  rintro x1 d σ1 ⟨rfl, d0, d1, hf1, hd1, hl1⟩ r2 hr2
  have hself := spn_self (W := W) (H := H) (i := i) (h := h) (s := (lv, q)) (by dsimp only; omega) d.toNat
  have hsn := spn_snoc (W := W) (H := H) (i := i) (h := h) (s := (lv, q)) d0
  have hm1 : mv_ W H σ1 := mv_eq hm (hf1 49 (by decide))
  have e49 : σ1 49 = σ 49 := hf1 49 (by decide)
  generalize hs : spn_ W H h i d.toNat (lv, q) = s at *
  obtain ⟨l1, q1⟩ := s
  dsimp only at hself hd1 hl1
  have hN := md_N hw.2.1 hd1
  unfold wb_X7_spill_2 wj_X7_spill_91
  refine ⟨fun c1 => ?_, fun c1 => ?_⟩
  · have same : ¬ (nb_ W H i d ≠ -1 ∧ l1 (nb_ W H i d) = -6) → fb_in (d + 1) ∧ r2 i (d + 1) σ1 := fun z => ⟨by omega, hr2 _ _ _ ⟨rfl, by omega, by omega, hf1, by rw [hsn]; unfold sp1_; rw [if_neg z]; exact ⟨hd1, hl1⟩⟩ (by omega)⟩
    refine sm_beside hm1 hi.1 hi.2 ⟨d0, c1⟩ (fun n1 => ⟨fun _ => same (fun y => y.1 n1), fun z => by omega⟩) (fun n0 n1 => ⟨fun z => by omega, fun _ => ⟨n0, by omega, ?_⟩⟩)
    obtain ⟨ha, hn0, hql, hln, hinj, hct, how⟩ := hd1
    rw [(ha _ n0 n1).1, (ha _ n0 n1).2.1]
    refine ⟨fun z5 => ⟨n0, by omega, fun z6 => ⟨n0, by omega, by omega, by omega, sm_greater ⟨n0, by omega, fun σ2 h2 => ?_⟩⟩, fun z6 => same (fun y => z6 y.2)⟩, fun z5 => same (fun y => z5 (how _ n0 n1 y.2))⟩
    have ev : max (σ1 49 (nb_ W H i d)) (σ1 56 i) = max (h (nb_ W H i d)) (l1 i) := by rw [e49, hh _ n0 n1, (ha i hi.1 hi.2).2.1]
    rw [ev] at h2
    have hhk : 0 ≤ h (nb_ W H i d) := by have := hm.2.2.2.2.1 _ n0 (by omega); have := hh _ n0 n1; omega
    have hsu := su_one (f := fun j => if (if j = nb_ W H i d then max (h (nb_ W H i d)) (l1 i) else l1 j) = -6 then (1 : Int) else 0) (g := fun j => if l1 j = -6 then 1 else 0) n0 (W * H).toNat (by omega) (fun j _ _ e => by rw [if_neg e])
    simp only [if_true] at hsu
    rw [if_pos z6, if_neg (by omega)] at hsu
    have hsu0 := (su_bd (f := fun j => if (if j = nb_ W H i d then max (h (nb_ W H i d)) (l1 i) else l1 j) = -6 then (1 : Int) else 0) (W * H).toNat (fun j _ _ => by split <;> omega)).1
    have g48 : σ2 48 = σ1 48 := by rw [h2, up_ne _ _ _ (by decide)]
    rw [g48]
    refine ⟨hn0, by omega, fun σ3 h3 => ?_⟩
    have g48' : σ3 48 = σ1 48 := by rw [h3, up_ne _ _ _ (by decide), g48]
    rw [g48']
    refine ⟨hn0, by omega, fun σ4 h4 => ?_⟩
    have g48'' : σ4 48 = σ1 48 := by rw [h4, up_ne _ _ _ (by decide), g48']
    rw [g48'']
    refine ⟨by omega, fun σ5 h5 => ⟨by omega, ?_⟩⟩
    have hf5 : fr_ [48, 56, 58, 59] σ1 σ5 := by
      subst h5; subst h4; subst h3; subst h2
      exact fr_tr (fr_up (k := 56) (by decide)) (fr_tr (fr_up (k := 58) (by decide)) (fr_tr (fr_up (k := 59) (by decide)) (fr_up (k := 48) (by decide))))
    have k48 : σ5 48 11 = σ1 48 11 + 1 := by rw [h5, up_eq]; simp
    have k56 : σ5 56 = fun j => if j = nb_ W H i d then max (h (nb_ W H i d)) (l1 i) else σ1 56 j := by rw [h5, up_ne _ _ _ (by decide), h4, up_ne _ _ _ (by decide), h3, up_ne _ _ _ (by decide), h2, up_eq]
    have k58 : σ5 58 = fun j => if j = σ1 48 11 then nb_ W H i d else σ1 58 j := by rw [h5, up_ne _ _ _ (by decide), h4, up_ne _ _ _ (by decide), h3, up_eq, h2, up_ne _ _ _ (by decide)]
    have k59 : σ5 59 = fun j => if j = σ1 48 11 then 0 else σ1 59 j := by rw [h5, up_ne _ _ _ (by decide), h4, up_eq, h3, up_ne _ _ _ (by decide), h2, up_ne _ _ _ (by decide)]
    refine hr2 _ _ _ ⟨rfl, by omega, by omega, fr_tr hf1 hf5, ?_⟩ (by omega)
    rw [hsn]
    unfold sp1_
    rw [if_pos ⟨by omega, z6⟩]
    dsimp only
    refine ⟨⟨fun j j0 j1 => ?_, by omega, ?_, fun k k0 k1 => ?_, fun a b a0 ab b1 => ?_, (by show _ + su_ (fun j => if (if j = nb_ W H i d then max (h (nb_ W H i d)) (l1 i) else l1 j) = -6 then (1 : Int) else 0) _ ≤ _; omega), fun j j0 j1 hj => ?_⟩, (by rw [List.length_append, k48]; simp; omega)⟩
    · rw [hf5 55 (by decide), k56, hf5 57 (by decide)]
      obtain ⟨b1, b2, b3⟩ := ha j j0 j1
      refine ⟨b1, ?_, b3⟩
      dsimp only
      split
      · rfl
      · exact b2
    · rw [k48, show (σ1 48 11 + 1).toNat = (σ1 48 11).toNat + 1 by omega]
      show _ = if σ5 59 ((σ1 48 11).toNat : Int) = 0 then ql_ (σ5 58) (σ5 59) (σ1 48 11).toNat ++ [σ5 58 ((σ1 48 11).toNat : Int)] else _
      have t1 : σ5 59 (σ1 48 11) = 0 := by rw [k59]; dsimp only; rw [if_pos rfl]
      have t2 : σ5 58 (σ1 48 11) = nb_ W H i d := by rw [k58]; dsimp only; rw [if_pos rfl]
      rw [Int.toNat_of_nonneg hn0, if_pos t1, t2, hql]
      congr 1
      exact (ql_cong _ (fun k k0 k1 => ⟨by rw [k58]; dsimp only; rw [if_neg (by omega)], by rw [k59]; dsimp only; rw [if_neg (by omega)]⟩)).symm
    · rw [k58]
      dsimp only
      by_cases e : k = σ1 48 11
      · rw [if_pos e, if_pos rfl]; exact ⟨⟨n0, n1⟩, by omega⟩
      · rw [if_neg e]
        have := hln k k0 (by omega)
        refine ⟨this.1, ?_⟩
        rw [if_neg (fun e' => by rw [e'] at this; have := this.2; omega)]
        exact this.2
    · rw [k58]
      dsimp only
      rw [if_neg (show ¬ a = σ1 48 11 by omega)]
      by_cases e : b = σ1 48 11
      · rw [if_pos e]
        intro e'
        have := hln a a0 (by omega)
        rw [e'] at this
        have := this.2
        omega
      · rw [if_neg e]; exact hinj a b a0 ab (by omega)
    · dsimp only at hj
      by_cases e : j = nb_ W H i d
      · rw [if_pos e] at hj; omega
      · rw [if_neg e] at hj; exact how j j0 j1 hj
  · rw [show d.toNat = 4 by omega] at hs
    refine hq σ1 hf1 ?_ ?_
    · rw [hs]; exact hd1
    · rw [hs]; exact hl1
end MFL
