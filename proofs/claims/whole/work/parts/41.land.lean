/-! ===== the land: dots and neighbours ===== -/
theorem dm_ {W x y : Int} (hW : 0 < W) (hx : 0 ≤ x) (hx2 : x < W) : (W * y + x) / W = y ∧ (W * y + x) % W = x := by
  constructor
  · rw [Int.add_comm, Int.add_mul_ediv_left _ _ (by omega), Int.ediv_eq_zero_of_lt hx hx2]; omega
  · rw [Int.add_comm, Int.add_mul_emod_self_left, Int.emod_eq_of_lt hx hx2]
theorem xy_ {W H i : Int} (hW : 0 < W) (h0 : 0 ≤ i) (h1 : i < W * H) : i = W * (i / W) + i % W ∧ 0 ≤ i % W ∧ i % W < W ∧ 0 ≤ i / W ∧ i / W < H := by
  have e := Int.mul_ediv_add_emod i W
  have a := Int.emod_nonneg i (show W ≠ 0 by omega)
  have b := Int.emod_lt_of_pos i hW
  have c := Int.ediv_nonneg h0 (show 0 ≤ W by omega)
  refine ⟨by omega, a, b, c, ?_⟩
  exact Int.ediv_lt_of_lt_mul hW (by rw [Int.mul_comm]; exact h1)
theorem wl_ {W y z : Int} (hW : 0 < W) (h : y ≤ z) : W * y ≤ W * z := Int.mul_le_mul_of_nonneg_left h (by omega)
theorem nb_rng {W H i : Int} (d : Int) (hW : 0 < W) (h0 : 0 ≤ i) (h1 : i < W * H) : nb_ W H i d = -1 ∨ 0 ≤ nb_ W H i d ∧ nb_ W H i d < W * H := by
  obtain ⟨e, a, b, c, f⟩ := xy_ hW h0 h1
  unfold nb_
  generalize i / W = y at *
  generalize i % W = x at *
  have g1 : W * (y + 1) = W * y + W := by rw [Int.mul_add]; omega
  have g2 : W * (y + 1) ≤ W * H := wl_ hW (by omega)
  split
  · split <;> omega
  · split
    · split
      · have := wl_ (z := H) hW (show y + 2 ≤ H by omega)
        have : W * (y + 2) = W * y + W + W := by rw [Int.mul_add]; omega
        omega
      · omega
    · split
      · split <;> omega
      · split
        · have := wl_ (y := 1) (z := y) hW (by omega)
          omega
        · omega
/-- a neighbour's own neighbour is the dot -/
theorem nb_back {W H i : Int} {d : Int} (hd : 0 ≤ d ∧ d < 4) (hW : 0 < W) (h0 : 0 ≤ i) (h1 : i < W * H) (hn : nb_ W H i d ≠ -1) : ∃ d', 0 ≤ d' ∧ d' < 4 ∧ (d < 2 ↔ ¬ d' < 2) ∧ nb_ W H (nb_ W H i d) d' = i := by
  obtain ⟨e, a, b, c, f⟩ := xy_ hW h0 h1
  have hr := nb_rng d hW h0 h1
  have k : ∀ x y : Int, 0 ≤ x → x < W → (W * y + x) / W = y ∧ (W * y + x) % W = x := fun x y p q => dm_ hW p q
  rcases (show d = 0 ∨ d = 1 ∨ d = 2 ∨ d = 3 by omega) with rfl | rfl | rfl | rfl
  · refine ⟨2, by omega, by omega, by omega, ?_⟩
    have hx : i % W + 1 < W := by
      by_cases q : (i % W + 1) < W
      · exact q
      · exact absurd (by unfold nb_; rw [if_pos rfl, if_neg (by omega)]) hn
    have e1 : nb_ W H i 0 = i + 1 := by unfold nb_; rw [if_pos rfl, if_pos hx]
    rw [e1]
    obtain ⟨q1, q2⟩ := k (i % W + 1) (i / W) (by omega) hx
    have e2 : i + 1 = W * (i / W) + (i % W + 1) := by omega
    unfold nb_
    rw [if_neg (by decide), if_neg (by decide), if_pos rfl, e2, q2, if_pos (by omega)]
    omega
  · refine ⟨3, by omega, by omega, by omega, ?_⟩
    have hx : i / W + 1 < H := by
      by_cases q : (i / W + 1) < H
      · exact q
      · exact absurd (by unfold nb_; rw [if_neg (by decide), if_pos rfl, if_neg (by omega)]) hn
    have e1 : nb_ W H i 1 = i + W := by unfold nb_; rw [if_neg (by decide), if_pos rfl, if_pos hx]
    rw [e1]
    obtain ⟨q1, q2⟩ := k (i % W) (i / W + 1) a b
    have e2 : i + W = W * (i / W + 1) + i % W := by rw [Int.mul_add]; omega
    unfold nb_
    rw [if_neg (by decide), if_neg (by decide), if_neg (by decide), e2, q1, if_pos (by omega)]
    omega
  · refine ⟨0, by omega, by omega, by omega, ?_⟩
    have hx : 0 < i % W := by
      by_cases q : 0 < (i % W)
      · exact q
      · exact absurd (by unfold nb_; rw [if_neg (by decide), if_neg (by decide), if_pos rfl, if_neg (by omega)]) hn
    have e1 : nb_ W H i 2 = i - 1 := by unfold nb_; rw [if_neg (by decide), if_neg (by decide), if_pos rfl, if_pos hx]
    rw [e1]
    obtain ⟨q1, q2⟩ := k (i % W - 1) (i / W) (by omega) (by omega)
    have e2 : i - 1 = W * (i / W) + (i % W - 1) := by omega
    unfold nb_
    rw [if_pos rfl, e2, q2, if_pos (by omega)]
    omega
  · refine ⟨1, by omega, by omega, by omega, ?_⟩
    have hx : 0 < i / W := by
      by_cases q : 0 < (i / W)
      · exact q
      · exact absurd (by unfold nb_; rw [if_neg (by decide), if_neg (by decide), if_neg (by decide), if_neg (by omega)]) hn
    have e1 : nb_ W H i 3 = i - W := by unfold nb_; rw [if_neg (by decide), if_neg (by decide), if_neg (by decide), if_pos hx]
    rw [e1]
    obtain ⟨q1, q2⟩ := k (i % W) (i / W - 1) a b
    have e2 : i - W = W * (i / W - 1) + i % W := by rw [Int.mul_sub]; omega
    unfold nb_
    rw [if_neg (by decide), if_pos rfl, e2, q1, if_pos (by omega)]
    omega
/-- two dots side by side -/
def ad_ (W H i j : Int) : Prop := 0 ≤ i ∧ i < W * H ∧ 0 ≤ j ∧ ∃ d, 0 ≤ d ∧ d < 4 ∧ nb_ W H i d = j
theorem ad_sym {W H i j : Int} (hW : 0 < W) (h : ad_ W H i j) : ad_ W H j i := by
  obtain ⟨a, b, c, d, d0, d1, e⟩ := h
  have hr := nb_rng d hW a b
  obtain ⟨d', f1, f2, -, f3⟩ := nb_back ⟨d0, d1⟩ hW a b (by omega)
  rw [e] at f3 hr
  exact ⟨c, by omega, a, d', f1, f2, f3⟩
theorem ad_lt {W H i j : Int} (hW : 0 < W) (h : ad_ W H i j) : 0 ≤ j ∧ j < W * H := by
  obtain ⟨a, b, -⟩ := ad_sym hW h
  exact ⟨a, b⟩
/-- what is come to from a dot by dots of a kind -/
def rc_ (W H : Int) (P : Int → Prop) (s j : Int) : Prop := ∀ S : Int → Prop, (P s → S s) → (∀ a b, S a → ad_ W H a b → P b → S b) → S j
theorem rc_self {W H : Int} {P : Int → Prop} {s : Int} (h : P s) : rc_ W H P s s := fun _ h1 _ => h1 h
theorem rc_step {W H : Int} {P : Int → Prop} {s a b : Int} (h : rc_ W H P s a) (hab : ad_ W H a b) (hb : P b) : rc_ W H P s b := fun S h1 h2 => h2 a b (h S h1 h2) hab hb
theorem rc_P {W H : Int} {P : Int → Prop} {s j : Int} (h : rc_ W H P s j) : P j ∧ P s := h (fun j => P j ∧ P s) (fun h => ⟨h, h⟩) (fun _ _ h1 _ h2 => ⟨h2, h1.2⟩)
theorem rc_mono {W H : Int} {P P' : Int → Prop} {s j : Int} (hP : ∀ a, P a → P' a) (h : rc_ W H P s j) : rc_ W H P' s j := h _ (fun h1 => rc_self (hP _ h1)) (fun _ _ h1 h2 h3 => rc_step h1 h2 (hP _ h3))
theorem rc_trans {W H : Int} {P : Int → Prop} {s a b : Int} (h : rc_ W H P s a) (h2 : rc_ W H P a b) : rc_ W H P s b := h2 _ (fun _ => h) (fun _ _ h1 h2 h3 => rc_step h1 h2 h3)
theorem rc_sym {W H : Int} (hW : 0 < W) {P : Int → Prop} {s a : Int} (h : rc_ W H P s a) : rc_ W H P a s := by
  refine (h (fun j => rc_ W H P j s ∧ P j) (fun h1 => ⟨rc_self h1, h1⟩) (fun x y h1 h2 h3 => ⟨?_, h3⟩)).1
  exact rc_trans (rc_step (rc_self h3) (ad_sym hW h2) h1.2) h1.1
theorem rc_in {W H : Int} (hW : 0 < W) {P : Int → Prop} {s j : Int} (h0 : 0 ≤ s) (h1 : s < W * H) (h : rc_ W H P s j) : 0 ≤ j ∧ j < W * H :=
  h (fun j => 0 ≤ j ∧ j < W * H) (fun _ => ⟨h0, h1⟩) (fun _ _ _ h2 _ => ad_lt hW h2)
/-- on a land all dots are come to from every one -/
theorem rc_left {W H : Int} (hW : 0 < W) {P : Int → Prop} (hP : ∀ i, 0 ≤ i → i < W * H → P i) : ∀ (n : Nat) (s : Int), 0 ≤ s → s < W * H → s % W = n → rc_ W H P s (W * (s / W)) := by
  intro n
  induction n with
  | zero =>
    intro s h0 h1 hn
    have := xy_ hW h0 h1
    have e : W * (s / W) = s := by omega
    rw [e]; exact rc_self (hP s h0 h1)
  | succ n ih =>
    intro s h0 h1 hn
    obtain ⟨e, a, b, c, f⟩ := xy_ hW h0 h1
    obtain ⟨q1, q2⟩ := dm_ (y := s / W) hW (show 0 ≤ s % W - 1 by omega) (by omega)
    have e2 : s - 1 = W * (s / W) + (s % W - 1) := by omega
    have hg := wl_ (y := 0) (z := s / W) hW c
    have had : ad_ W H s (s - 1) := ⟨h0, h1, by omega, 2, by omega, by omega, by unfold nb_; rw [if_neg (by decide), if_neg (by decide), if_pos rfl, if_pos (by omega)]⟩
    have h3 := ih (s - 1) (by omega) (by omega) (by rw [e2, q2]; omega)
    rw [e2, q1, ← e2] at h3
    exact rc_trans (rc_step (rc_self (hP s h0 h1)) had (hP _ (by omega) (by omega))) h3
theorem rc_down {W H : Int} (hW : 0 < W) {P : Int → Prop} (hP : ∀ i, 0 ≤ i → i < W * H → P i) : ∀ (n : Nat), W * n < W * H → rc_ W H P (W * n) 0 := by
  intro n
  induction n with
  | zero => intro h; simp only [Int.ofNat_zero, Int.mul_zero] at h ⊢; exact rc_self (hP 0 (by omega) h)
  | succ n ih =>
    intro h
    have e0 : W * ((n + 1 : Nat) : Int) = W * n + W := by rw [Int.natCast_add, Int.mul_add]; omega
    have hg := wl_ (y := 0) (z := (n : Int)) hW (by omega)
    obtain ⟨q1, q2⟩ := dm_ (y := ((n + 1 : Nat) : Int)) hW (show (0 : Int) ≤ 0 by omega) (by omega)
    simp only [Int.add_zero] at q1 q2
    have had : ad_ W H (W * ((n + 1 : Nat) : Int)) (W * n) := ⟨by omega, h, by omega, 3, by omega, by omega, by unfold nb_; rw [if_neg (by decide), if_neg (by decide), if_neg (by decide), q1, if_pos (by omega)]; omega⟩
    exact rc_trans (rc_step (rc_self (hP _ (by omega) h)) had (hP _ (by omega) (by omega))) (ih (by omega))
theorem rc_all {W H : Int} (hW : 0 < W) {P : Int → Prop} (hP : ∀ i, 0 ≤ i → i < W * H → P i) {s t : Int} (h0 : 0 ≤ s) (h1 : s < W * H) (k0 : 0 ≤ t) (k1 : t < W * H) : rc_ W H P s t := by
  have z : ∀ u, 0 ≤ u → u < W * H → rc_ W H P u 0 := by
    intro u u0 u1
    obtain ⟨e, a, b, c, f⟩ := xy_ hW u0 u1
    have hg := wl_ (y := 0) (z := u / W) hW c
    have p1 := rc_left hW hP (u % W).toNat u u0 u1 (by omega)
    have p2 := rc_down hW hP (u / W).toNat (by rw [Int.toNat_of_nonneg c]; omega)
    rw [Int.toNat_of_nonneg c] at p2
    exact rc_trans p1 p2
  exact rc_trans (z s h0 h1) (rc_sym hW (z t k0 k1))
