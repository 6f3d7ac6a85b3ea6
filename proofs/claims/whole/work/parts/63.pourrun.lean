/-! ===== pouring, as a thing of thought ===== -/
noncomputable def lq_ (W H : Int) (h ow : Int → Int) (b : Int) : Int × Int := Classical.epsilon (fun q : Int × Int => lm_ (pn_ W H h ow b) q.1 q.2)
noncomputable def mh_ (W H : Int) (h ow : Int → Int) (b : Int) : Int := Classical.epsilon (fun v : Int => ml_ (fun j => (0 ≤ j ∧ j < W * H) ∧ ow j = b) h v)
noncomputable def sz_ (W H : Int) (h ow : Int → Int) (kind b : Int) : Int :=
  if kind = 0 then cn_ ow b (W * H).toNat else if (lq_ W H h ow b).1 = 100 then 0 else if kind = 1 then max ((lq_ W H h ow b).1 - mh_ W H h ow b) 0 else wa_ h ow (lq_ W H h ow b).1 b (W * H).toNat
noncomputable def nx_ (W H : Int) (h ow : Int → Int) (kind bound : Int) : Nat → Int × Int
  | 0 => (-6, 100)
  | k + 1 => if (lq_ W H h ow ((k : Int) + 1)).1 < (nx_ W H h ow kind bound k).2 ∧ sz_ W H h ow kind ((k : Int) + 1) < bound then ((k : Int) + 1, (lq_ W H h ow ((k : Int) + 1)).1) else nx_ W H h ow kind bound k
noncomputable def be_ (W H : Int) (h ow : Int → Int) (kind bound : Int) : Int := (nx_ W H h ow kind bound 99).1
def p1_ (ow : Int → Int) (b t : Int) : Int → Int := fun j => if ow j = b then t else ow j
def wd_ (W H : Int) (ow : Int → Int) : Int → Int := fun j => if ow j = 0 ∧ 0 < ar_ W H ow j then ar_ W H ow j else ow j
def dg_ (W H : Int) (ow : Int → Int) (n : Nat) : Int := su_ (fun j => if ow j = 0 ∧ 0 < ar_ W H ow j then 1 else 0) n
abbrev EV_ : Type := List (Int × Int × Int × Int)
noncomputable def pr_ (W H : Int) (h : Int → Int) (kind bound : Int) : Nat → (Int → Int) → EV_ → (Int → Int) × EV_
  | 0, ow, ev => (ow, ev)
  | f + 1, ow, ev => if be_ W H h ow kind bound = -6 then (ow, ev) else
      pr_ W H h kind bound f (wd_ W H (p1_ ow (be_ W H h ow kind bound) (lq_ W H h ow (be_ W H h ow kind bound)).2))
        (ev ++ [(be_ W H h ow kind bound, (lq_ W H h ow (be_ W H h ow kind bound)).2, (lq_ W H h ow (be_ W H h ow kind bound)).1, dg_ W H (p1_ ow (be_ W H h ow kind bound) (lq_ W H h ow (be_ W H h ow kind bound)).2) (W * H).toNat)])
section PRU
variable {W H : Int} {h ow : Int → Int}
theorem lq_eq {b v o : Int} (a : lm_ (pn_ W H h ow b) v o) : lq_ W H h ow b = (v, o) := by
  have hs : lm_ (pn_ W H h ow b) (lq_ W H h ow b).1 (lq_ W H h ow b).2 := Classical.epsilon_spec (p := fun q : Int × Int => lm_ (pn_ W H h ow b) q.1 q.2) ⟨(v, o), a⟩
  have := lm_uniq (fun _ _ => Iff.rfl) hs a
  exact Prod.ext this.1 this.2
theorem mh_eq {b v : Int} (hh : ∀ j, 0 ≤ j → j < W * H → h j ≤ 99) (a : ml_ (fun j => (0 ≤ j ∧ j < W * H) ∧ ow j = b) h v) : mh_ W H h ow b = v := by
  have hs : ml_ (fun j => (0 ≤ j ∧ j < W * H) ∧ ow j = b) h (mh_ W H h ow b) := Classical.epsilon_spec (p := fun v : Int => ml_ (fun j => (0 ≤ j ∧ j < W * H) ∧ ow j = b) h v) ⟨v, a⟩
  exact ml_uniq (fun _ => Iff.rfl) (fun _ _ => rfl) (fun j hj => hh j hj.1.1 hj.1.2) hs a
/-- a valid state: dots of none, dams, basins 1 to 99 -/
def vo_ (W H : Int) (ow : Int → Int) : Prop := ∀ j, 0 ≤ j → j < W * H → ow j = -6 ∨ 0 ≤ ow j ∧ ow j ≤ 99
def bs_ (W H : Int) (ow : Int → Int) (b : Int) : Prop := ∃ j, (0 ≤ j ∧ j < W * H) ∧ ow j = b
noncomputable def bn_ (W H : Int) (ow : Int → Int) : Int := su_ (fun b => in_ (bs_ W H ow (b + 1))) 99
theorem ar_bs (hW : 0 < W) {i : Int} (hi : 0 ≤ i ∧ i < W * H) : ∀ n : Nat, 0 < ar_n W H ow i n → bs_ W H ow (ar_n W H ow i n) := by
  intro n
  induction n with
  | zero => intro q; exact absurd q (by show ¬ (0 : Int) < -6; omega)
  | succ n ih =>
    intro q
    have e : ar_n W H ow i (n + 1) = sb_1 (ar_n W H ow i n) (ob_ W H ow i n) := rfl
    rw [e] at q ⊢
    unfold sb_1 at q ⊢
    by_cases c : 0 < ob_ W H ow i n
    · rw [if_pos c] at q ⊢
      split at q
      · rename_i c2
        rw [if_pos c2]
        unfold ob_ at c ⊢
        split at c
        · rename_i c3
          rw [if_pos c3]
          have hr := nb_rng n hW hi.1 hi.2
          exact ⟨nb_ W H i n, by omega, rfl⟩
        · omega
      · omega
    · rw [if_neg c] at q ⊢; exact ih q
theorem ar_le (hW : 0 < W) (hv : vo_ W H ow) {i : Int} (hi : 0 ≤ i ∧ i < W * H) : ar_ W H ow i ≤ 99 := by
  by_cases c : 0 < ar_n W H ow i 4
  · obtain ⟨j, hj, e⟩ := ar_bs hW hi 4 c
    have := hv j hj.1 hj.2
    show ar_n W H ow i 4 ≤ 99
    omega
  · show ar_n W H ow i 4 ≤ 99
    omega
theorem pn_bs (hW : 0 < W) {b o v : Int} (a : pn_ W H h ow b o v) : bs_ W H ow b ∧ bs_ W H ow o := by
  obtain ⟨z, ⟨k, k0, -, -, d, d', d0, d1, e1, e2⟩ | ⟨k, d, k0, d0, n0, -, e1, e2⟩⟩ := a
  · have key : ∀ d c, (0 ≤ d ∧ d < 4) → 0 < c → ob_ W H ow k d = c → bs_ W H ow c := by
      intro d c hd hc e
      unfold ob_ at e
      split at e
      · have hr := nb_rng d hW k0.1 k0.2
        exact ⟨nb_ W H k d, by omega, e⟩
      · omega
    exact ⟨key d b d0 z.1 e1, key d' o d1 z.2.1 e2⟩
  · have hr := nb_rng d hW k0.1 k0.2
    exact ⟨⟨k, k0, e1⟩, ⟨nb_ W H k d, by omega, e2⟩⟩
theorem nx_spec (kind bound : Int) : ∀ n : Nat, ((nx_ W H h ow kind bound n).1 = -6 ∧ (nx_ W H h ow kind bound n).2 = 100) ∨ (1 ≤ (nx_ W H h ow kind bound n).1 ∧ (nx_ W H h ow kind bound n).1 ≤ n ∧ (nx_ W H h ow kind bound n).2 = (lq_ W H h ow (nx_ W H h ow kind bound n).1).1 ∧ (lq_ W H h ow (nx_ W H h ow kind bound n).1).1 < 100) := by
  intro n
  induction n with
  | zero => exact Or.inl ⟨rfl, rfl⟩
  | succ n ih =>
    unfold nx_
    split
    · rename_i c
      dsimp only
      refine Or.inr ⟨by omega, by omega, rfl, ?_⟩
      omega
    · exact ih.imp id (fun ⟨a, b, c⟩ => ⟨a, by omega, c⟩)
theorem p1_vo {b t : Int} (hv : vo_ W H ow) (ht : 0 ≤ t ∧ t ≤ 99) : vo_ W H (p1_ ow b t) := fun j j0 j1 => by
  unfold p1_
  split
  · omega
  · exact hv j j0 j1
theorem wd_vo (hW : 0 < W) (hv : vo_ W H ow) : vo_ W H (wd_ W H ow) := fun j j0 j1 => by
  unfold wd_
  split
  · have := ar_le hW hv ⟨j0, j1⟩; omega
  · exact hv j j0 j1
theorem su_less {f g : Int → Int} {b : Int} (h0 : 0 ≤ b) : ∀ n : Nat, b < n → (∀ j : Int, 0 ≤ j → j < n → f j ≤ g j) → f b + 1 ≤ g b → su_ f n + 1 ≤ su_ g n := by
  have le : ∀ n : Nat, (∀ j : Int, 0 ≤ j → j < n → f j ≤ g j) → su_ f n ≤ su_ g n := by
    intro n
    induction n with
    | zero => intro _; exact Int.le_refl 0
    | succ n ih =>
      intro hf
      have h1 := ih (fun j q0 q1 => hf j q0 (by omega))
      have h2 := hf n (by omega) (by omega)
      show su_ f n + f n ≤ su_ g n + g n
      omega
  intro n
  induction n with
  | zero => intro hb; omega
  | succ n ih =>
    intro hb hf he
    show su_ f n + f n + 1 ≤ su_ g n + g n
    by_cases e : b = n
    · have := le n (fun j q0 q1 => hf j q0 (by omega)); rw [e] at he; omega
    · have := ih (by omega) (fun j q0 q1 => hf j q0 (by omega)) he
      have := hf n (by omega) (by omega)
      omega
theorem bs_pour (hW : 0 < W) {b t c : Int} (hb : 0 < b) (hbt : b ≠ t) (ht : bs_ W H ow t) (hc : 0 < c) (q : bs_ W H (wd_ W H (p1_ ow b t)) c) : bs_ W H ow c ∧ c ≠ b := by
  have one : bs_ W H (p1_ ow b t) c → bs_ W H ow c ∧ c ≠ b := by
    rintro ⟨j, hj, e⟩
    unfold p1_ at e
    split at e
    · exact ⟨e ▸ ht, fun z => hbt (by omega)⟩
    · rename_i n1
      exact ⟨⟨j, hj, e⟩, fun z => n1 (by omega)⟩
  obtain ⟨j, hj, e⟩ := q
  unfold wd_ at e
  split at e
  · rename_i c1
    have := ar_bs hW hj 4 c1.2
    exact one (e ▸ this)
  · exact one ⟨j, hj, e⟩
theorem bn_pour (hW : 0 < W) {b t : Int} (hb : 1 ≤ b ∧ b ≤ 99) (hbt : b ≠ t) (hbb : bs_ W H ow b) (ht : bs_ W H ow t) : bn_ W H (wd_ W H (p1_ ow b t)) + 1 ≤ bn_ W H ow := by
  unfold bn_
  refine su_less (b := b - 1) (by omega) 99 (by omega) (fun j j0 j1 => ?_) ?_
  · by_cases q : bs_ W H (wd_ W H (p1_ ow b t)) (j + 1)
    · rw [in_pos q, in_pos (bs_pour hW (by omega) hbt ht (by omega) q).1]; omega
    · rw [in_neg q]
      by_cases q2 : bs_ W H ow (j + 1)
      · rw [in_pos q2]; omega
      · rw [in_neg q2]; omega
  · rw [show b - 1 + 1 = b by omega, in_pos hbb, in_neg (fun q => (bs_pour hW (by omega) hbt ht (by omega) q).2 rfl)]; omega
theorem bn_two {b t : Int} (hb : 1 ≤ b ∧ b ≤ 99) (ht : 1 ≤ t ∧ t ≤ 99) (hbt : b ≠ t) (hbb : bs_ W H ow b) (htt : bs_ W H ow t) : 2 ≤ bn_ W H ow := by
  have h1 : su_ (fun j => if j = t - 1 then 1 else 0) 99 + 1 ≤ bn_ W H ow := by
    unfold bn_
    refine su_less (b := b - 1) (by omega) 99 (by omega) (fun j j0 j1 => ?_) ?_
    · split
      · rename_i e; rw [e, show t - 1 + 1 = t by omega, in_pos htt]; omega
      · by_cases q : bs_ W H ow (j + 1)
        · rw [in_pos q]; omega
        · rw [in_neg q]; omega
    · rw [if_neg (by omega), show b - 1 + 1 = b by omega, in_pos hbb]; omega
  have h2 : su_ (fun _ => 0) 99 + 1 ≤ su_ (fun j => if j = t - 1 then (1 : Int) else 0) 99 := by
    refine su_less (b := t - 1) (by omega) 99 (by omega) (fun j j0 j1 => ?_) (by rw [if_pos rfl]; omega)
    split <;> omega
  have h3 : su_ (fun _ => 0) 99 = 0 := by
    have : ∀ n : Nat, su_ (fun _ => 0) n = 0 := by
      intro n
      induction n with
      | zero => rfl
      | succ n ih => show su_ _ n + 0 = 0; rw [ih]; rfl
    exact this 99
  omega
theorem bn_le : bn_ W H ow ≤ 99 := (su_bd (f := fun b => in_ (bs_ W H ow (b + 1))) 99 (fun j _ _ => by
  by_cases q : bs_ W H ow (j + 1)
  · rw [in_pos q]; omega
  · rw [in_neg q]; omega)).2
/-- the basin that is poured next: it has a way out, into another one -/
theorem be_spec (hW : 0 < W) (hv : vo_ W H ow) {kind bound : Int} (hex : ∀ b, 1 ≤ b → b ≤ 99 → ∃ v o, lm_ (pn_ W H h ow b) v o) (hb : be_ W H h ow kind bound ≠ -6) :
    (1 ≤ be_ W H h ow kind bound ∧ be_ W H h ow kind bound ≤ 99) ∧ (1 ≤ (lq_ W H h ow (be_ W H h ow kind bound)).2 ∧ (lq_ W H h ow (be_ W H h ow kind bound)).2 ≤ 99) ∧ be_ W H h ow kind bound ≠ (lq_ W H h ow (be_ W H h ow kind bound)).2 ∧ bs_ W H ow (be_ W H h ow kind bound) ∧ bs_ W H ow (lq_ W H h ow (be_ W H h ow kind bound)).2 ∧ (0 ≤ (lq_ W H h ow (be_ W H h ow kind bound)).1 ∧ (lq_ W H h ow (be_ W H h ow kind bound)).1 ≤ 99) := by
  rcases nx_spec (W := W) (H := H) (h := h) (ow := ow) kind bound 99 with ⟨q, -⟩ | ⟨q1, q2, q3, q4⟩
  · exact absurd q hb
  · have e : (nx_ W H h ow kind bound 99).1 = be_ W H h ow kind bound := rfl
    rw [e] at q1 q2 q3 q4
    generalize be_ W H h ow kind bound = b at *
    obtain ⟨v, o, hl⟩ := hex b q1 (by omega)
    rw [lq_eq hl] at q4 ⊢
    dsimp only at q4 ⊢
    rcases hl with ⟨z, -⟩ | ⟨z1, z2, -⟩
    · omega
    · have hbs := pn_bs hW z1
      obtain ⟨j, hj, ej⟩ := hbs.2
      have := hv j hj.1 hj.2
      have hp := z1.1
      exact ⟨⟨q1, by omega⟩, by omega, hp.2.2, hbs.1, hbs.2, z2⟩
end PRU
