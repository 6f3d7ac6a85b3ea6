/-! ===== sums over dots; a search from dot to dot ===== -/
def su_ (f : Int → Int) : Nat → Int
  | 0 => 0
  | n + 1 => su_ f n + f n
theorem su_congr {f g : Int → Int} : ∀ (n : Nat), (∀ j : Int, 0 ≤ j → j < n → f j = g j) → su_ f n = su_ g n := by
  intro n
  induction n with
  | zero => intro _; rfl
  | succ n ih =>
    intro h
    show su_ f n + f n = su_ g n + g n
    rw [ih (fun j h0 h1 => h j h0 (by omega)), h n (by omega) (by omega)]
theorem su_one {f g : Int → Int} {b : Int} (h0 : 0 ≤ b) : ∀ (n : Nat), (b < n) → (∀ j : Int, 0 ≤ j → j < n → j ≠ b → f j = g j) → su_ f n = su_ g n + (f b - g b) := by
  intro n
  induction n with
  | zero => intro h; omega
  | succ n ih =>
    intro hb h
    show su_ f n + f n = su_ g n + g n + (f b - g b)
    by_cases e : b = n
    · rw [su_congr n (fun j q0 q1 => h j q0 (by omega) (by omega)), e]; omega
    · rw [ih (by omega) (fun j q0 q1 q2 => h j q0 (by omega) q2), h n (by omega) (by omega) (by omega)]; omega
theorem su_bd {f : Int → Int} : ∀ (n : Nat), (∀ j : Int, 0 ≤ j → j < n → 0 ≤ f j ∧ f j ≤ 1) → 0 ≤ su_ f n ∧ su_ f n ≤ n := by
  intro n
  induction n with
  | zero => intro _; exact ⟨Int.le_refl 0, Int.le_refl 0⟩
  | succ n ih =>
    intro h
    have h1 := ih (fun j q0 q1 => h j q0 (by omega))
    have h2 := h n (by omega) (by omega)
    show 0 ≤ su_ f n + f n ∧ su_ f n + f n ≤ ((n + 1 : Nat) : Int)
    omega
theorem su_lt {f : Int → Int} {b : Int} {n : Nat} (h0 : 0 ≤ b) (hb : b < n) (hf : f b = 0) (h : ∀ j : Int, 0 ≤ j → j < n → 0 ≤ f j ∧ f j ≤ 1) : su_ f n < n := by
  have h1 := su_one (f := f) (g := fun j => if j = b then 1 else f j) h0 n hb (fun j _ _ q => by rw [if_neg q])
  have h2 := su_bd (f := fun j => if j = b then 1 else f j) n (fun j q0 q1 => by split; omega; exact h j q0 q1)
  simp only [if_true] at h1
  omega
theorem su_cst : ∀ (n : Nat), su_ (fun _ => 1) n = n := by
  intro n
  induction n with
  | zero => rfl
  | succ n ih => show su_ (fun _ => 1) n + 1 = _; rw [ih]; omega
theorem su_snoc {f : Int → Int} {N : Int} (h : 0 ≤ N) : su_ f (N + 1).toNat = su_ f N.toNat + f N := by
  have : (N + 1).toNat = N.toNat + 1 := by omega
  rw [this]
  show su_ f N.toNat + f (N.toNat : Int) = _
  rw [Int.toNat_of_nonneg h]
/-- a search under way -/
def bf_ (W H : Int) (P : Int → Prop) (s : Int) (se0 : Int → Int) (N : Int) (re se : Int → Int) : Prop :=
  0 ≤ N ∧ (∀ k, 0 ≤ k → k < N → rc_ W H P s (re k) ∧ 0 ≤ re k ∧ re k < W * H) ∧
  (∀ j, 0 ≤ j → j < W * H → (se j ≠ 0 ↔ se0 j ≠ 0 ∨ ∃ k, 0 ≤ k ∧ k < N ∧ re k = j)) ∧
  ∀ g : Int → Int, su_ (fun k => g (re k)) N.toNat = su_ (fun j => if se j ≠ 0 ∧ se0 j = 0 then g j else 0) (W * H).toNat
/-- a search that is over -/
def bo_ (W H : Int) (P : Int → Prop) (s : Int) (se0 : Int → Int) (N : Int) (re se : Int → Int) : Prop :=
  bf_ W H P s se0 N re se ∧ ∀ j, 0 ≤ j → j < W * H → (rc_ W H P s j ↔ ∃ k, 0 ≤ k ∧ k < N ∧ re k = j)
theorem bf_N {W H : Int} {P : Int → Prop} {s : Int} {se0 : Int → Int} {N : Int} {re se : Int → Int} (h : bf_ W H P s se0 N re se) : N = su_ (fun j => if se j ≠ 0 ∧ se0 j = 0 then 1 else 0) (W * H).toNat := by
  have h1 := h.2.2.2 (fun _ => 1)
  rw [su_cst, Int.toNat_of_nonneg h.1] at h1
  exact h1
theorem bf_ind {se se0 : Int → Int} (j : Int) : 0 ≤ (if se j ≠ 0 ∧ se0 j = 0 then (1 : Int) else 0) ∧ (if se j ≠ 0 ∧ se0 j = 0 then (1 : Int) else 0) ≤ 1 := by
  split <;> omega
theorem bf_le {W H : Int} {P : Int → Prop} {s : Int} {se0 : Int → Int} {N : Int} {re se : Int → Int} (hm : 0 ≤ W * H) (h : bf_ W H P s se0 N re se) : N ≤ W * H := by
  have h1 := bf_N h
  have h2 := su_bd (f := fun j => if se j ≠ 0 ∧ se0 j = 0 then 1 else 0) (W * H).toNat (fun j _ _ => bf_ind j)
  omega
theorem bf_lt {W H : Int} {P : Int → Prop} {s : Int} {se0 : Int → Int} {N : Int} {re se : Int → Int} {b : Int} (h : bf_ W H P s se0 N re se) (b0 : 0 ≤ b) (b1 : b < W * H) (hb : se b = 0) : N < W * H := by
  have h1 := bf_N h
  have h2 := su_lt (f := fun j => if se j ≠ 0 ∧ se0 j = 0 then 1 else 0) (b := b) (n := (W * H).toNat) b0 (by omega) (by rw [if_neg (by omega)]) (fun j _ _ => bf_ind j)
  omega
theorem bf_0 {W H : Int} {P : Int → Prop} {s : Int} {se0 : Int → Int} {re : Int → Int} : bf_ W H P s se0 0 re se0 := by
  refine ⟨Int.le_refl 0, fun k h0 h1 => by omega, fun j _ _ => ⟨Or.inl, fun h => h.elim id (fun ⟨k, h0, h1, _⟩ => by omega)⟩, fun g => ?_⟩
  show (0 : Int) = _
  have : ∀ n : Nat, su_ (fun j => if se0 j ≠ 0 ∧ se0 j = 0 then g j else 0) n = 0 := by
    intro n
    induction n with
    | zero => rfl
    | succ n ih =>
      show su_ (fun j => if se0 j ≠ 0 ∧ se0 j = 0 then g j else 0) n + (if se0 (n : Int) ≠ 0 ∧ se0 (n : Int) = 0 then g n else 0) = 0
      rw [ih, if_neg (fun q => q.1 q.2)]
      rfl
  rw [this]
theorem bf_add {W H : Int} {P : Int → Prop} {s : Int} {se0 : Int → Int} {N : Int} {re se : Int → Int} {b : Int} (h : bf_ W H P s se0 N re se) (b0 : 0 ≤ b) (b1 : b < W * H) (hb : se b = 0) (hr : rc_ W H P s b) :
    bf_ W H P s se0 (N + 1) (fun j => if j = N then b else re j) (fun j => if j = b then 1 else se j) := by
  obtain ⟨h0, ha, hs, hg⟩ := h
  have hs0 : se0 b = 0 := by
    by_cases q : se0 b = 0
    · exact q
    · exact absurd ((hs b b0 b1).mpr (Or.inl q)) (fun z => z hb)
  refine ⟨by omega, fun k k0 k1 => ?_, fun j j0 j1 => ?_, fun g => ?_⟩
  · dsimp only
    by_cases e : k = N
    · rw [if_pos e]; exact ⟨hr, b0, b1⟩
    · rw [if_neg e]; exact ha k k0 (by omega)
  · dsimp only
    by_cases e : j = b
    · rw [if_pos e]
      exact ⟨fun _ => Or.inr ⟨N, h0, by omega, by rw [if_pos rfl, e]⟩, fun _ => by decide⟩
    · rw [if_neg e]
      refine (hs j j0 j1).trans ⟨fun q => q.elim Or.inl (fun ⟨k, k0, k1, k2⟩ => Or.inr ⟨k, k0, by omega, by rw [if_neg (by omega)]; exact k2⟩), fun q => q.elim Or.inl (fun ⟨k, k0, k1, k2⟩ => ?_)⟩
      by_cases ek : k = N
      · rw [if_pos ek] at k2; exact absurd k2.symm e
      · rw [if_neg ek] at k2; exact Or.inr ⟨k, k0, by omega, k2⟩
  · dsimp only
    rw [su_snoc h0]
    have e1 : su_ (fun k => g (if k = N then b else re k)) N.toNat = su_ (fun k => g (re k)) N.toNat := su_congr _ (fun j _ q => by rw [if_neg (by omega)])
    rw [e1, hg g, if_pos rfl]
    have e2 := su_one (f := fun j => if (if j = b then 1 else se j) ≠ 0 ∧ se0 j = 0 then g j else 0) (g := fun j => if se j ≠ 0 ∧ se0 j = 0 then g j else 0) b0 (W * H).toNat (by omega) (fun j _ _ q => by simp only [q, if_false])
    rw [e2]
    simp [hb, hs0]
theorem bf_end {W H : Int} (hW : 0 < W) {P : Int → Prop} {s : Int} {se0 : Int → Int} {N : Int} {re se : Int → Int} (h : bf_ W H P s se0 N re se) (hP0 : ∀ b, P b → se0 b = 0) (s0 : 0 ≤ s) (s1 : s < W * H) (hs : P s → se s ≠ 0)
    (hc : ∀ k, 0 ≤ k → k < N → ∀ d, 0 ≤ d → d < 4 → nb_ W H (re k) d ≠ -1 → P (nb_ W H (re k) d) → se (nb_ W H (re k) d) ≠ 0) : bo_ W H P s se0 N re se := by
  have key : ∀ j, 0 ≤ j → j < W * H → se j ≠ 0 → P j → ∃ k, 0 ≤ k ∧ k < N ∧ re k = j := fun j j0 j1 hj hp => ((h.2.2.1 j j0 j1).mp hj).elim (fun q => absurd (hP0 j hp) q) id
  refine ⟨h, fun j j0 j1 => ⟨fun hr => ?_, fun ⟨k, k0, k1, k2⟩ => k2 ▸ (h.2.1 k k0 k1).1⟩⟩
  refine hr (fun j => ∃ k, 0 ≤ k ∧ k < N ∧ re k = j) (fun hp => key s s0 s1 (hs hp) hp) (fun a b ⟨k, k0, k1, k2⟩ hab hp => ?_)
  have hb := ad_lt hW hab
  obtain ⟨-, -, -, d, d0, d1, e⟩ := hab
  refine key b hb.1 hb.2 ?_ hp
  have := hc k k0 k1 d d0 d1 (by rw [k2, e]; omega) (by rw [k2, e]; exact hp)
  rw [k2, e] at this
  exact this
theorem bo_se {W H : Int} {P : Int → Prop} {s : Int} {se0 : Int → Int} {N : Int} {re se : Int → Int} (h : bo_ W H P s se0 N re se) {j : Int} (j0 : 0 ≤ j) (j1 : j < W * H) : se j ≠ 0 ↔ se0 j ≠ 0 ∨ rc_ W H P s j := by
  rw [h.1.2.2.1 j j0 j1, ← h.2 j j0 j1]
/-- the frame: only rows of S have changed -/
def fr_ (S : List Nat) (σ σ' : fb_St) : Prop := ∀ k, k ∉ S → σ' k = σ k
theorem fr_rf {S : List Nat} {σ : fb_St} : fr_ S σ σ := fun _ _ => rfl
theorem fr_tr {S : List Nat} {σ σ1 σ2 : fb_St} (h1 : fr_ S σ σ1) (h2 : fr_ S σ1 σ2) : fr_ S σ σ2 := fun k hk => (h2 k hk).trans (h1 k hk)
theorem fr_wk {S S' : List Nat} {σ σ1 : fb_St} (h1 : fr_ S σ σ1) (h : ∀ k, k ∈ S → k ∈ S') : fr_ S' σ σ1 := fun k hk => h1 k (fun q => hk (h k q))
theorem fr_row {S : List Nat} {σ : fb_St} {k : Nat} {r : Int → Int} (h : k ∈ S) : fr_ S σ (fb_row σ k r) := fun q hq => by
  unfold fb_row
  exact if_neg (fun (e : q = k) => hq (by rw [e]; exact h))
theorem fr_up {S : List Nat} {σ : fb_St} {k : Nat} {i v : Int} (h : k ∈ S) : fr_ S σ (fb_up σ k i v) := fr_row h
theorem fr_fill {S : List Nat} {σ : fb_St} {k : Nat} {v : Int} (h : k ∈ S) : fr_ S σ (fb_fill σ k v) := fr_row h
theorem fr_cp {S : List Nat} {σ : fb_St} {a b : Nat} {n : Int} (h : b ∈ S) : fr_ S σ (fb_cp σ a b n) := fr_row h
theorem up_eq (σ : fb_St) (k : Nat) (i v : Int) : fb_up σ k i v k = fun j => if j = i then v else σ k j := by unfold fb_up fb_row; rw [if_pos rfl]
theorem up_ne (σ : fb_St) {k q : Nat} (i v : Int) (h : q ≠ k) : fb_up σ k i v q = σ q := by unfold fb_up fb_row; rw [if_neg h]
