/-! ===== pure: rules for the transformers ===== -/
theorem fb_up_ap (σ : fb_St) (k : Nat) (i v : Int) (k' : Nat) (j : Int) : fb_up σ k i v k' j = if k' = k then (if j = i then v else σ k j) else σ k' j := by
  unfold fb_up fb_row
  split <;> rfl
theorem fb_fill_ap (σ : fb_St) (k : Nat) (v : Int) (k' : Nat) (j : Int) : fb_fill σ k v k' j = if k' = k then v else σ k' j := by
  unfold fb_fill fb_row
  split <;> rfl
theorem fb_cp_ap (σ : fb_St) (a b : Nat) (n : Int) (k' : Nat) (j : Int) : fb_cp σ a b n k' j = if k' = b then (if 0 ≤ j ∧ j < n then σ a j else σ b j) else σ k' j := by
  unfold fb_cp fb_row
  split <;> rfl
theorem fb_lp1 {body : (fb_St → Prop) → fb_St → Prop} (I : fb_St → Prop) (μ : fb_St → Nat) (hb : ∀ σ, I σ → ∀ r, (∀ σ', I σ' → μ σ' < μ σ → r σ') → body r σ) : ∀ σ, I σ → ∃ n, fb_Lp (fun _ => False) body n σ := by
  have key : ∀ n σ, I σ → μ σ < n → fb_Lp (fun _ => False) body n σ := by
    intro n
    induction n with
    | zero => intro σ _ h; omega
    | succ n ih => intro σ hI h; exact hb σ hI _ (fun σ' hI' h' => ih σ' hI' (by omega))
  exact fun σ h => ⟨μ σ + 1, key _ σ h (by omega)⟩
theorem fb_lp2 {body : (Int → fb_St → Prop) → Int → fb_St → Prop} (I : Int → fb_St → Prop) (μ : Int → fb_St → Nat) (hb : ∀ x0 σ, I x0 σ → ∀ r, (∀ x0' σ', I x0' σ' → μ x0' σ' < μ x0 σ → r x0' σ') → body r x0 σ) : ∀ x0 σ, I x0 σ → ∃ n, fb_Lp (fun _ _ => False) body n x0 σ := by
  have key : ∀ n x0 σ, I x0 σ → μ x0 σ < n → fb_Lp (fun _ _ => False) body n x0 σ := by
    intro n
    induction n with
    | zero => intro x0 σ _ h; omega
    | succ n ih => intro x0 σ hI h; exact hb x0 σ hI _ (fun x0' σ' hI' h' => ih x0' σ' hI' (by omega))
  exact fun x0 σ h => ⟨μ x0 σ + 1, key _ x0 σ h (by omega)⟩
theorem fb_lp3 {body : (Int → Int → fb_St → Prop) → Int → Int → fb_St → Prop} (I : Int → Int → fb_St → Prop) (μ : Int → Int → fb_St → Nat) (hb : ∀ x0 x1 σ, I x0 x1 σ → ∀ r, (∀ x0' x1' σ', I x0' x1' σ' → μ x0' x1' σ' < μ x0 x1 σ → r x0' x1' σ') → body r x0 x1 σ) : ∀ x0 x1 σ, I x0 x1 σ → ∃ n, fb_Lp (fun _ _ _ => False) body n x0 x1 σ := by
  have key : ∀ n x0 x1 σ, I x0 x1 σ → μ x0 x1 σ < n → fb_Lp (fun _ _ _ => False) body n x0 x1 σ := by
    intro n
    induction n with
    | zero => intro x0 x1 σ _ h; omega
    | succ n ih => intro x0 x1 σ hI h; exact hb x0 x1 σ hI _ (fun x0' x1' σ' hI' h' => ih x0' x1' σ' hI' (by omega))
  exact fun x0 x1 σ h => ⟨μ x0 x1 σ + 1, key _ x0 x1 σ h (by omega)⟩
theorem fb_lp4 {body : (Int → Int → Int → fb_St → Prop) → Int → Int → Int → fb_St → Prop} (I : Int → Int → Int → fb_St → Prop) (μ : Int → Int → Int → fb_St → Nat) (hb : ∀ x0 x1 x2 σ, I x0 x1 x2 σ → ∀ r, (∀ x0' x1' x2' σ', I x0' x1' x2' σ' → μ x0' x1' x2' σ' < μ x0 x1 x2 σ → r x0' x1' x2' σ') → body r x0 x1 x2 σ) : ∀ x0 x1 x2 σ, I x0 x1 x2 σ → ∃ n, fb_Lp (fun _ _ _ _ => False) body n x0 x1 x2 σ := by
  have key : ∀ n x0 x1 x2 σ, I x0 x1 x2 σ → μ x0 x1 x2 σ < n → fb_Lp (fun _ _ _ _ => False) body n x0 x1 x2 σ := by
    intro n
    induction n with
    | zero => intro x0 x1 x2 σ _ h; omega
    | succ n ih => intro x0 x1 x2 σ hI h; exact hb x0 x1 x2 σ hI _ (fun x0' x1' x2' σ' hI' h' => ih x0' x1' x2' σ' hI' (by omega))
  exact fun x0 x1 x2 σ h => ⟨μ x0 x1 x2 σ + 1, key _ x0 x1 x2 σ h (by omega)⟩
theorem fb_lp5 {body : (Int → Int → Int → Int → fb_St → Prop) → Int → Int → Int → Int → fb_St → Prop} (I : Int → Int → Int → Int → fb_St → Prop) (μ : Int → Int → Int → Int → fb_St → Nat) (hb : ∀ x0 x1 x2 x3 σ, I x0 x1 x2 x3 σ → ∀ r, (∀ x0' x1' x2' x3' σ', I x0' x1' x2' x3' σ' → μ x0' x1' x2' x3' σ' < μ x0 x1 x2 x3 σ → r x0' x1' x2' x3' σ') → body r x0 x1 x2 x3 σ) : ∀ x0 x1 x2 x3 σ, I x0 x1 x2 x3 σ → ∃ n, fb_Lp (fun _ _ _ _ _ => False) body n x0 x1 x2 x3 σ := by
  have key : ∀ n x0 x1 x2 x3 σ, I x0 x1 x2 x3 σ → μ x0 x1 x2 x3 σ < n → fb_Lp (fun _ _ _ _ _ => False) body n x0 x1 x2 x3 σ := by
    intro n
    induction n with
    | zero => intro x0 x1 x2 x3 σ _ h; omega
    | succ n ih => intro x0 x1 x2 x3 σ hI h; exact hb x0 x1 x2 x3 σ hI _ (fun x0' x1' x2' x3' σ' hI' h' => ih x0' x1' x2' x3' σ' hI' (by omega))
  exact fun x0 x1 x2 x3 σ h => ⟨μ x0 x1 x2 x3 σ + 1, key _ x0 x1 x2 x3 σ h (by omega)⟩
theorem fb_lp6 {body : (Int → Int → Int → Int → Int → fb_St → Prop) → Int → Int → Int → Int → Int → fb_St → Prop} (I : Int → Int → Int → Int → Int → fb_St → Prop) (μ : Int → Int → Int → Int → Int → fb_St → Nat) (hb : ∀ x0 x1 x2 x3 x4 σ, I x0 x1 x2 x3 x4 σ → ∀ r, (∀ x0' x1' x2' x3' x4' σ', I x0' x1' x2' x3' x4' σ' → μ x0' x1' x2' x3' x4' σ' < μ x0 x1 x2 x3 x4 σ → r x0' x1' x2' x3' x4' σ') → body r x0 x1 x2 x3 x4 σ) : ∀ x0 x1 x2 x3 x4 σ, I x0 x1 x2 x3 x4 σ → ∃ n, fb_Lp (fun _ _ _ _ _ _ => False) body n x0 x1 x2 x3 x4 σ := by
  have key : ∀ n x0 x1 x2 x3 x4 σ, I x0 x1 x2 x3 x4 σ → μ x0 x1 x2 x3 x4 σ < n → fb_Lp (fun _ _ _ _ _ _ => False) body n x0 x1 x2 x3 x4 σ := by
    intro n
    induction n with
    | zero => intro x0 x1 x2 x3 x4 σ _ h; omega
    | succ n ih => intro x0 x1 x2 x3 x4 σ hI h; exact hb x0 x1 x2 x3 x4 σ hI _ (fun x0' x1' x2' x3' x4' σ' hI' h' => ih x0' x1' x2' x3' x4' σ' hI' (by omega))
  exact fun x0 x1 x2 x3 x4 σ h => ⟨μ x0 x1 x2 x3 x4 σ + 1, key _ x0 x1 x2 x3 x4 σ h (by omega)⟩
theorem fb_lp7 {body : (Int → Int → Int → Int → Int → Int → fb_St → Prop) → Int → Int → Int → Int → Int → Int → fb_St → Prop} (I : Int → Int → Int → Int → Int → Int → fb_St → Prop) (μ : Int → Int → Int → Int → Int → Int → fb_St → Nat) (hb : ∀ x0 x1 x2 x3 x4 x5 σ, I x0 x1 x2 x3 x4 x5 σ → ∀ r, (∀ x0' x1' x2' x3' x4' x5' σ', I x0' x1' x2' x3' x4' x5' σ' → μ x0' x1' x2' x3' x4' x5' σ' < μ x0 x1 x2 x3 x4 x5 σ → r x0' x1' x2' x3' x4' x5' σ') → body r x0 x1 x2 x3 x4 x5 σ) : ∀ x0 x1 x2 x3 x4 x5 σ, I x0 x1 x2 x3 x4 x5 σ → ∃ n, fb_Lp (fun _ _ _ _ _ _ _ => False) body n x0 x1 x2 x3 x4 x5 σ := by
  have key : ∀ n x0 x1 x2 x3 x4 x5 σ, I x0 x1 x2 x3 x4 x5 σ → μ x0 x1 x2 x3 x4 x5 σ < n → fb_Lp (fun _ _ _ _ _ _ _ => False) body n x0 x1 x2 x3 x4 x5 σ := by
    intro n
    induction n with
    | zero => intro x0 x1 x2 x3 x4 x5 σ _ h; omega
    | succ n ih => intro x0 x1 x2 x3 x4 x5 σ hI h; exact hb x0 x1 x2 x3 x4 x5 σ hI _ (fun x0' x1' x2' x3' x4' x5' σ' hI' h' => ih x0' x1' x2' x3' x4' x5' σ' hI' (by omega))
  exact fun x0 x1 x2 x3 x4 x5 σ h => ⟨μ x0 x1 x2 x3 x4 x5 σ + 1, key _ x0 x1 x2 x3 x4 x5 σ h (by omega)⟩
theorem fb_lp8 {body : (Int → Int → Int → Int → Int → Int → Int → fb_St → Prop) → Int → Int → Int → Int → Int → Int → Int → fb_St → Prop} (I : Int → Int → Int → Int → Int → Int → Int → fb_St → Prop) (μ : Int → Int → Int → Int → Int → Int → Int → fb_St → Nat) (hb : ∀ x0 x1 x2 x3 x4 x5 x6 σ, I x0 x1 x2 x3 x4 x5 x6 σ → ∀ r, (∀ x0' x1' x2' x3' x4' x5' x6' σ', I x0' x1' x2' x3' x4' x5' x6' σ' → μ x0' x1' x2' x3' x4' x5' x6' σ' < μ x0 x1 x2 x3 x4 x5 x6 σ → r x0' x1' x2' x3' x4' x5' x6' σ') → body r x0 x1 x2 x3 x4 x5 x6 σ) : ∀ x0 x1 x2 x3 x4 x5 x6 σ, I x0 x1 x2 x3 x4 x5 x6 σ → ∃ n, fb_Lp (fun _ _ _ _ _ _ _ _ => False) body n x0 x1 x2 x3 x4 x5 x6 σ := by
  have key : ∀ n x0 x1 x2 x3 x4 x5 x6 σ, I x0 x1 x2 x3 x4 x5 x6 σ → μ x0 x1 x2 x3 x4 x5 x6 σ < n → fb_Lp (fun _ _ _ _ _ _ _ _ => False) body n x0 x1 x2 x3 x4 x5 x6 σ := by
    intro n
    induction n with
    | zero => intro x0 x1 x2 x3 x4 x5 x6 σ _ h; omega
    | succ n ih => intro x0 x1 x2 x3 x4 x5 x6 σ hI h; exact hb x0 x1 x2 x3 x4 x5 x6 σ hI _ (fun x0' x1' x2' x3' x4' x5' x6' σ' hI' h' => ih x0' x1' x2' x3' x4' x5' x6' σ' hI' (by omega))
  exact fun x0 x1 x2 x3 x4 x5 x6 σ h => ⟨μ x0 x1 x2 x3 x4 x5 x6 σ + 1, key _ x0 x1 x2 x3 x4 x5 x6 σ h (by omega)⟩
/-- the land: a dot's neighbour by its order, -1: none -/
def nb_ (W H i d : Int) : Int :=
  if d = 0 then (if i % W + 1 < W then i + 1 else -1)
  else if d = 1 then (if i / W + 1 < H then i + W else -1)
  else if d = 2 then (if 0 < i % W then i - 1 else -1)
  else (if 0 < i / W then i - W else -1)
def dt_ (W H x y : Int) : Int := if 0 ≤ x ∧ x < W ∧ 0 ≤ y ∧ y < H then y * W + x else -1
theorem mu_le {a b A B : Int} (ha : 0 ≤ a) (hb : 0 ≤ b) (hA : a ≤ A) (hB : b ≤ B) : 0 ≤ a * b ∧ a * b ≤ A * B :=
  ⟨Int.mul_nonneg ha hb, Int.mul_le_mul hA hB hb (Int.le_trans ha hA)⟩
theorem sp_within {x lo hi : Int} {σ : fb_St} {Q : Int → fb_St → Prop} (h1 : lo ≤ x → x ≤ hi → Q 1 σ) (h0 : ¬ (lo ≤ x ∧ x ≤ hi) → Q 0 σ) : wp_X6_within x lo hi σ Q := by
  unfold wp_X6_within wj_X6_within_14 wj_X6_within_15
  grind
theorem sp_dotAt {x y : Int} {σ : fb_St} {Q : Int → fb_St → Prop} (hW : 1 ≤ σ 1 0 ∧ σ 1 0 ≤ 12) (hH : 1 ≤ σ 1 1 ∧ σ 1 1 ≤ 12) (h : Q (dt_ (σ 1 0) (σ 1 1) x y) σ) : wp_X5_dotAt x y σ Q := by
  unfold wp_X5_dotAt wj_X5_dotAt_39 wj_X5_dotAt_40
  refine ⟨by omega, sp_within (fun a1 a2 => ⟨fun q => by omega, fun _ => ⟨by omega, sp_within (fun b1 b2 => ⟨fun q => by omega, fun _ => ?_⟩) (fun b => ⟨fun _ => ?_, fun q => absurd rfl q⟩)⟩⟩) (fun a => ⟨fun _ => ?_, fun q => absurd rfl q⟩)⟩
  · have := mu_le (a := y) (b := σ 1 0) (A := 11) (B := 12) (by omega) (by omega) (by omega) (by omega)
    have e : dt_ (σ 1 0) (σ 1 1) x y = y * σ 1 0 + x := by unfold dt_; rw [if_pos (by omega)]
    rw [e] at h
    exact ⟨by omega, by omega, h⟩
  · have e : dt_ (σ 1 0) (σ 1 1) x y = -1 := by unfold dt_; rw [if_neg (by omega)]
    rw [e] at h; exact h
  · have e : dt_ (σ 1 0) (σ 1 1) x y = -1 := by unfold dt_; rw [if_neg (by omega)]
    rw [e] at h; exact h
theorem sp_neighbour {i d : Int} {σ : fb_St} {Q : Int → fb_St → Prop} (hi : 0 ≤ i ∧ i < 144) (hd : 0 ≤ d ∧ d < 4) (h : Q (σ 4 (i * 4 + d)) σ) : wp_X5_neighbour i d σ Q := by
  unfold wp_X5_neighbour
  exact ⟨by omega, by omega, by omega, by omega, h⟩
