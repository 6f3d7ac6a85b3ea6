def fb_G0 (D : fb_D0) (ad : Nat → Nat) (n : Nat) : fb_G := (D.1, ad, D.2.1, D.2.2.1, D.2.2.2, n)
def iw_ {α β : Type} (g : Nat → β → α) : Nat → List β → List α
  | _, [] => []
  | n, b :: l => g n b :: iw_ g (n + 1) l
theorem iw_idx {α β : Type} (g : Nat → β → α) : ∀ (l : List β) (n : Nat), l.mapIdx (fun i => g (i + n)) = iw_ g n l := by
  intro l
  induction l with
  | nil => intro n; rfl
  | cons b l ih =>
    intro n
    rw [List.mapIdx_cons, iw_, ← ih (n + 1)]
    simp only [Nat.zero_add]
    congr 1
    congr 1
    funext i
    rw [show i + 1 + n = i + (n + 1) by omega]
theorem iw_eq {α β : Type} (g : Nat → β → α) (l : List β) : l.mapIdx g = iw_ g 0 l := iw_idx g l 0
def fb_ob2 (G : fb_G) (ci : Nat) (fs : List (Option Nat)) : (Int → Int) → va_E := fun r => .inr (ci, iw_ (fun j o => fb_fv G r j o) 0 fs)
theorem fb_ob_eq (G : fb_G) (ci : Nat) (fs : List (Option Nat)) : fb_ob G ci fs = fb_ob2 G ci fs := by
  funext r
  unfold fb_ob fb_ob2
  rw [iw_eq]
theorem fb_W_eq (G : fb_G) (σ : fb_St) : fb_W G σ = iw_ (fun k f => (fb_ad G k, f (σ k))) 0 (fb_cl G) := iw_eq _ _
