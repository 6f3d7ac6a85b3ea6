/-! ===== basins: sizes and passes, as things of thought ===== -/
def cn_ (ow : Int → Int) (b : Int) (n : Nat) : Int := su_ (fun j => if ow j = b then 1 else 0) n
def wa_ (h ow : Int → Int) (lp b : Int) (n : Nat) : Int := su_ (fun j => if ow j = b then max (lp - h j) 0 else 0) n
def pn_ (W H : Int) (h ow : Int → Int) (b o v : Int) : Prop := (0 < b ∧ 0 < o ∧ b ≠ o) ∧
  ((∃ k, (0 ≤ k ∧ k < W * H) ∧ ow k = 0 ∧ v = h k ∧ ∃ d d', (0 ≤ d ∧ d < 4) ∧ (0 ≤ d' ∧ d' < 4) ∧ ob_ W H ow k d = b ∧ ob_ W H ow k d' = o) ∨
   ∃ k d, (0 ≤ k ∧ k < W * H) ∧ (0 ≤ d ∧ d < 4) ∧ nb_ W H k d ≠ -1 ∧ v = max (h k) (h (nb_ W H k d)) ∧ ow k = b ∧ ow (nb_ W H k d) = o)
/-- the least pass, and of such the least basin -/
def lm_ (S : Int → Int → Prop) (v o : Int) : Prop := (v = 100 ∧ o = -6 ∧ ∀ o' v', ¬ S o' v') ∨ (S o v ∧ (0 ≤ v ∧ v ≤ 99) ∧ ∀ o' v', S o' v' → v < v' ∨ v = v' ∧ o ≤ o')
theorem lm_uniq {S S' : Int → Int → Prop} (hS : ∀ o v, S o v ↔ S' o v) {v o v' o' : Int} (a : lm_ S v o) (b : lm_ S' v' o') : v = v' ∧ o = o' := by
  rcases a with ⟨rfl, rfl, a⟩ | ⟨a1, a2, a3⟩
  · rcases b with ⟨rfl, rfl, b⟩ | ⟨b1, b2, b3⟩
    · exact ⟨rfl, rfl⟩
    · exact absurd ((hS _ _).mpr b1) (a _ _)
  · rcases b with ⟨rfl, rfl, b⟩ | ⟨b1, b2, b3⟩
    · exact absurd ((hS _ _).mp a1) (b _ _)
    · have h1 := a3 o' v' ((hS _ _).mpr b1)
      have h2 := b3 o v ((hS _ _).mp a1)
      omega
theorem lm_same {S S' : Int → Int → Prop} (hS : ∀ o v, S' o v ↔ S o v) {v o : Int} (a : lm_ S v o) : lm_ S' v o := by
  rcases a with ⟨a1, a2, a⟩ | ⟨a1, a2, a3⟩
  · exact Or.inl ⟨a1, a2, fun o' v' q => a o' v' ((hS _ _).mp q)⟩
  · exact Or.inr ⟨(hS _ _).mpr a1, a2, fun o' v' q => a3 o' v' ((hS _ _).mp q)⟩
theorem lm_ins {S S' : Int → Int → Prop} {v o x t : Int} (hx : 0 ≤ x ∧ x ≤ 99) (hS : ∀ o' v', S' o' v' ↔ S o' v' ∨ (o' = t ∧ v' = x)) (a : lm_ S v o) : (x < v ∨ x = v ∧ t < o → lm_ S' x t) ∧ (¬ (x < v ∨ x = v ∧ t < o) → lm_ S' v o) := by
  rcases a with ⟨rfl, rfl, a⟩ | ⟨a1, a2, a3⟩
  · refine ⟨fun _ => Or.inr ⟨(hS _ _).mpr (Or.inr ⟨rfl, rfl⟩), hx, fun o' v' q => ?_⟩, fun q => absurd (Or.inl (by omega)) q⟩
    rcases (hS _ _).mp q with z | z
    · exact absurd z (a _ _)
    · omega
  · refine ⟨fun c => Or.inr ⟨(hS _ _).mpr (Or.inr ⟨rfl, rfl⟩), hx, fun o' v' q => ?_⟩, fun c => Or.inr ⟨(hS _ _).mpr (Or.inl a1), a2, fun o' v' q => ?_⟩⟩
    · rcases (hS _ _).mp q with z | z
      · have := a3 _ _ z; omega
      · omega
    · rcases (hS _ _).mp q with z | z
      · exact a3 _ _ z
      · omega
theorem lm_rng {S : Int → Int → Prop} {v o : Int} (a : lm_ S v o) : 0 ≤ v ∧ v ≤ 100 ∧ (v = 100 ↔ o = -6 ∧ ∀ o' v', ¬ S o' v') := by
  rcases a with ⟨a1, a2, a⟩ | ⟨a1, a2, a3⟩
  · exact ⟨by omega, by omega, fun _ => ⟨a2, a⟩, fun _ => a1⟩
  · exact ⟨by omega, by omega, fun q => by omega, fun q => absurd a1 (q.2 _ _)⟩
/-- the frame of a pour: only rows of these places behind it have changed -/
def fp_ (p : Nat) (S : List Nat) (σ σ' : fb_St) : Prop := ∀ k, (∀ j ∈ S, k ≠ p + j) → σ' k = σ k
theorem fp_rf {p : Nat} {S : List Nat} {σ : fb_St} : fp_ p S σ σ := fun _ _ => rfl
theorem fp_tr {p : Nat} {S : List Nat} {σ σ1 σ2 : fb_St} (h1 : fp_ p S σ σ1) (h2 : fp_ p S σ1 σ2) : fp_ p S σ σ2 := fun k hk => (h2 k hk).trans (h1 k hk)
theorem fp_wk {p : Nat} {S S' : List Nat} {σ σ1 : fb_St} (h1 : fp_ p S σ σ1) (h : ∀ k, k ∈ S → k ∈ S') : fp_ p S' σ σ1 := fun k hk => h1 k (fun j hj => hk j (h j hj))
theorem fp_up {p : Nat} {S : List Nat} {σ : fb_St} {j : Nat} {i v : Int} (h : j ∈ S) : fp_ p S σ (fb_up σ (p + j) i v) := fun k hk => up_ne _ _ _ (hk j h)
theorem fp_fill {p : Nat} {S : List Nat} {σ : fb_St} {j : Nat} {v : Int} (h : j ∈ S) : fp_ p S σ (fb_fill σ (p + j) v) := fun k hk => by unfold fb_fill fb_row; exact if_neg (hk j h)
theorem fp_cp {p : Nat} {S : List Nat} {σ : fb_St} {a j : Nat} {n : Int} (h : j ∈ S) : fp_ p S σ (fb_cp σ a (p + j) n) := fun k hk => by unfold fb_cp fb_row; exact if_neg (hk j h)
theorem fp_lt {p : Nat} {S : List Nat} {σ σ' : fb_St} (h : fp_ p S σ σ') {k : Nat} (hk : k < p) : σ' k = σ k := h k (fun j _ => by omega)
theorem fp_at {p : Nat} {S : List Nat} {σ σ' : fb_St} (h : fp_ p S σ σ') (i : Nat) (hi : i ∉ S) : σ' (p + i) = σ (p + i) := h _ (fun j hj e => hi (by have : i = j := by omega
                                                                                                                                                      rw [this]; exact hj))
theorem up_at (σ : fb_St) (p a b : Nat) (i v : Int) (h : a ≠ b) : fb_up σ (p + a) i v (p + b) = σ (p + b) := up_ne _ _ _ (by omega)
/-- all basins' least passes, as the class holds them -/
def wo_ (σ : fb_St) (p : Nat) (S : Int → Int → Int → Prop) : Prop := ∀ b, 1 ≤ b → b ≤ 99 → lm_ (S b) (σ (p + 3) b) (σ (p + 4) b)
theorem sp_noteWayOut {p : Nat} {σ : fb_St} {S : Int → Int → Int → Prop} {b t x : Int} (hs : wo_ σ p S) (hb : 1 ≤ b ∧ b ≤ 99) (hx : 0 ≤ x ∧ x ≤ 99) {Q : Int → fb_St → Prop}
    (h : ∀ σ', fp_ p [3, 4] σ σ' → wo_ σ' p (fun c o v => S c o v ∨ (c = b ∧ o = t ∧ v = x)) → Q 0 σ') : wp_X3_noteWayOut p b t x σ Q := by
  have hins := lm_ins (S' := fun o v => S b o v ∨ (b = b ∧ o = t ∧ v = x)) hx (fun o v => ⟨fun q => q.imp id (fun z => ⟨z.2.1, z.2.2⟩), fun q => q.imp id (fun z => ⟨rfl, z.1, z.2⟩)⟩) (hs b hb.1 hb.2)
  have oth : ∀ c, c ≠ b → ∀ o v, (S c o v ∨ (c = b ∧ o = t ∧ v = x)) ↔ S c o v := fun c hc o v => ⟨fun q => q.elim id (fun z => absurd z.1 hc), Or.inl⟩
  have set : (x < σ (p + 3) b ∨ x = σ (p + 3) b ∧ t < σ (p + 4) b) → (0 ≤ b ∧ b < 100 ∧ ∀ σ16 : fb_St, σ16 = fb_up σ (p + 3) b x → 0 ≤ b ∧ b < 100 ∧ ∀ σ19 : fb_St, σ19 = fb_up σ16 (p + 4) b t → Q 0 σ19) := by
    intro c
    refine ⟨by omega, by omega, fun σ1 h1 => ⟨by omega, by omega, fun σ2 h2 => h σ2 ?_ ?_⟩⟩
    · subst h2; subst h1; exact fp_tr (fp_up (by decide)) (fp_up (by decide))
    · intro c' c1 c2
      have e3 : σ2 (p + 3) = fun j => if j = b then x else σ (p + 3) j := by rw [h2, up_at _ _ _ _ _ _ (by decide), h1, up_eq]
      have e4 : σ2 (p + 4) = fun j => if j = b then t else σ (p + 4) j := by rw [h2, up_eq, h1, up_at _ _ _ _ _ _ (by decide)]
      rw [e3, e4]
      dsimp only
      by_cases e : c' = b
      · rw [if_pos e, if_pos e, e]; exact hins.1 c
      · rw [if_neg e, if_neg e]; exact lm_same (oth c' e) (hs c' c1 c2)
  have keep : ¬ (x < σ (p + 3) b ∨ x = σ (p + 3) b ∧ t < σ (p + 4) b) → Q 0 σ := by
    intro c
    refine h σ fp_rf (fun c' c1 c2 => ?_)
    by_cases e : c' = b
    · rw [e]; exact hins.2 c
    · exact lm_same (oth c' e) (hs c' c1 c2)
  unfold wp_X3_noteWayOut wj_X3_noteWayOut_15 wj_X3_noteWayOut_42 wj_X3_noteWayOut_56
  refine ⟨by omega, by omega, fun z => ⟨fun y => by omega, fun _ => set (Or.inl z)⟩, fun z => ⟨fun _ => ⟨by omega, by omega, fun y => ⟨by omega, by omega, fun u => set (Or.inr ⟨y, u⟩), fun u => keep (by omega)⟩, fun y => keep (by omega)⟩, fun y => absurd rfl y⟩⟩
theorem wo_same {σ : fb_St} {p : Nat} {S S' : Int → Int → Int → Prop} (h : ∀ b o v, S' b o v ↔ S b o v) (a : wo_ σ p S) : wo_ σ p S' := fun b b0 b1 => lm_same (h b) (a b b0 b1)
theorem sp_notePass {p : Nat} {σ : fb_St} {S : Int → Int → Int → Prop} {a b x : Int} (hs : wo_ σ p S) (ha : a ≤ 99) (hb : b ≤ 99) (hx : 0 ≤ x ∧ x ≤ 99) {Q : Int → fb_St → Prop}
    (h : ∀ σ', fp_ p [3, 4] σ σ' → wo_ σ' p (fun c o v => S c o v ∨ ((0 < a ∧ 0 < b ∧ a ≠ b) ∧ v = x ∧ (c = a ∧ o = b ∨ c = b ∧ o = a))) → Q 0 σ') : wp_X3_notePass p a b x σ Q := by
  have keep : ¬ (0 < a ∧ 0 < b ∧ a ≠ b) → Q 0 σ := fun c => h σ fp_rf (wo_same (fun _ _ _ => ⟨fun q => q.elim id (fun z => absurd z.1 c), Or.inl⟩) hs)
  unfold wp_X3_notePass wj_X3_notePass_27
  refine ⟨fun a0 => ⟨fun b0 => ⟨fun e => keep (fun z => z.2.2 e), fun e => ?_⟩, fun b0 => keep (fun z => b0 z.2.1)⟩, fun a0 => keep (fun z => a0 z.1)⟩
  refine sp_noteWayOut hs ⟨by omega, ha⟩ hx (fun σ1 hf1 hs1 => sp_noteWayOut hs1 ⟨by omega, hb⟩ hx (fun σ2 hf2 hs2 => h σ2 (fp_tr hf1 hf2) (wo_same (fun c o v => ?_) hs2)))
  constructor
  · rintro (q | ⟨-, q1, q2 | q2⟩)
    · exact Or.inl (Or.inl q)
    · exact Or.inl (Or.inr ⟨q2.1, q2.2, q1⟩)
    · exact Or.inr ⟨q2.1, q2.2, q1⟩
  · rintro ((q | q) | q)
    · exact Or.inl q
    · exact Or.inr ⟨⟨a0, b0, e⟩, q.2.2, Or.inl ⟨q.1, q.2.1⟩⟩
    · exact Or.inr ⟨⟨a0, b0, e⟩, q.2.2, Or.inr ⟨q.1, q.2.1⟩⟩
