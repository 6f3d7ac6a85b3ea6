section DOT
variable {W H : Int} {σ : fb_St}
theorem op_dot {x y w : Int} (h : iv_ σ) : wp_X6_dot x y w σ (fun r σ1 => wp_X7_dot x y w σ1 (fun r2 σ2 => r = r2 ∧ iv_ σ2)) := by
  obtain ⟨W, H, hb, hc⟩ := h
  have ht := hb.1
  have hw := tv_wh ht
  have no : ∀ s : fb_St, ba_ W H s → ca_ W H s → ¬ ((0 ≤ x ∧ x < W ∧ 0 ≤ y ∧ y < H) ∧ (0 ≤ w ∧ w ≤ 5)) → wp_X7_dot x y w s (fun r2 σ2 => (-2 : Int) = r2 ∧ iv_ σ2) := fun s hb hc hn => by
    unfold wp_X7_dot wj_X7_dot_18
    have z : (-2 : Int) = -2 ∧ iv_ s := ⟨rfl, W, H, hb, hc⟩
    exact sm_isDot hb.2.1 (fun a1 => ⟨fun q => by omega, fun _ => sm_in (fun b1 b2 => absurd ⟨a1, b1, b2⟩ hn) (fun _ => ⟨fun _ => z, fun q => absurd rfl q⟩)⟩) (fun _ => ⟨fun _ => z, fun q => absurd rfl q⟩)
  unfold wp_X6_dot
  refine sp_dotAt2 ht.1 ht.2.1 ht.2.2.2.1 ht.2.2.2.2.1 ⟨fun q => no σ hb hc (fun z => (dt_is hw.1).1.mp q z.1), fun q => ?_⟩
  have hp : 0 ≤ x ∧ x < W ∧ 0 ≤ y ∧ y < H := Classical.byContradiction (fun z => q ((dt_is hw.1).1.mpr z))
  obtain ⟨d0, d1, d2⟩ := (dt_is (H := H) hw.1).2 hp
  rw [d0]
  have yes : ∀ (s : fb_St) (v : Int), ba_ W H s → ca_ W H s → 0 ≤ w → w ≤ 5 → (∀ s' : fb_St, (∀ k, k < 48 ∨ k = 49 ∨ k = 50 ∨ k = 51 → s' k = s k) → mo_ W H (s 2) (s 3) s' (rp_ W H s) →
      (w = 0 → v = s' 49 (y * W + x)) ∧ (w = 1 → v = s' 49 (144 + (y * W + x))) ∧ (w = 2 → v = s' 55 (y * W + x)) ∧ (w = 3 → v = s' 56 (y * W + x)) ∧ (w = 4 → v = s' 57 (y * W + x)) ∧ (w < 0 ∨ 4 < w → v = s' 60 (y * W + x))) →
      wp_X7_dot x y w s (fun r2 σ2 => v = r2 ∧ iv_ σ2) := fun s v hb hc w0 w1 hv => by
    unfold wp_X7_dot wj_X7_dot_18
    refine sm_isDot hb.2.1 (fun _ => ⟨fun q => by omega, fun _ => sm_in (fun _ _ => ⟨fun q => by omega, fun _ => sm_at hb.2.1 hp (fun a0 a1 => sm_told hb (fun s' hf hm => ?_))⟩) (fun z => absurd ⟨w0, w1⟩ z)⟩) (fun z => absurd hp z)
    obtain ⟨v0, v1, v2, v3, v4, v5⟩ := hv s' hf hm
    have I := iv_model hb hc hf
    exact ⟨fun q => ⟨by omega, by omega, v0 q, I⟩, fun q => ⟨by omega, by omega, by omega, v1 q, I⟩, fun q => ⟨by omega, by omega, v2 q, I⟩, fun q => ⟨by omega, by omega, v3 q, I⟩, fun q => ⟨by omega, by omega, v4 q, I⟩, fun q => ⟨by omega, by omega, v5 q, I⟩⟩
  refine ⟨fun e => ⟨by omega, by omega, ?_⟩, fun e => ⟨by omega, by omega, ?_⟩, fun e => ?_, fun e => ?_, fun e => ?_, fun e => ?_, fun e => no σ hb hc (by omega)⟩
  · refine yes σ _ hb hc (by omega) (by omega) (fun s' hf hm => ?_)
    have := (hb.2.2.1 _ d1 (by omega)).1
    refine ⟨fun _ => ?_, fun q => ?_, fun q => ?_, fun q => ?_, fun q => ?_, fun q => ?_⟩ <;> first | omega | (rw [hf 49 (by omega)]; exact this.symm)
  · refine yes σ _ hb hc (by omega) (by omega) (fun s' hf hm => ?_)
    have := (hb.2.2.1 _ d1 (by omega)).2
    refine ⟨fun q => ?_, fun q => ?_, fun q => ?_, fun q => ?_, fun q => ?_, fun q => ?_⟩ <;> first | omega | (rw [hf 49 (by omega)]; exact this.symm)
  · refine sp_sFlood hb hc (fun s b1 c1 f1 _ _ => ⟨by omega, by omega, yes s _ b1 c1 (by omega) (by omega) (fun s' hf hm => ?_)⟩)
    have := (f1 _ d1 d2).1.trans (hm.2.1 _ d1 d2).1.symm
    exact ⟨fun q => by omega, fun q => by omega, fun _ => this, fun q => by omega, fun q => by omega, fun q => by omega⟩
  · refine sp_sFlood hb hc (fun s b1 c1 f1 _ _ => ⟨by omega, by omega, yes s _ b1 c1 (by omega) (by omega) (fun s' hf hm => ?_)⟩)
    have := (f1 _ d1 d2).2.1.trans (hm.2.1 _ d1 d2).2.1.symm
    exact ⟨fun q => by omega, fun q => by omega, fun q => by omega, fun _ => this, fun q => by omega, fun q => by omega⟩
  · refine sp_sFlood hb hc (fun s b1 c1 f1 _ _ => ⟨by omega, by omega, yes s _ b1 c1 (by omega) (by omega) (fun s' hf hm => ?_)⟩)
    have := (f1 _ d1 d2).2.2.trans (hm.2.1 _ d1 d2).2.2.symm
    exact ⟨fun q => by omega, fun q => by omega, fun q => by omega, fun q => by omega, fun _ => this, fun q => by omega⟩
  · refine sp_sPour hb hc (fun s b1 c1 p1 _ _ => ⟨by omega, by omega, yes s _ b1 c1 (by omega) (by omega) (fun s' hf hm => ?_)⟩)
    have := ((p1.1.2.2.2 _ d1 d2).1).trans ((hm.1.2.2 _ d1 d2).1).symm
    exact ⟨fun q => by omega, fun q => by omega, fun q => by omega, fun q => by omega, fun q => by omega, fun _ => this⟩
/-- events, told by both -/
theorem ev_len {a b c d a' b' c' d' : Int → Int} {n n' : Int} (h0 : 0 ≤ n) (h1 : 0 ≤ n') (e : el_ a b c d n.toNat = el_ a' b' c' d' n'.toNat) : n = n' ∧ ∀ i, 0 ≤ i → i < n → a i = a' i ∧ b i = b' i ∧ c i = c' i ∧ d i = d' i := by
  have l := congrArg List.length e
  rw [el_len, el_len] at l
  have en : n = n' := by omega
  subst en
  refine ⟨rfl, fun i i0 i1 => ?_⟩
  have g1 := el_get (a := a) (b := b) (c := c) (d := d) (k := i.toNat) n.toNat (by omega)
  have g2 := el_get (a := a') (b := b') (c := c') (d := d') (k := i.toNat) n.toNat (by omega)
  rw [e, g2] at g1
  rw [Int.toNat_of_nonneg i0] at g1
  injection g1 with g
  simp only [Prod.mk.injEq] at g
  exact ⟨g.1.symm, g.2.1.symm, g.2.2.1.symm, g.2.2.2.symm⟩
theorem sp_told {pp : Nat} {i w : Int} {Q : Int → fb_St → Prop} (hE : 0 ≤ σ pp 0 ∧ σ pp 0 ≤ 98) (h2 : ¬ (0 ≤ w ∧ w ≤ 3) → Q (-2) σ) (h6 : (0 ≤ w ∧ w ≤ 3) → ¬ (0 ≤ i ∧ i < σ pp 0) → Q (-6) σ)
    (hv : ∀ v, (0 ≤ i ∧ i < σ pp 0) → (w = 0 ∧ v = σ (pp + 7) i ∨ w = 1 ∧ v = σ (pp + 8) i ∨ w = 2 ∧ v = σ (pp + 9) i ∨ w = 3 ∧ v = σ (pp + 10) i) → Q v σ) : wp_X3_told pp i w σ Q := by
  unfold wp_X3_told
  refine sp_within (fun a b => ⟨fun q => by omega, fun _ => ⟨by omega, sp_within (fun c d => ⟨fun q => by omega, fun _ => ?_⟩) (fun n => ⟨fun _ => h6 ⟨a, b⟩ (by omega), fun q => absurd rfl q⟩)⟩⟩) (fun n => ⟨fun _ => h2 n, fun q => absurd rfl q⟩)
  exact ⟨fun q => ⟨by omega, by omega, hv _ (by omega) (Or.inl ⟨q, rfl⟩)⟩, fun q => ⟨by omega, by omega, hv _ (by omega) (Or.inr (Or.inl ⟨q, rfl⟩))⟩, fun q => ⟨by omega, by omega, hv _ (by omega) (Or.inr (Or.inr (Or.inl ⟨q, rfl⟩)))⟩, fun q => ⟨by omega, by omega, hv _ (by omega) (Or.inr (Or.inr (Or.inr ⟨by omega, rfl⟩)))⟩⟩
theorem sm_told2 {i w : Int} {Q : Int → fb_St → Prop} (hE : 0 ≤ σ 48 17 ∧ σ 48 17 ≤ 98) (hw : 0 ≤ w ∧ w ≤ 3) (h6 : ¬ (0 ≤ i ∧ i < σ 48 17) → Q (-6) σ)
    (hv : ∀ v, (0 ≤ i ∧ i < σ 48 17) → (w = 0 ∧ v = σ 61 i ∨ w = 1 ∧ v = σ 62 i ∨ w = 2 ∧ v = σ 63 i ∨ w = 3 ∧ v = σ 64 i) → Q v σ) : wp_X7_told i w σ Q := by
  unfold wp_X7_told wj_X7_told_64
  refine ⟨by omega, sm_in (fun c d => ⟨fun q => by omega, fun _ => ?_⟩) (fun n => ⟨fun _ => h6 (by omega), fun q => absurd rfl q⟩)⟩
  exact ⟨fun q => ⟨by omega, by omega, hv _ (by omega) (Or.inl ⟨q, rfl⟩)⟩, fun n0 => ⟨fun q => ⟨by omega, by omega, hv _ (by omega) (Or.inr (Or.inl ⟨q, rfl⟩))⟩, fun n1 => ⟨fun q => ⟨by omega, by omega, hv _ (by omega) (Or.inr (Or.inr (Or.inl ⟨q, rfl⟩)))⟩, fun q => ⟨by omega, by omega, hv _ (by omega) (Or.inr (Or.inr (Or.inr ⟨by omega, rfl⟩)))⟩⟩⟩⟩
theorem to_eq {pp : Nat} {R : (Int → Int) × EV_} {h m : Int → Int} {s s' : fb_St} {i w : Int} {r : Int} (hp : po_ W H h pp s R) (hm : mo_ W H h m s' R) (hw : 0 ≤ w ∧ w ≤ 3)
    (hr : (¬ (0 ≤ i ∧ i < s pp 0) ∧ r = -6) ∨ ((0 ≤ i ∧ i < s pp 0) ∧ (w = 0 ∧ r = s (pp + 7) i ∨ w = 1 ∧ r = s (pp + 8) i ∨ w = 2 ∧ r = s (pp + 9) i ∨ w = 3 ∧ r = s (pp + 10) i))) (I : iv_ s') : wp_X7_told i w s' (fun r2 σ2 => r = r2 ∧ iv_ σ2) := by
  obtain ⟨en, eq⟩ := ev_len hp.2.2.1 hm.2.2.1 (hp.2.2.2.2.symm.trans hm.2.2.2.2)
  refine sm_told2 ⟨hm.2.2.1, hm.2.2.2.1⟩ hw (fun n => ⟨?_, I⟩) (fun v c hv => ⟨?_, I⟩)
  · rcases hr with q | q
    · exact q.2
    · omega
  · have e := eq i (by omega) (by omega)
    rcases hr with q | ⟨-, q⟩
    · omega
    · omega
theorem op_poured {i w : Int} (h : iv_ σ) : wp_X6_poured i w σ (fun r σ1 => wp_X7_poured i w σ1 (fun r2 σ2 => r = r2 ∧ iv_ σ2)) := by
  obtain ⟨W, H, hb, hc⟩ := h
  unfold wp_X6_poured
  refine sp_sPour hb hc (fun s b1 c1 p1 _ _ => ?_)
  unfold wp_X7_poured
  refine sp_told ⟨p1.2.2.1, p1.2.2.2.1⟩ (fun n => sm_in (fun a b => absurd ⟨a, b⟩ n) (fun _ => ⟨fun _ => ⟨rfl, W, H, b1, c1⟩, fun q => absurd rfl q⟩)) (fun hw n => sm_in (fun _ _ => ⟨fun q => by omega, fun _ => sm_told b1 (fun s' hf hm => ?_)⟩) (fun z => absurd hw z)) (fun v c hv => sm_in (fun a b => ⟨fun q => by omega, fun _ => sm_told b1 (fun s' hf hm => ?_)⟩) (fun z => by omega))
  · exact to_eq p1 hm hw (Or.inl ⟨n, rfl⟩) (iv_model b1 c1 hf)
  · exact to_eq p1 hm ⟨a, b⟩ (Or.inr ⟨c, hv⟩) (iv_model b1 c1 hf)
theorem op_tree {i w : Int} (h : iv_ σ) : wp_X6_tree i w σ (fun r σ1 => wp_X7_tree i w σ1 (fun r2 σ2 => r = r2 ∧ iv_ σ2)) := by
  obtain ⟨W, H, hb, hc⟩ := h
  unfold wp_X6_tree
  refine sp_sTree hb hc (fun s b1 c1 p1 _ _ => ?_)
  unfold wp_X7_tree
  refine sp_told ⟨p1.2.2.1, p1.2.2.2.1⟩ (fun n => sm_in (fun a b => absurd ⟨a, b⟩ n) (fun _ => ⟨fun _ => ⟨rfl, W, H, b1, c1⟩, fun q => absurd rfl q⟩)) (fun hw n => sm_in (fun _ _ => ⟨fun q => by omega, fun _ => sm_tree b1 (fun s' hf hm => ?_)⟩) (fun z => absurd hw z)) (fun v c hv => sm_in (fun a b => ⟨fun q => by omega, fun _ => sm_tree b1 (fun s' hf hm => ?_)⟩) (fun z => by omega))
  · exact to_eq p1 hm hw (Or.inl ⟨n, rfl⟩) (iv_model b1 c1 hf)
  · exact to_eq p1 hm ⟨a, b⟩ (Or.inr ⟨c, hv⟩) (iv_model b1 c1 hf)
end DOT
