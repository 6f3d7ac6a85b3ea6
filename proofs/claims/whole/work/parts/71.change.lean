/-! ===== the calls that change the land ===== -/
theorem fr_u {S : List Nat} {σ σ' : fb_St} {k : Nat} {i v : Int} (e : σ' = fb_up σ k i v) (h : k ∈ S) : fr_ S σ σ' := by rw [e]; exact fr_up h
theorem fr_fl {S : List Nat} {σ σ' : fb_St} {k : Nat} {v : Int} (e : σ' = fb_fill σ k v) (h : k ∈ S) : fr_ S σ σ' := by rw [e]; exact fr_fill h
theorem fr_cpy {S : List Nat} {σ σ' : fb_St} {a b : Nat} {n : Int} (e : σ' = fb_cp σ a b n) (h : b ∈ S) : fr_ S σ σ' := by rw [e]; exact fr_cp h
theorem yx_ {W H y : Int} (hW : 1 ≤ W ∧ W ≤ 12) (hH : 1 ≤ H ∧ H ≤ 12) (hy : 0 ≤ y) (hy1 : y < H) : 0 ≤ y * W ∧ y * W + W ≤ W * H ∧ W * H ≤ 144 := by
  have a := (wh_ hW hH).2
  have b := Int.mul_le_mul_of_nonneg_right (show y + 1 ≤ H by omega) (show 0 ≤ W by omega)
  have c := Int.mul_nonneg hy (show 0 ≤ W by omega)
  rw [Int.add_mul, Int.one_mul, Int.mul_comm H W] at b
  exact ⟨c, b, a⟩
theorem nb_dt {W H x y : Int} (hx : 0 ≤ x) (hx1 : x < W) (hy : 0 ≤ y) (hy1 : y < H) :
    nb_ W H (y * W + x) 0 = dt_ W H (x + 1) y ∧ nb_ W H (y * W + x) 1 = dt_ W H x (y + 1) ∧ nb_ W H (y * W + x) 2 = dt_ W H (x - 1) y ∧ nb_ W H (y * W + x) 3 = dt_ W H x (y - 1) := by
  obtain ⟨e1, e2⟩ := dm_ (W := W) (x := x) (y := y) (by omega) hx hx1
  rw [Int.mul_comm W y] at e1 e2
  have m1 : (y + 1) * W = y * W + W := by rw [Int.add_mul, Int.one_mul]
  have m2 : (y - 1) * W = y * W - W := by rw [Int.sub_mul, Int.one_mul]
  unfold nb_ dt_
  rw [e1, e2, m1, m2]
  refine ⟨?_, ?_, ?_, ?_⟩
  · rw [if_pos rfl]; split <;> split <;> omega
  · rw [if_neg (by decide), if_pos rfl]; split <;> split <;> omega
  · rw [if_neg (by decide), if_neg (by decide), if_pos rfl]; split <;> split <;> omega
  · rw [if_neg (by decide), if_neg (by decide), if_neg (by decide)]; split <;> split <;> omega
theorem sp_dotAt2 {W H x y : Int} {σ : fb_St} {Q : Int → fb_St → Prop} (e0 : σ 1 0 = W) (e1 : σ 1 1 = H) (hW : 1 ≤ W ∧ W ≤ 12) (hH : 1 ≤ H ∧ H ≤ 12) (h : Q (dt_ W H x y) σ) : wp_X5_dotAt x y σ Q := by
  refine sp_dotAt (by omega) (by omega) ?_
  rw [e0, e1]; exact h
theorem sp_shape {W H : Int} {σ : fb_St} (hW : 1 ≤ W ∧ W ≤ 12) (hH : 1 ≤ H ∧ H ≤ 12) {Q : Int → fb_St → Prop}
    (hq : ∀ σ', fr_ [1, 4] σ σ' → σ' 1 0 = W → σ' 1 1 = H → σ' 1 2 = W * H → (∀ i d, 0 ≤ i → i < W * H → 0 ≤ d → d < 4 → σ' 4 (i * 4 + d) = nb_ W H i d) → Q 0 σ') : wp_X5_shape W H σ Q := by
  have hw := wh_ hW hH
  unfold wp_X5_shape
  intro σ1 h1 σ2 h2
  refine ⟨by omega, ?_⟩
  intro σ4 h4
  have f4 : fr_ [1, 4] σ σ4 := fr_tr (fr_tr (fr_u h1 (by decide)) (fr_u h2 (by decide))) (fr_u h4 (by decide))
  have g0 : σ4 1 0 = W := by rw [h4, h2, h1]; simp [fb_up_ap]
  have g1 : σ4 1 1 = H := by rw [h4, h2, h1]; simp [fb_up_ap]
  have g2 : σ4 1 2 = W * H := by rw [h4, h2, h1]; simp [fb_up_ap]
  clear h1 h2 h4
  refine fb_lp2 (fun y σ' => 0 ≤ y ∧ y ≤ H ∧ fr_ [4] σ4 σ' ∧ ∀ i d, 0 ≤ i → i < y * W → 0 ≤ d → d < 4 → σ' 4 (i * 4 + d) = nb_ W H i d) (fun y _ => (200 - y).toNat) ?_ 0 σ4 ⟨Int.le_refl 0, by omega, fr_rf, fun i d i0 i1 => by omega⟩
  rintro y σ' ⟨y0, y1, hf, hb⟩ r hr
  have e1 : σ' 1 = σ4 1 := hf 1 (by decide)
  unfold wb_X5_shape_19
  rw [e1, g1]
  refine ⟨fun c => ?_, fun c => hq σ' (fr_tr f4 (fr_wk hf (by decide))) (by rw [e1, g0]) (by rw [e1, g1]) (by rw [e1, g2]) (fun i d i0 i1 => hb i d i0 ?_)⟩
  rotate_left
  · have : y = H := by omega
    rw [this, Int.mul_comm]; exact i1
  obtain ⟨n1, n2, n3⟩ := yx_ hW hH y0 c
  refine fb_lp3 (fun y' x σ'' => y = y' ∧ 0 ≤ x ∧ x ≤ W ∧ fr_ [4] σ4 σ'' ∧ ∀ i d, 0 ≤ i → i < y * W + x → 0 ≤ d → d < 4 → σ'' 4 (i * 4 + d) = nb_ W H i d) (fun _ x _ => (200 - x).toNat) ?_ y 0 σ' ⟨rfl, Int.le_refl 0, by omega, hf, fun i d i0 i1 => hb i d i0 (by omega)⟩
  rintro y' x σ'' ⟨rfl, x0, x1, hf2, hb2⟩ r2 hr2
  have e2 : σ'' 1 = σ4 1 := hf2 1 (by decide)
  unfold wb_X5_shape_30
  rw [e2, g0]
  refine ⟨fun c2 => ?_, fun c2 => ⟨by omega, hr _ _ ⟨by omega, by omega, hf2, fun i d i0 i1 => hb2 i d i0 (by rw [Int.add_mul, Int.one_mul] at i1; omega)⟩ (by omega)⟩⟩
  refine ⟨by omega, by omega, by omega, ?_⟩
  intro v hv
  have k0 : ∀ s : fb_St, s 1 = σ4 1 → s 1 0 = W := fun s hs => by rw [hs, g0]
  have k1 : ∀ s : fb_St, s 1 = σ4 1 → s 1 1 = H := fun s hs => by rw [hs, g1]
  refine ⟨by omega, sp_dotAt2 (k0 _ e2) (k1 _ e2) hW hH ⟨by omega, by omega, ?_⟩⟩
  intro s1 hs1
  have q1 : s1 1 = σ4 1 := by rw [hs1, up_ne _ _ _ (by decide), e2]
  refine ⟨by omega, by omega, sp_dotAt2 (k0 _ q1) (k1 _ q1) hW hH ⟨by omega, by omega, ?_⟩⟩
  intro s2 hs2
  have q2 : s2 1 = σ4 1 := by rw [hs2, up_ne _ _ _ (by decide), q1]
  refine ⟨by omega, by omega, sp_dotAt2 (k0 _ q2) (k1 _ q2) hW hH ⟨by omega, by omega, ?_⟩⟩
  intro s3 hs3
  have q3 : s3 1 = σ4 1 := by rw [hs3, up_ne _ _ _ (by decide), q2]
  refine ⟨by omega, by omega, sp_dotAt2 (k0 _ q3) (k1 _ q3) hW hH ⟨by omega, by omega, ?_⟩⟩
  intro s4 hs4
  obtain ⟨m0, m1, m2, m3⟩ := nb_dt (H := H) x0 c2 y0 c
  have e : ∀ j, s4 4 j = if j = v + 3 then nb_ W H (y * W + x) 3 else if j = v + 2 then nb_ W H (y * W + x) 2 else if j = v + 1 then nb_ W H (y * W + x) 1 else if j = v then nb_ W H (y * W + x) 0 else σ'' 4 j := by
    intro j
    rw [m0, m1, m2, m3, hs4, up_eq, hs3, up_eq, hs2, up_eq, hs1, up_eq]
  refine ⟨by omega, hr2 _ _ _ ⟨rfl, by omega, by omega, fr_tr hf2 (fr_tr (fr_tr (fr_tr (fr_u hs1 (by decide)) (fr_u hs2 (by decide))) (fr_u hs3 (by decide))) (fr_u hs4 (by decide))), fun i d i0 i1 d0 d1 => ?_⟩ (by omega)⟩
  rw [e]
  by_cases hi : i = y * W + x
  · subst hi
    have : d = 0 ∨ d = 1 ∨ d = 2 ∨ d = 3 := by omega
    rcases this with rfl | rfl | rfl | rfl
    · rw [if_neg (by omega), if_neg (by omega), if_neg (by omega), if_pos (by omega)]
    · rw [if_neg (by omega), if_neg (by omega), if_pos (by omega)]
    · rw [if_neg (by omega), if_pos (by omega)]
    · rw [if_pos (by omega)]
  · rw [if_neg (by omega), if_neg (by omega), if_neg (by omega), if_neg (by omega)]
    exact hb2 i d i0 (by omega) d0 d1
theorem sp_nothing {σ : fb_St} {Q : Int → fb_St → Prop} (hq : ∀ σ', fr_ [0] σ σ' → σ' 0 6 = σ 0 6 → σ' 0 7 = σ 0 7 → (σ' 0 8 = 0 ∧ σ' 0 9 = 0 ∧ σ' 0 10 = 0) → Q 0 σ') : wp_X6_nothingStands σ Q := by
  unfold wp_X6_nothingStands
  intro σ1 h1 σ2 h2 σ3 h3
  refine hq σ3 (fr_tr (fr_tr (fr_u h1 (by decide)) (fr_u h2 (by decide))) (fr_u h3 (by decide))) ?_ ?_ ⟨?_, ?_, ?_⟩ <;> (rw [h3, h2, h1]; simp [fb_up_ap])
/-- behind a change of the land: nothing stands, pits are counted -/
theorem sp_pac {W H : Int} {σ : fb_St} (ht : tv_ W H σ) {Q : Int → fb_St → Prop} (hq : ∀ σ', fr_ [0, 5, 6, 7] σ σ' → σ' 0 6 = σ 0 6 → σ' 0 7 = σ 0 7 → (σ' 0 8 = 0 ∧ σ' 0 9 = 0 ∧ σ' 0 10 = 0) → Q (pc_ W H (σ 2) (W * H).toNat) σ') : wp_X6_pitsAfterChange σ Q := by
  unfold wp_X6_pitsAfterChange
  refine sp_nothing (fun σ1 f1 a6 a7 a8 => ?_)
  refine sp_findPits (h := σ 2) (tv_eq ht (f1 1 (by decide)) (f1 2 (by decide)) (f1 4 (by decide))) (fun j _ _ => by rw [f1 2 (by decide)]) (fun q => absurd rfl q) (fun σ2 f2 g2 _ => ?_)
  have e0 : σ2 0 = σ1 0 := f2 0 (by decide)
  refine hq σ2 (fun k hk => ?_) (by rw [e0, a6]) (by rw [e0, a7]) (by rw [e0]; exact a8)
  by_cases h3 : k = 3
  · subst h3; rw [g2 rfl, f1 3 (by decide)]
  · rw [f2 k (by simp only [List.mem_cons, List.not_mem_nil, or_false] at hk ⊢; omega), f1 k (by simp only [List.mem_cons, List.not_mem_nil, or_false] at hk ⊢; omega)]
/-- what a changed land wants -/
theorem iv_mk {W H : Int} {σ σ' : fb_St} (ht : tv_ W H σ') (hm : mv_ W H σ') (he : ∀ i, 0 ≤ i → i < 144 → σ' 49 i = σ' 2 i ∧ σ' 49 (144 + i) = σ' 3 i)
    (hk : σ' 49 290 = σ' 0 6 ∧ σ' 49 291 = σ' 0 7 ∧ (σ' 0 6 = 0 ∨ σ' 0 6 = 1 ∨ σ' 0 6 = 2) ∧ 0 ≤ σ' 0 7 ∧ σ' 0 7 ≤ 2000) (hi : im_ 42 0 σ ∧ im_ 45 1 σ)
    (e : ∀ k, k ∈ [42, 43, 44, 45, 46, 47, 50, 51] → σ' k = σ k) (h8 : σ' 0 8 = 0 ∧ σ' 0 9 = 0 ∧ σ' 0 10 = 0) : iv_ σ' :=
  ⟨W, H, ⟨ht, hm, he, hk, im_eq hi.1 (e 42 (by decide)) (e 43 (by decide)) (e 44 (by decide)) (e 50 (by decide)) (e 51 (by decide)), im_eq hi.2 (e 45 (by decide)) (e 46 (by decide)) (e 47 (by decide)) (e 50 (by decide)) (e 51 (by decide))⟩, fun q => absurd h8.1 q, fun q => absurd h8.2.1 q, fun q => absurd h8.2.2 q⟩
theorem op_land {x1 x2 : Int} {σ : fb_St} (h : iv_ σ) : wp_X6_land x1 x2 σ (fun r σ1 => wp_X7_land x1 x2 σ1 (fun r2 σ2 => r = r2 ∧ iv_ σ2)) := by
  obtain ⟨W, H, hb, hc⟩ := h
  have no : ¬ ((1 ≤ x1 ∧ x1 ≤ 12) ∧ (1 ≤ x2 ∧ x2 ≤ 12)) → wp_X7_land x1 x2 σ (fun r2 σ2 => (-2 : Int) = r2 ∧ iv_ σ2) := fun hn => by
    unfold wp_X7_land wj_X7_land_20
    refine sm_in (fun a1 a2 => ⟨fun q => by omega, fun _ => sm_in (fun b1 b2 => absurd ⟨⟨a1, a2⟩, b1, b2⟩ hn) (fun _ => ⟨fun _ => ⟨rfl, W, H, hb, hc⟩, fun q => absurd rfl q⟩)⟩) (fun _ => ⟨fun _ => ⟨rfl, W, H, hb, hc⟩, fun q => absurd rfl q⟩)
  unfold wp_X6_land wj_X6_land_20
  refine sp_within (fun a1 a2 => ⟨fun q => by omega, fun _ => sp_within (fun b1 b2 => ⟨fun q => by omega, fun _ => ?_⟩) (fun hn => ⟨fun _ => no (fun q => hn q.2), fun q => absurd rfl q⟩)⟩) (fun hn => ⟨fun _ => no (fun q => hn q.1), fun q => absurd rfl q⟩)
  clear no
  refine sp_shape ⟨a1, a2⟩ ⟨b1, b2⟩ (fun σ1 f1 g0 g1 g2 g4 => ?_)
  unfold wp_X5_clear
  intro σ2 h2 σ3 h3
  have f3 : fr_ [1, 2, 3, 4] σ σ3 := fr_tr (fr_wk f1 (by decide)) (fr_tr (fr_fl h2 (by decide)) (fr_fl h3 (by decide)))
  have z2 : ∀ i, σ3 2 i = 0 := fun i => by rw [h3, h2]; simp [fb_fill_ap]
  have z3 : ∀ i, σ3 3 i = 0 := fun i => by rw [h3]; simp [fb_fill_ap]
  have e1 : σ3 1 = σ1 1 := by funext i; rw [h3, h2]; simp [fb_fill_ap]
  have e4 : σ3 4 = σ1 4 := by funext i; rw [h3, h2]; simp [fb_fill_ap]
  clear h2 h3
  have ht3 : tv_ x1 x2 σ3 := ⟨by rw [e1, g0], by rw [e1, g1], by rw [e1, g2], ⟨a1, a2⟩, ⟨b1, b2⟩, fun i _ _ => by rw [z2]; omega, by rw [e4]; exact g4⟩
  refine sp_pac ht3 (fun σ4 f4 c6 c7 c8 => ?_)
  have hp : pc_ x1 x2 (σ3 2) (x1 * x2).toNat = pc_ x1 x2 (fun _ => 0) (x1 * x2).toNat := by congr 1; funext i; exact z2 i
  rw [hp]
  have e49 : σ4 49 = σ 49 := by rw [f4 49 (by decide), f3 49 (by decide)]
  unfold wp_X7_land wj_X7_land_20
  refine sm_in (fun _ _ => ⟨fun q => by omega, fun _ => sm_in (fun _ _ => ⟨fun q => by omega, fun _ => ?_⟩) (fun hn => absurd ⟨b1, b2⟩ hn)⟩) (fun hn => absurd ⟨a1, a2⟩ hn)
  refine fb_lp4 (fun y1 y2 i σ' => x1 = y1 ∧ x2 = y2 ∧ 0 ≤ i ∧ i ≤ 144 ∧ fr_ [49] σ4 σ' ∧ (∀ j, 0 ≤ j → j < i → σ' 49 j = 0 ∧ σ' 49 (144 + j) = 0) ∧ σ' 49 290 = σ 49 290 ∧ σ' 49 291 = σ 49 291) (fun _ _ i _ => (200 - i).toNat) ?_ x1 x2 0 σ4 ⟨rfl, rfl, Int.le_refl 0, by omega, fr_rf, fun j j0 j1 => by omega, by rw [e49], by rw [e49]⟩
  rintro y1 y2 i σ' ⟨rfl, rfl, i0, i1, hf, hz, d0, d1⟩ r hr
  unfold wb_X7_land_25
  refine ⟨fun c => ⟨by omega, by omega, ?_⟩, fun c => ?_⟩
  · intro s1 hs1
    refine ⟨by omega, by omega, by omega, ?_⟩
    intro s2 hs2
    have e : ∀ j, s2 49 j = if j = 144 + i then 0 else if j = i then 0 else σ' 49 j := fun j => by rw [hs2, up_eq, hs1, up_eq]
    refine ⟨by omega, hr _ _ _ _ ⟨rfl, rfl, by omega, by omega, fr_tr hf (fr_tr (fr_u hs1 (by decide)) (fr_u hs2 (by decide))), fun j j0 j1 => ?_, ?_, ?_⟩ (by omega)⟩
    · rw [e, e]
      by_cases hj : j = i
      · subst hj; refine ⟨?_, ?_⟩ <;> (repeat' split) <;> first | rfl | omega
      · have := hz j j0 (by omega)
        refine ⟨?_, ?_⟩ <;> (repeat' split) <;> omega
    · rw [e, if_neg (by omega), if_neg (by omega), d0]
    · rw [e, if_neg (by omega), if_neg (by omega), d1]
  · intro s1 hs1 s2 hs2
    have hi : i = 144 := by omega
    subst hi
    have e : ∀ j, s2 49 j = if j = 289 then x2 else if j = 288 then x1 else σ' 49 j := fun j => by rw [hs2, up_eq, hs1, up_eq]
    have fs : fr_ [49] σ4 s2 := fr_tr hf (fr_tr (fr_u hs1 (by decide)) (fr_u hs2 (by decide)))
    have m2 : mv_ x1 x2 s2 := ⟨by rw [e, if_neg (by decide), if_pos rfl], by rw [e, if_pos rfl], ⟨a1, a2⟩, ⟨b1, b2⟩, fun j j0 j1 => by rw [e, if_neg (by omega), if_neg (by omega), (hz j j0 j1).1]; omega, fun j j0 j1 => by rw [e, if_neg (by omega), if_neg (by omega), (hz j j0 j1).2]; omega⟩
    have hw := mv_wh m2
    refine sm_layPits (h := fun _ => 0) m2 (fun j j0 j1 => by rw [e, if_neg (by omega), if_neg (by omega), (hz j j0 (by omega)).1]) (fun s3 f3' _ _ => ⟨rfl, ?_⟩)
    have E : ∀ k, k ∉ [49, 52, 53, 54] → s3 k = σ4 k := fun k hk => by rw [f3' k (by simp only [List.mem_cons, List.not_mem_nil, or_false] at hk ⊢; omega), fs k (by simp only [List.mem_cons, List.not_mem_nil, or_false] at hk ⊢; omega)]
    have E49 : s3 49 = s2 49 := f3' 49 (by decide)
    have E0 : s3 0 = σ4 0 := E 0 (by decide)
    have F2 : s3 2 = σ3 2 := by rw [E 2 (by decide), f4 2 (by decide)]
    have F3 : s3 3 = σ3 3 := by rw [E 3 (by decide), f4 3 (by decide)]
    refine iv_mk (σ := σ) (W := x1) (H := x2) (tv_eq ht3 (by rw [E 1 (by decide), f4 1 (by decide)]) F2 (by rw [E 4 (by decide), f4 4 (by decide)])) (mv_eq m2 E49) (fun j j0 j1 => ?_) ?_ hb.2.2.2.2 (fun k hk => ?_) (by rw [E0]; exact c8)
    · rw [E49, F2, F3, z2, z3, e, e, if_neg (by omega), if_neg (by omega), if_neg (by omega), if_neg (by omega)]
      exact hz j j0 j1
    · rw [E49, E0, e, e, if_neg (by decide), if_neg (by decide), if_neg (by decide), if_neg (by decide), d0, d1, c6, c7, f3 0 (by decide)]
      exact hb.2.2.2.1
    · rw [E k (by revert hk; revert k; decide), f4 k (by revert hk; revert k; decide), f3 k (by revert hk; revert k; decide)]
