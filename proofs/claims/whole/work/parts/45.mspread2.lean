section SMS
variable {W H s lv al : Int} {σ : fb_St}
abbrev qk_ (σ : fb_St) (lv al : Int) : Int → Prop := fun b => if al = 0 then σ 49 b ≤ lv else σ 49 b = lv
def mj_ (W H s lv al : Int) (σ σ' : fb_St) (N : Int) : Prop := fr_ [53, 54] σ σ' ∧ bf_ W H (qk_ σ lv al) s (fun _ => 0) N (σ' 53) (σ' 54)
theorem sm_spread (hm : mv_ W H σ) (s0 : 0 ≤ s) (s1 : s < W * H) (hp : qk_ σ lv al s) {Q : Int → fb_St → Prop} (h : ∀ N σ', fr_ [53, 54] σ σ' → bo_ W H (qk_ σ lv al) s (fun _ => 0) N (σ' 53) (σ' 54) → Q N σ') : wp_X7_spread s lv al σ Q := by
  have hw := mv_wh hm
  unfold wp_X7_spread
  refine fb_lp5 (fun x1 x2 x3 i σ' => s = x1 ∧ lv = x2 ∧ al = x3 ∧ 0 ≤ i ∧ i ≤ 144 ∧ fr_ [53, 54] σ σ' ∧ ∀ j, 0 ≤ j → j < i → σ' 54 j = 0) (fun _ _ _ i _ => (144 - i).toNat) ?_ s lv al 0 σ ⟨rfl, rfl, rfl, Int.le_refl 0, by omega, fr_rf, fun j h0 h1 => by omega⟩
  rintro x1 x2 x3 i σ1 ⟨rfl, rfl, rfl, i0, i1, hf, hz⟩ r3 hr3
  unfold wb_X7_spread_3
  refine ⟨fun c1 => ⟨i0, c1, fun σ2 hσ2 => ⟨by omega, ?_⟩⟩, fun c1 => ?_⟩
  · subst hσ2
    refine hr3 _ _ _ _ _ ⟨rfl, rfl, rfl, by omega, by omega, fr_tr hf (fr_up (by decide)), fun j h0 h1 => ?_⟩ (by omega)
    rw [up_eq]
    dsimp only
    split
    · rfl
    · exact hz j h0 (by omega)
  · intro σ2 hσ2
    refine ⟨s0, by omega, fun σ3 hσ3 => ?_⟩
    have hi : i = 144 := by omega
    have hj3 : mj_ W H s lv al σ σ3 1 := by
      subst hσ3; subst hσ2
      refine ⟨fr_tr hf (fr_tr (fr_up (k := 53) (by decide)) (fr_up (k := 54) (by decide))), ?_⟩
      have b0 : bf_ W H (qk_ σ lv al) s (fun _ => 0) 0 (σ1 53) (fun _ => 0) := bf_0
      have b1 := bf_add b0 s0 s1 rfl (rc_self hp)
      have e53 : fb_up (fb_up σ1 53 0 s) 54 s 1 53 = fun j => if j = 0 then s else σ1 53 j := by rw [up_ne _ _ _ (by decide), up_eq]
      have e54 : ∀ j, 0 ≤ j → j < W * H → fb_up (fb_up σ1 53 0 s) 54 s 1 54 j = if j = s then 1 else 0 := by
        intro j j0 j1
        rw [up_eq, up_ne _ _ _ (by decide)]
        dsimp only
        split
        · rfl
        · exact hz j j0 (by omega)
      rw [e53]
      obtain ⟨c1, c2, c3, c4⟩ := b1
      refine ⟨c1, c2, fun j j0 j1 => ?_, fun g => (c4 g).trans (su_congr _ (fun j j0 j1 => ?_))⟩
      · rw [e54 j j0 j1]; exact c3 j j0 j1
      · rw [e54 j j0 (by omega)]
    refine fb_lp5 (fun x2 x3 N k σ' => lv = x2 ∧ al = x3 ∧ mj_ W H s lv al σ σ' N ∧ (σ' 54 s ≠ 0) ∧ 0 ≤ k ∧ k ≤ N ∧ ∀ q, 0 ≤ q → q < k → ∀ d, 0 ≤ d → d < 4 → nb_ W H (σ' 53 q) d ≠ -1 → qk_ σ lv al (nb_ W H (σ' 53 q) d) → σ' 54 (nb_ W H (σ' 53 q) d) ≠ 0) (fun _ _ _ k _ => (200 - k).toNat) ?_ lv al 1 0 σ3 ⟨rfl, rfl, hj3, by subst hσ3; rw [up_eq]; simp, Int.le_refl 0, by omega, fun q q0 q1 => by omega⟩
    rintro x2 x3 N k σ4 ⟨rfl, rfl, hj4, hs4, k0, kN, hc⟩ r45 hr45
    have hle := bf_le (by omega) hj4.2
    unfold wb_X7_spread_45
    refine ⟨fun c2 => ?_, fun c2 => ?_⟩
    · refine fb_lp6 (fun y2 y3 M y5 d σ' => lv = y2 ∧ al = y3 ∧ k = y5 ∧ mj_ W H s lv al σ σ' M ∧ σ' 54 s ≠ 0 ∧ k < M ∧ (∀ q, 0 ≤ q → q < k → ∀ d, 0 ≤ d → d < 4 → nb_ W H (σ' 53 q) d ≠ -1 → qk_ σ lv al (nb_ W H (σ' 53 q) d) → σ' 54 (nb_ W H (σ' 53 q) d) ≠ 0) ∧ 0 ≤ d ∧ d ≤ 4 ∧ ∀ d', 0 ≤ d' → d' < d → nb_ W H (σ' 53 k) d' ≠ -1 → qk_ σ lv al (nb_ W H (σ' 53 k) d') → σ' 54 (nb_ W H (σ' 53 k) d') ≠ 0) (fun _ _ _ _ d _ => (4 - d).toNat) ?_ lv al N k 0 σ4 ⟨rfl, rfl, rfl, hj4, hs4, c2, hc, Int.le_refl 0, by omega, fun d' h0 h1 => by omega⟩
      rintro y2 y3 M y5 d σ5 ⟨rfl, rfl, rfl, hj5, hs5, k5, hc5, d0, d1, hd⟩ r55 hr55
      have hle5 := bf_le (by omega) hj5.2
      have e49 : σ5 49 = σ 49 := hj5.1 49 (by decide)
      unfold wb_X7_spread_55 wj_X7_spread_120 wj_X7_spread_140
      refine ⟨fun c3 => ⟨k0, by omega, ?_⟩, fun c3 => ⟨by omega, ?_⟩⟩
      · obtain ⟨q1, q2, q3⟩ := hj5.2.2.1 k k0 k5
        have hold : (nb_ W H (σ5 53 k) d ≠ -1 → qk_ σ lv al (nb_ W H (σ5 53 k) d) → σ5 54 (nb_ W H (σ5 53 k) d) ≠ 0) → r55 lv al M k (d + 1) σ5 := fun hn =>
          hr55 _ _ _ _ _ _ ⟨rfl, rfl, rfl, hj5, hs5, k5, hc5, by omega, by omega, fun d' d0' d1' => by
            by_cases e : d' = d
            · rw [e]; exact hn
            · exact hd d' d0' (by omega)⟩ (by omega)
        refine sm_beside (mv_eq hm e49) q2 q3 ⟨d0, c3⟩ (fun n1 => ⟨fun _ => ⟨by omega, hold (fun z => absurd n1 z)⟩, fun z => by omega⟩) (fun n0 n1 => ⟨fun z => by omega, fun _ => ⟨n0, by omega, ?_⟩⟩)
        have hnew : qk_ σ lv al (nb_ W H (σ5 53 k) d) → σ5 54 (nb_ W H (σ5 53 k) d) = 0 → (0 ≤ nb_ W H (σ5 53 k) d ∧ nb_ W H (σ5 53 k) d < 144 ∧ ∀ σ34 : fb_St, σ34 = fb_up σ5 54 (nb_ W H (σ5 53 k) d) 1 → 0 ≤ M ∧ M < 144 ∧ ∀ σ37 : fb_St, σ37 = fb_up σ34 53 M (nb_ W H (σ5 53 k) d) → fb_in (M + 1) ∧ fb_in (d + 1) ∧ r55 lv al (M + 1) k (d + 1) σ37) := by
          intro hp hz5
          have hlt := bf_lt hj5.2 n0 n1 hz5
          refine ⟨n0, by omega, fun σ6 hσ6 => ⟨by omega, by omega, fun σ7 hσ7 => ⟨by omega, by omega, ?_⟩⟩⟩
          subst hσ6; subst hσ7
          have hadd := bf_add hj5.2 n0 n1 hz5 (rc_step q1 ⟨q2, q3, n0, d, d0, c3, rfl⟩ hp)
          have g53 : fb_up (fb_up σ5 54 (nb_ W H (σ5 53 k) d) 1) 53 M (nb_ W H (σ5 53 k) d) 53 = fun j => if j = M then nb_ W H (σ5 53 k) d else σ5 53 j := by rw [up_eq, up_ne _ _ _ (by decide)]
          have g54 : fb_up (fb_up σ5 54 (nb_ W H (σ5 53 k) d) 1) 53 M (nb_ W H (σ5 53 k) d) 54 = fun j => if j = nb_ W H (σ5 53 k) d then 1 else σ5 54 j := by rw [up_ne _ _ _ (by decide), up_eq]
          have m54 : ∀ j, σ5 54 j ≠ 0 → (if j = nb_ W H (σ5 53 k) d then (1 : Int) else σ5 54 j) ≠ 0 := fun j hj => by split; decide; exact hj
          refine hr55 _ _ _ _ _ _ ⟨rfl, rfl, rfl, ⟨fr_tr hj5.1 (fr_tr (fr_up (k := 54) (by decide)) (fr_up (k := 53) (by decide))), by rw [g53, g54]; exact hadd⟩, by rw [g54]; exact m54 s hs5, by omega, fun q q0 q1 d' d0' d1' => ?_, by omega, by omega, fun d' d0' d1' => ?_⟩ (by omega)
          · rw [g53, g54]
            simp only [if_neg (show ¬ q = M by omega)]
            exact fun z1 z2 => m54 _ (hc5 q q0 q1 d' d0' d1' z1 z2)
          · rw [g53, g54]
            simp only [if_neg (show ¬ k = M by omega)]
            intro z1 z2
            by_cases e : d' = d
            · rw [e]; simp
            · exact m54 _ (hd d' d0' (by omega) z1 z2)
        rw [e49]
        refine ⟨fun z5 => ⟨fun a0 => ⟨n0, by omega, fun z => ⟨by omega, hold (fun _ hp => ?_)⟩, fun z => hnew ?_ z5⟩, fun a0 => ⟨n0, by omega, fun z => hnew ?_ z5, fun z => ⟨by omega, hold (fun _ hp => ?_)⟩⟩⟩, fun z5 => ⟨by omega, hold (fun _ _ => z5)⟩⟩
        · simp only [qk_, a0, if_true] at hp; omega
        · simp only [qk_, a0, if_true]; omega
        · simp only [qk_, a0, if_false]; exact z
        · simp only [qk_, a0, if_false] at hp; exact absurd hp z
      · refine hr45 _ _ _ _ _ ⟨rfl, rfl, hj5, hs5, by omega, by omega, fun q q0 q1 d' d0' d1' => ?_⟩ (by omega)
        by_cases e : q = k
        · rw [e]; exact hd d' d0' (by omega)
        · exact hc5 q q0 (by omega) d' d0' d1'
    · exact h N σ4 hj4.1 (bf_end hw.1 hj4.2 (fun _ _ => rfl) s0 s1 (fun _ => hs4) (fun q q0 q1 => hc q q0 (by omega)))
end SMS
