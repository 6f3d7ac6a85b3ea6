def rm_X6_within : Room := { frames := 0, cells := 0, slots := 0, locals := 0 }
def wj_X6_within_15 (Q : Int → fb_St → Prop) (s0 : Int) (σ : fb_St) : Prop :=
  fb_B (s0) ∧ Q s0 σ
def wj_X6_within_14 (Q : Int → fb_St → Prop) (σ : fb_St) : Prop :=
  wj_X6_within_15 Q 0 σ
def wp_X6_within (x0 x1 x2 : Int) (σ : fb_St) (Q : Int → fb_St → Prop) : Prop :=
  (x0 < x1 →
    wj_X6_within_14 Q σ) ∧
  (¬ x0 < x1 →
    (x2 < x0 →
      wj_X6_within_14 Q σ) ∧
    (¬ x2 < x0 →
      wj_X6_within_15 Q 1 σ))
def rm_X5_dotAt : Room := { frames := 1, cells := 0, slots := 0, locals := 22 }
def wj_X5_dotAt_40 (Q : Int → fb_St → Prop) (s0 : Int) (σ : fb_St) : Prop :=
  Q s0 σ
def wj_X5_dotAt_39 (Q : Int → fb_St → Prop) (σ : fb_St) : Prop :=
  wj_X5_dotAt_40 Q (-1) σ
def wp_X5_dotAt (x1 x2 : Int) (σ : fb_St) (Q : Int → fb_St → Prop) : Prop :=
  fb_in ((σ 1 0) - 1) ∧
  wp_X6_within x1 0 ((σ 1 0) - 1) σ (fun a3 σ3 =>
    (a3 = 0 →
      wj_X5_dotAt_39 Q σ3) ∧
    (¬ a3 = 0 →
      fb_in ((σ3 1 1) - 1) ∧
      wp_X6_within x2 0 ((σ3 1 1) - 1) σ3 (fun a7 σ7 =>
        (a7 = 0 →
          wj_X5_dotAt_39 Q σ7) ∧
        (¬ a7 = 0 →
          fb_in (x2 * (σ7 1 0)) ∧
          fb_in ((x2 * (σ7 1 0)) + x1) ∧
          wj_X5_dotAt_40 Q ((x2 * (σ7 1 0)) + x1) σ7))))
def rm_X5_shape : Room := { frames := 2, cells := 0, slots := 0, locals := 44 }
def wb_X5_shape_30 (r19 : Int → fb_St → Prop) (r30 : Int → Int → fb_St → Prop) (Q : Int → fb_St → Prop) (x3 x4 : Int) (σ : fb_St) : Prop :=
  (x4 < σ 1 0 →
    fb_in (x3 * (σ 1 0)) ∧
    fb_in ((x3 * (σ 1 0)) + x4) ∧
    fb_in (((x3 * (σ 1 0)) + x4) * 4) ∧
    ∀ v14 : Int, v14 = ((x3 * (σ 1 0)) + x4) * 4 →
    fb_in (x4 + 1) ∧
    wp_X5_dotAt (x4 + 1) x3 σ (fun a16 σ16 =>
      0 ≤ v14 ∧ v14 < 576 ∧
      ∀ σ19 : fb_St, σ19 = fb_up σ16 4 v14 a16 →
      fb_in (v14 + 1) ∧
      fb_in (x3 + 1) ∧
      wp_X5_dotAt x4 (x3 + 1) σ19 (fun a22 σ22 =>
        0 ≤ v14 + 1 ∧ v14 + 1 < 576 ∧
        ∀ σ25 : fb_St, σ25 = fb_up σ22 4 (v14 + 1) a22 →
        fb_in (v14 + 2) ∧
        fb_in (x4 - 1) ∧
        wp_X5_dotAt (x4 - 1) x3 σ25 (fun a28 σ28 =>
          0 ≤ v14 + 2 ∧ v14 + 2 < 576 ∧
          ∀ σ31 : fb_St, σ31 = fb_up σ28 4 (v14 + 2) a28 →
          fb_in (v14 + 3) ∧
          fb_in (x3 - 1) ∧
          wp_X5_dotAt x4 (x3 - 1) σ31 (fun a34 σ34 =>
            0 ≤ v14 + 3 ∧ v14 + 3 < 576 ∧
            ∀ σ37 : fb_St, σ37 = fb_up σ34 4 (v14 + 3) a34 →
            fb_in (x4 + 1) ∧
            r30 x3 (x4 + 1) σ37))))) ∧
  (¬ x4 < σ 1 0 →
    fb_in (x3 + 1) ∧
    r19 (x3 + 1) σ)
def wl_X5_shape_30 (r19 : Int → fb_St → Prop) (Q : Int → fb_St → Prop) : Nat → Int → Int → fb_St → Prop := fb_Lp (fun _ _ _ => False) (fun r => wb_X5_shape_30 r19 r Q)
def wb_X5_shape_19 (r19 : Int → fb_St → Prop) (Q : Int → fb_St → Prop) (x3 : Int) (σ : fb_St) : Prop :=
  (x3 < σ 1 1 →
    ∃ n, wl_X5_shape_30 r19 Q n x3 0 σ) ∧
  (¬ x3 < σ 1 1 →
    Q 0 σ)
def wl_X5_shape_19 (Q : Int → fb_St → Prop) : Nat → Int → fb_St → Prop := fb_Lp (fun _ _ => False) (fun r => wb_X5_shape_19 r Q)
def wp_X5_shape (x1 x2 : Int) (σ : fb_St) (Q : Int → fb_St → Prop) : Prop :=
  ∀ σ1 : fb_St, σ1 = fb_up σ 1 0 x1 →
  ∀ σ2 : fb_St, σ2 = fb_up σ1 1 1 x2 →
  fb_in (x1 * x2) ∧
  ∀ σ4 : fb_St, σ4 = fb_up σ2 1 2 (x1 * x2) →
  ∃ n, wl_X5_shape_19 Q n 0 σ4
def rm_X5_clear : Room := { frames := 1, cells := 0, slots := 0, locals := 23 }
def wp_X5_clear (σ : fb_St) (Q : Int → fb_St → Prop) : Prop :=
  ∀ σ1 : fb_St, σ1 = fb_fill σ 2 0 →
  ∀ σ2 : fb_St, σ2 = fb_fill σ1 3 0 →
  Q 0 σ2
def rm_X6_nothingStands : Room := { frames := 0, cells := 0, slots := 0, locals := 0 }
def wp_X6_nothingStands (σ : fb_St) (Q : Int → fb_St → Prop) : Prop :=
  ∀ σ1 : fb_St, σ1 = fb_up σ 0 8 0 →
  ∀ σ2 : fb_St, σ2 = fb_up σ1 0 9 0 →
  ∀ σ3 : fb_St, σ3 = fb_up σ2 0 10 0 →
  Q 0 σ3
def rm_X4_forget : Room := { frames := 1, cells := 0, slots := 0, locals := 23 }
def wp_X4_forget (σ : fb_St) (Q : Int → fb_St → Prop) : Prop :=
  ∀ σ1 : fb_St, σ1 = fb_fill σ 7 0 →
  Q 0 σ1
def rm_X4_cameTo : Room := { frames := 0, cells := 0, slots := 0, locals := 0 }
def wj_X4_cameTo_14 (Q : Int → fb_St → Prop) (s0 : Int) (σ : fb_St) : Prop :=
  fb_B (s0) ∧ Q s0 σ
def wp_X4_cameTo (x1 : Int) (σ : fb_St) (Q : Int → fb_St → Prop) : Prop :=
  0 ≤ x1 ∧ x1 < 144 ∧
  (σ 7 x1 = 0 →
    wj_X4_cameTo_14 Q 0 σ) ∧
  (¬ σ 7 x1 = 0 →
    wj_X4_cameTo_14 Q 1 σ)
def rm_X4_reach : Room := { frames := 1, cells := 0, slots := 0, locals := 22 }
def wj_X4_reach_24 (Q : Int → fb_St → Prop) (σ : fb_St) : Prop :=
  Q 0 σ
def wj_X4_reach_67 (Q : Int → fb_St → Prop) (σ : fb_St) : Prop :=
  Q 0 σ
def wp_X4_reach (x2 x3 x4 : Int) (σ : fb_St) (Q : Int → fb_St → Prop) : Prop :=
  (x2 = (-1) →
    wj_X4_reach_24 Q σ) ∧
  (¬ x2 = (-1) →
    0 ≤ x2 ∧ x2 < 144 ∧
    (σ 7 x2 = 0 →
      (σ 5 0 < 144 →
        0 ≤ x2 ∧ x2 < 144 ∧
        wp_X6_within (σ 2 x2) x3 x4 σ (fun a11 σ11 =>
          (a11 = 0 →
            wj_X4_reach_67 Q σ11) ∧
          (¬ a11 = 0 →
            0 ≤ x2 ∧ x2 < 144 ∧
            ∀ σ15 : fb_St, σ15 = fb_up σ11 7 x2 1 →
            0 ≤ σ15 5 0 ∧ σ15 5 0 < 144 ∧
            ∀ σ19 : fb_St, σ19 = fb_up σ15 6 (σ15 5 0) x2 →
            fb_in ((σ19 5 0) + 1) ∧
            ∀ σ22 : fb_St, σ22 = fb_up σ19 5 0 ((σ19 5 0) + 1) →
            wj_X4_reach_67 Q σ22))) ∧
      (¬ σ 5 0 < 144 →
        wj_X4_reach_24 Q σ)) ∧
    (¬ σ 7 x2 = 0 →
      wj_X4_reach_24 Q σ))
def rm_X5_neighbour : Room := { frames := 0, cells := 0, slots := 0, locals := 0 }
def wp_X5_neighbour (x1 x2 : Int) (σ : fb_St) (Q : Int → fb_St → Prop) : Prop :=
  fb_in (x1 * 4) ∧
  fb_in ((x1 * 4) + x2) ∧
  0 ≤ (x1 * 4) + x2 ∧ (x1 * 4) + x2 < 576 ∧
  Q (σ 4 ((x1 * 4) + x2)) σ
def rm_X4_from : Room := { frames := 2, cells := 0, slots := 0, locals := 46 }
def wb_X4_from_37 (r17 : Int → Int → Int → fb_St → Prop) (r37 : Int → Int → Int → Int → fb_St → Prop) (Q : Int → fb_St → Prop) (x3 x4 x5 x6 : Int) (σ : fb_St) : Prop :=
  (x6 < 4 →
    0 ≤ x5 ∧ x5 < 144 ∧
    wp_X5_neighbour (σ 6 x5) x6 σ (fun a11 σ11 =>
      wp_X4_reach a11 x3 x4 σ11 (fun _ σ12 =>
        fb_in (x6 + 1) ∧
        r37 x3 x4 x5 (x6 + 1) σ12))) ∧
  (¬ x6 < 4 →
    fb_in (x5 + 1) ∧
    r17 x3 x4 (x5 + 1) σ)
def wl_X4_from_37 (r17 : Int → Int → Int → fb_St → Prop) (Q : Int → fb_St → Prop) : Nat → Int → Int → Int → Int → fb_St → Prop := fb_Lp (fun _ _ _ _ _ => False) (fun r => wb_X4_from_37 r17 r Q)
def wj_X4_from_76 (Q : Int → fb_St → Prop) (σ : fb_St) : Prop :=
  Q 0 σ
def wb_X4_from_17 (r17 : Int → Int → Int → fb_St → Prop) (Q : Int → fb_St → Prop) (x3 x4 x5 : Int) (σ : fb_St) : Prop :=
  (x5 < σ 5 0 →
    (x5 < 144 →
      ∃ n, wl_X4_from_37 r17 Q n x3 x4 x5 0 σ) ∧
    (¬ x5 < 144 →
      wj_X4_from_76 Q σ)) ∧
  (¬ x5 < σ 5 0 →
    wj_X4_from_76 Q σ)
def wl_X4_from_17 (Q : Int → fb_St → Prop) : Nat → Int → Int → Int → fb_St → Prop := fb_Lp (fun _ _ _ _ => False) (fun r => wb_X4_from_17 r Q)
def wp_X4_from (x2 x3 x4 : Int) (σ : fb_St) (Q : Int → fb_St → Prop) : Prop :=
  ∀ σ1 : fb_St, σ1 = fb_up σ 5 0 0 →
  wp_X4_reach x2 x3 x4 σ1 (fun _ σ2 =>
    ∃ n, wl_X4_from_17 Q n x3 x4 0 σ2)
def rm_X4_lowestAround : Room := { frames := 1, cells := 0, slots := 0, locals := 22 }
def wj_X4_lowestAround_75 (r7 : Int → Int → Int → Int → fb_St → Prop) (r19 : Int → Int → Int → Int → Int → fb_St → Prop) (Q : Int → fb_St → Prop) (x2 x3 x4 x5 x6 : Int) (σ : fb_St) : Prop :=
  fb_in (x6 + 1) ∧
  r19 x2 x3 x4 x5 (x6 + 1) σ
def wb_X4_lowestAround_19 (r7 : Int → Int → Int → Int → fb_St → Prop) (r19 : Int → Int → Int → Int → Int → fb_St → Prop) (Q : Int → fb_St → Prop) (x2 x3 x4 x5 x6 : Int) (σ : fb_St) : Prop :=
  (x6 < 4 →
    0 ≤ x5 ∧ x5 < 144 ∧
    wp_X5_neighbour (σ 6 x5) x6 σ (fun a8 σ8 =>
      (a8 = (-1) →
        wj_X4_lowestAround_75 r7 r19 Q x2 x3 x4 x5 x6 σ8) ∧
      (¬ a8 = (-1) →
        0 ≤ a8 ∧ a8 < 144 ∧
        wp_X6_within (σ8 2 a8) x2 x3 σ8 (fun a13 σ13 =>
          (a13 = 0 →
            0 ≤ a8 ∧ a8 < 144 ∧
            ∀ v18 : Int, v18 = (min x4 (σ13 2 a8)) →
            wj_X4_lowestAround_75 r7 r19 Q x2 x3 v18 x5 x6 σ13) ∧
          (¬ a13 = 0 →
            wj_X4_lowestAround_75 r7 r19 Q x2 x3 x4 x5 x6 σ13))))) ∧
  (¬ x6 < 4 →
    fb_in (x5 + 1) ∧
    r7 x2 x3 x4 (x5 + 1) σ)
def wl_X4_lowestAround_19 (r7 : Int → Int → Int → Int → fb_St → Prop) (Q : Int → fb_St → Prop) : Nat → Int → Int → Int → Int → Int → fb_St → Prop := fb_Lp (fun _ _ _ _ _ _ => False) (fun r => wb_X4_lowestAround_19 r7 r Q)
def wb_X4_lowestAround_7 (r7 : Int → Int → Int → Int → fb_St → Prop) (Q : Int → fb_St → Prop) (x2 x3 x4 x5 : Int) (σ : fb_St) : Prop :=
  (x5 < σ 5 0 →
    ∃ n, wl_X4_lowestAround_19 r7 Q n x2 x3 x4 x5 0 σ) ∧
  (¬ x5 < σ 5 0 →
    Q x4 σ)
def wl_X4_lowestAround_7 (Q : Int → fb_St → Prop) : Nat → Int → Int → Int → Int → fb_St → Prop := fb_Lp (fun _ _ _ _ _ => False) (fun r => wb_X4_lowestAround_7 r Q)
def wp_X4_lowestAround (x2 x3 : Int) (σ : fb_St) (Q : Int → fb_St → Prop) : Prop :=
  ∃ n, wl_X4_lowestAround_7 Q n x2 x3 100 0 σ
def rm_X4_markAll : Room := { frames := 0, cells := 0, slots := 0, locals := 0 }
def wb_X4_markAll_2 (r2 : Int → Int → fb_St → Prop) (Q : Int → fb_St → Prop) (x2 x3 : Int) (σ : fb_St) : Prop :=
  (x3 < σ 5 0 →
    0 ≤ x3 ∧ x3 < 144 ∧
    0 ≤ σ 6 x3 ∧ σ 6 x3 < 144 ∧
    ∀ σ8 : fb_St, σ8 = fb_up σ 3 (σ 6 x3) x2 →
    fb_in (x3 + 1) ∧
    r2 x2 (x3 + 1) σ8) ∧
  (¬ x3 < σ 5 0 →
    Q 0 σ)
def wl_X4_markAll_2 (Q : Int → fb_St → Prop) : Nat → Int → Int → fb_St → Prop := fb_Lp (fun _ _ _ => False) (fun r => wb_X4_markAll_2 r Q)
def wp_X4_markAll (x2 : Int) (σ : fb_St) (Q : Int → fb_St → Prop) : Prop :=
  ∃ n, wl_X4_markAll_2 Q n x2 0 σ
def rm_X6_findPits : Room := { frames := 3, cells := 0, slots := 0, locals := 72 }
def wj_X6_findPits_105 (r11 : Int → Int → Int → fb_St → Prop) (Q : Int → fb_St → Prop) (x1 x2 x3 : Int) (σ : fb_St) : Prop :=
  fb_in (x3 + 1) ∧
  r11 x1 x2 (x3 + 1) σ
def wb_X6_findPits_11 (r11 : Int → Int → Int → fb_St → Prop) (Q : Int → fb_St → Prop) (x1 x2 x3 : Int) (σ : fb_St) : Prop :=
  (x3 < σ 1 2 →
    wp_X4_cameTo x3 σ (fun a4 σ4 =>
      (a4 = 0 →
        0 ≤ x3 ∧ x3 < 144 ∧
        ∀ v9 : Int, v9 = σ4 2 x3 →
        wp_X4_from x3 v9 v9 σ4 (fun _ σ10 =>
          wp_X4_lowestAround v9 v9 σ10 (fun a11 σ11 =>
            (a11 < v9 →
              wj_X6_findPits_105 r11 Q x1 x2 x3 σ11) ∧
            (¬ a11 < v9 →
              fb_in (x2 + 1) ∧
              (x1 = 0 →
                wj_X6_findPits_105 r11 Q x1 (x2 + 1) x3 σ11) ∧
              (¬ x1 = 0 →
                wp_X4_markAll (x2 + 1) σ11 (fun _ σ15 =>
                  wj_X6_findPits_105 r11 Q x1 (x2 + 1) x3 σ15)))))) ∧
      (¬ a4 = 0 →
        wj_X6_findPits_105 r11 Q x1 x2 x3 σ4))) ∧
  (¬ x3 < σ 1 2 →
    Q x2 σ)
def wl_X6_findPits_11 (Q : Int → fb_St → Prop) : Nat → Int → Int → Int → fb_St → Prop := fb_Lp (fun _ _ _ _ => False) (fun r => wb_X6_findPits_11 r Q)
def wp_X6_findPits (x1 : Int) (σ : fb_St) (Q : Int → fb_St → Prop) : Prop :=
  wp_X4_forget σ (fun _ σ1 =>
    ∃ n, wl_X6_findPits_11 Q n x1 0 0 σ1)
def rm_X6_pitsAfterChange : Room := { frames := 4, cells := 0, slots := 0, locals := 96 }
def wp_X6_pitsAfterChange (σ : fb_St) (Q : Int → fb_St → Prop) : Prop :=
  wp_X6_nothingStands σ (fun _ σ1 =>
    wp_X6_findPits 0 σ1 (fun a2 σ2 =>
      Q a2 σ2))
def rm_X6_land : Room := { frames := 5, cells := 0, slots := 0, locals := 116 }
def wj_X6_land_20 (Q : Int → fb_St → Prop) (σ : fb_St) : Prop :=
  Q (-2) σ
def wp_X6_land (x1 x2 : Int) (σ : fb_St) (Q : Int → fb_St → Prop) : Prop :=
  wp_X6_within x1 1 12 σ (fun a1 σ1 =>
    (a1 = 0 →
      wj_X6_land_20 Q σ1) ∧
    (¬ a1 = 0 →
      wp_X6_within x2 1 12 σ1 (fun a3 σ3 =>
        (a3 = 0 →
          wj_X6_land_20 Q σ3) ∧
        (¬ a3 = 0 →
          wp_X5_shape x1 x2 σ3 (fun _ σ5 =>
            wp_X5_clear σ5 (fun _ σ6 =>
              wp_X6_pitsAfterChange σ6 (fun a7 σ7 =>
                Q a7 σ7)))))))
def rm_X5_ripple : Room := { frames := 0, cells := 0, slots := 0, locals := 0 }
def wb_X5_ripple_15 (r3 : Int → Int → Int → Int → Int → fb_St → Prop) (r15 : Int → Int → Int → Int → Int → Int → fb_St → Prop) (Q : Int → fb_St → Prop) (x1 x2 x3 x4 x5 x6 : Int) (σ : fb_St) : Prop :=
  (x6 < σ 1 0 →
    fb_in (x5 * (σ 1 0)) ∧
    fb_in ((x5 * (σ 1 0)) + x6) ∧
    fb_in (x1 * x6) ∧
    fb_in (x2 * x5) ∧
    fb_in ((x1 * x6) + (x2 * x5)) ∧
    fb_in (x3 * x6) ∧
    fb_in ((x3 * x6) * x5) ∧
    fb_in (((x1 * x6) + (x2 * x5)) + ((x3 * x6) * x5)) ∧
    0 ≤ ((x1 * x6) + (x2 * x5)) + ((x3 * x6) * x5) ∧ 0 < x4 ∧ fb_in ((((x1 * x6) + (x2 * x5)) + ((x3 * x6) * x5)) % x4) ∧
    0 ≤ (x5 * (σ 1 0)) + x6 ∧ (x5 * (σ 1 0)) + x6 < 144 ∧
    ∀ σ20 : fb_St, σ20 = fb_up σ 2 ((x5 * (σ 1 0)) + x6) ((((x1 * x6) + (x2 * x5)) + ((x3 * x6) * x5)) % x4) →
    fb_in (x6 + 1) ∧
    r15 x1 x2 x3 x4 x5 (x6 + 1) σ20) ∧
  (¬ x6 < σ 1 0 →
    fb_in (x5 + 1) ∧
    r3 x1 x2 x3 x4 (x5 + 1) σ)
def wl_X5_ripple_15 (r3 : Int → Int → Int → Int → Int → fb_St → Prop) (Q : Int → fb_St → Prop) : Nat → Int → Int → Int → Int → Int → Int → fb_St → Prop := fb_Lp (fun _ _ _ _ _ _ _ => False) (fun r => wb_X5_ripple_15 r3 r Q)
def wb_X5_ripple_3 (r3 : Int → Int → Int → Int → Int → fb_St → Prop) (Q : Int → fb_St → Prop) (x1 x2 x3 x4 x5 : Int) (σ : fb_St) : Prop :=
  (x5 < σ 1 1 →
    ∃ n, wl_X5_ripple_15 r3 Q n x1 x2 x3 x4 x5 0 σ) ∧
  (¬ x5 < σ 1 1 →
    Q 0 σ)
def wl_X5_ripple_3 (Q : Int → fb_St → Prop) : Nat → Int → Int → Int → Int → Int → fb_St → Prop := fb_Lp (fun _ _ _ _ _ _ => False) (fun r => wb_X5_ripple_3 r Q)
def wp_X5_ripple (x1 x2 x3 x4 : Int) (σ : fb_St) (Q : Int → fb_St → Prop) : Prop :=
  ∃ n, wl_X5_ripple_3 Q n x1 x2 x3 x4 0 σ
def rm_X6_wave : Room := { frames := 5, cells := 0, slots := 0, locals := 116 }
def wj_X6_wave_53 (Q : Int → fb_St → Prop) (σ : fb_St) : Prop :=
  Q (-2) σ
def wj_X6_wave_35 (Q : Int → fb_St → Prop) (x1 x2 x3 x4 s0 : Int) (σ : fb_St) : Prop :=
  (s0 = 0 →
    wj_X6_wave_53 Q σ) ∧
  (¬ s0 = 0 →
    wp_X6_within x4 1 100 σ (fun a8 σ8 =>
      (a8 = 0 →
        wj_X6_wave_53 Q σ8) ∧
      (¬ a8 = 0 →
        wp_X5_ripple x1 x2 x3 x4 σ8 (fun _ σ10 =>
          wp_X6_pitsAfterChange σ10 (fun a11 σ11 =>
            Q a11 σ11)))))
def wj_X6_wave_34 (Q : Int → fb_St → Prop) (x1 x2 x3 x4 : Int) (σ : fb_St) : Prop :=
  wj_X6_wave_35 Q x1 x2 x3 x4 0 σ
def wp_X6_wave (x1 x2 x3 x4 : Int) (σ : fb_St) (Q : Int → fb_St → Prop) : Prop :=
  wp_X6_within x1 0 50 σ (fun a1 σ1 =>
    (a1 = 0 →
      wj_X6_wave_34 Q x1 x2 x3 x4 σ1) ∧
    (¬ a1 = 0 →
      wp_X6_within x2 0 50 σ1 (fun a3 σ3 =>
        (a3 = 0 →
          wj_X6_wave_34 Q x1 x2 x3 x4 σ3) ∧
        (¬ a3 = 0 →
          wp_X6_within x3 0 50 σ3 (fun a5 σ5 =>
            (a5 = 0 →
              wj_X6_wave_34 Q x1 x2 x3 x4 σ5) ∧
            (¬ a5 = 0 →
              wj_X6_wave_35 Q x1 x2 x3 x4 1 σ5))))))
def rm_X5_raise : Room := { frames := 1, cells := 0, slots := 0, locals := 15 }
def wj_X5_raise_96 (r3 : Int → Int → Int → Int → Int → fb_St → Prop) (r15 : Int → Int → Int → Int → Int → Int → fb_St → Prop) (Q : Int → fb_St → Prop) (x1 x2 x3 x4 x5 x6 x9 s0 : Int) (σ : fb_St) : Prop :=
  0 ≤ x9 ∧ x9 < 144 ∧
  ∀ σ31 : fb_St, σ31 = fb_up σ 2 x9 (min (max s0 0) 99) →
  fb_in (x6 + 1) ∧
  r15 x1 x2 x3 x4 x5 (x6 + 1) σ31
def wb_X5_raise_15 (r3 : Int → Int → Int → Int → Int → fb_St → Prop) (r15 : Int → Int → Int → Int → Int → Int → fb_St → Prop) (Q : Int → fb_St → Prop) (x1 x2 x3 x4 x5 x6 : Int) (σ : fb_St) : Prop :=
  (x6 < σ 1 0 →
    fb_in (x6 - x1) ∧
    fb_in (max (x6 - x1) (-(x6 - x1))) ∧
    fb_in (x5 - x2) ∧
    fb_in (max (x5 - x2) (-(x5 - x2))) ∧
    fb_in ((max (x6 - x1) (-(x6 - x1))) + (max (x5 - x2) (-(x5 - x2)))) ∧
    ∀ v11 : Int, v11 = (max (x6 - x1) (-(x6 - x1))) + (max (x5 - x2) (-(x5 - x2))) →
    fb_in (max x3 (-x3)) ∧
    fb_in (x4 * v11) ∧
    fb_in ((max x3 (-x3)) - (x4 * v11)) ∧
    ∀ v15 : Int, v15 = (max ((max x3 (-x3)) - (x4 * v11)) 0) →
    fb_in (x5 * (σ 1 0)) ∧
    fb_in ((x5 * (σ 1 0)) + x6) ∧
    ∀ v19 : Int, v19 = (x5 * (σ 1 0)) + x6 →
    (x3 < 0 →
      0 ≤ v19 ∧ v19 < 144 ∧
      fb_in ((σ 2 v19) - v15) ∧
      wj_X5_raise_96 r3 r15 Q x1 x2 x3 x4 x5 x6 v19 ((σ 2 v19) - v15) σ) ∧
    (¬ x3 < 0 →
      0 ≤ v19 ∧ v19 < 144 ∧
      fb_in ((σ 2 v19) + v15) ∧
      wj_X5_raise_96 r3 r15 Q x1 x2 x3 x4 x5 x6 v19 ((σ 2 v19) + v15) σ)) ∧
  (¬ x6 < σ 1 0 →
    fb_in (x5 + 1) ∧
    r3 x1 x2 x3 x4 (x5 + 1) σ)
def wl_X5_raise_15 (r3 : Int → Int → Int → Int → Int → fb_St → Prop) (Q : Int → fb_St → Prop) : Nat → Int → Int → Int → Int → Int → Int → fb_St → Prop := fb_Lp (fun _ _ _ _ _ _ _ => False) (fun r => wb_X5_raise_15 r3 r Q)
def wb_X5_raise_3 (r3 : Int → Int → Int → Int → Int → fb_St → Prop) (Q : Int → fb_St → Prop) (x1 x2 x3 x4 x5 : Int) (σ : fb_St) : Prop :=
  (x5 < σ 1 1 →
    ∃ n, wl_X5_raise_15 r3 Q n x1 x2 x3 x4 x5 0 σ) ∧
  (¬ x5 < σ 1 1 →
    Q 0 σ)
def wl_X5_raise_3 (Q : Int → fb_St → Prop) : Nat → Int → Int → Int → Int → Int → fb_St → Prop := fb_Lp (fun _ _ _ _ _ _ => False) (fun r => wb_X5_raise_3 r Q)
def wp_X5_raise (x1 x2 x3 x4 : Int) (σ : fb_St) (Q : Int → fb_St → Prop) : Prop :=
  ∃ n, wl_X5_raise_3 Q n x1 x2 x3 x4 0 σ
def rm_X6_heap : Room := { frames := 5, cells := 0, slots := 0, locals := 116 }
def wj_X6_heap_47 (Q : Int → fb_St → Prop) (σ : fb_St) : Prop :=
  Q (-2) σ
def wj_X6_heap_27 (Q : Int → fb_St → Prop) (x1 x2 x3 x4 s0 : Int) (σ : fb_St) : Prop :=
  wp_X5_dotAt x1 x2 σ (fun a5 σ5 =>
    (a5 = (-1) →
      wj_X6_heap_47 Q σ5) ∧
    (¬ a5 = (-1) →
      (s0 = 0 →
        wj_X6_heap_47 Q σ5) ∧
      (¬ s0 = 0 →
        wp_X5_raise x1 x2 x3 x4 σ5 (fun _ σ8 =>
          wp_X6_pitsAfterChange σ8 (fun a9 σ9 =>
            Q a9 σ9)))))
def wj_X6_heap_26 (Q : Int → fb_St → Prop) (x1 x2 x3 x4 : Int) (σ : fb_St) : Prop :=
  wj_X6_heap_27 Q x1 x2 x3 x4 0 σ
def wp_X6_heap (x1 x2 x3 x4 : Int) (σ : fb_St) (Q : Int → fb_St → Prop) : Prop :=
  wp_X6_within x3 (-99) 99 σ (fun a1 σ1 =>
    (a1 = 0 →
      wj_X6_heap_26 Q x1 x2 x3 x4 σ1) ∧
    (¬ a1 = 0 →
      wp_X6_within x4 0 50 σ1 (fun a3 σ3 =>
        (a3 = 0 →
          wj_X6_heap_26 Q x1 x2 x3 x4 σ3) ∧
        (¬ a3 = 0 →
          wj_X6_heap_27 Q x1 x2 x3 x4 1 σ3))))
def rm_X6_put : Room := { frames := 5, cells := 0, slots := 0, locals := 116 }
def wj_X6_put_27 (Q : Int → fb_St → Prop) (σ : fb_St) : Prop :=
  Q (-2) σ
def wp_X6_put (x1 x2 x3 : Int) (σ : fb_St) (Q : Int → fb_St → Prop) : Prop :=
  wp_X5_dotAt x1 x2 σ (fun a1 σ1 =>
    (a1 = (-1) →
      wj_X6_put_27 Q σ1) ∧
    (¬ a1 = (-1) →
      wp_X6_within x3 0 99 σ1 (fun a3 σ3 =>
        (a3 = 0 →
          wj_X6_put_27 Q σ3) ∧
        (¬ a3 = 0 →
          0 ≤ a1 ∧ a1 < 144 ∧
          ∀ σ7 : fb_St, σ7 = fb_up σ3 2 a1 x3 →
          wp_X6_pitsAfterChange σ7 (fun a8 σ8 =>
            Q a8 σ8)))))
def rm_X6_mark : Room := { frames := 2, cells := 0, slots := 0, locals := 44 }
def wj_X6_mark_27 (Q : Int → fb_St → Prop) (σ : fb_St) : Prop :=
  Q (-2) σ
def wp_X6_mark (x1 x2 x3 : Int) (σ : fb_St) (Q : Int → fb_St → Prop) : Prop :=
  wp_X5_dotAt x1 x2 σ (fun a1 σ1 =>
    (a1 = (-1) →
      wj_X6_mark_27 Q σ1) ∧
    (¬ a1 = (-1) →
      wp_X6_within x3 0 99 σ1 (fun a3 σ3 =>
        (a3 = 0 →
          wj_X6_mark_27 Q σ3) ∧
        (¬ a3 = 0 →
          0 ≤ a1 ∧ a1 < 144 ∧
          ∀ v8 : Int, v8 = σ3 3 a1 →
          0 ≤ a1 ∧ a1 < 144 ∧
          ∀ σ11 : fb_St, σ11 = fb_up σ3 3 a1 x3 →
          wp_X6_nothingStands σ11 (fun _ σ12 =>
            Q v8 σ12)))))
def rm_X6_pits : Room := { frames := 4, cells := 0, slots := 0, locals := 96 }
def wp_X6_pits (σ : fb_St) (Q : Int → fb_St → Prop) : Prop :=
  ∀ σ1 : fb_St, σ1 = fb_fill σ 3 0 →
  wp_X6_nothingStands σ1 (fun _ σ2 =>
    wp_X6_findPits 1 σ2 (fun a3 σ3 =>
      Q a3 σ3))
def rm_X2_empty : Room := { frames := 1, cells := 0, slots := 0, locals := 23 }
def wp_X2_empty (σ : fb_St) (Q : Int → fb_St → Prop) : Prop :=
  ∀ σ1 : fb_St, σ1 = fb_fill σ 14 (-1) →
  ∀ σ2 : fb_St, σ2 = fb_fill σ1 15 (-1) →
  ∀ σ3 : fb_St, σ3 = fb_up σ2 13 3 0 →
  Q 0 σ3
def rm_X0_startAtMarks : Room := { frames := 0, cells := 0, slots := 0, locals := 0 }
def wj_X0_startAtMarks_82 (r2 : Int → fb_St → Prop) (Q : Int → fb_St → Prop) (x2 s0 s1 : Int) (σ : fb_St) : Prop :=
  0 ≤ s1 ∧ s1 < 144 ∧
  ∀ σ24 : fb_St, σ24 = fb_up σ 11 s1 s0 →
  fb_in (x2 + 1) ∧
  r2 (x2 + 1) σ24
def wj_X0_startAtMarks_66 (r2 : Int → fb_St → Prop) (Q : Int → fb_St → Prop) (x2 x3 s0 s1 : Int) (σ : fb_St) : Prop :=
  0 ≤ s1 ∧ s1 < 144 ∧
  ∀ σ20 : fb_St, σ20 = fb_up σ 10 s1 s0 →
  (x3 = 0 →
    wj_X0_startAtMarks_82 r2 Q x2 (-6) x2 σ20) ∧
  (¬ x3 = 0 →
    wj_X0_startAtMarks_82 r2 Q x2 0 x2 σ20)
def wj_X0_startAtMarks_45 (r2 : Int → fb_St → Prop) (Q : Int → fb_St → Prop) (x2 x3 s0 s1 : Int) (σ : fb_St) : Prop :=
  0 ≤ s1 ∧ s1 < 144 ∧
  ∀ σ13 : fb_St, σ13 = fb_up σ 9 s1 s0 →
  (x3 = 0 →
    wj_X0_startAtMarks_66 r2 Q x2 x3 (-6) x2 σ13) ∧
  (¬ x3 = 0 →
    0 ≤ x2 ∧ x2 < 144 ∧
    wj_X0_startAtMarks_66 r2 Q x2 x3 (σ13 2 x2) x2 σ13)
def wj_X0_startAtMarks_24 (r2 : Int → fb_St → Prop) (Q : Int → fb_St → Prop) (x2 s0 : Int) (σ : fb_St) : Prop :=
  (s0 = 0 →
    wj_X0_startAtMarks_45 r2 Q x2 s0 (-6) x2 σ) ∧
  (¬ s0 = 0 →
    0 ≤ x2 ∧ x2 < 144 ∧
    wj_X0_startAtMarks_45 r2 Q x2 s0 (σ 3 x2) x2 σ)
def wb_X0_startAtMarks_2 (r2 : Int → fb_St → Prop) (Q : Int → fb_St → Prop) (x2 : Int) (σ : fb_St) : Prop :=
  (x2 < σ 1 2 →
    0 ≤ x2 ∧ x2 < 144 ∧
    (0 < σ 3 x2 →
      wj_X0_startAtMarks_24 r2 Q x2 1 σ) ∧
    (¬ 0 < σ 3 x2 →
      wj_X0_startAtMarks_24 r2 Q x2 0 σ)) ∧
  (¬ x2 < σ 1 2 →
    Q 0 σ)
def wl_X0_startAtMarks_2 (Q : Int → fb_St → Prop) : Nat → Int → fb_St → Prop := fb_Lp (fun _ _ => False) (fun r => wb_X0_startAtMarks_2 r Q)
def wp_X0_startAtMarks (σ : fb_St) (Q : Int → fb_St → Prop) : Prop :=
  ∃ n, wl_X0_startAtMarks_2 Q n 0 σ
def rm_X2_add : Room := { frames := 0, cells := 0, slots := 0, locals := 0 }
def wj_X2_add_39 (Q : Int → fb_St → Prop) (x1 x2 : Int) (σ : fb_St) : Prop :=
  0 ≤ x2 ∧ x2 < 100 ∧
  ∀ σ19 : fb_St, σ19 = fb_up σ 15 x2 x1 →
  Q 0 σ19
def wp_X2_add (x1 x2 : Int) (σ : fb_St) (Q : Int → fb_St → Prop) : Prop :=
  0 ≤ x1 ∧ x1 < 144 ∧
  ∀ σ3 : fb_St, σ3 = fb_up σ 16 x1 (-1) →
  0 ≤ x2 ∧ x2 < 100 ∧
  (σ3 14 x2 = (-1) →
    0 ≤ x2 ∧ x2 < 100 ∧
    ∀ σ16 : fb_St, σ16 = fb_up σ3 14 x2 x1 →
    wj_X2_add_39 Q x1 x2 σ16) ∧
  (¬ σ3 14 x2 = (-1) →
    0 ≤ x2 ∧ x2 < 100 ∧
    0 ≤ σ3 15 x2 ∧ σ3 15 x2 < 144 ∧
    ∀ σ13 : fb_St, σ13 = fb_up σ3 16 (σ3 15 x2) x1 →
    wj_X2_add_39 Q x1 x2 σ13)
def rm_X0_lineUpAround : Room := { frames := 1, cells := 0, slots := 0, locals := 22 }
def wj_X0_lineUpAround_72 (r2 : Int → Int → fb_St → Prop) (Q : Int → fb_St → Prop) (x2 x3 : Int) (σ : fb_St) : Prop :=
  fb_in (x3 + 1) ∧
  r2 x2 (x3 + 1) σ
def wb_X0_lineUpAround_2 (r2 : Int → Int → fb_St → Prop) (Q : Int → fb_St → Prop) (x2 x3 : Int) (σ : fb_St) : Prop :=
  (x3 < 4 →
    wp_X5_neighbour x2 x3 σ (fun a2 σ2 =>
      (a2 = (-1) →
        wj_X0_lineUpAround_72 r2 Q x2 x3 σ2) ∧
      (¬ a2 = (-1) →
        0 ≤ a2 ∧ a2 < 144 ∧
        (σ2 10 a2 = (-6) →
          0 ≤ a2 ∧ a2 < 144 ∧
          0 ≤ x2 ∧ x2 < 144 ∧
          0 ≤ a2 ∧ a2 < 144 ∧
          ∀ σ16 : fb_St, σ16 = fb_up σ2 10 a2 (max (σ2 2 a2) (σ2 10 x2)) →
          0 ≤ a2 ∧ a2 < 144 ∧
          wp_X2_add a2 (σ16 10 a2) σ16 (fun _ σ20 =>
            wj_X0_lineUpAround_72 r2 Q x2 x3 σ20)) ∧
        (¬ σ2 10 a2 = (-6) →
          wj_X0_lineUpAround_72 r2 Q x2 x3 σ2)))) ∧
  (¬ x3 < 4 →
    Q 0 σ)
def wl_X0_lineUpAround_2 (Q : Int → fb_St → Prop) : Nat → Int → Int → fb_St → Prop := fb_Lp (fun _ _ _ => False) (fun r => wb_X0_lineUpAround_2 r Q)
def wp_X0_lineUpAround (x2 : Int) (σ : fb_St) (Q : Int → fb_St → Prop) : Prop :=
  ∃ n, wl_X0_lineUpAround_2 Q n x2 0 σ
def rm_X2_take : Room := { frames := 0, cells := 0, slots := 0, locals := 0 }
def wj_X2_take_65 (Q : Int → fb_St → Prop) (x1 : Int) (σ : fb_St) : Prop :=
  Q x1 σ
def wj_X2_take_35 (Q : Int → fb_St → Prop) (σ : fb_St) : Prop :=
  0 ≤ σ 13 3 ∧ σ 13 3 < 100 ∧
  ∀ v15 : Int, v15 = σ 14 (σ 13 3) →
  (v15 = (-1) →
    wj_X2_take_65 Q v15 σ) ∧
  (¬ v15 = (-1) →
    0 ≤ v15 ∧ v15 < 144 ∧
    0 ≤ σ 13 3 ∧ σ 13 3 < 100 ∧
    ∀ σ23 : fb_St, σ23 = fb_up σ 14 (σ 13 3) (σ 16 v15) →
    wj_X2_take_65 Q v15 σ23)
def wb_X2_take_0 (r0 : fb_St → Prop) (Q : Int → fb_St → Prop) (σ : fb_St) : Prop :=
  (σ 13 3 < 99 →
    0 ≤ σ 13 3 ∧ σ 13 3 < 100 ∧
    (σ 14 (σ 13 3) = (-1) →
      fb_in ((σ 13 3) + 1) ∧
      ∀ σ10 : fb_St, σ10 = fb_up σ 13 3 ((σ 13 3) + 1) →
      r0 σ10) ∧
    (¬ σ 14 (σ 13 3) = (-1) →
      wj_X2_take_35 Q σ)) ∧
  (¬ σ 13 3 < 99 →
    wj_X2_take_35 Q σ)
def wl_X2_take_0 (Q : Int → fb_St → Prop) : Nat → fb_St → Prop := fb_Lp (fun _ => False) (fun r => wb_X2_take_0 r Q)
def wp_X2_take (σ : fb_St) (Q : Int → fb_St → Prop) : Prop :=
  ∃ n, wl_X2_take_0 Q n σ
def rm_X5_basinBeside : Room := { frames := 0, cells := 0, slots := 0, locals := 0 }
def wj_X5_basinBeside_34 (oo : Nat) (Q : Int → fb_St → Prop) (s0 : Int) (σ : fb_St) : Prop :=
  Q s0 σ
def wj_X5_basinBeside_32 (oo : Nat) (Q : Int → fb_St → Prop) (σ : fb_St) : Prop :=
  wj_X5_basinBeside_34 oo Q (-6) σ
def wp_X5_basinBeside (oo : Nat) (x1 x2 : Int) (σ : fb_St) (Q : Int → fb_St → Prop) : Prop :=
  fb_in (x1 * 4) ∧
  fb_in ((x1 * 4) + x2) ∧
  0 ≤ (x1 * 4) + x2 ∧ (x1 * 4) + x2 < 576 ∧
  ∀ v6 : Int, v6 = σ 4 ((x1 * 4) + x2) →
  (v6 = (-1) →
    wj_X5_basinBeside_32 oo Q σ) ∧
  (¬ v6 = (-1) →
    0 ≤ v6 ∧ v6 < 144 ∧
    (0 < σ oo v6 →
      0 ≤ v6 ∧ v6 < 144 ∧
      wj_X5_basinBeside_34 oo Q (σ oo v6) σ) ∧
    (¬ 0 < σ oo v6 →
      wj_X5_basinBeside_32 oo Q σ))
def rm_X5_onlyBasinAround : Room := { frames := 1, cells := 0, slots := 0, locals := 24 }
def wj_X5_onlyBasinAround_49 (oo : Nat) (r6 : Int → Int → Int → fb_St → Prop) (Q : Int → fb_St → Prop) (x1 x3 x4 : Int) (σ : fb_St) : Prop :=
  fb_in (x4 + 1) ∧
  r6 x1 x3 (x4 + 1) σ
def wb_X5_onlyBasinAround_6 (oo : Nat) (r6 : Int → Int → Int → fb_St → Prop) (Q : Int → fb_St → Prop) (x1 x3 x4 : Int) (σ : fb_St) : Prop :=
  (x4 < 4 →
    wp_X5_basinBeside oo x1 x4 σ (fun a2 σ2 =>
      (a2 = (-6) →
        wj_X5_onlyBasinAround_49 oo r6 Q x1 x3 x4 σ2) ∧
      (¬ a2 = (-6) →
        (a2 = x3 →
          wj_X5_onlyBasinAround_49 oo r6 Q x1 x3 x4 σ2) ∧
        (¬ a2 = x3 →
          (x3 = (-6) →
            wj_X5_onlyBasinAround_49 oo r6 Q x1 a2 x4 σ2) ∧
          (¬ x3 = (-6) →
            Q 0 σ2))))) ∧
  (¬ x4 < 4 →
    Q x3 σ)
def wl_X5_onlyBasinAround_6 (oo : Nat) (Q : Int → fb_St → Prop) : Nat → Int → Int → Int → fb_St → Prop := fb_Lp (fun _ _ _ _ => False) (fun r => wb_X5_onlyBasinAround_6 oo r Q)
def wp_X5_onlyBasinAround (oo : Nat) (x1 : Int) (σ : fb_St) (Q : Int → fb_St → Prop) : Prop :=
  ∃ n, wl_X5_onlyBasinAround_6 oo Q n x1 (-6) 0 σ
def rm_X0_rise : Room := { frames := 2, cells := 0, slots := 0, locals := 49 }
def wj_X0_rise_37 (r14 : Int → fb_St → Prop) (Q : Int → fb_St → Prop) (x2 : Int) (σ : fb_St) : Prop :=
  fb_in (x2 + 1) ∧
  r14 (x2 + 1) σ
def wj_X0_rise_104 (r45 : Int → fb_St → Prop) (Q : Int → fb_St → Prop) (x2 : Int) (σ : fb_St) : Prop :=
  fb_in (x2 + 1) ∧
  r45 (x2 + 1) σ
def wb_X0_rise_45 (r45 : Int → fb_St → Prop) (Q : Int → fb_St → Prop) (x2 : Int) (σ : fb_St) : Prop :=
  (σ 1 2 < x2 →
    Q 0 σ) ∧
  (¬ σ 1 2 < x2 →
    wp_X2_take σ (fun a12 σ12 =>
      (a12 = (-1) →
        Q 0 σ12) ∧
      (¬ a12 = (-1) →
        0 ≤ a12 ∧ a12 < 144 ∧
        ∀ σ16 : fb_St, σ16 = fb_up σ12 11 a12 x2 →
        wp_X5_onlyBasinAround 9 a12 σ16 (fun a17 σ17 =>
          0 ≤ a12 ∧ a12 < 144 ∧
          ∀ σ20 : fb_St, σ20 = fb_up σ17 9 a12 a17 →
          0 ≤ a12 ∧ a12 < 144 ∧
          (0 < σ20 9 a12 →
            wp_X0_lineUpAround a12 σ20 (fun _ σ25 =>
              wj_X0_rise_104 r45 Q x2 σ25)) ∧
          (¬ 0 < σ20 9 a12 →
            wj_X0_rise_104 r45 Q x2 σ20)))))
def wl_X0_rise_45 (Q : Int → fb_St → Prop) : Nat → Int → fb_St → Prop := fb_Lp (fun _ _ => False) (fun r => wb_X0_rise_45 r Q)
def wb_X0_rise_14 (r14 : Int → fb_St → Prop) (Q : Int → fb_St → Prop) (x2 : Int) (σ : fb_St) : Prop :=
  (x2 < σ 1 2 →
    0 ≤ x2 ∧ x2 < 144 ∧
    (0 < σ 3 x2 →
      wp_X0_lineUpAround x2 σ (fun _ σ9 =>
        wj_X0_rise_37 r14 Q x2 σ9)) ∧
    (¬ 0 < σ 3 x2 →
      wj_X0_rise_37 r14 Q x2 σ)) ∧
  (¬ x2 < σ 1 2 →
    ∃ n, wl_X0_rise_45 Q n 1 σ)
def wl_X0_rise_14 (Q : Int → fb_St → Prop) : Nat → Int → fb_St → Prop := fb_Lp (fun _ _ => False) (fun r => wb_X0_rise_14 r Q)
def wp_X0_rise (σ : fb_St) (Q : Int → fb_St → Prop) : Prop :=
  wp_X2_empty σ (fun _ σ1 =>
    wp_X0_startAtMarks σ1 (fun _ σ2 =>
      ∃ n, wl_X0_rise_14 Q n 0 σ2))
def rm_X6_standingFlood : Room := { frames := 3, cells := 0, slots := 0, locals := 72 }
def wj_X6_standingFlood_23 (Q : Int → fb_St → Prop) (σ : fb_St) : Prop :=
  Q 0 σ
def wp_X6_standingFlood (σ : fb_St) (Q : Int → fb_St → Prop) : Prop :=
  (σ 0 8 = 0 →
    wp_X0_rise σ (fun _ σ3 =>
      ∀ σ4 : fb_St, σ4 = fb_up σ3 0 8 1 →
      wj_X6_standingFlood_23 Q σ4)) ∧
  (¬ σ 0 8 = 0 →
    wj_X6_standingFlood_23 Q σ)
def rm_X3_noteWayOut : Room := { frames := 0, cells := 0, slots := 0, locals := 0 }
def wj_X3_noteWayOut_56 (pp : Nat) (Q : Int → fb_St → Prop) (σ : fb_St) : Prop :=
  Q 0 σ
def wj_X3_noteWayOut_42 (pp : Nat) (Q : Int → fb_St → Prop) (x1 x2 x3 : Int) (σ : fb_St) : Prop :=
  0 ≤ x1 ∧ x1 < 100 ∧
  ∀ σ16 : fb_St, σ16 = fb_up σ (pp+3) x1 x3 →
  0 ≤ x1 ∧ x1 < 100 ∧
  ∀ σ19 : fb_St, σ19 = fb_up σ16 (pp+4) x1 x2 →
  wj_X3_noteWayOut_56 pp Q σ19
def wj_X3_noteWayOut_15 (pp : Nat) (Q : Int → fb_St → Prop) (x1 x2 x3 s0 : Int) (σ : fb_St) : Prop :=
  (s0 = 0 →
    0 ≤ x1 ∧ x1 < 100 ∧
    (x3 = σ (pp+3) x1 →
      0 ≤ x1 ∧ x1 < 100 ∧
      (x2 < σ (pp+4) x1 →
        wj_X3_noteWayOut_42 pp Q x1 x2 x3 σ) ∧
      (¬ x2 < σ (pp+4) x1 →
        wj_X3_noteWayOut_56 pp Q σ)) ∧
    (¬ x3 = σ (pp+3) x1 →
      wj_X3_noteWayOut_56 pp Q σ)) ∧
  (¬ s0 = 0 →
    wj_X3_noteWayOut_42 pp Q x1 x2 x3 σ)
def wp_X3_noteWayOut (pp : Nat) (x1 x2 x3 : Int) (σ : fb_St) (Q : Int → fb_St → Prop) : Prop :=
  0 ≤ x1 ∧ x1 < 100 ∧
  (x3 < σ (pp+3) x1 →
    wj_X3_noteWayOut_15 pp Q x1 x2 x3 1 σ) ∧
  (¬ x3 < σ (pp+3) x1 →
    wj_X3_noteWayOut_15 pp Q x1 x2 x3 0 σ)
def rm_X3_notePass : Room := { frames := 1, cells := 0, slots := 0, locals := 24 }
def wj_X3_notePass_27 (pp : Nat) (Q : Int → fb_St → Prop) (σ : fb_St) : Prop :=
  Q 0 σ
def wp_X3_notePass (pp : Nat) (x1 x2 x3 : Int) (σ : fb_St) (Q : Int → fb_St → Prop) : Prop :=
  (0 < x1 →
    (0 < x2 →
      (x1 = x2 →
        wj_X3_notePass_27 pp Q σ) ∧
      (¬ x1 = x2 →
        wp_X3_noteWayOut pp x1 x2 x3 σ (fun _ σ4 =>
          wp_X3_noteWayOut pp x2 x1 x3 σ4 (fun _ σ5 =>
            wj_X3_notePass_27 pp Q σ5)))) ∧
    (¬ 0 < x2 →
      wj_X3_notePass_27 pp Q σ)) ∧
  (¬ 0 < x1 →
    wj_X3_notePass_27 pp Q σ)
def rm_X3_passesOverDam : Room := { frames := 2, cells := 0, slots := 0, locals := 47 }
def wj_X3_passesOverDam_72 (pp : Nat) (r10 : Int → Int → Int → fb_St → Prop) (Q : Int → fb_St → Prop) (x2 x3 x4 : Int) (σ : fb_St) : Prop :=
  fb_in (x4 + 1) ∧
  r10 x2 x3 (x4 + 1) σ
def wb_X3_passesOverDam_35 (pp : Nat) (r10 : Int → Int → Int → fb_St → Prop) (r35 : Int → Int → Int → Int → Int → fb_St → Prop) (Q : Int → fb_St → Prop) (x2 x3 x4 x5 x6 : Int) (σ : fb_St) : Prop :=
  (x5 = (-6) →
    wj_X3_passesOverDam_72 pp r10 Q x2 x3 x4 σ) ∧
  (¬ x5 = (-6) →
    (x6 < 4 →
      wp_X5_basinBeside (pp+1) x2 x6 σ (fun a10 σ10 =>
        wp_X3_notePass pp x5 a10 x3 σ10 (fun _ σ11 =>
          fb_in (x6 + 1) ∧
          r35 x2 x3 x4 x5 (x6 + 1) σ11))) ∧
    (¬ x6 < 4 →
      wj_X3_passesOverDam_72 pp r10 Q x2 x3 x4 σ))
def wl_X3_passesOverDam_35 (pp : Nat) (r10 : Int → Int → Int → fb_St → Prop) (Q : Int → fb_St → Prop) : Nat → Int → Int → Int → Int → Int → fb_St → Prop := fb_Lp (fun _ _ _ _ _ _ => False) (fun r => wb_X3_passesOverDam_35 pp r10 r Q)
def wb_X3_passesOverDam_10 (pp : Nat) (r10 : Int → Int → Int → fb_St → Prop) (Q : Int → fb_St → Prop) (x2 x3 x4 : Int) (σ : fb_St) : Prop :=
  (x4 < 4 →
    wp_X5_basinBeside (pp+1) x2 x4 σ (fun a6 σ6 =>
      fb_in (x4 + 1) ∧
      ∃ n, wl_X3_passesOverDam_35 pp r10 Q n x2 x3 x4 a6 (x4 + 1) σ6)) ∧
  (¬ x4 < 4 →
    Q 0 σ)
def wl_X3_passesOverDam_10 (pp : Nat) (Q : Int → fb_St → Prop) : Nat → Int → Int → Int → fb_St → Prop := fb_Lp (fun _ _ _ _ => False) (fun r => wb_X3_passesOverDam_10 pp r Q)
def wp_X3_passesOverDam (pp : Nat) (x2 : Int) (σ : fb_St) (Q : Int → fb_St → Prop) : Prop :=
  0 ≤ x2 ∧ x2 < 144 ∧
  ∀ v4 : Int, v4 = σ 2 x2 →
  ∃ n, wl_X3_passesOverDam_10 pp Q n x2 v4 0 σ
def rm_X3_passesBeside : Room := { frames := 2, cells := 0, slots := 0, locals := 47 }
def wj_X3_passesBeside_58 (pp : Nat) (r2 : Int → Int → fb_St → Prop) (Q : Int → fb_St → Prop) (x2 x3 : Int) (σ : fb_St) : Prop :=
  fb_in (x3 + 1) ∧
  r2 x2 (x3 + 1) σ
def wb_X3_passesBeside_2 (pp : Nat) (r2 : Int → Int → fb_St → Prop) (Q : Int → fb_St → Prop) (x2 x3 : Int) (σ : fb_St) : Prop :=
  (x3 < 2 →
    wp_X5_neighbour x2 x3 σ (fun a2 σ2 =>
      (a2 = (-1) →
        wj_X3_passesBeside_58 pp r2 Q x2 x3 σ2) ∧
      (¬ a2 = (-1) →
        0 ≤ x2 ∧ x2 < 144 ∧
        0 ≤ a2 ∧ a2 < 144 ∧
        ∀ v10 : Int, v10 = (max (σ2 2 x2) (σ2 2 a2)) →
        0 ≤ x2 ∧ x2 < 144 ∧
        0 ≤ a2 ∧ a2 < 144 ∧
        wp_X3_notePass pp (σ2 (pp+1) x2) (σ2 (pp+1) a2) v10 σ2 (fun _ σ17 =>
          wj_X3_passesBeside_58 pp r2 Q x2 x3 σ17)))) ∧
  (¬ x3 < 2 →
    Q 0 σ)
def wl_X3_passesBeside_2 (pp : Nat) (Q : Int → fb_St → Prop) : Nat → Int → Int → fb_St → Prop := fb_Lp (fun _ _ _ => False) (fun r => wb_X3_passesBeside_2 pp r Q)
def wp_X3_passesBeside (pp : Nat) (x2 : Int) (σ : fb_St) (Q : Int → fb_St → Prop) : Prop :=
  ∃ n, wl_X3_passesBeside_2 pp Q n x2 0 σ
def rm_X3_fillWaters : Room := { frames := 1, cells := 0, slots := 0, locals := 16 }
def wj_X3_fillWaters_58 (pp : Nat) (r2 : Int → fb_St → Prop) (Q : Int → fb_St → Prop) (x2 : Int) (σ : fb_St) : Prop :=
  fb_in (x2 + 1) ∧
  r2 (x2 + 1) σ
def wb_X3_fillWaters_2 (pp : Nat) (r2 : Int → fb_St → Prop) (Q : Int → fb_St → Prop) (x2 : Int) (σ : fb_St) : Prop :=
  (x2 < σ 1 2 →
    0 ≤ x2 ∧ x2 < 144 ∧
    ∀ v6 : Int, v6 = σ (pp+1) x2 →
    (0 < v6 →
      0 ≤ v6 ∧ v6 < 100 ∧
      (σ (pp+3) v6 = 100 →
        wj_X3_fillWaters_58 pp r2 Q x2 σ) ∧
      (¬ σ (pp+3) v6 = 100 →
        0 ≤ v6 ∧ v6 < 100 ∧
        0 ≤ v6 ∧ v6 < 100 ∧
        0 ≤ x2 ∧ x2 < 144 ∧
        fb_in ((σ (pp+3) v6) - (σ 2 x2)) ∧
        fb_in ((σ (pp+6) v6) + (max ((σ (pp+3) v6) - (σ 2 x2)) 0)) ∧
        0 ≤ v6 ∧ v6 < 100 ∧
        ∀ σ25 : fb_St, σ25 = fb_up σ (pp+6) v6 ((σ (pp+6) v6) + (max ((σ (pp+3) v6) - (σ 2 x2)) 0)) →
        wj_X3_fillWaters_58 pp r2 Q x2 σ25)) ∧
    (¬ 0 < v6 →
      wj_X3_fillWaters_58 pp r2 Q x2 σ)) ∧
  (¬ x2 < σ 1 2 →
    Q 0 σ)
def wl_X3_fillWaters_2 (pp : Nat) (Q : Int → fb_St → Prop) : Nat → Int → fb_St → Prop := fb_Lp (fun _ _ => False) (fun r => wb_X3_fillWaters_2 pp r Q)
def wp_X3_fillWaters (pp : Nat) (σ : fb_St) (Q : Int → fb_St → Prop) : Prop :=
  ∃ n, wl_X3_fillWaters_2 pp Q n 0 σ
def rm_X3_measure : Room := { frames := 3, cells := 0, slots := 0, locals := 73 }
def wj_X3_measure_114 (pp : Nat) (r45 : Int → fb_St → Prop) (Q : Int → fb_St → Prop) (x2 : Int) (σ : fb_St) : Prop :=
  fb_in (x2 + 1) ∧
  r45 (x2 + 1) σ
def wb_X3_measure_45 (pp : Nat) (r45 : Int → fb_St → Prop) (Q : Int → fb_St → Prop) (x2 : Int) (σ : fb_St) : Prop :=
  (x2 < σ 1 2 →
    0 ≤ x2 ∧ x2 < 144 ∧
    ∀ v12 : Int, v12 = σ (pp+1) x2 →
    (v12 = 0 →
      wp_X3_passesOverDam pp x2 σ (fun _ σ32 =>
        wj_X3_measure_114 pp r45 Q x2 σ32)) ∧
    (¬ v12 = 0 →
      (0 < v12 →
        0 ≤ v12 ∧ v12 < 100 ∧
        fb_in ((σ (pp+5) v12) + 1) ∧
        0 ≤ v12 ∧ v12 < 100 ∧
        ∀ σ21 : fb_St, σ21 = fb_up σ (pp+5) v12 ((σ (pp+5) v12) + 1) →
        0 ≤ v12 ∧ v12 < 100 ∧
        0 ≤ x2 ∧ x2 < 144 ∧
        0 ≤ v12 ∧ v12 < 100 ∧
        ∀ σ30 : fb_St, σ30 = fb_up σ21 (pp+2) v12 (min (σ21 (pp+2) v12) (σ21 2 x2)) →
        wp_X3_passesBeside pp x2 σ30 (fun _ σ31 =>
          wj_X3_measure_114 pp r45 Q x2 σ31)) ∧
      (¬ 0 < v12 →
        wj_X3_measure_114 pp r45 Q x2 σ))) ∧
  (¬ x2 < σ 1 2 →
    wp_X3_fillWaters pp σ (fun _ σ8 =>
      Q 0 σ8))
def wl_X3_measure_45 (pp : Nat) (Q : Int → fb_St → Prop) : Nat → Int → fb_St → Prop := fb_Lp (fun _ _ => False) (fun r => wb_X3_measure_45 pp r Q)
def wp_X3_measure (pp : Nat) (σ : fb_St) (Q : Int → fb_St → Prop) : Prop :=
  ∀ σ1 : fb_St, σ1 = fb_fill σ (pp+5) 0 →
  ∀ σ2 : fb_St, σ2 = fb_fill σ1 (pp+6) 0 →
  ∀ σ3 : fb_St, σ3 = fb_fill σ2 (pp+2) 100 →
  ∀ σ4 : fb_St, σ4 = fb_fill σ3 (pp+3) 100 →
  ∀ σ5 : fb_St, σ5 = fb_fill σ4 (pp+4) (-6) →
  ∃ n, wl_X3_measure_45 pp Q n 0 σ5
def rm_X3_sizeOf : Room := { frames := 1, cells := 0, slots := 0, locals := 13 }
def wj_X3_sizeOf_55 (pp : Nat) (Q : Int → fb_St → Prop) (s0 : Int) (σ : fb_St) : Prop :=
  Q s0 σ
def wp_X3_sizeOf (pp : Nat) (x1 x2 : Int) (σ : fb_St) (Q : Int → fb_St → Prop) : Prop :=
  (x2 = 0 →
    0 ≤ x1 ∧ x1 < 100 ∧
    Q (σ (pp+5) x1) σ) ∧
  (¬ x2 = 0 →
    0 ≤ x1 ∧ x1 < 100 ∧
    (σ (pp+3) x1 = 100 →
      Q 0 σ) ∧
    (¬ σ (pp+3) x1 = 100 →
      (x2 = 1 →
        0 ≤ x1 ∧ x1 < 100 ∧
        0 ≤ x1 ∧ x1 < 100 ∧
        fb_in ((σ (pp+3) x1) - (σ (pp+2) x1)) ∧
        wj_X3_sizeOf_55 pp Q (max ((σ (pp+3) x1) - (σ (pp+2) x1)) 0) σ) ∧
      (¬ x2 = 1 →
        0 ≤ x1 ∧ x1 < 100 ∧
        wj_X3_sizeOf_55 pp Q (σ (pp+6) x1) σ)))
def rm_X3_nextToPour : Room := { frames := 2, cells := 0, slots := 0, locals := 35 }
def wj_X3_nextToPour_52 (pp : Nat) (r10 : Int → Int → Int → Int → Int → fb_St → Prop) (Q : Int → fb_St → Prop) (x1 x2 x3 x4 x5 : Int) (σ : fb_St) : Prop :=
  fb_in (x5 + 1) ∧
  r10 x1 x2 x3 x4 (x5 + 1) σ
def wb_X3_nextToPour_10 (pp : Nat) (r10 : Int → Int → Int → Int → Int → fb_St → Prop) (Q : Int → fb_St → Prop) (x1 x2 x3 x4 x5 : Int) (σ : fb_St) : Prop :=
  (99 < x5 →
    Q x3 σ) ∧
  (¬ 99 < x5 →
    0 ≤ x5 ∧ x5 < 100 ∧
    (σ (pp+3) x5 < x4 →
      wp_X3_sizeOf pp x5 x1 σ (fun a6 σ6 =>
        (a6 < x2 →
          0 ≤ x5 ∧ x5 < 100 ∧
          ∀ v11 : Int, v11 = σ6 (pp+3) x5 →
          wj_X3_nextToPour_52 pp r10 Q x1 x2 x5 v11 x5 σ6) ∧
        (¬ a6 < x2 →
          wj_X3_nextToPour_52 pp r10 Q x1 x2 x3 x4 x5 σ6))) ∧
    (¬ σ (pp+3) x5 < x4 →
      wj_X3_nextToPour_52 pp r10 Q x1 x2 x3 x4 x5 σ))
def wl_X3_nextToPour_10 (pp : Nat) (Q : Int → fb_St → Prop) : Nat → Int → Int → Int → Int → Int → fb_St → Prop := fb_Lp (fun _ _ _ _ _ _ => False) (fun r => wb_X3_nextToPour_10 pp r Q)
def wp_X3_nextToPour (pp : Nat) (x1 x2 : Int) (σ : fb_St) (Q : Int → fb_St → Prop) : Prop :=
  ∃ n, wl_X3_nextToPour_10 pp Q n x1 x2 (-6) 100 1 σ
def rm_X3_pourOut : Room := { frames := 0, cells := 0, slots := 0, locals := 0 }
def wj_X3_pourOut_38 (pp : Nat) (r10 : Int → Int → Int → fb_St → Prop) (Q : Int → fb_St → Prop) (x2 x3 x4 : Int) (σ : fb_St) : Prop :=
  fb_in (x4 + 1) ∧
  r10 x2 x3 (x4 + 1) σ
def wb_X3_pourOut_10 (pp : Nat) (r10 : Int → Int → Int → fb_St → Prop) (Q : Int → fb_St → Prop) (x2 x3 x4 : Int) (σ : fb_St) : Prop :=
  (x4 < σ 1 2 →
    0 ≤ x4 ∧ x4 < 144 ∧
    (σ (pp+1) x4 = x2 →
      0 ≤ x4 ∧ x4 < 144 ∧
      ∀ σ28 : fb_St, σ28 = fb_up σ (pp+1) x4 x3 →
      wj_X3_pourOut_38 pp r10 Q x2 x3 x4 σ28) ∧
    (¬ σ (pp+1) x4 = x2 →
      wj_X3_pourOut_38 pp r10 Q x2 x3 x4 σ)) ∧
  (¬ x4 < σ 1 2 →
    0 ≤ σ pp 0 ∧ σ pp 0 < 99 ∧
    ∀ σ10 : fb_St, σ10 = fb_up σ (pp+7) (σ pp 0) x2 →
    0 ≤ σ10 pp 0 ∧ σ10 pp 0 < 99 ∧
    ∀ σ14 : fb_St, σ14 = fb_up σ10 (pp+8) (σ10 pp 0) x3 →
    0 ≤ x2 ∧ x2 < 100 ∧
    0 ≤ σ14 pp 0 ∧ σ14 pp 0 < 99 ∧
    ∀ σ21 : fb_St, σ21 = fb_up σ14 (pp+9) (σ14 pp 0) (σ14 (pp+3) x2) →
    Q 0 σ21)
def wl_X3_pourOut_10 (pp : Nat) (Q : Int → fb_St → Prop) : Nat → Int → Int → Int → fb_St → Prop := fb_Lp (fun _ _ _ _ => False) (fun r => wb_X3_pourOut_10 pp r Q)
def wp_X3_pourOut (pp : Nat) (x2 : Int) (σ : fb_St) (Q : Int → fb_St → Prop) : Prop :=
  0 ≤ x2 ∧ x2 < 100 ∧
  ∀ v4 : Int, v4 = σ (pp+4) x2 →
  ∃ n, wl_X3_pourOut_10 pp Q n x2 v4 0 σ
def rm_X3_breakDams : Room := { frames := 2, cells := 0, slots := 0, locals := 49 }
def wj_X3_breakDams_60 (pp : Nat) (r4 : Int → Int → fb_St → Prop) (Q : Int → fb_St → Prop) (x2 x3 : Int) (σ : fb_St) : Prop :=
  fb_in (x3 + 1) ∧
  r4 x2 (x3 + 1) σ
def wb_X3_breakDams_4 (pp : Nat) (r4 : Int → Int → fb_St → Prop) (Q : Int → fb_St → Prop) (x2 x3 : Int) (σ : fb_St) : Prop :=
  (x3 < σ 1 2 →
    0 ≤ x3 ∧ x3 < 144 ∧
    0 ≤ x3 ∧ x3 < 144 ∧
    ∀ σ13 : fb_St, σ13 = fb_up σ (pp+11) x3 (σ (pp+1) x3) →
    0 ≤ x3 ∧ x3 < 144 ∧
    (σ13 (pp+1) x3 = 0 →
      wp_X5_onlyBasinAround (pp+1) x3 σ13 (fun a18 σ18 =>
        (0 < a18 →
          0 ≤ x3 ∧ x3 < 144 ∧
          ∀ σ22 : fb_St, σ22 = fb_up σ18 (pp+11) x3 a18 →
          fb_in (x2 + 1) ∧
          wj_X3_breakDams_60 pp r4 Q (x2 + 1) x3 σ22) ∧
        (¬ 0 < a18 →
          wj_X3_breakDams_60 pp r4 Q x2 x3 σ18))) ∧
    (¬ σ13 (pp+1) x3 = 0 →
      wj_X3_breakDams_60 pp r4 Q x2 x3 σ13)) ∧
  (¬ x3 < σ 1 2 →
    0 ≤ σ 1 2 ∧ σ 1 2 ≤ 144 ∧ σ 1 2 ≤ 144 ∧
    ∀ σ7 : fb_St, σ7 = fb_cp σ (pp+11) (pp+1) (σ 1 2) →
    Q x2 σ7)
def wl_X3_breakDams_4 (pp : Nat) (Q : Int → fb_St → Prop) : Nat → Int → Int → fb_St → Prop := fb_Lp (fun _ _ _ => False) (fun r => wb_X3_breakDams_4 pp r Q)
def wp_X3_breakDams (pp : Nat) (σ : fb_St) (Q : Int → fb_St → Prop) : Prop :=
  ∃ n, wl_X3_breakDams_4 pp Q n 0 0 σ
def rm_X3_run : Room := { frames := 4, cells := 0, slots := 0, locals := 96 }
def wb_X3_run_21 (pp : Nat) (r21 : Int → Int → Int → fb_St → Prop) (Q : Int → fb_St → Prop) (x3 x4 x5 : Int) (σ : fb_St) : Prop :=
  (x5 < 99 →
    wp_X3_measure pp σ (fun _ σ4 =>
      wp_X3_nextToPour pp x3 x4 σ4 (fun a5 σ5 =>
        (a5 = (-6) →
          Q 0 σ5) ∧
        (¬ a5 = (-6) →
          wp_X3_pourOut pp a5 σ5 (fun _ σ7 =>
            wp_X3_breakDams pp σ7 (fun a9 σ9 =>
              0 ≤ σ7 pp 0 ∧ σ7 pp 0 < 99 ∧
              ∀ σ12 : fb_St, σ12 = fb_up σ9 (pp+10) (σ7 pp 0) a9 →
              fb_in ((σ12 pp 0) + 1) ∧
              ∀ σ15 : fb_St, σ15 = fb_up σ12 pp 0 ((σ12 pp 0) + 1) →
              fb_in (x5 + 1) ∧
              r21 x3 x4 (x5 + 1) σ15)))))) ∧
  (¬ x5 < 99 →
    Q 0 σ)
def wl_X3_run_21 (pp : Nat) (Q : Int → fb_St → Prop) : Nat → Int → Int → Int → fb_St → Prop := fb_Lp (fun _ _ _ _ => False) (fun r => wb_X3_run_21 pp r Q)
def wp_X3_run (pp : Nat) (x3 x4 : Int) (σ : fb_St) (Q : Int → fb_St → Prop) : Prop :=
  ∀ σ1 : fb_St, σ1 = fb_cp σ 9 (pp+1) 144 →
  ∀ σ2 : fb_St, σ2 = fb_up σ1 pp 0 0 →
  ∃ n, wl_X3_run_21 pp Q n x3 x4 0 σ2
def rm_X6_standingPour : Room := { frames := 5, cells := 0, slots := 0, locals := 122 }
def wj_X6_standingPour_38 (Q : Int → fb_St → Prop) (σ : fb_St) : Prop :=
  Q 0 σ
def wp_X6_standingPour (σ : fb_St) (Q : Int → fb_St → Prop) : Prop :=
  (σ 0 9 = 0 →
    wp_X6_standingFlood σ (fun _ σ3 =>
      wp_X3_run 17 (σ3 0 6) (σ3 0 7) σ3 (fun _ σ6 =>
        ∀ σ7 : fb_St, σ7 = fb_up σ6 0 9 1 →
        wj_X6_standingPour_38 Q σ7))) ∧
  (¬ σ 0 9 = 0 →
    wj_X6_standingPour_38 Q σ)
def rm_X6_dot : Room := { frames := 6, cells := 0, slots := 0, locals := 142 }
def wp_X6_dot (x1 x2 x3 : Int) (σ : fb_St) (Q : Int → fb_St → Prop) : Prop :=
  wp_X5_dotAt x1 x2 σ (fun a1 σ1 =>
    (a1 = (-1) →
      Q (-2) σ1) ∧
    (¬ a1 = (-1) →
      (x3 = 0 →
        0 ≤ a1 ∧ a1 < 144 ∧
        Q (σ1 2 a1) σ1) ∧
      (x3 = 1 →
        0 ≤ a1 ∧ a1 < 144 ∧
        Q (σ1 3 a1) σ1) ∧
      (x3 = 2 →
        wp_X6_standingFlood σ1 (fun _ σ12 =>
          0 ≤ a1 ∧ a1 < 144 ∧
          Q (σ12 9 a1) σ12)) ∧
      (x3 = 3 →
        wp_X6_standingFlood σ1 (fun _ σ17 =>
          0 ≤ a1 ∧ a1 < 144 ∧
          Q (σ17 10 a1) σ17)) ∧
      (x3 = 4 →
        wp_X6_standingFlood σ1 (fun _ σ22 =>
          0 ≤ a1 ∧ a1 < 144 ∧
          Q (σ22 11 a1) σ22)) ∧
      (x3 = 5 →
        wp_X6_standingPour σ1 (fun _ σ27 =>
          0 ≤ a1 ∧ a1 < 144 ∧
          Q (σ27 18 a1) σ27)) ∧
      (x3 < 0 ∨ 5 < x3 →
        Q (-2) σ1)))
def rm_X6_bound : Room := { frames := 6, cells := 0, slots := 0, locals := 142 }
def wj_X6_bound_20 (Q : Int → fb_St → Prop) (σ : fb_St) : Prop :=
  Q (-2) σ
def wp_X6_bound (x1 x2 : Int) (σ : fb_St) (Q : Int → fb_St → Prop) : Prop :=
  wp_X6_within x1 0 2 σ (fun a1 σ1 =>
    (a1 = 0 →
      wj_X6_bound_20 Q σ1) ∧
    (¬ a1 = 0 →
      wp_X6_within x2 0 2000 σ1 (fun a3 σ3 =>
        (a3 = 0 →
          wj_X6_bound_20 Q σ3) ∧
        (¬ a3 = 0 →
          ∀ σ5 : fb_St, σ5 = fb_up σ3 0 6 x1 →
          ∀ σ6 : fb_St, σ6 = fb_up σ5 0 7 x2 →
          ∀ σ7 : fb_St, σ7 = fb_up σ6 0 9 0 →
          wp_X6_standingPour σ7 (fun _ σ8 =>
            Q (σ8 17 0) σ8)))))
def rm_X3_hasBasin : Room := { frames := 1, cells := 0, slots := 0, locals := 22 }
def wj_X3_hasBasin_24 (pp : Nat) (Q : Int → fb_St → Prop) (s0 : Int) (σ : fb_St) : Prop :=
  fb_B (s0) ∧ Q s0 σ
def wj_X3_hasBasin_23 (pp : Nat) (Q : Int → fb_St → Prop) (σ : fb_St) : Prop :=
  wj_X3_hasBasin_24 pp Q 0 σ
def wp_X3_hasBasin (pp : Nat) (x1 : Int) (σ : fb_St) (Q : Int → fb_St → Prop) : Prop :=
  wp_X6_within x1 1 99 σ (fun a1 σ1 =>
    (a1 = 0 →
      wj_X3_hasBasin_23 pp Q σ1) ∧
    (¬ a1 = 0 →
      0 ≤ x1 ∧ x1 < 100 ∧
      (0 < σ1 (pp+5) x1 →
        wj_X3_hasBasin_24 pp Q 1 σ1) ∧
      (¬ 0 < σ1 (pp+5) x1 →
        wj_X3_hasBasin_23 pp Q σ1)))
def rm_X6_heightOrNone : Room := { frames := 0, cells := 0, slots := 0, locals := 0 }
def wj_X6_heightOrNone_12 (Q : Int → fb_St → Prop) (s0 : Int) (σ : fb_St) : Prop :=
  Q s0 σ
def wp_X6_heightOrNone (x0 : Int) (σ : fb_St) (Q : Int → fb_St → Prop) : Prop :=
  (x0 = 100 →
    wj_X6_heightOrNone_12 Q (-6) σ) ∧
  (¬ x0 = 100 →
    wj_X6_heightOrNone_12 Q x0 σ)
def rm_X6_basin : Room := { frames := 6, cells := 0, slots := 0, locals := 142 }
def wp_X6_basin (x1 x2 : Int) (σ : fb_St) (Q : Int → fb_St → Prop) : Prop :=
  wp_X6_standingPour σ (fun _ σ1 =>
    wp_X3_hasBasin 17 x1 σ1 (fun a2 σ2 =>
      (a2 = 0 →
        Q (-1) σ2) ∧
      (¬ a2 = 0 →
        (x2 = 0 →
          wp_X3_sizeOf 17 x1 x2 σ2 (fun a5 σ5 =>
            Q a5 σ5)) ∧
        (x2 = 1 →
          wp_X3_sizeOf 17 x1 x2 σ2 (fun a7 σ7 =>
            Q a7 σ7)) ∧
        (x2 = 2 →
          wp_X3_sizeOf 17 x1 x2 σ2 (fun a9 σ9 =>
            Q a9 σ9)) ∧
        (x2 = 3 →
          0 ≤ x1 ∧ x1 < 100 ∧
          Q (σ2 19 x1) σ2) ∧
        (x2 = 4 →
          0 ≤ x1 ∧ x1 < 100 ∧
          wp_X6_heightOrNone (σ2 20 x1) σ2 (fun a18 σ18 =>
            Q a18 σ18)) ∧
        (x2 = 5 →
          0 ≤ x1 ∧ x1 < 100 ∧
          Q (σ2 21 x1) σ2) ∧
        (x2 < 0 ∨ 5 < x2 →
          Q (-2) σ2))))
def rm_X3_touches : Room := { frames := 1, cells := 0, slots := 0, locals := 24 }
def wb_X3_touches_3 (pp : Nat) (r3 : Int → Int → Int → fb_St → Prop) (Q : Int → fb_St → Prop) (x2 x3 x4 : Int) (σ : fb_St) : Prop :=
  (x4 < 4 →
    wp_X5_basinBeside (pp+1) x2 x4 σ (fun a2 σ2 =>
      (a2 = x3 →
        Q 1 σ2) ∧
      (¬ a2 = x3 →
        fb_in (x4 + 1) ∧
        r3 x2 x3 (x4 + 1) σ2))) ∧
  (¬ x4 < 4 →
    Q 0 σ)
def wl_X3_touches_3 (pp : Nat) (Q : Int → fb_St → Prop) : Nat → Int → Int → Int → fb_St → Prop := fb_Lp (fun _ _ _ _ => False) (fun r => wb_X3_touches_3 pp r Q)
def wp_X3_touches (pp : Nat) (x2 x3 : Int) (σ : fb_St) (Q : Int → fb_St → Prop) : Prop :=
  ∃ n, wl_X3_touches_3 pp Q n x2 x3 0 σ
def rm_X3_passBetween : Room := { frames := 2, cells := 0, slots := 0, locals := 48 }
def wj_X3_passBetween_135 (pp : Nat) (r7 : Int → Int → Int → Int → fb_St → Prop) (r83 : Int → Int → Int → Int → Int → Int → fb_St → Prop) (Q : Int → fb_St → Prop) (x2 x3 x4 x5 x6 x7 : Int) (σ : fb_St) : Prop :=
  fb_in (x7 + 1) ∧
  r83 x2 x3 x4 x5 x6 (x7 + 1) σ
def wj_X3_passBetween_141 (pp : Nat) (r7 : Int → Int → Int → Int → fb_St → Prop) (Q : Int → fb_St → Prop) (x2 x3 x4 x5 : Int) (σ : fb_St) : Prop :=
  fb_in (x5 + 1) ∧
  r7 x2 x3 x4 (x5 + 1) σ
def wb_X3_passBetween_83 (pp : Nat) (r7 : Int → Int → Int → Int → fb_St → Prop) (r83 : Int → Int → Int → Int → Int → Int → fb_St → Prop) (Q : Int → fb_St → Prop) (x2 x3 x4 x5 x6 x7 : Int) (σ : fb_St) : Prop :=
  (x7 < 4 →
    wp_X5_neighbour x5 x7 σ (fun a22 σ22 =>
      (a22 = (-1) →
        wj_X3_passBetween_135 pp r7 r83 Q x2 x3 x4 x5 x6 x7 σ22) ∧
      (¬ a22 = (-1) →
        0 ≤ a22 ∧ a22 < 144 ∧
        (σ22 (pp+1) a22 = x3 →
          0 ≤ a22 ∧ a22 < 144 ∧
          ∀ v31 : Int, v31 = (min x4 (max x6 (σ22 2 a22))) →
          wj_X3_passBetween_135 pp r7 r83 Q x2 x3 v31 x5 x6 x7 σ22) ∧
        (¬ σ22 (pp+1) a22 = x3 →
          wj_X3_passBetween_135 pp r7 r83 Q x2 x3 x4 x5 x6 x7 σ22)))) ∧
  (¬ x7 < 4 →
    wj_X3_passBetween_141 pp r7 Q x2 x3 x4 x5 σ)
def wl_X3_passBetween_83 (pp : Nat) (r7 : Int → Int → Int → Int → fb_St → Prop) (Q : Int → fb_St → Prop) : Nat → Int → Int → Int → Int → Int → Int → fb_St → Prop := fb_Lp (fun _ _ _ _ _ _ _ => False) (fun r => wb_X3_passBetween_83 pp r7 r Q)
def wb_X3_passBetween_7 (pp : Nat) (r7 : Int → Int → Int → Int → fb_St → Prop) (Q : Int → fb_St → Prop) (x2 x3 x4 x5 : Int) (σ : fb_St) : Prop :=
  (x5 < σ 1 2 →
    0 ≤ x5 ∧ x5 < 144 ∧
    ∀ v6 : Int, v6 = σ 2 x5 →
    0 ≤ x5 ∧ x5 < 144 ∧
    (σ (pp+1) x5 = 0 →
      wp_X3_touches pp x5 x2 σ (fun a15 σ15 =>
        (a15 = 0 →
          wj_X3_passBetween_141 pp r7 Q x2 x3 x4 x5 σ15) ∧
        (¬ a15 = 0 →
          wp_X3_touches pp x5 x3 σ15 (fun a17 σ17 =>
            (a17 = 0 →
              wj_X3_passBetween_141 pp r7 Q x2 x3 x4 x5 σ17) ∧
            (¬ a17 = 0 →
              ∀ v19 : Int, v19 = (min x4 v6) →
              wj_X3_passBetween_141 pp r7 Q x2 x3 v19 x5 σ17))))) ∧
    (¬ σ (pp+1) x5 = 0 →
      0 ≤ x5 ∧ x5 < 144 ∧
      (σ (pp+1) x5 = x2 →
        ∃ n, wl_X3_passBetween_83 pp r7 Q n x2 x3 x4 x5 v6 0 σ) ∧
      (¬ σ (pp+1) x5 = x2 →
        wj_X3_passBetween_141 pp r7 Q x2 x3 x4 x5 σ))) ∧
  (¬ x5 < σ 1 2 →
    Q x4 σ)
def wl_X3_passBetween_7 (pp : Nat) (Q : Int → fb_St → Prop) : Nat → Int → Int → Int → Int → fb_St → Prop := fb_Lp (fun _ _ _ _ _ => False) (fun r => wb_X3_passBetween_7 pp r Q)
def wp_X3_passBetween (pp : Nat) (x2 x3 : Int) (σ : fb_St) (Q : Int → fb_St → Prop) : Prop :=
  ∃ n, wl_X3_passBetween_7 pp Q n x2 x3 100 0 σ
def rm_X6_pass : Room := { frames := 6, cells := 0, slots := 0, locals := 142 }
def wj_X6_pass_21 (Q : Int → fb_St → Prop) (σ : fb_St) : Prop :=
  Q (-1) σ
def wp_X6_pass (x1 x2 : Int) (σ : fb_St) (Q : Int → fb_St → Prop) : Prop :=
  wp_X6_standingPour σ (fun _ σ1 =>
    wp_X3_hasBasin 17 x1 σ1 (fun a2 σ2 =>
      (a2 = 0 →
        wj_X6_pass_21 Q σ2) ∧
      (¬ a2 = 0 →
        wp_X3_hasBasin 17 x2 σ2 (fun a4 σ4 =>
          (a4 = 0 →
            wj_X6_pass_21 Q σ4) ∧
          (¬ a4 = 0 →
            (x1 = x2 →
              Q (-2) σ4) ∧
            (¬ x1 = x2 →
              wp_X3_passBetween 17 x1 x2 σ4 (fun a7 σ7 =>
                wp_X6_heightOrNone a7 σ7 (fun a8 σ8 =>
                  Q a8 σ8))))))))
def rm_X3_told : Room := { frames := 1, cells := 0, slots := 0, locals := 22 }
def wp_X3_told (pp : Nat) (x1 x2 : Int) (σ : fb_St) (Q : Int → fb_St → Prop) : Prop :=
  wp_X6_within x2 0 3 σ (fun a1 σ1 =>
    (a1 = 0 →
      Q (-2) σ1) ∧
    (¬ a1 = 0 →
      fb_in ((σ1 pp 0) - 1) ∧
      wp_X6_within x1 0 ((σ1 pp 0) - 1) σ1 (fun a5 σ5 =>
        (a5 = 0 →
          Q (-6) σ5) ∧
        (¬ a5 = 0 →
          (x2 = 0 →
            0 ≤ x1 ∧ x1 < 99 ∧
            Q (σ5 (pp+7) x1) σ5) ∧
          (x2 = 1 →
            0 ≤ x1 ∧ x1 < 99 ∧
            Q (σ5 (pp+8) x1) σ5) ∧
          (x2 = 2 →
            0 ≤ x1 ∧ x1 < 99 ∧
            Q (σ5 (pp+9) x1) σ5) ∧
          (x2 < 0 ∨ 2 < x2 →
            0 ≤ x1 ∧ x1 < 99 ∧
            Q (σ5 (pp+10) x1) σ5)))))
def rm_X6_poured : Room := { frames := 6, cells := 0, slots := 0, locals := 142 }
def wp_X6_poured (x1 x2 : Int) (σ : fb_St) (Q : Int → fb_St → Prop) : Prop :=
  wp_X6_standingPour σ (fun _ σ1 =>
    wp_X3_told 17 x1 x2 σ1 (fun a2 σ2 =>
      Q a2 σ2))
def rm_X6_standingTree : Room := { frames := 5, cells := 0, slots := 0, locals := 122 }
def wj_X6_standingTree_34 (Q : Int → fb_St → Prop) (σ : fb_St) : Prop :=
  Q 0 σ
def wp_X6_standingTree (σ : fb_St) (Q : Int → fb_St → Prop) : Prop :=
  (σ 0 10 = 0 →
    wp_X6_standingFlood σ (fun _ σ3 =>
      wp_X3_run 29 0 145 σ3 (fun _ σ4 =>
        ∀ σ5 : fb_St, σ5 = fb_up σ4 0 10 1 →
        wj_X6_standingTree_34 Q σ5))) ∧
  (¬ σ 0 10 = 0 →
    wj_X6_standingTree_34 Q σ)
def rm_X6_tree : Room := { frames := 6, cells := 0, slots := 0, locals := 142 }
def wp_X6_tree (x1 x2 : Int) (σ : fb_St) (Q : Int → fb_St → Prop) : Prop :=
  wp_X6_standingTree σ (fun _ σ1 =>
    wp_X3_told 29 x1 x2 σ1 (fun a2 σ2 =>
      Q a2 σ2))
def rm_X6_leastLevelBetween : Room := { frames := 3, cells := 0, slots := 0, locals := 72 }
def wj_X6_leastLevelBetween_95 (r29 : Int → Int → Int → Int → Int → fb_St → Prop) (Q : Int → fb_St → Prop) (x1 x2 x3 x4 x5 : Int) (σ : fb_St) : Prop :=
  fb_in (x5 + 1) ∧
  r29 x1 x2 x3 x4 (x5 + 1) σ
def wj_X6_leastLevelBetween_101 (Q : Int → fb_St → Prop) (x3 : Int) (σ : fb_St) : Prop :=
  Q x3 σ
def wb_X6_leastLevelBetween_29 (r29 : Int → Int → Int → Int → Int → fb_St → Prop) (Q : Int → fb_St → Prop) (x1 x2 x3 x4 x5 : Int) (σ : fb_St) : Prop :=
  (x5 < 7 →
    (x3 < x4 →
      fb_in (x3 + x4) ∧
      0 ≤ x3 + x4 ∧ fb_in ((x3 + x4) / 2) ∧
      ∀ v14 : Int, v14 = (x3 + x4) / 2 →
      wp_X4_forget σ (fun _ σ15 =>
        wp_X4_from x1 0 v14 σ15 (fun _ σ16 =>
          wp_X4_cameTo x2 σ16 (fun a17 σ17 =>
            (a17 = 0 →
              fb_in (v14 + 1) ∧
              wj_X6_leastLevelBetween_95 r29 Q x1 x2 (v14 + 1) x4 x5 σ17) ∧
            (¬ a17 = 0 →
              wj_X6_leastLevelBetween_95 r29 Q x1 x2 x3 v14 x5 σ17))))) ∧
    (¬ x3 < x4 →
      wj_X6_leastLevelBetween_101 Q x3 σ)) ∧
  (¬ x5 < 7 →
    wj_X6_leastLevelBetween_101 Q x3 σ)
def wl_X6_leastLevelBetween_29 (Q : Int → fb_St → Prop) : Nat → Int → Int → Int → Int → Int → fb_St → Prop := fb_Lp (fun _ _ _ _ _ _ => False) (fun r => wb_X6_leastLevelBetween_29 r Q)
def wp_X6_leastLevelBetween (x1 x2 : Int) (σ : fb_St) (Q : Int → fb_St → Prop) : Prop :=
  0 ≤ x1 ∧ x1 < 144 ∧
  0 ≤ x2 ∧ x2 < 144 ∧
  ∀ v7 : Int, v7 = (max (σ 2 x1) (σ 2 x2)) →
  ∃ n, wl_X6_leastLevelBetween_29 Q n x1 x2 v7 99 0 σ
def rm_X6_over : Room := { frames := 4, cells := 0, slots := 0, locals := 98 }
def wj_X6_over_35 (Q : Int → fb_St → Prop) (σ : fb_St) : Prop :=
  Q (-2) σ
def wp_X6_over (x1 x2 x3 x4 : Int) (σ : fb_St) (Q : Int → fb_St → Prop) : Prop :=
  wp_X5_dotAt x1 x2 σ (fun a1 σ1 =>
    wp_X5_dotAt x3 x4 σ1 (fun a2 σ2 =>
      (a1 = (-1) →
        wj_X6_over_35 Q σ2) ∧
      (¬ a1 = (-1) →
        (a2 = (-1) →
          wj_X6_over_35 Q σ2) ∧
        (¬ a2 = (-1) →
          wp_X6_leastLevelBetween a1 a2 σ2 (fun a5 σ5 =>
            Q a5 σ5)))))
def rm_X4_waterBelow : Room := { frames := 0, cells := 0, slots := 0, locals := 0 }
def wb_X4_waterBelow_5 (r5 : Int → Int → Int → fb_St → Prop) (Q : Int → fb_St → Prop) (x2 x3 x4 : Int) (σ : fb_St) : Prop :=
  (x4 < σ 5 0 →
    0 ≤ x4 ∧ x4 < 144 ∧
    0 ≤ σ 6 x4 ∧ σ 6 x4 < 144 ∧
    fb_in (x2 - (σ 2 (σ 6 x4))) ∧
    fb_in (x3 + (x2 - (σ 2 (σ 6 x4)))) ∧
    ∀ v11 : Int, v11 = x3 + (x2 - (σ 2 (σ 6 x4))) →
    fb_in (x4 + 1) ∧
    r5 x2 v11 (x4 + 1) σ) ∧
  (¬ x4 < σ 5 0 →
    Q x3 σ)
def wl_X4_waterBelow_5 (Q : Int → fb_St → Prop) : Nat → Int → Int → Int → fb_St → Prop := fb_Lp (fun _ _ _ _ => False) (fun r => wb_X4_waterBelow_5 r Q)
def wp_X4_waterBelow (x2 : Int) (σ : fb_St) (Q : Int → fb_St → Prop) : Prop :=
  ∃ n, wl_X4_waterBelow_5 Q n x2 0 0 σ
def rm_X6_wet : Room := { frames := 3, cells := 0, slots := 0, locals := 72 }
def wj_X6_wet_37 (Q : Int → fb_St → Prop) (σ : fb_St) : Prop :=
  Q (-2) σ
def wp_X6_wet (x1 x2 x3 x4 : Int) (σ : fb_St) (Q : Int → fb_St → Prop) : Prop :=
  wp_X5_dotAt x1 x2 σ (fun a1 σ1 =>
    (a1 = (-1) →
      wj_X6_wet_37 Q σ1) ∧
    (¬ a1 = (-1) →
      wp_X6_within x3 0 99 σ1 (fun a3 σ3 =>
        (a3 = 0 →
          wj_X6_wet_37 Q σ3) ∧
        (¬ a3 = 0 →
          wp_X6_within x4 0 2 σ3 (fun a5 σ5 =>
            (a5 = 0 →
              wj_X6_wet_37 Q σ5) ∧
            (¬ a5 = 0 →
              wp_X4_forget σ5 (fun _ σ7 =>
                wp_X4_from a1 0 x3 σ7 (fun _ σ8 =>
                  (x4 = 0 →
                    Q (σ8 5 0) σ8) ∧
                  (x4 = 1 →
                    wp_X4_waterBelow x3 σ8 (fun a12 σ12 =>
                      Q a12 σ12)) ∧
                  (¬ x4 = 0 ∧ ¬ x4 = 1 →
                    wp_X4_lowestAround 0 x3 σ8 (fun a13 σ13 =>
                      wp_X6_heightOrNone a13 σ13 (fun a14 σ14 =>
                        Q a14 σ14)))))))))))
def rm_X5_countMarks : Room := { frames := 0, cells := 0, slots := 0, locals := 0 }
def wj_X5_countMarks_24 (r4 : Int → Int → fb_St → Prop) (Q : Int → fb_St → Prop) (x1 x2 : Int) (σ : fb_St) : Prop :=
  fb_in (x2 + 1) ∧
  r4 x1 (x2 + 1) σ
def wb_X5_countMarks_4 (r4 : Int → Int → fb_St → Prop) (Q : Int → fb_St → Prop) (x1 x2 : Int) (σ : fb_St) : Prop :=
  (x2 < σ 1 2 →
    0 ≤ x2 ∧ x2 < 144 ∧
    (0 < σ 3 x2 →
      fb_in (x1 + 1) ∧
      wj_X5_countMarks_24 r4 Q (x1 + 1) x2 σ) ∧
    (¬ 0 < σ 3 x2 →
      wj_X5_countMarks_24 r4 Q x1 x2 σ)) ∧
  (¬ x2 < σ 1 2 →
    Q x1 σ)
def wl_X5_countMarks_4 (Q : Int → fb_St → Prop) : Nat → Int → Int → fb_St → Prop := fb_Lp (fun _ _ _ => False) (fun r => wb_X5_countMarks_4 r Q)
def wp_X5_countMarks (σ : fb_St) (Q : Int → fb_St → Prop) : Prop :=
  ∃ n, wl_X5_countMarks_4 Q n 0 0 σ
def rm_X0_countBasins : Room := { frames := 1, cells := 0, slots := 0, locals := 23 }
def wj_X0_countBasins_54 (r12 : Int → Int → fb_St → Prop) (Q : Int → fb_St → Prop) (x2 x3 : Int) (σ : fb_St) : Prop :=
  fb_in (x3 + 1) ∧
  r12 x2 (x3 + 1) σ
def wb_X0_countBasins_12 (r12 : Int → Int → fb_St → Prop) (Q : Int → fb_St → Prop) (x2 x3 : Int) (σ : fb_St) : Prop :=
  (x3 < σ 1 2 →
    0 ≤ x3 ∧ x3 < 144 ∧
    ∀ v7 : Int, v7 = σ 3 x3 →
    (0 < v7 →
      0 ≤ v7 ∧ v7 < 100 ∧
      (σ 12 v7 = 0 →
        0 ≤ v7 ∧ v7 < 100 ∧
        ∀ σ15 : fb_St, σ15 = fb_up σ 12 v7 1 →
        fb_in (x2 + 1) ∧
        wj_X0_countBasins_54 r12 Q (x2 + 1) x3 σ15) ∧
      (¬ σ 12 v7 = 0 →
        wj_X0_countBasins_54 r12 Q x2 x3 σ)) ∧
    (¬ 0 < v7 →
      wj_X0_countBasins_54 r12 Q x2 x3 σ)) ∧
  (¬ x3 < σ 1 2 →
    Q x2 σ)
def wl_X0_countBasins_12 (Q : Int → fb_St → Prop) : Nat → Int → Int → fb_St → Prop := fb_Lp (fun _ _ _ => False) (fun r => wb_X0_countBasins_12 r Q)
def wp_X0_countBasins (σ : fb_St) (Q : Int → fb_St → Prop) : Prop :=
  ∀ σ1 : fb_St, σ1 = fb_fill σ 12 0 →
  ∃ n, wl_X0_countBasins_12 Q n 0 0 σ1
def rm_X3_countBasins : Room := { frames := 0, cells := 0, slots := 0, locals := 0 }
def wj_X3_countBasins_22 (pp : Nat) (r4 : Int → Int → fb_St → Prop) (Q : Int → fb_St → Prop) (x1 x2 : Int) (σ : fb_St) : Prop :=
  fb_in (x2 + 1) ∧
  r4 x1 (x2 + 1) σ
def wb_X3_countBasins_4 (pp : Nat) (r4 : Int → Int → fb_St → Prop) (Q : Int → fb_St → Prop) (x1 x2 : Int) (σ : fb_St) : Prop :=
  (99 < x2 →
    Q x1 σ) ∧
  (¬ 99 < x2 →
    0 ≤ x2 ∧ x2 < 100 ∧
    (0 < σ (pp+5) x2 →
      fb_in (x1 + 1) ∧
      wj_X3_countBasins_22 pp r4 Q (x1 + 1) x2 σ) ∧
    (¬ 0 < σ (pp+5) x2 →
      wj_X3_countBasins_22 pp r4 Q x1 x2 σ))
def wl_X3_countBasins_4 (pp : Nat) (Q : Int → fb_St → Prop) : Nat → Int → Int → fb_St → Prop := fb_Lp (fun _ _ _ => False) (fun r => wb_X3_countBasins_4 pp r Q)
def wp_X3_countBasins (pp : Nat) (σ : fb_St) (Q : Int → fb_St → Prop) : Prop :=
  ∃ n, wl_X3_countBasins_4 pp Q n 0 1 σ
def rm_X5_countDams : Room := { frames := 0, cells := 0, slots := 0, locals := 0 }
def wj_X5_countDams_21 (oo : Nat) (r4 : Int → Int → fb_St → Prop) (Q : Int → fb_St → Prop) (x2 x3 : Int) (σ : fb_St) : Prop :=
  fb_in (x3 + 1) ∧
  r4 x2 (x3 + 1) σ
def wb_X5_countDams_4 (oo : Nat) (r4 : Int → Int → fb_St → Prop) (Q : Int → fb_St → Prop) (x2 x3 : Int) (σ : fb_St) : Prop :=
  (x3 < σ 1 2 →
    0 ≤ x3 ∧ x3 < 144 ∧
    (σ oo x3 = 0 →
      fb_in (x2 + 1) ∧
      wj_X5_countDams_21 oo r4 Q (x2 + 1) x3 σ) ∧
    (¬ σ oo x3 = 0 →
      wj_X5_countDams_21 oo r4 Q x2 x3 σ)) ∧
  (¬ x3 < σ 1 2 →
    Q x2 σ)
def wl_X5_countDams_4 (oo : Nat) (Q : Int → fb_St → Prop) : Nat → Int → Int → fb_St → Prop := fb_Lp (fun _ _ _ => False) (fun r => wb_X5_countDams_4 oo r Q)
def wp_X5_countDams (oo : Nat) (σ : fb_St) (Q : Int → fb_St → Prop) : Prop :=
  ∃ n, wl_X5_countDams_4 oo Q n 0 0 σ
def rm_X0_greatestLevel : Room := { frames := 1, cells := 0, slots := 0, locals := 13 }
def wb_X0_greatestLevel_5 (r5 : Int → Int → fb_St → Prop) (Q : Int → fb_St → Prop) (x2 x3 : Int) (σ : fb_St) : Prop :=
  (x3 < σ 1 2 →
    0 ≤ x3 ∧ x3 < 144 ∧
    ∀ v6 : Int, v6 = (max x2 (σ 10 x3)) →
    fb_in (x3 + 1) ∧
    r5 v6 (x3 + 1) σ) ∧
  (¬ x3 < σ 1 2 →
    Q x2 σ)
def wl_X0_greatestLevel_5 (Q : Int → fb_St → Prop) : Nat → Int → Int → fb_St → Prop := fb_Lp (fun _ _ _ => False) (fun r => wb_X0_greatestLevel_5 r Q)
def wp_X0_greatestLevel (σ : fb_St) (Q : Int → fb_St → Prop) : Prop :=
  ∃ n, wl_X0_greatestLevel_5 Q n (-6) 0 σ
def rm_X6_count : Room := { frames := 6, cells := 0, slots := 0, locals := 142 }
def wj_X6_count_212 (Q : Int → fb_St → Prop) (s0 s1 : Int) (σ : fb_St) : Prop :=
  fb_in (s1 + s0) ∧
  Q (s1 + s0) σ
def wj_X6_count_195 (Q : Int → fb_St → Prop) (s0 : Int) (σ : fb_St) : Prop :=
  (σ 45 0 = 0 →
    wj_X6_count_212 Q 0 s0 σ) ∧
  (¬ σ 45 0 = 0 →
    wj_X6_count_212 Q 2 s0 σ)
def wp_X6_count (x1 : Int) (σ : fb_St) (Q : Int → fb_St → Prop) : Prop :=
  (x1 = 0 →
    Q (σ 1 0) σ) ∧
  (x1 = 1 →
    Q (σ 1 1) σ) ∧
  (x1 = 2 →
    wp_X6_findPits 0 σ (fun a6 σ6 =>
      Q a6 σ6)) ∧
  (x1 = 3 →
    wp_X5_countMarks σ (fun a8 σ8 =>
      Q a8 σ8)) ∧
  (x1 = 4 →
    wp_X6_standingFlood σ (fun _ σ10 =>
      wp_X0_countBasins σ10 (fun a11 σ11 =>
        Q a11 σ11))) ∧
  (x1 = 5 →
    wp_X6_standingPour σ (fun _ σ13 =>
      wp_X3_countBasins 17 σ13 (fun a14 σ14 =>
        Q a14 σ14))) ∧
  (x1 = 6 →
    wp_X6_standingFlood σ (fun _ σ16 =>
      wp_X5_countDams 9 σ16 (fun a17 σ17 =>
        Q a17 σ17))) ∧
  (x1 = 7 →
    wp_X6_standingPour σ (fun _ σ19 =>
      wp_X5_countDams 18 σ19 (fun a20 σ20 =>
        Q a20 σ20))) ∧
  (x1 = 8 →
    wp_X6_standingFlood σ (fun _ σ22 =>
      wp_X0_greatestLevel σ22 (fun a23 σ23 =>
        Q a23 σ23))) ∧
  (x1 = 9 →
    Q (σ 0 6) σ) ∧
  (x1 = 10 →
    Q (σ 0 7) σ) ∧
  (x1 = 11 →
    wp_X6_standingTree σ (fun _ σ29 =>
      Q (σ29 29 0) σ29)) ∧
  (x1 = 12 →
    (σ 42 0 = 0 →
      wj_X6_count_195 Q 0 σ) ∧
    (¬ σ 42 0 = 0 →
      wj_X6_count_195 Q 1 σ)) ∧
  (x1 < 0 ∨ 12 < x1 →
    Q (-2) σ)
def rm_X1_keep : Room := { frames := 1, cells := 0, slots := 0, locals := 18 }
def wp_X1_keep (gg : Nat) (x2 x3 : Int) (σ : fb_St) (Q : Int → fb_St → Prop) : Prop :=
  ∀ σ1 : fb_St, σ1 = fb_up σ gg 0 1 →
  ∀ σ2 : fb_St, σ2 = fb_up σ1 gg 1 x2 →
  ∀ σ3 : fb_St, σ3 = fb_up σ2 gg 2 x3 →
  ∀ σ5 : fb_St, σ5 = fb_up σ3 gg 3 (σ3 1 0) →
  ∀ σ7 : fb_St, σ7 = fb_up σ5 gg 4 (σ5 1 1) →
  ∀ σ8 : fb_St, σ8 = fb_cp σ7 2 (gg+1) 144 →
  ∀ σ9 : fb_St, σ9 = fb_cp σ8 3 (gg+2) 144 →
  Q 0 σ9
def rm_X6_image : Room := { frames := 2, cells := 0, slots := 0, locals := 41 }
def wp_X6_image (x1 : Int) (σ : fb_St) (Q : Int → fb_St → Prop) : Prop :=
  wp_X6_within x1 0 1 σ (fun a1 σ1 =>
    (a1 = 0 →
      Q (-2) σ1) ∧
    (¬ a1 = 0 →
      (x1 = 0 →
        wp_X1_keep 42 (σ1 0 6) (σ1 0 7) σ1 (fun _ σ6 =>
          Q 1 σ6)) ∧
      (x1 = 1 →
        wp_X1_keep 45 (σ1 0 6) (σ1 0 7) σ1 (fun _ σ9 =>
          Q 1 σ9)) ∧
      (x1 = 0 ∨ x1 = 1)))
def rm_X1_giveBack : Room := { frames := 3, cells := 0, slots := 0, locals := 69 }
def wp_X1_giveBack (gg : Nat) (σ : fb_St) (Q : Int → fb_St → Prop) : Prop :=
  wp_X5_shape (σ gg 3) (σ gg 4) σ (fun _ σ3 =>
    ∀ σ4 : fb_St, σ4 = fb_cp σ3 (gg+1) 2 144 →
    ∀ σ5 : fb_St, σ5 = fb_cp σ4 (gg+2) 3 144 →
    Q 0 σ5)
def rm_X6_restore : Room := { frames := 4, cells := 0, slots := 0, locals := 90 }
def wp_X6_restore (x1 : Int) (σ : fb_St) (Q : Int → fb_St → Prop) : Prop :=
  wp_X6_within x1 0 1 σ (fun a1 σ1 =>
    (a1 = 0 →
      Q (-2) σ1) ∧
    (¬ a1 = 0 →
      (x1 = 0 →
        (σ1 42 0 = 0 →
          Q (-3) σ1) ∧
        (¬ σ1 42 0 = 0 →
          wp_X1_giveBack 42 σ1 (fun _ σ6 =>
            ∀ σ8 : fb_St, σ8 = fb_up σ6 0 6 (σ6 42 1) →
            ∀ σ10 : fb_St, σ10 = fb_up σ8 0 7 (σ8 42 2) →
            wp_X6_nothingStands σ10 (fun _ σ11 =>
              Q 1 σ11)))) ∧
      (x1 = 1 →
        (σ1 45 0 = 0 →
          Q (-3) σ1) ∧
        (¬ σ1 45 0 = 0 →
          wp_X1_giveBack 45 σ1 (fun _ σ14 =>
            ∀ σ16 : fb_St, σ16 = fb_up σ14 0 6 (σ14 45 1) →
            ∀ σ18 : fb_St, σ18 = fb_up σ16 0 7 (σ16 45 2) →
            wp_X6_nothingStands σ18 (fun _ σ19 =>
              Q 1 σ19)))) ∧
      (x1 = 0 ∨ x1 = 1)))
