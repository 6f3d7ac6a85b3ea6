def rm_X7_in : Room := { frames := 0, cells := 0, slots := 0, locals := 0 }
def wj_X7_in_15 (Q : Int → fb_St → Prop) (s0 : Int) (σ : fb_St) : Prop :=
  fb_B (s0) ∧ Q s0 σ
def wj_X7_in_14 (Q : Int → fb_St → Prop) (σ : fb_St) : Prop :=
  wj_X7_in_15 Q 0 σ
def wp_X7_in (x0 x1 x2 : Int) (σ : fb_St) (Q : Int → fb_St → Prop) : Prop :=
  (x0 < x1 →
    wj_X7_in_14 Q σ) ∧
  (¬ x0 < x1 →
    (x2 < x0 →
      wj_X7_in_14 Q σ) ∧
    (¬ x2 < x0 →
      wj_X7_in_15 Q 1 σ))
def rm_X7_isDot : Room := { frames := 1, cells := 0, slots := 0, locals := 22 }
def wj_X7_isDot_41 (Q : Int → fb_St → Prop) (s0 : Int) (σ : fb_St) : Prop :=
  fb_B (s0) ∧ Q s0 σ
def wj_X7_isDot_40 (Q : Int → fb_St → Prop) (σ : fb_St) : Prop :=
  wj_X7_isDot_41 Q 0 σ
def wp_X7_isDot (x1 x2 : Int) (σ : fb_St) (Q : Int → fb_St → Prop) : Prop :=
  fb_in ((σ 49 288) - 1) ∧
  wp_X7_in x1 0 ((σ 49 288) - 1) σ (fun a3 σ3 =>
    (a3 = 0 →
      wj_X7_isDot_40 Q σ3) ∧
    (¬ a3 = 0 →
      fb_in ((σ3 49 289) - 1) ∧
      wp_X7_in x2 0 ((σ3 49 289) - 1) σ3 (fun a7 σ7 =>
        (a7 = 0 →
          wj_X7_isDot_40 Q σ7) ∧
        (¬ a7 = 0 →
          wj_X7_isDot_41 Q 1 σ7))))
def rm_X7_dots : Room := { frames := 0, cells := 0, slots := 0, locals := 0 }
def wp_X7_dots (σ : fb_St) (Q : Int → fb_St → Prop) : Prop :=
  fb_in ((σ 49 288) * (σ 49 289)) ∧
  Q ((σ 49 288) * (σ 49 289)) σ
def rm_X7_at : Room := { frames := 0, cells := 0, slots := 0, locals := 0 }
def wp_X7_at (x1 x2 : Int) (σ : fb_St) (Q : Int → fb_St → Prop) : Prop :=
  fb_in ((σ 49 288) * x2) ∧
  fb_in (((σ 49 288) * x2) + x1) ∧
  Q (((σ 49 288) * x2) + x1) σ
def rm_X7_beside : Room := { frames := 2, cells := 0, slots := 0, locals := 44 }
def wj_X7_beside_84 (Q : Int → fb_St → Prop) (s0 : Int) (σ : fb_St) : Prop :=
  Q s0 σ
def wj_X7_beside_59 (Q : Int → fb_St → Prop) (x3 s0 s1 : Int) (σ : fb_St) : Prop :=
  fb_in (s1 + s0) ∧
  ∀ v16 : Int, v16 = s1 + s0 →
  wp_X7_isDot x3 v16 σ (fun a17 σ17 =>
    (a17 = 0 →
      wj_X7_beside_84 Q (-6) σ17) ∧
    (¬ a17 = 0 →
      wp_X7_at x3 v16 σ17 (fun a19 σ19 =>
        wj_X7_beside_84 Q a19 σ19)))
def wj_X7_beside_28 (Q : Int → fb_St → Prop) (x1 x2 s0 s1 : Int) (σ : fb_St) : Prop :=
  fb_in (s1 + s0) ∧
  ∀ v8 : Int, v8 = s1 + s0 →
  0 ≤ x1 ∧ 0 < σ 49 288 ∧ fb_in (x1 / (σ 49 288)) ∧
  (x2 = 1 →
    wj_X7_beside_59 Q v8 1 (x1 / (σ 49 288)) σ) ∧
  (¬ x2 = 1 →
    (x2 = 3 →
      wj_X7_beside_59 Q v8 (-1) (x1 / (σ 49 288)) σ) ∧
    (¬ x2 = 3 →
      wj_X7_beside_59 Q v8 0 (x1 / (σ 49 288)) σ))
def wp_X7_beside (x1 x2 : Int) (σ : fb_St) (Q : Int → fb_St → Prop) : Prop :=
  0 ≤ x1 ∧ 0 < σ 49 288 ∧ fb_in (x1 % (σ 49 288)) ∧
  (x2 = 0 →
    wj_X7_beside_28 Q x1 x2 1 (x1 % (σ 49 288)) σ) ∧
  (¬ x2 = 0 →
    (x2 = 2 →
      wj_X7_beside_28 Q x1 x2 (-1) (x1 % (σ 49 288)) σ) ∧
    (¬ x2 = 2 →
      wj_X7_beside_28 Q x1 x2 0 (x1 % (σ 49 288)) σ))
def rm_X7_greater : Room := { frames := 0, cells := 0, slots := 0, locals := 0 }
def wj_X7_greater_10 (Q : Int → fb_St → Prop) (s0 : Int) (σ : fb_St) : Prop :=
  Q s0 σ
def wp_X7_greater (x0 x1 : Int) (σ : fb_St) (Q : Int → fb_St → Prop) : Prop :=
  (x1 < x0 →
    wj_X7_greater_10 Q x0 σ) ∧
  (¬ x1 < x0 →
    wj_X7_greater_10 Q x1 σ)
def rm_X7_size : Room := { frames := 0, cells := 0, slots := 0, locals := 0 }
def wj_X7_size_10 (Q : Int → fb_St → Prop) (s0 : Int) (σ : fb_St) : Prop :=
  Q s0 σ
def wp_X7_size (x0 : Int) (σ : fb_St) (Q : Int → fb_St → Prop) : Prop :=
  (x0 < 0 →
    fb_in (-x0) ∧
    wj_X7_size_10 Q (-x0) σ) ∧
  (¬ x0 < 0 →
    wj_X7_size_10 Q x0 σ)
def rm_X7_spread : Room := { frames := 3, cells := 0, slots := 0, locals := 68 }
def wj_X7_spread_140 (r45 : Int → Int → Int → Int → fb_St → Prop) (r55 : Int → Int → Int → Int → Int → fb_St → Prop) (Q : Int → fb_St → Prop) (x2 x3 x4 x5 x6 : Int) (σ : fb_St) : Prop :=
  fb_in (x6 + 1) ∧
  r55 x2 x3 x4 x5 (x6 + 1) σ
def wj_X7_spread_120 (r45 : Int → Int → Int → Int → fb_St → Prop) (r55 : Int → Int → Int → Int → Int → fb_St → Prop) (Q : Int → fb_St → Prop) (x2 x3 x4 x5 x6 x7 : Int) (σ : fb_St) : Prop :=
  0 ≤ x7 ∧ x7 < 144 ∧
  ∀ σ34 : fb_St, σ34 = fb_up σ 54 x7 1 →
  0 ≤ x4 ∧ x4 < 144 ∧
  ∀ σ37 : fb_St, σ37 = fb_up σ34 53 x4 x7 →
  fb_in (x4 + 1) ∧
  wj_X7_spread_140 r45 r55 Q x2 x3 (x4 + 1) x5 x6 σ37
def wb_X7_spread_55 (r45 : Int → Int → Int → Int → fb_St → Prop) (r55 : Int → Int → Int → Int → Int → fb_St → Prop) (Q : Int → fb_St → Prop) (x2 x3 x4 x5 x6 : Int) (σ : fb_St) : Prop :=
  (x6 < 4 →
    0 ≤ x5 ∧ x5 < 144 ∧
    wp_X7_beside (σ 53 x5) x6 σ (fun a16 σ16 =>
      (a16 < 0 →
        wj_X7_spread_140 r45 r55 Q x2 x3 x4 x5 x6 σ16) ∧
      (¬ a16 < 0 →
        0 ≤ a16 ∧ a16 < 144 ∧
        (σ16 54 a16 = 0 →
          (x3 = 0 →
            0 ≤ a16 ∧ a16 < 292 ∧
            (x2 < σ16 49 a16 →
              wj_X7_spread_140 r45 r55 Q x2 x3 x4 x5 x6 σ16) ∧
            (¬ x2 < σ16 49 a16 →
              wj_X7_spread_120 r45 r55 Q x2 x3 x4 x5 x6 a16 σ16)) ∧
          (¬ x3 = 0 →
            0 ≤ a16 ∧ a16 < 292 ∧
            (σ16 49 a16 = x2 →
              wj_X7_spread_120 r45 r55 Q x2 x3 x4 x5 x6 a16 σ16) ∧
            (¬ σ16 49 a16 = x2 →
              wj_X7_spread_140 r45 r55 Q x2 x3 x4 x5 x6 σ16))) ∧
        (¬ σ16 54 a16 = 0 →
          wj_X7_spread_140 r45 r55 Q x2 x3 x4 x5 x6 σ16)))) ∧
  (¬ x6 < 4 →
    fb_in (x5 + 1) ∧
    r45 x2 x3 x4 (x5 + 1) σ)
def wl_X7_spread_55 (r45 : Int → Int → Int → Int → fb_St → Prop) (Q : Int → fb_St → Prop) : Nat → Int → Int → Int → Int → Int → fb_St → Prop := fb_Lp (fun _ _ _ _ _ _ => False) (fun r => wb_X7_spread_55 r45 r Q)
def wb_X7_spread_45 (r45 : Int → Int → Int → Int → fb_St → Prop) (Q : Int → fb_St → Prop) (x2 x3 x4 x5 : Int) (σ : fb_St) : Prop :=
  (x5 < x4 →
    ∃ n, wl_X7_spread_55 r45 Q n x2 x3 x4 x5 0 σ) ∧
  (¬ x5 < x4 →
    Q x4 σ)
def wl_X7_spread_45 (Q : Int → fb_St → Prop) : Nat → Int → Int → Int → Int → fb_St → Prop := fb_Lp (fun _ _ _ _ _ => False) (fun r => wb_X7_spread_45 r Q)
def wb_X7_spread_3 (r3 : Int → Int → Int → Int → fb_St → Prop) (Q : Int → fb_St → Prop) (x1 x2 x3 x4 : Int) (σ : fb_St) : Prop :=
  (x4 < 144 →
    0 ≤ x4 ∧ x4 < 144 ∧
    ∀ σ8 : fb_St, σ8 = fb_up σ 54 x4 0 →
    fb_in (x4 + 1) ∧
    r3 x1 x2 x3 (x4 + 1) σ8) ∧
  (¬ x4 < 144 →
    ∀ σ2 : fb_St, σ2 = fb_up σ 53 0 x1 →
    0 ≤ x1 ∧ x1 < 144 ∧
    ∀ σ5 : fb_St, σ5 = fb_up σ2 54 x1 1 →
    ∃ n, wl_X7_spread_45 Q n x2 x3 1 0 σ5)
def wl_X7_spread_3 (Q : Int → fb_St → Prop) : Nat → Int → Int → Int → Int → fb_St → Prop := fb_Lp (fun _ _ _ _ _ => False) (fun r => wb_X7_spread_3 r Q)
def wp_X7_spread (x1 x2 x3 : Int) (σ : fb_St) (Q : Int → fb_St → Prop) : Prop :=
  ∃ n, wl_X7_spread_3 Q n x1 x2 x3 0 σ
def rm_X7_leastBeside : Room := { frames := 3, cells := 0, slots := 0, locals := 68 }
def wj_X7_leastBeside_71 (r5 : Int → Int → Int → fb_St → Prop) (r13 : Int → Int → Int → Int → fb_St → Prop) (Q : Int → fb_St → Prop) (x1 x2 x3 x4 : Int) (σ : fb_St) : Prop :=
  fb_in (x4 + 1) ∧
  r13 x1 x2 x3 (x4 + 1) σ
def wj_X7_leastBeside_63 (r5 : Int → Int → Int → fb_St → Prop) (r13 : Int → Int → Int → Int → fb_St → Prop) (Q : Int → fb_St → Prop) (x1 x3 x4 x5 : Int) (σ : fb_St) : Prop :=
  0 ≤ x5 ∧ x5 < 292 ∧
  ∀ v22 : Int, v22 = σ 49 x5 →
  wj_X7_leastBeside_71 r5 r13 Q x1 v22 x3 x4 σ
def wb_X7_leastBeside_13 (r5 : Int → Int → Int → fb_St → Prop) (r13 : Int → Int → Int → Int → fb_St → Prop) (Q : Int → fb_St → Prop) (x1 x2 x3 x4 : Int) (σ : fb_St) : Prop :=
  (x4 < 4 →
    0 ≤ x3 ∧ x3 < 144 ∧
    wp_X7_beside (σ 53 x3) x4 σ (fun a7 σ7 =>
      (a7 < 0 →
        wj_X7_leastBeside_71 r5 r13 Q x1 x2 x3 x4 σ7) ∧
      (¬ a7 < 0 →
        0 ≤ a7 ∧ a7 < 144 ∧
        (σ7 54 a7 = 0 →
          (x2 < 0 →
            wj_X7_leastBeside_63 r5 r13 Q x1 x3 x4 a7 σ7) ∧
          (¬ x2 < 0 →
            0 ≤ a7 ∧ a7 < 292 ∧
            (σ7 49 a7 < x2 →
              wj_X7_leastBeside_63 r5 r13 Q x1 x3 x4 a7 σ7) ∧
            (¬ σ7 49 a7 < x2 →
              wj_X7_leastBeside_71 r5 r13 Q x1 x2 x3 x4 σ7))) ∧
        (¬ σ7 54 a7 = 0 →
          wj_X7_leastBeside_71 r5 r13 Q x1 x2 x3 x4 σ7)))) ∧
  (¬ x4 < 4 →
    fb_in (x3 + 1) ∧
    r5 x1 x2 (x3 + 1) σ)
def wl_X7_leastBeside_13 (r5 : Int → Int → Int → fb_St → Prop) (Q : Int → fb_St → Prop) : Nat → Int → Int → Int → Int → fb_St → Prop := fb_Lp (fun _ _ _ _ _ => False) (fun r => wb_X7_leastBeside_13 r5 r Q)
def wb_X7_leastBeside_5 (r5 : Int → Int → Int → fb_St → Prop) (Q : Int → fb_St → Prop) (x1 x2 x3 : Int) (σ : fb_St) : Prop :=
  (x3 < x1 →
    ∃ n, wl_X7_leastBeside_13 r5 Q n x1 x2 x3 0 σ) ∧
  (¬ x3 < x1 →
    Q x2 σ)
def wl_X7_leastBeside_5 (Q : Int → fb_St → Prop) : Nat → Int → Int → Int → fb_St → Prop := fb_Lp (fun _ _ _ _ => False) (fun r => wb_X7_leastBeside_5 r Q)
def wp_X7_leastBeside (x1 : Int) (σ : fb_St) (Q : Int → fb_St → Prop) : Prop :=
  ∃ n, wl_X7_leastBeside_5 Q n x1 (-6) 0 σ
def rm_X7_layPits : Room := { frames := 4, cells := 0, slots := 0, locals := 95 }
def wj_X7_layPits_113 (r27 : Int → Int → fb_St → Prop) (Q : Int → fb_St → Prop) (x1 x2 : Int) (σ : fb_St) : Prop :=
  fb_in (x2 + 1) ∧
  r27 x1 (x2 + 1) σ
def wb_X7_layPits_85 (r27 : Int → Int → fb_St → Prop) (r85 : Int → Int → Int → Int → fb_St → Prop) (Q : Int → fb_St → Prop) (x1 x2 x3 x5 : Int) (σ : fb_St) : Prop :=
  (x5 < x3 →
    0 ≤ x5 ∧ x5 < 144 ∧
    0 ≤ σ 53 x5 ∧ σ 53 x5 < 144 ∧
    ∀ σ30 : fb_St, σ30 = fb_up σ 52 (σ 53 x5) x1 →
    fb_in (x5 + 1) ∧
    r85 x1 x2 x3 (x5 + 1) σ30) ∧
  (¬ x5 < x3 →
    fb_in (x1 + 1) ∧
    wj_X7_layPits_113 r27 Q (x1 + 1) x2 σ)
def wl_X7_layPits_85 (r27 : Int → Int → fb_St → Prop) (Q : Int → fb_St → Prop) : Nat → Int → Int → Int → Int → fb_St → Prop := fb_Lp (fun _ _ _ _ _ => False) (fun r => wb_X7_layPits_85 r27 r Q)
def wj_X7_layPits_82 (r27 : Int → Int → fb_St → Prop) (Q : Int → fb_St → Prop) (x1 x2 x3 : Int) (σ : fb_St) : Prop :=
  ∃ n, wl_X7_layPits_85 r27 Q n x1 x2 x3 0 σ
def wb_X7_layPits_27 (r27 : Int → Int → fb_St → Prop) (Q : Int → fb_St → Prop) (x1 x2 : Int) (σ : fb_St) : Prop :=
  wp_X7_dots σ (fun a6 σ6 =>
    (x2 < a6 →
      0 ≤ x2 ∧ x2 < 144 ∧
      (σ6 52 x2 = (-6) →
        0 ≤ x2 ∧ x2 < 292 ∧
        wp_X7_spread x2 (σ6 49 x2) 1 σ6 (fun a15 σ15 =>
          wp_X7_leastBeside a15 σ15 (fun a16 σ16 =>
            (a16 < 0 →
              wj_X7_layPits_82 r27 Q x1 x2 a15 σ16) ∧
            (¬ a16 < 0 →
              0 ≤ x2 ∧ x2 < 292 ∧
              (σ16 49 x2 < a16 →
                wj_X7_layPits_82 r27 Q x1 x2 a15 σ16) ∧
              (¬ σ16 49 x2 < a16 →
                wj_X7_layPits_113 r27 Q x1 x2 σ16))))) ∧
      (¬ σ6 52 x2 = (-6) →
        wj_X7_layPits_113 r27 Q x1 x2 σ6)) ∧
    (¬ x2 < a6 →
      Q x1 σ6))
def wl_X7_layPits_27 (Q : Int → fb_St → Prop) : Nat → Int → Int → fb_St → Prop := fb_Lp (fun _ _ _ => False) (fun r => wb_X7_layPits_27 r Q)
def wb_X7_layPits_2 (r2 : Int → fb_St → Prop) (Q : Int → fb_St → Prop) (x1 : Int) (σ : fb_St) : Prop :=
  (x1 < 144 →
    0 ≤ x1 ∧ x1 < 144 ∧
    ∀ σ4 : fb_St, σ4 = fb_up σ 52 x1 (-6) →
    fb_in (x1 + 1) ∧
    r2 (x1 + 1) σ4) ∧
  (¬ x1 < 144 →
    ∃ n, wl_X7_layPits_27 Q n 0 0 σ)
def wl_X7_layPits_2 (Q : Int → fb_St → Prop) : Nat → Int → fb_St → Prop := fb_Lp (fun _ _ => False) (fun r => wb_X7_layPits_2 r Q)
def wp_X7_layPits (σ : fb_St) (Q : Int → fb_St → Prop) : Prop :=
  ∃ n, wl_X7_layPits_2 Q n 0 σ
def rm_X7_land : Room := { frames := 5, cells := 0, slots := 0, locals := 120 }
def wj_X7_land_20 (Q : Int → fb_St → Prop) (σ : fb_St) : Prop :=
  Q (-2) σ
def wb_X7_land_25 (r25 : Int → Int → Int → fb_St → Prop) (Q : Int → fb_St → Prop) (x1 x2 x3 : Int) (σ : fb_St) : Prop :=
  (x3 < 144 →
    0 ≤ x3 ∧ x3 < 292 ∧
    ∀ σ11 : fb_St, σ11 = fb_up σ 49 x3 0 →
    fb_in (144 + x3) ∧
    0 ≤ 144 + x3 ∧ 144 + x3 < 292 ∧
    ∀ σ15 : fb_St, σ15 = fb_up σ11 49 (144 + x3) 0 →
    fb_in (x3 + 1) ∧
    r25 x1 x2 (x3 + 1) σ15) ∧
  (¬ x3 < 144 →
    ∀ σ6 : fb_St, σ6 = fb_up σ 49 288 x1 →
    ∀ σ7 : fb_St, σ7 = fb_up σ6 49 289 x2 →
    wp_X7_layPits σ7 (fun a8 σ8 =>
      Q a8 σ8))
def wl_X7_land_25 (Q : Int → fb_St → Prop) : Nat → Int → Int → Int → fb_St → Prop := fb_Lp (fun _ _ _ _ => False) (fun r => wb_X7_land_25 r Q)
def wp_X7_land (x1 x2 : Int) (σ : fb_St) (Q : Int → fb_St → Prop) : Prop :=
  wp_X7_in x1 1 12 σ (fun a1 σ1 =>
    (a1 = 0 →
      wj_X7_land_20 Q σ1) ∧
    (¬ a1 = 0 →
      wp_X7_in x2 1 12 σ1 (fun a3 σ3 =>
        (a3 = 0 →
          wj_X7_land_20 Q σ3) ∧
        (¬ a3 = 0 →
          ∃ n, wl_X7_land_25 Q n x1 x2 0 σ3))))
def rm_X7_wave : Room := { frames := 5, cells := 0, slots := 0, locals := 120 }
def wj_X7_wave_41 (Q : Int → fb_St → Prop) (σ : fb_St) : Prop :=
  Q (-2) σ
def wb_X7_wave_47 (r47 : Int → Int → Int → Int → Int → fb_St → Prop) (Q : Int → fb_St → Prop) (x1 x2 x3 x4 x5 : Int) (σ : fb_St) : Prop :=
  wp_X7_dots σ (fun a9 σ9 =>
    (x5 < a9 →
      0 ≤ x5 ∧ 0 < σ9 49 288 ∧ fb_in (x5 % (σ9 49 288)) ∧
      ∀ v16 : Int, v16 = x5 % (σ9 49 288) →
      0 ≤ x5 ∧ 0 < σ9 49 288 ∧ fb_in (x5 / (σ9 49 288)) ∧
      ∀ v21 : Int, v21 = x5 / (σ9 49 288) →
      fb_in (x1 * v16) ∧
      fb_in (x2 * v21) ∧
      fb_in ((x1 * v16) + (x2 * v21)) ∧
      fb_in (x3 * v16) ∧
      fb_in ((x3 * v16) * v21) ∧
      fb_in (((x1 * v16) + (x2 * v21)) + ((x3 * v16) * v21)) ∧
      0 ≤ ((x1 * v16) + (x2 * v21)) + ((x3 * v16) * v21) ∧ 0 < x4 ∧ fb_in ((((x1 * v16) + (x2 * v21)) + ((x3 * v16) * v21)) % x4) ∧
      0 ≤ x5 ∧ x5 < 292 ∧
      ∀ σ33 : fb_St, σ33 = fb_up σ9 49 x5 ((((x1 * v16) + (x2 * v21)) + ((x3 * v16) * v21)) % x4) →
      fb_in (x5 + 1) ∧
      r47 x1 x2 x3 x4 (x5 + 1) σ33) ∧
    (¬ x5 < a9 →
      wp_X7_layPits σ9 (fun a11 σ11 =>
        Q a11 σ11)))
def wl_X7_wave_47 (Q : Int → fb_St → Prop) : Nat → Int → Int → Int → Int → Int → fb_St → Prop := fb_Lp (fun _ _ _ _ _ _ => False) (fun r => wb_X7_wave_47 r Q)
def wp_X7_wave (x1 x2 x3 x4 : Int) (σ : fb_St) (Q : Int → fb_St → Prop) : Prop :=
  wp_X7_in x1 0 50 σ (fun a1 σ1 =>
    (a1 = 0 →
      wj_X7_wave_41 Q σ1) ∧
    (¬ a1 = 0 →
      wp_X7_in x2 0 50 σ1 (fun a3 σ3 =>
        (a3 = 0 →
          wj_X7_wave_41 Q σ3) ∧
        (¬ a3 = 0 →
          wp_X7_in x3 0 50 σ3 (fun a5 σ5 =>
            (a5 = 0 →
              wj_X7_wave_41 Q σ5) ∧
            (¬ a5 = 0 →
              wp_X7_in x4 1 100 σ5 (fun a7 σ7 =>
                (a7 = 0 →
                  wj_X7_wave_41 Q σ7) ∧
                (¬ a7 = 0 →
                  ∃ n, wl_X7_wave_47 Q n x1 x2 x3 x4 0 σ7))))))))
def rm_X7_heap : Room := { frames := 5, cells := 0, slots := 0, locals := 120 }
def wj_X7_heap_31 (Q : Int → fb_St → Prop) (σ : fb_St) : Prop :=
  Q (-2) σ
def wj_X7_heap_148 (r37 : Int → Int → Int → Int → Int → fb_St → Prop) (Q : Int → fb_St → Prop) (x1 x2 x3 x4 x5 s0 s1 : Int) (σ : fb_St) : Prop :=
  0 ≤ s1 ∧ s1 < 292 ∧
  ∀ σ39 : fb_St, σ39 = fb_up σ 49 s1 s0 →
  fb_in (x5 + 1) ∧
  r37 x1 x2 x3 x4 (x5 + 1) σ39
def wj_X7_heap_116 (r37 : Int → Int → Int → Int → Int → fb_St → Prop) (Q : Int → fb_St → Prop) (x1 x2 x3 x4 x5 s0 s1 : Int) (σ : fb_St) : Prop :=
  fb_in (s1 + s0) ∧
  ∀ v34 : Int, v34 = s1 + s0 →
  (v34 < 0 →
    wj_X7_heap_148 r37 Q x1 x2 x3 x4 x5 0 x5 σ) ∧
  (¬ v34 < 0 →
    (99 < v34 →
      wj_X7_heap_148 r37 Q x1 x2 x3 x4 x5 99 x5 σ) ∧
    (¬ 99 < v34 →
      wj_X7_heap_148 r37 Q x1 x2 x3 x4 x5 v34 x5 σ))
def wb_X7_heap_37 (r37 : Int → Int → Int → Int → Int → fb_St → Prop) (Q : Int → fb_St → Prop) (x1 x2 x3 x4 x5 : Int) (σ : fb_St) : Prop :=
  wp_X7_dots σ (fun a7 σ7 =>
    (x5 < a7 →
      0 ≤ x5 ∧ 0 < σ7 49 288 ∧ fb_in (x5 % (σ7 49 288)) ∧
      fb_in ((x5 % (σ7 49 288)) - x1) ∧
      wp_X7_size ((x5 % (σ7 49 288)) - x1) σ7 (fun a15 σ15 =>
        0 ≤ x5 ∧ 0 < σ15 49 288 ∧ fb_in (x5 / (σ15 49 288)) ∧
        fb_in ((x5 / (σ15 49 288)) - x2) ∧
        wp_X7_size ((x5 / (σ15 49 288)) - x2) σ15 (fun a21 σ21 =>
          fb_in (a15 + a21) ∧
          ∀ v23 : Int, v23 = a15 + a21 →
          wp_X7_size x3 σ21 (fun a24 σ24 =>
            fb_in (x4 * v23) ∧
            fb_in (a24 - (x4 * v23)) ∧
            wp_X7_greater (a24 - (x4 * v23)) 0 σ24 (fun a27 σ27 =>
              0 ≤ x5 ∧ x5 < 292 ∧
              (x3 < 0 →
                fb_in (-a27) ∧
                wj_X7_heap_116 r37 Q x1 x2 x3 x4 x5 (-a27) (σ27 49 x5) σ27) ∧
              (¬ x3 < 0 →
                wj_X7_heap_116 r37 Q x1 x2 x3 x4 x5 a27 (σ27 49 x5) σ27)))))) ∧
    (¬ x5 < a7 →
      wp_X7_layPits σ7 (fun a9 σ9 =>
        Q a9 σ9)))
def wl_X7_heap_37 (Q : Int → fb_St → Prop) : Nat → Int → Int → Int → Int → Int → fb_St → Prop := fb_Lp (fun _ _ _ _ _ _ => False) (fun r => wb_X7_heap_37 r Q)
def wp_X7_heap (x1 x2 x3 x4 : Int) (σ : fb_St) (Q : Int → fb_St → Prop) : Prop :=
  wp_X7_isDot x1 x2 σ (fun a1 σ1 =>
    (a1 = 0 →
      wj_X7_heap_31 Q σ1) ∧
    (¬ a1 = 0 →
      wp_X7_in x3 (-99) 99 σ1 (fun a3 σ3 =>
        (a3 = 0 →
          wj_X7_heap_31 Q σ3) ∧
        (¬ a3 = 0 →
          wp_X7_in x4 0 50 σ3 (fun a5 σ5 =>
            (a5 = 0 →
              wj_X7_heap_31 Q σ5) ∧
            (¬ a5 = 0 →
              ∃ n, wl_X7_heap_37 Q n x1 x2 x3 x4 0 σ5))))))
def rm_X7_put : Room := { frames := 5, cells := 0, slots := 0, locals := 120 }
def wj_X7_put_19 (Q : Int → fb_St → Prop) (σ : fb_St) : Prop :=
  Q (-2) σ
def wp_X7_put (x1 x2 x3 : Int) (σ : fb_St) (Q : Int → fb_St → Prop) : Prop :=
  wp_X7_isDot x1 x2 σ (fun a1 σ1 =>
    (a1 = 0 →
      wj_X7_put_19 Q σ1) ∧
    (¬ a1 = 0 →
      wp_X7_in x3 0 99 σ1 (fun a3 σ3 =>
        (a3 = 0 →
          wj_X7_put_19 Q σ3) ∧
        (¬ a3 = 0 →
          wp_X7_at x1 x2 σ3 (fun a5 σ5 =>
            0 ≤ a5 ∧ a5 < 292 ∧
            ∀ σ8 : fb_St, σ8 = fb_up σ5 49 a5 x3 →
            wp_X7_layPits σ8 (fun a9 σ9 =>
              Q a9 σ9))))))
def rm_X7_mark : Room := { frames := 2, cells := 0, slots := 0, locals := 44 }
def wj_X7_mark_19 (Q : Int → fb_St → Prop) (σ : fb_St) : Prop :=
  Q (-2) σ
def wp_X7_mark (x1 x2 x3 : Int) (σ : fb_St) (Q : Int → fb_St → Prop) : Prop :=
  wp_X7_isDot x1 x2 σ (fun a1 σ1 =>
    (a1 = 0 →
      wj_X7_mark_19 Q σ1) ∧
    (¬ a1 = 0 →
      wp_X7_in x3 0 99 σ1 (fun a3 σ3 =>
        (a3 = 0 →
          wj_X7_mark_19 Q σ3) ∧
        (¬ a3 = 0 →
          wp_X7_at x1 x2 σ3 (fun a5 σ5 =>
            fb_in (144 + a5) ∧
            0 ≤ 144 + a5 ∧ 144 + a5 < 292 ∧
            ∀ v10 : Int, v10 = σ5 49 (144 + a5) →
            wp_X7_at x1 x2 σ5 (fun a11 σ11 =>
              fb_in (144 + a11) ∧
              0 ≤ 144 + a11 ∧ 144 + a11 < 292 ∧
              ∀ σ15 : fb_St, σ15 = fb_up σ11 49 (144 + a11) x3 →
              Q v10 σ15))))))
def rm_X7_pits : Room := { frames := 5, cells := 0, slots := 0, locals := 120 }
def wj_X7_pits_46 (r7 : Int → Int → fb_St → Prop) (Q : Int → fb_St → Prop) (x1 x2 s0 s1 : Int) (σ : fb_St) : Prop :=
  0 ≤ s1 ∧ s1 < 292 ∧
  ∀ σ14 : fb_St, σ14 = fb_up σ 49 s1 s0 →
  fb_in (x2 + 1) ∧
  r7 x1 (x2 + 1) σ14
def wb_X7_pits_7 (r7 : Int → Int → fb_St → Prop) (Q : Int → fb_St → Prop) (x1 x2 : Int) (σ : fb_St) : Prop :=
  (x2 < 144 →
    fb_in (144 + x2) ∧
    0 ≤ x2 ∧ x2 < 144 ∧
    (σ 52 x2 = (-6) →
      wj_X7_pits_46 r7 Q x1 x2 0 (144 + x2) σ) ∧
    (¬ σ 52 x2 = (-6) →
      0 ≤ x2 ∧ x2 < 144 ∧
      fb_in ((σ 52 x2) + 1) ∧
      wj_X7_pits_46 r7 Q x1 x2 ((σ 52 x2) + 1) (144 + x2) σ)) ∧
  (¬ x2 < 144 →
    Q x1 σ)
def wl_X7_pits_7 (Q : Int → fb_St → Prop) : Nat → Int → Int → fb_St → Prop := fb_Lp (fun _ _ _ => False) (fun r => wb_X7_pits_7 r Q)
def wp_X7_pits (σ : fb_St) (Q : Int → fb_St → Prop) : Prop :=
  wp_X7_layPits σ (fun a1 σ1 =>
    ∃ n, wl_X7_pits_7 Q n a1 0 σ1)
def rm_X7_spill : Room := { frames := 3, cells := 0, slots := 0, locals := 68 }
def wj_X7_spill_91 (r2 : Int → Int → fb_St → Prop) (Q : Int → fb_St → Prop) (x1 x2 : Int) (σ : fb_St) : Prop :=
  fb_in (x2 + 1) ∧
  r2 x1 (x2 + 1) σ
def wb_X7_spill_2 (r2 : Int → Int → fb_St → Prop) (Q : Int → fb_St → Prop) (x1 x2 : Int) (σ : fb_St) : Prop :=
  (x2 < 4 →
    wp_X7_beside x1 x2 σ (fun a2 σ2 =>
      (a2 < 0 →
        wj_X7_spill_91 r2 Q x1 x2 σ2) ∧
      (¬ a2 < 0 →
        0 ≤ a2 ∧ a2 < 144 ∧
        (σ2 55 a2 = (-6) →
          0 ≤ a2 ∧ a2 < 144 ∧
          (σ2 56 a2 = (-6) →
            0 ≤ a2 ∧ a2 < 292 ∧
            0 ≤ x1 ∧ x1 < 144 ∧
            wp_X7_greater (σ2 49 a2) (σ2 56 x1) σ2 (fun a18 σ18 =>
              0 ≤ a2 ∧ a2 < 144 ∧
              ∀ σ21 : fb_St, σ21 = fb_up σ18 56 a2 a18 →
              0 ≤ σ21 48 11 ∧ σ21 48 11 < 144 ∧
              ∀ σ25 : fb_St, σ25 = fb_up σ21 58 (σ21 48 11) a2 →
              0 ≤ σ25 48 11 ∧ σ25 48 11 < 144 ∧
              ∀ σ29 : fb_St, σ29 = fb_up σ25 59 (σ25 48 11) 0 →
              fb_in ((σ29 48 11) + 1) ∧
              ∀ σ32 : fb_St, σ32 = fb_up σ29 48 11 ((σ29 48 11) + 1) →
              wj_X7_spill_91 r2 Q x1 x2 σ32)) ∧
          (¬ σ2 56 a2 = (-6) →
            wj_X7_spill_91 r2 Q x1 x2 σ2)) ∧
        (¬ σ2 55 a2 = (-6) →
          wj_X7_spill_91 r2 Q x1 x2 σ2)))) ∧
  (¬ x2 < 4 →
    Q 0 σ)
def wl_X7_spill_2 (Q : Int → fb_St → Prop) : Nat → Int → Int → fb_St → Prop := fb_Lp (fun _ _ _ => False) (fun r => wb_X7_spill_2 r Q)
def wp_X7_spill (x1 : Int) (σ : fb_St) (Q : Int → fb_St → Prop) : Prop :=
  ∃ n, wl_X7_spill_2 Q n x1 0 σ
def rm_X7_first : Room := { frames := 0, cells := 0, slots := 0, locals := 0 }
def wj_X7_first_53 (r5 : Int → Int → fb_St → Prop) (Q : Int → fb_St → Prop) (x1 x2 : Int) (σ : fb_St) : Prop :=
  fb_in (x2 + 1) ∧
  r5 x1 (x2 + 1) σ
def wj_X7_first_51 (r5 : Int → Int → fb_St → Prop) (Q : Int → fb_St → Prop) (x2 : Int) (σ : fb_St) : Prop :=
  wj_X7_first_53 r5 Q x2 x2 σ
def wb_X7_first_5 (r5 : Int → Int → fb_St → Prop) (Q : Int → fb_St → Prop) (x1 x2 : Int) (σ : fb_St) : Prop :=
  (x2 < σ 48 11 →
    0 ≤ x2 ∧ x2 < 144 ∧
    (σ 59 x2 = 0 →
      (x1 < 0 →
        wj_X7_first_51 r5 Q x2 σ) ∧
      (¬ x1 < 0 →
        0 ≤ x2 ∧ x2 < 144 ∧
        0 ≤ σ 58 x2 ∧ σ 58 x2 < 144 ∧
        0 ≤ x1 ∧ x1 < 144 ∧
        0 ≤ σ 58 x1 ∧ σ 58 x1 < 144 ∧
        (σ 56 (σ 58 x2) < σ 56 (σ 58 x1) →
          wj_X7_first_51 r5 Q x2 σ) ∧
        (¬ σ 56 (σ 58 x2) < σ 56 (σ 58 x1) →
          wj_X7_first_53 r5 Q x1 x2 σ))) ∧
    (¬ σ 59 x2 = 0 →
      wj_X7_first_53 r5 Q x1 x2 σ)) ∧
  (¬ x2 < σ 48 11 →
    Q x1 σ)
def wl_X7_first_5 (Q : Int → fb_St → Prop) : Nat → Int → Int → fb_St → Prop := fb_Lp (fun _ _ _ => False) (fun r => wb_X7_first_5 r Q)
def wp_X7_first (σ : fb_St) (Q : Int → fb_St → Prop) : Prop :=
  ∃ n, wl_X7_first_5 Q n (-6) 0 σ
def rm_X7_basinBeside : Room := { frames := 3, cells := 0, slots := 0, locals := 68 }
def wj_X7_basinBeside_61 (oo : Nat) (r6 : Int → Int → Int → fb_St → Prop) (Q : Int → fb_St → Prop) (x2 x3 x4 : Int) (σ : fb_St) : Prop :=
  fb_in (x4 + 1) ∧
  r6 x2 x3 (x4 + 1) σ
def wj_X7_basinBeside_60 (oo : Nat) (r6 : Int → Int → Int → fb_St → Prop) (Q : Int → fb_St → Prop) (x2 x4 s0 : Int) (σ : fb_St) : Prop :=
  wj_X7_basinBeside_61 oo r6 Q x2 s0 x4 σ
def wj_X7_basinBeside_54 (oo : Nat) (r6 : Int → Int → Int → fb_St → Prop) (Q : Int → fb_St → Prop) (x2 x4 x6 : Int) (σ : fb_St) : Prop :=
  wj_X7_basinBeside_60 oo r6 Q x2 x4 x6 σ
def wj_X7_basinBeside_35 (oo : Nat) (r6 : Int → Int → Int → fb_St → Prop) (Q : Int → fb_St → Prop) (x2 x3 x4 s0 : Int) (σ : fb_St) : Prop :=
  (0 < s0 →
    (x3 = (-6) →
      wj_X7_basinBeside_54 oo r6 Q x2 x4 s0 σ) ∧
    (¬ x3 = (-6) →
      (x3 = s0 →
        wj_X7_basinBeside_54 oo r6 Q x2 x4 s0 σ) ∧
      (¬ x3 = s0 →
        wj_X7_basinBeside_60 oo r6 Q x2 x4 0 σ))) ∧
  (¬ 0 < s0 →
    wj_X7_basinBeside_61 oo r6 Q x2 x3 x4 σ)
def wb_X7_basinBeside_6 (oo : Nat) (r6 : Int → Int → Int → fb_St → Prop) (Q : Int → fb_St → Prop) (x2 x3 x4 : Int) (σ : fb_St) : Prop :=
  (x4 < 4 →
    wp_X7_beside x2 x4 σ (fun a2 σ2 =>
      (a2 < 0 →
        wj_X7_basinBeside_35 oo r6 Q x2 x3 x4 (-6) σ2) ∧
      (¬ a2 < 0 →
        0 ≤ a2 ∧ a2 < 144 ∧
        wj_X7_basinBeside_35 oo r6 Q x2 x3 x4 (σ2 oo a2) σ2))) ∧
  (¬ x4 < 4 →
    Q x3 σ)
def wl_X7_basinBeside_6 (oo : Nat) (Q : Int → fb_St → Prop) : Nat → Int → Int → Int → fb_St → Prop := fb_Lp (fun _ _ _ _ => False) (fun r => wb_X7_basinBeside_6 oo r Q)
def wp_X7_basinBeside (oo : Nat) (x2 : Int) (σ : fb_St) (Q : Int → fb_St → Prop) : Prop :=
  ∃ n, wl_X7_basinBeside_6 oo Q n x2 (-6) 0 σ
def rm_X7_flood : Room := { frames := 4, cells := 0, slots := 0, locals := 94 }
def wj_X7_flood_102 (r7 : Int → fb_St → Prop) (Q : Int → fb_St → Prop) (x1 s0 s1 : Int) (σ : fb_St) : Prop :=
  0 ≤ s1 ∧ s1 < 144 ∧
  ∀ σ60 : fb_St, σ60 = fb_up σ 57 s1 s0 →
  fb_in (x1 + 1) ∧
  r7 (x1 + 1) σ60
def wj_X7_flood_86 (r7 : Int → fb_St → Prop) (Q : Int → fb_St → Prop) (x1 x2 s0 s1 : Int) (σ : fb_St) : Prop :=
  0 ≤ s1 ∧ s1 < 144 ∧
  ∀ σ56 : fb_St, σ56 = fb_up σ 56 s1 s0 →
  (x2 = 0 →
    wj_X7_flood_102 r7 Q x1 (-6) x1 σ56) ∧
  (¬ x2 = 0 →
    wj_X7_flood_102 r7 Q x1 0 x1 σ56)
def wj_X7_flood_65 (r7 : Int → fb_St → Prop) (Q : Int → fb_St → Prop) (x1 x2 s0 s1 : Int) (σ : fb_St) : Prop :=
  0 ≤ s1 ∧ s1 < 144 ∧
  ∀ σ48 : fb_St, σ48 = fb_up σ 55 s1 s0 →
  (x2 = 0 →
    wj_X7_flood_86 r7 Q x1 x2 (-6) x1 σ48) ∧
  (¬ x2 = 0 →
    0 ≤ x1 ∧ x1 < 292 ∧
    wj_X7_flood_86 r7 Q x1 x2 (σ48 49 x1) x1 σ48)
def wj_X7_flood_40 (r7 : Int → fb_St → Prop) (Q : Int → fb_St → Prop) (x1 s0 : Int) (σ : fb_St) : Prop :=
  (s0 = 0 →
    wj_X7_flood_65 r7 Q x1 s0 (-6) x1 σ) ∧
  (¬ s0 = 0 →
    fb_in (144 + x1) ∧
    0 ≤ 144 + x1 ∧ 144 + x1 < 292 ∧
    wj_X7_flood_65 r7 Q x1 s0 (σ 49 (144 + x1)) x1 σ)
def wj_X7_flood_39 (r7 : Int → fb_St → Prop) (Q : Int → fb_St → Prop) (x1 : Int) (σ : fb_St) : Prop :=
  wj_X7_flood_40 r7 Q x1 0 σ
def wj_X7_flood_137 (r111 : Int → fb_St → Prop) (Q : Int → fb_St → Prop) (x1 : Int) (σ : fb_St) : Prop :=
  fb_in (x1 + 1) ∧
  r111 (x1 + 1) σ
def wj_X7_flood_207 (r150 : Int → Int → fb_St → Prop) (Q : Int → fb_St → Prop) (x2 : Int) (σ : fb_St) : Prop :=
  wp_X7_first σ (fun a53 σ53 =>
    r150 a53 x2 σ53)
def wb_X7_flood_150 (r150 : Int → Int → fb_St → Prop) (Q : Int → fb_St → Prop) (x1 x2 : Int) (σ : fb_St) : Prop :=
  (x1 < 0 →
    Q 0 σ) ∧
  (¬ x1 < 0 →
    0 ≤ x1 ∧ x1 < 144 ∧
    ∀ σ27 : fb_St, σ27 = fb_up σ 59 x1 1 →
    fb_in (x2 + 1) ∧
    0 ≤ x1 ∧ x1 < 144 ∧
    ∀ v32 : Int, v32 = σ27 58 x1 →
    0 ≤ v32 ∧ v32 < 144 ∧
    ∀ σ35 : fb_St, σ35 = fb_up σ27 57 v32 (x2 + 1) →
    wp_X7_basinBeside 55 v32 σ35 (fun a36 σ36 =>
      0 ≤ v32 ∧ v32 < 144 ∧
      ∀ σ39 : fb_St, σ39 = fb_up σ36 55 v32 a36 →
      0 ≤ v32 ∧ v32 < 144 ∧
      (0 < σ39 55 v32 →
        wp_X7_spill v32 σ39 (fun _ σ44 =>
          wj_X7_flood_207 r150 Q (x2 + 1) σ44)) ∧
      (¬ 0 < σ39 55 v32 →
        wj_X7_flood_207 r150 Q (x2 + 1) σ39)))
def wl_X7_flood_150 (Q : Int → fb_St → Prop) : Nat → Int → Int → fb_St → Prop := fb_Lp (fun _ _ _ => False) (fun r => wb_X7_flood_150 r Q)
def wb_X7_flood_111 (r111 : Int → fb_St → Prop) (Q : Int → fb_St → Prop) (x1 : Int) (σ : fb_St) : Prop :=
  wp_X7_dots σ (fun a10 σ10 =>
    (x1 < a10 →
      fb_in (144 + x1) ∧
      0 ≤ 144 + x1 ∧ 144 + x1 < 292 ∧
      (0 < σ10 49 (144 + x1) →
        wp_X7_spill x1 σ10 (fun _ σ18 =>
          wj_X7_flood_137 r111 Q x1 σ18)) ∧
      (¬ 0 < σ10 49 (144 + x1) →
        wj_X7_flood_137 r111 Q x1 σ10)) ∧
    (¬ x1 < a10 →
      wp_X7_first σ10 (fun a12 σ12 =>
        ∃ n, wl_X7_flood_150 Q n a12 0 σ12)))
def wl_X7_flood_111 (Q : Int → fb_St → Prop) : Nat → Int → fb_St → Prop := fb_Lp (fun _ _ => False) (fun r => wb_X7_flood_111 r Q)
def wb_X7_flood_7 (r7 : Int → fb_St → Prop) (Q : Int → fb_St → Prop) (x1 : Int) (σ : fb_St) : Prop :=
  (x1 < 144 →
    wp_X7_dots σ (fun a3 σ3 =>
      (x1 < a3 →
        fb_in (144 + x1) ∧
        0 ≤ 144 + x1 ∧ 144 + x1 < 292 ∧
        (0 < σ3 49 (144 + x1) →
          wj_X7_flood_40 r7 Q x1 1 σ3) ∧
        (¬ 0 < σ3 49 (144 + x1) →
          wj_X7_flood_39 r7 Q x1 σ3)) ∧
      (¬ x1 < a3 →
        wj_X7_flood_39 r7 Q x1 σ3))) ∧
  (¬ x1 < 144 →
    ∃ n, wl_X7_flood_111 Q n 0 σ)
def wl_X7_flood_7 (Q : Int → fb_St → Prop) : Nat → Int → fb_St → Prop := fb_Lp (fun _ _ => False) (fun r => wb_X7_flood_7 r Q)
def wp_X7_flood (σ : fb_St) (Q : Int → fb_St → Prop) : Prop :=
  ∀ σ1 : fb_St, σ1 = fb_up σ 48 11 0 →
  ∃ n, wl_X7_flood_7 Q n 0 σ1
def rm_X7_dotsOf : Room := { frames := 1, cells := 0, slots := 0, locals := 20 }
def wj_X7_dotsOf_28 (oo : Nat) (r5 : Int → Int → Int → fb_St → Prop) (Q : Int → fb_St → Prop) (x2 x4 s0 s1 : Int) (σ : fb_St) : Prop :=
  fb_in (s1 + s0) ∧
  ∀ v8 : Int, v8 = s1 + s0 →
  fb_in (x4 + 1) ∧
  r5 x2 v8 (x4 + 1) σ
def wb_X7_dotsOf_5 (oo : Nat) (r5 : Int → Int → Int → fb_St → Prop) (Q : Int → fb_St → Prop) (x2 x3 x4 : Int) (σ : fb_St) : Prop :=
  wp_X7_dots σ (fun a1 σ1 =>
    (x4 < a1 →
      0 ≤ x4 ∧ x4 < 144 ∧
      (σ1 oo x4 = x2 →
        wj_X7_dotsOf_28 oo r5 Q x2 x4 1 x3 σ1) ∧
      (¬ σ1 oo x4 = x2 →
        wj_X7_dotsOf_28 oo r5 Q x2 x4 0 x3 σ1)) ∧
    (¬ x4 < a1 →
      Q x3 σ1))
def wl_X7_dotsOf_5 (oo : Nat) (Q : Int → fb_St → Prop) : Nat → Int → Int → Int → fb_St → Prop := fb_Lp (fun _ _ _ _ => False) (fun r => wb_X7_dotsOf_5 oo r Q)
def wp_X7_dotsOf (oo : Nat) (x2 : Int) (σ : fb_St) (Q : Int → fb_St → Prop) : Prop :=
  ∃ n, wl_X7_dotsOf_5 oo Q n x2 0 0 σ
def rm_X7_hasBeside : Room := { frames := 3, cells := 0, slots := 0, locals := 68 }
def wj_X7_hasBeside_45 (r5 : Int → Int → Int → Int → fb_St → Prop) (Q : Int → fb_St → Prop) (x1 x2 x4 s0 : Int) (σ : fb_St) : Prop :=
  fb_in (x4 + 1) ∧
  r5 x1 x2 s0 (x4 + 1) σ
def wj_X7_hasBeside_40 (r5 : Int → Int → Int → Int → fb_St → Prop) (Q : Int → fb_St → Prop) (x1 x2 x4 : Int) (σ : fb_St) : Prop :=
  wj_X7_hasBeside_45 r5 Q x1 x2 x4 1 σ
def wj_X7_hasBeside_44 (r5 : Int → Int → Int → Int → fb_St → Prop) (Q : Int → fb_St → Prop) (x1 x2 x4 : Int) (σ : fb_St) : Prop :=
  wj_X7_hasBeside_45 r5 Q x1 x2 x4 0 σ
def wb_X7_hasBeside_5 (r5 : Int → Int → Int → Int → fb_St → Prop) (Q : Int → fb_St → Prop) (x1 x2 x3 x4 : Int) (σ : fb_St) : Prop :=
  (x4 < 4 →
    wp_X7_beside x1 x4 σ (fun a3 σ3 =>
      (x3 = 0 →
        (a3 < 0 →
          wj_X7_hasBeside_44 r5 Q x1 x2 x4 σ3) ∧
        (¬ a3 < 0 →
          0 ≤ a3 ∧ a3 < 144 ∧
          (σ3 60 a3 = x2 →
            wj_X7_hasBeside_40 r5 Q x1 x2 x4 σ3) ∧
          (¬ σ3 60 a3 = x2 →
            wj_X7_hasBeside_44 r5 Q x1 x2 x4 σ3))) ∧
      (¬ x3 = 0 →
        wj_X7_hasBeside_40 r5 Q x1 x2 x4 σ3))) ∧
  (¬ x4 < 4 →
    fb_B (x3) ∧ Q x3 σ)
def wl_X7_hasBeside_5 (Q : Int → fb_St → Prop) : Nat → Int → Int → Int → Int → fb_St → Prop := fb_Lp (fun _ _ _ _ _ => False) (fun r => wb_X7_hasBeside_5 r Q)
def wp_X7_hasBeside (x1 x2 : Int) (σ : fb_St) (Q : Int → fb_St → Prop) : Prop :=
  ∃ n, wl_X7_hasBeside_5 Q n x1 x2 0 0 σ
def rm_X7_lesser : Room := { frames := 0, cells := 0, slots := 0, locals := 0 }
def wj_X7_lesser_18 (Q : Int → fb_St → Prop) (s0 : Int) (σ : fb_St) : Prop :=
  Q s0 σ
def wj_X7_lesser_13 (Q : Int → fb_St → Prop) (x1 : Int) (σ : fb_St) : Prop :=
  wj_X7_lesser_18 Q x1 σ
def wj_X7_lesser_17 (Q : Int → fb_St → Prop) (x0 : Int) (σ : fb_St) : Prop :=
  wj_X7_lesser_18 Q x0 σ
def wp_X7_lesser (x0 x1 : Int) (σ : fb_St) (Q : Int → fb_St → Prop) : Prop :=
  (x0 < 0 →
    wj_X7_lesser_13 Q x1 σ) ∧
  (¬ x0 < 0 →
    (x1 < 0 →
      wj_X7_lesser_17 Q x0 σ) ∧
    (¬ x1 < 0 →
      (x1 < x0 →
        wj_X7_lesser_13 Q x1 σ) ∧
      (¬ x1 < x0 →
        wj_X7_lesser_17 Q x0 σ)))
def rm_X7_passOf : Room := { frames := 4, cells := 0, slots := 0, locals := 93 }
def wj_X7_passOf_125 (r6 : Int → Int → Int → Int → fb_St → Prop) (r60 : Int → Int → Int → Int → Int → fb_St → Prop) (Q : Int → fb_St → Prop) (x1 x2 x3 x4 x5 : Int) (σ : fb_St) : Prop :=
  fb_in (x5 + 1) ∧
  r60 x1 x2 x3 x4 (x5 + 1) σ
def wj_X7_passOf_131 (r6 : Int → Int → Int → Int → fb_St → Prop) (Q : Int → fb_St → Prop) (x1 x2 x3 x4 : Int) (σ : fb_St) : Prop :=
  fb_in (x4 + 1) ∧
  r6 x1 x2 x3 (x4 + 1) σ
def wb_X7_passOf_60 (r6 : Int → Int → Int → Int → fb_St → Prop) (r60 : Int → Int → Int → Int → Int → fb_St → Prop) (Q : Int → fb_St → Prop) (x1 x2 x3 x4 x5 : Int) (σ : fb_St) : Prop :=
  (x5 < 4 →
    0 ≤ x4 ∧ x4 < 144 ∧
    (σ 60 x4 = x1 →
      wp_X7_beside x4 x5 σ (fun a20 σ20 =>
        (a20 < 0 →
          wj_X7_passOf_125 r6 r60 Q x1 x2 x3 x4 x5 σ20) ∧
        (¬ a20 < 0 →
          0 ≤ a20 ∧ a20 < 144 ∧
          (σ20 60 a20 = x2 →
            0 ≤ x4 ∧ x4 < 292 ∧
            0 ≤ a20 ∧ a20 < 292 ∧
            wp_X7_greater (σ20 49 x4) (σ20 49 a20) σ20 (fun a32 σ32 =>
              wp_X7_lesser x3 a32 σ32 (fun a33 σ33 =>
                wj_X7_passOf_125 r6 r60 Q x1 x2 a33 x4 x5 σ33))) ∧
          (¬ σ20 60 a20 = x2 →
            wj_X7_passOf_125 r6 r60 Q x1 x2 x3 x4 x5 σ20)))) ∧
    (¬ σ 60 x4 = x1 →
      wj_X7_passOf_131 r6 Q x1 x2 x3 x4 σ)) ∧
  (¬ x5 < 4 →
    wj_X7_passOf_131 r6 Q x1 x2 x3 x4 σ)
def wl_X7_passOf_60 (r6 : Int → Int → Int → Int → fb_St → Prop) (Q : Int → fb_St → Prop) : Nat → Int → Int → Int → Int → Int → fb_St → Prop := fb_Lp (fun _ _ _ _ _ _ => False) (fun r => wb_X7_passOf_60 r6 r Q)
def wj_X7_passOf_57 (r6 : Int → Int → Int → Int → fb_St → Prop) (Q : Int → fb_St → Prop) (x1 x2 x3 x4 : Int) (σ : fb_St) : Prop :=
  ∃ n, wl_X7_passOf_60 r6 Q n x1 x2 x3 x4 0 σ
def wb_X7_passOf_6 (r6 : Int → Int → Int → Int → fb_St → Prop) (Q : Int → fb_St → Prop) (x1 x2 x3 x4 : Int) (σ : fb_St) : Prop :=
  wp_X7_dots σ (fun a1 σ1 =>
    (x4 < a1 →
      0 ≤ x4 ∧ x4 < 144 ∧
      (σ1 60 x4 = 0 →
        wp_X7_hasBeside x4 x1 σ1 (fun a7 σ7 =>
          (a7 = 0 →
            wj_X7_passOf_57 r6 Q x1 x2 x3 x4 σ7) ∧
          (¬ a7 = 0 →
            wp_X7_hasBeside x4 x2 σ7 (fun a9 σ9 =>
              (a9 = 0 →
                wj_X7_passOf_57 r6 Q x1 x2 x3 x4 σ9) ∧
              (¬ a9 = 0 →
                0 ≤ x4 ∧ x4 < 292 ∧
                wp_X7_lesser x3 (σ9 49 x4) σ9 (fun a14 σ14 =>
                  wj_X7_passOf_57 r6 Q x1 x2 a14 x4 σ14)))))) ∧
      (¬ σ1 60 x4 = 0 →
        wj_X7_passOf_57 r6 Q x1 x2 x3 x4 σ1)) ∧
    (¬ x4 < a1 →
      Q x3 σ1))
def wl_X7_passOf_6 (Q : Int → fb_St → Prop) : Nat → Int → Int → Int → Int → fb_St → Prop := fb_Lp (fun _ _ _ _ _ => False) (fun r => wb_X7_passOf_6 r Q)
def wp_X7_passOf (x1 x2 : Int) (σ : fb_St) (Q : Int → fb_St → Prop) : Prop :=
  ∃ n, wl_X7_passOf_6 Q n x1 x2 (-6) 0 σ
def rm_X7_layPasses : Room := { frames := 4, cells := 0, slots := 0, locals := 93 }
def wj_X7_layPasses_170 (r24 : Int → Int → fb_St → Prop) (r59 : Int → Int → Int → Int → fb_St → Prop) (Q : Int → fb_St → Prop) (x1 x2 x3 x4 : Int) (σ : fb_St) : Prop :=
  fb_in (x4 + 1) ∧
  r59 x1 x2 x3 (x4 + 1) σ
def wj_X7_layPasses_166 (r24 : Int → Int → fb_St → Prop) (r59 : Int → Int → Int → Int → fb_St → Prop) (Q : Int → fb_St → Prop) (x1 x2 x3 x4 s0 s1 s2 : Int) (σ : fb_St) : Prop :=
  wp_X7_lesser s1 s0 σ (fun a52 σ52 =>
    0 ≤ s2 ∧ s2 < 100 ∧
    ∀ σ55 : fb_St, σ55 = fb_up σ52 65 s2 a52 →
    wj_X7_layPasses_170 r24 r59 Q x1 x2 x3 x4 σ55)
def wj_X7_layPasses_79 (r24 : Int → Int → fb_St → Prop) (r59 : Int → Int → Int → Int → fb_St → Prop) (Q : Int → fb_St → Prop) (x1 x2 x3 x4 : Int) (σ : fb_St) : Prop :=
  wp_X7_beside x2 x4 σ (fun a21 σ21 =>
    (a21 < 0 →
      wj_X7_layPasses_170 r24 r59 Q x1 x2 x3 x4 σ21) ∧
    (¬ a21 < 0 →
      0 ≤ a21 ∧ a21 < 144 ∧
      (0 < σ21 60 a21 →
        0 ≤ a21 ∧ a21 < 144 ∧
        (σ21 60 a21 = x1 →
          wj_X7_layPasses_170 r24 r59 Q x1 x2 x3 x4 σ21) ∧
        (¬ σ21 60 a21 = x1 →
          0 ≤ a21 ∧ a21 < 144 ∧
          0 ≤ a21 ∧ a21 < 144 ∧
          0 ≤ σ21 60 a21 ∧ σ21 60 a21 < 100 ∧
          (x3 = 0 →
            0 ≤ x2 ∧ x2 < 292 ∧
            0 ≤ a21 ∧ a21 < 292 ∧
            wp_X7_greater (σ21 49 x2) (σ21 49 a21) σ21 (fun a47 σ47 =>
              wj_X7_layPasses_166 r24 r59 Q x1 x2 x3 x4 a47 (σ21 65 (σ21 60 a21)) (σ21 60 a21) σ47)) ∧
          (¬ x3 = 0 →
            0 ≤ x2 ∧ x2 < 292 ∧
            wj_X7_layPasses_166 r24 r59 Q x1 x2 x3 x4 (σ21 49 x2) (σ21 65 (σ21 60 a21)) (σ21 60 a21) σ21))) ∧
      (¬ 0 < σ21 60 a21 →
        wj_X7_layPasses_170 r24 r59 Q x1 x2 x3 x4 σ21)))
def wj_X7_layPasses_176 (r24 : Int → Int → fb_St → Prop) (Q : Int → fb_St → Prop) (x1 x2 : Int) (σ : fb_St) : Prop :=
  fb_in (x2 + 1) ∧
  r24 x1 (x2 + 1) σ
def wb_X7_layPasses_59 (r24 : Int → Int → fb_St → Prop) (r59 : Int → Int → Int → Int → fb_St → Prop) (Q : Int → fb_St → Prop) (x1 x2 x3 x4 : Int) (σ : fb_St) : Prop :=
  (x4 < 4 →
    (x3 = 0 →
      0 ≤ x2 ∧ x2 < 144 ∧
      (σ 60 x2 = x1 →
        wj_X7_layPasses_79 r24 r59 Q x1 x2 x3 x4 σ) ∧
      (¬ σ 60 x2 = x1 →
        wj_X7_layPasses_176 r24 Q x1 x2 σ)) ∧
    (¬ x3 = 0 →
      wj_X7_layPasses_79 r24 r59 Q x1 x2 x3 x4 σ)) ∧
  (¬ x4 < 4 →
    wj_X7_layPasses_176 r24 Q x1 x2 σ)
def wl_X7_layPasses_59 (r24 : Int → Int → fb_St → Prop) (Q : Int → fb_St → Prop) : Nat → Int → Int → Int → Int → fb_St → Prop := fb_Lp (fun _ _ _ _ _ => False) (fun r => wb_X7_layPasses_59 r24 r Q)
def wj_X7_layPasses_55 (r24 : Int → Int → fb_St → Prop) (Q : Int → fb_St → Prop) (x1 x2 s0 : Int) (σ : fb_St) : Prop :=
  ∃ n, wl_X7_layPasses_59 r24 Q n x1 x2 s0 0 σ
def wj_X7_layPasses_54 (r24 : Int → Int → fb_St → Prop) (Q : Int → fb_St → Prop) (x1 x2 : Int) (σ : fb_St) : Prop :=
  wj_X7_layPasses_55 r24 Q x1 x2 0 σ
def wb_X7_layPasses_24 (r24 : Int → Int → fb_St → Prop) (Q : Int → fb_St → Prop) (x1 x2 : Int) (σ : fb_St) : Prop :=
  wp_X7_dots σ (fun a6 σ6 =>
    (x2 < a6 →
      0 ≤ x2 ∧ x2 < 144 ∧
      (σ6 60 x2 = 0 →
        wp_X7_hasBeside x2 x1 σ6 (fun a12 σ12 =>
          (a12 = 0 →
            wj_X7_layPasses_54 r24 Q x1 x2 σ12) ∧
          (¬ a12 = 0 →
            wj_X7_layPasses_55 r24 Q x1 x2 1 σ12))) ∧
      (¬ σ6 60 x2 = 0 →
        wj_X7_layPasses_54 r24 Q x1 x2 σ6)) ∧
    (¬ x2 < a6 →
      Q 0 σ6))
def wl_X7_layPasses_24 (Q : Int → fb_St → Prop) : Nat → Int → Int → fb_St → Prop := fb_Lp (fun _ _ _ => False) (fun r => wb_X7_layPasses_24 r Q)
def wb_X7_layPasses_2 (r2 : Int → Int → fb_St → Prop) (Q : Int → fb_St → Prop) (x1 x2 : Int) (σ : fb_St) : Prop :=
  (x2 < 100 →
    0 ≤ x2 ∧ x2 < 100 ∧
    ∀ σ4 : fb_St, σ4 = fb_up σ 65 x2 (-6) →
    fb_in (x2 + 1) ∧
    r2 x1 (x2 + 1) σ4) ∧
  (¬ x2 < 100 →
    ∃ n, wl_X7_layPasses_24 Q n x1 0 σ)
def wl_X7_layPasses_2 (Q : Int → fb_St → Prop) : Nat → Int → Int → fb_St → Prop := fb_Lp (fun _ _ _ => False) (fun r => wb_X7_layPasses_2 r Q)
def wp_X7_layPasses (x1 : Int) (σ : fb_St) (Q : Int → fb_St → Prop) : Prop :=
  ∃ n, wl_X7_layPasses_2 Q n x1 1 σ
def rm_X7_wayOut : Room := { frames := 5, cells := 0, slots := 0, locals := 118 }
def wj_X7_wayOut_49 (r10 : Int → Int → fb_St → Prop) (Q : Int → fb_St → Prop) (x3 s0 : Int) (σ : fb_St) : Prop :=
  fb_in (x3 + 1) ∧
  r10 s0 (x3 + 1) σ
def wj_X7_wayOut_44 (r10 : Int → Int → fb_St → Prop) (Q : Int → fb_St → Prop) (x3 : Int) (σ : fb_St) : Prop :=
  wj_X7_wayOut_49 r10 Q x3 x3 σ
def wj_X7_wayOut_48 (r10 : Int → Int → fb_St → Prop) (Q : Int → fb_St → Prop) (x2 x3 : Int) (σ : fb_St) : Prop :=
  wj_X7_wayOut_49 r10 Q x3 x2 σ
def wb_X7_wayOut_10 (r10 : Int → Int → fb_St → Prop) (Q : Int → fb_St → Prop) (x2 x3 : Int) (σ : fb_St) : Prop :=
  (x3 < 100 →
    0 ≤ x3 ∧ x3 < 100 ∧
    (σ 65 x3 < 0 →
      wj_X7_wayOut_48 r10 Q x2 x3 σ) ∧
    (¬ σ 65 x3 < 0 →
      (x2 < 0 →
        wj_X7_wayOut_44 r10 Q x3 σ) ∧
      (¬ x2 < 0 →
        0 ≤ x3 ∧ x3 < 100 ∧
        0 ≤ x2 ∧ x2 < 100 ∧
        (σ 65 x3 < σ 65 x2 →
          wj_X7_wayOut_44 r10 Q x3 σ) ∧
        (¬ σ 65 x3 < σ 65 x2 →
          wj_X7_wayOut_48 r10 Q x2 x3 σ)))) ∧
  (¬ x3 < 100 →
    Q x2 σ)
def wl_X7_wayOut_10 (Q : Int → fb_St → Prop) : Nat → Int → Int → fb_St → Prop := fb_Lp (fun _ _ _ => False) (fun r => wb_X7_wayOut_10 r Q)
def wp_X7_wayOut (x1 : Int) (σ : fb_St) (Q : Int → fb_St → Prop) : Prop :=
  wp_X7_layPasses x1 σ (fun _ σ1 =>
    ∃ n, wl_X7_wayOut_10 Q n (-6) 1 σ1)
def rm_X7_leastHeight : Room := { frames := 1, cells := 0, slots := 0, locals := 21 }
def wj_X7_leastHeight_37 (r5 : Int → Int → Int → fb_St → Prop) (Q : Int → fb_St → Prop) (x1 x3 s0 : Int) (σ : fb_St) : Prop :=
  fb_in (x3 + 1) ∧
  r5 x1 s0 (x3 + 1) σ
def wb_X7_leastHeight_5 (r5 : Int → Int → Int → fb_St → Prop) (Q : Int → fb_St → Prop) (x1 x2 x3 : Int) (σ : fb_St) : Prop :=
  wp_X7_dots σ (fun a1 σ1 =>
    (x3 < a1 →
      0 ≤ x3 ∧ x3 < 144 ∧
      (σ1 60 x3 = x1 →
        0 ≤ x3 ∧ x3 < 292 ∧
        wp_X7_lesser x2 (σ1 49 x3) σ1 (fun a10 σ10 =>
          wj_X7_leastHeight_37 r5 Q x1 x3 a10 σ10)) ∧
      (¬ σ1 60 x3 = x1 →
        wj_X7_leastHeight_37 r5 Q x1 x3 x2 σ1)) ∧
    (¬ x3 < a1 →
      Q x2 σ1))
def wl_X7_leastHeight_5 (Q : Int → fb_St → Prop) : Nat → Int → Int → Int → fb_St → Prop := fb_Lp (fun _ _ _ _ => False) (fun r => wb_X7_leastHeight_5 r Q)
def wp_X7_leastHeight (x1 : Int) (σ : fb_St) (Q : Int → fb_St → Prop) : Prop :=
  ∃ n, wl_X7_leastHeight_5 Q n x1 (-6) 0 σ
def rm_X7_sizeOf : Room := { frames := 2, cells := 0, slots := 0, locals := 44 }
def wj_X7_sizeOf_82 (r43 : Int → Int → Int → Int → fb_St → Prop) (Q : Int → fb_St → Prop) (x1 x3 x5 s0 s1 : Int) (σ : fb_St) : Prop :=
  fb_in (s1 + s0) ∧
  ∀ v20 : Int, v20 = s1 + s0 →
  fb_in (x5 + 1) ∧
  r43 x1 x3 v20 (x5 + 1) σ
def wb_X7_sizeOf_43 (r43 : Int → Int → Int → Int → fb_St → Prop) (Q : Int → fb_St → Prop) (x1 x3 x4 x5 : Int) (σ : fb_St) : Prop :=
  wp_X7_dots σ (fun a8 σ8 =>
    (x5 < a8 →
      0 ≤ x5 ∧ x5 < 144 ∧
      (σ8 60 x5 = x1 →
        0 ≤ x5 ∧ x5 < 292 ∧
        fb_in (x3 - (σ8 49 x5)) ∧
        wp_X7_greater (x3 - (σ8 49 x5)) 0 σ8 (fun a18 σ18 =>
          wj_X7_sizeOf_82 r43 Q x1 x3 x5 a18 x4 σ18)) ∧
      (¬ σ8 60 x5 = x1 →
        wj_X7_sizeOf_82 r43 Q x1 x3 x5 0 x4 σ8)) ∧
    (¬ x5 < a8 →
      Q x4 σ8))
def wl_X7_sizeOf_43 (Q : Int → fb_St → Prop) : Nat → Int → Int → Int → Int → fb_St → Prop := fb_Lp (fun _ _ _ _ _ => False) (fun r => wb_X7_sizeOf_43 r Q)
def wp_X7_sizeOf (x1 x2 x3 : Int) (σ : fb_St) (Q : Int → fb_St → Prop) : Prop :=
  (x2 = 0 →
    wp_X7_dotsOf 60 x1 σ (fun a7 σ7 =>
      Q a7 σ7)) ∧
  (¬ x2 = 0 →
    (x3 < 0 →
      Q 0 σ) ∧
    (¬ x3 < 0 →
      (x2 = 1 →
        wp_X7_leastHeight x1 σ (fun a4 σ4 =>
          fb_in (x3 - a4) ∧
          wp_X7_greater (x3 - a4) 0 σ4 (fun a6 σ6 =>
            Q a6 σ6))) ∧
      (¬ x2 = 1 →
        ∃ n, wl_X7_sizeOf_43 Q n x1 x3 0 0 σ)))
def rm_X7_pourOne : Room := { frames := 4, cells := 0, slots := 0, locals := 94 }
def wj_X7_pourOne_35 (r2 : Int → Int → Int → fb_St → Prop) (Q : Int → fb_St → Prop) (x1 x2 x3 s0 s1 : Int) (σ : fb_St) : Prop :=
  0 ≤ s1 ∧ s1 < 144 ∧
  ∀ σ31 : fb_St, σ31 = fb_up σ 60 s1 s0 →
  fb_in (x3 + 1) ∧
  r2 x1 x2 (x3 + 1) σ31
def wj_X7_pourOne_113 (r47 : Int → Int → fb_St → Prop) (Q : Int → fb_St → Prop) (x3 x4 : Int) (σ : fb_St) : Prop :=
  fb_in (x4 + 1) ∧
  r47 x3 (x4 + 1) σ
def wb_X7_pourOne_122 (r122 : Int → Int → fb_St → Prop) (Q : Int → fb_St → Prop) (x3 x4 : Int) (σ : fb_St) : Prop :=
  wp_X7_dots σ (fun a33 σ33 =>
    (x4 < a33 →
      0 ≤ x4 ∧ x4 < 144 ∧
      0 ≤ x4 ∧ x4 < 144 ∧
      ∀ σ40 : fb_St, σ40 = fb_up σ33 60 x4 (σ33 66 x4) →
      fb_in (x4 + 1) ∧
      r122 x3 (x4 + 1) σ40) ∧
    (¬ x4 < a33 →
      Q x3 σ33))
def wl_X7_pourOne_122 (Q : Int → fb_St → Prop) : Nat → Int → Int → fb_St → Prop := fb_Lp (fun _ _ _ => False) (fun r => wb_X7_pourOne_122 r Q)
def wb_X7_pourOne_47 (r47 : Int → Int → fb_St → Prop) (Q : Int → fb_St → Prop) (x3 x4 : Int) (σ : fb_St) : Prop :=
  wp_X7_dots σ (fun a10 σ10 =>
    (x4 < a10 →
      0 ≤ x4 ∧ x4 < 144 ∧
      0 ≤ x4 ∧ x4 < 144 ∧
      ∀ σ17 : fb_St, σ17 = fb_up σ10 66 x4 (σ10 60 x4) →
      0 ≤ x4 ∧ x4 < 144 ∧
      (σ17 60 x4 = 0 →
        wp_X7_basinBeside 60 x4 σ17 (fun a22 σ22 =>
          (0 < a22 →
            wp_X7_basinBeside 60 x4 σ22 (fun a24 σ24 =>
              0 ≤ x4 ∧ x4 < 144 ∧
              ∀ σ27 : fb_St, σ27 = fb_up σ24 66 x4 a24 →
              fb_in (x3 + 1) ∧
              wj_X7_pourOne_113 r47 Q (x3 + 1) x4 σ27)) ∧
          (¬ 0 < a22 →
            wj_X7_pourOne_113 r47 Q x3 x4 σ22))) ∧
      (¬ σ17 60 x4 = 0 →
        wj_X7_pourOne_113 r47 Q x3 x4 σ17)) ∧
    (¬ x4 < a10 →
      ∃ n, wl_X7_pourOne_122 Q n x3 0 σ10))
def wl_X7_pourOne_47 (Q : Int → fb_St → Prop) : Nat → Int → Int → fb_St → Prop := fb_Lp (fun _ _ _ => False) (fun r => wb_X7_pourOne_47 r Q)
def wb_X7_pourOne_2 (r2 : Int → Int → Int → fb_St → Prop) (Q : Int → fb_St → Prop) (x1 x2 x3 : Int) (σ : fb_St) : Prop :=
  wp_X7_dots σ (fun a1 σ1 =>
    (x3 < a1 →
      0 ≤ x3 ∧ x3 < 144 ∧
      (σ1 60 x3 = x1 →
        wj_X7_pourOne_35 r2 Q x1 x2 x3 x2 x3 σ1) ∧
      (¬ σ1 60 x3 = x1 →
        0 ≤ x3 ∧ x3 < 144 ∧
        wj_X7_pourOne_35 r2 Q x1 x2 x3 (σ1 60 x3) x3 σ1)) ∧
    (¬ x3 < a1 →
      ∃ n, wl_X7_pourOne_47 Q n 0 0 σ1))
def wl_X7_pourOne_2 (Q : Int → fb_St → Prop) : Nat → Int → Int → Int → fb_St → Prop := fb_Lp (fun _ _ _ _ => False) (fun r => wb_X7_pourOne_2 r Q)
def wp_X7_pourOne (x1 x2 : Int) (σ : fb_St) (Q : Int → fb_St → Prop) : Prop :=
  ∃ n, wl_X7_pourOne_2 Q n x1 x2 0 σ
def rm_X7_pour : Room := { frames := 6, cells := 0, slots := 0, locals := 141 }
def wj_X7_pour_145 (r38 : Int → Int → Int → fb_St → Prop) (r57 : Int → Int → Int → Int → Int → Int → fb_St → Prop) (Q : Int → fb_St → Prop) (x1 x2 x4 x5 x6 x7 : Int) (σ : fb_St) : Prop :=
  fb_in (x7 + 1) ∧
  r57 x1 x2 x4 x5 x6 (x7 + 1) σ
def wj_X7_pour_133 (r38 : Int → Int → Int → fb_St → Prop) (r57 : Int → Int → Int → Int → Int → Int → fb_St → Prop) (Q : Int → fb_St → Prop) (x1 x2 x7 x8 x9 : Int) (σ : fb_St) : Prop :=
  wj_X7_pour_145 r38 r57 Q x1 x2 x7 x8 x9 x7 σ
def wj_X7_pour_121 (r38 : Int → Int → Int → fb_St → Prop) (r57 : Int → Int → Int → Int → Int → Int → fb_St → Prop) (Q : Int → fb_St → Prop) (x1 x2 x4 x5 x6 x7 x8 x9 : Int) (σ : fb_St) : Prop :=
  (x4 < 0 →
    wj_X7_pour_133 r38 r57 Q x1 x2 x7 x8 x9 σ) ∧
  (¬ x4 < 0 →
    (x9 < x6 →
      wj_X7_pour_133 r38 r57 Q x1 x2 x7 x8 x9 σ) ∧
    (¬ x9 < x6 →
      wj_X7_pour_145 r38 r57 Q x1 x2 x4 x5 x6 x7 σ))
def wj_X7_pour_88 (r38 : Int → Int → Int → fb_St → Prop) (r57 : Int → Int → Int → Int → Int → Int → fb_St → Prop) (Q : Int → fb_St → Prop) (x1 x2 x4 x5 x6 x7 s0 : Int) (σ : fb_St) : Prop :=
  (s0 < 0 →
    wj_X7_pour_145 r38 r57 Q x1 x2 x4 x5 x6 x7 σ) ∧
  (¬ s0 < 0 →
    0 ≤ s0 ∧ s0 < 100 ∧
    ∀ v42 : Int, v42 = σ 65 s0 →
    (x2 < 0 →
      wj_X7_pour_121 r38 r57 Q x1 x2 x4 x5 x6 x7 s0 v42 σ) ∧
    (¬ x2 < 0 →
      wp_X7_sizeOf x7 x1 v42 σ (fun a44 σ44 =>
        (a44 < x2 →
          wj_X7_pour_121 r38 r57 Q x1 x2 x4 x5 x6 x7 s0 v42 σ44) ∧
        (¬ a44 < x2 →
          wj_X7_pour_145 r38 r57 Q x1 x2 x4 x5 x6 x7 σ44))))
def wj_X7_pour_226 (r38 : Int → Int → Int → fb_St → Prop) (Q : Int → fb_St → Prop) (x1 x2 x3 : Int) (σ : fb_St) : Prop :=
  r38 x1 x2 x3 σ
def wj_X7_pour_161 (r38 : Int → Int → Int → fb_St → Prop) (Q : Int → fb_St → Prop) (x1 x2 x4 x5 x6 s0 : Int) (σ : fb_St) : Prop :=
  (s0 = 0 →
    wj_X7_pour_226 r38 Q x1 x2 s0 σ) ∧
  (¬ s0 = 0 →
    0 ≤ σ 48 17 ∧ σ 48 17 < 100 ∧
    ∀ σ21 : fb_St, σ21 = fb_up σ 61 (σ 48 17) x4 →
    0 ≤ σ21 48 17 ∧ σ21 48 17 < 100 ∧
    ∀ σ25 : fb_St, σ25 = fb_up σ21 62 (σ21 48 17) x5 →
    0 ≤ σ25 48 17 ∧ σ25 48 17 < 100 ∧
    ∀ σ29 : fb_St, σ29 = fb_up σ25 63 (σ25 48 17) x6 →
    wp_X7_pourOne x4 x5 σ29 (fun a31 σ31 =>
      0 ≤ σ29 48 17 ∧ σ29 48 17 < 100 ∧
      ∀ σ34 : fb_St, σ34 = fb_up σ31 64 (σ29 48 17) a31 →
      fb_in ((σ34 48 17) + 1) ∧
      ∀ σ37 : fb_St, σ37 = fb_up σ34 48 17 ((σ34 48 17) + 1) →
      wj_X7_pour_226 r38 Q x1 x2 s0 σ37))
def wb_X7_pour_57 (r38 : Int → Int → Int → fb_St → Prop) (r57 : Int → Int → Int → Int → Int → Int → fb_St → Prop) (Q : Int → fb_St → Prop) (x1 x2 x4 x5 x6 x7 : Int) (σ : fb_St) : Prop :=
  (x7 < 100 →
    wp_X7_dotsOf 60 x7 σ (fun a14 σ14 =>
      (0 < a14 →
        wp_X7_wayOut x7 σ14 (fun a16 σ16 =>
          wj_X7_pour_88 r38 r57 Q x1 x2 x4 x5 x6 x7 a16 σ16)) ∧
      (¬ 0 < a14 →
        wj_X7_pour_88 r38 r57 Q x1 x2 x4 x5 x6 x7 (-6) σ14))) ∧
  (¬ x7 < 100 →
    (x4 < 0 →
      wj_X7_pour_161 r38 Q x1 x2 x4 x5 x6 0 σ) ∧
    (¬ x4 < 0 →
      wj_X7_pour_161 r38 Q x1 x2 x4 x5 x6 1 σ))
def wl_X7_pour_57 (r38 : Int → Int → Int → fb_St → Prop) (Q : Int → fb_St → Prop) : Nat → Int → Int → Int → Int → Int → Int → fb_St → Prop := fb_Lp (fun _ _ _ _ _ _ _ => False) (fun r => wb_X7_pour_57 r38 r Q)
def wb_X7_pour_38 (r38 : Int → Int → Int → fb_St → Prop) (Q : Int → fb_St → Prop) (x1 x2 x3 : Int) (σ : fb_St) : Prop :=
  (x3 = 0 →
    Q 0 σ) ∧
  (¬ x3 = 0 →
    ∃ n, wl_X7_pour_57 r38 Q n x1 x2 (-6) (-6) (-6) 1 σ)
def wl_X7_pour_38 (Q : Int → fb_St → Prop) : Nat → Int → Int → Int → fb_St → Prop := fb_Lp (fun _ _ _ _ => False) (fun r => wb_X7_pour_38 r Q)
def wb_X7_pour_6 (r6 : Int → Int → Int → fb_St → Prop) (Q : Int → fb_St → Prop) (x1 x2 x3 : Int) (σ : fb_St) : Prop :=
  (x3 < 144 →
    0 ≤ x3 ∧ x3 < 144 ∧
    0 ≤ x3 ∧ x3 < 144 ∧
    ∀ σ9 : fb_St, σ9 = fb_up σ 60 x3 (σ 55 x3) →
    fb_in (x3 + 1) ∧
    r6 x1 x2 (x3 + 1) σ9) ∧
  (¬ x3 < 144 →
    ∀ σ3 : fb_St, σ3 = fb_up σ 48 17 0 →
    ∃ n, wl_X7_pour_38 Q n x1 x2 1 σ3)
def wl_X7_pour_6 (Q : Int → fb_St → Prop) : Nat → Int → Int → Int → fb_St → Prop := fb_Lp (fun _ _ _ _ => False) (fun r => wb_X7_pour_6 r Q)
def wp_X7_pour (x1 x2 : Int) (σ : fb_St) (Q : Int → fb_St → Prop) : Prop :=
  wp_X7_flood σ (fun _ σ1 =>
    ∃ n, wl_X7_pour_6 Q n x1 x2 0 σ1)
def rm_X7_pourAsTold : Room := { frames := 7, cells := 0, slots := 0, locals := 170 }
def wp_X7_pourAsTold (σ : fb_St) (Q : Int → fb_St → Prop) : Prop :=
  wp_X7_pour (σ 49 290) (σ 49 291) σ (fun _ σ3 =>
    Q 0 σ3)
def rm_X7_dot : Room := { frames := 8, cells := 0, slots := 0, locals := 190 }
def wj_X7_dot_18 (Q : Int → fb_St → Prop) (σ : fb_St) : Prop :=
  Q (-2) σ
def wp_X7_dot (x1 x2 x3 : Int) (σ : fb_St) (Q : Int → fb_St → Prop) : Prop :=
  wp_X7_isDot x1 x2 σ (fun a1 σ1 =>
    (a1 = 0 →
      wj_X7_dot_18 Q σ1) ∧
    (¬ a1 = 0 →
      wp_X7_in x3 0 5 σ1 (fun a3 σ3 =>
        (a3 = 0 →
          wj_X7_dot_18 Q σ3) ∧
        (¬ a3 = 0 →
          wp_X7_at x1 x2 σ3 (fun a5 σ5 =>
            wp_X7_pourAsTold σ5 (fun _ σ6 =>
              (x3 = 0 →
                0 ≤ a5 ∧ a5 < 292 ∧
                Q (σ6 49 a5) σ6) ∧
              (x3 = 1 →
                fb_in (144 + a5) ∧
                0 ≤ 144 + a5 ∧ 144 + a5 < 292 ∧
                Q (σ6 49 (144 + a5)) σ6) ∧
              (x3 = 2 →
                0 ≤ a5 ∧ a5 < 144 ∧
                Q (σ6 55 a5) σ6) ∧
              (x3 = 3 →
                0 ≤ a5 ∧ a5 < 144 ∧
                Q (σ6 56 a5) σ6) ∧
              (x3 = 4 →
                0 ≤ a5 ∧ a5 < 144 ∧
                Q (σ6 57 a5) σ6) ∧
              (x3 < 0 ∨ 4 < x3 →
                0 ≤ a5 ∧ a5 < 144 ∧
                Q (σ6 60 a5) σ6)))))))
def rm_X7_bound : Room := { frames := 8, cells := 0, slots := 0, locals := 190 }
def wj_X7_bound_20 (Q : Int → fb_St → Prop) (σ : fb_St) : Prop :=
  Q (-2) σ
def wp_X7_bound (x1 x2 : Int) (σ : fb_St) (Q : Int → fb_St → Prop) : Prop :=
  wp_X7_in x1 0 2 σ (fun a1 σ1 =>
    (a1 = 0 →
      wj_X7_bound_20 Q σ1) ∧
    (¬ a1 = 0 →
      wp_X7_in x2 0 2000 σ1 (fun a3 σ3 =>
        (a3 = 0 →
          wj_X7_bound_20 Q σ3) ∧
        (¬ a3 = 0 →
          ∀ σ5 : fb_St, σ5 = fb_up σ3 49 290 x1 →
          ∀ σ6 : fb_St, σ6 = fb_up σ5 49 291 x2 →
          wp_X7_pourAsTold σ6 (fun _ σ7 =>
            Q (σ7 48 17) σ7)))))
def rm_X7_isBasin : Room := { frames := 2, cells := 0, slots := 0, locals := 44 }
def wj_X7_isBasin_27 (Q : Int → fb_St → Prop) (s0 : Int) (σ : fb_St) : Prop :=
  fb_B (s0) ∧ Q s0 σ
def wj_X7_isBasin_26 (Q : Int → fb_St → Prop) (σ : fb_St) : Prop :=
  wj_X7_isBasin_27 Q 0 σ
def wp_X7_isBasin (x1 : Int) (σ : fb_St) (Q : Int → fb_St → Prop) : Prop :=
  wp_X7_in x1 1 99 σ (fun a1 σ1 =>
    (a1 = 0 →
      wj_X7_isBasin_26 Q σ1) ∧
    (¬ a1 = 0 →
      wp_X7_dotsOf 60 x1 σ1 (fun a3 σ3 =>
        (0 < a3 →
          wj_X7_isBasin_27 Q 1 σ3) ∧
        (¬ 0 < a3 →
          wj_X7_isBasin_26 Q σ3))))
def rm_X7_basin : Room := { frames := 8, cells := 0, slots := 0, locals := 190 }
def wj_X7_basin_89 (Q : Int → fb_St → Prop) (s0 : Int) (σ : fb_St) : Prop :=
  Q s0 σ
def wj_X7_basin_47 (Q : Int → fb_St → Prop) (x1 x2 x3 s0 : Int) (σ : fb_St) : Prop :=
  (x2 < 3 →
    wp_X7_sizeOf x1 x2 s0 σ (fun a15 σ15 =>
      wj_X7_basin_89 Q a15 σ15)) ∧
  (¬ x2 < 3 →
    (x2 = 3 →
      wp_X7_leastHeight x1 σ (fun a14 σ14 =>
        wj_X7_basin_89 Q a14 σ14)) ∧
    (¬ x2 = 3 →
      (x2 = 4 →
        wj_X7_basin_89 Q s0 σ) ∧
      (¬ x2 = 4 →
        wj_X7_basin_89 Q x3 σ)))
def wp_X7_basin (x1 x2 : Int) (σ : fb_St) (Q : Int → fb_St → Prop) : Prop :=
  wp_X7_pourAsTold σ (fun _ σ1 =>
    wp_X7_isBasin x1 σ1 (fun a2 σ2 =>
      (a2 = 0 →
        Q (-1) σ2) ∧
      (¬ a2 = 0 →
        wp_X7_in x2 0 5 σ2 (fun a4 σ4 =>
          (a4 = 0 →
            Q (-2) σ4) ∧
          (¬ a4 = 0 →
            wp_X7_wayOut x1 σ4 (fun a6 σ6 =>
              (a6 < 0 →
                wj_X7_basin_47 Q x1 x2 a6 (-6) σ6) ∧
              (¬ a6 < 0 →
                0 ≤ a6 ∧ a6 < 100 ∧
                wj_X7_basin_47 Q x1 x2 a6 (σ6 65 a6) σ6)))))))
def rm_X7_pass : Room := { frames := 8, cells := 0, slots := 0, locals := 190 }
def wj_X7_pass_20 (Q : Int → fb_St → Prop) (σ : fb_St) : Prop :=
  Q (-1) σ
def wj_X7_pass_38 (Q : Int → fb_St → Prop) (s0 : Int) (σ : fb_St) : Prop :=
  Q s0 σ
def wp_X7_pass (x1 x2 : Int) (σ : fb_St) (Q : Int → fb_St → Prop) : Prop :=
  wp_X7_pourAsTold σ (fun _ σ1 =>
    wp_X7_isBasin x1 σ1 (fun a2 σ2 =>
      (a2 = 0 →
        wj_X7_pass_20 Q σ2) ∧
      (¬ a2 = 0 →
        wp_X7_isBasin x2 σ2 (fun a4 σ4 =>
          (a4 = 0 →
            wj_X7_pass_20 Q σ4) ∧
          (¬ a4 = 0 →
            (x1 = x2 →
              wj_X7_pass_38 Q (-2) σ4) ∧
            (¬ x1 = x2 →
              wp_X7_passOf x1 x2 σ4 (fun a7 σ7 =>
                wj_X7_pass_38 Q a7 σ7)))))))
def rm_X7_told : Room := { frames := 1, cells := 0, slots := 0, locals := 22 }
def wj_X7_told_64 (Q : Int → fb_St → Prop) (s0 : Int) (σ : fb_St) : Prop :=
  Q s0 σ
def wp_X7_told (x1 x2 : Int) (σ : fb_St) (Q : Int → fb_St → Prop) : Prop :=
  fb_in ((σ 48 17) - 1) ∧
  wp_X7_in x1 0 ((σ 48 17) - 1) σ (fun a3 σ3 =>
    (a3 = 0 →
      Q (-6) σ3) ∧
    (¬ a3 = 0 →
      (x2 = 0 →
        0 ≤ x1 ∧ x1 < 100 ∧
        wj_X7_told_64 Q (σ3 61 x1) σ3) ∧
      (¬ x2 = 0 →
        (x2 = 1 →
          0 ≤ x1 ∧ x1 < 100 ∧
          wj_X7_told_64 Q (σ3 62 x1) σ3) ∧
        (¬ x2 = 1 →
          (x2 = 2 →
            0 ≤ x1 ∧ x1 < 100 ∧
            wj_X7_told_64 Q (σ3 63 x1) σ3) ∧
          (¬ x2 = 2 →
            0 ≤ x1 ∧ x1 < 100 ∧
            wj_X7_told_64 Q (σ3 64 x1) σ3)))))
def rm_X7_poured : Room := { frames := 8, cells := 0, slots := 0, locals := 190 }
def wp_X7_poured (x1 x2 : Int) (σ : fb_St) (Q : Int → fb_St → Prop) : Prop :=
  wp_X7_in x2 0 3 σ (fun a1 σ1 =>
    (a1 = 0 →
      Q (-2) σ1) ∧
    (¬ a1 = 0 →
      wp_X7_pourAsTold σ1 (fun _ σ3 =>
        wp_X7_told x1 x2 σ3 (fun a4 σ4 =>
          Q a4 σ4))))
def rm_X7_tree : Room := { frames := 7, cells := 0, slots := 0, locals := 170 }
def wp_X7_tree (x1 x2 : Int) (σ : fb_St) (Q : Int → fb_St → Prop) : Prop :=
  wp_X7_in x2 0 3 σ (fun a1 σ1 =>
    (a1 = 0 →
      Q (-2) σ1) ∧
    (¬ a1 = 0 →
      wp_X7_pour 0 (-6) σ1 (fun _ σ3 =>
        wp_X7_told x1 x2 σ3 (fun a4 σ4 =>
          Q a4 σ4))))
def rm_X7_over : Room := { frames := 4, cells := 0, slots := 0, locals := 95 }
def wj_X7_over_19 (Q : Int → fb_St → Prop) (σ : fb_St) : Prop :=
  Q (-2) σ
def wb_X7_over_68 (r68 : Int → Int → Int → fb_St → Prop) (Q : Int → fb_St → Prop) (x5 x6 x7 : Int) (σ : fb_St) : Prop :=
  0 ≤ x6 ∧ x6 < 144 ∧
  (σ 54 x6 = 0 →
    fb_in (x7 + 1) ∧
    wp_X7_spread x5 (x7 + 1) 0 σ (fun a20 σ20 =>
      r68 x5 x6 (x7 + 1) σ20)) ∧
  (¬ σ 54 x6 = 0 →
    Q x7 σ)
def wl_X7_over_68 (Q : Int → fb_St → Prop) : Nat → Int → Int → Int → fb_St → Prop := fb_Lp (fun _ _ _ _ => False) (fun r => wb_X7_over_68 r Q)
def wp_X7_over (x1 x2 x3 x4 : Int) (σ : fb_St) (Q : Int → fb_St → Prop) : Prop :=
  wp_X7_isDot x1 x2 σ (fun a1 σ1 =>
    (a1 = 0 →
      wj_X7_over_19 Q σ1) ∧
    (¬ a1 = 0 →
      wp_X7_isDot x3 x4 σ1 (fun a3 σ3 =>
        (a3 = 0 →
          wj_X7_over_19 Q σ3) ∧
        (¬ a3 = 0 →
          wp_X7_at x1 x2 σ3 (fun a5 σ5 =>
            wp_X7_at x3 x4 σ5 (fun a6 σ6 =>
              0 ≤ a5 ∧ a5 < 292 ∧
              0 ≤ a6 ∧ a6 < 292 ∧
              wp_X7_greater (σ6 49 a5) (σ6 49 a6) σ6 (fun a13 σ13 =>
                wp_X7_spread a5 a13 0 σ13 (fun a14 σ14 =>
                  ∃ n, wl_X7_over_68 Q n a5 a6 a13 σ14))))))))
def rm_X7_wet : Room := { frames := 4, cells := 0, slots := 0, locals := 95 }
def wj_X7_wet_29 (Q : Int → fb_St → Prop) (σ : fb_St) : Prop :=
  Q (-2) σ
def wj_X7_wet_63 (Q : Int → fb_St → Prop) (s0 : Int) (σ : fb_St) : Prop :=
  Q s0 σ
def wj_X7_wet_137 (Q : Int → fb_St → Prop) (s0 : Int) (σ : fb_St) : Prop :=
  Q s0 σ
def wb_X7_wet_93 (r93 : Int → Int → Int → Int → Int → fb_St → Prop) (Q : Int → fb_St → Prop) (x3 x4 x6 x7 x8 : Int) (σ : fb_St) : Prop :=
  (x8 < x6 →
    0 ≤ x8 ∧ x8 < 144 ∧
    0 ≤ σ 53 x8 ∧ σ 53 x8 < 292 ∧
    fb_in (x3 - (σ 49 (σ 53 x8))) ∧
    fb_in (x7 + (x3 - (σ 49 (σ 53 x8)))) ∧
    ∀ v26 : Int, v26 = x7 + (x3 - (σ 49 (σ 53 x8))) →
    fb_in (x8 + 1) ∧
    r93 x3 x4 x6 v26 (x8 + 1) σ) ∧
  (¬ x8 < x6 →
    (x4 = 0 →
      wj_X7_wet_137 Q x6 σ) ∧
    (¬ x4 = 0 →
      wj_X7_wet_137 Q x7 σ))
def wl_X7_wet_93 (Q : Int → fb_St → Prop) : Nat → Int → Int → Int → Int → Int → fb_St → Prop := fb_Lp (fun _ _ _ _ _ _ => False) (fun r => wb_X7_wet_93 r Q)
def wp_X7_wet (x1 x2 x3 x4 : Int) (σ : fb_St) (Q : Int → fb_St → Prop) : Prop :=
  wp_X7_isDot x1 x2 σ (fun a1 σ1 =>
    (a1 = 0 →
      wj_X7_wet_29 Q σ1) ∧
    (¬ a1 = 0 →
      wp_X7_in x3 0 99 σ1 (fun a3 σ3 =>
        (a3 = 0 →
          wj_X7_wet_29 Q σ3) ∧
        (¬ a3 = 0 →
          wp_X7_in x4 0 2 σ3 (fun a5 σ5 =>
            (a5 = 0 →
              wj_X7_wet_29 Q σ5) ∧
            (¬ a5 = 0 →
              wp_X7_at x1 x2 σ5 (fun a7 σ7 =>
                0 ≤ a7 ∧ a7 < 292 ∧
                (x3 < σ7 49 a7 →
                  (x4 = 2 →
                    wj_X7_wet_63 Q (-6) σ7) ∧
                  (¬ x4 = 2 →
                    wj_X7_wet_63 Q 0 σ7)) ∧
                (¬ x3 < σ7 49 a7 →
                  wp_X7_spread a7 x3 0 σ7 (fun a12 σ12 =>
                    (x4 = 2 →
                      wp_X7_leastBeside a12 σ12 (fun a14 σ14 =>
                        Q a14 σ14)) ∧
                    (¬ x4 = 2 →
                      ∃ n, wl_X7_wet_93 Q n x3 x4 a12 0 0 σ12))))))))))
def rm_X7_basins : Room := { frames := 2, cells := 0, slots := 0, locals := 44 }
def wj_X7_basins_25 (oo : Nat) (r4 : Int → Int → fb_St → Prop) (Q : Int → fb_St → Prop) (x3 s0 s1 : Int) (σ : fb_St) : Prop :=
  fb_in (s1 + s0) ∧
  ∀ v5 : Int, v5 = s1 + s0 →
  fb_in (x3 + 1) ∧
  r4 v5 (x3 + 1) σ
def wb_X7_basins_4 (oo : Nat) (r4 : Int → Int → fb_St → Prop) (Q : Int → fb_St → Prop) (x2 x3 : Int) (σ : fb_St) : Prop :=
  (x3 < 100 →
    wp_X7_dotsOf oo x3 σ (fun a2 σ2 =>
      (0 < a2 →
        wj_X7_basins_25 oo r4 Q x3 1 x2 σ2) ∧
      (¬ 0 < a2 →
        wj_X7_basins_25 oo r4 Q x3 0 x2 σ2))) ∧
  (¬ x3 < 100 →
    Q x2 σ)
def wl_X7_basins_4 (oo : Nat) (Q : Int → fb_St → Prop) : Nat → Int → Int → fb_St → Prop := fb_Lp (fun _ _ _ => False) (fun r => wb_X7_basins_4 oo r Q)
def wp_X7_basins (oo : Nat) (σ : fb_St) (Q : Int → fb_St → Prop) : Prop :=
  ∃ n, wl_X7_basins_4 oo Q n 0 1 σ
def rm_X7_greatestLevel : Room := { frames := 1, cells := 0, slots := 0, locals := 21 }
def wb_X7_greatestLevel_5 (r5 : Int → Int → fb_St → Prop) (Q : Int → fb_St → Prop) (x1 x2 : Int) (σ : fb_St) : Prop :=
  wp_X7_dots σ (fun a1 σ1 =>
    (x2 < a1 →
      0 ≤ x2 ∧ x2 < 144 ∧
      wp_X7_greater x1 (σ1 56 x2) σ1 (fun a6 σ6 =>
        fb_in (x2 + 1) ∧
        r5 a6 (x2 + 1) σ6)) ∧
    (¬ x2 < a1 →
      Q x1 σ1))
def wl_X7_greatestLevel_5 (Q : Int → fb_St → Prop) : Nat → Int → Int → fb_St → Prop := fb_Lp (fun _ _ _ => False) (fun r => wb_X7_greatestLevel_5 r Q)
def wp_X7_greatestLevel (σ : fb_St) (Q : Int → fb_St → Prop) : Prop :=
  ∃ n, wl_X7_greatestLevel_5 Q n (-6) 0 σ
def rm_X7_treeSize : Room := { frames := 7, cells := 0, slots := 0, locals := 170 }
def wp_X7_treeSize (σ : fb_St) (Q : Int → fb_St → Prop) : Prop :=
  wp_X7_pour 0 (-6) σ (fun _ σ1 =>
    Q (σ1 48 17) σ1)
def rm_X7_marked : Room := { frames := 1, cells := 0, slots := 0, locals := 20 }
def wj_X7_marked_31 (r4 : Int → Int → fb_St → Prop) (Q : Int → fb_St → Prop) (x2 s0 s1 : Int) (σ : fb_St) : Prop :=
  fb_in (s1 + s0) ∧
  ∀ v9 : Int, v9 = s1 + s0 →
  fb_in (x2 + 1) ∧
  r4 v9 (x2 + 1) σ
def wb_X7_marked_4 (r4 : Int → Int → fb_St → Prop) (Q : Int → fb_St → Prop) (x1 x2 : Int) (σ : fb_St) : Prop :=
  wp_X7_dots σ (fun a1 σ1 =>
    (x2 < a1 →
      fb_in (144 + x2) ∧
      0 ≤ 144 + x2 ∧ 144 + x2 < 292 ∧
      (0 < σ1 49 (144 + x2) →
        wj_X7_marked_31 r4 Q x2 1 x1 σ1) ∧
      (¬ 0 < σ1 49 (144 + x2) →
        wj_X7_marked_31 r4 Q x2 0 x1 σ1)) ∧
    (¬ x2 < a1 →
      Q x1 σ1))
def wl_X7_marked_4 (Q : Int → fb_St → Prop) : Nat → Int → Int → fb_St → Prop := fb_Lp (fun _ _ _ => False) (fun r => wb_X7_marked_4 r Q)
def wp_X7_marked (σ : fb_St) (Q : Int → fb_St → Prop) : Prop :=
  ∃ n, wl_X7_marked_4 Q n 0 0 σ
def rm_X7_count : Room := { frames := 8, cells := 0, slots := 0, locals := 190 }
def wj_X7_count_194 (Q : Int → fb_St → Prop) (s0 s1 : Int) (σ : fb_St) : Prop :=
  fb_in (s1 + s0) ∧
  Q (s1 + s0) σ
def wj_X7_count_180 (Q : Int → fb_St → Prop) (s0 : Int) (σ : fb_St) : Prop :=
  (σ 51 1 = 0 →
    wj_X7_count_194 Q 0 s0 σ) ∧
  (¬ σ 51 1 = 0 →
    wj_X7_count_194 Q 2 s0 σ)
def wp_X7_count (x1 : Int) (σ : fb_St) (Q : Int → fb_St → Prop) : Prop :=
  wp_X7_pourAsTold σ (fun _ σ1 =>
    (x1 = 0 →
      Q (σ1 49 288) σ1) ∧
    (x1 = 1 →
      Q (σ1 49 289) σ1) ∧
    (x1 = 2 →
      wp_X7_layPits σ1 (fun a7 σ7 =>
        Q a7 σ7)) ∧
    (x1 = 3 →
      wp_X7_marked σ1 (fun a9 σ9 =>
        Q a9 σ9)) ∧
    (x1 = 4 →
      wp_X7_basins 55 σ1 (fun a11 σ11 =>
        Q a11 σ11)) ∧
    (x1 = 5 →
      wp_X7_basins 60 σ1 (fun a13 σ13 =>
        Q a13 σ13)) ∧
    (x1 = 6 →
      wp_X7_dotsOf 55 0 σ1 (fun a15 σ15 =>
        Q a15 σ15)) ∧
    (x1 = 7 →
      wp_X7_dotsOf 60 0 σ1 (fun a17 σ17 =>
        Q a17 σ17)) ∧
    (x1 = 8 →
      wp_X7_greatestLevel σ1 (fun a19 σ19 =>
        Q a19 σ19)) ∧
    (x1 = 9 →
      Q (σ1 49 290) σ1) ∧
    (x1 = 10 →
      Q (σ1 49 291) σ1) ∧
    (x1 = 11 →
      wp_X7_treeSize σ1 (fun a25 σ25 =>
        Q a25 σ25)) ∧
    (x1 = 12 →
      (σ1 51 0 = 0 →
        wj_X7_count_180 Q 0 σ1) ∧
      (¬ σ1 51 0 = 0 →
        wj_X7_count_180 Q 1 σ1)) ∧
    (x1 < 0 ∨ 12 < x1 →
      Q (-2) σ1))
def rm_X7_image : Room := { frames := 1, cells := 0, slots := 0, locals := 22 }
def wb_X7_image_14 (r14 : Int → Int → fb_St → Prop) (Q : Int → fb_St → Prop) (x1 x2 : Int) (σ : fb_St) : Prop :=
  (x2 < 292 →
    fb_in (292 * x1) ∧
    fb_in ((292 * x1) + x2) ∧
    0 ≤ x2 ∧ x2 < 292 ∧
    0 ≤ (292 * x1) + x2 ∧ (292 * x1) + x2 < 584 ∧
    ∀ σ14 : fb_St, σ14 = fb_up σ 50 ((292 * x1) + x2) (σ 49 x2) →
    fb_in (x2 + 1) ∧
    r14 x1 (x2 + 1) σ14) ∧
  (¬ x2 < 292 →
    0 ≤ x1 ∧ x1 < 2 ∧
    ∀ σ6 : fb_St, σ6 = fb_up σ 51 x1 1 →
    Q 1 σ6)
def wl_X7_image_14 (Q : Int → fb_St → Prop) : Nat → Int → Int → fb_St → Prop := fb_Lp (fun _ _ _ => False) (fun r => wb_X7_image_14 r Q)
def wp_X7_image (x1 : Int) (σ : fb_St) (Q : Int → fb_St → Prop) : Prop :=
  wp_X7_in x1 0 1 σ (fun a1 σ1 =>
    (a1 = 0 →
      Q (-2) σ1) ∧
    (¬ a1 = 0 →
      ∃ n, wl_X7_image_14 Q n x1 0 σ1))
def rm_X7_restore : Room := { frames := 1, cells := 0, slots := 0, locals := 22 }
def wb_X7_restore_26 (r26 : Int → Int → fb_St → Prop) (Q : Int → fb_St → Prop) (x1 x2 : Int) (σ : fb_St) : Prop :=
  (x2 < 292 →
    fb_in (292 * x1) ∧
    fb_in ((292 * x1) + x2) ∧
    0 ≤ (292 * x1) + x2 ∧ (292 * x1) + x2 < 584 ∧
    0 ≤ x2 ∧ x2 < 292 ∧
    ∀ σ15 : fb_St, σ15 = fb_up σ 49 x2 (σ 50 ((292 * x1) + x2)) →
    fb_in (x2 + 1) ∧
    r26 x1 (x2 + 1) σ15) ∧
  (¬ x2 < 292 →
    Q 1 σ)
def wl_X7_restore_26 (Q : Int → fb_St → Prop) : Nat → Int → Int → fb_St → Prop := fb_Lp (fun _ _ _ => False) (fun r => wb_X7_restore_26 r Q)
def wp_X7_restore (x1 : Int) (σ : fb_St) (Q : Int → fb_St → Prop) : Prop :=
  wp_X7_in x1 0 1 σ (fun a1 σ1 =>
    (a1 = 0 →
      Q (-2) σ1) ∧
    (¬ a1 = 0 →
      0 ≤ x1 ∧ x1 < 2 ∧
      (σ1 51 x1 = 0 →
        Q (-3) σ1) ∧
      (¬ σ1 51 x1 = 0 →
        ∃ n, wl_X7_restore_26 Q n x1 0 σ1)))
