/-! ===== the law's start ===== -/
theorem lw_D {b : Nat} {s : State} (hts : ∀ w ∈ lw_tbl, w.before #[Value.ref b] s = true) : ∃ D : fb_D0, va_K D.1 vwCl (fb_ty0 D) s := by
  have htb : ∀ w ∈ fb_tb, w.before #[Value.ref b] s = true := fun w hw => hts w (fb_sub w hw)
  obtain ⟨c0, iS0, hKn0⟩ := u_known (C := RX0) (T := TX0) (N := 5) (n := 5) htb fb_u0 (htb _ mi_tm_X0)
  obtain ⟨c1, iS1, hKn1⟩ := u_known (C := RX1) (T := TX1) (N := 7) (n := 7) htb fb_u1 (htb _ mi_tm_X1)
  obtain ⟨c2, iS2, hKn2⟩ := u_known (C := RX2) (T := TX2) (N := 4) (n := 4) htb fb_u2 (htb _ mi_tm_X2)
  obtain ⟨c3, iS3, hKn3⟩ := u_known (C := RX3) (T := TX3) (N := 12) (n := 12) htb fb_u3 (htb _ mi_tm_X3)
  obtain ⟨c4, iS4, hKn4⟩ := u_known (C := RX4) (T := TX4) (N := 3) (n := 3) htb fb_u4 (htb _ mi_tm_X4)
  obtain ⟨c5, iS5, hKn5⟩ := u_known (C := RX5) (T := TX5) (N := 6) (n := 6) htb fb_u5 (htb _ mi_tm_X5)
  obtain ⟨c6, iS6, hKn6⟩ := u_known (C := RX6) (T := TX6) (N := 11) (n := 11) htb fb_u6 (htb _ mi_tm_X6)
  obtain ⟨c7, iS7, hKn7⟩ := u_known (C := RX7) (T := TX7) (N := 20) (n := 20) htb fb_u7 (htb _ mi_tm_X7)
  obtain ⟨dC, dI, hKc⟩ : ∃ (dC : Nat → ClassId) (dI : Nat → Nat → Nat), ∀ (k : Nat) (q : vw_C), vwCl[k]? = some q → u_Kn s q.1 q.2.1 q.2.2 (dC k) (dI k) := by
    refine ⟨fun k => match k with | 0 => c0 | 1 => c1 | 2 => c2 | 3 => c3 | 4 => c4 | 5 => c5 | 6 => c6 | _ => c7, fun k => match k with | 0 => iS0 | 1 => iS1 | 2 => iS2 | 3 => iS3 | 4 => iS4 | 5 => iS5 | 6 => iS6 | _ => iS7, ?_⟩
    intro k q hq
    match k, hq with
    | 0, hq => cases hq; exact hKn0
    | 1, hq => cases hq; exact hKn1
    | 2, hq => cases hq; exact hKn2
    | 3, hq => cases hq; exact hKn3
    | 4, hq => cases hq; exact hKn4
    | 5, hq => cases hq; exact hKn5
    | 6, hq => cases hq; exact hKn6
    | 7, hq => cases hq; exact hKn7
    | k + 8, hq => simp [vwCl] at hq
  obtain ⟨cI, aI, rI⟩ := fb_tyof (t := .int) (fun C h => by cases h) (htb _ ma_int)
  obtain ⟨cZ, aZ, rZ⟩ := fb_tyof (t := .boolean) (fun C h => by cases h) (htb _ ma_bool)
  have hover : (Cond.arrayOver (.object "FloodBasins$Image")).before #[Value.ref b] s = true := hts _ (List.mem_of_getElem? (i := 219) (by decide +kernel))
  obtain ⟨cQ, aQ, rQ⟩ := fb_tyoq hover
  refine ⟨((dC, dI), cI, cZ, cQ), hKc, fun k q hq => ?_⟩
  match k, hq with
  | 0, hq => cases hq; exact ⟨aI, rI⟩
  | 1, hq => cases hq; exact ⟨aZ, rZ⟩
  | 2, hq => cases hq; exact ⟨aQ, rQ⟩
  | k + 3, hq => simp at hq
theorem lw_NN {b : Nat} {s : State} (hts : ∀ w ∈ lw_tbl, w.before #[Value.ref b] s = true) : fb_NN s := by
  have hover : (Cond.arrayOver (.object "FloodBasins$Image")).before #[Value.ref b] s = true := hts _ (List.mem_of_getElem? (i := 219) (by decide +kernel))
  exact ⟨⟨va_Nw.of rfl (hts (.methodLinkNest RX6 9 yX5_init RX6) (List.mem_of_getElem? (i := 69) (by decide +kernel))), va_Nw.of rfl (hts (.methodLinkNest RX6 18 yX4_init RX6) (List.mem_of_getElem? (i := 111) (by decide +kernel))), va_Nw.of rfl (hts (.methodLinkNest RX6 25 yX0_init RX6) (List.mem_of_getElem? (i := 128) (by decide +kernel))), va_Nw.of rfl (hts (.methodLinkNest RX6 32 yX3_init RX6) (List.mem_of_getElem? (i := 172) (by decide +kernel))), va_Nw.of rfl (hts (.methodLinkNest RX6 42 yX1_init RX6) (List.mem_of_getElem? (i := 221) (by decide +kernel))), va_Nw.of rfl (hts (.methodLinkNest RX0 26 yX2_init RX6) (List.mem_of_getElem? (i := 134) (by decide +kernel)))⟩, ⟨va_Nw.of rfl (hts (.methodLinkNest RX5 41 yX6_within RX6) (List.mem_of_getElem? (i := 258) (by decide +kernel))), va_Nw.of rfl (hts (.methodLinkNest RX4 41 yX6_within RX6) (List.mem_of_getElem? (i := 336) (by decide +kernel))), va_Nw.of rfl (hts (.methodLinkNest RX3 71 yX6_within RX6) (List.mem_of_getElem? (i := 501) (by decide +kernel)))⟩, va_AO.of hover⟩
