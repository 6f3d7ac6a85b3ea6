/-! ===== the numbers: a machine int is a whole number in range ===== -/
abbrev fb_St : Type := Nat → Int → Int
abbrev fb_in (x : Int) : Prop := -2147483648 ≤ x ∧ x ≤ 2147483647
abbrev fb_B (x : Int) : Prop := x = 0 ∨ x = 1
def fb_I (x : Int) : Int32 := Int32.ofInt x
abbrev fb_G : Type := va_G × (Nat → Nat) × ClassId × ClassId × ClassId × Nat
abbrev fb_ad (G : fb_G) (k : Nat) : Nat := G.2.1 k
theorem fb_I_toInt {x : Int} (h : fb_in x) : (fb_I x).toInt = x := Int32.toInt_ofInt_of_le (by have := h.1; omega) (by have := h.2; omega)
theorem fb_of (x : Int32) : fb_I x.toInt = x := Int32.ofInt_toInt x
theorem fb_in_toInt (x : Int32) : fb_in x.toInt := ⟨by have := Int32.le_toInt x; omega, by have := Int32.toInt_lt x; omega⟩
theorem fb_I_add (a b : Int) : fb_I a + fb_I b = fb_I (a + b) := by
  apply Int32.toBitVec_inj.mp
  simp [fb_I, BitVec.ofInt_add]
theorem fb_I_mul (a b : Int) : fb_I a * fb_I b = fb_I (a * b) := by
  apply Int32.toBitVec_inj.mp
  simp [fb_I, BitVec.ofInt_mul]
theorem fb_I_neg (a : Int) : - fb_I a = fb_I (- a) := Int32.neg_ofInt
theorem fb_I_sub (a b : Int) : fb_I a - fb_I b = fb_I (a - b) := by
  rw [Int32.sub_eq_add_neg, fb_I_neg, fb_I_add, Int.sub_eq_add_neg]
theorem fb_I_lt {a b : Int} (ha : fb_in a) (hb : fb_in b) : fb_I a < fb_I b ↔ a < b := by
  rw [Int32.lt_iff_toInt_lt, fb_I_toInt ha, fb_I_toInt hb]
theorem fb_I_le {a b : Int} (ha : fb_in a) (hb : fb_in b) : fb_I a ≤ fb_I b ↔ a ≤ b := by
  rw [Int32.le_iff_toInt_le, fb_I_toInt ha, fb_I_toInt hb]
theorem fb_I_eq {a b : Int} (ha : fb_in a) (hb : fb_in b) : fb_I a = fb_I b ↔ a = b := by
  rw [← Int32.toInt_inj, fb_I_toInt ha, fb_I_toInt hb]
theorem fb_I_nat {a : Int} (h0 : 0 ≤ a) (h : a < 2147483648) : (fb_I a).toNatClampNeg = a.toNat :=
  Int32.toNatClampNeg_ofInt_of_le (by omega) (by omega)
theorem fb_I_ix {a : Int} {n : Nat} (h0 : 0 ≤ a) (h : a < n) (hn : n < 2147483648) : vp_in (fb_I a) n := by
  rw [vp_in_iff, fb_I_toInt ⟨by omega, by omega⟩]
  exact ⟨h0, h⟩
theorem fb_I_0 : (0 : Int32) = fb_I 0 := by decide
theorem fb_in0 : fb_in 0 := by decide
theorem fb_I_ofNat (n : Nat) : Int32.ofNat n = fb_I n := (Int32.ofInt_eq_ofNat).symm
theorem fb_I_div {a b : Int} (ha : 0 ≤ a) (hb : 0 < b) (ia : fb_in a) (ib : fb_in b) : fb_I a / fb_I b = fb_I (a / b) := by
  obtain ⟨n, rfl⟩ := Int.eq_ofNat_of_zero_le ha
  obtain ⟨d, rfl⟩ := Int.eq_ofNat_of_zero_le (Int.le_of_lt hb)
  have h1 := pk_div (a := n) (d := d) (by omega) (by omega) (by omega)
  rw [← fb_I_ofNat, ← fb_I_ofNat]
  refine h1.trans ?_
  rw [show ((n : Int) / (d : Int)) = ((n / d : Nat) : Int) from rfl]
  exact fb_I_ofNat (n / d)
theorem fb_I_rem {a b : Int} (ha : 0 ≤ a) (hb : 0 < b) (ia : fb_in a) (ib : fb_in b) : fb_I a - fb_I a / fb_I b * fb_I b = fb_I (a % b) := by
  rw [fb_I_div ha hb ia ib, fb_I_mul, fb_I_sub]
  congr 1
  have := Int.emod_add_mul_ediv a b
  rw [Int.mul_comm] at this
  omega
/-! ===== the cells ===== -/
def fb_arI (G : fb_G) (n : Nat) : (Int → Int) → va_E := fun r => .inl (G.2.2.1, n, .inl fun j => fb_I (r (j : Int)))
def fb_arZ (G : fb_G) (n : Nat) : (Int → Int) → va_E := fun r => .inl (G.2.2.2.1, n, .inl fun j => fb_I (r (j : Int)))
def fb_arQ (G : fb_G) : (Int → Int) → va_E := fun _ => .inl (G.2.2.2.2.1, 2, .inr (.inr (.inr (.inr fun j => some (fb_ad G (if j = 0 then 42 else 45))))))
def fb_fv (G : fb_G) (r : Int → Int) (j : Nat) (o : Option Nat) : Value := match o with
  | some k => .ref (fb_ad G k)
  | none => .int (fb_I (r (j : Int)))
def fb_ob (G : fb_G) (ci : Nat) (fs : List (Option Nat)) : (Int → Int) → va_E := fun r => .inr (ci, fs.mapIdx fun j o => fb_fv G r j o)
def fb_pour (p : Nat) : List (Option Nat) := [none, some (p+1), some (p+2), some (p+3), some (p+4), some (p+5), some (p+6), some (p+7), some (p+8), some (p+9), some (p+10), some (p+11)]
def fb_img (g : Nat) : List (Option Nat) := [none, none, none, none, none, some (g+1), some (g+2)]
def fb_full (G : fb_G) : List ((Int → Int) → va_E) := [
  fb_ob G 6 [some 1, some 5, some 8, some 17, some 29, some 41, none, none, none, none, none],
  fb_ob G 5 [none, none, none, some 2, some 3, some 4], fb_arI G 144, fb_arI G 144, fb_arI G 576,
  fb_ob G 4 [none, some 6, some 7], fb_arI G 144, fb_arI G 144,
  fb_ob G 0 [some 9, some 10, some 11, some 12, some 13], fb_arI G 144, fb_arI G 144, fb_arI G 144, fb_arI G 100,
  fb_ob G 2 [some 14, some 15, some 16, none], fb_arI G 100, fb_arI G 100, fb_arI G 144,
  fb_ob G 3 (fb_pour 17), fb_arI G 144, fb_arI G 100, fb_arI G 100, fb_arI G 100, fb_arI G 100, fb_arI G 100, fb_arI G 99, fb_arI G 99, fb_arI G 99, fb_arI G 99, fb_arI G 144,
  fb_ob G 3 (fb_pour 29), fb_arI G 144, fb_arI G 100, fb_arI G 100, fb_arI G 100, fb_arI G 100, fb_arI G 100, fb_arI G 99, fb_arI G 99, fb_arI G 99, fb_arI G 99, fb_arI G 144,
  fb_arQ G,
  fb_ob G 1 (fb_img 42), fb_arI G 144, fb_arI G 144,
  fb_ob G 1 (fb_img 45), fb_arI G 144, fb_arI G 144,
  fb_ob G 7 [some 49, some 50, some 51, some 52, some 53, some 54, some 55, some 56, some 57, some 58, some 59, none, some 60, some 61, some 62, some 63, some 64, none, some 65, some 66],
  fb_arI G 292, fb_arI G 584, fb_arZ G 2, fb_arI G 144, fb_arI G 144, fb_arZ G 144, fb_arI G 144, fb_arI G 144, fb_arI G 144, fb_arI G 144, fb_arZ G 144, fb_arI G 144, fb_arI G 100, fb_arI G 100, fb_arI G 100, fb_arI G 100, fb_arI G 100, fb_arI G 144]
def fb_cl (G : fb_G) : List ((Int → Int) → va_E) := (fb_full G).take G.2.2.2.2.2
/-- how many of the cells a class's methods speak of -/
def fb_n (own : String) : Nat := if own = "FloodBasinsModel" ∨ own = "FloodBasinsLaw" then 67 else 48
theorem fb_n_ge (own : String) : 48 ≤ fb_n own := by unfold fb_n; split <;> decide
def fb_W (G : fb_G) (σ : fb_St) : va_W := (fb_cl G).mapIdx fun k f => (fb_ad G k, f (σ k))
def fb_row (σ : fb_St) (k : Nat) (r : Int → Int) : fb_St := fun k' => if k' = k then r else σ k'
def fb_up (σ : fb_St) (k : Nat) (i v : Int) : fb_St := fb_row σ k (fun j => if j = i then v else σ k j)
def fb_fill (σ : fb_St) (k : Nat) (v : Int) : fb_St := fb_row σ k (fun _ => v)
def fb_cp (σ : fb_St) (a b : Nat) (n : Int) : fb_St := fb_row σ b (fun j => if 0 ≤ j ∧ j < n then σ a j else σ b j)
theorem fb_W_at {G : fb_G} {σ : fb_St} {k : Nat} {f : (Int → Int) → va_E} (h : (fb_cl G)[k]? = some f) : (fb_W G σ)[k]? = some (fb_ad G k, f (σ k)) := by
  simp [fb_W, List.getElem?_mapIdx, h]
theorem fb_W_len {G : fb_G} {σ : fb_St} : (fb_W G σ).length = (fb_cl G).length := by
  simp [fb_W]
theorem fb_W_addr {G : fb_G} {σ : fb_St} {k : Nat} {q : Nat × va_E} (h : (fb_W G σ)[k]? = some q) : k < (fb_cl G).length ∧ q.1 = fb_ad G k := by
  have h1 : k < (fb_W G σ).length := (List.getElem?_eq_some_iff.mp h).1
  rw [fb_W_len] at h1
  refine ⟨h1, ?_⟩
  simp only [fb_W, List.getElem?_mapIdx] at h
  cases hc : (fb_cl G)[k]? with
  | none => rw [hc] at h; cases h
  | some f => rw [hc] at h; cases h; rfl
theorem fb_W_set {G : fb_G} {σ : fb_St} {k : Nat} {f : (Int → Int) → va_E} (h : (fb_cl G)[k]? = some f) (r : Int → Int) : (fb_W G σ).set k (fb_ad G k, f r) = fb_W G (fb_row σ k r) := by
  have hlt : k < (fb_W G σ).length := by
    have := (List.getElem?_eq_some_iff.mp (fb_W_at (σ := σ) h)).1
    exact this
  apply List.ext_getElem?
  intro j
  rw [List.getElem?_set]
  by_cases hj : k = j
  · subst hj
    rw [if_pos rfl, if_pos hlt, fb_W_at h]
    simp [fb_row]
  · rw [if_neg hj]
    simp only [fb_W, List.getElem?_mapIdx]
    cases (fb_cl G)[j]? with
    | none => rfl
    | some f' => simp [fb_row, Ne.symm hj]
theorem fb_row_in {σ : fb_St} (h : ∀ k i, fb_in (σ k i)) {k : Nat} {r : Int → Int} (hr : ∀ i, fb_in (r i)) : ∀ k' i, fb_in (fb_row σ k r k' i) := by
  intro k' i
  unfold fb_row
  split
  · exact hr i
  · exact h k' i
theorem fb_up_in {σ : fb_St} (h : ∀ k i, fb_in (σ k i)) {k : Nat} {i v : Int} (hv : fb_in v) : ∀ k' i', fb_in (fb_up σ k i v k' i') :=
  fb_row_in h (fun j => by split; exact hv; exact h k j)
/-! ===== the words ===== -/
def fb_tb : List Cond := lw_tbl.filter goodWord
theorem fb_mem {w : Cond} (i : Nat) (h : lw_tbl[i]? = some w) (hg : goodWord w = true) : w ∈ fb_tb := List.mem_filter.mpr ⟨List.mem_of_getElem? h, hg⟩
def fb_A (G : fb_G) (sz : Nat) : Nat → Prop := fun q => (∃ k, k < (fb_cl G).length ∧ q = fb_ad G k) ∨ sz ≤ q
abbrev fb_tys (G : fb_G) : List (ClassId × FieldType) := [(G.2.2.1, .int), (G.2.2.2.1, .boolean), (G.2.2.2.2.1, .object "FloodBasins$Image")]
/-- the private method of the host that its nest mates call -/
def fb_N (U : State) : Prop := va_Nw (.methodLinkNest RX5 41 yX6_within RX6) U ∧ va_Nw (.methodLinkNest RX4 41 yX6_within RX6) U ∧ va_Nw (.methodLinkNest RX3 71 yX6_within RX6) U
/-- what stands still while a method runs -/
def fb_C (p : Program) (s : State) (m : MethodId) (args : Array Value) (meth : Method) (c : Code) (G : fb_G) (own : String) (cc : ByteArray) (nL : Nat) : Prop :=
  CallFix p m c cc nL s args fb_tb own ∧ ((meth.locks = false ∧ fb_N s) ∧ fb_n own ≤ G.2.2.2.2.2) ∧ va_K G.1 vwCl (fb_tys G) s
theorem fb_kof {p : Program} {s : State} {m : MethodId} {args : Array Value} {meth : Method} {c : Code} {G : fb_G} {own : String} {cc : ByteArray} {nL k : Nat} {f : (Int → Int) → va_E} (C : fb_C p s m args meth c G own cc nL) (hk : k < fb_n own) (hf : (fb_full G)[k]? = some f) : (fb_cl G)[k]? = some f := by
  unfold fb_cl
  rw [List.getElem?_take_of_lt (Nat.lt_of_lt_of_le hk C.2.1.2)]
  exact hf
/-- the world inside a method -/
def fb_Wd (G : fb_G) (s : State) (σ : fb_St) (H : Heap) (locs : List Loc) : Prop :=
  va_P G.1 vwCl (fb_W G σ) H ∧ va_D (fb_A G s.heap.size) (fb_W G σ) ∧ va_S (fb_A G s.heap.size) s.heap H locs ∧ ∀ k i, fb_in (σ k i)
/-- a field's link: own class, entry; the class of the object, the field's place -/
def fb_FL (own : String) (index ci j : Nat) (C : String) (T : u_T) (N : Nat) : Prop :=
  (∀ w ∈ u_ws C T N, w ∈ fb_tb) ∧ vwCl[ci]? = some (C, T, N) ∧ j < N ∧ Cond.fieldLink own index (T j).1 (T j).2.1 (T j).2.2.1 ∈ fb_tb
section FBR
variable {p : Program} {l : Launch} {e : Env} {R : Room} {s : State} {m : MethodId} {args : Array Value} {below : List Frame} {meth : Method} {c : Code} {H : Heap} {locs : List Loc} {cells slots : Nat} {Q : State → Prop}
variable {cc : ByteArray} {pc nL : Nat} {ls : Array Slot} {rest : List Value} {own : String} {G : fb_G} {σ : fb_St}
theorem fb_iadd (C : fb_C p s m args meth c G own cc nL) {a b : Int} (hdg : decode cc pc = .ok (.iadd, 1)) (k : W p l e R s m args below meth c H locs cells slots Q (F0 m (pc + 1) ls (.int (fb_I (a + b)) :: rest))) : W p l e R s m args below meth c H locs cells slots Q (F0 m pc ls (.int (fb_I b) :: .int (fb_I a) :: rest)) :=
  lv_iadd C.1.1 C.1.2.1 hdg (by rw [fb_I_add]; exact k)
theorem fb_isub (C : fb_C p s m args meth c G own cc nL) {a b : Int} (hdg : decode cc pc = .ok (.isub, 1)) (k : W p l e R s m args below meth c H locs cells slots Q (F0 m (pc + 1) ls (.int (fb_I (a - b)) :: rest))) : W p l e R s m args below meth c H locs cells slots Q (F0 m pc ls (.int (fb_I b) :: .int (fb_I a) :: rest)) :=
  lv_isub C.1.1 C.1.2.1 hdg (by rw [fb_I_sub]; exact k)
theorem fb_imul (C : fb_C p s m args meth c G own cc nL) {a b : Int} (hdg : decode cc pc = .ok (.imul, 1)) (k : W p l e R s m args below meth c H locs cells slots Q (F0 m (pc + 1) ls (.int (fb_I (a * b)) :: rest))) : W p l e R s m args below meth c H locs cells slots Q (F0 m pc ls (.int (fb_I b) :: .int (fb_I a) :: rest)) :=
  lv_imul C.1.1 C.1.2.1 hdg (by rw [fb_I_mul]; exact k)
theorem fb_ineg (C : fb_C p s m args meth c G own cc nL) {a : Int} (hdg : decode cc pc = .ok (.ineg, 1)) (k : W p l e R s m args below meth c H locs cells slots Q (F0 m (pc + 1) ls (.int (fb_I (-a)) :: rest))) : W p l e R s m args below meth c H locs cells slots Q (F0 m pc ls (.int (fb_I a) :: rest)) :=
  lv_ineg C.1.1 C.1.2.1 hdg (by rw [fb_I_neg]; exact k)
theorem fb_nz {b : Int} (hb : 0 < b) (ib : fb_in b) : ¬ fb_I b = 0 := by
  rw [fb_I_0, fb_I_eq ib fb_in0]; omega
theorem fb_idiv (C : fb_C p s m args meth c G own cc nL) {a b : Int} (ia : fb_in a) (ib : fb_in b) (ha : 0 ≤ a) (hb : 0 < b) (hdg : decode cc pc = .ok (.idiv, 1)) (k : W p l e R s m args below meth c H locs cells slots Q (F0 m (pc + 1) ls (.int (fb_I (a / b)) :: rest))) : W p l e R s m args below meth c H locs cells slots Q (F0 m pc ls (.int (fb_I b) :: .int (fb_I a) :: rest)) :=
  lv_idiv C.1.1 C.1.2.1 hdg (fb_nz hb ib) (by rw [fb_I_div ha hb ia ib]; exact k)
theorem fb_irem (C : fb_C p s m args meth c G own cc nL) {a b : Int} (ia : fb_in a) (ib : fb_in b) (ha : 0 ≤ a) (hb : 0 < b) (hdg : decode cc pc = .ok (.irem, 1)) (k : W p l e R s m args below meth c H locs cells slots Q (F0 m (pc + 1) ls (.int (fb_I (a % b)) :: rest))) : W p l e R s m args below meth c H locs cells slots Q (F0 m pc ls (.int (fb_I b) :: .int (fb_I a) :: rest)) :=
  lv_irem C.1.1 C.1.2.1 hdg (fb_nz hb ib) (by rw [fb_I_rem ha hb ia ib]; exact k)
theorem fb_iinc (C : fb_C p s m args meth c G own cc nL) {a b : Int} {i k : Nat} {n : Int} {lv lv' : List (Nat × Value)} (hdg : decode cc pc = .ok (.iinc i n, 3)) (h : lv_has ls nL lv) (hk : lv[k]? = some (i, .int (fb_I a))) (hv : a + n = b) (hn : i < nL) (hl : (i, Value.int (fb_I b)) :: lv.filter (fun q => !(q.1 == i) && !(q.1 + 1 == i && q.2.category == 2)) = lv')
    (kk : ∀ ls' : Array Slot, lv_has ls' nL lv' → W p l e R s m args below meth c H locs cells slots Q (F0 m (pc + 3) ls' rest)) : W p l e R s m args below meth c H locs cells slots Q (F0 m pc ls rest) :=
  lv_iinc C.1.1 C.1.2.1 hdg h hk (by rw [← hv]; exact fb_I_add a n) hn hl kk
theorem fb_icmp_eq (C : fb_C p s m args meth c G own cc nL) {a b : Int} (ia : fb_in a) (ib : fb_in b) {off : Int} {tgt : Nat} (hdg : decode cc pc = .ok (.if_icmp .eq off, 3)) (ht : (pc : Int) + off = (tgt : Int))
    (kt : a = b → W p l e R s m args below meth c H locs cells slots Q (F0 m tgt ls rest)) (kf : ¬ a = b → W p l e R s m args below meth c H locs cells slots Q (F0 m (pc + 3) ls rest)) : W p l e R s m args below meth c H locs cells slots Q (F0 m pc ls (.int (fb_I b) :: .int (fb_I a) :: rest)) :=
  lv_icmp_eq C.1.1 C.1.2.1 hdg ht (fun h => kt ((fb_I_eq ia ib).mp h)) (fun h => kf (fun q => h ((fb_I_eq ia ib).mpr q)))
theorem fb_icmp_ne (C : fb_C p s m args meth c G own cc nL) {a b : Int} (ia : fb_in a) (ib : fb_in b) {off : Int} {tgt : Nat} (hdg : decode cc pc = .ok (.if_icmp .ne off, 3)) (ht : (pc : Int) + off = (tgt : Int))
    (kt : ¬ a = b → W p l e R s m args below meth c H locs cells slots Q (F0 m tgt ls rest)) (kf : a = b → W p l e R s m args below meth c H locs cells slots Q (F0 m (pc + 3) ls rest)) : W p l e R s m args below meth c H locs cells slots Q (F0 m pc ls (.int (fb_I b) :: .int (fb_I a) :: rest)) :=
  lv_icmp_ne C.1.1 C.1.2.1 hdg ht (fun h => kt (fun q => h ((fb_I_eq ia ib).mpr q))) (fun h => kf ((fb_I_eq ia ib).mp h))
theorem fb_icmp_lt (C : fb_C p s m args meth c G own cc nL) {a b : Int} (ia : fb_in a) (ib : fb_in b) {off : Int} {tgt : Nat} (hdg : decode cc pc = .ok (.if_icmp .lt off, 3)) (ht : (pc : Int) + off = (tgt : Int))
    (kt : a < b → W p l e R s m args below meth c H locs cells slots Q (F0 m tgt ls rest)) (kf : ¬ a < b → W p l e R s m args below meth c H locs cells slots Q (F0 m (pc + 3) ls rest)) : W p l e R s m args below meth c H locs cells slots Q (F0 m pc ls (.int (fb_I b) :: .int (fb_I a) :: rest)) :=
  lv_icmp_lt C.1.1 C.1.2.1 hdg ht (fun h => kt ((fb_I_lt ia ib).mp h)) (fun h => kf (fun q => h ((fb_I_lt ia ib).mpr q)))
theorem fb_icmp_ge (C : fb_C p s m args meth c G own cc nL) {a b : Int} (ia : fb_in a) (ib : fb_in b) {off : Int} {tgt : Nat} (hdg : decode cc pc = .ok (.if_icmp .ge off, 3)) (ht : (pc : Int) + off = (tgt : Int))
    (kt : ¬ a < b → W p l e R s m args below meth c H locs cells slots Q (F0 m tgt ls rest)) (kf : a < b → W p l e R s m args below meth c H locs cells slots Q (F0 m (pc + 3) ls rest)) : W p l e R s m args below meth c H locs cells slots Q (F0 m pc ls (.int (fb_I b) :: .int (fb_I a) :: rest)) :=
  lv_icmp_ge C.1.1 C.1.2.1 hdg ht (fun h => kt (fun q => by have := (fb_I_le ib ia).mp h; omega)) (fun h => kf (Int.not_le.mp fun q => h ((fb_I_le ib ia).mpr q)))
theorem fb_icmp_gt (C : fb_C p s m args meth c G own cc nL) {a b : Int} (ia : fb_in a) (ib : fb_in b) {off : Int} {tgt : Nat} (hdg : decode cc pc = .ok (.if_icmp .gt off, 3)) (ht : (pc : Int) + off = (tgt : Int))
    (kt : b < a → W p l e R s m args below meth c H locs cells slots Q (F0 m tgt ls rest)) (kf : ¬ b < a → W p l e R s m args below meth c H locs cells slots Q (F0 m (pc + 3) ls rest)) : W p l e R s m args below meth c H locs cells slots Q (F0 m pc ls (.int (fb_I b) :: .int (fb_I a) :: rest)) :=
  lv_icmp_gt C.1.1 C.1.2.1 hdg ht (fun h => kt ((fb_I_lt ib ia).mp h)) (fun h => kf (fun q => h ((fb_I_lt ib ia).mpr q)))
theorem fb_icmp_le (C : fb_C p s m args meth c G own cc nL) {a b : Int} (ia : fb_in a) (ib : fb_in b) {off : Int} {tgt : Nat} (hdg : decode cc pc = .ok (.if_icmp .le off, 3)) (ht : (pc : Int) + off = (tgt : Int))
    (kt : ¬ b < a → W p l e R s m args below meth c H locs cells slots Q (F0 m tgt ls rest)) (kf : b < a → W p l e R s m args below meth c H locs cells slots Q (F0 m (pc + 3) ls rest)) : W p l e R s m args below meth c H locs cells slots Q (F0 m pc ls (.int (fb_I b) :: .int (fb_I a) :: rest)) :=
  lv_icmp_le C.1.1 C.1.2.1 hdg ht (fun h => kt (fun q => by have := (fb_I_le ia ib).mp h; omega)) (fun h => kf (Int.not_le.mp fun q => h ((fb_I_le ia ib).mpr q)))
theorem fb_if_eq (C : fb_C p s m args meth c G own cc nL) {a : Int} (ia : fb_in a) {off : Int} {tgt : Nat} (hdg : decode cc pc = .ok (.ifCond .eq off, 3)) (ht : (pc : Int) + off = (tgt : Int))
    (kt : a = 0 → W p l e R s m args below meth c H locs cells slots Q (F0 m tgt ls rest)) (kf : ¬ a = 0 → W p l e R s m args below meth c H locs cells slots Q (F0 m (pc + 3) ls rest)) : W p l e R s m args below meth c H locs cells slots Q (F0 m pc ls (.int (fb_I a) :: rest)) :=
  lv_if_eq C.1.1 C.1.2.1 hdg ht (fun h => kt ((fb_I_eq ia fb_in0).mp (h.trans fb_I_0))) (fun h => kf (fun q => h (((fb_I_eq ia fb_in0).mpr q).trans fb_I_0.symm)))
theorem fb_if_ne (C : fb_C p s m args meth c G own cc nL) {a : Int} (ia : fb_in a) {off : Int} {tgt : Nat} (hdg : decode cc pc = .ok (.ifCond .ne off, 3)) (ht : (pc : Int) + off = (tgt : Int))
    (kt : ¬ a = 0 → W p l e R s m args below meth c H locs cells slots Q (F0 m tgt ls rest)) (kf : a = 0 → W p l e R s m args below meth c H locs cells slots Q (F0 m (pc + 3) ls rest)) : W p l e R s m args below meth c H locs cells slots Q (F0 m pc ls (.int (fb_I a) :: rest)) :=
  lv_if_ne C.1.1 C.1.2.1 hdg ht (fun h => kt (fun q => h (((fb_I_eq ia fb_in0).mpr q).trans fb_I_0.symm))) (fun h => kf ((fb_I_eq ia fb_in0).mp (h.trans fb_I_0)))
theorem fb_if_lt (C : fb_C p s m args meth c G own cc nL) {a : Int} (ia : fb_in a) {off : Int} {tgt : Nat} (hdg : decode cc pc = .ok (.ifCond .lt off, 3)) (ht : (pc : Int) + off = (tgt : Int))
    (kt : a < 0 → W p l e R s m args below meth c H locs cells slots Q (F0 m tgt ls rest)) (kf : ¬ a < 0 → W p l e R s m args below meth c H locs cells slots Q (F0 m (pc + 3) ls rest)) : W p l e R s m args below meth c H locs cells slots Q (F0 m pc ls (.int (fb_I a) :: rest)) :=
  lv_if_lt C.1.1 C.1.2.1 hdg ht (fun h => kt ((fb_I_lt ia fb_in0).mp (fb_I_0 ▸ h))) (fun h => kf (fun q => h (fb_I_0.symm ▸ (fb_I_lt ia fb_in0).mpr q)))
theorem fb_if_ge (C : fb_C p s m args meth c G own cc nL) {a : Int} (ia : fb_in a) {off : Int} {tgt : Nat} (hdg : decode cc pc = .ok (.ifCond .ge off, 3)) (ht : (pc : Int) + off = (tgt : Int))
    (kt : ¬ a < 0 → W p l e R s m args below meth c H locs cells slots Q (F0 m tgt ls rest)) (kf : a < 0 → W p l e R s m args below meth c H locs cells slots Q (F0 m (pc + 3) ls rest)) : W p l e R s m args below meth c H locs cells slots Q (F0 m pc ls (.int (fb_I a) :: rest)) :=
  lv_if_ge C.1.1 C.1.2.1 hdg ht (fun h => kt (fun q => by have := (fb_I_le fb_in0 ia).mp (fb_I_0 ▸ h); omega)) (fun h => kf (Int.not_le.mp fun q => h (fb_I_0.symm ▸ (fb_I_le fb_in0 ia).mpr q)))
theorem fb_if_gt (C : fb_C p s m args meth c G own cc nL) {a : Int} (ia : fb_in a) {off : Int} {tgt : Nat} (hdg : decode cc pc = .ok (.ifCond .gt off, 3)) (ht : (pc : Int) + off = (tgt : Int))
    (kt : 0 < a → W p l e R s m args below meth c H locs cells slots Q (F0 m tgt ls rest)) (kf : ¬ 0 < a → W p l e R s m args below meth c H locs cells slots Q (F0 m (pc + 3) ls rest)) : W p l e R s m args below meth c H locs cells slots Q (F0 m pc ls (.int (fb_I a) :: rest)) :=
  lv_if_gt C.1.1 C.1.2.1 hdg ht (fun h => kt ((fb_I_lt fb_in0 ia).mp (fb_I_0 ▸ h))) (fun h => kf (fun q => h (fb_I_0.symm ▸ (fb_I_lt fb_in0 ia).mpr q)))
theorem fb_if_le (C : fb_C p s m args meth c G own cc nL) {a : Int} (ia : fb_in a) {off : Int} {tgt : Nat} (hdg : decode cc pc = .ok (.ifCond .le off, 3)) (ht : (pc : Int) + off = (tgt : Int))
    (kt : ¬ 0 < a → W p l e R s m args below meth c H locs cells slots Q (F0 m tgt ls rest)) (kf : 0 < a → W p l e R s m args below meth c H locs cells slots Q (F0 m (pc + 3) ls rest)) : W p l e R s m args below meth c H locs cells slots Q (F0 m pc ls (.int (fb_I a) :: rest)) :=
  lv_if_le C.1.1 C.1.2.1 hdg ht (fun h => kt (fun q => by have := (fb_I_le ia fb_in0).mp (fb_I_0 ▸ h); omega)) (fun h => kf (Int.not_le.mp fun q => h (fb_I_0.symm ▸ (fb_I_le ia fb_in0).mpr q)))
theorem fb_iconst (C : fb_C p s m args meth c G own cc nL) {n : Int} (hdg : decode cc pc = .ok (.iconst n, 1)) (k : W p l e R s m args below meth c H locs cells slots Q (F0 m (pc + 1) ls (.int (fb_I n) :: rest))) : W p l e R s m args below meth c H locs cells slots Q (F0 m pc ls rest) :=
  lv_iconst C.1.1 C.1.2.1 hdg rfl k
theorem fb_bipush (C : fb_C p s m args meth c G own cc nL) {n : Int} (hdg : decode cc pc = .ok (.bipush n, 2)) (hv : (Int8.ofInt n).toInt32 = fb_I n) (k : W p l e R s m args below meth c H locs cells slots Q (F0 m (pc + 2) ls (.int (fb_I n) :: rest))) : W p l e R s m args below meth c H locs cells slots Q (F0 m pc ls rest) :=
  lv_bipush C.1.1 C.1.2.1 hdg hv k
theorem fb_sipush (C : fb_C p s m args meth c G own cc nL) {n : Int} (hdg : decode cc pc = .ok (.sipush n, 3)) (hv : (Int16.ofInt n).toInt32 = fb_I n) (k : W p l e R s m args below meth c H locs cells slots Q (F0 m (pc + 3) ls (.int (fb_I n) :: rest))) : W p l e R s m args below meth c H locs cells slots Q (F0 m pc ls rest) :=
  lv_sipush C.1.1 C.1.2.1 hdg hv k
theorem fb_tableIn (C : fb_C p s m args meth c G own cc nL) {dflt lo hi : Int} {offs : Array Int} {len : Nat} {x : Int} (ix : fb_in x) {off : Int} {tgt j : Nat} (hdg : decode cc pc = .ok (.tableswitch dflt lo hi offs, len)) (hx : x = lo + j) (hj : lo + j ≤ hi) (ho : offs[j]? = some off) (ht : (pc : Int) + off = (tgt : Int))
    (k : W p l e R s m args below meth c H locs cells slots Q (F0 m tgt ls rest)) : W p l e R s m args below meth c H locs cells slots Q (F0 m pc ls (.int (fb_I x) :: rest)) :=
  lv_tableIn C.1.1 C.1.2.1 hdg (by rw [fb_I_toInt ix]; omega) (by rw [fb_I_toInt ix]; omega) (by rw [fb_I_toInt ix, hx, show (lo + (j : Int) - lo).toNat = j by omega]; exact ho) ht k
theorem fb_tableOut (C : fb_C p s m args meth c G own cc nL) {dflt lo hi : Int} {offs : Array Int} {len : Nat} {x : Int} (ix : fb_in x) {tgt : Nat} (hdg : decode cc pc = .ok (.tableswitch dflt lo hi offs, len)) (h : x < lo ∨ hi < x) (ht : (pc : Int) + dflt = (tgt : Int))
    (k : W p l e R s m args below meth c H locs cells slots Q (F0 m tgt ls rest)) : W p l e R s m args below meth c H locs cells slots Q (F0 m pc ls (.int (fb_I x) :: rest)) :=
  lv_tableOut C.1.1 C.1.2.1 hdg (by rw [fb_I_toInt ix]; exact h) ht k
/-- fields -/
theorem fb_fs_at {G : fb_G} {r : Int → Int} {fs : List (Option Nat)} {j : Nat} {o : Option Nat} (h : fs[j]? = some o) : (fs.mapIdx fun j o => fb_fv G r j o)[j]? = some (fb_fv G r j o) := by
  simp [List.getElem?_mapIdx, h]
theorem fb_geti (C : fb_C p s m args meth c G own cc nL) (w : fb_Wd G s σ H locs) {k ci j index : Nat} {fs : List (Option Nat)} {Cn : String} {T : u_T} {N : Nat} (hk : (fb_cl G)[k]? = some (fb_ob G ci fs)) (hj : fs[j]? = some none) (hf : fb_FL own index ci j Cn T N) (hdg : decode cc pc = .ok (.getfield index, 3))
    (kk : W p l e R s m args below meth c H locs cells slots Q (F0 m (pc + 3) ls (.int (fb_I (σ k j)) :: rest))) : W p l e R s m args below meth c H locs cells slots Q (F0 m pc ls (.ref (fb_ad G k) :: rest)) :=
  va_get C.1.1 C.1.2.1 C.1.2.2.2.2 hf.1 C.1.2.2.2.1 C.2.2 w.1 k (fb_W_at hk) hf.2.1 j hf.2.2.1 (C.1.2.2.2.2 _ hf.2.2.2) (fun _ h => h) (fb_fs_at hj) hdg kk
theorem fb_getr (C : fb_C p s m args meth c G own cc nL) (w : fb_Wd G s σ H locs) {k ci j index k2 : Nat} {fs : List (Option Nat)} {Cn : String} {T : u_T} {N : Nat} (hk : (fb_cl G)[k]? = some (fb_ob G ci fs)) (hj : fs[j]? = some (some k2)) (hf : fb_FL own index ci j Cn T N) (hdg : decode cc pc = .ok (.getfield index, 3))
    (kk : W p l e R s m args below meth c H locs cells slots Q (F0 m (pc + 3) ls (.ref (fb_ad G k2) :: rest))) : W p l e R s m args below meth c H locs cells slots Q (F0 m pc ls (.ref (fb_ad G k) :: rest)) :=
  va_get C.1.1 C.1.2.1 C.1.2.2.2.2 hf.1 C.1.2.2.2.1 C.2.2 w.1 k (fb_W_at hk) hf.2.1 j hf.2.2.1 (C.1.2.2.2.2 _ hf.2.2.2) (fun _ h => h) (fb_fs_at hj) hdg kk
theorem fb_fs_set {G : fb_G} {r : Int → Int} {fs : List (Option Nat)} {j : Nat} (v : Int) (h : fs[j]? = some none) : (fs.mapIdx fun j o => fb_fv G r j o).set j (.int (fb_I v)) = fs.mapIdx fun q o => fb_fv G (fun i => if i = (j : Int) then v else r i) q o := by
  apply List.ext_getElem?
  intro q
  rw [List.getElem?_set]
  by_cases hq : j = q
  · subst hq
    have hl : j < (fs.mapIdx fun j o => fb_fv G r j o).length := by
      have := (List.getElem?_eq_some_iff.mp h).1
      simpa using this
    rw [if_pos rfl, if_pos hl, fb_fs_at h]
    simp [fb_fv]
  · rw [if_neg hq]
    simp only [List.getElem?_mapIdx]
    cases fs[q]? with
    | none => rfl
    | some o =>
      cases o with
      | some k => rfl
      | none =>
        have : ¬ (q : Int) = (j : Int) := by omega
        simp [fb_fv, this]
theorem fb_puti (C : fb_C p s m args meth c G own cc nL) (w : fb_Wd G s σ H locs) {k ci j index : Nat} {fs : List (Option Nat)} {Cn : String} {T : u_T} {N : Nat} (hk : (fb_cl G)[k]? = some (fb_ob G ci fs)) (hj : fs[j]? = some none) (hf : fb_FL own index ci j Cn T N)
    {ty0 : Nat → FieldType} (hty : ∀ k, k < N → parseFieldDescriptor (T k).2.2.1 = some (ty0 k)) (hnm : ∀ a, a < N → ∀ b, b < N → a ≠ b → (T a).2.1 ≠ (T b).2.1) (hfin : (T j).2.2.2 = false) {v : Int} (iv : fb_in v) (hn : narrow (ty0 j) (.int (fb_I v)) = .int (fb_I v)) (hfit : fits (ty0 j) (.int (fb_I v)) = true) (hdg : decode cc pc = .ok (.putfield index, 3))
    (kk : ∀ (H1 : Heap) (locs1 : List Loc), fb_Wd G s (fb_up σ k j v) H1 locs1 → W p l e R s m args below meth c H1 locs1 cells slots Q (F0 m (pc + 3) ls rest)) : W p l e R s m args below meth c H locs cells slots Q (F0 m pc ls (.int (fb_I v) :: .ref (fb_ad G k) :: rest)) := by
  refine va_put (ty := ty0 j) C.1.1 C.1.2.1 C.1.2.2.2.2 hf.1 ty0 hty hnm C.1.2.2.2.1 C.2.2 w.1 w.2.1 w.2.2.1 k (fb_W_at hk) hf.2.1 j hf.2.2.1 (C.1.2.2.2.2 _ hf.2.2.2) (fun _ h => h) hfin (hty j hf.2.2.1) hn hfit (by have := (List.getElem?_eq_some_iff.mp hj).1; simpa using this) hdg (fun H1 locs1 a1 a2 a3 => ?_)
  have he : (fb_W G σ).set k (fb_ad G k, .inr (ci, (fs.mapIdx fun j o => fb_fv G (σ k) j o).set j (.int (fb_I v)))) = fb_W G (fb_up σ k j v) := by
    rw [fb_fs_set v hj]
    exact fb_W_set hk _
  rw [he] at a1 a2
  exact kk H1 locs1 ⟨a1, a2, a3, fb_up_in w.2.2.2 iv⟩
/-- arrays -/
theorem fb_ald (C : fb_C p s m args meth c G own cc nL) (w : fb_Wd G s σ H locs) {k n : Nat} (hk : (fb_cl G)[k]? = some (fb_arI G n)) {i : Int} (h0 : 0 ≤ i) (h1 : i < n) (hn : n < 2147483648) (hdg : decode cc pc = .ok (.iaload, 1))
    (kk : W p l e R s m args below meth c H locs cells slots Q (F0 m (pc + 1) ls (.int (fb_I (σ k i)) :: rest))) : W p l e R s m args below meth c H locs cells slots Q (F0 m pc ls (.int (fb_I i) :: .ref (fb_ad G k) :: rest)) := by
  refine va_iald C.1.1 C.1.2.1 C.2.2 w.1 k 0 (fb_W_at hk) rfl (fb_I_ix h0 h1 hn) hdg ?_
  rw [fb_I_nat h0 (by omega), show ((i.toNat : Nat) : Int) = i from Int.toNat_of_nonneg h0]
  exact kk
theorem fb_zald (C : fb_C p s m args meth c G own cc nL) (w : fb_Wd G s σ H locs) {k n : Nat} (hk : (fb_cl G)[k]? = some (fb_arZ G n)) {i : Int} (h0 : 0 ≤ i) (h1 : i < n) (hn : n < 2147483648) (hdg : decode cc pc = .ok (.baload, 1))
    (kk : W p l e R s m args below meth c H locs cells slots Q (F0 m (pc + 1) ls (.int (fb_I (σ k i)) :: rest))) : W p l e R s m args below meth c H locs cells slots Q (F0 m pc ls (.int (fb_I i) :: .ref (fb_ad G k) :: rest)) := by
  refine va_zald C.1.1 C.1.2.1 C.2.2 w.1 k 1 (fb_W_at hk) rfl (fb_I_ix h0 h1 hn) hdg ?_
  rw [fb_I_nat h0 (by omega), show ((i.toNat : Nat) : Int) = i from Int.toNat_of_nonneg h0]
  exact kk
theorem fb_upd (r : Int → Int) {i v : Int} (h0 : 0 ≤ i) : upd (fun j => fb_I (r (j : Int))) i.toNat (fb_I v) = fun j : Nat => fb_I ((fun q => if q = i then v else r q) (j : Int)) := by
  funext j
  unfold upd
  by_cases h : j = i.toNat
  · have : (j : Int) = i := by omega
    simp [h, Int.toNat_of_nonneg h0]
  · have : ¬ (j : Int) = i := by omega
    simp [h, this]
theorem fb_ast (C : fb_C p s m args meth c G own cc nL) (w : fb_Wd G s σ H locs) {k n : Nat} (hk : (fb_cl G)[k]? = some (fb_arI G n)) {i v : Int} (iv : fb_in v) (h0 : 0 ≤ i) (h1 : i < n) (hn : n < 2147483648) (hdg : decode cc pc = .ok (.iastore, 1))
    (kk : ∀ (H1 : Heap) (locs1 : List Loc), fb_Wd G s (fb_up σ k i v) H1 locs1 → W p l e R s m args below meth c H1 locs1 cells slots Q (F0 m (pc + 1) ls rest)) : W p l e R s m args below meth c H locs cells slots Q (F0 m pc ls (.int (fb_I v) :: .int (fb_I i) :: .ref (fb_ad G k) :: rest)) := by
  refine va_iast C.1.1 C.1.2.1 C.2.2 w.1 w.2.1 w.2.2.1 k 0 (fb_W_at hk) rfl (fb_I_ix h0 h1 hn) hdg (fun H1 locs1 a1 a2 a3 => ?_)
  have hu : upd (fun j : Nat => fb_I (σ k (j : Int))) (fb_I i).toNatClampNeg (fb_I v) = fun j : Nat => fb_I ((fun q => if q = i then v else σ k q) (j : Int)) := by
    rw [fb_I_nat h0 (by omega)]; exact fb_upd (σ k) h0
  have he : (fb_W G σ).set k (fb_ad G k, Sum.inl (G.2.2.1, n, Sum.inl fun j : Nat => fb_I ((fun q => if q = i then v else σ k q) (j : Int)))) = fb_W G (fb_up σ k i v) := fb_W_set hk (fun q => if q = i then v else σ k q)
  rw [hu, he] at a1 a2
  exact kk H1 locs1 ⟨a1, a2, a3, fb_up_in w.2.2.2 iv⟩
theorem fb_nz8 {v : Int} (hv : fb_B v) : vp_nar .boolean (fb_I v) = fb_I v := by
  rcases hv with rfl | rfl <;> decide
theorem fb_nzb {v : Int} (hv : fb_B v) : narrow .boolean (.int (fb_I v)) = .int (fb_I v) := by
  rcases hv with rfl | rfl <;> decide
theorem fb_fzb {v : Int} (hv : fb_B v) : fits .boolean (.int (fb_I v)) = true := by
  rcases hv with rfl | rfl <;> decide
theorem fb_zast (C : fb_C p s m args meth c G own cc nL) (w : fb_Wd G s σ H locs) {k n : Nat} (hk : (fb_cl G)[k]? = some (fb_arZ G n)) {i v : Int} (iv : fb_in v) (hv : fb_B v) (h0 : 0 ≤ i) (h1 : i < n) (hn : n < 2147483648) (hdg : decode cc pc = .ok (.bastore, 1))
    (kk : ∀ (H1 : Heap) (locs1 : List Loc), fb_Wd G s (fb_up σ k i v) H1 locs1 → W p l e R s m args below meth c H1 locs1 cells slots Q (F0 m (pc + 1) ls rest)) : W p l e R s m args below meth c H locs cells slots Q (F0 m pc ls (.int (fb_I v) :: .int (fb_I i) :: .ref (fb_ad G k) :: rest)) := by
  refine va_zast C.1.1 C.1.2.1 C.2.2 w.1 w.2.1 w.2.2.1 k 1 (fb_W_at hk) rfl (fb_I_ix h0 h1 hn) hdg (fun H1 locs1 a1 a2 a3 => ?_)
  have hu : upd (fun j : Nat => fb_I (σ k (j : Int))) (fb_I i).toNatClampNeg (vp_nar .boolean (fb_I v)) = fun j : Nat => fb_I ((fun q => if q = i then v else σ k q) (j : Int)) := by
    rw [fb_I_nat h0 (by omega), fb_nz8 hv]; exact fb_upd (σ k) h0
  have he : (fb_W G σ).set k (fb_ad G k, Sum.inl (G.2.2.2.1, n, Sum.inl fun j : Nat => fb_I ((fun q => if q = i then v else σ k q) (j : Int)))) = fb_W G (fb_up σ k i v) := fb_W_set hk (fun q => if q = i then v else σ k q)
  rw [hu, he] at a1 a2
  exact kk H1 locs1 ⟨a1, a2, a3, fb_up_in w.2.2.2 iv⟩
theorem fb_qald (C : fb_C p s m args meth c G own cc nL) (w : fb_Wd G s σ H locs) {i : Int} (h0 : 0 ≤ i) (h1 : i < 2) (hdg : decode cc pc = .ok (.aaload, 1))
    (kk : W p l e R s m args below meth c H locs cells slots Q (F0 m (pc + 1) ls (.ref (fb_ad G (if i = 0 then 42 else 45)) :: rest))) : W p l e R s m args below meth c H locs cells slots Q (F0 m pc ls (.int (fb_I i) :: .ref (fb_ad G 41) :: rest)) := by
  refine va_aldq C.1.1 C.1.2.1 C.2.2 w.1 41 2 (fb_W_at (f := fb_arQ G) (fb_kof C (Nat.lt_of_lt_of_le (by decide) (fb_n_ge own)) rfl)) rfl (fb_I_ix (n := 2) h0 (by omega) (by decide)) hdg ?_
  rw [fb_I_nat h0 (by omega)]
  have : (i.toNat = 0) = (i = 0) := propext ⟨fun h => by omega, fun h => by omega⟩
  simp only [va_rf, this]
  exact kk
end FBR
