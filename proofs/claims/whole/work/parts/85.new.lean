/-! ===== making: constructors ===== -/
abbrev fb_z : Value := .int (fb_I 0)
abbrev zI (cI : ClassId) (n : Nat) : va_E := .inl (cI, n, .inl fun _ => fb_I 0)
abbrev fb_D0 : Type := va_G × ClassId × ClassId × ClassId
abbrev fb_ty0 (D : fb_D0) : List (ClassId × FieldType) := [(D.2.1, .int), (D.2.2.1, .boolean), (D.2.2.2, .object "FloodBasins$Image")]
/-- the links of a nest, and arrays of images -/
def fb_NN (U : State) : Prop := (va_Nw (.methodLinkNest RX6 9 yX5_init RX6) U ∧ va_Nw (.methodLinkNest RX6 18 yX4_init RX6) U ∧ va_Nw (.methodLinkNest RX6 25 yX0_init RX6) U ∧ va_Nw (.methodLinkNest RX6 32 yX3_init RX6) U ∧ va_Nw (.methodLinkNest RX6 42 yX1_init RX6) U ∧ va_Nw (.methodLinkNest RX0 26 yX2_init RX6) U) ∧ fb_N U ∧ va_AO "FloodBasins$Image" U
theorem fb_NN.warm {s U : State} (hW : s.WarmedH U.vm) (h : fb_NN s) : fb_NN U :=
  ⟨⟨va_Nw.warmM hW h.1.1, va_Nw.warmM hW h.1.2.1, va_Nw.warmM hW h.1.2.2.1, va_Nw.warmM hW h.1.2.2.2.1, va_Nw.warmM hW h.1.2.2.2.2.1, va_Nw.warmM hW h.1.2.2.2.2.2⟩, ⟨va_Nw.warmM hW h.2.1.1, va_Nw.warmM hW h.2.1.2.1, va_Nw.warmM hW h.2.1.2.2⟩, va_AO.moved hW.alike h.2.2⟩
theorem fb_NN.same {u U : State} (e : u.vm = U.vm) (h : fb_NN u) : fb_NN U :=
  ⟨⟨va_Nw.same rfl e h.1.1, va_Nw.same rfl e h.1.2.1, va_Nw.same rfl e h.1.2.2.1, va_Nw.same rfl e h.1.2.2.2.1, va_Nw.same rfl e h.1.2.2.2.2.1, va_Nw.same rfl e h.1.2.2.2.2.2⟩, ⟨va_Nw.same rfl e h.2.1.1, va_Nw.same rfl e h.2.1.2.1, va_Nw.same rfl e h.2.1.2.2⟩, va_AO.moved (by rw [← e]; exact Vm.Alike.refl u.vm) h.2.2⟩
def fb_CC (p : Program) (s : State) (m : MethodId) (args : Array Value) (meth : Method) (c : Code) (D : fb_D0) (own : String) (cc : ByteArray) : Prop :=
  CallFix p m c cc 1 s args fb_tb own ∧ (meth.locks = false ∧ meth.name = "<init>" ∧ meth.sig.returnType = none) ∧ va_K D.1 vwCl (fb_ty0 D) s ∧ fb_NN s
def fb_WW (D : fb_D0) (A : Nat → Prop) (s : State) (ws : va_W) (H : Heap) (locs : List Loc) : Prop := va_P D.1 vwCl ws H ∧ va_D A ws ∧ va_S A s.heap H locs
/-- the start of a constructor: one object, as new -/
def cc_Pc (D : fb_D0) (h0 ci : Nat) (dfs : List Value) (sz : Nat) : Array Value → State → Prop := va_Pc [.ref h0] (fun U => U.heap.size = sz ∧ va_P D.1 vwCl [(h0, .inr (ci, dfs))] U.heap ∧ va_K D.1 vwCl (fb_ty0 D) U ∧ va_D (fun _ => True) [(h0, .inr (ci, dfs))] ∧ fb_NN U)
def cc_A (h0 ci : Nat) (dfs : List Value) (sz : Nat) : Nat → Prop := va_A [(h0, .inr (ci, dfs))] sz
/-- its end: the object with what it made -/
def cc_Qc (D : fb_D0) (h0 ci : Nat) (dfs : List Value) (wX : ClassId → (Nat → Nat) → va_W) (sz : Nat) : Array Value → State → Outcome → State → Prop := va_Qv (S := Nat → Nat) (fun u => u 0 = h0) (fun u t => va_P D.1 vwCl (wX D.2.1 u) t.heap ∧ va_D (cc_A h0 ci dfs sz) (wX D.2.1 u)) (cc_A h0 ci dfs sz)
abbrev cc_M (l : Launch) (D : fb_D0) (y : MethodName) (cc : ByteArray) (rm : Room) (h0 ci : Nat) (dfs : List Value) (wX : ClassId → (Nat → Nat) → va_W) (mc ms : Nat) : Prop :=
  ∀ sz : Nat, Met l y (.code y cc 1 none :: fb_tb) rm (cc_Pc D h0 ci dfs sz) (cc_Qc D h0 ci dfs wX sz) mc ms (cc_A h0 ci dfs sz)
theorem cc_ofW {l : Launch} {D : fb_D0} {y : MethodName} {cc : ByteArray} {rm : Room} {h0 ci : Nat} {dfs : List Value} {mc ms : Nat} {Qc : Nat → Array Value → State → Outcome → State → Prop} (hy : plainName y.cls = true) {own : String} (ho : y.cls = own) (hnm : y.name = "<init>")
    (body : ∀ (p : Program) (e : Env) (s : State) (m : MethodId) (args : Array Value) (below : List Frame) (meth : Method) (c : Code) (ls : Array Slot), fb_CC p s m args meth c D own cc → lv_has ls 1 [(0, .ref h0)] → fb_WW D (cc_A h0 ci dfs s.heap.size) s [(h0, .inr (ci, dfs))] s.heap [] →
      W p l e rm s m args below meth c s.heap [] 0 0 (MQ below (Qc s.heap.size) args s mc ms (cc_A h0 ci dfs s.heap.size)) (F0 m 0 ls [])) : ∀ sz : Nat, Met l y (.code y cc 1 none :: fb_tb) rm (cc_Pc D h0 ci dfs sz) (Qc sz) mc ms (cc_A h0 ci dfs sz) := by
  intro sz
  refine Met.ofW (cc := cc) (maxL := 1) (ret := none) hy rfl ?_
  intro p e s m args below meth c s₁ B hml hv
  obtain ⟨rfl, hsz, hP, hK, hD0, hN⟩ := hv
  subst hsz
  have hts := atoms_spec (ws := Cond.code y cc 1 none :: fb_tb) B.pre
  have hown : s.vm.findClass y.cls = some m.cls := findClass_of_methodNamed B.named
  have hin : meth.name = y.name := (name_of_methodNamed B.named B.method).1
  have hl := lv_entry [.ref h0] (n := 1) (Nat.le_of_ble_eq_true rfl)
  rw [lg_entry_eq]
  exact body p e s m _ below meth c _ ⟨⟨B.exec, B.bytes, hml, ho ▸ hown, fun w hw => hts w (List.mem_cons_of_mem _ hw)⟩, ⟨B.notSynchronized, hin.trans hnm, B.returns⟩, hK, hN⟩ hl ⟨hP, hD0.self, va_S.rf⟩
theorem cc_hA {h0 ci : Nat} {dfs : List Value} {sz : Nat} : ∀ q, sz ≤ q → cc_A h0 ci dfs sz q := fun _ h => Or.inr h
section CCR
variable {p : Program} {l : Launch} {e : Env} {R : Room} {s : State} {m : MethodId} {args : Array Value} {below : List Frame} {meth : Method} {c : Code} {H : Heap} {locs : List Loc} {cells slots : Nat} {Q : State → Prop}
variable {cc : ByteArray} {pc : Nat} {ls : Array Slot} {rest : List Value} {own : String} {D : fb_D0} {A : Nat → Prop} {ws : va_W}
theorem cc_obj (C : fb_CC p s m args meth c D own cc) {idx a : Nat} (ml : Cond.methodLink own idx Lib.objectInit ∈ fb_tb) (m2 : Cond.instanceMethod Lib.objectInit ∈ fb_tb) (m3 : Cond.code Lib.objectInit ⟨#[0xb1]⟩ 1 none ∈ fb_tb) (hl : ls.size = 1) (hdg : decode cc pc = .ok (.invokespecial idx, 3)) (hR : 1 ≤ R.frames ∧ 12 ≤ R.locals)
    (kk : W p l e R s m args below meth c H locs cells slots Q (F0 m (pc + 3) ls [])) : W p l e R s m args below meth c H locs cells slots Q (F0 m pc ls [.ref a]) :=
  W.objInit C.1.1 C.1.2.1 C.1.2.2.2.1 (C.1.2.2.2.2 _ ml) (C.1.2.2.2.2 _ m2) (C.1.2.2.2.2 _ m3) rfl (by rw [C.1.2.2.1]; exact hl) rfl hdg hR.1 hR.2 (W.eq (g2 := F0 m (pc + 3) ls []) rfl kk)
theorem fb_one {D : va_G} {tys : List (ClassId × FieldType)} {U : State} {k : Nat} {a b : ClassId} {t : FieldType} (ht : ∀ C, t ≠ .object C) (hK : va_K D vwCl (tys ++ [(b, t)]) U) (hk : tys[k]? = some (a, t)) : b = a := by
  have h1 := (hK.2 k (a, t) (by rw [List.getElem?_append_left (List.getElem?_eq_some_iff.mp hk).1]; exact hk)).2
  have h2 := (hK.2 tys.length (b, t) (by rw [List.getElem?_append_right (Nat.le_refl _)]; simp)).2
  have key : ∀ c : ClassId, va_RA U c t → U.vm.findClass ("[" ++ t.toString) = some c := fun c hc => by
    cases t <;> first | exact hc | exact absurd rfl (ht _)
  have := (key _ h1).symm.trans (key _ h2)
  injection this with e
  exact e.symm
theorem cc_newI (C : fb_CC p s m args meth c D own cc) (w : fb_WW D A s ws H locs) (hA : ∀ q, s.heap.size ≤ q → A q) (n : Nat) {cells' slots' : Nat} (ha : Cond.arrayClass .int ∈ fb_tb) (hn : Nat.ble n 1000 = true) (hc : cells + 1 = cells') (hs : slots + n = slots') (hR : cells' ≤ R.cells ∧ slots' ≤ R.slots) (hdg : decode cc pc = .ok (.newarray .int, 2))
    (kk : ∀ (q : Nat) (H1 : Heap), fb_WW D A s (ws ++ [(q, zI D.2.1 n)]) H1 locs → W p l e R s m args below meth c H1 locs cells' slots' Q (F0 m (pc + 2) ls (.ref q :: rest))) : W p l e R s m args below meth c H locs cells slots Q (F0 m pc ls (.int (fb_I n) :: rest)) := by
  have hn := Nat.le_of_ble_eq_true hn
  subst hc; subst hs
  refine va_newa (atype := .int) (ty := .int) (a0 := (n, .inl fun _ => fb_I 0)) (N' := n) C.1.1 C.1.2.1 (C.1.2.2.2.2 _ ha) rfl C.2.2.1 w.1 w.2.1 w.2.2 hA (fun cA => by rw [vp_cell_i]; rfl) (fun q => ?_) ?_ ?_ hR.1 hR.2 hdg (fun q cA H1 hK hP hD hS => ?_)
  · rw [fb_I_0, fb_I_lt (by omega) (by omega)] at q; omega
  · rw [fb_I_nat (by omega) (by omega)]; omega
  · show n * 4 ≤ 536870912; omega
  · have := fb_one (fun C h => by cases h) (k := 0) hK rfl
    subst this
    exact kk q H1 ⟨hP, hD, hS⟩
theorem cc_newZ (C : fb_CC p s m args meth c D own cc) (w : fb_WW D A s ws H locs) (hA : ∀ q, s.heap.size ≤ q → A q) (n : Nat) {cells' slots' : Nat} (ha : Cond.arrayClass .boolean ∈ fb_tb) (hn : Nat.ble n 1000 = true) (hc : cells + 1 = cells') (hs : slots + n = slots') (hR : cells' ≤ R.cells ∧ slots' ≤ R.slots) (hdg : decode cc pc = .ok (.newarray .boolean, 2))
    (kk : ∀ (q : Nat) (H1 : Heap), fb_WW D A s (ws ++ [(q, zI D.2.2.1 n)]) H1 locs → W p l e R s m args below meth c H1 locs cells' slots' Q (F0 m (pc + 2) ls (.ref q :: rest))) : W p l e R s m args below meth c H locs cells slots Q (F0 m pc ls (.int (fb_I n) :: rest)) := by
  have hn := Nat.le_of_ble_eq_true hn
  subst hc; subst hs
  refine va_newa (atype := .boolean) (ty := .boolean) (a0 := (n, .inl fun _ => fb_I 0)) (N' := n) C.1.1 C.1.2.1 (C.1.2.2.2.2 _ ha) rfl C.2.2.1 w.1 w.2.1 w.2.2 hA (fun cA => by rw [vp_cell_i]; rfl) (fun q => ?_) ?_ ?_ hR.1 hR.2 hdg (fun q cA H1 hK hP hD hS => ?_)
  · rw [fb_I_0, fb_I_lt (by omega) (by omega)] at q; omega
  · rw [fb_I_nat (by omega) (by omega)]; omega
  · show n * 1 ≤ 536870912; omega
  · have := fb_one (fun C h => by cases h) (k := 1) hK rfl
    subst this
    exact kk q H1 ⟨hP, hD, hS⟩
theorem cc_putF (C : fb_CC p s m args meth c D own cc) (w : fb_WW D A s ws H locs) {ws' : va_W} {a ci j index : Nat} {fs : List Value} {Cn : String} {T : u_T} {N : Nat} (he : ws[0]? = some (a, .inr (ci, fs))) (hf : fb_FL own index ci j Cn T N) {ty0 : Nat → FieldType} (hty : ∀ k, k < N → parseFieldDescriptor (T k).2.2.1 = some (ty0 k)) (hnm : ∀ a, a < N → ∀ b, b < N → a ≠ b → (T a).2.1 ≠ (T b).2.1) (hfin : (T j).2.2.2 = true) (hdecl : (T j).1 = own) {v : Value} (hn : narrow (ty0 j) v = v) (hfit : fits (ty0 j) v = true) (hl : j < fs.length) (hws : ws.set 0 (a, .inr (ci, fs.set j v)) = ws') (hdg : decode cc pc = .ok (.putfield index, 3))
    (kk : ∀ (H1 : Heap) (locs1 : List Loc), fb_WW D A s ws' H1 locs1 → W p l e R s m args below meth c H1 locs1 cells slots Q (F0 m (pc + 3) ls rest)) : W p l e R s m args below meth c H locs cells slots Q (F0 m pc ls (v :: .ref a :: rest)) := by
  subst hws
  exact va_putF (ty := ty0 j) C.1.1 C.1.2.1 C.1.2.2.2.2 hf.1 ty0 hty hnm C.1.2.2.2.1 C.2.2.1 w.1 w.2.1 w.2.2 0 he hf.2.1 j hf.2.2.1 (C.1.2.2.2.2 _ hf.2.2.2) (fun _ h => h) hfin C.2.1.2.1 hdecl (hty j hf.2.2.1) hn hfit hl hdg (fun H1 locs1 a1 a2 a3 => kk H1 locs1 ⟨a1, a2, a3⟩)
theorem cc_put (C : fb_CC p s m args meth c D own cc) (w : fb_WW D A s ws H locs) {ws' : va_W} {a ci j index : Nat} {fs : List Value} {Cn : String} {T : u_T} {N : Nat} (he : ws[0]? = some (a, .inr (ci, fs))) (hf : fb_FL own index ci j Cn T N) {ty0 : Nat → FieldType} (hty : ∀ k, k < N → parseFieldDescriptor (T k).2.2.1 = some (ty0 k)) (hnm : ∀ a, a < N → ∀ b, b < N → a ≠ b → (T a).2.1 ≠ (T b).2.1) (hfin : (T j).2.2.2 = false) {v : Value} (hn : narrow (ty0 j) v = v) (hfit : fits (ty0 j) v = true) (hl : j < fs.length) (hws : ws.set 0 (a, .inr (ci, fs.set j v)) = ws') (hdg : decode cc pc = .ok (.putfield index, 3))
    (kk : ∀ (H1 : Heap) (locs1 : List Loc), fb_WW D A s ws' H1 locs1 → W p l e R s m args below meth c H1 locs1 cells slots Q (F0 m (pc + 3) ls rest)) : W p l e R s m args below meth c H locs cells slots Q (F0 m pc ls (v :: .ref a :: rest)) := by
  subst hws
  exact va_put (ty := ty0 j) C.1.1 C.1.2.1 C.1.2.2.2.2 hf.1 ty0 hty hnm C.1.2.2.2.1 C.2.2.1 w.1 w.2.1 w.2.2 0 he hf.2.1 j hf.2.2.1 (C.1.2.2.2.2 _ hf.2.2.2) (fun _ h => h) hfin (hty j hf.2.2.1) hn hfit hl hdg (fun H1 locs1 a1 a2 a3 => kk H1 locs1 ⟨a1, a2, a3⟩)
theorem cc_new (C : fb_CC p s m args meth c D own cc) (w : fb_WW D A s ws H locs) (hA : ∀ q, s.heap.size ≤ q → A q) {Cn : String} {T : u_T} {N ci index cells' slots' : Nat} (hin : ∀ x ∈ u_ws Cn T N, x ∈ fb_tb) {ty : Nat → FieldType} (hty : ∀ k, k < N → parseFieldDescriptor (T k).2.2.1 = some (ty k)) (h1 : Cond.classLink own index Cn ∈ fb_tb) (h2 : Cond.instantiable Cn N ∈ fb_tb) (h3 : Cond.initialized Cn ∈ fb_tb) (hc : vwCl[ci]? = some (Cn, T, N)) {fs : List Value} (hfs : ∀ j, j < N → defaultValue (ty j) = vp_V fs j) (hce : cells + 1 = cells') (hsl : slots + N = slots') (hR : cells' ≤ R.cells ∧ slots' ≤ R.slots) (hdg : decode cc pc = .ok (.new index, 3))
    (kk : ∀ (q : Nat) (H1 : Heap), fb_WW D A s (ws ++ [(q, .inr (ci, fs))]) H1 locs → W p l e R s m args below meth c H1 locs cells' slots' Q (F0 m (pc + 3) ls (.ref q :: rest))) : W p l e R s m args below meth c H locs cells slots Q (F0 m pc ls rest) := by
  subst hce; subst hsl
  exact va_new C.1.1 C.1.2.1 C.1.2.2.2.2 hin ty hty C.1.2.2.2.1 (C.1.2.2.2.2 _ h1) (C.1.2.2.2.2 _ h2) (C.1.2.2.2.2 _ h3) C.2.2.1 w.1 w.2.1 w.2.2 hA hc hfs hR.1 hR.2 hdg (fun q H1 a1 a2 a3 => kk q H1 ⟨a1, a2, a3⟩)
/-- a nest mate's constructor, on the last of the cells -/
theorem cc_call (C : fb_CC p s m args meth c D own cc) {wr : va_W} {a ci : Nat} {dfs : List Value} (w : fb_WW D A s (wr ++ [(a, .inr (ci, dfs))]) H locs) (hA : ∀ q, s.heap.size ≤ q → A q) {y : MethodName} {bytes : ByteArray} {rm : Room} {wX : ClassId → (Nat → Nat) → va_W} {mc ms index cells' slots' : Nat} {host : String} (hM : cc_M l D y bytes rm a ci dfs wX mc ms) (hN : va_Nw (.methodLinkNest own index y host) s)
    (h1 : Cond.code y bytes 1 none ∈ fb_tb) (h2 : Cond.instanceMethod y ∈ fb_tb) (h3 : Cond.initialized y.cls ∈ fb_tb) (hy : y.name = "<init>") (hd : y.cls ≠ "java/lang/invoke/MethodHandle" ∧ y.cls ≠ "java/lang/invoke/VarHandle" ∧ (parseMethodDescriptor y.desc).map (fun d => d.parameters.length) = some 0) (hrm : rm.cells = mc ∧ rm.slots = ms)
    (isR : List Nat) (hnd : va_nd isR = true) (hlen : isR = List.range wr.length) (hl : ls.size = 1) (hce : cells + mc = cells') (hsl : slots + ms = slots') (hR : rm.frames + 1 ≤ R.frames ∧ 8 + (1 + 11) + rm.locals ≤ R.locals ∧ cells' ≤ R.cells ∧ slots' ≤ R.slots) (hrs : (rest.map fun v => v.category).sum ≤ 8) (hdg : decode cc pc = .ok (.invokespecial index, 3))
    (kk : ∀ (u : Nat → Nat) (H1 : Heap) (locs1 : List Loc), u 0 = a → fb_WW D A s (wr ++ wX D.2.1 u) H1 locs1 → W p l e R s m args below meth c H1 locs1 cells' slots' Q (F0 m (pc + 3) ls rest)) : W p l e R s m args below meth c H locs cells slots Q (F0 m pc ls (.ref a :: rest)) := by
  subst hce; subst hsl
  obtain ⟨hP, hD, hS⟩ := w
  have hC : ([wr.length] : List Nat).map (fun i => (wr ++ [(a, (.inr (ci, dfs) : va_E))])[i]?) = ([(a, (.inr (ci, dfs) : va_E))] : va_W).map some := by simp
  have hRR : isR.map (fun i => (wr ++ [(a, (.inr (ci, dfs) : va_E))])[i]?) = wr.map some := by
    rw [hlen]
    apply List.ext_getElem?
    intro k
    rw [List.getElem?_map, List.getElem?_map]
    by_cases hk : k < wr.length
    · rw [List.getElem?_range hk]
      simp [List.getElem?_append_left hk, List.getElem?_eq_getElem hk]
    · rw [List.getElem?_eq_none (by simpa using hk), List.getElem?_eq_none (by omega)]; rfl
  have hPc : va_P D.1 vwCl [(a, .inr (ci, dfs))] H := fun k q hq => by
    have hz : k < 1 := (List.getElem?_eq_some_iff.mp hq).1
    rw [show k = 0 by omega] at hq
    exact hP wr.length q (by rw [List.getElem?_append_right (Nat.le_refl _)]; simpa using hq)
  have hDc : va_D (fun _ => True) [(a, (.inr (ci, dfs) : va_E))] := ⟨fun i j x y hx hy _ => by
    have h1 := (List.getElem?_eq_some_iff.mp hx).1
    have h2 := (List.getElem?_eq_some_iff.mp hy).1
    simp at h1 h2
    omega, fun _ _ _ => trivial⟩
  have hFc := va_free (wc := [(a, .inr (ci, dfs))]) hD hS hA [wr.length] hC
  have hG : GoodIn fb_tb (.code y bytes 1 none :: fb_tb) := fb_good (fun w hw => by
    rcases List.mem_cons.mp hw with h | h
    · rw [h]; exact h1
    · exact h)
  refine va_callv (va_runIN (As := []) (rest := rest) (n := 0) C.1 (hM H.size) ⟨va_cnB 0 C.1.2.2.2.2 hG rfl hrm.1 hrm.2 hN (C.1.2.2.2.2 _ h3) hd ⟨hR.1, hR.2.1⟩, hy, C.1.2.2.2.2 _ h2⟩ ⟨fun x U g mk q => ?_, fun U hU hW => ⟨rfl, by rw [hU], by rw [hU]; exact hPc, va_K.moved hW.alike C.2.2.1, hDc, C.2.2.2.warm hW⟩⟩ rfl rfl hl rfl (lv_room hrs) hdg ⟨hR.2.2.1, hR.2.2.2⟩) hS (fun q _ h => hFc q h) hFc (fun u t H1 locs1 ht hvm hw hB hz1 hk1 hS1 => ?_)
  · obtain ⟨q0, q1, qP, qK, qD, qN⟩ := q
    exact ⟨q0, q1, qP, va_K.moved (u := U) (U := U.calling g mk x) (Vm.Alike.refl U.vm) qK, qD, qN.same rfl⟩
  · obtain ⟨hP1, hD1⟩ := hB
    rw [ht] at hP1
    obtain ⟨hP2, hD2⟩ := va_join (wr := wr) (wc := [(a, .inr (ci, dfs))]) (w1 := wX D.2.1 u) hP hD [wr.length] isR hC hRR hnd (fun i hi => by
      rw [hlen] at hi
      have := List.mem_range.mp hi
      intro h
      have := List.mem_singleton.mp h
      omega) hk1 hFc hP1 hD1
    exact kk u H1 locs1 hw ⟨hP2, hD2, hS1⟩
theorem cc_ret (C : fb_CC p s m args meth c D own cc) {h0 ci : Nat} {dfs : List Value} {wX : ClassId → (Nat → Nat) → va_W} (w : fb_WW D (cc_A h0 ci dfs s.heap.size) s ws H locs) (u : Nat → Nat) (hu : u 0 = h0) (hws : ws = wX D.2.1 u) (hdg : decode cc pc = .ok (.return_, 1)) : W p l e R s m args below meth c H locs cells slots (MQ below (cc_Qc D h0 ci dfs wX s.heap.size) args s cells slots (cc_A h0 ci dfs s.heap.size)) (F0 m pc ls []) := by
  subst hws
  exact W.vret C.1.1 C.1.2.1 C.2.1.2.2 (fun t ht hW => ⟨⟨u, rfl, hu, by rw [ht]; exact w.1, w.2.1⟩, w.2.2.F ht⟩) w.2.2.2.2 hdg C.2.1.1
end CCR
