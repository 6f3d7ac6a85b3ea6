/-! ===== contracts and calls ===== -/
def fb_Pc (G : fb_G) (own : String) (av : List Value) (σ : fb_St) (sz : Nat) : Array Value → State → Prop := va_Pc av (fun U => U.heap.size = sz ∧ va_P G.1 vwCl (fb_W G σ) U.heap ∧ va_K G.1 vwCl (fb_tys G) U ∧ va_D (fun _ => True) (fb_W G σ) ∧ (∀ k i, fb_in (σ k i)) ∧ fb_N U ∧ fb_n own ≤ G.2.2.2.2.2)
def fb_BW (G : fb_G) (sz : Nat) (σ : fb_St) (t : State) : Prop := va_P G.1 vwCl (fb_W G σ) t.heap ∧ va_D (fb_A G sz) (fb_W G σ) ∧ ∀ k i, fb_in (σ k i)
def fb_Qi (G : fb_G) (sz : Nat) (Qp : Int → fb_St → Prop) : Array Value → State → Outcome → State → Prop := va_Qi (S := Int × fb_St) (fun r u => r = fb_I u.1 ∧ fb_in u.1 ∧ Qp u.1 u.2) (fun u t => fb_BW G sz u.2 t) (fb_A G sz)
def fb_Qv (G : fb_G) (sz : Nat) (Qp : Int → fb_St → Prop) : Array Value → State → Outcome → State → Prop := va_Qv (S := fb_St) (fun u => Qp 0 u) (fun u t => fb_BW G sz u t) (fb_A G sz)
def fb_Qr (G : fb_G) (sz k : Nat) (Qp : Int → fb_St → Prop) : Array Value → State → Outcome → State → Prop := va_Qr (S := fb_St) (fun u => Qp 0 u) (fun u a t => a = fb_ad G k ∧ fb_BW G sz u t) (fb_A G sz)
abbrev fb_M (l : Launch) (G : fb_G) (y : MethodName) (cc : ByteArray) (nL : Nat) (ret : Option FieldType) (rm : Room) (av : List Value) (σ : fb_St) (Qc : Nat → Array Value → State → Outcome → State → Prop) : Prop :=
  ∀ sz : Nat, Met l y (.code y cc nL ret :: fb_tb) rm (fb_Pc G y.cls av σ sz) (Qc sz) 0 0 (fb_A G sz)
abbrev fb_MI (l : Launch) (G : fb_G) (y : MethodName) (cc : ByteArray) (nL : Nat) (ret : Option FieldType) (rm : Room) (av : List Value) (σ : fb_St) (Qp : Int → fb_St → Prop) : Prop := fb_M l G y cc nL ret rm av σ (fun sz => fb_Qi G sz Qp)
abbrev fb_MV (l : Launch) (G : fb_G) (y : MethodName) (cc : ByteArray) (nL : Nat) (rm : Room) (av : List Value) (σ : fb_St) (Qp : Int → fb_St → Prop) : Prop := fb_M l G y cc nL none rm av σ (fun sz => fb_Qv G sz Qp)
abbrev fb_MR (l : Launch) (G : fb_G) (y : MethodName) (cc : ByteArray) (nL : Nat) (ret : Option FieldType) (rm : Room) (k : Nat) (av : List Value) (σ : fb_St) (Qp : Int → fb_St → Prop) : Prop := fb_M l G y cc nL ret rm av σ (fun sz => fb_Qr G sz k Qp)
theorem fb_D_A {G : fb_G} {σ : fb_St} {A : Nat → Prop} (h : va_D A (fb_W G σ)) (sz : Nat) : va_D (fb_A G sz) (fb_W G σ) := ⟨h.1, fun k q hk => by
  obtain ⟨h1, h2⟩ := fb_W_addr hk
  exact Or.inl ⟨k, h1, h2⟩⟩
theorem fb_good {ws : List Cond} (h : ∀ w ∈ ws, w ∈ fb_tb) : GoodIn fb_tb ws := fun w hw => ⟨h w hw, good_of_word (List.mem_filter.mp (h w hw)).2⟩
theorem fb_ofW {l : Launch} {G : fb_G} {y : MethodName} {cc : ByteArray} {nL : Nat} {ret : Option FieldType} {rm : Room} {av : List Value} {σ : fb_St} {Qc : Nat → Array Value → State → Outcome → State → Prop} (hy : plainName y.cls = true) (ha : (lg_sl av).length ≤ nL) {own : String} (ho : y.cls = own)
    (body : ∀ (p : Program) (e : Env) (s : State) (m : MethodId) (args : Array Value) (below : List Frame) (meth : Method) (c : Code) (ls : Array Slot), fb_C p s m args meth c G own cc nL → meth.sig.returnType = ret → lv_has ls nL (lv_args 0 av) → fb_Wd G s σ s.heap [] →
      W p l e rm s m args below meth c s.heap [] 0 0 (MQ below (Qc s.heap.size) args s 0 0 (fb_A G s.heap.size)) (F0 m 0 ls [])) : fb_M l G y cc nL ret rm av σ Qc := by
  intro sz
  refine Met.ofW (cc := cc) (maxL := nL) (ret := ret) hy rfl ?_
  intro p e s m args below meth c s₁ B hml hv
  obtain ⟨rfl, hsz, hP, hK, hD0, hin, hN, hnn⟩ := hv
  subst hsz
  have hts := atoms_spec (ws := Cond.code y cc nL ret :: fb_tb) B.pre
  have hown : s.vm.findClass y.cls = some m.cls := findClass_of_methodNamed B.named
  have hl := lv_entry av (n := nL) ha
  rw [lg_entry_eq]
  exact body p e s m _ below meth c _ ⟨⟨B.exec, B.bytes, hml, ho ▸ hown, fun w hw => hts w (List.mem_cons_of_mem _ hw)⟩, ⟨⟨B.notSynchronized, hN⟩, ho ▸ hnn⟩, hK⟩ B.returns hl ⟨hP, fb_D_A hD0 _, va_S.rf, hin⟩
section FBC
variable {p : Program} {l : Launch} {e : Env} {R : Room} {s : State} {m : MethodId} {args : Array Value} {below : List Frame} {meth : Method} {c : Code} {H : Heap} {locs : List Loc} {cells slots : Nat} {Q : State → Prop}
variable {cc : ByteArray} {pc nL : Nat} {ls : Array Slot} {rest : List Value} {own : String} {G : fb_G} {σ : fb_St}
/-- the ends of a method -/
abbrev fb_RI (p : Program) (l : Launch) (e : Env) (R : Room) (s : State) (m : MethodId) (args : Array Value) (below : List Frame) (meth : Method) (c : Code) (G : fb_G) (cc : ByteArray) (Q : State → Prop) (Qp : Int → fb_St → Prop) : Prop :=
  ∀ (x : Int) (σ : fb_St) (H : Heap) (locs : List Loc) (pc : Nat) (ls : Array Slot), fb_in x → Qp x σ → fb_Wd G s σ H locs → decode cc pc = .ok (.ireturn, 1) → W p l e R s m args below meth c H locs 0 0 Q (F0 m pc ls [.int (fb_I x)])
abbrev fb_RZ (p : Program) (l : Launch) (e : Env) (R : Room) (s : State) (m : MethodId) (args : Array Value) (below : List Frame) (meth : Method) (c : Code) (G : fb_G) (cc : ByteArray) (Q : State → Prop) (Qp : Int → fb_St → Prop) : Prop :=
  ∀ (x : Int) (σ : fb_St) (H : Heap) (locs : List Loc) (pc : Nat) (ls : Array Slot), fb_in x → fb_B x → Qp x σ → fb_Wd G s σ H locs → decode cc pc = .ok (.ireturn, 1) → W p l e R s m args below meth c H locs 0 0 Q (F0 m pc ls [.int (fb_I x)])
abbrev fb_RV (p : Program) (l : Launch) (e : Env) (R : Room) (s : State) (m : MethodId) (args : Array Value) (below : List Frame) (meth : Method) (c : Code) (G : fb_G) (cc : ByteArray) (Q : State → Prop) (Qp : Int → fb_St → Prop) : Prop :=
  ∀ (σ : fb_St) (H : Heap) (locs : List Loc) (pc : Nat) (ls : Array Slot), Qp 0 σ → fb_Wd G s σ H locs → decode cc pc = .ok (.return_, 1) → W p l e R s m args below meth c H locs 0 0 Q (F0 m pc ls [])
abbrev fb_RR (p : Program) (l : Launch) (e : Env) (R : Room) (s : State) (m : MethodId) (args : Array Value) (below : List Frame) (meth : Method) (c : Code) (G : fb_G) (cc : ByteArray) (Q : State → Prop) (k : Nat) (Qp : Int → fb_St → Prop) : Prop :=
  ∀ (σ : fb_St) (H : Heap) (locs : List Loc) (pc : Nat) (ls : Array Slot), Qp 0 σ → fb_Wd G s σ H locs → decode cc pc = .ok (.areturn, 1) → W p l e R s m args below meth c H locs 0 0 Q (F0 m pc ls [.ref (fb_ad G k)])
theorem fb_reti {Qp : Int → fb_St → Prop} (C : fb_C p s m args meth c G own cc nL) (hr : meth.sig.returnType = some .int) : fb_RI p l e R s m args below meth c G cc (MQ below (fb_Qi G s.heap.size Qp) args s 0 0 (fb_A G s.heap.size)) Qp := by
  intro x σ H locs pc ls ix hq w hdg
  exact W.iret C.1.1 C.1.2.1 hr (fun t ht hW => ⟨⟨fb_I x, (x, σ), rfl, ⟨rfl, ix, hq⟩, by rw [ht]; exact w.1, w.2.1, w.2.2.2⟩, w.2.2.1.F ht⟩) w.2.2.1.2.2 hdg C.2.1.1.1
theorem fb_retz {Qp : Int → fb_St → Prop} (C : fb_C p s m args meth c G own cc nL) (hr : meth.sig.returnType = some .boolean) : fb_RZ p l e R s m args below meth c G cc (MQ below (fb_Qi G s.heap.size Qp) args s 0 0 (fb_A G s.heap.size)) Qp := by
  intro x σ H locs pc ls ix hB hq w hdg
  exact W.zret C.1.1 C.1.2.1 hr (fb_nzb hB) (fun t ht hW => ⟨⟨fb_I x, (x, σ), rfl, ⟨rfl, ix, hq⟩, by rw [ht]; exact w.1, w.2.1, w.2.2.2⟩, w.2.2.1.F ht⟩) w.2.2.1.2.2 hdg C.2.1.1.1
theorem fb_retv {Qp : Int → fb_St → Prop} (C : fb_C p s m args meth c G own cc nL) (hr : meth.sig.returnType = none) : fb_RV p l e R s m args below meth c G cc (MQ below (fb_Qv G s.heap.size Qp) args s 0 0 (fb_A G s.heap.size)) Qp := by
  intro σ H locs pc ls hq w hdg
  exact W.vret C.1.1 C.1.2.1 hr (fun t ht hW => ⟨⟨σ, rfl, hq, by rw [ht]; exact w.1, w.2.1, w.2.2.2⟩, w.2.2.1.F ht⟩) w.2.2.1.2.2 hdg C.2.1.1.1
theorem fb_retr {Qp : Int → fb_St → Prop} {k : Nat} {rt : FieldType} (C : fb_C p s m args meth c G own cc nL) (hr : meth.sig.returnType = some rt) (hrt : (∃ n, rt = .object n) ∨ ∃ t, rt = .array t) : fb_RR p l e R s m args below meth c G cc (MQ below (fb_Qr G s.heap.size k Qp) args s 0 0 (fb_A G s.heap.size)) k Qp := by
  intro σ H locs pc ls hq w hdg
  exact W.aret C.1.1 C.1.2.1 hr hrt (Or.inr ⟨_, rfl⟩) (fun t ht hW => ⟨⟨σ, _, rfl, hq, rfl, by rw [ht]; exact w.1, w.2.1, w.2.2.2⟩, w.2.2.1.F ht⟩) w.2.2.1.2.2 hdg C.2.1.1.1
/-- a method's link at a call -/
def fb_LV (own : String) (index : Nat) (Cn : String) (y : MethodName) (cc : ByteArray) (nL : Nat) (ret : Option FieldType) (n : Nat) : Prop :=
  (∀ w ∈ ([.methodLink own index y, .instanceMethod y, .selects Cn y y, .initialized Cn, .code y cc nL ret] : List Cond), w ∈ fb_tb) ∧ fb_n y.cls ≤ fb_n own ∧ (y.cls = Cn ∧ y.cls ≠ "java/lang/invoke/MethodHandle" ∧ y.cls ≠ "java/lang/invoke/VarHandle" ∧ (parseMethodDescriptor y.desc).map (fun d => d.parameters.length) = some n)
def fb_LS (own : String) (index : Nat) (y : MethodName) (cc : ByteArray) (nL : Nat) (ret : Option FieldType) (n : Nat) : Prop :=
  (∀ w ∈ ([.methodLink own index y, .static y, .initialized y.cls, .code y cc nL ret] : List Cond), w ∈ fb_tb) ∧ fb_n y.cls ≤ fb_n own ∧ (y.cls ≠ "java/lang/invoke/MethodHandle" ∧ y.cls ≠ "java/lang/invoke/VarHandle" ∧ (parseMethodDescriptor y.desc).map (fun d => d.parameters.length) = some n)
theorem fb_LV.good {index : Nat} {Cn : String} {y : MethodName} {cc : ByteArray} {nL : Nat} {ret : Option FieldType} {n : Nat} (h : fb_LV own index Cn y cc nL ret n) : GoodIn fb_tb (wsV own index Cn y (.code y cc nL ret :: fb_tb)) := by
  refine fb_good (fun w hw => ?_)
  unfold wsV at hw
  rcases List.mem_append.mp hw with hw | hw
  · exact h.1 w (by simp only [List.mem_cons, List.not_mem_nil, or_false] at hw ⊢; rcases hw with h | h | h | h <;> simp [h])
  · rcases List.mem_cons.mp hw with hw | hw
    · exact h.1 w (by simp [hw])
    · exact hw
theorem fb_LS.good {index : Nat} {y : MethodName} {cc : ByteArray} {nL : Nat} {ret : Option FieldType} {n : Nat} (h : fb_LS own index y cc nL ret n) : GoodIn fb_tb (va_wsS own index y (.code y cc nL ret :: fb_tb)) := by
  refine fb_good (fun w hw => ?_)
  unfold va_wsS at hw
  rcases List.mem_append.mp hw with hw | hw
  · exact h.1 w (by simp only [List.mem_cons, List.not_mem_nil, or_false] at hw ⊢; rcases hw with h | h | h <;> simp [h])
  · rcases List.mem_cons.mp hw with hw | hw
    · exact h.1 w (by simp [hw])
    · exact hw
theorem fb_blind (cn : String) (av : List Value) (sz : Nat) : FrameBlind (fb_Pc G cn av σ sz) := fun a U g mk q => by
  obtain ⟨q0, q1, qP, qK, qD, qI, qN⟩ := q
  exact ⟨q0, q1, qP, va_K.moved (u := U) (U := U.calling g mk a) (Vm.Alike.refl U.vm) qK, qD, qI, ⟨va_Nw.same rfl rfl qN.1.1, va_Nw.same rfl rfl qN.1.2.1, va_Nw.same rfl rfl qN.1.2.2⟩, qN.2⟩
theorem fb_pre (C : fb_C p s m args meth c G own cc nL) (w : fb_Wd G s σ H locs) {cn : String} (hcn : fb_n cn ≤ fb_n own) {av : List Value} (U : State) (hU : U.heap = H) (hW : s.WarmedH U.vm) : fb_Pc G cn av σ H.size av.toArray U :=
  ⟨rfl, by rw [hU], by rw [hU]; exact w.1, va_K.moved hW.alike C.2.2, w.2.1.weaken (fun _ _ _ _ => trivial), w.2.2.2, ⟨va_Nw.warmM hW C.2.1.1.2.1, va_Nw.warmM hW C.2.1.1.2.2.1, va_Nw.warmM hW C.2.1.1.2.2.2⟩, Nat.le_trans hcn C.2.1.2⟩
theorem fb_A_mono (w : fb_Wd G s σ H locs) : ∀ q, fb_A G H.size q → fb_A G s.heap.size q := fun q h => by
  rcases h with h | h
  · exact Or.inl h
  · exact Or.inr (Nat.le_trans w.2.2.1.1 h)
theorem fb_back {A0 : Nat → Prop} {H1 : Heap} {locs1 : List Loc} {σ1 : fb_St} {t : State} {sz : Nat} (ht : t.heap = H1) (hB : fb_BW G sz σ1 t) (hS : va_S (fb_A G s.heap.size) s.heap H1 locs1) : fb_Wd G s σ1 H1 locs1 :=
  ⟨by rw [← ht]; exact hB.1, fb_D_A hB.2.1 _, hS, hB.2.2⟩
theorem fb_callVi (C : fb_C p s m args meth c G own cc nL) (w : fb_Wd G s σ H locs) {y : MethodName} {bytes : ByteArray} {maxL : Nat} {ret : Option FieldType} {rm : Room} {As : List Value} {k ci index n : Nat} {fs : List (Option Nat)} {Cn : String} {T : u_T} {N : Nat} {Qp : Int → fb_St → Prop} {st : List Value}
    (hM : fb_MI l G y bytes maxL ret rm (.ref (fb_ad G k) :: As) σ Qp) (ml : fb_LV own index Cn y bytes maxL ret n) (hk : (fb_cl G)[k]? = some (fb_ob G ci fs)) (hc : vwCl[ci]? = some (Cn, T, N)) (hR : rm.cells = 0 ∧ rm.slots = 0 ∧ rm.frames + 1 ≤ R.frames ∧ 8 + (maxL + 11) + rm.locals ≤ R.locals ∧ cells ≤ R.cells ∧ slots ≤ R.slots)
    (hn : As.length = n) (hl : ls.size = nL) (hst : st = As.reverse ++ .ref (fb_ad G k) :: rest) (hrs : (rest.map fun v => v.category).sum ≤ 8) (hdg : decode cc pc = .ok (.invokevirtual index, 3))
    (kk : ∀ (r : Int) (σ1 : fb_St) (H1 : Heap) (locs1 : List Loc), Qp r σ1 → fb_in r → fb_Wd G s σ1 H1 locs1 → W p l e R s m args below meth c H1 locs1 cells slots Q (F0 m (pc + 3) ls (.int (fb_I r) :: rest))) : W p l e R s m args below meth c H locs cells slots Q (F0 m pc ls st) := by
  refine va_calli (va_runV (As := As) (rest := rest) (n := n) C.1 (hM H.size) (cwV n C.1.2.2.2.2 ml.good rfl hR.1 hR.2.1 ml.2.2 ⟨hR.2.2.1, hR.2.2.2.1⟩) ⟨fb_blind _ _ _, va_recv C.2.2 w.1 hc (fb_W_at hk), fun U hU hW => fb_pre C w ml.2.1 U hU hW⟩ rfl hn hl hst (lv_room hrs) hdg ⟨hR.2.2.2.2.1, hR.2.2.2.2.2⟩) w.2.2.1 (fun q _ h => fb_A_mono w q h) (fb_A_mono w) (fun r u t H1 locs1 ht hvm hw hB hz1 hk1 hS => ?_)
  obtain ⟨rfl, hin, hq⟩ := hw
  exact kk u.1 u.2 H1 locs1 hq hin (fb_back (A0 := fun _ => True) ht hB hS)
theorem fb_callVv (C : fb_C p s m args meth c G own cc nL) (w : fb_Wd G s σ H locs) {y : MethodName} {bytes : ByteArray} {maxL : Nat} {rm : Room} {As : List Value} {k ci index n : Nat} {fs : List (Option Nat)} {Cn : String} {T : u_T} {N : Nat} {Qp : Int → fb_St → Prop} {st : List Value}
    (hM : fb_MV l G y bytes maxL rm (.ref (fb_ad G k) :: As) σ Qp) (ml : fb_LV own index Cn y bytes maxL none n) (hk : (fb_cl G)[k]? = some (fb_ob G ci fs)) (hc : vwCl[ci]? = some (Cn, T, N)) (hR : rm.cells = 0 ∧ rm.slots = 0 ∧ rm.frames + 1 ≤ R.frames ∧ 8 + (maxL + 11) + rm.locals ≤ R.locals ∧ cells ≤ R.cells ∧ slots ≤ R.slots)
    (hn : As.length = n) (hl : ls.size = nL) (hst : st = As.reverse ++ .ref (fb_ad G k) :: rest) (hrs : (rest.map fun v => v.category).sum ≤ 8) (hdg : decode cc pc = .ok (.invokevirtual index, 3))
    (kk : ∀ (σ1 : fb_St) (H1 : Heap) (locs1 : List Loc), Qp 0 σ1 → fb_Wd G s σ1 H1 locs1 → W p l e R s m args below meth c H1 locs1 cells slots Q (F0 m (pc + 3) ls rest)) : W p l e R s m args below meth c H locs cells slots Q (F0 m pc ls st) := by
  refine va_callv (va_runV (As := As) (rest := rest) (n := n) C.1 (hM H.size) (cwV n C.1.2.2.2.2 ml.good rfl hR.1 hR.2.1 ml.2.2 ⟨hR.2.2.1, hR.2.2.2.1⟩) ⟨fb_blind _ _ _, va_recv C.2.2 w.1 hc (fb_W_at hk), fun U hU hW => fb_pre C w ml.2.1 U hU hW⟩ rfl hn hl hst (lv_room hrs) hdg ⟨hR.2.2.2.2.1, hR.2.2.2.2.2⟩) w.2.2.1 (fun q _ h => fb_A_mono w q h) (fb_A_mono w) (fun u t H1 locs1 ht hvm hw hB hz1 hk1 hS => ?_)
  exact kk u H1 locs1 hw (fb_back (A0 := fun _ => True) ht hB hS)
theorem fb_callVr (C : fb_C p s m args meth c G own cc nL) (w : fb_Wd G s σ H locs) {y : MethodName} {bytes : ByteArray} {maxL : Nat} {ret : Option FieldType} {rm : Room} {As : List Value} {k k2 ci index n : Nat} {fs : List (Option Nat)} {Cn : String} {T : u_T} {N : Nat} {Qp : Int → fb_St → Prop} {st : List Value}
    (hM : fb_MR l G y bytes maxL ret rm k2 (.ref (fb_ad G k) :: As) σ Qp) (ml : fb_LV own index Cn y bytes maxL ret n) (hk : (fb_cl G)[k]? = some (fb_ob G ci fs)) (hc : vwCl[ci]? = some (Cn, T, N)) (hR : rm.cells = 0 ∧ rm.slots = 0 ∧ rm.frames + 1 ≤ R.frames ∧ 8 + (maxL + 11) + rm.locals ≤ R.locals ∧ cells ≤ R.cells ∧ slots ≤ R.slots)
    (hn : As.length = n) (hl : ls.size = nL) (hst : st = As.reverse ++ .ref (fb_ad G k) :: rest) (hrs : (rest.map fun v => v.category).sum ≤ 8) (hdg : decode cc pc = .ok (.invokevirtual index, 3))
    (kk : ∀ (σ1 : fb_St) (H1 : Heap) (locs1 : List Loc), Qp 0 σ1 → fb_Wd G s σ1 H1 locs1 → W p l e R s m args below meth c H1 locs1 cells slots Q (F0 m (pc + 3) ls (.ref (fb_ad G k2) :: rest))) : W p l e R s m args below meth c H locs cells slots Q (F0 m pc ls st) := by
  refine va_callr (va_runV (As := As) (rest := rest) (n := n) C.1 (hM H.size) (cwV n C.1.2.2.2.2 ml.good rfl hR.1 hR.2.1 ml.2.2 ⟨hR.2.2.1, hR.2.2.2.1⟩) ⟨fb_blind _ _ _, va_recv C.2.2 w.1 hc (fb_W_at hk), fun U hU hW => fb_pre C w ml.2.1 U hU hW⟩ rfl hn hl hst (lv_room hrs) hdg ⟨hR.2.2.2.2.1, hR.2.2.2.2.2⟩) w.2.2.1 (fun q _ h => fb_A_mono w q h) (fb_A_mono w) (fun u a t H1 locs1 ht hvm hw hB hz1 hk1 hS => ?_)
  obtain ⟨rfl, hB⟩ := hB
  exact kk u H1 locs1 hw (fb_back (A0 := fun _ => True) ht hB hS)
theorem fb_callSi (C : fb_C p s m args meth c G own cc nL) (w : fb_Wd G s σ H locs) {y : MethodName} {bytes : ByteArray} {maxL : Nat} {ret : Option FieldType} {rm : Room} {As : List Value} {index n : Nat} {Qp : Int → fb_St → Prop} {st : List Value}
    (hM : fb_MI l G y bytes maxL ret rm As σ Qp) (ml : fb_LS own index y bytes maxL ret n) (hR : rm.cells = 0 ∧ rm.slots = 0 ∧ rm.frames + 1 ≤ R.frames ∧ 8 + (maxL + 11) + rm.locals ≤ R.locals ∧ cells ≤ R.cells ∧ slots ≤ R.slots)
    (hn : As.length = n) (hl : ls.size = nL) (hst : st = As.reverse ++ rest) (hrs : (rest.map fun v => v.category).sum ≤ 8) (hdg : decode cc pc = .ok (.invokestatic index, 3))
    (kk : ∀ (r : Int) (σ1 : fb_St) (H1 : Heap) (locs1 : List Loc), Qp r σ1 → fb_in r → fb_Wd G s σ1 H1 locs1 → W p l e R s m args below meth c H1 locs1 cells slots Q (F0 m (pc + 3) ls (.int (fb_I r) :: rest))) : W p l e R s m args below meth c H locs cells slots Q (F0 m pc ls st) := by
  refine va_calli (va_runS (As := As) (rest := rest) (n := n) C.1 (hM H.size) (va_cwS n C.1.2.2.2.2 ml.good rfl hR.1 hR.2.1 ml.2.2 ⟨hR.2.2.1, hR.2.2.2.1⟩) ⟨fb_blind _ _ _, fun U hU hW => fb_pre C w ml.2.1 U hU hW⟩ rfl hn hl hst (lv_room hrs) hdg ⟨hR.2.2.2.2.1, hR.2.2.2.2.2⟩) w.2.2.1 (fun q _ h => fb_A_mono w q h) (fb_A_mono w) (fun r u t H1 locs1 ht hvm hw hB hz1 hk1 hS => ?_)
  obtain ⟨rfl, hin, hq⟩ := hw
  exact kk u.1 u.2 H1 locs1 hq hin (fb_back (A0 := fun _ => True) ht hB hS)
def fb_LN (own : String) (y : MethodName) (cc : ByteArray) (nL : Nat) (ret : Option FieldType) (n : Nat) : Prop :=
  (∀ w ∈ ([.static y, .initialized y.cls, .code y cc nL ret] : List Cond), w ∈ fb_tb) ∧ fb_n y.cls ≤ fb_n own ∧ (y.cls ≠ "java/lang/invoke/MethodHandle" ∧ y.cls ≠ "java/lang/invoke/VarHandle" ∧ (parseMethodDescriptor y.desc).map (fun d => d.parameters.length) = some n)
theorem fb_callNi (C : fb_C p s m args meth c G own cc nL) (w : fb_Wd G s σ H locs) {y : MethodName} {bytes : ByteArray} {maxL : Nat} {ret : Option FieldType} {rm : Room} {As : List Value} {index n : Nat} {host : String} {Qp : Int → fb_St → Prop} {st : List Value} (hN : va_Nw (.methodLinkNest own index y host) s)
    (hM : fb_MI l G y bytes maxL ret rm As σ Qp) (ml : fb_LN own y bytes maxL ret n) (hR : rm.cells = 0 ∧ rm.slots = 0 ∧ rm.frames + 1 ≤ R.frames ∧ 8 + (maxL + 11) + rm.locals ≤ R.locals ∧ cells ≤ R.cells ∧ slots ≤ R.slots)
    (hn : As.length = n) (hl : ls.size = nL) (hst : st = As.reverse ++ rest) (hrs : (rest.map fun v => v.category).sum ≤ 8) (hdg : decode cc pc = .ok (.invokestatic index, 3))
    (kk : ∀ (r : Int) (σ1 : fb_St) (H1 : Heap) (locs1 : List Loc), Qp r σ1 → fb_in r → fb_Wd G s σ1 H1 locs1 → W p l e R s m args below meth c H1 locs1 cells slots Q (F0 m (pc + 3) ls (.int (fb_I r) :: rest))) : W p l e R s m args below meth c H locs cells slots Q (F0 m pc ls st) := by
  have hG : GoodIn fb_tb (.code y bytes maxL ret :: fb_tb) := fb_good (fun w hw => by
    rcases List.mem_cons.mp hw with h | h
    · rw [h]; exact ml.1 _ (by simp)
    · exact h)
  refine va_calli (va_runSN (As := As) (rest := rest) (n := n) C.1 (hM H.size) ⟨va_cnB n C.1.2.2.2.2 hG rfl hR.1 hR.2.1 hN (C.1.2.2.2.2 _ (ml.1 _ (by simp))) ml.2.2 ⟨hR.2.2.1, hR.2.2.2.1⟩, C.1.2.2.2.2 _ (ml.1 _ (by simp)), trivial⟩ ⟨fb_blind _ _ _, fun U hU hW => fb_pre C w ml.2.1 U hU hW⟩ rfl hn hl hst (lv_room hrs) hdg ⟨hR.2.2.2.2.1, hR.2.2.2.2.2⟩) w.2.2.1 (fun q _ h => fb_A_mono w q h) (fb_A_mono w) (fun r u t H1 locs1 ht hvm hw hB hz1 hk1 hS => ?_)
  obtain ⟨rfl, hin, hq⟩ := hw
  exact kk u.1 u.2 H1 locs1 hq hin (fb_back (A0 := fun _ => True) ht hB hS)
theorem fb_callSv (C : fb_C p s m args meth c G own cc nL) (w : fb_Wd G s σ H locs) {y : MethodName} {bytes : ByteArray} {maxL : Nat} {rm : Room} {As : List Value} {index n : Nat} {Qp : Int → fb_St → Prop} {st : List Value}
    (hM : fb_MV l G y bytes maxL rm As σ Qp) (ml : fb_LS own index y bytes maxL none n) (hR : rm.cells = 0 ∧ rm.slots = 0 ∧ rm.frames + 1 ≤ R.frames ∧ 8 + (maxL + 11) + rm.locals ≤ R.locals ∧ cells ≤ R.cells ∧ slots ≤ R.slots)
    (hn : As.length = n) (hl : ls.size = nL) (hst : st = As.reverse ++ rest) (hrs : (rest.map fun v => v.category).sum ≤ 8) (hdg : decode cc pc = .ok (.invokestatic index, 3))
    (kk : ∀ (σ1 : fb_St) (H1 : Heap) (locs1 : List Loc), Qp 0 σ1 → fb_Wd G s σ1 H1 locs1 → W p l e R s m args below meth c H1 locs1 cells slots Q (F0 m (pc + 3) ls rest)) : W p l e R s m args below meth c H locs cells slots Q (F0 m pc ls st) := by
  refine va_callv (va_runS (As := As) (rest := rest) (n := n) C.1 (hM H.size) (va_cwS n C.1.2.2.2.2 ml.good rfl hR.1 hR.2.1 ml.2.2 ⟨hR.2.2.1, hR.2.2.2.1⟩) ⟨fb_blind _ _ _, fun U hU hW => fb_pre C w ml.2.1 U hU hW⟩ rfl hn hl hst (lv_room hrs) hdg ⟨hR.2.2.2.2.1, hR.2.2.2.2.2⟩) w.2.2.1 (fun q _ h => fb_A_mono w q h) (fb_A_mono w) (fun u t H1 locs1 ht hvm hw hB hz1 hk1 hS => ?_)
  exact kk u H1 locs1 hw (fb_back (A0 := fun _ => True) ht hB hS)
end FBC
