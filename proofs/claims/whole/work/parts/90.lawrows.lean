/-! THE CLAIM OUT OF ONE WALK OF THE LAW'S BODY. Your part is whole_start (and what it stands on); all else here is the same for every law, but numbers. -/
def R_law : String := "FloodBasinsLaw"
def lw_P (b : Addr) (xs : List Int32) (args : Array Value) (s : State) : Prop := args = #[.ref b] ∧ s.IntsAt b xs ∧ xs.length ≤ 2560 ∧ (Jvm.Cond.and given_1 narrow_1).before args s = true
def lw_Q (_ : Array Value) (s : State) (o : Outcome) (t : State) : Prop := o = .returned (some (.int 1)) ∧ Framed s o t [] 67 7879
def lw_Z (below : List Frame) (a : Array Value) (s : State) : State → Prop := fun t => ∃ o, t.status = .running ∧ Ended t below o ∧ lw_Q a s o t
/-- the law's own end, with 1 on the stack, nothing written that was there before, its room as the claim has it -/
theorem lw_ret {p : Program} {l : Launch} {e : Env} {s : State} {m : MethodId} {below : List Frame} {meth : Method} {c : Code} {b : Nat} (hx : p.tables.exec = Jvm.exec) (hb : c.code = code) (hr : meth.sig.returnType = ret) (hlocks : meth.locks = false) {pc : Nat} {H : Heap} {ls : Array Slot} (hdg : decode code pc = .ok (.ireturn, 1)) : W p l e room_1 s m #[Value.ref b] below meth c H [] 67 7879 (lw_Z below #[Value.ref b] s) (F0 m pc ls [.int 1]) := by
  intro T hT X
  obtain ⟨fs, hret, hrun, hended, hW, hframe⟩ := X.leave (v := some (.int 1)) (hlocks := hlocks) (fun h => by rw [hr] at h; cases h)
  have hmeth' : T.vm.method? m = some meth := X.method'
  refine ⟨T.setFrames fs, ?_, .returned (some (.int 1)), hrun, hended, rfl, ⟨_, rfl⟩, hW, hframe⟩
  jvm_step X.here [X.here.top, hx, hb, hdg, hmeth', hr, ret, narrow_b1]
  (try refine ⟨rfl, ?_⟩); (try refine ⟨rfl, ?_⟩)
  first | (intro acts; rw [hret _ acts rfl rfl rfl]) | rw [hret _ _ rfl rfl rfl]
  exact Steps.refl _
/-- what holds at the law's entry: the machine, the code, the tables' words (any of lw_tbl by 'hts w (by decide +kernel)'), the script of L ints xs at the cell b, what the Statement gives of the start (any of its parts by flat_of_before) -/
def lw_At (p : Program) (s : State) (m : MethodId) (meth : Method) (c : Code) (b L : Nat) (xs : Nat → Int32) : Prop :=
  p.tables.exec = Jvm.exec ∧ c.code = code ∧ meth.sig.returnType = ret ∧ c.maxLocals = 4 ∧ s.vm.findClass R_law = some m.cls ∧ (∀ w ∈ lw_tbl, w.before #[Value.ref b] s = true) ∧ va_X b L xs s s.heap ∧ b < s.heap.size ∧ meth.locks = false ∧ (Jvm.Cond.and given_1 narrow_1).before #[Value.ref b] s = true
/-! ===== rows of the law ===== -/
section LWR
variable {p : Program} {l : Launch} {e : Env} {R : Room} {s : State} {m : MethodId} {args : Array Value} {below : List Frame} {meth : Method} {c : Code} {H : Heap} {locs : List Loc} {cells slots : Nat} {Q : State → Prop}
variable {cc : ByteArray} {pc nL : Nat} {ls : Array Slot} {rest : List Value} {own : String} {G : fb_G} {σ : fb_St}
theorem lw_ld (C : fb_C p s m args meth c G own cc nL) (w : fb_Wd G s σ H locs) {b L : Nat} {xs : Nat → Int32} (hX : va_X b L xs s s.heap) (hbl : b < s.heap.size) (hbA : ¬ fb_A G s.heap.size b) (hL : L ≤ 2560) {i : Int} (h0 : 0 ≤ i) (h1 : i < L) (hdg : decode cc pc = .ok (.iaload, 1))
    (kk : W p l e R s m args below meth c H locs cells slots Q (F0 m (pc + 1) ls (.int (fb_I (xs i.toNat).toInt) :: rest))) : W p l e R s m args below meth c H locs cells slots Q (F0 m pc ls (.int (fb_I i) :: .ref b :: rest)) := by
  refine va_sld C.1.1 C.1.2.1 hX hbl hbA w.2.2.1 (fb_I_ix h0 h1 (by omega)) hdg ?_
  rw [fb_I_nat h0 (by omega), ← fb_of (xs i.toNat)]
  exact kk
theorem lw_len (C : fb_C p s m args meth c G own cc nL) (w : fb_Wd G s σ H locs) {b L : Nat} {xs : Nat → Int32} (hX : va_X b L xs s s.heap) (hbl : b < s.heap.size) (hbA : ¬ fb_A G s.heap.size b) (hdg : decode cc pc = .ok (.arraylength, 1))
    (kk : W p l e R s m args below meth c H locs cells slots Q (F0 m (pc + 1) ls (.int (fb_I L) :: rest))) : W p l e R s m args below meth c H locs cells slots Q (F0 m pc ls (.ref b :: rest)) := by
  refine va_slen C.1.1 C.1.2.1 hX hbl hbA w.2.2.1 hdg ?_
  rw [fb_I_ofNat]
  exact kk
/-- a constructor that is open to all, on the last of the cells -/
theorem lw_call {D : fb_D0} {A : Nat → Prop} (C : CallFix p m c cc nL s args fb_tb own) (hK : va_K D.1 vwCl (fb_ty0 D) s) (hNN : fb_NN s) {wr : va_W} {a ci : Nat} {dfs : List Value} (w : fb_WW D A s (wr ++ [(a, .inr (ci, dfs))]) H locs) (hA : ∀ q, s.heap.size ≤ q → A q) {y : MethodName} {bytes : ByteArray} {rm : Room} {S : Type} {post : S → Prop} {B : S → State → Prop} {wY : S → va_W} {mc ms index cells' slots' : Nat}
    (hM : ∀ sz : Nat, Met l y (.code y bytes 1 none :: fb_tb) rm (cc_Pc D a ci dfs sz) (va_Qv post (fun u t => va_P D.1 vwCl (wY u) t.heap ∧ va_D (cc_A a ci dfs sz) (wY u) ∧ B u t) (cc_A a ci dfs sz)) mc ms (cc_A a ci dfs sz))
    (h0 : Cond.methodLink own index y ∈ fb_tb) (h1 : Cond.code y bytes 1 none ∈ fb_tb) (h2 : Cond.instanceMethod y ∈ fb_tb) (h3 : Cond.initialized y.cls ∈ fb_tb) (hy : y.name = "<init>") (hd : y.cls ≠ "java/lang/invoke/MethodHandle" ∧ y.cls ≠ "java/lang/invoke/VarHandle" ∧ (parseMethodDescriptor y.desc).map (fun d => d.parameters.length) = some 0) (hrm : rm.cells = mc ∧ rm.slots = ms)
    (isR : List Nat) (hnd : va_nd isR = true) (hlen : isR = List.range wr.length) (hl : ls.size = nL) (hce : cells + mc = cells') (hsl : slots + ms = slots') (hR : rm.frames + 1 ≤ R.frames ∧ 8 + (1 + 11) + rm.locals ≤ R.locals ∧ cells' ≤ R.cells ∧ slots' ≤ R.slots) (hrs : (rest.map fun v => v.category).sum ≤ 8) (hdg : decode cc pc = .ok (.invokespecial index, 3))
    (kk : ∀ (u : S) (t : State) (H1 : Heap) (locs1 : List Loc), post u → B u t → fb_WW D A s (wr ++ wY u) H1 locs1 → W p l e R s m args below meth c H1 locs1 cells' slots' Q (F0 m (pc + 3) ls rest)) : W p l e R s m args below meth c H locs cells slots Q (F0 m pc ls (.ref a :: rest)) := by
  subst hce; subst hsl
  obtain ⟨hP, hD, hS⟩ := w
  have hC : ([wr.length] : List Nat).map (fun i => (wr ++ [(a, (.inr (ci, dfs) : va_E))])[i]?) = ([(a, (.inr (ci, dfs) : va_E))] : va_W).map some := by simp
  have hRR : isR.map (fun i => (wr ++ [(a, (.inr (ci, dfs) : va_E))])[i]?) = wr.map some := by
    rw [hlen]
    apply List.ext_getElem?
    intro k
    rw [List.getElem?_map, List.getElem?_map]
    by_cases hk : k < wr.length
    · rw [List.getElem?_range hk]
      simp [List.getElem?_append_left hk, List.getElem?_eq_getElem hk]
    · rw [List.getElem?_eq_none (by simpa using hk), List.getElem?_eq_none (by omega)]; rfl
  have hPc : va_P D.1 vwCl [(a, .inr (ci, dfs))] H := fun k q hq => by
    have hz : k < 1 := (List.getElem?_eq_some_iff.mp hq).1
    rw [show k = 0 by omega] at hq
    exact hP wr.length q (by rw [List.getElem?_append_right (Nat.le_refl _)]; simpa using hq)
  have hDc : va_D (fun _ => True) [(a, (.inr (ci, dfs) : va_E))] := ⟨fun i j x y hx hy _ => by
    have h1 := (List.getElem?_eq_some_iff.mp hx).1
    have h2 := (List.getElem?_eq_some_iff.mp hy).1
    simp at h1 h2
    omega, fun _ _ _ => trivial⟩
  have hFc := va_free (wc := [(a, .inr (ci, dfs))]) hD hS hA [wr.length] hC
  have hG : GoodIn fb_tb (.code y bytes 1 none :: fb_tb) := fb_good (fun w hw => by
    rcases List.mem_cons.mp hw with h | h
    · rw [h]; exact h1
    · exact h)
  refine va_callv (va_runI (As := []) (rest := rest) (n := 0) C (hM H.size) (cwI 0 C.2.2.2.2 hG rfl hrm.1 hrm.2 (C.2.2.2.2 _ h3) (C.2.2.2.2 _ h0) (C.2.2.2.2 _ h2) hy hd ⟨hR.1, hR.2.1⟩) ⟨fun x U g mk q => ?_, fun U hU hW => ⟨rfl, by rw [hU], by rw [hU]; exact hPc, va_K.moved hW.alike hK, hDc, hNN.warm hW⟩⟩ rfl rfl hl rfl (lv_room hrs) hdg ⟨hR.2.2.1, hR.2.2.2⟩) hS (fun q _ h => hFc q h) hFc (fun u t H1 locs1 ht hvm hw hB hz1 hk1 hS1 => ?_)
  · obtain ⟨q0, q1, qP, qK, qD, qN⟩ := q
    exact ⟨q0, q1, qP, va_K.moved (u := U) (U := U.calling g mk x) (Vm.Alike.refl U.vm) qK, qD, qN.same rfl⟩
  · obtain ⟨hP1, hD1, hB1⟩ := hB
    rw [ht] at hP1
    obtain ⟨hP2, hD2⟩ := va_join (wr := wr) (wc := [(a, .inr (ci, dfs))]) (w1 := wY u) hP hD [wr.length] isR hC hRR hnd (fun i hi => by
      rw [hlen] at hi
      have := List.mem_range.mp hi
      intro h
      have := List.mem_singleton.mp h
      omega) hk1 hFc hP1 hD1
    exact kk u t H1 locs1 hw hB1 ⟨hP2, hD2, hS1⟩
end LWR
