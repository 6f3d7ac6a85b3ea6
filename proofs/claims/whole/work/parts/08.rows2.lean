/-! ===== short forms for the laid rows ===== -/
def fb_Lp {β : Type} (bot : β) (body : β → β) : Nat → β
  | 0 => bot
  | n + 1 => body (fb_Lp bot body n)
theorem fb_ie {x y : Int} (e : x = y) (h : fb_in y) : fb_in x := by rw [e]; exact h
theorem fb_in_max {x y : Int} (hx : fb_in x) (hy : fb_in y) : fb_in (max x y) := ⟨by have := hx.1; have := hy.1; omega, by have := hx.2; have := hy.2; omega⟩
theorem fb_in_min {x y : Int} (hx : fb_in x) (hy : fb_in y) : fb_in (min x y) := ⟨by have := hx.1; have := hy.1; omega, by have := hx.2; have := hy.2; omega⟩
section FBK
variable {p : Program} {s : State} {m : MethodId} {args : Array Value} {meth : Method} {c : Code} {cc : ByteArray} {nL : Nat} {own : String} {G : fb_G}
theorem fb_k0 (C : fb_C p s m args meth c G own cc nL) : (fb_cl G)[0]? = some (fb_ob G 6 [some 1, some 5, some 8, some 17, some 29, some 41, none, none, none, none, none]) := fb_kof C (Nat.lt_of_lt_of_le (by decide) (fb_n_ge own)) rfl
theorem fb_k1 (C : fb_C p s m args meth c G own cc nL) : (fb_cl G)[1]? = some (fb_ob G 5 [none, none, none, some 2, some 3, some 4]) := fb_kof C (Nat.lt_of_lt_of_le (by decide) (fb_n_ge own)) rfl
theorem fb_k2 (C : fb_C p s m args meth c G own cc nL) : (fb_cl G)[2]? = some (fb_arI G 144) := fb_kof C (Nat.lt_of_lt_of_le (by decide) (fb_n_ge own)) rfl
theorem fb_k3 (C : fb_C p s m args meth c G own cc nL) : (fb_cl G)[3]? = some (fb_arI G 144) := fb_kof C (Nat.lt_of_lt_of_le (by decide) (fb_n_ge own)) rfl
theorem fb_k4 (C : fb_C p s m args meth c G own cc nL) : (fb_cl G)[4]? = some (fb_arI G 576) := fb_kof C (Nat.lt_of_lt_of_le (by decide) (fb_n_ge own)) rfl
theorem fb_k5 (C : fb_C p s m args meth c G own cc nL) : (fb_cl G)[5]? = some (fb_ob G 4 [none, some 6, some 7]) := fb_kof C (Nat.lt_of_lt_of_le (by decide) (fb_n_ge own)) rfl
theorem fb_k6 (C : fb_C p s m args meth c G own cc nL) : (fb_cl G)[6]? = some (fb_arI G 144) := fb_kof C (Nat.lt_of_lt_of_le (by decide) (fb_n_ge own)) rfl
theorem fb_k7 (C : fb_C p s m args meth c G own cc nL) : (fb_cl G)[7]? = some (fb_arI G 144) := fb_kof C (Nat.lt_of_lt_of_le (by decide) (fb_n_ge own)) rfl
theorem fb_k8 (C : fb_C p s m args meth c G own cc nL) : (fb_cl G)[8]? = some (fb_ob G 0 [some 9, some 10, some 11, some 12, some 13]) := fb_kof C (Nat.lt_of_lt_of_le (by decide) (fb_n_ge own)) rfl
theorem fb_k9 (C : fb_C p s m args meth c G own cc nL) : (fb_cl G)[9]? = some (fb_arI G 144) := fb_kof C (Nat.lt_of_lt_of_le (by decide) (fb_n_ge own)) rfl
theorem fb_k10 (C : fb_C p s m args meth c G own cc nL) : (fb_cl G)[10]? = some (fb_arI G 144) := fb_kof C (Nat.lt_of_lt_of_le (by decide) (fb_n_ge own)) rfl
theorem fb_k11 (C : fb_C p s m args meth c G own cc nL) : (fb_cl G)[11]? = some (fb_arI G 144) := fb_kof C (Nat.lt_of_lt_of_le (by decide) (fb_n_ge own)) rfl
theorem fb_k12 (C : fb_C p s m args meth c G own cc nL) : (fb_cl G)[12]? = some (fb_arI G 100) := fb_kof C (Nat.lt_of_lt_of_le (by decide) (fb_n_ge own)) rfl
theorem fb_k13 (C : fb_C p s m args meth c G own cc nL) : (fb_cl G)[13]? = some (fb_ob G 2 [some 14, some 15, some 16, none]) := fb_kof C (Nat.lt_of_lt_of_le (by decide) (fb_n_ge own)) rfl
theorem fb_k14 (C : fb_C p s m args meth c G own cc nL) : (fb_cl G)[14]? = some (fb_arI G 100) := fb_kof C (Nat.lt_of_lt_of_le (by decide) (fb_n_ge own)) rfl
theorem fb_k15 (C : fb_C p s m args meth c G own cc nL) : (fb_cl G)[15]? = some (fb_arI G 100) := fb_kof C (Nat.lt_of_lt_of_le (by decide) (fb_n_ge own)) rfl
theorem fb_k16 (C : fb_C p s m args meth c G own cc nL) : (fb_cl G)[16]? = some (fb_arI G 144) := fb_kof C (Nat.lt_of_lt_of_le (by decide) (fb_n_ge own)) rfl
theorem fb_k17 (C : fb_C p s m args meth c G own cc nL) : (fb_cl G)[17]? = some (fb_ob G 3 (fb_pour 17)) := fb_kof C (Nat.lt_of_lt_of_le (by decide) (fb_n_ge own)) rfl
theorem fb_k18 (C : fb_C p s m args meth c G own cc nL) : (fb_cl G)[18]? = some (fb_arI G 144) := fb_kof C (Nat.lt_of_lt_of_le (by decide) (fb_n_ge own)) rfl
theorem fb_k19 (C : fb_C p s m args meth c G own cc nL) : (fb_cl G)[19]? = some (fb_arI G 100) := fb_kof C (Nat.lt_of_lt_of_le (by decide) (fb_n_ge own)) rfl
theorem fb_k20 (C : fb_C p s m args meth c G own cc nL) : (fb_cl G)[20]? = some (fb_arI G 100) := fb_kof C (Nat.lt_of_lt_of_le (by decide) (fb_n_ge own)) rfl
theorem fb_k21 (C : fb_C p s m args meth c G own cc nL) : (fb_cl G)[21]? = some (fb_arI G 100) := fb_kof C (Nat.lt_of_lt_of_le (by decide) (fb_n_ge own)) rfl
theorem fb_k22 (C : fb_C p s m args meth c G own cc nL) : (fb_cl G)[22]? = some (fb_arI G 100) := fb_kof C (Nat.lt_of_lt_of_le (by decide) (fb_n_ge own)) rfl
theorem fb_k23 (C : fb_C p s m args meth c G own cc nL) : (fb_cl G)[23]? = some (fb_arI G 100) := fb_kof C (Nat.lt_of_lt_of_le (by decide) (fb_n_ge own)) rfl
theorem fb_k24 (C : fb_C p s m args meth c G own cc nL) : (fb_cl G)[24]? = some (fb_arI G 99) := fb_kof C (Nat.lt_of_lt_of_le (by decide) (fb_n_ge own)) rfl
theorem fb_k25 (C : fb_C p s m args meth c G own cc nL) : (fb_cl G)[25]? = some (fb_arI G 99) := fb_kof C (Nat.lt_of_lt_of_le (by decide) (fb_n_ge own)) rfl
theorem fb_k26 (C : fb_C p s m args meth c G own cc nL) : (fb_cl G)[26]? = some (fb_arI G 99) := fb_kof C (Nat.lt_of_lt_of_le (by decide) (fb_n_ge own)) rfl
theorem fb_k27 (C : fb_C p s m args meth c G own cc nL) : (fb_cl G)[27]? = some (fb_arI G 99) := fb_kof C (Nat.lt_of_lt_of_le (by decide) (fb_n_ge own)) rfl
theorem fb_k28 (C : fb_C p s m args meth c G own cc nL) : (fb_cl G)[28]? = some (fb_arI G 144) := fb_kof C (Nat.lt_of_lt_of_le (by decide) (fb_n_ge own)) rfl
theorem fb_k29 (C : fb_C p s m args meth c G own cc nL) : (fb_cl G)[29]? = some (fb_ob G 3 (fb_pour 29)) := fb_kof C (Nat.lt_of_lt_of_le (by decide) (fb_n_ge own)) rfl
theorem fb_k30 (C : fb_C p s m args meth c G own cc nL) : (fb_cl G)[30]? = some (fb_arI G 144) := fb_kof C (Nat.lt_of_lt_of_le (by decide) (fb_n_ge own)) rfl
theorem fb_k31 (C : fb_C p s m args meth c G own cc nL) : (fb_cl G)[31]? = some (fb_arI G 100) := fb_kof C (Nat.lt_of_lt_of_le (by decide) (fb_n_ge own)) rfl
theorem fb_k32 (C : fb_C p s m args meth c G own cc nL) : (fb_cl G)[32]? = some (fb_arI G 100) := fb_kof C (Nat.lt_of_lt_of_le (by decide) (fb_n_ge own)) rfl
theorem fb_k33 (C : fb_C p s m args meth c G own cc nL) : (fb_cl G)[33]? = some (fb_arI G 100) := fb_kof C (Nat.lt_of_lt_of_le (by decide) (fb_n_ge own)) rfl
theorem fb_k34 (C : fb_C p s m args meth c G own cc nL) : (fb_cl G)[34]? = some (fb_arI G 100) := fb_kof C (Nat.lt_of_lt_of_le (by decide) (fb_n_ge own)) rfl
theorem fb_k35 (C : fb_C p s m args meth c G own cc nL) : (fb_cl G)[35]? = some (fb_arI G 100) := fb_kof C (Nat.lt_of_lt_of_le (by decide) (fb_n_ge own)) rfl
theorem fb_k36 (C : fb_C p s m args meth c G own cc nL) : (fb_cl G)[36]? = some (fb_arI G 99) := fb_kof C (Nat.lt_of_lt_of_le (by decide) (fb_n_ge own)) rfl
theorem fb_k37 (C : fb_C p s m args meth c G own cc nL) : (fb_cl G)[37]? = some (fb_arI G 99) := fb_kof C (Nat.lt_of_lt_of_le (by decide) (fb_n_ge own)) rfl
theorem fb_k38 (C : fb_C p s m args meth c G own cc nL) : (fb_cl G)[38]? = some (fb_arI G 99) := fb_kof C (Nat.lt_of_lt_of_le (by decide) (fb_n_ge own)) rfl
theorem fb_k39 (C : fb_C p s m args meth c G own cc nL) : (fb_cl G)[39]? = some (fb_arI G 99) := fb_kof C (Nat.lt_of_lt_of_le (by decide) (fb_n_ge own)) rfl
theorem fb_k40 (C : fb_C p s m args meth c G own cc nL) : (fb_cl G)[40]? = some (fb_arI G 144) := fb_kof C (Nat.lt_of_lt_of_le (by decide) (fb_n_ge own)) rfl
theorem fb_k41 (C : fb_C p s m args meth c G own cc nL) : (fb_cl G)[41]? = some (fb_arQ G) := fb_kof C (Nat.lt_of_lt_of_le (by decide) (fb_n_ge own)) rfl
theorem fb_k42 (C : fb_C p s m args meth c G own cc nL) : (fb_cl G)[42]? = some (fb_ob G 1 (fb_img 42)) := fb_kof C (Nat.lt_of_lt_of_le (by decide) (fb_n_ge own)) rfl
theorem fb_k43 (C : fb_C p s m args meth c G own cc nL) : (fb_cl G)[43]? = some (fb_arI G 144) := fb_kof C (Nat.lt_of_lt_of_le (by decide) (fb_n_ge own)) rfl
theorem fb_k44 (C : fb_C p s m args meth c G own cc nL) : (fb_cl G)[44]? = some (fb_arI G 144) := fb_kof C (Nat.lt_of_lt_of_le (by decide) (fb_n_ge own)) rfl
theorem fb_k45 (C : fb_C p s m args meth c G own cc nL) : (fb_cl G)[45]? = some (fb_ob G 1 (fb_img 45)) := fb_kof C (Nat.lt_of_lt_of_le (by decide) (fb_n_ge own)) rfl
theorem fb_k46 (C : fb_C p s m args meth c G own cc nL) : (fb_cl G)[46]? = some (fb_arI G 144) := fb_kof C (Nat.lt_of_lt_of_le (by decide) (fb_n_ge own)) rfl
theorem fb_k47 (C : fb_C p s m args meth c G own cc nL) : (fb_cl G)[47]? = some (fb_arI G 144) := fb_kof C (Nat.lt_of_lt_of_le (by decide) (fb_n_ge own)) rfl
theorem fb_k48 (C : fb_C p s m args meth c G RX7 cc nL) : (fb_cl G)[48]? = some (fb_ob G 7 [some 49, some 50, some 51, some 52, some 53, some 54, some 55, some 56, some 57, some 58, some 59, none, some 60, some 61, some 62, some 63, some 64, none, some 65, some 66]) := fb_kof C (by decide) rfl
theorem fb_k49 (C : fb_C p s m args meth c G RX7 cc nL) : (fb_cl G)[49]? = some (fb_arI G 292) := fb_kof C (by decide) rfl
theorem fb_k50 (C : fb_C p s m args meth c G RX7 cc nL) : (fb_cl G)[50]? = some (fb_arI G 584) := fb_kof C (by decide) rfl
theorem fb_k51 (C : fb_C p s m args meth c G RX7 cc nL) : (fb_cl G)[51]? = some (fb_arZ G 2) := fb_kof C (by decide) rfl
theorem fb_k52 (C : fb_C p s m args meth c G RX7 cc nL) : (fb_cl G)[52]? = some (fb_arI G 144) := fb_kof C (by decide) rfl
theorem fb_k53 (C : fb_C p s m args meth c G RX7 cc nL) : (fb_cl G)[53]? = some (fb_arI G 144) := fb_kof C (by decide) rfl
theorem fb_k54 (C : fb_C p s m args meth c G RX7 cc nL) : (fb_cl G)[54]? = some (fb_arZ G 144) := fb_kof C (by decide) rfl
theorem fb_k55 (C : fb_C p s m args meth c G RX7 cc nL) : (fb_cl G)[55]? = some (fb_arI G 144) := fb_kof C (by decide) rfl
theorem fb_k56 (C : fb_C p s m args meth c G RX7 cc nL) : (fb_cl G)[56]? = some (fb_arI G 144) := fb_kof C (by decide) rfl
theorem fb_k57 (C : fb_C p s m args meth c G RX7 cc nL) : (fb_cl G)[57]? = some (fb_arI G 144) := fb_kof C (by decide) rfl
theorem fb_k58 (C : fb_C p s m args meth c G RX7 cc nL) : (fb_cl G)[58]? = some (fb_arI G 144) := fb_kof C (by decide) rfl
theorem fb_k59 (C : fb_C p s m args meth c G RX7 cc nL) : (fb_cl G)[59]? = some (fb_arZ G 144) := fb_kof C (by decide) rfl
theorem fb_k60 (C : fb_C p s m args meth c G RX7 cc nL) : (fb_cl G)[60]? = some (fb_arI G 144) := fb_kof C (by decide) rfl
theorem fb_k61 (C : fb_C p s m args meth c G RX7 cc nL) : (fb_cl G)[61]? = some (fb_arI G 100) := fb_kof C (by decide) rfl
theorem fb_k62 (C : fb_C p s m args meth c G RX7 cc nL) : (fb_cl G)[62]? = some (fb_arI G 100) := fb_kof C (by decide) rfl
theorem fb_k63 (C : fb_C p s m args meth c G RX7 cc nL) : (fb_cl G)[63]? = some (fb_arI G 100) := fb_kof C (by decide) rfl
theorem fb_k64 (C : fb_C p s m args meth c G RX7 cc nL) : (fb_cl G)[64]? = some (fb_arI G 100) := fb_kof C (by decide) rfl
theorem fb_k65 (C : fb_C p s m args meth c G RX7 cc nL) : (fb_cl G)[65]? = some (fb_arI G 100) := fb_kof C (by decide) rfl
theorem fb_k66 (C : fb_C p s m args meth c G RX7 cc nL) : (fb_cl G)[66]? = some (fb_arI G 144) := fb_kof C (by decide) rfl
theorem fb_pk0 (C : fb_C p s m args meth c G own cc nL) {pp : Nat} (h : pp = 17 ∨ pp = 29) : (fb_cl G)[pp]? = some (fb_ob G 3 (fb_pour pp)) := by rcases h with rfl | rfl <;> exact fb_kof C (Nat.lt_of_lt_of_le (by decide) (fb_n_ge own)) rfl
theorem fb_pk1 (C : fb_C p s m args meth c G own cc nL) {pp : Nat} (h : pp = 17 ∨ pp = 29) : (fb_cl G)[pp+1]? = some (fb_arI G 144) := by rcases h with rfl | rfl <;> exact fb_kof C (Nat.lt_of_lt_of_le (by decide) (fb_n_ge own)) rfl
theorem fb_pk2 (C : fb_C p s m args meth c G own cc nL) {pp : Nat} (h : pp = 17 ∨ pp = 29) : (fb_cl G)[pp+2]? = some (fb_arI G 100) := by rcases h with rfl | rfl <;> exact fb_kof C (Nat.lt_of_lt_of_le (by decide) (fb_n_ge own)) rfl
theorem fb_pk3 (C : fb_C p s m args meth c G own cc nL) {pp : Nat} (h : pp = 17 ∨ pp = 29) : (fb_cl G)[pp+3]? = some (fb_arI G 100) := by rcases h with rfl | rfl <;> exact fb_kof C (Nat.lt_of_lt_of_le (by decide) (fb_n_ge own)) rfl
theorem fb_pk4 (C : fb_C p s m args meth c G own cc nL) {pp : Nat} (h : pp = 17 ∨ pp = 29) : (fb_cl G)[pp+4]? = some (fb_arI G 100) := by rcases h with rfl | rfl <;> exact fb_kof C (Nat.lt_of_lt_of_le (by decide) (fb_n_ge own)) rfl
theorem fb_pk5 (C : fb_C p s m args meth c G own cc nL) {pp : Nat} (h : pp = 17 ∨ pp = 29) : (fb_cl G)[pp+5]? = some (fb_arI G 100) := by rcases h with rfl | rfl <;> exact fb_kof C (Nat.lt_of_lt_of_le (by decide) (fb_n_ge own)) rfl
theorem fb_pk6 (C : fb_C p s m args meth c G own cc nL) {pp : Nat} (h : pp = 17 ∨ pp = 29) : (fb_cl G)[pp+6]? = some (fb_arI G 100) := by rcases h with rfl | rfl <;> exact fb_kof C (Nat.lt_of_lt_of_le (by decide) (fb_n_ge own)) rfl
theorem fb_pk7 (C : fb_C p s m args meth c G own cc nL) {pp : Nat} (h : pp = 17 ∨ pp = 29) : (fb_cl G)[pp+7]? = some (fb_arI G 99) := by rcases h with rfl | rfl <;> exact fb_kof C (Nat.lt_of_lt_of_le (by decide) (fb_n_ge own)) rfl
theorem fb_pk8 (C : fb_C p s m args meth c G own cc nL) {pp : Nat} (h : pp = 17 ∨ pp = 29) : (fb_cl G)[pp+8]? = some (fb_arI G 99) := by rcases h with rfl | rfl <;> exact fb_kof C (Nat.lt_of_lt_of_le (by decide) (fb_n_ge own)) rfl
theorem fb_pk9 (C : fb_C p s m args meth c G own cc nL) {pp : Nat} (h : pp = 17 ∨ pp = 29) : (fb_cl G)[pp+9]? = some (fb_arI G 99) := by rcases h with rfl | rfl <;> exact fb_kof C (Nat.lt_of_lt_of_le (by decide) (fb_n_ge own)) rfl
theorem fb_pk10 (C : fb_C p s m args meth c G own cc nL) {pp : Nat} (h : pp = 17 ∨ pp = 29) : (fb_cl G)[pp+10]? = some (fb_arI G 99) := by rcases h with rfl | rfl <;> exact fb_kof C (Nat.lt_of_lt_of_le (by decide) (fb_n_ge own)) rfl
theorem fb_pk11 (C : fb_C p s m args meth c G own cc nL) {pp : Nat} (h : pp = 17 ∨ pp = 29) : (fb_cl G)[pp+11]? = some (fb_arI G 144) := by rcases h with rfl | rfl <;> exact fb_kof C (Nat.lt_of_lt_of_le (by decide) (fb_n_ge own)) rfl
theorem fb_gk0 (C : fb_C p s m args meth c G own cc nL) {gg : Nat} (h : gg = 42 ∨ gg = 45) : (fb_cl G)[gg]? = some (fb_ob G 1 (fb_img gg)) := by rcases h with rfl | rfl <;> exact fb_kof C (Nat.lt_of_lt_of_le (by decide) (fb_n_ge own)) rfl
theorem fb_gk1 (C : fb_C p s m args meth c G own cc nL) {gg : Nat} (h : gg = 42 ∨ gg = 45) : (fb_cl G)[gg+1]? = some (fb_arI G 144) := by rcases h with rfl | rfl <;> exact fb_kof C (Nat.lt_of_lt_of_le (by decide) (fb_n_ge own)) rfl
theorem fb_gk2 (C : fb_C p s m args meth c G own cc nL) {gg : Nat} (h : gg = 42 ∨ gg = 45) : (fb_cl G)[gg+2]? = some (fb_arI G 144) := by rcases h with rfl | rfl <;> exact fb_kof C (Nat.lt_of_lt_of_le (by decide) (fb_n_ge own)) rfl
end FBK
section FBS
variable {p : Program} {l : Launch} {e : Env} {R : Room} {s : State} {m : MethodId} {args : Array Value} {below : List Frame} {meth : Method} {c : Code} {H : Heap} {locs : List Loc} {cells slots : Nat} {Q : State → Prop}
variable {cc : ByteArray} {pc nL : Nat} {ls : Array Slot} {rest : List Value} {own : String} {G : fb_G} {σ : fb_St}
theorem fb_top {x : Int} (k : ∀ y : Int, y = x → W p l e R s m args below meth c H locs cells slots Q (F0 m pc ls (.int (fb_I y) :: rest))) : W p l e R s m args below meth c H locs cells slots Q (F0 m pc ls (.int (fb_I x) :: rest)) := k x rfl
theorem fb_gi (C : fb_C p s m args meth c G own cc nL) (w : fb_Wd G s σ H locs) (ji : Int) {k ci j index : Nat} {fs : List (Option Nat)} {Cn : String} {T : u_T} {N : Nat} (hk : (fb_cl G)[k]? = some (fb_ob G ci fs)) (hj : fs[j]? = some none) (hji : ((j : Nat) : Int) = ji) (hf : fb_FL own index ci j Cn T N) (hdg : decode cc pc = .ok (.getfield index, 3))
    (kk : W p l e R s m args below meth c H locs cells slots Q (F0 m (pc + 3) ls (.int (fb_I (σ k ji)) :: rest))) : W p l e R s m args below meth c H locs cells slots Q (F0 m pc ls (.ref (fb_ad G k) :: rest)) := by
  subst hji
  exact fb_geti C w hk hj hf hdg kk
theorem fb_pi (C : fb_C p s m args meth c G own cc nL) (w : fb_Wd G s σ H locs) (ji : Int) {k ci j index : Nat} {fs : List (Option Nat)} {Cn : String} {T : u_T} {N : Nat} (hk : (fb_cl G)[k]? = some (fb_ob G ci fs)) (hj : fs[j]? = some none) (hji : ((j : Nat) : Int) = ji) (hf : fb_FL own index ci j Cn T N)
    {ty0 : Nat → FieldType} (hty : ∀ k, k < N → parseFieldDescriptor (T k).2.2.1 = some (ty0 k)) (hnm : ∀ a, a < N → ∀ b, b < N → a ≠ b → (T a).2.1 ≠ (T b).2.1) (hfin : (T j).2.2.2 = false) {v : Int} (iv : fb_in v) (hn : narrow (ty0 j) (.int (fb_I v)) = .int (fb_I v)) (hfit : fits (ty0 j) (.int (fb_I v)) = true) (hdg : decode cc pc = .ok (.putfield index, 3))
    (kk : ∀ (σ1 : fb_St) (H1 : Heap) (locs1 : List Loc), σ1 = fb_up σ k ji v → fb_Wd G s σ1 H1 locs1 → W p l e R s m args below meth c H1 locs1 cells slots Q (F0 m (pc + 3) ls rest)) : W p l e R s m args below meth c H locs cells slots Q (F0 m pc ls (.int (fb_I v) :: .ref (fb_ad G k) :: rest)) := by
  subst hji
  exact fb_puti C w hk hj hf hty hnm hfin iv hn hfit hdg (fun H1 locs1 w1 => kk _ H1 locs1 rfl w1)
theorem fb_al (C : fb_C p s m args meth c G own cc nL) (w : fb_Wd G s σ H locs) {k n : Nat} (N : Int) (hk : (fb_cl G)[k]? = some (fb_arI G n)) (hN : (n : Int) = N) (hb : Nat.ble n 1000 = true) {i : Int} (h0 : 0 ≤ i) (h1 : i < N) (hdg : decode cc pc = .ok (.iaload, 1))
    (kk : W p l e R s m args below meth c H locs cells slots Q (F0 m (pc + 1) ls (.int (fb_I (σ k i)) :: rest))) : W p l e R s m args below meth c H locs cells slots Q (F0 m pc ls (.int (fb_I i) :: .ref (fb_ad G k) :: rest)) :=
  fb_ald C w hk h0 (by omega) (by have := Nat.le_of_ble_eq_true hb; omega) hdg kk
theorem fb_zl (C : fb_C p s m args meth c G own cc nL) (w : fb_Wd G s σ H locs) {k n : Nat} (N : Int) (hk : (fb_cl G)[k]? = some (fb_arZ G n)) (hN : (n : Int) = N) (hb : Nat.ble n 1000 = true) {i : Int} (h0 : 0 ≤ i) (h1 : i < N) (hdg : decode cc pc = .ok (.baload, 1))
    (kk : W p l e R s m args below meth c H locs cells slots Q (F0 m (pc + 1) ls (.int (fb_I (σ k i)) :: rest))) : W p l e R s m args below meth c H locs cells slots Q (F0 m pc ls (.int (fb_I i) :: .ref (fb_ad G k) :: rest)) :=
  fb_zald C w hk h0 (by omega) (by have := Nat.le_of_ble_eq_true hb; omega) hdg kk
theorem fb_as (C : fb_C p s m args meth c G own cc nL) (w : fb_Wd G s σ H locs) {k n : Nat} (N : Int) (hk : (fb_cl G)[k]? = some (fb_arI G n)) (hN : (n : Int) = N) (hb : Nat.ble n 1000 = true) {i v : Int} (iv : fb_in v) (h0 : 0 ≤ i) (h1 : i < N) (hdg : decode cc pc = .ok (.iastore, 1))
    (kk : ∀ (σ1 : fb_St) (H1 : Heap) (locs1 : List Loc), σ1 = fb_up σ k i v → fb_Wd G s σ1 H1 locs1 → W p l e R s m args below meth c H1 locs1 cells slots Q (F0 m (pc + 1) ls rest)) : W p l e R s m args below meth c H locs cells slots Q (F0 m pc ls (.int (fb_I v) :: .int (fb_I i) :: .ref (fb_ad G k) :: rest)) :=
  fb_ast C w hk iv h0 (by omega) (by have := Nat.le_of_ble_eq_true hb; omega) hdg (fun H1 locs1 w1 => kk _ H1 locs1 rfl w1)
theorem fb_zs (C : fb_C p s m args meth c G own cc nL) (w : fb_Wd G s σ H locs) {k n : Nat} (N : Int) (hk : (fb_cl G)[k]? = some (fb_arZ G n)) (hN : (n : Int) = N) (hb : Nat.ble n 1000 = true) {i v : Int} (iv : fb_in v) (hv : fb_B v) (h0 : 0 ≤ i) (h1 : i < N) (hdg : decode cc pc = .ok (.bastore, 1))
    (kk : ∀ (σ1 : fb_St) (H1 : Heap) (locs1 : List Loc), σ1 = fb_up σ k i v → fb_Wd G s σ1 H1 locs1 → W p l e R s m args below meth c H1 locs1 cells slots Q (F0 m (pc + 1) ls rest)) : W p l e R s m args below meth c H locs cells slots Q (F0 m pc ls (.int (fb_I v) :: .int (fb_I i) :: .ref (fb_ad G k) :: rest)) :=
  fb_zast C w hk iv hv h0 (by omega) (by have := Nat.le_of_ble_eq_true hb; omega) hdg (fun H1 locs1 w1 => kk _ H1 locs1 rfl w1)
theorem fb_cy (C : fb_C p s m args meth c G own cc nL) (w : fb_Wd G s σ H locs) {ka kb na nb : Nat} (NA NB : Int) (hka : (fb_cl G)[ka]? = some (fb_arI G na)) (hkb : (fb_cl G)[kb]? = some (fb_arI G nb)) (hNA : (na : Int) = NA) (hNB : (nb : Int) = NB) (hb : Nat.ble na 1000 = true) {n : Int} (h0 : 0 ≤ n) (h1 : n ≤ NA) (h2 : n ≤ NB) {index : Nat} (ml : fb_LC own index)
    (hR : 1 ≤ R.frames ∧ (rest.map fun v => v.category).sum + (nativeFrameWords "java/lang/System" "arraycopy" 5 + 11) ≤ R.locals) (hl : ls.size = nL) (hdg : decode cc pc = .ok (.invokestatic index, 3))
    (kk : ∀ (σ1 : fb_St) (H1 : Heap) (locs1 : List Loc), σ1 = fb_cp σ ka kb n → fb_Wd G s σ1 H1 locs1 → W p l e R s m args below meth c H1 locs1 cells slots Q (F0 m (pc + 3) ls rest)) : W p l e R s m args below meth c H locs cells slots Q (F0 m pc ls (.int (fb_I n) :: .int (fb_I 0) :: .ref (fb_ad G kb) :: .int (fb_I 0) :: .ref (fb_ad G ka) :: rest)) :=
  fb_copy C w hka hkb h0 (by omega) (by omega) (by have := Nat.le_of_ble_eq_true hb; omega) ml hR hl hdg (fun H1 locs1 w1 => kk _ H1 locs1 rfl w1)
theorem fb_q0 (C : fb_C p s m args meth c G own cc nL) (w : fb_Wd G s σ H locs) {i : Int} (h : i = 0) (hdg : decode cc pc = .ok (.aaload, 1))
    (kk : W p l e R s m args below meth c H locs cells slots Q (F0 m (pc + 1) ls (.ref (fb_ad G 42) :: rest))) : W p l e R s m args below meth c H locs cells slots Q (F0 m pc ls (.int (fb_I i) :: .ref (fb_ad G 41) :: rest)) :=
  fb_qald C w (by omega) (by omega) hdg (by rw [if_pos h]; exact kk)
theorem fb_q1 (C : fb_C p s m args meth c G own cc nL) (w : fb_Wd G s σ H locs) {i : Int} (h : i = 1) (hdg : decode cc pc = .ok (.aaload, 1))
    (kk : W p l e R s m args below meth c H locs cells slots Q (F0 m (pc + 1) ls (.ref (fb_ad G 45) :: rest))) : W p l e R s m args below meth c H locs cells slots Q (F0 m pc ls (.int (fb_I i) :: .ref (fb_ad G 41) :: rest)) :=
  fb_qald C w (by omega) (by omega) hdg (by rw [if_neg (by omega)]; exact kk)
theorem fb_lookup (C : fb_C p s m args meth c G own cc nL) {dflt : Int} {ps : Array (Int × Int)} {len : Nat} {x : Int} (ix : fb_in x) {off : Int} {tgt : Nat} (hdg : decode cc pc = .ok (.lookupswitch dflt ps, len)) (hp : (ps.toList.zip (ps.toList.drop 1)).all (fun (a, next) => a.1 < next.1) = true) (ho : Op.lookupswitch.offset ps.toList dflt x = off) (ht : (pc : Int) + off = (tgt : Int))
    (k : W p l e R s m args below meth c H locs cells slots Q (F0 m tgt ls rest)) : W p l e R s m args below meth c H locs cells slots Q (F0 m pc ls (.int (fb_I x) :: rest)) :=
  lv_lookup C.1.1 C.1.2.1 hdg hp (by rw [fb_I_toInt ix]; exact ho) ht k
theorem fb_lkD {x dflt o0 o1 : Int} (h0 : ¬ x = 0) (h1 : ¬ x = 1) : Op.lookupswitch.offset (#[(0, o0), (1, o1)] : Array (Int × Int)).toList dflt x = dflt := by
  have a0 : ¬ (0 : Int) = x := fun q => h0 q.symm
  have a1 : ¬ (1 : Int) = x := fun q => h1 q.symm
  simp [Op.lookupswitch.offset, h0, h1, a0, a1]
end FBS
