/-- what the law's loop stands on -/
def lw_In (p : Program) (s : State) (m : MethodId) (meth : Method) (c : Code) (G : fb_G) (b L : Nat) (xs : Nat → Int32) : Prop :=
  fb_C p s m #[Value.ref b] meth c G RL cL_law 4 ∧ va_X b L xs s s.heap ∧ b < s.heap.size ∧ (∀ q, fb_A G s.heap.size q → s.heap.size ≤ q) ∧ L ≤ 2560
theorem lw_nb {p : Program} {s : State} {m : MethodId} {meth : Method} {c : Code} {G : fb_G} {b L : Nat} {xs : Nat → Int32} (I : lw_In p s m meth c G b L xs) : ¬ fb_A G s.heap.size b := fun h => by
  have h1 := I.2.2.2.1 b h
  have h2 := I.2.2.1
  omega
section LWC
variable {p : Program} {l : Launch} {e : Env} {s : State} {m : MethodId} {below : List Frame} {meth : Method} {c : Code} {H : Heap} {locs : List Loc} {ls : Array Slot} {G : fb_G} {σ : fb_St} {b L : Nat} {xs : Nat → Int32} {i : Int}
abbrev lw_W (p : Program) (l : Launch) (e : Env) (s : State) (m : MethodId) (below : List Frame) (meth : Method) (c : Code) (b : Nat) (H : Heap) (locs : List Loc) (g : JFrame) : Prop := W p l e room_1 s m #[Value.ref b] below meth c H locs 67 7879 (lw_Z below #[Value.ref b] s) g
abbrev lw_L (G : fb_G) (b : Nat) (i : Int) (ls : Array Slot) : Prop := lv_has ls 4 [(3, .int (fb_I i)), (2, .ref (fb_ad G 48)), (1, .ref (fb_ad G 0)), (0, .ref b)]
theorem lk_land (I : lw_In p s m meth c G b L xs) (w : fb_Wd G s σ H locs) (hiv : iv_ σ) (h0 : 0 ≤ i) (h5 : i ≤ (L : Int) - 5) (hl : lw_L G b i ls) (back : ∀ (σ : fb_St) (H : Heap) (locs : List Loc), iv_ σ → fb_Wd G s σ H locs → lw_W p l e s m below meth c b H locs (F0 m 737 ls [])) : lw_W p l e s m below meth c b H locs (F0 m 116 ls []) := by
  obtain ⟨C, hX, hbl, -, hL⟩ := id I
  have hb := lw_nb I
  refine lv_aload_n C.1.1 C.1.2.1 dL_law_116 rfl (lv_at hl 2 rfl) ?_
  refine lv_aload_n C.1.1 C.1.2.1 dL_law_117 rfl (lv_at hl 3 rfl) ?_
  refine lv_iload_n C.1.1 C.1.2.1 dL_law_118 rfl (lv_at hl 0 rfl) ?_
  refine fb_iconst C dL_law_119 ?_
  refine fb_iadd C dL_law_120 ?_
  refine lw_ld C w hX hbl hb hL (by omega) (by omega) dL_law_121 ?_
  refine lv_aload_n C.1.1 C.1.2.1 dL_law_122 rfl (lv_at hl 3 rfl) ?_
  refine lv_iload_n C.1.1 C.1.2.1 dL_law_123 rfl (lv_at hl 0 rfl) ?_
  refine fb_iconst C dL_law_124 ?_
  refine fb_iadd C dL_law_125 ?_
  refine lw_ld C w hX hbl hb hL (by omega) (by omega) dL_law_126 ?_
  refine fb_callVi (As := [.int (fb_I (xs (i + 1).toNat).toInt), .int (fb_I (xs (i + 2).toNat).toInt)]) (rest := []) C w (ct_X6_land l G (fb_in_toInt _) (fb_in_toInt _) (op_land hiv)) mv_XL_13 (fb_k0 C) rfl ⟨rfl, rfl, Nat.le_of_ble_eq_true rfl, Nat.le_of_ble_eq_true rfl, Nat.le_of_ble_eq_true rfl, Nat.le_of_ble_eq_true rfl⟩ rfl hl.1 rfl (Nat.le_of_ble_eq_true rfl) dL_law_127 (fun r1 σ1 H locs h ir1 w => ?_)
  refine lv_aload_n C.1.1 C.1.2.1 dL_law_130 rfl (lv_at hl 1 rfl) ?_
  refine lv_aload_n C.1.1 C.1.2.1 dL_law_131 rfl (lv_at hl 3 rfl) ?_
  refine lv_iload_n C.1.1 C.1.2.1 dL_law_132 rfl (lv_at hl 0 rfl) ?_
  refine fb_iconst C dL_law_133 ?_
  refine fb_iadd C dL_law_134 ?_
  refine lw_ld C w hX hbl hb hL (by omega) (by omega) dL_law_135 ?_
  refine lv_aload_n C.1.1 C.1.2.1 dL_law_136 rfl (lv_at hl 3 rfl) ?_
  refine lv_iload_n C.1.1 C.1.2.1 dL_law_137 rfl (lv_at hl 0 rfl) ?_
  refine fb_iconst C dL_law_138 ?_
  refine fb_iadd C dL_law_139 ?_
  refine lw_ld C w hX hbl hb hL (by omega) (by omega) dL_law_140 ?_
  refine fb_callVi (k := 48) (As := [.int (fb_I (xs (i + 1).toNat).toInt), .int (fb_I (xs (i + 2).toNat).toInt)]) (rest := [.int (fb_I r1)]) C w (ct_X7_land l G (fb_in_toInt _) (fb_in_toInt _) h) mv_XL_17 (fb_kof C (by decide) rfl) rfl ⟨rfl, rfl, Nat.le_of_ble_eq_true rfl, Nat.le_of_ble_eq_true rfl, Nat.le_of_ble_eq_true rfl, Nat.le_of_ble_eq_true rfl⟩ rfl hl.1 rfl (Nat.le_of_ble_eq_true rfl) dL_law_141 (fun r2 σ2 H locs h2 ir2 w => ?_)
  exact fb_icmp_eq (tgt := 737) C ir1 ir2 dL_law_144 (by decide) (fun _ => back σ2 H locs h2.2 w) (fun q => absurd h2.1 q)
theorem lk_wave (I : lw_In p s m meth c G b L xs) (w : fb_Wd G s σ H locs) (hiv : iv_ σ) (h0 : 0 ≤ i) (h5 : i ≤ (L : Int) - 5) (hl : lw_L G b i ls) (back : ∀ (σ : fb_St) (H : Heap) (locs : List Loc), iv_ σ → fb_Wd G s σ H locs → lw_W p l e s m below meth c b H locs (F0 m 737 ls [])) : lw_W p l e s m below meth c b H locs (F0 m 149 ls []) := by
  obtain ⟨C, hX, hbl, -, hL⟩ := id I
  have hb := lw_nb I
  refine lv_aload_n C.1.1 C.1.2.1 dL_law_149 rfl (lv_at hl 2 rfl) ?_
  refine lv_aload_n C.1.1 C.1.2.1 dL_law_150 rfl (lv_at hl 3 rfl) ?_
  refine lv_iload_n C.1.1 C.1.2.1 dL_law_151 rfl (lv_at hl 0 rfl) ?_
  refine fb_iconst C dL_law_152 ?_
  refine fb_iadd C dL_law_153 ?_
  refine lw_ld C w hX hbl hb hL (by omega) (by omega) dL_law_154 ?_
  refine lv_aload_n C.1.1 C.1.2.1 dL_law_155 rfl (lv_at hl 3 rfl) ?_
  refine lv_iload_n C.1.1 C.1.2.1 dL_law_156 rfl (lv_at hl 0 rfl) ?_
  refine fb_iconst C dL_law_157 ?_
  refine fb_iadd C dL_law_158 ?_
  refine lw_ld C w hX hbl hb hL (by omega) (by omega) dL_law_159 ?_
  refine lv_aload_n C.1.1 C.1.2.1 dL_law_160 rfl (lv_at hl 3 rfl) ?_
  refine lv_iload_n C.1.1 C.1.2.1 dL_law_161 rfl (lv_at hl 0 rfl) ?_
  refine fb_iconst C dL_law_162 ?_
  refine fb_iadd C dL_law_163 ?_
  refine lw_ld C w hX hbl hb hL (by omega) (by omega) dL_law_164 ?_
  refine lv_aload_n C.1.1 C.1.2.1 dL_law_165 rfl (lv_at hl 3 rfl) ?_
  refine lv_iload_n C.1.1 C.1.2.1 dL_law_166 rfl (lv_at hl 0 rfl) ?_
  refine fb_iconst C dL_law_167 ?_
  refine fb_iadd C dL_law_168 ?_
  refine lw_ld C w hX hbl hb hL (by omega) (by omega) dL_law_169 ?_
  refine fb_callVi (As := [.int (fb_I (xs (i + 1).toNat).toInt), .int (fb_I (xs (i + 2).toNat).toInt), .int (fb_I (xs (i + 3).toNat).toInt), .int (fb_I (xs (i + 4).toNat).toInt)]) (rest := []) C w (ct_X6_wave l G (fb_in_toInt _) (fb_in_toInt _) (fb_in_toInt _) (fb_in_toInt _) (op_wave hiv)) mv_XL_18 (fb_k0 C) rfl ⟨rfl, rfl, Nat.le_of_ble_eq_true rfl, Nat.le_of_ble_eq_true rfl, Nat.le_of_ble_eq_true rfl, Nat.le_of_ble_eq_true rfl⟩ rfl hl.1 rfl (Nat.le_of_ble_eq_true rfl) dL_law_170 (fun r1 σ1 H locs h ir1 w => ?_)
  refine lv_aload_n C.1.1 C.1.2.1 dL_law_173 rfl (lv_at hl 1 rfl) ?_
  refine lv_aload_n C.1.1 C.1.2.1 dL_law_174 rfl (lv_at hl 3 rfl) ?_
  refine lv_iload_n C.1.1 C.1.2.1 dL_law_175 rfl (lv_at hl 0 rfl) ?_
  refine fb_iconst C dL_law_176 ?_
  refine fb_iadd C dL_law_177 ?_
  refine lw_ld C w hX hbl hb hL (by omega) (by omega) dL_law_178 ?_
  refine lv_aload_n C.1.1 C.1.2.1 dL_law_179 rfl (lv_at hl 3 rfl) ?_
  refine lv_iload_n C.1.1 C.1.2.1 dL_law_180 rfl (lv_at hl 0 rfl) ?_
  refine fb_iconst C dL_law_181 ?_
  refine fb_iadd C dL_law_182 ?_
  refine lw_ld C w hX hbl hb hL (by omega) (by omega) dL_law_183 ?_
  refine lv_aload_n C.1.1 C.1.2.1 dL_law_184 rfl (lv_at hl 3 rfl) ?_
  refine lv_iload_n C.1.1 C.1.2.1 dL_law_185 rfl (lv_at hl 0 rfl) ?_
  refine fb_iconst C dL_law_186 ?_
  refine fb_iadd C dL_law_187 ?_
  refine lw_ld C w hX hbl hb hL (by omega) (by omega) dL_law_188 ?_
  refine lv_aload_n C.1.1 C.1.2.1 dL_law_189 rfl (lv_at hl 3 rfl) ?_
  refine lv_iload_n C.1.1 C.1.2.1 dL_law_190 rfl (lv_at hl 0 rfl) ?_
  refine fb_iconst C dL_law_191 ?_
  refine fb_iadd C dL_law_192 ?_
  refine lw_ld C w hX hbl hb hL (by omega) (by omega) dL_law_193 ?_
  refine fb_callVi (k := 48) (As := [.int (fb_I (xs (i + 1).toNat).toInt), .int (fb_I (xs (i + 2).toNat).toInt), .int (fb_I (xs (i + 3).toNat).toInt), .int (fb_I (xs (i + 4).toNat).toInt)]) (rest := [.int (fb_I r1)]) C w (ct_X7_wave l G (fb_in_toInt _) (fb_in_toInt _) (fb_in_toInt _) (fb_in_toInt _) h) mv_XL_22 (fb_kof C (by decide) rfl) rfl ⟨rfl, rfl, Nat.le_of_ble_eq_true rfl, Nat.le_of_ble_eq_true rfl, Nat.le_of_ble_eq_true rfl, Nat.le_of_ble_eq_true rfl⟩ rfl hl.1 rfl (Nat.le_of_ble_eq_true rfl) dL_law_194 (fun r2 σ2 H locs h2 ir2 w => ?_)
  exact fb_icmp_eq (tgt := 737) C ir1 ir2 dL_law_197 (by decide) (fun _ => back σ2 H locs h2.2 w) (fun q => absurd h2.1 q)
theorem lk_heap (I : lw_In p s m meth c G b L xs) (w : fb_Wd G s σ H locs) (hiv : iv_ σ) (h0 : 0 ≤ i) (h5 : i ≤ (L : Int) - 5) (hl : lw_L G b i ls) (back : ∀ (σ : fb_St) (H : Heap) (locs : List Loc), iv_ σ → fb_Wd G s σ H locs → lw_W p l e s m below meth c b H locs (F0 m 737 ls [])) : lw_W p l e s m below meth c b H locs (F0 m 202 ls []) := by
  obtain ⟨C, hX, hbl, -, hL⟩ := id I
  have hb := lw_nb I
  refine lv_aload_n C.1.1 C.1.2.1 dL_law_202 rfl (lv_at hl 2 rfl) ?_
  refine lv_aload_n C.1.1 C.1.2.1 dL_law_203 rfl (lv_at hl 3 rfl) ?_
  refine lv_iload_n C.1.1 C.1.2.1 dL_law_204 rfl (lv_at hl 0 rfl) ?_
  refine fb_iconst C dL_law_205 ?_
  refine fb_iadd C dL_law_206 ?_
  refine lw_ld C w hX hbl hb hL (by omega) (by omega) dL_law_207 ?_
  refine lv_aload_n C.1.1 C.1.2.1 dL_law_208 rfl (lv_at hl 3 rfl) ?_
  refine lv_iload_n C.1.1 C.1.2.1 dL_law_209 rfl (lv_at hl 0 rfl) ?_
  refine fb_iconst C dL_law_210 ?_
  refine fb_iadd C dL_law_211 ?_
  refine lw_ld C w hX hbl hb hL (by omega) (by omega) dL_law_212 ?_
  refine lv_aload_n C.1.1 C.1.2.1 dL_law_213 rfl (lv_at hl 3 rfl) ?_
  refine lv_iload_n C.1.1 C.1.2.1 dL_law_214 rfl (lv_at hl 0 rfl) ?_
  refine fb_iconst C dL_law_215 ?_
  refine fb_iadd C dL_law_216 ?_
  refine lw_ld C w hX hbl hb hL (by omega) (by omega) dL_law_217 ?_
  refine lv_aload_n C.1.1 C.1.2.1 dL_law_218 rfl (lv_at hl 3 rfl) ?_
  refine lv_iload_n C.1.1 C.1.2.1 dL_law_219 rfl (lv_at hl 0 rfl) ?_
  refine fb_iconst C dL_law_220 ?_
  refine fb_iadd C dL_law_221 ?_
  refine lw_ld C w hX hbl hb hL (by omega) (by omega) dL_law_222 ?_
  refine fb_callVi (As := [.int (fb_I (xs (i + 1).toNat).toInt), .int (fb_I (xs (i + 2).toNat).toInt), .int (fb_I (xs (i + 3).toNat).toInt), .int (fb_I (xs (i + 4).toNat).toInt)]) (rest := []) C w (ct_X6_heap l G (fb_in_toInt _) (fb_in_toInt _) (fb_in_toInt _) (fb_in_toInt _) (op_heap hiv)) mv_XL_23 (fb_k0 C) rfl ⟨rfl, rfl, Nat.le_of_ble_eq_true rfl, Nat.le_of_ble_eq_true rfl, Nat.le_of_ble_eq_true rfl, Nat.le_of_ble_eq_true rfl⟩ rfl hl.1 rfl (Nat.le_of_ble_eq_true rfl) dL_law_223 (fun r1 σ1 H locs h ir1 w => ?_)
  refine lv_aload_n C.1.1 C.1.2.1 dL_law_226 rfl (lv_at hl 1 rfl) ?_
  refine lv_aload_n C.1.1 C.1.2.1 dL_law_227 rfl (lv_at hl 3 rfl) ?_
  refine lv_iload_n C.1.1 C.1.2.1 dL_law_228 rfl (lv_at hl 0 rfl) ?_
  refine fb_iconst C dL_law_229 ?_
  refine fb_iadd C dL_law_230 ?_
  refine lw_ld C w hX hbl hb hL (by omega) (by omega) dL_law_231 ?_
  refine lv_aload_n C.1.1 C.1.2.1 dL_law_232 rfl (lv_at hl 3 rfl) ?_
  refine lv_iload_n C.1.1 C.1.2.1 dL_law_233 rfl (lv_at hl 0 rfl) ?_
  refine fb_iconst C dL_law_234 ?_
  refine fb_iadd C dL_law_235 ?_
  refine lw_ld C w hX hbl hb hL (by omega) (by omega) dL_law_236 ?_
  refine lv_aload_n C.1.1 C.1.2.1 dL_law_237 rfl (lv_at hl 3 rfl) ?_
  refine lv_iload_n C.1.1 C.1.2.1 dL_law_238 rfl (lv_at hl 0 rfl) ?_
  refine fb_iconst C dL_law_239 ?_
  refine fb_iadd C dL_law_240 ?_
  refine lw_ld C w hX hbl hb hL (by omega) (by omega) dL_law_241 ?_
  refine lv_aload_n C.1.1 C.1.2.1 dL_law_242 rfl (lv_at hl 3 rfl) ?_
  refine lv_iload_n C.1.1 C.1.2.1 dL_law_243 rfl (lv_at hl 0 rfl) ?_
  refine fb_iconst C dL_law_244 ?_
  refine fb_iadd C dL_law_245 ?_
  refine lw_ld C w hX hbl hb hL (by omega) (by omega) dL_law_246 ?_
  refine fb_callVi (k := 48) (As := [.int (fb_I (xs (i + 1).toNat).toInt), .int (fb_I (xs (i + 2).toNat).toInt), .int (fb_I (xs (i + 3).toNat).toInt), .int (fb_I (xs (i + 4).toNat).toInt)]) (rest := [.int (fb_I r1)]) C w (ct_X7_heap l G (fb_in_toInt _) (fb_in_toInt _) (fb_in_toInt _) (fb_in_toInt _) h) mv_XL_26 (fb_kof C (by decide) rfl) rfl ⟨rfl, rfl, Nat.le_of_ble_eq_true rfl, Nat.le_of_ble_eq_true rfl, Nat.le_of_ble_eq_true rfl, Nat.le_of_ble_eq_true rfl⟩ rfl hl.1 rfl (Nat.le_of_ble_eq_true rfl) dL_law_247 (fun r2 σ2 H locs h2 ir2 w => ?_)
  exact fb_icmp_eq (tgt := 737) C ir1 ir2 dL_law_250 (by decide) (fun _ => back σ2 H locs h2.2 w) (fun q => absurd h2.1 q)
theorem lk_put (I : lw_In p s m meth c G b L xs) (w : fb_Wd G s σ H locs) (hiv : iv_ σ) (h0 : 0 ≤ i) (h5 : i ≤ (L : Int) - 5) (hl : lw_L G b i ls) (back : ∀ (σ : fb_St) (H : Heap) (locs : List Loc), iv_ σ → fb_Wd G s σ H locs → lw_W p l e s m below meth c b H locs (F0 m 737 ls [])) : lw_W p l e s m below meth c b H locs (F0 m 255 ls []) := by
  obtain ⟨C, hX, hbl, -, hL⟩ := id I
  have hb := lw_nb I
  refine lv_aload_n C.1.1 C.1.2.1 dL_law_255 rfl (lv_at hl 2 rfl) ?_
  refine lv_aload_n C.1.1 C.1.2.1 dL_law_256 rfl (lv_at hl 3 rfl) ?_
  refine lv_iload_n C.1.1 C.1.2.1 dL_law_257 rfl (lv_at hl 0 rfl) ?_
  refine fb_iconst C dL_law_258 ?_
  refine fb_iadd C dL_law_259 ?_
  refine lw_ld C w hX hbl hb hL (by omega) (by omega) dL_law_260 ?_
  refine lv_aload_n C.1.1 C.1.2.1 dL_law_261 rfl (lv_at hl 3 rfl) ?_
  refine lv_iload_n C.1.1 C.1.2.1 dL_law_262 rfl (lv_at hl 0 rfl) ?_
  refine fb_iconst C dL_law_263 ?_
  refine fb_iadd C dL_law_264 ?_
  refine lw_ld C w hX hbl hb hL (by omega) (by omega) dL_law_265 ?_
  refine lv_aload_n C.1.1 C.1.2.1 dL_law_266 rfl (lv_at hl 3 rfl) ?_
  refine lv_iload_n C.1.1 C.1.2.1 dL_law_267 rfl (lv_at hl 0 rfl) ?_
  refine fb_iconst C dL_law_268 ?_
  refine fb_iadd C dL_law_269 ?_
  refine lw_ld C w hX hbl hb hL (by omega) (by omega) dL_law_270 ?_
  refine fb_callVi (As := [.int (fb_I (xs (i + 1).toNat).toInt), .int (fb_I (xs (i + 2).toNat).toInt), .int (fb_I (xs (i + 3).toNat).toInt)]) (rest := []) C w (ct_X6_put l G (fb_in_toInt _) (fb_in_toInt _) (fb_in_toInt _) (op_put hiv)) mv_XL_27 (fb_k0 C) rfl ⟨rfl, rfl, Nat.le_of_ble_eq_true rfl, Nat.le_of_ble_eq_true rfl, Nat.le_of_ble_eq_true rfl, Nat.le_of_ble_eq_true rfl⟩ rfl hl.1 rfl (Nat.le_of_ble_eq_true rfl) dL_law_271 (fun r1 σ1 H locs h ir1 w => ?_)
  refine lv_aload_n C.1.1 C.1.2.1 dL_law_274 rfl (lv_at hl 1 rfl) ?_
  refine lv_aload_n C.1.1 C.1.2.1 dL_law_275 rfl (lv_at hl 3 rfl) ?_
  refine lv_iload_n C.1.1 C.1.2.1 dL_law_276 rfl (lv_at hl 0 rfl) ?_
  refine fb_iconst C dL_law_277 ?_
  refine fb_iadd C dL_law_278 ?_
  refine lw_ld C w hX hbl hb hL (by omega) (by omega) dL_law_279 ?_
  refine lv_aload_n C.1.1 C.1.2.1 dL_law_280 rfl (lv_at hl 3 rfl) ?_
  refine lv_iload_n C.1.1 C.1.2.1 dL_law_281 rfl (lv_at hl 0 rfl) ?_
  refine fb_iconst C dL_law_282 ?_
  refine fb_iadd C dL_law_283 ?_
  refine lw_ld C w hX hbl hb hL (by omega) (by omega) dL_law_284 ?_
  refine lv_aload_n C.1.1 C.1.2.1 dL_law_285 rfl (lv_at hl 3 rfl) ?_
  refine lv_iload_n C.1.1 C.1.2.1 dL_law_286 rfl (lv_at hl 0 rfl) ?_
  refine fb_iconst C dL_law_287 ?_
  refine fb_iadd C dL_law_288 ?_
  refine lw_ld C w hX hbl hb hL (by omega) (by omega) dL_law_289 ?_
  refine fb_callVi (k := 48) (As := [.int (fb_I (xs (i + 1).toNat).toInt), .int (fb_I (xs (i + 2).toNat).toInt), .int (fb_I (xs (i + 3).toNat).toInt)]) (rest := [.int (fb_I r1)]) C w (ct_X7_put l G (fb_in_toInt _) (fb_in_toInt _) (fb_in_toInt _) h) mv_XL_31 (fb_kof C (by decide) rfl) rfl ⟨rfl, rfl, Nat.le_of_ble_eq_true rfl, Nat.le_of_ble_eq_true rfl, Nat.le_of_ble_eq_true rfl, Nat.le_of_ble_eq_true rfl⟩ rfl hl.1 rfl (Nat.le_of_ble_eq_true rfl) dL_law_290 (fun r2 σ2 H locs h2 ir2 w => ?_)
  exact fb_icmp_eq (tgt := 737) C ir1 ir2 dL_law_293 (by decide) (fun _ => back σ2 H locs h2.2 w) (fun q => absurd h2.1 q)
theorem lk_mark (I : lw_In p s m meth c G b L xs) (w : fb_Wd G s σ H locs) (hiv : iv_ σ) (h0 : 0 ≤ i) (h5 : i ≤ (L : Int) - 5) (hl : lw_L G b i ls) (back : ∀ (σ : fb_St) (H : Heap) (locs : List Loc), iv_ σ → fb_Wd G s σ H locs → lw_W p l e s m below meth c b H locs (F0 m 737 ls [])) : lw_W p l e s m below meth c b H locs (F0 m 298 ls []) := by
  obtain ⟨C, hX, hbl, -, hL⟩ := id I
  have hb := lw_nb I
  refine lv_aload_n C.1.1 C.1.2.1 dL_law_298 rfl (lv_at hl 2 rfl) ?_
  refine lv_aload_n C.1.1 C.1.2.1 dL_law_299 rfl (lv_at hl 3 rfl) ?_
  refine lv_iload_n C.1.1 C.1.2.1 dL_law_300 rfl (lv_at hl 0 rfl) ?_
  refine fb_iconst C dL_law_301 ?_
  refine fb_iadd C dL_law_302 ?_
  refine lw_ld C w hX hbl hb hL (by omega) (by omega) dL_law_303 ?_
  refine lv_aload_n C.1.1 C.1.2.1 dL_law_304 rfl (lv_at hl 3 rfl) ?_
  refine lv_iload_n C.1.1 C.1.2.1 dL_law_305 rfl (lv_at hl 0 rfl) ?_
  refine fb_iconst C dL_law_306 ?_
  refine fb_iadd C dL_law_307 ?_
  refine lw_ld C w hX hbl hb hL (by omega) (by omega) dL_law_308 ?_
  refine lv_aload_n C.1.1 C.1.2.1 dL_law_309 rfl (lv_at hl 3 rfl) ?_
  refine lv_iload_n C.1.1 C.1.2.1 dL_law_310 rfl (lv_at hl 0 rfl) ?_
  refine fb_iconst C dL_law_311 ?_
  refine fb_iadd C dL_law_312 ?_
  refine lw_ld C w hX hbl hb hL (by omega) (by omega) dL_law_313 ?_
  refine fb_callVi (As := [.int (fb_I (xs (i + 1).toNat).toInt), .int (fb_I (xs (i + 2).toNat).toInt), .int (fb_I (xs (i + 3).toNat).toInt)]) (rest := []) C w (ct_X6_mark l G (fb_in_toInt _) (fb_in_toInt _) (fb_in_toInt _) (op_mark hiv)) mv_XL_32 (fb_k0 C) rfl ⟨rfl, rfl, Nat.le_of_ble_eq_true rfl, Nat.le_of_ble_eq_true rfl, Nat.le_of_ble_eq_true rfl, Nat.le_of_ble_eq_true rfl⟩ rfl hl.1 rfl (Nat.le_of_ble_eq_true rfl) dL_law_314 (fun r1 σ1 H locs h ir1 w => ?_)
  refine lv_aload_n C.1.1 C.1.2.1 dL_law_317 rfl (lv_at hl 1 rfl) ?_
  refine lv_aload_n C.1.1 C.1.2.1 dL_law_318 rfl (lv_at hl 3 rfl) ?_
  refine lv_iload_n C.1.1 C.1.2.1 dL_law_319 rfl (lv_at hl 0 rfl) ?_
  refine fb_iconst C dL_law_320 ?_
  refine fb_iadd C dL_law_321 ?_
  refine lw_ld C w hX hbl hb hL (by omega) (by omega) dL_law_322 ?_
  refine lv_aload_n C.1.1 C.1.2.1 dL_law_323 rfl (lv_at hl 3 rfl) ?_
  refine lv_iload_n C.1.1 C.1.2.1 dL_law_324 rfl (lv_at hl 0 rfl) ?_
  refine fb_iconst C dL_law_325 ?_
  refine fb_iadd C dL_law_326 ?_
  refine lw_ld C w hX hbl hb hL (by omega) (by omega) dL_law_327 ?_
  refine lv_aload_n C.1.1 C.1.2.1 dL_law_328 rfl (lv_at hl 3 rfl) ?_
  refine lv_iload_n C.1.1 C.1.2.1 dL_law_329 rfl (lv_at hl 0 rfl) ?_
  refine fb_iconst C dL_law_330 ?_
  refine fb_iadd C dL_law_331 ?_
  refine lw_ld C w hX hbl hb hL (by omega) (by omega) dL_law_332 ?_
  refine fb_callVi (k := 48) (As := [.int (fb_I (xs (i + 1).toNat).toInt), .int (fb_I (xs (i + 2).toNat).toInt), .int (fb_I (xs (i + 3).toNat).toInt)]) (rest := [.int (fb_I r1)]) C w (ct_X7_mark l G (fb_in_toInt _) (fb_in_toInt _) (fb_in_toInt _) h) mv_XL_35 (fb_kof C (by decide) rfl) rfl ⟨rfl, rfl, Nat.le_of_ble_eq_true rfl, Nat.le_of_ble_eq_true rfl, Nat.le_of_ble_eq_true rfl, Nat.le_of_ble_eq_true rfl⟩ rfl hl.1 rfl (Nat.le_of_ble_eq_true rfl) dL_law_333 (fun r2 σ2 H locs h2 ir2 w => ?_)
  exact fb_icmp_eq (tgt := 737) C ir1 ir2 dL_law_336 (by decide) (fun _ => back σ2 H locs h2.2 w) (fun q => absurd h2.1 q)
theorem lk_pits (I : lw_In p s m meth c G b L xs) (w : fb_Wd G s σ H locs) (hiv : iv_ σ) (h0 : 0 ≤ i) (h5 : i ≤ (L : Int) - 5) (hl : lw_L G b i ls) (back : ∀ (σ : fb_St) (H : Heap) (locs : List Loc), iv_ σ → fb_Wd G s σ H locs → lw_W p l e s m below meth c b H locs (F0 m 737 ls [])) : lw_W p l e s m below meth c b H locs (F0 m 341 ls []) := by
  obtain ⟨C, hX, hbl, -, hL⟩ := id I
  have hb := lw_nb I
  refine lv_aload_n C.1.1 C.1.2.1 dL_law_341 rfl (lv_at hl 2 rfl) ?_
  refine fb_callVi (As := []) (rest := []) C w (ct_X6_pits l G  (op_pits hiv)) mv_XL_36 (fb_k0 C) rfl ⟨rfl, rfl, Nat.le_of_ble_eq_true rfl, Nat.le_of_ble_eq_true rfl, Nat.le_of_ble_eq_true rfl, Nat.le_of_ble_eq_true rfl⟩ rfl hl.1 rfl (Nat.le_of_ble_eq_true rfl) dL_law_342 (fun r1 σ1 H locs h ir1 w => ?_)
  refine lv_aload_n C.1.1 C.1.2.1 dL_law_345 rfl (lv_at hl 1 rfl) ?_
  refine fb_callVi (k := 48) (As := []) (rest := [.int (fb_I r1)]) C w (ct_X7_pits l G  h) mv_XL_40 (fb_kof C (by decide) rfl) rfl ⟨rfl, rfl, Nat.le_of_ble_eq_true rfl, Nat.le_of_ble_eq_true rfl, Nat.le_of_ble_eq_true rfl, Nat.le_of_ble_eq_true rfl⟩ rfl hl.1 rfl (Nat.le_of_ble_eq_true rfl) dL_law_346 (fun r2 σ2 H locs h2 ir2 w => ?_)
  exact fb_icmp_eq (tgt := 737) C ir1 ir2 dL_law_349 (by decide) (fun _ => back σ2 H locs h2.2 w) (fun q => absurd h2.1 q)
theorem lk_dot (I : lw_In p s m meth c G b L xs) (w : fb_Wd G s σ H locs) (hiv : iv_ σ) (h0 : 0 ≤ i) (h5 : i ≤ (L : Int) - 5) (hl : lw_L G b i ls) (back : ∀ (σ : fb_St) (H : Heap) (locs : List Loc), iv_ σ → fb_Wd G s σ H locs → lw_W p l e s m below meth c b H locs (F0 m 737 ls [])) : lw_W p l e s m below meth c b H locs (F0 m 354 ls []) := by
  obtain ⟨C, hX, hbl, -, hL⟩ := id I
  have hb := lw_nb I
  refine lv_aload_n C.1.1 C.1.2.1 dL_law_354 rfl (lv_at hl 2 rfl) ?_
  refine lv_aload_n C.1.1 C.1.2.1 dL_law_355 rfl (lv_at hl 3 rfl) ?_
  refine lv_iload_n C.1.1 C.1.2.1 dL_law_356 rfl (lv_at hl 0 rfl) ?_
  refine fb_iconst C dL_law_357 ?_
  refine fb_iadd C dL_law_358 ?_
  refine lw_ld C w hX hbl hb hL (by omega) (by omega) dL_law_359 ?_
  refine lv_aload_n C.1.1 C.1.2.1 dL_law_360 rfl (lv_at hl 3 rfl) ?_
  refine lv_iload_n C.1.1 C.1.2.1 dL_law_361 rfl (lv_at hl 0 rfl) ?_
  refine fb_iconst C dL_law_362 ?_
  refine fb_iadd C dL_law_363 ?_
  refine lw_ld C w hX hbl hb hL (by omega) (by omega) dL_law_364 ?_
  refine lv_aload_n C.1.1 C.1.2.1 dL_law_365 rfl (lv_at hl 3 rfl) ?_
  refine lv_iload_n C.1.1 C.1.2.1 dL_law_366 rfl (lv_at hl 0 rfl) ?_
  refine fb_iconst C dL_law_367 ?_
  refine fb_iadd C dL_law_368 ?_
  refine lw_ld C w hX hbl hb hL (by omega) (by omega) dL_law_369 ?_
  refine fb_callVi (As := [.int (fb_I (xs (i + 1).toNat).toInt), .int (fb_I (xs (i + 2).toNat).toInt), .int (fb_I (xs (i + 3).toNat).toInt)]) (rest := []) C w (ct_X6_dot l G (fb_in_toInt _) (fb_in_toInt _) (fb_in_toInt _) (op_dot hiv)) mv_XL_41 (fb_k0 C) rfl ⟨rfl, rfl, Nat.le_of_ble_eq_true rfl, Nat.le_of_ble_eq_true rfl, Nat.le_of_ble_eq_true rfl, Nat.le_of_ble_eq_true rfl⟩ rfl hl.1 rfl (Nat.le_of_ble_eq_true rfl) dL_law_370 (fun r1 σ1 H locs h ir1 w => ?_)
  refine lv_aload_n C.1.1 C.1.2.1 dL_law_373 rfl (lv_at hl 1 rfl) ?_
  refine lv_aload_n C.1.1 C.1.2.1 dL_law_374 rfl (lv_at hl 3 rfl) ?_
  refine lv_iload_n C.1.1 C.1.2.1 dL_law_375 rfl (lv_at hl 0 rfl) ?_
  refine fb_iconst C dL_law_376 ?_
  refine fb_iadd C dL_law_377 ?_
  refine lw_ld C w hX hbl hb hL (by omega) (by omega) dL_law_378 ?_
  refine lv_aload_n C.1.1 C.1.2.1 dL_law_379 rfl (lv_at hl 3 rfl) ?_
  refine lv_iload_n C.1.1 C.1.2.1 dL_law_380 rfl (lv_at hl 0 rfl) ?_
  refine fb_iconst C dL_law_381 ?_
  refine fb_iadd C dL_law_382 ?_
  refine lw_ld C w hX hbl hb hL (by omega) (by omega) dL_law_383 ?_
  refine lv_aload_n C.1.1 C.1.2.1 dL_law_384 rfl (lv_at hl 3 rfl) ?_
  refine lv_iload_n C.1.1 C.1.2.1 dL_law_385 rfl (lv_at hl 0 rfl) ?_
  refine fb_iconst C dL_law_386 ?_
  refine fb_iadd C dL_law_387 ?_
  refine lw_ld C w hX hbl hb hL (by omega) (by omega) dL_law_388 ?_
  refine fb_callVi (k := 48) (As := [.int (fb_I (xs (i + 1).toNat).toInt), .int (fb_I (xs (i + 2).toNat).toInt), .int (fb_I (xs (i + 3).toNat).toInt)]) (rest := [.int (fb_I r1)]) C w (ct_X7_dot l G (fb_in_toInt _) (fb_in_toInt _) (fb_in_toInt _) h) mv_XL_44 (fb_kof C (by decide) rfl) rfl ⟨rfl, rfl, Nat.le_of_ble_eq_true rfl, Nat.le_of_ble_eq_true rfl, Nat.le_of_ble_eq_true rfl, Nat.le_of_ble_eq_true rfl⟩ rfl hl.1 rfl (Nat.le_of_ble_eq_true rfl) dL_law_389 (fun r2 σ2 H locs h2 ir2 w => ?_)
  exact fb_icmp_eq (tgt := 737) C ir1 ir2 dL_law_392 (by decide) (fun _ => back σ2 H locs h2.2 w) (fun q => absurd h2.1 q)
theorem lk_bound (I : lw_In p s m meth c G b L xs) (w : fb_Wd G s σ H locs) (hiv : iv_ σ) (h0 : 0 ≤ i) (h5 : i ≤ (L : Int) - 5) (hl : lw_L G b i ls) (back : ∀ (σ : fb_St) (H : Heap) (locs : List Loc), iv_ σ → fb_Wd G s σ H locs → lw_W p l e s m below meth c b H locs (F0 m 737 ls [])) : lw_W p l e s m below meth c b H locs (F0 m 397 ls []) := by
  obtain ⟨C, hX, hbl, -, hL⟩ := id I
  have hb := lw_nb I
  refine lv_aload_n C.1.1 C.1.2.1 dL_law_397 rfl (lv_at hl 2 rfl) ?_
  refine lv_aload_n C.1.1 C.1.2.1 dL_law_398 rfl (lv_at hl 3 rfl) ?_
  refine lv_iload_n C.1.1 C.1.2.1 dL_law_399 rfl (lv_at hl 0 rfl) ?_
  refine fb_iconst C dL_law_400 ?_
  refine fb_iadd C dL_law_401 ?_
  refine lw_ld C w hX hbl hb hL (by omega) (by omega) dL_law_402 ?_
  refine lv_aload_n C.1.1 C.1.2.1 dL_law_403 rfl (lv_at hl 3 rfl) ?_
  refine lv_iload_n C.1.1 C.1.2.1 dL_law_404 rfl (lv_at hl 0 rfl) ?_
  refine fb_iconst C dL_law_405 ?_
  refine fb_iadd C dL_law_406 ?_
  refine lw_ld C w hX hbl hb hL (by omega) (by omega) dL_law_407 ?_
  refine fb_callVi (As := [.int (fb_I (xs (i + 1).toNat).toInt), .int (fb_I (xs (i + 2).toNat).toInt)]) (rest := []) C w (ct_X6_bound l G (fb_in_toInt _) (fb_in_toInt _) (op_bound hiv)) mv_XL_45 (fb_k0 C) rfl ⟨rfl, rfl, Nat.le_of_ble_eq_true rfl, Nat.le_of_ble_eq_true rfl, Nat.le_of_ble_eq_true rfl, Nat.le_of_ble_eq_true rfl⟩ rfl hl.1 rfl (Nat.le_of_ble_eq_true rfl) dL_law_408 (fun r1 σ1 H locs h ir1 w => ?_)
  refine lv_aload_n C.1.1 C.1.2.1 dL_law_411 rfl (lv_at hl 1 rfl) ?_
  refine lv_aload_n C.1.1 C.1.2.1 dL_law_412 rfl (lv_at hl 3 rfl) ?_
  refine lv_iload_n C.1.1 C.1.2.1 dL_law_413 rfl (lv_at hl 0 rfl) ?_
  refine fb_iconst C dL_law_414 ?_
  refine fb_iadd C dL_law_415 ?_
  refine lw_ld C w hX hbl hb hL (by omega) (by omega) dL_law_416 ?_
  refine lv_aload_n C.1.1 C.1.2.1 dL_law_417 rfl (lv_at hl 3 rfl) ?_
  refine lv_iload_n C.1.1 C.1.2.1 dL_law_418 rfl (lv_at hl 0 rfl) ?_
  refine fb_iconst C dL_law_419 ?_
  refine fb_iadd C dL_law_420 ?_
  refine lw_ld C w hX hbl hb hL (by omega) (by omega) dL_law_421 ?_
  refine fb_callVi (k := 48) (As := [.int (fb_I (xs (i + 1).toNat).toInt), .int (fb_I (xs (i + 2).toNat).toInt)]) (rest := [.int (fb_I r1)]) C w (ct_X7_bound l G (fb_in_toInt _) (fb_in_toInt _) h) mv_XL_48 (fb_kof C (by decide) rfl) rfl ⟨rfl, rfl, Nat.le_of_ble_eq_true rfl, Nat.le_of_ble_eq_true rfl, Nat.le_of_ble_eq_true rfl, Nat.le_of_ble_eq_true rfl⟩ rfl hl.1 rfl (Nat.le_of_ble_eq_true rfl) dL_law_422 (fun r2 σ2 H locs h2 ir2 w => ?_)
  exact fb_icmp_eq (tgt := 737) C ir1 ir2 dL_law_425 (by decide) (fun _ => back σ2 H locs h2.2 w) (fun q => absurd h2.1 q)
theorem lk_basin (I : lw_In p s m meth c G b L xs) (w : fb_Wd G s σ H locs) (hiv : iv_ σ) (h0 : 0 ≤ i) (h5 : i ≤ (L : Int) - 5) (hl : lw_L G b i ls) (back : ∀ (σ : fb_St) (H : Heap) (locs : List Loc), iv_ σ → fb_Wd G s σ H locs → lw_W p l e s m below meth c b H locs (F0 m 737 ls [])) : lw_W p l e s m below meth c b H locs (F0 m 430 ls []) := by
  obtain ⟨C, hX, hbl, -, hL⟩ := id I
  have hb := lw_nb I
  refine lv_aload_n C.1.1 C.1.2.1 dL_law_430 rfl (lv_at hl 2 rfl) ?_
  refine lv_aload_n C.1.1 C.1.2.1 dL_law_431 rfl (lv_at hl 3 rfl) ?_
  refine lv_iload_n C.1.1 C.1.2.1 dL_law_432 rfl (lv_at hl 0 rfl) ?_
  refine fb_iconst C dL_law_433 ?_
  refine fb_iadd C dL_law_434 ?_
  refine lw_ld C w hX hbl hb hL (by omega) (by omega) dL_law_435 ?_
  refine lv_aload_n C.1.1 C.1.2.1 dL_law_436 rfl (lv_at hl 3 rfl) ?_
  refine lv_iload_n C.1.1 C.1.2.1 dL_law_437 rfl (lv_at hl 0 rfl) ?_
  refine fb_iconst C dL_law_438 ?_
  refine fb_iadd C dL_law_439 ?_
  refine lw_ld C w hX hbl hb hL (by omega) (by omega) dL_law_440 ?_
  refine fb_callVi (As := [.int (fb_I (xs (i + 1).toNat).toInt), .int (fb_I (xs (i + 2).toNat).toInt)]) (rest := []) C w (ct_X6_basin l G (fb_in_toInt _) (fb_in_toInt _) (op_basin hiv)) mv_XL_49 (fb_k0 C) rfl ⟨rfl, rfl, Nat.le_of_ble_eq_true rfl, Nat.le_of_ble_eq_true rfl, Nat.le_of_ble_eq_true rfl, Nat.le_of_ble_eq_true rfl⟩ rfl hl.1 rfl (Nat.le_of_ble_eq_true rfl) dL_law_441 (fun r1 σ1 H locs h ir1 w => ?_)
  refine lv_aload_n C.1.1 C.1.2.1 dL_law_444 rfl (lv_at hl 1 rfl) ?_
  refine lv_aload_n C.1.1 C.1.2.1 dL_law_445 rfl (lv_at hl 3 rfl) ?_
  refine lv_iload_n C.1.1 C.1.2.1 dL_law_446 rfl (lv_at hl 0 rfl) ?_
  refine fb_iconst C dL_law_447 ?_
  refine fb_iadd C dL_law_448 ?_
  refine lw_ld C w hX hbl hb hL (by omega) (by omega) dL_law_449 ?_
  refine lv_aload_n C.1.1 C.1.2.1 dL_law_450 rfl (lv_at hl 3 rfl) ?_
  refine lv_iload_n C.1.1 C.1.2.1 dL_law_451 rfl (lv_at hl 0 rfl) ?_
  refine fb_iconst C dL_law_452 ?_
  refine fb_iadd C dL_law_453 ?_
  refine lw_ld C w hX hbl hb hL (by omega) (by omega) dL_law_454 ?_
  refine fb_callVi (k := 48) (As := [.int (fb_I (xs (i + 1).toNat).toInt), .int (fb_I (xs (i + 2).toNat).toInt)]) (rest := [.int (fb_I r1)]) C w (ct_X7_basin l G (fb_in_toInt _) (fb_in_toInt _) h) mv_XL_52 (fb_kof C (by decide) rfl) rfl ⟨rfl, rfl, Nat.le_of_ble_eq_true rfl, Nat.le_of_ble_eq_true rfl, Nat.le_of_ble_eq_true rfl, Nat.le_of_ble_eq_true rfl⟩ rfl hl.1 rfl (Nat.le_of_ble_eq_true rfl) dL_law_455 (fun r2 σ2 H locs h2 ir2 w => ?_)
  exact fb_icmp_eq (tgt := 737) C ir1 ir2 dL_law_458 (by decide) (fun _ => back σ2 H locs h2.2 w) (fun q => absurd h2.1 q)
theorem lk_pass (I : lw_In p s m meth c G b L xs) (w : fb_Wd G s σ H locs) (hiv : iv_ σ) (h0 : 0 ≤ i) (h5 : i ≤ (L : Int) - 5) (hl : lw_L G b i ls) (back : ∀ (σ : fb_St) (H : Heap) (locs : List Loc), iv_ σ → fb_Wd G s σ H locs → lw_W p l e s m below meth c b H locs (F0 m 737 ls [])) : lw_W p l e s m below meth c b H locs (F0 m 463 ls []) := by
  obtain ⟨C, hX, hbl, -, hL⟩ := id I
  have hb := lw_nb I
  refine lv_aload_n C.1.1 C.1.2.1 dL_law_463 rfl (lv_at hl 2 rfl) ?_
  refine lv_aload_n C.1.1 C.1.2.1 dL_law_464 rfl (lv_at hl 3 rfl) ?_
  refine lv_iload_n C.1.1 C.1.2.1 dL_law_465 rfl (lv_at hl 0 rfl) ?_
  refine fb_iconst C dL_law_466 ?_
  refine fb_iadd C dL_law_467 ?_
  refine lw_ld C w hX hbl hb hL (by omega) (by omega) dL_law_468 ?_
  refine lv_aload_n C.1.1 C.1.2.1 dL_law_469 rfl (lv_at hl 3 rfl) ?_
  refine lv_iload_n C.1.1 C.1.2.1 dL_law_470 rfl (lv_at hl 0 rfl) ?_
  refine fb_iconst C dL_law_471 ?_
  refine fb_iadd C dL_law_472 ?_
  refine lw_ld C w hX hbl hb hL (by omega) (by omega) dL_law_473 ?_
  refine fb_callVi (As := [.int (fb_I (xs (i + 1).toNat).toInt), .int (fb_I (xs (i + 2).toNat).toInt)]) (rest := []) C w (ct_X6_pass l G (fb_in_toInt _) (fb_in_toInt _) (op_pass hiv)) mv_XL_53 (fb_k0 C) rfl ⟨rfl, rfl, Nat.le_of_ble_eq_true rfl, Nat.le_of_ble_eq_true rfl, Nat.le_of_ble_eq_true rfl, Nat.le_of_ble_eq_true rfl⟩ rfl hl.1 rfl (Nat.le_of_ble_eq_true rfl) dL_law_474 (fun r1 σ1 H locs h ir1 w => ?_)
  refine lv_aload_n C.1.1 C.1.2.1 dL_law_477 rfl (lv_at hl 1 rfl) ?_
  refine lv_aload_n C.1.1 C.1.2.1 dL_law_478 rfl (lv_at hl 3 rfl) ?_
  refine lv_iload_n C.1.1 C.1.2.1 dL_law_479 rfl (lv_at hl 0 rfl) ?_
  refine fb_iconst C dL_law_480 ?_
  refine fb_iadd C dL_law_481 ?_
  refine lw_ld C w hX hbl hb hL (by omega) (by omega) dL_law_482 ?_
  refine lv_aload_n C.1.1 C.1.2.1 dL_law_483 rfl (lv_at hl 3 rfl) ?_
  refine lv_iload_n C.1.1 C.1.2.1 dL_law_484 rfl (lv_at hl 0 rfl) ?_
  refine fb_iconst C dL_law_485 ?_
  refine fb_iadd C dL_law_486 ?_
  refine lw_ld C w hX hbl hb hL (by omega) (by omega) dL_law_487 ?_
  refine fb_callVi (k := 48) (As := [.int (fb_I (xs (i + 1).toNat).toInt), .int (fb_I (xs (i + 2).toNat).toInt)]) (rest := [.int (fb_I r1)]) C w (ct_X7_pass l G (fb_in_toInt _) (fb_in_toInt _) h) mv_XL_56 (fb_kof C (by decide) rfl) rfl ⟨rfl, rfl, Nat.le_of_ble_eq_true rfl, Nat.le_of_ble_eq_true rfl, Nat.le_of_ble_eq_true rfl, Nat.le_of_ble_eq_true rfl⟩ rfl hl.1 rfl (Nat.le_of_ble_eq_true rfl) dL_law_488 (fun r2 σ2 H locs h2 ir2 w => ?_)
  exact fb_icmp_eq (tgt := 737) C ir1 ir2 dL_law_491 (by decide) (fun _ => back σ2 H locs h2.2 w) (fun q => absurd h2.1 q)
theorem lk_poured (I : lw_In p s m meth c G b L xs) (w : fb_Wd G s σ H locs) (hiv : iv_ σ) (h0 : 0 ≤ i) (h5 : i ≤ (L : Int) - 5) (hl : lw_L G b i ls) (back : ∀ (σ : fb_St) (H : Heap) (locs : List Loc), iv_ σ → fb_Wd G s σ H locs → lw_W p l e s m below meth c b H locs (F0 m 737 ls [])) : lw_W p l e s m below meth c b H locs (F0 m 496 ls []) := by
  obtain ⟨C, hX, hbl, -, hL⟩ := id I
  have hb := lw_nb I
  refine lv_aload_n C.1.1 C.1.2.1 dL_law_496 rfl (lv_at hl 2 rfl) ?_
  refine lv_aload_n C.1.1 C.1.2.1 dL_law_497 rfl (lv_at hl 3 rfl) ?_
  refine lv_iload_n C.1.1 C.1.2.1 dL_law_498 rfl (lv_at hl 0 rfl) ?_
  refine fb_iconst C dL_law_499 ?_
  refine fb_iadd C dL_law_500 ?_
  refine lw_ld C w hX hbl hb hL (by omega) (by omega) dL_law_501 ?_
  refine lv_aload_n C.1.1 C.1.2.1 dL_law_502 rfl (lv_at hl 3 rfl) ?_
  refine lv_iload_n C.1.1 C.1.2.1 dL_law_503 rfl (lv_at hl 0 rfl) ?_
  refine fb_iconst C dL_law_504 ?_
  refine fb_iadd C dL_law_505 ?_
  refine lw_ld C w hX hbl hb hL (by omega) (by omega) dL_law_506 ?_
  refine fb_callVi (As := [.int (fb_I (xs (i + 1).toNat).toInt), .int (fb_I (xs (i + 2).toNat).toInt)]) (rest := []) C w (ct_X6_poured l G (fb_in_toInt _) (fb_in_toInt _) (op_poured hiv)) mv_XL_57 (fb_k0 C) rfl ⟨rfl, rfl, Nat.le_of_ble_eq_true rfl, Nat.le_of_ble_eq_true rfl, Nat.le_of_ble_eq_true rfl, Nat.le_of_ble_eq_true rfl⟩ rfl hl.1 rfl (Nat.le_of_ble_eq_true rfl) dL_law_507 (fun r1 σ1 H locs h ir1 w => ?_)
  refine lv_aload_n C.1.1 C.1.2.1 dL_law_510 rfl (lv_at hl 1 rfl) ?_
  refine lv_aload_n C.1.1 C.1.2.1 dL_law_511 rfl (lv_at hl 3 rfl) ?_
  refine lv_iload_n C.1.1 C.1.2.1 dL_law_512 rfl (lv_at hl 0 rfl) ?_
  refine fb_iconst C dL_law_513 ?_
  refine fb_iadd C dL_law_514 ?_
  refine lw_ld C w hX hbl hb hL (by omega) (by omega) dL_law_515 ?_
  refine lv_aload_n C.1.1 C.1.2.1 dL_law_516 rfl (lv_at hl 3 rfl) ?_
  refine lv_iload_n C.1.1 C.1.2.1 dL_law_517 rfl (lv_at hl 0 rfl) ?_
  refine fb_iconst C dL_law_518 ?_
  refine fb_iadd C dL_law_519 ?_
  refine lw_ld C w hX hbl hb hL (by omega) (by omega) dL_law_520 ?_
  refine fb_callVi (k := 48) (As := [.int (fb_I (xs (i + 1).toNat).toInt), .int (fb_I (xs (i + 2).toNat).toInt)]) (rest := [.int (fb_I r1)]) C w (ct_X7_poured l G (fb_in_toInt _) (fb_in_toInt _) h) mv_XL_60 (fb_kof C (by decide) rfl) rfl ⟨rfl, rfl, Nat.le_of_ble_eq_true rfl, Nat.le_of_ble_eq_true rfl, Nat.le_of_ble_eq_true rfl, Nat.le_of_ble_eq_true rfl⟩ rfl hl.1 rfl (Nat.le_of_ble_eq_true rfl) dL_law_521 (fun r2 σ2 H locs h2 ir2 w => ?_)
  exact fb_icmp_eq (tgt := 737) C ir1 ir2 dL_law_524 (by decide) (fun _ => back σ2 H locs h2.2 w) (fun q => absurd h2.1 q)
theorem lk_tree (I : lw_In p s m meth c G b L xs) (w : fb_Wd G s σ H locs) (hiv : iv_ σ) (h0 : 0 ≤ i) (h5 : i ≤ (L : Int) - 5) (hl : lw_L G b i ls) (back : ∀ (σ : fb_St) (H : Heap) (locs : List Loc), iv_ σ → fb_Wd G s σ H locs → lw_W p l e s m below meth c b H locs (F0 m 737 ls [])) : lw_W p l e s m below meth c b H locs (F0 m 529 ls []) := by
  obtain ⟨C, hX, hbl, -, hL⟩ := id I
  have hb := lw_nb I
  refine lv_aload_n C.1.1 C.1.2.1 dL_law_529 rfl (lv_at hl 2 rfl) ?_
  refine lv_aload_n C.1.1 C.1.2.1 dL_law_530 rfl (lv_at hl 3 rfl) ?_
  refine lv_iload_n C.1.1 C.1.2.1 dL_law_531 rfl (lv_at hl 0 rfl) ?_
  refine fb_iconst C dL_law_532 ?_
  refine fb_iadd C dL_law_533 ?_
  refine lw_ld C w hX hbl hb hL (by omega) (by omega) dL_law_534 ?_
  refine lv_aload_n C.1.1 C.1.2.1 dL_law_535 rfl (lv_at hl 3 rfl) ?_
  refine lv_iload_n C.1.1 C.1.2.1 dL_law_536 rfl (lv_at hl 0 rfl) ?_
  refine fb_iconst C dL_law_537 ?_
  refine fb_iadd C dL_law_538 ?_
  refine lw_ld C w hX hbl hb hL (by omega) (by omega) dL_law_539 ?_
  refine fb_callVi (As := [.int (fb_I (xs (i + 1).toNat).toInt), .int (fb_I (xs (i + 2).toNat).toInt)]) (rest := []) C w (ct_X6_tree l G (fb_in_toInt _) (fb_in_toInt _) (op_tree hiv)) mv_XL_61 (fb_k0 C) rfl ⟨rfl, rfl, Nat.le_of_ble_eq_true rfl, Nat.le_of_ble_eq_true rfl, Nat.le_of_ble_eq_true rfl, Nat.le_of_ble_eq_true rfl⟩ rfl hl.1 rfl (Nat.le_of_ble_eq_true rfl) dL_law_540 (fun r1 σ1 H locs h ir1 w => ?_)
  refine lv_aload_n C.1.1 C.1.2.1 dL_law_543 rfl (lv_at hl 1 rfl) ?_
  refine lv_aload_n C.1.1 C.1.2.1 dL_law_544 rfl (lv_at hl 3 rfl) ?_
  refine lv_iload_n C.1.1 C.1.2.1 dL_law_545 rfl (lv_at hl 0 rfl) ?_
  refine fb_iconst C dL_law_546 ?_
  refine fb_iadd C dL_law_547 ?_
  refine lw_ld C w hX hbl hb hL (by omega) (by omega) dL_law_548 ?_
  refine lv_aload_n C.1.1 C.1.2.1 dL_law_549 rfl (lv_at hl 3 rfl) ?_
  refine lv_iload_n C.1.1 C.1.2.1 dL_law_550 rfl (lv_at hl 0 rfl) ?_
  refine fb_iconst C dL_law_551 ?_
  refine fb_iadd C dL_law_552 ?_
  refine lw_ld C w hX hbl hb hL (by omega) (by omega) dL_law_553 ?_
  refine fb_callVi (k := 48) (As := [.int (fb_I (xs (i + 1).toNat).toInt), .int (fb_I (xs (i + 2).toNat).toInt)]) (rest := [.int (fb_I r1)]) C w (ct_X7_tree l G (fb_in_toInt _) (fb_in_toInt _) h) mv_XL_64 (fb_kof C (by decide) rfl) rfl ⟨rfl, rfl, Nat.le_of_ble_eq_true rfl, Nat.le_of_ble_eq_true rfl, Nat.le_of_ble_eq_true rfl, Nat.le_of_ble_eq_true rfl⟩ rfl hl.1 rfl (Nat.le_of_ble_eq_true rfl) dL_law_554 (fun r2 σ2 H locs h2 ir2 w => ?_)
  exact fb_icmp_eq (tgt := 737) C ir1 ir2 dL_law_557 (by decide) (fun _ => back σ2 H locs h2.2 w) (fun q => absurd h2.1 q)
theorem lk_over (I : lw_In p s m meth c G b L xs) (w : fb_Wd G s σ H locs) (hiv : iv_ σ) (h0 : 0 ≤ i) (h5 : i ≤ (L : Int) - 5) (hl : lw_L G b i ls) (back : ∀ (σ : fb_St) (H : Heap) (locs : List Loc), iv_ σ → fb_Wd G s σ H locs → lw_W p l e s m below meth c b H locs (F0 m 737 ls [])) : lw_W p l e s m below meth c b H locs (F0 m 562 ls []) := by
  obtain ⟨C, hX, hbl, -, hL⟩ := id I
  have hb := lw_nb I
  refine lv_aload_n C.1.1 C.1.2.1 dL_law_562 rfl (lv_at hl 2 rfl) ?_
  refine lv_aload_n C.1.1 C.1.2.1 dL_law_563 rfl (lv_at hl 3 rfl) ?_
  refine lv_iload_n C.1.1 C.1.2.1 dL_law_564 rfl (lv_at hl 0 rfl) ?_
  refine fb_iconst C dL_law_565 ?_
  refine fb_iadd C dL_law_566 ?_
  refine lw_ld C w hX hbl hb hL (by omega) (by omega) dL_law_567 ?_
  refine lv_aload_n C.1.1 C.1.2.1 dL_law_568 rfl (lv_at hl 3 rfl) ?_
  refine lv_iload_n C.1.1 C.1.2.1 dL_law_569 rfl (lv_at hl 0 rfl) ?_
  refine fb_iconst C dL_law_570 ?_
  refine fb_iadd C dL_law_571 ?_
  refine lw_ld C w hX hbl hb hL (by omega) (by omega) dL_law_572 ?_
  refine lv_aload_n C.1.1 C.1.2.1 dL_law_573 rfl (lv_at hl 3 rfl) ?_
  refine lv_iload_n C.1.1 C.1.2.1 dL_law_574 rfl (lv_at hl 0 rfl) ?_
  refine fb_iconst C dL_law_575 ?_
  refine fb_iadd C dL_law_576 ?_
  refine lw_ld C w hX hbl hb hL (by omega) (by omega) dL_law_577 ?_
  refine lv_aload_n C.1.1 C.1.2.1 dL_law_578 rfl (lv_at hl 3 rfl) ?_
  refine lv_iload_n C.1.1 C.1.2.1 dL_law_579 rfl (lv_at hl 0 rfl) ?_
  refine fb_iconst C dL_law_580 ?_
  refine fb_iadd C dL_law_581 ?_
  refine lw_ld C w hX hbl hb hL (by omega) (by omega) dL_law_582 ?_
  refine fb_callVi (As := [.int (fb_I (xs (i + 1).toNat).toInt), .int (fb_I (xs (i + 2).toNat).toInt), .int (fb_I (xs (i + 3).toNat).toInt), .int (fb_I (xs (i + 4).toNat).toInt)]) (rest := []) C w (ct_X6_over l G (fb_in_toInt _) (fb_in_toInt _) (fb_in_toInt _) (fb_in_toInt _) (op_over hiv)) mv_XL_65 (fb_k0 C) rfl ⟨rfl, rfl, Nat.le_of_ble_eq_true rfl, Nat.le_of_ble_eq_true rfl, Nat.le_of_ble_eq_true rfl, Nat.le_of_ble_eq_true rfl⟩ rfl hl.1 rfl (Nat.le_of_ble_eq_true rfl) dL_law_583 (fun r1 σ1 H locs h ir1 w => ?_)
  refine lv_aload_n C.1.1 C.1.2.1 dL_law_586 rfl (lv_at hl 1 rfl) ?_
  refine lv_aload_n C.1.1 C.1.2.1 dL_law_587 rfl (lv_at hl 3 rfl) ?_
  refine lv_iload_n C.1.1 C.1.2.1 dL_law_588 rfl (lv_at hl 0 rfl) ?_
  refine fb_iconst C dL_law_589 ?_
  refine fb_iadd C dL_law_590 ?_
  refine lw_ld C w hX hbl hb hL (by omega) (by omega) dL_law_591 ?_
  refine lv_aload_n C.1.1 C.1.2.1 dL_law_592 rfl (lv_at hl 3 rfl) ?_
  refine lv_iload_n C.1.1 C.1.2.1 dL_law_593 rfl (lv_at hl 0 rfl) ?_
  refine fb_iconst C dL_law_594 ?_
  refine fb_iadd C dL_law_595 ?_
  refine lw_ld C w hX hbl hb hL (by omega) (by omega) dL_law_596 ?_
  refine lv_aload_n C.1.1 C.1.2.1 dL_law_597 rfl (lv_at hl 3 rfl) ?_
  refine lv_iload_n C.1.1 C.1.2.1 dL_law_598 rfl (lv_at hl 0 rfl) ?_
  refine fb_iconst C dL_law_599 ?_
  refine fb_iadd C dL_law_600 ?_
  refine lw_ld C w hX hbl hb hL (by omega) (by omega) dL_law_601 ?_
  refine lv_aload_n C.1.1 C.1.2.1 dL_law_602 rfl (lv_at hl 3 rfl) ?_
  refine lv_iload_n C.1.1 C.1.2.1 dL_law_603 rfl (lv_at hl 0 rfl) ?_
  refine fb_iconst C dL_law_604 ?_
  refine fb_iadd C dL_law_605 ?_
  refine lw_ld C w hX hbl hb hL (by omega) (by omega) dL_law_606 ?_
  refine fb_callVi (k := 48) (As := [.int (fb_I (xs (i + 1).toNat).toInt), .int (fb_I (xs (i + 2).toNat).toInt), .int (fb_I (xs (i + 3).toNat).toInt), .int (fb_I (xs (i + 4).toNat).toInt)]) (rest := [.int (fb_I r1)]) C w (ct_X7_over l G (fb_in_toInt _) (fb_in_toInt _) (fb_in_toInt _) (fb_in_toInt _) h) mv_XL_68 (fb_kof C (by decide) rfl) rfl ⟨rfl, rfl, Nat.le_of_ble_eq_true rfl, Nat.le_of_ble_eq_true rfl, Nat.le_of_ble_eq_true rfl, Nat.le_of_ble_eq_true rfl⟩ rfl hl.1 rfl (Nat.le_of_ble_eq_true rfl) dL_law_607 (fun r2 σ2 H locs h2 ir2 w => ?_)
  exact fb_icmp_eq (tgt := 737) C ir1 ir2 dL_law_610 (by decide) (fun _ => back σ2 H locs h2.2 w) (fun q => absurd h2.1 q)
theorem lk_wet (I : lw_In p s m meth c G b L xs) (w : fb_Wd G s σ H locs) (hiv : iv_ σ) (h0 : 0 ≤ i) (h5 : i ≤ (L : Int) - 5) (hl : lw_L G b i ls) (back : ∀ (σ : fb_St) (H : Heap) (locs : List Loc), iv_ σ → fb_Wd G s σ H locs → lw_W p l e s m below meth c b H locs (F0 m 737 ls [])) : lw_W p l e s m below meth c b H locs (F0 m 615 ls []) := by
  obtain ⟨C, hX, hbl, -, hL⟩ := id I
  have hb := lw_nb I
  refine lv_aload_n C.1.1 C.1.2.1 dL_law_615 rfl (lv_at hl 2 rfl) ?_
  refine lv_aload_n C.1.1 C.1.2.1 dL_law_616 rfl (lv_at hl 3 rfl) ?_
  refine lv_iload_n C.1.1 C.1.2.1 dL_law_617 rfl (lv_at hl 0 rfl) ?_
  refine fb_iconst C dL_law_618 ?_
  refine fb_iadd C dL_law_619 ?_
  refine lw_ld C w hX hbl hb hL (by omega) (by omega) dL_law_620 ?_
  refine lv_aload_n C.1.1 C.1.2.1 dL_law_621 rfl (lv_at hl 3 rfl) ?_
  refine lv_iload_n C.1.1 C.1.2.1 dL_law_622 rfl (lv_at hl 0 rfl) ?_
  refine fb_iconst C dL_law_623 ?_
  refine fb_iadd C dL_law_624 ?_
  refine lw_ld C w hX hbl hb hL (by omega) (by omega) dL_law_625 ?_
  refine lv_aload_n C.1.1 C.1.2.1 dL_law_626 rfl (lv_at hl 3 rfl) ?_
  refine lv_iload_n C.1.1 C.1.2.1 dL_law_627 rfl (lv_at hl 0 rfl) ?_
  refine fb_iconst C dL_law_628 ?_
  refine fb_iadd C dL_law_629 ?_
  refine lw_ld C w hX hbl hb hL (by omega) (by omega) dL_law_630 ?_
  refine lv_aload_n C.1.1 C.1.2.1 dL_law_631 rfl (lv_at hl 3 rfl) ?_
  refine lv_iload_n C.1.1 C.1.2.1 dL_law_632 rfl (lv_at hl 0 rfl) ?_
  refine fb_iconst C dL_law_633 ?_
  refine fb_iadd C dL_law_634 ?_
  refine lw_ld C w hX hbl hb hL (by omega) (by omega) dL_law_635 ?_
  refine fb_callVi (As := [.int (fb_I (xs (i + 1).toNat).toInt), .int (fb_I (xs (i + 2).toNat).toInt), .int (fb_I (xs (i + 3).toNat).toInt), .int (fb_I (xs (i + 4).toNat).toInt)]) (rest := []) C w (ct_X6_wet l G (fb_in_toInt _) (fb_in_toInt _) (fb_in_toInt _) (fb_in_toInt _) (op_wet hiv)) mv_XL_69 (fb_k0 C) rfl ⟨rfl, rfl, Nat.le_of_ble_eq_true rfl, Nat.le_of_ble_eq_true rfl, Nat.le_of_ble_eq_true rfl, Nat.le_of_ble_eq_true rfl⟩ rfl hl.1 rfl (Nat.le_of_ble_eq_true rfl) dL_law_636 (fun r1 σ1 H locs h ir1 w => ?_)
  refine lv_aload_n C.1.1 C.1.2.1 dL_law_639 rfl (lv_at hl 1 rfl) ?_
  refine lv_aload_n C.1.1 C.1.2.1 dL_law_640 rfl (lv_at hl 3 rfl) ?_
  refine lv_iload_n C.1.1 C.1.2.1 dL_law_641 rfl (lv_at hl 0 rfl) ?_
  refine fb_iconst C dL_law_642 ?_
  refine fb_iadd C dL_law_643 ?_
  refine lw_ld C w hX hbl hb hL (by omega) (by omega) dL_law_644 ?_
  refine lv_aload_n C.1.1 C.1.2.1 dL_law_645 rfl (lv_at hl 3 rfl) ?_
  refine lv_iload_n C.1.1 C.1.2.1 dL_law_646 rfl (lv_at hl 0 rfl) ?_
  refine fb_iconst C dL_law_647 ?_
  refine fb_iadd C dL_law_648 ?_
  refine lw_ld C w hX hbl hb hL (by omega) (by omega) dL_law_649 ?_
  refine lv_aload_n C.1.1 C.1.2.1 dL_law_650 rfl (lv_at hl 3 rfl) ?_
  refine lv_iload_n C.1.1 C.1.2.1 dL_law_651 rfl (lv_at hl 0 rfl) ?_
  refine fb_iconst C dL_law_652 ?_
  refine fb_iadd C dL_law_653 ?_
  refine lw_ld C w hX hbl hb hL (by omega) (by omega) dL_law_654 ?_
  refine lv_aload_n C.1.1 C.1.2.1 dL_law_655 rfl (lv_at hl 3 rfl) ?_
  refine lv_iload_n C.1.1 C.1.2.1 dL_law_656 rfl (lv_at hl 0 rfl) ?_
  refine fb_iconst C dL_law_657 ?_
  refine fb_iadd C dL_law_658 ?_
  refine lw_ld C w hX hbl hb hL (by omega) (by omega) dL_law_659 ?_
  refine fb_callVi (k := 48) (As := [.int (fb_I (xs (i + 1).toNat).toInt), .int (fb_I (xs (i + 2).toNat).toInt), .int (fb_I (xs (i + 3).toNat).toInt), .int (fb_I (xs (i + 4).toNat).toInt)]) (rest := [.int (fb_I r1)]) C w (ct_X7_wet l G (fb_in_toInt _) (fb_in_toInt _) (fb_in_toInt _) (fb_in_toInt _) h) mv_XL_72 (fb_kof C (by decide) rfl) rfl ⟨rfl, rfl, Nat.le_of_ble_eq_true rfl, Nat.le_of_ble_eq_true rfl, Nat.le_of_ble_eq_true rfl, Nat.le_of_ble_eq_true rfl⟩ rfl hl.1 rfl (Nat.le_of_ble_eq_true rfl) dL_law_660 (fun r2 σ2 H locs h2 ir2 w => ?_)
  exact fb_icmp_eq (tgt := 737) C ir1 ir2 dL_law_663 (by decide) (fun _ => back σ2 H locs h2.2 w) (fun q => absurd h2.1 q)
theorem lk_count (I : lw_In p s m meth c G b L xs) (w : fb_Wd G s σ H locs) (hiv : iv_ σ) (h0 : 0 ≤ i) (h5 : i ≤ (L : Int) - 5) (hl : lw_L G b i ls) (back : ∀ (σ : fb_St) (H : Heap) (locs : List Loc), iv_ σ → fb_Wd G s σ H locs → lw_W p l e s m below meth c b H locs (F0 m 737 ls [])) : lw_W p l e s m below meth c b H locs (F0 m 668 ls []) := by
  obtain ⟨C, hX, hbl, -, hL⟩ := id I
  have hb := lw_nb I
  refine lv_aload_n C.1.1 C.1.2.1 dL_law_668 rfl (lv_at hl 2 rfl) ?_
  refine lv_aload_n C.1.1 C.1.2.1 dL_law_669 rfl (lv_at hl 3 rfl) ?_
  refine lv_iload_n C.1.1 C.1.2.1 dL_law_670 rfl (lv_at hl 0 rfl) ?_
  refine fb_iconst C dL_law_671 ?_
  refine fb_iadd C dL_law_672 ?_
  refine lw_ld C w hX hbl hb hL (by omega) (by omega) dL_law_673 ?_
  refine fb_callVi (As := [.int (fb_I (xs (i + 1).toNat).toInt)]) (rest := []) C w (ct_X6_count l G (fb_in_toInt _) (op_count hiv)) mv_XL_73 (fb_k0 C) rfl ⟨rfl, rfl, Nat.le_of_ble_eq_true rfl, Nat.le_of_ble_eq_true rfl, Nat.le_of_ble_eq_true rfl, Nat.le_of_ble_eq_true rfl⟩ rfl hl.1 rfl (Nat.le_of_ble_eq_true rfl) dL_law_674 (fun r1 σ1 H locs h ir1 w => ?_)
  refine lv_aload_n C.1.1 C.1.2.1 dL_law_677 rfl (lv_at hl 1 rfl) ?_
  refine lv_aload_n C.1.1 C.1.2.1 dL_law_678 rfl (lv_at hl 3 rfl) ?_
  refine lv_iload_n C.1.1 C.1.2.1 dL_law_679 rfl (lv_at hl 0 rfl) ?_
  refine fb_iconst C dL_law_680 ?_
  refine fb_iadd C dL_law_681 ?_
  refine lw_ld C w hX hbl hb hL (by omega) (by omega) dL_law_682 ?_
  refine fb_callVi (k := 48) (As := [.int (fb_I (xs (i + 1).toNat).toInt)]) (rest := [.int (fb_I r1)]) C w (ct_X7_count l G (fb_in_toInt _) h) mv_XL_77 (fb_kof C (by decide) rfl) rfl ⟨rfl, rfl, Nat.le_of_ble_eq_true rfl, Nat.le_of_ble_eq_true rfl, Nat.le_of_ble_eq_true rfl, Nat.le_of_ble_eq_true rfl⟩ rfl hl.1 rfl (Nat.le_of_ble_eq_true rfl) dL_law_683 (fun r2 σ2 H locs h2 ir2 w => ?_)
  exact fb_icmp_eq (tgt := 737) C ir1 ir2 dL_law_686 (by decide) (fun _ => back σ2 H locs h2.2 w) (fun q => absurd h2.1 q)
theorem lk_image (I : lw_In p s m meth c G b L xs) (w : fb_Wd G s σ H locs) (hiv : iv_ σ) (h0 : 0 ≤ i) (h5 : i ≤ (L : Int) - 5) (hl : lw_L G b i ls) (back : ∀ (σ : fb_St) (H : Heap) (locs : List Loc), iv_ σ → fb_Wd G s σ H locs → lw_W p l e s m below meth c b H locs (F0 m 737 ls [])) : lw_W p l e s m below meth c b H locs (F0 m 691 ls []) := by
  obtain ⟨C, hX, hbl, -, hL⟩ := id I
  have hb := lw_nb I
  refine lv_aload_n C.1.1 C.1.2.1 dL_law_691 rfl (lv_at hl 2 rfl) ?_
  refine lv_aload_n C.1.1 C.1.2.1 dL_law_692 rfl (lv_at hl 3 rfl) ?_
  refine lv_iload_n C.1.1 C.1.2.1 dL_law_693 rfl (lv_at hl 0 rfl) ?_
  refine fb_iconst C dL_law_694 ?_
  refine fb_iadd C dL_law_695 ?_
  refine lw_ld C w hX hbl hb hL (by omega) (by omega) dL_law_696 ?_
  refine fb_callVi (As := [.int (fb_I (xs (i + 1).toNat).toInt)]) (rest := []) C w (ct_X6_image l G (fb_in_toInt _) (op_image hiv)) mv_XL_78 (fb_k0 C) rfl ⟨rfl, rfl, Nat.le_of_ble_eq_true rfl, Nat.le_of_ble_eq_true rfl, Nat.le_of_ble_eq_true rfl, Nat.le_of_ble_eq_true rfl⟩ rfl hl.1 rfl (Nat.le_of_ble_eq_true rfl) dL_law_697 (fun r1 σ1 H locs h ir1 w => ?_)
  refine lv_aload_n C.1.1 C.1.2.1 dL_law_700 rfl (lv_at hl 1 rfl) ?_
  refine lv_aload_n C.1.1 C.1.2.1 dL_law_701 rfl (lv_at hl 3 rfl) ?_
  refine lv_iload_n C.1.1 C.1.2.1 dL_law_702 rfl (lv_at hl 0 rfl) ?_
  refine fb_iconst C dL_law_703 ?_
  refine fb_iadd C dL_law_704 ?_
  refine lw_ld C w hX hbl hb hL (by omega) (by omega) dL_law_705 ?_
  refine fb_callVi (k := 48) (As := [.int (fb_I (xs (i + 1).toNat).toInt)]) (rest := [.int (fb_I r1)]) C w (ct_X7_image l G (fb_in_toInt _) h) mv_XL_81 (fb_kof C (by decide) rfl) rfl ⟨rfl, rfl, Nat.le_of_ble_eq_true rfl, Nat.le_of_ble_eq_true rfl, Nat.le_of_ble_eq_true rfl, Nat.le_of_ble_eq_true rfl⟩ rfl hl.1 rfl (Nat.le_of_ble_eq_true rfl) dL_law_706 (fun r2 σ2 H locs h2 ir2 w => ?_)
  exact fb_icmp_eq (tgt := 737) C ir1 ir2 dL_law_709 (by decide) (fun _ => back σ2 H locs h2.2 w) (fun q => absurd h2.1 q)
theorem lk_restore (I : lw_In p s m meth c G b L xs) (w : fb_Wd G s σ H locs) (hiv : iv_ σ) (h0 : 0 ≤ i) (h5 : i ≤ (L : Int) - 5) (hl : lw_L G b i ls) (back : ∀ (σ : fb_St) (H : Heap) (locs : List Loc), iv_ σ → fb_Wd G s σ H locs → lw_W p l e s m below meth c b H locs (F0 m 737 ls [])) : lw_W p l e s m below meth c b H locs (F0 m 714 ls []) := by
  obtain ⟨C, hX, hbl, -, hL⟩ := id I
  have hb := lw_nb I
  refine lv_aload_n C.1.1 C.1.2.1 dL_law_714 rfl (lv_at hl 2 rfl) ?_
  refine lv_aload_n C.1.1 C.1.2.1 dL_law_715 rfl (lv_at hl 3 rfl) ?_
  refine lv_iload_n C.1.1 C.1.2.1 dL_law_716 rfl (lv_at hl 0 rfl) ?_
  refine fb_iconst C dL_law_717 ?_
  refine fb_iadd C dL_law_718 ?_
  refine lw_ld C w hX hbl hb hL (by omega) (by omega) dL_law_719 ?_
  refine fb_callVi (As := [.int (fb_I (xs (i + 1).toNat).toInt)]) (rest := []) C w (ct_X6_restore l G (fb_in_toInt _) (op_restore hiv)) mv_XL_82 (fb_k0 C) rfl ⟨rfl, rfl, Nat.le_of_ble_eq_true rfl, Nat.le_of_ble_eq_true rfl, Nat.le_of_ble_eq_true rfl, Nat.le_of_ble_eq_true rfl⟩ rfl hl.1 rfl (Nat.le_of_ble_eq_true rfl) dL_law_720 (fun r1 σ1 H locs h ir1 w => ?_)
  refine lv_aload_n C.1.1 C.1.2.1 dL_law_723 rfl (lv_at hl 1 rfl) ?_
  refine lv_aload_n C.1.1 C.1.2.1 dL_law_724 rfl (lv_at hl 3 rfl) ?_
  refine lv_iload_n C.1.1 C.1.2.1 dL_law_725 rfl (lv_at hl 0 rfl) ?_
  refine fb_iconst C dL_law_726 ?_
  refine fb_iadd C dL_law_727 ?_
  refine lw_ld C w hX hbl hb hL (by omega) (by omega) dL_law_728 ?_
  refine fb_callVi (k := 48) (As := [.int (fb_I (xs (i + 1).toNat).toInt)]) (rest := [.int (fb_I r1)]) C w (ct_X7_restore l G (fb_in_toInt _) h) mv_XL_85 (fb_kof C (by decide) rfl) rfl ⟨rfl, rfl, Nat.le_of_ble_eq_true rfl, Nat.le_of_ble_eq_true rfl, Nat.le_of_ble_eq_true rfl, Nat.le_of_ble_eq_true rfl⟩ rfl hl.1 rfl (Nat.le_of_ble_eq_true rfl) dL_law_729 (fun r2 σ2 H locs h2 ir2 w => ?_)
  exact fb_icmp_eq (tgt := 737) C ir1 ir2 dL_law_732 (by decide) (fun _ => back σ2 H locs h2.2 w) (fun q => absurd h2.1 q)
end LWC
