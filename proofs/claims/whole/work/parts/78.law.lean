def WL (p : Program) (l : Launch) (e : Env) (s : State) (m : MethodId) (args : Array Value) (below : List Frame) (meth : Method) (c : Code) (Q : State → Prop) (g : Geo) (C0 S0 : Nat) (I : MI) (J : MJ) (fr : JFrame) : Prop := ∀ (H : Heap) (locs : List Loc), va_P (gD g) vwCl (wl g I J) H → va_S (gA g) s.heap H locs → W p l e room_1 s m args below meth c H locs C0 S0 Q fr
/-- what the law knows all along -/
def LX (g : Geo) (p : Program) (s : State) (m : MethodId) (args : Array Value) (meth : Method) (c : Code) (b L : Nat) (xs : Nat → Int32) (C0 S0 : Nat) : Prop := Cx g p s m args meth c cL_law 4 RL ret ∧ va_X b L xs s s.heap ∧ b < s.heap.size ∧ ¬ gA g b ∧ L ≤ 2048 ∧ C0 + 0 ≤ room_1.cells ∧ S0 + 0 ≤ room_1.slots
section LAW
variable {p : Program} {l : Launch} {e : Env} {s : State} {m : MethodId} {args : Array Value} {below : List Frame} {meth : Method} {c : Code} {Q : State → Prop} {g : Geo} {C0 S0 : Nat} {pc : Nat} {ls : Array Slot} {rest : List Value} {I : MI} {J : MJ} {b L i : Nat} {xs : Nat → Int32}
theorem l_p {fr fr' : JFrame} (h : ∀ (H : Heap) (locs : List Loc), W p l e room_1 s m args below meth c H locs C0 S0 Q fr' → W p l e room_1 s m args below meth c H locs C0 S0 Q fr) (kk : WL p l e s m args below meth c Q g C0 S0 I J fr') : WL p l e s m args below meth c Q g C0 S0 I J fr := fun H locs a d => h H locs (kk H locs a d)
theorem l_call {post : Option Value → MI → MJ → Prop} {st0 : List Value} {aa : Array Value} (hr : ∀ (H : Heap) (locs : List Loc), va_P (gD g) vwCl (wl g I J) H → va_S (gA g) s.heap H locs → va_Run p l e room_1 s m args below meth c H locs C0 S0 0 0 (F0 m pc ls st0) rest (Qg g post aa) (gA g)) (kk : ∀ (v : Option Value) (I' : MI) (J' : MJ), post v I' J' → WL p l e s m args below meth c Q g C0 S0 I' J' (F0 m (pc + 3) ls (v.toList ++ rest))) : WL p l e s m args below meth c Q g C0 S0 I J (F0 m pc ls st0) := by
  intro H locs hP hS T hT X
  obtain ⟨v, st₀, t, T', L', h0, X', hL, e1, e2, ⟨⟨v', I', J', hv, hp, hG⟩, hz, hk⟩, st⟩ := hr H locs hP hS T hT X
  cases hv
  rw [h0] at hz hk
  obtain ⟨t2, a1, b1⟩ := kk v I' J' hp T'.heap (locs ++ L') (by rw [e1]; exact hG.1)
    ⟨Nat.le_trans hS.1 (by rw [e1]; exact hz), fun q h1 h2 => by rw [e1, hk q (Nat.lt_of_lt_of_le h1 hS.1) h2]; exact hS.2.1 q h1 h2, fun q hq => by
      rcases List.mem_append.mp hq with h | h
      · exact hS.2.2 q h
      · exact hL q h⟩ T' rfl X'
  exact ⟨t2, st t2 a1, b1⟩
theorem l_cVi {y : MethodName} {cc' : ByteArray} {nL n index fr lo : Nat} {rt : Option FieldType} {As : List Value} {q : Int32 → MI → MJ → Prop} {t r ci : Nat} {fs : List Value} {T0 : u_T} {N : Nat} (X : LX g p s m args meth c b L xs C0 S0) (hM : Ct g l y cc' nL rt fr lo (.ref (gad g t r) :: As) I J (PI q)) (ho : okM y cc' nL rt n) (hi : Cond.instanceMethod y ∈ wG) (hs : Cond.selects y.cls y y ∈ wG) (hl : Cond.methodLink RL index y ∈ wG) (hR : fr + 1 ≤ room_1.frames ∧ 8 + (nL + 11) + lo ≤ room_1.locals) (hr : r < cnt t) (hc : cel g I J t r = .inr (ci, fs)) (hcl : vwCl[ci]? = some (y.cls, T0, N)) (hn : As.length = n) (hls : ls.size = 4) (hrest : (rest.map fun v => v.category).sum ≤ 8) (hdg : decode cL_law pc = .ok (.invokevirtual index, 3)) (kk : ∀ (x : Int32) (I' : MI) (J' : MJ), q x I' J' → WL p l e s m args below meth c Q g C0 S0 I' J' (F0 m (pc + 3) ls (.int x :: rest))) : WL p l e s m args below meth c Q g C0 S0 I J (F0 m pc ls (As.reverse ++ .ref (gad g t r) :: rest)) := by
  obtain ⟨C, -, -, -, -, hf1, hf2⟩ := X
  exact l_call (fun H locs hP hS => va_runV (Ts := wG) ⟨C.1, C.2.1, C.2.2.1, C.2.2.2.1, C.2.2.2.2.1⟩ hM ⟨f_callB C ho hl hR, C.2.2.2.2.1 _ hi, C.2.2.2.2.1 _ hs⟩ ⟨GS.blind _, f_recv C hP hr hc hcl, f_pre C hP hS⟩ rfl hn hls rfl (lv_room hrest) hdg ⟨hf1, hf2⟩) (fun v I' J' h => by obtain ⟨x, rfl, h⟩ := h; exact kk x I' J' h)
theorem l_cVl {y : MethodName} {cc' : ByteArray} {nL n index fr lo : Nat} {rt : Option FieldType} {As : List Value} {q : Int64 → MI → MJ → Prop} {t r ci : Nat} {fs : List Value} {T0 : u_T} {N : Nat} (X : LX g p s m args meth c b L xs C0 S0) (hM : Ct g l y cc' nL rt fr lo (.ref (gad g t r) :: As) I J (PL q)) (ho : okM y cc' nL rt n) (hi : Cond.instanceMethod y ∈ wG) (hs : Cond.selects y.cls y y ∈ wG) (hl : Cond.methodLink RL index y ∈ wG) (hR : fr + 1 ≤ room_1.frames ∧ 8 + (nL + 11) + lo ≤ room_1.locals) (hr : r < cnt t) (hc : cel g I J t r = .inr (ci, fs)) (hcl : vwCl[ci]? = some (y.cls, T0, N)) (hn : As.length = n) (hls : ls.size = 4) (hrest : (rest.map fun v => v.category).sum ≤ 8) (hdg : decode cL_law pc = .ok (.invokevirtual index, 3)) (kk : ∀ (x : Int64) (I' : MI) (J' : MJ), q x I' J' → WL p l e s m args below meth c Q g C0 S0 I' J' (F0 m (pc + 3) ls (.long x :: rest))) : WL p l e s m args below meth c Q g C0 S0 I J (F0 m pc ls (As.reverse ++ .ref (gad g t r) :: rest)) := by
  obtain ⟨C, -, -, -, -, hf1, hf2⟩ := X
  exact l_call (fun H locs hP hS => va_runV (Ts := wG) ⟨C.1, C.2.1, C.2.2.1, C.2.2.2.1, C.2.2.2.2.1⟩ hM ⟨f_callB C ho hl hR, C.2.2.2.2.1 _ hi, C.2.2.2.2.1 _ hs⟩ ⟨GS.blind _, f_recv C hP hr hc hcl, f_pre C hP hS⟩ rfl hn hls rfl (lv_room hrest) hdg ⟨hf1, hf2⟩) (fun v I' J' h => by obtain ⟨x, rfl, h⟩ := h; exact kk x I' J' h)
theorem l_arg {k : Nat} {n : Int} (X : LX g p s m args meth c b L xs C0 S0) (hi : i + k < L) (h0 : ls[0]? = some (.val (.ref b))) (h3 : ls[3]? = some (.val (.int (nI i)))) (d1 : decode cL_law pc = .ok (.aload_n 0, 1)) (d2 : decode cL_law (pc + 1) = .ok (.iload_n 3, 1)) (d3 : decode cL_law (pc + 2) = .ok (.iconst n, 1)) (hk : Int32.ofInt n = nI k) (d4 : decode cL_law (pc + 3) = .ok (.iadd, 1)) (d5 : decode cL_law (pc + 4) = .ok (.iaload, 1)) (kk : WL p l e s m args below meth c Q g C0 S0 I J (F0 m (pc + 5) ls (.int (xs (i + k)) :: rest))) : WL p l e s m args below meth c Q g C0 S0 I J (F0 m pc ls rest) := fun H locs hP hS => by
  obtain ⟨C, hX, hbl, hbA, hL, -, -⟩ := X
  refine lv_aload_n C.1 C.2.1 d1 rfl h0 ?_
  refine lv_iload_n C.1 C.2.1 d2 rfl h3 ?_
  refine lv_iconst C.1 C.2.1 d3 hk ?_
  refine lv_iadd C.1 C.2.1 d4 ?_
  rw [nI_add]
  refine va_sld C.1 C.2.1 hX hbl hbA hS (vp_in_nI hi (by omega)) d5 ?_
  rw [nI_clamp (by omega)]
  exact kk H locs hP hS
set_option maxRecDepth 20000 in
theorem lc_0 (X : LX g p s m args meth c b L xs C0 S0) (hi : i + 4 ≤ L) (hl : lv_has ls 4 [(3, .int (nI i)), (2, .ref (gad g 8 0)), (1, .ref (gad g 7 0)), (0, .ref b)]) (hI : Inv I J) (kk : ∀ (I1 : MI) (J1 : MJ), Inv I1 J1 → WL p l e s m args below meth c Q g C0 S0 I1 J1 (F0 m 1031 ls [])) : WL p l e s m args below meth c Q g C0 S0 I J (F0 m 156 ls []) := by
  refine l_p (fun _ _ k => lv_aload_n X.1.1 X.1.2.1 dL_law_156 rfl (lv_at hl 2 rfl) k) ?_
  refine l_arg (k := 1) X (by omega) (lv_at hl 3 rfl) (lv_at hl 0 rfl) dL_law_157 dL_law_158 dL_law_159 (by decide) dL_law_160 dL_law_161 ?_
  refine l_cVi (t := 7) (r := 0) (ci := 7) (T0 := TX7) (N := 15) (As := [.int (xs (i + 1))]) (rest := []) X (c_X7_runner (pr_runner hI (xs (i + 1)))) ok_X7_runner im_X7_runner se_X7_runner kw_RL_13 ⟨Nat.le_of_ble_eq_true rfl, Nat.le_of_ble_eq_true rfl⟩ (by decide) rfl rfl rfl hl.1 (Nat.le_of_ble_eq_true rfl) dL_law_162 (fun x I1 J1 h1 => ?_)
  refine l_p (fun _ _ k => lv_aload_n X.1.1 X.1.2.1 dL_law_165 rfl (lv_at hl 1 rfl) k) ?_
  refine l_arg (k := 1) X (by omega) (lv_at hl 3 rfl) (lv_at hl 0 rfl) dL_law_166 dL_law_167 dL_law_168 (by decide) dL_law_169 dL_law_170 ?_
  refine l_cVi (t := 8) (r := 0) (ci := 8) (T0 := TX8) (N := 25) (As := [.int (xs (i + 1))]) (rest := [.int x]) X (c_X8_runner h1) ok_X8_runner im_X8_runner se_X8_runner kw_RL_17 ⟨Nat.le_of_ble_eq_true rfl, Nat.le_of_ble_eq_true rfl⟩ (by decide) rfl rfl rfl hl.1 (Nat.le_of_ble_eq_true rfl) dL_law_171 (fun x2 I2 J2 h2 => ?_)
  exact l_p (fun _ _ k => lv_icmp_eq (tgt := 1031) X.1.1 X.1.2.1 dL_law_174 (by decide) (fun _ => k) (fun q => absurd h2.1 q)) (kk I2 J2 h2.2)
set_option maxRecDepth 20000 in
theorem lc_1 (X : LX g p s m args meth c b L xs C0 S0) (hi : i + 4 ≤ L) (hl : lv_has ls 4 [(3, .int (nI i)), (2, .ref (gad g 8 0)), (1, .ref (gad g 7 0)), (0, .ref b)]) (hI : Inv I J) (kk : ∀ (I1 : MI) (J1 : MJ), Inv I1 J1 → WL p l e s m args below meth c Q g C0 S0 I1 J1 (F0 m 1031 ls [])) : WL p l e s m args below meth c Q g C0 S0 I J (F0 m 179 ls []) := by
  refine l_p (fun _ _ k => lv_aload_n X.1.1 X.1.2.1 dL_law_179 rfl (lv_at hl 2 rfl) k) ?_
  refine l_arg (k := 1) X (by omega) (lv_at hl 3 rfl) (lv_at hl 0 rfl) dL_law_180 dL_law_181 dL_law_182 (by decide) dL_law_183 dL_law_184 ?_
  refine l_arg (k := 2) X (by omega) (lv_at hl 3 rfl) (lv_at hl 0 rfl) dL_law_185 dL_law_186 dL_law_187 (by decide) dL_law_188 dL_law_189 ?_
  refine l_arg (k := 3) X (by omega) (lv_at hl 3 rfl) (lv_at hl 0 rfl) dL_law_190 dL_law_191 dL_law_192 (by decide) dL_law_193 dL_law_194 ?_
  refine l_cVi (t := 7) (r := 0) (ci := 7) (T0 := TX7) (N := 15) (As := [.int (xs (i + 1)), .int (xs (i + 2)), .int (xs (i + 3))]) (rest := []) X (c_X7_set (pr_set hI (xs (i + 1)) (xs (i + 2)) (xs (i + 3)))) ok_X7_set im_X7_set se_X7_set kw_RL_18 ⟨Nat.le_of_ble_eq_true rfl, Nat.le_of_ble_eq_true rfl⟩ (by decide) rfl rfl rfl hl.1 (Nat.le_of_ble_eq_true rfl) dL_law_195 (fun x I1 J1 h1 => ?_)
  refine l_p (fun _ _ k => lv_aload_n X.1.1 X.1.2.1 dL_law_198 rfl (lv_at hl 1 rfl) k) ?_
  refine l_arg (k := 1) X (by omega) (lv_at hl 3 rfl) (lv_at hl 0 rfl) dL_law_199 dL_law_200 dL_law_201 (by decide) dL_law_202 dL_law_203 ?_
  refine l_arg (k := 2) X (by omega) (lv_at hl 3 rfl) (lv_at hl 0 rfl) dL_law_204 dL_law_205 dL_law_206 (by decide) dL_law_207 dL_law_208 ?_
  refine l_arg (k := 3) X (by omega) (lv_at hl 3 rfl) (lv_at hl 0 rfl) dL_law_209 dL_law_210 dL_law_211 (by decide) dL_law_212 dL_law_213 ?_
  refine l_cVi (t := 8) (r := 0) (ci := 8) (T0 := TX8) (N := 25) (As := [.int (xs (i + 1)), .int (xs (i + 2)), .int (xs (i + 3))]) (rest := [.int x]) X (c_X8_set h1) ok_X8_set im_X8_set se_X8_set kw_RL_22 ⟨Nat.le_of_ble_eq_true rfl, Nat.le_of_ble_eq_true rfl⟩ (by decide) rfl rfl rfl hl.1 (Nat.le_of_ble_eq_true rfl) dL_law_214 (fun x2 I2 J2 h2 => ?_)
  exact l_p (fun _ _ k => lv_icmp_eq (tgt := 1031) X.1.1 X.1.2.1 dL_law_217 (by decide) (fun _ => k) (fun q => absurd h2.1 q)) (kk I2 J2 h2.2)
set_option maxRecDepth 20000 in
theorem lc_2 (X : LX g p s m args meth c b L xs C0 S0) (hi : i + 4 ≤ L) (hl : lv_has ls 4 [(3, .int (nI i)), (2, .ref (gad g 8 0)), (1, .ref (gad g 7 0)), (0, .ref b)]) (hI : Inv I J) (kk : ∀ (I1 : MI) (J1 : MJ), Inv I1 J1 → WL p l e s m args below meth c Q g C0 S0 I1 J1 (F0 m 1031 ls [])) : WL p l e s m args below meth c Q g C0 S0 I J (F0 m 222 ls []) := by
  refine l_p (fun _ _ k => lv_aload_n X.1.1 X.1.2.1 dL_law_222 rfl (lv_at hl 2 rfl) k) ?_
  refine l_arg (k := 1) X (by omega) (lv_at hl 3 rfl) (lv_at hl 0 rfl) dL_law_223 dL_law_224 dL_law_225 (by decide) dL_law_226 dL_law_227 ?_
  refine l_arg (k := 2) X (by omega) (lv_at hl 3 rfl) (lv_at hl 0 rfl) dL_law_228 dL_law_229 dL_law_230 (by decide) dL_law_231 dL_law_232 ?_
  refine l_cVi (t := 7) (r := 0) (ci := 7) (T0 := TX7) (N := 15) (As := [.int (xs (i + 1)), .int (xs (i + 2))]) (rest := []) X (c_X7_about (pr_about hI (xs (i + 1)) (xs (i + 2)))) ok_X7_about im_X7_about se_X7_about kw_RL_23 ⟨Nat.le_of_ble_eq_true rfl, Nat.le_of_ble_eq_true rfl⟩ (by decide) rfl rfl rfl hl.1 (Nat.le_of_ble_eq_true rfl) dL_law_233 (fun x I1 J1 h1 => ?_)
  refine l_p (fun _ _ k => lv_aload_n X.1.1 X.1.2.1 dL_law_236 rfl (lv_at hl 1 rfl) k) ?_
  refine l_arg (k := 1) X (by omega) (lv_at hl 3 rfl) (lv_at hl 0 rfl) dL_law_237 dL_law_238 dL_law_239 (by decide) dL_law_240 dL_law_241 ?_
  refine l_arg (k := 2) X (by omega) (lv_at hl 3 rfl) (lv_at hl 0 rfl) dL_law_242 dL_law_243 dL_law_244 (by decide) dL_law_245 dL_law_246 ?_
  refine l_cVi (t := 8) (r := 0) (ci := 8) (T0 := TX8) (N := 25) (As := [.int (xs (i + 1)), .int (xs (i + 2))]) (rest := [.int x]) X (c_X8_about h1) ok_X8_about im_X8_about se_X8_about kw_RL_27 ⟨Nat.le_of_ble_eq_true rfl, Nat.le_of_ble_eq_true rfl⟩ (by decide) rfl rfl rfl hl.1 (Nat.le_of_ble_eq_true rfl) dL_law_247 (fun x2 I2 J2 h2 => ?_)
  exact l_p (fun _ _ k => lv_icmp_eq (tgt := 1031) X.1.1 X.1.2.1 dL_law_250 (by decide) (fun _ => k) (fun q => absurd h2.1 q)) (kk I2 J2 h2.2)
set_option maxRecDepth 20000 in
theorem lc_3 (X : LX g p s m args meth c b L xs C0 S0) (hi : i + 4 ≤ L) (hl : lv_has ls 4 [(3, .int (nI i)), (2, .ref (gad g 8 0)), (1, .ref (gad g 7 0)), (0, .ref b)]) (hI : Inv I J) (kk : ∀ (I1 : MI) (J1 : MJ), Inv I1 J1 → WL p l e s m args below meth c Q g C0 S0 I1 J1 (F0 m 1031 ls [])) : WL p l e s m args below meth c Q g C0 S0 I J (F0 m 255 ls []) := by
  refine l_p (fun _ _ k => lv_aload_n X.1.1 X.1.2.1 dL_law_255 rfl (lv_at hl 2 rfl) k) ?_
  refine l_arg (k := 1) X (by omega) (lv_at hl 3 rfl) (lv_at hl 0 rfl) dL_law_256 dL_law_257 dL_law_258 (by decide) dL_law_259 dL_law_260 ?_
  refine l_arg (k := 2) X (by omega) (lv_at hl 3 rfl) (lv_at hl 0 rfl) dL_law_261 dL_law_262 dL_law_263 (by decide) dL_law_264 dL_law_265 ?_
  refine l_cVi (t := 7) (r := 0) (ci := 7) (T0 := TX7) (N := 15) (As := [.int (xs (i + 1)), .int (xs (i + 2))]) (rest := []) X (c_X7_figure (pr_figure hI (xs (i + 1)) (xs (i + 2)))) ok_X7_figure im_X7_figure se_X7_figure kw_RL_28 ⟨Nat.le_of_ble_eq_true rfl, Nat.le_of_ble_eq_true rfl⟩ (by decide) rfl rfl rfl hl.1 (Nat.le_of_ble_eq_true rfl) dL_law_266 (fun x I1 J1 h1 => ?_)
  refine l_p (fun _ _ k => lv_aload_n X.1.1 X.1.2.1 dL_law_269 rfl (lv_at hl 1 rfl) k) ?_
  refine l_arg (k := 1) X (by omega) (lv_at hl 3 rfl) (lv_at hl 0 rfl) dL_law_270 dL_law_271 dL_law_272 (by decide) dL_law_273 dL_law_274 ?_
  refine l_arg (k := 2) X (by omega) (lv_at hl 3 rfl) (lv_at hl 0 rfl) dL_law_275 dL_law_276 dL_law_277 (by decide) dL_law_278 dL_law_279 ?_
  refine l_cVi (t := 8) (r := 0) (ci := 8) (T0 := TX8) (N := 25) (As := [.int (xs (i + 1)), .int (xs (i + 2))]) (rest := [.int x]) X (c_X8_figure h1) ok_X8_figure im_X8_figure se_X8_figure kw_RL_31 ⟨Nat.le_of_ble_eq_true rfl, Nat.le_of_ble_eq_true rfl⟩ (by decide) rfl rfl rfl hl.1 (Nat.le_of_ble_eq_true rfl) dL_law_280 (fun x2 I2 J2 h2 => ?_)
  exact l_p (fun _ _ k => lv_icmp_eq (tgt := 1031) X.1.1 X.1.2.1 dL_law_283 (by decide) (fun _ => k) (fun q => absurd h2.1 q)) (kk I2 J2 h2.2)
set_option maxRecDepth 20000 in
theorem lc_4 (X : LX g p s m args meth c b L xs C0 S0) (hi : i + 4 ≤ L) (hl : lv_has ls 4 [(3, .int (nI i)), (2, .ref (gad g 8 0)), (1, .ref (gad g 7 0)), (0, .ref b)]) (hI : Inv I J) (kk : ∀ (I1 : MI) (J1 : MJ), Inv I1 J1 → WL p l e s m args below meth c Q g C0 S0 I1 J1 (F0 m 1031 ls [])) : WL p l e s m args below meth c Q g C0 S0 I J (F0 m 288 ls []) := by
  refine l_p (fun _ _ k => lv_aload_n X.1.1 X.1.2.1 dL_law_288 rfl (lv_at hl 2 rfl) k) ?_
  refine l_arg (k := 1) X (by omega) (lv_at hl 3 rfl) (lv_at hl 0 rfl) dL_law_289 dL_law_290 dL_law_291 (by decide) dL_law_292 dL_law_293 ?_
  refine l_arg (k := 2) X (by omega) (lv_at hl 3 rfl) (lv_at hl 0 rfl) dL_law_294 dL_law_295 dL_law_296 (by decide) dL_law_297 dL_law_298 ?_
  refine l_cVi (t := 7) (r := 0) (ci := 7) (T0 := TX7) (N := 15) (As := [.int (xs (i + 1)), .int (xs (i + 2))]) (rest := []) X (c_X7_tune (pr_tune hI (xs (i + 1)) (xs (i + 2)))) ok_X7_tune im_X7_tune se_X7_tune kw_RL_32 ⟨Nat.le_of_ble_eq_true rfl, Nat.le_of_ble_eq_true rfl⟩ (by decide) rfl rfl rfl hl.1 (Nat.le_of_ble_eq_true rfl) dL_law_299 (fun x I1 J1 h1 => ?_)
  refine l_p (fun _ _ k => lv_aload_n X.1.1 X.1.2.1 dL_law_302 rfl (lv_at hl 1 rfl) k) ?_
  refine l_arg (k := 1) X (by omega) (lv_at hl 3 rfl) (lv_at hl 0 rfl) dL_law_303 dL_law_304 dL_law_305 (by decide) dL_law_306 dL_law_307 ?_
  refine l_arg (k := 2) X (by omega) (lv_at hl 3 rfl) (lv_at hl 0 rfl) dL_law_308 dL_law_309 dL_law_310 (by decide) dL_law_311 dL_law_312 ?_
  refine l_cVi (t := 8) (r := 0) (ci := 8) (T0 := TX8) (N := 25) (As := [.int (xs (i + 1)), .int (xs (i + 2))]) (rest := [.int x]) X (c_X8_tune h1) ok_X8_tune im_X8_tune se_X8_tune kw_RL_35 ⟨Nat.le_of_ble_eq_true rfl, Nat.le_of_ble_eq_true rfl⟩ (by decide) rfl rfl rfl hl.1 (Nat.le_of_ble_eq_true rfl) dL_law_313 (fun x2 I2 J2 h2 => ?_)
  exact l_p (fun _ _ k => lv_icmp_eq (tgt := 1031) X.1.1 X.1.2.1 dL_law_316 (by decide) (fun _ => k) (fun q => absurd h2.1 q)) (kk I2 J2 h2.2)
set_option maxRecDepth 20000 in
theorem lc_5 (X : LX g p s m args meth c b L xs C0 S0) (hi : i + 4 ≤ L) (hl : lv_has ls 4 [(3, .int (nI i)), (2, .ref (gad g 8 0)), (1, .ref (gad g 7 0)), (0, .ref b)]) (hI : Inv I J) (kk : ∀ (I1 : MI) (J1 : MJ), Inv I1 J1 → WL p l e s m args below meth c Q g C0 S0 I1 J1 (F0 m 1031 ls [])) : WL p l e s m args below meth c Q g C0 S0 I J (F0 m 321 ls []) := by
  refine l_p (fun _ _ k => lv_aload_n X.1.1 X.1.2.1 dL_law_321 rfl (lv_at hl 2 rfl) k) ?_
  refine l_arg (k := 1) X (by omega) (lv_at hl 3 rfl) (lv_at hl 0 rfl) dL_law_322 dL_law_323 dL_law_324 (by decide) dL_law_325 dL_law_326 ?_
  refine l_cVi (t := 7) (r := 0) (ci := 7) (T0 := TX7) (N := 15) (As := [.int (xs (i + 1))]) (rest := []) X (c_X7_lot (pr_lot hI (xs (i + 1)))) ok_X7_lot im_X7_lot se_X7_lot kw_RL_36 ⟨Nat.le_of_ble_eq_true rfl, Nat.le_of_ble_eq_true rfl⟩ (by decide) rfl rfl rfl hl.1 (Nat.le_of_ble_eq_true rfl) dL_law_327 (fun x I1 J1 h1 => ?_)
  refine l_p (fun _ _ k => lv_aload_n X.1.1 X.1.2.1 dL_law_330 rfl (lv_at hl 1 rfl) k) ?_
  refine l_arg (k := 1) X (by omega) (lv_at hl 3 rfl) (lv_at hl 0 rfl) dL_law_331 dL_law_332 dL_law_333 (by decide) dL_law_334 dL_law_335 ?_
  refine l_cVi (t := 8) (r := 0) (ci := 8) (T0 := TX8) (N := 25) (As := [.int (xs (i + 1))]) (rest := [.int x]) X (c_X8_lot h1) ok_X8_lot im_X8_lot se_X8_lot kw_RL_39 ⟨Nat.le_of_ble_eq_true rfl, Nat.le_of_ble_eq_true rfl⟩ (by decide) rfl rfl rfl hl.1 (Nat.le_of_ble_eq_true rfl) dL_law_336 (fun x2 I2 J2 h2 => ?_)
  exact l_p (fun _ _ k => lv_icmp_eq (tgt := 1031) X.1.1 X.1.2.1 dL_law_339 (by decide) (fun _ => k) (fun q => absurd h2.1 q)) (kk I2 J2 h2.2)
set_option maxRecDepth 20000 in
theorem lc_6 (X : LX g p s m args meth c b L xs C0 S0) (hi : i + 4 ≤ L) (hl : lv_has ls 4 [(3, .int (nI i)), (2, .ref (gad g 8 0)), (1, .ref (gad g 7 0)), (0, .ref b)]) (hI : Inv I J) (kk : ∀ (I1 : MI) (J1 : MJ), Inv I1 J1 → WL p l e s m args below meth c Q g C0 S0 I1 J1 (F0 m 1031 ls [])) : WL p l e s m args below meth c Q g C0 S0 I J (F0 m 344 ls []) := by
  refine l_p (fun _ _ k => lv_aload_n X.1.1 X.1.2.1 dL_law_344 rfl (lv_at hl 2 rfl) k) ?_
  refine l_arg (k := 1) X (by omega) (lv_at hl 3 rfl) (lv_at hl 0 rfl) dL_law_345 dL_law_346 dL_law_347 (by decide) dL_law_348 dL_law_349 ?_
  refine l_p (fun _ _ k => lv_i2l X.1.1 X.1.2.1 dL_law_350 rfl k) ?_
  refine l_p (fun _ _ k => lv_bipush (v := 32) X.1.1 X.1.2.1 dL_law_351 (by decide) k) ?_
  refine l_p (fun _ _ k => lv_lshl X.1.1 X.1.2.1 dL_law_353 rfl k) ?_
  refine l_arg (k := 2) X (by omega) (lv_at hl 3 rfl) (lv_at hl 0 rfl) dL_law_354 dL_law_355 dL_law_356 (by decide) dL_law_357 dL_law_358 ?_
  refine l_p (fun _ _ k => lv_i2l X.1.1 X.1.2.1 dL_law_359 rfl k) ?_
  refine l_p (fun _ _ k => lv_ldc2 (v := 4294967295) X.1.1 X.1.2.1 X.1.2.2.2.1 (X.1.2.2.2.2.1 _ (wG_t (i := 951) (by decide +kernel) (by decide +kernel))) dL_law_360 k) ?_
  refine l_p (fun _ _ k => lv_land X.1.1 X.1.2.1 dL_law_363 k) ?_
  refine l_p (fun _ _ k => lv_lor X.1.1 X.1.2.1 dL_law_364 k) ?_
  refine l_arg (k := 3) X (by omega) (lv_at hl 3 rfl) (lv_at hl 0 rfl) dL_law_365 dL_law_366 dL_law_367 (by decide) dL_law_368 dL_law_369 ?_
  refine l_cVi (t := 7) (r := 0) (ci := 7) (T0 := TX7) (N := 15) (As := [.long ((((xs (i + 1)).toInt64) <<< ((32 : Int32).toInt64 &&& 63)) ||| (((xs (i + 2)).toInt64) &&& 4294967295)), .int (xs (i + 3))]) (rest := []) X (c_X7_type (pr_type hI ((((xs (i + 1)).toInt64) <<< ((32 : Int32).toInt64 &&& 63)) ||| (((xs (i + 2)).toInt64) &&& 4294967295)) (xs (i + 3)))) ok_X7_type im_X7_type se_X7_type kw_RL_42 ⟨Nat.le_of_ble_eq_true rfl, Nat.le_of_ble_eq_true rfl⟩ (by decide) rfl rfl rfl hl.1 (Nat.le_of_ble_eq_true rfl) dL_law_370 (fun x I1 J1 h1 => ?_)
  refine l_p (fun _ _ k => lv_aload_n X.1.1 X.1.2.1 dL_law_373 rfl (lv_at hl 1 rfl) k) ?_
  refine l_arg (k := 1) X (by omega) (lv_at hl 3 rfl) (lv_at hl 0 rfl) dL_law_374 dL_law_375 dL_law_376 (by decide) dL_law_377 dL_law_378 ?_
  refine l_p (fun _ _ k => lv_i2l X.1.1 X.1.2.1 dL_law_379 rfl k) ?_
  refine l_p (fun _ _ k => lv_bipush (v := 32) X.1.1 X.1.2.1 dL_law_380 (by decide) k) ?_
  refine l_p (fun _ _ k => lv_lshl X.1.1 X.1.2.1 dL_law_382 rfl k) ?_
  refine l_arg (k := 2) X (by omega) (lv_at hl 3 rfl) (lv_at hl 0 rfl) dL_law_383 dL_law_384 dL_law_385 (by decide) dL_law_386 dL_law_387 ?_
  refine l_p (fun _ _ k => lv_i2l X.1.1 X.1.2.1 dL_law_388 rfl k) ?_
  refine l_p (fun _ _ k => lv_ldc2 (v := 4294967295) X.1.1 X.1.2.1 X.1.2.2.2.1 (X.1.2.2.2.2.1 _ (wG_t (i := 951) (by decide +kernel) (by decide +kernel))) dL_law_389 k) ?_
  refine l_p (fun _ _ k => lv_land X.1.1 X.1.2.1 dL_law_392 k) ?_
  refine l_p (fun _ _ k => lv_lor X.1.1 X.1.2.1 dL_law_393 k) ?_
  refine l_arg (k := 3) X (by omega) (lv_at hl 3 rfl) (lv_at hl 0 rfl) dL_law_394 dL_law_395 dL_law_396 (by decide) dL_law_397 dL_law_398 ?_
  refine l_cVi (t := 8) (r := 0) (ci := 8) (T0 := TX8) (N := 25) (As := [.long ((((xs (i + 1)).toInt64) <<< ((32 : Int32).toInt64 &&& 63)) ||| (((xs (i + 2)).toInt64) &&& 4294967295)), .int (xs (i + 3))]) (rest := [.int x]) X (c_X8_type h1) ok_X8_type im_X8_type se_X8_type kw_RL_46 ⟨Nat.le_of_ble_eq_true rfl, Nat.le_of_ble_eq_true rfl⟩ (by decide) rfl rfl rfl hl.1 (Nat.le_of_ble_eq_true rfl) dL_law_399 (fun x2 I2 J2 h2 => ?_)
  exact l_p (fun _ _ k => lv_icmp_eq (tgt := 1031) X.1.1 X.1.2.1 dL_law_402 (by decide) (fun _ => k) (fun q => absurd h2.1 q)) (kk I2 J2 h2.2)
set_option maxRecDepth 20000 in
theorem lc_7 (X : LX g p s m args meth c b L xs C0 S0) (hi : i + 4 ≤ L) (hl : lv_has ls 4 [(3, .int (nI i)), (2, .ref (gad g 8 0)), (1, .ref (gad g 7 0)), (0, .ref b)]) (hI : Inv I J) (kk : ∀ (I1 : MI) (J1 : MJ), Inv I1 J1 → WL p l e s m args below meth c Q g C0 S0 I1 J1 (F0 m 1031 ls [])) : WL p l e s m args below meth c Q g C0 S0 I J (F0 m 407 ls []) := by
  refine l_p (fun _ _ k => lv_aload_n X.1.1 X.1.2.1 dL_law_407 rfl (lv_at hl 2 rfl) k) ?_
  refine l_cVi (t := 7) (r := 0) (ci := 7) (T0 := TX7) (N := 15) (As := []) (rest := []) X (c_X7_clear (pr_clear hI )) ok_X7_clear im_X7_clear se_X7_clear kw_RL_47 ⟨Nat.le_of_ble_eq_true rfl, Nat.le_of_ble_eq_true rfl⟩ (by decide) rfl rfl rfl hl.1 (Nat.le_of_ble_eq_true rfl) dL_law_408 (fun x I1 J1 h1 => ?_)
  refine l_p (fun _ _ k => lv_aload_n X.1.1 X.1.2.1 dL_law_411 rfl (lv_at hl 1 rfl) k) ?_
  refine l_cVi (t := 8) (r := 0) (ci := 8) (T0 := TX8) (N := 25) (As := []) (rest := [.int x]) X (c_X8_clear h1) ok_X8_clear im_X8_clear se_X8_clear kw_RL_51 ⟨Nat.le_of_ble_eq_true rfl, Nat.le_of_ble_eq_true rfl⟩ (by decide) rfl rfl rfl hl.1 (Nat.le_of_ble_eq_true rfl) dL_law_412 (fun x2 I2 J2 h2 => ?_)
  exact l_p (fun _ _ k => lv_icmp_eq (tgt := 1031) X.1.1 X.1.2.1 dL_law_415 (by decide) (fun _ => k) (fun q => absurd h2.1 q)) (kk I2 J2 h2.2)
set_option maxRecDepth 20000 in
theorem lc_8 (X : LX g p s m args meth c b L xs C0 S0) (hi : i + 4 ≤ L) (hl : lv_has ls 4 [(3, .int (nI i)), (2, .ref (gad g 8 0)), (1, .ref (gad g 7 0)), (0, .ref b)]) (hI : Inv I J) (kk : ∀ (I1 : MI) (J1 : MJ), Inv I1 J1 → WL p l e s m args below meth c Q g C0 S0 I1 J1 (F0 m 1031 ls [])) : WL p l e s m args below meth c Q g C0 S0 I J (F0 m 420 ls []) := by
  refine l_p (fun _ _ k => lv_aload_n X.1.1 X.1.2.1 dL_law_420 rfl (lv_at hl 2 rfl) k) ?_
  refine l_cVi (t := 7) (r := 0) (ci := 7) (T0 := TX7) (N := 15) (As := []) (rest := []) X (c_X7_rule (pr_rule hI )) ok_X7_rule im_X7_rule se_X7_rule kw_RL_52 ⟨Nat.le_of_ble_eq_true rfl, Nat.le_of_ble_eq_true rfl⟩ (by decide) rfl rfl rfl hl.1 (Nat.le_of_ble_eq_true rfl) dL_law_421 (fun x I1 J1 h1 => ?_)
  refine l_p (fun _ _ k => lv_aload_n X.1.1 X.1.2.1 dL_law_424 rfl (lv_at hl 1 rfl) k) ?_
  refine l_cVi (t := 8) (r := 0) (ci := 8) (T0 := TX8) (N := 25) (As := []) (rest := [.int x]) X (c_X8_rule h1) ok_X8_rule im_X8_rule se_X8_rule kw_RL_55 ⟨Nat.le_of_ble_eq_true rfl, Nat.le_of_ble_eq_true rfl⟩ (by decide) rfl rfl rfl hl.1 (Nat.le_of_ble_eq_true rfl) dL_law_425 (fun x2 I2 J2 h2 => ?_)
  exact l_p (fun _ _ k => lv_icmp_eq (tgt := 1031) X.1.1 X.1.2.1 dL_law_428 (by decide) (fun _ => k) (fun q => absurd h2.1 q)) (kk I2 J2 h2.2)
set_option maxRecDepth 20000 in
theorem lc_9 (X : LX g p s m args meth c b L xs C0 S0) (hi : i + 4 ≤ L) (hl : lv_has ls 4 [(3, .int (nI i)), (2, .ref (gad g 8 0)), (1, .ref (gad g 7 0)), (0, .ref b)]) (hI : Inv I J) (kk : ∀ (I1 : MI) (J1 : MJ), Inv I1 J1 → WL p l e s m args below meth c Q g C0 S0 I1 J1 (F0 m 1031 ls [])) : WL p l e s m args below meth c Q g C0 S0 I J (F0 m 433 ls []) := by
  refine l_p (fun _ _ k => lv_aload_n X.1.1 X.1.2.1 dL_law_433 rfl (lv_at hl 2 rfl) k) ?_
  refine l_arg (k := 1) X (by omega) (lv_at hl 3 rfl) (lv_at hl 0 rfl) dL_law_434 dL_law_435 dL_law_436 (by decide) dL_law_437 dL_law_438 ?_
  refine l_cVi (t := 7) (r := 0) (ci := 7) (T0 := TX7) (N := 15) (As := [.int (xs (i + 1))]) (rest := []) X (c_X7_told (pr_told hI (xs (i + 1)))) ok_X7_told im_X7_told se_X7_told kw_RL_56 ⟨Nat.le_of_ble_eq_true rfl, Nat.le_of_ble_eq_true rfl⟩ (by decide) rfl rfl rfl hl.1 (Nat.le_of_ble_eq_true rfl) dL_law_439 (fun x I1 J1 h1 => ?_)
  refine l_p (fun _ _ k => lv_aload_n X.1.1 X.1.2.1 dL_law_442 rfl (lv_at hl 1 rfl) k) ?_
  refine l_arg (k := 1) X (by omega) (lv_at hl 3 rfl) (lv_at hl 0 rfl) dL_law_443 dL_law_444 dL_law_445 (by decide) dL_law_446 dL_law_447 ?_
  refine l_cVi (t := 8) (r := 0) (ci := 8) (T0 := TX8) (N := 25) (As := [.int (xs (i + 1))]) (rest := [.int x]) X (c_X8_told h1) ok_X8_told im_X8_told se_X8_told kw_RL_59 ⟨Nat.le_of_ble_eq_true rfl, Nat.le_of_ble_eq_true rfl⟩ (by decide) rfl rfl rfl hl.1 (Nat.le_of_ble_eq_true rfl) dL_law_448 (fun x2 I2 J2 h2 => ?_)
  exact l_p (fun _ _ k => lv_icmp_eq (tgt := 1031) X.1.1 X.1.2.1 dL_law_451 (by decide) (fun _ => k) (fun q => absurd h2.1 q)) (kk I2 J2 h2.2)
set_option maxRecDepth 20000 in
theorem lc_10 (X : LX g p s m args meth c b L xs C0 S0) (hi : i + 4 ≤ L) (hl : lv_has ls 4 [(3, .int (nI i)), (2, .ref (gad g 8 0)), (1, .ref (gad g 7 0)), (0, .ref b)]) (hI : Inv I J) (kk : ∀ (I1 : MI) (J1 : MJ), Inv I1 J1 → WL p l e s m args below meth c Q g C0 S0 I1 J1 (F0 m 1031 ls [])) : WL p l e s m args below meth c Q g C0 S0 I J (F0 m 456 ls []) := by
  refine l_p (fun _ _ k => lv_aload_n X.1.1 X.1.2.1 dL_law_456 rfl (lv_at hl 2 rfl) k) ?_
  refine l_arg (k := 1) X (by omega) (lv_at hl 3 rfl) (lv_at hl 0 rfl) dL_law_457 dL_law_458 dL_law_459 (by decide) dL_law_460 dL_law_461 ?_
  refine l_arg (k := 2) X (by omega) (lv_at hl 3 rfl) (lv_at hl 0 rfl) dL_law_462 dL_law_463 dL_law_464 (by decide) dL_law_465 dL_law_466 ?_
  refine l_cVi (t := 7) (r := 0) (ci := 7) (T0 := TX7) (N := 15) (As := [.int (xs (i + 1)), .int (xs (i + 2))]) (rest := []) X (c_X7_race (pr_race hI (xs (i + 1)) (xs (i + 2)))) ok_X7_race im_X7_race se_X7_race kw_RL_60 ⟨Nat.le_of_ble_eq_true rfl, Nat.le_of_ble_eq_true rfl⟩ (by decide) rfl rfl rfl hl.1 (Nat.le_of_ble_eq_true rfl) dL_law_467 (fun x I1 J1 h1 => ?_)
  refine l_p (fun _ _ k => lv_aload_n X.1.1 X.1.2.1 dL_law_470 rfl (lv_at hl 1 rfl) k) ?_
  refine l_arg (k := 1) X (by omega) (lv_at hl 3 rfl) (lv_at hl 0 rfl) dL_law_471 dL_law_472 dL_law_473 (by decide) dL_law_474 dL_law_475 ?_
  refine l_arg (k := 2) X (by omega) (lv_at hl 3 rfl) (lv_at hl 0 rfl) dL_law_476 dL_law_477 dL_law_478 (by decide) dL_law_479 dL_law_480 ?_
  refine l_cVi (t := 8) (r := 0) (ci := 8) (T0 := TX8) (N := 25) (As := [.int (xs (i + 1)), .int (xs (i + 2))]) (rest := [.int x]) X (c_X8_race h1) ok_X8_race im_X8_race se_X8_race kw_RL_63 ⟨Nat.le_of_ble_eq_true rfl, Nat.le_of_ble_eq_true rfl⟩ (by decide) rfl rfl rfl hl.1 (Nat.le_of_ble_eq_true rfl) dL_law_481 (fun x2 I2 J2 h2 => ?_)
  exact l_p (fun _ _ k => lv_icmp_eq (tgt := 1031) X.1.1 X.1.2.1 dL_law_484 (by decide) (fun _ => k) (fun q => absurd h2.1 q)) (kk I2 J2 h2.2)
set_option maxRecDepth 20000 in
theorem lc_11 (X : LX g p s m args meth c b L xs C0 S0) (hi : i + 4 ≤ L) (hl : lv_has ls 4 [(3, .int (nI i)), (2, .ref (gad g 8 0)), (1, .ref (gad g 7 0)), (0, .ref b)]) (hI : Inv I J) (kk : ∀ (I1 : MI) (J1 : MJ), Inv I1 J1 → WL p l e s m args below meth c Q g C0 S0 I1 J1 (F0 m 1031 ls [])) : WL p l e s m args below meth c Q g C0 S0 I J (F0 m 489 ls []) := by
  refine l_p (fun _ _ k => lv_aload_n X.1.1 X.1.2.1 dL_law_489 rfl (lv_at hl 2 rfl) k) ?_
  refine l_arg (k := 1) X (by omega) (lv_at hl 3 rfl) (lv_at hl 0 rfl) dL_law_490 dL_law_491 dL_law_492 (by decide) dL_law_493 dL_law_494 ?_
  refine l_arg (k := 2) X (by omega) (lv_at hl 3 rfl) (lv_at hl 0 rfl) dL_law_495 dL_law_496 dL_law_497 (by decide) dL_law_498 dL_law_499 ?_
  refine l_cVi (t := 7) (r := 0) (ci := 7) (T0 := TX7) (N := 15) (As := [.int (xs (i + 1)), .int (xs (i + 2))]) (rest := []) X (c_X7_shown (pr_shown hI (xs (i + 1)) (xs (i + 2)))) ok_X7_shown im_X7_shown se_X7_shown kw_RL_64 ⟨Nat.le_of_ble_eq_true rfl, Nat.le_of_ble_eq_true rfl⟩ (by decide) rfl rfl rfl hl.1 (Nat.le_of_ble_eq_true rfl) dL_law_500 (fun x I1 J1 h1 => ?_)
  refine l_p (fun _ _ k => lv_aload_n X.1.1 X.1.2.1 dL_law_503 rfl (lv_at hl 1 rfl) k) ?_
  refine l_arg (k := 1) X (by omega) (lv_at hl 3 rfl) (lv_at hl 0 rfl) dL_law_504 dL_law_505 dL_law_506 (by decide) dL_law_507 dL_law_508 ?_
  refine l_arg (k := 2) X (by omega) (lv_at hl 3 rfl) (lv_at hl 0 rfl) dL_law_509 dL_law_510 dL_law_511 (by decide) dL_law_512 dL_law_513 ?_
  refine l_cVi (t := 8) (r := 0) (ci := 8) (T0 := TX8) (N := 25) (As := [.int (xs (i + 1)), .int (xs (i + 2))]) (rest := [.int x]) X (c_X8_shown h1) ok_X8_shown im_X8_shown se_X8_shown kw_RL_67 ⟨Nat.le_of_ble_eq_true rfl, Nat.le_of_ble_eq_true rfl⟩ (by decide) rfl rfl rfl hl.1 (Nat.le_of_ble_eq_true rfl) dL_law_514 (fun x2 I2 J2 h2 => ?_)
  exact l_p (fun _ _ k => lv_icmp_eq (tgt := 1031) X.1.1 X.1.2.1 dL_law_517 (by decide) (fun _ => k) (fun q => absurd h2.1 q)) (kk I2 J2 h2.2)
set_option maxRecDepth 20000 in
theorem lc_12 (X : LX g p s m args meth c b L xs C0 S0) (hi : i + 4 ≤ L) (hl : lv_has ls 4 [(3, .int (nI i)), (2, .ref (gad g 8 0)), (1, .ref (gad g 7 0)), (0, .ref b)]) (hI : Inv I J) (kk : ∀ (I1 : MI) (J1 : MJ), Inv I1 J1 → WL p l e s m args below meth c Q g C0 S0 I1 J1 (F0 m 1031 ls [])) : WL p l e s m args below meth c Q g C0 S0 I J (F0 m 522 ls []) := by
  refine l_p (fun _ _ k => lv_aload_n X.1.1 X.1.2.1 dL_law_522 rfl (lv_at hl 2 rfl) k) ?_
  refine l_arg (k := 1) X (by omega) (lv_at hl 3 rfl) (lv_at hl 0 rfl) dL_law_523 dL_law_524 dL_law_525 (by decide) dL_law_526 dL_law_527 ?_
  refine l_arg (k := 2) X (by omega) (lv_at hl 3 rfl) (lv_at hl 0 rfl) dL_law_528 dL_law_529 dL_law_530 (by decide) dL_law_531 dL_law_532 ?_
  refine l_cVi (t := 7) (r := 0) (ci := 7) (T0 := TX7) (N := 15) (As := [.int (xs (i + 1)), .int (xs (i + 2))]) (rest := []) X (c_X7_weight (pr_weight hI (xs (i + 1)) (xs (i + 2)))) ok_X7_weight im_X7_weight se_X7_weight kw_RL_68 ⟨Nat.le_of_ble_eq_true rfl, Nat.le_of_ble_eq_true rfl⟩ (by decide) rfl rfl rfl hl.1 (Nat.le_of_ble_eq_true rfl) dL_law_533 (fun x I1 J1 h1 => ?_)
  refine l_p (fun _ _ k => lv_aload_n X.1.1 X.1.2.1 dL_law_536 rfl (lv_at hl 1 rfl) k) ?_
  refine l_arg (k := 1) X (by omega) (lv_at hl 3 rfl) (lv_at hl 0 rfl) dL_law_537 dL_law_538 dL_law_539 (by decide) dL_law_540 dL_law_541 ?_
  refine l_arg (k := 2) X (by omega) (lv_at hl 3 rfl) (lv_at hl 0 rfl) dL_law_542 dL_law_543 dL_law_544 (by decide) dL_law_545 dL_law_546 ?_
  refine l_cVi (t := 8) (r := 0) (ci := 8) (T0 := TX8) (N := 25) (As := [.int (xs (i + 1)), .int (xs (i + 2))]) (rest := [.int x]) X (c_X8_weight h1) ok_X8_weight im_X8_weight se_X8_weight kw_RL_71 ⟨Nat.le_of_ble_eq_true rfl, Nat.le_of_ble_eq_true rfl⟩ (by decide) rfl rfl rfl hl.1 (Nat.le_of_ble_eq_true rfl) dL_law_547 (fun x2 I2 J2 h2 => ?_)
  exact l_p (fun _ _ k => lv_icmp_eq (tgt := 1031) X.1.1 X.1.2.1 dL_law_550 (by decide) (fun _ => k) (fun q => absurd h2.1 q)) (kk I2 J2 h2.2)
set_option maxRecDepth 20000 in
theorem lc_13 (X : LX g p s m args meth c b L xs C0 S0) (hi : i + 4 ≤ L) (hl : lv_has ls 4 [(3, .int (nI i)), (2, .ref (gad g 8 0)), (1, .ref (gad g 7 0)), (0, .ref b)]) (hI : Inv I J) (kk : ∀ (I1 : MI) (J1 : MJ), Inv I1 J1 → WL p l e s m args below meth c Q g C0 S0 I1 J1 (F0 m 1031 ls [])) : WL p l e s m args below meth c Q g C0 S0 I J (F0 m 555 ls []) := by
  refine l_p (fun _ _ k => lv_aload_n X.1.1 X.1.2.1 dL_law_555 rfl (lv_at hl 2 rfl) k) ?_
  refine l_arg (k := 1) X (by omega) (lv_at hl 3 rfl) (lv_at hl 0 rfl) dL_law_556 dL_law_557 dL_law_558 (by decide) dL_law_559 dL_law_560 ?_
  refine l_arg (k := 2) X (by omega) (lv_at hl 3 rfl) (lv_at hl 0 rfl) dL_law_561 dL_law_562 dL_law_563 (by decide) dL_law_564 dL_law_565 ?_
  refine l_arg (k := 3) X (by omega) (lv_at hl 3 rfl) (lv_at hl 0 rfl) dL_law_566 dL_law_567 dL_law_568 (by decide) dL_law_569 dL_law_570 ?_
  refine l_cVl (t := 7) (r := 0) (ci := 7) (T0 := TX7) (N := 15) (As := [.int (xs (i + 1)), .int (xs (i + 2)), .int (xs (i + 3))]) (rest := []) X (c_X7_odds (pr_odds hI (xs (i + 1)) (xs (i + 2)) (xs (i + 3)))) ok_X7_odds im_X7_odds se_X7_odds kw_RL_72 ⟨Nat.le_of_ble_eq_true rfl, Nat.le_of_ble_eq_true rfl⟩ (by decide) rfl rfl rfl hl.1 (Nat.le_of_ble_eq_true rfl) dL_law_571 (fun x I1 J1 h1 => ?_)
  refine l_p (fun _ _ k => lv_aload_n X.1.1 X.1.2.1 dL_law_574 rfl (lv_at hl 1 rfl) k) ?_
  refine l_arg (k := 1) X (by omega) (lv_at hl 3 rfl) (lv_at hl 0 rfl) dL_law_575 dL_law_576 dL_law_577 (by decide) dL_law_578 dL_law_579 ?_
  refine l_arg (k := 2) X (by omega) (lv_at hl 3 rfl) (lv_at hl 0 rfl) dL_law_580 dL_law_581 dL_law_582 (by decide) dL_law_583 dL_law_584 ?_
  refine l_arg (k := 3) X (by omega) (lv_at hl 3 rfl) (lv_at hl 0 rfl) dL_law_585 dL_law_586 dL_law_587 (by decide) dL_law_588 dL_law_589 ?_
  refine l_cVl (t := 8) (r := 0) (ci := 8) (T0 := TX8) (N := 25) (As := [.int (xs (i + 1)), .int (xs (i + 2)), .int (xs (i + 3))]) (rest := [.long x]) X (c_X8_odds h1) ok_X8_odds im_X8_odds se_X8_odds kw_RL_76 ⟨Nat.le_of_ble_eq_true rfl, Nat.le_of_ble_eq_true rfl⟩ (by decide) rfl rfl rfl hl.1 (Nat.le_of_ble_eq_true rfl) dL_law_590 (fun x2 I2 J2 h2 => ?_)
  refine l_p (fun _ _ k => W.lcmp X.1.1 X.1.2.1 dL_law_593 k) ?_
  exact l_p (fun _ _ k => lv_if_eq (tgt := 1031) X.1.1 X.1.2.1 dL_law_594 (by decide) (fun _ => k) (fun q => absurd ((lg_cmp_eq _ _).mpr h2.1) q)) (kk I2 J2 h2.2)
set_option maxRecDepth 20000 in
theorem lc_14 (X : LX g p s m args meth c b L xs C0 S0) (hi : i + 4 ≤ L) (hl : lv_has ls 4 [(3, .int (nI i)), (2, .ref (gad g 8 0)), (1, .ref (gad g 7 0)), (0, .ref b)]) (hI : Inv I J) (kk : ∀ (I1 : MI) (J1 : MJ), Inv I1 J1 → WL p l e s m args below meth c Q g C0 S0 I1 J1 (F0 m 1031 ls [])) : WL p l e s m args below meth c Q g C0 S0 I J (F0 m 599 ls []) := by
  refine l_p (fun _ _ k => lv_aload_n X.1.1 X.1.2.1 dL_law_599 rfl (lv_at hl 2 rfl) k) ?_
  refine l_arg (k := 1) X (by omega) (lv_at hl 3 rfl) (lv_at hl 0 rfl) dL_law_600 dL_law_601 dL_law_602 (by decide) dL_law_603 dL_law_604 ?_
  refine l_arg (k := 2) X (by omega) (lv_at hl 3 rfl) (lv_at hl 0 rfl) dL_law_605 dL_law_606 dL_law_607 (by decide) dL_law_608 dL_law_609 ?_
  refine l_cVl (t := 7) (r := 0) (ci := 7) (T0 := TX7) (N := 15) (As := [.int (xs (i + 1)), .int (xs (i + 2))]) (rest := []) X (c_X7_close (pr_close hI (xs (i + 1)) (xs (i + 2)))) ok_X7_close im_X7_close se_X7_close kw_RL_77 ⟨Nat.le_of_ble_eq_true rfl, Nat.le_of_ble_eq_true rfl⟩ (by decide) rfl rfl rfl hl.1 (Nat.le_of_ble_eq_true rfl) dL_law_610 (fun x I1 J1 h1 => ?_)
  refine l_p (fun _ _ k => lv_aload_n X.1.1 X.1.2.1 dL_law_613 rfl (lv_at hl 1 rfl) k) ?_
  refine l_arg (k := 1) X (by omega) (lv_at hl 3 rfl) (lv_at hl 0 rfl) dL_law_614 dL_law_615 dL_law_616 (by decide) dL_law_617 dL_law_618 ?_
  refine l_arg (k := 2) X (by omega) (lv_at hl 3 rfl) (lv_at hl 0 rfl) dL_law_619 dL_law_620 dL_law_621 (by decide) dL_law_622 dL_law_623 ?_
  refine l_cVl (t := 8) (r := 0) (ci := 8) (T0 := TX8) (N := 25) (As := [.int (xs (i + 1)), .int (xs (i + 2))]) (rest := [.long x]) X (c_X8_close h1) ok_X8_close im_X8_close se_X8_close kw_RL_81 ⟨Nat.le_of_ble_eq_true rfl, Nat.le_of_ble_eq_true rfl⟩ (by decide) rfl rfl rfl hl.1 (Nat.le_of_ble_eq_true rfl) dL_law_624 (fun x2 I2 J2 h2 => ?_)
  refine l_p (fun _ _ k => W.lcmp X.1.1 X.1.2.1 dL_law_627 k) ?_
  exact l_p (fun _ _ k => lv_if_eq (tgt := 1031) X.1.1 X.1.2.1 dL_law_628 (by decide) (fun _ => k) (fun q => absurd ((lg_cmp_eq _ _).mpr h2.1) q)) (kk I2 J2 h2.2)
set_option maxRecDepth 20000 in
theorem lc_15 (X : LX g p s m args meth c b L xs C0 S0) (hi : i + 4 ≤ L) (hl : lv_has ls 4 [(3, .int (nI i)), (2, .ref (gad g 8 0)), (1, .ref (gad g 7 0)), (0, .ref b)]) (hI : Inv I J) (kk : ∀ (I1 : MI) (J1 : MJ), Inv I1 J1 → WL p l e s m args below meth c Q g C0 S0 I1 J1 (F0 m 1031 ls [])) : WL p l e s m args below meth c Q g C0 S0 I J (F0 m 633 ls []) := by
  refine l_p (fun _ _ k => lv_aload_n X.1.1 X.1.2.1 dL_law_633 rfl (lv_at hl 2 rfl) k) ?_
  refine l_arg (k := 1) X (by omega) (lv_at hl 3 rfl) (lv_at hl 0 rfl) dL_law_634 dL_law_635 dL_law_636 (by decide) dL_law_637 dL_law_638 ?_
  refine l_arg (k := 2) X (by omega) (lv_at hl 3 rfl) (lv_at hl 0 rfl) dL_law_639 dL_law_640 dL_law_641 (by decide) dL_law_642 dL_law_643 ?_
  refine l_arg (k := 3) X (by omega) (lv_at hl 3 rfl) (lv_at hl 0 rfl) dL_law_644 dL_law_645 dL_law_646 (by decide) dL_law_647 dL_law_648 ?_
  refine l_cVl (t := 7) (r := 0) (ci := 7) (T0 := TX7) (N := 15) (As := [.int (xs (i + 1)), .int (xs (i + 2)), .int (xs (i + 3))]) (rest := []) X (c_X7_even (pr_even hI (xs (i + 1)) (xs (i + 2)) (xs (i + 3)))) ok_X7_even im_X7_even se_X7_even kw_RL_82 ⟨Nat.le_of_ble_eq_true rfl, Nat.le_of_ble_eq_true rfl⟩ (by decide) rfl rfl rfl hl.1 (Nat.le_of_ble_eq_true rfl) dL_law_649 (fun x I1 J1 h1 => ?_)
  refine l_p (fun _ _ k => lv_aload_n X.1.1 X.1.2.1 dL_law_652 rfl (lv_at hl 1 rfl) k) ?_
  refine l_arg (k := 1) X (by omega) (lv_at hl 3 rfl) (lv_at hl 0 rfl) dL_law_653 dL_law_654 dL_law_655 (by decide) dL_law_656 dL_law_657 ?_
  refine l_arg (k := 2) X (by omega) (lv_at hl 3 rfl) (lv_at hl 0 rfl) dL_law_658 dL_law_659 dL_law_660 (by decide) dL_law_661 dL_law_662 ?_
  refine l_arg (k := 3) X (by omega) (lv_at hl 3 rfl) (lv_at hl 0 rfl) dL_law_663 dL_law_664 dL_law_665 (by decide) dL_law_666 dL_law_667 ?_
  refine l_cVl (t := 8) (r := 0) (ci := 8) (T0 := TX8) (N := 25) (As := [.int (xs (i + 1)), .int (xs (i + 2)), .int (xs (i + 3))]) (rest := [.long x]) X (c_X8_even h1) ok_X8_even im_X8_even se_X8_even kw_RL_85 ⟨Nat.le_of_ble_eq_true rfl, Nat.le_of_ble_eq_true rfl⟩ (by decide) rfl rfl rfl hl.1 (Nat.le_of_ble_eq_true rfl) dL_law_668 (fun x2 I2 J2 h2 => ?_)
  refine l_p (fun _ _ k => W.lcmp X.1.1 X.1.2.1 dL_law_671 k) ?_
  exact l_p (fun _ _ k => lv_if_eq (tgt := 1031) X.1.1 X.1.2.1 dL_law_672 (by decide) (fun _ => k) (fun q => absurd ((lg_cmp_eq _ _).mpr h2.1) q)) (kk I2 J2 h2.2)
set_option maxRecDepth 20000 in
theorem lc_16 (X : LX g p s m args meth c b L xs C0 S0) (hi : i + 4 ≤ L) (hl : lv_has ls 4 [(3, .int (nI i)), (2, .ref (gad g 8 0)), (1, .ref (gad g 7 0)), (0, .ref b)]) (hI : Inv I J) (kk : ∀ (I1 : MI) (J1 : MJ), Inv I1 J1 → WL p l e s m args below meth c Q g C0 S0 I1 J1 (F0 m 1031 ls [])) : WL p l e s m args below meth c Q g C0 S0 I J (F0 m 677 ls []) := by
  refine l_p (fun _ _ k => lv_aload_n X.1.1 X.1.2.1 dL_law_677 rfl (lv_at hl 2 rfl) k) ?_
  refine l_arg (k := 1) X (by omega) (lv_at hl 3 rfl) (lv_at hl 0 rfl) dL_law_678 dL_law_679 dL_law_680 (by decide) dL_law_681 dL_law_682 ?_
  refine l_arg (k := 2) X (by omega) (lv_at hl 3 rfl) (lv_at hl 0 rfl) dL_law_683 dL_law_684 dL_law_685 (by decide) dL_law_686 dL_law_687 ?_
  refine l_arg (k := 3) X (by omega) (lv_at hl 3 rfl) (lv_at hl 0 rfl) dL_law_688 dL_law_689 dL_law_690 (by decide) dL_law_691 dL_law_692 ?_
  refine l_cVi (t := 7) (r := 0) (ci := 7) (T0 := TX7) (N := 15) (As := [.int (xs (i + 1)), .int (xs (i + 2)), .int (xs (i + 3))]) (rest := []) X (c_X7_good (pr_good hI (xs (i + 1)) (xs (i + 2)) (xs (i + 3)))) ok_X7_good im_X7_good se_X7_good kw_RL_86 ⟨Nat.le_of_ble_eq_true rfl, Nat.le_of_ble_eq_true rfl⟩ (by decide) rfl rfl rfl hl.1 (Nat.le_of_ble_eq_true rfl) dL_law_693 (fun x I1 J1 h1 => ?_)
  refine l_p (fun _ _ k => lv_aload_n X.1.1 X.1.2.1 dL_law_696 rfl (lv_at hl 1 rfl) k) ?_
  refine l_arg (k := 1) X (by omega) (lv_at hl 3 rfl) (lv_at hl 0 rfl) dL_law_697 dL_law_698 dL_law_699 (by decide) dL_law_700 dL_law_701 ?_
  refine l_arg (k := 2) X (by omega) (lv_at hl 3 rfl) (lv_at hl 0 rfl) dL_law_702 dL_law_703 dL_law_704 (by decide) dL_law_705 dL_law_706 ?_
  refine l_arg (k := 3) X (by omega) (lv_at hl 3 rfl) (lv_at hl 0 rfl) dL_law_707 dL_law_708 dL_law_709 (by decide) dL_law_710 dL_law_711 ?_
  refine l_cVi (t := 8) (r := 0) (ci := 8) (T0 := TX8) (N := 25) (As := [.int (xs (i + 1)), .int (xs (i + 2)), .int (xs (i + 3))]) (rest := [.int x]) X (c_X8_good h1) ok_X8_good im_X8_good se_X8_good kw_RL_89 ⟨Nat.le_of_ble_eq_true rfl, Nat.le_of_ble_eq_true rfl⟩ (by decide) rfl rfl rfl hl.1 (Nat.le_of_ble_eq_true rfl) dL_law_712 (fun x2 I2 J2 h2 => ?_)
  exact l_p (fun _ _ k => lv_icmp_eq (tgt := 1031) X.1.1 X.1.2.1 dL_law_715 (by decide) (fun _ => k) (fun q => absurd h2.1 q)) (kk I2 J2 h2.2)
set_option maxRecDepth 20000 in
theorem lc_17 (X : LX g p s m args meth c b L xs C0 S0) (hi : i + 4 ≤ L) (hl : lv_has ls 4 [(3, .int (nI i)), (2, .ref (gad g 8 0)), (1, .ref (gad g 7 0)), (0, .ref b)]) (hI : Inv I J) (kk : ∀ (I1 : MI) (J1 : MJ), Inv I1 J1 → WL p l e s m args below meth c Q g C0 S0 I1 J1 (F0 m 1031 ls [])) : WL p l e s m args below meth c Q g C0 S0 I J (F0 m 720 ls []) := by
  refine l_p (fun _ _ k => lv_aload_n X.1.1 X.1.2.1 dL_law_720 rfl (lv_at hl 2 rfl) k) ?_
  refine l_arg (k := 1) X (by omega) (lv_at hl 3 rfl) (lv_at hl 0 rfl) dL_law_721 dL_law_722 dL_law_723 (by decide) dL_law_724 dL_law_725 ?_
  refine l_arg (k := 2) X (by omega) (lv_at hl 3 rfl) (lv_at hl 0 rfl) dL_law_726 dL_law_727 dL_law_728 (by decide) dL_law_729 dL_law_730 ?_
  refine l_arg (k := 3) X (by omega) (lv_at hl 3 rfl) (lv_at hl 0 rfl) dL_law_731 dL_law_732 dL_law_733 (by decide) dL_law_734 dL_law_735 ?_
  refine l_cVi (t := 7) (r := 0) (ci := 7) (T0 := TX7) (N := 15) (As := [.int (xs (i + 1)), .int (xs (i + 2)), .int (xs (i + 3))]) (rest := []) X (c_X7_behind (pr_behind hI (xs (i + 1)) (xs (i + 2)) (xs (i + 3)))) ok_X7_behind im_X7_behind se_X7_behind kw_RL_90 ⟨Nat.le_of_ble_eq_true rfl, Nat.le_of_ble_eq_true rfl⟩ (by decide) rfl rfl rfl hl.1 (Nat.le_of_ble_eq_true rfl) dL_law_736 (fun x I1 J1 h1 => ?_)
  refine l_p (fun _ _ k => lv_aload_n X.1.1 X.1.2.1 dL_law_739 rfl (lv_at hl 1 rfl) k) ?_
  refine l_arg (k := 1) X (by omega) (lv_at hl 3 rfl) (lv_at hl 0 rfl) dL_law_740 dL_law_741 dL_law_742 (by decide) dL_law_743 dL_law_744 ?_
  refine l_arg (k := 2) X (by omega) (lv_at hl 3 rfl) (lv_at hl 0 rfl) dL_law_745 dL_law_746 dL_law_747 (by decide) dL_law_748 dL_law_749 ?_
  refine l_arg (k := 3) X (by omega) (lv_at hl 3 rfl) (lv_at hl 0 rfl) dL_law_750 dL_law_751 dL_law_752 (by decide) dL_law_753 dL_law_754 ?_
  refine l_cVi (t := 8) (r := 0) (ci := 8) (T0 := TX8) (N := 25) (As := [.int (xs (i + 1)), .int (xs (i + 2)), .int (xs (i + 3))]) (rest := [.int x]) X (c_X8_behind h1) ok_X8_behind im_X8_behind se_X8_behind kw_RL_93 ⟨Nat.le_of_ble_eq_true rfl, Nat.le_of_ble_eq_true rfl⟩ (by decide) rfl rfl rfl hl.1 (Nat.le_of_ble_eq_true rfl) dL_law_755 (fun x2 I2 J2 h2 => ?_)
  exact l_p (fun _ _ k => lv_icmp_eq (tgt := 1031) X.1.1 X.1.2.1 dL_law_758 (by decide) (fun _ => k) (fun q => absurd h2.1 q)) (kk I2 J2 h2.2)
set_option maxRecDepth 20000 in
theorem lc_18 (X : LX g p s m args meth c b L xs C0 S0) (hi : i + 4 ≤ L) (hl : lv_has ls 4 [(3, .int (nI i)), (2, .ref (gad g 8 0)), (1, .ref (gad g 7 0)), (0, .ref b)]) (hI : Inv I J) (kk : ∀ (I1 : MI) (J1 : MJ), Inv I1 J1 → WL p l e s m args below meth c Q g C0 S0 I1 J1 (F0 m 1031 ls [])) : WL p l e s m args below meth c Q g C0 S0 I J (F0 m 763 ls []) := by
  refine l_p (fun _ _ k => lv_aload_n X.1.1 X.1.2.1 dL_law_763 rfl (lv_at hl 2 rfl) k) ?_
  refine l_arg (k := 1) X (by omega) (lv_at hl 3 rfl) (lv_at hl 0 rfl) dL_law_764 dL_law_765 dL_law_766 (by decide) dL_law_767 dL_law_768 ?_
  refine l_arg (k := 2) X (by omega) (lv_at hl 3 rfl) (lv_at hl 0 rfl) dL_law_769 dL_law_770 dL_law_771 (by decide) dL_law_772 dL_law_773 ?_
  refine l_arg (k := 3) X (by omega) (lv_at hl 3 rfl) (lv_at hl 0 rfl) dL_law_774 dL_law_775 dL_law_776 (by decide) dL_law_777 dL_law_778 ?_
  refine l_cVi (t := 7) (r := 0) (ci := 7) (T0 := TX7) (N := 15) (As := [.int (xs (i + 1)), .int (xs (i + 2)), .int (xs (i + 3))]) (rest := []) X (c_X7_card (pr_card hI (xs (i + 1)) (xs (i + 2)) (xs (i + 3)))) ok_X7_card im_X7_card se_X7_card kw_RL_94 ⟨Nat.le_of_ble_eq_true rfl, Nat.le_of_ble_eq_true rfl⟩ (by decide) rfl rfl rfl hl.1 (Nat.le_of_ble_eq_true rfl) dL_law_779 (fun x I1 J1 h1 => ?_)
  refine l_p (fun _ _ k => lv_aload_n X.1.1 X.1.2.1 dL_law_782 rfl (lv_at hl 1 rfl) k) ?_
  refine l_arg (k := 1) X (by omega) (lv_at hl 3 rfl) (lv_at hl 0 rfl) dL_law_783 dL_law_784 dL_law_785 (by decide) dL_law_786 dL_law_787 ?_
  refine l_arg (k := 2) X (by omega) (lv_at hl 3 rfl) (lv_at hl 0 rfl) dL_law_788 dL_law_789 dL_law_790 (by decide) dL_law_791 dL_law_792 ?_
  refine l_arg (k := 3) X (by omega) (lv_at hl 3 rfl) (lv_at hl 0 rfl) dL_law_793 dL_law_794 dL_law_795 (by decide) dL_law_796 dL_law_797 ?_
  refine l_cVi (t := 8) (r := 0) (ci := 8) (T0 := TX8) (N := 25) (As := [.int (xs (i + 1)), .int (xs (i + 2)), .int (xs (i + 3))]) (rest := [.int x]) X (c_X8_card h1) ok_X8_card im_X8_card se_X8_card kw_RL_97 ⟨Nat.le_of_ble_eq_true rfl, Nat.le_of_ble_eq_true rfl⟩ (by decide) rfl rfl rfl hl.1 (Nat.le_of_ble_eq_true rfl) dL_law_798 (fun x2 I2 J2 h2 => ?_)
  exact l_p (fun _ _ k => lv_icmp_eq (tgt := 1031) X.1.1 X.1.2.1 dL_law_801 (by decide) (fun _ => k) (fun q => absurd h2.1 q)) (kk I2 J2 h2.2)
set_option maxRecDepth 20000 in
theorem lc_19 (X : LX g p s m args meth c b L xs C0 S0) (hi : i + 4 ≤ L) (hl : lv_has ls 4 [(3, .int (nI i)), (2, .ref (gad g 8 0)), (1, .ref (gad g 7 0)), (0, .ref b)]) (hI : Inv I J) (kk : ∀ (I1 : MI) (J1 : MJ), Inv I1 J1 → WL p l e s m args below meth c Q g C0 S0 I1 J1 (F0 m 1031 ls [])) : WL p l e s m args below meth c Q g C0 S0 I J (F0 m 806 ls []) := by
  refine l_p (fun _ _ k => lv_aload_n X.1.1 X.1.2.1 dL_law_806 rfl (lv_at hl 2 rfl) k) ?_
  refine l_arg (k := 1) X (by omega) (lv_at hl 3 rfl) (lv_at hl 0 rfl) dL_law_807 dL_law_808 dL_law_809 (by decide) dL_law_810 dL_law_811 ?_
  refine l_arg (k := 2) X (by omega) (lv_at hl 3 rfl) (lv_at hl 0 rfl) dL_law_812 dL_law_813 dL_law_814 (by decide) dL_law_815 dL_law_816 ?_
  refine l_arg (k := 3) X (by omega) (lv_at hl 3 rfl) (lv_at hl 0 rfl) dL_law_817 dL_law_818 dL_law_819 (by decide) dL_law_820 dL_law_821 ?_
  refine l_cVi (t := 7) (r := 0) (ci := 7) (T0 := TX7) (N := 15) (As := [.int (xs (i + 1)), .int (xs (i + 2)), .int (xs (i + 3))]) (rest := []) X (c_X7_plan (pr_plan hI (xs (i + 1)) (xs (i + 2)) (xs (i + 3)))) ok_X7_plan im_X7_plan se_X7_plan kw_RL_98 ⟨Nat.le_of_ble_eq_true rfl, Nat.le_of_ble_eq_true rfl⟩ (by decide) rfl rfl rfl hl.1 (Nat.le_of_ble_eq_true rfl) dL_law_822 (fun x I1 J1 h1 => ?_)
  refine l_p (fun _ _ k => lv_aload_n X.1.1 X.1.2.1 dL_law_825 rfl (lv_at hl 1 rfl) k) ?_
  refine l_arg (k := 1) X (by omega) (lv_at hl 3 rfl) (lv_at hl 0 rfl) dL_law_826 dL_law_827 dL_law_828 (by decide) dL_law_829 dL_law_830 ?_
  refine l_arg (k := 2) X (by omega) (lv_at hl 3 rfl) (lv_at hl 0 rfl) dL_law_831 dL_law_832 dL_law_833 (by decide) dL_law_834 dL_law_835 ?_
  refine l_arg (k := 3) X (by omega) (lv_at hl 3 rfl) (lv_at hl 0 rfl) dL_law_836 dL_law_837 dL_law_838 (by decide) dL_law_839 dL_law_840 ?_
  refine l_cVi (t := 8) (r := 0) (ci := 8) (T0 := TX8) (N := 25) (As := [.int (xs (i + 1)), .int (xs (i + 2)), .int (xs (i + 3))]) (rest := [.int x]) X (c_X8_plan h1) ok_X8_plan im_X8_plan se_X8_plan kw_RL_101 ⟨Nat.le_of_ble_eq_true rfl, Nat.le_of_ble_eq_true rfl⟩ (by decide) rfl rfl rfl hl.1 (Nat.le_of_ble_eq_true rfl) dL_law_841 (fun x2 I2 J2 h2 => ?_)
  exact l_p (fun _ _ k => lv_icmp_eq (tgt := 1031) X.1.1 X.1.2.1 dL_law_844 (by decide) (fun _ => k) (fun q => absurd h2.1 q)) (kk I2 J2 h2.2)
set_option maxRecDepth 20000 in
theorem lc_20 (X : LX g p s m args meth c b L xs C0 S0) (hi : i + 4 ≤ L) (hl : lv_has ls 4 [(3, .int (nI i)), (2, .ref (gad g 8 0)), (1, .ref (gad g 7 0)), (0, .ref b)]) (hI : Inv I J) (kk : ∀ (I1 : MI) (J1 : MJ), Inv I1 J1 → WL p l e s m args below meth c Q g C0 S0 I1 J1 (F0 m 1031 ls [])) : WL p l e s m args below meth c Q g C0 S0 I J (F0 m 849 ls []) := by
  refine l_p (fun _ _ k => lv_aload_n X.1.1 X.1.2.1 dL_law_849 rfl (lv_at hl 2 rfl) k) ?_
  refine l_arg (k := 1) X (by omega) (lv_at hl 3 rfl) (lv_at hl 0 rfl) dL_law_850 dL_law_851 dL_law_852 (by decide) dL_law_853 dL_law_854 ?_
  refine l_arg (k := 2) X (by omega) (lv_at hl 3 rfl) (lv_at hl 0 rfl) dL_law_855 dL_law_856 dL_law_857 (by decide) dL_law_858 dL_law_859 ?_
  refine l_cVi (t := 7) (r := 0) (ci := 7) (T0 := TX7) (N := 15) (As := [.int (xs (i + 1)), .int (xs (i + 2))]) (rest := []) X (c_X7_hull (pr_hull hI (xs (i + 1)) (xs (i + 2)))) ok_X7_hull im_X7_hull se_X7_hull kw_RL_102 ⟨Nat.le_of_ble_eq_true rfl, Nat.le_of_ble_eq_true rfl⟩ (by decide) rfl rfl rfl hl.1 (Nat.le_of_ble_eq_true rfl) dL_law_860 (fun x I1 J1 h1 => ?_)
  refine l_p (fun _ _ k => lv_aload_n X.1.1 X.1.2.1 dL_law_863 rfl (lv_at hl 1 rfl) k) ?_
  refine l_arg (k := 1) X (by omega) (lv_at hl 3 rfl) (lv_at hl 0 rfl) dL_law_864 dL_law_865 dL_law_866 (by decide) dL_law_867 dL_law_868 ?_
  refine l_arg (k := 2) X (by omega) (lv_at hl 3 rfl) (lv_at hl 0 rfl) dL_law_869 dL_law_870 dL_law_871 (by decide) dL_law_872 dL_law_873 ?_
  refine l_cVi (t := 8) (r := 0) (ci := 8) (T0 := TX8) (N := 25) (As := [.int (xs (i + 1)), .int (xs (i + 2))]) (rest := [.int x]) X (c_X8_hull h1) ok_X8_hull im_X8_hull se_X8_hull kw_RL_105 ⟨Nat.le_of_ble_eq_true rfl, Nat.le_of_ble_eq_true rfl⟩ (by decide) rfl rfl rfl hl.1 (Nat.le_of_ble_eq_true rfl) dL_law_874 (fun x2 I2 J2 h2 => ?_)
  exact l_p (fun _ _ k => lv_icmp_eq (tgt := 1031) X.1.1 X.1.2.1 dL_law_877 (by decide) (fun _ => k) (fun q => absurd h2.1 q)) (kk I2 J2 h2.2)
set_option maxRecDepth 20000 in
theorem lc_21 (X : LX g p s m args meth c b L xs C0 S0) (hi : i + 4 ≤ L) (hl : lv_has ls 4 [(3, .int (nI i)), (2, .ref (gad g 8 0)), (1, .ref (gad g 7 0)), (0, .ref b)]) (hI : Inv I J) (kk : ∀ (I1 : MI) (J1 : MJ), Inv I1 J1 → WL p l e s m args below meth c Q g C0 S0 I1 J1 (F0 m 1031 ls [])) : WL p l e s m args below meth c Q g C0 S0 I J (F0 m 882 ls []) := by
  refine l_p (fun _ _ k => lv_aload_n X.1.1 X.1.2.1 dL_law_882 rfl (lv_at hl 2 rfl) k) ?_
  refine l_arg (k := 1) X (by omega) (lv_at hl 3 rfl) (lv_at hl 0 rfl) dL_law_883 dL_law_884 dL_law_885 (by decide) dL_law_886 dL_law_887 ?_
  refine l_arg (k := 2) X (by omega) (lv_at hl 3 rfl) (lv_at hl 0 rfl) dL_law_888 dL_law_889 dL_law_890 (by decide) dL_law_891 dL_law_892 ?_
  refine l_cVi (t := 7) (r := 0) (ci := 7) (T0 := TX7) (N := 15) (As := [.int (xs (i + 1)), .int (xs (i + 2))]) (rest := []) X (c_X7_beats (pr_beats hI (xs (i + 1)) (xs (i + 2)))) ok_X7_beats im_X7_beats se_X7_beats kw_RL_106 ⟨Nat.le_of_ble_eq_true rfl, Nat.le_of_ble_eq_true rfl⟩ (by decide) rfl rfl rfl hl.1 (Nat.le_of_ble_eq_true rfl) dL_law_893 (fun x I1 J1 h1 => ?_)
  refine l_p (fun _ _ k => lv_aload_n X.1.1 X.1.2.1 dL_law_896 rfl (lv_at hl 1 rfl) k) ?_
  refine l_arg (k := 1) X (by omega) (lv_at hl 3 rfl) (lv_at hl 0 rfl) dL_law_897 dL_law_898 dL_law_899 (by decide) dL_law_900 dL_law_901 ?_
  refine l_arg (k := 2) X (by omega) (lv_at hl 3 rfl) (lv_at hl 0 rfl) dL_law_902 dL_law_903 dL_law_904 (by decide) dL_law_905 dL_law_906 ?_
  refine l_cVi (t := 8) (r := 0) (ci := 8) (T0 := TX8) (N := 25) (As := [.int (xs (i + 1)), .int (xs (i + 2))]) (rest := [.int x]) X (c_X8_beats h1) ok_X8_beats im_X8_beats se_X8_beats kw_RL_109 ⟨Nat.le_of_ble_eq_true rfl, Nat.le_of_ble_eq_true rfl⟩ (by decide) rfl rfl rfl hl.1 (Nat.le_of_ble_eq_true rfl) dL_law_907 (fun x2 I2 J2 h2 => ?_)
  exact l_p (fun _ _ k => lv_icmp_eq (tgt := 1031) X.1.1 X.1.2.1 dL_law_910 (by decide) (fun _ => k) (fun q => absurd h2.1 q)) (kk I2 J2 h2.2)
set_option maxRecDepth 20000 in
theorem lc_22 (X : LX g p s m args meth c b L xs C0 S0) (hi : i + 4 ≤ L) (hl : lv_has ls 4 [(3, .int (nI i)), (2, .ref (gad g 8 0)), (1, .ref (gad g 7 0)), (0, .ref b)]) (hI : Inv I J) (kk : ∀ (I1 : MI) (J1 : MJ), Inv I1 J1 → WL p l e s m args below meth c Q g C0 S0 I1 J1 (F0 m 1031 ls [])) : WL p l e s m args below meth c Q g C0 S0 I J (F0 m 915 ls []) := by
  refine l_p (fun _ _ k => lv_aload_n X.1.1 X.1.2.1 dL_law_915 rfl (lv_at hl 2 rfl) k) ?_
  refine l_arg (k := 1) X (by omega) (lv_at hl 3 rfl) (lv_at hl 0 rfl) dL_law_916 dL_law_917 dL_law_918 (by decide) dL_law_919 dL_law_920 ?_
  refine l_arg (k := 2) X (by omega) (lv_at hl 3 rfl) (lv_at hl 0 rfl) dL_law_921 dL_law_922 dL_law_923 (by decide) dL_law_924 dL_law_925 ?_
  refine l_cVi (t := 7) (r := 0) (ci := 7) (T0 := TX7) (N := 15) (As := [.int (xs (i + 1)), .int (xs (i + 2))]) (rest := []) X (c_X7_reading (pr_reading hI (xs (i + 1)) (xs (i + 2)))) ok_X7_reading im_X7_reading se_X7_reading kw_RL_110 ⟨Nat.le_of_ble_eq_true rfl, Nat.le_of_ble_eq_true rfl⟩ (by decide) rfl rfl rfl hl.1 (Nat.le_of_ble_eq_true rfl) dL_law_926 (fun x I1 J1 h1 => ?_)
  refine l_p (fun _ _ k => lv_aload_n X.1.1 X.1.2.1 dL_law_929 rfl (lv_at hl 1 rfl) k) ?_
  refine l_arg (k := 1) X (by omega) (lv_at hl 3 rfl) (lv_at hl 0 rfl) dL_law_930 dL_law_931 dL_law_932 (by decide) dL_law_933 dL_law_934 ?_
  refine l_arg (k := 2) X (by omega) (lv_at hl 3 rfl) (lv_at hl 0 rfl) dL_law_935 dL_law_936 dL_law_937 (by decide) dL_law_938 dL_law_939 ?_
  refine l_cVi (t := 8) (r := 0) (ci := 8) (T0 := TX8) (N := 25) (As := [.int (xs (i + 1)), .int (xs (i + 2))]) (rest := [.int x]) X (c_X8_reading h1) ok_X8_reading im_X8_reading se_X8_reading kw_RL_113 ⟨Nat.le_of_ble_eq_true rfl, Nat.le_of_ble_eq_true rfl⟩ (by decide) rfl rfl rfl hl.1 (Nat.le_of_ble_eq_true rfl) dL_law_940 (fun x2 I2 J2 h2 => ?_)
  exact l_p (fun _ _ k => lv_icmp_eq (tgt := 1031) X.1.1 X.1.2.1 dL_law_943 (by decide) (fun _ => k) (fun q => absurd h2.1 q)) (kk I2 J2 h2.2)
set_option maxRecDepth 20000 in
theorem lc_23 (X : LX g p s m args meth c b L xs C0 S0) (hi : i + 4 ≤ L) (hl : lv_has ls 4 [(3, .int (nI i)), (2, .ref (gad g 8 0)), (1, .ref (gad g 7 0)), (0, .ref b)]) (hI : Inv I J) (kk : ∀ (I1 : MI) (J1 : MJ), Inv I1 J1 → WL p l e s m args below meth c Q g C0 S0 I1 J1 (F0 m 1031 ls [])) : WL p l e s m args below meth c Q g C0 S0 I J (F0 m 948 ls []) := by
  refine l_p (fun _ _ k => lv_aload_n X.1.1 X.1.2.1 dL_law_948 rfl (lv_at hl 2 rfl) k) ?_
  refine l_arg (k := 1) X (by omega) (lv_at hl 3 rfl) (lv_at hl 0 rfl) dL_law_949 dL_law_950 dL_law_951 (by decide) dL_law_952 dL_law_953 ?_
  refine l_cVi (t := 7) (r := 0) (ci := 7) (T0 := TX7) (N := 15) (As := [.int (xs (i + 1))]) (rest := []) X (c_X7_keep (pr_keep hI (xs (i + 1)))) ok_X7_keep im_X7_keep se_X7_keep kw_RL_114 ⟨Nat.le_of_ble_eq_true rfl, Nat.le_of_ble_eq_true rfl⟩ (by decide) rfl rfl rfl hl.1 (Nat.le_of_ble_eq_true rfl) dL_law_954 (fun x I1 J1 h1 => ?_)
  refine l_p (fun _ _ k => lv_aload_n X.1.1 X.1.2.1 dL_law_957 rfl (lv_at hl 1 rfl) k) ?_
  refine l_arg (k := 1) X (by omega) (lv_at hl 3 rfl) (lv_at hl 0 rfl) dL_law_958 dL_law_959 dL_law_960 (by decide) dL_law_961 dL_law_962 ?_
  refine l_cVi (t := 8) (r := 0) (ci := 8) (T0 := TX8) (N := 25) (As := [.int (xs (i + 1))]) (rest := [.int x]) X (c_X8_keep h1) ok_X8_keep im_X8_keep se_X8_keep kw_RL_117 ⟨Nat.le_of_ble_eq_true rfl, Nat.le_of_ble_eq_true rfl⟩ (by decide) rfl rfl rfl hl.1 (Nat.le_of_ble_eq_true rfl) dL_law_963 (fun x2 I2 J2 h2 => ?_)
  exact l_p (fun _ _ k => lv_icmp_eq (tgt := 1031) X.1.1 X.1.2.1 dL_law_966 (by decide) (fun _ => k) (fun q => absurd h2.1 q)) (kk I2 J2 h2.2)
set_option maxRecDepth 20000 in
theorem lc_24 (X : LX g p s m args meth c b L xs C0 S0) (hi : i + 4 ≤ L) (hl : lv_has ls 4 [(3, .int (nI i)), (2, .ref (gad g 8 0)), (1, .ref (gad g 7 0)), (0, .ref b)]) (hI : Inv I J) (kk : ∀ (I1 : MI) (J1 : MJ), Inv I1 J1 → WL p l e s m args below meth c Q g C0 S0 I1 J1 (F0 m 1031 ls [])) : WL p l e s m args below meth c Q g C0 S0 I J (F0 m 971 ls []) := by
  refine l_p (fun _ _ k => lv_aload_n X.1.1 X.1.2.1 dL_law_971 rfl (lv_at hl 2 rfl) k) ?_
  refine l_arg (k := 1) X (by omega) (lv_at hl 3 rfl) (lv_at hl 0 rfl) dL_law_972 dL_law_973 dL_law_974 (by decide) dL_law_975 dL_law_976 ?_
  refine l_cVi (t := 7) (r := 0) (ci := 7) (T0 := TX7) (N := 15) (As := [.int (xs (i + 1))]) (rest := []) X (c_X7_back (pr_back hI (xs (i + 1)))) ok_X7_back im_X7_back se_X7_back kw_RL_118 ⟨Nat.le_of_ble_eq_true rfl, Nat.le_of_ble_eq_true rfl⟩ (by decide) rfl rfl rfl hl.1 (Nat.le_of_ble_eq_true rfl) dL_law_977 (fun x I1 J1 h1 => ?_)
  refine l_p (fun _ _ k => lv_aload_n X.1.1 X.1.2.1 dL_law_980 rfl (lv_at hl 1 rfl) k) ?_
  refine l_arg (k := 1) X (by omega) (lv_at hl 3 rfl) (lv_at hl 0 rfl) dL_law_981 dL_law_982 dL_law_983 (by decide) dL_law_984 dL_law_985 ?_
  refine l_cVi (t := 8) (r := 0) (ci := 8) (T0 := TX8) (N := 25) (As := [.int (xs (i + 1))]) (rest := [.int x]) X (c_X8_back h1) ok_X8_back im_X8_back se_X8_back kw_RL_121 ⟨Nat.le_of_ble_eq_true rfl, Nat.le_of_ble_eq_true rfl⟩ (by decide) rfl rfl rfl hl.1 (Nat.le_of_ble_eq_true rfl) dL_law_986 (fun x2 I2 J2 h2 => ?_)
  exact l_p (fun _ _ k => lv_icmp_eq (tgt := 1031) X.1.1 X.1.2.1 dL_law_989 (by decide) (fun _ => k) (fun q => absurd h2.1 q)) (kk I2 J2 h2.2)
set_option maxRecDepth 20000 in
theorem lc_25 (X : LX g p s m args meth c b L xs C0 S0) (hi : i + 4 ≤ L) (hl : lv_has ls 4 [(3, .int (nI i)), (2, .ref (gad g 8 0)), (1, .ref (gad g 7 0)), (0, .ref b)]) (hI : Inv I J) (kk : ∀ (I1 : MI) (J1 : MJ), Inv I1 J1 → WL p l e s m args below meth c Q g C0 S0 I1 J1 (F0 m 1031 ls [])) : WL p l e s m args below meth c Q g C0 S0 I J (F0 m 994 ls []) := by
  refine l_p (fun _ _ k => lv_aload_n X.1.1 X.1.2.1 dL_law_994 rfl (lv_at hl 2 rfl) k) ?_
  refine l_arg (k := 1) X (by omega) (lv_at hl 3 rfl) (lv_at hl 0 rfl) dL_law_995 dL_law_996 dL_law_997 (by decide) dL_law_998 dL_law_999 ?_
  refine l_cVi (t := 7) (r := 0) (ci := 7) (T0 := TX7) (N := 15) (As := [.int (xs (i + 1))]) (rest := []) X (c_X7_count (pr_count hI (xs (i + 1)))) ok_X7_count im_X7_count se_X7_count kw_RL_122 ⟨Nat.le_of_ble_eq_true rfl, Nat.le_of_ble_eq_true rfl⟩ (by decide) rfl rfl rfl hl.1 (Nat.le_of_ble_eq_true rfl) dL_law_1000 (fun x I1 J1 h1 => ?_)
  refine l_p (fun _ _ k => lv_aload_n X.1.1 X.1.2.1 dL_law_1003 rfl (lv_at hl 1 rfl) k) ?_
  refine l_arg (k := 1) X (by omega) (lv_at hl 3 rfl) (lv_at hl 0 rfl) dL_law_1004 dL_law_1005 dL_law_1006 (by decide) dL_law_1007 dL_law_1008 ?_
  refine l_cVi (t := 8) (r := 0) (ci := 8) (T0 := TX8) (N := 25) (As := [.int (xs (i + 1))]) (rest := [.int x]) X (c_X8_count h1) ok_X8_count im_X8_count se_X8_count kw_RL_125 ⟨Nat.le_of_ble_eq_true rfl, Nat.le_of_ble_eq_true rfl⟩ (by decide) rfl rfl rfl hl.1 (Nat.le_of_ble_eq_true rfl) dL_law_1009 (fun x2 I2 J2 h2 => ?_)
  exact l_p (fun _ _ k => lv_icmp_eq (tgt := 1031) X.1.1 X.1.2.1 dL_law_1012 (by decide) (fun _ => k) (fun q => absurd h2.1 q)) (kk I2 J2 h2.2)
set_option maxRecDepth 20000 in
theorem lc_26 (X : LX g p s m args meth c b L xs C0 S0) (hi : i + 4 ≤ L) (hl : lv_has ls 4 [(3, .int (nI i)), (2, .ref (gad g 8 0)), (1, .ref (gad g 7 0)), (0, .ref b)]) (hI : Inv I J) (kk : ∀ (I1 : MI) (J1 : MJ), Inv I1 J1 → WL p l e s m args below meth c Q g C0 S0 I1 J1 (F0 m 1031 ls [])) : WL p l e s m args below meth c Q g C0 S0 I J (F0 m 1017 ls []) := by
  refine l_p (fun _ _ k => lv_aload_n X.1.1 X.1.2.1 dL_law_1017 rfl (lv_at hl 2 rfl) k) ?_
  refine l_cVl (t := 7) (r := 0) (ci := 7) (T0 := TX7) (N := 15) (As := []) (rest := []) X (c_X7_trace (pr_trace hI )) ok_X7_trace im_X7_trace se_X7_trace kw_RL_126 ⟨Nat.le_of_ble_eq_true rfl, Nat.le_of_ble_eq_true rfl⟩ (by decide) rfl rfl rfl hl.1 (Nat.le_of_ble_eq_true rfl) dL_law_1018 (fun x I1 J1 h1 => ?_)
  refine l_p (fun _ _ k => lv_aload_n X.1.1 X.1.2.1 dL_law_1021 rfl (lv_at hl 1 rfl) k) ?_
  refine l_cVl (t := 8) (r := 0) (ci := 8) (T0 := TX8) (N := 25) (As := []) (rest := [.long x]) X (c_X8_trace h1) ok_X8_trace im_X8_trace se_X8_trace kw_RL_130 ⟨Nat.le_of_ble_eq_true rfl, Nat.le_of_ble_eq_true rfl⟩ (by decide) rfl rfl rfl hl.1 (Nat.le_of_ble_eq_true rfl) dL_law_1022 (fun x2 I2 J2 h2 => ?_)
  refine l_p (fun _ _ k => W.lcmp X.1.1 X.1.2.1 dL_law_1025 k) ?_
  exact l_p (fun _ _ k => lv_if_eq (tgt := 1031) X.1.1 X.1.2.1 dL_law_1026 (by decide) (fun _ => k) (fun q => absurd ((lg_cmp_eq _ _).mpr h2.1) q)) (kk I2 J2 h2.2)
end LAW
