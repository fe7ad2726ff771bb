/-! constructors: worlds that grow -/
section PM
variable {D : va_G} {cl : List vw_C} {ws ws' : va_W} {H : Heap} {A : Nat → Prop}
theorem va_P.mem (h : va_P D cl ws H) {q : Nat × va_E} (hq : q ∈ ws) : va_at D cl q H := by
  obtain ⟨k, hk⟩ := List.mem_iff_getElem?.mp hq
  exact h k q hk
theorem va_P.ofMem (h : ∀ q ∈ ws, va_at D cl q H) : va_P D cl ws H := fun _ q hk => h q (List.mem_of_getElem? hk)
theorem va_P.perm (h : va_P D cl ws H) (hp : ws.Perm ws') : va_P D cl ws' H := va_P.ofMem (fun _ hq => h.mem (hp.mem_iff.mpr hq))
theorem va_D.nd : va_D A ws ↔ (ws.map Prod.fst).Nodup ∧ ∀ q ∈ ws, A q.1 := by
  constructor
  · intro h
    refine ⟨?_, fun q hq => by obtain ⟨k, hk⟩ := List.mem_iff_getElem?.mp hq; exact h.2 k q hk⟩
    rw [List.Nodup, List.pairwise_iff_getElem]
    intro i j hi hj hij e
    rw [List.length_map] at hi hj
    rw [List.getElem_map, List.getElem_map] at e
    have := h.1 i j _ _ (List.getElem?_eq_getElem hi) (List.getElem?_eq_getElem hj) e
    omega
  · intro ⟨h1, h2⟩
    rw [List.Nodup, List.pairwise_iff_getElem] at h1
    refine ⟨fun i j p q hi hj e => ?_, fun k q hk => h2 q (List.mem_of_getElem? hk)⟩
    obtain ⟨hi', ei⟩ := List.getElem?_eq_some_iff.mp hi
    obtain ⟨hj', ej⟩ := List.getElem?_eq_some_iff.mp hj
    rcases Nat.lt_trichotomy i j with c | c | c
    · exact absurd (by rw [List.getElem_map, List.getElem_map, ei, ej]; exact e) (h1 i j (by rw [List.length_map]; exact hi') (by rw [List.length_map]; exact hj') c)
    · exact c
    · exact absurd (by rw [List.getElem_map, List.getElem_map, ei, ej]; exact e.symm) (h1 j i (by rw [List.length_map]; exact hj') (by rw [List.length_map]; exact hi') c)
theorem va_D.perm (h : va_D A ws) (hp : ws.Perm ws') : va_D A ws' := by
  rw [va_D.nd] at h ⊢
  exact ⟨(hp.map Prod.fst).nodup_iff.mp h.1, fun q hq => h.2 q (hp.mem_iff.mpr hq)⟩
theorem pm_ins {α : Type} (a b : List α) (x : α) : ((a ++ b) ++ [x]).Perm (a ++ x :: b) := by
  rw [List.append_assoc]
  exact List.Perm.append_left a (List.perm_append_singleton x b)
end PM
def GX (g : Geo) (U : State) : Prop := GK g U ∧ va_AO RX4 U ∧ va_AO RX6 U
def ST (g : Geo) (A : Nat → Prop) (U : State) (H : Heap) : Prop := va_Z (stC 0) (stN 0) "[I" (.ref (gs g 0)) A U H ∧ va_T .int (gs g 0) 6 (fun j => .int (stV 0 j)) A U H
def Zx (g : Geo) (p : Program) (s : State) (m : MethodId) (args : Array Value) (meth : Method) (c : Code) (cc : ByteArray) (nL : Nat) (own : String) (A : Nat → Prop) : Prop := p.tables.exec = Jvm.exec ∧ c.code = cc ∧ c.maxLocals = nL ∧ s.vm.findClass own = some m.cls ∧ (∀ w ∈ wG, w.before args s = true) ∧ GX g s ∧ ST g A s s.heap ∧ (∀ q, s.heap.size ≤ q → A q) ∧ meth.locks = false ∧ (own ≠ "EvenStrideLaw" → meth.sig.returnType = none)
def Wz (p : Program) (l : Launch) (e : Env) (R : Room) (s : State) (m : MethodId) (args : Array Value) (below : List Frame) (meth : Method) (c : Code) (Q : State → Prop) (g : Geo) (A : Nat → Prop) (ws : va_W) (cells slots : Nat) (fr : JFrame) : Prop := ∀ (H : Heap) (locs : List Loc), va_P (gD g) vwCl ws H → va_D A ws → va_S A s.heap H locs → W p l e R s m args below meth c H locs cells slots Q fr
def Kp (g : Geo) (w0 : va_W) (sz : Nat) (U : State) : Prop := U.heap.size = sz ∧ va_P (gD g) vwCl w0 U.heap ∧ va_D (fun _ => True) w0 ∧ GX g U ∧ ST g (va_A w0 sz) U U.heap
def KB (g : Geo) (w0 : va_W) (sz : Nat) (w1 : va_W) (t : State) : Prop := va_P (gD g) vwCl w1 t.heap ∧ va_D (va_A w0 sz) w1
/-- a constructor's contract: from the cells w0 to cells w1 with P -/
def Kc (g : Geo) (l : Launch) (y : MethodName) (cc : ByteArray) (nL fr lo mc ms h0 : Nat) (w0 : va_W) (P : va_W → Prop) : Prop := ∀ sz : Nat, Met l y (Cond.code y cc nL none :: wG) { frames := fr, cells := mc, slots := ms, locals := lo } (va_Pc [.ref h0] (Kp g w0 sz)) (va_Qv P (KB g w0 sz) (va_A w0 sz)) mc ms (va_A w0 sz)
theorem Kc.of {g : Geo} {l : Launch} {y : MethodName} {cc : ByteArray} {nL fr lo mc ms h0 : Nat} {w0 : va_W} {P : va_W → Prop} (hy : plainName y.cls = true)
    (body : ∀ (p : Program) (e : Env) (s : State) (m : MethodId) (below : List Frame) (meth : Method) (c : Code) (A : Nat → Prop) (Qc : Array Value → State → Outcome → State → Prop), Zx g p s m ([.ref h0] : List Value).toArray meth c cc nL y.cls A → meth.name = y.name → (∀ (H : Heap) (t : State) (w1 : va_W), P w1 → va_P (gD g) vwCl w1 t.heap → va_D A w1 → va_F A s t → Qc ([.ref h0] : List Value).toArray s (.returned none) t) → Wz p l e { frames := fr, cells := mc, slots := ms, locals := lo } s m ([.ref h0] : List Value).toArray below meth c (MQ below Qc ([.ref h0] : List Value).toArray s mc ms A) g A w0 0 0 (entryFrame m ([.ref h0] : List Value).toArray nL)) : Kc g l y cc nL fr lo mc ms h0 w0 P := by
  intro sz
  refine Met.ofW (cc := cc) (maxL := nL) (ret := none) hy rfl ?_
  intro p e s m args below meth c s₁ B hml hv
  obtain ⟨rfl, hsz, hP, hD, hX, hST⟩ := hv
  subst hsz
  have hts := atoms_spec (ws := Cond.code y cc nL none :: wG) B.pre
  exact body p e s m below meth c (va_A w0 s.heap.size) _ ⟨B.exec, B.bytes, hml, findClass_of_methodNamed B.named, fun w h => hts w (List.mem_cons_of_mem _ h), hX, hST, fun q h => Or.inr h, B.notSynchronized, fun _ => B.returns⟩ (name_of_methodNamed B.named B.method).1 (fun _ t w1 h1 h2 h3 h4 => ⟨⟨w1, rfl, h1, h2, h3⟩, h4⟩) s.heap [] hP hD.self va_S.rf
theorem Kp.blind (g : Geo) (w0 : va_W) (sz : Nat) (av : List Value) : FrameBlind (va_Pc av (Kp g w0 sz)) := fun a U f mk q => by
  obtain ⟨q1, q2, q3, q4, ⟨⟨k1, k2⟩, k3, k4⟩, k5, k6⟩ := q
  exact ⟨q1, q2, q3, q4, ⟨⟨va_K.moved (u := U) (U := U.calling f mk a) (Vm.Alike.refl U.vm) k1, fun x hx => va_Nw.same rfl (u := U) (U := U.calling f mk a) rfl (k2 x hx)⟩, k3.moved (u := U) (U := U.calling f mk a) (Vm.Alike.refl U.vm), k4.moved (u := U) (U := U.calling f mk a) (Vm.Alike.refl U.vm)⟩, k5.moved (u := U) (U := U.calling f mk a) (Vm.Alike.refl U.vm), k6.moved (u := U) (U := U.calling f mk a) (Vm.Alike.refl U.vm)⟩
section ZR
variable {p : Program} {l : Launch} {e : Env} {R : Room} {s : State} {m : MethodId} {args : Array Value} {below : List Frame} {meth : Method} {c : Code} {Q : State → Prop} {g : Geo} {cc : ByteArray} {nL0 : Nat} {own : String} {pc : Nat} {ls : Array Slot} {rest : List Value} {A : Nat → Prop} {ws : va_W} {cells slots : Nat}
theorem z_p {fr fr' : JFrame} (h : ∀ (H : Heap) (locs : List Loc), W p l e R s m args below meth c H locs cells slots Q fr' → W p l e R s m args below meth c H locs cells slots Q fr) (kk : Wz p l e R s m args below meth c Q g A ws cells slots fr') : Wz p l e R s m args below meth c Q g A ws cells slots fr := fun H locs a b d => h H locs (kk H locs a b d)
theorem z_wd {fr : JFrame} {k n : Nat} (h1 : cells ≤ k) (h2 : slots ≤ n) (kk : Wz p l e R s m args below meth c Q g A ws k n fr) : Wz p l e R s m args below meth c Q g A ws cells slots fr := fun H locs a b d => W.widen h1 h2 (kk H locs a b d)
theorem z_perm {fr : JFrame} {ws' : va_W} (hp : ws.Perm ws') (kk : Wz p l e R s m args below meth c Q g A ws' cells slots fr) : Wz p l e R s m args below meth c Q g A ws cells slots fr := fun H locs a b d => kk H locs (a.perm hp) (b.perm hp) d
theorem z_new {C : String} {T : u_T} {N ci index : Nat} {fs : List Value} (Z : Zx g p s m args meth c cc nL0 own A) (hin : ∀ w ∈ u_ws C T N, w ∈ wG) (ty : Nat → FieldType) (hty : ∀ k, k < N → parseFieldDescriptor (T k).2.2.1 = some (ty k)) (hcl : Cond.classLink own index C ∈ wG) (hinst : Cond.instantiable C N ∈ wG) (hini : Cond.initialized C ∈ wG) (hc : vwCl[ci]? = some (C, T, N)) (hfs : ∀ j, j < N → defaultValue (ty j) = vp_V fs j) (hcells : cells + 1 ≤ R.cells) (hslots : slots + N ≤ R.slots) (hdg : decode cc pc = .ok (.new index, 3)) (pre post : va_W)
    (kk : ∀ q : Nat, Wz p l e R s m args below meth c Q g A (pre ++ (q, .inr (ci, fs)) :: post) (cells + 1) (slots + N) (F0 m (pc + 3) ls (.ref q :: rest))) : Wz p l e R s m args below meth c Q g A (pre ++ post) cells slots (F0 m pc ls rest) := fun H locs hP hD hS => by
  obtain ⟨hx, hb, hml, hown, hts, hX, hst, hA, -, -⟩ := Z
  exact va_new hx hb hts hin ty hty hown (hts _ hcl) (hts _ hinst) (hts _ hini) hX.1.1 hP hD hS hA hc hfs hcells hslots hdg (fun q H1 hP1 hD1 hS1 => kk q H1 locs (hP1.perm (pm_ins _ _ _)) (hD1.perm (pm_ins _ _ _)) hS1)
theorem z_newa {atype : ArrayType} {ty : FieldType} {t0 : Nat} {cA0 : ClassId} {a0 : vp_A} {n : Int32} {N : Nat} (Z : Zx g p s m args meth c cc nL0 own A) (hac : Cond.arrayClass (newarray.typeOf atype) ∈ wG) (hty : newarray.typeOf atype = ty) (ht : (gtys g)[t0]? = some (cA0, ty)) (hno : ∀ (U : State) (cA : ClassId), va_RA U cA ty → U.vm.findClass ("[" ++ ty.toString) = some cA) (ha : ∀ cA : ClassId, vp_cell cA a0 = arrV cA N (fun _ => defaultValue ty)) (hn : ¬ n < 0) (hN : n.toNatClampNeg = N) (hbytes : N * componentBytes ty ≤ 536870912) (hcells : cells + 1 ≤ R.cells) (hslots : slots + N ≤ R.slots) (hdg : decode cc pc = .ok (.newarray atype, 2)) (pre post : va_W)
    (kk : ∀ q : Nat, Wz p l e R s m args below meth c Q g A (pre ++ (q, .inl (cA0, a0)) :: post) (cells + 1) (slots + N) (F0 m (pc + 2) ls (.ref q :: rest))) : Wz p l e R s m args below meth c Q g A (pre ++ post) cells slots (F0 m pc ls (.int n :: rest)) := fun H locs hP hD hS => by
  obtain ⟨hx, hb, hml, hown, hts, hX, hst, hA, -, -⟩ := Z
  refine va_newa hx hb (hts _ hac) hty hX.1.1 hP hD hS hA ha hn hN hbytes hcells hslots hdg (fun q cA H1 hK1 hP1 hD1 hS1 => ?_)
  have e1 := hno s cA (hK1.2 5 (cA, ty) rfl).2
  have e2 := hno s cA0 (hX.1.1.2 t0 _ ht).2
  obtain rfl : cA = cA0 := Option.some.inj (e1.symm.trans e2)
  exact kk q H1 locs (hP1.perm (pm_ins _ _ _)) (hD1.perm (pm_ins _ _ _)) hS1
theorem z_newI {n : Int32} {N : Nat} (Z : Zx g p s m args meth c cc nL0 own A) (hac : Cond.arrayClass .int ∈ wG) (hn : ¬ n < 0) (hN : n.toNatClampNeg = N) (hbytes : N * 4 ≤ 536870912) (hcells : cells + 1 ≤ R.cells) (hslots : slots + N ≤ R.slots) (hdg : decode cc pc = .ok (.newarray .int, 2)) (pre post : va_W)
    (kk : ∀ q : Nat, Wz p l e R s m args below meth c Q g A (pre ++ (q, .inl (gc g 0, N, .inl (fun _ => 0))) :: post) (cells + 1) (slots + N) (F0 m (pc + 2) ls (.ref q :: rest))) : Wz p l e R s m args below meth c Q g A (pre ++ post) cells slots (F0 m pc ls (.int n :: rest)) :=
  z_newa (atype := .int) (ty := .int) (t0 := 0) (a0 := (N, .inl (fun _ => 0))) Z hac rfl rfl (fun _ _ h => h) (fun _ => rfl) hn hN hbytes hcells hslots hdg pre post kk
theorem z_newL {n : Int32} {N : Nat} (Z : Zx g p s m args meth c cc nL0 own A) (hac : Cond.arrayClass .long ∈ wG) (hn : ¬ n < 0) (hN : n.toNatClampNeg = N) (hbytes : N * 8 ≤ 536870912) (hcells : cells + 1 ≤ R.cells) (hslots : slots + N ≤ R.slots) (hdg : decode cc pc = .ok (.newarray .long, 2)) (pre post : va_W)
    (kk : ∀ q : Nat, Wz p l e R s m args below meth c Q g A (pre ++ (q, .inl (gc g 1, N, .inr (.inl (fun _ => 0)))) :: post) (cells + 1) (slots + N) (F0 m (pc + 2) ls (.ref q :: rest))) : Wz p l e R s m args below meth c Q g A (pre ++ post) cells slots (F0 m pc ls (.int n :: rest)) :=
  z_newa (atype := .long) (ty := .long) (t0 := 1) (a0 := (N, .inr (.inl (fun _ => 0)))) Z hac rfl rfl (fun _ _ h => h) (fun _ => rfl) hn hN hbytes hcells hslots hdg pre post kk
theorem z_newZ {n : Int32} {N : Nat} (Z : Zx g p s m args meth c cc nL0 own A) (hac : Cond.arrayClass .boolean ∈ wG) (hn : ¬ n < 0) (hN : n.toNatClampNeg = N) (hbytes : N * 1 ≤ 536870912) (hcells : cells + 1 ≤ R.cells) (hslots : slots + N ≤ R.slots) (hdg : decode cc pc = .ok (.newarray .boolean, 2)) (pre post : va_W)
    (kk : ∀ q : Nat, Wz p l e R s m args below meth c Q g A (pre ++ (q, .inl (gc g 2, N, .inl (fun _ => 0))) :: post) (cells + 1) (slots + N) (F0 m (pc + 2) ls (.ref q :: rest))) : Wz p l e R s m args below meth c Q g A (pre ++ post) cells slots (F0 m pc ls (.int n :: rest)) :=
  z_newa (atype := .boolean) (ty := .boolean) (t0 := 2) (a0 := (N, .inl (fun _ => 0))) Z hac rfl rfl (fun _ _ h => h) (fun _ => rfl) hn hN hbytes hcells hslots hdg pre post kk
theorem z_newq {C : String} {index t0 : Nat} {cA0 : ClassId} {n : Int32} {N : Nat} (Z : Zx g p s m args meth c cc nL0 own A) (hcl : Cond.classLink own index C ∈ wG) (hover : va_AO C s) (ht : (gtys g)[t0]? = some (cA0, .object C)) (hn : ¬ n < 0) (hN : n.toNatClampNeg = N) (hbytes : N * 4 ≤ 536870912) (hcells : cells + 1 ≤ R.cells) (hslots : slots + N ≤ R.slots) (hdg : decode cc pc = .ok (.anewarray index, 3)) (pre post : va_W)
    (kk : ∀ q : Nat, Wz p l e R s m args below meth c Q g A (pre ++ (q, .inl (cA0, N, .inr (.inr (.inr (.inr (fun _ => none)))))) :: post) (cells + 1) (slots + N) (F0 m (pc + 3) ls (.ref q :: rest))) : Wz p l e R s m args below meth c Q g A (pre ++ post) cells slots (F0 m pc ls (.int n :: rest)) := fun H locs hP hD hS => by
  obtain ⟨hx, hb, hml, hown, hts, hX, hst, hA, -, -⟩ := Z
  refine va_newq hx hb hown (hts _ hcl) hover hX.1.1 hP hD hS hA hn hN hbytes hcells hslots hdg (fun q cA H1 hK1 hP1 hD1 hS1 => ?_)
  obtain ⟨_, _, _, _, _, e1⟩ := (hK1.2 5 (cA, .object C) rfl).2
  obtain ⟨_, _, _, _, _, e2⟩ := (hX.1.1.2 t0 _ ht).2
  obtain rfl : cA = cA0 := Option.some.inj (e1.symm.trans e2)
  exact kk q H1 locs (hP1.perm (pm_ins _ _ _)) (hD1.perm (pm_ins _ _ _)) hS1
theorem z_putF {C : String} {T : u_T} {N ci index a : Nat} {fs : List Value} {v : Value} (Z : Zx g p s m args meth c cc nL0 own A) (hin : ∀ w ∈ u_ws C T N, w ∈ wG) (ty0 : Nat → FieldType) (hty : ∀ k, k < N → parseFieldDescriptor (T k).2.2.1 = some (ty0 k)) (hnm : ∀ a, a < N → ∀ b, b < N → a ≠ b → (T a).2.1 ≠ (T b).2.1) (q0 : Nat) (he : ws[q0]? = some (a, .inr (ci, fs))) (hc : vwCl[ci]? = some (C, T, N)) (k : Nat) (hk : k < N) (hlink : Cond.fieldLink own index own (T k).2.1 (T k).2.2.1 ∈ wG) (hfin : (T k).2.2.2 = true) (hin2 : meth.name = "<init>") (hdecl : (T k).1 = own) {ty : FieldType} (hd : parseFieldDescriptor (T k).2.2.1 = some ty) (hn : narrow ty v = v) (hfit : fits ty v = true) (hl : k < fs.length) (hdg : decode cc pc = .ok (.putfield index, 3)) {ws' : va_W} (hw : ws.set q0 (a, .inr (ci, fs.set k v)) = ws')
    (kk : Wz p l e R s m args below meth c Q g A ws' cells slots (F0 m (pc + 3) ls rest)) : Wz p l e R s m args below meth c Q g A ws cells slots (F0 m pc ls (v :: .ref a :: rest)) := fun H locs hP hD hS => by
  obtain ⟨hx, hb, hml, hown, hts, hX, hst, hA, -, -⟩ := Z
  subst hw
  exact va_putF hx hb hts hin ty0 hty hnm hown hX.1.1 hP hD hS q0 he hc k hk (hts _ hlink) (by rw [hdecl]; exact fun _ h => h) hfin hin2 hdecl hd hn hfit hl hdg kk
theorem z_put {C : String} {T : u_T} {N ci index a : Nat} {fs : List Value} {v : Value} (Z : Zx g p s m args meth c cc nL0 own A) (hin : ∀ w ∈ u_ws C T N, w ∈ wG) (ty0 : Nat → FieldType) (hty : ∀ k, k < N → parseFieldDescriptor (T k).2.2.1 = some (ty0 k)) (hnm : ∀ a, a < N → ∀ b, b < N → a ≠ b → (T a).2.1 ≠ (T b).2.1) (q0 : Nat) (he : ws[q0]? = some (a, .inr (ci, fs))) (hc : vwCl[ci]? = some (C, T, N)) (k : Nat) (hk : k < N) (hlink : Cond.fieldLink own index own (T k).2.1 (T k).2.2.1 ∈ wG) (hfin : (T k).2.2.2 = false) (hdecl : (T k).1 = own) {ty : FieldType} (hd : parseFieldDescriptor (T k).2.2.1 = some ty) (hn : narrow ty v = v) (hfit : fits ty v = true) (hl : k < fs.length) (hdg : decode cc pc = .ok (.putfield index, 3)) {ws' : va_W} (hw : ws.set q0 (a, .inr (ci, fs.set k v)) = ws')
    (kk : Wz p l e R s m args below meth c Q g A ws' cells slots (F0 m (pc + 3) ls rest)) : Wz p l e R s m args below meth c Q g A ws cells slots (F0 m pc ls (v :: .ref a :: rest)) := fun H locs hP hD hS => by
  obtain ⟨hx, hb, hml, hown, hts, hX, hst, hA, -, -⟩ := Z
  subst hw
  exact va_put hx hb hts hin ty0 hty hnm hown hX.1.1 hP hD hS q0 he hc k hk (hts _ hlink) (by rw [hdecl]; exact fun _ h => h) hfin hd hn hfit hl hdg kk
theorem z_get {C : String} {T : u_T} {N ci index a : Nat} {fs : List Value} {v : Value} (Z : Zx g p s m args meth c cc nL0 own A) (hin : ∀ w ∈ u_ws C T N, w ∈ wG) (q0 : Nat) (he : ws[q0]? = some (a, .inr (ci, fs))) (hc : vwCl[ci]? = some (C, T, N)) (k : Nat) (hk : k < N) (hlink : Cond.fieldLink own index own (T k).2.1 (T k).2.2.1 ∈ wG) (hdecl : (T k).1 = own) (hv : fs[k]? = some v) (hdg : decode cc pc = .ok (.getfield index, 3)) (kk : Wz p l e R s m args below meth c Q g A ws cells slots (F0 m (pc + 3) ls (v :: rest))) : Wz p l e R s m args below meth c Q g A ws cells slots (F0 m pc ls (.ref a :: rest)) := fun H locs hP hD hS => by
  obtain ⟨hx, hb, hml, hown, hts, hX, hst, hA, -, -⟩ := Z
  exact va_get hx hb hts hin hown hX.1.1 hP q0 he hc k hk (hts _ hlink) (by rw [hdecl]; exact fun _ h => h) hv hdg (kk H locs hP hD hS)
theorem z_iast {a n : Nat} {f : Nat → Int32} {i x : Int32} (Z : Zx g p s m args meth c cc nL0 own A) (q0 : Nat) (ha : ws[q0]? = some (a, .inl (gc g 0, n, .inl f))) (j : Nat) (hj : i.toNatClampNeg = j) (hin : ¬ (i < 0 ∨ n ≤ i.toNatClampNeg)) (hdg : decode cc pc = .ok (.iastore, 1)) {ws' : va_W} (hw : ws.set q0 (a, .inl (gc g 0, n, .inl (upd f j x))) = ws') (kk : Wz p l e R s m args below meth c Q g A ws' cells slots (F0 m (pc + 1) ls rest)) : Wz p l e R s m args below meth c Q g A ws cells slots (F0 m pc ls (.int x :: .int i :: .ref a :: rest)) := fun H locs hP hD hS => by
  obtain ⟨hx, hb, hml, hown, hts, hX, hst, hA, -, -⟩ := Z
  subst hj
  subst hw
  exact va_iast hx hb hX.1.1 hP hD hS q0 0 ha rfl hin hdg kk
theorem z_iald {a n : Nat} {f : Nat → Int32} {i : Int32} (Z : Zx g p s m args meth c cc nL0 own A) (q0 : Nat) (ha : ws[q0]? = some (a, .inl (gc g 0, n, .inl f))) (j : Nat) (hj : i.toNatClampNeg = j) (hin : ¬ (i < 0 ∨ n ≤ i.toNatClampNeg)) (hdg : decode cc pc = .ok (.iaload, 1)) (kk : Wz p l e R s m args below meth c Q g A ws cells slots (F0 m (pc + 1) ls (.int (f j) :: rest))) : Wz p l e R s m args below meth c Q g A ws cells slots (F0 m pc ls (.int i :: .ref a :: rest)) := fun H locs hP hD hS => by
  obtain ⟨hx, hb, hml, hown, hts, hX, hst, hA, -, -⟩ := Z
  subst hj
  exact va_iald hx hb hX.1.1 hP q0 0 ha rfl hin hdg (kk H locs hP hD hS)
theorem z_astq {a n v ci t0 : Nat} {cA : ClassId} {r : vw_C} {vs : List Value} {f : Nat → Option Nat} {i : Int32} (Z : Zx g p s m args meth c cc nL0 own A) (q0 qk : Nat) (ha : ws[q0]? = some (a, .inl (cA, n, .inr (.inr (.inr (.inr f)))))) (ht : (gtys g)[t0]? = some (cA, .object r.1)) (hv : ws[qk]? = some (v, .inr (ci, vs))) (hc : vwCl[ci]? = some r) (j : Nat) (hj : i.toNatClampNeg = j) (hin : ¬ (i < 0 ∨ n ≤ i.toNatClampNeg)) (hdg : decode cc pc = .ok (.aastore, 1)) {ws' : va_W} (hw : ws.set q0 (a, .inl (cA, n, .inr (.inr (.inr (.inr (va_up f j (some v))))))) = ws') (kk : Wz p l e R s m args below meth c Q g A ws' cells slots (F0 m (pc + 1) ls rest)) : Wz p l e R s m args below meth c Q g A ws cells slots (F0 m pc ls (.ref v :: .int i :: .ref a :: rest)) := fun H locs hP hD hS => by
  obtain ⟨hx, hb, hml, hown, hts, hX, hst, hA, -, -⟩ := Z
  subst hj
  subst hw
  exact va_astq hx hb hX.1.1 hP hD hS q0 t0 qk ci ha ht hv hc hin hdg kk
theorem z_obj {a index : Nat} (Z : Zx g p s m args meth c cc nL0 own A) (hlink : Cond.methodLink own index objectInit ∈ wG) (hinst : Cond.instanceMethod objectInit ∈ wG) (hcode : Cond.code objectInit ⟨#[0xb1]⟩ 1 none ∈ wG) (hls : ls.size = nL0) (hdg : decode cc pc = .ok (.invokespecial index, 3)) (hfr : 1 ≤ R.frames) (hlo : (rest.map fun v => v.category).sum + 12 ≤ R.locals) (kk : Wz p l e R s m args below meth c Q g A ws cells slots (F0 m (pc + 3) ls rest)) : Wz p l e R s m args below meth c Q g A ws cells slots (F0 m pc ls (.ref a :: rest)) := fun H locs hP hD hS => by
  obtain ⟨hx, hb, hml, hown, hts, hX, hst, hA, -, -⟩ := Z
  exact W.objInit hx hb hown (hts _ hlink) (hts _ hinst) (hts _ hcode) rfl (by rw [hml]; exact hls) rfl hdg hfr (by show 2 * 0 + _ + 12 ≤ _; omega) (kk H locs hP hD hS)
theorem z_ret {Qc : Array Value → State → Outcome → State → Prop} {P : va_W → Prop} (Z : Zx g p s m args meth c cc nL0 own A) (hQ : ∀ (H : Heap) (t : State) (w1 : va_W), P w1 → va_P (gD g) vwCl w1 t.heap → va_D A w1 → va_F A s t → Qc args s (.returned none) t) (h : P ws) (hdg : decode cc pc = .ok (.return_, 1)) (hne : own ≠ "EvenStrideLaw" := by decide +kernel) : Wz p l e R s m args below meth c (MQ below Qc args s cells slots A) g A ws cells slots (F0 m pc ls []) := fun H locs hP hD hS => by
  obtain ⟨hx, hb, hml, hown, hts, hX, hst, hA, hlocks, hr⟩ := Z
  exact W.vret hx hb (hr hne) (fun t ht _ => hQ H t ws h (by rw [ht]; exact hP) hD (hS.F ht)) hS.2.2 hdg hlocks
/-- what comes back from a call, beside the rest -/
theorem z_join {w0 w1 pre post : va_W} {H H1 : Heap} {sz : Nat} (hP : va_P (gD g) vwCl (pre ++ (w0 ++ post)) H) (hD : va_D A (pre ++ (w0 ++ post))) (hsz : sz = H.size) (hF : ∀ q, va_A w0 sz q → A q) (hk : ∀ q : Nat, q < H.size → ¬ va_A w0 sz q → H1[q]? = H[q]?) (hP1 : va_P (gD g) vwCl w1 H1) (hD1 : va_D (va_A w0 sz) w1) : va_P (gD g) vwCl (pre ++ (w1 ++ post)) H1 ∧ va_D A (pre ++ (w1 ++ post)) := by
  subst hsz
  have pm0 : (pre ++ (w0 ++ post)).Perm (w0 ++ (pre ++ post)) := List.perm_append_comm_assoc pre w0 post
  have pm1 : (w1 ++ (pre ++ post)).Perm (pre ++ (w1 ++ post)) := List.perm_append_comm_assoc w1 pre post
  have hP' := hP.perm pm0
  have hD' := va_D.nd.mp (hD.perm pm0)
  generalize pre ++ post = rs at *
  have hD1' := va_D.nd.mp hD1
  rw [List.map_append] at hD'
  obtain ⟨⟨n1, n2, n3⟩, n4⟩ : ((w0.map Prod.fst).Nodup ∧ (rs.map Prod.fst).Nodup ∧ ∀ x ∈ w0.map Prod.fst, ∀ y ∈ rs.map Prod.fst, x ≠ y) ∧ ∀ q ∈ w0 ++ rs, A q.1 := ⟨List.nodup_append.mp hD'.1, hD'.2⟩
  have hPr : va_P (gD g) vwCl rs H := va_P.ofMem (fun q hq => hP'.mem (List.mem_append_right _ hq))
  have hnot : ∀ q ∈ rs, q.1 < H.size ∧ ¬ va_A w0 H.size q.1 := by
    intro q hq
    obtain ⟨k, hk'⟩ := List.mem_iff_getElem?.mp hq
    have hlt := (hPr k q hk').lt
    refine ⟨hlt, fun h => ?_⟩
    rcases h with ⟨k', e', h⟩ | h
    · exact n3 q.1 (List.mem_map.mpr ⟨_, List.mem_of_getElem? h, rfl⟩) q.1 (List.mem_map.mpr ⟨q, hq, rfl⟩) rfl
    · omega
  have hPr1 : va_P (gD g) vwCl rs H1 := hPr.kept (fun k q hk' => hk q.1 (hnot q (List.mem_of_getElem? hk')).1 (hnot q (List.mem_of_getElem? hk')).2)
  have hPn : va_P (gD g) vwCl (w1 ++ rs) H1 := va_P.ofMem (fun q hq => by
    rcases List.mem_append.mp hq with h | h
    · exact hP1.mem h
    · exact hPr1.mem h)
  have hDn : va_D A (w1 ++ rs) := by
    rw [va_D.nd, List.map_append]
    refine ⟨List.nodup_append.mpr ⟨hD1'.1, n2, fun x hx y hy e => ?_⟩, fun q hq => ?_⟩
    · obtain ⟨q1, h1, rfl⟩ := List.mem_map.mp hx
      obtain ⟨q2, h2, rfl⟩ := List.mem_map.mp hy
      exact (hnot q2 h2).2 (by rw [← e]; exact hD1'.2 q1 h1)
    · rcases List.mem_append.mp hq with h | h
      · exact hF _ (hD1'.2 q h)
      · exact n4 q (List.mem_append_right _ h)
  exact ⟨hPn.perm pm1, hDn.perm pm1⟩
theorem ST.into {w0 : va_W} {H : Heap} {locs : List Loc} {U : State} (h : ST g A s s.heap) (hS : va_S A s.heap H locs) (hvm : s.vm.Alike U.vm) (hF : ∀ q, va_A w0 H.size q → A q) : ST g (va_A w0 H.size) U H :=
  ⟨((h.1.kept hS.2.1).moved hvm).narrow hF, ((h.2.kept hS.2.1).moved hvm).narrow hF⟩
theorem GX.warm {U : State} (hW : s.WarmedH U.vm) (h : GX g s) : GX g U := ⟨h.1.warm hW, h.2.1.moved hW.alike, h.2.2.moved hW.alike⟩
theorem z_pre {w0 pre post : va_W} {H : Heap} {locs : List Loc} {h0 : Nat} (Z : Zx g p s m args meth c cc nL0 own A) (hP : va_P (gD g) vwCl (pre ++ (w0 ++ post)) H) (hD : va_D A (pre ++ (w0 ++ post))) (hS : va_S A s.heap H locs) : (∀ q, va_A w0 H.size q → A q) ∧ ∀ U : State, U.heap = H → s.WarmedH U.vm → va_Pc [.ref h0] (Kp g w0 H.size) ([.ref h0] : List Value).toArray U := by
  obtain ⟨hx, hb, hml, hown, hts, hX, hst, hA, -, -⟩ := Z
  have hF : ∀ q, va_A w0 H.size q → A q := by
    intro q h
    rcases h with ⟨k, e', h⟩ | h
    · exact (va_D.nd.mp hD).2 _ (List.mem_append_right _ (List.mem_append_left _ (List.mem_of_getElem? h)))
    · exact hA q (Nat.le_trans hS.1 h)
  refine ⟨hF, fun U hU hW => ⟨rfl, by rw [hU], by rw [hU]; exact va_P.ofMem (fun q hq => hP.mem (List.mem_append_right _ (List.mem_append_left _ hq))), ?_, hX.warm hW, by rw [hU]; exact hst.into hS hW.alike hF⟩⟩
  have h2 := va_D.nd.mp hD
  rw [List.map_append, List.map_append] at h2
  exact va_D.nd.mpr ⟨(List.nodup_append.mp (List.nodup_append.mp h2.1).2.1).1, fun _ _ => trivial⟩
theorem z_callI {y : MethodName} {cc' : ByteArray} {nL fr lo mc ms h0 index : Nat} {w0 : va_W} {P : va_W → Prop} (Z : Zx g p s m args meth c cc nL0 own A) (hM : Kc g l y cc' nL fr lo mc ms h0 w0 P) (ho : okM y cc' nL none 0) (hi : Cond.instanceMethod y ∈ wG) (hy : y.name = "<init>") (hl : Cond.methodLink own index y ∈ wG) (hR : fr + 1 ≤ R.frames ∧ 8 + (nL + 11) + lo ≤ R.locals) (hls : ls.size = nL0) (hrest : (rest.map fun v => v.category).sum ≤ 8) (hdg : decode cc pc = .ok (.invokespecial index, 3)) (hf : cells + mc ≤ R.cells ∧ slots + ms ≤ R.slots) (pre post : va_W)
    (kk : ∀ w1 : va_W, P w1 → Wz p l e R s m args below meth c Q g A (pre ++ (w1 ++ post)) (cells + mc) (slots + ms) (F0 m (pc + 3) ls rest)) : Wz p l e R s m args below meth c Q g A (pre ++ (w0 ++ post)) cells slots (F0 m pc ls (.ref h0 :: rest)) := fun H locs hP hD hS => by
  obtain ⟨hF, hpre⟩ := z_pre (h0 := h0) Z hP hD hS
  refine va_callv (va_runI (As := []) (rest := rest) (Ts := wG) ⟨Z.1, Z.2.1, Z.2.2.1, Z.2.2.2.1, Z.2.2.2.2.1⟩ (hM H.size) ⟨callB_of 0 Z.2.2.2.2.1 (wG_good (wG_cons ho.1)) rfl rfl rfl (Z.2.2.2.2.1 _ ho.2.1) (Z.2.2.2.2.1 _ hl) ho.2.2 hR, hy, Z.2.2.2.2.1 _ hi⟩ ⟨Kp.blind g w0 H.size _, hpre⟩ rfl rfl hls rfl (lv_room hrest) hdg hf) hS (fun q _ h => hF q h) hF (fun u t H1 locs1 ht hvm hw hB hz1 hk1 hS1 => ?_)
  obtain ⟨hP1, hD1⟩ := hB
  rw [ht] at hP1
  obtain ⟨a1, a2⟩ := z_join hP hD rfl hF hk1 hP1 hD1
  exact kk u hw H1 locs1 a1 a2 hS1
theorem z_callN {y : MethodName} {cc' : ByteArray} {nL fr lo mc ms h0 index : Nat} {w0 : va_W} {P : va_W → Prop} {host : String} (Z : Zx g p s m args meth c cc nL0 own A) (hM : Kc g l y cc' nL fr lo mc ms h0 w0 P) (ho : okM y cc' nL none 0) (hi : Cond.instanceMethod y ∈ wG) (hy : y.name = "<init>") (hl : (own, index, y, host) ∈ nestL) (hR : fr + 1 ≤ R.frames ∧ 8 + (nL + 11) + lo ≤ R.locals) (hls : ls.size = nL0) (hrest : (rest.map fun v => v.category).sum ≤ 8) (hdg : decode cc pc = .ok (.invokespecial index, 3)) (hf : cells + mc ≤ R.cells ∧ slots + ms ≤ R.slots) (pre post : va_W)
    (kk : ∀ w1 : va_W, P w1 → Wz p l e R s m args below meth c Q g A (pre ++ (w1 ++ post)) (cells + mc) (slots + ms) (F0 m (pc + 3) ls rest)) : Wz p l e R s m args below meth c Q g A (pre ++ (w0 ++ post)) cells slots (F0 m pc ls (.ref h0 :: rest)) := fun H locs hP hD hS => by
  obtain ⟨hF, hpre⟩ := z_pre (h0 := h0) Z hP hD hS
  refine va_callv (va_runIN (As := []) (rest := rest) (Ts := wG) ⟨Z.1, Z.2.1, Z.2.2.1, Z.2.2.2.1, Z.2.2.2.2.1⟩ (hM H.size) ⟨va_cnB 0 Z.2.2.2.2.1 (wG_good (wG_cons ho.1)) rfl rfl rfl (Z.2.2.2.2.2.1.1.2 _ hl) (Z.2.2.2.2.1 _ ho.2.1) ho.2.2 hR, hy, Z.2.2.2.2.1 _ hi⟩ ⟨Kp.blind g w0 H.size _, hpre⟩ rfl rfl hls rfl (lv_room hrest) hdg hf) hS (fun q _ h => hF q h) hF (fun u t H1 locs1 ht hvm hw hB hz1 hk1 hS1 => ?_)
  obtain ⟨hP1, hD1⟩ := hB
  rw [ht] at hP1
  obtain ⟨a1, a2⟩ := z_join hP hD rfl hF hk1 hP1 hD1
  exact kk u hw H1 locs1 a1 a2 hS1
theorem z_callV {y : MethodName} {cc' : ByteArray} {nL fr lo mc ms h0 index ci : Nat} {w0 : va_W} {P : va_W → Prop} {fs : List Value} {T0 : u_T} {N : Nat} (Z : Zx g p s m args meth c cc nL0 own A) (hM : Kc g l y cc' nL fr lo mc ms h0 w0 P) (ho : okM y cc' nL none 0) (hi : Cond.instanceMethod y ∈ wG) (hs : Cond.selects y.cls y y ∈ wG) (hl : Cond.methodLink own index y ∈ wG) (hc : w0[0]? = some (h0, .inr (ci, fs))) (hcl : vwCl[ci]? = some (y.cls, T0, N)) (hR : fr + 1 ≤ R.frames ∧ 8 + (nL + 11) + lo ≤ R.locals) (hls : ls.size = nL0) (hrest : (rest.map fun v => v.category).sum ≤ 8) (hdg : decode cc pc = .ok (.invokevirtual index, 3)) (hf : cells + mc ≤ R.cells ∧ slots + ms ≤ R.slots) (pre post : va_W)
    (kk : ∀ w1 : va_W, P w1 → Wz p l e R s m args below meth c Q g A (pre ++ (w1 ++ post)) (cells + mc) (slots + ms) (F0 m (pc + 3) ls rest)) : Wz p l e R s m args below meth c Q g A (pre ++ (w0 ++ post)) cells slots (F0 m pc ls (.ref h0 :: rest)) := fun H locs hP hD hS => by
  obtain ⟨hF, hpre⟩ := z_pre (h0 := h0) Z hP hD hS
  have hPc : va_P (gD g) vwCl w0 H := va_P.ofMem (fun q hq => hP.mem (List.mem_append_right _ (List.mem_append_left _ hq)))
  refine va_callv (va_runV (As := []) (rest := rest) (Ts := wG) ⟨Z.1, Z.2.1, Z.2.2.1, Z.2.2.2.1, Z.2.2.2.2.1⟩ (hM H.size) ⟨callB_of 0 Z.2.2.2.2.1 (wG_good (wG_cons ho.1)) rfl rfl rfl (Z.2.2.2.2.1 _ ho.2.1) (Z.2.2.2.2.1 _ hl) ho.2.2 hR, Z.2.2.2.2.1 _ hi, Z.2.2.2.2.1 _ hs⟩ ⟨Kp.blind g w0 H.size _, va_recv Z.2.2.2.2.2.1.1.1 hPc hcl hc, hpre⟩ rfl rfl hls rfl (lv_room hrest) hdg hf) hS (fun q _ h => hF q h) hF (fun u t H1 locs1 ht hvm hw hB hz1 hk1 hS1 => ?_)
  obtain ⟨hP1, hD1⟩ := hB
  rw [ht] at hP1
  obtain ⟨a1, a2⟩ := z_join hP hD rfl hF hk1 hP1 hD1
  exact kk u hw H1 locs1 a1 a2 hS1
end ZR
