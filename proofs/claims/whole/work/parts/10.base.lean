/-! the store: cells by kind t and number r; ints I t r k, longs J t r k -/
abbrev MI : Type := Nat → Nat → Nat → Int32
abbrev MJ : Type := Nat → Nat → Nat → Int64
abbrev Geo : Type := (Nat → ClassId) × (Nat → Nat → Nat) × (Nat → Nat → Nat) × (Nat → Prop) × (Nat → ClassId) × (Nat → Nat)
abbrev gD (g : Geo) : va_G := (g.1, g.2.1)
abbrev gad (g : Geo) : Nat → Nat → Nat := g.2.2.1
abbrev gA (g : Geo) : Nat → Prop := g.2.2.2.1
abbrev gc (g : Geo) : Nat → ClassId := g.2.2.2.2.1
abbrev gs (g : Geo) : Nat → Nat := g.2.2.2.2.2
def gtys (g : Geo) : List (ClassId × FieldType) := [(gc g 0, .int), (gc g 1, .long), (gc g 2, .boolean), (gc g 3, .object "EvenStride$Runner"), (gc g 4, .object "EvenStride$Yard")]
def cel (g : Geo) (I : MI) (J : MJ) (t r : Nat) : va_E := match t with
  | 0 => .inr (0, [.ref (gad g 9 0), .ref (gad g 10 0), .ref (gad g 11 0), .long (J 0 r 3), .int (I 0 r 4), .int (I 0 r 5)])
  | 1 => .inr (1, [.ref (gad g 12 0), .int (I 1 r 1), .int (I 1 r 2), .int (I 1 r 3), .int (I 1 r 4)])
  | 2 => .inr (2, [.ref (gad g 13 r)])
  | 3 => .inr (3, [.ref (gad g 14 0), .int (I 3 r 1), .int (I 3 r 2), .int (I 3 r 3), .int (I 3 r 4), .int (I 3 r 5), .int (I 3 r 6)])
  | 4 => .inr (4, [.ref (gad g 15 r), .ref (gad g 16 r), .int (I 4 r 2), .int (I 4 r 3), .int (I 4 r 4), .int (I 4 r 5), .int (I 4 r 6), .int (I 4 r 7)])
  | 5 => .inr (5, [.ref (gad g 17 0), .ref (gad g 18 0), .int (I 5 r 2), .int (I 5 r 3), .int (I 5 r 4), .int (I 5 r 5), .int (I 5 r 6), va_rf (if I 5 r 7 = 0 then none else some (gad g 2 0))])
  | 6 => .inr (6, [.ref (gad g 19 r), .int (I 6 r 1), .int (I 6 r 2), .int (I 6 r 3), .int (I 6 r 4)])
  | 7 => .inr (7, [.ref (gad g 6 0), .ref (gad g 20 0), .ref (gad g 21 0), .ref (gad g 3 0), .ref (gad g 2 0), .ref (gad g 2 1), .ref (gad g 4 24), .ref (gad g 0 0), .ref (gad g 5 0), .ref (gad g 1 0), .ref (gad g 22 0), .ref (gad g 23 0), .ref (gad g 24 0), .int (I 7 r 13), .long (J 7 r 14)])
  | 8 => .inr (8, [.int (I 8 r 0), .long (J 8 r 1), .ref (gad g 25 0), .ref (gad g 26 0), .ref (gad g 27 0), .ref (gad g 28 0), .ref (gad g 29 0), .ref (gad g 30 0), .int (I 8 r 8), .int (I 8 r 9), .int (I 8 r 10), .int (I 8 r 11), .int (I 8 r 12), .int (I 8 r 13), .int (I 8 r 14), .ref (gad g 31 0), .ref (gad g 32 0), .ref (gad g 33 0), .ref (gad g 34 0), .int (I 8 r 19), .ref (gad g 35 0), .ref (gad g 36 0), .ref (gad g 37 0), .ref (gad g 38 0), .long (J 8 r 24)])
  | 9 => .inl (gc g 0, 8, .inl (I 9 r))
  | 10 => .inl (gc g 0, 8, .inl (I 10 r))
  | 11 => .inl (gc g 0, 3, .inl (I 11 r))
  | 12 => .inl (gc g 0, 6, .inl (I 12 r))
  | 13 => .inl (gc g 0, 6, .inl (I 13 r))
  | 14 => .inl (gc g 0, 200, .inl (I 14 r))
  | 15 => .inl (gc g 0, 3, .inl (I 15 r))
  | 16 => .inl (gc g 0, 12, .inl (I 16 r))
  | 17 => .inl (gc g 0, 10, .inl (I 17 r))
  | 18 => .inl (gc g 0, 10, .inl (I 18 r))
  | 19 => .inl (gc g 3, 8, .inr (.inr (.inr (.inr (fun k => some (gad g 4 (8 * r + k)))))))
  | 20 => .inl (gc g 4, 2, .inr (.inr (.inr (.inr (fun k => some (gad g 6 (1 + k)))))))
  | 21 => .inl (gc g 0, 3, .inl (I 21 r))
  | 22 => .inl (gc g 0, 8, .inl (I 22 r))
  | 23 => .inl (gc g 0, 8, .inl (I 23 r))
  | 24 => .inl (gc g 0, 8, .inl (I 24 r))
  | 25 => .inl (gc g 0, 171, .inl (I 25 r))
  | 26 => .inl (gc g 0, 342, .inl (I 26 r))
  | 27 => .inl (gc g 2, 2, .inl (I 27 r))
  | 28 => .inl (gc g 0, 3, .inl (I 28 r))
  | 29 => .inl (gc g 0, 12, .inl (I 29 r))
  | 30 => .inl (gc g 0, 200, .inl (I 30 r))
  | 31 => .inl (gc g 0, 24, .inl (I 31 r))
  | 32 => .inl (gc g 0, 20, .inl (I 32 r))
  | 33 => .inl (gc g 0, 6, .inl (I 33 r))
  | 34 => .inl (gc g 0, 12, .inl (I 34 r))
  | 35 => .inl (gc g 0, 12, .inl (I 35 r))
  | 36 => .inl (gc g 0, 8, .inl (I 36 r))
  | 37 => .inl (gc g 1, 8, .inr (.inl (J 37 r)))
  | _ => .inl (gc g 0, 8, .inl (I t r))
def cntL : List Nat := [1, 1, 2, 1, 25, 1, 3, 1, 1, 1, 1, 1, 1, 2, 1, 25, 25, 1, 1, 3, 1, 1, 1, 1, 1, 1, 1, 1, 1, 1, 1, 1, 1, 1, 1, 1, 1, 1, 1]
def cnt (t : Nat) : Nat := cntL.getD t 0
def keys : List (Nat × Nat) := (List.range 39).flatMap (fun t => (List.range (cnt t)).map (fun r => (t, r)))
theorem keys_nd : keys.Nodup := by decide +kernel
theorem keys_mem {t r : Nat} (h : r < cnt t) : (t, r) ∈ keys := by
  have ht : t < 39 := by
    rcases Nat.lt_or_ge t 39 with q | q
    · exact q
    · have e : cnt t = 0 := by
        unfold cnt
        rw [List.getD_eq_getElem?_getD, List.getElem?_eq_none (by simpa [cntL] using q)]
        rfl
      omega
  exact List.mem_flatMap.mpr ⟨t, List.mem_range.mpr ht, List.mem_map.mpr ⟨r, List.mem_range.mpr h, rfl⟩⟩
def wl (g : Geo) (I : MI) (J : MJ) : va_W := keys.map (fun q => (gad g q.1 q.2, cel g I J q.1 q.2))
theorem wl_at {t r : Nat} (h : r < cnt t) : ∃ k : Nat, keys[k]? = some (t, r) := List.mem_iff_getElem?.mp (keys_mem h)
theorem wl_get {g : Geo} {I : MI} {J : MJ} {t r k : Nat} (hk : keys[k]? = some (t, r)) : (wl g I J)[k]? = some (gad g t r, cel g I J t r) := by
  unfold wl
  rw [List.getElem?_map, hk]
  rfl
theorem keys_inj {i j : Nat} {q : Nat × Nat} (h1 : keys[i]? = some q) (h2 : keys[j]? = some q) : i = j := by
  have hi : i < keys.length := (List.getElem?_eq_some_iff.mp h1).1
  exact (List.getElem?_inj hi keys_nd).mp (h1.trans h2.symm)
theorem wl_set {g : Geo} {I I' : MI} {J J' : MJ} {t r k : Nat} {e : va_E} (hk : keys[k]? = some (t, r)) (he : cel g I' J' t r = e) (ho : ∀ t' r' : Nat, ¬ (t' = t ∧ r' = r) → cel g I' J' t' r' = cel g I J t' r') : (wl g I J).set k (gad g t r, e) = wl g I' J' := by
  apply List.ext_getElem?
  intro j
  by_cases hj : k = j
  · subst hj
    rw [wl_get hk, List.getElem?_set_self (by rw [wl, List.length_map]; exact (List.getElem?_eq_some_iff.mp hk).1), he]
  · rw [List.getElem?_set_ne hj]
    unfold wl
    rw [List.getElem?_map, List.getElem?_map]
    cases hq : keys[j]? with
    | none => rfl
    | some q =>
      have hne : ¬ (q.1 = t ∧ q.2 = r) := fun h => hj (keys_inj hk (by rw [hq]; exact congrArg some (Prod.ext h.1 h.2)))
      exact congrArg some (Prod.ext rfl (ho q.1 q.2 hne).symm)
theorem cel_congr {g : Geo} {I I' : MI} {J J' : MJ} (t r : Nat) (hI : I' t r = I t r) (hJ : J' t r = J t r) : cel g I' J' t r = cel g I J t r := by
  unfold cel
  split <;> simp only [hI, hJ]
def up3 (I : MI) (t r k : Nat) (v : Int32) : MI := fun t' r' k' => if t' = t ∧ r' = r ∧ k' = k then v else I t' r' k'
def up3L (J : MJ) (t r k : Nat) (v : Int64) : MJ := fun t' r' k' => if t' = t ∧ r' = r ∧ k' = k then v else J t' r' k'
def row3 (I : MI) (t r : Nat) (f : Nat → Int32) : MI := fun t' r' k' => if t' = t ∧ r' = r then f k' else I t' r' k'
theorem up3_o {I : MI} {t r k t' r' : Nat} {v : Int32} (h : ¬ (t' = t ∧ r' = r)) : up3 I t r k v t' r' = I t' r' := by
  funext k'
  exact if_neg (fun q => h ⟨q.1, q.2.1⟩)
theorem up3L_o {J : MJ} {t r k t' r' : Nat} {v : Int64} (h : ¬ (t' = t ∧ r' = r)) : up3L J t r k v t' r' = J t' r' := by
  funext k'
  exact if_neg (fun q => h ⟨q.1, q.2.1⟩)
theorem row3_o {I : MI} {t r t' r' : Nat} {f : Nat → Int32} (h : ¬ (t' = t ∧ r' = r)) : row3 I t r f t' r' = I t' r' := by
  funext k'
  exact if_neg h
theorem up3_r {I : MI} {t r k : Nat} {v : Int32} : up3 I t r k v t r = upd (I t r) k v := by
  funext j
  by_cases h : j = k <;> simp [up3, upd, h]
theorem up3L_r {J : MJ} {t r k : Nat} {v : Int64} : up3L J t r k v t r = vp_updL (J t r) k v := by
  funext j
  by_cases h : j = k <;> simp [up3L, vp_updL, h]
theorem row3_r {I : MI} {t r : Nat} {f : Nat → Int32} : row3 I t r f t r = f := by
  funext j
  simp [row3]
theorem wl_setI {g : Geo} {I : MI} {J : MJ} {t r k j : Nat} {v : Int32} {e : va_E} (hk : keys[k]? = some (t, r)) (he : cel g (up3 I t r j v) J t r = e) : (wl g I J).set k (gad g t r, e) = wl g (up3 I t r j v) J := wl_set hk he (fun t' r' h => cel_congr t' r' (up3_o h) rfl)
theorem wl_setJ {g : Geo} {I : MI} {J : MJ} {t r k j : Nat} {v : Int64} {e : va_E} (hk : keys[k]? = some (t, r)) (he : cel g I (up3L J t r j v) t r = e) : (wl g I J).set k (gad g t r, e) = wl g I (up3L J t r j v) := wl_set hk he (fun t' r' h => cel_congr t' r' rfl (up3L_o h))
theorem wl_setR {g : Geo} {I : MI} {J : MJ} {t r k : Nat} {f : Nat → Int32} {e : va_E} (hk : keys[k]? = some (t, r)) (he : cel g (row3 I t r f) J t r = e) : (wl g I J).set k (gad g t r, e) = wl g (row3 I t r f) J := wl_set hk he (fun t' r' h => cel_congr t' r' (row3_o h) rfl)
def GD (g : Geo) : Prop := (∀ q ∈ keys, ∀ q' ∈ keys, gad g q.1 q.2 = gad g q'.1 q'.2 → q = q') ∧ ∀ q ∈ keys, gA g (gad g q.1 q.2)
theorem GD.D {g : Geo} (h : GD g) (I : MI) (J : MJ) : va_D (gA g) (wl g I J) := by
  have key : ∀ (i : Nat) (x : Nat × va_E), (wl g I J)[i]? = some x → ∃ q : Nat × Nat, keys[i]? = some q ∧ x.1 = gad g q.1 q.2 := by
    intro i x hx
    unfold wl at hx
    rw [List.getElem?_map] at hx
    cases hq : keys[i]? with
    | none => rw [hq] at hx; cases hx
    | some q =>
      rw [hq] at hx
      exact ⟨q, rfl, (congrArg Prod.fst (Option.some.inj hx)).symm⟩
  refine ⟨fun i j x y hx hy e => ?_, fun k x hx => ?_⟩
  · obtain ⟨q, h1, h2⟩ := key i x hx
    obtain ⟨q', h3, h4⟩ := key j y hy
    have e2 : q = q' := h.1 q (List.mem_of_getElem? h1) q' (List.mem_of_getElem? h3) (by rw [← h2, ← h4]; exact e)
    subst e2
    exact keys_inj h1 h3
  · obtain ⟨q, h1, h2⟩ := key k x hx
    rw [h2]
    exact h.2 q (List.mem_of_getElem? h1)
def nestL : List (String × Nat × MethodName × String) := [("EvenStride$Yard", 21, ⟨"EvenStride$Runner", "<init>", "()V"⟩, "EvenStride"), ("EvenStride", 26, ⟨"EvenStride$RuleText", "<init>", "()V"⟩, "EvenStride"), ("EvenStride", 43, ⟨"EvenStride$Runner", "<init>", "()V"⟩, "EvenStride"), ("EvenStride", 50, ⟨"EvenStride$Field", "<init>", "()V"⟩, "EvenStride"), ("EvenStride", 57, ⟨"EvenStride$Stable", "<init>", "()V"⟩, "EvenStride"), ("EvenStride", 64, ⟨"EvenStride$Hulls", "<init>", "()V"⟩, "EvenStride"), ("EvenStride$Runner", 47, ⟨"EvenStride", "within", "(III)Z"⟩, "EvenStride"), ("EvenStride$RuleText", 46, ⟨"EvenStride", "isOf", "(II)Z"⟩, "EvenStride"), ("EvenStride$RuleText", 61, ⟨"EvenStride", "within", "(III)Z"⟩, "EvenStride"), ("EvenStride$Rule", 36, ⟨"EvenStride", "clamp", "(III)I"⟩, "EvenStride"), ("EvenStride$Runner", 76, ⟨"EvenStride", "clamp", "(III)I"⟩, "EvenStride"), ("EvenStride$Field", 32, ⟨"EvenStride", "clamp", "(III)I"⟩, "EvenStride"), ("EvenStride$Stable", 57, ⟨"EvenStride", "clamp", "(III)I"⟩, "EvenStride")]
def nestOf (q : String × Nat × MethodName × String) : Cond := .methodLinkNest q.1 q.2.1 q.2.2.1 q.2.2.2
theorem nest_in : ∀ q ∈ nestL, nestOf q ∈ lw_tbl := by decide +kernel
def wG : List Cond := lw_tbl.filter goodWord
theorem wG_in {w : Cond} (h : w ∈ lw_tbl) (hg : goodWord w = true) : w ∈ wG := List.mem_filter.mpr ⟨h, hg⟩
theorem wG_t {w : Cond} {i : Nat} (h : tables_1[i]? = some w) (hg : goodWord w = true) : w ∈ wG := wG_in (List.mem_append_right _ (List.mem_of_getElem? h)) hg
theorem wG_good {b : List Cond} (hb : ∀ w ∈ b, w ∈ wG) : GoodIn wG b := fun w h => ⟨hb w h, good_of_word (List.mem_filter.mp (hb w h)).2⟩
theorem wG_cons {y : MethodName} {cc : ByteArray} {n : Nat} {r : Option FieldType} (h : Cond.code y cc n r ∈ wG) : ∀ w ∈ (Cond.code y cc n r :: wG), w ∈ wG := fun w hw => (List.mem_cons.mp hw).elim (fun e => by rw [e]; exact h) id
def GK (g : Geo) (U : State) : Prop := va_K (gD g) vwCl (gtys g) U ∧ ∀ q ∈ nestL, va_Nw (nestOf q) U
def stC (k : Nat) : String := match k with
  | 0 => "EvenStride$Rule"
  | 1 => "EvenStride"
  | 2 => "EvenStride"
  | 3 => "EvenStride"
  | 4 => "EvenStride"
  | _ => "EvenStride"
def stN (k : Nat) : String := match k with
  | 0 => "AT_FIRST"
  | 1 => "SET_MOST"
  | 2 => "SET_LEAST"
  | 3 => "TUNE_MOST"
  | 4 => "KIND_TRACE"
  | _ => "KIND_ABOVE"
def stV (k j : Nat) : Int32 := (match k with
  | 0 => ([1, 1, 1, 1, 200, 200] : List Int32)
  | 1 => ([2, 9, 20, 20, 20, 200] : List Int32)
  | 2 => ([0, -9, -20, -20, -20, 0] : List Int32)
  | 3 => ([5, 50, 50] : List Int32)
  | 4 => ([1, 10, 100, 1000, 10000, 100000, 1000000] : List Int32)
  | _ => ([0, 0, 0, 2, 0, 0, 3] : List Int32)).getD j 0
def stL (k : Nat) : Nat := match k with
  | 0 => 6
  | 1 => 6
  | 2 => 6
  | 3 => 3
  | 4 => 7
  | _ => 7
def GZ (g : Geo) (U : State) (H : Heap) : Prop := ∀ k, k < 6 → va_Z (stC k) (stN k) "[I" (.ref (gs g k)) (gA g) U H ∧ va_T .int (gs g k) (stL k) (fun j => .int (stV k j)) (gA g) U H
def GS (g : Geo) (I : MI) (J : MJ) (U : State) : Prop := va_P (gD g) vwCl (wl g I J) U.heap ∧ GK g U ∧ GZ g U U.heap ∧ GD g
theorem GK.warm {g : Geo} {s U : State} (hW : s.WarmedH U.vm) (h : GK g s) : GK g U := ⟨va_K.moved hW.alike h.1, fun q hq => va_Nw.warmM hW (h.2 q hq)⟩
theorem GZ.moved {g : Geo} {u U : State} {H H1 : Heap} (hvm : u.vm.Alike U.vm) (hq : ∀ a : Nat, a < H.size → ¬ gA g a → H1[a]? = H[a]?) (h : GZ g u H) : GZ g U H1 := fun k hk => ⟨((h k hk).1.moved hvm).kept hq, ((h k hk).2.moved hvm).kept hq⟩
theorem GS.blind {g : Geo} {I : MI} {J : MJ} (av : List Value) : FrameBlind (va_Pc av (GS g I J)) := fun a U f mk q => ⟨q.1, q.2.1, ⟨va_K.moved (u := U) (U := U.calling f mk a) (Vm.Alike.refl U.vm) q.2.2.1.1, fun x hx => va_Nw.same rfl (u := U) (U := U.calling f mk a) rfl (q.2.2.1.2 x hx)⟩, GZ.moved (u := U) (U := U.calling f mk a) (Vm.Alike.refl U.vm) (fun _ _ _ => rfl) q.2.2.2.1, q.2.2.2.2⟩
def Qg (g : Geo) (post : Option Value → MI → MJ → Prop) : Array Value → State → Outcome → State → Prop := fun _ st oc t => (∃ (v : Option Value) (I' : MI) (J' : MJ), oc = .returned v ∧ post v I' J' ∧ GS g I' J' t) ∧ va_F (gA g) st t
def PI (q : Int32 → MI → MJ → Prop) : Option Value → MI → MJ → Prop := fun v I J => ∃ r : Int32, v = some (.int r) ∧ q r I J
def PL (q : Int64 → MI → MJ → Prop) : Option Value → MI → MJ → Prop := fun v I J => ∃ r : Int64, v = some (.long r) ∧ q r I J
def PV (q : MI → MJ → Prop) : Option Value → MI → MJ → Prop := fun v I J => v = none ∧ q I J
def Rm (fr lo : Nat) : Room := { frames := fr, cells := 0, slots := 0, locals := lo }
/-- a method's contract over the store -/
def Ct (g : Geo) (l : Launch) (y : MethodName) (cc : ByteArray) (nL : Nat) (ret : Option FieldType) (fr lo : Nat) (av : List Value) (I : MI) (J : MJ) (post : Option Value → MI → MJ → Prop) : Prop := Met l y (Cond.code y cc nL ret :: wG) (Rm fr lo) (va_Pc av (GS g I J)) (Qg g post) 0 0 (gA g)
def Cx (g : Geo) (p : Program) (s : State) (m : MethodId) (args : Array Value) (meth : Method) (c : Code) (cc : ByteArray) (nL : Nat) (own : String) (ret : Option FieldType) : Prop := p.tables.exec = Jvm.exec ∧ c.code = cc ∧ c.maxLocals = nL ∧ s.vm.findClass own = some m.cls ∧ (∀ w ∈ wG, w.before args s = true) ∧ GK g s ∧ GZ g s s.heap ∧ GD g ∧ meth.locks = false ∧ meth.sig.returnType = ret
def Wf (p : Program) (l : Launch) (e : Env) (R : Room) (s : State) (m : MethodId) (args : Array Value) (below : List Frame) (meth : Method) (c : Code) (Q : State → Prop) (g : Geo) (I : MI) (J : MJ) (fr : JFrame) : Prop := ∀ (H : Heap) (locs : List Loc), va_P (gD g) vwCl (wl g I J) H → va_S (gA g) s.heap H locs → W p l e R s m args below meth c H locs 0 0 Q fr
theorem Ct.of {g : Geo} {l : Launch} {y : MethodName} {cc : ByteArray} {nL : Nat} {ret : Option FieldType} {fr lo : Nat} {av : List Value} {I : MI} {J : MJ} {post : Option Value → MI → MJ → Prop} (hy : plainName y.cls = true)
    (body : ∀ (p : Program) (e : Env) (s : State) (m : MethodId) (below : List Frame) (meth : Method) (c : Code), Cx g p s m av.toArray meth c cc nL y.cls ret → Wf p l e (Rm fr lo) s m av.toArray below meth c (MQ below (Qg g post) av.toArray s 0 0 (gA g)) g I J (entryFrame m av.toArray nL)) : Ct g l y cc nL ret fr lo av I J post := by
  refine Met.ofW (cc := cc) (maxL := nL) (ret := ret) hy rfl ?_
  intro p e s m args below meth c s₁ B hml hv
  obtain ⟨rfl, hP, hK, hZ, hD⟩ := hv
  have hts := atoms_spec (ws := Cond.code y cc nL ret :: wG) B.pre
  exact body p e s m below meth c ⟨B.exec, B.bytes, hml, findClass_of_methodNamed B.named, fun w h => hts w (List.mem_cons_of_mem _ h), hK, hZ, hD, B.notSynchronized, B.returns⟩ s.heap [] hP va_S.rf
section FR
variable {p : Program} {l : Launch} {e : Env} {R : Room} {s : State} {m : MethodId} {args : Array Value} {below : List Frame} {meth : Method} {c : Code} {Q : State → Prop} {g : Geo} {cc : ByteArray} {nL0 : Nat} {own : String} {ret : Option FieldType} {pc : Nat} {ls : Array Slot} {rest : List Value} {I : MI} {J : MJ}
theorem f_iconst (C : Cx g p s m args meth c cc nL0 own ret) {n : Int} {v : Int32} (hdg : decode cc pc = .ok (.iconst n, 1)) (hv : Int32.ofInt n = v) (k : Wf p l e R s m args below meth c Q g I J (F0 m (pc + 1) ls (.int v :: rest))) : Wf p l e R s m args below meth c Q g I J (F0 m pc ls (rest)) := fun H locs hP hS => lv_iconst C.1 C.2.1 hdg hv (k H locs hP hS)
theorem f_iload_n (C : Cx g p s m args meth c cc nL0 own ret) {k : Fin 4} {i : Nat} {x : Int32} (hdg : decode cc pc = .ok (.iload_n k, 1)) (hi : (k : Nat) = i) (hl : ls[i]? = some (.val (.int x))) (k : Wf p l e R s m args below meth c Q g I J (F0 m (pc + 1) ls (.int x :: rest))) : Wf p l e R s m args below meth c Q g I J (F0 m pc ls (rest)) := fun H locs hP hS => lv_iload_n C.1 C.2.1 hdg hi hl (k H locs hP hS)
theorem f_iload (C : Cx g p s m args meth c cc nL0 own ret) {i : Nat} {x : Int32} (hdg : decode cc pc = .ok (.iload i, 2)) (hl : ls[i]? = some (.val (.int x))) (k : Wf p l e R s m args below meth c Q g I J (F0 m (pc + 2) ls (.int x :: rest))) : Wf p l e R s m args below meth c Q g I J (F0 m pc ls (rest)) := fun H locs hP hS => lv_iload C.1 C.2.1 hdg hl (k H locs hP hS)
theorem f_istore (C : Cx g p s m args meth c cc nL0 own ret) {i nL : Nat} {x : Int32} {lv lv' : List (Nat × Value)} (hdg : decode cc pc = .ok (.istore i, 2)) (h : lv_has ls nL lv) (hn : i < nL) (hl : (i, Value.int x) :: lv.filter (fun q => !(q.1 == i) && !(q.1 + 1 == i && q.2.category == 2)) = lv') (kk : ∀ ls' : Array Slot, lv_has ls' nL lv' → Wf p l e R s m args below meth c Q g I J (F0 m (pc + 2) ls' rest)) : Wf p l e R s m args below meth c Q g I J (F0 m pc ls (.int x :: rest)) := fun H locs hP hS => lv_istore C.1 C.2.1 hdg h hn hl (fun ls' h' => kk ls' h' H locs hP hS)
theorem f_istore_n (C : Cx g p s m args meth c cc nL0 own ret) {k : Fin 4} {i nL : Nat} {x : Int32} {lv lv' : List (Nat × Value)} (hdg : decode cc pc = .ok (.istore_n k, 1)) (hi : (k : Nat) = i) (h : lv_has ls nL lv) (hn : i < nL) (hl : (i, Value.int x) :: lv.filter (fun q => !(q.1 == i) && !(q.1 + 1 == i && q.2.category == 2)) = lv') (kk : ∀ ls' : Array Slot, lv_has ls' nL lv' → Wf p l e R s m args below meth c Q g I J (F0 m (pc + 1) ls' rest)) : Wf p l e R s m args below meth c Q g I J (F0 m pc ls (.int x :: rest)) := fun H locs hP hS => lv_istore_n C.1 C.2.1 hdg hi h hn hl (fun ls' h' => kk ls' h' H locs hP hS)
theorem f_lstore_n (C : Cx g p s m args meth c cc nL0 own ret) {k : Fin 4} {i nL : Nat} {x : Int64} {lv lv' : List (Nat × Value)} (hdg : decode cc pc = .ok (.lstore_n k, 1)) (hi : (k : Nat) = i) (h : lv_has ls nL lv) (hn : i + 1 < nL) (hl : (i, Value.long x) :: lv.filter (fun q => !(q.1 == i) && (!(q.1 == i + 1) && !(q.1 + 1 == i && q.2.category == 2))) = lv') (kk : ∀ ls' : Array Slot, lv_has ls' nL lv' → Wf p l e R s m args below meth c Q g I J (F0 m (pc + 1) ls' rest)) : Wf p l e R s m args below meth c Q g I J (F0 m pc ls (.long x :: rest)) := fun H locs hP hS => lv_lstore_n C.1 C.2.1 hdg hi h hn hl (fun ls' h' => kk ls' h' H locs hP hS)
theorem f_lstore (C : Cx g p s m args meth c cc nL0 own ret) {i nL : Nat} {x : Int64} {lv lv' : List (Nat × Value)} (hdg : decode cc pc = .ok (.lstore i, 2)) (h : lv_has ls nL lv) (hn : i + 1 < nL) (hl : (i, Value.long x) :: lv.filter (fun q => !(q.1 == i) && (!(q.1 == i + 1) && !(q.1 + 1 == i && q.2.category == 2))) = lv') (kk : ∀ ls' : Array Slot, lv_has ls' nL lv' → Wf p l e R s m args below meth c Q g I J (F0 m (pc + 2) ls' rest)) : Wf p l e R s m args below meth c Q g I J (F0 m pc ls (.long x :: rest)) := fun H locs hP hS => lv_lstore C.1 C.2.1 hdg h hn hl (fun ls' h' => kk ls' h' H locs hP hS)
theorem f_lload (C : Cx g p s m args meth c cc nL0 own ret) {i : Nat} {x : Int64} (hdg : decode cc pc = .ok (.lload i, 2)) (hl : ls[i]? = some (.val (.long x))) (k : Wf p l e R s m args below meth c Q g I J (F0 m (pc + 2) ls (.long x :: rest))) : Wf p l e R s m args below meth c Q g I J (F0 m pc ls (rest)) := fun H locs hP hS => lv_lload C.1 C.2.1 hdg hl (k H locs hP hS)
theorem f_lload_n (C : Cx g p s m args meth c cc nL0 own ret) {k : Fin 4} {i : Nat} {x : Int64} (hdg : decode cc pc = .ok (.lload_n k, 1)) (hi : (k : Nat) = i) (hl : ls[i]? = some (.val (.long x))) (k : Wf p l e R s m args below meth c Q g I J (F0 m (pc + 1) ls (.long x :: rest))) : Wf p l e R s m args below meth c Q g I J (F0 m pc ls (rest)) := fun H locs hP hS => lv_lload_n C.1 C.2.1 hdg hi hl (k H locs hP hS)
theorem f_aload_n (C : Cx g p s m args meth c cc nL0 own ret) {k : Fin 4} {i : Nat} {x : Nat} (hdg : decode cc pc = .ok (.aload_n k, 1)) (hi : (k : Nat) = i) (hl : ls[i]? = some (.val (.ref x))) (k : Wf p l e R s m args below meth c Q g I J (F0 m (pc + 1) ls (.ref x :: rest))) : Wf p l e R s m args below meth c Q g I J (F0 m pc ls (rest)) := fun H locs hP hS => lv_aload_n C.1 C.2.1 hdg hi hl (k H locs hP hS)
theorem f_aload (C : Cx g p s m args meth c cc nL0 own ret) {i : Nat} {x : Nat} (hdg : decode cc pc = .ok (.aload i, 2)) (hl : ls[i]? = some (.val (.ref x))) (k : Wf p l e R s m args below meth c Q g I J (F0 m (pc + 2) ls (.ref x :: rest))) : Wf p l e R s m args below meth c Q g I J (F0 m pc ls (rest)) := fun H locs hP hS => lv_aload C.1 C.2.1 hdg hl (k H locs hP hS)
theorem f_astore (C : Cx g p s m args meth c cc nL0 own ret) {i nL : Nat} {x : Nat} {lv lv' : List (Nat × Value)} (hdg : decode cc pc = .ok (.astore i, 2)) (h : lv_has ls nL lv) (hn : i < nL) (hl : (i, Value.ref x) :: lv.filter (fun q => !(q.1 == i) && !(q.1 + 1 == i && q.2.category == 2)) = lv') (kk : ∀ ls' : Array Slot, lv_has ls' nL lv' → Wf p l e R s m args below meth c Q g I J (F0 m (pc + 2) ls' rest)) : Wf p l e R s m args below meth c Q g I J (F0 m pc ls (.ref x :: rest)) := fun H locs hP hS => lv_astore C.1 C.2.1 hdg h hn hl (fun ls' h' => kk ls' h' H locs hP hS)
theorem f_astore_n (C : Cx g p s m args meth c cc nL0 own ret) {k : Fin 4} {i nL : Nat} {x : Nat} {lv lv' : List (Nat × Value)} (hdg : decode cc pc = .ok (.astore_n k, 1)) (hi : (k : Nat) = i) (h : lv_has ls nL lv) (hn : i < nL) (hl : (i, Value.ref x) :: lv.filter (fun q => !(q.1 == i) && !(q.1 + 1 == i && q.2.category == 2)) = lv') (kk : ∀ ls' : Array Slot, lv_has ls' nL lv' → Wf p l e R s m args below meth c Q g I J (F0 m (pc + 1) ls' rest)) : Wf p l e R s m args below meth c Q g I J (F0 m pc ls (.ref x :: rest)) := fun H locs hP hS => lv_astore_n C.1 C.2.1 hdg hi h hn hl (fun ls' h' => kk ls' h' H locs hP hS)
theorem f_iinc (C : Cx g p s m args meth c cc nL0 own ret) {i nL k : Nat} {n : Int} {x v : Int32} {lv lv' : List (Nat × Value)} (hdg : decode cc pc = .ok (.iinc i n, 3)) (h : lv_has ls nL lv) (hk : lv[k]? = some (i, .int x)) (hv : x + Int32.ofInt n = v) (hn : i < nL) (hl : (i, Value.int v) :: lv.filter (fun q => !(q.1 == i) && !(q.1 + 1 == i && q.2.category == 2)) = lv') (kk : ∀ ls' : Array Slot, lv_has ls' nL lv' → Wf p l e R s m args below meth c Q g I J (F0 m (pc + 3) ls' rest)) : Wf p l e R s m args below meth c Q g I J (F0 m pc ls rest) := fun H locs hP hS => lv_iinc C.1 C.2.1 hdg h hk hv hn hl (fun ls' h' => kk ls' h' H locs hP hS)
theorem f_dup (C : Cx g p s m args meth c cc nL0 own ret) {va : Value} (hdg : decode cc pc = .ok (.dup, 1)) (hva : va.category = 1) (k : Wf p l e R s m args below meth c Q g I J (F0 m (pc + 1) ls (va :: va :: rest))) : Wf p l e R s m args below meth c Q g I J (F0 m pc ls (va :: rest)) := fun H locs hP hS => lv_dup C.1 C.2.1 hdg hva (k H locs hP hS)
theorem f_dup2_11 (C : Cx g p s m args meth c cc nL0 own ret) {va vb : Value} (hdg : decode cc pc = .ok (.dup2, 1)) (hva : va.category = 1) (hvb : vb.category = 1) (k : Wf p l e R s m args below meth c Q g I J (F0 m (pc + 1) ls (va :: vb :: va :: vb :: rest))) : Wf p l e R s m args below meth c Q g I J (F0 m pc ls (va :: vb :: rest)) := fun H locs hP hS => lv_dup2_11 C.1 C.2.1 hdg hva hvb (k H locs hP hS)
theorem f_pop (C : Cx g p s m args meth c cc nL0 own ret) {va : Value} (hdg : decode cc pc = .ok (.pop, 1)) (hva : va.category = 1) (k : Wf p l e R s m args below meth c Q g I J (F0 m (pc + 1) ls (rest))) : Wf p l e R s m args below meth c Q g I J (F0 m pc ls (va :: rest)) := fun H locs hP hS => lv_pop C.1 C.2.1 hdg hva (k H locs hP hS)
theorem f_iadd (C : Cx g p s m args meth c cc nL0 own ret) {x y : Int32} (hdg : decode cc pc = .ok (.iadd, 1)) (k : Wf p l e R s m args below meth c Q g I J (F0 m (pc + 1) ls (.int (x + y) :: rest))) : Wf p l e R s m args below meth c Q g I J (F0 m pc ls (.int y :: .int x :: rest)) := fun H locs hP hS => lv_iadd C.1 C.2.1 hdg (k H locs hP hS)
theorem f_isub (C : Cx g p s m args meth c cc nL0 own ret) {x y : Int32} (hdg : decode cc pc = .ok (.isub, 1)) (k : Wf p l e R s m args below meth c Q g I J (F0 m (pc + 1) ls (.int (x - y) :: rest))) : Wf p l e R s m args below meth c Q g I J (F0 m pc ls (.int y :: .int x :: rest)) := fun H locs hP hS => lv_isub C.1 C.2.1 hdg (k H locs hP hS)
theorem f_imul (C : Cx g p s m args meth c cc nL0 own ret) {x y : Int32} (hdg : decode cc pc = .ok (.imul, 1)) (k : Wf p l e R s m args below meth c Q g I J (F0 m (pc + 1) ls (.int (x * y) :: rest))) : Wf p l e R s m args below meth c Q g I J (F0 m pc ls (.int y :: .int x :: rest)) := fun H locs hP hS => lv_imul C.1 C.2.1 hdg (k H locs hP hS)
theorem f_idiv (C : Cx g p s m args meth c cc nL0 own ret) {x y : Int32} (hdg : decode cc pc = .ok (.idiv, 1)) (hne : ¬ y = 0) (k : Wf p l e R s m args below meth c Q g I J (F0 m (pc + 1) ls (.int (x / y) :: rest))) : Wf p l e R s m args below meth c Q g I J (F0 m pc ls (.int y :: .int x :: rest)) := fun H locs hP hS => lv_idiv C.1 C.2.1 hdg hne (k H locs hP hS)
theorem f_irem (C : Cx g p s m args meth c cc nL0 own ret) {x y : Int32} (hdg : decode cc pc = .ok (.irem, 1)) (hne : ¬ y = 0) (k : Wf p l e R s m args below meth c Q g I J (F0 m (pc + 1) ls (.int (x - x / y * y) :: rest))) : Wf p l e R s m args below meth c Q g I J (F0 m pc ls (.int y :: .int x :: rest)) := fun H locs hP hS => lv_irem C.1 C.2.1 hdg hne (k H locs hP hS)
theorem f_ineg (C : Cx g p s m args meth c cc nL0 own ret) {x : Int32} (hdg : decode cc pc = .ok (.ineg, 1)) (k : Wf p l e R s m args below meth c Q g I J (F0 m (pc + 1) ls (.int (-x) :: rest))) : Wf p l e R s m args below meth c Q g I J (F0 m pc ls (.int x :: rest)) := fun H locs hP hS => lv_ineg C.1 C.2.1 hdg (k H locs hP hS)
theorem f_iand (C : Cx g p s m args meth c cc nL0 own ret) {x y : Int32} (hdg : decode cc pc = .ok (.iand, 1)) (k : Wf p l e R s m args below meth c Q g I J (F0 m (pc + 1) ls (.int (x &&& y) :: rest))) : Wf p l e R s m args below meth c Q g I J (F0 m pc ls (.int y :: .int x :: rest)) := fun H locs hP hS => lv_iand C.1 C.2.1 hdg (k H locs hP hS)
theorem f_ior (C : Cx g p s m args meth c cc nL0 own ret) {x y : Int32} (hdg : decode cc pc = .ok (.ior, 1)) (k : Wf p l e R s m args below meth c Q g I J (F0 m (pc + 1) ls (.int (x ||| y) :: rest))) : Wf p l e R s m args below meth c Q g I J (F0 m pc ls (.int y :: .int x :: rest)) := fun H locs hP hS => lv_ior C.1 C.2.1 hdg (k H locs hP hS)
theorem f_ixor (C : Cx g p s m args meth c cc nL0 own ret) {x y : Int32} (hdg : decode cc pc = .ok (.ixor, 1)) (k : Wf p l e R s m args below meth c Q g I J (F0 m (pc + 1) ls (.int (x ^^^ y) :: rest))) : Wf p l e R s m args below meth c Q g I J (F0 m pc ls (.int y :: .int x :: rest)) := fun H locs hP hS => lv_ixor C.1 C.2.1 hdg (k H locs hP hS)
theorem f_ishl (C : Cx g p s m args meth c cc nL0 own ret) {x y : Int32} (hdg : decode cc pc = .ok (.ishl, 1)) (k : Wf p l e R s m args below meth c Q g I J (F0 m (pc + 1) ls (.int (x <<< (y &&& 31)) :: rest))) : Wf p l e R s m args below meth c Q g I J (F0 m pc ls (.int y :: .int x :: rest)) := fun H locs hP hS => lv_ishl C.1 C.2.1 hdg (k H locs hP hS)
theorem f_ishr (C : Cx g p s m args meth c cc nL0 own ret) {x y : Int32} (hdg : decode cc pc = .ok (.ishr, 1)) (k : Wf p l e R s m args below meth c Q g I J (F0 m (pc + 1) ls (.int (x >>> (y &&& 31)) :: rest))) : Wf p l e R s m args below meth c Q g I J (F0 m pc ls (.int y :: .int x :: rest)) := fun H locs hP hS => lv_ishr C.1 C.2.1 hdg (k H locs hP hS)
theorem f_iushr (C : Cx g p s m args meth c cc nL0 own ret) {x y v : Int32} (hdg : decode cc pc = .ok (.iushr, 1)) (hv : (x.toUInt32 >>> (y.toUInt32 &&& Int32.toUInt32 31)).toInt32 = v) (k : Wf p l e R s m args below meth c Q g I J (F0 m (pc + 1) ls (.int v :: rest))) : Wf p l e R s m args below meth c Q g I J (F0 m pc ls (.int y :: .int x :: rest)) := fun H locs hP hS => lv_iushr C.1 C.2.1 hdg hv (k H locs hP hS)
theorem f_ladd (C : Cx g p s m args meth c cc nL0 own ret) {x y : Int64} (hdg : decode cc pc = .ok (.ladd, 1)) (k : Wf p l e R s m args below meth c Q g I J (F0 m (pc + 1) ls (.long (x + y) :: rest))) : Wf p l e R s m args below meth c Q g I J (F0 m pc ls (.long y :: .long x :: rest)) := fun H locs hP hS => lv_ladd C.1 C.2.1 hdg (k H locs hP hS)
theorem f_lsub (C : Cx g p s m args meth c cc nL0 own ret) {x y : Int64} (hdg : decode cc pc = .ok (.lsub, 1)) (k : Wf p l e R s m args below meth c Q g I J (F0 m (pc + 1) ls (.long (x - y) :: rest))) : Wf p l e R s m args below meth c Q g I J (F0 m pc ls (.long y :: .long x :: rest)) := fun H locs hP hS => lv_lsub C.1 C.2.1 hdg (k H locs hP hS)
theorem f_lmul (C : Cx g p s m args meth c cc nL0 own ret) {x y : Int64} (hdg : decode cc pc = .ok (.lmul, 1)) (k : Wf p l e R s m args below meth c Q g I J (F0 m (pc + 1) ls (.long (x * y) :: rest))) : Wf p l e R s m args below meth c Q g I J (F0 m pc ls (.long y :: .long x :: rest)) := fun H locs hP hS => lv_lmul C.1 C.2.1 hdg (k H locs hP hS)
theorem f_land (C : Cx g p s m args meth c cc nL0 own ret) {x y : Int64} (hdg : decode cc pc = .ok (.land, 1)) (k : Wf p l e R s m args below meth c Q g I J (F0 m (pc + 1) ls (.long (x &&& y) :: rest))) : Wf p l e R s m args below meth c Q g I J (F0 m pc ls (.long y :: .long x :: rest)) := fun H locs hP hS => lv_land C.1 C.2.1 hdg (k H locs hP hS)
theorem f_lor (C : Cx g p s m args meth c cc nL0 own ret) {x y : Int64} (hdg : decode cc pc = .ok (.lor, 1)) (k : Wf p l e R s m args below meth c Q g I J (F0 m (pc + 1) ls (.long (x ||| y) :: rest))) : Wf p l e R s m args below meth c Q g I J (F0 m pc ls (.long y :: .long x :: rest)) := fun H locs hP hS => lv_lor C.1 C.2.1 hdg (k H locs hP hS)
theorem f_lshl (C : Cx g p s m args meth c cc nL0 own ret) {x v : Int64} {y : Int32} (hdg : decode cc pc = .ok (.lshl, 1)) (hv : x <<< (y.toInt64 &&& 63) = v) (k : Wf p l e R s m args below meth c Q g I J (F0 m (pc + 1) ls (.long v :: rest))) : Wf p l e R s m args below meth c Q g I J (F0 m pc ls (.int y :: .long x :: rest)) := fun H locs hP hS => lv_lshl C.1 C.2.1 hdg hv (k H locs hP hS)
theorem f_lshr (C : Cx g p s m args meth c cc nL0 own ret) {x v : Int64} {y : Int32} (hdg : decode cc pc = .ok (.lshr, 1)) (hv : x >>> (y.toInt64 &&& 63) = v) (k : Wf p l e R s m args below meth c Q g I J (F0 m (pc + 1) ls (.long v :: rest))) : Wf p l e R s m args below meth c Q g I J (F0 m pc ls (.int y :: .long x :: rest)) := fun H locs hP hS => lv_lshr C.1 C.2.1 hdg hv (k H locs hP hS)
theorem f_lushr (C : Cx g p s m args meth c cc nL0 own ret) {x v : Int64} {y : Int32} (hdg : decode cc pc = .ok (.lushr, 1)) (hv : (x.toUInt64 >>> (y.toInt64.toUInt64 &&& Int64.toUInt64 63)).toInt64 = v) (k : Wf p l e R s m args below meth c Q g I J (F0 m (pc + 1) ls (.long v :: rest))) : Wf p l e R s m args below meth c Q g I J (F0 m pc ls (.int y :: .long x :: rest)) := fun H locs hP hS => lv_lushr C.1 C.2.1 hdg hv (k H locs hP hS)
theorem f_lneg (C : Cx g p s m args meth c cc nL0 own ret) {x : Int64} (hdg : decode cc pc = .ok (.lneg, 1)) (k : Wf p l e R s m args below meth c Q g I J (F0 m (pc + 1) ls (.long (-x) :: rest))) : Wf p l e R s m args below meth c Q g I J (F0 m pc ls (.long x :: rest)) := fun H locs hP hS => lv_lneg C.1 C.2.1 hdg (k H locs hP hS)
theorem f_i2l (C : Cx g p s m args meth c cc nL0 own ret) {x : Int32} {v : Int64} (hdg : decode cc pc = .ok (.i2l, 1)) (hv : x.toInt64 = v) (k : Wf p l e R s m args below meth c Q g I J (F0 m (pc + 1) ls (.long v :: rest))) : Wf p l e R s m args below meth c Q g I J (F0 m pc ls (.int x :: rest)) := fun H locs hP hS => lv_i2l C.1 C.2.1 hdg hv (k H locs hP hS)
theorem f_l2i (C : Cx g p s m args meth c cc nL0 own ret) {x : Int64} {v : Int32} (hdg : decode cc pc = .ok (.l2i, 1)) (hv : x.toInt32 = v) (k : Wf p l e R s m args below meth c Q g I J (F0 m (pc + 1) ls (.int v :: rest))) : Wf p l e R s m args below meth c Q g I J (F0 m pc ls (.long x :: rest)) := fun H locs hP hS => lv_l2i C.1 C.2.1 hdg hv (k H locs hP hS)
theorem f_lcmp (C : Cx g p s m args meth c cc nL0 own ret) {x y : Int64} (hdg : decode cc pc = .ok (.lcmp, 1)) (k : Wf p l e R s m args below meth c Q g I J (F0 m (pc + 1) ls (.int (lg_cmp x y) :: rest))) : Wf p l e R s m args below meth c Q g I J (F0 m pc ls (.long y :: .long x :: rest)) := fun H locs hP hS => W.lcmp C.1 C.2.1 hdg (k H locs hP hS)
theorem f_goto (C : Cx g p s m args meth c cc nL0 own ret) {off : Int} {tgt : Nat} (hdg : decode cc pc = .ok (.goto off, 3)) (ht : (pc : Int) + off = (tgt : Int)) (k : Wf p l e R s m args below meth c Q g I J (F0 m tgt ls rest)) : Wf p l e R s m args below meth c Q g I J (F0 m pc ls rest) := fun H locs hP hS => lv_goto C.1 C.2.1 hdg ht (k H locs hP hS)
theorem f_tableIn (C : Cx g p s m args meth c cc nL0 own ret) {dflt lo hi : Int} {offs : Array Int} {len : Nat} {x : Int32} {off : Int} {tgt : Nat} (hdg : decode cc pc = .ok (.tableswitch dflt lo hi offs, len)) (h1 : ¬ x.toInt < lo) (h2 : ¬ hi < x.toInt) (ho : offs[(x.toInt - lo).toNat]? = some off) (ht : (pc : Int) + off = (tgt : Int)) (k : Wf p l e R s m args below meth c Q g I J (F0 m tgt ls rest)) : Wf p l e R s m args below meth c Q g I J (F0 m pc ls (.int x :: rest)) := fun H locs hP hS => lv_tableIn C.1 C.2.1 hdg h1 h2 ho ht (k H locs hP hS)
theorem f_tableOut (C : Cx g p s m args meth c cc nL0 own ret) {dflt lo hi : Int} {offs : Array Int} {len : Nat} {x : Int32} {tgt : Nat} (hdg : decode cc pc = .ok (.tableswitch dflt lo hi offs, len)) (h : x.toInt < lo ∨ hi < x.toInt) (ht : (pc : Int) + dflt = (tgt : Int)) (k : Wf p l e R s m args below meth c Q g I J (F0 m tgt ls rest)) : Wf p l e R s m args below meth c Q g I J (F0 m pc ls (.int x :: rest)) := fun H locs hP hS => lv_tableOut C.1 C.2.1 hdg h ht (k H locs hP hS)
theorem f_lookup (C : Cx g p s m args meth c cc nL0 own ret) {dflt : Int} {ps : Array (Int × Int)} {len : Nat} {x : Int32} {off : Int} {tgt : Nat} (hdg : decode cc pc = .ok (.lookupswitch dflt ps, len)) (hp : (ps.toList.zip (ps.toList.drop 1)).all (fun (a, next) => a.1 < next.1) = true) (ho : Op.lookupswitch.offset ps.toList dflt x.toInt = off) (ht : (pc : Int) + off = (tgt : Int)) (k : Wf p l e R s m args below meth c Q g I J (F0 m tgt ls rest)) : Wf p l e R s m args below meth c Q g I J (F0 m pc ls (.int x :: rest)) := fun H locs hP hS => lv_lookup C.1 C.2.1 hdg hp ho ht (k H locs hP hS)
theorem f_bipush (C : Cx g p s m args meth c cc nL0 own ret) {n : Int} {v : Int32} (hdg : decode cc pc = .ok (.bipush n, 2)) (hv : (Int8.ofInt n).toInt32 = v) (k : Wf p l e R s m args below meth c Q g I J (F0 m (pc + 2) ls (.int v :: rest))) : Wf p l e R s m args below meth c Q g I J (F0 m pc ls (rest)) := fun H locs hP hS => lv_bipush C.1 C.2.1 hdg hv (k H locs hP hS)
theorem f_sipush (C : Cx g p s m args meth c cc nL0 own ret) {n : Int} {v : Int32} (hdg : decode cc pc = .ok (.sipush n, 3)) (hv : (Int16.ofInt n).toInt32 = v) (k : Wf p l e R s m args below meth c Q g I J (F0 m (pc + 3) ls (.int v :: rest))) : Wf p l e R s m args below meth c Q g I J (F0 m pc ls (rest)) := fun H locs hP hS => lv_sipush C.1 C.2.1 hdg hv (k H locs hP hS)
theorem f_ldc (C : Cx g p s m args meth c cc nL0 own ret) {index : Nat} {v : Int32} (hconst : Jvm.Cond.constant own index v ∈ wG) (hdg : decode cc pc = .ok (.ldc index, 2)) (k : Wf p l e R s m args below meth c Q g I J (F0 m (pc + 2) ls (.int v :: rest))) : Wf p l e R s m args below meth c Q g I J (F0 m pc ls rest) := fun H locs hP hS => lv_ldc C.1 C.2.1 C.2.2.2.1 (C.2.2.2.2.1 _ hconst) hdg (k H locs hP hS)
theorem f_ldcw (C : Cx g p s m args meth c cc nL0 own ret) {index : Nat} {v : Int32} (hconst : Jvm.Cond.constant own index v ∈ wG) (hdg : decode cc pc = .ok (.ldc_w index, 3)) (k : Wf p l e R s m args below meth c Q g I J (F0 m (pc + 3) ls (.int v :: rest))) : Wf p l e R s m args below meth c Q g I J (F0 m pc ls rest) := fun H locs hP hS => lv_ldcw C.1 C.2.1 C.2.2.2.1 (C.2.2.2.2.1 _ hconst) hdg (k H locs hP hS)
theorem f_lconst (C : Cx g p s m args meth c cc nL0 own ret) {n : Fin 2} {v : Int64} (hdg : decode cc pc = .ok (.lconst n, 1)) (hv : Int64.ofNat (n : Nat) = v) (k : Wf p l e R s m args below meth c Q g I J (F0 m (pc + 1) ls (.long v :: rest))) : Wf p l e R s m args below meth c Q g I J (F0 m pc ls (rest)) := fun H locs hP hS => lv_lconst C.1 C.2.1 hdg hv (k H locs hP hS)
theorem f_ldc2 (C : Cx g p s m args meth c cc nL0 own ret) {index : Nat} {v : Int64} (hconst : Jvm.Cond.constantLong own index v ∈ wG) (hdg : decode cc pc = .ok (.ldc2_w index, 3)) (k : Wf p l e R s m args below meth c Q g I J (F0 m (pc + 3) ls (.long v :: rest))) : Wf p l e R s m args below meth c Q g I J (F0 m pc ls rest) := fun H locs hP hS => lv_ldc2 C.1 C.2.1 C.2.2.2.1 (C.2.2.2.2.1 _ hconst) hdg (k H locs hP hS)
theorem f_ifnonnull (C : Cx g p s m args meth c cc nL0 own ret) {x : Nat} {off : Int} {tgt : Nat} (hdg : decode cc pc = .ok (.ifnonnull off, 3)) (ht : (pc : Int) + off = (tgt : Int)) (k : Wf p l e R s m args below meth c Q g I J (F0 m tgt ls rest)) : Wf p l e R s m args below meth c Q g I J (F0 m pc ls (.ref x :: rest)) := fun H locs hP hS => lv_ifnonnull C.1 C.2.1 hdg ht (k H locs hP hS)
theorem f_ifnonnullN (C : Cx g p s m args meth c cc nL0 own ret) {off : Int} (hdg : decode cc pc = .ok (.ifnonnull off, 3)) (k : Wf p l e R s m args below meth c Q g I J (F0 m (pc + 3) ls rest)) : Wf p l e R s m args below meth c Q g I J (F0 m pc ls (.null :: rest)) := fun H locs hP hS => lv_ifnonnullN C.1 C.2.1 hdg (k H locs hP hS)
theorem f_icmp_eq (C : Cx g p s m args meth c cc nL0 own ret) {x y : Int32} {off : Int} {tgt : Nat} (hdg : decode cc pc = .ok (.if_icmp .eq off, 3)) (ht : (pc : Int) + off = (tgt : Int)) (kt : x = y → Wf p l e R s m args below meth c Q g I J (F0 m tgt ls rest)) (kf : ¬ x = y → Wf p l e R s m args below meth c Q g I J (F0 m (pc + 3) ls rest)) : Wf p l e R s m args below meth c Q g I J (F0 m pc ls (.int y :: .int x :: rest)) := fun H locs hP hS => lv_icmp_eq C.1 C.2.1 hdg ht (fun h => kt h H locs hP hS) (fun h => kf h H locs hP hS)
theorem f_icmp_ne (C : Cx g p s m args meth c cc nL0 own ret) {x y : Int32} {off : Int} {tgt : Nat} (hdg : decode cc pc = .ok (.if_icmp .ne off, 3)) (ht : (pc : Int) + off = (tgt : Int)) (kt : ¬ x = y → Wf p l e R s m args below meth c Q g I J (F0 m tgt ls rest)) (kf : x = y → Wf p l e R s m args below meth c Q g I J (F0 m (pc + 3) ls rest)) : Wf p l e R s m args below meth c Q g I J (F0 m pc ls (.int y :: .int x :: rest)) := fun H locs hP hS => lv_icmp_ne C.1 C.2.1 hdg ht (fun h => kt h H locs hP hS) (fun h => kf h H locs hP hS)
theorem f_icmp_lt (C : Cx g p s m args meth c cc nL0 own ret) {x y : Int32} {off : Int} {tgt : Nat} (hdg : decode cc pc = .ok (.if_icmp .lt off, 3)) (ht : (pc : Int) + off = (tgt : Int)) (kt : x < y → Wf p l e R s m args below meth c Q g I J (F0 m tgt ls rest)) (kf : ¬ x < y → Wf p l e R s m args below meth c Q g I J (F0 m (pc + 3) ls rest)) : Wf p l e R s m args below meth c Q g I J (F0 m pc ls (.int y :: .int x :: rest)) := fun H locs hP hS => lv_icmp_lt C.1 C.2.1 hdg ht (fun h => kt h H locs hP hS) (fun h => kf h H locs hP hS)
theorem f_icmp_ge (C : Cx g p s m args meth c cc nL0 own ret) {x y : Int32} {off : Int} {tgt : Nat} (hdg : decode cc pc = .ok (.if_icmp .ge off, 3)) (ht : (pc : Int) + off = (tgt : Int)) (kt : y ≤ x → Wf p l e R s m args below meth c Q g I J (F0 m tgt ls rest)) (kf : ¬ y ≤ x → Wf p l e R s m args below meth c Q g I J (F0 m (pc + 3) ls rest)) : Wf p l e R s m args below meth c Q g I J (F0 m pc ls (.int y :: .int x :: rest)) := fun H locs hP hS => lv_icmp_ge C.1 C.2.1 hdg ht (fun h => kt h H locs hP hS) (fun h => kf h H locs hP hS)
theorem f_icmp_gt (C : Cx g p s m args meth c cc nL0 own ret) {x y : Int32} {off : Int} {tgt : Nat} (hdg : decode cc pc = .ok (.if_icmp .gt off, 3)) (ht : (pc : Int) + off = (tgt : Int)) (kt : y < x → Wf p l e R s m args below meth c Q g I J (F0 m tgt ls rest)) (kf : ¬ y < x → Wf p l e R s m args below meth c Q g I J (F0 m (pc + 3) ls rest)) : Wf p l e R s m args below meth c Q g I J (F0 m pc ls (.int y :: .int x :: rest)) := fun H locs hP hS => lv_icmp_gt C.1 C.2.1 hdg ht (fun h => kt h H locs hP hS) (fun h => kf h H locs hP hS)
theorem f_icmp_le (C : Cx g p s m args meth c cc nL0 own ret) {x y : Int32} {off : Int} {tgt : Nat} (hdg : decode cc pc = .ok (.if_icmp .le off, 3)) (ht : (pc : Int) + off = (tgt : Int)) (kt : x ≤ y → Wf p l e R s m args below meth c Q g I J (F0 m tgt ls rest)) (kf : ¬ x ≤ y → Wf p l e R s m args below meth c Q g I J (F0 m (pc + 3) ls rest)) : Wf p l e R s m args below meth c Q g I J (F0 m pc ls (.int y :: .int x :: rest)) := fun H locs hP hS => lv_icmp_le C.1 C.2.1 hdg ht (fun h => kt h H locs hP hS) (fun h => kf h H locs hP hS)
theorem f_if_eq (C : Cx g p s m args meth c cc nL0 own ret) {x : Int32} {off : Int} {tgt : Nat} (hdg : decode cc pc = .ok (.ifCond .eq off, 3)) (ht : (pc : Int) + off = (tgt : Int)) (kt : x = 0 → Wf p l e R s m args below meth c Q g I J (F0 m tgt ls rest)) (kf : ¬ x = 0 → Wf p l e R s m args below meth c Q g I J (F0 m (pc + 3) ls rest)) : Wf p l e R s m args below meth c Q g I J (F0 m pc ls (.int x :: rest)) := fun H locs hP hS => lv_if_eq C.1 C.2.1 hdg ht (fun h => kt h H locs hP hS) (fun h => kf h H locs hP hS)
theorem f_if_ne (C : Cx g p s m args meth c cc nL0 own ret) {x : Int32} {off : Int} {tgt : Nat} (hdg : decode cc pc = .ok (.ifCond .ne off, 3)) (ht : (pc : Int) + off = (tgt : Int)) (kt : ¬ x = 0 → Wf p l e R s m args below meth c Q g I J (F0 m tgt ls rest)) (kf : x = 0 → Wf p l e R s m args below meth c Q g I J (F0 m (pc + 3) ls rest)) : Wf p l e R s m args below meth c Q g I J (F0 m pc ls (.int x :: rest)) := fun H locs hP hS => lv_if_ne C.1 C.2.1 hdg ht (fun h => kt h H locs hP hS) (fun h => kf h H locs hP hS)
theorem f_if_lt (C : Cx g p s m args meth c cc nL0 own ret) {x : Int32} {off : Int} {tgt : Nat} (hdg : decode cc pc = .ok (.ifCond .lt off, 3)) (ht : (pc : Int) + off = (tgt : Int)) (kt : x < 0 → Wf p l e R s m args below meth c Q g I J (F0 m tgt ls rest)) (kf : ¬ x < 0 → Wf p l e R s m args below meth c Q g I J (F0 m (pc + 3) ls rest)) : Wf p l e R s m args below meth c Q g I J (F0 m pc ls (.int x :: rest)) := fun H locs hP hS => lv_if_lt C.1 C.2.1 hdg ht (fun h => kt h H locs hP hS) (fun h => kf h H locs hP hS)
theorem f_if_ge (C : Cx g p s m args meth c cc nL0 own ret) {x : Int32} {off : Int} {tgt : Nat} (hdg : decode cc pc = .ok (.ifCond .ge off, 3)) (ht : (pc : Int) + off = (tgt : Int)) (kt : 0 ≤ x → Wf p l e R s m args below meth c Q g I J (F0 m tgt ls rest)) (kf : ¬ 0 ≤ x → Wf p l e R s m args below meth c Q g I J (F0 m (pc + 3) ls rest)) : Wf p l e R s m args below meth c Q g I J (F0 m pc ls (.int x :: rest)) := fun H locs hP hS => lv_if_ge C.1 C.2.1 hdg ht (fun h => kt h H locs hP hS) (fun h => kf h H locs hP hS)
theorem f_if_gt (C : Cx g p s m args meth c cc nL0 own ret) {x : Int32} {off : Int} {tgt : Nat} (hdg : decode cc pc = .ok (.ifCond .gt off, 3)) (ht : (pc : Int) + off = (tgt : Int)) (kt : 0 < x → Wf p l e R s m args below meth c Q g I J (F0 m tgt ls rest)) (kf : ¬ 0 < x → Wf p l e R s m args below meth c Q g I J (F0 m (pc + 3) ls rest)) : Wf p l e R s m args below meth c Q g I J (F0 m pc ls (.int x :: rest)) := fun H locs hP hS => lv_if_gt C.1 C.2.1 hdg ht (fun h => kt h H locs hP hS) (fun h => kf h H locs hP hS)
theorem f_if_le (C : Cx g p s m args meth c cc nL0 own ret) {x : Int32} {off : Int} {tgt : Nat} (hdg : decode cc pc = .ok (.ifCond .le off, 3)) (ht : (pc : Int) + off = (tgt : Int)) (kt : x ≤ 0 → Wf p l e R s m args below meth c Q g I J (F0 m tgt ls rest)) (kf : ¬ x ≤ 0 → Wf p l e R s m args below meth c Q g I J (F0 m (pc + 3) ls rest)) : Wf p l e R s m args below meth c Q g I J (F0 m pc ls (.int x :: rest)) := fun H locs hP hS => lv_if_le C.1 C.2.1 hdg ht (fun h => kt h H locs hP hS) (fun h => kf h H locs hP hS)
theorem f_iret {v : Int32} {q : Int32 → MI → MJ → Prop} (C : Cx g p s m args meth c cc nL0 own (some .int)) (hq : q v I J) (hdg : decode cc pc = .ok (.ireturn, 1)) : Wf p l e R s m args below meth c (MQ below (Qg g (PI q)) args s 0 0 (gA g)) g I J (F0 m pc ls [.int v]) := fun H locs hP hS =>
  W.iret C.1 C.2.1 C.2.2.2.2.2.2.2.2.2 (fun t ht hW => ⟨⟨some (.int v), I, J, rfl, ⟨v, rfl, hq⟩, by rw [ht]; exact hP, C.2.2.2.2.2.1.warm hW, by rw [ht]; exact C.2.2.2.2.2.2.1.moved hW.alike hS.2.1, C.2.2.2.2.2.2.2.1⟩, hS.F ht⟩) hS.2.2 hdg C.2.2.2.2.2.2.2.2.1
theorem f_lret {v : Int64} {q : Int64 → MI → MJ → Prop} (C : Cx g p s m args meth c cc nL0 own (some .long)) (hq : q v I J) (hdg : decode cc pc = .ok (.lreturn, 1)) : Wf p l e R s m args below meth c (MQ below (Qg g (PL q)) args s 0 0 (gA g)) g I J (F0 m pc ls [.long v]) := fun H locs hP hS =>
  W.lret C.1 C.2.1 C.2.2.2.2.2.2.2.2.2 (fun t ht hW => ⟨⟨some (.long v), I, J, rfl, ⟨v, rfl, hq⟩, by rw [ht]; exact hP, C.2.2.2.2.2.1.warm hW, by rw [ht]; exact C.2.2.2.2.2.2.1.moved hW.alike hS.2.1, C.2.2.2.2.2.2.2.1⟩, hS.F ht⟩) hS.2.2 hdg C.2.2.2.2.2.2.2.2.1
theorem f_zret {v : Int32} {q : Int32 → MI → MJ → Prop} (C : Cx g p s m args meth c cc nL0 own (some .boolean)) (hn : v = 0 ∨ v = 1) (hq : q v I J) (hdg : decode cc pc = .ok (.ireturn, 1)) : Wf p l e R s m args below meth c (MQ below (Qg g (PI q)) args s 0 0 (gA g)) g I J (F0 m pc ls [.int v]) := fun H locs hP hS =>
  W.zret C.1 C.2.1 C.2.2.2.2.2.2.2.2.2 (by rcases hn with rfl | rfl <;> decide +kernel) (fun t ht hW => ⟨⟨some (.int v), I, J, rfl, ⟨v, rfl, hq⟩, by rw [ht]; exact hP, C.2.2.2.2.2.1.warm hW, by rw [ht]; exact C.2.2.2.2.2.2.1.moved hW.alike hS.2.1, C.2.2.2.2.2.2.2.1⟩, hS.F ht⟩) hS.2.2 hdg C.2.2.2.2.2.2.2.2.1
theorem f_vret {q : MI → MJ → Prop} (C : Cx g p s m args meth c cc nL0 own none) (hq : q I J) (hdg : decode cc pc = .ok (.return_, 1)) : Wf p l e R s m args below meth c (MQ below (Qg g (PV q)) args s 0 0 (gA g)) g I J (F0 m pc ls []) := fun H locs hP hS =>
  W.vret C.1 C.2.1 C.2.2.2.2.2.2.2.2.2 (fun t ht hW => ⟨⟨none, I, J, rfl, ⟨rfl, hq⟩, by rw [ht]; exact hP, C.2.2.2.2.2.1.warm hW, by rw [ht]; exact C.2.2.2.2.2.2.1.moved hW.alike hS.2.1, C.2.2.2.2.2.2.2.1⟩, hS.F ht⟩) hS.2.2 hdg C.2.2.2.2.2.2.2.2.1
theorem f_get {ref C0 : String} {T0 : u_T} {N ci index t r : Nat} {fs : List Value} {v : Value} (C : Cx g p s m args meth c cc nL0 own ret) (hr : r < cnt t) (hc : cel g I J t r = .inr (ci, fs)) (hin : ∀ w ∈ u_ws C0 T0 N, w ∈ wG) (hcl : vwCl[ci]? = some (C0, T0, N)) (k : Nat) (hk : k < N) (hlink : Cond.fieldLink own index ref (T0 k).2.1 (T0 k).2.2.1 ∈ wG) (hsame : (T0 k).1 = ref) (hv : fs[k]? = some v) (hdg : decode cc pc = .ok (.getfield index, 3)) (kk : Wf p l e R s m args below meth c Q g I J (F0 m (pc + 3) ls (v :: rest))) : Wf p l e R s m args below meth c Q g I J (F0 m pc ls (.ref (gad g t r) :: rest)) := fun H locs hP hS => by
  obtain ⟨j, hj⟩ := wl_at hr
  exact va_get C.1 C.2.1 C.2.2.2.2.1 hin C.2.2.2.1 C.2.2.2.2.2.1.1 hP j (by rw [wl_get hj, hc]) hcl k hk (C.2.2.2.2.1 _ hlink) (by rw [hsame]; exact fun _ h => h) hv hdg (kk H locs hP hS)
theorem f_putI {ref C0 : String} {T0 : u_T} {N ci index t r : Nat} {fs : List Value} {v : Int32} {ty : FieldType} (C : Cx g p s m args meth c cc nL0 own ret) (hr : r < cnt t) (k : Nat) (hc : cel g I J t r = .inr (ci, fs)) (hc2 : cel g (up3 I t r k v) J t r = .inr (ci, fs.set k (.int v))) (hin : ∀ w ∈ u_ws C0 T0 N, w ∈ wG) (ty0 : Nat → FieldType) (hty : ∀ k, k < N → parseFieldDescriptor (T0 k).2.2.1 = some (ty0 k)) (hnm : ∀ a, a < N → ∀ b, b < N → a ≠ b → (T0 a).2.1 ≠ (T0 b).2.1) (hcl : vwCl[ci]? = some (C0, T0, N)) (hk : k < N) (hlink : Cond.fieldLink own index ref (T0 k).2.1 (T0 k).2.2.1 ∈ wG) (hsame : (T0 k).1 = ref) (hfin : (T0 k).2.2.2 = false) (hd : parseFieldDescriptor (T0 k).2.2.1 = some ty) (hn : narrow ty (.int v) = .int v ∧ fits ty (.int v) = true) (hl : k < fs.length) (hdg : decode cc pc = .ok (.putfield index, 3)) (kk : Wf p l e R s m args below meth c Q g (up3 I t r k v) J (F0 m (pc + 3) ls rest)) : Wf p l e R s m args below meth c Q g I J (F0 m pc ls (.int v :: .ref (gad g t r) :: rest)) := fun H locs hP hS => by
  obtain ⟨j, hj⟩ := wl_at hr
  refine va_put C.1 C.2.1 C.2.2.2.2.1 hin ty0 hty hnm C.2.2.2.1 C.2.2.2.2.2.1.1 hP (C.2.2.2.2.2.2.2.1.D I J) hS j (by rw [wl_get hj, hc]) hcl k hk (C.2.2.2.2.1 _ hlink) (by rw [hsame]; exact fun _ h => h) hfin hd hn.1 hn.2 hl hdg (fun H1 locs1 hP1 hD1 hS1 => kk H1 locs1 ?_ hS1)
  rw [wl_setI hj hc2] at hP1
  exact hP1
theorem f_putJ {ref C0 : String} {T0 : u_T} {N ci index t r : Nat} {fs : List Value} {v : Int64} (C : Cx g p s m args meth c cc nL0 own ret) (hr : r < cnt t) (k : Nat) (hc : cel g I J t r = .inr (ci, fs)) (hc2 : cel g I (up3L J t r k v) t r = .inr (ci, fs.set k (.long v))) (hin : ∀ w ∈ u_ws C0 T0 N, w ∈ wG) (ty0 : Nat → FieldType) (hty : ∀ k, k < N → parseFieldDescriptor (T0 k).2.2.1 = some (ty0 k)) (hnm : ∀ a, a < N → ∀ b, b < N → a ≠ b → (T0 a).2.1 ≠ (T0 b).2.1) (hcl : vwCl[ci]? = some (C0, T0, N)) (hk : k < N) (hlink : Cond.fieldLink own index ref (T0 k).2.1 (T0 k).2.2.1 ∈ wG) (hsame : (T0 k).1 = ref) (hfin : (T0 k).2.2.2 = false) (hd : parseFieldDescriptor (T0 k).2.2.1 = some .long) (hl : k < fs.length) (hdg : decode cc pc = .ok (.putfield index, 3)) (kk : Wf p l e R s m args below meth c Q g I (up3L J t r k v) (F0 m (pc + 3) ls rest)) : Wf p l e R s m args below meth c Q g I J (F0 m pc ls (.long v :: .ref (gad g t r) :: rest)) := fun H locs hP hS => by
  obtain ⟨j, hj⟩ := wl_at hr
  refine va_put C.1 C.2.1 C.2.2.2.2.1 hin ty0 hty hnm C.2.2.2.1 C.2.2.2.2.2.1.1 hP (C.2.2.2.2.2.2.2.1.D I J) hS j (by rw [wl_get hj, hc]) hcl k hk (C.2.2.2.2.1 _ hlink) (by rw [hsame]; exact fun _ h => h) hfin hd rfl rfl hl hdg (fun H1 locs1 hP1 hD1 hS1 => kk H1 locs1 ?_ hS1)
  rw [wl_setJ hj hc2] at hP1
  exact hP1
theorem f_iald {t r n : Nat} {i : Int32} (C : Cx g p s m args meth c cc nL0 own ret) (hr : r < cnt t) (hc : cel g I J t r = .inl (gc g 0, n, .inl (I t r))) (hin : vp_in i n) (hdg : decode cc pc = .ok (.iaload, 1)) (kk : Wf p l e R s m args below meth c Q g I J (F0 m (pc + 1) ls (.int (I t r i.toNatClampNeg) :: rest))) : Wf p l e R s m args below meth c Q g I J (F0 m pc ls (.int i :: .ref (gad g t r) :: rest)) := fun H locs hP hS => by
  obtain ⟨j, hj⟩ := wl_at hr
  exact va_iald C.1 C.2.1 C.2.2.2.2.2.1.1 hP j 0 (by rw [wl_get hj, hc]) rfl hin hdg (kk H locs hP hS)
theorem f_zald {t r n : Nat} {i : Int32} (C : Cx g p s m args meth c cc nL0 own ret) (hr : r < cnt t) (hc : cel g I J t r = .inl (gc g 2, n, .inl (I t r))) (hin : vp_in i n) (hdg : decode cc pc = .ok (.baload, 1)) (kk : Wf p l e R s m args below meth c Q g I J (F0 m (pc + 1) ls (.int (I t r i.toNatClampNeg) :: rest))) : Wf p l e R s m args below meth c Q g I J (F0 m pc ls (.int i :: .ref (gad g t r) :: rest)) := fun H locs hP hS => by
  obtain ⟨j, hj⟩ := wl_at hr
  exact va_zald C.1 C.2.1 C.2.2.2.2.2.1.1 hP j 2 (by rw [wl_get hj, hc]) rfl hin hdg (kk H locs hP hS)
theorem f_lald {t r n : Nat} {i : Int32} (C : Cx g p s m args meth c cc nL0 own ret) (hr : r < cnt t) (hc : cel g I J t r = .inl (gc g 1, n, .inr (.inl (J t r)))) (hin : vp_in i n) (hdg : decode cc pc = .ok (.laload, 1)) (kk : Wf p l e R s m args below meth c Q g I J (F0 m (pc + 1) ls (.long (J t r i.toNatClampNeg) :: rest))) : Wf p l e R s m args below meth c Q g I J (F0 m pc ls (.int i :: .ref (gad g t r) :: rest)) := fun H locs hP hS => by
  obtain ⟨j, hj⟩ := wl_at hr
  exact va_lald C.1 C.2.1 C.2.2.2.2.2.1.1 hP j 1 (by rw [wl_get hj, hc]) rfl hin hdg (kk H locs hP hS)
theorem f_iast {t r n : Nat} {i x : Int32} (C : Cx g p s m args meth c cc nL0 own ret) (hr : r < cnt t) (hc : ∀ I' : MI, cel g I' J t r = .inl (gc g 0, n, .inl (I' t r))) (hin : vp_in i n) (hdg : decode cc pc = .ok (.iastore, 1)) (kk : Wf p l e R s m args below meth c Q g (up3 I t r i.toNatClampNeg x) J (F0 m (pc + 1) ls rest)) : Wf p l e R s m args below meth c Q g I J (F0 m pc ls (.int x :: .int i :: .ref (gad g t r) :: rest)) := fun H locs hP hS => by
  obtain ⟨j, hj⟩ := wl_at hr
  refine va_iast C.1 C.2.1 C.2.2.2.2.2.1.1 hP (C.2.2.2.2.2.2.2.1.D I J) hS j 0 (by rw [wl_get hj, hc]) rfl hin hdg (fun H1 locs1 hP1 hD1 hS1 => kk H1 locs1 ?_ hS1)
  rw [wl_setI (j := i.toNatClampNeg) (v := x) hj (by rw [hc, up3_r])] at hP1
  exact hP1
theorem f_zast {t r n : Nat} {i x : Int32} (C : Cx g p s m args meth c cc nL0 own ret) (hr : r < cnt t) (hc : ∀ I' : MI, cel g I' J t r = .inl (gc g 2, n, .inl (I' t r))) (hin : vp_in i n) (hx : vp_nar .boolean x = x) (hdg : decode cc pc = .ok (.bastore, 1)) (kk : Wf p l e R s m args below meth c Q g (up3 I t r i.toNatClampNeg x) J (F0 m (pc + 1) ls rest)) : Wf p l e R s m args below meth c Q g I J (F0 m pc ls (.int x :: .int i :: .ref (gad g t r) :: rest)) := fun H locs hP hS => by
  obtain ⟨j, hj⟩ := wl_at hr
  refine va_zast C.1 C.2.1 C.2.2.2.2.2.1.1 hP (C.2.2.2.2.2.2.2.1.D I J) hS j 2 (by rw [wl_get hj, hc]) rfl hin hdg (fun H1 locs1 hP1 hD1 hS1 => kk H1 locs1 ?_ hS1)
  rw [hx, wl_setI (j := i.toNatClampNeg) (v := x) hj (by rw [hc, up3_r])] at hP1
  exact hP1
theorem f_last {t r n : Nat} {i : Int32} {x : Int64} (C : Cx g p s m args meth c cc nL0 own ret) (hr : r < cnt t) (hc : ∀ J' : MJ, cel g I J' t r = .inl (gc g 1, n, .inr (.inl (J' t r)))) (hin : vp_in i n) (hdg : decode cc pc = .ok (.lastore, 1)) (kk : Wf p l e R s m args below meth c Q g I (up3L J t r i.toNatClampNeg x) (F0 m (pc + 1) ls rest)) : Wf p l e R s m args below meth c Q g I J (F0 m pc ls (.long x :: .int i :: .ref (gad g t r) :: rest)) := fun H locs hP hS => by
  obtain ⟨j, hj⟩ := wl_at hr
  refine va_last C.1 C.2.1 C.2.2.2.2.2.1.1 hP (C.2.2.2.2.2.2.2.1.D I J) hS j 1 (by rw [wl_get hj, hc]) rfl hin hdg (fun H1 locs1 hP1 hD1 hS1 => kk H1 locs1 ?_ hS1)
  rw [wl_setJ (j := i.toNatClampNeg) (v := x) hj (by rw [hc, up3L_r])] at hP1
  exact hP1
theorem f_aldR {r : Nat} {i : Int32} (C : Cx g p s m args meth c cc nL0 own ret) (hr : r < 3) (hin : vp_in i 8) (hdg : decode cc pc = .ok (.aaload, 1)) (kk : Wf p l e R s m args below meth c Q g I J (F0 m (pc + 1) ls (.ref (gad g 4 (8 * r + i.toNatClampNeg)) :: rest))) : Wf p l e R s m args below meth c Q g I J (F0 m pc ls (.int i :: .ref (gad g 19 r) :: rest)) := fun H locs hP hS => by
  obtain ⟨j, hj⟩ := wl_at (t := 19) (r := r) hr
  exact va_aldq C.1 C.2.1 C.2.2.2.2.2.1.1 hP j 3 (f := fun k => some (gad g 4 (8 * r + k))) (by rw [wl_get hj]; rfl) rfl hin hdg (kk H locs hP hS)
theorem f_aldY {r : Nat} {i : Int32} (C : Cx g p s m args meth c cc nL0 own ret) (hr : r < 1) (hin : vp_in i 2) (hdg : decode cc pc = .ok (.aaload, 1)) (kk : Wf p l e R s m args below meth c Q g I J (F0 m (pc + 1) ls (.ref (gad g 6 (1 + i.toNatClampNeg)) :: rest))) : Wf p l e R s m args below meth c Q g I J (F0 m pc ls (.int i :: .ref (gad g 20 r) :: rest)) := fun H locs hP hS => by
  obtain ⟨j, hj⟩ := wl_at (t := 20) (r := r) hr
  exact va_aldq C.1 C.2.1 C.2.2.2.2.2.1.1 hP j 4 (f := fun k => some (gad g 6 (1 + k))) (by rw [wl_get hj]; rfl) rfl hin hdg (kk H locs hP hS)
theorem f_gets {ref : String} {index : Nat} (k : Nat) (hk : k < 6) (C : Cx g p s m args meth c cc nL0 own ret) (hlink : Cond.fieldLink own index ref (stN k) "[I" ∈ wG) (hsame : stC k = ref) (hdg : decode cc pc = .ok (.getstatic index, 3)) (kk : Wf p l e R s m args below meth c Q g I J (F0 m (pc + 3) ls (.ref (gs g k) :: rest))) : Wf p l e R s m args below meth c Q g I J (F0 m pc ls rest) := fun H locs hP hS =>
  va_gets C.1 C.2.1 (C.2.2.2.2.2.2.1 k hk).1 hS C.2.2.2.1 (C.2.2.2.2.1 _ hlink) (by rw [hsame]; exact fun _ h => h) hdg (kk H locs hP hS)
theorem f_ialdS {i : Int32} (k : Nat) (hk : k < 6) (C : Cx g p s m args meth c cc nL0 own ret) (hin : vp_in i (stL k)) (hdg : decode cc pc = .ok (.iaload, 1)) (kk : Wf p l e R s m args below meth c Q g I J (F0 m (pc + 1) ls (.int (stV k i.toNatClampNeg) :: rest))) : Wf p l e R s m args below meth c Q g I J (F0 m pc ls (.int i :: .ref (gs g k) :: rest)) := fun H locs hP hS =>
  va_ti C.1 C.2.1 (C.2.2.2.2.2.2.1 k hk).2 hS hin rfl hdg (kk H locs hP hS)
theorem f_alenS {v : Int32} (k : Nat) (hk : k < 6) (C : Cx g p s m args meth c cc nL0 own ret) (hv : Int32.ofNat (stL k) = v) (hdg : decode cc pc = .ok (.arraylength, 1)) (kk : Wf p l e R s m args below meth c Q g I J (F0 m (pc + 1) ls (.int v :: rest))) : Wf p l e R s m args below meth c Q g I J (F0 m pc ls (.ref (gs g k) :: rest)) := fun H locs hP hS =>
  va_tlen C.1 C.2.1 (C.2.2.2.2.2.2.1 k hk).2 hS hv hdg (kk H locs hP hS)
theorem f_copy {t0 r0 t r n0 n1 index : Nat} {sp dp n : Int32} (C : Cx g p s m args meth c cc nL0 own ret) (hml : ls.size = nL0) (hlink : Cond.methodLink own index arraycopyName ∈ wG) (hr0 : r0 < cnt t0) (hr : r < cnt t) (hc0 : cel g I J t0 r0 = .inl (gc g 0, n0, .inl (I t0 r0))) (hc : ∀ I' : MI, cel g I' J t r = .inl (gc g 0, n1, .inl (I' t r)))
    (h1 : ¬ sp < 0) (h2 : ¬ dp < 0) (h3 : ¬ n < 0) (h4 : sp.toNatClampNeg + n.toNatClampNeg ≤ n0) (h5 : dp.toNatClampNeg + n.toNatClampNeg ≤ n1) (hnat : Cond.native arraycopyName ∈ wG) (hstat : Cond.static arraycopyName ∈ wG) (hini : Cond.initialized "java/lang/System" ∈ wG)
    (hframes : 1 ≤ R.frames) (hlocals : (rest.map fun v => v.category).sum + (nativeFrameWords "java/lang/System" "arraycopy" 5 + 11) ≤ R.locals) (hdg : decode cc pc = .ok (.invokestatic index, 3)) (kk : Wf p l e R s m args below meth c Q g (row3 I t r (va_cpy (I t0 r0) (I t r) sp.toNatClampNeg dp.toNatClampNeg n.toNatClampNeg)) J (F0 m (pc + 3) ls rest)) : Wf p l e R s m args below meth c Q g I J (F0 m pc ls (.int n :: .int dp :: .ref (gad g t r) :: .int sp :: .ref (gad g t0 r0) :: rest)) := fun H locs hP hS => by
  obtain ⟨j0, hj0⟩ := wl_at hr0
  obtain ⟨j, hj⟩ := wl_at hr
  refine va_copyi C.1 C.2.1 (by rw [C.2.2.1, hml]) C.2.2.2.1 (C.2.2.2.2.1 _ hlink) (C.2.2.2.2.1 _ hnat) (C.2.2.2.2.1 _ hstat) (C.2.2.2.2.1 _ hini) C.2.2.2.2.2.1.1 hP (C.2.2.2.2.2.2.2.1.D I J) hS j0 j 0 0 (ty := .int) (by rw [wl_get hj0, hc0]) (by rw [wl_get hj, hc]) rfl rfl rfl h1 h2 h3 h4 h5 (fun _ _ => rfl) hframes hlocals hdg (fun H1 locs1 hP1 hD1 hS1 => kk H1 locs1 ?_ hS1)
  rw [wl_setR hj (by rw [hc, row3_r])] at hP1
  exact hP1
theorem f_call {post : Option Value → MI → MJ → Prop} {st0 : List Value} {aa : Array Value} (hr : ∀ (H : Heap) (locs : List Loc), va_P (gD g) vwCl (wl g I J) H → va_S (gA g) s.heap H locs → va_Run p l e R s m args below meth c H locs 0 0 0 0 (F0 m pc ls st0) rest (Qg g post aa) (gA g)) (kk : ∀ (v : Option Value) (I' : MI) (J' : MJ), post v I' J' → Wf p l e R s m args below meth c Q g I' J' (F0 m (pc + 3) ls (v.toList ++ rest))) : Wf p l e R s m args below meth c Q g I J (F0 m pc ls st0) := by
  intro H locs hP hS T hT X
  obtain ⟨v, st₀, t, T', L, h0, X', hL, e1, e2, ⟨⟨v', I', J', hv, hp, hG⟩, hz, hk⟩, st⟩ := hr H locs hP hS T hT X
  cases hv
  rw [h0] at hz hk
  obtain ⟨t2, a1, b1⟩ := kk v I' J' hp T'.heap (locs ++ L) (by rw [e1]; exact hG.1)
    ⟨Nat.le_trans hS.1 (by rw [e1]; exact hz), fun q h1 h2 => by rw [e1, hk q (Nat.lt_of_lt_of_le h1 hS.1) h2]; exact hS.2.1 q h1 h2, fun q hq => by
      rcases List.mem_append.mp hq with h | h
      · exact hS.2.2 q h
      · exact hL q h⟩ T' rfl X'
  exact ⟨t2, st t2 a1, b1⟩
def okM (y : MethodName) (cc : ByteArray) (nL : Nat) (ret : Option FieldType) (n : Nat) : Prop := Cond.code y cc nL ret ∈ wG ∧ Cond.initialized y.cls ∈ wG ∧ (y.cls ≠ "java/lang/invoke/MethodHandle" ∧ y.cls ≠ "java/lang/invoke/VarHandle" ∧ (parseMethodDescriptor y.desc).map (fun d => d.parameters.length) = some n)
theorem f_callB {y : MethodName} {cc' : ByteArray} {nL n index fr lo : Nat} {rt : Option FieldType} (C : Cx g p s m args meth c cc nL0 own ret) (ho : okM y cc' nL rt n) (hl : Cond.methodLink own index y ∈ wG) (hR : fr + 1 ≤ R.frames ∧ 8 + (nL + 11) + lo ≤ R.locals) : CallB R s args own index y cc' nL rt (Cond.code y cc' nL rt :: wG) (Rm fr lo) 0 0 n :=
  callB_of n C.2.2.2.2.1 (wG_good (wG_cons ho.1)) rfl rfl rfl (C.2.2.2.2.1 _ ho.2.1) (C.2.2.2.2.1 _ hl) ho.2.2 hR
theorem f_callN {y : MethodName} {cc' : ByteArray} {nL n index fr lo : Nat} {rt : Option FieldType} {host : String} (C : Cx g p s m args meth c cc nL0 own ret) (ho : okM y cc' nL rt n) (hl : (own, index, y, host) ∈ nestL) (hR : fr + 1 ≤ R.frames ∧ 8 + (nL + 11) + lo ≤ R.locals) : va_CN R s args own index y host cc' nL rt (Cond.code y cc' nL rt :: wG) (Rm fr lo) 0 0 n :=
  va_cnB n C.2.2.2.2.1 (wG_good (wG_cons ho.1)) rfl rfl rfl (C.2.2.2.2.2.1.2 _ hl) (C.2.2.2.2.1 _ ho.2.1) ho.2.2 hR
theorem f_pre (C : Cx g p s m args meth c cc nL0 own ret) {av : List Value} {H : Heap} {locs : List Loc} (hP : va_P (gD g) vwCl (wl g I J) H) (hS : va_S (gA g) s.heap H locs) : ∀ U : State, U.heap = H → s.WarmedH U.vm → va_Pc av (GS g I J) av.toArray U := fun U hU hW =>
  ⟨rfl, by rw [hU]; exact hP, C.2.2.2.2.2.1.warm hW, by rw [hU]; exact C.2.2.2.2.2.2.1.moved hW.alike hS.2.1, C.2.2.2.2.2.2.2.1⟩
theorem f_recv {t r ci : Nat} {fs : List Value} {q : vw_C} (C : Cx g p s m args meth c cc nL0 own ret) {H : Heap} (hP : va_P (gD g) vwCl (wl g I J) H) (hr : r < cnt t) (hc : cel g I J t r = .inr (ci, fs)) (hcl : vwCl[ci]? = some q) : ∃ cellB : Cell, H[gad g t r]? = some cellB ∧ cellB.vm.isStatics = false ∧ s.vm.findClass q.1 = some cellB.cls := by
  obtain ⟨j, hj⟩ := wl_at hr
  exact va_recv C.2.2.2.2.2.1.1 hP hcl (by rw [wl_get hj, hc])
theorem f_cVi {y : MethodName} {cc' : ByteArray} {nL n index fr lo : Nat} {rt : Option FieldType} {As : List Value} {q : Int32 → MI → MJ → Prop} {t r ci : Nat} {fs : List Value} {T0 : u_T} {N : Nat} (C : Cx g p s m args meth c cc nL0 own ret) (hM : Ct g l y cc' nL rt fr lo (.ref (gad g t r) :: As) I J (PI q)) (ho : okM y cc' nL rt n) (hi : Cond.instanceMethod y ∈ wG) (hs : Cond.selects y.cls y y ∈ wG) (hl : Cond.methodLink own index y ∈ wG) (hR : fr + 1 ≤ R.frames ∧ 8 + (nL + 11) + lo ≤ R.locals) (hr : r < cnt t) (hc : cel g I J t r = .inr (ci, fs)) (hcl : vwCl[ci]? = some (y.cls, T0, N)) (hn : As.length = n) (hls : ls.size = nL0) (hrest : (rest.map fun v => v.category).sum ≤ 8) (hdg : decode cc pc = .ok (.invokevirtual index, 3)) (kk : ∀ (x : Int32) (I' : MI) (J' : MJ), q x I' J' → Wf p l e R s m args below meth c Q g I' J' (F0 m (pc + 3) ls (.int x :: rest))) : Wf p l e R s m args below meth c Q g I J (F0 m pc ls (As.reverse ++ .ref (gad g t r) :: rest)) :=
  f_call (fun H locs hP hS => va_runV (Ts := wG) ⟨C.1, C.2.1, C.2.2.1, C.2.2.2.1, C.2.2.2.2.1⟩ hM ⟨f_callB C ho hl hR, C.2.2.2.2.1 _ hi, C.2.2.2.2.1 _ hs⟩ ⟨GS.blind _, f_recv C hP hr hc hcl, f_pre C hP hS⟩ rfl hn hls rfl (lv_room hrest) hdg ⟨Nat.zero_le _, Nat.zero_le _⟩) (fun v I' J' h => by obtain ⟨x, rfl, h⟩ := h; exact kk x I' J' h)
theorem f_cSi {y : MethodName} {cc' : ByteArray} {nL n index fr lo : Nat} {rt : Option FieldType} {As : List Value} {q : Int32 → MI → MJ → Prop} (C : Cx g p s m args meth c cc nL0 own ret) (hM : Ct g l y cc' nL rt fr lo As I J (PI q)) (ho : okM y cc' nL rt n) (hi : Cond.static y ∈ wG) (hl : Cond.methodLink own index y ∈ wG) (hR : fr + 1 ≤ R.frames ∧ 8 + (nL + 11) + lo ≤ R.locals) (hn : As.length = n) (hls : ls.size = nL0) (hrest : (rest.map fun v => v.category).sum ≤ 8) (hdg : decode cc pc = .ok (.invokestatic index, 3)) (kk : ∀ (x : Int32) (I' : MI) (J' : MJ), q x I' J' → Wf p l e R s m args below meth c Q g I' J' (F0 m (pc + 3) ls (.int x :: rest))) : Wf p l e R s m args below meth c Q g I J (F0 m pc ls (As.reverse ++ rest)) :=
  f_call (fun H locs hP hS => va_runS (Ts := wG) ⟨C.1, C.2.1, C.2.2.1, C.2.2.2.1, C.2.2.2.2.1⟩ hM ⟨f_callB C ho hl hR, C.2.2.2.2.1 _ hi⟩ ⟨GS.blind _, f_pre C hP hS⟩ rfl hn hls rfl (lv_room hrest) hdg ⟨Nat.zero_le _, Nat.zero_le _⟩) (fun v I' J' h => by obtain ⟨x, rfl, h⟩ := h; exact kk x I' J' h)
theorem f_cNi {y : MethodName} {cc' : ByteArray} {nL n index fr lo : Nat} {rt : Option FieldType} {As : List Value} {q : Int32 → MI → MJ → Prop} {host : String} (C : Cx g p s m args meth c cc nL0 own ret) (hM : Ct g l y cc' nL rt fr lo As I J (PI q)) (ho : okM y cc' nL rt n) (hi : Cond.static y ∈ wG) (hl : (own, index, y, host) ∈ nestL) (hR : fr + 1 ≤ R.frames ∧ 8 + (nL + 11) + lo ≤ R.locals) (hn : As.length = n) (hls : ls.size = nL0) (hrest : (rest.map fun v => v.category).sum ≤ 8) (hdg : decode cc pc = .ok (.invokestatic index, 3)) (kk : ∀ (x : Int32) (I' : MI) (J' : MJ), q x I' J' → Wf p l e R s m args below meth c Q g I' J' (F0 m (pc + 3) ls (.int x :: rest))) : Wf p l e R s m args below meth c Q g I J (F0 m pc ls (As.reverse ++ rest)) :=
  f_call (fun H locs hP hS => va_runSN (Ts := wG) ⟨C.1, C.2.1, C.2.2.1, C.2.2.2.1, C.2.2.2.2.1⟩ hM ⟨f_callN C ho hl hR, C.2.2.2.2.1 _ hi, trivial⟩ ⟨GS.blind _, f_pre C hP hS⟩ rfl hn hls rfl (lv_room hrest) hdg ⟨Nat.zero_le _, Nat.zero_le _⟩) (fun v I' J' h => by obtain ⟨x, rfl, h⟩ := h; exact kk x I' J' h)
theorem f_cVl {y : MethodName} {cc' : ByteArray} {nL n index fr lo : Nat} {rt : Option FieldType} {As : List Value} {q : Int64 → MI → MJ → Prop} {t r ci : Nat} {fs : List Value} {T0 : u_T} {N : Nat} (C : Cx g p s m args meth c cc nL0 own ret) (hM : Ct g l y cc' nL rt fr lo (.ref (gad g t r) :: As) I J (PL q)) (ho : okM y cc' nL rt n) (hi : Cond.instanceMethod y ∈ wG) (hs : Cond.selects y.cls y y ∈ wG) (hl : Cond.methodLink own index y ∈ wG) (hR : fr + 1 ≤ R.frames ∧ 8 + (nL + 11) + lo ≤ R.locals) (hr : r < cnt t) (hc : cel g I J t r = .inr (ci, fs)) (hcl : vwCl[ci]? = some (y.cls, T0, N)) (hn : As.length = n) (hls : ls.size = nL0) (hrest : (rest.map fun v => v.category).sum ≤ 8) (hdg : decode cc pc = .ok (.invokevirtual index, 3)) (kk : ∀ (x : Int64) (I' : MI) (J' : MJ), q x I' J' → Wf p l e R s m args below meth c Q g I' J' (F0 m (pc + 3) ls (.long x :: rest))) : Wf p l e R s m args below meth c Q g I J (F0 m pc ls (As.reverse ++ .ref (gad g t r) :: rest)) :=
  f_call (fun H locs hP hS => va_runV (Ts := wG) ⟨C.1, C.2.1, C.2.2.1, C.2.2.2.1, C.2.2.2.2.1⟩ hM ⟨f_callB C ho hl hR, C.2.2.2.2.1 _ hi, C.2.2.2.2.1 _ hs⟩ ⟨GS.blind _, f_recv C hP hr hc hcl, f_pre C hP hS⟩ rfl hn hls rfl (lv_room hrest) hdg ⟨Nat.zero_le _, Nat.zero_le _⟩) (fun v I' J' h => by obtain ⟨x, rfl, h⟩ := h; exact kk x I' J' h)
theorem f_cSl {y : MethodName} {cc' : ByteArray} {nL n index fr lo : Nat} {rt : Option FieldType} {As : List Value} {q : Int64 → MI → MJ → Prop} (C : Cx g p s m args meth c cc nL0 own ret) (hM : Ct g l y cc' nL rt fr lo As I J (PL q)) (ho : okM y cc' nL rt n) (hi : Cond.static y ∈ wG) (hl : Cond.methodLink own index y ∈ wG) (hR : fr + 1 ≤ R.frames ∧ 8 + (nL + 11) + lo ≤ R.locals) (hn : As.length = n) (hls : ls.size = nL0) (hrest : (rest.map fun v => v.category).sum ≤ 8) (hdg : decode cc pc = .ok (.invokestatic index, 3)) (kk : ∀ (x : Int64) (I' : MI) (J' : MJ), q x I' J' → Wf p l e R s m args below meth c Q g I' J' (F0 m (pc + 3) ls (.long x :: rest))) : Wf p l e R s m args below meth c Q g I J (F0 m pc ls (As.reverse ++ rest)) :=
  f_call (fun H locs hP hS => va_runS (Ts := wG) ⟨C.1, C.2.1, C.2.2.1, C.2.2.2.1, C.2.2.2.2.1⟩ hM ⟨f_callB C ho hl hR, C.2.2.2.2.1 _ hi⟩ ⟨GS.blind _, f_pre C hP hS⟩ rfl hn hls rfl (lv_room hrest) hdg ⟨Nat.zero_le _, Nat.zero_le _⟩) (fun v I' J' h => by obtain ⟨x, rfl, h⟩ := h; exact kk x I' J' h)
theorem f_cNl {y : MethodName} {cc' : ByteArray} {nL n index fr lo : Nat} {rt : Option FieldType} {As : List Value} {q : Int64 → MI → MJ → Prop} {host : String} (C : Cx g p s m args meth c cc nL0 own ret) (hM : Ct g l y cc' nL rt fr lo As I J (PL q)) (ho : okM y cc' nL rt n) (hi : Cond.static y ∈ wG) (hl : (own, index, y, host) ∈ nestL) (hR : fr + 1 ≤ R.frames ∧ 8 + (nL + 11) + lo ≤ R.locals) (hn : As.length = n) (hls : ls.size = nL0) (hrest : (rest.map fun v => v.category).sum ≤ 8) (hdg : decode cc pc = .ok (.invokestatic index, 3)) (kk : ∀ (x : Int64) (I' : MI) (J' : MJ), q x I' J' → Wf p l e R s m args below meth c Q g I' J' (F0 m (pc + 3) ls (.long x :: rest))) : Wf p l e R s m args below meth c Q g I J (F0 m pc ls (As.reverse ++ rest)) :=
  f_call (fun H locs hP hS => va_runSN (Ts := wG) ⟨C.1, C.2.1, C.2.2.1, C.2.2.2.1, C.2.2.2.2.1⟩ hM ⟨f_callN C ho hl hR, C.2.2.2.2.1 _ hi, trivial⟩ ⟨GS.blind _, f_pre C hP hS⟩ rfl hn hls rfl (lv_room hrest) hdg ⟨Nat.zero_le _, Nat.zero_le _⟩) (fun v I' J' h => by obtain ⟨x, rfl, h⟩ := h; exact kk x I' J' h)
theorem f_cVv {y : MethodName} {cc' : ByteArray} {nL n index fr lo : Nat} {rt : Option FieldType} {As : List Value} {q : MI → MJ → Prop} {t r ci : Nat} {fs : List Value} {T0 : u_T} {N : Nat} (C : Cx g p s m args meth c cc nL0 own ret) (hM : Ct g l y cc' nL rt fr lo (.ref (gad g t r) :: As) I J (PV q)) (ho : okM y cc' nL rt n) (hi : Cond.instanceMethod y ∈ wG) (hs : Cond.selects y.cls y y ∈ wG) (hl : Cond.methodLink own index y ∈ wG) (hR : fr + 1 ≤ R.frames ∧ 8 + (nL + 11) + lo ≤ R.locals) (hr : r < cnt t) (hc : cel g I J t r = .inr (ci, fs)) (hcl : vwCl[ci]? = some (y.cls, T0, N)) (hn : As.length = n) (hls : ls.size = nL0) (hrest : (rest.map fun v => v.category).sum ≤ 8) (hdg : decode cc pc = .ok (.invokevirtual index, 3)) (kk : ∀ (I' : MI) (J' : MJ), q I' J' → Wf p l e R s m args below meth c Q g I' J' (F0 m (pc + 3) ls (rest))) : Wf p l e R s m args below meth c Q g I J (F0 m pc ls (As.reverse ++ .ref (gad g t r) :: rest)) :=
  f_call (fun H locs hP hS => va_runV (Ts := wG) ⟨C.1, C.2.1, C.2.2.1, C.2.2.2.1, C.2.2.2.2.1⟩ hM ⟨f_callB C ho hl hR, C.2.2.2.2.1 _ hi, C.2.2.2.2.1 _ hs⟩ ⟨GS.blind _, f_recv C hP hr hc hcl, f_pre C hP hS⟩ rfl hn hls rfl (lv_room hrest) hdg ⟨Nat.zero_le _, Nat.zero_le _⟩) (fun v I' J' h => by obtain ⟨rfl, h⟩ := h; exact kk I' J' h)
theorem f_cSv {y : MethodName} {cc' : ByteArray} {nL n index fr lo : Nat} {rt : Option FieldType} {As : List Value} {q : MI → MJ → Prop} (C : Cx g p s m args meth c cc nL0 own ret) (hM : Ct g l y cc' nL rt fr lo As I J (PV q)) (ho : okM y cc' nL rt n) (hi : Cond.static y ∈ wG) (hl : Cond.methodLink own index y ∈ wG) (hR : fr + 1 ≤ R.frames ∧ 8 + (nL + 11) + lo ≤ R.locals) (hn : As.length = n) (hls : ls.size = nL0) (hrest : (rest.map fun v => v.category).sum ≤ 8) (hdg : decode cc pc = .ok (.invokestatic index, 3)) (kk : ∀ (I' : MI) (J' : MJ), q I' J' → Wf p l e R s m args below meth c Q g I' J' (F0 m (pc + 3) ls (rest))) : Wf p l e R s m args below meth c Q g I J (F0 m pc ls (As.reverse ++ rest)) :=
  f_call (fun H locs hP hS => va_runS (Ts := wG) ⟨C.1, C.2.1, C.2.2.1, C.2.2.2.1, C.2.2.2.2.1⟩ hM ⟨f_callB C ho hl hR, C.2.2.2.2.1 _ hi⟩ ⟨GS.blind _, f_pre C hP hS⟩ rfl hn hls rfl (lv_room hrest) hdg ⟨Nat.zero_le _, Nat.zero_le _⟩) (fun v I' J' h => by obtain ⟨rfl, h⟩ := h; exact kk I' J' h)
theorem f_cNv {y : MethodName} {cc' : ByteArray} {nL n index fr lo : Nat} {rt : Option FieldType} {As : List Value} {q : MI → MJ → Prop} {host : String} (C : Cx g p s m args meth c cc nL0 own ret) (hM : Ct g l y cc' nL rt fr lo As I J (PV q)) (ho : okM y cc' nL rt n) (hi : Cond.static y ∈ wG) (hl : (own, index, y, host) ∈ nestL) (hR : fr + 1 ≤ R.frames ∧ 8 + (nL + 11) + lo ≤ R.locals) (hn : As.length = n) (hls : ls.size = nL0) (hrest : (rest.map fun v => v.category).sum ≤ 8) (hdg : decode cc pc = .ok (.invokestatic index, 3)) (kk : ∀ (I' : MI) (J' : MJ), q I' J' → Wf p l e R s m args below meth c Q g I' J' (F0 m (pc + 3) ls (rest))) : Wf p l e R s m args below meth c Q g I J (F0 m pc ls (As.reverse ++ rest)) :=
  f_call (fun H locs hP hS => va_runSN (Ts := wG) ⟨C.1, C.2.1, C.2.2.1, C.2.2.2.1, C.2.2.2.2.1⟩ hM ⟨f_callN C ho hl hR, C.2.2.2.2.1 _ hi, trivial⟩ ⟨GS.blind _, f_pre C hP hS⟩ rfl hn hls rfl (lv_room hrest) hdg ⟨Nat.zero_le _, Nat.zero_le _⟩) (fun v I' J' h => by obtain ⟨rfl, h⟩ := h; exact kk I' J' h)
end FR
