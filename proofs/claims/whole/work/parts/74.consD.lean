theorem df_0 : ∀ j, j < 6 → defaultValue (tyX0 j) = vp_V [.null, .null, .null, .long 0, .int 0, .int 0] j := by
  intro j hj
  rcases (show j = 0 ∨ j = 1 ∨ j = 2 ∨ j = 3 ∨ j = 4 ∨ j = 5 by omega) with rfl | rfl | rfl | rfl | rfl | rfl <;> rfl
theorem df_1 : ∀ j, j < 5 → defaultValue (tyX1 j) = vp_V [.null, .int 0, .int 0, .int 0, .int 0] j := by
  intro j hj
  rcases (show j = 0 ∨ j = 1 ∨ j = 2 ∨ j = 3 ∨ j = 4 by omega) with rfl | rfl | rfl | rfl | rfl <;> rfl
theorem df_2 : ∀ j, j < 1 → defaultValue (tyX2 j) = vp_V [.null] j := by
  intro j hj
  rcases (show j = 0 by omega) with rfl <;> rfl
theorem df_3 : ∀ j, j < 7 → defaultValue (tyX3 j) = vp_V [.null, .int 0, .int 0, .int 0, .int 0, .int 0, .int 0] j := by
  intro j hj
  rcases (show j = 0 ∨ j = 1 ∨ j = 2 ∨ j = 3 ∨ j = 4 ∨ j = 5 ∨ j = 6 by omega) with rfl | rfl | rfl | rfl | rfl | rfl | rfl <;> rfl
theorem df_4 : ∀ j, j < 8 → defaultValue (tyX4 j) = vp_V [.null, .null, .int 0, .int 0, .int 0, .int 0, .int 0, .int 0] j := by
  intro j hj
  rcases (show j = 0 ∨ j = 1 ∨ j = 2 ∨ j = 3 ∨ j = 4 ∨ j = 5 ∨ j = 6 ∨ j = 7 by omega) with rfl | rfl | rfl | rfl | rfl | rfl | rfl | rfl <;> rfl
theorem df_5 : ∀ j, j < 8 → defaultValue (tyX5 j) = vp_V [.null, .null, .int 0, .int 0, .int 0, .int 0, .int 0, .null] j := by
  intro j hj
  rcases (show j = 0 ∨ j = 1 ∨ j = 2 ∨ j = 3 ∨ j = 4 ∨ j = 5 ∨ j = 6 ∨ j = 7 by omega) with rfl | rfl | rfl | rfl | rfl | rfl | rfl | rfl <;> rfl
theorem df_6 : ∀ j, j < 5 → defaultValue (tyX6 j) = vp_V [.null, .int 0, .int 0, .int 0, .int 0] j := by
  intro j hj
  rcases (show j = 0 ∨ j = 1 ∨ j = 2 ∨ j = 3 ∨ j = 4 by omega) with rfl | rfl | rfl | rfl | rfl <;> rfl
theorem df_7 : ∀ j, j < 15 → defaultValue (tyX7 j) = vp_V [.null, .null, .null, .null, .null, .null, .null, .null, .null, .null, .null, .null, .null, .int 0, .long 0] j := by
  intro j hj
  rcases (show j = 0 ∨ j = 1 ∨ j = 2 ∨ j = 3 ∨ j = 4 ∨ j = 5 ∨ j = 6 ∨ j = 7 ∨ j = 8 ∨ j = 9 ∨ j = 10 ∨ j = 11 ∨ j = 12 ∨ j = 13 ∨ j = 14 by omega) with rfl | rfl | rfl | rfl | rfl | rfl | rfl | rfl | rfl | rfl | rfl | rfl | rfl | rfl | rfl <;> rfl
theorem df_8 : ∀ j, j < 25 → defaultValue (tyX8 j) = vp_V [.int 0, .long 0, .null, .null, .null, .null, .null, .null, .int 0, .int 0, .int 0, .int 0, .int 0, .int 0, .int 0, .null, .null, .null, .null, .int 0, .null, .null, .null, .null, .long 0] j := by
  intro j hj
  rcases (show j = 0 ∨ j = 1 ∨ j = 2 ∨ j = 3 ∨ j = 4 ∨ j = 5 ∨ j = 6 ∨ j = 7 ∨ j = 8 ∨ j = 9 ∨ j = 10 ∨ j = 11 ∨ j = 12 ∨ j = 13 ∨ j = 14 ∨ j = 15 ∨ j = 16 ∨ j = 17 ∨ j = 18 ∨ j = 19 ∨ j = 20 ∨ j = 21 ∨ j = 22 ∨ j = 23 ∨ j = 24 by omega) with rfl | rfl | rfl | rfl | rfl | rfl | rfl | rfl | rfl | rfl | rfl | rfl | rfl | rfl | rfl | rfl | rfl | rfl | rfl | rfl | rfl | rfl | rfl | rfl | rfl <;> rfl
theorem arrV_cg (cI : ClassId) {N : Nat} {f f' : Nat → Value} (h : ∀ j, j < N → f j = f' j) : arrV cI N f = arrV cI N f' := by
  unfold arrV
  have e : (fun j : _root_.Fin N => f j.val) = (fun j : _root_.Fin N => f' j.val) := funext fun j => h j.1 j.2
  rw [e]
theorem z_cgq {p : Program} {l : Launch} {e : Env} {R : Room} {s : State} {m : MethodId} {args : Array Value} {below : List Frame} {meth : Method} {c : Code} {Q : State → Prop} {g : Geo} {A : Nat → Prop} {cells slots : Nat} {fr : JFrame} {a n : Nat} {cA : ClassId} {f f' : Nat → Option Nat} (pre post : va_W) (h : ∀ j, j < n → f j = f' j) (kk : Wz p l e R s m args below meth c Q g A (pre ++ (a, .inl (cA, n, .inr (.inr (.inr (.inr f'))))) :: post) cells slots fr) : Wz p l e R s m args below meth c Q g A (pre ++ (a, .inl (cA, n, .inr (.inr (.inr (.inr f))))) :: post) cells slots fr := fun H locs hP hD hS => by
  refine kk H locs (va_P.ofMem (fun q hq => ?_)) ?_ hS
  · rcases List.mem_append.mp hq with h1 | h1
    · exact hP.mem (List.mem_append_left _ h1)
    · rcases List.mem_cons.mp h1 with h2 | h2
      · subst h2
        have h3 := hP.mem (q := (a, .inl (cA, n, .inr (.inr (.inr (.inr f)))))) (List.mem_append_right _ List.mem_cons_self)
        have h3' : H[a]? = some (vp_cell cA (n, .inr (.inr (.inr (.inr f))))) := h3
        show H[a]? = some (vp_cell cA (n, .inr (.inr (.inr (.inr f')))))
        rw [h3', vp_cell_q, vp_cell_q, arrV_cg cA (fun j hj => by rw [h j hj])]
      · exact hP.mem (List.mem_append_right _ (List.mem_cons_of_mem _ h2))
  · rw [va_D.nd] at hD ⊢
    refine ⟨by simpa using hD.1, fun q hq => ?_⟩
    rcases List.mem_append.mp hq with h1 | h1
    · exact hD.2 q (List.mem_append_left _ h1)
    · rcases List.mem_cons.mp h1 with h2 | h2
      · subst h2
        exact hD.2 (a, .inl (cA, n, .inr (.inr (.inr (.inr f))))) (List.mem_append_right _ List.mem_cons_self)
      · exact hD.2 q (List.mem_append_right _ (List.mem_cons_of_mem _ h2))
def rnL (g : Geo) (h q1 q2 : Nat) : va_W := [(h, .inr (4, [.ref q1, .ref q2, .int 0, .int 0, .int 0, .int 0, .int 0, .int 0])), (q1, .inl (gc g 0, 3, .inl (fun _ => 0))), (q2, .inl (gc g 0, 12, .inl (fun _ => 0)))]
def yL (g : Geo) (rs ts fs : Nat → Nat) : Nat → va_W
  | 0 => []
  | i + 1 => rnL g (rs i) (ts i) (fs i) ++ yL g rs ts fs i
theorem yL_cg {g : Geo} {rs ts fs rs' ts' fs' : Nat → Nat} : ∀ i, (∀ j, j < i → rs j = rs' j ∧ ts j = ts' j ∧ fs j = fs' j) → yL g rs ts fs i = yL g rs' ts' fs' i := by
  intro i
  induction i with
  | zero => intro _; rfl
  | succ i ih =>
    intro h
    obtain ⟨h1, h2, h3⟩ := h i (by omega)
    show rnL g (rs i) (ts i) (fs i) ++ yL g rs ts fs i = rnL g (rs' i) (ts' i) (fs' i) ++ yL g rs' ts' fs' i
    rw [h1, h2, h3, ih (fun j hj => h j (by omega))]
def ydL (g : Geo) (h0 q1 : Nat) (rs ts fs : Nat → Nat) : va_W := [(h0, .inr (6, [.ref q1, .int 0, .int 1, .int 0, .int 0])), (q1, .inl (gc g 3, 8, .inr (.inr (.inr (.inr (fun k => some (rs k)))))))] ++ yL g rs ts fs 8
set_option maxHeartbeats 4000000 in
set_option maxRecDepth 100000 in
theorem k_X6 {g : Geo} {l : Launch} (h0 : Nat) : Kc g l yX6_init cX6_init 2 2 32 25 192 h0 [(h0, .inr (6, [.null, .int 0, .int 0, .int 0, .int 0]))] (fun w => ∃ (q1 : Nat) (rs ts fs : Nat → Nat), w = ydL g h0 q1 rs ts fs) := by
  refine Kc.of (by decide) ?_
  intro p e s m below meth c A Qc Z hnm hQ
  have hl := lv_entry ([.ref h0]) (n := 2) (Nat.le_of_ble_eq_true rfl)
  rw [lg_entry_eq]
  generalize (lg_sl ([.ref h0]) ++ List.replicate (2 - (lg_sl ([.ref h0])).length) Slot.unset).toArray = ls at hl ⊢
  have hl : lv_has ls 2 [(0, .ref h0)] := hl
  refine z_p (fun _ _ k => lv_aload_n Z.1 Z.2.1 dX6_init_0 rfl (lv_at hl 0 rfl) k) ?_
  refine z_obj Z oil_6 oi_i oi_c hl.1 dX6_init_1 (Nat.le_of_ble_eq_true rfl) (Nat.le_of_ble_eq_true rfl) ?_
  refine z_p (fun _ _ k => lv_aload_n Z.1 Z.2.1 dX6_init_4 rfl (lv_at hl 0 rfl) k) ?_
  refine z_p (fun _ _ k => lv_bipush (v := 8) Z.1 Z.2.1 dX6_init_5 (by decide) k) ?_
  refine z_newq (C := RX4) (N := 8) (t0 := 3) (cA0 := gc g 3) Z cl_RX6_9 Z.2.2.2.2.2.1.2.1 rfl (by decide) (by decide) (by decide) (Nat.le_of_ble_eq_true rfl) (Nat.le_of_ble_eq_true rfl) dX6_init_7 [(h0, .inr (6, [.null, .int 0, .int 0, .int 0, .int 0]))] [] (fun q1 => ?_)
  refine z_putF (C := RX6) (T := TX6) (N := 5) (ci := 6) (ws' := [(h0, .inr (6, [.ref q1, .int 0, .int 0, .int 0, .int 0])), (q1, .inl (gc g 3, 8, .inr (.inr (.inr (.inr (fun _ => none))))))]) Z uw_6 tyX6 tyX6_ok nmX6 0 rfl rfl 0 (by decide) (wG_t (i := 68) (by decide +kernel) (by decide +kernel)) rfl hnm rfl (tyX6_ok 0 (by decide)) rfl rfl (Nat.le_of_ble_eq_true rfl) dX6_init_10 rfl ?_
  refine z_p (fun _ _ k => lv_aload_n Z.1 Z.2.1 dX6_init_13 rfl (lv_at hl 0 rfl) k) ?_
  refine z_p (fun _ _ k => lv_iconst (v := 1) Z.1 Z.2.1 dX6_init_14 (by decide) k) ?_
  refine z_put (C := RX6) (T := TX6) (N := 5) (ci := 6) (ws' := [(h0, .inr (6, [.ref q1, .int 0, .int 1, .int 0, .int 0])), (q1, .inl (gc g 3, 8, .inr (.inr (.inr (.inr (fun _ => none))))))]) Z uw_6 tyX6 tyX6_ok nmX6 0 rfl rfl 2 (by decide) (wG_t (i := 72) (by decide +kernel) (by decide +kernel)) rfl rfl (tyX6_ok 2 (by decide)) rfl rfl (Nat.le_of_ble_eq_true rfl) dX6_init_15 rfl ?_
  refine z_p (fun _ _ k => lv_iconst (v := 0) Z.1 Z.2.1 dX6_init_18 (by decide) k) ?_
  have key : ∀ (k i : Nat) (f : Nat → Option Nat) (rs ts fs : Nat → Nat) (ls : Array Slot), i + k = 8 → (∀ j, j < i → f j = some (rs j)) → lv_has ls 2 [(1, .int (nI i)), (0, .ref h0)] → Wz p l e { frames := 2, cells := 25, slots := 192, locals := 32 } s m ([.ref h0] : List Value).toArray below meth c (MQ below Qc ([.ref h0] : List Value).toArray s 25 192 A) g A ([(h0, .inr (6, [.ref q1, .int 0, .int 1, .int 0, .int 0])), (q1, .inl (gc g 3, 8, .inr (.inr (.inr (.inr f)))))] ++ yL g rs ts fs i) (1 + 3 * i) (8 + 23 * i) (F0 m 20 ls []) := by
    intro k
    induction k with
    | zero =>
      intro i f rs ts fs ls ei h1 hl
      obtain rfl : i = 8 := by omega
      refine z_p (fun _ _ k => lv_iload_n Z.1 Z.2.1 dX6_init_20 rfl (lv_at hl 0 rfl) k) ?_
      refine z_p (fun _ _ k => lv_bipush (v := 8) Z.1 Z.2.1 dX6_init_21 (by decide) k) ?_
      refine z_p (fun _ _ k => lv_icmp_ge (tgt := 45) Z.1 Z.2.1 dX6_init_23 (by decide) (fun _ => k) (fun q => absurd (by decide) q)) ?_
      refine z_cgq [(h0, .inr (6, [.ref q1, .int 0, .int 1, .int 0, .int 0]))] (yL g rs ts fs 8) (f' := fun k => some (rs k)) h1 ?_
      exact z_ret Z hQ ⟨q1, rs, ts, fs, rfl⟩ dX6_init_45
    | succ k ih =>
      intro i f rs ts fs ls ei h1 hl
      refine z_p (fun _ _ k => lv_iload_n Z.1 Z.2.1 dX6_init_20 rfl (lv_at hl 0 rfl) k) ?_
      refine z_p (fun _ _ k => lv_bipush (v := 8) Z.1 Z.2.1 dX6_init_21 (by decide) k) ?_
      refine z_p (fun _ _ k => lv_icmp_ge (tgt := 45) Z.1 Z.2.1 dX6_init_23 (by decide) (fun q => absurd q (nI_ge (b := 8) (by omega) (by omega))) (fun _ => k)) ?_
      refine z_p (fun _ _ k => lv_aload_n Z.1 Z.2.1 dX6_init_26 rfl (lv_at hl 1 rfl) k) ?_
      refine z_get (C := RX6) (T := TX6) (N := 5) (ci := 6) (v := .ref q1) Z uw_6 0 rfl rfl 0 (by decide) (wG_t (i := 68) (by decide +kernel) (by decide +kernel)) rfl rfl dX6_init_27 ?_
      refine z_p (fun _ _ k => lv_iload_n Z.1 Z.2.1 dX6_init_30 rfl (lv_at hl 0 rfl) k) ?_
      refine z_new (C := RX4) (T := TX4) (N := 8) (ci := 4) (fs := [.null, .null, .int 0, .int 0, .int 0, .int 0, .int 0, .int 0]) Z uw_4 tyX4 tyX4_ok cl_RX6_9 ins_4 ini_4 rfl df_4 (by show 1 + 3 * i + 1 ≤ 25; omega) (by show 8 + 23 * i + 8 ≤ 192; omega) dX6_init_31 [(h0, .inr (6, [.ref q1, .int 0, .int 1, .int 0, .int 0])), (q1, .inl (gc g 3, 8, .inr (.inr (.inr (.inr f)))))] (yL g rs ts fs i) (fun q => ?_)
      refine z_p (fun _ _ k => lv_dup Z.1 Z.2.1 dX6_init_34 rfl k) ?_
      refine z_callN (w0 := [(q, .inr (4, [.null, .null, .int 0, .int 0, .int 0, .int 0, .int 0, .int 0]))]) Z (k_X4 q) ok_X4_init im_X4_init rfl kn_RX6_21 ⟨Nat.le_of_ble_eq_true rfl, Nat.le_of_ble_eq_true rfl⟩ hl.1 (Nat.le_of_ble_eq_true rfl) dX6_init_35 ⟨by show 1 + 3 * i + 1 + 2 ≤ 25; omega, by show 8 + 23 * i + 8 + 15 ≤ 192; omega⟩ [(h0, .inr (6, [.ref q1, .int 0, .int 1, .int 0, .int 0])), (q1, .inl (gc g 3, 8, .inr (.inr (.inr (.inr f)))))] (yL g rs ts fs i) (fun w1 hw1 => ?_)
      obtain ⟨t1, t2, rfl⟩ := hw1
      refine z_astq (n := 8) (ci := 4) (t0 := 3) (cA := gc g 3) (r := (RX4, TX4, 8)) (vs := [.ref t1, .ref t2, .int 0, .int 0, .int 0, .int 0, .int 0, .int 0]) (ws' := [(h0, .inr (6, [.ref q1, .int 0, .int 1, .int 0, .int 0])), (q1, .inl (gc g 3, 8, .inr (.inr (.inr (.inr (va_up f i (some q)))))))] ++ (rnL g q t1 t2 ++ yL g rs ts fs i)) Z 1 2 rfl rfl rfl rfl i (nI_clamp (by omega)) (vp_in_nI (by omega) (by decide)) dX6_init_38 rfl ?_
      have ey : rnL g q t1 t2 ++ yL g rs ts fs i = yL g (fun j => if j = i then q else rs j) (fun j => if j = i then t1 else ts j) (fun j => if j = i then t2 else fs j) (i + 1) := by
        show _ = rnL g (if i = i then q else rs i) (if i = i then t1 else ts i) (if i = i then t2 else fs i) ++ yL g _ _ _ i
        rw [if_pos rfl, if_pos rfl, if_pos rfl, yL_cg i (fun j hj => ⟨(if_neg (by omega) : (if j = i then q else rs j) = rs j).symm, (if_neg (by omega) : (if j = i then t1 else ts j) = ts j).symm, (if_neg (by omega) : (if j = i then t2 else fs j) = fs j).symm⟩)]
      refine z_eq (ws' := [(h0, .inr (6, [.ref q1, .int 0, .int 1, .int 0, .int 0])), (q1, .inl (gc g 3, 8, .inr (.inr (.inr (.inr (va_up f i (some q)))))))] ++ yL g (fun j => if j = i then q else rs j) (fun j => if j = i then t1 else ts j) (fun j => if j = i then t2 else fs j) (i + 1)) (by rw [ey]) ?_
      refine z_wd (k := 1 + 3 * (i + 1)) (n := 8 + 23 * (i + 1)) (by omega) (by omega) ?_
      intro H locs hP hD hS
      refine lv_iinc (v := nI (i + 1)) (lv' := [(1, .int (nI (i + 1))), (0, .ref h0)]) Z.1 Z.2.1 dX6_init_39 hl (k := 0) rfl (nI_1 i) (by decide) rfl (fun ls hl => ?_)
      refine lv_goto (tgt := 20) Z.1 Z.2.1 dX6_init_42 (by decide) ?_
      refine ih (i + 1) _ _ _ _ ls (by omega) (fun j hj => ?_) hl H locs hP hD hS
      unfold va_up
      by_cases ej : j = i
      · rw [if_pos ej, if_pos ej]
      · rw [if_neg ej, if_neg ej]; exact h1 j (by omega)
  intro H locs hP hD hS
  refine lv_istore_n (lv' := [(1, .int 0), (0, .ref h0)]) Z.1 Z.2.1 dX6_init_19 rfl hl (by decide) rfl (fun ls hl => ?_)
  exact key 8 0 (fun _ => none) (fun _ => 0) (fun _ => 0) (fun _ => 0) ls rfl (fun j hj => absurd hj (by omega)) hl H locs hP hD hS
