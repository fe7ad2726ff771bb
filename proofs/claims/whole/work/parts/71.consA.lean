theorem aci : Cond.arrayClass .int ∈ wG := wG_t (i := 67) (by decide +kernel) (by decide +kernel)
theorem acl : Cond.arrayClass .long ∈ wG := wG_t (i := 748) (by decide +kernel) (by decide +kernel)
theorem acz : Cond.arrayClass .boolean ∈ wG := wG_t (i := 747) (by decide +kernel) (by decide +kernel)
theorem oi_i : Cond.instanceMethod objectInit ∈ wG := wG_t (i := 19) (by decide +kernel) (by decide +kernel)
theorem oi_c : Cond.code objectInit ⟨#[0xb1]⟩ 1 none ∈ wG := wG_t (i := 20) (by decide +kernel) (by decide +kernel)
theorem ins_0 : Cond.instantiable RX0 6 ∈ wG := wG_t (i := 142) (by decide +kernel) (by decide +kernel)
theorem ini_0 : Cond.initialized RX0 ∈ wG := wG_t (i := 7) (by decide +kernel) (by decide +kernel)
theorem oil_0 : Cond.methodLink RX0 3 objectInit ∈ wG := wG_t (i := 146) (by decide +kernel) (by decide +kernel)
theorem ins_1 : Cond.instantiable RX1 5 ∈ wG := wG_t (i := 202) (by decide +kernel) (by decide +kernel)
theorem ini_1 : Cond.initialized RX1 ∈ wG := wG_t (i := 9) (by decide +kernel) (by decide +kernel)
theorem oil_1 : Cond.methodLink RX1 1 objectInit ∈ wG := wG_t (i := 206) (by decide +kernel) (by decide +kernel)
theorem ins_2 : Cond.instantiable RX2 1 ∈ wG := wG_t (i := 119) (by decide +kernel) (by decide +kernel)
theorem ini_2 : Cond.initialized RX2 ∈ wG := wG_t (i := 5) (by decide +kernel) (by decide +kernel)
theorem oil_2 : Cond.methodLink RX2 3 objectInit ∈ wG := wG_t (i := 123) (by decide +kernel) (by decide +kernel)
theorem ins_3 : Cond.instantiable RX3 7 ∈ wG := wG_t (i := 90) (by decide +kernel) (by decide +kernel)
theorem ini_3 : Cond.initialized RX3 ∈ wG := wG_t (i := 4) (by decide +kernel) (by decide +kernel)
theorem oil_3 : Cond.methodLink RX3 3 objectInit ∈ wG := wG_t (i := 94) (by decide +kernel) (by decide +kernel)
theorem ins_4 : Cond.instantiable RX4 8 ∈ wG := wG_t (i := 29) (by decide +kernel) (by decide +kernel)
theorem ini_4 : Cond.initialized RX4 ∈ wG := wG_t (i := 3) (by decide +kernel) (by decide +kernel)
theorem oil_4 : Cond.methodLink RX4 3 objectInit ∈ wG := wG_t (i := 33) (by decide +kernel) (by decide +kernel)
theorem ins_5 : Cond.instantiable RX5 8 ∈ wG := wG_t (i := 169) (by decide +kernel) (by decide +kernel)
theorem ini_5 : Cond.initialized RX5 ∈ wG := wG_t (i := 8) (by decide +kernel) (by decide +kernel)
theorem oil_5 : Cond.methodLink RX5 3 objectInit ∈ wG := wG_t (i := 173) (by decide +kernel) (by decide +kernel)
theorem ins_6 : Cond.instantiable RX6 5 ∈ wG := wG_t (i := 22) (by decide +kernel) (by decide +kernel)
theorem ini_6 : Cond.initialized RX6 ∈ wG := wG_t (i := 2) (by decide +kernel) (by decide +kernel)
theorem oil_6 : Cond.methodLink RX6 3 objectInit ∈ wG := wG_t (i := 26) (by decide +kernel) (by decide +kernel)
theorem ins_7 : Cond.instantiable RX7 15 ∈ wG := wG_t (i := 14) (by decide +kernel) (by decide +kernel)
theorem ini_7 : Cond.initialized RX7 ∈ wG := wG_t (i := 1) (by decide +kernel) (by decide +kernel)
theorem oil_7 : Cond.methodLink RX7 1 objectInit ∈ wG := wG_t (i := 18) (by decide +kernel) (by decide +kernel)
theorem ins_8 : Cond.instantiable RX8 25 ∈ wG := wG_t (i := 662) (by decide +kernel) (by decide +kernel)
theorem ini_8 : Cond.initialized RX8 ∈ wG := wG_t (i := 10) (by decide +kernel) (by decide +kernel)
theorem oil_8 : Cond.methodLink RX8 1 objectInit ∈ wG := wG_t (i := 666) (by decide +kernel) (by decide +kernel)
theorem cl_RL_7 : Cond.classLink RL 7 RX7 ∈ wG := wG_t (i := 13) (by decide +kernel) (by decide +kernel)
theorem cl_RX7_7 : Cond.classLink RX7 7 RX6 ∈ wG := wG_t (i := 21) (by decide +kernel) (by decide +kernel)
theorem cl_RX6_9 : Cond.classLink RX6 9 RX4 ∈ wG := wG_t (i := 27) (by decide +kernel) (by decide +kernel)
theorem cl_RX7_24 : Cond.classLink RX7 24 RX3 ∈ wG := wG_t (i := 89) (by decide +kernel) (by decide +kernel)
theorem cl_RX7_31 : Cond.classLink RX7 31 RX2 ∈ wG := wG_t (i := 118) (by decide +kernel) (by decide +kernel)
theorem cl_RX7_41 : Cond.classLink RX7 41 RX4 ∈ wG := wG_t (i := 139) (by decide +kernel) (by decide +kernel)
theorem cl_RX7_48 : Cond.classLink RX7 48 RX0 ∈ wG := wG_t (i := 141) (by decide +kernel) (by decide +kernel)
theorem cl_RX7_55 : Cond.classLink RX7 55 RX5 ∈ wG := wG_t (i := 168) (by decide +kernel) (by decide +kernel)
theorem cl_RX7_62 : Cond.classLink RX7 62 RX1 ∈ wG := wG_t (i := 201) (by decide +kernel) (by decide +kernel)
theorem cl_RL_10 : Cond.classLink RL 10 RX8 ∈ wG := wG_t (i := 661) (by decide +kernel) (by decide +kernel)
theorem z_eq {p : Program} {l : Launch} {e : Env} {R : Room} {s : State} {m : MethodId} {args : Array Value} {below : List Frame} {meth : Method} {c : Code} {Q : State → Prop} {g : Geo} {A : Nat → Prop} {ws ws' : va_W} {cells slots : Nat} {fr : JFrame} (h : ws = ws') (kk : Wz p l e R s m args below meth c Q g A ws' cells slots fr) : Wz p l e R s m args below meth c Q g A ws cells slots fr := by rw [h]; exact kk
set_option maxHeartbeats 4000000 in
set_option maxRecDepth 100000 in
theorem k_X4 {g : Geo} {l : Launch} (h0 : Nat) : Kc g l yX4_init cX4_init 1 1 12 2 15 h0 [(h0, .inr (4, [.null, .null, .int 0, .int 0, .int 0, .int 0, .int 0, .int 0]))] (fun w => ∃ q1 q2 : Nat, w = [(h0, .inr (4, [.ref q1, .ref q2, .int 0, .int 0, .int 0, .int 0, .int 0, .int 0])), (q1, .inl (gc g 0, 3, .inl (fun _ => 0))), (q2, .inl (gc g 0, 12, .inl (fun _ => 0)))]) := by
  refine Kc.of (by decide) ?_
  intro p e s m below meth c A Qc Z hnm hQ
  have hl := lv_entry ([.ref h0]) (n := 1) (Nat.le_of_ble_eq_true rfl)
  rw [lg_entry_eq]
  generalize (lg_sl ([.ref h0]) ++ List.replicate (1 - (lg_sl ([.ref h0])).length) Slot.unset).toArray = ls at hl ⊢
  have hl : lv_has ls 1 [(0, .ref h0)] := hl
  refine z_p (fun _ _ k => lv_aload_n Z.1 Z.2.1 dX4_init_0 rfl (lv_at hl 0 rfl) k) ?_
  refine z_obj Z oil_4 oi_i oi_c hl.1 dX4_init_1 (Nat.le_of_ble_eq_true rfl) (Nat.le_of_ble_eq_true rfl) ?_
  refine z_p (fun _ _ k => lv_aload_n Z.1 Z.2.1 dX4_init_4 rfl (lv_at hl 0 rfl) k) ?_
  refine z_p (fun _ _ k => lv_iconst (v := 3) Z.1 Z.2.1 dX4_init_5 (by decide) k) ?_
  refine z_newI (N := 3) Z aci (by decide) (by decide) (by decide) (Nat.le_of_ble_eq_true rfl) (Nat.le_of_ble_eq_true rfl) dX4_init_6 [(h0, .inr (4, [.null, .null, .int 0, .int 0, .int 0, .int 0, .int 0, .int 0]))] [] (fun q1 => ?_)
  refine z_eq (ws' := [(h0, .inr (4, [.null, .null, .int 0, .int 0, .int 0, .int 0, .int 0, .int 0])), (q1, .inl (gc g 0, 3, .inl (fun _ => 0)))]) rfl ?_
  refine z_putF (C := RX4) (T := TX4) (N := 8) (ci := 4) (ws' := [(h0, .inr (4, [.ref q1, .null, .int 0, .int 0, .int 0, .int 0, .int 0, .int 0])), (q1, .inl (gc g 0, 3, .inl (fun _ => 0)))]) Z uw_4 tyX4 tyX4_ok nmX4 0 rfl rfl 0 (by decide) (wG_t (i := 34) (by decide +kernel) (by decide +kernel)) rfl hnm rfl (tyX4_ok 0 (by decide)) rfl rfl (Nat.le_of_ble_eq_true rfl) dX4_init_8 rfl ?_
  refine z_p (fun _ _ k => lv_aload_n Z.1 Z.2.1 dX4_init_11 rfl (lv_at hl 0 rfl) k) ?_
  refine z_p (fun _ _ k => lv_bipush (v := 12) Z.1 Z.2.1 dX4_init_12 (by decide) k) ?_
  refine z_newI (N := 12) Z aci (by decide) (by decide) (by decide) (Nat.le_of_ble_eq_true rfl) (Nat.le_of_ble_eq_true rfl) dX4_init_14 [(h0, .inr (4, [.ref q1, .null, .int 0, .int 0, .int 0, .int 0, .int 0, .int 0])), (q1, .inl (gc g 0, 3, .inl (fun _ => 0)))] [] (fun q2 => ?_)
  refine z_eq (ws' := [(h0, .inr (4, [.ref q1, .null, .int 0, .int 0, .int 0, .int 0, .int 0, .int 0])), (q1, .inl (gc g 0, 3, .inl (fun _ => 0))), (q2, .inl (gc g 0, 12, .inl (fun _ => 0)))]) rfl ?_
  refine z_putF (C := RX4) (T := TX4) (N := 8) (ci := 4) (ws' := [(h0, .inr (4, [.ref q1, .ref q2, .int 0, .int 0, .int 0, .int 0, .int 0, .int 0])), (q1, .inl (gc g 0, 3, .inl (fun _ => 0))), (q2, .inl (gc g 0, 12, .inl (fun _ => 0)))]) Z uw_4 tyX4 tyX4_ok nmX4 0 rfl rfl 1 (by decide) (wG_t (i := 36) (by decide +kernel) (by decide +kernel)) rfl hnm rfl (tyX4_ok 1 (by decide)) rfl rfl (Nat.le_of_ble_eq_true rfl) dX4_init_16 rfl ?_
  refine z_wd (k := 2) (n := 15) (Nat.le_of_ble_eq_true rfl) (Nat.le_of_ble_eq_true rfl) ?_
  exact z_ret Z hQ ⟨q1, q2, rfl⟩ dX4_init_19
set_option maxHeartbeats 4000000 in
set_option maxRecDepth 100000 in
theorem k_X3 {g : Geo} {l : Launch} (h0 : Nat) : Kc g l yX3_init cX3_init 1 1 12 1 200 h0 [(h0, .inr (3, [.null, .int 0, .int 0, .int 0, .int 0, .int 0, .int 0]))] (fun w => ∃ q1 : Nat, w = [(h0, .inr (3, [.ref q1, .int 0, .int 0, .int 0, .int 0, .int 0, .int 0])), (q1, .inl (gc g 0, 200, .inl (fun _ => 0)))]) := by
  refine Kc.of (by decide) ?_
  intro p e s m below meth c A Qc Z hnm hQ
  have hl := lv_entry ([.ref h0]) (n := 1) (Nat.le_of_ble_eq_true rfl)
  rw [lg_entry_eq]
  generalize (lg_sl ([.ref h0]) ++ List.replicate (1 - (lg_sl ([.ref h0])).length) Slot.unset).toArray = ls at hl ⊢
  have hl : lv_has ls 1 [(0, .ref h0)] := hl
  refine z_p (fun _ _ k => lv_aload_n Z.1 Z.2.1 dX3_init_0 rfl (lv_at hl 0 rfl) k) ?_
  refine z_obj Z oil_3 oi_i oi_c hl.1 dX3_init_1 (Nat.le_of_ble_eq_true rfl) (Nat.le_of_ble_eq_true rfl) ?_
  refine z_p (fun _ _ k => lv_aload_n Z.1 Z.2.1 dX3_init_4 rfl (lv_at hl 0 rfl) k) ?_
  refine z_p (fun _ _ k => lv_sipush (v := 200) Z.1 Z.2.1 dX3_init_5 (by decide) k) ?_
  refine z_newI (N := 200) Z aci (by decide) (by decide) (by decide) (Nat.le_of_ble_eq_true rfl) (Nat.le_of_ble_eq_true rfl) dX3_init_8 [(h0, .inr (3, [.null, .int 0, .int 0, .int 0, .int 0, .int 0, .int 0]))] [] (fun q1 => ?_)
  refine z_eq (ws' := [(h0, .inr (3, [.null, .int 0, .int 0, .int 0, .int 0, .int 0, .int 0])), (q1, .inl (gc g 0, 200, .inl (fun _ => 0)))]) rfl ?_
  refine z_putF (C := RX3) (T := TX3) (N := 7) (ci := 3) (ws' := [(h0, .inr (3, [.ref q1, .int 0, .int 0, .int 0, .int 0, .int 0, .int 0])), (q1, .inl (gc g 0, 200, .inl (fun _ => 0)))]) Z uw_3 tyX3 tyX3_ok nmX3 0 rfl rfl 0 (by decide) (wG_t (i := 95) (by decide +kernel) (by decide +kernel)) rfl hnm rfl (tyX3_ok 0 (by decide)) rfl rfl (Nat.le_of_ble_eq_true rfl) dX3_init_10 rfl ?_
  refine z_wd (k := 1) (n := 200) (Nat.le_of_ble_eq_true rfl) (Nat.le_of_ble_eq_true rfl) ?_
  exact z_ret Z hQ ⟨q1, rfl⟩ dX3_init_13
set_option maxHeartbeats 4000000 in
set_option maxRecDepth 100000 in
theorem k_X0 {g : Geo} {l : Launch} (h0 : Nat) : Kc g l yX0_init cX0_init 1 1 12 3 19 h0 [(h0, .inr (0, [.null, .null, .null, .long 0, .int 0, .int 0]))] (fun w => ∃ q1 q2 q3 : Nat, w = [(h0, .inr (0, [.ref q1, .ref q2, .ref q3, .long 0, .int 0, .int 0])), (q1, .inl (gc g 0, 8, .inl (fun _ => 0))), (q2, .inl (gc g 0, 8, .inl (fun _ => 0))), (q3, .inl (gc g 0, 3, .inl (fun _ => 0)))]) := by
  refine Kc.of (by decide) ?_
  intro p e s m below meth c A Qc Z hnm hQ
  have hl := lv_entry ([.ref h0]) (n := 1) (Nat.le_of_ble_eq_true rfl)
  rw [lg_entry_eq]
  generalize (lg_sl ([.ref h0]) ++ List.replicate (1 - (lg_sl ([.ref h0])).length) Slot.unset).toArray = ls at hl ⊢
  have hl : lv_has ls 1 [(0, .ref h0)] := hl
  refine z_p (fun _ _ k => lv_aload_n Z.1 Z.2.1 dX0_init_0 rfl (lv_at hl 0 rfl) k) ?_
  refine z_obj Z oil_0 oi_i oi_c hl.1 dX0_init_1 (Nat.le_of_ble_eq_true rfl) (Nat.le_of_ble_eq_true rfl) ?_
  refine z_p (fun _ _ k => lv_aload_n Z.1 Z.2.1 dX0_init_4 rfl (lv_at hl 0 rfl) k) ?_
  refine z_p (fun _ _ k => lv_bipush (v := 8) Z.1 Z.2.1 dX0_init_5 (by decide) k) ?_
  refine z_newI (N := 8) Z aci (by decide) (by decide) (by decide) (Nat.le_of_ble_eq_true rfl) (Nat.le_of_ble_eq_true rfl) dX0_init_7 [(h0, .inr (0, [.null, .null, .null, .long 0, .int 0, .int 0]))] [] (fun q1 => ?_)
  refine z_eq (ws' := [(h0, .inr (0, [.null, .null, .null, .long 0, .int 0, .int 0])), (q1, .inl (gc g 0, 8, .inl (fun _ => 0)))]) rfl ?_
  refine z_putF (C := RX0) (T := TX0) (N := 6) (ci := 0) (ws' := [(h0, .inr (0, [.ref q1, .null, .null, .long 0, .int 0, .int 0])), (q1, .inl (gc g 0, 8, .inl (fun _ => 0)))]) Z uw_0 tyX0 tyX0_ok nmX0 0 rfl rfl 0 (by decide) (wG_t (i := 147) (by decide +kernel) (by decide +kernel)) rfl hnm rfl (tyX0_ok 0 (by decide)) rfl rfl (Nat.le_of_ble_eq_true rfl) dX0_init_9 rfl ?_
  refine z_p (fun _ _ k => lv_aload_n Z.1 Z.2.1 dX0_init_12 rfl (lv_at hl 0 rfl) k) ?_
  refine z_p (fun _ _ k => lv_bipush (v := 8) Z.1 Z.2.1 dX0_init_13 (by decide) k) ?_
  refine z_newI (N := 8) Z aci (by decide) (by decide) (by decide) (Nat.le_of_ble_eq_true rfl) (Nat.le_of_ble_eq_true rfl) dX0_init_15 [(h0, .inr (0, [.ref q1, .null, .null, .long 0, .int 0, .int 0])), (q1, .inl (gc g 0, 8, .inl (fun _ => 0)))] [] (fun q2 => ?_)
  refine z_eq (ws' := [(h0, .inr (0, [.ref q1, .null, .null, .long 0, .int 0, .int 0])), (q1, .inl (gc g 0, 8, .inl (fun _ => 0))), (q2, .inl (gc g 0, 8, .inl (fun _ => 0)))]) rfl ?_
  refine z_putF (C := RX0) (T := TX0) (N := 6) (ci := 0) (ws' := [(h0, .inr (0, [.ref q1, .ref q2, .null, .long 0, .int 0, .int 0])), (q1, .inl (gc g 0, 8, .inl (fun _ => 0))), (q2, .inl (gc g 0, 8, .inl (fun _ => 0)))]) Z uw_0 tyX0 tyX0_ok nmX0 0 rfl rfl 1 (by decide) (wG_t (i := 148) (by decide +kernel) (by decide +kernel)) rfl hnm rfl (tyX0_ok 1 (by decide)) rfl rfl (Nat.le_of_ble_eq_true rfl) dX0_init_17 rfl ?_
  refine z_p (fun _ _ k => lv_aload_n Z.1 Z.2.1 dX0_init_20 rfl (lv_at hl 0 rfl) k) ?_
  refine z_p (fun _ _ k => lv_iconst (v := 3) Z.1 Z.2.1 dX0_init_21 (by decide) k) ?_
  refine z_newI (N := 3) Z aci (by decide) (by decide) (by decide) (Nat.le_of_ble_eq_true rfl) (Nat.le_of_ble_eq_true rfl) dX0_init_22 [(h0, .inr (0, [.ref q1, .ref q2, .null, .long 0, .int 0, .int 0])), (q1, .inl (gc g 0, 8, .inl (fun _ => 0))), (q2, .inl (gc g 0, 8, .inl (fun _ => 0)))] [] (fun q3 => ?_)
  refine z_eq (ws' := [(h0, .inr (0, [.ref q1, .ref q2, .null, .long 0, .int 0, .int 0])), (q1, .inl (gc g 0, 8, .inl (fun _ => 0))), (q2, .inl (gc g 0, 8, .inl (fun _ => 0))), (q3, .inl (gc g 0, 3, .inl (fun _ => 0)))]) rfl ?_
  refine z_putF (C := RX0) (T := TX0) (N := 6) (ci := 0) (ws' := [(h0, .inr (0, [.ref q1, .ref q2, .ref q3, .long 0, .int 0, .int 0])), (q1, .inl (gc g 0, 8, .inl (fun _ => 0))), (q2, .inl (gc g 0, 8, .inl (fun _ => 0))), (q3, .inl (gc g 0, 3, .inl (fun _ => 0)))]) Z uw_0 tyX0 tyX0_ok nmX0 0 rfl rfl 2 (by decide) (wG_t (i := 149) (by decide +kernel) (by decide +kernel)) rfl hnm rfl (tyX0_ok 2 (by decide)) rfl rfl (Nat.le_of_ble_eq_true rfl) dX0_init_24 rfl ?_
  refine z_wd (k := 3) (n := 19) (Nat.le_of_ble_eq_true rfl) (Nat.le_of_ble_eq_true rfl) ?_
  exact z_ret Z hQ ⟨q1, q2, q3, rfl⟩ dX0_init_27
set_option maxHeartbeats 4000000 in
set_option maxRecDepth 100000 in
theorem k_X5 {g : Geo} {l : Launch} (h0 : Nat) : Kc g l yX5_init cX5_init 1 1 12 2 20 h0 [(h0, .inr (5, [.null, .null, .int 0, .int 0, .int 0, .int 0, .int 0, .null]))] (fun w => ∃ q1 q2 : Nat, w = [(h0, .inr (5, [.ref q1, .ref q2, .int 0, .int 0, .int 0, .int 0, .int 0, .null])), (q1, .inl (gc g 0, 10, .inl (fun _ => 0))), (q2, .inl (gc g 0, 10, .inl (fun _ => 0)))]) := by
  refine Kc.of (by decide) ?_
  intro p e s m below meth c A Qc Z hnm hQ
  have hl := lv_entry ([.ref h0]) (n := 1) (Nat.le_of_ble_eq_true rfl)
  rw [lg_entry_eq]
  generalize (lg_sl ([.ref h0]) ++ List.replicate (1 - (lg_sl ([.ref h0])).length) Slot.unset).toArray = ls at hl ⊢
  have hl : lv_has ls 1 [(0, .ref h0)] := hl
  refine z_p (fun _ _ k => lv_aload_n Z.1 Z.2.1 dX5_init_0 rfl (lv_at hl 0 rfl) k) ?_
  refine z_obj Z oil_5 oi_i oi_c hl.1 dX5_init_1 (Nat.le_of_ble_eq_true rfl) (Nat.le_of_ble_eq_true rfl) ?_
  refine z_p (fun _ _ k => lv_aload_n Z.1 Z.2.1 dX5_init_4 rfl (lv_at hl 0 rfl) k) ?_
  refine z_p (fun _ _ k => lv_bipush (v := 10) Z.1 Z.2.1 dX5_init_5 (by decide) k) ?_
  refine z_newI (N := 10) Z aci (by decide) (by decide) (by decide) (Nat.le_of_ble_eq_true rfl) (Nat.le_of_ble_eq_true rfl) dX5_init_7 [(h0, .inr (5, [.null, .null, .int 0, .int 0, .int 0, .int 0, .int 0, .null]))] [] (fun q1 => ?_)
  refine z_eq (ws' := [(h0, .inr (5, [.null, .null, .int 0, .int 0, .int 0, .int 0, .int 0, .null])), (q1, .inl (gc g 0, 10, .inl (fun _ => 0)))]) rfl ?_
  refine z_putF (C := RX5) (T := TX5) (N := 8) (ci := 5) (ws' := [(h0, .inr (5, [.ref q1, .null, .int 0, .int 0, .int 0, .int 0, .int 0, .null])), (q1, .inl (gc g 0, 10, .inl (fun _ => 0)))]) Z uw_5 tyX5 tyX5_ok nmX5 0 rfl rfl 0 (by decide) (wG_t (i := 174) (by decide +kernel) (by decide +kernel)) rfl hnm rfl (tyX5_ok 0 (by decide)) rfl rfl (Nat.le_of_ble_eq_true rfl) dX5_init_9 rfl ?_
  refine z_p (fun _ _ k => lv_aload_n Z.1 Z.2.1 dX5_init_12 rfl (lv_at hl 0 rfl) k) ?_
  refine z_p (fun _ _ k => lv_bipush (v := 10) Z.1 Z.2.1 dX5_init_13 (by decide) k) ?_
  refine z_newI (N := 10) Z aci (by decide) (by decide) (by decide) (Nat.le_of_ble_eq_true rfl) (Nat.le_of_ble_eq_true rfl) dX5_init_15 [(h0, .inr (5, [.ref q1, .null, .int 0, .int 0, .int 0, .int 0, .int 0, .null])), (q1, .inl (gc g 0, 10, .inl (fun _ => 0)))] [] (fun q2 => ?_)
  refine z_eq (ws' := [(h0, .inr (5, [.ref q1, .null, .int 0, .int 0, .int 0, .int 0, .int 0, .null])), (q1, .inl (gc g 0, 10, .inl (fun _ => 0))), (q2, .inl (gc g 0, 10, .inl (fun _ => 0)))]) rfl ?_
  refine z_putF (C := RX5) (T := TX5) (N := 8) (ci := 5) (ws' := [(h0, .inr (5, [.ref q1, .ref q2, .int 0, .int 0, .int 0, .int 0, .int 0, .null])), (q1, .inl (gc g 0, 10, .inl (fun _ => 0))), (q2, .inl (gc g 0, 10, .inl (fun _ => 0)))]) Z uw_5 tyX5 tyX5_ok nmX5 0 rfl rfl 1 (by decide) (wG_t (i := 176) (by decide +kernel) (by decide +kernel)) rfl hnm rfl (tyX5_ok 1 (by decide)) rfl rfl (Nat.le_of_ble_eq_true rfl) dX5_init_17 rfl ?_
  refine z_wd (k := 2) (n := 20) (Nat.le_of_ble_eq_true rfl) (Nat.le_of_ble_eq_true rfl) ?_
  exact z_ret Z hQ ⟨q1, q2, rfl⟩ dX5_init_20
set_option maxHeartbeats 4000000 in
set_option maxRecDepth 100000 in
theorem k_X1 {g : Geo} {l : Launch} (h0 : Nat) : Kc g l yX1_init cX1_init 1 1 12 1 6 h0 [(h0, .inr (1, [.null, .int 0, .int 0, .int 0, .int 0]))] (fun w => ∃ q1 : Nat, w = [(h0, .inr (1, [.ref q1, .int 0, .int 0, .int 0, .int 0])), (q1, .inl (gc g 0, 6, .inl (upd (upd (upd (upd (upd (upd (fun _ => 0) 0 1) 1 0) 2 0) 3 0) 4 0) 5 1)))]) := by
  refine Kc.of (by decide) ?_
  intro p e s m below meth c A Qc Z hnm hQ
  have hl := lv_entry ([.ref h0]) (n := 1) (Nat.le_of_ble_eq_true rfl)
  rw [lg_entry_eq]
  generalize (lg_sl ([.ref h0]) ++ List.replicate (1 - (lg_sl ([.ref h0])).length) Slot.unset).toArray = ls at hl ⊢
  have hl : lv_has ls 1 [(0, .ref h0)] := hl
  refine z_p (fun _ _ k => lv_aload_n Z.1 Z.2.1 dX1_init_0 rfl (lv_at hl 0 rfl) k) ?_
  refine z_obj Z oil_1 oi_i oi_c hl.1 dX1_init_1 (Nat.le_of_ble_eq_true rfl) (Nat.le_of_ble_eq_true rfl) ?_
  refine z_p (fun _ _ k => lv_aload_n Z.1 Z.2.1 dX1_init_4 rfl (lv_at hl 0 rfl) k) ?_
  refine z_p (fun _ _ k => lv_bipush (v := 6) Z.1 Z.2.1 dX1_init_5 (by decide) k) ?_
  refine z_newI (N := 6) Z aci (by decide) (by decide) (by decide) (Nat.le_of_ble_eq_true rfl) (Nat.le_of_ble_eq_true rfl) dX1_init_7 [(h0, .inr (1, [.null, .int 0, .int 0, .int 0, .int 0]))] [] (fun q1 => ?_)
  refine z_eq (ws' := [(h0, .inr (1, [.null, .int 0, .int 0, .int 0, .int 0])), (q1, .inl (gc g 0, 6, .inl (fun _ => 0)))]) rfl ?_
  refine z_p (fun _ _ k => lv_dup Z.1 Z.2.1 dX1_init_9 rfl k) ?_
  refine z_p (fun _ _ k => lv_iconst (v := 0) Z.1 Z.2.1 dX1_init_10 (by decide) k) ?_
  refine z_p (fun _ _ k => lv_iconst (v := 1) Z.1 Z.2.1 dX1_init_11 (by decide) k) ?_
  refine z_iast (ws' := [(h0, .inr (1, [.null, .int 0, .int 0, .int 0, .int 0])), (q1, .inl (gc g 0, 6, .inl (upd (fun _ => 0) 0 1)))]) Z 1 rfl 0 (by decide) (by decide) dX1_init_12 rfl ?_
  refine z_p (fun _ _ k => lv_dup Z.1 Z.2.1 dX1_init_13 rfl k) ?_
  refine z_p (fun _ _ k => lv_iconst (v := 1) Z.1 Z.2.1 dX1_init_14 (by decide) k) ?_
  refine z_p (fun _ _ k => lv_iconst (v := 0) Z.1 Z.2.1 dX1_init_15 (by decide) k) ?_
  refine z_iast (ws' := [(h0, .inr (1, [.null, .int 0, .int 0, .int 0, .int 0])), (q1, .inl (gc g 0, 6, .inl (upd (upd (fun _ => 0) 0 1) 1 0)))]) Z 1 rfl 1 (by decide) (by decide) dX1_init_16 rfl ?_
  refine z_p (fun _ _ k => lv_dup Z.1 Z.2.1 dX1_init_17 rfl k) ?_
  refine z_p (fun _ _ k => lv_iconst (v := 2) Z.1 Z.2.1 dX1_init_18 (by decide) k) ?_
  refine z_p (fun _ _ k => lv_iconst (v := 0) Z.1 Z.2.1 dX1_init_19 (by decide) k) ?_
  refine z_iast (ws' := [(h0, .inr (1, [.null, .int 0, .int 0, .int 0, .int 0])), (q1, .inl (gc g 0, 6, .inl (upd (upd (upd (fun _ => 0) 0 1) 1 0) 2 0)))]) Z 1 rfl 2 (by decide) (by decide) dX1_init_20 rfl ?_
  refine z_p (fun _ _ k => lv_dup Z.1 Z.2.1 dX1_init_21 rfl k) ?_
  refine z_p (fun _ _ k => lv_iconst (v := 3) Z.1 Z.2.1 dX1_init_22 (by decide) k) ?_
  refine z_p (fun _ _ k => lv_iconst (v := 0) Z.1 Z.2.1 dX1_init_23 (by decide) k) ?_
  refine z_iast (ws' := [(h0, .inr (1, [.null, .int 0, .int 0, .int 0, .int 0])), (q1, .inl (gc g 0, 6, .inl (upd (upd (upd (upd (fun _ => 0) 0 1) 1 0) 2 0) 3 0)))]) Z 1 rfl 3 (by decide) (by decide) dX1_init_24 rfl ?_
  refine z_p (fun _ _ k => lv_dup Z.1 Z.2.1 dX1_init_25 rfl k) ?_
  refine z_p (fun _ _ k => lv_iconst (v := 4) Z.1 Z.2.1 dX1_init_26 (by decide) k) ?_
  refine z_p (fun _ _ k => lv_iconst (v := 0) Z.1 Z.2.1 dX1_init_27 (by decide) k) ?_
  refine z_iast (ws' := [(h0, .inr (1, [.null, .int 0, .int 0, .int 0, .int 0])), (q1, .inl (gc g 0, 6, .inl (upd (upd (upd (upd (upd (fun _ => 0) 0 1) 1 0) 2 0) 3 0) 4 0)))]) Z 1 rfl 4 (by decide) (by decide) dX1_init_28 rfl ?_
  refine z_p (fun _ _ k => lv_dup Z.1 Z.2.1 dX1_init_29 rfl k) ?_
  refine z_p (fun _ _ k => lv_iconst (v := 5) Z.1 Z.2.1 dX1_init_30 (by decide) k) ?_
  refine z_p (fun _ _ k => lv_iconst (v := 1) Z.1 Z.2.1 dX1_init_31 (by decide) k) ?_
  refine z_iast (ws' := [(h0, .inr (1, [.null, .int 0, .int 0, .int 0, .int 0])), (q1, .inl (gc g 0, 6, .inl (upd (upd (upd (upd (upd (upd (fun _ => 0) 0 1) 1 0) 2 0) 3 0) 4 0) 5 1)))]) Z 1 rfl 5 (by decide) (by decide) dX1_init_32 rfl ?_
  refine z_putF (C := RX1) (T := TX1) (N := 5) (ci := 1) (ws' := [(h0, .inr (1, [.ref q1, .int 0, .int 0, .int 0, .int 0])), (q1, .inl (gc g 0, 6, .inl (upd (upd (upd (upd (upd (upd (fun _ => 0) 0 1) 1 0) 2 0) 3 0) 4 0) 5 1)))]) Z uw_1 tyX1 tyX1_ok nmX1 0 rfl rfl 0 (by decide) (wG_t (i := 207) (by decide +kernel) (by decide +kernel)) rfl hnm rfl (tyX1_ok 0 (by decide)) rfl rfl (Nat.le_of_ble_eq_true rfl) dX1_init_33 rfl ?_
  refine z_wd (k := 1) (n := 6) (Nat.le_of_ble_eq_true rfl) (Nat.le_of_ble_eq_true rfl) ?_
  exact z_ret Z hQ ⟨q1, rfl⟩ dX1_init_36
