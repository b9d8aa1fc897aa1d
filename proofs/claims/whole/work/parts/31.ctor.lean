/-! X0_init -/
abbrev rm_X0_init : Room := { frames := 1, cells := 0, slots := 0, locals := 40 }
theorem ds_X0_init : yX0_init.cls ≠ "java/lang/invoke/MethodHandle" ∧ yX0_init.cls ≠ "java/lang/invoke/VarHandle" ∧ (parseMethodDescriptor yX0_init.desc).map (fun d => d.parameters.length) = some 0 := by decide +kernel
def f_X0_init : Option (Unit) := (some ())
set_option maxRecDepth 100000 in
set_option maxHeartbeats 4000000 in
theorem t_X0_init {X : qX} (hC : Ok X rm_X0_init cX0_init 1 RX0 none) (ha : Nat) (place : Int32) (speed : Int32) (offset : Int32) (res : Unit) (hR : Rt X 0 0 (fun r w => r = none ∧ w = (chW ha place speed offset))) (h : f_X0_init  = some res) : At X 0 0 0 (chW ha place speed offset) [(0, .ref ha)] [] := by
  unfold f_X0_init at h
  refine a_aload_n 1 0 hC dX0_init_0 rfl rfl rfl ?_
  refine a_obj 4 hC wq169 wq42 wq43 dX0_init_1 (by decide) (Nat.le_of_ble_eq_true rfl) rfl ?_
  obtain rfl := Option.some.inj h
  exact a_vret hC hR ⟨rfl, rfl⟩ (Nat.le_refl _) (Nat.le_refl _) dX0_init_4
theorem c_X0_init (l : Launch) (D : va_G) (z : ClassId × ClassId × ClassId) (ha : Nat) (place : Int32) (speed : Int32) (offset : Int32) (res : Unit) (h : f_X0_init  = some res) : Ct l D z yX0_init cX0_init 1 none rm_X0_init [.ref ha] (chW ha place speed offset) (fun r w => r = none ∧ w = (chW ha place speed offset)) := by
  refine Ct.of (by decide +kernel) (Nat.le_of_ble_eq_true rfl) (fun X hC hl hz hn hR => ?_)
  have hz1 : X.2.2.2.2 = z := by rw [hz]
  subst hz1
  exact t_X0_init hC ha place speed offset res hR h

/-! X6_init -/
abbrev rm_X6_init : Room := { frames := 1, cells := 0, slots := 0, locals := 40 }
theorem ds_X6_init : yX6_init.cls ≠ "java/lang/invoke/MethodHandle" ∧ yX6_init.cls ≠ "java/lang/invoke/VarHandle" ∧ (parseMethodDescriptor yX6_init.desc).map (fun d => d.parameters.length) = some 0 := by decide +kernel
def f_X6_init (course : Int32) (hold : Int32) : Option ((Int32) × (Int32)) := (some ((1 : Int32), (5 : Int32)))
set_option maxRecDepth 100000 in
set_option maxHeartbeats 4000000 in
theorem t_X6_init {X : qX} (hC : Ok X rm_X6_init cX6_init 1 RX6 none) (ha : Nat) (frame : Int32) (course : Int32) (missed : Int32) (hold : Int32) (res : (Int32) × (Int32)) (hR : Rt X 0 0 (fun r w => r = none ∧ w = (whW ha frame res.1 missed res.2))) (h : f_X6_init course hold = some res) : At X 0 0 0 (whW ha frame course missed hold) [(0, .ref ha)] [] := by
  unfold f_X6_init at h
  refine a_aload_n 1 0 hC dX6_init_0 rfl rfl rfl ?_
  refine a_obj 4 hC wq145 wq42 wq43 dX6_init_1 (by decide) (Nat.le_of_ble_eq_true rfl) rfl ?_
  refine a_aload_n 5 0 hC dX6_init_4 rfl rfl rfl ?_
  refine a_iconst 6 (v := (1 : Int32)) hC dX6_init_5 rfl (by decide) ?_
  refine a_put 9 0 5 1 (whW ha frame (1 : Int32) missed hold) tyX6 hC inB_X6 tyX6_ok nmX6 rfl rfl (by decide) wq149 rfl rfl rfl rfl rfl (Nat.le_of_ble_eq_true rfl) dX6_init_6 rfl rfl ?_
  refine a_aload_n 10 0 hC dX6_init_9 rfl rfl rfl ?_
  refine a_iconst 11 (v := (5 : Int32)) hC dX6_init_10 rfl (by decide) ?_
  refine a_put 14 0 5 3 (whW ha frame (1 : Int32) missed (5 : Int32)) tyX6 hC inB_X6 tyX6_ok nmX6 rfl rfl (by decide) wq153 rfl rfl rfl rfl rfl (Nat.le_of_ble_eq_true rfl) dX6_init_11 rfl rfl ?_
  obtain rfl := Option.some.inj h
  exact a_vret hC hR ⟨rfl, rfl⟩ (Nat.le_refl _) (Nat.le_refl _) dX6_init_14
theorem c_X6_init (l : Launch) (D : va_G) (z : ClassId × ClassId × ClassId) (ha : Nat) (frame : Int32) (course : Int32) (missed : Int32) (hold : Int32) (res : (Int32) × (Int32)) (h : f_X6_init course hold = some res) : Ct l D z yX6_init cX6_init 1 none rm_X6_init [.ref ha] (whW ha frame course missed hold) (fun r w => r = none ∧ w = (whW ha frame res.1 missed res.2)) := by
  refine Ct.of (by decide +kernel) (Nat.le_of_ble_eq_true rfl) (fun X hC hl hz hn hR => ?_)
  have hz1 : X.2.2.2.2 = z := by rw [hz]
  subst hz1
  exact t_X6_init hC ha frame course missed hold res hR h

/-! X3_init -/
abbrev rm_X3_init : Room := { frames := 1, cells := 0, slots := 0, locals := 40 }
theorem ds_X3_init : yX3_init.cls ≠ "java/lang/invoke/MethodHandle" ∧ yX3_init.cls ≠ "java/lang/invoke/VarHandle" ∧ (parseMethodDescriptor yX3_init.desc).map (fun d => d.parameters.length) = some 0 := by decide +kernel
def f_X3_init (cell : Int32) : Option ((Int32)) := (some (40 : Int32))
set_option maxRecDepth 100000 in
set_option maxHeartbeats 4000000 in
theorem t_X3_init {X : qX} (hC : Ok X rm_X3_init cX3_init 1 RX3 none) (ha : Nat) (cell : Int32) (waits : Int32) (bits : Int64) (held : Int32) (readings : Int32) (broken : Int32) (errors : Int32) (jumps : Int32) (streak : Int32) (frame : Int32) (number : Int32) (user : Int32) (course : Int32) (res : (Int32)) (hR : Rt X 0 0 (fun r w => r = none ∧ w = (rdW ha res waits bits held readings broken errors jumps streak frame number user course))) (h : f_X3_init cell = some res) : At X 0 0 0 (rdW ha cell waits bits held readings broken errors jumps streak frame number user course) [(0, .ref ha)] [] := by
  unfold f_X3_init at h
  refine a_aload_n 1 0 hC dX3_init_0 rfl rfl rfl ?_
  refine a_obj 4 hC wq84 wq42 wq43 dX3_init_1 (by decide) (Nat.le_of_ble_eq_true rfl) rfl ?_
  refine a_aload_n 5 0 hC dX3_init_4 rfl rfl rfl ?_
  refine a_bipush 7 (v := (40 : Int32)) hC dX3_init_5 rfl (by decide) ?_
  refine a_put 10 0 2 0 (rdW ha (40 : Int32) waits bits held readings broken errors jumps streak frame number user course) tyX3 hC inB_X3 tyX3_ok nmX3 rfl rfl (by decide) wq85 rfl rfl rfl rfl rfl (Nat.le_of_ble_eq_true rfl) dX3_init_7 rfl rfl ?_
  obtain rfl := Option.some.inj h
  exact a_vret hC hR ⟨rfl, rfl⟩ (Nat.le_refl _) (Nat.le_refl _) dX3_init_10
theorem c_X3_init (l : Launch) (D : va_G) (z : ClassId × ClassId × ClassId) (ha : Nat) (cell : Int32) (waits : Int32) (bits : Int64) (held : Int32) (readings : Int32) (broken : Int32) (errors : Int32) (jumps : Int32) (streak : Int32) (frame : Int32) (number : Int32) (user : Int32) (course : Int32) (res : (Int32)) (h : f_X3_init cell = some res) : Ct l D z yX3_init cX3_init 1 none rm_X3_init [.ref ha] (rdW ha cell waits bits held readings broken errors jumps streak frame number user course) (fun r w => r = none ∧ w = (rdW ha res waits bits held readings broken errors jumps streak frame number user course)) := by
  refine Ct.of (by decide +kernel) (Nat.le_of_ble_eq_true rfl) (fun X hC hl hz hn hR => ?_)
  have hz1 : X.2.2.2.2 = z := by rw [hz]
  subst hz1
  exact t_X3_init hC ha cell waits bits held readings broken errors jumps streak frame number user course res hR h

/-! X5_init -/
abbrev rm_X5_init : Room := { frames := 1, cells := 3, slots := 18, locals := 40 }
theorem ds_X5_init : yX5_init.cls ≠ "java/lang/invoke/MethodHandle" ∧ yX5_init.cls ≠ "java/lang/invoke/VarHandle" ∧ (parseMethodDescriptor yX5_init.desc).map (fun d => d.parameters.length) = some 0 := by decide +kernel
set_option maxRecDepth 100000 in
set_option maxHeartbeats 4000000 in
theorem c_X5_init (l : Launch) (D : va_G) (z : ClassId × ClassId × ClassId) (ha : Nat) : Ct l D z yX5_init cX5_init 1 none rm_X5_init [.ref ha] [(ha, .inr (4, [.null, .null, .null, .int 0, .int 0, .int 0]))] (fun r w => r = none ∧ ∃ h1 h2 h3, w = tpW z ha h1 h2 h3 (fun _ => 0) (fun _ => 0) (fun _ => 0) 0 0 0) := by
  refine Ct.of (by decide +kernel) (Nat.le_of_ble_eq_true rfl) (fun X hC hl hz hin hR => ?_)
  have hz1 : X.2.2.2.2 = z := by rw [hz]
  subst hz1
  refine a_lv [0] [(0, .ref ha)] rfl ?_
  refine a_aload_n 1 0 hC dX5_init_0 rfl rfl rfl ?_
  refine a_obj 4 hC wq55 wq42 wq43 dX5_init_1 (by decide) (Nat.le_of_ble_eq_true rfl) rfl ?_
  refine a_aload_n 5 0 hC dX5_init_4 rfl rfl rfl ?_
  refine a_bipush 7 (v := (6 : Int32)) hC dX5_init_5 rfl (by decide) ?_
  refine a_newi 9 6 hC wq78 (by decide) (by decide) (Nat.le_of_ble_eq_true rfl) (Nat.le_of_ble_eq_true rfl) (Nat.le_of_ble_eq_true rfl) dX5_init_7 rfl (fun q7 => ?_)
  refine a_ws [(ha, .inr (4, [.null, .null, .null, .int 0, .int 0, .int 0])), (q7, .inl (X.2.2.2.2.1, 6, .inl (fun _ => 0)))] rfl ?_
  refine a_putF 12 0 4 0 [(ha, .inr (4, [.ref q7, .null, .null, .int 0, .int 0, .int 0])), (q7, .inl (X.2.2.2.2.1, 6, .inl (fun _ => 0)))] tyX5 hC hin inB_X5 tyX5_ok nmX5 rfl rfl (by decide) wq56 rfl rfl rfl rfl rfl rfl (Nat.le_of_ble_eq_true rfl) dX5_init_9 rfl rfl ?_
  refine a_aload_n 13 0 hC dX5_init_12 rfl rfl rfl ?_
  refine a_bipush 15 (v := (6 : Int32)) hC dX5_init_13 rfl (by decide) ?_
  refine a_newi 17 6 hC wq78 (by decide) (by decide) (Nat.le_of_ble_eq_true rfl) (Nat.le_of_ble_eq_true rfl) (Nat.le_of_ble_eq_true rfl) dX5_init_15 rfl (fun q15 => ?_)
  refine a_ws [(ha, .inr (4, [.ref q7, .null, .null, .int 0, .int 0, .int 0])), (q7, .inl (X.2.2.2.2.1, 6, .inl (fun _ => 0))), (q15, .inl (X.2.2.2.2.1, 6, .inl (fun _ => 0)))] rfl ?_
  refine a_putF 20 0 4 1 [(ha, .inr (4, [.ref q7, .ref q15, .null, .int 0, .int 0, .int 0])), (q7, .inl (X.2.2.2.2.1, 6, .inl (fun _ => 0))), (q15, .inl (X.2.2.2.2.1, 6, .inl (fun _ => 0)))] tyX5 hC hin inB_X5 tyX5_ok nmX5 rfl rfl (by decide) wq57 rfl rfl rfl rfl rfl rfl (Nat.le_of_ble_eq_true rfl) dX5_init_17 rfl rfl ?_
  refine a_aload_n 21 0 hC dX5_init_20 rfl rfl rfl ?_
  refine a_bipush 23 (v := (6 : Int32)) hC dX5_init_21 rfl (by decide) ?_
  refine a_newi 25 6 hC wq78 (by decide) (by decide) (Nat.le_of_ble_eq_true rfl) (Nat.le_of_ble_eq_true rfl) (Nat.le_of_ble_eq_true rfl) dX5_init_23 rfl (fun q23 => ?_)
  refine a_ws [(ha, .inr (4, [.ref q7, .ref q15, .null, .int 0, .int 0, .int 0])), (q7, .inl (X.2.2.2.2.1, 6, .inl (fun _ => 0))), (q15, .inl (X.2.2.2.2.1, 6, .inl (fun _ => 0))), (q23, .inl (X.2.2.2.2.1, 6, .inl (fun _ => 0)))] rfl ?_
  refine a_putF 28 0 4 2 [(ha, .inr (4, [.ref q7, .ref q15, .ref q23, .int 0, .int 0, .int 0])), (q7, .inl (X.2.2.2.2.1, 6, .inl (fun _ => 0))), (q15, .inl (X.2.2.2.2.1, 6, .inl (fun _ => 0))), (q23, .inl (X.2.2.2.2.1, 6, .inl (fun _ => 0)))] tyX5 hC hin inB_X5 tyX5_ok nmX5 rfl rfl (by decide) wq58 rfl rfl rfl rfl rfl rfl (Nat.le_of_ble_eq_true rfl) dX5_init_25 rfl rfl ?_
  exact a_vret hC hR ⟨rfl, q7, q15, q23, rfl⟩ (Nat.le_of_ble_eq_true rfl) (Nat.le_of_ble_eq_true rfl) dX5_init_28

/-! X4_init -/
abbrev rm_X4_init : Room := { frames := 2, cells := 9, slots := 50, locals := 60 }
theorem ds_X4_init : yX4_init.cls ≠ "java/lang/invoke/MethodHandle" ∧ yX4_init.cls ≠ "java/lang/invoke/VarHandle" ∧ (parseMethodDescriptor yX4_init.desc).map (fun d => d.parameters.length) = some 0 := by decide +kernel
set_option maxRecDepth 100000 in
set_option maxHeartbeats 4000000 in
theorem c_X4_init (l : Launch) (D : va_G) (z : ClassId × ClassId × ClassId) (ha : Nat) : Ct l D z yX4_init cX4_init 1 none rm_X4_init [.ref ha] [(ha, .inr (3, [.int 0, .null, .null, .null, .null, .null, .null]))] (fun r w => r = none ∧ ∃ a : Nat → Nat, a 0 = ha ∧ w = stW z a 1 (fun _ => 0) (fun _ => 0) (fun _ => 0) 0 0 0 40 0 0 0 0 0 0 0 0 0 0 0 0 0 1 0 5 0 0 0 0 0 0 0 0 0) := by
  refine Ct.of (by decide +kernel) (Nat.le_of_ble_eq_true rfl) (fun X hC hl hz hin hR => ?_)
  have hz1 : X.2.2.2.2 = z := by rw [hz]
  subst hz1
  refine a_lv [0] [(0, .ref ha)] rfl ?_
  refine a_aload_n 1 0 hC dX4_init_0 rfl rfl rfl ?_
  refine a_obj 4 hC wq49 wq42 wq43 dX4_init_1 (by decide) (Nat.le_of_ble_eq_true rfl) rfl ?_
  refine a_aload_n 5 0 hC dX4_init_4 rfl rfl rfl ?_
  refine a_iconst 6 (v := (1 : Int32)) hC dX4_init_5 rfl (by decide) ?_
  refine a_put 9 0 3 0 [(ha, .inr (3, [.int (1 : Int32), .null, .null, .null, .null, .null, .null]))] tyX4 hC inB_X4 tyX4_ok nmX4 rfl rfl (by decide) wq184 rfl rfl rfl rfl rfl (Nat.le_of_ble_eq_true rfl) dX4_init_6 rfl rfl ?_
  refine a_aload_n 10 0 hC dX4_init_9 rfl rfl rfl ?_
  refine a_new 13 4 [.null, .null, .null, .int 0, .int 0, .int 0] tyX5 hC inB_X5 tyX5_ok wq50 wq51 wq25 rfl (fun j hj => by rcases (show j = 0 ∨ j = 1 ∨ j = 2 ∨ j = 3 ∨ j = 4 ∨ j = 5 by omega) with rfl | rfl | rfl | rfl | rfl | rfl <;> rfl) (Nat.le_of_ble_eq_true rfl) (Nat.le_of_ble_eq_true rfl) dX4_init_10 rfl (fun q10 => ?_)
  refine a_ws [(ha, .inr (3, [.int (1 : Int32), .null, .null, .null, .null, .null, .null])), (q10, .inr (4, [.null, .null, .null, .int 0, .int 0, .int 0]))] rfl ?_
  refine a_dup 14 hC dX4_init_13 rfl rfl ?_
  refine a_callIN 17 [(ha, .inr (3, [.int (1 : Int32), .null, .null, .null, .null, .null, .null])), (q10, .inr (4, [.null, .null, .null, .int 0, .int 0, .int 0]))] [] [1] [0] hC (c_X5_init X.1.2.1 X.2.2.2.1 X.2.2.2.2 q10) hC.2.2.2.2.2.1.2.2.2.2.2.2.1 wq53 wq25 wq54 rfl ds_X5_init ⟨by decide, by decide⟩ (Nat.le_of_ble_eq_true rfl) dX4_init_14 rfl ⟨Nat.le_of_ble_eq_true rfl, Nat.le_of_ble_eq_true rfl⟩ rfl rfl rfl rfl rfl (by decide) (fun r w hpo => ?_)
  obtain ⟨rfl, t1, t2, t3, rfl⟩ := hpo
  refine a_ws [(ha, .inr (3, [.int (1 : Int32), .null, .null, .null, .null, .null, .null])), (q10, .inr (4, [.ref t1, .ref t2, .ref t3, .int 0, .int 0, .int 0])), (t1, .inl (X.2.2.2.2.1, 6, .inl (fun _ => 0))), (t2, .inl (X.2.2.2.2.1, 6, .inl (fun _ => 0))), (t3, .inl (X.2.2.2.2.1, 6, .inl (fun _ => 0)))] rfl ?_
  refine a_st [.ref q10, .ref ha] rfl ?_
  refine a_putF 20 0 3 1 [(ha, .inr (3, [.int (1 : Int32), .ref q10, .null, .null, .null, .null, .null])), (q10, .inr (4, [.ref t1, .ref t2, .ref t3, .int 0, .int 0, .int 0])), (t1, .inl (X.2.2.2.2.1, 6, .inl (fun _ => 0))), (t2, .inl (X.2.2.2.2.1, 6, .inl (fun _ => 0))), (t3, .inl (X.2.2.2.2.1, 6, .inl (fun _ => 0)))] tyX4 hC hin inB_X4 tyX4_ok nmX4 rfl rfl (by decide) wq186 rfl rfl rfl rfl rfl rfl (Nat.le_of_ble_eq_true rfl) dX4_init_17 rfl rfl ?_
  refine a_aload_n 21 0 hC dX4_init_20 rfl rfl rfl ?_
  refine a_new 24 2 [.int 0, .int 0, .long 0, .int 0, .int 0, .int 0, .int 0, .int 0, .int 0, .int 0, .int 0, .int 0, .int 0] tyX3 hC inB_X3 tyX3_ok wq79 wq80 wq26 rfl (fun j hj => by rcases (show j = 0 ∨ j = 1 ∨ j = 2 ∨ j = 3 ∨ j = 4 ∨ j = 5 ∨ j = 6 ∨ j = 7 ∨ j = 8 ∨ j = 9 ∨ j = 10 ∨ j = 11 ∨ j = 12 by omega) with rfl | rfl | rfl | rfl | rfl | rfl | rfl | rfl | rfl | rfl | rfl | rfl | rfl <;> rfl) (Nat.le_of_ble_eq_true rfl) (Nat.le_of_ble_eq_true rfl) dX4_init_21 rfl (fun q21 => ?_)
  refine a_ws [(ha, .inr (3, [.int (1 : Int32), .ref q10, .null, .null, .null, .null, .null])), (q10, .inr (4, [.ref t1, .ref t2, .ref t3, .int 0, .int 0, .int 0])), (t1, .inl (X.2.2.2.2.1, 6, .inl (fun _ => 0))), (t2, .inl (X.2.2.2.2.1, 6, .inl (fun _ => 0))), (t3, .inl (X.2.2.2.2.1, 6, .inl (fun _ => 0))), (q21, .inr (2, [.int 0, .int 0, .long 0, .int 0, .int 0, .int 0, .int 0, .int 0, .int 0, .int 0, .int 0, .int 0, .int 0]))] rfl ?_
  refine a_dup 25 hC dX4_init_24 rfl rfl ?_
  refine a_callIN 28 [(ha, .inr (3, [.int (1 : Int32), .ref q10, .null, .null, .null, .null, .null])), (q10, .inr (4, [.ref t1, .ref t2, .ref t3, .int 0, .int 0, .int 0])), (t1, .inl (X.2.2.2.2.1, 6, .inl (fun _ => 0))), (t2, .inl (X.2.2.2.2.1, 6, .inl (fun _ => 0))), (t3, .inl (X.2.2.2.2.1, 6, .inl (fun _ => 0))), (q21, .inr (2, [.int 0, .int 0, .long 0, .int 0, .int 0, .int 0, .int 0, .int 0, .int 0, .int 0, .int 0, .int 0, .int 0]))] [] [5] [0, 1, 2, 3, 4] hC (c_X3_init X.1.2.1 X.2.2.2.1 X.2.2.2.2 q21 0 0 0 0 0 0 0 0 0 0 0 0 0 _ rfl) hC.2.2.2.2.2.1.2.2.2.2.2.2.2.1 wq82 wq26 wq83 rfl ds_X3_init ⟨by decide, by decide⟩ (Nat.le_of_ble_eq_true rfl) dX4_init_25 rfl ⟨Nat.le_of_ble_eq_true rfl, Nat.le_of_ble_eq_true rfl⟩ rfl rfl rfl rfl rfl (by decide) (fun r w hpo => ?_)
  obtain ⟨rfl, rfl⟩ := hpo
  refine a_ws [(ha, .inr (3, [.int (1 : Int32), .ref q10, .null, .null, .null, .null, .null])), (q10, .inr (4, [.ref t1, .ref t2, .ref t3, .int 0, .int 0, .int 0])), (t1, .inl (X.2.2.2.2.1, 6, .inl (fun _ => 0))), (t2, .inl (X.2.2.2.2.1, 6, .inl (fun _ => 0))), (t3, .inl (X.2.2.2.2.1, 6, .inl (fun _ => 0))), (q21, .inr (2, [.int 40, .int 0, .long 0, .int 0, .int 0, .int 0, .int 0, .int 0, .int 0, .int 0, .int 0, .int 0, .int 0]))] rfl ?_
  refine a_st [.ref q21, .ref ha] rfl ?_
  refine a_putF 31 0 3 2 [(ha, .inr (3, [.int (1 : Int32), .ref q10, .ref q21, .null, .null, .null, .null])), (q10, .inr (4, [.ref t1, .ref t2, .ref t3, .int 0, .int 0, .int 0])), (t1, .inl (X.2.2.2.2.1, 6, .inl (fun _ => 0))), (t2, .inl (X.2.2.2.2.1, 6, .inl (fun _ => 0))), (t3, .inl (X.2.2.2.2.1, 6, .inl (fun _ => 0))), (q21, .inr (2, [.int 40, .int 0, .long 0, .int 0, .int 0, .int 0, .int 0, .int 0, .int 0, .int 0, .int 0, .int 0, .int 0]))] tyX4 hC hin inB_X4 tyX4_ok nmX4 rfl rfl (by decide) wq188 rfl rfl rfl rfl rfl rfl (Nat.le_of_ble_eq_true rfl) dX4_init_28 rfl rfl ?_
  refine a_aload_n 32 0 hC dX4_init_31 rfl rfl rfl ?_
  refine a_new 35 5 [.int 0, .int 0, .int 0, .int 0] tyX6 hC inB_X6 tyX6_ok wq140 wq141 wq27 rfl (fun j hj => by rcases (show j = 0 ∨ j = 1 ∨ j = 2 ∨ j = 3 by omega) with rfl | rfl | rfl | rfl <;> rfl) (Nat.le_of_ble_eq_true rfl) (Nat.le_of_ble_eq_true rfl) dX4_init_32 rfl (fun q32 => ?_)
  refine a_ws [(ha, .inr (3, [.int (1 : Int32), .ref q10, .ref q21, .null, .null, .null, .null])), (q10, .inr (4, [.ref t1, .ref t2, .ref t3, .int 0, .int 0, .int 0])), (t1, .inl (X.2.2.2.2.1, 6, .inl (fun _ => 0))), (t2, .inl (X.2.2.2.2.1, 6, .inl (fun _ => 0))), (t3, .inl (X.2.2.2.2.1, 6, .inl (fun _ => 0))), (q21, .inr (2, [.int 40, .int 0, .long 0, .int 0, .int 0, .int 0, .int 0, .int 0, .int 0, .int 0, .int 0, .int 0, .int 0])), (q32, .inr (5, [.int 0, .int 0, .int 0, .int 0]))] rfl ?_
  refine a_dup 36 hC dX4_init_35 rfl rfl ?_
  refine a_callIN 39 [(ha, .inr (3, [.int (1 : Int32), .ref q10, .ref q21, .null, .null, .null, .null])), (q10, .inr (4, [.ref t1, .ref t2, .ref t3, .int 0, .int 0, .int 0])), (t1, .inl (X.2.2.2.2.1, 6, .inl (fun _ => 0))), (t2, .inl (X.2.2.2.2.1, 6, .inl (fun _ => 0))), (t3, .inl (X.2.2.2.2.1, 6, .inl (fun _ => 0))), (q21, .inr (2, [.int 40, .int 0, .long 0, .int 0, .int 0, .int 0, .int 0, .int 0, .int 0, .int 0, .int 0, .int 0, .int 0])), (q32, .inr (5, [.int 0, .int 0, .int 0, .int 0]))] [] [6] [0, 1, 2, 3, 4, 5] hC (c_X6_init X.1.2.1 X.2.2.2.1 X.2.2.2.2 q32 0 0 0 0 _ rfl) hC.2.2.2.2.2.1.2.2.2.2.2.2.2.2.1 wq143 wq27 wq144 rfl ds_X6_init ⟨by decide, by decide⟩ (Nat.le_of_ble_eq_true rfl) dX4_init_36 rfl ⟨Nat.le_of_ble_eq_true rfl, Nat.le_of_ble_eq_true rfl⟩ rfl rfl rfl rfl rfl (by decide) (fun r w hpo => ?_)
  obtain ⟨rfl, rfl⟩ := hpo
  refine a_ws [(ha, .inr (3, [.int (1 : Int32), .ref q10, .ref q21, .null, .null, .null, .null])), (q10, .inr (4, [.ref t1, .ref t2, .ref t3, .int 0, .int 0, .int 0])), (t1, .inl (X.2.2.2.2.1, 6, .inl (fun _ => 0))), (t2, .inl (X.2.2.2.2.1, 6, .inl (fun _ => 0))), (t3, .inl (X.2.2.2.2.1, 6, .inl (fun _ => 0))), (q21, .inr (2, [.int 40, .int 0, .long 0, .int 0, .int 0, .int 0, .int 0, .int 0, .int 0, .int 0, .int 0, .int 0, .int 0])), (q32, .inr (5, [.int 0, .int 1, .int 0, .int 5]))] rfl ?_
  refine a_st [.ref q32, .ref ha] rfl ?_
  refine a_putF 42 0 3 3 [(ha, .inr (3, [.int (1 : Int32), .ref q10, .ref q21, .ref q32, .null, .null, .null])), (q10, .inr (4, [.ref t1, .ref t2, .ref t3, .int 0, .int 0, .int 0])), (t1, .inl (X.2.2.2.2.1, 6, .inl (fun _ => 0))), (t2, .inl (X.2.2.2.2.1, 6, .inl (fun _ => 0))), (t3, .inl (X.2.2.2.2.1, 6, .inl (fun _ => 0))), (q21, .inr (2, [.int 40, .int 0, .long 0, .int 0, .int 0, .int 0, .int 0, .int 0, .int 0, .int 0, .int 0, .int 0, .int 0])), (q32, .inr (5, [.int 0, .int 1, .int 0, .int 5]))] tyX4 hC hin inB_X4 tyX4_ok nmX4 rfl rfl (by decide) wq190 rfl rfl rfl rfl rfl rfl (Nat.le_of_ble_eq_true rfl) dX4_init_39 rfl rfl ?_
  refine a_aload_n 43 0 hC dX4_init_42 rfl rfl rfl ?_
  refine a_new 46 0 [.int 0, .int 0, .int 0] tyX0 hC inB_X0 tyX0_ok wq164 wq165 wq28 rfl (fun j hj => by rcases (show j = 0 ∨ j = 1 ∨ j = 2 by omega) with rfl | rfl | rfl <;> rfl) (Nat.le_of_ble_eq_true rfl) (Nat.le_of_ble_eq_true rfl) dX4_init_43 rfl (fun q43 => ?_)
  refine a_ws [(ha, .inr (3, [.int (1 : Int32), .ref q10, .ref q21, .ref q32, .null, .null, .null])), (q10, .inr (4, [.ref t1, .ref t2, .ref t3, .int 0, .int 0, .int 0])), (t1, .inl (X.2.2.2.2.1, 6, .inl (fun _ => 0))), (t2, .inl (X.2.2.2.2.1, 6, .inl (fun _ => 0))), (t3, .inl (X.2.2.2.2.1, 6, .inl (fun _ => 0))), (q21, .inr (2, [.int 40, .int 0, .long 0, .int 0, .int 0, .int 0, .int 0, .int 0, .int 0, .int 0, .int 0, .int 0, .int 0])), (q32, .inr (5, [.int 0, .int 1, .int 0, .int 5])), (q43, .inr (0, [.int 0, .int 0, .int 0]))] rfl ?_
  refine a_dup 47 hC dX4_init_46 rfl rfl ?_
  refine a_callIN 50 [(ha, .inr (3, [.int (1 : Int32), .ref q10, .ref q21, .ref q32, .null, .null, .null])), (q10, .inr (4, [.ref t1, .ref t2, .ref t3, .int 0, .int 0, .int 0])), (t1, .inl (X.2.2.2.2.1, 6, .inl (fun _ => 0))), (t2, .inl (X.2.2.2.2.1, 6, .inl (fun _ => 0))), (t3, .inl (X.2.2.2.2.1, 6, .inl (fun _ => 0))), (q21, .inr (2, [.int 40, .int 0, .long 0, .int 0, .int 0, .int 0, .int 0, .int 0, .int 0, .int 0, .int 0, .int 0, .int 0])), (q32, .inr (5, [.int 0, .int 1, .int 0, .int 5])), (q43, .inr (0, [.int 0, .int 0, .int 0]))] [] [7] [0, 1, 2, 3, 4, 5, 6] hC (c_X0_init X.1.2.1 X.2.2.2.1 X.2.2.2.2 q43 0 0 0 () rfl) hC.2.2.2.2.2.1.2.2.2.2.2.2.2.2.2 wq167 wq28 wq168 rfl ds_X0_init ⟨by decide, by decide⟩ (Nat.le_of_ble_eq_true rfl) dX4_init_47 rfl ⟨Nat.le_of_ble_eq_true rfl, Nat.le_of_ble_eq_true rfl⟩ rfl rfl rfl rfl rfl (by decide) (fun r w hpo => ?_)
  obtain ⟨rfl, rfl⟩ := hpo
  refine a_ws [(ha, .inr (3, [.int (1 : Int32), .ref q10, .ref q21, .ref q32, .null, .null, .null])), (q10, .inr (4, [.ref t1, .ref t2, .ref t3, .int 0, .int 0, .int 0])), (t1, .inl (X.2.2.2.2.1, 6, .inl (fun _ => 0))), (t2, .inl (X.2.2.2.2.1, 6, .inl (fun _ => 0))), (t3, .inl (X.2.2.2.2.1, 6, .inl (fun _ => 0))), (q21, .inr (2, [.int 40, .int 0, .long 0, .int 0, .int 0, .int 0, .int 0, .int 0, .int 0, .int 0, .int 0, .int 0, .int 0])), (q32, .inr (5, [.int 0, .int 1, .int 0, .int 5])), (q43, .inr (0, [.int 0, .int 0, .int 0]))] rfl ?_
  refine a_st [.ref q43, .ref ha] rfl ?_
  refine a_putF 53 0 3 4 [(ha, .inr (3, [.int (1 : Int32), .ref q10, .ref q21, .ref q32, .ref q43, .null, .null])), (q10, .inr (4, [.ref t1, .ref t2, .ref t3, .int 0, .int 0, .int 0])), (t1, .inl (X.2.2.2.2.1, 6, .inl (fun _ => 0))), (t2, .inl (X.2.2.2.2.1, 6, .inl (fun _ => 0))), (t3, .inl (X.2.2.2.2.1, 6, .inl (fun _ => 0))), (q21, .inr (2, [.int 40, .int 0, .long 0, .int 0, .int 0, .int 0, .int 0, .int 0, .int 0, .int 0, .int 0, .int 0, .int 0])), (q32, .inr (5, [.int 0, .int 1, .int 0, .int 5])), (q43, .inr (0, [.int 0, .int 0, .int 0]))] tyX4 hC hin inB_X4 tyX4_ok nmX4 rfl rfl (by decide) wq192 rfl rfl rfl rfl rfl rfl (Nat.le_of_ble_eq_true rfl) dX4_init_50 rfl rfl ?_
  refine a_aload_n 54 0 hC dX4_init_53 rfl rfl rfl ?_
  refine a_new 57 0 [.int 0, .int 0, .int 0] tyX0 hC inB_X0 tyX0_ok wq164 wq165 wq28 rfl (fun j hj => by rcases (show j = 0 ∨ j = 1 ∨ j = 2 by omega) with rfl | rfl | rfl <;> rfl) (Nat.le_of_ble_eq_true rfl) (Nat.le_of_ble_eq_true rfl) dX4_init_54 rfl (fun q54 => ?_)
  refine a_ws [(ha, .inr (3, [.int (1 : Int32), .ref q10, .ref q21, .ref q32, .ref q43, .null, .null])), (q10, .inr (4, [.ref t1, .ref t2, .ref t3, .int 0, .int 0, .int 0])), (t1, .inl (X.2.2.2.2.1, 6, .inl (fun _ => 0))), (t2, .inl (X.2.2.2.2.1, 6, .inl (fun _ => 0))), (t3, .inl (X.2.2.2.2.1, 6, .inl (fun _ => 0))), (q21, .inr (2, [.int 40, .int 0, .long 0, .int 0, .int 0, .int 0, .int 0, .int 0, .int 0, .int 0, .int 0, .int 0, .int 0])), (q32, .inr (5, [.int 0, .int 1, .int 0, .int 5])), (q43, .inr (0, [.int 0, .int 0, .int 0])), (q54, .inr (0, [.int 0, .int 0, .int 0]))] rfl ?_
  refine a_dup 58 hC dX4_init_57 rfl rfl ?_
  refine a_callIN 61 [(ha, .inr (3, [.int (1 : Int32), .ref q10, .ref q21, .ref q32, .ref q43, .null, .null])), (q10, .inr (4, [.ref t1, .ref t2, .ref t3, .int 0, .int 0, .int 0])), (t1, .inl (X.2.2.2.2.1, 6, .inl (fun _ => 0))), (t2, .inl (X.2.2.2.2.1, 6, .inl (fun _ => 0))), (t3, .inl (X.2.2.2.2.1, 6, .inl (fun _ => 0))), (q21, .inr (2, [.int 40, .int 0, .long 0, .int 0, .int 0, .int 0, .int 0, .int 0, .int 0, .int 0, .int 0, .int 0, .int 0])), (q32, .inr (5, [.int 0, .int 1, .int 0, .int 5])), (q43, .inr (0, [.int 0, .int 0, .int 0])), (q54, .inr (0, [.int 0, .int 0, .int 0]))] [] [8] [0, 1, 2, 3, 4, 5, 6, 7] hC (c_X0_init X.1.2.1 X.2.2.2.1 X.2.2.2.2 q54 0 0 0 () rfl) hC.2.2.2.2.2.1.2.2.2.2.2.2.2.2.2 wq167 wq28 wq168 rfl ds_X0_init ⟨by decide, by decide⟩ (Nat.le_of_ble_eq_true rfl) dX4_init_58 rfl ⟨Nat.le_of_ble_eq_true rfl, Nat.le_of_ble_eq_true rfl⟩ rfl rfl rfl rfl rfl (by decide) (fun r w hpo => ?_)
  obtain ⟨rfl, rfl⟩ := hpo
  refine a_ws [(ha, .inr (3, [.int (1 : Int32), .ref q10, .ref q21, .ref q32, .ref q43, .null, .null])), (q10, .inr (4, [.ref t1, .ref t2, .ref t3, .int 0, .int 0, .int 0])), (t1, .inl (X.2.2.2.2.1, 6, .inl (fun _ => 0))), (t2, .inl (X.2.2.2.2.1, 6, .inl (fun _ => 0))), (t3, .inl (X.2.2.2.2.1, 6, .inl (fun _ => 0))), (q21, .inr (2, [.int 40, .int 0, .long 0, .int 0, .int 0, .int 0, .int 0, .int 0, .int 0, .int 0, .int 0, .int 0, .int 0])), (q32, .inr (5, [.int 0, .int 1, .int 0, .int 5])), (q43, .inr (0, [.int 0, .int 0, .int 0])), (q54, .inr (0, [.int 0, .int 0, .int 0]))] rfl ?_
  refine a_st [.ref q54, .ref ha] rfl ?_
  refine a_putF 64 0 3 5 [(ha, .inr (3, [.int (1 : Int32), .ref q10, .ref q21, .ref q32, .ref q43, .ref q54, .null])), (q10, .inr (4, [.ref t1, .ref t2, .ref t3, .int 0, .int 0, .int 0])), (t1, .inl (X.2.2.2.2.1, 6, .inl (fun _ => 0))), (t2, .inl (X.2.2.2.2.1, 6, .inl (fun _ => 0))), (t3, .inl (X.2.2.2.2.1, 6, .inl (fun _ => 0))), (q21, .inr (2, [.int 40, .int 0, .long 0, .int 0, .int 0, .int 0, .int 0, .int 0, .int 0, .int 0, .int 0, .int 0, .int 0])), (q32, .inr (5, [.int 0, .int 1, .int 0, .int 5])), (q43, .inr (0, [.int 0, .int 0, .int 0])), (q54, .inr (0, [.int 0, .int 0, .int 0]))] tyX4 hC hin inB_X4 tyX4_ok nmX4 rfl rfl (by decide) wq193 rfl rfl rfl rfl rfl rfl (Nat.le_of_ble_eq_true rfl) dX4_init_61 rfl rfl ?_
  refine a_aload_n 65 0 hC dX4_init_64 rfl rfl rfl ?_
  refine a_new 68 0 [.int 0, .int 0, .int 0] tyX0 hC inB_X0 tyX0_ok wq164 wq165 wq28 rfl (fun j hj => by rcases (show j = 0 ∨ j = 1 ∨ j = 2 by omega) with rfl | rfl | rfl <;> rfl) (Nat.le_of_ble_eq_true rfl) (Nat.le_of_ble_eq_true rfl) dX4_init_65 rfl (fun q65 => ?_)
  refine a_ws [(ha, .inr (3, [.int (1 : Int32), .ref q10, .ref q21, .ref q32, .ref q43, .ref q54, .null])), (q10, .inr (4, [.ref t1, .ref t2, .ref t3, .int 0, .int 0, .int 0])), (t1, .inl (X.2.2.2.2.1, 6, .inl (fun _ => 0))), (t2, .inl (X.2.2.2.2.1, 6, .inl (fun _ => 0))), (t3, .inl (X.2.2.2.2.1, 6, .inl (fun _ => 0))), (q21, .inr (2, [.int 40, .int 0, .long 0, .int 0, .int 0, .int 0, .int 0, .int 0, .int 0, .int 0, .int 0, .int 0, .int 0])), (q32, .inr (5, [.int 0, .int 1, .int 0, .int 5])), (q43, .inr (0, [.int 0, .int 0, .int 0])), (q54, .inr (0, [.int 0, .int 0, .int 0])), (q65, .inr (0, [.int 0, .int 0, .int 0]))] rfl ?_
  refine a_dup 69 hC dX4_init_68 rfl rfl ?_
  refine a_callIN 72 [(ha, .inr (3, [.int (1 : Int32), .ref q10, .ref q21, .ref q32, .ref q43, .ref q54, .null])), (q10, .inr (4, [.ref t1, .ref t2, .ref t3, .int 0, .int 0, .int 0])), (t1, .inl (X.2.2.2.2.1, 6, .inl (fun _ => 0))), (t2, .inl (X.2.2.2.2.1, 6, .inl (fun _ => 0))), (t3, .inl (X.2.2.2.2.1, 6, .inl (fun _ => 0))), (q21, .inr (2, [.int 40, .int 0, .long 0, .int 0, .int 0, .int 0, .int 0, .int 0, .int 0, .int 0, .int 0, .int 0, .int 0])), (q32, .inr (5, [.int 0, .int 1, .int 0, .int 5])), (q43, .inr (0, [.int 0, .int 0, .int 0])), (q54, .inr (0, [.int 0, .int 0, .int 0])), (q65, .inr (0, [.int 0, .int 0, .int 0]))] [] [9] [0, 1, 2, 3, 4, 5, 6, 7, 8] hC (c_X0_init X.1.2.1 X.2.2.2.1 X.2.2.2.2 q65 0 0 0 () rfl) hC.2.2.2.2.2.1.2.2.2.2.2.2.2.2.2 wq167 wq28 wq168 rfl ds_X0_init ⟨by decide, by decide⟩ (Nat.le_of_ble_eq_true rfl) dX4_init_69 rfl ⟨Nat.le_of_ble_eq_true rfl, Nat.le_of_ble_eq_true rfl⟩ rfl rfl rfl rfl rfl (by decide) (fun r w hpo => ?_)
  obtain ⟨rfl, rfl⟩ := hpo
  refine a_ws [(ha, .inr (3, [.int (1 : Int32), .ref q10, .ref q21, .ref q32, .ref q43, .ref q54, .null])), (q10, .inr (4, [.ref t1, .ref t2, .ref t3, .int 0, .int 0, .int 0])), (t1, .inl (X.2.2.2.2.1, 6, .inl (fun _ => 0))), (t2, .inl (X.2.2.2.2.1, 6, .inl (fun _ => 0))), (t3, .inl (X.2.2.2.2.1, 6, .inl (fun _ => 0))), (q21, .inr (2, [.int 40, .int 0, .long 0, .int 0, .int 0, .int 0, .int 0, .int 0, .int 0, .int 0, .int 0, .int 0, .int 0])), (q32, .inr (5, [.int 0, .int 1, .int 0, .int 5])), (q43, .inr (0, [.int 0, .int 0, .int 0])), (q54, .inr (0, [.int 0, .int 0, .int 0])), (q65, .inr (0, [.int 0, .int 0, .int 0]))] rfl ?_
  refine a_st [.ref q65, .ref ha] rfl ?_
  refine a_putF 75 0 3 6 [(ha, .inr (3, [.int (1 : Int32), .ref q10, .ref q21, .ref q32, .ref q43, .ref q54, .ref q65])), (q10, .inr (4, [.ref t1, .ref t2, .ref t3, .int 0, .int 0, .int 0])), (t1, .inl (X.2.2.2.2.1, 6, .inl (fun _ => 0))), (t2, .inl (X.2.2.2.2.1, 6, .inl (fun _ => 0))), (t3, .inl (X.2.2.2.2.1, 6, .inl (fun _ => 0))), (q21, .inr (2, [.int 40, .int 0, .long 0, .int 0, .int 0, .int 0, .int 0, .int 0, .int 0, .int 0, .int 0, .int 0, .int 0])), (q32, .inr (5, [.int 0, .int 1, .int 0, .int 5])), (q43, .inr (0, [.int 0, .int 0, .int 0])), (q54, .inr (0, [.int 0, .int 0, .int 0])), (q65, .inr (0, [.int 0, .int 0, .int 0]))] tyX4 hC hin inB_X4 tyX4_ok nmX4 rfl rfl (by decide) wq194 rfl rfl rfl rfl rfl rfl (Nat.le_of_ble_eq_true rfl) dX4_init_72 rfl rfl ?_
  exact a_vret hC hR ⟨rfl, (fun i => match i with | 0 => ha | 1 => q10 | 2 => t1 | 3 => t2 | 4 => t3 | 5 => q21 | 6 => q32 | 7 => q43 | 8 => q54 | _ => q65), rfl, rfl⟩ (Nat.le_of_ble_eq_true rfl) (Nat.le_of_ble_eq_true rfl) dX4_init_75

/-! X1_init -/
abbrev rm_X1_init : Room := { frames := 1, cells := 1, slots := 8, locals := 40 }
theorem ds_X1_init : yX1_init.cls ≠ "java/lang/invoke/MethodHandle" ∧ yX1_init.cls ≠ "java/lang/invoke/VarHandle" ∧ (parseMethodDescriptor yX1_init.desc).map (fun d => d.parameters.length) = some 0 := by decide +kernel
set_option maxRecDepth 100000 in
set_option maxHeartbeats 4000000 in
theorem c_X1_init (l : Launch) (D : va_G) (z : ClassId × ClassId × ClassId) (ha : Nat) : Ct l D z yX1_init cX1_init 1 none rm_X1_init [.ref ha] [(ha, .inr (1, [.null, .int 0, .int 0]))] (fun r w => r = none ∧ ∃ hr, w = [(ha, .inr (1, [.ref hr, .int 0, .int 0])), (hr, .inl (z.2.2, 8, .inr (.inr (.inr (.inr (fun _ => none))))))]) := by
  refine Ct.of (by decide +kernel) (Nat.le_of_ble_eq_true rfl) (fun X hC hl hz hin hR => ?_)
  have hz1 : X.2.2.2.2 = z := by rw [hz]
  subst hz1
  refine a_lv [0] [(0, .ref ha)] rfl ?_
  refine a_aload_n 1 0 hC dX1_init_0 rfl rfl rfl ?_
  refine a_obj 4 hC wq215 wq42 wq43 dX1_init_1 (by decide) (Nat.le_of_ble_eq_true rfl) rfl ?_
  refine a_aload_n 5 0 hC dX1_init_4 rfl rfl rfl ?_
  refine a_bipush 7 (v := (8 : Int32)) hC dX1_init_5 rfl (by decide) ?_
  refine a_newq 10 8 hC wq216 (by decide) (by decide) (Nat.le_of_ble_eq_true rfl) (Nat.le_of_ble_eq_true rfl) (Nat.le_of_ble_eq_true rfl) dX1_init_7 rfl (fun q7 => ?_)
  refine a_ws [(ha, .inr (1, [.null, .int 0, .int 0])), (q7, .inl (X.2.2.2.2.2.2, 8, .inr (.inr (.inr (.inr (fun _ => none))))))] rfl ?_
  refine a_putF 13 0 1 0 [(ha, .inr (1, [.ref q7, .int 0, .int 0])), (q7, .inl (X.2.2.2.2.2.2, 8, .inr (.inr (.inr (.inr (fun _ => none))))))] tyX1 hC hin inB_X1 tyX1_ok nmX1 rfl rfl (by decide) wq218 rfl rfl rfl rfl rfl rfl (Nat.le_of_ble_eq_true rfl) dX1_init_10 rfl rfl ?_
  exact a_vret hC hR ⟨rfl, q7, rfl⟩ (Nat.le_of_ble_eq_true rfl) (Nat.le_of_ble_eq_true rfl) dX1_init_13

/-! X9_init -/
abbrev rm_X9_init : Room := { frames := 1, cells := 6, slots := 1059, locals := 40 }
theorem ds_X9_init : yX9_init.cls ≠ "java/lang/invoke/MethodHandle" ∧ yX9_init.cls ≠ "java/lang/invoke/VarHandle" ∧ (parseMethodDescriptor yX9_init.desc).map (fun d => d.parameters.length) = some 0 := by decide +kernel
set_option maxRecDepth 100000 in
set_option maxHeartbeats 4000000 in
theorem c_X9_init (l : Launch) (D : va_G) (z : ClassId × ClassId × ClassId) (ha : Nat) : Ct l D z yX9_init cX9_init 1 none rm_X9_init [.ref ha] [(ha, .inr (7, [.int 0, .null, .null, .int 0, .null, .null, .int 0, .null, .null]))] (fun r w => r = none ∧ ∃ a : Nat → Nat, a 0 = ha ∧ w = mdW z a 0 (upd (upd (upd (upd (fun _ => 0) 0 1) 21 40) 35 1) 37 5) (fun _ => 0) 0 (fun _ => 0) (fun _ => 0) 0 (fun _ => 0) (fun _ => 0)) := by
  refine Ct.of (by decide +kernel) (Nat.le_of_ble_eq_true rfl) (fun X hC hl hz hin hR => ?_)
  have hz1 : X.2.2.2.2 = z := by rw [hz]
  subst hz1
  refine a_lv [0] [(0, .ref ha)] rfl ?_
  refine a_aload_n 1 0 hC dX9_init_0 rfl rfl rfl ?_
  refine a_obj 4 hC wq599 wq42 wq43 dX9_init_1 (by decide) (Nat.le_of_ble_eq_true rfl) rfl ?_
  refine a_aload_n 5 0 hC dX9_init_4 rfl rfl rfl ?_
  refine a_bipush 7 (v := (95 : Int32)) hC dX9_init_5 rfl (by decide) ?_
  refine a_newi 9 95 hC wq78 (by decide) (by decide) (Nat.le_of_ble_eq_true rfl) (Nat.le_of_ble_eq_true rfl) (Nat.le_of_ble_eq_true rfl) dX9_init_7 rfl (fun q7 => ?_)
  refine a_ws [(ha, .inr (7, [.int 0, .null, .null, .int 0, .null, .null, .int 0, .null, .null])), (q7, .inl (X.2.2.2.2.1, 95, .inl (fun _ => 0)))] rfl ?_
  refine a_putF 12 0 7 1 [(ha, .inr (7, [.int 0, .ref q7, .null, .int 0, .null, .null, .int 0, .null, .null])), (q7, .inl (X.2.2.2.2.1, 95, .inl (fun _ => 0)))] tyX9 hC hin inB_X9 tyX9_ok nmX9 rfl rfl (by decide) wq601 rfl rfl rfl rfl rfl rfl (Nat.le_of_ble_eq_true rfl) dX9_init_9 rfl rfl ?_
  refine a_aload_n 13 0 hC dX9_init_12 rfl rfl rfl ?_
  refine a_sipush 16 (v := (760 : Int32)) hC dX9_init_13 rfl (by decide) ?_
  refine a_newi 18 760 hC wq78 (by decide) (by decide) (Nat.le_of_ble_eq_true rfl) (Nat.le_of_ble_eq_true rfl) (Nat.le_of_ble_eq_true rfl) dX9_init_16 rfl (fun q16 => ?_)
  refine a_ws [(ha, .inr (7, [.int 0, .ref q7, .null, .int 0, .null, .null, .int 0, .null, .null])), (q7, .inl (X.2.2.2.2.1, 95, .inl (fun _ => 0))), (q16, .inl (X.2.2.2.2.1, 760, .inl (fun _ => 0)))] rfl ?_
  refine a_putF 21 0 7 2 [(ha, .inr (7, [.int 0, .ref q7, .ref q16, .int 0, .null, .null, .int 0, .null, .null])), (q7, .inl (X.2.2.2.2.1, 95, .inl (fun _ => 0))), (q16, .inl (X.2.2.2.2.1, 760, .inl (fun _ => 0)))] tyX9 hC hin inB_X9 tyX9_ok nmX9 rfl rfl (by decide) wq602 rfl rfl rfl rfl rfl rfl (Nat.le_of_ble_eq_true rfl) dX9_init_18 rfl rfl ?_
  refine a_aload_n 22 0 hC dX9_init_21 rfl rfl rfl ?_
  refine a_sipush 25 (v := (190 : Int32)) hC dX9_init_22 rfl (by decide) ?_
  refine a_newi 27 190 hC wq78 (by decide) (by decide) (Nat.le_of_ble_eq_true rfl) (Nat.le_of_ble_eq_true rfl) (Nat.le_of_ble_eq_true rfl) dX9_init_25 rfl (fun q25 => ?_)
  refine a_ws [(ha, .inr (7, [.int 0, .ref q7, .ref q16, .int 0, .null, .null, .int 0, .null, .null])), (q7, .inl (X.2.2.2.2.1, 95, .inl (fun _ => 0))), (q16, .inl (X.2.2.2.2.1, 760, .inl (fun _ => 0))), (q25, .inl (X.2.2.2.2.1, 190, .inl (fun _ => 0)))] rfl ?_
  refine a_putF 30 0 7 4 [(ha, .inr (7, [.int 0, .ref q7, .ref q16, .int 0, .ref q25, .null, .int 0, .null, .null])), (q7, .inl (X.2.2.2.2.1, 95, .inl (fun _ => 0))), (q16, .inl (X.2.2.2.2.1, 760, .inl (fun _ => 0))), (q25, .inl (X.2.2.2.2.1, 190, .inl (fun _ => 0)))] tyX9 hC hin inB_X9 tyX9_ok nmX9 rfl rfl (by decide) wq604 rfl rfl rfl rfl rfl rfl (Nat.le_of_ble_eq_true rfl) dX9_init_27 rfl rfl ?_
  refine a_aload_n 31 0 hC dX9_init_30 rfl rfl rfl ?_
  refine a_iconst 32 (v := (2 : Int32)) hC dX9_init_31 rfl (by decide) ?_
  refine a_newz 34 2 hC wq628 (by decide) (by decide) (Nat.le_of_ble_eq_true rfl) (Nat.le_of_ble_eq_true rfl) (Nat.le_of_ble_eq_true rfl) dX9_init_32 rfl (fun q32 => ?_)
  refine a_ws [(ha, .inr (7, [.int 0, .ref q7, .ref q16, .int 0, .ref q25, .null, .int 0, .null, .null])), (q7, .inl (X.2.2.2.2.1, 95, .inl (fun _ => 0))), (q16, .inl (X.2.2.2.2.1, 760, .inl (fun _ => 0))), (q25, .inl (X.2.2.2.2.1, 190, .inl (fun _ => 0))), (q32, .inl (X.2.2.2.2.2.1, 2, .inl (fun _ => 0)))] rfl ?_
  refine a_putF 37 0 7 5 [(ha, .inr (7, [.int 0, .ref q7, .ref q16, .int 0, .ref q25, .ref q32, .int 0, .null, .null])), (q7, .inl (X.2.2.2.2.1, 95, .inl (fun _ => 0))), (q16, .inl (X.2.2.2.2.1, 760, .inl (fun _ => 0))), (q25, .inl (X.2.2.2.2.1, 190, .inl (fun _ => 0))), (q32, .inl (X.2.2.2.2.2.1, 2, .inl (fun _ => 0)))] tyX9 hC hin inB_X9 tyX9_ok nmX9 rfl rfl (by decide) wq605 rfl rfl rfl rfl rfl rfl (Nat.le_of_ble_eq_true rfl) dX9_init_34 rfl rfl ?_
  refine a_aload_n 38 0 hC dX9_init_37 rfl rfl rfl ?_
  refine a_bipush 40 (v := (6 : Int32)) hC dX9_init_38 rfl (by decide) ?_
  refine a_newi 42 6 hC wq78 (by decide) (by decide) (Nat.le_of_ble_eq_true rfl) (Nat.le_of_ble_eq_true rfl) (Nat.le_of_ble_eq_true rfl) dX9_init_40 rfl (fun q40 => ?_)
  refine a_ws [(ha, .inr (7, [.int 0, .ref q7, .ref q16, .int 0, .ref q25, .ref q32, .int 0, .null, .null])), (q7, .inl (X.2.2.2.2.1, 95, .inl (fun _ => 0))), (q16, .inl (X.2.2.2.2.1, 760, .inl (fun _ => 0))), (q25, .inl (X.2.2.2.2.1, 190, .inl (fun _ => 0))), (q32, .inl (X.2.2.2.2.2.1, 2, .inl (fun _ => 0))), (q40, .inl (X.2.2.2.2.1, 6, .inl (fun _ => 0)))] rfl ?_
  refine a_putF 45 0 7 7 [(ha, .inr (7, [.int 0, .ref q7, .ref q16, .int 0, .ref q25, .ref q32, .int 0, .ref q40, .null])), (q7, .inl (X.2.2.2.2.1, 95, .inl (fun _ => 0))), (q16, .inl (X.2.2.2.2.1, 760, .inl (fun _ => 0))), (q25, .inl (X.2.2.2.2.1, 190, .inl (fun _ => 0))), (q32, .inl (X.2.2.2.2.2.1, 2, .inl (fun _ => 0))), (q40, .inl (X.2.2.2.2.1, 6, .inl (fun _ => 0)))] tyX9 hC hin inB_X9 tyX9_ok nmX9 rfl rfl (by decide) wq607 rfl rfl rfl rfl rfl rfl (Nat.le_of_ble_eq_true rfl) dX9_init_42 rfl rfl ?_
  refine a_aload_n 46 0 hC dX9_init_45 rfl rfl rfl ?_
  refine a_bipush 48 (v := (6 : Int32)) hC dX9_init_46 rfl (by decide) ?_
  refine a_newi 50 6 hC wq78 (by decide) (by decide) (Nat.le_of_ble_eq_true rfl) (Nat.le_of_ble_eq_true rfl) (Nat.le_of_ble_eq_true rfl) dX9_init_48 rfl (fun q48 => ?_)
  refine a_ws [(ha, .inr (7, [.int 0, .ref q7, .ref q16, .int 0, .ref q25, .ref q32, .int 0, .ref q40, .null])), (q7, .inl (X.2.2.2.2.1, 95, .inl (fun _ => 0))), (q16, .inl (X.2.2.2.2.1, 760, .inl (fun _ => 0))), (q25, .inl (X.2.2.2.2.1, 190, .inl (fun _ => 0))), (q32, .inl (X.2.2.2.2.2.1, 2, .inl (fun _ => 0))), (q40, .inl (X.2.2.2.2.1, 6, .inl (fun _ => 0))), (q48, .inl (X.2.2.2.2.1, 6, .inl (fun _ => 0)))] rfl ?_
  refine a_putF 53 0 7 8 [(ha, .inr (7, [.int 0, .ref q7, .ref q16, .int 0, .ref q25, .ref q32, .int 0, .ref q40, .ref q48])), (q7, .inl (X.2.2.2.2.1, 95, .inl (fun _ => 0))), (q16, .inl (X.2.2.2.2.1, 760, .inl (fun _ => 0))), (q25, .inl (X.2.2.2.2.1, 190, .inl (fun _ => 0))), (q32, .inl (X.2.2.2.2.2.1, 2, .inl (fun _ => 0))), (q40, .inl (X.2.2.2.2.1, 6, .inl (fun _ => 0))), (q48, .inl (X.2.2.2.2.1, 6, .inl (fun _ => 0)))] tyX9 hC hin inB_X9 tyX9_ok nmX9 rfl rfl (by decide) wq608 rfl rfl rfl rfl rfl rfl (Nat.le_of_ble_eq_true rfl) dX9_init_50 rfl rfl ?_
  refine a_aload_n 54 0 hC dX9_init_53 rfl rfl rfl ?_
  refine a_get 57 0 7 1 hC inB_X9 rfl rfl (by decide) wq601 rfl rfl dX9_init_54 rfl ?_
  refine a_iconst 58 (v := (0 : Int32)) hC dX9_init_57 rfl (by decide) ?_
  refine a_iconst 59 (v := (1 : Int32)) hC dX9_init_58 rfl (by decide) ?_
  refine a_iastc 60 1 0 [(ha, .inr (7, [.int 0, .ref q7, .ref q16, .int 0, .ref q25, .ref q32, .int 0, .ref q40, .ref q48])), (q7, .inl (X.2.2.2.2.1, 95, .inl (upd (fun _ => 0) 0 (1 : Int32)))), (q16, .inl (X.2.2.2.2.1, 760, .inl (fun _ => 0))), (q25, .inl (X.2.2.2.2.1, 190, .inl (fun _ => 0))), (q32, .inl (X.2.2.2.2.2.1, 2, .inl (fun _ => 0))), (q40, .inl (X.2.2.2.2.1, 6, .inl (fun _ => 0))), (q48, .inl (X.2.2.2.2.1, 6, .inl (fun _ => 0)))] hC rfl rfl (vp_inc (by decide)) dX9_init_59 rfl rfl ?_
  refine a_aload_n 61 0 hC dX9_init_60 rfl rfl rfl ?_
  refine a_get 64 0 7 1 hC inB_X9 rfl rfl (by decide) wq601 rfl rfl dX9_init_61 rfl ?_
  refine a_bipush 66 (v := (21 : Int32)) hC dX9_init_64 rfl (by decide) ?_
  refine a_bipush 68 (v := (40 : Int32)) hC dX9_init_66 rfl (by decide) ?_
  refine a_iastc 69 1 21 [(ha, .inr (7, [.int 0, .ref q7, .ref q16, .int 0, .ref q25, .ref q32, .int 0, .ref q40, .ref q48])), (q7, .inl (X.2.2.2.2.1, 95, .inl (upd (upd (fun _ => 0) 0 (1 : Int32)) 21 (40 : Int32)))), (q16, .inl (X.2.2.2.2.1, 760, .inl (fun _ => 0))), (q25, .inl (X.2.2.2.2.1, 190, .inl (fun _ => 0))), (q32, .inl (X.2.2.2.2.2.1, 2, .inl (fun _ => 0))), (q40, .inl (X.2.2.2.2.1, 6, .inl (fun _ => 0))), (q48, .inl (X.2.2.2.2.1, 6, .inl (fun _ => 0)))] hC rfl rfl (vp_inc (by decide)) dX9_init_68 rfl rfl ?_
  refine a_aload_n 70 0 hC dX9_init_69 rfl rfl rfl ?_
  refine a_get 73 0 7 1 hC inB_X9 rfl rfl (by decide) wq601 rfl rfl dX9_init_70 rfl ?_
  refine a_bipush 75 (v := (35 : Int32)) hC dX9_init_73 rfl (by decide) ?_
  refine a_iconst 76 (v := (1 : Int32)) hC dX9_init_75 rfl (by decide) ?_
  refine a_iastc 77 1 35 [(ha, .inr (7, [.int 0, .ref q7, .ref q16, .int 0, .ref q25, .ref q32, .int 0, .ref q40, .ref q48])), (q7, .inl (X.2.2.2.2.1, 95, .inl (upd (upd (upd (fun _ => 0) 0 (1 : Int32)) 21 (40 : Int32)) 35 (1 : Int32)))), (q16, .inl (X.2.2.2.2.1, 760, .inl (fun _ => 0))), (q25, .inl (X.2.2.2.2.1, 190, .inl (fun _ => 0))), (q32, .inl (X.2.2.2.2.2.1, 2, .inl (fun _ => 0))), (q40, .inl (X.2.2.2.2.1, 6, .inl (fun _ => 0))), (q48, .inl (X.2.2.2.2.1, 6, .inl (fun _ => 0)))] hC rfl rfl (vp_inc (by decide)) dX9_init_76 rfl rfl ?_
  refine a_aload_n 78 0 hC dX9_init_77 rfl rfl rfl ?_
  refine a_get 81 0 7 1 hC inB_X9 rfl rfl (by decide) wq601 rfl rfl dX9_init_78 rfl ?_
  refine a_bipush 83 (v := (37 : Int32)) hC dX9_init_81 rfl (by decide) ?_
  refine a_iconst 84 (v := (5 : Int32)) hC dX9_init_83 rfl (by decide) ?_
  refine a_iastc 85 1 37 [(ha, .inr (7, [.int 0, .ref q7, .ref q16, .int 0, .ref q25, .ref q32, .int 0, .ref q40, .ref q48])), (q7, .inl (X.2.2.2.2.1, 95, .inl (upd (upd (upd (upd (fun _ => 0) 0 (1 : Int32)) 21 (40 : Int32)) 35 (1 : Int32)) 37 (5 : Int32)))), (q16, .inl (X.2.2.2.2.1, 760, .inl (fun _ => 0))), (q25, .inl (X.2.2.2.2.1, 190, .inl (fun _ => 0))), (q32, .inl (X.2.2.2.2.2.1, 2, .inl (fun _ => 0))), (q40, .inl (X.2.2.2.2.1, 6, .inl (fun _ => 0))), (q48, .inl (X.2.2.2.2.1, 6, .inl (fun _ => 0)))] hC rfl rfl (vp_inc (by decide)) dX9_init_84 rfl rfl ?_
  exact a_vret hC hR ⟨rfl, (fun i => match i with | 0 => ha | 1 => q7 | 2 => q16 | 3 => q25 | 4 => q32 | 5 => q40 | _ => q48), rfl, rfl⟩ (Nat.le_of_ble_eq_true rfl) (Nat.le_of_ble_eq_true rfl) dX9_init_85
