/-! J9_floorMod_7cf53 -/
abbrev rm_J9_floorMod_7cf53 : Room := { frames := 0, cells := 0, slots := 0, locals := 0 }
theorem ds_J9_floorMod_7cf53 : yJ9_floorMod_7cf53.cls ≠ "java/lang/invoke/MethodHandle" ∧ yJ9_floorMod_7cf53.cls ≠ "java/lang/invoke/VarHandle" ∧ (parseMethodDescriptor yJ9_floorMod_7cf53.desc).map (fun d => d.parameters.length) = some 2 := by decide +kernel
def f_J9_floorMod_7cf53 (x1 : Int32) (x2 : Int32) : Option ((Int32)) := (dv x2 (nm (q_rem x1 x2) fun v2 => (if (0 : Int32) ≤ (x1 ^^^ x2) then (some v2) else (if v2 = (0 : Int32) then (some v2) else (some (v2 + x2))))))
set_option maxRecDepth 100000 in
set_option maxHeartbeats 4000000 in
theorem t_J9_floorMod_7cf53 {X : qX} (hC : Ok X rm_J9_floorMod_7cf53 cJ9_floorMod_7cf53 3 RJ9 (some .int)) (x1 : Int32) (x2 : Int32) (res : (Int32)) (hR : Rt X 0 0 (fun r w => r = some (.int res) ∧ w = [])) (h : f_J9_floorMod_7cf53 x1 x2 = some res) : At X 0 0 0 [] [(0, .int x1), (1, .int x2)] [] := by
  unfold f_J9_floorMod_7cf53 at h
  refine a_iload_n 1 0 hC dJ9_floorMod_7cf53_0 rfl rfl rfl ?_
  refine a_iload_n 2 1 hC dJ9_floorMod_7cf53_1 rfl rfl rfl ?_
  obtain ⟨n1, h⟩ := dvx h
  refine a_rem 3 hC dJ9_floorMod_7cf53_2 rfl n1 ?_
  obtain ⟨v2, ev2, h⟩ := nmx h
  refine a_nm ev2 ?_
  refine a_istore_n 4 [(0, .int x1), (1, .int x2), (2, .int v2)] [1, 2, 0] hC dJ9_floorMod_7cf53_3 rfl rfl (by decide) rfl ?_
  refine a_iload_n 5 0 hC dJ9_floorMod_7cf53_4 rfl rfl rfl ?_
  refine a_iload_n 6 1 hC dJ9_floorMod_7cf53_5 rfl rfl rfl ?_
  refine a_ixor 7 hC dJ9_floorMod_7cf53_6 rfl ?_
  refine a_if_ge 18 10 hC dJ9_floorMod_7cf53_7 (by decide) rfl (fun c3 => ?_) (fun c3 => ?_)
  · have h := ifp c3 h
    refine a_iload_n 19 2 hC dJ9_floorMod_7cf53_18 rfl rfl rfl ?_
    obtain rfl := Option.some.inj h
    exact a_iret hC hR ⟨rfl, rfl⟩ (Nat.le_refl _) (Nat.le_refl _) dJ9_floorMod_7cf53_19
  · have h := ifn c3 h
    refine a_iload_n 11 2 hC dJ9_floorMod_7cf53_10 rfl rfl rfl ?_
    refine a_if_eq 18 14 hC dJ9_floorMod_7cf53_11 (by decide) rfl (fun c4 => ?_) (fun c4 => ?_)
    · have h := ifp c4 h
      refine a_iload_n 19 2 hC dJ9_floorMod_7cf53_18 rfl rfl rfl ?_
      obtain rfl := Option.some.inj h
      exact a_iret hC hR ⟨rfl, rfl⟩ (Nat.le_refl _) (Nat.le_refl _) dJ9_floorMod_7cf53_19
    · have h := ifn c4 h
      refine a_iload_n 15 2 hC dJ9_floorMod_7cf53_14 rfl rfl rfl ?_
      refine a_iload_n 16 1 hC dJ9_floorMod_7cf53_15 rfl rfl rfl ?_
      refine a_iadd 17 hC dJ9_floorMod_7cf53_16 rfl ?_
      obtain rfl := Option.some.inj h
      exact a_iret hC hR ⟨rfl, rfl⟩ (Nat.le_refl _) (Nat.le_refl _) dJ9_floorMod_7cf53_17
theorem c_J9_floorMod_7cf53 (l : Launch) (D : va_G) (z : ClassId × ClassId × ClassId) (x1 : Int32) (x2 : Int32) (res : (Int32)) (h : f_J9_floorMod_7cf53 x1 x2 = some res) : Ct l D z yJ9_floorMod_7cf53 cJ9_floorMod_7cf53 3 (some .int) rm_J9_floorMod_7cf53 [.int x1, .int x2] [] (fun r w => r = some (.int res) ∧ w = []) := by
  refine Ct.of (by decide +kernel) (Nat.le_of_ble_eq_true rfl) (fun X hC hl hz hn hR => ?_)
  have hz1 : X.2.2.2.2 = z := by rw [hz]
  subst hz1
  exact t_J9_floorMod_7cf53 hC x1 x2 res hR h

/-! J6_compare_7cf53 -/
abbrev rm_J6_compare_7cf53 : Room := { frames := 0, cells := 0, slots := 0, locals := 0 }
theorem ds_J6_compare_7cf53 : yJ6_compare_7cf53.cls ≠ "java/lang/invoke/MethodHandle" ∧ yJ6_compare_7cf53.cls ≠ "java/lang/invoke/VarHandle" ∧ (parseMethodDescriptor yJ6_compare_7cf53.desc).map (fun d => d.parameters.length) = some 2 := by decide +kernel
def f_J6_compare_7cf53 (x1 : Int32) (x2 : Int32) : Option ((Int32)) := (if x2 ≤ x1 then (if x1 = x2 then (some (0 : Int32)) else (some (1 : Int32))) else (some (-1 : Int32)))
set_option maxRecDepth 100000 in
set_option maxHeartbeats 4000000 in
theorem t_J6_compare_7cf53 {X : qX} (hC : Ok X rm_J6_compare_7cf53 cJ6_compare_7cf53 2 RJ6 (some .int)) (x1 : Int32) (x2 : Int32) (res : (Int32)) (hR : Rt X 0 0 (fun r w => r = some (.int res) ∧ w = [])) (h : f_J6_compare_7cf53 x1 x2 = some res) : At X 0 0 0 [] [(0, .int x1), (1, .int x2)] [] := by
  unfold f_J6_compare_7cf53 at h
  refine a_iload_n 1 0 hC dJ6_compare_7cf53_0 rfl rfl rfl ?_
  refine a_iload_n 2 1 hC dJ6_compare_7cf53_1 rfl rfl rfl ?_
  refine a_icmp_ge 9 5 hC dJ6_compare_7cf53_2 (by decide) rfl (fun c1 => ?_) (fun c1 => ?_)
  · have h := ifp c1 h
    refine a_iload_n 10 0 hC dJ6_compare_7cf53_9 rfl rfl rfl ?_
    refine a_iload_n 11 1 hC dJ6_compare_7cf53_10 rfl rfl rfl ?_
    refine a_icmp_ne 18 14 hC dJ6_compare_7cf53_11 (by decide) rfl (fun c2 => ?_) (fun c2 => ?_)
    · have h := ifn c2 h
      refine a_iconst 19 (v := (1 : Int32)) hC dJ6_compare_7cf53_18 rfl (by decide) ?_
      obtain rfl := Option.some.inj h
      exact a_iret hC hR ⟨rfl, rfl⟩ (Nat.le_refl _) (Nat.le_refl _) dJ6_compare_7cf53_19
    · have h := ifp c2 h
      refine a_iconst 15 (v := (0 : Int32)) hC dJ6_compare_7cf53_14 rfl (by decide) ?_
      refine a_goto 19 hC dJ6_compare_7cf53_15 (by decide) ?_
      obtain rfl := Option.some.inj h
      exact a_iret hC hR ⟨rfl, rfl⟩ (Nat.le_refl _) (Nat.le_refl _) dJ6_compare_7cf53_19
  · have h := ifn c1 h
    refine a_iconst 6 (v := (-1 : Int32)) hC dJ6_compare_7cf53_5 rfl (by decide) ?_
    refine a_goto 19 hC dJ6_compare_7cf53_6 (by decide) ?_
    obtain rfl := Option.some.inj h
    exact a_iret hC hR ⟨rfl, rfl⟩ (Nat.le_refl _) (Nat.le_refl _) dJ6_compare_7cf53_19
theorem c_J6_compare_7cf53 (l : Launch) (D : va_G) (z : ClassId × ClassId × ClassId) (x1 : Int32) (x2 : Int32) (res : (Int32)) (h : f_J6_compare_7cf53 x1 x2 = some res) : Ct l D z yJ6_compare_7cf53 cJ6_compare_7cf53 2 (some .int) rm_J6_compare_7cf53 [.int x1, .int x2] [] (fun r w => r = some (.int res) ∧ w = []) := by
  refine Ct.of (by decide +kernel) (Nat.le_of_ble_eq_true rfl) (fun X hC hl hz hn hR => ?_)
  have hz1 : X.2.2.2.2 = z := by rw [hz]
  subst hz1
  exact t_J6_compare_7cf53 hC x1 x2 res hR h

/-! J6_bitCount_0f7a4 -/
abbrev rm_J6_bitCount_0f7a4 : Room := { frames := 0, cells := 0, slots := 0, locals := 0 }
theorem ds_J6_bitCount_0f7a4 : yJ6_bitCount_0f7a4.cls ≠ "java/lang/invoke/MethodHandle" ∧ yJ6_bitCount_0f7a4.cls ≠ "java/lang/invoke/VarHandle" ∧ (parseMethodDescriptor yJ6_bitCount_0f7a4.desc).map (fun d => d.parameters.length) = some 1 := by decide +kernel
def f_J6_bitCount_0f7a4 (x1 : Int32) : Option ((Int32)) := (nm (x1 - ((q_ushr x1 (1 : Int32)) &&& (1431655765 : Int32))) fun v1 => (nm ((v1 &&& (858993459 : Int32)) + ((q_ushr v1 (2 : Int32)) &&& (858993459 : Int32))) fun v2 => (nm ((v2 + (q_ushr v2 (4 : Int32))) &&& (252645135 : Int32)) fun v3 => (nm (v3 + (q_ushr v3 (8 : Int32))) fun v4 => (nm (v4 + (q_ushr v4 (16 : Int32))) fun v5 => (some (v5 &&& (63 : Int32))))))))
set_option maxRecDepth 100000 in
set_option maxHeartbeats 4000000 in
theorem t_J6_bitCount_0f7a4 {X : qX} (hC : Ok X rm_J6_bitCount_0f7a4 cJ6_bitCount_0f7a4 1 RJ6 (some .int)) (x1 : Int32) (res : (Int32)) (hR : Rt X 0 0 (fun r w => r = some (.int res) ∧ w = [])) (h : f_J6_bitCount_0f7a4 x1 = some res) : At X 0 0 0 [] [(0, .int x1)] [] := by
  unfold f_J6_bitCount_0f7a4 at h
  refine a_iload_n 1 0 hC dJ6_bitCount_0f7a4_0 rfl rfl rfl ?_
  refine a_iload_n 2 0 hC dJ6_bitCount_0f7a4_1 rfl rfl rfl ?_
  refine a_iconst 3 (v := (1 : Int32)) hC dJ6_bitCount_0f7a4_2 rfl (by decide) ?_
  refine a_iushr 4 hC dJ6_bitCount_0f7a4_3 rfl ?_
  refine a_ldcw 7 (v := (1431655765 : Int32)) hC wq387 dJ6_bitCount_0f7a4_4 rfl ?_
  refine a_iand 8 hC dJ6_bitCount_0f7a4_7 rfl ?_
  refine a_isub 9 hC dJ6_bitCount_0f7a4_8 rfl ?_
  obtain ⟨v1, ev1, h⟩ := nmx h
  refine a_nm ev1 ?_
  refine a_istore_n 10 [(0, .int v1)] [0] hC dJ6_bitCount_0f7a4_9 rfl rfl (by decide) rfl ?_
  refine a_iload_n 11 0 hC dJ6_bitCount_0f7a4_10 rfl rfl rfl ?_
  refine a_ldcw 14 (v := (858993459 : Int32)) hC wq388 dJ6_bitCount_0f7a4_11 rfl ?_
  refine a_iand 15 hC dJ6_bitCount_0f7a4_14 rfl ?_
  refine a_iload_n 16 0 hC dJ6_bitCount_0f7a4_15 rfl rfl rfl ?_
  refine a_iconst 17 (v := (2 : Int32)) hC dJ6_bitCount_0f7a4_16 rfl (by decide) ?_
  refine a_iushr 18 hC dJ6_bitCount_0f7a4_17 rfl ?_
  refine a_ldcw 21 (v := (858993459 : Int32)) hC wq388 dJ6_bitCount_0f7a4_18 rfl ?_
  refine a_iand 22 hC dJ6_bitCount_0f7a4_21 rfl ?_
  refine a_iadd 23 hC dJ6_bitCount_0f7a4_22 rfl ?_
  obtain ⟨v2, ev2, h⟩ := nmx h
  refine a_nm ev2 ?_
  refine a_istore_n 24 [(0, .int v2)] [0] hC dJ6_bitCount_0f7a4_23 rfl rfl (by decide) rfl ?_
  refine a_iload_n 25 0 hC dJ6_bitCount_0f7a4_24 rfl rfl rfl ?_
  refine a_iload_n 26 0 hC dJ6_bitCount_0f7a4_25 rfl rfl rfl ?_
  refine a_iconst 27 (v := (4 : Int32)) hC dJ6_bitCount_0f7a4_26 rfl (by decide) ?_
  refine a_iushr 28 hC dJ6_bitCount_0f7a4_27 rfl ?_
  refine a_iadd 29 hC dJ6_bitCount_0f7a4_28 rfl ?_
  refine a_ldcw 32 (v := (252645135 : Int32)) hC wq389 dJ6_bitCount_0f7a4_29 rfl ?_
  refine a_iand 33 hC dJ6_bitCount_0f7a4_32 rfl ?_
  obtain ⟨v3, ev3, h⟩ := nmx h
  refine a_nm ev3 ?_
  refine a_istore_n 34 [(0, .int v3)] [0] hC dJ6_bitCount_0f7a4_33 rfl rfl (by decide) rfl ?_
  refine a_iload_n 35 0 hC dJ6_bitCount_0f7a4_34 rfl rfl rfl ?_
  refine a_iload_n 36 0 hC dJ6_bitCount_0f7a4_35 rfl rfl rfl ?_
  refine a_bipush 38 (v := (8 : Int32)) hC dJ6_bitCount_0f7a4_36 rfl (by decide) ?_
  refine a_iushr 39 hC dJ6_bitCount_0f7a4_38 rfl ?_
  refine a_iadd 40 hC dJ6_bitCount_0f7a4_39 rfl ?_
  obtain ⟨v4, ev4, h⟩ := nmx h
  refine a_nm ev4 ?_
  refine a_istore_n 41 [(0, .int v4)] [0] hC dJ6_bitCount_0f7a4_40 rfl rfl (by decide) rfl ?_
  refine a_iload_n 42 0 hC dJ6_bitCount_0f7a4_41 rfl rfl rfl ?_
  refine a_iload_n 43 0 hC dJ6_bitCount_0f7a4_42 rfl rfl rfl ?_
  refine a_bipush 45 (v := (16 : Int32)) hC dJ6_bitCount_0f7a4_43 rfl (by decide) ?_
  refine a_iushr 46 hC dJ6_bitCount_0f7a4_45 rfl ?_
  refine a_iadd 47 hC dJ6_bitCount_0f7a4_46 rfl ?_
  obtain ⟨v5, ev5, h⟩ := nmx h
  refine a_nm ev5 ?_
  refine a_istore_n 48 [(0, .int v5)] [0] hC dJ6_bitCount_0f7a4_47 rfl rfl (by decide) rfl ?_
  refine a_iload_n 49 0 hC dJ6_bitCount_0f7a4_48 rfl rfl rfl ?_
  refine a_bipush 51 (v := (63 : Int32)) hC dJ6_bitCount_0f7a4_49 rfl (by decide) ?_
  refine a_iand 52 hC dJ6_bitCount_0f7a4_51 rfl ?_
  obtain rfl := Option.some.inj h
  exact a_iret hC hR ⟨rfl, rfl⟩ (Nat.le_refl _) (Nat.le_refl _) dJ6_bitCount_0f7a4_52
theorem c_J6_bitCount_0f7a4 (l : Launch) (D : va_G) (z : ClassId × ClassId × ClassId) (x1 : Int32) (res : (Int32)) (h : f_J6_bitCount_0f7a4 x1 = some res) : Ct l D z yJ6_bitCount_0f7a4 cJ6_bitCount_0f7a4 1 (some .int) rm_J6_bitCount_0f7a4 [.int x1] [] (fun r w => r = some (.int res) ∧ w = []) := by
  refine Ct.of (by decide +kernel) (Nat.le_of_ble_eq_true rfl) (fun X hC hl hz hn hR => ?_)
  have hz1 : X.2.2.2.2 = z := by rw [hz]
  subst hz1
  exact t_J6_bitCount_0f7a4 hC x1 res hR h

/-! X9_in -/
abbrev rm_X9_in : Room := { frames := 0, cells := 0, slots := 0, locals := 0 }
theorem ds_X9_in : yX9_in.cls ≠ "java/lang/invoke/MethodHandle" ∧ yX9_in.cls ≠ "java/lang/invoke/VarHandle" ∧ (parseMethodDescriptor yX9_in.desc).map (fun d => d.parameters.length) = some 3 := by decide +kernel
def f_X9_in (x1 : Int32) (x2 : Int32) (x3 : Int32) : Option ((Int32)) := (if x1 < x2 then (some (0 : Int32)) else (if x3 < x1 then (some (0 : Int32)) else (some (1 : Int32))))
set_option maxRecDepth 100000 in
set_option maxHeartbeats 4000000 in
theorem t_X9_in {X : qX} (hC : Ok X rm_X9_in cX9_in 3 RX9 (some .boolean)) (x1 : Int32) (x2 : Int32) (x3 : Int32) (res : (Int32)) (hR : Rt X 0 0 (fun r w => r = some (.int res) ∧ w = [])) (h : f_X9_in x1 x2 x3 = some res) : At X 0 0 0 [] [(0, .int x1), (1, .int x2), (2, .int x3)] [] := by
  unfold f_X9_in at h
  refine a_iload_n 1 0 hC dX9_in_0 rfl rfl rfl ?_
  refine a_iload_n 2 1 hC dX9_in_1 rfl rfl rfl ?_
  refine a_icmp_lt 14 5 hC dX9_in_2 (by decide) rfl (fun c1 => ?_) (fun c1 => ?_)
  · have h := ifp c1 h
    refine a_iconst 15 (v := (0 : Int32)) hC dX9_in_14 rfl (by decide) ?_
    obtain rfl := Option.some.inj h
    exact a_zret hC hR ⟨rfl, rfl⟩ rfl (Nat.le_refl _) (Nat.le_refl _) dX9_in_15
  · have h := ifn c1 h
    refine a_iload_n 6 0 hC dX9_in_5 rfl rfl rfl ?_
    refine a_iload_n 7 2 hC dX9_in_6 rfl rfl rfl ?_
    refine a_icmp_gt 14 10 hC dX9_in_7 (by decide) rfl (fun c2 => ?_) (fun c2 => ?_)
    · have h := ifp c2 h
      refine a_iconst 15 (v := (0 : Int32)) hC dX9_in_14 rfl (by decide) ?_
      obtain rfl := Option.some.inj h
      exact a_zret hC hR ⟨rfl, rfl⟩ rfl (Nat.le_refl _) (Nat.le_refl _) dX9_in_15
    · have h := ifn c2 h
      refine a_iconst 11 (v := (1 : Int32)) hC dX9_in_10 rfl (by decide) ?_
      refine a_goto 15 hC dX9_in_11 (by decide) ?_
      obtain rfl := Option.some.inj h
      exact a_zret hC hR ⟨rfl, rfl⟩ rfl (Nat.le_refl _) (Nat.le_refl _) dX9_in_15
theorem c_X9_in (l : Launch) (D : va_G) (z : ClassId × ClassId × ClassId) (x1 : Int32) (x2 : Int32) (x3 : Int32) (res : (Int32)) (h : f_X9_in x1 x2 x3 = some res) : Ct l D z yX9_in cX9_in 3 (some .boolean) rm_X9_in [.int x1, .int x2, .int x3] [] (fun r w => r = some (.int res) ∧ w = []) := by
  refine Ct.of (by decide +kernel) (Nat.le_of_ble_eq_true rfl) (fun X hC hl hz hn hR => ?_)
  have hz1 : X.2.2.2.2 = z := by rw [hz]
  subst hz1
  exact t_X9_in hC x1 x2 x3 res hR h

/-! X9_size -/
abbrev rm_X9_size : Room := { frames := 0, cells := 0, slots := 0, locals := 0 }
theorem ds_X9_size : yX9_size.cls ≠ "java/lang/invoke/MethodHandle" ∧ yX9_size.cls ≠ "java/lang/invoke/VarHandle" ∧ (parseMethodDescriptor yX9_size.desc).map (fun d => d.parameters.length) = some 1 := by decide +kernel
def f_X9_size (x1 : Int32) : Option ((Int32)) := (if (0 : Int32) ≤ x1 then (some x1) else (some (-x1)))
set_option maxRecDepth 100000 in
set_option maxHeartbeats 4000000 in
theorem t_X9_size {X : qX} (hC : Ok X rm_X9_size cX9_size 1 RX9 (some .int)) (x1 : Int32) (res : (Int32)) (hR : Rt X 0 0 (fun r w => r = some (.int res) ∧ w = [])) (h : f_X9_size x1 = some res) : At X 0 0 0 [] [(0, .int x1)] [] := by
  unfold f_X9_size at h
  refine a_iload_n 1 0 hC dX9_size_0 rfl rfl rfl ?_
  refine a_if_ge 9 4 hC dX9_size_1 (by decide) rfl (fun c1 => ?_) (fun c1 => ?_)
  · have h := ifp c1 h
    refine a_iload_n 10 0 hC dX9_size_9 rfl rfl rfl ?_
    obtain rfl := Option.some.inj h
    exact a_iret hC hR ⟨rfl, rfl⟩ (Nat.le_refl _) (Nat.le_refl _) dX9_size_10
  · have h := ifn c1 h
    refine a_iload_n 5 0 hC dX9_size_4 rfl rfl rfl ?_
    refine a_ineg 6 hC dX9_size_5 rfl ?_
    refine a_goto 10 hC dX9_size_6 (by decide) ?_
    obtain rfl := Option.some.inj h
    exact a_iret hC hR ⟨rfl, rfl⟩ (Nat.le_refl _) (Nat.le_refl _) dX9_size_10
theorem c_X9_size (l : Launch) (D : va_G) (z : ClassId × ClassId × ClassId) (x1 : Int32) (res : (Int32)) (h : f_X9_size x1 = some res) : Ct l D z yX9_size cX9_size 1 (some .int) rm_X9_size [.int x1] [] (fun r w => r = some (.int res) ∧ w = []) := by
  refine Ct.of (by decide +kernel) (Nat.le_of_ble_eq_true rfl) (fun X hC hl hz hn hR => ?_)
  have hz1 : X.2.2.2.2 = z := by rw [hz]
  subst hz1
  exact t_X9_size hC x1 res hR h

/-! X9_second -/
abbrev rm_X9_second : Room := { frames := 0, cells := 0, slots := 0, locals := 0 }
theorem ds_X9_second : yX9_second.cls ≠ "java/lang/invoke/MethodHandle" ∧ yX9_second.cls ≠ "java/lang/invoke/VarHandle" ∧ (parseMethodDescriptor yX9_second.desc).map (fun d => d.parameters.length) = some 1 := by decide +kernel
def f_X9_second (x1 : Int32) : Option ((Int32)) := (if x1 = (0 : Int32) then (some (24 : Int32)) else (if x1 = (1 : Int32) then (some (25 : Int32)) else (some (30 : Int32))))
set_option maxRecDepth 100000 in
set_option maxHeartbeats 4000000 in
theorem t_X9_second {X : qX} (hC : Ok X rm_X9_second cX9_second 1 RX9 (some .int)) (x1 : Int32) (res : (Int32)) (hR : Rt X 0 0 (fun r w => r = some (.int res) ∧ w = [])) (h : f_X9_second x1 = some res) : At X 0 0 0 [] [(0, .int x1)] [] := by
  unfold f_X9_second at h
  refine a_iload_n 1 0 hC dX9_second_0 rfl rfl rfl ?_
  refine a_if_ne 9 4 hC dX9_second_1 (by decide) rfl (fun c1 => ?_) (fun c1 => ?_)
  · have h := ifn c1 h
    refine a_iload_n 10 0 hC dX9_second_9 rfl rfl rfl ?_
    refine a_iconst 11 (v := (1 : Int32)) hC dX9_second_10 rfl (by decide) ?_
    refine a_icmp_ne 19 14 hC dX9_second_11 (by decide) rfl (fun c2 => ?_) (fun c2 => ?_)
    · have h := ifn c2 h
      refine a_bipush 21 (v := (30 : Int32)) hC dX9_second_19 rfl (by decide) ?_
      obtain rfl := Option.some.inj h
      exact a_iret hC hR ⟨rfl, rfl⟩ (Nat.le_refl _) (Nat.le_refl _) dX9_second_21
    · have h := ifp c2 h
      refine a_bipush 16 (v := (25 : Int32)) hC dX9_second_14 rfl (by decide) ?_
      refine a_goto 21 hC dX9_second_16 (by decide) ?_
      obtain rfl := Option.some.inj h
      exact a_iret hC hR ⟨rfl, rfl⟩ (Nat.le_refl _) (Nat.le_refl _) dX9_second_21
  · have h := ifp c1 h
    refine a_bipush 6 (v := (24 : Int32)) hC dX9_second_4 rfl (by decide) ?_
    refine a_goto 21 hC dX9_second_6 (by decide) ?_
    obtain rfl := Option.some.inj h
    exact a_iret hC hR ⟨rfl, rfl⟩ (Nat.le_refl _) (Nat.le_refl _) dX9_second_21
theorem c_X9_second (l : Launch) (D : va_G) (z : ClassId × ClassId × ClassId) (x1 : Int32) (res : (Int32)) (h : f_X9_second x1 = some res) : Ct l D z yX9_second cX9_second 1 (some .int) rm_X9_second [.int x1] [] (fun r w => r = some (.int res) ∧ w = []) := by
  refine Ct.of (by decide +kernel) (Nat.le_of_ble_eq_true rfl) (fun X hC hl hz hn hR => ?_)
  have hz1 : X.2.2.2.2 = z := by rw [hz]
  subst hz1
  exact t_X9_second hC x1 res hR h

/-! X9_dayOf -/
abbrev rm_X9_dayOf : Room := { frames := 1, cells := 0, slots := 0, locals := 20 }
theorem ds_X9_dayOf : yX9_dayOf.cls ≠ "java/lang/invoke/MethodHandle" ∧ yX9_dayOf.cls ≠ "java/lang/invoke/VarHandle" ∧ (parseMethodDescriptor yX9_dayOf.desc).map (fun d => d.parameters.length) = some 1 := by decide +kernel
def f_X9_dayOf (x1 : Int32) : Option ((Int32)) := (if x1 = (3 : Int32) then (some (2589408 : Int32)) else ((f_X9_second x1).bind fun r2 => (some ((86400 : Int32) * r2))))
set_option maxRecDepth 100000 in
set_option maxHeartbeats 4000000 in
theorem t_X9_dayOf {X : qX} (hC : Ok X rm_X9_dayOf cX9_dayOf 1 RX9 (some .int)) (x1 : Int32) (res : (Int32)) (hR : Rt X 0 0 (fun r w => r = some (.int res) ∧ w = [])) (h : f_X9_dayOf x1 = some res) : At X 0 0 0 [] [(0, .int x1)] [] := by
  unfold f_X9_dayOf at h
  refine a_iload_n 1 0 hC dX9_dayOf_0 rfl rfl rfl ?_
  refine a_iconst 2 (v := (3 : Int32)) hC dX9_dayOf_1 rfl (by decide) ?_
  refine a_icmp_ne 10 5 hC dX9_dayOf_2 (by decide) rfl (fun c1 => ?_) (fun c1 => ?_)
  · have h := ifn c1 h
    refine a_ldc 12 (v := (86400 : Int32)) hC wq645 dX9_dayOf_10 rfl ?_
    refine a_iload_n 13 0 hC dX9_dayOf_12 rfl rfl rfl ?_
    obtain ⟨r2, gr2, h⟩ := bd h
    refine a_call0 16 [.int x1] [.int (86400 : Int32)] (.int r2) hC (c_X9_second X.1.2.1 X.2.2.2.1 X.2.2.2.2 x1 r2 gr2) ⟨wq646, wq30, wq648, ds_X9_second, by decide, by decide⟩ wq647 rfl rfl (Nat.le_of_ble_eq_true rfl) dX9_dayOf_13 rfl rfl rfl ⟨(Nat.le_refl _), (Nat.le_refl _)⟩ ?_
    refine a_imul 17 hC dX9_dayOf_16 rfl ?_
    obtain rfl := Option.some.inj h
    exact a_iret hC hR ⟨rfl, rfl⟩ (Nat.le_refl _) (Nat.le_refl _) dX9_dayOf_17
  · have h := ifp c1 h
    refine a_ldc 7 (v := (2589408 : Int32)) hC wq644 dX9_dayOf_5 rfl ?_
    refine a_goto 17 hC dX9_dayOf_7 (by decide) ?_
    obtain rfl := Option.some.inj h
    exact a_iret hC hR ⟨rfl, rfl⟩ (Nat.le_refl _) (Nat.le_refl _) dX9_dayOf_17
theorem c_X9_dayOf (l : Launch) (D : va_G) (z : ClassId × ClassId × ClassId) (x1 : Int32) (res : (Int32)) (h : f_X9_dayOf x1 = some res) : Ct l D z yX9_dayOf cX9_dayOf 1 (some .int) rm_X9_dayOf [.int x1] [] (fun r w => r = some (.int res) ∧ w = []) := by
  refine Ct.of (by decide +kernel) (Nat.le_of_ble_eq_true rfl) (fun X hC hl hz hn hR => ?_)
  have hz1 : X.2.2.2.2 = z := by rw [hz]
  subst hz1
  exact t_X9_dayOf hC x1 res hR h

/-! X9_rank -/
abbrev rm_X9_rank : Room := { frames := 0, cells := 0, slots := 0, locals := 0 }
theorem ds_X9_rank : yX9_rank.cls ≠ "java/lang/invoke/MethodHandle" ∧ yX9_rank.cls ≠ "java/lang/invoke/VarHandle" ∧ (parseMethodDescriptor yX9_rank.desc).map (fun d => d.parameters.length) = some 2 := by decide +kernel
def f_X9_rank (x1 : Int32) (x2 : Int32) : Option ((Int32)) := (if (3 : Int32) ≤ x1 then (nm (x2 / (17982 : Int32)) fun v2 => (nm (q_rem x2 (17982 : Int32)) fun v3 => (if (1800 : Int32) ≤ v3 then (some ((x2 + ((18 : Int32) * v2)) + ((2 : Int32) * ((1 : Int32) + ((v3 - (1800 : Int32)) / (1798 : Int32)))))) else (some ((x2 + ((18 : Int32) * v2)) + (0 : Int32)))))) else (some x2))
set_option maxRecDepth 100000 in
set_option maxHeartbeats 4000000 in
theorem t_X9_rank {X : qX} (hC : Ok X rm_X9_rank cX9_rank 4 RX9 (some .int)) (x1 : Int32) (x2 : Int32) (res : (Int32)) (hR : Rt X 0 0 (fun r w => r = some (.int res) ∧ w = [])) (h : f_X9_rank x1 x2 = some res) : At X 0 0 0 [] [(0, .int x1), (1, .int x2)] [] := by
  unfold f_X9_rank at h
  refine a_iload_n 1 0 hC dX9_rank_0 rfl rfl rfl ?_
  refine a_iconst 2 (v := (3 : Int32)) hC dX9_rank_1 rfl (by decide) ?_
  refine a_icmp_ge 7 5 hC dX9_rank_2 (by decide) rfl (fun c1 => ?_) (fun c1 => ?_)
  · have h := ifp c1 h
    refine a_iload_n 8 1 hC dX9_rank_7 rfl rfl rfl ?_
    refine a_sipush 11 (v := (17982 : Int32)) hC dX9_rank_8 rfl (by decide) ?_
    refine a_idiv 12 hC dX9_rank_11 rfl (by decide) ?_
    obtain ⟨v2, ev2, h⟩ := nmx h
    refine a_nm ev2 ?_
    refine a_istore_n 13 [(0, .int x1), (1, .int x2), (2, .int v2)] [1, 2, 0] hC dX9_rank_12 rfl rfl (by decide) rfl ?_
    refine a_iload_n 14 1 hC dX9_rank_13 rfl rfl rfl ?_
    refine a_sipush 17 (v := (17982 : Int32)) hC dX9_rank_14 rfl (by decide) ?_
    refine a_rem 18 hC dX9_rank_17 rfl (by decide) ?_
    obtain ⟨v3, ev3, h⟩ := nmx h
    refine a_nm ev3 ?_
    refine a_istore_n 19 [(0, .int x1), (1, .int x2), (2, .int v2), (3, .int v3)] [1, 2, 3, 0] hC dX9_rank_18 rfl rfl (by decide) rfl ?_
    refine a_iload_n 20 1 hC dX9_rank_19 rfl rfl rfl ?_
    refine a_bipush 22 (v := (18 : Int32)) hC dX9_rank_20 rfl (by decide) ?_
    refine a_iload_n 23 2 hC dX9_rank_22 rfl rfl rfl ?_
    refine a_imul 24 hC dX9_rank_23 rfl ?_
    refine a_iadd 25 hC dX9_rank_24 rfl ?_
    refine a_iload_n 26 3 hC dX9_rank_25 rfl rfl rfl ?_
    refine a_sipush 29 (v := (1800 : Int32)) hC dX9_rank_26 rfl (by decide) ?_
    refine a_icmp_ge 36 32 hC dX9_rank_29 (by decide) rfl (fun c4 => ?_) (fun c4 => ?_)
    · have h := ifp c4 h
      refine a_iconst 37 (v := (2 : Int32)) hC dX9_rank_36 rfl (by decide) ?_
      refine a_iconst 38 (v := (1 : Int32)) hC dX9_rank_37 rfl (by decide) ?_
      refine a_iload_n 39 3 hC dX9_rank_38 rfl rfl rfl ?_
      refine a_sipush 42 (v := (1800 : Int32)) hC dX9_rank_39 rfl (by decide) ?_
      refine a_isub 43 hC dX9_rank_42 rfl ?_
      refine a_sipush 46 (v := (1798 : Int32)) hC dX9_rank_43 rfl (by decide) ?_
      refine a_idiv 47 hC dX9_rank_46 rfl (by decide) ?_
      refine a_iadd 48 hC dX9_rank_47 rfl ?_
      refine a_imul 49 hC dX9_rank_48 rfl ?_
      refine a_iadd 50 hC dX9_rank_49 rfl ?_
      obtain rfl := Option.some.inj h
      exact a_iret hC hR ⟨rfl, rfl⟩ (Nat.le_refl _) (Nat.le_refl _) dX9_rank_50
    · have h := ifn c4 h
      refine a_iconst 33 (v := (0 : Int32)) hC dX9_rank_32 rfl (by decide) ?_
      refine a_goto 49 hC dX9_rank_33 (by decide) ?_
      refine a_iadd 50 hC dX9_rank_49 rfl ?_
      obtain rfl := Option.some.inj h
      exact a_iret hC hR ⟨rfl, rfl⟩ (Nat.le_refl _) (Nat.le_refl _) dX9_rank_50
  · have h := ifn c1 h
    refine a_iload_n 6 1 hC dX9_rank_5 rfl rfl rfl ?_
    obtain rfl := Option.some.inj h
    exact a_iret hC hR ⟨rfl, rfl⟩ (Nat.le_refl _) (Nat.le_refl _) dX9_rank_6
theorem c_X9_rank (l : Launch) (D : va_G) (z : ClassId × ClassId × ClassId) (x1 : Int32) (x2 : Int32) (res : (Int32)) (h : f_X9_rank x1 x2 = some res) : Ct l D z yX9_rank cX9_rank 4 (some .int) rm_X9_rank [.int x1, .int x2] [] (fun r w => r = some (.int res) ∧ w = []) := by
  refine Ct.of (by decide +kernel) (Nat.le_of_ble_eq_true rfl) (fun X hC hl hz hn hR => ?_)
  have hz1 : X.2.2.2.2 = z := by rw [hz]
  subst hz1
  exact t_X9_rank hC x1 x2 res hR h

/-! X9_numberOf -/
abbrev rm_X9_numberOf : Room := { frames := 1, cells := 0, slots := 0, locals := 23 }
theorem ds_X9_numberOf : yX9_numberOf.cls ≠ "java/lang/invoke/MethodHandle" ∧ yX9_numberOf.cls ≠ "java/lang/invoke/VarHandle" ∧ (parseMethodDescriptor yX9_numberOf.desc).map (fun d => d.parameters.length) = some 2 := by decide +kernel
def f_X9_numberOf (x1 : Int32) (x2 : Int32) : Option ((Int32)) := ((f_X9_rank x1 x2).bind fun r1 => ((f_X9_second x1).bind fun r2 => (dv r2 (nm (r1 / r2) fun v4 => (dv r2 (some (((((v4 / (3600 : Int32)) * (1000000 : Int32)) + ((q_rem (v4 / (60 : Int32)) (60 : Int32)) * (10000 : Int32))) + ((q_rem v4 (60 : Int32)) * (100 : Int32))) + (q_rem r1 r2))))))))
set_option maxRecDepth 100000 in
set_option maxHeartbeats 4000000 in
theorem t_X9_numberOf {X : qX} (hC : Ok X rm_X9_numberOf cX9_numberOf 5 RX9 (some .int)) (x1 : Int32) (x2 : Int32) (res : (Int32)) (hR : Rt X 0 0 (fun r w => r = some (.int res) ∧ w = [])) (h : f_X9_numberOf x1 x2 = some res) : At X 0 0 0 [] [(0, .int x1), (1, .int x2)] [] := by
  unfold f_X9_numberOf at h
  refine a_iload_n 1 0 hC dX9_numberOf_0 rfl rfl rfl ?_
  refine a_iload_n 2 1 hC dX9_numberOf_1 rfl rfl rfl ?_
  obtain ⟨r1, gr1, h⟩ := bd h
  refine a_call0 5 [.int x1, .int x2] [] (.int r1) hC (c_X9_rank X.1.2.1 X.2.2.2.1 X.2.2.2.2 x1 x2 r1 gr1) ⟨wq655, wq30, wq657, ds_X9_rank, by decide, by decide⟩ wq656 rfl rfl (Nat.le_of_ble_eq_true rfl) dX9_numberOf_2 rfl rfl rfl ⟨(Nat.le_refl _), (Nat.le_refl _)⟩ ?_
  refine a_istore_n 6 [(0, .int x1), (1, .int x2), (2, .int r1)] [1, 2, 0] hC dX9_numberOf_5 rfl rfl (by decide) rfl ?_
  refine a_iload_n 7 0 hC dX9_numberOf_6 rfl rfl rfl ?_
  obtain ⟨r2, gr2, h⟩ := bd h
  refine a_call0 10 [.int x1] [] (.int r2) hC (c_X9_second X.1.2.1 X.2.2.2.1 X.2.2.2.2 x1 r2 gr2) ⟨wq646, wq30, wq648, ds_X9_second, by decide, by decide⟩ wq647 rfl rfl (Nat.le_of_ble_eq_true rfl) dX9_numberOf_7 rfl rfl rfl ⟨(Nat.le_refl _), (Nat.le_refl _)⟩ ?_
  refine a_istore_n 11 [(0, .int x1), (1, .int x2), (2, .int r1), (3, .int r2)] [1, 2, 3, 0] hC dX9_numberOf_10 rfl rfl (by decide) rfl ?_
  refine a_iload_n 12 2 hC dX9_numberOf_11 rfl rfl rfl ?_
  refine a_iload_n 13 3 hC dX9_numberOf_12 rfl rfl rfl ?_
  obtain ⟨n3, h⟩ := dvx h
  refine a_idiv 14 hC dX9_numberOf_13 rfl n3 ?_
  obtain ⟨v4, ev4, h⟩ := nmx h
  refine a_nm ev4 ?_
  refine a_istore 16 [(0, .int x1), (1, .int x2), (2, .int r1), (3, .int r2), (4, .int v4)] [1, 2, 3, 4, 0] hC dX9_numberOf_14 rfl (by decide) rfl ?_
  refine a_iload 18 4 hC dX9_numberOf_16 rfl rfl ?_
  refine a_sipush 21 (v := (3600 : Int32)) hC dX9_numberOf_18 rfl (by decide) ?_
  refine a_idiv 22 hC dX9_numberOf_21 rfl (by decide) ?_
  refine a_ldc 24 (v := (1000000 : Int32)) hC wq658 dX9_numberOf_22 rfl ?_
  refine a_imul 25 hC dX9_numberOf_24 rfl ?_
  refine a_iload 27 4 hC dX9_numberOf_25 rfl rfl ?_
  refine a_bipush 29 (v := (60 : Int32)) hC dX9_numberOf_27 rfl (by decide) ?_
  refine a_idiv 30 hC dX9_numberOf_29 rfl (by decide) ?_
  refine a_bipush 32 (v := (60 : Int32)) hC dX9_numberOf_30 rfl (by decide) ?_
  refine a_rem 33 hC dX9_numberOf_32 rfl (by decide) ?_
  refine a_sipush 36 (v := (10000 : Int32)) hC dX9_numberOf_33 rfl (by decide) ?_
  refine a_imul 37 hC dX9_numberOf_36 rfl ?_
  refine a_iadd 38 hC dX9_numberOf_37 rfl ?_
  refine a_iload 40 4 hC dX9_numberOf_38 rfl rfl ?_
  refine a_bipush 42 (v := (60 : Int32)) hC dX9_numberOf_40 rfl (by decide) ?_
  refine a_rem 43 hC dX9_numberOf_42 rfl (by decide) ?_
  refine a_bipush 45 (v := (100 : Int32)) hC dX9_numberOf_43 rfl (by decide) ?_
  refine a_imul 46 hC dX9_numberOf_45 rfl ?_
  refine a_iadd 47 hC dX9_numberOf_46 rfl ?_
  refine a_iload_n 48 2 hC dX9_numberOf_47 rfl rfl rfl ?_
  refine a_iload_n 49 3 hC dX9_numberOf_48 rfl rfl rfl ?_
  obtain ⟨n5, h⟩ := dvx h
  refine a_rem 50 hC dX9_numberOf_49 rfl n5 ?_
  refine a_iadd 51 hC dX9_numberOf_50 rfl ?_
  obtain rfl := Option.some.inj h
  exact a_iret hC hR ⟨rfl, rfl⟩ (Nat.le_refl _) (Nat.le_refl _) dX9_numberOf_51
theorem c_X9_numberOf (l : Launch) (D : va_G) (z : ClassId × ClassId × ClassId) (x1 : Int32) (x2 : Int32) (res : (Int32)) (h : f_X9_numberOf x1 x2 = some res) : Ct l D z yX9_numberOf cX9_numberOf 5 (some .int) rm_X9_numberOf [.int x1, .int x2] [] (fun r w => r = some (.int res) ∧ w = []) := by
  refine Ct.of (by decide +kernel) (Nat.le_of_ble_eq_true rfl) (fun X hC hl hz hn hR => ?_)
  have hz1 : X.2.2.2.2 = z := by rw [hz]
  subst hz1
  exact t_X9_numberOf hC x1 x2 res hR h

/-! X9_frameOf -/
abbrev rm_X9_frameOf : Room := { frames := 1, cells := 0, slots := 0, locals := 20 }
theorem ds_X9_frameOf : yX9_frameOf.cls ≠ "java/lang/invoke/MethodHandle" ∧ yX9_frameOf.cls ≠ "java/lang/invoke/VarHandle" ∧ (parseMethodDescriptor yX9_frameOf.desc).map (fun d => d.parameters.length) = some 2 := by decide +kernel
def f_X9_frameOf_116 (x6 : Int32) (x7 : Int32) : Option ((Int32)) := (some (x7 - ((2 : Int32) * (x6 - (x6 / (10 : Int32))))))
set_option maxRecDepth 100000 in
set_option maxHeartbeats 4000000 in
theorem t_X9_frameOf_116 {X : qX} (hC : Ok X rm_X9_frameOf cX9_frameOf 8 RX9 (some .int)) (x6 : Int32) (x7 : Int32) (res : (Int32)) (hR : Rt X 0 0 (fun r w => r = some (.int res) ∧ w = [])) (h : f_X9_frameOf_116 x6 x7 = some res) : At X 0 0 116 [] [(6, .int x6), (7, .int x7)] [] := by
  unfold f_X9_frameOf_116 at h
  refine a_iload 118 1 hC dX9_frameOf_116 rfl rfl ?_
  refine a_iconst 119 (v := (2 : Int32)) hC dX9_frameOf_118 rfl (by decide) ?_
  refine a_iload 121 0 hC dX9_frameOf_119 rfl rfl ?_
  refine a_iload 123 0 hC dX9_frameOf_121 rfl rfl ?_
  refine a_bipush 125 (v := (10 : Int32)) hC dX9_frameOf_123 rfl (by decide) ?_
  refine a_idiv 126 hC dX9_frameOf_125 rfl (by decide) ?_
  refine a_isub 127 hC dX9_frameOf_126 rfl ?_
  refine a_imul 128 hC dX9_frameOf_127 rfl ?_
  refine a_isub 129 hC dX9_frameOf_128 rfl ?_
  obtain rfl := Option.some.inj h
  exact a_iret hC hR ⟨rfl, rfl⟩ (Nat.le_refl _) (Nat.le_refl _) dX9_frameOf_129
def f_X9_frameOf (x1 : Int32) (x2 : Int32) : Option ((Int32)) := (nm (q_rem x2 (100 : Int32)) fun v1 => (nm (q_rem (x2 / (100 : Int32)) (100 : Int32)) fun v2 => (nm (q_rem (x2 / (10000 : Int32)) (100 : Int32)) fun v3 => (nm (x2 / (1000000 : Int32)) fun v4 => ((f_X9_second x1).bind fun r5 => (if r5 ≤ v1 then (some (-9 : Int32)) else (if (59 : Int32) < v2 then (some (-9 : Int32)) else (if (59 : Int32) < v3 then (some (-9 : Int32)) else (if v4 ≤ (23 : Int32) then (nm (((60 : Int32) * v4) + v3) fun v10 => ((f_X9_second x1).bind fun r11 => (nm (((((60 : Int32) * v10) + v2) * r11) + v1) fun v12 => (if (3 : Int32) ≤ x1 then (if (q_rem v3 (10 : Int32)) ≤ (0 : Int32) then (f_X9_frameOf_116 v10 v12) else (if v2 = (0 : Int32) then (if (2 : Int32) ≤ v1 then (f_X9_frameOf_116 v10 v12) else (some (-9 : Int32))) else (f_X9_frameOf_116 v10 v12))) else (some v12))))) else (some (-9 : Int32)))))))))))
set_option maxRecDepth 100000 in
set_option maxHeartbeats 4000000 in
theorem t_X9_frameOf {X : qX} (hC : Ok X rm_X9_frameOf cX9_frameOf 8 RX9 (some .int)) (x1 : Int32) (x2 : Int32) (res : (Int32)) (hR : Rt X 0 0 (fun r w => r = some (.int res) ∧ w = [])) (h : f_X9_frameOf x1 x2 = some res) : At X 0 0 0 [] [(0, .int x1), (1, .int x2)] [] := by
  unfold f_X9_frameOf at h
  refine a_iload_n 1 1 hC dX9_frameOf_0 rfl rfl rfl ?_
  refine a_bipush 3 (v := (100 : Int32)) hC dX9_frameOf_1 rfl (by decide) ?_
  refine a_rem 4 hC dX9_frameOf_3 rfl (by decide) ?_
  obtain ⟨v1, ev1, h⟩ := nmx h
  refine a_nm ev1 ?_
  refine a_istore_n 5 [(0, .int x1), (1, .int x2), (2, .int v1)] [1, 2, 0] hC dX9_frameOf_4 rfl rfl (by decide) rfl ?_
  refine a_iload_n 6 1 hC dX9_frameOf_5 rfl rfl rfl ?_
  refine a_bipush 8 (v := (100 : Int32)) hC dX9_frameOf_6 rfl (by decide) ?_
  refine a_idiv 9 hC dX9_frameOf_8 rfl (by decide) ?_
  refine a_bipush 11 (v := (100 : Int32)) hC dX9_frameOf_9 rfl (by decide) ?_
  refine a_rem 12 hC dX9_frameOf_11 rfl (by decide) ?_
  obtain ⟨v2, ev2, h⟩ := nmx h
  refine a_nm ev2 ?_
  refine a_istore_n 13 [(0, .int x1), (1, .int x2), (2, .int v1), (3, .int v2)] [1, 2, 3, 0] hC dX9_frameOf_12 rfl rfl (by decide) rfl ?_
  refine a_iload_n 14 1 hC dX9_frameOf_13 rfl rfl rfl ?_
  refine a_sipush 17 (v := (10000 : Int32)) hC dX9_frameOf_14 rfl (by decide) ?_
  refine a_idiv 18 hC dX9_frameOf_17 rfl (by decide) ?_
  refine a_bipush 20 (v := (100 : Int32)) hC dX9_frameOf_18 rfl (by decide) ?_
  refine a_rem 21 hC dX9_frameOf_20 rfl (by decide) ?_
  obtain ⟨v3, ev3, h⟩ := nmx h
  refine a_nm ev3 ?_
  refine a_istore 23 [(0, .int x1), (1, .int x2), (2, .int v1), (3, .int v2), (4, .int v3)] [1, 2, 3, 4, 0] hC dX9_frameOf_21 rfl (by decide) rfl ?_
  refine a_iload_n 24 1 hC dX9_frameOf_23 rfl rfl rfl ?_
  refine a_ldc 26 (v := (1000000 : Int32)) hC wq658 dX9_frameOf_24 rfl ?_
  refine a_idiv 27 hC dX9_frameOf_26 rfl (by decide) ?_
  obtain ⟨v4, ev4, h⟩ := nmx h
  refine a_nm ev4 ?_
  refine a_istore 29 [(0, .int x1), (1, .int x2), (2, .int v1), (3, .int v2), (4, .int v3), (5, .int v4)] [1, 2, 3, 4, 5, 0] hC dX9_frameOf_27 rfl (by decide) rfl ?_
  refine a_iload_n 30 2 hC dX9_frameOf_29 rfl rfl rfl ?_
  refine a_iload_n 31 0 hC dX9_frameOf_30 rfl rfl rfl ?_
  obtain ⟨r5, gr5, h⟩ := bd h
  refine a_call0 34 [.int x1] [.int v1] (.int r5) hC (c_X9_second X.1.2.1 X.2.2.2.1 X.2.2.2.2 x1 r5 gr5) ⟨wq646, wq30, wq648, ds_X9_second, by decide, by decide⟩ wq647 rfl rfl (Nat.le_of_ble_eq_true rfl) dX9_frameOf_31 rfl rfl rfl ⟨(Nat.le_refl _), (Nat.le_refl _)⟩ ?_
  refine a_icmp_ge 57 37 hC dX9_frameOf_34 (by decide) rfl (fun c6 => ?_) (fun c6 => ?_)
  · have h := ifp c6 h
    refine a_bipush 59 (v := (-9 : Int32)) hC dX9_frameOf_57 rfl (by decide) ?_
    obtain rfl := Option.some.inj h
    exact a_iret hC hR ⟨rfl, rfl⟩ (Nat.le_refl _) (Nat.le_refl _) dX9_frameOf_59
  · have h := ifn c6 h
    refine a_iload_n 38 3 hC dX9_frameOf_37 rfl rfl rfl ?_
    refine a_bipush 40 (v := (59 : Int32)) hC dX9_frameOf_38 rfl (by decide) ?_
    refine a_icmp_gt 57 43 hC dX9_frameOf_40 (by decide) rfl (fun c7 => ?_) (fun c7 => ?_)
    · have h := ifp c7 h
      refine a_bipush 59 (v := (-9 : Int32)) hC dX9_frameOf_57 rfl (by decide) ?_
      obtain rfl := Option.some.inj h
      exact a_iret hC hR ⟨rfl, rfl⟩ (Nat.le_refl _) (Nat.le_refl _) dX9_frameOf_59
    · have h := ifn c7 h
      refine a_iload 45 4 hC dX9_frameOf_43 rfl rfl ?_
      refine a_bipush 47 (v := (59 : Int32)) hC dX9_frameOf_45 rfl (by decide) ?_
      refine a_icmp_gt 57 50 hC dX9_frameOf_47 (by decide) rfl (fun c8 => ?_) (fun c8 => ?_)
      · have h := ifp c8 h
        refine a_bipush 59 (v := (-9 : Int32)) hC dX9_frameOf_57 rfl (by decide) ?_
        obtain rfl := Option.some.inj h
        exact a_iret hC hR ⟨rfl, rfl⟩ (Nat.le_refl _) (Nat.le_refl _) dX9_frameOf_59
      · have h := ifn c8 h
        refine a_iload 52 5 hC dX9_frameOf_50 rfl rfl ?_
        refine a_bipush 54 (v := (23 : Int32)) hC dX9_frameOf_52 rfl (by decide) ?_
        refine a_icmp_le 60 57 hC dX9_frameOf_54 (by decide) rfl (fun c9 => ?_) (fun c9 => ?_)
        · have h := ifp c9 h
          refine a_bipush 62 (v := (60 : Int32)) hC dX9_frameOf_60 rfl (by decide) ?_
          refine a_iload 64 5 hC dX9_frameOf_62 rfl rfl ?_
          refine a_imul 65 hC dX9_frameOf_64 rfl ?_
          refine a_iload 67 4 hC dX9_frameOf_65 rfl rfl ?_
          refine a_iadd 68 hC dX9_frameOf_67 rfl ?_
          obtain ⟨v10, ev10, h⟩ := nmx h
          refine a_nm ev10 ?_
          refine a_istore 70 [(0, .int x1), (1, .int x2), (2, .int v1), (3, .int v2), (4, .int v3), (5, .int v4), (6, .int v10)] [1, 2, 3, 4, 5, 6, 0] hC dX9_frameOf_68 rfl (by decide) rfl ?_
          refine a_bipush 72 (v := (60 : Int32)) hC dX9_frameOf_70 rfl (by decide) ?_
          refine a_iload 74 6 hC dX9_frameOf_72 rfl rfl ?_
          refine a_imul 75 hC dX9_frameOf_74 rfl ?_
          refine a_iload_n 76 3 hC dX9_frameOf_75 rfl rfl rfl ?_
          refine a_iadd 77 hC dX9_frameOf_76 rfl ?_
          refine a_iload_n 78 0 hC dX9_frameOf_77 rfl rfl rfl ?_
          obtain ⟨r11, gr11, h⟩ := bd h
          refine a_call0 81 [.int x1] [.int (((60 : Int32) * v10) + v2)] (.int r11) hC (c_X9_second X.1.2.1 X.2.2.2.1 X.2.2.2.2 x1 r11 gr11) ⟨wq646, wq30, wq648, ds_X9_second, by decide, by decide⟩ wq647 rfl rfl (Nat.le_of_ble_eq_true rfl) dX9_frameOf_78 rfl rfl rfl ⟨(Nat.le_refl _), (Nat.le_refl _)⟩ ?_
          refine a_imul 82 hC dX9_frameOf_81 rfl ?_
          refine a_iload_n 83 2 hC dX9_frameOf_82 rfl rfl rfl ?_
          refine a_iadd 84 hC dX9_frameOf_83 rfl ?_
          obtain ⟨v12, ev12, h⟩ := nmx h
          refine a_nm ev12 ?_
          refine a_istore 86 [(0, .int x1), (1, .int x2), (2, .int v1), (3, .int v2), (4, .int v3), (5, .int v4), (6, .int v10), (7, .int v12)] [1, 2, 3, 4, 5, 6, 7, 0] hC dX9_frameOf_84 rfl (by decide) rfl ?_
          refine a_iload_n 87 0 hC dX9_frameOf_86 rfl rfl rfl ?_
          refine a_iconst 88 (v := (3 : Int32)) hC dX9_frameOf_87 rfl (by decide) ?_
          refine a_icmp_ge 94 91 hC dX9_frameOf_88 (by decide) rfl (fun c13 => ?_) (fun c13 => ?_)
          · have h := ifp c13 h
            refine a_iload 96 4 hC dX9_frameOf_94 rfl rfl ?_
            refine a_bipush 98 (v := (10 : Int32)) hC dX9_frameOf_96 rfl (by decide) ?_
            refine a_rem 99 hC dX9_frameOf_98 rfl (by decide) ?_
            refine a_if_le 116 102 hC dX9_frameOf_99 (by decide) rfl (fun c14 => ?_) (fun c14 => ?_)
            · have h := ifp c14 h
              refine a_lv [6, 7] [(6, .int v10), (7, .int v12)] rfl ?_
              exact t_X9_frameOf_116 hC v10 v12 res hR h
            · have h := ifn c14 h
              refine a_iload_n 103 3 hC dX9_frameOf_102 rfl rfl rfl ?_
              refine a_if_ne 116 106 hC dX9_frameOf_103 (by decide) rfl (fun c15 => ?_) (fun c15 => ?_)
              · have h := ifn c15 h
                refine a_lv [6, 7] [(6, .int v10), (7, .int v12)] rfl ?_
                exact t_X9_frameOf_116 hC v10 v12 res hR h
              · have h := ifp c15 h
                refine a_iload_n 107 2 hC dX9_frameOf_106 rfl rfl rfl ?_
                refine a_iconst 108 (v := (2 : Int32)) hC dX9_frameOf_107 rfl (by decide) ?_
                refine a_icmp_ge 116 111 hC dX9_frameOf_108 (by decide) rfl (fun c16 => ?_) (fun c16 => ?_)
                · have h := ifp c16 h
                  refine a_lv [6, 7] [(6, .int v10), (7, .int v12)] rfl ?_
                  exact t_X9_frameOf_116 hC v10 v12 res hR h
                · have h := ifn c16 h
                  refine a_bipush 113 (v := (-9 : Int32)) hC dX9_frameOf_111 rfl (by decide) ?_
                  refine a_goto 129 hC dX9_frameOf_113 (by decide) ?_
                  obtain rfl := Option.some.inj h
                  exact a_iret hC hR ⟨rfl, rfl⟩ (Nat.le_refl _) (Nat.le_refl _) dX9_frameOf_129
          · have h := ifn c13 h
            refine a_iload 93 7 hC dX9_frameOf_91 rfl rfl ?_
            obtain rfl := Option.some.inj h
            exact a_iret hC hR ⟨rfl, rfl⟩ (Nat.le_refl _) (Nat.le_refl _) dX9_frameOf_93
        · have h := ifn c9 h
          refine a_bipush 59 (v := (-9 : Int32)) hC dX9_frameOf_57 rfl (by decide) ?_
          obtain rfl := Option.some.inj h
          exact a_iret hC hR ⟨rfl, rfl⟩ (Nat.le_refl _) (Nat.le_refl _) dX9_frameOf_59
theorem c_X9_frameOf (l : Launch) (D : va_G) (z : ClassId × ClassId × ClassId) (x1 : Int32) (x2 : Int32) (res : (Int32)) (h : f_X9_frameOf x1 x2 = some res) : Ct l D z yX9_frameOf cX9_frameOf 8 (some .int) rm_X9_frameOf [.int x1, .int x2] [] (fun r w => r = some (.int res) ∧ w = []) := by
  refine Ct.of (by decide +kernel) (Nat.le_of_ble_eq_true rfl) (fun X hC hl hz hn hR => ?_)
  have hz1 : X.2.2.2.2 = z := by rw [hz]
  subst hz1
  exact t_X9_frameOf hC x1 x2 res hR h

/-! X9_figures -/
abbrev rm_X9_figures : Room := { frames := 0, cells := 0, slots := 0, locals := 0 }
theorem ds_X9_figures : yX9_figures.cls ≠ "java/lang/invoke/MethodHandle" ∧ yX9_figures.cls ≠ "java/lang/invoke/VarHandle" ∧ (parseMethodDescriptor yX9_figures.desc).map (fun d => d.parameters.length) = some 1 := by decide +kernel
def f_X9_figures (x1 : Int32) : Option ((Int32)) := (some ((q_rem x1 (10 : Int32)) ||| ((x1 / (10 : Int32)) <<< ((4 : Int32) &&& 31))))
set_option maxRecDepth 100000 in
set_option maxHeartbeats 4000000 in
theorem t_X9_figures {X : qX} (hC : Ok X rm_X9_figures cX9_figures 1 RX9 (some .int)) (x1 : Int32) (res : (Int32)) (hR : Rt X 0 0 (fun r w => r = some (.int res) ∧ w = [])) (h : f_X9_figures x1 = some res) : At X 0 0 0 [] [(0, .int x1)] [] := by
  unfold f_X9_figures at h
  refine a_iload_n 1 0 hC dX9_figures_0 rfl rfl rfl ?_
  refine a_bipush 3 (v := (10 : Int32)) hC dX9_figures_1 rfl (by decide) ?_
  refine a_rem 4 hC dX9_figures_3 rfl (by decide) ?_
  refine a_iload_n 5 0 hC dX9_figures_4 rfl rfl rfl ?_
  refine a_bipush 7 (v := (10 : Int32)) hC dX9_figures_5 rfl (by decide) ?_
  refine a_idiv 8 hC dX9_figures_7 rfl (by decide) ?_
  refine a_iconst 9 (v := (4 : Int32)) hC dX9_figures_8 rfl (by decide) ?_
  refine a_ishl 10 hC dX9_figures_9 rfl ?_
  refine a_ior 11 hC dX9_figures_10 rfl ?_
  obtain rfl := Option.some.inj h
  exact a_iret hC hR ⟨rfl, rfl⟩ (Nat.le_refl _) (Nat.le_refl _) dX9_figures_11
theorem c_X9_figures (l : Launch) (D : va_G) (z : ClassId × ClassId × ClassId) (x1 : Int32) (res : (Int32)) (h : f_X9_figures x1 = some res) : Ct l D z yX9_figures cX9_figures 1 (some .int) rm_X9_figures [.int x1] [] (fun r w => r = some (.int res) ∧ w = []) := by
  refine Ct.of (by decide +kernel) (Nat.le_of_ble_eq_true rfl) (fun X hC hl hz hn hR => ?_)
  have hz1 : X.2.2.2.2 = z := by rw [hz]
  subst hz1
  exact t_X9_figures hC x1 res hR h

/-! X9_isEven -/
abbrev rm_X9_isEven : Room := { frames := 0, cells := 0, slots := 0, locals := 0 }
theorem ds_X9_isEven : yX9_isEven.cls ≠ "java/lang/invoke/MethodHandle" ∧ yX9_isEven.cls ≠ "java/lang/invoke/VarHandle" ∧ (parseMethodDescriptor yX9_isEven.desc).map (fun d => d.parameters.length) = some 1 := by decide +kernel
def f_X9_isEven_33 (x0 : Int32) (v2 : Int32) (y0 : Int32) : Option (((Int32) × (Int32)) ⊕ ((Int32))) := (nm (v2 + (1 : Int32)) fun v4 => (some (.inl (y0, v4))))
set_option maxRecDepth 100000 in
set_option maxHeartbeats 4000000 in
theorem t_X9_isEven_33 {X : qX} (hC : Ok X rm_X9_isEven cX9_isEven 3 RX9 (some .boolean)) (x0 : Int32) (v2 : Int32) (y0 : Int32) (o : (((Int32) × (Int32))) ⊕ (((Int32)))) (h : f_X9_isEven_33 x0 v2 y0 = some o) (hk : Sum.elim (fun (w : ((Int32) × (Int32))) => At X 0 0 4 [] [(0, .int x0), (1, .int w.1), (2, .int w.2)] []) (fun (w : (Int32)) => At X 0 0 40 [] [(1, .int w)] []) o) : At X 0 0 33 [] [(0, .int x0), (2, .int v2)] [.int y0] := by
  unfold f_X9_isEven_33 at h
  refine a_istore_n 34 [(0, .int x0), (1, .int y0), (2, .int v2)] [1, 0, 2] hC dX9_isEven_33 rfl rfl (by decide) rfl ?_
  obtain ⟨v4, ev4, h⟩ := nmx h
  refine a_iinc 37 2 [(0, .int x0), (1, .int y0), (2, .int v4)] [1, 2, 0] hC dX9_isEven_34 rfl rfl (v := v4) (by rw [ev4]; rfl) (by decide) rfl ?_
  refine a_goto 4 hC dX9_isEven_37 (by decide) ?_
  obtain rfl := Option.some.inj h
  exact hk
def f_X9_isEven_25 (x0 : Int32) (v2 : Int32) (y0 : Int32) (y1 : Int32) : Option (((Int32) × (Int32)) ⊕ ((Int32))) := (if y1 = y0 then (f_X9_isEven_33 x0 v2 (0 : Int32)) else (f_X9_isEven_33 x0 v2 (1 : Int32)))
set_option maxRecDepth 100000 in
set_option maxHeartbeats 4000000 in
theorem t_X9_isEven_25 {X : qX} (hC : Ok X rm_X9_isEven cX9_isEven 3 RX9 (some .boolean)) (x0 : Int32) (v2 : Int32) (y0 : Int32) (y1 : Int32) (o : (((Int32) × (Int32))) ⊕ (((Int32)))) (h : f_X9_isEven_25 x0 v2 y0 y1 = some o) (hk : Sum.elim (fun (w : ((Int32) × (Int32))) => At X 0 0 4 [] [(0, .int x0), (1, .int w.1), (2, .int w.2)] []) (fun (w : (Int32)) => At X 0 0 40 [] [(1, .int w)] []) o) : At X 0 0 25 [] [(0, .int x0), (2, .int v2)] [.int y0, .int y1] := by
  unfold f_X9_isEven_25 at h
  refine a_icmp_eq 32 28 hC dX9_isEven_25 (by decide) rfl (fun c3 => ?_) (fun c3 => ?_)
  · have h := ifp c3 h
    refine a_iconst 33 (v := (0 : Int32)) hC dX9_isEven_32 rfl (by decide) ?_
    exact t_X9_isEven_33 hC x0 v2 (0 : Int32) o h hk
  · have h := ifn c3 h
    refine a_iconst 29 (v := (1 : Int32)) hC dX9_isEven_28 rfl (by decide) ?_
    refine a_goto 33 hC dX9_isEven_29 (by decide) ?_
    exact t_X9_isEven_33 hC x0 v2 (1 : Int32) o h hk
def fb_X9_isEven_4 (x0 : Int32) (w : ((Int32) × (Int32))) : Option (((Int32) × (Int32)) ⊕ ((Int32))) := (if (32 : Int32) ≤ w.2 then (some (.inr w.1)) else (if ((q_ushr x0 w.2) &&& (1 : Int32)) = (1 : Int32) then (f_X9_isEven_25 x0 w.2 (1 : Int32) w.1) else (f_X9_isEven_25 x0 w.2 (0 : Int32) w.1)))
set_option maxRecDepth 100000 in
set_option maxHeartbeats 4000000 in
theorem tb_X9_isEven_4 {X : qX} (hC : Ok X rm_X9_isEven cX9_isEven 3 RX9 (some .boolean)) (x0 : Int32) (w : ((Int32) × (Int32))) (o : ((Int32) × (Int32)) ⊕ (((Int32)))) (h : fb_X9_isEven_4 x0 w = some o) (hk : Sum.elim (fun (w : ((Int32) × (Int32))) => At X 0 0 4 [] [(0, .int x0), (1, .int w.1), (2, .int w.2)] []) (fun (w : (Int32)) => At X 0 0 40 [] [(1, .int w)] []) o) : At X 0 0 4 [] [(0, .int x0), (1, .int w.1), (2, .int w.2)] [] := by
  unfold fb_X9_isEven_4 at h
  refine a_iload_n 5 2 hC dX9_isEven_4 rfl rfl rfl ?_
  refine a_bipush 7 (v := (32 : Int32)) hC dX9_isEven_5 rfl (by decide) ?_
  refine a_icmp_ge 40 10 hC dX9_isEven_7 (by decide) rfl (fun c1 => ?_) (fun c1 => ?_)
  · have h := ifp c1 h
    obtain rfl := Option.some.inj h
    refine a_lv [1] [(1, .int w.1)] rfl ?_
    exact hk
  · have h := ifn c1 h
    refine a_iload_n 11 1 hC dX9_isEven_10 rfl rfl rfl ?_
    refine a_iload_n 12 0 hC dX9_isEven_11 rfl rfl rfl ?_
    refine a_iload_n 13 2 hC dX9_isEven_12 rfl rfl rfl ?_
    refine a_iushr 14 hC dX9_isEven_13 rfl ?_
    refine a_iconst 15 (v := (1 : Int32)) hC dX9_isEven_14 rfl (by decide) ?_
    refine a_iand 16 hC dX9_isEven_15 rfl ?_
    refine a_iconst 17 (v := (1 : Int32)) hC dX9_isEven_16 rfl (by decide) ?_
    refine a_icmp_ne 24 20 hC dX9_isEven_17 (by decide) rfl (fun c2 => ?_) (fun c2 => ?_)
    · have h := ifn c2 h
      refine a_iconst 25 (v := (0 : Int32)) hC dX9_isEven_24 rfl (by decide) ?_
      refine a_lv [0, 2] [(0, .int x0), (2, .int w.2)] rfl ?_
      exact t_X9_isEven_25 hC x0 w.2 (0 : Int32) w.1 o h hk
    · have h := ifp c2 h
      refine a_iconst 21 (v := (1 : Int32)) hC dX9_isEven_20 rfl (by decide) ?_
      refine a_goto 25 hC dX9_isEven_21 (by decide) ?_
      refine a_lv [0, 2] [(0, .int x0), (2, .int w.2)] rfl ?_
      exact t_X9_isEven_25 hC x0 w.2 (1 : Int32) w.1 o h hk
def f_X9_isEven (x1 : Int32) : Option ((Int32)) := ((lp (fb_X9_isEven_4 x1) 100000 ((1 : Int32), (0 : Int32))).bind fun r5 => (bl r5 (some r5)))
set_option maxRecDepth 100000 in
set_option maxHeartbeats 4000000 in
theorem t_X9_isEven {X : qX} (hC : Ok X rm_X9_isEven cX9_isEven 3 RX9 (some .boolean)) (x1 : Int32) (res : (Int32)) (hR : Rt X 0 0 (fun r w => r = some (.int res) ∧ w = [])) (h : f_X9_isEven x1 = some res) : At X 0 0 0 [] [(0, .int x1)] [] := by
  unfold f_X9_isEven at h
  refine a_iconst 1 (v := (1 : Int32)) hC dX9_isEven_0 rfl (by decide) ?_
  refine a_istore_n 2 [(0, .int x1), (1, .int (1 : Int32))] [1, 0] hC dX9_isEven_1 rfl rfl (by decide) rfl ?_
  refine a_iconst 3 (v := (0 : Int32)) hC dX9_isEven_2 rfl (by decide) ?_
  refine a_istore_n 4 [(0, .int x1), (1, .int (1 : Int32)), (2, .int (0 : Int32))] [1, 2, 0] hC dX9_isEven_3 rfl rfl (by decide) rfl ?_
  obtain ⟨r5, gr5, h⟩ := bd h
  refine lp_walk (Wh := (fun (u4 : ((Int32) × (Int32))) => At X 0 0 4 [] [(0, .int x1), (1, .int u4.1), (2, .int u4.2)] [])) (We := (fun (u4 : (Int32)) => At X 0 0 40 [] [(1, .int u4)] [])) (fun u9 o9 hb9 hk9 => tb_X9_isEven_4 hC x1 u9 o9 hb9 hk9) 100000 ((1 : Int32), (0 : Int32)) r5 gr5 ?_
  show At X 0 0 40 [] [(1, .int r5)] []
  refine a_iload_n 41 0 hC dX9_isEven_40 rfl rfl rfl ?_
  obtain ⟨nb, h⟩ := blx h
  obtain rfl := Option.some.inj h
  exact a_zret hC hR ⟨rfl, rfl⟩ nb (Nat.le_refl _) (Nat.le_refl _) dX9_isEven_41
theorem c_X9_isEven (l : Launch) (D : va_G) (z : ClassId × ClassId × ClassId) (x1 : Int32) (res : (Int32)) (h : f_X9_isEven x1 = some res) : Ct l D z yX9_isEven cX9_isEven 3 (some .boolean) rm_X9_isEven [.int x1] [] (fun r w => r = some (.int res) ∧ w = []) := by
  refine Ct.of (by decide +kernel) (Nat.le_of_ble_eq_true rfl) (fun X hC hl hz hn hR => ?_)
  have hz1 : X.2.2.2.2 = z := by rw [hz]
  subst hz1
  exact t_X9_isEven hC x1 res hR h

/-! X9_sync -/
abbrev rm_X9_sync : Room := { frames := 0, cells := 0, slots := 0, locals := 0 }
theorem ds_X9_sync : yX9_sync.cls ≠ "java/lang/invoke/MethodHandle" ∧ yX9_sync.cls ≠ "java/lang/invoke/VarHandle" ∧ (parseMethodDescriptor yX9_sync.desc).map (fun d => d.parameters.length) = some 1 := by decide +kernel
def f_X9_sync (x1 : Int32) : Option ((Int32)) := (if x1 < (2 : Int32) then (some (0 : Int32)) else (if x1 = (14 : Int32) then (some (0 : Int32)) else (some (1 : Int32))))
set_option maxRecDepth 100000 in
set_option maxHeartbeats 4000000 in
theorem t_X9_sync {X : qX} (hC : Ok X rm_X9_sync cX9_sync 1 RX9 (some .int)) (x1 : Int32) (res : (Int32)) (hR : Rt X 0 0 (fun r w => r = some (.int res) ∧ w = [])) (h : f_X9_sync x1 = some res) : At X 0 0 0 [] [(0, .int x1)] [] := by
  unfold f_X9_sync at h
  refine a_iload_n 1 0 hC dX9_sync_0 rfl rfl rfl ?_
  refine a_iconst 2 (v := (2 : Int32)) hC dX9_sync_1 rfl (by decide) ?_
  refine a_icmp_lt 11 5 hC dX9_sync_2 (by decide) rfl (fun c1 => ?_) (fun c1 => ?_)
  · have h := ifp c1 h
    refine a_iconst 12 (v := (0 : Int32)) hC dX9_sync_11 rfl (by decide) ?_
    refine a_goto 16 hC dX9_sync_12 (by decide) ?_
    obtain rfl := Option.some.inj h
    exact a_iret hC hR ⟨rfl, rfl⟩ (Nat.le_refl _) (Nat.le_refl _) dX9_sync_16
  · have h := ifn c1 h
    refine a_iload_n 6 0 hC dX9_sync_5 rfl rfl rfl ?_
    refine a_bipush 8 (v := (14 : Int32)) hC dX9_sync_6 rfl (by decide) ?_
    refine a_icmp_ne 15 11 hC dX9_sync_8 (by decide) rfl (fun c2 => ?_) (fun c2 => ?_)
    · have h := ifn c2 h
      refine a_iconst 16 (v := (1 : Int32)) hC dX9_sync_15 rfl (by decide) ?_
      obtain rfl := Option.some.inj h
      exact a_iret hC hR ⟨rfl, rfl⟩ (Nat.le_refl _) (Nat.le_refl _) dX9_sync_16
    · have h := ifp c2 h
      refine a_iconst 12 (v := (0 : Int32)) hC dX9_sync_11 rfl (by decide) ?_
      refine a_goto 16 hC dX9_sync_12 (by decide) ?_
      obtain rfl := Option.some.inj h
      exact a_iret hC hR ⟨rfl, rfl⟩ (Nat.le_refl _) (Nat.le_refl _) dX9_sync_16
theorem c_X9_sync (l : Launch) (D : va_G) (z : ClassId × ClassId × ClassId) (x1 : Int32) (res : (Int32)) (h : f_X9_sync x1 = some res) : Ct l D z yX9_sync cX9_sync 1 (some .int) rm_X9_sync [.int x1] [] (fun r w => r = some (.int res) ∧ w = []) := by
  refine Ct.of (by decide +kernel) (Nat.le_of_ble_eq_true rfl) (fun X hC hl hz hn hR => ?_)
  have hz1 : X.2.2.2.2 = z := by rw [hz]
  subst hz1
  exact t_X9_sync hC x1 res hR h

/-! X9_areFigures -/
abbrev rm_X9_areFigures : Room := { frames := 0, cells := 0, slots := 0, locals := 0 }
theorem ds_X9_areFigures : yX9_areFigures.cls ≠ "java/lang/invoke/MethodHandle" ∧ yX9_areFigures.cls ≠ "java/lang/invoke/VarHandle" ∧ (parseMethodDescriptor yX9_areFigures.desc).map (fun d => d.parameters.length) = some 1 := by decide +kernel
def f_X9_areFigures (x1 : Int32) : Option ((Int32)) := (if (10 : Int32) ≤ (x1 &&& (15 : Int32)) then (some (0 : Int32)) else (if (10 : Int32) ≤ ((q_ushr x1 (6 : Int32)) &&& (15 : Int32)) then (some (0 : Int32)) else (if (10 : Int32) ≤ ((q_ushr x1 (13 : Int32)) &&& (15 : Int32)) then (some (0 : Int32)) else (if (10 : Int32) ≤ ((q_ushr x1 (20 : Int32)) &&& (15 : Int32)) then (some (0 : Int32)) else (some (1 : Int32))))))
set_option maxRecDepth 100000 in
set_option maxHeartbeats 4000000 in
theorem t_X9_areFigures {X : qX} (hC : Ok X rm_X9_areFigures cX9_areFigures 1 RX9 (some .boolean)) (x1 : Int32) (res : (Int32)) (hR : Rt X 0 0 (fun r w => r = some (.int res) ∧ w = [])) (h : f_X9_areFigures x1 = some res) : At X 0 0 0 [] [(0, .int x1)] [] := by
  unfold f_X9_areFigures at h
  refine a_iload_n 1 0 hC dX9_areFigures_0 rfl rfl rfl ?_
  refine a_bipush 3 (v := (15 : Int32)) hC dX9_areFigures_1 rfl (by decide) ?_
  refine a_iand 4 hC dX9_areFigures_3 rfl ?_
  refine a_bipush 6 (v := (10 : Int32)) hC dX9_areFigures_4 rfl (by decide) ?_
  refine a_icmp_ge 49 9 hC dX9_areFigures_6 (by decide) rfl (fun c1 => ?_) (fun c1 => ?_)
  · have h := ifp c1 h
    refine a_iconst 50 (v := (0 : Int32)) hC dX9_areFigures_49 rfl (by decide) ?_
    obtain rfl := Option.some.inj h
    exact a_zret hC hR ⟨rfl, rfl⟩ rfl (Nat.le_refl _) (Nat.le_refl _) dX9_areFigures_50
  · have h := ifn c1 h
    refine a_iload_n 10 0 hC dX9_areFigures_9 rfl rfl rfl ?_
    refine a_bipush 12 (v := (6 : Int32)) hC dX9_areFigures_10 rfl (by decide) ?_
    refine a_iushr 13 hC dX9_areFigures_12 rfl ?_
    refine a_bipush 15 (v := (15 : Int32)) hC dX9_areFigures_13 rfl (by decide) ?_
    refine a_iand 16 hC dX9_areFigures_15 rfl ?_
    refine a_bipush 18 (v := (10 : Int32)) hC dX9_areFigures_16 rfl (by decide) ?_
    refine a_icmp_ge 49 21 hC dX9_areFigures_18 (by decide) rfl (fun c2 => ?_) (fun c2 => ?_)
    · have h := ifp c2 h
      refine a_iconst 50 (v := (0 : Int32)) hC dX9_areFigures_49 rfl (by decide) ?_
      obtain rfl := Option.some.inj h
      exact a_zret hC hR ⟨rfl, rfl⟩ rfl (Nat.le_refl _) (Nat.le_refl _) dX9_areFigures_50
    · have h := ifn c2 h
      refine a_iload_n 22 0 hC dX9_areFigures_21 rfl rfl rfl ?_
      refine a_bipush 24 (v := (13 : Int32)) hC dX9_areFigures_22 rfl (by decide) ?_
      refine a_iushr 25 hC dX9_areFigures_24 rfl ?_
      refine a_bipush 27 (v := (15 : Int32)) hC dX9_areFigures_25 rfl (by decide) ?_
      refine a_iand 28 hC dX9_areFigures_27 rfl ?_
      refine a_bipush 30 (v := (10 : Int32)) hC dX9_areFigures_28 rfl (by decide) ?_
      refine a_icmp_ge 49 33 hC dX9_areFigures_30 (by decide) rfl (fun c3 => ?_) (fun c3 => ?_)
      · have h := ifp c3 h
        refine a_iconst 50 (v := (0 : Int32)) hC dX9_areFigures_49 rfl (by decide) ?_
        obtain rfl := Option.some.inj h
        exact a_zret hC hR ⟨rfl, rfl⟩ rfl (Nat.le_refl _) (Nat.le_refl _) dX9_areFigures_50
      · have h := ifn c3 h
        refine a_iload_n 34 0 hC dX9_areFigures_33 rfl rfl rfl ?_
        refine a_bipush 36 (v := (20 : Int32)) hC dX9_areFigures_34 rfl (by decide) ?_
        refine a_iushr 37 hC dX9_areFigures_36 rfl ?_
        refine a_bipush 39 (v := (15 : Int32)) hC dX9_areFigures_37 rfl (by decide) ?_
        refine a_iand 40 hC dX9_areFigures_39 rfl ?_
        refine a_bipush 42 (v := (10 : Int32)) hC dX9_areFigures_40 rfl (by decide) ?_
        refine a_icmp_ge 49 45 hC dX9_areFigures_42 (by decide) rfl (fun c4 => ?_) (fun c4 => ?_)
        · have h := ifp c4 h
          refine a_iconst 50 (v := (0 : Int32)) hC dX9_areFigures_49 rfl (by decide) ?_
          obtain rfl := Option.some.inj h
          exact a_zret hC hR ⟨rfl, rfl⟩ rfl (Nat.le_refl _) (Nat.le_refl _) dX9_areFigures_50
        · have h := ifn c4 h
          refine a_iconst 46 (v := (1 : Int32)) hC dX9_areFigures_45 rfl (by decide) ?_
          refine a_goto 50 hC dX9_areFigures_46 (by decide) ?_
          obtain rfl := Option.some.inj h
          exact a_zret hC hR ⟨rfl, rfl⟩ rfl (Nat.le_refl _) (Nat.le_refl _) dX9_areFigures_50
theorem c_X9_areFigures (l : Launch) (D : va_G) (z : ClassId × ClassId × ClassId) (x1 : Int32) (res : (Int32)) (h : f_X9_areFigures x1 = some res) : Ct l D z yX9_areFigures cX9_areFigures 1 (some .boolean) rm_X9_areFigures [.int x1] [] (fun r w => r = some (.int res) ∧ w = []) := by
  refine Ct.of (by decide +kernel) (Nat.le_of_ble_eq_true rfl) (fun X hC hl hz hn hR => ?_)
  have hz1 : X.2.2.2.2 = z := by rw [hz]
  subst hz1
  exact t_X9_areFigures hC x1 res hR h

/-! X9_two -/
abbrev rm_X9_two : Room := { frames := 0, cells := 0, slots := 0, locals := 0 }
theorem ds_X9_two : yX9_two.cls ≠ "java/lang/invoke/MethodHandle" ∧ yX9_two.cls ≠ "java/lang/invoke/VarHandle" ∧ (parseMethodDescriptor yX9_two.desc).map (fun d => d.parameters.length) = some 3 := by decide +kernel
def f_X9_two (x1 : Int32) (x2 : Int32) (x3 : Int32) : Option ((Int32)) := (some (((q_ushr x1 x2) &&& (15 : Int32)) + ((10 : Int32) * ((q_ushr x1 (x2 + (4 : Int32))) &&& x3))))
set_option maxRecDepth 100000 in
set_option maxHeartbeats 4000000 in
theorem t_X9_two {X : qX} (hC : Ok X rm_X9_two cX9_two 3 RX9 (some .int)) (x1 : Int32) (x2 : Int32) (x3 : Int32) (res : (Int32)) (hR : Rt X 0 0 (fun r w => r = some (.int res) ∧ w = [])) (h : f_X9_two x1 x2 x3 = some res) : At X 0 0 0 [] [(0, .int x1), (1, .int x2), (2, .int x3)] [] := by
  unfold f_X9_two at h
  refine a_iload_n 1 0 hC dX9_two_0 rfl rfl rfl ?_
  refine a_iload_n 2 1 hC dX9_two_1 rfl rfl rfl ?_
  refine a_iushr 3 hC dX9_two_2 rfl ?_
  refine a_bipush 5 (v := (15 : Int32)) hC dX9_two_3 rfl (by decide) ?_
  refine a_iand 6 hC dX9_two_5 rfl ?_
  refine a_bipush 8 (v := (10 : Int32)) hC dX9_two_6 rfl (by decide) ?_
  refine a_iload_n 9 0 hC dX9_two_8 rfl rfl rfl ?_
  refine a_iload_n 10 1 hC dX9_two_9 rfl rfl rfl ?_
  refine a_iconst 11 (v := (4 : Int32)) hC dX9_two_10 rfl (by decide) ?_
  refine a_iadd 12 hC dX9_two_11 rfl ?_
  refine a_iushr 13 hC dX9_two_12 rfl ?_
  refine a_iload_n 14 2 hC dX9_two_13 rfl rfl rfl ?_
  refine a_iand 15 hC dX9_two_14 rfl ?_
  refine a_imul 16 hC dX9_two_15 rfl ?_
  refine a_iadd 17 hC dX9_two_16 rfl ?_
  obtain rfl := Option.some.inj h
  exact a_iret hC hR ⟨rfl, rfl⟩ (Nat.le_refl _) (Nat.le_refl _) dX9_two_17
theorem c_X9_two (l : Launch) (D : va_G) (z : ClassId × ClassId × ClassId) (x1 : Int32) (x2 : Int32) (x3 : Int32) (res : (Int32)) (h : f_X9_two x1 x2 x3 = some res) : Ct l D z yX9_two cX9_two 3 (some .int) rm_X9_two [.int x1, .int x2, .int x3] [] (fun r w => r = some (.int res) ∧ w = []) := by
  refine Ct.of (by decide +kernel) (Nat.le_of_ble_eq_true rfl) (fun X hC hl hz hn hR => ?_)
  have hz1 : X.2.2.2.2 = z := by rw [hz]
  subst hz1
  exact t_X9_two hC x1 x2 x3 res hR h

/-! X9_isChaser -/
abbrev rm_X9_isChaser : Room := { frames := 1, cells := 0, slots := 0, locals := 22 }
theorem ds_X9_isChaser : yX9_isChaser.cls ≠ "java/lang/invoke/MethodHandle" ∧ yX9_isChaser.cls ≠ "java/lang/invoke/VarHandle" ∧ (parseMethodDescriptor yX9_isChaser.desc).map (fun d => d.parameters.length) = some 1 := by decide +kernel
def f_X9_isChaser (x1 : Int32) : Option ((Int32)) := ((f_X9_in x1 (0 : Int32) (2 : Int32)).bind fun r1 => (bl r1 (some r1)))
set_option maxRecDepth 100000 in
set_option maxHeartbeats 4000000 in
theorem t_X9_isChaser {X : qX} (hC : Ok X rm_X9_isChaser cX9_isChaser 1 RX9 (some .boolean)) (x1 : Int32) (res : (Int32)) (hR : Rt X 0 0 (fun r w => r = some (.int res) ∧ w = [])) (h : f_X9_isChaser x1 = some res) : At X 0 0 0 [] [(0, .int x1)] [] := by
  unfold f_X9_isChaser at h
  refine a_iload_n 1 0 hC dX9_isChaser_0 rfl rfl rfl ?_
  refine a_iconst 2 (v := (0 : Int32)) hC dX9_isChaser_1 rfl (by decide) ?_
  refine a_iconst 3 (v := (2 : Int32)) hC dX9_isChaser_2 rfl (by decide) ?_
  obtain ⟨r1, gr1, h⟩ := bd h
  refine a_call0 6 [.int x1, .int (0 : Int32), .int (2 : Int32)] [] (.int r1) hC (c_X9_in X.1.2.1 X.2.2.2.1 X.2.2.2.2 x1 (0 : Int32) (2 : Int32) r1 gr1) ⟨wq649, wq30, wq651, ds_X9_in, by decide, by decide⟩ wq650 rfl rfl (Nat.le_of_ble_eq_true rfl) dX9_isChaser_3 rfl rfl rfl ⟨(Nat.le_refl _), (Nat.le_refl _)⟩ ?_
  obtain ⟨nb, h⟩ := blx h
  obtain rfl := Option.some.inj h
  exact a_zret hC hR ⟨rfl, rfl⟩ nb (Nat.le_refl _) (Nat.le_refl _) dX9_isChaser_6
theorem c_X9_isChaser (l : Launch) (D : va_G) (z : ClassId × ClassId × ClassId) (x1 : Int32) (res : (Int32)) (h : f_X9_isChaser x1 = some res) : Ct l D z yX9_isChaser cX9_isChaser 1 (some .boolean) rm_X9_isChaser [.int x1] [] (fun r w => r = some (.int res) ∧ w = []) := by
  refine Ct.of (by decide +kernel) (Nat.le_of_ble_eq_true rfl) (fun X hC hl hz hn hR => ?_)
  have hz1 : X.2.2.2.2 = z := by rw [hz]
  subst hz1
  exact t_X9_isChaser hC x1 res hR h
