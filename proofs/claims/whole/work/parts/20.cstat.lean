/-! X2_framesASecond -/
abbrev rm_X2_framesASecond : Room := { frames := 0, cells := 0, slots := 0, locals := 0 }
theorem ds_X2_framesASecond : yX2_framesASecond.cls ≠ "java/lang/invoke/MethodHandle" ∧ yX2_framesASecond.cls ≠ "java/lang/invoke/VarHandle" ∧ (parseMethodDescriptor yX2_framesASecond.desc).map (fun d => d.parameters.length) = some 1 := by decide +kernel
def f_X2_framesASecond (x1 : Int32) : Option ((Int32)) := (if x1 = (0 : Int32) then (some (24 : Int32)) else (if x1 = (1 : Int32) then (some (25 : Int32)) else (some (30 : Int32))))
set_option maxRecDepth 100000 in
set_option maxHeartbeats 4000000 in
theorem t_X2_framesASecond {X : qX} (hC : Ok X rm_X2_framesASecond cX2_framesASecond 1 RX2 (some .int)) (x1 : Int32) (res : (Int32)) (hR : Rt X 0 0 (fun r w => r = some (.int res) ∧ w = [])) (h : f_X2_framesASecond x1 = some res) : At X 0 0 0 [] [(0, .int x1)] [] := by
  unfold f_X2_framesASecond at h
  refine a_iload_n 1 0 hC dX2_framesASecond_0 rfl rfl rfl ?_
  by_cases c1 : x1 = (0 : Int32)
  · have h := ifp c1 h
    refine a_lsw 28 (off := 27) hC dX2_framesASecond_1 (by decide) (by rw [c1]; try rfl) (by decide) ?_
    refine a_bipush 30 (v := (24 : Int32)) hC dX2_framesASecond_28 rfl (by decide) ?_
    obtain rfl := Option.some.inj h
    exact a_iret hC hR ⟨rfl, rfl⟩ (Nat.le_refl _) (Nat.le_refl _) dX2_framesASecond_30
  · have h := ifn c1 h
    by_cases c2 : x1 = (1 : Int32)
    · have h := ifp c2 h
      refine a_lsw 31 (off := 30) hC dX2_framesASecond_1 (by decide) (by rw [c2]; try rfl) (by decide) ?_
      refine a_bipush 33 (v := (25 : Int32)) hC dX2_framesASecond_31 rfl (by decide) ?_
      obtain rfl := Option.some.inj h
      exact a_iret hC hR ⟨rfl, rfl⟩ (Nat.le_refl _) (Nat.le_refl _) dX2_framesASecond_33
    · have h := ifn c2 h
      refine a_lsw 34 (off := 33) hC dX2_framesASecond_1 (by decide) (by rw [lv_osw c1 (a := 0) (by decide), lv_osw c2 (a := 1) (by decide)]; try rfl) (by decide) ?_
      refine a_bipush 36 (v := (30 : Int32)) hC dX2_framesASecond_34 rfl (by decide) ?_
      obtain rfl := Option.some.inj h
      exact a_iret hC hR ⟨rfl, rfl⟩ (Nat.le_refl _) (Nat.le_refl _) dX2_framesASecond_36
theorem c_X2_framesASecond (l : Launch) (D : va_G) (z : ClassId × ClassId × ClassId) (x1 : Int32) (res : (Int32)) (h : f_X2_framesASecond x1 = some res) : Ct l D z yX2_framesASecond cX2_framesASecond 1 (some .int) rm_X2_framesASecond [.int x1] [] (fun r w => r = some (.int res) ∧ w = []) := by
  refine Ct.of (by decide +kernel) (Nat.le_of_ble_eq_true rfl) (fun X hC hl hz hn hR => ?_)
  have hz1 : X.2.2.2.2 = z := by rw [hz]
  subst hz1
  exact t_X2_framesASecond hC x1 res hR h

/-! X2_dayOf -/
abbrev rm_X2_dayOf : Room := { frames := 0, cells := 0, slots := 0, locals := 0 }
theorem ds_X2_dayOf : yX2_dayOf.cls ≠ "java/lang/invoke/MethodHandle" ∧ yX2_dayOf.cls ≠ "java/lang/invoke/VarHandle" ∧ (parseMethodDescriptor yX2_dayOf.desc).map (fun d => d.parameters.length) = some 1 := by decide +kernel
def f_X2_dayOf (x1 : Int32) : Option ((Int32)) := (if x1 = (0 : Int32) then (some (2073600 : Int32)) else (if x1 = (1 : Int32) then (some (2160000 : Int32)) else (if x1 = (2 : Int32) then (some (2592000 : Int32)) else (some (2589408 : Int32)))))
set_option maxRecDepth 100000 in
set_option maxHeartbeats 4000000 in
theorem t_X2_dayOf {X : qX} (hC : Ok X rm_X2_dayOf cX2_dayOf 1 RX2 (some .int)) (x1 : Int32) (res : (Int32)) (hR : Rt X 0 0 (fun r w => r = some (.int res) ∧ w = [])) (h : f_X2_dayOf x1 = some res) : At X 0 0 0 [] [(0, .int x1)] [] := by
  unfold f_X2_dayOf at h
  refine a_iload_n 1 0 hC dX2_dayOf_0 rfl rfl rfl ?_
  by_cases c1 : x1 = (0 : Int32)
  · have h := ifp c1 h
    refine a_tswI 28 hC dX2_dayOf_1 c1 (by decide) (by decide) rfl (by decide) ?_
    refine a_ldc 30 (v := (2073600 : Int32)) hC wq302 dX2_dayOf_28 rfl ?_
    obtain rfl := Option.some.inj h
    exact a_iret hC hR ⟨rfl, rfl⟩ (Nat.le_refl _) (Nat.le_refl _) dX2_dayOf_30
  · have h := ifn c1 h
    by_cases c2 : x1 = (1 : Int32)
    · have h := ifp c2 h
      refine a_tswI 31 hC dX2_dayOf_1 c2 (by decide) (by decide) rfl (by decide) ?_
      refine a_ldc 33 (v := (2160000 : Int32)) hC wq303 dX2_dayOf_31 rfl ?_
      obtain rfl := Option.some.inj h
      exact a_iret hC hR ⟨rfl, rfl⟩ (Nat.le_refl _) (Nat.le_refl _) dX2_dayOf_33
    · have h := ifn c2 h
      by_cases c3 : x1 = (2 : Int32)
      · have h := ifp c3 h
        refine a_tswI 34 hC dX2_dayOf_1 c3 (by decide) (by decide) rfl (by decide) ?_
        refine a_ldc 36 (v := (2592000 : Int32)) hC wq304 dX2_dayOf_34 rfl ?_
        obtain rfl := Option.some.inj h
        exact a_iret hC hR ⟨rfl, rfl⟩ (Nat.le_refl _) (Nat.le_refl _) dX2_dayOf_36
      · have h := ifn c3 h
        refine a_tswO 37 hC dX2_dayOf_1 (by have ec1 := ne_ti c1 (a := 0) (by decide); have ec2 := ne_ti c2 (a := 1) (by decide); have ec3 := ne_ti c3 (a := 2) (by decide); clear h; omega) (by decide) ?_
        refine a_ldc 39 (v := (2589408 : Int32)) hC wq305 dX2_dayOf_37 rfl ?_
        obtain rfl := Option.some.inj h
        exact a_iret hC hR ⟨rfl, rfl⟩ (Nat.le_refl _) (Nat.le_refl _) dX2_dayOf_39
theorem c_X2_dayOf (l : Launch) (D : va_G) (z : ClassId × ClassId × ClassId) (x1 : Int32) (res : (Int32)) (h : f_X2_dayOf x1 = some res) : Ct l D z yX2_dayOf cX2_dayOf 1 (some .int) rm_X2_dayOf [.int x1] [] (fun r w => r = some (.int res) ∧ w = []) := by
  refine Ct.of (by decide +kernel) (Nat.le_of_ble_eq_true rfl) (fun X hC hl hz hn hR => ?_)
  have hz1 : X.2.2.2.2 = z := by rw [hz]
  subst hz1
  exact t_X2_dayOf hC x1 res hR h

/-! X2_leftOutInDay -/
abbrev rm_X2_leftOutInDay : Room := { frames := 0, cells := 0, slots := 0, locals := 0 }
theorem ds_X2_leftOutInDay : yX2_leftOutInDay.cls ≠ "java/lang/invoke/MethodHandle" ∧ yX2_leftOutInDay.cls ≠ "java/lang/invoke/VarHandle" ∧ (parseMethodDescriptor yX2_leftOutInDay.desc).map (fun d => d.parameters.length) = some 1 := by decide +kernel
def f_X2_leftOutInDay (x1 : Int32) : Option ((Int32)) := (if x1 = (3 : Int32) then (some (2592 : Int32)) else (some (0 : Int32)))
set_option maxRecDepth 100000 in
set_option maxHeartbeats 4000000 in
theorem t_X2_leftOutInDay {X : qX} (hC : Ok X rm_X2_leftOutInDay cX2_leftOutInDay 1 RX2 (some .int)) (x1 : Int32) (res : (Int32)) (hR : Rt X 0 0 (fun r w => r = some (.int res) ∧ w = [])) (h : f_X2_leftOutInDay x1 = some res) : At X 0 0 0 [] [(0, .int x1)] [] := by
  unfold f_X2_leftOutInDay at h
  refine a_iload_n 1 0 hC dX2_leftOutInDay_0 rfl rfl rfl ?_
  refine a_iconst 2 (v := (3 : Int32)) hC dX2_leftOutInDay_1 rfl (by decide) ?_
  refine a_icmp_ne 11 5 hC dX2_leftOutInDay_2 (by decide) rfl (fun c1 => ?_) (fun c1 => ?_)
  · have h := ifn c1 h
    refine a_iconst 12 (v := (0 : Int32)) hC dX2_leftOutInDay_11 rfl (by decide) ?_
    obtain rfl := Option.some.inj h
    exact a_iret hC hR ⟨rfl, rfl⟩ (Nat.le_refl _) (Nat.le_refl _) dX2_leftOutInDay_12
  · have h := ifp c1 h
    refine a_sipush 8 (v := (2592 : Int32)) hC dX2_leftOutInDay_5 rfl (by decide) ?_
    refine a_goto 12 hC dX2_leftOutInDay_8 (by decide) ?_
    obtain rfl := Option.some.inj h
    exact a_iret hC hR ⟨rfl, rfl⟩ (Nat.le_refl _) (Nat.le_refl _) dX2_leftOutInDay_12
theorem c_X2_leftOutInDay (l : Launch) (D : va_G) (z : ClassId × ClassId × ClassId) (x1 : Int32) (res : (Int32)) (h : f_X2_leftOutInDay x1 = some res) : Ct l D z yX2_leftOutInDay cX2_leftOutInDay 1 (some .int) rm_X2_leftOutInDay [.int x1] [] (fun r w => r = some (.int res) ∧ w = []) := by
  refine Ct.of (by decide +kernel) (Nat.le_of_ble_eq_true rfl) (fun X hC hl hz hn hR => ?_)
  have hz1 : X.2.2.2.2 = z := by rw [hz]
  subst hz1
  exact t_X2_leftOutInDay hC x1 res hR h

/-! X2_leftOutUpTo -/
abbrev rm_X2_leftOutUpTo : Room := { frames := 0, cells := 0, slots := 0, locals := 0 }
theorem ds_X2_leftOutUpTo : yX2_leftOutUpTo.cls ≠ "java/lang/invoke/MethodHandle" ∧ yX2_leftOutUpTo.cls ≠ "java/lang/invoke/VarHandle" ∧ (parseMethodDescriptor yX2_leftOutUpTo.desc).map (fun d => d.parameters.length) = some 2 := by decide +kernel
def f_X2_leftOutUpTo_41 (x2 : Int32) (y0 : Int32) : Option ((Int32)) := (some (((18 : Int32) * x2) + ((2 : Int32) * y0)))
set_option maxRecDepth 100000 in
set_option maxHeartbeats 4000000 in
theorem t_X2_leftOutUpTo_41 {X : qX} (hC : Ok X rm_X2_leftOutUpTo cX2_leftOutUpTo 5 RX2 (some .int)) (x2 : Int32) (y0 : Int32) (res : (Int32)) (hR : Rt X 0 0 (fun r w => r = some (.int res) ∧ w = [])) (h : f_X2_leftOutUpTo_41 x2 y0 = some res) : At X 0 0 41 [] [(2, .int x2)] [.int y0] := by
  unfold f_X2_leftOutUpTo_41 at h
  refine a_istore 43 [(2, .int x2), (4, .int y0)] [1, 0] hC dX2_leftOutUpTo_41 rfl (by decide) rfl ?_
  refine a_bipush 45 (v := (18 : Int32)) hC dX2_leftOutUpTo_43 rfl (by decide) ?_
  refine a_iload_n 46 0 hC dX2_leftOutUpTo_45 rfl rfl rfl ?_
  refine a_imul 47 hC dX2_leftOutUpTo_46 rfl ?_
  refine a_iconst 48 (v := (2 : Int32)) hC dX2_leftOutUpTo_47 rfl (by decide) ?_
  refine a_iload 50 1 hC dX2_leftOutUpTo_48 rfl rfl ?_
  refine a_imul 51 hC dX2_leftOutUpTo_50 rfl ?_
  refine a_iadd 52 hC dX2_leftOutUpTo_51 rfl ?_
  obtain rfl := Option.some.inj h
  exact a_iret hC hR ⟨rfl, rfl⟩ (Nat.le_refl _) (Nat.le_refl _) dX2_leftOutUpTo_52
def f_X2_leftOutUpTo (x1 : Int32) (x2 : Int32) : Option ((Int32)) := (if x1 = (3 : Int32) then (nm (x2 / (17982 : Int32)) fun v2 => (nm (q_rem x2 (17982 : Int32)) fun v3 => (if (1800 : Int32) ≤ v3 then (f_X2_leftOutUpTo_41 v2 (((v3 - (1800 : Int32)) / (1798 : Int32)) + (1 : Int32))) else (f_X2_leftOutUpTo_41 v2 (0 : Int32))))) else (some (0 : Int32)))
set_option maxRecDepth 100000 in
set_option maxHeartbeats 4000000 in
theorem t_X2_leftOutUpTo {X : qX} (hC : Ok X rm_X2_leftOutUpTo cX2_leftOutUpTo 5 RX2 (some .int)) (x1 : Int32) (x2 : Int32) (res : (Int32)) (hR : Rt X 0 0 (fun r w => r = some (.int res) ∧ w = [])) (h : f_X2_leftOutUpTo x1 x2 = some res) : At X 0 0 0 [] [(0, .int x1), (1, .int x2)] [] := by
  unfold f_X2_leftOutUpTo at h
  refine a_iload_n 1 0 hC dX2_leftOutUpTo_0 rfl rfl rfl ?_
  refine a_iconst 2 (v := (3 : Int32)) hC dX2_leftOutUpTo_1 rfl (by decide) ?_
  refine a_icmp_eq 7 5 hC dX2_leftOutUpTo_2 (by decide) rfl (fun c1 => ?_) (fun c1 => ?_)
  · have h := ifp c1 h
    refine a_iload_n 8 1 hC dX2_leftOutUpTo_7 rfl rfl rfl ?_
    refine a_sipush 11 (v := (17982 : Int32)) hC dX2_leftOutUpTo_8 rfl (by decide) ?_
    refine a_idiv 12 hC dX2_leftOutUpTo_11 rfl (by decide) ?_
    obtain ⟨v2, ev2, h⟩ := nmx h
    refine a_nm ev2 ?_
    refine a_istore_n 13 [(0, .int x1), (1, .int x2), (2, .int v2)] [1, 2, 0] hC dX2_leftOutUpTo_12 rfl rfl (by decide) rfl ?_
    refine a_iload_n 14 1 hC dX2_leftOutUpTo_13 rfl rfl rfl ?_
    refine a_sipush 17 (v := (17982 : Int32)) hC dX2_leftOutUpTo_14 rfl (by decide) ?_
    refine a_rem 18 hC dX2_leftOutUpTo_17 rfl (by decide) ?_
    obtain ⟨v3, ev3, h⟩ := nmx h
    refine a_nm ev3 ?_
    refine a_istore_n 19 [(0, .int x1), (1, .int x2), (2, .int v2), (3, .int v3)] [1, 2, 3, 0] hC dX2_leftOutUpTo_18 rfl rfl (by decide) rfl ?_
    refine a_iload_n 20 3 hC dX2_leftOutUpTo_19 rfl rfl rfl ?_
    refine a_sipush 23 (v := (1800 : Int32)) hC dX2_leftOutUpTo_20 rfl (by decide) ?_
    refine a_icmp_ge 30 26 hC dX2_leftOutUpTo_23 (by decide) rfl (fun c4 => ?_) (fun c4 => ?_)
    · have h := ifp c4 h
      refine a_iload_n 31 3 hC dX2_leftOutUpTo_30 rfl rfl rfl ?_
      refine a_sipush 34 (v := (1800 : Int32)) hC dX2_leftOutUpTo_31 rfl (by decide) ?_
      refine a_isub 35 hC dX2_leftOutUpTo_34 rfl ?_
      refine a_sipush 38 (v := (1798 : Int32)) hC dX2_leftOutUpTo_35 rfl (by decide) ?_
      refine a_idiv 39 hC dX2_leftOutUpTo_38 rfl (by decide) ?_
      refine a_iconst 40 (v := (1 : Int32)) hC dX2_leftOutUpTo_39 rfl (by decide) ?_
      refine a_iadd 41 hC dX2_leftOutUpTo_40 rfl ?_
      refine a_lv [2] [(2, .int v2)] rfl ?_
      exact t_X2_leftOutUpTo_41 hC v2 (((v3 - (1800 : Int32)) / (1798 : Int32)) + (1 : Int32)) res hR h
    · have h := ifn c4 h
      refine a_iconst 27 (v := (0 : Int32)) hC dX2_leftOutUpTo_26 rfl (by decide) ?_
      refine a_goto 41 hC dX2_leftOutUpTo_27 (by decide) ?_
      refine a_lv [2] [(2, .int v2)] rfl ?_
      exact t_X2_leftOutUpTo_41 hC v2 (0 : Int32) res hR h
  · have h := ifn c1 h
    refine a_iconst 6 (v := (0 : Int32)) hC dX2_leftOutUpTo_5 rfl (by decide) ?_
    obtain rfl := Option.some.inj h
    exact a_iret hC hR ⟨rfl, rfl⟩ (Nat.le_refl _) (Nat.le_refl _) dX2_leftOutUpTo_6
theorem c_X2_leftOutUpTo (l : Launch) (D : va_G) (z : ClassId × ClassId × ClassId) (x1 : Int32) (x2 : Int32) (res : (Int32)) (h : f_X2_leftOutUpTo x1 x2 = some res) : Ct l D z yX2_leftOutUpTo cX2_leftOutUpTo 5 (some .int) rm_X2_leftOutUpTo [.int x1, .int x2] [] (fun r w => r = some (.int res) ∧ w = []) := by
  refine Ct.of (by decide +kernel) (Nat.le_of_ble_eq_true rfl) (fun X hC hl hz hn hR => ?_)
  have hz1 : X.2.2.2.2 = z := by rw [hz]
  subst hz1
  exact t_X2_leftOutUpTo hC x1 x2 res hR h

/-! X2_numberOf -/
abbrev rm_X2_numberOf : Room := { frames := 1, cells := 0, slots := 0, locals := 24 }
theorem ds_X2_numberOf : yX2_numberOf.cls ≠ "java/lang/invoke/MethodHandle" ∧ yX2_numberOf.cls ≠ "java/lang/invoke/VarHandle" ∧ (parseMethodDescriptor yX2_numberOf.desc).map (fun d => d.parameters.length) = some 2 := by decide +kernel
def f_X2_numberOf (x1 : Int32) (x2 : Int32) : Option ((Int32)) := ((f_X2_framesASecond x1).bind fun r1 => ((f_X2_leftOutUpTo x1 x2).bind fun r2 => (nm (x2 + r2) fun v3 => (dv r1 (nm (v3 / r1) fun v5 => (nm (v5 / (60 : Int32)) fun v6 => (dv r1 (some (((((v6 / (60 : Int32)) * (1000000 : Int32)) + ((q_rem v6 (60 : Int32)) * (10000 : Int32))) + ((q_rem v5 (60 : Int32)) * (100 : Int32))) + (q_rem v3 r1))))))))))
set_option maxRecDepth 100000 in
set_option maxHeartbeats 4000000 in
theorem t_X2_numberOf {X : qX} (hC : Ok X rm_X2_numberOf cX2_numberOf 6 RX2 (some .int)) (x1 : Int32) (x2 : Int32) (res : (Int32)) (hR : Rt X 0 0 (fun r w => r = some (.int res) ∧ w = [])) (h : f_X2_numberOf x1 x2 = some res) : At X 0 0 0 [] [(0, .int x1), (1, .int x2)] [] := by
  unfold f_X2_numberOf at h
  refine a_iload_n 1 0 hC dX2_numberOf_0 rfl rfl rfl ?_
  obtain ⟨r1, gr1, h⟩ := bd h
  refine a_call0 4 [.int x1] [] (.int r1) hC (c_X2_framesASecond X.1.2.1 X.2.2.2.1 X.2.2.2.2 x1 r1 gr1) ⟨wq324, wq33, wq326, ds_X2_framesASecond, by decide, by decide⟩ wq325 rfl rfl (Nat.le_of_ble_eq_true rfl) dX2_numberOf_1 rfl rfl rfl ⟨(Nat.le_refl _), (Nat.le_refl _)⟩ ?_
  refine a_istore_n 5 [(0, .int x1), (1, .int x2), (2, .int r1)] [1, 2, 0] hC dX2_numberOf_4 rfl rfl (by decide) rfl ?_
  refine a_iload_n 6 1 hC dX2_numberOf_5 rfl rfl rfl ?_
  refine a_iload_n 7 0 hC dX2_numberOf_6 rfl rfl rfl ?_
  refine a_iload_n 8 1 hC dX2_numberOf_7 rfl rfl rfl ?_
  obtain ⟨r2, gr2, h⟩ := bd h
  refine a_call0 11 [.int x1, .int x2] [.int x2] (.int r2) hC (c_X2_leftOutUpTo X.1.2.1 X.2.2.2.1 X.2.2.2.2 x1 x2 r2 gr2) ⟨wq327, wq33, wq329, ds_X2_leftOutUpTo, by decide, by decide⟩ wq328 rfl rfl (Nat.le_of_ble_eq_true rfl) dX2_numberOf_8 rfl rfl rfl ⟨(Nat.le_refl _), (Nat.le_refl _)⟩ ?_
  refine a_iadd 12 hC dX2_numberOf_11 rfl ?_
  obtain ⟨v3, ev3, h⟩ := nmx h
  refine a_nm ev3 ?_
  refine a_istore_n 13 [(0, .int x1), (1, .int x2), (2, .int r1), (3, .int v3)] [1, 2, 3, 0] hC dX2_numberOf_12 rfl rfl (by decide) rfl ?_
  refine a_iload_n 14 3 hC dX2_numberOf_13 rfl rfl rfl ?_
  refine a_iload_n 15 2 hC dX2_numberOf_14 rfl rfl rfl ?_
  obtain ⟨n4, h⟩ := dvx h
  refine a_idiv 16 hC dX2_numberOf_15 rfl n4 ?_
  obtain ⟨v5, ev5, h⟩ := nmx h
  refine a_nm ev5 ?_
  refine a_istore 18 [(0, .int x1), (1, .int x2), (2, .int r1), (3, .int v3), (4, .int v5)] [1, 2, 3, 4, 0] hC dX2_numberOf_16 rfl (by decide) rfl ?_
  refine a_iload 20 4 hC dX2_numberOf_18 rfl rfl ?_
  refine a_bipush 22 (v := (60 : Int32)) hC dX2_numberOf_20 rfl (by decide) ?_
  refine a_idiv 23 hC dX2_numberOf_22 rfl (by decide) ?_
  obtain ⟨v6, ev6, h⟩ := nmx h
  refine a_nm ev6 ?_
  refine a_istore 25 [(0, .int x1), (1, .int x2), (2, .int r1), (3, .int v3), (4, .int v5), (5, .int v6)] [1, 2, 3, 4, 5, 0] hC dX2_numberOf_23 rfl (by decide) rfl ?_
  refine a_iload 27 5 hC dX2_numberOf_25 rfl rfl ?_
  refine a_bipush 29 (v := (60 : Int32)) hC dX2_numberOf_27 rfl (by decide) ?_
  refine a_idiv 30 hC dX2_numberOf_29 rfl (by decide) ?_
  refine a_ldc 32 (v := (1000000 : Int32)) hC wq330 dX2_numberOf_30 rfl ?_
  refine a_imul 33 hC dX2_numberOf_32 rfl ?_
  refine a_iload 35 5 hC dX2_numberOf_33 rfl rfl ?_
  refine a_bipush 37 (v := (60 : Int32)) hC dX2_numberOf_35 rfl (by decide) ?_
  refine a_rem 38 hC dX2_numberOf_37 rfl (by decide) ?_
  refine a_sipush 41 (v := (10000 : Int32)) hC dX2_numberOf_38 rfl (by decide) ?_
  refine a_imul 42 hC dX2_numberOf_41 rfl ?_
  refine a_iadd 43 hC dX2_numberOf_42 rfl ?_
  refine a_iload 45 4 hC dX2_numberOf_43 rfl rfl ?_
  refine a_bipush 47 (v := (60 : Int32)) hC dX2_numberOf_45 rfl (by decide) ?_
  refine a_rem 48 hC dX2_numberOf_47 rfl (by decide) ?_
  refine a_bipush 50 (v := (100 : Int32)) hC dX2_numberOf_48 rfl (by decide) ?_
  refine a_imul 51 hC dX2_numberOf_50 rfl ?_
  refine a_iadd 52 hC dX2_numberOf_51 rfl ?_
  refine a_iload_n 53 3 hC dX2_numberOf_52 rfl rfl rfl ?_
  refine a_iload_n 54 2 hC dX2_numberOf_53 rfl rfl rfl ?_
  obtain ⟨n7, h⟩ := dvx h
  refine a_rem 55 hC dX2_numberOf_54 rfl n7 ?_
  refine a_iadd 56 hC dX2_numberOf_55 rfl ?_
  obtain rfl := Option.some.inj h
  exact a_iret hC hR ⟨rfl, rfl⟩ (Nat.le_refl _) (Nat.le_refl _) dX2_numberOf_56
theorem c_X2_numberOf (l : Launch) (D : va_G) (z : ClassId × ClassId × ClassId) (x1 : Int32) (x2 : Int32) (res : (Int32)) (h : f_X2_numberOf x1 x2 = some res) : Ct l D z yX2_numberOf cX2_numberOf 6 (some .int) rm_X2_numberOf [.int x1, .int x2] [] (fun r w => r = some (.int res) ∧ w = []) := by
  refine Ct.of (by decide +kernel) (Nat.le_of_ble_eq_true rfl) (fun X hC hl hz hn hR => ?_)
  have hz1 : X.2.2.2.2 = z := by rw [hz]
  subst hz1
  exact t_X2_numberOf hC x1 x2 res hR h

/-! X2_frameOf -/
abbrev rm_X2_frameOf : Room := { frames := 1, cells := 0, slots := 0, locals := 20 }
theorem ds_X2_frameOf : yX2_frameOf.cls ≠ "java/lang/invoke/MethodHandle" ∧ yX2_frameOf.cls ≠ "java/lang/invoke/VarHandle" ∧ (parseMethodDescriptor yX2_frameOf.desc).map (fun d => d.parameters.length) = some 2 := by decide +kernel
def f_X2_frameOf_121 (x7 : Int32) (x8 : Int32) : Option ((Int32)) := (some (x8 - ((2 : Int32) * (x7 - (x7 / (10 : Int32))))))
set_option maxRecDepth 100000 in
set_option maxHeartbeats 4000000 in
theorem t_X2_frameOf_121 {X : qX} (hC : Ok X rm_X2_frameOf cX2_frameOf 9 RX2 (some .int)) (x7 : Int32) (x8 : Int32) (res : (Int32)) (hR : Rt X 0 0 (fun r w => r = some (.int res) ∧ w = [])) (h : f_X2_frameOf_121 x7 x8 = some res) : At X 0 0 121 [] [(7, .int x7), (8, .int x8)] [] := by
  unfold f_X2_frameOf_121 at h
  refine a_iload 123 1 hC dX2_frameOf_121 rfl rfl ?_
  refine a_iconst 124 (v := (2 : Int32)) hC dX2_frameOf_123 rfl (by decide) ?_
  refine a_iload 126 0 hC dX2_frameOf_124 rfl rfl ?_
  refine a_iload 128 0 hC dX2_frameOf_126 rfl rfl ?_
  refine a_bipush 130 (v := (10 : Int32)) hC dX2_frameOf_128 rfl (by decide) ?_
  refine a_idiv 131 hC dX2_frameOf_130 rfl (by decide) ?_
  refine a_isub 132 hC dX2_frameOf_131 rfl ?_
  refine a_imul 133 hC dX2_frameOf_132 rfl ?_
  refine a_isub 134 hC dX2_frameOf_133 rfl ?_
  obtain rfl := Option.some.inj h
  exact a_iret hC hR ⟨rfl, rfl⟩ (Nat.le_refl _) (Nat.le_refl _) dX2_frameOf_134
def f_X2_frameOf (x1 : Int32) (x2 : Int32) : Option ((Int32)) := ((f_X2_framesASecond x1).bind fun r1 => (nm (q_rem x2 (100 : Int32)) fun v2 => (nm (q_rem (x2 / (100 : Int32)) (100 : Int32)) fun v3 => (nm (q_rem (x2 / (10000 : Int32)) (100 : Int32)) fun v4 => (nm (x2 / (1000000 : Int32)) fun v5 => (if x2 < (0 : Int32) then (some (-9 : Int32)) else (if r1 ≤ v2 then (some (-9 : Int32)) else (if (59 : Int32) < v3 then (some (-9 : Int32)) else (if (59 : Int32) < v4 then (some (-9 : Int32)) else (if v5 ≤ (23 : Int32) then (nm (((60 : Int32) * v5) + v4) fun v11 => (nm (((((60 : Int32) * v11) + v3) * r1) + v2) fun v12 => (if x1 = (3 : Int32) then (if (q_rem v11 (10 : Int32)) = (0 : Int32) then (f_X2_frameOf_121 v11 v12) else (if v3 = (0 : Int32) then (if (2 : Int32) ≤ v2 then (f_X2_frameOf_121 v11 v12) else (some (-9 : Int32))) else (f_X2_frameOf_121 v11 v12))) else (some v12)))) else (some (-9 : Int32))))))))))))
set_option maxRecDepth 100000 in
set_option maxHeartbeats 4000000 in
theorem t_X2_frameOf {X : qX} (hC : Ok X rm_X2_frameOf cX2_frameOf 9 RX2 (some .int)) (x1 : Int32) (x2 : Int32) (res : (Int32)) (hR : Rt X 0 0 (fun r w => r = some (.int res) ∧ w = [])) (h : f_X2_frameOf x1 x2 = some res) : At X 0 0 0 [] [(0, .int x1), (1, .int x2)] [] := by
  unfold f_X2_frameOf at h
  refine a_iload_n 1 0 hC dX2_frameOf_0 rfl rfl rfl ?_
  obtain ⟨r1, gr1, h⟩ := bd h
  refine a_call0 4 [.int x1] [] (.int r1) hC (c_X2_framesASecond X.1.2.1 X.2.2.2.1 X.2.2.2.2 x1 r1 gr1) ⟨wq324, wq33, wq326, ds_X2_framesASecond, by decide, by decide⟩ wq325 rfl rfl (Nat.le_of_ble_eq_true rfl) dX2_frameOf_1 rfl rfl rfl ⟨(Nat.le_refl _), (Nat.le_refl _)⟩ ?_
  refine a_istore_n 5 [(0, .int x1), (1, .int x2), (2, .int r1)] [1, 2, 0] hC dX2_frameOf_4 rfl rfl (by decide) rfl ?_
  refine a_iload_n 6 1 hC dX2_frameOf_5 rfl rfl rfl ?_
  refine a_bipush 8 (v := (100 : Int32)) hC dX2_frameOf_6 rfl (by decide) ?_
  refine a_rem 9 hC dX2_frameOf_8 rfl (by decide) ?_
  obtain ⟨v2, ev2, h⟩ := nmx h
  refine a_nm ev2 ?_
  refine a_istore_n 10 [(0, .int x1), (1, .int x2), (2, .int r1), (3, .int v2)] [1, 2, 3, 0] hC dX2_frameOf_9 rfl rfl (by decide) rfl ?_
  refine a_iload_n 11 1 hC dX2_frameOf_10 rfl rfl rfl ?_
  refine a_bipush 13 (v := (100 : Int32)) hC dX2_frameOf_11 rfl (by decide) ?_
  refine a_idiv 14 hC dX2_frameOf_13 rfl (by decide) ?_
  refine a_bipush 16 (v := (100 : Int32)) hC dX2_frameOf_14 rfl (by decide) ?_
  refine a_rem 17 hC dX2_frameOf_16 rfl (by decide) ?_
  obtain ⟨v3, ev3, h⟩ := nmx h
  refine a_nm ev3 ?_
  refine a_istore 19 [(0, .int x1), (1, .int x2), (2, .int r1), (3, .int v2), (4, .int v3)] [1, 2, 3, 4, 0] hC dX2_frameOf_17 rfl (by decide) rfl ?_
  refine a_iload_n 20 1 hC dX2_frameOf_19 rfl rfl rfl ?_
  refine a_sipush 23 (v := (10000 : Int32)) hC dX2_frameOf_20 rfl (by decide) ?_
  refine a_idiv 24 hC dX2_frameOf_23 rfl (by decide) ?_
  refine a_bipush 26 (v := (100 : Int32)) hC dX2_frameOf_24 rfl (by decide) ?_
  refine a_rem 27 hC dX2_frameOf_26 rfl (by decide) ?_
  obtain ⟨v4, ev4, h⟩ := nmx h
  refine a_nm ev4 ?_
  refine a_istore 29 [(0, .int x1), (1, .int x2), (2, .int r1), (3, .int v2), (4, .int v3), (5, .int v4)] [1, 2, 3, 4, 5, 0] hC dX2_frameOf_27 rfl (by decide) rfl ?_
  refine a_iload_n 30 1 hC dX2_frameOf_29 rfl rfl rfl ?_
  refine a_ldc 32 (v := (1000000 : Int32)) hC wq330 dX2_frameOf_30 rfl ?_
  refine a_idiv 33 hC dX2_frameOf_32 rfl (by decide) ?_
  obtain ⟨v5, ev5, h⟩ := nmx h
  refine a_nm ev5 ?_
  refine a_istore 35 [(0, .int x1), (1, .int x2), (2, .int r1), (3, .int v2), (4, .int v3), (5, .int v4), (6, .int v5)] [1, 2, 3, 4, 5, 6, 0] hC dX2_frameOf_33 rfl (by decide) rfl ?_
  refine a_iload_n 36 1 hC dX2_frameOf_35 rfl rfl rfl ?_
  refine a_if_lt 65 39 hC dX2_frameOf_36 (by decide) rfl (fun c6 => ?_) (fun c6 => ?_)
  · have h := ifp c6 h
    refine a_bipush 67 (v := (-9 : Int32)) hC dX2_frameOf_65 rfl (by decide) ?_
    obtain rfl := Option.some.inj h
    exact a_iret hC hR ⟨rfl, rfl⟩ (Nat.le_refl _) (Nat.le_refl _) dX2_frameOf_67
  · have h := ifn c6 h
    refine a_iload_n 40 3 hC dX2_frameOf_39 rfl rfl rfl ?_
    refine a_iload_n 41 2 hC dX2_frameOf_40 rfl rfl rfl ?_
    refine a_icmp_ge 65 44 hC dX2_frameOf_41 (by decide) rfl (fun c7 => ?_) (fun c7 => ?_)
    · have h := ifp c7 h
      refine a_bipush 67 (v := (-9 : Int32)) hC dX2_frameOf_65 rfl (by decide) ?_
      obtain rfl := Option.some.inj h
      exact a_iret hC hR ⟨rfl, rfl⟩ (Nat.le_refl _) (Nat.le_refl _) dX2_frameOf_67
    · have h := ifn c7 h
      refine a_iload 46 4 hC dX2_frameOf_44 rfl rfl ?_
      refine a_bipush 48 (v := (59 : Int32)) hC dX2_frameOf_46 rfl (by decide) ?_
      refine a_icmp_gt 65 51 hC dX2_frameOf_48 (by decide) rfl (fun c8 => ?_) (fun c8 => ?_)
      · have h := ifp c8 h
        refine a_bipush 67 (v := (-9 : Int32)) hC dX2_frameOf_65 rfl (by decide) ?_
        obtain rfl := Option.some.inj h
        exact a_iret hC hR ⟨rfl, rfl⟩ (Nat.le_refl _) (Nat.le_refl _) dX2_frameOf_67
      · have h := ifn c8 h
        refine a_iload 53 5 hC dX2_frameOf_51 rfl rfl ?_
        refine a_bipush 55 (v := (59 : Int32)) hC dX2_frameOf_53 rfl (by decide) ?_
        refine a_icmp_gt 65 58 hC dX2_frameOf_55 (by decide) rfl (fun c9 => ?_) (fun c9 => ?_)
        · have h := ifp c9 h
          refine a_bipush 67 (v := (-9 : Int32)) hC dX2_frameOf_65 rfl (by decide) ?_
          obtain rfl := Option.some.inj h
          exact a_iret hC hR ⟨rfl, rfl⟩ (Nat.le_refl _) (Nat.le_refl _) dX2_frameOf_67
        · have h := ifn c9 h
          refine a_iload 60 6 hC dX2_frameOf_58 rfl rfl ?_
          refine a_bipush 62 (v := (23 : Int32)) hC dX2_frameOf_60 rfl (by decide) ?_
          refine a_icmp_le 68 65 hC dX2_frameOf_62 (by decide) rfl (fun c10 => ?_) (fun c10 => ?_)
          · have h := ifp c10 h
            refine a_bipush 70 (v := (60 : Int32)) hC dX2_frameOf_68 rfl (by decide) ?_
            refine a_iload 72 6 hC dX2_frameOf_70 rfl rfl ?_
            refine a_imul 73 hC dX2_frameOf_72 rfl ?_
            refine a_iload 75 5 hC dX2_frameOf_73 rfl rfl ?_
            refine a_iadd 76 hC dX2_frameOf_75 rfl ?_
            obtain ⟨v11, ev11, h⟩ := nmx h
            refine a_nm ev11 ?_
            refine a_istore 78 [(0, .int x1), (1, .int x2), (2, .int r1), (3, .int v2), (4, .int v3), (5, .int v4), (6, .int v5), (7, .int v11)] [1, 2, 3, 4, 5, 6, 7, 0] hC dX2_frameOf_76 rfl (by decide) rfl ?_
            refine a_bipush 80 (v := (60 : Int32)) hC dX2_frameOf_78 rfl (by decide) ?_
            refine a_iload 82 7 hC dX2_frameOf_80 rfl rfl ?_
            refine a_imul 83 hC dX2_frameOf_82 rfl ?_
            refine a_iload 85 4 hC dX2_frameOf_83 rfl rfl ?_
            refine a_iadd 86 hC dX2_frameOf_85 rfl ?_
            refine a_iload_n 87 2 hC dX2_frameOf_86 rfl rfl rfl ?_
            refine a_imul 88 hC dX2_frameOf_87 rfl ?_
            refine a_iload_n 89 3 hC dX2_frameOf_88 rfl rfl rfl ?_
            refine a_iadd 90 hC dX2_frameOf_89 rfl ?_
            obtain ⟨v12, ev12, h⟩ := nmx h
            refine a_nm ev12 ?_
            refine a_istore 92 [(0, .int x1), (1, .int x2), (2, .int r1), (3, .int v2), (4, .int v3), (5, .int v4), (6, .int v5), (7, .int v11), (8, .int v12)] [1, 2, 3, 4, 5, 6, 7, 8, 0] hC dX2_frameOf_90 rfl (by decide) rfl ?_
            refine a_iload_n 93 0 hC dX2_frameOf_92 rfl rfl rfl ?_
            refine a_iconst 94 (v := (3 : Int32)) hC dX2_frameOf_93 rfl (by decide) ?_
            refine a_icmp_eq 100 97 hC dX2_frameOf_94 (by decide) rfl (fun c13 => ?_) (fun c13 => ?_)
            · have h := ifp c13 h
              refine a_iload 102 7 hC dX2_frameOf_100 rfl rfl ?_
              refine a_bipush 104 (v := (10 : Int32)) hC dX2_frameOf_102 rfl (by decide) ?_
              refine a_rem 105 hC dX2_frameOf_104 rfl (by decide) ?_
              refine a_if_eq 121 108 hC dX2_frameOf_105 (by decide) rfl (fun c14 => ?_) (fun c14 => ?_)
              · have h := ifp c14 h
                refine a_lv [7, 8] [(7, .int v11), (8, .int v12)] rfl ?_
                exact t_X2_frameOf_121 hC v11 v12 res hR h
              · have h := ifn c14 h
                refine a_iload 110 4 hC dX2_frameOf_108 rfl rfl ?_
                refine a_if_ne 121 113 hC dX2_frameOf_110 (by decide) rfl (fun c15 => ?_) (fun c15 => ?_)
                · have h := ifn c15 h
                  refine a_lv [7, 8] [(7, .int v11), (8, .int v12)] rfl ?_
                  exact t_X2_frameOf_121 hC v11 v12 res hR h
                · have h := ifp c15 h
                  refine a_iload_n 114 3 hC dX2_frameOf_113 rfl rfl rfl ?_
                  refine a_iconst 115 (v := (2 : Int32)) hC dX2_frameOf_114 rfl (by decide) ?_
                  refine a_icmp_ge 121 118 hC dX2_frameOf_115 (by decide) rfl (fun c16 => ?_) (fun c16 => ?_)
                  · have h := ifp c16 h
                    refine a_lv [7, 8] [(7, .int v11), (8, .int v12)] rfl ?_
                    exact t_X2_frameOf_121 hC v11 v12 res hR h
                  · have h := ifn c16 h
                    refine a_bipush 120 (v := (-9 : Int32)) hC dX2_frameOf_118 rfl (by decide) ?_
                    obtain rfl := Option.some.inj h
                    exact a_iret hC hR ⟨rfl, rfl⟩ (Nat.le_refl _) (Nat.le_refl _) dX2_frameOf_120
            · have h := ifn c13 h
              refine a_iload 99 8 hC dX2_frameOf_97 rfl rfl ?_
              obtain rfl := Option.some.inj h
              exact a_iret hC hR ⟨rfl, rfl⟩ (Nat.le_refl _) (Nat.le_refl _) dX2_frameOf_99
          · have h := ifn c10 h
            refine a_bipush 67 (v := (-9 : Int32)) hC dX2_frameOf_65 rfl (by decide) ?_
            obtain rfl := Option.some.inj h
            exact a_iret hC hR ⟨rfl, rfl⟩ (Nat.le_refl _) (Nat.le_refl _) dX2_frameOf_67
theorem c_X2_frameOf (l : Launch) (D : va_G) (z : ClassId × ClassId × ClassId) (x1 : Int32) (x2 : Int32) (res : (Int32)) (h : f_X2_frameOf x1 x2 = some res) : Ct l D z yX2_frameOf cX2_frameOf 9 (some .int) rm_X2_frameOf [.int x1, .int x2] [] (fun r w => r = some (.int res) ∧ w = []) := by
  refine Ct.of (by decide +kernel) (Nat.le_of_ble_eq_true rfl) (fun X hC hl hz hn hR => ?_)
  have hz1 : X.2.2.2.2 = z := by rw [hz]
  subst hz1
  exact t_X2_frameOf hC x1 x2 res hR h

/-! X7_bitOf -/
abbrev rm_X7_bitOf : Room := { frames := 0, cells := 0, slots := 0, locals := 0 }
theorem ds_X7_bitOf : yX7_bitOf.cls ≠ "java/lang/invoke/MethodHandle" ∧ yX7_bitOf.cls ≠ "java/lang/invoke/VarHandle" ∧ (parseMethodDescriptor yX7_bitOf.desc).map (fun d => d.parameters.length) = some 2 := by decide +kernel
def f_X7_bitOf (x1 : Int64) (x2 : Int32) : Option ((Int32)) := (some ((Int64.toInt32 (q_lushr x1 x2)) &&& (1 : Int32)))
set_option maxRecDepth 100000 in
set_option maxHeartbeats 4000000 in
theorem t_X7_bitOf {X : qX} (hC : Ok X rm_X7_bitOf cX7_bitOf 3 RX7 (some .int)) (x1 : Int64) (x2 : Int32) (res : (Int32)) (hR : Rt X 0 0 (fun r w => r = some (.int res) ∧ w = [])) (h : f_X7_bitOf x1 x2 = some res) : At X 0 0 0 [] [(0, .long x1), (2, .int x2)] [] := by
  unfold f_X7_bitOf at h
  refine a_lload_n 1 0 hC dX7_bitOf_0 rfl rfl rfl ?_
  refine a_iload_n 2 1 hC dX7_bitOf_1 rfl rfl rfl ?_
  refine a_lushr 3 hC dX7_bitOf_2 rfl ?_
  refine a_l2i 4 hC dX7_bitOf_3 rfl ?_
  refine a_iconst 5 (v := (1 : Int32)) hC dX7_bitOf_4 rfl (by decide) ?_
  refine a_iand 6 hC dX7_bitOf_5 rfl ?_
  obtain rfl := Option.some.inj h
  exact a_iret hC hR ⟨rfl, rfl⟩ (Nat.le_refl _) (Nat.le_refl _) dX7_bitOf_6
theorem c_X7_bitOf (l : Launch) (D : va_G) (z : ClassId × ClassId × ClassId) (x1 : Int64) (x2 : Int32) (res : (Int32)) (h : f_X7_bitOf x1 x2 = some res) : Ct l D z yX7_bitOf cX7_bitOf 3 (some .int) rm_X7_bitOf [.long x1, .int x2] [] (fun r w => r = some (.int res) ∧ w = []) := by
  refine Ct.of (by decide +kernel) (Nat.le_of_ble_eq_true rfl) (fun X hC hl hz hn hR => ?_)
  have hz1 : X.2.2.2.2 = z := by rw [hz]
  subst hz1
  exact t_X7_bitOf hC x1 x2 res hR h

/-! X7_digits -/
abbrev rm_X7_digits : Room := { frames := 0, cells := 0, slots := 0, locals := 0 }
theorem ds_X7_digits : yX7_digits.cls ≠ "java/lang/invoke/MethodHandle" ∧ yX7_digits.cls ≠ "java/lang/invoke/VarHandle" ∧ (parseMethodDescriptor yX7_digits.desc).map (fun d => d.parameters.length) = some 1 := by decide +kernel
def f_X7_digits (x1 : Int32) : Option ((Int32)) := (some ((q_rem x1 (10 : Int32)) ||| ((x1 / (10 : Int32)) <<< ((4 : Int32) &&& 31))))
set_option maxRecDepth 100000 in
set_option maxHeartbeats 4000000 in
theorem t_X7_digits {X : qX} (hC : Ok X rm_X7_digits cX7_digits 1 RX7 (some .int)) (x1 : Int32) (res : (Int32)) (hR : Rt X 0 0 (fun r w => r = some (.int res) ∧ w = [])) (h : f_X7_digits x1 = some res) : At X 0 0 0 [] [(0, .int x1)] [] := by
  unfold f_X7_digits at h
  refine a_iload_n 1 0 hC dX7_digits_0 rfl rfl rfl ?_
  refine a_bipush 3 (v := (10 : Int32)) hC dX7_digits_1 rfl (by decide) ?_
  refine a_rem 4 hC dX7_digits_3 rfl (by decide) ?_
  refine a_iload_n 5 0 hC dX7_digits_4 rfl rfl rfl ?_
  refine a_bipush 7 (v := (10 : Int32)) hC dX7_digits_5 rfl (by decide) ?_
  refine a_idiv 8 hC dX7_digits_7 rfl (by decide) ?_
  refine a_iconst 9 (v := (4 : Int32)) hC dX7_digits_8 rfl (by decide) ?_
  refine a_ishl 10 hC dX7_digits_9 rfl ?_
  refine a_ior 11 hC dX7_digits_10 rfl ?_
  obtain rfl := Option.some.inj h
  exact a_iret hC hR ⟨rfl, rfl⟩ (Nat.le_refl _) (Nat.le_refl _) dX7_digits_11
theorem c_X7_digits (l : Launch) (D : va_G) (z : ClassId × ClassId × ClassId) (x1 : Int32) (res : (Int32)) (h : f_X7_digits x1 = some res) : Ct l D z yX7_digits cX7_digits 1 (some .int) rm_X7_digits [.int x1] [] (fun r w => r = some (.int res) ∧ w = []) := by
  refine Ct.of (by decide +kernel) (Nat.le_of_ble_eq_true rfl) (fun X hC hl hz hn hR => ?_)
  have hz1 : X.2.2.2.2 = z := by rw [hz]
  subst hz1
  exact t_X7_digits hC x1 res hR h

/-! X7_wordOf -/
abbrev rm_X7_wordOf : Room := { frames := 2, cells := 0, slots := 0, locals := 49 }
theorem ds_X7_wordOf : yX7_wordOf.cls ≠ "java/lang/invoke/MethodHandle" ∧ yX7_wordOf.cls ≠ "java/lang/invoke/VarHandle" ∧ (parseMethodDescriptor yX7_wordOf.desc).map (fun d => d.parameters.length) = some 3 := by decide +kernel
def f_X7_wordOf_64 (x2 : Int32) (y0 : Int32) (y1 : Int32) : Option ((Int64)) := (nm ((y1 ||| y0) ||| (x2 <<< ((28 : Int32) &&& 31))) fun v7 => ((f_J6_bitCount_0f7a4 v7).bind fun r8 => (nm (q_rem r8 (2 : Int32)) fun v9 => (some (((Int32.toInt64 (v7 ||| (v9 <<< ((27 : Int32) &&& 31)))) &&& (4294967295 : Int64)) ||| (211089052663808 : Int64))))))
set_option maxRecDepth 100000 in
set_option maxHeartbeats 4000000 in
theorem t_X7_wordOf_64 {X : qX} (hC : Ok X rm_X7_wordOf cX7_wordOf 6 RX7 (some .long)) (x2 : Int32) (y0 : Int32) (y1 : Int32) (res : (Int64)) (hR : Rt X 0 0 (fun r w => r = some (.long res) ∧ w = [])) (h : f_X7_wordOf_64 x2 y0 y1 = some res) : At X 0 0 64 [] [(2, .int x2)] [.int y0, .int y1] := by
  unfold f_X7_wordOf_64 at h
  refine a_ior 65 hC dX7_wordOf_64 rfl ?_
  refine a_iload_n 66 0 hC dX7_wordOf_65 rfl rfl rfl ?_
  refine a_bipush 68 (v := (28 : Int32)) hC dX7_wordOf_66 rfl (by decide) ?_
  refine a_ishl 69 hC dX7_wordOf_68 rfl ?_
  refine a_ior 70 hC dX7_wordOf_69 rfl ?_
  obtain ⟨v7, ev7, h⟩ := nmx h
  refine a_nm ev7 ?_
  refine a_istore 72 [(2, .int x2), (4, .int v7)] [1, 0] hC dX7_wordOf_70 rfl (by decide) rfl ?_
  refine a_iload 74 1 hC dX7_wordOf_72 rfl rfl ?_
  obtain ⟨r8, gr8, h⟩ := bd h
  refine a_call0 77 [.int v7] [] (.int r8) hC (c_J6_bitCount_0f7a4 X.1.2.1 X.2.2.2.1 X.2.2.2.2 v7 r8 gr8) ⟨wq384, wq35, wq386, ds_J6_bitCount_0f7a4, by decide, by decide⟩ wq385 rfl rfl (Nat.le_of_ble_eq_true rfl) dX7_wordOf_74 rfl rfl rfl ⟨(Nat.le_refl _), (Nat.le_refl _)⟩ ?_
  refine a_iconst 78 (v := (2 : Int32)) hC dX7_wordOf_77 rfl (by decide) ?_
  refine a_rem 79 hC dX7_wordOf_78 rfl (by decide) ?_
  obtain ⟨v9, ev9, h⟩ := nmx h
  refine a_nm ev9 ?_
  refine a_istore 81 [(2, .int x2), (4, .int v7), (5, .int v9)] [1, 2, 0] hC dX7_wordOf_79 rfl (by decide) rfl ?_
  refine a_iload 83 1 hC dX7_wordOf_81 rfl rfl ?_
  refine a_iload 85 2 hC dX7_wordOf_83 rfl rfl ?_
  refine a_bipush 87 (v := (27 : Int32)) hC dX7_wordOf_85 rfl (by decide) ?_
  refine a_ishl 88 hC dX7_wordOf_87 rfl ?_
  refine a_ior 89 hC dX7_wordOf_88 rfl ?_
  refine a_i2l 90 hC dX7_wordOf_89 rfl ?_
  refine a_ldc2 93 (v := (4294967295 : Int64)) hC wq390 dX7_wordOf_90 rfl ?_
  refine a_land 94 hC dX7_wordOf_93 rfl ?_
  refine a_ldc2 97 (v := (211089052663808 : Int64)) hC wq391 dX7_wordOf_94 rfl ?_
  refine a_lor 98 hC dX7_wordOf_97 rfl ?_
  obtain rfl := Option.some.inj h
  exact a_lret hC hR ⟨rfl, rfl⟩ (Nat.le_refl _) (Nat.le_refl _) dX7_wordOf_98
def f_X7_wordOf (x1 : Int32) (x2 : Int32) (x3 : Int32) : Option ((Int64)) := ((f_X2_numberOf x1 x2).bind fun r1 => ((f_X7_digits (q_rem r1 (100 : Int32))).bind fun r2 => ((f_X7_digits (q_rem (r1 / (100 : Int32)) (100 : Int32))).bind fun r3 => ((f_X7_digits (q_rem (r1 / (10000 : Int32)) (100 : Int32))).bind fun r4 => ((f_X7_digits (r1 / (1000000 : Int32))).bind fun r5 => (if x1 = (3 : Int32) then (f_X7_wordOf_64 x3 (67108864 : Int32) (((r2 ||| (r3 <<< ((6 : Int32) &&& 31))) ||| (r4 <<< ((13 : Int32) &&& 31))) ||| (r5 <<< ((20 : Int32) &&& 31)))) else (f_X7_wordOf_64 x3 (0 : Int32) (((r2 ||| (r3 <<< ((6 : Int32) &&& 31))) ||| (r4 <<< ((13 : Int32) &&& 31))) ||| (r5 <<< ((20 : Int32) &&& 31))))))))))
set_option maxRecDepth 100000 in
set_option maxHeartbeats 4000000 in
theorem t_X7_wordOf {X : qX} (hC : Ok X rm_X7_wordOf cX7_wordOf 6 RX7 (some .long)) (x1 : Int32) (x2 : Int32) (x3 : Int32) (res : (Int64)) (hR : Rt X 0 0 (fun r w => r = some (.long res) ∧ w = [])) (h : f_X7_wordOf x1 x2 x3 = some res) : At X 0 0 0 [] [(0, .int x1), (1, .int x2), (2, .int x3)] [] := by
  unfold f_X7_wordOf at h
  refine a_iload_n 1 0 hC dX7_wordOf_0 rfl rfl rfl ?_
  refine a_iload_n 2 1 hC dX7_wordOf_1 rfl rfl rfl ?_
  obtain ⟨r1, gr1, h⟩ := bd h
  refine a_call0 5 [.int x1, .int x2] [] (.int r1) hC (c_X2_numberOf X.1.2.1 X.2.2.2.1 X.2.2.2.2 x1 x2 r1 gr1) ⟨wq378, wq33, wq323, ds_X2_numberOf, by decide, by decide⟩ wq322 rfl rfl (Nat.le_of_ble_eq_true rfl) dX7_wordOf_2 rfl rfl rfl ⟨(Nat.le_refl _), (Nat.le_refl _)⟩ ?_
  refine a_istore_n 6 [(0, .int x1), (1, .int x2), (2, .int x3), (3, .int r1)] [1, 2, 3, 0] hC dX7_wordOf_5 rfl rfl (by decide) rfl ?_
  refine a_iload_n 7 3 hC dX7_wordOf_6 rfl rfl rfl ?_
  refine a_bipush 9 (v := (100 : Int32)) hC dX7_wordOf_7 rfl (by decide) ?_
  refine a_rem 10 hC dX7_wordOf_9 rfl (by decide) ?_
  obtain ⟨r2, gr2, h⟩ := bd h
  refine a_call0 13 [.int (q_rem r1 (100 : Int32))] [] (.int r2) hC (c_X7_digits X.1.2.1 X.2.2.2.1 X.2.2.2.2 (q_rem r1 (100 : Int32)) r2 gr2) ⟨wq379, wq34, wq381, ds_X7_digits, by decide, by decide⟩ wq380 rfl rfl (Nat.le_of_ble_eq_true rfl) dX7_wordOf_10 rfl rfl rfl ⟨(Nat.le_refl _), (Nat.le_refl _)⟩ ?_
  refine a_iload_n 14 3 hC dX7_wordOf_13 rfl rfl rfl ?_
  refine a_bipush 16 (v := (100 : Int32)) hC dX7_wordOf_14 rfl (by decide) ?_
  refine a_idiv 17 hC dX7_wordOf_16 rfl (by decide) ?_
  refine a_bipush 19 (v := (100 : Int32)) hC dX7_wordOf_17 rfl (by decide) ?_
  refine a_rem 20 hC dX7_wordOf_19 rfl (by decide) ?_
  obtain ⟨r3, gr3, h⟩ := bd h
  refine a_call0 23 [.int (q_rem (r1 / (100 : Int32)) (100 : Int32))] [.int r2] (.int r3) hC (c_X7_digits X.1.2.1 X.2.2.2.1 X.2.2.2.2 (q_rem (r1 / (100 : Int32)) (100 : Int32)) r3 gr3) ⟨wq379, wq34, wq381, ds_X7_digits, by decide, by decide⟩ wq380 rfl rfl (Nat.le_of_ble_eq_true rfl) dX7_wordOf_20 rfl rfl rfl ⟨(Nat.le_refl _), (Nat.le_refl _)⟩ ?_
  refine a_bipush 25 (v := (6 : Int32)) hC dX7_wordOf_23 rfl (by decide) ?_
  refine a_ishl 26 hC dX7_wordOf_25 rfl ?_
  refine a_ior 27 hC dX7_wordOf_26 rfl ?_
  refine a_iload_n 28 3 hC dX7_wordOf_27 rfl rfl rfl ?_
  refine a_sipush 31 (v := (10000 : Int32)) hC dX7_wordOf_28 rfl (by decide) ?_
  refine a_idiv 32 hC dX7_wordOf_31 rfl (by decide) ?_
  refine a_bipush 34 (v := (100 : Int32)) hC dX7_wordOf_32 rfl (by decide) ?_
  refine a_rem 35 hC dX7_wordOf_34 rfl (by decide) ?_
  obtain ⟨r4, gr4, h⟩ := bd h
  refine a_call0 38 [.int (q_rem (r1 / (10000 : Int32)) (100 : Int32))] [.int (r2 ||| (r3 <<< ((6 : Int32) &&& 31)))] (.int r4) hC (c_X7_digits X.1.2.1 X.2.2.2.1 X.2.2.2.2 (q_rem (r1 / (10000 : Int32)) (100 : Int32)) r4 gr4) ⟨wq379, wq34, wq381, ds_X7_digits, by decide, by decide⟩ wq380 rfl rfl (Nat.le_of_ble_eq_true rfl) dX7_wordOf_35 rfl rfl rfl ⟨(Nat.le_refl _), (Nat.le_refl _)⟩ ?_
  refine a_bipush 40 (v := (13 : Int32)) hC dX7_wordOf_38 rfl (by decide) ?_
  refine a_ishl 41 hC dX7_wordOf_40 rfl ?_
  refine a_ior 42 hC dX7_wordOf_41 rfl ?_
  refine a_iload_n 43 3 hC dX7_wordOf_42 rfl rfl rfl ?_
  refine a_ldc 45 (v := (1000000 : Int32)) hC wq382 dX7_wordOf_43 rfl ?_
  refine a_idiv 46 hC dX7_wordOf_45 rfl (by decide) ?_
  obtain ⟨r5, gr5, h⟩ := bd h
  refine a_call0 49 [.int (r1 / (1000000 : Int32))] [.int ((r2 ||| (r3 <<< ((6 : Int32) &&& 31))) ||| (r4 <<< ((13 : Int32) &&& 31)))] (.int r5) hC (c_X7_digits X.1.2.1 X.2.2.2.1 X.2.2.2.2 (r1 / (1000000 : Int32)) r5 gr5) ⟨wq379, wq34, wq381, ds_X7_digits, by decide, by decide⟩ wq380 rfl rfl (Nat.le_of_ble_eq_true rfl) dX7_wordOf_46 rfl rfl rfl ⟨(Nat.le_refl _), (Nat.le_refl _)⟩ ?_
  refine a_bipush 51 (v := (20 : Int32)) hC dX7_wordOf_49 rfl (by decide) ?_
  refine a_ishl 52 hC dX7_wordOf_51 rfl ?_
  refine a_ior 53 hC dX7_wordOf_52 rfl ?_
  refine a_iload_n 54 0 hC dX7_wordOf_53 rfl rfl rfl ?_
  refine a_iconst 55 (v := (3 : Int32)) hC dX7_wordOf_54 rfl (by decide) ?_
  refine a_icmp_ne 63 58 hC dX7_wordOf_55 (by decide) rfl (fun c6 => ?_) (fun c6 => ?_)
  · have h := ifn c6 h
    refine a_iconst 64 (v := (0 : Int32)) hC dX7_wordOf_63 rfl (by decide) ?_
    refine a_lv [2] [(2, .int x3)] rfl ?_
    exact t_X7_wordOf_64 hC x3 (0 : Int32) (((r2 ||| (r3 <<< ((6 : Int32) &&& 31))) ||| (r4 <<< ((13 : Int32) &&& 31))) ||| (r5 <<< ((20 : Int32) &&& 31))) res hR h
  · have h := ifp c6 h
    refine a_ldc 60 (v := (67108864 : Int32)) hC wq383 dX7_wordOf_58 rfl ?_
    refine a_goto 64 hC dX7_wordOf_60 (by decide) ?_
    refine a_lv [2] [(2, .int x3)] rfl ?_
    exact t_X7_wordOf_64 hC x3 (67108864 : Int32) (((r2 ||| (r3 <<< ((6 : Int32) &&& 31))) ||| (r4 <<< ((13 : Int32) &&& 31))) ||| (r5 <<< ((20 : Int32) &&& 31))) res hR h
theorem c_X7_wordOf (l : Launch) (D : va_G) (z : ClassId × ClassId × ClassId) (x1 : Int32) (x2 : Int32) (x3 : Int32) (res : (Int64)) (h : f_X7_wordOf x1 x2 x3 = some res) : Ct l D z yX7_wordOf cX7_wordOf 6 (some .long) rm_X7_wordOf [.int x1, .int x2, .int x3] [] (fun r w => r = some (.long res) ∧ w = []) := by
  refine Ct.of (by decide +kernel) (Nat.le_of_ble_eq_true rfl) (fun X hC hl hz hn hR => ?_)
  have hz1 : X.2.2.2.2 = z := by rw [hz]
  subst hz1
  exact t_X7_wordOf hC x1 x2 x3 res hR h

/-! X7_numberIn -/
abbrev rm_X7_numberIn : Room := { frames := 1, cells := 0, slots := 0, locals := 20 }
theorem ds_X7_numberIn : yX7_numberIn.cls ≠ "java/lang/invoke/MethodHandle" ∧ yX7_numberIn.cls ≠ "java/lang/invoke/VarHandle" ∧ (parseMethodDescriptor yX7_numberIn.desc).map (fun d => d.parameters.length) = some 2 := by decide +kernel
def f_X7_numberIn_92 (x3 : Int32) (x4 : Int32) (x5 : Int32) (x6 : Int32) (x7 : Int32) (y0 : Int32) (y1 : Int32) : Option ((Int32)) := (if y1 = y0 then (nm (x4 + ((10 : Int32) * ((q_ushr x3 (4 : Int32)) &&& (3 : Int32)))) fun v14 => (nm (x5 + ((10 : Int32) * ((q_ushr x3 (10 : Int32)) &&& (7 : Int32)))) fun v15 => (nm (x6 + ((10 : Int32) * ((q_ushr x3 (17 : Int32)) &&& (7 : Int32)))) fun v16 => (nm (x7 + ((10 : Int32) * ((q_ushr x3 (24 : Int32)) &&& (3 : Int32)))) fun v17 => (some (((((1000000 : Int32) * v17) + ((10000 : Int32) * v16)) + ((100 : Int32) * v15)) + v14)))))) else (some (-9 : Int32)))
set_option maxRecDepth 100000 in
set_option maxHeartbeats 4000000 in
theorem t_X7_numberIn_92 {X : qX} (hC : Ok X rm_X7_numberIn cX7_numberIn 8 RX7 (some .int)) (x3 : Int32) (x4 : Int32) (x5 : Int32) (x6 : Int32) (x7 : Int32) (y0 : Int32) (y1 : Int32) (res : (Int32)) (hR : Rt X 0 0 (fun r w => r = some (.int res) ∧ w = [])) (h : f_X7_numberIn_92 x3 x4 x5 x6 x7 y0 y1 = some res) : At X 0 0 92 [] [(3, .int x3), (4, .int x4), (5, .int x5), (6, .int x6), (7, .int x7)] [.int y0, .int y1] := by
  unfold f_X7_numberIn_92 at h
  refine a_icmp_eq 98 95 hC dX7_numberIn_92 (by decide) rfl (fun c13 => ?_) (fun c13 => ?_)
  · have h := ifp c13 h
    refine a_iload 100 1 hC dX7_numberIn_98 rfl rfl ?_
    refine a_bipush 102 (v := (10 : Int32)) hC dX7_numberIn_100 rfl (by decide) ?_
    refine a_iload_n 103 0 hC dX7_numberIn_102 rfl rfl rfl ?_
    refine a_iconst 104 (v := (4 : Int32)) hC dX7_numberIn_103 rfl (by decide) ?_
    refine a_iushr 105 hC dX7_numberIn_104 rfl ?_
    refine a_iconst 106 (v := (3 : Int32)) hC dX7_numberIn_105 rfl (by decide) ?_
    refine a_iand 107 hC dX7_numberIn_106 rfl ?_
    refine a_imul 108 hC dX7_numberIn_107 rfl ?_
    refine a_iadd 109 hC dX7_numberIn_108 rfl ?_
    obtain ⟨v14, ev14, h⟩ := nmx h
    refine a_nm ev14 ?_
    refine a_istore 111 [(3, .int x3), (4, .int v14), (5, .int x5), (6, .int x6), (7, .int x7)] [1, 0, 2, 3, 4] hC dX7_numberIn_109 rfl (by decide) rfl ?_
    refine a_iload 113 2 hC dX7_numberIn_111 rfl rfl ?_
    refine a_bipush 115 (v := (10 : Int32)) hC dX7_numberIn_113 rfl (by decide) ?_
    refine a_iload_n 116 0 hC dX7_numberIn_115 rfl rfl rfl ?_
    refine a_bipush 118 (v := (10 : Int32)) hC dX7_numberIn_116 rfl (by decide) ?_
    refine a_iushr 119 hC dX7_numberIn_118 rfl ?_
    refine a_bipush 121 (v := (7 : Int32)) hC dX7_numberIn_119 rfl (by decide) ?_
    refine a_iand 122 hC dX7_numberIn_121 rfl ?_
    refine a_imul 123 hC dX7_numberIn_122 rfl ?_
    refine a_iadd 124 hC dX7_numberIn_123 rfl ?_
    obtain ⟨v15, ev15, h⟩ := nmx h
    refine a_nm ev15 ?_
    refine a_istore 126 [(3, .int x3), (4, .int v14), (5, .int v15), (6, .int x6), (7, .int x7)] [1, 2, 0, 3, 4] hC dX7_numberIn_124 rfl (by decide) rfl ?_
    refine a_iload 128 3 hC dX7_numberIn_126 rfl rfl ?_
    refine a_bipush 130 (v := (10 : Int32)) hC dX7_numberIn_128 rfl (by decide) ?_
    refine a_iload_n 131 0 hC dX7_numberIn_130 rfl rfl rfl ?_
    refine a_bipush 133 (v := (17 : Int32)) hC dX7_numberIn_131 rfl (by decide) ?_
    refine a_iushr 134 hC dX7_numberIn_133 rfl ?_
    refine a_bipush 136 (v := (7 : Int32)) hC dX7_numberIn_134 rfl (by decide) ?_
    refine a_iand 137 hC dX7_numberIn_136 rfl ?_
    refine a_imul 138 hC dX7_numberIn_137 rfl ?_
    refine a_iadd 139 hC dX7_numberIn_138 rfl ?_
    obtain ⟨v16, ev16, h⟩ := nmx h
    refine a_nm ev16 ?_
    refine a_istore 141 [(3, .int x3), (4, .int v14), (5, .int v15), (6, .int v16), (7, .int x7)] [1, 2, 3, 0, 4] hC dX7_numberIn_139 rfl (by decide) rfl ?_
    refine a_iload 143 4 hC dX7_numberIn_141 rfl rfl ?_
    refine a_bipush 145 (v := (10 : Int32)) hC dX7_numberIn_143 rfl (by decide) ?_
    refine a_iload_n 146 0 hC dX7_numberIn_145 rfl rfl rfl ?_
    refine a_bipush 148 (v := (24 : Int32)) hC dX7_numberIn_146 rfl (by decide) ?_
    refine a_iushr 149 hC dX7_numberIn_148 rfl ?_
    refine a_iconst 150 (v := (3 : Int32)) hC dX7_numberIn_149 rfl (by decide) ?_
    refine a_iand 151 hC dX7_numberIn_150 rfl ?_
    refine a_imul 152 hC dX7_numberIn_151 rfl ?_
    refine a_iadd 153 hC dX7_numberIn_152 rfl ?_
    obtain ⟨v17, ev17, h⟩ := nmx h
    refine a_nm ev17 ?_
    refine a_istore 155 [(3, .int x3), (4, .int v14), (5, .int v15), (6, .int v16), (7, .int v17)] [1, 2, 3, 4, 0] hC dX7_numberIn_153 rfl (by decide) rfl ?_
    refine a_ldc 157 (v := (1000000 : Int32)) hC wq382 dX7_numberIn_155 rfl ?_
    refine a_iload 159 4 hC dX7_numberIn_157 rfl rfl ?_
    refine a_imul 160 hC dX7_numberIn_159 rfl ?_
    refine a_sipush 163 (v := (10000 : Int32)) hC dX7_numberIn_160 rfl (by decide) ?_
    refine a_iload 165 3 hC dX7_numberIn_163 rfl rfl ?_
    refine a_imul 166 hC dX7_numberIn_165 rfl ?_
    refine a_iadd 167 hC dX7_numberIn_166 rfl ?_
    refine a_bipush 169 (v := (100 : Int32)) hC dX7_numberIn_167 rfl (by decide) ?_
    refine a_iload 171 2 hC dX7_numberIn_169 rfl rfl ?_
    refine a_imul 172 hC dX7_numberIn_171 rfl ?_
    refine a_iadd 173 hC dX7_numberIn_172 rfl ?_
    refine a_iload 175 1 hC dX7_numberIn_173 rfl rfl ?_
    refine a_iadd 176 hC dX7_numberIn_175 rfl ?_
    obtain rfl := Option.some.inj h
    exact a_iret hC hR ⟨rfl, rfl⟩ (Nat.le_refl _) (Nat.le_refl _) dX7_numberIn_176
  · have h := ifn c13 h
    refine a_bipush 97 (v := (-9 : Int32)) hC dX7_numberIn_95 rfl (by decide) ?_
    obtain rfl := Option.some.inj h
    exact a_iret hC hR ⟨rfl, rfl⟩ (Nat.le_refl _) (Nat.le_refl _) dX7_numberIn_97
def f_X7_numberIn (x1 : Int64) (x2 : Int32) : Option ((Int32)) := (nm (Int64.toInt32 x1) fun v1 => (nm (v1 &&& (15 : Int32)) fun v2 => (nm ((q_ushr v1 (6 : Int32)) &&& (15 : Int32)) fun v3 => (nm ((q_ushr v1 (13 : Int32)) &&& (15 : Int32)) fun v4 => (nm ((q_ushr v1 (20 : Int32)) &&& (15 : Int32)) fun v5 => ((f_J6_bitCount_0f7a4 v1).bind fun r6 => (if (q_rem r6 (2 : Int32)) = (0 : Int32) then (if (9 : Int32) < v2 then (some (-9 : Int32)) else (if (9 : Int32) < v3 then (some (-9 : Int32)) else (if (9 : Int32) < v4 then (some (-9 : Int32)) else (if v5 ≤ (9 : Int32) then (if x2 = (3 : Int32) then (f_X7_numberIn_92 v1 v2 v3 v4 v5 (1 : Int32) ((q_ushr v1 (26 : Int32)) &&& (1 : Int32))) else (f_X7_numberIn_92 v1 v2 v3 v4 v5 (0 : Int32) ((q_ushr v1 (26 : Int32)) &&& (1 : Int32)))) else (some (-9 : Int32)))))) else (some (-9 : Int32)))))))))
set_option maxRecDepth 100000 in
set_option maxHeartbeats 4000000 in
theorem t_X7_numberIn {X : qX} (hC : Ok X rm_X7_numberIn cX7_numberIn 8 RX7 (some .int)) (x1 : Int64) (x2 : Int32) (res : (Int32)) (hR : Rt X 0 0 (fun r w => r = some (.int res) ∧ w = [])) (h : f_X7_numberIn x1 x2 = some res) : At X 0 0 0 [] [(0, .long x1), (2, .int x2)] [] := by
  unfold f_X7_numberIn at h
  refine a_lload_n 1 0 hC dX7_numberIn_0 rfl rfl rfl ?_
  refine a_l2i 2 hC dX7_numberIn_1 rfl ?_
  obtain ⟨v1, ev1, h⟩ := nmx h
  refine a_nm ev1 ?_
  refine a_istore_n 3 [(0, .long x1), (2, .int x2), (3, .int v1)] [1, 2, 0] hC dX7_numberIn_2 rfl rfl (by decide) rfl ?_
  refine a_iload_n 4 2 hC dX7_numberIn_3 rfl rfl rfl ?_
  refine a_bipush 6 (v := (15 : Int32)) hC dX7_numberIn_4 rfl (by decide) ?_
  refine a_iand 7 hC dX7_numberIn_6 rfl ?_
  obtain ⟨v2, ev2, h⟩ := nmx h
  refine a_nm ev2 ?_
  refine a_istore 9 [(0, .long x1), (2, .int x2), (3, .int v1), (4, .int v2)] [1, 2, 3, 0] hC dX7_numberIn_7 rfl (by decide) rfl ?_
  refine a_iload_n 10 2 hC dX7_numberIn_9 rfl rfl rfl ?_
  refine a_bipush 12 (v := (6 : Int32)) hC dX7_numberIn_10 rfl (by decide) ?_
  refine a_iushr 13 hC dX7_numberIn_12 rfl ?_
  refine a_bipush 15 (v := (15 : Int32)) hC dX7_numberIn_13 rfl (by decide) ?_
  refine a_iand 16 hC dX7_numberIn_15 rfl ?_
  obtain ⟨v3, ev3, h⟩ := nmx h
  refine a_nm ev3 ?_
  refine a_istore 18 [(0, .long x1), (2, .int x2), (3, .int v1), (4, .int v2), (5, .int v3)] [1, 2, 3, 4, 0] hC dX7_numberIn_16 rfl (by decide) rfl ?_
  refine a_iload_n 19 2 hC dX7_numberIn_18 rfl rfl rfl ?_
  refine a_bipush 21 (v := (13 : Int32)) hC dX7_numberIn_19 rfl (by decide) ?_
  refine a_iushr 22 hC dX7_numberIn_21 rfl ?_
  refine a_bipush 24 (v := (15 : Int32)) hC dX7_numberIn_22 rfl (by decide) ?_
  refine a_iand 25 hC dX7_numberIn_24 rfl ?_
  obtain ⟨v4, ev4, h⟩ := nmx h
  refine a_nm ev4 ?_
  refine a_istore 27 [(0, .long x1), (2, .int x2), (3, .int v1), (4, .int v2), (5, .int v3), (6, .int v4)] [1, 2, 3, 4, 5, 0] hC dX7_numberIn_25 rfl (by decide) rfl ?_
  refine a_iload_n 28 2 hC dX7_numberIn_27 rfl rfl rfl ?_
  refine a_bipush 30 (v := (20 : Int32)) hC dX7_numberIn_28 rfl (by decide) ?_
  refine a_iushr 31 hC dX7_numberIn_30 rfl ?_
  refine a_bipush 33 (v := (15 : Int32)) hC dX7_numberIn_31 rfl (by decide) ?_
  refine a_iand 34 hC dX7_numberIn_33 rfl ?_
  obtain ⟨v5, ev5, h⟩ := nmx h
  refine a_nm ev5 ?_
  refine a_istore 36 [(0, .long x1), (2, .int x2), (3, .int v1), (4, .int v2), (5, .int v3), (6, .int v4), (7, .int v5)] [1, 2, 3, 4, 5, 6, 0] hC dX7_numberIn_34 rfl (by decide) rfl ?_
  refine a_iload_n 37 2 hC dX7_numberIn_36 rfl rfl rfl ?_
  obtain ⟨r6, gr6, h⟩ := bd h
  refine a_call0 40 [.int v1] [] (.int r6) hC (c_J6_bitCount_0f7a4 X.1.2.1 X.2.2.2.1 X.2.2.2.2 v1 r6 gr6) ⟨wq384, wq35, wq386, ds_J6_bitCount_0f7a4, by decide, by decide⟩ wq385 rfl rfl (Nat.le_of_ble_eq_true rfl) dX7_numberIn_37 rfl rfl rfl ⟨(Nat.le_refl _), (Nat.le_refl _)⟩ ?_
  refine a_iconst 41 (v := (2 : Int32)) hC dX7_numberIn_40 rfl (by decide) ?_
  refine a_rem 42 hC dX7_numberIn_41 rfl (by decide) ?_
  refine a_if_ne 73 45 hC dX7_numberIn_42 (by decide) rfl (fun c7 => ?_) (fun c7 => ?_)
  · have h := ifn c7 h
    refine a_bipush 75 (v := (-9 : Int32)) hC dX7_numberIn_73 rfl (by decide) ?_
    obtain rfl := Option.some.inj h
    exact a_iret hC hR ⟨rfl, rfl⟩ (Nat.le_refl _) (Nat.le_refl _) dX7_numberIn_75
  · have h := ifp c7 h
    refine a_iload 47 3 hC dX7_numberIn_45 rfl rfl ?_
    refine a_bipush 49 (v := (9 : Int32)) hC dX7_numberIn_47 rfl (by decide) ?_
    refine a_icmp_gt 73 52 hC dX7_numberIn_49 (by decide) rfl (fun c8 => ?_) (fun c8 => ?_)
    · have h := ifp c8 h
      refine a_bipush 75 (v := (-9 : Int32)) hC dX7_numberIn_73 rfl (by decide) ?_
      obtain rfl := Option.some.inj h
      exact a_iret hC hR ⟨rfl, rfl⟩ (Nat.le_refl _) (Nat.le_refl _) dX7_numberIn_75
    · have h := ifn c8 h
      refine a_iload 54 4 hC dX7_numberIn_52 rfl rfl ?_
      refine a_bipush 56 (v := (9 : Int32)) hC dX7_numberIn_54 rfl (by decide) ?_
      refine a_icmp_gt 73 59 hC dX7_numberIn_56 (by decide) rfl (fun c9 => ?_) (fun c9 => ?_)
      · have h := ifp c9 h
        refine a_bipush 75 (v := (-9 : Int32)) hC dX7_numberIn_73 rfl (by decide) ?_
        obtain rfl := Option.some.inj h
        exact a_iret hC hR ⟨rfl, rfl⟩ (Nat.le_refl _) (Nat.le_refl _) dX7_numberIn_75
      · have h := ifn c9 h
        refine a_iload 61 5 hC dX7_numberIn_59 rfl rfl ?_
        refine a_bipush 63 (v := (9 : Int32)) hC dX7_numberIn_61 rfl (by decide) ?_
        refine a_icmp_gt 73 66 hC dX7_numberIn_63 (by decide) rfl (fun c10 => ?_) (fun c10 => ?_)
        · have h := ifp c10 h
          refine a_bipush 75 (v := (-9 : Int32)) hC dX7_numberIn_73 rfl (by decide) ?_
          obtain rfl := Option.some.inj h
          exact a_iret hC hR ⟨rfl, rfl⟩ (Nat.le_refl _) (Nat.le_refl _) dX7_numberIn_75
        · have h := ifn c10 h
          refine a_iload 68 6 hC dX7_numberIn_66 rfl rfl ?_
          refine a_bipush 70 (v := (9 : Int32)) hC dX7_numberIn_68 rfl (by decide) ?_
          refine a_icmp_le 76 73 hC dX7_numberIn_70 (by decide) rfl (fun c11 => ?_) (fun c11 => ?_)
          · have h := ifp c11 h
            refine a_iload_n 77 2 hC dX7_numberIn_76 rfl rfl rfl ?_
            refine a_bipush 79 (v := (26 : Int32)) hC dX7_numberIn_77 rfl (by decide) ?_
            refine a_iushr 80 hC dX7_numberIn_79 rfl ?_
            refine a_iconst 81 (v := (1 : Int32)) hC dX7_numberIn_80 rfl (by decide) ?_
            refine a_iand 82 hC dX7_numberIn_81 rfl ?_
            refine a_iload_n 83 1 hC dX7_numberIn_82 rfl rfl rfl ?_
            refine a_iconst 84 (v := (3 : Int32)) hC dX7_numberIn_83 rfl (by decide) ?_
            refine a_icmp_ne 91 87 hC dX7_numberIn_84 (by decide) rfl (fun c12 => ?_) (fun c12 => ?_)
            · have h := ifn c12 h
              refine a_iconst 92 (v := (0 : Int32)) hC dX7_numberIn_91 rfl (by decide) ?_
              refine a_lv [2, 3, 4, 5, 6] [(3, .int v1), (4, .int v2), (5, .int v3), (6, .int v4), (7, .int v5)] rfl ?_
              exact t_X7_numberIn_92 hC v1 v2 v3 v4 v5 (0 : Int32) ((q_ushr v1 (26 : Int32)) &&& (1 : Int32)) res hR h
            · have h := ifp c12 h
              refine a_iconst 88 (v := (1 : Int32)) hC dX7_numberIn_87 rfl (by decide) ?_
              refine a_goto 92 hC dX7_numberIn_88 (by decide) ?_
              refine a_lv [2, 3, 4, 5, 6] [(3, .int v1), (4, .int v2), (5, .int v3), (6, .int v4), (7, .int v5)] rfl ?_
              exact t_X7_numberIn_92 hC v1 v2 v3 v4 v5 (1 : Int32) ((q_ushr v1 (26 : Int32)) &&& (1 : Int32)) res hR h
          · have h := ifn c11 h
            refine a_bipush 75 (v := (-9 : Int32)) hC dX7_numberIn_73 rfl (by decide) ?_
            obtain rfl := Option.some.inj h
            exact a_iret hC hR ⟨rfl, rfl⟩ (Nat.le_refl _) (Nat.le_refl _) dX7_numberIn_75
theorem c_X7_numberIn (l : Launch) (D : va_G) (z : ClassId × ClassId × ClassId) (x1 : Int64) (x2 : Int32) (res : (Int32)) (h : f_X7_numberIn x1 x2 = some res) : Ct l D z yX7_numberIn cX7_numberIn 8 (some .int) rm_X7_numberIn [.long x1, .int x2] [] (fun r w => r = some (.int res) ∧ w = []) := by
  refine Ct.of (by decide +kernel) (Nat.le_of_ble_eq_true rfl) (fun X hC hl hz hn hR => ?_)
  have hz1 : X.2.2.2.2 = z := by rw [hz]
  subst hz1
  exact t_X7_numberIn hC x1 x2 res hR h

/-! X7_userIn -/
abbrev rm_X7_userIn : Room := { frames := 0, cells := 0, slots := 0, locals := 0 }
theorem ds_X7_userIn : yX7_userIn.cls ≠ "java/lang/invoke/MethodHandle" ∧ yX7_userIn.cls ≠ "java/lang/invoke/VarHandle" ∧ (parseMethodDescriptor yX7_userIn.desc).map (fun d => d.parameters.length) = some 1 := by decide +kernel
def f_X7_userIn (x1 : Int64) : Option ((Int32)) := (some ((Int64.toInt32 (q_lushr x1 (28 : Int32))) &&& (15 : Int32)))
set_option maxRecDepth 100000 in
set_option maxHeartbeats 4000000 in
theorem t_X7_userIn {X : qX} (hC : Ok X rm_X7_userIn cX7_userIn 2 RX7 (some .int)) (x1 : Int64) (res : (Int32)) (hR : Rt X 0 0 (fun r w => r = some (.int res) ∧ w = [])) (h : f_X7_userIn x1 = some res) : At X 0 0 0 [] [(0, .long x1)] [] := by
  unfold f_X7_userIn at h
  refine a_lload_n 1 0 hC dX7_userIn_0 rfl rfl rfl ?_
  refine a_bipush 3 (v := (28 : Int32)) hC dX7_userIn_1 rfl (by decide) ?_
  refine a_lushr 4 hC dX7_userIn_3 rfl ?_
  refine a_l2i 5 hC dX7_userIn_4 rfl ?_
  refine a_bipush 7 (v := (15 : Int32)) hC dX7_userIn_5 rfl (by decide) ?_
  refine a_iand 8 hC dX7_userIn_7 rfl ?_
  obtain rfl := Option.some.inj h
  exact a_iret hC hR ⟨rfl, rfl⟩ (Nat.le_refl _) (Nat.le_refl _) dX7_userIn_8
theorem c_X7_userIn (l : Launch) (D : va_G) (z : ClassId × ClassId × ClassId) (x1 : Int64) (res : (Int32)) (h : f_X7_userIn x1 = some res) : Ct l D z yX7_userIn cX7_userIn 2 (some .int) rm_X7_userIn [.long x1] [] (fun r w => r = some (.int res) ∧ w = []) := by
  refine Ct.of (by decide +kernel) (Nat.le_of_ble_eq_true rfl) (fun X hC hl hz hn hR => ?_)
  have hz1 : X.2.2.2.2 = z := by rw [hz]
  subst hz1
  exact t_X7_userIn hC x1 res hR h

/-! X7_turned -/
abbrev rm_X7_turned : Room := { frames := 0, cells := 0, slots := 0, locals := 0 }
theorem ds_X7_turned : yX7_turned.cls ≠ "java/lang/invoke/MethodHandle" ∧ yX7_turned.cls ≠ "java/lang/invoke/VarHandle" ∧ (parseMethodDescriptor yX7_turned.desc).map (fun d => d.parameters.length) = some 1 := by decide +kernel
def fb_X7_turned_5 (x0 : Int64) (w : ((Int64) × (Int32))) : Option (((Int64) × (Int32)) ⊕ ((Int64))) := (if (32 : Int32) ≤ w.2 then (some (.inr w.1)) else (nm ((q_lshl w.1 (1 : Int32)) ||| ((q_lushr x0 w.2) &&& (1 : Int64))) fun v2 => (nm (w.2 + (1 : Int32)) fun v3 => (some (.inl (v2, v3))))))
set_option maxRecDepth 100000 in
set_option maxHeartbeats 4000000 in
theorem tb_X7_turned_5 {X : qX} (hC : Ok X rm_X7_turned cX7_turned 5 RX7 (some .long)) (x0 : Int64) (w : ((Int64) × (Int32))) (o : ((Int64) × (Int32)) ⊕ (((Int64)))) (h : fb_X7_turned_5 x0 w = some o) (hk : Sum.elim (fun (w : ((Int64) × (Int32))) => At X 0 0 5 [] [(0, .long x0), (2, .long w.1), (4, .int w.2)] []) (fun (w : (Int64)) => At X 0 0 29 [] [(2, .long w)] []) o) : At X 0 0 5 [] [(0, .long x0), (2, .long w.1), (4, .int w.2)] [] := by
  unfold fb_X7_turned_5 at h
  refine a_iload 7 2 hC dX7_turned_5 rfl rfl ?_
  refine a_bipush 9 (v := (32 : Int32)) hC dX7_turned_7 rfl (by decide) ?_
  refine a_icmp_ge 29 12 hC dX7_turned_9 (by decide) rfl (fun c1 => ?_) (fun c1 => ?_)
  · have h := ifp c1 h
    obtain rfl := Option.some.inj h
    refine a_lv [1] [(2, .long w.1)] rfl ?_
    exact hk
  · have h := ifn c1 h
    refine a_lload_n 13 1 hC dX7_turned_12 rfl rfl rfl ?_
    refine a_iconst 14 (v := (1 : Int32)) hC dX7_turned_13 rfl (by decide) ?_
    refine a_lshl 15 hC dX7_turned_14 rfl ?_
    refine a_lload_n 16 0 hC dX7_turned_15 rfl rfl rfl ?_
    refine a_iload 18 2 hC dX7_turned_16 rfl rfl ?_
    refine a_lushr 19 hC dX7_turned_18 rfl ?_
    refine a_lconst 20 (v := (1 : Int64)) hC dX7_turned_19 rfl (by decide) ?_
    refine a_land 21 hC dX7_turned_20 rfl ?_
    refine a_lor 22 hC dX7_turned_21 rfl ?_
    obtain ⟨v2, ev2, h⟩ := nmx h
    refine a_nml ev2 ?_
    refine a_lstore_n 23 [(0, .long x0), (2, .long v2), (4, .int w.2)] [1, 0, 2] hC dX7_turned_22 rfl rfl (by decide) rfl ?_
    obtain ⟨v3, ev3, h⟩ := nmx h
    refine a_iinc 26 2 [(0, .long x0), (2, .long v2), (4, .int v3)] [1, 2, 0] hC dX7_turned_23 rfl rfl (v := v3) (by rw [ev3]; rfl) (by decide) rfl ?_
    refine a_goto 5 hC dX7_turned_26 (by decide) ?_
    obtain rfl := Option.some.inj h
    exact hk
def f_X7_turned (x1 : Int64) : Option ((Int64)) := ((lp (fb_X7_turned_5 x1) 100000 ((0 : Int64), (0 : Int32))).bind fun r4 => (some r4))
set_option maxRecDepth 100000 in
set_option maxHeartbeats 4000000 in
theorem t_X7_turned {X : qX} (hC : Ok X rm_X7_turned cX7_turned 5 RX7 (some .long)) (x1 : Int64) (res : (Int64)) (hR : Rt X 0 0 (fun r w => r = some (.long res) ∧ w = [])) (h : f_X7_turned x1 = some res) : At X 0 0 0 [] [(0, .long x1)] [] := by
  unfold f_X7_turned at h
  refine a_lconst 1 (v := (0 : Int64)) hC dX7_turned_0 rfl (by decide) ?_
  refine a_lstore_n 2 [(0, .long x1), (2, .long (0 : Int64))] [1, 0] hC dX7_turned_1 rfl rfl (by decide) rfl ?_
  refine a_iconst 3 (v := (0 : Int32)) hC dX7_turned_2 rfl (by decide) ?_
  refine a_istore 5 [(0, .long x1), (2, .long (0 : Int64)), (4, .int (0 : Int32))] [1, 2, 0] hC dX7_turned_3 rfl (by decide) rfl ?_
  obtain ⟨r4, gr4, h⟩ := bd h
  refine lp_walk (Wh := (fun (u5 : ((Int64) × (Int32))) => At X 0 0 5 [] [(0, .long x1), (2, .long u5.1), (4, .int u5.2)] [])) (We := (fun (u5 : (Int64)) => At X 0 0 29 [] [(2, .long u5)] [])) (fun u9 o9 hb9 hk9 => tb_X7_turned_5 hC x1 u9 o9 hb9 hk9) 100000 ((0 : Int64), (0 : Int32)) r4 gr4 ?_
  show At X 0 0 29 [] [(2, .long r4)] []
  refine a_lload_n 30 0 hC dX7_turned_29 rfl rfl rfl ?_
  obtain rfl := Option.some.inj h
  exact a_lret hC hR ⟨rfl, rfl⟩ (Nat.le_refl _) (Nat.le_refl _) dX7_turned_30
theorem c_X7_turned (l : Launch) (D : va_G) (z : ClassId × ClassId × ClassId) (x1 : Int64) (res : (Int64)) (h : f_X7_turned x1 = some res) : Ct l D z yX7_turned cX7_turned 5 (some .long) rm_X7_turned [.long x1] [] (fun r w => r = some (.long res) ∧ w = []) := by
  refine Ct.of (by decide +kernel) (Nat.le_of_ble_eq_true rfl) (fun X hC hl hz hn hR => ?_)
  have hz1 : X.2.2.2.2 = z := by rw [hz]
  subst hz1
  exact t_X7_turned hC x1 res hR h
