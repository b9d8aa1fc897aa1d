/-! X9_day -/
abbrev rm_X9_day : Room := { frames := 2, cells := 0, slots := 0, locals := 40 }
theorem ds_X9_day : yX9_day.cls ≠ "java/lang/invoke/MethodHandle" ∧ yX9_day.cls ≠ "java/lang/invoke/VarHandle" ∧ (parseMethodDescriptor yX9_day.desc).map (fun d => d.parameters.length) = some 0 := by decide +kernel
def f_X9_day (s : Nat → Int32) : Option ((Int32)) := ((f_X9_dayOf (s 0)).bind fun r1 => (some r1))
set_option maxRecDepth 100000 in
set_option maxHeartbeats 4000000 in
theorem t_X9_day {X : qX} (hC : Ok X rm_X9_day cX9_day 1 RX9 (some .int)) (a : Nat → Nat) (thrown : Int32) (s : Nat → Int32) (past : Nat → Int32) (undos : Int32) (kept : Nat → Int32) (isk : Nat → Int32) (seen : Int32) (sn : Nat → Int32) (sf : Nat → Int32) (res : (Int32)) (hR : Rt X 0 0 (fun r w => r = some (.int res) ∧ w = (mdW X.2.2.2.2 a thrown s past undos kept isk seen sn sf))) (h : f_X9_day s = some res) : At X 0 0 0 (mdW X.2.2.2.2 a thrown s past undos kept isk seen sn sf) [(0, .ref (a 0))] [] := by
  unfold f_X9_day at h
  refine a_aload_n 1 0 hC dX9_day_0 rfl rfl rfl ?_
  refine a_get 4 0 7 1 hC inB_X9 rfl rfl (by decide) wq601 rfl rfl dX9_day_1 rfl ?_
  refine a_iconst 5 (v := (0 : Int32)) hC dX9_day_4 rfl (by decide) ?_
  refine a_ialdc 6 1 0 hC rfl rfl (vp_inc (by decide)) dX9_day_5 rfl ?_
  obtain ⟨r1, gr1, h⟩ := bd h
  refine a_call0 9 [.int (s 0)] [] (.int r1) hC (c_X9_dayOf X.1.2.1 X.2.2.2.1 X.2.2.2.2 (s 0) r1 gr1) ⟨wq641, wq30, wq643, ds_X9_dayOf, by decide, by decide⟩ wq642 rfl rfl (Nat.le_of_ble_eq_true rfl) dX9_day_6 rfl rfl rfl ⟨(Nat.le_refl _), (Nat.le_refl _)⟩ ?_
  obtain rfl := Option.some.inj h
  exact a_iret hC hR ⟨rfl, rfl⟩ (Nat.le_refl _) (Nat.le_refl _) dX9_day_9
theorem c_X9_day (l : Launch) (D : va_G) (z : ClassId × ClassId × ClassId) (a : Nat → Nat) (thrown : Int32) (s : Nat → Int32) (past : Nat → Int32) (undos : Int32) (kept : Nat → Int32) (isk : Nat → Int32) (seen : Int32) (sn : Nat → Int32) (sf : Nat → Int32) (res : (Int32)) (h : f_X9_day s = some res) : Ct l D z yX9_day cX9_day 1 (some .int) rm_X9_day [.ref (a 0)] (mdW z a thrown s past undos kept isk seen sn sf) (fun r w => r = some (.int res) ∧ w = (mdW z a thrown s past undos kept isk seen sn sf)) := by
  refine Ct.of (by decide +kernel) (Nat.le_of_ble_eq_true rfl) (fun X hC hl hz hn hR => ?_)
  have hz1 : X.2.2.2.2 = z := by rw [hz]
  subst hz1
  exact t_X9_day hC a thrown s past undos kept isk seen sn sf res hR h

/-! X9_around -/
abbrev rm_X9_around : Room := { frames := 3, cells := 0, slots := 0, locals := 60 }
theorem ds_X9_around : yX9_around.cls ≠ "java/lang/invoke/MethodHandle" ∧ yX9_around.cls ≠ "java/lang/invoke/VarHandle" ∧ (parseMethodDescriptor yX9_around.desc).map (fun d => d.parameters.length) = some 1 := by decide +kernel
def f_X9_around (x1 : Int32) (s : Nat → Int32) : Option ((Int32)) := ((f_X9_day s).bind fun r1 => (dv r1 (nm (q_rem x1 r1) fun v3 => (if (0 : Int32) ≤ v3 then (some v3) else ((f_X9_day s).bind fun r5 => (some (v3 + r5)))))))
set_option maxRecDepth 100000 in
set_option maxHeartbeats 4000000 in
theorem t_X9_around {X : qX} (hC : Ok X rm_X9_around cX9_around 3 RX9 (some .int)) (a : Nat → Nat) (x1 : Int32) (thrown : Int32) (s : Nat → Int32) (past : Nat → Int32) (undos : Int32) (kept : Nat → Int32) (isk : Nat → Int32) (seen : Int32) (sn : Nat → Int32) (sf : Nat → Int32) (res : (Int32)) (hR : Rt X 0 0 (fun r w => r = some (.int res) ∧ w = (mdW X.2.2.2.2 a thrown s past undos kept isk seen sn sf))) (h : f_X9_around x1 s = some res) : At X 0 0 0 (mdW X.2.2.2.2 a thrown s past undos kept isk seen sn sf) [(0, .ref (a 0)), (1, .int x1)] [] := by
  unfold f_X9_around at h
  refine a_iload_n 1 1 hC dX9_around_0 rfl rfl rfl ?_
  refine a_aload_n 2 0 hC dX9_around_1 rfl rfl rfl ?_
  obtain ⟨r1, gr1, h⟩ := bd h
  refine a_callVs 5 (mdW X.2.2.2.2 a thrown s past undos kept isk seen sn sf) 0 7 [] [.int x1] (some (.int r1)) [.int r1, .int x1] hC (c_X9_day X.1.2.1 X.2.2.2.1 X.2.2.2.2 a thrown s past undos kept isk seen sn sf r1 gr1) ⟨wq637, wq30, wq640, ds_X9_day, by decide, by decide⟩ wq639 wq7 rfl rfl (Nat.le_of_ble_eq_true rfl) dX9_around_2 rfl rfl rfl ⟨(Nat.le_refl _), (Nat.le_refl _)⟩ rfl rfl rfl ?_
  obtain ⟨n2, h⟩ := dvx h
  refine a_rem 6 hC dX9_around_5 rfl n2 ?_
  obtain ⟨v3, ev3, h⟩ := nmx h
  refine a_nm ev3 ?_
  refine a_istore_n 7 [(0, .ref (a 0)), (1, .int x1), (2, .int v3)] [1, 2, 0] hC dX9_around_6 rfl rfl (by decide) rfl ?_
  refine a_iload_n 8 2 hC dX9_around_7 rfl rfl rfl ?_
  refine a_if_ge 20 11 hC dX9_around_8 (by decide) rfl (fun c4 => ?_) (fun c4 => ?_)
  · have h := ifp c4 h
    refine a_iload_n 21 2 hC dX9_around_20 rfl rfl rfl ?_
    obtain rfl := Option.some.inj h
    exact a_iret hC hR ⟨rfl, rfl⟩ (Nat.le_refl _) (Nat.le_refl _) dX9_around_21
  · have h := ifn c4 h
    refine a_iload_n 12 2 hC dX9_around_11 rfl rfl rfl ?_
    refine a_aload_n 13 0 hC dX9_around_12 rfl rfl rfl ?_
    obtain ⟨r5, gr5, h⟩ := bd h
    refine a_callVs 16 (mdW X.2.2.2.2 a thrown s past undos kept isk seen sn sf) 0 7 [] [.int v3] (some (.int r5)) [.int r5, .int v3] hC (c_X9_day X.1.2.1 X.2.2.2.1 X.2.2.2.2 a thrown s past undos kept isk seen sn sf r5 gr5) ⟨wq637, wq30, wq640, ds_X9_day, by decide, by decide⟩ wq639 wq7 rfl rfl (Nat.le_of_ble_eq_true rfl) dX9_around_13 rfl rfl rfl ⟨(Nat.le_refl _), (Nat.le_refl _)⟩ rfl rfl rfl ?_
    refine a_iadd 17 hC dX9_around_16 rfl ?_
    refine a_goto 21 hC dX9_around_17 (by decide) ?_
    obtain rfl := Option.some.inj h
    exact a_iret hC hR ⟨rfl, rfl⟩ (Nat.le_refl _) (Nat.le_refl _) dX9_around_21
theorem c_X9_around (l : Launch) (D : va_G) (z : ClassId × ClassId × ClassId) (a : Nat → Nat) (x1 : Int32) (thrown : Int32) (s : Nat → Int32) (past : Nat → Int32) (undos : Int32) (kept : Nat → Int32) (isk : Nat → Int32) (seen : Int32) (sn : Nat → Int32) (sf : Nat → Int32) (res : (Int32)) (h : f_X9_around x1 s = some res) : Ct l D z yX9_around cX9_around 3 (some .int) rm_X9_around [.ref (a 0), .int x1] (mdW z a thrown s past undos kept isk seen sn sf) (fun r w => r = some (.int res) ∧ w = (mdW z a thrown s past undos kept isk seen sn sf)) := by
  refine Ct.of (by decide +kernel) (Nat.le_of_ble_eq_true rfl) (fun X hC hl hz hn hR => ?_)
  have hz1 : X.2.2.2.2 = z := by rw [hz]
  subst hz1
  exact t_X9_around hC a x1 thrown s past undos kept isk seen sn sf res hR h

/-! X9_isFrame -/
abbrev rm_X9_isFrame : Room := { frames := 3, cells := 0, slots := 0, locals := 60 }
theorem ds_X9_isFrame : yX9_isFrame.cls ≠ "java/lang/invoke/MethodHandle" ∧ yX9_isFrame.cls ≠ "java/lang/invoke/VarHandle" ∧ (parseMethodDescriptor yX9_isFrame.desc).map (fun d => d.parameters.length) = some 1 := by decide +kernel
def f_X9_isFrame (x1 : Int32) (s : Nat → Int32) : Option ((Int32)) := ((f_X9_day s).bind fun r1 => ((f_X9_in x1 (0 : Int32) (r1 - (1 : Int32))).bind fun r2 => (bl r2 (some r2))))
set_option maxRecDepth 100000 in
set_option maxHeartbeats 4000000 in
theorem t_X9_isFrame {X : qX} (hC : Ok X rm_X9_isFrame cX9_isFrame 2 RX9 (some .boolean)) (a : Nat → Nat) (x1 : Int32) (thrown : Int32) (s : Nat → Int32) (past : Nat → Int32) (undos : Int32) (kept : Nat → Int32) (isk : Nat → Int32) (seen : Int32) (sn : Nat → Int32) (sf : Nat → Int32) (res : (Int32)) (hR : Rt X 0 0 (fun r w => r = some (.int res) ∧ w = (mdW X.2.2.2.2 a thrown s past undos kept isk seen sn sf))) (h : f_X9_isFrame x1 s = some res) : At X 0 0 0 (mdW X.2.2.2.2 a thrown s past undos kept isk seen sn sf) [(0, .ref (a 0)), (1, .int x1)] [] := by
  unfold f_X9_isFrame at h
  refine a_iload_n 1 1 hC dX9_isFrame_0 rfl rfl rfl ?_
  refine a_iconst 2 (v := (0 : Int32)) hC dX9_isFrame_1 rfl (by decide) ?_
  refine a_aload_n 3 0 hC dX9_isFrame_2 rfl rfl rfl ?_
  obtain ⟨r1, gr1, h⟩ := bd h
  refine a_callVs 6 (mdW X.2.2.2.2 a thrown s past undos kept isk seen sn sf) 0 7 [] [.int (0 : Int32), .int x1] (some (.int r1)) [.int r1, .int (0 : Int32), .int x1] hC (c_X9_day X.1.2.1 X.2.2.2.1 X.2.2.2.2 a thrown s past undos kept isk seen sn sf r1 gr1) ⟨wq637, wq30, wq640, ds_X9_day, by decide, by decide⟩ wq639 wq7 rfl rfl (Nat.le_of_ble_eq_true rfl) dX9_isFrame_3 rfl rfl rfl ⟨(Nat.le_refl _), (Nat.le_refl _)⟩ rfl rfl rfl ?_
  refine a_iconst 7 (v := (1 : Int32)) hC dX9_isFrame_6 rfl (by decide) ?_
  refine a_isub 8 hC dX9_isFrame_7 rfl ?_
  obtain ⟨r2, gr2, h⟩ := bd h
  refine a_call0 11 [.int x1, .int (0 : Int32), .int (r1 - (1 : Int32))] [] (.int r2) hC (c_X9_in X.1.2.1 X.2.2.2.1 X.2.2.2.2 x1 (0 : Int32) (r1 - (1 : Int32)) r2 gr2) ⟨wq649, wq30, wq651, ds_X9_in, by decide, by decide⟩ wq650 rfl rfl (Nat.le_of_ble_eq_true rfl) dX9_isFrame_8 rfl rfl rfl ⟨(Nat.le_refl _), (Nat.le_refl _)⟩ ?_
  obtain ⟨nb, h⟩ := blx h
  obtain rfl := Option.some.inj h
  exact a_zret hC hR ⟨rfl, rfl⟩ nb (Nat.le_refl _) (Nat.le_refl _) dX9_isFrame_11
theorem c_X9_isFrame (l : Launch) (D : va_G) (z : ClassId × ClassId × ClassId) (a : Nat → Nat) (x1 : Int32) (thrown : Int32) (s : Nat → Int32) (past : Nat → Int32) (undos : Int32) (kept : Nat → Int32) (isk : Nat → Int32) (seen : Int32) (sn : Nat → Int32) (sf : Nat → Int32) (res : (Int32)) (h : f_X9_isFrame x1 s = some res) : Ct l D z yX9_isFrame cX9_isFrame 2 (some .boolean) rm_X9_isFrame [.ref (a 0), .int x1] (mdW z a thrown s past undos kept isk seen sn sf) (fun r w => r = some (.int res) ∧ w = (mdW z a thrown s past undos kept isk seen sn sf)) := by
  refine Ct.of (by decide +kernel) (Nat.le_of_ble_eq_true rfl) (fun X hC hl hz hn hR => ?_)
  have hz1 : X.2.2.2.2 = z := by rw [hz]
  subst hz1
  exact t_X9_isFrame hC a x1 thrown s past undos kept isk seen sn sf res hR h

/-! X9_number -/
abbrev rm_X9_number : Room := { frames := 4, cells := 0, slots := 0, locals := 81 }
theorem ds_X9_number : yX9_number.cls ≠ "java/lang/invoke/MethodHandle" ∧ yX9_number.cls ≠ "java/lang/invoke/VarHandle" ∧ (parseMethodDescriptor yX9_number.desc).map (fun d => d.parameters.length) = some 1 := by decide +kernel
def f_X9_number (x1 : Int32) (thrown : Int32) (s : Nat → Int32) : Option ((Int32) × (Int32)) := ((f_X9_isFrame x1 s).bind fun r1 => (if r1 = (0 : Int32) then (some ((-1 : Int32), (0 : Int32))) else ((f_X9_numberOf (s 0) x1).bind fun r3 => (some (r3, (0 : Int32))))))
set_option maxRecDepth 100000 in
set_option maxHeartbeats 4000000 in
theorem t_X9_number {X : qX} (hC : Ok X rm_X9_number cX9_number 2 RX9 (some .int)) (a : Nat → Nat) (x1 : Int32) (thrown : Int32) (s : Nat → Int32) (past : Nat → Int32) (undos : Int32) (kept : Nat → Int32) (isk : Nat → Int32) (seen : Int32) (sn : Nat → Int32) (sf : Nat → Int32) (res : (Int32) × (Int32)) (hR : Rt X 0 0 (fun r w => r = some (.int res.1) ∧ w = (mdW X.2.2.2.2 a res.2 s past undos kept isk seen sn sf))) (h : f_X9_number x1 thrown s = some res) : At X 0 0 0 (mdW X.2.2.2.2 a thrown s past undos kept isk seen sn sf) [(0, .ref (a 0)), (1, .int x1)] [] := by
  unfold f_X9_number at h
  refine a_aload_n 1 0 hC dX9_number_0 rfl rfl rfl ?_
  refine a_iconst 2 (v := (0 : Int32)) hC dX9_number_1 rfl (by decide) ?_
  refine a_put 5 0 7 0 (mdW X.2.2.2.2 a (0 : Int32) s past undos kept isk seen sn sf) tyX9 hC inB_X9 tyX9_ok nmX9 rfl rfl (by decide) wq600 rfl rfl rfl rfl rfl (Nat.le_of_ble_eq_true rfl) dX9_number_2 rfl rfl ?_
  refine a_aload_n 6 0 hC dX9_number_5 rfl rfl rfl ?_
  refine a_iload_n 7 1 hC dX9_number_6 rfl rfl rfl ?_
  obtain ⟨r1, gr1, h⟩ := bd h
  refine a_callVs 10 (mdW X.2.2.2.2 a (0 : Int32) s past undos kept isk seen sn sf) 0 7 [.int x1] [] (some (.int r1)) [.int r1] hC (c_X9_isFrame X.1.2.1 X.2.2.2.1 X.2.2.2.2 a x1 (0 : Int32) s past undos kept isk seen sn sf r1 gr1) ⟨wq633, wq30, wq636, ds_X9_isFrame, by decide, by decide⟩ wq635 wq6 rfl rfl (Nat.le_of_ble_eq_true rfl) dX9_number_7 rfl rfl rfl ⟨(Nat.le_refl _), (Nat.le_refl _)⟩ rfl rfl rfl ?_
  refine a_if_eq 26 13 hC dX9_number_10 (by decide) rfl (fun c2 => ?_) (fun c2 => ?_)
  · have h := ifp c2 h
    refine a_iconst 27 (v := (-1 : Int32)) hC dX9_number_26 rfl (by decide) ?_
    obtain rfl := Option.some.inj h
    exact a_iret hC hR ⟨rfl, rfl⟩ (Nat.le_refl _) (Nat.le_refl _) dX9_number_27
  · have h := ifn c2 h
    refine a_aload_n 14 0 hC dX9_number_13 rfl rfl rfl ?_
    refine a_get 17 0 7 1 hC inB_X9 rfl rfl (by decide) wq601 rfl rfl dX9_number_14 rfl ?_
    refine a_iconst 18 (v := (0 : Int32)) hC dX9_number_17 rfl (by decide) ?_
    refine a_ialdc 19 1 0 hC rfl rfl (vp_inc (by decide)) dX9_number_18 rfl ?_
    refine a_iload_n 20 1 hC dX9_number_19 rfl rfl rfl ?_
    obtain ⟨r3, gr3, h⟩ := bd h
    refine a_call0 23 [.int (s 0), .int x1] [] (.int r3) hC (c_X9_numberOf X.1.2.1 X.2.2.2.1 X.2.2.2.2 (s 0) x1 r3 gr3) ⟨wq652, wq30, wq654, ds_X9_numberOf, by decide, by decide⟩ wq653 rfl rfl (Nat.le_of_ble_eq_true rfl) dX9_number_20 rfl rfl rfl ⟨(Nat.le_refl _), (Nat.le_refl _)⟩ ?_
    refine a_goto 27 hC dX9_number_23 (by decide) ?_
    obtain rfl := Option.some.inj h
    exact a_iret hC hR ⟨rfl, rfl⟩ (Nat.le_refl _) (Nat.le_refl _) dX9_number_27
theorem c_X9_number (l : Launch) (D : va_G) (z : ClassId × ClassId × ClassId) (a : Nat → Nat) (x1 : Int32) (thrown : Int32) (s : Nat → Int32) (past : Nat → Int32) (undos : Int32) (kept : Nat → Int32) (isk : Nat → Int32) (seen : Int32) (sn : Nat → Int32) (sf : Nat → Int32) (res : (Int32) × (Int32)) (h : f_X9_number x1 thrown s = some res) : Ct l D z yX9_number cX9_number 2 (some .int) rm_X9_number [.ref (a 0), .int x1] (mdW z a thrown s past undos kept isk seen sn sf) (fun r w => r = some (.int res.1) ∧ w = (mdW z a res.2 s past undos kept isk seen sn sf)) := by
  refine Ct.of (by decide +kernel) (Nat.le_of_ble_eq_true rfl) (fun X hC hl hz hn hR => ?_)
  have hz1 : X.2.2.2.2 = z := by rw [hz]
  subst hz1
  exact t_X9_number hC a x1 thrown s past undos kept isk seen sn sf res hR h

/-! X9_frame -/
abbrev rm_X9_frame : Room := { frames := 2, cells := 0, slots := 0, locals := 47 }
theorem ds_X9_frame : yX9_frame.cls ≠ "java/lang/invoke/MethodHandle" ∧ yX9_frame.cls ≠ "java/lang/invoke/VarHandle" ∧ (parseMethodDescriptor yX9_frame.desc).map (fun d => d.parameters.length) = some 1 := by decide +kernel
def f_X9_frame (x1 : Int32) (thrown : Int32) (s : Nat → Int32) : Option ((Int32) × (Int32)) := ((f_X9_in x1 (0 : Int32) (23595999 : Int32)).bind fun r1 => (if r1 = (0 : Int32) then (some ((-1 : Int32), (0 : Int32))) else ((f_X9_frameOf (s 0) x1).bind fun r3 => (some (r3, (0 : Int32))))))
set_option maxRecDepth 100000 in
set_option maxHeartbeats 4000000 in
theorem t_X9_frame {X : qX} (hC : Ok X rm_X9_frame cX9_frame 2 RX9 (some .int)) (a : Nat → Nat) (x1 : Int32) (thrown : Int32) (s : Nat → Int32) (past : Nat → Int32) (undos : Int32) (kept : Nat → Int32) (isk : Nat → Int32) (seen : Int32) (sn : Nat → Int32) (sf : Nat → Int32) (res : (Int32) × (Int32)) (hR : Rt X 0 0 (fun r w => r = some (.int res.1) ∧ w = (mdW X.2.2.2.2 a res.2 s past undos kept isk seen sn sf))) (h : f_X9_frame x1 thrown s = some res) : At X 0 0 0 (mdW X.2.2.2.2 a thrown s past undos kept isk seen sn sf) [(0, .ref (a 0)), (1, .int x1)] [] := by
  unfold f_X9_frame at h
  refine a_aload_n 1 0 hC dX9_frame_0 rfl rfl rfl ?_
  refine a_iconst 2 (v := (0 : Int32)) hC dX9_frame_1 rfl (by decide) ?_
  refine a_put 5 0 7 0 (mdW X.2.2.2.2 a (0 : Int32) s past undos kept isk seen sn sf) tyX9 hC inB_X9 tyX9_ok nmX9 rfl rfl (by decide) wq600 rfl rfl rfl rfl rfl (Nat.le_of_ble_eq_true rfl) dX9_frame_2 rfl rfl ?_
  refine a_iload_n 6 1 hC dX9_frame_5 rfl rfl rfl ?_
  refine a_iconst 7 (v := (0 : Int32)) hC dX9_frame_6 rfl (by decide) ?_
  refine a_ldc 9 (v := (23595999 : Int32)) hC wq663 dX9_frame_7 rfl ?_
  obtain ⟨r1, gr1, h⟩ := bd h
  refine a_call0 12 [.int x1, .int (0 : Int32), .int (23595999 : Int32)] [] (.int r1) hC (c_X9_in X.1.2.1 X.2.2.2.1 X.2.2.2.2 x1 (0 : Int32) (23595999 : Int32) r1 gr1) ⟨wq649, wq30, wq651, ds_X9_in, by decide, by decide⟩ wq650 rfl rfl (Nat.le_of_ble_eq_true rfl) dX9_frame_9 rfl rfl rfl ⟨(Nat.le_refl _), (Nat.le_refl _)⟩ ?_
  refine a_if_eq 28 15 hC dX9_frame_12 (by decide) rfl (fun c2 => ?_) (fun c2 => ?_)
  · have h := ifp c2 h
    refine a_iconst 29 (v := (-1 : Int32)) hC dX9_frame_28 rfl (by decide) ?_
    obtain rfl := Option.some.inj h
    exact a_iret hC hR ⟨rfl, rfl⟩ (Nat.le_refl _) (Nat.le_refl _) dX9_frame_29
  · have h := ifn c2 h
    refine a_aload_n 16 0 hC dX9_frame_15 rfl rfl rfl ?_
    refine a_get 19 0 7 1 hC inB_X9 rfl rfl (by decide) wq601 rfl rfl dX9_frame_16 rfl ?_
    refine a_iconst 20 (v := (0 : Int32)) hC dX9_frame_19 rfl (by decide) ?_
    refine a_ialdc 21 1 0 hC rfl rfl (vp_inc (by decide)) dX9_frame_20 rfl ?_
    refine a_iload_n 22 1 hC dX9_frame_21 rfl rfl rfl ?_
    obtain ⟨r3, gr3, h⟩ := bd h
    refine a_call0 25 [.int (s 0), .int x1] [] (.int r3) hC (c_X9_frameOf X.1.2.1 X.2.2.2.1 X.2.2.2.2 (s 0) x1 r3 gr3) ⟨wq664, wq30, wq666, ds_X9_frameOf, by decide, by decide⟩ wq665 rfl rfl (Nat.le_of_ble_eq_true rfl) dX9_frame_22 rfl rfl rfl ⟨(Nat.le_refl _), (Nat.le_refl _)⟩ ?_
    refine a_goto 29 hC dX9_frame_25 (by decide) ?_
    obtain rfl := Option.some.inj h
    exact a_iret hC hR ⟨rfl, rfl⟩ (Nat.le_refl _) (Nat.le_refl _) dX9_frame_29
theorem c_X9_frame (l : Launch) (D : va_G) (z : ClassId × ClassId × ClassId) (a : Nat → Nat) (x1 : Int32) (thrown : Int32) (s : Nat → Int32) (past : Nat → Int32) (undos : Int32) (kept : Nat → Int32) (isk : Nat → Int32) (seen : Int32) (sn : Nat → Int32) (sf : Nat → Int32) (res : (Int32) × (Int32)) (h : f_X9_frame x1 thrown s = some res) : Ct l D z yX9_frame cX9_frame 2 (some .int) rm_X9_frame [.ref (a 0), .int x1] (mdW z a thrown s past undos kept isk seen sn sf) (fun r w => r = some (.int res.1) ∧ w = (mdW z a res.2 s past undos kept isk seen sn sf)) := by
  refine Ct.of (by decide +kernel) (Nat.le_of_ble_eq_true rfl) (fun X hC hl hz hn hR => ?_)
  have hz1 : X.2.2.2.2 = z := by rw [hz]
  subst hz1
  exact t_X9_frame hC a x1 thrown s past undos kept isk seen sn sf res hR h

/-! X9_dropped -/
abbrev rm_X9_dropped : Room := { frames := 4, cells := 0, slots := 0, locals := 81 }
theorem ds_X9_dropped : yX9_dropped.cls ≠ "java/lang/invoke/MethodHandle" ∧ yX9_dropped.cls ≠ "java/lang/invoke/VarHandle" ∧ (parseMethodDescriptor yX9_dropped.desc).map (fun d => d.parameters.length) = some 2 := by decide +kernel
def f_X9_dropped (x1 : Int32) (x2 : Int32) (thrown : Int32) (s : Nat → Int32) : Option ((Int32) × (Int32)) := ((f_X9_isFrame x1 s).bind fun r1 => (if r1 = (0 : Int32) then (some ((-1 : Int32), (0 : Int32))) else ((f_X9_isFrame x2 s).bind fun r3 => (if r3 = (0 : Int32) then (some ((-1 : Int32), (0 : Int32))) else ((f_X9_rank (s 0) x2).bind fun r5 => ((f_X9_rank (s 0) x1).bind fun r6 => (nm ((r5 - x2) - (r6 - x1)) fun v7 => (if x1 ≤ x2 then (some (v7, (0 : Int32))) else (if (s 0) = (3 : Int32) then (some ((v7 + (2592 : Int32)), (0 : Int32))) else (some (v7, (0 : Int32))))))))))))
set_option maxRecDepth 100000 in
set_option maxHeartbeats 4000000 in
theorem t_X9_dropped {X : qX} (hC : Ok X rm_X9_dropped cX9_dropped 4 RX9 (some .int)) (a : Nat → Nat) (x1 : Int32) (x2 : Int32) (thrown : Int32) (s : Nat → Int32) (past : Nat → Int32) (undos : Int32) (kept : Nat → Int32) (isk : Nat → Int32) (seen : Int32) (sn : Nat → Int32) (sf : Nat → Int32) (res : (Int32) × (Int32)) (hR : Rt X 0 0 (fun r w => r = some (.int res.1) ∧ w = (mdW X.2.2.2.2 a res.2 s past undos kept isk seen sn sf))) (h : f_X9_dropped x1 x2 thrown s = some res) : At X 0 0 0 (mdW X.2.2.2.2 a thrown s past undos kept isk seen sn sf) [(0, .ref (a 0)), (1, .int x1), (2, .int x2)] [] := by
  unfold f_X9_dropped at h
  refine a_aload_n 1 0 hC dX9_dropped_0 rfl rfl rfl ?_
  refine a_iconst 2 (v := (0 : Int32)) hC dX9_dropped_1 rfl (by decide) ?_
  refine a_put 5 0 7 0 (mdW X.2.2.2.2 a (0 : Int32) s past undos kept isk seen sn sf) tyX9 hC inB_X9 tyX9_ok nmX9 rfl rfl (by decide) wq600 rfl rfl rfl rfl rfl (Nat.le_of_ble_eq_true rfl) dX9_dropped_2 rfl rfl ?_
  refine a_aload_n 6 0 hC dX9_dropped_5 rfl rfl rfl ?_
  refine a_iload_n 7 1 hC dX9_dropped_6 rfl rfl rfl ?_
  obtain ⟨r1, gr1, h⟩ := bd h
  refine a_callVs 10 (mdW X.2.2.2.2 a (0 : Int32) s past undos kept isk seen sn sf) 0 7 [.int x1] [] (some (.int r1)) [.int r1] hC (c_X9_isFrame X.1.2.1 X.2.2.2.1 X.2.2.2.2 a x1 (0 : Int32) s past undos kept isk seen sn sf r1 gr1) ⟨wq633, wq30, wq636, ds_X9_isFrame, by decide, by decide⟩ wq635 wq6 rfl rfl (Nat.le_of_ble_eq_true rfl) dX9_dropped_7 rfl rfl rfl ⟨(Nat.le_refl _), (Nat.le_refl _)⟩ rfl rfl rfl ?_
  refine a_if_eq 21 13 hC dX9_dropped_10 (by decide) rfl (fun c2 => ?_) (fun c2 => ?_)
  · have h := ifp c2 h
    refine a_iconst 22 (v := (-1 : Int32)) hC dX9_dropped_21 rfl (by decide) ?_
    obtain rfl := Option.some.inj h
    exact a_iret hC hR ⟨rfl, rfl⟩ (Nat.le_refl _) (Nat.le_refl _) dX9_dropped_22
  · have h := ifn c2 h
    refine a_aload_n 14 0 hC dX9_dropped_13 rfl rfl rfl ?_
    refine a_iload_n 15 2 hC dX9_dropped_14 rfl rfl rfl ?_
    obtain ⟨r3, gr3, h⟩ := bd h
    refine a_callVs 18 (mdW X.2.2.2.2 a (0 : Int32) s past undos kept isk seen sn sf) 0 7 [.int x2] [] (some (.int r3)) [.int r3] hC (c_X9_isFrame X.1.2.1 X.2.2.2.1 X.2.2.2.2 a x2 (0 : Int32) s past undos kept isk seen sn sf r3 gr3) ⟨wq633, wq30, wq636, ds_X9_isFrame, by decide, by decide⟩ wq635 wq6 rfl rfl (Nat.le_of_ble_eq_true rfl) dX9_dropped_15 rfl rfl rfl ⟨(Nat.le_refl _), (Nat.le_refl _)⟩ rfl rfl rfl ?_
    refine a_if_ne 23 21 hC dX9_dropped_18 (by decide) rfl (fun c4 => ?_) (fun c4 => ?_)
    · have h := ifn c4 h
      refine a_aload_n 24 0 hC dX9_dropped_23 rfl rfl rfl ?_
      refine a_get 27 0 7 1 hC inB_X9 rfl rfl (by decide) wq601 rfl rfl dX9_dropped_24 rfl ?_
      refine a_iconst 28 (v := (0 : Int32)) hC dX9_dropped_27 rfl (by decide) ?_
      refine a_ialdc 29 1 0 hC rfl rfl (vp_inc (by decide)) dX9_dropped_28 rfl ?_
      refine a_iload_n 30 2 hC dX9_dropped_29 rfl rfl rfl ?_
      obtain ⟨r5, gr5, h⟩ := bd h
      refine a_call0 33 [.int (s 0), .int x2] [] (.int r5) hC (c_X9_rank X.1.2.1 X.2.2.2.1 X.2.2.2.2 (s 0) x2 r5 gr5) ⟨wq655, wq30, wq657, ds_X9_rank, by decide, by decide⟩ wq656 rfl rfl (Nat.le_of_ble_eq_true rfl) dX9_dropped_30 rfl rfl rfl ⟨(Nat.le_refl _), (Nat.le_refl _)⟩ ?_
      refine a_iload_n 34 2 hC dX9_dropped_33 rfl rfl rfl ?_
      refine a_isub 35 hC dX9_dropped_34 rfl ?_
      refine a_aload_n 36 0 hC dX9_dropped_35 rfl rfl rfl ?_
      refine a_get 39 0 7 1 hC inB_X9 rfl rfl (by decide) wq601 rfl rfl dX9_dropped_36 rfl ?_
      refine a_iconst 40 (v := (0 : Int32)) hC dX9_dropped_39 rfl (by decide) ?_
      refine a_ialdc 41 1 0 hC rfl rfl (vp_inc (by decide)) dX9_dropped_40 rfl ?_
      refine a_iload_n 42 1 hC dX9_dropped_41 rfl rfl rfl ?_
      obtain ⟨r6, gr6, h⟩ := bd h
      refine a_call0 45 [.int (s 0), .int x1] [.int (r5 - x2)] (.int r6) hC (c_X9_rank X.1.2.1 X.2.2.2.1 X.2.2.2.2 (s 0) x1 r6 gr6) ⟨wq655, wq30, wq657, ds_X9_rank, by decide, by decide⟩ wq656 rfl rfl (Nat.le_of_ble_eq_true rfl) dX9_dropped_42 rfl rfl rfl ⟨(Nat.le_refl _), (Nat.le_refl _)⟩ ?_
      refine a_iload_n 46 1 hC dX9_dropped_45 rfl rfl rfl ?_
      refine a_isub 47 hC dX9_dropped_46 rfl ?_
      refine a_isub 48 hC dX9_dropped_47 rfl ?_
      obtain ⟨v7, ev7, h⟩ := nmx h
      refine a_nm ev7 ?_
      refine a_istore_n 49 [(0, .ref (a 0)), (1, .int x1), (2, .int x2), (3, .int v7)] [1, 2, 3, 0] hC dX9_dropped_48 rfl rfl (by decide) rfl ?_
      refine a_iload_n 50 2 hC dX9_dropped_49 rfl rfl rfl ?_
      refine a_iload_n 51 1 hC dX9_dropped_50 rfl rfl rfl ?_
      refine a_icmp_ge 72 54 hC dX9_dropped_51 (by decide) rfl (fun c8 => ?_) (fun c8 => ?_)
      · have h := ifp c8 h
        refine a_iload_n 73 3 hC dX9_dropped_72 rfl rfl rfl ?_
        obtain rfl := Option.some.inj h
        exact a_iret hC hR ⟨rfl, rfl⟩ (Nat.le_refl _) (Nat.le_refl _) dX9_dropped_73
      · have h := ifn c8 h
        refine a_aload_n 55 0 hC dX9_dropped_54 rfl rfl rfl ?_
        refine a_get 58 0 7 1 hC inB_X9 rfl rfl (by decide) wq601 rfl rfl dX9_dropped_55 rfl ?_
        refine a_iconst 59 (v := (0 : Int32)) hC dX9_dropped_58 rfl (by decide) ?_
        refine a_ialdc 60 1 0 hC rfl rfl (vp_inc (by decide)) dX9_dropped_59 rfl ?_
        refine a_iconst 61 (v := (3 : Int32)) hC dX9_dropped_60 rfl (by decide) ?_
        refine a_icmp_ne 72 64 hC dX9_dropped_61 (by decide) rfl (fun c9 => ?_) (fun c9 => ?_)
        · have h := ifn c9 h
          refine a_iload_n 73 3 hC dX9_dropped_72 rfl rfl rfl ?_
          obtain rfl := Option.some.inj h
          exact a_iret hC hR ⟨rfl, rfl⟩ (Nat.le_refl _) (Nat.le_refl _) dX9_dropped_73
        · have h := ifp c9 h
          refine a_iload_n 65 3 hC dX9_dropped_64 rfl rfl rfl ?_
          refine a_sipush 68 (v := (2592 : Int32)) hC dX9_dropped_65 rfl (by decide) ?_
          refine a_iadd 69 hC dX9_dropped_68 rfl ?_
          refine a_goto 73 hC dX9_dropped_69 (by decide) ?_
          obtain rfl := Option.some.inj h
          exact a_iret hC hR ⟨rfl, rfl⟩ (Nat.le_refl _) (Nat.le_refl _) dX9_dropped_73
    · have h := ifp c4 h
      refine a_iconst 22 (v := (-1 : Int32)) hC dX9_dropped_21 rfl (by decide) ?_
      obtain rfl := Option.some.inj h
      exact a_iret hC hR ⟨rfl, rfl⟩ (Nat.le_refl _) (Nat.le_refl _) dX9_dropped_22
theorem c_X9_dropped (l : Launch) (D : va_G) (z : ClassId × ClassId × ClassId) (a : Nat → Nat) (x1 : Int32) (x2 : Int32) (thrown : Int32) (s : Nat → Int32) (past : Nat → Int32) (undos : Int32) (kept : Nat → Int32) (isk : Nat → Int32) (seen : Int32) (sn : Nat → Int32) (sf : Nat → Int32) (res : (Int32) × (Int32)) (h : f_X9_dropped x1 x2 thrown s = some res) : Ct l D z yX9_dropped cX9_dropped 4 (some .int) rm_X9_dropped [.ref (a 0), .int x1, .int x2] (mdW z a thrown s past undos kept isk seen sn sf) (fun r w => r = some (.int res.1) ∧ w = (mdW z a res.2 s past undos kept isk seen sn sf)) := by
  refine Ct.of (by decide +kernel) (Nat.le_of_ble_eq_true rfl) (fun X hC hl hz hn hR => ?_)
  have hz1 : X.2.2.2.2 = z := by rw [hz]
  subst hz1
  exact t_X9_dropped hC a x1 x2 thrown s past undos kept isk seen sn sf res hR h

/-! X9_notes -/
abbrev rm_X9_notes : Room := { frames := 0, cells := 0, slots := 0, locals := 0 }
theorem ds_X9_notes : yX9_notes.cls ≠ "java/lang/invoke/MethodHandle" ∧ yX9_notes.cls ≠ "java/lang/invoke/VarHandle" ∧ (parseMethodDescriptor yX9_notes.desc).map (fun d => d.parameters.length) = some 0 := by decide +kernel
def fb_X9_notes_51 (s : Nat → Int32) (undos : Int32) (w : ((Int32) × (Nat → Int32))) : Option (((Int32) × (Nat → Int32)) ⊕ ((Nat → Int32))) := (if (95 : Int32) ≤ w.1 then (some (.inr w.2)) else (gd w.1 95 (nm (s (Int32.toNatClampNeg w.1)) fun v4 => (gd (((95 : Int32) * undos) + w.1) 760 (nm (upd w.2 (Int32.toNatClampNeg (((95 : Int32) * undos) + w.1)) v4) fun pastq5 => (nm (w.1 + (1 : Int32)) fun v7 => (some (.inl (v7, pastq5)))))))))
set_option maxRecDepth 100000 in
set_option maxHeartbeats 4000000 in
theorem tb_X9_notes_51 {X : qX} (hC : Ok X rm_X9_notes cX9_notes 2 RX9 none) (a : Nat → Nat) (thrown : Int32) (s : Nat → Int32) (undos : Int32) (kept : Nat → Int32) (isk : Nat → Int32) (seen : Int32) (sn : Nat → Int32) (sf : Nat → Int32) (w : ((Int32) × (Nat → Int32))) (o : ((Int32) × (Nat → Int32)) ⊕ (((Nat → Int32)))) (h : fb_X9_notes_51 s undos w = some o) (hk : Sum.elim (fun (w : ((Int32) × (Nat → Int32))) => At X 0 0 51 (mdW X.2.2.2.2 a thrown s w.2 undos kept isk seen sn sf) [(0, .ref (a 0)), (1, .int w.1)] []) (fun (w : (Nat → Int32)) => At X 0 0 83 (mdW X.2.2.2.2 a thrown s w undos kept isk seen sn sf) [(0, .ref (a 0))] []) o) : At X 0 0 51 (mdW X.2.2.2.2 a thrown s w.2 undos kept isk seen sn sf) [(0, .ref (a 0)), (1, .int w.1)] [] := by
  unfold fb_X9_notes_51 at h
  refine a_iload_n 52 1 hC dX9_notes_51 rfl rfl rfl ?_
  refine a_bipush 54 (v := (95 : Int32)) hC dX9_notes_52 rfl (by decide) ?_
  refine a_icmp_ge 83 57 hC dX9_notes_54 (by decide) rfl (fun c2 => ?_) (fun c2 => ?_)
  · have h := ifp c2 h
    obtain rfl := Option.some.inj h
    refine a_lv [0] [(0, .ref (a 0))] rfl ?_
    exact hk
  · have h := ifn c2 h
    refine a_aload_n 58 0 hC dX9_notes_57 rfl rfl rfl ?_
    refine a_get 61 0 7 2 hC inB_X9 rfl rfl (by decide) wq602 rfl rfl dX9_notes_58 rfl ?_
    refine a_bipush 63 (v := (95 : Int32)) hC dX9_notes_61 rfl (by decide) ?_
    refine a_aload_n 64 0 hC dX9_notes_63 rfl rfl rfl ?_
    refine a_get 67 0 7 3 hC inB_X9 rfl rfl (by decide) wq603 rfl rfl dX9_notes_64 rfl ?_
    refine a_imul 68 hC dX9_notes_67 rfl ?_
    refine a_iload_n 69 1 hC dX9_notes_68 rfl rfl rfl ?_
    refine a_iadd 70 hC dX9_notes_69 rfl ?_
    refine a_aload_n 71 0 hC dX9_notes_70 rfl rfl rfl ?_
    refine a_get 74 0 7 1 hC inB_X9 rfl rfl (by decide) wq601 rfl rfl dX9_notes_71 rfl ?_
    refine a_iload_n 75 1 hC dX9_notes_74 rfl rfl rfl ?_
    obtain ⟨n3, h⟩ := gdx h
    refine a_iald 76 1 hC rfl n3 dX9_notes_75 rfl ?_
    obtain ⟨v4, ev4, h⟩ := nmx h
    refine a_nm ev4 ?_
    obtain ⟨n6, h⟩ := gdx h
    obtain ⟨pastq5, epastq5, h⟩ := nmx h
    refine a_iast 77 2 (mdW X.2.2.2.2 a thrown s pastq5 undos kept isk seen sn sf) hC rfl n6 dX9_notes_76 rfl (by rw [epastq5]; rfl) ?_
    obtain ⟨v7, ev7, h⟩ := nmx h
    refine a_iinc 80 1 [(0, .ref (a 0)), (1, .int v7)] [1, 0] hC dX9_notes_77 rfl rfl (v := v7) (by rw [ev7]; rfl) (by decide) rfl ?_
    refine a_goto 51 hC dX9_notes_80 (by decide) ?_
    obtain rfl := Option.some.inj h
    exact hk
def f_X9_notes_49 (s : Nat → Int32) (past : Nat → Int32) (undos : Int32) : Option ((Nat → Int32) × (Int32)) := ((lp (fb_X9_notes_51 s undos) 100000 ((0 : Int32), past)).bind fun r8 => (nm (undos + (1 : Int32)) fun v9 => (some (r8, v9))))
set_option maxRecDepth 100000 in
set_option maxHeartbeats 4000000 in
theorem t_X9_notes_49 {X : qX} (hC : Ok X rm_X9_notes cX9_notes 2 RX9 none) (a : Nat → Nat) (thrown : Int32) (s : Nat → Int32) (past : Nat → Int32) (undos : Int32) (kept : Nat → Int32) (isk : Nat → Int32) (seen : Int32) (sn : Nat → Int32) (sf : Nat → Int32) (res : (Nat → Int32) × (Int32)) (hR : Rt X 0 0 (fun r w => r = none ∧ w = (mdW X.2.2.2.2 a thrown s res.1 res.2 kept isk seen sn sf))) (h : f_X9_notes_49 s past undos = some res) : At X 0 0 49 (mdW X.2.2.2.2 a thrown s past undos kept isk seen sn sf) [(0, .ref (a 0))] [] := by
  unfold f_X9_notes_49 at h
  refine a_iconst 50 (v := (0 : Int32)) hC dX9_notes_49 rfl (by decide) ?_
  refine a_istore_n 51 [(0, .ref (a 0)), (1, .int (0 : Int32))] [1, 0] hC dX9_notes_50 rfl rfl (by decide) rfl ?_
  obtain ⟨r8, gr8, h⟩ := bd h
  refine lp_walk (Wh := (fun (u51 : ((Int32) × (Nat → Int32))) => At X 0 0 51 (mdW X.2.2.2.2 a thrown s u51.2 undos kept isk seen sn sf) [(0, .ref (a 0)), (1, .int u51.1)] [])) (We := (fun (u51 : (Nat → Int32)) => At X 0 0 83 (mdW X.2.2.2.2 a thrown s u51 undos kept isk seen sn sf) [(0, .ref (a 0))] [])) (fun u9 o9 hb9 hk9 => tb_X9_notes_51 hC a thrown s undos kept isk seen sn sf u9 o9 hb9 hk9) 100000 ((0 : Int32), past) r8 gr8 ?_
  show At X 0 0 83 (mdW X.2.2.2.2 a thrown s r8 undos kept isk seen sn sf) [(0, .ref (a 0))] []
  refine a_aload_n 84 0 hC dX9_notes_83 rfl rfl rfl ?_
  refine a_dup 85 hC dX9_notes_84 rfl rfl ?_
  refine a_get 88 0 7 3 hC inB_X9 rfl rfl (by decide) wq603 rfl rfl dX9_notes_85 rfl ?_
  refine a_iconst 89 (v := (1 : Int32)) hC dX9_notes_88 rfl (by decide) ?_
  refine a_iadd 90 hC dX9_notes_89 rfl ?_
  obtain ⟨v9, ev9, h⟩ := nmx h
  refine a_nm ev9 ?_
  refine a_put 93 0 7 3 (mdW X.2.2.2.2 a thrown s r8 v9 kept isk seen sn sf) tyX9 hC inB_X9 tyX9_ok nmX9 rfl rfl (by decide) wq603 rfl rfl rfl rfl rfl (Nat.le_of_ble_eq_true rfl) dX9_notes_90 rfl rfl ?_
  obtain rfl := Option.some.inj h
  exact a_vret hC hR ⟨rfl, rfl⟩ (Nat.le_refl _) (Nat.le_refl _) dX9_notes_93
def fb_X9_notes_11 (s : Nat → Int32) (undos : Int32) (w : ((Int32) × (Nat → Int32))) : Option (((Int32) × (Nat → Int32)) ⊕ ((Nat → Int32))) := (if (665 : Int32) ≤ w.1 then (some (.inr w.2)) else (gd (w.1 + (95 : Int32)) 760 (nm (w.2 (Int32.toNatClampNeg (w.1 + (95 : Int32)))) fun v12 => (gd w.1 760 (nm (upd w.2 (Int32.toNatClampNeg w.1) v12) fun pastq13 => (nm (w.1 + (1 : Int32)) fun v15 => (some (.inl (v15, pastq13)))))))))
set_option maxRecDepth 100000 in
set_option maxHeartbeats 4000000 in
theorem tb_X9_notes_11 {X : qX} (hC : Ok X rm_X9_notes cX9_notes 2 RX9 none) (a : Nat → Nat) (thrown : Int32) (s : Nat → Int32) (undos : Int32) (kept : Nat → Int32) (isk : Nat → Int32) (seen : Int32) (sn : Nat → Int32) (sf : Nat → Int32) (w : ((Int32) × (Nat → Int32))) (o : ((Int32) × (Nat → Int32)) ⊕ (((Nat → Int32)))) (h : fb_X9_notes_11 s undos w = some o) (hk : Sum.elim (fun (w : ((Int32) × (Nat → Int32))) => At X 0 0 11 (mdW X.2.2.2.2 a thrown s w.2 undos kept isk seen sn sf) [(0, .ref (a 0)), (1, .int w.1)] []) (fun (w : (Nat → Int32)) => At X 0 0 39 (mdW X.2.2.2.2 a thrown s w undos kept isk seen sn sf) [(0, .ref (a 0))] []) o) : At X 0 0 11 (mdW X.2.2.2.2 a thrown s w.2 undos kept isk seen sn sf) [(0, .ref (a 0)), (1, .int w.1)] [] := by
  unfold fb_X9_notes_11 at h
  refine a_iload_n 12 1 hC dX9_notes_11 rfl rfl rfl ?_
  refine a_sipush 15 (v := (665 : Int32)) hC dX9_notes_12 rfl (by decide) ?_
  refine a_icmp_ge 39 18 hC dX9_notes_15 (by decide) rfl (fun c10 => ?_) (fun c10 => ?_)
  · have h := ifp c10 h
    obtain rfl := Option.some.inj h
    refine a_lv [0] [(0, .ref (a 0))] rfl ?_
    exact hk
  · have h := ifn c10 h
    refine a_aload_n 19 0 hC dX9_notes_18 rfl rfl rfl ?_
    refine a_get 22 0 7 2 hC inB_X9 rfl rfl (by decide) wq602 rfl rfl dX9_notes_19 rfl ?_
    refine a_iload_n 23 1 hC dX9_notes_22 rfl rfl rfl ?_
    refine a_aload_n 24 0 hC dX9_notes_23 rfl rfl rfl ?_
    refine a_get 27 0 7 2 hC inB_X9 rfl rfl (by decide) wq602 rfl rfl dX9_notes_24 rfl ?_
    refine a_iload_n 28 1 hC dX9_notes_27 rfl rfl rfl ?_
    refine a_bipush 30 (v := (95 : Int32)) hC dX9_notes_28 rfl (by decide) ?_
    refine a_iadd 31 hC dX9_notes_30 rfl ?_
    obtain ⟨n11, h⟩ := gdx h
    refine a_iald 32 2 hC rfl n11 dX9_notes_31 rfl ?_
    obtain ⟨v12, ev12, h⟩ := nmx h
    refine a_nm ev12 ?_
    obtain ⟨n14, h⟩ := gdx h
    obtain ⟨pastq13, epastq13, h⟩ := nmx h
    refine a_iast 33 2 (mdW X.2.2.2.2 a thrown s pastq13 undos kept isk seen sn sf) hC rfl n14 dX9_notes_32 rfl (by rw [epastq13]; rfl) ?_
    obtain ⟨v15, ev15, h⟩ := nmx h
    refine a_iinc 36 1 [(0, .ref (a 0)), (1, .int v15)] [1, 0] hC dX9_notes_33 rfl rfl (v := v15) (by rw [ev15]; rfl) (by decide) rfl ?_
    refine a_goto 11 hC dX9_notes_36 (by decide) ?_
    obtain rfl := Option.some.inj h
    exact hk
def f_X9_notes (s : Nat → Int32) (past : Nat → Int32) (undos : Int32) : Option ((Nat → Int32) × (Int32)) := (if undos = (8 : Int32) then ((lp (fb_X9_notes_11 s undos) 100000 ((0 : Int32), past)).bind fun r16 => (nm (undos - (1 : Int32)) fun v17 => (f_X9_notes_49 s r16 v17))) else (f_X9_notes_49 s past undos))
set_option maxRecDepth 100000 in
set_option maxHeartbeats 4000000 in
theorem t_X9_notes {X : qX} (hC : Ok X rm_X9_notes cX9_notes 2 RX9 none) (a : Nat → Nat) (thrown : Int32) (s : Nat → Int32) (past : Nat → Int32) (undos : Int32) (kept : Nat → Int32) (isk : Nat → Int32) (seen : Int32) (sn : Nat → Int32) (sf : Nat → Int32) (res : (Nat → Int32) × (Int32)) (hR : Rt X 0 0 (fun r w => r = none ∧ w = (mdW X.2.2.2.2 a thrown s res.1 res.2 kept isk seen sn sf))) (h : f_X9_notes s past undos = some res) : At X 0 0 0 (mdW X.2.2.2.2 a thrown s past undos kept isk seen sn sf) [(0, .ref (a 0))] [] := by
  unfold f_X9_notes at h
  refine a_aload_n 1 0 hC dX9_notes_0 rfl rfl rfl ?_
  refine a_get 4 0 7 3 hC inB_X9 rfl rfl (by decide) wq603 rfl rfl dX9_notes_1 rfl ?_
  refine a_bipush 6 (v := (8 : Int32)) hC dX9_notes_4 rfl (by decide) ?_
  refine a_icmp_ne 49 9 hC dX9_notes_6 (by decide) rfl (fun c1 => ?_) (fun c1 => ?_)
  · have h := ifn c1 h
    exact t_X9_notes_49 hC a thrown s past undos kept isk seen sn sf res hR h
  · have h := ifp c1 h
    refine a_iconst 10 (v := (0 : Int32)) hC dX9_notes_9 rfl (by decide) ?_
    refine a_istore_n 11 [(0, .ref (a 0)), (1, .int (0 : Int32))] [1, 0] hC dX9_notes_10 rfl rfl (by decide) rfl ?_
    obtain ⟨r16, gr16, h⟩ := bd h
    refine lp_walk (Wh := (fun (u11 : ((Int32) × (Nat → Int32))) => At X 0 0 11 (mdW X.2.2.2.2 a thrown s u11.2 undos kept isk seen sn sf) [(0, .ref (a 0)), (1, .int u11.1)] [])) (We := (fun (u11 : (Nat → Int32)) => At X 0 0 39 (mdW X.2.2.2.2 a thrown s u11 undos kept isk seen sn sf) [(0, .ref (a 0))] [])) (fun u9 o9 hb9 hk9 => tb_X9_notes_11 hC a thrown s undos kept isk seen sn sf u9 o9 hb9 hk9) 100000 ((0 : Int32), past) r16 gr16 ?_
    show At X 0 0 39 (mdW X.2.2.2.2 a thrown s r16 undos kept isk seen sn sf) [(0, .ref (a 0))] []
    refine a_aload_n 40 0 hC dX9_notes_39 rfl rfl rfl ?_
    refine a_dup 41 hC dX9_notes_40 rfl rfl ?_
    refine a_get 44 0 7 3 hC inB_X9 rfl rfl (by decide) wq603 rfl rfl dX9_notes_41 rfl ?_
    refine a_iconst 45 (v := (1 : Int32)) hC dX9_notes_44 rfl (by decide) ?_
    refine a_isub 46 hC dX9_notes_45 rfl ?_
    obtain ⟨v17, ev17, h⟩ := nmx h
    refine a_nm ev17 ?_
    refine a_put 49 0 7 3 (mdW X.2.2.2.2 a thrown s r16 v17 kept isk seen sn sf) tyX9 hC inB_X9 tyX9_ok nmX9 rfl rfl (by decide) wq603 rfl rfl rfl rfl rfl (Nat.le_of_ble_eq_true rfl) dX9_notes_46 rfl rfl ?_
    exact t_X9_notes_49 hC a thrown s r16 v17 kept isk seen sn sf res hR h
theorem c_X9_notes (l : Launch) (D : va_G) (z : ClassId × ClassId × ClassId) (a : Nat → Nat) (thrown : Int32) (s : Nat → Int32) (past : Nat → Int32) (undos : Int32) (kept : Nat → Int32) (isk : Nat → Int32) (seen : Int32) (sn : Nat → Int32) (sf : Nat → Int32) (res : (Nat → Int32) × (Int32)) (h : f_X9_notes s past undos = some res) : Ct l D z yX9_notes cX9_notes 2 none rm_X9_notes [.ref (a 0)] (mdW z a thrown s past undos kept isk seen sn sf) (fun r w => r = none ∧ w = (mdW z a thrown s res.1 res.2 kept isk seen sn sf)) := by
  refine Ct.of (by decide +kernel) (Nat.le_of_ble_eq_true rfl) (fun X hC hl hz hn hR => ?_)
  have hz1 : X.2.2.2.2 = z := by rw [hz]
  subst hz1
  exact t_X9_notes hC a thrown s past undos kept isk seen sn sf res hR h

/-! X9_rates -/
abbrev rm_X9_rates : Room := { frames := 4, cells := 0, slots := 0, locals := 82 }
theorem ds_X9_rates : yX9_rates.cls ≠ "java/lang/invoke/MethodHandle" ∧ yX9_rates.cls ≠ "java/lang/invoke/VarHandle" ∧ (parseMethodDescriptor yX9_rates.desc).map (fun d => d.parameters.length) = some 1 := by decide +kernel
def fb_X9_rates_44 (x2 : Int32) (thrown : Int32) (past : Nat → Int32) (undos : Int32) (w : ((Int32) × (Nat → Int32))) : Option (((Int32) × (Nat → Int32)) ⊕ ((Nat → Int32))) := (if (w.2 1) ≤ w.1 then (some (.inr w.2)) else (gd ((2 : Int32) + ((3 : Int32) * w.1)) 95 ((f_X9_around (w.2 (Int32.toNatClampNeg ((2 : Int32) + ((3 : Int32) * w.1)))) w.2).bind fun r9 => (gd ((2 : Int32) + ((3 : Int32) * w.1)) 95 (nm (upd w.2 (Int32.toNatClampNeg ((2 : Int32) + ((3 : Int32) * w.1))) r9) fun sq10 => (nm (w.1 + (1 : Int32)) fun v12 => (some (.inl (v12, sq10)))))))))
set_option maxRecDepth 100000 in
set_option maxHeartbeats 4000000 in
theorem tb_X9_rates_44 {X : qX} (hC : Ok X rm_X9_rates cX9_rates 4 RX9 (some .int)) (a : Nat → Nat) (x2 : Int32) (thrown : Int32) (past : Nat → Int32) (undos : Int32) (kept : Nat → Int32) (isk : Nat → Int32) (seen : Int32) (sn : Nat → Int32) (sf : Nat → Int32) (w : ((Int32) × (Nat → Int32))) (o : ((Int32) × (Nat → Int32)) ⊕ (((Nat → Int32)))) (h : fb_X9_rates_44 x2 thrown past undos w = some o) (hk : Sum.elim (fun (w : ((Int32) × (Nat → Int32))) => At X 0 0 44 (mdW X.2.2.2.2 a thrown w.2 past undos kept isk seen sn sf) [(0, .ref (a 0)), (2, .int x2), (3, .int w.1)] []) (fun (w : (Nat → Int32)) => At X 0 0 84 (mdW X.2.2.2.2 a thrown w past undos kept isk seen sn sf) [(0, .ref (a 0)), (2, .int x2)] []) o) : At X 0 0 44 (mdW X.2.2.2.2 a thrown w.2 past undos kept isk seen sn sf) [(0, .ref (a 0)), (2, .int x2), (3, .int w.1)] [] := by
  unfold fb_X9_rates_44 at h
  refine a_iload_n 45 2 hC dX9_rates_44 rfl rfl rfl ?_
  refine a_aload_n 46 0 hC dX9_rates_45 rfl rfl rfl ?_
  refine a_get 49 0 7 1 hC inB_X9 rfl rfl (by decide) wq601 rfl rfl dX9_rates_46 rfl ?_
  refine a_iconst 50 (v := (1 : Int32)) hC dX9_rates_49 rfl (by decide) ?_
  refine a_ialdc 51 1 1 hC rfl rfl (vp_inc (by decide)) dX9_rates_50 rfl ?_
  refine a_icmp_ge 84 54 hC dX9_rates_51 (by decide) rfl (fun c7 => ?_) (fun c7 => ?_)
  · have h := ifp c7 h
    obtain rfl := Option.some.inj h
    refine a_lv [0, 1] [(0, .ref (a 0)), (2, .int x2)] rfl ?_
    exact hk
  · have h := ifn c7 h
    refine a_aload_n 55 0 hC dX9_rates_54 rfl rfl rfl ?_
    refine a_get 58 0 7 1 hC inB_X9 rfl rfl (by decide) wq601 rfl rfl dX9_rates_55 rfl ?_
    refine a_iconst 59 (v := (2 : Int32)) hC dX9_rates_58 rfl (by decide) ?_
    refine a_iconst 60 (v := (3 : Int32)) hC dX9_rates_59 rfl (by decide) ?_
    refine a_iload_n 61 2 hC dX9_rates_60 rfl rfl rfl ?_
    refine a_imul 62 hC dX9_rates_61 rfl ?_
    refine a_iadd 63 hC dX9_rates_62 rfl ?_
    refine a_aload_n 64 0 hC dX9_rates_63 rfl rfl rfl ?_
    refine a_aload_n 65 0 hC dX9_rates_64 rfl rfl rfl ?_
    refine a_get 68 0 7 1 hC inB_X9 rfl rfl (by decide) wq601 rfl rfl dX9_rates_65 rfl ?_
    refine a_iconst 69 (v := (2 : Int32)) hC dX9_rates_68 rfl (by decide) ?_
    refine a_iconst 70 (v := (3 : Int32)) hC dX9_rates_69 rfl (by decide) ?_
    refine a_iload_n 71 2 hC dX9_rates_70 rfl rfl rfl ?_
    refine a_imul 72 hC dX9_rates_71 rfl ?_
    refine a_iadd 73 hC dX9_rates_72 rfl ?_
    obtain ⟨n8, h⟩ := gdx h
    refine a_iald 74 1 hC rfl n8 dX9_rates_73 rfl ?_
    obtain ⟨r9, gr9, h⟩ := bd h
    refine a_callVs 77 (mdW X.2.2.2.2 a thrown w.2 past undos kept isk seen sn sf) 0 7 [.int (w.2 (Int32.toNatClampNeg ((2 : Int32) + ((3 : Int32) * w.1))))] [.int ((2 : Int32) + ((3 : Int32) * w.1)), .ref (a 1)] (some (.int r9)) [.int r9, .int ((2 : Int32) + ((3 : Int32) * w.1)), .ref (a 1)] hC (c_X9_around X.1.2.1 X.2.2.2.1 X.2.2.2.2 a (w.2 (Int32.toNatClampNeg ((2 : Int32) + ((3 : Int32) * w.1)))) thrown w.2 past undos kept isk seen sn sf r9 gr9) ⟨wq679, wq30, wq682, ds_X9_around, by decide, by decide⟩ wq681 wq9 rfl rfl (Nat.le_of_ble_eq_true rfl) dX9_rates_74 rfl rfl rfl ⟨(Nat.le_refl _), (Nat.le_refl _)⟩ rfl rfl rfl ?_
    obtain ⟨n11, h⟩ := gdx h
    obtain ⟨sq10, esq10, h⟩ := nmx h
    refine a_iast 78 1 (mdW X.2.2.2.2 a thrown sq10 past undos kept isk seen sn sf) hC rfl n11 dX9_rates_77 rfl (by rw [esq10]; rfl) ?_
    obtain ⟨v12, ev12, h⟩ := nmx h
    refine a_iinc 81 2 [(0, .ref (a 0)), (2, .int x2), (3, .int v12)] [1, 2, 0] hC dX9_rates_78 rfl rfl (v := v12) (by rw [ev12]; rfl) (by decide) rfl ?_
    refine a_goto 44 hC dX9_rates_81 (by decide) ?_
    obtain rfl := Option.some.inj h
    exact hk
def fb_X9_rates_104 (x2 : Int32) (thrown : Int32) (past : Nat → Int32) (undos : Int32) (w : ((Int32) × (Nat → Int32))) : Option (((Int32) × (Nat → Int32)) ⊕ ((Nat → Int32))) := (if (3 : Int32) ≤ w.1 then (some (.inr w.2)) else (gd ((38 : Int32) + ((3 : Int32) * w.1)) 95 ((f_X9_around (w.2 (Int32.toNatClampNeg ((38 : Int32) + ((3 : Int32) * w.1)))) w.2).bind fun r18 => (gd ((38 : Int32) + ((3 : Int32) * w.1)) 95 (nm (upd w.2 (Int32.toNatClampNeg ((38 : Int32) + ((3 : Int32) * w.1))) r18) fun sq19 => (nm (w.1 + (1 : Int32)) fun v21 => (some (.inl (v21, sq19)))))))))
set_option maxRecDepth 100000 in
set_option maxHeartbeats 4000000 in
theorem tb_X9_rates_104 {X : qX} (hC : Ok X rm_X9_rates cX9_rates 4 RX9 (some .int)) (a : Nat → Nat) (x2 : Int32) (thrown : Int32) (past : Nat → Int32) (undos : Int32) (kept : Nat → Int32) (isk : Nat → Int32) (seen : Int32) (sn : Nat → Int32) (sf : Nat → Int32) (w : ((Int32) × (Nat → Int32))) (o : ((Int32) × (Nat → Int32)) ⊕ (((Nat → Int32)))) (h : fb_X9_rates_104 x2 thrown past undos w = some o) (hk : Sum.elim (fun (w : ((Int32) × (Nat → Int32))) => At X 0 0 104 (mdW X.2.2.2.2 a thrown w.2 past undos kept isk seen sn sf) [(0, .ref (a 0)), (2, .int x2), (3, .int w.1)] []) (fun (w : (Nat → Int32)) => At X 0 0 141 (mdW X.2.2.2.2 a thrown w past undos kept isk seen sn sf) [(2, .int x2)] []) o) : At X 0 0 104 (mdW X.2.2.2.2 a thrown w.2 past undos kept isk seen sn sf) [(0, .ref (a 0)), (2, .int x2), (3, .int w.1)] [] := by
  unfold fb_X9_rates_104 at h
  refine a_iload_n 105 2 hC dX9_rates_104 rfl rfl rfl ?_
  refine a_iconst 106 (v := (3 : Int32)) hC dX9_rates_105 rfl (by decide) ?_
  refine a_icmp_ge 141 109 hC dX9_rates_106 (by decide) rfl (fun c16 => ?_) (fun c16 => ?_)
  · have h := ifp c16 h
    obtain rfl := Option.some.inj h
    refine a_lv [1] [(2, .int x2)] rfl ?_
    exact hk
  · have h := ifn c16 h
    refine a_aload_n 110 0 hC dX9_rates_109 rfl rfl rfl ?_
    refine a_get 113 0 7 1 hC inB_X9 rfl rfl (by decide) wq601 rfl rfl dX9_rates_110 rfl ?_
    refine a_bipush 115 (v := (38 : Int32)) hC dX9_rates_113 rfl (by decide) ?_
    refine a_iconst 116 (v := (3 : Int32)) hC dX9_rates_115 rfl (by decide) ?_
    refine a_iload_n 117 2 hC dX9_rates_116 rfl rfl rfl ?_
    refine a_imul 118 hC dX9_rates_117 rfl ?_
    refine a_iadd 119 hC dX9_rates_118 rfl ?_
    refine a_aload_n 120 0 hC dX9_rates_119 rfl rfl rfl ?_
    refine a_aload_n 121 0 hC dX9_rates_120 rfl rfl rfl ?_
    refine a_get 124 0 7 1 hC inB_X9 rfl rfl (by decide) wq601 rfl rfl dX9_rates_121 rfl ?_
    refine a_bipush 126 (v := (38 : Int32)) hC dX9_rates_124 rfl (by decide) ?_
    refine a_iconst 127 (v := (3 : Int32)) hC dX9_rates_126 rfl (by decide) ?_
    refine a_iload_n 128 2 hC dX9_rates_127 rfl rfl rfl ?_
    refine a_imul 129 hC dX9_rates_128 rfl ?_
    refine a_iadd 130 hC dX9_rates_129 rfl ?_
    obtain ⟨n17, h⟩ := gdx h
    refine a_iald 131 1 hC rfl n17 dX9_rates_130 rfl ?_
    obtain ⟨r18, gr18, h⟩ := bd h
    refine a_callVs 134 (mdW X.2.2.2.2 a thrown w.2 past undos kept isk seen sn sf) 0 7 [.int (w.2 (Int32.toNatClampNeg ((38 : Int32) + ((3 : Int32) * w.1))))] [.int ((38 : Int32) + ((3 : Int32) * w.1)), .ref (a 1)] (some (.int r18)) [.int r18, .int ((38 : Int32) + ((3 : Int32) * w.1)), .ref (a 1)] hC (c_X9_around X.1.2.1 X.2.2.2.1 X.2.2.2.2 a (w.2 (Int32.toNatClampNeg ((38 : Int32) + ((3 : Int32) * w.1)))) thrown w.2 past undos kept isk seen sn sf r18 gr18) ⟨wq679, wq30, wq682, ds_X9_around, by decide, by decide⟩ wq681 wq9 rfl rfl (Nat.le_of_ble_eq_true rfl) dX9_rates_131 rfl rfl rfl ⟨(Nat.le_refl _), (Nat.le_refl _)⟩ rfl rfl rfl ?_
    obtain ⟨n20, h⟩ := gdx h
    obtain ⟨sq19, esq19, h⟩ := nmx h
    refine a_iast 135 1 (mdW X.2.2.2.2 a thrown sq19 past undos kept isk seen sn sf) hC rfl n20 dX9_rates_134 rfl (by rw [esq19]; rfl) ?_
    obtain ⟨v21, ev21, h⟩ := nmx h
    refine a_iinc 138 2 [(0, .ref (a 0)), (2, .int x2), (3, .int v21)] [1, 2, 0] hC dX9_rates_135 rfl rfl (v := v21) (by rw [ev21]; rfl) (by decide) rfl ?_
    refine a_goto 104 hC dX9_rates_138 (by decide) ?_
    obtain rfl := Option.some.inj h
    exact hk
def f_X9_rates (x1 : Int32) (thrown : Int32) (s : Nat → Int32) (past : Nat → Int32) (undos : Int32) : Option ((Int32) × (Int32) × (Nat → Int32) × (Nat → Int32) × (Int32)) := ((f_X9_in x1 (0 : Int32) (3 : Int32)).bind fun r1 => (if r1 = (0 : Int32) then (some ((-1 : Int32), (0 : Int32), s, past, undos)) else (nm (s 0) fun v3 => (if v3 = x1 then (some ((-2 : Int32), (0 : Int32), s, past, undos)) else ((f_X9_notes s past undos).bind fun r5 => (nm (upd s 0 x1) fun sq6 => ((lp (fb_X9_rates_44 v3 (0 : Int32) r5.1 r5.2) 100000 ((0 : Int32), sq6)).bind fun r13 => ((f_X9_around (r13 34) r13).bind fun r14 => (nm (upd r13 34 r14) fun sq15 => ((lp (fb_X9_rates_104 v3 (0 : Int32) r5.1 r5.2) 100000 ((0 : Int32), sq15)).bind fun r22 => (some (v3, (0 : Int32), r22, r5.1, r5.2))))))))))))
set_option maxRecDepth 100000 in
set_option maxHeartbeats 4000000 in
theorem t_X9_rates {X : qX} (hC : Ok X rm_X9_rates cX9_rates 4 RX9 (some .int)) (a : Nat → Nat) (x1 : Int32) (thrown : Int32) (s : Nat → Int32) (past : Nat → Int32) (undos : Int32) (kept : Nat → Int32) (isk : Nat → Int32) (seen : Int32) (sn : Nat → Int32) (sf : Nat → Int32) (res : (Int32) × (Int32) × (Nat → Int32) × (Nat → Int32) × (Int32)) (hR : Rt X 0 0 (fun r w => r = some (.int res.1) ∧ w = (mdW X.2.2.2.2 a res.2.1 res.2.2.1 res.2.2.2.1 res.2.2.2.2 kept isk seen sn sf))) (h : f_X9_rates x1 thrown s past undos = some res) : At X 0 0 0 (mdW X.2.2.2.2 a thrown s past undos kept isk seen sn sf) [(0, .ref (a 0)), (1, .int x1)] [] := by
  unfold f_X9_rates at h
  refine a_aload_n 1 0 hC dX9_rates_0 rfl rfl rfl ?_
  refine a_iconst 2 (v := (0 : Int32)) hC dX9_rates_1 rfl (by decide) ?_
  refine a_put 5 0 7 0 (mdW X.2.2.2.2 a (0 : Int32) s past undos kept isk seen sn sf) tyX9 hC inB_X9 tyX9_ok nmX9 rfl rfl (by decide) wq600 rfl rfl rfl rfl rfl (Nat.le_of_ble_eq_true rfl) dX9_rates_2 rfl rfl ?_
  refine a_iload_n 6 1 hC dX9_rates_5 rfl rfl rfl ?_
  refine a_iconst 7 (v := (0 : Int32)) hC dX9_rates_6 rfl (by decide) ?_
  refine a_iconst 8 (v := (3 : Int32)) hC dX9_rates_7 rfl (by decide) ?_
  obtain ⟨r1, gr1, h⟩ := bd h
  refine a_call0 11 [.int x1, .int (0 : Int32), .int (3 : Int32)] [] (.int r1) hC (c_X9_in X.1.2.1 X.2.2.2.1 X.2.2.2.2 x1 (0 : Int32) (3 : Int32) r1 gr1) ⟨wq649, wq30, wq651, ds_X9_in, by decide, by decide⟩ wq650 rfl rfl (Nat.le_of_ble_eq_true rfl) dX9_rates_8 rfl rfl rfl ⟨(Nat.le_refl _), (Nat.le_refl _)⟩ ?_
  refine a_if_ne 16 14 hC dX9_rates_11 (by decide) rfl (fun c2 => ?_) (fun c2 => ?_)
  · have h := ifn c2 h
    refine a_aload_n 17 0 hC dX9_rates_16 rfl rfl rfl ?_
    refine a_get 20 0 7 1 hC inB_X9 rfl rfl (by decide) wq601 rfl rfl dX9_rates_17 rfl ?_
    refine a_iconst 21 (v := (0 : Int32)) hC dX9_rates_20 rfl (by decide) ?_
    refine a_ialdc 22 1 0 hC rfl rfl (vp_inc (by decide)) dX9_rates_21 rfl ?_
    obtain ⟨v3, ev3, h⟩ := nmx h
    refine a_nm ev3 ?_
    refine a_istore_n 23 [(0, .ref (a 0)), (1, .int x1), (2, .int v3)] [1, 2, 0] hC dX9_rates_22 rfl rfl (by decide) rfl ?_
    refine a_iload_n 24 2 hC dX9_rates_23 rfl rfl rfl ?_
    refine a_iload_n 25 1 hC dX9_rates_24 rfl rfl rfl ?_
    refine a_icmp_ne 31 28 hC dX9_rates_25 (by decide) rfl (fun c4 => ?_) (fun c4 => ?_)
    · have h := ifn c4 h
      refine a_aload_n 32 0 hC dX9_rates_31 rfl rfl rfl ?_
      obtain ⟨r5, gr5, h⟩ := bd h
      refine a_callVs 35 (mdW X.2.2.2.2 a (0 : Int32) s r5.1 r5.2 kept isk seen sn sf) 0 7 [] [] none [] hC (c_X9_notes X.1.2.1 X.2.2.2.1 X.2.2.2.2 a (0 : Int32) s past undos kept isk seen sn sf r5 gr5) ⟨wq675, wq30, wq678, ds_X9_notes, by decide, by decide⟩ wq677 wq8 rfl rfl (Nat.le_of_ble_eq_true rfl) dX9_rates_32 rfl rfl rfl ⟨(Nat.le_refl _), (Nat.le_refl _)⟩ rfl rfl rfl ?_
      refine a_aload_n 36 0 hC dX9_rates_35 rfl rfl rfl ?_
      refine a_get 39 0 7 1 hC inB_X9 rfl rfl (by decide) wq601 rfl rfl dX9_rates_36 rfl ?_
      refine a_iconst 40 (v := (0 : Int32)) hC dX9_rates_39 rfl (by decide) ?_
      refine a_iload_n 41 1 hC dX9_rates_40 rfl rfl rfl ?_
      obtain ⟨sq6, esq6, h⟩ := nmx h
      refine a_iastc 42 1 0 (mdW X.2.2.2.2 a (0 : Int32) sq6 r5.1 r5.2 kept isk seen sn sf) hC rfl rfl (vp_inc (by decide)) dX9_rates_41 rfl (by rw [esq6]; rfl) ?_
      refine a_iconst 43 (v := (0 : Int32)) hC dX9_rates_42 rfl (by decide) ?_
      refine a_istore_n 44 [(0, .ref (a 0)), (1, .int x1), (2, .int v3), (3, .int (0 : Int32))] [1, 2, 3, 0] hC dX9_rates_43 rfl rfl (by decide) rfl ?_
      obtain ⟨r13, gr13, h⟩ := bd h
      refine a_lv [0, 2, 3] [(0, .ref (a 0)), (2, .int v3), (3, .int (0 : Int32))] rfl ?_
      refine lp_walk (Wh := (fun (u44 : ((Int32) × (Nat → Int32))) => At X 0 0 44 (mdW X.2.2.2.2 a (0 : Int32) u44.2 r5.1 r5.2 kept isk seen sn sf) [(0, .ref (a 0)), (2, .int v3), (3, .int u44.1)] [])) (We := (fun (u44 : (Nat → Int32)) => At X 0 0 84 (mdW X.2.2.2.2 a (0 : Int32) u44 r5.1 r5.2 kept isk seen sn sf) [(0, .ref (a 0)), (2, .int v3)] [])) (fun u9 o9 hb9 hk9 => tb_X9_rates_44 hC a v3 (0 : Int32) r5.1 r5.2 kept isk seen sn sf u9 o9 hb9 hk9) 100000 ((0 : Int32), sq6) r13 gr13 ?_
      show At X 0 0 84 (mdW X.2.2.2.2 a (0 : Int32) r13 r5.1 r5.2 kept isk seen sn sf) [(0, .ref (a 0)), (2, .int v3)] []
      refine a_aload_n 85 0 hC dX9_rates_84 rfl rfl rfl ?_
      refine a_get 88 0 7 1 hC inB_X9 rfl rfl (by decide) wq601 rfl rfl dX9_rates_85 rfl ?_
      refine a_bipush 90 (v := (34 : Int32)) hC dX9_rates_88 rfl (by decide) ?_
      refine a_aload_n 91 0 hC dX9_rates_90 rfl rfl rfl ?_
      refine a_aload_n 92 0 hC dX9_rates_91 rfl rfl rfl ?_
      refine a_get 95 0 7 1 hC inB_X9 rfl rfl (by decide) wq601 rfl rfl dX9_rates_92 rfl ?_
      refine a_bipush 97 (v := (34 : Int32)) hC dX9_rates_95 rfl (by decide) ?_
      refine a_ialdc 98 1 34 hC rfl rfl (vp_inc (by decide)) dX9_rates_97 rfl ?_
      obtain ⟨r14, gr14, h⟩ := bd h
      refine a_callVs 101 (mdW X.2.2.2.2 a (0 : Int32) r13 r5.1 r5.2 kept isk seen sn sf) 0 7 [.int (r13 34)] [.int (34 : Int32), .ref (a 1)] (some (.int r14)) [.int r14, .int (34 : Int32), .ref (a 1)] hC (c_X9_around X.1.2.1 X.2.2.2.1 X.2.2.2.2 a (r13 34) (0 : Int32) r13 r5.1 r5.2 kept isk seen sn sf r14 gr14) ⟨wq679, wq30, wq682, ds_X9_around, by decide, by decide⟩ wq681 wq9 rfl rfl (Nat.le_of_ble_eq_true rfl) dX9_rates_98 rfl rfl rfl ⟨(Nat.le_refl _), (Nat.le_refl _)⟩ rfl rfl rfl ?_
      obtain ⟨sq15, esq15, h⟩ := nmx h
      refine a_iastc 102 1 34 (mdW X.2.2.2.2 a (0 : Int32) sq15 r5.1 r5.2 kept isk seen sn sf) hC rfl rfl (vp_inc (by decide)) dX9_rates_101 rfl (by rw [esq15]; rfl) ?_
      refine a_iconst 103 (v := (0 : Int32)) hC dX9_rates_102 rfl (by decide) ?_
      refine a_istore_n 104 [(0, .ref (a 0)), (2, .int v3), (3, .int (0 : Int32))] [1, 2, 0] hC dX9_rates_103 rfl rfl (by decide) rfl ?_
      obtain ⟨r22, gr22, h⟩ := bd h
      refine lp_walk (Wh := (fun (u104 : ((Int32) × (Nat → Int32))) => At X 0 0 104 (mdW X.2.2.2.2 a (0 : Int32) u104.2 r5.1 r5.2 kept isk seen sn sf) [(0, .ref (a 0)), (2, .int v3), (3, .int u104.1)] [])) (We := (fun (u104 : (Nat → Int32)) => At X 0 0 141 (mdW X.2.2.2.2 a (0 : Int32) u104 r5.1 r5.2 kept isk seen sn sf) [(2, .int v3)] [])) (fun u9 o9 hb9 hk9 => tb_X9_rates_104 hC a v3 (0 : Int32) r5.1 r5.2 kept isk seen sn sf u9 o9 hb9 hk9) 100000 ((0 : Int32), sq15) r22 gr22 ?_
      show At X 0 0 141 (mdW X.2.2.2.2 a (0 : Int32) r22 r5.1 r5.2 kept isk seen sn sf) [(2, .int v3)] []
      refine a_iload_n 142 0 hC dX9_rates_141 rfl rfl rfl ?_
      obtain rfl := Option.some.inj h
      exact a_iret hC hR ⟨rfl, rfl⟩ (Nat.le_refl _) (Nat.le_refl _) dX9_rates_142
    · have h := ifp c4 h
      refine a_bipush 30 (v := (-2 : Int32)) hC dX9_rates_28 rfl (by decide) ?_
      obtain rfl := Option.some.inj h
      exact a_iret hC hR ⟨rfl, rfl⟩ (Nat.le_refl _) (Nat.le_refl _) dX9_rates_30
  · have h := ifp c2 h
    refine a_iconst 15 (v := (-1 : Int32)) hC dX9_rates_14 rfl (by decide) ?_
    obtain rfl := Option.some.inj h
    exact a_iret hC hR ⟨rfl, rfl⟩ (Nat.le_refl _) (Nat.le_refl _) dX9_rates_15
theorem c_X9_rates (l : Launch) (D : va_G) (z : ClassId × ClassId × ClassId) (a : Nat → Nat) (x1 : Int32) (thrown : Int32) (s : Nat → Int32) (past : Nat → Int32) (undos : Int32) (kept : Nat → Int32) (isk : Nat → Int32) (seen : Int32) (sn : Nat → Int32) (sf : Nat → Int32) (res : (Int32) × (Int32) × (Nat → Int32) × (Nat → Int32) × (Int32)) (h : f_X9_rates x1 thrown s past undos = some res) : Ct l D z yX9_rates cX9_rates 4 (some .int) rm_X9_rates [.ref (a 0), .int x1] (mdW z a thrown s past undos kept isk seen sn sf) (fun r w => r = some (.int res.1) ∧ w = (mdW z a res.2.1 res.2.2.1 res.2.2.2.1 res.2.2.2.2 kept isk seen sn sf)) := by
  refine Ct.of (by decide +kernel) (Nat.le_of_ble_eq_true rfl) (fun X hC hl hz hn hR => ?_)
  have hz1 : X.2.2.2.2 = z := by rw [hz]
  subst hz1
  exact t_X9_rates hC a x1 thrown s past undos kept isk seen sn sf res hR h
