/-! X0_wayTo -/
abbrev rm_X0_wayTo : Room := { frames := 1, cells := 0, slots := 0, locals := 22 }
theorem ds_X0_wayTo : yX0_wayTo.cls ≠ "java/lang/invoke/MethodHandle" ∧ yX0_wayTo.cls ≠ "java/lang/invoke/VarHandle" ∧ (parseMethodDescriptor yX0_wayTo.desc).map (fun d => d.parameters.length) = some 2 := by decide +kernel
def f_X0_wayTo (x1 : Int32) (x2 : Int32) (place : Int32) (offset : Int32) : Option ((Int32)) := ((f_J9_floorMod_7cf53 ((x1 + offset) - place) x2).bind fun r1 => (if ((2 : Int32) * r1) ≤ x2 then (some r1) else (some (r1 - x2))))
set_option maxRecDepth 100000 in
set_option maxHeartbeats 4000000 in
theorem t_X0_wayTo {X : qX} (hC : Ok X rm_X0_wayTo cX0_wayTo 4 RX0 (some .int)) (ha : Nat) (x1 : Int32) (x2 : Int32) (place : Int32) (speed : Int32) (offset : Int32) (res : (Int32)) (hR : Rt X 0 0 (fun r w => r = some (.int res) ∧ w = (chW ha place speed offset))) (h : f_X0_wayTo x1 x2 place offset = some res) : At X 0 0 0 (chW ha place speed offset) [(0, .ref ha), (1, .int x1), (2, .int x2)] [] := by
  unfold f_X0_wayTo at h
  refine a_iload_n 1 1 hC dX0_wayTo_0 rfl rfl rfl ?_
  refine a_aload_n 2 0 hC dX0_wayTo_1 rfl rfl rfl ?_
  refine a_get 5 0 0 2 hC inB_X0 rfl rfl (by decide) wq175 rfl rfl dX0_wayTo_2 rfl ?_
  refine a_iadd 6 hC dX0_wayTo_5 rfl ?_
  refine a_aload_n 7 0 hC dX0_wayTo_6 rfl rfl rfl ?_
  refine a_get 10 0 0 0 hC inB_X0 rfl rfl (by decide) wq170 rfl rfl dX0_wayTo_7 rfl ?_
  refine a_isub 11 hC dX0_wayTo_10 rfl ?_
  refine a_iload_n 12 2 hC dX0_wayTo_11 rfl rfl rfl ?_
  obtain ⟨r1, gr1, h⟩ := bd h
  refine a_call0 15 [.int ((x1 + offset) - place), .int x2] [] (.int r1) hC (c_J9_floorMod_7cf53 X.1.2.1 X.2.2.2.1 X.2.2.2.2 ((x1 + offset) - place) x2 r1 gr1) ⟨wq533, wq31, wq263, ds_J9_floorMod_7cf53, by decide, by decide⟩ wq262 rfl rfl (Nat.le_of_ble_eq_true rfl) dX0_wayTo_12 rfl rfl rfl ⟨(Nat.le_refl _), (Nat.le_refl _)⟩ ?_
  refine a_istore_n 16 [(0, .ref ha), (1, .int x1), (2, .int x2), (3, .int r1)] [1, 2, 3, 0] hC dX0_wayTo_15 rfl rfl (by decide) rfl ?_
  refine a_iconst 17 (v := (2 : Int32)) hC dX0_wayTo_16 rfl (by decide) ?_
  refine a_iload_n 18 3 hC dX0_wayTo_17 rfl rfl rfl ?_
  refine a_imul 19 hC dX0_wayTo_18 rfl ?_
  refine a_iload_n 20 2 hC dX0_wayTo_19 rfl rfl rfl ?_
  refine a_icmp_le 29 23 hC dX0_wayTo_20 (by decide) rfl (fun c2 => ?_) (fun c2 => ?_)
  · have h := ifp c2 h
    refine a_iload_n 30 3 hC dX0_wayTo_29 rfl rfl rfl ?_
    obtain rfl := Option.some.inj h
    exact a_iret hC hR ⟨rfl, rfl⟩ (Nat.le_refl _) (Nat.le_refl _) dX0_wayTo_30
  · have h := ifn c2 h
    refine a_iload_n 24 3 hC dX0_wayTo_23 rfl rfl rfl ?_
    refine a_iload_n 25 2 hC dX0_wayTo_24 rfl rfl rfl ?_
    refine a_isub 26 hC dX0_wayTo_25 rfl ?_
    refine a_goto 30 hC dX0_wayTo_26 (by decide) ?_
    obtain rfl := Option.some.inj h
    exact a_iret hC hR ⟨rfl, rfl⟩ (Nat.le_refl _) (Nat.le_refl _) dX0_wayTo_30
theorem c_X0_wayTo (l : Launch) (D : va_G) (z : ClassId × ClassId × ClassId) (ha : Nat) (x1 : Int32) (x2 : Int32) (place : Int32) (speed : Int32) (offset : Int32) (res : (Int32)) (h : f_X0_wayTo x1 x2 place offset = some res) : Ct l D z yX0_wayTo cX0_wayTo 4 (some .int) rm_X0_wayTo [.ref ha, .int x1, .int x2] (chW ha place speed offset) (fun r w => r = some (.int res) ∧ w = (chW ha place speed offset)) := by
  refine Ct.of (by decide +kernel) (Nat.le_of_ble_eq_true rfl) (fun X hC hl hz hn hR => ?_)
  have hz1 : X.2.2.2.2 = z := by rw [hz]
  subst hz1
  exact t_X0_wayTo hC ha x1 x2 place speed offset res hR h

/-! X0_isAt -/
abbrev rm_X0_isAt : Room := { frames := 2, cells := 0, slots := 0, locals := 45 }
theorem ds_X0_isAt : yX0_isAt.cls ≠ "java/lang/invoke/MethodHandle" ∧ yX0_isAt.cls ≠ "java/lang/invoke/VarHandle" ∧ (parseMethodDescriptor yX0_isAt.desc).map (fun d => d.parameters.length) = some 2 := by decide +kernel
def f_X0_isAt (x1 : Int32) (x2 : Int32) (place : Int32) (speed : Int32) (offset : Int32) : Option ((Int32)) := (if speed = (0 : Int32) then ((f_X0_wayTo x1 x2 place offset).bind fun r2 => (if r2 = (0 : Int32) then (some (1 : Int32)) else (some (0 : Int32)))) else (some (0 : Int32)))
set_option maxRecDepth 100000 in
set_option maxHeartbeats 4000000 in
theorem t_X0_isAt {X : qX} (hC : Ok X rm_X0_isAt cX0_isAt 3 RX0 (some .boolean)) (ha : Nat) (x1 : Int32) (x2 : Int32) (place : Int32) (speed : Int32) (offset : Int32) (res : (Int32)) (hR : Rt X 0 0 (fun r w => r = some (.int res) ∧ w = (chW ha place speed offset))) (h : f_X0_isAt x1 x2 place speed offset = some res) : At X 0 0 0 (chW ha place speed offset) [(0, .ref ha), (1, .int x1), (2, .int x2)] [] := by
  unfold f_X0_isAt at h
  refine a_aload_n 1 0 hC dX0_isAt_0 rfl rfl rfl ?_
  refine a_get 4 0 0 1 hC inB_X0 rfl rfl (by decide) wq173 rfl rfl dX0_isAt_1 rfl ?_
  refine a_if_ne 20 7 hC dX0_isAt_4 (by decide) rfl (fun c1 => ?_) (fun c1 => ?_)
  · have h := ifn c1 h
    refine a_iconst 21 (v := (0 : Int32)) hC dX0_isAt_20 rfl (by decide) ?_
    obtain rfl := Option.some.inj h
    exact a_zret hC hR ⟨rfl, rfl⟩ rfl (Nat.le_refl _) (Nat.le_refl _) dX0_isAt_21
  · have h := ifp c1 h
    refine a_aload_n 8 0 hC dX0_isAt_7 rfl rfl rfl ?_
    refine a_iload_n 9 1 hC dX0_isAt_8 rfl rfl rfl ?_
    refine a_iload_n 10 2 hC dX0_isAt_9 rfl rfl rfl ?_
    obtain ⟨r2, gr2, h⟩ := bd h
    refine a_callVs 13 (chW ha place speed offset) 0 0 [.int x1, .int x2] [] (some (.int r2)) [.int r2] hC (c_X0_wayTo X.1.2.1 X.2.2.2.1 X.2.2.2.2 ha x1 x2 place speed offset r2 gr2) ⟨wq529, wq28, wq532, ds_X0_wayTo, by decide, by decide⟩ wq530 wq531 rfl rfl (Nat.le_of_ble_eq_true rfl) dX0_isAt_10 rfl rfl rfl ⟨(Nat.le_refl _), (Nat.le_refl _)⟩ rfl rfl rfl ?_
    refine a_if_ne 20 16 hC dX0_isAt_13 (by decide) rfl (fun c3 => ?_) (fun c3 => ?_)
    · have h := ifn c3 h
      refine a_iconst 21 (v := (0 : Int32)) hC dX0_isAt_20 rfl (by decide) ?_
      obtain rfl := Option.some.inj h
      exact a_zret hC hR ⟨rfl, rfl⟩ rfl (Nat.le_refl _) (Nat.le_refl _) dX0_isAt_21
    · have h := ifp c3 h
      refine a_iconst 17 (v := (1 : Int32)) hC dX0_isAt_16 rfl (by decide) ?_
      refine a_goto 21 hC dX0_isAt_17 (by decide) ?_
      obtain rfl := Option.some.inj h
      exact a_zret hC hR ⟨rfl, rfl⟩ rfl (Nat.le_refl _) (Nat.le_refl _) dX0_isAt_21
theorem c_X0_isAt (l : Launch) (D : va_G) (z : ClassId × ClassId × ClassId) (ha : Nat) (x1 : Int32) (x2 : Int32) (place : Int32) (speed : Int32) (offset : Int32) (res : (Int32)) (h : f_X0_isAt x1 x2 place speed offset = some res) : Ct l D z yX0_isAt cX0_isAt 3 (some .boolean) rm_X0_isAt [.ref ha, .int x1, .int x2] (chW ha place speed offset) (fun r w => r = some (.int res) ∧ w = (chW ha place speed offset)) := by
  refine Ct.of (by decide +kernel) (Nat.le_of_ble_eq_true rfl) (fun X hC hl hz hn hR => ?_)
  have hz1 : X.2.2.2.2 = z := by rw [hz]
  subst hz1
  exact t_X0_isAt hC ha x1 x2 place speed offset res hR h

/-! X0_wantedFor -/
abbrev rm_X0_wantedFor : Room := { frames := 1, cells := 0, slots := 0, locals := 40 }
theorem ds_X0_wantedFor : yX0_wantedFor.cls ≠ "java/lang/invoke/MethodHandle" ∧ yX0_wantedFor.cls ≠ "java/lang/invoke/VarHandle" ∧ (parseMethodDescriptor yX0_wantedFor.desc).map (fun d => d.parameters.length) = some 1 := by decide +kernel
def f_X0_wantedFor_42 (x0 : Int32) (x1 : Int32) (v2 : Int32) (v3 : Int32) : Option (((Int32) × (Int32)) ⊕ ((Int32))) := (nm (v3 / (2 : Int32)) fun v5 => (some (.inl (v2, v5))))
set_option maxRecDepth 100000 in
set_option maxHeartbeats 4000000 in
theorem t_X0_wantedFor_42 {X : qX} (hC : Ok X rm_X0_wantedFor cX0_wantedFor 5 RX0 (some .int)) (x0 : Int32) (x1 : Int32) (v2 : Int32) (v3 : Int32) (o : (((Int32) × (Int32))) ⊕ (((Int32)))) (h : f_X0_wantedFor_42 x0 x1 v2 v3 = some o) (hk : Sum.elim (fun (w : ((Int32) × (Int32))) => At X 0 0 10 [] [(0, .int x0), (1, .int x1), (2, .int w.1), (3, .int w.2)] []) (fun (w : (Int32)) => At X 0 0 49 [] [(0, .int x0), (2, .int w)] []) o) : At X 0 0 42 [] [(0, .int x0), (1, .int x1), (2, .int v2), (3, .int v3)] [] := by
  unfold f_X0_wantedFor_42 at h
  refine a_iload_n 43 3 hC dX0_wantedFor_42 rfl rfl rfl ?_
  refine a_iconst 44 (v := (2 : Int32)) hC dX0_wantedFor_43 rfl (by decide) ?_
  refine a_idiv 45 hC dX0_wantedFor_44 rfl (by decide) ?_
  obtain ⟨v5, ev5, h⟩ := nmx h
  refine a_nm ev5 ?_
  refine a_istore_n 46 [(0, .int x0), (1, .int x1), (2, .int v2), (3, .int v5)] [1, 2, 3, 0] hC dX0_wantedFor_45 rfl rfl (by decide) rfl ?_
  refine a_goto 10 hC dX0_wantedFor_46 (by decide) ?_
  obtain rfl := Option.some.inj h
  exact hk
def fb_X0_wantedFor_10 (x0 : Int32) (x1 : Int32) (w : ((Int32) × (Int32))) : Option (((Int32) × (Int32)) ⊕ ((Int32))) := (if w.2 ≤ (0 : Int32) then (some (.inr w.1)) else (nm (w.1 + w.2) fun v3 => (if (99 : Int32) < v3 then (f_X0_wantedFor_42 x0 x1 w.1 w.2) else (if x1 < ((v3 * (v3 + (1 : Int32))) / (2 : Int32)) then (f_X0_wantedFor_42 x0 x1 w.1 w.2) else (f_X0_wantedFor_42 x0 x1 v3 w.2)))))
set_option maxRecDepth 100000 in
set_option maxHeartbeats 4000000 in
theorem tb_X0_wantedFor_10 {X : qX} (hC : Ok X rm_X0_wantedFor cX0_wantedFor 5 RX0 (some .int)) (x0 : Int32) (x1 : Int32) (w : ((Int32) × (Int32))) (o : ((Int32) × (Int32)) ⊕ (((Int32)))) (h : fb_X0_wantedFor_10 x0 x1 w = some o) (hk : Sum.elim (fun (w : ((Int32) × (Int32))) => At X 0 0 10 [] [(0, .int x0), (1, .int x1), (2, .int w.1), (3, .int w.2)] []) (fun (w : (Int32)) => At X 0 0 49 [] [(0, .int x0), (2, .int w)] []) o) : At X 0 0 10 [] [(0, .int x0), (1, .int x1), (2, .int w.1), (3, .int w.2)] [] := by
  unfold fb_X0_wantedFor_10 at h
  refine a_iload_n 11 3 hC dX0_wantedFor_10 rfl rfl rfl ?_
  refine a_if_le 49 14 hC dX0_wantedFor_11 (by decide) rfl (fun c2 => ?_) (fun c2 => ?_)
  · have h := ifp c2 h
    obtain rfl := Option.some.inj h
    refine a_lv [0, 2] [(0, .int x0), (2, .int w.1)] rfl ?_
    exact hk
  · have h := ifn c2 h
    refine a_iload_n 15 2 hC dX0_wantedFor_14 rfl rfl rfl ?_
    refine a_iload_n 16 3 hC dX0_wantedFor_15 rfl rfl rfl ?_
    refine a_iadd 17 hC dX0_wantedFor_16 rfl ?_
    obtain ⟨v3, ev3, h⟩ := nmx h
    refine a_nm ev3 ?_
    refine a_istore 19 [(0, .int x0), (1, .int x1), (2, .int w.1), (3, .int w.2), (4, .int v3)] [1, 2, 3, 4, 0] hC dX0_wantedFor_17 rfl (by decide) rfl ?_
    refine a_iload 21 4 hC dX0_wantedFor_19 rfl rfl ?_
    refine a_bipush 23 (v := (99 : Int32)) hC dX0_wantedFor_21 rfl (by decide) ?_
    refine a_icmp_gt 42 26 hC dX0_wantedFor_23 (by decide) rfl (fun c4 => ?_) (fun c4 => ?_)
    · have h := ifp c4 h
      refine a_lv [0, 1, 2, 3] [(0, .int x0), (1, .int x1), (2, .int w.1), (3, .int w.2)] rfl ?_
      exact t_X0_wantedFor_42 hC x0 x1 w.1 w.2 o h hk
    · have h := ifn c4 h
      refine a_iload 28 4 hC dX0_wantedFor_26 rfl rfl ?_
      refine a_iload 30 4 hC dX0_wantedFor_28 rfl rfl ?_
      refine a_iconst 31 (v := (1 : Int32)) hC dX0_wantedFor_30 rfl (by decide) ?_
      refine a_iadd 32 hC dX0_wantedFor_31 rfl ?_
      refine a_imul 33 hC dX0_wantedFor_32 rfl ?_
      refine a_iconst 34 (v := (2 : Int32)) hC dX0_wantedFor_33 rfl (by decide) ?_
      refine a_idiv 35 hC dX0_wantedFor_34 rfl (by decide) ?_
      refine a_iload_n 36 1 hC dX0_wantedFor_35 rfl rfl rfl ?_
      refine a_icmp_gt 42 39 hC dX0_wantedFor_36 (by decide) rfl (fun c6 => ?_) (fun c6 => ?_)
      · have h := ifp c6 h
        refine a_lv [0, 1, 2, 3] [(0, .int x0), (1, .int x1), (2, .int w.1), (3, .int w.2)] rfl ?_
        exact t_X0_wantedFor_42 hC x0 x1 w.1 w.2 o h hk
      · have h := ifn c6 h
        refine a_iload 41 4 hC dX0_wantedFor_39 rfl rfl ?_
        refine a_istore_n 42 [(0, .int x0), (1, .int x1), (2, .int v3), (3, .int w.2), (4, .int v3)] [1, 2, 0, 3, 4] hC dX0_wantedFor_41 rfl rfl (by decide) rfl ?_
        refine a_lv [0, 1, 2, 3] [(0, .int x0), (1, .int x1), (2, .int v3), (3, .int w.2)] rfl ?_
        exact t_X0_wantedFor_42 hC x0 x1 v3 w.2 o h hk
def f_X0_wantedFor (x1 : Int32) : Option ((Int32)) := (nm (q_abs x1) fun v1 => ((lp (fb_X0_wantedFor_10 x1 v1) 100000 ((0 : Int32), (64 : Int32))).bind fun r7 => (if (0 : Int32) ≤ x1 then (some r7) else (some (-r7)))))
set_option maxRecDepth 100000 in
set_option maxHeartbeats 4000000 in
theorem t_X0_wantedFor {X : qX} (hC : Ok X rm_X0_wantedFor cX0_wantedFor 5 RX0 (some .int)) (x1 : Int32) (res : (Int32)) (hR : Rt X 0 0 (fun r w => r = some (.int res) ∧ w = [])) (h : f_X0_wantedFor x1 = some res) : At X 0 0 0 [] [(0, .int x1)] [] := by
  unfold f_X0_wantedFor at h
  refine a_iload_n 1 0 hC dX0_wantedFor_0 rfl rfl rfl ?_
  refine a_mabs 4 hC wq537 wq538 wq31 wq539 (by decide) (Nat.le_of_ble_eq_true rfl) (Nat.le_refl _) (Nat.le_refl _) dX0_wantedFor_1 rfl ?_
  obtain ⟨v1, ev1, h⟩ := nmx h
  refine a_nm ev1 ?_
  refine a_istore_n 5 [(0, .int x1), (1, .int v1)] [1, 0] hC dX0_wantedFor_4 rfl rfl (by decide) rfl ?_
  refine a_iconst 6 (v := (0 : Int32)) hC dX0_wantedFor_5 rfl (by decide) ?_
  refine a_istore_n 7 [(0, .int x1), (1, .int v1), (2, .int (0 : Int32))] [1, 2, 0] hC dX0_wantedFor_6 rfl rfl (by decide) rfl ?_
  refine a_bipush 9 (v := (64 : Int32)) hC dX0_wantedFor_7 rfl (by decide) ?_
  refine a_istore_n 10 [(0, .int x1), (1, .int v1), (2, .int (0 : Int32)), (3, .int (64 : Int32))] [1, 2, 3, 0] hC dX0_wantedFor_9 rfl rfl (by decide) rfl ?_
  obtain ⟨r7, gr7, h⟩ := bd h
  refine lp_walk (Wh := (fun (u10 : ((Int32) × (Int32))) => At X 0 0 10 [] [(0, .int x1), (1, .int v1), (2, .int u10.1), (3, .int u10.2)] [])) (We := (fun (u10 : (Int32)) => At X 0 0 49 [] [(0, .int x1), (2, .int u10)] [])) (fun u9 o9 hb9 hk9 => tb_X0_wantedFor_10 hC x1 v1 u9 o9 hb9 hk9) 100000 ((0 : Int32), (64 : Int32)) r7 gr7 ?_
  show At X 0 0 49 [] [(0, .int x1), (2, .int r7)] []
  refine a_iload_n 50 0 hC dX0_wantedFor_49 rfl rfl rfl ?_
  refine a_if_ge 58 53 hC dX0_wantedFor_50 (by decide) rfl (fun c8 => ?_) (fun c8 => ?_)
  · have h := ifp c8 h
    refine a_iload_n 59 1 hC dX0_wantedFor_58 rfl rfl rfl ?_
    obtain rfl := Option.some.inj h
    exact a_iret hC hR ⟨rfl, rfl⟩ (Nat.le_refl _) (Nat.le_refl _) dX0_wantedFor_59
  · have h := ifn c8 h
    refine a_iload_n 54 1 hC dX0_wantedFor_53 rfl rfl rfl ?_
    refine a_ineg 55 hC dX0_wantedFor_54 rfl ?_
    refine a_goto 59 hC dX0_wantedFor_55 (by decide) ?_
    obtain rfl := Option.some.inj h
    exact a_iret hC hR ⟨rfl, rfl⟩ (Nat.le_refl _) (Nat.le_refl _) dX0_wantedFor_59
theorem c_X0_wantedFor (l : Launch) (D : va_G) (z : ClassId × ClassId × ClassId) (x1 : Int32) (res : (Int32)) (h : f_X0_wantedFor x1 = some res) : Ct l D z yX0_wantedFor cX0_wantedFor 5 (some .int) rm_X0_wantedFor [.int x1] [] (fun r w => r = some (.int res) ∧ w = []) := by
  refine Ct.of (by decide +kernel) (Nat.le_of_ble_eq_true rfl) (fun X hC hl hz hn hR => ?_)
  have hz1 : X.2.2.2.2 = z := by rw [hz]
  subst hz1
  exact t_X0_wantedFor hC x1 res hR h

/-! X0_step -/
abbrev rm_X0_step : Room := { frames := 2, cells := 0, slots := 0, locals := 64 }
theorem ds_X0_step : yX0_step.cls ≠ "java/lang/invoke/MethodHandle" ∧ yX0_step.cls ≠ "java/lang/invoke/VarHandle" ∧ (parseMethodDescriptor yX0_step.desc).map (fun d => d.parameters.length) = some 2 := by decide +kernel
def f_X0_step (x1 : Int32) (x2 : Int32) (place : Int32) (speed : Int32) (offset : Int32) : Option ((Int32) × (Int32)) := ((f_X0_wayTo x1 x2 place offset).bind fun r1 => ((f_X0_wantedFor r1).bind fun r2 => ((f_J6_compare_7cf53 r2 speed).bind fun r3 => (nm (speed + r3) fun v4 => ((f_J9_floorMod_7cf53 (place + v4) x2).bind fun r5 => (some (r5, v4)))))))
set_option maxRecDepth 100000 in
set_option maxHeartbeats 4000000 in
theorem t_X0_step {X : qX} (hC : Ok X rm_X0_step cX0_step 4 RX0 none) (ha : Nat) (x1 : Int32) (x2 : Int32) (place : Int32) (speed : Int32) (offset : Int32) (res : (Int32) × (Int32)) (hR : Rt X 0 0 (fun r w => r = none ∧ w = (chW ha res.1 res.2 offset))) (h : f_X0_step x1 x2 place speed offset = some res) : At X 0 0 0 (chW ha place speed offset) [(0, .ref ha), (1, .int x1), (2, .int x2)] [] := by
  unfold f_X0_step at h
  refine a_aload_n 1 0 hC dX0_step_0 rfl rfl rfl ?_
  refine a_iload_n 2 1 hC dX0_step_1 rfl rfl rfl ?_
  refine a_iload_n 3 2 hC dX0_step_2 rfl rfl rfl ?_
  obtain ⟨r1, gr1, h⟩ := bd h
  refine a_callVs 6 (chW ha place speed offset) 0 0 [.int x1, .int x2] [] (some (.int r1)) [.int r1] hC (c_X0_wayTo X.1.2.1 X.2.2.2.1 X.2.2.2.2 ha x1 x2 place speed offset r1 gr1) ⟨wq529, wq28, wq532, ds_X0_wayTo, by decide, by decide⟩ wq530 wq531 rfl rfl (Nat.le_of_ble_eq_true rfl) dX0_step_3 rfl rfl rfl ⟨(Nat.le_refl _), (Nat.le_refl _)⟩ rfl rfl rfl ?_
  obtain ⟨r2, gr2, h⟩ := bd h
  refine a_call0 9 [.int r1] [] (.int r2) hC (c_X0_wantedFor X.1.2.1 X.2.2.2.1 X.2.2.2.2 r1 r2 gr2) ⟨wq534, wq28, wq536, ds_X0_wantedFor, by decide, by decide⟩ wq535 rfl rfl (Nat.le_of_ble_eq_true rfl) dX0_step_6 rfl rfl rfl ⟨(Nat.le_refl _), (Nat.le_refl _)⟩ ?_
  refine a_istore_n 10 [(0, .ref ha), (1, .int x1), (2, .int x2), (3, .int r2)] [1, 2, 3, 0] hC dX0_step_9 rfl rfl (by decide) rfl ?_
  refine a_aload_n 11 0 hC dX0_step_10 rfl rfl rfl ?_
  refine a_dup 12 hC dX0_step_11 rfl rfl ?_
  refine a_get 15 0 0 1 hC inB_X0 rfl rfl (by decide) wq173 rfl rfl dX0_step_12 rfl ?_
  refine a_iload_n 16 3 hC dX0_step_15 rfl rfl rfl ?_
  refine a_aload_n 17 0 hC dX0_step_16 rfl rfl rfl ?_
  refine a_get 20 0 0 1 hC inB_X0 rfl rfl (by decide) wq173 rfl rfl dX0_step_17 rfl ?_
  obtain ⟨r3, gr3, h⟩ := bd h
  refine a_call0 23 [.int r2, .int speed] [.int speed, .ref ha] (.int r3) hC (c_J6_compare_7cf53 X.1.2.1 X.2.2.2.1 X.2.2.2.2 r2 speed r3 gr3) ⟨wq540, wq35, wq542, ds_J6_compare_7cf53, by decide, by decide⟩ wq541 rfl rfl (Nat.le_of_ble_eq_true rfl) dX0_step_20 rfl rfl rfl ⟨(Nat.le_refl _), (Nat.le_refl _)⟩ ?_
  refine a_iadd 24 hC dX0_step_23 rfl ?_
  obtain ⟨v4, ev4, h⟩ := nmx h
  refine a_nm ev4 ?_
  refine a_put 27 0 0 1 (chW ha place v4 offset) tyX0 hC inB_X0 tyX0_ok nmX0 rfl rfl (by decide) wq173 rfl rfl rfl rfl rfl (Nat.le_of_ble_eq_true rfl) dX0_step_24 rfl rfl ?_
  refine a_aload_n 28 0 hC dX0_step_27 rfl rfl rfl ?_
  refine a_aload_n 29 0 hC dX0_step_28 rfl rfl rfl ?_
  refine a_get 32 0 0 0 hC inB_X0 rfl rfl (by decide) wq170 rfl rfl dX0_step_29 rfl ?_
  refine a_aload_n 33 0 hC dX0_step_32 rfl rfl rfl ?_
  refine a_get 36 0 0 1 hC inB_X0 rfl rfl (by decide) wq173 rfl rfl dX0_step_33 rfl ?_
  refine a_iadd 37 hC dX0_step_36 rfl ?_
  refine a_iload_n 38 2 hC dX0_step_37 rfl rfl rfl ?_
  obtain ⟨r5, gr5, h⟩ := bd h
  refine a_call0 41 [.int (place + v4), .int x2] [.ref ha] (.int r5) hC (c_J9_floorMod_7cf53 X.1.2.1 X.2.2.2.1 X.2.2.2.2 (place + v4) x2 r5 gr5) ⟨wq533, wq31, wq263, ds_J9_floorMod_7cf53, by decide, by decide⟩ wq262 rfl rfl (Nat.le_of_ble_eq_true rfl) dX0_step_38 rfl rfl rfl ⟨(Nat.le_refl _), (Nat.le_refl _)⟩ ?_
  refine a_put 44 0 0 0 (chW ha r5 v4 offset) tyX0 hC inB_X0 tyX0_ok nmX0 rfl rfl (by decide) wq170 rfl rfl rfl rfl rfl (Nat.le_of_ble_eq_true rfl) dX0_step_41 rfl rfl ?_
  obtain rfl := Option.some.inj h
  exact a_vret hC hR ⟨rfl, rfl⟩ (Nat.le_refl _) (Nat.le_refl _) dX0_step_44
theorem c_X0_step (l : Launch) (D : va_G) (z : ClassId × ClassId × ClassId) (ha : Nat) (x1 : Int32) (x2 : Int32) (place : Int32) (speed : Int32) (offset : Int32) (res : (Int32) × (Int32)) (h : f_X0_step x1 x2 place speed offset = some res) : Ct l D z yX0_step cX0_step 4 none rm_X0_step [.ref ha, .int x1, .int x2] (chW ha place speed offset) (fun r w => r = none ∧ w = (chW ha res.1 res.2 offset)) := by
  refine Ct.of (by decide +kernel) (Nat.le_of_ble_eq_true rfl) (fun X hC hl hz hn hR => ?_)
  have hz1 : X.2.2.2.2 = z := by rw [hz]
  subst hz1
  exact t_X0_step hC ha x1 x2 place speed offset res hR h

/-! X0_copy -/
abbrev rm_X0_copy : Room := { frames := 0, cells := 0, slots := 0, locals := 0 }
theorem ds_X0_copy : yX0_copy.cls ≠ "java/lang/invoke/MethodHandle" ∧ yX0_copy.cls ≠ "java/lang/invoke/VarHandle" ∧ (parseMethodDescriptor yX0_copy.desc).map (fun d => d.parameters.length) = some 1 := by decide +kernel
def f_X0_copy (place : Int32) (speed : Int32) (offset : Int32) (place2 : Int32) (speed2 : Int32) (offset2 : Int32) : Option ((Int32) × (Int32) × (Int32)) := (some (place2, speed2, offset2))
set_option maxRecDepth 100000 in
set_option maxHeartbeats 4000000 in
theorem t_X0_copy {X : qX} (hC : Ok X rm_X0_copy cX0_copy 2 RX0 none) (ha ga : Nat) (place : Int32) (speed : Int32) (offset : Int32) (place2 : Int32) (speed2 : Int32) (offset2 : Int32) (res : (Int32) × (Int32) × (Int32)) (hR : Rt X 0 0 (fun r w => r = none ∧ w = (chW ha res.1 res.2.1 res.2.2 ++ chW ga place2 speed2 offset2))) (h : f_X0_copy place speed offset place2 speed2 offset2 = some res) : At X 0 0 0 (chW ha place speed offset ++ chW ga place2 speed2 offset2) [(0, .ref ha), (1, .ref ga)] [] := by
  unfold f_X0_copy at h
  refine a_aload_n 1 0 hC dX0_copy_0 rfl rfl rfl ?_
  refine a_aload_n 2 1 hC dX0_copy_1 rfl rfl rfl ?_
  refine a_get 5 1 0 0 hC inB_X0 rfl rfl (by decide) wq170 rfl rfl dX0_copy_2 rfl ?_
  refine a_put 8 0 0 0 (chW ha place2 speed offset ++ chW ga place2 speed2 offset2) tyX0 hC inB_X0 tyX0_ok nmX0 rfl rfl (by decide) wq170 rfl rfl rfl rfl rfl (Nat.le_of_ble_eq_true rfl) dX0_copy_5 rfl rfl ?_
  refine a_aload_n 9 0 hC dX0_copy_8 rfl rfl rfl ?_
  refine a_aload_n 10 1 hC dX0_copy_9 rfl rfl rfl ?_
  refine a_get 13 1 0 1 hC inB_X0 rfl rfl (by decide) wq173 rfl rfl dX0_copy_10 rfl ?_
  refine a_put 16 0 0 1 (chW ha place2 speed2 offset ++ chW ga place2 speed2 offset2) tyX0 hC inB_X0 tyX0_ok nmX0 rfl rfl (by decide) wq173 rfl rfl rfl rfl rfl (Nat.le_of_ble_eq_true rfl) dX0_copy_13 rfl rfl ?_
  refine a_aload_n 17 0 hC dX0_copy_16 rfl rfl rfl ?_
  refine a_aload_n 18 1 hC dX0_copy_17 rfl rfl rfl ?_
  refine a_get 21 1 0 2 hC inB_X0 rfl rfl (by decide) wq175 rfl rfl dX0_copy_18 rfl ?_
  refine a_put 24 0 0 2 (chW ha place2 speed2 offset2 ++ chW ga place2 speed2 offset2) tyX0 hC inB_X0 tyX0_ok nmX0 rfl rfl (by decide) wq175 rfl rfl rfl rfl rfl (Nat.le_of_ble_eq_true rfl) dX0_copy_21 rfl rfl ?_
  obtain rfl := Option.some.inj h
  exact a_vret hC hR ⟨rfl, rfl⟩ (Nat.le_refl _) (Nat.le_refl _) dX0_copy_24
theorem c_X0_copy (l : Launch) (D : va_G) (z : ClassId × ClassId × ClassId) (ha ga : Nat) (place : Int32) (speed : Int32) (offset : Int32) (place2 : Int32) (speed2 : Int32) (offset2 : Int32) (res : (Int32) × (Int32) × (Int32)) (h : f_X0_copy place speed offset place2 speed2 offset2 = some res) : Ct l D z yX0_copy cX0_copy 2 none rm_X0_copy [.ref ha, .ref ga] (chW ha place speed offset ++ chW ga place2 speed2 offset2) (fun r w => r = none ∧ w = (chW ha res.1 res.2.1 res.2.2 ++ chW ga place2 speed2 offset2)) := by
  refine Ct.of (by decide +kernel) (Nat.le_of_ble_eq_true rfl) (fun X hC hl hz hn hR => ?_)
  have hz1 : X.2.2.2.2 = z := by rw [hz]
  subst hz1
  exact t_X0_copy hC ha ga place speed offset place2 speed2 offset2 res hR h

/-! X6_standAt -/
abbrev rm_X6_standAt : Room := { frames := 0, cells := 0, slots := 0, locals := 0 }
theorem ds_X6_standAt : yX6_standAt.cls ≠ "java/lang/invoke/MethodHandle" ∧ yX6_standAt.cls ≠ "java/lang/invoke/VarHandle" ∧ (parseMethodDescriptor yX6_standAt.desc).map (fun d => d.parameters.length) = some 2 := by decide +kernel
def f_X6_standAt (x1 : Int32) (x2 : Int32) (frame : Int32) (course : Int32) (missed : Int32) : Option ((Int32) × (Int32) × (Int32)) := (some (x1, x2, (0 : Int32)))
set_option maxRecDepth 100000 in
set_option maxHeartbeats 4000000 in
theorem t_X6_standAt {X : qX} (hC : Ok X rm_X6_standAt cX6_standAt 3 RX6 none) (ha : Nat) (x1 : Int32) (x2 : Int32) (frame : Int32) (course : Int32) (missed : Int32) (hold : Int32) (res : (Int32) × (Int32) × (Int32)) (hR : Rt X 0 0 (fun r w => r = none ∧ w = (whW ha res.1 res.2.1 res.2.2 hold))) (h : f_X6_standAt x1 x2 frame course missed = some res) : At X 0 0 0 (whW ha frame course missed hold) [(0, .ref ha), (1, .int x1), (2, .int x2)] [] := by
  unfold f_X6_standAt at h
  refine a_aload_n 1 0 hC dX6_standAt_0 rfl rfl rfl ?_
  refine a_iload_n 2 1 hC dX6_standAt_1 rfl rfl rfl ?_
  refine a_put 5 0 5 0 (whW ha x1 course missed hold) tyX6 hC inB_X6 tyX6_ok nmX6 rfl rfl (by decide) wq146 rfl rfl rfl rfl rfl (Nat.le_of_ble_eq_true rfl) dX6_standAt_2 rfl rfl ?_
  refine a_aload_n 6 0 hC dX6_standAt_5 rfl rfl rfl ?_
  refine a_iload_n 7 2 hC dX6_standAt_6 rfl rfl rfl ?_
  refine a_put 10 0 5 1 (whW ha x1 x2 missed hold) tyX6 hC inB_X6 tyX6_ok nmX6 rfl rfl (by decide) wq149 rfl rfl rfl rfl rfl (Nat.le_of_ble_eq_true rfl) dX6_standAt_7 rfl rfl ?_
  refine a_aload_n 11 0 hC dX6_standAt_10 rfl rfl rfl ?_
  refine a_iconst 12 (v := (0 : Int32)) hC dX6_standAt_11 rfl (by decide) ?_
  refine a_put 15 0 5 2 (whW ha x1 x2 (0 : Int32) hold) tyX6 hC inB_X6 tyX6_ok nmX6 rfl rfl (by decide) wq151 rfl rfl rfl rfl rfl (Nat.le_of_ble_eq_true rfl) dX6_standAt_12 rfl rfl ?_
  obtain rfl := Option.some.inj h
  exact a_vret hC hR ⟨rfl, rfl⟩ (Nat.le_refl _) (Nat.le_refl _) dX6_standAt_15
theorem c_X6_standAt (l : Launch) (D : va_G) (z : ClassId × ClassId × ClassId) (ha : Nat) (x1 : Int32) (x2 : Int32) (frame : Int32) (course : Int32) (missed : Int32) (hold : Int32) (res : (Int32) × (Int32) × (Int32)) (h : f_X6_standAt x1 x2 frame course missed = some res) : Ct l D z yX6_standAt cX6_standAt 3 none rm_X6_standAt [.ref ha, .int x1, .int x2] (whW ha frame course missed hold) (fun r w => r = none ∧ w = (whW ha res.1 res.2.1 res.2.2 hold)) := by
  refine Ct.of (by decide +kernel) (Nat.le_of_ble_eq_true rfl) (fun X hC hl hz hn hR => ?_)
  have hz1 : X.2.2.2.2 = z := by rw [hz]
  subst hz1
  exact t_X6_standAt hC ha x1 x2 frame course missed hold res hR h

/-! X6_coast -/
abbrev rm_X6_coast : Room := { frames := 1, cells := 0, slots := 0, locals := 22 }
theorem ds_X6_coast : yX6_coast.cls ≠ "java/lang/invoke/MethodHandle" ∧ yX6_coast.cls ≠ "java/lang/invoke/VarHandle" ∧ (parseMethodDescriptor yX6_coast.desc).map (fun d => d.parameters.length) = some 1 := by decide +kernel
def f_X6_coast (x1 : Int32) (frame : Int32) (course : Int32) (missed : Int32) (hold : Int32) : Option ((Int32) × (Int32) × (Int32)) := (if missed < hold then (nm (missed + (1 : Int32)) fun v2 => ((f_J9_floorMod_7cf53 (frame + course) x1).bind fun r3 => (some ((1 : Int32), r3, v2)))) else (some ((0 : Int32), frame, missed)))
set_option maxRecDepth 100000 in
set_option maxHeartbeats 4000000 in
theorem t_X6_coast {X : qX} (hC : Ok X rm_X6_coast cX6_coast 2 RX6 (some .boolean)) (ha : Nat) (x1 : Int32) (frame : Int32) (course : Int32) (missed : Int32) (hold : Int32) (res : (Int32) × (Int32) × (Int32)) (hR : Rt X 0 0 (fun r w => r = some (.int res.1) ∧ w = (whW ha res.2.1 course res.2.2 hold))) (h : f_X6_coast x1 frame course missed hold = some res) : At X 0 0 0 (whW ha frame course missed hold) [(0, .ref ha), (1, .int x1)] [] := by
  unfold f_X6_coast at h
  refine a_aload_n 1 0 hC dX6_coast_0 rfl rfl rfl ?_
  refine a_get 4 0 5 2 hC inB_X6 rfl rfl (by decide) wq151 rfl rfl dX6_coast_1 rfl ?_
  refine a_aload_n 5 0 hC dX6_coast_4 rfl rfl rfl ?_
  refine a_get 8 0 5 3 hC inB_X6 rfl rfl (by decide) wq153 rfl rfl dX6_coast_5 rfl ?_
  refine a_icmp_lt 13 11 hC dX6_coast_8 (by decide) rfl (fun c1 => ?_) (fun c1 => ?_)
  · have h := ifp c1 h
    refine a_aload_n 14 0 hC dX6_coast_13 rfl rfl rfl ?_
    refine a_dup 15 hC dX6_coast_14 rfl rfl ?_
    refine a_get 18 0 5 2 hC inB_X6 rfl rfl (by decide) wq151 rfl rfl dX6_coast_15 rfl ?_
    refine a_iconst 19 (v := (1 : Int32)) hC dX6_coast_18 rfl (by decide) ?_
    refine a_iadd 20 hC dX6_coast_19 rfl ?_
    obtain ⟨v2, ev2, h⟩ := nmx h
    refine a_nm ev2 ?_
    refine a_put 23 0 5 2 (whW ha frame course v2 hold) tyX6 hC inB_X6 tyX6_ok nmX6 rfl rfl (by decide) wq151 rfl rfl rfl rfl rfl (Nat.le_of_ble_eq_true rfl) dX6_coast_20 rfl rfl ?_
    refine a_aload_n 24 0 hC dX6_coast_23 rfl rfl rfl ?_
    refine a_aload_n 25 0 hC dX6_coast_24 rfl rfl rfl ?_
    refine a_get 28 0 5 0 hC inB_X6 rfl rfl (by decide) wq146 rfl rfl dX6_coast_25 rfl ?_
    refine a_aload_n 29 0 hC dX6_coast_28 rfl rfl rfl ?_
    refine a_get 32 0 5 1 hC inB_X6 rfl rfl (by decide) wq149 rfl rfl dX6_coast_29 rfl ?_
    refine a_iadd 33 hC dX6_coast_32 rfl ?_
    refine a_iload_n 34 1 hC dX6_coast_33 rfl rfl rfl ?_
    obtain ⟨r3, gr3, h⟩ := bd h
    refine a_call0 37 [.int (frame + course), .int x1] [.ref ha] (.int r3) hC (c_J9_floorMod_7cf53 X.1.2.1 X.2.2.2.1 X.2.2.2.2 (frame + course) x1 r3 gr3) ⟨wq501, wq31, wq263, ds_J9_floorMod_7cf53, by decide, by decide⟩ wq262 rfl rfl (Nat.le_of_ble_eq_true rfl) dX6_coast_34 rfl rfl rfl ⟨(Nat.le_refl _), (Nat.le_refl _)⟩ ?_
    refine a_put 40 0 5 0 (whW ha r3 course v2 hold) tyX6 hC inB_X6 tyX6_ok nmX6 rfl rfl (by decide) wq146 rfl rfl rfl rfl rfl (Nat.le_of_ble_eq_true rfl) dX6_coast_37 rfl rfl ?_
    refine a_iconst 41 (v := (1 : Int32)) hC dX6_coast_40 rfl (by decide) ?_
    obtain rfl := Option.some.inj h
    exact a_zret hC hR ⟨rfl, rfl⟩ rfl (Nat.le_refl _) (Nat.le_refl _) dX6_coast_41
  · have h := ifn c1 h
    refine a_iconst 12 (v := (0 : Int32)) hC dX6_coast_11 rfl (by decide) ?_
    obtain rfl := Option.some.inj h
    exact a_zret hC hR ⟨rfl, rfl⟩ rfl (Nat.le_refl _) (Nat.le_refl _) dX6_coast_12
theorem c_X6_coast (l : Launch) (D : va_G) (z : ClassId × ClassId × ClassId) (ha : Nat) (x1 : Int32) (frame : Int32) (course : Int32) (missed : Int32) (hold : Int32) (res : (Int32) × (Int32) × (Int32)) (h : f_X6_coast x1 frame course missed hold = some res) : Ct l D z yX6_coast cX6_coast 2 (some .boolean) rm_X6_coast [.ref ha, .int x1] (whW ha frame course missed hold) (fun r w => r = some (.int res.1) ∧ w = (whW ha res.2.1 course res.2.2 hold)) := by
  refine Ct.of (by decide +kernel) (Nat.le_of_ble_eq_true rfl) (fun X hC hl hz hn hR => ?_)
  have hz1 : X.2.2.2.2 = z := by rw [hz]
  subst hz1
  exact t_X6_coast hC ha x1 frame course missed hold res hR h

/-! X6_copy -/
abbrev rm_X6_copy : Room := { frames := 0, cells := 0, slots := 0, locals := 0 }
theorem ds_X6_copy : yX6_copy.cls ≠ "java/lang/invoke/MethodHandle" ∧ yX6_copy.cls ≠ "java/lang/invoke/VarHandle" ∧ (parseMethodDescriptor yX6_copy.desc).map (fun d => d.parameters.length) = some 1 := by decide +kernel
def f_X6_copy (frame : Int32) (course : Int32) (missed : Int32) (hold : Int32) (frame2 : Int32) (course2 : Int32) (missed2 : Int32) (hold2 : Int32) : Option ((Int32) × (Int32) × (Int32) × (Int32)) := (some (frame2, course2, missed2, hold2))
set_option maxRecDepth 100000 in
set_option maxHeartbeats 4000000 in
theorem t_X6_copy {X : qX} (hC : Ok X rm_X6_copy cX6_copy 2 RX6 none) (ha ga : Nat) (frame : Int32) (course : Int32) (missed : Int32) (hold : Int32) (frame2 : Int32) (course2 : Int32) (missed2 : Int32) (hold2 : Int32) (res : (Int32) × (Int32) × (Int32) × (Int32)) (hR : Rt X 0 0 (fun r w => r = none ∧ w = (whW ha res.1 res.2.1 res.2.2.1 res.2.2.2 ++ whW ga frame2 course2 missed2 hold2))) (h : f_X6_copy frame course missed hold frame2 course2 missed2 hold2 = some res) : At X 0 0 0 (whW ha frame course missed hold ++ whW ga frame2 course2 missed2 hold2) [(0, .ref ha), (1, .ref ga)] [] := by
  unfold f_X6_copy at h
  refine a_aload_n 1 0 hC dX6_copy_0 rfl rfl rfl ?_
  refine a_aload_n 2 1 hC dX6_copy_1 rfl rfl rfl ?_
  refine a_get 5 1 5 0 hC inB_X6 rfl rfl (by decide) wq146 rfl rfl dX6_copy_2 rfl ?_
  refine a_put 8 0 5 0 (whW ha frame2 course missed hold ++ whW ga frame2 course2 missed2 hold2) tyX6 hC inB_X6 tyX6_ok nmX6 rfl rfl (by decide) wq146 rfl rfl rfl rfl rfl (Nat.le_of_ble_eq_true rfl) dX6_copy_5 rfl rfl ?_
  refine a_aload_n 9 0 hC dX6_copy_8 rfl rfl rfl ?_
  refine a_aload_n 10 1 hC dX6_copy_9 rfl rfl rfl ?_
  refine a_get 13 1 5 1 hC inB_X6 rfl rfl (by decide) wq149 rfl rfl dX6_copy_10 rfl ?_
  refine a_put 16 0 5 1 (whW ha frame2 course2 missed hold ++ whW ga frame2 course2 missed2 hold2) tyX6 hC inB_X6 tyX6_ok nmX6 rfl rfl (by decide) wq149 rfl rfl rfl rfl rfl (Nat.le_of_ble_eq_true rfl) dX6_copy_13 rfl rfl ?_
  refine a_aload_n 17 0 hC dX6_copy_16 rfl rfl rfl ?_
  refine a_aload_n 18 1 hC dX6_copy_17 rfl rfl rfl ?_
  refine a_get 21 1 5 2 hC inB_X6 rfl rfl (by decide) wq151 rfl rfl dX6_copy_18 rfl ?_
  refine a_put 24 0 5 2 (whW ha frame2 course2 missed2 hold ++ whW ga frame2 course2 missed2 hold2) tyX6 hC inB_X6 tyX6_ok nmX6 rfl rfl (by decide) wq151 rfl rfl rfl rfl rfl (Nat.le_of_ble_eq_true rfl) dX6_copy_21 rfl rfl ?_
  refine a_aload_n 25 0 hC dX6_copy_24 rfl rfl rfl ?_
  refine a_aload_n 26 1 hC dX6_copy_25 rfl rfl rfl ?_
  refine a_get 29 1 5 3 hC inB_X6 rfl rfl (by decide) wq153 rfl rfl dX6_copy_26 rfl ?_
  refine a_put 32 0 5 3 (whW ha frame2 course2 missed2 hold2 ++ whW ga frame2 course2 missed2 hold2) tyX6 hC inB_X6 tyX6_ok nmX6 rfl rfl (by decide) wq153 rfl rfl rfl rfl rfl (Nat.le_of_ble_eq_true rfl) dX6_copy_29 rfl rfl ?_
  obtain rfl := Option.some.inj h
  exact a_vret hC hR ⟨rfl, rfl⟩ (Nat.le_refl _) (Nat.le_refl _) dX6_copy_32
theorem c_X6_copy (l : Launch) (D : va_G) (z : ClassId × ClassId × ClassId) (ha ga : Nat) (frame : Int32) (course : Int32) (missed : Int32) (hold : Int32) (frame2 : Int32) (course2 : Int32) (missed2 : Int32) (hold2 : Int32) (res : (Int32) × (Int32) × (Int32) × (Int32)) (h : f_X6_copy frame course missed hold frame2 course2 missed2 hold2 = some res) : Ct l D z yX6_copy cX6_copy 2 none rm_X6_copy [.ref ha, .ref ga] (whW ha frame course missed hold ++ whW ga frame2 course2 missed2 hold2) (fun r w => r = none ∧ w = (whW ha res.1 res.2.1 res.2.2.1 res.2.2.2 ++ whW ga frame2 course2 missed2 hold2)) := by
  refine Ct.of (by decide +kernel) (Nat.le_of_ble_eq_true rfl) (fun X hC hl hz hn hR => ?_)
  have hz1 : X.2.2.2.2 = z := by rw [hz]
  subst hz1
  exact t_X6_copy hC ha ga frame course missed hold frame2 course2 missed2 hold2 res hR h

/-! X3_isLocked -/
abbrev rm_X3_isLocked : Room := { frames := 0, cells := 0, slots := 0, locals := 0 }
theorem ds_X3_isLocked : yX3_isLocked.cls ≠ "java/lang/invoke/MethodHandle" ∧ yX3_isLocked.cls ≠ "java/lang/invoke/VarHandle" ∧ (parseMethodDescriptor yX3_isLocked.desc).map (fun d => d.parameters.length) = some 0 := by decide +kernel
def f_X3_isLocked (streak : Int32) : Option ((Int32)) := (if streak < (3 : Int32) then (some (0 : Int32)) else (some (1 : Int32)))
set_option maxRecDepth 100000 in
set_option maxHeartbeats 4000000 in
theorem t_X3_isLocked {X : qX} (hC : Ok X rm_X3_isLocked cX3_isLocked 1 RX3 (some .boolean)) (ha : Nat) (cell : Int32) (waits : Int32) (bits : Int64) (held : Int32) (readings : Int32) (broken : Int32) (errors : Int32) (jumps : Int32) (streak : Int32) (frame : Int32) (number : Int32) (user : Int32) (course : Int32) (res : (Int32)) (hR : Rt X 0 0 (fun r w => r = some (.int res) ∧ w = (rdW ha cell waits bits held readings broken errors jumps streak frame number user course))) (h : f_X3_isLocked streak = some res) : At X 0 0 0 (rdW ha cell waits bits held readings broken errors jumps streak frame number user course) [(0, .ref ha)] [] := by
  unfold f_X3_isLocked at h
  refine a_aload_n 1 0 hC dX3_isLocked_0 rfl rfl rfl ?_
  refine a_get 4 0 2 8 hC inB_X3 rfl rfl (by decide) wq100 rfl rfl dX3_isLocked_1 rfl ?_
  refine a_iconst 5 (v := (3 : Int32)) hC dX3_isLocked_4 rfl (by decide) ?_
  refine a_icmp_lt 12 8 hC dX3_isLocked_5 (by decide) rfl (fun c1 => ?_) (fun c1 => ?_)
  · have h := ifp c1 h
    refine a_iconst 13 (v := (0 : Int32)) hC dX3_isLocked_12 rfl (by decide) ?_
    obtain rfl := Option.some.inj h
    exact a_zret hC hR ⟨rfl, rfl⟩ rfl (Nat.le_refl _) (Nat.le_refl _) dX3_isLocked_13
  · have h := ifn c1 h
    refine a_iconst 9 (v := (1 : Int32)) hC dX3_isLocked_8 rfl (by decide) ?_
    refine a_goto 13 hC dX3_isLocked_9 (by decide) ?_
    obtain rfl := Option.some.inj h
    exact a_zret hC hR ⟨rfl, rfl⟩ rfl (Nat.le_refl _) (Nat.le_refl _) dX3_isLocked_13
theorem c_X3_isLocked (l : Launch) (D : va_G) (z : ClassId × ClassId × ClassId) (ha : Nat) (cell : Int32) (waits : Int32) (bits : Int64) (held : Int32) (readings : Int32) (broken : Int32) (errors : Int32) (jumps : Int32) (streak : Int32) (frame : Int32) (number : Int32) (user : Int32) (course : Int32) (res : (Int32)) (h : f_X3_isLocked streak = some res) : Ct l D z yX3_isLocked cX3_isLocked 1 (some .boolean) rm_X3_isLocked [.ref ha] (rdW ha cell waits bits held readings broken errors jumps streak frame number user course) (fun r w => r = some (.int res) ∧ w = (rdW ha cell waits bits held readings broken errors jumps streak frame number user course)) := by
  refine Ct.of (by decide +kernel) (Nat.le_of_ble_eq_true rfl) (fun X hC hl hz hn hR => ?_)
  have hz1 : X.2.2.2.2 = z := by rw [hz]
  subst hz1
  exact t_X3_isLocked hC ha cell waits bits held readings broken errors jumps streak frame number user course res hR h

/-! X3_hasRead -/
abbrev rm_X3_hasRead : Room := { frames := 0, cells := 0, slots := 0, locals := 0 }
theorem ds_X3_hasRead : yX3_hasRead.cls ≠ "java/lang/invoke/MethodHandle" ∧ yX3_hasRead.cls ≠ "java/lang/invoke/VarHandle" ∧ (parseMethodDescriptor yX3_hasRead.desc).map (fun d => d.parameters.length) = some 0 := by decide +kernel
def f_X3_hasRead (readings : Int32) : Option ((Int32)) := (if readings ≤ (0 : Int32) then (some (0 : Int32)) else (some (1 : Int32)))
set_option maxRecDepth 100000 in
set_option maxHeartbeats 4000000 in
theorem t_X3_hasRead {X : qX} (hC : Ok X rm_X3_hasRead cX3_hasRead 1 RX3 (some .boolean)) (ha : Nat) (cell : Int32) (waits : Int32) (bits : Int64) (held : Int32) (readings : Int32) (broken : Int32) (errors : Int32) (jumps : Int32) (streak : Int32) (frame : Int32) (number : Int32) (user : Int32) (course : Int32) (res : (Int32)) (hR : Rt X 0 0 (fun r w => r = some (.int res) ∧ w = (rdW ha cell waits bits held readings broken errors jumps streak frame number user course))) (h : f_X3_hasRead readings = some res) : At X 0 0 0 (rdW ha cell waits bits held readings broken errors jumps streak frame number user course) [(0, .ref ha)] [] := by
  unfold f_X3_hasRead at h
  refine a_aload_n 1 0 hC dX3_hasRead_0 rfl rfl rfl ?_
  refine a_get 4 0 2 4 hC inB_X3 rfl rfl (by decide) wq92 rfl rfl dX3_hasRead_1 rfl ?_
  refine a_if_le 11 7 hC dX3_hasRead_4 (by decide) rfl (fun c1 => ?_) (fun c1 => ?_)
  · have h := ifp c1 h
    refine a_iconst 12 (v := (0 : Int32)) hC dX3_hasRead_11 rfl (by decide) ?_
    obtain rfl := Option.some.inj h
    exact a_zret hC hR ⟨rfl, rfl⟩ rfl (Nat.le_refl _) (Nat.le_refl _) dX3_hasRead_12
  · have h := ifn c1 h
    refine a_iconst 8 (v := (1 : Int32)) hC dX3_hasRead_7 rfl (by decide) ?_
    refine a_goto 12 hC dX3_hasRead_8 (by decide) ?_
    obtain rfl := Option.some.inj h
    exact a_zret hC hR ⟨rfl, rfl⟩ rfl (Nat.le_refl _) (Nat.le_refl _) dX3_hasRead_12
theorem c_X3_hasRead (l : Launch) (D : va_G) (z : ClassId × ClassId × ClassId) (ha : Nat) (cell : Int32) (waits : Int32) (bits : Int64) (held : Int32) (readings : Int32) (broken : Int32) (errors : Int32) (jumps : Int32) (streak : Int32) (frame : Int32) (number : Int32) (user : Int32) (course : Int32) (res : (Int32)) (h : f_X3_hasRead readings = some res) : Ct l D z yX3_hasRead cX3_hasRead 1 (some .boolean) rm_X3_hasRead [.ref ha] (rdW ha cell waits bits held readings broken errors jumps streak frame number user course) (fun r w => r = some (.int res) ∧ w = (rdW ha cell waits bits held readings broken errors jumps streak frame number user course)) := by
  refine Ct.of (by decide +kernel) (Nat.le_of_ble_eq_true rfl) (fun X hC hl hz hn hR => ?_)
  have hz1 : X.2.2.2.2 = z := by rw [hz]
  subst hz1
  exact t_X3_hasRead hC ha cell waits bits held readings broken errors jumps streak frame number user course res hR h

/-! X3_adapt -/
abbrev rm_X3_adapt : Room := { frames := 1, cells := 0, slots := 0, locals := 40 }
theorem ds_X3_adapt : yX3_adapt.cls ≠ "java/lang/invoke/MethodHandle" ∧ yX3_adapt.cls ≠ "java/lang/invoke/VarHandle" ∧ (parseMethodDescriptor yX3_adapt.desc).map (fun d => d.parameters.length) = some 1 := by decide +kernel
def f_X3_adapt (x1 : Int32) (cell : Int32) : Option ((Int32)) := (nm (q_max (1 : Int32) ((((3 : Int32) * cell) + x1) / (4 : Int32))) fun v1 => (some v1))
set_option maxRecDepth 100000 in
set_option maxHeartbeats 4000000 in
theorem t_X3_adapt {X : qX} (hC : Ok X rm_X3_adapt cX3_adapt 2 RX3 none) (ha : Nat) (x1 : Int32) (cell : Int32) (waits : Int32) (bits : Int64) (held : Int32) (readings : Int32) (broken : Int32) (errors : Int32) (jumps : Int32) (streak : Int32) (frame : Int32) (number : Int32) (user : Int32) (course : Int32) (res : (Int32)) (hR : Rt X 0 0 (fun r w => r = none ∧ w = (rdW ha res waits bits held readings broken errors jumps streak frame number user course))) (h : f_X3_adapt x1 cell = some res) : At X 0 0 0 (rdW ha cell waits bits held readings broken errors jumps streak frame number user course) [(0, .ref ha), (1, .int x1)] [] := by
  unfold f_X3_adapt at h
  refine a_aload_n 1 0 hC dX3_adapt_0 rfl rfl rfl ?_
  refine a_iconst 2 (v := (1 : Int32)) hC dX3_adapt_1 rfl (by decide) ?_
  refine a_iconst 3 (v := (3 : Int32)) hC dX3_adapt_2 rfl (by decide) ?_
  refine a_aload_n 4 0 hC dX3_adapt_3 rfl rfl rfl ?_
  refine a_get 7 0 2 0 hC inB_X3 rfl rfl (by decide) wq85 rfl rfl dX3_adapt_4 rfl ?_
  refine a_imul 8 hC dX3_adapt_7 rfl ?_
  refine a_iload_n 9 1 hC dX3_adapt_8 rfl rfl rfl ?_
  refine a_iadd 10 hC dX3_adapt_9 rfl ?_
  refine a_iconst 11 (v := (4 : Int32)) hC dX3_adapt_10 rfl (by decide) ?_
  refine a_idiv 12 hC dX3_adapt_11 rfl (by decide) ?_
  refine a_mmax 15 hC wq418 wq419 wq31 wq420 (by decide) (Nat.le_of_ble_eq_true rfl) (Nat.le_refl _) (Nat.le_refl _) dX3_adapt_12 rfl ?_
  obtain ⟨v1, ev1, h⟩ := nmx h
  refine a_nm ev1 ?_
  refine a_put 18 0 2 0 (rdW ha v1 waits bits held readings broken errors jumps streak frame number user course) tyX3 hC inB_X3 tyX3_ok nmX3 rfl rfl (by decide) wq85 rfl rfl rfl rfl rfl (Nat.le_of_ble_eq_true rfl) dX3_adapt_15 rfl rfl ?_
  obtain rfl := Option.some.inj h
  exact a_vret hC hR ⟨rfl, rfl⟩ (Nat.le_refl _) (Nat.le_refl _) dX3_adapt_18
theorem c_X3_adapt (l : Launch) (D : va_G) (z : ClassId × ClassId × ClassId) (ha : Nat) (x1 : Int32) (cell : Int32) (waits : Int32) (bits : Int64) (held : Int32) (readings : Int32) (broken : Int32) (errors : Int32) (jumps : Int32) (streak : Int32) (frame : Int32) (number : Int32) (user : Int32) (course : Int32) (res : (Int32)) (h : f_X3_adapt x1 cell = some res) : Ct l D z yX3_adapt cX3_adapt 2 none rm_X3_adapt [.ref ha, .int x1] (rdW ha cell waits bits held readings broken errors jumps streak frame number user course) (fun r w => r = none ∧ w = (rdW ha res waits bits held readings broken errors jumps streak frame number user course)) := by
  refine Ct.of (by decide +kernel) (Nat.le_of_ble_eq_true rfl) (fun X hC hl hz hn hR => ?_)
  have hz1 : X.2.2.2.2 = z := by rw [hz]
  subst hz1
  exact t_X3_adapt hC ha x1 cell waits bits held readings broken errors jumps streak frame number user course res hR h

/-! X3_tell -/
abbrev rm_X3_tell : Room := { frames := 1, cells := 0, slots := 0, locals := 40 }
theorem ds_X3_tell : yX3_tell.cls ≠ "java/lang/invoke/MethodHandle" ∧ yX3_tell.cls ≠ "java/lang/invoke/VarHandle" ∧ (parseMethodDescriptor yX3_tell.desc).map (fun d => d.parameters.length) = some 1 := by decide +kernel
def f_X3_tell (x1 : Int64) (bits : Int64) (held : Int32) : Option ((Int32) × (Int64) × (Int32)) := (nm ((q_lushr bits (1 : Int32)) ||| (q_lshl x1 (47 : Int32))) fun v1 => (nm (q_min (held + (1 : Int32)) (48 : Int32)) fun v2 => (if (48 : Int32) ≤ v2 then (if (lg_cmp (q_lushr v1 (32 : Int32)) (49148 : Int64)) = (0 : Int32) then (some ((1 : Int32), v1, v2)) else (if (lg_cmp (v1 &&& (65535 : Int64)) (16381 : Int64)) = (0 : Int32) then (some ((-1 : Int32), v1, v2)) else (some ((0 : Int32), v1, v2)))) else (some ((0 : Int32), v1, v2)))))
set_option maxRecDepth 100000 in
set_option maxHeartbeats 4000000 in
theorem t_X3_tell {X : qX} (hC : Ok X rm_X3_tell cX3_tell 3 RX3 (some .int)) (ha : Nat) (x1 : Int64) (cell : Int32) (waits : Int32) (bits : Int64) (held : Int32) (readings : Int32) (broken : Int32) (errors : Int32) (jumps : Int32) (streak : Int32) (frame : Int32) (number : Int32) (user : Int32) (course : Int32) (res : (Int32) × (Int64) × (Int32)) (hR : Rt X 0 0 (fun r w => r = some (.int res.1) ∧ w = (rdW ha cell waits res.2.1 res.2.2 readings broken errors jumps streak frame number user course))) (h : f_X3_tell x1 bits held = some res) : At X 0 0 0 (rdW ha cell waits bits held readings broken errors jumps streak frame number user course) [(0, .ref ha), (1, .long x1)] [] := by
  unfold f_X3_tell at h
  refine a_aload_n 1 0 hC dX3_tell_0 rfl rfl rfl ?_
  refine a_aload_n 2 0 hC dX3_tell_1 rfl rfl rfl ?_
  refine a_get 5 0 2 2 hC inB_X3 rfl rfl (by decide) wq89 rfl rfl dX3_tell_2 rfl ?_
  refine a_iconst 6 (v := (1 : Int32)) hC dX3_tell_5 rfl (by decide) ?_
  refine a_lushr 7 hC dX3_tell_6 rfl ?_
  refine a_lload_n 8 1 hC dX3_tell_7 rfl rfl rfl ?_
  refine a_bipush 10 (v := (47 : Int32)) hC dX3_tell_8 rfl (by decide) ?_
  refine a_lshl 11 hC dX3_tell_10 rfl ?_
  refine a_lor 12 hC dX3_tell_11 rfl ?_
  obtain ⟨v1, ev1, h⟩ := nmx h
  refine a_nml ev1 ?_
  refine a_put 15 0 2 2 (rdW ha cell waits v1 held readings broken errors jumps streak frame number user course) tyX3 hC inB_X3 tyX3_ok nmX3 rfl rfl (by decide) wq89 rfl rfl rfl rfl rfl (Nat.le_of_ble_eq_true rfl) dX3_tell_12 rfl rfl ?_
  refine a_aload_n 16 0 hC dX3_tell_15 rfl rfl rfl ?_
  refine a_aload_n 17 0 hC dX3_tell_16 rfl rfl rfl ?_
  refine a_get 20 0 2 3 hC inB_X3 rfl rfl (by decide) wq90 rfl rfl dX3_tell_17 rfl ?_
  refine a_iconst 21 (v := (1 : Int32)) hC dX3_tell_20 rfl (by decide) ?_
  refine a_iadd 22 hC dX3_tell_21 rfl ?_
  refine a_bipush 24 (v := (48 : Int32)) hC dX3_tell_22 rfl (by decide) ?_
  refine a_mmin 27 hC wq425 wq289 wq31 wq290 (by decide) (Nat.le_of_ble_eq_true rfl) (Nat.le_refl _) (Nat.le_refl _) dX3_tell_24 rfl ?_
  obtain ⟨v2, ev2, h⟩ := nmx h
  refine a_nm ev2 ?_
  refine a_put 30 0 2 3 (rdW ha cell waits v1 v2 readings broken errors jumps streak frame number user course) tyX3 hC inB_X3 tyX3_ok nmX3 rfl rfl (by decide) wq90 rfl rfl rfl rfl rfl (Nat.le_of_ble_eq_true rfl) dX3_tell_27 rfl rfl ?_
  refine a_aload_n 31 0 hC dX3_tell_30 rfl rfl rfl ?_
  refine a_get 34 0 2 3 hC inB_X3 rfl rfl (by decide) wq90 rfl rfl dX3_tell_31 rfl ?_
  refine a_bipush 36 (v := (48 : Int32)) hC dX3_tell_34 rfl (by decide) ?_
  refine a_icmp_ge 41 39 hC dX3_tell_36 (by decide) rfl (fun c3 => ?_) (fun c3 => ?_)
  · have h := ifp c3 h
    refine a_aload_n 42 0 hC dX3_tell_41 rfl rfl rfl ?_
    refine a_get 45 0 2 2 hC inB_X3 rfl rfl (by decide) wq89 rfl rfl dX3_tell_42 rfl ?_
    refine a_bipush 47 (v := (32 : Int32)) hC dX3_tell_45 rfl (by decide) ?_
    refine a_lushr 48 hC dX3_tell_47 rfl ?_
    refine a_ldc2 51 (v := (49148 : Int64)) hC wq426 dX3_tell_48 rfl ?_
    refine a_lcmp 52 hC dX3_tell_51 rfl ?_
    refine a_if_ne 57 55 hC dX3_tell_52 (by decide) rfl (fun c4 => ?_) (fun c4 => ?_)
    · have h := ifn c4 h
      refine a_aload_n 58 0 hC dX3_tell_57 rfl rfl rfl ?_
      refine a_get 61 0 2 2 hC inB_X3 rfl rfl (by decide) wq89 rfl rfl dX3_tell_58 rfl ?_
      refine a_ldc2 64 (v := (65535 : Int64)) hC wq427 dX3_tell_61 rfl ?_
      refine a_land 65 hC dX3_tell_64 rfl ?_
      refine a_ldc2 68 (v := (16381 : Int64)) hC wq428 dX3_tell_65 rfl ?_
      refine a_lcmp 69 hC dX3_tell_68 rfl ?_
      refine a_if_ne 76 72 hC dX3_tell_69 (by decide) rfl (fun c5 => ?_) (fun c5 => ?_)
      · have h := ifn c5 h
        refine a_iconst 77 (v := (0 : Int32)) hC dX3_tell_76 rfl (by decide) ?_
        obtain rfl := Option.some.inj h
        exact a_iret hC hR ⟨rfl, rfl⟩ (Nat.le_refl _) (Nat.le_refl _) dX3_tell_77
      · have h := ifp c5 h
        refine a_iconst 73 (v := (-1 : Int32)) hC dX3_tell_72 rfl (by decide) ?_
        refine a_goto 77 hC dX3_tell_73 (by decide) ?_
        obtain rfl := Option.some.inj h
        exact a_iret hC hR ⟨rfl, rfl⟩ (Nat.le_refl _) (Nat.le_refl _) dX3_tell_77
    · have h := ifp c4 h
      refine a_iconst 56 (v := (1 : Int32)) hC dX3_tell_55 rfl (by decide) ?_
      obtain rfl := Option.some.inj h
      exact a_iret hC hR ⟨rfl, rfl⟩ (Nat.le_refl _) (Nat.le_refl _) dX3_tell_56
  · have h := ifn c3 h
    refine a_iconst 40 (v := (0 : Int32)) hC dX3_tell_39 rfl (by decide) ?_
    obtain rfl := Option.some.inj h
    exact a_iret hC hR ⟨rfl, rfl⟩ (Nat.le_refl _) (Nat.le_refl _) dX3_tell_40
theorem c_X3_tell (l : Launch) (D : va_G) (z : ClassId × ClassId × ClassId) (ha : Nat) (x1 : Int64) (cell : Int32) (waits : Int32) (bits : Int64) (held : Int32) (readings : Int32) (broken : Int32) (errors : Int32) (jumps : Int32) (streak : Int32) (frame : Int32) (number : Int32) (user : Int32) (course : Int32) (res : (Int32) × (Int64) × (Int32)) (h : f_X3_tell x1 bits held = some res) : Ct l D z yX3_tell cX3_tell 3 (some .int) rm_X3_tell [.ref ha, .long x1] (rdW ha cell waits bits held readings broken errors jumps streak frame number user course) (fun r w => r = some (.int res.1) ∧ w = (rdW ha cell waits res.2.1 res.2.2 readings broken errors jumps streak frame number user course)) := by
  refine Ct.of (by decide +kernel) (Nat.le_of_ble_eq_true rfl) (fun X hC hl hz hn hR => ?_)
  have hz1 : X.2.2.2.2 = z := by rw [hz]
  subst hz1
  exact t_X3_tell hC ha x1 cell waits bits held readings broken errors jumps streak frame number user course res hR h

/-! X3_take -/
abbrev rm_X3_take : Room := { frames := 2, cells := 0, slots := 0, locals := 62 }
theorem ds_X3_take : yX3_take.cls ≠ "java/lang/invoke/MethodHandle" ∧ yX3_take.cls ≠ "java/lang/invoke/VarHandle" ∧ (parseMethodDescriptor yX3_take.desc).map (fun d => d.parameters.length) = some 1 := by decide +kernel
def f_X3_take (x1 : Int32) (cell : Int32) (waits : Int32) (bits : Int64) (held : Int32) (errors : Int32) : Option ((Int32) × (Int32) × (Int32) × (Int64) × (Int32) × (Int32)) := (if ((4 : Int32) * x1) ≤ ((3 : Int32) * cell) then (if waits = (0 : Int32) then (some ((0 : Int32), cell, x1, bits, held, errors)) else ((f_X3_adapt (waits + x1) cell).bind fun r3 => ((f_X3_tell (1 : Int64) bits held).bind fun r4 => (some (r4.1, r3, (0 : Int32), r4.2.1, r4.2.2, errors))))) else (if waits ≤ (0 : Int32) then ((f_X3_adapt x1 cell).bind fun r6 => ((f_X3_tell (0 : Int64) bits held).bind fun r7 => (some (r7.1, r6, waits, r7.2.1, r7.2.2, errors)))) else (nm (errors + (1 : Int32)) fun v8 => ((f_X3_adapt x1 cell).bind fun r9 => ((f_X3_tell (0 : Int64) bits held).bind fun r10 => (some (r10.1, r9, (0 : Int32), r10.2.1, r10.2.2, v8)))))))
set_option maxRecDepth 100000 in
set_option maxHeartbeats 4000000 in
theorem t_X3_take {X : qX} (hC : Ok X rm_X3_take cX3_take 2 RX3 (some .int)) (ha : Nat) (x1 : Int32) (cell : Int32) (waits : Int32) (bits : Int64) (held : Int32) (readings : Int32) (broken : Int32) (errors : Int32) (jumps : Int32) (streak : Int32) (frame : Int32) (number : Int32) (user : Int32) (course : Int32) (res : (Int32) × (Int32) × (Int32) × (Int64) × (Int32) × (Int32)) (hR : Rt X 0 0 (fun r w => r = some (.int res.1) ∧ w = (rdW ha res.2.1 res.2.2.1 res.2.2.2.1 res.2.2.2.2.1 readings broken res.2.2.2.2.2 jumps streak frame number user course))) (h : f_X3_take x1 cell waits bits held errors = some res) : At X 0 0 0 (rdW ha cell waits bits held readings broken errors jumps streak frame number user course) [(0, .ref ha), (1, .int x1)] [] := by
  unfold f_X3_take at h
  refine a_iconst 1 (v := (4 : Int32)) hC dX3_take_0 rfl (by decide) ?_
  refine a_iload_n 2 1 hC dX3_take_1 rfl rfl rfl ?_
  refine a_imul 3 hC dX3_take_2 rfl ?_
  refine a_iconst 4 (v := (3 : Int32)) hC dX3_take_3 rfl (by decide) ?_
  refine a_aload_n 5 0 hC dX3_take_4 rfl rfl rfl ?_
  refine a_get 8 0 2 0 hC inB_X3 rfl rfl (by decide) wq85 rfl rfl dX3_take_5 rfl ?_
  refine a_imul 9 hC dX3_take_8 rfl ?_
  refine a_icmp_le 45 12 hC dX3_take_9 (by decide) rfl (fun c1 => ?_) (fun c1 => ?_)
  · have h := ifp c1 h
    refine a_aload_n 46 0 hC dX3_take_45 rfl rfl rfl ?_
    refine a_get 49 0 2 1 hC inB_X3 rfl rfl (by decide) wq87 rfl rfl dX3_take_46 rfl ?_
    refine a_if_ne 59 52 hC dX3_take_49 (by decide) rfl (fun c2 => ?_) (fun c2 => ?_)
    · have h := ifn c2 h
      refine a_aload_n 60 0 hC dX3_take_59 rfl rfl rfl ?_
      refine a_aload_n 61 0 hC dX3_take_60 rfl rfl rfl ?_
      refine a_get 64 0 2 1 hC inB_X3 rfl rfl (by decide) wq87 rfl rfl dX3_take_61 rfl ?_
      refine a_iload_n 65 1 hC dX3_take_64 rfl rfl rfl ?_
      refine a_iadd 66 hC dX3_take_65 rfl ?_
      obtain ⟨r3, gr3, h⟩ := bd h
      refine a_callVs 69 (rdW ha r3 waits bits held readings broken errors jumps streak frame number user course) 0 2 [.int (waits + x1)] [] none [] hC (c_X3_adapt X.1.2.1 X.2.2.2.1 X.2.2.2.2 ha (waits + x1) cell waits bits held readings broken errors jumps streak frame number user course r3 gr3) ⟨wq414, wq26, wq417, ds_X3_adapt, by decide, by decide⟩ wq416 wq1 rfl rfl (Nat.le_of_ble_eq_true rfl) dX3_take_66 rfl rfl rfl ⟨(Nat.le_refl _), (Nat.le_refl _)⟩ rfl rfl rfl ?_
      refine a_aload_n 70 0 hC dX3_take_69 rfl rfl rfl ?_
      refine a_iconst 71 (v := (0 : Int32)) hC dX3_take_70 rfl (by decide) ?_
      refine a_put 74 0 2 1 (rdW ha r3 (0 : Int32) bits held readings broken errors jumps streak frame number user course) tyX3 hC inB_X3 tyX3_ok nmX3 rfl rfl (by decide) wq87 rfl rfl rfl rfl rfl (Nat.le_of_ble_eq_true rfl) dX3_take_71 rfl rfl ?_
      refine a_aload_n 75 0 hC dX3_take_74 rfl rfl rfl ?_
      refine a_lconst 76 (v := (1 : Int64)) hC dX3_take_75 rfl (by decide) ?_
      obtain ⟨r4, gr4, h⟩ := bd h
      refine a_callVs 79 (rdW ha r3 (0 : Int32) r4.2.1 r4.2.2 readings broken errors jumps streak frame number user course) 0 2 [.long (1 : Int64)] [] (some (.int r4.1)) [.int r4.1] hC (c_X3_tell X.1.2.1 X.2.2.2.1 X.2.2.2.2 ha (1 : Int64) r3 (0 : Int32) bits held readings broken errors jumps streak frame number user course r4 gr4) ⟨wq421, wq26, wq424, ds_X3_tell, by decide, by decide⟩ wq423 wq2 rfl rfl (Nat.le_of_ble_eq_true rfl) dX3_take_76 rfl rfl rfl ⟨(Nat.le_refl _), (Nat.le_refl _)⟩ rfl rfl rfl ?_
      obtain rfl := Option.some.inj h
      exact a_iret hC hR ⟨rfl, rfl⟩ (Nat.le_refl _) (Nat.le_refl _) dX3_take_79
    · have h := ifp c2 h
      refine a_aload_n 53 0 hC dX3_take_52 rfl rfl rfl ?_
      refine a_iload_n 54 1 hC dX3_take_53 rfl rfl rfl ?_
      refine a_put 57 0 2 1 (rdW ha cell x1 bits held readings broken errors jumps streak frame number user course) tyX3 hC inB_X3 tyX3_ok nmX3 rfl rfl (by decide) wq87 rfl rfl rfl rfl rfl (Nat.le_of_ble_eq_true rfl) dX3_take_54 rfl rfl ?_
      refine a_iconst 58 (v := (0 : Int32)) hC dX3_take_57 rfl (by decide) ?_
      obtain rfl := Option.some.inj h
      exact a_iret hC hR ⟨rfl, rfl⟩ (Nat.le_refl _) (Nat.le_refl _) dX3_take_58
  · have h := ifn c1 h
    refine a_aload_n 13 0 hC dX3_take_12 rfl rfl rfl ?_
    refine a_get 16 0 2 1 hC inB_X3 rfl rfl (by decide) wq87 rfl rfl dX3_take_13 rfl ?_
    refine a_if_le 34 19 hC dX3_take_16 (by decide) rfl (fun c5 => ?_) (fun c5 => ?_)
    · have h := ifp c5 h
      refine a_aload_n 35 0 hC dX3_take_34 rfl rfl rfl ?_
      refine a_iload_n 36 1 hC dX3_take_35 rfl rfl rfl ?_
      obtain ⟨r6, gr6, h⟩ := bd h
      refine a_callVs 39 (rdW ha r6 waits bits held readings broken errors jumps streak frame number user course) 0 2 [.int x1] [] none [] hC (c_X3_adapt X.1.2.1 X.2.2.2.1 X.2.2.2.2 ha x1 cell waits bits held readings broken errors jumps streak frame number user course r6 gr6) ⟨wq414, wq26, wq417, ds_X3_adapt, by decide, by decide⟩ wq416 wq1 rfl rfl (Nat.le_of_ble_eq_true rfl) dX3_take_36 rfl rfl rfl ⟨(Nat.le_refl _), (Nat.le_refl _)⟩ rfl rfl rfl ?_
      refine a_aload_n 40 0 hC dX3_take_39 rfl rfl rfl ?_
      refine a_lconst 41 (v := (0 : Int64)) hC dX3_take_40 rfl (by decide) ?_
      obtain ⟨r7, gr7, h⟩ := bd h
      refine a_callVs 44 (rdW ha r6 waits r7.2.1 r7.2.2 readings broken errors jumps streak frame number user course) 0 2 [.long (0 : Int64)] [] (some (.int r7.1)) [.int r7.1] hC (c_X3_tell X.1.2.1 X.2.2.2.1 X.2.2.2.2 ha (0 : Int64) r6 waits bits held readings broken errors jumps streak frame number user course r7 gr7) ⟨wq421, wq26, wq424, ds_X3_tell, by decide, by decide⟩ wq423 wq2 rfl rfl (Nat.le_of_ble_eq_true rfl) dX3_take_41 rfl rfl rfl ⟨(Nat.le_refl _), (Nat.le_refl _)⟩ rfl rfl rfl ?_
      obtain rfl := Option.some.inj h
      exact a_iret hC hR ⟨rfl, rfl⟩ (Nat.le_refl _) (Nat.le_refl _) dX3_take_44
    · have h := ifn c5 h
      refine a_aload_n 20 0 hC dX3_take_19 rfl rfl rfl ?_
      refine a_iconst 21 (v := (0 : Int32)) hC dX3_take_20 rfl (by decide) ?_
      refine a_put 24 0 2 1 (rdW ha cell (0 : Int32) bits held readings broken errors jumps streak frame number user course) tyX3 hC inB_X3 tyX3_ok nmX3 rfl rfl (by decide) wq87 rfl rfl rfl rfl rfl (Nat.le_of_ble_eq_true rfl) dX3_take_21 rfl rfl ?_
      refine a_aload_n 25 0 hC dX3_take_24 rfl rfl rfl ?_
      refine a_dup 26 hC dX3_take_25 rfl rfl ?_
      refine a_get 29 0 2 6 hC inB_X3 rfl rfl (by decide) wq96 rfl rfl dX3_take_26 rfl ?_
      refine a_iconst 30 (v := (1 : Int32)) hC dX3_take_29 rfl (by decide) ?_
      refine a_iadd 31 hC dX3_take_30 rfl ?_
      obtain ⟨v8, ev8, h⟩ := nmx h
      refine a_nm ev8 ?_
      refine a_put 34 0 2 6 (rdW ha cell (0 : Int32) bits held readings broken v8 jumps streak frame number user course) tyX3 hC inB_X3 tyX3_ok nmX3 rfl rfl (by decide) wq96 rfl rfl rfl rfl rfl (Nat.le_of_ble_eq_true rfl) dX3_take_31 rfl rfl ?_
      refine a_aload_n 35 0 hC dX3_take_34 rfl rfl rfl ?_
      refine a_iload_n 36 1 hC dX3_take_35 rfl rfl rfl ?_
      obtain ⟨r9, gr9, h⟩ := bd h
      refine a_callVs 39 (rdW ha r9 (0 : Int32) bits held readings broken v8 jumps streak frame number user course) 0 2 [.int x1] [] none [] hC (c_X3_adapt X.1.2.1 X.2.2.2.1 X.2.2.2.2 ha x1 cell (0 : Int32) bits held readings broken v8 jumps streak frame number user course r9 gr9) ⟨wq414, wq26, wq417, ds_X3_adapt, by decide, by decide⟩ wq416 wq1 rfl rfl (Nat.le_of_ble_eq_true rfl) dX3_take_36 rfl rfl rfl ⟨(Nat.le_refl _), (Nat.le_refl _)⟩ rfl rfl rfl ?_
      refine a_aload_n 40 0 hC dX3_take_39 rfl rfl rfl ?_
      refine a_lconst 41 (v := (0 : Int64)) hC dX3_take_40 rfl (by decide) ?_
      obtain ⟨r10, gr10, h⟩ := bd h
      refine a_callVs 44 (rdW ha r9 (0 : Int32) r10.2.1 r10.2.2 readings broken v8 jumps streak frame number user course) 0 2 [.long (0 : Int64)] [] (some (.int r10.1)) [.int r10.1] hC (c_X3_tell X.1.2.1 X.2.2.2.1 X.2.2.2.2 ha (0 : Int64) r9 (0 : Int32) bits held readings broken v8 jumps streak frame number user course r10 gr10) ⟨wq421, wq26, wq424, ds_X3_tell, by decide, by decide⟩ wq423 wq2 rfl rfl (Nat.le_of_ble_eq_true rfl) dX3_take_41 rfl rfl rfl ⟨(Nat.le_refl _), (Nat.le_refl _)⟩ rfl rfl rfl ?_
      obtain rfl := Option.some.inj h
      exact a_iret hC hR ⟨rfl, rfl⟩ (Nat.le_refl _) (Nat.le_refl _) dX3_take_44
theorem c_X3_take (l : Launch) (D : va_G) (z : ClassId × ClassId × ClassId) (ha : Nat) (x1 : Int32) (cell : Int32) (waits : Int32) (bits : Int64) (held : Int32) (readings : Int32) (broken : Int32) (errors : Int32) (jumps : Int32) (streak : Int32) (frame : Int32) (number : Int32) (user : Int32) (course : Int32) (res : (Int32) × (Int32) × (Int32) × (Int64) × (Int32) × (Int32)) (h : f_X3_take x1 cell waits bits held errors = some res) : Ct l D z yX3_take cX3_take 2 (some .int) rm_X3_take [.ref ha, .int x1] (rdW ha cell waits bits held readings broken errors jumps streak frame number user course) (fun r w => r = some (.int res.1) ∧ w = (rdW ha res.2.1 res.2.2.1 res.2.2.2.1 res.2.2.2.2.1 readings broken res.2.2.2.2.2 jumps streak frame number user course)) := by
  refine Ct.of (by decide +kernel) (Nat.le_of_ble_eq_true rfl) (fun X hC hl hz hn hR => ?_)
  have hz1 : X.2.2.2.2 = z := by rw [hz]
  subst hz1
  exact t_X3_take hC ha x1 cell waits bits held readings broken errors jumps streak frame number user course res hR h

/-! X3_letGo -/
abbrev rm_X3_letGo : Room := { frames := 0, cells := 0, slots := 0, locals := 0 }
theorem ds_X3_letGo : yX3_letGo.cls ≠ "java/lang/invoke/MethodHandle" ∧ yX3_letGo.cls ≠ "java/lang/invoke/VarHandle" ∧ (parseMethodDescriptor yX3_letGo.desc).map (fun d => d.parameters.length) = some 0 := by decide +kernel
def f_X3_letGo (bits : Int64) (held : Int32) : Option ((Int64) × (Int32)) := (some ((0 : Int64), (0 : Int32)))
set_option maxRecDepth 100000 in
set_option maxHeartbeats 4000000 in
theorem t_X3_letGo {X : qX} (hC : Ok X rm_X3_letGo cX3_letGo 1 RX3 none) (ha : Nat) (cell : Int32) (waits : Int32) (bits : Int64) (held : Int32) (readings : Int32) (broken : Int32) (errors : Int32) (jumps : Int32) (streak : Int32) (frame : Int32) (number : Int32) (user : Int32) (course : Int32) (res : (Int64) × (Int32)) (hR : Rt X 0 0 (fun r w => r = none ∧ w = (rdW ha cell waits res.1 res.2 readings broken errors jumps streak frame number user course))) (h : f_X3_letGo bits held = some res) : At X 0 0 0 (rdW ha cell waits bits held readings broken errors jumps streak frame number user course) [(0, .ref ha)] [] := by
  unfold f_X3_letGo at h
  refine a_aload_n 1 0 hC dX3_letGo_0 rfl rfl rfl ?_
  refine a_lconst 2 (v := (0 : Int64)) hC dX3_letGo_1 rfl (by decide) ?_
  refine a_put 5 0 2 2 (rdW ha cell waits (0 : Int64) held readings broken errors jumps streak frame number user course) tyX3 hC inB_X3 tyX3_ok nmX3 rfl rfl (by decide) wq89 rfl rfl rfl rfl rfl (Nat.le_of_ble_eq_true rfl) dX3_letGo_2 rfl rfl ?_
  refine a_aload_n 6 0 hC dX3_letGo_5 rfl rfl rfl ?_
  refine a_iconst 7 (v := (0 : Int32)) hC dX3_letGo_6 rfl (by decide) ?_
  refine a_put 10 0 2 3 (rdW ha cell waits (0 : Int64) (0 : Int32) readings broken errors jumps streak frame number user course) tyX3 hC inB_X3 tyX3_ok nmX3 rfl rfl (by decide) wq90 rfl rfl rfl rfl rfl (Nat.le_of_ble_eq_true rfl) dX3_letGo_7 rfl rfl ?_
  obtain rfl := Option.some.inj h
  exact a_vret hC hR ⟨rfl, rfl⟩ (Nat.le_refl _) (Nat.le_refl _) dX3_letGo_10
theorem c_X3_letGo (l : Launch) (D : va_G) (z : ClassId × ClassId × ClassId) (ha : Nat) (cell : Int32) (waits : Int32) (bits : Int64) (held : Int32) (readings : Int32) (broken : Int32) (errors : Int32) (jumps : Int32) (streak : Int32) (frame : Int32) (number : Int32) (user : Int32) (course : Int32) (res : (Int64) × (Int32)) (h : f_X3_letGo bits held = some res) : Ct l D z yX3_letGo cX3_letGo 1 none rm_X3_letGo [.ref ha] (rdW ha cell waits bits held readings broken errors jumps streak frame number user course) (fun r w => r = none ∧ w = (rdW ha cell waits res.1 res.2 readings broken errors jumps streak frame number user course)) := by
  refine Ct.of (by decide +kernel) (Nat.le_of_ble_eq_true rfl) (fun X hC hl hz hn hR => ?_)
  have hz1 : X.2.2.2.2 = z := by rw [hz]
  subst hz1
  exact t_X3_letGo hC ha cell waits bits held readings broken errors jumps streak frame number user course res hR h

/-! X3_follow -/
abbrev rm_X3_follow : Room := { frames := 1, cells := 0, slots := 0, locals := 22 }
theorem ds_X3_follow : yX3_follow.cls ≠ "java/lang/invoke/MethodHandle" ∧ yX3_follow.cls ≠ "java/lang/invoke/VarHandle" ∧ (parseMethodDescriptor yX3_follow.desc).map (fun d => d.parameters.length) = some 3 := by decide +kernel
def f_X3_follow_50 (x4 : Int32) (readings : Int32) (jumps : Int32) (streak : Int32) (frame : Int32) : Option ((Int32) × (Int32)) := (if x4 = (0 : Int32) then (some (jumps, (1 : Int32))) else (nm (streak + (1 : Int32)) fun v6 => (some (jumps, v6))))
set_option maxRecDepth 100000 in
set_option maxHeartbeats 4000000 in
theorem t_X3_follow_50 {X : qX} (hC : Ok X rm_X3_follow cX3_follow 5 RX3 none) (ha : Nat) (x4 : Int32) (cell : Int32) (waits : Int32) (bits : Int64) (held : Int32) (readings : Int32) (broken : Int32) (errors : Int32) (jumps : Int32) (streak : Int32) (frame : Int32) (number : Int32) (user : Int32) (course : Int32) (res : (Int32) × (Int32)) (hR : Rt X 0 0 (fun r w => r = none ∧ w = (rdW ha cell waits bits held readings broken errors res.1 res.2 frame number user course))) (h : f_X3_follow_50 x4 readings jumps streak frame = some res) : At X 0 0 50 (rdW ha cell waits bits held readings broken errors jumps streak frame number user course) [(0, .ref ha), (4, .int x4)] [] := by
  unfold f_X3_follow_50 at h
  refine a_aload_n 51 0 hC dX3_follow_50 rfl rfl rfl ?_
  refine a_iload 53 1 hC dX3_follow_51 rfl rfl ?_
  refine a_if_eq 65 56 hC dX3_follow_53 (by decide) rfl (fun c5 => ?_) (fun c5 => ?_)
  · have h := ifp c5 h
    refine a_iconst 66 (v := (1 : Int32)) hC dX3_follow_65 rfl (by decide) ?_
    refine a_put 69 0 2 8 (rdW ha cell waits bits held readings broken errors jumps (1 : Int32) frame number user course) tyX3 hC inB_X3 tyX3_ok nmX3 rfl rfl (by decide) wq100 rfl rfl rfl rfl rfl (Nat.le_of_ble_eq_true rfl) dX3_follow_66 rfl rfl ?_
    obtain rfl := Option.some.inj h
    exact a_vret hC hR ⟨rfl, rfl⟩ (Nat.le_refl _) (Nat.le_refl _) dX3_follow_69
  · have h := ifn c5 h
    refine a_aload_n 57 0 hC dX3_follow_56 rfl rfl rfl ?_
    refine a_get 60 0 2 8 hC inB_X3 rfl rfl (by decide) wq100 rfl rfl dX3_follow_57 rfl ?_
    refine a_iconst 61 (v := (1 : Int32)) hC dX3_follow_60 rfl (by decide) ?_
    refine a_iadd 62 hC dX3_follow_61 rfl ?_
    refine a_goto 66 hC dX3_follow_62 (by decide) ?_
    obtain ⟨v6, ev6, h⟩ := nmx h
    refine a_nm ev6 ?_
    refine a_put 69 0 2 8 (rdW ha cell waits bits held readings broken errors jumps v6 frame number user course) tyX3 hC inB_X3 tyX3_ok nmX3 rfl rfl (by decide) wq100 rfl rfl rfl rfl rfl (Nat.le_of_ble_eq_true rfl) dX3_follow_66 rfl rfl ?_
    obtain rfl := Option.some.inj h
    exact a_vret hC hR ⟨rfl, rfl⟩ (Nat.le_refl _) (Nat.le_refl _) dX3_follow_69
def f_X3_follow_26 (y0 : Int32) (readings : Int32) (jumps : Int32) (streak : Int32) (frame : Int32) : Option ((Int32) × (Int32)) := ((f_X3_hasRead readings).bind fun r3 => (if r3 = (0 : Int32) then (f_X3_follow_50 y0 readings jumps streak frame) else (if y0 = (0 : Int32) then (nm (jumps + (1 : Int32)) fun v8 => (f_X3_follow_50 y0 readings v8 streak frame)) else (f_X3_follow_50 y0 readings jumps streak frame))))
set_option maxRecDepth 100000 in
set_option maxHeartbeats 4000000 in
theorem t_X3_follow_26 {X : qX} (hC : Ok X rm_X3_follow cX3_follow 5 RX3 none) (ha : Nat) (y0 : Int32) (cell : Int32) (waits : Int32) (bits : Int64) (held : Int32) (readings : Int32) (broken : Int32) (errors : Int32) (jumps : Int32) (streak : Int32) (frame : Int32) (number : Int32) (user : Int32) (course : Int32) (res : (Int32) × (Int32)) (hR : Rt X 0 0 (fun r w => r = none ∧ w = (rdW ha cell waits bits held readings broken errors res.1 res.2 frame number user course))) (h : f_X3_follow_26 y0 readings jumps streak frame = some res) : At X 0 0 26 (rdW ha cell waits bits held readings broken errors jumps streak frame number user course) [(0, .ref ha)] [.int y0] := by
  unfold f_X3_follow_26 at h
  refine a_istore 28 [(0, .ref ha), (4, .int y0)] [1, 0] hC dX3_follow_26 rfl (by decide) rfl ?_
  refine a_aload_n 29 0 hC dX3_follow_28 rfl rfl rfl ?_
  obtain ⟨r3, gr3, h⟩ := bd h
  refine a_callVs 32 (rdW ha cell waits bits held readings broken errors jumps streak frame number user course) 0 2 [] [] (some (.int r3)) [.int r3] hC (c_X3_hasRead X.1.2.1 X.2.2.2.1 X.2.2.2.2 ha cell waits bits held readings broken errors jumps streak frame number user course r3 gr3) ⟨wq450, wq26, wq453, ds_X3_hasRead, by decide, by decide⟩ wq451 wq452 rfl rfl (Nat.le_of_ble_eq_true rfl) dX3_follow_29 rfl rfl rfl ⟨(Nat.le_refl _), (Nat.le_refl _)⟩ rfl rfl rfl ?_
  refine a_if_eq 50 35 hC dX3_follow_32 (by decide) rfl (fun c4 => ?_) (fun c4 => ?_)
  · have h := ifp c4 h
    exact t_X3_follow_50 hC ha y0 cell waits bits held readings broken errors jumps streak frame number user course res hR h
  · have h := ifn c4 h
    refine a_iload 37 1 hC dX3_follow_35 rfl rfl ?_
    refine a_if_ne 50 40 hC dX3_follow_37 (by decide) rfl (fun c7 => ?_) (fun c7 => ?_)
    · have h := ifn c7 h
      exact t_X3_follow_50 hC ha y0 cell waits bits held readings broken errors jumps streak frame number user course res hR h
    · have h := ifp c7 h
      refine a_aload_n 41 0 hC dX3_follow_40 rfl rfl rfl ?_
      refine a_dup 42 hC dX3_follow_41 rfl rfl ?_
      refine a_get 45 0 2 7 hC inB_X3 rfl rfl (by decide) wq98 rfl rfl dX3_follow_42 rfl ?_
      refine a_iconst 46 (v := (1 : Int32)) hC dX3_follow_45 rfl (by decide) ?_
      refine a_iadd 47 hC dX3_follow_46 rfl ?_
      obtain ⟨v8, ev8, h⟩ := nmx h
      refine a_nm ev8 ?_
      refine a_put 50 0 2 7 (rdW ha cell waits bits held readings broken errors v8 streak frame number user course) tyX3 hC inB_X3 tyX3_ok nmX3 rfl rfl (by decide) wq98 rfl rfl rfl rfl rfl (Nat.le_of_ble_eq_true rfl) dX3_follow_47 rfl rfl ?_
      exact t_X3_follow_50 hC ha y0 cell waits bits held readings broken errors v8 streak frame number user course res hR h
def f_X3_follow_25 (readings : Int32) (jumps : Int32) (streak : Int32) (frame : Int32) : Option ((Int32) × (Int32)) := (f_X3_follow_26 (0 : Int32) readings jumps streak frame)
set_option maxRecDepth 100000 in
set_option maxHeartbeats 4000000 in
theorem t_X3_follow_25 {X : qX} (hC : Ok X rm_X3_follow cX3_follow 5 RX3 none) (ha : Nat) (cell : Int32) (waits : Int32) (bits : Int64) (held : Int32) (readings : Int32) (broken : Int32) (errors : Int32) (jumps : Int32) (streak : Int32) (frame : Int32) (number : Int32) (user : Int32) (course : Int32) (res : (Int32) × (Int32)) (hR : Rt X 0 0 (fun r w => r = none ∧ w = (rdW ha cell waits bits held readings broken errors res.1 res.2 frame number user course))) (h : f_X3_follow_25 readings jumps streak frame = some res) : At X 0 0 25 (rdW ha cell waits bits held readings broken errors jumps streak frame number user course) [(0, .ref ha)] [] := by
  unfold f_X3_follow_25 at h
  refine a_iconst 26 (v := (0 : Int32)) hC dX3_follow_25 rfl (by decide) ?_
  exact t_X3_follow_26 hC ha (0 : Int32) cell waits bits held readings broken errors jumps streak frame number user course res hR h
def f_X3_follow (x1 : Int32) (x2 : Int32) (x3 : Int32) (readings : Int32) (jumps : Int32) (streak : Int32) (frame : Int32) : Option ((Int32) × (Int32)) := ((f_X3_hasRead readings).bind fun r1 => (if r1 = (0 : Int32) then (f_X3_follow_25 readings jumps streak frame) else ((f_J9_floorMod_7cf53 (frame + x2) x3).bind fun r9 => (if x1 = r9 then (f_X3_follow_26 (1 : Int32) readings jumps streak frame) else (f_X3_follow_25 readings jumps streak frame)))))
set_option maxRecDepth 100000 in
set_option maxHeartbeats 4000000 in
theorem t_X3_follow {X : qX} (hC : Ok X rm_X3_follow cX3_follow 5 RX3 none) (ha : Nat) (x1 : Int32) (x2 : Int32) (x3 : Int32) (cell : Int32) (waits : Int32) (bits : Int64) (held : Int32) (readings : Int32) (broken : Int32) (errors : Int32) (jumps : Int32) (streak : Int32) (frame : Int32) (number : Int32) (user : Int32) (course : Int32) (res : (Int32) × (Int32)) (hR : Rt X 0 0 (fun r w => r = none ∧ w = (rdW ha cell waits bits held readings broken errors res.1 res.2 frame number user course))) (h : f_X3_follow x1 x2 x3 readings jumps streak frame = some res) : At X 0 0 0 (rdW ha cell waits bits held readings broken errors jumps streak frame number user course) [(0, .ref ha), (1, .int x1), (2, .int x2), (3, .int x3)] [] := by
  unfold f_X3_follow at h
  refine a_aload_n 1 0 hC dX3_follow_0 rfl rfl rfl ?_
  obtain ⟨r1, gr1, h⟩ := bd h
  refine a_callVs 4 (rdW ha cell waits bits held readings broken errors jumps streak frame number user course) 0 2 [] [] (some (.int r1)) [.int r1] hC (c_X3_hasRead X.1.2.1 X.2.2.2.1 X.2.2.2.2 ha cell waits bits held readings broken errors jumps streak frame number user course r1 gr1) ⟨wq450, wq26, wq453, ds_X3_hasRead, by decide, by decide⟩ wq451 wq452 rfl rfl (Nat.le_of_ble_eq_true rfl) dX3_follow_1 rfl rfl rfl ⟨(Nat.le_refl _), (Nat.le_refl _)⟩ rfl rfl rfl ?_
  refine a_if_eq 25 7 hC dX3_follow_4 (by decide) rfl (fun c2 => ?_) (fun c2 => ?_)
  · have h := ifp c2 h
    refine a_lv [0] [(0, .ref ha)] rfl ?_
    exact t_X3_follow_25 hC ha cell waits bits held readings broken errors jumps streak frame number user course res hR h
  · have h := ifn c2 h
    refine a_iload_n 8 1 hC dX3_follow_7 rfl rfl rfl ?_
    refine a_aload_n 9 0 hC dX3_follow_8 rfl rfl rfl ?_
    refine a_get 12 0 2 9 hC inB_X3 rfl rfl (by decide) wq104 rfl rfl dX3_follow_9 rfl ?_
    refine a_iload_n 13 2 hC dX3_follow_12 rfl rfl rfl ?_
    refine a_iadd 14 hC dX3_follow_13 rfl ?_
    refine a_iload_n 15 3 hC dX3_follow_14 rfl rfl rfl ?_
    obtain ⟨r9, gr9, h⟩ := bd h
    refine a_call0 18 [.int (frame + x2), .int x3] [.int x1] (.int r9) hC (c_J9_floorMod_7cf53 X.1.2.1 X.2.2.2.1 X.2.2.2.2 (frame + x2) x3 r9 gr9) ⟨wq454, wq31, wq263, ds_J9_floorMod_7cf53, by decide, by decide⟩ wq262 rfl rfl (Nat.le_of_ble_eq_true rfl) dX3_follow_15 rfl rfl rfl ⟨(Nat.le_refl _), (Nat.le_refl _)⟩ ?_
    refine a_icmp_ne 25 21 hC dX3_follow_18 (by decide) rfl (fun c10 => ?_) (fun c10 => ?_)
    · have h := ifn c10 h
      refine a_lv [0] [(0, .ref ha)] rfl ?_
      exact t_X3_follow_25 hC ha cell waits bits held readings broken errors jumps streak frame number user course res hR h
    · have h := ifp c10 h
      refine a_iconst 22 (v := (1 : Int32)) hC dX3_follow_21 rfl (by decide) ?_
      refine a_goto 26 hC dX3_follow_22 (by decide) ?_
      refine a_lv [0] [(0, .ref ha)] rfl ?_
      exact t_X3_follow_26 hC ha (1 : Int32) cell waits bits held readings broken errors jumps streak frame number user course res hR h
theorem c_X3_follow (l : Launch) (D : va_G) (z : ClassId × ClassId × ClassId) (ha : Nat) (x1 : Int32) (x2 : Int32) (x3 : Int32) (cell : Int32) (waits : Int32) (bits : Int64) (held : Int32) (readings : Int32) (broken : Int32) (errors : Int32) (jumps : Int32) (streak : Int32) (frame : Int32) (number : Int32) (user : Int32) (course : Int32) (res : (Int32) × (Int32)) (h : f_X3_follow x1 x2 x3 readings jumps streak frame = some res) : Ct l D z yX3_follow cX3_follow 5 none rm_X3_follow [.ref ha, .int x1, .int x2, .int x3] (rdW ha cell waits bits held readings broken errors jumps streak frame number user course) (fun r w => r = none ∧ w = (rdW ha cell waits bits held readings broken errors res.1 res.2 frame number user course)) := by
  refine Ct.of (by decide +kernel) (Nat.le_of_ble_eq_true rfl) (fun X hC hl hz hn hR => ?_)
  have hz1 : X.2.2.2.2 = z := by rw [hz]
  subst hz1
  exact t_X3_follow hC ha x1 x2 x3 cell waits bits held readings broken errors jumps streak frame number user course res hR h

/-! X3_accept -/
abbrev rm_X3_accept : Room := { frames := 2, cells := 0, slots := 0, locals := 48 }
theorem ds_X3_accept : yX3_accept.cls ≠ "java/lang/invoke/MethodHandle" ∧ yX3_accept.cls ≠ "java/lang/invoke/VarHandle" ∧ (parseMethodDescriptor yX3_accept.desc).map (fun d => d.parameters.length) = some 2 := by decide +kernel
def f_X3_accept_26 (x1 : Int32) (x2 : Int32) (y0 : Int64) (bits : Int64) (held : Int32) (readings : Int32) (broken : Int32) (jumps : Int32) (streak : Int32) (frame : Int32) (number : Int32) (user : Int32) (course : Int32) : Option ((Int32) × (Int64) × (Int32) × (Int32) × (Int32) × (Int32) × (Int32) × (Int32) × (Int32) × (Int32) × (Int32)) := ((f_X3_letGo bits held).bind fun r3 => ((f_X7_numberIn y0 x2).bind fun r4 => ((f_X2_frameOf x2 r4).bind fun r5 => (if r5 = (-9 : Int32) then (nm (broken + (1 : Int32)) fun v11 => (some ((0 : Int32), r3.1, r3.2, readings, v11, jumps, streak, frame, number, user, course))) else ((f_X2_dayOf x2).bind fun r7 => ((f_X3_follow r5 x1 r7 readings jumps streak frame).bind fun r8 => (nm (readings + (1 : Int32)) fun v9 => ((f_X7_userIn y0).bind fun r10 => (some ((1 : Int32), r3.1, r3.2, v9, broken, r8.1, r8.2, r5, r4, r10, x1))))))))))
set_option maxRecDepth 100000 in
set_option maxHeartbeats 4000000 in
theorem t_X3_accept_26 {X : qX} (hC : Ok X rm_X3_accept cX3_accept 7 RX3 (some .boolean)) (ha : Nat) (x1 : Int32) (x2 : Int32) (y0 : Int64) (cell : Int32) (waits : Int32) (bits : Int64) (held : Int32) (readings : Int32) (broken : Int32) (errors : Int32) (jumps : Int32) (streak : Int32) (frame : Int32) (number : Int32) (user : Int32) (course : Int32) (res : (Int32) × (Int64) × (Int32) × (Int32) × (Int32) × (Int32) × (Int32) × (Int32) × (Int32) × (Int32) × (Int32)) (hR : Rt X 0 0 (fun r w => r = some (.int res.1) ∧ w = (rdW ha cell waits res.2.1 res.2.2.1 res.2.2.2.1 res.2.2.2.2.1 errors res.2.2.2.2.2.1 res.2.2.2.2.2.2.1 res.2.2.2.2.2.2.2.1 res.2.2.2.2.2.2.2.2.1 res.2.2.2.2.2.2.2.2.2.1 res.2.2.2.2.2.2.2.2.2.2))) (h : f_X3_accept_26 x1 x2 y0 bits held readings broken jumps streak frame number user course = some res) : At X 0 0 26 (rdW ha cell waits bits held readings broken errors jumps streak frame number user course) [(0, .ref ha), (1, .int x1), (2, .int x2)] [.long y0] := by
  unfold f_X3_accept_26 at h
  refine a_lstore_n 27 [(0, .ref ha), (1, .int x1), (2, .int x2), (3, .long y0)] [1, 2, 3, 0] hC dX3_accept_26 rfl rfl (by decide) rfl ?_
  refine a_aload_n 28 0 hC dX3_accept_27 rfl rfl rfl ?_
  obtain ⟨r3, gr3, h⟩ := bd h
  refine a_callVs 31 (rdW ha cell waits r3.1 r3.2 readings broken errors jumps streak frame number user course) 0 2 [] [] none [] hC (c_X3_letGo X.1.2.1 X.2.2.2.1 X.2.2.2.2 ha cell waits bits held readings broken errors jumps streak frame number user course r3 gr3) ⟨wq437, wq26, wq440, ds_X3_letGo, by decide, by decide⟩ wq439 wq3 rfl rfl (Nat.le_of_ble_eq_true rfl) dX3_accept_28 rfl rfl rfl ⟨(Nat.le_refl _), (Nat.le_refl _)⟩ rfl rfl rfl ?_
  refine a_lload_n 32 3 hC dX3_accept_31 rfl rfl rfl ?_
  refine a_iload_n 33 2 hC dX3_accept_32 rfl rfl rfl ?_
  obtain ⟨r4, gr4, h⟩ := bd h
  refine a_call0 36 [.long y0, .int x2] [] (.int r4) hC (c_X7_numberIn X.1.2.1 X.2.2.2.1 X.2.2.2.2 y0 x2 r4 gr4) ⟨wq441, wq34, wq443, ds_X7_numberIn, by decide, by decide⟩ wq442 rfl rfl (Nat.le_of_ble_eq_true rfl) dX3_accept_33 rfl rfl rfl ⟨(Nat.le_refl _), (Nat.le_refl _)⟩ ?_
  refine a_istore 38 [(0, .ref ha), (1, .int x1), (2, .int x2), (3, .long y0), (5, .int r4)] [1, 2, 3, 4, 0] hC dX3_accept_36 rfl (by decide) rfl ?_
  refine a_iload_n 39 2 hC dX3_accept_38 rfl rfl rfl ?_
  refine a_iload 41 4 hC dX3_accept_39 rfl rfl ?_
  obtain ⟨r5, gr5, h⟩ := bd h
  refine a_call0 44 [.int x2, .int r4] [] (.int r5) hC (c_X2_frameOf X.1.2.1 X.2.2.2.1 X.2.2.2.2 x2 r4 r5 gr5) ⟨wq444, wq33, wq341, ds_X2_frameOf, by decide, by decide⟩ wq340 rfl rfl (Nat.le_of_ble_eq_true rfl) dX3_accept_41 rfl rfl rfl ⟨(Nat.le_refl _), (Nat.le_refl _)⟩ ?_
  refine a_istore 46 [(0, .ref ha), (1, .int x1), (2, .int x2), (3, .long y0), (5, .int r4), (6, .int r5)] [1, 2, 3, 4, 5, 0] hC dX3_accept_44 rfl (by decide) rfl ?_
  refine a_iload 48 5 hC dX3_accept_46 rfl rfl ?_
  refine a_bipush 50 (v := (-9 : Int32)) hC dX3_accept_48 rfl (by decide) ?_
  refine a_icmp_ne 65 53 hC dX3_accept_50 (by decide) rfl (fun c6 => ?_) (fun c6 => ?_)
  · have h := ifn c6 h
    refine a_aload_n 66 0 hC dX3_accept_65 rfl rfl rfl ?_
    refine a_iload 68 5 hC dX3_accept_66 rfl rfl ?_
    refine a_iload_n 69 1 hC dX3_accept_68 rfl rfl rfl ?_
    refine a_iload_n 70 2 hC dX3_accept_69 rfl rfl rfl ?_
    obtain ⟨r7, gr7, h⟩ := bd h
    refine a_call0 73 [.int x2] [.int x1, .int r5, .ref ha] (.int r7) hC (c_X2_dayOf X.1.2.1 X.2.2.2.1 X.2.2.2.2 x2 r7 gr7) ⟨wq445, wq33, wq301, ds_X2_dayOf, by decide, by decide⟩ wq300 rfl rfl (Nat.le_of_ble_eq_true rfl) dX3_accept_70 rfl rfl rfl ⟨(Nat.le_refl _), (Nat.le_refl _)⟩ ?_
    obtain ⟨r8, gr8, h⟩ := bd h
    refine a_callVs 76 (rdW ha cell waits r3.1 r3.2 readings broken errors r8.1 r8.2 frame number user course) 0 2 [.int r5, .int x1, .int r7] [] none [] hC (c_X3_follow X.1.2.1 X.2.2.2.1 X.2.2.2.2 ha r5 x1 r7 cell waits r3.1 r3.2 readings broken errors jumps streak frame number user course r8 gr8) ⟨wq446, wq26, wq449, ds_X3_follow, by decide, by decide⟩ wq448 wq4 rfl rfl (Nat.le_of_ble_eq_true rfl) dX3_accept_73 rfl rfl rfl ⟨(Nat.le_refl _), (Nat.le_refl _)⟩ rfl rfl rfl ?_
    refine a_aload_n 77 0 hC dX3_accept_76 rfl rfl rfl ?_
    refine a_dup 78 hC dX3_accept_77 rfl rfl ?_
    refine a_get 81 0 2 4 hC inB_X3 rfl rfl (by decide) wq92 rfl rfl dX3_accept_78 rfl ?_
    refine a_iconst 82 (v := (1 : Int32)) hC dX3_accept_81 rfl (by decide) ?_
    refine a_iadd 83 hC dX3_accept_82 rfl ?_
    obtain ⟨v9, ev9, h⟩ := nmx h
    refine a_nm ev9 ?_
    refine a_put 86 0 2 4 (rdW ha cell waits r3.1 r3.2 v9 broken errors r8.1 r8.2 frame number user course) tyX3 hC inB_X3 tyX3_ok nmX3 rfl rfl (by decide) wq92 rfl rfl rfl rfl rfl (Nat.le_of_ble_eq_true rfl) dX3_accept_83 rfl rfl ?_
    refine a_aload_n 87 0 hC dX3_accept_86 rfl rfl rfl ?_
    refine a_iload 89 5 hC dX3_accept_87 rfl rfl ?_
    refine a_put 92 0 2 9 (rdW ha cell waits r3.1 r3.2 v9 broken errors r8.1 r8.2 r5 number user course) tyX3 hC inB_X3 tyX3_ok nmX3 rfl rfl (by decide) wq104 rfl rfl rfl rfl rfl (Nat.le_of_ble_eq_true rfl) dX3_accept_89 rfl rfl ?_
    refine a_aload_n 93 0 hC dX3_accept_92 rfl rfl rfl ?_
    refine a_iload 95 4 hC dX3_accept_93 rfl rfl ?_
    refine a_put 98 0 2 10 (rdW ha cell waits r3.1 r3.2 v9 broken errors r8.1 r8.2 r5 r4 user course) tyX3 hC inB_X3 tyX3_ok nmX3 rfl rfl (by decide) wq106 rfl rfl rfl rfl rfl (Nat.le_of_ble_eq_true rfl) dX3_accept_95 rfl rfl ?_
    refine a_aload_n 99 0 hC dX3_accept_98 rfl rfl rfl ?_
    refine a_lload_n 100 3 hC dX3_accept_99 rfl rfl rfl ?_
    obtain ⟨r10, gr10, h⟩ := bd h
    refine a_call0 103 [.long y0] [.ref ha] (.int r10) hC (c_X7_userIn X.1.2.1 X.2.2.2.1 X.2.2.2.2 y0 r10 gr10) ⟨wq455, wq34, wq457, ds_X7_userIn, by decide, by decide⟩ wq456 rfl rfl (Nat.le_of_ble_eq_true rfl) dX3_accept_100 rfl rfl rfl ⟨(Nat.le_refl _), (Nat.le_refl _)⟩ ?_
    refine a_put 106 0 2 11 (rdW ha cell waits r3.1 r3.2 v9 broken errors r8.1 r8.2 r5 r4 r10 course) tyX3 hC inB_X3 tyX3_ok nmX3 rfl rfl (by decide) wq108 rfl rfl rfl rfl rfl (Nat.le_of_ble_eq_true rfl) dX3_accept_103 rfl rfl ?_
    refine a_aload_n 107 0 hC dX3_accept_106 rfl rfl rfl ?_
    refine a_iload_n 108 1 hC dX3_accept_107 rfl rfl rfl ?_
    refine a_put 111 0 2 12 (rdW ha cell waits r3.1 r3.2 v9 broken errors r8.1 r8.2 r5 r4 r10 x1) tyX3 hC inB_X3 tyX3_ok nmX3 rfl rfl (by decide) wq111 rfl rfl rfl rfl rfl (Nat.le_of_ble_eq_true rfl) dX3_accept_108 rfl rfl ?_
    refine a_iconst 112 (v := (1 : Int32)) hC dX3_accept_111 rfl (by decide) ?_
    obtain rfl := Option.some.inj h
    exact a_zret hC hR ⟨rfl, rfl⟩ rfl (Nat.le_refl _) (Nat.le_refl _) dX3_accept_112
  · have h := ifp c6 h
    refine a_aload_n 54 0 hC dX3_accept_53 rfl rfl rfl ?_
    refine a_dup 55 hC dX3_accept_54 rfl rfl ?_
    refine a_get 58 0 2 5 hC inB_X3 rfl rfl (by decide) wq94 rfl rfl dX3_accept_55 rfl ?_
    refine a_iconst 59 (v := (1 : Int32)) hC dX3_accept_58 rfl (by decide) ?_
    refine a_iadd 60 hC dX3_accept_59 rfl ?_
    obtain ⟨v11, ev11, h⟩ := nmx h
    refine a_nm ev11 ?_
    refine a_put 63 0 2 5 (rdW ha cell waits r3.1 r3.2 readings v11 errors jumps streak frame number user course) tyX3 hC inB_X3 tyX3_ok nmX3 rfl rfl (by decide) wq94 rfl rfl rfl rfl rfl (Nat.le_of_ble_eq_true rfl) dX3_accept_60 rfl rfl ?_
    refine a_iconst 64 (v := (0 : Int32)) hC dX3_accept_63 rfl (by decide) ?_
    obtain rfl := Option.some.inj h
    exact a_zret hC hR ⟨rfl, rfl⟩ rfl (Nat.le_refl _) (Nat.le_refl _) dX3_accept_64
def f_X3_accept (x1 : Int32) (x2 : Int32) (bits : Int64) (held : Int32) (readings : Int32) (broken : Int32) (jumps : Int32) (streak : Int32) (frame : Int32) (number : Int32) (user : Int32) (course : Int32) : Option ((Int32) × (Int64) × (Int32) × (Int32) × (Int32) × (Int32) × (Int32) × (Int32) × (Int32) × (Int32) × (Int32)) := (if x1 = (1 : Int32) then (f_X3_accept_26 x1 x2 (bits &&& (4294967295 : Int64)) bits held readings broken jumps streak frame number user course) else ((f_X7_turned (q_lushr bits (16 : Int32))).bind fun r2 => (f_X3_accept_26 x1 x2 r2 bits held readings broken jumps streak frame number user course)))
set_option maxRecDepth 100000 in
set_option maxHeartbeats 4000000 in
theorem t_X3_accept {X : qX} (hC : Ok X rm_X3_accept cX3_accept 7 RX3 (some .boolean)) (ha : Nat) (x1 : Int32) (x2 : Int32) (cell : Int32) (waits : Int32) (bits : Int64) (held : Int32) (readings : Int32) (broken : Int32) (errors : Int32) (jumps : Int32) (streak : Int32) (frame : Int32) (number : Int32) (user : Int32) (course : Int32) (res : (Int32) × (Int64) × (Int32) × (Int32) × (Int32) × (Int32) × (Int32) × (Int32) × (Int32) × (Int32) × (Int32)) (hR : Rt X 0 0 (fun r w => r = some (.int res.1) ∧ w = (rdW ha cell waits res.2.1 res.2.2.1 res.2.2.2.1 res.2.2.2.2.1 errors res.2.2.2.2.2.1 res.2.2.2.2.2.2.1 res.2.2.2.2.2.2.2.1 res.2.2.2.2.2.2.2.2.1 res.2.2.2.2.2.2.2.2.2.1 res.2.2.2.2.2.2.2.2.2.2))) (h : f_X3_accept x1 x2 bits held readings broken jumps streak frame number user course = some res) : At X 0 0 0 (rdW ha cell waits bits held readings broken errors jumps streak frame number user course) [(0, .ref ha), (1, .int x1), (2, .int x2)] [] := by
  unfold f_X3_accept at h
  refine a_iload_n 1 1 hC dX3_accept_0 rfl rfl rfl ?_
  refine a_iconst 2 (v := (1 : Int32)) hC dX3_accept_1 rfl (by decide) ?_
  refine a_icmp_ne 16 5 hC dX3_accept_2 (by decide) rfl (fun c1 => ?_) (fun c1 => ?_)
  · have h := ifn c1 h
    refine a_aload_n 17 0 hC dX3_accept_16 rfl rfl rfl ?_
    refine a_get 20 0 2 2 hC inB_X3 rfl rfl (by decide) wq89 rfl rfl dX3_accept_17 rfl ?_
    refine a_bipush 22 (v := (16 : Int32)) hC dX3_accept_20 rfl (by decide) ?_
    refine a_lushr 23 hC dX3_accept_22 rfl ?_
    obtain ⟨r2, gr2, h⟩ := bd h
    refine a_call0 26 [.long (q_lushr bits (16 : Int32))] [] (.long r2) hC (c_X7_turned X.1.2.1 X.2.2.2.1 X.2.2.2.2 (q_lushr bits (16 : Int32)) r2 gr2) ⟨wq434, wq34, wq436, ds_X7_turned, by decide, by decide⟩ wq435 rfl rfl (Nat.le_of_ble_eq_true rfl) dX3_accept_23 rfl rfl rfl ⟨(Nat.le_refl _), (Nat.le_refl _)⟩ ?_
    exact t_X3_accept_26 hC ha x1 x2 r2 cell waits bits held readings broken errors jumps streak frame number user course res hR h
  · have h := ifp c1 h
    refine a_aload_n 6 0 hC dX3_accept_5 rfl rfl rfl ?_
    refine a_get 9 0 2 2 hC inB_X3 rfl rfl (by decide) wq89 rfl rfl dX3_accept_6 rfl ?_
    refine a_ldc2 12 (v := (4294967295 : Int64)) hC wq433 dX3_accept_9 rfl ?_
    refine a_land 13 hC dX3_accept_12 rfl ?_
    refine a_goto 26 hC dX3_accept_13 (by decide) ?_
    exact t_X3_accept_26 hC ha x1 x2 (bits &&& (4294967295 : Int64)) cell waits bits held readings broken errors jumps streak frame number user course res hR h
theorem c_X3_accept (l : Launch) (D : va_G) (z : ClassId × ClassId × ClassId) (ha : Nat) (x1 : Int32) (x2 : Int32) (cell : Int32) (waits : Int32) (bits : Int64) (held : Int32) (readings : Int32) (broken : Int32) (errors : Int32) (jumps : Int32) (streak : Int32) (frame : Int32) (number : Int32) (user : Int32) (course : Int32) (res : (Int32) × (Int64) × (Int32) × (Int32) × (Int32) × (Int32) × (Int32) × (Int32) × (Int32) × (Int32) × (Int32)) (h : f_X3_accept x1 x2 bits held readings broken jumps streak frame number user course = some res) : Ct l D z yX3_accept cX3_accept 7 (some .boolean) rm_X3_accept [.ref ha, .int x1, .int x2] (rdW ha cell waits bits held readings broken errors jumps streak frame number user course) (fun r w => r = some (.int res.1) ∧ w = (rdW ha cell waits res.2.1 res.2.2.1 res.2.2.2.1 res.2.2.2.2.1 errors res.2.2.2.2.2.1 res.2.2.2.2.2.2.1 res.2.2.2.2.2.2.2.1 res.2.2.2.2.2.2.2.2.1 res.2.2.2.2.2.2.2.2.2.1 res.2.2.2.2.2.2.2.2.2.2)) := by
  refine Ct.of (by decide +kernel) (Nat.le_of_ble_eq_true rfl) (fun X hC hl hz hn hR => ?_)
  have hz1 : X.2.2.2.2 = z := by rw [hz]
  subst hz1
  exact t_X3_accept hC ha x1 x2 cell waits bits held readings broken errors jumps streak frame number user course res hR h

/-! X3_startAnew -/
abbrev rm_X3_startAnew : Room := { frames := 1, cells := 0, slots := 0, locals := 20 }
theorem ds_X3_startAnew : yX3_startAnew.cls ≠ "java/lang/invoke/MethodHandle" ∧ yX3_startAnew.cls ≠ "java/lang/invoke/VarHandle" ∧ (parseMethodDescriptor yX3_startAnew.desc).map (fun d => d.parameters.length) = some 0 := by decide +kernel
def f_X3_startAnew (cell : Int32) (waits : Int32) (bits : Int64) (held : Int32) (readings : Int32) (broken : Int32) (errors : Int32) (jumps : Int32) (streak : Int32) : Option ((Int32) × (Int32) × (Int64) × (Int32) × (Int32) × (Int32) × (Int32) × (Int32) × (Int32)) := ((f_X3_letGo bits held).bind fun r1 => (some ((40 : Int32), (0 : Int32), r1.1, r1.2, (0 : Int32), (0 : Int32), (0 : Int32), (0 : Int32), (0 : Int32))))
set_option maxRecDepth 100000 in
set_option maxHeartbeats 4000000 in
theorem t_X3_startAnew {X : qX} (hC : Ok X rm_X3_startAnew cX3_startAnew 1 RX3 none) (ha : Nat) (cell : Int32) (waits : Int32) (bits : Int64) (held : Int32) (readings : Int32) (broken : Int32) (errors : Int32) (jumps : Int32) (streak : Int32) (frame : Int32) (number : Int32) (user : Int32) (course : Int32) (res : (Int32) × (Int32) × (Int64) × (Int32) × (Int32) × (Int32) × (Int32) × (Int32) × (Int32)) (hR : Rt X 0 0 (fun r w => r = none ∧ w = (rdW ha res.1 res.2.1 res.2.2.1 res.2.2.2.1 res.2.2.2.2.1 res.2.2.2.2.2.1 res.2.2.2.2.2.2.1 res.2.2.2.2.2.2.2.1 res.2.2.2.2.2.2.2.2 frame number user course))) (h : f_X3_startAnew cell waits bits held readings broken errors jumps streak = some res) : At X 0 0 0 (rdW ha cell waits bits held readings broken errors jumps streak frame number user course) [(0, .ref ha)] [] := by
  unfold f_X3_startAnew at h
  refine a_aload_n 1 0 hC dX3_startAnew_0 rfl rfl rfl ?_
  obtain ⟨r1, gr1, h⟩ := bd h
  refine a_callVs 4 (rdW ha cell waits r1.1 r1.2 readings broken errors jumps streak frame number user course) 0 2 [] [] none [] hC (c_X3_letGo X.1.2.1 X.2.2.2.1 X.2.2.2.2 ha cell waits bits held readings broken errors jumps streak frame number user course r1 gr1) ⟨wq437, wq26, wq440, ds_X3_letGo, by decide, by decide⟩ wq439 wq3 rfl rfl (Nat.le_of_ble_eq_true rfl) dX3_startAnew_1 rfl rfl rfl ⟨(Nat.le_refl _), (Nat.le_refl _)⟩ rfl rfl rfl ?_
  refine a_aload_n 5 0 hC dX3_startAnew_4 rfl rfl rfl ?_
  refine a_bipush 7 (v := (40 : Int32)) hC dX3_startAnew_5 rfl (by decide) ?_
  refine a_put 10 0 2 0 (rdW ha (40 : Int32) waits r1.1 r1.2 readings broken errors jumps streak frame number user course) tyX3 hC inB_X3 tyX3_ok nmX3 rfl rfl (by decide) wq85 rfl rfl rfl rfl rfl (Nat.le_of_ble_eq_true rfl) dX3_startAnew_7 rfl rfl ?_
  refine a_aload_n 11 0 hC dX3_startAnew_10 rfl rfl rfl ?_
  refine a_iconst 12 (v := (0 : Int32)) hC dX3_startAnew_11 rfl (by decide) ?_
  refine a_put 15 0 2 1 (rdW ha (40 : Int32) (0 : Int32) r1.1 r1.2 readings broken errors jumps streak frame number user course) tyX3 hC inB_X3 tyX3_ok nmX3 rfl rfl (by decide) wq87 rfl rfl rfl rfl rfl (Nat.le_of_ble_eq_true rfl) dX3_startAnew_12 rfl rfl ?_
  refine a_aload_n 16 0 hC dX3_startAnew_15 rfl rfl rfl ?_
  refine a_iconst 17 (v := (0 : Int32)) hC dX3_startAnew_16 rfl (by decide) ?_
  refine a_put 20 0 2 4 (rdW ha (40 : Int32) (0 : Int32) r1.1 r1.2 (0 : Int32) broken errors jumps streak frame number user course) tyX3 hC inB_X3 tyX3_ok nmX3 rfl rfl (by decide) wq92 rfl rfl rfl rfl rfl (Nat.le_of_ble_eq_true rfl) dX3_startAnew_17 rfl rfl ?_
  refine a_aload_n 21 0 hC dX3_startAnew_20 rfl rfl rfl ?_
  refine a_iconst 22 (v := (0 : Int32)) hC dX3_startAnew_21 rfl (by decide) ?_
  refine a_put 25 0 2 5 (rdW ha (40 : Int32) (0 : Int32) r1.1 r1.2 (0 : Int32) (0 : Int32) errors jumps streak frame number user course) tyX3 hC inB_X3 tyX3_ok nmX3 rfl rfl (by decide) wq94 rfl rfl rfl rfl rfl (Nat.le_of_ble_eq_true rfl) dX3_startAnew_22 rfl rfl ?_
  refine a_aload_n 26 0 hC dX3_startAnew_25 rfl rfl rfl ?_
  refine a_iconst 27 (v := (0 : Int32)) hC dX3_startAnew_26 rfl (by decide) ?_
  refine a_put 30 0 2 6 (rdW ha (40 : Int32) (0 : Int32) r1.1 r1.2 (0 : Int32) (0 : Int32) (0 : Int32) jumps streak frame number user course) tyX3 hC inB_X3 tyX3_ok nmX3 rfl rfl (by decide) wq96 rfl rfl rfl rfl rfl (Nat.le_of_ble_eq_true rfl) dX3_startAnew_27 rfl rfl ?_
  refine a_aload_n 31 0 hC dX3_startAnew_30 rfl rfl rfl ?_
  refine a_iconst 32 (v := (0 : Int32)) hC dX3_startAnew_31 rfl (by decide) ?_
  refine a_put 35 0 2 7 (rdW ha (40 : Int32) (0 : Int32) r1.1 r1.2 (0 : Int32) (0 : Int32) (0 : Int32) (0 : Int32) streak frame number user course) tyX3 hC inB_X3 tyX3_ok nmX3 rfl rfl (by decide) wq98 rfl rfl rfl rfl rfl (Nat.le_of_ble_eq_true rfl) dX3_startAnew_32 rfl rfl ?_
  refine a_aload_n 36 0 hC dX3_startAnew_35 rfl rfl rfl ?_
  refine a_iconst 37 (v := (0 : Int32)) hC dX3_startAnew_36 rfl (by decide) ?_
  refine a_put 40 0 2 8 (rdW ha (40 : Int32) (0 : Int32) r1.1 r1.2 (0 : Int32) (0 : Int32) (0 : Int32) (0 : Int32) (0 : Int32) frame number user course) tyX3 hC inB_X3 tyX3_ok nmX3 rfl rfl (by decide) wq100 rfl rfl rfl rfl rfl (Nat.le_of_ble_eq_true rfl) dX3_startAnew_37 rfl rfl ?_
  obtain rfl := Option.some.inj h
  exact a_vret hC hR ⟨rfl, rfl⟩ (Nat.le_refl _) (Nat.le_refl _) dX3_startAnew_40
theorem c_X3_startAnew (l : Launch) (D : va_G) (z : ClassId × ClassId × ClassId) (ha : Nat) (cell : Int32) (waits : Int32) (bits : Int64) (held : Int32) (readings : Int32) (broken : Int32) (errors : Int32) (jumps : Int32) (streak : Int32) (frame : Int32) (number : Int32) (user : Int32) (course : Int32) (res : (Int32) × (Int32) × (Int64) × (Int32) × (Int32) × (Int32) × (Int32) × (Int32) × (Int32)) (h : f_X3_startAnew cell waits bits held readings broken errors jumps streak = some res) : Ct l D z yX3_startAnew cX3_startAnew 1 none rm_X3_startAnew [.ref ha] (rdW ha cell waits bits held readings broken errors jumps streak frame number user course) (fun r w => r = none ∧ w = (rdW ha res.1 res.2.1 res.2.2.1 res.2.2.2.1 res.2.2.2.2.1 res.2.2.2.2.2.1 res.2.2.2.2.2.2.1 res.2.2.2.2.2.2.2.1 res.2.2.2.2.2.2.2.2 frame number user course)) := by
  refine Ct.of (by decide +kernel) (Nat.le_of_ble_eq_true rfl) (fun X hC hl hz hn hR => ?_)
  have hz1 : X.2.2.2.2 = z := by rw [hz]
  subst hz1
  exact t_X3_startAnew hC ha cell waits bits held readings broken errors jumps streak frame number user course res hR h

/-! X3_copy -/
abbrev rm_X3_copy : Room := { frames := 0, cells := 0, slots := 0, locals := 0 }
theorem ds_X3_copy : yX3_copy.cls ≠ "java/lang/invoke/MethodHandle" ∧ yX3_copy.cls ≠ "java/lang/invoke/VarHandle" ∧ (parseMethodDescriptor yX3_copy.desc).map (fun d => d.parameters.length) = some 1 := by decide +kernel
def f_X3_copy (cell : Int32) (waits : Int32) (bits : Int64) (held : Int32) (readings : Int32) (broken : Int32) (errors : Int32) (jumps : Int32) (streak : Int32) (frame : Int32) (number : Int32) (user : Int32) (course : Int32) (cell2 : Int32) (waits2 : Int32) (bits2 : Int64) (held2 : Int32) (readings2 : Int32) (broken2 : Int32) (errors2 : Int32) (jumps2 : Int32) (streak2 : Int32) (frame2 : Int32) (number2 : Int32) (user2 : Int32) (course2 : Int32) : Option ((Int32) × (Int32) × (Int64) × (Int32) × (Int32) × (Int32) × (Int32) × (Int32) × (Int32) × (Int32) × (Int32) × (Int32) × (Int32)) := (some (cell2, waits2, bits2, held2, readings2, broken2, errors2, jumps2, streak2, frame2, number2, user2, course2))
set_option maxRecDepth 100000 in
set_option maxHeartbeats 4000000 in
theorem t_X3_copy {X : qX} (hC : Ok X rm_X3_copy cX3_copy 2 RX3 none) (ha ga : Nat) (cell : Int32) (waits : Int32) (bits : Int64) (held : Int32) (readings : Int32) (broken : Int32) (errors : Int32) (jumps : Int32) (streak : Int32) (frame : Int32) (number : Int32) (user : Int32) (course : Int32) (cell2 : Int32) (waits2 : Int32) (bits2 : Int64) (held2 : Int32) (readings2 : Int32) (broken2 : Int32) (errors2 : Int32) (jumps2 : Int32) (streak2 : Int32) (frame2 : Int32) (number2 : Int32) (user2 : Int32) (course2 : Int32) (res : (Int32) × (Int32) × (Int64) × (Int32) × (Int32) × (Int32) × (Int32) × (Int32) × (Int32) × (Int32) × (Int32) × (Int32) × (Int32)) (hR : Rt X 0 0 (fun r w => r = none ∧ w = (rdW ha res.1 res.2.1 res.2.2.1 res.2.2.2.1 res.2.2.2.2.1 res.2.2.2.2.2.1 res.2.2.2.2.2.2.1 res.2.2.2.2.2.2.2.1 res.2.2.2.2.2.2.2.2.1 res.2.2.2.2.2.2.2.2.2.1 res.2.2.2.2.2.2.2.2.2.2.1 res.2.2.2.2.2.2.2.2.2.2.2.1 res.2.2.2.2.2.2.2.2.2.2.2.2 ++ rdW ga cell2 waits2 bits2 held2 readings2 broken2 errors2 jumps2 streak2 frame2 number2 user2 course2))) (h : f_X3_copy cell waits bits held readings broken errors jumps streak frame number user course cell2 waits2 bits2 held2 readings2 broken2 errors2 jumps2 streak2 frame2 number2 user2 course2 = some res) : At X 0 0 0 (rdW ha cell waits bits held readings broken errors jumps streak frame number user course ++ rdW ga cell2 waits2 bits2 held2 readings2 broken2 errors2 jumps2 streak2 frame2 number2 user2 course2) [(0, .ref ha), (1, .ref ga)] [] := by
  unfold f_X3_copy at h
  refine a_aload_n 1 0 hC dX3_copy_0 rfl rfl rfl ?_
  refine a_aload_n 2 1 hC dX3_copy_1 rfl rfl rfl ?_
  refine a_get 5 1 2 0 hC inB_X3 rfl rfl (by decide) wq85 rfl rfl dX3_copy_2 rfl ?_
  refine a_put 8 0 2 0 (rdW ha cell2 waits bits held readings broken errors jumps streak frame number user course ++ rdW ga cell2 waits2 bits2 held2 readings2 broken2 errors2 jumps2 streak2 frame2 number2 user2 course2) tyX3 hC inB_X3 tyX3_ok nmX3 rfl rfl (by decide) wq85 rfl rfl rfl rfl rfl (Nat.le_of_ble_eq_true rfl) dX3_copy_5 rfl rfl ?_
  refine a_aload_n 9 0 hC dX3_copy_8 rfl rfl rfl ?_
  refine a_aload_n 10 1 hC dX3_copy_9 rfl rfl rfl ?_
  refine a_get 13 1 2 1 hC inB_X3 rfl rfl (by decide) wq87 rfl rfl dX3_copy_10 rfl ?_
  refine a_put 16 0 2 1 (rdW ha cell2 waits2 bits held readings broken errors jumps streak frame number user course ++ rdW ga cell2 waits2 bits2 held2 readings2 broken2 errors2 jumps2 streak2 frame2 number2 user2 course2) tyX3 hC inB_X3 tyX3_ok nmX3 rfl rfl (by decide) wq87 rfl rfl rfl rfl rfl (Nat.le_of_ble_eq_true rfl) dX3_copy_13 rfl rfl ?_
  refine a_aload_n 17 0 hC dX3_copy_16 rfl rfl rfl ?_
  refine a_aload_n 18 1 hC dX3_copy_17 rfl rfl rfl ?_
  refine a_get 21 1 2 2 hC inB_X3 rfl rfl (by decide) wq89 rfl rfl dX3_copy_18 rfl ?_
  refine a_put 24 0 2 2 (rdW ha cell2 waits2 bits2 held readings broken errors jumps streak frame number user course ++ rdW ga cell2 waits2 bits2 held2 readings2 broken2 errors2 jumps2 streak2 frame2 number2 user2 course2) tyX3 hC inB_X3 tyX3_ok nmX3 rfl rfl (by decide) wq89 rfl rfl rfl rfl rfl (Nat.le_of_ble_eq_true rfl) dX3_copy_21 rfl rfl ?_
  refine a_aload_n 25 0 hC dX3_copy_24 rfl rfl rfl ?_
  refine a_aload_n 26 1 hC dX3_copy_25 rfl rfl rfl ?_
  refine a_get 29 1 2 3 hC inB_X3 rfl rfl (by decide) wq90 rfl rfl dX3_copy_26 rfl ?_
  refine a_put 32 0 2 3 (rdW ha cell2 waits2 bits2 held2 readings broken errors jumps streak frame number user course ++ rdW ga cell2 waits2 bits2 held2 readings2 broken2 errors2 jumps2 streak2 frame2 number2 user2 course2) tyX3 hC inB_X3 tyX3_ok nmX3 rfl rfl (by decide) wq90 rfl rfl rfl rfl rfl (Nat.le_of_ble_eq_true rfl) dX3_copy_29 rfl rfl ?_
  refine a_aload_n 33 0 hC dX3_copy_32 rfl rfl rfl ?_
  refine a_aload_n 34 1 hC dX3_copy_33 rfl rfl rfl ?_
  refine a_get 37 1 2 4 hC inB_X3 rfl rfl (by decide) wq92 rfl rfl dX3_copy_34 rfl ?_
  refine a_put 40 0 2 4 (rdW ha cell2 waits2 bits2 held2 readings2 broken errors jumps streak frame number user course ++ rdW ga cell2 waits2 bits2 held2 readings2 broken2 errors2 jumps2 streak2 frame2 number2 user2 course2) tyX3 hC inB_X3 tyX3_ok nmX3 rfl rfl (by decide) wq92 rfl rfl rfl rfl rfl (Nat.le_of_ble_eq_true rfl) dX3_copy_37 rfl rfl ?_
  refine a_aload_n 41 0 hC dX3_copy_40 rfl rfl rfl ?_
  refine a_aload_n 42 1 hC dX3_copy_41 rfl rfl rfl ?_
  refine a_get 45 1 2 5 hC inB_X3 rfl rfl (by decide) wq94 rfl rfl dX3_copy_42 rfl ?_
  refine a_put 48 0 2 5 (rdW ha cell2 waits2 bits2 held2 readings2 broken2 errors jumps streak frame number user course ++ rdW ga cell2 waits2 bits2 held2 readings2 broken2 errors2 jumps2 streak2 frame2 number2 user2 course2) tyX3 hC inB_X3 tyX3_ok nmX3 rfl rfl (by decide) wq94 rfl rfl rfl rfl rfl (Nat.le_of_ble_eq_true rfl) dX3_copy_45 rfl rfl ?_
  refine a_aload_n 49 0 hC dX3_copy_48 rfl rfl rfl ?_
  refine a_aload_n 50 1 hC dX3_copy_49 rfl rfl rfl ?_
  refine a_get 53 1 2 6 hC inB_X3 rfl rfl (by decide) wq96 rfl rfl dX3_copy_50 rfl ?_
  refine a_put 56 0 2 6 (rdW ha cell2 waits2 bits2 held2 readings2 broken2 errors2 jumps streak frame number user course ++ rdW ga cell2 waits2 bits2 held2 readings2 broken2 errors2 jumps2 streak2 frame2 number2 user2 course2) tyX3 hC inB_X3 tyX3_ok nmX3 rfl rfl (by decide) wq96 rfl rfl rfl rfl rfl (Nat.le_of_ble_eq_true rfl) dX3_copy_53 rfl rfl ?_
  refine a_aload_n 57 0 hC dX3_copy_56 rfl rfl rfl ?_
  refine a_aload_n 58 1 hC dX3_copy_57 rfl rfl rfl ?_
  refine a_get 61 1 2 7 hC inB_X3 rfl rfl (by decide) wq98 rfl rfl dX3_copy_58 rfl ?_
  refine a_put 64 0 2 7 (rdW ha cell2 waits2 bits2 held2 readings2 broken2 errors2 jumps2 streak frame number user course ++ rdW ga cell2 waits2 bits2 held2 readings2 broken2 errors2 jumps2 streak2 frame2 number2 user2 course2) tyX3 hC inB_X3 tyX3_ok nmX3 rfl rfl (by decide) wq98 rfl rfl rfl rfl rfl (Nat.le_of_ble_eq_true rfl) dX3_copy_61 rfl rfl ?_
  refine a_aload_n 65 0 hC dX3_copy_64 rfl rfl rfl ?_
  refine a_aload_n 66 1 hC dX3_copy_65 rfl rfl rfl ?_
  refine a_get 69 1 2 8 hC inB_X3 rfl rfl (by decide) wq100 rfl rfl dX3_copy_66 rfl ?_
  refine a_put 72 0 2 8 (rdW ha cell2 waits2 bits2 held2 readings2 broken2 errors2 jumps2 streak2 frame number user course ++ rdW ga cell2 waits2 bits2 held2 readings2 broken2 errors2 jumps2 streak2 frame2 number2 user2 course2) tyX3 hC inB_X3 tyX3_ok nmX3 rfl rfl (by decide) wq100 rfl rfl rfl rfl rfl (Nat.le_of_ble_eq_true rfl) dX3_copy_69 rfl rfl ?_
  refine a_aload_n 73 0 hC dX3_copy_72 rfl rfl rfl ?_
  refine a_aload_n 74 1 hC dX3_copy_73 rfl rfl rfl ?_
  refine a_get 77 1 2 9 hC inB_X3 rfl rfl (by decide) wq104 rfl rfl dX3_copy_74 rfl ?_
  refine a_put 80 0 2 9 (rdW ha cell2 waits2 bits2 held2 readings2 broken2 errors2 jumps2 streak2 frame2 number user course ++ rdW ga cell2 waits2 bits2 held2 readings2 broken2 errors2 jumps2 streak2 frame2 number2 user2 course2) tyX3 hC inB_X3 tyX3_ok nmX3 rfl rfl (by decide) wq104 rfl rfl rfl rfl rfl (Nat.le_of_ble_eq_true rfl) dX3_copy_77 rfl rfl ?_
  refine a_aload_n 81 0 hC dX3_copy_80 rfl rfl rfl ?_
  refine a_aload_n 82 1 hC dX3_copy_81 rfl rfl rfl ?_
  refine a_get 85 1 2 10 hC inB_X3 rfl rfl (by decide) wq106 rfl rfl dX3_copy_82 rfl ?_
  refine a_put 88 0 2 10 (rdW ha cell2 waits2 bits2 held2 readings2 broken2 errors2 jumps2 streak2 frame2 number2 user course ++ rdW ga cell2 waits2 bits2 held2 readings2 broken2 errors2 jumps2 streak2 frame2 number2 user2 course2) tyX3 hC inB_X3 tyX3_ok nmX3 rfl rfl (by decide) wq106 rfl rfl rfl rfl rfl (Nat.le_of_ble_eq_true rfl) dX3_copy_85 rfl rfl ?_
  refine a_aload_n 89 0 hC dX3_copy_88 rfl rfl rfl ?_
  refine a_aload_n 90 1 hC dX3_copy_89 rfl rfl rfl ?_
  refine a_get 93 1 2 11 hC inB_X3 rfl rfl (by decide) wq108 rfl rfl dX3_copy_90 rfl ?_
  refine a_put 96 0 2 11 (rdW ha cell2 waits2 bits2 held2 readings2 broken2 errors2 jumps2 streak2 frame2 number2 user2 course ++ rdW ga cell2 waits2 bits2 held2 readings2 broken2 errors2 jumps2 streak2 frame2 number2 user2 course2) tyX3 hC inB_X3 tyX3_ok nmX3 rfl rfl (by decide) wq108 rfl rfl rfl rfl rfl (Nat.le_of_ble_eq_true rfl) dX3_copy_93 rfl rfl ?_
  refine a_aload_n 97 0 hC dX3_copy_96 rfl rfl rfl ?_
  refine a_aload_n 98 1 hC dX3_copy_97 rfl rfl rfl ?_
  refine a_get 101 1 2 12 hC inB_X3 rfl rfl (by decide) wq111 rfl rfl dX3_copy_98 rfl ?_
  refine a_put 104 0 2 12 (rdW ha cell2 waits2 bits2 held2 readings2 broken2 errors2 jumps2 streak2 frame2 number2 user2 course2 ++ rdW ga cell2 waits2 bits2 held2 readings2 broken2 errors2 jumps2 streak2 frame2 number2 user2 course2) tyX3 hC inB_X3 tyX3_ok nmX3 rfl rfl (by decide) wq111 rfl rfl rfl rfl rfl (Nat.le_of_ble_eq_true rfl) dX3_copy_101 rfl rfl ?_
  obtain rfl := Option.some.inj h
  exact a_vret hC hR ⟨rfl, rfl⟩ (Nat.le_refl _) (Nat.le_refl _) dX3_copy_104
theorem c_X3_copy (l : Launch) (D : va_G) (z : ClassId × ClassId × ClassId) (ha ga : Nat) (cell : Int32) (waits : Int32) (bits : Int64) (held : Int32) (readings : Int32) (broken : Int32) (errors : Int32) (jumps : Int32) (streak : Int32) (frame : Int32) (number : Int32) (user : Int32) (course : Int32) (cell2 : Int32) (waits2 : Int32) (bits2 : Int64) (held2 : Int32) (readings2 : Int32) (broken2 : Int32) (errors2 : Int32) (jumps2 : Int32) (streak2 : Int32) (frame2 : Int32) (number2 : Int32) (user2 : Int32) (course2 : Int32) (res : (Int32) × (Int32) × (Int64) × (Int32) × (Int32) × (Int32) × (Int32) × (Int32) × (Int32) × (Int32) × (Int32) × (Int32) × (Int32)) (h : f_X3_copy cell waits bits held readings broken errors jumps streak frame number user course cell2 waits2 bits2 held2 readings2 broken2 errors2 jumps2 streak2 frame2 number2 user2 course2 = some res) : Ct l D z yX3_copy cX3_copy 2 none rm_X3_copy [.ref ha, .ref ga] (rdW ha cell waits bits held readings broken errors jumps streak frame number user course ++ rdW ga cell2 waits2 bits2 held2 readings2 broken2 errors2 jumps2 streak2 frame2 number2 user2 course2) (fun r w => r = none ∧ w = (rdW ha res.1 res.2.1 res.2.2.1 res.2.2.2.1 res.2.2.2.2.1 res.2.2.2.2.2.1 res.2.2.2.2.2.2.1 res.2.2.2.2.2.2.2.1 res.2.2.2.2.2.2.2.2.1 res.2.2.2.2.2.2.2.2.2.1 res.2.2.2.2.2.2.2.2.2.2.1 res.2.2.2.2.2.2.2.2.2.2.2.1 res.2.2.2.2.2.2.2.2.2.2.2.2 ++ rdW ga cell2 waits2 bits2 held2 readings2 broken2 errors2 jumps2 streak2 frame2 number2 user2 course2)) := by
  refine Ct.of (by decide +kernel) (Nat.le_of_ble_eq_true rfl) (fun X hC hl hz hn hR => ?_)
  have hz1 : X.2.2.2.2 = z := by rw [hz]
  subst hz1
  exact t_X3_copy hC ha ga cell waits bits held readings broken errors jumps streak frame number user course cell2 waits2 bits2 held2 readings2 broken2 errors2 jumps2 streak2 frame2 number2 user2 course2 res hR h

/-! X5_bitsInAll -/
abbrev rm_X5_bitsInAll : Room := { frames := 0, cells := 0, slots := 0, locals := 0 }
theorem ds_X5_bitsInAll : yX5_bitsInAll.cls ≠ "java/lang/invoke/MethodHandle" ∧ yX5_bitsInAll.cls ≠ "java/lang/invoke/VarHandle" ∧ (parseMethodDescriptor yX5_bitsInAll.desc).map (fun d => d.parameters.length) = some 0 := by decide +kernel
def f_X5_bitsInAll (words : Int32) : Option ((Int32)) := (some ((48 : Int32) * words))
set_option maxRecDepth 100000 in
set_option maxHeartbeats 4000000 in
theorem t_X5_bitsInAll {X : qX} (hC : Ok X rm_X5_bitsInAll cX5_bitsInAll 1 RX5 (some .int)) (ha ha1 ha2 ha3 : Nat) (first : Nat → Int32) (length : Nat → Int32) (user : Nat → Int32) (segments : Int32) (words : Int32) (head : Int32) (res : (Int32)) (hR : Rt X 0 0 (fun r w => r = some (.int res) ∧ w = (tpW X.2.2.2.2 ha ha1 ha2 ha3 first length user segments words head))) (h : f_X5_bitsInAll words = some res) : At X 0 0 0 (tpW X.2.2.2.2 ha ha1 ha2 ha3 first length user segments words head) [(0, .ref ha)] [] := by
  unfold f_X5_bitsInAll at h
  refine a_bipush 2 (v := (48 : Int32)) hC dX5_bitsInAll_0 rfl (by decide) ?_
  refine a_aload_n 3 0 hC dX5_bitsInAll_2 rfl rfl rfl ?_
  refine a_get 6 0 4 4 hC inB_X5 rfl rfl (by decide) wq61 rfl rfl dX5_bitsInAll_3 rfl ?_
  refine a_imul 7 hC dX5_bitsInAll_6 rfl ?_
  obtain rfl := Option.some.inj h
  exact a_iret hC hR ⟨rfl, rfl⟩ (Nat.le_refl _) (Nat.le_refl _) dX5_bitsInAll_7
theorem c_X5_bitsInAll (l : Launch) (D : va_G) (z : ClassId × ClassId × ClassId) (ha ha1 ha2 ha3 : Nat) (first : Nat → Int32) (length : Nat → Int32) (user : Nat → Int32) (segments : Int32) (words : Int32) (head : Int32) (res : (Int32)) (h : f_X5_bitsInAll words = some res) : Ct l D z yX5_bitsInAll cX5_bitsInAll 1 (some .int) rm_X5_bitsInAll [.ref ha] (tpW z ha ha1 ha2 ha3 first length user segments words head) (fun r w => r = some (.int res) ∧ w = (tpW z ha ha1 ha2 ha3 first length user segments words head)) := by
  refine Ct.of (by decide +kernel) (Nat.le_of_ble_eq_true rfl) (fun X hC hl hz hn hR => ?_)
  have hz1 : X.2.2.2.2 = z := by rw [hz]
  subst hz1
  exact t_X5_bitsInAll hC ha ha1 ha2 ha3 first length user segments words head res hR h

/-! X5_append -/
abbrev rm_X5_append : Room := { frames := 0, cells := 0, slots := 0, locals := 0 }
theorem ds_X5_append : yX5_append.cls ≠ "java/lang/invoke/MethodHandle" ∧ yX5_append.cls ≠ "java/lang/invoke/VarHandle" ∧ (parseMethodDescriptor yX5_append.desc).map (fun d => d.parameters.length) = some 3 := by decide +kernel
def f_X5_append (x1 : Int32) (x2 : Int32) (x3 : Int32) (first : Nat → Int32) (length : Nat → Int32) (user : Nat → Int32) (segments : Int32) (words : Int32) : Option ((Nat → Int32) × (Nat → Int32) × (Nat → Int32) × (Int32) × (Int32)) := (if segments < (0 : Int32) then (some (first, length, user, segments, words)) else (if segments < (6 : Int32) then (gd segments 6 (nm (upd first (Int32.toNatClampNeg segments) x1) fun firstq3 => (gd segments 6 (nm (upd length (Int32.toNatClampNeg segments) x2) fun lengthq5 => (gd segments 6 (nm (upd user (Int32.toNatClampNeg segments) x3) fun userq7 => (nm (segments + (1 : Int32)) fun v9 => (nm (words + x2) fun v10 => (some (firstq3, lengthq5, userq7, v9, v10)))))))))) else (some (first, length, user, segments, words))))
set_option maxRecDepth 100000 in
set_option maxHeartbeats 4000000 in
theorem t_X5_append {X : qX} (hC : Ok X rm_X5_append cX5_append 4 RX5 none) (ha ha1 ha2 ha3 : Nat) (x1 : Int32) (x2 : Int32) (x3 : Int32) (first : Nat → Int32) (length : Nat → Int32) (user : Nat → Int32) (segments : Int32) (words : Int32) (head : Int32) (res : (Nat → Int32) × (Nat → Int32) × (Nat → Int32) × (Int32) × (Int32)) (hR : Rt X 0 0 (fun r w => r = none ∧ w = (tpW X.2.2.2.2 ha ha1 ha2 ha3 res.1 res.2.1 res.2.2.1 res.2.2.2.1 res.2.2.2.2 head))) (h : f_X5_append x1 x2 x3 first length user segments words = some res) : At X 0 0 0 (tpW X.2.2.2.2 ha ha1 ha2 ha3 first length user segments words head) [(0, .ref ha), (1, .int x1), (2, .int x2), (3, .int x3)] [] := by
  unfold f_X5_append at h
  refine a_aload_n 1 0 hC dX5_append_0 rfl rfl rfl ?_
  refine a_get 4 0 4 3 hC inB_X5 rfl rfl (by decide) wq59 rfl rfl dX5_append_1 rfl ?_
  refine a_if_lt 16 7 hC dX5_append_4 (by decide) rfl (fun c1 => ?_) (fun c1 => ?_)
  · have h := ifp c1 h
    obtain rfl := Option.some.inj h
    exact a_vret hC hR ⟨rfl, rfl⟩ (Nat.le_refl _) (Nat.le_refl _) dX5_append_16
  · have h := ifn c1 h
    refine a_aload_n 8 0 hC dX5_append_7 rfl rfl rfl ?_
    refine a_get 11 0 4 3 hC inB_X5 rfl rfl (by decide) wq59 rfl rfl dX5_append_8 rfl ?_
    refine a_bipush 13 (v := (6 : Int32)) hC dX5_append_11 rfl (by decide) ?_
    refine a_icmp_lt 17 16 hC dX5_append_13 (by decide) rfl (fun c2 => ?_) (fun c2 => ?_)
    · have h := ifp c2 h
      refine a_aload_n 18 0 hC dX5_append_17 rfl rfl rfl ?_
      refine a_get 21 0 4 0 hC inB_X5 rfl rfl (by decide) wq56 rfl rfl dX5_append_18 rfl ?_
      refine a_aload_n 22 0 hC dX5_append_21 rfl rfl rfl ?_
      refine a_get 25 0 4 3 hC inB_X5 rfl rfl (by decide) wq59 rfl rfl dX5_append_22 rfl ?_
      refine a_iload_n 26 1 hC dX5_append_25 rfl rfl rfl ?_
      obtain ⟨n4, h⟩ := gdx h
      obtain ⟨firstq3, efirstq3, h⟩ := nmx h
      refine a_iast 27 1 (tpW X.2.2.2.2 ha ha1 ha2 ha3 firstq3 length user segments words head) hC rfl n4 dX5_append_26 rfl (by rw [efirstq3]; rfl) ?_
      refine a_aload_n 28 0 hC dX5_append_27 rfl rfl rfl ?_
      refine a_get 31 0 4 1 hC inB_X5 rfl rfl (by decide) wq57 rfl rfl dX5_append_28 rfl ?_
      refine a_aload_n 32 0 hC dX5_append_31 rfl rfl rfl ?_
      refine a_get 35 0 4 3 hC inB_X5 rfl rfl (by decide) wq59 rfl rfl dX5_append_32 rfl ?_
      refine a_iload_n 36 2 hC dX5_append_35 rfl rfl rfl ?_
      obtain ⟨n6, h⟩ := gdx h
      obtain ⟨lengthq5, elengthq5, h⟩ := nmx h
      refine a_iast 37 2 (tpW X.2.2.2.2 ha ha1 ha2 ha3 firstq3 lengthq5 user segments words head) hC rfl n6 dX5_append_36 rfl (by rw [elengthq5]; rfl) ?_
      refine a_aload_n 38 0 hC dX5_append_37 rfl rfl rfl ?_
      refine a_get 41 0 4 2 hC inB_X5 rfl rfl (by decide) wq58 rfl rfl dX5_append_38 rfl ?_
      refine a_aload_n 42 0 hC dX5_append_41 rfl rfl rfl ?_
      refine a_get 45 0 4 3 hC inB_X5 rfl rfl (by decide) wq59 rfl rfl dX5_append_42 rfl ?_
      refine a_iload_n 46 3 hC dX5_append_45 rfl rfl rfl ?_
      obtain ⟨n8, h⟩ := gdx h
      obtain ⟨userq7, euserq7, h⟩ := nmx h
      refine a_iast 47 3 (tpW X.2.2.2.2 ha ha1 ha2 ha3 firstq3 lengthq5 userq7 segments words head) hC rfl n8 dX5_append_46 rfl (by rw [euserq7]; rfl) ?_
      refine a_aload_n 48 0 hC dX5_append_47 rfl rfl rfl ?_
      refine a_dup 49 hC dX5_append_48 rfl rfl ?_
      refine a_get 52 0 4 3 hC inB_X5 rfl rfl (by decide) wq59 rfl rfl dX5_append_49 rfl ?_
      refine a_iconst 53 (v := (1 : Int32)) hC dX5_append_52 rfl (by decide) ?_
      refine a_iadd 54 hC dX5_append_53 rfl ?_
      obtain ⟨v9, ev9, h⟩ := nmx h
      refine a_nm ev9 ?_
      refine a_put 57 0 4 3 (tpW X.2.2.2.2 ha ha1 ha2 ha3 firstq3 lengthq5 userq7 v9 words head) tyX5 hC inB_X5 tyX5_ok nmX5 rfl rfl (by decide) wq59 rfl rfl rfl rfl rfl (Nat.le_of_ble_eq_true rfl) dX5_append_54 rfl rfl ?_
      refine a_aload_n 58 0 hC dX5_append_57 rfl rfl rfl ?_
      refine a_dup 59 hC dX5_append_58 rfl rfl ?_
      refine a_get 62 0 4 4 hC inB_X5 rfl rfl (by decide) wq61 rfl rfl dX5_append_59 rfl ?_
      refine a_iload_n 63 2 hC dX5_append_62 rfl rfl rfl ?_
      refine a_iadd 64 hC dX5_append_63 rfl ?_
      obtain ⟨v10, ev10, h⟩ := nmx h
      refine a_nm ev10 ?_
      refine a_put 67 0 4 4 (tpW X.2.2.2.2 ha ha1 ha2 ha3 firstq3 lengthq5 userq7 v9 v10 head) tyX5 hC inB_X5 tyX5_ok nmX5 rfl rfl (by decide) wq61 rfl rfl rfl rfl rfl (Nat.le_of_ble_eq_true rfl) dX5_append_64 rfl rfl ?_
      obtain rfl := Option.some.inj h
      exact a_vret hC hR ⟨rfl, rfl⟩ (Nat.le_refl _) (Nat.le_refl _) dX5_append_67
    · have h := ifn c2 h
      obtain rfl := Option.some.inj h
      exact a_vret hC hR ⟨rfl, rfl⟩ (Nat.le_refl _) (Nat.le_refl _) dX5_append_16
theorem c_X5_append (l : Launch) (D : va_G) (z : ClassId × ClassId × ClassId) (ha ha1 ha2 ha3 : Nat) (x1 : Int32) (x2 : Int32) (x3 : Int32) (first : Nat → Int32) (length : Nat → Int32) (user : Nat → Int32) (segments : Int32) (words : Int32) (head : Int32) (res : (Nat → Int32) × (Nat → Int32) × (Nat → Int32) × (Int32) × (Int32)) (h : f_X5_append x1 x2 x3 first length user segments words = some res) : Ct l D z yX5_append cX5_append 4 none rm_X5_append [.ref ha, .int x1, .int x2, .int x3] (tpW z ha ha1 ha2 ha3 first length user segments words head) (fun r w => r = none ∧ w = (tpW z ha ha1 ha2 ha3 res.1 res.2.1 res.2.2.1 res.2.2.2.1 res.2.2.2.2 head)) := by
  refine Ct.of (by decide +kernel) (Nat.le_of_ble_eq_true rfl) (fun X hC hl hz hn hR => ?_)
  have hz1 : X.2.2.2.2 = z := by rw [hz]
  subst hz1
  exact t_X5_append hC ha ha1 ha2 ha3 x1 x2 x3 first length user segments words head res hR h

/-! X5_wordAt -/
abbrev rm_X5_wordAt : Room := { frames := 3, cells := 0, slots := 0, locals := 74 }
theorem ds_X5_wordAt : yX5_wordAt.cls ≠ "java/lang/invoke/MethodHandle" ∧ yX5_wordAt.cls ≠ "java/lang/invoke/VarHandle" ∧ (parseMethodDescriptor yX5_wordAt.desc).map (fun d => d.parameters.length) = some 2 := by decide +kernel
def fb_X5_wordAt_5 (x2 : Int32) (first : Nat → Int32) (length : Nat → Int32) (user : Nat → Int32) (segments : Int32) (w : ((Int32) × (Int32))) : Option (((Int32) × (Int32)) ⊕ (((Int32) × (Int32)) ⊕ (Unit))) := (if segments ≤ w.2 then (some (.inr (.inr ()))) else (if (6 : Int32) ≤ w.2 then (some (.inr (.inr ()))) else (gd w.2 6 (if (length (Int32.toNatClampNeg w.2)) ≤ w.1 then (gd w.2 6 (nm (w.1 - (length (Int32.toNatClampNeg w.2))) fun v6 => (nm (w.2 + (1 : Int32)) fun v7 => (some (.inl (v6, v7)))))) else (some (.inr (.inl (w.1, w.2))))))))
set_option maxRecDepth 100000 in
set_option maxHeartbeats 4000000 in
theorem tb_X5_wordAt_5 {X : qX} (hC : Ok X rm_X5_wordAt cX5_wordAt 5 RX5 (some .long)) (ha ha1 ha2 ha3 : Nat) (x2 : Int32) (first : Nat → Int32) (length : Nat → Int32) (user : Nat → Int32) (segments : Int32) (words : Int32) (head : Int32) (w : ((Int32) × (Int32))) (o : ((Int32) × (Int32)) ⊕ (((Int32) × (Int32)) ⊕ (Unit))) (h : fb_X5_wordAt_5 x2 first length user segments w = some o) (hk : Sum.elim (fun (w : ((Int32) × (Int32))) => At X 0 0 5 (tpW X.2.2.2.2 ha ha1 ha2 ha3 first length user segments words head) [(0, .ref ha), (2, .int x2), (3, .int w.1), (4, .int w.2)] []) (Sum.elim (fun (w : (Int32) × (Int32)) => At X 0 0 32 (tpW X.2.2.2.2 ha ha1 ha2 ha3 first length user segments words head) [(0, .ref ha), (2, .int x2), (3, .int w.1), (4, .int w.2)] []) (fun (w : Unit) => At X 0 0 76 (tpW X.2.2.2.2 ha ha1 ha2 ha3 first length user segments words head) [] [])) o) : At X 0 0 5 (tpW X.2.2.2.2 ha ha1 ha2 ha3 first length user segments words head) [(0, .ref ha), (2, .int x2), (3, .int w.1), (4, .int w.2)] [] := by
  unfold fb_X5_wordAt_5 at h
  refine a_iload 7 3 hC dX5_wordAt_5 rfl rfl ?_
  refine a_aload_n 8 0 hC dX5_wordAt_7 rfl rfl rfl ?_
  refine a_get 11 0 4 3 hC inB_X5 rfl rfl (by decide) wq59 rfl rfl dX5_wordAt_8 rfl ?_
  refine a_icmp_ge 76 14 hC dX5_wordAt_11 (by decide) rfl (fun c1 => ?_) (fun c1 => ?_)
  · have h := ifp c1 h
    obtain rfl := Option.some.inj h
    refine a_lv [] [] rfl ?_
    exact hk
  · have h := ifn c1 h
    refine a_iload 16 3 hC dX5_wordAt_14 rfl rfl ?_
    refine a_bipush 18 (v := (6 : Int32)) hC dX5_wordAt_16 rfl (by decide) ?_
    refine a_icmp_ge 76 21 hC dX5_wordAt_18 (by decide) rfl (fun c2 => ?_) (fun c2 => ?_)
    · have h := ifp c2 h
      obtain rfl := Option.some.inj h
      refine a_lv [] [] rfl ?_
      exact hk
    · have h := ifn c2 h
      refine a_iload_n 22 2 hC dX5_wordAt_21 rfl rfl rfl ?_
      refine a_aload_n 23 0 hC dX5_wordAt_22 rfl rfl rfl ?_
      refine a_get 26 0 4 1 hC inB_X5 rfl rfl (by decide) wq57 rfl rfl dX5_wordAt_23 rfl ?_
      refine a_iload 28 3 hC dX5_wordAt_26 rfl rfl ?_
      obtain ⟨n3, h⟩ := gdx h
      refine a_iald 29 2 hC rfl n3 dX5_wordAt_28 rfl ?_
      refine a_icmp_ge 60 32 hC dX5_wordAt_29 (by decide) rfl (fun c4 => ?_) (fun c4 => ?_)
      · have h := ifp c4 h
        refine a_iload_n 61 2 hC dX5_wordAt_60 rfl rfl rfl ?_
        refine a_aload_n 62 0 hC dX5_wordAt_61 rfl rfl rfl ?_
        refine a_get 65 0 4 1 hC inB_X5 rfl rfl (by decide) wq57 rfl rfl dX5_wordAt_62 rfl ?_
        refine a_iload 67 3 hC dX5_wordAt_65 rfl rfl ?_
        obtain ⟨n5, h⟩ := gdx h
        refine a_iald 68 2 hC rfl n5 dX5_wordAt_67 rfl ?_
        refine a_isub 69 hC dX5_wordAt_68 rfl ?_
        obtain ⟨v6, ev6, h⟩ := nmx h
        refine a_nm ev6 ?_
        refine a_istore_n 70 [(0, .ref ha), (2, .int x2), (3, .int v6), (4, .int w.2)] [1, 2, 0, 3] hC dX5_wordAt_69 rfl rfl (by decide) rfl ?_
        obtain ⟨v7, ev7, h⟩ := nmx h
        refine a_iinc 73 3 [(0, .ref ha), (2, .int x2), (3, .int v6), (4, .int v7)] [1, 2, 3, 0] hC dX5_wordAt_70 rfl rfl (v := v7) (by rw [ev7]; rfl) (by decide) rfl ?_
        refine a_goto 5 hC dX5_wordAt_73 (by decide) ?_
        obtain rfl := Option.some.inj h
        exact hk
      · have h := ifn c4 h
        obtain rfl := Option.some.inj h
        exact hk
def f_X5_wordAt (x1 : Int32) (x2 : Int32) (first : Nat → Int32) (length : Nat → Int32) (user : Nat → Int32) (segments : Int32) : Option ((Int64)) := ((lp (fb_X5_wordAt_5 x2 first length user segments) 100000 (x1, (0 : Int32))).bind fun r8 => Sum.elim (fun r9 => (gd r9.2 6 ((f_X2_dayOf x2).bind fun r11 => ((f_J9_floorMod_7cf53 ((first (Int32.toNatClampNeg r9.2)) + r9.1) r11).bind fun r12 => (gd r9.2 6 ((f_X7_wordOf x2 r12 (user (Int32.toNatClampNeg r9.2))).bind fun r14 => (some r14))))))) (fun r9 => (some (0 : Int64))) r8)
set_option maxRecDepth 100000 in
set_option maxHeartbeats 4000000 in
theorem t_X5_wordAt {X : qX} (hC : Ok X rm_X5_wordAt cX5_wordAt 5 RX5 (some .long)) (ha ha1 ha2 ha3 : Nat) (x1 : Int32) (x2 : Int32) (first : Nat → Int32) (length : Nat → Int32) (user : Nat → Int32) (segments : Int32) (words : Int32) (head : Int32) (res : (Int64)) (hR : Rt X 0 0 (fun r w => r = some (.long res) ∧ w = (tpW X.2.2.2.2 ha ha1 ha2 ha3 first length user segments words head))) (h : f_X5_wordAt x1 x2 first length user segments = some res) : At X 0 0 0 (tpW X.2.2.2.2 ha ha1 ha2 ha3 first length user segments words head) [(0, .ref ha), (1, .int x1), (2, .int x2)] [] := by
  unfold f_X5_wordAt at h
  refine a_iload_n 1 1 hC dX5_wordAt_0 rfl rfl rfl ?_
  refine a_istore_n 2 [(0, .ref ha), (1, .int x1), (2, .int x2), (3, .int x1)] [1, 2, 3, 0] hC dX5_wordAt_1 rfl rfl (by decide) rfl ?_
  refine a_iconst 3 (v := (0 : Int32)) hC dX5_wordAt_2 rfl (by decide) ?_
  refine a_istore 5 [(0, .ref ha), (1, .int x1), (2, .int x2), (3, .int x1), (4, .int (0 : Int32))] [1, 2, 3, 4, 0] hC dX5_wordAt_3 rfl (by decide) rfl ?_
  obtain ⟨r8, gr8, h⟩ := bd h
  refine a_lv [0, 2, 3, 4] [(0, .ref ha), (2, .int x2), (3, .int x1), (4, .int (0 : Int32))] rfl ?_
  refine lp_walk (Wh := (fun (u5 : ((Int32) × (Int32))) => At X 0 0 5 (tpW X.2.2.2.2 ha ha1 ha2 ha3 first length user segments words head) [(0, .ref ha), (2, .int x2), (3, .int u5.1), (4, .int u5.2)] [])) (We := (Sum.elim (fun (u5 : (Int32) × (Int32)) => At X 0 0 32 (tpW X.2.2.2.2 ha ha1 ha2 ha3 first length user segments words head) [(0, .ref ha), (2, .int x2), (3, .int u5.1), (4, .int u5.2)] []) (fun (u5 : Unit) => At X 0 0 76 (tpW X.2.2.2.2 ha ha1 ha2 ha3 first length user segments words head) [] []))) (fun u9 o9 hb9 hk9 => tb_X5_wordAt_5 hC ha ha1 ha2 ha3 x2 first length user segments words head u9 o9 hb9 hk9) 100000 (x1, (0 : Int32)) r8 gr8 ?_
  rcases r8 with r9 | r9
  · have h := sel h
    show At X 0 0 32 (tpW X.2.2.2.2 ha ha1 ha2 ha3 first length user segments words head) [(0, .ref ha), (2, .int x2), (3, .int r9.1), (4, .int r9.2)] []
    refine a_iload_n 33 1 hC dX5_wordAt_32 rfl rfl rfl ?_
    refine a_aload_n 34 0 hC dX5_wordAt_33 rfl rfl rfl ?_
    refine a_get 37 0 4 0 hC inB_X5 rfl rfl (by decide) wq56 rfl rfl dX5_wordAt_34 rfl ?_
    refine a_iload 39 3 hC dX5_wordAt_37 rfl rfl ?_
    obtain ⟨n10, h⟩ := gdx h
    refine a_iald 40 1 hC rfl n10 dX5_wordAt_39 rfl ?_
    refine a_iload_n 41 2 hC dX5_wordAt_40 rfl rfl rfl ?_
    refine a_iadd 42 hC dX5_wordAt_41 rfl ?_
    refine a_iload_n 43 1 hC dX5_wordAt_42 rfl rfl rfl ?_
    obtain ⟨r11, gr11, h⟩ := bd h
    refine a_call0 46 [.int x2] [.int ((first (Int32.toNatClampNeg r9.2)) + r9.1), .int x2] (.int r11) hC (c_X2_dayOf X.1.2.1 X.2.2.2.1 X.2.2.2.2 x2 r11 gr11) ⟨wq374, wq33, wq301, ds_X2_dayOf, by decide, by decide⟩ wq300 rfl rfl (Nat.le_of_ble_eq_true rfl) dX5_wordAt_43 rfl rfl rfl ⟨(Nat.le_refl _), (Nat.le_refl _)⟩ ?_
    obtain ⟨r12, gr12, h⟩ := bd h
    refine a_call0 49 [.int ((first (Int32.toNatClampNeg r9.2)) + r9.1), .int r11] [.int x2] (.int r12) hC (c_J9_floorMod_7cf53 X.1.2.1 X.2.2.2.1 X.2.2.2.2 ((first (Int32.toNatClampNeg r9.2)) + r9.1) r11 r12 gr12) ⟨wq310, wq31, wq263, ds_J9_floorMod_7cf53, by decide, by decide⟩ wq262 rfl rfl (Nat.le_of_ble_eq_true rfl) dX5_wordAt_46 rfl rfl rfl ⟨(Nat.le_refl _), (Nat.le_refl _)⟩ ?_
    refine a_aload_n 50 0 hC dX5_wordAt_49 rfl rfl rfl ?_
    refine a_get 53 0 4 2 hC inB_X5 rfl rfl (by decide) wq58 rfl rfl dX5_wordAt_50 rfl ?_
    refine a_iload 55 3 hC dX5_wordAt_53 rfl rfl ?_
    obtain ⟨n13, h⟩ := gdx h
    refine a_iald 56 3 hC rfl n13 dX5_wordAt_55 rfl ?_
    obtain ⟨r14, gr14, h⟩ := bd h
    refine a_call0 59 [.int x2, .int r12, .int (user (Int32.toNatClampNeg r9.2))] [] (.long r14) hC (c_X7_wordOf X.1.2.1 X.2.2.2.1 X.2.2.2.2 x2 r12 (user (Int32.toNatClampNeg r9.2)) r14 gr14) ⟨wq375, wq34, wq377, ds_X7_wordOf, by decide, by decide⟩ wq376 rfl rfl (Nat.le_of_ble_eq_true rfl) dX5_wordAt_56 rfl rfl rfl ⟨(Nat.le_refl _), (Nat.le_refl _)⟩ ?_
    obtain rfl := Option.some.inj h
    exact a_lret hC hR ⟨rfl, rfl⟩ (Nat.le_refl _) (Nat.le_refl _) dX5_wordAt_59
  · have h := ser h
    show At X 0 0 76 (tpW X.2.2.2.2 ha ha1 ha2 ha3 first length user segments words head) [] []
    refine a_lconst 77 (v := (0 : Int64)) hC dX5_wordAt_76 rfl (by decide) ?_
    obtain rfl := Option.some.inj h
    exact a_lret hC hR ⟨rfl, rfl⟩ (Nat.le_refl _) (Nat.le_refl _) dX5_wordAt_77
theorem c_X5_wordAt (l : Launch) (D : va_G) (z : ClassId × ClassId × ClassId) (ha ha1 ha2 ha3 : Nat) (x1 : Int32) (x2 : Int32) (first : Nat → Int32) (length : Nat → Int32) (user : Nat → Int32) (segments : Int32) (words : Int32) (head : Int32) (res : (Int64)) (h : f_X5_wordAt x1 x2 first length user segments = some res) : Ct l D z yX5_wordAt cX5_wordAt 5 (some .long) rm_X5_wordAt [.ref ha, .int x1, .int x2] (tpW z ha ha1 ha2 ha3 first length user segments words head) (fun r w => r = some (.long res) ∧ w = (tpW z ha ha1 ha2 ha3 first length user segments words head)) := by
  refine Ct.of (by decide +kernel) (Nat.le_of_ble_eq_true rfl) (fun X hC hl hz hn hR => ?_)
  have hz1 : X.2.2.2.2 = z := by rw [hz]
  subst hz1
  exact t_X5_wordAt hC ha ha1 ha2 ha3 x1 x2 first length user segments words head res hR h

/-! X5_wrap -/
abbrev rm_X5_wrap : Room := { frames := 1, cells := 0, slots := 0, locals := 22 }
theorem ds_X5_wrap : yX5_wrap.cls ≠ "java/lang/invoke/MethodHandle" ∧ yX5_wrap.cls ≠ "java/lang/invoke/VarHandle" ∧ (parseMethodDescriptor yX5_wrap.desc).map (fun d => d.parameters.length) = some 1 := by decide +kernel
def fb_X5_wrap_2 (x1 : Int32) (segments : Int32) (w : ((Int32) × (Nat → Int32))) : Option (((Int32) × (Nat → Int32)) ⊕ ((Nat → Int32))) := (if segments ≤ w.1 then (some (.inr w.2)) else (if (6 : Int32) ≤ w.1 then (some (.inr w.2)) else (gd w.1 6 ((f_J9_floorMod_7cf53 (w.2 (Int32.toNatClampNeg w.1)) x1).bind fun r4 => (gd w.1 6 (nm (upd w.2 (Int32.toNatClampNeg w.1) r4) fun firstq5 => (nm (w.1 + (1 : Int32)) fun v7 => (some (.inl (v7, firstq5))))))))))
set_option maxRecDepth 100000 in
set_option maxHeartbeats 4000000 in
theorem tb_X5_wrap_2 {X : qX} (hC : Ok X rm_X5_wrap cX5_wrap 3 RX5 none) (ha ha1 ha2 ha3 : Nat) (x1 : Int32) (length : Nat → Int32) (user : Nat → Int32) (segments : Int32) (words : Int32) (head : Int32) (w : ((Int32) × (Nat → Int32))) (o : ((Int32) × (Nat → Int32)) ⊕ (((Nat → Int32)))) (h : fb_X5_wrap_2 x1 segments w = some o) (hk : Sum.elim (fun (w : ((Int32) × (Nat → Int32))) => At X 0 0 2 (tpW X.2.2.2.2 ha ha1 ha2 ha3 w.2 length user segments words head) [(0, .ref ha), (1, .int x1), (2, .int w.1)] []) (fun (w : (Nat → Int32)) => At X 0 0 38 (tpW X.2.2.2.2 ha ha1 ha2 ha3 w length user segments words head) [] []) o) : At X 0 0 2 (tpW X.2.2.2.2 ha ha1 ha2 ha3 w.2 length user segments words head) [(0, .ref ha), (1, .int x1), (2, .int w.1)] [] := by
  unfold fb_X5_wrap_2 at h
  refine a_iload_n 3 2 hC dX5_wrap_2 rfl rfl rfl ?_
  refine a_aload_n 4 0 hC dX5_wrap_3 rfl rfl rfl ?_
  refine a_get 7 0 4 3 hC inB_X5 rfl rfl (by decide) wq59 rfl rfl dX5_wrap_4 rfl ?_
  refine a_icmp_ge 38 10 hC dX5_wrap_7 (by decide) rfl (fun c1 => ?_) (fun c1 => ?_)
  · have h := ifp c1 h
    obtain rfl := Option.some.inj h
    refine a_lv [] [] rfl ?_
    exact hk
  · have h := ifn c1 h
    refine a_iload_n 11 2 hC dX5_wrap_10 rfl rfl rfl ?_
    refine a_bipush 13 (v := (6 : Int32)) hC dX5_wrap_11 rfl (by decide) ?_
    refine a_icmp_ge 38 16 hC dX5_wrap_13 (by decide) rfl (fun c2 => ?_) (fun c2 => ?_)
    · have h := ifp c2 h
      obtain rfl := Option.some.inj h
      refine a_lv [] [] rfl ?_
      exact hk
    · have h := ifn c2 h
      refine a_aload_n 17 0 hC dX5_wrap_16 rfl rfl rfl ?_
      refine a_get 20 0 4 0 hC inB_X5 rfl rfl (by decide) wq56 rfl rfl dX5_wrap_17 rfl ?_
      refine a_iload_n 21 2 hC dX5_wrap_20 rfl rfl rfl ?_
      refine a_aload_n 22 0 hC dX5_wrap_21 rfl rfl rfl ?_
      refine a_get 25 0 4 0 hC inB_X5 rfl rfl (by decide) wq56 rfl rfl dX5_wrap_22 rfl ?_
      refine a_iload_n 26 2 hC dX5_wrap_25 rfl rfl rfl ?_
      obtain ⟨n3, h⟩ := gdx h
      refine a_iald 27 1 hC rfl n3 dX5_wrap_26 rfl ?_
      refine a_iload_n 28 1 hC dX5_wrap_27 rfl rfl rfl ?_
      obtain ⟨r4, gr4, h⟩ := bd h
      refine a_call0 31 [.int (w.2 (Int32.toNatClampNeg w.1)), .int x1] [.int w.1, .ref ha1] (.int r4) hC (c_J9_floorMod_7cf53 X.1.2.1 X.2.2.2.1 X.2.2.2.2 (w.2 (Int32.toNatClampNeg w.1)) x1 r4 gr4) ⟨wq310, wq31, wq263, ds_J9_floorMod_7cf53, by decide, by decide⟩ wq262 rfl rfl (Nat.le_of_ble_eq_true rfl) dX5_wrap_28 rfl rfl rfl ⟨(Nat.le_refl _), (Nat.le_refl _)⟩ ?_
      obtain ⟨n6, h⟩ := gdx h
      obtain ⟨firstq5, efirstq5, h⟩ := nmx h
      refine a_iast 32 1 (tpW X.2.2.2.2 ha ha1 ha2 ha3 firstq5 length user segments words head) hC rfl n6 dX5_wrap_31 rfl (by rw [efirstq5]; rfl) ?_
      obtain ⟨v7, ev7, h⟩ := nmx h
      refine a_iinc 35 2 [(0, .ref ha), (1, .int x1), (2, .int v7)] [1, 2, 0] hC dX5_wrap_32 rfl rfl (v := v7) (by rw [ev7]; rfl) (by decide) rfl ?_
      refine a_goto 2 hC dX5_wrap_35 (by decide) ?_
      obtain rfl := Option.some.inj h
      exact hk
def f_X5_wrap (x1 : Int32) (first : Nat → Int32) (segments : Int32) : Option ((Nat → Int32)) := ((lp (fb_X5_wrap_2 x1 segments) 100000 ((0 : Int32), first)).bind fun r8 => (some r8))
set_option maxRecDepth 100000 in
set_option maxHeartbeats 4000000 in
theorem t_X5_wrap {X : qX} (hC : Ok X rm_X5_wrap cX5_wrap 3 RX5 none) (ha ha1 ha2 ha3 : Nat) (x1 : Int32) (first : Nat → Int32) (length : Nat → Int32) (user : Nat → Int32) (segments : Int32) (words : Int32) (head : Int32) (res : (Nat → Int32)) (hR : Rt X 0 0 (fun r w => r = none ∧ w = (tpW X.2.2.2.2 ha ha1 ha2 ha3 res length user segments words head))) (h : f_X5_wrap x1 first segments = some res) : At X 0 0 0 (tpW X.2.2.2.2 ha ha1 ha2 ha3 first length user segments words head) [(0, .ref ha), (1, .int x1)] [] := by
  unfold f_X5_wrap at h
  refine a_iconst 1 (v := (0 : Int32)) hC dX5_wrap_0 rfl (by decide) ?_
  refine a_istore_n 2 [(0, .ref ha), (1, .int x1), (2, .int (0 : Int32))] [1, 2, 0] hC dX5_wrap_1 rfl rfl (by decide) rfl ?_
  obtain ⟨r8, gr8, h⟩ := bd h
  refine lp_walk (Wh := (fun (u2 : ((Int32) × (Nat → Int32))) => At X 0 0 2 (tpW X.2.2.2.2 ha ha1 ha2 ha3 u2.2 length user segments words head) [(0, .ref ha), (1, .int x1), (2, .int u2.1)] [])) (We := (fun (u2 : (Nat → Int32)) => At X 0 0 38 (tpW X.2.2.2.2 ha ha1 ha2 ha3 u2 length user segments words head) [] [])) (fun u9 o9 hb9 hk9 => tb_X5_wrap_2 hC ha ha1 ha2 ha3 x1 length user segments words head u9 o9 hb9 hk9) 100000 ((0 : Int32), first) r8 gr8 ?_
  show At X 0 0 38 (tpW X.2.2.2.2 ha ha1 ha2 ha3 r8 length user segments words head) [] []
  obtain rfl := Option.some.inj h
  exact a_vret hC hR ⟨rfl, rfl⟩ (Nat.le_refl _) (Nat.le_refl _) dX5_wrap_38
theorem c_X5_wrap (l : Launch) (D : va_G) (z : ClassId × ClassId × ClassId) (ha ha1 ha2 ha3 : Nat) (x1 : Int32) (first : Nat → Int32) (length : Nat → Int32) (user : Nat → Int32) (segments : Int32) (words : Int32) (head : Int32) (res : (Nat → Int32)) (h : f_X5_wrap x1 first segments = some res) : Ct l D z yX5_wrap cX5_wrap 3 none rm_X5_wrap [.ref ha, .int x1] (tpW z ha ha1 ha2 ha3 first length user segments words head) (fun r w => r = none ∧ w = (tpW z ha ha1 ha2 ha3 res length user segments words head)) := by
  refine Ct.of (by decide +kernel) (Nat.le_of_ble_eq_true rfl) (fun X hC hl hz hn hR => ?_)
  have hz1 : X.2.2.2.2 = z := by rw [hz]
  subst hz1
  exact t_X5_wrap hC ha ha1 ha2 ha3 x1 first length user segments words head res hR h

/-! X5_copy -/
abbrev rm_X5_copy : Room := { frames := 1, cells := 0, slots := 0, locals := 40 }
theorem ds_X5_copy : yX5_copy.cls ≠ "java/lang/invoke/MethodHandle" ∧ yX5_copy.cls ≠ "java/lang/invoke/VarHandle" ∧ (parseMethodDescriptor yX5_copy.desc).map (fun d => d.parameters.length) = some 1 := by decide +kernel
def f_X5_copy (first : Nat → Int32) (length : Nat → Int32) (user : Nat → Int32) (segments : Int32) (words : Int32) (head : Int32) (first2 : Nat → Int32) (length2 : Nat → Int32) (user2 : Nat → Int32) (segments2 : Int32) (words2 : Int32) (head2 : Int32) : Option ((Nat → Int32) × (Nat → Int32) × (Nat → Int32) × (Int32) × (Int32) × (Int32)) := (nm (va_cpy first2 first 0 0 6) fun firstq1 => (nm (va_cpy length2 length 0 0 6) fun lengthq2 => (nm (va_cpy user2 user 0 0 6) fun userq3 => (some (firstq1, lengthq2, userq3, segments2, words2, head2)))))
set_option maxRecDepth 100000 in
set_option maxHeartbeats 4000000 in
theorem t_X5_copy {X : qX} (hC : Ok X rm_X5_copy cX5_copy 2 RX5 none) (ha ha1 ha2 ha3 ga ga1 ga2 ga3 : Nat) (first : Nat → Int32) (length : Nat → Int32) (user : Nat → Int32) (segments : Int32) (words : Int32) (head : Int32) (first2 : Nat → Int32) (length2 : Nat → Int32) (user2 : Nat → Int32) (segments2 : Int32) (words2 : Int32) (head2 : Int32) (res : (Nat → Int32) × (Nat → Int32) × (Nat → Int32) × (Int32) × (Int32) × (Int32)) (hR : Rt X 0 0 (fun r w => r = none ∧ w = (tpW X.2.2.2.2 ha ha1 ha2 ha3 res.1 res.2.1 res.2.2.1 res.2.2.2.1 res.2.2.2.2.1 res.2.2.2.2.2 ++ tpW X.2.2.2.2 ga ga1 ga2 ga3 first2 length2 user2 segments2 words2 head2))) (h : f_X5_copy first length user segments words head first2 length2 user2 segments2 words2 head2 = some res) : At X 0 0 0 (tpW X.2.2.2.2 ha ha1 ha2 ha3 first length user segments words head ++ tpW X.2.2.2.2 ga ga1 ga2 ga3 first2 length2 user2 segments2 words2 head2) [(0, .ref ha), (1, .ref ga)] [] := by
  unfold f_X5_copy at h
  refine a_aload_n 1 1 hC dX5_copy_0 rfl rfl rfl ?_
  refine a_get 4 4 4 0 hC inB_X5 rfl rfl (by decide) wq56 rfl rfl dX5_copy_1 rfl ?_
  refine a_iconst 5 (v := (0 : Int32)) hC dX5_copy_4 rfl (by decide) ?_
  refine a_aload_n 6 0 hC dX5_copy_5 rfl rfl rfl ?_
  refine a_get 9 0 4 0 hC inB_X5 rfl rfl (by decide) wq56 rfl rfl dX5_copy_6 rfl ?_
  refine a_iconst 10 (v := (0 : Int32)) hC dX5_copy_9 rfl (by decide) ?_
  refine a_bipush 12 (v := (6 : Int32)) hC dX5_copy_10 rfl (by decide) ?_
  obtain ⟨firstq1, efirstq1, h⟩ := nmx h
  refine a_copy6 15 5 1 (tpW X.2.2.2.2 ha ha1 ha2 ha3 firstq1 length user segments words head ++ tpW X.2.2.2.2 ga ga1 ga2 ga3 first2 length2 user2 segments2 words2 head2) hC wq273 wq275 wq274 wq32 rfl rfl (by decide) (Nat.le_of_ble_eq_true rfl) dX5_copy_12 rfl (by rw [efirstq1]; rfl) ?_
  refine a_aload_n 16 1 hC dX5_copy_15 rfl rfl rfl ?_
  refine a_get 19 4 4 1 hC inB_X5 rfl rfl (by decide) wq57 rfl rfl dX5_copy_16 rfl ?_
  refine a_iconst 20 (v := (0 : Int32)) hC dX5_copy_19 rfl (by decide) ?_
  refine a_aload_n 21 0 hC dX5_copy_20 rfl rfl rfl ?_
  refine a_get 24 0 4 1 hC inB_X5 rfl rfl (by decide) wq57 rfl rfl dX5_copy_21 rfl ?_
  refine a_iconst 25 (v := (0 : Int32)) hC dX5_copy_24 rfl (by decide) ?_
  refine a_bipush 27 (v := (6 : Int32)) hC dX5_copy_25 rfl (by decide) ?_
  obtain ⟨lengthq2, elengthq2, h⟩ := nmx h
  refine a_copy6 30 6 2 (tpW X.2.2.2.2 ha ha1 ha2 ha3 firstq1 lengthq2 user segments words head ++ tpW X.2.2.2.2 ga ga1 ga2 ga3 first2 length2 user2 segments2 words2 head2) hC wq273 wq275 wq274 wq32 rfl rfl (by decide) (Nat.le_of_ble_eq_true rfl) dX5_copy_27 rfl (by rw [elengthq2]; rfl) ?_
  refine a_aload_n 31 1 hC dX5_copy_30 rfl rfl rfl ?_
  refine a_get 34 4 4 2 hC inB_X5 rfl rfl (by decide) wq58 rfl rfl dX5_copy_31 rfl ?_
  refine a_iconst 35 (v := (0 : Int32)) hC dX5_copy_34 rfl (by decide) ?_
  refine a_aload_n 36 0 hC dX5_copy_35 rfl rfl rfl ?_
  refine a_get 39 0 4 2 hC inB_X5 rfl rfl (by decide) wq58 rfl rfl dX5_copy_36 rfl ?_
  refine a_iconst 40 (v := (0 : Int32)) hC dX5_copy_39 rfl (by decide) ?_
  refine a_bipush 42 (v := (6 : Int32)) hC dX5_copy_40 rfl (by decide) ?_
  obtain ⟨userq3, euserq3, h⟩ := nmx h
  refine a_copy6 45 7 3 (tpW X.2.2.2.2 ha ha1 ha2 ha3 firstq1 lengthq2 userq3 segments words head ++ tpW X.2.2.2.2 ga ga1 ga2 ga3 first2 length2 user2 segments2 words2 head2) hC wq273 wq275 wq274 wq32 rfl rfl (by decide) (Nat.le_of_ble_eq_true rfl) dX5_copy_42 rfl (by rw [euserq3]; rfl) ?_
  refine a_aload_n 46 0 hC dX5_copy_45 rfl rfl rfl ?_
  refine a_aload_n 47 1 hC dX5_copy_46 rfl rfl rfl ?_
  refine a_get 50 4 4 3 hC inB_X5 rfl rfl (by decide) wq59 rfl rfl dX5_copy_47 rfl ?_
  refine a_put 53 0 4 3 (tpW X.2.2.2.2 ha ha1 ha2 ha3 firstq1 lengthq2 userq3 segments2 words head ++ tpW X.2.2.2.2 ga ga1 ga2 ga3 first2 length2 user2 segments2 words2 head2) tyX5 hC inB_X5 tyX5_ok nmX5 rfl rfl (by decide) wq59 rfl rfl rfl rfl rfl (Nat.le_of_ble_eq_true rfl) dX5_copy_50 rfl rfl ?_
  refine a_aload_n 54 0 hC dX5_copy_53 rfl rfl rfl ?_
  refine a_aload_n 55 1 hC dX5_copy_54 rfl rfl rfl ?_
  refine a_get 58 4 4 4 hC inB_X5 rfl rfl (by decide) wq61 rfl rfl dX5_copy_55 rfl ?_
  refine a_put 61 0 4 4 (tpW X.2.2.2.2 ha ha1 ha2 ha3 firstq1 lengthq2 userq3 segments2 words2 head ++ tpW X.2.2.2.2 ga ga1 ga2 ga3 first2 length2 user2 segments2 words2 head2) tyX5 hC inB_X5 tyX5_ok nmX5 rfl rfl (by decide) wq61 rfl rfl rfl rfl rfl (Nat.le_of_ble_eq_true rfl) dX5_copy_58 rfl rfl ?_
  refine a_aload_n 62 0 hC dX5_copy_61 rfl rfl rfl ?_
  refine a_aload_n 63 1 hC dX5_copy_62 rfl rfl rfl ?_
  refine a_get 66 4 4 5 hC inB_X5 rfl rfl (by decide) wq63 rfl rfl dX5_copy_63 rfl ?_
  refine a_put 69 0 4 5 (tpW X.2.2.2.2 ha ha1 ha2 ha3 firstq1 lengthq2 userq3 segments2 words2 head2 ++ tpW X.2.2.2.2 ga ga1 ga2 ga3 first2 length2 user2 segments2 words2 head2) tyX5 hC inB_X5 tyX5_ok nmX5 rfl rfl (by decide) wq63 rfl rfl rfl rfl rfl (Nat.le_of_ble_eq_true rfl) dX5_copy_66 rfl rfl ?_
  obtain rfl := Option.some.inj h
  exact a_vret hC hR ⟨rfl, rfl⟩ (Nat.le_refl _) (Nat.le_refl _) dX5_copy_69
theorem c_X5_copy (l : Launch) (D : va_G) (z : ClassId × ClassId × ClassId) (ha ha1 ha2 ha3 ga ga1 ga2 ga3 : Nat) (first : Nat → Int32) (length : Nat → Int32) (user : Nat → Int32) (segments : Int32) (words : Int32) (head : Int32) (first2 : Nat → Int32) (length2 : Nat → Int32) (user2 : Nat → Int32) (segments2 : Int32) (words2 : Int32) (head2 : Int32) (res : (Nat → Int32) × (Nat → Int32) × (Nat → Int32) × (Int32) × (Int32) × (Int32)) (h : f_X5_copy first length user segments words head first2 length2 user2 segments2 words2 head2 = some res) : Ct l D z yX5_copy cX5_copy 2 none rm_X5_copy [.ref ha, .ref ga] (tpW z ha ha1 ha2 ha3 first length user segments words head ++ tpW z ga ga1 ga2 ga3 first2 length2 user2 segments2 words2 head2) (fun r w => r = none ∧ w = (tpW z ha ha1 ha2 ha3 res.1 res.2.1 res.2.2.1 res.2.2.2.1 res.2.2.2.2.1 res.2.2.2.2.2 ++ tpW z ga ga1 ga2 ga3 first2 length2 user2 segments2 words2 head2)) := by
  refine Ct.of (by decide +kernel) (Nat.le_of_ble_eq_true rfl) (fun X hC hl hz hn hR => ?_)
  have hz1 : X.2.2.2.2 = z := by rw [hz]
  subst hz1
  exact t_X5_copy hC ha ha1 ha2 ha3 ga ga1 ga2 ga3 first length user segments words head first2 length2 user2 segments2 words2 head2 res hR h
