/-! X8_isNumber -/
abbrev rm_X8_isNumber : Room := { frames := 0, cells := 0, slots := 0, locals := 0 }
theorem ds_X8_isNumber : yX8_isNumber.cls ≠ "java/lang/invoke/MethodHandle" ∧ yX8_isNumber.cls ≠ "java/lang/invoke/VarHandle" ∧ (parseMethodDescriptor yX8_isNumber.desc).map (fun d => d.parameters.length) = some 1 := by decide +kernel
def f_X8_isNumber (x1 : Int32) : Option ((Int32)) := (if x1 < (0 : Int32) then (some (0 : Int32)) else (if (23595999 : Int32) < x1 then (some (0 : Int32)) else (some (1 : Int32))))
set_option maxRecDepth 100000 in
set_option maxHeartbeats 4000000 in
theorem t_X8_isNumber {X : qX} (hC : Ok X rm_X8_isNumber cX8_isNumber 1 RX8 (some .boolean)) (x1 : Int32) (res : (Int32)) (hR : Rt X 0 0 (fun r w => r = some (.int res) ∧ w = [])) (h : f_X8_isNumber x1 = some res) : At X 0 0 0 [] [(0, .int x1)] [] := by
  unfold f_X8_isNumber at h
  refine a_iload_n 1 0 hC dX8_isNumber_0 rfl rfl rfl ?_
  refine a_if_lt 14 4 hC dX8_isNumber_1 (by decide) rfl (fun c1 => ?_) (fun c1 => ?_)
  · have h := ifp c1 h
    refine a_iconst 15 (v := (0 : Int32)) hC dX8_isNumber_14 rfl (by decide) ?_
    obtain rfl := Option.some.inj h
    exact a_zret hC hR ⟨rfl, rfl⟩ rfl (Nat.le_refl _) (Nat.le_refl _) dX8_isNumber_15
  · have h := ifn c1 h
    refine a_iload_n 5 0 hC dX8_isNumber_4 rfl rfl rfl ?_
    refine a_ldc 7 (v := (23595999 : Int32)) hC wq338 dX8_isNumber_5 rfl ?_
    refine a_icmp_gt 14 10 hC dX8_isNumber_7 (by decide) rfl (fun c2 => ?_) (fun c2 => ?_)
    · have h := ifp c2 h
      refine a_iconst 15 (v := (0 : Int32)) hC dX8_isNumber_14 rfl (by decide) ?_
      obtain rfl := Option.some.inj h
      exact a_zret hC hR ⟨rfl, rfl⟩ rfl (Nat.le_refl _) (Nat.le_refl _) dX8_isNumber_15
    · have h := ifn c2 h
      refine a_iconst 11 (v := (1 : Int32)) hC dX8_isNumber_10 rfl (by decide) ?_
      refine a_goto 15 hC dX8_isNumber_11 (by decide) ?_
      obtain rfl := Option.some.inj h
      exact a_zret hC hR ⟨rfl, rfl⟩ rfl (Nat.le_refl _) (Nat.le_refl _) dX8_isNumber_15
theorem c_X8_isNumber (l : Launch) (D : va_G) (z : ClassId × ClassId × ClassId) (x1 : Int32) (res : (Int32)) (h : f_X8_isNumber x1 = some res) : Ct l D z yX8_isNumber cX8_isNumber 1 (some .boolean) rm_X8_isNumber [.int x1] [] (fun r w => r = some (.int res) ∧ w = []) := by
  refine Ct.of (by decide +kernel) (Nat.le_of_ble_eq_true rfl) (fun X hC hl hz hn hR => ?_)
  have hz1 : X.2.2.2.2 = z := by rw [hz]
  subst hz1
  exact t_X8_isNumber hC x1 res hR h

/-! X8_isFrame -/
abbrev rm_X8_isFrame : Room := { frames := 2, cells := 0, slots := 0, locals := 40 }
theorem ds_X8_isFrame : yX8_isFrame.cls ≠ "java/lang/invoke/MethodHandle" ∧ yX8_isFrame.cls ≠ "java/lang/invoke/VarHandle" ∧ (parseMethodDescriptor yX8_isFrame.desc).map (fun d => d.parameters.length) = some 1 := by decide +kernel
def f_X8_isFrame (x1 : Int32) (rate : Int32) : Option ((Int32)) := (if x1 < (0 : Int32) then (some (0 : Int32)) else ((f_X4_day rate).bind fun r2 => (if r2 ≤ x1 then (some (0 : Int32)) else (some (1 : Int32)))))
set_option maxRecDepth 100000 in
set_option maxHeartbeats 4000000 in
theorem t_X8_isFrame {X : qX} (hC : Ok X rm_X8_isFrame cX8_isFrame 2 RX8 (some .boolean)) (fa a : Nat → Nat) (x1 : Int32) (rate : Int32) (tfirst : Nat → Int32) (tlength : Nat → Int32) (tuser : Nat → Int32) (tsegments : Int32) (twords : Int32) (thead : Int32) (rcell : Int32) (rwaits : Int32) (rbits : Int64) (rheld : Int32) (rreadings : Int32) (rbroken : Int32) (rerrors : Int32) (rjumps : Int32) (rstreak : Int32) (rframe : Int32) (rnumber : Int32) (ruser : Int32) (rcourse : Int32) (wframe : Int32) (wcourse : Int32) (wmissed : Int32) (whold : Int32) (p0 : Int32) (s0 : Int32) (o0 : Int32) (p1 : Int32) (s1 : Int32) (o1 : Int32) (p2 : Int32) (s2 : Int32) (o2 : Int32) (next : Int32) (known : Int32) (P : Nat → Option ((Nat → Nat) × SV)) (Im : Nat → Option ((Nat → Nat) × SV)) (place : Int32) (speed : Int32) (offset : Int32) (sn : Nat → Int32) (sf : Nat → Int32) (seen : Int32) (res : (Int32)) {Po : Option Value → va_W → Prop} (hR : Rt X 0 0 Po) (hpo : Po (some (.int res)) (fcW X.2.2.2.2 fa a rate tfirst tlength tuser tsegments twords thead rcell rwaits rbits rheld rreadings rbroken rerrors rjumps rstreak rframe rnumber ruser rcourse wframe wcourse wmissed whold p0 s0 o0 p1 s1 o1 p2 s2 o2 next known P Im place speed offset sn sf seen ++ (poW X.2.2.2.2 P Im))) (h : f_X8_isFrame x1 rate = some res) : At X 0 0 0 (fcW X.2.2.2.2 fa a rate tfirst tlength tuser tsegments twords thead rcell rwaits rbits rheld rreadings rbroken rerrors rjumps rstreak rframe rnumber ruser rcourse wframe wcourse wmissed whold p0 s0 o0 p1 s1 o1 p2 s2 o2 next known P Im place speed offset sn sf seen ++ (poW X.2.2.2.2 P Im)) [(0, .ref (fa 0)), (1, .int x1)] [] := by
  unfold f_X8_isFrame at h
  refine a_iload_n 1 1 hC dX8_isFrame_0 rfl rfl rfl ?_
  refine a_if_lt 19 4 hC dX8_isFrame_1 (by decide) rfl (fun c1 => ?_) (fun c1 => ?_)
  · have h := ifp c1 h
    refine a_iconst 20 (v := (0 : Int32)) hC dX8_isFrame_19 rfl (by decide) ?_
    obtain rfl := Option.some.inj h
    exact a_zret hC hR hpo rfl (Nat.le_of_ble_eq_true rfl) (Nat.le_of_ble_eq_true rfl) dX8_isFrame_20
  · have h := ifn c1 h
    refine a_iload_n 5 1 hC dX8_isFrame_4 rfl rfl rfl ?_
    refine a_aload_n 6 0 hC dX8_isFrame_5 rfl rfl rfl ?_
    refine a_get 9 0 6 0 hC inB_X8 rfl rfl (by decide) wq231 rfl rfl dX8_isFrame_6 rfl ?_
    obtain ⟨r2, gr2, h⟩ := bd h
    refine a_callVd 12 (fcW X.2.2.2.2 fa a rate tfirst tlength tuser tsegments twords thead rcell rwaits rbits rheld rreadings rbroken rerrors rjumps rstreak rframe rnumber ruser rcourse wframe wcourse wmissed whold p0 s0 o0 p1 s1 o1 p2 s2 o2 next known P Im place speed offset sn sf seen) (poW X.2.2.2.2 P Im) [1, 2, 3, 4, 5, 6, 7, 8, 9, 10] [0, 11, 12, 13, 14, 15, 16] [0, 7, 8, 9, 10, 11, 12, 13, 14, 15, 16, 1, 2, 3, 4, 5, 6] (fcW X.2.2.2.2 fa a rate tfirst tlength tuser tsegments twords thead rcell rwaits rbits rheld rreadings rbroken rerrors rjumps rstreak rframe rnumber ruser rcourse wframe wcourse wmissed whold p0 s0 o0 p1 s1 o1 p2 s2 o2 next known P Im place speed offset sn sf seen) (fcW X.2.2.2.2 fa a rate tfirst tlength tuser tsegments twords thead rcell rwaits rbits rheld rreadings rbroken rerrors rjumps rstreak rframe rnumber ruser rcourse wframe wcourse wmissed whold p0 s0 o0 p1 s1 o1 p2 s2 o2 next known P Im place speed offset sn sf seen ++ (poW X.2.2.2.2 P Im)) 0 3 [] [.int x1] (some (.int r2)) (stW X.2.2.2.2 a rate tfirst tlength tuser tsegments twords thead rcell rwaits rbits rheld rreadings rbroken rerrors rjumps rstreak rframe rnumber ruser rcourse wframe wcourse wmissed whold p0 s0 o0 p1 s1 o1 p2 s2 o2) [.int r2, .int x1] hC (c_X4_day X.1.2.1 X.2.2.2.1 X.2.2.2.2 a rate tfirst tlength tuser tsegments twords thead rcell rwaits rbits rheld rreadings rbroken rerrors rjumps rstreak rframe rnumber ruser rcourse wframe wcourse wmissed whold p0 s0 o0 p1 s1 o1 p2 s2 o2 r2 gr2) ⟨wq320, wq24, wq298, ds_X4_day, by decide, by decide⟩ wq296 wq297 rfl rfl (Nat.le_of_ble_eq_true rfl) dX8_isFrame_9 rfl rfl rfl ⟨(Nat.le_of_ble_eq_true rfl), (Nat.le_of_ble_eq_true rfl)⟩ rfl rfl rfl rfl rfl (by decide) rfl rfl rfl rfl rfl rfl ?_
    refine a_icmp_ge 19 15 hC dX8_isFrame_12 (by decide) rfl (fun c3 => ?_) (fun c3 => ?_)
    · have h := ifp c3 h
      refine a_iconst 20 (v := (0 : Int32)) hC dX8_isFrame_19 rfl (by decide) ?_
      obtain rfl := Option.some.inj h
      exact a_zret hC hR hpo rfl (Nat.le_of_ble_eq_true rfl) (Nat.le_of_ble_eq_true rfl) dX8_isFrame_20
    · have h := ifn c3 h
      refine a_iconst 16 (v := (1 : Int32)) hC dX8_isFrame_15 rfl (by decide) ?_
      refine a_goto 20 hC dX8_isFrame_16 (by decide) ?_
      obtain rfl := Option.some.inj h
      exact a_zret hC hR hpo rfl (Nat.le_of_ble_eq_true rfl) (Nat.le_of_ble_eq_true rfl) dX8_isFrame_20
theorem c_X8_isFrame (l : Launch) (D : va_G) (z : ClassId × ClassId × ClassId) (fa a : Nat → Nat) (x1 : Int32) (rate : Int32) (tfirst : Nat → Int32) (tlength : Nat → Int32) (tuser : Nat → Int32) (tsegments : Int32) (twords : Int32) (thead : Int32) (rcell : Int32) (rwaits : Int32) (rbits : Int64) (rheld : Int32) (rreadings : Int32) (rbroken : Int32) (rerrors : Int32) (rjumps : Int32) (rstreak : Int32) (rframe : Int32) (rnumber : Int32) (ruser : Int32) (rcourse : Int32) (wframe : Int32) (wcourse : Int32) (wmissed : Int32) (whold : Int32) (p0 : Int32) (s0 : Int32) (o0 : Int32) (p1 : Int32) (s1 : Int32) (o1 : Int32) (p2 : Int32) (s2 : Int32) (o2 : Int32) (next : Int32) (known : Int32) (P : Nat → Option ((Nat → Nat) × SV)) (Im : Nat → Option ((Nat → Nat) × SV)) (place : Int32) (speed : Int32) (offset : Int32) (sn : Nat → Int32) (sf : Nat → Int32) (seen : Int32) (res : (Int32)) (h : f_X8_isFrame x1 rate = some res) : Ct l D z yX8_isFrame cX8_isFrame 2 (some .boolean) rm_X8_isFrame [.ref (fa 0), .int x1] (fcW z fa a rate tfirst tlength tuser tsegments twords thead rcell rwaits rbits rheld rreadings rbroken rerrors rjumps rstreak rframe rnumber ruser rcourse wframe wcourse wmissed whold p0 s0 o0 p1 s1 o1 p2 s2 o2 next known P Im place speed offset sn sf seen ++ (poW z P Im)) (fun r w => r = (some (.int res)) ∧ w = (fcW z fa a rate tfirst tlength tuser tsegments twords thead rcell rwaits rbits rheld rreadings rbroken rerrors rjumps rstreak rframe rnumber ruser rcourse wframe wcourse wmissed whold p0 s0 o0 p1 s1 o1 p2 s2 o2 next known P Im place speed offset sn sf seen ++ (poW z P Im))) := by
  refine Ct.of (by decide +kernel) (Nat.le_of_ble_eq_true rfl) (fun X hC hl hz hn hR => ?_)
  have hz1 : X.2.2.2.2 = z := by rw [hz]
  subst hz1
  exact t_X8_isFrame hC fa a x1 rate tfirst tlength tuser tsegments twords thead rcell rwaits rbits rheld rreadings rbroken rerrors rjumps rstreak rframe rnumber ruser rcourse wframe wcourse wmissed whold p0 s0 o0 p1 s1 o1 p2 s2 o2 next known P Im place speed offset sn sf seen res hR ⟨rfl, rfl⟩ h
/-! X8_agrees -/
abbrev rm_X8_agrees : Room := { frames := 2, cells := 0, slots := 0, locals := 48 }
theorem ds_X8_agrees : yX8_agrees.cls ≠ "java/lang/invoke/MethodHandle" ∧ yX8_agrees.cls ≠ "java/lang/invoke/VarHandle" ∧ (parseMethodDescriptor yX8_agrees.desc).map (fun d => d.parameters.length) = some 1 := by decide +kernel
def fb_X8_agrees_2 (x1 : Int32) (sn : Nat → Int32) (sf : Nat → Int32) (seen : Int32) (w : (Int32)) : Option ((Int32) ⊕ ((Unit) ⊕ (Unit))) := (if seen ≤ w then (some (.inr (.inr ()))) else (if (6 : Int32) ≤ w then (some (.inr (.inr ()))) else (gd w 6 ((f_X2_frameOf x1 (sn (Int32.toNatClampNeg w))).bind fun r4 => (gd w 6 (if r4 = (sf (Int32.toNatClampNeg w)) then (nm (w + (1 : Int32)) fun v7 => (some (.inl v7))) else (some (.inr (.inl ())))))))))
set_option maxRecDepth 100000 in
set_option maxHeartbeats 4000000 in
theorem tb_X8_agrees_2 {X : qX} (hC : Ok X rm_X8_agrees cX8_agrees 3 RX8 (some .boolean)) (fa a : Nat → Nat) (x1 : Int32) (rate : Int32) (tfirst : Nat → Int32) (tlength : Nat → Int32) (tuser : Nat → Int32) (tsegments : Int32) (twords : Int32) (thead : Int32) (rcell : Int32) (rwaits : Int32) (rbits : Int64) (rheld : Int32) (rreadings : Int32) (rbroken : Int32) (rerrors : Int32) (rjumps : Int32) (rstreak : Int32) (rframe : Int32) (rnumber : Int32) (ruser : Int32) (rcourse : Int32) (wframe : Int32) (wcourse : Int32) (wmissed : Int32) (whold : Int32) (p0 : Int32) (s0 : Int32) (o0 : Int32) (p1 : Int32) (s1 : Int32) (o1 : Int32) (p2 : Int32) (s2 : Int32) (o2 : Int32) (next : Int32) (known : Int32) (P : Nat → Option ((Nat → Nat) × SV)) (Im : Nat → Option ((Nat → Nat) × SV)) (place : Int32) (speed : Int32) (offset : Int32) (sn : Nat → Int32) (sf : Nat → Int32) (seen : Int32) (w : (Int32)) (o : (Int32) ⊕ ((Unit) ⊕ (Unit))) (h : fb_X8_agrees_2 x1 sn sf seen w = some o) (hk : Sum.elim (fun (w : (Int32)) => At X 0 0 2 (fcW X.2.2.2.2 fa a rate tfirst tlength tuser tsegments twords thead rcell rwaits rbits rheld rreadings rbroken rerrors rjumps rstreak rframe rnumber ruser rcourse wframe wcourse wmissed whold p0 s0 o0 p1 s1 o1 p2 s2 o2 next known P Im place speed offset sn sf seen ++ (poW X.2.2.2.2 P Im)) [(0, .ref (fa 0)), (1, .int x1), (2, .int w)] []) (Sum.elim (fun (w : Unit) => At X 0 0 35 (fcW X.2.2.2.2 fa a rate tfirst tlength tuser tsegments twords thead rcell rwaits rbits rheld rreadings rbroken rerrors rjumps rstreak rframe rnumber ruser rcourse wframe wcourse wmissed whold p0 s0 o0 p1 s1 o1 p2 s2 o2 next known P Im place speed offset sn sf seen ++ (poW X.2.2.2.2 P Im)) [] []) (fun (w : Unit) => At X 0 0 43 (fcW X.2.2.2.2 fa a rate tfirst tlength tuser tsegments twords thead rcell rwaits rbits rheld rreadings rbroken rerrors rjumps rstreak rframe rnumber ruser rcourse wframe wcourse wmissed whold p0 s0 o0 p1 s1 o1 p2 s2 o2 next known P Im place speed offset sn sf seen ++ (poW X.2.2.2.2 P Im)) [] [])) o) : At X 0 0 2 (fcW X.2.2.2.2 fa a rate tfirst tlength tuser tsegments twords thead rcell rwaits rbits rheld rreadings rbroken rerrors rjumps rstreak rframe rnumber ruser rcourse wframe wcourse wmissed whold p0 s0 o0 p1 s1 o1 p2 s2 o2 next known P Im place speed offset sn sf seen ++ (poW X.2.2.2.2 P Im)) [(0, .ref (fa 0)), (1, .int x1), (2, .int w)] [] := by
  unfold fb_X8_agrees_2 at h
  refine a_iload_n 3 2 hC dX8_agrees_2 rfl rfl rfl ?_
  refine a_aload_n 4 0 hC dX8_agrees_3 rfl rfl rfl ?_
  refine a_get 7 0 6 6 hC inB_X8 rfl rfl (by decide) wq237 rfl rfl dX8_agrees_4 rfl ?_
  refine a_icmp_ge 43 10 hC dX8_agrees_7 (by decide) rfl (fun c1 => ?_) (fun c1 => ?_)
  · have h := ifp c1 h
    obtain rfl := Option.some.inj h
    refine a_lv [] [] rfl ?_
    exact hk
  · have h := ifn c1 h
    refine a_iload_n 11 2 hC dX8_agrees_10 rfl rfl rfl ?_
    refine a_bipush 13 (v := (6 : Int32)) hC dX8_agrees_11 rfl (by decide) ?_
    refine a_icmp_ge 43 16 hC dX8_agrees_13 (by decide) rfl (fun c2 => ?_) (fun c2 => ?_)
    · have h := ifp c2 h
      obtain rfl := Option.some.inj h
      refine a_lv [] [] rfl ?_
      exact hk
    · have h := ifn c2 h
      refine a_iload_n 17 1 hC dX8_agrees_16 rfl rfl rfl ?_
      refine a_aload_n 18 0 hC dX8_agrees_17 rfl rfl rfl ?_
      refine a_get 21 0 6 4 hC inB_X8 rfl rfl (by decide) wq235 rfl rfl dX8_agrees_18 rfl ?_
      refine a_iload_n 22 2 hC dX8_agrees_21 rfl rfl rfl ?_
      obtain ⟨n3, h⟩ := gdx h
      refine a_iald 23 15 hC rfl n3 dX8_agrees_22 rfl ?_
      obtain ⟨r4, gr4, h⟩ := bd h
      refine a_call0 26 [.int x1, .int (sn (Int32.toNatClampNeg w))] [] (.int r4) hC (c_X2_frameOf X.1.2.1 X.2.2.2.1 X.2.2.2.2 x1 (sn (Int32.toNatClampNeg w)) r4 gr4) ⟨wq339, wq33, wq341, ds_X2_frameOf, by decide, by decide⟩ wq340 rfl rfl (Nat.le_of_ble_eq_true rfl) dX8_agrees_23 rfl rfl rfl ⟨(Nat.le_of_ble_eq_true rfl), (Nat.le_of_ble_eq_true rfl)⟩ ?_
      refine a_aload_n 27 0 hC dX8_agrees_26 rfl rfl rfl ?_
      refine a_get 30 0 6 5 hC inB_X8 rfl rfl (by decide) wq236 rfl rfl dX8_agrees_27 rfl ?_
      refine a_iload_n 31 2 hC dX8_agrees_30 rfl rfl rfl ?_
      obtain ⟨n5, h⟩ := gdx h
      refine a_iald 32 16 hC rfl n5 dX8_agrees_31 rfl ?_
      refine a_icmp_eq 37 35 hC dX8_agrees_32 (by decide) rfl (fun c6 => ?_) (fun c6 => ?_)
      · have h := ifp c6 h
        obtain ⟨v7, ev7, h⟩ := nmx h
        refine a_iinc 40 2 [(0, .ref (fa 0)), (1, .int x1), (2, .int v7)] [1, 2, 0] hC dX8_agrees_37 rfl rfl (v := v7) (by rw [ev7]; rfl) (by decide) rfl ?_
        refine a_goto 2 hC dX8_agrees_40 (by decide) ?_
        obtain rfl := Option.some.inj h
        exact hk
      · have h := ifn c6 h
        obtain rfl := Option.some.inj h
        refine a_lv [] [] rfl ?_
        exact hk
def f_X8_agrees (x1 : Int32) (sn : Nat → Int32) (sf : Nat → Int32) (seen : Int32) : Option ((Int32)) := ((lp (fb_X8_agrees_2 x1 sn sf seen) 100000 (0 : Int32)).bind fun r8 => Sum.elim (fun r9 => (some (0 : Int32))) (fun r9 => (some (1 : Int32))) r8)
set_option maxRecDepth 100000 in
set_option maxHeartbeats 4000000 in
theorem t_X8_agrees {X : qX} (hC : Ok X rm_X8_agrees cX8_agrees 3 RX8 (some .boolean)) (fa a : Nat → Nat) (x1 : Int32) (rate : Int32) (tfirst : Nat → Int32) (tlength : Nat → Int32) (tuser : Nat → Int32) (tsegments : Int32) (twords : Int32) (thead : Int32) (rcell : Int32) (rwaits : Int32) (rbits : Int64) (rheld : Int32) (rreadings : Int32) (rbroken : Int32) (rerrors : Int32) (rjumps : Int32) (rstreak : Int32) (rframe : Int32) (rnumber : Int32) (ruser : Int32) (rcourse : Int32) (wframe : Int32) (wcourse : Int32) (wmissed : Int32) (whold : Int32) (p0 : Int32) (s0 : Int32) (o0 : Int32) (p1 : Int32) (s1 : Int32) (o1 : Int32) (p2 : Int32) (s2 : Int32) (o2 : Int32) (next : Int32) (known : Int32) (P : Nat → Option ((Nat → Nat) × SV)) (Im : Nat → Option ((Nat → Nat) × SV)) (place : Int32) (speed : Int32) (offset : Int32) (sn : Nat → Int32) (sf : Nat → Int32) (seen : Int32) (res : (Int32)) {Po : Option Value → va_W → Prop} (hR : Rt X 0 0 Po) (hpo : Po (some (.int res)) (fcW X.2.2.2.2 fa a rate tfirst tlength tuser tsegments twords thead rcell rwaits rbits rheld rreadings rbroken rerrors rjumps rstreak rframe rnumber ruser rcourse wframe wcourse wmissed whold p0 s0 o0 p1 s1 o1 p2 s2 o2 next known P Im place speed offset sn sf seen ++ (poW X.2.2.2.2 P Im))) (h : f_X8_agrees x1 sn sf seen = some res) : At X 0 0 0 (fcW X.2.2.2.2 fa a rate tfirst tlength tuser tsegments twords thead rcell rwaits rbits rheld rreadings rbroken rerrors rjumps rstreak rframe rnumber ruser rcourse wframe wcourse wmissed whold p0 s0 o0 p1 s1 o1 p2 s2 o2 next known P Im place speed offset sn sf seen ++ (poW X.2.2.2.2 P Im)) [(0, .ref (fa 0)), (1, .int x1)] [] := by
  unfold f_X8_agrees at h
  refine a_iconst 1 (v := (0 : Int32)) hC dX8_agrees_0 rfl (by decide) ?_
  refine a_istore_n 2 [(0, .ref (fa 0)), (1, .int x1), (2, .int (0 : Int32))] [1, 2, 0] hC dX8_agrees_1 rfl rfl (by decide) rfl ?_
  obtain ⟨r8, gr8, h⟩ := bd h
  refine lp_walk (Wh := (fun (u2 : (Int32)) => At X 0 0 2 (fcW X.2.2.2.2 fa a rate tfirst tlength tuser tsegments twords thead rcell rwaits rbits rheld rreadings rbroken rerrors rjumps rstreak rframe rnumber ruser rcourse wframe wcourse wmissed whold p0 s0 o0 p1 s1 o1 p2 s2 o2 next known P Im place speed offset sn sf seen ++ (poW X.2.2.2.2 P Im)) [(0, .ref (fa 0)), (1, .int x1), (2, .int u2)] [])) (We := (Sum.elim (fun (u2 : Unit) => At X 0 0 35 (fcW X.2.2.2.2 fa a rate tfirst tlength tuser tsegments twords thead rcell rwaits rbits rheld rreadings rbroken rerrors rjumps rstreak rframe rnumber ruser rcourse wframe wcourse wmissed whold p0 s0 o0 p1 s1 o1 p2 s2 o2 next known P Im place speed offset sn sf seen ++ (poW X.2.2.2.2 P Im)) [] []) (fun (u2 : Unit) => At X 0 0 43 (fcW X.2.2.2.2 fa a rate tfirst tlength tuser tsegments twords thead rcell rwaits rbits rheld rreadings rbroken rerrors rjumps rstreak rframe rnumber ruser rcourse wframe wcourse wmissed whold p0 s0 o0 p1 s1 o1 p2 s2 o2 next known P Im place speed offset sn sf seen ++ (poW X.2.2.2.2 P Im)) [] []))) (fun u9 o9 hb9 hk9 => tb_X8_agrees_2 hC fa a x1 rate tfirst tlength tuser tsegments twords thead rcell rwaits rbits rheld rreadings rbroken rerrors rjumps rstreak rframe rnumber ruser rcourse wframe wcourse wmissed whold p0 s0 o0 p1 s1 o1 p2 s2 o2 next known P Im place speed offset sn sf seen u9 o9 hb9 hk9) 100000 (0 : Int32) r8 gr8 ?_
  rcases r8 with r9 | r9
  · have h := sel h
    show At X 0 0 35 (fcW X.2.2.2.2 fa a rate tfirst tlength tuser tsegments twords thead rcell rwaits rbits rheld rreadings rbroken rerrors rjumps rstreak rframe rnumber ruser rcourse wframe wcourse wmissed whold p0 s0 o0 p1 s1 o1 p2 s2 o2 next known P Im place speed offset sn sf seen ++ (poW X.2.2.2.2 P Im)) [] []
    refine a_iconst 36 (v := (0 : Int32)) hC dX8_agrees_35 rfl (by decide) ?_
    obtain rfl := Option.some.inj h
    exact a_zret hC hR hpo rfl (Nat.le_of_ble_eq_true rfl) (Nat.le_of_ble_eq_true rfl) dX8_agrees_36
  · have h := ser h
    show At X 0 0 43 (fcW X.2.2.2.2 fa a rate tfirst tlength tuser tsegments twords thead rcell rwaits rbits rheld rreadings rbroken rerrors rjumps rstreak rframe rnumber ruser rcourse wframe wcourse wmissed whold p0 s0 o0 p1 s1 o1 p2 s2 o2 next known P Im place speed offset sn sf seen ++ (poW X.2.2.2.2 P Im)) [] []
    refine a_iconst 44 (v := (1 : Int32)) hC dX8_agrees_43 rfl (by decide) ?_
    obtain rfl := Option.some.inj h
    exact a_zret hC hR hpo rfl (Nat.le_of_ble_eq_true rfl) (Nat.le_of_ble_eq_true rfl) dX8_agrees_44
theorem c_X8_agrees (l : Launch) (D : va_G) (z : ClassId × ClassId × ClassId) (fa a : Nat → Nat) (x1 : Int32) (rate : Int32) (tfirst : Nat → Int32) (tlength : Nat → Int32) (tuser : Nat → Int32) (tsegments : Int32) (twords : Int32) (thead : Int32) (rcell : Int32) (rwaits : Int32) (rbits : Int64) (rheld : Int32) (rreadings : Int32) (rbroken : Int32) (rerrors : Int32) (rjumps : Int32) (rstreak : Int32) (rframe : Int32) (rnumber : Int32) (ruser : Int32) (rcourse : Int32) (wframe : Int32) (wcourse : Int32) (wmissed : Int32) (whold : Int32) (p0 : Int32) (s0 : Int32) (o0 : Int32) (p1 : Int32) (s1 : Int32) (o1 : Int32) (p2 : Int32) (s2 : Int32) (o2 : Int32) (next : Int32) (known : Int32) (P : Nat → Option ((Nat → Nat) × SV)) (Im : Nat → Option ((Nat → Nat) × SV)) (place : Int32) (speed : Int32) (offset : Int32) (sn : Nat → Int32) (sf : Nat → Int32) (seen : Int32) (res : (Int32)) (h : f_X8_agrees x1 sn sf seen = some res) : Ct l D z yX8_agrees cX8_agrees 3 (some .boolean) rm_X8_agrees [.ref (fa 0), .int x1] (fcW z fa a rate tfirst tlength tuser tsegments twords thead rcell rwaits rbits rheld rreadings rbroken rerrors rjumps rstreak rframe rnumber ruser rcourse wframe wcourse wmissed whold p0 s0 o0 p1 s1 o1 p2 s2 o2 next known P Im place speed offset sn sf seen ++ (poW z P Im)) (fun r w => r = (some (.int res)) ∧ w = (fcW z fa a rate tfirst tlength tuser tsegments twords thead rcell rwaits rbits rheld rreadings rbroken rerrors rjumps rstreak rframe rnumber ruser rcourse wframe wcourse wmissed whold p0 s0 o0 p1 s1 o1 p2 s2 o2 next known P Im place speed offset sn sf seen ++ (poW z P Im))) := by
  refine Ct.of (by decide +kernel) (Nat.le_of_ble_eq_true rfl) (fun X hC hl hz hn hR => ?_)
  have hz1 : X.2.2.2.2 = z := by rw [hz]
  subst hz1
  exact t_X8_agrees hC fa a x1 rate tfirst tlength tuser tsegments twords thead rcell rwaits rbits rheld rreadings rbroken rerrors rjumps rstreak rframe rnumber ruser rcourse wframe wcourse wmissed whold p0 s0 o0 p1 s1 o1 p2 s2 o2 next known P Im place speed offset sn sf seen res hR ⟨rfl, rfl⟩ h
/-! X8_number -/
abbrev rm_X8_number : Room := { frames := 3, cells := 0, slots := 0, locals := 61 }
theorem ds_X8_number : yX8_number.cls ≠ "java/lang/invoke/MethodHandle" ∧ yX8_number.cls ≠ "java/lang/invoke/VarHandle" ∧ (parseMethodDescriptor yX8_number.desc).map (fun d => d.parameters.length) = some 1 := by decide +kernel
def f_X8_number (x1 : Int32) (rate : Int32) : Option ((Int32)) := ((f_X8_isFrame x1 rate).bind fun r1 => (if r1 = (0 : Int32) then (some (-1 : Int32)) else ((f_X2_numberOf rate x1).bind fun r3 => (some r3))))
set_option maxRecDepth 100000 in
set_option maxHeartbeats 4000000 in
theorem t_X8_number {X : qX} (hC : Ok X rm_X8_number cX8_number 2 RX8 (some .int)) (fa a : Nat → Nat) (x1 : Int32) (rate : Int32) (tfirst : Nat → Int32) (tlength : Nat → Int32) (tuser : Nat → Int32) (tsegments : Int32) (twords : Int32) (thead : Int32) (rcell : Int32) (rwaits : Int32) (rbits : Int64) (rheld : Int32) (rreadings : Int32) (rbroken : Int32) (rerrors : Int32) (rjumps : Int32) (rstreak : Int32) (rframe : Int32) (rnumber : Int32) (ruser : Int32) (rcourse : Int32) (wframe : Int32) (wcourse : Int32) (wmissed : Int32) (whold : Int32) (p0 : Int32) (s0 : Int32) (o0 : Int32) (p1 : Int32) (s1 : Int32) (o1 : Int32) (p2 : Int32) (s2 : Int32) (o2 : Int32) (next : Int32) (known : Int32) (P : Nat → Option ((Nat → Nat) × SV)) (Im : Nat → Option ((Nat → Nat) × SV)) (place : Int32) (speed : Int32) (offset : Int32) (sn : Nat → Int32) (sf : Nat → Int32) (seen : Int32) (res : (Int32)) {Po : Option Value → va_W → Prop} (hR : Rt X 0 0 Po) (hpo : Po (some (.int res)) (fcW X.2.2.2.2 fa a rate tfirst tlength tuser tsegments twords thead rcell rwaits rbits rheld rreadings rbroken rerrors rjumps rstreak rframe rnumber ruser rcourse wframe wcourse wmissed whold p0 s0 o0 p1 s1 o1 p2 s2 o2 next known P Im place speed offset sn sf seen ++ (poW X.2.2.2.2 P Im))) (h : f_X8_number x1 rate = some res) : At X 0 0 0 (fcW X.2.2.2.2 fa a rate tfirst tlength tuser tsegments twords thead rcell rwaits rbits rheld rreadings rbroken rerrors rjumps rstreak rframe rnumber ruser rcourse wframe wcourse wmissed whold p0 s0 o0 p1 s1 o1 p2 s2 o2 next known P Im place speed offset sn sf seen ++ (poW X.2.2.2.2 P Im)) [(0, .ref (fa 0)), (1, .int x1)] [] := by
  unfold f_X8_number at h
  refine a_aload_n 1 0 hC dX8_number_0 rfl rfl rfl ?_
  refine a_iload_n 2 1 hC dX8_number_1 rfl rfl rfl ?_
  obtain ⟨r1, gr1, h⟩ := bd h
  refine a_callVs 5 (fcW X.2.2.2.2 fa a rate tfirst tlength tuser tsegments twords thead rcell rwaits rbits rheld rreadings rbroken rerrors rjumps rstreak rframe rnumber ruser rcourse wframe wcourse wmissed whold p0 s0 o0 p1 s1 o1 p2 s2 o2 next known P Im place speed offset sn sf seen ++ (poW X.2.2.2.2 P Im)) 0 6 [.int x1] [] (some (.int r1)) [.int r1] hC (c_X8_isFrame X.1.2.1 X.2.2.2.1 X.2.2.2.2 fa a x1 rate tfirst tlength tuser tsegments twords thead rcell rwaits rbits rheld rreadings rbroken rerrors rjumps rstreak rframe rnumber ruser rcourse wframe wcourse wmissed whold p0 s0 o0 p1 s1 o1 p2 s2 o2 next known P Im place speed offset sn sf seen r1 gr1) ⟨wq316, wq23, wq319, ds_X8_isFrame, by decide, by decide⟩ wq318 wq0 rfl rfl (Nat.le_of_ble_eq_true rfl) dX8_number_2 rfl rfl rfl ⟨(Nat.le_of_ble_eq_true rfl), (Nat.le_of_ble_eq_true rfl)⟩ rfl rfl rfl ?_
  refine a_if_eq 22 8 hC dX8_number_5 (by decide) rfl (fun c2 => ?_) (fun c2 => ?_)
  · have h := ifp c2 h
    refine a_iconst 23 (v := (-1 : Int32)) hC dX8_number_22 rfl (by decide) ?_
    obtain rfl := Option.some.inj h
    exact a_iret hC hR hpo (Nat.le_of_ble_eq_true rfl) (Nat.le_of_ble_eq_true rfl) dX8_number_23
  · have h := ifn c2 h
    refine a_aload_n 9 0 hC dX8_number_8 rfl rfl rfl ?_
    refine a_get 12 0 6 0 hC inB_X8 rfl rfl (by decide) wq231 rfl rfl dX8_number_9 rfl ?_
    refine a_get 15 1 3 0 hC inB_X4 rfl rfl (by decide) wq185 rfl rfl dX8_number_12 rfl ?_
    refine a_iload_n 16 1 hC dX8_number_15 rfl rfl rfl ?_
    obtain ⟨r3, gr3, h⟩ := bd h
    refine a_call0 19 [.int rate, .int x1] [] (.int r3) hC (c_X2_numberOf X.1.2.1 X.2.2.2.1 X.2.2.2.2 rate x1 r3 gr3) ⟨wq321, wq33, wq323, ds_X2_numberOf, by decide, by decide⟩ wq322 rfl rfl (Nat.le_of_ble_eq_true rfl) dX8_number_16 rfl rfl rfl ⟨(Nat.le_of_ble_eq_true rfl), (Nat.le_of_ble_eq_true rfl)⟩ ?_
    refine a_goto 23 hC dX8_number_19 (by decide) ?_
    obtain rfl := Option.some.inj h
    exact a_iret hC hR hpo (Nat.le_of_ble_eq_true rfl) (Nat.le_of_ble_eq_true rfl) dX8_number_23
theorem c_X8_number (l : Launch) (D : va_G) (z : ClassId × ClassId × ClassId) (fa a : Nat → Nat) (x1 : Int32) (rate : Int32) (tfirst : Nat → Int32) (tlength : Nat → Int32) (tuser : Nat → Int32) (tsegments : Int32) (twords : Int32) (thead : Int32) (rcell : Int32) (rwaits : Int32) (rbits : Int64) (rheld : Int32) (rreadings : Int32) (rbroken : Int32) (rerrors : Int32) (rjumps : Int32) (rstreak : Int32) (rframe : Int32) (rnumber : Int32) (ruser : Int32) (rcourse : Int32) (wframe : Int32) (wcourse : Int32) (wmissed : Int32) (whold : Int32) (p0 : Int32) (s0 : Int32) (o0 : Int32) (p1 : Int32) (s1 : Int32) (o1 : Int32) (p2 : Int32) (s2 : Int32) (o2 : Int32) (next : Int32) (known : Int32) (P : Nat → Option ((Nat → Nat) × SV)) (Im : Nat → Option ((Nat → Nat) × SV)) (place : Int32) (speed : Int32) (offset : Int32) (sn : Nat → Int32) (sf : Nat → Int32) (seen : Int32) (res : (Int32)) (h : f_X8_number x1 rate = some res) : Ct l D z yX8_number cX8_number 2 (some .int) rm_X8_number [.ref (fa 0), .int x1] (fcW z fa a rate tfirst tlength tuser tsegments twords thead rcell rwaits rbits rheld rreadings rbroken rerrors rjumps rstreak rframe rnumber ruser rcourse wframe wcourse wmissed whold p0 s0 o0 p1 s1 o1 p2 s2 o2 next known P Im place speed offset sn sf seen ++ (poW z P Im)) (fun r w => r = (some (.int res)) ∧ w = (fcW z fa a rate tfirst tlength tuser tsegments twords thead rcell rwaits rbits rheld rreadings rbroken rerrors rjumps rstreak rframe rnumber ruser rcourse wframe wcourse wmissed whold p0 s0 o0 p1 s1 o1 p2 s2 o2 next known P Im place speed offset sn sf seen ++ (poW z P Im))) := by
  refine Ct.of (by decide +kernel) (Nat.le_of_ble_eq_true rfl) (fun X hC hl hz hn hR => ?_)
  have hz1 : X.2.2.2.2 = z := by rw [hz]
  subst hz1
  exact t_X8_number hC fa a x1 rate tfirst tlength tuser tsegments twords thead rcell rwaits rbits rheld rreadings rbroken rerrors rjumps rstreak rframe rnumber ruser rcourse wframe wcourse wmissed whold p0 s0 o0 p1 s1 o1 p2 s2 o2 next known P Im place speed offset sn sf seen res hR ⟨rfl, rfl⟩ h
/-! X8_frame -/
abbrev rm_X8_frame : Room := { frames := 2, cells := 0, slots := 0, locals := 48 }
theorem ds_X8_frame : yX8_frame.cls ≠ "java/lang/invoke/MethodHandle" ∧ yX8_frame.cls ≠ "java/lang/invoke/VarHandle" ∧ (parseMethodDescriptor yX8_frame.desc).map (fun d => d.parameters.length) = some 1 := by decide +kernel
def f_X8_frame (x1 : Int32) (rate : Int32) : Option ((Int32)) := ((f_X8_isNumber x1).bind fun r1 => (if r1 = (0 : Int32) then (some (-1 : Int32)) else ((f_X2_frameOf rate x1).bind fun r3 => (some r3))))
set_option maxRecDepth 100000 in
set_option maxHeartbeats 4000000 in
theorem t_X8_frame {X : qX} (hC : Ok X rm_X8_frame cX8_frame 2 RX8 (some .int)) (fa a : Nat → Nat) (x1 : Int32) (rate : Int32) (tfirst : Nat → Int32) (tlength : Nat → Int32) (tuser : Nat → Int32) (tsegments : Int32) (twords : Int32) (thead : Int32) (rcell : Int32) (rwaits : Int32) (rbits : Int64) (rheld : Int32) (rreadings : Int32) (rbroken : Int32) (rerrors : Int32) (rjumps : Int32) (rstreak : Int32) (rframe : Int32) (rnumber : Int32) (ruser : Int32) (rcourse : Int32) (wframe : Int32) (wcourse : Int32) (wmissed : Int32) (whold : Int32) (p0 : Int32) (s0 : Int32) (o0 : Int32) (p1 : Int32) (s1 : Int32) (o1 : Int32) (p2 : Int32) (s2 : Int32) (o2 : Int32) (next : Int32) (known : Int32) (P : Nat → Option ((Nat → Nat) × SV)) (Im : Nat → Option ((Nat → Nat) × SV)) (place : Int32) (speed : Int32) (offset : Int32) (sn : Nat → Int32) (sf : Nat → Int32) (seen : Int32) (res : (Int32)) {Po : Option Value → va_W → Prop} (hR : Rt X 0 0 Po) (hpo : Po (some (.int res)) (fcW X.2.2.2.2 fa a rate tfirst tlength tuser tsegments twords thead rcell rwaits rbits rheld rreadings rbroken rerrors rjumps rstreak rframe rnumber ruser rcourse wframe wcourse wmissed whold p0 s0 o0 p1 s1 o1 p2 s2 o2 next known P Im place speed offset sn sf seen ++ (poW X.2.2.2.2 P Im))) (h : f_X8_frame x1 rate = some res) : At X 0 0 0 (fcW X.2.2.2.2 fa a rate tfirst tlength tuser tsegments twords thead rcell rwaits rbits rheld rreadings rbroken rerrors rjumps rstreak rframe rnumber ruser rcourse wframe wcourse wmissed whold p0 s0 o0 p1 s1 o1 p2 s2 o2 next known P Im place speed offset sn sf seen ++ (poW X.2.2.2.2 P Im)) [(0, .ref (fa 0)), (1, .int x1)] [] := by
  unfold f_X8_frame at h
  refine a_iload_n 1 1 hC dX8_frame_0 rfl rfl rfl ?_
  obtain ⟨r1, gr1, h⟩ := bd h
  refine a_call0 4 [.int x1] [] (.int r1) hC (c_X8_isNumber X.1.2.1 X.2.2.2.1 X.2.2.2.2 x1 r1 gr1) ⟨wq335, wq23, wq337, ds_X8_isNumber, by decide, by decide⟩ wq336 rfl rfl (Nat.le_of_ble_eq_true rfl) dX8_frame_1 rfl rfl rfl ⟨(Nat.le_of_ble_eq_true rfl), (Nat.le_of_ble_eq_true rfl)⟩ ?_
  refine a_if_eq 21 7 hC dX8_frame_4 (by decide) rfl (fun c2 => ?_) (fun c2 => ?_)
  · have h := ifp c2 h
    refine a_iconst 22 (v := (-1 : Int32)) hC dX8_frame_21 rfl (by decide) ?_
    obtain rfl := Option.some.inj h
    exact a_iret hC hR hpo (Nat.le_of_ble_eq_true rfl) (Nat.le_of_ble_eq_true rfl) dX8_frame_22
  · have h := ifn c2 h
    refine a_aload_n 8 0 hC dX8_frame_7 rfl rfl rfl ?_
    refine a_get 11 0 6 0 hC inB_X8 rfl rfl (by decide) wq231 rfl rfl dX8_frame_8 rfl ?_
    refine a_get 14 1 3 0 hC inB_X4 rfl rfl (by decide) wq185 rfl rfl dX8_frame_11 rfl ?_
    refine a_iload_n 15 1 hC dX8_frame_14 rfl rfl rfl ?_
    obtain ⟨r3, gr3, h⟩ := bd h
    refine a_call0 18 [.int rate, .int x1] [] (.int r3) hC (c_X2_frameOf X.1.2.1 X.2.2.2.1 X.2.2.2.2 rate x1 r3 gr3) ⟨wq339, wq33, wq341, ds_X2_frameOf, by decide, by decide⟩ wq340 rfl rfl (Nat.le_of_ble_eq_true rfl) dX8_frame_15 rfl rfl rfl ⟨(Nat.le_of_ble_eq_true rfl), (Nat.le_of_ble_eq_true rfl)⟩ ?_
    refine a_goto 22 hC dX8_frame_18 (by decide) ?_
    obtain rfl := Option.some.inj h
    exact a_iret hC hR hpo (Nat.le_of_ble_eq_true rfl) (Nat.le_of_ble_eq_true rfl) dX8_frame_22
theorem c_X8_frame (l : Launch) (D : va_G) (z : ClassId × ClassId × ClassId) (fa a : Nat → Nat) (x1 : Int32) (rate : Int32) (tfirst : Nat → Int32) (tlength : Nat → Int32) (tuser : Nat → Int32) (tsegments : Int32) (twords : Int32) (thead : Int32) (rcell : Int32) (rwaits : Int32) (rbits : Int64) (rheld : Int32) (rreadings : Int32) (rbroken : Int32) (rerrors : Int32) (rjumps : Int32) (rstreak : Int32) (rframe : Int32) (rnumber : Int32) (ruser : Int32) (rcourse : Int32) (wframe : Int32) (wcourse : Int32) (wmissed : Int32) (whold : Int32) (p0 : Int32) (s0 : Int32) (o0 : Int32) (p1 : Int32) (s1 : Int32) (o1 : Int32) (p2 : Int32) (s2 : Int32) (o2 : Int32) (next : Int32) (known : Int32) (P : Nat → Option ((Nat → Nat) × SV)) (Im : Nat → Option ((Nat → Nat) × SV)) (place : Int32) (speed : Int32) (offset : Int32) (sn : Nat → Int32) (sf : Nat → Int32) (seen : Int32) (res : (Int32)) (h : f_X8_frame x1 rate = some res) : Ct l D z yX8_frame cX8_frame 2 (some .int) rm_X8_frame [.ref (fa 0), .int x1] (fcW z fa a rate tfirst tlength tuser tsegments twords thead rcell rwaits rbits rheld rreadings rbroken rerrors rjumps rstreak rframe rnumber ruser rcourse wframe wcourse wmissed whold p0 s0 o0 p1 s1 o1 p2 s2 o2 next known P Im place speed offset sn sf seen ++ (poW z P Im)) (fun r w => r = (some (.int res)) ∧ w = (fcW z fa a rate tfirst tlength tuser tsegments twords thead rcell rwaits rbits rheld rreadings rbroken rerrors rjumps rstreak rframe rnumber ruser rcourse wframe wcourse wmissed whold p0 s0 o0 p1 s1 o1 p2 s2 o2 next known P Im place speed offset sn sf seen ++ (poW z P Im))) := by
  refine Ct.of (by decide +kernel) (Nat.le_of_ble_eq_true rfl) (fun X hC hl hz hn hR => ?_)
  have hz1 : X.2.2.2.2 = z := by rw [hz]
  subst hz1
  exact t_X8_frame hC fa a x1 rate tfirst tlength tuser tsegments twords thead rcell rwaits rbits rheld rreadings rbroken rerrors rjumps rstreak rframe rnumber ruser rcourse wframe wcourse wmissed whold p0 s0 o0 p1 s1 o1 p2 s2 o2 next known P Im place speed offset sn sf seen res hR ⟨rfl, rfl⟩ h
/-! X8_dropped -/
abbrev rm_X8_dropped : Room := { frames := 3, cells := 0, slots := 0, locals := 61 }
theorem ds_X8_dropped : yX8_dropped.cls ≠ "java/lang/invoke/MethodHandle" ∧ yX8_dropped.cls ≠ "java/lang/invoke/VarHandle" ∧ (parseMethodDescriptor yX8_dropped.desc).map (fun d => d.parameters.length) = some 2 := by decide +kernel
def f_X8_dropped (x1 : Int32) (x2 : Int32) (rate : Int32) : Option ((Int32)) := ((f_X8_isFrame x1 rate).bind fun r1 => (if r1 = (0 : Int32) then (some (-1 : Int32)) else ((f_X8_isFrame x2 rate).bind fun r3 => (if r3 = (0 : Int32) then (some (-1 : Int32)) else ((f_X2_leftOutUpTo rate x2).bind fun r5 => ((f_X2_leftOutUpTo rate x1).bind fun r6 => (nm (r5 - r6) fun v7 => (if x1 ≤ x2 then (some v7) else ((f_X2_leftOutInDay rate).bind fun r9 => (some (v7 + r9)))))))))))
set_option maxRecDepth 100000 in
set_option maxHeartbeats 4000000 in
theorem t_X8_dropped {X : qX} (hC : Ok X rm_X8_dropped cX8_dropped 4 RX8 (some .int)) (fa a : Nat → Nat) (x1 : Int32) (x2 : Int32) (rate : Int32) (tfirst : Nat → Int32) (tlength : Nat → Int32) (tuser : Nat → Int32) (tsegments : Int32) (twords : Int32) (thead : Int32) (rcell : Int32) (rwaits : Int32) (rbits : Int64) (rheld : Int32) (rreadings : Int32) (rbroken : Int32) (rerrors : Int32) (rjumps : Int32) (rstreak : Int32) (rframe : Int32) (rnumber : Int32) (ruser : Int32) (rcourse : Int32) (wframe : Int32) (wcourse : Int32) (wmissed : Int32) (whold : Int32) (p0 : Int32) (s0 : Int32) (o0 : Int32) (p1 : Int32) (s1 : Int32) (o1 : Int32) (p2 : Int32) (s2 : Int32) (o2 : Int32) (next : Int32) (known : Int32) (P : Nat → Option ((Nat → Nat) × SV)) (Im : Nat → Option ((Nat → Nat) × SV)) (place : Int32) (speed : Int32) (offset : Int32) (sn : Nat → Int32) (sf : Nat → Int32) (seen : Int32) (res : (Int32)) {Po : Option Value → va_W → Prop} (hR : Rt X 0 0 Po) (hpo : Po (some (.int res)) (fcW X.2.2.2.2 fa a rate tfirst tlength tuser tsegments twords thead rcell rwaits rbits rheld rreadings rbroken rerrors rjumps rstreak rframe rnumber ruser rcourse wframe wcourse wmissed whold p0 s0 o0 p1 s1 o1 p2 s2 o2 next known P Im place speed offset sn sf seen ++ (poW X.2.2.2.2 P Im))) (h : f_X8_dropped x1 x2 rate = some res) : At X 0 0 0 (fcW X.2.2.2.2 fa a rate tfirst tlength tuser tsegments twords thead rcell rwaits rbits rheld rreadings rbroken rerrors rjumps rstreak rframe rnumber ruser rcourse wframe wcourse wmissed whold p0 s0 o0 p1 s1 o1 p2 s2 o2 next known P Im place speed offset sn sf seen ++ (poW X.2.2.2.2 P Im)) [(0, .ref (fa 0)), (1, .int x1), (2, .int x2)] [] := by
  unfold f_X8_dropped at h
  refine a_aload_n 1 0 hC dX8_dropped_0 rfl rfl rfl ?_
  refine a_iload_n 2 1 hC dX8_dropped_1 rfl rfl rfl ?_
  obtain ⟨r1, gr1, h⟩ := bd h
  refine a_callVs 5 (fcW X.2.2.2.2 fa a rate tfirst tlength tuser tsegments twords thead rcell rwaits rbits rheld rreadings rbroken rerrors rjumps rstreak rframe rnumber ruser rcourse wframe wcourse wmissed whold p0 s0 o0 p1 s1 o1 p2 s2 o2 next known P Im place speed offset sn sf seen ++ (poW X.2.2.2.2 P Im)) 0 6 [.int x1] [] (some (.int r1)) [.int r1] hC (c_X8_isFrame X.1.2.1 X.2.2.2.1 X.2.2.2.2 fa a x1 rate tfirst tlength tuser tsegments twords thead rcell rwaits rbits rheld rreadings rbroken rerrors rjumps rstreak rframe rnumber ruser rcourse wframe wcourse wmissed whold p0 s0 o0 p1 s1 o1 p2 s2 o2 next known P Im place speed offset sn sf seen r1 gr1) ⟨wq316, wq23, wq319, ds_X8_isFrame, by decide, by decide⟩ wq318 wq0 rfl rfl (Nat.le_of_ble_eq_true rfl) dX8_dropped_2 rfl rfl rfl ⟨(Nat.le_of_ble_eq_true rfl), (Nat.le_of_ble_eq_true rfl)⟩ rfl rfl rfl ?_
  refine a_if_eq 16 8 hC dX8_dropped_5 (by decide) rfl (fun c2 => ?_) (fun c2 => ?_)
  · have h := ifp c2 h
    refine a_iconst 17 (v := (-1 : Int32)) hC dX8_dropped_16 rfl (by decide) ?_
    obtain rfl := Option.some.inj h
    exact a_iret hC hR hpo (Nat.le_of_ble_eq_true rfl) (Nat.le_of_ble_eq_true rfl) dX8_dropped_17
  · have h := ifn c2 h
    refine a_aload_n 9 0 hC dX8_dropped_8 rfl rfl rfl ?_
    refine a_iload_n 10 2 hC dX8_dropped_9 rfl rfl rfl ?_
    obtain ⟨r3, gr3, h⟩ := bd h
    refine a_callVs 13 (fcW X.2.2.2.2 fa a rate tfirst tlength tuser tsegments twords thead rcell rwaits rbits rheld rreadings rbroken rerrors rjumps rstreak rframe rnumber ruser rcourse wframe wcourse wmissed whold p0 s0 o0 p1 s1 o1 p2 s2 o2 next known P Im place speed offset sn sf seen ++ (poW X.2.2.2.2 P Im)) 0 6 [.int x2] [] (some (.int r3)) [.int r3] hC (c_X8_isFrame X.1.2.1 X.2.2.2.1 X.2.2.2.2 fa a x2 rate tfirst tlength tuser tsegments twords thead rcell rwaits rbits rheld rreadings rbroken rerrors rjumps rstreak rframe rnumber ruser rcourse wframe wcourse wmissed whold p0 s0 o0 p1 s1 o1 p2 s2 o2 next known P Im place speed offset sn sf seen r3 gr3) ⟨wq316, wq23, wq319, ds_X8_isFrame, by decide, by decide⟩ wq318 wq0 rfl rfl (Nat.le_of_ble_eq_true rfl) dX8_dropped_10 rfl rfl rfl ⟨(Nat.le_of_ble_eq_true rfl), (Nat.le_of_ble_eq_true rfl)⟩ rfl rfl rfl ?_
    refine a_if_ne 18 16 hC dX8_dropped_13 (by decide) rfl (fun c4 => ?_) (fun c4 => ?_)
    · have h := ifn c4 h
      refine a_aload_n 19 0 hC dX8_dropped_18 rfl rfl rfl ?_
      refine a_get 22 0 6 0 hC inB_X8 rfl rfl (by decide) wq231 rfl rfl dX8_dropped_19 rfl ?_
      refine a_get 25 1 3 0 hC inB_X4 rfl rfl (by decide) wq185 rfl rfl dX8_dropped_22 rfl ?_
      refine a_iload_n 26 2 hC dX8_dropped_25 rfl rfl rfl ?_
      obtain ⟨r5, gr5, h⟩ := bd h
      refine a_call0 29 [.int rate, .int x2] [] (.int r5) hC (c_X2_leftOutUpTo X.1.2.1 X.2.2.2.1 X.2.2.2.2 rate x2 r5 gr5) ⟨wq346, wq33, wq329, ds_X2_leftOutUpTo, by decide, by decide⟩ wq328 rfl rfl (Nat.le_of_ble_eq_true rfl) dX8_dropped_26 rfl rfl rfl ⟨(Nat.le_of_ble_eq_true rfl), (Nat.le_of_ble_eq_true rfl)⟩ ?_
      refine a_aload_n 30 0 hC dX8_dropped_29 rfl rfl rfl ?_
      refine a_get 33 0 6 0 hC inB_X8 rfl rfl (by decide) wq231 rfl rfl dX8_dropped_30 rfl ?_
      refine a_get 36 1 3 0 hC inB_X4 rfl rfl (by decide) wq185 rfl rfl dX8_dropped_33 rfl ?_
      refine a_iload_n 37 1 hC dX8_dropped_36 rfl rfl rfl ?_
      obtain ⟨r6, gr6, h⟩ := bd h
      refine a_call0 40 [.int rate, .int x1] [.int r5] (.int r6) hC (c_X2_leftOutUpTo X.1.2.1 X.2.2.2.1 X.2.2.2.2 rate x1 r6 gr6) ⟨wq346, wq33, wq329, ds_X2_leftOutUpTo, by decide, by decide⟩ wq328 rfl rfl (Nat.le_of_ble_eq_true rfl) dX8_dropped_37 rfl rfl rfl ⟨(Nat.le_of_ble_eq_true rfl), (Nat.le_of_ble_eq_true rfl)⟩ ?_
      refine a_isub 41 hC dX8_dropped_40 rfl ?_
      obtain ⟨v7, ev7, h⟩ := nmx h
      refine a_nm ev7 ?_
      refine a_istore_n 42 [(0, .ref (fa 0)), (1, .int x1), (2, .int x2), (3, .int v7)] [1, 2, 3, 0] hC dX8_dropped_41 rfl rfl (by decide) rfl ?_
      refine a_iload_n 43 2 hC dX8_dropped_42 rfl rfl rfl ?_
      refine a_iload_n 44 1 hC dX8_dropped_43 rfl rfl rfl ?_
      refine a_icmp_ge 62 47 hC dX8_dropped_44 (by decide) rfl (fun c8 => ?_) (fun c8 => ?_)
      · have h := ifp c8 h
        refine a_iload_n 63 3 hC dX8_dropped_62 rfl rfl rfl ?_
        obtain rfl := Option.some.inj h
        exact a_iret hC hR hpo (Nat.le_of_ble_eq_true rfl) (Nat.le_of_ble_eq_true rfl) dX8_dropped_63
      · have h := ifn c8 h
        refine a_iload_n 48 3 hC dX8_dropped_47 rfl rfl rfl ?_
        refine a_aload_n 49 0 hC dX8_dropped_48 rfl rfl rfl ?_
        refine a_get 52 0 6 0 hC inB_X8 rfl rfl (by decide) wq231 rfl rfl dX8_dropped_49 rfl ?_
        refine a_get 55 1 3 0 hC inB_X4 rfl rfl (by decide) wq185 rfl rfl dX8_dropped_52 rfl ?_
        obtain ⟨r9, gr9, h⟩ := bd h
        refine a_call0 58 [.int rate] [.int v7] (.int r9) hC (c_X2_leftOutInDay X.1.2.1 X.2.2.2.1 X.2.2.2.2 rate r9 gr9) ⟨wq347, wq33, wq349, ds_X2_leftOutInDay, by decide, by decide⟩ wq348 rfl rfl (Nat.le_of_ble_eq_true rfl) dX8_dropped_55 rfl rfl rfl ⟨(Nat.le_of_ble_eq_true rfl), (Nat.le_of_ble_eq_true rfl)⟩ ?_
        refine a_iadd 59 hC dX8_dropped_58 rfl ?_
        refine a_goto 63 hC dX8_dropped_59 (by decide) ?_
        obtain rfl := Option.some.inj h
        exact a_iret hC hR hpo (Nat.le_of_ble_eq_true rfl) (Nat.le_of_ble_eq_true rfl) dX8_dropped_63
    · have h := ifp c4 h
      refine a_iconst 17 (v := (-1 : Int32)) hC dX8_dropped_16 rfl (by decide) ?_
      obtain rfl := Option.some.inj h
      exact a_iret hC hR hpo (Nat.le_of_ble_eq_true rfl) (Nat.le_of_ble_eq_true rfl) dX8_dropped_17
theorem c_X8_dropped (l : Launch) (D : va_G) (z : ClassId × ClassId × ClassId) (fa a : Nat → Nat) (x1 : Int32) (x2 : Int32) (rate : Int32) (tfirst : Nat → Int32) (tlength : Nat → Int32) (tuser : Nat → Int32) (tsegments : Int32) (twords : Int32) (thead : Int32) (rcell : Int32) (rwaits : Int32) (rbits : Int64) (rheld : Int32) (rreadings : Int32) (rbroken : Int32) (rerrors : Int32) (rjumps : Int32) (rstreak : Int32) (rframe : Int32) (rnumber : Int32) (ruser : Int32) (rcourse : Int32) (wframe : Int32) (wcourse : Int32) (wmissed : Int32) (whold : Int32) (p0 : Int32) (s0 : Int32) (o0 : Int32) (p1 : Int32) (s1 : Int32) (o1 : Int32) (p2 : Int32) (s2 : Int32) (o2 : Int32) (next : Int32) (known : Int32) (P : Nat → Option ((Nat → Nat) × SV)) (Im : Nat → Option ((Nat → Nat) × SV)) (place : Int32) (speed : Int32) (offset : Int32) (sn : Nat → Int32) (sf : Nat → Int32) (seen : Int32) (res : (Int32)) (h : f_X8_dropped x1 x2 rate = some res) : Ct l D z yX8_dropped cX8_dropped 4 (some .int) rm_X8_dropped [.ref (fa 0), .int x1, .int x2] (fcW z fa a rate tfirst tlength tuser tsegments twords thead rcell rwaits rbits rheld rreadings rbroken rerrors rjumps rstreak rframe rnumber ruser rcourse wframe wcourse wmissed whold p0 s0 o0 p1 s1 o1 p2 s2 o2 next known P Im place speed offset sn sf seen ++ (poW z P Im)) (fun r w => r = (some (.int res)) ∧ w = (fcW z fa a rate tfirst tlength tuser tsegments twords thead rcell rwaits rbits rheld rreadings rbroken rerrors rjumps rstreak rframe rnumber ruser rcourse wframe wcourse wmissed whold p0 s0 o0 p1 s1 o1 p2 s2 o2 next known P Im place speed offset sn sf seen ++ (poW z P Im))) := by
  refine Ct.of (by decide +kernel) (Nat.le_of_ble_eq_true rfl) (fun X hC hl hz hn hR => ?_)
  have hz1 : X.2.2.2.2 = z := by rw [hz]
  subst hz1
  exact t_X8_dropped hC fa a x1 x2 rate tfirst tlength tuser tsegments twords thead rcell rwaits rbits rheld rreadings rbroken rerrors rjumps rstreak rframe rnumber ruser rcourse wframe wcourse wmissed whold p0 s0 o0 p1 s1 o1 p2 s2 o2 next known P Im place speed offset sn sf seen res hR ⟨rfl, rfl⟩ h
/-! X8_bit -/
abbrev rm_X8_bit : Room := { frames := 4, cells := 0, slots := 0, locals := 98 }
theorem ds_X8_bit : yX8_bit.cls ≠ "java/lang/invoke/MethodHandle" ∧ yX8_bit.cls ≠ "java/lang/invoke/VarHandle" ∧ (parseMethodDescriptor yX8_bit.desc).map (fun d => d.parameters.length) = some 1 := by decide +kernel
def f_X8_bit (x1 : Int32) (rate : Int32) (tfirst : Nat → Int32) (tlength : Nat → Int32) (tuser : Nat → Int32) (tsegments : Int32) (twords : Int32) : Option ((Int32)) := (if x1 < (0 : Int32) then (some (-1 : Int32)) else ((f_X5_bitsInAll twords).bind fun r2 => (if x1 < r2 then ((f_X5_wordAt (x1 / (48 : Int32)) rate tfirst tlength tuser tsegments).bind fun r4 => ((f_X7_bitOf r4 (q_rem x1 (48 : Int32))).bind fun r5 => (some r5))) else (some (-1 : Int32)))))
set_option maxRecDepth 100000 in
set_option maxHeartbeats 4000000 in
theorem t_X8_bit {X : qX} (hC : Ok X rm_X8_bit cX8_bit 2 RX8 (some .int)) (fa a : Nat → Nat) (x1 : Int32) (rate : Int32) (tfirst : Nat → Int32) (tlength : Nat → Int32) (tuser : Nat → Int32) (tsegments : Int32) (twords : Int32) (thead : Int32) (rcell : Int32) (rwaits : Int32) (rbits : Int64) (rheld : Int32) (rreadings : Int32) (rbroken : Int32) (rerrors : Int32) (rjumps : Int32) (rstreak : Int32) (rframe : Int32) (rnumber : Int32) (ruser : Int32) (rcourse : Int32) (wframe : Int32) (wcourse : Int32) (wmissed : Int32) (whold : Int32) (p0 : Int32) (s0 : Int32) (o0 : Int32) (p1 : Int32) (s1 : Int32) (o1 : Int32) (p2 : Int32) (s2 : Int32) (o2 : Int32) (next : Int32) (known : Int32) (P : Nat → Option ((Nat → Nat) × SV)) (Im : Nat → Option ((Nat → Nat) × SV)) (place : Int32) (speed : Int32) (offset : Int32) (sn : Nat → Int32) (sf : Nat → Int32) (seen : Int32) (res : (Int32)) {Po : Option Value → va_W → Prop} (hR : Rt X 0 0 Po) (hpo : Po (some (.int res)) (fcW X.2.2.2.2 fa a rate tfirst tlength tuser tsegments twords thead rcell rwaits rbits rheld rreadings rbroken rerrors rjumps rstreak rframe rnumber ruser rcourse wframe wcourse wmissed whold p0 s0 o0 p1 s1 o1 p2 s2 o2 next known P Im place speed offset sn sf seen ++ (poW X.2.2.2.2 P Im))) (h : f_X8_bit x1 rate tfirst tlength tuser tsegments twords = some res) : At X 0 0 0 (fcW X.2.2.2.2 fa a rate tfirst tlength tuser tsegments twords thead rcell rwaits rbits rheld rreadings rbroken rerrors rjumps rstreak rframe rnumber ruser rcourse wframe wcourse wmissed whold p0 s0 o0 p1 s1 o1 p2 s2 o2 next known P Im place speed offset sn sf seen ++ (poW X.2.2.2.2 P Im)) [(0, .ref (fa 0)), (1, .int x1)] [] := by
  unfold f_X8_bit at h
  refine a_iload_n 1 1 hC dX8_bit_0 rfl rfl rfl ?_
  refine a_if_lt 18 4 hC dX8_bit_1 (by decide) rfl (fun c1 => ?_) (fun c1 => ?_)
  · have h := ifp c1 h
    refine a_iconst 19 (v := (-1 : Int32)) hC dX8_bit_18 rfl (by decide) ?_
    obtain rfl := Option.some.inj h
    exact a_iret hC hR hpo (Nat.le_of_ble_eq_true rfl) (Nat.le_of_ble_eq_true rfl) dX8_bit_19
  · have h := ifn c1 h
    refine a_iload_n 5 1 hC dX8_bit_4 rfl rfl rfl ?_
    refine a_aload_n 6 0 hC dX8_bit_5 rfl rfl rfl ?_
    refine a_get 9 0 6 0 hC inB_X8 rfl rfl (by decide) wq231 rfl rfl dX8_bit_6 rfl ?_
    refine a_get 12 1 3 1 hC inB_X4 rfl rfl (by decide) wq187 rfl rfl dX8_bit_9 rfl ?_
    obtain ⟨r2, gr2, h⟩ := bd h
    refine a_callVd 15 (fcW X.2.2.2.2 fa a rate tfirst tlength tuser tsegments twords thead rcell rwaits rbits rheld rreadings rbroken rerrors rjumps rstreak rframe rnumber ruser rcourse wframe wcourse wmissed whold p0 s0 o0 p1 s1 o1 p2 s2 o2 next known P Im place speed offset sn sf seen) (poW X.2.2.2.2 P Im) [2, 3, 4, 5] [0, 1, 6, 7, 8, 9, 10, 11, 12, 13, 14, 15, 16] [0, 1, 13, 14, 15, 16, 2, 3, 4, 5, 6, 7, 8, 9, 10, 11, 12] (fcW X.2.2.2.2 fa a rate tfirst tlength tuser tsegments twords thead rcell rwaits rbits rheld rreadings rbroken rerrors rjumps rstreak rframe rnumber ruser rcourse wframe wcourse wmissed whold p0 s0 o0 p1 s1 o1 p2 s2 o2 next known P Im place speed offset sn sf seen) (fcW X.2.2.2.2 fa a rate tfirst tlength tuser tsegments twords thead rcell rwaits rbits rheld rreadings rbroken rerrors rjumps rstreak rframe rnumber ruser rcourse wframe wcourse wmissed whold p0 s0 o0 p1 s1 o1 p2 s2 o2 next known P Im place speed offset sn sf seen ++ (poW X.2.2.2.2 P Im)) 0 4 [] [.int x1] (some (.int r2)) (tpW X.2.2.2.2 (a 1) (a 2) (a 3) (a 4) tfirst tlength tuser tsegments twords thead) [.int r2, .int x1] hC (c_X5_bitsInAll X.1.2.1 X.2.2.2.1 X.2.2.2.2 (a 1) (a 2) (a 3) (a 4) tfirst tlength tuser tsegments twords thead r2 gr2) ⟨wq362, wq25, wq365, ds_X5_bitsInAll, by decide, by decide⟩ wq363 wq364 rfl rfl (Nat.le_of_ble_eq_true rfl) dX8_bit_12 rfl rfl rfl ⟨(Nat.le_of_ble_eq_true rfl), (Nat.le_of_ble_eq_true rfl)⟩ rfl rfl rfl rfl rfl (by decide) rfl rfl rfl rfl rfl rfl ?_
    refine a_icmp_lt 20 18 hC dX8_bit_15 (by decide) rfl (fun c3 => ?_) (fun c3 => ?_)
    · have h := ifp c3 h
      refine a_aload_n 21 0 hC dX8_bit_20 rfl rfl rfl ?_
      refine a_get 24 0 6 0 hC inB_X8 rfl rfl (by decide) wq231 rfl rfl dX8_bit_21 rfl ?_
      refine a_get 27 1 3 1 hC inB_X4 rfl rfl (by decide) wq187 rfl rfl dX8_bit_24 rfl ?_
      refine a_iload_n 28 1 hC dX8_bit_27 rfl rfl rfl ?_
      refine a_bipush 30 (v := (48 : Int32)) hC dX8_bit_28 rfl (by decide) ?_
      refine a_idiv 31 hC dX8_bit_30 rfl (by decide) ?_
      refine a_aload_n 32 0 hC dX8_bit_31 rfl rfl rfl ?_
      refine a_get 35 0 6 0 hC inB_X8 rfl rfl (by decide) wq231 rfl rfl dX8_bit_32 rfl ?_
      refine a_get 38 1 3 0 hC inB_X4 rfl rfl (by decide) wq185 rfl rfl dX8_bit_35 rfl ?_
      obtain ⟨r4, gr4, h⟩ := bd h
      refine a_callVd 41 (fcW X.2.2.2.2 fa a rate tfirst tlength tuser tsegments twords thead rcell rwaits rbits rheld rreadings rbroken rerrors rjumps rstreak rframe rnumber ruser rcourse wframe wcourse wmissed whold p0 s0 o0 p1 s1 o1 p2 s2 o2 next known P Im place speed offset sn sf seen) (poW X.2.2.2.2 P Im) [2, 3, 4, 5] [0, 1, 6, 7, 8, 9, 10, 11, 12, 13, 14, 15, 16] [0, 1, 13, 14, 15, 16, 2, 3, 4, 5, 6, 7, 8, 9, 10, 11, 12] (fcW X.2.2.2.2 fa a rate tfirst tlength tuser tsegments twords thead rcell rwaits rbits rheld rreadings rbroken rerrors rjumps rstreak rframe rnumber ruser rcourse wframe wcourse wmissed whold p0 s0 o0 p1 s1 o1 p2 s2 o2 next known P Im place speed offset sn sf seen) (fcW X.2.2.2.2 fa a rate tfirst tlength tuser tsegments twords thead rcell rwaits rbits rheld rreadings rbroken rerrors rjumps rstreak rframe rnumber ruser rcourse wframe wcourse wmissed whold p0 s0 o0 p1 s1 o1 p2 s2 o2 next known P Im place speed offset sn sf seen ++ (poW X.2.2.2.2 P Im)) 0 4 [.int (x1 / (48 : Int32)), .int rate] [] (some (.long r4)) (tpW X.2.2.2.2 (a 1) (a 2) (a 3) (a 4) tfirst tlength tuser tsegments twords thead) [.long r4] hC (c_X5_wordAt X.1.2.1 X.2.2.2.1 X.2.2.2.2 (a 1) (a 2) (a 3) (a 4) (x1 / (48 : Int32)) rate tfirst tlength tuser tsegments twords thead r4 gr4) ⟨wq370, wq25, wq373, ds_X5_wordAt, by decide, by decide⟩ wq371 wq372 rfl rfl (Nat.le_of_ble_eq_true rfl) dX8_bit_38 rfl rfl rfl ⟨(Nat.le_of_ble_eq_true rfl), (Nat.le_of_ble_eq_true rfl)⟩ rfl rfl rfl rfl rfl (by decide) rfl rfl rfl rfl rfl rfl ?_
      refine a_iload_n 42 1 hC dX8_bit_41 rfl rfl rfl ?_
      refine a_bipush 44 (v := (48 : Int32)) hC dX8_bit_42 rfl (by decide) ?_
      refine a_rem 45 hC dX8_bit_44 rfl (by decide) ?_
      obtain ⟨r5, gr5, h⟩ := bd h
      refine a_call0 48 [.long r4, .int (q_rem x1 (48 : Int32))] [] (.int r5) hC (c_X7_bitOf X.1.2.1 X.2.2.2.1 X.2.2.2.2 r4 (q_rem x1 (48 : Int32)) r5 gr5) ⟨wq392, wq34, wq394, ds_X7_bitOf, by decide, by decide⟩ wq393 rfl rfl (Nat.le_of_ble_eq_true rfl) dX8_bit_45 rfl rfl rfl ⟨(Nat.le_of_ble_eq_true rfl), (Nat.le_of_ble_eq_true rfl)⟩ ?_
      obtain rfl := Option.some.inj h
      exact a_iret hC hR hpo (Nat.le_of_ble_eq_true rfl) (Nat.le_of_ble_eq_true rfl) dX8_bit_48
    · have h := ifn c3 h
      refine a_iconst 19 (v := (-1 : Int32)) hC dX8_bit_18 rfl (by decide) ?_
      obtain rfl := Option.some.inj h
      exact a_iret hC hR hpo (Nat.le_of_ble_eq_true rfl) (Nat.le_of_ble_eq_true rfl) dX8_bit_19
theorem c_X8_bit (l : Launch) (D : va_G) (z : ClassId × ClassId × ClassId) (fa a : Nat → Nat) (x1 : Int32) (rate : Int32) (tfirst : Nat → Int32) (tlength : Nat → Int32) (tuser : Nat → Int32) (tsegments : Int32) (twords : Int32) (thead : Int32) (rcell : Int32) (rwaits : Int32) (rbits : Int64) (rheld : Int32) (rreadings : Int32) (rbroken : Int32) (rerrors : Int32) (rjumps : Int32) (rstreak : Int32) (rframe : Int32) (rnumber : Int32) (ruser : Int32) (rcourse : Int32) (wframe : Int32) (wcourse : Int32) (wmissed : Int32) (whold : Int32) (p0 : Int32) (s0 : Int32) (o0 : Int32) (p1 : Int32) (s1 : Int32) (o1 : Int32) (p2 : Int32) (s2 : Int32) (o2 : Int32) (next : Int32) (known : Int32) (P : Nat → Option ((Nat → Nat) × SV)) (Im : Nat → Option ((Nat → Nat) × SV)) (place : Int32) (speed : Int32) (offset : Int32) (sn : Nat → Int32) (sf : Nat → Int32) (seen : Int32) (res : (Int32)) (h : f_X8_bit x1 rate tfirst tlength tuser tsegments twords = some res) : Ct l D z yX8_bit cX8_bit 2 (some .int) rm_X8_bit [.ref (fa 0), .int x1] (fcW z fa a rate tfirst tlength tuser tsegments twords thead rcell rwaits rbits rheld rreadings rbroken rerrors rjumps rstreak rframe rnumber ruser rcourse wframe wcourse wmissed whold p0 s0 o0 p1 s1 o1 p2 s2 o2 next known P Im place speed offset sn sf seen ++ (poW z P Im)) (fun r w => r = (some (.int res)) ∧ w = (fcW z fa a rate tfirst tlength tuser tsegments twords thead rcell rwaits rbits rheld rreadings rbroken rerrors rjumps rstreak rframe rnumber ruser rcourse wframe wcourse wmissed whold p0 s0 o0 p1 s1 o1 p2 s2 o2 next known P Im place speed offset sn sf seen ++ (poW z P Im))) := by
  refine Ct.of (by decide +kernel) (Nat.le_of_ble_eq_true rfl) (fun X hC hl hz hn hR => ?_)
  have hz1 : X.2.2.2.2 = z := by rw [hz]
  subst hz1
  exact t_X8_bit hC fa a x1 rate tfirst tlength tuser tsegments twords thead rcell rwaits rbits rheld rreadings rbroken rerrors rjumps rstreak rframe rnumber ruser rcourse wframe wcourse wmissed whold p0 s0 o0 p1 s1 o1 p2 s2 o2 next known P Im place speed offset sn sf seen res hR ⟨rfl, rfl⟩ h
/-! X8_reader -/
abbrev rm_X8_reader : Room := { frames := 0, cells := 0, slots := 0, locals := 0 }
theorem ds_X8_reader : yX8_reader.cls ≠ "java/lang/invoke/MethodHandle" ∧ yX8_reader.cls ≠ "java/lang/invoke/VarHandle" ∧ (parseMethodDescriptor yX8_reader.desc).map (fun d => d.parameters.length) = some 1 := by decide +kernel
def f_X8_reader (x1 : Int32) (rcell : Int32) (rwaits : Int32) (rheld : Int32) (rreadings : Int32) (rbroken : Int32) (rerrors : Int32) (rjumps : Int32) (rstreak : Int32) : Option ((Int32)) := (if x1 = (0 : Int32) then (some rcell) else (if x1 = (1 : Int32) then (some rwaits) else (if x1 = (2 : Int32) then (some rheld) else (if x1 = (3 : Int32) then (some rreadings) else (if x1 = (4 : Int32) then (some rbroken) else (if x1 = (5 : Int32) then (some rerrors) else (if x1 = (6 : Int32) then (some rjumps) else (if x1 = (7 : Int32) then (some rstreak) else (some (-1 : Int32))))))))))
set_option maxRecDepth 100000 in
set_option maxHeartbeats 4000000 in
theorem t_X8_reader {X : qX} (hC : Ok X rm_X8_reader cX8_reader 3 RX8 (some .int)) (fa a : Nat → Nat) (x1 : Int32) (rate : Int32) (tfirst : Nat → Int32) (tlength : Nat → Int32) (tuser : Nat → Int32) (tsegments : Int32) (twords : Int32) (thead : Int32) (rcell : Int32) (rwaits : Int32) (rbits : Int64) (rheld : Int32) (rreadings : Int32) (rbroken : Int32) (rerrors : Int32) (rjumps : Int32) (rstreak : Int32) (rframe : Int32) (rnumber : Int32) (ruser : Int32) (rcourse : Int32) (wframe : Int32) (wcourse : Int32) (wmissed : Int32) (whold : Int32) (p0 : Int32) (s0 : Int32) (o0 : Int32) (p1 : Int32) (s1 : Int32) (o1 : Int32) (p2 : Int32) (s2 : Int32) (o2 : Int32) (next : Int32) (known : Int32) (P : Nat → Option ((Nat → Nat) × SV)) (Im : Nat → Option ((Nat → Nat) × SV)) (place : Int32) (speed : Int32) (offset : Int32) (sn : Nat → Int32) (sf : Nat → Int32) (seen : Int32) (res : (Int32)) {Po : Option Value → va_W → Prop} (hR : Rt X 0 0 Po) (hpo : Po (some (.int res)) (fcW X.2.2.2.2 fa a rate tfirst tlength tuser tsegments twords thead rcell rwaits rbits rheld rreadings rbroken rerrors rjumps rstreak rframe rnumber ruser rcourse wframe wcourse wmissed whold p0 s0 o0 p1 s1 o1 p2 s2 o2 next known P Im place speed offset sn sf seen ++ (poW X.2.2.2.2 P Im))) (h : f_X8_reader x1 rcell rwaits rheld rreadings rbroken rerrors rjumps rstreak = some res) : At X 0 0 0 (fcW X.2.2.2.2 fa a rate tfirst tlength tuser tsegments twords thead rcell rwaits rbits rheld rreadings rbroken rerrors rjumps rstreak rframe rnumber ruser rcourse wframe wcourse wmissed whold p0 s0 o0 p1 s1 o1 p2 s2 o2 next known P Im place speed offset sn sf seen ++ (poW X.2.2.2.2 P Im)) [(0, .ref (fa 0)), (1, .int x1)] [] := by
  unfold f_X8_reader at h
  refine a_aload_n 1 0 hC dX8_reader_0 rfl rfl rfl ?_
  refine a_get 4 0 6 0 hC inB_X8 rfl rfl (by decide) wq231 rfl rfl dX8_reader_1 rfl ?_
  refine a_get 7 1 3 2 hC inB_X4 rfl rfl (by decide) wq189 rfl rfl dX8_reader_4 rfl ?_
  refine a_astore_n 8 [(0, .ref (fa 0)), (1, .int x1), (2, .ref (a 5))] [1, 2, 0] hC dX8_reader_7 rfl rfl (by decide) rfl ?_
  refine a_iload_n 9 1 hC dX8_reader_8 rfl rfl rfl ?_
  by_cases c1 : x1 = (0 : Int32)
  · have h := ifp c1 h
    refine a_tswI 56 hC dX8_reader_9 c1 (by decide) (by decide) rfl (by decide) ?_
    refine a_aload_n 57 2 hC dX8_reader_56 rfl rfl rfl ?_
    refine a_get 60 6 2 0 hC inB_X3 rfl rfl (by decide) wq86 rfl rfl dX8_reader_57 rfl ?_
    obtain rfl := Option.some.inj h
    exact a_iret hC hR hpo (Nat.le_of_ble_eq_true rfl) (Nat.le_of_ble_eq_true rfl) dX8_reader_60
  · have h := ifn c1 h
    by_cases c2 : x1 = (1 : Int32)
    · have h := ifp c2 h
      refine a_tswI 61 hC dX8_reader_9 c2 (by decide) (by decide) rfl (by decide) ?_
      refine a_aload_n 62 2 hC dX8_reader_61 rfl rfl rfl ?_
      refine a_get 65 6 2 1 hC inB_X3 rfl rfl (by decide) wq88 rfl rfl dX8_reader_62 rfl ?_
      obtain rfl := Option.some.inj h
      exact a_iret hC hR hpo (Nat.le_of_ble_eq_true rfl) (Nat.le_of_ble_eq_true rfl) dX8_reader_65
    · have h := ifn c2 h
      by_cases c3 : x1 = (2 : Int32)
      · have h := ifp c3 h
        refine a_tswI 66 hC dX8_reader_9 c3 (by decide) (by decide) rfl (by decide) ?_
        refine a_aload_n 67 2 hC dX8_reader_66 rfl rfl rfl ?_
        refine a_get 70 6 2 3 hC inB_X3 rfl rfl (by decide) wq91 rfl rfl dX8_reader_67 rfl ?_
        obtain rfl := Option.some.inj h
        exact a_iret hC hR hpo (Nat.le_of_ble_eq_true rfl) (Nat.le_of_ble_eq_true rfl) dX8_reader_70
      · have h := ifn c3 h
        by_cases c4 : x1 = (3 : Int32)
        · have h := ifp c4 h
          refine a_tswI 71 hC dX8_reader_9 c4 (by decide) (by decide) rfl (by decide) ?_
          refine a_aload_n 72 2 hC dX8_reader_71 rfl rfl rfl ?_
          refine a_get 75 6 2 4 hC inB_X3 rfl rfl (by decide) wq93 rfl rfl dX8_reader_72 rfl ?_
          obtain rfl := Option.some.inj h
          exact a_iret hC hR hpo (Nat.le_of_ble_eq_true rfl) (Nat.le_of_ble_eq_true rfl) dX8_reader_75
        · have h := ifn c4 h
          by_cases c5 : x1 = (4 : Int32)
          · have h := ifp c5 h
            refine a_tswI 76 hC dX8_reader_9 c5 (by decide) (by decide) rfl (by decide) ?_
            refine a_aload_n 77 2 hC dX8_reader_76 rfl rfl rfl ?_
            refine a_get 80 6 2 5 hC inB_X3 rfl rfl (by decide) wq95 rfl rfl dX8_reader_77 rfl ?_
            obtain rfl := Option.some.inj h
            exact a_iret hC hR hpo (Nat.le_of_ble_eq_true rfl) (Nat.le_of_ble_eq_true rfl) dX8_reader_80
          · have h := ifn c5 h
            by_cases c6 : x1 = (5 : Int32)
            · have h := ifp c6 h
              refine a_tswI 81 hC dX8_reader_9 c6 (by decide) (by decide) rfl (by decide) ?_
              refine a_aload_n 82 2 hC dX8_reader_81 rfl rfl rfl ?_
              refine a_get 85 6 2 6 hC inB_X3 rfl rfl (by decide) wq97 rfl rfl dX8_reader_82 rfl ?_
              obtain rfl := Option.some.inj h
              exact a_iret hC hR hpo (Nat.le_of_ble_eq_true rfl) (Nat.le_of_ble_eq_true rfl) dX8_reader_85
            · have h := ifn c6 h
              by_cases c7 : x1 = (6 : Int32)
              · have h := ifp c7 h
                refine a_tswI 86 hC dX8_reader_9 c7 (by decide) (by decide) rfl (by decide) ?_
                refine a_aload_n 87 2 hC dX8_reader_86 rfl rfl rfl ?_
                refine a_get 90 6 2 7 hC inB_X3 rfl rfl (by decide) wq99 rfl rfl dX8_reader_87 rfl ?_
                obtain rfl := Option.some.inj h
                exact a_iret hC hR hpo (Nat.le_of_ble_eq_true rfl) (Nat.le_of_ble_eq_true rfl) dX8_reader_90
              · have h := ifn c7 h
                by_cases c8 : x1 = (7 : Int32)
                · have h := ifp c8 h
                  refine a_tswI 91 hC dX8_reader_9 c8 (by decide) (by decide) rfl (by decide) ?_
                  refine a_aload_n 92 2 hC dX8_reader_91 rfl rfl rfl ?_
                  refine a_get 95 6 2 8 hC inB_X3 rfl rfl (by decide) wq102 rfl rfl dX8_reader_92 rfl ?_
                  obtain rfl := Option.some.inj h
                  exact a_iret hC hR hpo (Nat.le_of_ble_eq_true rfl) (Nat.le_of_ble_eq_true rfl) dX8_reader_95
                · have h := ifn c8 h
                  refine a_tswO 96 hC dX8_reader_9 (by have ec1 := ne_ti c1 (a := 0) (by decide); have ec2 := ne_ti c2 (a := 1) (by decide); have ec3 := ne_ti c3 (a := 2) (by decide); have ec4 := ne_ti c4 (a := 3) (by decide); have ec5 := ne_ti c5 (a := 4) (by decide); have ec6 := ne_ti c6 (a := 5) (by decide); have ec7 := ne_ti c7 (a := 6) (by decide); have ec8 := ne_ti c8 (a := 7) (by decide); clear h; omega) (by decide) ?_
                  refine a_iconst 97 (v := (-1 : Int32)) hC dX8_reader_96 rfl (by decide) ?_
                  obtain rfl := Option.some.inj h
                  exact a_iret hC hR hpo (Nat.le_of_ble_eq_true rfl) (Nat.le_of_ble_eq_true rfl) dX8_reader_97
theorem c_X8_reader (l : Launch) (D : va_G) (z : ClassId × ClassId × ClassId) (fa a : Nat → Nat) (x1 : Int32) (rate : Int32) (tfirst : Nat → Int32) (tlength : Nat → Int32) (tuser : Nat → Int32) (tsegments : Int32) (twords : Int32) (thead : Int32) (rcell : Int32) (rwaits : Int32) (rbits : Int64) (rheld : Int32) (rreadings : Int32) (rbroken : Int32) (rerrors : Int32) (rjumps : Int32) (rstreak : Int32) (rframe : Int32) (rnumber : Int32) (ruser : Int32) (rcourse : Int32) (wframe : Int32) (wcourse : Int32) (wmissed : Int32) (whold : Int32) (p0 : Int32) (s0 : Int32) (o0 : Int32) (p1 : Int32) (s1 : Int32) (o1 : Int32) (p2 : Int32) (s2 : Int32) (o2 : Int32) (next : Int32) (known : Int32) (P : Nat → Option ((Nat → Nat) × SV)) (Im : Nat → Option ((Nat → Nat) × SV)) (place : Int32) (speed : Int32) (offset : Int32) (sn : Nat → Int32) (sf : Nat → Int32) (seen : Int32) (res : (Int32)) (h : f_X8_reader x1 rcell rwaits rheld rreadings rbroken rerrors rjumps rstreak = some res) : Ct l D z yX8_reader cX8_reader 3 (some .int) rm_X8_reader [.ref (fa 0), .int x1] (fcW z fa a rate tfirst tlength tuser tsegments twords thead rcell rwaits rbits rheld rreadings rbroken rerrors rjumps rstreak rframe rnumber ruser rcourse wframe wcourse wmissed whold p0 s0 o0 p1 s1 o1 p2 s2 o2 next known P Im place speed offset sn sf seen ++ (poW z P Im)) (fun r w => r = (some (.int res)) ∧ w = (fcW z fa a rate tfirst tlength tuser tsegments twords thead rcell rwaits rbits rheld rreadings rbroken rerrors rjumps rstreak rframe rnumber ruser rcourse wframe wcourse wmissed whold p0 s0 o0 p1 s1 o1 p2 s2 o2 next known P Im place speed offset sn sf seen ++ (poW z P Im))) := by
  refine Ct.of (by decide +kernel) (Nat.le_of_ble_eq_true rfl) (fun X hC hl hz hn hR => ?_)
  have hz1 : X.2.2.2.2 = z := by rw [hz]
  subst hz1
  exact t_X8_reader hC fa a x1 rate tfirst tlength tuser tsegments twords thead rcell rwaits rbits rheld rreadings rbroken rerrors rjumps rstreak rframe rnumber ruser rcourse wframe wcourse wmissed whold p0 s0 o0 p1 s1 o1 p2 s2 o2 next known P Im place speed offset sn sf seen res hR ⟨rfl, rfl⟩ h
/-! X8_reading -/
abbrev rm_X8_reading : Room := { frames := 1, cells := 0, slots := 0, locals := 20 }
theorem ds_X8_reading : yX8_reading.cls ≠ "java/lang/invoke/MethodHandle" ∧ yX8_reading.cls ≠ "java/lang/invoke/VarHandle" ∧ (parseMethodDescriptor yX8_reading.desc).map (fun d => d.parameters.length) = some 1 := by decide +kernel
def f_X8_reading (x1 : Int32) (rreadings : Int32) (rframe : Int32) (rnumber : Int32) (ruser : Int32) (rcourse : Int32) : Option ((Int32)) := (if x1 < (0 : Int32) then (some (-2147483647 : Int32)) else (if x1 ≤ (3 : Int32) then ((f_X3_hasRead rreadings).bind fun r3 => (if r3 = (0 : Int32) then (some (-9 : Int32)) else (if x1 = (0 : Int32) then (some rframe) else (if x1 = (1 : Int32) then (some rnumber) else (if x1 = (2 : Int32) then (some ruser) else (some rcourse)))))) else (some (-2147483647 : Int32))))
set_option maxRecDepth 100000 in
set_option maxHeartbeats 4000000 in
theorem t_X8_reading {X : qX} (hC : Ok X rm_X8_reading cX8_reading 3 RX8 (some .int)) (fa a : Nat → Nat) (x1 : Int32) (rate : Int32) (tfirst : Nat → Int32) (tlength : Nat → Int32) (tuser : Nat → Int32) (tsegments : Int32) (twords : Int32) (thead : Int32) (rcell : Int32) (rwaits : Int32) (rbits : Int64) (rheld : Int32) (rreadings : Int32) (rbroken : Int32) (rerrors : Int32) (rjumps : Int32) (rstreak : Int32) (rframe : Int32) (rnumber : Int32) (ruser : Int32) (rcourse : Int32) (wframe : Int32) (wcourse : Int32) (wmissed : Int32) (whold : Int32) (p0 : Int32) (s0 : Int32) (o0 : Int32) (p1 : Int32) (s1 : Int32) (o1 : Int32) (p2 : Int32) (s2 : Int32) (o2 : Int32) (next : Int32) (known : Int32) (P : Nat → Option ((Nat → Nat) × SV)) (Im : Nat → Option ((Nat → Nat) × SV)) (place : Int32) (speed : Int32) (offset : Int32) (sn : Nat → Int32) (sf : Nat → Int32) (seen : Int32) (res : (Int32)) {Po : Option Value → va_W → Prop} (hR : Rt X 0 0 Po) (hpo : Po (some (.int res)) (fcW X.2.2.2.2 fa a rate tfirst tlength tuser tsegments twords thead rcell rwaits rbits rheld rreadings rbroken rerrors rjumps rstreak rframe rnumber ruser rcourse wframe wcourse wmissed whold p0 s0 o0 p1 s1 o1 p2 s2 o2 next known P Im place speed offset sn sf seen ++ (poW X.2.2.2.2 P Im))) (h : f_X8_reading x1 rreadings rframe rnumber ruser rcourse = some res) : At X 0 0 0 (fcW X.2.2.2.2 fa a rate tfirst tlength tuser tsegments twords thead rcell rwaits rbits rheld rreadings rbroken rerrors rjumps rstreak rframe rnumber ruser rcourse wframe wcourse wmissed whold p0 s0 o0 p1 s1 o1 p2 s2 o2 next known P Im place speed offset sn sf seen ++ (poW X.2.2.2.2 P Im)) [(0, .ref (fa 0)), (1, .int x1)] [] := by
  unfold f_X8_reading at h
  refine a_aload_n 1 0 hC dX8_reading_0 rfl rfl rfl ?_
  refine a_get 4 0 6 0 hC inB_X8 rfl rfl (by decide) wq231 rfl rfl dX8_reading_1 rfl ?_
  refine a_get 7 1 3 2 hC inB_X4 rfl rfl (by decide) wq189 rfl rfl dX8_reading_4 rfl ?_
  refine a_astore_n 8 [(0, .ref (fa 0)), (1, .int x1), (2, .ref (a 5))] [1, 2, 0] hC dX8_reading_7 rfl rfl (by decide) rfl ?_
  refine a_iload_n 9 1 hC dX8_reading_8 rfl rfl rfl ?_
  refine a_if_lt 17 12 hC dX8_reading_9 (by decide) rfl (fun c1 => ?_) (fun c1 => ?_)
  · have h := ifp c1 h
    refine a_ldc 19 (v := (-2147483647 : Int32)) hC wq487 dX8_reading_17 rfl ?_
    obtain rfl := Option.some.inj h
    exact a_iret hC hR hpo (Nat.le_of_ble_eq_true rfl) (Nat.le_of_ble_eq_true rfl) dX8_reading_19
  · have h := ifn c1 h
    refine a_iload_n 13 1 hC dX8_reading_12 rfl rfl rfl ?_
    refine a_iconst 14 (v := (3 : Int32)) hC dX8_reading_13 rfl (by decide) ?_
    refine a_icmp_le 20 17 hC dX8_reading_14 (by decide) rfl (fun c2 => ?_) (fun c2 => ?_)
    · have h := ifp c2 h
      refine a_aload_n 21 2 hC dX8_reading_20 rfl rfl rfl ?_
      obtain ⟨r3, gr3, h⟩ := bd h
      refine a_callVd 24 (fcW X.2.2.2.2 fa a rate tfirst tlength tuser tsegments twords thead rcell rwaits rbits rheld rreadings rbroken rerrors rjumps rstreak rframe rnumber ruser rcourse wframe wcourse wmissed whold p0 s0 o0 p1 s1 o1 p2 s2 o2 next known P Im place speed offset sn sf seen) (poW X.2.2.2.2 P Im) [6] [0, 1, 2, 3, 4, 5, 7, 8, 9, 10, 11, 12, 13, 14, 15, 16] [0, 1, 2, 3, 4, 5, 16, 6, 7, 8, 9, 10, 11, 12, 13, 14, 15] (fcW X.2.2.2.2 fa a rate tfirst tlength tuser tsegments twords thead rcell rwaits rbits rheld rreadings rbroken rerrors rjumps rstreak rframe rnumber ruser rcourse wframe wcourse wmissed whold p0 s0 o0 p1 s1 o1 p2 s2 o2 next known P Im place speed offset sn sf seen) (fcW X.2.2.2.2 fa a rate tfirst tlength tuser tsegments twords thead rcell rwaits rbits rheld rreadings rbroken rerrors rjumps rstreak rframe rnumber ruser rcourse wframe wcourse wmissed whold p0 s0 o0 p1 s1 o1 p2 s2 o2 next known P Im place speed offset sn sf seen ++ (poW X.2.2.2.2 P Im)) 0 2 [] [] (some (.int r3)) (rdW (a 5) rcell rwaits rbits rheld rreadings rbroken rerrors rjumps rstreak rframe rnumber ruser rcourse) [.int r3] hC (c_X3_hasRead X.1.2.1 X.2.2.2.1 X.2.2.2.2 (a 5) rcell rwaits rbits rheld rreadings rbroken rerrors rjumps rstreak rframe rnumber ruser rcourse r3 gr3) ⟨wq488, wq26, wq453, ds_X3_hasRead, by decide, by decide⟩ wq451 wq452 rfl rfl (Nat.le_of_ble_eq_true rfl) dX8_reading_21 rfl rfl rfl ⟨(Nat.le_of_ble_eq_true rfl), (Nat.le_of_ble_eq_true rfl)⟩ rfl rfl rfl rfl rfl (by decide) rfl rfl rfl rfl rfl rfl ?_
      refine a_if_ne 30 27 hC dX8_reading_24 (by decide) rfl (fun c4 => ?_) (fun c4 => ?_)
      · have h := ifn c4 h
        refine a_iload_n 31 1 hC dX8_reading_30 rfl rfl rfl ?_
        by_cases c5 : x1 = (0 : Int32)
        · have h := ifp c5 h
          refine a_tswI 56 hC dX8_reading_31 c5 (by decide) (by decide) rfl (by decide) ?_
          refine a_aload_n 57 2 hC dX8_reading_56 rfl rfl rfl ?_
          refine a_get 60 6 2 9 hC inB_X3 rfl rfl (by decide) wq105 rfl rfl dX8_reading_57 rfl ?_
          obtain rfl := Option.some.inj h
          exact a_iret hC hR hpo (Nat.le_of_ble_eq_true rfl) (Nat.le_of_ble_eq_true rfl) dX8_reading_60
        · have h := ifn c5 h
          by_cases c6 : x1 = (1 : Int32)
          · have h := ifp c6 h
            refine a_tswI 61 hC dX8_reading_31 c6 (by decide) (by decide) rfl (by decide) ?_
            refine a_aload_n 62 2 hC dX8_reading_61 rfl rfl rfl ?_
            refine a_get 65 6 2 10 hC inB_X3 rfl rfl (by decide) wq107 rfl rfl dX8_reading_62 rfl ?_
            obtain rfl := Option.some.inj h
            exact a_iret hC hR hpo (Nat.le_of_ble_eq_true rfl) (Nat.le_of_ble_eq_true rfl) dX8_reading_65
          · have h := ifn c6 h
            by_cases c7 : x1 = (2 : Int32)
            · have h := ifp c7 h
              refine a_tswI 66 hC dX8_reading_31 c7 (by decide) (by decide) rfl (by decide) ?_
              refine a_aload_n 67 2 hC dX8_reading_66 rfl rfl rfl ?_
              refine a_get 70 6 2 11 hC inB_X3 rfl rfl (by decide) wq109 rfl rfl dX8_reading_67 rfl ?_
              obtain rfl := Option.some.inj h
              exact a_iret hC hR hpo (Nat.le_of_ble_eq_true rfl) (Nat.le_of_ble_eq_true rfl) dX8_reading_70
            · have h := ifn c7 h
              refine a_tswO 71 hC dX8_reading_31 (by have ec5 := ne_ti c5 (a := 0) (by decide); have ec6 := ne_ti c6 (a := 1) (by decide); have ec7 := ne_ti c7 (a := 2) (by decide); clear h; omega) (by decide) ?_
              refine a_aload_n 72 2 hC dX8_reading_71 rfl rfl rfl ?_
              refine a_get 75 6 2 12 hC inB_X3 rfl rfl (by decide) wq112 rfl rfl dX8_reading_72 rfl ?_
              obtain rfl := Option.some.inj h
              exact a_iret hC hR hpo (Nat.le_of_ble_eq_true rfl) (Nat.le_of_ble_eq_true rfl) dX8_reading_75
      · have h := ifp c4 h
        refine a_bipush 29 (v := (-9 : Int32)) hC dX8_reading_27 rfl (by decide) ?_
        obtain rfl := Option.some.inj h
        exact a_iret hC hR hpo (Nat.le_of_ble_eq_true rfl) (Nat.le_of_ble_eq_true rfl) dX8_reading_29
    · have h := ifn c2 h
      refine a_ldc 19 (v := (-2147483647 : Int32)) hC wq487 dX8_reading_17 rfl ?_
      obtain rfl := Option.some.inj h
      exact a_iret hC hR hpo (Nat.le_of_ble_eq_true rfl) (Nat.le_of_ble_eq_true rfl) dX8_reading_19
theorem c_X8_reading (l : Launch) (D : va_G) (z : ClassId × ClassId × ClassId) (fa a : Nat → Nat) (x1 : Int32) (rate : Int32) (tfirst : Nat → Int32) (tlength : Nat → Int32) (tuser : Nat → Int32) (tsegments : Int32) (twords : Int32) (thead : Int32) (rcell : Int32) (rwaits : Int32) (rbits : Int64) (rheld : Int32) (rreadings : Int32) (rbroken : Int32) (rerrors : Int32) (rjumps : Int32) (rstreak : Int32) (rframe : Int32) (rnumber : Int32) (ruser : Int32) (rcourse : Int32) (wframe : Int32) (wcourse : Int32) (wmissed : Int32) (whold : Int32) (p0 : Int32) (s0 : Int32) (o0 : Int32) (p1 : Int32) (s1 : Int32) (o1 : Int32) (p2 : Int32) (s2 : Int32) (o2 : Int32) (next : Int32) (known : Int32) (P : Nat → Option ((Nat → Nat) × SV)) (Im : Nat → Option ((Nat → Nat) × SV)) (place : Int32) (speed : Int32) (offset : Int32) (sn : Nat → Int32) (sf : Nat → Int32) (seen : Int32) (res : (Int32)) (h : f_X8_reading x1 rreadings rframe rnumber ruser rcourse = some res) : Ct l D z yX8_reading cX8_reading 3 (some .int) rm_X8_reading [.ref (fa 0), .int x1] (fcW z fa a rate tfirst tlength tuser tsegments twords thead rcell rwaits rbits rheld rreadings rbroken rerrors rjumps rstreak rframe rnumber ruser rcourse wframe wcourse wmissed whold p0 s0 o0 p1 s1 o1 p2 s2 o2 next known P Im place speed offset sn sf seen ++ (poW z P Im)) (fun r w => r = (some (.int res)) ∧ w = (fcW z fa a rate tfirst tlength tuser tsegments twords thead rcell rwaits rbits rheld rreadings rbroken rerrors rjumps rstreak rframe rnumber ruser rcourse wframe wcourse wmissed whold p0 s0 o0 p1 s1 o1 p2 s2 o2 next known P Im place speed offset sn sf seen ++ (poW z P Im))) := by
  refine Ct.of (by decide +kernel) (Nat.le_of_ble_eq_true rfl) (fun X hC hl hz hn hR => ?_)
  have hz1 : X.2.2.2.2 = z := by rw [hz]
  subst hz1
  exact t_X8_reading hC fa a x1 rate tfirst tlength tuser tsegments twords thead rcell rwaits rbits rheld rreadings rbroken rerrors rjumps rstreak rframe rnumber ruser rcourse wframe wcourse wmissed whold p0 s0 o0 p1 s1 o1 p2 s2 o2 next known P Im place speed offset sn sf seen res hR ⟨rfl, rfl⟩ h
/-! X8_wheel -/
abbrev rm_X8_wheel : Room := { frames := 1, cells := 0, slots := 0, locals := 20 }
theorem ds_X8_wheel : yX8_wheel.cls ≠ "java/lang/invoke/MethodHandle" ∧ yX8_wheel.cls ≠ "java/lang/invoke/VarHandle" ∧ (parseMethodDescriptor yX8_wheel.desc).map (fun d => d.parameters.length) = some 1 := by decide +kernel
def f_X8_wheel (x1 : Int32) (rstreak : Int32) (wframe : Int32) (wcourse : Int32) (wmissed : Int32) (whold : Int32) : Option ((Int32)) := (if x1 = (0 : Int32) then (some wframe) else (if x1 = (1 : Int32) then (some wcourse) else (if x1 = (2 : Int32) then (some wmissed) else (if x1 = (3 : Int32) then (some whold) else (if x1 = (4 : Int32) then ((f_X3_isLocked rstreak).bind fun r6 => (if r6 = (0 : Int32) then (some (0 : Int32)) else (some (1 : Int32)))) else (some (-2147483647 : Int32)))))))
set_option maxRecDepth 100000 in
set_option maxHeartbeats 4000000 in
theorem t_X8_wheel {X : qX} (hC : Ok X rm_X8_wheel cX8_wheel 3 RX8 (some .int)) (fa a : Nat → Nat) (x1 : Int32) (rate : Int32) (tfirst : Nat → Int32) (tlength : Nat → Int32) (tuser : Nat → Int32) (tsegments : Int32) (twords : Int32) (thead : Int32) (rcell : Int32) (rwaits : Int32) (rbits : Int64) (rheld : Int32) (rreadings : Int32) (rbroken : Int32) (rerrors : Int32) (rjumps : Int32) (rstreak : Int32) (rframe : Int32) (rnumber : Int32) (ruser : Int32) (rcourse : Int32) (wframe : Int32) (wcourse : Int32) (wmissed : Int32) (whold : Int32) (p0 : Int32) (s0 : Int32) (o0 : Int32) (p1 : Int32) (s1 : Int32) (o1 : Int32) (p2 : Int32) (s2 : Int32) (o2 : Int32) (next : Int32) (known : Int32) (P : Nat → Option ((Nat → Nat) × SV)) (Im : Nat → Option ((Nat → Nat) × SV)) (place : Int32) (speed : Int32) (offset : Int32) (sn : Nat → Int32) (sf : Nat → Int32) (seen : Int32) (res : (Int32)) {Po : Option Value → va_W → Prop} (hR : Rt X 0 0 Po) (hpo : Po (some (.int res)) (fcW X.2.2.2.2 fa a rate tfirst tlength tuser tsegments twords thead rcell rwaits rbits rheld rreadings rbroken rerrors rjumps rstreak rframe rnumber ruser rcourse wframe wcourse wmissed whold p0 s0 o0 p1 s1 o1 p2 s2 o2 next known P Im place speed offset sn sf seen ++ (poW X.2.2.2.2 P Im))) (h : f_X8_wheel x1 rstreak wframe wcourse wmissed whold = some res) : At X 0 0 0 (fcW X.2.2.2.2 fa a rate tfirst tlength tuser tsegments twords thead rcell rwaits rbits rheld rreadings rbroken rerrors rjumps rstreak rframe rnumber ruser rcourse wframe wcourse wmissed whold p0 s0 o0 p1 s1 o1 p2 s2 o2 next known P Im place speed offset sn sf seen ++ (poW X.2.2.2.2 P Im)) [(0, .ref (fa 0)), (1, .int x1)] [] := by
  unfold f_X8_wheel at h
  refine a_aload_n 1 0 hC dX8_wheel_0 rfl rfl rfl ?_
  refine a_get 4 0 6 0 hC inB_X8 rfl rfl (by decide) wq231 rfl rfl dX8_wheel_1 rfl ?_
  refine a_get 7 1 3 3 hC inB_X4 rfl rfl (by decide) wq191 rfl rfl dX8_wheel_4 rfl ?_
  refine a_astore_n 8 [(0, .ref (fa 0)), (1, .int x1), (2, .ref (a 6))] [1, 2, 0] hC dX8_wheel_7 rfl rfl (by decide) rfl ?_
  refine a_iload_n 9 1 hC dX8_wheel_8 rfl rfl rfl ?_
  by_cases c1 : x1 = (0 : Int32)
  · have h := ifp c1 h
    refine a_tswI 44 hC dX8_wheel_9 c1 (by decide) (by decide) rfl (by decide) ?_
    refine a_aload_n 45 2 hC dX8_wheel_44 rfl rfl rfl ?_
    refine a_get 48 7 5 0 hC inB_X6 rfl rfl (by decide) wq148 rfl rfl dX8_wheel_45 rfl ?_
    obtain rfl := Option.some.inj h
    exact a_iret hC hR hpo (Nat.le_of_ble_eq_true rfl) (Nat.le_of_ble_eq_true rfl) dX8_wheel_48
  · have h := ifn c1 h
    by_cases c2 : x1 = (1 : Int32)
    · have h := ifp c2 h
      refine a_tswI 49 hC dX8_wheel_9 c2 (by decide) (by decide) rfl (by decide) ?_
      refine a_aload_n 50 2 hC dX8_wheel_49 rfl rfl rfl ?_
      refine a_get 53 7 5 1 hC inB_X6 rfl rfl (by decide) wq150 rfl rfl dX8_wheel_50 rfl ?_
      obtain rfl := Option.some.inj h
      exact a_iret hC hR hpo (Nat.le_of_ble_eq_true rfl) (Nat.le_of_ble_eq_true rfl) dX8_wheel_53
    · have h := ifn c2 h
      by_cases c3 : x1 = (2 : Int32)
      · have h := ifp c3 h
        refine a_tswI 54 hC dX8_wheel_9 c3 (by decide) (by decide) rfl (by decide) ?_
        refine a_aload_n 55 2 hC dX8_wheel_54 rfl rfl rfl ?_
        refine a_get 58 7 5 2 hC inB_X6 rfl rfl (by decide) wq152 rfl rfl dX8_wheel_55 rfl ?_
        obtain rfl := Option.some.inj h
        exact a_iret hC hR hpo (Nat.le_of_ble_eq_true rfl) (Nat.le_of_ble_eq_true rfl) dX8_wheel_58
      · have h := ifn c3 h
        by_cases c4 : x1 = (3 : Int32)
        · have h := ifp c4 h
          refine a_tswI 59 hC dX8_wheel_9 c4 (by decide) (by decide) rfl (by decide) ?_
          refine a_aload_n 60 2 hC dX8_wheel_59 rfl rfl rfl ?_
          refine a_get 63 7 5 3 hC inB_X6 rfl rfl (by decide) wq154 rfl rfl dX8_wheel_60 rfl ?_
          obtain rfl := Option.some.inj h
          exact a_iret hC hR hpo (Nat.le_of_ble_eq_true rfl) (Nat.le_of_ble_eq_true rfl) dX8_wheel_63
        · have h := ifn c4 h
          by_cases c5 : x1 = (4 : Int32)
          · have h := ifp c5 h
            refine a_tswI 64 hC dX8_wheel_9 c5 (by decide) (by decide) rfl (by decide) ?_
            refine a_aload_n 65 0 hC dX8_wheel_64 rfl rfl rfl ?_
            refine a_get 68 0 6 0 hC inB_X8 rfl rfl (by decide) wq231 rfl rfl dX8_wheel_65 rfl ?_
            refine a_get 71 1 3 2 hC inB_X4 rfl rfl (by decide) wq189 rfl rfl dX8_wheel_68 rfl ?_
            obtain ⟨r6, gr6, h⟩ := bd h
            refine a_callVd 74 (fcW X.2.2.2.2 fa a rate tfirst tlength tuser tsegments twords thead rcell rwaits rbits rheld rreadings rbroken rerrors rjumps rstreak rframe rnumber ruser rcourse wframe wcourse wmissed whold p0 s0 o0 p1 s1 o1 p2 s2 o2 next known P Im place speed offset sn sf seen) (poW X.2.2.2.2 P Im) [6] [0, 1, 2, 3, 4, 5, 7, 8, 9, 10, 11, 12, 13, 14, 15, 16] [0, 1, 2, 3, 4, 5, 16, 6, 7, 8, 9, 10, 11, 12, 13, 14, 15] (fcW X.2.2.2.2 fa a rate tfirst tlength tuser tsegments twords thead rcell rwaits rbits rheld rreadings rbroken rerrors rjumps rstreak rframe rnumber ruser rcourse wframe wcourse wmissed whold p0 s0 o0 p1 s1 o1 p2 s2 o2 next known P Im place speed offset sn sf seen) (fcW X.2.2.2.2 fa a rate tfirst tlength tuser tsegments twords thead rcell rwaits rbits rheld rreadings rbroken rerrors rjumps rstreak rframe rnumber ruser rcourse wframe wcourse wmissed whold p0 s0 o0 p1 s1 o1 p2 s2 o2 next known P Im place speed offset sn sf seen ++ (poW X.2.2.2.2 P Im)) 0 2 [] [] (some (.int r6)) (rdW (a 5) rcell rwaits rbits rheld rreadings rbroken rerrors rjumps rstreak rframe rnumber ruser rcourse) [.int r6] hC (c_X3_isLocked X.1.2.1 X.2.2.2.1 X.2.2.2.2 (a 5) rcell rwaits rbits rheld rreadings rbroken rerrors rjumps rstreak rframe rnumber ruser rcourse r6 gr6) ⟨wq510, wq26, wq461, ds_X3_isLocked, by decide, by decide⟩ wq459 wq460 rfl rfl (Nat.le_of_ble_eq_true rfl) dX8_wheel_71 rfl rfl rfl ⟨(Nat.le_of_ble_eq_true rfl), (Nat.le_of_ble_eq_true rfl)⟩ rfl rfl rfl rfl rfl (by decide) rfl rfl rfl rfl rfl rfl ?_
            refine a_if_eq 81 77 hC dX8_wheel_74 (by decide) rfl (fun c7 => ?_) (fun c7 => ?_)
            · have h := ifp c7 h
              refine a_iconst 82 (v := (0 : Int32)) hC dX8_wheel_81 rfl (by decide) ?_
              obtain rfl := Option.some.inj h
              exact a_iret hC hR hpo (Nat.le_of_ble_eq_true rfl) (Nat.le_of_ble_eq_true rfl) dX8_wheel_82
            · have h := ifn c7 h
              refine a_iconst 78 (v := (1 : Int32)) hC dX8_wheel_77 rfl (by decide) ?_
              refine a_goto 82 hC dX8_wheel_78 (by decide) ?_
              obtain rfl := Option.some.inj h
              exact a_iret hC hR hpo (Nat.le_of_ble_eq_true rfl) (Nat.le_of_ble_eq_true rfl) dX8_wheel_82
          · have h := ifn c5 h
            refine a_tswO 83 hC dX8_wheel_9 (by have ec1 := ne_ti c1 (a := 0) (by decide); have ec2 := ne_ti c2 (a := 1) (by decide); have ec3 := ne_ti c3 (a := 2) (by decide); have ec4 := ne_ti c4 (a := 3) (by decide); have ec5 := ne_ti c5 (a := 4) (by decide); clear h; omega) (by decide) ?_
            refine a_ldc 85 (v := (-2147483647 : Int32)) hC wq487 dX8_wheel_83 rfl ?_
            obtain rfl := Option.some.inj h
            exact a_iret hC hR hpo (Nat.le_of_ble_eq_true rfl) (Nat.le_of_ble_eq_true rfl) dX8_wheel_85
theorem c_X8_wheel (l : Launch) (D : va_G) (z : ClassId × ClassId × ClassId) (fa a : Nat → Nat) (x1 : Int32) (rate : Int32) (tfirst : Nat → Int32) (tlength : Nat → Int32) (tuser : Nat → Int32) (tsegments : Int32) (twords : Int32) (thead : Int32) (rcell : Int32) (rwaits : Int32) (rbits : Int64) (rheld : Int32) (rreadings : Int32) (rbroken : Int32) (rerrors : Int32) (rjumps : Int32) (rstreak : Int32) (rframe : Int32) (rnumber : Int32) (ruser : Int32) (rcourse : Int32) (wframe : Int32) (wcourse : Int32) (wmissed : Int32) (whold : Int32) (p0 : Int32) (s0 : Int32) (o0 : Int32) (p1 : Int32) (s1 : Int32) (o1 : Int32) (p2 : Int32) (s2 : Int32) (o2 : Int32) (next : Int32) (known : Int32) (P : Nat → Option ((Nat → Nat) × SV)) (Im : Nat → Option ((Nat → Nat) × SV)) (place : Int32) (speed : Int32) (offset : Int32) (sn : Nat → Int32) (sf : Nat → Int32) (seen : Int32) (res : (Int32)) (h : f_X8_wheel x1 rstreak wframe wcourse wmissed whold = some res) : Ct l D z yX8_wheel cX8_wheel 3 (some .int) rm_X8_wheel [.ref (fa 0), .int x1] (fcW z fa a rate tfirst tlength tuser tsegments twords thead rcell rwaits rbits rheld rreadings rbroken rerrors rjumps rstreak rframe rnumber ruser rcourse wframe wcourse wmissed whold p0 s0 o0 p1 s1 o1 p2 s2 o2 next known P Im place speed offset sn sf seen ++ (poW z P Im)) (fun r w => r = (some (.int res)) ∧ w = (fcW z fa a rate tfirst tlength tuser tsegments twords thead rcell rwaits rbits rheld rreadings rbroken rerrors rjumps rstreak rframe rnumber ruser rcourse wframe wcourse wmissed whold p0 s0 o0 p1 s1 o1 p2 s2 o2 next known P Im place speed offset sn sf seen ++ (poW z P Im))) := by
  refine Ct.of (by decide +kernel) (Nat.le_of_ble_eq_true rfl) (fun X hC hl hz hn hR => ?_)
  have hz1 : X.2.2.2.2 = z := by rw [hz]
  subst hz1
  exact t_X8_wheel hC fa a x1 rate tfirst tlength tuser tsegments twords thead rcell rwaits rbits rheld rreadings rbroken rerrors rjumps rstreak rframe rnumber ruser rcourse wframe wcourse wmissed whold p0 s0 o0 p1 s1 o1 p2 s2 o2 next known P Im place speed offset sn sf seen res hR ⟨rfl, rfl⟩ h
/-! X8_undo -/
abbrev rm_X8_undo : Room := { frames := 6, cells := 0, slots := 0, locals := 173 }
theorem ds_X8_undo : yX8_undo.cls ≠ "java/lang/invoke/MethodHandle" ∧ yX8_undo.cls ≠ "java/lang/invoke/VarHandle" ∧ (parseMethodDescriptor yX8_undo.desc).map (fun d => d.parameters.length) = some 0 := by decide +kernel
def f_X8_undo (rate : Int32) (tfirst : Nat → Int32) (tlength : Nat → Int32) (tuser : Nat → Int32) (tsegments : Int32) (twords : Int32) (thead : Int32) (rcell : Int32) (rwaits : Int32) (rbits : Int64) (rheld : Int32) (rreadings : Int32) (rbroken : Int32) (rerrors : Int32) (rjumps : Int32) (rstreak : Int32) (rframe : Int32) (rnumber : Int32) (ruser : Int32) (rcourse : Int32) (wframe : Int32) (wcourse : Int32) (wmissed : Int32) (whold : Int32) (p0 : Int32) (s0 : Int32) (o0 : Int32) (p1 : Int32) (s1 : Int32) (o1 : Int32) (p2 : Int32) (s2 : Int32) (o2 : Int32) (next : Int32) (known : Int32) (P : Nat → Option SV) : Option ((Int32) × (Int32) × (Nat → Int32) × (Nat → Int32) × (Nat → Int32) × (Int32) × (Int32) × (Int32) × (Int32) × (Int32) × (Int64) × (Int32) × (Int32) × (Int32) × (Int32) × (Int32) × (Int32) × (Int32) × (Int32) × (Int32) × (Int32) × (Int32) × (Int32) × (Int32) × (Int32) × (Int32) × (Int32) × (Int32) × (Int32) × (Int32) × (Int32) × (Int32) × (Int32) × (Int32) × (Int32) × (Int32)) := ((f_X1_takeBack next known P (rate, tfirst, tlength, tuser, tsegments, twords, thead, rcell, rwaits, rbits, rheld, rreadings, rbroken, rerrors, rjumps, rstreak, rframe, rnumber, ruser, rcourse, wframe, wcourse, wmissed, whold, p0, s0, o0, p1, s1, o1, p2, s2, o2)).bind fun r1 => (if r1.1 = (0 : Int32) then (some ((-2 : Int32), r1.2.2.2.1, r1.2.2.2.2.1, r1.2.2.2.2.2.1, r1.2.2.2.2.2.2.1, r1.2.2.2.2.2.2.2.1, r1.2.2.2.2.2.2.2.2.1, r1.2.2.2.2.2.2.2.2.2.1, r1.2.2.2.2.2.2.2.2.2.2.1, r1.2.2.2.2.2.2.2.2.2.2.2.1, r1.2.2.2.2.2.2.2.2.2.2.2.2.1, r1.2.2.2.2.2.2.2.2.2.2.2.2.2.1, r1.2.2.2.2.2.2.2.2.2.2.2.2.2.2.1, r1.2.2.2.2.2.2.2.2.2.2.2.2.2.2.2.1, r1.2.2.2.2.2.2.2.2.2.2.2.2.2.2.2.2.1, r1.2.2.2.2.2.2.2.2.2.2.2.2.2.2.2.2.2.1, r1.2.2.2.2.2.2.2.2.2.2.2.2.2.2.2.2.2.2.1, r1.2.2.2.2.2.2.2.2.2.2.2.2.2.2.2.2.2.2.2.1, r1.2.2.2.2.2.2.2.2.2.2.2.2.2.2.2.2.2.2.2.2.1, r1.2.2.2.2.2.2.2.2.2.2.2.2.2.2.2.2.2.2.2.2.2.1, r1.2.2.2.2.2.2.2.2.2.2.2.2.2.2.2.2.2.2.2.2.2.2.1, r1.2.2.2.2.2.2.2.2.2.2.2.2.2.2.2.2.2.2.2.2.2.2.2.1, r1.2.2.2.2.2.2.2.2.2.2.2.2.2.2.2.2.2.2.2.2.2.2.2.2.1, r1.2.2.2.2.2.2.2.2.2.2.2.2.2.2.2.2.2.2.2.2.2.2.2.2.2.1, r1.2.2.2.2.2.2.2.2.2.2.2.2.2.2.2.2.2.2.2.2.2.2.2.2.2.2.1, r1.2.2.2.2.2.2.2.2.2.2.2.2.2.2.2.2.2.2.2.2.2.2.2.2.2.2.2.1, r1.2.2.2.2.2.2.2.2.2.2.2.2.2.2.2.2.2.2.2.2.2.2.2.2.2.2.2.2.1, r1.2.2.2.2.2.2.2.2.2.2.2.2.2.2.2.2.2.2.2.2.2.2.2.2.2.2.2.2.2.1, r1.2.2.2.2.2.2.2.2.2.2.2.2.2.2.2.2.2.2.2.2.2.2.2.2.2.2.2.2.2.2.1, r1.2.2.2.2.2.2.2.2.2.2.2.2.2.2.2.2.2.2.2.2.2.2.2.2.2.2.2.2.2.2.2.1, r1.2.2.2.2.2.2.2.2.2.2.2.2.2.2.2.2.2.2.2.2.2.2.2.2.2.2.2.2.2.2.2.2.1, r1.2.2.2.2.2.2.2.2.2.2.2.2.2.2.2.2.2.2.2.2.2.2.2.2.2.2.2.2.2.2.2.2.2.1, r1.2.2.2.2.2.2.2.2.2.2.2.2.2.2.2.2.2.2.2.2.2.2.2.2.2.2.2.2.2.2.2.2.2.2.1, r1.2.2.2.2.2.2.2.2.2.2.2.2.2.2.2.2.2.2.2.2.2.2.2.2.2.2.2.2.2.2.2.2.2.2.2, r1.2.1, r1.2.2.1)) else (some (r1.2.2.1, r1.2.2.2.1, r1.2.2.2.2.1, r1.2.2.2.2.2.1, r1.2.2.2.2.2.2.1, r1.2.2.2.2.2.2.2.1, r1.2.2.2.2.2.2.2.2.1, r1.2.2.2.2.2.2.2.2.2.1, r1.2.2.2.2.2.2.2.2.2.2.1, r1.2.2.2.2.2.2.2.2.2.2.2.1, r1.2.2.2.2.2.2.2.2.2.2.2.2.1, r1.2.2.2.2.2.2.2.2.2.2.2.2.2.1, r1.2.2.2.2.2.2.2.2.2.2.2.2.2.2.1, r1.2.2.2.2.2.2.2.2.2.2.2.2.2.2.2.1, r1.2.2.2.2.2.2.2.2.2.2.2.2.2.2.2.2.1, r1.2.2.2.2.2.2.2.2.2.2.2.2.2.2.2.2.2.1, r1.2.2.2.2.2.2.2.2.2.2.2.2.2.2.2.2.2.2.1, r1.2.2.2.2.2.2.2.2.2.2.2.2.2.2.2.2.2.2.2.1, r1.2.2.2.2.2.2.2.2.2.2.2.2.2.2.2.2.2.2.2.2.1, r1.2.2.2.2.2.2.2.2.2.2.2.2.2.2.2.2.2.2.2.2.2.1, r1.2.2.2.2.2.2.2.2.2.2.2.2.2.2.2.2.2.2.2.2.2.2.1, r1.2.2.2.2.2.2.2.2.2.2.2.2.2.2.2.2.2.2.2.2.2.2.2.1, r1.2.2.2.2.2.2.2.2.2.2.2.2.2.2.2.2.2.2.2.2.2.2.2.2.1, r1.2.2.2.2.2.2.2.2.2.2.2.2.2.2.2.2.2.2.2.2.2.2.2.2.2.1, r1.2.2.2.2.2.2.2.2.2.2.2.2.2.2.2.2.2.2.2.2.2.2.2.2.2.2.1, r1.2.2.2.2.2.2.2.2.2.2.2.2.2.2.2.2.2.2.2.2.2.2.2.2.2.2.2.1, r1.2.2.2.2.2.2.2.2.2.2.2.2.2.2.2.2.2.2.2.2.2.2.2.2.2.2.2.2.1, r1.2.2.2.2.2.2.2.2.2.2.2.2.2.2.2.2.2.2.2.2.2.2.2.2.2.2.2.2.2.1, r1.2.2.2.2.2.2.2.2.2.2.2.2.2.2.2.2.2.2.2.2.2.2.2.2.2.2.2.2.2.2.1, r1.2.2.2.2.2.2.2.2.2.2.2.2.2.2.2.2.2.2.2.2.2.2.2.2.2.2.2.2.2.2.2.1, r1.2.2.2.2.2.2.2.2.2.2.2.2.2.2.2.2.2.2.2.2.2.2.2.2.2.2.2.2.2.2.2.2.1, r1.2.2.2.2.2.2.2.2.2.2.2.2.2.2.2.2.2.2.2.2.2.2.2.2.2.2.2.2.2.2.2.2.2.1, r1.2.2.2.2.2.2.2.2.2.2.2.2.2.2.2.2.2.2.2.2.2.2.2.2.2.2.2.2.2.2.2.2.2.2.1, r1.2.2.2.2.2.2.2.2.2.2.2.2.2.2.2.2.2.2.2.2.2.2.2.2.2.2.2.2.2.2.2.2.2.2.2, r1.2.1, r1.2.2.1))))
set_option maxRecDepth 100000 in
set_option maxHeartbeats 4000000 in
theorem t_X8_undo {X : qX} (hC : Ok X rm_X8_undo cX8_undo 1 RX8 (some .int)) (fa a : Nat → Nat) (rate : Int32) (tfirst : Nat → Int32) (tlength : Nat → Int32) (tuser : Nat → Int32) (tsegments : Int32) (twords : Int32) (thead : Int32) (rcell : Int32) (rwaits : Int32) (rbits : Int64) (rheld : Int32) (rreadings : Int32) (rbroken : Int32) (rerrors : Int32) (rjumps : Int32) (rstreak : Int32) (rframe : Int32) (rnumber : Int32) (ruser : Int32) (rcourse : Int32) (wframe : Int32) (wcourse : Int32) (wmissed : Int32) (whold : Int32) (p0 : Int32) (s0 : Int32) (o0 : Int32) (p1 : Int32) (s1 : Int32) (o1 : Int32) (p2 : Int32) (s2 : Int32) (o2 : Int32) (next : Int32) (known : Int32) (P : Nat → Option ((Nat → Nat) × SV)) (Im : Nat → Option ((Nat → Nat) × SV)) (place : Int32) (speed : Int32) (offset : Int32) (sn : Nat → Int32) (sf : Nat → Int32) (seen : Int32) (res : (Int32) × (Int32) × (Nat → Int32) × (Nat → Int32) × (Nat → Int32) × (Int32) × (Int32) × (Int32) × (Int32) × (Int32) × (Int64) × (Int32) × (Int32) × (Int32) × (Int32) × (Int32) × (Int32) × (Int32) × (Int32) × (Int32) × (Int32) × (Int32) × (Int32) × (Int32) × (Int32) × (Int32) × (Int32) × (Int32) × (Int32) × (Int32) × (Int32) × (Int32) × (Int32) × (Int32) × (Int32) × (Int32)) {Po : Option Value → va_W → Prop} (hR : Rt X 0 0 Po) (hpo : Po (some (.int res.1)) (fcW X.2.2.2.2 fa a res.2.1 res.2.2.1 res.2.2.2.1 res.2.2.2.2.1 res.2.2.2.2.2.1 res.2.2.2.2.2.2.1 res.2.2.2.2.2.2.2.1 res.2.2.2.2.2.2.2.2.1 res.2.2.2.2.2.2.2.2.2.1 res.2.2.2.2.2.2.2.2.2.2.1 res.2.2.2.2.2.2.2.2.2.2.2.1 res.2.2.2.2.2.2.2.2.2.2.2.2.1 res.2.2.2.2.2.2.2.2.2.2.2.2.2.1 res.2.2.2.2.2.2.2.2.2.2.2.2.2.2.1 res.2.2.2.2.2.2.2.2.2.2.2.2.2.2.2.1 res.2.2.2.2.2.2.2.2.2.2.2.2.2.2.2.2.1 res.2.2.2.2.2.2.2.2.2.2.2.2.2.2.2.2.2.1 res.2.2.2.2.2.2.2.2.2.2.2.2.2.2.2.2.2.2.1 res.2.2.2.2.2.2.2.2.2.2.2.2.2.2.2.2.2.2.2.1 res.2.2.2.2.2.2.2.2.2.2.2.2.2.2.2.2.2.2.2.2.1 res.2.2.2.2.2.2.2.2.2.2.2.2.2.2.2.2.2.2.2.2.2.1 res.2.2.2.2.2.2.2.2.2.2.2.2.2.2.2.2.2.2.2.2.2.2.1 res.2.2.2.2.2.2.2.2.2.2.2.2.2.2.2.2.2.2.2.2.2.2.2.1 res.2.2.2.2.2.2.2.2.2.2.2.2.2.2.2.2.2.2.2.2.2.2.2.2.1 res.2.2.2.2.2.2.2.2.2.2.2.2.2.2.2.2.2.2.2.2.2.2.2.2.2.1 res.2.2.2.2.2.2.2.2.2.2.2.2.2.2.2.2.2.2.2.2.2.2.2.2.2.2.1 res.2.2.2.2.2.2.2.2.2.2.2.2.2.2.2.2.2.2.2.2.2.2.2.2.2.2.2.1 res.2.2.2.2.2.2.2.2.2.2.2.2.2.2.2.2.2.2.2.2.2.2.2.2.2.2.2.2.1 res.2.2.2.2.2.2.2.2.2.2.2.2.2.2.2.2.2.2.2.2.2.2.2.2.2.2.2.2.2.1 res.2.2.2.2.2.2.2.2.2.2.2.2.2.2.2.2.2.2.2.2.2.2.2.2.2.2.2.2.2.2.1 res.2.2.2.2.2.2.2.2.2.2.2.2.2.2.2.2.2.2.2.2.2.2.2.2.2.2.2.2.2.2.2.1 res.2.2.2.2.2.2.2.2.2.2.2.2.2.2.2.2.2.2.2.2.2.2.2.2.2.2.2.2.2.2.2.2.1 res.2.2.2.2.2.2.2.2.2.2.2.2.2.2.2.2.2.2.2.2.2.2.2.2.2.2.2.2.2.2.2.2.2.1 res.2.2.2.2.2.2.2.2.2.2.2.2.2.2.2.2.2.2.2.2.2.2.2.2.2.2.2.2.2.2.2.2.2.2.1 res.2.2.2.2.2.2.2.2.2.2.2.2.2.2.2.2.2.2.2.2.2.2.2.2.2.2.2.2.2.2.2.2.2.2.2 P Im place speed offset sn sf seen ++ (poW X.2.2.2.2 P Im))) (h : f_X8_undo rate tfirst tlength tuser tsegments twords thead rcell rwaits rbits rheld rreadings rbroken rerrors rjumps rstreak rframe rnumber ruser rcourse wframe wcourse wmissed whold p0 s0 o0 p1 s1 o1 p2 s2 o2 next known (pv P) = some res) : At X 0 0 0 (fcW X.2.2.2.2 fa a rate tfirst tlength tuser tsegments twords thead rcell rwaits rbits rheld rreadings rbroken rerrors rjumps rstreak rframe rnumber ruser rcourse wframe wcourse wmissed whold p0 s0 o0 p1 s1 o1 p2 s2 o2 next known P Im place speed offset sn sf seen ++ (poW X.2.2.2.2 P Im)) [(0, .ref (fa 0))] [] := by
  unfold f_X8_undo at h
  refine a_aload_n 1 0 hC dX8_undo_0 rfl rfl rfl ?_
  refine a_get 4 0 6 1 hC inB_X8 rfl rfl (by decide) wq232 rfl rfl dX8_undo_1 rfl ?_
  refine a_aload_n 5 0 hC dX8_undo_4 rfl rfl rfl ?_
  refine a_get 8 0 6 0 hC inB_X8 rfl rfl (by decide) wq231 rfl rfl dX8_undo_5 rfl ?_
  obtain ⟨r1, gr1, h⟩ := bd h
  refine a_callVP 11 (frW X.2.2.2.2 fa a Im place speed offset sn sf seen) 0 1 [.ref (a 0)] [] hC (c_X1_takeBack X.1.2.1 X.2.2.2.1 X.2.2.2.2 (fa 1) (fa 2) a rate tfirst tlength tuser tsegments twords thead rcell rwaits rbits rheld rreadings rbroken rerrors rjumps rstreak rframe rnumber ruser rcourse wframe wcourse wmissed whold p0 s0 o0 p1 s1 o1 p2 s2 o2 next known P r1 gr1) ⟨wq561, wq29, wq564, ds_X1_takeBack, by decide, by decide⟩ wq562 wq563 rfl rfl (Nat.le_of_ble_eq_true rfl) dX8_undo_8 rfl ⟨(Nat.le_of_ble_eq_true rfl), (Nat.le_of_ble_eq_true rfl)⟩ fc_split rfl rfl (fun r w hq => ?_)
  obtain ⟨rfl, hw⟩ := hq
  refine a_perm (fcW X.2.2.2.2 fa a r1.2.2.2.1 r1.2.2.2.2.1 r1.2.2.2.2.2.1 r1.2.2.2.2.2.2.1 r1.2.2.2.2.2.2.2.1 r1.2.2.2.2.2.2.2.2.1 r1.2.2.2.2.2.2.2.2.2.1 r1.2.2.2.2.2.2.2.2.2.2.1 r1.2.2.2.2.2.2.2.2.2.2.2.1 r1.2.2.2.2.2.2.2.2.2.2.2.2.1 r1.2.2.2.2.2.2.2.2.2.2.2.2.2.1 r1.2.2.2.2.2.2.2.2.2.2.2.2.2.2.1 r1.2.2.2.2.2.2.2.2.2.2.2.2.2.2.2.1 r1.2.2.2.2.2.2.2.2.2.2.2.2.2.2.2.2.1 r1.2.2.2.2.2.2.2.2.2.2.2.2.2.2.2.2.2.1 r1.2.2.2.2.2.2.2.2.2.2.2.2.2.2.2.2.2.2.1 r1.2.2.2.2.2.2.2.2.2.2.2.2.2.2.2.2.2.2.2.1 r1.2.2.2.2.2.2.2.2.2.2.2.2.2.2.2.2.2.2.2.2.1 r1.2.2.2.2.2.2.2.2.2.2.2.2.2.2.2.2.2.2.2.2.2.1 r1.2.2.2.2.2.2.2.2.2.2.2.2.2.2.2.2.2.2.2.2.2.2.1 r1.2.2.2.2.2.2.2.2.2.2.2.2.2.2.2.2.2.2.2.2.2.2.2.1 r1.2.2.2.2.2.2.2.2.2.2.2.2.2.2.2.2.2.2.2.2.2.2.2.2.1 r1.2.2.2.2.2.2.2.2.2.2.2.2.2.2.2.2.2.2.2.2.2.2.2.2.2.1 r1.2.2.2.2.2.2.2.2.2.2.2.2.2.2.2.2.2.2.2.2.2.2.2.2.2.2.1 r1.2.2.2.2.2.2.2.2.2.2.2.2.2.2.2.2.2.2.2.2.2.2.2.2.2.2.2.1 r1.2.2.2.2.2.2.2.2.2.2.2.2.2.2.2.2.2.2.2.2.2.2.2.2.2.2.2.2.1 r1.2.2.2.2.2.2.2.2.2.2.2.2.2.2.2.2.2.2.2.2.2.2.2.2.2.2.2.2.2.1 r1.2.2.2.2.2.2.2.2.2.2.2.2.2.2.2.2.2.2.2.2.2.2.2.2.2.2.2.2.2.2.1 r1.2.2.2.2.2.2.2.2.2.2.2.2.2.2.2.2.2.2.2.2.2.2.2.2.2.2.2.2.2.2.2.1 r1.2.2.2.2.2.2.2.2.2.2.2.2.2.2.2.2.2.2.2.2.2.2.2.2.2.2.2.2.2.2.2.2.1 r1.2.2.2.2.2.2.2.2.2.2.2.2.2.2.2.2.2.2.2.2.2.2.2.2.2.2.2.2.2.2.2.2.2.1 r1.2.2.2.2.2.2.2.2.2.2.2.2.2.2.2.2.2.2.2.2.2.2.2.2.2.2.2.2.2.2.2.2.2.2.1 r1.2.2.2.2.2.2.2.2.2.2.2.2.2.2.2.2.2.2.2.2.2.2.2.2.2.2.2.2.2.2.2.2.2.2.2 r1.2.1 r1.2.2.1 P Im place speed offset sn sf seen ++ (poW X.2.2.2.2 P Im)) ((hw.append_right _).trans fc_split.symm) ?_
  refine a_kn 0 0 rfl rfl ?_
  refine a_st [.int r1.1] rfl ?_
  refine a_if_eq 24 14 hC dX8_undo_11 (by decide) rfl (fun c2 => ?_) (fun c2 => ?_)
  · have h := ifp c2 h
    refine a_bipush 26 (v := (-2 : Int32)) hC dX8_undo_24 rfl (by decide) ?_
    obtain rfl := Option.some.inj h
    exact a_iret hC hR hpo (Nat.le_of_ble_eq_true rfl) (Nat.le_of_ble_eq_true rfl) dX8_undo_26
  · have h := ifn c2 h
    refine a_aload_n 15 0 hC dX8_undo_14 rfl rfl rfl ?_
    refine a_get 18 0 6 1 hC inB_X8 rfl rfl (by decide) wq232 rfl rfl dX8_undo_15 rfl ?_
    refine a_get 21 11 1 2 hC inB_X1 rfl rfl (by decide) wq221 rfl rfl dX8_undo_18 rfl ?_
    refine a_goto 26 hC dX8_undo_21 (by decide) ?_
    obtain rfl := Option.some.inj h
    exact a_iret hC hR hpo (Nat.le_of_ble_eq_true rfl) (Nat.le_of_ble_eq_true rfl) dX8_undo_26
theorem c_X8_undo (l : Launch) (D : va_G) (z : ClassId × ClassId × ClassId) (fa a : Nat → Nat) (rate : Int32) (tfirst : Nat → Int32) (tlength : Nat → Int32) (tuser : Nat → Int32) (tsegments : Int32) (twords : Int32) (thead : Int32) (rcell : Int32) (rwaits : Int32) (rbits : Int64) (rheld : Int32) (rreadings : Int32) (rbroken : Int32) (rerrors : Int32) (rjumps : Int32) (rstreak : Int32) (rframe : Int32) (rnumber : Int32) (ruser : Int32) (rcourse : Int32) (wframe : Int32) (wcourse : Int32) (wmissed : Int32) (whold : Int32) (p0 : Int32) (s0 : Int32) (o0 : Int32) (p1 : Int32) (s1 : Int32) (o1 : Int32) (p2 : Int32) (s2 : Int32) (o2 : Int32) (next : Int32) (known : Int32) (P : Nat → Option ((Nat → Nat) × SV)) (Im : Nat → Option ((Nat → Nat) × SV)) (place : Int32) (speed : Int32) (offset : Int32) (sn : Nat → Int32) (sf : Nat → Int32) (seen : Int32) (res : (Int32) × (Int32) × (Nat → Int32) × (Nat → Int32) × (Nat → Int32) × (Int32) × (Int32) × (Int32) × (Int32) × (Int32) × (Int64) × (Int32) × (Int32) × (Int32) × (Int32) × (Int32) × (Int32) × (Int32) × (Int32) × (Int32) × (Int32) × (Int32) × (Int32) × (Int32) × (Int32) × (Int32) × (Int32) × (Int32) × (Int32) × (Int32) × (Int32) × (Int32) × (Int32) × (Int32) × (Int32) × (Int32)) (h : f_X8_undo rate tfirst tlength tuser tsegments twords thead rcell rwaits rbits rheld rreadings rbroken rerrors rjumps rstreak rframe rnumber ruser rcourse wframe wcourse wmissed whold p0 s0 o0 p1 s1 o1 p2 s2 o2 next known (pv P) = some res) : Ct l D z yX8_undo cX8_undo 1 (some .int) rm_X8_undo [.ref (fa 0)] (fcW z fa a rate tfirst tlength tuser tsegments twords thead rcell rwaits rbits rheld rreadings rbroken rerrors rjumps rstreak rframe rnumber ruser rcourse wframe wcourse wmissed whold p0 s0 o0 p1 s1 o1 p2 s2 o2 next known P Im place speed offset sn sf seen ++ (poW z P Im)) (fun r w => r = (some (.int res.1)) ∧ w = (fcW z fa a res.2.1 res.2.2.1 res.2.2.2.1 res.2.2.2.2.1 res.2.2.2.2.2.1 res.2.2.2.2.2.2.1 res.2.2.2.2.2.2.2.1 res.2.2.2.2.2.2.2.2.1 res.2.2.2.2.2.2.2.2.2.1 res.2.2.2.2.2.2.2.2.2.2.1 res.2.2.2.2.2.2.2.2.2.2.2.1 res.2.2.2.2.2.2.2.2.2.2.2.2.1 res.2.2.2.2.2.2.2.2.2.2.2.2.2.1 res.2.2.2.2.2.2.2.2.2.2.2.2.2.2.1 res.2.2.2.2.2.2.2.2.2.2.2.2.2.2.2.1 res.2.2.2.2.2.2.2.2.2.2.2.2.2.2.2.2.1 res.2.2.2.2.2.2.2.2.2.2.2.2.2.2.2.2.2.1 res.2.2.2.2.2.2.2.2.2.2.2.2.2.2.2.2.2.2.1 res.2.2.2.2.2.2.2.2.2.2.2.2.2.2.2.2.2.2.2.1 res.2.2.2.2.2.2.2.2.2.2.2.2.2.2.2.2.2.2.2.2.1 res.2.2.2.2.2.2.2.2.2.2.2.2.2.2.2.2.2.2.2.2.2.1 res.2.2.2.2.2.2.2.2.2.2.2.2.2.2.2.2.2.2.2.2.2.2.1 res.2.2.2.2.2.2.2.2.2.2.2.2.2.2.2.2.2.2.2.2.2.2.2.1 res.2.2.2.2.2.2.2.2.2.2.2.2.2.2.2.2.2.2.2.2.2.2.2.2.1 res.2.2.2.2.2.2.2.2.2.2.2.2.2.2.2.2.2.2.2.2.2.2.2.2.2.1 res.2.2.2.2.2.2.2.2.2.2.2.2.2.2.2.2.2.2.2.2.2.2.2.2.2.2.1 res.2.2.2.2.2.2.2.2.2.2.2.2.2.2.2.2.2.2.2.2.2.2.2.2.2.2.2.1 res.2.2.2.2.2.2.2.2.2.2.2.2.2.2.2.2.2.2.2.2.2.2.2.2.2.2.2.2.1 res.2.2.2.2.2.2.2.2.2.2.2.2.2.2.2.2.2.2.2.2.2.2.2.2.2.2.2.2.2.1 res.2.2.2.2.2.2.2.2.2.2.2.2.2.2.2.2.2.2.2.2.2.2.2.2.2.2.2.2.2.2.1 res.2.2.2.2.2.2.2.2.2.2.2.2.2.2.2.2.2.2.2.2.2.2.2.2.2.2.2.2.2.2.2.1 res.2.2.2.2.2.2.2.2.2.2.2.2.2.2.2.2.2.2.2.2.2.2.2.2.2.2.2.2.2.2.2.2.1 res.2.2.2.2.2.2.2.2.2.2.2.2.2.2.2.2.2.2.2.2.2.2.2.2.2.2.2.2.2.2.2.2.2.1 res.2.2.2.2.2.2.2.2.2.2.2.2.2.2.2.2.2.2.2.2.2.2.2.2.2.2.2.2.2.2.2.2.2.2.1 res.2.2.2.2.2.2.2.2.2.2.2.2.2.2.2.2.2.2.2.2.2.2.2.2.2.2.2.2.2.2.2.2.2.2.2 P Im place speed offset sn sf seen ++ (poW z P Im))) := by
  refine Ct.of (by decide +kernel) (Nat.le_of_ble_eq_true rfl) (fun X hC hl hz hn hR => ?_)
  have hz1 : X.2.2.2.2 = z := by rw [hz]
  subst hz1
  exact t_X8_undo hC fa a rate tfirst tlength tuser tsegments twords thead rcell rwaits rbits rheld rreadings rbroken rerrors rjumps rstreak rframe rnumber ruser rcourse wframe wcourse wmissed whold p0 s0 o0 p1 s1 o1 p2 s2 o2 next known P Im place speed offset sn sf seen res hR ⟨rfl, rfl⟩ h
/-! X8_sees -/
abbrev rm_X8_sees : Room := { frames := 1, cells := 0, slots := 0, locals := 20 }
theorem ds_X8_sees : yX8_sees.cls ≠ "java/lang/invoke/MethodHandle" ∧ yX8_sees.cls ≠ "java/lang/invoke/VarHandle" ∧ (parseMethodDescriptor yX8_sees.desc).map (fun d => d.parameters.length) = some 2 := by decide +kernel
def f_X8_sees_19 (x1 : Int32) (x2 : Int32) (sn : Nat → Int32) (sf : Nat → Int32) (seen : Int32) : Option ((Int32) × (Nat → Int32) × (Nat → Int32) × (Int32)) := (if seen < (0 : Int32) then (some ((-3 : Int32), sn, sf, seen)) else (if seen < (6 : Int32) then (gd seen 6 (nm (upd sn (Int32.toNatClampNeg seen) x1) fun snq6 => (gd seen 6 (nm (upd sf (Int32.toNatClampNeg seen) x2) fun sfq8 => (nm (seen + (1 : Int32)) fun v10 => (some (v10, snq6, sfq8, v10))))))) else (some ((-3 : Int32), sn, sf, seen))))
set_option maxRecDepth 100000 in
set_option maxHeartbeats 4000000 in
theorem t_X8_sees_19 {X : qX} (hC : Ok X rm_X8_sees cX8_sees 3 RX8 (some .int)) (fa a : Nat → Nat) (x1 : Int32) (x2 : Int32) (rate : Int32) (tfirst : Nat → Int32) (tlength : Nat → Int32) (tuser : Nat → Int32) (tsegments : Int32) (twords : Int32) (thead : Int32) (rcell : Int32) (rwaits : Int32) (rbits : Int64) (rheld : Int32) (rreadings : Int32) (rbroken : Int32) (rerrors : Int32) (rjumps : Int32) (rstreak : Int32) (rframe : Int32) (rnumber : Int32) (ruser : Int32) (rcourse : Int32) (wframe : Int32) (wcourse : Int32) (wmissed : Int32) (whold : Int32) (p0 : Int32) (s0 : Int32) (o0 : Int32) (p1 : Int32) (s1 : Int32) (o1 : Int32) (p2 : Int32) (s2 : Int32) (o2 : Int32) (next : Int32) (known : Int32) (P : Nat → Option ((Nat → Nat) × SV)) (Im : Nat → Option ((Nat → Nat) × SV)) (place : Int32) (speed : Int32) (offset : Int32) (sn : Nat → Int32) (sf : Nat → Int32) (seen : Int32) (res : (Int32) × (Nat → Int32) × (Nat → Int32) × (Int32)) {Po : Option Value → va_W → Prop} (hR : Rt X 0 0 Po) (hpo : Po (some (.int res.1)) (fcW X.2.2.2.2 fa a rate tfirst tlength tuser tsegments twords thead rcell rwaits rbits rheld rreadings rbroken rerrors rjumps rstreak rframe rnumber ruser rcourse wframe wcourse wmissed whold p0 s0 o0 p1 s1 o1 p2 s2 o2 next known P Im place speed offset res.2.1 res.2.2.1 res.2.2.2 ++ (poW X.2.2.2.2 P Im))) (h : f_X8_sees_19 x1 x2 sn sf seen = some res) : At X 0 0 19 (fcW X.2.2.2.2 fa a rate tfirst tlength tuser tsegments twords thead rcell rwaits rbits rheld rreadings rbroken rerrors rjumps rstreak rframe rnumber ruser rcourse wframe wcourse wmissed whold p0 s0 o0 p1 s1 o1 p2 s2 o2 next known P Im place speed offset sn sf seen ++ (poW X.2.2.2.2 P Im)) [(0, .ref (fa 0)), (1, .int x1), (2, .int x2)] [] := by
  unfold f_X8_sees_19 at h
  refine a_aload_n 20 0 hC dX8_sees_19 rfl rfl rfl ?_
  refine a_get 23 0 6 6 hC inB_X8 rfl rfl (by decide) wq237 rfl rfl dX8_sees_20 rfl ?_
  refine a_if_lt 35 26 hC dX8_sees_23 (by decide) rfl (fun c4 => ?_) (fun c4 => ?_)
  · have h := ifp c4 h
    refine a_bipush 37 (v := (-3 : Int32)) hC dX8_sees_35 rfl (by decide) ?_
    obtain rfl := Option.some.inj h
    exact a_iret hC hR hpo (Nat.le_of_ble_eq_true rfl) (Nat.le_of_ble_eq_true rfl) dX8_sees_37
  · have h := ifn c4 h
    refine a_aload_n 27 0 hC dX8_sees_26 rfl rfl rfl ?_
    refine a_get 30 0 6 6 hC inB_X8 rfl rfl (by decide) wq237 rfl rfl dX8_sees_27 rfl ?_
    refine a_bipush 32 (v := (6 : Int32)) hC dX8_sees_30 rfl (by decide) ?_
    refine a_icmp_lt 38 35 hC dX8_sees_32 (by decide) rfl (fun c5 => ?_) (fun c5 => ?_)
    · have h := ifp c5 h
      refine a_aload_n 39 0 hC dX8_sees_38 rfl rfl rfl ?_
      refine a_get 42 0 6 4 hC inB_X8 rfl rfl (by decide) wq235 rfl rfl dX8_sees_39 rfl ?_
      refine a_aload_n 43 0 hC dX8_sees_42 rfl rfl rfl ?_
      refine a_get 46 0 6 6 hC inB_X8 rfl rfl (by decide) wq237 rfl rfl dX8_sees_43 rfl ?_
      refine a_iload_n 47 1 hC dX8_sees_46 rfl rfl rfl ?_
      obtain ⟨n7, h⟩ := gdx h
      obtain ⟨snq6, esnq6, h⟩ := nmx h
      refine a_iast 48 15 (fcW X.2.2.2.2 fa a rate tfirst tlength tuser tsegments twords thead rcell rwaits rbits rheld rreadings rbroken rerrors rjumps rstreak rframe rnumber ruser rcourse wframe wcourse wmissed whold p0 s0 o0 p1 s1 o1 p2 s2 o2 next known P Im place speed offset snq6 sf seen ++ (poW X.2.2.2.2 P Im)) hC rfl n7 dX8_sees_47 rfl (by rw [esnq6]; rfl) ?_
      refine a_aload_n 49 0 hC dX8_sees_48 rfl rfl rfl ?_
      refine a_get 52 0 6 5 hC inB_X8 rfl rfl (by decide) wq236 rfl rfl dX8_sees_49 rfl ?_
      refine a_aload_n 53 0 hC dX8_sees_52 rfl rfl rfl ?_
      refine a_get 56 0 6 6 hC inB_X8 rfl rfl (by decide) wq237 rfl rfl dX8_sees_53 rfl ?_
      refine a_iload_n 57 2 hC dX8_sees_56 rfl rfl rfl ?_
      obtain ⟨n9, h⟩ := gdx h
      obtain ⟨sfq8, esfq8, h⟩ := nmx h
      refine a_iast 58 16 (fcW X.2.2.2.2 fa a rate tfirst tlength tuser tsegments twords thead rcell rwaits rbits rheld rreadings rbroken rerrors rjumps rstreak rframe rnumber ruser rcourse wframe wcourse wmissed whold p0 s0 o0 p1 s1 o1 p2 s2 o2 next known P Im place speed offset snq6 sfq8 seen ++ (poW X.2.2.2.2 P Im)) hC rfl n9 dX8_sees_57 rfl (by rw [esfq8]; rfl) ?_
      refine a_aload_n 59 0 hC dX8_sees_58 rfl rfl rfl ?_
      refine a_dup 60 hC dX8_sees_59 rfl rfl ?_
      refine a_get 63 0 6 6 hC inB_X8 rfl rfl (by decide) wq237 rfl rfl dX8_sees_60 rfl ?_
      refine a_iconst 64 (v := (1 : Int32)) hC dX8_sees_63 rfl (by decide) ?_
      refine a_iadd 65 hC dX8_sees_64 rfl ?_
      obtain ⟨v10, ev10, h⟩ := nmx h
      refine a_nm ev10 ?_
      refine a_put 68 0 6 6 (fcW X.2.2.2.2 fa a rate tfirst tlength tuser tsegments twords thead rcell rwaits rbits rheld rreadings rbroken rerrors rjumps rstreak rframe rnumber ruser rcourse wframe wcourse wmissed whold p0 s0 o0 p1 s1 o1 p2 s2 o2 next known P Im place speed offset snq6 sfq8 v10 ++ (poW X.2.2.2.2 P Im)) tyX8 hC inB_X8 tyX8_ok nmX8 rfl rfl (by decide) wq237 rfl rfl rfl rfl rfl (Nat.le_of_ble_eq_true rfl) dX8_sees_65 rfl rfl ?_
      refine a_aload_n 69 0 hC dX8_sees_68 rfl rfl rfl ?_
      refine a_get 72 0 6 6 hC inB_X8 rfl rfl (by decide) wq237 rfl rfl dX8_sees_69 rfl ?_
      obtain rfl := Option.some.inj h
      exact a_iret hC hR hpo (Nat.le_of_ble_eq_true rfl) (Nat.le_of_ble_eq_true rfl) dX8_sees_72
    · have h := ifn c5 h
      refine a_bipush 37 (v := (-3 : Int32)) hC dX8_sees_35 rfl (by decide) ?_
      obtain rfl := Option.some.inj h
      exact a_iret hC hR hpo (Nat.le_of_ble_eq_true rfl) (Nat.le_of_ble_eq_true rfl) dX8_sees_37
def f_X8_sees (x1 : Int32) (x2 : Int32) (sn : Nat → Int32) (sf : Nat → Int32) (seen : Int32) : Option ((Int32) × (Nat → Int32) × (Nat → Int32) × (Int32)) := ((f_X8_isNumber x1).bind fun r1 => (if r1 = (0 : Int32) then (some ((-1 : Int32), sn, sf, seen)) else (if (0 : Int32) ≤ x2 then (f_X8_sees_19 x1 x2 sn sf seen) else (if x2 = (-9 : Int32) then (f_X8_sees_19 x1 x2 sn sf seen) else (some ((-1 : Int32), sn, sf, seen))))))
set_option maxRecDepth 100000 in
set_option maxHeartbeats 4000000 in
theorem t_X8_sees {X : qX} (hC : Ok X rm_X8_sees cX8_sees 3 RX8 (some .int)) (fa a : Nat → Nat) (x1 : Int32) (x2 : Int32) (rate : Int32) (tfirst : Nat → Int32) (tlength : Nat → Int32) (tuser : Nat → Int32) (tsegments : Int32) (twords : Int32) (thead : Int32) (rcell : Int32) (rwaits : Int32) (rbits : Int64) (rheld : Int32) (rreadings : Int32) (rbroken : Int32) (rerrors : Int32) (rjumps : Int32) (rstreak : Int32) (rframe : Int32) (rnumber : Int32) (ruser : Int32) (rcourse : Int32) (wframe : Int32) (wcourse : Int32) (wmissed : Int32) (whold : Int32) (p0 : Int32) (s0 : Int32) (o0 : Int32) (p1 : Int32) (s1 : Int32) (o1 : Int32) (p2 : Int32) (s2 : Int32) (o2 : Int32) (next : Int32) (known : Int32) (P : Nat → Option ((Nat → Nat) × SV)) (Im : Nat → Option ((Nat → Nat) × SV)) (place : Int32) (speed : Int32) (offset : Int32) (sn : Nat → Int32) (sf : Nat → Int32) (seen : Int32) (res : (Int32) × (Nat → Int32) × (Nat → Int32) × (Int32)) {Po : Option Value → va_W → Prop} (hR : Rt X 0 0 Po) (hpo : Po (some (.int res.1)) (fcW X.2.2.2.2 fa a rate tfirst tlength tuser tsegments twords thead rcell rwaits rbits rheld rreadings rbroken rerrors rjumps rstreak rframe rnumber ruser rcourse wframe wcourse wmissed whold p0 s0 o0 p1 s1 o1 p2 s2 o2 next known P Im place speed offset res.2.1 res.2.2.1 res.2.2.2 ++ (poW X.2.2.2.2 P Im))) (h : f_X8_sees x1 x2 sn sf seen = some res) : At X 0 0 0 (fcW X.2.2.2.2 fa a rate tfirst tlength tuser tsegments twords thead rcell rwaits rbits rheld rreadings rbroken rerrors rjumps rstreak rframe rnumber ruser rcourse wframe wcourse wmissed whold p0 s0 o0 p1 s1 o1 p2 s2 o2 next known P Im place speed offset sn sf seen ++ (poW X.2.2.2.2 P Im)) [(0, .ref (fa 0)), (1, .int x1), (2, .int x2)] [] := by
  unfold f_X8_sees at h
  refine a_iload_n 1 1 hC dX8_sees_0 rfl rfl rfl ?_
  obtain ⟨r1, gr1, h⟩ := bd h
  refine a_call0 4 [.int x1] [] (.int r1) hC (c_X8_isNumber X.1.2.1 X.2.2.2.1 X.2.2.2.2 x1 r1 gr1) ⟨wq335, wq23, wq337, ds_X8_isNumber, by decide, by decide⟩ wq336 rfl rfl (Nat.le_of_ble_eq_true rfl) dX8_sees_1 rfl rfl rfl ⟨(Nat.le_of_ble_eq_true rfl), (Nat.le_of_ble_eq_true rfl)⟩ ?_
  refine a_if_eq 17 7 hC dX8_sees_4 (by decide) rfl (fun c2 => ?_) (fun c2 => ?_)
  · have h := ifp c2 h
    refine a_iconst 18 (v := (-1 : Int32)) hC dX8_sees_17 rfl (by decide) ?_
    obtain rfl := Option.some.inj h
    exact a_iret hC hR hpo (Nat.le_of_ble_eq_true rfl) (Nat.le_of_ble_eq_true rfl) dX8_sees_18
  · have h := ifn c2 h
    refine a_iload_n 8 2 hC dX8_sees_7 rfl rfl rfl ?_
    refine a_if_ge 19 11 hC dX8_sees_8 (by decide) rfl (fun c3 => ?_) (fun c3 => ?_)
    · have h := ifp c3 h
      exact t_X8_sees_19 hC fa a x1 x2 rate tfirst tlength tuser tsegments twords thead rcell rwaits rbits rheld rreadings rbroken rerrors rjumps rstreak rframe rnumber ruser rcourse wframe wcourse wmissed whold p0 s0 o0 p1 s1 o1 p2 s2 o2 next known P Im place speed offset sn sf seen res hR hpo h
    · have h := ifn c3 h
      refine a_iload_n 12 2 hC dX8_sees_11 rfl rfl rfl ?_
      refine a_bipush 14 (v := (-9 : Int32)) hC dX8_sees_12 rfl (by decide) ?_
      refine a_icmp_eq 19 17 hC dX8_sees_14 (by decide) rfl (fun c11 => ?_) (fun c11 => ?_)
      · have h := ifp c11 h
        exact t_X8_sees_19 hC fa a x1 x2 rate tfirst tlength tuser tsegments twords thead rcell rwaits rbits rheld rreadings rbroken rerrors rjumps rstreak rframe rnumber ruser rcourse wframe wcourse wmissed whold p0 s0 o0 p1 s1 o1 p2 s2 o2 next known P Im place speed offset sn sf seen res hR hpo h
      · have h := ifn c11 h
        refine a_iconst 18 (v := (-1 : Int32)) hC dX8_sees_17 rfl (by decide) ?_
        obtain rfl := Option.some.inj h
        exact a_iret hC hR hpo (Nat.le_of_ble_eq_true rfl) (Nat.le_of_ble_eq_true rfl) dX8_sees_18
theorem c_X8_sees (l : Launch) (D : va_G) (z : ClassId × ClassId × ClassId) (fa a : Nat → Nat) (x1 : Int32) (x2 : Int32) (rate : Int32) (tfirst : Nat → Int32) (tlength : Nat → Int32) (tuser : Nat → Int32) (tsegments : Int32) (twords : Int32) (thead : Int32) (rcell : Int32) (rwaits : Int32) (rbits : Int64) (rheld : Int32) (rreadings : Int32) (rbroken : Int32) (rerrors : Int32) (rjumps : Int32) (rstreak : Int32) (rframe : Int32) (rnumber : Int32) (ruser : Int32) (rcourse : Int32) (wframe : Int32) (wcourse : Int32) (wmissed : Int32) (whold : Int32) (p0 : Int32) (s0 : Int32) (o0 : Int32) (p1 : Int32) (s1 : Int32) (o1 : Int32) (p2 : Int32) (s2 : Int32) (o2 : Int32) (next : Int32) (known : Int32) (P : Nat → Option ((Nat → Nat) × SV)) (Im : Nat → Option ((Nat → Nat) × SV)) (place : Int32) (speed : Int32) (offset : Int32) (sn : Nat → Int32) (sf : Nat → Int32) (seen : Int32) (res : (Int32) × (Nat → Int32) × (Nat → Int32) × (Int32)) (h : f_X8_sees x1 x2 sn sf seen = some res) : Ct l D z yX8_sees cX8_sees 3 (some .int) rm_X8_sees [.ref (fa 0), .int x1, .int x2] (fcW z fa a rate tfirst tlength tuser tsegments twords thead rcell rwaits rbits rheld rreadings rbroken rerrors rjumps rstreak rframe rnumber ruser rcourse wframe wcourse wmissed whold p0 s0 o0 p1 s1 o1 p2 s2 o2 next known P Im place speed offset sn sf seen ++ (poW z P Im)) (fun r w => r = (some (.int res.1)) ∧ w = (fcW z fa a rate tfirst tlength tuser tsegments twords thead rcell rwaits rbits rheld rreadings rbroken rerrors rjumps rstreak rframe rnumber ruser rcourse wframe wcourse wmissed whold p0 s0 o0 p1 s1 o1 p2 s2 o2 next known P Im place speed offset res.2.1 res.2.2.1 res.2.2.2 ++ (poW z P Im))) := by
  refine Ct.of (by decide +kernel) (Nat.le_of_ble_eq_true rfl) (fun X hC hl hz hn hR => ?_)
  have hz1 : X.2.2.2.2 = z := by rw [hz]
  subst hz1
  exact t_X8_sees hC fa a x1 x2 rate tfirst tlength tuser tsegments twords thead rcell rwaits rbits rheld rreadings rbroken rerrors rjumps rstreak rframe rnumber ruser rcourse wframe wcourse wmissed whold p0 s0 o0 p1 s1 o1 p2 s2 o2 next known P Im place speed offset sn sf seen res hR ⟨rfl, rfl⟩ h
/-! X8_forget -/
abbrev rm_X8_forget : Room := { frames := 0, cells := 0, slots := 0, locals := 0 }
theorem ds_X8_forget : yX8_forget.cls ≠ "java/lang/invoke/MethodHandle" ∧ yX8_forget.cls ≠ "java/lang/invoke/VarHandle" ∧ (parseMethodDescriptor yX8_forget.desc).map (fun d => d.parameters.length) = some 0 := by decide +kernel
def f_X8_forget (seen : Int32) : Option ((Int32) × (Int32)) := (some (seen, (0 : Int32)))
set_option maxRecDepth 100000 in
set_option maxHeartbeats 4000000 in
theorem t_X8_forget {X : qX} (hC : Ok X rm_X8_forget cX8_forget 2 RX8 (some .int)) (fa a : Nat → Nat) (rate : Int32) (tfirst : Nat → Int32) (tlength : Nat → Int32) (tuser : Nat → Int32) (tsegments : Int32) (twords : Int32) (thead : Int32) (rcell : Int32) (rwaits : Int32) (rbits : Int64) (rheld : Int32) (rreadings : Int32) (rbroken : Int32) (rerrors : Int32) (rjumps : Int32) (rstreak : Int32) (rframe : Int32) (rnumber : Int32) (ruser : Int32) (rcourse : Int32) (wframe : Int32) (wcourse : Int32) (wmissed : Int32) (whold : Int32) (p0 : Int32) (s0 : Int32) (o0 : Int32) (p1 : Int32) (s1 : Int32) (o1 : Int32) (p2 : Int32) (s2 : Int32) (o2 : Int32) (next : Int32) (known : Int32) (P : Nat → Option ((Nat → Nat) × SV)) (Im : Nat → Option ((Nat → Nat) × SV)) (place : Int32) (speed : Int32) (offset : Int32) (sn : Nat → Int32) (sf : Nat → Int32) (seen : Int32) (res : (Int32) × (Int32)) {Po : Option Value → va_W → Prop} (hR : Rt X 0 0 Po) (hpo : Po (some (.int res.1)) (fcW X.2.2.2.2 fa a rate tfirst tlength tuser tsegments twords thead rcell rwaits rbits rheld rreadings rbroken rerrors rjumps rstreak rframe rnumber ruser rcourse wframe wcourse wmissed whold p0 s0 o0 p1 s1 o1 p2 s2 o2 next known P Im place speed offset sn sf res.2 ++ (poW X.2.2.2.2 P Im))) (h : f_X8_forget seen = some res) : At X 0 0 0 (fcW X.2.2.2.2 fa a rate tfirst tlength tuser tsegments twords thead rcell rwaits rbits rheld rreadings rbroken rerrors rjumps rstreak rframe rnumber ruser rcourse wframe wcourse wmissed whold p0 s0 o0 p1 s1 o1 p2 s2 o2 next known P Im place speed offset sn sf seen ++ (poW X.2.2.2.2 P Im)) [(0, .ref (fa 0))] [] := by
  unfold f_X8_forget at h
  refine a_aload_n 1 0 hC dX8_forget_0 rfl rfl rfl ?_
  refine a_get 4 0 6 6 hC inB_X8 rfl rfl (by decide) wq237 rfl rfl dX8_forget_1 rfl ?_
  refine a_istore_n 5 [(0, .ref (fa 0)), (1, .int seen)] [1, 0] hC dX8_forget_4 rfl rfl (by decide) rfl ?_
  refine a_aload_n 6 0 hC dX8_forget_5 rfl rfl rfl ?_
  refine a_iconst 7 (v := (0 : Int32)) hC dX8_forget_6 rfl (by decide) ?_
  refine a_put 10 0 6 6 (fcW X.2.2.2.2 fa a rate tfirst tlength tuser tsegments twords thead rcell rwaits rbits rheld rreadings rbroken rerrors rjumps rstreak rframe rnumber ruser rcourse wframe wcourse wmissed whold p0 s0 o0 p1 s1 o1 p2 s2 o2 next known P Im place speed offset sn sf (0 : Int32) ++ (poW X.2.2.2.2 P Im)) tyX8 hC inB_X8 tyX8_ok nmX8 rfl rfl (by decide) wq237 rfl rfl rfl rfl rfl (Nat.le_of_ble_eq_true rfl) dX8_forget_7 rfl rfl ?_
  refine a_iload_n 11 1 hC dX8_forget_10 rfl rfl rfl ?_
  obtain rfl := Option.some.inj h
  exact a_iret hC hR hpo (Nat.le_of_ble_eq_true rfl) (Nat.le_of_ble_eq_true rfl) dX8_forget_11
theorem c_X8_forget (l : Launch) (D : va_G) (z : ClassId × ClassId × ClassId) (fa a : Nat → Nat) (rate : Int32) (tfirst : Nat → Int32) (tlength : Nat → Int32) (tuser : Nat → Int32) (tsegments : Int32) (twords : Int32) (thead : Int32) (rcell : Int32) (rwaits : Int32) (rbits : Int64) (rheld : Int32) (rreadings : Int32) (rbroken : Int32) (rerrors : Int32) (rjumps : Int32) (rstreak : Int32) (rframe : Int32) (rnumber : Int32) (ruser : Int32) (rcourse : Int32) (wframe : Int32) (wcourse : Int32) (wmissed : Int32) (whold : Int32) (p0 : Int32) (s0 : Int32) (o0 : Int32) (p1 : Int32) (s1 : Int32) (o1 : Int32) (p2 : Int32) (s2 : Int32) (o2 : Int32) (next : Int32) (known : Int32) (P : Nat → Option ((Nat → Nat) × SV)) (Im : Nat → Option ((Nat → Nat) × SV)) (place : Int32) (speed : Int32) (offset : Int32) (sn : Nat → Int32) (sf : Nat → Int32) (seen : Int32) (res : (Int32) × (Int32)) (h : f_X8_forget seen = some res) : Ct l D z yX8_forget cX8_forget 2 (some .int) rm_X8_forget [.ref (fa 0)] (fcW z fa a rate tfirst tlength tuser tsegments twords thead rcell rwaits rbits rheld rreadings rbroken rerrors rjumps rstreak rframe rnumber ruser rcourse wframe wcourse wmissed whold p0 s0 o0 p1 s1 o1 p2 s2 o2 next known P Im place speed offset sn sf seen ++ (poW z P Im)) (fun r w => r = (some (.int res.1)) ∧ w = (fcW z fa a rate tfirst tlength tuser tsegments twords thead rcell rwaits rbits rheld rreadings rbroken rerrors rjumps rstreak rframe rnumber ruser rcourse wframe wcourse wmissed whold p0 s0 o0 p1 s1 o1 p2 s2 o2 next known P Im place speed offset sn sf res.2 ++ (poW z P Im))) := by
  refine Ct.of (by decide +kernel) (Nat.le_of_ble_eq_true rfl) (fun X hC hl hz hn hR => ?_)
  have hz1 : X.2.2.2.2 = z := by rw [hz]
  subst hz1
  exact t_X8_forget hC fa a rate tfirst tlength tuser tsegments twords thead rcell rwaits rbits rheld rreadings rbroken rerrors rjumps rstreak rframe rnumber ruser rcourse wframe wcourse wmissed whold p0 s0 o0 p1 s1 o1 p2 s2 o2 next known P Im place speed offset sn sf seen res hR ⟨rfl, rfl⟩ h
/-! X8_unseen -/
abbrev rm_X8_unseen : Room := { frames := 3, cells := 0, slots := 0, locals := 70 }
theorem ds_X8_unseen : yX8_unseen.cls ≠ "java/lang/invoke/MethodHandle" ∧ yX8_unseen.cls ≠ "java/lang/invoke/VarHandle" ∧ (parseMethodDescriptor yX8_unseen.desc).map (fun d => d.parameters.length) = some 0 := by decide +kernel
def f_X8_unseen_23 (sn : Nat → Int32) (sf : Nat → Int32) (seen : Int32) (v1 : Int32) (v2 : Int32) : Option (((Int32) × (Int32)) ⊕ ((Int32))) := (nm (v2 + (1 : Int32)) fun v4 => (some (.inl (v1, v4))))
set_option maxRecDepth 100000 in
set_option maxHeartbeats 4000000 in
theorem t_X8_unseen_23 {X : qX} (hC : Ok X rm_X8_unseen cX8_unseen 3 RX8 (some .int)) (fa a : Nat → Nat) (rate : Int32) (tfirst : Nat → Int32) (tlength : Nat → Int32) (tuser : Nat → Int32) (tsegments : Int32) (twords : Int32) (thead : Int32) (rcell : Int32) (rwaits : Int32) (rbits : Int64) (rheld : Int32) (rreadings : Int32) (rbroken : Int32) (rerrors : Int32) (rjumps : Int32) (rstreak : Int32) (rframe : Int32) (rnumber : Int32) (ruser : Int32) (rcourse : Int32) (wframe : Int32) (wcourse : Int32) (wmissed : Int32) (whold : Int32) (p0 : Int32) (s0 : Int32) (o0 : Int32) (p1 : Int32) (s1 : Int32) (o1 : Int32) (p2 : Int32) (s2 : Int32) (o2 : Int32) (next : Int32) (known : Int32) (P : Nat → Option ((Nat → Nat) × SV)) (Im : Nat → Option ((Nat → Nat) × SV)) (place : Int32) (speed : Int32) (offset : Int32) (sn : Nat → Int32) (sf : Nat → Int32) (seen : Int32) (v1 : Int32) (v2 : Int32) (o : (((Int32) × (Int32))) ⊕ (((Int32)))) (h : f_X8_unseen_23 sn sf seen v1 v2 = some o) (hk : Sum.elim (fun (w : ((Int32) × (Int32))) => At X 0 0 4 (fcW X.2.2.2.2 fa a rate tfirst tlength tuser tsegments twords thead rcell rwaits rbits rheld rreadings rbroken rerrors rjumps rstreak rframe rnumber ruser rcourse wframe wcourse wmissed whold p0 s0 o0 p1 s1 o1 p2 s2 o2 next known P Im place speed offset sn sf seen ++ (poW X.2.2.2.2 P Im)) [(0, .ref (fa 0)), (1, .int w.1), (2, .int w.2)] []) (fun (w : (Int32)) => At X 0 0 29 (fcW X.2.2.2.2 fa a rate tfirst tlength tuser tsegments twords thead rcell rwaits rbits rheld rreadings rbroken rerrors rjumps rstreak rframe rnumber ruser rcourse wframe wcourse wmissed whold p0 s0 o0 p1 s1 o1 p2 s2 o2 next known P Im place speed offset sn sf seen ++ (poW X.2.2.2.2 P Im)) [(1, .int w)] []) o) : At X 0 0 23 (fcW X.2.2.2.2 fa a rate tfirst tlength tuser tsegments twords thead rcell rwaits rbits rheld rreadings rbroken rerrors rjumps rstreak rframe rnumber ruser rcourse wframe wcourse wmissed whold p0 s0 o0 p1 s1 o1 p2 s2 o2 next known P Im place speed offset sn sf seen ++ (poW X.2.2.2.2 P Im)) [(0, .ref (fa 0)), (1, .int v1), (2, .int v2)] [] := by
  unfold f_X8_unseen_23 at h
  obtain ⟨v4, ev4, h⟩ := nmx h
  refine a_iinc 26 2 [(0, .ref (fa 0)), (1, .int v1), (2, .int v4)] [1, 2, 0] hC dX8_unseen_23 rfl rfl (v := v4) (by rw [ev4]; rfl) (by decide) rfl ?_
  refine a_goto 4 hC dX8_unseen_26 (by decide) ?_
  obtain rfl := Option.some.inj h
  exact hk
def fb_X8_unseen_4 (sn : Nat → Int32) (sf : Nat → Int32) (seen : Int32) (w : ((Int32) × (Int32))) : Option (((Int32) × (Int32)) ⊕ ((Int32))) := (if (4 : Int32) ≤ w.2 then (some (.inr w.1)) else ((f_X8_agrees w.2 sn sf seen).bind fun r2 => (if r2 = (0 : Int32) then (f_X8_unseen_23 sn sf seen w.1 w.2) else (nm (w.1 ||| ((1 : Int32) <<< (w.2 &&& 31))) fun v5 => (f_X8_unseen_23 sn sf seen v5 w.2)))))
set_option maxRecDepth 100000 in
set_option maxHeartbeats 4000000 in
theorem tb_X8_unseen_4 {X : qX} (hC : Ok X rm_X8_unseen cX8_unseen 3 RX8 (some .int)) (fa a : Nat → Nat) (rate : Int32) (tfirst : Nat → Int32) (tlength : Nat → Int32) (tuser : Nat → Int32) (tsegments : Int32) (twords : Int32) (thead : Int32) (rcell : Int32) (rwaits : Int32) (rbits : Int64) (rheld : Int32) (rreadings : Int32) (rbroken : Int32) (rerrors : Int32) (rjumps : Int32) (rstreak : Int32) (rframe : Int32) (rnumber : Int32) (ruser : Int32) (rcourse : Int32) (wframe : Int32) (wcourse : Int32) (wmissed : Int32) (whold : Int32) (p0 : Int32) (s0 : Int32) (o0 : Int32) (p1 : Int32) (s1 : Int32) (o1 : Int32) (p2 : Int32) (s2 : Int32) (o2 : Int32) (next : Int32) (known : Int32) (P : Nat → Option ((Nat → Nat) × SV)) (Im : Nat → Option ((Nat → Nat) × SV)) (place : Int32) (speed : Int32) (offset : Int32) (sn : Nat → Int32) (sf : Nat → Int32) (seen : Int32) (w : ((Int32) × (Int32))) (o : ((Int32) × (Int32)) ⊕ (((Int32)))) (h : fb_X8_unseen_4 sn sf seen w = some o) (hk : Sum.elim (fun (w : ((Int32) × (Int32))) => At X 0 0 4 (fcW X.2.2.2.2 fa a rate tfirst tlength tuser tsegments twords thead rcell rwaits rbits rheld rreadings rbroken rerrors rjumps rstreak rframe rnumber ruser rcourse wframe wcourse wmissed whold p0 s0 o0 p1 s1 o1 p2 s2 o2 next known P Im place speed offset sn sf seen ++ (poW X.2.2.2.2 P Im)) [(0, .ref (fa 0)), (1, .int w.1), (2, .int w.2)] []) (fun (w : (Int32)) => At X 0 0 29 (fcW X.2.2.2.2 fa a rate tfirst tlength tuser tsegments twords thead rcell rwaits rbits rheld rreadings rbroken rerrors rjumps rstreak rframe rnumber ruser rcourse wframe wcourse wmissed whold p0 s0 o0 p1 s1 o1 p2 s2 o2 next known P Im place speed offset sn sf seen ++ (poW X.2.2.2.2 P Im)) [(1, .int w)] []) o) : At X 0 0 4 (fcW X.2.2.2.2 fa a rate tfirst tlength tuser tsegments twords thead rcell rwaits rbits rheld rreadings rbroken rerrors rjumps rstreak rframe rnumber ruser rcourse wframe wcourse wmissed whold p0 s0 o0 p1 s1 o1 p2 s2 o2 next known P Im place speed offset sn sf seen ++ (poW X.2.2.2.2 P Im)) [(0, .ref (fa 0)), (1, .int w.1), (2, .int w.2)] [] := by
  unfold fb_X8_unseen_4 at h
  refine a_iload_n 5 2 hC dX8_unseen_4 rfl rfl rfl ?_
  refine a_iconst 6 (v := (4 : Int32)) hC dX8_unseen_5 rfl (by decide) ?_
  refine a_icmp_ge 29 9 hC dX8_unseen_6 (by decide) rfl (fun c1 => ?_) (fun c1 => ?_)
  · have h := ifp c1 h
    obtain rfl := Option.some.inj h
    refine a_lv [1] [(1, .int w.1)] rfl ?_
    exact hk
  · have h := ifn c1 h
    refine a_aload_n 10 0 hC dX8_unseen_9 rfl rfl rfl ?_
    refine a_iload_n 11 2 hC dX8_unseen_10 rfl rfl rfl ?_
    obtain ⟨r2, gr2, h⟩ := bd h
    refine a_callVs 14 (fcW X.2.2.2.2 fa a rate tfirst tlength tuser tsegments twords thead rcell rwaits rbits rheld rreadings rbroken rerrors rjumps rstreak rframe rnumber ruser rcourse wframe wcourse wmissed whold p0 s0 o0 p1 s1 o1 p2 s2 o2 next known P Im place speed offset sn sf seen ++ (poW X.2.2.2.2 P Im)) 0 6 [.int w.2] [] (some (.int r2)) [.int r2] hC (c_X8_agrees X.1.2.1 X.2.2.2.1 X.2.2.2.2 fa a w.2 rate tfirst tlength tuser tsegments twords thead rcell rwaits rbits rheld rreadings rbroken rerrors rjumps rstreak rframe rnumber ruser rcourse wframe wcourse wmissed whold p0 s0 o0 p1 s1 o1 p2 s2 o2 next known P Im place speed offset sn sf seen r2 gr2) ⟨wq577, wq23, wq580, ds_X8_agrees, by decide, by decide⟩ wq579 wq5 rfl rfl (Nat.le_of_ble_eq_true rfl) dX8_unseen_11 rfl rfl rfl ⟨(Nat.le_of_ble_eq_true rfl), (Nat.le_of_ble_eq_true rfl)⟩ rfl rfl rfl ?_
    refine a_if_eq 23 17 hC dX8_unseen_14 (by decide) rfl (fun c3 => ?_) (fun c3 => ?_)
    · have h := ifp c3 h
      exact t_X8_unseen_23 hC fa a rate tfirst tlength tuser tsegments twords thead rcell rwaits rbits rheld rreadings rbroken rerrors rjumps rstreak rframe rnumber ruser rcourse wframe wcourse wmissed whold p0 s0 o0 p1 s1 o1 p2 s2 o2 next known P Im place speed offset sn sf seen w.1 w.2 o h hk
    · have h := ifn c3 h
      refine a_iload_n 18 1 hC dX8_unseen_17 rfl rfl rfl ?_
      refine a_iconst 19 (v := (1 : Int32)) hC dX8_unseen_18 rfl (by decide) ?_
      refine a_iload_n 20 2 hC dX8_unseen_19 rfl rfl rfl ?_
      refine a_ishl 21 hC dX8_unseen_20 rfl ?_
      refine a_ior 22 hC dX8_unseen_21 rfl ?_
      obtain ⟨v5, ev5, h⟩ := nmx h
      refine a_nm ev5 ?_
      refine a_istore_n 23 [(0, .ref (fa 0)), (1, .int v5), (2, .int w.2)] [1, 0, 2] hC dX8_unseen_22 rfl rfl (by decide) rfl ?_
      exact t_X8_unseen_23 hC fa a rate tfirst tlength tuser tsegments twords thead rcell rwaits rbits rheld rreadings rbroken rerrors rjumps rstreak rframe rnumber ruser rcourse wframe wcourse wmissed whold p0 s0 o0 p1 s1 o1 p2 s2 o2 next known P Im place speed offset sn sf seen v5 w.2 o h hk
def f_X8_unseen (sn : Nat → Int32) (sf : Nat → Int32) (seen : Int32) : Option ((Int32)) := ((lp (fb_X8_unseen_4 sn sf seen) 100000 ((0 : Int32), (0 : Int32))).bind fun r6 => (some r6))
set_option maxRecDepth 100000 in
set_option maxHeartbeats 4000000 in
theorem t_X8_unseen {X : qX} (hC : Ok X rm_X8_unseen cX8_unseen 3 RX8 (some .int)) (fa a : Nat → Nat) (rate : Int32) (tfirst : Nat → Int32) (tlength : Nat → Int32) (tuser : Nat → Int32) (tsegments : Int32) (twords : Int32) (thead : Int32) (rcell : Int32) (rwaits : Int32) (rbits : Int64) (rheld : Int32) (rreadings : Int32) (rbroken : Int32) (rerrors : Int32) (rjumps : Int32) (rstreak : Int32) (rframe : Int32) (rnumber : Int32) (ruser : Int32) (rcourse : Int32) (wframe : Int32) (wcourse : Int32) (wmissed : Int32) (whold : Int32) (p0 : Int32) (s0 : Int32) (o0 : Int32) (p1 : Int32) (s1 : Int32) (o1 : Int32) (p2 : Int32) (s2 : Int32) (o2 : Int32) (next : Int32) (known : Int32) (P : Nat → Option ((Nat → Nat) × SV)) (Im : Nat → Option ((Nat → Nat) × SV)) (place : Int32) (speed : Int32) (offset : Int32) (sn : Nat → Int32) (sf : Nat → Int32) (seen : Int32) (res : (Int32)) {Po : Option Value → va_W → Prop} (hR : Rt X 0 0 Po) (hpo : Po (some (.int res)) (fcW X.2.2.2.2 fa a rate tfirst tlength tuser tsegments twords thead rcell rwaits rbits rheld rreadings rbroken rerrors rjumps rstreak rframe rnumber ruser rcourse wframe wcourse wmissed whold p0 s0 o0 p1 s1 o1 p2 s2 o2 next known P Im place speed offset sn sf seen ++ (poW X.2.2.2.2 P Im))) (h : f_X8_unseen sn sf seen = some res) : At X 0 0 0 (fcW X.2.2.2.2 fa a rate tfirst tlength tuser tsegments twords thead rcell rwaits rbits rheld rreadings rbroken rerrors rjumps rstreak rframe rnumber ruser rcourse wframe wcourse wmissed whold p0 s0 o0 p1 s1 o1 p2 s2 o2 next known P Im place speed offset sn sf seen ++ (poW X.2.2.2.2 P Im)) [(0, .ref (fa 0))] [] := by
  unfold f_X8_unseen at h
  refine a_iconst 1 (v := (0 : Int32)) hC dX8_unseen_0 rfl (by decide) ?_
  refine a_istore_n 2 [(0, .ref (fa 0)), (1, .int (0 : Int32))] [1, 0] hC dX8_unseen_1 rfl rfl (by decide) rfl ?_
  refine a_iconst 3 (v := (0 : Int32)) hC dX8_unseen_2 rfl (by decide) ?_
  refine a_istore_n 4 [(0, .ref (fa 0)), (1, .int (0 : Int32)), (2, .int (0 : Int32))] [1, 2, 0] hC dX8_unseen_3 rfl rfl (by decide) rfl ?_
  obtain ⟨r6, gr6, h⟩ := bd h
  refine lp_walk (Wh := (fun (u4 : ((Int32) × (Int32))) => At X 0 0 4 (fcW X.2.2.2.2 fa a rate tfirst tlength tuser tsegments twords thead rcell rwaits rbits rheld rreadings rbroken rerrors rjumps rstreak rframe rnumber ruser rcourse wframe wcourse wmissed whold p0 s0 o0 p1 s1 o1 p2 s2 o2 next known P Im place speed offset sn sf seen ++ (poW X.2.2.2.2 P Im)) [(0, .ref (fa 0)), (1, .int u4.1), (2, .int u4.2)] [])) (We := (fun (u4 : (Int32)) => At X 0 0 29 (fcW X.2.2.2.2 fa a rate tfirst tlength tuser tsegments twords thead rcell rwaits rbits rheld rreadings rbroken rerrors rjumps rstreak rframe rnumber ruser rcourse wframe wcourse wmissed whold p0 s0 o0 p1 s1 o1 p2 s2 o2 next known P Im place speed offset sn sf seen ++ (poW X.2.2.2.2 P Im)) [(1, .int u4)] [])) (fun u9 o9 hb9 hk9 => tb_X8_unseen_4 hC fa a rate tfirst tlength tuser tsegments twords thead rcell rwaits rbits rheld rreadings rbroken rerrors rjumps rstreak rframe rnumber ruser rcourse wframe wcourse wmissed whold p0 s0 o0 p1 s1 o1 p2 s2 o2 next known P Im place speed offset sn sf seen u9 o9 hb9 hk9) 100000 ((0 : Int32), (0 : Int32)) r6 gr6 ?_
  show At X 0 0 29 (fcW X.2.2.2.2 fa a rate tfirst tlength tuser tsegments twords thead rcell rwaits rbits rheld rreadings rbroken rerrors rjumps rstreak rframe rnumber ruser rcourse wframe wcourse wmissed whold p0 s0 o0 p1 s1 o1 p2 s2 o2 next known P Im place speed offset sn sf seen ++ (poW X.2.2.2.2 P Im)) [(1, .int r6)] []
  refine a_iload_n 30 0 hC dX8_unseen_29 rfl rfl rfl ?_
  obtain rfl := Option.some.inj h
  exact a_iret hC hR hpo (Nat.le_of_ble_eq_true rfl) (Nat.le_of_ble_eq_true rfl) dX8_unseen_30
theorem c_X8_unseen (l : Launch) (D : va_G) (z : ClassId × ClassId × ClassId) (fa a : Nat → Nat) (rate : Int32) (tfirst : Nat → Int32) (tlength : Nat → Int32) (tuser : Nat → Int32) (tsegments : Int32) (twords : Int32) (thead : Int32) (rcell : Int32) (rwaits : Int32) (rbits : Int64) (rheld : Int32) (rreadings : Int32) (rbroken : Int32) (rerrors : Int32) (rjumps : Int32) (rstreak : Int32) (rframe : Int32) (rnumber : Int32) (ruser : Int32) (rcourse : Int32) (wframe : Int32) (wcourse : Int32) (wmissed : Int32) (whold : Int32) (p0 : Int32) (s0 : Int32) (o0 : Int32) (p1 : Int32) (s1 : Int32) (o1 : Int32) (p2 : Int32) (s2 : Int32) (o2 : Int32) (next : Int32) (known : Int32) (P : Nat → Option ((Nat → Nat) × SV)) (Im : Nat → Option ((Nat → Nat) × SV)) (place : Int32) (speed : Int32) (offset : Int32) (sn : Nat → Int32) (sf : Nat → Int32) (seen : Int32) (res : (Int32)) (h : f_X8_unseen sn sf seen = some res) : Ct l D z yX8_unseen cX8_unseen 3 (some .int) rm_X8_unseen [.ref (fa 0)] (fcW z fa a rate tfirst tlength tuser tsegments twords thead rcell rwaits rbits rheld rreadings rbroken rerrors rjumps rstreak rframe rnumber ruser rcourse wframe wcourse wmissed whold p0 s0 o0 p1 s1 o1 p2 s2 o2 next known P Im place speed offset sn sf seen ++ (poW z P Im)) (fun r w => r = (some (.int res)) ∧ w = (fcW z fa a rate tfirst tlength tuser tsegments twords thead rcell rwaits rbits rheld rreadings rbroken rerrors rjumps rstreak rframe rnumber ruser rcourse wframe wcourse wmissed whold p0 s0 o0 p1 s1 o1 p2 s2 o2 next known P Im place speed offset sn sf seen ++ (poW z P Im))) := by
  refine Ct.of (by decide +kernel) (Nat.le_of_ble_eq_true rfl) (fun X hC hl hz hn hR => ?_)
  have hz1 : X.2.2.2.2 = z := by rw [hz]
  subst hz1
  exact t_X8_unseen hC fa a rate tfirst tlength tuser tsegments twords thead rcell rwaits rbits rheld rreadings rbroken rerrors rjumps rstreak rframe rnumber ruser rcourse wframe wcourse wmissed whold p0 s0 o0 p1 s1 o1 p2 s2 o2 next known P Im place speed offset sn sf seen res hR ⟨rfl, rfl⟩ h
/-! X8_count -/
abbrev rm_X8_count : Room := { frames := 2, cells := 0, slots := 0, locals := 40 }
theorem ds_X8_count : yX8_count.cls ≠ "java/lang/invoke/MethodHandle" ∧ yX8_count.cls ≠ "java/lang/invoke/VarHandle" ∧ (parseMethodDescriptor yX8_count.desc).map (fun d => d.parameters.length) = some 1 := by decide +kernel
def f_X8_count (x1 : Int32) (rate : Int32) (tsegments : Int32) (twords : Int32) (thead : Int32) (known : Int32) (seen : Int32) : Option ((Int32)) := (if x1 = (0 : Int32) then (some rate) else (if x1 = (1 : Int32) then ((f_X4_day rate).bind fun r3 => (some r3)) else (if x1 = (2 : Int32) then (some tsegments) else (if x1 = (3 : Int32) then ((f_X5_bitsInAll twords).bind fun r6 => (some r6)) else (if x1 = (4 : Int32) then (some thead) else (if x1 = (5 : Int32) then (some seen) else (if x1 = (6 : Int32) then (some known) else (some (-1 : Int32)))))))))
set_option maxRecDepth 100000 in
set_option maxHeartbeats 4000000 in
theorem t_X8_count {X : qX} (hC : Ok X rm_X8_count cX8_count 2 RX8 (some .int)) (fa a : Nat → Nat) (x1 : Int32) (rate : Int32) (tfirst : Nat → Int32) (tlength : Nat → Int32) (tuser : Nat → Int32) (tsegments : Int32) (twords : Int32) (thead : Int32) (rcell : Int32) (rwaits : Int32) (rbits : Int64) (rheld : Int32) (rreadings : Int32) (rbroken : Int32) (rerrors : Int32) (rjumps : Int32) (rstreak : Int32) (rframe : Int32) (rnumber : Int32) (ruser : Int32) (rcourse : Int32) (wframe : Int32) (wcourse : Int32) (wmissed : Int32) (whold : Int32) (p0 : Int32) (s0 : Int32) (o0 : Int32) (p1 : Int32) (s1 : Int32) (o1 : Int32) (p2 : Int32) (s2 : Int32) (o2 : Int32) (next : Int32) (known : Int32) (P : Nat → Option ((Nat → Nat) × SV)) (Im : Nat → Option ((Nat → Nat) × SV)) (place : Int32) (speed : Int32) (offset : Int32) (sn : Nat → Int32) (sf : Nat → Int32) (seen : Int32) (res : (Int32)) {Po : Option Value → va_W → Prop} (hR : Rt X 0 0 Po) (hpo : Po (some (.int res)) (fcW X.2.2.2.2 fa a rate tfirst tlength tuser tsegments twords thead rcell rwaits rbits rheld rreadings rbroken rerrors rjumps rstreak rframe rnumber ruser rcourse wframe wcourse wmissed whold p0 s0 o0 p1 s1 o1 p2 s2 o2 next known P Im place speed offset sn sf seen ++ (poW X.2.2.2.2 P Im))) (h : f_X8_count x1 rate tsegments twords thead known seen = some res) : At X 0 0 0 (fcW X.2.2.2.2 fa a rate tfirst tlength tuser tsegments twords thead rcell rwaits rbits rheld rreadings rbroken rerrors rjumps rstreak rframe rnumber ruser rcourse wframe wcourse wmissed whold p0 s0 o0 p1 s1 o1 p2 s2 o2 next known P Im place speed offset sn sf seen ++ (poW X.2.2.2.2 P Im)) [(0, .ref (fa 0)), (1, .int x1)] [] := by
  unfold f_X8_count at h
  refine a_iload_n 1 1 hC dX8_count_0 rfl rfl rfl ?_
  by_cases c1 : x1 = (0 : Int32)
  · have h := ifp c1 h
    refine a_tswI 44 hC dX8_count_1 c1 (by decide) (by decide) rfl (by decide) ?_
    refine a_aload_n 45 0 hC dX8_count_44 rfl rfl rfl ?_
    refine a_get 48 0 6 0 hC inB_X8 rfl rfl (by decide) wq231 rfl rfl dX8_count_45 rfl ?_
    refine a_get 51 1 3 0 hC inB_X4 rfl rfl (by decide) wq185 rfl rfl dX8_count_48 rfl ?_
    obtain rfl := Option.some.inj h
    exact a_iret hC hR hpo (Nat.le_of_ble_eq_true rfl) (Nat.le_of_ble_eq_true rfl) dX8_count_51
  · have h := ifn c1 h
    by_cases c2 : x1 = (1 : Int32)
    · have h := ifp c2 h
      refine a_tswI 52 hC dX8_count_1 c2 (by decide) (by decide) rfl (by decide) ?_
      refine a_aload_n 53 0 hC dX8_count_52 rfl rfl rfl ?_
      refine a_get 56 0 6 0 hC inB_X8 rfl rfl (by decide) wq231 rfl rfl dX8_count_53 rfl ?_
      obtain ⟨r3, gr3, h⟩ := bd h
      refine a_callVd 59 (fcW X.2.2.2.2 fa a rate tfirst tlength tuser tsegments twords thead rcell rwaits rbits rheld rreadings rbroken rerrors rjumps rstreak rframe rnumber ruser rcourse wframe wcourse wmissed whold p0 s0 o0 p1 s1 o1 p2 s2 o2 next known P Im place speed offset sn sf seen) (poW X.2.2.2.2 P Im) [1, 2, 3, 4, 5, 6, 7, 8, 9, 10] [0, 11, 12, 13, 14, 15, 16] [0, 7, 8, 9, 10, 11, 12, 13, 14, 15, 16, 1, 2, 3, 4, 5, 6] (fcW X.2.2.2.2 fa a rate tfirst tlength tuser tsegments twords thead rcell rwaits rbits rheld rreadings rbroken rerrors rjumps rstreak rframe rnumber ruser rcourse wframe wcourse wmissed whold p0 s0 o0 p1 s1 o1 p2 s2 o2 next known P Im place speed offset sn sf seen) (fcW X.2.2.2.2 fa a rate tfirst tlength tuser tsegments twords thead rcell rwaits rbits rheld rreadings rbroken rerrors rjumps rstreak rframe rnumber ruser rcourse wframe wcourse wmissed whold p0 s0 o0 p1 s1 o1 p2 s2 o2 next known P Im place speed offset sn sf seen ++ (poW X.2.2.2.2 P Im)) 0 3 [] [] (some (.int r3)) (stW X.2.2.2.2 a rate tfirst tlength tuser tsegments twords thead rcell rwaits rbits rheld rreadings rbroken rerrors rjumps rstreak rframe rnumber ruser rcourse wframe wcourse wmissed whold p0 s0 o0 p1 s1 o1 p2 s2 o2) [.int r3] hC (c_X4_day X.1.2.1 X.2.2.2.1 X.2.2.2.2 a rate tfirst tlength tuser tsegments twords thead rcell rwaits rbits rheld rreadings rbroken rerrors rjumps rstreak rframe rnumber ruser rcourse wframe wcourse wmissed whold p0 s0 o0 p1 s1 o1 p2 s2 o2 r3 gr3) ⟨wq320, wq24, wq298, ds_X4_day, by decide, by decide⟩ wq296 wq297 rfl rfl (Nat.le_of_ble_eq_true rfl) dX8_count_56 rfl rfl rfl ⟨(Nat.le_of_ble_eq_true rfl), (Nat.le_of_ble_eq_true rfl)⟩ rfl rfl rfl rfl rfl (by decide) rfl rfl rfl rfl rfl rfl ?_
      obtain rfl := Option.some.inj h
      exact a_iret hC hR hpo (Nat.le_of_ble_eq_true rfl) (Nat.le_of_ble_eq_true rfl) dX8_count_59
    · have h := ifn c2 h
      by_cases c4 : x1 = (2 : Int32)
      · have h := ifp c4 h
        refine a_tswI 60 hC dX8_count_1 c4 (by decide) (by decide) rfl (by decide) ?_
        refine a_aload_n 61 0 hC dX8_count_60 rfl rfl rfl ?_
        refine a_get 64 0 6 0 hC inB_X8 rfl rfl (by decide) wq231 rfl rfl dX8_count_61 rfl ?_
        refine a_get 67 1 3 1 hC inB_X4 rfl rfl (by decide) wq187 rfl rfl dX8_count_64 rfl ?_
        refine a_get 70 2 4 3 hC inB_X5 rfl rfl (by decide) wq60 rfl rfl dX8_count_67 rfl ?_
        obtain rfl := Option.some.inj h
        exact a_iret hC hR hpo (Nat.le_of_ble_eq_true rfl) (Nat.le_of_ble_eq_true rfl) dX8_count_70
      · have h := ifn c4 h
        by_cases c5 : x1 = (3 : Int32)
        · have h := ifp c5 h
          refine a_tswI 71 hC dX8_count_1 c5 (by decide) (by decide) rfl (by decide) ?_
          refine a_aload_n 72 0 hC dX8_count_71 rfl rfl rfl ?_
          refine a_get 75 0 6 0 hC inB_X8 rfl rfl (by decide) wq231 rfl rfl dX8_count_72 rfl ?_
          refine a_get 78 1 3 1 hC inB_X4 rfl rfl (by decide) wq187 rfl rfl dX8_count_75 rfl ?_
          obtain ⟨r6, gr6, h⟩ := bd h
          refine a_callVd 81 (fcW X.2.2.2.2 fa a rate tfirst tlength tuser tsegments twords thead rcell rwaits rbits rheld rreadings rbroken rerrors rjumps rstreak rframe rnumber ruser rcourse wframe wcourse wmissed whold p0 s0 o0 p1 s1 o1 p2 s2 o2 next known P Im place speed offset sn sf seen) (poW X.2.2.2.2 P Im) [2, 3, 4, 5] [0, 1, 6, 7, 8, 9, 10, 11, 12, 13, 14, 15, 16] [0, 1, 13, 14, 15, 16, 2, 3, 4, 5, 6, 7, 8, 9, 10, 11, 12] (fcW X.2.2.2.2 fa a rate tfirst tlength tuser tsegments twords thead rcell rwaits rbits rheld rreadings rbroken rerrors rjumps rstreak rframe rnumber ruser rcourse wframe wcourse wmissed whold p0 s0 o0 p1 s1 o1 p2 s2 o2 next known P Im place speed offset sn sf seen) (fcW X.2.2.2.2 fa a rate tfirst tlength tuser tsegments twords thead rcell rwaits rbits rheld rreadings rbroken rerrors rjumps rstreak rframe rnumber ruser rcourse wframe wcourse wmissed whold p0 s0 o0 p1 s1 o1 p2 s2 o2 next known P Im place speed offset sn sf seen ++ (poW X.2.2.2.2 P Im)) 0 4 [] [] (some (.int r6)) (tpW X.2.2.2.2 (a 1) (a 2) (a 3) (a 4) tfirst tlength tuser tsegments twords thead) [.int r6] hC (c_X5_bitsInAll X.1.2.1 X.2.2.2.1 X.2.2.2.2 (a 1) (a 2) (a 3) (a 4) tfirst tlength tuser tsegments twords thead r6 gr6) ⟨wq362, wq25, wq365, ds_X5_bitsInAll, by decide, by decide⟩ wq363 wq364 rfl rfl (Nat.le_of_ble_eq_true rfl) dX8_count_78 rfl rfl rfl ⟨(Nat.le_of_ble_eq_true rfl), (Nat.le_of_ble_eq_true rfl)⟩ rfl rfl rfl rfl rfl (by decide) rfl rfl rfl rfl rfl rfl ?_
          obtain rfl := Option.some.inj h
          exact a_iret hC hR hpo (Nat.le_of_ble_eq_true rfl) (Nat.le_of_ble_eq_true rfl) dX8_count_81
        · have h := ifn c5 h
          by_cases c7 : x1 = (4 : Int32)
          · have h := ifp c7 h
            refine a_tswI 82 hC dX8_count_1 c7 (by decide) (by decide) rfl (by decide) ?_
            refine a_aload_n 83 0 hC dX8_count_82 rfl rfl rfl ?_
            refine a_get 86 0 6 0 hC inB_X8 rfl rfl (by decide) wq231 rfl rfl dX8_count_83 rfl ?_
            refine a_get 89 1 3 1 hC inB_X4 rfl rfl (by decide) wq187 rfl rfl dX8_count_86 rfl ?_
            refine a_get 92 2 4 5 hC inB_X5 rfl rfl (by decide) wq64 rfl rfl dX8_count_89 rfl ?_
            obtain rfl := Option.some.inj h
            exact a_iret hC hR hpo (Nat.le_of_ble_eq_true rfl) (Nat.le_of_ble_eq_true rfl) dX8_count_92
          · have h := ifn c7 h
            by_cases c8 : x1 = (5 : Int32)
            · have h := ifp c8 h
              refine a_tswI 93 hC dX8_count_1 c8 (by decide) (by decide) rfl (by decide) ?_
              refine a_aload_n 94 0 hC dX8_count_93 rfl rfl rfl ?_
              refine a_get 97 0 6 6 hC inB_X8 rfl rfl (by decide) wq237 rfl rfl dX8_count_94 rfl ?_
              obtain rfl := Option.some.inj h
              exact a_iret hC hR hpo (Nat.le_of_ble_eq_true rfl) (Nat.le_of_ble_eq_true rfl) dX8_count_97
            · have h := ifn c8 h
              by_cases c9 : x1 = (6 : Int32)
              · have h := ifp c9 h
                refine a_tswI 98 hC dX8_count_1 c9 (by decide) (by decide) rfl (by decide) ?_
                refine a_aload_n 99 0 hC dX8_count_98 rfl rfl rfl ?_
                refine a_get 102 0 6 1 hC inB_X8 rfl rfl (by decide) wq232 rfl rfl dX8_count_99 rfl ?_
                refine a_get 105 11 1 2 hC inB_X1 rfl rfl (by decide) wq221 rfl rfl dX8_count_102 rfl ?_
                obtain rfl := Option.some.inj h
                exact a_iret hC hR hpo (Nat.le_of_ble_eq_true rfl) (Nat.le_of_ble_eq_true rfl) dX8_count_105
              · have h := ifn c9 h
                refine a_tswO 106 hC dX8_count_1 (by have ec1 := ne_ti c1 (a := 0) (by decide); have ec2 := ne_ti c2 (a := 1) (by decide); have ec4 := ne_ti c4 (a := 2) (by decide); have ec5 := ne_ti c5 (a := 3) (by decide); have ec7 := ne_ti c7 (a := 4) (by decide); have ec8 := ne_ti c8 (a := 5) (by decide); have ec9 := ne_ti c9 (a := 6) (by decide); clear h; omega) (by decide) ?_
                refine a_iconst 107 (v := (-1 : Int32)) hC dX8_count_106 rfl (by decide) ?_
                obtain rfl := Option.some.inj h
                exact a_iret hC hR hpo (Nat.le_of_ble_eq_true rfl) (Nat.le_of_ble_eq_true rfl) dX8_count_107
theorem c_X8_count (l : Launch) (D : va_G) (z : ClassId × ClassId × ClassId) (fa a : Nat → Nat) (x1 : Int32) (rate : Int32) (tfirst : Nat → Int32) (tlength : Nat → Int32) (tuser : Nat → Int32) (tsegments : Int32) (twords : Int32) (thead : Int32) (rcell : Int32) (rwaits : Int32) (rbits : Int64) (rheld : Int32) (rreadings : Int32) (rbroken : Int32) (rerrors : Int32) (rjumps : Int32) (rstreak : Int32) (rframe : Int32) (rnumber : Int32) (ruser : Int32) (rcourse : Int32) (wframe : Int32) (wcourse : Int32) (wmissed : Int32) (whold : Int32) (p0 : Int32) (s0 : Int32) (o0 : Int32) (p1 : Int32) (s1 : Int32) (o1 : Int32) (p2 : Int32) (s2 : Int32) (o2 : Int32) (next : Int32) (known : Int32) (P : Nat → Option ((Nat → Nat) × SV)) (Im : Nat → Option ((Nat → Nat) × SV)) (place : Int32) (speed : Int32) (offset : Int32) (sn : Nat → Int32) (sf : Nat → Int32) (seen : Int32) (res : (Int32)) (h : f_X8_count x1 rate tsegments twords thead known seen = some res) : Ct l D z yX8_count cX8_count 2 (some .int) rm_X8_count [.ref (fa 0), .int x1] (fcW z fa a rate tfirst tlength tuser tsegments twords thead rcell rwaits rbits rheld rreadings rbroken rerrors rjumps rstreak rframe rnumber ruser rcourse wframe wcourse wmissed whold p0 s0 o0 p1 s1 o1 p2 s2 o2 next known P Im place speed offset sn sf seen ++ (poW z P Im)) (fun r w => r = (some (.int res)) ∧ w = (fcW z fa a rate tfirst tlength tuser tsegments twords thead rcell rwaits rbits rheld rreadings rbroken rerrors rjumps rstreak rframe rnumber ruser rcourse wframe wcourse wmissed whold p0 s0 o0 p1 s1 o1 p2 s2 o2 next known P Im place speed offset sn sf seen ++ (poW z P Im))) := by
  refine Ct.of (by decide +kernel) (Nat.le_of_ble_eq_true rfl) (fun X hC hl hz hn hR => ?_)
  have hz1 : X.2.2.2.2 = z := by rw [hz]
  subst hz1
  exact t_X8_count hC fa a x1 rate tfirst tlength tuser tsegments twords thead rcell rwaits rbits rheld rreadings rbroken rerrors rjumps rstreak rframe rnumber ruser rcourse wframe wcourse wmissed whold p0 s0 o0 p1 s1 o1 p2 s2 o2 next known P Im place speed offset sn sf seen res hR ⟨rfl, rfl⟩ h
