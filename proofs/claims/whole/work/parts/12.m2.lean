/-! X9_tape -/
abbrev rm_X9_tape : Room := { frames := 0, cells := 0, slots := 0, locals := 0 }
theorem ds_X9_tape : yX9_tape.cls ≠ "java/lang/invoke/MethodHandle" ∧ yX9_tape.cls ≠ "java/lang/invoke/VarHandle" ∧ (parseMethodDescriptor yX9_tape.desc).map (fun d => d.parameters.length) = some 0 := by decide +kernel
def fb_X9_tape_4 (s : Nat → Int32) (w : ((Int32) × (Int32))) : Option (((Int32) × (Int32)) ⊕ ((Int32))) := (if (s 1) ≤ w.2 then (some (.inr w.1)) else (gd (((2 : Int32) + ((3 : Int32) * w.2)) + (1 : Int32)) 95 (nm (w.1 + ((48 : Int32) * (s (Int32.toNatClampNeg (((2 : Int32) + ((3 : Int32) * w.2)) + (1 : Int32)))))) fun v3 => (nm (w.2 + (1 : Int32)) fun v4 => (some (.inl (v3, v4)))))))
set_option maxRecDepth 100000 in
set_option maxHeartbeats 4000000 in
theorem tb_X9_tape_4 {X : qX} (hC : Ok X rm_X9_tape cX9_tape 3 RX9 (some .int)) (a : Nat → Nat) (thrown : Int32) (s : Nat → Int32) (past : Nat → Int32) (undos : Int32) (kept : Nat → Int32) (isk : Nat → Int32) (seen : Int32) (sn : Nat → Int32) (sf : Nat → Int32) (w : ((Int32) × (Int32))) (o : ((Int32) × (Int32)) ⊕ (((Int32)))) (h : fb_X9_tape_4 s w = some o) (hk : Sum.elim (fun (w : ((Int32) × (Int32))) => At X 0 0 4 (mdW X.2.2.2.2 a thrown s past undos kept isk seen sn sf) [(0, .ref (a 0)), (1, .int w.1), (2, .int w.2)] []) (fun (w : (Int32)) => At X 0 0 38 (mdW X.2.2.2.2 a thrown s past undos kept isk seen sn sf) [(1, .int w)] []) o) : At X 0 0 4 (mdW X.2.2.2.2 a thrown s past undos kept isk seen sn sf) [(0, .ref (a 0)), (1, .int w.1), (2, .int w.2)] [] := by
  unfold fb_X9_tape_4 at h
  refine a_iload_n 5 2 hC dX9_tape_4 rfl rfl rfl ?_
  refine a_aload_n 6 0 hC dX9_tape_5 rfl rfl rfl ?_
  refine a_get 9 0 7 1 hC inB_X9 rfl rfl (by decide) wq601 rfl rfl dX9_tape_6 rfl ?_
  refine a_iconst 10 (v := (1 : Int32)) hC dX9_tape_9 rfl (by decide) ?_
  refine a_ialdc 11 1 1 hC rfl rfl (vp_inc (by decide)) dX9_tape_10 rfl ?_
  refine a_icmp_ge 38 14 hC dX9_tape_11 (by decide) rfl (fun c1 => ?_) (fun c1 => ?_)
  · have h := ifp c1 h
    obtain rfl := Option.some.inj h
    refine a_lv [1] [(1, .int w.1)] rfl ?_
    exact hk
  · have h := ifn c1 h
    refine a_iload_n 15 1 hC dX9_tape_14 rfl rfl rfl ?_
    refine a_bipush 17 (v := (48 : Int32)) hC dX9_tape_15 rfl (by decide) ?_
    refine a_aload_n 18 0 hC dX9_tape_17 rfl rfl rfl ?_
    refine a_get 21 0 7 1 hC inB_X9 rfl rfl (by decide) wq601 rfl rfl dX9_tape_18 rfl ?_
    refine a_iconst 22 (v := (2 : Int32)) hC dX9_tape_21 rfl (by decide) ?_
    refine a_iconst 23 (v := (3 : Int32)) hC dX9_tape_22 rfl (by decide) ?_
    refine a_iload_n 24 2 hC dX9_tape_23 rfl rfl rfl ?_
    refine a_imul 25 hC dX9_tape_24 rfl ?_
    refine a_iadd 26 hC dX9_tape_25 rfl ?_
    refine a_iconst 27 (v := (1 : Int32)) hC dX9_tape_26 rfl (by decide) ?_
    refine a_iadd 28 hC dX9_tape_27 rfl ?_
    obtain ⟨n2, h⟩ := gdx h
    refine a_iald 29 1 hC rfl n2 dX9_tape_28 rfl ?_
    refine a_imul 30 hC dX9_tape_29 rfl ?_
    refine a_iadd 31 hC dX9_tape_30 rfl ?_
    obtain ⟨v3, ev3, h⟩ := nmx h
    refine a_nm ev3 ?_
    refine a_istore_n 32 [(0, .ref (a 0)), (1, .int v3), (2, .int w.2)] [1, 0, 2] hC dX9_tape_31 rfl rfl (by decide) rfl ?_
    obtain ⟨v4, ev4, h⟩ := nmx h
    refine a_iinc 35 2 [(0, .ref (a 0)), (1, .int v3), (2, .int v4)] [1, 2, 0] hC dX9_tape_32 rfl rfl (v := v4) (by rw [ev4]; rfl) (by decide) rfl ?_
    refine a_goto 4 hC dX9_tape_35 (by decide) ?_
    obtain rfl := Option.some.inj h
    exact hk
def f_X9_tape (s : Nat → Int32) : Option ((Int32)) := ((lp (fb_X9_tape_4 s) 100000 ((0 : Int32), (0 : Int32))).bind fun r5 => (some r5))
set_option maxRecDepth 100000 in
set_option maxHeartbeats 4000000 in
theorem t_X9_tape {X : qX} (hC : Ok X rm_X9_tape cX9_tape 3 RX9 (some .int)) (a : Nat → Nat) (thrown : Int32) (s : Nat → Int32) (past : Nat → Int32) (undos : Int32) (kept : Nat → Int32) (isk : Nat → Int32) (seen : Int32) (sn : Nat → Int32) (sf : Nat → Int32) (res : (Int32)) (hR : Rt X 0 0 (fun r w => r = some (.int res) ∧ w = (mdW X.2.2.2.2 a thrown s past undos kept isk seen sn sf))) (h : f_X9_tape s = some res) : At X 0 0 0 (mdW X.2.2.2.2 a thrown s past undos kept isk seen sn sf) [(0, .ref (a 0))] [] := by
  unfold f_X9_tape at h
  refine a_iconst 1 (v := (0 : Int32)) hC dX9_tape_0 rfl (by decide) ?_
  refine a_istore_n 2 [(0, .ref (a 0)), (1, .int (0 : Int32))] [1, 0] hC dX9_tape_1 rfl rfl (by decide) rfl ?_
  refine a_iconst 3 (v := (0 : Int32)) hC dX9_tape_2 rfl (by decide) ?_
  refine a_istore_n 4 [(0, .ref (a 0)), (1, .int (0 : Int32)), (2, .int (0 : Int32))] [1, 2, 0] hC dX9_tape_3 rfl rfl (by decide) rfl ?_
  obtain ⟨r5, gr5, h⟩ := bd h
  refine lp_walk (Wh := (fun (u4 : ((Int32) × (Int32))) => At X 0 0 4 (mdW X.2.2.2.2 a thrown s past undos kept isk seen sn sf) [(0, .ref (a 0)), (1, .int u4.1), (2, .int u4.2)] [])) (We := (fun (u4 : (Int32)) => At X 0 0 38 (mdW X.2.2.2.2 a thrown s past undos kept isk seen sn sf) [(1, .int u4)] [])) (fun u9 o9 hb9 hk9 => tb_X9_tape_4 hC a thrown s past undos kept isk seen sn sf u9 o9 hb9 hk9) 100000 ((0 : Int32), (0 : Int32)) r5 gr5 ?_
  show At X 0 0 38 (mdW X.2.2.2.2 a thrown s past undos kept isk seen sn sf) [(1, .int r5)] []
  refine a_iload_n 39 0 hC dX9_tape_38 rfl rfl rfl ?_
  obtain rfl := Option.some.inj h
  exact a_iret hC hR ⟨rfl, rfl⟩ (Nat.le_refl _) (Nat.le_refl _) dX9_tape_39
theorem c_X9_tape (l : Launch) (D : va_G) (z : ClassId × ClassId × ClassId) (a : Nat → Nat) (thrown : Int32) (s : Nat → Int32) (past : Nat → Int32) (undos : Int32) (kept : Nat → Int32) (isk : Nat → Int32) (seen : Int32) (sn : Nat → Int32) (sf : Nat → Int32) (res : (Int32)) (h : f_X9_tape s = some res) : Ct l D z yX9_tape cX9_tape 3 (some .int) rm_X9_tape [.ref (a 0)] (mdW z a thrown s past undos kept isk seen sn sf) (fun r w => r = some (.int res) ∧ w = (mdW z a thrown s past undos kept isk seen sn sf)) := by
  refine Ct.of (by decide +kernel) (Nat.le_of_ble_eq_true rfl) (fun X hC hl hz hn hR => ?_)
  have hz1 : X.2.2.2.2 = z := by rw [hz]
  subst hz1
  exact t_X9_tape hC a thrown s past undos kept isk seen sn sf res hR h

/-! X9_lays -/
abbrev rm_X9_lays : Room := { frames := 4, cells := 0, slots := 0, locals := 81 }
theorem ds_X9_lays : yX9_lays.cls ≠ "java/lang/invoke/MethodHandle" ∧ yX9_lays.cls ≠ "java/lang/invoke/VarHandle" ∧ (parseMethodDescriptor yX9_lays.desc).map (fun d => d.parameters.length) = some 3 := by decide +kernel
def f_X9_lays (x1 : Int32) (x2 : Int32) (x3 : Int32) (thrown : Int32) (s : Nat → Int32) (past : Nat → Int32) (undos : Int32) : Option ((Int32) × (Int32) × (Nat → Int32) × (Nat → Int32) × (Int32)) := ((f_X9_isFrame x1 s).bind fun r1 => (if r1 = (0 : Int32) then (some ((-1 : Int32), (0 : Int32), s, past, undos)) else ((f_X9_in x2 (1 : Int32) (40 : Int32)).bind fun r3 => (if r3 = (0 : Int32) then (some ((-1 : Int32), (0 : Int32), s, past, undos)) else ((f_X9_in x3 (0 : Int32) (15 : Int32)).bind fun r5 => (if r5 = (0 : Int32) then (some ((-1 : Int32), (0 : Int32), s, past, undos)) else (if (s 1) = (6 : Int32) then (some ((-3 : Int32), (0 : Int32), s, past, undos)) else ((f_X9_notes s past undos).bind fun r8 => (nm ((2 : Int32) + ((3 : Int32) * (s 1))) fun v9 => (gd v9 95 (nm (upd s (Int32.toNatClampNeg v9) x1) fun sq10 => (gd (v9 + (1 : Int32)) 95 (nm (upd sq10 (Int32.toNatClampNeg (v9 + (1 : Int32))) x2) fun sq12 => (gd (v9 + (2 : Int32)) 95 (nm (upd sq12 (Int32.toNatClampNeg (v9 + (2 : Int32))) x3) fun sq14 => (nm ((sq14 1) + (1 : Int32)) fun v16 => (nm (upd sq14 1 v16) fun sq17 => (some ((sq17 1), (0 : Int32), sq17, r8.1, r8.2)))))))))))))))))))
set_option maxRecDepth 100000 in
set_option maxHeartbeats 4000000 in
theorem t_X9_lays {X : qX} (hC : Ok X rm_X9_lays cX9_lays 5 RX9 (some .int)) (a : Nat → Nat) (x1 : Int32) (x2 : Int32) (x3 : Int32) (thrown : Int32) (s : Nat → Int32) (past : Nat → Int32) (undos : Int32) (kept : Nat → Int32) (isk : Nat → Int32) (seen : Int32) (sn : Nat → Int32) (sf : Nat → Int32) (res : (Int32) × (Int32) × (Nat → Int32) × (Nat → Int32) × (Int32)) (hR : Rt X 0 0 (fun r w => r = some (.int res.1) ∧ w = (mdW X.2.2.2.2 a res.2.1 res.2.2.1 res.2.2.2.1 res.2.2.2.2 kept isk seen sn sf))) (h : f_X9_lays x1 x2 x3 thrown s past undos = some res) : At X 0 0 0 (mdW X.2.2.2.2 a thrown s past undos kept isk seen sn sf) [(0, .ref (a 0)), (1, .int x1), (2, .int x2), (3, .int x3)] [] := by
  unfold f_X9_lays at h
  refine a_aload_n 1 0 hC dX9_lays_0 rfl rfl rfl ?_
  refine a_iconst 2 (v := (0 : Int32)) hC dX9_lays_1 rfl (by decide) ?_
  refine a_put 5 0 7 0 (mdW X.2.2.2.2 a (0 : Int32) s past undos kept isk seen sn sf) tyX9 hC inB_X9 tyX9_ok nmX9 rfl rfl (by decide) wq600 rfl rfl rfl rfl rfl (Nat.le_of_ble_eq_true rfl) dX9_lays_2 rfl rfl ?_
  refine a_aload_n 6 0 hC dX9_lays_5 rfl rfl rfl ?_
  refine a_iload_n 7 1 hC dX9_lays_6 rfl rfl rfl ?_
  obtain ⟨r1, gr1, h⟩ := bd h
  refine a_callVs 10 (mdW X.2.2.2.2 a (0 : Int32) s past undos kept isk seen sn sf) 0 7 [.int x1] [] (some (.int r1)) [.int r1] hC (c_X9_isFrame X.1.2.1 X.2.2.2.1 X.2.2.2.2 a x1 (0 : Int32) s past undos kept isk seen sn sf r1 gr1) ⟨wq633, wq30, wq636, ds_X9_isFrame, by decide, by decide⟩ wq635 wq6 rfl rfl (Nat.le_of_ble_eq_true rfl) dX9_lays_7 rfl rfl rfl ⟨(Nat.le_refl _), (Nat.le_refl _)⟩ rfl rfl rfl ?_
  refine a_if_eq 33 13 hC dX9_lays_10 (by decide) rfl (fun c2 => ?_) (fun c2 => ?_)
  · have h := ifp c2 h
    refine a_iconst 34 (v := (-1 : Int32)) hC dX9_lays_33 rfl (by decide) ?_
    obtain rfl := Option.some.inj h
    exact a_iret hC hR ⟨rfl, rfl⟩ (Nat.le_refl _) (Nat.le_refl _) dX9_lays_34
  · have h := ifn c2 h
    refine a_iload_n 14 2 hC dX9_lays_13 rfl rfl rfl ?_
    refine a_iconst 15 (v := (1 : Int32)) hC dX9_lays_14 rfl (by decide) ?_
    refine a_bipush 17 (v := (40 : Int32)) hC dX9_lays_15 rfl (by decide) ?_
    obtain ⟨r3, gr3, h⟩ := bd h
    refine a_call0 20 [.int x2, .int (1 : Int32), .int (40 : Int32)] [] (.int r3) hC (c_X9_in X.1.2.1 X.2.2.2.1 X.2.2.2.2 x2 (1 : Int32) (40 : Int32) r3 gr3) ⟨wq649, wq30, wq651, ds_X9_in, by decide, by decide⟩ wq650 rfl rfl (Nat.le_of_ble_eq_true rfl) dX9_lays_17 rfl rfl rfl ⟨(Nat.le_refl _), (Nat.le_refl _)⟩ ?_
    refine a_if_eq 33 23 hC dX9_lays_20 (by decide) rfl (fun c4 => ?_) (fun c4 => ?_)
    · have h := ifp c4 h
      refine a_iconst 34 (v := (-1 : Int32)) hC dX9_lays_33 rfl (by decide) ?_
      obtain rfl := Option.some.inj h
      exact a_iret hC hR ⟨rfl, rfl⟩ (Nat.le_refl _) (Nat.le_refl _) dX9_lays_34
    · have h := ifn c4 h
      refine a_iload_n 24 3 hC dX9_lays_23 rfl rfl rfl ?_
      refine a_iconst 25 (v := (0 : Int32)) hC dX9_lays_24 rfl (by decide) ?_
      refine a_bipush 27 (v := (15 : Int32)) hC dX9_lays_25 rfl (by decide) ?_
      obtain ⟨r5, gr5, h⟩ := bd h
      refine a_call0 30 [.int x3, .int (0 : Int32), .int (15 : Int32)] [] (.int r5) hC (c_X9_in X.1.2.1 X.2.2.2.1 X.2.2.2.2 x3 (0 : Int32) (15 : Int32) r5 gr5) ⟨wq649, wq30, wq651, ds_X9_in, by decide, by decide⟩ wq650 rfl rfl (Nat.le_of_ble_eq_true rfl) dX9_lays_27 rfl rfl rfl ⟨(Nat.le_refl _), (Nat.le_refl _)⟩ ?_
      refine a_if_ne 35 33 hC dX9_lays_30 (by decide) rfl (fun c6 => ?_) (fun c6 => ?_)
      · have h := ifn c6 h
        refine a_aload_n 36 0 hC dX9_lays_35 rfl rfl rfl ?_
        refine a_get 39 0 7 1 hC inB_X9 rfl rfl (by decide) wq601 rfl rfl dX9_lays_36 rfl ?_
        refine a_iconst 40 (v := (1 : Int32)) hC dX9_lays_39 rfl (by decide) ?_
        refine a_ialdc 41 1 1 hC rfl rfl (vp_inc (by decide)) dX9_lays_40 rfl ?_
        refine a_bipush 43 (v := (6 : Int32)) hC dX9_lays_41 rfl (by decide) ?_
        refine a_icmp_ne 49 46 hC dX9_lays_43 (by decide) rfl (fun c7 => ?_) (fun c7 => ?_)
        · have h := ifn c7 h
          refine a_aload_n 50 0 hC dX9_lays_49 rfl rfl rfl ?_
          obtain ⟨r8, gr8, h⟩ := bd h
          refine a_callVs 53 (mdW X.2.2.2.2 a (0 : Int32) s r8.1 r8.2 kept isk seen sn sf) 0 7 [] [] none [] hC (c_X9_notes X.1.2.1 X.2.2.2.1 X.2.2.2.2 a (0 : Int32) s past undos kept isk seen sn sf r8 gr8) ⟨wq675, wq30, wq678, ds_X9_notes, by decide, by decide⟩ wq677 wq8 rfl rfl (Nat.le_of_ble_eq_true rfl) dX9_lays_50 rfl rfl rfl ⟨(Nat.le_refl _), (Nat.le_refl _)⟩ rfl rfl rfl ?_
          refine a_iconst 54 (v := (2 : Int32)) hC dX9_lays_53 rfl (by decide) ?_
          refine a_iconst 55 (v := (3 : Int32)) hC dX9_lays_54 rfl (by decide) ?_
          refine a_aload_n 56 0 hC dX9_lays_55 rfl rfl rfl ?_
          refine a_get 59 0 7 1 hC inB_X9 rfl rfl (by decide) wq601 rfl rfl dX9_lays_56 rfl ?_
          refine a_iconst 60 (v := (1 : Int32)) hC dX9_lays_59 rfl (by decide) ?_
          refine a_ialdc 61 1 1 hC rfl rfl (vp_inc (by decide)) dX9_lays_60 rfl ?_
          refine a_imul 62 hC dX9_lays_61 rfl ?_
          refine a_iadd 63 hC dX9_lays_62 rfl ?_
          obtain ⟨v9, ev9, h⟩ := nmx h
          refine a_nm ev9 ?_
          refine a_istore 65 [(0, .ref (a 0)), (1, .int x1), (2, .int x2), (3, .int x3), (4, .int v9)] [1, 2, 3, 4, 0] hC dX9_lays_63 rfl (by decide) rfl ?_
          refine a_aload_n 66 0 hC dX9_lays_65 rfl rfl rfl ?_
          refine a_get 69 0 7 1 hC inB_X9 rfl rfl (by decide) wq601 rfl rfl dX9_lays_66 rfl ?_
          refine a_iload 71 4 hC dX9_lays_69 rfl rfl ?_
          refine a_iload_n 72 1 hC dX9_lays_71 rfl rfl rfl ?_
          obtain ⟨n11, h⟩ := gdx h
          obtain ⟨sq10, esq10, h⟩ := nmx h
          refine a_iast 73 1 (mdW X.2.2.2.2 a (0 : Int32) sq10 r8.1 r8.2 kept isk seen sn sf) hC rfl n11 dX9_lays_72 rfl (by rw [esq10]; rfl) ?_
          refine a_aload_n 74 0 hC dX9_lays_73 rfl rfl rfl ?_
          refine a_get 77 0 7 1 hC inB_X9 rfl rfl (by decide) wq601 rfl rfl dX9_lays_74 rfl ?_
          refine a_iload 79 4 hC dX9_lays_77 rfl rfl ?_
          refine a_iconst 80 (v := (1 : Int32)) hC dX9_lays_79 rfl (by decide) ?_
          refine a_iadd 81 hC dX9_lays_80 rfl ?_
          refine a_iload_n 82 2 hC dX9_lays_81 rfl rfl rfl ?_
          obtain ⟨n13, h⟩ := gdx h
          obtain ⟨sq12, esq12, h⟩ := nmx h
          refine a_iast 83 1 (mdW X.2.2.2.2 a (0 : Int32) sq12 r8.1 r8.2 kept isk seen sn sf) hC rfl n13 dX9_lays_82 rfl (by rw [esq12]; rfl) ?_
          refine a_aload_n 84 0 hC dX9_lays_83 rfl rfl rfl ?_
          refine a_get 87 0 7 1 hC inB_X9 rfl rfl (by decide) wq601 rfl rfl dX9_lays_84 rfl ?_
          refine a_iload 89 4 hC dX9_lays_87 rfl rfl ?_
          refine a_iconst 90 (v := (2 : Int32)) hC dX9_lays_89 rfl (by decide) ?_
          refine a_iadd 91 hC dX9_lays_90 rfl ?_
          refine a_iload_n 92 3 hC dX9_lays_91 rfl rfl rfl ?_
          obtain ⟨n15, h⟩ := gdx h
          obtain ⟨sq14, esq14, h⟩ := nmx h
          refine a_iast 93 1 (mdW X.2.2.2.2 a (0 : Int32) sq14 r8.1 r8.2 kept isk seen sn sf) hC rfl n15 dX9_lays_92 rfl (by rw [esq14]; rfl) ?_
          refine a_aload_n 94 0 hC dX9_lays_93 rfl rfl rfl ?_
          refine a_get 97 0 7 1 hC inB_X9 rfl rfl (by decide) wq601 rfl rfl dX9_lays_94 rfl ?_
          refine a_iconst 98 (v := (1 : Int32)) hC dX9_lays_97 rfl (by decide) ?_
          refine a_dup2 99 hC dX9_lays_98 rfl rfl rfl ?_
          refine a_ialdc 100 1 1 hC rfl rfl (vp_inc (by decide)) dX9_lays_99 rfl ?_
          refine a_iconst 101 (v := (1 : Int32)) hC dX9_lays_100 rfl (by decide) ?_
          refine a_iadd 102 hC dX9_lays_101 rfl ?_
          obtain ⟨v16, ev16, h⟩ := nmx h
          refine a_nm ev16 ?_
          obtain ⟨sq17, esq17, h⟩ := nmx h
          refine a_iastc 103 1 1 (mdW X.2.2.2.2 a (0 : Int32) sq17 r8.1 r8.2 kept isk seen sn sf) hC rfl rfl (vp_inc (by decide)) dX9_lays_102 rfl (by rw [esq17]; rfl) ?_
          refine a_aload_n 104 0 hC dX9_lays_103 rfl rfl rfl ?_
          refine a_get 107 0 7 1 hC inB_X9 rfl rfl (by decide) wq601 rfl rfl dX9_lays_104 rfl ?_
          refine a_iconst 108 (v := (1 : Int32)) hC dX9_lays_107 rfl (by decide) ?_
          refine a_ialdc 109 1 1 hC rfl rfl (vp_inc (by decide)) dX9_lays_108 rfl ?_
          obtain rfl := Option.some.inj h
          exact a_iret hC hR ⟨rfl, rfl⟩ (Nat.le_refl _) (Nat.le_refl _) dX9_lays_109
        · have h := ifp c7 h
          refine a_bipush 48 (v := (-3 : Int32)) hC dX9_lays_46 rfl (by decide) ?_
          obtain rfl := Option.some.inj h
          exact a_iret hC hR ⟨rfl, rfl⟩ (Nat.le_refl _) (Nat.le_refl _) dX9_lays_48
      · have h := ifp c6 h
        refine a_iconst 34 (v := (-1 : Int32)) hC dX9_lays_33 rfl (by decide) ?_
        obtain rfl := Option.some.inj h
        exact a_iret hC hR ⟨rfl, rfl⟩ (Nat.le_refl _) (Nat.le_refl _) dX9_lays_34
theorem c_X9_lays (l : Launch) (D : va_G) (z : ClassId × ClassId × ClassId) (a : Nat → Nat) (x1 : Int32) (x2 : Int32) (x3 : Int32) (thrown : Int32) (s : Nat → Int32) (past : Nat → Int32) (undos : Int32) (kept : Nat → Int32) (isk : Nat → Int32) (seen : Int32) (sn : Nat → Int32) (sf : Nat → Int32) (res : (Int32) × (Int32) × (Nat → Int32) × (Nat → Int32) × (Int32)) (h : f_X9_lays x1 x2 x3 thrown s past undos = some res) : Ct l D z yX9_lays cX9_lays 5 (some .int) rm_X9_lays [.ref (a 0), .int x1, .int x2, .int x3] (mdW z a thrown s past undos kept isk seen sn sf) (fun r w => r = some (.int res.1) ∧ w = (mdW z a res.2.1 res.2.2.1 res.2.2.2.1 res.2.2.2.2 kept isk seen sn sf)) := by
  refine Ct.of (by decide +kernel) (Nat.le_of_ble_eq_true rfl) (fun X hC hl hz hn hR => ?_)
  have hz1 : X.2.2.2.2 = z := by rw [hz]
  subst hz1
  exact t_X9_lays hC a x1 x2 x3 thrown s past undos kept isk seen sn sf res hR h

/-! X9_winds -/
abbrev rm_X9_winds : Room := { frames := 1, cells := 0, slots := 0, locals := 22 }
theorem ds_X9_winds : yX9_winds.cls ≠ "java/lang/invoke/MethodHandle" ∧ yX9_winds.cls ≠ "java/lang/invoke/VarHandle" ∧ (parseMethodDescriptor yX9_winds.desc).map (fun d => d.parameters.length) = some 1 := by decide +kernel
def f_X9_winds (x1 : Int32) (thrown : Int32) (s : Nat → Int32) (past : Nat → Int32) (undos : Int32) : Option ((Int32) × (Int32) × (Nat → Int32) × (Nat → Int32) × (Int32)) := ((f_X9_tape s).bind fun r1 => ((f_X9_in x1 (0 : Int32) r1).bind fun r2 => (if r2 = (0 : Int32) then (some ((-1 : Int32), (0 : Int32), s, past, undos)) else (nm (s 20) fun v4 => (if v4 = x1 then (some ((-2 : Int32), (0 : Int32), s, past, undos)) else ((f_X9_notes s past undos).bind fun r6 => (nm (upd s 20 x1) fun sq7 => (some (v4, (0 : Int32), sq7, r6.1, r6.2)))))))))
set_option maxRecDepth 100000 in
set_option maxHeartbeats 4000000 in
theorem t_X9_winds {X : qX} (hC : Ok X rm_X9_winds cX9_winds 3 RX9 (some .int)) (a : Nat → Nat) (x1 : Int32) (thrown : Int32) (s : Nat → Int32) (past : Nat → Int32) (undos : Int32) (kept : Nat → Int32) (isk : Nat → Int32) (seen : Int32) (sn : Nat → Int32) (sf : Nat → Int32) (res : (Int32) × (Int32) × (Nat → Int32) × (Nat → Int32) × (Int32)) (hR : Rt X 0 0 (fun r w => r = some (.int res.1) ∧ w = (mdW X.2.2.2.2 a res.2.1 res.2.2.1 res.2.2.2.1 res.2.2.2.2 kept isk seen sn sf))) (h : f_X9_winds x1 thrown s past undos = some res) : At X 0 0 0 (mdW X.2.2.2.2 a thrown s past undos kept isk seen sn sf) [(0, .ref (a 0)), (1, .int x1)] [] := by
  unfold f_X9_winds at h
  refine a_aload_n 1 0 hC dX9_winds_0 rfl rfl rfl ?_
  refine a_iconst 2 (v := (0 : Int32)) hC dX9_winds_1 rfl (by decide) ?_
  refine a_put 5 0 7 0 (mdW X.2.2.2.2 a (0 : Int32) s past undos kept isk seen sn sf) tyX9 hC inB_X9 tyX9_ok nmX9 rfl rfl (by decide) wq600 rfl rfl rfl rfl rfl (Nat.le_of_ble_eq_true rfl) dX9_winds_2 rfl rfl ?_
  refine a_iload_n 6 1 hC dX9_winds_5 rfl rfl rfl ?_
  refine a_iconst 7 (v := (0 : Int32)) hC dX9_winds_6 rfl (by decide) ?_
  refine a_aload_n 8 0 hC dX9_winds_7 rfl rfl rfl ?_
  obtain ⟨r1, gr1, h⟩ := bd h
  refine a_callVs 11 (mdW X.2.2.2.2 a (0 : Int32) s past undos kept isk seen sn sf) 0 7 [] [.int (0 : Int32), .int x1] (some (.int r1)) [.int r1, .int (0 : Int32), .int x1] hC (c_X9_tape X.1.2.1 X.2.2.2.1 X.2.2.2.2 a (0 : Int32) s past undos kept isk seen sn sf r1 gr1) ⟨wq691, wq30, wq694, ds_X9_tape, by decide, by decide⟩ wq693 wq10 rfl rfl (Nat.le_of_ble_eq_true rfl) dX9_winds_8 rfl rfl rfl ⟨(Nat.le_refl _), (Nat.le_refl _)⟩ rfl rfl rfl ?_
  obtain ⟨r2, gr2, h⟩ := bd h
  refine a_call0 14 [.int x1, .int (0 : Int32), .int r1] [] (.int r2) hC (c_X9_in X.1.2.1 X.2.2.2.1 X.2.2.2.2 x1 (0 : Int32) r1 r2 gr2) ⟨wq649, wq30, wq651, ds_X9_in, by decide, by decide⟩ wq650 rfl rfl (Nat.le_of_ble_eq_true rfl) dX9_winds_11 rfl rfl rfl ⟨(Nat.le_refl _), (Nat.le_refl _)⟩ ?_
  refine a_if_ne 19 17 hC dX9_winds_14 (by decide) rfl (fun c3 => ?_) (fun c3 => ?_)
  · have h := ifn c3 h
    refine a_aload_n 20 0 hC dX9_winds_19 rfl rfl rfl ?_
    refine a_get 23 0 7 1 hC inB_X9 rfl rfl (by decide) wq601 rfl rfl dX9_winds_20 rfl ?_
    refine a_bipush 25 (v := (20 : Int32)) hC dX9_winds_23 rfl (by decide) ?_
    refine a_ialdc 26 1 20 hC rfl rfl (vp_inc (by decide)) dX9_winds_25 rfl ?_
    obtain ⟨v4, ev4, h⟩ := nmx h
    refine a_nm ev4 ?_
    refine a_istore_n 27 [(0, .ref (a 0)), (1, .int x1), (2, .int v4)] [1, 2, 0] hC dX9_winds_26 rfl rfl (by decide) rfl ?_
    refine a_iload_n 28 2 hC dX9_winds_27 rfl rfl rfl ?_
    refine a_iload_n 29 1 hC dX9_winds_28 rfl rfl rfl ?_
    refine a_icmp_ne 35 32 hC dX9_winds_29 (by decide) rfl (fun c5 => ?_) (fun c5 => ?_)
    · have h := ifn c5 h
      refine a_aload_n 36 0 hC dX9_winds_35 rfl rfl rfl ?_
      obtain ⟨r6, gr6, h⟩ := bd h
      refine a_callVs 39 (mdW X.2.2.2.2 a (0 : Int32) s r6.1 r6.2 kept isk seen sn sf) 0 7 [] [] none [] hC (c_X9_notes X.1.2.1 X.2.2.2.1 X.2.2.2.2 a (0 : Int32) s past undos kept isk seen sn sf r6 gr6) ⟨wq675, wq30, wq678, ds_X9_notes, by decide, by decide⟩ wq677 wq8 rfl rfl (Nat.le_of_ble_eq_true rfl) dX9_winds_36 rfl rfl rfl ⟨(Nat.le_refl _), (Nat.le_refl _)⟩ rfl rfl rfl ?_
      refine a_aload_n 40 0 hC dX9_winds_39 rfl rfl rfl ?_
      refine a_get 43 0 7 1 hC inB_X9 rfl rfl (by decide) wq601 rfl rfl dX9_winds_40 rfl ?_
      refine a_bipush 45 (v := (20 : Int32)) hC dX9_winds_43 rfl (by decide) ?_
      refine a_iload_n 46 1 hC dX9_winds_45 rfl rfl rfl ?_
      obtain ⟨sq7, esq7, h⟩ := nmx h
      refine a_iastc 47 1 20 (mdW X.2.2.2.2 a (0 : Int32) sq7 r6.1 r6.2 kept isk seen sn sf) hC rfl rfl (vp_inc (by decide)) dX9_winds_46 rfl (by rw [esq7]; rfl) ?_
      refine a_iload_n 48 2 hC dX9_winds_47 rfl rfl rfl ?_
      obtain rfl := Option.some.inj h
      exact a_iret hC hR ⟨rfl, rfl⟩ (Nat.le_refl _) (Nat.le_refl _) dX9_winds_48
    · have h := ifp c5 h
      refine a_bipush 34 (v := (-2 : Int32)) hC dX9_winds_32 rfl (by decide) ?_
      obtain rfl := Option.some.inj h
      exact a_iret hC hR ⟨rfl, rfl⟩ (Nat.le_refl _) (Nat.le_refl _) dX9_winds_34
  · have h := ifp c3 h
    refine a_iconst 18 (v := (-1 : Int32)) hC dX9_winds_17 rfl (by decide) ?_
    obtain rfl := Option.some.inj h
    exact a_iret hC hR ⟨rfl, rfl⟩ (Nat.le_refl _) (Nat.le_refl _) dX9_winds_18
theorem c_X9_winds (l : Launch) (D : va_G) (z : ClassId × ClassId × ClassId) (a : Nat → Nat) (x1 : Int32) (thrown : Int32) (s : Nat → Int32) (past : Nat → Int32) (undos : Int32) (kept : Nat → Int32) (isk : Nat → Int32) (seen : Int32) (sn : Nat → Int32) (sf : Nat → Int32) (res : (Int32) × (Int32) × (Nat → Int32) × (Nat → Int32) × (Int32)) (h : f_X9_winds x1 thrown s past undos = some res) : Ct l D z yX9_winds cX9_winds 3 (some .int) rm_X9_winds [.ref (a 0), .int x1] (mdW z a thrown s past undos kept isk seen sn sf) (fun r w => r = some (.int res.1) ∧ w = (mdW z a res.2.1 res.2.2.1 res.2.2.2.1 res.2.2.2.2 kept isk seen sn sf)) := by
  refine Ct.of (by decide +kernel) (Nat.le_of_ble_eq_true rfl) (fun X hC hl hz hn hR => ?_)
  have hz1 : X.2.2.2.2 = z := by rw [hz]
  subst hz1
  exact t_X9_winds hC a x1 thrown s past undos kept isk seen sn sf res hR h

/-! X9_wordOf -/
abbrev rm_X9_wordOf : Room := { frames := 2, cells := 0, slots := 0, locals := 47 }
theorem ds_X9_wordOf : yX9_wordOf.cls ≠ "java/lang/invoke/MethodHandle" ∧ yX9_wordOf.cls ≠ "java/lang/invoke/VarHandle" ∧ (parseMethodDescriptor yX9_wordOf.desc).map (fun d => d.parameters.length) = some 2 := by decide +kernel
def f_X9_wordOf_78 (x2 : Int32) (y0 : Int32) (y1 : Int32) (s : Nat → Int32) : Option ((Int32)) := (nm (y1 ||| y0) fun v8 => (nm (v8 ||| (x2 <<< ((28 : Int32) &&& 31))) fun v9 => ((f_X9_isEven v9).bind fun r10 => (if r10 = (0 : Int32) then (some (v9 ||| (134217728 : Int32))) else (some v9)))))
set_option maxRecDepth 100000 in
set_option maxHeartbeats 4000000 in
theorem t_X9_wordOf_78 {X : qX} (hC : Ok X rm_X9_wordOf cX9_wordOf 5 RX9 (some .int)) (a : Nat → Nat) (x2 : Int32) (y0 : Int32) (y1 : Int32) (thrown : Int32) (s : Nat → Int32) (past : Nat → Int32) (undos : Int32) (kept : Nat → Int32) (isk : Nat → Int32) (seen : Int32) (sn : Nat → Int32) (sf : Nat → Int32) (res : (Int32)) (hR : Rt X 0 0 (fun r w => r = some (.int res) ∧ w = (mdW X.2.2.2.2 a thrown s past undos kept isk seen sn sf))) (h : f_X9_wordOf_78 x2 y0 y1 s = some res) : At X 0 0 78 (mdW X.2.2.2.2 a thrown s past undos kept isk seen sn sf) [(2, .int x2)] [.int y0, .int y1] := by
  unfold f_X9_wordOf_78 at h
  refine a_ior 79 hC dX9_wordOf_78 rfl ?_
  obtain ⟨v8, ev8, h⟩ := nmx h
  refine a_nm ev8 ?_
  refine a_istore 81 [(2, .int x2), (4, .int v8)] [1, 0] hC dX9_wordOf_79 rfl (by decide) rfl ?_
  refine a_iload 83 1 hC dX9_wordOf_81 rfl rfl ?_
  refine a_iload_n 84 0 hC dX9_wordOf_83 rfl rfl rfl ?_
  refine a_bipush 86 (v := (28 : Int32)) hC dX9_wordOf_84 rfl (by decide) ?_
  refine a_ishl 87 hC dX9_wordOf_86 rfl ?_
  refine a_ior 88 hC dX9_wordOf_87 rfl ?_
  obtain ⟨v9, ev9, h⟩ := nmx h
  refine a_nm ev9 ?_
  refine a_istore 90 [(2, .int x2), (4, .int v9)] [1, 0] hC dX9_wordOf_88 rfl (by decide) rfl ?_
  refine a_iload 92 1 hC dX9_wordOf_90 rfl rfl ?_
  obtain ⟨r10, gr10, h⟩ := bd h
  refine a_call0 95 [.int v9] [] (.int r10) hC (c_X9_isEven X.1.2.1 X.2.2.2.1 X.2.2.2.2 v9 r10 gr10) ⟨wq711, wq30, wq713, ds_X9_isEven, by decide, by decide⟩ wq712 rfl rfl (Nat.le_of_ble_eq_true rfl) dX9_wordOf_92 rfl rfl rfl ⟨(Nat.le_refl _), (Nat.le_refl _)⟩ ?_
  refine a_if_eq 103 98 hC dX9_wordOf_95 (by decide) rfl (fun c11 => ?_) (fun c11 => ?_)
  · have h := ifp c11 h
    refine a_iload 105 1 hC dX9_wordOf_103 rfl rfl ?_
    refine a_ldc 107 (v := (134217728 : Int32)) hC wq714 dX9_wordOf_105 rfl ?_
    refine a_ior 108 hC dX9_wordOf_107 rfl ?_
    obtain rfl := Option.some.inj h
    exact a_iret hC hR ⟨rfl, rfl⟩ (Nat.le_refl _) (Nat.le_refl _) dX9_wordOf_108
  · have h := ifn c11 h
    refine a_iload 100 1 hC dX9_wordOf_98 rfl rfl ?_
    refine a_goto 108 hC dX9_wordOf_100 (by decide) ?_
    obtain rfl := Option.some.inj h
    exact a_iret hC hR ⟨rfl, rfl⟩ (Nat.le_refl _) (Nat.le_refl _) dX9_wordOf_108
def f_X9_wordOf (x1 : Int32) (x2 : Int32) (s : Nat → Int32) : Option ((Int32)) := ((f_X9_numberOf (s 0) x1).bind fun r1 => ((f_X9_figures (q_rem r1 (100 : Int32))).bind fun r2 => ((f_X9_figures (q_rem (r1 / (100 : Int32)) (100 : Int32))).bind fun r3 => ((f_X9_figures (q_rem (r1 / (10000 : Int32)) (100 : Int32))).bind fun r4 => ((f_X9_figures (r1 / (1000000 : Int32))).bind fun r5 => (nm (((r2 ||| (r3 <<< ((6 : Int32) &&& 31))) ||| (r4 <<< ((13 : Int32) &&& 31))) ||| (r5 <<< ((20 : Int32) &&& 31))) fun v6 => (if (s 0) = (3 : Int32) then (f_X9_wordOf_78 x2 (67108864 : Int32) v6 s) else (f_X9_wordOf_78 x2 (0 : Int32) v6 s))))))))
set_option maxRecDepth 100000 in
set_option maxHeartbeats 4000000 in
theorem t_X9_wordOf {X : qX} (hC : Ok X rm_X9_wordOf cX9_wordOf 5 RX9 (some .int)) (a : Nat → Nat) (x1 : Int32) (x2 : Int32) (thrown : Int32) (s : Nat → Int32) (past : Nat → Int32) (undos : Int32) (kept : Nat → Int32) (isk : Nat → Int32) (seen : Int32) (sn : Nat → Int32) (sf : Nat → Int32) (res : (Int32)) (hR : Rt X 0 0 (fun r w => r = some (.int res) ∧ w = (mdW X.2.2.2.2 a thrown s past undos kept isk seen sn sf))) (h : f_X9_wordOf x1 x2 s = some res) : At X 0 0 0 (mdW X.2.2.2.2 a thrown s past undos kept isk seen sn sf) [(0, .ref (a 0)), (1, .int x1), (2, .int x2)] [] := by
  unfold f_X9_wordOf at h
  refine a_aload_n 1 0 hC dX9_wordOf_0 rfl rfl rfl ?_
  refine a_get 4 0 7 1 hC inB_X9 rfl rfl (by decide) wq601 rfl rfl dX9_wordOf_1 rfl ?_
  refine a_iconst 5 (v := (0 : Int32)) hC dX9_wordOf_4 rfl (by decide) ?_
  refine a_ialdc 6 1 0 hC rfl rfl (vp_inc (by decide)) dX9_wordOf_5 rfl ?_
  refine a_iload_n 7 1 hC dX9_wordOf_6 rfl rfl rfl ?_
  obtain ⟨r1, gr1, h⟩ := bd h
  refine a_call0 10 [.int (s 0), .int x1] [] (.int r1) hC (c_X9_numberOf X.1.2.1 X.2.2.2.1 X.2.2.2.2 (s 0) x1 r1 gr1) ⟨wq652, wq30, wq654, ds_X9_numberOf, by decide, by decide⟩ wq653 rfl rfl (Nat.le_of_ble_eq_true rfl) dX9_wordOf_7 rfl rfl rfl ⟨(Nat.le_refl _), (Nat.le_refl _)⟩ ?_
  refine a_istore_n 11 [(0, .ref (a 0)), (1, .int x1), (2, .int x2), (3, .int r1)] [1, 2, 3, 0] hC dX9_wordOf_10 rfl rfl (by decide) rfl ?_
  refine a_iload_n 12 3 hC dX9_wordOf_11 rfl rfl rfl ?_
  refine a_bipush 14 (v := (100 : Int32)) hC dX9_wordOf_12 rfl (by decide) ?_
  refine a_rem 15 hC dX9_wordOf_14 rfl (by decide) ?_
  obtain ⟨r2, gr2, h⟩ := bd h
  refine a_call0 18 [.int (q_rem r1 (100 : Int32))] [] (.int r2) hC (c_X9_figures X.1.2.1 X.2.2.2.1 X.2.2.2.2 (q_rem r1 (100 : Int32)) r2 gr2) ⟨wq707, wq30, wq709, ds_X9_figures, by decide, by decide⟩ wq708 rfl rfl (Nat.le_of_ble_eq_true rfl) dX9_wordOf_15 rfl rfl rfl ⟨(Nat.le_refl _), (Nat.le_refl _)⟩ ?_
  refine a_iload_n 19 3 hC dX9_wordOf_18 rfl rfl rfl ?_
  refine a_bipush 21 (v := (100 : Int32)) hC dX9_wordOf_19 rfl (by decide) ?_
  refine a_idiv 22 hC dX9_wordOf_21 rfl (by decide) ?_
  refine a_bipush 24 (v := (100 : Int32)) hC dX9_wordOf_22 rfl (by decide) ?_
  refine a_rem 25 hC dX9_wordOf_24 rfl (by decide) ?_
  obtain ⟨r3, gr3, h⟩ := bd h
  refine a_call0 28 [.int (q_rem (r1 / (100 : Int32)) (100 : Int32))] [.int r2] (.int r3) hC (c_X9_figures X.1.2.1 X.2.2.2.1 X.2.2.2.2 (q_rem (r1 / (100 : Int32)) (100 : Int32)) r3 gr3) ⟨wq707, wq30, wq709, ds_X9_figures, by decide, by decide⟩ wq708 rfl rfl (Nat.le_of_ble_eq_true rfl) dX9_wordOf_25 rfl rfl rfl ⟨(Nat.le_refl _), (Nat.le_refl _)⟩ ?_
  refine a_bipush 30 (v := (6 : Int32)) hC dX9_wordOf_28 rfl (by decide) ?_
  refine a_ishl 31 hC dX9_wordOf_30 rfl ?_
  refine a_ior 32 hC dX9_wordOf_31 rfl ?_
  refine a_iload_n 33 3 hC dX9_wordOf_32 rfl rfl rfl ?_
  refine a_sipush 36 (v := (10000 : Int32)) hC dX9_wordOf_33 rfl (by decide) ?_
  refine a_idiv 37 hC dX9_wordOf_36 rfl (by decide) ?_
  refine a_bipush 39 (v := (100 : Int32)) hC dX9_wordOf_37 rfl (by decide) ?_
  refine a_rem 40 hC dX9_wordOf_39 rfl (by decide) ?_
  obtain ⟨r4, gr4, h⟩ := bd h
  refine a_call0 43 [.int (q_rem (r1 / (10000 : Int32)) (100 : Int32))] [.int (r2 ||| (r3 <<< ((6 : Int32) &&& 31)))] (.int r4) hC (c_X9_figures X.1.2.1 X.2.2.2.1 X.2.2.2.2 (q_rem (r1 / (10000 : Int32)) (100 : Int32)) r4 gr4) ⟨wq707, wq30, wq709, ds_X9_figures, by decide, by decide⟩ wq708 rfl rfl (Nat.le_of_ble_eq_true rfl) dX9_wordOf_40 rfl rfl rfl ⟨(Nat.le_refl _), (Nat.le_refl _)⟩ ?_
  refine a_bipush 45 (v := (13 : Int32)) hC dX9_wordOf_43 rfl (by decide) ?_
  refine a_ishl 46 hC dX9_wordOf_45 rfl ?_
  refine a_ior 47 hC dX9_wordOf_46 rfl ?_
  refine a_iload_n 48 3 hC dX9_wordOf_47 rfl rfl rfl ?_
  refine a_ldc 50 (v := (1000000 : Int32)) hC wq658 dX9_wordOf_48 rfl ?_
  refine a_idiv 51 hC dX9_wordOf_50 rfl (by decide) ?_
  obtain ⟨r5, gr5, h⟩ := bd h
  refine a_call0 54 [.int (r1 / (1000000 : Int32))] [.int ((r2 ||| (r3 <<< ((6 : Int32) &&& 31))) ||| (r4 <<< ((13 : Int32) &&& 31)))] (.int r5) hC (c_X9_figures X.1.2.1 X.2.2.2.1 X.2.2.2.2 (r1 / (1000000 : Int32)) r5 gr5) ⟨wq707, wq30, wq709, ds_X9_figures, by decide, by decide⟩ wq708 rfl rfl (Nat.le_of_ble_eq_true rfl) dX9_wordOf_51 rfl rfl rfl ⟨(Nat.le_refl _), (Nat.le_refl _)⟩ ?_
  refine a_bipush 56 (v := (20 : Int32)) hC dX9_wordOf_54 rfl (by decide) ?_
  refine a_ishl 57 hC dX9_wordOf_56 rfl ?_
  refine a_ior 58 hC dX9_wordOf_57 rfl ?_
  obtain ⟨v6, ev6, h⟩ := nmx h
  refine a_nm ev6 ?_
  refine a_istore 60 [(0, .ref (a 0)), (1, .int x1), (2, .int x2), (3, .int r1), (4, .int v6)] [1, 2, 3, 4, 0] hC dX9_wordOf_58 rfl (by decide) rfl ?_
  refine a_iload 62 4 hC dX9_wordOf_60 rfl rfl ?_
  refine a_aload_n 63 0 hC dX9_wordOf_62 rfl rfl rfl ?_
  refine a_get 66 0 7 1 hC inB_X9 rfl rfl (by decide) wq601 rfl rfl dX9_wordOf_63 rfl ?_
  refine a_iconst 67 (v := (0 : Int32)) hC dX9_wordOf_66 rfl (by decide) ?_
  refine a_ialdc 68 1 0 hC rfl rfl (vp_inc (by decide)) dX9_wordOf_67 rfl ?_
  refine a_iconst 69 (v := (3 : Int32)) hC dX9_wordOf_68 rfl (by decide) ?_
  refine a_icmp_ne 77 72 hC dX9_wordOf_69 (by decide) rfl (fun c7 => ?_) (fun c7 => ?_)
  · have h := ifn c7 h
    refine a_iconst 78 (v := (0 : Int32)) hC dX9_wordOf_77 rfl (by decide) ?_
    refine a_lv [2] [(2, .int x2)] rfl ?_
    exact t_X9_wordOf_78 hC a x2 (0 : Int32) v6 thrown s past undos kept isk seen sn sf res hR h
  · have h := ifp c7 h
    refine a_ldc 74 (v := (67108864 : Int32)) hC wq710 dX9_wordOf_72 rfl ?_
    refine a_goto 78 hC dX9_wordOf_74 (by decide) ?_
    refine a_lv [2] [(2, .int x2)] rfl ?_
    exact t_X9_wordOf_78 hC a x2 (67108864 : Int32) v6 thrown s past undos kept isk seen sn sf res hR h
theorem c_X9_wordOf (l : Launch) (D : va_G) (z : ClassId × ClassId × ClassId) (a : Nat → Nat) (x1 : Int32) (x2 : Int32) (thrown : Int32) (s : Nat → Int32) (past : Nat → Int32) (undos : Int32) (kept : Nat → Int32) (isk : Nat → Int32) (seen : Int32) (sn : Nat → Int32) (sf : Nat → Int32) (res : (Int32)) (h : f_X9_wordOf x1 x2 s = some res) : Ct l D z yX9_wordOf cX9_wordOf 5 (some .int) rm_X9_wordOf [.ref (a 0), .int x1, .int x2] (mdW z a thrown s past undos kept isk seen sn sf) (fun r w => r = some (.int res) ∧ w = (mdW z a thrown s past undos kept isk seen sn sf)) := by
  refine Ct.of (by decide +kernel) (Nat.le_of_ble_eq_true rfl) (fun X hC hl hz hn hR => ?_)
  have hz1 : X.2.2.2.2 = z := by rw [hz]
  subst hz1
  exact t_X9_wordOf hC a x1 x2 thrown s past undos kept isk seen sn sf res hR h

/-! X9_bitAt -/
abbrev rm_X9_bitAt : Room := { frames := 4, cells := 0, slots := 0, locals := 82 }
theorem ds_X9_bitAt : yX9_bitAt.cls ≠ "java/lang/invoke/MethodHandle" ∧ yX9_bitAt.cls ≠ "java/lang/invoke/VarHandle" ∧ (parseMethodDescriptor yX9_bitAt.desc).map (fun d => d.parameters.length) = some 1 := by decide +kernel
def fb_X9_bitAt_4 (s : Nat → Int32) (w : ((Int32) × (Int32))) : Option (((Int32) × (Int32)) ⊕ ((Int32) × (Int32))) := (gd (((2 : Int32) + ((3 : Int32) * w.2)) + (1 : Int32)) 95 (if w.1 < ((48 : Int32) * (s (Int32.toNatClampNeg (((2 : Int32) + ((3 : Int32) * w.2)) + (1 : Int32))))) then (some (.inr (w.1, w.2))) else (gd (((2 : Int32) + ((3 : Int32) * w.2)) + (1 : Int32)) 95 (nm (w.1 - ((48 : Int32) * (s (Int32.toNatClampNeg (((2 : Int32) + ((3 : Int32) * w.2)) + (1 : Int32)))))) fun v4 => (nm (w.2 + (1 : Int32)) fun v5 => (some (.inl (v4, v5))))))))
set_option maxRecDepth 100000 in
set_option maxHeartbeats 4000000 in
theorem tb_X9_bitAt_4 {X : qX} (hC : Ok X rm_X9_bitAt cX9_bitAt 6 RX9 (some .int)) (a : Nat → Nat) (thrown : Int32) (s : Nat → Int32) (past : Nat → Int32) (undos : Int32) (kept : Nat → Int32) (isk : Nat → Int32) (seen : Int32) (sn : Nat → Int32) (sf : Nat → Int32) (w : ((Int32) × (Int32))) (o : ((Int32) × (Int32)) ⊕ (((Int32) × (Int32)))) (h : fb_X9_bitAt_4 s w = some o) (hk : Sum.elim (fun (w : ((Int32) × (Int32))) => At X 0 0 4 (mdW X.2.2.2.2 a thrown s past undos kept isk seen sn sf) [(0, .ref (a 0)), (2, .int w.1), (3, .int w.2)] []) (fun (w : (Int32) × (Int32)) => At X 0 0 47 (mdW X.2.2.2.2 a thrown s past undos kept isk seen sn sf) [(0, .ref (a 0)), (2, .int w.1), (3, .int w.2)] []) o) : At X 0 0 4 (mdW X.2.2.2.2 a thrown s past undos kept isk seen sn sf) [(0, .ref (a 0)), (2, .int w.1), (3, .int w.2)] [] := by
  unfold fb_X9_bitAt_4 at h
  refine a_iload_n 5 1 hC dX9_bitAt_4 rfl rfl rfl ?_
  refine a_bipush 7 (v := (48 : Int32)) hC dX9_bitAt_5 rfl (by decide) ?_
  refine a_aload_n 8 0 hC dX9_bitAt_7 rfl rfl rfl ?_
  refine a_get 11 0 7 1 hC inB_X9 rfl rfl (by decide) wq601 rfl rfl dX9_bitAt_8 rfl ?_
  refine a_iconst 12 (v := (2 : Int32)) hC dX9_bitAt_11 rfl (by decide) ?_
  refine a_iconst 13 (v := (3 : Int32)) hC dX9_bitAt_12 rfl (by decide) ?_
  refine a_iload_n 14 2 hC dX9_bitAt_13 rfl rfl rfl ?_
  refine a_imul 15 hC dX9_bitAt_14 rfl ?_
  refine a_iadd 16 hC dX9_bitAt_15 rfl ?_
  refine a_iconst 17 (v := (1 : Int32)) hC dX9_bitAt_16 rfl (by decide) ?_
  refine a_iadd 18 hC dX9_bitAt_17 rfl ?_
  obtain ⟨n1, h⟩ := gdx h
  refine a_iald 19 1 hC rfl n1 dX9_bitAt_18 rfl ?_
  refine a_imul 20 hC dX9_bitAt_19 rfl ?_
  refine a_icmp_lt 47 23 hC dX9_bitAt_20 (by decide) rfl (fun c2 => ?_) (fun c2 => ?_)
  · have h := ifp c2 h
    obtain rfl := Option.some.inj h
    exact hk
  · have h := ifn c2 h
    refine a_iload_n 24 1 hC dX9_bitAt_23 rfl rfl rfl ?_
    refine a_bipush 26 (v := (48 : Int32)) hC dX9_bitAt_24 rfl (by decide) ?_
    refine a_aload_n 27 0 hC dX9_bitAt_26 rfl rfl rfl ?_
    refine a_get 30 0 7 1 hC inB_X9 rfl rfl (by decide) wq601 rfl rfl dX9_bitAt_27 rfl ?_
    refine a_iconst 31 (v := (2 : Int32)) hC dX9_bitAt_30 rfl (by decide) ?_
    refine a_iconst 32 (v := (3 : Int32)) hC dX9_bitAt_31 rfl (by decide) ?_
    refine a_iload_n 33 2 hC dX9_bitAt_32 rfl rfl rfl ?_
    refine a_imul 34 hC dX9_bitAt_33 rfl ?_
    refine a_iadd 35 hC dX9_bitAt_34 rfl ?_
    refine a_iconst 36 (v := (1 : Int32)) hC dX9_bitAt_35 rfl (by decide) ?_
    refine a_iadd 37 hC dX9_bitAt_36 rfl ?_
    obtain ⟨n3, h⟩ := gdx h
    refine a_iald 38 1 hC rfl n3 dX9_bitAt_37 rfl ?_
    refine a_imul 39 hC dX9_bitAt_38 rfl ?_
    refine a_isub 40 hC dX9_bitAt_39 rfl ?_
    obtain ⟨v4, ev4, h⟩ := nmx h
    refine a_nm ev4 ?_
    refine a_istore_n 41 [(0, .ref (a 0)), (2, .int v4), (3, .int w.2)] [1, 0, 2] hC dX9_bitAt_40 rfl rfl (by decide) rfl ?_
    obtain ⟨v5, ev5, h⟩ := nmx h
    refine a_iinc 44 2 [(0, .ref (a 0)), (2, .int v4), (3, .int v5)] [1, 2, 0] hC dX9_bitAt_41 rfl rfl (v := v5) (by rw [ev5]; rfl) (by decide) rfl ?_
    refine a_goto 4 hC dX9_bitAt_44 (by decide) ?_
    obtain rfl := Option.some.inj h
    exact hk
def f_X9_bitAt (x1 : Int32) (s : Nat → Int32) : Option ((Int32)) := ((lp (fb_X9_bitAt_4 s) 100000 (x1, (0 : Int32))).bind fun r6 => (gd ((2 : Int32) + ((3 : Int32) * r6.2)) 95 ((f_X9_around ((s (Int32.toNatClampNeg ((2 : Int32) + ((3 : Int32) * r6.2)))) + (r6.1 / (48 : Int32))) s).bind fun r8 => (nm (q_rem r6.1 (48 : Int32)) fun v9 => (if (32 : Int32) ≤ v9 then ((f_X9_sync (v9 - (32 : Int32))).bind fun r11 => (some r11)) else (gd (((2 : Int32) + ((3 : Int32) * r6.2)) + (2 : Int32)) 95 ((f_X9_wordOf r8 (s (Int32.toNatClampNeg (((2 : Int32) + ((3 : Int32) * r6.2)) + (2 : Int32)))) s).bind fun r13 => (some ((q_ushr r13 v9) &&& (1 : Int32))))))))))
set_option maxRecDepth 100000 in
set_option maxHeartbeats 4000000 in
theorem t_X9_bitAt {X : qX} (hC : Ok X rm_X9_bitAt cX9_bitAt 6 RX9 (some .int)) (a : Nat → Nat) (x1 : Int32) (thrown : Int32) (s : Nat → Int32) (past : Nat → Int32) (undos : Int32) (kept : Nat → Int32) (isk : Nat → Int32) (seen : Int32) (sn : Nat → Int32) (sf : Nat → Int32) (res : (Int32)) (hR : Rt X 0 0 (fun r w => r = some (.int res) ∧ w = (mdW X.2.2.2.2 a thrown s past undos kept isk seen sn sf))) (h : f_X9_bitAt x1 s = some res) : At X 0 0 0 (mdW X.2.2.2.2 a thrown s past undos kept isk seen sn sf) [(0, .ref (a 0)), (1, .int x1)] [] := by
  unfold f_X9_bitAt at h
  refine a_iload_n 1 1 hC dX9_bitAt_0 rfl rfl rfl ?_
  refine a_istore_n 2 [(0, .ref (a 0)), (1, .int x1), (2, .int x1)] [1, 2, 0] hC dX9_bitAt_1 rfl rfl (by decide) rfl ?_
  refine a_iconst 3 (v := (0 : Int32)) hC dX9_bitAt_2 rfl (by decide) ?_
  refine a_istore_n 4 [(0, .ref (a 0)), (1, .int x1), (2, .int x1), (3, .int (0 : Int32))] [1, 2, 3, 0] hC dX9_bitAt_3 rfl rfl (by decide) rfl ?_
  obtain ⟨r6, gr6, h⟩ := bd h
  refine a_lv [0, 2, 3] [(0, .ref (a 0)), (2, .int x1), (3, .int (0 : Int32))] rfl ?_
  refine lp_walk (Wh := (fun (u4 : ((Int32) × (Int32))) => At X 0 0 4 (mdW X.2.2.2.2 a thrown s past undos kept isk seen sn sf) [(0, .ref (a 0)), (2, .int u4.1), (3, .int u4.2)] [])) (We := (fun (u4 : (Int32) × (Int32)) => At X 0 0 47 (mdW X.2.2.2.2 a thrown s past undos kept isk seen sn sf) [(0, .ref (a 0)), (2, .int u4.1), (3, .int u4.2)] [])) (fun u9 o9 hb9 hk9 => tb_X9_bitAt_4 hC a thrown s past undos kept isk seen sn sf u9 o9 hb9 hk9) 100000 (x1, (0 : Int32)) r6 gr6 ?_
  show At X 0 0 47 (mdW X.2.2.2.2 a thrown s past undos kept isk seen sn sf) [(0, .ref (a 0)), (2, .int r6.1), (3, .int r6.2)] []
  refine a_aload_n 48 0 hC dX9_bitAt_47 rfl rfl rfl ?_
  refine a_aload_n 49 0 hC dX9_bitAt_48 rfl rfl rfl ?_
  refine a_get 52 0 7 1 hC inB_X9 rfl rfl (by decide) wq601 rfl rfl dX9_bitAt_49 rfl ?_
  refine a_iconst 53 (v := (2 : Int32)) hC dX9_bitAt_52 rfl (by decide) ?_
  refine a_iconst 54 (v := (3 : Int32)) hC dX9_bitAt_53 rfl (by decide) ?_
  refine a_iload_n 55 2 hC dX9_bitAt_54 rfl rfl rfl ?_
  refine a_imul 56 hC dX9_bitAt_55 rfl ?_
  refine a_iadd 57 hC dX9_bitAt_56 rfl ?_
  obtain ⟨n7, h⟩ := gdx h
  refine a_iald 58 1 hC rfl n7 dX9_bitAt_57 rfl ?_
  refine a_iload_n 59 1 hC dX9_bitAt_58 rfl rfl rfl ?_
  refine a_bipush 61 (v := (48 : Int32)) hC dX9_bitAt_59 rfl (by decide) ?_
  refine a_idiv 62 hC dX9_bitAt_61 rfl (by decide) ?_
  refine a_iadd 63 hC dX9_bitAt_62 rfl ?_
  obtain ⟨r8, gr8, h⟩ := bd h
  refine a_callVs 66 (mdW X.2.2.2.2 a thrown s past undos kept isk seen sn sf) 0 7 [.int ((s (Int32.toNatClampNeg ((2 : Int32) + ((3 : Int32) * r6.2)))) + (r6.1 / (48 : Int32)))] [] (some (.int r8)) [.int r8] hC (c_X9_around X.1.2.1 X.2.2.2.1 X.2.2.2.2 a ((s (Int32.toNatClampNeg ((2 : Int32) + ((3 : Int32) * r6.2)))) + (r6.1 / (48 : Int32))) thrown s past undos kept isk seen sn sf r8 gr8) ⟨wq679, wq30, wq682, ds_X9_around, by decide, by decide⟩ wq681 wq9 rfl rfl (Nat.le_of_ble_eq_true rfl) dX9_bitAt_63 rfl rfl rfl ⟨(Nat.le_refl _), (Nat.le_refl _)⟩ rfl rfl rfl ?_
  refine a_istore 68 [(0, .ref (a 0)), (2, .int r6.1), (3, .int r6.2), (4, .int r8)] [1, 2, 3, 0] hC dX9_bitAt_66 rfl (by decide) rfl ?_
  refine a_iload_n 69 1 hC dX9_bitAt_68 rfl rfl rfl ?_
  refine a_bipush 71 (v := (48 : Int32)) hC dX9_bitAt_69 rfl (by decide) ?_
  refine a_rem 72 hC dX9_bitAt_71 rfl (by decide) ?_
  obtain ⟨v9, ev9, h⟩ := nmx h
  refine a_nm ev9 ?_
  refine a_istore 74 [(0, .ref (a 0)), (2, .int r6.1), (3, .int r6.2), (4, .int r8), (5, .int v9)] [1, 2, 3, 4, 0] hC dX9_bitAt_72 rfl (by decide) rfl ?_
  refine a_iload 76 4 hC dX9_bitAt_74 rfl rfl ?_
  refine a_bipush 78 (v := (32 : Int32)) hC dX9_bitAt_76 rfl (by decide) ?_
  refine a_icmp_ge 107 81 hC dX9_bitAt_78 (by decide) rfl (fun c10 => ?_) (fun c10 => ?_)
  · have h := ifp c10 h
    refine a_iload 109 4 hC dX9_bitAt_107 rfl rfl ?_
    refine a_bipush 111 (v := (32 : Int32)) hC dX9_bitAt_109 rfl (by decide) ?_
    refine a_isub 112 hC dX9_bitAt_111 rfl ?_
    obtain ⟨r11, gr11, h⟩ := bd h
    refine a_call0 115 [.int (v9 - (32 : Int32))] [] (.int r11) hC (c_X9_sync X.1.2.1 X.2.2.2.1 X.2.2.2.2 (v9 - (32 : Int32)) r11 gr11) ⟨wq715, wq30, wq717, ds_X9_sync, by decide, by decide⟩ wq716 rfl rfl (Nat.le_of_ble_eq_true rfl) dX9_bitAt_112 rfl rfl rfl ⟨(Nat.le_refl _), (Nat.le_refl _)⟩ ?_
    obtain rfl := Option.some.inj h
    exact a_iret hC hR ⟨rfl, rfl⟩ (Nat.le_refl _) (Nat.le_refl _) dX9_bitAt_115
  · have h := ifn c10 h
    refine a_aload_n 82 0 hC dX9_bitAt_81 rfl rfl rfl ?_
    refine a_iload 84 3 hC dX9_bitAt_82 rfl rfl ?_
    refine a_aload_n 85 0 hC dX9_bitAt_84 rfl rfl rfl ?_
    refine a_get 88 0 7 1 hC inB_X9 rfl rfl (by decide) wq601 rfl rfl dX9_bitAt_85 rfl ?_
    refine a_iconst 89 (v := (2 : Int32)) hC dX9_bitAt_88 rfl (by decide) ?_
    refine a_iconst 90 (v := (3 : Int32)) hC dX9_bitAt_89 rfl (by decide) ?_
    refine a_iload_n 91 2 hC dX9_bitAt_90 rfl rfl rfl ?_
    refine a_imul 92 hC dX9_bitAt_91 rfl ?_
    refine a_iadd 93 hC dX9_bitAt_92 rfl ?_
    refine a_iconst 94 (v := (2 : Int32)) hC dX9_bitAt_93 rfl (by decide) ?_
    refine a_iadd 95 hC dX9_bitAt_94 rfl ?_
    obtain ⟨n12, h⟩ := gdx h
    refine a_iald 96 1 hC rfl n12 dX9_bitAt_95 rfl ?_
    obtain ⟨r13, gr13, h⟩ := bd h
    refine a_callVs 99 (mdW X.2.2.2.2 a thrown s past undos kept isk seen sn sf) 0 7 [.int r8, .int (s (Int32.toNatClampNeg (((2 : Int32) + ((3 : Int32) * r6.2)) + (2 : Int32))))] [] (some (.int r13)) [.int r13] hC (c_X9_wordOf X.1.2.1 X.2.2.2.1 X.2.2.2.2 a r8 (s (Int32.toNatClampNeg (((2 : Int32) + ((3 : Int32) * r6.2)) + (2 : Int32)))) thrown s past undos kept isk seen sn sf r13 gr13) ⟨wq703, wq30, wq706, ds_X9_wordOf, by decide, by decide⟩ wq705 wq12 rfl rfl (Nat.le_of_ble_eq_true rfl) dX9_bitAt_96 rfl rfl rfl ⟨(Nat.le_refl _), (Nat.le_refl _)⟩ rfl rfl rfl ?_
    refine a_iload 101 4 hC dX9_bitAt_99 rfl rfl ?_
    refine a_iushr 102 hC dX9_bitAt_101 rfl ?_
    refine a_iconst 103 (v := (1 : Int32)) hC dX9_bitAt_102 rfl (by decide) ?_
    refine a_iand 104 hC dX9_bitAt_103 rfl ?_
    refine a_goto 115 hC dX9_bitAt_104 (by decide) ?_
    obtain rfl := Option.some.inj h
    exact a_iret hC hR ⟨rfl, rfl⟩ (Nat.le_refl _) (Nat.le_refl _) dX9_bitAt_115
theorem c_X9_bitAt (l : Launch) (D : va_G) (z : ClassId × ClassId × ClassId) (a : Nat → Nat) (x1 : Int32) (thrown : Int32) (s : Nat → Int32) (past : Nat → Int32) (undos : Int32) (kept : Nat → Int32) (isk : Nat → Int32) (seen : Int32) (sn : Nat → Int32) (sf : Nat → Int32) (res : (Int32)) (h : f_X9_bitAt x1 s = some res) : Ct l D z yX9_bitAt cX9_bitAt 6 (some .int) rm_X9_bitAt [.ref (a 0), .int x1] (mdW z a thrown s past undos kept isk seen sn sf) (fun r w => r = some (.int res) ∧ w = (mdW z a thrown s past undos kept isk seen sn sf)) := by
  refine Ct.of (by decide +kernel) (Nat.le_of_ble_eq_true rfl) (fun X hC hl hz hn hR => ?_)
  have hz1 : X.2.2.2.2 = z := by rw [hz]
  subst hz1
  exact t_X9_bitAt hC a x1 thrown s past undos kept isk seen sn sf res hR h

/-! X9_bit -/
abbrev rm_X9_bit : Room := { frames := 5, cells := 0, slots := 0, locals := 107 }
theorem ds_X9_bit : yX9_bit.cls ≠ "java/lang/invoke/MethodHandle" ∧ yX9_bit.cls ≠ "java/lang/invoke/VarHandle" ∧ (parseMethodDescriptor yX9_bit.desc).map (fun d => d.parameters.length) = some 1 := by decide +kernel
def f_X9_bit (x1 : Int32) (thrown : Int32) (s : Nat → Int32) : Option ((Int32) × (Int32)) := ((f_X9_tape s).bind fun r1 => ((f_X9_in x1 (0 : Int32) (r1 - (1 : Int32))).bind fun r2 => (if r2 = (0 : Int32) then (some ((-1 : Int32), (0 : Int32))) else ((f_X9_bitAt x1 s).bind fun r4 => (some (r4, (0 : Int32)))))))
set_option maxRecDepth 100000 in
set_option maxHeartbeats 4000000 in
theorem t_X9_bit {X : qX} (hC : Ok X rm_X9_bit cX9_bit 2 RX9 (some .int)) (a : Nat → Nat) (x1 : Int32) (thrown : Int32) (s : Nat → Int32) (past : Nat → Int32) (undos : Int32) (kept : Nat → Int32) (isk : Nat → Int32) (seen : Int32) (sn : Nat → Int32) (sf : Nat → Int32) (res : (Int32) × (Int32)) (hR : Rt X 0 0 (fun r w => r = some (.int res.1) ∧ w = (mdW X.2.2.2.2 a res.2 s past undos kept isk seen sn sf))) (h : f_X9_bit x1 thrown s = some res) : At X 0 0 0 (mdW X.2.2.2.2 a thrown s past undos kept isk seen sn sf) [(0, .ref (a 0)), (1, .int x1)] [] := by
  unfold f_X9_bit at h
  refine a_aload_n 1 0 hC dX9_bit_0 rfl rfl rfl ?_
  refine a_iconst 2 (v := (0 : Int32)) hC dX9_bit_1 rfl (by decide) ?_
  refine a_put 5 0 7 0 (mdW X.2.2.2.2 a (0 : Int32) s past undos kept isk seen sn sf) tyX9 hC inB_X9 tyX9_ok nmX9 rfl rfl (by decide) wq600 rfl rfl rfl rfl rfl (Nat.le_of_ble_eq_true rfl) dX9_bit_2 rfl rfl ?_
  refine a_iload_n 6 1 hC dX9_bit_5 rfl rfl rfl ?_
  refine a_iconst 7 (v := (0 : Int32)) hC dX9_bit_6 rfl (by decide) ?_
  refine a_aload_n 8 0 hC dX9_bit_7 rfl rfl rfl ?_
  obtain ⟨r1, gr1, h⟩ := bd h
  refine a_callVs 11 (mdW X.2.2.2.2 a (0 : Int32) s past undos kept isk seen sn sf) 0 7 [] [.int (0 : Int32), .int x1] (some (.int r1)) [.int r1, .int (0 : Int32), .int x1] hC (c_X9_tape X.1.2.1 X.2.2.2.1 X.2.2.2.2 a (0 : Int32) s past undos kept isk seen sn sf r1 gr1) ⟨wq691, wq30, wq694, ds_X9_tape, by decide, by decide⟩ wq693 wq10 rfl rfl (Nat.le_of_ble_eq_true rfl) dX9_bit_8 rfl rfl rfl ⟨(Nat.le_refl _), (Nat.le_refl _)⟩ rfl rfl rfl ?_
  refine a_iconst 12 (v := (1 : Int32)) hC dX9_bit_11 rfl (by decide) ?_
  refine a_isub 13 hC dX9_bit_12 rfl ?_
  obtain ⟨r2, gr2, h⟩ := bd h
  refine a_call0 16 [.int x1, .int (0 : Int32), .int (r1 - (1 : Int32))] [] (.int r2) hC (c_X9_in X.1.2.1 X.2.2.2.1 X.2.2.2.2 x1 (0 : Int32) (r1 - (1 : Int32)) r2 gr2) ⟨wq649, wq30, wq651, ds_X9_in, by decide, by decide⟩ wq650 rfl rfl (Nat.le_of_ble_eq_true rfl) dX9_bit_13 rfl rfl rfl ⟨(Nat.le_refl _), (Nat.le_refl _)⟩ ?_
  refine a_if_eq 27 19 hC dX9_bit_16 (by decide) rfl (fun c3 => ?_) (fun c3 => ?_)
  · have h := ifp c3 h
    refine a_iconst 28 (v := (-1 : Int32)) hC dX9_bit_27 rfl (by decide) ?_
    obtain rfl := Option.some.inj h
    exact a_iret hC hR ⟨rfl, rfl⟩ (Nat.le_refl _) (Nat.le_refl _) dX9_bit_28
  · have h := ifn c3 h
    refine a_aload_n 20 0 hC dX9_bit_19 rfl rfl rfl ?_
    refine a_iload_n 21 1 hC dX9_bit_20 rfl rfl rfl ?_
    obtain ⟨r4, gr4, h⟩ := bd h
    refine a_callVs 24 (mdW X.2.2.2.2 a (0 : Int32) s past undos kept isk seen sn sf) 0 7 [.int x1] [] (some (.int r4)) [.int r4] hC (c_X9_bitAt X.1.2.1 X.2.2.2.1 X.2.2.2.2 a x1 (0 : Int32) s past undos kept isk seen sn sf r4 gr4) ⟨wq699, wq30, wq702, ds_X9_bitAt, by decide, by decide⟩ wq701 wq11 rfl rfl (Nat.le_of_ble_eq_true rfl) dX9_bit_21 rfl rfl rfl ⟨(Nat.le_refl _), (Nat.le_refl _)⟩ rfl rfl rfl ?_
    refine a_goto 28 hC dX9_bit_24 (by decide) ?_
    obtain rfl := Option.some.inj h
    exact a_iret hC hR ⟨rfl, rfl⟩ (Nat.le_refl _) (Nat.le_refl _) dX9_bit_28
theorem c_X9_bit (l : Launch) (D : va_G) (z : ClassId × ClassId × ClassId) (a : Nat → Nat) (x1 : Int32) (thrown : Int32) (s : Nat → Int32) (past : Nat → Int32) (undos : Int32) (kept : Nat → Int32) (isk : Nat → Int32) (seen : Int32) (sn : Nat → Int32) (sf : Nat → Int32) (res : (Int32) × (Int32)) (h : f_X9_bit x1 thrown s = some res) : Ct l D z yX9_bit cX9_bit 2 (some .int) rm_X9_bit [.ref (a 0), .int x1] (mdW z a thrown s past undos kept isk seen sn sf) (fun r w => r = some (.int res.1) ∧ w = (mdW z a res.2 s past undos kept isk seen sn sf)) := by
  refine Ct.of (by decide +kernel) (Nat.le_of_ble_eq_true rfl) (fun X hC hl hz hn hR => ?_)
  have hz1 : X.2.2.2.2 = z := by rw [hz]
  subst hz1
  exact t_X9_bit hC a x1 thrown s past undos kept isk seen sn sf res hR h

/-! X9_cell -/
abbrev rm_X9_cell : Room := { frames := 0, cells := 0, slots := 0, locals := 0 }
theorem ds_X9_cell : yX9_cell.cls ≠ "java/lang/invoke/MethodHandle" ∧ yX9_cell.cls ≠ "java/lang/invoke/VarHandle" ∧ (parseMethodDescriptor yX9_cell.desc).map (fun d => d.parameters.length) = some 1 := by decide +kernel
def f_X9_cell (x1 : Int32) (s : Nat → Int32) : Option ((Nat → Int32)) := (nm ((((3 : Int32) * (s 21)) + x1) / (4 : Int32)) fun v1 => (nm (upd s 21 v1) fun sq2 => (if (1 : Int32) ≤ (sq2 21) then (nm (sq2 21) fun v4 => (nm (upd sq2 21 v4) fun sq5 => (some sq5))) else (nm (upd sq2 21 (1 : Int32)) fun sq6 => (some sq6)))))
set_option maxRecDepth 100000 in
set_option maxHeartbeats 4000000 in
theorem t_X9_cell {X : qX} (hC : Ok X rm_X9_cell cX9_cell 2 RX9 none) (a : Nat → Nat) (x1 : Int32) (thrown : Int32) (s : Nat → Int32) (past : Nat → Int32) (undos : Int32) (kept : Nat → Int32) (isk : Nat → Int32) (seen : Int32) (sn : Nat → Int32) (sf : Nat → Int32) (res : (Nat → Int32)) (hR : Rt X 0 0 (fun r w => r = none ∧ w = (mdW X.2.2.2.2 a thrown res past undos kept isk seen sn sf))) (h : f_X9_cell x1 s = some res) : At X 0 0 0 (mdW X.2.2.2.2 a thrown s past undos kept isk seen sn sf) [(0, .ref (a 0)), (1, .int x1)] [] := by
  unfold f_X9_cell at h
  refine a_aload_n 1 0 hC dX9_cell_0 rfl rfl rfl ?_
  refine a_get 4 0 7 1 hC inB_X9 rfl rfl (by decide) wq601 rfl rfl dX9_cell_1 rfl ?_
  refine a_bipush 6 (v := (21 : Int32)) hC dX9_cell_4 rfl (by decide) ?_
  refine a_iconst 7 (v := (3 : Int32)) hC dX9_cell_6 rfl (by decide) ?_
  refine a_aload_n 8 0 hC dX9_cell_7 rfl rfl rfl ?_
  refine a_get 11 0 7 1 hC inB_X9 rfl rfl (by decide) wq601 rfl rfl dX9_cell_8 rfl ?_
  refine a_bipush 13 (v := (21 : Int32)) hC dX9_cell_11 rfl (by decide) ?_
  refine a_ialdc 14 1 21 hC rfl rfl (vp_inc (by decide)) dX9_cell_13 rfl ?_
  refine a_imul 15 hC dX9_cell_14 rfl ?_
  refine a_iload_n 16 1 hC dX9_cell_15 rfl rfl rfl ?_
  refine a_iadd 17 hC dX9_cell_16 rfl ?_
  refine a_iconst 18 (v := (4 : Int32)) hC dX9_cell_17 rfl (by decide) ?_
  refine a_idiv 19 hC dX9_cell_18 rfl (by decide) ?_
  obtain ⟨v1, ev1, h⟩ := nmx h
  refine a_nm ev1 ?_
  obtain ⟨sq2, esq2, h⟩ := nmx h
  refine a_iastc 20 1 21 (mdW X.2.2.2.2 a thrown sq2 past undos kept isk seen sn sf) hC rfl rfl (vp_inc (by decide)) dX9_cell_19 rfl (by rw [esq2]; rfl) ?_
  refine a_aload_n 21 0 hC dX9_cell_20 rfl rfl rfl ?_
  refine a_get 24 0 7 1 hC inB_X9 rfl rfl (by decide) wq601 rfl rfl dX9_cell_21 rfl ?_
  refine a_bipush 26 (v := (21 : Int32)) hC dX9_cell_24 rfl (by decide) ?_
  refine a_aload_n 27 0 hC dX9_cell_26 rfl rfl rfl ?_
  refine a_get 30 0 7 1 hC inB_X9 rfl rfl (by decide) wq601 rfl rfl dX9_cell_27 rfl ?_
  refine a_bipush 32 (v := (21 : Int32)) hC dX9_cell_30 rfl (by decide) ?_
  refine a_ialdc 33 1 21 hC rfl rfl (vp_inc (by decide)) dX9_cell_32 rfl ?_
  refine a_iconst 34 (v := (1 : Int32)) hC dX9_cell_33 rfl (by decide) ?_
  refine a_icmp_ge 41 37 hC dX9_cell_34 (by decide) rfl (fun c3 => ?_) (fun c3 => ?_)
  · have h := ifp c3 h
    refine a_aload_n 42 0 hC dX9_cell_41 rfl rfl rfl ?_
    refine a_get 45 0 7 1 hC inB_X9 rfl rfl (by decide) wq601 rfl rfl dX9_cell_42 rfl ?_
    refine a_bipush 47 (v := (21 : Int32)) hC dX9_cell_45 rfl (by decide) ?_
    refine a_ialdc 48 1 21 hC rfl rfl (vp_inc (by decide)) dX9_cell_47 rfl ?_
    obtain ⟨v4, ev4, h⟩ := nmx h
    refine a_nm ev4 ?_
    obtain ⟨sq5, esq5, h⟩ := nmx h
    refine a_iastc 49 1 21 (mdW X.2.2.2.2 a thrown sq5 past undos kept isk seen sn sf) hC rfl rfl (vp_inc (by decide)) dX9_cell_48 rfl (by rw [esq5]; rfl) ?_
    obtain rfl := Option.some.inj h
    exact a_vret hC hR ⟨rfl, rfl⟩ (Nat.le_refl _) (Nat.le_refl _) dX9_cell_49
  · have h := ifn c3 h
    refine a_iconst 38 (v := (1 : Int32)) hC dX9_cell_37 rfl (by decide) ?_
    refine a_goto 48 hC dX9_cell_38 (by decide) ?_
    obtain ⟨sq6, esq6, h⟩ := nmx h
    refine a_iastc 49 1 21 (mdW X.2.2.2.2 a thrown sq6 past undos kept isk seen sn sf) hC rfl rfl (vp_inc (by decide)) dX9_cell_48 rfl (by rw [esq6]; rfl) ?_
    obtain rfl := Option.some.inj h
    exact a_vret hC hR ⟨rfl, rfl⟩ (Nat.le_refl _) (Nat.le_refl _) dX9_cell_49
theorem c_X9_cell (l : Launch) (D : va_G) (z : ClassId × ClassId × ClassId) (a : Nat → Nat) (x1 : Int32) (thrown : Int32) (s : Nat → Int32) (past : Nat → Int32) (undos : Int32) (kept : Nat → Int32) (isk : Nat → Int32) (seen : Int32) (sn : Nat → Int32) (sf : Nat → Int32) (res : (Nat → Int32)) (h : f_X9_cell x1 s = some res) : Ct l D z yX9_cell cX9_cell 2 none rm_X9_cell [.ref (a 0), .int x1] (mdW z a thrown s past undos kept isk seen sn sf) (fun r w => r = none ∧ w = (mdW z a thrown res past undos kept isk seen sn sf)) := by
  refine Ct.of (by decide +kernel) (Nat.le_of_ble_eq_true rfl) (fun X hC hl hz hn hR => ?_)
  have hz1 : X.2.2.2.2 = z := by rw [hz]
  subst hz1
  exact t_X9_cell hC a x1 thrown s past undos kept isk seen sn sf res hR h

/-! X9_isSync -/
abbrev rm_X9_isSync : Room := { frames := 1, cells := 0, slots := 0, locals := 20 }
theorem ds_X9_isSync : yX9_isSync.cls ≠ "java/lang/invoke/MethodHandle" ∧ yX9_isSync.cls ≠ "java/lang/invoke/VarHandle" ∧ (parseMethodDescriptor yX9_isSync.desc).map (fun d => d.parameters.length) = some 2 := by decide +kernel
def f_X9_isSync_53 (x1 : Int32) (x2 : Int32) (s : Nat → Int32) (v4 : Int32) (y0 : Int32) : Option (((Int32) × (Int32)) ⊕ ((Int32))) := (nm (v4 + (1 : Int32)) fun v3 => (some (.inl (y0, v3))))
set_option maxRecDepth 100000 in
set_option maxHeartbeats 4000000 in
theorem t_X9_isSync_53 {X : qX} (hC : Ok X rm_X9_isSync cX9_isSync 5 RX9 (some .boolean)) (a : Nat → Nat) (x1 : Int32) (x2 : Int32) (thrown : Int32) (s : Nat → Int32) (past : Nat → Int32) (undos : Int32) (kept : Nat → Int32) (isk : Nat → Int32) (seen : Int32) (sn : Nat → Int32) (sf : Nat → Int32) (v4 : Int32) (y0 : Int32) (o : (((Int32) × (Int32))) ⊕ (((Int32)))) (h : f_X9_isSync_53 x1 x2 s v4 y0 = some o) (hk : Sum.elim (fun (w : ((Int32) × (Int32))) => At X 0 0 5 (mdW X.2.2.2.2 a thrown s past undos kept isk seen sn sf) [(0, .ref (a 0)), (1, .int x1), (2, .int x2), (3, .int w.1), (4, .int w.2)] []) (fun (w : (Int32)) => At X 0 0 60 (mdW X.2.2.2.2 a thrown s past undos kept isk seen sn sf) [(3, .int w)] []) o) : At X 0 0 53 (mdW X.2.2.2.2 a thrown s past undos kept isk seen sn sf) [(0, .ref (a 0)), (1, .int x1), (2, .int x2), (4, .int v4)] [.int y0] := by
  unfold f_X9_isSync_53 at h
  refine a_istore_n 54 [(0, .ref (a 0)), (1, .int x1), (2, .int x2), (3, .int y0), (4, .int v4)] [1, 2, 3, 0, 4] hC dX9_isSync_53 rfl rfl (by decide) rfl ?_
  obtain ⟨v3, ev3, h⟩ := nmx h
  refine a_iinc 57 4 [(0, .ref (a 0)), (1, .int x1), (2, .int x2), (3, .int y0), (4, .int v3)] [1, 2, 3, 4, 0] hC dX9_isSync_54 rfl rfl (v := v3) (by rw [ev3]; rfl) (by decide) rfl ?_
  refine a_goto 5 hC dX9_isSync_57 (by decide) ?_
  obtain rfl := Option.some.inj h
  exact hk
def f_X9_isSync_52 (x1 : Int32) (x2 : Int32) (s : Nat → Int32) (v4 : Int32) : Option (((Int32) × (Int32)) ⊕ ((Int32))) := (f_X9_isSync_53 x1 x2 s v4 (0 : Int32))
set_option maxRecDepth 100000 in
set_option maxHeartbeats 4000000 in
theorem t_X9_isSync_52 {X : qX} (hC : Ok X rm_X9_isSync cX9_isSync 5 RX9 (some .boolean)) (a : Nat → Nat) (x1 : Int32) (x2 : Int32) (thrown : Int32) (s : Nat → Int32) (past : Nat → Int32) (undos : Int32) (kept : Nat → Int32) (isk : Nat → Int32) (seen : Int32) (sn : Nat → Int32) (sf : Nat → Int32) (v4 : Int32) (o : (((Int32) × (Int32))) ⊕ (((Int32)))) (h : f_X9_isSync_52 x1 x2 s v4 = some o) (hk : Sum.elim (fun (w : ((Int32) × (Int32))) => At X 0 0 5 (mdW X.2.2.2.2 a thrown s past undos kept isk seen sn sf) [(0, .ref (a 0)), (1, .int x1), (2, .int x2), (3, .int w.1), (4, .int w.2)] []) (fun (w : (Int32)) => At X 0 0 60 (mdW X.2.2.2.2 a thrown s past undos kept isk seen sn sf) [(3, .int w)] []) o) : At X 0 0 52 (mdW X.2.2.2.2 a thrown s past undos kept isk seen sn sf) [(0, .ref (a 0)), (1, .int x1), (2, .int x2), (4, .int v4)] [] := by
  unfold f_X9_isSync_52 at h
  refine a_iconst 53 (v := (0 : Int32)) hC dX9_isSync_52 rfl (by decide) ?_
  exact t_X9_isSync_53 hC a x1 x2 thrown s past undos kept isk seen sn sf v4 (0 : Int32) o h hk
def f_X9_isSync_42 (x1 : Int32) (x2 : Int32) (s : Nat → Int32) (v4 : Int32) (y0 : Int32) (y1 : Int32) : Option (((Int32) × (Int32)) ⊕ ((Int32))) := ((f_X9_sync y0).bind fun r6 => (if y1 = r6 then (f_X9_isSync_53 x1 x2 s v4 (1 : Int32)) else (f_X9_isSync_52 x1 x2 s v4)))
set_option maxRecDepth 100000 in
set_option maxHeartbeats 4000000 in
theorem t_X9_isSync_42 {X : qX} (hC : Ok X rm_X9_isSync cX9_isSync 5 RX9 (some .boolean)) (a : Nat → Nat) (x1 : Int32) (x2 : Int32) (thrown : Int32) (s : Nat → Int32) (past : Nat → Int32) (undos : Int32) (kept : Nat → Int32) (isk : Nat → Int32) (seen : Int32) (sn : Nat → Int32) (sf : Nat → Int32) (v4 : Int32) (y0 : Int32) (y1 : Int32) (o : (((Int32) × (Int32))) ⊕ (((Int32)))) (h : f_X9_isSync_42 x1 x2 s v4 y0 y1 = some o) (hk : Sum.elim (fun (w : ((Int32) × (Int32))) => At X 0 0 5 (mdW X.2.2.2.2 a thrown s past undos kept isk seen sn sf) [(0, .ref (a 0)), (1, .int x1), (2, .int x2), (3, .int w.1), (4, .int w.2)] []) (fun (w : (Int32)) => At X 0 0 60 (mdW X.2.2.2.2 a thrown s past undos kept isk seen sn sf) [(3, .int w)] []) o) : At X 0 0 42 (mdW X.2.2.2.2 a thrown s past undos kept isk seen sn sf) [(0, .ref (a 0)), (1, .int x1), (2, .int x2), (4, .int v4)] [.int y0, .int y1] := by
  unfold f_X9_isSync_42 at h
  obtain ⟨r6, gr6, h⟩ := bd h
  refine a_call0 45 [.int y0] [.int y1] (.int r6) hC (c_X9_sync X.1.2.1 X.2.2.2.1 X.2.2.2.2 y0 r6 gr6) ⟨wq715, wq30, wq717, ds_X9_sync, by decide, by decide⟩ wq716 rfl rfl (Nat.le_of_ble_eq_true rfl) dX9_isSync_42 rfl rfl rfl ⟨(Nat.le_refl _), (Nat.le_refl _)⟩ ?_
  refine a_icmp_ne 52 48 hC dX9_isSync_45 (by decide) rfl (fun c7 => ?_) (fun c7 => ?_)
  · have h := ifn c7 h
    exact t_X9_isSync_52 hC a x1 x2 thrown s past undos kept isk seen sn sf v4 o h hk
  · have h := ifp c7 h
    refine a_iconst 49 (v := (1 : Int32)) hC dX9_isSync_48 rfl (by decide) ?_
    refine a_goto 53 hC dX9_isSync_49 (by decide) ?_
    exact t_X9_isSync_53 hC a x1 x2 thrown s past undos kept isk seen sn sf v4 (1 : Int32) o h hk
def fb_X9_isSync_5 (x1 : Int32) (x2 : Int32) (s : Nat → Int32) (w : ((Int32) × (Int32))) : Option (((Int32) × (Int32)) ⊕ ((Int32))) := (if (16 : Int32) ≤ w.2 then (some (.inr w.1)) else (if w.1 = (0 : Int32) then (f_X9_isSync_52 x1 x2 s w.2) else (gd (((47 : Int32) + x1) + w.2) 95 (if x2 = (0 : Int32) then (f_X9_isSync_42 x1 x2 s w.2 ((15 : Int32) - w.2) (s (Int32.toNatClampNeg (((47 : Int32) + x1) + w.2)))) else (f_X9_isSync_42 x1 x2 s w.2 w.2 (s (Int32.toNatClampNeg (((47 : Int32) + x1) + w.2))))))))
set_option maxRecDepth 100000 in
set_option maxHeartbeats 4000000 in
theorem tb_X9_isSync_5 {X : qX} (hC : Ok X rm_X9_isSync cX9_isSync 5 RX9 (some .boolean)) (a : Nat → Nat) (x1 : Int32) (x2 : Int32) (thrown : Int32) (s : Nat → Int32) (past : Nat → Int32) (undos : Int32) (kept : Nat → Int32) (isk : Nat → Int32) (seen : Int32) (sn : Nat → Int32) (sf : Nat → Int32) (w : ((Int32) × (Int32))) (o : ((Int32) × (Int32)) ⊕ (((Int32)))) (h : fb_X9_isSync_5 x1 x2 s w = some o) (hk : Sum.elim (fun (w : ((Int32) × (Int32))) => At X 0 0 5 (mdW X.2.2.2.2 a thrown s past undos kept isk seen sn sf) [(0, .ref (a 0)), (1, .int x1), (2, .int x2), (3, .int w.1), (4, .int w.2)] []) (fun (w : (Int32)) => At X 0 0 60 (mdW X.2.2.2.2 a thrown s past undos kept isk seen sn sf) [(3, .int w)] []) o) : At X 0 0 5 (mdW X.2.2.2.2 a thrown s past undos kept isk seen sn sf) [(0, .ref (a 0)), (1, .int x1), (2, .int x2), (3, .int w.1), (4, .int w.2)] [] := by
  unfold fb_X9_isSync_5 at h
  refine a_iload 7 4 hC dX9_isSync_5 rfl rfl ?_
  refine a_bipush 9 (v := (16 : Int32)) hC dX9_isSync_7 rfl (by decide) ?_
  refine a_icmp_ge 60 12 hC dX9_isSync_9 (by decide) rfl (fun c1 => ?_) (fun c1 => ?_)
  · have h := ifp c1 h
    obtain rfl := Option.some.inj h
    refine a_lv [3] [(3, .int w.1)] rfl ?_
    exact hk
  · have h := ifn c1 h
    refine a_iload_n 13 3 hC dX9_isSync_12 rfl rfl rfl ?_
    refine a_if_eq 52 16 hC dX9_isSync_13 (by decide) rfl (fun c2 => ?_) (fun c2 => ?_)
    · have h := ifp c2 h
      refine a_lv [0, 1, 2, 4] [(0, .ref (a 0)), (1, .int x1), (2, .int x2), (4, .int w.2)] rfl ?_
      exact t_X9_isSync_52 hC a x1 x2 thrown s past undos kept isk seen sn sf w.2 o h hk
    · have h := ifn c2 h
      refine a_aload_n 17 0 hC dX9_isSync_16 rfl rfl rfl ?_
      refine a_get 20 0 7 1 hC inB_X9 rfl rfl (by decide) wq601 rfl rfl dX9_isSync_17 rfl ?_
      refine a_bipush 22 (v := (47 : Int32)) hC dX9_isSync_20 rfl (by decide) ?_
      refine a_iload_n 23 1 hC dX9_isSync_22 rfl rfl rfl ?_
      refine a_iadd 24 hC dX9_isSync_23 rfl ?_
      refine a_iload 26 4 hC dX9_isSync_24 rfl rfl ?_
      refine a_iadd 27 hC dX9_isSync_26 rfl ?_
      obtain ⟨n4, h⟩ := gdx h
      refine a_iald 28 1 hC rfl n4 dX9_isSync_27 rfl ?_
      refine a_iload_n 29 2 hC dX9_isSync_28 rfl rfl rfl ?_
      refine a_if_eq 37 32 hC dX9_isSync_29 (by decide) rfl (fun c5 => ?_) (fun c5 => ?_)
      · have h := ifp c5 h
        refine a_bipush 39 (v := (15 : Int32)) hC dX9_isSync_37 rfl (by decide) ?_
        refine a_iload 41 4 hC dX9_isSync_39 rfl rfl ?_
        refine a_isub 42 hC dX9_isSync_41 rfl ?_
        refine a_lv [0, 1, 2, 4] [(0, .ref (a 0)), (1, .int x1), (2, .int x2), (4, .int w.2)] rfl ?_
        exact t_X9_isSync_42 hC a x1 x2 thrown s past undos kept isk seen sn sf w.2 ((15 : Int32) - w.2) (s (Int32.toNatClampNeg (((47 : Int32) + x1) + w.2))) o h hk
      · have h := ifn c5 h
        refine a_iload 34 4 hC dX9_isSync_32 rfl rfl ?_
        refine a_goto 42 hC dX9_isSync_34 (by decide) ?_
        refine a_lv [0, 1, 2, 4] [(0, .ref (a 0)), (1, .int x1), (2, .int x2), (4, .int w.2)] rfl ?_
        exact t_X9_isSync_42 hC a x1 x2 thrown s past undos kept isk seen sn sf w.2 w.2 (s (Int32.toNatClampNeg (((47 : Int32) + x1) + w.2))) o h hk
def f_X9_isSync (x1 : Int32) (x2 : Int32) (s : Nat → Int32) : Option ((Int32)) := ((lp (fb_X9_isSync_5 x1 x2 s) 100000 ((1 : Int32), (0 : Int32))).bind fun r8 => (bl r8 (some r8)))
set_option maxRecDepth 100000 in
set_option maxHeartbeats 4000000 in
theorem t_X9_isSync {X : qX} (hC : Ok X rm_X9_isSync cX9_isSync 5 RX9 (some .boolean)) (a : Nat → Nat) (x1 : Int32) (x2 : Int32) (thrown : Int32) (s : Nat → Int32) (past : Nat → Int32) (undos : Int32) (kept : Nat → Int32) (isk : Nat → Int32) (seen : Int32) (sn : Nat → Int32) (sf : Nat → Int32) (res : (Int32)) (hR : Rt X 0 0 (fun r w => r = some (.int res) ∧ w = (mdW X.2.2.2.2 a thrown s past undos kept isk seen sn sf))) (h : f_X9_isSync x1 x2 s = some res) : At X 0 0 0 (mdW X.2.2.2.2 a thrown s past undos kept isk seen sn sf) [(0, .ref (a 0)), (1, .int x1), (2, .int x2)] [] := by
  unfold f_X9_isSync at h
  refine a_iconst 1 (v := (1 : Int32)) hC dX9_isSync_0 rfl (by decide) ?_
  refine a_istore_n 2 [(0, .ref (a 0)), (1, .int x1), (2, .int x2), (3, .int (1 : Int32))] [1, 2, 3, 0] hC dX9_isSync_1 rfl rfl (by decide) rfl ?_
  refine a_iconst 3 (v := (0 : Int32)) hC dX9_isSync_2 rfl (by decide) ?_
  refine a_istore 5 [(0, .ref (a 0)), (1, .int x1), (2, .int x2), (3, .int (1 : Int32)), (4, .int (0 : Int32))] [1, 2, 3, 4, 0] hC dX9_isSync_3 rfl (by decide) rfl ?_
  obtain ⟨r8, gr8, h⟩ := bd h
  refine lp_walk (Wh := (fun (u5 : ((Int32) × (Int32))) => At X 0 0 5 (mdW X.2.2.2.2 a thrown s past undos kept isk seen sn sf) [(0, .ref (a 0)), (1, .int x1), (2, .int x2), (3, .int u5.1), (4, .int u5.2)] [])) (We := (fun (u5 : (Int32)) => At X 0 0 60 (mdW X.2.2.2.2 a thrown s past undos kept isk seen sn sf) [(3, .int u5)] [])) (fun u9 o9 hb9 hk9 => tb_X9_isSync_5 hC a x1 x2 thrown s past undos kept isk seen sn sf u9 o9 hb9 hk9) 100000 ((1 : Int32), (0 : Int32)) r8 gr8 ?_
  show At X 0 0 60 (mdW X.2.2.2.2 a thrown s past undos kept isk seen sn sf) [(3, .int r8)] []
  refine a_iload_n 61 0 hC dX9_isSync_60 rfl rfl rfl ?_
  obtain ⟨nb, h⟩ := blx h
  obtain rfl := Option.some.inj h
  exact a_zret hC hR ⟨rfl, rfl⟩ nb (Nat.le_refl _) (Nat.le_refl _) dX9_isSync_61
theorem c_X9_isSync (l : Launch) (D : va_G) (z : ClassId × ClassId × ClassId) (a : Nat → Nat) (x1 : Int32) (x2 : Int32) (thrown : Int32) (s : Nat → Int32) (past : Nat → Int32) (undos : Int32) (kept : Nat → Int32) (isk : Nat → Int32) (seen : Int32) (sn : Nat → Int32) (sf : Nat → Int32) (res : (Int32)) (h : f_X9_isSync x1 x2 s = some res) : Ct l D z yX9_isSync cX9_isSync 5 (some .boolean) rm_X9_isSync [.ref (a 0), .int x1, .int x2] (mdW z a thrown s past undos kept isk seen sn sf) (fun r w => r = some (.int res) ∧ w = (mdW z a thrown s past undos kept isk seen sn sf)) := by
  refine Ct.of (by decide +kernel) (Nat.le_of_ble_eq_true rfl) (fun X hC hl hz hn hR => ?_)
  have hz1 : X.2.2.2.2 = z := by rw [hz]
  subst hz1
  exact t_X9_isSync hC a x1 x2 thrown s past undos kept isk seen sn sf res hR h

/-! X9_finds -/
abbrev rm_X9_finds : Room := { frames := 4, cells := 0, slots := 0, locals := 82 }
theorem ds_X9_finds : yX9_finds.cls ≠ "java/lang/invoke/MethodHandle" ∧ yX9_finds.cls ≠ "java/lang/invoke/VarHandle" ∧ (parseMethodDescriptor yX9_finds.desc).map (fun d => d.parameters.length) = some 2 := by decide +kernel
def f_X9_finds_231 (x1 : Int32) (x2 : Int32) (x3 : Int32) (x5 : Int32) (y0 : Int32) (y1 : Int32) (s : Nat → Int32) : Option ((Nat → Int32)) := (gd y1 95 (nm (upd s (Int32.toNatClampNeg y1) y0) fun sq18 => (nm (upd sq18 29 (1 : Int32)) fun sq20 => (nm (upd sq20 30 x5) fun sq21 => (nm (upd sq21 31 x3) fun sq22 => (nm ((q_ushr x1 (28 : Int32)) &&& (15 : Int32)) fun v23 => (nm (upd sq22 32 v23) fun sq24 => (nm (upd sq24 33 x2) fun sq25 => (if (sq25 28) ≤ (2 : Int32) then (some sq25) else (nm (upd sq25 34 x5) fun sq27 => (nm (upd sq27 35 x2) fun sq28 => (nm (upd sq28 36 (0 : Int32)) fun sq29 => (some sq29)))))))))))))
set_option maxRecDepth 100000 in
set_option maxHeartbeats 4000000 in
theorem t_X9_finds_231 {X : qX} (hC : Ok X rm_X9_finds cX9_finds 7 RX9 none) (a : Nat → Nat) (x1 : Int32) (x2 : Int32) (x3 : Int32) (x5 : Int32) (y0 : Int32) (y1 : Int32) (thrown : Int32) (s : Nat → Int32) (past : Nat → Int32) (undos : Int32) (kept : Nat → Int32) (isk : Nat → Int32) (seen : Int32) (sn : Nat → Int32) (sf : Nat → Int32) (res : (Nat → Int32)) (hR : Rt X 0 0 (fun r w => r = none ∧ w = (mdW X.2.2.2.2 a thrown res past undos kept isk seen sn sf))) (h : f_X9_finds_231 x1 x2 x3 x5 y0 y1 s = some res) : At X 0 0 231 (mdW X.2.2.2.2 a thrown s past undos kept isk seen sn sf) [(0, .ref (a 0)), (1, .int x1), (2, .int x2), (3, .int x3), (5, .int x5)] [.int y0, .int y1, .ref (a 1)] := by
  unfold f_X9_finds_231 at h
  obtain ⟨n19, h⟩ := gdx h
  obtain ⟨sq18, esq18, h⟩ := nmx h
  refine a_iast 232 1 (mdW X.2.2.2.2 a thrown sq18 past undos kept isk seen sn sf) hC rfl n19 dX9_finds_231 rfl (by rw [esq18]; rfl) ?_
  refine a_aload_n 233 0 hC dX9_finds_232 rfl rfl rfl ?_
  refine a_get 236 0 7 1 hC inB_X9 rfl rfl (by decide) wq601 rfl rfl dX9_finds_233 rfl ?_
  refine a_bipush 238 (v := (29 : Int32)) hC dX9_finds_236 rfl (by decide) ?_
  refine a_iconst 239 (v := (1 : Int32)) hC dX9_finds_238 rfl (by decide) ?_
  obtain ⟨sq20, esq20, h⟩ := nmx h
  refine a_iastc 240 1 29 (mdW X.2.2.2.2 a thrown sq20 past undos kept isk seen sn sf) hC rfl rfl (vp_inc (by decide)) dX9_finds_239 rfl (by rw [esq20]; rfl) ?_
  refine a_aload_n 241 0 hC dX9_finds_240 rfl rfl rfl ?_
  refine a_get 244 0 7 1 hC inB_X9 rfl rfl (by decide) wq601 rfl rfl dX9_finds_241 rfl ?_
  refine a_bipush 246 (v := (30 : Int32)) hC dX9_finds_244 rfl (by decide) ?_
  refine a_iload 248 4 hC dX9_finds_246 rfl rfl ?_
  obtain ⟨sq21, esq21, h⟩ := nmx h
  refine a_iastc 249 1 30 (mdW X.2.2.2.2 a thrown sq21 past undos kept isk seen sn sf) hC rfl rfl (vp_inc (by decide)) dX9_finds_248 rfl (by rw [esq21]; rfl) ?_
  refine a_aload_n 250 0 hC dX9_finds_249 rfl rfl rfl ?_
  refine a_get 253 0 7 1 hC inB_X9 rfl rfl (by decide) wq601 rfl rfl dX9_finds_250 rfl ?_
  refine a_bipush 255 (v := (31 : Int32)) hC dX9_finds_253 rfl (by decide) ?_
  refine a_iload_n 256 3 hC dX9_finds_255 rfl rfl rfl ?_
  obtain ⟨sq22, esq22, h⟩ := nmx h
  refine a_iastc 257 1 31 (mdW X.2.2.2.2 a thrown sq22 past undos kept isk seen sn sf) hC rfl rfl (vp_inc (by decide)) dX9_finds_256 rfl (by rw [esq22]; rfl) ?_
  refine a_aload_n 258 0 hC dX9_finds_257 rfl rfl rfl ?_
  refine a_get 261 0 7 1 hC inB_X9 rfl rfl (by decide) wq601 rfl rfl dX9_finds_258 rfl ?_
  refine a_bipush 263 (v := (32 : Int32)) hC dX9_finds_261 rfl (by decide) ?_
  refine a_iload_n 264 1 hC dX9_finds_263 rfl rfl rfl ?_
  refine a_bipush 266 (v := (28 : Int32)) hC dX9_finds_264 rfl (by decide) ?_
  refine a_iushr 267 hC dX9_finds_266 rfl ?_
  refine a_bipush 269 (v := (15 : Int32)) hC dX9_finds_267 rfl (by decide) ?_
  refine a_iand 270 hC dX9_finds_269 rfl ?_
  obtain ⟨v23, ev23, h⟩ := nmx h
  refine a_nm ev23 ?_
  obtain ⟨sq24, esq24, h⟩ := nmx h
  refine a_iastc 271 1 32 (mdW X.2.2.2.2 a thrown sq24 past undos kept isk seen sn sf) hC rfl rfl (vp_inc (by decide)) dX9_finds_270 rfl (by rw [esq24]; rfl) ?_
  refine a_aload_n 272 0 hC dX9_finds_271 rfl rfl rfl ?_
  refine a_get 275 0 7 1 hC inB_X9 rfl rfl (by decide) wq601 rfl rfl dX9_finds_272 rfl ?_
  refine a_bipush 277 (v := (33 : Int32)) hC dX9_finds_275 rfl (by decide) ?_
  refine a_iload_n 278 2 hC dX9_finds_277 rfl rfl rfl ?_
  obtain ⟨sq25, esq25, h⟩ := nmx h
  refine a_iastc 279 1 33 (mdW X.2.2.2.2 a thrown sq25 past undos kept isk seen sn sf) hC rfl rfl (vp_inc (by decide)) dX9_finds_278 rfl (by rw [esq25]; rfl) ?_
  refine a_aload_n 280 0 hC dX9_finds_279 rfl rfl rfl ?_
  refine a_get 283 0 7 1 hC inB_X9 rfl rfl (by decide) wq601 rfl rfl dX9_finds_280 rfl ?_
  refine a_bipush 285 (v := (28 : Int32)) hC dX9_finds_283 rfl (by decide) ?_
  refine a_ialdc 286 1 28 hC rfl rfl (vp_inc (by decide)) dX9_finds_285 rfl ?_
  refine a_iconst 287 (v := (2 : Int32)) hC dX9_finds_286 rfl (by decide) ?_
  refine a_icmp_le 315 290 hC dX9_finds_287 (by decide) rfl (fun c26 => ?_) (fun c26 => ?_)
  · have h := ifp c26 h
    obtain rfl := Option.some.inj h
    exact a_vret hC hR ⟨rfl, rfl⟩ (Nat.le_refl _) (Nat.le_refl _) dX9_finds_315
  · have h := ifn c26 h
    refine a_aload_n 291 0 hC dX9_finds_290 rfl rfl rfl ?_
    refine a_get 294 0 7 1 hC inB_X9 rfl rfl (by decide) wq601 rfl rfl dX9_finds_291 rfl ?_
    refine a_bipush 296 (v := (34 : Int32)) hC dX9_finds_294 rfl (by decide) ?_
    refine a_iload 298 4 hC dX9_finds_296 rfl rfl ?_
    obtain ⟨sq27, esq27, h⟩ := nmx h
    refine a_iastc 299 1 34 (mdW X.2.2.2.2 a thrown sq27 past undos kept isk seen sn sf) hC rfl rfl (vp_inc (by decide)) dX9_finds_298 rfl (by rw [esq27]; rfl) ?_
    refine a_aload_n 300 0 hC dX9_finds_299 rfl rfl rfl ?_
    refine a_get 303 0 7 1 hC inB_X9 rfl rfl (by decide) wq601 rfl rfl dX9_finds_300 rfl ?_
    refine a_bipush 305 (v := (35 : Int32)) hC dX9_finds_303 rfl (by decide) ?_
    refine a_iload_n 306 2 hC dX9_finds_305 rfl rfl rfl ?_
    obtain ⟨sq28, esq28, h⟩ := nmx h
    refine a_iastc 307 1 35 (mdW X.2.2.2.2 a thrown sq28 past undos kept isk seen sn sf) hC rfl rfl (vp_inc (by decide)) dX9_finds_306 rfl (by rw [esq28]; rfl) ?_
    refine a_aload_n 308 0 hC dX9_finds_307 rfl rfl rfl ?_
    refine a_get 311 0 7 1 hC inB_X9 rfl rfl (by decide) wq601 rfl rfl dX9_finds_308 rfl ?_
    refine a_bipush 313 (v := (36 : Int32)) hC dX9_finds_311 rfl (by decide) ?_
    refine a_iconst 314 (v := (0 : Int32)) hC dX9_finds_313 rfl (by decide) ?_
    obtain ⟨sq29, esq29, h⟩ := nmx h
    refine a_iastc 315 1 36 (mdW X.2.2.2.2 a thrown sq29 past undos kept isk seen sn sf) hC rfl rfl (vp_inc (by decide)) dX9_finds_314 rfl (by rw [esq29]; rfl) ?_
    obtain rfl := Option.some.inj h
    exact a_vret hC hR ⟨rfl, rfl⟩ (Nat.le_refl _) (Nat.le_refl _) dX9_finds_315
def f_X9_finds_205 (x1 : Int32) (x2 : Int32) (x3 : Int32) (x5 : Int32) (x6 : Int32) (y0 : Int32) (y1 : Int32) (y2 : Int32) (s : Nat → Int32) : Option ((Nat → Int32)) := (nm (y1 + y0) fun v14 => (gd y2 95 (nm (upd s (Int32.toNatClampNeg y2) v14) fun sq15 => (if x6 = (0 : Int32) then (f_X9_finds_231 x1 x2 x3 x5 (1 : Int32) (28 : Int32) sq15) else (f_X9_finds_231 x1 x2 x3 x5 ((sq15 28) + (1 : Int32)) (28 : Int32) sq15)))))
set_option maxRecDepth 100000 in
set_option maxHeartbeats 4000000 in
theorem t_X9_finds_205 {X : qX} (hC : Ok X rm_X9_finds cX9_finds 7 RX9 none) (a : Nat → Nat) (x1 : Int32) (x2 : Int32) (x3 : Int32) (x5 : Int32) (x6 : Int32) (y0 : Int32) (y1 : Int32) (y2 : Int32) (thrown : Int32) (s : Nat → Int32) (past : Nat → Int32) (undos : Int32) (kept : Nat → Int32) (isk : Nat → Int32) (seen : Int32) (sn : Nat → Int32) (sf : Nat → Int32) (res : (Nat → Int32)) (hR : Rt X 0 0 (fun r w => r = none ∧ w = (mdW X.2.2.2.2 a thrown res past undos kept isk seen sn sf))) (h : f_X9_finds_205 x1 x2 x3 x5 x6 y0 y1 y2 s = some res) : At X 0 0 205 (mdW X.2.2.2.2 a thrown s past undos kept isk seen sn sf) [(0, .ref (a 0)), (1, .int x1), (2, .int x2), (3, .int x3), (5, .int x5), (6, .int x6)] [.int y0, .int y1, .int y2, .ref (a 1)] := by
  unfold f_X9_finds_205 at h
  refine a_iadd 206 hC dX9_finds_205 rfl ?_
  obtain ⟨v14, ev14, h⟩ := nmx h
  refine a_nm ev14 ?_
  obtain ⟨n16, h⟩ := gdx h
  obtain ⟨sq15, esq15, h⟩ := nmx h
  refine a_iast 207 1 (mdW X.2.2.2.2 a thrown sq15 past undos kept isk seen sn sf) hC rfl n16 dX9_finds_206 rfl (by rw [esq15]; rfl) ?_
  refine a_aload_n 208 0 hC dX9_finds_207 rfl rfl rfl ?_
  refine a_get 211 0 7 1 hC inB_X9 rfl rfl (by decide) wq601 rfl rfl dX9_finds_208 rfl ?_
  refine a_bipush 213 (v := (28 : Int32)) hC dX9_finds_211 rfl (by decide) ?_
  refine a_iload 215 5 hC dX9_finds_213 rfl rfl ?_
  refine a_if_eq 230 218 hC dX9_finds_215 (by decide) rfl (fun c17 => ?_) (fun c17 => ?_)
  · have h := ifp c17 h
    refine a_iconst 231 (v := (1 : Int32)) hC dX9_finds_230 rfl (by decide) ?_
    refine a_lv [0, 1, 2, 3, 4] [(0, .ref (a 0)), (1, .int x1), (2, .int x2), (3, .int x3), (5, .int x5)] rfl ?_
    exact t_X9_finds_231 hC a x1 x2 x3 x5 (1 : Int32) (28 : Int32) thrown sq15 past undos kept isk seen sn sf res hR h
  · have h := ifn c17 h
    refine a_aload_n 219 0 hC dX9_finds_218 rfl rfl rfl ?_
    refine a_get 222 0 7 1 hC inB_X9 rfl rfl (by decide) wq601 rfl rfl dX9_finds_219 rfl ?_
    refine a_bipush 224 (v := (28 : Int32)) hC dX9_finds_222 rfl (by decide) ?_
    refine a_ialdc 225 1 28 hC rfl rfl (vp_inc (by decide)) dX9_finds_224 rfl ?_
    refine a_iconst 226 (v := (1 : Int32)) hC dX9_finds_225 rfl (by decide) ?_
    refine a_iadd 227 hC dX9_finds_226 rfl ?_
    refine a_goto 231 hC dX9_finds_227 (by decide) ?_
    refine a_lv [0, 1, 2, 3, 4] [(0, .ref (a 0)), (1, .int x1), (2, .int x2), (3, .int x3), (5, .int x5)] rfl ?_
    exact t_X9_finds_231 hC a x1 x2 x3 x5 ((sq15 28) + (1 : Int32)) (28 : Int32) thrown sq15 past undos kept isk seen sn sf res hR h
def f_X9_finds_204 (x1 : Int32) (x2 : Int32) (x3 : Int32) (x5 : Int32) (x6 : Int32) (y0 : Int32) (y1 : Int32) (s : Nat → Int32) : Option ((Nat → Int32)) := (f_X9_finds_205 x1 x2 x3 x5 x6 (0 : Int32) y0 y1 s)
set_option maxRecDepth 100000 in
set_option maxHeartbeats 4000000 in
theorem t_X9_finds_204 {X : qX} (hC : Ok X rm_X9_finds cX9_finds 7 RX9 none) (a : Nat → Nat) (x1 : Int32) (x2 : Int32) (x3 : Int32) (x5 : Int32) (x6 : Int32) (y0 : Int32) (y1 : Int32) (thrown : Int32) (s : Nat → Int32) (past : Nat → Int32) (undos : Int32) (kept : Nat → Int32) (isk : Nat → Int32) (seen : Int32) (sn : Nat → Int32) (sf : Nat → Int32) (res : (Nat → Int32)) (hR : Rt X 0 0 (fun r w => r = none ∧ w = (mdW X.2.2.2.2 a thrown res past undos kept isk seen sn sf))) (h : f_X9_finds_204 x1 x2 x3 x5 x6 y0 y1 s = some res) : At X 0 0 204 (mdW X.2.2.2.2 a thrown s past undos kept isk seen sn sf) [(0, .ref (a 0)), (1, .int x1), (2, .int x2), (3, .int x3), (5, .int x5), (6, .int x6)] [.int y0, .int y1, .ref (a 1)] := by
  unfold f_X9_finds_204 at h
  refine a_iconst 205 (v := (0 : Int32)) hC dX9_finds_204 rfl (by decide) ?_
  exact t_X9_finds_205 hC a x1 x2 x3 x5 x6 (0 : Int32) y0 y1 thrown s past undos kept isk seen sn sf res hR h
def f_X9_finds_174 (x1 : Int32) (x2 : Int32) (x3 : Int32) (x5 : Int32) (y0 : Int32) (s : Nat → Int32) : Option ((Nat → Int32)) := (if (s 29) = (1 : Int32) then (if y0 = (0 : Int32) then (f_X9_finds_205 x1 x2 x3 x5 y0 (1 : Int32) (s 27) (27 : Int32) s) else (f_X9_finds_204 x1 x2 x3 x5 y0 (s 27) (27 : Int32) s)) else (f_X9_finds_204 x1 x2 x3 x5 y0 (s 27) (27 : Int32) s))
set_option maxRecDepth 100000 in
set_option maxHeartbeats 4000000 in
theorem t_X9_finds_174 {X : qX} (hC : Ok X rm_X9_finds cX9_finds 7 RX9 none) (a : Nat → Nat) (x1 : Int32) (x2 : Int32) (x3 : Int32) (x5 : Int32) (y0 : Int32) (thrown : Int32) (s : Nat → Int32) (past : Nat → Int32) (undos : Int32) (kept : Nat → Int32) (isk : Nat → Int32) (seen : Int32) (sn : Nat → Int32) (sf : Nat → Int32) (res : (Nat → Int32)) (hR : Rt X 0 0 (fun r w => r = none ∧ w = (mdW X.2.2.2.2 a thrown res past undos kept isk seen sn sf))) (h : f_X9_finds_174 x1 x2 x3 x5 y0 s = some res) : At X 0 0 174 (mdW X.2.2.2.2 a thrown s past undos kept isk seen sn sf) [(0, .ref (a 0)), (1, .int x1), (2, .int x2), (3, .int x3), (5, .int x5)] [.int y0] := by
  unfold f_X9_finds_174 at h
  refine a_istore 176 [(0, .ref (a 0)), (1, .int x1), (2, .int x2), (3, .int x3), (5, .int x5), (6, .int y0)] [1, 2, 3, 4, 5, 0] hC dX9_finds_174 rfl (by decide) rfl ?_
  refine a_aload_n 177 0 hC dX9_finds_176 rfl rfl rfl ?_
  refine a_get 180 0 7 1 hC inB_X9 rfl rfl (by decide) wq601 rfl rfl dX9_finds_177 rfl ?_
  refine a_bipush 182 (v := (27 : Int32)) hC dX9_finds_180 rfl (by decide) ?_
  refine a_dup2 183 hC dX9_finds_182 rfl rfl rfl ?_
  refine a_ialdc 184 1 27 hC rfl rfl (vp_inc (by decide)) dX9_finds_183 rfl ?_
  refine a_aload_n 185 0 hC dX9_finds_184 rfl rfl rfl ?_
  refine a_get 188 0 7 1 hC inB_X9 rfl rfl (by decide) wq601 rfl rfl dX9_finds_185 rfl ?_
  refine a_bipush 190 (v := (29 : Int32)) hC dX9_finds_188 rfl (by decide) ?_
  refine a_ialdc 191 1 29 hC rfl rfl (vp_inc (by decide)) dX9_finds_190 rfl ?_
  refine a_iconst 192 (v := (1 : Int32)) hC dX9_finds_191 rfl (by decide) ?_
  refine a_icmp_ne 204 195 hC dX9_finds_192 (by decide) rfl (fun c13 => ?_) (fun c13 => ?_)
  · have h := ifn c13 h
    exact t_X9_finds_204 hC a x1 x2 x3 x5 y0 (s 27) (27 : Int32) thrown s past undos kept isk seen sn sf res hR h
  · have h := ifp c13 h
    refine a_iload 197 5 hC dX9_finds_195 rfl rfl ?_
    refine a_if_ne 204 200 hC dX9_finds_197 (by decide) rfl (fun c30 => ?_) (fun c30 => ?_)
    · have h := ifn c30 h
      exact t_X9_finds_204 hC a x1 x2 x3 x5 y0 (s 27) (27 : Int32) thrown s past undos kept isk seen sn sf res hR h
    · have h := ifp c30 h
      refine a_iconst 201 (v := (1 : Int32)) hC dX9_finds_200 rfl (by decide) ?_
      refine a_goto 205 hC dX9_finds_201 (by decide) ?_
      exact t_X9_finds_205 hC a x1 x2 x3 x5 y0 (1 : Int32) (s 27) (27 : Int32) thrown s past undos kept isk seen sn sf res hR h
def f_X9_finds_173 (x1 : Int32) (x2 : Int32) (x3 : Int32) (x5 : Int32) (s : Nat → Int32) : Option ((Nat → Int32)) := (f_X9_finds_174 x1 x2 x3 x5 (0 : Int32) s)
set_option maxRecDepth 100000 in
set_option maxHeartbeats 4000000 in
theorem t_X9_finds_173 {X : qX} (hC : Ok X rm_X9_finds cX9_finds 7 RX9 none) (a : Nat → Nat) (x1 : Int32) (x2 : Int32) (x3 : Int32) (x5 : Int32) (thrown : Int32) (s : Nat → Int32) (past : Nat → Int32) (undos : Int32) (kept : Nat → Int32) (isk : Nat → Int32) (seen : Int32) (sn : Nat → Int32) (sf : Nat → Int32) (res : (Nat → Int32)) (hR : Rt X 0 0 (fun r w => r = none ∧ w = (mdW X.2.2.2.2 a thrown res past undos kept isk seen sn sf))) (h : f_X9_finds_173 x1 x2 x3 x5 s = some res) : At X 0 0 173 (mdW X.2.2.2.2 a thrown s past undos kept isk seen sn sf) [(0, .ref (a 0)), (1, .int x1), (2, .int x2), (3, .int x3), (5, .int x5)] [] := by
  unfold f_X9_finds_173 at h
  refine a_iconst 174 (v := (0 : Int32)) hC dX9_finds_173 rfl (by decide) ?_
  exact t_X9_finds_174 hC a x1 x2 x3 x5 (0 : Int32) thrown s past undos kept isk seen sn sf res hR h
def f_X9_finds_108 (x1 : Int32) (x2 : Int32) (x3 : Int32) (y0 : Int32) (s : Nat → Int32) : Option ((Nat → Int32)) := (if y0 = (-9 : Int32) then (nm ((s 25) + (1 : Int32)) fun v33 => (nm (upd s 25 v33) fun sq34 => (some sq34))) else (nm ((s 24) + (1 : Int32)) fun v10 => (nm (upd s 24 v10) fun sq11 => (if (sq11 29) = (1 : Int32) then ((f_X9_around ((sq11 30) + x2) sq11).bind fun r31 => (if y0 = r31 then (f_X9_finds_174 x1 x2 x3 y0 (1 : Int32) sq11) else (f_X9_finds_173 x1 x2 x3 y0 sq11))) else (f_X9_finds_173 x1 x2 x3 y0 sq11)))))
set_option maxRecDepth 100000 in
set_option maxHeartbeats 4000000 in
theorem t_X9_finds_108 {X : qX} (hC : Ok X rm_X9_finds cX9_finds 7 RX9 none) (a : Nat → Nat) (x1 : Int32) (x2 : Int32) (x3 : Int32) (y0 : Int32) (thrown : Int32) (s : Nat → Int32) (past : Nat → Int32) (undos : Int32) (kept : Nat → Int32) (isk : Nat → Int32) (seen : Int32) (sn : Nat → Int32) (sf : Nat → Int32) (res : (Nat → Int32)) (hR : Rt X 0 0 (fun r w => r = none ∧ w = (mdW X.2.2.2.2 a thrown res past undos kept isk seen sn sf))) (h : f_X9_finds_108 x1 x2 x3 y0 s = some res) : At X 0 0 108 (mdW X.2.2.2.2 a thrown s past undos kept isk seen sn sf) [(0, .ref (a 0)), (1, .int x1), (2, .int x2), (3, .int x3)] [.int y0] := by
  unfold f_X9_finds_108 at h
  refine a_istore 110 [(0, .ref (a 0)), (1, .int x1), (2, .int x2), (3, .int x3), (5, .int y0)] [1, 2, 3, 4, 0] hC dX9_finds_108 rfl (by decide) rfl ?_
  refine a_iload 112 4 hC dX9_finds_110 rfl rfl ?_
  refine a_bipush 114 (v := (-9 : Int32)) hC dX9_finds_112 rfl (by decide) ?_
  refine a_icmp_ne 129 117 hC dX9_finds_114 (by decide) rfl (fun c9 => ?_) (fun c9 => ?_)
  · have h := ifn c9 h
    refine a_aload_n 130 0 hC dX9_finds_129 rfl rfl rfl ?_
    refine a_get 133 0 7 1 hC inB_X9 rfl rfl (by decide) wq601 rfl rfl dX9_finds_130 rfl ?_
    refine a_bipush 135 (v := (24 : Int32)) hC dX9_finds_133 rfl (by decide) ?_
    refine a_dup2 136 hC dX9_finds_135 rfl rfl rfl ?_
    refine a_ialdc 137 1 24 hC rfl rfl (vp_inc (by decide)) dX9_finds_136 rfl ?_
    refine a_iconst 138 (v := (1 : Int32)) hC dX9_finds_137 rfl (by decide) ?_
    refine a_iadd 139 hC dX9_finds_138 rfl ?_
    obtain ⟨v10, ev10, h⟩ := nmx h
    refine a_nm ev10 ?_
    obtain ⟨sq11, esq11, h⟩ := nmx h
    refine a_iastc 140 1 24 (mdW X.2.2.2.2 a thrown sq11 past undos kept isk seen sn sf) hC rfl rfl (vp_inc (by decide)) dX9_finds_139 rfl (by rw [esq11]; rfl) ?_
    refine a_aload_n 141 0 hC dX9_finds_140 rfl rfl rfl ?_
    refine a_get 144 0 7 1 hC inB_X9 rfl rfl (by decide) wq601 rfl rfl dX9_finds_141 rfl ?_
    refine a_bipush 146 (v := (29 : Int32)) hC dX9_finds_144 rfl (by decide) ?_
    refine a_ialdc 147 1 29 hC rfl rfl (vp_inc (by decide)) dX9_finds_146 rfl ?_
    refine a_iconst 148 (v := (1 : Int32)) hC dX9_finds_147 rfl (by decide) ?_
    refine a_icmp_ne 173 151 hC dX9_finds_148 (by decide) rfl (fun c12 => ?_) (fun c12 => ?_)
    · have h := ifn c12 h
      exact t_X9_finds_173 hC a x1 x2 x3 y0 thrown sq11 past undos kept isk seen sn sf res hR h
    · have h := ifp c12 h
      refine a_iload 153 4 hC dX9_finds_151 rfl rfl ?_
      refine a_aload_n 154 0 hC dX9_finds_153 rfl rfl rfl ?_
      refine a_aload_n 155 0 hC dX9_finds_154 rfl rfl rfl ?_
      refine a_get 158 0 7 1 hC inB_X9 rfl rfl (by decide) wq601 rfl rfl dX9_finds_155 rfl ?_
      refine a_bipush 160 (v := (30 : Int32)) hC dX9_finds_158 rfl (by decide) ?_
      refine a_ialdc 161 1 30 hC rfl rfl (vp_inc (by decide)) dX9_finds_160 rfl ?_
      refine a_iload_n 162 2 hC dX9_finds_161 rfl rfl rfl ?_
      refine a_iadd 163 hC dX9_finds_162 rfl ?_
      obtain ⟨r31, gr31, h⟩ := bd h
      refine a_callVs 166 (mdW X.2.2.2.2 a thrown sq11 past undos kept isk seen sn sf) 0 7 [.int ((sq11 30) + x2)] [.int y0] (some (.int r31)) [.int r31, .int y0] hC (c_X9_around X.1.2.1 X.2.2.2.1 X.2.2.2.2 a ((sq11 30) + x2) thrown sq11 past undos kept isk seen sn sf r31 gr31) ⟨wq679, wq30, wq682, ds_X9_around, by decide, by decide⟩ wq681 wq9 rfl rfl (Nat.le_of_ble_eq_true rfl) dX9_finds_163 rfl rfl rfl ⟨(Nat.le_refl _), (Nat.le_refl _)⟩ rfl rfl rfl ?_
      refine a_icmp_ne 173 169 hC dX9_finds_166 (by decide) rfl (fun c32 => ?_) (fun c32 => ?_)
      · have h := ifn c32 h
        exact t_X9_finds_173 hC a x1 x2 x3 y0 thrown sq11 past undos kept isk seen sn sf res hR h
      · have h := ifp c32 h
        refine a_iconst 170 (v := (1 : Int32)) hC dX9_finds_169 rfl (by decide) ?_
        refine a_goto 174 hC dX9_finds_170 (by decide) ?_
        exact t_X9_finds_174 hC a x1 x2 x3 y0 (1 : Int32) thrown sq11 past undos kept isk seen sn sf res hR h
  · have h := ifp c9 h
    refine a_aload_n 118 0 hC dX9_finds_117 rfl rfl rfl ?_
    refine a_get 121 0 7 1 hC inB_X9 rfl rfl (by decide) wq601 rfl rfl dX9_finds_118 rfl ?_
    refine a_bipush 123 (v := (25 : Int32)) hC dX9_finds_121 rfl (by decide) ?_
    refine a_dup2 124 hC dX9_finds_123 rfl rfl rfl ?_
    refine a_ialdc 125 1 25 hC rfl rfl (vp_inc (by decide)) dX9_finds_124 rfl ?_
    refine a_iconst 126 (v := (1 : Int32)) hC dX9_finds_125 rfl (by decide) ?_
    refine a_iadd 127 hC dX9_finds_126 rfl ?_
    obtain ⟨v33, ev33, h⟩ := nmx h
    refine a_nm ev33 ?_
    obtain ⟨sq34, esq34, h⟩ := nmx h
    refine a_iastc 128 1 25 (mdW X.2.2.2.2 a thrown sq34 past undos kept isk seen sn sf) hC rfl rfl (vp_inc (by decide)) dX9_finds_127 rfl (by rw [esq34]; rfl) ?_
    obtain rfl := Option.some.inj h
    exact a_vret hC hR ⟨rfl, rfl⟩ (Nat.le_refl _) (Nat.le_refl _) dX9_finds_128
def f_X9_finds_86 (x1 : Int32) (x2 : Int32) (x3 : Int32) (y0 : Int32) (s : Nat → Int32) : Option ((Nat → Int32)) := (if y0 = (0 : Int32) then (f_X9_finds_108 x1 x2 x3 (-9 : Int32) s) else ((f_X9_frameOf (s 0) x3).bind fun r35 => (f_X9_finds_108 x1 x2 x3 r35 s)))
set_option maxRecDepth 100000 in
set_option maxHeartbeats 4000000 in
theorem t_X9_finds_86 {X : qX} (hC : Ok X rm_X9_finds cX9_finds 7 RX9 none) (a : Nat → Nat) (x1 : Int32) (x2 : Int32) (x3 : Int32) (y0 : Int32) (thrown : Int32) (s : Nat → Int32) (past : Nat → Int32) (undos : Int32) (kept : Nat → Int32) (isk : Nat → Int32) (seen : Int32) (sn : Nat → Int32) (sf : Nat → Int32) (res : (Nat → Int32)) (hR : Rt X 0 0 (fun r w => r = none ∧ w = (mdW X.2.2.2.2 a thrown res past undos kept isk seen sn sf))) (h : f_X9_finds_86 x1 x2 x3 y0 s = some res) : At X 0 0 86 (mdW X.2.2.2.2 a thrown s past undos kept isk seen sn sf) [(0, .ref (a 0)), (1, .int x1), (2, .int x2), (3, .int x3)] [.int y0] := by
  unfold f_X9_finds_86 at h
  refine a_istore 88 [(0, .ref (a 0)), (1, .int x1), (2, .int x2), (3, .int x3), (4, .int y0)] [1, 2, 3, 4, 0] hC dX9_finds_86 rfl (by decide) rfl ?_
  refine a_iload 90 4 hC dX9_finds_88 rfl rfl ?_
  refine a_if_eq 106 93 hC dX9_finds_90 (by decide) rfl (fun c8 => ?_) (fun c8 => ?_)
  · have h := ifp c8 h
    refine a_bipush 108 (v := (-9 : Int32)) hC dX9_finds_106 rfl (by decide) ?_
    refine a_lv [0, 1, 2, 3] [(0, .ref (a 0)), (1, .int x1), (2, .int x2), (3, .int x3)] rfl ?_
    exact t_X9_finds_108 hC a x1 x2 x3 (-9 : Int32) thrown s past undos kept isk seen sn sf res hR h
  · have h := ifn c8 h
    refine a_aload_n 94 0 hC dX9_finds_93 rfl rfl rfl ?_
    refine a_get 97 0 7 1 hC inB_X9 rfl rfl (by decide) wq601 rfl rfl dX9_finds_94 rfl ?_
    refine a_iconst 98 (v := (0 : Int32)) hC dX9_finds_97 rfl (by decide) ?_
    refine a_ialdc 99 1 0 hC rfl rfl (vp_inc (by decide)) dX9_finds_98 rfl ?_
    refine a_iload_n 100 3 hC dX9_finds_99 rfl rfl rfl ?_
    obtain ⟨r35, gr35, h⟩ := bd h
    refine a_call0 103 [.int (s 0), .int x3] [] (.int r35) hC (c_X9_frameOf X.1.2.1 X.2.2.2.1 X.2.2.2.2 (s 0) x3 r35 gr35) ⟨wq664, wq30, wq666, ds_X9_frameOf, by decide, by decide⟩ wq665 rfl rfl (Nat.le_of_ble_eq_true rfl) dX9_finds_100 rfl rfl rfl ⟨(Nat.le_refl _), (Nat.le_refl _)⟩ ?_
    refine a_goto 108 hC dX9_finds_103 (by decide) ?_
    refine a_lv [0, 1, 2, 3] [(0, .ref (a 0)), (1, .int x1), (2, .int x2), (3, .int x3)] rfl ?_
    exact t_X9_finds_108 hC a x1 x2 x3 r35 thrown s past undos kept isk seen sn sf res hR h
def f_X9_finds_85 (x1 : Int32) (x2 : Int32) (x3 : Int32) (s : Nat → Int32) : Option ((Nat → Int32)) := (f_X9_finds_86 x1 x2 x3 (0 : Int32) s)
set_option maxRecDepth 100000 in
set_option maxHeartbeats 4000000 in
theorem t_X9_finds_85 {X : qX} (hC : Ok X rm_X9_finds cX9_finds 7 RX9 none) (a : Nat → Nat) (x1 : Int32) (x2 : Int32) (x3 : Int32) (thrown : Int32) (s : Nat → Int32) (past : Nat → Int32) (undos : Int32) (kept : Nat → Int32) (isk : Nat → Int32) (seen : Int32) (sn : Nat → Int32) (sf : Nat → Int32) (res : (Nat → Int32)) (hR : Rt X 0 0 (fun r w => r = none ∧ w = (mdW X.2.2.2.2 a thrown res past undos kept isk seen sn sf))) (h : f_X9_finds_85 x1 x2 x3 s = some res) : At X 0 0 85 (mdW X.2.2.2.2 a thrown s past undos kept isk seen sn sf) [(0, .ref (a 0)), (1, .int x1), (2, .int x2), (3, .int x3)] [] := by
  unfold f_X9_finds_85 at h
  refine a_iconst 86 (v := (0 : Int32)) hC dX9_finds_85 rfl (by decide) ?_
  exact t_X9_finds_86 hC a x1 x2 x3 (0 : Int32) thrown s past undos kept isk seen sn sf res hR h
def f_X9_finds_71 (x1 : Int32) (x2 : Int32) (x3 : Int32) (y0 : Int32) (y1 : Int32) (s : Nat → Int32) : Option ((Nat → Int32)) := (if y1 = y0 then ((f_X9_areFigures x1).bind fun r38 => (if r38 = (0 : Int32) then (f_X9_finds_85 x1 x2 x3 s) else (f_X9_finds_86 x1 x2 x3 (1 : Int32) s))) else (f_X9_finds_85 x1 x2 x3 s))
set_option maxRecDepth 100000 in
set_option maxHeartbeats 4000000 in
theorem t_X9_finds_71 {X : qX} (hC : Ok X rm_X9_finds cX9_finds 7 RX9 none) (a : Nat → Nat) (x1 : Int32) (x2 : Int32) (x3 : Int32) (y0 : Int32) (y1 : Int32) (thrown : Int32) (s : Nat → Int32) (past : Nat → Int32) (undos : Int32) (kept : Nat → Int32) (isk : Nat → Int32) (seen : Int32) (sn : Nat → Int32) (sf : Nat → Int32) (res : (Nat → Int32)) (hR : Rt X 0 0 (fun r w => r = none ∧ w = (mdW X.2.2.2.2 a thrown res past undos kept isk seen sn sf))) (h : f_X9_finds_71 x1 x2 x3 y0 y1 s = some res) : At X 0 0 71 (mdW X.2.2.2.2 a thrown s past undos kept isk seen sn sf) [(0, .ref (a 0)), (1, .int x1), (2, .int x2), (3, .int x3)] [.int y0, .int y1] := by
  unfold f_X9_finds_71 at h
  refine a_icmp_ne 85 74 hC dX9_finds_71 (by decide) rfl (fun c37 => ?_) (fun c37 => ?_)
  · have h := ifn c37 h
    exact t_X9_finds_85 hC a x1 x2 x3 thrown s past undos kept isk seen sn sf res hR h
  · have h := ifp c37 h
    refine a_iload_n 75 1 hC dX9_finds_74 rfl rfl rfl ?_
    obtain ⟨r38, gr38, h⟩ := bd h
    refine a_call0 78 [.int x1] [] (.int r38) hC (c_X9_areFigures X.1.2.1 X.2.2.2.1 X.2.2.2.2 x1 r38 gr38) ⟨wq745, wq30, wq747, ds_X9_areFigures, by decide, by decide⟩ wq746 rfl rfl (Nat.le_of_ble_eq_true rfl) dX9_finds_75 rfl rfl rfl ⟨(Nat.le_refl _), (Nat.le_refl _)⟩ ?_
    refine a_if_eq 85 81 hC dX9_finds_78 (by decide) rfl (fun c39 => ?_) (fun c39 => ?_)
    · have h := ifp c39 h
      exact t_X9_finds_85 hC a x1 x2 x3 thrown s past undos kept isk seen sn sf res hR h
    · have h := ifn c39 h
      refine a_iconst 82 (v := (1 : Int32)) hC dX9_finds_81 rfl (by decide) ?_
      refine a_goto 86 hC dX9_finds_82 (by decide) ?_
      exact t_X9_finds_86 hC a x1 x2 x3 (1 : Int32) thrown s past undos kept isk seen sn sf res hR h
def f_X9_finds (x1 : Int32) (x2 : Int32) (s : Nat → Int32) : Option ((Nat → Int32)) := ((f_X9_two x1 (20 : Int32) (3 : Int32)).bind fun r1 => ((f_X9_two x1 (13 : Int32) (7 : Int32)).bind fun r2 => ((f_X9_two x1 (6 : Int32) (7 : Int32)).bind fun r3 => ((f_X9_two x1 (0 : Int32) (3 : Int32)).bind fun r4 => (nm (((((1000000 : Int32) * r1) + ((10000 : Int32) * r2)) + ((100 : Int32) * r3)) + r4) fun v5 => ((f_X9_isEven x1).bind fun r6 => (if r6 = (0 : Int32) then (f_X9_finds_85 x1 x2 v5 s) else (if (s 0) = (3 : Int32) then (f_X9_finds_71 x1 x2 v5 (1 : Int32) ((q_ushr x1 (26 : Int32)) &&& (1 : Int32)) s) else (f_X9_finds_71 x1 x2 v5 (0 : Int32) ((q_ushr x1 (26 : Int32)) &&& (1 : Int32)) s)))))))))
set_option maxRecDepth 100000 in
set_option maxHeartbeats 4000000 in
theorem t_X9_finds {X : qX} (hC : Ok X rm_X9_finds cX9_finds 7 RX9 none) (a : Nat → Nat) (x1 : Int32) (x2 : Int32) (thrown : Int32) (s : Nat → Int32) (past : Nat → Int32) (undos : Int32) (kept : Nat → Int32) (isk : Nat → Int32) (seen : Int32) (sn : Nat → Int32) (sf : Nat → Int32) (res : (Nat → Int32)) (hR : Rt X 0 0 (fun r w => r = none ∧ w = (mdW X.2.2.2.2 a thrown res past undos kept isk seen sn sf))) (h : f_X9_finds x1 x2 s = some res) : At X 0 0 0 (mdW X.2.2.2.2 a thrown s past undos kept isk seen sn sf) [(0, .ref (a 0)), (1, .int x1), (2, .int x2)] [] := by
  unfold f_X9_finds at h
  refine a_ldc 2 (v := (1000000 : Int32)) hC wq658 dX9_finds_0 rfl ?_
  refine a_iload_n 3 1 hC dX9_finds_2 rfl rfl rfl ?_
  refine a_bipush 5 (v := (20 : Int32)) hC dX9_finds_3 rfl (by decide) ?_
  refine a_iconst 6 (v := (3 : Int32)) hC dX9_finds_5 rfl (by decide) ?_
  obtain ⟨r1, gr1, h⟩ := bd h
  refine a_call0 9 [.int x1, .int (20 : Int32), .int (3 : Int32)] [.int (1000000 : Int32)] (.int r1) hC (c_X9_two X.1.2.1 X.2.2.2.1 X.2.2.2.2 x1 (20 : Int32) (3 : Int32) r1 gr1) ⟨wq742, wq30, wq744, ds_X9_two, by decide, by decide⟩ wq743 rfl rfl (Nat.le_of_ble_eq_true rfl) dX9_finds_6 rfl rfl rfl ⟨(Nat.le_refl _), (Nat.le_refl _)⟩ ?_
  refine a_imul 10 hC dX9_finds_9 rfl ?_
  refine a_sipush 13 (v := (10000 : Int32)) hC dX9_finds_10 rfl (by decide) ?_
  refine a_iload_n 14 1 hC dX9_finds_13 rfl rfl rfl ?_
  refine a_bipush 16 (v := (13 : Int32)) hC dX9_finds_14 rfl (by decide) ?_
  refine a_bipush 18 (v := (7 : Int32)) hC dX9_finds_16 rfl (by decide) ?_
  obtain ⟨r2, gr2, h⟩ := bd h
  refine a_call0 21 [.int x1, .int (13 : Int32), .int (7 : Int32)] [.int (10000 : Int32), .int ((1000000 : Int32) * r1)] (.int r2) hC (c_X9_two X.1.2.1 X.2.2.2.1 X.2.2.2.2 x1 (13 : Int32) (7 : Int32) r2 gr2) ⟨wq742, wq30, wq744, ds_X9_two, by decide, by decide⟩ wq743 rfl rfl (Nat.le_of_ble_eq_true rfl) dX9_finds_18 rfl rfl rfl ⟨(Nat.le_refl _), (Nat.le_refl _)⟩ ?_
  refine a_imul 22 hC dX9_finds_21 rfl ?_
  refine a_iadd 23 hC dX9_finds_22 rfl ?_
  refine a_bipush 25 (v := (100 : Int32)) hC dX9_finds_23 rfl (by decide) ?_
  refine a_iload_n 26 1 hC dX9_finds_25 rfl rfl rfl ?_
  refine a_bipush 28 (v := (6 : Int32)) hC dX9_finds_26 rfl (by decide) ?_
  refine a_bipush 30 (v := (7 : Int32)) hC dX9_finds_28 rfl (by decide) ?_
  obtain ⟨r3, gr3, h⟩ := bd h
  refine a_call0 33 [.int x1, .int (6 : Int32), .int (7 : Int32)] [.int (100 : Int32), .int (((1000000 : Int32) * r1) + ((10000 : Int32) * r2))] (.int r3) hC (c_X9_two X.1.2.1 X.2.2.2.1 X.2.2.2.2 x1 (6 : Int32) (7 : Int32) r3 gr3) ⟨wq742, wq30, wq744, ds_X9_two, by decide, by decide⟩ wq743 rfl rfl (Nat.le_of_ble_eq_true rfl) dX9_finds_30 rfl rfl rfl ⟨(Nat.le_refl _), (Nat.le_refl _)⟩ ?_
  refine a_imul 34 hC dX9_finds_33 rfl ?_
  refine a_iadd 35 hC dX9_finds_34 rfl ?_
  refine a_iload_n 36 1 hC dX9_finds_35 rfl rfl rfl ?_
  refine a_iconst 37 (v := (0 : Int32)) hC dX9_finds_36 rfl (by decide) ?_
  refine a_iconst 38 (v := (3 : Int32)) hC dX9_finds_37 rfl (by decide) ?_
  obtain ⟨r4, gr4, h⟩ := bd h
  refine a_call0 41 [.int x1, .int (0 : Int32), .int (3 : Int32)] [.int ((((1000000 : Int32) * r1) + ((10000 : Int32) * r2)) + ((100 : Int32) * r3))] (.int r4) hC (c_X9_two X.1.2.1 X.2.2.2.1 X.2.2.2.2 x1 (0 : Int32) (3 : Int32) r4 gr4) ⟨wq742, wq30, wq744, ds_X9_two, by decide, by decide⟩ wq743 rfl rfl (Nat.le_of_ble_eq_true rfl) dX9_finds_38 rfl rfl rfl ⟨(Nat.le_refl _), (Nat.le_refl _)⟩ ?_
  refine a_iadd 42 hC dX9_finds_41 rfl ?_
  obtain ⟨v5, ev5, h⟩ := nmx h
  refine a_nm ev5 ?_
  refine a_istore_n 43 [(0, .ref (a 0)), (1, .int x1), (2, .int x2), (3, .int v5)] [1, 2, 3, 0] hC dX9_finds_42 rfl rfl (by decide) rfl ?_
  refine a_iload_n 44 1 hC dX9_finds_43 rfl rfl rfl ?_
  obtain ⟨r6, gr6, h⟩ := bd h
  refine a_call0 47 [.int x1] [] (.int r6) hC (c_X9_isEven X.1.2.1 X.2.2.2.1 X.2.2.2.2 x1 r6 gr6) ⟨wq711, wq30, wq713, ds_X9_isEven, by decide, by decide⟩ wq712 rfl rfl (Nat.le_of_ble_eq_true rfl) dX9_finds_44 rfl rfl rfl ⟨(Nat.le_refl _), (Nat.le_refl _)⟩ ?_
  refine a_if_eq 85 50 hC dX9_finds_47 (by decide) rfl (fun c7 => ?_) (fun c7 => ?_)
  · have h := ifp c7 h
    exact t_X9_finds_85 hC a x1 x2 v5 thrown s past undos kept isk seen sn sf res hR h
  · have h := ifn c7 h
    refine a_iload_n 51 1 hC dX9_finds_50 rfl rfl rfl ?_
    refine a_bipush 53 (v := (26 : Int32)) hC dX9_finds_51 rfl (by decide) ?_
    refine a_iushr 54 hC dX9_finds_53 rfl ?_
    refine a_iconst 55 (v := (1 : Int32)) hC dX9_finds_54 rfl (by decide) ?_
    refine a_iand 56 hC dX9_finds_55 rfl ?_
    refine a_aload_n 57 0 hC dX9_finds_56 rfl rfl rfl ?_
    refine a_get 60 0 7 1 hC inB_X9 rfl rfl (by decide) wq601 rfl rfl dX9_finds_57 rfl ?_
    refine a_iconst 61 (v := (0 : Int32)) hC dX9_finds_60 rfl (by decide) ?_
    refine a_ialdc 62 1 0 hC rfl rfl (vp_inc (by decide)) dX9_finds_61 rfl ?_
    refine a_iconst 63 (v := (3 : Int32)) hC dX9_finds_62 rfl (by decide) ?_
    refine a_icmp_ne 70 66 hC dX9_finds_63 (by decide) rfl (fun c36 => ?_) (fun c36 => ?_)
    · have h := ifn c36 h
      refine a_iconst 71 (v := (0 : Int32)) hC dX9_finds_70 rfl (by decide) ?_
      exact t_X9_finds_71 hC a x1 x2 v5 (0 : Int32) ((q_ushr x1 (26 : Int32)) &&& (1 : Int32)) thrown s past undos kept isk seen sn sf res hR h
    · have h := ifp c36 h
      refine a_iconst 67 (v := (1 : Int32)) hC dX9_finds_66 rfl (by decide) ?_
      refine a_goto 71 hC dX9_finds_67 (by decide) ?_
      exact t_X9_finds_71 hC a x1 x2 v5 (1 : Int32) ((q_ushr x1 (26 : Int32)) &&& (1 : Int32)) thrown s past undos kept isk seen sn sf res hR h
theorem c_X9_finds (l : Launch) (D : va_G) (z : ClassId × ClassId × ClassId) (a : Nat → Nat) (x1 : Int32) (x2 : Int32) (thrown : Int32) (s : Nat → Int32) (past : Nat → Int32) (undos : Int32) (kept : Nat → Int32) (isk : Nat → Int32) (seen : Int32) (sn : Nat → Int32) (sf : Nat → Int32) (res : (Nat → Int32)) (h : f_X9_finds x1 x2 s = some res) : Ct l D z yX9_finds cX9_finds 7 none rm_X9_finds [.ref (a 0), .int x1, .int x2] (mdW z a thrown s past undos kept isk seen sn sf) (fun r w => r = none ∧ w = (mdW z a thrown res past undos kept isk seen sn sf)) := by
  refine Ct.of (by decide +kernel) (Nat.le_of_ble_eq_true rfl) (fun X hC hl hz hn hR => ?_)
  have hz1 : X.2.2.2.2 = z := by rw [hz]
  subst hz1
  exact t_X9_finds hC a x1 x2 thrown s past undos kept isk seen sn sf res hR h

/-! X9_tells -/
abbrev rm_X9_tells : Room := { frames := 5, cells := 0, slots := 0, locals := 108 }
theorem ds_X9_tells : yX9_tells.cls ≠ "java/lang/invoke/MethodHandle" ∧ yX9_tells.cls ≠ "java/lang/invoke/VarHandle" ∧ (parseMethodDescriptor yX9_tells.desc).map (fun d => d.parameters.length) = some 1 := by decide +kernel
def f_X9_tells_151 (x2 : Int32) (s : Nat → Int32) (v4 : Int32) (y0 : Int32) (y1 : Int32) (y3 : Int32) : Option (((Int32) × (Int32)) ⊕ ((Int32))) := (gd (y1 + y0) 95 (nm (y3 ||| ((s (Int32.toNatClampNeg (y1 + y0))) <<< (v4 &&& 31))) fun v12 => (nm (v4 + (1 : Int32)) fun v13 => (some (.inl (v12, v13))))))
set_option maxRecDepth 100000 in
set_option maxHeartbeats 4000000 in
theorem t_X9_tells_151 {X : qX} (hC : Ok X rm_X9_tells cX9_tells 5 RX9 none) (a : Nat → Nat) (x2 : Int32) (thrown : Int32) (s : Nat → Int32) (past : Nat → Int32) (undos : Int32) (kept : Nat → Int32) (isk : Nat → Int32) (seen : Int32) (sn : Nat → Int32) (sf : Nat → Int32) (v4 : Int32) (y0 : Int32) (y1 : Int32) (y3 : Int32) (o : (((Int32) × (Int32))) ⊕ (((Int32)))) (h : f_X9_tells_151 x2 s v4 y0 y1 y3 = some o) (hk : Sum.elim (fun (w : ((Int32) × (Int32))) => At X 0 0 123 (mdW X.2.2.2.2 a thrown s past undos kept isk seen sn sf) [(0, .ref (a 0)), (2, .int x2), (3, .int w.1), (4, .int w.2)] []) (fun (w : (Int32)) => At X 0 0 164 (mdW X.2.2.2.2 a thrown s past undos kept isk seen sn sf) [(0, .ref (a 0)), (2, .int x2), (3, .int w)] []) o) : At X 0 0 151 (mdW X.2.2.2.2 a thrown s past undos kept isk seen sn sf) [(0, .ref (a 0)), (2, .int x2), (4, .int v4)] [.int y0, .int y1, .ref (a 1), .int y3] := by
  unfold f_X9_tells_151 at h
  refine a_iadd 152 hC dX9_tells_151 rfl ?_
  obtain ⟨n11, h⟩ := gdx h
  refine a_iald 153 1 hC rfl n11 dX9_tells_152 rfl ?_
  refine a_iload 155 2 hC dX9_tells_153 rfl rfl ?_
  refine a_ishl 156 hC dX9_tells_155 rfl ?_
  refine a_ior 157 hC dX9_tells_156 rfl ?_
  obtain ⟨v12, ev12, h⟩ := nmx h
  refine a_nm ev12 ?_
  refine a_istore_n 158 [(0, .ref (a 0)), (2, .int x2), (3, .int v12), (4, .int v4)] [1, 2, 0, 3] hC dX9_tells_157 rfl rfl (by decide) rfl ?_
  obtain ⟨v13, ev13, h⟩ := nmx h
  refine a_iinc 161 3 [(0, .ref (a 0)), (2, .int x2), (3, .int v12), (4, .int v13)] [1, 2, 3, 0] hC dX9_tells_158 rfl rfl (v := v13) (by rw [ev13]; rfl) (by decide) rfl ?_
  refine a_goto 123 hC dX9_tells_161 (by decide) ?_
  obtain rfl := Option.some.inj h
  exact hk
def fb_X9_tells_123 (x2 : Int32) (s : Nat → Int32) (w : ((Int32) × (Int32))) : Option (((Int32) × (Int32)) ⊕ ((Int32))) := (if (32 : Int32) ≤ w.2 then (some (.inr w.1)) else (if x2 = (0 : Int32) then (f_X9_tells_151 x2 s w.2 ((47 : Int32) - w.2) (47 : Int32) w.1) else (f_X9_tells_151 x2 s w.2 w.2 (47 : Int32) w.1)))
set_option maxRecDepth 100000 in
set_option maxHeartbeats 4000000 in
theorem tb_X9_tells_123 {X : qX} (hC : Ok X rm_X9_tells cX9_tells 5 RX9 none) (a : Nat → Nat) (x2 : Int32) (thrown : Int32) (s : Nat → Int32) (past : Nat → Int32) (undos : Int32) (kept : Nat → Int32) (isk : Nat → Int32) (seen : Int32) (sn : Nat → Int32) (sf : Nat → Int32) (w : ((Int32) × (Int32))) (o : ((Int32) × (Int32)) ⊕ (((Int32)))) (h : fb_X9_tells_123 x2 s w = some o) (hk : Sum.elim (fun (w : ((Int32) × (Int32))) => At X 0 0 123 (mdW X.2.2.2.2 a thrown s past undos kept isk seen sn sf) [(0, .ref (a 0)), (2, .int x2), (3, .int w.1), (4, .int w.2)] []) (fun (w : (Int32)) => At X 0 0 164 (mdW X.2.2.2.2 a thrown s past undos kept isk seen sn sf) [(0, .ref (a 0)), (2, .int x2), (3, .int w)] []) o) : At X 0 0 123 (mdW X.2.2.2.2 a thrown s past undos kept isk seen sn sf) [(0, .ref (a 0)), (2, .int x2), (3, .int w.1), (4, .int w.2)] [] := by
  unfold fb_X9_tells_123 at h
  refine a_iload 125 3 hC dX9_tells_123 rfl rfl ?_
  refine a_bipush 127 (v := (32 : Int32)) hC dX9_tells_125 rfl (by decide) ?_
  refine a_icmp_ge 164 130 hC dX9_tells_127 (by decide) rfl (fun c9 => ?_) (fun c9 => ?_)
  · have h := ifp c9 h
    obtain rfl := Option.some.inj h
    refine a_lv [0, 1, 2] [(0, .ref (a 0)), (2, .int x2), (3, .int w.1)] rfl ?_
    exact hk
  · have h := ifn c9 h
    refine a_iload_n 131 2 hC dX9_tells_130 rfl rfl rfl ?_
    refine a_aload_n 132 0 hC dX9_tells_131 rfl rfl rfl ?_
    refine a_get 135 0 7 1 hC inB_X9 rfl rfl (by decide) wq601 rfl rfl dX9_tells_132 rfl ?_
    refine a_bipush 137 (v := (47 : Int32)) hC dX9_tells_135 rfl (by decide) ?_
    refine a_iload_n 138 1 hC dX9_tells_137 rfl rfl rfl ?_
    refine a_if_eq 146 141 hC dX9_tells_138 (by decide) rfl (fun c10 => ?_) (fun c10 => ?_)
    · have h := ifp c10 h
      refine a_bipush 148 (v := (47 : Int32)) hC dX9_tells_146 rfl (by decide) ?_
      refine a_iload 150 3 hC dX9_tells_148 rfl rfl ?_
      refine a_isub 151 hC dX9_tells_150 rfl ?_
      refine a_lv [0, 1, 3] [(0, .ref (a 0)), (2, .int x2), (4, .int w.2)] rfl ?_
      exact t_X9_tells_151 hC a x2 thrown s past undos kept isk seen sn sf w.2 ((47 : Int32) - w.2) (47 : Int32) w.1 o h hk
    · have h := ifn c10 h
      refine a_iload 143 3 hC dX9_tells_141 rfl rfl ?_
      refine a_goto 151 hC dX9_tells_143 (by decide) ?_
      refine a_lv [0, 1, 3] [(0, .ref (a 0)), (2, .int x2), (4, .int w.2)] rfl ?_
      exact t_X9_tells_151 hC a x2 thrown s past undos kept isk seen sn sf w.2 w.2 (47 : Int32) w.1 o h hk
def f_X9_tells_118 (x2 : Int32) (s : Nat → Int32) : Option ((Nat → Int32)) := ((lp (fb_X9_tells_123 x2 s) 100000 ((0 : Int32), (0 : Int32))).bind fun r14 => (nm (upd s 23 (0 : Int32)) fun sq15 => (if x2 = (0 : Int32) then ((f_X9_finds r14 (-1 : Int32) sq15).bind fun r17 => (some r17)) else ((f_X9_finds r14 (1 : Int32) sq15).bind fun r18 => (some r18)))))
set_option maxRecDepth 100000 in
set_option maxHeartbeats 4000000 in
theorem t_X9_tells_118 {X : qX} (hC : Ok X rm_X9_tells cX9_tells 5 RX9 none) (a : Nat → Nat) (x2 : Int32) (thrown : Int32) (s : Nat → Int32) (past : Nat → Int32) (undos : Int32) (kept : Nat → Int32) (isk : Nat → Int32) (seen : Int32) (sn : Nat → Int32) (sf : Nat → Int32) (res : (Nat → Int32)) (hR : Rt X 0 0 (fun r w => r = none ∧ w = (mdW X.2.2.2.2 a thrown res past undos kept isk seen sn sf))) (h : f_X9_tells_118 x2 s = some res) : At X 0 0 118 (mdW X.2.2.2.2 a thrown s past undos kept isk seen sn sf) [(0, .ref (a 0)), (2, .int x2)] [] := by
  unfold f_X9_tells_118 at h
  refine a_iconst 119 (v := (0 : Int32)) hC dX9_tells_118 rfl (by decide) ?_
  refine a_istore_n 120 [(0, .ref (a 0)), (2, .int x2), (3, .int (0 : Int32))] [1, 2, 0] hC dX9_tells_119 rfl rfl (by decide) rfl ?_
  refine a_iconst 121 (v := (0 : Int32)) hC dX9_tells_120 rfl (by decide) ?_
  refine a_istore 123 [(0, .ref (a 0)), (2, .int x2), (3, .int (0 : Int32)), (4, .int (0 : Int32))] [1, 2, 3, 0] hC dX9_tells_121 rfl (by decide) rfl ?_
  obtain ⟨r14, gr14, h⟩ := bd h
  refine lp_walk (Wh := (fun (u123 : ((Int32) × (Int32))) => At X 0 0 123 (mdW X.2.2.2.2 a thrown s past undos kept isk seen sn sf) [(0, .ref (a 0)), (2, .int x2), (3, .int u123.1), (4, .int u123.2)] [])) (We := (fun (u123 : (Int32)) => At X 0 0 164 (mdW X.2.2.2.2 a thrown s past undos kept isk seen sn sf) [(0, .ref (a 0)), (2, .int x2), (3, .int u123)] [])) (fun u9 o9 hb9 hk9 => tb_X9_tells_123 hC a x2 thrown s past undos kept isk seen sn sf u9 o9 hb9 hk9) 100000 ((0 : Int32), (0 : Int32)) r14 gr14 ?_
  show At X 0 0 164 (mdW X.2.2.2.2 a thrown s past undos kept isk seen sn sf) [(0, .ref (a 0)), (2, .int x2), (3, .int r14)] []
  refine a_aload_n 165 0 hC dX9_tells_164 rfl rfl rfl ?_
  refine a_get 168 0 7 1 hC inB_X9 rfl rfl (by decide) wq601 rfl rfl dX9_tells_165 rfl ?_
  refine a_bipush 170 (v := (23 : Int32)) hC dX9_tells_168 rfl (by decide) ?_
  refine a_iconst 171 (v := (0 : Int32)) hC dX9_tells_170 rfl (by decide) ?_
  obtain ⟨sq15, esq15, h⟩ := nmx h
  refine a_iastc 172 1 23 (mdW X.2.2.2.2 a thrown sq15 past undos kept isk seen sn sf) hC rfl rfl (vp_inc (by decide)) dX9_tells_171 rfl (by rw [esq15]; rfl) ?_
  refine a_aload_n 173 0 hC dX9_tells_172 rfl rfl rfl ?_
  refine a_iload_n 174 2 hC dX9_tells_173 rfl rfl rfl ?_
  refine a_iload_n 175 1 hC dX9_tells_174 rfl rfl rfl ?_
  refine a_if_eq 182 178 hC dX9_tells_175 (by decide) rfl (fun c16 => ?_) (fun c16 => ?_)
  · have h := ifp c16 h
    refine a_iconst 183 (v := (-1 : Int32)) hC dX9_tells_182 rfl (by decide) ?_
    obtain ⟨r17, gr17, h⟩ := bd h
    refine a_callVs 186 (mdW X.2.2.2.2 a thrown r17 past undos kept isk seen sn sf) 0 7 [.int r14, .int (-1 : Int32)] [] none [] hC (c_X9_finds X.1.2.1 X.2.2.2.1 X.2.2.2.2 a r14 (-1 : Int32) thrown sq15 past undos kept isk seen sn sf r17 gr17) ⟨wq738, wq30, wq741, ds_X9_finds, by decide, by decide⟩ wq740 wq17 rfl rfl (Nat.le_of_ble_eq_true rfl) dX9_tells_183 rfl rfl rfl ⟨(Nat.le_refl _), (Nat.le_refl _)⟩ rfl rfl rfl ?_
    obtain rfl := Option.some.inj h
    exact a_vret hC hR ⟨rfl, rfl⟩ (Nat.le_refl _) (Nat.le_refl _) dX9_tells_186
  · have h := ifn c16 h
    refine a_iconst 179 (v := (1 : Int32)) hC dX9_tells_178 rfl (by decide) ?_
    refine a_goto 183 hC dX9_tells_179 (by decide) ?_
    obtain ⟨r18, gr18, h⟩ := bd h
    refine a_callVs 186 (mdW X.2.2.2.2 a thrown r18 past undos kept isk seen sn sf) 0 7 [.int r14, .int (1 : Int32)] [] none [] hC (c_X9_finds X.1.2.1 X.2.2.2.1 X.2.2.2.2 a r14 (1 : Int32) thrown sq15 past undos kept isk seen sn sf r18 gr18) ⟨wq738, wq30, wq741, ds_X9_finds, by decide, by decide⟩ wq740 wq17 rfl rfl (Nat.le_of_ble_eq_true rfl) dX9_tells_183 rfl rfl rfl ⟨(Nat.le_refl _), (Nat.le_refl _)⟩ rfl rfl rfl ?_
    obtain rfl := Option.some.inj h
    exact a_vret hC hR ⟨rfl, rfl⟩ (Nat.le_refl _) (Nat.le_refl _) dX9_tells_186
def f_X9_tells_57 (x1 : Int32) (s : Nat → Int32) : Option ((Nat → Int32)) := (gd ((47 : Int32) + (s 23)) 95 (nm (upd s (Int32.toNatClampNeg ((47 : Int32) + (s 23))) x1) fun sq2 => (nm ((sq2 23) + (1 : Int32)) fun v4 => (nm (upd sq2 23 v4) fun sq5 => (if (48 : Int32) ≤ (sq5 23) then ((f_X9_isSync (32 : Int32) (1 : Int32) sq5).bind fun r7 => (if r7 = (0 : Int32) then ((f_X9_isSync (0 : Int32) (0 : Int32) sq5).bind fun r19 => (if r19 = (0 : Int32) then (some sq5) else (f_X9_tells_118 r7 sq5))) else (f_X9_tells_118 r7 sq5))) else (some sq5))))))
set_option maxRecDepth 100000 in
set_option maxHeartbeats 4000000 in
theorem t_X9_tells_57 {X : qX} (hC : Ok X rm_X9_tells cX9_tells 5 RX9 none) (a : Nat → Nat) (x1 : Int32) (thrown : Int32) (s : Nat → Int32) (past : Nat → Int32) (undos : Int32) (kept : Nat → Int32) (isk : Nat → Int32) (seen : Int32) (sn : Nat → Int32) (sf : Nat → Int32) (res : (Nat → Int32)) (hR : Rt X 0 0 (fun r w => r = none ∧ w = (mdW X.2.2.2.2 a thrown res past undos kept isk seen sn sf))) (h : f_X9_tells_57 x1 s = some res) : At X 0 0 57 (mdW X.2.2.2.2 a thrown s past undos kept isk seen sn sf) [(0, .ref (a 0)), (1, .int x1)] [] := by
  unfold f_X9_tells_57 at h
  refine a_aload_n 58 0 hC dX9_tells_57 rfl rfl rfl ?_
  refine a_get 61 0 7 1 hC inB_X9 rfl rfl (by decide) wq601 rfl rfl dX9_tells_58 rfl ?_
  refine a_bipush 63 (v := (47 : Int32)) hC dX9_tells_61 rfl (by decide) ?_
  refine a_aload_n 64 0 hC dX9_tells_63 rfl rfl rfl ?_
  refine a_get 67 0 7 1 hC inB_X9 rfl rfl (by decide) wq601 rfl rfl dX9_tells_64 rfl ?_
  refine a_bipush 69 (v := (23 : Int32)) hC dX9_tells_67 rfl (by decide) ?_
  refine a_ialdc 70 1 23 hC rfl rfl (vp_inc (by decide)) dX9_tells_69 rfl ?_
  refine a_iadd 71 hC dX9_tells_70 rfl ?_
  refine a_iload_n 72 1 hC dX9_tells_71 rfl rfl rfl ?_
  obtain ⟨n3, h⟩ := gdx h
  obtain ⟨sq2, esq2, h⟩ := nmx h
  refine a_iast 73 1 (mdW X.2.2.2.2 a thrown sq2 past undos kept isk seen sn sf) hC rfl n3 dX9_tells_72 rfl (by rw [esq2]; rfl) ?_
  refine a_aload_n 74 0 hC dX9_tells_73 rfl rfl rfl ?_
  refine a_get 77 0 7 1 hC inB_X9 rfl rfl (by decide) wq601 rfl rfl dX9_tells_74 rfl ?_
  refine a_bipush 79 (v := (23 : Int32)) hC dX9_tells_77 rfl (by decide) ?_
  refine a_dup2 80 hC dX9_tells_79 rfl rfl rfl ?_
  refine a_ialdc 81 1 23 hC rfl rfl (vp_inc (by decide)) dX9_tells_80 rfl ?_
  refine a_iconst 82 (v := (1 : Int32)) hC dX9_tells_81 rfl (by decide) ?_
  refine a_iadd 83 hC dX9_tells_82 rfl ?_
  obtain ⟨v4, ev4, h⟩ := nmx h
  refine a_nm ev4 ?_
  obtain ⟨sq5, esq5, h⟩ := nmx h
  refine a_iastc 84 1 23 (mdW X.2.2.2.2 a thrown sq5 past undos kept isk seen sn sf) hC rfl rfl (vp_inc (by decide)) dX9_tells_83 rfl (by rw [esq5]; rfl) ?_
  refine a_aload_n 85 0 hC dX9_tells_84 rfl rfl rfl ?_
  refine a_get 88 0 7 1 hC inB_X9 rfl rfl (by decide) wq601 rfl rfl dX9_tells_85 rfl ?_
  refine a_bipush 90 (v := (23 : Int32)) hC dX9_tells_88 rfl (by decide) ?_
  refine a_ialdc 91 1 23 hC rfl rfl (vp_inc (by decide)) dX9_tells_90 rfl ?_
  refine a_bipush 93 (v := (48 : Int32)) hC dX9_tells_91 rfl (by decide) ?_
  refine a_icmp_ge 97 96 hC dX9_tells_93 (by decide) rfl (fun c6 => ?_) (fun c6 => ?_)
  · have h := ifp c6 h
    refine a_aload_n 98 0 hC dX9_tells_97 rfl rfl rfl ?_
    refine a_bipush 100 (v := (32 : Int32)) hC dX9_tells_98 rfl (by decide) ?_
    refine a_iconst 101 (v := (1 : Int32)) hC dX9_tells_100 rfl (by decide) ?_
    obtain ⟨r7, gr7, h⟩ := bd h
    refine a_callVs 104 (mdW X.2.2.2.2 a thrown sq5 past undos kept isk seen sn sf) 0 7 [.int (32 : Int32), .int (1 : Int32)] [] (some (.int r7)) [.int r7] hC (c_X9_isSync X.1.2.1 X.2.2.2.1 X.2.2.2.2 a (32 : Int32) (1 : Int32) thrown sq5 past undos kept isk seen sn sf r7 gr7) ⟨wq734, wq30, wq737, ds_X9_isSync, by decide, by decide⟩ wq736 wq16 rfl rfl (Nat.le_of_ble_eq_true rfl) dX9_tells_101 rfl rfl rfl ⟨(Nat.le_refl _), (Nat.le_refl _)⟩ rfl rfl rfl ?_
    refine a_istore_n 105 [(0, .ref (a 0)), (1, .int x1), (2, .int r7)] [1, 2, 0] hC dX9_tells_104 rfl rfl (by decide) rfl ?_
    refine a_iload_n 106 2 hC dX9_tells_105 rfl rfl rfl ?_
    refine a_if_ne 118 109 hC dX9_tells_106 (by decide) rfl (fun c8 => ?_) (fun c8 => ?_)
    · have h := ifn c8 h
      refine a_lv [0, 2] [(0, .ref (a 0)), (2, .int r7)] rfl ?_
      exact t_X9_tells_118 hC a r7 thrown sq5 past undos kept isk seen sn sf res hR h
    · have h := ifp c8 h
      refine a_aload_n 110 0 hC dX9_tells_109 rfl rfl rfl ?_
      refine a_iconst 111 (v := (0 : Int32)) hC dX9_tells_110 rfl (by decide) ?_
      refine a_iconst 112 (v := (0 : Int32)) hC dX9_tells_111 rfl (by decide) ?_
      obtain ⟨r19, gr19, h⟩ := bd h
      refine a_callVs 115 (mdW X.2.2.2.2 a thrown sq5 past undos kept isk seen sn sf) 0 7 [.int (0 : Int32), .int (0 : Int32)] [] (some (.int r19)) [.int r19] hC (c_X9_isSync X.1.2.1 X.2.2.2.1 X.2.2.2.2 a (0 : Int32) (0 : Int32) thrown sq5 past undos kept isk seen sn sf r19 gr19) ⟨wq734, wq30, wq737, ds_X9_isSync, by decide, by decide⟩ wq736 wq16 rfl rfl (Nat.le_of_ble_eq_true rfl) dX9_tells_112 rfl rfl rfl ⟨(Nat.le_refl _), (Nat.le_refl _)⟩ rfl rfl rfl ?_
      refine a_if_eq 186 118 hC dX9_tells_115 (by decide) rfl (fun c20 => ?_) (fun c20 => ?_)
      · have h := ifp c20 h
        obtain rfl := Option.some.inj h
        exact a_vret hC hR ⟨rfl, rfl⟩ (Nat.le_refl _) (Nat.le_refl _) dX9_tells_186
      · have h := ifn c20 h
        refine a_lv [0, 2] [(0, .ref (a 0)), (2, .int r7)] rfl ?_
        exact t_X9_tells_118 hC a r7 thrown sq5 past undos kept isk seen sn sf res hR h
  · have h := ifn c6 h
    obtain rfl := Option.some.inj h
    exact a_vret hC hR ⟨rfl, rfl⟩ (Nat.le_refl _) (Nat.le_refl _) dX9_tells_96
def fb_X9_tells_14 (x1 : Int32) (w : ((Int32) × (Nat → Int32))) : Option (((Int32) × (Nat → Int32)) ⊕ ((Nat → Int32))) := (if (47 : Int32) ≤ w.1 then (some (.inr w.2)) else (gd (((47 : Int32) + w.1) + (1 : Int32)) 95 (nm (w.2 (Int32.toNatClampNeg (((47 : Int32) + w.1) + (1 : Int32)))) fun v23 => (gd ((47 : Int32) + w.1) 95 (nm (upd w.2 (Int32.toNatClampNeg ((47 : Int32) + w.1)) v23) fun sq24 => (nm (w.1 + (1 : Int32)) fun v26 => (some (.inl (v26, sq24)))))))))
set_option maxRecDepth 100000 in
set_option maxHeartbeats 4000000 in
theorem tb_X9_tells_14 {X : qX} (hC : Ok X rm_X9_tells cX9_tells 5 RX9 none) (a : Nat → Nat) (x1 : Int32) (thrown : Int32) (past : Nat → Int32) (undos : Int32) (kept : Nat → Int32) (isk : Nat → Int32) (seen : Int32) (sn : Nat → Int32) (sf : Nat → Int32) (w : ((Int32) × (Nat → Int32))) (o : ((Int32) × (Nat → Int32)) ⊕ (((Nat → Int32)))) (h : fb_X9_tells_14 x1 w = some o) (hk : Sum.elim (fun (w : ((Int32) × (Nat → Int32))) => At X 0 0 14 (mdW X.2.2.2.2 a thrown w.2 past undos kept isk seen sn sf) [(0, .ref (a 0)), (1, .int x1), (2, .int w.1)] []) (fun (w : (Nat → Int32)) => At X 0 0 46 (mdW X.2.2.2.2 a thrown w past undos kept isk seen sn sf) [(0, .ref (a 0)), (1, .int x1)] []) o) : At X 0 0 14 (mdW X.2.2.2.2 a thrown w.2 past undos kept isk seen sn sf) [(0, .ref (a 0)), (1, .int x1), (2, .int w.1)] [] := by
  unfold fb_X9_tells_14 at h
  refine a_iload_n 15 2 hC dX9_tells_14 rfl rfl rfl ?_
  refine a_bipush 17 (v := (47 : Int32)) hC dX9_tells_15 rfl (by decide) ?_
  refine a_icmp_ge 46 20 hC dX9_tells_17 (by decide) rfl (fun c21 => ?_) (fun c21 => ?_)
  · have h := ifp c21 h
    obtain rfl := Option.some.inj h
    refine a_lv [0, 1] [(0, .ref (a 0)), (1, .int x1)] rfl ?_
    exact hk
  · have h := ifn c21 h
    refine a_aload_n 21 0 hC dX9_tells_20 rfl rfl rfl ?_
    refine a_get 24 0 7 1 hC inB_X9 rfl rfl (by decide) wq601 rfl rfl dX9_tells_21 rfl ?_
    refine a_bipush 26 (v := (47 : Int32)) hC dX9_tells_24 rfl (by decide) ?_
    refine a_iload_n 27 2 hC dX9_tells_26 rfl rfl rfl ?_
    refine a_iadd 28 hC dX9_tells_27 rfl ?_
    refine a_aload_n 29 0 hC dX9_tells_28 rfl rfl rfl ?_
    refine a_get 32 0 7 1 hC inB_X9 rfl rfl (by decide) wq601 rfl rfl dX9_tells_29 rfl ?_
    refine a_bipush 34 (v := (47 : Int32)) hC dX9_tells_32 rfl (by decide) ?_
    refine a_iload_n 35 2 hC dX9_tells_34 rfl rfl rfl ?_
    refine a_iadd 36 hC dX9_tells_35 rfl ?_
    refine a_iconst 37 (v := (1 : Int32)) hC dX9_tells_36 rfl (by decide) ?_
    refine a_iadd 38 hC dX9_tells_37 rfl ?_
    obtain ⟨n22, h⟩ := gdx h
    refine a_iald 39 1 hC rfl n22 dX9_tells_38 rfl ?_
    obtain ⟨v23, ev23, h⟩ := nmx h
    refine a_nm ev23 ?_
    obtain ⟨n25, h⟩ := gdx h
    obtain ⟨sq24, esq24, h⟩ := nmx h
    refine a_iast 40 1 (mdW X.2.2.2.2 a thrown sq24 past undos kept isk seen sn sf) hC rfl n25 dX9_tells_39 rfl (by rw [esq24]; rfl) ?_
    obtain ⟨v26, ev26, h⟩ := nmx h
    refine a_iinc 43 2 [(0, .ref (a 0)), (1, .int x1), (2, .int v26)] [1, 2, 0] hC dX9_tells_40 rfl rfl (v := v26) (by rw [ev26]; rfl) (by decide) rfl ?_
    refine a_goto 14 hC dX9_tells_43 (by decide) ?_
    obtain rfl := Option.some.inj h
    exact hk
def f_X9_tells (x1 : Int32) (s : Nat → Int32) : Option ((Nat → Int32)) := (if (s 23) = (48 : Int32) then ((lp (fb_X9_tells_14 x1) 100000 ((0 : Int32), s)).bind fun r27 => (nm ((r27 23) - (1 : Int32)) fun v28 => (nm (upd r27 23 v28) fun sq29 => (f_X9_tells_57 x1 sq29)))) else (f_X9_tells_57 x1 s))
set_option maxRecDepth 100000 in
set_option maxHeartbeats 4000000 in
theorem t_X9_tells {X : qX} (hC : Ok X rm_X9_tells cX9_tells 5 RX9 none) (a : Nat → Nat) (x1 : Int32) (thrown : Int32) (s : Nat → Int32) (past : Nat → Int32) (undos : Int32) (kept : Nat → Int32) (isk : Nat → Int32) (seen : Int32) (sn : Nat → Int32) (sf : Nat → Int32) (res : (Nat → Int32)) (hR : Rt X 0 0 (fun r w => r = none ∧ w = (mdW X.2.2.2.2 a thrown res past undos kept isk seen sn sf))) (h : f_X9_tells x1 s = some res) : At X 0 0 0 (mdW X.2.2.2.2 a thrown s past undos kept isk seen sn sf) [(0, .ref (a 0)), (1, .int x1)] [] := by
  unfold f_X9_tells at h
  refine a_aload_n 1 0 hC dX9_tells_0 rfl rfl rfl ?_
  refine a_get 4 0 7 1 hC inB_X9 rfl rfl (by decide) wq601 rfl rfl dX9_tells_1 rfl ?_
  refine a_bipush 6 (v := (23 : Int32)) hC dX9_tells_4 rfl (by decide) ?_
  refine a_ialdc 7 1 23 hC rfl rfl (vp_inc (by decide)) dX9_tells_6 rfl ?_
  refine a_bipush 9 (v := (48 : Int32)) hC dX9_tells_7 rfl (by decide) ?_
  refine a_icmp_ne 57 12 hC dX9_tells_9 (by decide) rfl (fun c1 => ?_) (fun c1 => ?_)
  · have h := ifn c1 h
    exact t_X9_tells_57 hC a x1 thrown s past undos kept isk seen sn sf res hR h
  · have h := ifp c1 h
    refine a_iconst 13 (v := (0 : Int32)) hC dX9_tells_12 rfl (by decide) ?_
    refine a_istore_n 14 [(0, .ref (a 0)), (1, .int x1), (2, .int (0 : Int32))] [1, 2, 0] hC dX9_tells_13 rfl rfl (by decide) rfl ?_
    obtain ⟨r27, gr27, h⟩ := bd h
    refine lp_walk (Wh := (fun (u14 : ((Int32) × (Nat → Int32))) => At X 0 0 14 (mdW X.2.2.2.2 a thrown u14.2 past undos kept isk seen sn sf) [(0, .ref (a 0)), (1, .int x1), (2, .int u14.1)] [])) (We := (fun (u14 : (Nat → Int32)) => At X 0 0 46 (mdW X.2.2.2.2 a thrown u14 past undos kept isk seen sn sf) [(0, .ref (a 0)), (1, .int x1)] [])) (fun u9 o9 hb9 hk9 => tb_X9_tells_14 hC a x1 thrown past undos kept isk seen sn sf u9 o9 hb9 hk9) 100000 ((0 : Int32), s) r27 gr27 ?_
    show At X 0 0 46 (mdW X.2.2.2.2 a thrown r27 past undos kept isk seen sn sf) [(0, .ref (a 0)), (1, .int x1)] []
    refine a_aload_n 47 0 hC dX9_tells_46 rfl rfl rfl ?_
    refine a_get 50 0 7 1 hC inB_X9 rfl rfl (by decide) wq601 rfl rfl dX9_tells_47 rfl ?_
    refine a_bipush 52 (v := (23 : Int32)) hC dX9_tells_50 rfl (by decide) ?_
    refine a_dup2 53 hC dX9_tells_52 rfl rfl rfl ?_
    refine a_ialdc 54 1 23 hC rfl rfl (vp_inc (by decide)) dX9_tells_53 rfl ?_
    refine a_iconst 55 (v := (1 : Int32)) hC dX9_tells_54 rfl (by decide) ?_
    refine a_isub 56 hC dX9_tells_55 rfl ?_
    obtain ⟨v28, ev28, h⟩ := nmx h
    refine a_nm ev28 ?_
    obtain ⟨sq29, esq29, h⟩ := nmx h
    refine a_iastc 57 1 23 (mdW X.2.2.2.2 a thrown sq29 past undos kept isk seen sn sf) hC rfl rfl (vp_inc (by decide)) dX9_tells_56 rfl (by rw [esq29]; rfl) ?_
    exact t_X9_tells_57 hC a x1 thrown sq29 past undos kept isk seen sn sf res hR h
theorem c_X9_tells (l : Launch) (D : va_G) (z : ClassId × ClassId × ClassId) (a : Nat → Nat) (x1 : Int32) (thrown : Int32) (s : Nat → Int32) (past : Nat → Int32) (undos : Int32) (kept : Nat → Int32) (isk : Nat → Int32) (seen : Int32) (sn : Nat → Int32) (sf : Nat → Int32) (res : (Nat → Int32)) (h : f_X9_tells x1 s = some res) : Ct l D z yX9_tells cX9_tells 5 none rm_X9_tells [.ref (a 0), .int x1] (mdW z a thrown s past undos kept isk seen sn sf) (fun r w => r = none ∧ w = (mdW z a thrown res past undos kept isk seen sn sf)) := by
  refine Ct.of (by decide +kernel) (Nat.le_of_ble_eq_true rfl) (fun X hC hl hz hn hR => ?_)
  have hz1 : X.2.2.2.2 = z := by rw [hz]
  subst hz1
  exact t_X9_tells hC a x1 thrown s past undos kept isk seen sn sf res hR h

/-! X9_comes -/
abbrev rm_X9_comes : Room := { frames := 6, cells := 0, slots := 0, locals := 132 }
theorem ds_X9_comes : yX9_comes.cls ≠ "java/lang/invoke/MethodHandle" ∧ yX9_comes.cls ≠ "java/lang/invoke/VarHandle" ∧ (parseMethodDescriptor yX9_comes.desc).map (fun d => d.parameters.length) = some 1 := by decide +kernel
def f_X9_comes_44 (x1 : Int32) (s : Nat → Int32) : Option ((Nat → Int32)) := ((f_X9_cell x1 s).bind fun r9 => ((f_X9_tells (0 : Int32) r9).bind fun r10 => (some r10)))
set_option maxRecDepth 100000 in
set_option maxHeartbeats 4000000 in
theorem t_X9_comes_44 {X : qX} (hC : Ok X rm_X9_comes cX9_comes 3 RX9 none) (a : Nat → Nat) (x1 : Int32) (thrown : Int32) (s : Nat → Int32) (past : Nat → Int32) (undos : Int32) (kept : Nat → Int32) (isk : Nat → Int32) (seen : Int32) (sn : Nat → Int32) (sf : Nat → Int32) (res : (Nat → Int32)) (hR : Rt X 0 0 (fun r w => r = none ∧ w = (mdW X.2.2.2.2 a thrown res past undos kept isk seen sn sf))) (h : f_X9_comes_44 x1 s = some res) : At X 0 0 44 (mdW X.2.2.2.2 a thrown s past undos kept isk seen sn sf) [(0, .ref (a 0)), (1, .int x1)] [] := by
  unfold f_X9_comes_44 at h
  refine a_aload_n 45 0 hC dX9_comes_44 rfl rfl rfl ?_
  refine a_iload_n 46 1 hC dX9_comes_45 rfl rfl rfl ?_
  obtain ⟨r9, gr9, h⟩ := bd h
  refine a_callVs 49 (mdW X.2.2.2.2 a thrown r9 past undos kept isk seen sn sf) 0 7 [.int x1] [] none [] hC (c_X9_cell X.1.2.1 X.2.2.2.1 X.2.2.2.2 a x1 thrown s past undos kept isk seen sn sf r9 gr9) ⟨wq726, wq30, wq729, ds_X9_cell, by decide, by decide⟩ wq728 wq14 rfl rfl (Nat.le_of_ble_eq_true rfl) dX9_comes_46 rfl rfl rfl ⟨(Nat.le_refl _), (Nat.le_refl _)⟩ rfl rfl rfl ?_
  refine a_aload_n 50 0 hC dX9_comes_49 rfl rfl rfl ?_
  refine a_iconst 51 (v := (0 : Int32)) hC dX9_comes_50 rfl (by decide) ?_
  obtain ⟨r10, gr10, h⟩ := bd h
  refine a_callVs 54 (mdW X.2.2.2.2 a thrown r10 past undos kept isk seen sn sf) 0 7 [.int (0 : Int32)] [] none [] hC (c_X9_tells X.1.2.1 X.2.2.2.1 X.2.2.2.2 a (0 : Int32) thrown r9 past undos kept isk seen sn sf r10 gr10) ⟨wq730, wq30, wq733, ds_X9_tells, by decide, by decide⟩ wq732 wq15 rfl rfl (Nat.le_of_ble_eq_true rfl) dX9_comes_51 rfl rfl rfl ⟨(Nat.le_refl _), (Nat.le_refl _)⟩ rfl rfl rfl ?_
  refine a_goto 106 hC dX9_comes_54 (by decide) ?_
  obtain rfl := Option.some.inj h
  exact a_vret hC hR ⟨rfl, rfl⟩ (Nat.le_refl _) (Nat.le_refl _) dX9_comes_106
def f_X9_comes (x1 : Int32) (s : Nat → Int32) : Option ((Nat → Int32)) := (if ((4 : Int32) * x1) ≤ ((3 : Int32) * (s 21)) then (if (s 22) = (0 : Int32) then (nm (upd s 22 x1) fun sq7 => (some sq7)) else (nm ((s 22) + x1) fun v3 => (nm (upd s 22 (0 : Int32)) fun sq4 => ((f_X9_cell v3 sq4).bind fun r5 => ((f_X9_tells (1 : Int32) r5).bind fun r6 => (some r6)))))) else (if (s 22) ≤ (0 : Int32) then (f_X9_comes_44 x1 s) else (nm (upd s 22 (0 : Int32)) fun sq11 => (nm ((sq11 26) + (1 : Int32)) fun v12 => (nm (upd sq11 26 v12) fun sq13 => (f_X9_comes_44 x1 sq13))))))
set_option maxRecDepth 100000 in
set_option maxHeartbeats 4000000 in
theorem t_X9_comes {X : qX} (hC : Ok X rm_X9_comes cX9_comes 3 RX9 none) (a : Nat → Nat) (x1 : Int32) (thrown : Int32) (s : Nat → Int32) (past : Nat → Int32) (undos : Int32) (kept : Nat → Int32) (isk : Nat → Int32) (seen : Int32) (sn : Nat → Int32) (sf : Nat → Int32) (res : (Nat → Int32)) (hR : Rt X 0 0 (fun r w => r = none ∧ w = (mdW X.2.2.2.2 a thrown res past undos kept isk seen sn sf))) (h : f_X9_comes x1 s = some res) : At X 0 0 0 (mdW X.2.2.2.2 a thrown s past undos kept isk seen sn sf) [(0, .ref (a 0)), (1, .int x1)] [] := by
  unfold f_X9_comes at h
  refine a_iconst 1 (v := (4 : Int32)) hC dX9_comes_0 rfl (by decide) ?_
  refine a_iload_n 2 1 hC dX9_comes_1 rfl rfl rfl ?_
  refine a_imul 3 hC dX9_comes_2 rfl ?_
  refine a_iconst 4 (v := (3 : Int32)) hC dX9_comes_3 rfl (by decide) ?_
  refine a_aload_n 5 0 hC dX9_comes_4 rfl rfl rfl ?_
  refine a_get 8 0 7 1 hC inB_X9 rfl rfl (by decide) wq601 rfl rfl dX9_comes_5 rfl ?_
  refine a_bipush 10 (v := (21 : Int32)) hC dX9_comes_8 rfl (by decide) ?_
  refine a_ialdc 11 1 21 hC rfl rfl (vp_inc (by decide)) dX9_comes_10 rfl ?_
  refine a_imul 12 hC dX9_comes_11 rfl ?_
  refine a_icmp_le 57 15 hC dX9_comes_12 (by decide) rfl (fun c1 => ?_) (fun c1 => ?_)
  · have h := ifp c1 h
    refine a_aload_n 58 0 hC dX9_comes_57 rfl rfl rfl ?_
    refine a_get 61 0 7 1 hC inB_X9 rfl rfl (by decide) wq601 rfl rfl dX9_comes_58 rfl ?_
    refine a_bipush 63 (v := (22 : Int32)) hC dX9_comes_61 rfl (by decide) ?_
    refine a_ialdc 64 1 22 hC rfl rfl (vp_inc (by decide)) dX9_comes_63 rfl ?_
    refine a_if_ne 78 67 hC dX9_comes_64 (by decide) rfl (fun c2 => ?_) (fun c2 => ?_)
    · have h := ifn c2 h
      refine a_aload_n 79 0 hC dX9_comes_78 rfl rfl rfl ?_
      refine a_get 82 0 7 1 hC inB_X9 rfl rfl (by decide) wq601 rfl rfl dX9_comes_79 rfl ?_
      refine a_bipush 84 (v := (22 : Int32)) hC dX9_comes_82 rfl (by decide) ?_
      refine a_ialdc 85 1 22 hC rfl rfl (vp_inc (by decide)) dX9_comes_84 rfl ?_
      refine a_iload_n 86 1 hC dX9_comes_85 rfl rfl rfl ?_
      refine a_iadd 87 hC dX9_comes_86 rfl ?_
      obtain ⟨v3, ev3, h⟩ := nmx h
      refine a_nm ev3 ?_
      refine a_istore_n 88 [(0, .ref (a 0)), (1, .int x1), (2, .int v3)] [1, 2, 0] hC dX9_comes_87 rfl rfl (by decide) rfl ?_
      refine a_aload_n 89 0 hC dX9_comes_88 rfl rfl rfl ?_
      refine a_get 92 0 7 1 hC inB_X9 rfl rfl (by decide) wq601 rfl rfl dX9_comes_89 rfl ?_
      refine a_bipush 94 (v := (22 : Int32)) hC dX9_comes_92 rfl (by decide) ?_
      refine a_iconst 95 (v := (0 : Int32)) hC dX9_comes_94 rfl (by decide) ?_
      obtain ⟨sq4, esq4, h⟩ := nmx h
      refine a_iastc 96 1 22 (mdW X.2.2.2.2 a thrown sq4 past undos kept isk seen sn sf) hC rfl rfl (vp_inc (by decide)) dX9_comes_95 rfl (by rw [esq4]; rfl) ?_
      refine a_aload_n 97 0 hC dX9_comes_96 rfl rfl rfl ?_
      refine a_iload_n 98 2 hC dX9_comes_97 rfl rfl rfl ?_
      obtain ⟨r5, gr5, h⟩ := bd h
      refine a_callVs 101 (mdW X.2.2.2.2 a thrown r5 past undos kept isk seen sn sf) 0 7 [.int v3] [] none [] hC (c_X9_cell X.1.2.1 X.2.2.2.1 X.2.2.2.2 a v3 thrown sq4 past undos kept isk seen sn sf r5 gr5) ⟨wq726, wq30, wq729, ds_X9_cell, by decide, by decide⟩ wq728 wq14 rfl rfl (Nat.le_of_ble_eq_true rfl) dX9_comes_98 rfl rfl rfl ⟨(Nat.le_refl _), (Nat.le_refl _)⟩ rfl rfl rfl ?_
      refine a_aload_n 102 0 hC dX9_comes_101 rfl rfl rfl ?_
      refine a_iconst 103 (v := (1 : Int32)) hC dX9_comes_102 rfl (by decide) ?_
      obtain ⟨r6, gr6, h⟩ := bd h
      refine a_callVs 106 (mdW X.2.2.2.2 a thrown r6 past undos kept isk seen sn sf) 0 7 [.int (1 : Int32)] [] none [] hC (c_X9_tells X.1.2.1 X.2.2.2.1 X.2.2.2.2 a (1 : Int32) thrown r5 past undos kept isk seen sn sf r6 gr6) ⟨wq730, wq30, wq733, ds_X9_tells, by decide, by decide⟩ wq732 wq15 rfl rfl (Nat.le_of_ble_eq_true rfl) dX9_comes_103 rfl rfl rfl ⟨(Nat.le_refl _), (Nat.le_refl _)⟩ rfl rfl rfl ?_
      obtain rfl := Option.some.inj h
      exact a_vret hC hR ⟨rfl, rfl⟩ (Nat.le_refl _) (Nat.le_refl _) dX9_comes_106
    · have h := ifp c2 h
      refine a_aload_n 68 0 hC dX9_comes_67 rfl rfl rfl ?_
      refine a_get 71 0 7 1 hC inB_X9 rfl rfl (by decide) wq601 rfl rfl dX9_comes_68 rfl ?_
      refine a_bipush 73 (v := (22 : Int32)) hC dX9_comes_71 rfl (by decide) ?_
      refine a_iload_n 74 1 hC dX9_comes_73 rfl rfl rfl ?_
      obtain ⟨sq7, esq7, h⟩ := nmx h
      refine a_iastc 75 1 22 (mdW X.2.2.2.2 a thrown sq7 past undos kept isk seen sn sf) hC rfl rfl (vp_inc (by decide)) dX9_comes_74 rfl (by rw [esq7]; rfl) ?_
      refine a_goto 106 hC dX9_comes_75 (by decide) ?_
      obtain rfl := Option.some.inj h
      exact a_vret hC hR ⟨rfl, rfl⟩ (Nat.le_refl _) (Nat.le_refl _) dX9_comes_106
  · have h := ifn c1 h
    refine a_aload_n 16 0 hC dX9_comes_15 rfl rfl rfl ?_
    refine a_get 19 0 7 1 hC inB_X9 rfl rfl (by decide) wq601 rfl rfl dX9_comes_16 rfl ?_
    refine a_bipush 21 (v := (22 : Int32)) hC dX9_comes_19 rfl (by decide) ?_
    refine a_ialdc 22 1 22 hC rfl rfl (vp_inc (by decide)) dX9_comes_21 rfl ?_
    refine a_if_le 44 25 hC dX9_comes_22 (by decide) rfl (fun c8 => ?_) (fun c8 => ?_)
    · have h := ifp c8 h
      exact t_X9_comes_44 hC a x1 thrown s past undos kept isk seen sn sf res hR h
    · have h := ifn c8 h
      refine a_aload_n 26 0 hC dX9_comes_25 rfl rfl rfl ?_
      refine a_get 29 0 7 1 hC inB_X9 rfl rfl (by decide) wq601 rfl rfl dX9_comes_26 rfl ?_
      refine a_bipush 31 (v := (22 : Int32)) hC dX9_comes_29 rfl (by decide) ?_
      refine a_iconst 32 (v := (0 : Int32)) hC dX9_comes_31 rfl (by decide) ?_
      obtain ⟨sq11, esq11, h⟩ := nmx h
      refine a_iastc 33 1 22 (mdW X.2.2.2.2 a thrown sq11 past undos kept isk seen sn sf) hC rfl rfl (vp_inc (by decide)) dX9_comes_32 rfl (by rw [esq11]; rfl) ?_
      refine a_aload_n 34 0 hC dX9_comes_33 rfl rfl rfl ?_
      refine a_get 37 0 7 1 hC inB_X9 rfl rfl (by decide) wq601 rfl rfl dX9_comes_34 rfl ?_
      refine a_bipush 39 (v := (26 : Int32)) hC dX9_comes_37 rfl (by decide) ?_
      refine a_dup2 40 hC dX9_comes_39 rfl rfl rfl ?_
      refine a_ialdc 41 1 26 hC rfl rfl (vp_inc (by decide)) dX9_comes_40 rfl ?_
      refine a_iconst 42 (v := (1 : Int32)) hC dX9_comes_41 rfl (by decide) ?_
      refine a_iadd 43 hC dX9_comes_42 rfl ?_
      obtain ⟨v12, ev12, h⟩ := nmx h
      refine a_nm ev12 ?_
      obtain ⟨sq13, esq13, h⟩ := nmx h
      refine a_iastc 44 1 26 (mdW X.2.2.2.2 a thrown sq13 past undos kept isk seen sn sf) hC rfl rfl (vp_inc (by decide)) dX9_comes_43 rfl (by rw [esq13]; rfl) ?_
      exact t_X9_comes_44 hC a x1 thrown sq13 past undos kept isk seen sn sf res hR h
theorem c_X9_comes (l : Launch) (D : va_G) (z : ClassId × ClassId × ClassId) (a : Nat → Nat) (x1 : Int32) (thrown : Int32) (s : Nat → Int32) (past : Nat → Int32) (undos : Int32) (kept : Nat → Int32) (isk : Nat → Int32) (seen : Int32) (sn : Nat → Int32) (sf : Nat → Int32) (res : (Nat → Int32)) (h : f_X9_comes x1 s = some res) : Ct l D z yX9_comes cX9_comes 3 none rm_X9_comes [.ref (a 0), .int x1] (mdW z a thrown s past undos kept isk seen sn sf) (fun r w => r = none ∧ w = (mdW z a thrown res past undos kept isk seen sn sf)) := by
  refine Ct.of (by decide +kernel) (Nat.le_of_ble_eq_true rfl) (fun X hC hl hz hn hR => ?_)
  have hz1 : X.2.2.2.2 = z := by rw [hz]
  subst hz1
  exact t_X9_comes hC a x1 thrown s past undos kept isk seen sn sf res hR h
