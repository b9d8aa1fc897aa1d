/-! X9_plays -/
abbrev rm_X9_plays : Room := { frames := 7, cells := 0, slots := 0, locals := 154 }
theorem ds_X9_plays : yX9_plays.cls ≠ "java/lang/invoke/MethodHandle" ∧ yX9_plays.cls ≠ "java/lang/invoke/VarHandle" ∧ (parseMethodDescriptor yX9_plays.desc).map (fun d => d.parameters.length) = some 4 := by decide +kernel
def f_X9_plays_191 (x2 : Int32) (x3 : Int32) (x4 : Int32) (x6 : Int32) (thrown : Int32) (past : Nat → Int32) (undos : Int32) (v7 : Int32) (s_ : Nat → Int32) : Option (((Int32) × (Nat → Int32)) ⊕ ((Nat → Int32))) := (nm (v7 + (1 : Int32)) fun v23 => (some (.inl (v23, s_))))
set_option maxRecDepth 100000 in
set_option maxHeartbeats 4000000 in
theorem t_X9_plays_191 {X : qX} (hC : Ok X rm_X9_plays cX9_plays 10 RX9 (some .int)) (a : Nat → Nat) (x2 : Int32) (x3 : Int32) (x4 : Int32) (x6 : Int32) (thrown : Int32) (past : Nat → Int32) (undos : Int32) (kept : Nat → Int32) (isk : Nat → Int32) (seen : Int32) (sn : Nat → Int32) (sf : Nat → Int32) (v7 : Int32) (s_ : Nat → Int32) (o : (((Int32) × (Nat → Int32))) ⊕ (((Nat → Int32)))) (h : f_X9_plays_191 x2 x3 x4 x6 thrown past undos v7 s_ = some o) (hk : Sum.elim (fun (w : ((Int32) × (Nat → Int32))) => At X 0 0 107 (mdW X.2.2.2.2 a thrown w.2 past undos kept isk seen sn sf) [(0, .ref (a 0)), (2, .int x2), (3, .int x3), (4, .int x4), (6, .int x6), (7, .int w.1)] []) (fun (w : (Nat → Int32)) => At X 0 0 197 (mdW X.2.2.2.2 a thrown w past undos kept isk seen sn sf) [(6, .int x6)] []) o) : At X 0 0 191 (mdW X.2.2.2.2 a thrown s_ past undos kept isk seen sn sf) [(0, .ref (a 0)), (2, .int x2), (3, .int x3), (4, .int x4), (6, .int x6), (7, .int v7)] [] := by
  unfold f_X9_plays_191 at h
  obtain ⟨v23, ev23, h⟩ := nmx h
  refine a_iinc 194 5 [(0, .ref (a 0)), (2, .int x2), (3, .int x3), (4, .int x4), (6, .int x6), (7, .int v23)] [1, 2, 3, 4, 5, 0] hC dX9_plays_191 rfl rfl (v := v23) (by rw [ev23]; rfl) (by decide) rfl ?_
  refine a_goto 107 hC dX9_plays_194 (by decide) ?_
  obtain rfl := Option.some.inj h
  exact hk
def fb_X9_plays_107 (x2 : Int32) (x3 : Int32) (x4 : Int32) (x6 : Int32) (thrown : Int32) (past : Nat → Int32) (undos : Int32) (w : ((Int32) × (Nat → Int32))) : Option (((Int32) × (Nat → Int32)) ⊕ ((Nat → Int32))) := (if x6 ≤ w.1 then (some (.inr w.2)) else (nm (x2 + (q_rem (w.1 * x3) (5 : Int32))) fun v14 => (nm ((w.2 20) - x4) fun v15 => (nm (upd w.2 20 v15) fun sq16 => ((f_X9_bitAt (sq16 20) sq16).bind fun r17 => (nm ((sq16 20) + ((1 : Int32) - x4)) fun v18 => (nm (upd sq16 20 v18) fun sq19 => (if r17 = (0 : Int32) then ((f_X9_comes ((2 : Int32) * v14) sq19).bind fun r24 => (f_X9_plays_191 x2 x3 x4 x6 thrown past undos w.1 r24)) else ((f_X9_comes v14 sq19).bind fun r21 => ((f_X9_comes v14 r21).bind fun r22 => (f_X9_plays_191 x2 x3 x4 x6 thrown past undos w.1 r22)))))))))))
set_option maxRecDepth 100000 in
set_option maxHeartbeats 4000000 in
theorem tb_X9_plays_107 {X : qX} (hC : Ok X rm_X9_plays cX9_plays 10 RX9 (some .int)) (a : Nat → Nat) (x2 : Int32) (x3 : Int32) (x4 : Int32) (x6 : Int32) (thrown : Int32) (past : Nat → Int32) (undos : Int32) (kept : Nat → Int32) (isk : Nat → Int32) (seen : Int32) (sn : Nat → Int32) (sf : Nat → Int32) (w : ((Int32) × (Nat → Int32))) (o : ((Int32) × (Nat → Int32)) ⊕ (((Nat → Int32)))) (h : fb_X9_plays_107 x2 x3 x4 x6 thrown past undos w = some o) (hk : Sum.elim (fun (w : ((Int32) × (Nat → Int32))) => At X 0 0 107 (mdW X.2.2.2.2 a thrown w.2 past undos kept isk seen sn sf) [(0, .ref (a 0)), (2, .int x2), (3, .int x3), (4, .int x4), (6, .int x6), (7, .int w.1)] []) (fun (w : (Nat → Int32)) => At X 0 0 197 (mdW X.2.2.2.2 a thrown w past undos kept isk seen sn sf) [(6, .int x6)] []) o) : At X 0 0 107 (mdW X.2.2.2.2 a thrown w.2 past undos kept isk seen sn sf) [(0, .ref (a 0)), (2, .int x2), (3, .int x3), (4, .int x4), (6, .int x6), (7, .int w.1)] [] := by
  unfold fb_X9_plays_107 at h
  refine a_iload 109 5 hC dX9_plays_107 rfl rfl ?_
  refine a_iload 111 4 hC dX9_plays_109 rfl rfl ?_
  refine a_icmp_ge 197 114 hC dX9_plays_111 (by decide) rfl (fun c13 => ?_) (fun c13 => ?_)
  · have h := ifp c13 h
    obtain rfl := Option.some.inj h
    refine a_lv [4] [(6, .int x6)] rfl ?_
    exact hk
  · have h := ifn c13 h
    refine a_iload_n 115 1 hC dX9_plays_114 rfl rfl rfl ?_
    refine a_iload 117 5 hC dX9_plays_115 rfl rfl ?_
    refine a_iload_n 118 2 hC dX9_plays_117 rfl rfl rfl ?_
    refine a_imul 119 hC dX9_plays_118 rfl ?_
    refine a_iconst 120 (v := (5 : Int32)) hC dX9_plays_119 rfl (by decide) ?_
    refine a_rem 121 hC dX9_plays_120 rfl (by decide) ?_
    refine a_iadd 122 hC dX9_plays_121 rfl ?_
    obtain ⟨v14, ev14, h⟩ := nmx h
    refine a_nm ev14 ?_
    refine a_istore 124 [(0, .ref (a 0)), (2, .int x2), (3, .int x3), (4, .int x4), (6, .int x6), (7, .int w.1), (8, .int v14)] [1, 2, 3, 4, 5, 6, 0] hC dX9_plays_122 rfl (by decide) rfl ?_
    refine a_aload_n 125 0 hC dX9_plays_124 rfl rfl rfl ?_
    refine a_get 128 0 7 1 hC inB_X9 rfl rfl (by decide) wq601 rfl rfl dX9_plays_125 rfl ?_
    refine a_bipush 130 (v := (20 : Int32)) hC dX9_plays_128 rfl (by decide) ?_
    refine a_dup2 131 hC dX9_plays_130 rfl rfl rfl ?_
    refine a_ialdc 132 1 20 hC rfl rfl (vp_inc (by decide)) dX9_plays_131 rfl ?_
    refine a_iload 134 3 hC dX9_plays_132 rfl rfl ?_
    refine a_isub 135 hC dX9_plays_134 rfl ?_
    obtain ⟨v15, ev15, h⟩ := nmx h
    refine a_nm ev15 ?_
    obtain ⟨sq16, esq16, h⟩ := nmx h
    refine a_iastc 136 1 20 (mdW X.2.2.2.2 a thrown sq16 past undos kept isk seen sn sf) hC rfl rfl (vp_inc (by decide)) dX9_plays_135 rfl (by rw [esq16]; rfl) ?_
    refine a_aload_n 137 0 hC dX9_plays_136 rfl rfl rfl ?_
    refine a_aload_n 138 0 hC dX9_plays_137 rfl rfl rfl ?_
    refine a_get 141 0 7 1 hC inB_X9 rfl rfl (by decide) wq601 rfl rfl dX9_plays_138 rfl ?_
    refine a_bipush 143 (v := (20 : Int32)) hC dX9_plays_141 rfl (by decide) ?_
    refine a_ialdc 144 1 20 hC rfl rfl (vp_inc (by decide)) dX9_plays_143 rfl ?_
    obtain ⟨r17, gr17, h⟩ := bd h
    refine a_callVs 147 (mdW X.2.2.2.2 a thrown sq16 past undos kept isk seen sn sf) 0 7 [.int (sq16 20)] [] (some (.int r17)) [.int r17] hC (c_X9_bitAt X.1.2.1 X.2.2.2.1 X.2.2.2.2 a (sq16 20) thrown sq16 past undos kept isk seen sn sf r17 gr17) ⟨wq699, wq30, wq702, ds_X9_bitAt, by decide, by decide⟩ wq701 wq11 rfl rfl (Nat.le_of_ble_eq_true rfl) dX9_plays_144 rfl rfl rfl ⟨(Nat.le_refl _), (Nat.le_refl _)⟩ rfl rfl rfl ?_
    refine a_istore 149 [(0, .ref (a 0)), (2, .int x2), (3, .int x3), (4, .int x4), (6, .int x6), (7, .int w.1), (8, .int v14), (9, .int r17)] [1, 2, 3, 4, 5, 6, 7, 0] hC dX9_plays_147 rfl (by decide) rfl ?_
    refine a_aload_n 150 0 hC dX9_plays_149 rfl rfl rfl ?_
    refine a_get 153 0 7 1 hC inB_X9 rfl rfl (by decide) wq601 rfl rfl dX9_plays_150 rfl ?_
    refine a_bipush 155 (v := (20 : Int32)) hC dX9_plays_153 rfl (by decide) ?_
    refine a_dup2 156 hC dX9_plays_155 rfl rfl rfl ?_
    refine a_ialdc 157 1 20 hC rfl rfl (vp_inc (by decide)) dX9_plays_156 rfl ?_
    refine a_iconst 158 (v := (1 : Int32)) hC dX9_plays_157 rfl (by decide) ?_
    refine a_iload 160 3 hC dX9_plays_158 rfl rfl ?_
    refine a_isub 161 hC dX9_plays_160 rfl ?_
    refine a_iadd 162 hC dX9_plays_161 rfl ?_
    obtain ⟨v18, ev18, h⟩ := nmx h
    refine a_nm ev18 ?_
    obtain ⟨sq19, esq19, h⟩ := nmx h
    refine a_iastc 163 1 20 (mdW X.2.2.2.2 a thrown sq19 past undos kept isk seen sn sf) hC rfl rfl (vp_inc (by decide)) dX9_plays_162 rfl (by rw [esq19]; rfl) ?_
    refine a_iload 165 7 hC dX9_plays_163 rfl rfl ?_
    refine a_if_ne 179 168 hC dX9_plays_165 (by decide) rfl (fun c20 => ?_) (fun c20 => ?_)
    · have h := ifn c20 h
      refine a_aload_n 180 0 hC dX9_plays_179 rfl rfl rfl ?_
      refine a_iload 182 6 hC dX9_plays_180 rfl rfl ?_
      obtain ⟨r21, gr21, h⟩ := bd h
      refine a_callVs 185 (mdW X.2.2.2.2 a thrown r21 past undos kept isk seen sn sf) 0 7 [.int v14] [] none [] hC (c_X9_comes X.1.2.1 X.2.2.2.1 X.2.2.2.2 a v14 thrown sq19 past undos kept isk seen sn sf r21 gr21) ⟨wq722, wq30, wq725, ds_X9_comes, by decide, by decide⟩ wq724 wq13 rfl rfl (Nat.le_of_ble_eq_true rfl) dX9_plays_182 rfl rfl rfl ⟨(Nat.le_refl _), (Nat.le_refl _)⟩ rfl rfl rfl ?_
      refine a_aload_n 186 0 hC dX9_plays_185 rfl rfl rfl ?_
      refine a_iload 188 6 hC dX9_plays_186 rfl rfl ?_
      obtain ⟨r22, gr22, h⟩ := bd h
      refine a_callVs 191 (mdW X.2.2.2.2 a thrown r22 past undos kept isk seen sn sf) 0 7 [.int v14] [] none [] hC (c_X9_comes X.1.2.1 X.2.2.2.1 X.2.2.2.2 a v14 thrown r21 past undos kept isk seen sn sf r22 gr22) ⟨wq722, wq30, wq725, ds_X9_comes, by decide, by decide⟩ wq724 wq13 rfl rfl (Nat.le_of_ble_eq_true rfl) dX9_plays_188 rfl rfl rfl ⟨(Nat.le_refl _), (Nat.le_refl _)⟩ rfl rfl rfl ?_
      refine a_lv [0, 1, 2, 3, 4, 5] [(0, .ref (a 0)), (2, .int x2), (3, .int x3), (4, .int x4), (6, .int x6), (7, .int w.1)] rfl ?_
      exact t_X9_plays_191 hC a x2 x3 x4 x6 thrown past undos kept isk seen sn sf w.1 r22 o h hk
    · have h := ifp c20 h
      refine a_aload_n 169 0 hC dX9_plays_168 rfl rfl rfl ?_
      refine a_iconst 170 (v := (2 : Int32)) hC dX9_plays_169 rfl (by decide) ?_
      refine a_iload 172 6 hC dX9_plays_170 rfl rfl ?_
      refine a_imul 173 hC dX9_plays_172 rfl ?_
      obtain ⟨r24, gr24, h⟩ := bd h
      refine a_callVs 176 (mdW X.2.2.2.2 a thrown r24 past undos kept isk seen sn sf) 0 7 [.int ((2 : Int32) * v14)] [] none [] hC (c_X9_comes X.1.2.1 X.2.2.2.1 X.2.2.2.2 a ((2 : Int32) * v14) thrown sq19 past undos kept isk seen sn sf r24 gr24) ⟨wq722, wq30, wq725, ds_X9_comes, by decide, by decide⟩ wq724 wq13 rfl rfl (Nat.le_of_ble_eq_true rfl) dX9_plays_173 rfl rfl rfl ⟨(Nat.le_refl _), (Nat.le_refl _)⟩ rfl rfl rfl ?_
      refine a_goto 191 hC dX9_plays_176 (by decide) ?_
      refine a_lv [0, 1, 2, 3, 4, 5] [(0, .ref (a 0)), (2, .int x2), (3, .int x3), (4, .int x4), (6, .int x6), (7, .int w.1)] rfl ?_
      exact t_X9_plays_191 hC a x2 x3 x4 x6 thrown past undos kept isk seen sn sf w.1 r24 o h hk
def f_X9_plays_102 (x2 : Int32) (x3 : Int32) (x4 : Int32) (y0 : Int32) (thrown : Int32) (s : Nat → Int32) (past : Nat → Int32) (undos : Int32) : Option ((Int32) × (Int32) × (Nat → Int32) × (Nat → Int32) × (Int32)) := ((lp (fb_X9_plays_107 x2 x3 x4 y0 thrown past undos) 100000 ((0 : Int32), s)).bind fun r25 => (some (y0, thrown, r25, past, undos)))
set_option maxRecDepth 100000 in
set_option maxHeartbeats 4000000 in
theorem t_X9_plays_102 {X : qX} (hC : Ok X rm_X9_plays cX9_plays 10 RX9 (some .int)) (a : Nat → Nat) (x2 : Int32) (x3 : Int32) (x4 : Int32) (y0 : Int32) (thrown : Int32) (s : Nat → Int32) (past : Nat → Int32) (undos : Int32) (kept : Nat → Int32) (isk : Nat → Int32) (seen : Int32) (sn : Nat → Int32) (sf : Nat → Int32) (res : (Int32) × (Int32) × (Nat → Int32) × (Nat → Int32) × (Int32)) (hR : Rt X 0 0 (fun r w => r = some (.int res.1) ∧ w = (mdW X.2.2.2.2 a res.2.1 res.2.2.1 res.2.2.2.1 res.2.2.2.2 kept isk seen sn sf))) (h : f_X9_plays_102 x2 x3 x4 y0 thrown s past undos = some res) : At X 0 0 102 (mdW X.2.2.2.2 a thrown s past undos kept isk seen sn sf) [(0, .ref (a 0)), (2, .int x2), (3, .int x3), (4, .int x4)] [.int y0] := by
  unfold f_X9_plays_102 at h
  refine a_istore 104 [(0, .ref (a 0)), (2, .int x2), (3, .int x3), (4, .int x4), (6, .int y0)] [1, 2, 3, 4, 0] hC dX9_plays_102 rfl (by decide) rfl ?_
  refine a_iconst 105 (v := (0 : Int32)) hC dX9_plays_104 rfl (by decide) ?_
  refine a_istore 107 [(0, .ref (a 0)), (2, .int x2), (3, .int x3), (4, .int x4), (6, .int y0), (7, .int (0 : Int32))] [1, 2, 3, 4, 5, 0] hC dX9_plays_105 rfl (by decide) rfl ?_
  obtain ⟨r25, gr25, h⟩ := bd h
  refine lp_walk (Wh := (fun (u107 : ((Int32) × (Nat → Int32))) => At X 0 0 107 (mdW X.2.2.2.2 a thrown u107.2 past undos kept isk seen sn sf) [(0, .ref (a 0)), (2, .int x2), (3, .int x3), (4, .int x4), (6, .int y0), (7, .int u107.1)] [])) (We := (fun (u107 : (Nat → Int32)) => At X 0 0 197 (mdW X.2.2.2.2 a thrown u107 past undos kept isk seen sn sf) [(6, .int y0)] [])) (fun u9 o9 hb9 hk9 => tb_X9_plays_107 hC a x2 x3 x4 y0 thrown past undos kept isk seen sn sf u9 o9 hb9 hk9) 100000 ((0 : Int32), s) r25 gr25 ?_
  show At X 0 0 197 (mdW X.2.2.2.2 a thrown r25 past undos kept isk seen sn sf) [(6, .int y0)] []
  refine a_iload 199 0 hC dX9_plays_197 rfl rfl ?_
  obtain rfl := Option.some.inj h
  exact a_iret hC hR ⟨rfl, rfl⟩ (Nat.le_refl _) (Nat.le_refl _) dX9_plays_199
def f_X9_plays_76 (x1 : Int32) (x2 : Int32) (x3 : Int32) (x4 : Int32) (y0 : Int32) (thrown : Int32) (s : Nat → Int32) (past : Nat → Int32) (undos : Int32) : Option ((Int32) × (Int32) × (Nat → Int32) × (Nat → Int32) × (Int32)) := (if y0 = (0 : Int32) then (some ((-2 : Int32), thrown, s, past, undos)) else ((f_X9_notes s past undos).bind fun r11 => (if y0 ≤ x1 then (f_X9_plays_102 x2 x3 x4 y0 thrown s r11.1 r11.2) else (f_X9_plays_102 x2 x3 x4 x1 thrown s r11.1 r11.2))))
set_option maxRecDepth 100000 in
set_option maxHeartbeats 4000000 in
theorem t_X9_plays_76 {X : qX} (hC : Ok X rm_X9_plays cX9_plays 10 RX9 (some .int)) (a : Nat → Nat) (x1 : Int32) (x2 : Int32) (x3 : Int32) (x4 : Int32) (y0 : Int32) (thrown : Int32) (s : Nat → Int32) (past : Nat → Int32) (undos : Int32) (kept : Nat → Int32) (isk : Nat → Int32) (seen : Int32) (sn : Nat → Int32) (sf : Nat → Int32) (res : (Int32) × (Int32) × (Nat → Int32) × (Nat → Int32) × (Int32)) (hR : Rt X 0 0 (fun r w => r = some (.int res.1) ∧ w = (mdW X.2.2.2.2 a res.2.1 res.2.2.1 res.2.2.2.1 res.2.2.2.2 kept isk seen sn sf))) (h : f_X9_plays_76 x1 x2 x3 x4 y0 thrown s past undos = some res) : At X 0 0 76 (mdW X.2.2.2.2 a thrown s past undos kept isk seen sn sf) [(0, .ref (a 0)), (1, .int x1), (2, .int x2), (3, .int x3), (4, .int x4)] [.int y0] := by
  unfold f_X9_plays_76 at h
  refine a_istore 78 [(0, .ref (a 0)), (1, .int x1), (2, .int x2), (3, .int x3), (4, .int x4), (5, .int y0)] [1, 2, 3, 4, 5, 0] hC dX9_plays_76 rfl (by decide) rfl ?_
  refine a_iload 80 5 hC dX9_plays_78 rfl rfl ?_
  refine a_if_ne 86 83 hC dX9_plays_80 (by decide) rfl (fun c10 => ?_) (fun c10 => ?_)
  · have h := ifn c10 h
    refine a_aload_n 87 0 hC dX9_plays_86 rfl rfl rfl ?_
    obtain ⟨r11, gr11, h⟩ := bd h
    refine a_callVs 90 (mdW X.2.2.2.2 a thrown s r11.1 r11.2 kept isk seen sn sf) 0 7 [] [] none [] hC (c_X9_notes X.1.2.1 X.2.2.2.1 X.2.2.2.2 a thrown s past undos kept isk seen sn sf r11 gr11) ⟨wq675, wq30, wq678, ds_X9_notes, by decide, by decide⟩ wq677 wq8 rfl rfl (Nat.le_of_ble_eq_true rfl) dX9_plays_87 rfl rfl rfl ⟨(Nat.le_refl _), (Nat.le_refl _)⟩ rfl rfl rfl ?_
    refine a_iload_n 91 1 hC dX9_plays_90 rfl rfl rfl ?_
    refine a_iload 93 5 hC dX9_plays_91 rfl rfl ?_
    refine a_icmp_ge 100 96 hC dX9_plays_93 (by decide) rfl (fun c12 => ?_) (fun c12 => ?_)
    · have h := ifp c12 h
      refine a_iload 102 5 hC dX9_plays_100 rfl rfl ?_
      refine a_lv [0, 2, 3, 4] [(0, .ref (a 0)), (2, .int x2), (3, .int x3), (4, .int x4)] rfl ?_
      exact t_X9_plays_102 hC a x2 x3 x4 y0 thrown s r11.1 r11.2 kept isk seen sn sf res hR h
    · have h := ifn c12 h
      refine a_iload_n 97 1 hC dX9_plays_96 rfl rfl rfl ?_
      refine a_goto 102 hC dX9_plays_97 (by decide) ?_
      refine a_lv [0, 2, 3, 4] [(0, .ref (a 0)), (2, .int x2), (3, .int x3), (4, .int x4)] rfl ?_
      exact t_X9_plays_102 hC a x2 x3 x4 x1 thrown s r11.1 r11.2 kept isk seen sn sf res hR h
  · have h := ifp c10 h
    refine a_bipush 85 (v := (-2 : Int32)) hC dX9_plays_83 rfl (by decide) ?_
    obtain rfl := Option.some.inj h
    exact a_iret hC hR ⟨rfl, rfl⟩ (Nat.le_refl _) (Nat.le_refl _) dX9_plays_85
def f_X9_plays (x1 : Int32) (x2 : Int32) (x3 : Int32) (x4 : Int32) (thrown : Int32) (s : Nat → Int32) (past : Nat → Int32) (undos : Int32) : Option ((Int32) × (Int32) × (Nat → Int32) × (Nat → Int32) × (Int32)) := ((f_X9_in x1 (1 : Int32) (4800 : Int32)).bind fun r1 => (if r1 = (0 : Int32) then (some ((-1 : Int32), (0 : Int32), s, past, undos)) else ((f_X9_in x2 (1 : Int32) (200 : Int32)).bind fun r3 => (if r3 = (0 : Int32) then (some ((-1 : Int32), (0 : Int32), s, past, undos)) else ((f_X9_in x3 (0 : Int32) (9 : Int32)).bind fun r5 => (if r5 = (0 : Int32) then (some ((-1 : Int32), (0 : Int32), s, past, undos)) else ((f_X9_in x4 (0 : Int32) (1 : Int32)).bind fun r7 => (if r7 = (0 : Int32) then (some ((-1 : Int32), (0 : Int32), s, past, undos)) else (if x4 = (0 : Int32) then ((f_X9_tape s).bind fun r26 => (f_X9_plays_76 x1 x2 x3 x4 (r26 - (s 20)) (0 : Int32) s past undos)) else (f_X9_plays_76 x1 x2 x3 x4 (s 20) (0 : Int32) s past undos))))))))))
set_option maxRecDepth 100000 in
set_option maxHeartbeats 4000000 in
theorem t_X9_plays {X : qX} (hC : Ok X rm_X9_plays cX9_plays 10 RX9 (some .int)) (a : Nat → Nat) (x1 : Int32) (x2 : Int32) (x3 : Int32) (x4 : Int32) (thrown : Int32) (s : Nat → Int32) (past : Nat → Int32) (undos : Int32) (kept : Nat → Int32) (isk : Nat → Int32) (seen : Int32) (sn : Nat → Int32) (sf : Nat → Int32) (res : (Int32) × (Int32) × (Nat → Int32) × (Nat → Int32) × (Int32)) (hR : Rt X 0 0 (fun r w => r = some (.int res.1) ∧ w = (mdW X.2.2.2.2 a res.2.1 res.2.2.1 res.2.2.2.1 res.2.2.2.2 kept isk seen sn sf))) (h : f_X9_plays x1 x2 x3 x4 thrown s past undos = some res) : At X 0 0 0 (mdW X.2.2.2.2 a thrown s past undos kept isk seen sn sf) [(0, .ref (a 0)), (1, .int x1), (2, .int x2), (3, .int x3), (4, .int x4)] [] := by
  unfold f_X9_plays at h
  refine a_aload_n 1 0 hC dX9_plays_0 rfl rfl rfl ?_
  refine a_iconst 2 (v := (0 : Int32)) hC dX9_plays_1 rfl (by decide) ?_
  refine a_put 5 0 7 0 (mdW X.2.2.2.2 a (0 : Int32) s past undos kept isk seen sn sf) tyX9 hC inB_X9 tyX9_ok nmX9 rfl rfl (by decide) wq600 rfl rfl rfl rfl rfl (Nat.le_of_ble_eq_true rfl) dX9_plays_2 rfl rfl ?_
  refine a_iload_n 6 1 hC dX9_plays_5 rfl rfl rfl ?_
  refine a_iconst 7 (v := (1 : Int32)) hC dX9_plays_6 rfl (by decide) ?_
  refine a_sipush 10 (v := (4800 : Int32)) hC dX9_plays_7 rfl (by decide) ?_
  obtain ⟨r1, gr1, h⟩ := bd h
  refine a_call0 13 [.int x1, .int (1 : Int32), .int (4800 : Int32)] [] (.int r1) hC (c_X9_in X.1.2.1 X.2.2.2.1 X.2.2.2.2 x1 (1 : Int32) (4800 : Int32) r1 gr1) ⟨wq649, wq30, wq651, ds_X9_in, by decide, by decide⟩ wq650 rfl rfl (Nat.le_of_ble_eq_true rfl) dX9_plays_10 rfl rfl rfl ⟨(Nat.le_refl _), (Nat.le_refl _)⟩ ?_
  refine a_if_eq 47 16 hC dX9_plays_13 (by decide) rfl (fun c2 => ?_) (fun c2 => ?_)
  · have h := ifp c2 h
    refine a_iconst 48 (v := (-1 : Int32)) hC dX9_plays_47 rfl (by decide) ?_
    obtain rfl := Option.some.inj h
    exact a_iret hC hR ⟨rfl, rfl⟩ (Nat.le_refl _) (Nat.le_refl _) dX9_plays_48
  · have h := ifn c2 h
    refine a_iload_n 17 2 hC dX9_plays_16 rfl rfl rfl ?_
    refine a_iconst 18 (v := (1 : Int32)) hC dX9_plays_17 rfl (by decide) ?_
    refine a_sipush 21 (v := (200 : Int32)) hC dX9_plays_18 rfl (by decide) ?_
    obtain ⟨r3, gr3, h⟩ := bd h
    refine a_call0 24 [.int x2, .int (1 : Int32), .int (200 : Int32)] [] (.int r3) hC (c_X9_in X.1.2.1 X.2.2.2.1 X.2.2.2.2 x2 (1 : Int32) (200 : Int32) r3 gr3) ⟨wq649, wq30, wq651, ds_X9_in, by decide, by decide⟩ wq650 rfl rfl (Nat.le_of_ble_eq_true rfl) dX9_plays_21 rfl rfl rfl ⟨(Nat.le_refl _), (Nat.le_refl _)⟩ ?_
    refine a_if_eq 47 27 hC dX9_plays_24 (by decide) rfl (fun c4 => ?_) (fun c4 => ?_)
    · have h := ifp c4 h
      refine a_iconst 48 (v := (-1 : Int32)) hC dX9_plays_47 rfl (by decide) ?_
      obtain rfl := Option.some.inj h
      exact a_iret hC hR ⟨rfl, rfl⟩ (Nat.le_refl _) (Nat.le_refl _) dX9_plays_48
    · have h := ifn c4 h
      refine a_iload_n 28 3 hC dX9_plays_27 rfl rfl rfl ?_
      refine a_iconst 29 (v := (0 : Int32)) hC dX9_plays_28 rfl (by decide) ?_
      refine a_bipush 31 (v := (9 : Int32)) hC dX9_plays_29 rfl (by decide) ?_
      obtain ⟨r5, gr5, h⟩ := bd h
      refine a_call0 34 [.int x3, .int (0 : Int32), .int (9 : Int32)] [] (.int r5) hC (c_X9_in X.1.2.1 X.2.2.2.1 X.2.2.2.2 x3 (0 : Int32) (9 : Int32) r5 gr5) ⟨wq649, wq30, wq651, ds_X9_in, by decide, by decide⟩ wq650 rfl rfl (Nat.le_of_ble_eq_true rfl) dX9_plays_31 rfl rfl rfl ⟨(Nat.le_refl _), (Nat.le_refl _)⟩ ?_
      refine a_if_eq 47 37 hC dX9_plays_34 (by decide) rfl (fun c6 => ?_) (fun c6 => ?_)
      · have h := ifp c6 h
        refine a_iconst 48 (v := (-1 : Int32)) hC dX9_plays_47 rfl (by decide) ?_
        obtain rfl := Option.some.inj h
        exact a_iret hC hR ⟨rfl, rfl⟩ (Nat.le_refl _) (Nat.le_refl _) dX9_plays_48
      · have h := ifn c6 h
        refine a_iload 39 4 hC dX9_plays_37 rfl rfl ?_
        refine a_iconst 40 (v := (0 : Int32)) hC dX9_plays_39 rfl (by decide) ?_
        refine a_iconst 41 (v := (1 : Int32)) hC dX9_plays_40 rfl (by decide) ?_
        obtain ⟨r7, gr7, h⟩ := bd h
        refine a_call0 44 [.int x4, .int (0 : Int32), .int (1 : Int32)] [] (.int r7) hC (c_X9_in X.1.2.1 X.2.2.2.1 X.2.2.2.2 x4 (0 : Int32) (1 : Int32) r7 gr7) ⟨wq649, wq30, wq651, ds_X9_in, by decide, by decide⟩ wq650 rfl rfl (Nat.le_of_ble_eq_true rfl) dX9_plays_41 rfl rfl rfl ⟨(Nat.le_refl _), (Nat.le_refl _)⟩ ?_
        refine a_if_ne 49 47 hC dX9_plays_44 (by decide) rfl (fun c8 => ?_) (fun c8 => ?_)
        · have h := ifn c8 h
          refine a_iload 51 4 hC dX9_plays_49 rfl rfl ?_
          refine a_if_ne 69 54 hC dX9_plays_51 (by decide) rfl (fun c9 => ?_) (fun c9 => ?_)
          · have h := ifn c9 h
            refine a_aload_n 70 0 hC dX9_plays_69 rfl rfl rfl ?_
            refine a_get 73 0 7 1 hC inB_X9 rfl rfl (by decide) wq601 rfl rfl dX9_plays_70 rfl ?_
            refine a_bipush 75 (v := (20 : Int32)) hC dX9_plays_73 rfl (by decide) ?_
            refine a_ialdc 76 1 20 hC rfl rfl (vp_inc (by decide)) dX9_plays_75 rfl ?_
            exact t_X9_plays_76 hC a x1 x2 x3 x4 (s 20) (0 : Int32) s past undos kept isk seen sn sf res hR h
          · have h := ifp c9 h
            refine a_aload_n 55 0 hC dX9_plays_54 rfl rfl rfl ?_
            obtain ⟨r26, gr26, h⟩ := bd h
            refine a_callVs 58 (mdW X.2.2.2.2 a (0 : Int32) s past undos kept isk seen sn sf) 0 7 [] [] (some (.int r26)) [.int r26] hC (c_X9_tape X.1.2.1 X.2.2.2.1 X.2.2.2.2 a (0 : Int32) s past undos kept isk seen sn sf r26 gr26) ⟨wq691, wq30, wq694, ds_X9_tape, by decide, by decide⟩ wq693 wq10 rfl rfl (Nat.le_of_ble_eq_true rfl) dX9_plays_55 rfl rfl rfl ⟨(Nat.le_refl _), (Nat.le_refl _)⟩ rfl rfl rfl ?_
            refine a_aload_n 59 0 hC dX9_plays_58 rfl rfl rfl ?_
            refine a_get 62 0 7 1 hC inB_X9 rfl rfl (by decide) wq601 rfl rfl dX9_plays_59 rfl ?_
            refine a_bipush 64 (v := (20 : Int32)) hC dX9_plays_62 rfl (by decide) ?_
            refine a_ialdc 65 1 20 hC rfl rfl (vp_inc (by decide)) dX9_plays_64 rfl ?_
            refine a_isub 66 hC dX9_plays_65 rfl ?_
            refine a_goto 76 hC dX9_plays_66 (by decide) ?_
            exact t_X9_plays_76 hC a x1 x2 x3 x4 (r26 - (s 20)) (0 : Int32) s past undos kept isk seen sn sf res hR h
        · have h := ifp c8 h
          refine a_iconst 48 (v := (-1 : Int32)) hC dX9_plays_47 rfl (by decide) ?_
          obtain rfl := Option.some.inj h
          exact a_iret hC hR ⟨rfl, rfl⟩ (Nat.le_refl _) (Nat.le_refl _) dX9_plays_48
theorem c_X9_plays (l : Launch) (D : va_G) (z : ClassId × ClassId × ClassId) (a : Nat → Nat) (x1 : Int32) (x2 : Int32) (x3 : Int32) (x4 : Int32) (thrown : Int32) (s : Nat → Int32) (past : Nat → Int32) (undos : Int32) (kept : Nat → Int32) (isk : Nat → Int32) (seen : Int32) (sn : Nat → Int32) (sf : Nat → Int32) (res : (Int32) × (Int32) × (Nat → Int32) × (Nat → Int32) × (Int32)) (h : f_X9_plays x1 x2 x3 x4 thrown s past undos = some res) : Ct l D z yX9_plays cX9_plays 10 (some .int) rm_X9_plays [.ref (a 0), .int x1, .int x2, .int x3, .int x4] (mdW z a thrown s past undos kept isk seen sn sf) (fun r w => r = some (.int res.1) ∧ w = (mdW z a res.2.1 res.2.2.1 res.2.2.2.1 res.2.2.2.2 kept isk seen sn sf)) := by
  refine Ct.of (by decide +kernel) (Nat.le_of_ble_eq_true rfl) (fun X hC hl hz hn hR => ?_)
  have hz1 : X.2.2.2.2 = z := by rw [hz]
  subst hz1
  exact t_X9_plays hC a x1 x2 x3 x4 thrown s past undos kept isk seen sn sf res hR h

/-! X9_edge -/
abbrev rm_X9_edge : Room := { frames := 7, cells := 0, slots := 0, locals := 154 }
theorem ds_X9_edge : yX9_edge.cls ≠ "java/lang/invoke/MethodHandle" ∧ yX9_edge.cls ≠ "java/lang/invoke/VarHandle" ∧ (parseMethodDescriptor yX9_edge.desc).map (fun d => d.parameters.length) = some 1 := by decide +kernel
def f_X9_edge (x1 : Int32) (thrown : Int32) (s : Nat → Int32) (past : Nat → Int32) (undos : Int32) : Option ((Int32) × (Int32) × (Nat → Int32) × (Nat → Int32) × (Int32)) := ((f_X9_in x1 (1 : Int32) (9999 : Int32)).bind fun r1 => (if r1 = (0 : Int32) then (some ((-1 : Int32), (0 : Int32), s, past, undos)) else ((f_X9_notes s past undos).bind fun r3 => ((f_X9_comes x1 s).bind fun r4 => (some ((r4 23), (0 : Int32), r4, r3.1, r3.2))))))
set_option maxRecDepth 100000 in
set_option maxHeartbeats 4000000 in
theorem t_X9_edge {X : qX} (hC : Ok X rm_X9_edge cX9_edge 2 RX9 (some .int)) (a : Nat → Nat) (x1 : Int32) (thrown : Int32) (s : Nat → Int32) (past : Nat → Int32) (undos : Int32) (kept : Nat → Int32) (isk : Nat → Int32) (seen : Int32) (sn : Nat → Int32) (sf : Nat → Int32) (res : (Int32) × (Int32) × (Nat → Int32) × (Nat → Int32) × (Int32)) (hR : Rt X 0 0 (fun r w => r = some (.int res.1) ∧ w = (mdW X.2.2.2.2 a res.2.1 res.2.2.1 res.2.2.2.1 res.2.2.2.2 kept isk seen sn sf))) (h : f_X9_edge x1 thrown s past undos = some res) : At X 0 0 0 (mdW X.2.2.2.2 a thrown s past undos kept isk seen sn sf) [(0, .ref (a 0)), (1, .int x1)] [] := by
  unfold f_X9_edge at h
  refine a_aload_n 1 0 hC dX9_edge_0 rfl rfl rfl ?_
  refine a_iconst 2 (v := (0 : Int32)) hC dX9_edge_1 rfl (by decide) ?_
  refine a_put 5 0 7 0 (mdW X.2.2.2.2 a (0 : Int32) s past undos kept isk seen sn sf) tyX9 hC inB_X9 tyX9_ok nmX9 rfl rfl (by decide) wq600 rfl rfl rfl rfl rfl (Nat.le_of_ble_eq_true rfl) dX9_edge_2 rfl rfl ?_
  refine a_iload_n 6 1 hC dX9_edge_5 rfl rfl rfl ?_
  refine a_iconst 7 (v := (1 : Int32)) hC dX9_edge_6 rfl (by decide) ?_
  refine a_sipush 10 (v := (9999 : Int32)) hC dX9_edge_7 rfl (by decide) ?_
  obtain ⟨r1, gr1, h⟩ := bd h
  refine a_call0 13 [.int x1, .int (1 : Int32), .int (9999 : Int32)] [] (.int r1) hC (c_X9_in X.1.2.1 X.2.2.2.1 X.2.2.2.2 x1 (1 : Int32) (9999 : Int32) r1 gr1) ⟨wq649, wq30, wq651, ds_X9_in, by decide, by decide⟩ wq650 rfl rfl (Nat.le_of_ble_eq_true rfl) dX9_edge_10 rfl rfl rfl ⟨(Nat.le_refl _), (Nat.le_refl _)⟩ ?_
  refine a_if_ne 18 16 hC dX9_edge_13 (by decide) rfl (fun c2 => ?_) (fun c2 => ?_)
  · have h := ifn c2 h
    refine a_aload_n 19 0 hC dX9_edge_18 rfl rfl rfl ?_
    obtain ⟨r3, gr3, h⟩ := bd h
    refine a_callVs 22 (mdW X.2.2.2.2 a (0 : Int32) s r3.1 r3.2 kept isk seen sn sf) 0 7 [] [] none [] hC (c_X9_notes X.1.2.1 X.2.2.2.1 X.2.2.2.2 a (0 : Int32) s past undos kept isk seen sn sf r3 gr3) ⟨wq675, wq30, wq678, ds_X9_notes, by decide, by decide⟩ wq677 wq8 rfl rfl (Nat.le_of_ble_eq_true rfl) dX9_edge_19 rfl rfl rfl ⟨(Nat.le_refl _), (Nat.le_refl _)⟩ rfl rfl rfl ?_
    refine a_aload_n 23 0 hC dX9_edge_22 rfl rfl rfl ?_
    refine a_iload_n 24 1 hC dX9_edge_23 rfl rfl rfl ?_
    obtain ⟨r4, gr4, h⟩ := bd h
    refine a_callVs 27 (mdW X.2.2.2.2 a (0 : Int32) r4 r3.1 r3.2 kept isk seen sn sf) 0 7 [.int x1] [] none [] hC (c_X9_comes X.1.2.1 X.2.2.2.1 X.2.2.2.2 a x1 (0 : Int32) s r3.1 r3.2 kept isk seen sn sf r4 gr4) ⟨wq722, wq30, wq725, ds_X9_comes, by decide, by decide⟩ wq724 wq13 rfl rfl (Nat.le_of_ble_eq_true rfl) dX9_edge_24 rfl rfl rfl ⟨(Nat.le_refl _), (Nat.le_refl _)⟩ rfl rfl rfl ?_
    refine a_aload_n 28 0 hC dX9_edge_27 rfl rfl rfl ?_
    refine a_get 31 0 7 1 hC inB_X9 rfl rfl (by decide) wq601 rfl rfl dX9_edge_28 rfl ?_
    refine a_bipush 33 (v := (23 : Int32)) hC dX9_edge_31 rfl (by decide) ?_
    refine a_ialdc 34 1 23 hC rfl rfl (vp_inc (by decide)) dX9_edge_33 rfl ?_
    obtain rfl := Option.some.inj h
    exact a_iret hC hR ⟨rfl, rfl⟩ (Nat.le_refl _) (Nat.le_refl _) dX9_edge_34
  · have h := ifp c2 h
    refine a_iconst 17 (v := (-1 : Int32)) hC dX9_edge_16 rfl (by decide) ?_
    obtain rfl := Option.some.inj h
    exact a_iret hC hR ⟨rfl, rfl⟩ (Nat.le_refl _) (Nat.le_refl _) dX9_edge_17
theorem c_X9_edge (l : Launch) (D : va_G) (z : ClassId × ClassId × ClassId) (a : Nat → Nat) (x1 : Int32) (thrown : Int32) (s : Nat → Int32) (past : Nat → Int32) (undos : Int32) (kept : Nat → Int32) (isk : Nat → Int32) (seen : Int32) (sn : Nat → Int32) (sf : Nat → Int32) (res : (Int32) × (Int32) × (Nat → Int32) × (Nat → Int32) × (Int32)) (h : f_X9_edge x1 thrown s past undos = some res) : Ct l D z yX9_edge cX9_edge 2 (some .int) rm_X9_edge [.ref (a 0), .int x1] (mdW z a thrown s past undos kept isk seen sn sf) (fun r w => r = some (.int res.1) ∧ w = (mdW z a res.2.1 res.2.2.1 res.2.2.2.1 res.2.2.2.2 kept isk seen sn sf)) := by
  refine Ct.of (by decide +kernel) (Nat.le_of_ble_eq_true rfl) (fun X hC hl hz hn hR => ?_)
  have hz1 : X.2.2.2.2 = z := by rw [hz]
  subst hz1
  exact t_X9_edge hC a x1 thrown s past undos kept isk seen sn sf res hR h

/-! X9_begins -/
abbrev rm_X9_begins : Room := { frames := 1, cells := 0, slots := 0, locals := 21 }
theorem ds_X9_begins : yX9_begins.cls ≠ "java/lang/invoke/MethodHandle" ∧ yX9_begins.cls ≠ "java/lang/invoke/VarHandle" ∧ (parseMethodDescriptor yX9_begins.desc).map (fun d => d.parameters.length) = some 0 := by decide +kernel
def fb_X9_begins_29 (x1 : Int32) (thrown : Int32) (past : Nat → Int32) (undos : Int32) (w : ((Int32) × (Nat → Int32))) : Option (((Int32) × (Nat → Int32)) ⊕ ((Nat → Int32))) := (if (29 : Int32) < w.1 then (some (.inr w.2)) else (gd w.1 95 (nm (upd w.2 (Int32.toNatClampNeg w.1) (0 : Int32)) fun sq5 => (nm (w.1 + (1 : Int32)) fun v7 => (some (.inl (v7, sq5)))))))
set_option maxRecDepth 100000 in
set_option maxHeartbeats 4000000 in
theorem tb_X9_begins_29 {X : qX} (hC : Ok X rm_X9_begins cX9_begins 3 RX9 (some .int)) (a : Nat → Nat) (x1 : Int32) (thrown : Int32) (past : Nat → Int32) (undos : Int32) (kept : Nat → Int32) (isk : Nat → Int32) (seen : Int32) (sn : Nat → Int32) (sf : Nat → Int32) (w : ((Int32) × (Nat → Int32))) (o : ((Int32) × (Nat → Int32)) ⊕ (((Nat → Int32)))) (h : fb_X9_begins_29 x1 thrown past undos w = some o) (hk : Sum.elim (fun (w : ((Int32) × (Nat → Int32))) => At X 0 0 29 (mdW X.2.2.2.2 a thrown w.2 past undos kept isk seen sn sf) [(0, .ref (a 0)), (1, .int x1), (2, .int w.1)] []) (fun (w : (Nat → Int32)) => At X 0 0 48 (mdW X.2.2.2.2 a thrown w past undos kept isk seen sn sf) [(1, .int x1)] []) o) : At X 0 0 29 (mdW X.2.2.2.2 a thrown w.2 past undos kept isk seen sn sf) [(0, .ref (a 0)), (1, .int x1), (2, .int w.1)] [] := by
  unfold fb_X9_begins_29 at h
  refine a_iload_n 30 2 hC dX9_begins_29 rfl rfl rfl ?_
  refine a_bipush 32 (v := (29 : Int32)) hC dX9_begins_30 rfl (by decide) ?_
  refine a_icmp_gt 48 35 hC dX9_begins_32 (by decide) rfl (fun c4 => ?_) (fun c4 => ?_)
  · have h := ifp c4 h
    obtain rfl := Option.some.inj h
    refine a_lv [1] [(1, .int x1)] rfl ?_
    exact hk
  · have h := ifn c4 h
    refine a_aload_n 36 0 hC dX9_begins_35 rfl rfl rfl ?_
    refine a_get 39 0 7 1 hC inB_X9 rfl rfl (by decide) wq601 rfl rfl dX9_begins_36 rfl ?_
    refine a_iload_n 40 2 hC dX9_begins_39 rfl rfl rfl ?_
    refine a_iconst 41 (v := (0 : Int32)) hC dX9_begins_40 rfl (by decide) ?_
    obtain ⟨n6, h⟩ := gdx h
    obtain ⟨sq5, esq5, h⟩ := nmx h
    refine a_iast 42 1 (mdW X.2.2.2.2 a thrown sq5 past undos kept isk seen sn sf) hC rfl n6 dX9_begins_41 rfl (by rw [esq5]; rfl) ?_
    obtain ⟨v7, ev7, h⟩ := nmx h
    refine a_iinc 45 2 [(0, .ref (a 0)), (1, .int x1), (2, .int v7)] [1, 2, 0] hC dX9_begins_42 rfl rfl (v := v7) (by rw [ev7]; rfl) (by decide) rfl ?_
    refine a_goto 29 hC dX9_begins_45 (by decide) ?_
    obtain rfl := Option.some.inj h
    exact hk
def f_X9_begins (thrown : Int32) (s : Nat → Int32) (past : Nat → Int32) (undos : Int32) : Option ((Int32) × (Int32) × (Nat → Int32) × (Nat → Int32) × (Int32)) := ((f_X9_notes s past undos).bind fun r1 => (nm (s 24) fun v2 => (nm (upd s 21 (40 : Int32)) fun sq3 => ((lp (fb_X9_begins_29 v2 (0 : Int32) r1.1 r1.2) 100000 ((22 : Int32), sq3)).bind fun r8 => (some (v2, (0 : Int32), r8, r1.1, r1.2))))))
set_option maxRecDepth 100000 in
set_option maxHeartbeats 4000000 in
theorem t_X9_begins {X : qX} (hC : Ok X rm_X9_begins cX9_begins 3 RX9 (some .int)) (a : Nat → Nat) (thrown : Int32) (s : Nat → Int32) (past : Nat → Int32) (undos : Int32) (kept : Nat → Int32) (isk : Nat → Int32) (seen : Int32) (sn : Nat → Int32) (sf : Nat → Int32) (res : (Int32) × (Int32) × (Nat → Int32) × (Nat → Int32) × (Int32)) (hR : Rt X 0 0 (fun r w => r = some (.int res.1) ∧ w = (mdW X.2.2.2.2 a res.2.1 res.2.2.1 res.2.2.2.1 res.2.2.2.2 kept isk seen sn sf))) (h : f_X9_begins thrown s past undos = some res) : At X 0 0 0 (mdW X.2.2.2.2 a thrown s past undos kept isk seen sn sf) [(0, .ref (a 0))] [] := by
  unfold f_X9_begins at h
  refine a_aload_n 1 0 hC dX9_begins_0 rfl rfl rfl ?_
  refine a_iconst 2 (v := (0 : Int32)) hC dX9_begins_1 rfl (by decide) ?_
  refine a_put 5 0 7 0 (mdW X.2.2.2.2 a (0 : Int32) s past undos kept isk seen sn sf) tyX9 hC inB_X9 tyX9_ok nmX9 rfl rfl (by decide) wq600 rfl rfl rfl rfl rfl (Nat.le_of_ble_eq_true rfl) dX9_begins_2 rfl rfl ?_
  refine a_aload_n 6 0 hC dX9_begins_5 rfl rfl rfl ?_
  obtain ⟨r1, gr1, h⟩ := bd h
  refine a_callVs 9 (mdW X.2.2.2.2 a (0 : Int32) s r1.1 r1.2 kept isk seen sn sf) 0 7 [] [] none [] hC (c_X9_notes X.1.2.1 X.2.2.2.1 X.2.2.2.2 a (0 : Int32) s past undos kept isk seen sn sf r1 gr1) ⟨wq675, wq30, wq678, ds_X9_notes, by decide, by decide⟩ wq677 wq8 rfl rfl (Nat.le_of_ble_eq_true rfl) dX9_begins_6 rfl rfl rfl ⟨(Nat.le_refl _), (Nat.le_refl _)⟩ rfl rfl rfl ?_
  refine a_aload_n 10 0 hC dX9_begins_9 rfl rfl rfl ?_
  refine a_get 13 0 7 1 hC inB_X9 rfl rfl (by decide) wq601 rfl rfl dX9_begins_10 rfl ?_
  refine a_bipush 15 (v := (24 : Int32)) hC dX9_begins_13 rfl (by decide) ?_
  refine a_ialdc 16 1 24 hC rfl rfl (vp_inc (by decide)) dX9_begins_15 rfl ?_
  obtain ⟨v2, ev2, h⟩ := nmx h
  refine a_nm ev2 ?_
  refine a_istore_n 17 [(0, .ref (a 0)), (1, .int v2)] [1, 0] hC dX9_begins_16 rfl rfl (by decide) rfl ?_
  refine a_aload_n 18 0 hC dX9_begins_17 rfl rfl rfl ?_
  refine a_get 21 0 7 1 hC inB_X9 rfl rfl (by decide) wq601 rfl rfl dX9_begins_18 rfl ?_
  refine a_bipush 23 (v := (21 : Int32)) hC dX9_begins_21 rfl (by decide) ?_
  refine a_bipush 25 (v := (40 : Int32)) hC dX9_begins_23 rfl (by decide) ?_
  obtain ⟨sq3, esq3, h⟩ := nmx h
  refine a_iastc 26 1 21 (mdW X.2.2.2.2 a (0 : Int32) sq3 r1.1 r1.2 kept isk seen sn sf) hC rfl rfl (vp_inc (by decide)) dX9_begins_25 rfl (by rw [esq3]; rfl) ?_
  refine a_bipush 28 (v := (22 : Int32)) hC dX9_begins_26 rfl (by decide) ?_
  refine a_istore_n 29 [(0, .ref (a 0)), (1, .int v2), (2, .int (22 : Int32))] [1, 2, 0] hC dX9_begins_28 rfl rfl (by decide) rfl ?_
  obtain ⟨r8, gr8, h⟩ := bd h
  refine lp_walk (Wh := (fun (u29 : ((Int32) × (Nat → Int32))) => At X 0 0 29 (mdW X.2.2.2.2 a (0 : Int32) u29.2 r1.1 r1.2 kept isk seen sn sf) [(0, .ref (a 0)), (1, .int v2), (2, .int u29.1)] [])) (We := (fun (u29 : (Nat → Int32)) => At X 0 0 48 (mdW X.2.2.2.2 a (0 : Int32) u29 r1.1 r1.2 kept isk seen sn sf) [(1, .int v2)] [])) (fun u9 o9 hb9 hk9 => tb_X9_begins_29 hC a v2 (0 : Int32) r1.1 r1.2 kept isk seen sn sf u9 o9 hb9 hk9) 100000 ((22 : Int32), sq3) r8 gr8 ?_
  show At X 0 0 48 (mdW X.2.2.2.2 a (0 : Int32) r8 r1.1 r1.2 kept isk seen sn sf) [(1, .int v2)] []
  refine a_iload_n 49 0 hC dX9_begins_48 rfl rfl rfl ?_
  obtain rfl := Option.some.inj h
  exact a_iret hC hR ⟨rfl, rfl⟩ (Nat.le_refl _) (Nat.le_refl _) dX9_begins_49
theorem c_X9_begins (l : Launch) (D : va_G) (z : ClassId × ClassId × ClassId) (a : Nat → Nat) (thrown : Int32) (s : Nat → Int32) (past : Nat → Int32) (undos : Int32) (kept : Nat → Int32) (isk : Nat → Int32) (seen : Int32) (sn : Nat → Int32) (sf : Nat → Int32) (res : (Int32) × (Int32) × (Nat → Int32) × (Nat → Int32) × (Int32)) (h : f_X9_begins thrown s past undos = some res) : Ct l D z yX9_begins cX9_begins 3 (some .int) rm_X9_begins [.ref (a 0)] (mdW z a thrown s past undos kept isk seen sn sf) (fun r w => r = some (.int res.1) ∧ w = (mdW z a res.2.1 res.2.2.1 res.2.2.2.1 res.2.2.2.2 kept isk seen sn sf)) := by
  refine Ct.of (by decide +kernel) (Nat.le_of_ble_eq_true rfl) (fun X hC hl hz hn hR => ?_)
  have hz1 : X.2.2.2.2 = z := by rw [hz]
  subst hz1
  exact t_X9_begins hC a thrown s past undos kept isk seen sn sf res hR h

/-! X9_reader -/
abbrev rm_X9_reader : Room := { frames := 1, cells := 0, slots := 0, locals := 22 }
theorem ds_X9_reader : yX9_reader.cls ≠ "java/lang/invoke/MethodHandle" ∧ yX9_reader.cls ≠ "java/lang/invoke/VarHandle" ∧ (parseMethodDescriptor yX9_reader.desc).map (fun d => d.parameters.length) = some 1 := by decide +kernel
def f_X9_reader (x1 : Int32) (thrown : Int32) (s : Nat → Int32) : Option ((Int32) × (Int32)) := ((f_X9_in x1 (0 : Int32) (7 : Int32)).bind fun r1 => (if r1 = (0 : Int32) then (some ((-1 : Int32), (0 : Int32))) else (gd ((21 : Int32) + x1) 95 (some ((s (Int32.toNatClampNeg ((21 : Int32) + x1))), (0 : Int32))))))
set_option maxRecDepth 100000 in
set_option maxHeartbeats 4000000 in
theorem t_X9_reader {X : qX} (hC : Ok X rm_X9_reader cX9_reader 2 RX9 (some .int)) (a : Nat → Nat) (x1 : Int32) (thrown : Int32) (s : Nat → Int32) (past : Nat → Int32) (undos : Int32) (kept : Nat → Int32) (isk : Nat → Int32) (seen : Int32) (sn : Nat → Int32) (sf : Nat → Int32) (res : (Int32) × (Int32)) (hR : Rt X 0 0 (fun r w => r = some (.int res.1) ∧ w = (mdW X.2.2.2.2 a res.2 s past undos kept isk seen sn sf))) (h : f_X9_reader x1 thrown s = some res) : At X 0 0 0 (mdW X.2.2.2.2 a thrown s past undos kept isk seen sn sf) [(0, .ref (a 0)), (1, .int x1)] [] := by
  unfold f_X9_reader at h
  refine a_aload_n 1 0 hC dX9_reader_0 rfl rfl rfl ?_
  refine a_iconst 2 (v := (0 : Int32)) hC dX9_reader_1 rfl (by decide) ?_
  refine a_put 5 0 7 0 (mdW X.2.2.2.2 a (0 : Int32) s past undos kept isk seen sn sf) tyX9 hC inB_X9 tyX9_ok nmX9 rfl rfl (by decide) wq600 rfl rfl rfl rfl rfl (Nat.le_of_ble_eq_true rfl) dX9_reader_2 rfl rfl ?_
  refine a_iload_n 6 1 hC dX9_reader_5 rfl rfl rfl ?_
  refine a_iconst 7 (v := (0 : Int32)) hC dX9_reader_6 rfl (by decide) ?_
  refine a_bipush 9 (v := (7 : Int32)) hC dX9_reader_7 rfl (by decide) ?_
  obtain ⟨r1, gr1, h⟩ := bd h
  refine a_call0 12 [.int x1, .int (0 : Int32), .int (7 : Int32)] [] (.int r1) hC (c_X9_in X.1.2.1 X.2.2.2.1 X.2.2.2.2 x1 (0 : Int32) (7 : Int32) r1 gr1) ⟨wq649, wq30, wq651, ds_X9_in, by decide, by decide⟩ wq650 rfl rfl (Nat.le_of_ble_eq_true rfl) dX9_reader_9 rfl rfl rfl ⟨(Nat.le_refl _), (Nat.le_refl _)⟩ ?_
  refine a_if_eq 27 15 hC dX9_reader_12 (by decide) rfl (fun c2 => ?_) (fun c2 => ?_)
  · have h := ifp c2 h
    refine a_iconst 28 (v := (-1 : Int32)) hC dX9_reader_27 rfl (by decide) ?_
    obtain rfl := Option.some.inj h
    exact a_iret hC hR ⟨rfl, rfl⟩ (Nat.le_refl _) (Nat.le_refl _) dX9_reader_28
  · have h := ifn c2 h
    refine a_aload_n 16 0 hC dX9_reader_15 rfl rfl rfl ?_
    refine a_get 19 0 7 1 hC inB_X9 rfl rfl (by decide) wq601 rfl rfl dX9_reader_16 rfl ?_
    refine a_bipush 21 (v := (21 : Int32)) hC dX9_reader_19 rfl (by decide) ?_
    refine a_iload_n 22 1 hC dX9_reader_21 rfl rfl rfl ?_
    refine a_iadd 23 hC dX9_reader_22 rfl ?_
    obtain ⟨n3, h⟩ := gdx h
    refine a_iald 24 1 hC rfl n3 dX9_reader_23 rfl ?_
    refine a_goto 28 hC dX9_reader_24 (by decide) ?_
    obtain rfl := Option.some.inj h
    exact a_iret hC hR ⟨rfl, rfl⟩ (Nat.le_refl _) (Nat.le_refl _) dX9_reader_28
theorem c_X9_reader (l : Launch) (D : va_G) (z : ClassId × ClassId × ClassId) (a : Nat → Nat) (x1 : Int32) (thrown : Int32) (s : Nat → Int32) (past : Nat → Int32) (undos : Int32) (kept : Nat → Int32) (isk : Nat → Int32) (seen : Int32) (sn : Nat → Int32) (sf : Nat → Int32) (res : (Int32) × (Int32)) (h : f_X9_reader x1 thrown s = some res) : Ct l D z yX9_reader cX9_reader 2 (some .int) rm_X9_reader [.ref (a 0), .int x1] (mdW z a thrown s past undos kept isk seen sn sf) (fun r w => r = some (.int res.1) ∧ w = (mdW z a res.2 s past undos kept isk seen sn sf)) := by
  refine Ct.of (by decide +kernel) (Nat.le_of_ble_eq_true rfl) (fun X hC hl hz hn hR => ?_)
  have hz1 : X.2.2.2.2 = z := by rw [hz]
  subst hz1
  exact t_X9_reader hC a x1 thrown s past undos kept isk seen sn sf res hR h

/-! X9_reading -/
abbrev rm_X9_reading : Room := { frames := 1, cells := 0, slots := 0, locals := 22 }
theorem ds_X9_reading : yX9_reading.cls ≠ "java/lang/invoke/MethodHandle" ∧ yX9_reading.cls ≠ "java/lang/invoke/VarHandle" ∧ (parseMethodDescriptor yX9_reading.desc).map (fun d => d.parameters.length) = some 1 := by decide +kernel
def f_X9_reading (x1 : Int32) (thrown : Int32) (s : Nat → Int32) : Option ((Int32) × (Int32)) := ((f_X9_in x1 (0 : Int32) (3 : Int32)).bind fun r1 => (if r1 = (0 : Int32) then (some ((-2147483647 : Int32), (0 : Int32))) else (if (s 29) = (0 : Int32) then (some ((-9 : Int32), (0 : Int32))) else (gd ((30 : Int32) + x1) 95 (some ((s (Int32.toNatClampNeg ((30 : Int32) + x1))), (0 : Int32)))))))
set_option maxRecDepth 100000 in
set_option maxHeartbeats 4000000 in
theorem t_X9_reading {X : qX} (hC : Ok X rm_X9_reading cX9_reading 2 RX9 (some .int)) (a : Nat → Nat) (x1 : Int32) (thrown : Int32) (s : Nat → Int32) (past : Nat → Int32) (undos : Int32) (kept : Nat → Int32) (isk : Nat → Int32) (seen : Int32) (sn : Nat → Int32) (sf : Nat → Int32) (res : (Int32) × (Int32)) (hR : Rt X 0 0 (fun r w => r = some (.int res.1) ∧ w = (mdW X.2.2.2.2 a res.2 s past undos kept isk seen sn sf))) (h : f_X9_reading x1 thrown s = some res) : At X 0 0 0 (mdW X.2.2.2.2 a thrown s past undos kept isk seen sn sf) [(0, .ref (a 0)), (1, .int x1)] [] := by
  unfold f_X9_reading at h
  refine a_aload_n 1 0 hC dX9_reading_0 rfl rfl rfl ?_
  refine a_iconst 2 (v := (0 : Int32)) hC dX9_reading_1 rfl (by decide) ?_
  refine a_put 5 0 7 0 (mdW X.2.2.2.2 a (0 : Int32) s past undos kept isk seen sn sf) tyX9 hC inB_X9 tyX9_ok nmX9 rfl rfl (by decide) wq600 rfl rfl rfl rfl rfl (Nat.le_of_ble_eq_true rfl) dX9_reading_2 rfl rfl ?_
  refine a_iload_n 6 1 hC dX9_reading_5 rfl rfl rfl ?_
  refine a_iconst 7 (v := (0 : Int32)) hC dX9_reading_6 rfl (by decide) ?_
  refine a_iconst 8 (v := (3 : Int32)) hC dX9_reading_7 rfl (by decide) ?_
  obtain ⟨r1, gr1, h⟩ := bd h
  refine a_call0 11 [.int x1, .int (0 : Int32), .int (3 : Int32)] [] (.int r1) hC (c_X9_in X.1.2.1 X.2.2.2.1 X.2.2.2.2 x1 (0 : Int32) (3 : Int32) r1 gr1) ⟨wq649, wq30, wq651, ds_X9_in, by decide, by decide⟩ wq650 rfl rfl (Nat.le_of_ble_eq_true rfl) dX9_reading_8 rfl rfl rfl ⟨(Nat.le_refl _), (Nat.le_refl _)⟩ ?_
  refine a_if_ne 19 14 hC dX9_reading_11 (by decide) rfl (fun c2 => ?_) (fun c2 => ?_)
  · have h := ifn c2 h
    refine a_aload_n 20 0 hC dX9_reading_19 rfl rfl rfl ?_
    refine a_get 23 0 7 1 hC inB_X9 rfl rfl (by decide) wq601 rfl rfl dX9_reading_20 rfl ?_
    refine a_bipush 25 (v := (29 : Int32)) hC dX9_reading_23 rfl (by decide) ?_
    refine a_ialdc 26 1 29 hC rfl rfl (vp_inc (by decide)) dX9_reading_25 rfl ?_
    refine a_if_ne 34 29 hC dX9_reading_26 (by decide) rfl (fun c3 => ?_) (fun c3 => ?_)
    · have h := ifn c3 h
      refine a_aload_n 35 0 hC dX9_reading_34 rfl rfl rfl ?_
      refine a_get 38 0 7 1 hC inB_X9 rfl rfl (by decide) wq601 rfl rfl dX9_reading_35 rfl ?_
      refine a_bipush 40 (v := (30 : Int32)) hC dX9_reading_38 rfl (by decide) ?_
      refine a_iload_n 41 1 hC dX9_reading_40 rfl rfl rfl ?_
      refine a_iadd 42 hC dX9_reading_41 rfl ?_
      obtain ⟨n4, h⟩ := gdx h
      refine a_iald 43 1 hC rfl n4 dX9_reading_42 rfl ?_
      obtain rfl := Option.some.inj h
      exact a_iret hC hR ⟨rfl, rfl⟩ (Nat.le_refl _) (Nat.le_refl _) dX9_reading_43
    · have h := ifp c3 h
      refine a_bipush 31 (v := (-9 : Int32)) hC dX9_reading_29 rfl (by decide) ?_
      refine a_goto 43 hC dX9_reading_31 (by decide) ?_
      obtain rfl := Option.some.inj h
      exact a_iret hC hR ⟨rfl, rfl⟩ (Nat.le_refl _) (Nat.le_refl _) dX9_reading_43
  · have h := ifp c2 h
    refine a_ldc 16 (v := (-2147483647 : Int32)) hC wq764 dX9_reading_14 rfl ?_
    refine a_goto 43 hC dX9_reading_16 (by decide) ?_
    obtain rfl := Option.some.inj h
    exact a_iret hC hR ⟨rfl, rfl⟩ (Nat.le_refl _) (Nat.le_refl _) dX9_reading_43
theorem c_X9_reading (l : Launch) (D : va_G) (z : ClassId × ClassId × ClassId) (a : Nat → Nat) (x1 : Int32) (thrown : Int32) (s : Nat → Int32) (past : Nat → Int32) (undos : Int32) (kept : Nat → Int32) (isk : Nat → Int32) (seen : Int32) (sn : Nat → Int32) (sf : Nat → Int32) (res : (Int32) × (Int32)) (h : f_X9_reading x1 thrown s = some res) : Ct l D z yX9_reading cX9_reading 2 (some .int) rm_X9_reading [.ref (a 0), .int x1] (mdW z a thrown s past undos kept isk seen sn sf) (fun r w => r = some (.int res.1) ∧ w = (mdW z a res.2 s past undos kept isk seen sn sf)) := by
  refine Ct.of (by decide +kernel) (Nat.le_of_ble_eq_true rfl) (fun X hC hl hz hn hR => ?_)
  have hz1 : X.2.2.2.2 = z := by rw [hz]
  subst hz1
  exact t_X9_reading hC a x1 thrown s past undos kept isk seen sn sf res hR h

/-! X9_isLocked -/
abbrev rm_X9_isLocked : Room := { frames := 0, cells := 0, slots := 0, locals := 0 }
theorem ds_X9_isLocked : yX9_isLocked.cls ≠ "java/lang/invoke/MethodHandle" ∧ yX9_isLocked.cls ≠ "java/lang/invoke/VarHandle" ∧ (parseMethodDescriptor yX9_isLocked.desc).map (fun d => d.parameters.length) = some 0 := by decide +kernel
def f_X9_isLocked (s : Nat → Int32) : Option ((Int32)) := (if (s 28) ≤ (2 : Int32) then (some (0 : Int32)) else (some (1 : Int32)))
set_option maxRecDepth 100000 in
set_option maxHeartbeats 4000000 in
theorem t_X9_isLocked {X : qX} (hC : Ok X rm_X9_isLocked cX9_isLocked 1 RX9 (some .boolean)) (a : Nat → Nat) (thrown : Int32) (s : Nat → Int32) (past : Nat → Int32) (undos : Int32) (kept : Nat → Int32) (isk : Nat → Int32) (seen : Int32) (sn : Nat → Int32) (sf : Nat → Int32) (res : (Int32)) (hR : Rt X 0 0 (fun r w => r = some (.int res) ∧ w = (mdW X.2.2.2.2 a thrown s past undos kept isk seen sn sf))) (h : f_X9_isLocked s = some res) : At X 0 0 0 (mdW X.2.2.2.2 a thrown s past undos kept isk seen sn sf) [(0, .ref (a 0))] [] := by
  unfold f_X9_isLocked at h
  refine a_aload_n 1 0 hC dX9_isLocked_0 rfl rfl rfl ?_
  refine a_get 4 0 7 1 hC inB_X9 rfl rfl (by decide) wq601 rfl rfl dX9_isLocked_1 rfl ?_
  refine a_bipush 6 (v := (28 : Int32)) hC dX9_isLocked_4 rfl (by decide) ?_
  refine a_ialdc 7 1 28 hC rfl rfl (vp_inc (by decide)) dX9_isLocked_6 rfl ?_
  refine a_iconst 8 (v := (2 : Int32)) hC dX9_isLocked_7 rfl (by decide) ?_
  refine a_icmp_le 15 11 hC dX9_isLocked_8 (by decide) rfl (fun c1 => ?_) (fun c1 => ?_)
  · have h := ifp c1 h
    refine a_iconst 16 (v := (0 : Int32)) hC dX9_isLocked_15 rfl (by decide) ?_
    obtain rfl := Option.some.inj h
    exact a_zret hC hR ⟨rfl, rfl⟩ rfl (Nat.le_refl _) (Nat.le_refl _) dX9_isLocked_16
  · have h := ifn c1 h
    refine a_iconst 12 (v := (1 : Int32)) hC dX9_isLocked_11 rfl (by decide) ?_
    refine a_goto 16 hC dX9_isLocked_12 (by decide) ?_
    obtain rfl := Option.some.inj h
    exact a_zret hC hR ⟨rfl, rfl⟩ rfl (Nat.le_refl _) (Nat.le_refl _) dX9_isLocked_16
theorem c_X9_isLocked (l : Launch) (D : va_G) (z : ClassId × ClassId × ClassId) (a : Nat → Nat) (thrown : Int32) (s : Nat → Int32) (past : Nat → Int32) (undos : Int32) (kept : Nat → Int32) (isk : Nat → Int32) (seen : Int32) (sn : Nat → Int32) (sf : Nat → Int32) (res : (Int32)) (h : f_X9_isLocked s = some res) : Ct l D z yX9_isLocked cX9_isLocked 1 (some .boolean) rm_X9_isLocked [.ref (a 0)] (mdW z a thrown s past undos kept isk seen sn sf) (fun r w => r = some (.int res) ∧ w = (mdW z a thrown s past undos kept isk seen sn sf)) := by
  refine Ct.of (by decide +kernel) (Nat.le_of_ble_eq_true rfl) (fun X hC hl hz hn hR => ?_)
  have hz1 : X.2.2.2.2 = z := by rw [hz]
  subst hz1
  exact t_X9_isLocked hC a thrown s past undos kept isk seen sn sf res hR h

/-! X9_misses -/
abbrev rm_X9_misses : Room := { frames := 4, cells := 0, slots := 0, locals := 82 }
theorem ds_X9_misses : yX9_misses.cls ≠ "java/lang/invoke/MethodHandle" ∧ yX9_misses.cls ≠ "java/lang/invoke/VarHandle" ∧ (parseMethodDescriptor yX9_misses.desc).map (fun d => d.parameters.length) = some 0 := by decide +kernel
def f_X9_misses_73 (thrown : Int32) (s : Nat → Int32) (past : Nat → Int32) (undos : Int32) : Option ((Int32) × (Int32) × (Nat → Int32) × (Nat → Int32) × (Int32)) := (nm (upd s 28 (0 : Int32)) fun sq4 => (some ((sq4 34), thrown, sq4, past, undos)))
set_option maxRecDepth 100000 in
set_option maxHeartbeats 4000000 in
theorem t_X9_misses_73 {X : qX} (hC : Ok X rm_X9_misses cX9_misses 1 RX9 (some .int)) (a : Nat → Nat) (thrown : Int32) (s : Nat → Int32) (past : Nat → Int32) (undos : Int32) (kept : Nat → Int32) (isk : Nat → Int32) (seen : Int32) (sn : Nat → Int32) (sf : Nat → Int32) (res : (Int32) × (Int32) × (Nat → Int32) × (Nat → Int32) × (Int32)) (hR : Rt X 0 0 (fun r w => r = some (.int res.1) ∧ w = (mdW X.2.2.2.2 a res.2.1 res.2.2.1 res.2.2.2.1 res.2.2.2.2 kept isk seen sn sf))) (h : f_X9_misses_73 thrown s past undos = some res) : At X 0 0 73 (mdW X.2.2.2.2 a thrown s past undos kept isk seen sn sf) [(0, .ref (a 0))] [] := by
  unfold f_X9_misses_73 at h
  refine a_aload_n 74 0 hC dX9_misses_73 rfl rfl rfl ?_
  refine a_get 77 0 7 1 hC inB_X9 rfl rfl (by decide) wq601 rfl rfl dX9_misses_74 rfl ?_
  refine a_bipush 79 (v := (28 : Int32)) hC dX9_misses_77 rfl (by decide) ?_
  refine a_iconst 80 (v := (0 : Int32)) hC dX9_misses_79 rfl (by decide) ?_
  obtain ⟨sq4, esq4, h⟩ := nmx h
  refine a_iastc 81 1 28 (mdW X.2.2.2.2 a thrown sq4 past undos kept isk seen sn sf) hC rfl rfl (vp_inc (by decide)) dX9_misses_80 rfl (by rw [esq4]; rfl) ?_
  refine a_aload_n 82 0 hC dX9_misses_81 rfl rfl rfl ?_
  refine a_get 85 0 7 1 hC inB_X9 rfl rfl (by decide) wq601 rfl rfl dX9_misses_82 rfl ?_
  refine a_bipush 87 (v := (34 : Int32)) hC dX9_misses_85 rfl (by decide) ?_
  refine a_ialdc 88 1 34 hC rfl rfl (vp_inc (by decide)) dX9_misses_87 rfl ?_
  obtain rfl := Option.some.inj h
  exact a_iret hC hR ⟨rfl, rfl⟩ (Nat.le_refl _) (Nat.le_refl _) dX9_misses_88
def f_X9_misses (thrown : Int32) (s : Nat → Int32) (past : Nat → Int32) (undos : Int32) : Option ((Int32) × (Int32) × (Nat → Int32) × (Nat → Int32) × (Int32)) := ((f_X9_notes s past undos).bind fun r1 => ((f_X9_isLocked s).bind fun r2 => (if r2 = (0 : Int32) then (f_X9_misses_73 (0 : Int32) s r1.1 r1.2) else (if (s 37) ≤ (s 36) then (f_X9_misses_73 (0 : Int32) s r1.1 r1.2) else (nm ((s 36) + (1 : Int32)) fun v6 => (nm (upd s 36 v6) fun sq7 => ((f_X9_around ((sq7 34) + (sq7 35)) sq7).bind fun r8 => (nm (upd sq7 34 r8) fun sq9 => (some ((sq9 34), (0 : Int32), sq9, r1.1, r1.2))))))))))
set_option maxRecDepth 100000 in
set_option maxHeartbeats 4000000 in
theorem t_X9_misses {X : qX} (hC : Ok X rm_X9_misses cX9_misses 1 RX9 (some .int)) (a : Nat → Nat) (thrown : Int32) (s : Nat → Int32) (past : Nat → Int32) (undos : Int32) (kept : Nat → Int32) (isk : Nat → Int32) (seen : Int32) (sn : Nat → Int32) (sf : Nat → Int32) (res : (Int32) × (Int32) × (Nat → Int32) × (Nat → Int32) × (Int32)) (hR : Rt X 0 0 (fun r w => r = some (.int res.1) ∧ w = (mdW X.2.2.2.2 a res.2.1 res.2.2.1 res.2.2.2.1 res.2.2.2.2 kept isk seen sn sf))) (h : f_X9_misses thrown s past undos = some res) : At X 0 0 0 (mdW X.2.2.2.2 a thrown s past undos kept isk seen sn sf) [(0, .ref (a 0))] [] := by
  unfold f_X9_misses at h
  refine a_aload_n 1 0 hC dX9_misses_0 rfl rfl rfl ?_
  refine a_iconst 2 (v := (0 : Int32)) hC dX9_misses_1 rfl (by decide) ?_
  refine a_put 5 0 7 0 (mdW X.2.2.2.2 a (0 : Int32) s past undos kept isk seen sn sf) tyX9 hC inB_X9 tyX9_ok nmX9 rfl rfl (by decide) wq600 rfl rfl rfl rfl rfl (Nat.le_of_ble_eq_true rfl) dX9_misses_2 rfl rfl ?_
  refine a_aload_n 6 0 hC dX9_misses_5 rfl rfl rfl ?_
  obtain ⟨r1, gr1, h⟩ := bd h
  refine a_callVs 9 (mdW X.2.2.2.2 a (0 : Int32) s r1.1 r1.2 kept isk seen sn sf) 0 7 [] [] none [] hC (c_X9_notes X.1.2.1 X.2.2.2.1 X.2.2.2.2 a (0 : Int32) s past undos kept isk seen sn sf r1 gr1) ⟨wq675, wq30, wq678, ds_X9_notes, by decide, by decide⟩ wq677 wq8 rfl rfl (Nat.le_of_ble_eq_true rfl) dX9_misses_6 rfl rfl rfl ⟨(Nat.le_refl _), (Nat.le_refl _)⟩ rfl rfl rfl ?_
  refine a_aload_n 10 0 hC dX9_misses_9 rfl rfl rfl ?_
  obtain ⟨r2, gr2, h⟩ := bd h
  refine a_callVs 13 (mdW X.2.2.2.2 a (0 : Int32) s r1.1 r1.2 kept isk seen sn sf) 0 7 [] [] (some (.int r2)) [.int r2] hC (c_X9_isLocked X.1.2.1 X.2.2.2.1 X.2.2.2.2 a (0 : Int32) s r1.1 r1.2 kept isk seen sn sf r2 gr2) ⟨wq769, wq30, wq772, ds_X9_isLocked, by decide, by decide⟩ wq771 wq18 rfl rfl (Nat.le_of_ble_eq_true rfl) dX9_misses_10 rfl rfl rfl ⟨(Nat.le_refl _), (Nat.le_refl _)⟩ rfl rfl rfl ?_
  refine a_if_eq 73 16 hC dX9_misses_13 (by decide) rfl (fun c3 => ?_) (fun c3 => ?_)
  · have h := ifp c3 h
    exact t_X9_misses_73 hC a (0 : Int32) s r1.1 r1.2 kept isk seen sn sf res hR h
  · have h := ifn c3 h
    refine a_aload_n 17 0 hC dX9_misses_16 rfl rfl rfl ?_
    refine a_get 20 0 7 1 hC inB_X9 rfl rfl (by decide) wq601 rfl rfl dX9_misses_17 rfl ?_
    refine a_bipush 22 (v := (36 : Int32)) hC dX9_misses_20 rfl (by decide) ?_
    refine a_ialdc 23 1 36 hC rfl rfl (vp_inc (by decide)) dX9_misses_22 rfl ?_
    refine a_aload_n 24 0 hC dX9_misses_23 rfl rfl rfl ?_
    refine a_get 27 0 7 1 hC inB_X9 rfl rfl (by decide) wq601 rfl rfl dX9_misses_24 rfl ?_
    refine a_bipush 29 (v := (37 : Int32)) hC dX9_misses_27 rfl (by decide) ?_
    refine a_ialdc 30 1 37 hC rfl rfl (vp_inc (by decide)) dX9_misses_29 rfl ?_
    refine a_icmp_ge 73 33 hC dX9_misses_30 (by decide) rfl (fun c5 => ?_) (fun c5 => ?_)
    · have h := ifp c5 h
      exact t_X9_misses_73 hC a (0 : Int32) s r1.1 r1.2 kept isk seen sn sf res hR h
    · have h := ifn c5 h
      refine a_aload_n 34 0 hC dX9_misses_33 rfl rfl rfl ?_
      refine a_get 37 0 7 1 hC inB_X9 rfl rfl (by decide) wq601 rfl rfl dX9_misses_34 rfl ?_
      refine a_bipush 39 (v := (36 : Int32)) hC dX9_misses_37 rfl (by decide) ?_
      refine a_dup2 40 hC dX9_misses_39 rfl rfl rfl ?_
      refine a_ialdc 41 1 36 hC rfl rfl (vp_inc (by decide)) dX9_misses_40 rfl ?_
      refine a_iconst 42 (v := (1 : Int32)) hC dX9_misses_41 rfl (by decide) ?_
      refine a_iadd 43 hC dX9_misses_42 rfl ?_
      obtain ⟨v6, ev6, h⟩ := nmx h
      refine a_nm ev6 ?_
      obtain ⟨sq7, esq7, h⟩ := nmx h
      refine a_iastc 44 1 36 (mdW X.2.2.2.2 a (0 : Int32) sq7 r1.1 r1.2 kept isk seen sn sf) hC rfl rfl (vp_inc (by decide)) dX9_misses_43 rfl (by rw [esq7]; rfl) ?_
      refine a_aload_n 45 0 hC dX9_misses_44 rfl rfl rfl ?_
      refine a_get 48 0 7 1 hC inB_X9 rfl rfl (by decide) wq601 rfl rfl dX9_misses_45 rfl ?_
      refine a_bipush 50 (v := (34 : Int32)) hC dX9_misses_48 rfl (by decide) ?_
      refine a_aload_n 51 0 hC dX9_misses_50 rfl rfl rfl ?_
      refine a_aload_n 52 0 hC dX9_misses_51 rfl rfl rfl ?_
      refine a_get 55 0 7 1 hC inB_X9 rfl rfl (by decide) wq601 rfl rfl dX9_misses_52 rfl ?_
      refine a_bipush 57 (v := (34 : Int32)) hC dX9_misses_55 rfl (by decide) ?_
      refine a_ialdc 58 1 34 hC rfl rfl (vp_inc (by decide)) dX9_misses_57 rfl ?_
      refine a_aload_n 59 0 hC dX9_misses_58 rfl rfl rfl ?_
      refine a_get 62 0 7 1 hC inB_X9 rfl rfl (by decide) wq601 rfl rfl dX9_misses_59 rfl ?_
      refine a_bipush 64 (v := (35 : Int32)) hC dX9_misses_62 rfl (by decide) ?_
      refine a_ialdc 65 1 35 hC rfl rfl (vp_inc (by decide)) dX9_misses_64 rfl ?_
      refine a_iadd 66 hC dX9_misses_65 rfl ?_
      obtain ⟨r8, gr8, h⟩ := bd h
      refine a_callVs 69 (mdW X.2.2.2.2 a (0 : Int32) sq7 r1.1 r1.2 kept isk seen sn sf) 0 7 [.int ((sq7 34) + (sq7 35))] [.int (34 : Int32), .ref (a 1)] (some (.int r8)) [.int r8, .int (34 : Int32), .ref (a 1)] hC (c_X9_around X.1.2.1 X.2.2.2.1 X.2.2.2.2 a ((sq7 34) + (sq7 35)) (0 : Int32) sq7 r1.1 r1.2 kept isk seen sn sf r8 gr8) ⟨wq679, wq30, wq682, ds_X9_around, by decide, by decide⟩ wq681 wq9 rfl rfl (Nat.le_of_ble_eq_true rfl) dX9_misses_66 rfl rfl rfl ⟨(Nat.le_refl _), (Nat.le_refl _)⟩ rfl rfl rfl ?_
      obtain ⟨sq9, esq9, h⟩ := nmx h
      refine a_iastc 70 1 34 (mdW X.2.2.2.2 a (0 : Int32) sq9 r1.1 r1.2 kept isk seen sn sf) hC rfl rfl (vp_inc (by decide)) dX9_misses_69 rfl (by rw [esq9]; rfl) ?_
      refine a_goto 81 hC dX9_misses_70 (by decide) ?_
      refine a_aload_n 82 0 hC dX9_misses_81 rfl rfl rfl ?_
      refine a_get 85 0 7 1 hC inB_X9 rfl rfl (by decide) wq601 rfl rfl dX9_misses_82 rfl ?_
      refine a_bipush 87 (v := (34 : Int32)) hC dX9_misses_85 rfl (by decide) ?_
      refine a_ialdc 88 1 34 hC rfl rfl (vp_inc (by decide)) dX9_misses_87 rfl ?_
      obtain rfl := Option.some.inj h
      exact a_iret hC hR ⟨rfl, rfl⟩ (Nat.le_refl _) (Nat.le_refl _) dX9_misses_88
theorem c_X9_misses (l : Launch) (D : va_G) (z : ClassId × ClassId × ClassId) (a : Nat → Nat) (thrown : Int32) (s : Nat → Int32) (past : Nat → Int32) (undos : Int32) (kept : Nat → Int32) (isk : Nat → Int32) (seen : Int32) (sn : Nat → Int32) (sf : Nat → Int32) (res : (Int32) × (Int32) × (Nat → Int32) × (Nat → Int32) × (Int32)) (h : f_X9_misses thrown s past undos = some res) : Ct l D z yX9_misses cX9_misses 1 (some .int) rm_X9_misses [.ref (a 0)] (mdW z a thrown s past undos kept isk seen sn sf) (fun r w => r = some (.int res.1) ∧ w = (mdW z a res.2.1 res.2.2.1 res.2.2.2.1 res.2.2.2.2 kept isk seen sn sf)) := by
  refine Ct.of (by decide +kernel) (Nat.le_of_ble_eq_true rfl) (fun X hC hl hz hn hR => ?_)
  have hz1 : X.2.2.2.2 = z := by rw [hz]
  subst hz1
  exact t_X9_misses hC a thrown s past undos kept isk seen sn sf res hR h

/-! X9_holds -/
abbrev rm_X9_holds : Room := { frames := 1, cells := 0, slots := 0, locals := 22 }
theorem ds_X9_holds : yX9_holds.cls ≠ "java/lang/invoke/MethodHandle" ∧ yX9_holds.cls ≠ "java/lang/invoke/VarHandle" ∧ (parseMethodDescriptor yX9_holds.desc).map (fun d => d.parameters.length) = some 1 := by decide +kernel
def f_X9_holds (x1 : Int32) (thrown : Int32) (s : Nat → Int32) (past : Nat → Int32) (undos : Int32) : Option ((Int32) × (Int32) × (Nat → Int32) × (Nat → Int32) × (Int32)) := ((f_X9_in x1 (0 : Int32) (99 : Int32)).bind fun r1 => (if r1 = (0 : Int32) then (some ((-1 : Int32), (0 : Int32), s, past, undos)) else (nm (s 37) fun v3 => (if v3 = x1 then (some ((-2 : Int32), (0 : Int32), s, past, undos)) else ((f_X9_notes s past undos).bind fun r5 => (nm (upd s 37 x1) fun sq6 => (some (v3, (0 : Int32), sq6, r5.1, r5.2))))))))
set_option maxRecDepth 100000 in
set_option maxHeartbeats 4000000 in
theorem t_X9_holds {X : qX} (hC : Ok X rm_X9_holds cX9_holds 3 RX9 (some .int)) (a : Nat → Nat) (x1 : Int32) (thrown : Int32) (s : Nat → Int32) (past : Nat → Int32) (undos : Int32) (kept : Nat → Int32) (isk : Nat → Int32) (seen : Int32) (sn : Nat → Int32) (sf : Nat → Int32) (res : (Int32) × (Int32) × (Nat → Int32) × (Nat → Int32) × (Int32)) (hR : Rt X 0 0 (fun r w => r = some (.int res.1) ∧ w = (mdW X.2.2.2.2 a res.2.1 res.2.2.1 res.2.2.2.1 res.2.2.2.2 kept isk seen sn sf))) (h : f_X9_holds x1 thrown s past undos = some res) : At X 0 0 0 (mdW X.2.2.2.2 a thrown s past undos kept isk seen sn sf) [(0, .ref (a 0)), (1, .int x1)] [] := by
  unfold f_X9_holds at h
  refine a_aload_n 1 0 hC dX9_holds_0 rfl rfl rfl ?_
  refine a_iconst 2 (v := (0 : Int32)) hC dX9_holds_1 rfl (by decide) ?_
  refine a_put 5 0 7 0 (mdW X.2.2.2.2 a (0 : Int32) s past undos kept isk seen sn sf) tyX9 hC inB_X9 tyX9_ok nmX9 rfl rfl (by decide) wq600 rfl rfl rfl rfl rfl (Nat.le_of_ble_eq_true rfl) dX9_holds_2 rfl rfl ?_
  refine a_iload_n 6 1 hC dX9_holds_5 rfl rfl rfl ?_
  refine a_iconst 7 (v := (0 : Int32)) hC dX9_holds_6 rfl (by decide) ?_
  refine a_bipush 9 (v := (99 : Int32)) hC dX9_holds_7 rfl (by decide) ?_
  obtain ⟨r1, gr1, h⟩ := bd h
  refine a_call0 12 [.int x1, .int (0 : Int32), .int (99 : Int32)] [] (.int r1) hC (c_X9_in X.1.2.1 X.2.2.2.1 X.2.2.2.2 x1 (0 : Int32) (99 : Int32) r1 gr1) ⟨wq649, wq30, wq651, ds_X9_in, by decide, by decide⟩ wq650 rfl rfl (Nat.le_of_ble_eq_true rfl) dX9_holds_9 rfl rfl rfl ⟨(Nat.le_refl _), (Nat.le_refl _)⟩ ?_
  refine a_if_ne 17 15 hC dX9_holds_12 (by decide) rfl (fun c2 => ?_) (fun c2 => ?_)
  · have h := ifn c2 h
    refine a_aload_n 18 0 hC dX9_holds_17 rfl rfl rfl ?_
    refine a_get 21 0 7 1 hC inB_X9 rfl rfl (by decide) wq601 rfl rfl dX9_holds_18 rfl ?_
    refine a_bipush 23 (v := (37 : Int32)) hC dX9_holds_21 rfl (by decide) ?_
    refine a_ialdc 24 1 37 hC rfl rfl (vp_inc (by decide)) dX9_holds_23 rfl ?_
    obtain ⟨v3, ev3, h⟩ := nmx h
    refine a_nm ev3 ?_
    refine a_istore_n 25 [(0, .ref (a 0)), (1, .int x1), (2, .int v3)] [1, 2, 0] hC dX9_holds_24 rfl rfl (by decide) rfl ?_
    refine a_iload_n 26 2 hC dX9_holds_25 rfl rfl rfl ?_
    refine a_iload_n 27 1 hC dX9_holds_26 rfl rfl rfl ?_
    refine a_icmp_ne 33 30 hC dX9_holds_27 (by decide) rfl (fun c4 => ?_) (fun c4 => ?_)
    · have h := ifn c4 h
      refine a_aload_n 34 0 hC dX9_holds_33 rfl rfl rfl ?_
      obtain ⟨r5, gr5, h⟩ := bd h
      refine a_callVs 37 (mdW X.2.2.2.2 a (0 : Int32) s r5.1 r5.2 kept isk seen sn sf) 0 7 [] [] none [] hC (c_X9_notes X.1.2.1 X.2.2.2.1 X.2.2.2.2 a (0 : Int32) s past undos kept isk seen sn sf r5 gr5) ⟨wq675, wq30, wq678, ds_X9_notes, by decide, by decide⟩ wq677 wq8 rfl rfl (Nat.le_of_ble_eq_true rfl) dX9_holds_34 rfl rfl rfl ⟨(Nat.le_refl _), (Nat.le_refl _)⟩ rfl rfl rfl ?_
      refine a_aload_n 38 0 hC dX9_holds_37 rfl rfl rfl ?_
      refine a_get 41 0 7 1 hC inB_X9 rfl rfl (by decide) wq601 rfl rfl dX9_holds_38 rfl ?_
      refine a_bipush 43 (v := (37 : Int32)) hC dX9_holds_41 rfl (by decide) ?_
      refine a_iload_n 44 1 hC dX9_holds_43 rfl rfl rfl ?_
      obtain ⟨sq6, esq6, h⟩ := nmx h
      refine a_iastc 45 1 37 (mdW X.2.2.2.2 a (0 : Int32) sq6 r5.1 r5.2 kept isk seen sn sf) hC rfl rfl (vp_inc (by decide)) dX9_holds_44 rfl (by rw [esq6]; rfl) ?_
      refine a_iload_n 46 2 hC dX9_holds_45 rfl rfl rfl ?_
      obtain rfl := Option.some.inj h
      exact a_iret hC hR ⟨rfl, rfl⟩ (Nat.le_refl _) (Nat.le_refl _) dX9_holds_46
    · have h := ifp c4 h
      refine a_bipush 32 (v := (-2 : Int32)) hC dX9_holds_30 rfl (by decide) ?_
      obtain rfl := Option.some.inj h
      exact a_iret hC hR ⟨rfl, rfl⟩ (Nat.le_refl _) (Nat.le_refl _) dX9_holds_32
  · have h := ifp c2 h
    refine a_iconst 16 (v := (-1 : Int32)) hC dX9_holds_15 rfl (by decide) ?_
    obtain rfl := Option.some.inj h
    exact a_iret hC hR ⟨rfl, rfl⟩ (Nat.le_refl _) (Nat.le_refl _) dX9_holds_16
theorem c_X9_holds (l : Launch) (D : va_G) (z : ClassId × ClassId × ClassId) (a : Nat → Nat) (x1 : Int32) (thrown : Int32) (s : Nat → Int32) (past : Nat → Int32) (undos : Int32) (kept : Nat → Int32) (isk : Nat → Int32) (seen : Int32) (sn : Nat → Int32) (sf : Nat → Int32) (res : (Int32) × (Int32) × (Nat → Int32) × (Nat → Int32) × (Int32)) (h : f_X9_holds x1 thrown s past undos = some res) : Ct l D z yX9_holds cX9_holds 3 (some .int) rm_X9_holds [.ref (a 0), .int x1] (mdW z a thrown s past undos kept isk seen sn sf) (fun r w => r = some (.int res.1) ∧ w = (mdW z a res.2.1 res.2.2.1 res.2.2.2.1 res.2.2.2.2 kept isk seen sn sf)) := by
  refine Ct.of (by decide +kernel) (Nat.le_of_ble_eq_true rfl) (fun X hC hl hz hn hR => ?_)
  have hz1 : X.2.2.2.2 = z := by rw [hz]
  subst hz1
  exact t_X9_holds hC a x1 thrown s past undos kept isk seen sn sf res hR h

/-! X9_wheel -/
abbrev rm_X9_wheel : Room := { frames := 1, cells := 0, slots := 0, locals := 22 }
theorem ds_X9_wheel : yX9_wheel.cls ≠ "java/lang/invoke/MethodHandle" ∧ yX9_wheel.cls ≠ "java/lang/invoke/VarHandle" ∧ (parseMethodDescriptor yX9_wheel.desc).map (fun d => d.parameters.length) = some 1 := by decide +kernel
def f_X9_wheel (x1 : Int32) (thrown : Int32) (s : Nat → Int32) : Option ((Int32) × (Int32)) := ((f_X9_in x1 (0 : Int32) (4 : Int32)).bind fun r1 => (if r1 = (0 : Int32) then (some ((-2147483647 : Int32), (0 : Int32))) else (if x1 = (4 : Int32) then ((f_X9_isLocked s).bind fun r5 => (if r5 = (0 : Int32) then (some ((0 : Int32), (0 : Int32))) else (some ((1 : Int32), (0 : Int32))))) else (gd ((34 : Int32) + x1) 95 (some ((s (Int32.toNatClampNeg ((34 : Int32) + x1))), (0 : Int32)))))))
set_option maxRecDepth 100000 in
set_option maxHeartbeats 4000000 in
theorem t_X9_wheel {X : qX} (hC : Ok X rm_X9_wheel cX9_wheel 2 RX9 (some .int)) (a : Nat → Nat) (x1 : Int32) (thrown : Int32) (s : Nat → Int32) (past : Nat → Int32) (undos : Int32) (kept : Nat → Int32) (isk : Nat → Int32) (seen : Int32) (sn : Nat → Int32) (sf : Nat → Int32) (res : (Int32) × (Int32)) (hR : Rt X 0 0 (fun r w => r = some (.int res.1) ∧ w = (mdW X.2.2.2.2 a res.2 s past undos kept isk seen sn sf))) (h : f_X9_wheel x1 thrown s = some res) : At X 0 0 0 (mdW X.2.2.2.2 a thrown s past undos kept isk seen sn sf) [(0, .ref (a 0)), (1, .int x1)] [] := by
  unfold f_X9_wheel at h
  refine a_aload_n 1 0 hC dX9_wheel_0 rfl rfl rfl ?_
  refine a_iconst 2 (v := (0 : Int32)) hC dX9_wheel_1 rfl (by decide) ?_
  refine a_put 5 0 7 0 (mdW X.2.2.2.2 a (0 : Int32) s past undos kept isk seen sn sf) tyX9 hC inB_X9 tyX9_ok nmX9 rfl rfl (by decide) wq600 rfl rfl rfl rfl rfl (Nat.le_of_ble_eq_true rfl) dX9_wheel_2 rfl rfl ?_
  refine a_iload_n 6 1 hC dX9_wheel_5 rfl rfl rfl ?_
  refine a_iconst 7 (v := (0 : Int32)) hC dX9_wheel_6 rfl (by decide) ?_
  refine a_iconst 8 (v := (4 : Int32)) hC dX9_wheel_7 rfl (by decide) ?_
  obtain ⟨r1, gr1, h⟩ := bd h
  refine a_call0 11 [.int x1, .int (0 : Int32), .int (4 : Int32)] [] (.int r1) hC (c_X9_in X.1.2.1 X.2.2.2.1 X.2.2.2.2 x1 (0 : Int32) (4 : Int32) r1 gr1) ⟨wq649, wq30, wq651, ds_X9_in, by decide, by decide⟩ wq650 rfl rfl (Nat.le_of_ble_eq_true rfl) dX9_wheel_8 rfl rfl rfl ⟨(Nat.le_refl _), (Nat.le_refl _)⟩ ?_
  refine a_if_ne 19 14 hC dX9_wheel_11 (by decide) rfl (fun c2 => ?_) (fun c2 => ?_)
  · have h := ifn c2 h
    refine a_iload_n 20 1 hC dX9_wheel_19 rfl rfl rfl ?_
    refine a_iconst 21 (v := (4 : Int32)) hC dX9_wheel_20 rfl (by decide) ?_
    refine a_icmp_ne 39 24 hC dX9_wheel_21 (by decide) rfl (fun c3 => ?_) (fun c3 => ?_)
    · have h := ifn c3 h
      refine a_aload_n 40 0 hC dX9_wheel_39 rfl rfl rfl ?_
      refine a_get 43 0 7 1 hC inB_X9 rfl rfl (by decide) wq601 rfl rfl dX9_wheel_40 rfl ?_
      refine a_bipush 45 (v := (34 : Int32)) hC dX9_wheel_43 rfl (by decide) ?_
      refine a_iload_n 46 1 hC dX9_wheel_45 rfl rfl rfl ?_
      refine a_iadd 47 hC dX9_wheel_46 rfl ?_
      obtain ⟨n4, h⟩ := gdx h
      refine a_iald 48 1 hC rfl n4 dX9_wheel_47 rfl ?_
      obtain rfl := Option.some.inj h
      exact a_iret hC hR ⟨rfl, rfl⟩ (Nat.le_refl _) (Nat.le_refl _) dX9_wheel_48
    · have h := ifp c3 h
      refine a_aload_n 25 0 hC dX9_wheel_24 rfl rfl rfl ?_
      obtain ⟨r5, gr5, h⟩ := bd h
      refine a_callVs 28 (mdW X.2.2.2.2 a (0 : Int32) s past undos kept isk seen sn sf) 0 7 [] [] (some (.int r5)) [.int r5] hC (c_X9_isLocked X.1.2.1 X.2.2.2.1 X.2.2.2.2 a (0 : Int32) s past undos kept isk seen sn sf r5 gr5) ⟨wq769, wq30, wq772, ds_X9_isLocked, by decide, by decide⟩ wq771 wq18 rfl rfl (Nat.le_of_ble_eq_true rfl) dX9_wheel_25 rfl rfl rfl ⟨(Nat.le_refl _), (Nat.le_refl _)⟩ rfl rfl rfl ?_
      refine a_if_eq 35 31 hC dX9_wheel_28 (by decide) rfl (fun c6 => ?_) (fun c6 => ?_)
      · have h := ifp c6 h
        refine a_iconst 36 (v := (0 : Int32)) hC dX9_wheel_35 rfl (by decide) ?_
        refine a_goto 48 hC dX9_wheel_36 (by decide) ?_
        obtain rfl := Option.some.inj h
        exact a_iret hC hR ⟨rfl, rfl⟩ (Nat.le_refl _) (Nat.le_refl _) dX9_wheel_48
      · have h := ifn c6 h
        refine a_iconst 32 (v := (1 : Int32)) hC dX9_wheel_31 rfl (by decide) ?_
        refine a_goto 48 hC dX9_wheel_32 (by decide) ?_
        obtain rfl := Option.some.inj h
        exact a_iret hC hR ⟨rfl, rfl⟩ (Nat.le_refl _) (Nat.le_refl _) dX9_wheel_48
  · have h := ifp c2 h
    refine a_ldc 16 (v := (-2147483647 : Int32)) hC wq764 dX9_wheel_14 rfl ?_
    refine a_goto 48 hC dX9_wheel_16 (by decide) ?_
    obtain rfl := Option.some.inj h
    exact a_iret hC hR ⟨rfl, rfl⟩ (Nat.le_refl _) (Nat.le_refl _) dX9_wheel_48
theorem c_X9_wheel (l : Launch) (D : va_G) (z : ClassId × ClassId × ClassId) (a : Nat → Nat) (x1 : Int32) (thrown : Int32) (s : Nat → Int32) (past : Nat → Int32) (undos : Int32) (kept : Nat → Int32) (isk : Nat → Int32) (seen : Int32) (sn : Nat → Int32) (sf : Nat → Int32) (res : (Int32) × (Int32)) (h : f_X9_wheel x1 thrown s = some res) : Ct l D z yX9_wheel cX9_wheel 2 (some .int) rm_X9_wheel [.ref (a 0), .int x1] (mdW z a thrown s past undos kept isk seen sn sf) (fun r w => r = some (.int res.1) ∧ w = (mdW z a res.2 s past undos kept isk seen sn sf)) := by
  refine Ct.of (by decide +kernel) (Nat.le_of_ble_eq_true rfl) (fun X hC hl hz hn hR => ?_)
  have hz1 : X.2.2.2.2 = z := by rw [hz]
  subst hz1
  exact t_X9_wheel hC a x1 thrown s past undos kept isk seen sn sf res hR h

/-! X9_wayOf -/
abbrev rm_X9_wayOf : Room := { frames := 4, cells := 0, slots := 0, locals := 82 }
theorem ds_X9_wayOf : yX9_wayOf.cls ≠ "java/lang/invoke/MethodHandle" ∧ yX9_wayOf.cls ≠ "java/lang/invoke/VarHandle" ∧ (parseMethodDescriptor yX9_wayOf.desc).map (fun d => d.parameters.length) = some 1 := by decide +kernel
def f_X9_wayOf (x1 : Int32) (s : Nat → Int32) : Option ((Int32)) := (gd (((38 : Int32) + ((3 : Int32) * x1)) + (2 : Int32)) 95 ((f_X9_around ((s 34) + (s (Int32.toNatClampNeg (((38 : Int32) + ((3 : Int32) * x1)) + (2 : Int32))))) s).bind fun r2 => (gd ((38 : Int32) + ((3 : Int32) * x1)) 95 ((f_X9_around (r2 - (s (Int32.toNatClampNeg ((38 : Int32) + ((3 : Int32) * x1))))) s).bind fun r4 => ((f_X9_day s).bind fun r5 => (if ((2 : Int32) * r4) ≤ r5 then (some r4) else ((f_X9_day s).bind fun r7 => (some (r4 - r7)))))))))
set_option maxRecDepth 100000 in
set_option maxHeartbeats 4000000 in
theorem t_X9_wayOf {X : qX} (hC : Ok X rm_X9_wayOf cX9_wayOf 3 RX9 (some .int)) (a : Nat → Nat) (x1 : Int32) (thrown : Int32) (s : Nat → Int32) (past : Nat → Int32) (undos : Int32) (kept : Nat → Int32) (isk : Nat → Int32) (seen : Int32) (sn : Nat → Int32) (sf : Nat → Int32) (res : (Int32)) (hR : Rt X 0 0 (fun r w => r = some (.int res) ∧ w = (mdW X.2.2.2.2 a thrown s past undos kept isk seen sn sf))) (h : f_X9_wayOf x1 s = some res) : At X 0 0 0 (mdW X.2.2.2.2 a thrown s past undos kept isk seen sn sf) [(0, .ref (a 0)), (1, .int x1)] [] := by
  unfold f_X9_wayOf at h
  refine a_aload_n 1 0 hC dX9_wayOf_0 rfl rfl rfl ?_
  refine a_aload_n 2 0 hC dX9_wayOf_1 rfl rfl rfl ?_
  refine a_aload_n 3 0 hC dX9_wayOf_2 rfl rfl rfl ?_
  refine a_get 6 0 7 1 hC inB_X9 rfl rfl (by decide) wq601 rfl rfl dX9_wayOf_3 rfl ?_
  refine a_bipush 8 (v := (34 : Int32)) hC dX9_wayOf_6 rfl (by decide) ?_
  refine a_ialdc 9 1 34 hC rfl rfl (vp_inc (by decide)) dX9_wayOf_8 rfl ?_
  refine a_aload_n 10 0 hC dX9_wayOf_9 rfl rfl rfl ?_
  refine a_get 13 0 7 1 hC inB_X9 rfl rfl (by decide) wq601 rfl rfl dX9_wayOf_10 rfl ?_
  refine a_bipush 15 (v := (38 : Int32)) hC dX9_wayOf_13 rfl (by decide) ?_
  refine a_iconst 16 (v := (3 : Int32)) hC dX9_wayOf_15 rfl (by decide) ?_
  refine a_iload_n 17 1 hC dX9_wayOf_16 rfl rfl rfl ?_
  refine a_imul 18 hC dX9_wayOf_17 rfl ?_
  refine a_iadd 19 hC dX9_wayOf_18 rfl ?_
  refine a_iconst 20 (v := (2 : Int32)) hC dX9_wayOf_19 rfl (by decide) ?_
  refine a_iadd 21 hC dX9_wayOf_20 rfl ?_
  obtain ⟨n1, h⟩ := gdx h
  refine a_iald 22 1 hC rfl n1 dX9_wayOf_21 rfl ?_
  refine a_iadd 23 hC dX9_wayOf_22 rfl ?_
  obtain ⟨r2, gr2, h⟩ := bd h
  refine a_callVs 26 (mdW X.2.2.2.2 a thrown s past undos kept isk seen sn sf) 0 7 [.int ((s 34) + (s (Int32.toNatClampNeg (((38 : Int32) + ((3 : Int32) * x1)) + (2 : Int32)))))] [.ref (a 0)] (some (.int r2)) [.int r2, .ref (a 0)] hC (c_X9_around X.1.2.1 X.2.2.2.1 X.2.2.2.2 a ((s 34) + (s (Int32.toNatClampNeg (((38 : Int32) + ((3 : Int32) * x1)) + (2 : Int32))))) thrown s past undos kept isk seen sn sf r2 gr2) ⟨wq679, wq30, wq682, ds_X9_around, by decide, by decide⟩ wq681 wq9 rfl rfl (Nat.le_of_ble_eq_true rfl) dX9_wayOf_23 rfl rfl rfl ⟨(Nat.le_refl _), (Nat.le_refl _)⟩ rfl rfl rfl ?_
  refine a_aload_n 27 0 hC dX9_wayOf_26 rfl rfl rfl ?_
  refine a_get 30 0 7 1 hC inB_X9 rfl rfl (by decide) wq601 rfl rfl dX9_wayOf_27 rfl ?_
  refine a_bipush 32 (v := (38 : Int32)) hC dX9_wayOf_30 rfl (by decide) ?_
  refine a_iconst 33 (v := (3 : Int32)) hC dX9_wayOf_32 rfl (by decide) ?_
  refine a_iload_n 34 1 hC dX9_wayOf_33 rfl rfl rfl ?_
  refine a_imul 35 hC dX9_wayOf_34 rfl ?_
  refine a_iadd 36 hC dX9_wayOf_35 rfl ?_
  obtain ⟨n3, h⟩ := gdx h
  refine a_iald 37 1 hC rfl n3 dX9_wayOf_36 rfl ?_
  refine a_isub 38 hC dX9_wayOf_37 rfl ?_
  obtain ⟨r4, gr4, h⟩ := bd h
  refine a_callVs 41 (mdW X.2.2.2.2 a thrown s past undos kept isk seen sn sf) 0 7 [.int (r2 - (s (Int32.toNatClampNeg ((38 : Int32) + ((3 : Int32) * x1)))))] [] (some (.int r4)) [.int r4] hC (c_X9_around X.1.2.1 X.2.2.2.1 X.2.2.2.2 a (r2 - (s (Int32.toNatClampNeg ((38 : Int32) + ((3 : Int32) * x1))))) thrown s past undos kept isk seen sn sf r4 gr4) ⟨wq679, wq30, wq682, ds_X9_around, by decide, by decide⟩ wq681 wq9 rfl rfl (Nat.le_of_ble_eq_true rfl) dX9_wayOf_38 rfl rfl rfl ⟨(Nat.le_refl _), (Nat.le_refl _)⟩ rfl rfl rfl ?_
  refine a_istore_n 42 [(0, .ref (a 0)), (1, .int x1), (2, .int r4)] [1, 2, 0] hC dX9_wayOf_41 rfl rfl (by decide) rfl ?_
  refine a_iconst 43 (v := (2 : Int32)) hC dX9_wayOf_42 rfl (by decide) ?_
  refine a_iload_n 44 2 hC dX9_wayOf_43 rfl rfl rfl ?_
  refine a_imul 45 hC dX9_wayOf_44 rfl ?_
  refine a_aload_n 46 0 hC dX9_wayOf_45 rfl rfl rfl ?_
  obtain ⟨r5, gr5, h⟩ := bd h
  refine a_callVs 49 (mdW X.2.2.2.2 a thrown s past undos kept isk seen sn sf) 0 7 [] [.int ((2 : Int32) * r4)] (some (.int r5)) [.int r5, .int ((2 : Int32) * r4)] hC (c_X9_day X.1.2.1 X.2.2.2.1 X.2.2.2.2 a thrown s past undos kept isk seen sn sf r5 gr5) ⟨wq637, wq30, wq640, ds_X9_day, by decide, by decide⟩ wq639 wq7 rfl rfl (Nat.le_of_ble_eq_true rfl) dX9_wayOf_46 rfl rfl rfl ⟨(Nat.le_refl _), (Nat.le_refl _)⟩ rfl rfl rfl ?_
  refine a_icmp_le 61 52 hC dX9_wayOf_49 (by decide) rfl (fun c6 => ?_) (fun c6 => ?_)
  · have h := ifp c6 h
    refine a_iload_n 62 2 hC dX9_wayOf_61 rfl rfl rfl ?_
    obtain rfl := Option.some.inj h
    exact a_iret hC hR ⟨rfl, rfl⟩ (Nat.le_refl _) (Nat.le_refl _) dX9_wayOf_62
  · have h := ifn c6 h
    refine a_iload_n 53 2 hC dX9_wayOf_52 rfl rfl rfl ?_
    refine a_aload_n 54 0 hC dX9_wayOf_53 rfl rfl rfl ?_
    obtain ⟨r7, gr7, h⟩ := bd h
    refine a_callVs 57 (mdW X.2.2.2.2 a thrown s past undos kept isk seen sn sf) 0 7 [] [.int r4] (some (.int r7)) [.int r7, .int r4] hC (c_X9_day X.1.2.1 X.2.2.2.1 X.2.2.2.2 a thrown s past undos kept isk seen sn sf r7 gr7) ⟨wq637, wq30, wq640, ds_X9_day, by decide, by decide⟩ wq639 wq7 rfl rfl (Nat.le_of_ble_eq_true rfl) dX9_wayOf_54 rfl rfl rfl ⟨(Nat.le_refl _), (Nat.le_refl _)⟩ rfl rfl rfl ?_
    refine a_isub 58 hC dX9_wayOf_57 rfl ?_
    refine a_goto 62 hC dX9_wayOf_58 (by decide) ?_
    obtain rfl := Option.some.inj h
    exact a_iret hC hR ⟨rfl, rfl⟩ (Nat.le_refl _) (Nat.le_refl _) dX9_wayOf_62
theorem c_X9_wayOf (l : Launch) (D : va_G) (z : ClassId × ClassId × ClassId) (a : Nat → Nat) (x1 : Int32) (thrown : Int32) (s : Nat → Int32) (past : Nat → Int32) (undos : Int32) (kept : Nat → Int32) (isk : Nat → Int32) (seen : Int32) (sn : Nat → Int32) (sf : Nat → Int32) (res : (Int32)) (h : f_X9_wayOf x1 s = some res) : Ct l D z yX9_wayOf cX9_wayOf 3 (some .int) rm_X9_wayOf [.ref (a 0), .int x1] (mdW z a thrown s past undos kept isk seen sn sf) (fun r w => r = some (.int res) ∧ w = (mdW z a thrown s past undos kept isk seen sn sf)) := by
  refine Ct.of (by decide +kernel) (Nat.le_of_ble_eq_true rfl) (fun X hC hl hz hn hR => ?_)
  have hz1 : X.2.2.2.2 = z := by rw [hz]
  subst hz1
  exact t_X9_wayOf hC a x1 thrown s past undos kept isk seen sn sf res hR h

/-! X9_isThere -/
abbrev rm_X9_isThere : Room := { frames := 5, cells := 0, slots := 0, locals := 104 }
theorem ds_X9_isThere : yX9_isThere.cls ≠ "java/lang/invoke/MethodHandle" ∧ yX9_isThere.cls ≠ "java/lang/invoke/VarHandle" ∧ (parseMethodDescriptor yX9_isThere.desc).map (fun d => d.parameters.length) = some 1 := by decide +kernel
def f_X9_isThere (x1 : Int32) (s : Nat → Int32) : Option ((Int32)) := ((f_X9_wayOf x1 s).bind fun r1 => (if r1 = (0 : Int32) then (gd (((38 : Int32) + ((3 : Int32) * x1)) + (1 : Int32)) 95 (if (s (Int32.toNatClampNeg (((38 : Int32) + ((3 : Int32) * x1)) + (1 : Int32)))) = (0 : Int32) then (some (1 : Int32)) else (some (0 : Int32)))) else (some (0 : Int32))))
set_option maxRecDepth 100000 in
set_option maxHeartbeats 4000000 in
theorem t_X9_isThere {X : qX} (hC : Ok X rm_X9_isThere cX9_isThere 2 RX9 (some .boolean)) (a : Nat → Nat) (x1 : Int32) (thrown : Int32) (s : Nat → Int32) (past : Nat → Int32) (undos : Int32) (kept : Nat → Int32) (isk : Nat → Int32) (seen : Int32) (sn : Nat → Int32) (sf : Nat → Int32) (res : (Int32)) (hR : Rt X 0 0 (fun r w => r = some (.int res) ∧ w = (mdW X.2.2.2.2 a thrown s past undos kept isk seen sn sf))) (h : f_X9_isThere x1 s = some res) : At X 0 0 0 (mdW X.2.2.2.2 a thrown s past undos kept isk seen sn sf) [(0, .ref (a 0)), (1, .int x1)] [] := by
  unfold f_X9_isThere at h
  refine a_aload_n 1 0 hC dX9_isThere_0 rfl rfl rfl ?_
  refine a_iload_n 2 1 hC dX9_isThere_1 rfl rfl rfl ?_
  obtain ⟨r1, gr1, h⟩ := bd h
  refine a_callVs 5 (mdW X.2.2.2.2 a thrown s past undos kept isk seen sn sf) 0 7 [.int x1] [] (some (.int r1)) [.int r1] hC (c_X9_wayOf X.1.2.1 X.2.2.2.1 X.2.2.2.2 a x1 thrown s past undos kept isk seen sn sf r1 gr1) ⟨wq798, wq30, wq801, ds_X9_wayOf, by decide, by decide⟩ wq800 wq20 rfl rfl (Nat.le_of_ble_eq_true rfl) dX9_isThere_2 rfl rfl rfl ⟨(Nat.le_refl _), (Nat.le_refl _)⟩ rfl rfl rfl ?_
  refine a_if_ne 28 8 hC dX9_isThere_5 (by decide) rfl (fun c2 => ?_) (fun c2 => ?_)
  · have h := ifn c2 h
    refine a_iconst 29 (v := (0 : Int32)) hC dX9_isThere_28 rfl (by decide) ?_
    obtain rfl := Option.some.inj h
    exact a_zret hC hR ⟨rfl, rfl⟩ rfl (Nat.le_refl _) (Nat.le_refl _) dX9_isThere_29
  · have h := ifp c2 h
    refine a_aload_n 9 0 hC dX9_isThere_8 rfl rfl rfl ?_
    refine a_get 12 0 7 1 hC inB_X9 rfl rfl (by decide) wq601 rfl rfl dX9_isThere_9 rfl ?_
    refine a_bipush 14 (v := (38 : Int32)) hC dX9_isThere_12 rfl (by decide) ?_
    refine a_iconst 15 (v := (3 : Int32)) hC dX9_isThere_14 rfl (by decide) ?_
    refine a_iload_n 16 1 hC dX9_isThere_15 rfl rfl rfl ?_
    refine a_imul 17 hC dX9_isThere_16 rfl ?_
    refine a_iadd 18 hC dX9_isThere_17 rfl ?_
    refine a_iconst 19 (v := (1 : Int32)) hC dX9_isThere_18 rfl (by decide) ?_
    refine a_iadd 20 hC dX9_isThere_19 rfl ?_
    obtain ⟨n3, h⟩ := gdx h
    refine a_iald 21 1 hC rfl n3 dX9_isThere_20 rfl ?_
    refine a_if_ne 28 24 hC dX9_isThere_21 (by decide) rfl (fun c4 => ?_) (fun c4 => ?_)
    · have h := ifn c4 h
      refine a_iconst 29 (v := (0 : Int32)) hC dX9_isThere_28 rfl (by decide) ?_
      obtain rfl := Option.some.inj h
      exact a_zret hC hR ⟨rfl, rfl⟩ rfl (Nat.le_refl _) (Nat.le_refl _) dX9_isThere_29
    · have h := ifp c4 h
      refine a_iconst 25 (v := (1 : Int32)) hC dX9_isThere_24 rfl (by decide) ?_
      refine a_goto 29 hC dX9_isThere_25 (by decide) ?_
      obtain rfl := Option.some.inj h
      exact a_zret hC hR ⟨rfl, rfl⟩ rfl (Nat.le_refl _) (Nat.le_refl _) dX9_isThere_29
theorem c_X9_isThere (l : Launch) (D : va_G) (z : ClassId × ClassId × ClassId) (a : Nat → Nat) (x1 : Int32) (thrown : Int32) (s : Nat → Int32) (past : Nat → Int32) (undos : Int32) (kept : Nat → Int32) (isk : Nat → Int32) (seen : Int32) (sn : Nat → Int32) (sf : Nat → Int32) (res : (Int32)) (h : f_X9_isThere x1 s = some res) : Ct l D z yX9_isThere cX9_isThere 2 (some .boolean) rm_X9_isThere [.ref (a 0), .int x1] (mdW z a thrown s past undos kept isk seen sn sf) (fun r w => r = some (.int res) ∧ w = (mdW z a thrown s past undos kept isk seen sn sf)) := by
  refine Ct.of (by decide +kernel) (Nat.le_of_ble_eq_true rfl) (fun X hC hl hz hn hR => ?_)
  have hz1 : X.2.2.2.2 = z := by rw [hz]
  subst hz1
  exact t_X9_isThere hC a x1 thrown s past undos kept isk seen sn sf res hR h

/-! X9_steps -/
abbrev rm_X9_steps : Room := { frames := 5, cells := 0, slots := 0, locals := 104 }
theorem ds_X9_steps : yX9_steps.cls ≠ "java/lang/invoke/MethodHandle" ∧ yX9_steps.cls ≠ "java/lang/invoke/VarHandle" ∧ (parseMethodDescriptor yX9_steps.desc).map (fun d => d.parameters.length) = some 1 := by decide +kernel
def fb_X9_steps_8 (x1 : Int32) (x2 : Int32) (s : Nat → Int32) (w : (Int32)) : Option ((Int32) ⊕ ((Int32))) := (if (99 : Int32) ≤ w then (some (.inr w)) else ((f_X9_size x2).bind fun r3 => (if r3 < (((w + (1 : Int32)) * (w + (2 : Int32))) / (2 : Int32)) then (some (.inr w)) else (nm (w + (1 : Int32)) fun v5 => (some (.inl v5))))))
set_option maxRecDepth 100000 in
set_option maxHeartbeats 4000000 in
theorem tb_X9_steps_8 {X : qX} (hC : Ok X rm_X9_steps cX9_steps 6 RX9 none) (a : Nat → Nat) (x1 : Int32) (x2 : Int32) (thrown : Int32) (s : Nat → Int32) (past : Nat → Int32) (undos : Int32) (kept : Nat → Int32) (isk : Nat → Int32) (seen : Int32) (sn : Nat → Int32) (sf : Nat → Int32) (w : (Int32)) (o : (Int32) ⊕ (((Int32)))) (h : fb_X9_steps_8 x1 x2 s w = some o) (hk : Sum.elim (fun (w : (Int32)) => At X 0 0 8 (mdW X.2.2.2.2 a thrown s past undos kept isk seen sn sf) [(0, .ref (a 0)), (1, .int x1), (2, .int x2), (3, .int w)] []) (fun (w : (Int32)) => At X 0 0 36 (mdW X.2.2.2.2 a thrown s past undos kept isk seen sn sf) [(0, .ref (a 0)), (1, .int x1), (2, .int x2), (3, .int w)] []) o) : At X 0 0 8 (mdW X.2.2.2.2 a thrown s past undos kept isk seen sn sf) [(0, .ref (a 0)), (1, .int x1), (2, .int x2), (3, .int w)] [] := by
  unfold fb_X9_steps_8 at h
  refine a_iload_n 9 3 hC dX9_steps_8 rfl rfl rfl ?_
  refine a_bipush 11 (v := (99 : Int32)) hC dX9_steps_9 rfl (by decide) ?_
  refine a_icmp_ge 36 14 hC dX9_steps_11 (by decide) rfl (fun c2 => ?_) (fun c2 => ?_)
  · have h := ifp c2 h
    obtain rfl := Option.some.inj h
    exact hk
  · have h := ifn c2 h
    refine a_iload_n 15 3 hC dX9_steps_14 rfl rfl rfl ?_
    refine a_iconst 16 (v := (1 : Int32)) hC dX9_steps_15 rfl (by decide) ?_
    refine a_iadd 17 hC dX9_steps_16 rfl ?_
    refine a_iload_n 18 3 hC dX9_steps_17 rfl rfl rfl ?_
    refine a_iconst 19 (v := (2 : Int32)) hC dX9_steps_18 rfl (by decide) ?_
    refine a_iadd 20 hC dX9_steps_19 rfl ?_
    refine a_imul 21 hC dX9_steps_20 rfl ?_
    refine a_iconst 22 (v := (2 : Int32)) hC dX9_steps_21 rfl (by decide) ?_
    refine a_idiv 23 hC dX9_steps_22 rfl (by decide) ?_
    refine a_iload_n 24 2 hC dX9_steps_23 rfl rfl rfl ?_
    obtain ⟨r3, gr3, h⟩ := bd h
    refine a_call0 27 [.int x2] [.int (((w + (1 : Int32)) * (w + (2 : Int32))) / (2 : Int32))] (.int r3) hC (c_X9_size X.1.2.1 X.2.2.2.1 X.2.2.2.2 x2 r3 gr3) ⟨wq802, wq30, wq804, ds_X9_size, by decide, by decide⟩ wq803 rfl rfl (Nat.le_of_ble_eq_true rfl) dX9_steps_24 rfl rfl rfl ⟨(Nat.le_refl _), (Nat.le_refl _)⟩ ?_
    refine a_icmp_gt 36 30 hC dX9_steps_27 (by decide) rfl (fun c4 => ?_) (fun c4 => ?_)
    · have h := ifp c4 h
      obtain rfl := Option.some.inj h
      exact hk
    · have h := ifn c4 h
      obtain ⟨v5, ev5, h⟩ := nmx h
      refine a_iinc 33 3 [(0, .ref (a 0)), (1, .int x1), (2, .int x2), (3, .int v5)] [1, 2, 3, 0] hC dX9_steps_30 rfl rfl (v := v5) (by rw [ev5]; rfl) (by decide) rfl ?_
      refine a_goto 8 hC dX9_steps_33 (by decide) ?_
      obtain rfl := Option.some.inj h
      exact hk
def f_X9_steps_103 (x5 : Int32) (y0 : Int32) (y1 : Int32) (y2 : Int32) (s : Nat → Int32) : Option ((Nat → Int32)) := (nm (y1 + y0) fun v14 => (gd y2 95 (nm (upd s (Int32.toNatClampNeg y2) v14) fun sq15 => (gd x5 95 (gd (x5 + (1 : Int32)) 95 ((f_X9_around ((sq15 (Int32.toNatClampNeg x5)) + (sq15 (Int32.toNatClampNeg (x5 + (1 : Int32))))) sq15).bind fun r19 => (gd x5 95 (nm (upd sq15 (Int32.toNatClampNeg x5) r19) fun sq20 => (some sq20)))))))))
set_option maxRecDepth 100000 in
set_option maxHeartbeats 4000000 in
theorem t_X9_steps_103 {X : qX} (hC : Ok X rm_X9_steps cX9_steps 6 RX9 none) (a : Nat → Nat) (x5 : Int32) (y0 : Int32) (y1 : Int32) (y2 : Int32) (thrown : Int32) (s : Nat → Int32) (past : Nat → Int32) (undos : Int32) (kept : Nat → Int32) (isk : Nat → Int32) (seen : Int32) (sn : Nat → Int32) (sf : Nat → Int32) (res : (Nat → Int32)) (hR : Rt X 0 0 (fun r w => r = none ∧ w = (mdW X.2.2.2.2 a thrown res past undos kept isk seen sn sf))) (h : f_X9_steps_103 x5 y0 y1 y2 s = some res) : At X 0 0 103 (mdW X.2.2.2.2 a thrown s past undos kept isk seen sn sf) [(0, .ref (a 0)), (5, .int x5)] [.int y0, .int y1, .int y2, .ref (a 1)] := by
  unfold f_X9_steps_103 at h
  refine a_iadd 104 hC dX9_steps_103 rfl ?_
  obtain ⟨v14, ev14, h⟩ := nmx h
  refine a_nm ev14 ?_
  obtain ⟨n16, h⟩ := gdx h
  obtain ⟨sq15, esq15, h⟩ := nmx h
  refine a_iast 105 1 (mdW X.2.2.2.2 a thrown sq15 past undos kept isk seen sn sf) hC rfl n16 dX9_steps_104 rfl (by rw [esq15]; rfl) ?_
  refine a_aload_n 106 0 hC dX9_steps_105 rfl rfl rfl ?_
  refine a_get 109 0 7 1 hC inB_X9 rfl rfl (by decide) wq601 rfl rfl dX9_steps_106 rfl ?_
  refine a_iload 111 1 hC dX9_steps_109 rfl rfl ?_
  refine a_aload_n 112 0 hC dX9_steps_111 rfl rfl rfl ?_
  refine a_aload_n 113 0 hC dX9_steps_112 rfl rfl rfl ?_
  refine a_get 116 0 7 1 hC inB_X9 rfl rfl (by decide) wq601 rfl rfl dX9_steps_113 rfl ?_
  refine a_iload 118 1 hC dX9_steps_116 rfl rfl ?_
  obtain ⟨n17, h⟩ := gdx h
  refine a_iald 119 1 hC rfl n17 dX9_steps_118 rfl ?_
  refine a_aload_n 120 0 hC dX9_steps_119 rfl rfl rfl ?_
  refine a_get 123 0 7 1 hC inB_X9 rfl rfl (by decide) wq601 rfl rfl dX9_steps_120 rfl ?_
  refine a_iload 125 1 hC dX9_steps_123 rfl rfl ?_
  refine a_iconst 126 (v := (1 : Int32)) hC dX9_steps_125 rfl (by decide) ?_
  refine a_iadd 127 hC dX9_steps_126 rfl ?_
  obtain ⟨n18, h⟩ := gdx h
  refine a_iald 128 1 hC rfl n18 dX9_steps_127 rfl ?_
  refine a_iadd 129 hC dX9_steps_128 rfl ?_
  obtain ⟨r19, gr19, h⟩ := bd h
  refine a_callVs 132 (mdW X.2.2.2.2 a thrown sq15 past undos kept isk seen sn sf) 0 7 [.int ((sq15 (Int32.toNatClampNeg x5)) + (sq15 (Int32.toNatClampNeg (x5 + (1 : Int32)))))] [.int x5, .ref (a 1)] (some (.int r19)) [.int r19, .int x5, .ref (a 1)] hC (c_X9_around X.1.2.1 X.2.2.2.1 X.2.2.2.2 a ((sq15 (Int32.toNatClampNeg x5)) + (sq15 (Int32.toNatClampNeg (x5 + (1 : Int32))))) thrown sq15 past undos kept isk seen sn sf r19 gr19) ⟨wq679, wq30, wq682, ds_X9_around, by decide, by decide⟩ wq681 wq9 rfl rfl (Nat.le_of_ble_eq_true rfl) dX9_steps_129 rfl rfl rfl ⟨(Nat.le_refl _), (Nat.le_refl _)⟩ rfl rfl rfl ?_
  obtain ⟨n21, h⟩ := gdx h
  obtain ⟨sq20, esq20, h⟩ := nmx h
  refine a_iast 133 1 (mdW X.2.2.2.2 a thrown sq20 past undos kept isk seen sn sf) hC rfl n21 dX9_steps_132 rfl (by rw [esq20]; rfl) ?_
  obtain rfl := Option.some.inj h
  exact a_vret hC hR ⟨rfl, rfl⟩ (Nat.le_refl _) (Nat.le_refl _) dX9_steps_133
def f_X9_steps_46 (x1 : Int32) (y0 : Int32) (s : Nat → Int32) : Option ((Nat → Int32)) := (nm ((38 : Int32) + ((3 : Int32) * x1)) fun v8 => (gd (v8 + (1 : Int32)) 95 (gd (v8 + (1 : Int32)) 95 (if y0 ≤ (s (Int32.toNatClampNeg (v8 + (1 : Int32)))) then (gd (v8 + (1 : Int32)) 95 (if (s (Int32.toNatClampNeg (v8 + (1 : Int32)))) ≤ y0 then (f_X9_steps_103 v8 (0 : Int32) (s (Int32.toNatClampNeg (v8 + (1 : Int32)))) (v8 + (1 : Int32)) s) else (f_X9_steps_103 v8 (-1 : Int32) (s (Int32.toNatClampNeg (v8 + (1 : Int32)))) (v8 + (1 : Int32)) s))) else (f_X9_steps_103 v8 (1 : Int32) (s (Int32.toNatClampNeg (v8 + (1 : Int32)))) (v8 + (1 : Int32)) s)))))
set_option maxRecDepth 100000 in
set_option maxHeartbeats 4000000 in
theorem t_X9_steps_46 {X : qX} (hC : Ok X rm_X9_steps cX9_steps 6 RX9 none) (a : Nat → Nat) (x1 : Int32) (y0 : Int32) (thrown : Int32) (s : Nat → Int32) (past : Nat → Int32) (undos : Int32) (kept : Nat → Int32) (isk : Nat → Int32) (seen : Int32) (sn : Nat → Int32) (sf : Nat → Int32) (res : (Nat → Int32)) (hR : Rt X 0 0 (fun r w => r = none ∧ w = (mdW X.2.2.2.2 a thrown res past undos kept isk seen sn sf))) (h : f_X9_steps_46 x1 y0 s = some res) : At X 0 0 46 (mdW X.2.2.2.2 a thrown s past undos kept isk seen sn sf) [(0, .ref (a 0)), (1, .int x1)] [.int y0] := by
  unfold f_X9_steps_46 at h
  refine a_istore 48 [(0, .ref (a 0)), (1, .int x1), (4, .int y0)] [1, 2, 0] hC dX9_steps_46 rfl (by decide) rfl ?_
  refine a_bipush 50 (v := (38 : Int32)) hC dX9_steps_48 rfl (by decide) ?_
  refine a_iconst 51 (v := (3 : Int32)) hC dX9_steps_50 rfl (by decide) ?_
  refine a_iload_n 52 1 hC dX9_steps_51 rfl rfl rfl ?_
  refine a_imul 53 hC dX9_steps_52 rfl ?_
  refine a_iadd 54 hC dX9_steps_53 rfl ?_
  obtain ⟨v8, ev8, h⟩ := nmx h
  refine a_nm ev8 ?_
  refine a_istore 56 [(0, .ref (a 0)), (1, .int x1), (4, .int y0), (5, .int v8)] [1, 2, 3, 0] hC dX9_steps_54 rfl (by decide) rfl ?_
  refine a_aload_n 57 0 hC dX9_steps_56 rfl rfl rfl ?_
  refine a_get 60 0 7 1 hC inB_X9 rfl rfl (by decide) wq601 rfl rfl dX9_steps_57 rfl ?_
  refine a_iload 62 3 hC dX9_steps_60 rfl rfl ?_
  refine a_iconst 63 (v := (1 : Int32)) hC dX9_steps_62 rfl (by decide) ?_
  refine a_iadd 64 hC dX9_steps_63 rfl ?_
  refine a_dup2 65 hC dX9_steps_64 rfl rfl rfl ?_
  obtain ⟨n9, h⟩ := gdx h
  refine a_iald 66 1 hC rfl n9 dX9_steps_65 rfl ?_
  refine a_iload 68 2 hC dX9_steps_66 rfl rfl ?_
  refine a_aload_n 69 0 hC dX9_steps_68 rfl rfl rfl ?_
  refine a_get 72 0 7 1 hC inB_X9 rfl rfl (by decide) wq601 rfl rfl dX9_steps_69 rfl ?_
  refine a_iload 74 3 hC dX9_steps_72 rfl rfl ?_
  refine a_iconst 75 (v := (1 : Int32)) hC dX9_steps_74 rfl (by decide) ?_
  refine a_iadd 76 hC dX9_steps_75 rfl ?_
  obtain ⟨n10, h⟩ := gdx h
  refine a_iald 77 1 hC rfl n10 dX9_steps_76 rfl ?_
  refine a_icmp_le 84 80 hC dX9_steps_77 (by decide) rfl (fun c11 => ?_) (fun c11 => ?_)
  · have h := ifp c11 h
    refine a_iload 86 2 hC dX9_steps_84 rfl rfl ?_
    refine a_aload_n 87 0 hC dX9_steps_86 rfl rfl rfl ?_
    refine a_get 90 0 7 1 hC inB_X9 rfl rfl (by decide) wq601 rfl rfl dX9_steps_87 rfl ?_
    refine a_iload 92 3 hC dX9_steps_90 rfl rfl ?_
    refine a_iconst 93 (v := (1 : Int32)) hC dX9_steps_92 rfl (by decide) ?_
    refine a_iadd 94 hC dX9_steps_93 rfl ?_
    obtain ⟨n12, h⟩ := gdx h
    refine a_iald 95 1 hC rfl n12 dX9_steps_94 rfl ?_
    refine a_icmp_ge 102 98 hC dX9_steps_95 (by decide) rfl (fun c13 => ?_) (fun c13 => ?_)
    · have h := ifp c13 h
      refine a_iconst 103 (v := (0 : Int32)) hC dX9_steps_102 rfl (by decide) ?_
      refine a_lv [0, 3] [(0, .ref (a 0)), (5, .int v8)] rfl ?_
      exact t_X9_steps_103 hC a v8 (0 : Int32) (s (Int32.toNatClampNeg (v8 + (1 : Int32)))) (v8 + (1 : Int32)) thrown s past undos kept isk seen sn sf res hR h
    · have h := ifn c13 h
      refine a_iconst 99 (v := (-1 : Int32)) hC dX9_steps_98 rfl (by decide) ?_
      refine a_goto 103 hC dX9_steps_99 (by decide) ?_
      refine a_lv [0, 3] [(0, .ref (a 0)), (5, .int v8)] rfl ?_
      exact t_X9_steps_103 hC a v8 (-1 : Int32) (s (Int32.toNatClampNeg (v8 + (1 : Int32)))) (v8 + (1 : Int32)) thrown s past undos kept isk seen sn sf res hR h
  · have h := ifn c11 h
    refine a_iconst 81 (v := (1 : Int32)) hC dX9_steps_80 rfl (by decide) ?_
    refine a_goto 103 hC dX9_steps_81 (by decide) ?_
    refine a_lv [0, 3] [(0, .ref (a 0)), (5, .int v8)] rfl ?_
    exact t_X9_steps_103 hC a v8 (1 : Int32) (s (Int32.toNatClampNeg (v8 + (1 : Int32)))) (v8 + (1 : Int32)) thrown s past undos kept isk seen sn sf res hR h
def f_X9_steps_36 (x1 : Int32) (x2 : Int32) (x3 : Int32) (s : Nat → Int32) : Option ((Nat → Int32)) := (if (0 : Int32) ≤ x2 then (f_X9_steps_46 x1 x3 s) else (f_X9_steps_46 x1 (-x3) s))
set_option maxRecDepth 100000 in
set_option maxHeartbeats 4000000 in
theorem t_X9_steps_36 {X : qX} (hC : Ok X rm_X9_steps cX9_steps 6 RX9 none) (a : Nat → Nat) (x1 : Int32) (x2 : Int32) (x3 : Int32) (thrown : Int32) (s : Nat → Int32) (past : Nat → Int32) (undos : Int32) (kept : Nat → Int32) (isk : Nat → Int32) (seen : Int32) (sn : Nat → Int32) (sf : Nat → Int32) (res : (Nat → Int32)) (hR : Rt X 0 0 (fun r w => r = none ∧ w = (mdW X.2.2.2.2 a thrown res past undos kept isk seen sn sf))) (h : f_X9_steps_36 x1 x2 x3 s = some res) : At X 0 0 36 (mdW X.2.2.2.2 a thrown s past undos kept isk seen sn sf) [(0, .ref (a 0)), (1, .int x1), (2, .int x2), (3, .int x3)] [] := by
  unfold f_X9_steps_36 at h
  refine a_iload_n 37 2 hC dX9_steps_36 rfl rfl rfl ?_
  refine a_if_ge 45 40 hC dX9_steps_37 (by decide) rfl (fun c7 => ?_) (fun c7 => ?_)
  · have h := ifp c7 h
    refine a_iload_n 46 3 hC dX9_steps_45 rfl rfl rfl ?_
    refine a_lv [0, 1] [(0, .ref (a 0)), (1, .int x1)] rfl ?_
    exact t_X9_steps_46 hC a x1 x3 thrown s past undos kept isk seen sn sf res hR h
  · have h := ifn c7 h
    refine a_iload_n 41 3 hC dX9_steps_40 rfl rfl rfl ?_
    refine a_ineg 42 hC dX9_steps_41 rfl ?_
    refine a_goto 46 hC dX9_steps_42 (by decide) ?_
    refine a_lv [0, 1] [(0, .ref (a 0)), (1, .int x1)] rfl ?_
    exact t_X9_steps_46 hC a x1 (-x3) thrown s past undos kept isk seen sn sf res hR h
def f_X9_steps (x1 : Int32) (s : Nat → Int32) : Option ((Nat → Int32)) := ((f_X9_wayOf x1 s).bind fun r1 => ((lp (fb_X9_steps_8 x1 r1 s) 100000 (0 : Int32)).bind fun r6 => (f_X9_steps_36 x1 r1 r6 s)))
set_option maxRecDepth 100000 in
set_option maxHeartbeats 4000000 in
theorem t_X9_steps {X : qX} (hC : Ok X rm_X9_steps cX9_steps 6 RX9 none) (a : Nat → Nat) (x1 : Int32) (thrown : Int32) (s : Nat → Int32) (past : Nat → Int32) (undos : Int32) (kept : Nat → Int32) (isk : Nat → Int32) (seen : Int32) (sn : Nat → Int32) (sf : Nat → Int32) (res : (Nat → Int32)) (hR : Rt X 0 0 (fun r w => r = none ∧ w = (mdW X.2.2.2.2 a thrown res past undos kept isk seen sn sf))) (h : f_X9_steps x1 s = some res) : At X 0 0 0 (mdW X.2.2.2.2 a thrown s past undos kept isk seen sn sf) [(0, .ref (a 0)), (1, .int x1)] [] := by
  unfold f_X9_steps at h
  refine a_aload_n 1 0 hC dX9_steps_0 rfl rfl rfl ?_
  refine a_iload_n 2 1 hC dX9_steps_1 rfl rfl rfl ?_
  obtain ⟨r1, gr1, h⟩ := bd h
  refine a_callVs 5 (mdW X.2.2.2.2 a thrown s past undos kept isk seen sn sf) 0 7 [.int x1] [] (some (.int r1)) [.int r1] hC (c_X9_wayOf X.1.2.1 X.2.2.2.1 X.2.2.2.2 a x1 thrown s past undos kept isk seen sn sf r1 gr1) ⟨wq798, wq30, wq801, ds_X9_wayOf, by decide, by decide⟩ wq800 wq20 rfl rfl (Nat.le_of_ble_eq_true rfl) dX9_steps_2 rfl rfl rfl ⟨(Nat.le_refl _), (Nat.le_refl _)⟩ rfl rfl rfl ?_
  refine a_istore_n 6 [(0, .ref (a 0)), (1, .int x1), (2, .int r1)] [1, 2, 0] hC dX9_steps_5 rfl rfl (by decide) rfl ?_
  refine a_iconst 7 (v := (0 : Int32)) hC dX9_steps_6 rfl (by decide) ?_
  refine a_istore_n 8 [(0, .ref (a 0)), (1, .int x1), (2, .int r1), (3, .int (0 : Int32))] [1, 2, 3, 0] hC dX9_steps_7 rfl rfl (by decide) rfl ?_
  obtain ⟨r6, gr6, h⟩ := bd h
  refine lp_walk (Wh := (fun (u8 : (Int32)) => At X 0 0 8 (mdW X.2.2.2.2 a thrown s past undos kept isk seen sn sf) [(0, .ref (a 0)), (1, .int x1), (2, .int r1), (3, .int u8)] [])) (We := (fun (u8 : (Int32)) => At X 0 0 36 (mdW X.2.2.2.2 a thrown s past undos kept isk seen sn sf) [(0, .ref (a 0)), (1, .int x1), (2, .int r1), (3, .int u8)] [])) (fun u9 o9 hb9 hk9 => tb_X9_steps_8 hC a x1 r1 thrown s past undos kept isk seen sn sf u9 o9 hb9 hk9) 100000 (0 : Int32) r6 gr6 ?_
  show At X 0 0 36 (mdW X.2.2.2.2 a thrown s past undos kept isk seen sn sf) [(0, .ref (a 0)), (1, .int x1), (2, .int r1), (3, .int r6)] []
  exact t_X9_steps_36 hC a x1 r1 r6 thrown s past undos kept isk seen sn sf res hR h
theorem c_X9_steps (l : Launch) (D : va_G) (z : ClassId × ClassId × ClassId) (a : Nat → Nat) (x1 : Int32) (thrown : Int32) (s : Nat → Int32) (past : Nat → Int32) (undos : Int32) (kept : Nat → Int32) (isk : Nat → Int32) (seen : Int32) (sn : Nat → Int32) (sf : Nat → Int32) (res : (Nat → Int32)) (h : f_X9_steps x1 s = some res) : Ct l D z yX9_steps cX9_steps 6 none rm_X9_steps [.ref (a 0), .int x1] (mdW z a thrown s past undos kept isk seen sn sf) (fun r w => r = none ∧ w = (mdW z a thrown res past undos kept isk seen sn sf)) := by
  refine Ct.of (by decide +kernel) (Nat.le_of_ble_eq_true rfl) (fun X hC hl hz hn hR => ?_)
  have hz1 : X.2.2.2.2 = z := by rw [hz]
  subst hz1
  exact t_X9_steps hC a x1 thrown s past undos kept isk seen sn sf res hR h

/-! X9_offsets -/
abbrev rm_X9_offsets : Room := { frames := 2, cells := 0, slots := 0, locals := 42 }
theorem ds_X9_offsets : yX9_offsets.cls ≠ "java/lang/invoke/MethodHandle" ∧ yX9_offsets.cls ≠ "java/lang/invoke/VarHandle" ∧ (parseMethodDescriptor yX9_offsets.desc).map (fun d => d.parameters.length) = some 2 := by decide +kernel
def f_X9_offsets (x1 : Int32) (x2 : Int32) (thrown : Int32) (s : Nat → Int32) (past : Nat → Int32) (undos : Int32) : Option ((Int32) × (Int32) × (Nat → Int32) × (Nat → Int32) × (Int32)) := ((f_X9_isChaser x1).bind fun r1 => (if r1 = (0 : Int32) then (some ((-1 : Int32), (0 : Int32), s, past, undos)) else ((f_X9_in x2 (-99999 : Int32) (99999 : Int32)).bind fun r3 => (if r3 = (0 : Int32) then (some ((-1 : Int32), (0 : Int32), s, past, undos)) else (gd (((38 : Int32) + ((3 : Int32) * x1)) + (2 : Int32)) 95 (if (s (Int32.toNatClampNeg (((38 : Int32) + ((3 : Int32) * x1)) + (2 : Int32)))) = x2 then (some ((-2 : Int32), (0 : Int32), s, past, undos)) else ((f_X9_notes s past undos).bind fun r7 => (gd (((38 : Int32) + ((3 : Int32) * x1)) + (2 : Int32)) 95 (nm (upd s (Int32.toNatClampNeg (((38 : Int32) + ((3 : Int32) * x1)) + (2 : Int32))) x2) fun sq8 => (some ((1 : Int32), (0 : Int32), sq8, r7.1, r7.2)))))))))))
set_option maxRecDepth 100000 in
set_option maxHeartbeats 4000000 in
theorem t_X9_offsets {X : qX} (hC : Ok X rm_X9_offsets cX9_offsets 3 RX9 (some .int)) (a : Nat → Nat) (x1 : Int32) (x2 : Int32) (thrown : Int32) (s : Nat → Int32) (past : Nat → Int32) (undos : Int32) (kept : Nat → Int32) (isk : Nat → Int32) (seen : Int32) (sn : Nat → Int32) (sf : Nat → Int32) (res : (Int32) × (Int32) × (Nat → Int32) × (Nat → Int32) × (Int32)) (hR : Rt X 0 0 (fun r w => r = some (.int res.1) ∧ w = (mdW X.2.2.2.2 a res.2.1 res.2.2.1 res.2.2.2.1 res.2.2.2.2 kept isk seen sn sf))) (h : f_X9_offsets x1 x2 thrown s past undos = some res) : At X 0 0 0 (mdW X.2.2.2.2 a thrown s past undos kept isk seen sn sf) [(0, .ref (a 0)), (1, .int x1), (2, .int x2)] [] := by
  unfold f_X9_offsets at h
  refine a_aload_n 1 0 hC dX9_offsets_0 rfl rfl rfl ?_
  refine a_iconst 2 (v := (0 : Int32)) hC dX9_offsets_1 rfl (by decide) ?_
  refine a_put 5 0 7 0 (mdW X.2.2.2.2 a (0 : Int32) s past undos kept isk seen sn sf) tyX9 hC inB_X9 tyX9_ok nmX9 rfl rfl (by decide) wq600 rfl rfl rfl rfl rfl (Nat.le_of_ble_eq_true rfl) dX9_offsets_2 rfl rfl ?_
  refine a_iload_n 6 1 hC dX9_offsets_5 rfl rfl rfl ?_
  obtain ⟨r1, gr1, h⟩ := bd h
  refine a_call0 9 [.int x1] [] (.int r1) hC (c_X9_isChaser X.1.2.1 X.2.2.2.1 X.2.2.2.2 x1 r1 gr1) ⟨wq785, wq30, wq787, ds_X9_isChaser, by decide, by decide⟩ wq786 rfl rfl (Nat.le_of_ble_eq_true rfl) dX9_offsets_6 rfl rfl rfl ⟨(Nat.le_refl _), (Nat.le_refl _)⟩ ?_
  refine a_if_eq 23 12 hC dX9_offsets_9 (by decide) rfl (fun c2 => ?_) (fun c2 => ?_)
  · have h := ifp c2 h
    refine a_iconst 24 (v := (-1 : Int32)) hC dX9_offsets_23 rfl (by decide) ?_
    obtain rfl := Option.some.inj h
    exact a_iret hC hR ⟨rfl, rfl⟩ (Nat.le_refl _) (Nat.le_refl _) dX9_offsets_24
  · have h := ifn c2 h
    refine a_iload_n 13 2 hC dX9_offsets_12 rfl rfl rfl ?_
    refine a_ldc 15 (v := (-99999 : Int32)) hC wq788 dX9_offsets_13 rfl ?_
    refine a_ldc 17 (v := (99999 : Int32)) hC wq789 dX9_offsets_15 rfl ?_
    obtain ⟨r3, gr3, h⟩ := bd h
    refine a_call0 20 [.int x2, .int (-99999 : Int32), .int (99999 : Int32)] [] (.int r3) hC (c_X9_in X.1.2.1 X.2.2.2.1 X.2.2.2.2 x2 (-99999 : Int32) (99999 : Int32) r3 gr3) ⟨wq649, wq30, wq651, ds_X9_in, by decide, by decide⟩ wq650 rfl rfl (Nat.le_of_ble_eq_true rfl) dX9_offsets_17 rfl rfl rfl ⟨(Nat.le_refl _), (Nat.le_refl _)⟩ ?_
    refine a_if_ne 25 23 hC dX9_offsets_20 (by decide) rfl (fun c4 => ?_) (fun c4 => ?_)
    · have h := ifn c4 h
      refine a_aload_n 26 0 hC dX9_offsets_25 rfl rfl rfl ?_
      refine a_get 29 0 7 1 hC inB_X9 rfl rfl (by decide) wq601 rfl rfl dX9_offsets_26 rfl ?_
      refine a_bipush 31 (v := (38 : Int32)) hC dX9_offsets_29 rfl (by decide) ?_
      refine a_iconst 32 (v := (3 : Int32)) hC dX9_offsets_31 rfl (by decide) ?_
      refine a_iload_n 33 1 hC dX9_offsets_32 rfl rfl rfl ?_
      refine a_imul 34 hC dX9_offsets_33 rfl ?_
      refine a_iadd 35 hC dX9_offsets_34 rfl ?_
      refine a_iconst 36 (v := (2 : Int32)) hC dX9_offsets_35 rfl (by decide) ?_
      refine a_iadd 37 hC dX9_offsets_36 rfl ?_
      obtain ⟨n5, h⟩ := gdx h
      refine a_iald 38 1 hC rfl n5 dX9_offsets_37 rfl ?_
      refine a_iload_n 39 2 hC dX9_offsets_38 rfl rfl rfl ?_
      refine a_icmp_ne 45 42 hC dX9_offsets_39 (by decide) rfl (fun c6 => ?_) (fun c6 => ?_)
      · have h := ifn c6 h
        refine a_aload_n 46 0 hC dX9_offsets_45 rfl rfl rfl ?_
        obtain ⟨r7, gr7, h⟩ := bd h
        refine a_callVs 49 (mdW X.2.2.2.2 a (0 : Int32) s r7.1 r7.2 kept isk seen sn sf) 0 7 [] [] none [] hC (c_X9_notes X.1.2.1 X.2.2.2.1 X.2.2.2.2 a (0 : Int32) s past undos kept isk seen sn sf r7 gr7) ⟨wq675, wq30, wq678, ds_X9_notes, by decide, by decide⟩ wq677 wq8 rfl rfl (Nat.le_of_ble_eq_true rfl) dX9_offsets_46 rfl rfl rfl ⟨(Nat.le_refl _), (Nat.le_refl _)⟩ rfl rfl rfl ?_
        refine a_aload_n 50 0 hC dX9_offsets_49 rfl rfl rfl ?_
        refine a_get 53 0 7 1 hC inB_X9 rfl rfl (by decide) wq601 rfl rfl dX9_offsets_50 rfl ?_
        refine a_bipush 55 (v := (38 : Int32)) hC dX9_offsets_53 rfl (by decide) ?_
        refine a_iconst 56 (v := (3 : Int32)) hC dX9_offsets_55 rfl (by decide) ?_
        refine a_iload_n 57 1 hC dX9_offsets_56 rfl rfl rfl ?_
        refine a_imul 58 hC dX9_offsets_57 rfl ?_
        refine a_iadd 59 hC dX9_offsets_58 rfl ?_
        refine a_iconst 60 (v := (2 : Int32)) hC dX9_offsets_59 rfl (by decide) ?_
        refine a_iadd 61 hC dX9_offsets_60 rfl ?_
        refine a_iload_n 62 2 hC dX9_offsets_61 rfl rfl rfl ?_
        obtain ⟨n9, h⟩ := gdx h
        obtain ⟨sq8, esq8, h⟩ := nmx h
        refine a_iast 63 1 (mdW X.2.2.2.2 a (0 : Int32) sq8 r7.1 r7.2 kept isk seen sn sf) hC rfl n9 dX9_offsets_62 rfl (by rw [esq8]; rfl) ?_
        refine a_iconst 64 (v := (1 : Int32)) hC dX9_offsets_63 rfl (by decide) ?_
        obtain rfl := Option.some.inj h
        exact a_iret hC hR ⟨rfl, rfl⟩ (Nat.le_refl _) (Nat.le_refl _) dX9_offsets_64
      · have h := ifp c6 h
        refine a_bipush 44 (v := (-2 : Int32)) hC dX9_offsets_42 rfl (by decide) ?_
        obtain rfl := Option.some.inj h
        exact a_iret hC hR ⟨rfl, rfl⟩ (Nat.le_refl _) (Nat.le_refl _) dX9_offsets_44
    · have h := ifp c4 h
      refine a_iconst 24 (v := (-1 : Int32)) hC dX9_offsets_23 rfl (by decide) ?_
      obtain rfl := Option.some.inj h
      exact a_iret hC hR ⟨rfl, rfl⟩ (Nat.le_refl _) (Nat.le_refl _) dX9_offsets_24
theorem c_X9_offsets (l : Launch) (D : va_G) (z : ClassId × ClassId × ClassId) (a : Nat → Nat) (x1 : Int32) (x2 : Int32) (thrown : Int32) (s : Nat → Int32) (past : Nat → Int32) (undos : Int32) (kept : Nat → Int32) (isk : Nat → Int32) (seen : Int32) (sn : Nat → Int32) (sf : Nat → Int32) (res : (Int32) × (Int32) × (Nat → Int32) × (Nat → Int32) × (Int32)) (h : f_X9_offsets x1 x2 thrown s past undos = some res) : Ct l D z yX9_offsets cX9_offsets 3 (some .int) rm_X9_offsets [.ref (a 0), .int x1, .int x2] (mdW z a thrown s past undos kept isk seen sn sf) (fun r w => r = some (.int res.1) ∧ w = (mdW z a res.2.1 res.2.2.1 res.2.2.2.1 res.2.2.2.2 kept isk seen sn sf)) := by
  refine Ct.of (by decide +kernel) (Nat.le_of_ble_eq_true rfl) (fun X hC hl hz hn hR => ?_)
  have hz1 : X.2.2.2.2 = z := by rw [hz]
  subst hz1
  exact t_X9_offsets hC a x1 x2 thrown s past undos kept isk seen sn sf res hR h

/-! X9_chases -/
abbrev rm_X9_chases : Room := { frames := 6, cells := 0, slots := 0, locals := 129 }
theorem ds_X9_chases : yX9_chases.cls ≠ "java/lang/invoke/MethodHandle" ∧ yX9_chases.cls ≠ "java/lang/invoke/VarHandle" ∧ (parseMethodDescriptor yX9_chases.desc).map (fun d => d.parameters.length) = some 2 := by decide +kernel
def fb_X9_chases_31 (x1 : Int32) (x2 : Int32) (thrown : Int32) (past : Nat → Int32) (undos : Int32) (w : ((Int32) × (Nat → Int32))) : Option (((Int32) × (Nat → Int32)) ⊕ ((Nat → Int32))) := (if x2 ≤ w.1 then (some (.inr w.2)) else ((f_X9_steps x1 w.2).bind fun r7 => (nm (w.1 + (1 : Int32)) fun v8 => (some (.inl (v8, r7))))))
set_option maxRecDepth 100000 in
set_option maxHeartbeats 4000000 in
theorem tb_X9_chases_31 {X : qX} (hC : Ok X rm_X9_chases cX9_chases 4 RX9 (some .int)) (a : Nat → Nat) (x1 : Int32) (x2 : Int32) (thrown : Int32) (past : Nat → Int32) (undos : Int32) (kept : Nat → Int32) (isk : Nat → Int32) (seen : Int32) (sn : Nat → Int32) (sf : Nat → Int32) (w : ((Int32) × (Nat → Int32))) (o : ((Int32) × (Nat → Int32)) ⊕ (((Nat → Int32)))) (h : fb_X9_chases_31 x1 x2 thrown past undos w = some o) (hk : Sum.elim (fun (w : ((Int32) × (Nat → Int32))) => At X 0 0 31 (mdW X.2.2.2.2 a thrown w.2 past undos kept isk seen sn sf) [(0, .ref (a 0)), (1, .int x1), (2, .int x2), (3, .int w.1)] []) (fun (w : (Nat → Int32)) => At X 0 0 47 (mdW X.2.2.2.2 a thrown w past undos kept isk seen sn sf) [(0, .ref (a 0)), (1, .int x1)] []) o) : At X 0 0 31 (mdW X.2.2.2.2 a thrown w.2 past undos kept isk seen sn sf) [(0, .ref (a 0)), (1, .int x1), (2, .int x2), (3, .int w.1)] [] := by
  unfold fb_X9_chases_31 at h
  refine a_iload_n 32 3 hC dX9_chases_31 rfl rfl rfl ?_
  refine a_iload_n 33 2 hC dX9_chases_32 rfl rfl rfl ?_
  refine a_icmp_ge 47 36 hC dX9_chases_33 (by decide) rfl (fun c6 => ?_) (fun c6 => ?_)
  · have h := ifp c6 h
    obtain rfl := Option.some.inj h
    refine a_lv [0, 1] [(0, .ref (a 0)), (1, .int x1)] rfl ?_
    exact hk
  · have h := ifn c6 h
    refine a_aload_n 37 0 hC dX9_chases_36 rfl rfl rfl ?_
    refine a_iload_n 38 1 hC dX9_chases_37 rfl rfl rfl ?_
    obtain ⟨r7, gr7, h⟩ := bd h
    refine a_callVs 41 (mdW X.2.2.2.2 a thrown r7 past undos kept isk seen sn sf) 0 7 [.int x1] [] none [] hC (c_X9_steps X.1.2.1 X.2.2.2.1 X.2.2.2.2 a x1 thrown w.2 past undos kept isk seen sn sf r7 gr7) ⟨wq794, wq30, wq797, ds_X9_steps, by decide, by decide⟩ wq796 wq19 rfl rfl (Nat.le_of_ble_eq_true rfl) dX9_chases_38 rfl rfl rfl ⟨(Nat.le_refl _), (Nat.le_refl _)⟩ rfl rfl rfl ?_
    obtain ⟨v8, ev8, h⟩ := nmx h
    refine a_iinc 44 3 [(0, .ref (a 0)), (1, .int x1), (2, .int x2), (3, .int v8)] [1, 2, 3, 0] hC dX9_chases_41 rfl rfl (v := v8) (by rw [ev8]; rfl) (by decide) rfl ?_
    refine a_goto 31 hC dX9_chases_44 (by decide) ?_
    obtain rfl := Option.some.inj h
    exact hk
def f_X9_chases (x1 : Int32) (x2 : Int32) (thrown : Int32) (s : Nat → Int32) (past : Nat → Int32) (undos : Int32) : Option ((Int32) × (Int32) × (Nat → Int32) × (Nat → Int32) × (Int32)) := ((f_X9_isChaser x1).bind fun r1 => (if r1 = (0 : Int32) then (some ((-1 : Int32), (0 : Int32), s, past, undos)) else ((f_X9_in x2 (1 : Int32) (1000 : Int32)).bind fun r3 => (if r3 = (0 : Int32) then (some ((-1 : Int32), (0 : Int32), s, past, undos)) else ((f_X9_notes s past undos).bind fun r5 => ((lp (fb_X9_chases_31 x1 x2 (0 : Int32) r5.1 r5.2) 100000 ((0 : Int32), s)).bind fun r9 => (gd ((38 : Int32) + ((3 : Int32) * x1)) 95 (some ((r9 (Int32.toNatClampNeg ((38 : Int32) + ((3 : Int32) * x1)))), (0 : Int32), r9, r5.1, r5.2)))))))))
set_option maxRecDepth 100000 in
set_option maxHeartbeats 4000000 in
theorem t_X9_chases {X : qX} (hC : Ok X rm_X9_chases cX9_chases 4 RX9 (some .int)) (a : Nat → Nat) (x1 : Int32) (x2 : Int32) (thrown : Int32) (s : Nat → Int32) (past : Nat → Int32) (undos : Int32) (kept : Nat → Int32) (isk : Nat → Int32) (seen : Int32) (sn : Nat → Int32) (sf : Nat → Int32) (res : (Int32) × (Int32) × (Nat → Int32) × (Nat → Int32) × (Int32)) (hR : Rt X 0 0 (fun r w => r = some (.int res.1) ∧ w = (mdW X.2.2.2.2 a res.2.1 res.2.2.1 res.2.2.2.1 res.2.2.2.2 kept isk seen sn sf))) (h : f_X9_chases x1 x2 thrown s past undos = some res) : At X 0 0 0 (mdW X.2.2.2.2 a thrown s past undos kept isk seen sn sf) [(0, .ref (a 0)), (1, .int x1), (2, .int x2)] [] := by
  unfold f_X9_chases at h
  refine a_aload_n 1 0 hC dX9_chases_0 rfl rfl rfl ?_
  refine a_iconst 2 (v := (0 : Int32)) hC dX9_chases_1 rfl (by decide) ?_
  refine a_put 5 0 7 0 (mdW X.2.2.2.2 a (0 : Int32) s past undos kept isk seen sn sf) tyX9 hC inB_X9 tyX9_ok nmX9 rfl rfl (by decide) wq600 rfl rfl rfl rfl rfl (Nat.le_of_ble_eq_true rfl) dX9_chases_2 rfl rfl ?_
  refine a_iload_n 6 1 hC dX9_chases_5 rfl rfl rfl ?_
  obtain ⟨r1, gr1, h⟩ := bd h
  refine a_call0 9 [.int x1] [] (.int r1) hC (c_X9_isChaser X.1.2.1 X.2.2.2.1 X.2.2.2.2 x1 r1 gr1) ⟨wq785, wq30, wq787, ds_X9_isChaser, by decide, by decide⟩ wq786 rfl rfl (Nat.le_of_ble_eq_true rfl) dX9_chases_6 rfl rfl rfl ⟨(Nat.le_refl _), (Nat.le_refl _)⟩ ?_
  refine a_if_eq 23 12 hC dX9_chases_9 (by decide) rfl (fun c2 => ?_) (fun c2 => ?_)
  · have h := ifp c2 h
    refine a_iconst 24 (v := (-1 : Int32)) hC dX9_chases_23 rfl (by decide) ?_
    obtain rfl := Option.some.inj h
    exact a_iret hC hR ⟨rfl, rfl⟩ (Nat.le_refl _) (Nat.le_refl _) dX9_chases_24
  · have h := ifn c2 h
    refine a_iload_n 13 2 hC dX9_chases_12 rfl rfl rfl ?_
    refine a_iconst 14 (v := (1 : Int32)) hC dX9_chases_13 rfl (by decide) ?_
    refine a_sipush 17 (v := (1000 : Int32)) hC dX9_chases_14 rfl (by decide) ?_
    obtain ⟨r3, gr3, h⟩ := bd h
    refine a_call0 20 [.int x2, .int (1 : Int32), .int (1000 : Int32)] [] (.int r3) hC (c_X9_in X.1.2.1 X.2.2.2.1 X.2.2.2.2 x2 (1 : Int32) (1000 : Int32) r3 gr3) ⟨wq649, wq30, wq651, ds_X9_in, by decide, by decide⟩ wq650 rfl rfl (Nat.le_of_ble_eq_true rfl) dX9_chases_17 rfl rfl rfl ⟨(Nat.le_refl _), (Nat.le_refl _)⟩ ?_
    refine a_if_ne 25 23 hC dX9_chases_20 (by decide) rfl (fun c4 => ?_) (fun c4 => ?_)
    · have h := ifn c4 h
      refine a_aload_n 26 0 hC dX9_chases_25 rfl rfl rfl ?_
      obtain ⟨r5, gr5, h⟩ := bd h
      refine a_callVs 29 (mdW X.2.2.2.2 a (0 : Int32) s r5.1 r5.2 kept isk seen sn sf) 0 7 [] [] none [] hC (c_X9_notes X.1.2.1 X.2.2.2.1 X.2.2.2.2 a (0 : Int32) s past undos kept isk seen sn sf r5 gr5) ⟨wq675, wq30, wq678, ds_X9_notes, by decide, by decide⟩ wq677 wq8 rfl rfl (Nat.le_of_ble_eq_true rfl) dX9_chases_26 rfl rfl rfl ⟨(Nat.le_refl _), (Nat.le_refl _)⟩ rfl rfl rfl ?_
      refine a_iconst 30 (v := (0 : Int32)) hC dX9_chases_29 rfl (by decide) ?_
      refine a_istore_n 31 [(0, .ref (a 0)), (1, .int x1), (2, .int x2), (3, .int (0 : Int32))] [1, 2, 3, 0] hC dX9_chases_30 rfl rfl (by decide) rfl ?_
      obtain ⟨r9, gr9, h⟩ := bd h
      refine lp_walk (Wh := (fun (u31 : ((Int32) × (Nat → Int32))) => At X 0 0 31 (mdW X.2.2.2.2 a (0 : Int32) u31.2 r5.1 r5.2 kept isk seen sn sf) [(0, .ref (a 0)), (1, .int x1), (2, .int x2), (3, .int u31.1)] [])) (We := (fun (u31 : (Nat → Int32)) => At X 0 0 47 (mdW X.2.2.2.2 a (0 : Int32) u31 r5.1 r5.2 kept isk seen sn sf) [(0, .ref (a 0)), (1, .int x1)] [])) (fun u9 o9 hb9 hk9 => tb_X9_chases_31 hC a x1 x2 (0 : Int32) r5.1 r5.2 kept isk seen sn sf u9 o9 hb9 hk9) 100000 ((0 : Int32), s) r9 gr9 ?_
      show At X 0 0 47 (mdW X.2.2.2.2 a (0 : Int32) r9 r5.1 r5.2 kept isk seen sn sf) [(0, .ref (a 0)), (1, .int x1)] []
      refine a_aload_n 48 0 hC dX9_chases_47 rfl rfl rfl ?_
      refine a_get 51 0 7 1 hC inB_X9 rfl rfl (by decide) wq601 rfl rfl dX9_chases_48 rfl ?_
      refine a_bipush 53 (v := (38 : Int32)) hC dX9_chases_51 rfl (by decide) ?_
      refine a_iconst 54 (v := (3 : Int32)) hC dX9_chases_53 rfl (by decide) ?_
      refine a_iload_n 55 1 hC dX9_chases_54 rfl rfl rfl ?_
      refine a_imul 56 hC dX9_chases_55 rfl ?_
      refine a_iadd 57 hC dX9_chases_56 rfl ?_
      obtain ⟨n10, h⟩ := gdx h
      refine a_iald 58 1 hC rfl n10 dX9_chases_57 rfl ?_
      obtain rfl := Option.some.inj h
      exact a_iret hC hR ⟨rfl, rfl⟩ (Nat.le_refl _) (Nat.le_refl _) dX9_chases_58
    · have h := ifp c4 h
      refine a_iconst 24 (v := (-1 : Int32)) hC dX9_chases_23 rfl (by decide) ?_
      obtain rfl := Option.some.inj h
      exact a_iret hC hR ⟨rfl, rfl⟩ (Nat.le_refl _) (Nat.le_refl _) dX9_chases_24
theorem c_X9_chases (l : Launch) (D : va_G) (z : ClassId × ClassId × ClassId) (a : Nat → Nat) (x1 : Int32) (x2 : Int32) (thrown : Int32) (s : Nat → Int32) (past : Nat → Int32) (undos : Int32) (kept : Nat → Int32) (isk : Nat → Int32) (seen : Int32) (sn : Nat → Int32) (sf : Nat → Int32) (res : (Int32) × (Int32) × (Nat → Int32) × (Nat → Int32) × (Int32)) (h : f_X9_chases x1 x2 thrown s past undos = some res) : Ct l D z yX9_chases cX9_chases 4 (some .int) rm_X9_chases [.ref (a 0), .int x1, .int x2] (mdW z a thrown s past undos kept isk seen sn sf) (fun r w => r = some (.int res.1) ∧ w = (mdW z a res.2.1 res.2.2.1 res.2.2.2.1 res.2.2.2.2 kept isk seen sn sf)) := by
  refine Ct.of (by decide +kernel) (Nat.le_of_ble_eq_true rfl) (fun X hC hl hz hn hR => ?_)
  have hz1 : X.2.2.2.2 = z := by rw [hz]
  subst hz1
  exact t_X9_chases hC a x1 x2 thrown s past undos kept isk seen sn sf res hR h

/-! X9_chaser -/
abbrev rm_X9_chaser : Room := { frames := 5, cells := 0, slots := 0, locals := 104 }
theorem ds_X9_chaser : yX9_chaser.cls ≠ "java/lang/invoke/MethodHandle" ∧ yX9_chaser.cls ≠ "java/lang/invoke/VarHandle" ∧ (parseMethodDescriptor yX9_chaser.desc).map (fun d => d.parameters.length) = some 2 := by decide +kernel
def f_X9_chaser (x1 : Int32) (x2 : Int32) (thrown : Int32) (s : Nat → Int32) : Option ((Int32) × (Int32)) := ((f_X9_isChaser x1).bind fun r1 => (if r1 = (0 : Int32) then (some ((-2147483647 : Int32), (0 : Int32))) else ((f_X9_in x2 (0 : Int32) (3 : Int32)).bind fun r3 => (if r3 = (0 : Int32) then (some ((-2147483647 : Int32), (0 : Int32))) else (if x2 = (3 : Int32) then ((f_X9_wayOf x1 s).bind fun r7 => (some (r7, (0 : Int32)))) else (gd (((38 : Int32) + ((3 : Int32) * x1)) + x2) 95 (some ((s (Int32.toNatClampNeg (((38 : Int32) + ((3 : Int32) * x1)) + x2))), (0 : Int32)))))))))
set_option maxRecDepth 100000 in
set_option maxHeartbeats 4000000 in
theorem t_X9_chaser {X : qX} (hC : Ok X rm_X9_chaser cX9_chaser 3 RX9 (some .int)) (a : Nat → Nat) (x1 : Int32) (x2 : Int32) (thrown : Int32) (s : Nat → Int32) (past : Nat → Int32) (undos : Int32) (kept : Nat → Int32) (isk : Nat → Int32) (seen : Int32) (sn : Nat → Int32) (sf : Nat → Int32) (res : (Int32) × (Int32)) (hR : Rt X 0 0 (fun r w => r = some (.int res.1) ∧ w = (mdW X.2.2.2.2 a res.2 s past undos kept isk seen sn sf))) (h : f_X9_chaser x1 x2 thrown s = some res) : At X 0 0 0 (mdW X.2.2.2.2 a thrown s past undos kept isk seen sn sf) [(0, .ref (a 0)), (1, .int x1), (2, .int x2)] [] := by
  unfold f_X9_chaser at h
  refine a_aload_n 1 0 hC dX9_chaser_0 rfl rfl rfl ?_
  refine a_iconst 2 (v := (0 : Int32)) hC dX9_chaser_1 rfl (by decide) ?_
  refine a_put 5 0 7 0 (mdW X.2.2.2.2 a (0 : Int32) s past undos kept isk seen sn sf) tyX9 hC inB_X9 tyX9_ok nmX9 rfl rfl (by decide) wq600 rfl rfl rfl rfl rfl (Nat.le_of_ble_eq_true rfl) dX9_chaser_2 rfl rfl ?_
  refine a_iload_n 6 1 hC dX9_chaser_5 rfl rfl rfl ?_
  obtain ⟨r1, gr1, h⟩ := bd h
  refine a_call0 9 [.int x1] [] (.int r1) hC (c_X9_isChaser X.1.2.1 X.2.2.2.1 X.2.2.2.2 x1 r1 gr1) ⟨wq785, wq30, wq787, ds_X9_isChaser, by decide, by decide⟩ wq786 rfl rfl (Nat.le_of_ble_eq_true rfl) dX9_chaser_6 rfl rfl rfl ⟨(Nat.le_refl _), (Nat.le_refl _)⟩ ?_
  refine a_if_eq 21 12 hC dX9_chaser_9 (by decide) rfl (fun c2 => ?_) (fun c2 => ?_)
  · have h := ifp c2 h
    refine a_ldc 23 (v := (-2147483647 : Int32)) hC wq764 dX9_chaser_21 rfl ?_
    refine a_goto 52 hC dX9_chaser_23 (by decide) ?_
    obtain rfl := Option.some.inj h
    exact a_iret hC hR ⟨rfl, rfl⟩ (Nat.le_refl _) (Nat.le_refl _) dX9_chaser_52
  · have h := ifn c2 h
    refine a_iload_n 13 2 hC dX9_chaser_12 rfl rfl rfl ?_
    refine a_iconst 14 (v := (0 : Int32)) hC dX9_chaser_13 rfl (by decide) ?_
    refine a_iconst 15 (v := (3 : Int32)) hC dX9_chaser_14 rfl (by decide) ?_
    obtain ⟨r3, gr3, h⟩ := bd h
    refine a_call0 18 [.int x2, .int (0 : Int32), .int (3 : Int32)] [] (.int r3) hC (c_X9_in X.1.2.1 X.2.2.2.1 X.2.2.2.2 x2 (0 : Int32) (3 : Int32) r3 gr3) ⟨wq649, wq30, wq651, ds_X9_in, by decide, by decide⟩ wq650 rfl rfl (Nat.le_of_ble_eq_true rfl) dX9_chaser_15 rfl rfl rfl ⟨(Nat.le_refl _), (Nat.le_refl _)⟩ ?_
    refine a_if_ne 26 21 hC dX9_chaser_18 (by decide) rfl (fun c4 => ?_) (fun c4 => ?_)
    · have h := ifn c4 h
      refine a_iload_n 27 2 hC dX9_chaser_26 rfl rfl rfl ?_
      refine a_iconst 28 (v := (3 : Int32)) hC dX9_chaser_27 rfl (by decide) ?_
      refine a_icmp_ne 39 31 hC dX9_chaser_28 (by decide) rfl (fun c5 => ?_) (fun c5 => ?_)
      · have h := ifn c5 h
        refine a_aload_n 40 0 hC dX9_chaser_39 rfl rfl rfl ?_
        refine a_get 43 0 7 1 hC inB_X9 rfl rfl (by decide) wq601 rfl rfl dX9_chaser_40 rfl ?_
        refine a_bipush 45 (v := (38 : Int32)) hC dX9_chaser_43 rfl (by decide) ?_
        refine a_iconst 46 (v := (3 : Int32)) hC dX9_chaser_45 rfl (by decide) ?_
        refine a_iload_n 47 1 hC dX9_chaser_46 rfl rfl rfl ?_
        refine a_imul 48 hC dX9_chaser_47 rfl ?_
        refine a_iadd 49 hC dX9_chaser_48 rfl ?_
        refine a_iload_n 50 2 hC dX9_chaser_49 rfl rfl rfl ?_
        refine a_iadd 51 hC dX9_chaser_50 rfl ?_
        obtain ⟨n6, h⟩ := gdx h
        refine a_iald 52 1 hC rfl n6 dX9_chaser_51 rfl ?_
        obtain rfl := Option.some.inj h
        exact a_iret hC hR ⟨rfl, rfl⟩ (Nat.le_refl _) (Nat.le_refl _) dX9_chaser_52
      · have h := ifp c5 h
        refine a_aload_n 32 0 hC dX9_chaser_31 rfl rfl rfl ?_
        refine a_iload_n 33 1 hC dX9_chaser_32 rfl rfl rfl ?_
        obtain ⟨r7, gr7, h⟩ := bd h
        refine a_callVs 36 (mdW X.2.2.2.2 a (0 : Int32) s past undos kept isk seen sn sf) 0 7 [.int x1] [] (some (.int r7)) [.int r7] hC (c_X9_wayOf X.1.2.1 X.2.2.2.1 X.2.2.2.2 a x1 (0 : Int32) s past undos kept isk seen sn sf r7 gr7) ⟨wq798, wq30, wq801, ds_X9_wayOf, by decide, by decide⟩ wq800 wq20 rfl rfl (Nat.le_of_ble_eq_true rfl) dX9_chaser_33 rfl rfl rfl ⟨(Nat.le_refl _), (Nat.le_refl _)⟩ rfl rfl rfl ?_
        refine a_goto 52 hC dX9_chaser_36 (by decide) ?_
        obtain rfl := Option.some.inj h
        exact a_iret hC hR ⟨rfl, rfl⟩ (Nat.le_refl _) (Nat.le_refl _) dX9_chaser_52
    · have h := ifp c4 h
      refine a_ldc 23 (v := (-2147483647 : Int32)) hC wq764 dX9_chaser_21 rfl ?_
      refine a_goto 52 hC dX9_chaser_23 (by decide) ?_
      obtain rfl := Option.some.inj h
      exact a_iret hC hR ⟨rfl, rfl⟩ (Nat.le_refl _) (Nat.le_refl _) dX9_chaser_52
theorem c_X9_chaser (l : Launch) (D : va_G) (z : ClassId × ClassId × ClassId) (a : Nat → Nat) (x1 : Int32) (x2 : Int32) (thrown : Int32) (s : Nat → Int32) (past : Nat → Int32) (undos : Int32) (kept : Nat → Int32) (isk : Nat → Int32) (seen : Int32) (sn : Nat → Int32) (sf : Nat → Int32) (res : (Int32) × (Int32)) (h : f_X9_chaser x1 x2 thrown s = some res) : Ct l D z yX9_chaser cX9_chaser 3 (some .int) rm_X9_chaser [.ref (a 0), .int x1, .int x2] (mdW z a thrown s past undos kept isk seen sn sf) (fun r w => r = some (.int res.1) ∧ w = (mdW z a res.2 s past undos kept isk seen sn sf)) := by
  refine Ct.of (by decide +kernel) (Nat.le_of_ble_eq_true rfl) (fun X hC hl hz hn hR => ?_)
  have hz1 : X.2.2.2.2 = z := by rw [hz]
  subst hz1
  exact t_X9_chaser hC a x1 x2 thrown s past undos kept isk seen sn sf res hR h

/-! X9_there -/
abbrev rm_X9_there : Room := { frames := 6, cells := 0, slots := 0, locals := 129 }
theorem ds_X9_there : yX9_there.cls ≠ "java/lang/invoke/MethodHandle" ∧ yX9_there.cls ≠ "java/lang/invoke/VarHandle" ∧ (parseMethodDescriptor yX9_there.desc).map (fun d => d.parameters.length) = some 1 := by decide +kernel
def fb_X9_there_43 (x1 : Int32) (x2 : Int32) (x3 : Int32) (thrown : Int32) (w : ((Int32) × (Nat → Int32))) : Option (((Int32) × (Nat → Int32)) ⊕ ((Int32) × (Nat → Int32))) := (if (3000 : Int32) ≤ w.1 then (some (.inr (w.1, w.2))) else ((f_X9_isThere x1 w.2).bind fun r8 => (if r8 = (0 : Int32) then ((f_X9_steps x1 w.2).bind fun r10 => (nm (w.1 + (1 : Int32)) fun v11 => (some (.inl (v11, r10))))) else (some (.inr (w.1, w.2))))))
set_option maxRecDepth 100000 in
set_option maxHeartbeats 4000000 in
theorem tb_X9_there_43 {X : qX} (hC : Ok X rm_X9_there cX9_there 6 RX9 (some .int)) (a : Nat → Nat) (x1 : Int32) (x2 : Int32) (x3 : Int32) (thrown : Int32) (past : Nat → Int32) (undos : Int32) (kept : Nat → Int32) (isk : Nat → Int32) (seen : Int32) (sn : Nat → Int32) (sf : Nat → Int32) (w : ((Int32) × (Nat → Int32))) (o : ((Int32) × (Nat → Int32)) ⊕ (((Int32) × (Nat → Int32)))) (h : fb_X9_there_43 x1 x2 x3 thrown w = some o) (hk : Sum.elim (fun (w : ((Int32) × (Nat → Int32))) => At X 0 0 43 (mdW X.2.2.2.2 a thrown w.2 past undos kept isk seen sn sf) [(0, .ref (a 0)), (1, .int x1), (2, .int x2), (3, .int x3), (4, .int w.1)] []) (fun (w : (Int32) × (Nat → Int32)) => At X 0 0 70 (mdW X.2.2.2.2 a thrown w.2 past undos kept isk seen sn sf) [(0, .ref (a 0)), (1, .int x1), (2, .int x2), (3, .int x3), (4, .int w.1)] []) o) : At X 0 0 43 (mdW X.2.2.2.2 a thrown w.2 past undos kept isk seen sn sf) [(0, .ref (a 0)), (1, .int x1), (2, .int x2), (3, .int x3), (4, .int w.1)] [] := by
  unfold fb_X9_there_43 at h
  refine a_iload 45 4 hC dX9_there_43 rfl rfl ?_
  refine a_sipush 48 (v := (3000 : Int32)) hC dX9_there_45 rfl (by decide) ?_
  refine a_icmp_ge 70 51 hC dX9_there_48 (by decide) rfl (fun c7 => ?_) (fun c7 => ?_)
  · have h := ifp c7 h
    obtain rfl := Option.some.inj h
    exact hk
  · have h := ifn c7 h
    refine a_aload_n 52 0 hC dX9_there_51 rfl rfl rfl ?_
    refine a_iload_n 53 1 hC dX9_there_52 rfl rfl rfl ?_
    obtain ⟨r8, gr8, h⟩ := bd h
    refine a_callVs 56 (mdW X.2.2.2.2 a thrown w.2 past undos kept isk seen sn sf) 0 7 [.int x1] [] (some (.int r8)) [.int r8] hC (c_X9_isThere X.1.2.1 X.2.2.2.1 X.2.2.2.2 a x1 thrown w.2 past undos kept isk seen sn sf r8 gr8) ⟨wq813, wq30, wq816, ds_X9_isThere, by decide, by decide⟩ wq815 wq21 rfl rfl (Nat.le_of_ble_eq_true rfl) dX9_there_53 rfl rfl rfl ⟨(Nat.le_refl _), (Nat.le_refl _)⟩ rfl rfl rfl ?_
    refine a_if_ne 70 59 hC dX9_there_56 (by decide) rfl (fun c9 => ?_) (fun c9 => ?_)
    · have h := ifn c9 h
      obtain rfl := Option.some.inj h
      exact hk
    · have h := ifp c9 h
      refine a_aload_n 60 0 hC dX9_there_59 rfl rfl rfl ?_
      refine a_iload_n 61 1 hC dX9_there_60 rfl rfl rfl ?_
      obtain ⟨r10, gr10, h⟩ := bd h
      refine a_callVs 64 (mdW X.2.2.2.2 a thrown r10 past undos kept isk seen sn sf) 0 7 [.int x1] [] none [] hC (c_X9_steps X.1.2.1 X.2.2.2.1 X.2.2.2.2 a x1 thrown w.2 past undos kept isk seen sn sf r10 gr10) ⟨wq794, wq30, wq797, ds_X9_steps, by decide, by decide⟩ wq796 wq19 rfl rfl (Nat.le_of_ble_eq_true rfl) dX9_there_61 rfl rfl rfl ⟨(Nat.le_refl _), (Nat.le_refl _)⟩ rfl rfl rfl ?_
      obtain ⟨v11, ev11, h⟩ := nmx h
      refine a_iinc 67 4 [(0, .ref (a 0)), (1, .int x1), (2, .int x2), (3, .int x3), (4, .int v11)] [1, 2, 3, 4, 0] hC dX9_there_64 rfl rfl (v := v11) (by rw [ev11]; rfl) (by decide) rfl ?_
      refine a_goto 43 hC dX9_there_67 (by decide) ?_
      obtain rfl := Option.some.inj h
      exact hk
def f_X9_there_85 (x1 : Int32) (x2 : Int32) (x3 : Int32) (y0 : Int32) (thrown : Int32) (s : Nat → Int32) : Option ((Int32) × (Int32) × (Nat → Int32)) := (gd ((38 : Int32) + ((3 : Int32) * x1)) 95 (nm (upd s (Int32.toNatClampNeg ((38 : Int32) + ((3 : Int32) * x1))) x2) fun sq15 => (gd (((38 : Int32) + ((3 : Int32) * x1)) + (1 : Int32)) 95 (nm (upd sq15 (Int32.toNatClampNeg (((38 : Int32) + ((3 : Int32) * x1)) + (1 : Int32))) x3) fun sq17 => (some (y0, thrown, sq17))))))
set_option maxRecDepth 100000 in
set_option maxHeartbeats 4000000 in
theorem t_X9_there_85 {X : qX} (hC : Ok X rm_X9_there cX9_there 6 RX9 (some .int)) (a : Nat → Nat) (x1 : Int32) (x2 : Int32) (x3 : Int32) (y0 : Int32) (thrown : Int32) (s : Nat → Int32) (past : Nat → Int32) (undos : Int32) (kept : Nat → Int32) (isk : Nat → Int32) (seen : Int32) (sn : Nat → Int32) (sf : Nat → Int32) (res : (Int32) × (Int32) × (Nat → Int32)) (hR : Rt X 0 0 (fun r w => r = some (.int res.1) ∧ w = (mdW X.2.2.2.2 a res.2.1 res.2.2 past undos kept isk seen sn sf))) (h : f_X9_there_85 x1 x2 x3 y0 thrown s = some res) : At X 0 0 85 (mdW X.2.2.2.2 a thrown s past undos kept isk seen sn sf) [(0, .ref (a 0)), (1, .int x1), (2, .int x2), (3, .int x3)] [.int y0] := by
  unfold f_X9_there_85 at h
  refine a_istore 87 [(0, .ref (a 0)), (1, .int x1), (2, .int x2), (3, .int x3), (5, .int y0)] [1, 2, 3, 4, 0] hC dX9_there_85 rfl (by decide) rfl ?_
  refine a_aload_n 88 0 hC dX9_there_87 rfl rfl rfl ?_
  refine a_get 91 0 7 1 hC inB_X9 rfl rfl (by decide) wq601 rfl rfl dX9_there_88 rfl ?_
  refine a_bipush 93 (v := (38 : Int32)) hC dX9_there_91 rfl (by decide) ?_
  refine a_iconst 94 (v := (3 : Int32)) hC dX9_there_93 rfl (by decide) ?_
  refine a_iload_n 95 1 hC dX9_there_94 rfl rfl rfl ?_
  refine a_imul 96 hC dX9_there_95 rfl ?_
  refine a_iadd 97 hC dX9_there_96 rfl ?_
  refine a_iload_n 98 2 hC dX9_there_97 rfl rfl rfl ?_
  obtain ⟨n16, h⟩ := gdx h
  obtain ⟨sq15, esq15, h⟩ := nmx h
  refine a_iast 99 1 (mdW X.2.2.2.2 a thrown sq15 past undos kept isk seen sn sf) hC rfl n16 dX9_there_98 rfl (by rw [esq15]; rfl) ?_
  refine a_aload_n 100 0 hC dX9_there_99 rfl rfl rfl ?_
  refine a_get 103 0 7 1 hC inB_X9 rfl rfl (by decide) wq601 rfl rfl dX9_there_100 rfl ?_
  refine a_bipush 105 (v := (38 : Int32)) hC dX9_there_103 rfl (by decide) ?_
  refine a_iconst 106 (v := (3 : Int32)) hC dX9_there_105 rfl (by decide) ?_
  refine a_iload_n 107 1 hC dX9_there_106 rfl rfl rfl ?_
  refine a_imul 108 hC dX9_there_107 rfl ?_
  refine a_iadd 109 hC dX9_there_108 rfl ?_
  refine a_iconst 110 (v := (1 : Int32)) hC dX9_there_109 rfl (by decide) ?_
  refine a_iadd 111 hC dX9_there_110 rfl ?_
  refine a_iload_n 112 3 hC dX9_there_111 rfl rfl rfl ?_
  obtain ⟨n18, h⟩ := gdx h
  obtain ⟨sq17, esq17, h⟩ := nmx h
  refine a_iast 113 1 (mdW X.2.2.2.2 a thrown sq17 past undos kept isk seen sn sf) hC rfl n18 dX9_there_112 rfl (by rw [esq17]; rfl) ?_
  refine a_iload 115 4 hC dX9_there_113 rfl rfl ?_
  obtain rfl := Option.some.inj h
  exact a_iret hC hR ⟨rfl, rfl⟩ (Nat.le_refl _) (Nat.le_refl _) dX9_there_115
def f_X9_there_70 (x1 : Int32) (x2 : Int32) (x3 : Int32) (x4 : Int32) (thrown : Int32) (s : Nat → Int32) : Option ((Int32) × (Int32) × (Nat → Int32)) := ((f_X9_isThere x1 s).bind fun r13 => (if r13 = (0 : Int32) then (f_X9_there_85 x1 x2 x3 (-9 : Int32) thrown s) else (f_X9_there_85 x1 x2 x3 x4 thrown s)))
set_option maxRecDepth 100000 in
set_option maxHeartbeats 4000000 in
theorem t_X9_there_70 {X : qX} (hC : Ok X rm_X9_there cX9_there 6 RX9 (some .int)) (a : Nat → Nat) (x1 : Int32) (x2 : Int32) (x3 : Int32) (x4 : Int32) (thrown : Int32) (s : Nat → Int32) (past : Nat → Int32) (undos : Int32) (kept : Nat → Int32) (isk : Nat → Int32) (seen : Int32) (sn : Nat → Int32) (sf : Nat → Int32) (res : (Int32) × (Int32) × (Nat → Int32)) (hR : Rt X 0 0 (fun r w => r = some (.int res.1) ∧ w = (mdW X.2.2.2.2 a res.2.1 res.2.2 past undos kept isk seen sn sf))) (h : f_X9_there_70 x1 x2 x3 x4 thrown s = some res) : At X 0 0 70 (mdW X.2.2.2.2 a thrown s past undos kept isk seen sn sf) [(0, .ref (a 0)), (1, .int x1), (2, .int x2), (3, .int x3), (4, .int x4)] [] := by
  unfold f_X9_there_70 at h
  refine a_aload_n 71 0 hC dX9_there_70 rfl rfl rfl ?_
  refine a_iload_n 72 1 hC dX9_there_71 rfl rfl rfl ?_
  obtain ⟨r13, gr13, h⟩ := bd h
  refine a_callVs 75 (mdW X.2.2.2.2 a thrown s past undos kept isk seen sn sf) 0 7 [.int x1] [] (some (.int r13)) [.int r13] hC (c_X9_isThere X.1.2.1 X.2.2.2.1 X.2.2.2.2 a x1 thrown s past undos kept isk seen sn sf r13 gr13) ⟨wq813, wq30, wq816, ds_X9_isThere, by decide, by decide⟩ wq815 wq21 rfl rfl (Nat.le_of_ble_eq_true rfl) dX9_there_72 rfl rfl rfl ⟨(Nat.le_refl _), (Nat.le_refl _)⟩ rfl rfl rfl ?_
  refine a_if_eq 83 78 hC dX9_there_75 (by decide) rfl (fun c14 => ?_) (fun c14 => ?_)
  · have h := ifp c14 h
    refine a_bipush 85 (v := (-9 : Int32)) hC dX9_there_83 rfl (by decide) ?_
    refine a_lv [0, 1, 2, 3] [(0, .ref (a 0)), (1, .int x1), (2, .int x2), (3, .int x3)] rfl ?_
    exact t_X9_there_85 hC a x1 x2 x3 (-9 : Int32) thrown s past undos kept isk seen sn sf res hR h
  · have h := ifn c14 h
    refine a_iload 80 4 hC dX9_there_78 rfl rfl ?_
    refine a_goto 85 hC dX9_there_80 (by decide) ?_
    refine a_lv [0, 1, 2, 3] [(0, .ref (a 0)), (1, .int x1), (2, .int x2), (3, .int x3)] rfl ?_
    exact t_X9_there_85 hC a x1 x2 x3 x4 thrown s past undos kept isk seen sn sf res hR h
def f_X9_there (x1 : Int32) (thrown : Int32) (s : Nat → Int32) : Option ((Int32) × (Int32) × (Nat → Int32)) := ((f_X9_isChaser x1).bind fun r1 => (if r1 = (0 : Int32) then (some ((-1 : Int32), (0 : Int32), s)) else (gd ((38 : Int32) + ((3 : Int32) * x1)) 95 (nm (s (Int32.toNatClampNeg ((38 : Int32) + ((3 : Int32) * x1)))) fun v4 => (gd (((38 : Int32) + ((3 : Int32) * x1)) + (1 : Int32)) 95 (nm (s (Int32.toNatClampNeg (((38 : Int32) + ((3 : Int32) * x1)) + (1 : Int32)))) fun v6 => ((lp (fb_X9_there_43 x1 v4 v6 (0 : Int32)) 100000 ((0 : Int32), s)).bind fun r12 => (f_X9_there_70 x1 v4 v6 r12.1 (0 : Int32) r12.2))))))))
set_option maxRecDepth 100000 in
set_option maxHeartbeats 4000000 in
theorem t_X9_there {X : qX} (hC : Ok X rm_X9_there cX9_there 6 RX9 (some .int)) (a : Nat → Nat) (x1 : Int32) (thrown : Int32) (s : Nat → Int32) (past : Nat → Int32) (undos : Int32) (kept : Nat → Int32) (isk : Nat → Int32) (seen : Int32) (sn : Nat → Int32) (sf : Nat → Int32) (res : (Int32) × (Int32) × (Nat → Int32)) (hR : Rt X 0 0 (fun r w => r = some (.int res.1) ∧ w = (mdW X.2.2.2.2 a res.2.1 res.2.2 past undos kept isk seen sn sf))) (h : f_X9_there x1 thrown s = some res) : At X 0 0 0 (mdW X.2.2.2.2 a thrown s past undos kept isk seen sn sf) [(0, .ref (a 0)), (1, .int x1)] [] := by
  unfold f_X9_there at h
  refine a_aload_n 1 0 hC dX9_there_0 rfl rfl rfl ?_
  refine a_iconst 2 (v := (0 : Int32)) hC dX9_there_1 rfl (by decide) ?_
  refine a_put 5 0 7 0 (mdW X.2.2.2.2 a (0 : Int32) s past undos kept isk seen sn sf) tyX9 hC inB_X9 tyX9_ok nmX9 rfl rfl (by decide) wq600 rfl rfl rfl rfl rfl (Nat.le_of_ble_eq_true rfl) dX9_there_2 rfl rfl ?_
  refine a_iload_n 6 1 hC dX9_there_5 rfl rfl rfl ?_
  obtain ⟨r1, gr1, h⟩ := bd h
  refine a_call0 9 [.int x1] [] (.int r1) hC (c_X9_isChaser X.1.2.1 X.2.2.2.1 X.2.2.2.2 x1 r1 gr1) ⟨wq785, wq30, wq787, ds_X9_isChaser, by decide, by decide⟩ wq786 rfl rfl (Nat.le_of_ble_eq_true rfl) dX9_there_6 rfl rfl rfl ⟨(Nat.le_refl _), (Nat.le_refl _)⟩ ?_
  refine a_if_ne 14 12 hC dX9_there_9 (by decide) rfl (fun c2 => ?_) (fun c2 => ?_)
  · have h := ifn c2 h
    refine a_aload_n 15 0 hC dX9_there_14 rfl rfl rfl ?_
    refine a_get 18 0 7 1 hC inB_X9 rfl rfl (by decide) wq601 rfl rfl dX9_there_15 rfl ?_
    refine a_bipush 20 (v := (38 : Int32)) hC dX9_there_18 rfl (by decide) ?_
    refine a_iconst 21 (v := (3 : Int32)) hC dX9_there_20 rfl (by decide) ?_
    refine a_iload_n 22 1 hC dX9_there_21 rfl rfl rfl ?_
    refine a_imul 23 hC dX9_there_22 rfl ?_
    refine a_iadd 24 hC dX9_there_23 rfl ?_
    obtain ⟨n3, h⟩ := gdx h
    refine a_iald 25 1 hC rfl n3 dX9_there_24 rfl ?_
    obtain ⟨v4, ev4, h⟩ := nmx h
    refine a_nm ev4 ?_
    refine a_istore_n 26 [(0, .ref (a 0)), (1, .int x1), (2, .int v4)] [1, 2, 0] hC dX9_there_25 rfl rfl (by decide) rfl ?_
    refine a_aload_n 27 0 hC dX9_there_26 rfl rfl rfl ?_
    refine a_get 30 0 7 1 hC inB_X9 rfl rfl (by decide) wq601 rfl rfl dX9_there_27 rfl ?_
    refine a_bipush 32 (v := (38 : Int32)) hC dX9_there_30 rfl (by decide) ?_
    refine a_iconst 33 (v := (3 : Int32)) hC dX9_there_32 rfl (by decide) ?_
    refine a_iload_n 34 1 hC dX9_there_33 rfl rfl rfl ?_
    refine a_imul 35 hC dX9_there_34 rfl ?_
    refine a_iadd 36 hC dX9_there_35 rfl ?_
    refine a_iconst 37 (v := (1 : Int32)) hC dX9_there_36 rfl (by decide) ?_
    refine a_iadd 38 hC dX9_there_37 rfl ?_
    obtain ⟨n5, h⟩ := gdx h
    refine a_iald 39 1 hC rfl n5 dX9_there_38 rfl ?_
    obtain ⟨v6, ev6, h⟩ := nmx h
    refine a_nm ev6 ?_
    refine a_istore_n 40 [(0, .ref (a 0)), (1, .int x1), (2, .int v4), (3, .int v6)] [1, 2, 3, 0] hC dX9_there_39 rfl rfl (by decide) rfl ?_
    refine a_iconst 41 (v := (0 : Int32)) hC dX9_there_40 rfl (by decide) ?_
    refine a_istore 43 [(0, .ref (a 0)), (1, .int x1), (2, .int v4), (3, .int v6), (4, .int (0 : Int32))] [1, 2, 3, 4, 0] hC dX9_there_41 rfl (by decide) rfl ?_
    obtain ⟨r12, gr12, h⟩ := bd h
    refine lp_walk (Wh := (fun (u43 : ((Int32) × (Nat → Int32))) => At X 0 0 43 (mdW X.2.2.2.2 a (0 : Int32) u43.2 past undos kept isk seen sn sf) [(0, .ref (a 0)), (1, .int x1), (2, .int v4), (3, .int v6), (4, .int u43.1)] [])) (We := (fun (u43 : (Int32) × (Nat → Int32)) => At X 0 0 70 (mdW X.2.2.2.2 a (0 : Int32) u43.2 past undos kept isk seen sn sf) [(0, .ref (a 0)), (1, .int x1), (2, .int v4), (3, .int v6), (4, .int u43.1)] [])) (fun u9 o9 hb9 hk9 => tb_X9_there_43 hC a x1 v4 v6 (0 : Int32) past undos kept isk seen sn sf u9 o9 hb9 hk9) 100000 ((0 : Int32), s) r12 gr12 ?_
    show At X 0 0 70 (mdW X.2.2.2.2 a (0 : Int32) r12.2 past undos kept isk seen sn sf) [(0, .ref (a 0)), (1, .int x1), (2, .int v4), (3, .int v6), (4, .int r12.1)] []
    exact t_X9_there_70 hC a x1 v4 v6 r12.1 (0 : Int32) r12.2 past undos kept isk seen sn sf res hR h
  · have h := ifp c2 h
    refine a_iconst 13 (v := (-1 : Int32)) hC dX9_there_12 rfl (by decide) ?_
    obtain rfl := Option.some.inj h
    exact a_iret hC hR ⟨rfl, rfl⟩ (Nat.le_refl _) (Nat.le_refl _) dX9_there_13
theorem c_X9_there (l : Launch) (D : va_G) (z : ClassId × ClassId × ClassId) (a : Nat → Nat) (x1 : Int32) (thrown : Int32) (s : Nat → Int32) (past : Nat → Int32) (undos : Int32) (kept : Nat → Int32) (isk : Nat → Int32) (seen : Int32) (sn : Nat → Int32) (sf : Nat → Int32) (res : (Int32) × (Int32) × (Nat → Int32)) (h : f_X9_there x1 thrown s = some res) : Ct l D z yX9_there cX9_there 6 (some .int) rm_X9_there [.ref (a 0), .int x1] (mdW z a thrown s past undos kept isk seen sn sf) (fun r w => r = some (.int res.1) ∧ w = (mdW z a res.2.1 res.2.2 past undos kept isk seen sn sf)) := by
  refine Ct.of (by decide +kernel) (Nat.le_of_ble_eq_true rfl) (fun X hC hl hz hn hR => ?_)
  have hz1 : X.2.2.2.2 = z := by rw [hz]
  subst hz1
  exact t_X9_there hC a x1 thrown s past undos kept isk seen sn sf res hR h

/-! X9_undo -/
abbrev rm_X9_undo : Room := { frames := 0, cells := 0, slots := 0, locals := 0 }
theorem ds_X9_undo : yX9_undo.cls ≠ "java/lang/invoke/MethodHandle" ∧ yX9_undo.cls ≠ "java/lang/invoke/VarHandle" ∧ (parseMethodDescriptor yX9_undo.desc).map (fun d => d.parameters.length) = some 0 := by decide +kernel
def fb_X9_undo_27 (thrown : Int32) (past : Nat → Int32) (undos : Int32) (w : ((Int32) × (Nat → Int32))) : Option (((Int32) × (Nat → Int32)) ⊕ ((Nat → Int32))) := (if (95 : Int32) ≤ w.1 then (some (.inr w.2)) else (gd (((95 : Int32) * undos) + w.1) 760 (nm (past (Int32.toNatClampNeg (((95 : Int32) * undos) + w.1))) fun v5 => (gd w.1 95 (nm (upd w.2 (Int32.toNatClampNeg w.1) v5) fun sq6 => (nm (w.1 + (1 : Int32)) fun v8 => (some (.inl (v8, sq6)))))))))
set_option maxRecDepth 100000 in
set_option maxHeartbeats 4000000 in
theorem tb_X9_undo_27 {X : qX} (hC : Ok X rm_X9_undo cX9_undo 2 RX9 (some .int)) (a : Nat → Nat) (thrown : Int32) (past : Nat → Int32) (undos : Int32) (kept : Nat → Int32) (isk : Nat → Int32) (seen : Int32) (sn : Nat → Int32) (sf : Nat → Int32) (w : ((Int32) × (Nat → Int32))) (o : ((Int32) × (Nat → Int32)) ⊕ (((Nat → Int32)))) (h : fb_X9_undo_27 thrown past undos w = some o) (hk : Sum.elim (fun (w : ((Int32) × (Nat → Int32))) => At X 0 0 27 (mdW X.2.2.2.2 a thrown w.2 past undos kept isk seen sn sf) [(0, .ref (a 0)), (1, .int w.1)] []) (fun (w : (Nat → Int32)) => At X 0 0 59 (mdW X.2.2.2.2 a thrown w past undos kept isk seen sn sf) [(0, .ref (a 0))] []) o) : At X 0 0 27 (mdW X.2.2.2.2 a thrown w.2 past undos kept isk seen sn sf) [(0, .ref (a 0)), (1, .int w.1)] [] := by
  unfold fb_X9_undo_27 at h
  refine a_iload_n 28 1 hC dX9_undo_27 rfl rfl rfl ?_
  refine a_bipush 30 (v := (95 : Int32)) hC dX9_undo_28 rfl (by decide) ?_
  refine a_icmp_ge 59 33 hC dX9_undo_30 (by decide) rfl (fun c3 => ?_) (fun c3 => ?_)
  · have h := ifp c3 h
    obtain rfl := Option.some.inj h
    refine a_lv [0] [(0, .ref (a 0))] rfl ?_
    exact hk
  · have h := ifn c3 h
    refine a_aload_n 34 0 hC dX9_undo_33 rfl rfl rfl ?_
    refine a_get 37 0 7 1 hC inB_X9 rfl rfl (by decide) wq601 rfl rfl dX9_undo_34 rfl ?_
    refine a_iload_n 38 1 hC dX9_undo_37 rfl rfl rfl ?_
    refine a_aload_n 39 0 hC dX9_undo_38 rfl rfl rfl ?_
    refine a_get 42 0 7 2 hC inB_X9 rfl rfl (by decide) wq602 rfl rfl dX9_undo_39 rfl ?_
    refine a_bipush 44 (v := (95 : Int32)) hC dX9_undo_42 rfl (by decide) ?_
    refine a_aload_n 45 0 hC dX9_undo_44 rfl rfl rfl ?_
    refine a_get 48 0 7 3 hC inB_X9 rfl rfl (by decide) wq603 rfl rfl dX9_undo_45 rfl ?_
    refine a_imul 49 hC dX9_undo_48 rfl ?_
    refine a_iload_n 50 1 hC dX9_undo_49 rfl rfl rfl ?_
    refine a_iadd 51 hC dX9_undo_50 rfl ?_
    obtain ⟨n4, h⟩ := gdx h
    refine a_iald 52 2 hC rfl n4 dX9_undo_51 rfl ?_
    obtain ⟨v5, ev5, h⟩ := nmx h
    refine a_nm ev5 ?_
    obtain ⟨n7, h⟩ := gdx h
    obtain ⟨sq6, esq6, h⟩ := nmx h
    refine a_iast 53 1 (mdW X.2.2.2.2 a thrown sq6 past undos kept isk seen sn sf) hC rfl n7 dX9_undo_52 rfl (by rw [esq6]; rfl) ?_
    obtain ⟨v8, ev8, h⟩ := nmx h
    refine a_iinc 56 1 [(0, .ref (a 0)), (1, .int v8)] [1, 0] hC dX9_undo_53 rfl rfl (v := v8) (by rw [ev8]; rfl) (by decide) rfl ?_
    refine a_goto 27 hC dX9_undo_56 (by decide) ?_
    obtain rfl := Option.some.inj h
    exact hk
def f_X9_undo (thrown : Int32) (s : Nat → Int32) (past : Nat → Int32) (undos : Int32) : Option ((Int32) × (Int32) × (Nat → Int32) × (Int32)) := (if undos = (0 : Int32) then (some ((-2 : Int32), (0 : Int32), s, undos)) else (nm (undos - (1 : Int32)) fun v2 => ((lp (fb_X9_undo_27 (0 : Int32) past v2) 100000 ((0 : Int32), s)).bind fun r9 => (some (v2, (0 : Int32), r9, v2)))))
set_option maxRecDepth 100000 in
set_option maxHeartbeats 4000000 in
theorem t_X9_undo {X : qX} (hC : Ok X rm_X9_undo cX9_undo 2 RX9 (some .int)) (a : Nat → Nat) (thrown : Int32) (s : Nat → Int32) (past : Nat → Int32) (undos : Int32) (kept : Nat → Int32) (isk : Nat → Int32) (seen : Int32) (sn : Nat → Int32) (sf : Nat → Int32) (res : (Int32) × (Int32) × (Nat → Int32) × (Int32)) (hR : Rt X 0 0 (fun r w => r = some (.int res.1) ∧ w = (mdW X.2.2.2.2 a res.2.1 res.2.2.1 past res.2.2.2 kept isk seen sn sf))) (h : f_X9_undo thrown s past undos = some res) : At X 0 0 0 (mdW X.2.2.2.2 a thrown s past undos kept isk seen sn sf) [(0, .ref (a 0))] [] := by
  unfold f_X9_undo at h
  refine a_aload_n 1 0 hC dX9_undo_0 rfl rfl rfl ?_
  refine a_iconst 2 (v := (0 : Int32)) hC dX9_undo_1 rfl (by decide) ?_
  refine a_put 5 0 7 0 (mdW X.2.2.2.2 a (0 : Int32) s past undos kept isk seen sn sf) tyX9 hC inB_X9 tyX9_ok nmX9 rfl rfl (by decide) wq600 rfl rfl rfl rfl rfl (Nat.le_of_ble_eq_true rfl) dX9_undo_2 rfl rfl ?_
  refine a_aload_n 6 0 hC dX9_undo_5 rfl rfl rfl ?_
  refine a_get 9 0 7 3 hC inB_X9 rfl rfl (by decide) wq603 rfl rfl dX9_undo_6 rfl ?_
  refine a_if_ne 15 12 hC dX9_undo_9 (by decide) rfl (fun c1 => ?_) (fun c1 => ?_)
  · have h := ifn c1 h
    refine a_aload_n 16 0 hC dX9_undo_15 rfl rfl rfl ?_
    refine a_dup 17 hC dX9_undo_16 rfl rfl ?_
    refine a_get 20 0 7 3 hC inB_X9 rfl rfl (by decide) wq603 rfl rfl dX9_undo_17 rfl ?_
    refine a_iconst 21 (v := (1 : Int32)) hC dX9_undo_20 rfl (by decide) ?_
    refine a_isub 22 hC dX9_undo_21 rfl ?_
    obtain ⟨v2, ev2, h⟩ := nmx h
    refine a_nm ev2 ?_
    refine a_put 25 0 7 3 (mdW X.2.2.2.2 a (0 : Int32) s past v2 kept isk seen sn sf) tyX9 hC inB_X9 tyX9_ok nmX9 rfl rfl (by decide) wq603 rfl rfl rfl rfl rfl (Nat.le_of_ble_eq_true rfl) dX9_undo_22 rfl rfl ?_
    refine a_iconst 26 (v := (0 : Int32)) hC dX9_undo_25 rfl (by decide) ?_
    refine a_istore_n 27 [(0, .ref (a 0)), (1, .int (0 : Int32))] [1, 0] hC dX9_undo_26 rfl rfl (by decide) rfl ?_
    obtain ⟨r9, gr9, h⟩ := bd h
    refine lp_walk (Wh := (fun (u27 : ((Int32) × (Nat → Int32))) => At X 0 0 27 (mdW X.2.2.2.2 a (0 : Int32) u27.2 past v2 kept isk seen sn sf) [(0, .ref (a 0)), (1, .int u27.1)] [])) (We := (fun (u27 : (Nat → Int32)) => At X 0 0 59 (mdW X.2.2.2.2 a (0 : Int32) u27 past v2 kept isk seen sn sf) [(0, .ref (a 0))] [])) (fun u9 o9 hb9 hk9 => tb_X9_undo_27 hC a (0 : Int32) past v2 kept isk seen sn sf u9 o9 hb9 hk9) 100000 ((0 : Int32), s) r9 gr9 ?_
    show At X 0 0 59 (mdW X.2.2.2.2 a (0 : Int32) r9 past v2 kept isk seen sn sf) [(0, .ref (a 0))] []
    refine a_aload_n 60 0 hC dX9_undo_59 rfl rfl rfl ?_
    refine a_get 63 0 7 3 hC inB_X9 rfl rfl (by decide) wq603 rfl rfl dX9_undo_60 rfl ?_
    obtain rfl := Option.some.inj h
    exact a_iret hC hR ⟨rfl, rfl⟩ (Nat.le_refl _) (Nat.le_refl _) dX9_undo_63
  · have h := ifp c1 h
    refine a_bipush 14 (v := (-2 : Int32)) hC dX9_undo_12 rfl (by decide) ?_
    obtain rfl := Option.some.inj h
    exact a_iret hC hR ⟨rfl, rfl⟩ (Nat.le_refl _) (Nat.le_refl _) dX9_undo_14
theorem c_X9_undo (l : Launch) (D : va_G) (z : ClassId × ClassId × ClassId) (a : Nat → Nat) (thrown : Int32) (s : Nat → Int32) (past : Nat → Int32) (undos : Int32) (kept : Nat → Int32) (isk : Nat → Int32) (seen : Int32) (sn : Nat → Int32) (sf : Nat → Int32) (res : (Int32) × (Int32) × (Nat → Int32) × (Int32)) (h : f_X9_undo thrown s past undos = some res) : Ct l D z yX9_undo cX9_undo 2 (some .int) rm_X9_undo [.ref (a 0)] (mdW z a thrown s past undos kept isk seen sn sf) (fun r w => r = some (.int res.1) ∧ w = (mdW z a res.2.1 res.2.2.1 past res.2.2.2 kept isk seen sn sf)) := by
  refine Ct.of (by decide +kernel) (Nat.le_of_ble_eq_true rfl) (fun X hC hl hz hn hR => ?_)
  have hz1 : X.2.2.2.2 = z := by rw [hz]
  subst hz1
  exact t_X9_undo hC a thrown s past undos kept isk seen sn sf res hR h

/-! X9_sees -/
abbrev rm_X9_sees : Room := { frames := 1, cells := 0, slots := 0, locals := 22 }
theorem ds_X9_sees : yX9_sees.cls ≠ "java/lang/invoke/MethodHandle" ∧ yX9_sees.cls ≠ "java/lang/invoke/VarHandle" ∧ (parseMethodDescriptor yX9_sees.desc).map (fun d => d.parameters.length) = some 2 := by decide +kernel
def f_X9_sees_27 (x1 : Int32) (x2 : Int32) (thrown : Int32) (seen : Int32) (sn : Nat → Int32) (sf : Nat → Int32) : Option ((Int32) × (Int32) × (Int32) × (Nat → Int32) × (Nat → Int32)) := (if seen = (6 : Int32) then (some ((-3 : Int32), thrown, seen, sn, sf)) else (gd seen 6 (nm (upd sn (Int32.toNatClampNeg seen) x1) fun snq5 => (gd seen 6 (nm (upd sf (Int32.toNatClampNeg seen) x2) fun sfq7 => (nm (seen + (1 : Int32)) fun v9 => (some (v9, thrown, v9, snq5, sfq7))))))))
set_option maxRecDepth 100000 in
set_option maxHeartbeats 4000000 in
theorem t_X9_sees_27 {X : qX} (hC : Ok X rm_X9_sees cX9_sees 3 RX9 (some .int)) (a : Nat → Nat) (x1 : Int32) (x2 : Int32) (thrown : Int32) (s : Nat → Int32) (past : Nat → Int32) (undos : Int32) (kept : Nat → Int32) (isk : Nat → Int32) (seen : Int32) (sn : Nat → Int32) (sf : Nat → Int32) (res : (Int32) × (Int32) × (Int32) × (Nat → Int32) × (Nat → Int32)) (hR : Rt X 0 0 (fun r w => r = some (.int res.1) ∧ w = (mdW X.2.2.2.2 a res.2.1 s past undos kept isk res.2.2.1 res.2.2.2.1 res.2.2.2.2))) (h : f_X9_sees_27 x1 x2 thrown seen sn sf = some res) : At X 0 0 27 (mdW X.2.2.2.2 a thrown s past undos kept isk seen sn sf) [(0, .ref (a 0)), (1, .int x1), (2, .int x2)] [] := by
  unfold f_X9_sees_27 at h
  refine a_aload_n 28 0 hC dX9_sees_27 rfl rfl rfl ?_
  refine a_get 31 0 7 6 hC inB_X9 rfl rfl (by decide) wq606 rfl rfl dX9_sees_28 rfl ?_
  refine a_bipush 33 (v := (6 : Int32)) hC dX9_sees_31 rfl (by decide) ?_
  refine a_icmp_ne 39 36 hC dX9_sees_33 (by decide) rfl (fun c4 => ?_) (fun c4 => ?_)
  · have h := ifn c4 h
    refine a_aload_n 40 0 hC dX9_sees_39 rfl rfl rfl ?_
    refine a_get 43 0 7 7 hC inB_X9 rfl rfl (by decide) wq607 rfl rfl dX9_sees_40 rfl ?_
    refine a_aload_n 44 0 hC dX9_sees_43 rfl rfl rfl ?_
    refine a_get 47 0 7 6 hC inB_X9 rfl rfl (by decide) wq606 rfl rfl dX9_sees_44 rfl ?_
    refine a_iload_n 48 1 hC dX9_sees_47 rfl rfl rfl ?_
    obtain ⟨n6, h⟩ := gdx h
    obtain ⟨snq5, esnq5, h⟩ := nmx h
    refine a_iast 49 5 (mdW X.2.2.2.2 a thrown s past undos kept isk seen snq5 sf) hC rfl n6 dX9_sees_48 rfl (by rw [esnq5]; rfl) ?_
    refine a_aload_n 50 0 hC dX9_sees_49 rfl rfl rfl ?_
    refine a_get 53 0 7 8 hC inB_X9 rfl rfl (by decide) wq608 rfl rfl dX9_sees_50 rfl ?_
    refine a_aload_n 54 0 hC dX9_sees_53 rfl rfl rfl ?_
    refine a_get 57 0 7 6 hC inB_X9 rfl rfl (by decide) wq606 rfl rfl dX9_sees_54 rfl ?_
    refine a_iload_n 58 2 hC dX9_sees_57 rfl rfl rfl ?_
    obtain ⟨n8, h⟩ := gdx h
    obtain ⟨sfq7, esfq7, h⟩ := nmx h
    refine a_iast 59 6 (mdW X.2.2.2.2 a thrown s past undos kept isk seen snq5 sfq7) hC rfl n8 dX9_sees_58 rfl (by rw [esfq7]; rfl) ?_
    refine a_aload_n 60 0 hC dX9_sees_59 rfl rfl rfl ?_
    refine a_dup 61 hC dX9_sees_60 rfl rfl ?_
    refine a_get 64 0 7 6 hC inB_X9 rfl rfl (by decide) wq606 rfl rfl dX9_sees_61 rfl ?_
    refine a_iconst 65 (v := (1 : Int32)) hC dX9_sees_64 rfl (by decide) ?_
    refine a_iadd 66 hC dX9_sees_65 rfl ?_
    obtain ⟨v9, ev9, h⟩ := nmx h
    refine a_nm ev9 ?_
    refine a_put 69 0 7 6 (mdW X.2.2.2.2 a thrown s past undos kept isk v9 snq5 sfq7) tyX9 hC inB_X9 tyX9_ok nmX9 rfl rfl (by decide) wq606 rfl rfl rfl rfl rfl (Nat.le_of_ble_eq_true rfl) dX9_sees_66 rfl rfl ?_
    refine a_aload_n 70 0 hC dX9_sees_69 rfl rfl rfl ?_
    refine a_get 73 0 7 6 hC inB_X9 rfl rfl (by decide) wq606 rfl rfl dX9_sees_70 rfl ?_
    obtain rfl := Option.some.inj h
    exact a_iret hC hR ⟨rfl, rfl⟩ (Nat.le_refl _) (Nat.le_refl _) dX9_sees_73
  · have h := ifp c4 h
    refine a_bipush 38 (v := (-3 : Int32)) hC dX9_sees_36 rfl (by decide) ?_
    obtain rfl := Option.some.inj h
    exact a_iret hC hR ⟨rfl, rfl⟩ (Nat.le_refl _) (Nat.le_refl _) dX9_sees_38
def f_X9_sees (x1 : Int32) (x2 : Int32) (thrown : Int32) (seen : Int32) (sn : Nat → Int32) (sf : Nat → Int32) : Option ((Int32) × (Int32) × (Int32) × (Nat → Int32) × (Nat → Int32)) := ((f_X9_in x1 (0 : Int32) (23595999 : Int32)).bind fun r1 => (if r1 = (0 : Int32) then (some ((-1 : Int32), (0 : Int32), seen, sn, sf)) else (if (0 : Int32) ≤ x2 then (f_X9_sees_27 x1 x2 (0 : Int32) seen sn sf) else (if x2 = (-9 : Int32) then (f_X9_sees_27 x1 x2 (0 : Int32) seen sn sf) else (some ((-1 : Int32), (0 : Int32), seen, sn, sf))))))
set_option maxRecDepth 100000 in
set_option maxHeartbeats 4000000 in
theorem t_X9_sees {X : qX} (hC : Ok X rm_X9_sees cX9_sees 3 RX9 (some .int)) (a : Nat → Nat) (x1 : Int32) (x2 : Int32) (thrown : Int32) (s : Nat → Int32) (past : Nat → Int32) (undos : Int32) (kept : Nat → Int32) (isk : Nat → Int32) (seen : Int32) (sn : Nat → Int32) (sf : Nat → Int32) (res : (Int32) × (Int32) × (Int32) × (Nat → Int32) × (Nat → Int32)) (hR : Rt X 0 0 (fun r w => r = some (.int res.1) ∧ w = (mdW X.2.2.2.2 a res.2.1 s past undos kept isk res.2.2.1 res.2.2.2.1 res.2.2.2.2))) (h : f_X9_sees x1 x2 thrown seen sn sf = some res) : At X 0 0 0 (mdW X.2.2.2.2 a thrown s past undos kept isk seen sn sf) [(0, .ref (a 0)), (1, .int x1), (2, .int x2)] [] := by
  unfold f_X9_sees at h
  refine a_aload_n 1 0 hC dX9_sees_0 rfl rfl rfl ?_
  refine a_iconst 2 (v := (0 : Int32)) hC dX9_sees_1 rfl (by decide) ?_
  refine a_put 5 0 7 0 (mdW X.2.2.2.2 a (0 : Int32) s past undos kept isk seen sn sf) tyX9 hC inB_X9 tyX9_ok nmX9 rfl rfl (by decide) wq600 rfl rfl rfl rfl rfl (Nat.le_of_ble_eq_true rfl) dX9_sees_2 rfl rfl ?_
  refine a_iload_n 6 1 hC dX9_sees_5 rfl rfl rfl ?_
  refine a_iconst 7 (v := (0 : Int32)) hC dX9_sees_6 rfl (by decide) ?_
  refine a_ldc 9 (v := (23595999 : Int32)) hC wq663 dX9_sees_7 rfl ?_
  obtain ⟨r1, gr1, h⟩ := bd h
  refine a_call0 12 [.int x1, .int (0 : Int32), .int (23595999 : Int32)] [] (.int r1) hC (c_X9_in X.1.2.1 X.2.2.2.1 X.2.2.2.2 x1 (0 : Int32) (23595999 : Int32) r1 gr1) ⟨wq649, wq30, wq651, ds_X9_in, by decide, by decide⟩ wq650 rfl rfl (Nat.le_of_ble_eq_true rfl) dX9_sees_9 rfl rfl rfl ⟨(Nat.le_refl _), (Nat.le_refl _)⟩ ?_
  refine a_if_eq 25 15 hC dX9_sees_12 (by decide) rfl (fun c2 => ?_) (fun c2 => ?_)
  · have h := ifp c2 h
    refine a_iconst 26 (v := (-1 : Int32)) hC dX9_sees_25 rfl (by decide) ?_
    obtain rfl := Option.some.inj h
    exact a_iret hC hR ⟨rfl, rfl⟩ (Nat.le_refl _) (Nat.le_refl _) dX9_sees_26
  · have h := ifn c2 h
    refine a_iload_n 16 2 hC dX9_sees_15 rfl rfl rfl ?_
    refine a_if_ge 27 19 hC dX9_sees_16 (by decide) rfl (fun c3 => ?_) (fun c3 => ?_)
    · have h := ifp c3 h
      exact t_X9_sees_27 hC a x1 x2 (0 : Int32) s past undos kept isk seen sn sf res hR h
    · have h := ifn c3 h
      refine a_iload_n 20 2 hC dX9_sees_19 rfl rfl rfl ?_
      refine a_bipush 22 (v := (-9 : Int32)) hC dX9_sees_20 rfl (by decide) ?_
      refine a_icmp_eq 27 25 hC dX9_sees_22 (by decide) rfl (fun c10 => ?_) (fun c10 => ?_)
      · have h := ifp c10 h
        exact t_X9_sees_27 hC a x1 x2 (0 : Int32) s past undos kept isk seen sn sf res hR h
      · have h := ifn c10 h
        refine a_iconst 26 (v := (-1 : Int32)) hC dX9_sees_25 rfl (by decide) ?_
        obtain rfl := Option.some.inj h
        exact a_iret hC hR ⟨rfl, rfl⟩ (Nat.le_refl _) (Nat.le_refl _) dX9_sees_26
theorem c_X9_sees (l : Launch) (D : va_G) (z : ClassId × ClassId × ClassId) (a : Nat → Nat) (x1 : Int32) (x2 : Int32) (thrown : Int32) (s : Nat → Int32) (past : Nat → Int32) (undos : Int32) (kept : Nat → Int32) (isk : Nat → Int32) (seen : Int32) (sn : Nat → Int32) (sf : Nat → Int32) (res : (Int32) × (Int32) × (Int32) × (Nat → Int32) × (Nat → Int32)) (h : f_X9_sees x1 x2 thrown seen sn sf = some res) : Ct l D z yX9_sees cX9_sees 3 (some .int) rm_X9_sees [.ref (a 0), .int x1, .int x2] (mdW z a thrown s past undos kept isk seen sn sf) (fun r w => r = some (.int res.1) ∧ w = (mdW z a res.2.1 s past undos kept isk res.2.2.1 res.2.2.2.1 res.2.2.2.2)) := by
  refine Ct.of (by decide +kernel) (Nat.le_of_ble_eq_true rfl) (fun X hC hl hz hn hR => ?_)
  have hz1 : X.2.2.2.2 = z := by rw [hz]
  subst hz1
  exact t_X9_sees hC a x1 x2 thrown s past undos kept isk seen sn sf res hR h

/-! X9_forget -/
abbrev rm_X9_forget : Room := { frames := 0, cells := 0, slots := 0, locals := 0 }
theorem ds_X9_forget : yX9_forget.cls ≠ "java/lang/invoke/MethodHandle" ∧ yX9_forget.cls ≠ "java/lang/invoke/VarHandle" ∧ (parseMethodDescriptor yX9_forget.desc).map (fun d => d.parameters.length) = some 0 := by decide +kernel
def f_X9_forget (thrown : Int32) (seen : Int32) : Option ((Int32) × (Int32) × (Int32)) := (some (seen, (0 : Int32), (0 : Int32)))
set_option maxRecDepth 100000 in
set_option maxHeartbeats 4000000 in
theorem t_X9_forget {X : qX} (hC : Ok X rm_X9_forget cX9_forget 2 RX9 (some .int)) (a : Nat → Nat) (thrown : Int32) (s : Nat → Int32) (past : Nat → Int32) (undos : Int32) (kept : Nat → Int32) (isk : Nat → Int32) (seen : Int32) (sn : Nat → Int32) (sf : Nat → Int32) (res : (Int32) × (Int32) × (Int32)) (hR : Rt X 0 0 (fun r w => r = some (.int res.1) ∧ w = (mdW X.2.2.2.2 a res.2.1 s past undos kept isk res.2.2 sn sf))) (h : f_X9_forget thrown seen = some res) : At X 0 0 0 (mdW X.2.2.2.2 a thrown s past undos kept isk seen sn sf) [(0, .ref (a 0))] [] := by
  unfold f_X9_forget at h
  refine a_aload_n 1 0 hC dX9_forget_0 rfl rfl rfl ?_
  refine a_iconst 2 (v := (0 : Int32)) hC dX9_forget_1 rfl (by decide) ?_
  refine a_put 5 0 7 0 (mdW X.2.2.2.2 a (0 : Int32) s past undos kept isk seen sn sf) tyX9 hC inB_X9 tyX9_ok nmX9 rfl rfl (by decide) wq600 rfl rfl rfl rfl rfl (Nat.le_of_ble_eq_true rfl) dX9_forget_2 rfl rfl ?_
  refine a_aload_n 6 0 hC dX9_forget_5 rfl rfl rfl ?_
  refine a_get 9 0 7 6 hC inB_X9 rfl rfl (by decide) wq606 rfl rfl dX9_forget_6 rfl ?_
  refine a_istore_n 10 [(0, .ref (a 0)), (1, .int seen)] [1, 0] hC dX9_forget_9 rfl rfl (by decide) rfl ?_
  refine a_aload_n 11 0 hC dX9_forget_10 rfl rfl rfl ?_
  refine a_iconst 12 (v := (0 : Int32)) hC dX9_forget_11 rfl (by decide) ?_
  refine a_put 15 0 7 6 (mdW X.2.2.2.2 a (0 : Int32) s past undos kept isk (0 : Int32) sn sf) tyX9 hC inB_X9 tyX9_ok nmX9 rfl rfl (by decide) wq606 rfl rfl rfl rfl rfl (Nat.le_of_ble_eq_true rfl) dX9_forget_12 rfl rfl ?_
  refine a_iload_n 16 1 hC dX9_forget_15 rfl rfl rfl ?_
  obtain rfl := Option.some.inj h
  exact a_iret hC hR ⟨rfl, rfl⟩ (Nat.le_refl _) (Nat.le_refl _) dX9_forget_16
theorem c_X9_forget (l : Launch) (D : va_G) (z : ClassId × ClassId × ClassId) (a : Nat → Nat) (thrown : Int32) (s : Nat → Int32) (past : Nat → Int32) (undos : Int32) (kept : Nat → Int32) (isk : Nat → Int32) (seen : Int32) (sn : Nat → Int32) (sf : Nat → Int32) (res : (Int32) × (Int32) × (Int32)) (h : f_X9_forget thrown seen = some res) : Ct l D z yX9_forget cX9_forget 2 (some .int) rm_X9_forget [.ref (a 0)] (mdW z a thrown s past undos kept isk seen sn sf) (fun r w => r = some (.int res.1) ∧ w = (mdW z a res.2.1 s past undos kept isk res.2.2 sn sf)) := by
  refine Ct.of (by decide +kernel) (Nat.le_of_ble_eq_true rfl) (fun X hC hl hz hn hR => ?_)
  have hz1 : X.2.2.2.2 = z := by rw [hz]
  subst hz1
  exact t_X9_forget hC a thrown s past undos kept isk seen sn sf res hR h

/-! X9_unseen -/
abbrev rm_X9_unseen : Room := { frames := 2, cells := 0, slots := 0, locals := 47 }
theorem ds_X9_unseen : yX9_unseen.cls ≠ "java/lang/invoke/MethodHandle" ∧ yX9_unseen.cls ≠ "java/lang/invoke/VarHandle" ∧ (parseMethodDescriptor yX9_unseen.desc).map (fun d => d.parameters.length) = some 0 := by decide +kernel
def f_X9_unseen_58 (x1 : Int32) (x2 : Int32) (thrown : Int32) (seen : Int32) (sn : Nat → Int32) (sf : Nat → Int32) (v4 : Int32) (y0 : Int32) : Option (((Int32) × (Int32)) ⊕ ((Int32))) := (nm (v4 + (1 : Int32)) fun v4 => (some (.inl (y0, v4))))
set_option maxRecDepth 100000 in
set_option maxHeartbeats 4000000 in
theorem t_X9_unseen_58 {X : qX} (hC : Ok X rm_X9_unseen cX9_unseen 5 RX9 (some .int)) (a : Nat → Nat) (x1 : Int32) (x2 : Int32) (thrown : Int32) (s : Nat → Int32) (past : Nat → Int32) (undos : Int32) (kept : Nat → Int32) (isk : Nat → Int32) (seen : Int32) (sn : Nat → Int32) (sf : Nat → Int32) (v4 : Int32) (y0 : Int32) (o : (((Int32) × (Int32))) ⊕ (((Int32)))) (h : f_X9_unseen_58 x1 x2 thrown seen sn sf v4 y0 = some o) (hk : Sum.elim (fun (w : ((Int32) × (Int32))) => At X 0 0 19 (mdW X.2.2.2.2 a thrown s past undos kept isk seen sn sf) [(0, .ref (a 0)), (1, .int x1), (2, .int x2), (3, .int w.1), (4, .int w.2)] []) (fun (w : (Int32)) => At X 0 0 65 (mdW X.2.2.2.2 a thrown s past undos kept isk seen sn sf) [(0, .ref (a 0)), (1, .int x1), (2, .int x2), (3, .int w)] []) o) : At X 0 0 58 (mdW X.2.2.2.2 a thrown s past undos kept isk seen sn sf) [(0, .ref (a 0)), (1, .int x1), (2, .int x2), (4, .int v4)] [.int y0] := by
  unfold f_X9_unseen_58 at h
  refine a_istore_n 59 [(0, .ref (a 0)), (1, .int x1), (2, .int x2), (3, .int y0), (4, .int v4)] [1, 2, 3, 0, 4] hC dX9_unseen_58 rfl rfl (by decide) rfl ?_
  obtain ⟨v4, ev4, h⟩ := nmx h
  refine a_iinc 62 4 [(0, .ref (a 0)), (1, .int x1), (2, .int x2), (3, .int y0), (4, .int v4)] [1, 2, 3, 4, 0] hC dX9_unseen_59 rfl rfl (v := v4) (by rw [ev4]; rfl) (by decide) rfl ?_
  refine a_goto 19 hC dX9_unseen_62 (by decide) ?_
  obtain rfl := Option.some.inj h
  exact hk
def f_X9_unseen_57 (x1 : Int32) (x2 : Int32) (thrown : Int32) (seen : Int32) (sn : Nat → Int32) (sf : Nat → Int32) (v4 : Int32) : Option (((Int32) × (Int32)) ⊕ ((Int32))) := (f_X9_unseen_58 x1 x2 thrown seen sn sf v4 (0 : Int32))
set_option maxRecDepth 100000 in
set_option maxHeartbeats 4000000 in
theorem t_X9_unseen_57 {X : qX} (hC : Ok X rm_X9_unseen cX9_unseen 5 RX9 (some .int)) (a : Nat → Nat) (x1 : Int32) (x2 : Int32) (thrown : Int32) (s : Nat → Int32) (past : Nat → Int32) (undos : Int32) (kept : Nat → Int32) (isk : Nat → Int32) (seen : Int32) (sn : Nat → Int32) (sf : Nat → Int32) (v4 : Int32) (o : (((Int32) × (Int32))) ⊕ (((Int32)))) (h : f_X9_unseen_57 x1 x2 thrown seen sn sf v4 = some o) (hk : Sum.elim (fun (w : ((Int32) × (Int32))) => At X 0 0 19 (mdW X.2.2.2.2 a thrown s past undos kept isk seen sn sf) [(0, .ref (a 0)), (1, .int x1), (2, .int x2), (3, .int w.1), (4, .int w.2)] []) (fun (w : (Int32)) => At X 0 0 65 (mdW X.2.2.2.2 a thrown s past undos kept isk seen sn sf) [(0, .ref (a 0)), (1, .int x1), (2, .int x2), (3, .int w)] []) o) : At X 0 0 57 (mdW X.2.2.2.2 a thrown s past undos kept isk seen sn sf) [(0, .ref (a 0)), (1, .int x1), (2, .int x2), (4, .int v4)] [] := by
  unfold f_X9_unseen_57 at h
  refine a_iconst 58 (v := (0 : Int32)) hC dX9_unseen_57 rfl (by decide) ?_
  exact t_X9_unseen_58 hC a x1 x2 thrown s past undos kept isk seen sn sf v4 (0 : Int32) o h hk
def fb_X9_unseen_19 (x1 : Int32) (x2 : Int32) (thrown : Int32) (seen : Int32) (sn : Nat → Int32) (sf : Nat → Int32) (w : ((Int32) × (Int32))) : Option (((Int32) × (Int32)) ⊕ ((Int32))) := (if seen ≤ w.2 then (some (.inr w.1)) else (if w.1 = (0 : Int32) then (f_X9_unseen_57 x1 x2 thrown seen sn sf w.2) else (gd w.2 6 ((f_X9_frameOf x2 (sn (Int32.toNatClampNeg w.2))).bind fun r6 => (gd w.2 6 (if r6 = (sf (Int32.toNatClampNeg w.2)) then (f_X9_unseen_58 x1 x2 thrown seen sn sf w.2 (1 : Int32)) else (f_X9_unseen_57 x1 x2 thrown seen sn sf w.2)))))))
set_option maxRecDepth 100000 in
set_option maxHeartbeats 4000000 in
theorem tb_X9_unseen_19 {X : qX} (hC : Ok X rm_X9_unseen cX9_unseen 5 RX9 (some .int)) (a : Nat → Nat) (x1 : Int32) (x2 : Int32) (thrown : Int32) (s : Nat → Int32) (past : Nat → Int32) (undos : Int32) (kept : Nat → Int32) (isk : Nat → Int32) (seen : Int32) (sn : Nat → Int32) (sf : Nat → Int32) (w : ((Int32) × (Int32))) (o : ((Int32) × (Int32)) ⊕ (((Int32)))) (h : fb_X9_unseen_19 x1 x2 thrown seen sn sf w = some o) (hk : Sum.elim (fun (w : ((Int32) × (Int32))) => At X 0 0 19 (mdW X.2.2.2.2 a thrown s past undos kept isk seen sn sf) [(0, .ref (a 0)), (1, .int x1), (2, .int x2), (3, .int w.1), (4, .int w.2)] []) (fun (w : (Int32)) => At X 0 0 65 (mdW X.2.2.2.2 a thrown s past undos kept isk seen sn sf) [(0, .ref (a 0)), (1, .int x1), (2, .int x2), (3, .int w)] []) o) : At X 0 0 19 (mdW X.2.2.2.2 a thrown s past undos kept isk seen sn sf) [(0, .ref (a 0)), (1, .int x1), (2, .int x2), (3, .int w.1), (4, .int w.2)] [] := by
  unfold fb_X9_unseen_19 at h
  refine a_iload 21 4 hC dX9_unseen_19 rfl rfl ?_
  refine a_aload_n 22 0 hC dX9_unseen_21 rfl rfl rfl ?_
  refine a_get 25 0 7 6 hC inB_X9 rfl rfl (by decide) wq606 rfl rfl dX9_unseen_22 rfl ?_
  refine a_icmp_ge 65 28 hC dX9_unseen_25 (by decide) rfl (fun c2 => ?_) (fun c2 => ?_)
  · have h := ifp c2 h
    obtain rfl := Option.some.inj h
    refine a_lv [0, 1, 2, 3] [(0, .ref (a 0)), (1, .int x1), (2, .int x2), (3, .int w.1)] rfl ?_
    exact hk
  · have h := ifn c2 h
    refine a_iload_n 29 3 hC dX9_unseen_28 rfl rfl rfl ?_
    refine a_if_eq 57 32 hC dX9_unseen_29 (by decide) rfl (fun c3 => ?_) (fun c3 => ?_)
    · have h := ifp c3 h
      refine a_lv [0, 1, 2, 4] [(0, .ref (a 0)), (1, .int x1), (2, .int x2), (4, .int w.2)] rfl ?_
      exact t_X9_unseen_57 hC a x1 x2 thrown s past undos kept isk seen sn sf w.2 o h hk
    · have h := ifn c3 h
      refine a_iload_n 33 2 hC dX9_unseen_32 rfl rfl rfl ?_
      refine a_aload_n 34 0 hC dX9_unseen_33 rfl rfl rfl ?_
      refine a_get 37 0 7 7 hC inB_X9 rfl rfl (by decide) wq607 rfl rfl dX9_unseen_34 rfl ?_
      refine a_iload 39 4 hC dX9_unseen_37 rfl rfl ?_
      obtain ⟨n5, h⟩ := gdx h
      refine a_iald 40 5 hC rfl n5 dX9_unseen_39 rfl ?_
      obtain ⟨r6, gr6, h⟩ := bd h
      refine a_call0 43 [.int x2, .int (sn (Int32.toNatClampNeg w.2))] [] (.int r6) hC (c_X9_frameOf X.1.2.1 X.2.2.2.1 X.2.2.2.2 x2 (sn (Int32.toNatClampNeg w.2)) r6 gr6) ⟨wq664, wq30, wq666, ds_X9_frameOf, by decide, by decide⟩ wq665 rfl rfl (Nat.le_of_ble_eq_true rfl) dX9_unseen_40 rfl rfl rfl ⟨(Nat.le_refl _), (Nat.le_refl _)⟩ ?_
      refine a_aload_n 44 0 hC dX9_unseen_43 rfl rfl rfl ?_
      refine a_get 47 0 7 8 hC inB_X9 rfl rfl (by decide) wq608 rfl rfl dX9_unseen_44 rfl ?_
      refine a_iload 49 4 hC dX9_unseen_47 rfl rfl ?_
      obtain ⟨n7, h⟩ := gdx h
      refine a_iald 50 6 hC rfl n7 dX9_unseen_49 rfl ?_
      refine a_icmp_ne 57 53 hC dX9_unseen_50 (by decide) rfl (fun c8 => ?_) (fun c8 => ?_)
      · have h := ifn c8 h
        refine a_lv [0, 1, 2, 4] [(0, .ref (a 0)), (1, .int x1), (2, .int x2), (4, .int w.2)] rfl ?_
        exact t_X9_unseen_57 hC a x1 x2 thrown s past undos kept isk seen sn sf w.2 o h hk
      · have h := ifp c8 h
        refine a_iconst 54 (v := (1 : Int32)) hC dX9_unseen_53 rfl (by decide) ?_
        refine a_goto 58 hC dX9_unseen_54 (by decide) ?_
        refine a_lv [0, 1, 2, 4] [(0, .ref (a 0)), (1, .int x1), (2, .int x2), (4, .int w.2)] rfl ?_
        exact t_X9_unseen_58 hC a x1 x2 thrown s past undos kept isk seen sn sf w.2 (1 : Int32) o h hk
def f_X9_unseen_77 (thrown : Int32) (seen : Int32) (sn : Nat → Int32) (sf : Nat → Int32) (v2 : Int32) (y0 : Int32) (y1 : Int32) : Option (((Int32) × (Int32)) ⊕ ((Int32))) := (nm (y1 ||| y0) fun v11 => (nm (v2 + (1 : Int32)) fun v12 => (some (.inl (v11, v12)))))
set_option maxRecDepth 100000 in
set_option maxHeartbeats 4000000 in
theorem t_X9_unseen_77 {X : qX} (hC : Ok X rm_X9_unseen cX9_unseen 5 RX9 (some .int)) (a : Nat → Nat) (thrown : Int32) (s : Nat → Int32) (past : Nat → Int32) (undos : Int32) (kept : Nat → Int32) (isk : Nat → Int32) (seen : Int32) (sn : Nat → Int32) (sf : Nat → Int32) (v2 : Int32) (y0 : Int32) (y1 : Int32) (o : (((Int32) × (Int32))) ⊕ (((Int32)))) (h : f_X9_unseen_77 thrown seen sn sf v2 y0 y1 = some o) (hk : Sum.elim (fun (w : ((Int32) × (Int32))) => At X 0 0 9 (mdW X.2.2.2.2 a thrown s past undos kept isk seen sn sf) [(0, .ref (a 0)), (1, .int w.1), (2, .int w.2)] []) (fun (w : (Int32)) => At X 0 0 85 (mdW X.2.2.2.2 a thrown s past undos kept isk seen sn sf) [(1, .int w)] []) o) : At X 0 0 77 (mdW X.2.2.2.2 a thrown s past undos kept isk seen sn sf) [(0, .ref (a 0)), (2, .int v2)] [.int y0, .int y1] := by
  unfold f_X9_unseen_77 at h
  refine a_ior 78 hC dX9_unseen_77 rfl ?_
  obtain ⟨v11, ev11, h⟩ := nmx h
  refine a_nm ev11 ?_
  refine a_istore_n 79 [(0, .ref (a 0)), (1, .int v11), (2, .int v2)] [1, 0, 2] hC dX9_unseen_78 rfl rfl (by decide) rfl ?_
  obtain ⟨v12, ev12, h⟩ := nmx h
  refine a_iinc 82 2 [(0, .ref (a 0)), (1, .int v11), (2, .int v12)] [1, 2, 0] hC dX9_unseen_79 rfl rfl (v := v12) (by rw [ev12]; rfl) (by decide) rfl ?_
  refine a_goto 9 hC dX9_unseen_82 (by decide) ?_
  obtain rfl := Option.some.inj h
  exact hk
def fb_X9_unseen_9 (thrown : Int32) (seen : Int32) (sn : Nat → Int32) (sf : Nat → Int32) (w : ((Int32) × (Int32))) : Option (((Int32) × (Int32)) ⊕ ((Int32))) := (if (4 : Int32) ≤ w.2 then (some (.inr w.1)) else ((lp (fb_X9_unseen_19 w.1 w.2 thrown seen sn sf) 100000 ((1 : Int32), (0 : Int32))).bind fun r9 => (if r9 = (0 : Int32) then (f_X9_unseen_77 thrown seen sn sf w.2 (0 : Int32) w.1) else (f_X9_unseen_77 thrown seen sn sf w.2 ((1 : Int32) <<< (w.2 &&& 31)) w.1))))
set_option maxRecDepth 100000 in
set_option maxHeartbeats 4000000 in
theorem tb_X9_unseen_9 {X : qX} (hC : Ok X rm_X9_unseen cX9_unseen 5 RX9 (some .int)) (a : Nat → Nat) (thrown : Int32) (s : Nat → Int32) (past : Nat → Int32) (undos : Int32) (kept : Nat → Int32) (isk : Nat → Int32) (seen : Int32) (sn : Nat → Int32) (sf : Nat → Int32) (w : ((Int32) × (Int32))) (o : ((Int32) × (Int32)) ⊕ (((Int32)))) (h : fb_X9_unseen_9 thrown seen sn sf w = some o) (hk : Sum.elim (fun (w : ((Int32) × (Int32))) => At X 0 0 9 (mdW X.2.2.2.2 a thrown s past undos kept isk seen sn sf) [(0, .ref (a 0)), (1, .int w.1), (2, .int w.2)] []) (fun (w : (Int32)) => At X 0 0 85 (mdW X.2.2.2.2 a thrown s past undos kept isk seen sn sf) [(1, .int w)] []) o) : At X 0 0 9 (mdW X.2.2.2.2 a thrown s past undos kept isk seen sn sf) [(0, .ref (a 0)), (1, .int w.1), (2, .int w.2)] [] := by
  unfold fb_X9_unseen_9 at h
  refine a_iload_n 10 2 hC dX9_unseen_9 rfl rfl rfl ?_
  refine a_iconst 11 (v := (4 : Int32)) hC dX9_unseen_10 rfl (by decide) ?_
  refine a_icmp_ge 85 14 hC dX9_unseen_11 (by decide) rfl (fun c1 => ?_) (fun c1 => ?_)
  · have h := ifp c1 h
    obtain rfl := Option.some.inj h
    refine a_lv [1] [(1, .int w.1)] rfl ?_
    exact hk
  · have h := ifn c1 h
    refine a_iconst 15 (v := (1 : Int32)) hC dX9_unseen_14 rfl (by decide) ?_
    refine a_istore_n 16 [(0, .ref (a 0)), (1, .int w.1), (2, .int w.2), (3, .int (1 : Int32))] [1, 2, 3, 0] hC dX9_unseen_15 rfl rfl (by decide) rfl ?_
    refine a_iconst 17 (v := (0 : Int32)) hC dX9_unseen_16 rfl (by decide) ?_
    refine a_istore 19 [(0, .ref (a 0)), (1, .int w.1), (2, .int w.2), (3, .int (1 : Int32)), (4, .int (0 : Int32))] [1, 2, 3, 4, 0] hC dX9_unseen_17 rfl (by decide) rfl ?_
    obtain ⟨r9, gr9, h⟩ := bd h
    refine lp_walk (Wh := (fun (u19 : ((Int32) × (Int32))) => At X 0 0 19 (mdW X.2.2.2.2 a thrown s past undos kept isk seen sn sf) [(0, .ref (a 0)), (1, .int w.1), (2, .int w.2), (3, .int u19.1), (4, .int u19.2)] [])) (We := (fun (u19 : (Int32)) => At X 0 0 65 (mdW X.2.2.2.2 a thrown s past undos kept isk seen sn sf) [(0, .ref (a 0)), (1, .int w.1), (2, .int w.2), (3, .int u19)] [])) (fun u9 o9 hb9 hk9 => tb_X9_unseen_19 hC a w.1 w.2 thrown s past undos kept isk seen sn sf u9 o9 hb9 hk9) 100000 ((1 : Int32), (0 : Int32)) r9 gr9 ?_
    show At X 0 0 65 (mdW X.2.2.2.2 a thrown s past undos kept isk seen sn sf) [(0, .ref (a 0)), (1, .int w.1), (2, .int w.2), (3, .int r9)] []
    refine a_iload_n 66 1 hC dX9_unseen_65 rfl rfl rfl ?_
    refine a_iload_n 67 3 hC dX9_unseen_66 rfl rfl rfl ?_
    refine a_if_eq 76 70 hC dX9_unseen_67 (by decide) rfl (fun c10 => ?_) (fun c10 => ?_)
    · have h := ifp c10 h
      refine a_iconst 77 (v := (0 : Int32)) hC dX9_unseen_76 rfl (by decide) ?_
      refine a_lv [0, 2] [(0, .ref (a 0)), (2, .int w.2)] rfl ?_
      exact t_X9_unseen_77 hC a thrown s past undos kept isk seen sn sf w.2 (0 : Int32) w.1 o h hk
    · have h := ifn c10 h
      refine a_iconst 71 (v := (1 : Int32)) hC dX9_unseen_70 rfl (by decide) ?_
      refine a_iload_n 72 2 hC dX9_unseen_71 rfl rfl rfl ?_
      refine a_ishl 73 hC dX9_unseen_72 rfl ?_
      refine a_goto 77 hC dX9_unseen_73 (by decide) ?_
      refine a_lv [0, 2] [(0, .ref (a 0)), (2, .int w.2)] rfl ?_
      exact t_X9_unseen_77 hC a thrown s past undos kept isk seen sn sf w.2 ((1 : Int32) <<< (w.2 &&& 31)) w.1 o h hk
def f_X9_unseen (thrown : Int32) (seen : Int32) (sn : Nat → Int32) (sf : Nat → Int32) : Option ((Int32) × (Int32)) := ((lp (fb_X9_unseen_9 (0 : Int32) seen sn sf) 100000 ((0 : Int32), (0 : Int32))).bind fun r13 => (some (r13, (0 : Int32))))
set_option maxRecDepth 100000 in
set_option maxHeartbeats 4000000 in
theorem t_X9_unseen {X : qX} (hC : Ok X rm_X9_unseen cX9_unseen 5 RX9 (some .int)) (a : Nat → Nat) (thrown : Int32) (s : Nat → Int32) (past : Nat → Int32) (undos : Int32) (kept : Nat → Int32) (isk : Nat → Int32) (seen : Int32) (sn : Nat → Int32) (sf : Nat → Int32) (res : (Int32) × (Int32)) (hR : Rt X 0 0 (fun r w => r = some (.int res.1) ∧ w = (mdW X.2.2.2.2 a res.2 s past undos kept isk seen sn sf))) (h : f_X9_unseen thrown seen sn sf = some res) : At X 0 0 0 (mdW X.2.2.2.2 a thrown s past undos kept isk seen sn sf) [(0, .ref (a 0))] [] := by
  unfold f_X9_unseen at h
  refine a_aload_n 1 0 hC dX9_unseen_0 rfl rfl rfl ?_
  refine a_iconst 2 (v := (0 : Int32)) hC dX9_unseen_1 rfl (by decide) ?_
  refine a_put 5 0 7 0 (mdW X.2.2.2.2 a (0 : Int32) s past undos kept isk seen sn sf) tyX9 hC inB_X9 tyX9_ok nmX9 rfl rfl (by decide) wq600 rfl rfl rfl rfl rfl (Nat.le_of_ble_eq_true rfl) dX9_unseen_2 rfl rfl ?_
  refine a_iconst 6 (v := (0 : Int32)) hC dX9_unseen_5 rfl (by decide) ?_
  refine a_istore_n 7 [(0, .ref (a 0)), (1, .int (0 : Int32))] [1, 0] hC dX9_unseen_6 rfl rfl (by decide) rfl ?_
  refine a_iconst 8 (v := (0 : Int32)) hC dX9_unseen_7 rfl (by decide) ?_
  refine a_istore_n 9 [(0, .ref (a 0)), (1, .int (0 : Int32)), (2, .int (0 : Int32))] [1, 2, 0] hC dX9_unseen_8 rfl rfl (by decide) rfl ?_
  obtain ⟨r13, gr13, h⟩ := bd h
  refine lp_walk (Wh := (fun (u9 : ((Int32) × (Int32))) => At X 0 0 9 (mdW X.2.2.2.2 a (0 : Int32) s past undos kept isk seen sn sf) [(0, .ref (a 0)), (1, .int u9.1), (2, .int u9.2)] [])) (We := (fun (u9 : (Int32)) => At X 0 0 85 (mdW X.2.2.2.2 a (0 : Int32) s past undos kept isk seen sn sf) [(1, .int u9)] [])) (fun u9 o9 hb9 hk9 => tb_X9_unseen_9 hC a (0 : Int32) s past undos kept isk seen sn sf u9 o9 hb9 hk9) 100000 ((0 : Int32), (0 : Int32)) r13 gr13 ?_
  show At X 0 0 85 (mdW X.2.2.2.2 a (0 : Int32) s past undos kept isk seen sn sf) [(1, .int r13)] []
  refine a_iload_n 86 0 hC dX9_unseen_85 rfl rfl rfl ?_
  obtain rfl := Option.some.inj h
  exact a_iret hC hR ⟨rfl, rfl⟩ (Nat.le_refl _) (Nat.le_refl _) dX9_unseen_86
theorem c_X9_unseen (l : Launch) (D : va_G) (z : ClassId × ClassId × ClassId) (a : Nat → Nat) (thrown : Int32) (s : Nat → Int32) (past : Nat → Int32) (undos : Int32) (kept : Nat → Int32) (isk : Nat → Int32) (seen : Int32) (sn : Nat → Int32) (sf : Nat → Int32) (res : (Int32) × (Int32)) (h : f_X9_unseen thrown seen sn sf = some res) : Ct l D z yX9_unseen cX9_unseen 5 (some .int) rm_X9_unseen [.ref (a 0)] (mdW z a thrown s past undos kept isk seen sn sf) (fun r w => r = some (.int res.1) ∧ w = (mdW z a res.2 s past undos kept isk seen sn sf)) := by
  refine Ct.of (by decide +kernel) (Nat.le_of_ble_eq_true rfl) (fun X hC hl hz hn hR => ?_)
  have hz1 : X.2.2.2.2 = z := by rw [hz]
  subst hz1
  exact t_X9_unseen hC a thrown s past undos kept isk seen sn sf res hR h

/-! X9_keep -/
abbrev rm_X9_keep : Room := { frames := 1, cells := 0, slots := 0, locals := 22 }
theorem ds_X9_keep : yX9_keep.cls ≠ "java/lang/invoke/MethodHandle" ∧ yX9_keep.cls ≠ "java/lang/invoke/VarHandle" ∧ (parseMethodDescriptor yX9_keep.desc).map (fun d => d.parameters.length) = some 1 := by decide +kernel
def fb_X9_keep_18 (x1 : Int32) (thrown : Int32) (s : Nat → Int32) (isk : Nat → Int32) (w : ((Int32) × (Nat → Int32))) : Option (((Int32) × (Nat → Int32)) ⊕ ((Nat → Int32))) := (if (95 : Int32) ≤ w.1 then (some (.inr w.2)) else (gd w.1 95 (nm (s (Int32.toNatClampNeg w.1)) fun v5 => (gd (((95 : Int32) * x1) + w.1) 190 (nm (upd w.2 (Int32.toNatClampNeg (((95 : Int32) * x1) + w.1)) v5) fun keptq6 => (nm (w.1 + (1 : Int32)) fun v8 => (some (.inl (v8, keptq6)))))))))
set_option maxRecDepth 100000 in
set_option maxHeartbeats 4000000 in
theorem tb_X9_keep_18 {X : qX} (hC : Ok X rm_X9_keep cX9_keep 3 RX9 (some .int)) (a : Nat → Nat) (x1 : Int32) (thrown : Int32) (s : Nat → Int32) (past : Nat → Int32) (undos : Int32) (isk : Nat → Int32) (seen : Int32) (sn : Nat → Int32) (sf : Nat → Int32) (w : ((Int32) × (Nat → Int32))) (o : ((Int32) × (Nat → Int32)) ⊕ (((Nat → Int32)))) (h : fb_X9_keep_18 x1 thrown s isk w = some o) (hk : Sum.elim (fun (w : ((Int32) × (Nat → Int32))) => At X 0 0 18 (mdW X.2.2.2.2 a thrown s past undos w.2 isk seen sn sf) [(0, .ref (a 0)), (1, .int x1), (2, .int w.1)] []) (fun (w : (Nat → Int32)) => At X 0 0 47 (mdW X.2.2.2.2 a thrown s past undos w isk seen sn sf) [(0, .ref (a 0)), (1, .int x1)] []) o) : At X 0 0 18 (mdW X.2.2.2.2 a thrown s past undos w.2 isk seen sn sf) [(0, .ref (a 0)), (1, .int x1), (2, .int w.1)] [] := by
  unfold fb_X9_keep_18 at h
  refine a_iload_n 19 2 hC dX9_keep_18 rfl rfl rfl ?_
  refine a_bipush 21 (v := (95 : Int32)) hC dX9_keep_19 rfl (by decide) ?_
  refine a_icmp_ge 47 24 hC dX9_keep_21 (by decide) rfl (fun c3 => ?_) (fun c3 => ?_)
  · have h := ifp c3 h
    obtain rfl := Option.some.inj h
    refine a_lv [0, 1] [(0, .ref (a 0)), (1, .int x1)] rfl ?_
    exact hk
  · have h := ifn c3 h
    refine a_aload_n 25 0 hC dX9_keep_24 rfl rfl rfl ?_
    refine a_get 28 0 7 4 hC inB_X9 rfl rfl (by decide) wq604 rfl rfl dX9_keep_25 rfl ?_
    refine a_bipush 30 (v := (95 : Int32)) hC dX9_keep_28 rfl (by decide) ?_
    refine a_iload_n 31 1 hC dX9_keep_30 rfl rfl rfl ?_
    refine a_imul 32 hC dX9_keep_31 rfl ?_
    refine a_iload_n 33 2 hC dX9_keep_32 rfl rfl rfl ?_
    refine a_iadd 34 hC dX9_keep_33 rfl ?_
    refine a_aload_n 35 0 hC dX9_keep_34 rfl rfl rfl ?_
    refine a_get 38 0 7 1 hC inB_X9 rfl rfl (by decide) wq601 rfl rfl dX9_keep_35 rfl ?_
    refine a_iload_n 39 2 hC dX9_keep_38 rfl rfl rfl ?_
    obtain ⟨n4, h⟩ := gdx h
    refine a_iald 40 1 hC rfl n4 dX9_keep_39 rfl ?_
    obtain ⟨v5, ev5, h⟩ := nmx h
    refine a_nm ev5 ?_
    obtain ⟨n7, h⟩ := gdx h
    obtain ⟨keptq6, ekeptq6, h⟩ := nmx h
    refine a_iast 41 3 (mdW X.2.2.2.2 a thrown s past undos keptq6 isk seen sn sf) hC rfl n7 dX9_keep_40 rfl (by rw [ekeptq6]; rfl) ?_
    obtain ⟨v8, ev8, h⟩ := nmx h
    refine a_iinc 44 2 [(0, .ref (a 0)), (1, .int x1), (2, .int v8)] [1, 2, 0] hC dX9_keep_41 rfl rfl (v := v8) (by rw [ev8]; rfl) (by decide) rfl ?_
    refine a_goto 18 hC dX9_keep_44 (by decide) ?_
    obtain rfl := Option.some.inj h
    exact hk
def f_X9_keep (x1 : Int32) (thrown : Int32) (s : Nat → Int32) (kept : Nat → Int32) (isk : Nat → Int32) : Option ((Int32) × (Int32) × (Nat → Int32) × (Nat → Int32)) := ((f_X9_in x1 (0 : Int32) (1 : Int32)).bind fun r1 => (if r1 = (0 : Int32) then (some ((-1 : Int32), (0 : Int32), kept, isk)) else ((lp (fb_X9_keep_18 x1 (0 : Int32) s isk) 100000 ((0 : Int32), kept)).bind fun r9 => (gd x1 2 (nm (upd isk (Int32.toNatClampNeg x1) (vp_nar .boolean (1 : Int32))) fun iskq10 => (some ((s 1), (0 : Int32), r9, iskq10)))))))
set_option maxRecDepth 100000 in
set_option maxHeartbeats 4000000 in
theorem t_X9_keep {X : qX} (hC : Ok X rm_X9_keep cX9_keep 3 RX9 (some .int)) (a : Nat → Nat) (x1 : Int32) (thrown : Int32) (s : Nat → Int32) (past : Nat → Int32) (undos : Int32) (kept : Nat → Int32) (isk : Nat → Int32) (seen : Int32) (sn : Nat → Int32) (sf : Nat → Int32) (res : (Int32) × (Int32) × (Nat → Int32) × (Nat → Int32)) (hR : Rt X 0 0 (fun r w => r = some (.int res.1) ∧ w = (mdW X.2.2.2.2 a res.2.1 s past undos res.2.2.1 res.2.2.2 seen sn sf))) (h : f_X9_keep x1 thrown s kept isk = some res) : At X 0 0 0 (mdW X.2.2.2.2 a thrown s past undos kept isk seen sn sf) [(0, .ref (a 0)), (1, .int x1)] [] := by
  unfold f_X9_keep at h
  refine a_aload_n 1 0 hC dX9_keep_0 rfl rfl rfl ?_
  refine a_iconst 2 (v := (0 : Int32)) hC dX9_keep_1 rfl (by decide) ?_
  refine a_put 5 0 7 0 (mdW X.2.2.2.2 a (0 : Int32) s past undos kept isk seen sn sf) tyX9 hC inB_X9 tyX9_ok nmX9 rfl rfl (by decide) wq600 rfl rfl rfl rfl rfl (Nat.le_of_ble_eq_true rfl) dX9_keep_2 rfl rfl ?_
  refine a_iload_n 6 1 hC dX9_keep_5 rfl rfl rfl ?_
  refine a_iconst 7 (v := (0 : Int32)) hC dX9_keep_6 rfl (by decide) ?_
  refine a_iconst 8 (v := (1 : Int32)) hC dX9_keep_7 rfl (by decide) ?_
  obtain ⟨r1, gr1, h⟩ := bd h
  refine a_call0 11 [.int x1, .int (0 : Int32), .int (1 : Int32)] [] (.int r1) hC (c_X9_in X.1.2.1 X.2.2.2.1 X.2.2.2.2 x1 (0 : Int32) (1 : Int32) r1 gr1) ⟨wq649, wq30, wq651, ds_X9_in, by decide, by decide⟩ wq650 rfl rfl (Nat.le_of_ble_eq_true rfl) dX9_keep_8 rfl rfl rfl ⟨(Nat.le_refl _), (Nat.le_refl _)⟩ ?_
  refine a_if_ne 16 14 hC dX9_keep_11 (by decide) rfl (fun c2 => ?_) (fun c2 => ?_)
  · have h := ifn c2 h
    refine a_iconst 17 (v := (0 : Int32)) hC dX9_keep_16 rfl (by decide) ?_
    refine a_istore_n 18 [(0, .ref (a 0)), (1, .int x1), (2, .int (0 : Int32))] [1, 2, 0] hC dX9_keep_17 rfl rfl (by decide) rfl ?_
    obtain ⟨r9, gr9, h⟩ := bd h
    refine lp_walk (Wh := (fun (u18 : ((Int32) × (Nat → Int32))) => At X 0 0 18 (mdW X.2.2.2.2 a (0 : Int32) s past undos u18.2 isk seen sn sf) [(0, .ref (a 0)), (1, .int x1), (2, .int u18.1)] [])) (We := (fun (u18 : (Nat → Int32)) => At X 0 0 47 (mdW X.2.2.2.2 a (0 : Int32) s past undos u18 isk seen sn sf) [(0, .ref (a 0)), (1, .int x1)] [])) (fun u9 o9 hb9 hk9 => tb_X9_keep_18 hC a x1 (0 : Int32) s past undos isk seen sn sf u9 o9 hb9 hk9) 100000 ((0 : Int32), kept) r9 gr9 ?_
    show At X 0 0 47 (mdW X.2.2.2.2 a (0 : Int32) s past undos r9 isk seen sn sf) [(0, .ref (a 0)), (1, .int x1)] []
    refine a_aload_n 48 0 hC dX9_keep_47 rfl rfl rfl ?_
    refine a_get 51 0 7 5 hC inB_X9 rfl rfl (by decide) wq605 rfl rfl dX9_keep_48 rfl ?_
    refine a_iload_n 52 1 hC dX9_keep_51 rfl rfl rfl ?_
    refine a_iconst 53 (v := (1 : Int32)) hC dX9_keep_52 rfl (by decide) ?_
    obtain ⟨n11, h⟩ := gdx h
    obtain ⟨iskq10, eiskq10, h⟩ := nmx h
    refine a_zast 54 4 (mdW X.2.2.2.2 a (0 : Int32) s past undos r9 iskq10 seen sn sf) hC rfl n11 dX9_keep_53 rfl (by rw [eiskq10]; rfl) ?_
    refine a_aload_n 55 0 hC dX9_keep_54 rfl rfl rfl ?_
    refine a_get 58 0 7 1 hC inB_X9 rfl rfl (by decide) wq601 rfl rfl dX9_keep_55 rfl ?_
    refine a_iconst 59 (v := (1 : Int32)) hC dX9_keep_58 rfl (by decide) ?_
    refine a_ialdc 60 1 1 hC rfl rfl (vp_inc (by decide)) dX9_keep_59 rfl ?_
    obtain rfl := Option.some.inj h
    exact a_iret hC hR ⟨rfl, rfl⟩ (Nat.le_refl _) (Nat.le_refl _) dX9_keep_60
  · have h := ifp c2 h
    refine a_iconst 15 (v := (-1 : Int32)) hC dX9_keep_14 rfl (by decide) ?_
    obtain rfl := Option.some.inj h
    exact a_iret hC hR ⟨rfl, rfl⟩ (Nat.le_refl _) (Nat.le_refl _) dX9_keep_15
theorem c_X9_keep (l : Launch) (D : va_G) (z : ClassId × ClassId × ClassId) (a : Nat → Nat) (x1 : Int32) (thrown : Int32) (s : Nat → Int32) (past : Nat → Int32) (undos : Int32) (kept : Nat → Int32) (isk : Nat → Int32) (seen : Int32) (sn : Nat → Int32) (sf : Nat → Int32) (res : (Int32) × (Int32) × (Nat → Int32) × (Nat → Int32)) (h : f_X9_keep x1 thrown s kept isk = some res) : Ct l D z yX9_keep cX9_keep 3 (some .int) rm_X9_keep [.ref (a 0), .int x1] (mdW z a thrown s past undos kept isk seen sn sf) (fun r w => r = some (.int res.1) ∧ w = (mdW z a res.2.1 s past undos res.2.2.1 res.2.2.2 seen sn sf)) := by
  refine Ct.of (by decide +kernel) (Nat.le_of_ble_eq_true rfl) (fun X hC hl hz hn hR => ?_)
  have hz1 : X.2.2.2.2 = z := by rw [hz]
  subst hz1
  exact t_X9_keep hC a x1 thrown s past undos kept isk seen sn sf res hR h

/-! X9_back -/
abbrev rm_X9_back : Room := { frames := 1, cells := 0, slots := 0, locals := 22 }
theorem ds_X9_back : yX9_back.cls ≠ "java/lang/invoke/MethodHandle" ∧ yX9_back.cls ≠ "java/lang/invoke/VarHandle" ∧ (parseMethodDescriptor yX9_back.desc).map (fun d => d.parameters.length) = some 1 := by decide +kernel
def fb_X9_back_30 (x1 : Int32) (thrown : Int32) (undos : Int32) (kept : Nat → Int32) (isk : Nat → Int32) (w : ((Int32) × (Nat → Int32))) : Option (((Int32) × (Nat → Int32)) ⊕ ((Nat → Int32))) := (if (95 : Int32) ≤ w.1 then (some (.inr w.2)) else (gd (((95 : Int32) * x1) + w.1) 190 (nm (kept (Int32.toNatClampNeg (((95 : Int32) * x1) + w.1))) fun v7 => (gd w.1 95 (nm (upd w.2 (Int32.toNatClampNeg w.1) v7) fun sq8 => (nm (w.1 + (1 : Int32)) fun v10 => (some (.inl (v10, sq8)))))))))
set_option maxRecDepth 100000 in
set_option maxHeartbeats 4000000 in
theorem tb_X9_back_30 {X : qX} (hC : Ok X rm_X9_back cX9_back 3 RX9 (some .int)) (a : Nat → Nat) (x1 : Int32) (thrown : Int32) (past : Nat → Int32) (undos : Int32) (kept : Nat → Int32) (isk : Nat → Int32) (seen : Int32) (sn : Nat → Int32) (sf : Nat → Int32) (w : ((Int32) × (Nat → Int32))) (o : ((Int32) × (Nat → Int32)) ⊕ (((Nat → Int32)))) (h : fb_X9_back_30 x1 thrown undos kept isk w = some o) (hk : Sum.elim (fun (w : ((Int32) × (Nat → Int32))) => At X 0 0 30 (mdW X.2.2.2.2 a thrown w.2 past undos kept isk seen sn sf) [(0, .ref (a 0)), (1, .int x1), (2, .int w.1)] []) (fun (w : (Nat → Int32)) => At X 0 0 59 (mdW X.2.2.2.2 a thrown w past undos kept isk seen sn sf) [(0, .ref (a 0))] []) o) : At X 0 0 30 (mdW X.2.2.2.2 a thrown w.2 past undos kept isk seen sn sf) [(0, .ref (a 0)), (1, .int x1), (2, .int w.1)] [] := by
  unfold fb_X9_back_30 at h
  refine a_iload_n 31 2 hC dX9_back_30 rfl rfl rfl ?_
  refine a_bipush 33 (v := (95 : Int32)) hC dX9_back_31 rfl (by decide) ?_
  refine a_icmp_ge 59 36 hC dX9_back_33 (by decide) rfl (fun c5 => ?_) (fun c5 => ?_)
  · have h := ifp c5 h
    obtain rfl := Option.some.inj h
    refine a_lv [0] [(0, .ref (a 0))] rfl ?_
    exact hk
  · have h := ifn c5 h
    refine a_aload_n 37 0 hC dX9_back_36 rfl rfl rfl ?_
    refine a_get 40 0 7 1 hC inB_X9 rfl rfl (by decide) wq601 rfl rfl dX9_back_37 rfl ?_
    refine a_iload_n 41 2 hC dX9_back_40 rfl rfl rfl ?_
    refine a_aload_n 42 0 hC dX9_back_41 rfl rfl rfl ?_
    refine a_get 45 0 7 4 hC inB_X9 rfl rfl (by decide) wq604 rfl rfl dX9_back_42 rfl ?_
    refine a_bipush 47 (v := (95 : Int32)) hC dX9_back_45 rfl (by decide) ?_
    refine a_iload_n 48 1 hC dX9_back_47 rfl rfl rfl ?_
    refine a_imul 49 hC dX9_back_48 rfl ?_
    refine a_iload_n 50 2 hC dX9_back_49 rfl rfl rfl ?_
    refine a_iadd 51 hC dX9_back_50 rfl ?_
    obtain ⟨n6, h⟩ := gdx h
    refine a_iald 52 3 hC rfl n6 dX9_back_51 rfl ?_
    obtain ⟨v7, ev7, h⟩ := nmx h
    refine a_nm ev7 ?_
    obtain ⟨n9, h⟩ := gdx h
    obtain ⟨sq8, esq8, h⟩ := nmx h
    refine a_iast 53 1 (mdW X.2.2.2.2 a thrown sq8 past undos kept isk seen sn sf) hC rfl n9 dX9_back_52 rfl (by rw [esq8]; rfl) ?_
    obtain ⟨v10, ev10, h⟩ := nmx h
    refine a_iinc 56 2 [(0, .ref (a 0)), (1, .int x1), (2, .int v10)] [1, 2, 0] hC dX9_back_53 rfl rfl (v := v10) (by rw [ev10]; rfl) (by decide) rfl ?_
    refine a_goto 30 hC dX9_back_56 (by decide) ?_
    obtain rfl := Option.some.inj h
    exact hk
def f_X9_back (x1 : Int32) (thrown : Int32) (s : Nat → Int32) (undos : Int32) (kept : Nat → Int32) (isk : Nat → Int32) : Option ((Int32) × (Int32) × (Nat → Int32) × (Int32)) := ((f_X9_in x1 (0 : Int32) (1 : Int32)).bind fun r1 => (if r1 = (0 : Int32) then (some ((-1 : Int32), (0 : Int32), s, undos)) else (gd x1 2 (if (isk (Int32.toNatClampNeg x1)) = (0 : Int32) then (some ((-2 : Int32), (0 : Int32), s, undos)) else ((lp (fb_X9_back_30 x1 (0 : Int32) undos kept isk) 100000 ((0 : Int32), s)).bind fun r11 => (some ((r11 1), (0 : Int32), r11, (0 : Int32))))))))
set_option maxRecDepth 100000 in
set_option maxHeartbeats 4000000 in
theorem t_X9_back {X : qX} (hC : Ok X rm_X9_back cX9_back 3 RX9 (some .int)) (a : Nat → Nat) (x1 : Int32) (thrown : Int32) (s : Nat → Int32) (past : Nat → Int32) (undos : Int32) (kept : Nat → Int32) (isk : Nat → Int32) (seen : Int32) (sn : Nat → Int32) (sf : Nat → Int32) (res : (Int32) × (Int32) × (Nat → Int32) × (Int32)) (hR : Rt X 0 0 (fun r w => r = some (.int res.1) ∧ w = (mdW X.2.2.2.2 a res.2.1 res.2.2.1 past res.2.2.2 kept isk seen sn sf))) (h : f_X9_back x1 thrown s undos kept isk = some res) : At X 0 0 0 (mdW X.2.2.2.2 a thrown s past undos kept isk seen sn sf) [(0, .ref (a 0)), (1, .int x1)] [] := by
  unfold f_X9_back at h
  refine a_aload_n 1 0 hC dX9_back_0 rfl rfl rfl ?_
  refine a_iconst 2 (v := (0 : Int32)) hC dX9_back_1 rfl (by decide) ?_
  refine a_put 5 0 7 0 (mdW X.2.2.2.2 a (0 : Int32) s past undos kept isk seen sn sf) tyX9 hC inB_X9 tyX9_ok nmX9 rfl rfl (by decide) wq600 rfl rfl rfl rfl rfl (Nat.le_of_ble_eq_true rfl) dX9_back_2 rfl rfl ?_
  refine a_iload_n 6 1 hC dX9_back_5 rfl rfl rfl ?_
  refine a_iconst 7 (v := (0 : Int32)) hC dX9_back_6 rfl (by decide) ?_
  refine a_iconst 8 (v := (1 : Int32)) hC dX9_back_7 rfl (by decide) ?_
  obtain ⟨r1, gr1, h⟩ := bd h
  refine a_call0 11 [.int x1, .int (0 : Int32), .int (1 : Int32)] [] (.int r1) hC (c_X9_in X.1.2.1 X.2.2.2.1 X.2.2.2.2 x1 (0 : Int32) (1 : Int32) r1 gr1) ⟨wq649, wq30, wq651, ds_X9_in, by decide, by decide⟩ wq650 rfl rfl (Nat.le_of_ble_eq_true rfl) dX9_back_8 rfl rfl rfl ⟨(Nat.le_refl _), (Nat.le_refl _)⟩ ?_
  refine a_if_ne 16 14 hC dX9_back_11 (by decide) rfl (fun c2 => ?_) (fun c2 => ?_)
  · have h := ifn c2 h
    refine a_aload_n 17 0 hC dX9_back_16 rfl rfl rfl ?_
    refine a_get 20 0 7 5 hC inB_X9 rfl rfl (by decide) wq605 rfl rfl dX9_back_17 rfl ?_
    refine a_iload_n 21 1 hC dX9_back_20 rfl rfl rfl ?_
    obtain ⟨n3, h⟩ := gdx h
    refine a_zald 22 4 hC rfl n3 dX9_back_21 rfl ?_
    refine a_if_ne 28 25 hC dX9_back_22 (by decide) rfl (fun c4 => ?_) (fun c4 => ?_)
    · have h := ifn c4 h
      refine a_iconst 29 (v := (0 : Int32)) hC dX9_back_28 rfl (by decide) ?_
      refine a_istore_n 30 [(0, .ref (a 0)), (1, .int x1), (2, .int (0 : Int32))] [1, 2, 0] hC dX9_back_29 rfl rfl (by decide) rfl ?_
      obtain ⟨r11, gr11, h⟩ := bd h
      refine lp_walk (Wh := (fun (u30 : ((Int32) × (Nat → Int32))) => At X 0 0 30 (mdW X.2.2.2.2 a (0 : Int32) u30.2 past undos kept isk seen sn sf) [(0, .ref (a 0)), (1, .int x1), (2, .int u30.1)] [])) (We := (fun (u30 : (Nat → Int32)) => At X 0 0 59 (mdW X.2.2.2.2 a (0 : Int32) u30 past undos kept isk seen sn sf) [(0, .ref (a 0))] [])) (fun u9 o9 hb9 hk9 => tb_X9_back_30 hC a x1 (0 : Int32) past undos kept isk seen sn sf u9 o9 hb9 hk9) 100000 ((0 : Int32), s) r11 gr11 ?_
      show At X 0 0 59 (mdW X.2.2.2.2 a (0 : Int32) r11 past undos kept isk seen sn sf) [(0, .ref (a 0))] []
      refine a_aload_n 60 0 hC dX9_back_59 rfl rfl rfl ?_
      refine a_iconst 61 (v := (0 : Int32)) hC dX9_back_60 rfl (by decide) ?_
      refine a_put 64 0 7 3 (mdW X.2.2.2.2 a (0 : Int32) r11 past (0 : Int32) kept isk seen sn sf) tyX9 hC inB_X9 tyX9_ok nmX9 rfl rfl (by decide) wq603 rfl rfl rfl rfl rfl (Nat.le_of_ble_eq_true rfl) dX9_back_61 rfl rfl ?_
      refine a_aload_n 65 0 hC dX9_back_64 rfl rfl rfl ?_
      refine a_get 68 0 7 1 hC inB_X9 rfl rfl (by decide) wq601 rfl rfl dX9_back_65 rfl ?_
      refine a_iconst 69 (v := (1 : Int32)) hC dX9_back_68 rfl (by decide) ?_
      refine a_ialdc 70 1 1 hC rfl rfl (vp_inc (by decide)) dX9_back_69 rfl ?_
      obtain rfl := Option.some.inj h
      exact a_iret hC hR ⟨rfl, rfl⟩ (Nat.le_refl _) (Nat.le_refl _) dX9_back_70
    · have h := ifp c4 h
      refine a_bipush 27 (v := (-2 : Int32)) hC dX9_back_25 rfl (by decide) ?_
      obtain rfl := Option.some.inj h
      exact a_iret hC hR ⟨rfl, rfl⟩ (Nat.le_refl _) (Nat.le_refl _) dX9_back_27
  · have h := ifp c2 h
    refine a_iconst 15 (v := (-1 : Int32)) hC dX9_back_14 rfl (by decide) ?_
    obtain rfl := Option.some.inj h
    exact a_iret hC hR ⟨rfl, rfl⟩ (Nat.le_refl _) (Nat.le_refl _) dX9_back_15
theorem c_X9_back (l : Launch) (D : va_G) (z : ClassId × ClassId × ClassId) (a : Nat → Nat) (x1 : Int32) (thrown : Int32) (s : Nat → Int32) (past : Nat → Int32) (undos : Int32) (kept : Nat → Int32) (isk : Nat → Int32) (seen : Int32) (sn : Nat → Int32) (sf : Nat → Int32) (res : (Int32) × (Int32) × (Nat → Int32) × (Int32)) (h : f_X9_back x1 thrown s undos kept isk = some res) : Ct l D z yX9_back cX9_back 3 (some .int) rm_X9_back [.ref (a 0), .int x1] (mdW z a thrown s past undos kept isk seen sn sf) (fun r w => r = some (.int res.1) ∧ w = (mdW z a res.2.1 res.2.2.1 past res.2.2.2 kept isk seen sn sf)) := by
  refine Ct.of (by decide +kernel) (Nat.le_of_ble_eq_true rfl) (fun X hC hl hz hn hR => ?_)
  have hz1 : X.2.2.2.2 = z := by rw [hz]
  subst hz1
  exact t_X9_back hC a x1 thrown s past undos kept isk seen sn sf res hR h

/-! X9_count -/
abbrev rm_X9_count : Room := { frames := 3, cells := 0, slots := 0, locals := 60 }
theorem ds_X9_count : yX9_count.cls ≠ "java/lang/invoke/MethodHandle" ∧ yX9_count.cls ≠ "java/lang/invoke/VarHandle" ∧ (parseMethodDescriptor yX9_count.desc).map (fun d => d.parameters.length) = some 1 := by decide +kernel
def f_X9_count (x1 : Int32) (thrown : Int32) (s : Nat → Int32) (undos : Int32) (seen : Int32) : Option ((Int32) × (Int32)) := (if x1 = (0 : Int32) then (some ((s 0), (0 : Int32))) else (if x1 = (1 : Int32) then ((f_X9_day s).bind fun r3 => (some (r3, (0 : Int32)))) else (if x1 = (2 : Int32) then (some ((s 1), (0 : Int32))) else (if x1 = (3 : Int32) then ((f_X9_tape s).bind fun r6 => (some (r6, (0 : Int32)))) else (if x1 = (4 : Int32) then (some ((s 20), (0 : Int32))) else (if x1 = (5 : Int32) then (some (seen, (0 : Int32))) else (if x1 = (6 : Int32) then (some (undos, (0 : Int32))) else (some ((-1 : Int32), (0 : Int32))))))))))
set_option maxRecDepth 100000 in
set_option maxHeartbeats 4000000 in
theorem t_X9_count {X : qX} (hC : Ok X rm_X9_count cX9_count 2 RX9 (some .int)) (a : Nat → Nat) (x1 : Int32) (thrown : Int32) (s : Nat → Int32) (past : Nat → Int32) (undos : Int32) (kept : Nat → Int32) (isk : Nat → Int32) (seen : Int32) (sn : Nat → Int32) (sf : Nat → Int32) (res : (Int32) × (Int32)) (hR : Rt X 0 0 (fun r w => r = some (.int res.1) ∧ w = (mdW X.2.2.2.2 a res.2 s past undos kept isk seen sn sf))) (h : f_X9_count x1 thrown s undos seen = some res) : At X 0 0 0 (mdW X.2.2.2.2 a thrown s past undos kept isk seen sn sf) [(0, .ref (a 0)), (1, .int x1)] [] := by
  unfold f_X9_count at h
  refine a_aload_n 1 0 hC dX9_count_0 rfl rfl rfl ?_
  refine a_iconst 2 (v := (0 : Int32)) hC dX9_count_1 rfl (by decide) ?_
  refine a_put 5 0 7 0 (mdW X.2.2.2.2 a (0 : Int32) s past undos kept isk seen sn sf) tyX9 hC inB_X9 tyX9_ok nmX9 rfl rfl (by decide) wq600 rfl rfl rfl rfl rfl (Nat.le_of_ble_eq_true rfl) dX9_count_2 rfl rfl ?_
  refine a_iload_n 6 1 hC dX9_count_5 rfl rfl rfl ?_
  by_cases c1 : x1 = (0 : Int32)
  · have h := ifp c1 h
    refine a_tswI 48 hC dX9_count_6 c1 (by decide) (by decide) rfl (by decide) ?_
    refine a_aload_n 49 0 hC dX9_count_48 rfl rfl rfl ?_
    refine a_get 52 0 7 1 hC inB_X9 rfl rfl (by decide) wq601 rfl rfl dX9_count_49 rfl ?_
    refine a_iconst 53 (v := (0 : Int32)) hC dX9_count_52 rfl (by decide) ?_
    refine a_ialdc 54 1 0 hC rfl rfl (vp_inc (by decide)) dX9_count_53 rfl ?_
    obtain rfl := Option.some.inj h
    exact a_iret hC hR ⟨rfl, rfl⟩ (Nat.le_refl _) (Nat.le_refl _) dX9_count_54
  · have h := ifn c1 h
    by_cases c2 : x1 = (1 : Int32)
    · have h := ifp c2 h
      refine a_tswI 55 hC dX9_count_6 c2 (by decide) (by decide) rfl (by decide) ?_
      refine a_aload_n 56 0 hC dX9_count_55 rfl rfl rfl ?_
      obtain ⟨r3, gr3, h⟩ := bd h
      refine a_callVs 59 (mdW X.2.2.2.2 a (0 : Int32) s past undos kept isk seen sn sf) 0 7 [] [] (some (.int r3)) [.int r3] hC (c_X9_day X.1.2.1 X.2.2.2.1 X.2.2.2.2 a (0 : Int32) s past undos kept isk seen sn sf r3 gr3) ⟨wq637, wq30, wq640, ds_X9_day, by decide, by decide⟩ wq639 wq7 rfl rfl (Nat.le_of_ble_eq_true rfl) dX9_count_56 rfl rfl rfl ⟨(Nat.le_refl _), (Nat.le_refl _)⟩ rfl rfl rfl ?_
      obtain rfl := Option.some.inj h
      exact a_iret hC hR ⟨rfl, rfl⟩ (Nat.le_refl _) (Nat.le_refl _) dX9_count_59
    · have h := ifn c2 h
      by_cases c4 : x1 = (2 : Int32)
      · have h := ifp c4 h
        refine a_tswI 60 hC dX9_count_6 c4 (by decide) (by decide) rfl (by decide) ?_
        refine a_aload_n 61 0 hC dX9_count_60 rfl rfl rfl ?_
        refine a_get 64 0 7 1 hC inB_X9 rfl rfl (by decide) wq601 rfl rfl dX9_count_61 rfl ?_
        refine a_iconst 65 (v := (1 : Int32)) hC dX9_count_64 rfl (by decide) ?_
        refine a_ialdc 66 1 1 hC rfl rfl (vp_inc (by decide)) dX9_count_65 rfl ?_
        obtain rfl := Option.some.inj h
        exact a_iret hC hR ⟨rfl, rfl⟩ (Nat.le_refl _) (Nat.le_refl _) dX9_count_66
      · have h := ifn c4 h
        by_cases c5 : x1 = (3 : Int32)
        · have h := ifp c5 h
          refine a_tswI 67 hC dX9_count_6 c5 (by decide) (by decide) rfl (by decide) ?_
          refine a_aload_n 68 0 hC dX9_count_67 rfl rfl rfl ?_
          obtain ⟨r6, gr6, h⟩ := bd h
          refine a_callVs 71 (mdW X.2.2.2.2 a (0 : Int32) s past undos kept isk seen sn sf) 0 7 [] [] (some (.int r6)) [.int r6] hC (c_X9_tape X.1.2.1 X.2.2.2.1 X.2.2.2.2 a (0 : Int32) s past undos kept isk seen sn sf r6 gr6) ⟨wq691, wq30, wq694, ds_X9_tape, by decide, by decide⟩ wq693 wq10 rfl rfl (Nat.le_of_ble_eq_true rfl) dX9_count_68 rfl rfl rfl ⟨(Nat.le_refl _), (Nat.le_refl _)⟩ rfl rfl rfl ?_
          obtain rfl := Option.some.inj h
          exact a_iret hC hR ⟨rfl, rfl⟩ (Nat.le_refl _) (Nat.le_refl _) dX9_count_71
        · have h := ifn c5 h
          by_cases c7 : x1 = (4 : Int32)
          · have h := ifp c7 h
            refine a_tswI 72 hC dX9_count_6 c7 (by decide) (by decide) rfl (by decide) ?_
            refine a_aload_n 73 0 hC dX9_count_72 rfl rfl rfl ?_
            refine a_get 76 0 7 1 hC inB_X9 rfl rfl (by decide) wq601 rfl rfl dX9_count_73 rfl ?_
            refine a_bipush 78 (v := (20 : Int32)) hC dX9_count_76 rfl (by decide) ?_
            refine a_ialdc 79 1 20 hC rfl rfl (vp_inc (by decide)) dX9_count_78 rfl ?_
            obtain rfl := Option.some.inj h
            exact a_iret hC hR ⟨rfl, rfl⟩ (Nat.le_refl _) (Nat.le_refl _) dX9_count_79
          · have h := ifn c7 h
            by_cases c8 : x1 = (5 : Int32)
            · have h := ifp c8 h
              refine a_tswI 80 hC dX9_count_6 c8 (by decide) (by decide) rfl (by decide) ?_
              refine a_aload_n 81 0 hC dX9_count_80 rfl rfl rfl ?_
              refine a_get 84 0 7 6 hC inB_X9 rfl rfl (by decide) wq606 rfl rfl dX9_count_81 rfl ?_
              obtain rfl := Option.some.inj h
              exact a_iret hC hR ⟨rfl, rfl⟩ (Nat.le_refl _) (Nat.le_refl _) dX9_count_84
            · have h := ifn c8 h
              by_cases c9 : x1 = (6 : Int32)
              · have h := ifp c9 h
                refine a_tswI 85 hC dX9_count_6 c9 (by decide) (by decide) rfl (by decide) ?_
                refine a_aload_n 86 0 hC dX9_count_85 rfl rfl rfl ?_
                refine a_get 89 0 7 3 hC inB_X9 rfl rfl (by decide) wq603 rfl rfl dX9_count_86 rfl ?_
                obtain rfl := Option.some.inj h
                exact a_iret hC hR ⟨rfl, rfl⟩ (Nat.le_refl _) (Nat.le_refl _) dX9_count_89
              · have h := ifn c9 h
                refine a_tswO 90 hC dX9_count_6 (by have ec1 := ne_ti c1 (a := 0) (by decide); have ec2 := ne_ti c2 (a := 1) (by decide); have ec4 := ne_ti c4 (a := 2) (by decide); have ec5 := ne_ti c5 (a := 3) (by decide); have ec7 := ne_ti c7 (a := 4) (by decide); have ec8 := ne_ti c8 (a := 5) (by decide); have ec9 := ne_ti c9 (a := 6) (by decide); clear h; omega) (by decide) ?_
                refine a_iconst 91 (v := (-1 : Int32)) hC dX9_count_90 rfl (by decide) ?_
                obtain rfl := Option.some.inj h
                exact a_iret hC hR ⟨rfl, rfl⟩ (Nat.le_refl _) (Nat.le_refl _) dX9_count_91
theorem c_X9_count (l : Launch) (D : va_G) (z : ClassId × ClassId × ClassId) (a : Nat → Nat) (x1 : Int32) (thrown : Int32) (s : Nat → Int32) (past : Nat → Int32) (undos : Int32) (kept : Nat → Int32) (isk : Nat → Int32) (seen : Int32) (sn : Nat → Int32) (sf : Nat → Int32) (res : (Int32) × (Int32)) (h : f_X9_count x1 thrown s undos seen = some res) : Ct l D z yX9_count cX9_count 2 (some .int) rm_X9_count [.ref (a 0), .int x1] (mdW z a thrown s past undos kept isk seen sn sf) (fun r w => r = some (.int res.1) ∧ w = (mdW z a res.2 s past undos kept isk seen sn sf)) := by
  refine Ct.of (by decide +kernel) (Nat.le_of_ble_eq_true rfl) (fun X hC hl hz hn hR => ?_)
  have hz1 : X.2.2.2.2 = z := by rw [hz]
  subst hz1
  exact t_X9_count hC a x1 thrown s past undos kept isk seen sn sf res hR h
