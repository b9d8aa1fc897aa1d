/-! the calls that only ask, and the numbers seen -/
theorem sim_number {t : Nat} (ht : t < 512) (x1 : Int32) {σ : FV} {μ : MV} (h : Rel t σ μ) : ∃ (r : Int32) (σ' : FV) (μ' : MV), fcS_number x1 σ = some (r, σ') ∧ mdS_number x1 μ = some (r, μ') ∧ Rel (t + 1) σ' μ' := by
  obtain ⟨⟨rate, F, L, U, sg, wd, hd, cell, waits, bits, held, readings, broken, errors, jumps, streak, frame, number, user, course, wf, wc, wm, wh, p0, s0, o0, p1, s1, o1, p2, s2, o2⟩, next, known, R, Im, pl, sp, off, sn, sf, seen⟩ := σ
  obtain ⟨thrown, s, past, undos, kept, isk, seen', sn', sf'⟩ := μ
  have hm := rel_mono _ _ _ h
  obtain ⟨⟨hT, hR, hW, hc0, hc1, hc2⟩, hH, hI, hS⟩ := h
  dsimp only at hT hR hW hc0 hc1 hc2 hH hI hS
  obtain ⟨r, n, W, hh, f, l, u, hr, hn, hWW, hhW, rfl, rfl, rfl, rfl, e0, e1, e20, hk⟩ := hT
  unfold fcS_number mdS_number f_X8_number f_X9_number
  dsimp only
  rcases isFr (x := x1) hr e0 with ⟨i1, i2⟩ | ⟨fr, hfr, rfl, i1, i2⟩
  · rw [i1, i2]
    simp only [Option.bind_some, if_true]
    exact ⟨_, _, _, rfl, rfl, hm⟩
  obtain ⟨d0, d1⟩ := day_pos r
  rw [i1, i2]
  simp only [Option.bind_some, d10, if_false]
  rw [e0, number9_eq hr (by omega), number2_eq hr (by omega)]
  simp only [Option.bind_some]
  exact ⟨_, _, _, rfl, rfl, hm⟩
theorem isNum (x : Int32) : (f_X8_isNumber x = some 0 ∧ f_X9_in x 0 23595999 = some 0) ∨ (∃ m, m < 2 ^ 31 ∧ x = nI m ∧ f_X8_isNumber x = some 1 ∧ f_X9_in x 0 23595999 = some 1) := by
  unfold f_X8_isNumber
  rcases inC x 0 23595999 with ⟨e, hb⟩ | ⟨e, g1, g2, g3⟩
  · left
    rw [e, cB hb]
    exact ⟨rfl, rfl⟩
  · right
    obtain ⟨m, hm, rfl⟩ := nI_of2 (M := 23595999) (n := 23595999) rfl g1 g3
    exact ⟨m, by omega, rfl, by rw [if_neg g1, if_neg g2], e⟩
theorem sim_frame {t : Nat} (ht : t < 512) (x1 : Int32) {σ : FV} {μ : MV} (h : Rel t σ μ) : ∃ (r : Int32) (σ' : FV) (μ' : MV), fcS_frame x1 σ = some (r, σ') ∧ mdS_frame x1 μ = some (r, μ') ∧ Rel (t + 1) σ' μ' := by
  obtain ⟨⟨rate, F, L, U, sg, wd, hd, cell, waits, bits, held, readings, broken, errors, jumps, streak, frame, number, user, course, wf, wc, wm, wh, p0, s0, o0, p1, s1, o1, p2, s2, o2⟩, next, known, R, Im, pl, sp, off, sn, sf, seen⟩ := σ
  obtain ⟨thrown, s, past, undos, kept, isk, seen', sn', sf'⟩ := μ
  have hm := rel_mono _ _ _ h
  obtain ⟨⟨hT, hR, hW, hc0, hc1, hc2⟩, hH, hI, hS⟩ := h
  dsimp only at hT hR hW hc0 hc1 hc2 hH hI hS
  obtain ⟨r, n, W, hh, f, l, u, hr, hn, hWW, hhW, rfl, rfl, rfl, rfl, e0, e1, e20, hk⟩ := hT
  unfold fcS_frame mdS_frame f_X8_frame f_X9_frame
  dsimp only
  rcases isNum x1 with ⟨i1, i2⟩ | ⟨m, hm2, rfl, i1, i2⟩
  · rw [i1, i2]
    simp only [Option.bind_some, if_true]
    exact ⟨_, _, _, rfl, rfl, hm⟩
  rw [i1, i2]
  simp only [Option.bind_some, d10, if_false]
  rw [e0, frame9_eq hr hm2, frame2_eq hr hm2]
  simp only [Option.bind_some]
  exact ⟨_, _, _, rfl, rfl, hm⟩
theorem sim_dropped {t : Nat} (ht : t < 512) (x1 x2 : Int32) {σ : FV} {μ : MV} (h : Rel t σ μ) : ∃ (r : Int32) (σ' : FV) (μ' : MV), fcS_dropped x1 x2 σ = some (r, σ') ∧ mdS_dropped x1 x2 μ = some (r, μ') ∧ Rel (t + 1) σ' μ' := by
  obtain ⟨⟨rate, F, L, U, sg, wd, hd, cell, waits, bits, held, readings, broken, errors, jumps, streak, frame, number, user, course, wf, wc, wm, wh, p0, s0, o0, p1, s1, o1, p2, s2, o2⟩, next, known, R, Im, pl, sp, off, sn, sf, seen⟩ := σ
  obtain ⟨thrown, s, past, undos, kept, isk, seen', sn', sf'⟩ := μ
  have hm := rel_mono _ _ _ h
  obtain ⟨⟨hT, hR, hW, hc0, hc1, hc2⟩, hH, hI, hS⟩ := h
  dsimp only at hT hR hW hc0 hc1 hc2 hH hI hS
  obtain ⟨r, n, W, hh, f, l, u, hr, hn, hWW, hhW, rfl, rfl, rfl, rfl, e0, e1, e20, hk⟩ := hT
  unfold fcS_dropped mdS_dropped f_X8_dropped f_X9_dropped
  dsimp only
  obtain ⟨d0, d1⟩ := day_pos r
  rcases isFr (x := x1) hr e0 with ⟨i1, i2⟩ | ⟨a, ha, rfl, i1, i2⟩
  · rw [i1, i2]
    simp only [Option.bind_some, if_true]
    exact ⟨_, _, _, rfl, rfl, hm⟩
  rw [i1, i2]
  simp only [Option.bind_some, d10, if_false]
  rcases isFr (x := x2) hr e0 with ⟨i1, i2⟩ | ⟨b, hb, rfl, i1, i2⟩
  · rw [i1, i2]
    simp only [Option.bind_some, if_true]
    exact ⟨_, _, _, rfl, rfl, hm⟩
  rw [i1, i2]
  simp only [Option.bind_some, d10, if_false]
  have hrk : ∀ a, a < 2592000 → f_X9_rank (s 0) (nI a) = some (nI (a + outN r a)) := fun a h => by rw [e0]; exact rank_eq hr h
  rw [out_eq hr (by omega), out_eq hr (by omega), hrk a (by omega), hrk b (by omega)]
  simp only [Option.bind_some, nm]
  rw [show nI (b + outN r b) - nI b = nI (outN r b) by rw [sub_nI (by omega), Nat.add_sub_cancel_left], show nI (a + outN r a) - nI a = nI (outN r a) by rw [sub_nI (by omega), Nat.add_sub_cancel_left]]
  unfold f_X2_leftOutInDay
  by_cases hab : nI a ≤ nI b
  · rw [if_pos hab, if_pos hab]
    exact ⟨_, _, _, rfl, rfl, hm⟩
  · rw [if_neg hab, if_neg hab]
    by_cases h3 : nI r = (3 : Int32)
    · rw [if_pos h3, if_pos (show s 0 = 3 by rw [e0]; exact h3)]
      exact ⟨_, _, _, rfl, rfl, hm⟩
    · rw [if_neg h3, if_neg (show ¬ s 0 = 3 by rw [e0]; exact h3)]
      simp only [Option.bind_some, Int32.add_zero]
      exact ⟨_, _, _, rfl, rfl, hm⟩
theorem sim_bit {t : Nat} (ht : t < 512) (x1 : Int32) {σ : FV} {μ : MV} (h : Rel t σ μ) : ∃ (r : Int32) (σ' : FV) (μ' : MV), fcS_bit x1 σ = some (r, σ') ∧ mdS_bit x1 μ = some (r, μ') ∧ Rel (t + 1) σ' μ' := by
  obtain ⟨⟨rate, F, L, U, sg, wd, hd, cell, waits, bits, held, readings, broken, errors, jumps, streak, frame, number, user, course, wf, wc, wm, wh, p0, s0, o0, p1, s1, o1, p2, s2, o2⟩, next, known, R, Im, pl, sp, off, sn, sf, seen⟩ := σ
  obtain ⟨thrown, s, past, undos, kept, isk, seen', sn', sf'⟩ := μ
  have hm := rel_mono _ _ _ h
  obtain ⟨⟨hT, hR, hW, hc0, hc1, hc2⟩, hH, hI, hS⟩ := h
  dsimp only at hT hR hW hc0 hc1 hc2 hH hI hS
  obtain ⟨r, n, W, hh, f, l, u, hr, hn, hWW, hhW, rfl, rfl, rfl, rfl, e0, e1, e20, hk⟩ := hT
  obtain ⟨tp, hWb⟩ := tape0 hn hWW e1 hk
  unfold fcS_bit mdS_bit f_X8_bit f_X9_bit f_X5_bitsInAll
  dsimp only
  rw [tp, show (48 : Int32) * nI W = nI (48 * W) from pk_mul 48 W]
  simp only [Option.bind_some]
  have hm1 : (nI (48 * W) - (1 : Int32)).toInt = ((48 * W : Nat) : Int) - 1 := sub_toInt (nI_toInt (by omega)) rfl (by omega) (by omega)
  rw [in_eq]
  rcases pk_ix x1 (n := 48 * W) (by omega) with h1 | h1 | ⟨j, hj, rfl⟩
  · rw [if_pos h1, if_neg (show ¬ ((0 : Int32) ≤ x1 ∧ x1 ≤ nI (48 * W) - 1) from fun h => by have a := le_iff.mp h.1; have b := lt_iff.mp h1; omega)]
    simp only [Option.bind_some, if_true]
    exact ⟨_, _, _, rfl, rfl, hm⟩
  · have b1 := le_iff.mp h1
    rw [nI_toInt (by omega)] at b1
    rw [if_neg (show ¬ x1 < 0 from fun h => by have b := lt_iff.mp h; have h2 : (0 : Int32).toInt = 0 := rfl; omega), if_neg (show ¬ x1 < nI (48 * W) from fun h => by have b := lt_iff.mp h; rw [nI_toInt (by omega)] at b; omega), if_neg (show ¬ ((0 : Int32) ≤ x1 ∧ x1 ≤ nI (48 * W) - 1) from fun h => by have a := le_iff.mp h.2; rw [hm1] at a; omega)]
    simp only [Option.bind_some, if_true]
    exact ⟨_, _, _, rfl, rfl, hm⟩
  · rw [if_neg (nI_pos (by omega)), if_pos (nI_lt hj (by omega)), if_pos (show (0 : Int32) ≤ nI j ∧ nI j ≤ nI (48 * W) - 1 from ⟨nI_pos' (by omega), le_iff.mpr (by rw [hm1, nI_toInt (by omega)]; omega)⟩)]
    simp only [Option.bind_some, d10, if_false]
    obtain ⟨Wd, w1, w2, w3⟩ := bit_eq hr hn e0 hk (show j < 48 * sm l n by rw [← hWW]; exact hj)
    rw [w3, show nI j / (48 : Int32) = nI (j / 48) from div_nI (d := 48) (by omega) (by omega) (by omega), w2, Option.bind_some, Option.bind_some, show q_rem (nI j) (48 : Int32) = nI (j % 48) from rem_nI (d := 48) (by omega) (by omega) (by omega), bitOf_eq (by unfold wv; omega) (by omega)]
    simp only [Option.bind_some]
    exact ⟨_, _, _, rfl, rfl, hm⟩
theorem ne_out {x : Int32} {b : Nat} (hb : b < 2 ^ 31) (h : x < 0 ∨ nI b < x) {k : Nat} (hk : k ≤ b) : ¬ x = nI k := by
  intro e
  subst e
  rcases h with h | h
  · exact nI_pos (by omega) h
  · have := (nI_ltI (a := b) (b := k) hb (by omega)).mp h
    omega
theorem sim_reader {t : Nat} (ht : t < 512) (x1 : Int32) {σ : FV} {μ : MV} (h : Rel t σ μ) : ∃ (r : Int32) (σ' : FV) (μ' : MV), fcS_reader x1 σ = some (r, σ') ∧ mdS_reader x1 μ = some (r, μ') ∧ Rel (t + 1) σ' μ' := by
  obtain ⟨⟨rate, F, L, U, sg, wd, hd, cell, waits, bits, held, readings, broken, errors, jumps, streak, frame, number, user, course, wf, wc, wm, wh, p0, s0, o0, p1, s1, o1, p2, s2, o2⟩, next, known, R, Im, pl, sp, off, sn, sf, seen⟩ := σ
  obtain ⟨thrown, s, past, undos, kept, isk, seen', sn', sf'⟩ := μ
  have hm := rel_mono _ _ _ h
  obtain ⟨⟨hT, hR, hW, hc0, hc1, hc2⟩, hH, hI, hS⟩ := h
  dsimp only at hT hR hW hc0 hc1 hc2 hH hI hS
  unfold fcS_reader mdS_reader f_X9_reader
  dsimp only
  obtain ⟨B, h, q, _, _, _, rfl, rfl, rfl, h21, h22, h23, h24, h25, h26, h27, h28, _⟩ := hR
  rcases inC x1 0 7 with ⟨e, hb⟩ | ⟨e, g1, g2, g3⟩
  · rw [e]
    have ho := fun k (hk : k ≤ 7) => ne_out (b := 7) (by omega) hb hk
    unfold f_X8_reader
    rw [if_neg (show ¬ x1 = (0 : Int32) from ho 0 (by omega)), if_neg (show ¬ x1 = (1 : Int32) from ho 1 (by omega)), if_neg (show ¬ x1 = (2 : Int32) from ho 2 (by omega)), if_neg (show ¬ x1 = (3 : Int32) from ho 3 (by omega)), if_neg (show ¬ x1 = (4 : Int32) from ho 4 (by omega)), if_neg (show ¬ x1 = (5 : Int32) from ho 5 (by omega)), if_neg (show ¬ x1 = (6 : Int32) from ho 6 (by omega)), if_neg (show ¬ x1 = (7 : Int32) from ho 7 (by omega))]
    simp only [Option.bind_some, if_true]
    exact ⟨_, _, _, rfl, rfl, hm⟩
  obtain ⟨j, hj, rfl⟩ := nI_of2 (M := 7) (n := 7) rfl g1 g3
  rw [e]
  simp only [Option.bind_some, d10, if_false]
  rw [show (21 : Int32) + nI j = nI (21 + j) from nI_add 21 j, gd_nI (by omega) (by omega), nI_clamp (by omega)]
  have fin : ∀ a : Int32, f_X8_reader (nI j) cell waits (nI h) (nI q) broken errors jumps streak = some a → s (21 + j) = a → ∃ (r : Int32) (σ' : FV) (μ' : MV), ((f_X8_reader (nI j) cell waits (nI h) (nI q) broken errors jumps streak).bind fun q_1 => some (q_1, ((rate, F, L, U, sg, wd, hd, cell, waits, lN B, nI h, nI q, broken, errors, jumps, streak, frame, number, user, course, wf, wc, wm, wh, p0, s0, o0, p1, s1, o1, p2, s2, o2), next, known, R, Im, pl, sp, off, sn, sf, seen))) = some (r, σ') ∧ ((some (s (21 + j), (0 : Int32))).bind fun q => some (q.1, (q.2, s, past, undos, kept, isk, seen', sn', sf'))) = some (r, μ') ∧ Rel (t + 1) σ' μ' := by
    intro a h1 h2
    rw [h1, h2]
    exact ⟨_, _, _, rfl, rfl, hm⟩
  rcases (show j = 0 ∨ j = 1 ∨ j = 2 ∨ j = 3 ∨ j = 4 ∨ j = 5 ∨ j = 6 ∨ j = 7 by omega) with rfl | rfl | rfl | rfl | rfl | rfl | rfl | rfl
  · exact fin _ rfl h21
  · exact fin _ rfl h22
  · exact fin _ rfl h23
  · exact fin _ rfl h24
  · exact fin _ rfl h25
  · exact fin _ rfl h26
  · exact fin _ rfl h27
  · exact fin _ rfl h28
theorem sim_reading {t : Nat} (ht : t < 512) (x1 : Int32) {σ : FV} {μ : MV} (h : Rel t σ μ) : ∃ (r : Int32) (σ' : FV) (μ' : MV), fcS_reading x1 σ = some (r, σ') ∧ mdS_reading x1 μ = some (r, μ') ∧ Rel (t + 1) σ' μ' := by
  obtain ⟨⟨rate, F, L, U, sg, wd, hd, cell, waits, bits, held, readings, broken, errors, jumps, streak, frame, number, user, course, wf, wc, wm, wh, p0, s0, o0, p1, s1, o1, p2, s2, o2⟩, next, known, R, Im, pl, sp, off, sn, sf, seen⟩ := σ
  obtain ⟨thrown, s, past, undos, kept, isk, seen', sn', sf'⟩ := μ
  have hm := rel_mono _ _ _ h
  obtain ⟨⟨hT, hR, hW, hc0, hc1, hc2⟩, hH, hI, hS⟩ := h
  dsimp only at hT hR hW hc0 hc1 hc2 hH hI hS
  unfold fcS_reading mdS_reading f_X9_reading f_X8_reading
  dsimp only
  obtain ⟨B, h, q, _, _, hq, rfl, rfl, rfl, h21, h22, h23, h24, h25, h26, h27, h28, h29, h30, _⟩ := hR
  rcases inC x1 0 3 with ⟨e, hb⟩ | ⟨e, g1, g2, g3⟩
  · rw [e, cA hb]
    simp only [Option.bind_some, if_true]
    exact ⟨_, _, _, rfl, rfl, hm⟩
  rw [e, if_neg g1, if_pos g3, read_eq (show q < 2 ^ 31 by omega)]
  simp only [Option.bind_some, d10, if_false]
  obtain ⟨j, hj, rfl⟩ := nI_of2 (M := 3) (n := 3) rfl g1 g3
  by_cases hq0 : q = 0
  · rw [if_pos hq0] at h29
    rw [if_pos (show (if q = 0 then (0 : Int32) else 1) = 0 by rw [if_pos hq0]), if_pos h29]
    exact ⟨_, _, _, rfl, rfl, hm⟩
  · rw [if_neg hq0] at h29
    rw [if_neg (show ¬ (if q = 0 then (0 : Int32) else 1) = 0 by rw [if_neg hq0]; decide), if_neg (show ¬ s 29 = 0 by rw [h29]; decide), show (30 : Int32) + nI j = nI (30 + j) from nI_add 30 j, gd_nI (by omega) (by omega), nI_clamp (by omega)]
    obtain ⟨c1, c2, c3, c4⟩ := h30 hq0
    rcases (show j = 0 ∨ j = 1 ∨ j = 2 ∨ j = 3 by omega) with rfl | rfl | rfl | rfl
    · rw [if_pos (show nI 0 = (0 : Int32) from rfl), show s (30 + 0) = frame from c1]; exact ⟨_, _, _, rfl, rfl, hm⟩
    · rw [if_neg (show ¬ nI 1 = (0 : Int32) by decide), if_pos (show nI 1 = (1 : Int32) from rfl), show s (30 + 1) = number from c2]; exact ⟨_, _, _, rfl, rfl, hm⟩
    · rw [if_neg (show ¬ nI 2 = (0 : Int32) by decide), if_neg (show ¬ nI 2 = (1 : Int32) by decide), if_pos (show nI 2 = (2 : Int32) from rfl), show s (30 + 2) = user from c3]; exact ⟨_, _, _, rfl, rfl, hm⟩
    · rw [if_neg (show ¬ nI 3 = (0 : Int32) by decide), if_neg (show ¬ nI 3 = (1 : Int32) by decide), if_neg (show ¬ nI 3 = (2 : Int32) by decide), show s (30 + 3) = course from c4]; exact ⟨_, _, _, rfl, rfl, hm⟩
theorem sim_wheel {t : Nat} (ht : t < 512) (x1 : Int32) {σ : FV} {μ : MV} (h : Rel t σ μ) : ∃ (r : Int32) (σ' : FV) (μ' : MV), fcS_wheel x1 σ = some (r, σ') ∧ mdS_wheel x1 μ = some (r, μ') ∧ Rel (t + 1) σ' μ' := by
  obtain ⟨⟨rate, F, L, U, sg, wd, hd, cell, waits, bits, held, readings, broken, errors, jumps, streak, frame, number, user, course, wf, wc, wm, wh, p0, s0, o0, p1, s1, o1, p2, s2, o2⟩, next, known, R, Im, pl, sp, off, sn, sf, seen⟩ := σ
  obtain ⟨thrown, s, past, undos, kept, isk, seen', sn', sf'⟩ := μ
  have hm := rel_mono _ _ _ h
  obtain ⟨⟨hT, hR, hW, hc0, hc1, hc2⟩, hH, hI, hS⟩ := h
  dsimp only at hT hR hW hc0 hc1 hc2 hH hI hS
  unfold fcS_wheel mdS_wheel f_X9_wheel f_X8_wheel
  dsimp only
  have h28 := RdR_28 hR
  obtain ⟨hw1, hw2, hw3, hw4, hw5⟩ := hW
  rcases inC x1 0 4 with ⟨e, hb⟩ | ⟨e, g1, g2, g3⟩
  · rw [e]
    have ho := fun k (hk : k ≤ 4) => ne_out (b := 4) (by omega) hb hk
    rw [if_neg (show ¬ x1 = (0 : Int32) from ho 0 (by omega)), if_neg (show ¬ x1 = (1 : Int32) from ho 1 (by omega)), if_neg (show ¬ x1 = (2 : Int32) from ho 2 (by omega)), if_neg (show ¬ x1 = (3 : Int32) from ho 3 (by omega)), if_neg (show ¬ x1 = (4 : Int32) from ho 4 (by omega))]
    simp only [Option.bind_some, if_true]
    exact ⟨_, _, _, rfl, rfl, hm⟩
  obtain ⟨j, hj, rfl⟩ := nI_of2 (M := 4) (n := 4) rfl g1 g3
  rw [e]
  simp only [Option.bind_some, d10, if_false]
  rw [show (34 : Int32) + nI j = nI (34 + j) from nI_add 34 j]
  rcases (show j = 0 ∨ j = 1 ∨ j = 2 ∨ j = 3 ∨ j = 4 by omega) with rfl | rfl | rfl | rfl | rfl
  · rw [if_pos (show nI 0 = (0 : Int32) from rfl), if_neg (show ¬ nI 0 = (4 : Int32) by decide), gd_nI (by omega) (by omega), nI_clamp (by omega), show s (34 + 0) = wf from hw2]; exact ⟨_, _, _, rfl, rfl, hm⟩
  · rw [if_neg (show ¬ nI 1 = (0 : Int32) by decide), if_pos (show nI 1 = (1 : Int32) from rfl), if_neg (show ¬ nI 1 = (4 : Int32) by decide), gd_nI (by omega) (by omega), nI_clamp (by omega), show s (34 + 1) = wc from hw3]; exact ⟨_, _, _, rfl, rfl, hm⟩
  · rw [if_neg (show ¬ nI 2 = (0 : Int32) by decide), if_neg (show ¬ nI 2 = (1 : Int32) by decide), if_pos (show nI 2 = (2 : Int32) from rfl), if_neg (show ¬ nI 2 = (4 : Int32) by decide), gd_nI (by omega) (by omega), nI_clamp (by omega), show s (34 + 2) = wm from hw4]; exact ⟨_, _, _, rfl, rfl, hm⟩
  · rw [if_neg (show ¬ nI 3 = (0 : Int32) by decide), if_neg (show ¬ nI 3 = (1 : Int32) by decide), if_neg (show ¬ nI 3 = (2 : Int32) by decide), if_pos (show nI 3 = (3 : Int32) from rfl), if_neg (show ¬ nI 3 = (4 : Int32) by decide), gd_nI (by omega) (by omega), nI_clamp (by omega), show s (34 + 3) = wh from hw5]; exact ⟨_, _, _, rfl, rfl, hm⟩
  · rw [if_neg (show ¬ nI 4 = (0 : Int32) by decide), if_neg (show ¬ nI 4 = (1 : Int32) by decide), if_neg (show ¬ nI 4 = (2 : Int32) by decide), if_neg (show ¬ nI 4 = (3 : Int32) by decide), if_pos (show nI 4 = (4 : Int32) from rfl), if_pos (show nI 4 = (4 : Int32) from rfl)]
    rcases lock_eq h28 with ⟨k1, k2⟩ | ⟨k1, k2⟩
    · rw [k1, k2]
      simp only [Option.bind_some, if_true]
      exact ⟨_, _, _, rfl, rfl, hm⟩
    · rw [k1, k2]
      simp only [Option.bind_some, d10, if_false]
      exact ⟨_, _, _, rfl, rfl, hm⟩
theorem sim_count {t : Nat} (ht : t < 512) (x1 : Int32) {σ : FV} {μ : MV} (h : Rel t σ μ) : ∃ (r : Int32) (σ' : FV) (μ' : MV), fcS_count x1 σ = some (r, σ') ∧ mdS_count x1 μ = some (r, μ') ∧ Rel (t + 1) σ' μ' := by
  obtain ⟨⟨rate, F, L, U, sg, wd, hd, cell, waits, bits, held, readings, broken, errors, jumps, streak, frame, number, user, course, wf, wc, wm, wh, p0, s0, o0, p1, s1, o1, p2, s2, o2⟩, next, known, R, Im, pl, sp, off, sn, sf, seen⟩ := σ
  obtain ⟨thrown, s, past, undos, kept, isk, seen', sn', sf'⟩ := μ
  have hm := rel_mono _ _ _ h
  obtain ⟨⟨hT, hR, hW, hc0, hc1, hc2⟩, hH, hI, hS⟩ := h
  dsimp only at hT hR hW hc0 hc1 hc2 hH hI hS
  obtain ⟨r, n, W, hh, f, l, u, hr, hn, hWW, hhW, rfl, rfl, rfl, rfl, e0, e1, e20, hk⟩ := hT
  obtain ⟨tp, hWb⟩ := tape0 hn hWW e1 hk
  obtain ⟨uu, y, hu, hy, rfl, rfl, hnx, _⟩ := hH
  obtain ⟨m, hm6, rfl, rfl, _⟩ := hS
  unfold fcS_count mdS_count f_X9_count f_X8_count f_X5_bitsInAll
  dsimp only
  rw [tp, day4_eq hr, day9_eq hr e0, e0, e1, e20, show (48 : Int32) * nI W = nI (48 * W) from pk_mul 48 W]
  simp only [Option.bind_some]
  by_cases c0 : x1 = 0
  · rw [if_pos c0, if_pos c0]; exact ⟨_, _, _, rfl, rfl, hm⟩
  rw [if_neg c0, if_neg c0]
  by_cases c1 : x1 = 1
  · rw [if_pos c1, if_pos c1]; exact ⟨_, _, _, rfl, rfl, hm⟩
  rw [if_neg c1, if_neg c1]
  by_cases c2 : x1 = 2
  · rw [if_pos c2, if_pos c2]; exact ⟨_, _, _, rfl, rfl, hm⟩
  rw [if_neg c2, if_neg c2]
  by_cases c3 : x1 = 3
  · rw [if_pos c3, if_pos c3]; exact ⟨_, _, _, rfl, rfl, hm⟩
  rw [if_neg c3, if_neg c3]
  by_cases c4 : x1 = 4
  · rw [if_pos c4, if_pos c4]; exact ⟨_, _, _, rfl, rfl, hm⟩
  rw [if_neg c4, if_neg c4]
  by_cases c5 : x1 = 5
  · rw [if_pos c5, if_pos c5]; exact ⟨_, _, _, rfl, rfl, hm⟩
  rw [if_neg c5, if_neg c5]
  by_cases c6 : x1 = 6
  · rw [if_pos c6, if_pos c6]; exact ⟨_, _, _, rfl, rfl, hm⟩
  rw [if_neg c6, if_neg c6]; exact ⟨_, _, _, rfl, rfl, hm⟩
theorem sim_forget {t : Nat} (ht : t < 512) {σ : FV} {μ : MV} (h : Rel t σ μ) : ∃ (r : Int32) (σ' : FV) (μ' : MV), fcS_forget  σ = some (r, σ') ∧ mdS_forget  μ = some (r, μ') ∧ Rel (t + 1) σ' μ' := by
  obtain ⟨⟨rate, F, L, U, sg, wd, hd, cell, waits, bits, held, readings, broken, errors, jumps, streak, frame, number, user, course, wf, wc, wm, wh, p0, s0, o0, p1, s1, o1, p2, s2, o2⟩, next, known, R, Im, pl, sp, off, sn, sf, seen⟩ := σ
  obtain ⟨thrown, s, past, undos, kept, isk, seen', sn', sf'⟩ := μ
  have hm := rel_mono _ _ _ h
  obtain ⟨⟨hT, hR, hW, hc0, hc1, hc2⟩, hH, hI, hS⟩ := h
  dsimp only at hT hR hW hc0 hc1 hc2 hH hI hS
  obtain ⟨m, hm6, rfl, rfl, _⟩ := hS
  unfold fcS_forget mdS_forget f_X8_forget f_X9_forget
  exact ⟨_, _, _, rfl, rfl, StR_m (StR_mk hT hR hW hc0 hc1 hc2) (by omega), HsR_m hH (by omega), ImR_m hI (by omega), ⟨0, by omega, rfl, rfl, fun k hk => absurd hk (by omega)⟩⟩
theorem sim_sees {t : Nat} (ht : t < 512) (x1 x2 : Int32) {σ : FV} {μ : MV} (h : Rel t σ μ) : ∃ (r : Int32) (σ' : FV) (μ' : MV), fcS_sees x1 x2 σ = some (r, σ') ∧ mdS_sees x1 x2 μ = some (r, μ') ∧ Rel (t + 1) σ' μ' := by
  obtain ⟨⟨rate, F, L, U, sg, wd, hd, cell, waits, bits, held, readings, broken, errors, jumps, streak, frame, number, user, course, wf, wc, wm, wh, p0, s0, o0, p1, s1, o1, p2, s2, o2⟩, next, known, R, Im, pl, sp, off, sn, sf, seen⟩ := σ
  obtain ⟨thrown, s, past, undos, kept, isk, seen', sn', sf'⟩ := μ
  have hm := rel_mono _ _ _ h
  obtain ⟨⟨hT, hR, hW, hc0, hc1, hc2⟩, hH, hI, hS⟩ := h
  dsimp only at hT hR hW hc0 hc1 hc2 hH hI hS
  obtain ⟨m, hm6, rfl, rfl, hk⟩ := hS
  unfold fcS_sees mdS_sees f_X8_sees f_X9_sees
  dsimp only
  rcases isNum x1 with ⟨i1, i2⟩ | ⟨a, ha, rfl, i1, i2⟩
  · rw [i1, i2]
    simp only [Option.bind_some, if_true]
    exact ⟨_, _, _, rfl, rfl, hm⟩
  rw [i1, i2]
  simp only [Option.bind_some, d10, if_false]
  have main : ∃ (r : Int32) (σ' : FV) (μ' : MV), ((f_X8_sees_19 (nI a) x2 sn sf (nI m)).bind fun q => some (q.1, ((rate, F, L, U, sg, wd, hd, cell, waits, bits, held, readings, broken, errors, jumps, streak, frame, number, user, course, wf, wc, wm, wh, p0, s0, o0, p1, s1, o1, p2, s2, o2), next, known, R, Im, pl, sp, off, q.2.1, q.2.2.1, q.2.2.2))) = some (r, σ') ∧ ((f_X9_sees_27 (nI a) x2 0 (nI m) sn' sf').bind fun q => some (q.1, (q.2.1, s, past, undos, kept, isk, q.2.2.1, q.2.2.2.1, q.2.2.2.2))) = some (r, μ') ∧ Rel (t + 1) σ' μ' := by
    unfold f_X8_sees_19 f_X9_sees_27
    have c6 : nI m < (6 : Int32) ↔ m < 6 := nI_ltI (b := 6) (by omega) (by omega)
    have c6' : nI m = (6 : Int32) ↔ m = 6 := nI_eq (b := 6) (by omega) (by omega)
    rw [if_neg (nI_pos (by omega))]
    by_cases h6 : m = 6
    · rw [if_neg (fun h => absurd (c6.mp h) (by omega)), if_pos (c6'.mpr h6)]
      exact ⟨_, _, _, rfl, rfl, hm⟩
    rw [if_pos (c6.mpr (by omega)), if_neg (fun h => h6 (c6'.mp h))]
    simp only [nm]
    rw [gd_nI (by omega) (by omega), gd_nI (by omega) (by omega), gd_nI (by omega) (by omega), gd_nI (by omega) (by omega), nI_clamp (by omega), nI_1]
    have hse : SeR (upd sn m (nI a)) (upd sf m x2) (nI (m + 1)) (nI (m + 1)) (upd sn' m (nI a)) (upd sf' m x2) := by
      refine ⟨m + 1, by omega, rfl, rfl, fun k hkm => ?_⟩
      by_cases hkk : k = m
      · subst hkk; rw [pk_us, pk_us, pk_us, pk_us]; exact ⟨rfl, rfl, a, ha, rfl⟩
      · rw [pk_un hkk, pk_un hkk, pk_un hkk, pk_un hkk]; exact hk k (by omega)
    exact ⟨_, _, _, rfl, rfl, StR_m (StR_mk hT hR hW hc0 hc1 hc2) (by omega), HsR_m hH (by omega), ImR_m hI (by omega), hse⟩
  by_cases h0 : (0 : Int32) ≤ x2
  · rw [if_pos h0, if_pos h0]; exact main
  rw [if_neg h0, if_neg h0]
  by_cases h9 : x2 = -9
  · rw [if_pos h9, if_pos h9]; exact main
  rw [if_neg h9, if_neg h9]
  exact ⟨_, _, _, rfl, rfl, hm⟩
theorem agr {r n : Nat} {sn sf sn' sf' : Nat → Int32} {x1 th : Int32} (hr : r < 4) (hn : n ≤ 6) (hk : ∀ k, k < n → sn k = sn' k ∧ sf k = sf' k ∧ ∃ m : Nat, m < 2 ^ 31 ∧ sn' k = nI m) : ∃ b : Int32, (b = 0 ∨ b = 1) ∧ f_X8_agrees (nI r) sn sf (nI n) = some b ∧ lp (fb_X9_unseen_19 x1 (nI r) th (nI n) sn' sf') 100000 ((1 : Int32), (0 : Int32)) = some b := by
  have fr : ∃ g : Nat → Int32, ∀ k, k < n → f_X2_frameOf (nI r) (sn k) = some (g k) ∧ f_X9_frameOf (nI r) (sn' k) = some (g k) := by
    refine ⟨fun k => ((f_X9_frameOf (nI r) (sn' k)).getD 0), fun k hkn => ?_⟩
    obtain ⟨h1, h2, m, hm, h3⟩ := hk k hkn
    have h9 := frame9_eq hr hm
    have h8 := frame2_eq hr hm
    rw [← h3] at h9 h8
    dsimp only
    rw [h1, h9, h8]
    exact ⟨rfl, rfl⟩
  obtain ⟨g, hg⟩ := fr
  have bodyA : ∀ k, k < n → fb_X8_agrees_2 (nI r) sn sf (nI n) (nI k) = if g k = sf' k then some (.inl (nI (k + 1))) else some (.inr (.inl ())) := by
    intro k hkn
    unfold fb_X8_agrees_2
    simp only [nm]
    rw [if_neg (nI_ge hkn (by omega)), if_neg (show ¬ (6 : Int32) ≤ nI k from nI_ge (b := 6) (by omega) (by omega)), gd_nI (by omega) (by omega), nI_clamp (by omega), (hg k hkn).1, Option.bind_some, gd_nI (by omega) (by omega), (hk k hkn).2.1, nI_1]
  have bodyR : ∀ (k : Nat) (is : Int32), k < n → fb_X9_unseen_19 x1 (nI r) th (nI n) sn' sf' (is, nI k) = if is = 0 then some (.inl ((0 : Int32), nI (k + 1))) else if g k = sf' k then some (.inl ((1 : Int32), nI (k + 1))) else some (.inl ((0 : Int32), nI (k + 1))) := by
    intro k is hkn
    unfold fb_X9_unseen_19 f_X9_unseen_57 f_X9_unseen_58
    simp only [nm]
    rw [if_neg (nI_ge hkn (by omega)), gd_nI (by omega) (by omega), nI_clamp (by omega), (hg k hkn).2, Option.bind_some, gd_nI (by omega) (by omega), nI_1]
  have exA : fb_X8_agrees_2 (nI r) sn sf (nI n) (nI n) = some (.inr (.inr ())) := by
    unfold fb_X8_agrees_2
    rw [if_pos (nI_le (Nat.le_refl _) (by omega))]
  have exR : ∀ is : Int32, fb_X9_unseen_19 x1 (nI r) th (nI n) sn' sf' (is, nI n) = some (.inr is) := by
    intro is
    unfold fb_X9_unseen_19
    dsimp only
    rw [if_pos (nI_le (Nat.le_refl _) (by omega))]
  unfold f_X8_agrees
  by_cases hall : ∀ k, k < n → g k = sf' k
  · obtain ⟨a, a1, a2⟩ := lp_0 (body := fb_X8_agrees_2 (nI r) sn sf (nI n)) (fun k w => w = nI k) (fun a => a = .inr ()) n (by omega) (fun k hkn w hw => by subst hw; exact ⟨_, by rw [bodyA k hkn, if_pos (hall k hkn)], rfl⟩) (fun w hw => by subst hw; exact ⟨_, exA, rfl⟩) (x := (0 : Int32)) rfl
    obtain ⟨c, c1, c2⟩ := lp_0 (body := fb_X9_unseen_19 x1 (nI r) th (nI n) sn' sf') (fun k w => w = ((1 : Int32), nI k)) (fun a => a = 1) n (by omega) (fun k hkn w hw => by subst hw; exact ⟨_, by rw [bodyR k 1 hkn, if_neg (by decide), if_pos (hall k hkn)], rfl⟩) (fun w hw => by subst hw; exact ⟨_, exR 1, rfl⟩) (x := ((1 : Int32), (0 : Int32))) rfl
    rw [a1, c1, a2, c2]
    exact ⟨1, .inr rfl, rfl, rfl⟩
  · have hex : ∃ k, k < n ∧ ¬ g k = sf' k := by
      apply Classical.byContradiction
      intro hno
      exact hall (fun k hkn => Classical.byContradiction (fun h => hno ⟨k, hkn, h⟩))
    obtain ⟨k0, ⟨h1, h2⟩, h3⟩ := pk_least (fun k => k < n ∧ ¬ g k = sf' k) hex
    have hok : ∀ k, k < k0 → g k = sf' k := fun k hlt => Classical.byContradiction (fun h => h3 k hlt ⟨by omega, h⟩)
    obtain ⟨a, a1, a2⟩ := lp_0 (body := fb_X8_agrees_2 (nI r) sn sf (nI n)) (fun k w => w = nI k) (fun a => a = .inl ()) k0 (by omega) (fun k hkn w hw => by subst hw; exact ⟨_, by rw [bodyA k (by omega), if_pos (hok k hkn)], rfl⟩) (fun w hw => by subst hw; exact ⟨_, by rw [bodyA k0 h1, if_neg h2], rfl⟩) (x := (0 : Int32)) rfl
    obtain ⟨c, c1, c2⟩ := lp_0 (body := fb_X9_unseen_19 x1 (nI r) th (nI n) sn' sf') (fun k w => w = ((if k ≤ k0 then 1 else 0 : Int32), nI k)) (fun a => a = 0) n (by omega) (fun k hkn w hw => by
      subst hw
      refine ⟨_, ?_, rfl⟩
      rw [bodyR k _ hkn]
      by_cases hle : k ≤ k0
      · rw [if_pos hle, if_neg (by decide)]
        by_cases heq : k = k0
        · subst heq; rw [if_neg h2, if_neg (by omega)]
        · rw [if_pos (hok k (by omega)), if_pos (by omega)]
      · rw [if_neg hle, if_pos rfl, if_neg (by omega)]) (fun w hw => by subst hw; exact ⟨_, exR _, by rw [if_neg (by omega)]⟩) (x := ((1 : Int32), (0 : Int32))) (by rw [if_pos (Nat.zero_le _)]; rfl)
    rw [a1, c1, a2, c2]
    exact ⟨0, .inl rfl, rfl, rfl⟩
theorem sim_unseen {t : Nat} (ht : t < 512) {σ : FV} {μ : MV} (h : Rel t σ μ) : ∃ (r : Int32) (σ' : FV) (μ' : MV), fcS_unseen  σ = some (r, σ') ∧ mdS_unseen  μ = some (r, μ') ∧ Rel (t + 1) σ' μ' := by
  obtain ⟨⟨rate, F, L, U, sg, wd, hd, cell, waits, bits, held, readings, broken, errors, jumps, streak, frame, number, user, course, wf, wc, wm, wh, p0, s0, o0, p1, s1, o1, p2, s2, o2⟩, next, known, R, Im, pl, sp, off, sn, sf, seen⟩ := σ
  obtain ⟨thrown, s, past, undos, kept, isk, seen', sn', sf'⟩ := μ
  have hm := rel_mono _ _ _ h
  obtain ⟨⟨hT, hR, hW, hc0, hc1, hc2⟩, hH, hI, hS⟩ := h
  dsimp only at hT hR hW hc0 hc1 hc2 hH hI hS
  obtain ⟨m, hm6, rfl, rfl, hk⟩ := hS
  unfold fcS_unseen mdS_unseen f_X8_unseen f_X9_unseen
  dsimp only
  obtain ⟨a, b, g1, g2, rfl⟩ := lp_two0 (b := fb_X8_unseen_4 sn sf (nI m)) (b' := fb_X9_unseen_9 0 (nI m) sn' sf') (fun i w w' => w = w' ∧ w.2 = nI i) (fun a b => a = b) 4 (by omega) (by
    intro i hi w w' hw
    obtain ⟨v, k⟩ := w
    obtain ⟨rfl, rfl⟩ := hw
    by_cases h4 : i = 4
    · subst h4
      exact .inr ⟨v, v, fun n => lp_inr (by unfold fb_X8_unseen_4; rfl) _, fun n => lp_inr (by unfold fb_X9_unseen_9; rfl) _, rfl⟩
    · obtain ⟨b, hb, b1, b2⟩ := agr (x1 := v) (th := 0) (show i < 4 by omega) hm6 hk
      refine .inl ⟨by omega, (if b = 0 then v else v ||| ((1 : Int32) <<< (nI i &&& 31)), nI (i + 1)), _, ?_, ?_, rfl, rfl⟩
      · unfold fb_X8_unseen_4 f_X8_unseen_23
        simp only [nm]
        rw [if_neg (show ¬ (4 : Int32) ≤ nI i from nI_ge (b := 4) (by omega) (by omega)), b1, Option.bind_some, nI_1]
        split <;> rfl
      · unfold fb_X9_unseen_9 f_X9_unseen_77
        simp only [nm]
        rw [if_neg (show ¬ (4 : Int32) ≤ nI i from nI_ge (b := 4) (by omega) (by omega)), b2, Option.bind_some, nI_1, Int32.or_zero]
        split <;> rfl) (x := ((0 : Int32), (0 : Int32))) (y := ((0 : Int32), (0 : Int32))) ⟨rfl, rfl⟩
  rw [g1, g2]
  simp only [Option.bind_some]
  exact ⟨_, _, _, rfl, rfl, hm⟩
