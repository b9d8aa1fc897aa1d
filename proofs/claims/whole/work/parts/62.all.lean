/-! the chasers' calls, and all calls -/
theorem isCh (x : Int32) : (f_X9_isChaser x = some 0 ∧ ¬ x = 0 ∧ ¬ x = 1 ∧ ¬ x = 2) ∨ (f_X9_isChaser x = some 1 ∧ (x = nI 0 ∨ x = nI 1 ∨ x = nI 2)) := by
  unfold f_X9_isChaser
  rcases inC x 0 2 with ⟨e, hb⟩ | ⟨e, g1, g2, g3⟩
  · left
    rw [e]
    exact ⟨rfl, ne_out (b := 2) (by omega) hb (k := 0) (by omega), ne_out (b := 2) (by omega) hb (k := 1) (by omega), ne_out (b := 2) (by omega) hb (k := 2) (by omega)⟩
  · right
    rw [e]
    refine ⟨rfl, ?_⟩
    obtain ⟨j, hj, rfl⟩ := nI_of2 (M := 2) (n := 2) rfl g1 g3
    rcases (show j = 0 ∨ j = 1 ∨ j = 2 by omega) with rfl | rfl | rfl
    · exact .inl rfl
    · exact .inr (.inl rfl)
    · exact .inr (.inr rfl)
theorem cB3 {α : Type} {x : Int32} {A B C D : α} (h0 : ¬ x = 0) (h1 : ¬ x = 1) (h2 : ¬ x = 2) : (if x = 0 then A else if x = 1 then B else if x = 2 then C else D) = D := by rw [if_neg h0, if_neg h1, if_neg h2]
theorem c0 {α : Type} {A B C D : α} : (if nI 0 = (0 : Int32) then A else if nI 0 = (1 : Int32) then B else if nI 0 = (2 : Int32) then C else D) = A := if_pos rfl
theorem c1 {α : Type} {A B C D : α} : (if nI 1 = (0 : Int32) then A else if nI 1 = (1 : Int32) then B else if nI 1 = (2 : Int32) then C else D) = B := by rw [if_neg (by decide), if_pos (show nI 1 = (1 : Int32) from rfl)]
theorem c2 {α : Type} {A B C D : α} : (if nI 2 = (0 : Int32) then A else if nI 2 = (1 : Int32) then B else if nI 2 = (2 : Int32) then C else D) = C := by rw [if_neg (by decide), if_neg (by decide), if_pos (show nI 2 = (2 : Int32) from rfl)]
/-- what a chaser is asked -/
def chL (x2 rate wf p sp o : Int32) : Option Int32 := (if x2 = (0 : Int32) then (some p) else (if x2 = (1 : Int32) then (some sp) else (if x2 = (2 : Int32) then (some o) else (if x2 = (3 : Int32) then ((f_X4_day rate).bind fun r5 => ((f_X0_wayTo wf r5 p o).bind fun r6 => (some r6))) else (some (-2147483647 : Int32))))))
theorem chL_eq {c r w : Nat} {x2 p sp o th : Int32} {s : Nat → Int32} (hc : c < 3) (hr : r < 4) (h0 : s 0 = nI r) (hw : s 34 = nI w) (hw1 : w < 2592000) (h : ChR c p sp o s) (hi : f_X9_isChaser (nI c) = some 1) : ∃ a, chL x2 (nI r) (nI w) p sp o = some a ∧ f_X9_chaser (nI c) x2 th s = some (a, 0) := by
  obtain ⟨q, hq, rfl, a1, a2, a3, a4, a5⟩ := h
  obtain ⟨d0, d1⟩ := day_pos r
  unfold f_X9_chaser chL
  rw [hi, Option.bind_some, if_neg (show ¬ (1 : Int32) = 0 by decide)]
  rcases inC x2 0 3 with ⟨e, hb⟩ | ⟨e, g1, g2, g3⟩
  · rw [e, Option.bind_some, if_pos rfl]
    have ho := fun k (hk : k ≤ 3) => ne_out (b := 3) (by omega) hb hk
    rw [if_neg (show ¬ x2 = (0 : Int32) from ho 0 (by omega)), if_neg (show ¬ x2 = (1 : Int32) from ho 1 (by omega)), if_neg (show ¬ x2 = (2 : Int32) from ho 2 (by omega)), if_neg (show ¬ x2 = (3 : Int32) from ho 3 (by omega))]
    exact ⟨_, rfl, rfl⟩
  rw [e, Option.bind_some, if_neg (show ¬ (1 : Int32) = 0 by decide)]
  obtain ⟨j, hj, rfl⟩ := nI_of2 (M := 3) (n := 3) rfl g1 g3
  rw [ix0, nI_add]
  rcases (show j = 0 ∨ j = 1 ∨ j = 2 ∨ j = 3 by omega) with rfl | rfl | rfl | rfl
  · rw [if_pos (show nI 0 = (0 : Int32) from rfl), if_neg (show ¬ nI 0 = (3 : Int32) by decide), gd_nI (by omega) (by omega), nI_clamp (by omega), show s (38 + 3 * c + 0) = nI q from a1]; exact ⟨_, rfl, rfl⟩
  · rw [if_neg (show ¬ nI 1 = (0 : Int32) by decide), if_pos (show nI 1 = (1 : Int32) from rfl), if_neg (show ¬ nI 1 = (3 : Int32) by decide), gd_nI (by omega) (by omega), nI_clamp (by omega), a2]; exact ⟨_, rfl, rfl⟩
  · rw [if_neg (show ¬ nI 2 = (0 : Int32) by decide), if_neg (show ¬ nI 2 = (1 : Int32) by decide), if_pos (show nI 2 = (2 : Int32) from rfl), if_neg (show ¬ nI 2 = (3 : Int32) by decide), gd_nI (by omega) (by omega), nI_clamp (by omega), a3]; exact ⟨_, rfl, rfl⟩
  · rw [if_neg (show ¬ nI 3 = (0 : Int32) by decide), if_neg (show ¬ nI 3 = (1 : Int32) by decide), if_neg (show ¬ nI 3 = (2 : Int32) by decide), if_pos (show nI 3 = (3 : Int32) from rfl), if_pos (show nI 3 = (3 : Int32) from rfl), day4_eq hr, Option.bind_some, wayTo_eq hw1 hq a4 a5 d0 d1, wayOf_eq hc hr h0 hw a1 a3 hw1 hq a4 a5]
    exact ⟨_, rfl, rfl⟩
theorem sim_chaser {t : Nat} (ht : t < 512) (x1 x2 : Int32) {σ : FV} {μ : MV} (h : Rel t σ μ) : ∃ (r : Int32) (σ' : FV) (μ' : MV), fcS_chaser x1 x2 σ = some (r, σ') ∧ mdS_chaser x1 x2 μ = some (r, μ') ∧ Rel (t + 1) σ' μ' := by
  obtain ⟨⟨rate, F, L, U, sg, wd, hd, cell, waits, bits, held, readings, broken, errors, jumps, streak, frame, number, user, course, wf, wc, wm, wh, p0, s0, o0, p1, s1, o1, p2, s2, o2⟩, next, known, R, Im, pl, sp, off, sn, sf, seen⟩ := σ
  obtain ⟨thrown, s, past, undos, kept, isk, seen', sn', sf'⟩ := μ
  have hm := rel_mono _ _ _ h
  obtain ⟨⟨hT, hR, hW, hc0, hc1, hc2⟩, hH, hI, hS⟩ := h
  dsimp only at hT hR hW hc0 hc1 hc2 hH hI hS
  obtain ⟨r, n, W, hh, f, l, u, hr, hn, hWW, hhW, rfl, rfl, rfl, rfl, e0, e1, e20, hk⟩ := hT
  unfold fcS_chaser mdS_chaser f_X8_chaser
  dsimp only
  obtain ⟨⟨w, hw1, rfl⟩, hw2, hw3, hw4, hw5⟩ := hW
  rcases isCh x1 with ⟨e, k0, k1, k2⟩ | ⟨e, rfl | rfl | rfl⟩
  · rw [cB3 k0 k1 k2]
    unfold f_X8_chaser_vn f_X9_chaser
    rw [e]
    simp only [Option.bind_some, if_true]
    exact ⟨_, _, _, rfl, rfl, hm⟩
  · rw [c0]
    obtain ⟨a, a1, a2⟩ := chL_eq (c := 0) (x2 := x2) (th := thrown) (by omega) hr e0 hw2 hw1 hc0 e
    have a1' : f_X8_chaser_v0 (nI 0) x2 (nI r) (nI w) p0 s0 o0 p1 s1 o1 p2 s2 o2 = some a := a1
    rw [a1', a2]
    simp only [Option.bind_some]
    exact ⟨_, _, _, rfl, rfl, hm⟩
  · rw [c1]
    obtain ⟨a, a1, a2⟩ := chL_eq (c := 1) (x2 := x2) (th := thrown) (by omega) hr e0 hw2 hw1 hc1 e
    have a1' : f_X8_chaser_v1 (nI 1) x2 (nI r) (nI w) p0 s0 o0 p1 s1 o1 p2 s2 o2 = some a := a1
    rw [a1', a2]
    simp only [Option.bind_some]
    exact ⟨_, _, _, rfl, rfl, hm⟩
  · rw [c2]
    obtain ⟨a, a1, a2⟩ := chL_eq (c := 2) (x2 := x2) (th := thrown) (by omega) hr e0 hw2 hw1 hc2 e
    have a1' : f_X8_chaser_v2 (nI 2) x2 (nI r) (nI w) p0 s0 o0 p1 s1 o1 p2 s2 o2 = some a := a1
    rw [a1', a2]
    simp only [Option.bind_some]
    exact ⟨_, _, _, rfl, rfl, hm⟩
theorem sim_offsets {t : Nat} (ht : t < 512) (x1 x2 : Int32) {σ : FV} {μ : MV} (h : Rel t σ μ) : ∃ (r : Int32) (σ' : FV) (μ' : MV), fcS_offsets x1 x2 σ = some (r, σ') ∧ mdS_offsets x1 x2 μ = some (r, μ') ∧ Rel (t + 1) σ' μ' := by
  obtain ⟨⟨rate, F, L, U, sg, wd, hd, cell, waits, bits, held, readings, broken, errors, jumps, streak, frame, number, user, course, wf, wc, wm, wh, p0, s0, o0, p1, s1, o1, p2, s2, o2⟩, next, known, R, Im, pl, sp, off, sn, sf, seen⟩ := σ
  obtain ⟨thrown, s, past, undos, kept, isk, seen', sn', sf'⟩ := μ
  have hm := rel_mono _ _ _ h
  obtain ⟨⟨hT, hR, hW, hc0, hc1, hc2⟩, hH, hI, hS⟩ := h
  dsimp only at hT hR hW hc0 hc1 hc2 hH hI hS
  obtain ⟨nx, kn, R', past', un, a1, a2, a3⟩ := add_notes (v := (rate, F, L, U, sg, wd, hd, cell, waits, bits, held, readings, broken, errors, jumps, streak, frame, number, user, course, wf, wc, wm, wh, p0, s0, o0, p1, s1, o1, p2, s2, o2)) hH ⟨hT, hR, hW, hc0, hc1, hc2⟩
  have hH' := HsR_m a3 (show 9600 * t ≤ 9600 * (t + 1) by omega)
  have hI' := ImR_m hI (show 9600 * t ≤ 9600 * (t + 1) by omega)
  have hR' := RdR_m hR (show 9600 * t ≤ 9600 * (t + 1) by omega)
  unfold fcS_offsets mdS_offsets f_X8_offsets f_X9_offsets
  dsimp only
  rcases isCh x1 with ⟨e, k0, k1, k2⟩ | ⟨e, rfl | rfl | rfl⟩
  · rw [cB3 k0 k1 k2]
    unfold f_X8_offsets_vn
    rw [e]
    simp only [Option.bind_some, if_true]
    exact ⟨_, _, _, rfl, rfl, hm⟩
  · rw [c0, e]
    unfold f_X8_offsets_v0
    simp only [Option.bind_some, d10, if_false]
    rw [ix0, ix2, gd_nI (by omega) (by omega), nI_clamp (by omega)]
    have ho0 : s (38 + 3 * 0 + 2) = o0 := by obtain ⟨q, _, _, _, _, h5, _⟩ := hc0; exact h5
    rcases inC x2 (-99999) 99999 with ⟨e', hb⟩ | ⟨e', g1, g2, g3⟩
    · rw [e', cA hb]
      simp only [Option.bind_some, if_true]
      exact ⟨_, _, _, rfl, rfl, hm⟩
    rw [e', if_neg g1, if_pos g3]
    simp only [Option.bind_some, d10, if_false]
    by_cases hrr : x2 = o0
    · rw [if_pos hrr, if_pos (ho0.trans hrr.symm)]
      exact ⟨_, _, _, rfl, rfl, hm⟩
    rw [if_neg hrr, if_neg (show ¬ s (38 + 3 * 0 + 2) = x2 from fun h => hrr (h.symm.trans ho0)), a1, a2]
    simp only [Option.bind_some]
    rw [gd_nI (by omega) (by omega)]
    simp only [nm, Option.bind_some]
    have hu : ∀ j, j ≠ 38 + 3 * 0 + 2 → upd s (38 + 3 * 0 + 2) x2 j = s j := fun j hj => pk_un hj
    have hc' : ChR 0 p0 s0 x2 (upd s (38 + 3 * 0 + 2) x2) := by
      obtain ⟨q, b1, b2, b3, b4, b5, b6, b7⟩ := hc0
      refine ⟨q, b1, b2, by rw [hu _ (by omega)]; exact b3, by rw [hu _ (by omega)]; exact b4, pk_us, ?_, ?_⟩
      · have := fun h => g1 (lt_iff.mpr h)
        exact Int.not_lt.mp this
      · exact le_iff.mp g3
    have hst := StR_mk (TpR_c hT (fun j hj => hu j (by omega))) (RdR_c hR' (fun j h1 h2 => hu j (by omega)) (fun j h1 h2 => hu j (by omega))) (WhR_c hW (fun j h1 h2 => hu j (by omega))) hc' (ChR_c hc1 (fun j h1 h2 => hu j (by omega))) (ChR_c hc2 (fun j h1 h2 => hu j (by omega)))
    exact ⟨_, _, _, rfl, rfl, hst, hH', hI', hS⟩
  · rw [c1, e]
    unfold f_X8_offsets_v1
    simp only [Option.bind_some, d10, if_false]
    rw [ix0, ix2, gd_nI (by omega) (by omega), nI_clamp (by omega)]
    have ho1 : s (38 + 3 * 1 + 2) = o1 := by obtain ⟨q, _, _, _, _, h5, _⟩ := hc1; exact h5
    rcases inC x2 (-99999) 99999 with ⟨e', hb⟩ | ⟨e', g1, g2, g3⟩
    · rw [e', cA hb]
      simp only [Option.bind_some, if_true]
      exact ⟨_, _, _, rfl, rfl, hm⟩
    rw [e', if_neg g1, if_pos g3]
    simp only [Option.bind_some, d10, if_false]
    by_cases hrr : x2 = o1
    · rw [if_pos hrr, if_pos (ho1.trans hrr.symm)]
      exact ⟨_, _, _, rfl, rfl, hm⟩
    rw [if_neg hrr, if_neg (show ¬ s (38 + 3 * 1 + 2) = x2 from fun h => hrr (h.symm.trans ho1)), a1, a2]
    simp only [Option.bind_some]
    rw [gd_nI (by omega) (by omega)]
    simp only [nm, Option.bind_some]
    have hu : ∀ j, j ≠ 38 + 3 * 1 + 2 → upd s (38 + 3 * 1 + 2) x2 j = s j := fun j hj => pk_un hj
    have hc' : ChR 1 p1 s1 x2 (upd s (38 + 3 * 1 + 2) x2) := by
      obtain ⟨q, b1, b2, b3, b4, b5, b6, b7⟩ := hc1
      refine ⟨q, b1, b2, by rw [hu _ (by omega)]; exact b3, by rw [hu _ (by omega)]; exact b4, pk_us, ?_, ?_⟩
      · have := fun h => g1 (lt_iff.mpr h)
        exact Int.not_lt.mp this
      · exact le_iff.mp g3
    have hst := StR_mk (TpR_c hT (fun j hj => hu j (by omega))) (RdR_c hR' (fun j h1 h2 => hu j (by omega)) (fun j h1 h2 => hu j (by omega))) (WhR_c hW (fun j h1 h2 => hu j (by omega))) (ChR_c hc0 (fun j h1 h2 => hu j (by omega))) hc' (ChR_c hc2 (fun j h1 h2 => hu j (by omega)))
    exact ⟨_, _, _, rfl, rfl, hst, hH', hI', hS⟩
  · rw [c2, e]
    unfold f_X8_offsets_v2
    simp only [Option.bind_some, d10, if_false]
    rw [ix0, ix2, gd_nI (by omega) (by omega), nI_clamp (by omega)]
    have ho2 : s (38 + 3 * 2 + 2) = o2 := by obtain ⟨q, _, _, _, _, h5, _⟩ := hc2; exact h5
    rcases inC x2 (-99999) 99999 with ⟨e', hb⟩ | ⟨e', g1, g2, g3⟩
    · rw [e', cA hb]
      simp only [Option.bind_some, if_true]
      exact ⟨_, _, _, rfl, rfl, hm⟩
    rw [e', if_neg g1, if_pos g3]
    simp only [Option.bind_some, d10, if_false]
    by_cases hrr : x2 = o2
    · rw [if_pos hrr, if_pos (ho2.trans hrr.symm)]
      exact ⟨_, _, _, rfl, rfl, hm⟩
    rw [if_neg hrr, if_neg (show ¬ s (38 + 3 * 2 + 2) = x2 from fun h => hrr (h.symm.trans ho2)), a1, a2]
    simp only [Option.bind_some]
    rw [gd_nI (by omega) (by omega)]
    simp only [nm, Option.bind_some]
    have hu : ∀ j, j ≠ 38 + 3 * 2 + 2 → upd s (38 + 3 * 2 + 2) x2 j = s j := fun j hj => pk_un hj
    have hc' : ChR 2 p2 s2 x2 (upd s (38 + 3 * 2 + 2) x2) := by
      obtain ⟨q, b1, b2, b3, b4, b5, b6, b7⟩ := hc2
      refine ⟨q, b1, b2, by rw [hu _ (by omega)]; exact b3, by rw [hu _ (by omega)]; exact b4, pk_us, ?_, ?_⟩
      · have := fun h => g1 (lt_iff.mpr h)
        exact Int.not_lt.mp this
      · exact le_iff.mp g3
    have hst := StR_mk (TpR_c hT (fun j hj => hu j (by omega))) (RdR_c hR' (fun j h1 h2 => hu j (by omega)) (fun j h1 h2 => hu j (by omega))) (WhR_c hW (fun j h1 h2 => hu j (by omega))) (ChR_c hc0 (fun j h1 h2 => hu j (by omega))) (ChR_c hc1 (fun j h1 h2 => hu j (by omega))) hc'
    exact ⟨_, _, _, rfl, rfl, hst, hH', hI', hS⟩
/-- many steps of a chaser -/
theorem many_eq {c r w m : Nat} {p sp o th un : Int32} {s past : Nat → Int32} {body : (Int32 × Int32 × Int32) → Option ((Int32 × Int32 × Int32) ⊕ (Int32 × Int32))} (hb : ∀ (k : Nat) (p sp p' sp' : Int32), k < m → f_X0_step (nI w) (nI (dayN r)) p sp o = some (p', sp') → body (nI k, p, sp) = some (.inl (nI (k + 1), p', sp'))) (he : ∀ p sp : Int32, body (nI m, p, sp) = some (.inr (p, sp))) (hc : c < 3) (hr : r < 4) (h0 : s 0 = nI r) (hw : s 34 = nI w) (hw1 : w < 2592000) (hm : m ≤ 1000) (h : ChR c p sp o s) : ∃ (p' sp' : Int32) (s' : Nat → Int32), lp body 100000 ((0 : Int32), p, sp) = some (p', sp') ∧ lp (fb_X9_chases_31 (nI c) (nI m) th past un) 100000 ((0 : Int32), s) = some s' ∧ ChR c p' sp' o s' ∧ ∀ j, j ≠ 38 + 3 * c → j ≠ 38 + 3 * c + 1 → s' j = s j := by
  obtain ⟨a, b, g1, g2, g3, g4⟩ := lp_two0 (b := body) (b' := fb_X9_chases_31 (nI c) (nI m) th past un) (fun i x y => ∃ (p1 sp1 : Int32) (s1 : Nat → Int32), x = (nI i, p1, sp1) ∧ y = (nI i, s1) ∧ ChR c p1 sp1 o s1 ∧ i ≤ m ∧ ∀ j, j ≠ 38 + 3 * c → j ≠ 38 + 3 * c + 1 → s1 j = s j) (fun a b => ChR c a.1 a.2 o b ∧ ∀ j, j ≠ 38 + 3 * c → j ≠ 38 + 3 * c + 1 → b j = s j) m (by omega) (by
    intro i hi x y hxy
    obtain ⟨p1, sp1, s1, rfl, rfl, hch, him, hs1⟩ := hxy
    by_cases hie : i = m
    · subst hie
      refine .inr ⟨(p1, sp1), s1, fun n => lp_inr (he p1 sp1) _, fun n => lp_inr ?_ _, hch, hs1⟩
      unfold fb_X9_chases_31
      dsimp only
      rw [if_pos (nI_le (Nat.le_refl _) (by omega))]
    · have hlt : i < m := by omega
      obtain ⟨p2, sp2, s2, e1, e2, e3, e4⟩ := step_eq hc hr (show s1 0 = nI r by rw [hs1 0 (by omega) (by omega)]; exact h0) (show s1 34 = nI w by rw [hs1 34 (by omega) (by omega)]; exact hw) hw1 hch
      refine .inl ⟨hlt, _, _, hb i p1 sp1 p2 sp2 hlt e1, ?_, p2, sp2, s2, rfl, rfl, e3, by omega, fun j h1 h2 => by rw [e4 j h1 h2]; exact hs1 j h1 h2⟩
      unfold fb_X9_chases_31
      simp only [nm]
      rw [if_neg (nI_ge hlt (by omega)), e2, Option.bind_some, nI_1]) (x := ((0 : Int32), p, sp)) (y := ((0 : Int32), s)) ⟨p, sp, s, rfl, rfl, h, Nat.zero_le _, fun j _ _ => rfl⟩
  exact ⟨a.1, a.2, b, g1, g2, g3, g4⟩
theorem sim_chases {t : Nat} (ht : t < 512) (x1 x2 : Int32) {σ : FV} {μ : MV} (h : Rel t σ μ) : ∃ (r : Int32) (σ' : FV) (μ' : MV), fcS_chases x1 x2 σ = some (r, σ') ∧ mdS_chases x1 x2 μ = some (r, μ') ∧ Rel (t + 1) σ' μ' := by
  obtain ⟨⟨rate, F, L, U, sg, wd, hd, cell, waits, bits, held, readings, broken, errors, jumps, streak, frame, number, user, course, wf, wc, wm, wh, p0, s0, o0, p1, s1, o1, p2, s2, o2⟩, next, known, R, Im, pl, sp, off, sn, sf, seen⟩ := σ
  obtain ⟨thrown, s, past, undos, kept, isk, seen', sn', sf'⟩ := μ
  have hm := rel_mono _ _ _ h
  obtain ⟨⟨hT, hR, hW, hc0, hc1, hc2⟩, hH, hI, hS⟩ := h
  dsimp only at hT hR hW hc0 hc1 hc2 hH hI hS
  obtain ⟨nx, kn, R', past', un, a1, a2, a3⟩ := add_notes (v := (rate, F, L, U, sg, wd, hd, cell, waits, bits, held, readings, broken, errors, jumps, streak, frame, number, user, course, wf, wc, wm, wh, p0, s0, o0, p1, s1, o1, p2, s2, o2)) hH ⟨hT, hR, hW, hc0, hc1, hc2⟩
  have hH' := HsR_m a3 (show 9600 * t ≤ 9600 * (t + 1) by omega)
  have hI' := ImR_m hI (show 9600 * t ≤ 9600 * (t + 1) by omega)
  have hR' := RdR_m hR (show 9600 * t ≤ 9600 * (t + 1) by omega)
  have hTk := hT
  obtain ⟨r, n, W, hh, f, l, u, hr, hn, hWW, hhW, rfl, rfl, rfl, rfl, e0, e1, e20, hk⟩ := hT
  unfold fcS_chases mdS_chases f_X8_chases f_X9_chases
  dsimp only
  have hWk := hW
  obtain ⟨⟨w, hw1, rfl⟩, hw2, hw3, hw4, hw5⟩ := hW
  rcases isCh x1 with ⟨e, k0, k1, k2⟩ | ⟨e, rfl | rfl | rfl⟩
  · rw [cB3 k0 k1 k2]
    unfold f_X8_chases_vn
    rw [e]
    simp only [Option.bind_some, if_true]
    exact ⟨_, _, _, rfl, rfl, hm⟩
  · rw [c0, e]
    unfold f_X8_chases_v0
    simp only [Option.bind_some, d10, if_false]
    rcases inC x2 1 1000 with ⟨e', hb⟩ | ⟨e', g1, g2, g3⟩
    · rw [e', cA hb]
      simp only [Option.bind_some, if_true]
      exact ⟨_, _, _, rfl, rfl, hm⟩
    rw [e', if_neg g1, if_pos g3, a1, a2]
    simp only [Option.bind_some, d10, if_false]
    obtain ⟨m, hmm, rfl⟩ := nI_of2 (M := 1000) (n := 1000) rfl (fun h => g1 (lt_iff.mpr (by have := lt_iff.mp h; have h2 : (0 : Int32).toInt = 0 := rfl; have h3 : (1 : Int32).toInt = 1 := rfl; omega))) g3
    obtain ⟨p', sp', s', b1, b2, b3, b4⟩ := many_eq (c := 0) (m := m) (th := 0) (un := un) (past := past') (body := fb_X8_chases_v0_41 (nI m) (nI r) F L U (nI n) (nI W) (nI hh) cell waits bits held readings broken errors jumps streak frame number user course (nI w) wc wm wh o0 p1 s1 o1 p2 s2 o2 nx kn R') (fun k p sp p' sp' hk hst => by
      unfold fb_X8_chases_v0_41
      simp only [nm]
      rw [if_neg (nI_ge hk (by omega)), day4_eq hr, Option.bind_some, hst, Option.bind_some, nI_1]) (fun p sp => by
      unfold fb_X8_chases_v0_41
      dsimp only
      rw [if_pos (nI_le (Nat.le_refl _) (by omega))]) (by omega) hr e0 hw2 hw1 hmm hc0
    rw [b1, b2]
    simp only [Option.bind_some]
    rw [ix0, gd_nI (by omega) (by omega), nI_clamp (by omega)]
    have hp' : s' (38 + 3 * 0) = p' := by obtain ⟨q, _, h2, h3, _⟩ := b3; rw [h3, h2]
    rw [hp']
    have hst := StR_mk (TpR_c hTk (fun j hj => b4 j (by omega) (by omega))) (RdR_c hR' (fun j h1 h2 => b4 j (by omega) (by omega)) (fun j h1 h2 => b4 j (by omega) (by omega))) (WhR_c hWk (fun j h1 h2 => b4 j (by omega) (by omega))) b3 (ChR_c hc1 (fun j h1 h2 => b4 j (by omega) (by omega))) (ChR_c hc2 (fun j h1 h2 => b4 j (by omega) (by omega)))
    exact ⟨_, _, _, rfl, rfl, hst, hH', hI', hS⟩
  · rw [c1, e]
    unfold f_X8_chases_v1
    simp only [Option.bind_some, d10, if_false]
    rcases inC x2 1 1000 with ⟨e', hb⟩ | ⟨e', g1, g2, g3⟩
    · rw [e', cA hb]
      simp only [Option.bind_some, if_true]
      exact ⟨_, _, _, rfl, rfl, hm⟩
    rw [e', if_neg g1, if_pos g3, a1, a2]
    simp only [Option.bind_some, d10, if_false]
    obtain ⟨m, hmm, rfl⟩ := nI_of2 (M := 1000) (n := 1000) rfl (fun h => g1 (lt_iff.mpr (by have := lt_iff.mp h; have h2 : (0 : Int32).toInt = 0 := rfl; have h3 : (1 : Int32).toInt = 1 := rfl; omega))) g3
    obtain ⟨p', sp', s', b1, b2, b3, b4⟩ := many_eq (c := 1) (m := m) (th := 0) (un := un) (past := past') (body := fb_X8_chases_v1_41 (nI m) (nI r) F L U (nI n) (nI W) (nI hh) cell waits bits held readings broken errors jumps streak frame number user course (nI w) wc wm wh p0 s0 o0 o1 p2 s2 o2 nx kn R') (fun k p sp p' sp' hk hst => by
      unfold fb_X8_chases_v1_41
      simp only [nm]
      rw [if_neg (nI_ge hk (by omega)), day4_eq hr, Option.bind_some, hst, Option.bind_some, nI_1]) (fun p sp => by
      unfold fb_X8_chases_v1_41
      dsimp only
      rw [if_pos (nI_le (Nat.le_refl _) (by omega))]) (by omega) hr e0 hw2 hw1 hmm hc1
    rw [b1, b2]
    simp only [Option.bind_some]
    rw [ix0, gd_nI (by omega) (by omega), nI_clamp (by omega)]
    have hp' : s' (38 + 3 * 1) = p' := by obtain ⟨q, _, h2, h3, _⟩ := b3; rw [h3, h2]
    rw [hp']
    have hst := StR_mk (TpR_c hTk (fun j hj => b4 j (by omega) (by omega))) (RdR_c hR' (fun j h1 h2 => b4 j (by omega) (by omega)) (fun j h1 h2 => b4 j (by omega) (by omega))) (WhR_c hWk (fun j h1 h2 => b4 j (by omega) (by omega))) (ChR_c hc0 (fun j h1 h2 => b4 j (by omega) (by omega))) b3 (ChR_c hc2 (fun j h1 h2 => b4 j (by omega) (by omega)))
    exact ⟨_, _, _, rfl, rfl, hst, hH', hI', hS⟩
  · rw [c2, e]
    unfold f_X8_chases_v2
    simp only [Option.bind_some, d10, if_false]
    rcases inC x2 1 1000 with ⟨e', hb⟩ | ⟨e', g1, g2, g3⟩
    · rw [e', cA hb]
      simp only [Option.bind_some, if_true]
      exact ⟨_, _, _, rfl, rfl, hm⟩
    rw [e', if_neg g1, if_pos g3, a1, a2]
    simp only [Option.bind_some, d10, if_false]
    obtain ⟨m, hmm, rfl⟩ := nI_of2 (M := 1000) (n := 1000) rfl (fun h => g1 (lt_iff.mpr (by have := lt_iff.mp h; have h2 : (0 : Int32).toInt = 0 := rfl; have h3 : (1 : Int32).toInt = 1 := rfl; omega))) g3
    obtain ⟨p', sp', s', b1, b2, b3, b4⟩ := many_eq (c := 2) (m := m) (th := 0) (un := un) (past := past') (body := fb_X8_chases_v2_41 (nI m) (nI r) F L U (nI n) (nI W) (nI hh) cell waits bits held readings broken errors jumps streak frame number user course (nI w) wc wm wh p0 s0 o0 p1 s1 o1 o2 nx kn R') (fun k p sp p' sp' hk hst => by
      unfold fb_X8_chases_v2_41
      simp only [nm]
      rw [if_neg (nI_ge hk (by omega)), day4_eq hr, Option.bind_some, hst, Option.bind_some, nI_1]) (fun p sp => by
      unfold fb_X8_chases_v2_41
      dsimp only
      rw [if_pos (nI_le (Nat.le_refl _) (by omega))]) (by omega) hr e0 hw2 hw1 hmm hc2
    rw [b1, b2]
    simp only [Option.bind_some]
    rw [ix0, gd_nI (by omega) (by omega), nI_clamp (by omega)]
    have hp' : s' (38 + 3 * 2) = p' := by obtain ⟨q, _, h2, h3, _⟩ := b3; rw [h3, h2]
    rw [hp']
    have hst := StR_mk (TpR_c hTk (fun j hj => b4 j (by omega) (by omega))) (RdR_c hR' (fun j h1 h2 => b4 j (by omega) (by omega)) (fun j h1 h2 => b4 j (by omega) (by omega))) (WhR_c hWk (fun j h1 h2 => b4 j (by omega) (by omega))) (ChR_c hc0 (fun j h1 h2 => b4 j (by omega) (by omega))) (ChR_c hc1 (fun j h1 h2 => b4 j (by omega) (by omega))) b3
    exact ⟨_, _, _, rfl, rfl, hst, hH', hI', hS⟩
/-- how many steps till it is there -/
theorem till_eq {c r w : Nat} {p sp o x2 x3 th : Int32} {s : Nat → Int32} {body : (Int32 × Int32 × Int32) → Option ((Int32 × Int32 × Int32) ⊕ ((Int32 × Int32 × Int32) ⊕ (Int32 × Int32)))} (hb : ∀ (k : Nat) (p sp p' sp' : Int32), k ≤ 3000 → f_X0_isAt (nI w) (nI (dayN r)) p sp o = some 0 → f_X0_step (nI w) (nI (dayN r)) p sp o = some (p', sp') → body (nI k, p, sp) = some (.inl (nI (k + 1), p', sp'))) (hat : ∀ (k : Nat) (p sp : Int32), k ≤ 3000 → f_X0_isAt (nI w) (nI (dayN r)) p sp o = some 1 → body (nI k, p, sp) = some (.inr (.inl (nI k, p, sp)))) (he : ∀ p sp : Int32, body (nI 3001, p, sp) = some (.inr (.inr (p, sp)))) (hc : c < 3) (hr : r < 4) (h0 : s 0 = nI r) (hw : s 34 = nI w) (hw1 : w < 2592000) (h : ChR c p sp o s) : ∃ (a : (Int32 × Int32 × Int32) ⊕ (Int32 × Int32)) (its : Int32 × (Nat → Int32)) (r1 : Int32), lp body 100000 ((0 : Int32), p, sp) = some a ∧ lp (fb_X9_there_43 (nI c) x2 x3 th) 100000 ((0 : Int32), s) = some its ∧ (∀ j, j ≠ 38 + 3 * c → j ≠ 38 + 3 * c + 1 → its.2 j = s j) ∧ ((∃ p' sp', a = .inl (its.1, p', sp') ∧ f_X9_isThere (nI c) its.2 = some 1) ∨ (∃ p' sp', a = .inr (p', sp') ∧ f_X9_isThere (nI c) its.2 = some 0)) := by
  obtain ⟨a, b, g1, g2, g3, g4⟩ := lp_two0 (b := body) (b' := fb_X9_there_43 (nI c) x2 x3 th) (fun i x y => ∃ (p1 sp1 : Int32) (s1 : Nat → Int32), x = (nI i, p1, sp1) ∧ y = (nI i, s1) ∧ ChR c p1 sp1 o s1 ∧ ∀ j, j ≠ 38 + 3 * c → j ≠ 38 + 3 * c + 1 → s1 j = s j) (fun a its => (∀ j, j ≠ 38 + 3 * c → j ≠ 38 + 3 * c + 1 → its.2 j = s j) ∧ ((∃ p' sp', a = .inl (its.1, p', sp') ∧ f_X9_isThere (nI c) its.2 = some 1) ∨ (∃ p' sp', a = .inr (p', sp') ∧ f_X9_isThere (nI c) its.2 = some 0))) 3000 (by omega) (by
    intro i hi x y hxy
    obtain ⟨p1, sp1, s1, rfl, rfl, hch, hs1⟩ := hxy
    have h10 : s1 0 = nI r := by rw [hs1 0 (by omega) (by omega)]; exact h0
    have h134 : s1 34 = nI w := by rw [hs1 34 (by omega) (by omega)]; exact hw
    obtain ⟨b, hb01, hb1, hb2⟩ := there_eq hc hr h10 h134 hw1 hch
    obtain ⟨p2, sp2, s2, e1, e2, e3, e4⟩ := step_eq hc hr h10 h134 hw1 hch
    have e3000 : (3000 : Int32) ≤ nI i ↔ 3000 ≤ i := nI_leI (a := 3000) (by omega) (by omega)
    by_cases h3 : i = 3000
    · subst h3
      have hex : ∀ n, lp (fb_X9_there_43 (nI c) x2 x3 th) (n + 2) (nI 3000, s1) = some (nI 3000, s1) := fun n => lp_inr (by
        unfold fb_X9_there_43
        dsimp only
        rw [if_pos (e3000.mpr (by omega))]) _
      rcases hb01 with rfl | rfl
      · exact .inr ⟨_, _, fun n => lp_inl (hb 3000 p1 sp1 p2 sp2 (by omega) hb1 e1) (lp_inr (he p2 sp2) n), hex, hs1, .inr ⟨p2, sp2, rfl, hb2⟩⟩
      · exact .inr ⟨_, _, fun n => lp_inr (hat 3000 p1 sp1 (by omega) hb1) _, hex, hs1, .inl ⟨p1, sp1, rfl, hb2⟩⟩
    · have hbody : fb_X9_there_43 (nI c) x2 x3 th (nI i, s1) = if b = 0 then some (.inl (nI (i + 1), s2)) else some (.inr (nI i, s1)) := by
        unfold fb_X9_there_43
        simp only [nm]
        rw [if_neg (fun h => h3 (by have := e3000.mp h; omega)), hb2, Option.bind_some, e2, Option.bind_some, nI_1]
      rcases hb01 with rfl | rfl
      · rw [if_pos rfl] at hbody
        exact .inl ⟨by omega, _, _, hb i p1 sp1 p2 sp2 (by omega) hb1 e1, hbody, p2, sp2, s2, rfl, rfl, e3, fun j h1 h2 => by rw [e4 j h1 h2]; exact hs1 j h1 h2⟩
      · rw [if_neg (by decide)] at hbody
        exact .inr ⟨_, _, fun n => lp_inr (hat i p1 sp1 (by omega) hb1) _, fun n => lp_inr hbody _, hs1, .inl ⟨p1, sp1, rfl, hb2⟩⟩) (x := ((0 : Int32), p, sp)) (y := ((0 : Int32), s)) ⟨p, sp, s, rfl, rfl, h, fun j _ _ => rfl⟩
  exact ⟨a, b, 0, g1, g2, g3, g4⟩
theorem sim_there {t : Nat} (ht : t < 512) (x1 : Int32) {σ : FV} {μ : MV} (h : Rel t σ μ) : ∃ (r : Int32) (σ' : FV) (μ' : MV), fcS_there x1 σ = some (r, σ') ∧ mdS_there x1 μ = some (r, μ') ∧ Rel (t + 1) σ' μ' := by
  obtain ⟨⟨rate, F, L, U, sg, wd, hd, cell, waits, bits, held, readings, broken, errors, jumps, streak, frame, number, user, course, wf, wc, wm, wh, p0, s0, o0, p1, s1, o1, p2, s2, o2⟩, next, known, R, Im, pl, sp, off, sn, sf, seen⟩ := σ
  obtain ⟨thrown, s, past, undos, kept, isk, seen', sn', sf'⟩ := μ
  have hm := rel_mono _ _ _ h
  obtain ⟨⟨hT, hR, hW, hc0, hc1, hc2⟩, hH, hI, hS⟩ := h
  dsimp only at hT hR hW hc0 hc1 hc2 hH hI hS
  have hTk := hT
  obtain ⟨r, n, W, hh, f, l, u, hr, hn, hWW, hhW, rfl, rfl, rfl, rfl, e0, e1, e20, hk⟩ := hT
  unfold fcS_there mdS_there f_X8_there f_X9_there
  dsimp only
  have hWk := hW
  obtain ⟨⟨w, hw1, rfl⟩, hw2, hw3, hw4, hw5⟩ := hW
  rcases isCh x1 with ⟨e, k0, k1, k2⟩ | ⟨e, rfl | rfl | rfl⟩
  · rw [cB3 k0 k1 k2]
    unfold f_X8_there_vn
    rw [e]
    simp only [Option.bind_some, if_true]
    exact ⟨_, _, _, rfl, rfl, hm⟩
  · rw [c0, e]
    unfold f_X8_there_v0 f_X0_copy
    simp only [Option.bind_some, d10, if_false, nm]
    rw [ix0, ix1, gd_nI (by omega) (by omega), gd_nI (by omega) (by omega), nI_clamp (by omega), nI_clamp (by omega)]
    obtain ⟨a, its, _, b1, b2, b3, b4⟩ := till_eq (c := 0) (x2 := s (38 + 3 * 0)) (x3 := s (38 + 3 * 0 + 1)) (th := 0) (body := fb_X8_there_v0_25 (nI r) (nI w) p0 s0 o0 p1 s1 o1 p2 s2 o2 o0) (fun k p sp p' sp' hk hat hst => by
      unfold fb_X8_there_v0_25
      simp only [nm]
      rw [if_neg (show ¬ (3000 : Int32) < nI k from nI_nlt (b := k) (a := 3000) (by omega) (by omega)), day4_eq hr, Option.bind_some, hat, Option.bind_some, if_pos rfl, Option.bind_some, hst, Option.bind_some, nI_1]) (fun k p sp hk hat => by
      unfold fb_X8_there_v0_25
      simp only [nm]
      rw [if_neg (show ¬ (3000 : Int32) < nI k from nI_nlt (b := k) (a := 3000) (by omega) (by omega)), day4_eq hr, Option.bind_some, hat, Option.bind_some, if_neg (by decide)]) (fun p sp => by
      unfold fb_X8_there_v0_25
      rfl) (by omega) hr e0 hw2 hw1 hc0
    rw [b1, b2]
    simp only [Option.bind_some]
    unfold f_X9_there_70 f_X9_there_85
    rw [ix0, ix1, gd_nI (by omega) (by omega), gd_nI (by omega) (by omega), nI_clamp (by omega), nI_clamp (by omega)]
    simp only [nm]
    have hss : ∀ j, upd (upd its.2 (38 + 3 * 0) (s (38 + 3 * 0))) (38 + 3 * 0 + 1) (s (38 + 3 * 0 + 1)) j = s j := by
      intro j
      by_cases h1 : j = 38 + 3 * 0 + 1
      · subst h1; rw [pk_us]
      · rw [pk_un h1]
        by_cases h2 : j = 38 + 3 * 0
        · subst h2; rw [pk_us]
        · rw [pk_un h2]; exact b3 j h2 h1
    have hst := StR_c (StR_m (StR_mk hTk hR hWk hc0 hc1 hc2) (show 9600 * t ≤ 9600 * (t + 1) by omega)) (fun j _ => hss j)
    rcases b4 with ⟨p', sp', rfl, h4⟩ | ⟨p', sp', rfl, h4⟩
    · rw [h4]
      simp only [Option.bind_some, d10, if_false, Sum.elim_inl]
      exact ⟨_, _, _, rfl, rfl, hst, HsR_m hH (by omega), ImR_m hI (by omega), hS⟩
    · rw [h4]
      simp only [Option.bind_some, if_true, Sum.elim_inr]
      exact ⟨_, _, _, rfl, rfl, hst, HsR_m hH (by omega), ImR_m hI (by omega), hS⟩
  · rw [c1, e]
    unfold f_X8_there_v1 f_X0_copy
    simp only [Option.bind_some, d10, if_false, nm]
    rw [ix0, ix1, gd_nI (by omega) (by omega), gd_nI (by omega) (by omega), nI_clamp (by omega), nI_clamp (by omega)]
    obtain ⟨a, its, _, b1, b2, b3, b4⟩ := till_eq (c := 1) (x2 := s (38 + 3 * 1)) (x3 := s (38 + 3 * 1 + 1)) (th := 0) (body := fb_X8_there_v1_25 (nI r) (nI w) p0 s0 o0 p1 s1 o1 p2 s2 o2 o1) (fun k p sp p' sp' hk hat hst => by
      unfold fb_X8_there_v1_25
      simp only [nm]
      rw [if_neg (show ¬ (3000 : Int32) < nI k from nI_nlt (b := k) (a := 3000) (by omega) (by omega)), day4_eq hr, Option.bind_some, hat, Option.bind_some, if_pos rfl, Option.bind_some, hst, Option.bind_some, nI_1]) (fun k p sp hk hat => by
      unfold fb_X8_there_v1_25
      simp only [nm]
      rw [if_neg (show ¬ (3000 : Int32) < nI k from nI_nlt (b := k) (a := 3000) (by omega) (by omega)), day4_eq hr, Option.bind_some, hat, Option.bind_some, if_neg (by decide)]) (fun p sp => by
      unfold fb_X8_there_v1_25
      rfl) (by omega) hr e0 hw2 hw1 hc1
    rw [b1, b2]
    simp only [Option.bind_some]
    unfold f_X9_there_70 f_X9_there_85
    rw [ix0, ix1, gd_nI (by omega) (by omega), gd_nI (by omega) (by omega), nI_clamp (by omega), nI_clamp (by omega)]
    simp only [nm]
    have hss : ∀ j, upd (upd its.2 (38 + 3 * 1) (s (38 + 3 * 1))) (38 + 3 * 1 + 1) (s (38 + 3 * 1 + 1)) j = s j := by
      intro j
      by_cases h1 : j = 38 + 3 * 1 + 1
      · subst h1; rw [pk_us]
      · rw [pk_un h1]
        by_cases h2 : j = 38 + 3 * 1
        · subst h2; rw [pk_us]
        · rw [pk_un h2]; exact b3 j h2 h1
    have hst := StR_c (StR_m (StR_mk hTk hR hWk hc0 hc1 hc2) (show 9600 * t ≤ 9600 * (t + 1) by omega)) (fun j _ => hss j)
    rcases b4 with ⟨p', sp', rfl, h4⟩ | ⟨p', sp', rfl, h4⟩
    · rw [h4]
      simp only [Option.bind_some, d10, if_false, Sum.elim_inl]
      exact ⟨_, _, _, rfl, rfl, hst, HsR_m hH (by omega), ImR_m hI (by omega), hS⟩
    · rw [h4]
      simp only [Option.bind_some, if_true, Sum.elim_inr]
      exact ⟨_, _, _, rfl, rfl, hst, HsR_m hH (by omega), ImR_m hI (by omega), hS⟩
  · rw [c2, e]
    unfold f_X8_there_v2 f_X0_copy
    simp only [Option.bind_some, d10, if_false, nm]
    rw [ix0, ix1, gd_nI (by omega) (by omega), gd_nI (by omega) (by omega), nI_clamp (by omega), nI_clamp (by omega)]
    obtain ⟨a, its, _, b1, b2, b3, b4⟩ := till_eq (c := 2) (x2 := s (38 + 3 * 2)) (x3 := s (38 + 3 * 2 + 1)) (th := 0) (body := fb_X8_there_v2_25 (nI r) (nI w) p0 s0 o0 p1 s1 o1 p2 s2 o2 o2) (fun k p sp p' sp' hk hat hst => by
      unfold fb_X8_there_v2_25
      simp only [nm]
      rw [if_neg (show ¬ (3000 : Int32) < nI k from nI_nlt (b := k) (a := 3000) (by omega) (by omega)), day4_eq hr, Option.bind_some, hat, Option.bind_some, if_pos rfl, Option.bind_some, hst, Option.bind_some, nI_1]) (fun k p sp hk hat => by
      unfold fb_X8_there_v2_25
      simp only [nm]
      rw [if_neg (show ¬ (3000 : Int32) < nI k from nI_nlt (b := k) (a := 3000) (by omega) (by omega)), day4_eq hr, Option.bind_some, hat, Option.bind_some, if_neg (by decide)]) (fun p sp => by
      unfold fb_X8_there_v2_25
      rfl) (by omega) hr e0 hw2 hw1 hc2
    rw [b1, b2]
    simp only [Option.bind_some]
    unfold f_X9_there_70 f_X9_there_85
    rw [ix0, ix1, gd_nI (by omega) (by omega), gd_nI (by omega) (by omega), nI_clamp (by omega), nI_clamp (by omega)]
    simp only [nm]
    have hss : ∀ j, upd (upd its.2 (38 + 3 * 2) (s (38 + 3 * 2))) (38 + 3 * 2 + 1) (s (38 + 3 * 2 + 1)) j = s j := by
      intro j
      by_cases h1 : j = 38 + 3 * 2 + 1
      · subst h1; rw [pk_us]
      · rw [pk_un h1]
        by_cases h2 : j = 38 + 3 * 2
        · subst h2; rw [pk_us]
        · rw [pk_un h2]; exact b3 j h2 h1
    have hst := StR_c (StR_m (StR_mk hTk hR hWk hc0 hc1 hc2) (show 9600 * t ≤ 9600 * (t + 1) by omega)) (fun j _ => hss j)
    rcases b4 with ⟨p', sp', rfl, h4⟩ | ⟨p', sp', rfl, h4⟩
    · rw [h4]
      simp only [Option.bind_some, d10, if_false, Sum.elim_inl]
      exact ⟨_, _, _, rfl, rfl, hst, HsR_m hH (by omega), ImR_m hI (by omega), hS⟩
    · rw [h4]
      simp only [Option.bind_some, if_true, Sum.elim_inr]
      exact ⟨_, _, _, rfl, rfl, hst, HsR_m hH (by omega), ImR_m hI (by omega), hS⟩
theorem sim_all : Sim Rel := by
  intro t ht i hi x1 x2 x3 x4 σ μ h
  rcases (show i = 0 ∨ i = 1 ∨ i = 2 ∨ i = 3 ∨ i = 4 ∨ i = 5 ∨ i = 6 ∨ i = 7 ∨ i = 8 ∨ i = 9 ∨ i = 10 ∨ i = 11 ∨ i = 12 ∨ i = 13 ∨ i = 14 ∨ i = 15 ∨ i = 16 ∨ i = 17 ∨ i = 18 ∨ i = 19 ∨ i = 20 ∨ i = 21 ∨ i = 22 ∨ i = 23 ∨ i = 24 ∨ i = 25 by omega) with rfl | rfl | rfl | rfl | rfl | rfl | rfl | rfl | rfl | rfl | rfl | rfl | rfl | rfl | rfl | rfl | rfl | rfl | rfl | rfl | rfl | rfl | rfl | rfl | rfl | rfl
  · exact sim_rates ht x1 h
  · exact sim_number ht x1 h
  · exact sim_frame ht x1 h
  · exact sim_dropped ht x1 x2 h
  · exact sim_lays ht x1 x2 x3 h
  · exact sim_winds ht x1 h
  · exact sim_bit ht x1 h
  · exact sim_plays ht x1 x2 x3 x4 h
  · exact sim_edge ht x1 h
  · exact sim_begins ht  h
  · exact sim_reader ht x1 h
  · exact sim_reading ht x1 h
  · exact sim_misses ht  h
  · exact sim_holds ht x1 h
  · exact sim_wheel ht x1 h
  · exact sim_offsets ht x1 x2 h
  · exact sim_chases ht x1 x2 h
  · exact sim_chaser ht x1 x2 h
  · exact sim_there ht x1 h
  · exact sim_undo ht  h
  · exact sim_sees ht x1 x2 h
  · exact sim_forget ht  h
  · exact sim_unseen ht  h
  · exact sim_keep ht x1 h
  · exact sim_back ht x1 h
  · exact sim_count ht x1 h
