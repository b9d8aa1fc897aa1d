/-! more calls that change something -/
theorem StR_mk {N : Nat} {rate : Int32} {F L U : Nat → Int32} {sg wd hd cell waits : Int32} {bits : Int64} {held readings broken errors jumps streak frame number user course wf wc wm wh p0 s0 o0 p1 s1 o1 p2 s2 o2 : Int32} {s : Nat → Int32} (hT : TpR rate F L U sg wd hd s) (hR : RdR N cell waits bits held readings broken errors jumps streak frame number user course s) (hW : WhR wf wc wm wh s) (h0 : ChR 0 p0 s0 o0 s) (h1 : ChR 1 p1 s1 o1 s) (h2 : ChR 2 p2 s2 o2 s) : StR N (rate, F, L, U, sg, wd, hd, cell, waits, bits, held, readings, broken, errors, jumps, streak, frame, number, user, course, wf, wc, wm, wh, p0, s0, o0, p1, s1, o1, p2, s2, o2) s := ⟨hT, hR, hW, h0, h1, h2⟩
theorem sim_edge {t : Nat} (ht : t < 512) (x1 : Int32) {σ : FV} {μ : MV} (h : Rel t σ μ) : ∃ (r : Int32) (σ' : FV) (μ' : MV), fcS_edge x1 σ = some (r, σ') ∧ mdS_edge x1 μ = some (r, μ') ∧ Rel (t + 1) σ' μ' := by
  obtain ⟨⟨rate, F, L, U, sg, wd, hd, cell, waits, bits, held, readings, broken, errors, jumps, streak, frame, number, user, course, wf, wc, wm, wh, p0, s0, o0, p1, s1, o1, p2, s2, o2⟩, next, known, R, Im, pl, sp, off, sn, sf, seen⟩ := σ
  obtain ⟨thrown, s, past, undos, kept, isk, seen', sn', sf'⟩ := μ
  have hm := rel_mono _ _ _ h
  obtain ⟨⟨hT, hR, hW, hc0, hc1, hc2⟩, hH, hI, hS⟩ := h
  dsimp only at hT hR hW hc0 hc1 hc2 hH hI hS
  obtain ⟨nx, kn, R', past', un, a1, a2, a3⟩ := add_notes (v := (rate, F, L, U, sg, wd, hd, cell, waits, bits, held, readings, broken, errors, jumps, streak, frame, number, user, course, wf, wc, wm, wh, p0, s0, o0, p1, s1, o1, p2, s2, o2)) hH ⟨hT, hR, hW, hc0, hc1, hc2⟩
  have hH' := HsR_m a3 (show 9600 * t ≤ 9600 * (t + 1) by omega)
  have hI' := ImR_m hI (show 9600 * t ≤ 9600 * (t + 1) by omega)
  have hR' := RdR_m hR (show 9600 * t ≤ 9600 * (t + 1) by omega)
  have hTk := hT
  obtain ⟨r, n, W, hh, f, l, u, hr, hn, hWW, hhW, rfl, rfl, rfl, rfl, e0, e1, e20, hk⟩ := hT
  unfold fcS_edge mdS_edge f_X8_edge f_X9_edge
  dsimp only
  rcases inC x1 1 9999 with ⟨e, hb⟩ | ⟨e, g1, g2, g3⟩
  · rw [e, cA hb]
    simp only [Option.bind_some, if_true]
    exact ⟨_, _, _, rfl, rfl, hm⟩
  rw [e, if_neg g1, if_pos g3, a1, a2]
  simp only [Option.bind_some, d10, if_false]
  obtain ⟨q, s', b1, b2, b3, b4, b5⟩ := hear_q (q := (cell, waits, bits, held, readings, broken, errors, jumps, streak, frame, number, user, course, wf, wc, wm)) (d := x1) hr (show 9600 * t + 1 < 2 ^ 31 by omega) e0 hR hW
  dsimp only at b1
  rw [b1, b2, Option.bind_some, Option.bind_some]
  simp only [Option.bind_some]
  have hheld : q.2.2.2.1 = s' 23 := by
    obtain ⟨B, h2, q2, _, _, _, _, c1, _, _, _, c2, _⟩ := b3
    rw [c2]; exact c1
  rw [hheld]
  exact ⟨_, _, _, rfl, rfl, ⟨TpR_c hTk (fun j hj => b5 j (by omega)), hheld ▸ RdR_m b3 (by omega), b4, ChR_c hc0 (fun j h1 h2 => b5 j (by omega)), ChR_c hc1 (fun j h1 h2 => b5 j (by omega)), ChR_c hc2 (fun j h1 h2 => b5 j (by omega))⟩, hH', hI', hS⟩
theorem zero29 {s : Nat → Int32} {x th un : Int32} {p : Nat → Int32} : ∃ s', lp (fb_X9_begins_29 x th p un) 100000 ((22 : Int32), s) = some s' ∧ ∀ i, s' i = if 22 ≤ i ∧ i ≤ 29 then 0 else s i := by
  obtain ⟨r, h1, h2⟩ := lp_run (body := fb_X9_begins_29 x th p un) (fun k w => w.1 = nI (22 + k) ∧ ∀ i, w.2 i = if 22 ≤ i ∧ i < 22 + k then 0 else s i) (fun r => ∀ i, r i = if 22 ≤ i ∧ i ≤ 29 then 0 else s i) 8 (by
    intro k hk w hw
    obtain ⟨w1, P⟩ := w
    obtain ⟨rfl, hP⟩ := hw
    dsimp only at hP
    refine ⟨(nI (22 + (k + 1)), upd P (22 + k) 0), ?_, rfl, ?_⟩
    · unfold fb_X9_begins_29
      simp only [nm]
      rw [if_neg (show ¬ (29 : Int32) < nI (22 + k) from nI_nlt (b := 22 + k) (a := 29) (by omega) (by omega)), gd_nI (by omega) (by omega), nI_clamp (by omega), nI_1, Nat.add_assoc]
    · intro i
      show upd P (22 + k) 0 i = _
      by_cases hi : i = 22 + k
      · subst hi; rw [pk_us, if_pos (by omega)]
      · rw [pk_un hi, hP i]
        by_cases h3 : 22 ≤ i ∧ i < 22 + k
        · rw [if_pos h3, if_pos (by omega)]
        · rw [if_neg h3, if_neg (by omega)]) (by
    intro w hw
    obtain ⟨w1, P⟩ := w
    obtain ⟨rfl, hP⟩ := hw
    dsimp only at hP
    refine ⟨P, by unfold fb_X9_begins_29; rfl, fun i => ?_⟩
    rw [hP i]
    by_cases h3 : 22 ≤ i ∧ i ≤ 29
    · rw [if_pos h3, if_pos (by omega)]
    · rw [if_neg h3, if_neg (by omega)]) 8 100000 0 ((22 : Int32), s) (by omega) (by omega) ⟨rfl, fun i => by rw [if_neg (by omega)]⟩
  exact ⟨r, h1, h2⟩
theorem sim_begins {t : Nat} (ht : t < 512) {σ : FV} {μ : MV} (h : Rel t σ μ) : ∃ (r : Int32) (σ' : FV) (μ' : MV), fcS_begins  σ = some (r, σ') ∧ mdS_begins  μ = some (r, μ') ∧ Rel (t + 1) σ' μ' := by
  obtain ⟨⟨rate, F, L, U, sg, wd, hd, cell, waits, bits, held, readings, broken, errors, jumps, streak, frame, number, user, course, wf, wc, wm, wh, p0, s0, o0, p1, s1, o1, p2, s2, o2⟩, next, known, R, Im, pl, sp, off, sn, sf, seen⟩ := σ
  obtain ⟨thrown, s, past, undos, kept, isk, seen', sn', sf'⟩ := μ
  have hm := rel_mono _ _ _ h
  obtain ⟨⟨hT, hR, hW, hc0, hc1, hc2⟩, hH, hI, hS⟩ := h
  dsimp only at hT hR hW hc0 hc1 hc2 hH hI hS
  obtain ⟨nx, kn, R', past', un, a1, a2, a3⟩ := add_notes (v := (rate, F, L, U, sg, wd, hd, cell, waits, bits, held, readings, broken, errors, jumps, streak, frame, number, user, course, wf, wc, wm, wh, p0, s0, o0, p1, s1, o1, p2, s2, o2)) hH ⟨hT, hR, hW, hc0, hc1, hc2⟩
  have hH' := HsR_m a3 (show 9600 * t ≤ 9600 * (t + 1) by omega)
  have hI' := ImR_m hI (show 9600 * t ≤ 9600 * (t + 1) by omega)
  have hR' := RdR_m hR (show 9600 * t ≤ 9600 * (t + 1) by omega)
  unfold fcS_begins mdS_begins f_X8_begins f_X9_begins f_X3_startAnew f_X3_letGo
  dsimp only
  rw [a1, a2]
  simp only [Option.bind_some, nm]
  obtain ⟨s', b1, b2⟩ := zero29 (s := upd s 21 40) (x := s 24) (th := 0) (un := un) (p := past')
  rw [b1, Option.bind_some]
  have h24 : s 24 = readings := by obtain ⟨B, h, q, _, _, _, _, _, h6, _, _, _, h24, _⟩ := hR; rw [h24, h6]
  rw [h24]
  have b3 : ∀ i, i < 21 ∨ 30 ≤ i → s' i = s i := fun i hi => by rw [b2 i, if_neg (by omega), pk_un (by omega)]
  have b4 : ∀ i, 22 ≤ i → i ≤ 29 → s' i = 0 := fun i h1 h2 => by rw [b2 i, if_pos ⟨h1, h2⟩]
  exact ⟨_, _, _, rfl, rfl, ⟨TpR_c hT (fun j hj => b3 j (by omega)), ⟨0, 0, 0, by omega, by omega, by omega, rfl, rfl, rfl, (show s' 21 = 40 by rw [b2 21, if_neg (by omega), pk_us]), b4 22 (by omega) (by omega), b4 23 (by omega) (by omega), b4 24 (by omega) (by omega), b4 25 (by omega) (by omega), b4 26 (by omega) (by omega), b4 27 (by omega) (by omega), b4 28 (by omega) (by omega), b4 29 (by omega) (by omega), fun h => absurd rfl h, fun j hj => absurd hj (by omega)⟩, WhR_c hW (fun j h1 h2 => b3 j (by omega)), ChR_c hc0 (fun j h1 h2 => b3 j (by omega)), ChR_c hc1 (fun j h1 h2 => b3 j (by omega)), ChR_c hc2 (fun j h1 h2 => b3 j (by omega))⟩, hH', hI', hS⟩
theorem RdR_str {N : Nat} {a b : Int32} {c : Int64} {d e f g h i j k l m x : Int32} {s s' : Nat → Int32} (H : RdR N a b c d e f g h i j k l m s) (hx : s' 28 = x) (hs : ∀ y, y ≠ 28 → 21 ≤ y → y ≤ 33 ∨ 47 ≤ y → s' y = s y) : RdR N a b c d e f g h x j k l m s' := by
  obtain ⟨B, w, q, h1, h2, h3, h4, h5, h6, h7, h8, h9, h10, h11, h12, h13, h14, h15, h16, h17⟩ := H
  refine ⟨B, w, q, h1, h2, h3, h4, h5, h6, ?_, ?_, ?_, ?_, ?_, ?_, ?_, hx, ?_, ?_, ?_⟩
  · rw [hs _ (by omega) (by omega) (by omega)]; exact h7
  · rw [hs _ (by omega) (by omega) (by omega)]; exact h8
  · rw [hs _ (by omega) (by omega) (by omega)]; exact h9
  · rw [hs _ (by omega) (by omega) (by omega)]; exact h10
  · rw [hs _ (by omega) (by omega) (by omega)]; exact h11
  · rw [hs _ (by omega) (by omega) (by omega)]; exact h12
  · rw [hs _ (by omega) (by omega) (by omega)]; exact h13
  · rw [hs _ (by omega) (by omega) (by omega)]; exact h15
  · rw [hs 30 (by omega) (by omega) (by omega), hs 31 (by omega) (by omega) (by omega), hs 32 (by omega) (by omega) (by omega), hs 33 (by omega) (by omega) (by omega)]; exact h16
  · intro y hy; rw [hs _ (by omega) (by omega) (by omega)]; exact h17 y hy
theorem RdR_28 {N : Nat} {a b : Int32} {c : Int64} {d e f g h i j k l m : Int32} {s : Nat → Int32} (H : RdR N a b c d e f g h i j k l m s) : s 28 = i := by
  obtain ⟨B, w, q, h1, h2, h3, h4, h5, h6, h7, h8, h9, h10, h11, h12, h13, h14, h15⟩ := H
  exact h14
theorem lock_eq {x : Int32} {s : Nat → Int32} (h : s 28 = x) : (f_X3_isLocked x = some 0 ∧ f_X9_isLocked s = some 0) ∨ (f_X3_isLocked x = some 1 ∧ f_X9_isLocked s = some 1) := by
  unfold f_X3_isLocked f_X9_isLocked
  subst h
  simp only [lt3]
  split
  · exact .inl ⟨rfl, rfl⟩
  · exact .inr ⟨rfl, rfl⟩
theorem sim_misses {t : Nat} (ht : t < 512) {σ : FV} {μ : MV} (h : Rel t σ μ) : ∃ (r : Int32) (σ' : FV) (μ' : MV), fcS_misses  σ = some (r, σ') ∧ mdS_misses  μ = some (r, μ') ∧ Rel (t + 1) σ' μ' := by
  obtain ⟨⟨rate, F, L, U, sg, wd, hd, cell, waits, bits, held, readings, broken, errors, jumps, streak, frame, number, user, course, wf, wc, wm, wh, p0, s0, o0, p1, s1, o1, p2, s2, o2⟩, next, known, R, Im, pl, sp, off, sn, sf, seen⟩ := σ
  obtain ⟨thrown, s, past, undos, kept, isk, seen', sn', sf'⟩ := μ
  have hm := rel_mono _ _ _ h
  obtain ⟨⟨hT, hR, hW, hc0, hc1, hc2⟩, hH, hI, hS⟩ := h
  dsimp only at hT hR hW hc0 hc1 hc2 hH hI hS
  obtain ⟨nx, kn, R', past', un, a1, a2, a3⟩ := add_notes (v := (rate, F, L, U, sg, wd, hd, cell, waits, bits, held, readings, broken, errors, jumps, streak, frame, number, user, course, wf, wc, wm, wh, p0, s0, o0, p1, s1, o1, p2, s2, o2)) hH ⟨hT, hR, hW, hc0, hc1, hc2⟩
  have hH' := HsR_m a3 (show 9600 * t ≤ 9600 * (t + 1) by omega)
  have hI' := ImR_m hI (show 9600 * t ≤ 9600 * (t + 1) by omega)
  have hR' := RdR_m hR (show 9600 * t ≤ 9600 * (t + 1) by omega)
  have hTk := hT
  obtain ⟨r, n, W, hh, f, l, u, hr, hn, hWW, hhW, rfl, rfl, rfl, rfl, e0, e1, e20, hk⟩ := hT
  unfold fcS_misses mdS_misses f_X8_misses f_X9_misses f_X4_miss f_X9_misses_73
  dsimp only
  rw [a1, a2]
  simp only [Option.bind_some, nm]
  obtain ⟨⟨w, hw1, rfl⟩, hw2, hw3, hw4, hw5⟩ := hW
  have hun : ∀ rr, rr = (0 : Int32) → ∃ (r_1 : Int32) (σ' : FV) (μ' : MV), some ((nI w), ((nI r, F, L, U, nI n, nI W, nI hh, cell, waits, bits, held, readings, broken, errors, jumps, rr, frame, number, user, course, nI w, wc, wm, wh, p0, s0, o0, p1, s1, o1, p2, s2, o2), nx, kn, R', Im, pl, sp, off, sn, sf, seen)) = some (r_1, σ') ∧ some ((upd s 28 0) 34, ((0 : Int32), upd s 28 0, past', un, kept, isk, seen', sn', sf')) = some (r_1, μ') ∧ Rel (t + 1) σ' μ' := by
    intro rr hrr
    subst hrr
    rw [pk_un (show 34 ≠ 28 by omega), hw2]
    exact ⟨_, _, _, rfl, rfl, ⟨TpR_c hTk (fun j hj => pk_un (by omega)), RdR_str hR' (show (upd s 28 0) 28 = 0 from pk_us) (fun y h1 h2 h3 => pk_un h1), WhR_c (⟨⟨w, hw1, rfl⟩, hw2, hw3, hw4, hw5⟩ : WhR (nI w) wc wm wh s) (fun j h1 h2 => pk_un (by omega)), ChR_c hc0 (fun j h1 h2 => pk_un (by omega)), ChR_c hc1 (fun j h1 h2 => pk_un (by omega)), ChR_c hc2 (fun j h1 h2 => pk_un (by omega))⟩, hH', hI', hS⟩
  rcases lock_eq (RdR_28 hR) with ⟨k1, k2⟩ | ⟨k1, k2⟩
  · rw [k1, k2]
    simp only [Option.bind_some, if_true]
    exact hun 0 rfl
  rw [k1, k2]
  simp only [Option.bind_some, d10, if_false]
  rw [day4_eq hr, Option.bind_some]
  unfold f_X6_coast
  simp only [nm]
  by_cases hmh : wm < wh
  · rw [if_pos hmh, if_neg (show ¬ s 37 ≤ s 36 by rw [hw4, hw5]; intro h; have a := le_iff.mp h; have b := lt_iff.mp hmh; omega)]
    obtain ⟨d0, d1⟩ := day_pos r
    have hq := md_lt (x := (nI w + wc).toInt) d0
    rw [floor_eq _ d0 (by omega), Option.bind_some, Option.bind_some, pk_un (show 34 ≠ 36 by omega), pk_un (show 35 ≠ 36 by omega), hw2, hw3, hw4, around_eq _ hr (by rw [pk_un (by omega)]; exact e0), Option.bind_some]
    simp only [Option.bind_some, d10, if_false, pk_us]
    refine ⟨_, _, _, rfl, rfl, ⟨TpR_c hTk (fun j hj => ?_), RdR_c hR' (fun j h1 h2 => ?_) (fun j h1 h2 => ?_), ⟨⟨_, by omega, rfl⟩, ?_, ?_, ?_, ?_⟩, ChR_c hc0 (fun j h1 h2 => ?_), ChR_c hc1 (fun j h1 h2 => ?_), ChR_c hc2 (fun j h1 h2 => ?_)⟩, hH', hI', hS⟩
    all_goals dsimp only
    all_goals simp (disch := omega) only [pk_un, pk_us]
    · exact hw3
    · exact hw5
  · rw [if_neg hmh, if_pos (show s 37 ≤ s 36 by rw [hw4, hw5]; exact le_iff.mpr (Int.not_lt.mp (fun h => hmh (lt_iff.mpr h))))]
    simp only [Option.bind_some, if_true]
    exact hun 0 rfl
theorem sim_holds {t : Nat} (ht : t < 512) (x1 : Int32) {σ : FV} {μ : MV} (h : Rel t σ μ) : ∃ (r : Int32) (σ' : FV) (μ' : MV), fcS_holds x1 σ = some (r, σ') ∧ mdS_holds x1 μ = some (r, μ') ∧ Rel (t + 1) σ' μ' := by
  obtain ⟨⟨rate, F, L, U, sg, wd, hd, cell, waits, bits, held, readings, broken, errors, jumps, streak, frame, number, user, course, wf, wc, wm, wh, p0, s0, o0, p1, s1, o1, p2, s2, o2⟩, next, known, R, Im, pl, sp, off, sn, sf, seen⟩ := σ
  obtain ⟨thrown, s, past, undos, kept, isk, seen', sn', sf'⟩ := μ
  have hm := rel_mono _ _ _ h
  obtain ⟨⟨hT, hR, hW, hc0, hc1, hc2⟩, hH, hI, hS⟩ := h
  dsimp only at hT hR hW hc0 hc1 hc2 hH hI hS
  obtain ⟨nx, kn, R', past', un, a1, a2, a3⟩ := add_notes (v := (rate, F, L, U, sg, wd, hd, cell, waits, bits, held, readings, broken, errors, jumps, streak, frame, number, user, course, wf, wc, wm, wh, p0, s0, o0, p1, s1, o1, p2, s2, o2)) hH ⟨hT, hR, hW, hc0, hc1, hc2⟩
  have hH' := HsR_m a3 (show 9600 * t ≤ 9600 * (t + 1) by omega)
  have hI' := ImR_m hI (show 9600 * t ≤ 9600 * (t + 1) by omega)
  have hR' := RdR_m hR (show 9600 * t ≤ 9600 * (t + 1) by omega)
  unfold fcS_holds mdS_holds f_X8_holds f_X9_holds
  dsimp only
  have hW' : WhR wf wc wm x1 (upd s 37 x1) := by
    obtain ⟨hw1, hw2, hw3, hw4, hw5⟩ := hW
    exact ⟨hw1, by rw [pk_un (by omega)]; exact hw2, by rw [pk_un (by omega)]; exact hw3, by rw [pk_un (by omega)]; exact hw4, pk_us⟩
  have hw5 : s 37 = wh := hW.2.2.2.2
  have hRu : ∀ j, j ≠ 37 → upd s 37 x1 j = s j := fun j hj => pk_un hj
  have hst : StR (9600 * (t + 1)) (rate, F, L, U, sg, wd, hd, cell, waits, bits, held, readings, broken, errors, jumps, streak, frame, number, user, course, wf, wc, wm, x1, p0, s0, o0, p1, s1, o1, p2, s2, o2) (upd s 37 x1) := StR_mk (TpR_c hT (fun j hj => hRu j (by omega))) (RdR_c hR' (fun j h1 h2 => hRu j (by omega)) (fun j h1 h2 => hRu j (by omega))) hW' (ChR_c hc0 (fun j h1 h2 => hRu j (by omega))) (ChR_c hc1 (fun j h1 h2 => hRu j (by omega))) (ChR_c hc2 (fun j h1 h2 => hRu j (by omega)))
  rcases inC x1 0 99 with ⟨e, hb⟩ | ⟨e, g1, g2, g3⟩
  · rw [e, cA hb]
    simp only [Option.bind_some, if_true]
    exact ⟨_, _, _, rfl, rfl, hm⟩
  rw [e, if_neg g1, if_pos g3]
  simp only [Option.bind_some, d10, if_false, nm]
  by_cases hrr : x1 = wh
  · have hr2 : s 37 = x1 := hw5.trans hrr.symm
    rw [if_pos hrr, if_pos hr2]
    exact ⟨_, _, _, rfl, rfl, hm⟩
  have hr2 : ¬ s 37 = x1 := fun h => hrr (h.symm.trans hw5)
  rw [if_neg hrr, if_neg hr2, a1, a2, hw5]
  simp only [Option.bind_some]
  exact ⟨_, _, _, rfl, rfl, hst, hH', hI', hS⟩
theorem back_lp {body : (Int32 × (Nat → Int32)) → Option ((Int32 × (Nat → Int32)) ⊕ (Nat → Int32))} {u : Nat} {src s : Nat → Int32} (hb : ∀ k, k < 95 → ∀ P : Nat → Int32, body (nI k, P) = some (.inl (nI (k + 1), upd P k (src (95 * u + k))))) (he : ∀ P : Nat → Int32, body (nI 95, P) = some (.inr P)) : ∃ s', lp body 100000 ((0 : Int32), s) = some s' ∧ ∀ i, i < 95 → s' i = src (95 * u + i) := by
  obtain ⟨r, h1, h2⟩ := lp_0 (body := body) (fun k w => w.1 = nI k ∧ ∀ i, i < k → w.2 i = src (95 * u + i)) (fun r => ∀ i, i < 95 → r i = src (95 * u + i)) 95 (by omega) (by
    intro k hk w hw
    obtain ⟨w1, P⟩ := w
    obtain ⟨rfl, hP⟩ := hw
    dsimp only at hP
    refine ⟨_, hb k hk P, rfl, ?_⟩
    intro i hi
    show upd P k (src (95 * u + k)) i = _
    by_cases hik : i = k
    · subst hik; rw [pk_us]
    · rw [pk_un hik]; exact hP i (by omega)) (by
    intro w hw
    obtain ⟨w1, P⟩ := w
    obtain ⟨rfl, hP⟩ := hw
    exact ⟨P, he P, hP⟩) (x := ((0 : Int32), s)) ⟨rfl, fun i hi => absurd hi (by omega)⟩
  exact ⟨r, h1, h2⟩
theorem sim_undo {t : Nat} (ht : t < 512) {σ : FV} {μ : MV} (h : Rel t σ μ) : ∃ (r : Int32) (σ' : FV) (μ' : MV), fcS_undo  σ = some (r, σ') ∧ mdS_undo  μ = some (r, μ') ∧ Rel (t + 1) σ' μ' := by
  obtain ⟨⟨rate, F, L, U, sg, wd, hd, cell, waits, bits, held, readings, broken, errors, jumps, streak, frame, number, user, course, wf, wc, wm, wh, p0, s0, o0, p1, s1, o1, p2, s2, o2⟩, next, known, R, Im, pl, sp, off, sn, sf, seen⟩ := σ
  obtain ⟨thrown, s, past, undos, kept, isk, seen', sn', sf'⟩ := μ
  have hm := rel_mono _ _ _ h
  obtain ⟨⟨hT, hR, hW, hc0, hc1, hc2⟩, hH, hI, hS⟩ := h
  dsimp only at hT hR hW hc0 hc1 hc2 hH hI hS
  have hI' := ImR_m hI (show 9600 * t ≤ 9600 * (t + 1) by omega)
  unfold fcS_undo mdS_undo f_X8_undo f_X9_undo f_X1_takeBack
  dsimp only
  obtain ⟨uu, x, hu, hx, rfl, rfl, rfl, hj⟩ := hH
  have ez : nI uu = (0 : Int32) ↔ uu = 0 := nI_eq (b := 0) (by omega) (by omega)
  have ez1 : nI uu < (1 : Int32) ↔ uu = 0 := by
    rw [show (1 : Int32) = nI 1 from rfl, nI_ltI (by omega) (by omega)]; omega
  obtain ⟨slot, hslot, hfl⟩ : ∃ slot, slot = (x + 7) % 8 ∧ f_J9_floorMod_7cf53 (nI x - 1) 8 = some (nI slot) := by
    refine ⟨_, rfl, ?_⟩
    rw [show (8 : Int32) = nI 8 from rfl, floor_eq _ (by omega) (by omega)]
    have : (nI x - 1).toInt = (x : Int) - 1 := sub_toInt (nI_toInt (by omega)) rfl (by omega) (by omega)
    rw [this]
    unfold md
    congr 2
    omega
  rw [hfl, Option.bind_some, gd_nI (by omega) (by omega), nI_clamp (by omega)]
  by_cases h0 : uu = 0
  · rw [if_pos (ez.mpr h0)]
    have fin : ∃ (r_1 : Int32) (σ' : FV) (μ' : MV), some ((-2 : Int32), ((rate, F, L, U, sg, wd, hd, cell, waits, bits, held, readings, broken, errors, jumps, streak, frame, number, user, course, wf, wc, wm, wh, p0, s0, o0, p1, s1, o1, p2, s2, o2), nI x, nI uu, R, Im, pl, sp, off, sn, sf, seen)) = some (r_1, σ') ∧ some ((-2 : Int32), ((0 : Int32), s, past, nI uu, kept, isk, seen', sn', sf')) = some (r_1, μ') ∧ Rel (t + 1) σ' μ' := ⟨_, _, _, rfl, rfl, hm⟩
    cases hRs : R slot with
    | none =>
      unfold f_X1_takeBack_19n
      rw [if_pos (ez1.mpr h0)]
      simp only [Option.bind_some, if_true]
      exact fin
    | some v =>
      dsimp only
      unfold f_X1_takeBack_19
      rw [if_pos (ez1.mpr h0)]
      simp only [Option.bind_some, if_true]
      exact fin
  · rw [if_neg (fun h => h0 (ez.mp h))]
    obtain ⟨v, v1, v2⟩ := hj (uu - 1) (by omega)
    have i1 : (x + 8 - uu + (uu - 1)) % 8 = slot := by omega
    rw [i1] at v1
    rw [v1]
    dsimp only
    unfold f_X1_takeBack_19
    rw [if_neg (fun h => h0 (ez1.mp h))]
    simp only [f_X4_copy, f_X5_copy, f_X3_copy, f_X6_copy, f_X0_copy, nm, Option.bind_some, d10, if_false]
    rw [show nI uu - (1 : Int32) = nI (uu - 1) from sub_nI (b := 1) (by omega)]
    obtain ⟨s', b1, b2⟩ := back_lp (body := fb_X9_undo_27 0 past (nI (uu - 1))) (u := uu - 1) (src := past) (s := s) (fun k hk P => by
      unfold fb_X9_undo_27
      simp only [nm]
      rw [if_neg (show ¬ (95 : Int32) ≤ nI k from nI_ge (b := 95) hk (by omega)), ix95, gd_nI (by omega) (by omega), gd_nI (by omega) (by omega), nI_clamp (by omega), nI_clamp (by omega), nI_1]) (fun P => by unfold fb_X9_undo_27; rfl)
    rw [b1, Option.bind_some]
    have hst : StR (9600 * (t + 1)) (cpV v (rate, F, L, U, sg, wd, hd, cell, waits, bits, held, readings, broken, errors, jumps, streak, frame, number, user, course, wf, wc, wm, wh, p0, s0, o0, p1, s1, o1, p2, s2, o2)) s' := StR_c (StR_cp (StR_m v2 (by omega))) (fun i hi => b2 i hi)
    refine ⟨_, _, _, rfl, rfl, hst, ⟨uu - 1, slot, by omega, by omega, rfl, rfl, rfl, fun j hjj => ?_⟩, hI', hS⟩
    obtain ⟨y, y1, y2⟩ := hj j (by omega)
    have i2 : (slot + 8 - (uu - 1) + j) % 8 = (x + 8 - uu + j) % 8 := by omega
    exact ⟨y, by rw [i2]; exact y1, StR_m y2 (by omega)⟩
theorem sim_keep {t : Nat} (ht : t < 512) (x1 : Int32) {σ : FV} {μ : MV} (h : Rel t σ μ) : ∃ (r : Int32) (σ' : FV) (μ' : MV), fcS_keep x1 σ = some (r, σ') ∧ mdS_keep x1 μ = some (r, μ') ∧ Rel (t + 1) σ' μ' := by
  obtain ⟨⟨rate, F, L, U, sg, wd, hd, cell, waits, bits, held, readings, broken, errors, jumps, streak, frame, number, user, course, wf, wc, wm, wh, p0, s0, o0, p1, s1, o1, p2, s2, o2⟩, next, known, R, Im, pl, sp, off, sn, sf, seen⟩ := σ
  obtain ⟨thrown, s, past, undos, kept, isk, seen', sn', sf'⟩ := μ
  have hm := rel_mono _ _ _ h
  obtain ⟨⟨hT, hR, hW, hc0, hc1, hc2⟩, hH, hI, hS⟩ := h
  dsimp only at hT hR hW hc0 hc1 hc2 hH hI hS
  unfold fcS_keep mdS_keep f_X8_keep f_X9_keep
  dsimp only
  simp only [lt2]
  rcases inC x1 0 1 with ⟨e, hb⟩ | ⟨e, g1, g2, g3⟩
  · rw [e, cA hb]
    simp only [Option.bind_some, if_true]
    exact ⟨_, _, _, rfl, rfl, hm⟩
  rw [e, if_neg g1, if_pos g3]
  simp only [Option.bind_some, d10, if_false, nm]
  obtain ⟨x, hx, rfl⟩ := nI_of2 (M := 1) (n := 1) rfl g1 g3
  rw [gd_nI (show x < 2 by omega) (by omega), nI_clamp (show x < 2 ^ 31 by omega)]
  obtain ⟨q, q1, q2⟩ := lp_0 (body := fb_X9_keep_18 (nI x) 0 s isk) (fun k w => w.1 = nI k ∧ ∀ i, w.2 i = if 95 * x ≤ i ∧ i < 95 * x + k then s (i - 95 * x) else kept i) (fun r => ∀ i, r i = if 95 * x ≤ i ∧ i < 95 * x + 95 then s (i - 95 * x) else kept i) 95 (by omega) (by
    intro k hk w hw
    obtain ⟨w1, P⟩ := w
    obtain ⟨rfl, hP⟩ := hw
    dsimp only at hP
    refine ⟨(nI (k + 1), upd P (95 * x + k) (s k)), ?_, rfl, ?_⟩
    · unfold fb_X9_keep_18
      simp only [nm]
      rw [if_neg (show ¬ (95 : Int32) ≤ nI k from nI_ge (b := 95) hk (by omega)), gd_nI hk (by omega), ix95, gd_nI (by omega) (by omega), nI_clamp (by omega), nI_clamp (by omega), nI_1]
    · intro i
      show upd P (95 * x + k) (s k) i = _
      by_cases hi : i = 95 * x + k
      · subst hi; rw [pk_us, if_pos (by omega), show 95 * x + k - 95 * x = k by omega]
      · rw [pk_un hi, hP i]
        by_cases h3 : 95 * x ≤ i ∧ i < 95 * x + k
        · rw [if_pos h3, if_pos (by omega)]
        · rw [if_neg h3, if_neg (by omega)]) (by
    intro w hw
    obtain ⟨w1, P⟩ := w
    obtain ⟨rfl, hP⟩ := hw
    exact ⟨P, by unfold fb_X9_keep_18; rfl, hP⟩) (x := ((0 : Int32), kept)) ⟨rfl, fun i => by rw [if_neg (by omega)]⟩
  rw [q1, Option.bind_some, gd_nI (show x < 2 by omega) (by omega)]
  have hseg : s 1 = sg := by obtain ⟨r, n, W, hh, f, l, u, _, _, _, _, _, h6, _, _, _, h10, _⟩ := hT; rw [h10, h6]
  have hst : StR (9600 * t) (rate, F, L, U, sg, wd, hd, cell, waits, bits, held, readings, broken, errors, jumps, streak, frame, number, user, course, wf, wc, wm, wh, p0, s0, o0, p1, s1, o1, p2, s2, o2) s := ⟨hT, hR, hW, hc0, hc1, hc2⟩
  unfold f_X8_keep_41
  simp only [f_X4_copy, f_X5_copy, f_X3_copy, f_X6_copy, f_X0_copy, nm, Option.bind_some]
  rw [hseg]
  refine ⟨_, _, _, rfl, rfl, StR_m hst (by omega), HsR_m hH (by omega), fun i hi => ?_, hS⟩
  by_cases hix : i = x
  · subst hix
    refine .inr ⟨?_, cpV (rate, F, L, U, sg, wd, hd, cell, waits, bits, held, readings, broken, errors, jumps, streak, frame, number, user, course, wf, wc, wm, wh, p0, s0, o0, p1, s1, o1, p2, s2, o2) ((Im i).getD sv0), va_us, StR_c (StR_cp (StR_m hst (by omega))) (fun k hk => ?_)⟩
    · show upd isk i (vp_nar .boolean (1 : Int32)) i = 1
      rw [pk_us]; rfl
    · show q (95 * i + k) = s k
      rw [q2, if_pos (by omega), show 95 * i + k - 95 * i = k by omega]
  · have e1 : upd isk x (vp_nar .boolean (1 : Int32)) i = isk i := pk_un hix
    rcases hI i hi with ⟨h1, h2⟩ | ⟨h1, v, h2, h3⟩
    · refine .inl ⟨?_, ?_⟩
      · show upd isk x (vp_nar .boolean (1 : Int32)) i = 0
        rw [e1]; exact h1
      · show va_up Im x _ i = none
        rw [va_un hix]; exact h2
    · refine .inr ⟨?_, v, ?_, StR_c (StR_m h3 (by omega)) (fun k hk => ?_)⟩
      · show upd isk x (vp_nar .boolean (1 : Int32)) i = 1
        rw [e1]; exact h1
      · show va_up Im x _ i = some v
        rw [va_un hix]; exact h2
      · show q (95 * i + k) = kept (95 * i + k)
        rw [q2, if_neg (by omega)]
theorem sim_back {t : Nat} (ht : t < 512) (x1 : Int32) {σ : FV} {μ : MV} (h : Rel t σ μ) : ∃ (r : Int32) (σ' : FV) (μ' : MV), fcS_back x1 σ = some (r, σ') ∧ mdS_back x1 μ = some (r, μ') ∧ Rel (t + 1) σ' μ' := by
  obtain ⟨⟨rate, F, L, U, sg, wd, hd, cell, waits, bits, held, readings, broken, errors, jumps, streak, frame, number, user, course, wf, wc, wm, wh, p0, s0, o0, p1, s1, o1, p2, s2, o2⟩, next, known, R, Im, pl, sp, off, sn, sf, seen⟩ := σ
  obtain ⟨thrown, s, past, undos, kept, isk, seen', sn', sf'⟩ := μ
  have hm := rel_mono _ _ _ h
  obtain ⟨⟨hT, hR, hW, hc0, hc1, hc2⟩, hH, hI, hS⟩ := h
  dsimp only at hT hR hW hc0 hc1 hc2 hH hI hS
  unfold fcS_back mdS_back f_X8_back f_X9_back
  dsimp only
  simp only [lt2]
  rcases inC x1 0 1 with ⟨e, hb⟩ | ⟨e, g1, g2, g3⟩
  · rw [e, cA hb]
    simp only [Option.bind_some, if_true]
    exact ⟨_, _, _, rfl, rfl, hm⟩
  rw [e, if_neg g1, if_pos g3]
  simp only [Option.bind_some, d10, if_false, nm]
  obtain ⟨x, hx, rfl⟩ := nI_of2 (M := 1) (n := 1) rfl g1 g3
  rw [gd_nI (show x < 2 by omega) (by omega), gd_nI (show x < 2 by omega) (by omega), nI_clamp (show x < 2 ^ 31 by omega)]
  rcases hI x (by omega) with ⟨h1, h2⟩ | ⟨h1, v, h2, h3⟩
  · rw [h2, if_pos h1]
    exact ⟨_, _, _, rfl, rfl, hm⟩
  rw [h2, if_neg (show ¬ isk x = 0 by rw [h1]; decide)]
  dsimp only
  unfold f_X8_back_22
  simp only [f_X4_copy, f_X5_copy, f_X3_copy, f_X6_copy, f_X0_copy, nm, Option.bind_some]
  obtain ⟨s', b1, b2⟩ := back_lp (body := fb_X9_back_30 (nI x) 0 undos kept isk) (u := x) (src := kept) (s := s) (fun k hk P => by
    unfold fb_X9_back_30
    simp only [nm]
    rw [if_neg (show ¬ (95 : Int32) ≤ nI k from nI_ge (b := 95) hk (by omega)), ix95, gd_nI (by omega) (by omega), gd_nI (by omega) (by omega), nI_clamp (by omega), nI_clamp (by omega), nI_1]) (fun P => by unfold fb_X9_back_30; rfl)
  rw [b1, Option.bind_some]
  have hst : StR (9600 * (t + 1)) (cpV v (rate, F, L, U, sg, wd, hd, cell, waits, bits, held, readings, broken, errors, jumps, streak, frame, number, user, course, wf, wc, wm, wh, p0, s0, o0, p1, s1, o1, p2, s2, o2)) s' := StR_c (StR_cp (StR_m h3 (by omega))) (fun i hi => b2 i hi)
  have hseg : s' 1 = v.2.2.2.2.1 := by obtain ⟨⟨r, n, W, hh, f, l, u, _, _, _, _, _, h6, _, _, _, h10, _⟩, _⟩ := hst; rw [h10]; exact h6.symm
  rw [hseg]
  obtain ⟨uu, y, hu, hy, _, _, hn, _⟩ := hH
  exact ⟨_, _, _, rfl, rfl, hst, ⟨0, y, by omega, hy, rfl, rfl, hn, fun j hjj => absurd hjj (by omega)⟩, ImR_m hI (by omega), hS⟩
theorem sim_plays {t : Nat} (ht : t < 512) (x1 x2 x3 x4 : Int32) {σ : FV} {μ : MV} (h : Rel t σ μ) : ∃ (r : Int32) (σ' : FV) (μ' : MV), fcS_plays x1 x2 x3 x4 σ = some (r, σ') ∧ mdS_plays x1 x2 x3 x4 μ = some (r, μ') ∧ Rel (t + 1) σ' μ' := by
  obtain ⟨⟨rate, F, L, U, sg, wd, hd, cell, waits, bits, held, readings, broken, errors, jumps, streak, frame, number, user, course, wf, wc, wm, wh, p0, s0, o0, p1, s1, o1, p2, s2, o2⟩, next, known, R, Im, pl, sp, off, sn, sf, seen⟩ := σ
  obtain ⟨thrown, s, past, undos, kept, isk, seen', sn', sf'⟩ := μ
  have hm := rel_mono _ _ _ h
  obtain ⟨⟨hT, hR, hW, hc0, hc1, hc2⟩, hH, hI, hS⟩ := h
  dsimp only at hT hR hW hc0 hc1 hc2 hH hI hS
  obtain ⟨nx, kn, R', past', un, a1, a2, a3⟩ := add_notes (v := (rate, F, L, U, sg, wd, hd, cell, waits, bits, held, readings, broken, errors, jumps, streak, frame, number, user, course, wf, wc, wm, wh, p0, s0, o0, p1, s1, o1, p2, s2, o2)) hH ⟨hT, hR, hW, hc0, hc1, hc2⟩
  have hH' := HsR_m a3 (show 9600 * t ≤ 9600 * (t + 1) by omega)
  have hI' := ImR_m hI (show 9600 * t ≤ 9600 * (t + 1) by omega)
  have hR' := RdR_m hR (show 9600 * t ≤ 9600 * (t + 1) by omega)
  have hTk := hT
  obtain ⟨r, n, W, hh, f, l, u, hr, hn, hWW, hhW, rfl, rfl, rfl, rfl, e0, e1, e20, hk⟩ := hT
  obtain ⟨tp, hWb⟩ := tape0 hn hWW e1 hk
  unfold fcS_plays mdS_plays f_X8_plays f_X9_plays f_X5_bitsInAll
  dsimp only
  rcases inC x1 1 4800 with ⟨e, hb⟩ | ⟨e, g1, g2, g3⟩
  · rw [e, cB hb]
    simp only [Option.bind_some, if_true]
    exact ⟨_, _, _, rfl, rfl, hm⟩
  rw [e, if_neg g1, if_neg g2]
  simp only [Option.bind_some, d10, if_false]
  rcases inC x2 1 200 with ⟨e, hb⟩ | ⟨e, g1', g2', g3'⟩
  · rw [e, cB hb]
    simp only [Option.bind_some, if_true]
    exact ⟨_, _, _, rfl, rfl, hm⟩
  rw [e, if_neg g1', if_neg g2']
  simp only [Option.bind_some, d10, if_false]
  rcases inC x3 0 9 with ⟨e, hb⟩ | ⟨e, g1', g2', g3'⟩
  · rw [e, cB hb]
    simp only [Option.bind_some, if_true]
    exact ⟨_, _, _, rfl, rfl, hm⟩
  rw [e, if_neg g1', if_neg g2']
  simp only [Option.bind_some, d10, if_false]
  rcases inC x4 0 1 with ⟨e, hb⟩ | ⟨e, k1, k2, k3⟩
  · rw [e, cA hb]
    simp only [Option.bind_some, if_true]
    exact ⟨_, _, _, rfl, rfl, hm⟩
  rw [e, if_neg k1, if_pos k3]
  simp only [Option.bind_some, d10, if_false]
  obtain ⟨d, hd1, rfl⟩ := nI_of2 (M := 1) (n := 1) rfl k1 k3
  obtain ⟨x, hx, rfl⟩ := nI_of2 (M := 4800) (n := 4800) rfl (fun h => g1 (lt_iff.mpr (by have := lt_iff.mp h; have h2 : (0 : Int32).toInt = 0 := rfl; have h3 : (1 : Int32).toInt = 1 := rfl; omega))) g3
  have main : ∀ Y : Nat, ((d = 0 ∧ Y + hh = 48 * W) ∨ (d = 1 ∧ Y = hh)) → ∃ (r_1 : Int32) (σ' : FV) (μ' : MV), ((f_X8_plays_87 (nI x) x2 x3 (nI d) (nI Y) (nI r) F L U (nI n) (nI W) (nI hh) cell waits bits held readings broken errors jumps streak frame number user course wf wc wm wh p0 s0 o0 p1 s1 o1 p2 s2 o2 next known R).bind fun q => some (q.1, ((nI r, F, L, U, nI n, nI W, q.2.1, q.2.2.1, q.2.2.2.1, q.2.2.2.2.1, q.2.2.2.2.2.1, q.2.2.2.2.2.2.1, q.2.2.2.2.2.2.2.1, q.2.2.2.2.2.2.2.2.1, q.2.2.2.2.2.2.2.2.2.1, q.2.2.2.2.2.2.2.2.2.2.1, q.2.2.2.2.2.2.2.2.2.2.2.1, q.2.2.2.2.2.2.2.2.2.2.2.2.1, q.2.2.2.2.2.2.2.2.2.2.2.2.2.1, q.2.2.2.2.2.2.2.2.2.2.2.2.2.2.1, q.2.2.2.2.2.2.2.2.2.2.2.2.2.2.2.1, q.2.2.2.2.2.2.2.2.2.2.2.2.2.2.2.2.1, q.2.2.2.2.2.2.2.2.2.2.2.2.2.2.2.2.2.1, wh, p0, s0, o0, p1, s1, o1, p2, s2, o2), q.2.2.2.2.2.2.2.2.2.2.2.2.2.2.2.2.2.2.1, q.2.2.2.2.2.2.2.2.2.2.2.2.2.2.2.2.2.2.2.1, q.2.2.2.2.2.2.2.2.2.2.2.2.2.2.2.2.2.2.2.2, Im, pl, sp, off, sn, sf, seen))) = some (r_1, σ') ∧ ((f_X9_plays_76 (nI x) x2 x3 (nI d) (nI Y) 0 s past undos).bind fun q => some (q.1, (q.2.1, q.2.2.1, q.2.2.2.1, q.2.2.2.2, kept, isk, seen', sn', sf'))) = some (r_1, μ') ∧ Rel (t + 1) σ' μ' := by
    intro Y hY
    unfold f_X8_plays_87 f_X9_plays_76
    have eY : nI Y = (0 : Int32) ↔ Y = 0 := nI_eq (b := 0) (by omega) (by omega)
    have eY1 : (1 : Int32) ≤ nI Y ↔ ¬ Y = 0 := by
      rw [show (1 : Int32) = nI 1 from rfl, nI_leI (by omega) (by omega)]; omega
    simp only [eY, eY1]
    by_cases hY0 : Y = 0
    · rw [if_neg (fun h => h hY0), if_pos hY0]
      simp only [Option.bind_some]
      exact ⟨_, _, _, rfl, rfl, hm⟩
    rw [if_pos hY0, if_neg hY0, a1, a2]
    simp only [Option.bind_some, nm]
    have hmin : q_min (nI x) (nI Y) = nI (min x Y) := by
      unfold q_min
      have e : nI Y < nI x ↔ Y < x := nI_ltI (by omega) (by omega)
      simp only [e]
      split
      · rw [show min x Y = Y by omega]
      · rw [show min x Y = x by omega]
    have hmin2 : (if nI Y ≤ nI x then f_X9_plays_102 x2 x3 (nI d) (nI Y) 0 s past' un else f_X9_plays_102 x2 x3 (nI d) (nI x) 0 s past' un) = f_X9_plays_102 x2 x3 (nI d) (nI (min x Y)) 0 s past' un := by
      have e : nI Y ≤ nI x ↔ Y ≤ x := nI_leI (by omega) (by omega)
      simp only [e]
      split
      · rw [show min x Y = Y by omega]
      · rw [show min x Y = x by omega]
    rw [hmin, hmin2]
    unfold f_X9_plays_102
    have hx4 : (nI d = (0 : Int32) ∧ hh + min x Y ≤ 48 * sm l n) ∨ (nI d = (1 : Int32) ∧ min x Y ≤ hh) := by
      rcases hY with ⟨h1, h2⟩ | ⟨h1, h2⟩
      · exact .inl ⟨by rw [h1]; rfl, by rw [← hWW]; omega⟩
      · exact .inr ⟨by rw [h1]; rfl, by omega⟩
    obtain ⟨q', s', h', b1, b2, b3, b4, b5, b6, b7⟩ := play_eq (q := (cell, waits, bits, held, readings, broken, errors, jumps, streak, frame, number, user, course, wf, wc, wm)) (x2 := x2) (x3 := x3) (x4 := nI d) (thrown := 0) (undos := un) (past := past') hr hn (show 9600 * t + 9700 < 2 ^ 31 by omega) e0 e20 hk (by rw [← hWW]; exact hhW) (show min x Y ≤ 4800 by omega) hx4 hR hW
    dsimp only at b1
    have hd' : (if nI d = (1 : Int32) then (f_X4_play (nI (min x Y)) x2 x3 (1 : Int32) (nI r) F L U (nI n) (nI hh) cell waits bits held readings broken errors jumps streak frame number user course wf wc wm) else (f_X4_play (nI (min x Y)) x2 x3 (0 : Int32) (nI r) F L U (nI n) (nI hh) cell waits bits held readings broken errors jumps streak frame number user course wf wc wm)) = some (nI h', q') := by
      rcases hx4 with ⟨h1, _⟩ | ⟨h1, _⟩
      · rw [h1, if_neg (by decide)]; rw [h1] at b1; exact b1
      · rw [h1, if_pos rfl]; rw [h1] at b1; exact b1
    have hst : TpR (nI r) F L U (nI n) (nI W) (nI h') s' := by
      refine ⟨r, n, W, h', f, l, u, hr, hn, hWW, by rw [hWW]; exact b3, rfl, rfl, rfl, rfl, by rw [b5 _ (by omega)]; exact e0, by rw [b5 _ (by omega)]; exact e1, b4, fun k hkn => ?_⟩
      rw [b5 (2 + 3 * k) (by omega), b5 (2 + 3 * k + 1) (by omega), b5 (2 + 3 * k + 2) (by omega)]
      exact hk k hkn
    rw [b2, Option.bind_some]
    have fin : ∀ P : Option (Int32 × Q16), P = some (nI h', q') → ∃ (r_1 : Int32) (σ' : FV) (μ' : MV), ((P.bind fun r17 => some (nI (min x Y), r17.1, r17.2.1, r17.2.2.1, r17.2.2.2.1, r17.2.2.2.2.1, r17.2.2.2.2.2.1, r17.2.2.2.2.2.2.1, r17.2.2.2.2.2.2.2.1, r17.2.2.2.2.2.2.2.2.1, r17.2.2.2.2.2.2.2.2.2.1, r17.2.2.2.2.2.2.2.2.2.2.1, r17.2.2.2.2.2.2.2.2.2.2.2.1, r17.2.2.2.2.2.2.2.2.2.2.2.2.1, r17.2.2.2.2.2.2.2.2.2.2.2.2.2.1, r17.2.2.2.2.2.2.2.2.2.2.2.2.2.2.1, r17.2.2.2.2.2.2.2.2.2.2.2.2.2.2.2.1, r17.2.2.2.2.2.2.2.2.2.2.2.2.2.2.2.2, nx, kn, R')).bind fun q => some (q.1, ((nI r, F, L, U, nI n, nI W, q.2.1, q.2.2.1, q.2.2.2.1, q.2.2.2.2.1, q.2.2.2.2.2.1, q.2.2.2.2.2.2.1, q.2.2.2.2.2.2.2.1, q.2.2.2.2.2.2.2.2.1, q.2.2.2.2.2.2.2.2.2.1, q.2.2.2.2.2.2.2.2.2.2.1, q.2.2.2.2.2.2.2.2.2.2.2.1, q.2.2.2.2.2.2.2.2.2.2.2.2.1, q.2.2.2.2.2.2.2.2.2.2.2.2.2.1, q.2.2.2.2.2.2.2.2.2.2.2.2.2.2.1, q.2.2.2.2.2.2.2.2.2.2.2.2.2.2.2.1, q.2.2.2.2.2.2.2.2.2.2.2.2.2.2.2.2.1, q.2.2.2.2.2.2.2.2.2.2.2.2.2.2.2.2.2.1, wh, p0, s0, o0, p1, s1, o1, p2, s2, o2), q.2.2.2.2.2.2.2.2.2.2.2.2.2.2.2.2.2.2.1, q.2.2.2.2.2.2.2.2.2.2.2.2.2.2.2.2.2.2.2.1, q.2.2.2.2.2.2.2.2.2.2.2.2.2.2.2.2.2.2.2.2, Im, pl, sp, off, sn, sf, seen))) = some (r_1, σ') ∧ some (nI (min x Y), ((0 : Int32), s', past', un, kept, isk, seen', sn', sf')) = some (r_1, μ') ∧ Rel (t + 1) σ' μ' := by
      intro P hP
      subst hP
      exact ⟨_, _, _, rfl, rfl, ⟨hst, RdR_m b6 (by omega), b7, ChR_c hc0 (fun j h1 h2 => b5 j (by omega)), ChR_c hc1 (fun j h1 h2 => b5 j (by omega)), ChR_c hc2 (fun j h1 h2 => b5 j (by omega))⟩, hH', hI', hS⟩
    simp only [Option.bind_some]
    by_cases hd1' : nI d = (1 : Int32)
    · rw [if_pos hd1'] at hd' ⊢
      exact fin _ hd'
    · rw [if_neg hd1'] at hd' ⊢
      exact fin _ hd'
  have ed1 : nI d = (1 : Int32) ↔ d = 1 := nI_eq (b := 1) (by omega) (by omega)
  have ed0 : nI d = (0 : Int32) ↔ d = 0 := nI_eq (b := 0) (by omega) (by omega)
  by_cases hd0 : d = 0
  · rw [if_neg (fun h => absurd (ed1.mp h) (by omega)), if_pos (ed0.mpr hd0), tp, Option.bind_some, e20, show (48 : Int32) * nI W = nI (48 * W) from pk_mul 48 W, sub_nI hhW]
    exact main (48 * W - hh) (.inl ⟨hd0, by omega⟩)
  · rw [if_pos (ed1.mpr (by omega)), if_neg (fun h => hd0 (ed0.mp h)), e20]
    exact main hh (.inr ⟨by omega, rfl⟩)
